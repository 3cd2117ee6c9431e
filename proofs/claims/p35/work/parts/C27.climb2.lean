/-! reading by climbing: the class, calls and all -/
theorem p10 {σ : xM} : ¬ ((1 : Int32), σ).1 = 0 := (by decide : ¬ (1 : Int32) = 0)
theorem st_f {H : List Hd} {B : List Oe} {L : List Ln} : ¬ ((H, B, L, false) : PS).2.2.2 = true := Bool.false_ne_true
section CLN
variable {I : Nat → Nat → Int32} {J : Nat → Nat → Int64} {R : Nat → Nat → Option Nat} {b : GB} {W : Nat → Wd} {P : Nat → Nat} {m k n F d v least : Nat} {fin : List Ln} {H : List Hd} {B : List Oe} {L : List Ln} {o : Oe} {β : Type}
theorem C_climbArgs (hR : RA R) (hO : TbOK b) (hih : CIH J R b W P m fin n) (hF : F + 1 + H.length = 200) (hn : m - k ≤ n + 1) (hk : k + 1 < m) (hW : CWd I m W P (fun _ => false)) (hC : CTb I b) (h7 : I 540 7 = (Int32.ofNat (k + 1))) (hL : CN I 551 L.length (lnF L)) (ha : acc (run b (vs W m (k + 2)) (stF v (H, B, L, true))) = some fin) (hd : dOk b (vs W m (k + 2)) (stF v (H, B, L, true))) (h80 : L.length + (1 + wgt H) + nws (vs W m (k + 2)) ≤ 80) : QK (f_X6_climbArguments (fr_X6_climb F) (mg (4562 + zn J) I J R) 540 (Int32.ofNat (v)) (Int32.ofNat (H.length))) (fun y => ∃ I' k' sz L', y = ((1 : Int32), mg (4562 + zn J) I' J R) ∧ FrK Fcl I I' ∧ k < k' ∧ k' ≤ m ∧ I' 540 7 = (Int32.ofNat (k')) ∧ CN I' 551 L'.length (lnF L') ∧ acc (run b (vs W m k') (H, (0, sz) :: B, L', false)) = some fin ∧ dOk b (vs W m k') (H, (0, sz) :: B, L', false) ∧ L'.length + wgt H + nws (vs W m k') ≤ 80) := by
  have m300 := hW.1
  have wc : ∀ c, wgt ((1, v, 0, c) :: H) = 1 + wgt H := fun c => by
    rw [wgt_c]
    rfl
  unfold f_X6_climbArguments
  rw [if_pos ok_540, C_tk hR hW h7 (by omega), q_let]
  dsimp only
  refine q_bind (P := fun x => ∃ I' k' c Es o L', x = .inr (.inr (.inl (540, (Int32.ofNat (v)), (Int32.ofNat (c)), mg (4562 + zn J) I' J R))) ∧ 1 ≤ c ∧ c ≤ 4 ∧ Es.length = c - 1 ∧ FrK Fcl I I' ∧ k < k' ∧ k' ≤ m ∧ I' 540 7 = (Int32.ofNat (k')) ∧ CN I' 551 L'.length (lnF L') ∧ (∀ q : List Oe, q = (o :: Es) ++ B → acc (run b (vs W m k') (H, (0, szs (q.take c) + 1) :: q.drop c, (((2, (Int32.ofNat (v)), -1, c) : Nd), szs (q.take c) + 1) :: L', false)) = some fin ∧ dOk b (vs W m k') (H, (0, szs (q.take c) + 1) :: q.drop c, (((2, (Int32.ofNat (v)), -1, c) : Nd), szs (q.take c) + 1) :: L', false)) ∧ L'.length + (1 + wgt H) + nws (vs W m k') ≤ 80) ?_ ?_
  · refine q_for 5 (fun c s => c ≤ 4 ∧ 1 ≤ c ∧ ∃ I1 k1 Es L1, s = (540, (Int32.ofNat (v)), (Int32.ofNat (H.length)), (Int32.ofNat (c)), mg (4562 + zn J) I1 J R) ∧ Es.length = c - 1 ∧ FrK Fcl I I1 ∧ k + 1 < k1 ∧ k1 ≤ m ∧ I1 540 7 = (Int32.ofNat (k1)) ∧ CN I1 551 L1.length (lnF L1) ∧ acc (run b (vs W m k1) ((1, v, 0, c) :: H, Es ++ B, L1, true)) = some fin ∧ dOk b (vs W m k1) ((1, v, 0, c) :: H, Es ++ B, L1, true) ∧ L1.length + (1 + wgt H) + nws (vs W m k1) ≤ 80) ?_ ?_ (i := 1) ⟨by decide, by decide, _, k + 2, [], L, rfl, rfl, FrK_up FrK_rfl (Or.inl ⟨rfl, rfl⟩), by omega, by omega, up_s, CN_keep hL (fun x g1 g2 => up_r (by omega)), ha, hd, h80⟩ (by omega) (by unfold xF; omega)
    rotate_left
    · rintro s ⟨c4, -⟩
      exact absurd c4 (by first | decide | omega)
    rintro c s hc ⟨c4, c1, I1, k1, Es, L1, rfl, el, f1, q1, q2, q3, q4, q5, q6, q7⟩
    have W1 := CWd_cl hW f1
    have C1 := CTb_cl hC f1
    unfold f_X6_climbArguments_s7
    dsimp only
    rw [q_let, q_let, q_let, q_let, q_let, if_neg (show ¬ (4 : Int32) < (Int32.ofNat (c)) from fun y => absurd ((i32_lt (k := 4) (by omega) (by omega)).mp y) (by omega)), if_pos ok_540, show (Int32.ofNat (H.length)) + (1 : Int32) = (Int32.ofNat (H.length + 1)) from n_add _ 1]
    have hc1 := hih k1 ((1, v, 0, c) :: H) (Es ++ B) L1 I1 1 F (by omega) q2 (by rw [List.length_cons]; omega) W1 C1 q3 q4 q5 q6 (by first | decide | omega) (by first | decide | omega) (fun h t e => by
      rw [← (List.cons.inj e).1]
      exact Nat.zero_le _) (by rw [wc]; exact q7)
    rw [List.length_cons] at hc1
    refine q_bind hc1 ?_
    rintro _ ⟨I2, k2, o2, L2, rfl, f2, g1, g2, g3, g4, g5, g6, g7, g8⟩
    rw [wc] at g8
    have W2 := CWd_cl W1 f2
    have f12 := FrK_tr f1 f2
    rw [if_neg p10]
    dsimp only
    rw [if_pos ok_540, C_tk hR W2 g3 g2]
    dsimp only
    have f3 : FrK Fcl I (up I2 540 7 (Int32.ofNat (k2 + 1))) := FrK_up f12 (Or.inl ⟨rfl, rfl⟩)
    have W3 := CWd_cl hW f3
    rw [if_pos ok_540, C_kindAt hR W3 (by omega)]
    by_cases zk : k2 < m
    rotate_left
    · rw [show k2 = m by omega, vs_e] at g5
      cases g5
    have ew : vs W m k2 = (k2, W k2) :: vs W m (k2 + 1) := vs_c zk
    rw [ew] at g5 g6 g7 g8
    obtain ⟨-, -, -, wok⟩ := CWd_v W2 zk
    have k8 : (W k2).1 ≤ 8 := by rcases wok with y | y | y | y <;> omega
    obtain ⟨st, est, ast⟩ := acc_n g5 (isCl_f rfl _)
    have dst := dOk_n g6 (isCl_f rfl _) est
    rw [nws_pos] at g8
    rw [if_pos zk]
    unfold stA at est
    rw [if_neg st_f] at est
    dsimp only at est
    by_cases z3 : (W k2).1 = 3
    · rw [if_pos z3, ends_0 g7 rfl z3] at est
      cases est
    rw [if_neg z3] at est
    by_cases z5 : (W k2).1 = 5
    · rw [if_pos z5] at est
      have est : some (H, (0, szs ((o2 :: (Es ++ B)).take c) + 1) :: (o2 :: (Es ++ B)).drop c, (((2, (Int32.ofNat (v)), -1, c) : Nd), szs ((o2 :: (Es ++ B)).take c) + 1) :: L2, false) = some st := est
      have es := (Option.some.inj est).symm
      rw [es] at ast dst
      rw [if_pos (show (Int32.ofNat ((W k2).1)) = (5 : Int32) by rw [z5]; rfl)]
      refine q_ex ⟨_, k2 + 1, c, Es, o2, L2, rfl, c1, c4, el, f3, by omega, by omega, up_s, CN_keep g4 (fun x g1 g2 => up_r (by omega)), ?_, by omega⟩
      rintro q rfl
      exact ⟨ast, dst⟩
    rw [if_neg z5] at est
    by_cases z6 : (W k2).1 = 6
    · rw [if_pos z6] at est
      have est : (if (1 : Nat) = 1 ∧ c < 4 then some (((1, v, 0, c + 1) :: H, o2 :: (Es ++ B), L2, true) : PS) else none) = some st := est
      by_cases c3 : c < 4
      · rw [if_pos ⟨rfl, c3⟩] at est
        have es := (Option.some.inj est).symm
        rw [es] at ast dst
        rw [if_neg (show ¬ (Int32.ofNat ((W k2).1)) = (5 : Int32) from i32_ne (b := 5) (by omega) (by omega) z5), if_pos (show (Int32.ofNat ((W k2).1)) = (6 : Int32) by rw [z6]; rfl), q_let, show (Int32.ofNat (c)) + (1 : Int32) = (Int32.ofNat (c + 1)) from n_add c 1]
        exact q_go ⟨by omega, by omega, _, k2 + 1, o2 :: Es, L2, rfl, by rw [List.length_cons]; omega, f3, by omega, by omega, up_s, CN_keep g4 (fun x g1 g2 => up_r (by omega)), ast, dst, by omega⟩
      · rw [if_neg (fun y => c3 y.2)] at est
        cases est
    rw [if_neg z6] at est
    cases est
  · rintro _ ⟨I1, k1, c, Es, o1, L1, rfl, c1, c4, el, f1, q1, q2, q3, q4, q5, q6⟩
    simp only [Sum.elim_inr, Sum.elim_inl]
    unfold f_X6_climbArguments_j41
    rw [gr_540_17 hR, if_pos (bT_xk isTr_551)]
    refine q_bind (T_add (r := c) hR q4 (by omega) c4) ?_
    rintro _ ⟨I2, rfl, f2, L2⟩
    obtain ⟨a1, a2⟩ := q5 _ rfl
    have ed : ((o1 :: Es) ++ B).drop c = B := by
      have : (o1 :: Es).length = c := by rw [List.length_cons]; omega
      rw [← this]
      exact List.drop_left
    rw [ed] at a1 a2
    refine q_ok ⟨I2, k1, _, _, rfl, FrK_tr f1 (fun x j y => by rw [f2 x (fun w => y (Or.inr (by omega)))]), q1, q2, by rw [f2 540 (by omega)]; exact q3, ?_, a1, a2, ?_⟩
    · rw [← lnF_cons]
      exact L2
    · rw [List.length_cons]
      omega
theorem C_climb (hR : RA R) (hO : TbOK b) : ∀ n, CIH J R b W P m fin n := by
  intro n
  induction n with
  | zero =>
    intro k H B L I least F h1 h2 h3 hW hC h7 hL ha
    rw [show k = m by omega, vs_e] at ha
    cases ha
  | succ n ih =>
    intro k H B L I least F h1 h2 h3 hW hC h7 hL ha hd hl1 hl2 hH h80
    have m300 := hW.1
    by_cases zk : k < m
    rotate_left
    · rw [show k = m by omega, vs_e] at ha
      cases ha
    have ew : vs W m k = (k, W k) :: vs W m (k + 1) := vs_c zk
    rw [ew] at ha hd h80
    have hD : H.length ≤ 140 := dOk_d hd rfl
    obtain ⟨F, rfl⟩ : ∃ F', F = F' + 1 := ⟨F - 1, by omega⟩
    obtain ⟨-, v2, -, wok⟩ := CWd_v hW zk
    have k8 : (W k).1 ≤ 8 := by rcases wok with y | y | y | y <;> omega
    rw [nws_pos] at h80
    show QK (f_X6_climb_b (fr_X6_climb F) (mg (4562 + zn J) I J R) 540 (Int32.ofNat (least)) (Int32.ofNat (H.length))) _
    unfold f_X6_climb_b
    rw [if_pos ok_540, C_tk hR hW h7 h2]
    dsimp only
    have f1 : FrK Fcl I (up I 540 7 (Int32.ofNat (k + 1))) := FrK_up FrK_rfl (Or.inl ⟨rfl, rfl⟩)
    have t1 : up I 540 7 (Int32.ofNat (k + 1)) 540 7 = (Int32.ofNat (k + 1)) := up_s
    have L1 : CN (up I 540 7 (Int32.ofNat (k + 1))) 551 L.length (lnF L) := CN_keep hL (fun x g1 g2 => up_r (by omega))
    have W1 := CWd_cl hW f1
    have C1 := CTb_cl hC f1
    have v1 : up I 540 7 (Int32.ofNat (k + 1)) 542 k = wvI (W k) := (up_n (by omega)).trans v2
    generalize up I 540 7 (Int32.ofNat (k + 1)) = I1 at *
    rw [if_pos ok_540, C_kindAt hR W1 (by omega), if_pos zk, if_neg (show ¬ (140 : Int32) < (Int32.ofNat (H.length)) from fun y => absurd ((i32_lt (k := 140) (by omega) (by omega)).mp y) (by omega)), gi_540, W1.2.1, if_pos ((i32_lt (by omega) (by omega)).mpr zk), gr_540_2 hR, ga_542 (by omega), v1]
    -- a leaf
    have leaf : ∀ (c : Nat), c ≤ 1 → (W k).1 = c → wvI (W k) = (Int32.ofNat ((W k).2)) → isCl (k, W k) (H, B, L, true) (vs W m (k + 1)) = false → QK (f_X6_climb_j60 (fr_X6_climb F) (mg (4562 + zn J) I1 J R) 540 (Int32.ofNat (least)) (Int32.ofNat (H.length)) (Int32.ofNat (c)) (wvI (W k))) (CmP J R b W m fin H B least k I) := fun c hc ec ev hcl => by
      obtain ⟨st, est, ast⟩ := acc_n ha hcl
      have dst := dOk_n hd hcl est
      have est : stO b (W k) (H, B, L, true) = some st := est
      have es : st = (H, (0, 1) :: B, ((((Int32.ofNat (c)), (Int32.ofNat ((W k).2)), -1, 0) : Nd), 1) :: L, false) := by
        unfold stO at est
        rcases (by omega : c = 0 ∨ c = 1) with z | z
        · rw [if_pos (by omega)] at est
          rw [z]
          exact (Option.some.inj est).symm
        · rw [if_neg (by omega), if_pos (by omega)] at est
          rw [z]
          exact (Option.some.inj est).symm
      rw [es] at ast dst
      have nw : nwd (W k) = 1 := if_pos (by omega)
      rw [nw] at h80
      unfold f_X6_climb_j60
      rw [gr_540_17 hR, if_pos (bT_xk isTr_551)]
      refine q_bind (T_add (r := 0) hR L1 (by omega) (by first | decide | omega)) ?_
      rintro _ ⟨I2, rfl, f2, L2⟩
      have f12 : FrK Fcl I I2 := FrK_tr f1 (fun x j y => by rw [f2 x (fun w => y (Or.inr (by omega)))])
      rw [ev] at L2
      refine q_mono (C_climbLoop (k := k + 1) (k0 := k) (d := 1) hR hO ih (by omega) ⟨hl1, hl2⟩ hH h1 (by omega) (by omega) (CWd_cl hW f12) (CTb_cl hC f12) (by rw [f2 540 (by omega)]; exact t1) ?_ ast dst ?_) (fun y hy => CmP_mono hy f12 (Nat.le_refl _))
      · rw [← lnF_cons]
        exact L2
      · rw [List.length_cons]
        omega
    by_cases z0 : (W k).1 = 0
    · rw [if_pos (show (Int32.ofNat ((W k).1)) = (0 : Int32) by rw [z0]; rfl), z0]
      refine leaf 0 (by first | decide | omega) z0 (if_neg (by omega)) ?_
      cases e : vs W m (k + 1) with
      | nil => rfl
      | cons w l =>
        unfold isCl
        rw [show ((k, W k) : Wi).2.1 = 0 from z0]
        rfl
    rw [if_neg (show ¬ (Int32.ofNat ((W k).1)) = (0 : Int32) from i32_ne (b := 0) (by omega) (by omega) z0)]
    by_cases z1 : (W k).1 = 1
    · have ev : wvI (W k) = (Int32.ofNat ((W k).2)) := if_neg (by omega)
      rw [if_pos (show (Int32.ofNat ((W k).1)) = (1 : Int32) by rw [z1]; rfl), if_pos ok_540, C_nx hR W1 t1 (by omega), if_pos ok_540, C_kindAt hR W1 (by omega)]
      by_cases zc : k + 1 < m ∧ (W (k + 1)).1 = 4
      · obtain ⟨zc1, zc2⟩ := zc
        have ew1 : vs W m (k + 1) = (k + 1, W (k + 1)) :: vs W m (k + 2) := vs_c zc1
        have hcl : isCl (k, W k) (H, B, L, true) (vs W m (k + 1)) = true := by
          rw [ew1]
          show (true && ((W k).1 == 1) && ((W (k + 1)).1 == 4)) = true
          rw [z1, zc2]
          rfl
        have a2 := acc_c ha hcl
        have d2 := dOk_c hd hcl
        rw [ew1] at a2 d2 h80
        rw [nws_pos, show nwd (W k) = 1 from if_pos (by omega)] at h80
        rw [if_pos zc1, if_pos (show (Int32.ofNat ((W (k + 1)).1)) = (4 : Int32) by rw [zc2]; rfl), z1]
        unfold f_X6_climb_j77
        rw [if_pos (show (Int32.ofNat (1)) = (1 : Int32) from rfl), if_pos ok_540, ev]
        refine q_bind (C_climbArgs (v := (W k).2) (k := k) hR hO ih (by omega) h1 zc1 W1 C1 t1 L1 a2 d2 (by omega)) ?_
        rintro _ ⟨I2, k2, sz, L2, rfl, f2, g1, g2, g3, g4, g5, g6, g7⟩
        have f12 := FrK_tr f1 f2
        rw [if_neg p10]
        exact q_mono (C_climbLoop (k := k2) (k0 := k) hR hO ih (by omega) ⟨hl1, hl2⟩ hH h1 g1 g2 (CWd_cl hW f12) (CTb_cl hC f12) g3 g4 g5 g6 g7) (fun y hy => CmP_mono hy f12 (Nat.le_refl _))
      · have hne : ¬ (if k + 1 < m then (Int32.ofNat ((W (k + 1)).1)) else (9 : Int32)) = 4 := by
          by_cases zz : k + 1 < m
          · rw [if_pos zz]
            obtain ⟨-, -, -, wok2⟩ := CWd_v hW zz
            exact i32_ne (b := 4) (by rcases wok2 with y | y | y | y <;> omega) (by omega) (fun y => zc ⟨zz, y⟩)
          · rw [if_neg zz]
            decide
        rw [if_neg hne, z1]
        refine leaf 1 (by first | decide | omega) z1 ev ?_
        by_cases zz : k + 1 < m
        · rw [vs_c zz]
          unfold isCl
          have hh : ((W (k + 1)).1 == 4) = false := by
            cases hh : ((W (k + 1)).1 == 4) with
            | false => rfl
            | true => exact absurd ⟨zz, by exact beq_iff_eq.mp hh⟩ zc
          show (true && ((W k).1 == 1) && ((W (k + 1)).1 == 4)) = false
          rw [hh, Bool.and_false]
        · rw [show k + 1 = m by omega, vs_e]
          rfl
    rw [if_neg (show ¬ (Int32.ofNat ((W k).1)) = (1 : Int32) from i32_ne (b := 1) (by omega) (by omega) z1)]
    have hcl : isCl (k, W k) (H, B, L, true) (vs W m (k + 1)) = false := by
      cases e : vs W m (k + 1) with
      | nil => rfl
      | cons w l =>
        unfold isCl
        have hh : ((W k).1 == 1) = false := by
          cases hh : ((W k).1 == 1) with
          | false => rfl
          | true => exact absurd (beq_iff_eq.mp hh) z1
        show (true && ((W k).1 == 1) && (w.2.1 == 4)) = false
        rw [hh]
        rfl
    obtain ⟨st, est, ast⟩ := acc_n ha hcl
    have dst := dOk_n hd hcl est
    have est : stO b (W k) (H, B, L, true) = some st := est
    unfold stO at est
    rw [if_neg z0, if_neg z1] at est
    dsimp only at est
    unfold f_X6_climb_j77
    rw [if_neg (show ¬ (Int32.ofNat ((W k).1)) = (1 : Int32) from i32_ne (b := 1) (by omega) (by omega) z1)]
    by_cases z4 : (W k).1 = 4
    · rw [if_neg (by omega), if_pos z4] at est
      have es := (Option.some.inj est).symm
      rw [es] at ast dst
      rw [if_pos (show (Int32.ofNat ((W k).1)) = (4 : Int32) by rw [z4]; rfl), if_pos ok_540, show (Int32.ofNat (H.length)) + (1 : Int32) = (Int32.ofNat (H.length + 1)) from n_add _ 1]
      have wc : wgt ((0, 0, 0, 0) :: H) = wgt H := by
        rw [wgt_c]
        show 0 + wgt H = _
        omega
      have hc1 := ih (k + 1) ((0, 0, 0, 0) :: H) B L I1 1 F (by omega) (by omega) (by rw [List.length_cons]; omega) W1 C1 t1 L1 ast dst (by first | decide | omega) (by first | decide | omega) (fun h t e => by
        rw [← (List.cons.inj e).1]
        exact Nat.zero_le _) (by rw [wc]; omega)
      rw [List.length_cons] at hc1
      refine q_bind hc1 ?_
      rintro _ ⟨I2, k2, o2, L2, rfl, f2, g1, g2, g3, g4, g5, g6, g7, g8⟩
      rw [wc] at g8
      have f12 := FrK_tr f1 f2
      have W2 := CWd_cl hW f12
      rw [if_neg p10]
      dsimp only
      rw [if_pos ok_540, C_tk hR W2 g3 g2]
      dsimp only
      have f3 : FrK Fcl I (up I2 540 7 (Int32.ofNat (k2 + 1))) := FrK_up f12 (Or.inl ⟨rfl, rfl⟩)
      have W3 := CWd_cl hW f3
      rw [if_pos ok_540, C_kindAt hR W3 (by omega)]
      by_cases zk2 : k2 < m
      rotate_left
      · rw [show k2 = m by omega, vs_e] at g5
        cases g5
      have ew2 : vs W m k2 = (k2, W k2) :: vs W m (k2 + 1) := vs_c zk2
      rw [ew2] at g5 g6 g7 g8
      obtain ⟨st2, est2, ast2⟩ := acc_n g5 (isCl_f rfl _)
      have dst2 := dOk_n g6 (isCl_f rfl _) est2
      rw [nws_pos] at g8
      rw [if_pos zk2]
      unfold stA at est2
      rw [if_neg st_f] at est2
      dsimp only at est2
      by_cases y3 : (W k2).1 = 3
      · rw [if_pos y3, ends_0 g7 rfl y3] at est2
        cases est2
      rw [if_neg y3] at est2
      by_cases y5 : (W k2).1 = 5
      · rw [if_pos y5] at est2
        have est2 : some ((H, (0, szs ((o2 :: B).take 1)) :: (o2 :: B).drop 1, L2, false) : PS) = some st2 := est2
        have es2 := (Option.some.inj est2).symm
        rw [es2] at ast2 dst2
        rw [if_pos (show (Int32.ofNat ((W k2).1)) = (5 : Int32) by rw [y5]; rfl)]
        exact q_mono (C_climbLoop (k := k2 + 1) (k0 := k) hR hO ih (by omega) ⟨hl1, hl2⟩ hH h1 (by omega) (by omega) W3 (CTb_cl hC f3) up_s (CN_keep g4 (fun x g1 g2 => up_r (by omega))) ast2 dst2 (by omega)) (fun y hy => CmP_mono hy f3 (Nat.le_refl _))
      rw [if_neg y5] at est2
      by_cases y6 : (W k2).1 = 6
      · rw [if_pos y6] at est2
        have est2 : (if (0 : Nat) = 1 ∧ (0 : Nat) < 4 then some (((1, 0, 0, 1) :: H, o2 :: B, L2, true) : PS) else none) = some st2 := est2
        rw [if_neg (by omega)] at est2
        cases est2
      rw [if_neg y6] at est2
      cases est2
    rw [if_neg (show ¬ (Int32.ofNat ((W k).1)) = (4 : Int32) from i32_ne (b := 4) (by omega) (by omega) z4)]
    by_cases z3 : (W k).1 = 3
    rotate_left
    · rw [if_neg z3, if_neg z4] at est
      cases est
    have hp : (W k).2 < 16 := by rcases wok with y | y | y | y <;> omega
    have ev : wvI (W k) = (Int32.ofNat (sgc (W k).2)) := if_pos z3
    rw [if_pos z3] at est
    rw [if_pos (show (Int32.ofNat ((W k).1)) = (3 : Int32) by rw [z3]; rfl), gr_540_0 hR, if_pos ok_11, ev, C_rk0 hR C1 hO hp]
    have r0 := (rk_i hO hp (show 0 < 3 by decide)).2
    have nw : nwd (W k) = 1 := if_pos (by omega)
    rw [nw] at h80
    generalize (W k).2 = p at *
    by_cases zr : 0 < rkN b p 0
    rotate_left
    · rw [if_neg zr] at est
      cases est
    rw [if_pos zr] at est
    have es := (Option.some.inj est).symm
    rw [es] at ast dst
    unfold f_X6_climb_j146
    rw [if_neg (show ¬ (Int32.ofNat (rkN b p 0)) = (0 : Int32) from i32_ne (b := 0) (by omega) (by omega) (by omega)), if_pos ok_540, show (Int32.ofNat (rkN b p 0)) + (1 : Int32) = (Int32.ofNat (rkN b p 0 + 1)) from n_add _ 1, show (Int32.ofNat (H.length)) + (1 : Int32) = (Int32.ofNat (H.length + 1)) from n_add _ 1]
    have wc : wgt ((2, p, rkN b p 0 + 1, 0) :: H) = 1 + wgt H := by
      rw [wgt_c]
      rfl
    have hc1 := ih (k + 1) ((2, p, rkN b p 0 + 1, 0) :: H) B L I1 (rkN b p 0 + 1) F (by omega) (by omega) (by rw [List.length_cons]; omega) W1 C1 t1 L1 ast dst (by omega) (by omega) (fun h t e => by
      rw [← (List.cons.inj e).1]
      exact Nat.le_refl _) (by rw [wc]; omega)
    rw [List.length_cons] at hc1
    refine q_bind hc1 ?_
    rintro _ ⟨I2, k2, o2, L2, rfl, f2, g1, g2, g3, g4, g5, g6, g7, g8⟩
    rw [wc] at g8
    have f12 := FrK_tr f1 f2
    have ep := Eqr_pop (h := (2, p, rkN b p 0 + 1, 0)) (H := H) (B := o2 :: B) (L := L2)
    rw [run_eqr (by show 0 < rkN b p 0 + 1; omega) g7 ep] at g5
    have g6 := dOk_eqr (by show 0 < rkN b p 0 + 1; omega) g7 ep g6
    rw [if_neg p10]
    dsimp only
    rw [gr_540_17 hR, if_pos (bT_xk isTr_551), show (0 : Int32) = (Int32.ofNat (0)) from rfl]
    refine q_bind (T_add (r := 1) hR g4 (by omega) (by first | decide | omega)) ?_
    rintro _ ⟨I3, rfl, f3, L3⟩
    have f13 : FrK Fcl I I3 := FrK_tr f12 (fun x j y => by rw [f3 x (fun w => y (Or.inr (by omega)))])
    refine q_mono (C_climbLoop (k := k2) (k0 := k) (d := szs [o2] + 1) (L := (opNd p 0, szs [o2] + 1) :: L2) hR hO ih (by omega) ⟨hl1, hl2⟩ hH h1 (by omega) g2 (CWd_cl hW f13) (CTb_cl hC f13) (by rw [f3 540 (by omega)]; exact g3) ?_ g5 g6 ?_) (fun y hy => CmP_mono hy f13 (Nat.le_refl _))
    · rw [← lnF_cons]
      exact L3
    · rw [List.length_cons]
      omega
/-- climbing gives what the stacks give -/
theorem C_climbingGives {a nn : Nat} {nd : Nat → Nd} {sp : Nat → Nat} (hR : RA R) (hC : CTb I b) (hO : TbOK b) (hW : CWd I m W P (fun _ => false)) (hn : nws (vs W m 0) ≤ 80) (hA : CT I a nn nd sp) (ha : a + 8 ≤ 540 ∨ 559 ≤ a) (hG : GoodW b W m nn nd sp (fun _ => false)) (hd : dOk b (vs W m 0) st0) : QK (f_X6_climbingGives (mg (4562 + zn J) I J R) 540 a) (fun y => ∃ I', y = (1, mg (4562 + zn J) I' J R) ∧ FrK Fcl I I') := by
  obtain ⟨ln, g1, g2, g3⟩ := hG
  have g1 : acc (run b (vs W m 0) st0) = some ln := g1
  unfold f_X6_climbingGives
  rw [gs_540, gr_540_17 hR, if_pos (bT_xk isTr_551)]
  refine q_bind (T_clear (nd := lnF []) isTr_551) ?_
  rintro _ ⟨I1, rfl, f1, N1⟩
  have f01 : FrK Fcl I I1 := fun x j y => by
    unfold Fcl at y
    rw [f1 x (by omega), up_n (by omega)]
  have W1 := CWd_cl hW f01
  have h7 : I1 540 7 = (Int32.ofNat (0)) := by
    rw [f1 540 (by omega)]
    exact up_s
  rw [if_pos ok_540]
  have hc := C_climb (J := J) (W := W) (P := P) (m := m) (fin := ln) hR hO m 0 [] [] [] I1 1 200 (by omega) (Nat.zero_le _) rfl W1 (CTb_cl hC f01) h7 N1 g1 hd (by first | decide | omega) (by first | decide | omega) (fun h t e => by cases e) (by show 0 + 0 + _ ≤ 80; omega)
  refine q_bind hc ?_
  rintro _ ⟨I2, k2, o2, L2, rfl, f2, q1, q2, q3, q4, q5, q6, q7, q8⟩
  have f02 := FrK_tr f01 f2
  have W2 := CWd_cl hW f02
  have m300 := hW.1
  -- nothing is left
  have ek : k2 = m := by
    refine Classical.byContradiction (fun z => ?_)
    have zk : k2 < m := by omega
    have ew : vs W m k2 = (k2, W k2) :: vs W m (k2 + 1) := vs_c zk
    rw [ew] at q5 q7
    obtain ⟨st, est, -⟩ := acc_n q5 (isCl_f rfl _)
    unfold stA at est
    rw [if_neg st_f] at est
    dsimp only at est
    by_cases y3 : (W k2).1 = 3
    · rw [if_pos y3, ends_0 q7 rfl y3] at est
      cases est
    rw [if_neg y3] at est
    by_cases y5 : (W k2).1 = 5
    · rw [if_pos y5] at est
      cases est
    rw [if_neg y5] at est
    by_cases y6 : (W k2).1 = 6
    · rw [if_pos y6] at est
      cases est
    rw [if_neg y6] at est
    cases est
  subst ek
  rw [vs_e] at q5
  have eL : L2 = ln := Option.some.inj q5
  subst eL
  have A2 : CT I2 a nn nd sp := CT_keep hA (fun x h1 h2 => funext (fun j => f02 x j (by unfold Fcl; omega)))
  rw [if_neg p10]
  dsimp only
  rw [if_pos ok_540, C_nx hR W2 q3 (Nat.le_refl _), gi_540, W2.2.1, if_neg (show ¬ (Int32.ofNat (k2)) < (Int32.ofNat (k2)) from fun y => absurd ((i32_lt (by omega) (by omega)).mp y) (Nat.lt_irrefl _)), gr_540_17 hR, if_pos (bT_xk A2.1.1)]
  obtain ⟨r, e, hr⟩ := T_hasLine (J := J) hR A2 q4
  rw [e, Option.bind_some]
  rcases hr with ⟨rfl, -, -⟩ | ⟨rfl, r1⟩
  · rw [if_neg (show ¬ (1 : Int32) = 0 by decide)]
    unfold f_X6_climbingGives_j48
    exact q_ok ⟨I2, rfl, f02⟩
  · exact absurd ⟨g2, g3⟩ r1
end CLN
