/-! reading by climbing: the class -/
def Fcl : Nat → Nat → Prop := fun a k => (a = 540 ∧ k = 7) ∨ (551 ≤ a ∧ a < 556)
def CmP (J : Nat → Nat → Int64) (R : Nat → Nat → Option Nat) (b : GB) (W : Nat → Wd) (m : Nat) (fin : List Ln) (H : List Hd) (B : List Oe) (least k : Nat) (I : Nat → Nat → Int32) (y : Int32 × xM) : Prop := ∃ I' k' o L', y = ((1 : Int32), mg (4562 + zn J) I' J R) ∧ FrK Fcl I I' ∧ k < k' ∧ k' ≤ m ∧ I' 540 7 = (Int32.ofNat (k')) ∧ CN I' 551 L'.length (lnF L') ∧ acc (run b (vs W m k') (H, o :: B, L', false)) = some fin ∧ dOk b (vs W m k') (H, o :: B, L', false) ∧ ends b least (vs W m k') ∧ L'.length + wgt H + nws (vs W m k') ≤ 80
def CIH (J : Nat → Nat → Int64) (R : Nat → Nat → Option Nat) (b : GB) (W : Nat → Wd) (P : Nat → Nat) (m : Nat) (fin : List Ln) (n : Nat) : Prop := ∀ k H B L I least F, m - k ≤ n → k ≤ m → F + H.length = 200 → CWd I m W P (fun _ => false) → CTb I b → I 540 7 = (Int32.ofNat (k)) → CN I 551 L.length (lnF L) → acc (run b (vs W m k) (H, B, L, true)) = some fin → dOk b (vs W m k) (H, B, L, true) → 1 ≤ least → least ≤ 10 → (∀ h t, H = h :: t → h.2.2.1 ≤ least) → L.length + wgt H + nws (vs W m k) ≤ 80 → QK (fr_X6_climb F (mg (4562 + zn J) I J R) 540 (Int32.ofNat (least)) (Int32.ofNat (H.length))) (CmP J R b W m fin H B least k I)
section CLM
variable {I : Nat → Nat → Int32} {J : Nat → Nat → Int64} {R : Nat → Nat → Option Nat} {b : GB} {W : Nat → Wd} {P : Nat → Nat} {m k n F d least : Nat} {fin : List Ln} {H : List Hd} {B : List Oe} {L : List Ln} {o : Oe} {β : Type}
theorem C_nx {Z : Int32 → Option β} (hR : RA R) (hW : CWd I m W P (fun _ => false)) (h7 : I 540 7 = (Int32.ofNat (k))) (hk : k ≤ m) : (f_X6_nextWord (mg (4562 + zn J) I J R) 540).bind Z = Z (Int32.ofNat (k)) := by
  rw [C_next hR hW h7 hk, nxg_none]
theorem C_tk {Z : Int32 × xM → Option β} (hR : RA R) (hW : CWd I m W P (fun _ => false)) (h7 : I 540 7 = (Int32.ofNat (k))) (hk : k ≤ m) : (f_X6_takeWord (mg (4562 + zn J) I J R) 540).bind Z = Z ((Int32.ofNat (k)), mg (4562 + zn J) (up I 540 7 (Int32.ofNat (k + 1))) J R) := by
  unfold f_X6_takeWord
  rw [if_pos ok_540, C_nx hR hW h7 hk, gs_540, show (Int32.ofNat (k)) + (1 : Int32) = (Int32.ofNat (k + 1)) from n_add k 1]
  rfl
theorem CWd_cl {I' : Nat → Nat → Int32} {g : Nat → Bool} (hW : CWd I m W P g) (hF : FrK Fcl I I') : CWd I' m W P g := CWd_keep hW (fun a k y => hF a k (by unfold Fcl; omega))
theorem CTb_cl {I' : Nat → Nat → Int32} (hC : CTb I b) (hF : FrK Fcl I I') : CTb I' b := CTb_keep hC (fun x y => funext (fun j => hF x j (by unfold Fcl; omega)))
theorem CmP_mono {I0 : Nat → Nat → Int32} {k0 : Nat} {y : Int32 × xM} (h : CmP J R b W m fin H B least k I y) (hF : FrK Fcl I0 I) (hk : k0 ≤ k) : CmP J R b W m fin H B least k0 I0 y := by
  obtain ⟨I', k', o, L', h1, h2, h3, h4⟩ := h
  exact ⟨I', k', o, L', h1, FrK_tr hF h2, by omega, h4⟩
theorem C_rk0 {p : Nat} {Z : Int32 → Option β} (hR : RA R) (hC : CTb I b) (hT : TbOK b) (hp : p < 16) : (f_X1_rank (mg (4562 + zn J) I J R) 11 (Int32.ofNat (sgc p)) 0).bind Z = Z (Int32.ofNat (rkN b p 0)) := C_rank (fx := 0) hR hC hT hp (by first | decide | omega)
theorem C_rk1 {p : Nat} {Z : Int32 → Option β} (hR : RA R) (hC : CTb I b) (hT : TbOK b) (hp : p < 16) : (f_X1_rank (mg (4562 + zn J) I J R) 11 (Int32.ofNat (sgc p)) 1).bind Z = Z (Int32.ofNat (rkN b p 1)) := C_rank (fx := 1) hR hC hT hp (by first | decide | omega)
theorem C_rk2 {p : Nat} {Z : Int32 → Option β} (hR : RA R) (hC : CTb I b) (hT : TbOK b) (hp : p < 16) : (f_X1_rank (mg (4562 + zn J) I J R) 11 (Int32.ofNat (sgc p)) 2).bind Z = Z (Int32.ofNat (rkN b p 2)) := C_rank (fx := 2) hR hC hT hp (by first | decide | omega)
theorem C_sd1 {p : Nat} {Z : Int32 → Option β} (hR : RA R) (hC : CTb I b) (hp : p < 16) : (f_X1_side (mg (4562 + zn J) I J R) 11 (Int32.ofNat (sgc p)) 1).bind Z = Z (I 14 (1 * 16 + p)) := by
  have h := sgc_ok p hp
  have e : f_X1_side (mg (4562 + zn J) I J R) 11 (Int32.ofNat (sgc p)) 1 = f_X1_side (mg (4562 + zn J) I J R) 11 (Int32.ofNat (sgc p)) (Int32.ofNat (1)) := rfl
  rw [e, c_side1 hR (show 1 * 16 + p < 48 by omega) (c_slot1 hR hC.1 h.1 h.2 hp (show 1 ≤ 2 by decide))]
  rfl
/-- signs behind an operand -/
theorem C_climbLoop {k0 : Nat} (hR : RA R) (hO : TbOK b) (hih : CIH J R b W P m fin n) (hF : F + 1 + H.length = 200) (hl : 1 ≤ least ∧ least ≤ 10) (hH : ∀ h t, H = h :: t → h.2.2.1 ≤ least) (hn : m - k0 ≤ n + 1) (hk0 : k0 < k) (hk : k ≤ m) (hW : CWd I m W P (fun _ => false)) (hC : CTb I b) (h7 : I 540 7 = (Int32.ofNat (k))) (hL : CN I 551 L.length (lnF L)) (ha : acc (run b (vs W m k) (H, (0, d) :: B, L, false)) = some fin) (hd : dOk b (vs W m k) (H, (0, d) :: B, L, false)) (h80 : L.length + wgt H + nws (vs W m k) ≤ 80) : QK (f_X6_climb_j182 (fr_X6_climb F) (mg (4562 + zn J) I J R) 540 (Int32.ofNat (least)) (Int32.ofNat (H.length))) (CmP J R b W m fin H B least k0 I) := by
  have m300 := hW.1
  unfold f_X6_climb_j182
  rw [q_let, q_let]
  refine q_bind (P := fun x => ∃ I' k' o L', (x = .inr (.inl (mg (4562 + zn J) I' J R)) ∨ x = .inr (.inr (.inr (mg (4562 + zn J) I' J R)))) ∧ FrK Fcl I I' ∧ k0 < k' ∧ k' ≤ m ∧ I' 540 7 = (Int32.ofNat (k')) ∧ CN I' 551 L'.length (lnF L') ∧ acc (run b (vs W m k') (H, o :: B, L', false)) = some fin ∧ dOk b (vs W m k') (H, o :: B, L', false) ∧ ends b least (vs W m k') ∧ L'.length + wgt H + nws (vs W m k') ≤ 80) ?_ ?_
  rotate_left
  · rintro _ ⟨I', k', o, L', rfl | rfl, h1, h2, h3, h4, h5, h6, h7, h8, h9⟩
    · simp only [Sum.elim_inr, Sum.elim_inl]
      unfold f_X6_climb_j259
      exact q_ok ⟨I', k', o, L', rfl, h1, h2, h3, h4, h5, h6, h7, h8, h9⟩
    · simp only [Sum.elim_inr, Sum.elim_inl]
      unfold f_X6_climb_j369
      exact q_ok ⟨I', k', o, L', rfl, h1, h2, h3, h4, h5, h6, h7, h8, h9⟩
  refine q_loop (fun mm s => ∃ I1 k1 o1 L1 t, s = (540, (Int32.ofNat (least)), (Int32.ofNat (H.length)), (Int32.ofNat (o1.1)), (Int32.ofNat (t)), mg (4562 + zn J) I1 J R) ∧ mm = m - k1 ∧ t ≤ k1 ∧ o1.1 ≤ 9 ∧ FrK Fcl I I1 ∧ k0 < k1 ∧ k1 ≤ m ∧ I1 540 7 = (Int32.ofNat (k1)) ∧ CN I1 551 L1.length (lnF L1) ∧ acc (run b (vs W m k1) (H, o1 :: B, L1, false)) = some fin ∧ dOk b (vs W m k1) (H, o1 :: B, L1, false) ∧ L1.length + wgt H + nws (vs W m k1) ≤ 80) ?_ (m := m - k) ⟨I, k, (0, d), L, 0, rfl, rfl, by omega, by omega, FrK_rfl, hk0, hk, h7, hL, ha, hd, h80⟩ (by unfold xF; omega)
  rintro mm s ⟨I1, k1, o1, L1, t, rfl, rfl, ht, ho, f1, q1, q2, q3, q4, q5, q6, q7⟩
  have W1 := CWd_cl hW f1
  have C1 := CTb_cl hC f1
  unfold f_X6_climb_s188
  dsimp only
  rw [q_let, q_let, q_let, q_let, q_let, q_let, gi_540, W1.2.1]
  by_cases z : m ≤ t
  · have e : k1 = m := by omega
    rw [if_pos ((i32_le (by omega) (by omega)).mpr z)]
    refine q_ex ⟨I1, k1, o1, L1, Or.inr rfl, f1, q1, q2, q3, q4, q5, q6, ?_, q7⟩
    intro w l ew
    rw [e, vs_e] at ew
    cases ew
  rw [if_neg (show ¬ (Int32.ofNat (m)) ≤ (Int32.ofNat (t)) from fun y => z ((i32_le (by omega) (by omega)).mp y)), if_pos ok_540, C_nx hR W1 q3 q2, if_pos ok_540, C_kindAt hR W1 (by omega)]
  by_cases zk : k1 < m
  rotate_left
  · have e : k1 = m := by omega
    rw [if_neg zk, if_neg (by first | decide | omega)]
    refine q_ex ⟨I1, k1, o1, L1, Or.inr rfl, f1, q1, q2, q3, q4, q5, q6, ?_, q7⟩
    intro w l ew
    rw [e, vs_e] at ew
    cases ew
  rw [if_pos zk]
  obtain ⟨-, v2, -, wok⟩ := CWd_v W1 zk
  have k8 : (W k1).1 ≤ 8 := by rcases wok with y | y | y | y <;> omega
  by_cases q3' : (W k1).1 = 3
  rotate_left
  · rw [if_neg (show ¬ (Int32.ofNat ((W k1).1)) = 3 from i32_ne (b := 3) (by omega) (by omega) q3')]
    refine q_ex ⟨I1, k1, o1, L1, Or.inr rfl, f1, q1, q2, q3, q4, q5, q6, ?_, q7⟩
    intro w l ew h3
    rw [vs_c zk] at ew
    have := (List.cons.inj ew).1
    rw [← this] at h3
    exact absurd h3 q3'
  have hp : (W k1).2 < 16 := by rcases wok with y | y | y | y <;> omega
  have ev : wvI (W k1) = (Int32.ofNat (sgc (W k1).2)) := if_pos q3'
  rw [if_pos (show (Int32.ofNat ((W k1).1)) = 3 by rw [q3']; rfl), gr_540_2 hR, if_pos ok_540, C_nx hR W1 q3 q2, ga_542 (by omega), v2, ev, gr_540_0 hR, if_pos ok_11, C_rk1 hR C1 hO hp]
  -- what follows the choice of the side where the sign stands
  have ew : vs W m k1 = (k1, W k1) :: vs W m (k1 + 1) := vs_c zk
  rw [ew] at q5 q6 q7
  have nw1 : nwd (W k1) = 1 := if_pos (by omega)
  rw [nws_pos, nw1] at q7
  obtain ⟨st, est, ast⟩ := acc_n q5 (isCl_f rfl _)
  have dst := dOk_n q6 (isCl_f rfl _) est
  have est : stS b (W k1).2 (H, o1 :: B, L1, false) = some st := by
    unfold stA at est
    rw [if_neg (show ¬ ((H, o1 :: B, L1, false) : PS).2.2.2 = true from Bool.false_ne_true), if_pos q3'] at est
    exact est
  generalize hpp : (W k1).2 = p at *
  have r1 := (rk_i hO hp (show 1 < 3 by decide)).2
  have r2 := (rk_i hO hp (show 2 < 3 by decide)).2
  have f2 : FrK Fcl I (up I1 540 7 (Int32.ofNat (k1 + 1))) := FrK_up f1 (Or.inl ⟨rfl, rfl⟩)
  have t2 : up I1 540 7 (Int32.ofNat (k1 + 1)) 540 7 = (Int32.ofNat (k1 + 1)) := up_s
  have L2 : CN (up I1 540 7 (Int32.ofNat (k1 + 1))) 551 L1.length (lnF L1) := CN_keep q4 (fun x g1 g2 => up_r (by omega))
  have W2 := CWd_cl hW f2
  have C2 := CTb_cl hC f2
  have quit : rkE b p < least → ∃ I' k' o L', ((.inr (.inl (mg (4562 + zn J) I1 J R)) : (Int32 × xM) ⊕ (xM ⊕ (xM ⊕ xM))) = .inr (.inl (mg (4562 + zn J) I' J R)) ∨ (.inr (.inl (mg (4562 + zn J) I1 J R)) : (Int32 × xM) ⊕ (xM ⊕ (xM ⊕ xM))) = .inr (.inr (.inr (mg (4562 + zn J) I' J R)))) ∧ FrK Fcl I I' ∧ k0 < k' ∧ k' ≤ m ∧ I' 540 7 = (Int32.ofNat (k')) ∧ CN I' 551 L'.length (lnF L') ∧ acc (run b (vs W m k') (H, o :: B, L', false)) = some fin ∧ dOk b (vs W m k') (H, o :: B, L', false) ∧ ends b least (vs W m k') ∧ L'.length + wgt H + nws (vs W m k') ≤ 80 := fun hlt => by
    refine ⟨I1, k1, o1, L1, Or.inl rfl, f1, q1, q2, q3, q4, by rw [ew]; exact q5, by rw [ew]; exact q6, ?_, by rw [ew, nws_pos, nw1]; exact q7⟩
    intro w l e h3
    rw [ew] at e
    have := (List.cons.inj e).1
    rw [← this]
    show rkE b (W k1).2 < least
    rw [hpp]
    exact hlt
  by_cases b1 : 0 < rkN b p 1
  · have er : rkE b p = rkN b p 1 := if_pos b1
    rw [if_neg (show ¬ (Int32.ofNat (rkN b p 1)) ≤ (0 : Int32) from fun y => absurd ((i32_le (m := 0) (by omega) (by omega)).mp y) (by omega))]
    unfold f_X6_climb_j238
    rw [gr_540_0 hR, if_pos ok_11, C_rk1 hR C1 hO hp]
    by_cases zl : least ≤ rkN b p 1
    rotate_left
    · rw [if_neg (show ¬ (Int32.ofNat (least)) ≤ (Int32.ofNat (rkN b p 1)) from fun y => zl ((i32_le (by omega) (by omega)).mp y))]
      exact q_ex (quit (by omega))
    rw [if_pos ((i32_le (by omega) (by omega)).mpr zl), if_pos ok_540, C_tk hR W1 q3 q2]
    dsimp only
    rw [gr_540_0 hR, if_pos ok_11, C_sd1 hR C2 hp, if_neg (by first | decide | omega)]
    unfold f_X6_climb_j319
    rw [gr_540_17 hR, if_neg (by first | decide | omega)]
    unfold f_X6_climb_j339
    rw [if_pos (bT_xk isTr_551)]
    refine q_bind (T_add (r := 1) hR L2 (by omega) (by first | decide | omega)) ?_
    rintro _ ⟨I3, rfl, f3, L3⟩
    have f13 : FrK Fcl I I3 := FrK_tr f2 (fun x j y => by rw [f3 x (fun w => y (Or.inr (by omega)))])
    rw [if_neg (by first | decide | omega)]
    unfold f_X6_climb_j360 f_X6_climb_j361
    rw [q_let, show (Int32.ofNat (t)) + (1 : Int32) = (Int32.ofNat (t + 1)) from n_add t 1]
    have es : st = (H, (0, szs ((o1 :: B).take 1) + 1) :: B, (opNd p 1, szs ((o1 :: B).take 1) + 1) :: L1, false) := by
      unfold stS at est
      rw [if_pos b1] at est
      dsimp only at est
      rw [red_top (fun h t e => Nat.le_trans (hH h t e) zl)] at est
      exact (Option.some.inj est).symm
    rw [es] at ast dst
    refine q_go ⟨m - (k1 + 1), by omega, I3, k1 + 1, _, _, t + 1, rfl, rfl, by omega, by show 0 ≤ 9; omega, f13, by omega, by omega, by rw [f3 540 (by omega)]; exact t2, ?_, ast, dst, ?_⟩
    · rw [← lnF_cons]
      exact L3
    · rw [List.length_cons]
      omega
  · have er : rkE b p = rkN b p 2 := if_neg b1
    rw [if_pos (show (Int32.ofNat (rkN b p 1)) ≤ (0 : Int32) by rw [show rkN b p 1 = 0 by omega]; decide)]
    unfold f_X6_climb_j238
    rw [gr_540_0 hR, if_pos ok_11, C_rk2 hR C1 hO hp]
    by_cases zl : least ≤ rkN b p 2
    rotate_left
    · rw [if_neg (show ¬ (Int32.ofNat (least)) ≤ (Int32.ofNat (rkN b p 2)) from fun y => zl ((i32_le (by omega) (by omega)).mp y))]
      exact q_ex (quit (by omega))
    have n2 : rkN b p 2 ≠ 0 := by omega
    have sd := (sd_i hO hp n2).2
    rw [if_pos ((i32_le (by omega) (by omega)).mpr zl), if_pos ok_540, C_tk hR W1 q3 q2]
    dsimp only
    rw [gr_540_0 hR, if_pos ok_11, show (2 : Int32) = (Int32.ofNat (2)) from rfl, C_side hR C2 hO hp n2, if_pos rfl]
    unfold stS at est
    rw [if_neg b1, if_neg n2] at est
    dsimp only at est
    rw [red_top (fun h t e => Nat.le_trans (hH h t e) zl)] at est
    dsimp only at est
    by_cases zb : o1.1 = rkN b p 2
    · rw [if_pos (show ((o1 :: B).headD (0, 0)).1 = rkN b p 2 from zb)] at est
      cases est
    rw [if_neg (show ¬ ((o1 :: B).headD (0, 0)).1 = rkN b p 2 from zb)] at est
    have es := (Option.some.inj est).symm
    rw [es] at ast dst
    rw [if_neg (show ¬ (Int32.ofNat (o1.1)) = (Int32.ofNat (rkN b p 2)) from i32_ne (by omega) (by omega) zb)]
    generalize hlv : (if sdN b p = 1 then rkN b p 2 else rkN b p 2 + 1) = lv at *
    have lvb : 1 ≤ lv ∧ lv ≤ 10 := by
      rw [← hlv]
      split <;> omega
    clear quit
    -- the operand on the right
    have key : QK (f_X6_climb_j308 (fr_X6_climb F) (mg (4562 + zn J) (up I1 540 7 (Int32.ofNat (k1 + 1))) J R) 540 (Int32.ofNat (least)) (Int32.ofNat (H.length)) (Int32.ofNat (t)) (Int32.ofNat (sgc p)) (Int32.ofNat (2)) (Int32.ofNat (rkN b p 2)) (Int32.ofNat (sdN b p)) (Int32.ofNat (lv)) 540) (qS (fun s' => ∃ m', m' < m - k1 ∧ ∃ I1 k1 o1 L1 t, s' = (540, (Int32.ofNat (least)), (Int32.ofNat (H.length)), (Int32.ofNat (o1.1)), (Int32.ofNat (t)), mg (4562 + zn J) I1 J R) ∧ m' = m - k1 ∧ t ≤ k1 ∧ o1.1 ≤ 9 ∧ FrK Fcl I I1 ∧ k0 < k1 ∧ k1 ≤ m ∧ I1 540 7 = (Int32.ofNat (k1)) ∧ CN I1 551 L1.length (lnF L1) ∧ acc (run b (vs W m k1) (H, o1 :: B, L1, false)) = some fin ∧ dOk b (vs W m k1) (H, o1 :: B, L1, false) ∧ L1.length + wgt H + nws (vs W m k1) ≤ 80) (fun x => ∃ I' k' o L', (x = .inr (.inl (mg (4562 + zn J) I' J R)) ∨ x = .inr (.inr (.inr (mg (4562 + zn J) I' J R)))) ∧ FrK Fcl I I' ∧ k0 < k' ∧ k' ≤ m ∧ I' 540 7 = (Int32.ofNat (k')) ∧ CN I' 551 L'.length (lnF L') ∧ acc (run b (vs W m k') (H, o :: B, L', false)) = some fin ∧ dOk b (vs W m k') (H, o :: B, L', false) ∧ ends b least (vs W m k') ∧ L'.length + wgt H + nws (vs W m k') ≤ 80)) := by
      unfold f_X6_climb_j308
      rw [if_pos ok_540, show (Int32.ofNat (H.length)) + (1 : Int32) = (Int32.ofNat (H.length + 1)) from n_add _ 1]
      have w1 : wgt ((3, p, lv, if sdN b p = 2 then rkN b p 2 else 0) :: H) = 1 + wgt H := by
        rw [wgt_c]
        rfl
      have hc := hih (k1 + 1) ((3, p, lv, if sdN b p = 2 then rkN b p 2 else 0) :: H) (o1 :: B) L1 (up I1 540 7 (Int32.ofNat (k1 + 1))) lv F (by omega) (by omega) (by rw [List.length_cons]; omega) W2 C2 t2 L2 ast dst lvb.1 lvb.2 (fun h t e => by
        rw [← (List.cons.inj e).1]
        exact Nat.le_refl _) (by rw [w1]; omega)
      rw [List.length_cons] at hc
      refine q_bind hc ?_
      rintro _ ⟨I3, k3, o3, L3', rfl, f3, g1, g2, g3, g4, g5, g6, g7, g8⟩
      rw [if_neg (show ¬ ((1 : Int32), mg (4562 + zn J) I3 J R).1 = 0 from fun y => absurd (show (1 : Int32) = 0 from y) (by first | decide | omega))]
      have f13 := FrK_tr f2 f3
      unfold f_X6_climb_j319
      dsimp only
      rw [gr_540_17 hR, if_pos (show (Int32.ofNat (2)) = (2 : Int32) from rfl)]
      unfold f_X6_climb_j339
      rw [if_pos (bT_xk isTr_551), show (2 : Int32) = (Int32.ofNat (2)) from rfl]
      rw [w1] at g8
      refine q_bind (T_add (r := 2) hR g4 (by omega) (by first | decide | omega)) ?_
      rintro _ ⟨I4, rfl, f4, L4⟩
      have f14 : FrK Fcl I I4 := FrK_tr f13 (fun x j y => by rw [f4 x (fun w => y (Or.inr (by omega)))])
      have ep := Eqr_pop (h := (3, p, lv, if sdN b p = 2 then rkN b p 2 else 0)) (H := H) (B := o3 :: o1 :: B) (L := L3')
      rw [run_eqr (by show 0 < lv; omega) g7 ep] at g5
      have g6 := dOk_eqr (by show 0 < lv; omega) g7 ep g6
      have fin' : ∀ u : Nat, u = (if sdN b p = 2 then rkN b p 2 else 0) → QK (f_X6_climb_j361 (fr_X6_climb F) (mg (4562 + zn J) I4 J R) 540 (Int32.ofNat (least)) (Int32.ofNat (H.length)) (Int32.ofNat (t)) (Int32.ofNat (u))) (qS (fun s' => ∃ m', m' < m - k1 ∧ ∃ I1 k1 o1 L1 t, s' = (540, (Int32.ofNat (least)), (Int32.ofNat (H.length)), (Int32.ofNat (o1.1)), (Int32.ofNat (t)), mg (4562 + zn J) I1 J R) ∧ m' = m - k1 ∧ t ≤ k1 ∧ o1.1 ≤ 9 ∧ FrK Fcl I I1 ∧ k0 < k1 ∧ k1 ≤ m ∧ I1 540 7 = (Int32.ofNat (k1)) ∧ CN I1 551 L1.length (lnF L1) ∧ acc (run b (vs W m k1) (H, o1 :: B, L1, false)) = some fin ∧ dOk b (vs W m k1) (H, o1 :: B, L1, false) ∧ L1.length + wgt H + nws (vs W m k1) ≤ 80) (fun x => ∃ I' k' o L', (x = .inr (.inl (mg (4562 + zn J) I' J R)) ∨ x = .inr (.inr (.inr (mg (4562 + zn J) I' J R)))) ∧ FrK Fcl I I' ∧ k0 < k' ∧ k' ≤ m ∧ I' 540 7 = (Int32.ofNat (k')) ∧ CN I' 551 L'.length (lnF L') ∧ acc (run b (vs W m k') (H, o :: B, L', false)) = some fin ∧ dOk b (vs W m k') (H, o :: B, L', false) ∧ ends b least (vs W m k') ∧ L'.length + wgt H + nws (vs W m k') ≤ 80)) := fun u hu => by
        subst hu
        unfold f_X6_climb_j361
        rw [q_let, show (Int32.ofNat (t)) + (1 : Int32) = (Int32.ofNat (t + 1)) from n_add t 1]
        refine q_go ⟨m - k3, by omega, I4, k3, ((if sdN b p = 2 then rkN b p 2 else 0), szs ([o3, o1]) + 1), (opNd p 2, szs ([o3, o1]) + 1) :: L3', t + 1, rfl, rfl, by omega, ?_, f14, by omega, g2, by rw [f4 540 (by omega)]; exact g3, ?_, g5, g6, ?_⟩
        · show (if sdN b p = 2 then rkN b p 2 else 0) ≤ 9
          split <;> omega
        · rw [← lnF_cons]
          exact L4
        · rw [List.length_cons]
          omega
      rw [if_pos rfl]
      by_cases s2 : sdN b p = 2
      · rw [if_pos (show (Int32.ofNat (sdN b p)) = (Int32.ofNat (2)) by rw [s2])]
        exact fin' (rkN b p 2) (by rw [if_pos s2])
      · rw [if_neg (show ¬ (Int32.ofNat (sdN b p)) = (Int32.ofNat (2)) from i32_ne (by omega) (by omega) s2)]
        unfold f_X6_climb_j360
        exact fin' 0 (by rw [if_neg s2])
    by_cases s1 : sdN b p = 1
    · rw [if_pos (show (Int32.ofNat (sdN b p)) = (1 : Int32) by rw [s1]; rfl)]
      rw [if_pos s1] at hlv
      rw [← hlv] at key
      exact key
    · rw [if_neg (show ¬ (Int32.ofNat (sdN b p)) = (1 : Int32) from i32_ne (b := 1) (by omega) (by omega) s1), show (Int32.ofNat (rkN b p 2)) + (1 : Int32) = (Int32.ofNat (rkN b p 2 + 1)) from n_add _ 1]
      rw [if_neg s1] at hlv
      rw [← hlv] at key
      exact key
end CLM
