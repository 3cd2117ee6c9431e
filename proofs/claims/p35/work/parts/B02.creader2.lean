/-! the class's reader: one word -/
def nxg (g : Nat → Bool) : Nat → Nat → Nat
  | 0, k => k
  | d + 1, k => if g k = true then nxg g d (k + 1) else k
def vis (W : Nat → Wd) (g : Nat → Bool) : Nat → Nat → List Wi
  | 0, _ => []
  | d + 1, k => if g k = true then vis W g d (k + 1) else (k, W k) :: vis W g d (k + 1)
theorem nxg_c (g : Nat → Bool) (d k : Nat) : nxg g (d + 1) k = if g k = true then nxg g d (k + 1) else k := rfl
theorem vis_c (W : Nat → Wd) (g : Nat → Bool) (d k : Nat) : vis W g (d + 1) k = if g k = true then vis W g d (k + 1) else (k, W k) :: vis W g d (k + 1) := rfl
theorem nxg_ok {W : Nat → Wd} {g : Nat → Bool} {m : Nat} : ∀ d k, k + d = m → k ≤ nxg g d k ∧ nxg g d k ≤ m ∧ (nxg g d k = m → vis W g d k = []) ∧ (nxg g d k < m → g (nxg g d k) = false ∧ vis W g d k = (nxg g d k, W (nxg g d k)) :: vis W g (m - (nxg g d k + 1)) (nxg g d k + 1)) := by
  intro d
  induction d with
  | zero =>
    intro k hk
    exact ⟨Nat.le_refl _, by show k ≤ m; omega, fun _ => rfl, fun z => absurd z (by show ¬ k < m; omega)⟩
  | succ d ih =>
    intro k hk
    rw [nxg_c, vis_c]
    by_cases q : g k = true
    · rw [if_pos q, if_pos q]
      obtain ⟨a1, a2, a3, a4⟩ := ih (k + 1) (by omega)
      exact ⟨by omega, a2, a3, a4⟩
    · rw [if_neg q, if_neg q]
      refine ⟨Nat.le_refl _, by omega, fun z => by omega, fun _ => ⟨by simpa using q, ?_⟩⟩
      rw [show m - (k + 1) = d by omega]
def flt (P : Nat → Nat) (w : Wi) (st : PS) : Nat := if st.2.2.2 = true ∧ w.2.1 = 7 then w.2.2 else P w.1
theorem QK_eq {α : Type} {x : Option α} {v : α} (h : QK x (fun r => r = v)) : x = some v := by
  obtain ⟨a, e, rfl⟩ := h
  exact e
section RE
variable {I : Nat → Nat → Int32} {J : Nat → Nat → Int64} {R : Nat → Nat → Option Nat} {b : GB} {β : Type} {m : Nat} {W : Nat → Wd} {P : Nat → Nat} {g : Nat → Bool}
theorem C_next {k : Nat} {F : Int32 → Option β} (hR : RA R) (hW : CWd I m W P g) (h7 : I 540 7 = (Int32.ofNat (k))) (hk : k ≤ m) : (f_X6_nextWord (mg (4562 + zn J) I J R) 540).bind F = F (Int32.ofNat (nxg g (m - k) k)) := by
  have hm := hW.1
  have key : f_X6_nextWord (mg (4562 + zn J) I J R) 540 = some (Int32.ofNat (nxg g (m - k) k)) := by
    refine QK_eq ?_
    unfold f_X6_nextWord
    rw [gi_540, h7, q_let]
    refine q_bind (P := fun r => r = .inr (Int32.ofNat (nxg g (m - k) k))) ?_ ?_
    · refine q_loop (fun n s => ∃ j t, s = (540, (Int32.ofNat (j)), (Int32.ofNat (t))) ∧ k ≤ j ∧ t + k = j ∧ j + n = m ∧ nxg g (m - j) j = nxg g (m - k) k) ?_ (m := m - k) ⟨k, 0, rfl, Nat.le_refl _, by omega, by omega, rfl⟩ (by unfold xF; omega)
      rintro n s ⟨j, t, rfl, h1, h2, h3, h4⟩
      unfold f_X6_nextWord_s7
      dsimp only
      rw [q_let, q_let, q_let, gi_540, hW.2.1]
      by_cases q : j < m
      · rw [if_neg (show ¬ (Int32.ofNat (m)) ≤ (Int32.ofNat (t)) from fun y => absurd ((i32_le (by omega) (by omega)).mp y) (by omega)), gi_540, hW.2.1, if_neg (show ¬ (Int32.ofNat (m)) ≤ (Int32.ofNat (j)) from fun y => absurd ((i32_le (by omega) (by omega)).mp y) (by omega)), gr_540_4 hR, ga_544 (by omega), (hW.2.2 j q).2.2.2.1]
        rw [show m - j = m - (j + 1) + 1 by omega, nxg_c] at h4
        by_cases z : g j = true
        · rw [if_pos z] at h4
          rw [if_pos z, if_neg (by first | decide | omega), q_let, q_let, show (Int32.ofNat (j)) + 1 = (Int32.ofNat (j + 1)) from n_add j 1, show (Int32.ofNat (t)) + 1 = (Int32.ofNat (t + 1)) from n_add t 1]
          exact q_go ⟨n - 1, by omega, j + 1, t + 1, rfl, by omega, by omega, by omega, h4⟩
        · rw [if_neg z] at h4
          rw [if_neg z, if_pos rfl]
          exact q_ex (by rw [h4])
      · have e : nxg g (m - j) j = j := by
          rw [show m - j = 0 by omega]
          rfl
        rw [e] at h4
        by_cases z : m ≤ t
        · rw [if_pos (show (Int32.ofNat (m)) ≤ (Int32.ofNat (t)) from (i32_le (by omega) (by omega)).mpr z)]
          exact q_ex (by rw [h4])
        · rw [if_neg (show ¬ (Int32.ofNat (m)) ≤ (Int32.ofNat (t)) from fun y => absurd ((i32_le (by omega) (by omega)).mp y) (by omega)), gi_540, hW.2.1, if_pos (show (Int32.ofNat (m)) ≤ (Int32.ofNat (j)) from (i32_le (by omega) (by omega)).mpr (by omega))]
          exact q_ex (by rw [h4])
    · rintro _ rfl
      simp only [Sum.elim_inr]
      unfold f_X6_nextWord_j41
      exact q_ok rfl
  rw [key]
  rfl
theorem C_kindAt {j : Nat} {F : Int32 → Option β} (hR : RA R) (hW : CWd I m W P g) (hj : j ≤ 1000) : (f_X6_kindAt (mg (4562 + zn J) I J R) 540 (Int32.ofNat (j))).bind F = F (if j < m then (Int32.ofNat ((W j).1)) else 9) := by
  have hm := hW.1
  unfold f_X6_kindAt f_X6_kindAt_j21 f_X6_kindAt_j23
  rw [if_neg (i32_nlt0 (by omega)), gi_540, hW.2.1]
  by_cases q : j < m
  · rw [if_neg (show ¬ (Int32.ofNat (m)) ≤ (Int32.ofNat (j)) from fun y => absurd ((i32_le (by omega) (by omega)).mp y) (by omega)), gr_540_1 hR, ga_541 (by omega), if_pos q, (hW.2.2 j q).1]
    rfl
  · rw [if_pos (show (Int32.ofNat (m)) ≤ (Int32.ofNat (j)) from (i32_le (by omega) (by omega)).mpr (by omega)), if_neg q]
    rfl
theorem C_addLeaf {H : List Hd} {bs : List Oe} {ln : List Ln} {k : Int32} {v : Int32} (hR : RA R) (hh : CH3 I H bs ln) (c1 : bs.length < 300) (c2 : ln.length < 80) : QK (f_X6_addLeaf (mg (4562 + zn J) I J R) 540 k v) (fun r => ∃ I', r = (1, mg (4562 + zn J) I' J R) ∧ FrK (fun a j => (a = 540 ∧ (j = 8 ∨ j = 16)) ∨ (545 ≤ a ∧ a ≤ 558)) I I' ∧ CPS I' (H, (0, 1) :: bs, (((k, v, -1, 0) : Nd), 1) :: ln, false)) := by
  obtain ⟨h1, h2, h3, h4, h5⟩ := hh
  unfold f_X6_addLeaf f_X6_addLeaf_j31 f_X6_addLeaf_j32
  rw [gsz_540 rfl, if_pos ok_540, C_push hR ((up_n (by omega)).trans h4) c1, if_neg (show ¬ (1 : Int32) = 0 by decide), gr_540_17 hR, if_pos (bT_xk isTr_551)]
  have hc : CH3 (up (up (up I 540 8 0) 550 bs.length 0) 540 16 (Int32.ofNat (bs.length + 1))) H ((0, 1) :: bs) ln := CH3_push (I := up I 540 8 0) (o := (0, 1)) (CHl_keep h1 (fun a j g1 g2 g3 => up_n (by omega))) ((up_n (by omega)).trans h2) (CBl_keep h3 (fun j hj => up_n (by omega))) rfl (CN_keep h5 (fun x g1 g2 => up_r (by omega))) rfl rfl
  obtain ⟨k1, k2, k3, k4, k5⟩ := hc
  refine q_bind (T_add (r := 0) hR k5 c2 (by first | decide | omega)) ?_
  rintro _ ⟨I2, rfl, hF2, hN2⟩
  have f2 : ∀ a j, ¬ (551 ≤ a ∧ a < 556) → I2 a j = (up (up (up I 540 8 0) 550 bs.length 0) 540 16 (Int32.ofNat (bs.length + 1))) a j := fun a j g => by rw [hF2 a g]
  rw [if_neg (show ¬ (1 : Int32) = 0 by decide), q_xz1]
  refine q_ok ⟨I2, rfl, fun a j g => ?_, ⟨CHl_keep k1 (fun a j g1 g2 g3 => f2 a j (by omega)), (f2 _ _ (by omega)).trans k2, CBl_keep k3 (fun j hj => f2 _ _ (by omega)), (f2 _ _ (by omega)).trans k4, hN2⟩, ?_⟩
  · rw [f2 a j (by omega), up_n (by omega), up_n (by omega), up_n (by omega)]
  · rw [f2 _ _ (by omega), up_n (by omega), up_n (by omega), up_s]
    rfl
theorem CWd_v {i : Nat} (hW : CWd I m W P g) (hi : i < m) : I 541 i = (Int32.ofNat ((W i).1)) ∧ I 542 i = wvI (W i) ∧ I 543 i = (Int32.ofNat (P i)) ∧ WOK (W i) := ⟨(hW.2.2 i hi).1, (hW.2.2 i hi).2.1, (hW.2.2 i hi).2.2.1, (hW.2.2 i hi).2.2.2.2.1⟩
theorem i32_ne {a b : Nat} (ha : a < 2147483648) (hb : b < 2147483648) (h : a ≠ b) : ¬ (Int32.ofNat (a)) = (Int32.ofNat (b)) := fun y => h ((i32_eq ha hb).mp y)
/-- an operand is wanted -/
theorem C_takeOperand {k : Nat} {st : PS} (hR : RA R) (hC : CTb I b) (hT : TbOK b) (hW : CWd I m W P g) (hS : CPS I st) (hw : st.2.2.2 = true) (hk : k < m) (h7 : I 540 7 = (Int32.ofNat (k + 1))) (c1 : st.1.length + st.2.1.length < 300) (c2 : st.2.2.1.length + nwd (W k) ≤ 80) : QK (f_X6_takeOperand (mg (4562 + zn J) I J R) 540 (Int32.ofNat (k))) (fun r => ∃ I' x, r = (x, mg (4562 + zn J) I' J R) ∧ FrK SRd I I' ∧ ((isCl (k, W k) st (vis W g (m - (k + 1)) (k + 1)) = true ∧ x = 1 ∧ CPS I' (stF (W k).2 st) ∧ I' 540 7 = (Int32.ofNat (nxg g (m - (k + 1)) (k + 1) + 1))) ∨ (isCl (k, W k) st (vis W g (m - (k + 1)) (k + 1)) = false ∧ ((∃ st', stO b (W k) st = some st' ∧ x = 1 ∧ CPS I' st' ∧ I' 540 7 = (Int32.ofNat (k + 1))) ∨ (stO b (W k) st = none ∧ x = 0 ∧ I' 540 8 = I 540 8))))) := by
  obtain ⟨H, bs, ln, wt⟩ := st
  dsimp only at hw c1 c2
  subst hw
  have hm := hW.1
  obtain ⟨w1, w2, w3, w4⟩ := CWd_v hW hk
  obtain ⟨hh, h8⟩ := hS
  dsimp only at hh h8
  have noCl : (W k).1 ≠ 1 → isCl (k, W k) (H, bs, ln, true) (vis W g (m - (k + 1)) (k + 1)) = false := fun z => by
    unfold isCl
    split
    · rfl
    · simp [z]
  unfold f_X6_takeOperand
  rw [gr_540_2 hR, ga_542 (by omega), gr_540_1 hR, ga_541 (by omega), w1, w2]
  have leaf : ∀ kd : Int32, ((W k).1 = 0 ∧ kd = 0) ∨ ((W k).1 = 1 ∧ kd = 1) → QK ((f_X6_addLeaf (mg (4562 + zn J) I J R) 540 kd (wvI (W k))).bind (fun p5 => (xz p5.1).bind (fun b6 => some (b6, p5.2)))) (fun r => ∃ I', r = ((1 : Int32), mg (4562 + zn J) I' J R) ∧ FrK SRd I I' ∧ (∃ st', stO b (W k) (H, bs, ln, true) = some st' ∧ CPS I' st') ∧ I' 540 7 = (Int32.ofNat (k + 1))) := by
    intro kd hkd
    have hn : nwd (W k) = 1 := by unfold nwd; rcases hkd with z | z <;> rw [z.1] <;> rfl
    refine q_bind (C_addLeaf (k := kd) (v := wvI (W k)) hR hh (by omega) (by omega)) ?_
    rintro _ ⟨I2, rfl, hF2, hS2⟩
    rw [q_xz1]
    refine q_ok ⟨I2, rfl, fun a j gg => hF2 a j (fun y => gg (by unfold SRd; omega)), ?_, (hF2 _ _ (by omega)).trans h7⟩
    unfold wvI at hS2
    unfold stO
    rcases hkd with ⟨z, rfl⟩ | ⟨z, rfl⟩
    · rw [if_neg (by omega)] at hS2
      rw [if_pos z]
      exact ⟨_, rfl, hS2⟩
    · rw [if_neg (by omega)] at hS2
      rw [if_neg (by omega), if_pos z]
      exact ⟨_, rfl, hS2⟩
  rcases w4 with z | z | z | z
  · rw [z.1, if_pos (show (Int32.ofNat (0)) = (0 : Int32) from rfl), if_pos ok_540]
    obtain ⟨_, e, I', rfl, hF, ⟨st', e2, hs'⟩, h7'⟩ := leaf 0 (Or.inl ⟨z.1, rfl⟩)
    exact ⟨_, e, I', 1, rfl, hF, Or.inr ⟨noCl (by omega), Or.inl ⟨st', e2, rfl, hs', h7'⟩⟩⟩
  · rw [z.1, if_neg (show ¬ (Int32.ofNat (1)) = (0 : Int32) by decide), if_pos (show (Int32.ofNat (1)) = (1 : Int32) from rfl), if_pos ok_540, C_next hR hW h7 (by omega), if_pos ok_540, C_kindAt hR hW (by have := (nxg_ok (W := W) (g := g) (m := m) (m - (k + 1)) (k + 1) (by omega)).2.1; omega)]
    obtain ⟨n1, n2, n3, n4⟩ := nxg_ok (W := W) (g := g) (m := m) (m - (k + 1)) (k + 1) (by omega)
    generalize hj : nxg g (m - (k + 1)) (k + 1) = j at n1 n2 n3 n4 ⊢
    by_cases q : j < m ∧ (W j).1 = 4
    · have ic : isCl (k, W k) (H, bs, ln, true) (vis W g (m - (k + 1)) (k + 1)) = true := by
        rw [(n4 q.1).2]
        unfold isCl
        simp [z.1, q.2]
      rw [if_pos q.1, q.2, if_pos (show (Int32.ofNat (4)) = (4 : Int32) from rfl), show (Int32.ofNat (j)) + 1 = (Int32.ofNat (j + 1)) from n_add j 1, gs_540, if_pos ok_540, C_hold hR ((up_n (by omega)).trans hh.2.1) (by omega), q_xz1]
      refine q_ok ⟨_, 1, rfl, ?_, Or.inl ⟨ic, rfl, ⟨?_, ?_⟩, ?_⟩⟩
      · intro a i y
        unfold SRd at y
        rw [up_n (by omega), up_n (by omega), up_n (by omega), up_n (by omega), up_n (by omega), up_n (by omega), up_n (by omega)]
      · have hh2 : CH3 (up I 540 7 (Int32.ofNat (j + 1))) H bs ln := ⟨CHl_keep hh.1 (fun a j g1 g2 g3 => up_n (by omega)), (up_n (by omega)).trans hh.2.1, CBl_keep hh.2.2.1 (fun j hj => up_n (by omega)), (up_n (by omega)).trans hh.2.2.2.1, CN_keep hh.2.2.2.2 (fun x g1 g2 => up_r (by omega))⟩
        refine CH3_hold (h := (1, (W k).2, 0, 1)) hh2 ?_ (fun _ => ?_) ?_ rfl rfl
        · rfl
        · rw [if_pos rfl]
          unfold wvI
          rw [if_neg (by omega)]
        · rfl
      · rw [up_n (by omega), up_n (by omega), up_n (by omega), up_n (by omega), up_n (by omega), up_n (by omega), up_n (by omega)]
        exact h8
      · rw [up_n (by omega), up_n (by omega), up_n (by omega), up_n (by omega), up_n (by omega), up_n (by omega), up_s]
    · have ic : isCl (k, W k) (H, bs, ln, true) (vis W g (m - (k + 1)) (k + 1)) = false := by
        by_cases y : j < m
        · rw [(n4 y).2]
          unfold isCl
          simp
          exact fun _ => fun y2 => q ⟨y, y2⟩
        · rw [n3 (by omega)]
          rfl
      have e4 : ¬ (if j < m then (Int32.ofNat ((W j).1)) else 9) = (4 : Int32) := by
        by_cases y : j < m
        · rw [if_pos y]
          have := (CWd_v hW y).2.2.2
          have l8 : (W j).1 ≤ 8 := by
            rcases this with v | v | v | v <;> omega
          exact i32_ne (b := 4) (by omega) (by omega) (fun y2 => q ⟨y, y2⟩)
        · rw [if_neg y]
          decide
      rw [if_neg e4, if_pos ok_540]
      obtain ⟨_, e, I', rfl, hF, ⟨st', e2, hs'⟩, h7'⟩ := leaf 1 (Or.inr ⟨z.1, rfl⟩)
      exact ⟨_, e, I', 1, rfl, hF, Or.inr ⟨ic, Or.inl ⟨st', e2, rfl, hs', h7'⟩⟩⟩
  · have hv : wvI (W k) = (Int32.ofNat (sgc (W k).2)) := by unfold wvI; rw [if_pos z.1]
    rw [z.1, if_neg (by first | decide | omega), if_neg (by first | decide | omega), if_neg (by first | decide | omega), if_pos (show (Int32.ofNat (3)) = (3 : Int32) from rfl), gr_540_0 hR, if_pos ok_11, hv, show (0 : Int32) = (Int32.ofNat (0)) from rfl, C_rank hR hC hT z.2 (by first | decide | omega)]
    unfold f_X6_takeOperand_j138 f_X6_takeOperand_j139
    have r9 := (rk_i hT z.2 (show 0 < 3 by decide)).2
    unfold stO
    rw [if_neg (show ¬ (W k).1 = 0 by omega), if_neg (show ¬ (W k).1 = 1 by omega), if_pos z.1]
    by_cases q : 0 < rkN b (W k).2 0
    · rw [if_neg (show ¬ (Int32.ofNat (rkN b (W k).2 0)) ≤ (Int32.ofNat (0)) from fun y => absurd ((i32_le (by omega) (by omega)).mp y) (by omega)), if_pos ok_540, C_hold hR hh.2.1 (by omega), if_neg (show ¬ (1 : Int32) = (Int32.ofNat (0)) by decide), q_xz1, if_pos q]
      refine q_ok ⟨_, 1, rfl, ?_, Or.inr ⟨noCl (by omega), Or.inl ⟨_, rfl, rfl, ⟨?_, ?_⟩, ?_⟩⟩⟩
      · intro a i y
        unfold SRd at y
        rw [up_n (by omega), up_n (by omega), up_n (by omega), up_n (by omega), up_n (by omega), up_n (by omega)]
      · refine CH3_hold (h := (2, (W k).2, rkN b (W k).2 0 + 1, 0)) hh ?_ (fun _ => ?_) ?_ (n_add _ 1) rfl
        · rfl
        · rfl
        · rfl
      · rw [up_n (by omega), up_n (by omega), up_n (by omega), up_n (by omega), up_n (by omega), up_n (by omega)]
        exact h8
      · rw [up_n (by omega), up_n (by omega), up_n (by omega), up_n (by omega), up_n (by omega), up_n (by omega)]
        exact h7
    · rw [if_pos (show (Int32.ofNat (rkN b (W k).2 0)) ≤ (Int32.ofNat (0)) from (i32_le (by omega) (by omega)).mpr (by omega)), show (Int32.ofNat (0)) = (0 : Int32) from rfl, q_xz0, if_neg q]
      exact q_ok ⟨I, 0, rfl, FrK_rfl, Or.inr ⟨noCl (by omega), Or.inr ⟨rfl, rfl, rfl⟩⟩⟩
  · have l8 := z.2.1
    unfold f_X6_takeOperand_j140
    rw [if_neg (show ¬ _ = (0 : Int32) from i32_ne (b := 0) (by omega) (by omega) (by omega)), if_neg (show ¬ _ = (1 : Int32) from i32_ne (b := 1) (by omega) (by omega) (by omega)), if_neg (show ¬ _ = (2 : Int32) from i32_ne (b := 2) (by omega) (by omega) (by omega)), if_neg (show ¬ _ = (3 : Int32) from i32_ne (b := 3) (by omega) (by omega) (by omega))]
    unfold stO
    rw [if_neg (show ¬ (W k).1 = 0 by omega), if_neg (show ¬ (W k).1 = 1 by omega), if_neg (show ¬ (W k).1 = 3 by omega)]
    by_cases q : (W k).1 = 4
    · rw [if_pos (show (Int32.ofNat ((W k).1)) = (4 : Int32) by rw [q]; rfl), if_pos ok_540, C_hold hR hh.2.1 (by omega), q_xz1, if_pos q]
      refine q_ok ⟨_, 1, rfl, ?_, Or.inr ⟨noCl (by omega), Or.inl ⟨_, rfl, rfl, ⟨?_, ?_⟩, ?_⟩⟩⟩
      · intro a i y
        unfold SRd at y
        rw [up_n (by omega), up_n (by omega), up_n (by omega), up_n (by omega), up_n (by omega), up_n (by omega)]
      · refine CH3_hold (h := (0, 0, 0, 0)) hh ?_ (fun y => absurd rfl y) ?_ rfl rfl
        · rfl
        · rfl
      · rw [up_n (by omega), up_n (by omega), up_n (by omega), up_n (by omega), up_n (by omega), up_n (by omega)]
        exact h8
      · rw [up_n (by omega), up_n (by omega), up_n (by omega), up_n (by omega), up_n (by omega), up_n (by omega)]
        exact h7
    · rw [if_neg (show ¬ _ = (4 : Int32) from i32_ne (b := 4) (by omega) (by omega) q), if_neg q]
      exact q_ok ⟨I, 0, rfl, FrK_rfl, Or.inr ⟨noCl (by omega), Or.inr ⟨rfl, rfl, rfl⟩⟩⟩
end RE
