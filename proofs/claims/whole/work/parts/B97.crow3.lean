/-! polynomials: the class's quotients and negations -/
theorem dgF_cg {p q : Po} : ∀ k, (∀ j, j ≤ k → (p j = 0 ↔ q j = 0)) → dgF p k = dgF q k := by
  intro k
  induction k with
  | zero => intro _; rfl
  | succ k ih =>
    intro h
    have := ih (fun j hj => h j (by omega))
    show (if p (k + 1) = 0 then dgF p k else k + 1) = (if q (k + 1) = 0 then dgF q k else k + 1)
    by_cases z : p (k + 1) = 0
    · rw [if_pos z, if_pos ((h (k + 1) (Nat.le_refl _)).mp z), this]
    · rw [if_neg z, if_neg (fun y => z ((h (k + 1) (Nat.le_refl _)).mpr y))]
theorem sclP_0 {p : Po} {c : Rat} (hc : c ≠ 0) (i : Nat) : sclP p c i = 0 ↔ p i = 0 := by
  have cn : c.num ≠ 0 := fun y => hc (rat_0.mp y)
  have cd : (c.den : Int) ≠ 0 := by have := c.den_nz; omega
  have cs : c.num.sign ≠ 0 := fun y => cn (Int.sign_eq_zero_iff_zero.mp y)
  have d0 : (p i).den * c.num.natAbs ≠ 0 := Nat.mul_ne_zero (p i).den_nz (by omega)
  unfold sclP
  rw [Rat.mkRat_eq_zero d0, ← rat_0]
  constructor
  · intro h
    rcases Int.mul_eq_zero.mp h with h | h
    · rcases Int.mul_eq_zero.mp h with h | h
      · exact h
      · exact absurd h cd
    · exact absurd h cs
  · intro h
    rw [h, Int.zero_mul, Int.zero_mul]
section CR3
variable {I : Nat → Nat → Int32} {J : Nat → Nat → Int64} {R : Nat → Nat → Option Nat} {β : Type} {r : Nat} {p q : Po}
theorem C_settledS {w : Nat} {A B : Int} (hR : RA R) (hW : FU I w 100 A B) (hB : B ≠ 0) : QK (f_X0_settle (mg 4625 I J R) 1 w) (fun σ => ∃ I', σ = mg 4625 I' J R ∧ FrS (Sa w) I I' ∧ FU I' w 100 (mkRat (A * B.sign) B.natAbs).num (mkRat (A * B.sign) B.natAbs).den) := by
  refine q_mono (A_settle hR hW hB) ?_
  rintro _ ⟨I1, rfl, f1, W1⟩
  obtain ⟨e1, e2⟩ := rat_rz (z := A * B.sign) (show 0 < B.natAbs by omega)
  rw [← e1, ← e2] at W1
  exact ⟨I1, rfl, f1, W1⟩
theorem C_divideRow (hR : RA R) (hr : r + 1 < 48) (hP : CRow I r p) (hQ : CRow I (r + 1) q) (fp : FitA p) (fq : FitA q) : QK (f_X3_divideRow (mg 4625 I J R) 2215 (Int32.ofNat (r))) (fun y => ∃ I', FrK (Fga r) I I' ∧ ((dgP q = 0 ∧ q 0 ≠ 0 ∧ FitA (sclP p (q 0)) ∧ y = (1, mg 4625 I' J R) ∧ CRow I' r (sclP p (q 0))) ∨ (¬ (dgP q = 0 ∧ q 0 ≠ 0 ∧ FitA (sclP p (q 0))) ∧ y = (0, mg 4625 I' J R)))) := by
  have d1 : dgP p ≤ 8 := dgF_le p 8
  have d2 : dgP q ≤ 8 := dgF_le q 8
  have hQ0 := hQ.1 0 (by decide)
  unfold f_X3_divideRow f_X3_divideRow_j30
  rw [gr_2215_2 hR, show (Int32.ofNat (r)) + (1 : Int32) = (Int32.ofNat (r + 1)) from n_add r 1, show (Int32.ofNat (r + 1)) * (9 : Int32) = (Int32.ofNat ((r + 1) * 9)) from n_mul (r + 1) 9, C_rw hR (by omega), gr_2215_3 hR, ga_2217 (by omega), hQ.2, show (r + 1) * 9 = 9 * (r + 1) + 0 by omega]
  by_cases e0 : dgP q = 0
  rotate_left
  · rw [if_neg (show ¬ (Int32.ofNat (dgP q)) = (0 : Int32) from i32_ne (b := 0) (by omega) (by omega) e0)]
    exact q_ok ⟨I, FrK_rfl, Or.inr ⟨fun y => e0 y.1, rfl⟩⟩
  rw [if_pos (show (Int32.ofNat (dgP q)) = (0 : Int32) by rw [e0]; rfl), if_pos (bF_xk hQ0.1), F_isZero hR hQ0, Option.bind_some]
  by_cases z0 : q 0 = 0
  · rw [if_pos (rat_0.mpr z0), if_neg (by decide)]
    exact q_ok ⟨I, FrK_rfl, Or.inr ⟨fun y => y.2.1 z0, rfl⟩⟩
  have cn : (q 0).num ≠ 0 := fun y => z0 (rat_0.mp y)
  rw [if_neg cn, if_pos rfl, q_let, show (Int32.ofNat (r)) * (9 : Int32) = (Int32.ofNat (r * 9)) from n_mul r 9]
  have s0 : ∀ i, sclP p (q 0) i = 0 ↔ p i = 0 := sclP_0 z0
  have hi0 : ∀ i, i < 9 → dgP p < i → p i = 0 := fun i h1 h2 => dgF_0 p 8 i h2 (by omega)
  refine q_bind (P := fun x => (∃ I', x = .inr (.inr (mg 4625 I' J R)) ∧ FrK (Fga r) I I' ∧ I' 2217 = I 2217 ∧ FitA (sclP p (q 0)) ∧ (∀ i, i < 9 → FU I' (2246 + 5 * (9 * r + i)) 7 (sclP p (q 0) i).num (sclP p (q 0) i).den)) ∨ ∃ I', x = .inr (.inl (mg 4625 I' J R)) ∧ FrK (Fga r) I I' ∧ ¬ FitA (sclP p (q 0))) ?_ ?_
  · refine q_for (dgP p + 1) (fun i s => ∃ I', s = (2215, (Int32.ofNat (r)), 2246 + 5 * (9 * (r + 1) + 0), (Int32.ofNat (r * 9 + i)), mg 4625 I' J R) ∧ FrK (Fga r) I I' ∧ I' 2217 = I 2217 ∧ (∀ j, j < i → Fit (sclP p (q 0) j)) ∧ (∀ j, j < 9 → FU I' (2246 + 5 * (9 * r + j)) 7 (if j < i then (sclP p (q 0) j).num else (p j).num) (if j < i then (sclP p (q 0) j).den else (p j).den)) ∧ FU I' (2246 + 5 * (9 * (r + 1) + 0)) 7 (q 0).num (q 0).den) ?_ ?_ (i := 0) ⟨I, rfl, FrK_rfl, rfl, fun j hj => absurd hj (Nat.not_lt_zero _), fun j hj => hP.1 j hj, hQ0⟩ (by omega) (by unfold xF; omega)
    · rintro i s hi ⟨I1, rfl, f1, k1, g1, g2, g3⟩
      have i9 : i < 9 := by omega
      have P1 := g2 i i9
      rw [if_neg (by omega), if_neg (by omega)] at P1
      unfold f_X3_divideRow_s37
      dsimp only
      rw [q_let, q_let, q_let, q_let, q_let, gr_2215_3 hR, ga_2217 (by omega), k1, hP.2, show (Int32.ofNat (r)) * (9 : Int32) = (Int32.ofNat (r * 9)) from n_mul r 9, n_add, if_neg (show ¬ (Int32.ofNat (r * 9 + dgP p)) < (Int32.ofNat (r * 9 + i)) from fun y => absurd ((i32_lt (by omega) (by omega)).mp y) (by omega)), gr_2215_1 hR, gr_2215_7 hR, gr_2215_2 hR, C_rw hR (by omega), if_pos (show xk (mg 4625 I1 J R) 1 0 = true from ok_1), show r * 9 + i = 9 * r + i by omega]
      refine q_bind (A_over (p := 7) (q := 7) hR isF_2220 P1 g3 (Fit_7 (fp i i9)).1 (Fit_7 (fp i i9)).2 (Fit_7 (fq 0 (by decide))).1 (Fit_7 (fq 0 (by decide))).2 (by decide)) ?_
      rintro _ ⟨I2, rfl, f2, W2⟩
      rw [gr_2215_1 hR, gr_2215_7 hR, if_pos (show xk (mg 4625 I2 J R) 1 0 = true from ok_1)]
      have pd : (0 : Int) < ((p i).den : Int) := by have := (p i).den_nz; omega
      have B0 : ((p i).den : Int) * (q 0).num ≠ 0 := Int.mul_ne_zero (by omega) cn
      refine q_bind (C_settledS hR W2 B0) ?_
      rintro _ ⟨I3, rfl, f3, W3⟩
      have es : mkRat ((p i).num * (q 0).den * (((p i).den : Int) * (q 0).num).sign) (((p i).den : Int) * (q 0).num).natAbs = sclP p (q 0) i := by
        unfold sclP
        rw [Int.sign_mul, Int.sign_eq_one_of_pos pd, Int.one_mul, Int.natAbs_mul, Int.natAbs_natCast]
      rw [es] at W3
      have f13 : FrK (Fga r) I I3 := FrK_tr f1 (FrK_tr (Sa_Fga (Or.inl rfl) f2) (Sa_Fga (Or.inl rfl) f3))
      rw [gr_2215_7 hR, if_pos (bF_xk isF_2220), F_fits hR W3, Option.bind_some, Int.natAbs_natCast]
      by_cases ft : Fit (sclP p (q 0) i)
      · rw [if_pos ft, if_neg (by decide), gr_2215_2 hR, C_rw hR (by omega), gr_2215_7 hR, if_pos (bF_xk (isF_row (by omega)))]
        refine q_bind (F_copy hR (isF_row (by omega)) W3 (Fit_7 ft).1 (Fit_7 ft).2 (by omega)) ?_
        rintro _ ⟨I4, rfl, f4, W4⟩
        rw [q_let, show (Int32.ofNat (9 * r + i)) + (1 : Int32) = (Int32.ofNat (r * 9 + (i + 1))) from (n_add (9 * r + i) 1).trans (by congr 1 <;> omega)]
        have k4 : ∀ x, 2246 ≤ x → (x < 2246 + 5 * (9 * r + i) ∨ 2246 + 5 * (9 * r + i) + 5 ≤ x) → I4 x = I1 x := fun x h1 h2 => by
          rw [f4 x (fun z => by unfold Sf at z; omega), f3 x (fun z => by unfold Sa at z; omega), f2 x (fun z => by unfold Sa at z; omega)]
        refine q_go ⟨I4, rfl, ?_, ?_, fun j hj => ?_, fun j hj => ?_, ?_⟩
        · refine FrK_tr f13 (fun x k y => ?_)
          rw [f4 x (fun z => by unfold Sf at z; unfold Fga at y; omega)]
        · rw [f4 2217 (fun z => by unfold Sf at z; omega), f3 2217 (fun z => by unfold Sa at z; omega), f2 2217 (fun z => by unfold Sa at z; omega)]
          exact k1
        · by_cases z : j < i
          · exact g1 j z
          · rw [show j = i by omega]; exact ft
        · by_cases z : j = i
          · subst z
            rw [if_pos (by omega), if_pos (by omega)]
            exact W4
          · have := FU_keep (g2 j hj) (I' := I4) (fun x h1 h2 => k4 x (by omega) (by omega))
            by_cases z2 : j < i
            · rw [if_pos z2, if_pos z2] at this
              rw [if_pos (by omega), if_pos (by omega)]
              exact this
            · rw [if_neg z2, if_neg z2] at this
              rw [if_neg (by omega), if_neg (by omega)]
              exact this
        · exact FU_keep g3 (fun x h1 h2 => k4 x (by omega) (by omega))
      · rw [if_neg ft, if_pos rfl]
        exact q_ex (Or.inr ⟨I3, rfl, f13, fun y => ft (y i i9)⟩)
    · rintro s ⟨I1, rfl, f1, k1, g1, g2, g3⟩
      unfold f_X3_divideRow_s37
      dsimp only
      rw [q_let, q_let, q_let, q_let, q_let, gr_2215_3 hR, ga_2217 (by omega), k1, hP.2, show (Int32.ofNat (r)) * (9 : Int32) = (Int32.ofNat (r * 9)) from n_mul r 9, n_add, if_pos ((i32_lt (by omega) (by omega)).mpr (by omega))]
      refine q_ex (Or.inl ⟨I1, rfl, f1, k1, fun j hj => ?_, fun j hj => ?_⟩)
      · by_cases z : j < dgP p + 1
        · exact g1 j z
        · rw [(s0 j).mpr (hi0 j hj (by omega))]
          exact Fit_0
      · have := g2 j hj
        by_cases z : j < dgP p + 1
        · rw [if_pos z, if_pos z] at this
          exact this
        · rw [if_neg z, if_neg z] at this
          have e1 := hi0 j hj (by omega)
          rw [(s0 j).mpr e1]
          rw [e1] at this
          exact this
  · rintro x (⟨I1, rfl, f1, k1, fa, g1⟩ | ⟨I1, rfl, f1, fa⟩)
    · simp only [Sum.elim_inr]
      unfold f_X3_divideRow_j112
      refine q_ok ⟨I1, f1, Or.inl ⟨e0, z0, fa, rfl, g1, ?_⟩⟩
      rw [k1, hP.2]
      congr 1
      exact dgF_cg 8 (fun j _ => (s0 j).symm)
    · simp only [Sum.elim_inr, Sum.elim_inl]
      unfold f_X3_divideRow_j91
      exact q_ok ⟨I1, f1, Or.inr ⟨fun y => fa y.2.2, rfl⟩⟩
theorem C_negateRow (hR : RA R) (hr : r < 48) (hP : CRow I r p) : QK (f_X3_negate (mg 4625 I J R) 2215 (Int32.ofNat (r))) (fun y => ∃ I', FrK (Fga r) I I' ∧ y = (1, mg 4625 I' J R) ∧ CRow I' r (negP p)) := by
  unfold f_X3_negate
  rw [if_pos (show (0 : Int32) ≤ (Int32.ofNat (r)) from i32_0le (by omega)), q_let]
  refine q_bind (P := fun x => ∃ I', x = .inr (mg 4625 I' J R) ∧ FrK (Fga r) I I' ∧ I' 2217 = I 2217 ∧ (∀ i, i < 9 → FU I' (2246 + 5 * (9 * r + i)) 7 (-(p i).num) (p i).den)) ?_ ?_
  · refine q_for 9 (fun i s => ∃ I', s = (2215, (Int32.ofNat (r)), (Int32.ofNat (i)), mg 4625 I' J R) ∧ FrK (Fga r) I I' ∧ I' 2217 = I 2217 ∧ (∀ j, j < 9 → FU I' (2246 + 5 * (9 * r + j)) 7 (if j < i then -(p j).num else (p j).num) (p j).den)) ?_ ?_ (i := 0) ⟨I, rfl, FrK_rfl, rfl, fun j hj => hP.1 j hj⟩ (by omega) (by unfold xF; omega)
    · rintro i s hi ⟨I1, rfl, f1, k1, g2⟩
      have P1 := g2 i hi
      rw [if_neg (by omega)] at P1
      unfold f_X3_negate_s8
      dsimp only
      rw [q_let, q_let, q_let, q_let, if_neg (show ¬ (9 : Int32) ≤ (Int32.ofNat (i)) from fun y => absurd ((i32_le (k := 9) (by omega) (by omega)).mp y) (by omega)), gr_2215_2 hR, show (Int32.ofNat (r)) * (9 : Int32) = (Int32.ofNat (r * 9)) from n_mul r 9, n_add, C_rw hR (by omega), show r * 9 + i = 9 * r + i by omega, bF_g0 P1.1 hR, if_pos (bW_xk P1.1.2.2.2.2.2.1)]
      refine q_bind (W_flip P1.2.1) ?_
      rintro _ ⟨I2, rfl, f2, W2⟩
      rw [q_let, show (Int32.ofNat (i)) + (1 : Int32) = (Int32.ofNat (i + 1)) from n_add i 1]
      refine q_go ⟨I2, rfl, ?_, ?_, fun j hj => ?_⟩
      · refine FrK_tr f1 (fun x k y => ?_)
        rw [f2 x (fun z => by unfold Fga at y; omega)]
      · rw [f2 2217 (by omega)]
        exact k1
      · by_cases z : j = i
        · subst z
          rw [if_pos (by omega)]
          exact ⟨P1.1, W2, Wz_fr P1.2.2 f2 (by omega) (by omega)⟩
        · have := FU_keep (g2 j hj) (I' := I2) (fun x h1 h2 => f2 x (by omega))
          by_cases z2 : j < i
          · rw [if_pos z2] at this
            rw [if_pos (by omega)]
            exact this
          · rw [if_neg z2] at this
            rw [if_neg (by omega)]
            exact this
    · rintro s ⟨I1, rfl, f1, k1, g2⟩
      unfold f_X3_negate_s8
      dsimp only
      rw [q_let, q_let, q_let, q_let, if_pos (by decide)]
      refine q_ex ⟨I1, rfl, f1, k1, fun j hj => ?_⟩
      have := g2 j hj
      rw [if_pos hj] at this
      exact this
  · rintro _ ⟨I1, rfl, f1, k1, g1⟩
    simp only [Sum.elim_inr]
    unfold f_X3_negate_j37
    refine q_ok ⟨I1, f1, rfl, fun i hi => g1 i hi, ?_⟩
    rw [k1, hP.2]
    congr 1
    exact dgF_cg 8 (fun j _ => by
      show p j = 0 ↔ - p j = 0
      rw [← rat_0, ← rat_0, Rat.neg_num]
      omega)
end CR3
