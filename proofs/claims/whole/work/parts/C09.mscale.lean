/-! polynomials: the reference's quotients -/
section MSQ
variable {I : Nat → Nat → Int32} {J : Nat → Nat → Int64} {R : Nat → Nat → Option Nat} {β : Type} {r : Nat} {p q : Po}
theorem M_scaleLoop {c : Rat} {s0 : Int32} {k : Prop} (hR : RA R) (hr : r + 1 < 90) (hP : MRow I r p) (hQ : Vv (I 4564) (2700 + 9 * (r + 1) + 0) c.num c.den) (hs : (s0 = 1 ∧ c ≠ 0 ∧ k) ∨ (s0 = 0 ∧ ¬ k)) : QK (f_X12_scalePolynomials_j25 (mg 4625 I J R) 4561 (Int32.ofNat (r)) (Int32.ofNat (r + 1)) s0) (fun y => ∃ I', R3 I I' ∧ Kvs (fun x => 2700 + 9 * r ≤ x ∧ x < 2709 + 9 * r) (I 4564) (I' 4564) ∧ (((k ∧ FitA (sclP p c)) ∧ y = (1, mg 4625 I' J R) ∧ MRow I' r (sclP p c)) ∨ (¬ (k ∧ FitA (sclP p c)) ∧ y = (0, mg 4625 I' J R)))) := by
  unfold f_X12_scalePolynomials_j25
  rw [q_let]
  refine q_bind (P := fun x => ∃ I' u, x = .inr (u, mg 4625 I' J R) ∧ R3 I I' ∧ Kvs (fun x => 2700 + 9 * r ≤ x ∧ x < 2709 + 9 * r) (I 4564) (I' 4564) ∧ (((k ∧ FitA (sclP p c)) ∧ u = 1 ∧ MRow I' r (sclP p c)) ∨ (¬ (k ∧ FitA (sclP p c)) ∧ u = 0))) ?_ ?_
  · refine q_for 9 (fun i s => ∃ I' u, s = (4561, (Int32.ofNat (r)), (Int32.ofNat (r + 1)), u, (Int32.ofNat (i)), mg 4625 I' J R) ∧ R3 I I' ∧ Kvs (fun x => 2700 + 9 * r ≤ x ∧ x < 2709 + 9 * r) (I 4564) (I' 4564) ∧ ((u = 1 ∧ c ≠ 0 ∧ k ∧ (∀ j, j < i → Fit (sclP p c j)) ∧ ∀ j, j < 9 → Vv (I' 4564) (2700 + 9 * r + j) (if j < i then (sclP p c j).num else (p j).num) (if j < i then (sclP p c j).den else (p j).den)) ∨ (u = 0 ∧ ¬ (k ∧ FitA (sclP p c))))) ?_ ?_ (i := 0) ⟨I, s0, rfl, R3_rfl, Kvs_rfl, ?_⟩ (by omega) (by unfold xF; omega)
    · rintro i s hi ⟨I1, u, rfl, r1, k1, ⟨rfl, hc, hk, g1, g2⟩ | ⟨rfl, nf⟩⟩
      · have P1 := g2 i hi
        rw [if_neg (by omega), if_neg (by omega)] at P1
        have Q1 : Vv (I1 4564) (2700 + 9 * (r + 1) + 0) c.num c.den := Vv_ks hQ k1 (by omega)
        have cn : c.num ≠ 0 := fun y => hc (rat_0.mp y)
        have D0 : 0 < (p i).den * c.num.natAbs := Nat.mul_pos (Nat.pos_of_ne_zero (p i).den_nz) (by omega)
        unfold f_X12_scalePolynomials_s29
        dsimp only
        rw [q_let, q_let, q_let, q_let, q_let, q_let, if_neg (show ¬ (9 : Int32) ≤ (Int32.ofNat (i)) from fun y => absurd ((i32_le (k := 9) (by omega) (by omega)).mp y) (by omega)), if_neg (by decide), cAt, Option.bind_some, Option.bind_some, show (0 : Int32) = (Int32.ofNat (0)) from rfl, cAt, Option.bind_some, if_pos ok_4561]
        refine q_bind (M_div (i := 2700 + 9 * r + i) (a := 2700 + 9 * r + i) (b := 2700 + 9 * (r + 1) + 0) hR (by omega) (by omega) (by omega) cn P1 Q1) ?_
        rintro _ ⟨I2, y, rfl, r2, st⟩
        rw [q_let, show (Int32.ofNat (i)) + (1 : Int32) = (Int32.ofNat (i + 1)) from n_add i 1]
        obtain ⟨kv, h⟩ := Sto_rat (x := sclP p c i) st D0 rfl
        refine q_go ⟨I2, y, rfl, R3_tr r1 r2, Kvs_tr k1 (Kv_s kv ⟨by omega, by omega⟩), ?_⟩
        rcases h with ⟨ft, e, V⟩ | ⟨ft, e⟩
        · refine Or.inl ⟨e, hc, hk, fun j hj => ?_, fun j hj => ?_⟩
          · by_cases z : j < i
            · exact g1 j z
            · rw [show j = i by omega]; exact ft
          · by_cases z : j = i
            · subst z
              rw [if_pos (by omega), if_pos (by omega)]
              exact V
            · have := (g2 j hj).keep kv (by omega)
              by_cases z2 : j < i
              · rw [if_pos z2, if_pos z2] at this
                rw [if_pos (by omega), if_pos (by omega)]
                exact this
              · rw [if_neg z2, if_neg z2] at this
                rw [if_neg (by omega), if_neg (by omega)]
                exact this
        · exact Or.inr ⟨e, fun y => ft (y.2 i hi)⟩
      · have stp : f_X12_scalePolynomials_s29 (4561, (Int32.ofNat (r)), (Int32.ofNat (r + 1)), 0, (Int32.ofNat (i)), mg 4625 I1 J R) = some (.inr (.inl (0, mg 4625 I1 J R))) := by
          unfold f_X12_scalePolynomials_s29
          dsimp only
          rw [q_let, q_let, q_let, q_let, q_let, q_let]
          split
          · rfl
          · rw [if_pos rfl]
        rw [stp]
        exact q_ex ⟨I1, 0, rfl, r1, k1, Or.inr ⟨nf, rfl⟩⟩
    · rintro s ⟨I1, u, rfl, r1, k1, h⟩
      unfold f_X12_scalePolynomials_s29
      dsimp only
      rw [q_let, q_let, q_let, q_let, q_let, q_let, if_pos (by decide)]
      refine q_ex ⟨I1, u, rfl, r1, k1, ?_⟩
      rcases h with ⟨e, -, hk, g1, g2⟩ | ⟨e, nf⟩
      · refine Or.inl ⟨⟨hk, g1⟩, e, fun j hj => ?_⟩
        have := g2 j hj
        rw [if_pos hj, if_pos hj] at this
        exact this
      · exact Or.inr ⟨nf, e⟩
    · rcases hs with ⟨e, hc, hk⟩ | ⟨e, nk⟩
      · exact Or.inl ⟨e, hc, hk, fun j hj => absurd hj (Nat.not_lt_zero _), fun j hj => hP j hj⟩
      · exact Or.inr ⟨e, fun y => nk y.1⟩
  · rintro _ ⟨I1, u, rfl, r1, k1, ⟨fa, rfl, g⟩ | ⟨nf, rfl⟩⟩
    · simp only [Sum.elim_inr]
      unfold f_X12_scalePolynomials_j68
      exact q_ok ⟨I1, r1, k1, Or.inl ⟨fa, rfl, g⟩⟩
    · simp only [Sum.elim_inr]
      unfold f_X12_scalePolynomials_j68
      exact q_ok ⟨I1, r1, k1, Or.inr ⟨nf, rfl⟩⟩
theorem M_scaleRows (hR : RA R) (hr : r + 1 < 90) (hP : MRow I r p) (hQ : MRow I (r + 1) q) : QK (f_X12_scalePolynomials (mg 4625 I J R) 4561 (Int32.ofNat (r)) (Int32.ofNat (r + 1))) (fun y => ∃ I', R3 I I' ∧ Kvs (fun x => 2700 + 9 * r ≤ x ∧ x < 2709 + 9 * r) (I 4564) (I' 4564) ∧ ((((dgP q = 0 ∧ q 0 ≠ 0) ∧ FitA (sclP p (q 0))) ∧ y = (1, mg 4625 I' J R) ∧ MRow I' r (sclP p (q 0))) ∨ (¬ ((dgP q = 0 ∧ q 0 ≠ 0) ∧ FitA (sclP p (q 0))) ∧ y = (0, mg 4625 I' J R)))) := by
  have d2 : dgP q ≤ 8 := dgF_le q 8
  have q0 := hQ 0 (by decide)
  unfold f_X12_scalePolynomials f_X12_scalePolynomials_j24
  rw [if_pos ok_4561, M_degreeOf hR hr hQ, Option.bind_some]
  by_cases e0 : dgP q = 0
  · rw [if_pos (show (Int32.ofNat (dgP q)) = (0 : Int32) by rw [e0]; rfl), show f_X12_coefficientAt (mg 4625 I J R) (Int32.ofNat (r + 1)) 0 = some (Int32.ofNat (2700 + 9 * (r + 1) + 0)) from cAt (k := 0), Option.bind_some, if_pos ok_4561, M_sign hR (by omega) q0, Option.bind_some]
    by_cases z : q 0 = 0
    · rw [if_pos (ofInt_sign0.mpr (rat_0.mpr z))]
      exact M_scaleLoop (k := dgP q = 0 ∧ q 0 ≠ 0) hR hr hP q0 (Or.inr ⟨rfl, fun y => y.2 z⟩)
    · rw [if_neg (fun y => z (rat_0.mp (ofInt_sign0.mp y)))]
      exact M_scaleLoop (k := dgP q = 0 ∧ q 0 ≠ 0) hR hr hP q0 (Or.inl ⟨rfl, z, e0, z⟩)
  · rw [if_neg (show ¬ (Int32.ofNat (dgP q)) = (0 : Int32) from i32_ne (b := 0) (by omega) (by omega) e0)]
    exact M_scaleLoop (k := dgP q = 0 ∧ q 0 ≠ 0) hR hr hP q0 (Or.inr ⟨rfl, fun y => e0 y.1⟩)
end MSQ
