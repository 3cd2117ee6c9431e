/-! polynomials: the reference's products -/
theorem Wide_mono {I : Nat → Nat → Int32} {z : Int} {d K K' : Nat} (h : Wide I z d K) (hk : K ≤ K') : Wide I z d K' := by
  obtain ⟨h1, h2, h3, h4, h5, h6⟩ := h
  have := Bp_le hk
  exact ⟨h1, h2, h3, h4, by omega, by omega⟩
section MMU
variable {I : Nat → Nat → Int32} {J : Nat → Nat → Int64} {R : Nat → Nat → Option Nat} {β : Type} {r i : Nat} {p q : Po}
theorem M_mulIn (hR : RA R) (hr : r + 2 < 90) (hi : i < 9) (hP : MRow I r p) (hQ : MRow I (r + 1) q) (hW : Wide I 0 1 1) : QK (xloop f_X12_multiplyPolynomials_s45 xF (4561, (Int32.ofNat (r + 2)), (Int32.ofNat (r)), (Int32.ofNat (r + 1)), (Int32.ofNat (i)), 0, mg 4625 I J R)) (fun x => ∃ I', x = .inr (4561, (Int32.ofNat (r + 2)), (Int32.ofNat (r)), (Int32.ofNat (r + 1)), (Int32.ofNat (i)), mg 4625 I' J R) ∧ R4 I I' ∧ I' 4564 = I 4564 ∧ Wide I' (mulP p q i).num (mulP p q i).den 300) := by
  refine q_for (i + 1) (fun j s => ∃ I', s = (4561, (Int32.ofNat (r + 2)), (Int32.ofNat (r)), (Int32.ofNat (r + 1)), (Int32.ofNat (i)), (Int32.ofNat (j)), mg 4625 I' J R) ∧ R4 I I' ∧ I' 4564 = I 4564 ∧ Wide I' (suR (fun j => p j * q (i - j)) j).num (suR (fun j => p j * q (i - j)) j).den (27 * j + 1)) ?_ ?_ (i := 0) ⟨I, rfl, R4_rfl, rfl, hW⟩ (by omega) (by unfold xF; omega)
  · rintro j s hj ⟨I1, rfl, r1, v1, W1⟩
    have P1 : Vv (I1 4564) (2700 + 9 * r + j) (p j).num (p j).den := by rw [v1]; exact hP j (by omega)
    have Q1 : Vv (I1 4564) (2700 + 9 * (r + 1) + (i - j)) (q (i - j)).num (q (i - j)).den := by rw [v1]; exact hQ (i - j) (by omega)
    have skip : p j * q (i - j) = 0 → QK (f_X12_multiplyPolynomials_j101 (mg 4625 I1 J R) 4561 (Int32.ofNat (r + 2)) (Int32.ofNat (r)) (Int32.ofNat (r + 1)) (Int32.ofNat (i)) (Int32.ofNat (j))) (qS (fun s => ∃ I', s = (4561, (Int32.ofNat (r + 2)), (Int32.ofNat (r)), (Int32.ofNat (r + 1)), (Int32.ofNat (i)), (Int32.ofNat (j + 1)), mg 4625 I' J R) ∧ R4 I I' ∧ I' 4564 = I 4564 ∧ Wide I' (suR (fun j => p j * q (i - j)) (j + 1)).num (suR (fun j => p j * q (i - j)) (j + 1)).den (27 * (j + 1) + 1)) (fun x => ∃ I', x = .inr (4561, (Int32.ofNat (r + 2)), (Int32.ofNat (r)), (Int32.ofNat (r + 1)), (Int32.ofNat (i)), mg 4625 I' J R) ∧ R4 I I' ∧ I' 4564 = I 4564 ∧ Wide I' (mulP p q i).num (mulP p q i).den 300)) := fun e => by
      unfold f_X12_multiplyPolynomials_j101
      rw [q_let, show (Int32.ofNat (j)) + (1 : Int32) = (Int32.ofNat (j + 1)) from n_add j 1]
      refine q_go ⟨I1, rfl, r1, v1, ?_⟩
      have es : suR (fun j => p j * q (i - j)) (j + 1) = suR (fun j => p j * q (i - j)) j := by
        show suR (fun j => p j * q (i - j)) j + p j * q (i - j) = _
        rw [e, Rat.add_zero]
      rw [es]
      exact Wide_mono W1 (by omega)
    unfold f_X12_multiplyPolynomials_s45
    dsimp only
    rw [q_let, q_let, q_let, q_let, q_let, q_let, q_let, if_neg (show ¬ (Int32.ofNat (i)) < (Int32.ofNat (j)) from fun y => absurd ((i32_lt (by omega) (by omega)).mp y) (by omega)), cAt, Option.bind_some, if_pos ok_4561, M_sign hR (by omega) P1, Option.bind_some]
    by_cases z : p j = 0
    · rw [if_pos (ofInt_sign0.mpr (rat_0.mpr z))]
      exact skip (by rw [z, Rat.zero_mul])
    rw [if_neg (fun y => z (rat_0.mp (ofInt_sign0.mp y))), show (Int32.ofNat (i)) - (Int32.ofNat (j)) = (Int32.ofNat (i - j)) from n_sub (by omega), cAt, Option.bind_some, if_pos ok_4561, M_sign hR (by omega) Q1, Option.bind_some]
    by_cases z2 : q (i - j) = 0
    · rw [if_pos (ofInt_sign0.mpr (rat_0.mpr z2))]
      exact skip (by rw [z2, Rat.mul_zero])
    rw [if_neg (fun y => z2 (rat_0.mp (ofInt_sign0.mp y))), Option.bind_some, Option.bind_some, if_pos ok_4561, ← ofInt_p1]
    refine q_bind (M_addProduct (a := 2700 + 9 * r + j) (b := 2700 + 9 * (r + 1) + (i - j)) (e := 1) hR (by omega) (by omega) P1 Q1 (Or.inl rfl) W1 (by omega)) ?_
    rintro _ ⟨I2, rfl, r2, v2, W2⟩
    unfold f_X12_multiplyPolynomials_j101
    rw [q_let, show (Int32.ofNat (j)) + (1 : Int32) = (Int32.ofNat (j + 1)) from n_add j 1]
    refine q_go ⟨I2, rfl, R4_tr r1 r2, v2.trans v1, ?_⟩
    have D0 : 0 < (suR (fun j => p j * q (i - j)) j).den * ((p j).den * (q (i - j)).den) := Nat.mul_pos (Nat.pos_of_ne_zero (Rat.den_nz _)) (Nat.mul_pos (Nat.pos_of_ne_zero (Rat.den_nz _)) (Nat.pos_of_ne_zero (Rat.den_nz _)))
    have es := add_mul_rat (s := suR (fun j => p j * q (i - j)) j) (x := p j) (y := q (i - j))
    rw [show ∀ a b c : Int, (1 : Int) * a * b * c = 1 * (a * b * c) from fun a b c => by rw [Int.one_mul, Int.one_mul]] at W2
    obtain ⟨e1, e2⟩ := rat_rz (z := (suR (fun j => p j * q (i - j)) j).num * (((p j).den * (q (i - j)).den : Nat) : Int) + 1 * ((p j).num * (q (i - j)).num * ((suR (fun j => p j * q (i - j)) j).den : Int))) D0
    rw [es] at e1 e2
    rw [← e1, ← e2] at W2
    exact Wide_mono W2 (by omega)
  · rintro s ⟨I1, rfl, r1, v1, W1⟩
    unfold f_X12_multiplyPolynomials_s45
    dsimp only
    rw [q_let, q_let, q_let, q_let, q_let, q_let, q_let, if_pos ((i32_lt (by omega) (by omega)).mpr (Nat.lt_succ_self _))]
    exact q_ex ⟨I1, rfl, r1, v1, Wide_mono W1 (by omega)⟩
theorem M_mulLoop {s0 : Int32} {k : Prop} (hR : RA R) (hr : r + 2 < 90) (hP : MRow I r p) (hQ : MRow I (r + 1) q) (hs : (s0 = 1 ∧ k) ∨ (s0 = 0 ∧ ¬ k)) : QK (f_X12_multiplyPolynomials_j21 (mg 4625 I J R) 4561 (Int32.ofNat (r + 2)) (Int32.ofNat (r)) (Int32.ofNat (r + 1)) s0) (fun y => ∃ I', R4 I I' ∧ Kvs (fun x => 2700 + 9 * (r + 2) ≤ x ∧ x < 2709 + 9 * (r + 2)) (I 4564) (I' 4564) ∧ (((k ∧ FitA (mulP p q)) ∧ y = (1, mg 4625 I' J R) ∧ MRow I' (r + 2) (mulP p q)) ∨ (¬ (k ∧ FitA (mulP p q)) ∧ y = (0, mg 4625 I' J R)))) := by
  unfold f_X12_multiplyPolynomials_j21
  rw [q_let]
  refine q_bind (P := fun x => ∃ I' u, x = .inr (u, mg 4625 I' J R) ∧ R4 I I' ∧ Kvs (fun x => 2700 + 9 * (r + 2) ≤ x ∧ x < 2709 + 9 * (r + 2)) (I 4564) (I' 4564) ∧ (((k ∧ FitA (mulP p q)) ∧ u = 1 ∧ MRow I' (r + 2) (mulP p q)) ∨ (¬ (k ∧ FitA (mulP p q)) ∧ u = 0))) ?_ ?_
  · refine q_for 9 (fun i s => ∃ I' u, s = (4561, (Int32.ofNat (r + 2)), (Int32.ofNat (r)), (Int32.ofNat (r + 1)), u, (Int32.ofNat (i)), mg 4625 I' J R) ∧ R4 I I' ∧ Kvs (fun x => 2700 + 9 * (r + 2) ≤ x ∧ x < 2709 + 9 * (r + 2)) (I 4564) (I' 4564) ∧ ((u = 1 ∧ k ∧ ∀ j, j < i → Fit (mulP p q j) ∧ Vv (I' 4564) (2700 + 9 * (r + 2) + j) (mulP p q j).num (mulP p q j).den) ∨ (u = 0 ∧ ¬ (k ∧ FitA (mulP p q))))) ?_ ?_ (i := 0) ⟨I, s0, rfl, R4_rfl, Kvs_rfl, ?_⟩ (by omega) (by unfold xF; omega)
    · rintro i s hi ⟨I1, u, rfl, r1, k1, ⟨rfl, hk, g1⟩ | ⟨rfl, nf⟩⟩
      · unfold f_X12_multiplyPolynomials_s26
        dsimp only
        rw [q_let, q_let, q_let, q_let, q_let, q_let, q_let, if_neg (show ¬ (9 : Int32) ≤ (Int32.ofNat (i)) from fun y => absurd ((i32_le (k := 9) (by omega) (by omega)).mp y) (by omega)), if_neg (by decide), if_pos ok_4561]
        refine q_bind (M_clearWide hR) ?_
        rintro _ ⟨I2, rfl, r2, v2, W2⟩
        rw [q_let]
        have P2 : MRow I2 r p := fun j hj => by rw [v2]; exact Vv_ks (hP j hj) k1 (by omega)
        have Q2 : MRow I2 (r + 1) q := fun j hj => by rw [v2]; exact Vv_ks (hQ j hj) k1 (by omega)
        refine q_bind (M_mulIn (i := i) hR hr hi P2 Q2 W2) ?_
        rintro _ ⟨I3, rfl, r3, v3, W3⟩
        simp only [Sum.elim_inr]
        unfold f_X12_multiplyPolynomials_j107
        rw [cAt, Option.bind_some, if_pos ok_4561]
        refine q_bind (M_storeWide (i := 2700 + 9 * (r + 2) + i) hR (by omega) W3 (by decide)) ?_
        rintro _ ⟨I4, y, rfl, r4, st⟩
        rw [q_let, show (Int32.ofNat (i)) + (1 : Int32) = (Int32.ofNat (i + 1)) from n_add i 1]
        obtain ⟨kv, h⟩ := Sto_rat (x := mulP p q i) st (Nat.pos_of_ne_zero (Rat.den_nz _)) (Rat.mkRat_self _)
        rw [v3, v2] at kv
        refine q_go ⟨I4, y, rfl, R4_tr (R4_tr (R4_tr r1 r2) r3) r4, Kvs_tr k1 (Kv_s kv ⟨by omega, by omega⟩), ?_⟩
        rcases h with ⟨ft, e, V⟩ | ⟨ft, e⟩
        · refine Or.inl ⟨e, hk, fun j hj => ?_⟩
          by_cases z : j = i
          · subst z
            exact ⟨ft, V⟩
          · obtain ⟨f, w⟩ := g1 j (by omega)
            exact ⟨f, w.keep kv (by omega)⟩
        · exact Or.inr ⟨e, fun y => ft (y.2 i hi)⟩
      · have stp : f_X12_multiplyPolynomials_s26 (4561, (Int32.ofNat (r + 2)), (Int32.ofNat (r)), (Int32.ofNat (r + 1)), 0, (Int32.ofNat (i)), mg 4625 I1 J R) = some (.inr (.inl (0, mg 4625 I1 J R))) := by
          unfold f_X12_multiplyPolynomials_s26
          dsimp only
          rw [q_let, q_let, q_let, q_let, q_let, q_let, q_let]
          split
          · rfl
          · rw [if_pos rfl]
        rw [stp]
        exact q_ex ⟨I1, 0, rfl, r1, k1, Or.inr ⟨nf, rfl⟩⟩
    · rintro s ⟨I1, u, rfl, r1, k1, h⟩
      unfold f_X12_multiplyPolynomials_s26
      dsimp only
      rw [q_let, q_let, q_let, q_let, q_let, q_let, q_let, if_pos (by decide)]
      refine q_ex ⟨I1, u, rfl, r1, k1, ?_⟩
      rcases h with ⟨e, hk, g1⟩ | ⟨e, nf⟩
      · exact Or.inl ⟨⟨hk, fun j hj => (g1 j hj).1⟩, e, fun j hj => (g1 j hj).2⟩
      · exact Or.inr ⟨nf, e⟩
    · rcases hs with ⟨e, hk⟩ | ⟨e, nk⟩
      · exact Or.inl ⟨e, hk, fun j hj => absurd hj (Nat.not_lt_zero _)⟩
      · exact Or.inr ⟨e, fun y => nk y.1⟩
  · rintro _ ⟨I1, u, rfl, r1, k1, ⟨fa, rfl, g⟩ | ⟨nf, rfl⟩⟩
    · simp only [Sum.elim_inr]
      unfold f_X12_multiplyPolynomials_j125
      exact q_ok ⟨I1, r1, k1, Or.inl ⟨fa, rfl, g⟩⟩
    · simp only [Sum.elim_inr]
      unfold f_X12_multiplyPolynomials_j125
      exact q_ok ⟨I1, r1, k1, Or.inr ⟨nf, rfl⟩⟩
theorem M_mulRows (hR : RA R) (hr : r + 2 < 90) (hP : MRow I r p) (hQ : MRow I (r + 1) q) : QK (f_X12_multiplyPolynomials (mg 4625 I J R) 4561 (Int32.ofNat (r + 2)) (Int32.ofNat (r)) (Int32.ofNat (r + 1))) (fun y => ∃ I', R4 I I' ∧ Kvs (fun x => 2700 + 9 * (r + 2) ≤ x ∧ x < 2709 + 9 * (r + 2)) (I 4564) (I' 4564) ∧ (((dgP p + dgP q ≤ 8 ∧ FitA (mulP p q)) ∧ y = (1, mg 4625 I' J R) ∧ MRow I' (r + 2) (mulP p q)) ∨ (¬ (dgP p + dgP q ≤ 8 ∧ FitA (mulP p q)) ∧ y = (0, mg 4625 I' J R)))) := by
  have d1 : dgP p ≤ 8 := dgF_le p 8
  have d2 : dgP q ≤ 8 := dgF_le q 8
  unfold f_X12_multiplyPolynomials
  rw [if_pos ok_4561, M_degreeOf hR (by omega) hP, Option.bind_some, if_pos ok_4561, M_degreeOf hR (by omega) hQ, Option.bind_some, n_add]
  by_cases e0 : dgP p + dgP q ≤ 8
  · rw [if_neg (show ¬ (8 : Int32) < (Int32.ofNat (dgP p + dgP q)) from fun y => absurd ((i32_lt (k := 8) (by omega) (by omega)).mp y) (by omega))]
    exact M_mulLoop hR hr hP hQ (Or.inl ⟨rfl, e0⟩)
  · rw [if_pos (show (8 : Int32) < (Int32.ofNat (dgP p + dgP q)) from (i32_lt (k := 8) (by omega) (by omega)).mpr (by omega))]
    exact M_mulLoop hR hr hP hQ (Or.inr ⟨rfl, e0⟩)
theorem M_copyRow {t : Nat} (hR : RA R) (hr : r < 90) (ht : t < 90) (hrt : r ≠ t) : QK (f_X12_copyPolynomial (mg 4625 I J R) 4561 (Int32.ofNat (r)) (Int32.ofNat (t))) (fun y => ∃ I', y = mg 4625 I' J R ∧ R3 I I' ∧ Kvs (fun x => 2700 + 9 * r ≤ x ∧ x < 2709 + 9 * r) (I 4564) (I' 4564) ∧ ∀ S, MRow I t S → MRow I' r S) := by
  unfold f_X12_copyPolynomial
  rw [q_let]
  refine q_bind (P := fun x => ∃ I', x = .inr (mg 4625 I' J R) ∧ R3 I I' ∧ Kvs (fun x => 2700 + 9 * r ≤ x ∧ x < 2709 + 9 * r) (I 4564) (I' 4564) ∧ ∀ S, MRow I t S → MRow I' r S) ?_ ?_
  · refine q_for 9 (fun i s => ∃ I', s = (4561, (Int32.ofNat (r)), (Int32.ofNat (t)), (Int32.ofNat (i)), mg 4625 I' J R) ∧ R3 I I' ∧ Kvs (fun x => 2700 + 9 * r ≤ x ∧ x < 2709 + 9 * r) (I 4564) (I' 4564) ∧ ∀ S : Po, MRow I t S → ∀ j, j < i → Vv (I' 4564) (2700 + 9 * r + j) (S j).num (S j).den) ?_ ?_ (i := 0) ⟨I, rfl, R3_rfl, Kvs_rfl, fun _ _ j hj => absurd hj (Nat.not_lt_zero _)⟩ (by omega) (by unfold xF; omega)
    · rintro i s hi ⟨I1, rfl, r1, k1, g1⟩
      unfold f_X12_copyPolynomial_s2
      dsimp only
      rw [q_let, q_let, q_let, q_let, q_let, if_neg (show ¬ (9 : Int32) ≤ (Int32.ofNat (i)) from fun y => absurd ((i32_le (k := 9) (by omega) (by omega)).mp y) (by omega)), cAt, Option.bind_some, cAt, Option.bind_some, if_pos ok_4561]
      refine q_bind (M_copyRaw (a := 2700 + 9 * r + i) (b := 2700 + 9 * t + i) hR (by omega) (by omega) (by omega)) ?_
      rintro _ ⟨I2, rfl, r2, -, -, kv, cp⟩
      rw [q_let, show (Int32.ofNat (i)) + (1 : Int32) = (Int32.ofNat (i + 1)) from n_add i 1]
      refine q_go ⟨I2, rfl, R3_tr r1 r2, Kvs_tr k1 (Kv_s kv ⟨by omega, by omega⟩), fun S hS j hj => ?_⟩
      by_cases z : j = i
      · subst z
        exact Vv_copy (Vv_ks (hS j hi) k1 (by omega)) cp
      · exact (g1 S hS j (by omega)).keep kv (by omega)
    · rintro s ⟨I1, rfl, r1, k1, g1⟩
      unfold f_X12_copyPolynomial_s2
      dsimp only
      rw [q_let, q_let, q_let, q_let, q_let, if_pos (by decide)]
      exact q_ex ⟨I1, rfl, r1, k1, g1⟩
  · rintro _ ⟨I1, rfl, r1, k1, g1⟩
    simp only [Sum.elim_inr]
    unfold f_X12_copyPolynomial_j28
    exact q_ok ⟨I1, rfl, r1, k1, g1⟩
end MMU
