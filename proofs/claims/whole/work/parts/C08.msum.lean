/-! polynomials: the reference's sums -/
theorem Sto_rat {v v' : Nat → Int32} {i D : Nat} {z : Int} {y : Int32} {x : Rat} (h : Sto v v' i z D y) (hD : 0 < D) (hx : mkRat z D = x) : Kv v v' i ∧ ((Fit x ∧ y = 1 ∧ Vv v' i x.num x.den) ∨ (¬ Fit x ∧ y = 0)) := by
  obtain ⟨e1, e2⟩ := rat_rz (z := z) hD
  rw [hx] at e1 e2
  have ft : Fits z D ↔ Fit x := by
    unfold Fits Fit
    rw [e1, e2, rz_abs]
    exact Iff.rfl
  refine ⟨Sto_kv h, ?_⟩
  rcases h with ⟨h1, h2, h3, -⟩ | ⟨h1, h2, -⟩
  · exact Or.inl ⟨ft.mp h1, h2, by rw [e1, e2]; exact h3⟩
  · exact Or.inr ⟨fun y => h1 (ft.mpr y), h2⟩
section MSR
variable {I : Nat → Nat → Int32} {J : Nat → Nat → Int64} {R : Nat → Nat → Option Nat} {β : Type} {r : Nat} {p q : Po}
theorem M_sumRows {m : Nat} {s' : Int} (hR : RA R) (hr : r + 1 < 90) (hP : MRow I r p) (hQ : MRow I (r + 1) q) (hm : (m = 0 ∧ s' = 1) ∨ (m = 1 ∧ s' = -1)) : QK (f_X12_gatherTwo_j64 (mg 4625 I J R) 4561 (Int32.ofNat (m)) (Int32.ofNat (r)) (Int32.ofNat (r + 1)) 1) (fun y => ∃ I', R3 I I' ∧ Kvs (fun x => 2700 + 9 * r ≤ x ∧ x < 2709 + 9 * r) (I 4564) (I' 4564) ∧ ((FitA (sgP s' p q) ∧ y = (1, mg 4625 I' J R) ∧ MRow I' r (sgP s' p q)) ∨ (¬ FitA (sgP s' p q) ∧ y = (0, mg 4625 I' J R)))) := by
  have hs : s' = 1 ∨ s' = -1 := by omega
  unfold f_X12_gatherTwo_j64
  rw [q_let]
  refine q_bind (P := fun x => ∃ I' u, x = .inr (u, mg 4625 I' J R) ∧ R3 I I' ∧ Kvs (fun x => 2700 + 9 * r ≤ x ∧ x < 2709 + 9 * r) (I 4564) (I' 4564) ∧ ((FitA (sgP s' p q) ∧ u = 1 ∧ MRow I' r (sgP s' p q)) ∨ (¬ FitA (sgP s' p q) ∧ u = 0))) ?_ ?_
  · refine q_for 9 (fun i s => ∃ I' u, s = (4561, (Int32.ofNat (m)), (Int32.ofNat (r)), (Int32.ofNat (r + 1)), u, (Int32.ofNat (i)), mg 4625 I' J R) ∧ R3 I I' ∧ Kvs (fun x => 2700 + 9 * r ≤ x ∧ x < 2709 + 9 * r) (I 4564) (I' 4564) ∧ ((u = 1 ∧ (∀ j, j < i → Fit (sgP s' p q j)) ∧ ∀ j, j < 9 → Vv (I' 4564) (2700 + 9 * r + j) (if j < i then (sgP s' p q j).num else (p j).num) (if j < i then (sgP s' p q j).den else (p j).den)) ∨ (u = 0 ∧ ¬ FitA (sgP s' p q)))) ?_ ?_ (i := 0) ⟨I, 1, rfl, R3_rfl, Kvs_rfl, Or.inl ⟨rfl, fun j hj => absurd hj (Nat.not_lt_zero _), fun j hj => hP j hj⟩⟩ (by omega) (by unfold xF; omega)
    · rintro i s hi ⟨I1, u, rfl, r1, k1, ⟨rfl, g1, g2⟩ | ⟨rfl, nf⟩⟩
      · have P1 := g2 i hi
        rw [if_neg (by omega), if_neg (by omega)] at P1
        have Q1 : Vv (I1 4564) (2700 + 9 * (r + 1) + i) (q i).num (q i).den := Vv_ks (hQ i hi) k1 (by omega)
        have D0 : 0 < (p i).den * (q i).den := Nat.mul_pos (Nat.pos_of_ne_zero (p i).den_nz) (Nat.pos_of_ne_zero (q i).den_nz)
        unfold f_X12_gatherTwo_s67
        dsimp only
        rw [q_let, q_let, q_let, q_let, q_let, q_let, q_let, if_neg (show ¬ (9 : Int32) ≤ (Int32.ofNat (i)) from fun y => absurd ((i32_le (k := 9) (by omega) (by omega)).mp y) (by omega)), if_neg (by decide), cAt, Option.bind_some, Option.bind_some, cAt, Option.bind_some]
        have key : QK (f_X12_gatherTwo_j108 (mg 4625 I1 J R) 4561 (Int32.ofNat (m)) (Int32.ofNat (r)) (Int32.ofNat (r + 1)) (Int32.ofNat (i)) (Int32.ofInt s') (Int32.ofNat (2700 + 9 * (r + 1) + i)) (Int32.ofNat (2700 + 9 * r + i)) (Int32.ofNat (2700 + 9 * r + i)) 4561) (qS (fun s => ∃ I' u, s = (4561, (Int32.ofNat (m)), (Int32.ofNat (r)), (Int32.ofNat (r + 1)), u, (Int32.ofNat (i + 1)), mg 4625 I' J R) ∧ R3 I I' ∧ Kvs (fun x => 2700 + 9 * r ≤ x ∧ x < 2709 + 9 * r) (I 4564) (I' 4564) ∧ ((u = 1 ∧ (∀ j, j < i + 1 → Fit (sgP s' p q j)) ∧ ∀ j, j < 9 → Vv (I' 4564) (2700 + 9 * r + j) (if j < i + 1 then (sgP s' p q j).num else (p j).num) (if j < i + 1 then (sgP s' p q j).den else (p j).den)) ∨ (u = 0 ∧ ¬ FitA (sgP s' p q)))) (fun x => ∃ I' u, x = .inr (u, mg 4625 I' J R) ∧ R3 I I' ∧ Kvs (fun x => 2700 + 9 * r ≤ x ∧ x < 2709 + 9 * r) (I 4564) (I' 4564) ∧ ((FitA (sgP s' p q) ∧ u = 1 ∧ MRow I' r (sgP s' p q)) ∨ (¬ FitA (sgP s' p q) ∧ u = 0)))) := by
          unfold f_X12_gatherTwo_j108
          rw [if_pos ok_4561]
          refine q_bind (M_add (i := 2700 + 9 * r + i) (a := 2700 + 9 * r + i) (b := 2700 + 9 * (r + 1) + i) (e := s') hR (by omega) (by omega) (by omega) hs P1 Q1) ?_
          rintro _ ⟨I2, y, rfl, r2, st⟩
          rw [q_let, show (Int32.ofNat (i)) + (1 : Int32) = (Int32.ofNat (i + 1)) from n_add i 1]
          rw [Int.mul_assoc] at st
          obtain ⟨kv, h⟩ := Sto_rat st D0 (add_rat hs)
          refine q_go ⟨I2, y, rfl, R3_tr r1 r2, Kvs_tr k1 (Kv_s kv ⟨by omega, by omega⟩), ?_⟩
          rcases h with ⟨ft, e, V⟩ | ⟨ft, e⟩
          · refine Or.inl ⟨e, fun j hj => ?_, fun j hj => ?_⟩
            · by_cases z : j < i
              · exact g1 j z
              · rw [show j = i by omega]; exact ft
            · by_cases z : j = i
              · subst z
                rw [if_pos (by omega), if_pos (by omega)]
                exact V
              · have := (g2 j hj).keep kv (by omega)
                by_cases z2 : j < i
                · rw [if_pos z2, if_pos z2] at this
                  rw [if_pos (by omega), if_pos (by omega)]
                  exact this
                · rw [if_neg z2, if_neg z2] at this
                  rw [if_neg (by omega), if_neg (by omega)]
                  exact this
          · exact Or.inr ⟨e, fun y => ft (y i hi)⟩
        rcases hm with ⟨rfl, rfl⟩ | ⟨rfl, rfl⟩
        · rw [if_pos (show (Int32.ofNat (0)) = (0 : Int32) from rfl)]
          exact key
        · rw [if_neg (show ¬ (Int32.ofNat (1)) = (0 : Int32) by decide)]
          rw [ofInt_m1] at key
          exact key
      · have stp : f_X12_gatherTwo_s67 (4561, (Int32.ofNat (m)), (Int32.ofNat (r)), (Int32.ofNat (r + 1)), 0, (Int32.ofNat (i)), mg 4625 I1 J R) = some (.inr (.inl (0, mg 4625 I1 J R))) := by
          unfold f_X12_gatherTwo_s67
          dsimp only
          rw [q_let, q_let, q_let, q_let, q_let, q_let, q_let]
          split
          · rfl
          · rw [if_pos rfl]
        rw [stp]
        exact q_ex ⟨I1, 0, rfl, r1, k1, Or.inr ⟨nf, rfl⟩⟩
    · rintro s ⟨I1, u, rfl, r1, k1, h⟩
      unfold f_X12_gatherTwo_s67
      dsimp only
      rw [q_let, q_let, q_let, q_let, q_let, q_let, q_let, if_pos (by decide)]
      refine q_ex ⟨I1, u, rfl, r1, k1, ?_⟩
      rcases h with ⟨e, g1, g2⟩ | ⟨e, nf⟩
      · refine Or.inl ⟨g1, e, fun j hj => ?_⟩
        have := g2 j hj
        rw [if_pos hj, if_pos hj] at this
        exact this
      · exact Or.inr ⟨nf, e⟩
  · rintro _ ⟨I1, u, rfl, r1, k1, ⟨fa, rfl, g⟩ | ⟨nf, rfl⟩⟩
    · simp only [Sum.elim_inr]
      unfold f_X12_gatherTwo_j119
      exact q_ok ⟨I1, r1, k1, Or.inl ⟨fa, rfl, g⟩⟩
    · simp only [Sum.elim_inr]
      unfold f_X12_gatherTwo_j119
      exact q_ok ⟨I1, r1, k1, Or.inr ⟨nf, rfl⟩⟩
end MSR
