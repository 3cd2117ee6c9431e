/-! polynomials: the class's products -/
section CMU
variable {I : Nat → Nat → Int32} {J : Nat → Nat → Int64} {R : Nat → Nat → Option Nat} {β : Type} {r : Nat} {p q : Po}
theorem PoK_hi (h : PoK p) : ∀ j, dgP p < j → p j = 0 := fun j hj => by
  by_cases z : j < 9
  · exact dgF_0 p 8 j hj (by omega)
  · exact h.2 j (by omega)
theorem p2_Bw {n a k : Nat} (h : n < 2 ^ a) (ha : a ≤ 30 * k) : n < Bw k := Nat.lt_of_lt_of_le h (by rw [Bw_two]; exact Nat.pow_le_pow_right (by decide) ha)
theorem Fit_f7 {x : Rat} (h : Fit x) : x.num.natAbs < Bw 7 ∧ x.den < Bw 7 := ⟨b200 h.1, b200 h.2⟩
theorem C_multiplyRows (hR : RA R) (hr : r + 1 < 48) (hP : CRow I r p) (hQ : CRow I (r + 1) q) (kp : PoK p) (kq : PoK q) : QK (f_X3_multiplyRows (mg 4625 I J R) 2215 (Int32.ofNat (r))) (fun y => ∃ I', FrK (Fga r) I I' ∧ ((dgP p + dgP q ≤ 8 ∧ FitA (mulP q p) ∧ y = (1, mg 4625 I' J R) ∧ CRow I' r (mulP q p)) ∨ (¬ (dgP p + dgP q ≤ 8 ∧ FitA (mulP q p)) ∧ y = (0, mg 4625 I' J R)))) := by
  have d1 : dgP p ≤ 8 := dgF_le p 8
  have d2 : dgP q ≤ 8 := dgF_le q 8
  unfold f_X3_multiplyRows
  rw [gr_2215_3 hR, ga_2217 (by omega), hP.2, gr_2215_3 hR, show (Int32.ofNat (r)) + (1 : Int32) = (Int32.ofNat (r + 1)) from n_add r 1, ga_2217 (by omega), hQ.2, q_let, n_add]
  by_cases hd : dgP p + dgP q ≤ 8
  rotate_left
  · rw [if_neg (show ¬ (Int32.ofNat (dgP p + dgP q)) < (9 : Int32) from fun y => absurd ((i32_lt (m := 9) (by omega) (by omega)).mp y) (by omega))]
    exact q_ok ⟨I, FrK_rfl, Or.inr ⟨fun y => hd y.1, rfl⟩⟩
  rw [if_pos (show (Int32.ofNat (dgP p + dgP q)) < (9 : Int32) from (i32_lt (m := 9) (by omega) (by omega)).mpr (by omega)), q_let]
  refine q_bind (P := fun x => ∃ I', x = .inr (2215, (Int32.ofNat (r)), (Int32.ofNat (dgP p + dgP q)), mg 4625 I' J R) ∧ FrS (fun x => 4406 ≤ x ∧ x < 4541 ∧ 5 ≤ (x - 4406) % 15 ∧ (x - 4406) % 15 < 10) I I' ∧ CFac I' q) ?_ ?_
  · refine q_for 9 (fun i s => ∃ I', s = (2215, (Int32.ofNat (r)), (Int32.ofNat (dgP p + dgP q)), (Int32.ofNat (i)), mg 4625 I' J R) ∧ FrS (fun x => 4406 ≤ x ∧ x < 4541 ∧ 5 ≤ (x - 4406) % 15 ∧ (x - 4406) % 15 < 10) I I' ∧ ∀ j, j < i → FU I' (4411 + 15 * j) 100 (q j).num (q j).den) ?_ ?_ (i := 0) ⟨I, rfl, FrS_rfl, fun j hj => absurd hj (Nat.not_lt_zero _)⟩ (by omega) (by unfold xF; omega)
    · rintro i s hi ⟨I1, rfl, f1, g1⟩
      unfold f_X3_multiplyRows_s26
      dsimp only
      rw [q_let, q_let, q_let, q_let, q_let, if_neg (show ¬ (9 : Int32) ≤ (Int32.ofNat (i)) from fun y => absurd ((i32_le (k := 9) (by omega) (by omega)).mp y) (by omega)), gr_2215_6 hR, C_fac hR hi, gr_2215_2 hR, show (Int32.ofNat (r)) + (1 : Int32) = (Int32.ofNat (r + 1)) from n_add r 1, show (Int32.ofNat (r + 1)) * (9 : Int32) = (Int32.ofNat ((r + 1) * 9)) from n_mul (r + 1) 9, n_add, C_rw hR (by omega), if_pos (bF_xk (isF_fac hi)), show (r + 1) * 9 + i = 9 * (r + 1) + i by omega]
      have W : FU I1 (2246 + 5 * (9 * (r + 1) + i)) 7 (q i).num (q i).den := FU_keep (hQ.1 i hi) (fun x g1 g2 => f1 x (by omega))
      refine q_bind (F_copy hR (isF_fac hi) W (Nat.lt_of_lt_of_le (Fit_7 (kq.1 i hi)).1 (Bw_le (by decide))) (Nat.lt_of_lt_of_le (Fit_7 (kq.1 i hi)).2 (Bw_le (by decide))) (by omega)) ?_
      rintro _ ⟨I2, rfl, f2, W2⟩
      rw [q_let, show (Int32.ofNat (i)) + (1 : Int32) = (Int32.ofNat (i + 1)) from n_add i 1]
      refine q_go ⟨I2, rfl, FrS_tr f1 (fun x y => f2 x (fun z => by unfold Sf at z; omega)), fun j hj => ?_⟩
      by_cases z : j = i
      · subst z
        exact W2
      · exact FU_keep (g1 j (by omega)) (fun x g1 g2 => f2 x (fun z => by unfold Sf at z; omega))
    · rintro s ⟨I1, rfl, f1, g1⟩
      unfold f_X3_multiplyRows_s26
      dsimp only
      rw [q_let, q_let, q_let, q_let, q_let, if_pos (by decide)]
      exact q_ex ⟨I1, rfl, f1, g1⟩
  · rintro _ ⟨I1, rfl, f1, g1⟩
    simp only [Sum.elim_inr]
    unfold f_X3_multiplyRows_j60
    have e1 : I1 2217 (r + 1) = (Int32.ofNat (dgP q)) := by rw [f1 2217 (by omega)]; exact hQ.2
    have P1 : CRow I1 r p := ⟨fun j hj => FU_keep (hP.1 j hj) (fun x g1 g2 => f1 x (by omega)), by rw [f1 2217 (by omega)]; exact hP.2⟩
    rw [gr_2215_3 hR, show (Int32.ofNat (r)) + (1 : Int32) = (Int32.ofNat (r + 1)) from n_add r 1, ga_2217 (by omega), e1, if_pos ok_2215]
    refine q_bind (C_timesRow (P := 67) (Q := 7) hR (by omega) d2 g1 P1 (fun j hj => Fit_f7 (kq.1 j hj)) kp.1 (fun i hi m hm => ?_) (by decide) (fun j h1 h2 => PoK_hi kq j h1)) ?_
    · obtain ⟨b1, b2⟩ := mul_bd kp.1 kq.1 hd hi m hm
      exact ⟨p2_Bw b1 (by omega), p2_Bw b2 (by omega)⟩
    rintro _ ⟨I2, rfl, f2, g2⟩
    rw [if_pos ok_2215]
    obtain ⟨h1, -⟩ := mulP_hi (PoK_hi kq) (PoK_hi kp)
    have f12 : FrK (Fga r) I I2 := FrK_tr (fun x k y => by rw [f1 x (fun z => by unfold Fga at y; omega)]) (Ftm_Fga f2)
    refine q_bind (C_takeProduct hR (by omega) hd g2 (fun j h2 h3 => h1 j (by omega))) ?_
    rintro _ ⟨I3, f3, ⟨fa, rfl, c3⟩ | ⟨fa, rfl⟩⟩
    · exact q_ok ⟨I3, FrK_tr f12 f3, Or.inl ⟨hd, fa, rfl, c3⟩⟩
    · exact q_ok ⟨I3, FrK_tr f12 f3, Or.inr ⟨fun y => fa y.2, rfl⟩⟩
end CMU
