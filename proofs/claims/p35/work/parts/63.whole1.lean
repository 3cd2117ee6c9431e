/-! the class's whole numbers: put, copied, trimmed, asked -/
theorem sgn_n (n : Nat) : sgn (n : Int) = 0 := if_neg (by omega)
theorem isW_ne {w u c d : Nat} (h : isW w c) (h' : isW u d) : w ≠ u + 1 := fun e => by
  have h1 := h.2.1
  rw [e, h'.2.2.2.1] at h1
  exact absurd (show 14 = 10 from congrArg Prod.fst h1) (by first | decide | omega)
section WA
variable {I : Nat → Nat → Int32} {J : Nat → Nat → Int64} {R : Nat → Nat → Option Nat} {w c u d : Nat}
theorem bW_sZ {β : Type} {F : xM → Option β} {k : Nat} {z : Int} (h : isW w c) : (sZ (mg (4562 + zn J) I J R) w 10 k (sgn z)).bind F = F (mg (4562 + zn J) (up I w k (sgn z)) J R) := by
  unfold sgn
  split
  · exact bW_sZ1 h
  · exact bW_sZ0 h
theorem W_isZero {z : Int} (h : Wz I w c z) : f_X10_isZero (mg (4562 + zn J) I J R) w = some (if z = 0 then 1 else 0) := by
  obtain ⟨⟨k, hk⟩, hs⟩ := h
  have k0 := Wh_0 hk
  have k1 := Wh_c hk
  unfold f_X10_isZero f_X10_isZero_j12
  by_cases q : z = 0
  · have : k = 0 := k0.mpr (by omega)
    rw [if_pos q]
    simp (disch := omega) only [↓reduceIte, ↓q_let, ↓q_xz1, ↓q_xz0, ↓lg_cmp_ge, ↓lg_cmp_le, ↓lg_cmp_gt, ↓lg_cmp_lt, n_lit, j_lit, n_add, n_mul, n_sub, n_dec, Nat.add_sub_cancel, n_leT, n_leF, n_ltT, n_ltF, n_eqT, n_eqF, n_in, n_cl, n_m31, j_m63, j_of32, j_32, i64_add, i64_mul, jn_sub, j_leT, j_leF, j_ltT, j_ltF, j_eqF, jn_and30, jn_sar30, jn_shor, Int32.neg_neg, and_true, true_and, and_self, ↓bW_gI hk.1, hk.2.1]
  · have : k ≠ 0 := fun e => q (by have := k0.mp e; omega)
    rw [if_neg q]
    simp (disch := omega) only [↓reduceIte, ↓q_let, ↓q_xz1, ↓q_xz0, ↓lg_cmp_ge, ↓lg_cmp_le, ↓lg_cmp_gt, ↓lg_cmp_lt, n_lit, j_lit, n_add, n_mul, n_sub, n_dec, Nat.add_sub_cancel, n_leT, n_leF, n_ltT, n_ltF, n_eqT, n_eqF, n_in, n_cl, n_m31, j_m63, j_of32, j_32, i64_add, i64_mul, jn_sub, j_leT, j_leF, j_ltT, j_ltF, j_eqF, jn_and30, jn_sar30, jn_shor, Int32.neg_neg, and_true, true_and, and_self, ↓bW_gI hk.1, hk.2.1]
theorem W_trim {m n : Nat} (hR : RA R) (hw : isW w c) (hm : m ≤ c) (h : Dg I (w + 1) m n) : QK (f_X10_trim (mg (4562 + zn J) I J R) w (Int32.ofNat (m))) (fun r => ∃ I', r = mg (4562 + zn J) I' J R ∧ FrS (fun x => x = w) I I' ∧ (∃ k, k ≤ m ∧ Wh I' w c k n) ∧ I' w 2 = (if n = 0 then 0 else I w 2)) := by
  have hc := hw.2.2.2.2.2
  unfold f_X10_trim
  simp (disch := omega) only [↓reduceIte, ↓q_let, ↓q_xz1, ↓q_xz0, ↓lg_cmp_ge, ↓lg_cmp_le, ↓lg_cmp_gt, ↓lg_cmp_lt, n_lit, j_lit, n_add, n_mul, n_sub, n_dec, Nat.add_sub_cancel, n_leT, n_leF, n_ltT, n_ltF, n_eqT, n_eqF, n_in, n_cl, n_m31, j_m63, j_of32, j_32, i64_add, i64_mul, jn_sub, j_leT, j_leF, j_ltT, j_ltF, j_eqF, jn_and30, jn_sar30, jn_shor, Int32.neg_neg, and_true, true_and, and_self, ↓bW_sI hw]
  refine q_bind (P := fun r => ∃ I' k, r = .inr (w, mg (4562 + zn J) I' J R) ∧ FrS (fun x => x = w) I I' ∧ k ≤ m ∧ Wh I' w c k n ∧ I' w 2 = I w 2) ?_ ?_
  · refine q_loop (fun i s => ∃ I', s = (w, (Int32.ofNat (i)), mg (4562 + zn J) I' J R) ∧ i ≤ m ∧ FrS (fun x => x = w) I I' ∧ n < Bw i ∧ I' w 1 = (Int32.ofNat (i)) ∧ I' w 2 = I w 2) ?_ (m := m) ⟨_, rfl, Nat.le_refl _, FrS_up FrS_rfl rfl, h.1, up_s, up_n (Or.inr (by first | decide | omega))⟩ (by unfold xF; omega)
    rintro i s ⟨I', rfl, hi, hF, hn, h1, h2⟩
    unfold f_X10_trim_s7 xlet
    dsimp only
    have hD : Dg I' (w + 1) i n := ⟨hn, fun j hj => by rw [hF (w + 1) (by omega)]; exact h.2 j (by omega)⟩
    rcases i with _ | i
    · simp (disch := omega) only [↓reduceIte, ↓q_let, ↓q_xz1, ↓q_xz0, ↓lg_cmp_ge, ↓lg_cmp_le, ↓lg_cmp_gt, ↓lg_cmp_lt, n_lit, j_lit, n_add, n_mul, n_sub, n_dec, Nat.add_sub_cancel, n_leT, n_leF, n_ltT, n_ltF, n_eqT, n_eqF, n_in, n_cl, n_m31, j_m63, j_of32, j_32, i64_add, i64_mul, jn_sub, j_leT, j_leF, j_ltT, j_ltF, j_eqF, jn_and30, jn_sar30, jn_shor, Int32.neg_neg, and_true, true_and, and_self]
      exact q_ex ⟨I', 0, rfl, hF, by omega, ⟨hw, h1, by omega, hD, Or.inl rfl⟩, h2⟩
    · have e := hD.2 i (by omega)
      have dl := dW_lt n i
      by_cases q : dW n i = 0
      · simp (disch := omega) only [↓reduceIte, ↓q_let, ↓q_xz1, ↓q_xz0, ↓lg_cmp_ge, ↓lg_cmp_le, ↓lg_cmp_gt, ↓lg_cmp_lt, n_lit, j_lit, n_add, n_mul, n_sub, n_dec, Nat.add_sub_cancel, n_leT, n_leF, n_ltT, n_ltF, n_eqT, n_eqF, n_in, n_cl, n_m31, j_m63, j_of32, j_32, i64_add, i64_mul, jn_sub, j_leT, j_leF, j_ltT, j_ltF, j_eqF, jn_and30, jn_sar30, jn_shor, Int32.neg_neg, and_true, true_and, and_self, ↓bW_gR hw hR, ↓bW_aI hw, ↓bW_sI hw, Nat.add_sub_cancel, e, q]
        have hn' : n < Bw i := by
          have h3 := modW_s n i
          rw [Nat.mod_eq_of_lt hn, q, Nat.mul_zero, Nat.add_zero] at h3
          rw [h3]
          exact Nat.mod_lt _ (Bw_pos i)
        refine q_go ⟨i, by omega, up I' w 1 (Int32.ofNat (i)), ?_, by omega, FrS_up hF rfl, hn', up_s, (up_n (Or.inr (by first | decide | omega))).trans h2⟩
        rfl
      · simp (disch := omega) only [↓reduceIte, ↓q_let, ↓q_xz1, ↓q_xz0, ↓lg_cmp_ge, ↓lg_cmp_le, ↓lg_cmp_gt, ↓lg_cmp_lt, n_lit, j_lit, n_add, n_mul, n_sub, n_dec, Nat.add_sub_cancel, n_leT, n_leF, n_ltT, n_ltF, n_eqT, n_eqF, n_in, n_cl, n_m31, j_m63, j_of32, j_32, i64_add, i64_mul, jn_sub, j_leT, j_leF, j_ltT, j_ltF, j_eqF, jn_and30, jn_sar30, jn_shor, Int32.neg_neg, and_true, true_and, and_self, ↓bW_gR hw hR, ↓bW_aI hw, ↓bW_sI hw, Nat.add_sub_cancel, e, q]
        refine q_ex ⟨I', i + 1, rfl, hF, hi, ⟨hw, h1, by omega, hD, Or.inr ?_⟩, h2⟩
        rw [Nat.add_sub_cancel]
        refine Nat.not_lt.mp (fun z => q ?_)
        unfold dW
        rw [Nat.div_eq_of_lt z]
  · rintro r ⟨I', k, rfl, hF, hk, hW, h2⟩
    simp only [Sum.elim_inr]
    unfold f_X10_trim_j35 f_X10_trim_j47
    have k0 := Wh_0 hW
    have k1 := Wh_c hW
    by_cases q : n = 0
    · have : k = 0 := k0.mpr q
      simp (disch := omega) only [↓reduceIte, ↓q_let, ↓q_xz1, ↓q_xz0, ↓lg_cmp_ge, ↓lg_cmp_le, ↓lg_cmp_gt, ↓lg_cmp_lt, n_lit, j_lit, n_add, n_mul, n_sub, n_dec, Nat.add_sub_cancel, n_leT, n_leF, n_ltT, n_ltF, n_eqT, n_eqF, n_in, n_cl, n_m31, j_m63, j_of32, j_32, i64_add, i64_mul, jn_sub, j_leT, j_leF, j_ltT, j_ltF, j_eqF, jn_and30, jn_sar30, jn_shor, Int32.neg_neg, and_true, true_and, and_self, ↓bW_gI hw, ↓bW_sZ0 hw, hW.2.1]
      refine q_ok ⟨_, rfl, FrS_up hF rfl, ⟨k, hk, hw, (up_n (Or.inr (by first | decide | omega))).trans hW.2.1, hW.2.2.1, Dg_keep hW.2.2.2.1 (fun j _ => up_n (by omega)), hW.2.2.2.2⟩, ?_⟩
      rw [up_s, if_pos q]
    · have : k ≠ 0 := fun e => q (k0.mp e)
      simp (disch := omega) only [↓reduceIte, ↓q_let, ↓q_xz1, ↓q_xz0, ↓lg_cmp_ge, ↓lg_cmp_le, ↓lg_cmp_gt, ↓lg_cmp_lt, n_lit, j_lit, n_add, n_mul, n_sub, n_dec, Nat.add_sub_cancel, n_leT, n_leF, n_ltT, n_ltF, n_eqT, n_eqF, n_in, n_cl, n_m31, j_m63, j_of32, j_32, i64_add, i64_mul, jn_sub, j_leT, j_leF, j_ltT, j_ltF, j_eqF, jn_and30, jn_sar30, jn_shor, Int32.neg_neg, and_true, true_and, and_self, ↓bW_gI hw, ↓bW_sZ0 hw, hW.2.1]
      exact q_ok ⟨_, rfl, hF, ⟨k, hk, hW⟩, by rw [if_neg q]; exact h2⟩
end WA
