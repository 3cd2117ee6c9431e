/-! the class's whole numbers: divided -/
section WL
variable {I : Nat → Nat → Int32} {J : Nat → Nat → Int64} {R : Nat → Nat → Option Nat} {w c u d v e q cq : Nat}
theorem W_take220 {su top r U : Nat} {l2 : Int64} (hR : RA R) (hw : isW w c) (hsu : su ≤ c) (h1 : I w 1 = (Int32.ofNat (su))) (hr : Dg I (w + 1) top r) (hU : U < Bw (top + 1)) (hH : ∀ x, top ≤ x → x < su → I (w + 1) x = (Int32.ofNat (dW U x))) (ht : top ≤ su) :
    QK (f_X10_takeTimes_j220 (mg (4562 + zn J) I J R) w l2 (Int32.ofNat (top)) (Int64.ofNat 0)) (fun s => ∃ I', s = (l2, mg (4562 + zn J) I' J R) ∧ FrS (fun x => x = w + 1) I I' ∧ Dg I' (w + 1) su r) := by
  have hc := hw.2.2.2.2
  unfold f_X10_takeTimes_j220 f_X10_takeTimes_j243
  by_cases z : su ≤ top
  · conv => arg 1; simp (disch := omega) only [↓reduceIte, ↓q_let, ↓q_xz1, ↓q_xz0, ↓lg_cmp_ge, ↓lg_cmp_le, ↓lg_cmp_gt, ↓lg_cmp_lt, n_lit, j_lit, n_add, n_mul, n_sub, n_dec, Nat.add_sub_cancel, n_leT, n_leF, n_ltT, n_ltF, n_eqT, n_eqF, n_in, n_cl, n_m31, j_m63, j_of32, j_32, i64_add, i64_mul, jn_sub, j_leT, j_leF, j_ltT, j_ltF, j_eqF, jn_and30, jn_sar30, jn_shor, Int32.neg_neg, and_true, true_and, and_self, ↓bW_gI hw, h1]
    obtain rfl : su = top := by omega
    exact q_ok ⟨I, rfl, FrS_rfl, hr⟩
  · conv => arg 1; simp (disch := omega) only [↓reduceIte, ↓q_let, ↓q_xz1, ↓q_xz0, ↓lg_cmp_ge, ↓lg_cmp_le, ↓lg_cmp_gt, ↓lg_cmp_lt, n_lit, j_lit, n_add, n_mul, n_sub, n_dec, Nat.add_sub_cancel, n_leT, n_leF, n_ltT, n_ltF, n_eqT, n_eqF, n_in, n_cl, n_m31, j_m63, j_of32, j_32, i64_add, i64_mul, jn_sub, j_leT, j_leF, j_ltT, j_ltF, j_eqF, jn_and30, jn_sar30, jn_shor, Int32.neg_neg, and_true, true_and, and_self, ↓bW_gI hw, h1, ↓bW_gR hw hR, ↓bW_wI hw, Nat.zero_mod]
    refine q_ok ⟨_, rfl, FrS_up FrS_rfl rfl, Dg_zero (Dg_keep hr (fun j hj => up_n (Or.inr (by omega)))) (fun j h2 h3 => ?_) ht⟩
    by_cases y : j = top
    · rw [y, up_s]
    · rw [up_n (Or.inr y), hH j h2 h3, dW_big hU (by omega)]
theorem W_takeTimes {su n U V j D q : Nat} (hR : RA R) (hw : isW w c) (hsu : su ≤ c) (h1 : I w 1 = (Int32.ofNat (su))) (hU : Dg I (w + 1) su U) (hV : Wh I v e n V) (hV0 : 0 < V) (hj : j + n ≤ su) (hD : D < 1073741824) (hv : w ≠ v) (hUV : U < V * Bw (j + 1)) (hq : q = U / (V * Bw j)) (hDq : D = q ∨ D = q + 1) :
    QK (f_X10_takeTimes (mg (4562 + zn J) I J R) w v (Int64.ofNat D) (Int32.ofNat (j))) (fun s => ∃ I', s = (Int64.ofNat q, mg (4562 + zn J) I' J R) ∧ FrS (fun x => x = w + 1) I I' ∧ Dg I' (w + 1) su (U % (V * Bw j))) := by
  have hv' := hV.1
  have n3 := isW_ne hw hv'
  have n4 := isW_ne hv' hw
  have hc := hw.2.2.2.2
  have he := hv'.2.2.2.2
  have ke := hV.2.2.1
  have hVl : V < Bw n := Wh_lt hV
  have hVP : V * Bw j < Bw (j + n) := by
    rw [Nat.add_comm j n, Bw_add]
    exact Nat.mul_lt_mul_of_pos_right hVl (Bw_pos j)
  have hUt : U < Bw (j + n + 1) := by
    refine Nat.lt_of_lt_of_le hUV ?_
    rw [show j + n + 1 = n + (j + 1) by omega, Bw_add n (j + 1)]
    exact Nat.mul_le_mul_right _ (Nat.le_of_lt hVl)
  have hUs : ((U : Nat) : Int) = ((U % Bw (j + n) : Nat) : Int) + (dW U (j + n) : Nat) * (Bw (j + n) : Nat) := by
    have h := modW_s U (j + n)
    rw [Nat.mod_eq_of_lt hUt] at h
    rw [← Int.natCast_mul, ← Int.natCast_add, Nat.mul_comm (dW U (j + n)), ← h]
  have hr0 : U % (V * Bw j) < V * Bw j := Nat.mod_lt _ (Nat.mul_pos hV0 (Bw_pos j))
  have tn := take_num (U := U) (V := V) (P := Bw j) (D := D) (Bw_pos j) hV0 hq hDq
  unfold f_X10_takeTimes
  have e2 := hV.2.1
  conv => arg 1; simp (disch := omega) only [↓reduceIte, ↓q_let, ↓q_xz1, ↓q_xz0, ↓lg_cmp_ge, ↓lg_cmp_le, ↓lg_cmp_gt, ↓lg_cmp_lt, n_lit, j_lit, n_add, n_mul, n_sub, n_dec, Nat.add_sub_cancel, n_leT, n_leF, n_ltT, n_ltF, n_eqT, n_eqF, n_in, n_cl, n_m31, j_m63, j_of32, j_32, i64_add, i64_mul, jn_sub, j_leT, j_leF, j_ltT, j_ltF, j_eqF, jn_and30, jn_sar30, jn_shor, Int32.neg_neg, and_true, true_and, and_self, ↓bW_gI hv', e2]
  refine q_bind (W_take1 hR hw hsu h1 hU hV hj hD hv) ?_
  rintro s ⟨I1, Z, br, rfl, hF1, hZ, hH, hb1, hb2, heq⟩
  simp only [Sum.elim_inr]
  have g1 : I1 w 1 = (Int32.ofNat (su)) := by rw [hF1 w (by omega)]; exact h1
  have gV : Wh I1 v e n V := Wh_keep hV (hF1 v (by omega)) (hF1 (v + 1) (by omega))
  have dl := dW_lt U (j + n)
  have hZl := hZ.1
  have hVPz : ((V * Bw j : Nat) : Int) = (V : Int) * Bw j := Int.natCast_mul _ _
  have key : ((dW U (j + n) : Nat) : Int) - br = 0 ∧ D = q ∧ Z = U % (V * Bw j) ∨ ((dW U (j + n) : Nat) : Int) - br = -1 ∧ D = q + 1 ∧ Z + V * Bw j = U % (V * Bw j) + Bw (j + n) := by
    have hT : (U : Int) - D * V * Bw j = (Z : Int) + (((dW U (j + n) : Nat) : Int) - br) * Bw (j + n) := by
      rw [hUs, Int.sub_mul]
      omega
    generalize ((dW U (j + n) : Nat) : Int) - br = t at *
    rcases tn with ⟨a, b⟩ | ⟨a, b⟩
    · left
      rw [b] at hT
      have t0 : t = 0 := by
        rcases Int.lt_trichotomy t 0 with h | h | h
        · have := Int.mul_le_mul_of_nonneg_right (show t ≤ -1 by omega) (show (0 : Int) ≤ (Bw (j + n) : Nat) by omega)
          omega
        · exact h
        · have := Int.mul_le_mul_of_nonneg_right (show 1 ≤ t by omega) (show (0 : Int) ≤ (Bw (j + n) : Nat) by omega)
          omega
      rw [t0, Int.zero_mul] at hT
      exact ⟨t0, a, by omega⟩
    · right
      rw [b] at hT
      have t0 : t = -1 := by
        rcases (by omega : t ≤ -2 ∨ t = -1 ∨ 0 ≤ t) with h | h | h
        · have := Int.mul_le_mul_of_nonneg_right h (show (0 : Int) ≤ (Bw (j + n) : Nat) by omega)
          omega
        · exact h
        · have := Int.mul_nonneg h (show (0 : Int) ≤ (Bw (j + n) : Nat) by omega)
          omega
      rw [t0] at hT
      exact ⟨t0, a, by omega⟩
  have j114 : QK (f_X10_takeTimes_j114 (mg (4562 + zn J) I1 J R) w v (Int64.ofNat D) (Int32.ofNat (j)) (Int64.ofInt br) (Int32.ofNat (j + n)) (Int32.ofNat (dW U (j + n)))) (fun s => ∃ I', s = (Int64.ofNat q, mg (4562 + zn J) I' J R) ∧ FrS (fun x => x = w + 1) I I' ∧ Dg I' (w + 1) su (U % (V * Bw j))) := by
    unfold f_X10_takeTimes_j114
    rw [j_of32 (by omega), z_nat, z_sub, q_let]
    rcases key with ⟨k1, k2, k3⟩ | ⟨k1, k2, k3⟩
    · rw [k1, if_pos (by first | decide | omega)]
      subst k2
      rw [← k3]
      refine q_mono (W_take220 hR hw hsu g1 hZ hUt hH hj) ?_
      rintro s ⟨I2, rfl, hF2, hD2⟩
      exact ⟨I2, rfl, FrS_tr hF1 hF2, hD2⟩
    · rw [k1, if_neg (by first | decide | omega)]
      simp only [q_let]
      refine q_bind (W_take2 (hi := fun x => (Int32.ofNat (dW U x))) hR hw hsu g1 hZ gV hj hv hH) ?_
      rintro s ⟨I2, Y, cr, rfl, hF2, hY, hH2, hcr, heq2⟩
      simp only [Sum.elim_inr]
      have hYl := hY.1
      have c1 : cr = 1 ∧ Y = U % (V * Bw j) := by
        rcases (by omega : cr = 0 ∨ cr = 1) with rfl | rfl
        · omega
        · omega
      unfold f_X10_takeTimes_j209
      rw [c1.1, q_let, q_let]
      have g2 : I2 w 1 = (Int32.ofNat (su)) := by rw [hF2 w (by omega)]; exact g1
      have e3 : Int64.ofInt (-1) + Int64.ofNat 1 = Int64.ofNat 0 := by decide
      have e4 : Int64.ofNat D - 1 = Int64.ofNat q := by
        rw [k2]
        exact lN_sub (by omega : 1 ≤ q + 1)
      rw [e3, e4, ← c1.2]
      refine q_mono (W_take220 hR hw hsu g2 hY hUt hH2 hj) ?_
      rintro s ⟨I3, rfl, hF3, hD3⟩
      exact ⟨I3, rfl, FrS_tr (FrS_tr hF1 hF2) hF3, hD3⟩
  unfold f_X10_takeTimes_j94
  by_cases z : su ≤ j + n
  · rw [dW_big hU.1 z] at j114
    conv => arg 1; simp (disch := omega) only [↓reduceIte, ↓q_let, ↓q_xz1, ↓q_xz0, ↓lg_cmp_ge, ↓lg_cmp_le, ↓lg_cmp_gt, ↓lg_cmp_lt, n_lit, j_lit, n_add, n_mul, n_sub, n_dec, Nat.add_sub_cancel, n_leT, n_leF, n_ltT, n_ltF, n_eqT, n_eqF, n_in, n_cl, n_m31, j_m63, j_of32, j_32, i64_add, i64_mul, jn_sub, j_leT, j_leF, j_ltT, j_ltF, j_eqF, jn_and30, jn_sar30, jn_shor, Int32.neg_neg, and_true, true_and, and_self, ↓bW_gI hw, g1]
    exact j114
  · have e5 := hH (j + n) (by omega) (by omega)
    conv => arg 1; simp (disch := omega) only [↓reduceIte, ↓q_let, ↓q_xz1, ↓q_xz0, ↓lg_cmp_ge, ↓lg_cmp_le, ↓lg_cmp_gt, ↓lg_cmp_lt, n_lit, j_lit, n_add, n_mul, n_sub, n_dec, Nat.add_sub_cancel, n_leT, n_leF, n_ltT, n_ltF, n_eqT, n_eqF, n_in, n_cl, n_m31, j_m63, j_of32, j_32, i64_add, i64_mul, jn_sub, j_leT, j_leF, j_ltT, j_ltF, j_eqF, jn_and30, jn_sar30, jn_shor, Int32.neg_neg, and_true, true_and, and_self, ↓bW_gI hw, g1, ↓bW_gR hw hR, ↓bW_aI hw, e5]
    exact j114
end WL
