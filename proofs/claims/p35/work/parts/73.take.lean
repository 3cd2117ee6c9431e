/-! so many times taken away; one time less, if that is too much -/
section WK
variable {I : Nat → Nat → Int32} {J : Nat → Nat → Int64} {R : Nat → Nat → Option Nat} {w c u d v e : Nat}
theorem take_num {U V P D q : Nat} (hP : 0 < P) (hV : 0 < V) (h1 : q = U / (V * P)) (hD : D = q ∨ D = q + 1) : (D = q ∧ (U : Int) - D * V * P = ((U % (V * P) : Nat) : Int)) ∨ (D = q + 1 ∧ (U : Int) - D * V * P = ((U % (V * P) : Nat) : Int) - V * P) := by
  have h := Nat.div_add_mod U (V * P)
  rw [← h1] at h
  rcases hD with rfl | rfl
  · left
    refine ⟨rfl, ?_⟩
    have e : (U : Int) = (V : Int) * P * D + ((U % (V * P) : Nat) : Int) := by
      rw [← Int.natCast_mul, ← Int.natCast_mul, ← Int.natCast_add, h]
    rw [e]
    generalize ((U % (V * P) : Nat) : Int) = r
    grind
  · right
    refine ⟨rfl, ?_⟩
    have e : (U : Int) = (V : Int) * P * q + ((U % (V * P) : Nat) : Int) := by
      rw [← Int.natCast_mul, ← Int.natCast_mul, ← Int.natCast_add, h]
    rw [e, Int.natCast_add]
    generalize ((U % (V * P) : Nat) : Int) = r
    grind
theorem W_take1 {su n U V j D : Nat} (hR : RA R) (hw : isW w c) (hsu : su ≤ c) (h1 : I w 1 = (Int32.ofNat (su))) (hU : Dg I (w + 1) su U) (hV : Wh I v e n V) (hj : j + n ≤ su) (hD : D < 1073741824) (hv : w ≠ v) :
    QK (xloop f_X10_takeTimes_s15 xF (w, v, Int64.ofNat D, (Int32.ofNat (j)), (0 : Int64), (Int32.ofNat (j + n)), (0 : Int32), mg (4562 + zn J) I J R)) (fun r => ∃ I' Z, ∃ br : Int, r = .inr (w, v, Int64.ofNat D, (Int32.ofNat (j)), Int64.ofInt br, (Int32.ofNat (j + n)), mg (4562 + zn J) I' J R) ∧ FrS (fun x => x = w + 1) I I' ∧ Dg I' (w + 1) (j + n) Z ∧ (∀ x, j + n ≤ x → x < su → I' (w + 1) x = (Int32.ofNat (dW U x))) ∧ 0 ≤ br ∧ br < 1073741824 ∧ (Z : Int) - br * Bw (j + n) = ((U % Bw (j + n) : Nat) : Int) - D * V * Bw j) := by
  have hc := hw.2.2.2.2
  have hv' := hV.1
  have n3 := isW_ne hw hv'
  have n4 := isW_ne hv' hw
  have he := hv'.2.2.2.2
  have ke := hV.2.2.1
  refine q_for n (fun i st => ∃ I' Z, ∃ br : Int, st = (w, v, Int64.ofNat D, (Int32.ofNat (j)), Int64.ofInt br, (Int32.ofNat (j + n)), (Int32.ofNat (i)), mg (4562 + zn J) I' J R) ∧ FrS (fun x => x = w + 1) I I' ∧ Dg I' (w + 1) (j + i) Z ∧ (∀ x, j + i ≤ x → x < su → I' (w + 1) x = (Int32.ofNat (dW U x))) ∧ 0 ≤ br ∧ br < 1073741824 ∧ (Z : Int) - br * Bw (j + i) = ((U % Bw (j + i) : Nat) : Int) - D * ((V % Bw i : Nat) : Int) * Bw j) ?_ ?_ (i := 0) ⟨I, U % Bw j, 0, rfl, FrS_rfl, Dg_pre hU (by omega), fun x _ h => hU.2 x h, by omega, by omega, ?_⟩ (by omega) (by unfold xF; omega)
  · rintro i st hi ⟨I', Z, br, rfl, hF, hD', hhi, hb1, hb2, heq⟩
    have e1 : I' w 1 = (Int32.ofNat (su)) := by rw [hF w (by omega)]; exact h1
    have e2 : I' v 1 = (Int32.ofNat (n)) := by rw [hF v (by omega)]; exact hV.2.1
    have e4 : I' (v + 1) i = (Int32.ofNat (dW V i)) := by rw [hF (v + 1) (by omega)]; exact hV.2.2.2.1.2 i hi
    have e5 := hhi (j + i) (by omega) (by omega)
    have d1 := dW_lt U (j + i)
    have d2 := dW_lt V i
    have pr : D * dW V i ≤ 1073741823 * 1073741823 := Nat.mul_le_mul (by omega) (by omega)
    unfold f_X10_takeTimes_s15 xlet
    dsimp only
    conv => arg 1; simp (disch := omega) only [↓reduceIte, ↓q_let, ↓q_xz1, ↓q_xz0, ↓lg_cmp_ge, ↓lg_cmp_le, ↓lg_cmp_gt, ↓lg_cmp_lt, n_lit, j_lit, n_add, n_mul, n_sub, n_dec, Nat.add_sub_cancel, n_leT, n_leF, n_ltT, n_ltF, n_eqT, n_eqF, n_in, n_cl, n_m31, j_m63, j_of32, j_32, i64_add, i64_mul, jn_sub, j_leT, j_leF, j_ltT, j_ltF, j_eqF, jn_and30, jn_sar30, jn_shor, Int32.neg_neg, and_true, true_and, and_self, ↓bW_gI hv', ↓bW_gI hw, e1, e2, ↓bW_gR hw hR, ↓bW_aI hw, e5, ↓bW_gR hv' hR, ↓bW_aI hv', e4]
    rw [z_nat, z_nat, z_sub, z_sub]
    have pr2 : ((D * dW V i : Nat) : Int) ≤ 1073741823 * 1073741823 := by omega
    generalize hx : ((dW U (j + i) : Nat) : Int) - ((D * dW V i : Nat) : Int) - br = x
    have hx1 : -1152921504606846976 ≤ x ∧ x < 1073741824 := by omega
    obtain ⟨y, hy, hy2, hy3⟩ := emod_nat (z := x)
    rw [z_and30 _ (by omega), hy2, j_32, z_sar30 (by omega), z_neg]
    conv => arg 1; simp (disch := omega) only [↓reduceIte, ↓q_let, ↓q_xz1, ↓q_xz0, ↓lg_cmp_ge, ↓lg_cmp_le, ↓lg_cmp_gt, ↓lg_cmp_lt, n_lit, j_lit, n_add, n_mul, n_sub, n_dec, Nat.add_sub_cancel, n_leT, n_leF, n_ltT, n_ltF, n_eqT, n_eqF, n_in, n_cl, n_m31, j_m63, j_of32, j_32, i64_add, i64_mul, jn_sub, j_leT, j_leF, j_ltT, j_ltF, j_eqF, jn_and30, jn_sar30, jn_shor, Int32.neg_neg, and_true, true_and, and_self, ↓bW_wI hw]
    have ex : x = 1073741824 * (x / 1073741824) + y := by
      rw [hy3]
      exact (Int.mul_ediv_add_emod _ _).symm
    refine q_go ⟨_, Z + y * Bw (j + i), _, rfl, FrS_up hF rfl, Dg_w hD' hy, fun z h2 h3 => ?_, by omega, ?_, ?_⟩
    · rw [up_n (Or.inr (by omega))]
      exact hhi z (by omega) h3
    · have pr3 : D * dW V i + 1073741823 ≤ 1073741823 * 1073741824 := by omega
      omega
    · rw [show j + (i + 1) = j + i + 1 by omega, modW_sZ, modW_sZ, Bw_s, Bw_add] at *
      simp only [Int.natCast_add, Int.natCast_mul] at *
      rw [show ((1073741824 : Nat) : Int) = 1073741824 from rfl]
      generalize x / 1073741824 = q at *
      generalize ((U % (Bw j * Bw i) : Nat) : Int) = r1 at *
      generalize ((V % Bw i : Nat) : Int) = r2 at *
      generalize ((dW V i : Nat) : Int) = r3 at *
      generalize ((dW U (j + i) : Nat) : Int) = r4 at *
      grind
  · rintro st ⟨I', Z, br, rfl, hF, hD', hhi, hb1, hb2, heq⟩
    have e2 : I' v 1 = (Int32.ofNat (n)) := by rw [hF v (by omega)]; exact hV.2.1
    unfold f_X10_takeTimes_s15 xlet
    dsimp only
    conv => arg 1; simp (disch := omega) only [↓reduceIte, ↓q_let, ↓q_xz1, ↓q_xz0, ↓lg_cmp_ge, ↓lg_cmp_le, ↓lg_cmp_gt, ↓lg_cmp_lt, n_lit, j_lit, n_add, n_mul, n_sub, n_dec, Nat.add_sub_cancel, n_leT, n_leF, n_ltT, n_ltF, n_eqT, n_eqF, n_in, n_cl, n_m31, j_m63, j_of32, j_32, i64_add, i64_mul, jn_sub, j_leT, j_leF, j_ltT, j_ltF, j_eqF, jn_and30, jn_sar30, jn_shor, Int32.neg_neg, and_true, true_and, and_self, ↓bW_gI hv', e2]
    rw [Nat.mod_eq_of_lt (Wh_lt hV)] at heq
    exact q_ex ⟨I', Z, br, rfl, hF, hD', hhi, hb1, hb2, heq⟩
  · rw [Bw_0, Nat.mod_one, Nat.add_zero]
    omega
theorem W_take2 {su n Z V j : Nat} {hi : Nat → Int32} {D l8 : Int64} (hR : RA R) (hw : isW w c) (hsu : su ≤ c) (h1 : I w 1 = (Int32.ofNat (su))) (hZ : Dg I (w + 1) (j + n) Z) (hV : Wh I v e n V) (hj : j + n ≤ su) (hv : w ≠ v) (hH : ∀ x, j + n ≤ x → x < su → I (w + 1) x = hi x) :
    QK (xloop f_X10_takeTimes_s133 xF (w, v, D, (Int32.ofNat (j)), (Int32.ofNat (j + n)), l8, (0 : Int64), (0 : Int32), mg (4562 + zn J) I J R)) (fun r => ∃ I' Y cr, r = .inr (w, D, (Int32.ofNat (j + n)), l8, Int64.ofNat cr, mg (4562 + zn J) I' J R) ∧ FrS (fun x => x = w + 1) I I' ∧ Dg I' (w + 1) (j + n) Y ∧ (∀ x, j + n ≤ x → x < su → I' (w + 1) x = hi x) ∧ cr ≤ 1 ∧ Y + cr * Bw (j + n) = Z + V * Bw j) := by
  have hc := hw.2.2.2.2
  have hv' := hV.1
  have n3 := isW_ne hw hv'
  have n4 := isW_ne hv' hw
  have he := hv'.2.2.2.2
  have ke := hV.2.2.1
  refine q_for n (fun i st => ∃ I' Y cr, st = (w, v, D, (Int32.ofNat (j)), (Int32.ofNat (j + n)), l8, Int64.ofNat cr, (Int32.ofNat (i)), mg (4562 + zn J) I' J R) ∧ FrS (fun x => x = w + 1) I I' ∧ Dg I' (w + 1) (j + i) Y ∧ (∀ x, j + i ≤ x → x < j + n → I' (w + 1) x = (Int32.ofNat (dW Z x))) ∧ (∀ x, j + n ≤ x → x < su → I' (w + 1) x = hi x) ∧ cr ≤ 1 ∧ Y + cr * Bw (j + i) = Z % Bw (j + i) + V % Bw i * Bw j) ?_ ?_ (i := 0) ⟨I, Z % Bw j, 0, rfl, FrS_rfl, Dg_pre hZ (by omega), fun x _ h => hZ.2 x h, hH, by omega, ?_⟩ (by omega) (by unfold xF; omega)
  · rintro i st hi' ⟨I', Y, cr, rfl, hF, hD', hlo, hhi, hb1, heq⟩
    have e1 : I' w 1 = (Int32.ofNat (su)) := by rw [hF w (by omega)]; exact h1
    have e2 : I' v 1 = (Int32.ofNat (n)) := by rw [hF v (by omega)]; exact hV.2.1
    have e4 : I' (v + 1) i = (Int32.ofNat (dW V i)) := by rw [hF (v + 1) (by omega)]; exact hV.2.2.2.1.2 i hi'
    have e5 := hlo (j + i) (by omega) (by omega)
    have d1 := dW_lt Z (j + i)
    have d2 := dW_lt V i
    unfold f_X10_takeTimes_s133 xlet
    dsimp only
    conv => arg 1; simp (disch := omega) only [↓reduceIte, ↓q_let, ↓q_xz1, ↓q_xz0, ↓lg_cmp_ge, ↓lg_cmp_le, ↓lg_cmp_gt, ↓lg_cmp_lt, n_lit, j_lit, n_add, n_mul, n_sub, n_dec, Nat.add_sub_cancel, n_leT, n_leF, n_ltT, n_ltF, n_eqT, n_eqF, n_in, n_cl, n_m31, j_m63, j_of32, j_32, i64_add, i64_mul, jn_sub, j_leT, j_leF, j_ltT, j_ltF, j_eqF, jn_and30, jn_sar30, jn_shor, Int32.neg_neg, and_true, true_and, and_self, ↓bW_gI hv', ↓bW_gI hw, e1, e2, ↓bW_gR hw hR, ↓bW_aI hw, e5, ↓bW_gR hv' hR, ↓bW_aI hv', e4, ↓bW_wI hw]
    generalize hx : dW Z (j + i) + dW V i + cr = x
    refine q_go ⟨_, Y + x % 1073741824 * Bw (j + i), x / 1073741824, rfl, FrS_up hF rfl, Dg_w hD' (Nat.mod_lt _ (by first | decide | omega)), fun z h2 h3 => ?_, fun z h2 h3 => ?_, by omega, ?_⟩
    · rw [up_n (Or.inr (by omega))]
      exact hlo z (by omega) h3
    · rw [up_n (Or.inr (by omega))]
      exact hhi z (by omega) h3
    · have s1 : j + (i + 1) = j + i + 1 := by omega
      rw [s1, modW_s Z, modW_s V, Bw_s, Bw_add] at *
      have hx2 := Nat.div_add_mod x 1073741824
      generalize x / 1073741824 = q at *
      generalize x % 1073741824 = r at *
      subst hx2
      grind
  · rintro st ⟨I', Y, cr, rfl, hF, hD', hlo, hhi, hb1, heq⟩
    have e2 : I' v 1 = (Int32.ofNat (n)) := by rw [hF v (by omega)]; exact hV.2.1
    unfold f_X10_takeTimes_s133 xlet
    dsimp only
    conv => arg 1; simp (disch := omega) only [↓reduceIte, ↓q_let, ↓q_xz1, ↓q_xz0, ↓lg_cmp_ge, ↓lg_cmp_le, ↓lg_cmp_gt, ↓lg_cmp_lt, n_lit, j_lit, n_add, n_mul, n_sub, n_dec, Nat.add_sub_cancel, n_leT, n_leF, n_ltT, n_ltF, n_eqT, n_eqF, n_in, n_cl, n_m31, j_m63, j_of32, j_32, i64_add, i64_mul, jn_sub, j_leT, j_leF, j_ltT, j_ltF, j_eqF, jn_and30, jn_sar30, jn_shor, Int32.neg_neg, and_true, true_and, and_self, ↓bW_gI hv', e2]
    rw [Nat.mod_eq_of_lt (Wh_lt hV), Nat.mod_eq_of_lt hZ.1] at heq
    exact q_ex ⟨I', Y, cr, rfl, hF, hD', hhi, hb1, heq⟩
  · rw [Bw_0, Nat.mod_one, Nat.add_zero, Nat.zero_mul]
end WK
