/-! a digit of a quotient is guessed: limbs read -/
theorem W_guessShift {M : xM} {a b h : Nat} {x y : Int32} (hp : 0 < h) (v1 : h < 1073741824) :
    QK (xloop (f_X10_guess_s38 M) xF (a, b, x, y, (0 : Int32), (Int32.ofNat (h)))) (fun r => ∃ s, r = .inr (a, b, x, y, (Int32.ofNat (s))) ∧ s ≤ 29 ∧ 2 ^ (29 - s) ≤ h ∧ h < 2 ^ (30 - s)) := by
  refine q_loop (fun m st => ∃ s, st = (a, b, x, y, (Int32.ofNat (s)), (Int32.ofNat (h))) ∧ s + m = 29 ∧ h < 2 ^ (30 - s)) ?_ (m := 29) ⟨0, rfl, rfl, by rw [Nat.sub_zero]; exact v1⟩ (by unfold xF; omega)
  rintro m st ⟨s, rfl, hm, hl⟩
  unfold f_X10_guess_s38 xlet
  dsimp only
  by_cases q : 29 ≤ s
  · conv => arg 1; simp (disch := omega) only [↓reduceIte, ↓q_let, ↓q_xz1, ↓q_xz0, ↓lg_cmp_ge, ↓lg_cmp_le, ↓lg_cmp_gt, ↓lg_cmp_lt, n_lit, j_lit, n_add, n_mul, n_sub, n_dec, Nat.add_sub_cancel, n_leT, n_leF, n_ltT, n_ltF, n_eqT, n_eqF, n_in, n_cl, n_m31, j_m63, j_of32, j_32, i64_add, i64_mul, jn_sub, j_leT, j_leF, j_ltT, j_ltF, j_eqF, jn_and30, jn_sar30, jn_shor, Int32.neg_neg, and_true, true_and, and_self]
    obtain rfl : s = 29 := by omega
    exact q_ex ⟨29, rfl, by omega, by rw [Nat.sub_self, Nat.pow_zero]; exact hp, hl⟩
  · by_cases q2 : h / 2 ^ (29 - s) = 0
    · have q3 : h < 2 ^ (29 - s) := Nat.lt_of_not_le (fun z => by
        have := Nat.div_pos z (Nat.two_pow_pos _)
        omega)
      conv => arg 1; simp (disch := omega) only [↓reduceIte, ↓q_let, ↓q_xz1, ↓q_xz0, ↓lg_cmp_ge, ↓lg_cmp_le, ↓lg_cmp_gt, ↓lg_cmp_lt, n_lit, j_lit, n_add, n_mul, n_sub, n_dec, Nat.add_sub_cancel, n_leT, n_leF, n_ltT, n_ltF, n_eqT, n_eqF, n_in, n_cl, n_m31, j_m63, j_of32, j_32, i64_add, i64_mul, jn_sub, j_leT, j_leF, j_ltT, j_ltF, j_eqF, jn_and30, jn_sar30, jn_shor, Int32.neg_neg, and_true, true_and, and_self, n_sar, q2]
      exact q_go ⟨m - 1, by omega, s + 1, rfl, by omega, by rw [show 30 - (s + 1) = 29 - s by omega]; exact q3⟩
    · have q3 : h / 2 ^ (29 - s) ≤ h := Nat.div_le_self _ _
      conv => arg 1; simp (disch := omega) only [↓reduceIte, ↓q_let, ↓q_xz1, ↓q_xz0, ↓lg_cmp_ge, ↓lg_cmp_le, ↓lg_cmp_gt, ↓lg_cmp_lt, n_lit, j_lit, n_add, n_mul, n_sub, n_dec, Nat.add_sub_cancel, n_leT, n_leF, n_ltT, n_ltF, n_eqT, n_eqF, n_in, n_cl, n_m31, j_m63, j_of32, j_32, i64_add, i64_mul, jn_sub, j_leT, j_leF, j_ltT, j_ltF, j_eqF, jn_and30, jn_sar30, jn_shor, Int32.neg_neg, and_true, true_and, and_self, n_sar]
      refine q_ex ⟨s, rfl, by omega, ?_, hl⟩
      exact Nat.le_of_not_lt (fun z => q2 (Nat.div_eq_of_lt z))
theorem j_one {F : Nat} (h : 1 ≤ F) (h' : F < 1073741824) : (1 : Int64) ≤ Int64.ofNat F := (j_le (a := 1) (by omega) (by omega)).mpr h
section WJ
variable {I : Nat → Nat → Int32} {J : Nat → Nat → Int64} {R : Nat → Nat → Option Nat} {w c u d v e : Nat}
theorem W_guess {su n U V j : Nat} (hR : RA R) (hw : isW w c) (hsu : su ≤ c) (h1 : I w 1 = (Int32.ofNat (su))) (hU : Dg I (w + 1) su U) (hV : Wh I v e (n + 2) V) (hj : j + (n + 2) ≤ su) (hUV : U < V * Bw (j + 1)) :
    ∃ dd, f_X10_guess (mg (4562 + zn J) I J R) w v (Int32.ofNat (j + (n + 2))) = some (Int64.ofNat dd) ∧ dd < 1073741824 ∧ U / (V * Bw j) ≤ dd ∧ dd ≤ U / (V * Bw j) + 1 := by
  have hc := hw.2.2.2.2
  have hv := hV.1
  have he := hv.2.2.2.2
  have kv := hV.2.2.1
  have top : Bw (n + 1) ≤ V := (hV.2.2.2.2).resolve_left (by omega)
  have hVl : V < Bw (n + 2) := Wh_lt hV
  have v1 := dW_lt V (n + 1)
  have v2 := dW_lt V n
  have v3 := lo3_lt V n
  have e1 := hV.2.2.2.1.2 (n + 1) (by omega)
  have e2 := hV.2.2.2.1.2 n (by omega)
  have hp : 0 < dW V (n + 1) := by
    have hs := dW_split V (n + 1)
    rw [Nat.div_eq_of_lt (show V < Bw (n + 1 + 1) from hVl), Nat.zero_mul, Nat.zero_add] at hs
    rw [← hs]
    exact Nat.div_pos top (Bw_pos _)
  obtain ⟨r, er, s, rfl, hs, hs1, hs2⟩ := W_guessShift (M := mg (4562 + zn J) I J R) (a := w) (b := v) (x := (Int32.ofNat (j + (n + 2)))) (y := (Int32.ofNat (n + 2))) hp v1
  have U3 : U < Bw (j + n + 3) := by
    refine Nat.lt_of_lt_of_le hUV ?_
    rw [show j + n + 3 = n + 2 + (j + 1) by omega, Bw_add (n + 2) (j + 1)]
    exact Nat.mul_le_mul_right _ (Nat.le_of_lt hVl)
  have u0 := dW_lt U (j + n + 2)
  have u1 := dW_lt U (j + n + 1)
  have u2 := dW_lt U (j + n)
  have u3 := lo3_lt U (j + n)
  have f1 := hU.2 (j + n + 1) (by omega)
  have f2 := hU.2 (j + n) (by omega)
  have ex := sc3 (N := U) (m := j + n) hs U3
  have ey := sc3 (N := V) (m := n) hs (Nat.lt_of_lt_of_le hVl (Bw_le (by omega)))
  rw [dW_big hVl (Nat.le_refl _), Nat.mul_zero, Nat.zero_add] at ey
  have PQ := T_pq hs
  -- the first limbs
  have hF1 : 2 ^ s * dW V (n + 1) + dW V n / 2 ^ (30 - s) < 1073741824 := by
    have a := T_lt (a := 0) hs v2
    have b : 2 ^ s * (dW V (n + 1) + 1) ≤ 2 ^ s * 2 ^ (30 - s) := Nat.mul_le_mul_left _ hs2
    rw [PQ, Nat.mul_add] at b
    omega
  have hF2 : 536870912 ≤ 2 ^ s * dW V (n + 1) + dW V n / 2 ^ (30 - s) := by
    have b : 2 ^ s * 2 ^ (29 - s) ≤ 2 ^ s * dW V (n + 1) := Nat.mul_le_mul_left _ hs1
    rw [← Nat.pow_add, show s + (29 - s) = 29 by omega] at b
    exact Nat.le_trans (show 536870912 ≤ _ from b) (Nat.le_add_right _ _)
  have tdv := T_div (a := dW V (n + 1)) hs
  have eF : dW V (n + 1) / 2 ^ (30 - s) = 0 := Nat.div_eq_of_lt hs2
  rw [eF, Nat.zero_mul, Nat.zero_add] at tdv
  rw [eF, Nat.zero_mul, Nat.zero_add, ← tdv] at ey
  obtain ⟨dd, g1, g2, g3, g4⟩ := W_guessTop (σ := mg (4562 + zn J) I J R) (X := U * 2 ^ s) (Y := V * 2 ^ s * Bw j) (M := Bw (j + n)) hF2 hF1 (T2_lt (a := dW V n) hs v3) (T2_lt (a := dW U (j + n + 1)) hs u2) (T2_lt (a := dW U (j + n)) hs u3) (Bw_pos _) (by
      rw [Nat.add_comm j n, Bw_add, Nat.mul_div_mul_right _ _ (Bw_pos j)]
      exact ey) rfl ex (by
      rw [Bw_s] at hUV
      have h := Nat.mul_lt_mul_of_pos_right hUV (Nat.two_pow_pos s)
      refine Nat.lt_of_lt_of_eq h ?_
      generalize 2 ^ s = p
      grind)
  have eq : U * 2 ^ s / (V * 2 ^ s * Bw j) = U / (V * Bw j) := by
    rw [show V * 2 ^ s * Bw j = V * Bw j * 2 ^ s by generalize 2 ^ s = p; grind, Nat.mul_div_mul_right _ _ (Nat.two_pow_pos s)]
  rw [eq] at g3 g4
  refine ⟨dd, ?_, g2, g3, g4⟩
  have z1 := h1
  have z2 := hV.2.1
  have b0 : dW U (j + n + 2) = 0 ∨ j + n + 2 < su := by
    by_cases q : j + n + 2 < su
    · exact Or.inr q
    · exact Or.inl (dW_big hU.1 (by omega))
  have lV : 1 ≤ n → I (v + 1) (n - 1) = (Int32.ofNat (lo3 V n)) := fun z => by
    unfold lo3
    rw [if_neg (by omega)]
    exact hV.2.2.2.1.2 (n - 1) (by omega)
  have lU : 1 ≤ j + n → I (w + 1) (j + n - 1) = (Int32.ofNat (lo3 U (j + n))) := fun z => by
    unfold lo3
    rw [if_neg (by omega)]
    exact hU.2 (j + n - 1) (by omega)
  -- the methods behind one another
  have j240 : f_X10_guess_j240 (mg (4562 + zn J) I J R) (Int64.ofNat (2 ^ s * dW V (n + 1) + dW V n / 2 ^ (30 - s))) (Int64.ofNat ((2 ^ s * dW V n) % 1073741824 + lo3 V n / 2 ^ (30 - s))) (Int64.ofNat (2 ^ s * dW U (j + n + 2) + dW U (j + n + 1) / 2 ^ (30 - s))) (Int64.ofNat ((2 ^ s * dW U (j + n + 1)) % 1073741824 + dW U (j + n) / 2 ^ (30 - s))) ((Int32.ofNat (lo3 U (j + n))) >>> (Int32.ofNat (30 - s))) (Int64.ofNat (dW U (j + n)) <<< Int64.ofNat s &&& Int64.ofNat 1073741823) = some (Int64.ofNat dd) := by
    unfold f_X10_guess_j240
    rw [T2 hs u2 u3, q_let, if_pos ((lg_cmp_ge _ _).mpr (j_one (Nat.le_trans (by first | decide | omega) hF2) hF1))]
    exact g1
  have j154 : f_X10_guess_j154 (mg (4562 + zn J) I J R) w (Int32.ofNat (j + (n + 2))) (Int32.ofNat (s)) (Int32.ofNat (30 - s)) (Int64.ofNat (2 ^ s * dW V (n + 1) + dW V n / 2 ^ (30 - s))) (Int64.ofNat ((2 ^ s * dW V n) % 1073741824 + lo3 V n / 2 ^ (30 - s))) (Int32.ofNat (dW U (j + n + 2))) = some (Int64.ofNat dd) := by
    rw [← j240]
    unfold f_X10_guess_j154
    have k1 : j + (n + 2) - 1 = j + n + 1 := by omega
    have k2 : j + (n + 2) - 2 = j + n := by omega
    have k3 : j + (n + 2) - 3 = j + n - 1 := by omega
    by_cases q : j + n = 0
    · have u30 : lo3 U (j + n) = 0 := if_pos q
      rw [u30, ← T_z hs]
      simp (disch := omega) only [↓reduceIte, ↓q_let, ↓q_xz1, ↓q_xz0, ↓lg_cmp_ge, ↓lg_cmp_le, ↓lg_cmp_gt, ↓lg_cmp_lt, n_lit, j_lit, n_add, n_mul, n_sub, n_dec, Nat.add_sub_cancel, n_leT, n_leF, n_ltT, n_ltF, n_eqT, n_eqF, n_in, n_cl, n_m31, j_m63, j_of32, j_32, i64_add, i64_mul, jn_sub, j_leT, j_leF, j_ltT, j_ltF, j_eqF, jn_and30, jn_sar30, jn_shor, Int32.neg_neg, and_true, true_and, and_self, ↓bW_gR hw hR, ↓bW_aI hw, k1, k2, k3, f1, f2, T1, T2]
    · have lU' := lU (by omega)
      simp (disch := omega) only [↓reduceIte, ↓q_let, ↓q_xz1, ↓q_xz0, ↓lg_cmp_ge, ↓lg_cmp_le, ↓lg_cmp_gt, ↓lg_cmp_lt, n_lit, j_lit, n_add, n_mul, n_sub, n_dec, Nat.add_sub_cancel, n_leT, n_leF, n_ltT, n_ltF, n_eqT, n_eqF, n_in, n_cl, n_m31, j_m63, j_of32, j_32, i64_add, i64_mul, jn_sub, j_leT, j_leF, j_ltT, j_ltF, j_eqF, jn_and30, jn_sar30, jn_shor, Int32.neg_neg, and_true, true_and, and_self, ↓bW_gR hw hR, ↓bW_aI hw, k1, k2, k3, f1, f2, lU', T1, T2]
  have j132 : f_X10_guess_j132 (mg (4562 + zn J) I J R) w (Int32.ofNat (j + (n + 2))) (Int32.ofNat (s)) (Int32.ofNat (30 - s)) (Int64.ofNat (2 ^ s * dW V (n + 1) + dW V n / 2 ^ (30 - s))) ((Int32.ofNat (lo3 V n)) >>> (Int32.ofNat (30 - s))) (Int64.ofNat (dW V n) <<< Int64.ofNat s &&& Int64.ofNat 1073741823) = some (Int64.ofNat dd) := by
    rw [← j154]
    unfold f_X10_guess_j132
    rw [T2 hs v2 v3]
    by_cases q : j + n + 2 < su
    · have f0 := hU.2 (j + n + 2) q
      have k0 : j + (n + 2) = j + n + 2 := by omega
      simp (disch := omega) only [↓reduceIte, ↓q_let, ↓q_xz1, ↓q_xz0, ↓lg_cmp_ge, ↓lg_cmp_le, ↓lg_cmp_gt, ↓lg_cmp_lt, n_lit, j_lit, n_add, n_mul, n_sub, n_dec, Nat.add_sub_cancel, n_leT, n_leF, n_ltT, n_ltF, n_eqT, n_eqF, n_in, n_cl, n_m31, j_m63, j_of32, j_32, i64_add, i64_mul, jn_sub, j_leT, j_leF, j_ltT, j_ltF, j_eqF, jn_and30, jn_sar30, jn_shor, Int32.neg_neg, and_true, true_and, and_self, ↓bW_gI hw, ↓bW_gR hw hR, ↓bW_aI hw, z1, k0, f0]
    · rw [b0.resolve_right q]
      simp (disch := omega) only [↓reduceIte, ↓q_let, ↓q_xz1, ↓q_xz0, ↓lg_cmp_ge, ↓lg_cmp_le, ↓lg_cmp_gt, ↓lg_cmp_lt, n_lit, j_lit, n_add, n_mul, n_sub, n_dec, Nat.add_sub_cancel, n_leT, n_leF, n_ltT, n_ltF, n_eqT, n_eqF, n_in, n_cl, n_m31, j_m63, j_of32, j_32, i64_add, i64_mul, jn_sub, j_leT, j_leF, j_ltT, j_ltF, j_eqF, jn_and30, jn_sar30, jn_shor, Int32.neg_neg, and_true, true_and, and_self, ↓bW_gI hw, z1]
  unfold f_X10_guess
  simp (disch := omega) only [↓reduceIte, ↓q_let, ↓q_xz1, ↓q_xz0, ↓lg_cmp_ge, ↓lg_cmp_le, ↓lg_cmp_gt, ↓lg_cmp_lt, n_lit, j_lit, n_add, n_mul, n_sub, n_dec, Nat.add_sub_cancel, n_leT, n_leF, n_ltT, n_ltF, n_eqT, n_eqF, n_in, n_cl, n_m31, j_m63, j_of32, j_32, i64_add, i64_mul, jn_sub, j_leT, j_leF, j_ltT, j_ltF, j_eqF, jn_and30, jn_sar30, jn_shor, Int32.neg_neg, and_true, true_and, and_self, ↓bW_gI hv, ↓bW_gI hw, z1, z2, ↓bW_gR hv hR, ↓bW_aI hv]
  rw [show n + 2 - 1 = n + 1 by omega, e1]
  have er' : xloop (f_X10_guess_s38 (mg (4562 + zn J) I J R)) xF (w, v, (Int32.ofNat (j + (n + 2))), (Int32.ofNat (n + 2)), (Int32.ofNat (0)), (Int32.ofNat (dW V (n + 1)))) = some (.inr (w, v, (Int32.ofNat (j + (n + 2))), (Int32.ofNat (n + 2)), (Int32.ofNat (s)))) := er
  rw [er', Option.bind_some, Sum.elim_inr]
  rw [← j132]
  unfold f_X10_guess_j62
  have k1 : n + 2 - 1 = n + 1 := by omega
  have k2 : n + 2 - 2 = n := by omega
  have k3 : n + 2 - 3 = n - 1 := by omega
  by_cases q : n = 0
  · have u30 : lo3 V n = 0 := if_pos q
    rw [u30, ← T_z hs]
    simp (disch := omega) only [↓reduceIte, ↓q_let, ↓q_xz1, ↓q_xz0, ↓lg_cmp_ge, ↓lg_cmp_le, ↓lg_cmp_gt, ↓lg_cmp_lt, n_lit, j_lit, n_add, n_mul, n_sub, n_dec, Nat.add_sub_cancel, n_leT, n_leF, n_ltT, n_ltF, n_eqT, n_eqF, n_in, n_cl, n_m31, j_m63, j_of32, j_32, i64_add, i64_mul, jn_sub, j_leT, j_leF, j_ltT, j_ltF, j_eqF, jn_and30, jn_sar30, jn_shor, Int32.neg_neg, and_true, true_and, and_self, ↓bW_gR hv hR, ↓bW_aI hv, k1, k2, k3, e1, e2, T1]
  · have lV' := lV (by omega)
    simp (disch := omega) only [↓reduceIte, ↓q_let, ↓q_xz1, ↓q_xz0, ↓lg_cmp_ge, ↓lg_cmp_le, ↓lg_cmp_gt, ↓lg_cmp_lt, n_lit, j_lit, n_add, n_mul, n_sub, n_dec, Nat.add_sub_cancel, n_leT, n_leF, n_ltT, n_ltF, n_eqT, n_eqF, n_in, n_cl, n_m31, j_m63, j_of32, j_32, i64_add, i64_mul, jn_sub, j_leT, j_leF, j_ltT, j_ltF, j_eqF, jn_and30, jn_sar30, jn_shor, Int32.neg_neg, and_true, true_and, and_self, ↓bW_gR hv hR, ↓bW_aI hv, k1, k2, k3, e1, e2, lV', T1]
end WJ
