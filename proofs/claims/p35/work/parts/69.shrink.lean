/-! the class's whole numbers: divided by a small one -/
theorem j_div {a b : Nat} (ha : a < 9223372036854775808) (h0 : 0 < b) (hb : b < 9223372036854775808) : Int64.ofNat a / Int64.ofNat b = Int64.ofNat (a / b) := pk_lDiv (by omega) h0 (by omega)
theorem j_rem {a b : Nat} (ha : a < 9223372036854775808) (h0 : 0 < b) (hb : b < 9223372036854775808) : Int64.ofNat a - Int64.ofNat a / Int64.ofNat b * Int64.ofNat b = Int64.ofNat (a % b) := pk_lRem (by omega) h0 (by omega)
theorem shr_dig {U d i : Nat} (hd : 0 < d) : dW (U / d) i = (U / Bw (i + 1) % d * 1073741824 + dW U i) / d ∧ U / Bw i % d = (U / Bw (i + 1) % d * 1073741824 + dW U i) % d := by
  have h1 := dW_split U i
  have h2 := Nat.div_add_mod (U / Bw (i + 1)) d
  have e : U / Bw i = d * (U / Bw (i + 1) / d * 1073741824) + (U / Bw (i + 1) % d * 1073741824 + dW U i) := by
    rw [h1]
    generalize U / Bw (i + 1) / d = q at *
    generalize U / Bw (i + 1) % d = r at *
    rw [← h2]
    grind
  have h3 := Nat.mod_lt (U / Bw (i + 1)) hd
  have h4 := dW_lt U i
  constructor
  · have h5 : U / d / Bw i = U / Bw i / d := by rw [Nat.div_div_eq_div_mul, Nat.div_div_eq_div_mul, Nat.mul_comm]
    show U / d / Bw i % 1073741824 = _
    rw [h5, e, Nat.mul_add_div hd, Nat.mul_comm _ 1073741824, Nat.mul_add_mod]
    refine Nat.mod_eq_of_lt (Nat.div_lt_of_lt_mul ?_)
    rw [Nat.mul_comm d]
    have : (U / Bw (i + 1) % d + 1) * 1073741824 ≤ d * 1073741824 := Nat.mul_le_mul_right _ (by omega)
    omega
  · rw [e, Nat.mul_add_mod]
section WG
variable {I : Nat → Nat → Int32} {J : Nat → Nat → Int64} {R : Nat → Nat → Option Nat} {w c u d v e : Nat}
theorem W_shrink {k n d : Nat} (hR : RA R) (h : Wh I w c k n) (hd : 0 < d) (hd2 : d ≤ 1073741824) : QK (f_X10_shrink (mg (4562 + zn J) I J R) w (Int32.ofNat (d))) (fun r => ∃ I' k', r = ((Int32.ofNat (n % d)), mg (4562 + zn J) I' J R) ∧ FrS (Sw w) I I' ∧ Wh I' w c k' (n / d) ∧ I' w 2 = (if I w 2 = 0 then 0 else if n / d = 0 then 0 else 1)) := by
  have hw := h.1
  have hc := hw.2.2.2.2
  have hkc := h.2.2.1
  unfold f_X10_shrink
  have e1 := h.2.1
  simp (disch := omega) only [↓reduceIte, ↓q_let, ↓q_xz1, ↓q_xz0, ↓lg_cmp_ge, ↓lg_cmp_le, ↓lg_cmp_gt, ↓lg_cmp_lt, n_lit, j_lit, n_add, n_mul, n_sub, n_dec, Nat.add_sub_cancel, n_leT, n_leF, n_ltT, n_ltF, n_eqT, n_eqF, n_in, n_cl, n_m31, j_m63, j_of32, j_32, i64_add, i64_mul, jn_sub, j_leT, j_leF, j_ltT, j_ltF, j_eqF, jn_and30, jn_sar30, jn_shor, Int32.neg_neg, and_true, true_and, and_self, ↓bW_gI hw, e1]
  refine q_bind (P := fun r => ∃ I', r = .inr (w, Int64.ofNat (n % d), mg (4562 + zn J) I' J R) ∧ FrS (fun x => x = w + 1) I I' ∧ ∀ j, j < k → I' (w + 1) j = (Int32.ofNat (dW (n / d) j))) ?_ ?_
  · refine q_loop (fun i s => ∃ I', s = (w, (Int32.ofNat (d)), Int64.ofNat (n / Bw i % d), (Int32.ofNat (i)) - 1, mg (4562 + zn J) I' J R) ∧ i ≤ k ∧ FrS (fun x => x = w + 1) I I' ∧ (∀ j, i ≤ j → j < k → I' (w + 1) j = (Int32.ofNat (dW (n / d) j))) ∧ ∀ j, j < i → I' (w + 1) j = I (w + 1) j) ?_ (m := k) ⟨I, ?_, Nat.le_refl _, FrS_rfl, fun j h1 h2 => absurd h1 (by omega), fun _ _ => rfl⟩ (by unfold xF; omega)
    · rintro i s ⟨I', rfl, hi, hF, hq, ho⟩
      unfold f_X10_shrink_s17 xlet
      dsimp only
      rcases i with _ | i
      · rw [if_pos (by first | decide | omega)]
        rw [Bw_0, Nat.div_one]
        exact q_ex ⟨I', rfl, hF, fun j hj => hq j (by omega) hj⟩
      · rw [i32_pred]
        have e2 : I' (w + 1) i = (Int32.ofNat (dW n i)) := (ho i (by omega)).trans (h.2.2.2.1.2 i (by omega))
        have hr := Nat.mod_lt (n / Bw (i + 1)) hd
        have hl := dW_lt n i
        obtain ⟨g1, g2⟩ := shr_dig (U := n) (i := i) hd
        have gl := dW_lt (n / d) i
        generalize n / Bw (i + 1) % d = rr at *
        have hx : rr * 1073741824 + dW n i < 9223372036854775808 := by omega
        simp (disch := omega) only [↓reduceIte, ↓q_let, ↓q_xz1, ↓q_xz0, ↓lg_cmp_ge, ↓lg_cmp_le, ↓lg_cmp_gt, ↓lg_cmp_lt, n_lit, j_lit, n_add, n_mul, n_sub, n_dec, Nat.add_sub_cancel, n_leT, n_leF, n_ltT, n_ltF, n_eqT, n_eqF, n_in, n_cl, n_m31, j_m63, j_of32, j_32, i64_add, i64_mul, jn_sub, j_leT, j_leF, j_ltT, j_ltF, j_eqF, jn_and30, jn_sar30, jn_shor, Int32.neg_neg, and_true, true_and, and_self, ↓bW_gR hw hR, ↓bW_aI hw, e2]
        simp only [j_rem hx hd (show d < 9223372036854775808 by omega)]
        simp only [j_div hx hd (show d < 9223372036854775808 by omega)]
        rw [← g1, ← g2]
        simp (disch := omega) only [↓reduceIte, ↓q_let, ↓q_xz1, ↓q_xz0, ↓lg_cmp_ge, ↓lg_cmp_le, ↓lg_cmp_gt, ↓lg_cmp_lt, n_lit, j_lit, n_add, n_mul, n_sub, n_dec, Nat.add_sub_cancel, n_leT, n_leF, n_ltT, n_ltF, n_eqT, n_eqF, n_in, n_cl, n_m31, j_m63, j_of32, j_32, i64_add, i64_mul, jn_sub, j_leT, j_leF, j_ltT, j_ltF, j_eqF, jn_and30, jn_sar30, jn_shor, Int32.neg_neg, and_true, true_and, and_self, ↓bW_wI hw]
        rw [n_decm]
        refine q_go ⟨i, by omega, _, rfl, by omega, FrS_up hF rfl, fun j h1 h2 => ?_, fun j hj => (up_n (Or.inr (by omega))).trans (ho j (by omega))⟩
        by_cases q : j = i
        · rw [q, up_s]
        · rw [up_n (Or.inr q)]
          exact hq j (by omega) h2
    · rw [Nat.div_eq_of_lt (Wh_lt h), Nat.zero_mod]
      rfl
  rintro r ⟨I', rfl, hF, hq⟩
  simp only [Sum.elim_inr]
  have eN : I' w = I w := hF w (by omega)
  have hlt : n / d < Bw k := Nat.lt_of_le_of_lt (Nat.div_le_self _ _) (Wh_lt h)
  have dk : Dg I' (w + 1) k (n / d) := ⟨hlt, hq⟩
  have j93 : ∀ I2 k2, FrS (fun x => x = w) I' I2 → I2 w 1 = (Int32.ofNat (k2)) → I2 w 2 = I w 2 → Wh I2 w c k2 (n / d) → QK (f_X10_shrink_j93 (mg (4562 + zn J) I2 J R) w (Int64.ofNat (n % d))) (fun r => ∃ I' k', r = ((Int32.ofNat (n % d)), mg (4562 + zn J) I' J R) ∧ FrS (Sw w) I I' ∧ Wh I' w c k' (n / d) ∧ I' w 2 = (if I w 2 = 0 then 0 else if n / d = 0 then 0 else 1)) := by
    intro I2 k2 hF2 h1 h2 hW
    have k0 := Wh_0 hW
    have kl := Wh_c hW
    have hF' : FrS (Sw w) I I2 := FrS_tr (FrS_mono hF (fun x hx => Or.inr hx)) (FrS_mono hF2 (fun x hx => Or.inl hx))
    have fin : ∀ v, v = (if I w 2 = 0 then (0 : Int32) else if n / d = 0 then 0 else 1) → QK (some ((Int32.ofNat (n % d)), mg (4562 + zn J) (up I2 w 2 v) J R)) (fun r => ∃ I' k', r = ((Int32.ofNat (n % d)), mg (4562 + zn J) I' J R) ∧ FrS (Sw w) I I' ∧ Wh I' w c k' (n / d) ∧ I' w 2 = (if I w 2 = 0 then 0 else if n / d = 0 then 0 else 1)) := fun v hv =>
      q_ok ⟨_, k2, rfl, FrS_up hF' (Or.inl rfl), ⟨hw, (up_n (Or.inr (by first | decide | omega))).trans h1, hW.2.2.1, Dg_keep hW.2.2.2.1 (fun j _ => up_n (by omega)), hW.2.2.2.2⟩, up_s.trans hv⟩
    unfold f_X10_shrink_j93 f_X10_shrink_j112 f_X10_shrink_j113
    by_cases q : I w 2 = 0
    · rw [if_pos q] at fin
      simp (disch := omega) only [↓reduceIte, ↓q_let, ↓q_xz1, ↓q_xz0, ↓lg_cmp_ge, ↓lg_cmp_le, ↓lg_cmp_gt, ↓lg_cmp_lt, n_lit, j_lit, n_add, n_mul, n_sub, n_dec, Nat.add_sub_cancel, n_leT, n_leF, n_ltT, n_ltF, n_eqT, n_eqF, n_in, n_cl, n_m31, j_m63, j_of32, j_32, i64_add, i64_mul, jn_sub, j_leT, j_leF, j_ltT, j_ltF, j_eqF, jn_and30, jn_sar30, jn_shor, Int32.neg_neg, and_true, true_and, and_self, ↓bW_gI hw, h2, q, ↓bW_sZ0 hw]
      exact fin 0 rfl
    · have q' : (I w 2 = (Int32.ofNat (0))) = False := eq_false q
      by_cases q2 : k2 = 0
      · have := k0.mp q2
        conv => arg 1; simp (disch := omega) only [↓reduceIte, ↓q_let, ↓q_xz1, ↓q_xz0, ↓lg_cmp_ge, ↓lg_cmp_le, ↓lg_cmp_gt, ↓lg_cmp_lt, n_lit, j_lit, n_add, n_mul, n_sub, n_dec, Nat.add_sub_cancel, n_leT, n_leF, n_ltT, n_ltF, n_eqT, n_eqF, n_in, n_cl, n_m31, j_m63, j_of32, j_32, i64_add, i64_mul, jn_sub, j_leT, j_leF, j_ltT, j_ltF, j_eqF, jn_and30, jn_sar30, jn_shor, Int32.neg_neg, and_true, true_and, and_self, ↓bW_gI hw, h2, q', h1, ↓bW_sZ0 hw]
        exact fin 0 (by rw [if_neg q, if_pos this])
      · conv => arg 1; simp (disch := omega) only [↓reduceIte, ↓q_let, ↓q_xz1, ↓q_xz0, ↓lg_cmp_ge, ↓lg_cmp_le, ↓lg_cmp_gt, ↓lg_cmp_lt, n_lit, j_lit, n_add, n_mul, n_sub, n_dec, Nat.add_sub_cancel, n_leT, n_leF, n_ltT, n_ltF, n_eqT, n_eqF, n_in, n_cl, n_m31, j_m63, j_of32, j_32, i64_add, i64_mul, jn_sub, j_leT, j_leF, j_ltT, j_ltF, j_eqF, jn_and30, jn_sar30, jn_shor, Int32.neg_neg, and_true, true_and, and_self, ↓bW_gI hw, h2, q', h1, ↓bW_sZ1 hw]
        exact fin 1 (by rw [if_neg q, if_neg (fun z => q2 (k0.mpr z))])
  have z1 : I' w 1 = (Int32.ofNat (k)) := by rw [eN]; exact h.2.1
  have z2 : I' w 2 = I w 2 := by rw [eN]
  unfold f_X10_shrink_j62
  by_cases q0 : k = 0
  · simp (disch := omega) only [↓reduceIte, ↓q_let, ↓q_xz1, ↓q_xz0, ↓lg_cmp_ge, ↓lg_cmp_le, ↓lg_cmp_gt, ↓lg_cmp_lt, n_lit, j_lit, n_add, n_mul, n_sub, n_dec, Nat.add_sub_cancel, n_leT, n_leF, n_ltT, n_ltF, n_eqT, n_eqF, n_in, n_cl, n_m31, j_m63, j_of32, j_32, i64_add, i64_mul, jn_sub, j_leT, j_leF, j_ltT, j_ltF, j_eqF, jn_and30, jn_sar30, jn_shor, Int32.neg_neg, and_true, true_and, and_self, ↓bW_gI hw, z1]
    refine j93 I' k FrS_rfl z1 z2 ⟨hw, z1, hkc, dk, Or.inl q0⟩
  · have e2 := hq (k - 1) (by omega)
    have gl := dW_lt (n / d) (k - 1)
    by_cases q : dW (n / d) (k - 1) = 0
    · simp (disch := omega) only [↓reduceIte, ↓q_let, ↓q_xz1, ↓q_xz0, ↓lg_cmp_ge, ↓lg_cmp_le, ↓lg_cmp_gt, ↓lg_cmp_lt, n_lit, j_lit, n_add, n_mul, n_sub, n_dec, Nat.add_sub_cancel, n_leT, n_leF, n_ltT, n_ltF, n_eqT, n_eqF, n_in, n_cl, n_m31, j_m63, j_of32, j_32, i64_add, i64_mul, jn_sub, j_leT, j_leF, j_ltT, j_ltF, j_eqF, jn_and30, jn_sar30, jn_shor, Int32.neg_neg, and_true, true_and, and_self, ↓bW_gI hw, z1, ↓bW_gR hw hR, ↓bW_aI hw, e2, q, ↓bW_sI hw]
      have hl : n / d < Bw (k - 1) := by
        have h3 := modW_s (n / d) (k - 1)
        rw [show k - 1 + 1 = k by omega, Nat.mod_eq_of_lt hlt, q, Nat.mul_zero, Nat.add_zero] at h3
        rw [h3]
        exact Nat.mod_lt _ (Bw_pos _)
      refine j93 _ (k - 1) (FrS_up FrS_rfl rfl) up_s ((up_n (Or.inr (by first | decide | omega))).trans z2) ⟨hw, up_s, by omega, ⟨hl, fun j hj => (up_n (by omega)).trans (hq j (by omega))⟩, ?_⟩
      by_cases k1 : k = 1
      · left; omega
      · right
        have h4 : Bw (k - 1) ≤ n := h.2.2.2.2.resolve_left q0
        rw [show k - 1 = k - 1 - 1 + 1 by omega, Bw_s] at h4
        refine (Nat.le_div_iff_mul_le hd).mpr (Nat.le_trans (Nat.mul_le_mul_left _ hd2) h4)
    · simp (disch := omega) only [↓reduceIte, ↓q_let, ↓q_xz1, ↓q_xz0, ↓lg_cmp_ge, ↓lg_cmp_le, ↓lg_cmp_gt, ↓lg_cmp_lt, n_lit, j_lit, n_add, n_mul, n_sub, n_dec, Nat.add_sub_cancel, n_leT, n_leF, n_ltT, n_ltF, n_eqT, n_eqF, n_in, n_cl, n_m31, j_m63, j_of32, j_32, i64_add, i64_mul, jn_sub, j_leT, j_leF, j_ltT, j_ltF, j_eqF, jn_and30, jn_sar30, jn_shor, Int32.neg_neg, and_true, true_and, and_self, ↓bW_gI hw, z1, ↓bW_gR hw hR, ↓bW_aI hw, e2]
      refine j93 I' k FrS_rfl z1 z2 ⟨hw, z1, hkc, dk, Or.inr ?_⟩
      exact Nat.le_of_not_lt (fun z => q (by
        unfold dW
        rw [Nat.div_eq_of_lt z]))
end WG
