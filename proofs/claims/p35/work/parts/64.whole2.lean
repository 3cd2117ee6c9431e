/-! the class's whole numbers: put, copied, compared -/
def cmpN (n m : Nat) : Int32 := if n < m then -1 else if n = m then 0 else 1
theorem W_eqk {I : Nat → Nat → Int32} {w u c d k k' n m : Nat} (h : Wh I w c k n) (h' : Wh I u d k' m) (hk : k < k') : n < m := by
  have h1 := Wh_lt h
  rcases h'.2.2.2.2 with q | q
  · omega
  · exact Nat.lt_of_lt_of_le h1 (Nat.le_trans (Bw_le (by omega)) q)
theorem dW_cmp {n m i : Nat} (h : n / Bw (i + 1) = m / Bw (i + 1)) (hd : dW n i < dW m i) : n < m := by
  have h1 := dW_split n i
  have h2 := dW_split m i
  have h3 : n / Bw i < m / Bw i := by omega
  exact Nat.lt_of_not_le (fun q => absurd (Nat.div_le_div_right (c := Bw i) q) (by omega))
section WB
variable {I : Nat → Nat → Int32} {J : Nat → Nat → Int64} {R : Nat → Nat → Option Nat} {w c u d : Nat}
theorem W_set {n : Nat} (hR : RA R) (hw : isW w c) (hn : n < 1152921504606846976) : QK (f_X10_set (mg (4562 + zn J) I J R) w (Int64.ofNat n)) (fun r => ∃ I', r = mg (4562 + zn J) I' J R ∧ FrS (Sw w) I I' ∧ Wz I' w c n) := by
  have hc := hw.2.2.2.2
  unfold f_X10_set f_X10_set_j12 f_X10_set_j33 f_X10_set_j85
  simp (disch := omega) only [↓reduceIte, ↓q_let, ↓q_xz1, ↓q_xz0, ↓lg_cmp_ge, ↓lg_cmp_le, ↓lg_cmp_gt, ↓lg_cmp_lt, n_lit, j_lit, n_add, n_mul, n_sub, n_dec, Nat.add_sub_cancel, n_leT, n_leF, n_ltT, n_ltF, n_eqT, n_eqF, n_in, n_cl, n_m31, j_m63, j_of32, j_32, i64_add, i64_mul, jn_sub, j_leT, j_leF, j_ltT, j_ltF, j_eqF, jn_and30, jn_sar30, jn_shor, Int32.neg_neg, and_true, true_and, and_self, ↓bW_sZ0 hw, ↓bW_sI hw, ↓bW_gI hw, up_a]
  refine q_bind (P := fun r => ∃ I', r = .inr (mg (4562 + zn J) I' J R) ∧ FrS (Sw w) I I' ∧ Wz I' w c n) ?_ ?_
  · refine q_loop (fun m s => ∃ i I', s = (w, Int64.ofNat (n / Bw i), (Int32.ofNat (i)), mg (4562 + zn J) I' J R) ∧ i + m = 2 ∧ FrS (Sw w) I I' ∧ Dg I' (w + 1) i (n % Bw i) ∧ I' w 1 = (Int32.ofNat (i)) ∧ I' w 2 = 0 ∧ (i = 0 ∨ Bw (i - 1) ≤ n)) ?_ (m := 2) ⟨0, _, by rw [Bw_0, Nat.div_one], rfl, FrS_up (FrS_up FrS_rfl (Or.inl rfl)) (Or.inl rfl), by rw [Bw_0, Nat.mod_one]; exact Dg_0, up_s, ?_, Or.inl rfl⟩ (by unfold xF; omega)
    · rintro m s ⟨i, I', rfl, hi, hF, hD, h1, h2, h3⟩
      unfold f_X10_set_s37 xlet
      dsimp only
      have hq : n / Bw i ≤ n := Nat.div_le_self _ _
      by_cases q : n / Bw i = 0
      · have hl : n < Bw i := Nat.lt_of_not_le (fun z => by have := (Nat.le_div_iff_mul_le (Bw_pos i)).mpr (show 1 * Bw i ≤ n by omega); omega)
        simp (disch := omega) only [↓reduceIte, ↓q_let, ↓q_xz1, ↓q_xz0, ↓lg_cmp_ge, ↓lg_cmp_le, ↓lg_cmp_gt, ↓lg_cmp_lt, n_lit, j_lit, n_add, n_mul, n_sub, n_dec, Nat.add_sub_cancel, n_leT, n_leF, n_ltT, n_ltF, n_eqT, n_eqF, n_in, n_cl, n_m31, j_m63, j_of32, j_32, i64_add, i64_mul, jn_sub, j_leT, j_leF, j_ltT, j_ltF, j_eqF, jn_and30, jn_sar30, jn_shor, Int32.neg_neg, and_true, true_and, and_self, ↓bW_gR hw hR, ↓bW_gL hw, q]
        rw [Nat.mod_eq_of_lt hl] at hD
        exact q_ex ⟨I', rfl, hF, ⟨i, hw, h1, by omega, hD, h3⟩, h2⟩
      · have hi2 : i < 2 := by
          refine Nat.lt_of_not_le (fun z => q (Nat.div_eq_of_lt (Nat.lt_of_lt_of_le hn ?_)))
          exact Bw_le z
        have hp : 0 < n / Bw i := Nat.pos_of_ne_zero q
        generalize hr : n / Bw i = r at q hq hp
        simp (disch := omega) only [↓reduceIte, ↓q_let, ↓q_xz1, ↓q_xz0, ↓lg_cmp_ge, ↓lg_cmp_le, ↓lg_cmp_gt, ↓lg_cmp_lt, n_lit, j_lit, n_add, n_mul, n_sub, n_dec, Nat.add_sub_cancel, n_leT, n_leF, n_ltT, n_ltF, n_eqT, n_eqF, n_in, n_cl, n_m31, j_m63, j_of32, j_32, i64_add, i64_mul, jn_sub, j_leT, j_leF, j_ltT, j_ltF, j_eqF, jn_and30, jn_sar30, jn_shor, Int32.neg_neg, and_true, true_and, and_self, ↓bW_gR hw hR, ↓bW_gL hw, ↓bW_wI hw, ↓bW_sI hw]
        rw [show r / 1073741824 = n / Bw (i + 1) by rw [divW_s, hr]]
        refine q_go ⟨1 - i, by omega, i + 1, _, rfl, by omega, FrS_up (FrS_up hF (Or.inr rfl)) (Or.inl rfl), ?_, up_s, ?_, Or.inr ?_⟩
        · rw [modW_s, Nat.mul_comm (Bw i)]
          have e := Dg_w hD (dW_lt n i)
          unfold dW at e ⊢
          rw [hr] at e ⊢
          exact Dg_keep e (fun j _ => up_n (by omega))
        · rw [up_n (Or.inr (by first | decide | omega)), up_n (Or.inl (by omega))]
          exact h2
        · rw [Nat.add_sub_cancel]
          exact Nat.le_of_not_lt (fun z => by
            rw [Nat.div_eq_of_lt z] at hr
            omega)
    · rw [up_n (Or.inr (by first | decide | omega)), up_s]
      rfl
  · rintro r ⟨I', rfl, hF, hW⟩
    simp only [Sum.elim_inr]
    exact q_ok ⟨I', rfl, hF, hW⟩
theorem W_copySize {k n : Nat} (hR : RA R) (hw : isW w c) (h : Wh I u d k n) (hk : k ≤ c) (hwu : w ≠ u) : QK (f_X10_copySize (mg (4562 + zn J) I J R) w u) (fun r => ∃ I', r = mg (4562 + zn J) I' J R ∧ FrS (Sw w) I I' ∧ Wh I' w c k n ∧ I' w 2 = I w 2) := by
  have hc := hw.2.2.2.2
  have hu := h.1
  have n1 := isW_ne hw hu
  have n2 := isW_ne hu hw
  have hkd := h.2.2.1
  have hd := hu.2.2.2.2
  unfold f_X10_copySize f_X10_copySize_j25 f_X10_copySize_j56
  have go : QK ((sI (mg (4562 + zn J) I J R) w 10 1 (Int32.ofNat (k))).bind (fun σ6 => xlet (0 : Int32) (fun v7 => (xloop (f_X10_copySize_s30 ) xF (w, u, v7, σ6)).bind (Sum.elim (fun g => some g) (fun e => some e))))) (fun r => ∃ I', r = mg (4562 + zn J) I' J R ∧ FrS (Sw w) I I' ∧ Wh I' w c k n ∧ I' w 2 = I w 2) := by
    simp (disch := omega) only [↓reduceIte, ↓q_let, ↓q_xz1, ↓q_xz0, ↓lg_cmp_ge, ↓lg_cmp_le, ↓lg_cmp_gt, ↓lg_cmp_lt, n_lit, j_lit, n_add, n_mul, n_sub, n_dec, Nat.add_sub_cancel, n_leT, n_leF, n_ltT, n_ltF, n_eqT, n_eqF, n_in, n_cl, n_m31, j_m63, j_of32, j_32, i64_add, i64_mul, jn_sub, j_leT, j_leF, j_ltT, j_ltF, j_eqF, jn_and30, jn_sar30, jn_shor, Int32.neg_neg, and_true, true_and, and_self, ↓bW_sI hw]
    refine q_bind (P := fun r => ∃ I', r = .inr (mg (4562 + zn J) I' J R) ∧ FrS (Sw w) I I' ∧ Wh I' w c k n ∧ I' w 2 = I w 2) ?_ ?_
    · refine q_for k (fun i s => ∃ I', s = (w, u, (Int32.ofNat (i)), mg (4562 + zn J) I' J R) ∧ FrS (Sw w) I I' ∧ Dg I' (w + 1) i (n % Bw i) ∧ I' w 1 = (Int32.ofNat (k)) ∧ I' w 2 = I w 2) ?_ ?_ (i := 0) ⟨_, rfl, FrS_up FrS_rfl (Or.inl rfl), by rw [Bw_0, Nat.mod_one]; exact Dg_0, up_s, up_n (Or.inr (by first | decide | omega))⟩ (by omega) (by unfold xF; omega)
      · rintro i s hi ⟨I', rfl, hF, hD, h1, h2⟩
        unfold f_X10_copySize_s30 xlet
        dsimp only
        have e : I' (u + 1) i = (Int32.ofNat (dW n i)) := by
          rw [hF (u + 1) (by unfold Sw; omega)]
          exact h.2.2.2.1.2 i hi
        simp (disch := omega) only [↓reduceIte, ↓q_let, ↓q_xz1, ↓q_xz0, ↓lg_cmp_ge, ↓lg_cmp_le, ↓lg_cmp_gt, ↓lg_cmp_lt, n_lit, j_lit, n_add, n_mul, n_sub, n_dec, Nat.add_sub_cancel, n_leT, n_leF, n_ltT, n_ltF, n_eqT, n_eqF, n_in, n_cl, n_m31, j_m63, j_of32, j_32, i64_add, i64_mul, jn_sub, j_leT, j_leF, j_ltT, j_ltF, j_eqF, jn_and30, jn_sar30, jn_shor, Int32.neg_neg, and_true, true_and, and_self, ↓bW_gI hw, h1, ↓bW_gR hw hR, ↓bW_gR hu hR, ↓bW_aI hu, ↓bW_wI hw, e]
        refine q_go ⟨_, rfl, FrS_up hF (Or.inr rfl), ?_, (up_n (Or.inl (by omega))).trans h1, (up_n (Or.inl (by omega))).trans h2⟩
        rw [modW_s, Nat.mul_comm (Bw i)]
        exact Dg_w hD (dW_lt n i)
      · rintro s ⟨I', rfl, hF, hD, h1, h2⟩
        unfold f_X10_copySize_s30 xlet
        dsimp only
        simp (disch := omega) only [↓reduceIte, ↓q_let, ↓q_xz1, ↓q_xz0, ↓lg_cmp_ge, ↓lg_cmp_le, ↓lg_cmp_gt, ↓lg_cmp_lt, n_lit, j_lit, n_add, n_mul, n_sub, n_dec, Nat.add_sub_cancel, n_leT, n_leF, n_ltT, n_ltF, n_eqT, n_eqF, n_in, n_cl, n_m31, j_m63, j_of32, j_32, i64_add, i64_mul, jn_sub, j_leT, j_leF, j_ltT, j_ltF, j_eqF, jn_and30, jn_sar30, jn_shor, Int32.neg_neg, and_true, true_and, and_self, ↓bW_gI hw, h1]
        rw [Nat.mod_eq_of_lt (Wh_lt h)] at hD
        exact q_ex ⟨I', rfl, hF, ⟨hw, h1, hk, hD, h.2.2.2.2⟩, h2⟩
    · rintro r ⟨I', rfl, hF, hW⟩
      simp only [Sum.elim_inr]
      exact q_ok ⟨I', rfl, hF, hW⟩
  have e1 := h.2.1
  by_cases q : c ≤ k
  · have e2 : c = k := by omega
    subst e2
    simp (disch := omega) only [↓reduceIte, ↓q_let, ↓q_xz1, ↓q_xz0, ↓lg_cmp_ge, ↓lg_cmp_le, ↓lg_cmp_gt, ↓lg_cmp_lt, n_lit, j_lit, n_add, n_mul, n_sub, n_dec, Nat.add_sub_cancel, n_leT, n_leF, n_ltT, n_ltF, n_eqT, n_eqF, n_in, n_cl, n_m31, j_m63, j_of32, j_32, i64_add, i64_mul, jn_sub, j_leT, j_leF, j_ltT, j_ltF, j_eqF, jn_and30, jn_sar30, jn_shor, Int32.neg_neg, and_true, true_and, and_self, ↓bW_gI hu, ↓bW_gR hw hR, ↓bW_gL hw, e1]
    exact go
  · simp (disch := omega) only [↓reduceIte, ↓q_let, ↓q_xz1, ↓q_xz0, ↓lg_cmp_ge, ↓lg_cmp_le, ↓lg_cmp_gt, ↓lg_cmp_lt, n_lit, j_lit, n_add, n_mul, n_sub, n_dec, Nat.add_sub_cancel, n_leT, n_leF, n_ltT, n_ltF, n_eqT, n_eqF, n_in, n_cl, n_m31, j_m63, j_of32, j_32, i64_add, i64_mul, jn_sub, j_leT, j_leF, j_ltT, j_ltF, j_eqF, jn_and30, jn_sar30, jn_shor, Int32.neg_neg, and_true, true_and, and_self, ↓bW_gI hu, ↓bW_gR hw hR, ↓bW_gL hw, e1]
    exact go
theorem W_copy {z : Int} (hR : RA R) (hw : isW w c) (h : Wz I u d z) (hz : z.natAbs < Bw c) (hwu : w ≠ u) : QK (f_X10_copy (mg (4562 + zn J) I J R) w u) (fun r => ∃ I', r = mg (4562 + zn J) I' J R ∧ FrS (Sw w) I I' ∧ Wz I' w c z) := by
  obtain ⟨⟨k, hk⟩, hs⟩ := h
  have n1 := isW_ne hw hk.1
  have n2 := isW_ne hk.1 hw
  have hkc : k ≤ c := by
    rcases hk.2.2.2.2 with q | q
    · omega
    · have := Bw_lt (Nat.lt_of_le_of_lt q hz)
      omega
  unfold f_X10_copy
  simp (disch := omega) only [↓reduceIte, ↓q_let, ↓q_xz1, ↓q_xz0, ↓lg_cmp_ge, ↓lg_cmp_le, ↓lg_cmp_gt, ↓lg_cmp_lt, n_lit, j_lit, n_add, n_mul, n_sub, n_dec, Nat.add_sub_cancel, n_leT, n_leF, n_ltT, n_ltF, n_eqT, n_eqF, n_in, n_cl, n_m31, j_m63, j_of32, j_32, i64_add, i64_mul, jn_sub, j_leT, j_leF, j_ltT, j_ltF, j_eqF, jn_and30, jn_sar30, jn_shor, Int32.neg_neg, and_true, true_and, and_self, ↓bW_gI hk.1, hs, ↓bW_sZ hw, bW_xk hw]
  refine q_bind (W_copySize hR hw (Wh_keep hk (up_r (Ne.symm hwu)) (up_r (by omega))) hkc hwu) ?_
  rintro r ⟨I', rfl, hF, hW, h2⟩
  exact q_ok ⟨I', rfl, FrS_tr (FrS_up FrS_rfl (Or.inl rfl)) hF, ⟨k, hW⟩, h2.trans up_s⟩
theorem W_cmpSizes {k k' n m : Nat} (hR : RA R) (h : Wh I w c k n) (h' : Wh I u d k' m) : f_X10_compareSizes (mg (4562 + zn J) I J R) w u = some (cmpN n m) := by
  have hw := h.1
  have hu := h'.1
  have hkc := h.2.2.1
  have hkd := h'.2.2.1
  have hc := hw.2.2.2.2
  have hd := hu.2.2.2.2
  have goal : QK (f_X10_compareSizes (mg (4562 + zn J) I J R) w u) (fun r => r = cmpN n m) := by
    unfold f_X10_compareSizes f_X10_compareSizes_j54 f_X10_compareSizes_j74 f_X10_compareSizes_j27 f_X10_compareSizes_j81
    by_cases q : k = k'
    · subst q
      simp (disch := omega) only [↓reduceIte, ↓q_let, ↓q_xz1, ↓q_xz0, ↓lg_cmp_ge, ↓lg_cmp_le, ↓lg_cmp_gt, ↓lg_cmp_lt, n_lit, j_lit, n_add, n_mul, n_sub, n_dec, Nat.add_sub_cancel, n_leT, n_leF, n_ltT, n_ltF, n_eqT, n_eqF, n_in, n_cl, n_m31, j_m63, j_of32, j_32, i64_add, i64_mul, jn_sub, j_leT, j_leF, j_ltT, j_ltF, j_eqF, jn_and30, jn_sar30, jn_shor, Int32.neg_neg, and_true, true_and, and_self, ↓bW_gI hw, ↓bW_gI hu, h.2.1, h'.2.1]
      refine q_bind (P := fun r => (r = .inr (.inr ()) ∧ n = m) ∨ ∃ i, i < k ∧ r = .inr (.inl (w, u, (Int32.ofNat (i)))) ∧ n / Bw (i + 1) = m / Bw (i + 1) ∧ dW n i ≠ dW m i) ?_ ?_
      · refine q_loop (fun i s => s = (w, u, (Int32.ofNat (i)) - 1) ∧ i ≤ k ∧ n / Bw i = m / Bw i) ?_ (m := k) ⟨rfl, Nat.le_refl _, by rw [Nat.div_eq_of_lt (Wh_lt h), Nat.div_eq_of_lt (Wh_lt h')]⟩ (by unfold xF; omega)
        rintro i s ⟨rfl, hi, he⟩
        unfold f_X10_compareSizes_s35 xlet
        dsimp only
        rcases i with _ | i
        · rw [if_pos (by first | decide | omega)]
          rw [Bw_0, Nat.div_one, Nat.div_one] at he
          exact q_ex (Or.inl ⟨rfl, he⟩)
        · have e1 := h.2.2.2.1.2 i (by omega)
          have e2 := h'.2.2.2.1.2 i (by omega)
          have d1 := dW_lt n i
          have d2 := dW_lt m i
          rw [i32_pred]
          by_cases z : dW n i = dW m i
          · simp (disch := omega) only [↓reduceIte, ↓q_let, ↓q_xz1, ↓q_xz0, ↓lg_cmp_ge, ↓lg_cmp_le, ↓lg_cmp_gt, ↓lg_cmp_lt, n_lit, j_lit, n_add, n_mul, n_sub, n_dec, Nat.add_sub_cancel, n_leT, n_leF, n_ltT, n_ltF, n_eqT, n_eqF, n_in, n_cl, n_m31, j_m63, j_of32, j_32, i64_add, i64_mul, jn_sub, j_leT, j_leF, j_ltT, j_ltF, j_eqF, jn_and30, jn_sar30, jn_shor, Int32.neg_neg, and_true, true_and, and_self, ↓bW_gR hw hR, ↓bW_gR hu hR, ↓bW_aI hw, ↓bW_aI hu, e1, e2]
            refine q_go ⟨i, by omega, ?_, by omega, ?_⟩
            · rw [n_decm]
              rfl
            · rw [dW_split n i, dW_split m i, he, z]
          · simp (disch := omega) only [↓reduceIte, ↓q_let, ↓q_xz1, ↓q_xz0, ↓lg_cmp_ge, ↓lg_cmp_le, ↓lg_cmp_gt, ↓lg_cmp_lt, n_lit, j_lit, n_add, n_mul, n_sub, n_dec, Nat.add_sub_cancel, n_leT, n_leF, n_ltT, n_ltF, n_eqT, n_eqF, n_in, n_cl, n_m31, j_m63, j_of32, j_32, i64_add, i64_mul, jn_sub, j_leT, j_leF, j_ltT, j_ltF, j_eqF, jn_and30, jn_sar30, jn_shor, Int32.neg_neg, and_true, true_and, and_self, ↓bW_gR hw hR, ↓bW_gR hu hR, ↓bW_aI hw, ↓bW_aI hu, e1, e2]
            exact q_ex (Or.inr ⟨i, by omega, rfl, he, z⟩)
      · rintro r (⟨rfl, e⟩ | ⟨i, hi, rfl, he, hne⟩)
        · simp only [Sum.elim_inr]
          refine q_ok ?_
          unfold cmpN
          rw [if_neg (by omega), if_pos e]
          rfl
        · have e1 := h.2.2.2.1.2 i (by omega)
          have e2 := h'.2.2.2.1.2 i (by omega)
          have d1 := dW_lt n i
          have d2 := dW_lt m i
          simp only [Sum.elim_inr, Sum.elim_inl]
          by_cases z : dW m i ≤ dW n i
          · have := dW_cmp he.symm (show dW m i < dW n i by omega)
            simp (disch := omega) only [↓reduceIte, ↓q_let, ↓q_xz1, ↓q_xz0, ↓lg_cmp_ge, ↓lg_cmp_le, ↓lg_cmp_gt, ↓lg_cmp_lt, n_lit, j_lit, n_add, n_mul, n_sub, n_dec, Nat.add_sub_cancel, n_leT, n_leF, n_ltT, n_ltF, n_eqT, n_eqF, n_in, n_cl, n_m31, j_m63, j_of32, j_32, i64_add, i64_mul, jn_sub, j_leT, j_leF, j_ltT, j_ltF, j_eqF, jn_and30, jn_sar30, jn_shor, Int32.neg_neg, and_true, true_and, and_self, ↓bW_gR hw hR, ↓bW_gR hu hR, ↓bW_aI hw, ↓bW_aI hu, e1, e2]
            refine q_ok ?_
            unfold cmpN
            rw [if_neg (by omega), if_neg (by omega)]
            rfl
          · have := dW_cmp he (show dW n i < dW m i by omega)
            simp (disch := omega) only [↓reduceIte, ↓q_let, ↓q_xz1, ↓q_xz0, ↓lg_cmp_ge, ↓lg_cmp_le, ↓lg_cmp_gt, ↓lg_cmp_lt, n_lit, j_lit, n_add, n_mul, n_sub, n_dec, Nat.add_sub_cancel, n_leT, n_leF, n_ltT, n_ltF, n_eqT, n_eqF, n_in, n_cl, n_m31, j_m63, j_of32, j_32, i64_add, i64_mul, jn_sub, j_leT, j_leF, j_ltT, j_ltF, j_eqF, jn_and30, jn_sar30, jn_shor, Int32.neg_neg, and_true, true_and, and_self, ↓bW_gR hw hR, ↓bW_gR hu hR, ↓bW_aI hw, ↓bW_aI hu, e1, e2]
            refine q_ok ?_
            unfold cmpN
            rw [if_pos this]
            rfl
    · by_cases z : k < k'
      · have := W_eqk h h' z
        simp (disch := omega) only [↓reduceIte, ↓q_let, ↓q_xz1, ↓q_xz0, ↓lg_cmp_ge, ↓lg_cmp_le, ↓lg_cmp_gt, ↓lg_cmp_lt, n_lit, j_lit, n_add, n_mul, n_sub, n_dec, Nat.add_sub_cancel, n_leT, n_leF, n_ltT, n_ltF, n_eqT, n_eqF, n_in, n_cl, n_m31, j_m63, j_of32, j_32, i64_add, i64_mul, jn_sub, j_leT, j_leF, j_ltT, j_ltF, j_eqF, jn_and30, jn_sar30, jn_shor, Int32.neg_neg, and_true, true_and, and_self, ↓bW_gI hw, ↓bW_gI hu, h.2.1, h'.2.1]
        refine q_ok ?_
        unfold cmpN
        rw [if_pos this]
        rfl
      · have := W_eqk h' h (show k' < k by omega)
        simp (disch := omega) only [↓reduceIte, ↓q_let, ↓q_xz1, ↓q_xz0, ↓lg_cmp_ge, ↓lg_cmp_le, ↓lg_cmp_gt, ↓lg_cmp_lt, n_lit, j_lit, n_add, n_mul, n_sub, n_dec, Nat.add_sub_cancel, n_leT, n_leF, n_ltT, n_ltF, n_eqT, n_eqF, n_in, n_cl, n_m31, j_m63, j_of32, j_32, i64_add, i64_mul, jn_sub, j_leT, j_leF, j_ltT, j_ltF, j_eqF, jn_and30, jn_sar30, jn_shor, Int32.neg_neg, and_true, true_and, and_self, ↓bW_gI hw, ↓bW_gI hu, h.2.1, h'.2.1]
        refine q_ok ?_
        unfold cmpN
        rw [if_neg (by omega), if_neg (by omega)]
        rfl
  obtain ⟨r, e, rfl⟩ := goal
  exact e
end WB
