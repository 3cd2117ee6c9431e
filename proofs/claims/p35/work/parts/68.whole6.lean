/-! the class's whole numbers: times -/
theorem Dg_zero {I : Nat → Nat → Int32} {a k n m : Nat} (h : Dg I a k n) (hz : ∀ j, k ≤ j → j < m → I a j = (Int32.ofNat (0))) (hk : k ≤ m) : Dg I a m n := by
  refine ⟨Nat.lt_of_lt_of_le h.1 (Bw_le hk), fun j hj => ?_⟩
  by_cases q : j < k
  · exact h.2 j q
  · rw [hz j (by omega) hj, dW_big h.1 (by omega)]
section WF
variable {I : Nat → Nat → Int32} {J : Nat → Nat → Int64} {R : Nat → Nat → Option Nat} {w c u d v e : Nat}
theorem W_mulIn {A B k k' m i dd T : Nat} (hR : RA R) (hw : isW w c) (hA : Wh I u d k A) (hB : Wh I v e k' B) (hm : m = k + k') (hmc : m ≤ c) (hi : i < k) (hu : w ≠ u) (hv : w ≠ v) (hdd : dd = dW A i) (hT : T = A % Bw i * B) (hD : ∀ j, j < m → I (w + 1) j = (Int32.ofNat (dW T j))) :
    QK (xloop f_X10_multiply_s65 xF (w, u, v, (Int32.ofNat (m)), (Int32.ofNat (i)), (0 : Int64), (0 : Int32), mg (4562 + zn J) I J R)) (fun r => ∃ I' L cr, r = .inr (w, u, v, (Int32.ofNat (m)), (Int32.ofNat (i)), Int64.ofNat cr, mg (4562 + zn J) I' J R) ∧ FrS (fun x => x = w + 1) I I' ∧ cr < 1073741824 ∧ Dg I' (w + 1) (i + k') L ∧ L + cr * Bw (i + k') = A % Bw (i + 1) * B ∧ ∀ j, i + k' ≤ j → j < m → I' (w + 1) j = (Int32.ofNat (0))) := by
  have hc := hw.2.2.2.2
  have hu' := hA.1
  have hv' := hB.1
  have n1 := isW_ne hw hu'
  have n2 := isW_ne hu' hw
  have n3 := isW_ne hw hv'
  have n4 := isW_ne hv' hw
  have hd := hu'.2.2.2.2
  have he := hv'.2.2.2.2
  have kd := hA.2.2.1
  have ke := hB.2.2.1
  have da := dW_lt A i
  rw [← hdd] at da
  have TB : T < Bw (i + k') := by
    rw [hT, Bw_add]
    have h1 : A % Bw i < Bw i := Nat.mod_lt _ (Bw_pos i)
    have h2 := Wh_lt hB
    exact Nat.lt_of_le_of_lt (Nat.mul_le_mul_left _ (Nat.le_of_lt h2)) (Nat.mul_lt_mul_of_pos_right h1 (Bw_pos k'))
  refine q_for k' (fun j st => ∃ I' L cr, st = (w, u, v, (Int32.ofNat (m)), (Int32.ofNat (i)), Int64.ofNat cr, (Int32.ofNat (j)), mg (4562 + zn J) I' J R) ∧ FrS (fun x => x = w + 1) I I' ∧ cr < 1073741824 ∧ Dg I' (w + 1) (i + j) L ∧ L + cr * Bw (i + j) = T % Bw (i + j) + dd * (B % Bw j) * Bw i ∧ ∀ x, i + j ≤ x → x < m → I' (w + 1) x = (Int32.ofNat (dW T x))) ?_ ?_ (i := 0) ⟨I, T % Bw i, 0, rfl, FrS_rfl, by omega, ?_, ?_, fun x _ h => hD x h⟩ (by omega) (by unfold xF; omega)
  · rintro j st hj ⟨I', L, cr, rfl, hF, hcr, hDg, heq, hhi⟩
    have tB := dW_lt T (i + j)
    have bB := dW_lt B j
    have e1 : I' u 1 = (Int32.ofNat (k)) := by rw [hF u (by omega)]; exact hA.2.1
    have e2 : I' v 1 = (Int32.ofNat (k')) := by rw [hF v (by omega)]; exact hB.2.1
    have e3 : I' (u + 1) i = (Int32.ofNat (dd)) := by rw [hF (u + 1) (by omega), hdd]; exact hA.2.2.2.1.2 i hi
    have e4 : I' (v + 1) j = (Int32.ofNat (dW B j)) := by rw [hF (v + 1) (by omega)]; exact hB.2.2.2.1.2 j hj
    have e5 := hhi (i + j) (by omega) (by omega)
    have pr : dd * dW B j ≤ 1073741823 * 1073741823 := Nat.mul_le_mul (by omega) (by omega)
    unfold f_X10_multiply_s65 xlet
    dsimp only
    simp (disch := omega) only [↓reduceIte, ↓q_let, ↓q_xz1, ↓q_xz0, ↓lg_cmp_ge, ↓lg_cmp_le, ↓lg_cmp_gt, ↓lg_cmp_lt, n_lit, j_lit, n_add, n_mul, n_sub, n_dec, Nat.add_sub_cancel, n_leT, n_leF, n_ltT, n_ltF, n_eqT, n_eqF, n_in, n_cl, n_m31, j_m63, j_of32, j_32, i64_add, i64_mul, jn_sub, j_leT, j_leF, j_ltT, j_ltF, j_eqF, jn_and30, jn_sar30, jn_shor, Int32.neg_neg, and_true, true_and, and_self, ↓bW_gI hv', e2, ↓bW_gR hw hR, ↓bW_aI hw, e5, ↓bW_gR hu' hR, ↓bW_aI hu', e3, ↓bW_gR hv' hR, ↓bW_aI hv', e4, ↓bW_wI hw]
    generalize hx : dW T (i + j) + dd * dW B j + cr = x
    refine q_go ⟨_, L + x % 1073741824 * Bw (i + j), x / 1073741824, rfl, FrS_up hF rfl, by omega, Dg_w hDg (Nat.mod_lt _ (by first | decide | omega)), ?_, fun y h1 h2 => ?_⟩
    · have s1 : i + (j + 1) = i + j + 1 := by omega
      rw [s1, modW_s T, modW_s B, Bw_s, Bw_add] at *
      have hx2 := Nat.div_add_mod x 1073741824
      generalize x / 1073741824 = q at *
      generalize x % 1073741824 = r at *
      subst hx2
      grind
    · rw [up_n (Or.inr (by omega))]
      exact hhi y (by omega) h2
  · rintro st ⟨I', L, cr, rfl, hF, hcr, hDg, heq, hhi⟩
    have e2 : I' v 1 = (Int32.ofNat (k')) := by rw [hF v (by omega)]; exact hB.2.1
    unfold f_X10_multiply_s65 xlet
    dsimp only
    simp (disch := omega) only [↓reduceIte, ↓q_let, ↓q_xz1, ↓q_xz0, ↓lg_cmp_ge, ↓lg_cmp_le, ↓lg_cmp_gt, ↓lg_cmp_lt, n_lit, j_lit, n_add, n_mul, n_sub, n_dec, Nat.add_sub_cancel, n_leT, n_leF, n_ltT, n_ltF, n_eqT, n_eqF, n_in, n_cl, n_m31, j_m63, j_of32, j_32, i64_add, i64_mul, jn_sub, j_leT, j_leF, j_ltT, j_ltF, j_eqF, jn_and30, jn_sar30, jn_shor, Int32.neg_neg, and_true, true_and, and_self, ↓bW_gI hv', e2]
    refine q_ex ⟨I', L, cr, rfl, hF, hcr, hDg, ?_, fun j h1 h2 => ?_⟩
    · rw [heq, Nat.mod_eq_of_lt TB, Nat.mod_eq_of_lt (Wh_lt hB), hT, modW_s A, hdd]
      grind
    · rw [hhi j h1 h2, dW_big TB h1]
  · rw [Nat.add_zero]
    exact ⟨Nat.mod_lt _ (Bw_pos i), fun j hj => by
      rw [hD j (by omega)]
      congr 1
      have h1 := dW_add_lo (n := T % Bw i) (x := T / Bw i) (k := i) (j := j) (by omega)
      rw [Nat.mul_comm (T / Bw i), Nat.mod_add_div] at h1
      exact h1⟩
  · rw [Bw_0, Nat.mod_one, Nat.mul_zero, Nat.zero_mul, Nat.zero_mul, Nat.add_zero, Nat.add_zero, Nat.add_zero]
theorem W_multiply {x y : Int} {p q : Nat} (hR : RA R) (hw : isW w c) (ha : Wz I u d x) (hb : Wz I v e y) (hp : x.natAbs < Bw p) (hq : y.natAbs < Bw q) (hpq : p + q ≤ c) (hu : w ≠ u) (hv : w ≠ v) :
    QK (f_X10_multiply (mg (4562 + zn J) I J R) w u v) (fun r => ∃ I', r = mg (4562 + zn J) I' J R ∧ FrS (Sw w) I I' ∧ Wz I' w c (x * y)) := by
  obtain ⟨⟨k, hA⟩, hs⟩ := ha
  obtain ⟨⟨k', hB⟩, hs'⟩ := hb
  have hc := hw.2.2.2.2
  have kp := (Wh_Bw (p := p) hA).mp hp
  have kq := (Wh_Bw (p := q) hB).mp hq
  have hu' := hA.1
  have hv' := hB.1
  have n1 := isW_ne hw hu'
  have n2 := isW_ne hu' hw
  have n3 := isW_ne hw hv'
  have n4 := isW_ne hv' hw
  generalize hAn : x.natAbs = A at *
  generalize hBn : y.natAbs = B at *
  have hf : ∀ I', FrS (fun x => x = w + 1) I I' → Wh I' u d k A ∧ Wh I' v e k' B ∧ I' u 2 = sgn x ∧ I' v 2 = sgn y := fun I' hF =>
    ⟨Wh_keep hA (hF u (by omega)) (hF (u + 1) (by omega)), Wh_keep hB (hF v (by omega)) (hF (v + 1) (by omega)), by rw [hF u (by omega)]; exact hs, by rw [hF v (by omega)]; exact hs'⟩
  unfold f_X10_multiply
  have mn : (if (Int32.ofNat (c)) < (Int32.ofNat (k + k')) then (Int32.ofNat (c)) else (Int32.ofNat (k + k'))) = (Int32.ofNat (k + k')) := by
    by_cases q : c < k + k'
    · omega
    · simp (disch := omega) only [↓reduceIte, ↓q_let, ↓q_xz1, ↓q_xz0, ↓lg_cmp_ge, ↓lg_cmp_le, ↓lg_cmp_gt, ↓lg_cmp_lt, n_lit, j_lit, n_add, n_mul, n_sub, n_dec, Nat.add_sub_cancel, n_leT, n_leF, n_ltT, n_ltF, n_eqT, n_eqF, n_in, n_cl, n_m31, j_m63, j_of32, j_32, i64_add, i64_mul, jn_sub, j_leT, j_leF, j_ltT, j_ltF, j_eqF, jn_and30, jn_sar30, jn_shor, Int32.neg_neg, and_true, true_and, and_self]
  have e1 := hA.2.1
  have e2 := hB.2.1
  simp (disch := omega) only [↓reduceIte, ↓q_let, ↓q_xz1, ↓q_xz0, ↓lg_cmp_ge, ↓lg_cmp_le, ↓lg_cmp_gt, ↓lg_cmp_lt, n_lit, j_lit, n_add, n_mul, n_sub, n_dec, Nat.add_sub_cancel, n_leT, n_leF, n_ltT, n_ltF, n_eqT, n_eqF, n_in, n_cl, n_m31, j_m63, j_of32, j_32, i64_add, i64_mul, jn_sub, j_leT, j_leF, j_ltT, j_ltF, j_eqF, jn_and30, jn_sar30, jn_shor, Int32.neg_neg, and_true, true_and, and_self, ↓bW_gI hu', e1, ↓bW_gI hv', e2, ↓bW_gR hw hR, ↓bW_gL hw]
  refine q_bind (P := fun r => ∃ I', r = .inr (w, u, v, (Int32.ofNat (k + k')), mg (4562 + zn J) I' J R) ∧ FrS (fun x => x = w + 1) I I' ∧ ∀ j, j < k + k' → I' (w + 1) j = (Int32.ofNat (0))) ?_ ?_
  · refine q_for (k + k') (fun i st => ∃ I', st = (w, u, v, (Int32.ofNat (k + k')), (Int32.ofNat (i)), mg (4562 + zn J) I' J R) ∧ FrS (fun x => x = w + 1) I I' ∧ ∀ j, j < i → I' (w + 1) j = (Int32.ofNat (0))) ?_ ?_ (i := 0) ⟨I, rfl, FrS_rfl, fun j h => absurd h (by omega)⟩ (by omega) (by unfold xF; omega)
    · rintro i st hi ⟨I', rfl, hF, hz⟩
      unfold f_X10_multiply_s21 xlet
      dsimp only
      simp (disch := omega) only [↓reduceIte, ↓q_let, ↓q_xz1, ↓q_xz0, ↓lg_cmp_ge, ↓lg_cmp_le, ↓lg_cmp_gt, ↓lg_cmp_lt, n_lit, j_lit, n_add, n_mul, n_sub, n_dec, Nat.add_sub_cancel, n_leT, n_leF, n_ltT, n_ltF, n_eqT, n_eqF, n_in, n_cl, n_m31, j_m63, j_of32, j_32, i64_add, i64_mul, jn_sub, j_leT, j_leF, j_ltT, j_ltF, j_eqF, jn_and30, jn_sar30, jn_shor, Int32.neg_neg, and_true, true_and, and_self, ↓bW_gR hw hR, ↓bW_wI hw]
      refine q_go ⟨_, rfl, FrS_up hF rfl, fun j hj => ?_⟩
      by_cases q : j = i
      · rw [q, up_s]
      · rw [up_n (Or.inr q)]
        exact hz j (by omega)
    · rintro st ⟨I', rfl, hF, hz⟩
      unfold f_X10_multiply_s21 xlet
      dsimp only
      simp (disch := omega) only [↓reduceIte, ↓q_let, ↓q_xz1, ↓q_xz0, ↓lg_cmp_ge, ↓lg_cmp_le, ↓lg_cmp_gt, ↓lg_cmp_lt, n_lit, j_lit, n_add, n_mul, n_sub, n_dec, Nat.add_sub_cancel, n_leT, n_leF, n_ltT, n_ltF, n_eqT, n_eqF, n_in, n_cl, n_m31, j_m63, j_of32, j_32, i64_add, i64_mul, jn_sub, j_leT, j_leF, j_ltT, j_ltF, j_eqF, jn_and30, jn_sar30, jn_shor, Int32.neg_neg, and_true, true_and, and_self]
      exact q_ex ⟨I', rfl, hF, hz⟩
  rintro r ⟨I1, rfl, hF1, hz1⟩
  simp only [Sum.elim_inr]
  unfold f_X10_multiply_j41 xlet
  refine q_bind (P := fun r => ∃ I', r = .inr (w, u, v, (Int32.ofNat (k + k')), mg (4562 + zn J) I' J R) ∧ FrS (fun x => x = w + 1) I I' ∧ Dg I' (w + 1) (k + k') (A * B)) ?_ ?_
  · refine q_for k (fun i st => ∃ I', st = (w, u, v, (Int32.ofNat (k + k')), (Int32.ofNat (i)), mg (4562 + zn J) I' J R) ∧ FrS (fun x => x = w + 1) I I' ∧ Dg I' (w + 1) (k + k') (A % Bw i * B)) ?_ ?_ (i := 0) ⟨I1, rfl, hF1, ?_⟩ (by omega) (by unfold xF; omega)
    · rintro i st hi ⟨I', rfl, hF, hD⟩
      obtain ⟨hA', hB', -, -⟩ := hf I' hF
      have e1 := hA'.2.1
      have e2 := hB'.2.1
      unfold f_X10_multiply_s44 xlet
      dsimp only
      simp (disch := omega) only [↓reduceIte, ↓q_let, ↓q_xz1, ↓q_xz0, ↓lg_cmp_ge, ↓lg_cmp_le, ↓lg_cmp_gt, ↓lg_cmp_lt, n_lit, j_lit, n_add, n_mul, n_sub, n_dec, Nat.add_sub_cancel, n_leT, n_leF, n_ltT, n_ltF, n_eqT, n_eqF, n_in, n_cl, n_m31, j_m63, j_of32, j_32, i64_add, i64_mul, jn_sub, j_leT, j_leF, j_ltT, j_ltF, j_eqF, jn_and30, jn_sar30, jn_shor, Int32.neg_neg, and_true, true_and, and_self, ↓bW_gI hu', e1]
      refine q_bind (W_mulIn (m := k + k') (i := i) hR hw hA' hB' rfl (by omega) hi hu hv rfl rfl hD.2) ?_
      rintro r ⟨I2, L, cr, rfl, hF2, hcr, hDg, heq, hhi⟩
      obtain ⟨hA2, hB2, -, -⟩ := hf I2 (FrS_tr hF hF2)
      have e3 := hB2.2.1
      simp only [Sum.elim_inr]
      unfold f_X10_multiply_j147 f_X10_multiply_j173 xlet
      simp (disch := omega) only [↓reduceIte, ↓q_let, ↓q_xz1, ↓q_xz0, ↓lg_cmp_ge, ↓lg_cmp_le, ↓lg_cmp_gt, ↓lg_cmp_lt, n_lit, j_lit, n_add, n_mul, n_sub, n_dec, Nat.add_sub_cancel, n_leT, n_leF, n_ltT, n_ltF, n_eqT, n_eqF, n_in, n_cl, n_m31, j_m63, j_of32, j_32, i64_add, i64_mul, jn_sub, j_leT, j_leF, j_ltT, j_ltF, j_eqF, jn_and30, jn_sar30, jn_shor, Int32.neg_neg, and_true, true_and, and_self, ↓bW_gI hv', e3, ↓bW_gR hw hR, ↓bW_wI hw]
      refine q_go ⟨_, rfl, FrS_up (FrS_tr hF hF2) rfl, ?_⟩
      rw [← heq]
      refine Dg_zero (Dg_w hDg hcr) (fun j h1 h2 => ?_) (by omega)
      rw [up_n (Or.inr (by omega))]
      exact hhi j (by omega) h2
    · rintro st ⟨I', rfl, hF, hD⟩
      obtain ⟨hA', hB', -, -⟩ := hf I' hF
      have e1 := hA'.2.1
      unfold f_X10_multiply_s44 xlet
      dsimp only
      simp (disch := omega) only [↓reduceIte, ↓q_let, ↓q_xz1, ↓q_xz0, ↓lg_cmp_ge, ↓lg_cmp_le, ↓lg_cmp_gt, ↓lg_cmp_lt, n_lit, j_lit, n_add, n_mul, n_sub, n_dec, Nat.add_sub_cancel, n_leT, n_leF, n_ltT, n_ltF, n_eqT, n_eqF, n_in, n_cl, n_m31, j_m63, j_of32, j_32, i64_add, i64_mul, jn_sub, j_leT, j_leF, j_ltT, j_ltF, j_eqF, jn_and30, jn_sar30, jn_shor, Int32.neg_neg, and_true, true_and, and_self, ↓bW_gI hu', e1]
      rw [Nat.mod_eq_of_lt (Wh_lt hA)] at hD
      exact q_ex ⟨I', rfl, hF, hD⟩
    · rw [Bw_0, Nat.mod_one, Nat.zero_mul]
      exact Dg_zero (k := 0) Dg_0 (fun j _ h => hz1 j h) (by omega)
  rintro r ⟨I2, rfl, hF2, hD2⟩
  obtain ⟨hA2, hB2, s1, s2⟩ := hf I2 hF2
  simp only [Sum.elim_inr]
  have j196 : ∀ z : Int, (x * y ≠ 0 → sgn z = sgn (x * y)) → QK (f_X10_multiply_j196 (mg (4562 + zn J) I2 J R) w (Int32.ofNat (k + k')) (sgn z) w) (fun r => ∃ I', r = mg (4562 + zn J) I' J R ∧ FrS (Sw w) I I' ∧ Wz I' w c (x * y)) := by
    intro z hz
    unfold f_X10_multiply_j196
    simp (disch := omega) only [↓reduceIte, ↓q_let, ↓q_xz1, ↓q_xz0, ↓lg_cmp_ge, ↓lg_cmp_le, ↓lg_cmp_gt, ↓lg_cmp_lt, n_lit, j_lit, n_add, n_mul, n_sub, n_dec, Nat.add_sub_cancel, n_leT, n_leF, n_ltT, n_ltF, n_eqT, n_eqF, n_in, n_cl, n_m31, j_m63, j_of32, j_32, i64_add, i64_mul, jn_sub, j_leT, j_leF, j_ltT, j_ltF, j_eqF, jn_and30, jn_sar30, jn_shor, Int32.neg_neg, and_true, true_and, and_self, ↓bW_sZ hw, bW_xk hw]
    refine q_bind (W_trim (I := up I2 w 2 (sgn z)) (n := A * B) (m := k + k') hR hw (by omega) (Dg_keep hD2 (fun j _ => up_n (by omega)))) ?_
    rintro r ⟨I3, rfl, hF3, ⟨k3, hk3, hW3⟩, h3⟩
    rw [up_s] at h3
    have en : A * B = (x * y).natAbs := by rw [Int.natAbs_mul, hAn, hBn]
    refine q_ok ⟨I3, rfl, FrS_tr (FrS_tr (FrS_mono hF2 (fun x hx => Or.inr hx)) (FrS_up FrS_rfl (Or.inl rfl))) (FrS_mono hF3 (fun x hx => Or.inl hx)), ⟨k3, by rw [← en]; exact hW3⟩, ?_⟩
    rw [h3]
    by_cases g : A * B = 0
    · rw [if_pos g]
      unfold sgn
      rw [if_neg (by omega)]
    · rw [if_neg g]
      exact hz (by omega)
  unfold f_X10_multiply_j179
  simp (disch := omega) only [↓reduceIte, ↓q_let, ↓q_xz1, ↓q_xz0, ↓lg_cmp_ge, ↓lg_cmp_le, ↓lg_cmp_gt, ↓lg_cmp_lt, n_lit, j_lit, n_add, n_mul, n_sub, n_dec, Nat.add_sub_cancel, n_leT, n_leF, n_ltT, n_ltF, n_eqT, n_eqF, n_in, n_cl, n_m31, j_m63, j_of32, j_32, i64_add, i64_mul, jn_sub, j_leT, j_leF, j_ltT, j_ltF, j_eqF, jn_and30, jn_sar30, jn_shor, Int32.neg_neg, and_true, true_and, and_self, ↓bW_gI hu', ↓bW_gI hv']
  rw [s1, s2]
  by_cases g : sgn x = sgn y
  · rw [if_pos g]
    refine j196 0 (fun z => ?_)
    have := sgn_inj.mp g
    refine sgn_inj.mpr ⟨fun h => absurd h (by omega), fun h => ?_⟩
    by_cases hx : x < 0
    · have := Int.mul_pos_of_neg_of_neg hx (this.mp hx)
      omega
    · have := Int.mul_nonneg (show 0 ≤ x by omega) (show 0 ≤ y by omega)
      omega
  · rw [if_neg g]
    refine j196 (-1) (fun z => ?_)
    have h1 : ¬ (x < 0 ↔ y < 0) := fun h => g (sgn_inj.mpr h)
    refine sgn_inj.mpr ⟨fun _ => ?_, fun _ => by omega⟩
    by_cases hx : x < 0
    · have hy : 0 < y := by
        have : y ≠ 0 := fun h => z (by rw [h, Int.mul_zero])
        omega
      exact Int.mul_neg_of_neg_of_pos hx hy
    · have hx0 : 0 < x := by
        have : x ≠ 0 := fun h => z (by rw [h, Int.zero_mul])
        omega
      exact Int.mul_neg_of_pos_of_neg hx0 (by omega)
end WF
