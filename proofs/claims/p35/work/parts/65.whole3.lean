/-! the class's whole numbers: small questions -/
def clp (z : Int) : Int := if z.natAbs < 1073741824 then z else if z < 0 then -1073741823 else 1073741823
def cmpZ (x y : Int) : Int32 := if x < y then -1 else if x = y then 0 else 1
theorem Wh_Bw {I : Nat → Nat → Int32} {w c k n p : Nat} (h : Wh I w c k n) : n < Bw p ↔ k ≤ p := by
  constructor
  · intro q
    rcases h.2.2.2.2 with z | z
    · omega
    · have := Bw_lt (Nat.lt_of_le_of_lt z q)
      omega
  · intro q
    exact Nat.lt_of_lt_of_le (Wh_lt h) (Bw_le q)
theorem Bw_1 : Bw 1 = 1073741824 := rfl
theorem dW_0 {n : Nat} (h : n < 1073741824) : dW n 0 = n := by
  unfold dW
  rw [Bw_0, Nat.div_one, Nat.mod_eq_of_lt h]
theorem sgn_eq0 {z : Int} : sgn z = 0 ↔ 0 ≤ z := by
  unfold sgn
  split
  · exact ⟨fun q => absurd q (by first | decide | omega), fun q => by omega⟩
  · exact ⟨fun _ => by omega, fun _ => rfl⟩
theorem sgn_inj {x y : Int} : sgn x = sgn y ↔ (x < 0 ↔ y < 0) := by
  unfold sgn
  by_cases h : x < 0 <;> by_cases h' : y < 0 <;> simp [h, h']
section WC
variable {I : Nat → Nat → Int32} {J : Nat → Nat → Int64} {R : Nat → Nat → Option Nat} {w c u d : Nat}
theorem W_isOne {z : Int} (hR : RA R) (h : Wz I w c z) : f_X10_isOne (mg (4562 + zn J) I J R) w = some (if z = 1 then 1 else 0) := by
  obtain ⟨⟨k, hk⟩, hs⟩ := h
  have k1 := Wh_c hk
  have hw := hk.1
  have hc := hw.2.2.2.2
  have kB := Wh_Bw (p := 1) hk
  rw [Bw_1] at kB
  have k0 := Wh_0 hk
  unfold f_X10_isOne f_X10_isOne_j29 f_X10_isOne_j30
  by_cases q : k = 1
  · subst q
    have hn : z.natAbs < 1073741824 := kB.mpr (Nat.le_refl _)
    have e := hk.2.2.2.1.2 0 (by omega)
    rw [dW_0 hn] at e
    by_cases q1 : z.natAbs = 1
    · by_cases q2 : z < 0
      · rw [if_neg (show ¬ z = 1 by omega)]
        have e2 : I w 2 = 1 := hs.trans (if_pos q2)
        simp (disch := omega) only [↓reduceIte, ↓q_let, ↓q_xz1, ↓q_xz0, ↓lg_cmp_ge, ↓lg_cmp_le, ↓lg_cmp_gt, ↓lg_cmp_lt, n_lit, j_lit, n_add, n_mul, n_sub, n_dec, Nat.add_sub_cancel, n_leT, n_leF, n_ltT, n_ltF, n_eqT, n_eqF, n_in, n_cl, n_m31, j_m63, j_of32, j_32, i64_add, i64_mul, jn_sub, j_leT, j_leF, j_ltT, j_ltF, j_eqF, jn_and30, jn_sar30, jn_shor, Int32.neg_neg, and_true, true_and, and_self, ↓bW_gI hw, hk.2.1, ↓bW_gR hw hR, ↓bW_aI hw, e, e2]
      · rw [if_pos (show z = 1 by omega)]
        have e2 : I w 2 = 0 := hs.trans (if_neg q2)
        simp (disch := omega) only [↓reduceIte, ↓q_let, ↓q_xz1, ↓q_xz0, ↓lg_cmp_ge, ↓lg_cmp_le, ↓lg_cmp_gt, ↓lg_cmp_lt, n_lit, j_lit, n_add, n_mul, n_sub, n_dec, Nat.add_sub_cancel, n_leT, n_leF, n_ltT, n_ltF, n_eqT, n_eqF, n_in, n_cl, n_m31, j_m63, j_of32, j_32, i64_add, i64_mul, jn_sub, j_leT, j_leF, j_ltT, j_ltF, j_eqF, jn_and30, jn_sar30, jn_shor, Int32.neg_neg, and_true, true_and, and_self, ↓bW_gI hw, hk.2.1, ↓bW_gR hw hR, ↓bW_aI hw, e, e2]
    · rw [if_neg (show ¬ z = 1 by omega)]
      simp (disch := omega) only [↓reduceIte, ↓q_let, ↓q_xz1, ↓q_xz0, ↓lg_cmp_ge, ↓lg_cmp_le, ↓lg_cmp_gt, ↓lg_cmp_lt, n_lit, j_lit, n_add, n_mul, n_sub, n_dec, Nat.add_sub_cancel, n_leT, n_leF, n_ltT, n_ltF, n_eqT, n_eqF, n_in, n_cl, n_m31, j_m63, j_of32, j_32, i64_add, i64_mul, jn_sub, j_leT, j_leF, j_ltT, j_ltF, j_eqF, jn_and30, jn_sar30, jn_shor, Int32.neg_neg, and_true, true_and, and_self, ↓bW_gI hw, hk.2.1, ↓bW_gR hw hR, ↓bW_aI hw, e]
  · rw [if_neg (show ¬ z = 1 by omega)]
    simp (disch := omega) only [↓reduceIte, ↓q_let, ↓q_xz1, ↓q_xz0, ↓lg_cmp_ge, ↓lg_cmp_le, ↓lg_cmp_gt, ↓lg_cmp_lt, n_lit, j_lit, n_add, n_mul, n_sub, n_dec, Nat.add_sub_cancel, n_leT, n_leF, n_ltT, n_ltF, n_eqT, n_eqF, n_in, n_cl, n_m31, j_m63, j_of32, j_32, i64_add, i64_mul, jn_sub, j_leT, j_leF, j_ltT, j_ltF, j_eqF, jn_and30, jn_sar30, jn_shor, Int32.neg_neg, and_true, true_and, and_self, ↓bW_gI hw, hk.2.1]
theorem W_flip {z : Int} (h : Wz I w c z) : QK (f_X10_flip (mg (4562 + zn J) I J R) w) (fun r => ∃ I', r = mg (4562 + zn J) I' J R ∧ FrS (fun x => x = w) I I' ∧ Wz I' w c (-z)) := by
  obtain ⟨⟨k, hk⟩, hs⟩ := h
  have k1 := Wh_c hk
  have hw := hk.1
  have k0 := Wh_0 hk
  have fin : ∀ v, v = sgn (-z) → QK (some (mg (4562 + zn J) (up I w 2 v) J R)) (fun r => ∃ I', r = mg (4562 + zn J) I' J R ∧ FrS (fun x => x = w) I I' ∧ Wz I' w c (-z)) := by
    intro v hv
    refine q_ok ⟨_, rfl, FrS_up FrS_rfl rfl, ⟨k, hw, (up_n (Or.inr (by first | decide | omega))).trans hk.2.1, hk.2.2.1, ?_, ?_⟩, up_s.trans hv⟩
    · rw [Int.natAbs_neg]
      exact Dg_keep hk.2.2.2.1 (fun j _ => up_n (by omega))
    · rw [Int.natAbs_neg]
      exact hk.2.2.2.2
  unfold f_X10_flip f_X10_flip_j19 f_X10_flip_j20
  by_cases q : z < 0
  · have e2 : I w 2 = 1 := hs.trans (if_pos q)
    simp (disch := omega) only [↓reduceIte, ↓q_let, ↓q_xz1, ↓q_xz0, ↓lg_cmp_ge, ↓lg_cmp_le, ↓lg_cmp_gt, ↓lg_cmp_lt, n_lit, j_lit, n_add, n_mul, n_sub, n_dec, Nat.add_sub_cancel, n_leT, n_leF, n_ltT, n_ltF, n_eqT, n_eqF, n_in, n_cl, n_m31, j_m63, j_of32, j_32, i64_add, i64_mul, jn_sub, j_leT, j_leF, j_ltT, j_ltF, j_eqF, jn_and30, jn_sar30, jn_shor, Int32.neg_neg, and_true, true_and, and_self, ↓bW_gI hw, hk.2.1, e2, ↓bW_sZ0 hw]
    exact fin _ (if_neg (by omega)).symm
  · have e2 : I w 2 = 0 := hs.trans (if_neg q)
    by_cases q0 : z = 0
    · have : k = 0 := k0.mpr (by omega)
      simp (disch := omega) only [↓reduceIte, ↓q_let, ↓q_xz1, ↓q_xz0, ↓lg_cmp_ge, ↓lg_cmp_le, ↓lg_cmp_gt, ↓lg_cmp_lt, n_lit, j_lit, n_add, n_mul, n_sub, n_dec, Nat.add_sub_cancel, n_leT, n_leF, n_ltT, n_ltF, n_eqT, n_eqF, n_in, n_cl, n_m31, j_m63, j_of32, j_32, i64_add, i64_mul, jn_sub, j_leT, j_leF, j_ltT, j_ltF, j_eqF, jn_and30, jn_sar30, jn_shor, Int32.neg_neg, and_true, true_and, and_self, ↓bW_gI hw, hk.2.1, e2, ↓bW_sZ0 hw]
      exact fin _ (if_neg (by omega)).symm
    · have : k ≠ 0 := fun e => q0 (by have := k0.mp e; omega)
      simp (disch := omega) only [↓reduceIte, ↓q_let, ↓q_xz1, ↓q_xz0, ↓lg_cmp_ge, ↓lg_cmp_le, ↓lg_cmp_gt, ↓lg_cmp_lt, n_lit, j_lit, n_add, n_mul, n_sub, n_dec, Nat.add_sub_cancel, n_leT, n_leF, n_ltT, n_ltF, n_eqT, n_eqF, n_in, n_cl, n_m31, j_m63, j_of32, j_32, i64_add, i64_mul, jn_sub, j_leT, j_leF, j_ltT, j_ltF, j_eqF, jn_and30, jn_sar30, jn_shor, Int32.neg_neg, and_true, true_and, and_self, ↓bW_gI hw, hk.2.1, e2, ↓bW_sZ1 hw]
      exact fin _ (if_pos (by omega)).symm
theorem W_clamped {z : Int} (hR : RA R) (h : Wz I w c z) : f_X10_clamped (mg (4562 + zn J) I J R) w = some (Int32.ofInt (clp z)) := by
  obtain ⟨⟨k, hk⟩, hs⟩ := h
  have k1 := Wh_c hk
  have hw := hk.1
  have hc := hw.2.2.2.2
  have kB := Wh_Bw (p := 1) hk
  rw [Bw_1] at kB
  have k0 := Wh_0 hk
  have fin : ∀ m : Nat, m < 1073741824 → (m : Int) = (clp z).natAbs → (z < 0 ∧ clp z < 0 ∨ ¬ z < 0 ∧ 0 ≤ clp z) → f_X10_clamped_j30 (mg (4562 + zn J) I J R) w (Int32.ofNat (m)) = some (Int32.ofInt (clp z)) := by
    intro m hm em es
    unfold f_X10_clamped_j30 f_X10_clamped_j44
    rcases es with ⟨q, es⟩ | ⟨q, es⟩
    · have e2 : I w 2 = 1 := hs.trans (if_pos q)
      simp (disch := omega) only [↓reduceIte, ↓q_let, ↓q_xz1, ↓q_xz0, ↓lg_cmp_ge, ↓lg_cmp_le, ↓lg_cmp_gt, ↓lg_cmp_lt, n_lit, j_lit, n_add, n_mul, n_sub, n_dec, Nat.add_sub_cancel, n_leT, n_leF, n_ltT, n_ltF, n_eqT, n_eqF, n_in, n_cl, n_m31, j_m63, j_of32, j_32, i64_add, i64_mul, jn_sub, j_leT, j_leF, j_ltT, j_ltF, j_eqF, jn_and30, jn_sar30, jn_shor, Int32.neg_neg, and_true, true_and, and_self, ↓bW_gI hw, e2]
      rw [Int32.neg_ofNat]
      congr 2
      omega
    · have e2 : I w 2 = 0 := hs.trans (if_neg q)
      simp (disch := omega) only [↓reduceIte, ↓q_let, ↓q_xz1, ↓q_xz0, ↓lg_cmp_ge, ↓lg_cmp_le, ↓lg_cmp_gt, ↓lg_cmp_lt, n_lit, j_lit, n_add, n_mul, n_sub, n_dec, Nat.add_sub_cancel, n_leT, n_leF, n_ltT, n_ltF, n_eqT, n_eqF, n_in, n_cl, n_m31, j_m63, j_of32, j_32, i64_add, i64_mul, jn_sub, j_leT, j_leF, j_ltT, j_ltF, j_eqF, jn_and30, jn_sar30, jn_shor, Int32.neg_neg, and_true, true_and, and_self, ↓bW_gI hw, e2]
      rw [← Int32.ofInt_eq_ofNat]
      congr 2
      omega
  have cz : (z.natAbs < 1073741824 ∧ clp z = z) ∨ (¬ z.natAbs < 1073741824 ∧ clp z = if z < 0 then -1073741823 else 1073741823) := by
    unfold clp
    by_cases q : z.natAbs < 1073741824
    · exact Or.inl ⟨q, if_pos q⟩
    · exact Or.inr ⟨q, if_neg q⟩
  unfold f_X10_clamped
  by_cases q0 : k = 0
  · have hz : z = 0 := by have := k0.mp q0; omega
    simp (disch := omega) only [↓reduceIte, ↓q_let, ↓q_xz1, ↓q_xz0, ↓lg_cmp_ge, ↓lg_cmp_le, ↓lg_cmp_gt, ↓lg_cmp_lt, n_lit, j_lit, n_add, n_mul, n_sub, n_dec, Nat.add_sub_cancel, n_leT, n_leF, n_ltT, n_ltF, n_eqT, n_eqF, n_in, n_cl, n_m31, j_m63, j_of32, j_32, i64_add, i64_mul, jn_sub, j_leT, j_leF, j_ltT, j_ltF, j_eqF, jn_and30, jn_sar30, jn_shor, Int32.neg_neg, and_true, true_and, and_self, ↓bW_gI hw, hk.2.1]
    refine fin 0 (by omega) ?_ ?_
    · rcases cz with ⟨_, e⟩ | ⟨g, _⟩ <;> omega
    · rcases cz with ⟨_, e⟩ | ⟨g, _⟩ <;> omega
  · by_cases q1 : k = 1
    · have hn : z.natAbs < 1073741824 := kB.mpr (by omega)
      have e := hk.2.2.2.1.2 0 (by omega)
      rw [dW_0 hn] at e
      have hz : z ≠ 0 := fun h0 => q0 (k0.mpr (by omega))
      simp (disch := omega) only [↓reduceIte, ↓q_let, ↓q_xz1, ↓q_xz0, ↓lg_cmp_ge, ↓lg_cmp_le, ↓lg_cmp_gt, ↓lg_cmp_lt, n_lit, j_lit, n_add, n_mul, n_sub, n_dec, Nat.add_sub_cancel, n_leT, n_leF, n_ltT, n_ltF, n_eqT, n_eqF, n_in, n_cl, n_m31, j_m63, j_of32, j_32, i64_add, i64_mul, jn_sub, j_leT, j_leF, j_ltT, j_ltF, j_eqF, jn_and30, jn_sar30, jn_shor, Int32.neg_neg, and_true, true_and, and_self, ↓bW_gI hw, hk.2.1, ↓bW_gR hw hR, ↓bW_aI hw, e]
      refine fin z.natAbs hn ?_ ?_
      · rcases cz with ⟨_, e⟩ | ⟨g, _⟩ <;> omega
      · rcases cz with ⟨_, e⟩ | ⟨g, _⟩ <;> omega
    · have hn : ¬ z.natAbs < 1073741824 := fun h0 => absurd (kB.mp h0) (by omega)
      simp (disch := omega) only [↓reduceIte, ↓q_let, ↓q_xz1, ↓q_xz0, ↓lg_cmp_ge, ↓lg_cmp_le, ↓lg_cmp_gt, ↓lg_cmp_lt, n_lit, j_lit, n_add, n_mul, n_sub, n_dec, Nat.add_sub_cancel, n_leT, n_leF, n_ltT, n_ltF, n_eqT, n_eqF, n_in, n_cl, n_m31, j_m63, j_of32, j_32, i64_add, i64_mul, jn_sub, j_leT, j_leF, j_ltT, j_ltF, j_eqF, jn_and30, jn_sar30, jn_shor, Int32.neg_neg, and_true, true_and, and_self, ↓bW_gI hw, hk.2.1]
      refine fin 1073741823 (by omega) ?_ ?_
      · rcases cz with ⟨_, e⟩ | ⟨_, e⟩
        · omega
        · split at e <;> omega
      · rcases cz with ⟨_, e⟩ | ⟨_, e⟩
        · omega
        · split at e <;> omega
theorem W_isShort {k n : Nat} (h : Wh I w c k n) : f_X10_isShort (mg (4562 + zn J) I J R) w = some (if n < Bw 2 then 1 else 0) := by
  have hw := h.1
  have kB := Wh_Bw (p := 2) h
  have k1 := Wh_c h
  unfold f_X10_isShort f_X10_isShort_j13
  by_cases q : k ≤ 2
  · rw [if_pos (kB.mpr q)]
    simp (disch := omega) only [↓reduceIte, ↓q_let, ↓q_xz1, ↓q_xz0, ↓lg_cmp_ge, ↓lg_cmp_le, ↓lg_cmp_gt, ↓lg_cmp_lt, n_lit, j_lit, n_add, n_mul, n_sub, n_dec, Nat.add_sub_cancel, n_leT, n_leF, n_ltT, n_ltF, n_eqT, n_eqF, n_in, n_cl, n_m31, j_m63, j_of32, j_32, i64_add, i64_mul, jn_sub, j_leT, j_leF, j_ltT, j_ltF, j_eqF, jn_and30, jn_sar30, jn_shor, Int32.neg_neg, and_true, true_and, and_self, ↓bW_gI hw, h.2.1]
  · rw [if_neg (fun z => q (kB.mp z))]
    simp (disch := omega) only [↓reduceIte, ↓q_let, ↓q_xz1, ↓q_xz0, ↓lg_cmp_ge, ↓lg_cmp_le, ↓lg_cmp_gt, ↓lg_cmp_lt, n_lit, j_lit, n_add, n_mul, n_sub, n_dec, Nat.add_sub_cancel, n_leT, n_leF, n_ltT, n_ltF, n_eqT, n_eqF, n_in, n_cl, n_m31, j_m63, j_of32, j_32, i64_add, i64_mul, jn_sub, j_leT, j_leF, j_ltT, j_ltF, j_eqF, jn_and30, jn_sar30, jn_shor, Int32.neg_neg, and_true, true_and, and_self, ↓bW_gI hw, h.2.1]
theorem W_shortSize {k n : Nat} (hR : RA R) (h : Wh I w c k n) (hn : n < Bw 2) : f_X10_shortSize (mg (4562 + zn J) I J R) w = some (Int64.ofNat n) := by
  have hw := h.1
  have hc := hw.2.2.2.2
  have kB := (Wh_Bw (p := 2) h).mp hn
  have k0 := Wh_0 h
  have d0 := dW_lt n 0
  have d1 := dW_lt n 1
  unfold f_X10_shortSize f_X10_shortSize_j18 f_X10_shortSize_j43
  rcases (by omega : k = 0 ∨ k = 1 ∨ k = 2) with rfl | rfl | rfl
  · have : n = 0 := k0.mp rfl
    subst this
    simp (disch := omega) only [↓reduceIte, ↓q_let, ↓q_xz1, ↓q_xz0, ↓lg_cmp_ge, ↓lg_cmp_le, ↓lg_cmp_gt, ↓lg_cmp_lt, n_lit, j_lit, n_add, n_mul, n_sub, n_dec, Nat.add_sub_cancel, n_leT, n_leF, n_ltT, n_ltF, n_eqT, n_eqF, n_in, n_cl, n_m31, j_m63, j_of32, j_32, i64_add, i64_mul, jn_sub, j_leT, j_leF, j_ltT, j_ltF, j_eqF, jn_and30, jn_sar30, jn_shor, Int32.neg_neg, and_true, true_and, and_self, ↓bW_gI hw, h.2.1]
  · have e := h.2.2.2.1.2 0 (by omega)
    have : n < 1073741824 := Wh_lt h
    rw [dW_0 this] at e
    simp (disch := omega) only [↓reduceIte, ↓q_let, ↓q_xz1, ↓q_xz0, ↓lg_cmp_ge, ↓lg_cmp_le, ↓lg_cmp_gt, ↓lg_cmp_lt, n_lit, j_lit, n_add, n_mul, n_sub, n_dec, Nat.add_sub_cancel, n_leT, n_leF, n_ltT, n_ltF, n_eqT, n_eqF, n_in, n_cl, n_m31, j_m63, j_of32, j_32, i64_add, i64_mul, jn_sub, j_leT, j_leF, j_ltT, j_ltF, j_eqF, jn_and30, jn_sar30, jn_shor, Int32.neg_neg, and_true, true_and, and_self, ↓bW_gI hw, h.2.1, ↓bW_gR hw hR, ↓bW_aI hw, e]
  · have e := h.2.2.2.1.2 0 (by omega)
    have e1 := h.2.2.2.1.2 1 (by omega)
    simp (disch := omega) only [↓reduceIte, ↓q_let, ↓q_xz1, ↓q_xz0, ↓lg_cmp_ge, ↓lg_cmp_le, ↓lg_cmp_gt, ↓lg_cmp_lt, n_lit, j_lit, n_add, n_mul, n_sub, n_dec, Nat.add_sub_cancel, n_leT, n_leF, n_ltT, n_ltF, n_eqT, n_eqF, n_in, n_cl, n_m31, j_m63, j_of32, j_32, i64_add, i64_mul, jn_sub, j_leT, j_leF, j_ltT, j_ltF, j_eqF, jn_and30, jn_sar30, jn_shor, Int32.neg_neg, and_true, true_and, and_self, ↓bW_gI hw, h.2.1, ↓bW_gR hw hR, ↓bW_aI hw, e, e1]
    congr 2
    have h1 := modW_s n 1
    rw [Nat.mod_eq_of_lt (show n < Bw (1 + 1) from hn), Bw_1] at h1
    have h2 : dW n 0 = n % 1073741824 := by
      unfold dW
      rw [Bw_0, Nat.div_one]
    omega
theorem W_cmpSigned {x y : Int} (hR : RA R) (h : Wz I w c x) (h' : Wz I u d y) : f_X10_compareSigned (mg (4562 + zn J) I J R) w u = some (cmpZ x y) := by
  obtain ⟨⟨k, hk⟩, hs⟩ := h
  obtain ⟨⟨k', hk'⟩, hs'⟩ := h'
  have hw := hk.1
  have hu := hk'.1
  unfold f_X10_compareSigned f_X10_compareSigned_j44 f_X10_compareSigned_j23
  by_cases q : x < 0 <;> by_cases q' : y < 0
  · have e1 : I w 2 = 1 := hs.trans (if_pos q)
    have e2 : I u 2 = 1 := hs'.trans (if_pos q')
    simp (disch := omega) only [↓reduceIte, ↓q_let, ↓q_xz1, ↓q_xz0, ↓lg_cmp_ge, ↓lg_cmp_le, ↓lg_cmp_gt, ↓lg_cmp_lt, n_lit, j_lit, n_add, n_mul, n_sub, n_dec, Nat.add_sub_cancel, n_leT, n_leF, n_ltT, n_ltF, n_eqT, n_eqF, n_in, n_cl, n_m31, j_m63, j_of32, j_32, i64_add, i64_mul, jn_sub, j_leT, j_leF, j_ltT, j_ltF, j_eqF, jn_and30, jn_sar30, jn_shor, Int32.neg_neg, and_true, true_and, and_self, ↓bW_gI hw, ↓bW_gI hu, e1, e2, W_cmpSizes hR hk' hk, Option.bind_some]
    unfold cmpN cmpZ
    congr 1
    by_cases z : x < y
    · rw [if_pos z, if_pos (by omega)]
    · by_cases z2 : x = y
      · rw [if_neg z, if_pos z2, if_neg (by omega), if_pos (by omega)]
      · rw [if_neg z, if_neg z2, if_neg (by omega), if_neg (by omega)]
  · have e1 : I w 2 = 1 := hs.trans (if_pos q)
    have e2 : I u 2 = 0 := hs'.trans (if_neg q')
    simp (disch := omega) only [↓reduceIte, ↓q_let, ↓q_xz1, ↓q_xz0, ↓lg_cmp_ge, ↓lg_cmp_le, ↓lg_cmp_gt, ↓lg_cmp_lt, n_lit, j_lit, n_add, n_mul, n_sub, n_dec, Nat.add_sub_cancel, n_leT, n_leF, n_ltT, n_ltF, n_eqT, n_eqF, n_in, n_cl, n_m31, j_m63, j_of32, j_32, i64_add, i64_mul, jn_sub, j_leT, j_leF, j_ltT, j_ltF, j_eqF, jn_and30, jn_sar30, jn_shor, Int32.neg_neg, and_true, true_and, and_self, ↓bW_gI hw, ↓bW_gI hu, e1, e2]
    unfold cmpZ
    rw [if_pos (by omega)]
    rfl
  · have e1 : I w 2 = 0 := hs.trans (if_neg q)
    have e2 : I u 2 = 1 := hs'.trans (if_pos q')
    simp (disch := omega) only [↓reduceIte, ↓q_let, ↓q_xz1, ↓q_xz0, ↓lg_cmp_ge, ↓lg_cmp_le, ↓lg_cmp_gt, ↓lg_cmp_lt, n_lit, j_lit, n_add, n_mul, n_sub, n_dec, Nat.add_sub_cancel, n_leT, n_leF, n_ltT, n_ltF, n_eqT, n_eqF, n_in, n_cl, n_m31, j_m63, j_of32, j_32, i64_add, i64_mul, jn_sub, j_leT, j_leF, j_ltT, j_ltF, j_eqF, jn_and30, jn_sar30, jn_shor, Int32.neg_neg, and_true, true_and, and_self, ↓bW_gI hw, ↓bW_gI hu, e1, e2]
    unfold cmpZ
    rw [if_neg (by omega), if_neg (by omega)]
    rfl
  · have e1 : I w 2 = 0 := hs.trans (if_neg q)
    have e2 : I u 2 = 0 := hs'.trans (if_neg q')
    simp (disch := omega) only [↓reduceIte, ↓q_let, ↓q_xz1, ↓q_xz0, ↓lg_cmp_ge, ↓lg_cmp_le, ↓lg_cmp_gt, ↓lg_cmp_lt, n_lit, j_lit, n_add, n_mul, n_sub, n_dec, Nat.add_sub_cancel, n_leT, n_leF, n_ltT, n_ltF, n_eqT, n_eqF, n_in, n_cl, n_m31, j_m63, j_of32, j_32, i64_add, i64_mul, jn_sub, j_leT, j_leF, j_ltT, j_ltF, j_eqF, jn_and30, jn_sar30, jn_shor, Int32.neg_neg, and_true, true_and, and_self, ↓bW_gI hw, ↓bW_gI hu, e1, e2, W_cmpSizes hR hk hk', Option.bind_some]
    unfold cmpN cmpZ
    congr 1
    by_cases z : x < y
    · rw [if_pos z, if_pos (by omega)]
    · by_cases z2 : x = y
      · rw [if_neg z, if_pos z2, if_neg (by omega), if_pos (by omega)]
      · rw [if_neg z, if_neg z2, if_neg (by omega), if_neg (by omega)]
theorem W_bits {k n : Nat} (hR : RA R) (h : Wh I w c k n) : ∃ b, f_X10_bits (mg (4562 + zn J) I J R) w = some (Int32.ofNat (b)) ∧ n < 2 ^ b ∧ (b = 0 ∨ 2 ^ (b - 1) ≤ n) ∧ b ≤ 3000 := by
  have hw := h.1
  have hc := hw.2.2.2.2
  have hkc := h.2.2.1
  unfold f_X10_bits f_X10_bits_j45
  rcases k with _ | k
  · have : n = 0 := (Wh_0 h).mp rfl
    refine ⟨0, ?_, by rw [this]; decide, Or.inl rfl, by omega⟩
    simp (disch := omega) only [↓reduceIte, ↓q_let, ↓q_xz1, ↓q_xz0, ↓lg_cmp_ge, ↓lg_cmp_le, ↓lg_cmp_gt, ↓lg_cmp_lt, n_lit, j_lit, n_add, n_mul, n_sub, n_dec, Nat.add_sub_cancel, n_leT, n_leF, n_ltT, n_ltF, n_eqT, n_eqF, n_in, n_cl, n_m31, j_m63, j_of32, j_32, i64_add, i64_mul, jn_sub, j_leT, j_leF, j_ltT, j_ltF, j_eqF, jn_and30, jn_sar30, jn_shor, Int32.neg_neg, and_true, true_and, and_self, ↓bW_gI hw, h.2.1]
  · have e := h.2.2.2.1.2 k (by omega)
    have dl := dW_lt n k
    have hn : n / Bw (k + 1) = 0 := Nat.div_eq_of_lt (Wh_lt h)
    have hsp := dW_split n k
    rw [hn, Nat.zero_mul, Nat.zero_add] at hsp
    have hlo : Bw k ≤ n := by
      rcases h.2.2.2.2 with z | z
      · omega
      · rw [Nat.add_sub_cancel] at z
        exact z
    have dp : 0 < dW n k := by
      rw [← hsp]
      exact Nat.div_pos hlo (Bw_pos k)
    have key : QK (xloop (f_X10_bits_s31 (mg (4562 + zn J) I J R)) xF ((Int32.ofNat (k * 30)), (Int32.ofNat (dW n k)))) (fun r => ∃ v, r = .inr (Int32.ofNat (k * 30 + v)) ∧ dW n k < 2 ^ v ∧ (v = 0 ∨ 2 ^ (v - 1) ≤ dW n k) ∧ v ≤ 30) := by
      refine q_loop (fun t s => ∃ v, s = ((Int32.ofNat (k * 30 + v)), (Int32.ofNat (t))) ∧ t = dW n k / 2 ^ v ∧ (v = 0 ∨ 2 ^ (v - 1) ≤ dW n k) ∧ v ≤ 30) ?_ (m := dW n k) ⟨0, rfl, by rw [Nat.pow_zero, Nat.div_one], Or.inl rfl, by omega⟩ (by unfold xF; omega)
      rintro t s ⟨v, rfl, ht, hv, hv2⟩
      have htl : t ≤ dW n k := by rw [ht]; exact Nat.div_le_self _ _
      unfold f_X10_bits_s31 xlet
      dsimp only
      by_cases q : t = 0
      · simp (disch := omega) only [↓reduceIte, ↓q_let, ↓q_xz1, ↓q_xz0, ↓lg_cmp_ge, ↓lg_cmp_le, ↓lg_cmp_gt, ↓lg_cmp_lt, n_lit, j_lit, n_add, n_mul, n_sub, n_dec, Nat.add_sub_cancel, n_leT, n_leF, n_ltT, n_ltF, n_eqT, n_eqF, n_in, n_cl, n_m31, j_m63, j_of32, j_32, i64_add, i64_mul, jn_sub, j_leT, j_leF, j_ltT, j_ltF, j_eqF, jn_and30, jn_sar30, jn_shor, Int32.neg_neg, and_true, true_and, and_self, q]
        refine q_ex ⟨v, rfl, ?_, hv, hv2⟩
        rw [ht] at q
        exact Nat.lt_of_not_le (fun z => by have := Nat.div_pos z (Nat.two_pow_pos v); omega)
      · rw [i32_sar1 (by omega)]
        have hv3 : v < 30 := Nat.lt_of_not_le (fun z => q (by
          rw [ht]
          exact Nat.div_eq_of_lt (Nat.lt_of_lt_of_le dl (show 2 ^ 30 ≤ 2 ^ v from Nat.pow_le_pow_right (by first | decide | omega) z))))
        simp (disch := omega) only [↓reduceIte, ↓q_let, ↓q_xz1, ↓q_xz0, ↓lg_cmp_ge, ↓lg_cmp_le, ↓lg_cmp_gt, ↓lg_cmp_lt, n_lit, j_lit, n_add, n_mul, n_sub, n_dec, Nat.add_sub_cancel, n_leT, n_leF, n_ltT, n_ltF, n_eqT, n_eqF, n_in, n_cl, n_m31, j_m63, j_of32, j_32, i64_add, i64_mul, jn_sub, j_leT, j_leF, j_ltT, j_ltF, j_eqF, jn_and30, jn_sar30, jn_shor, Int32.neg_neg, and_true, true_and, and_self]
        refine q_go ⟨t / 2, by omega, v + 1, rfl, ?_, Or.inr ?_, by omega⟩
        · rw [ht, Nat.div_div_eq_div_mul, Nat.pow_succ]
        · rw [Nat.add_sub_cancel]
          exact Nat.le_of_not_lt (fun z => q (by rw [ht]; exact Nat.div_eq_of_lt z))
    obtain ⟨r, er, v, rfl, h1, h2, h3⟩ := key
    refine ⟨k * 30 + v, ?_, ?_, ?_, by omega⟩
    · simp (disch := omega) only [↓reduceIte, ↓q_let, ↓q_xz1, ↓q_xz0, ↓lg_cmp_ge, ↓lg_cmp_le, ↓lg_cmp_gt, ↓lg_cmp_lt, n_lit, j_lit, n_add, n_mul, n_sub, n_dec, Nat.add_sub_cancel, n_leT, n_leF, n_ltT, n_ltF, n_eqT, n_eqF, n_in, n_cl, n_m31, j_m63, j_of32, j_32, i64_add, i64_mul, jn_sub, j_leT, j_leF, j_ltT, j_ltF, j_eqF, jn_and30, jn_sar30, jn_shor, Int32.neg_neg, and_true, true_and, and_self, ↓bW_gI hw, h.2.1, Nat.add_sub_cancel, ↓bW_gR hw hR, ↓bW_aI hw, e, er, Option.bind_some, Sum.elim_inr]
    · have e2 : 2 ^ (k * 30 + v) = Bw k * 2 ^ v := by rw [Bw_two, Nat.mul_comm k, Nat.pow_add]
      rw [e2, Nat.mul_comm]
      exact (Nat.div_lt_iff_lt_mul (Bw_pos k)).mp (by rw [hsp]; exact h1)
    · right
      rcases h2 with z | z
      · rw [z, Nat.pow_zero] at h1
        omega
      · by_cases v0 : v = 0
        · rw [v0] at h1
          omega
        · have e2 : 2 ^ (k * 30 + v - 1) = Bw k * 2 ^ (v - 1) := by rw [Bw_two, Nat.mul_comm k, show 30 * k + v - 1 = 30 * k + (v - 1) by omega, Nat.pow_add]
          rw [e2, Nat.mul_comm]
          exact (Nat.le_div_iff_mul_le (Bw_pos k)).mp (by rw [hsp]; exact z)
end WC
