/-! the class's whole numbers: put, copied, trimmed, asked -/
theorem j_lit (n : Nat) : (OfNat.ofNat n : Int64) = Int64.ofNat (OfNat.ofNat n) := rfl
theorem j_toInt {a : Nat} (h : a < 9223372036854775808) : (Int64.ofNat a).toInt = a := Int64.toInt_ofNat_of_lt (by omega)
theorem j_le {a b : Nat} (h : a < 9223372036854775808) (h' : b < 9223372036854775808) : Int64.ofNat a ≤ Int64.ofNat b ↔ a ≤ b := by
  rw [Int64.le_iff_toInt_le, j_toInt h, j_toInt h']
  omega
theorem j_lt {a b : Nat} (h : a < 9223372036854775808) (h' : b < 9223372036854775808) : Int64.ofNat a < Int64.ofNat b ↔ a < b := by
  rw [Int64.lt_iff_toInt_lt, j_toInt h, j_toInt h']
  omega
theorem j_leT {a b : Nat} (h : a ≤ b ∧ b < 9223372036854775808) : (Int64.ofNat a ≤ Int64.ofNat b) = True := eq_true ((j_le (by omega) h.2).mpr h.1)
theorem j_leF {a b : Nat} (h : b < a ∧ a < 9223372036854775808) : (Int64.ofNat a ≤ Int64.ofNat b) = False := eq_false (fun q => absurd ((j_le h.2 (by omega)).mp q) (by omega))
theorem j_ltT {a b : Nat} (h : a < b ∧ b < 9223372036854775808) : (Int64.ofNat a < Int64.ofNat b) = True := eq_true ((j_lt (by omega) h.2).mpr h.1)
theorem j_ltF {a b : Nat} (h : b ≤ a ∧ a < 9223372036854775808) : (Int64.ofNat a < Int64.ofNat b) = False := eq_false (fun q => absurd ((j_lt h.2 (by omega)).mp q) (by omega))
theorem j_eqF {a b : Nat} (h : a ≠ b ∧ a < 9223372036854775808 ∧ b < 9223372036854775808) : (Int64.ofNat a = Int64.ofNat b) = False := eq_false (fun q => by
  have := congrArg Int64.toInt q
  rw [j_toInt h.2.1, j_toInt h.2.2] at this
  omega)
theorem j_and30 (x : Nat) : Int64.ofNat x &&& 1073741823 = Int64.ofNat (x % 1073741824) := by
  apply Int64.toBitVec_inj.mp
  show BitVec.ofNat 64 x &&& BitVec.ofNat 64 1073741823 = BitVec.ofNat 64 (x % 1073741824)
  apply BitVec.eq_of_getLsbD_eq
  intro i hi
  rw [BitVec.getLsbD_and, BitVec.getLsbD_ofNat, BitVec.getLsbD_ofNat, BitVec.getLsbD_ofNat, show (1073741823 : Nat) = 2 ^ 30 - 1 from rfl, show (1073741824 : Nat) = 2 ^ 30 from rfl, Nat.testBit_mod_two_pow, Nat.testBit_two_pow_sub_one]
  simp [hi, Bool.and_comm]
theorem j_32 (x : Nat) : (Int64.ofNat x).toInt32 = Int32.ofNat x := by
  rw [← Int64.ofInt_eq_ofNat, Int64.toInt32_ofInt, Int32.ofInt_eq_ofNat]
theorem j_of32 {x : Nat} (h : x < 2147483648) : (Int32.ofNat x).toInt64 = Int64.ofNat x := i64_nat h
theorem j_sar30 {x : Nat} (h : x < 9223372036854775808) : Int64.ofNat x >>> ((30 : Int32).toInt64 &&& 63) = Int64.ofNat (x / 1073741824) := by
  apply Int64.toBitVec_inj.mp
  rw [Int64.toBitVec_shiftRight]
  show (Int64.ofNat x).toBitVec.sshiftRight (((30 : Int32).toInt64 &&& 63).toBitVec.smod 64).toNat = BitVec.ofNat 64 (x / 1073741824)
  rw [show (((30 : Int32).toInt64 &&& 63).toBitVec.smod 64).toNat = 30 by decide]
  show (BitVec.ofNat 64 x).sshiftRight 30 = _
  have hm : (BitVec.ofNat 64 x).msb = false := by
    rw [BitVec.msb_eq_decide, BitVec.toNat_ofNat]
    exact decide_eq_false (by omega)
  rw [BitVec.sshiftRight_eq_of_msb_false hm]
  apply BitVec.eq_of_toNat_eq
  rw [BitVec.toNat_ushiftRight, BitVec.toNat_ofNat, BitVec.toNat_ofNat, Nat.shiftRight_eq_div_pow]
  omega
theorem sh64 : ∀ s, s < 31 → ((Int32.ofNat s).toInt64 &&& 63).toBitVec.smod 64 = BitVec.ofNat 64 s := by decide +kernel
theorem j_shl {a s : Nat} (hs : s < 31) : Int64.ofNat a <<< ((Int32.ofNat s).toInt64 &&& 63) = Int64.ofNat (2 ^ s * a) := by
  apply Int64.toBitVec_inj.mp
  rw [Int64.toBitVec_shiftLeft, sh64 s hs]
  apply BitVec.eq_of_toNat_eq
  show (BitVec.ofNat 64 a <<< BitVec.ofNat 64 s).toNat = (BitVec.ofNat 64 (2 ^ s * a)).toNat
  rw [BitVec.shiftLeft_eq', BitVec.toNat_shiftLeft, BitVec.toNat_ofNat, BitVec.toNat_ofNat, BitVec.toNat_ofNat, Nat.shiftLeft_eq, Nat.mod_eq_of_lt (show s < 2 ^ 64 by omega), Nat.mod_mul_mod, Nat.mul_comm]
theorem j_or {a b s : Nat} (h : b < 2 ^ s) : Int64.ofNat (2 ^ s * a) ||| Int64.ofNat b = Int64.ofNat (2 ^ s * a + b) := by
  apply Int64.toBitVec_inj.mp
  show BitVec.ofNat 64 (2 ^ s * a) ||| BitVec.ofNat 64 b = BitVec.ofNat 64 (2 ^ s * a + b)
  rw [Nat.two_pow_add_eq_or_of_lt h]
  apply BitVec.eq_of_getLsbD_eq
  intro i hi
  rw [BitVec.getLsbD_or, BitVec.getLsbD_ofNat, BitVec.getLsbD_ofNat, BitVec.getLsbD_ofNat, Nat.testBit_or]
  simp [hi]
/-- a sum of what is shifted and what is below -/
theorem j_shor {a b : Nat} (hb : b < 1073741824) : Int64.ofNat a <<< ((30 : Int32).toInt64 &&& 63) ||| Int64.ofNat b = Int64.ofNat (a * 1073741824 + b) := by
  rw [show ((30 : Int32).toInt64 &&& 63) = ((Int32.ofNat 30).toInt64 &&& 63) from rfl, j_shl (by decide), j_or (show b < 2 ^ 30 from hb)]
  congr 1
  omega
theorem sgn_0 : sgn 0 = 0 := rfl
theorem sgn_n (n : Nat) : sgn (n : Int) = 0 := if_neg (by omega)
theorem isW_ne {w u c d : Nat} (h : isW w c) (h' : isW u d) : w ≠ u + 1 := fun e => by
  have h1 := h.2.1
  rw [e, h'.2.2.2.1] at h1
  exact absurd (show 14 = 10 from congrArg Prod.fst h1) (by decide)
section WA
variable {I : Nat → Nat → Int32} {J : Nat → Nat → Int64} {R : Nat → Nat → Option Nat} {w c u d : Nat}
theorem bW_sZ {β : Type} {F : xM → Option β} {k : Nat} {z : Int} (h : isW w c) : (sZ (mg 4625 I J R) w 10 k (sgn z)).bind F = F (mg 4625 (up I w k (sgn z)) J R) := by
  unfold sgn
  split
  · exact bW_sZ1 h
  · exact bW_sZ0 h
theorem W_isZero {z : Int} (h : Wz I w c z) : f_X10_isZero (mg 4625 I J R) w = some (if z = 0 then 1 else 0) := by
  obtain ⟨⟨k, hk⟩, hs⟩ := h
  have k0 := Wh_0 hk
  have k1 := Wh_c hk
  unfold f_X10_isZero f_X10_isZero_j12
  by_cases q : z = 0
  · have : k = 0 := k0.mpr (by omega)
    rw [if_pos q]
    simp (disch := omega) only [↓reduceIte, ↓q_let, ↓q_xz1, ↓q_xz0, n_lit, n_add, n_mul, n_sub, n_dec, Nat.add_sub_cancel, n_leT, n_leF, n_ltT, n_ltF, n_eqT, n_eqF, n_in, n_cl, Int32.neg_neg, and_true, true_and, and_self, ↓bW_gI hk.1, hk.2.1]
  · have : k ≠ 0 := fun e => q (by have := k0.mp e; omega)
    rw [if_neg q]
    simp (disch := omega) only [↓reduceIte, ↓q_let, ↓q_xz1, ↓q_xz0, n_lit, n_add, n_mul, n_sub, n_dec, Nat.add_sub_cancel, n_leT, n_leF, n_ltT, n_ltF, n_eqT, n_eqF, n_in, n_cl, Int32.neg_neg, and_true, true_and, and_self, ↓bW_gI hk.1, hk.2.1]
theorem W_trim {m n : Nat} (hR : RA R) (hw : isW w c) (hm : m ≤ c) (h : Dg I (w + 1) m n) : QK (f_X10_trim (mg 4625 I J R) w (Int32.ofNat (m))) (fun r => ∃ I', r = mg 4625 I' J R ∧ FrS (fun x => x = w) I I' ∧ (∃ k, k ≤ m ∧ Wh I' w c k n) ∧ I' w 2 = (if n = 0 then 0 else I w 2)) := by
  have hc := hw.2.2.2.2.2
  unfold f_X10_trim
  simp (disch := omega) only [↓reduceIte, ↓q_let, ↓q_xz1, ↓q_xz0, n_lit, n_add, n_mul, n_sub, n_dec, Nat.add_sub_cancel, n_leT, n_leF, n_ltT, n_ltF, n_eqT, n_eqF, n_in, n_cl, Int32.neg_neg, and_true, true_and, and_self, ↓bW_sI hw]
  refine q_bind (P := fun r => ∃ I' k, r = .inr (w, mg 4625 I' J R) ∧ FrS (fun x => x = w) I I' ∧ k ≤ m ∧ Wh I' w c k n ∧ I' w 2 = I w 2) ?_ ?_
  · refine q_loop (fun i s => ∃ I', s = (w, (Int32.ofNat (i)), mg 4625 I' J R) ∧ i ≤ m ∧ FrS (fun x => x = w) I I' ∧ n < Bw i ∧ I' w 1 = (Int32.ofNat (i)) ∧ I' w 2 = I w 2) ?_ (m := m) ⟨_, rfl, Nat.le_refl _, FrS_up FrS_rfl rfl, h.1, up_s, up_n (Or.inr (by decide))⟩ (by unfold xF; omega)
    rintro i s ⟨I', rfl, hi, hF, hn, h1, h2⟩
    unfold f_X10_trim_s7 xlet
    dsimp only
    have hD : Dg I' (w + 1) i n := ⟨hn, fun j hj => by rw [hF (w + 1) (by omega)]; exact h.2 j (by omega)⟩
    rcases i with _ | i
    · simp (disch := omega) only [↓reduceIte, ↓q_let, ↓q_xz1, ↓q_xz0, n_lit, n_add, n_mul, n_sub, n_dec, Nat.add_sub_cancel, n_leT, n_leF, n_ltT, n_ltF, n_eqT, n_eqF, n_in, n_cl, Int32.neg_neg, and_true, true_and, and_self]
      exact q_ex ⟨I', 0, rfl, hF, by omega, ⟨hw, h1, by omega, hD, Or.inl rfl⟩, h2⟩
    · have e := hD.2 i (by omega)
      have dl := dW_lt n i
      by_cases q : dW n i = 0
      · simp (disch := omega) only [↓reduceIte, ↓q_let, ↓q_xz1, ↓q_xz0, n_lit, n_add, n_mul, n_sub, n_dec, Nat.add_sub_cancel, n_leT, n_leF, n_ltT, n_ltF, n_eqT, n_eqF, n_in, n_cl, Int32.neg_neg, and_true, true_and, and_self, ↓bW_gR hw hR, ↓bW_aI hw, ↓bW_sI hw, Nat.add_sub_cancel, e, q]
        have hn' : n < Bw i := by
          have h3 := modW_s n i
          rw [Nat.mod_eq_of_lt hn, q, Nat.mul_zero, Nat.add_zero] at h3
          rw [h3]
          exact Nat.mod_lt _ (Bw_pos i)
        refine q_go ⟨i, by omega, up I' w 1 (Int32.ofNat (i)), ?_, by omega, FrS_up hF rfl, hn', up_s, (up_n (Or.inr (by decide))).trans h2⟩
        rfl
      · simp (disch := omega) only [↓reduceIte, ↓q_let, ↓q_xz1, ↓q_xz0, n_lit, n_add, n_mul, n_sub, n_dec, Nat.add_sub_cancel, n_leT, n_leF, n_ltT, n_ltF, n_eqT, n_eqF, n_in, n_cl, Int32.neg_neg, and_true, true_and, and_self, ↓bW_gR hw hR, ↓bW_aI hw, ↓bW_sI hw, Nat.add_sub_cancel, e, q]
        refine q_ex ⟨I', i + 1, rfl, hF, hi, ⟨hw, h1, by omega, hD, Or.inr ?_⟩, h2⟩
        rw [Nat.add_sub_cancel]
        refine Nat.not_lt.mp (fun z => q ?_)
        unfold dW
        rw [Nat.div_eq_of_lt z]
  · rintro r ⟨I', k, rfl, hF, hk, hW, h2⟩
    simp only [Sum.elim_inr]
    unfold f_X10_trim_j35 f_X10_trim_j47
    have k0 := Wh_0 hW
    have k1 := Wh_c hW
    by_cases q : n = 0
    · have : k = 0 := k0.mpr q
      simp (disch := omega) only [↓reduceIte, ↓q_let, ↓q_xz1, ↓q_xz0, n_lit, n_add, n_mul, n_sub, n_dec, Nat.add_sub_cancel, n_leT, n_leF, n_ltT, n_ltF, n_eqT, n_eqF, n_in, n_cl, Int32.neg_neg, and_true, true_and, and_self, ↓bW_gI hw, ↓bW_sZ0 hw, hW.2.1]
      refine q_ok ⟨_, rfl, FrS_up hF rfl, ⟨k, hk, hw, (up_n (Or.inr (by decide))).trans hW.2.1, hW.2.2.1, Dg_keep hW.2.2.2.1 (fun j _ => up_n (by omega)), hW.2.2.2.2⟩, ?_⟩
      rw [up_s, if_pos q]
    · have : k ≠ 0 := fun e => q (k0.mp e)
      simp (disch := omega) only [↓reduceIte, ↓q_let, ↓q_xz1, ↓q_xz0, n_lit, n_add, n_mul, n_sub, n_dec, Nat.add_sub_cancel, n_leT, n_leF, n_ltT, n_ltF, n_eqT, n_eqF, n_in, n_cl, Int32.neg_neg, and_true, true_and, and_self, ↓bW_gI hw, ↓bW_sZ0 hw, hW.2.1]
      exact q_ok ⟨_, rfl, hF, ⟨k, hk, hW⟩, by rw [if_neg q]; exact h2⟩
end WA
