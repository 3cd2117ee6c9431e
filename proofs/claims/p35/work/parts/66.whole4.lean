/-! the class's whole numbers: together, less, times -/
theorem z_add (a b : Int) : Int64.ofInt a + Int64.ofInt b = Int64.ofInt (a + b) := (Int64.ofInt_add a b).symm
theorem z_sub (a b : Int) : Int64.ofInt a - Int64.ofInt b = Int64.ofInt (a - b) := (Int64.ofInt_sub a b).symm
theorem z_mul (a b : Int) : Int64.ofInt a * Int64.ofInt b = Int64.ofInt (a * b) := (Int64.ofInt_mul a b).symm
theorem z_neg (a : Int) : - Int64.ofInt a = Int64.ofInt (-a) := (Int64.ofInt_neg a).symm
theorem z_nat (a : Nat) : Int64.ofNat a = Int64.ofInt (a : Int) := Int64.ofInt_eq_ofNat.symm
theorem z_toInt {a : Int} (h : -9223372036854775808 ≤ a ∧ a < 9223372036854775808) : (Int64.ofInt a).toInt = a := Int64.toInt_ofInt_of_le (by omega) (by omega)
theorem z_up (a b : Int) : Int64.ofInt (a + b * 18446744073709551616) = Int64.ofInt a := by
  apply Int64.toInt_inj.mp
  rw [Int64.toInt_ofInt, Int64.toInt_ofInt]
  exact Int.add_mul_bmod_self_right _ _ _
theorem z_and30 (z : Int) (h : -4611686018427387904 ≤ z) : Int64.ofInt z &&& Int64.ofNat 1073741823 = Int64.ofNat (z % 1073741824).toNat := by
  have e : Int64.ofInt z = Int64.ofNat (z + 18446744073709551616).toNat := by
    rw [z_nat, Int.toNat_of_nonneg (by omega), show z + 18446744073709551616 = z + 1 * 18446744073709551616 by omega, z_up]
  rw [e, jn_and30]
  congr 1
  omega
theorem z_sar30 {z : Int} (h : -4611686018427387904 ≤ z ∧ z < 4611686018427387904) : Int64.ofInt z >>> Int64.ofNat 30 = Int64.ofInt (z / 1073741824) := by
  rw [show Int64.ofNat 30 = ((30 : Int32).toInt64 &&& 63) by decide]
  apply Int64.toInt_inj.mp
  rw [z_toInt (by omega)]
  show ((Int64.ofInt z).toBitVec.sshiftRight (((30 : Int32).toInt64 &&& 63).toBitVec.smod 64).toNat).toInt = _
  rw [show (((30 : Int32).toInt64 &&& 63).toBitVec.smod 64).toNat = 30 by decide, BitVec.toInt_sshiftRight]
  show (Int64.ofInt z).toInt >>> 30 = _
  rw [z_toInt (by omega), Int.shiftRight_eq_div_pow]
  rfl
theorem emod_nat {z : Int} : ∃ x : Nat, x < 1073741824 ∧ (z % 1073741824).toNat = x ∧ (x : Int) = z % 1073741824 := ⟨(z % 1073741824).toNat, by omega, rfl, by omega⟩
theorem modW_sZ (n i : Nat) : ((n % Bw (i + 1) : Nat) : Int) = ((n % Bw i : Nat) : Int) + (Bw i : Int) * (dW n i : Nat) := by
  rw [modW_s, Int.natCast_add, Int.natCast_mul]
section WD
variable {I : Nat → Nat → Int32} {J : Nat → Nat → Int64} {R : Nat → Nat → Option Nat} {w c u d v e : Nat}
/-- digit by digit -/
theorem W_sumLoop {A B k k' : Nat} {s : Int} {f : Int32} {l1 : Nat} {l4 l5 : Int32} (hR : RA R) (hw : isW w c) (hA : Wh I u d k A) (hB : Wh I v e k' B) (hBA : B ≤ A) (hk : k + 1 ≤ c) (hs : (s = 1 ∧ f = 1) ∨ (s = -1 ∧ f = -1)) (hu : w ≠ u) (hv : w ≠ v) :
    QK (xloop f_X10_sum_s93 xF (w, l1, l4, l5, u, v, f, (Int32.ofNat (k + 1)), (0 : Int64), (0 : Int32), mg (4562 + zn J) I J R)) (fun r => ∃ I' n, r = .inr (w, l1, l4, l5, (Int32.ofNat (k + 1)), mg (4562 + zn J) I' J R) ∧ FrS (fun x => x = w + 1) I I' ∧ Dg I' (w + 1) (k + 1) n ∧ (n : Int) = A + s * B) := by
  have hc := hw.2.2.2.2
  have hu' := hA.1
  have hv' := hB.1
  have n1 := isW_ne hw hu'
  have n2 := isW_ne hu' hw
  have n3 := isW_ne hw hv'
  have n4 := isW_ne hv' hw
  have hd := hu'.2.2.2.2
  have he := hv'.2.2.2.2
  have kd := hA.2.2.1
  have ke := hB.2.2.1
  have hkk : k' ≤ k := (Wh_Bw hB).mp (Nat.lt_of_le_of_lt hBA (Wh_lt hA))
  have f64 : f.toInt64 = Int64.ofInt s := by
    rcases hs with ⟨h1, h2⟩ | ⟨h1, h2⟩
    · rw [h1, h2]; decide
    · rw [h1, h2]; decide
  refine q_for (k + 1) (fun i st => ∃ I' n, ∃ cr : Int, st = (w, l1, l4, l5, u, v, f, (Int32.ofNat (k + 1)), Int64.ofInt cr, (Int32.ofNat (i)), mg (4562 + zn J) I' J R) ∧ FrS (fun x => x = w + 1) I I' ∧ Dg I' (w + 1) i n ∧ (n : Int) + cr * Bw i = (A % Bw i : Nat) + s * (B % Bw i : Nat) ∧ -1 ≤ cr ∧ cr ≤ 1) ?_ ?_ (i := 0) ⟨I, 0, 0, rfl, FrS_rfl, Dg_0, by rw [Bw_0, Nat.mod_one, Nat.mod_one]; omega, by omega, by omega⟩ (by omega) (by unfold xF; omega)
  · rintro i st hi ⟨I', n, cr, rfl, hF, hD, he1, hc1, hc2⟩
    have a1 := dW_lt A i
    have b1 := dW_lt B i
    have j148 : f_X10_sum_j148 (mg (4562 + zn J) I' J R) w l1 l4 l5 u v f (Int32.ofNat (k + 1)) (Int64.ofInt cr) (Int32.ofNat (i)) (Int64.ofNat (dW A i)) (Int64.ofNat (dW B i)) = some (.inr (.inr (w, l1, l4, l5, u, v, f, (Int32.ofNat (k + 1)), Int64.ofInt (((dW A i : Nat) + s * (dW B i : Nat) + cr) / 1073741824), (Int32.ofNat (i + 1)), mg (4562 + zn J) (up I' (w + 1) i (Int32.ofNat ((((dW A i : Nat) + s * (dW B i : Nat) + cr) % 1073741824).toNat))) J R))) := by
      unfold f_X10_sum_j148 xlet
      have hsb : s * (dW B i : Nat) ≤ 1073741824 ∧ -1073741824 ≤ s * (dW B i : Nat) := by
        rcases hs with ⟨h1, -⟩ | ⟨h1, -⟩
        · rw [h1]; omega
        · rw [h1]; omega
      rw [f64, z_nat, z_nat, z_mul, z_add, z_add]
      generalize s * ((dW B i : Nat) : Int) = y at hsb
      simp (disch := omega) only [↓reduceIte, ↓q_let, ↓q_xz1, ↓q_xz0, ↓lg_cmp_ge, ↓lg_cmp_le, ↓lg_cmp_gt, ↓lg_cmp_lt, n_lit, j_lit, n_add, n_mul, n_sub, n_dec, Nat.add_sub_cancel, n_leT, n_leF, n_ltT, n_ltF, n_eqT, n_eqF, n_in, n_cl, n_m31, j_m63, j_of32, j_32, i64_add, i64_mul, jn_sub, j_leT, j_leF, j_ltT, j_ltF, j_eqF, jn_and30, jn_sar30, jn_shor, Int32.neg_neg, and_true, true_and, and_self, ↓bW_gR hw hR, z_and30, ↓bW_wI hw, z_sar30]
    have fin : QK (some (Sum.inr (Sum.inr (w, l1, l4, l5, u, v, f, (Int32.ofNat (k + 1)), Int64.ofInt (((dW A i : Nat) + s * (dW B i : Nat) + cr) / 1073741824), (Int32.ofNat (i + 1)), mg (4562 + zn J) (up I' (w + 1) i (Int32.ofNat ((((dW A i : Nat) + s * (dW B i : Nat) + cr) % 1073741824).toNat))) J R)) : xM ⊕ ((Nat × Nat × Int32 × Int32 × Int32 × xM) ⊕ (Nat × Nat × Int32 × Int32 × Nat × Nat × Int32 × Int32 × Int64 × Int32 × xM)))) (qS (fun st => ∃ I' n, ∃ cr : Int, st = (w, l1, l4, l5, u, v, f, (Int32.ofNat (k + 1)), Int64.ofInt cr, (Int32.ofNat (i + 1)), mg (4562 + zn J) I' J R) ∧ FrS (fun x => x = w + 1) I I' ∧ Dg I' (w + 1) (i + 1) n ∧ (n : Int) + cr * Bw (i + 1) = (A % Bw (i + 1) : Nat) + s * (B % Bw (i + 1) : Nat) ∧ -1 ≤ cr ∧ cr ≤ 1) (fun r => ∃ I' n, r = .inr (w, l1, l4, l5, (Int32.ofNat (k + 1)), mg (4562 + zn J) I' J R) ∧ FrS (fun x => x = w + 1) I I' ∧ Dg I' (w + 1) (k + 1) n ∧ (n : Int) = A + s * B)) := by
      obtain ⟨x, hx, hx2, hx3⟩ := emod_nat (z := (dW A i : Nat) + s * (dW B i : Nat) + cr)
      rw [hx2]
      refine q_go ⟨_, n + x * Bw i, _, rfl, FrS_up hF rfl, Dg_w hD hx, ?_, ?_, ?_⟩
      · rw [modW_sZ, modW_sZ, Bw_s]
        have e1 : ((dW A i : Nat) + s * (dW B i : Nat) + cr) = 1073741824 * (((dW A i : Nat) + s * (dW B i : Nat) + cr) / 1073741824) + x := by
          rw [hx3]
          exact (Int.mul_ediv_add_emod _ _).symm
        generalize (((dW A i : Nat) + s * (dW B i : Nat) + cr) / 1073741824 : Int) = q at e1 ⊢
        simp only [Int.natCast_add, Int.natCast_mul]
        rw [show ((1073741824 : Nat) : Int) = 1073741824 from rfl]
        grind
      · rcases hs with ⟨h1, -⟩ | ⟨h1, -⟩
        · rw [h1]; omega
        · rw [h1]; omega
      · rcases hs with ⟨h1, -⟩ | ⟨h1, -⟩
        · rw [h1]; omega
        · rw [h1]; omega
    have a2 : i < k → I' (u + 1) i = (Int32.ofNat (dW A i)) := fun z => by
      rw [hF (u + 1) (by omega)]
      exact hA.2.2.2.1.2 i z
    have b2 : i < k' → I' (v + 1) i = (Int32.ofNat (dW B i)) := fun z => by
      rw [hF (v + 1) (by omega)]
      exact hB.2.2.2.1.2 i z
    have us : I' u 1 = (Int32.ofNat (k)) := by
      rw [hF u (by omega)]
      exact hA.2.1
    have vs : I' v 1 = (Int32.ofNat (k')) := by
      rw [hF v (by omega)]
      exact hB.2.1
    have b0 : k' ≤ i → dW B i = 0 := dW_big (Wh_lt hB)
    have a0 : k ≤ i → dW A i = 0 := dW_big (Wh_lt hA)
    have j123 : f_X10_sum_j123 (mg (4562 + zn J) I' J R) w l1 l4 l5 u v f (Int32.ofNat (k + 1)) (Int64.ofInt cr) (Int32.ofNat (i)) (Int64.ofNat (dW A i)) = some (.inr (.inr (w, l1, l4, l5, u, v, f, (Int32.ofNat (k + 1)), Int64.ofInt (((dW A i : Nat) + s * (dW B i : Nat) + cr) / 1073741824), (Int32.ofNat (i + 1)), mg (4562 + zn J) (up I' (w + 1) i (Int32.ofNat ((((dW A i : Nat) + s * (dW B i : Nat) + cr) % 1073741824).toNat))) J R))) := by
      unfold f_X10_sum_j123
      by_cases q : k' ≤ i
      · rw [← j148, b0 q]
        simp (disch := omega) only [↓reduceIte, ↓q_let, ↓q_xz1, ↓q_xz0, ↓lg_cmp_ge, ↓lg_cmp_le, ↓lg_cmp_gt, ↓lg_cmp_lt, n_lit, j_lit, n_add, n_mul, n_sub, n_dec, Nat.add_sub_cancel, n_leT, n_leF, n_ltT, n_ltF, n_eqT, n_eqF, n_in, n_cl, n_m31, j_m63, j_of32, j_32, i64_add, i64_mul, jn_sub, j_leT, j_leF, j_ltT, j_ltF, j_eqF, jn_and30, jn_sar30, jn_shor, Int32.neg_neg, and_true, true_and, and_self, ↓bW_gI hv', vs]
      · rw [← j148]
        simp (disch := omega) only [↓reduceIte, ↓q_let, ↓q_xz1, ↓q_xz0, ↓lg_cmp_ge, ↓lg_cmp_le, ↓lg_cmp_gt, ↓lg_cmp_lt, n_lit, j_lit, n_add, n_mul, n_sub, n_dec, Nat.add_sub_cancel, n_leT, n_leF, n_ltT, n_ltF, n_eqT, n_eqF, n_in, n_cl, n_m31, j_m63, j_of32, j_32, i64_add, i64_mul, jn_sub, j_leT, j_leF, j_ltT, j_ltF, j_eqF, jn_and30, jn_sar30, jn_shor, Int32.neg_neg, and_true, true_and, and_self, ↓bW_gI hv', vs, ↓bW_gR hv' hR, ↓bW_aI hv', b2]
    rw [← j123] at fin
    unfold f_X10_sum_s93 xlet
    dsimp only
    by_cases q : k ≤ i
    · rw [a0 q] at fin
      simp (disch := omega) only [↓reduceIte, ↓q_let, ↓q_xz1, ↓q_xz0, ↓lg_cmp_ge, ↓lg_cmp_le, ↓lg_cmp_gt, ↓lg_cmp_lt, n_lit, j_lit, n_add, n_mul, n_sub, n_dec, Nat.add_sub_cancel, n_leT, n_leF, n_ltT, n_ltF, n_eqT, n_eqF, n_in, n_cl, n_m31, j_m63, j_of32, j_32, i64_add, i64_mul, jn_sub, j_leT, j_leF, j_ltT, j_ltF, j_eqF, jn_and30, jn_sar30, jn_shor, Int32.neg_neg, and_true, true_and, and_self, ↓bW_gI hu', us]
      exact fin
    · simp (disch := omega) only [↓reduceIte, ↓q_let, ↓q_xz1, ↓q_xz0, ↓lg_cmp_ge, ↓lg_cmp_le, ↓lg_cmp_gt, ↓lg_cmp_lt, n_lit, j_lit, n_add, n_mul, n_sub, n_dec, Nat.add_sub_cancel, n_leT, n_leF, n_ltT, n_ltF, n_eqT, n_eqF, n_in, n_cl, n_m31, j_m63, j_of32, j_32, i64_add, i64_mul, jn_sub, j_leT, j_leF, j_ltT, j_ltF, j_eqF, jn_and30, jn_sar30, jn_shor, Int32.neg_neg, and_true, true_and, and_self, ↓bW_gI hu', us, ↓bW_gR hu' hR, ↓bW_aI hu', a2]
      exact fin
  · rintro st ⟨I', n, cr, rfl, hF, hD, he1, hc1, hc2⟩
    unfold f_X10_sum_s93 xlet
    dsimp only
    simp (disch := omega) only [↓reduceIte, ↓q_let, ↓q_xz1, ↓q_xz0, ↓lg_cmp_ge, ↓lg_cmp_le, ↓lg_cmp_gt, ↓lg_cmp_lt, n_lit, j_lit, n_add, n_mul, n_sub, n_dec, Nat.add_sub_cancel, n_leT, n_leF, n_ltT, n_ltF, n_eqT, n_eqF, n_in, n_cl, n_m31, j_m63, j_of32, j_32, i64_add, i64_mul, jn_sub, j_leT, j_leF, j_ltT, j_ltF, j_eqF, jn_and30, jn_sar30, jn_shor, Int32.neg_neg, and_true, true_and, and_self]
    refine q_ex ⟨I', n, rfl, hF, hD, ?_⟩
    have lA : A < Bw k := Wh_lt hA
    have lk : 2 * Bw k ≤ Bw (k + 1) := by rw [Bw_s]; have := Bw_pos k; omega
    rw [Nat.mod_eq_of_lt (show A < Bw (k + 1) by omega), Nat.mod_eq_of_lt (show B < Bw (k + 1) by omega)] at he1
    have hn := hD.1
    have hsb : 0 ≤ (A : Int) + s * B ∧ (A : Int) + s * B < Bw (k + 1) := by
      rcases hs with ⟨h1, -⟩ | ⟨h1, -⟩
      · rw [h1]; omega
      · rw [h1]; omega
    generalize (A : Int) + s * B = X at he1 hsb ⊢
    rcases (by omega : cr = -1 ∨ cr = 0 ∨ cr = 1) with rfl | rfl | rfl <;> omega
end WD
