/-! a digit of a quotient is guessed: the method -/
theorem T_lt {a b s : Nat} (hs : s ≤ 29) (hb : b < 1073741824) : b / 2 ^ (30 - s) < 2 ^ s := by
  refine Nat.div_lt_of_lt_mul ?_
  rw [← Nat.pow_add, show 30 - s + s = 30 by omega]
  exact hb
theorem T_pq {s : Nat} (hs : s ≤ 29) : 2 ^ s * 2 ^ (30 - s) = 1073741824 := by
  rw [← Nat.pow_add, show s + (30 - s) = 30 by omega]
theorem T1 {a b s : Nat} (hs : s ≤ 29) (ha : a < 1073741824) (hb : b < 1073741824) : Int64.ofNat a <<< Int64.ofNat s ||| ((Int32.ofNat (b)) >>> (Int32.ofNat (30 - s))).toInt64 = Int64.ofNat (2 ^ s * a + b / 2 ^ (30 - s)) := by
  have hq : b / 2 ^ (30 - s) ≤ b := Nat.div_le_self _ _
  rw [n_sar (by omega) (by omega), j_of32 (by omega), jn_shl (by omega), j_or (T_lt (a := a) hs hb)]
theorem T2 {a b s : Nat} (hs : s ≤ 29) (ha : a < 1073741824) (hb : b < 1073741824) : (Int64.ofNat a <<< Int64.ofNat s &&& Int64.ofNat 1073741823) ||| ((Int32.ofNat (b)) >>> (Int32.ofNat (30 - s))).toInt64 = Int64.ofNat ((2 ^ s * a) % 1073741824 + b / 2 ^ (30 - s)) := by
  have hq : b / 2 ^ (30 - s) ≤ b := Nat.div_le_self _ _
  have e : (2 ^ s * a) % 1073741824 = 2 ^ s * (a % 2 ^ (30 - s)) := by
    rw [← T_pq hs, Nat.mul_mod_mul_left]
  rw [n_sar (by omega) (by omega), j_of32 (by omega), jn_shl (by omega), jn_and30, e, j_or (T_lt (a := a) hs hb)]
theorem T_z {s : Nat} (hs : s ≤ 29) : (Int32.ofNat (0)) = (Int32.ofNat (0)) >>> (Int32.ofNat (30 - s)) := by
  rw [n_sar (by omega) (by omega), Nat.zero_div]
theorem T2_lt {a b s : Nat} (hs : s ≤ 29) (hb : b < 1073741824) : (2 ^ s * a) % 1073741824 + b / 2 ^ (30 - s) < 1073741824 := by
  have e : (2 ^ s * a) % 1073741824 = 2 ^ s * (a % 2 ^ (30 - s)) := by
    rw [← T_pq hs, Nat.mul_mod_mul_left]
  have h1 := T_lt (a := a) hs hb
  have h2 : a % 2 ^ (30 - s) + 1 ≤ 2 ^ (30 - s) := Nat.mod_lt _ (Nat.two_pow_pos _)
  have h3 := Nat.mul_le_mul_left (2 ^ s) h2
  rw [T_pq hs, Nat.mul_add] at h3
  omega
theorem T_div {a s : Nat} (hs : s ≤ 29) : 2 ^ s * a = a / 2 ^ (30 - s) * 1073741824 + (2 ^ s * a) % 1073741824 := by
  have h : (2 ^ s * a) / 1073741824 = a / 2 ^ (30 - s) := by
    rw [← T_pq hs, Nat.mul_div_mul_left _ _ (Nat.two_pow_pos _)]
  rw [← h]
  omega
/-- the limb below, where there is one -/
def lo3 (N m : Nat) : Nat := if m = 0 then 0 else dW N (m - 1)
theorem lo3_lt (N m : Nat) : lo3 N m < 1073741824 := by
  unfold lo3
  split
  · omega
  · exact dW_lt _ _
theorem sc3 {N m s : Nat} (hs : s ≤ 29) (h : N < Bw (m + 3)) : N * 2 ^ s / Bw m = (((2 ^ s * dW N (m + 2) + dW N (m + 1) / 2 ^ (30 - s)) * 1073741824 + ((2 ^ s * dW N (m + 1)) % 1073741824 + dW N m / 2 ^ (30 - s))) * 1073741824 + ((2 ^ s * dW N m) % 1073741824 + lo3 N m / 2 ^ (30 - s))) := by
  have e : N * 2 ^ s / Bw m = N / Bw m * 2 ^ s + lo3 N m / 2 ^ (30 - s) := by
    rcases m with _ | m
    · unfold lo3
      rw [if_pos rfl, Bw_0, Nat.div_one, Nat.div_one, Nat.zero_div, Nat.add_zero]
    · unfold lo3
      rw [if_neg (by omega), Nat.add_sub_cancel]
      exact sc_div (T_pq hs)
  have h1 := dW_split N m
  have h2 := dW_split N (m + 1)
  have h3 := dW_split N (m + 1 + 1)
  have h4 : N / Bw (m + 1 + 1 + 1) = 0 := Nat.div_eq_of_lt h
  rw [h4, Nat.zero_mul, Nat.zero_add] at h3
  rw [h3] at h2
  rw [h2] at h1
  have t1 := T_div (a := dW N (m + 1)) hs
  have t2 := T_div (a := dW N m) hs
  rw [e, h1]
  show ((dW N (m + 2) * 1073741824 + dW N (m + 1)) * 1073741824 + dW N m) * 2 ^ s + lo3 N m / 2 ^ (30 - s) = _
  generalize (2 ^ s * dW N m) % 1073741824 = r0 at *
  generalize (2 ^ s * dW N (m + 1)) % 1073741824 = r1 at *
  generalize dW N m / 2 ^ (30 - s) = q0 at *
  generalize dW N (m + 1) / 2 ^ (30 - s) = q1 at *
  have t3 : ((dW N (m + 2) * 1073741824 + dW N (m + 1)) * 1073741824 + dW N m) * 2 ^ s = 2 ^ s * dW N (m + 2) * 1152921504606846976 + 2 ^ s * dW N (m + 1) * 1073741824 + 2 ^ s * dW N m := by
    generalize 2 ^ s = p
    grind
  rw [t3, t1, t2]
  generalize 2 ^ s * dW N (m + 2) = z
  omega
theorem pair_lt {F S L p : Nat} (hF : F < 1073741824) (hS : S < 1073741824) (h : p * 1073741824 + L < (F * 1073741824 + S + 1) * 1073741824) : p < 1152921504606846976 := by
  have h1 : p * 1073741824 < (F * 1073741824 + S + 1) * 1073741824 := Nat.lt_of_le_of_lt (Nat.le_add_right _ _) h
  have h2 : p < F * 1073741824 + S + 1 := Nat.lt_of_mul_lt_mul_right h1
  have h3 : (F + 1) * 1073741824 ≤ 1073741824 * 1073741824 := Nat.mul_le_mul_right _ hF
  rw [Nat.add_mul, Nat.one_mul] at h3
  refine Nat.lt_of_lt_of_le h2 (Nat.le_trans ?_ h3)
  omega
section WI
variable {I : Nat → Nat → Int32} {J : Nat → Nat → Int64} {R : Nat → Nat → Option Nat} {w c u d v e : Nat}
theorem W_guessTop {F S U1 U2 L pair : Nat} {X Y M : Nat} {σ : xM} (hF : 536870912 ≤ F) (hF2 : F < 1073741824) (hS : S < 1073741824) (hU2 : U2 < 1073741824) (hL : L < 1073741824) (hM : 0 < M) (eY : Y / M = F * 1073741824 + S) (hpe : U1 * 1073741824 + U2 = pair) (eX : X / M = pair * 1073741824 + L) (hXY : X < Y * 1073741824) :
    ∃ d, (xlet ((Int64.ofNat U1 <<< (((30 : Int32)).toInt64 &&& 63)) ||| Int64.ofNat U2) (fun v28 => (if Int64.ofNat F = 0 then none else (if (0 : Int32) ≤ (lg_cmp (v28 / Int64.ofNat F) (1073741823 : Int64)) then f_X10_guess_j286 σ (Int64.ofNat F) (Int64.ofNat S) (Int64.ofNat L) v28 (1073741823 : Int64) else (if Int64.ofNat F = 0 then none else f_X10_guess_j286 σ (Int64.ofNat F) (Int64.ofNat S) (Int64.ofNat L) v28 (v28 / Int64.ofNat F)))))) = some (Int64.ofNat d) ∧ d < 1073741824 ∧ X / Y ≤ d ∧ d ≤ X / Y + 1 := by
  have hp : pair < 1152921504606846976 := by
    have h1 : Y < (Y / M + 1) * M := by
      have h3 := Nat.div_add_mod Y M
      have h4 := Nat.mod_lt Y hM
      rw [Nat.add_mul, Nat.one_mul, Nat.mul_comm (Y / M)]
      omega
    have h2 : X / M < (Y / M + 1) * 1073741824 := by
      refine Nat.div_lt_of_lt_mul (Nat.lt_of_lt_of_le hXY ?_)
      have := Nat.mul_le_mul_right 1073741824 (Nat.le_of_lt h1)
      refine Nat.le_trans this (Nat.le_of_eq ?_)
      grind
    rw [eX, eY] at h2
    exact pair_lt hF2 hS h2
  have main : ∀ d0, d0 * F ≤ pair → d0 < 1073741824 → (d0 = 1073741823 ∨ pair < (d0 + 1) * F) → ∃ d, f_X10_guess_j286 σ (Int64.ofNat F) (Int64.ofNat S) (Int64.ofNat L) (Int64.ofNat pair) (Int64.ofNat d0) = some (Int64.ofNat d) ∧ d < 1073741824 ∧ X / Y ≤ d ∧ d ≤ X / Y + 1 := by
    intro d0 h1 h2 h3
    obtain ⟨r, er, d, rfl, g1, g2, g3⟩ := W_guessLoop (M := σ) (L := L) hF hF2 hS hL h1 h2 (by omega)
    refine ⟨d, ?_, by omega, ?_⟩
    · unfold f_X10_guess_j286 f_X10_guess_j352 xlet
      dsimp only
      rw [er]
      rfl
    · refine knuth hM (by rw [eY]; omega) (by rw [eX, eY]; exact g2) ?_ (by omega)
      rw [eX, eY]
      rcases g3 with rfl | g3
      · rcases h3 with rfl | h3
        · left
          refine Nat.div_lt_of_lt_mul ?_
          exact hXY
        · right
          have a : (pair + 1) * 1073741824 ≤ (d + 1) * F * 1073741824 := Nat.mul_le_mul_right _ h3
          have b : (d + 1) * (F * 1073741824 + S) = (d + 1) * F * 1073741824 + (d + 1) * S := by rw [Nat.mul_add, Nat.mul_assoc]
          rw [b]
          omega
      · exact Or.inr g3
  unfold xlet
  dsimp only
  rw [j_shor hU2, hpe, j_div (by omega) (by omega) (by omega)]
  have hf0 : ¬ (Int64.ofNat F = 0) := by
    rw [j_lit, j_eqF (by omega)]
    exact id
  rw [if_neg hf0, if_neg hf0]
  have dl : pair / F * F ≤ pair := Nat.div_mul_le_self _ _
  have du : pair < (pair / F + 1) * F := by
    have h3 := Nat.div_add_mod pair F
    have h4 := Nat.mod_lt pair (show 0 < F by omega)
    rw [Nat.add_mul, Nat.one_mul, Nat.mul_comm (pair / F)]
    omega
  have hpl : pair / F ≤ pair := Nat.div_le_self _ _
  by_cases q : 1073741823 ≤ pair / F
  · rw [if_pos (show (0 : Int32) ≤ lg_cmp (Int64.ofNat (pair / F)) (1073741823 : Int64) from (lg_cmp_ge _ _).mpr ((j_le (a := 1073741823) (by omega) (by omega)).mpr q))]
    refine main 1073741823 (Nat.le_trans (Nat.mul_le_mul_right _ q) dl) (by omega) (Or.inl rfl)
  · rw [if_neg (show ¬ (0 : Int32) ≤ lg_cmp (Int64.ofNat (pair / F)) (1073741823 : Int64) from fun z => q ((j_le (a := 1073741823) (by omega) (by omega)).mp ((lg_cmp_ge _ _).mp z)))]
    exact main _ dl (by omega) (Or.inr du)
end WI
