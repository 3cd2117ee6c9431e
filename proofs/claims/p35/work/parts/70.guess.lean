/-! a digit of a quotient is guessed -/
/-- what is shifted up a little, cut at a limb's place -/
theorem sc_div {N P Q m : Nat} (hPQ : P * Q = 1073741824) : N * P / Bw (m + 1) = N / Bw (m + 1) * P + dW N m / Q := by
  have hP : 0 < P := Nat.pos_of_ne_zero (fun h => by rw [h, Nat.zero_mul] at hPQ; omega)
  have hQ : 0 < Q := Nat.pos_of_ne_zero (fun h => by rw [h, Nat.mul_zero] at hPQ; omega)
  have h1 := Nat.div_add_mod N (Bw (m + 1))
  have h2 := modW_s N m
  have h3 : N * P = Bw (m + 1) * (N / Bw (m + 1) * P) + (N % Bw m + Bw m * dW N m) * P := by
    rw [← h2]
    generalize N / Bw (m + 1) = q at *
    generalize N % Bw (m + 1) = r at *
    rw [← h1]
    grind
  rw [h3, Nat.mul_add_div (Bw_pos _), Nat.add_right_inj, Bw_s, ← hPQ, show Bw m * (P * Q) = P * (Bw m * Q) by grind, Nat.mul_comm _ P, Nat.mul_div_mul_left _ _ hP, ← Nat.div_div_eq_div_mul, Nat.add_mul_div_left _ _ (Bw_pos m), Nat.div_eq_of_lt (Nat.mod_lt N (Bw_pos m)), Nat.zero_add]
/-- the guess is right, or one too much -/
theorem knuth {X Y M d : Nat} (hM : 0 < M) (hB : 1073741824 ≤ Y / M) (h1 : d * (Y / M) ≤ X / M) (h2 : X / Y < d + 1 ∨ X / M < (d + 1) * (Y / M)) (hd : d < 1073741824) : X / Y ≤ d ∧ d ≤ X / Y + 1 := by
  have hY : 0 < Y := Nat.pos_of_ne_zero (fun h => by rw [h, Nat.zero_div] at hB; omega)
  constructor
  · rcases h2 with h2 | h2
    · omega
    · refine Nat.le_of_lt_succ (Nat.lt_of_not_le (fun q => ?_))
      have a : (d + 1) * Y ≤ X := (Nat.le_div_iff_mul_le hY).mp q
      have b : (d + 1) * (Y / M) ≤ X / M := by
        refine (Nat.le_div_iff_mul_le hM).mpr (Nat.le_trans ?_ a)
        rw [Nat.mul_assoc]
        exact Nat.mul_le_mul_left _ (Nat.div_mul_le_self Y M)
      omega
  · rcases d with _ | d
    · exact Nat.zero_le _
    · refine Nat.succ_le_succ ((Nat.le_div_iff_mul_le hY).mpr ?_)
      have a : (d + 1) * (Y / M) * M ≤ X := Nat.le_trans (Nat.mul_le_mul_right _ h1) (Nat.div_mul_le_self X M)
      have b : Y < (Y / M + 1) * M := by
        have h3 := Nat.div_add_mod Y M
        have h4 := Nat.mod_lt Y hM
        rw [Nat.add_mul, Nat.one_mul, Nat.mul_comm (Y / M)]
        omega
      have c : d * (Y / M + 1) ≤ (d + 1) * (Y / M) := by
        rw [Nat.mul_add, Nat.add_mul]
        omega
      calc d * Y ≤ d * ((Y / M + 1) * M) := Nat.mul_le_mul_left _ (Nat.le_of_lt b)
        _ = d * (Y / M + 1) * M := (Nat.mul_assoc _ _ _).symm
        _ ≤ (d + 1) * (Y / M) * M := Nat.mul_le_mul_right _ c
        _ ≤ X := a
theorem gt_aux {p F z U3 : Nat} (hF : 536870912 ≤ F) (h1 : (p + 2 * F) * 1073741824 ≤ U3) (h2 : z ≤ 1073741824 * 1073741824) : p * 1073741824 + z ≤ U3 := by
  have h3 : (p + 1073741824) * 1073741824 ≤ U3 := Nat.le_trans (Nat.mul_le_mul_right _ (by omega)) h1
  rw [Nat.add_mul] at h3
  exact Nat.le_trans (Nat.add_le_add_left h2 _) h3
theorem guess_two {F S U3 d : Nat} (hF : 536870912 ≤ F) (hS : S < 1073741824) (hd : d * F ≤ U3 / 1073741824) (hd2 : d < 1073741824) : (d - 2) * (F * 1073741824 + S) ≤ U3 := by
  have h1 : d * F * 1073741824 ≤ U3 := Nat.le_trans (Nat.mul_le_mul_right _ hd) (Nat.div_mul_le_self _ _)
  rcases Nat.lt_or_ge d 2 with q | q
  · rw [show d - 2 = 0 by omega, Nat.zero_mul]
    omega
  · obtain ⟨t, rfl⟩ : ∃ t, d = t + 2 := ⟨d - 2, by omega⟩
    rw [Nat.add_sub_cancel]
    have h2 : t * S ≤ 1073741824 * 1073741824 := Nat.mul_le_mul (show t ≤ 1073741824 by omega) (show S ≤ 1073741824 by omega)
    rw [Nat.mul_add, ← Nat.mul_assoc]
    rw [Nat.add_mul] at h1
    exact gt_aux hF h1 h2
section WH
variable {I : Nat → Nat → Int32} {J : Nat → Nat → Int64} {R : Nat → Nat → Option Nat} {w c u d v e : Nat}
theorem W_guessLoop {F S L pair d0 : Nat} {M : xM} (hF : 536870912 ≤ F) (hF2 : F < 1073741824) (hS : S < 1073741824) (hL : L < 1073741824) (hd : d0 * F ≤ pair) (hd2 : d0 < 1073741824) (hp : pair < 1152921504606846976) :
    QK (xloop (f_X10_guess_s301 M) xF (Int64.ofNat F, Int64.ofNat S, Int64.ofNat L, Int64.ofNat d0, Int64.ofNat pair - Int64.ofNat d0 * Int64.ofNat F, (0 : Int32))) (fun r => ∃ d, r = .inr (Int64.ofNat d) ∧ d ≤ d0 ∧ d * (F * 1073741824 + S) ≤ pair * 1073741824 + L ∧ (d = d0 ∨ pair * 1073741824 + L < (d + 1) * (F * 1073741824 + S))) := by
  rw [i64_mul, show Int64.ofNat pair - Int64.ofNat (d0 * F) = Int64.ofNat (pair - d0 * F) from lN_sub hd]
  refine q_loop (fun m s => ∃ t dd rest, s = (Int64.ofNat F, Int64.ofNat S, Int64.ofNat L, Int64.ofNat dd, Int64.ofNat rest, (Int32.ofNat (t))) ∧ t + m = 3 ∧ dd + t = d0 ∧ dd * F + rest = pair ∧ (t = 0 ∨ pair * 1073741824 + L < (dd + 1) * (F * 1073741824 + S))) ?_ (m := 3) ⟨0, d0, _, rfl, rfl, rfl, by omega, Or.inl rfl⟩ (by unfold xF; omega)
  rintro m s ⟨t, dd, rest, rfl, ht, hdt, hr, hi⟩
  unfold f_X10_guess_s301 xlet
  dsimp only
  have hdS : dd * S ≤ 1073741823 * 1073741823 := Nat.mul_le_mul (by omega) (by omega)
  have hFF : dd * F * 1073741824 + rest * 1073741824 = pair * 1073741824 := by rw [← hr, Nat.add_mul]
  have eD : dd * (F * 1073741824 + S) = dd * F * 1073741824 + dd * S := by rw [Nat.mul_add, Nat.mul_assoc]
  have eD1 : (dd + 1) * (F * 1073741824 + S) = dd * F * 1073741824 + dd * S + (F * 1073741824 + S) := by rw [Nat.add_mul, Nat.one_mul, eD]
  have hi' : dd = d0 ∨ pair * 1073741824 + L < (dd + 1) * (F * 1073741824 + S) := by
    rcases hi with z | z
    · left; omega
    · exact Or.inr z
  have ex : dd * (F * 1073741824 + S) ≤ pair * 1073741824 + L → QK (some (Sum.inr (Sum.inl (Int64.ofNat dd))) : Option (Int64 ⊕ (Int64 ⊕ (Int64 × Int64 × Int64 × Int64 × Int64 × Int32)))) (qS (fun s' => ∃ m', m' < m ∧ ∃ t dd rest, s' = (Int64.ofNat F, Int64.ofNat S, Int64.ofNat L, Int64.ofNat dd, Int64.ofNat rest, (Int32.ofNat (t))) ∧ t + m' = 3 ∧ dd + t = d0 ∧ dd * F + rest = pair ∧ (t = 0 ∨ pair * 1073741824 + L < (dd + 1) * (F * 1073741824 + S))) (fun r => ∃ d, r = .inr (Int64.ofNat d) ∧ d ≤ d0 ∧ d * (F * 1073741824 + S) ≤ pair * 1073741824 + L ∧ (d = d0 ∨ pair * 1073741824 + L < (d + 1) * (F * 1073741824 + S)))) := fun h =>
    q_ex ⟨dd, rfl, by omega, h, hi'⟩
  by_cases q3 : 3 ≤ t
  · simp (disch := omega) only [↓reduceIte, ↓q_let, ↓q_xz1, ↓q_xz0, ↓lg_cmp_ge, ↓lg_cmp_le, ↓lg_cmp_gt, ↓lg_cmp_lt, n_lit, j_lit, n_add, n_mul, n_sub, n_dec, Nat.add_sub_cancel, n_leT, n_leF, n_ltT, n_ltF, n_eqT, n_eqF, n_in, n_cl, n_m31, j_m63, j_of32, j_32, i64_add, i64_mul, jn_sub, j_leT, j_leF, j_ltT, j_ltF, j_eqF, jn_and30, jn_sar30, jn_shor, Int32.neg_neg, and_true, true_and, and_self]
    have g := guess_two (F := F) (S := S) (U3 := pair * 1073741824 + L) (d := d0) hF hS (by omega) hd2
    rw [show d0 - 2 = dd + 1 by omega] at g
    rcases hi with z | z
    · omega
    · omega
  · by_cases q4 : 1073741824 ≤ rest
    · simp (disch := omega) only [↓reduceIte, ↓q_let, ↓q_xz1, ↓q_xz0, ↓lg_cmp_ge, ↓lg_cmp_le, ↓lg_cmp_gt, ↓lg_cmp_lt, n_lit, j_lit, n_add, n_mul, n_sub, n_dec, Nat.add_sub_cancel, n_leT, n_leF, n_ltT, n_ltF, n_eqT, n_eqF, n_in, n_cl, n_m31, j_m63, j_of32, j_32, i64_add, i64_mul, jn_sub, j_leT, j_leF, j_ltT, j_ltF, j_eqF, jn_and30, jn_sar30, jn_shor, Int32.neg_neg, and_true, true_and, and_self]
      exact ex (by omega)
    · by_cases q5 : dd * S ≤ rest * 1073741824 + L
      · simp (disch := omega) only [↓reduceIte, ↓lg_cmp_gt, ↓lg_cmp_le, n_lit, n_leF, j_lit, j_ltF, i64_mul]
        rw [show (Int64.ofNat rest <<< ((Int32.ofNat 30).toInt64 &&& Int64.ofNat 63) ||| Int64.ofNat L) = Int64.ofNat (rest * 1073741824 + L) from j_shor hL]
        simp (disch := omega) only [↓reduceIte, j_leT]
        exact ex (by omega)
      · have dp : 0 < dd := Nat.pos_of_ne_zero (fun z => by rw [z, Nat.zero_mul] at q5; omega)
        simp (disch := omega) only [↓reduceIte, ↓q_let, ↓q_xz1, ↓q_xz0, ↓lg_cmp_ge, ↓lg_cmp_le, ↓lg_cmp_gt, ↓lg_cmp_lt, n_lit, j_lit, n_add, n_mul, n_sub, n_dec, Nat.add_sub_cancel, n_leT, n_leF, n_ltT, n_ltF, n_eqT, n_eqF, n_in, n_cl, n_m31, j_m63, j_of32, j_32, i64_add, i64_mul, jn_sub, j_leT, j_leF, j_ltT, j_ltF, j_eqF, jn_and30, jn_sar30, jn_shor, Int32.neg_neg, and_true, true_and, and_self]
        refine q_go ⟨m - 1, by omega, t + 1, dd - 1, rest + F, ?_, by omega, by omega, ?_, Or.inr ?_⟩
        · rfl
        · obtain ⟨y, rfl⟩ : ∃ y, dd = y + 1 := ⟨dd - 1, by omega⟩
          rw [Nat.add_sub_cancel]
          rw [Nat.add_mul] at hr
          omega
        · rw [show dd - 1 + 1 = dd by omega]
          omega
end WH
