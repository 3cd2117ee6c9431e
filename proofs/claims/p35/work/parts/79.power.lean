/-! the class's arithmetic: what remains, powers, factorials -/
theorem b200 {n : Nat} (h : n < 2 ^ 200) : n < Bw 7 := Nat.lt_of_lt_of_le h (by rw [Bw_two]; exact Nat.pow_le_pow_right (by first | decide | omega) (by first | decide | omega))
theorem emod_abs {a b : Int} (hb : b ≠ 0) : a % b = if a < 0 ∧ a.natAbs % b.natAbs ≠ 0 then ((b.natAbs : Nat) : Int) - ((a.natAbs % b.natAbs : Nat) : Int) else ((a.natAbs % b.natAbs : Nat) : Int) := by
  have e : a % b = a % ((b.natAbs : Nat) : Int) := by
    rcases Int.natAbs_eq b with h | h
    · rw [← h]
    · rw [h, Int.emod_neg, Int.natAbs_neg]
      simp
  rw [e, Int.natCast_emod]
  rcases Int.lt_or_le a 0 with h | h
  · have h1 : ((a.natAbs : Nat) : Int) = -a := by omega
    rw [h1]
    have hm : (0 : Int) < ((b.natAbs : Nat) : Int) := by omega
    have h2 := Int.emod_nonneg (-a) (show ((b.natAbs : Nat) : Int) ≠ 0 by omega)
    have h3 := Int.emod_lt_of_pos (-a) hm
    have h4 : ((a.natAbs % b.natAbs : Nat) : Int) = -a % ((b.natAbs : Nat) : Int) := by rw [Int.natCast_emod, h1]
    by_cases q : -a % ((b.natAbs : Nat) : Int) = 0
    · rw [if_neg (by omega), q]
      have := Int.emod_emod_of_dvd
      rw [show a = -(-a) by omega]
      exact Int.emod_eq_zero_of_dvd (Int.dvd_neg.mpr (Int.dvd_of_emod_eq_zero q))
    · rw [if_pos (by omega)]
      have h5 := Int.mul_ediv_add_emod (-a) ((b.natAbs : Nat) : Int)
      have h6 : a = ((b.natAbs : Nat) : Int) - -a % ((b.natAbs : Nat) : Int) + ((b.natAbs : Nat) : Int) * (-(-a / ((b.natAbs : Nat) : Int)) - 1) := by
        generalize -a / ((b.natAbs : Nat) : Int) = k at *
        generalize -a % ((b.natAbs : Nat) : Int) = r at *
        generalize ((b.natAbs : Nat) : Int) = m at *
        grind
      have h7 : a % ((b.natAbs : Nat) : Int) = (((b.natAbs : Nat) : Int) - -a % ((b.natAbs : Nat) : Int)) % ((b.natAbs : Nat) : Int) := by
        rw [congrArg (fun t => t % ((b.natAbs : Nat) : Int)) h6]
        exact Int.add_mul_emod_self_left _ _ _
      rw [h7]
      exact Int.emod_eq_of_lt (by omega) (by omega)
  · rw [if_neg (by omega)]
    rw [show ((a.natAbs : Nat) : Int) = a by omega]
section AP
variable {I : Nat → Nat → Int32} {J : Nat → Nat → Int64} {R : Nat → Nat → Option Nat} {t f g c d p q : Nat}
theorem A_remainder {a a' : Int} (hR : RA R) (ht : isF t 100) (hf : FU I f c a 1) (hg : FU I g d a' 1) (ha : a.natAbs < Bw 7) (ha' : a'.natAbs < Bw 7) (h0 : a' ≠ 0) :
    QK (f_X0_remainder (mg (4562 + zn J) I J R) 1 t f g) (fun r => ∃ I', r = mg (4562 + zn J) I' J R ∧ FrS (Sa t) I I' ∧ FU I' t 100 (a % a') 1) := by
  have t10 := ht.1
  have f10 := hf.1.1
  have g10 := hg.1.1
  have w1 := ht.2.2.2.2.2.1
  have w2 := ht.2.2.2.2.2.2
  have le7 : Bw 7 ≤ Bw 100 := Bw_le (by first | decide | omega)
  unfold f_X0_remainder
  rw [bA_0 hR, bF_g0 hf.1 hR, if_pos (bW_xk isW_2)]
  refine q_bind (W_copy hR isW_2 hf.2.1 (by omega) (by omega)) ?_
  rintro r ⟨I1, rfl, hF1, h1⟩
  rw [bA_0 hR, bF_g0 hg.1 hR, bA_1 hR, if_pos (bW_xk isW_2)]
  have g1 := Wz_fr hg.2.1 hF1 (by unfold Sw; omega) (by unfold Sw; omega)
  refine q_bind (W_divideBy (I := I1) hR isW_2 h1 g1 isW_4 (by omega) (by omega) (by omega) h0) ?_
  rintro r ⟨I2, rfl, hF2, h2, -⟩
  rw [bA_2 hR, bF_g0 hg.1 hR, if_pos (bW_xk isW_6)]
  refine q_bind (W_copy (I := I2) hR isW_6 (Wz_fr g1 hF2 (by omega) (by omega)) (by omega) (by omega)) ?_
  rintro r ⟨I3, rfl, hF3, h3⟩
  rw [bA_2 hR, bW_gI isW_6, h3.2]
  have hF13 : FrS (fun x => 2 ≤ x ∧ x < 10) I I3 := FrS_tr (FrS_mono hF1 (fun x h => by unfold Sw at h; omega)) (FrS_tr (FrS_mono hF2 (fun x h => by omega)) (FrS_mono hF3 (fun x h => by unfold Sw at h; omega)))
  have h2' := Wz_fr h2 hF3 (by unfold Sw; omega) (by unfold Sw; omega)
  have hml : a.natAbs % a'.natAbs < a'.natAbs := Nat.mod_lt _ (by omega)
  have j54 : ∀ {I4 : Nat → Nat → Int32}, FrS (fun x => 2 ≤ x ∧ x < 10) I I4 → Wz I4 2 100 ((a.natAbs % a'.natAbs : Nat) : Int) → Wz I4 6 100 ((a'.natAbs : Nat) : Int) → QK (f_X0_remainder_j54 (mg (4562 + zn J) I4 J R) 1 t f) (fun r => ∃ I', r = mg (4562 + zn J) I' J R ∧ FrS (Sa t) I I' ∧ FU I' t 100 (a % a') 1) := by
    intro I4 hF4 k2 k6
    have j104 : ∀ {I5 : Nat → Nat → Int32} {z : Int}, FrS (fun x => x = t + 1 ∨ x = t + 1 + 1) I4 I5 → Wz I5 (t + 1) 100 z → z = a % a' → QK (f_X0_remainder_j104 (mg (4562 + zn J) I5 J R) t) (fun r => ∃ I', r = mg (4562 + zn J) I' J R ∧ FrS (Sa t) I I' ∧ FU I' t 100 (a % a') 1) := by
      intro I5 z hF5 hz ez
      unfold f_X0_remainder_j104
      rw [bF_g1 ht hR, if_pos (bW_xk w2)]
      refine q_bind (W_set (n := 1) hR w2 (by omega)) ?_
      rintro r ⟨I6, rfl, hF6, h6⟩
      refine q_ok ⟨I6, rfl, FrS_tr (FrS_mono hF4 (fun x h => Or.inl h)) (FrS_tr (FrS_mono hF5 (fun x h => by unfold Sa; omega)) (FrS_mono hF6 (fun x h => by unfold Sw at h; unfold Sa; omega))), ht, ?_, h6⟩
      rw [← ez]
      exact Wz_fr hz hF6 (by unfold Sw; omega) (by unfold Sw; omega)
    have em := emod_abs (a := a) h0
    have j93 : a % a' = ((a.natAbs % a'.natAbs : Nat) : Int) → QK (f_X0_remainder_j93 (mg (4562 + zn J) I4 J R) 1 t) (fun r => ∃ I', r = mg (4562 + zn J) I' J R ∧ FrS (Sa t) I I' ∧ FU I' t 100 (a % a') 1) := by
      intro e
      unfold f_X0_remainder_j93
      rw [bF_g0 ht hR, bA_0 hR, if_pos (bW_xk w1)]
      refine q_bind (W_copy (I := I4) hR w1 k2 (by omega) (by omega)) ?_
      rintro r ⟨I5, rfl, hF5, h5⟩
      exact j104 (FrS_mono hF5 (fun x h => by unfold Sw at h; omega)) h5 e.symm
    unfold f_X0_remainder_j54
    rw [bF_g0 hf.1 hR, bW_gI hf.1.2.2.2.2.2.1, hF4 (f + 1) (by omega), hf.2.1.2]
    by_cases q : a < 0
    · rw [if_neg (fun z => absurd (sgn_eq0.mp z) (by omega)), bA_0 hR, if_pos (bW_xk isW_2), W_isZero k2, Option.bind_some]
      by_cases q2 : a.natAbs % a'.natAbs = 0
      · rw [if_pos (show ((a.natAbs % a'.natAbs : Nat) : Int) = 0 by omega), if_neg (by first | decide | omega)]
        refine j93 ?_
        rw [em, if_neg (by omega)]
      · rw [if_neg (show ¬ ((a.natAbs % a'.natAbs : Nat) : Int) = 0 by omega), if_pos rfl, bF_g0 ht hR, bA_2 hR, bA_0 hR, if_pos (bW_xk w1)]
        refine q_bind (W_sum (I := I4) (p := 7) (s' := -1) hR w1 k6 k2 (by omega) (by omega) (by first | decide | omega) (Or.inr ⟨rfl, rfl⟩) (by omega) (by omega)) ?_
        rintro r ⟨I5, rfl, hF5, h5⟩
        refine j104 (FrS_mono hF5 (fun x h => by unfold Sw at h; omega)) h5 ?_
        rw [em, if_pos ⟨q, q2⟩]
        omega
    · rw [if_pos (sgn_eq0.mpr (by omega))]
      refine j93 ?_
      rw [em, if_neg (by omega)]
  by_cases q : a' < 0
  · rw [if_neg (fun z => absurd (sgn_eq0.mp z) (by omega)), bA_2 hR, if_pos (bW_xk isW_6)]
    refine q_bind (W_flip h3) ?_
    rintro r ⟨I4, rfl, hF4, h4⟩
    refine j54 (FrS_tr hF13 (FrS_mono hF4 (fun x h => by omega))) (Wz_fr h2' hF4 (by omega) (by omega)) ?_
    rw [show ((a'.natAbs : Nat) : Int) = -a' by omega]
    exact h4
  · rw [if_pos (sgn_eq0.mpr (by omega))]
    refine j54 hF13 h2' ?_
    rw [show ((a'.natAbs : Nat) : Int) = a' by omega]
    exact h3
def fct : Nat → Nat
  | 0 => 1
  | n + 1 => (n + 1) * fct n
theorem fct_le : ∀ n, n ≤ 30 → fct n < 2 ^ 200 := by decide +kernel
theorem A_factorial {n : Nat} (hR : RA R) (ht : isF t 100) (hn : n ≤ 30) :
    QK (f_X0_factorial (mg (4562 + zn J) I J R) 1 t (Int32.ofNat (n))) (fun r => ∃ I', r = mg (4562 + zn J) I' J R ∧ FrS (Sa t) I I' ∧ FU I' t 100 (fct n : Nat) 1) := by
  have t10 := ht.1
  have w1 := ht.2.2.2.2.2.1
  have w2 := ht.2.2.2.2.2.2
  unfold f_X0_factorial f_X0_factorial_j53
  rw [if_pos (bF_xk ht)]
  refine q_bind (F_set (n := 1) hR ht (by omega)) ?_
  rintro r ⟨I1, rfl, hF1, h1⟩
  rw [q_let]
  have f1 : fct 1 = 1 := rfl
  refine q_bind (P := fun r => ∃ I', r = .inr (mg (4562 + zn J) I' J R) ∧ FrS (Sa t) I I' ∧ FU I' t 100 (fct n : Nat) 1) ?_ ?_
  · refine q_loop (fun m s => ∃ I' k, s = (1, t, (Int32.ofNat (n)), (Int32.ofNat (k + 1)), mg (4562 + zn J) I' J R) ∧ (k + m = n ∨ n = 0 ∧ k = 1) ∧ 1 ≤ k ∧ FrS (Sa t) I I' ∧ FU I' t 100 (fct k : Nat) 1) ?_ (m := n - 1) ⟨I1, 1, rfl, by omega, by omega, FrS_mono hF1 (fun x h => Or.inr h), by rw [f1]; exact h1⟩ (by unfold xF; omega)
    rintro m s ⟨I', k, rfl, hkm, hk, hF, hU⟩
    unfold f_X0_factorial_s7 xlet
    dsimp only
    by_cases q : n < k + 1
    · rw [if_pos ((i32_lt (by omega) (by omega)).mpr q)]
      refine q_ex ⟨I', rfl, hF, ?_⟩
      rcases (by omega : n = 0 ∧ k = 1 ∨ n = k) with ⟨h1, h2⟩ | h1
      · rw [h1]
        rw [h2] at hU
        exact hU
      · rw [h1]
        exact hU
    · rw [if_neg (fun z => q ((i32_lt (by omega) (by omega)).mp z)), bA_1 hR, if_pos (bW_xk isW_4), j_of32 (by omega)]
      refine q_bind (W_set (n := k + 1) hR isW_4 (by omega)) ?_
      rintro r ⟨I2, rfl, hF2, h2⟩
      rw [bA_0 hR, bF_g0 ht hR, bA_1 hR, if_pos (bW_xk isW_2)]
      have hfb : ((fct k : Nat) : Int).natAbs < Bw 7 := by rw [Int.natAbs_natCast]; exact b200 (fct_le k (by omega))
      refine q_bind (W_multiply (I := I2) (p := 7) (q := 1) hR isW_2 (Wz_fr hU.2.1 hF2 (by unfold Sw; omega) (by unfold Sw; omega)) h2 hfb (by rw [Int.natAbs_natCast, Bw_1]; omega) (by omega) (by omega) (by omega)) ?_
      rintro r ⟨I3, rfl, hF3, h3⟩
      rw [bF_g0 ht hR, bA_0 hR, if_pos (bW_xk w1)]
      have e : ((fct k : Nat) : Int) * ((k + 1 : Nat) : Int) = (fct (k + 1) : Nat) := by
        rw [← Int.natCast_mul]
        congr 1
        exact Nat.mul_comm _ _
      rw [e] at h3
      refine q_bind (W_copy (I := I3) hR w1 h3 (Nat.lt_of_lt_of_le (by rw [Int.natAbs_natCast]; exact b200 (fct_le (k + 1) (by omega))) (Bw_le (show 7 ≤ 100 by decide))) (by omega)) ?_
      rintro r ⟨I4, rfl, hF4, h4⟩
      rw [show (Int32.ofNat (k + 1)) + 1 = (Int32.ofNat (k + 1 + 1)) from n_add (k + 1) 1]
      refine q_go ⟨m - 1, by omega, I4, k + 1, rfl, by omega, by omega, FrS_tr (FrS_tr hF (FrS_mono hF2 (fun x h => by unfold Sw at h; unfold Sa; omega))) (FrS_tr (FrS_mono hF3 (fun x h => by unfold Sw at h; unfold Sa; omega)) (FrS_mono hF4 (fun x h => by unfold Sw at h; unfold Sa; omega))), ht, h4, Wz_fr (Wz_fr (Wz_fr hU.2.2 hF2 (by unfold Sw; omega) (by unfold Sw; omega)) hF3 (by unfold Sw; omega) (by unfold Sw; omega)) hF4 (by unfold Sw; omega) (by unfold Sw; omega)⟩
  · rintro r ⟨I2, rfl, hF2, h2⟩
    simp only [Sum.elim_inr]
    exact q_ok ⟨I2, rfl, hF2, h2⟩
end AP
