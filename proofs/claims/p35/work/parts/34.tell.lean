/-! telling an operator -/
def Mf (fx : Nat) (mn : Int32) : Prop := (fx = 2 ∧ (0 : Int32) ≤ mn ∧ mn ≤ 10) ∨ (fx ≠ 2 ∧ (11 : Int32) ≤ mn ∧ mn ≤ 13)
def MeanOK (fx : Nat) (mn : Int32) : Prop := ((100 : Int32) ≤ mn ∧ mn ≤ 125 ∧ mn ≠ 108 ∧ mn ≠ 118) ∨ (¬ ((100 : Int32) ≤ mn ∧ mn ≤ 125 ∧ mn ≠ 108 ∧ mn ≠ 118) ∧ Mf fx mn)
theorem mean_letter {mn : Int32} : (¬ (mn - 100 < 0) ∧ ¬ ((26 : Int32) ≤ mn - 100)) ↔ ((100 : Int32) ≤ mn ∧ mn ≤ 125) := by
  have a0 : (0 : Int32).toInt = 0 := by decide
  have a1 : (26 : Int32).toInt = 26 := by decide
  have a2 : (100 : Int32).toInt = 100 := by decide
  have a3 : (125 : Int32).toInt = 125 := by decide
  have b1 := Int32.toInt_lt mn
  have b2 := Int32.le_toInt mn
  rw [Int32.lt_iff_toInt_lt, Int32.le_iff_toInt_le, Int32.le_iff_toInt_le, Int32.le_iff_toInt_le, Int32.toInt_sub, a0, a1, a2, a3, Int.bmod_def]
  split <;> omega
theorem sub_eq {mn a b c : Int32} (h : a + b = c) : mn - b = a ↔ mn = c := by
  constructor
  · intro q
    rw [← h, ← q, Int32.sub_add_cancel]
  · intro q
    rw [q, ← h, Int32.add_sub_cancel]
section EU
variable {I : Nat → Nat → Int32} {J : Nat → Nat → Int64} {R : Nat → Nat → Option Nat} {σ : xM}
theorem c_mean2 {fx : Nat} {mn : Int32} (hf : fx ≤ 2) : (Mf fx mn → f_X1_isOperator_j69 σ (Int32.ofNat fx) mn = some 1) ∧ (¬ Mf fx mn → f_X1_isOperator_j69 σ (Int32.ofNat fx) mn = some 0) := by
  unfold f_X1_isOperator_j69 Mf
  by_cases h2 : fx = 2
  · subst h2
    rw [if_pos (show Int32.ofNat 2 = 2 from rfl)]
    by_cases h3 : mn < 0
    · rw [if_pos h3]
      exact ⟨fun q => q.elim (fun q => absurd h3 (Int32.not_lt.mpr q.2.1)) (fun q => absurd rfl q.1), fun _ => rfl⟩
    · rw [if_neg h3]
      by_cases h4 : (10 : Int32) < mn
      · rw [if_pos h4]
        exact ⟨fun q => q.elim (fun q => absurd h4 (Int32.not_lt.mpr q.2.2)) (fun q => absurd rfl q.1), fun _ => rfl⟩
      · rw [if_neg h4]
        exact ⟨fun _ => rfl, fun q => absurd (Or.inl ⟨rfl, Int32.not_lt.mp h3, Int32.not_lt.mp h4⟩) q⟩
  · rw [if_neg (show ¬ (Int32.ofNat fx = 2) from i32_neq (m := 2) (by omega) (by omega) h2)]
    by_cases h3 : mn < 11
    · rw [if_pos h3]
      exact ⟨fun q => q.elim (fun q => absurd q.1 h2) (fun q => absurd h3 (Int32.not_lt.mpr q.2.1)), fun _ => rfl⟩
    · rw [if_neg h3]
      by_cases h4 : (13 : Int32) < mn
      · rw [if_pos h4]
        exact ⟨fun q => q.elim (fun q => absurd q.1 h2) (fun q => absurd h4 (Int32.not_lt.mpr q.2.2)), fun _ => rfl⟩
      · rw [if_neg h4]
        exact ⟨fun _ => rfl, fun q => absurd (Or.inr ⟨h2, Int32.not_lt.mp h3, Int32.not_lt.mp h4⟩) q⟩
def OpOK (fx : Nat) (rk sd mn : Int32) : Prop := ((1 : Int32) ≤ rk ∧ rk ≤ 9) ∧ ((0 : Int32) ≤ sd ∧ sd ≤ (if fx = 2 then 2 else 0)) ∧ MeanOK fx mn
theorem c_isOp {fx : Nat} {rk sd mn : Int32} (hf : fx ≤ 2) : (OpOK fx rk sd mn → f_X1_isOperator σ (Int32.ofNat fx) rk sd mn = some 1) ∧ (¬ OpOK fx rk sd mn → f_X1_isOperator σ (Int32.ofNat fx) rk sd mn = some 0) := by
  have j31 : (MeanOK fx mn → f_X1_isOperator_j31 σ (Int32.ofNat fx) mn = some 1) ∧ (¬ MeanOK fx mn → f_X1_isOperator_j31 σ (Int32.ofNat fx) mn = some 0) := by
    have e69 : ∀ (h : ¬ ((100 : Int32) ≤ mn ∧ mn ≤ 125)), (MeanOK fx mn → f_X1_isOperator_j69 σ (Int32.ofNat fx) mn = some 1) ∧ (¬ MeanOK fx mn → f_X1_isOperator_j69 σ (Int32.ofNat fx) mn = some 0) := fun h => by
      unfold MeanOK
      exact ⟨fun q => (c_mean2 hf).1 (q.elim (fun z => absurd ⟨z.1, z.2.1⟩ h) (fun z => z.2)), fun q => (c_mean2 hf).2 (fun z => q (Or.inr ⟨fun y => h ⟨y.1, y.2.1⟩, z⟩))⟩
    unfold f_X1_isOperator_j31 xlet
    dsimp only
    by_cases h1 : mn - 100 < 0
    · rw [if_pos h1]
      exact e69 (fun q => (mean_letter.mpr q).1 h1)
    · rw [if_neg h1]
      by_cases h2 : (26 : Int32) ≤ mn - 100
      · rw [if_pos h2]
        exact e69 (fun q => (mean_letter.mpr q).2 h2)
      · rw [if_neg h2]
        have hm := mean_letter.mp ⟨h1, h2⟩
        have nofix : ∀ c : Int32, mn = c → (c = 108 ∨ c = 118) → ¬ MeanOK fx mn := fun c hc h => by
          unfold MeanOK
          intro q
          rcases q with q | ⟨-, q⟩
          · rcases h with rfl | rfl
            · exact q.2.2.1 hc
            · exact q.2.2.2 hc
          · unfold Mf at q
            rcases q with ⟨-, -, q⟩ | ⟨-, -, q⟩ <;> rcases h with rfl | rfl <;> rw [hc] at q <;> exact absurd q (by first | decide | omega)
        by_cases h3 : mn - 100 = 8
        · have e := (sub_eq (mn := mn) (show (8 : Int32) + 100 = 108 by decide)).mp h3
          rw [if_pos h3]
          exact ⟨fun q => absurd q (nofix 108 e (Or.inl rfl)), fun _ => rfl⟩
        · rw [if_neg h3]
          by_cases h4 : mn - 100 = 18
          · have e := (sub_eq (mn := mn) (show (18 : Int32) + 100 = 118 by decide)).mp h4
            rw [if_pos h4]
            exact ⟨fun q => absurd q (nofix 118 e (Or.inr rfl)), fun _ => rfl⟩
          · rw [if_neg h4]
            exact ⟨fun _ => rfl, fun q => absurd (Or.inl ⟨hm.1, hm.2, fun e => h3 ((sub_eq (show (8 : Int32) + 100 = 108 by decide)).mpr e), fun e => h4 ((sub_eq (show (18 : Int32) + 100 = 118 by decide)).mpr e)⟩) q⟩
  unfold f_X1_isOperator f_X1_isOperator_j29
  by_cases h1 : rk < 1
  · rw [if_pos h1]
    exact ⟨fun q => absurd h1 (Int32.not_lt.mpr q.1.1), fun _ => rfl⟩
  · rw [if_neg h1]
    by_cases h2 : (9 : Int32) < rk
    · rw [if_pos h2]
      exact ⟨fun q => absurd h2 (Int32.not_lt.mpr q.1.2), fun _ => rfl⟩
    · rw [if_neg h2]
      by_cases h3 : sd < 0
      · rw [if_pos h3]
        exact ⟨fun q => absurd h3 (Int32.not_lt.mpr q.2.1.1), fun _ => rfl⟩
      · rw [if_neg h3]
        have c20 : (if fx = 2 then (2 : Int32) else 0) ≤ 2 := by split <;> decide
        by_cases h4 : (2 : Int32) < sd
        · rw [if_pos h4]
          exact ⟨fun q => absurd h4 (Int32.not_lt.mpr (Int32.le_trans q.2.1.2 c20)), fun _ => rfl⟩
        · rw [if_neg h4]
          by_cases h5 : fx = 2
          · subst h5
            rw [if_pos (show Int32.ofNat 2 = 2 from rfl)]
            exact ⟨fun q => j31.1 q.2.2, fun q => j31.2 (fun z => q ⟨⟨Int32.not_lt.mp h1, Int32.not_lt.mp h2⟩, ⟨Int32.not_lt.mp h3, Int32.not_lt.mp h4⟩, z⟩)⟩
          · rw [if_neg (show ¬ (Int32.ofNat fx = 2) from i32_neq (m := 2) (by omega) (by omega) h5)]
            by_cases h6 : sd = 0
            · rw [if_pos h6]
              exact ⟨fun q => j31.1 q.2.2, fun q => j31.2 (fun z => q ⟨⟨Int32.not_lt.mp h1, Int32.not_lt.mp h2⟩, ⟨Int32.not_lt.mp h3, by rw [if_neg h5, h6]; exact Int32.le_refl _⟩, z⟩)⟩
            · rw [if_neg h6]
              exact ⟨fun q => absurd (by have := q.2.1.2; rw [if_neg h5] at this; exact Int32.le_antisymm this q.2.1.1) h6, fun _ => rfl⟩
end EU
