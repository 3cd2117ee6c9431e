/-! what else the class side needs -/
section EM4
variable {I : Nat → Nat → Int32} {J : Nat → Nat → Int64} {R : Nat → Nat → Option Nat} {β : Type} {s : GS}
theorem dFr3 : ∀ t, t < 9 → (KK (4416 + 15 * t) = (2, 0) ∧ RR (4416 + 15 * t) 0 = some (4416 + 15 * t + 1) ∧ RR (4416 + 15 * t) 1 = some (4416 + 15 * t + 3) ∧ KK (4416 + 15 * t + 1) = (10, 0) ∧ RR (4416 + 15 * t + 1) 0 = some (4416 + 15 * t + 1 + 1) ∧ KK (4416 + 15 * t + 1 + 1) = (14, 7) ∧ KK (4416 + 15 * t + 3) = (10, 0) ∧ RR (4416 + 15 * t + 3) 0 = some (4416 + 15 * t + 3 + 1) ∧ KK (4416 + 15 * t + 3 + 1) = (14, 7)) ∧ RR 2230 t = some (4416 + 15 * t) := by decide +kernel
theorem isF_4416 {t : Nat} (h : t < 9) : isF (4416 + 15 * t) 7 := isF_of (by omega) (dFr3 t h).1
theorem Wz_z {I : Nat → Nat → Int32} {w : Nat} (hw : isW w 7) (h1 : I w 1 = 0) (h2 : I w 2 = 0) : Wz I w 7 0 := ⟨⟨0, hw, h1, by decide, ⟨by decide, fun j hj => absurd hj (Nat.not_lt_zero _)⟩, Or.inl rfl⟩, h2⟩
theorem Wz_e {I : Nat → Nat → Int32} {w : Nat} (hw : isW w 7) (h1 : I w 1 = 1) (h2 : I w 2 = 0) (h3 : I (w + 1) 0 = 1) : Wz I w 7 1 := ⟨⟨1, hw, h1, by decide, ⟨by decide, fun j hj => by
  rw [show j = 0 by omega, show dW (1 : Int).natAbs 0 = 1 by decide]
  exact h3⟩, Or.inr (by first | decide | omega)⟩, h2⟩
theorem CV_01 {I : Nat → Nat → Int32} {f : Nat} (hf : isF f 7) (h1 : I (f + 1) 1 = 0) (h2 : I (f + 1) 2 = 0) (h3 : I (f + 3) 1 = 1) (h4 : I (f + 3) 2 = 0) (h5 : I (f + 4) 0 = 1) : CV I f (0, 1) := ⟨hf, Wz_z hf.2.2.2.2.2.1 h1 h2, Wz_e hf.2.2.2.2.2.2 h3 h4 h5⟩
def tbOf (I : Nat → Nat → Int32) : GB := fun z => (I 13 z, I 14 z, I 15 z)
theorem tb_v (I : Nat → Nat → Int32) (z : Nat) : tbOf I z = (I 13 z, I 14 z, I 15 z) := rfl
theorem tb_T {I : Nat → Nat → Int32} (h1 : ∀ p fx, p < 16 → fx < 3 → I 13 (fx * 16 + p) = 0 ∨ OpOK fx (I 13 (fx * 16 + p)) (I 14 (fx * 16 + p)) (I 15 (fx * 16 + p))) (h2 : ∀ p, p < 16 → I 13 (16 + p) = 0 ∨ I 13 (32 + p) = 0) (h3 : ∀ p q, p < 16 → q < 16 → I 13 (32 + p) ≠ 0 → I 13 (32 + p) = I 13 (32 + q) → I 14 (32 + p) = I 14 (32 + q)) : TbOK (tbOf I) := ⟨h1, h2, h3⟩
def bOK (fx : Nat) (rk sd mn : Int32) : Bool := rk == 0 || ((decide ((1 : Int32) ≤ rk) && decide (rk ≤ 9)) && ((decide ((0 : Int32) ≤ sd) && decide (sd ≤ (if fx = 2 then 2 else 0))) && ((decide ((100 : Int32) ≤ mn ∧ mn ≤ 125 ∧ mn ≠ 108 ∧ mn ≠ 118)) || (decide (fx = 2 ∧ (0 : Int32) ≤ mn ∧ mn ≤ 10) || decide (fx ≠ 2 ∧ (11 : Int32) ≤ mn ∧ mn ≤ 13)))))
theorem bOK_of {fx : Nat} {rk sd mn : Int32} (h : bOK fx rk sd mn = true) : rk = 0 ∨ OpOK fx rk sd mn := by
  unfold bOK at h
  rw [Bool.or_eq_true, beq_iff_eq, Bool.and_eq_true, Bool.and_eq_true, Bool.and_eq_true, Bool.and_eq_true, Bool.or_eq_true, Bool.or_eq_true, decide_eq_true_iff, decide_eq_true_iff, decide_eq_true_iff, decide_eq_true_iff, decide_eq_true_iff, decide_eq_true_iff, decide_eq_true_iff] at h
  rcases h with h | ⟨h1, h2, h3⟩
  · exact Or.inl h
  · refine Or.inr ⟨h1, h2, ?_⟩
    unfold MeanOK Mf
    by_cases z : (100 : Int32) ≤ mn ∧ mn ≤ 125 ∧ mn ≠ 108 ∧ mn ≠ 118
    · exact Or.inl z
    · exact Or.inr ⟨z, h3.resolve_left z⟩
end EM4
