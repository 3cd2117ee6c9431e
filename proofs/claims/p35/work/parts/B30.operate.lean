/-! the class's operators -/
theorem dFr4 : ∀ t, t < 240 → (KK (584 + 5 * t) = (2, 0) ∧ RR (584 + 5 * t) 0 = some (584 + 5 * t + 1) ∧ RR (584 + 5 * t) 1 = some (584 + 5 * t + 3) ∧ KK (584 + 5 * t + 1) = (10, 0) ∧ RR (584 + 5 * t + 1) 0 = some (584 + 5 * t + 1 + 1) ∧ KK (584 + 5 * t + 1 + 1) = (14, 7) ∧ KK (584 + 5 * t + 3) = (10, 0) ∧ RR (584 + 5 * t + 3) 0 = some (584 + 5 * t + 3 + 1) ∧ KK (584 + 5 * t + 3 + 1) = (14, 7)) ∧ RR 568 t = some (584 + 5 * t) := by decide +kernel
theorem isF_584 {t : Nat} (h : t < 240) : isF (584 + 5 * t) 7 := isF_of (by omega) (dFr4 t h).1
theorem isF_569 : isF 569 100 := by
  refine ⟨by decide, by decide, by decide +kernel, by decide +kernel, by decide +kernel, ⟨by decide, by decide +kernel, by decide +kernel, by decide +kernel, by decide, by decide⟩, ⟨by decide, by decide +kernel, by decide +kernel, by decide +kernel, by decide, by decide⟩⟩
def Gd (v : GV) : Prop := v.1.natAbs < 2 ^ 200 ∧ 0 < v.2 ∧ v.2 < 2 ^ 200 ∧ Nat.gcd v.1.natAbs v.2 = 1
def Fop (j : Nat) : Nat → Nat → Prop := fun x k => (2 ≤ x ∧ x < 10) ∨ (569 ≤ x ∧ x < 574) ∨ (x = 567 ∧ k = 3) ∨ (584 + 5 * j ≤ x ∧ x < 589 + 5 * j)
def Cop (I : Nat → Nat → Int32) (J : Nat → Nat → Int64) (R : Nat → Nat → Option Nat) (j : Nat) (q : Nat ⊕ GV) (r : Int32 × xM) : Prop := ∃ I', FrK (Fop j) I I' ∧ ((∃ v, q = .inr v ∧ r = (0, mg (4562 + zn J) I' J R) ∧ I' 567 3 = (Int32.ofNat (j + 1)) ∧ FU I' (584 + 5 * j) 7 v.1 v.2) ∨ ∃ f, q = .inl f ∧ 0 < f ∧ f ≤ 10 ∧ r = ((Int32.ofNat (f)), mg (4562 + zn J) I' J R))
section COP
variable {I : Nat → Nat → Int32} {J : Nat → Nat → Int64} {R : Nat → Nat → Option Nat} {β : Type} {j n h : Nat}
theorem C_stk {k : Nat} {F : Nat → Option β} (hR : RA R) (hk : k < 240) : ((aR (mg (4562 + zn J) I J R) 568 16 (Int32.ofNat (k))).bind id).bind F = F (584 + 5 * k) := by
  rw [oaR_568, if_pos (xvi_nat hk (by first | decide | omega)), i32_nat (by omega), hR.get (by first | decide | omega) (show k < kb 568 from hk) (dFr4 k hk).2]
  rfl
theorem FrS_Fop {I' : Nat → Nat → Int32} (h : FrS (Sa 569) I I') : FrK (Fop j) I I' := fun x k y => by
  rw [h x (fun z => by unfold Sa at z; unfold Fop at y; omega)]
theorem C_opTail {I0 : Nat → Nat → Int32} {A B : Int} (hR : RA R) (hF0 : FrK (Fop j) I0 I) (hW : FU I 569 100 A B) (hB : B ≠ 0) (h3 : I 567 3 = (Int32.ofNat (j + n))) (hj : j < 240) (hn : n = 1 ∨ n = 2) : QK (f_X4_operate_j456 (mg (4562 + zn J) I J R) 567 (Int32.ofNat (n)) (584 + 5 * j) 1) (Cop I0 J R j (qfin (A * B.sign) B.natAbs)) := by
  unfold f_X4_operate_j456
  rw [if_neg (by first | decide | omega), gr_567_1 hR, gr_567_5 hR, if_pos (show xk (mg (4562 + zn J) I J R) 1 0 = true from ok_1)]
  refine q_bind (A_settle hR hW hB) ?_
  rintro _ ⟨I1, rfl, hF1, hW1⟩
  have f1 : FrK (Fop j) I0 I1 := FrK_tr hF0 (FrS_Fop hF1)
  have h31 : I1 567 3 = (Int32.ofNat (j + n)) := by
    rw [hF1 567 (fun z => by unfold Sa at z; omega)]
    exact h3
  unfold f_X4_operate_j472
  rw [if_neg (by first | decide | omega), gr_567_5 hR, if_pos (bF_xk hW1.1), F_fits hR hW1, Option.bind_some]
  have e1 : (rz (A * B.sign) B.natAbs).natAbs = (A * B.sign).natAbs / Nat.gcd (A * B.sign).natAbs B.natAbs := by
    unfold rz
    rw [Int.natAbs_mul, Int.natAbs_natCast]
    by_cases z : A * B.sign = 0
    · rw [z]
      show 0 * _ = 0 / _
      rw [Nat.zero_mul, Nat.zero_div]
    · rw [Int.natAbs_sign_of_ne_zero z, Nat.one_mul]
  have e2 : (((rd (A * B.sign) B.natAbs : Nat) : Int)).natAbs = B.natAbs / Nat.gcd (A * B.sign).natAbs B.natAbs := by
    rw [Int.natAbs_natCast]
    rfl
  rw [e1, e2]
  by_cases ft : Fits (A * B.sign) B.natAbs
  · rw [if_pos (show (A * B.sign).natAbs / Nat.gcd (A * B.sign).natAbs B.natAbs < 2 ^ 200 ∧ B.natAbs / Nat.gcd (A * B.sign).natAbs B.natAbs < 2 ^ 200 from ft), if_neg (by first | decide | omega), qfin_r ft, gi_567, h31, show (Int32.ofNat (n)) - (1 : Int32) = (Int32.ofNat (n - 1)) from n_sub (b := 1) (by omega), n_sub (by omega), gs_567, gr_567_5 hR, if_pos (bF_xk (isF_584 hj))]
    have hW2 : FU (up I1 567 3 (Int32.ofNat (j + n - (n - 1)))) 569 100 (rz (A * B.sign) B.natAbs) (rd (A * B.sign) B.natAbs) := FU_keep hW1 (fun x g1 g2 => up_r (by omega))
    refine q_bind (F_copy hR (isF_584 hj) hW2 (b200 (by rw [e1]; exact ft.1)) (b200 (by rw [e2]; exact ft.2)) (by omega)) ?_
    rintro _ ⟨I2, rfl, hF2, hV2⟩
    refine q_ok ⟨I2, ?_, Or.inl ⟨_, rfl, rfl, ?_, hV2⟩⟩
    · intro x k y
      rw [hF2 x (fun z => by unfold Sf at z; unfold Fop at y; omega), up_n (by unfold Fop at y; omega)]
      exact f1 x k y
    · rw [hF2 567 (fun z => by unfold Sf at z; omega), up_s]
      congr 1
      omega
  · rw [if_neg (show ¬ ((A * B.sign).natAbs / Nat.gcd (A * B.sign).natAbs B.natAbs < 2 ^ 200 ∧ B.natAbs / Nat.gcd (A * B.sign).natAbs B.natAbs < 2 ^ 200) from ft), if_pos rfl, qfin_l ft]
    unfold f_X4_operate_j487
    exact q_ok ⟨I1, f1, Or.inr ⟨3, rfl, by decide, by decide, rfl⟩⟩
theorem qfin_cop {z : Int} {D : Nat} (h : Nat.gcd z.natAbs D = 1) (hz : z.natAbs < 2 ^ 200) (hD : D < 2 ^ 200) : qfin z D = .inr (z, D) := by
  obtain ⟨a1, a2, a3⟩ := rz_cop1 h
  rw [qfin_r (a3.mpr ⟨hz, hD⟩), a1, a2]
theorem qfin_1 {m : Nat} (h : m < 2 ^ 200) : qfin ((m : Int) * (1 : Int).sign) (1 : Int).natAbs = .inr ((m : Int), 1) := by
  rw [show (1 : Int).sign = 1 from rfl, Int.mul_one]
  exact qfin_cop (Nat.gcd_one_right _) h (by first | decide | omega)
theorem C_opSet {I0 : Nat → Nat → Int32} {m : Nat} (hR : RA R) (hF0 : FrK (Fop j) I0 I) (hm : m ≤ 1) (h3 : I 567 3 = (Int32.ofNat (j + n))) (hj : j < 240) (hn : n = 1 ∨ n = 2) {F : xM → Option (Int32 × xM)} (hF : ∀ σ, F σ = f_X4_operate_j456 σ 567 (Int32.ofNat (n)) (584 + 5 * j) 1) : QK ((f_X2_set (mg (4562 + zn J) I J R) 569 (Int64.ofNat m)).bind F) (Cop I0 J R j (.inr ((m : Int), 1))) := by
  refine q_bind (F_set hR isF_569 (by omega)) ?_
  rintro _ ⟨I1, rfl, hF1, hV1⟩
  rw [hF, ← qfin_1 (m := m) (Nat.lt_of_le_of_lt hm (by first | decide | omega))]
  refine C_opTail hR (FrK_tr hF0 (fun x k y => by rw [hF1 x (fun z => by unfold Sf at z; unfold Fop at y; omega)])) hV1 (by first | decide | omega) ?_ hj hn
  rw [hF1 567 (fun z => by unfold Sf at z; omega)]
  exact h3
end COP
