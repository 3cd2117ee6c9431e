/-! powers -/
def PowOK (z : Int) (d : Int) (n : Nat) : Prop := z.natAbs ^ n < 2 ^ 200 ∧ d.natAbs ^ n < 2 ^ 200
theorem pow_big {x n k : Nat} (h : ¬ x ^ k < 2 ^ 200) (hk : k ≤ n) : ¬ x ^ n < 2 ^ 200 := by
  have hx : 0 < x := Nat.pos_of_ne_zero (fun z => h (by
    rw [z]
    rcases k with _ | k
    · rw [Nat.pow_zero]; decide
    · rw [Nat.pow_succ, Nat.mul_zero]; decide))
  have := Nat.pow_le_pow_right hx hk
  omega
theorem natAbs_pow' (z : Int) (n : Nat) : (z ^ n).natAbs = z.natAbs ^ n := Int.natAbs_pow z n
section AQ
variable {I : Nat → Nat → Int32} {J : Nat → Nat → Int64} {R : Nat → Nat → Option Nat} {t f g c d p q : Nat}
theorem A_power10 {z b : Int} {n : Nat} {l3 : Int32} (hR : RA R) (ht : isF t 100) (hf : FU I f c z b) (hz : z.natAbs < 2 ^ 200) (hb : b.natAbs < 2 ^ 200) (hn : n ≤ 64) (hne : t ≠ f) (hl : l3 = (Int32.ofNat (n)) ∨ l3 = -(Int32.ofNat (n)) ∧ 1 ≤ n) :
    QK (f_X0_power_j10 (mg (4562 + zn J) I J R) 1 t f l3 (Int32.ofNat (n))) (fun r => (∃ I', r = (1, mg (4562 + zn J) I' J R) ∧ PowOK z b n ∧ FrS (Sa t) I I' ∧ (l3 = (Int32.ofNat (n)) ∧ FU I' t 100 (z ^ n) (b ^ n) ∨ l3 ≠ (Int32.ofNat (n)) ∧ FU I' t 100 (b ^ n) (z ^ n))) ∨ (∃ I', r = (0, mg (4562 + zn J) I' J R) ∧ ¬ PowOK z b n ∧ FrS (Sa t) I I')) := by
  have t10 := ht.1
  have f10 := hf.1.1
  have w1 := ht.2.2.2.2.2.1
  have w2 := ht.2.2.2.2.2.2
  have ne := isF_ne ht hf.1 hne
  unfold f_X0_power_j10 f_X0_power_j86
  rw [if_pos (bF_xk ht)]
  refine q_bind (F_set (n := 1) hR ht (by omega)) ?_
  rintro r ⟨I1, rfl, hF1, h1⟩
  rw [q_let]
  refine q_bind (P := fun r => (∃ I', r = .inr (.inr (1, t, l3, mg (4562 + zn J) I' J R)) ∧ PowOK z b n ∧ FrS (Sa t) I I' ∧ FU I' t 100 (z ^ n) (b ^ n)) ∨ (∃ I', r = .inr (.inl (mg (4562 + zn J) I' J R)) ∧ ¬ PowOK z b n ∧ FrS (Sa t) I I')) ?_ ?_
  · refine q_for n (fun i s => ∃ I', s = (1, t, f, l3, (Int32.ofNat (n)), (Int32.ofNat (i)), mg (4562 + zn J) I' J R) ∧ PowOK z b i ∧ FrS (Sa t) I I' ∧ FU I' t 100 (z ^ i) (b ^ i)) ?_ ?_ (i := 0) ⟨I1, rfl, ⟨by rw [Nat.pow_zero]; decide, by rw [Nat.pow_zero]; decide⟩, FrS_mono hF1 (fun x h => Or.inr h), by rw [Int.pow_zero, Int.pow_zero]; exact h1⟩ (by omega) (by unfold xF; omega)
    · rintro i s hi ⟨I', rfl, hP, hF, hU⟩
      unfold f_X0_power_s20 xlet
      dsimp only
      have hlt : ¬ (Int32.ofNat (n)) ≤ (Int32.ofNat (i)) := fun y => absurd ((i32_le (by omega) (by omega)).mp y) (by omega)
      have g := FU_keep hf (fun x h1 h2 => hF x (by unfold Sa; omega))
      have e1 : (z ^ i).natAbs < Bw 7 := by rw [natAbs_pow']; exact b200 hP.1
      have e2 : (b ^ i).natAbs < Bw 7 := by rw [natAbs_pow']; exact b200 hP.2
      rw [if_neg hlt, bA_0 hR, bF_g0 ht hR, bF_g0 hf.1 hR, if_pos (bW_xk isW_2)]
      refine q_bind (W_multiply (I := I') hR isW_2 hU.2.1 g.2.1 e1 (b200 hz) (by first | decide | omega) (by omega) (by omega)) ?_
      rintro r ⟨I2, rfl, hF2, h2⟩
      rw [bA_1 hR, bF_g1 ht hR, bF_g1 hf.1 hR, if_pos (bW_xk isW_4)]
      refine q_bind (W_multiply (I := I2) hR isW_4 (Wz_fr hU.2.2 hF2 (by unfold Sw; omega) (by unfold Sw; omega)) (Wz_fr g.2.2 hF2 (by unfold Sw; omega) (by unfold Sw; omega)) e2 (b200 hb) (by first | decide | omega) (by omega) (by omega)) ?_
      rintro r ⟨I3, rfl, hF3, h3⟩
      rw [bF_g0 ht hR, bA_0 hR, if_pos (bW_xk w1)]
      have le14 : Bw (7 + 7) ≤ Bw 100 := Bw_le (by first | decide | omega)
      refine q_bind (W_copy (I := I3) hR w1 (Wz_fr h2 hF3 (by unfold Sw; omega) (by unfold Sw; omega)) (Nat.lt_of_lt_of_le (nm_lt e1 (b200 hz)) le14) (by omega)) ?_
      rintro r ⟨I4, rfl, hF4, h4⟩
      rw [bF_g1 ht hR, bA_1 hR, if_pos (bW_xk w2)]
      refine q_bind (W_copy (I := I4) hR w2 (Wz_fr h3 hF4 (by unfold Sw; omega) (by unfold Sw; omega)) (Nat.lt_of_lt_of_le (nm_lt e2 (b200 hb)) le14) (by omega)) ?_
      rintro r ⟨I5, rfl, hF5, h5⟩
      have hU5 : FU I5 t 100 (z ^ (i + 1)) (b ^ (i + 1)) := by
        rw [Int.pow_succ, Int.pow_succ]
        exact ⟨ht, Wz_fr h4 hF5 (by unfold Sw; omega) (by unfold Sw; omega), h5⟩
      have hF5' : FrS (Sa t) I I5 := FrS_tr (FrS_tr (FrS_tr hF (FrS_mono hF2 (fun x h => by unfold Sw at h; unfold Sa; omega))) (FrS_mono hF3 (fun x h => by unfold Sw at h; unfold Sa; omega))) (FrS_tr (FrS_mono hF4 (fun x h => by unfold Sw at h; unfold Sa; omega)) (FrS_mono hF5 (fun x h => by unfold Sw at h; unfold Sa; omega)))
      rw [if_pos (bF_xk ht), F_fits hR hU5, Option.bind_some, natAbs_pow', natAbs_pow']
      by_cases q : z.natAbs ^ (i + 1) < 2 ^ 200 ∧ b.natAbs ^ (i + 1) < 2 ^ 200
      · rw [if_pos q, if_neg (by first | decide | omega), show (Int32.ofNat (i)) + 1 = (Int32.ofNat (i + 1)) from n_add i 1]
        exact q_go ⟨I5, rfl, q, hF5', hU5⟩
      · rw [if_neg q, if_pos rfl]
        refine q_ex (Or.inr ⟨I5, rfl, fun y => q ?_, hF5'⟩)
        constructor
        · exact Decidable.byContradiction (fun w => pow_big w (by omega) y.1)
        · exact Decidable.byContradiction (fun w => pow_big w (by omega) y.2)
    · rintro s ⟨I', rfl, hP, hF, hU⟩
      unfold f_X0_power_s20 xlet
      dsimp only
      rw [if_pos ((i32_le (by omega) (by omega)).mpr (Nat.le_refl _))]
      exact q_ex (Or.inl ⟨I', rfl, hP, hF, hU⟩)
  · rintro r (⟨I2, rfl, hP, hF, hU⟩ | ⟨I2, rfl, hP, hF⟩)
    · simp only [Sum.elim_inr]
      unfold f_X0_power_j94 f_X0_power_j131
      by_cases q : l3 = (Int32.ofNat (n))
      · rw [if_pos (by rw [q]; exact (i32_le (k := 0) (by omega) (by omega)).mpr (by omega))]
        exact q_ok (Or.inl ⟨I2, rfl, hP, hF, Or.inl ⟨q, hU⟩⟩)
      · obtain ⟨h1, h2⟩ := hl.resolve_left q
        have hneg : ¬ (0 : Int32) ≤ l3 := by
          rw [h1, Int32.neg_ofNat, Int32.le_iff_toInt_le, Int32.toInt_ofInt_of_le (by omega) (by omega)]
          show ¬ (0 : Int) ≤ _
          omega
        rw [if_neg hneg, bA_0 hR, bF_g0 ht hR, if_pos (bW_xk isW_2)]
        have e1 : (z ^ n).natAbs < Bw 100 := by rw [natAbs_pow']; exact Nat.lt_of_lt_of_le (b200 hP.1) (Bw_le (by first | decide | omega))
        have e2 : (b ^ n).natAbs < Bw 100 := by rw [natAbs_pow']; exact Nat.lt_of_lt_of_le (b200 hP.2) (Bw_le (by first | decide | omega))
        refine q_bind (W_copy (I := I2) hR isW_2 hU.2.1 e1 (by omega)) ?_
        rintro r ⟨I3, rfl, hF3, h3⟩
        rw [bF_g0 ht hR, bF_g1 ht hR, if_pos (bW_xk w1)]
        refine q_bind (W_copy (I := I3) hR w1 (Wz_fr hU.2.2 hF3 (by unfold Sw; omega) (by unfold Sw; omega)) e2 (by omega)) ?_
        rintro r ⟨I4, rfl, hF4, h4⟩
        rw [bF_g1 ht hR, bA_0 hR, if_pos (bW_xk w2)]
        refine q_bind (W_copy (I := I4) hR w2 (Wz_fr h3 hF4 (by unfold Sw; omega) (by unfold Sw; omega)) e1 (by omega)) ?_
        rintro r ⟨I5, rfl, hF5, h5⟩
        refine q_ok (Or.inl ⟨I5, rfl, hP, FrS_tr (FrS_tr hF (FrS_mono hF3 (fun x h => by unfold Sw at h; unfold Sa; omega))) (FrS_tr (FrS_mono hF4 (fun x h => by unfold Sw at h; unfold Sa; omega)) (FrS_mono hF5 (fun x h => by unfold Sw at h; unfold Sa; omega))), Or.inr ⟨q, ht, Wz_fr h4 hF5 (by unfold Sw; omega) (by unfold Sw; omega), h5⟩⟩)
    · simp only [Sum.elim_inr, Sum.elim_inl]
      exact q_ok (Or.inr ⟨I2, rfl, hP, hF⟩)
theorem A_power {z b e : Int} (hR : RA R) (ht : isF t 100) (hf : FU I f c z b) (hz : z.natAbs < 2 ^ 200) (hb : b.natAbs < 2 ^ 200) (he : -64 ≤ e ∧ e ≤ 64) (hne : t ≠ f) :
    QK (f_X0_power (mg (4562 + zn J) I J R) 1 t f (Int32.ofInt e)) (fun r => (∃ I', r = (1, mg (4562 + zn J) I' J R) ∧ PowOK z b e.natAbs ∧ FrS (Sa t) I I' ∧ (0 ≤ e ∧ FU I' t 100 (z ^ e.natAbs) (b ^ e.natAbs) ∨ e < 0 ∧ FU I' t 100 (b ^ e.natAbs) (z ^ e.natAbs))) ∨ (∃ I', r = (0, mg (4562 + zn J) I' J R) ∧ ¬ PowOK z b e.natAbs ∧ FrS (Sa t) I I')) := by
  unfold f_X0_power
  by_cases q : 0 ≤ e
  · have e1 : Int32.ofInt e = (Int32.ofNat (e.natAbs)) := by
      rw [← Int32.ofInt_eq_ofNat]
      congr 1
      omega
    have h0 : (0 : Int32) ≤ (Int32.ofNat (e.natAbs)) := (i32_le (k := 0) (m := e.natAbs) (by omega) (by omega)).mpr (by omega)
    rw [e1, if_pos h0]
    refine q_mono (A_power10 hR ht hf hz hb (by omega) hne (Or.inl rfl)) ?_
    rintro r (⟨I', h1, h2, h3, h4⟩ | h)
    · refine Or.inl ⟨I', h1, h2, h3, Or.inl ⟨q, ?_⟩⟩
      rcases h4 with h4 | h4
      · exact h4.2
      · exact absurd rfl h4.1
    · exact Or.inr h
  · have e1 : Int32.ofInt e = -(Int32.ofNat (e.natAbs)) := by
      rw [Int32.neg_ofNat]
      congr 1
      omega
    have hneg : ¬ (0 : Int32) ≤ Int32.ofInt e := by
      rw [Int32.le_iff_toInt_le, Int32.toInt_ofInt_of_le (by omega) (by omega)]
      show ¬ (0 : Int) ≤ _
      omega
    rw [if_neg hneg, e1, Int32.neg_neg]
    refine q_mono (A_power10 hR ht hf hz hb (by omega) hne (Or.inr ⟨rfl, by omega⟩)) ?_
    rintro r (⟨I', h1, h2, h3, h4⟩ | h)
    · refine Or.inl ⟨I', h1, h2, h3, Or.inr ⟨by omega, ?_⟩⟩
      rcases h4 with h4 | h4
      · have h5 := h4.1
        rw [← e1] at h5
        exact absurd (show (0 : Int32) ≤ Int32.ofInt e by rw [h5]; exact (i32_le (k := 0) (by omega) (by omega)).mpr (by omega)) hneg
      · exact h4.2
    · exact Or.inr h
end AQ
