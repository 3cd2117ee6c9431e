/-! the start, and all calls on any state -/
theorem Wz_z {I : Nat → Nat → Int32} {w : Nat} (hw : isW w 7) (h1 : I w 1 = 0) (h2 : I w 2 = 0) : Wz I w 7 0 := ⟨⟨0, hw, h1, by decide, ⟨by decide, fun j hj => absurd hj (Nat.not_lt_zero _)⟩, Or.inl rfl⟩, h2⟩
theorem Wz_e {I : Nat → Nat → Int32} {w : Nat} (hw : isW w 7) (h1 : I w 1 = 1) (h2 : I w 2 = 0) (h3 : I (w + 1) 0 = 1) : Wz I w 7 1 := ⟨⟨1, hw, h1, by decide, ⟨by decide, fun j hj => by
  rw [show j = 0 by omega, show dW (1 : Int).natAbs 0 = 1 by decide]
  exact h3⟩, Or.inr (by decide)⟩, h2⟩
theorem CV_01 {I : Nat → Nat → Int32} {f : Nat} (hf : isF f 7) (h1 : I (f + 1) 1 = 0) (h2 : I (f + 1) 2 = 0) (h3 : I (f + 3) 1 = 1) (h4 : I (f + 3) 2 = 0) (h5 : I (f + 4) 0 = 1) : CV I f (0, 1) := ⟨hf, Wz_z hf.2.2.2.2.2.1 h1 h2, Wz_e hf.2.2.2.2.2.2 h3 h4 h5⟩
theorem dg_01 : ∀ j, j < 13 → dg 0 j = 0 ∧ dg 1 j = if j = 0 then 1 else 0 := by decide
theorem Vv_01 {i : Nat} (hi : i < 60) : Vv (vz 60) i 0 1 := by
  refine ⟨if_neg (by omega), fun j hj => ?_, fun j hj => ?_, by decide, by decide, by decide, by decide⟩
  · rw [show dg (0 : Int).natAbs j = 0 from (dg_01 j hj).1]
    exact if_neg (by omega)
  · rw [(dg_01 j hj).2]
    by_cases z : j = 0
    · rw [if_pos z]
      exact if_pos (by omega)
    · rw [if_neg z]
      exact if_neg (by omega)
theorem st_1 : ∀ l, l < 26 → (Ik_59 (310 + 5 * l + 1) 1 = 0 ∧ Ik_59 (310 + 5 * l + 1) 2 = 0 ∧ Ik_59 (310 + 5 * l + 3) 1 = 1 ∧ Ik_59 (310 + 5 * l + 3) 2 = 0 ∧ Ik_59 (310 + 5 * l + 4) 0 = 1) ∧ Ik_59 (20 + l) 1 = 0 ∧ Ik_59 4572 l = 0 := by decide +kernel
theorem st_2 : ∀ i, i < 9 → Ik_59 (4416 + 15 * i + 4) 0 = 1 := by decide +kernel
def tbOf (I : Nat → Nat → Int32) : GB := fun z => (I 13 z, I 14 z, I 15 z)
theorem tb_v (I : Nat → Nat → Int32) (z : Nat) : tbOf I z = (I 13 z, I 14 z, I 15 z) := rfl
theorem tb_T {I : Nat → Nat → Int32} (h1 : ∀ p fx, p < 16 → fx < 3 → I 13 (fx * 16 + p) = 0 ∨ OpOK fx (I 13 (fx * 16 + p)) (I 14 (fx * 16 + p)) (I 15 (fx * 16 + p))) (h2 : ∀ p, p < 16 → I 13 (16 + p) = 0 ∨ I 13 (32 + p) = 0) (h3 : ∀ p q, p < 16 → q < 16 → I 13 (32 + p) ≠ 0 → I 13 (32 + p) = I 13 (32 + q) → I 14 (32 + p) = I 14 (32 + q)) : TbOK (tbOf I) := ⟨h1, h2, h3⟩
def bOK (fx : Nat) (rk sd mn : Int32) : Bool := rk == 0 || ((decide ((1 : Int32) ≤ rk) && decide (rk ≤ 9)) && ((decide ((0 : Int32) ≤ sd) && decide (sd ≤ (if fx = 2 then 2 else 0))) && ((decide ((100 : Int32) ≤ mn ∧ mn ≤ 125 ∧ mn ≠ 108 ∧ mn ≠ 118)) || (decide (fx = 2 ∧ (0 : Int32) ≤ mn ∧ mn ≤ 10) || decide (fx ≠ 2 ∧ (11 : Int32) ≤ mn ∧ mn ≤ 13)))))
theorem bOK_of {fx : Nat} {rk sd mn : Int32} (h : bOK fx rk sd mn = true) : rk = 0 ∨ OpOK fx rk sd mn := by
  unfold bOK at h
  rw [Bool.or_eq_true, beq_iff_eq, Bool.and_eq_true, Bool.and_eq_true, Bool.and_eq_true, Bool.and_eq_true, Bool.or_eq_true, Bool.or_eq_true, decide_eq_true_iff, decide_eq_true_iff, decide_eq_true_iff, decide_eq_true_iff, decide_eq_true_iff, decide_eq_true_iff, decide_eq_true_iff] at h
  rcases h with h | ⟨h1, h2, h3⟩
  · exact Or.inl h
  · refine Or.inr ⟨h1, h2, ?_⟩
    unfold MeanOK Mf
    by_cases z : (100 : Int32) ≤ mn ∧ mn ≤ 125 ∧ mn ≠ 108 ∧ mn ≠ 118
    · exact Or.inl z
    · exact Or.inr ⟨z, h3.resolve_left z⟩
theorem st_3 : ∀ p, p < 16 → ∀ fx, fx < 3 → bOK fx (Ik_59 13 (fx * 16 + p)) (Ik_59 14 (fx * 16 + p)) (Ik_59 15 (fx * 16 + p)) = true := by decide +kernel
theorem st_4 : ∀ p, p < 16 → Ik_59 13 (16 + p) = 0 ∨ Ik_59 13 (32 + p) = 0 := by decide +kernel
theorem st_5 : ∀ p, p < 16 → ∀ q, q < 16 → Ik_59 13 (32 + p) ≠ 0 → Ik_59 13 (32 + p) = Ik_59 13 (32 + q) → Ik_59 14 (32 + p) = Ik_59 14 (32 + q) := by decide +kernel
theorem st_T : TbOK (tbOf Ik_59) := tb_T (fun p fx hp hf => bOK_of (st_3 p hp fx hf)) st_4 (fun p q hp hq => st_5 p hp q hq)
theorem Inv_start {l s : Nat → Int32} : Inv (begI l s) := by
  have b : ∀ x k, x ≠ 4562 → x ≠ 4563 → x ≠ 4564 → begI l s x k = Ik_59 x k := fun x k h h' h'' => congrFun (bg_ne h h' h'') k
  obtain ⟨⟨f1, f2, f3, f4, f5, f6⟩, g1, g2, g3, g4, g5, g6⟩ := fk_1
  obtain ⟨a1, a2, a3, a4, a5⟩ := fk_6
  have v : begI l s 4564 = vz 60 := bg_v
  have nz : (0 : Int32) = (Int32.ofNat (0)) := rfl
  refine ⟨(0, fun _ => 0), (0, fun _ => 0, fun _ _ => (0, 0, 0, 0), fun _ _ => 0), (tbOf Ik_59), (fun _ => 0, fun _ => (0, 1)), fun x k => Ik_59 (20 + x) k, (0, 1), fun _ => (0, 1), (0, fun _ => 0), (0, fun _ => 0, fun _ => 0), (0, 0, fun _ => 0, fun _ => 0, fun _ _ => 0, fun _ => (0, 1)), ⟨⟨Nat.zero_le _, ?_, fun k hk => absurd hk (Nat.not_lt_zero _)⟩, ⟨Nat.zero_le _, ?_, fun k hk => absurd hk (Nat.not_lt_zero _)⟩, ⟨?_, fun z hz => ?_⟩, fun x hx => ⟨?_, Or.inl rfl, ?_⟩, fun x k hx hk => ?_, ?_, fun k hk => ?_, ⟨Nat.zero_le _, ?_, fun k hk => absurd hk (Nat.not_lt_zero _)⟩, ⟨Nat.zero_le _, ?_, fun k hk => absurd hk (Nat.not_lt_zero _)⟩, ⟨Nat.zero_le _, Nat.zero_lt_succ _, ?_, ?_, fun k hk => absurd hk (Nat.not_lt_zero _)⟩⟩, ⟨⟨?_, fun k hk => absurd hk (Nat.not_lt_zero _)⟩, ⟨?_, fun k hk => absurd hk (Nat.not_lt_zero _)⟩, fun p fx hp hf => ?_, fun x hx => ⟨?_, ?_⟩, fun x hx => ?_, ?_, fun k hk => ?_, ⟨?_, fun k hk => absurd hk (Nat.not_lt_zero _)⟩, ⟨?_, fun k hk => absurd hk (Nat.not_lt_zero _)⟩, ⟨?_, ?_, fun k hk => absurd hk (Nat.not_lt_zero _)⟩⟩, ⟨fun _ => 0, fun _ => (tbOf Ik_59), fun _ x k => Ik_59 (20 + x) k, rfl, rfl, rfl, fun j hj => ⟨st_T, fun t i ht => absurd ht (Nat.not_lt_zero _), fun x hx => ⟨⟨0, Nat.zero_le _, (fk_2 x hx).2.2.1⟩, 0, Nat.zero_le _, (st_1 x hx).2.1, fun k hk => absurd hk (Nat.not_lt_zero _)⟩⟩, fun j hj => absurd hj (Nat.not_lt_zero _)⟩⟩
  · exact (b 0 1 (by decide) (by decide) (by decide)).trans f1
  · exact (b 11 5 (by decide) (by decide) (by decide)).trans f3
  · exact (bg_ne (by decide) (by decide) (by decide)).trans fk_8
  · rw [b 13 z (by decide) (by decide) (by decide), b 14 z (by decide) (by decide) (by decide), b 15 z (by decide) (by decide) (by decide)]
    exact (tb_v Ik_59 z).symm
  · exact (b 18 x (by decide) (by decide) (by decide)).trans (fk_2 x hx).1
  · obtain ⟨⟨y1, y2, y3, y4, y5⟩, -⟩ := st_1 x hx
    exact CV_01 (isF_310 hx) ((b _ _ (by omega) (by omega) (by omega)).trans y1) ((b _ _ (by omega) (by omega) (by omega)).trans y2) ((b _ _ (by omega) (by omega) (by omega)).trans y3) ((b _ _ (by omega) (by omega) (by omega)).trans y4) ((b _ _ (by omega) (by omega) (by omega)).trans y5)
  · exact b _ _ (by omega) (by omega) (by omega)
  · exact CV_01 isF_4541 ((b _ _ (by decide) (by decide) (by decide)).trans a1) ((b _ _ (by decide) (by decide) (by decide)).trans a2) ((b _ _ (by decide) (by decide) (by decide)).trans a3) ((b _ _ (by decide) (by decide) (by decide)).trans a4) ((b _ _ (by decide) (by decide) (by decide)).trans a5)
  · obtain ⟨y1, y2, y3, y4⟩ := fk_5 k hk
    exact CV_01 (isF_4416 hk) ((b _ _ (by omega) (by omega) (by omega)).trans y1) ((b _ _ (by omega) (by omega) (by omega)).trans y3) ((b _ _ (by omega) (by omega) (by omega)).trans y2) ((b _ _ (by omega) (by omega) (by omega)).trans y4) ((b _ _ (by omega) (by omega) (by omega)).trans (st_2 k hk))
  · exact (b 559 3 (by decide) (by decide) (by decide)).trans f6
  · exact (b 0 15 (by decide) (by decide) (by decide)).trans f2
  · exact (b 11 13 (by decide) (by decide) (by decide)).trans f4
  · exact (b 11 14 (by decide) (by decide) (by decide)).trans f5
  · exact (b 4561 19 (by decide) (by decide) (by decide)).trans g2
  · exact (b 4561 10 (by decide) (by decide) (by decide)).trans g1
  · obtain ⟨y1, y2, y3⟩ := fk_4 p hp fx hf
    rw [b 4575 _ (by decide) (by decide) (by decide), b 4576 _ (by decide) (by decide) (by decide), b 4577 _ (by decide) (by decide) (by decide), ← y1, ← y2, ← y3]
    exact (tb_v Ik_59 _).symm
  · exact (b 4599 x (by decide) (by decide) (by decide)).trans (fk_2 x hx).2.1
  · show Vv (begI l s 4564) x 0 1
    rw [v]
    exact Vv_01 (by omega)
  · refine ⟨?_, ?_, 0, Nat.zero_le _, (st_1 x hx).2.1, fun w k hw hk => ⟨fun y => absurd y (Nat.not_lt_zero _), fun _ => ?_⟩⟩
    · exact (b 4571 x (by decide) (by decide) (by decide)).trans ((fk_2 x hx).2.2.2.trans (fk_2 x hx).2.2.1.symm)
    · exact (b 4572 x (by decide) (by decide) (by decide)).trans ((st_1 x hx).2.2.trans (st_1 x hx).2.1.symm)
    · exact (b 4573 _ (by decide) (by decide) (by decide)).trans (fk_3 _ (by omega))
  · show Vv (begI l s 4564) 26 0 1
    rw [v]
    exact Vv_01 (by decide)
  · show Vv (begI l s 4564) (47 + k) 0 1
    rw [v]
    exact Vv_01 (by omega)
  · exact (b 4561 42 (by decide) (by decide) (by decide)).trans g3
  · exact (b 4561 67 (by decide) (by decide) (by decide)).trans g4
  · exact (b 4561 83 (by decide) (by decide) (by decide)).trans g5
  · exact (b 4561 84 (by decide) (by decide) (by decide)).trans g6
theorem all_ops : ∀ σ, Pinv σ → AllOps Pinv σ := by
  rintro _ ⟨I, J, R, rfl, hR, H⟩
  exact ⟨o_type hR H, o_drop hR H, o_fault hR H, o_read hR H, o_trees hR H, o_node hR H, o_isSame hR H, o_part hR H, o_graft hR H, o_tell hR H, o_told hR H, o_print hR H, o_postfix hR H, o_out hR H, o_evaluate hR H, o_reckon hR H, o_answer hR H, o_let hR H, o_unlet hR H, o_recall hR H, o_define hR H, o_addCase hR H, o_step hR H, o_simplify hR H, o_trace hR H, o_gather hR H, o_coefficient hR H, o_derive hR H, o_slope hR H, o_solve hR H, o_undo hR H, o_audit hR H⟩
theorem whole_all {aC : Nat → ClassId} {L : Nat} (hA : aC 104 = L) (hL : L ≤ 3072) : ∃ τ : xM, f_L_law aC xe0 = some (1, τ) := by
  obtain ⟨l, s, h⟩ := law_begin aC
  obtain ⟨τ, e⟩ := law_run (P := Pinv) (l0 := xkX) hA hL (fun σ ⟨I, J, R, e, _⟩ => by rw [e]; exact ok_0) all_ops 513 0 (mg 4625 (begI l s) zJ Rk_228) (Nat.zero_le _) (by omega) ⟨_, _, _, rfl, RA_all, Inv_start⟩
  exact ⟨τ, h _ e⟩
