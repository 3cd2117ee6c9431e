/-! one call on a fresh object -/
theorem bg_ne {l s : Nat → Int32} {x : Nat} (h : x ≠ 4562) (h' : x ≠ 4563) (h'' : x ≠ 4564) : begI l s x = Ik_59 x := by
  unfold begI u3
  rw [va_up_ne _ _ h'', va_up_ne _ _ h', va_up_ne _ _ h]
theorem bg_v {l s : Nat → Int32} : begI l s 4564 = vz 60 := by
  unfold begI u3
  rw [va_up_self]
theorem fk_1 : (Ik_59 0 1 = 0 ∧ Ik_59 0 15 = 0 ∧ Ik_59 11 5 = 0 ∧ Ik_59 11 13 = 0 ∧ Ik_59 11 14 = 0 ∧ Ik_59 559 3 = 0) ∧ (Ik_59 4561 10 = 0 ∧ Ik_59 4561 19 = 0 ∧ Ik_59 4561 42 = 0 ∧ Ik_59 4561 67 = 0 ∧ Ik_59 4561 83 = 0 ∧ Ik_59 4561 84 = 0) := by decide +kernel
theorem fk_2 : ∀ j, j < 26 → Ik_59 18 j = 0 ∧ Ik_59 4599 j = 0 ∧ Ik_59 (20 + j) 0 = 0 ∧ Ik_59 4571 j = 0 := by decide +kernel
theorem fk_3 : ∀ z, z < 208 → Ik_59 4573 z = 0 := by decide +kernel
theorem fk_4 : ∀ p, p < 16 → ∀ fx, fx < 3 → Ik_59 13 (fx * 16 + p) = Ik_59 4575 (3 * sgp p + fx) ∧ Ik_59 14 (fx * 16 + p) = Ik_59 4576 (3 * sgp p + fx) ∧ Ik_59 15 (fx * 16 + p) = Ik_59 4577 (3 * sgp p + fx) := by decide +kernel
theorem fk_5 : ∀ i, i < 9 → Ik_59 (4416 + 15 * i + 1) 1 = 0 ∧ Ik_59 (4416 + 15 * i + 3) 1 = 1 ∧ Ik_59 (4416 + 15 * i + 1) 2 = 0 ∧ Ik_59 (4416 + 15 * i + 3) 2 = 0 := by decide +kernel
theorem fk_6 : Ik_59 4542 1 = 0 ∧ Ik_59 4542 2 = 0 ∧ Ik_59 4544 1 = 1 ∧ Ik_59 4544 2 = 0 ∧ Ik_59 4545 0 = 1 := by decide +kernel
theorem fk_7 : (∀ i, i < 9 → vz 60 (28 * (47 + i)) = 0) ∧ vz 60 728 = 0 ∧ (∀ j, j < 13 → vz 60 (729 + j) = 0) ∧ vz 60 742 = 1 ∧ (∀ j, j < 12 → vz 60 (743 + j) = 0) := by decide +kernel
theorem fk_8 : Ik_59 12 = plc := rfl
theorem p1_AllOps {l s : Nat → Int32} : AllOps (fun _ => True) (mg 4625 (begI l s) zJ Rk_228) := by
  have hP : ∀ I J, (fun _ : xM => True) (mg 4625 I J Rk_228) := fun _ _ => trivial
  have hR := RA_all
  have b : ∀ x k, x ≠ 4562 → x ≠ 4563 → x ≠ 4564 → begI l s x k = Ik_59 x k := fun x k h h' h'' => congrFun (bg_ne h h' h'') k
  obtain ⟨⟨f1, f2, f3, f4, f5, f6⟩, g1, g2, g3, g4, g5, g6⟩ := fk_1
  have c1 := (b 0 1 (by decide) (by decide) (by decide)).trans f1
  have c2 := (b 0 15 (by decide) (by decide) (by decide)).trans f2
  have c3 := (b 11 5 (by decide) (by decide) (by decide)).trans f3
  have c4 := (b 11 13 (by decide) (by decide) (by decide)).trans f4
  have c5 := (b 11 14 (by decide) (by decide) (by decide)).trans f5
  have c6 := (b 559 3 (by decide) (by decide) (by decide)).trans f6
  have m1 := (b 4561 10 (by decide) (by decide) (by decide)).trans g1
  have m2 := (b 4561 19 (by decide) (by decide) (by decide)).trans g2
  have m3 := (b 4561 42 (by decide) (by decide) (by decide)).trans g3
  have m4 := (b 4561 67 (by decide) (by decide) (by decide)).trans g4
  have m5 := (b 4561 83 (by decide) (by decide) (by decide)).trans g5
  have m6 := (b 4561 84 (by decide) (by decide) (by decide)).trans g6
  have h18 : ∀ j, j < 26 → begI l s 18 j = 0 := fun j hj => (b 18 j (by decide) (by decide) (by decide)).trans (fk_2 j hj).1
  have h99 : ∀ j, j < 26 → begI l s 4599 j = 0 := fun j hj => (b 4599 j (by decide) (by decide) (by decide)).trans (fk_2 j hj).2.1
  have h20 : ∀ j, j < 26 → begI l s (20 + j) 0 = 0 := fun j hj => (b (20 + j) 0 (by omega) (by omega) (by omega)).trans (fk_2 j hj).2.2.1
  have h71 : ∀ j, j < 26 → begI l s 4571 j = 0 := fun j hj => (b 4571 j (by decide) (by decide) (by decide)).trans (fk_2 j hj).2.2.2
  have h73 : ∀ z, z < 208 → begI l s 4573 z = 0 := fun z hz => (b 4573 z (by decide) (by decide) (by decide)).trans (fk_3 z hz)
  have h12 : begI l s 12 = plc := (bg_ne (by decide) (by decide) (by decide)).trans fk_8
  have tr : TabRel (begI l s) := fun p fx hp hf => by
    rw [b 13 _ (by decide) (by decide) (by decide), b 14 _ (by decide) (by decide) (by decide), b 15 _ (by decide) (by decide) (by decide), b 4575 _ (by decide) (by decide) (by decide), b 4576 _ (by decide) (by decide) (by decide), b 4577 _ (by decide) (by decide) (by decide)]
    exact fk_4 p hp fx hf
  have k1 : ∀ i, i < 9 → begI l s (4416 + 15 * i + 1) 1 = 0 := fun i hi => (b _ 1 (by omega) (by omega) (by omega)).trans (fk_5 i hi).1
  have k2 : ∀ i, i < 9 → begI l s (4416 + 15 * i + 3) 1 = 1 := fun i hi => (b _ 1 (by omega) (by omega) (by omega)).trans (fk_5 i hi).2.1
  have k3 : ∀ i, i < 9 → begI l s (4416 + 15 * i + 1) 2 = 0 := fun i hi => (b _ 2 (by omega) (by omega) (by omega)).trans (fk_5 i hi).2.2.1
  have k4 : ∀ i, i < 9 → begI l s (4416 + 15 * i + 3) 2 = 0 := fun i hi => (b _ 2 (by omega) (by omega) (by omega)).trans (fk_5 i hi).2.2.2
  have v : ∀ k, begI l s 4564 k = vz 60 k := fun k => congrFun bg_v k
  obtain ⟨w1, w2, w3, w4, w5⟩ := fk_7
  obtain ⟨a1, a2, a3, a4, a5⟩ := fk_6
  have nz : (0 : Int32) = Int32.ofNat 0 := rfl
  refine ⟨p1_type hP hR c1 m2, p1_drop hP (c1.trans m2.symm), p1_fault hP hR c1 m2, p1_read hP hR c1 m2 m1, p1_trees hP hR (c3.trans m1.symm), p1_node hP hR c3 m1, p1_isSame hP hR c3 m1, p1_part hP hR c3 m1, p1_graft hP hR c3 m1, ?_, p1_told (fun _ => trivial) (fun _ => trivial) hR h12 tr, p1_print hP hR c3 m1, p1_postfix hP hR c3 m1, p1_out hP hR c6 m3, p1_evaluate hP hR c3 m1, p1_reckon hP hR c3 m1, ?_, p1_let hP hR c3 m1, p1_unlet hP hR h18 h99, p1_recall hP hR h18 h99, ?_, p1_addCase hP hR c3 m1, p1_step hP hR c3 m1, p1_simplify hP hR c3 m1, p1_trace hP hR c2 m4, p1_gather hP hR c3 m1, ?_, p1_derive hP hR c3 m1, p1_slope hP hR c3 m1, p1_solve hP hR c3 m1, p1_undo hP hR c5 m6, p1_audit hP hR c3 m1⟩
  · exact p1_tell (f := 0) (m := 0) (f' := 0) (m' := 0) trivial trivial (fun _ _ _ _ _ _ _ _ _ _ => trivial) hR h12 tr (c4.trans nz) (c5.trans nz) (by decide) (by decide) (m5.trans nz) (m6.trans nz) (by decide) (by decide)
  · exact p1_answer hP hR ((b 4542 1 (by decide) (by decide) (by decide)).trans a1) ((b 4542 2 (by decide) (by decide) (by decide)).trans a2) ((b 4544 1 (by decide) (by decide) (by decide)).trans a3) ((b 4544 2 (by decide) (by decide) (by decide)).trans a4) ((b 4545 0 (by decide) (by decide) (by decide)).trans a5) ((v _).trans w2) (fun j hj => (v _).trans (w3 j hj)) ((v _).trans w4) (fun j hj => (v _).trans (w5 j hj))
  · exact p1_define (f := 0) (m := 0) (f' := 0) (m' := 0) hP hR h20 h71 h73 (c4.trans nz) (c5.trans nz) (by decide) (by decide) (m5.trans nz) (m6.trans nz) (by decide) (by decide)
  · exact p1_coefficient hP hR k1 k2 k3 k4 (fun i hi => (v _).trans (w1 i hi))
theorem p1_all {aC : Nat → ClassId} {L : Nat} (hA : aC 104 = L) (hL : L ≤ 6) : ∃ τ : xM, f_L_law aC xe0 = some (1, τ) := by
  obtain ⟨l, s, h⟩ := law_begin aC
  by_cases h6 : L = 6
  · obtain ⟨σ2, e, -⟩ := law_step (P := fun _ => True) (l0 := xkX) (i := 0) hA (by omega) (by omega) ok_0 (p1_AllOps (l := l) (s := s)) trivial
    exact ⟨σ2, h _ (xb_eq (a := .inr σ2) ((xl_s (by decide) e).trans (xl_e (by decide) (law_exit hA (by omega) (by omega) (by omega)))) rfl)⟩
  · exact ⟨_, h _ (xb_eq (a := .inr (mg 4625 (begI l s) zJ Rk_228)) (xl_e (by decide) (law_exit (i := 0) hA (by omega) (by omega) (by omega))) rfl)⟩
