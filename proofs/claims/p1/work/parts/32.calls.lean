/-! more simple calls -/
theorem if1 {α : Type} {c : Prop} {_h : Decidable c} {x y r : α} (h : c) (k : x = r) : (if c then x else y) = r := by rw [if_pos h]; exact k
theorem if0 {α : Type} {c : Prop} {_h : Decidable c} {x y r : α} (h : ¬ c) (k : y = r) : (if c then x else y) = r := by rw [if_neg h]; exact k
theorem u32_nat (u : UInt32) : u.toInt32 = Int32.ofNat u.toNat := by
  show (⟨u⟩ : Int32) = ⟨UInt32.ofNat u.toNat⟩
  rw [UInt32.ofNat_toNat]
theorem ch_dom (x : Int32) : ∃ k, k < 65536 ∧ ch x = Int32.ofNat k := by
  refine ⟨(x.toUInt32 % 65536).toNat, ?_, u32_nat _⟩
  rw [UInt32.toNat_mod]
  exact Nat.mod_lt _ (by decide)
theorem nm_dom {c : Int32} (h : (97 : Int32) ≤ c) (h' : c ≤ (122 : Int32)) : ∃ j, j < 26 ∧ c = Int32.ofNat (97 + j) ∧ c - 97 = Int32.ofNat j := by
  rw [Int32.le_iff_toInt_le] at h h'
  have a1 : (97 : Int32).toInt = 97 := by decide
  have a2 : (122 : Int32).toInt = 122 := by decide
  rw [a1] at h
  rw [a2] at h'
  have e : c = Int32.ofNat (97 + (c.toInt - 97).toNat) := by
    rw [← Int32.toInt_inj, i32_toInt (by omega)]
    omega
  refine ⟨(c.toInt - 97).toNat, by omega, e, ?_⟩
  rw [← Int32.toInt_inj, Int32.toInt_sub, a1, i32_toInt (by omega), Int.bmod_def]
  split <;> omega
section EQ
variable {I : Nat → Nat → Int32} {J : Nat → Nat → Int64} {R : Nat → Nat → Option Nat}
theorem c_type {k : Nat} {c : Int32} (hR : RA R) (hk : I 0 1 = Int32.ofNat k) (h : k < 60) : f_X11_type (mg 4625 I J R) 0 c = some (.inl (Int32.ofNat (k + 1)), mg 4625 (va_up (va_up I 10 (va_up (I 10) k (vp_nar .char c))) 0 (va_up (I 0) 1 (Int32.ofNat (k + 1)))) J R) := by
  have hw : wC (mg 4625 I J R) 10 (Int32.ofNat k) c = some (mg 4625 (va_up I 10 (va_up (I 10) k (vp_nar .char c))) J R) := by
    rw [owC_10, if_pos (xvi_nat h (by decide)), i32_nat (by omega)]
  unfold f_X11_type
  refine xb_eq (ogI_0.trans (congrArg some hk)) (xb_eq (ogR_0_0 hR) (xb_eq ogL_10 ?_))
  rw [if_pos (show Int32.ofNat k < 60 from (i32_lt (m := 60) (by omega) (by omega)).mpr h)]
  refine xb_eq (ogR_0_0 hR) (xb_eq (ogI_0.trans (congrArg some hk)) (xb_eq hw (xb_eq (ogI_0.trans (congrArg some (hk : va_up I 10 _ 0 1 = _))) ?_)))
  rw [i32_ofs]
  refine xb_eq osI_0 (xb_eq ogI_0 ?_)
  rw [va_up_self, va_up_self]
  rfl
theorem m_type {k : Nat} {c : Int32} (hR : RA R) (hk : I 4561 19 = Int32.ofNat k) (h : k < 60) : f_X12_type (mg 4625 I J R) 4561 c = some (Int32.ofNat (k + 1), mg 4625 (va_up (va_up (thI I 0) 4578 (va_up (I 4578) k c)) 4561 (va_up (thI I 0 4561) 19 (Int32.ofNat (k + 1)))) J R) := by
  have hk2 : thI I 0 4561 19 = Int32.ofNat k := hk
  have hw : wI (mg 4625 (thI I 0) J R) 4578 (Int32.ofNat k) c = some (mg 4625 (va_up (thI I 0) 4578 (va_up (I 4578) k c)) J R) := by
    rw [owI_4578, if_pos (xvi_nat h (by decide)), i32_nat (by omega)]
    rfl
  unfold f_X12_type
  refine xb_eq (ogI_4561.trans (congrArg some hk)) ?_
  rw [if_neg (show ¬ (Int32.ofNat k = 60) from fun q => by have := (i32_eq (m := 60) (by omega) (by omega)).mp q; omega)]
  unfold f_X12_type_j15
  refine xb_iq ok_4561 (m_refO.trans ?_)
  refine xb_eq (ogR_4561_18 hR) (xb_eq (ogI_4561.trans (congrArg some hk2)) (xb_eq hw (xb_eq (ogI_4561.trans (congrArg some (hk : va_up (thI I 0) 4578 _ 4561 19 = _))) ?_)))
  rw [i32_ofs]
  refine xb_eq osI_4561 (xb_eq ogI_4561 ?_)
  rw [va_up_self, va_up_self]
  rfl
theorem l_type {c w : Int32} {I1 : Nat → Nat → Int32} (h : f_X11_type (mg 4625 I J R) 0 c = some (.inl w, mg 4625 I1 J R)) : f_L_type (mg 4625 I J R) 0 c 4624 = some (0, mg 4625 I1 (oJ J w.toInt64) R) := by
  unfold f_L_type
  refine xb_iq ok_0 (xb_eq h ?_)
  simp only [xlet, Sum.elim_inl]
  exact xb_eq owJ0 rfl
theorem p1_type {P : xM → Prop} (hP : ∀ I J, P (mg 4625 I J R)) (hR : RA R) (h0 : I 0 1 = 0) (h1 : I 4561 19 = 0) : op_type P (mg 4625 I J R) := by
  intro x1
  have e1 := c_type (J := J) (c := ch x1) hR (k := 0) h0 (by decide)
  exact op_ok (l_type e1) (m_type hR (k := 0) h1 (by decide)) rfl (hP _ _)
theorem p1_drop {P : xM → Prop} (hP : ∀ I J, P (mg 4625 I J R)) (h0 : I 0 1 = I 4561 19) : op_drop P (mg 4625 I J R) := by
  refine ⟨I 0 1, mg 4625 (va_up I 0 (va_up (I 0) 1 0)) J R, mg 4625 (va_up (va_up (va_up I 0 (va_up (I 0) 1 0)) 4561 (va_up (I 4561) 0 0)) 4561 (va_up (va_up (I 4561) 0 0) 19 0)) J R, ?_, ok_4561, ?_, hP _ _⟩
  · unfold f_X11_drop
    exact xb_eq ogI_0 (xb_eq osI_0 rfl)
  · show f_X12_drop _ 4561 = _
    unfold f_X12_drop
    refine xb_eq osI_4561 (xb_eq ogI_4561 (xb_eq osI_4561 ?_))
    rw [h0]
    rfl
theorem p1_trees {P : xM → Prop} (hP : ∀ I J, P (mg 4625 I J R)) (hR : RA R) (h0 : I 11 5 = I 4561 10) : op_trees P (mg 4625 I J R) := by
  refine ⟨I 11 5, mg 4625 (thI I 0) J R, ?_, ok_4561, ?_, hP _ _⟩
  · unfold f_X11_trees
    exact xb_eq (ogR_0_2 hR) (xb_eq ogI_11 rfl)
  · unfold f_X12_trees
    refine xb_eq osI_4561 (xb_eq ogI_4561 ?_)
    rw [h0]
    rfl
theorem p1_out {P : xM → Prop} (hP : ∀ I J, P (mg 4625 I J R)) (hR : RA R) (h0 : I 559 3 = 0) (h1 : I 4561 42 = 0) : op_out P (mg 4625 I J R) := by
  intro x1
  have e0 : f_X11_out (mg 4625 I J R) 0 x1 = some (.inr "java/lang/IndexOutOfBoundsException") := by
    unfold f_X11_out f_X11_out_j15
    by_cases h : x1 < 0
    · rw [if_pos h]
    · rw [if_neg h]
      refine xb_eq (ogR_0_4 hR) (xb_eq ogI_559 ?_)
      rw [h0, if_neg h]
  have e1 : f_L_out (mg 4625 I J R) 0 x1 4624 = some (1, mg 4625 I J R) := by
    unfold f_L_out
    refine xb_iq ok_0 (xb_eq e0 ?_)
    simp only [xlet, Sum.elim_inr, ↓reduceIte]
  have e2 : f_X12_out (mg 4625 I J R) 4561 x1 = some (0, mg 4625 (thI I 1) J R) := by
    unfold f_X12_out
    refine xb_eq (ogI_4561.trans (congrArg some h1)) (xb_eq (m_in0 (fun q => absurd (Int32.le_trans q.1 q.2) (by decide))) ?_)
    rw [if_pos rfl]
    unfold f_X12_out_j20
    exact xb_iq ok_4561 (m_refX.trans rfl)
  exact op_ex e1 e2 thI_0 (by decide) (hP _ _)
theorem p1_trace {P : xM → Prop} (hP : ∀ I J, P (mg 4625 I J R)) (hR : RA R) (h0 : I 0 15 = 0) (h1 : I 4561 67 = 0) : op_trace P (mg 4625 I J R) := by
  intro x1 x2
  by_cases hq : (0 : Int32) ≤ x2 ∧ x2 ≤ (1 : Int32)
  · have e0 : f_X11_trace (mg 4625 I J R) 0 x1 x2 = some (.inl (-1)) := by
      unfold f_X11_trace f_X11_trace_j32
      rw [if_neg (Int32.not_lt.mpr hq.1), if_pos hq.2]
      by_cases h : x1 < 0
      · rw [if_pos h]
      · rw [if_neg h]
        refine xb_eq (ogI_0.trans (congrArg some h0)) ?_
        rw [if_neg h]
    have e1 : f_L_trace (mg 4625 I J R) 0 x1 x2 4624 = some (0, mg 4625 I (oJ J ((-1 : Int32)).toInt64) R) := by
      unfold f_L_trace
      refine xb_iq ok_0 (xb_eq e0 ?_)
      simp only [xlet, Sum.elim_inl]
      exact xb_eq owJ0 rfl
    have e2 : ∀ J, f_X12_trace (mg 4625 I J R) 4561 x1 x2 = some (-1, mg 4625 (thI I 0) J R) := by
      intro J
      unfold f_X12_trace
      refine xb_eq (m_in1 hq.1 hq.2) ?_
      rw [if_neg (by decide)]
      unfold f_X12_trace_j15
      refine xb_iq ok_4561 (m_refO.trans (xb_eq (ogI_4561.trans (congrArg some (h1 : thI I 0 4561 67 = 0))) (xb_eq (m_in0 (fun q => absurd (Int32.le_trans q.1 q.2) (by decide))) ?_)))
      rw [if_pos rfl]
      rfl
    exact op_ok e1 (e2 _) thI_0 (hP _ _)
  · have e0 : f_X11_trace (mg 4625 I J R) 0 x1 x2 = some (.inr "java/lang/IllegalArgumentException") := by
      unfold f_X11_trace f_X11_trace_j9
      by_cases h : x2 < 0
      · rw [if_pos h]
      · rw [if_neg h, if_neg (fun q => hq ⟨Int32.not_lt.mp h, q⟩)]
    have e1 : f_L_trace (mg 4625 I J R) 0 x1 x2 4624 = some (1, mg 4625 I J R) := by
      unfold f_L_trace
      refine xb_iq ok_0 (xb_eq e0 ?_)
      simp only [xlet, Sum.elim_inr, ↓reduceIte]
    have e2 : f_X12_trace (mg 4625 I J R) 4561 x1 x2 = some (0, mg 4625 (thI I 1) J R) := by
      unfold f_X12_trace
      refine xb_eq (m_in0 hq) ?_
      rw [if_pos rfl]
      unfold f_X12_trace_j15
      exact xb_iq ok_4561 (m_refX.trans rfl)
    exact op_ex e1 e2 thI_0 (by decide) (hP _ _)
theorem p1_undo {P : xM → Prop} (hP : ∀ I J, P (mg 4625 I J R)) (hR : RA R) (h0 : I 11 14 = 0) (h1 : I 4561 84 = 0) : op_undo P (mg 4625 I J R) := by
  refine ⟨-1, mg 4625 I J R, mg 4625 (thI I 0) J R, ?_, ok_4561, ?_, hP _ _⟩
  · unfold f_X11_undo
    refine xb_eq (ogR_0_2 hR) (xb_iq ok_11 (xb_eq (a := (-1, mg 4625 I J R)) ?_ rfl))
    unfold f_X1_takeBack
    refine xb_eq (ogI_11.trans (congrArg some h0)) ?_
    rw [if_neg (by decide)]
  · show f_X12_undo _ 4561 = _
    unfold f_X12_undo
    refine xb_eq osI_4561 (xb_eq (ogI_4561.trans (congrArg some (h1 : thI I 0 4561 84 = 0))) ?_)
    rw [if_pos rfl]
    rfl
theorem p1_unlet {P : xM → Prop} (hP : ∀ I J, P (mg 4625 I J R)) (hR : RA R) (h0 : ∀ j, j < 26 → I 18 j = 0) (h1 : ∀ j, j < 26 → I 4599 j = 0) : op_unlet P (mg 4625 I J R) := by
  intro x1
  by_cases hq : (97 : Int32) ≤ ch x1 ∧ ch x1 ≤ (122 : Int32)
  · obtain ⟨j, hj, -, ej⟩ := nm_dom hq.1 hq.2
    have ea : aI (mg 4625 I J R) 18 15 (Int32.ofNat j) = some 0 := by rw [oaI_18, if_pos (xvi_nat hj (by decide)), i32_nat (by omega), h0 j hj]
    have em : ∀ J, aI (mg 4625 (thI I 0) J R) 4599 15 (Int32.ofNat j) = some 0 := fun J => by
      rw [oaI_4599, if_pos (xvi_nat hj (by decide)), i32_nat (by omega)]
      exact congrArg some (h1 j hj)
    have e0 : f_X11_unlet (mg 4625 I J R) 0 (ch x1) = some (.inl 0, mg 4625 I J R) := by
      unfold f_X11_unlet
      refine xb_eq (ogR_0_2 hR) (xb_iq ok_0 (xb_eq (c_letterOf1 hq.1 hq.2) ?_))
      rw [Sum.elim_inl]
      rw [ej]
      refine xb_iq ok_11 (xb_eq (a := (0, mg 4625 I J R)) ?_ rfl)
      unfold f_X1_takeValue
      refine xb_eq (ogR_11_7 hR) (xb_eq ea ?_)
      rw [if_pos rfl]
    have e1 : f_L_unlet (mg 4625 I J R) 0 (ch x1) 4624 = some (0, mg 4625 I (oJ J 0) R) := by
      unfold f_L_unlet
      refine xb_iq ok_0 (xb_eq e0 ?_)
      simp only [xlet, Sum.elim_inl, ↓reduceIte]
      exact xb_eq owJ0 rfl
    have e2 : ∀ J, f_X12_unlet (mg 4625 I J R) 4561 (ch x1) = some (0, mg 4625 (thI I 0) J R) := by
      intro J
      unfold f_X12_unlet
      refine xb_eq (m_isName1 hq.1 hq.2) ?_
      rw [if_neg (by decide)]
      unfold f_X12_unlet_j13
      refine xb_iq ok_4561 (m_refO.trans (xb_eq (ogR_4561_47 hR) ?_))
      rw [ej]
      refine xb_eq (em J) ?_
      rw [if_pos rfl]
      rfl
    exact op_okB (w := 0) e1 (e2 _) thI_0 (hP _ _)
  · have e0 : f_X11_unlet (mg 4625 I J R) 0 (ch x1) = some (.inr "java/lang/IllegalArgumentException", mg 4625 I J R) := by
      unfold f_X11_unlet
      exact xb_eq (ogR_0_2 hR) (xb_iq ok_0 (xb_eq (c_letterOf0 hq) rfl))
    have e1 : f_L_unlet (mg 4625 I J R) 0 (ch x1) 4624 = some (1, mg 4625 I J R) := by
      unfold f_L_unlet
      refine xb_iq ok_0 (xb_eq e0 ?_)
      simp only [xlet, Sum.elim_inr, ↓reduceIte]
    have e2 : f_X12_unlet (mg 4625 I J R) 4561 (ch x1) = some (0, mg 4625 (thI I 1) J R) := by
      unfold f_X12_unlet
      refine xb_eq (m_isName0 hq) ?_
      rw [if_pos rfl]
      unfold f_X12_unlet_j13
      exact xb_iq ok_4561 (m_refX.trans rfl)
    exact op_exB e1 e2 thI_0 (by decide) (hP _ _)
theorem p1_recall {P : xM → Prop} (hP : ∀ I J, P (mg 4625 I J R)) (hR : RA R) (h0 : ∀ j, j < 26 → I 18 j = 0) (h1 : ∀ j, j < 26 → I 4599 j = 0) : op_recall P (mg 4625 I J R) := by
  intro x1
  by_cases hq : (97 : Int32) ≤ ch x1 ∧ ch x1 ≤ (122 : Int32)
  · obtain ⟨j, hj, -, ej⟩ := nm_dom hq.1 hq.2
    have ea : aI (mg 4625 I J R) 18 15 (Int32.ofNat j) = some 0 := by rw [oaI_18, if_pos (xvi_nat hj (by decide)), i32_nat (by omega), h0 j hj]
    have em : ∀ J, aI (mg 4625 (thI I 0) J R) 4599 15 (Int32.ofNat j) = some 0 := fun J => by
      rw [oaI_4599, if_pos (xvi_nat hj (by decide)), i32_nat (by omega)]
      exact congrArg some (h1 j hj)
    have e0 : f_X11_recall (mg 4625 I J R) 0 (ch x1) = some (.inl 0, mg 4625 I J R) := by
      unfold f_X11_recall
      refine xb_iq ok_0 (xb_eq (c_letterOf1 hq.1 hq.2) ?_)
      rw [Sum.elim_inl]
      rw [ej]
      refine xb_eq (ogR_0_2 hR) (xb_eq (ogR_11_7 hR) (xb_eq ea ?_))
      rw [if_pos rfl]
    have e1 : f_L_recall (mg 4625 I J R) 0 (ch x1) 4624 = some (0, mg 4625 I (oJ J 0) R) := by
      unfold f_L_recall
      refine xb_iq ok_0 (xb_eq e0 ?_)
      simp only [xlet, Sum.elim_inl, ↓reduceIte]
      exact xb_eq owJ0 rfl
    have e2 : ∀ J, f_X12_recall (mg 4625 I J R) 4561 (ch x1) = some (0, mg 4625 (thI I 0) J R) := by
      intro J
      unfold f_X12_recall
      refine xb_eq (m_isName1 hq.1 hq.2) ?_
      rw [if_neg (by decide)]
      unfold f_X12_recall_j13
      refine xb_iq ok_4561 (m_refO.trans (xb_eq (ogR_4561_47 hR) ?_))
      rw [ej]
      refine xb_eq (em J) ?_
      rw [if_pos rfl]
      rfl
    exact op_okB (w := 0) e1 (e2 _) thI_0 (hP _ _)
  · have e0 : f_X11_recall (mg 4625 I J R) 0 (ch x1) = some (.inr "java/lang/IllegalArgumentException", mg 4625 I J R) := by
      unfold f_X11_recall
      exact xb_iq ok_0 (xb_eq (c_letterOf0 hq) rfl)
    have e1 : f_L_recall (mg 4625 I J R) 0 (ch x1) 4624 = some (1, mg 4625 I J R) := by
      unfold f_L_recall
      refine xb_iq ok_0 (xb_eq e0 ?_)
      simp only [xlet, Sum.elim_inr, ↓reduceIte]
    have e2 : f_X12_recall (mg 4625 I J R) 4561 (ch x1) = some (0, mg 4625 (thI I 1) J R) := by
      unfold f_X12_recall
      refine xb_eq (m_isName0 hq) ?_
      rw [if_pos rfl]
      unfold f_X12_recall_j13
      exact xb_iq ok_4561 (m_refX.trans rfl)
    exact op_exB e1 e2 thI_0 (by decide) (hP _ _)
theorem p1_let {P : xM → Prop} (hP : ∀ I J, P (mg 4625 I J R)) (hR : RA R) (h0 : I 11 5 = 0) (h1 : I 4561 10 = 0) : op_let P (mg 4625 I J R) := by
  intro x1 x2
  by_cases hq : (97 : Int32) ≤ ch x1 ∧ ch x1 ≤ (122 : Int32)
  · have e0 : f_X11_let (mg 4625 I J R) 0 (ch x1) x2 = some (.inr "java/lang/IndexOutOfBoundsException", mg 4625 I J R) := by
      unfold f_X11_let
      refine xb_iq ok_0 (xb_eq (c_letterOf1 hq.1 hq.2) ?_)
      rw [Sum.elim_inl]
      exact xb_iq ok_0 (xb_eq (c_treeAt0 hR h0) rfl)
    have e1 : f_L_let (mg 4625 I J R) 0 (ch x1) x2 4624 = some (2, mg 4625 I J R) := by
      unfold f_L_let
      refine xb_iq ok_0 (xb_eq e0 ?_)
      simp only [xlet, Sum.elim_inr, ↓reduceIte, String.reduceEq]
    have e2 : f_X12_let (mg 4625 I J R) 4561 (ch x1) x2 = some (0, mg 4625 (thI I 2) J R) := by
      unfold f_X12_let
      refine xb_eq (m_isName1 hq.1 hq.2) ?_
      rw [if_neg (by decide)]
      unfold f_X12_let_j13
      refine xb_iq ok_4561 (xb_eq (m_isTree0 h1) ?_)
      rw [if_pos rfl]
      unfold f_X12_let_j26
      exact xb_iq ok_4561 (m_refY.trans rfl)
    exact op_ex e1 e2 thI_0 (by decide) (hP _ _)
  · have e0 : f_X11_let (mg 4625 I J R) 0 (ch x1) x2 = some (.inr "java/lang/IllegalArgumentException", mg 4625 I J R) := by
      unfold f_X11_let
      exact xb_iq ok_0 (xb_eq (c_letterOf0 hq) rfl)
    have e1 : f_L_let (mg 4625 I J R) 0 (ch x1) x2 4624 = some (1, mg 4625 I J R) := by
      unfold f_L_let
      refine xb_iq ok_0 (xb_eq e0 ?_)
      simp only [xlet, Sum.elim_inr, ↓reduceIte, String.reduceEq]
    have e2 : f_X12_let (mg 4625 I J R) 4561 (ch x1) x2 = some (0, mg 4625 (thI I 1) J R) := by
      unfold f_X12_let
      refine xb_eq (m_isName0 hq) ?_
      rw [if_pos rfl]
      unfold f_X12_let_j13
      refine xb_iq ok_4561 (xb_eq (m_isTree0 h1) ?_)
      rw [if_pos rfl]
      unfold f_X12_let_j26
      exact xb_iq ok_4561 (m_refX.trans rfl)
    exact op_ex e1 e2 thI_0 (by decide) (hP _ _)
theorem p1_addCase {P : xM → Prop} (hP : ∀ I J, P (mg 4625 I J R)) (hR : RA R) (h0 : I 11 5 = 0) (h1 : I 4561 10 = 0) : op_addCase P (mg 4625 I J R) := by
  intro x1 x2 x3
  by_cases hq : (97 : Int32) ≤ ch x1 ∧ ch x1 ≤ (122 : Int32)
  · have e0 : f_X11_addCase (mg 4625 I J R) 0 (ch x1) x2 x3 = some (.inr "java/lang/IndexOutOfBoundsException", mg 4625 I J R) := by
      unfold f_X11_addCase
      refine xb_iq ok_0 (xb_eq (c_letterOf1 hq.1 hq.2) ?_)
      rw [Sum.elim_inl]
      exact xb_iq ok_0 (xb_eq (c_treeAt0 hR h0) rfl)
    have e1 : f_L_addCase (mg 4625 I J R) 0 (ch x1) x2 x3 4624 = some (2, mg 4625 I J R) := by
      unfold f_L_addCase
      refine xb_iq ok_0 (xb_eq e0 ?_)
      simp only [xlet, Sum.elim_inr, ↓reduceIte, String.reduceEq]
    have e2 : f_X12_addCase (mg 4625 I J R) 4561 (ch x1) x2 x3 = some (0, mg 4625 (thI I 2) J R) := by
      unfold f_X12_addCase
      refine xb_iq ok_4561 (xb_eq (m_isTree0 h1) ?_)
      rw [if_pos rfl]
      unfold f_X12_addCase_j25 f_X12_addCase_j26
      refine xb_eq (m_isName1 hq.1 hq.2) ?_
      rw [if_neg (by decide)]
      unfold f_X12_addCase_j41
      rw [if_pos rfl]
      unfold f_X12_addCase_j51
      exact xb_iq ok_4561 (m_refY.trans rfl)
    exact op_ex e1 e2 thI_0 (by decide) (hP _ _)
  · have e0 : f_X11_addCase (mg 4625 I J R) 0 (ch x1) x2 x3 = some (.inr "java/lang/IllegalArgumentException", mg 4625 I J R) := by
      unfold f_X11_addCase
      exact xb_iq ok_0 (xb_eq (c_letterOf0 hq) rfl)
    have e1 : f_L_addCase (mg 4625 I J R) 0 (ch x1) x2 x3 4624 = some (1, mg 4625 I J R) := by
      unfold f_L_addCase
      refine xb_iq ok_0 (xb_eq e0 ?_)
      simp only [xlet, Sum.elim_inr, ↓reduceIte, String.reduceEq]
    have e2 : f_X12_addCase (mg 4625 I J R) 4561 (ch x1) x2 x3 = some (0, mg 4625 (thI I 1) J R) := by
      unfold f_X12_addCase
      refine xb_iq ok_4561 (xb_eq (m_isTree0 h1) ?_)
      rw [if_pos rfl]
      unfold f_X12_addCase_j25 f_X12_addCase_j26
      refine xb_eq (m_isName0 hq) ?_
      rw [if_pos rfl]
      unfold f_X12_addCase_j41
      rw [if_pos rfl]
      unfold f_X12_addCase_j51
      exact xb_iq ok_4561 (m_refX.trans rfl)
    exact op_ex e1 e2 thI_0 (by decide) (hP _ _)
theorem p1_audit {P : xM → Prop} (hP : ∀ I J, P (mg 4625 I J R)) (hR : RA R) (h0 : I 11 5 = 0) (h1 : I 4561 10 = 0) : op_audit P (mg 4625 I J R) := by
  intro x1 x2
  by_cases hq : (0 : Int32) ≤ x1 ∧ x1 ≤ (3 : Int32)
  · have e0 : f_X11_audit (mg 4625 I J R) 0 x1 x2 = some (.inr "java/lang/IndexOutOfBoundsException", mg 4625 I J R) := by
      unfold f_X11_audit
      rw [if_neg (Int32.not_lt.mpr hq.1), if_pos hq.2]
      exact xb_iq ok_0 (xb_eq (c_treeAt0 hR h0) rfl)
    have e1 : f_L_audit (mg 4625 I J R) 0 x1 x2 4624 = some (2, mg 4625 I J R) := by
      unfold f_L_audit
      refine xb_iq ok_0 (xb_eq e0 ?_)
      simp only [xlet, Sum.elim_inr, ↓reduceIte, String.reduceEq]
    have e2 : f_X12_audit (mg 4625 I J R) 4561 x1 x2 = some (0, mg 4625 (thI I 2) J R) := by
      unfold f_X12_audit
      refine xb_eq (m_in1 hq.1 hq.2) ?_
      rw [if_neg (by decide)]
      unfold f_X12_audit_j15
      refine xb_iq ok_4561 (xb_eq (m_isTree0 h1) ?_)
      rw [if_pos rfl]
      unfold f_X12_audit_j28
      exact xb_iq ok_4561 (m_refY.trans rfl)
    exact op_exB e1 e2 thI_0 (by decide) (hP _ _)
  · have e0 : f_X11_audit (mg 4625 I J R) 0 x1 x2 = some (.inr "java/lang/IllegalArgumentException", mg 4625 I J R) := by
      unfold f_X11_audit f_X11_audit_j9
      by_cases h : x1 < 0
      · rw [if_pos h]
      · rw [if_neg h, if_neg (fun q => hq ⟨Int32.not_lt.mp h, q⟩)]
    have e1 : f_L_audit (mg 4625 I J R) 0 x1 x2 4624 = some (1, mg 4625 I J R) := by
      unfold f_L_audit
      refine xb_iq ok_0 (xb_eq e0 ?_)
      simp only [xlet, Sum.elim_inr, ↓reduceIte, String.reduceEq]
    have e2 : f_X12_audit (mg 4625 I J R) 4561 x1 x2 = some (0, mg 4625 (thI I 1) J R) := by
      unfold f_X12_audit
      refine xb_eq (m_in0 hq) ?_
      rw [if_pos rfl]
      unfold f_X12_audit_j15
      refine xb_iq ok_4561 (xb_eq (m_isTree0 h1) ?_)
      rw [if_pos rfl]
      unfold f_X12_audit_j28
      exact xb_iq ok_4561 (m_refX.trans rfl)
    exact op_exB e1 e2 thI_0 (by decide) (hP _ _)
end EQ
