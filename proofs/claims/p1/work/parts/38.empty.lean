/-! nothing typed: fault, read -/
theorem xg_eq {β : Type} {x : Option Int32} {v : Int32} (w : Int32) {f : Int32 → Option β} {r : Option β} (h : x = some v) (e : v = w) (k : f w = r) : x.bind f = r := by
  rw [h, e]
  exact k
section EZ
variable {I : Nat → Nat → Int32} {J : Nat → Nat → Int64} {R : Nat → Nat → Option Nat}
def rdI (I : Nat → Nat → Int32) : Nat → Nat → Int32 := st (st (st I 540 5 0) 540 6 0) 540 6 0
theorem c_split0 : f_X6_split (mg 4625 I J R) 540 10 0 = some (mg 4625 (rdI I) J R) := by
  unfold f_X6_split f_X6_startWords
  refine xb_iq ok_540 (xb_eq (a := mg 4625 (st (st I 540 5 0) 540 6 0) J R) (xb_eq osI_540 (xb_eq osI_540 rfl)) (xb_eq ogL_10 ?_))
  rw [if_neg (by decide)]
  refine xb_eq (a := mg 4625 (rdI I) J R) osI_540 ?_
  simp only [xlet]
  refine xb_eq (a := .inr (mg 4625 (rdI I) J R)) (xl_e (by decide) ?_) rfl
  unfold f_X6_split_s19 xlet
  dsimp only
  refine xg_eq 0 ogI_540 rfl ?_
  rw [if_pos (by decide)]
def bsI (I : Nat → Nat → Int32) : Nat → Nat → Int32 := st (st (st (st (st I 540 7 0) 540 14 0) 540 16 0) 540 8 1) 551 7 0
theorem c_byStacks0 (hR : RA R) (h5 : I 540 5 = 0) (h6 : I 540 6 = 0) : f_X6_byStacks (mg 4625 I J R) 540 = some (0, mg 4625 (bsI I) J R) := by
  have red : f_X6_reduce (mg 4625 (bsI I) J R) 540 0 = some (mg 4625 (bsI I) J R) := by
    unfold f_X6_reduce
    refine xg_eq 0 ogI_540 rfl ?_
    simp only [xlet]
    refine xb_eq (a := .inr (mg 4625 (bsI I) J R)) (xl_e (by decide) ?_) rfl
    unfold f_X6_reduce_s7 xlet
    dsimp only
    rw [if_pos (by decide)]
  unfold f_X6_byStacks
  refine xb_eq osI_540 (xb_eq osI_540 (xb_eq osI_540 (xb_eq (osZ_540.trans (if_pos (by decide))) (xb_eq (ogR_540_17 hR) (xb_iq ok_551 ?_)))))
  unfold f_X9_clear
  refine xb_eq (a := mg 4625 (bsI I) J R) (xb_eq osI_551 rfl) ?_
  simp only [xlet]
  refine xb_eq (a := .inr (.inr (.inr (540, mg 4625 (bsI I) J R)))) (xl_e (by decide) ?_) ?_
  · unfold f_X6_byStacks_s29 xlet
    dsimp only
    refine xg_eq 0 ogI_540 h5 ?_
    rw [if_pos (by decide)]
  · rw [Sum.elim_inr, Sum.elim_inr, Sum.elim_inr]
    unfold f_X6_byStacks_j154
    refine xb_iq ok_540 (xb_eq red ?_)
    refine xg_eq 1 ogI_540 rfl ?_
    rw [if_neg (by decide)]
    unfold f_X6_byStacks_j173
    refine xg_eq 0 ogI_540 h6 ?_
    rfl
def faI (I : Nat → Nat → Int32) : Nat → Nat → Int32 := st (st (st (st (st I 4561 25 0) 4561 26 0) 4561 33 0) 4561 36 0) 4561 40 0
theorem m_faultOf0 (hR : RA R) (h : I 4561 19 = 0) : f_X12_faultOf (mg 4625 I J R) 4561 = some (0, mg 4625 (faI I) J R) := by
  have e1 : f_X12_lex (mg 4625 I J R) 4561 = some (mg 4625 (st (st I 4561 25 0) 4561 26 0) J R) := by
    unfold f_X12_lex
    refine xb_eq osI_4561 (xb_eq (a := mg 4625 (st (st I 4561 25 0) 4561 26 0) J R) (osZ_4561.trans (if_pos (by decide))) ?_)
    simp only [xlet]
    refine xb_eq (a := .inr (.inr (.inr (mg 4625 (st (st I 4561 25 0) 4561 26 0) J R)))) (xl_e (by decide) ?_) ?_
    · unfold f_X12_lex_s12 xlet
      dsimp only
      refine xg_eq 0 ogI_4561 h ?_
      rw [if_pos (by decide)]
    · rw [Sum.elim_inr, Sum.elim_inr, Sum.elim_inr]
      rfl
  have e2 : f_X12_nextWord (mg 4625 (faI I) J R) 4561 (-1) = some 0 := by
    unfold f_X12_nextWord
    simp only [xlet]
    refine xb_eq (a := .inr 0) (xl_e (by decide) ?_) rfl
    unfold f_X12_nextWord_s4 xlet
    dsimp only
    refine xg_eq 0 ogI_4561 rfl ?_
    rw [if_pos (by decide)]
    rfl
  have e3 : f_X12_parse (mg 4625 (st (st I 4561 25 0) 4561 26 0) J R) 4561 = some (0, mg 4625 (faI I) J R) := by
    unfold f_X12_parse
    refine xb_eq osI_4561 (xb_eq osI_4561 (xb_eq (a := mg 4625 (faI I) J R) osI_4561 ?_))
    simp only [xlet]
    refine xb_iq ok_4561 (xb_eq e2 ?_)
    refine xb_eq (a := .inr (.inr (.inr (4561, 1, mg 4625 (faI I) J R)))) (xl_e (by decide) ?_) ?_
    · unfold f_X12_parse_s23 xlet
      dsimp only
      refine xg_eq 0 ogI_4561 rfl ?_
      rw [if_pos (by decide)]
    · rw [Sum.elim_inr, Sum.elim_inr, Sum.elim_inr]
      unfold f_X12_parse_j175
      refine if0 (show ¬ ((1 : Int32) = 0) by decide) ?_
      exact xg_eq 0 ogI_4561 rfl rfl
  unfold f_X12_faultOf
  refine xb_iq ok_4561 (xb_eq e1 (xb_iq ok_4561 (xb_eq e3 ?_)))
  refine if0 (show ¬ ((0 : Int32) = -1) by decide) ?_
  refine xg_eq 0 ogI_4561 rfl ?_
  refine if1 (show (0 : Int32) ≤ 0 by decide) ?_
  exact xg_eq 0 ogI_4561 h rfl
theorem c_empty (hR : RA R) : f_X6_byStacks (mg 4625 (rdI I) J R) 540 = some (0, mg 4625 (bsI (rdI I)) J R) := c_byStacks0 hR rfl rfl
theorem p1_fault {P : xM → Prop} (hP : ∀ I J, P (mg 4625 I J R)) (hR : RA R) (h0 : I 0 1 = 0) (h1 : I 4561 19 = 0) : op_fault P (mg 4625 I J R) := by
  refine ⟨0, mg 4625 (bsI (rdI I)) J R, mg 4625 (faI (thI (bsI (rdI I)) 0)) J R, ?_, ok_4561, ?_, hP _ _⟩
  · unfold f_X11_fault
    refine xb_eq (ogR_0_3 hR) (xb_eq (ogR_0_0 hR) (xg_eq 0 ogI_0 h0 (xb_iq ok_540 (xb_eq c_split0 (xb_eq (ogR_0_3 hR) (xb_iq ok_540 (xb_eq (c_empty hR) ?_)))))))
    rfl
  · show f_X12_fault _ 4561 = _
    unfold f_X12_fault
    refine xb_eq (a := mg 4625 (thI (bsI (rdI I)) 0) J R) osI_4561 (xb_iq ok_4561 (xb_eq (m_faultOf0 hR (show thI (bsI (rdI I)) 0 4561 19 = 0 from h1)) ?_))
    rfl
theorem p1_read {P : xM → Prop} (hP : ∀ I J, P (mg 4625 I J R)) (hR : RA R) (h0 : I 0 1 = 0) (h1 : I 4561 19 = 0) (h2 : I 4561 10 = 0) : op_read P (mg 4625 I J R) := by
  have e0 : f_X11_read (mg 4625 I J R) 0 = some (.inr "java/lang/IllegalStateException", mg 4625 (bsI (rdI I)) J R) := by
    unfold f_X11_read
    refine xb_eq (ogR_0_3 hR) (xb_eq (ogR_0_0 hR) (xg_eq 0 ogI_0 h0 (xb_iq ok_540 (xb_eq c_split0 (xb_eq (ogR_0_3 hR) (xb_iq ok_540 (xb_eq (c_empty hR) ?_)))))))
    refine if0 (show ¬ ((0 : Int32) = -1) by decide) rfl
  have e1 : f_L_read (mg 4625 I J R) 0 4624 = some (1, mg 4625 (bsI (rdI I)) J R) := by
    unfold f_L_read
    refine xb_iq ok_0 (xb_eq e0 ?_)
    simp only [xlet, Sum.elim_inr, ↓reduceIte]
  have e2 : f_X12_read (mg 4625 (bsI (rdI I)) J R) 4561 = some (0, mg 4625 (thI (faI (bsI (rdI I))) 1) J R) := by
    unfold f_X12_read
    refine xg_eq 0 ogI_4561 h2 ?_
    rw [if_neg (by decide)]
    refine xb_iq ok_4561 (xb_eq (m_faultOf0 hR h1) ?_)
    refine if0 (show ¬ ((0 : Int32) = -1) by decide) ?_
    unfold f_X12_read_j18 f_X12_read_j23
    exact xb_iq ok_4561 (m_refX.trans rfl)
  exact op_ex e1 e2 thI_0 (by decide) (hP _ _)
end EZ
