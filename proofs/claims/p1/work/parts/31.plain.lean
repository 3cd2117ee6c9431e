/-! simple facts of both sides, without trees -/
def thI (I : Nat → Nat → Int32) (t : Int32) : Nat → Nat → Int32 := va_up I 4561 (va_up (I 4561) 0 t)
theorem xz0 : xz 0 = some 0 := rfl
theorem xz1 : xz 1 = some 1 := rfl
section EP
variable {I : Nat → Nat → Int32} {J : Nat → Nat → Int64} {R : Nat → Nat → Option Nat}
theorem thI_0 {t : Int32} : thI I t 4561 0 = t := by
  unfold thI
  rw [va_up_self, va_up_self]
theorem m_refJ {t : Int32} {l : Nat} : f_X12_refused_j26 (mg 4625 I J R) l t 4561 = some (if l = 4561 then (if t = 0 then 0 else 1, mg 4625 (thI I t) J R) else (0, mg 4625 I J R)) ∨ l ≠ 4561 := by
  by_cases h : l = 4561
  · subst h
    left
    unfold f_X12_refused_j26
    refine xb_eq (a := mg 4625 (thI I t) J R) osI_4561 (xb_eq ogI_4561 ?_)
    rw [thI_0, if_pos rfl]
    by_cases h : t = 0
    · rw [if_pos h, if_pos h]; rfl
    · rw [if_neg h, if_neg h]; rfl
  · exact Or.inr h
theorem m_refK {t : Int32} : f_X12_refused_j26 (mg 4625 I J R) 4561 t 4561 = some (if t = 0 then 0 else 1, mg 4625 (thI I t) J R) := by
  rcases m_refJ (I := I) (J := J) (R := R) (t := t) (l := 4561) with h | h
  · rw [h, if_pos rfl]
  · exact absurd rfl h
theorem m_ref1 {b c : Int32} : f_X12_refused (mg 4625 I J R) 4561 1 b c = some (1, mg 4625 (thI I 1) J R) := by
  unfold f_X12_refused
  rw [if_neg (by decide), m_refK, if_neg (by decide)]
theorem m_ref2 {c : Int32} : f_X12_refused (mg 4625 I J R) 4561 0 1 c = some (1, mg 4625 (thI I 2) J R) := by
  unfold f_X12_refused
  rw [if_pos (by decide), if_neg (by decide), m_refK, if_neg (by decide)]
theorem m_ref3 : f_X12_refused (mg 4625 I J R) 4561 0 0 1 = some (1, mg 4625 (thI I 3) J R) := by
  unfold f_X12_refused
  rw [if_pos (by decide), if_pos (by decide), if_neg (by decide), m_refK, if_neg (by decide)]
theorem m_ref0 : f_X12_refused (mg 4625 I J R) 4561 0 0 0 = some (0, mg 4625 (thI I 0) J R) := by
  unfold f_X12_refused
  rw [if_pos (by decide), if_pos (by decide), if_pos (by decide), m_refK, if_pos (by decide)]
theorem m_in1 {σ : xM} {x lo hi : Int32} (h : lo ≤ x) (h' : x ≤ hi) : f_X12_in σ x lo hi = some 1 := by
  unfold f_X12_in f_X12_in_j15
  rw [if_neg (Int32.not_lt.mpr h), if_neg (Int32.not_lt.mpr h')]
  rfl
theorem m_in0 {σ : xM} {x lo hi : Int32} (h : ¬ (lo ≤ x ∧ x ≤ hi)) : f_X12_in σ x lo hi = some 0 := by
  unfold f_X12_in f_X12_in_j14 f_X12_in_j15
  by_cases h1 : x < lo
  · rw [if_pos h1]; rfl
  · rw [if_neg h1, if_pos (by
      refine Int32.not_le.mp (fun q => h ⟨Int32.not_lt.mp h1, q⟩))]
    rfl
theorem m_inE {σ : xM} {x lo hi : Int32} : f_X12_in σ x lo hi = some 0 ∨ f_X12_in σ x lo hi = some 1 := by
  by_cases h : lo ≤ x ∧ x ≤ hi
  · exact Or.inr (m_in1 h.1 h.2)
  · exact Or.inl (m_in0 h)
theorem m_isName1 {σ : xM} {c : Int32} (h : (97 : Int32) ≤ c) (h' : c ≤ (122 : Int32)) : f_X12_isName σ c = some 1 := by
  unfold f_X12_isName
  rw [m_in1 h h']
  rfl
theorem m_isName0 {σ : xM} {c : Int32} (h : ¬ ((97 : Int32) ≤ c ∧ c ≤ (122 : Int32))) : f_X12_isName σ c = some 0 := by
  unfold f_X12_isName
  rw [m_in0 h]
  rfl
theorem m_isNameE {σ : xM} {c : Int32} : f_X12_isName σ c = some 0 ∨ f_X12_isName σ c = some 1 := by
  by_cases h : (97 : Int32) ≤ c ∧ c ≤ (122 : Int32)
  · exact Or.inr (m_isName1 h.1 h.2)
  · exact Or.inl (m_isName0 h)
theorem m_isTree0 {t : Int32} (h : I 4561 10 = 0) : f_X12_isTree (mg 4625 I J R) 4561 t = some 0 := by
  unfold f_X12_isTree
  refine xb_eq ogI_4561 (xb_eq (m_in0 (fun q => ?_)) rfl)
  rw [h] at q
  exact absurd (Int32.le_trans q.1 q.2) (by decide)
theorem m_isNode0 {t k : Int32} (h : I 4561 10 = 0) : f_X12_isNode (mg 4625 I J R) 4561 t k = some 0 := by
  unfold f_X12_isNode
  refine xb_iq ok_4561 (xb_eq (m_isTree0 h) ?_)
  rw [if_pos rfl]
  rfl
theorem m_refX {α : Type} {b c : Int32} {A B : Int32 × xM → Option α} : (f_X12_refused (mg 4625 I J R) 4561 1 b c).bind (fun p => if p.1 = 0 then A p else B p) = B (1, mg 4625 (thI I 1) J R) := xb_eq m_ref1 (if_neg (show ¬ (1 : Int32) = 0 by decide))
theorem m_refY {α : Type} {c : Int32} {A B : Int32 × xM → Option α} : (f_X12_refused (mg 4625 I J R) 4561 0 1 c).bind (fun p => if p.1 = 0 then A p else B p) = B (1, mg 4625 (thI I 2) J R) := xb_eq m_ref2 (if_neg (show ¬ (1 : Int32) = 0 by decide))
theorem m_refZ {α : Type} {A B : Int32 × xM → Option α} : (f_X12_refused (mg 4625 I J R) 4561 0 0 1).bind (fun p => if p.1 = 0 then A p else B p) = B (1, mg 4625 (thI I 3) J R) := xb_eq m_ref3 (if_neg (show ¬ (1 : Int32) = 0 by decide))
theorem m_refO {α : Type} {A B : Int32 × xM → Option α} : (f_X12_refused (mg 4625 I J R) 4561 0 0 0).bind (fun p => if p.1 = 0 then A p else B p) = A (0, mg 4625 (thI I 0) J R) := xb_eq m_ref0 (if_pos rfl)
theorem c_treeAt0 {t : Int32} (hR : RA R) (h : I 11 5 = 0) : f_X11_treeAt (mg 4625 I J R) 0 t = some (.inr "java/lang/IndexOutOfBoundsException") := by
  unfold f_X11_treeAt f_X11_treeAt_j27
  by_cases h1 : t < 0
  · rw [if_pos h1]
  · rw [if_neg h1]
    refine xb_eq (ogR_0_2 hR) (xb_eq ogI_11 ?_)
    rw [h, if_pos (Int32.not_lt.mp h1)]
theorem c_needName1 {σ : xM} {l : Nat} {c : Int32} (h : (97 : Int32) ≤ c) (h' : c ≤ (122 : Int32)) : f_X11_needName σ l c = some (.inl ()) := by
  unfold f_X11_needName
  rw [if_neg (Int32.not_lt.mpr h), if_pos h']
theorem c_needName0 {σ : xM} {l : Nat} {c : Int32} (h : ¬ ((97 : Int32) ≤ c ∧ c ≤ (122 : Int32))) : f_X11_needName σ l c = some (.inr "java/lang/IllegalArgumentException") := by
  unfold f_X11_needName f_X11_needName_j12
  by_cases h1 : c < 97
  · rw [if_pos h1]
  · rw [if_neg h1, if_neg (fun q => h ⟨Int32.not_lt.mp h1, q⟩)]
theorem c_letterOf1 {c : Int32} (h : (97 : Int32) ≤ c) (h' : c ≤ (122 : Int32)) : f_X11_letterOf (mg 4625 I J R) 0 c = some (.inl (c - 97)) := by
  unfold f_X11_letterOf
  rw [if_pos ok_0, c_needName1 h h']
  rfl
theorem c_letterOf0 {c : Int32} (h : ¬ ((97 : Int32) ≤ c ∧ c ≤ (122 : Int32))) : f_X11_letterOf (mg 4625 I J R) 0 c = some (.inr "java/lang/IllegalArgumentException") := by
  unfold f_X11_letterOf
  rw [if_pos ok_0, c_needName0 h]
  rfl
theorem op_ex {P : xM → Prop} {fl : Option (Int32 × xM)} {fm : xM → Option (Int32 × xM)} {k b : Int32} {I1 I2 : Nat → Nat → Int32} {J1 J2 : Nat → Nat → Int64} {R1 R2 : Nat → Nat → Option Nat} (e1 : fl = some (k, mg 4625 I1 J1 R1)) (e2 : fm (mg 4625 I1 J1 R1) = some (b, mg 4625 I2 J2 R2)) (e3 : I2 4561 0 = k) (hk : k ≠ 0) (hP : P (mg 4625 I2 J2 R2)) : opW P fl fm :=
  ⟨k, _, b, _, e1, ok_4561, e2, ok_4561, by unfold f_X12_thrown; rw [ogI_4561, e3]; rfl, fun q => absurd q hk, hP⟩
theorem op_exB {P : xM → Prop} {fl : Option (Int32 × xM)} {fm : xM → Option (Int32 × xM)} {k b : Int32} {I1 I2 : Nat → Nat → Int32} {J1 J2 : Nat → Nat → Int64} {R1 R2 : Nat → Nat → Option Nat} (e1 : fl = some (k, mg 4625 I1 J1 R1)) (e2 : fm (mg 4625 I1 J1 R1) = some (b, mg 4625 I2 J2 R2)) (e3 : I2 4561 0 = k) (hk : k ≠ 0) (hP : P (mg 4625 I2 J2 R2)) : opB P fl fm :=
  ⟨k, _, b, _, e1, ok_4561, e2, ok_4561, by unfold f_X12_thrown; rw [ogI_4561, e3]; rfl, fun q => absurd q hk, hP⟩
theorem cmp_self (y : Int64) : lg_cmp y y = 0 := by
  unfold lg_cmp
  rw [if_neg (Int64.lt_irrefl), if_pos rfl]
theorem xJ0 {J : Nat → Nat → Int64} {y : Int64} : aJ (mg 4625 I (va_up J 4624 (va_up (J 4624) 0 y)) R) 4624 0 = some y := by
  rw [oaJ_4624, if_pos (by decide)]
  show some (va_up J 4624 (va_up (J 4624) 0 y) 4624 0) = _
  rw [va_up_self, va_up_self]
/-- the answer w, put into the row of one long -/
def oJ (J : Nat → Nat → Int64) (y : Int64) : Nat → Nat → Int64 := va_up J 4624 (va_up (J 4624) 0 y)
theorem owJ0 {y : Int64} : wJ (mg 4625 I J R) 4624 0 y = some (mg 4625 I (oJ J y) R) := by
  rw [owJ_4624, if_pos (by decide)]
  rfl
theorem op_ok {P : xM → Prop} {fl : Option (Int32 × xM)} {fm : xM → Option (Int32 × xM)} {w : Int32} {I1 I2 : Nat → Nat → Int32} {R1 R2 : Nat → Nat → Option Nat} (e1 : fl = some (0, mg 4625 I1 (oJ J w.toInt64) R1)) (e2 : fm (mg 4625 I1 (oJ J w.toInt64) R1) = some (w, mg 4625 I2 (oJ J w.toInt64) R2)) (e3 : I2 4561 0 = 0) (hP : P (mg 4625 I2 (oJ J w.toInt64) R2)) : opW P fl fm :=
  ⟨0, _, w, _, e1, ok_4561, e2, ok_4561, by unfold f_X12_thrown; rw [ogI_4561, e3]; rfl, fun _ => ⟨_, xJ0, cmp_self _⟩, hP⟩
theorem op_okB {P : xM → Prop} {fl : Option (Int32 × xM)} {fm : xM → Option (Int32 × xM)} {w : Int32} {I1 I2 : Nat → Nat → Int32} {R1 R2 : Nat → Nat → Option Nat} (e1 : fl = some (0, mg 4625 I1 (oJ J (if w = 0 then 0 else 1)) R1)) (e2 : fm (mg 4625 I1 (oJ J (if w = 0 then 0 else 1)) R1) = some (w, mg 4625 I2 (oJ J (if w = 0 then 0 else 1)) R2)) (e3 : I2 4561 0 = 0) (hP : P (mg 4625 I2 (oJ J (if w = 0 then 0 else 1)) R2)) : opB P fl fm :=
  ⟨0, _, w, _, e1, ok_4561, e2, ok_4561, by unfold f_X12_thrown; rw [ogI_4561, e3]; rfl, fun _ => ⟨_, xJ0, cmp_self _⟩, hP⟩


theorem p1_node {P : xM → Prop} (hP : ∀ I J, P (mg 4625 I J R)) (hR : RA R) (h0 : I 11 5 = 0) (h1 : I 4561 10 = 0) : op_node P (mg 4625 I J R) := by
  intro x1 x2 x3
  have e0 : f_X11_node (mg 4625 I J R) 0 x1 x2 x3 = some (.inr "java/lang/IndexOutOfBoundsException") := by
    unfold f_X11_node
    exact xb_iq ok_0 (xb_eq (c_treeAt0 hR h0) rfl)
  have e1 : f_L_node (mg 4625 I J R) 0 x1 x2 x3 4624 = some (1, mg 4625 I J R) := by
    unfold f_L_node
    refine xb_iq ok_0 (xb_eq e0 ?_)
    simp only [xlet, Sum.elim_inr, ↓reduceIte]
  have e2 : f_X12_node_ (mg 4625 I J R) 4561 x1 x2 x3 = some (0, mg 4625 (thI I 1) J R) := by
    unfold f_X12_node_
    refine xb_iq ok_4561 (xb_eq (m_isNode0 h1) ?_)
    rw [if_pos rfl]
    unfold f_X12_node__j15
    rcases m_inE (σ := mg 4625 I J R) (x := x3) (lo := 0) (hi := 5) with hq | hq
    · refine xb_eq hq ?_
      rw [if_pos rfl]
      unfold f_X12_node__j29
      exact xb_iq ok_4561 (m_refX.trans rfl)
    · refine xb_eq hq ?_
      rw [if_neg (by decide)]
      unfold f_X12_node__j29
      exact xb_iq ok_4561 (m_refX.trans rfl)
  exact op_ex e1 e2 thI_0 (by decide) (hP _ _)
theorem p1_isSame {P : xM → Prop} (hP : ∀ I J, P (mg 4625 I J R)) (hR : RA R) (h0 : I 11 5 = 0) (h1 : I 4561 10 = 0) : op_isSame P (mg 4625 I J R) := by
  intro x1 x2
  have e0 : f_X11_isSame (mg 4625 I J R) 0 x1 x2 = some (.inr "java/lang/IndexOutOfBoundsException") := by
    unfold f_X11_isSame
    exact xb_iq ok_0 (xb_eq (c_treeAt0 hR h0) rfl)
  have e1 : f_L_isSame (mg 4625 I J R) 0 x1 x2 4624 = some (1, mg 4625 I J R) := by
    unfold f_L_isSame
    refine xb_iq ok_0 (xb_eq e0 ?_)
    simp only [xlet, Sum.elim_inr, ↓reduceIte]
  have e2 : f_X12_isSame (mg 4625 I J R) 4561 x1 x2 = some (0, mg 4625 (thI I 1) J R) := by
    unfold f_X12_isSame
    refine xb_iq ok_4561 (xb_eq (m_isTree0 h1) ?_)
    rw [if_pos rfl]
    unfold f_X12_isSame_j17
    unfold f_X12_isSame_j22
    exact xb_iq ok_4561 (m_refX.trans rfl)
  exact op_exB e1 e2 thI_0 (by decide) (hP _ _)
theorem p1_part {P : xM → Prop} (hP : ∀ I J, P (mg 4625 I J R)) (hR : RA R) (h0 : I 11 5 = 0) (h1 : I 4561 10 = 0) : op_part P (mg 4625 I J R) := by
  intro x1 x2
  have e0 : f_X11_part (mg 4625 I J R) 0 x1 x2 = some (.inr "java/lang/IndexOutOfBoundsException", mg 4625 I J R) := by
    unfold f_X11_part
    exact xb_iq ok_0 (xb_eq (c_treeAt0 hR h0) rfl)
  have e1 : f_L_part (mg 4625 I J R) 0 x1 x2 4624 = some (1, mg 4625 I J R) := by
    unfold f_L_part
    refine xb_iq ok_0 (xb_eq e0 ?_)
    simp only [xlet, Sum.elim_inr, ↓reduceIte]
  have e2 : f_X12_part (mg 4625 I J R) 4561 x1 x2 = some (0, mg 4625 (thI I 1) J R) := by
    unfold f_X12_part
    refine xb_iq ok_4561 (xb_eq (m_isNode0 h1) ?_)
    rw [if_pos rfl]
    unfold f_X12_part_j15
    refine xb_eq ogI_4561 ?_
    rw [h1, if_neg (by decide)]
    unfold f_X12_part_j29
    exact xb_iq ok_4561 (m_refX.trans rfl)
  exact op_ex e1 e2 thI_0 (by decide) (hP _ _)
theorem p1_graft {P : xM → Prop} (hP : ∀ I J, P (mg 4625 I J R)) (hR : RA R) (h0 : I 11 5 = 0) (h1 : I 4561 10 = 0) : op_graft P (mg 4625 I J R) := by
  intro x1 x2 x3
  have e0 : f_X11_graft (mg 4625 I J R) 0 x1 (ch x2) x3 = some (.inr "java/lang/IndexOutOfBoundsException", mg 4625 I J R) := by
    unfold f_X11_graft
    exact xb_iq ok_0 (xb_eq (c_treeAt0 hR h0) rfl)
  have e1 : f_L_graft (mg 4625 I J R) 0 x1 (ch x2) x3 4624 = some (1, mg 4625 I J R) := by
    unfold f_L_graft
    refine xb_iq ok_0 (xb_eq e0 ?_)
    simp only [xlet, Sum.elim_inr, ↓reduceIte]
  have e2 : f_X12_graft (mg 4625 I J R) 4561 x1 (ch x2) x3 = some (0, mg 4625 (thI I 1) J R) := by
    unfold f_X12_graft
    refine xb_iq ok_4561 (xb_eq (m_isTree0 h1) ?_)
    rw [if_pos rfl]
    unfold f_X12_graft_j17
    unfold f_X12_graft_j22
    rcases m_isNameE (σ := mg 4625 I J R) (c := ch x2) with hq | hq
    · refine xb_eq hq ?_
      rw [if_pos rfl]
      unfold f_X12_graft_j34
      exact xb_iq ok_4561 (m_refX.trans rfl)
    · refine xb_eq hq ?_
      rw [if_neg (by decide)]
      unfold f_X12_graft_j34
      exact xb_iq ok_4561 (m_refX.trans rfl)
  exact op_ex e1 e2 thI_0 (by decide) (hP _ _)
theorem p1_print {P : xM → Prop} (hP : ∀ I J, P (mg 4625 I J R)) (hR : RA R) (h0 : I 11 5 = 0) (h1 : I 4561 10 = 0) : op_print P (mg 4625 I J R) := by
  intro x1
  have e0 : f_X11_print (mg 4625 I J R) 0 x1 = some (.inr "java/lang/IndexOutOfBoundsException", mg 4625 I J R) := by
    unfold f_X11_print
    refine xb_eq (ogR_0_4 hR) ?_
    exact xb_iq ok_0 (xb_eq (c_treeAt0 hR h0) rfl)
  have e1 : f_L_print (mg 4625 I J R) 0 x1 4624 = some (1, mg 4625 I J R) := by
    unfold f_L_print
    refine xb_iq ok_0 (xb_eq e0 ?_)
    simp only [xlet, Sum.elim_inr, ↓reduceIte]
  have e2 : f_X12_print (mg 4625 I J R) 4561 x1 = some (0, mg 4625 (thI I 1) J R) := by
    unfold f_X12_print
    refine xb_iq ok_4561 (xb_eq (m_isTree0 h1) ?_)
    rw [if_pos rfl]
    unfold f_X12_print_j14
    exact xb_iq ok_4561 (m_refX.trans rfl)
  exact op_ex e1 e2 thI_0 (by decide) (hP _ _)
theorem p1_postfix {P : xM → Prop} (hP : ∀ I J, P (mg 4625 I J R)) (hR : RA R) (h0 : I 11 5 = 0) (h1 : I 4561 10 = 0) : op_postfix P (mg 4625 I J R) := by
  intro x1
  have e0 : f_X11_postfix (mg 4625 I J R) 0 x1 = some (.inr "java/lang/IndexOutOfBoundsException", mg 4625 I J R) := by
    unfold f_X11_postfix
    exact xb_iq ok_0 (xb_eq (c_treeAt0 hR h0) rfl)
  have e1 : f_L_postfix (mg 4625 I J R) 0 x1 4624 = some (1, mg 4625 I J R) := by
    unfold f_L_postfix
    refine xb_iq ok_0 (xb_eq e0 ?_)
    simp only [xlet, Sum.elim_inr, ↓reduceIte]
  have e2 : f_X12_postfix (mg 4625 I J R) 4561 x1 = some (0, mg 4625 (thI I 1) J R) := by
    unfold f_X12_postfix
    refine xb_iq ok_4561 (xb_eq (m_isTree0 h1) ?_)
    rw [if_pos rfl]
    unfold f_X12_postfix_j14
    refine xb_iq ok_4561 (xb_eq (m_isTree0 h1) ?_)
    rw [if_pos rfl]
    unfold f_X12_postfix_j37
    unfold f_X12_postfix_j38
    exact xb_iq ok_4561 (m_refX.trans rfl)
  exact op_ex e1 e2 thI_0 (by decide) (hP _ _)
theorem p1_evaluate {P : xM → Prop} (hP : ∀ I J, P (mg 4625 I J R)) (hR : RA R) (h0 : I 11 5 = 0) (h1 : I 4561 10 = 0) : op_evaluate P (mg 4625 I J R) := by
  intro x1
  have e0 : f_X11_evaluate (mg 4625 I J R) 0 x1 = some (.inr "java/lang/IndexOutOfBoundsException", mg 4625 I J R) := by
    unfold f_X11_evaluate
    exact xb_iq ok_0 (xb_eq (c_treeAt0 hR h0) rfl)
  have e1 : f_L_evaluate (mg 4625 I J R) 0 x1 4624 = some (1, mg 4625 I J R) := by
    unfold f_L_evaluate
    refine xb_iq ok_0 (xb_eq e0 ?_)
    simp only [xlet, Sum.elim_inr, ↓reduceIte]
  have e2 : f_X12_evaluate (mg 4625 I J R) 4561 x1 = some (0, mg 4625 (thI I 1) J R) := by
    unfold f_X12_evaluate
    refine xb_iq ok_4561 (xb_eq (m_isTree0 h1) ?_)
    rw [if_pos rfl]
    unfold f_X12_evaluate_j14
    exact xb_iq ok_4561 (m_refX.trans rfl)
  exact op_ex e1 e2 thI_0 (by decide) (hP _ _)
theorem p1_reckon {P : xM → Prop} (hP : ∀ I J, P (mg 4625 I J R)) (hR : RA R) (h0 : I 11 5 = 0) (h1 : I 4561 10 = 0) : op_reckon P (mg 4625 I J R) := by
  intro x1
  have e0 : f_X11_reckon (mg 4625 I J R) 0 x1 = some (.inr "java/lang/IndexOutOfBoundsException", mg 4625 I J R) := by
    unfold f_X11_reckon
    exact xb_iq ok_0 (xb_eq (c_treeAt0 hR h0) rfl)
  have e1 : f_L_reckon (mg 4625 I J R) 0 x1 4624 = some (1, mg 4625 I J R) := by
    unfold f_L_reckon
    refine xb_iq ok_0 (xb_eq e0 ?_)
    simp only [xlet, Sum.elim_inr, ↓reduceIte]
  have e2 : f_X12_reckon (mg 4625 I J R) 4561 x1 = some (0, mg 4625 (thI I 1) J R) := by
    unfold f_X12_reckon
    refine xb_iq ok_4561 (xb_eq (m_isTree0 h1) ?_)
    rw [if_pos rfl]
    unfold f_X12_reckon_j14
    refine xb_iq ok_4561 (xb_eq (m_isTree0 h1) ?_)
    rw [if_pos rfl]
    unfold f_X12_reckon_j37
    unfold f_X12_reckon_j38
    exact xb_iq ok_4561 (m_refX.trans rfl)
  exact op_ex e1 e2 thI_0 (by decide) (hP _ _)
theorem p1_step {P : xM → Prop} (hP : ∀ I J, P (mg 4625 I J R)) (hR : RA R) (h0 : I 11 5 = 0) (h1 : I 4561 10 = 0) : op_step P (mg 4625 I J R) := by
  intro x1
  have e0 : f_X11_step (mg 4625 I J R) 0 x1 = some (.inr "java/lang/IndexOutOfBoundsException", mg 4625 I J R) := by
    unfold f_X11_step
    exact xb_iq ok_0 (xb_eq (c_treeAt0 hR h0) rfl)
  have e1 : f_L_step (mg 4625 I J R) 0 x1 4624 = some (1, mg 4625 I J R) := by
    unfold f_L_step
    refine xb_iq ok_0 (xb_eq e0 ?_)
    simp only [xlet, Sum.elim_inr, ↓reduceIte]
  have e2 : f_X12_step (mg 4625 I J R) 4561 x1 = some (0, mg 4625 (thI I 1) J R) := by
    unfold f_X12_step
    refine xb_iq ok_4561 (xb_eq (m_isTree0 h1) ?_)
    rw [if_pos rfl]
    unfold f_X12_step_j14
    refine xb_eq ogI_4561 ?_
    rw [h1, if_neg (by decide)]
    unfold f_X12_step_j28
    exact xb_iq ok_4561 (m_refX.trans rfl)
  exact op_ex e1 e2 thI_0 (by decide) (hP _ _)
theorem p1_simplify {P : xM → Prop} (hP : ∀ I J, P (mg 4625 I J R)) (hR : RA R) (h0 : I 11 5 = 0) (h1 : I 4561 10 = 0) : op_simplify P (mg 4625 I J R) := by
  intro x1
  have e0 : f_X11_simplify (mg 4625 I J R) 0 x1 = some (.inr "java/lang/IndexOutOfBoundsException", mg 4625 I J R) := by
    unfold f_X11_simplify
    exact xb_iq ok_0 (xb_eq (c_treeAt0 hR h0) rfl)
  have e1 : f_L_simplify (mg 4625 I J R) 0 x1 4624 = some (1, mg 4625 I J R) := by
    unfold f_L_simplify
    refine xb_iq ok_0 (xb_eq e0 ?_)
    simp only [xlet, Sum.elim_inr, ↓reduceIte]
  have e2 : f_X12_simplify (mg 4625 I J R) 4561 x1 = some (0, mg 4625 (thI I 1) J R) := by
    unfold f_X12_simplify
    refine xb_iq ok_4561 (xb_eq (m_isTree0 h1) ?_)
    rw [if_pos rfl]
    unfold f_X12_simplify_j14
    refine xb_eq ogI_4561 ?_
    rw [h1, if_neg (by decide)]
    unfold f_X12_simplify_j28
    exact xb_iq ok_4561 (m_refX.trans rfl)
  exact op_ex e1 e2 thI_0 (by decide) (hP _ _)
theorem p1_gather {P : xM → Prop} (hP : ∀ I J, P (mg 4625 I J R)) (hR : RA R) (h0 : I 11 5 = 0) (h1 : I 4561 10 = 0) : op_gather P (mg 4625 I J R) := by
  intro x1 x2
  have e0 : f_X11_gather (mg 4625 I J R) 0 x1 (ch x2) = some (.inr "java/lang/IndexOutOfBoundsException", mg 4625 I J R) := by
    unfold f_X11_gather
    exact xb_iq ok_0 (xb_eq (c_treeAt0 hR h0) rfl)
  have e1 : f_L_gather (mg 4625 I J R) 0 x1 (ch x2) 4624 = some (1, mg 4625 I J R) := by
    unfold f_L_gather
    refine xb_iq ok_0 (xb_eq e0 ?_)
    simp only [xlet, Sum.elim_inr, ↓reduceIte]
  have e2 : f_X12_gather (mg 4625 I J R) 4561 x1 (ch x2) = some (0, mg 4625 (thI I 1) J R) := by
    unfold f_X12_gather
    refine xb_iq ok_4561 (xb_eq (m_isTree0 h1) ?_)
    rw [if_pos rfl]
    unfold f_X12_gather_j14
    rcases m_isNameE (σ := mg 4625 I J R) (c := ch x2) with hq | hq
    · refine xb_eq hq ?_
      rw [if_pos rfl]
      unfold f_X12_gather_j26
      exact xb_iq ok_4561 (m_refX.trans rfl)
    · refine xb_eq hq ?_
      rw [if_neg (by decide)]
      unfold f_X12_gather_j26
      exact xb_iq ok_4561 (m_refX.trans rfl)
  exact op_ex e1 e2 thI_0 (by decide) (hP _ _)
theorem p1_derive {P : xM → Prop} (hP : ∀ I J, P (mg 4625 I J R)) (hR : RA R) (h0 : I 11 5 = 0) (h1 : I 4561 10 = 0) : op_derive P (mg 4625 I J R) := by
  intro x1 x2
  have e0 : f_X11_derive (mg 4625 I J R) 0 x1 (ch x2) = some (.inr "java/lang/IndexOutOfBoundsException", mg 4625 I J R) := by
    unfold f_X11_derive
    exact xb_iq ok_0 (xb_eq (c_treeAt0 hR h0) rfl)
  have e1 : f_L_derive (mg 4625 I J R) 0 x1 (ch x2) 4624 = some (1, mg 4625 I J R) := by
    unfold f_L_derive
    refine xb_iq ok_0 (xb_eq e0 ?_)
    simp only [xlet, Sum.elim_inr, ↓reduceIte]
  have e2 : f_X12_derive (mg 4625 I J R) 4561 x1 (ch x2) = some (0, mg 4625 (thI I 1) J R) := by
    unfold f_X12_derive
    refine xb_iq ok_4561 (xb_eq (m_isTree0 h1) ?_)
    rw [if_pos rfl]
    unfold f_X12_derive_j14
    rcases m_isNameE (σ := mg 4625 I J R) (c := ch x2) with hq | hq
    · refine xb_eq hq ?_
      rw [if_pos rfl]
      unfold f_X12_derive_j26
      exact xb_iq ok_4561 (m_refX.trans rfl)
    · refine xb_eq hq ?_
      rw [if_neg (by decide)]
      unfold f_X12_derive_j26
      exact xb_iq ok_4561 (m_refX.trans rfl)
  exact op_ex e1 e2 thI_0 (by decide) (hP _ _)
theorem p1_slope {P : xM → Prop} (hP : ∀ I J, P (mg 4625 I J R)) (hR : RA R) (h0 : I 11 5 = 0) (h1 : I 4561 10 = 0) : op_slope P (mg 4625 I J R) := by
  intro x1 x2
  have e0 : f_X11_slope (mg 4625 I J R) 0 x1 (ch x2) = some (.inr "java/lang/IndexOutOfBoundsException", mg 4625 I J R) := by
    unfold f_X11_slope
    exact xb_iq ok_0 (xb_eq (c_treeAt0 hR h0) rfl)
  have e1 : f_L_slope (mg 4625 I J R) 0 x1 (ch x2) 4624 = some (1, mg 4625 I J R) := by
    unfold f_L_slope
    refine xb_iq ok_0 (xb_eq e0 ?_)
    simp only [xlet, Sum.elim_inr, ↓reduceIte]
  have e2 : f_X12_slope (mg 4625 I J R) 4561 x1 (ch x2) = some (0, mg 4625 (thI I 1) J R) := by
    unfold f_X12_slope
    refine xb_iq ok_4561 (xb_eq (m_isTree0 h1) ?_)
    rw [if_pos rfl]
    unfold f_X12_slope_j14
    rcases m_isNameE (σ := mg 4625 I J R) (c := ch x2) with hq | hq
    · refine xb_eq hq ?_
      rw [if_pos rfl]
      unfold f_X12_slope_j26
      refine xb_iq ok_4561 (xb_eq (m_isTree0 h1) ?_)
      rw [if_pos rfl]
      unfold f_X12_slope_j49
      unfold f_X12_slope_j50
      exact xb_iq ok_4561 (m_refX.trans rfl)
    · refine xb_eq hq ?_
      rw [if_neg (by decide)]
      unfold f_X12_slope_j26
      refine xb_iq ok_4561 (xb_eq (m_isTree0 h1) ?_)
      rw [if_pos rfl]
      unfold f_X12_slope_j49
      unfold f_X12_slope_j50
      exact xb_iq ok_4561 (m_refX.trans rfl)
  exact op_ex e1 e2 thI_0 (by decide) (hP _ _)
theorem p1_solve {P : xM → Prop} (hP : ∀ I J, P (mg 4625 I J R)) (hR : RA R) (h0 : I 11 5 = 0) (h1 : I 4561 10 = 0) : op_solve P (mg 4625 I J R) := by
  intro x1 x2
  have e0 : f_X11_solve (mg 4625 I J R) 0 x1 (ch x2) = some (.inr "java/lang/IndexOutOfBoundsException", mg 4625 I J R) := by
    unfold f_X11_solve
    exact xb_iq ok_0 (xb_eq (c_treeAt0 hR h0) rfl)
  have e1 : f_L_solve (mg 4625 I J R) 0 x1 (ch x2) 4624 = some (1, mg 4625 I J R) := by
    unfold f_L_solve
    refine xb_iq ok_0 (xb_eq e0 ?_)
    simp only [xlet, Sum.elim_inr, ↓reduceIte]
  have e2 : f_X12_solve (mg 4625 I J R) 4561 x1 (ch x2) = some (0, mg 4625 (thI I 1) J R) := by
    unfold f_X12_solve
    refine xb_iq ok_4561 (xb_eq (m_isTree0 h1) ?_)
    rw [if_pos rfl]
    unfold f_X12_solve_j14
    rcases m_isNameE (σ := mg 4625 I J R) (c := ch x2) with hq | hq
    · refine xb_eq hq ?_
      rw [if_pos rfl]
      unfold f_X12_solve_j26
      exact xb_iq ok_4561 (m_refX.trans rfl)
    · refine xb_eq hq ?_
      rw [if_neg (by decide)]
      unfold f_X12_solve_j26
      exact xb_iq ok_4561 (m_refX.trans rfl)
  exact op_ex e1 e2 thI_0 (by decide) (hP _ _)
end EP
