/-! ONE TURN OF THE LAW'S LOOP, out of what each call does -/
theorem xe0_me : xe0 = me 0 Ik_0 Rk_0 := by
  have : (fun _ => (0, 0) : Nat → Nat × Nat) = ct 0 := by
    funext x
    unfold ct
    rw [if_neg (by omega)]
  show (0, (fun _ => (0, 0)), Ik_0, zJ, Rk_0) = _
  rw [this]
def begI (l s : Nat → Int32) : Nat → Nat → Int32 := u3 Ik_59 l s (vz 60)
theorem law_begin (aC : Nat → ClassId) : ∃ l s, ∀ r, (xloop (f_L_law_s23 aC) 513 (xkX, 0, 4561, 4624, (0 : Int32), mg 4625 (begI l s) zJ Rk_228)).bind (Sum.elim (fun g => some g) (fun e => some ((1 : Int32), e))) = some r → f_L_law aC xe0 = some r := by
  obtain ⟨l, s, h⟩ := C_X12_init
  refine ⟨l, s, fun r hr => ?_⟩
  have hz : zf 4624 (u3 Ik_59 l s (vz 60)) Rk_228 := fun x hx => ⟨by
    unfold u3
    rw [va_up_ne _ _ (by omega), va_up_ne _ _ (by omega), va_up_ne _ _ (by omega)]
    exact (hz_4624_59_228 x hx).1, (hz_4624_59_228 x hx).2⟩
  rw [xe0_me]
  unfold f_L_law
  refine xb_eq (a := me 1 Ik_0 Rk_0) (e_nwO hz_0_0_0 rfl rfl (by decide)) ?_
  refine xb_eq C_X11_init ?_
  refine xb_eq (a := me 4561 Ik_45 Rk_166) (e_cdo rfl (by decide)) ?_
  refine xb_eq (a := me 4562 Ik_45 Rk_166) (e_nwO hz_4561_45_166 rfl rfl (by decide)) ?_
  refine xb_eq h ?_
  refine xb_eq (a := me 4624 (u3 Ik_59 l s (vz 60)) Rk_228) (e_cdo rfl (by decide)) ?_
  refine xb_eq (a := me 4625 (u3 Ik_59 l s (vz 60)) Rk_228) (e_nwA hz rfl rfl rfl (by decide)) ?_
  exact hr
def ch (x : Int32) : Int32 := (x.toUInt32 % 65536).toInt32
def opW (P : xM → Prop) (fl : Option (Int32 × xM)) (fm : xM → Option (Int32 × xM)) : Prop := ∃ k σ1 b σ2, fl = some (k, σ1) ∧ xk σ1 4561 12 = true ∧ fm σ1 = some (b, σ2) ∧ xk σ2 4561 12 = true ∧ f_X12_thrown σ2 4561 = some k ∧ (k = 0 → ∃ y, aJ σ2 4624 0 = some y ∧ lg_cmp y b.toInt64 = 0) ∧ P σ2
def opB (P : xM → Prop) (fl : Option (Int32 × xM)) (fm : xM → Option (Int32 × xM)) : Prop := ∃ k σ1 b σ2, fl = some (k, σ1) ∧ xk σ1 4561 12 = true ∧ fm σ1 = some (b, σ2) ∧ xk σ2 4561 12 = true ∧ f_X12_thrown σ2 4561 = some k ∧ (k = 0 → ∃ y, aJ σ2 4624 0 = some y ∧ lg_cmp y (if b = 0 then 0 else 1) = 0) ∧ P σ2
def opV (P : xM → Prop) (fl : Option (Int32 × xM)) (fm : xM → Option (Int32 × xM)) : Prop := ∃ k σ1 σ2, fl = some (k, σ1) ∧ xk σ1 4561 12 = true ∧ fm σ1 = some (k, σ2) ∧ P σ2
def op_type (P : xM → Prop) (σ : xM) : Prop := ∀ x1 : Int32, opW P (f_L_type σ 0 (ch x1) 4624) (fun σ => f_X12_type σ 4561 (ch x1))
def op_drop (P : xM → Prop) (σ : xM) : Prop := opV P (f_X11_drop σ 0) (fun σ => f_X12_drop σ 4561)
def op_fault (P : xM → Prop) (σ : xM) : Prop := opV P (f_X11_fault σ 0) (fun σ => f_X12_fault σ 4561)
def op_read (P : xM → Prop) (σ : xM) : Prop := opW P (f_L_read σ 0  4624) (fun σ => f_X12_read σ 4561 )
def op_trees (P : xM → Prop) (σ : xM) : Prop := ∃ k σ2, f_X11_trees σ 0 = some k ∧ xk σ 4561 12 = true ∧ f_X12_trees σ 4561 = some (k, σ2) ∧ P σ2
def op_node (P : xM → Prop) (σ : xM) : Prop := ∀ x1 x2 x3 : Int32, opW P (f_L_node σ 0 x1 x2 x3 4624) (fun σ => f_X12_node_ σ 4561 x1 x2 x3)
def op_isSame (P : xM → Prop) (σ : xM) : Prop := ∀ x1 x2 : Int32, opB P (f_L_isSame σ 0 x1 x2 4624) (fun σ => f_X12_isSame σ 4561 x1 x2)
def op_part (P : xM → Prop) (σ : xM) : Prop := ∀ x1 x2 : Int32, opW P (f_L_part σ 0 x1 x2 4624) (fun σ => f_X12_part σ 4561 x1 x2)
def op_graft (P : xM → Prop) (σ : xM) : Prop := ∀ x1 x2 x3 : Int32, opW P (f_L_graft σ 0 x1 (ch x2) x3 4624) (fun σ => f_X12_graft σ 4561 x1 (ch x2) x3)
def op_tell (P : xM → Prop) (σ : xM) : Prop := ∀ x1 x2 x3 x4 x5 : Int32, opW P (f_L_tell σ 0 (ch x1) x2 x3 x4 x5 4624) (fun σ => f_X12_tell σ 4561 (ch x1) x2 x3 x4 x5)
def op_told (P : xM → Prop) (σ : xM) : Prop := ∀ x1 x2 x3 : Int32, opW P (f_L_told σ 0 (ch x1) x2 x3 4624) (fun σ => f_X12_told σ 4561 (ch x1) x2 x3)
def op_print (P : xM → Prop) (σ : xM) : Prop := ∀ x1 : Int32, opW P (f_L_print σ 0 x1 4624) (fun σ => f_X12_print σ 4561 x1)
def op_postfix (P : xM → Prop) (σ : xM) : Prop := ∀ x1 : Int32, opW P (f_L_postfix σ 0 x1 4624) (fun σ => f_X12_postfix σ 4561 x1)
def op_out (P : xM → Prop) (σ : xM) : Prop := ∀ x1 : Int32, opW P (f_L_out σ 0 x1 4624) (fun σ => f_X12_out σ 4561 x1)
def op_evaluate (P : xM → Prop) (σ : xM) : Prop := ∀ x1 : Int32, opW P (f_L_evaluate σ 0 x1 4624) (fun σ => f_X12_evaluate σ 4561 x1)
def op_reckon (P : xM → Prop) (σ : xM) : Prop := ∀ x1 : Int32, opW P (f_L_reckon σ 0 x1 4624) (fun σ => f_X12_reckon σ 4561 x1)
def op_answer (P : xM → Prop) (σ : xM) : Prop := ∀ x1 x2 : Int32, opW P (f_L_answer σ 0 x1 x2 4624) (fun σ => f_X12_answer σ 4561 x1 x2)
def op_let (P : xM → Prop) (σ : xM) : Prop := ∀ x1 x2 : Int32, opW P (f_L_let σ 0 (ch x1) x2 4624) (fun σ => f_X12_let σ 4561 (ch x1) x2)
def op_unlet (P : xM → Prop) (σ : xM) : Prop := ∀ x1 : Int32, opB P (f_L_unlet σ 0 (ch x1) 4624) (fun σ => f_X12_unlet σ 4561 (ch x1))
def op_recall (P : xM → Prop) (σ : xM) : Prop := ∀ x1 : Int32, opB P (f_L_recall σ 0 (ch x1) 4624) (fun σ => f_X12_recall σ 4561 (ch x1))
def op_define (P : xM → Prop) (σ : xM) : Prop := ∀ x1 x2 : Int32, opW P (f_L_define σ 0 (ch x1) x2 4624) (fun σ => f_X12_define σ 4561 (ch x1) x2)
def op_addCase (P : xM → Prop) (σ : xM) : Prop := ∀ x1 x2 x3 : Int32, opW P (f_L_addCase σ 0 (ch x1) x2 x3 4624) (fun σ => f_X12_addCase σ 4561 (ch x1) x2 x3)
def op_step (P : xM → Prop) (σ : xM) : Prop := ∀ x1 : Int32, opW P (f_L_step σ 0 x1 4624) (fun σ => f_X12_step σ 4561 x1)
def op_simplify (P : xM → Prop) (σ : xM) : Prop := ∀ x1 : Int32, opW P (f_L_simplify σ 0 x1 4624) (fun σ => f_X12_simplify σ 4561 x1)
def op_trace (P : xM → Prop) (σ : xM) : Prop := ∀ x1 x2 : Int32, opW P (f_L_trace σ 0 x1 x2 4624) (fun σ => f_X12_trace σ 4561 x1 x2)
def op_gather (P : xM → Prop) (σ : xM) : Prop := ∀ x1 x2 : Int32, opW P (f_L_gather σ 0 x1 (ch x2) 4624) (fun σ => f_X12_gather σ 4561 x1 (ch x2))
def op_coefficient (P : xM → Prop) (σ : xM) : Prop := ∀ x1 : Int32, opB P (f_L_coefficient σ 0 x1 4624) (fun σ => f_X12_coefficient σ 4561 x1)
def op_derive (P : xM → Prop) (σ : xM) : Prop := ∀ x1 x2 : Int32, opW P (f_L_derive σ 0 x1 (ch x2) 4624) (fun σ => f_X12_derive σ 4561 x1 (ch x2))
def op_slope (P : xM → Prop) (σ : xM) : Prop := ∀ x1 x2 : Int32, opW P (f_L_slope σ 0 x1 (ch x2) 4624) (fun σ => f_X12_slope σ 4561 x1 (ch x2))
def op_solve (P : xM → Prop) (σ : xM) : Prop := ∀ x1 x2 : Int32, opW P (f_L_solve σ 0 x1 (ch x2) 4624) (fun σ => f_X12_solve σ 4561 x1 (ch x2))
def op_undo (P : xM → Prop) (σ : xM) : Prop := opV P (f_X11_undo σ 0) (fun σ => f_X12_undo σ 4561)
def op_audit (P : xM → Prop) (σ : xM) : Prop := ∀ x1 x2 : Int32, opB P (f_L_audit σ 0 x1 x2 4624) (fun σ => f_X12_audit σ 4561 x1 x2)
def AllOps (P : xM → Prop) (σ : xM) : Prop := op_type P σ ∧ op_drop P σ ∧ op_fault P σ ∧ op_read P σ ∧ op_trees P σ ∧ op_node P σ ∧ op_isSame P σ ∧ op_part P σ ∧ op_graft P σ ∧ op_tell P σ ∧ op_told P σ ∧ op_print P σ ∧ op_postfix P σ ∧ op_out P σ ∧ op_evaluate P σ ∧ op_reckon P σ ∧ op_answer P σ ∧ op_let P σ ∧ op_unlet P σ ∧ op_recall P σ ∧ op_define P σ ∧ op_addCase P σ ∧ op_step P σ ∧ op_simplify P σ ∧ op_trace P σ ∧ op_gather P σ ∧ op_coefficient P σ ∧ op_derive P σ ∧ op_slope P σ ∧ op_solve P σ ∧ op_undo P σ ∧ op_audit P σ
theorem hld {aC : Nat → ClassId} {i L : Nat} (c : Nat) (hA : aC 104 = L) (h : i + c < L) (hL : L ≤ 3072) : xLd aC (Int32.ofNat i + Int32.ofNat c) = some (Int32.ofNat (aC (200 + (i + c)))) := by
  unfold xLd
  rw [hA, ← Int32.ofNat_add, if_pos (xvi_nat h (by omega)), i32_nat (by omega)]
theorem hld0 {aC : Nat → ClassId} {i L : Nat} (hA : aC 104 = L) (h : i < L) (hL : L ≤ 3072) : xLd aC (Int32.ofNat i) = some (Int32.ofNat (aC (200 + i))) := by
  unfold xLd
  rw [hA, if_pos (xvi_nat h (by omega)), i32_nat (by omega)]
theorem law_step {P : xM → Prop} {aC : Nat → ClassId} {σ : xM} {l0 i L : Nat} (hA : aC 104 = L) (hL : L ≤ 3072) (hi : i + 6 ≤ L) (hm : xk σ 0 11 = true) (h : AllOps P σ) (hP : P σ) : ∃ σ2, f_L_law_s23 aC (l0, 0, 4561, 4624, Int32.ofNat i, σ) = some (.inr (.inr (l0, 0, 4561, 4624, Int32.ofNat (i + 6), σ2))) ∧ P σ2 := by
  obtain ⟨h_type, h_drop, h_fault, h_read, h_trees, h_node, h_isSame, h_part, h_graft, h_tell, h_told, h_print, h_postfix, h_out, h_evaluate, h_reckon, h_answer, h_let, h_unlet, h_recall, h_define, h_addCase, h_step, h_simplify, h_trace, h_gather, h_coefficient, h_derive, h_slope, h_solve, h_undo, h_audit⟩ := h
  have fin : ∀ σ2, f_L_law_j2129 aC σ2 l0 0 4561 4624 (Int32.ofNat i) = some (.inr (.inr (l0, 0, 4561, 4624, Int32.ofNat (i + 6), σ2))) := fun σ2 => by
    unfold f_L_law_j2129 xlet
    rw [show (6 : Int32) = Int32.ofNat 6 from rfl, ← Int32.ofNat_add]
  unfold f_L_law_s23 xlet
  dsimp only
  rw [hA, if_neg (show ¬ (Int32.ofNat L - (6 : Int32) < Int32.ofNat i) from fun q => by
    obtain ⟨k, hk⟩ : ∃ k, L = k + 6 := ⟨L - 6, by omega⟩
    rw [hk, Int32.ofNat_add, show (6 : Int32) = Int32.ofNat 6 from rfl, Int32.add_sub_cancel, i32_lt (by omega) (by omega)] at q
    omega)]
  rw [hld0 hA (by omega) hL]
  show ∃ σ2, (if Int32.ofNat (aC (200 + i)) &&& (31 : Int32) = (0 : Int32) then _ else _) = _ ∧ _
  generalize Int32.ofNat (aC (200 + i)) &&& (31 : Int32) = v
  by_cases q0 : v = (0 : Int32)
  · obtain ⟨k, σ1, b, σ2, e1, e2, e3, e4, e5, e6, e7⟩ := h_type (Int32.ofNat (aC (200 + (i + 1))))
    refine ⟨σ2, ?_, e7⟩
    rw [if_pos q0]
    refine xb_eq (hld 1 hA (by omega) hL) ?_
    refine xb_eq e1 ?_
    refine xb_eq (hld 1 hA (by omega) hL) ?_
    refine xb_iq e2 (xb_eq e3 (xb_iq e4 (xb_eq e5 ?_)))
    rw [if_pos rfl]
    by_cases hk : k = 0
    · obtain ⟨y, e8, e9⟩ := e6 hk
      rw [if_pos hk]
      refine xb_eq e8 ?_
      rw [if_pos e9]
      exact fin σ2
    · rw [if_neg hk]
      exact fin σ2
  rw [if_neg q0]
  by_cases q1 : v = (1 : Int32)
  · obtain ⟨k, σ1, σ2, e1, e2, e3, e4⟩ := h_drop
    refine ⟨σ2, ?_, e4⟩
    rw [if_pos q1]
    refine xb_iq hm (xb_eq e1 (xb_iq e2 (xb_eq e3 ?_)))
    rw [if_pos rfl]
    exact fin σ2
  rw [if_neg q1]
  by_cases q2 : v = (2 : Int32)
  · obtain ⟨k, σ1, σ2, e1, e2, e3, e4⟩ := h_fault
    refine ⟨σ2, ?_, e4⟩
    rw [if_pos q2]
    refine xb_iq hm (xb_eq e1 (xb_iq e2 (xb_eq e3 ?_)))
    rw [if_pos rfl]
    exact fin σ2
  rw [if_neg q2]
  by_cases q3 : v = (3 : Int32)
  · obtain ⟨k, σ1, b, σ2, e1, e2, e3, e4, e5, e6, e7⟩ := h_read 
    refine ⟨σ2, ?_, e7⟩
    rw [if_pos q3]
    refine xb_eq e1 ?_
    refine xb_iq e2 (xb_eq e3 (xb_iq e4 (xb_eq e5 ?_)))
    rw [if_pos rfl]
    by_cases hk : k = 0
    · obtain ⟨y, e8, e9⟩ := e6 hk
      rw [if_pos hk]
      refine xb_eq e8 ?_
      rw [if_pos e9]
      exact fin σ2
    · rw [if_neg hk]
      exact fin σ2
  rw [if_neg q3]
  by_cases q4 : v = (4 : Int32)
  · obtain ⟨k, σ2, e1, e2, e3, e4⟩ := h_trees
    refine ⟨σ2, ?_, e4⟩
    rw [if_pos q4]
    refine xb_iq hm (xb_eq e1 (xb_iq e2 (xb_eq e3 ?_)))
    rw [if_pos rfl]
    exact fin σ2
  rw [if_neg q4]
  by_cases q5 : v = (5 : Int32)
  · obtain ⟨k, σ1, b, σ2, e1, e2, e3, e4, e5, e6, e7⟩ := h_node (Int32.ofNat (aC (200 + (i + 1)))) (Int32.ofNat (aC (200 + (i + 2)))) (Int32.ofNat (aC (200 + (i + 3))))
    refine ⟨σ2, ?_, e7⟩
    rw [if_pos q5]
    refine xb_eq (hld 1 hA (by omega) hL) ?_
    refine xb_eq (hld 2 hA (by omega) hL) ?_
    refine xb_eq (hld 3 hA (by omega) hL) ?_
    refine xb_eq e1 ?_
    refine xb_eq (hld 1 hA (by omega) hL) ?_
    refine xb_eq (hld 2 hA (by omega) hL) ?_
    refine xb_eq (hld 3 hA (by omega) hL) ?_
    refine xb_iq e2 (xb_eq e3 (xb_iq e4 (xb_eq e5 ?_)))
    rw [if_pos rfl]
    by_cases hk : k = 0
    · obtain ⟨y, e8, e9⟩ := e6 hk
      rw [if_pos hk]
      refine xb_eq e8 ?_
      rw [if_pos e9]
      exact fin σ2
    · rw [if_neg hk]
      exact fin σ2
  rw [if_neg q5]
  by_cases q6 : v = (6 : Int32)
  · obtain ⟨k, σ1, b, σ2, e1, e2, e3, e4, e5, e6, e7⟩ := h_isSame (Int32.ofNat (aC (200 + (i + 1)))) (Int32.ofNat (aC (200 + (i + 2))))
    refine ⟨σ2, ?_, e7⟩
    rw [if_pos q6]
    refine xb_eq (hld 1 hA (by omega) hL) ?_
    refine xb_eq (hld 2 hA (by omega) hL) ?_
    refine xb_eq e1 ?_
    refine xb_eq (hld 1 hA (by omega) hL) ?_
    refine xb_eq (hld 2 hA (by omega) hL) ?_
    refine xb_iq e2 (xb_eq e3 (xb_iq e4 (xb_eq e5 ?_)))
    rw [if_pos rfl]
    by_cases hk : k = 0
    · obtain ⟨y, e8, e9⟩ := e6 hk
      rw [if_pos hk]
      refine xb_eq e8 ?_
      by_cases hb : b = 0
      · rw [if_pos hb] at e9
        rw [if_pos hb]
        unfold f_L_law_j471
        rw [if_pos e9]
        exact fin σ2
      · rw [if_neg hb] at e9
        rw [if_neg hb]
        unfold f_L_law_j471
        rw [if_pos e9]
        exact fin σ2
    · rw [if_neg hk]
      exact fin σ2
  rw [if_neg q6]
  by_cases q7 : v = (7 : Int32)
  · obtain ⟨k, σ1, b, σ2, e1, e2, e3, e4, e5, e6, e7⟩ := h_part (Int32.ofNat (aC (200 + (i + 1)))) (Int32.ofNat (aC (200 + (i + 2))))
    refine ⟨σ2, ?_, e7⟩
    rw [if_pos q7]
    refine xb_eq (hld 1 hA (by omega) hL) ?_
    refine xb_eq (hld 2 hA (by omega) hL) ?_
    refine xb_eq e1 ?_
    refine xb_eq (hld 1 hA (by omega) hL) ?_
    refine xb_eq (hld 2 hA (by omega) hL) ?_
    refine xb_iq e2 (xb_eq e3 (xb_iq e4 (xb_eq e5 ?_)))
    rw [if_pos rfl]
    by_cases hk : k = 0
    · obtain ⟨y, e8, e9⟩ := e6 hk
      rw [if_pos hk]
      refine xb_eq e8 ?_
      rw [if_pos e9]
      exact fin σ2
    · rw [if_neg hk]
      exact fin σ2
  rw [if_neg q7]
  by_cases q8 : v = (8 : Int32)
  · obtain ⟨k, σ1, b, σ2, e1, e2, e3, e4, e5, e6, e7⟩ := h_graft (Int32.ofNat (aC (200 + (i + 1)))) (Int32.ofNat (aC (200 + (i + 2)))) (Int32.ofNat (aC (200 + (i + 3))))
    refine ⟨σ2, ?_, e7⟩
    rw [if_pos q8]
    refine xb_eq (hld 1 hA (by omega) hL) ?_
    refine xb_eq (hld 2 hA (by omega) hL) ?_
    refine xb_eq (hld 3 hA (by omega) hL) ?_
    refine xb_eq e1 ?_
    refine xb_eq (hld 1 hA (by omega) hL) ?_
    refine xb_eq (hld 2 hA (by omega) hL) ?_
    refine xb_eq (hld 3 hA (by omega) hL) ?_
    refine xb_iq e2 (xb_eq e3 (xb_iq e4 (xb_eq e5 ?_)))
    rw [if_pos rfl]
    by_cases hk : k = 0
    · obtain ⟨y, e8, e9⟩ := e6 hk
      rw [if_pos hk]
      refine xb_eq e8 ?_
      rw [if_pos e9]
      exact fin σ2
    · rw [if_neg hk]
      exact fin σ2
  rw [if_neg q8]
  by_cases q9 : v = (9 : Int32)
  · obtain ⟨k, σ1, b, σ2, e1, e2, e3, e4, e5, e6, e7⟩ := h_tell (Int32.ofNat (aC (200 + (i + 1)))) (Int32.ofNat (aC (200 + (i + 2)))) (Int32.ofNat (aC (200 + (i + 3)))) (Int32.ofNat (aC (200 + (i + 4)))) (Int32.ofNat (aC (200 + (i + 5))))
    refine ⟨σ2, ?_, e7⟩
    rw [if_pos q9]
    refine xb_eq (hld 1 hA (by omega) hL) ?_
    refine xb_eq (hld 2 hA (by omega) hL) ?_
    refine xb_eq (hld 3 hA (by omega) hL) ?_
    refine xb_eq (hld 4 hA (by omega) hL) ?_
    refine xb_eq (hld 5 hA (by omega) hL) ?_
    refine xb_eq e1 ?_
    refine xb_eq (hld 1 hA (by omega) hL) ?_
    refine xb_eq (hld 2 hA (by omega) hL) ?_
    refine xb_eq (hld 3 hA (by omega) hL) ?_
    refine xb_eq (hld 4 hA (by omega) hL) ?_
    refine xb_eq (hld 5 hA (by omega) hL) ?_
    refine xb_iq e2 (xb_eq e3 (xb_iq e4 (xb_eq e5 ?_)))
    rw [if_pos rfl]
    by_cases hk : k = 0
    · obtain ⟨y, e8, e9⟩ := e6 hk
      rw [if_pos hk]
      refine xb_eq e8 ?_
      rw [if_pos e9]
      exact fin σ2
    · rw [if_neg hk]
      exact fin σ2
  rw [if_neg q9]
  by_cases q10 : v = (10 : Int32)
  · obtain ⟨k, σ1, b, σ2, e1, e2, e3, e4, e5, e6, e7⟩ := h_told (Int32.ofNat (aC (200 + (i + 1)))) (Int32.ofNat (aC (200 + (i + 2)))) (Int32.ofNat (aC (200 + (i + 3))))
    refine ⟨σ2, ?_, e7⟩
    rw [if_pos q10]
    refine xb_eq (hld 1 hA (by omega) hL) ?_
    refine xb_eq (hld 2 hA (by omega) hL) ?_
    refine xb_eq (hld 3 hA (by omega) hL) ?_
    refine xb_eq e1 ?_
    refine xb_eq (hld 1 hA (by omega) hL) ?_
    refine xb_eq (hld 2 hA (by omega) hL) ?_
    refine xb_eq (hld 3 hA (by omega) hL) ?_
    refine xb_iq e2 (xb_eq e3 (xb_iq e4 (xb_eq e5 ?_)))
    rw [if_pos rfl]
    by_cases hk : k = 0
    · obtain ⟨y, e8, e9⟩ := e6 hk
      rw [if_pos hk]
      refine xb_eq e8 ?_
      rw [if_pos e9]
      exact fin σ2
    · rw [if_neg hk]
      exact fin σ2
  rw [if_neg q10]
  by_cases q11 : v = (11 : Int32)
  · obtain ⟨k, σ1, b, σ2, e1, e2, e3, e4, e5, e6, e7⟩ := h_print (Int32.ofNat (aC (200 + (i + 1))))
    refine ⟨σ2, ?_, e7⟩
    rw [if_pos q11]
    refine xb_eq (hld 1 hA (by omega) hL) ?_
    refine xb_eq e1 ?_
    refine xb_eq (hld 1 hA (by omega) hL) ?_
    refine xb_iq e2 (xb_eq e3 (xb_iq e4 (xb_eq e5 ?_)))
    rw [if_pos rfl]
    by_cases hk : k = 0
    · obtain ⟨y, e8, e9⟩ := e6 hk
      rw [if_pos hk]
      refine xb_eq e8 ?_
      rw [if_pos e9]
      exact fin σ2
    · rw [if_neg hk]
      exact fin σ2
  rw [if_neg q11]
  by_cases q12 : v = (12 : Int32)
  · obtain ⟨k, σ1, b, σ2, e1, e2, e3, e4, e5, e6, e7⟩ := h_postfix (Int32.ofNat (aC (200 + (i + 1))))
    refine ⟨σ2, ?_, e7⟩
    rw [if_pos q12]
    refine xb_eq (hld 1 hA (by omega) hL) ?_
    refine xb_eq e1 ?_
    refine xb_eq (hld 1 hA (by omega) hL) ?_
    refine xb_iq e2 (xb_eq e3 (xb_iq e4 (xb_eq e5 ?_)))
    rw [if_pos rfl]
    by_cases hk : k = 0
    · obtain ⟨y, e8, e9⟩ := e6 hk
      rw [if_pos hk]
      refine xb_eq e8 ?_
      rw [if_pos e9]
      exact fin σ2
    · rw [if_neg hk]
      exact fin σ2
  rw [if_neg q12]
  by_cases q13 : v = (13 : Int32)
  · obtain ⟨k, σ1, b, σ2, e1, e2, e3, e4, e5, e6, e7⟩ := h_out (Int32.ofNat (aC (200 + (i + 1))))
    refine ⟨σ2, ?_, e7⟩
    rw [if_pos q13]
    refine xb_eq (hld 1 hA (by omega) hL) ?_
    refine xb_eq e1 ?_
    refine xb_eq (hld 1 hA (by omega) hL) ?_
    refine xb_iq e2 (xb_eq e3 (xb_iq e4 (xb_eq e5 ?_)))
    rw [if_pos rfl]
    by_cases hk : k = 0
    · obtain ⟨y, e8, e9⟩ := e6 hk
      rw [if_pos hk]
      refine xb_eq e8 ?_
      rw [if_pos e9]
      exact fin σ2
    · rw [if_neg hk]
      exact fin σ2
  rw [if_neg q13]
  by_cases q14 : v = (14 : Int32)
  · obtain ⟨k, σ1, b, σ2, e1, e2, e3, e4, e5, e6, e7⟩ := h_evaluate (Int32.ofNat (aC (200 + (i + 1))))
    refine ⟨σ2, ?_, e7⟩
    rw [if_pos q14]
    refine xb_eq (hld 1 hA (by omega) hL) ?_
    refine xb_eq e1 ?_
    refine xb_eq (hld 1 hA (by omega) hL) ?_
    refine xb_iq e2 (xb_eq e3 (xb_iq e4 (xb_eq e5 ?_)))
    rw [if_pos rfl]
    by_cases hk : k = 0
    · obtain ⟨y, e8, e9⟩ := e6 hk
      rw [if_pos hk]
      refine xb_eq e8 ?_
      rw [if_pos e9]
      exact fin σ2
    · rw [if_neg hk]
      exact fin σ2
  rw [if_neg q14]
  by_cases q15 : v = (15 : Int32)
  · obtain ⟨k, σ1, b, σ2, e1, e2, e3, e4, e5, e6, e7⟩ := h_reckon (Int32.ofNat (aC (200 + (i + 1))))
    refine ⟨σ2, ?_, e7⟩
    rw [if_pos q15]
    refine xb_eq (hld 1 hA (by omega) hL) ?_
    refine xb_eq e1 ?_
    refine xb_eq (hld 1 hA (by omega) hL) ?_
    refine xb_iq e2 (xb_eq e3 (xb_iq e4 (xb_eq e5 ?_)))
    rw [if_pos rfl]
    by_cases hk : k = 0
    · obtain ⟨y, e8, e9⟩ := e6 hk
      rw [if_pos hk]
      refine xb_eq e8 ?_
      rw [if_pos e9]
      exact fin σ2
    · rw [if_neg hk]
      exact fin σ2
  rw [if_neg q15]
  by_cases q16 : v = (16 : Int32)
  · obtain ⟨k, σ1, b, σ2, e1, e2, e3, e4, e5, e6, e7⟩ := h_answer (Int32.ofNat (aC (200 + (i + 1)))) (Int32.ofNat (aC (200 + (i + 2))))
    refine ⟨σ2, ?_, e7⟩
    rw [if_pos q16]
    refine xb_eq (hld 1 hA (by omega) hL) ?_
    refine xb_eq (hld 2 hA (by omega) hL) ?_
    refine xb_eq e1 ?_
    refine xb_eq (hld 1 hA (by omega) hL) ?_
    refine xb_eq (hld 2 hA (by omega) hL) ?_
    refine xb_iq e2 (xb_eq e3 (xb_iq e4 (xb_eq e5 ?_)))
    rw [if_pos rfl]
    by_cases hk : k = 0
    · obtain ⟨y, e8, e9⟩ := e6 hk
      rw [if_pos hk]
      refine xb_eq e8 ?_
      rw [if_pos e9]
      exact fin σ2
    · rw [if_neg hk]
      exact fin σ2
  rw [if_neg q16]
  by_cases q17 : v = (17 : Int32)
  · obtain ⟨k, σ1, b, σ2, e1, e2, e3, e4, e5, e6, e7⟩ := h_let (Int32.ofNat (aC (200 + (i + 1)))) (Int32.ofNat (aC (200 + (i + 2))))
    refine ⟨σ2, ?_, e7⟩
    rw [if_pos q17]
    refine xb_eq (hld 1 hA (by omega) hL) ?_
    refine xb_eq (hld 2 hA (by omega) hL) ?_
    refine xb_eq e1 ?_
    refine xb_eq (hld 1 hA (by omega) hL) ?_
    refine xb_eq (hld 2 hA (by omega) hL) ?_
    refine xb_iq e2 (xb_eq e3 (xb_iq e4 (xb_eq e5 ?_)))
    rw [if_pos rfl]
    by_cases hk : k = 0
    · obtain ⟨y, e8, e9⟩ := e6 hk
      rw [if_pos hk]
      refine xb_eq e8 ?_
      rw [if_pos e9]
      exact fin σ2
    · rw [if_neg hk]
      exact fin σ2
  rw [if_neg q17]
  by_cases q18 : v = (18 : Int32)
  · obtain ⟨k, σ1, b, σ2, e1, e2, e3, e4, e5, e6, e7⟩ := h_unlet (Int32.ofNat (aC (200 + (i + 1))))
    refine ⟨σ2, ?_, e7⟩
    rw [if_pos q18]
    refine xb_eq (hld 1 hA (by omega) hL) ?_
    refine xb_eq e1 ?_
    refine xb_eq (hld 1 hA (by omega) hL) ?_
    refine xb_iq e2 (xb_eq e3 (xb_iq e4 (xb_eq e5 ?_)))
    rw [if_pos rfl]
    by_cases hk : k = 0
    · obtain ⟨y, e8, e9⟩ := e6 hk
      rw [if_pos hk]
      refine xb_eq e8 ?_
      by_cases hb : b = 0
      · rw [if_pos hb] at e9
        rw [if_pos hb]
        unfold f_L_law_j1292
        rw [if_pos e9]
        exact fin σ2
      · rw [if_neg hb] at e9
        rw [if_neg hb]
        unfold f_L_law_j1292
        rw [if_pos e9]
        exact fin σ2
    · rw [if_neg hk]
      exact fin σ2
  rw [if_neg q18]
  by_cases q19 : v = (19 : Int32)
  · obtain ⟨k, σ1, b, σ2, e1, e2, e3, e4, e5, e6, e7⟩ := h_recall (Int32.ofNat (aC (200 + (i + 1))))
    refine ⟨σ2, ?_, e7⟩
    rw [if_pos q19]
    refine xb_eq (hld 1 hA (by omega) hL) ?_
    refine xb_eq e1 ?_
    refine xb_eq (hld 1 hA (by omega) hL) ?_
    refine xb_iq e2 (xb_eq e3 (xb_iq e4 (xb_eq e5 ?_)))
    rw [if_pos rfl]
    by_cases hk : k = 0
    · obtain ⟨y, e8, e9⟩ := e6 hk
      rw [if_pos hk]
      refine xb_eq e8 ?_
      by_cases hb : b = 0
      · rw [if_pos hb] at e9
        rw [if_pos hb]
        unfold f_L_law_j1357
        rw [if_pos e9]
        exact fin σ2
      · rw [if_neg hb] at e9
        rw [if_neg hb]
        unfold f_L_law_j1357
        rw [if_pos e9]
        exact fin σ2
    · rw [if_neg hk]
      exact fin σ2
  rw [if_neg q19]
  by_cases q20 : v = (20 : Int32)
  · obtain ⟨k, σ1, b, σ2, e1, e2, e3, e4, e5, e6, e7⟩ := h_define (Int32.ofNat (aC (200 + (i + 1)))) (Int32.ofNat (aC (200 + (i + 2))))
    refine ⟨σ2, ?_, e7⟩
    rw [if_pos q20]
    refine xb_eq (hld 1 hA (by omega) hL) ?_
    refine xb_eq (hld 2 hA (by omega) hL) ?_
    refine xb_eq e1 ?_
    refine xb_eq (hld 1 hA (by omega) hL) ?_
    refine xb_eq (hld 2 hA (by omega) hL) ?_
    refine xb_iq e2 (xb_eq e3 (xb_iq e4 (xb_eq e5 ?_)))
    rw [if_pos rfl]
    by_cases hk : k = 0
    · obtain ⟨y, e8, e9⟩ := e6 hk
      rw [if_pos hk]
      refine xb_eq e8 ?_
      rw [if_pos e9]
      exact fin σ2
    · rw [if_neg hk]
      exact fin σ2
  rw [if_neg q20]
  by_cases q21 : v = (21 : Int32)
  · obtain ⟨k, σ1, b, σ2, e1, e2, e3, e4, e5, e6, e7⟩ := h_addCase (Int32.ofNat (aC (200 + (i + 1)))) (Int32.ofNat (aC (200 + (i + 2)))) (Int32.ofNat (aC (200 + (i + 3))))
    refine ⟨σ2, ?_, e7⟩
    rw [if_pos q21]
    refine xb_eq (hld 1 hA (by omega) hL) ?_
    refine xb_eq (hld 2 hA (by omega) hL) ?_
    refine xb_eq (hld 3 hA (by omega) hL) ?_
    refine xb_eq e1 ?_
    refine xb_eq (hld 1 hA (by omega) hL) ?_
    refine xb_eq (hld 2 hA (by omega) hL) ?_
    refine xb_eq (hld 3 hA (by omega) hL) ?_
    refine xb_iq e2 (xb_eq e3 (xb_iq e4 (xb_eq e5 ?_)))
    rw [if_pos rfl]
    by_cases hk : k = 0
    · obtain ⟨y, e8, e9⟩ := e6 hk
      rw [if_pos hk]
      refine xb_eq e8 ?_
      rw [if_pos e9]
      exact fin σ2
    · rw [if_neg hk]
      exact fin σ2
  rw [if_neg q21]
  by_cases q22 : v = (22 : Int32)
  · obtain ⟨k, σ1, b, σ2, e1, e2, e3, e4, e5, e6, e7⟩ := h_step (Int32.ofNat (aC (200 + (i + 1))))
    refine ⟨σ2, ?_, e7⟩
    rw [if_pos q22]
    refine xb_eq (hld 1 hA (by omega) hL) ?_
    refine xb_eq e1 ?_
    refine xb_eq (hld 1 hA (by omega) hL) ?_
    refine xb_iq e2 (xb_eq e3 (xb_iq e4 (xb_eq e5 ?_)))
    rw [if_pos rfl]
    by_cases hk : k = 0
    · obtain ⟨y, e8, e9⟩ := e6 hk
      rw [if_pos hk]
      refine xb_eq e8 ?_
      rw [if_pos e9]
      exact fin σ2
    · rw [if_neg hk]
      exact fin σ2
  rw [if_neg q22]
  by_cases q23 : v = (23 : Int32)
  · obtain ⟨k, σ1, b, σ2, e1, e2, e3, e4, e5, e6, e7⟩ := h_simplify (Int32.ofNat (aC (200 + (i + 1))))
    refine ⟨σ2, ?_, e7⟩
    rw [if_pos q23]
    refine xb_eq (hld 1 hA (by omega) hL) ?_
    refine xb_eq e1 ?_
    refine xb_eq (hld 1 hA (by omega) hL) ?_
    refine xb_iq e2 (xb_eq e3 (xb_iq e4 (xb_eq e5 ?_)))
    rw [if_pos rfl]
    by_cases hk : k = 0
    · obtain ⟨y, e8, e9⟩ := e6 hk
      rw [if_pos hk]
      refine xb_eq e8 ?_
      rw [if_pos e9]
      exact fin σ2
    · rw [if_neg hk]
      exact fin σ2
  rw [if_neg q23]
  by_cases q24 : v = (24 : Int32)
  · obtain ⟨k, σ1, b, σ2, e1, e2, e3, e4, e5, e6, e7⟩ := h_trace (Int32.ofNat (aC (200 + (i + 1)))) (Int32.ofNat (aC (200 + (i + 2))))
    refine ⟨σ2, ?_, e7⟩
    rw [if_pos q24]
    refine xb_eq (hld 1 hA (by omega) hL) ?_
    refine xb_eq (hld 2 hA (by omega) hL) ?_
    refine xb_eq e1 ?_
    refine xb_eq (hld 1 hA (by omega) hL) ?_
    refine xb_eq (hld 2 hA (by omega) hL) ?_
    refine xb_iq e2 (xb_eq e3 (xb_iq e4 (xb_eq e5 ?_)))
    rw [if_pos rfl]
    by_cases hk : k = 0
    · obtain ⟨y, e8, e9⟩ := e6 hk
      rw [if_pos hk]
      refine xb_eq e8 ?_
      rw [if_pos e9]
      exact fin σ2
    · rw [if_neg hk]
      exact fin σ2
  rw [if_neg q24]
  by_cases q25 : v = (25 : Int32)
  · obtain ⟨k, σ1, b, σ2, e1, e2, e3, e4, e5, e6, e7⟩ := h_gather (Int32.ofNat (aC (200 + (i + 1)))) (Int32.ofNat (aC (200 + (i + 2))))
    refine ⟨σ2, ?_, e7⟩
    rw [if_pos q25]
    refine xb_eq (hld 1 hA (by omega) hL) ?_
    refine xb_eq (hld 2 hA (by omega) hL) ?_
    refine xb_eq e1 ?_
    refine xb_eq (hld 1 hA (by omega) hL) ?_
    refine xb_eq (hld 2 hA (by omega) hL) ?_
    refine xb_iq e2 (xb_eq e3 (xb_iq e4 (xb_eq e5 ?_)))
    rw [if_pos rfl]
    by_cases hk : k = 0
    · obtain ⟨y, e8, e9⟩ := e6 hk
      rw [if_pos hk]
      refine xb_eq e8 ?_
      rw [if_pos e9]
      exact fin σ2
    · rw [if_neg hk]
      exact fin σ2
  rw [if_neg q25]
  by_cases q26 : v = (26 : Int32)
  · obtain ⟨k, σ1, b, σ2, e1, e2, e3, e4, e5, e6, e7⟩ := h_coefficient (Int32.ofNat (aC (200 + (i + 1))))
    refine ⟨σ2, ?_, e7⟩
    rw [if_pos q26]
    refine xb_eq (hld 1 hA (by omega) hL) ?_
    refine xb_eq e1 ?_
    refine xb_eq (hld 1 hA (by omega) hL) ?_
    refine xb_iq e2 (xb_eq e3 (xb_iq e4 (xb_eq e5 ?_)))
    rw [if_pos rfl]
    by_cases hk : k = 0
    · obtain ⟨y, e8, e9⟩ := e6 hk
      rw [if_pos hk]
      refine xb_eq e8 ?_
      by_cases hb : b = 0
      · rw [if_pos hb] at e9
        rw [if_pos hb]
        unfold f_L_law_j1822
        rw [if_pos e9]
        exact fin σ2
      · rw [if_neg hb] at e9
        rw [if_neg hb]
        unfold f_L_law_j1822
        rw [if_pos e9]
        exact fin σ2
    · rw [if_neg hk]
      exact fin σ2
  rw [if_neg q26]
  by_cases q27 : v = (27 : Int32)
  · obtain ⟨k, σ1, b, σ2, e1, e2, e3, e4, e5, e6, e7⟩ := h_derive (Int32.ofNat (aC (200 + (i + 1)))) (Int32.ofNat (aC (200 + (i + 2))))
    refine ⟨σ2, ?_, e7⟩
    rw [if_pos q27]
    refine xb_eq (hld 1 hA (by omega) hL) ?_
    refine xb_eq (hld 2 hA (by omega) hL) ?_
    refine xb_eq e1 ?_
    refine xb_eq (hld 1 hA (by omega) hL) ?_
    refine xb_eq (hld 2 hA (by omega) hL) ?_
    refine xb_iq e2 (xb_eq e3 (xb_iq e4 (xb_eq e5 ?_)))
    rw [if_pos rfl]
    by_cases hk : k = 0
    · obtain ⟨y, e8, e9⟩ := e6 hk
      rw [if_pos hk]
      refine xb_eq e8 ?_
      rw [if_pos e9]
      exact fin σ2
    · rw [if_neg hk]
      exact fin σ2
  rw [if_neg q27]
  by_cases q28 : v = (28 : Int32)
  · obtain ⟨k, σ1, b, σ2, e1, e2, e3, e4, e5, e6, e7⟩ := h_slope (Int32.ofNat (aC (200 + (i + 1)))) (Int32.ofNat (aC (200 + (i + 2))))
    refine ⟨σ2, ?_, e7⟩
    rw [if_pos q28]
    refine xb_eq (hld 1 hA (by omega) hL) ?_
    refine xb_eq (hld 2 hA (by omega) hL) ?_
    refine xb_eq e1 ?_
    refine xb_eq (hld 1 hA (by omega) hL) ?_
    refine xb_eq (hld 2 hA (by omega) hL) ?_
    refine xb_iq e2 (xb_eq e3 (xb_iq e4 (xb_eq e5 ?_)))
    rw [if_pos rfl]
    by_cases hk : k = 0
    · obtain ⟨y, e8, e9⟩ := e6 hk
      rw [if_pos hk]
      refine xb_eq e8 ?_
      rw [if_pos e9]
      exact fin σ2
    · rw [if_neg hk]
      exact fin σ2
  rw [if_neg q28]
  by_cases q29 : v = (29 : Int32)
  · obtain ⟨k, σ1, b, σ2, e1, e2, e3, e4, e5, e6, e7⟩ := h_solve (Int32.ofNat (aC (200 + (i + 1)))) (Int32.ofNat (aC (200 + (i + 2))))
    refine ⟨σ2, ?_, e7⟩
    rw [if_pos q29]
    refine xb_eq (hld 1 hA (by omega) hL) ?_
    refine xb_eq (hld 2 hA (by omega) hL) ?_
    refine xb_eq e1 ?_
    refine xb_eq (hld 1 hA (by omega) hL) ?_
    refine xb_eq (hld 2 hA (by omega) hL) ?_
    refine xb_iq e2 (xb_eq e3 (xb_iq e4 (xb_eq e5 ?_)))
    rw [if_pos rfl]
    by_cases hk : k = 0
    · obtain ⟨y, e8, e9⟩ := e6 hk
      rw [if_pos hk]
      refine xb_eq e8 ?_
      rw [if_pos e9]
      exact fin σ2
    · rw [if_neg hk]
      exact fin σ2
  rw [if_neg q29]
  by_cases q30 : v = (30 : Int32)
  · obtain ⟨k, σ1, σ2, e1, e2, e3, e4⟩ := h_undo
    refine ⟨σ2, ?_, e4⟩
    rw [if_pos q30]
    refine xb_iq hm (xb_eq e1 (xb_iq e2 (xb_eq e3 ?_)))
    rw [if_pos rfl]
    exact fin σ2
  rw [if_neg q30]
  by_cases q31 : v = (31 : Int32)
  · obtain ⟨k, σ1, b, σ2, e1, e2, e3, e4, e5, e6, e7⟩ := h_audit (Int32.ofNat (aC (200 + (i + 1)))) (Int32.ofNat (aC (200 + (i + 2))))
    refine ⟨σ2, ?_, e7⟩
    rw [if_pos q31]
    refine xb_eq (hld 1 hA (by omega) hL) ?_
    refine xb_eq (hld 2 hA (by omega) hL) ?_
    refine xb_eq e1 ?_
    refine xb_eq (hld 1 hA (by omega) hL) ?_
    refine xb_eq (hld 2 hA (by omega) hL) ?_
    refine xb_iq e2 (xb_eq e3 (xb_iq e4 (xb_eq e5 ?_)))
    rw [if_pos rfl]
    by_cases hk : k = 0
    · obtain ⟨y, e8, e9⟩ := e6 hk
      rw [if_pos hk]
      refine xb_eq e8 ?_
      by_cases hb : b = 0
      · rw [if_pos hb] at e9
        rw [if_pos hb]
        unfold f_L_law_j2120
        rw [if_pos e9]
        exact fin σ2
      · rw [if_neg hb] at e9
        rw [if_neg hb]
        unfold f_L_law_j2120
        rw [if_pos e9]
        exact fin σ2
    · rw [if_neg hk]
      exact fin σ2
  rw [if_neg q31]
  exact ⟨σ, fin σ, hP⟩
theorem law_exit {aC : Nat → ClassId} {σ : xM} {l0 l1 l2 l3 i L : Nat} (hA : aC 104 = L) (hL : L ≤ 3072) (h : L < i + 6) (hi : i ≤ 3072) : f_L_law_s23 aC (l0, l1, l2, l3, Int32.ofNat i, σ) = some (.inr (.inl σ)) := by
  unfold f_L_law_s23 xlet
  dsimp only
  rw [hA, if_pos]
  rw [Int32.lt_iff_toInt_lt, i32_toInt (by omega), Int32.toInt_sub, i32_toInt (by omega)]
  show Int.bmod ((L : Int) - 6) 4294967296 < _
  rw [Int.bmod_def]
  split <;> omega
theorem law_run {P : xM → Prop} {aC : Nat → ClassId} {l0 L : Nat} (hA : aC 104 = L) (hL : L ≤ 3072) (hm : ∀ σ, P σ → xk σ 0 11 = true) (h : ∀ σ, P σ → AllOps P σ) : ∀ (k i : Nat) (σ : xM), i ≤ L → L < i + 6 * k → P σ → ∃ τ, (xloop (f_L_law_s23 aC) k (l0, 0, 4561, 4624, Int32.ofNat i, σ)).bind (Sum.elim (fun g => some g) (fun e => some ((1 : Int32), e))) = some (1, τ) := by
  intro k
  induction k with
  | zero => intro i σ hi h1; omega
  | succ k ih =>
    intro i σ hi h1 hP
    by_cases h2 : i + 6 ≤ L
    · obtain ⟨σ2, e, hP2⟩ := law_step (l0 := l0) hA hL h2 (hm σ hP) (h σ hP) hP
      rw [xl_s (by omega) e]
      exact ih (i + 6) σ2 (by omega) (by omega) hP2
    · rw [xl_e (by omega) (law_exit hA hL (by omega) (by omega))]
      exact ⟨σ, rfl⟩
