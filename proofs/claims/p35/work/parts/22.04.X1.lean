-- Rankwise$Desk.slot(II)I
def f_X1_slot_j47 (σ : xM) (s0 : Int32) : Option Int32 :=
  some s0
set_option maxHeartbeats 4000000 in
set_option maxRecDepth 20000 in
theorem L_X1_slot_j47 {G : xG} {π : Nat → Nat} {d C Z : Nat} {Q : xQ} (σ : xM) (s0 : Int32) {x : Int32} (hf : f_X1_slot_j47 σ s0 = some x) (hR : ∀ g, x = g → Q (.inl (some (.int g))) (σ) π) : xMach G π J_X1_slot (d + 0) C Z 47 [] [.int s0] σ Q := by
  unfold f_X1_slot_j47 at hf
  cases hf
  exact xm_iret dX1_slot_47 rfl (hR _ rfl)
def f_X1_slot_j37 (σ : xM)  : Option Int32 :=
  f_X1_slot_j47 σ (-1 : Int32)
set_option maxHeartbeats 4000000 in
set_option maxRecDepth 20000 in
theorem L_X1_slot_j37 {G : xG} {π : Nat → Nat} {d C Z : Nat} {Q : xQ} (σ : xM)  {x : Int32} (hf : f_X1_slot_j37 σ = some x) (hR : ∀ g, x = g → Q (.inl (some (.int g))) (σ) π) : xMach G π J_X1_slot (d + 0) C Z 37 [] [] σ Q := by
  unfold f_X1_slot_j37 at hf
  refine xm_iconst dX1_slot_37 (v := -1) (by decide) ?_
  refine xm_goto 47 dX1_slot_38 (by decide) ?_
  exact xm_sub [] rfl (L_X1_slot_j47 σ (-1 : Int32) hf hR)
def f_X1_slot_j23 (σ : xM) (l2 : Int32) (s0 : Int32) : Option Int32 :=
  (if s0 < (0 : Int32) then f_X1_slot_j37 σ else (if l2 < (0 : Int32) then f_X1_slot_j37 σ else (if l2 ≤ (2 : Int32) then f_X1_slot_j47 σ ((l2 * (16 : Int32)) + s0) else f_X1_slot_j37 σ)))
set_option maxHeartbeats 4000000 in
set_option maxRecDepth 20000 in
theorem L_X1_slot_j23 {G : xG} {π : Nat → Nat} {d C Z : Nat} {Q : xQ} (σ : xM) (l2 : Int32) (s0 : Int32) {x : Int32} (hf : f_X1_slot_j23 σ l2 s0 = some x) (hR : ∀ g, x = g → Q (.inl (some (.int g))) (σ) π) : xMach G π J_X1_slot (d + 0) C Z 23 [(2, .int l2)] [.int s0] σ Q := by
  unfold f_X1_slot_j23 at hf
  refine xm_istore_n dX1_slot_23 (by decide) (xm_stL (L' := [(3, .int s0), (2, .int l2)]) rfl ?_)
  refine xm_iload_n dX1_slot_24 rfl ?_
  refine xb_if_lt 37 dX1_slot_25 (by decide) hf (fun c hf => ?_) (fun c hf => ?_)
  · exact xm_sub [] rfl (L_X1_slot_j37 σ hf hR)
  · refine xm_iload_n dX1_slot_28 rfl ?_
    refine xb_if_lt 37 dX1_slot_29 (by decide) hf (fun c hf => ?_) (fun c hf => ?_)
    · exact xm_sub [] rfl (L_X1_slot_j37 σ hf hR)
    · refine xm_iload_n dX1_slot_32 rfl ?_
      refine xm_iconst dX1_slot_33 (v := 2) (by decide) ?_
      refine xb_icmp_le 41 dX1_slot_34 (by decide) hf (fun c hf => ?_) (fun c hf => ?_)
      · refine xm_iload_n dX1_slot_41 rfl ?_
        refine xm_bipush dX1_slot_42 (v := 16) (by decide) ?_
        refine xm_imul dX1_slot_44 ?_
        refine xm_iload_n dX1_slot_45 rfl ?_
        refine xm_iadd dX1_slot_46 ?_
        exact xm_sub [] rfl (L_X1_slot_j47 σ ((l2 * (16 : Int32)) + s0) hf hR)
      · exact xm_sub [] rfl (L_X1_slot_j37 σ hf hR)
def f_X1_slot_j22 (σ : xM) (l2 : Int32) : Option Int32 :=
  f_X1_slot_j23 σ l2 (-1 : Int32)
set_option maxHeartbeats 4000000 in
set_option maxRecDepth 20000 in
theorem L_X1_slot_j22 {G : xG} {π : Nat → Nat} {d C Z : Nat} {Q : xQ} (σ : xM) (l2 : Int32) {x : Int32} (hf : f_X1_slot_j22 σ l2 = some x) (hR : ∀ g, x = g → Q (.inl (some (.int g))) (σ) π) : xMach G π J_X1_slot (d + 0) C Z 22 [(2, .int l2)] [] σ Q := by
  unfold f_X1_slot_j22 at hf
  refine xm_iconst dX1_slot_22 (v := -1) (by decide) ?_
  exact xm_sub [0] rfl (L_X1_slot_j23 σ l2 (-1 : Int32) hf hR)
def f_X1_slot (σ : xM) (l0 : Nat) (l1 : Int32) (l2 : Int32) : Option Int32 :=
  (if l1 < (0 : Int32) then f_X1_slot_j22 σ l2 else (gR σ l0 1 0).bind (fun x1 => (gL σ x1 14).bind (fun x2 => (if x2 ≤ l1 then f_X1_slot_j22 σ l2 else (gR σ l0 1 0).bind (fun x3 => (aI σ x3 14 l1).bind (fun x4 => f_X1_slot_j23 σ l2 x4))))))
set_option maxHeartbeats 4000000 in
set_option maxRecDepth 20000 in
theorem m_X1_slot {G : xG} {π : Nat → Nat} {d C Z : Nat} {Q : xQ} {σ : xM} {l0 : Nat} {l1 : Int32} {l2 : Int32} {x : Int32} (hf : f_X1_slot σ l0 l1 l2 = some x) (hR : ∀ g, x = g → Q (.inl (some (.int g))) (σ) π) : xMach G π J_X1_slot (d + 0) C Z 0 (lv_args 0 [.ref l0, .int l1, .int l2]) [] σ Q := by
  unfold f_X1_slot at hf
  refine xm_stL (L' := [(0, .ref l0), (1, .int l1), (2, .int l2)]) rfl ?_
  refine xm_iload_n dX1_slot_0 rfl ?_
  refine xb_if_lt 22 dX1_slot_1 (by decide) hf (fun c hf => ?_) (fun c hf => ?_)
  · exact xm_sub [2] rfl (L_X1_slot_j22 σ l2 hf hR)
  · refine xm_iload_n dX1_slot_4 rfl ?_
    refine xm_aload_n dX1_slot_5 rfl ?_
    refine xb_getR (a := l0) (c := 1) (k := 0) dX1_slot_6 xcl1 (by decide) xw_269 rfl hf (fun x1 ex1 hf => ?_)
    refine xb_alen dX1_slot_9 (by decide) (by decide) hf (fun x2 ex2 hf => ?_)
    refine xb_icmp_ge 22 dX1_slot_10 (by decide) hf (fun c hf => ?_) (fun c hf => ?_)
    · exact xm_sub [2] rfl (L_X1_slot_j22 σ l2 hf hR)
    · refine xm_aload_n dX1_slot_13 rfl ?_
      refine xb_getR (a := l0) (c := 1) (k := 0) dX1_slot_14 xcl1 (by decide) xw_269 rfl hf (fun x3 ex3 hf => ?_)
      refine xm_iload_n dX1_slot_17 rfl ?_
      refine xb_iald dX1_slot_18 hf (fun x4 ex4 hf => ?_)
      refine xm_goto 23 dX1_slot_19 (by decide) ?_
      exact xm_sub [2] rfl (L_X1_slot_j23 σ l2 x4 hf hR)
-- Rankwise$Desk.putOperator(IIII)V
def f_X1_putOperator_j35 (σ : xM)  : Option xM :=
  some σ
set_option maxHeartbeats 4000000 in
set_option maxRecDepth 20000 in
theorem L_X1_putOperator_j35 {G : xG} {π : Nat → Nat} {d C Z : Nat} {Q : xQ} (σ : xM)  {x : xM} (hf : f_X1_putOperator_j35 σ = some x) (hR : ∀ g, x = g → Q (.inl none) (g) π) : xMach G π J_X1_putOperator (d + 0) C Z 35 [] [] σ Q := by
  unfold f_X1_putOperator_j35 at hf
  cases hf
  exact xm_vret dX1_putOperator_35 rfl (hR _ rfl)
def f_X1_putOperator (σ : xM) (l0 : Nat) (l1 : Int32) (l2 : Int32) (l3 : Int32) (l4 : Int32) : Option xM :=
  (if l1 < (0 : Int32) then f_X1_putOperator_j35 σ else (gR σ l0 1 1).bind (fun x1 => (gL σ x1 14).bind (fun x2 => (if x2 ≤ l1 then f_X1_putOperator_j35 σ else (gR σ l0 1 1).bind (fun x3 => (wI σ x3 l1 l2).bind (fun σ4 => (gR σ4 l0 1 2).bind (fun x5 => (wI σ4 x5 l1 l3).bind (fun σ6 => (gR σ6 l0 1 3).bind (fun x7 => (wI σ6 x7 l1 l4).bind (fun σ8 => f_X1_putOperator_j35 σ8))))))))))
set_option maxHeartbeats 4000000 in
set_option maxRecDepth 20000 in
theorem m_X1_putOperator {G : xG} {π : Nat → Nat} {d C Z : Nat} {Q : xQ} {σ : xM} {l0 : Nat} {l1 : Int32} {l2 : Int32} {l3 : Int32} {l4 : Int32} {x : xM} (hf : f_X1_putOperator σ l0 l1 l2 l3 l4 = some x) (hR : ∀ g, x = g → Q (.inl none) (g) π) : xMach G π J_X1_putOperator (d + 0) C Z 0 (lv_args 0 [.ref l0, .int l1, .int l2, .int l3, .int l4]) [] σ Q := by
  unfold f_X1_putOperator at hf
  refine xm_stL (L' := [(0, .ref l0), (1, .int l1), (2, .int l2), (3, .int l3), (4, .int l4)]) rfl ?_
  refine xm_iload_n dX1_putOperator_0 rfl ?_
  refine xb_if_lt 35 dX1_putOperator_1 (by decide) hf (fun c hf => ?_) (fun c hf => ?_)
  · exact xm_sub [] rfl (L_X1_putOperator_j35 σ hf hR)
  · refine xm_iload_n dX1_putOperator_4 rfl ?_
    refine xm_aload_n dX1_putOperator_5 rfl ?_
    refine xb_getR (a := l0) (c := 1) (k := 1) dX1_putOperator_6 xcl1 (by decide) xw_270 rfl hf (fun x1 ex1 hf => ?_)
    refine xb_alen dX1_putOperator_9 (by decide) (by decide) hf (fun x2 ex2 hf => ?_)
    refine xb_icmp_ge 35 dX1_putOperator_10 (by decide) hf (fun c hf => ?_) (fun c hf => ?_)
    · exact xm_sub [] rfl (L_X1_putOperator_j35 σ hf hR)
    · refine xm_aload_n dX1_putOperator_13 rfl ?_
      refine xb_getR (a := l0) (c := 1) (k := 1) dX1_putOperator_14 xcl1 (by decide) xw_270 rfl hf (fun x3 ex3 hf => ?_)
      refine xm_iload_n dX1_putOperator_17 rfl ?_
      refine xm_iload_n dX1_putOperator_18 rfl ?_
      refine xb_iast dX1_putOperator_19 hf (fun σ4 eσ4 hf => ?_)
      refine xm_aload_n dX1_putOperator_20 rfl ?_
      refine xb_getR (a := l0) (c := 1) (k := 2) dX1_putOperator_21 xcl1 (by decide) xw_271 rfl hf (fun x5 ex5 hf => ?_)
      refine xm_iload_n dX1_putOperator_24 rfl ?_
      refine xm_iload_n dX1_putOperator_25 rfl ?_
      refine xb_iast dX1_putOperator_26 hf (fun σ6 eσ6 hf => ?_)
      refine xm_aload_n dX1_putOperator_27 rfl ?_
      refine xb_getR (a := l0) (c := 1) (k := 3) dX1_putOperator_28 xcl1 (by decide) xw_272 rfl hf (fun x7 ex7 hf => ?_)
      refine xm_iload_n dX1_putOperator_31 rfl ?_
      refine xm_iload dX1_putOperator_32 rfl ?_
      refine xb_iast dX1_putOperator_34 hf (fun σ8 eσ8 hf => ?_)
      exact xm_sub [] rfl (L_X1_putOperator_j35 σ8 hf hR)
-- Rankwise$Desk.begin(CIIII)V
def f_X1_begin (σ : xM) (l0 : Nat) (l1 : Int32) (l2 : Int32) (l3 : Int32) (l4 : Int32) (l5 : Int32) : Option xM :=
  (if xk σ l0 1 = true then (f_X1_slot σ l0 l1 l2).bind (fun p1 => (if xk σ l0 1 = true then (f_X1_putOperator σ l0 p1 l3 l4 l5).bind (fun p2 => some p2) else none)) else none)
set_option maxHeartbeats 4000000 in
set_option maxRecDepth 20000 in
theorem m_X1_begin {G : xG} {π : Nat → Nat} {d C Z : Nat} {Q : xQ} {σ : xM} {l0 : Nat} {l1 : Int32} {l2 : Int32} {l3 : Int32} {l4 : Int32} {l5 : Int32} {x : xM} (hf : f_X1_begin σ l0 l1 l2 l3 l4 l5 = some x) (hR : ∀ g, x = g → Q (.inl none) (g) π) : xMach G π J_X1_begin (d + 1) C Z 0 (lv_args 0 [.ref l0, .int l1, .int l2, .int l3, .int l4, .int l5]) [] σ Q := by
  unfold f_X1_begin at hf
  refine xm_stL (L' := [(0, .ref l0), (1, .int l1), (2, .int l2), (3, .int l3), (4, .int l4), (5, .int l5)]) rfl ?_
  refine xm_aload_n dX1_begin_0 rfl ?_
  refine xm_aload_n dX1_begin_1 rfl ?_
  refine xm_iload_n dX1_begin_2 rfl ?_
  refine xm_iload_n dX1_begin_3 rfl ?_
  refine xb_if hf (fun hb hf => ?_) (fun _ q => nomatch q)
  obtain ⟨p1, ep1, hf⟩ := xbind hf
  refine xb_callV (As := [.int l1, .int l2]) (v0 := (some (.int p1))) (τ0 := σ) dX1_begin_4 (xc_X1_slot _ _) xcl1 xw_178 xw_179 xw_180 hb rfl (Nat.le_of_ble_eq_true rfl) rfl (Nat.le_of_ble_eq_true rfl) (fun Q1 hq => m_X1_slot (d := d + 0) ep1 (fun g hg => by subst hg; exact hq)) ?_
  refine xm_iload_n dX1_begin_7 rfl ?_
  refine xm_iload dX1_begin_8 rfl ?_
  refine xm_iload dX1_begin_10 rfl ?_
  refine xb_if hf (fun hb hf => ?_) (fun _ q => nomatch q)
  obtain ⟨p2, ep2, hf⟩ := xbind hf
  refine xb_callV (As := [.int p1, .int l3, .int l4, .int l5]) (v0 := none) (τ0 := p2) dX1_begin_12 (xc_X1_putOperator _ _) xcl1 xw_182 xw_183 xw_184 hb rfl (Nat.le_of_ble_eq_true rfl) rfl (Nat.le_of_ble_eq_true rfl) (fun Q1 hq => m_X1_putOperator (d := d + 0) ep2 (fun g hg => by subst hg; exact hq)) ?_
  cases hf
  exact xm_vret dX1_begin_15 rfl (hR _ rfl)
-- Rankwise$Desk.beginOperators()V
def f_X1_beginOperators_s2 (s : (Nat × Int32 × xM)) : Option (xM ⊕ ((Nat × xM) ⊕ (Nat × Int32 × xM))) :=
  xlet s.1 (fun l0 => xlet s.2.1 (fun l1 => xlet s.2.2 (fun σ => (gR σ l0 1 0).bind (fun x2 => (gL σ x2 14).bind (fun x3 => (if x3 ≤ l1 then some (Sum.inr (Sum.inl (l0, σ))) else (gR σ l0 1 0).bind (fun x4 => (wI σ x4 l1 (xIx (((l1).toUInt32 % 65536).toInt32))).bind (fun σ5 => xlet (l1 + (1 : Int32)) (fun v6 => some (Sum.inr (Sum.inr (l0, v6, σ5))))))))))))
set_option maxHeartbeats 4000000 in
set_option maxRecDepth 20000 in
theorem L_X1_beginOperators_s2 {G : xG} {π : Nat → Nat} {d C Z : Nat} {Q : xQ} (σ : xM) (l0 : Nat) (l1 : Int32) {x : (xM ⊕ ((Nat × xM) ⊕ (Nat × Int32 × xM)))} (hf : f_X1_beginOperators_s2 (l0, l1, σ) = some x) (hR : ∀ g, x = Sum.inl (g) → Q (.inl none) (g) π) (hE : ∀ e : (Nat × xM), x = Sum.inr (Sum.inl e) → xMach G π J_X1_beginOperators (d + 4) C Z 30 [(0, .ref e.1)] [] e.2 Q) (hC : ∀ e : (Nat × Int32 × xM), x = Sum.inr (Sum.inr e) → xMach G π J_X1_beginOperators (d + 4) C Z 2 [(0, .ref e.1), (1, .int e.2.1)] [] e.2.2 Q) : xMach G π J_X1_beginOperators (d + 4) C Z 2 [(0, .ref l0), (1, .int l1)] [] σ Q := by
  have hf : (gR σ l0 1 0).bind (fun x2 => (gL σ x2 14).bind (fun x3 => (if x3 ≤ l1 then some (Sum.inr (Sum.inl (l0, σ))) else (gR σ l0 1 0).bind (fun x4 => (wI σ x4 l1 (xIx (((l1).toUInt32 % 65536).toInt32))).bind (fun σ5 => xlet (l1 + (1 : Int32)) (fun v6 => some (Sum.inr (Sum.inr (l0, v6, σ5))))))))) = some x := hf
  refine xm_iload_n dX1_beginOperators_2 rfl ?_
  refine xm_aload_n dX1_beginOperators_3 rfl ?_
  refine xb_getR (a := l0) (c := 1) (k := 0) dX1_beginOperators_4 xcl1 (by decide) xw_269 rfl hf (fun x2 ex2 hf => ?_)
  refine xb_alen dX1_beginOperators_7 (by decide) (by decide) hf (fun x3 ex3 hf => ?_)
  refine xb_icmp_ge 30 dX1_beginOperators_8 (by decide) hf (fun c hf => ?_) (fun c hf => ?_)
  · cases hf
    exact xm_sub [0] rfl (hE _ rfl)
  · refine xm_aload_n dX1_beginOperators_11 rfl ?_
    refine xb_getR (a := l0) (c := 1) (k := 0) dX1_beginOperators_12 xcl1 (by decide) xw_269 rfl hf (fun x4 ex4 hf => ?_)
    refine xm_iload_n dX1_beginOperators_15 rfl ?_
    refine xm_ldcS dX1_beginOperators_16 rfl ?_
    refine xm_iload_n dX1_beginOperators_18 rfl ?_
    refine xm_i2c dX1_beginOperators_19 rfl ?_
    refine xb_callVS (As := [.int (((l1).toUInt32 % 65536).toInt32)]) (v0 := some (.int (xIx (((l1).toUInt32 % 65536).toInt32)))) dX1_beginOperators_20 (xc_ix1 _ _) rfl xw_88 xw_89 xw_90 rfl (Nat.le_of_ble_eq_true rfl) rfl (Nat.le_of_ble_eq_true rfl) (fun Q1 hq => t_ix1 (d := d + 0) (((l1).toUInt32 % 65536).toInt32) hq) ?_
    refine xb_iast dX1_beginOperators_23 hf (fun σ5 eσ5 hf => ?_)
    refine xb_iinc dX1_beginOperators_24 rfl (by decide) (by decide) hf (fun v6 ev6 hf => xm_stL (L' := [(1, .int v6), (0, .ref l0)]) rfl ?_)
    refine xm_goto 2 dX1_beginOperators_27 (by decide) ?_
    cases hf
    exact xm_sub [1, 0] rfl (hC _ rfl)
theorem L_X1_beginOperators_l2 {G : xG} {π : Nat → Nat} {d C Z : Nat} {Q : xQ} {s0 : (Nat × Int32 × xM)} {x : (xM ⊕ (Nat × xM))} (h1 : xloop (f_X1_beginOperators_s2) xF s0 = some x) (hR : ∀ g, x = Sum.inl g → Q (.inl none) (g) π) (hE : ∀ e : (Nat × xM), x = Sum.inr e → xMach G π J_X1_beginOperators (d + 4) C Z 30 [(0, .ref e.1)] [] e.2 Q) : xMach G π J_X1_beginOperators (d + 4) C Z 2 [(0, .ref s0.1), (1, .int s0.2.1)] [] s0.2.2 Q := by
  refine xloop_run (M := (fun s : (Nat × Int32 × xM) => xMach G π J_X1_beginOperators (d + 4) C Z 2 [(0, .ref s.1), (1, .int s.2.1)] [] s.2.2 Q)) (r := x) ?_ xF _ h1
  intro s y hs hx
  exact L_X1_beginOperators_s2 s.2.2 s.1 s.2.1 (x := y) hs (fun g hg => by subst hg; exact hR g hx) (fun e he => by subst he; exact hE e hx) (fun e he => by subst he; exact hx)
def f_X1_beginOperators_j30 (σ : xM) (l0 : Nat) : Option xM :=
  (if xk σ l0 1 = true then (f_X1_begin σ l0 (124 : Int32) (2 : Int32) (1 : Int32) (0 : Int32) (10 : Int32)).bind (fun p7 => (if xk p7 l0 1 = true then (f_X1_begin p7 l0 (38 : Int32) (2 : Int32) (2 : Int32) (0 : Int32) (9 : Int32)).bind (fun p8 => (if xk p8 l0 1 = true then (f_X1_begin p8 l0 (60 : Int32) (2 : Int32) (3 : Int32) (2 : Int32) (6 : Int32)).bind (fun p9 => (if xk p9 l0 1 = true then (f_X1_begin p9 l0 (61 : Int32) (2 : Int32) (3 : Int32) (2 : Int32) (7 : Int32)).bind (fun p10 => (if xk p10 l0 1 = true then (f_X1_begin p10 l0 (62 : Int32) (2 : Int32) (3 : Int32) (2 : Int32) (8 : Int32)).bind (fun p11 => (if xk p11 l0 1 = true then (f_X1_begin p11 l0 (43 : Int32) (2 : Int32) (4 : Int32) (0 : Int32) (0 : Int32)).bind (fun p12 => (if xk p12 l0 1 = true then (f_X1_begin p12 l0 (45 : Int32) (2 : Int32) (4 : Int32) (0 : Int32) (1 : Int32)).bind (fun p13 => (if xk p13 l0 1 = true then (f_X1_begin p13 l0 (42 : Int32) (2 : Int32) (5 : Int32) (0 : Int32) (2 : Int32)).bind (fun p14 => (if xk p14 l0 1 = true then (f_X1_begin p14 l0 (47 : Int32) (2 : Int32) (5 : Int32) (0 : Int32) (3 : Int32)).bind (fun p15 => (if xk p15 l0 1 = true then (f_X1_begin p15 l0 (37 : Int32) (2 : Int32) (5 : Int32) (0 : Int32) (4 : Int32)).bind (fun p16 => (if xk p16 l0 1 = true then (f_X1_begin p16 l0 (94 : Int32) (2 : Int32) (7 : Int32) (1 : Int32) (5 : Int32)).bind (fun p17 => (if xk p17 l0 1 = true then (f_X1_begin p17 l0 (45 : Int32) (0 : Int32) (6 : Int32) (0 : Int32) (11 : Int32)).bind (fun p18 => (if xk p18 l0 1 = true then (f_X1_begin p18 l0 (126 : Int32) (0 : Int32) (6 : Int32) (0 : Int32) (12 : Int32)).bind (fun p19 => (if xk p19 l0 1 = true then (f_X1_begin p19 l0 (33 : Int32) (1 : Int32) (8 : Int32) (0 : Int32) (13 : Int32)).bind (fun p20 => some p20) else none)) else none)) else none)) else none)) else none)) else none)) else none)) else none)) else none)) else none)) else none)) else none)) else none)) else none)
set_option maxHeartbeats 4000000 in
set_option maxRecDepth 20000 in
theorem L_X1_beginOperators_j30 {G : xG} {π : Nat → Nat} {d C Z : Nat} {Q : xQ} (σ : xM) (l0 : Nat) {x : xM} (hf : f_X1_beginOperators_j30 σ l0 = some x) (hR : ∀ g, x = g → Q (.inl none) (g) π) : xMach G π J_X1_beginOperators (d + 4) C Z 30 [(0, .ref l0)] [] σ Q := by
  unfold f_X1_beginOperators_j30 at hf
  refine xm_aload_n dX1_beginOperators_30 rfl ?_
  refine xm_bipush dX1_beginOperators_31 (v := 124) (by decide) ?_
  refine xm_iconst dX1_beginOperators_33 (v := 2) (by decide) ?_
  refine xm_iconst dX1_beginOperators_34 (v := 1) (by decide) ?_
  refine xm_iconst dX1_beginOperators_35 (v := 0) (by decide) ?_
  refine xm_bipush dX1_beginOperators_36 (v := 10) (by decide) ?_
  refine xb_if hf (fun hb hf => ?_) (fun _ q => nomatch q)
  obtain ⟨p7, ep7, hf⟩ := xbind hf
  refine xb_callV (As := [.int (124 : Int32), .int (2 : Int32), .int (1 : Int32), .int (0 : Int32), .int (10 : Int32)]) (v0 := none) (τ0 := p7) dX1_beginOperators_38 (xc_X1_begin _ _) xcl1 xw_174 xw_176 xs_1 hb rfl (Nat.le_of_ble_eq_true rfl) rfl (Nat.le_of_ble_eq_true rfl) (fun Q1 hq => m_X1_begin (d := d + 2) ep7 (fun g hg => by subst hg; exact hq)) ?_
  refine xm_aload_n dX1_beginOperators_41 rfl ?_
  refine xm_bipush dX1_beginOperators_42 (v := 38) (by decide) ?_
  refine xm_iconst dX1_beginOperators_44 (v := 2) (by decide) ?_
  refine xm_iconst dX1_beginOperators_45 (v := 2) (by decide) ?_
  refine xm_iconst dX1_beginOperators_46 (v := 0) (by decide) ?_
  refine xm_bipush dX1_beginOperators_47 (v := 9) (by decide) ?_
  refine xb_if hf (fun hb hf => ?_) (fun _ q => nomatch q)
  obtain ⟨p8, ep8, hf⟩ := xbind hf
  refine xb_callV (As := [.int (38 : Int32), .int (2 : Int32), .int (2 : Int32), .int (0 : Int32), .int (9 : Int32)]) (v0 := none) (τ0 := p8) dX1_beginOperators_49 (xc_X1_begin _ _) xcl1 xw_174 xw_176 xs_1 hb rfl (Nat.le_of_ble_eq_true rfl) rfl (Nat.le_of_ble_eq_true rfl) (fun Q1 hq => m_X1_begin (d := d + 2) ep8 (fun g hg => by subst hg; exact hq)) ?_
  refine xm_aload_n dX1_beginOperators_52 rfl ?_
  refine xm_bipush dX1_beginOperators_53 (v := 60) (by decide) ?_
  refine xm_iconst dX1_beginOperators_55 (v := 2) (by decide) ?_
  refine xm_iconst dX1_beginOperators_56 (v := 3) (by decide) ?_
  refine xm_iconst dX1_beginOperators_57 (v := 2) (by decide) ?_
  refine xm_bipush dX1_beginOperators_58 (v := 6) (by decide) ?_
  refine xb_if hf (fun hb hf => ?_) (fun _ q => nomatch q)
  obtain ⟨p9, ep9, hf⟩ := xbind hf
  refine xb_callV (As := [.int (60 : Int32), .int (2 : Int32), .int (3 : Int32), .int (2 : Int32), .int (6 : Int32)]) (v0 := none) (τ0 := p9) dX1_beginOperators_60 (xc_X1_begin _ _) xcl1 xw_174 xw_176 xs_1 hb rfl (Nat.le_of_ble_eq_true rfl) rfl (Nat.le_of_ble_eq_true rfl) (fun Q1 hq => m_X1_begin (d := d + 2) ep9 (fun g hg => by subst hg; exact hq)) ?_
  refine xm_aload_n dX1_beginOperators_63 rfl ?_
  refine xm_bipush dX1_beginOperators_64 (v := 61) (by decide) ?_
  refine xm_iconst dX1_beginOperators_66 (v := 2) (by decide) ?_
  refine xm_iconst dX1_beginOperators_67 (v := 3) (by decide) ?_
  refine xm_iconst dX1_beginOperators_68 (v := 2) (by decide) ?_
  refine xm_bipush dX1_beginOperators_69 (v := 7) (by decide) ?_
  refine xb_if hf (fun hb hf => ?_) (fun _ q => nomatch q)
  obtain ⟨p10, ep10, hf⟩ := xbind hf
  refine xb_callV (As := [.int (61 : Int32), .int (2 : Int32), .int (3 : Int32), .int (2 : Int32), .int (7 : Int32)]) (v0 := none) (τ0 := p10) dX1_beginOperators_71 (xc_X1_begin _ _) xcl1 xw_174 xw_176 xs_1 hb rfl (Nat.le_of_ble_eq_true rfl) rfl (Nat.le_of_ble_eq_true rfl) (fun Q1 hq => m_X1_begin (d := d + 2) ep10 (fun g hg => by subst hg; exact hq)) ?_
  refine xm_aload_n dX1_beginOperators_74 rfl ?_
  refine xm_bipush dX1_beginOperators_75 (v := 62) (by decide) ?_
  refine xm_iconst dX1_beginOperators_77 (v := 2) (by decide) ?_
  refine xm_iconst dX1_beginOperators_78 (v := 3) (by decide) ?_
  refine xm_iconst dX1_beginOperators_79 (v := 2) (by decide) ?_
  refine xm_bipush dX1_beginOperators_80 (v := 8) (by decide) ?_
  refine xb_if hf (fun hb hf => ?_) (fun _ q => nomatch q)
  obtain ⟨p11, ep11, hf⟩ := xbind hf
  refine xb_callV (As := [.int (62 : Int32), .int (2 : Int32), .int (3 : Int32), .int (2 : Int32), .int (8 : Int32)]) (v0 := none) (τ0 := p11) dX1_beginOperators_82 (xc_X1_begin _ _) xcl1 xw_174 xw_176 xs_1 hb rfl (Nat.le_of_ble_eq_true rfl) rfl (Nat.le_of_ble_eq_true rfl) (fun Q1 hq => m_X1_begin (d := d + 2) ep11 (fun g hg => by subst hg; exact hq)) ?_
  refine xm_aload_n dX1_beginOperators_85 rfl ?_
  refine xm_bipush dX1_beginOperators_86 (v := 43) (by decide) ?_
  refine xm_iconst dX1_beginOperators_88 (v := 2) (by decide) ?_
  refine xm_iconst dX1_beginOperators_89 (v := 4) (by decide) ?_
  refine xm_iconst dX1_beginOperators_90 (v := 0) (by decide) ?_
  refine xm_iconst dX1_beginOperators_91 (v := 0) (by decide) ?_
  refine xb_if hf (fun hb hf => ?_) (fun _ q => nomatch q)
  obtain ⟨p12, ep12, hf⟩ := xbind hf
  refine xb_callV (As := [.int (43 : Int32), .int (2 : Int32), .int (4 : Int32), .int (0 : Int32), .int (0 : Int32)]) (v0 := none) (τ0 := p12) dX1_beginOperators_92 (xc_X1_begin _ _) xcl1 xw_174 xw_176 xs_1 hb rfl (Nat.le_of_ble_eq_true rfl) rfl (Nat.le_of_ble_eq_true rfl) (fun Q1 hq => m_X1_begin (d := d + 2) ep12 (fun g hg => by subst hg; exact hq)) ?_
  refine xm_aload_n dX1_beginOperators_95 rfl ?_
  refine xm_bipush dX1_beginOperators_96 (v := 45) (by decide) ?_
  refine xm_iconst dX1_beginOperators_98 (v := 2) (by decide) ?_
  refine xm_iconst dX1_beginOperators_99 (v := 4) (by decide) ?_
  refine xm_iconst dX1_beginOperators_100 (v := 0) (by decide) ?_
  refine xm_iconst dX1_beginOperators_101 (v := 1) (by decide) ?_
  refine xb_if hf (fun hb hf => ?_) (fun _ q => nomatch q)
  obtain ⟨p13, ep13, hf⟩ := xbind hf
  refine xb_callV (As := [.int (45 : Int32), .int (2 : Int32), .int (4 : Int32), .int (0 : Int32), .int (1 : Int32)]) (v0 := none) (τ0 := p13) dX1_beginOperators_102 (xc_X1_begin _ _) xcl1 xw_174 xw_176 xs_1 hb rfl (Nat.le_of_ble_eq_true rfl) rfl (Nat.le_of_ble_eq_true rfl) (fun Q1 hq => m_X1_begin (d := d + 2) ep13 (fun g hg => by subst hg; exact hq)) ?_
  refine xm_aload_n dX1_beginOperators_105 rfl ?_
  refine xm_bipush dX1_beginOperators_106 (v := 42) (by decide) ?_
  refine xm_iconst dX1_beginOperators_108 (v := 2) (by decide) ?_
  refine xm_iconst dX1_beginOperators_109 (v := 5) (by decide) ?_
  refine xm_iconst dX1_beginOperators_110 (v := 0) (by decide) ?_
  refine xm_iconst dX1_beginOperators_111 (v := 2) (by decide) ?_
  refine xb_if hf (fun hb hf => ?_) (fun _ q => nomatch q)
  obtain ⟨p14, ep14, hf⟩ := xbind hf
  refine xb_callV (As := [.int (42 : Int32), .int (2 : Int32), .int (5 : Int32), .int (0 : Int32), .int (2 : Int32)]) (v0 := none) (τ0 := p14) dX1_beginOperators_112 (xc_X1_begin _ _) xcl1 xw_174 xw_176 xs_1 hb rfl (Nat.le_of_ble_eq_true rfl) rfl (Nat.le_of_ble_eq_true rfl) (fun Q1 hq => m_X1_begin (d := d + 2) ep14 (fun g hg => by subst hg; exact hq)) ?_
  refine xm_aload_n dX1_beginOperators_115 rfl ?_
  refine xm_bipush dX1_beginOperators_116 (v := 47) (by decide) ?_
  refine xm_iconst dX1_beginOperators_118 (v := 2) (by decide) ?_
  refine xm_iconst dX1_beginOperators_119 (v := 5) (by decide) ?_
  refine xm_iconst dX1_beginOperators_120 (v := 0) (by decide) ?_
  refine xm_iconst dX1_beginOperators_121 (v := 3) (by decide) ?_
  refine xb_if hf (fun hb hf => ?_) (fun _ q => nomatch q)
  obtain ⟨p15, ep15, hf⟩ := xbind hf
  refine xb_callV (As := [.int (47 : Int32), .int (2 : Int32), .int (5 : Int32), .int (0 : Int32), .int (3 : Int32)]) (v0 := none) (τ0 := p15) dX1_beginOperators_122 (xc_X1_begin _ _) xcl1 xw_174 xw_176 xs_1 hb rfl (Nat.le_of_ble_eq_true rfl) rfl (Nat.le_of_ble_eq_true rfl) (fun Q1 hq => m_X1_begin (d := d + 2) ep15 (fun g hg => by subst hg; exact hq)) ?_
  refine xm_aload_n dX1_beginOperators_125 rfl ?_
  refine xm_bipush dX1_beginOperators_126 (v := 37) (by decide) ?_
  refine xm_iconst dX1_beginOperators_128 (v := 2) (by decide) ?_
  refine xm_iconst dX1_beginOperators_129 (v := 5) (by decide) ?_
  refine xm_iconst dX1_beginOperators_130 (v := 0) (by decide) ?_
  refine xm_iconst dX1_beginOperators_131 (v := 4) (by decide) ?_
  refine xb_if hf (fun hb hf => ?_) (fun _ q => nomatch q)
  obtain ⟨p16, ep16, hf⟩ := xbind hf
  refine xb_callV (As := [.int (37 : Int32), .int (2 : Int32), .int (5 : Int32), .int (0 : Int32), .int (4 : Int32)]) (v0 := none) (τ0 := p16) dX1_beginOperators_132 (xc_X1_begin _ _) xcl1 xw_174 xw_176 xs_1 hb rfl (Nat.le_of_ble_eq_true rfl) rfl (Nat.le_of_ble_eq_true rfl) (fun Q1 hq => m_X1_begin (d := d + 2) ep16 (fun g hg => by subst hg; exact hq)) ?_
  refine xm_aload_n dX1_beginOperators_135 rfl ?_
  refine xm_bipush dX1_beginOperators_136 (v := 94) (by decide) ?_
  refine xm_iconst dX1_beginOperators_138 (v := 2) (by decide) ?_
  refine xm_bipush dX1_beginOperators_139 (v := 7) (by decide) ?_
  refine xm_iconst dX1_beginOperators_141 (v := 1) (by decide) ?_
  refine xm_iconst dX1_beginOperators_142 (v := 5) (by decide) ?_
  refine xb_if hf (fun hb hf => ?_) (fun _ q => nomatch q)
  obtain ⟨p17, ep17, hf⟩ := xbind hf
  refine xb_callV (As := [.int (94 : Int32), .int (2 : Int32), .int (7 : Int32), .int (1 : Int32), .int (5 : Int32)]) (v0 := none) (τ0 := p17) dX1_beginOperators_143 (xc_X1_begin _ _) xcl1 xw_174 xw_176 xs_1 hb rfl (Nat.le_of_ble_eq_true rfl) rfl (Nat.le_of_ble_eq_true rfl) (fun Q1 hq => m_X1_begin (d := d + 2) ep17 (fun g hg => by subst hg; exact hq)) ?_
  refine xm_aload_n dX1_beginOperators_146 rfl ?_
  refine xm_bipush dX1_beginOperators_147 (v := 45) (by decide) ?_
  refine xm_iconst dX1_beginOperators_149 (v := 0) (by decide) ?_
  refine xm_bipush dX1_beginOperators_150 (v := 6) (by decide) ?_
  refine xm_iconst dX1_beginOperators_152 (v := 0) (by decide) ?_
  refine xm_bipush dX1_beginOperators_153 (v := 11) (by decide) ?_
  refine xb_if hf (fun hb hf => ?_) (fun _ q => nomatch q)
  obtain ⟨p18, ep18, hf⟩ := xbind hf
  refine xb_callV (As := [.int (45 : Int32), .int (0 : Int32), .int (6 : Int32), .int (0 : Int32), .int (11 : Int32)]) (v0 := none) (τ0 := p18) dX1_beginOperators_155 (xc_X1_begin _ _) xcl1 xw_174 xw_176 xs_1 hb rfl (Nat.le_of_ble_eq_true rfl) rfl (Nat.le_of_ble_eq_true rfl) (fun Q1 hq => m_X1_begin (d := d + 2) ep18 (fun g hg => by subst hg; exact hq)) ?_
  refine xm_aload_n dX1_beginOperators_158 rfl ?_
  refine xm_bipush dX1_beginOperators_159 (v := 126) (by decide) ?_
  refine xm_iconst dX1_beginOperators_161 (v := 0) (by decide) ?_
  refine xm_bipush dX1_beginOperators_162 (v := 6) (by decide) ?_
  refine xm_iconst dX1_beginOperators_164 (v := 0) (by decide) ?_
  refine xm_bipush dX1_beginOperators_165 (v := 12) (by decide) ?_
  refine xb_if hf (fun hb hf => ?_) (fun _ q => nomatch q)
  obtain ⟨p19, ep19, hf⟩ := xbind hf
  refine xb_callV (As := [.int (126 : Int32), .int (0 : Int32), .int (6 : Int32), .int (0 : Int32), .int (12 : Int32)]) (v0 := none) (τ0 := p19) dX1_beginOperators_167 (xc_X1_begin _ _) xcl1 xw_174 xw_176 xs_1 hb rfl (Nat.le_of_ble_eq_true rfl) rfl (Nat.le_of_ble_eq_true rfl) (fun Q1 hq => m_X1_begin (d := d + 2) ep19 (fun g hg => by subst hg; exact hq)) ?_
  refine xm_aload_n dX1_beginOperators_170 rfl ?_
  refine xm_bipush dX1_beginOperators_171 (v := 33) (by decide) ?_
  refine xm_iconst dX1_beginOperators_173 (v := 1) (by decide) ?_
  refine xm_bipush dX1_beginOperators_174 (v := 8) (by decide) ?_
  refine xm_iconst dX1_beginOperators_176 (v := 0) (by decide) ?_
  refine xm_bipush dX1_beginOperators_177 (v := 13) (by decide) ?_
  refine xb_if hf (fun hb hf => ?_) (fun _ q => nomatch q)
  obtain ⟨p20, ep20, hf⟩ := xbind hf
  refine xb_callV (As := [.int (33 : Int32), .int (1 : Int32), .int (8 : Int32), .int (0 : Int32), .int (13 : Int32)]) (v0 := none) (τ0 := p20) dX1_beginOperators_179 (xc_X1_begin _ _) xcl1 xw_174 xw_176 xs_1 hb rfl (Nat.le_of_ble_eq_true rfl) rfl (Nat.le_of_ble_eq_true rfl) (fun Q1 hq => m_X1_begin (d := d + 2) ep20 (fun g hg => by subst hg; exact hq)) ?_
  cases hf
  exact xm_vret dX1_beginOperators_182 rfl (hR _ rfl)
def f_X1_beginOperators (σ : xM) (l0 : Nat) : Option xM :=
  xlet (0 : Int32) (fun v1 => (xloop (f_X1_beginOperators_s2 ) xF (l0, v1, σ)).bind (Sum.elim (fun g => some g) (fun e => f_X1_beginOperators_j30 e.2 e.1)))
set_option maxHeartbeats 4000000 in
set_option maxRecDepth 20000 in
theorem m_X1_beginOperators {G : xG} {π : Nat → Nat} {d C Z : Nat} {Q : xQ} {σ : xM} {l0 : Nat} {x : xM} (hf : f_X1_beginOperators σ l0 = some x) (hR : ∀ g, x = g → Q (.inl none) (g) π) : xMach G π J_X1_beginOperators (d + 4) C Z 0 (lv_args 0 [.ref l0]) [] σ Q := by
  unfold f_X1_beginOperators at hf
  refine xm_stL (L' := [(0, .ref l0)]) rfl ?_
  refine xm_iconst dX1_beginOperators_0 (v := 0) (by decide) ?_
  refine xb_topi hf (fun v1 ev1 hf => ?_)
  refine xm_istore_n dX1_beginOperators_1 (by decide) (xm_stL (L' := [(1, .int v1), (0, .ref l0)]) rfl ?_)
  obtain ⟨o, h1, hf⟩ := xbind hf
  refine xm_sub [1, 0] rfl (L_X1_beginOperators_l2  h1 (fun g hg => ?_) (fun e he => ?_))
  · subst hg
    cases hf
    exact hR _ rfl
  · subst he
    rw [Sum.elim_inr] at hf
    have hf : f_X1_beginOperators_j30 e.2 e.1 = some _ := hf
    exact xm_sub [0] rfl (L_X1_beginOperators_j30 e.2 e.1 hf hR)
-- Rankwise$Desk.isSign(I)Z
def f_X1_isSign_j14 (σ : xM) (s0 : Int32) : Option Int32 :=
  (xz s0).bind (fun b2 => some b2)
set_option maxHeartbeats 4000000 in
set_option maxRecDepth 20000 in
theorem L_X1_isSign_j14 {G : xG} {π : Nat → Nat} {d C Z : Nat} {Q : xQ} (σ : xM) (s0 : Int32) {x : Int32} (hf : f_X1_isSign_j14 σ s0 = some x) (hR : ∀ g, x = g → Q (.inl (some (.int g))) (σ) π) : xMach G π J_X1_isSign (d + 1) C Z 14 [] [.int s0] σ Q := by
  unfold f_X1_isSign_j14 at hf
  obtain ⟨b2, eb2, hf⟩ := xbind hf
  obtain ⟨rfl, hz⟩ := xz_of eb2
  cases hf
  exact xm_zret dX1_isSign_14 rfl hz (hR _ rfl)
def f_X1_isSign (σ : xM) (l0 : Nat) (l1 : Int32) : Option Int32 :=
  (if xk σ l0 1 = true then (f_X1_slot σ l0 l1 (0 : Int32)).bind (fun p1 => (if p1 < (0 : Int32) then f_X1_isSign_j14 σ (0 : Int32) else f_X1_isSign_j14 σ (1 : Int32))) else none)
set_option maxHeartbeats 4000000 in
set_option maxRecDepth 20000 in
theorem m_X1_isSign {G : xG} {π : Nat → Nat} {d C Z : Nat} {Q : xQ} {σ : xM} {l0 : Nat} {l1 : Int32} {x : Int32} (hf : f_X1_isSign σ l0 l1 = some x) (hR : ∀ g, x = g → Q (.inl (some (.int g))) (σ) π) : xMach G π J_X1_isSign (d + 1) C Z 0 (lv_args 0 [.ref l0, .int l1]) [] σ Q := by
  unfold f_X1_isSign at hf
  refine xm_stL (L' := [(0, .ref l0), (1, .int l1)]) rfl ?_
  refine xm_aload_n dX1_isSign_0 rfl ?_
  refine xm_iload_n dX1_isSign_1 rfl ?_
  refine xm_iconst dX1_isSign_2 (v := 0) (by decide) ?_
  refine xb_if hf (fun hb hf => ?_) (fun _ q => nomatch q)
  obtain ⟨p1, ep1, hf⟩ := xbind hf
  refine xb_callV (As := [.int l1, .int (0 : Int32)]) (v0 := (some (.int p1))) (τ0 := σ) dX1_isSign_3 (xc_X1_slot _ _) xcl1 xw_178 xw_179 xw_180 hb rfl (Nat.le_of_ble_eq_true rfl) rfl (Nat.le_of_ble_eq_true rfl) (fun Q1 hq => m_X1_slot (d := d + 0) ep1 (fun g hg => by subst hg; exact hq)) ?_
  refine xb_if_lt 13 dX1_isSign_6 (by decide) hf (fun c hf => ?_) (fun c hf => ?_)
  · refine xm_iconst dX1_isSign_13 (v := 0) (by decide) ?_
    exact xm_sub [] rfl (L_X1_isSign_j14 σ (0 : Int32) hf hR)
  · refine xm_iconst dX1_isSign_9 (v := 1) (by decide) ?_
    refine xm_goto 14 dX1_isSign_10 (by decide) ?_
    exact xm_sub [] rfl (L_X1_isSign_j14 σ (1 : Int32) hf hR)
-- Rankwise$Desk.rank(II)I
def f_X1_rank_j21 (σ : xM) (s0 : Int32) : Option Int32 :=
  some s0
set_option maxHeartbeats 4000000 in
set_option maxRecDepth 20000 in
theorem L_X1_rank_j21 {G : xG} {π : Nat → Nat} {d C Z : Nat} {Q : xQ} (σ : xM) (s0 : Int32) {x : Int32} (hf : f_X1_rank_j21 σ s0 = some x) (hR : ∀ g, x = g → Q (.inl (some (.int g))) (σ) π) : xMach G π J_X1_rank (d + 1) C Z 21 [] [.int s0] σ Q := by
  unfold f_X1_rank_j21 at hf
  cases hf
  exact xm_iret dX1_rank_21 rfl (hR _ rfl)
def f_X1_rank (σ : xM) (l0 : Nat) (l1 : Int32) (l2 : Int32) : Option Int32 :=
  (if xk σ l0 1 = true then (f_X1_slot σ l0 l1 l2).bind (fun p1 => (if (0 : Int32) ≤ p1 then (gR σ l0 1 1).bind (fun x2 => (aI σ x2 14 p1).bind (fun x3 => f_X1_rank_j21 σ x3)) else f_X1_rank_j21 σ (0 : Int32))) else none)
set_option maxHeartbeats 4000000 in
set_option maxRecDepth 20000 in
theorem m_X1_rank {G : xG} {π : Nat → Nat} {d C Z : Nat} {Q : xQ} {σ : xM} {l0 : Nat} {l1 : Int32} {l2 : Int32} {x : Int32} (hf : f_X1_rank σ l0 l1 l2 = some x) (hR : ∀ g, x = g → Q (.inl (some (.int g))) (σ) π) : xMach G π J_X1_rank (d + 1) C Z 0 (lv_args 0 [.ref l0, .int l1, .int l2]) [] σ Q := by
  unfold f_X1_rank at hf
  refine xm_stL (L' := [(0, .ref l0), (1, .int l1), (2, .int l2)]) rfl ?_
  refine xm_aload_n dX1_rank_0 rfl ?_
  refine xm_iload_n dX1_rank_1 rfl ?_
  refine xm_iload_n dX1_rank_2 rfl ?_
  refine xb_if hf (fun hb hf => ?_) (fun _ q => nomatch q)
  obtain ⟨p1, ep1, hf⟩ := xbind hf
  refine xb_callV (As := [.int l1, .int l2]) (v0 := (some (.int p1))) (τ0 := σ) dX1_rank_3 (xc_X1_slot _ _) xcl1 xw_178 xw_179 xw_180 hb rfl (Nat.le_of_ble_eq_true rfl) rfl (Nat.le_of_ble_eq_true rfl) (fun Q1 hq => m_X1_slot (d := d + 0) ep1 (fun g hg => by subst hg; exact hq)) ?_
  refine xm_istore_n dX1_rank_6 (by decide) (xm_stL (L' := [(3, .int p1), (0, .ref l0), (1, .int l1), (2, .int l2)]) rfl ?_)
  refine xm_iload_n dX1_rank_7 rfl ?_
  refine xb_if_ge 15 dX1_rank_8 (by decide) hf (fun c hf => ?_) (fun c hf => ?_)
  · refine xm_aload_n dX1_rank_15 rfl ?_
    refine xb_getR (a := l0) (c := 1) (k := 1) dX1_rank_16 xcl1 (by decide) xw_270 rfl hf (fun x2 ex2 hf => ?_)
    refine xm_iload_n dX1_rank_19 rfl ?_
    refine xb_iald dX1_rank_20 hf (fun x3 ex3 hf => ?_)
    exact xm_sub [] rfl (L_X1_rank_j21 σ x3 hf hR)
  · refine xm_iconst dX1_rank_11 (v := 0) (by decide) ?_
    refine xm_goto 21 dX1_rank_12 (by decide) ?_
    exact xm_sub [] rfl (L_X1_rank_j21 σ (0 : Int32) hf hR)
-- Rankwise$Desk.side(II)I
def f_X1_side_j21 (σ : xM) (s0 : Int32) : Option Int32 :=
  some s0
set_option maxHeartbeats 4000000 in
set_option maxRecDepth 20000 in
theorem L_X1_side_j21 {G : xG} {π : Nat → Nat} {d C Z : Nat} {Q : xQ} (σ : xM) (s0 : Int32) {x : Int32} (hf : f_X1_side_j21 σ s0 = some x) (hR : ∀ g, x = g → Q (.inl (some (.int g))) (σ) π) : xMach G π J_X1_side (d + 1) C Z 21 [] [.int s0] σ Q := by
  unfold f_X1_side_j21 at hf
  cases hf
  exact xm_iret dX1_side_21 rfl (hR _ rfl)
def f_X1_side (σ : xM) (l0 : Nat) (l1 : Int32) (l2 : Int32) : Option Int32 :=
  (if xk σ l0 1 = true then (f_X1_slot σ l0 l1 l2).bind (fun p1 => (if (0 : Int32) ≤ p1 then (gR σ l0 1 2).bind (fun x2 => (aI σ x2 14 p1).bind (fun x3 => f_X1_side_j21 σ x3)) else f_X1_side_j21 σ (-1 : Int32))) else none)
set_option maxHeartbeats 4000000 in
set_option maxRecDepth 20000 in
theorem m_X1_side {G : xG} {π : Nat → Nat} {d C Z : Nat} {Q : xQ} {σ : xM} {l0 : Nat} {l1 : Int32} {l2 : Int32} {x : Int32} (hf : f_X1_side σ l0 l1 l2 = some x) (hR : ∀ g, x = g → Q (.inl (some (.int g))) (σ) π) : xMach G π J_X1_side (d + 1) C Z 0 (lv_args 0 [.ref l0, .int l1, .int l2]) [] σ Q := by
  unfold f_X1_side at hf
  refine xm_stL (L' := [(0, .ref l0), (1, .int l1), (2, .int l2)]) rfl ?_
  refine xm_aload_n dX1_side_0 rfl ?_
  refine xm_iload_n dX1_side_1 rfl ?_
  refine xm_iload_n dX1_side_2 rfl ?_
  refine xb_if hf (fun hb hf => ?_) (fun _ q => nomatch q)
  obtain ⟨p1, ep1, hf⟩ := xbind hf
  refine xb_callV (As := [.int l1, .int l2]) (v0 := (some (.int p1))) (τ0 := σ) dX1_side_3 (xc_X1_slot _ _) xcl1 xw_178 xw_179 xw_180 hb rfl (Nat.le_of_ble_eq_true rfl) rfl (Nat.le_of_ble_eq_true rfl) (fun Q1 hq => m_X1_slot (d := d + 0) ep1 (fun g hg => by subst hg; exact hq)) ?_
  refine xm_istore_n dX1_side_6 (by decide) (xm_stL (L' := [(3, .int p1), (0, .ref l0), (1, .int l1), (2, .int l2)]) rfl ?_)
  refine xm_iload_n dX1_side_7 rfl ?_
  refine xb_if_ge 15 dX1_side_8 (by decide) hf (fun c hf => ?_) (fun c hf => ?_)
  · refine xm_aload_n dX1_side_15 rfl ?_
    refine xb_getR (a := l0) (c := 1) (k := 2) dX1_side_16 xcl1 (by decide) xw_271 rfl hf (fun x2 ex2 hf => ?_)
    refine xm_iload_n dX1_side_19 rfl ?_
    refine xb_iald dX1_side_20 hf (fun x3 ex3 hf => ?_)
    exact xm_sub [] rfl (L_X1_side_j21 σ x3 hf hR)
  · refine xm_iconst dX1_side_11 (v := -1) (by decide) ?_
    refine xm_goto 21 dX1_side_12 (by decide) ?_
    exact xm_sub [] rfl (L_X1_side_j21 σ (-1 : Int32) hf hR)
-- Rankwise$Desk.note(II)I
def f_X1_note_j32 (σ : xM) (l0 : Nat) (l1 : Int32) (l2 : Int32) : Option (Int32 × xM) :=
  (gI σ l0 1 13).bind (fun x2 => (gI σ l0 1 14).bind (fun x3 => xlet ((x2 + x3) - (x2 + x3) / (20 : Int32) * (20 : Int32)) (fun v4 => (gR σ l0 1 9).bind (fun x5 => (wI σ x5 v4 l1).bind (fun σ6 => (gR σ6 l0 1 10).bind (fun x7 => (wI σ6 x7 v4 l2).bind (fun σ8 => (gI σ8 l0 1 14).bind (fun x9 => (sI σ8 l0 1 14 (x9 + (1 : Int32))).bind (fun σ10 => some (v4, σ10))))))))))
set_option maxHeartbeats 4000000 in
set_option maxRecDepth 20000 in
theorem L_X1_note_j32 {G : xG} {π : Nat → Nat} {d C Z : Nat} {Q : xQ} (σ : xM) (l0 : Nat) (l1 : Int32) (l2 : Int32) {x : (Int32 × xM)} (hf : f_X1_note_j32 σ l0 l1 l2 = some x) (hR : ∀ g, x = g → Q (.inl (some (.int g.1))) (g.2) π) : xMach G π J_X1_note (d + 0) C Z 32 [(0, .ref l0), (1, .int l1), (2, .int l2)] [] σ Q := by
  unfold f_X1_note_j32 at hf
  refine xm_aload_n dX1_note_32 rfl ?_
  refine xb_getI (a := l0) (c := 1) (k := 13) dX1_note_33 xcl1 (by decide) xw_288 rfl hf (fun x2 ex2 hf => ?_)
  refine xm_aload_n dX1_note_36 rfl ?_
  refine xb_getI (a := l0) (c := 1) (k := 14) dX1_note_37 xcl1 (by decide) xw_289 rfl hf (fun x3 ex3 hf => ?_)
  refine xm_iadd dX1_note_40 ?_
  refine xm_bipush dX1_note_41 (v := 20) (by decide) ?_
  refine xm_irem dX1_note_43 (by decide) ?_
  refine xb_topi hf (fun v4 ev4 hf => ?_)
  refine xm_istore_n dX1_note_44 (by decide) (xm_stL (L' := [(3, .int v4), (0, .ref l0), (1, .int l1), (2, .int l2)]) rfl ?_)
  refine xm_aload_n dX1_note_45 rfl ?_
  refine xb_getR (a := l0) (c := 1) (k := 9) dX1_note_46 xcl1 (by decide) xw_284 rfl hf (fun x5 ex5 hf => ?_)
  refine xm_iload_n dX1_note_49 rfl ?_
  refine xm_iload_n dX1_note_50 rfl ?_
  refine xb_iast dX1_note_51 hf (fun σ6 eσ6 hf => ?_)
  refine xm_aload_n dX1_note_52 rfl ?_
  refine xb_getR (a := l0) (c := 1) (k := 10) dX1_note_53 xcl1 (by decide) xw_285 rfl hf (fun x7 ex7 hf => ?_)
  refine xm_iload_n dX1_note_56 rfl ?_
  refine xm_iload_n dX1_note_57 rfl ?_
  refine xb_iast dX1_note_58 hf (fun σ8 eσ8 hf => ?_)
  refine xm_aload_n dX1_note_59 rfl ?_
  refine xm_dup dX1_note_60 rfl ?_
  refine xb_getI (a := l0) (c := 1) (k := 14) dX1_note_61 xcl1 (by decide) xw_289 rfl hf (fun x9 ex9 hf => ?_)
  refine xm_iconst dX1_note_64 (v := 1) (by decide) ?_
  refine xm_iadd dX1_note_65 ?_
  refine xb_putI (a := l0) (c := 1) (k := 14) dX1_note_66 xcl1 (by decide) xw_289 rfl rfl hf (fun σ10 eσ10 hf => ?_)
  refine xm_iload_n dX1_note_69 rfl ?_
  cases hf
  exact xm_iret dX1_note_70 rfl (hR _ rfl)
def f_X1_note (σ : xM) (l0 : Nat) (l1 : Int32) (l2 : Int32) : Option (Int32 × xM) :=
  (gI σ l0 1 14).bind (fun x1 => (if x1 < (20 : Int32) then f_X1_note_j32 σ l0 l1 l2 else (gI σ l0 1 13).bind (fun x11 => (sI σ l0 1 13 ((x11 + (1 : Int32)) - (x11 + (1 : Int32)) / (20 : Int32) * (20 : Int32))).bind (fun σ12 => (gI σ12 l0 1 14).bind (fun x13 => (sI σ12 l0 1 14 (x13 - (1 : Int32))).bind (fun σ14 => f_X1_note_j32 σ14 l0 l1 l2))))))
set_option maxHeartbeats 4000000 in
set_option maxRecDepth 20000 in
theorem m_X1_note {G : xG} {π : Nat → Nat} {d C Z : Nat} {Q : xQ} {σ : xM} {l0 : Nat} {l1 : Int32} {l2 : Int32} {x : (Int32 × xM)} (hf : f_X1_note σ l0 l1 l2 = some x) (hR : ∀ g, x = g → Q (.inl (some (.int g.1))) (g.2) π) : xMach G π J_X1_note (d + 0) C Z 0 (lv_args 0 [.ref l0, .int l1, .int l2]) [] σ Q := by
  unfold f_X1_note at hf
  refine xm_stL (L' := [(0, .ref l0), (1, .int l1), (2, .int l2)]) rfl ?_
  refine xm_aload_n dX1_note_0 rfl ?_
  refine xb_getI (a := l0) (c := 1) (k := 14) dX1_note_1 xcl1 (by decide) xw_289 rfl hf (fun x1 ex1 hf => ?_)
  refine xm_bipush dX1_note_4 (v := 20) (by decide) ?_
  refine xb_icmp_lt 32 dX1_note_6 (by decide) hf (fun c hf => ?_) (fun c hf => ?_)
  · exact xm_sub [0, 1, 2] rfl (L_X1_note_j32 σ l0 l1 l2 hf hR)
  · refine xm_aload_n dX1_note_9 rfl ?_
    refine xm_aload_n dX1_note_10 rfl ?_
    refine xb_getI (a := l0) (c := 1) (k := 13) dX1_note_11 xcl1 (by decide) xw_288 rfl hf (fun x11 ex11 hf => ?_)
    refine xm_iconst dX1_note_14 (v := 1) (by decide) ?_
    refine xm_iadd dX1_note_15 ?_
    refine xm_bipush dX1_note_16 (v := 20) (by decide) ?_
    refine xm_irem dX1_note_18 (by decide) ?_
    refine xb_putI (a := l0) (c := 1) (k := 13) dX1_note_19 xcl1 (by decide) xw_288 rfl rfl hf (fun σ12 eσ12 hf => ?_)
    refine xm_aload_n dX1_note_22 rfl ?_
    refine xm_dup dX1_note_23 rfl ?_
    refine xb_getI (a := l0) (c := 1) (k := 14) dX1_note_24 xcl1 (by decide) xw_289 rfl hf (fun x13 ex13 hf => ?_)
    refine xm_iconst dX1_note_27 (v := 1) (by decide) ?_
    refine xm_isub dX1_note_28 ?_
    refine xb_putI (a := l0) (c := 1) (k := 14) dX1_note_29 xcl1 (by decide) xw_289 rfl rfl hf (fun σ14 eσ14 hf => ?_)
    exact xm_sub [0, 1, 2] rfl (L_X1_note_j32 σ14 l0 l1 l2 hf hR)
-- Rankwise$Desk.shelve(LRankwise$Tree;)I
def f_X1_shelve (σ : xM) (l0 : Nat) (l1 : Nat) : Option (Int32 × xM) :=
  (gI σ l0 1 5).bind (fun x1 => (if x1 < (30 : Int32) then (gR σ l0 1 4).bind (fun x2 => (gI σ l0 1 5).bind (fun x3 => ((aR σ x2 17 x3).bind id).bind (fun x4 => (if xk σ x4 9 = true then (f_X9_copy σ x4 l1).bind (fun p5 => (gI p5 l0 1 5).bind (fun x6 => (sI p5 l0 1 5 (x6 + (1 : Int32))).bind (fun σ7 => (if xk σ7 l0 1 = true then (f_X1_note σ7 l0 (0 : Int32) (0 : Int32)).bind (fun p8 => (gI p8.2 l0 1 5).bind (fun x9 => some ((x9 - (1 : Int32)), p8.2))) else none)))) else none)))) else some ((-1 : Int32), σ)))
set_option maxHeartbeats 4000000 in
set_option maxRecDepth 20000 in
theorem m_X1_shelve {G : xG} {π : Nat → Nat} {d C Z : Nat} {Q : xQ} {σ : xM} {l0 : Nat} {l1 : Nat} {x : (Int32 × xM)} (hf : f_X1_shelve σ l0 l1 = some x) (hR : ∀ g, x = g → Q (.inl (some (.int g.1))) (g.2) π) : xMach G π J_X1_shelve (d + 4) C Z 0 (lv_args 0 [.ref l0, .ref l1]) [] σ Q := by
  unfold f_X1_shelve at hf
  refine xm_stL (L' := [(0, .ref l0), (1, .ref l1)]) rfl ?_
  refine xm_aload_n dX1_shelve_0 rfl ?_
  refine xb_getI (a := l0) (c := 1) (k := 5) dX1_shelve_1 xcl1 (by decide) xw_276 rfl hf (fun x1 ex1 hf => ?_)
  refine xm_bipush dX1_shelve_4 (v := 30) (by decide) ?_
  refine xb_icmp_lt 11 dX1_shelve_6 (by decide) hf (fun c hf => ?_) (fun c hf => ?_)
  · refine xm_aload_n dX1_shelve_11 rfl ?_
    refine xb_getR (a := l0) (c := 1) (k := 4) dX1_shelve_12 xcl1 (by decide) xw_273 rfl hf (fun x2 ex2 hf => ?_)
    refine xm_aload_n dX1_shelve_15 rfl ?_
    refine xb_getI (a := l0) (c := 1) (k := 5) dX1_shelve_16 xcl1 (by decide) xw_276 rfl hf (fun x3 ex3 hf => ?_)
    refine xb_aaldS dX1_shelve_19 (by decide) hf (fun x4 ex4 hf => ?_)
    refine xm_aload_n dX1_shelve_20 rfl ?_
    refine xb_if hf (fun hb hf => ?_) (fun _ q => nomatch q)
    obtain ⟨p5, ep5, hf⟩ := xbind hf
    refine xb_callV (As := [.ref l1]) (v0 := none) (τ0 := p5) dX1_shelve_21 (xc_X9_copy _ _) xcl9 xw_823 xw_824 xw_825 hb rfl (Nat.le_of_ble_eq_true rfl) rfl (Nat.le_of_ble_eq_true rfl) (fun Q1 hq => m_X9_copy (d := d + 0) ep5 (fun g hg => by subst hg; exact hq)) ?_
    refine xm_aload_n dX1_shelve_24 rfl ?_
    refine xm_dup dX1_shelve_25 rfl ?_
    refine xb_getI (a := l0) (c := 1) (k := 5) dX1_shelve_26 xcl1 (by decide) xw_276 rfl hf (fun x6 ex6 hf => ?_)
    refine xm_iconst dX1_shelve_29 (v := 1) (by decide) ?_
    refine xm_iadd dX1_shelve_30 ?_
    refine xb_putI (a := l0) (c := 1) (k := 5) dX1_shelve_31 xcl1 (by decide) xw_276 rfl rfl hf (fun σ7 eσ7 hf => ?_)
    refine xm_aload_n dX1_shelve_34 rfl ?_
    refine xm_iconst dX1_shelve_35 (v := 0) (by decide) ?_
    refine xm_iconst dX1_shelve_36 (v := 0) (by decide) ?_
    refine xb_if hf (fun hb hf => ?_) (fun _ q => nomatch q)
    obtain ⟨p8, ep8, hf⟩ := xbind hf
    refine xb_callV (As := [.int (0 : Int32), .int (0 : Int32)]) (v0 := (some (.int p8.1))) (τ0 := p8.2) dX1_shelve_37 (xc_X1_note _ _) xcl1 xw_838 xw_840 xs_16 hb rfl (Nat.le_of_ble_eq_true rfl) rfl (Nat.le_of_ble_eq_true rfl) (fun Q1 hq => m_X1_note (d := d + 3) ep8 (fun g hg => by subst hg; exact hq)) ?_
    refine xm_pop dX1_shelve_40 rfl ?_
    refine xm_aload_n dX1_shelve_41 rfl ?_
    refine xb_getI (a := l0) (c := 1) (k := 5) dX1_shelve_42 xcl1 (by decide) xw_276 rfl hf (fun x9 ex9 hf => ?_)
    refine xm_iconst dX1_shelve_45 (v := 1) (by decide) ?_
    refine xm_isub dX1_shelve_46 ?_
    cases hf
    exact xm_iret dX1_shelve_47 rfl (hR _ rfl)
  · refine xm_iconst dX1_shelve_9 (v := -1) (by decide) ?_
    cases hf
    exact xm_iret dX1_shelve_10 rfl (hR _ rfl)
-- Rankwise$Desk.isFix(I)Z
def f_X1_isFix_j14 (σ : xM) (s0 : Int32) : Option Int32 :=
  (xz s0).bind (fun b1 => some b1)
set_option maxHeartbeats 4000000 in
set_option maxRecDepth 20000 in
theorem L_X1_isFix_j14 {G : xG} {π : Nat → Nat} {d C Z : Nat} {Q : xQ} (σ : xM) (s0 : Int32) {x : Int32} (hf : f_X1_isFix_j14 σ s0 = some x) (hR : ∀ g, x = g → Q (.inl (some (.int g))) (σ) π) : xMach G π J_X1_isFix (d + 0) C Z 14 [] [.int s0] σ Q := by
  unfold f_X1_isFix_j14 at hf
  obtain ⟨b1, eb1, hf⟩ := xbind hf
  obtain ⟨rfl, hz⟩ := xz_of eb1
  cases hf
  exact xm_zret dX1_isFix_14 rfl hz (hR _ rfl)
def f_X1_isFix_j13 (σ : xM)  : Option Int32 :=
  f_X1_isFix_j14 σ (0 : Int32)
set_option maxHeartbeats 4000000 in
set_option maxRecDepth 20000 in
theorem L_X1_isFix_j13 {G : xG} {π : Nat → Nat} {d C Z : Nat} {Q : xQ} (σ : xM)  {x : Int32} (hf : f_X1_isFix_j13 σ = some x) (hR : ∀ g, x = g → Q (.inl (some (.int g))) (σ) π) : xMach G π J_X1_isFix (d + 0) C Z 13 [] [] σ Q := by
  unfold f_X1_isFix_j13 at hf
  refine xm_iconst dX1_isFix_13 (v := 0) (by decide) ?_
  exact xm_sub [] rfl (L_X1_isFix_j14 σ (0 : Int32) hf hR)
def f_X1_isFix (σ : xM) (l0 : Int32) : Option Int32 :=
  (if l0 < (0 : Int32) then f_X1_isFix_j13 σ else (if (2 : Int32) < l0 then f_X1_isFix_j13 σ else f_X1_isFix_j14 σ (1 : Int32)))
set_option maxHeartbeats 4000000 in
set_option maxRecDepth 20000 in
theorem m_X1_isFix {G : xG} {π : Nat → Nat} {d C Z : Nat} {Q : xQ} {σ : xM} {l0 : Int32} {x : Int32} (hf : f_X1_isFix σ l0 = some x) (hR : ∀ g, x = g → Q (.inl (some (.int g))) (σ) π) : xMach G π J_X1_isFix (d + 0) C Z 0 (lv_args 0 [.int l0]) [] σ Q := by
  unfold f_X1_isFix at hf
  refine xm_stL (L' := [(0, .int l0)]) rfl ?_
  refine xm_iload_n dX1_isFix_0 rfl ?_
  refine xb_if_lt 13 dX1_isFix_1 (by decide) hf (fun c hf => ?_) (fun c hf => ?_)
  · exact xm_sub [] rfl (L_X1_isFix_j13 σ hf hR)
  · refine xm_iload_n dX1_isFix_4 rfl ?_
    refine xm_iconst dX1_isFix_5 (v := 2) (by decide) ?_
    refine xb_icmp_gt 13 dX1_isFix_6 (by decide) hf (fun c hf => ?_) (fun c hf => ?_)
    · exact xm_sub [] rfl (L_X1_isFix_j13 σ hf hR)
    · refine xm_iconst dX1_isFix_9 (v := 1) (by decide) ?_
      refine xm_goto 14 dX1_isFix_10 (by decide) ?_
      exact xm_sub [] rfl (L_X1_isFix_j14 σ (1 : Int32) hf hR)
-- Rankwise$Desk.isOperator(IIII)Z
def f_X1_isOperator_j29 (σ : xM)  : Option Int32 :=
  some (0 : Int32)
set_option maxHeartbeats 4000000 in
set_option maxRecDepth 20000 in
theorem L_X1_isOperator_j29 {G : xG} {π : Nat → Nat} {d C Z : Nat} {Q : xQ} (σ : xM)  {x : Int32} (hf : f_X1_isOperator_j29 σ = some x) (hR : ∀ g, x = g → Q (.inl (some (.int g))) (σ) π) : xMach G π J_X1_isOperator (d + 0) C Z 29 [] [] σ Q := by
  unfold f_X1_isOperator_j29 at hf
  refine xm_iconst dX1_isOperator_29 (v := 0) (by decide) ?_
  cases hf
  exact xm_zret dX1_isOperator_30 rfl rfl (hR _ rfl)
def f_X1_isOperator_j109 (σ : xM) (s0 : Int32) : Option Int32 :=
  (xz s0).bind (fun b2 => some b2)
set_option maxHeartbeats 4000000 in
set_option maxRecDepth 20000 in
theorem L_X1_isOperator_j109 {G : xG} {π : Nat → Nat} {d C Z : Nat} {Q : xQ} (σ : xM) (s0 : Int32) {x : Int32} (hf : f_X1_isOperator_j109 σ s0 = some x) (hR : ∀ g, x = g → Q (.inl (some (.int g))) (σ) π) : xMach G π J_X1_isOperator (d + 0) C Z 109 [] [.int s0] σ Q := by
  unfold f_X1_isOperator_j109 at hf
  obtain ⟨b2, eb2, hf⟩ := xbind hf
  obtain ⟨rfl, hz⟩ := xz_of eb2
  cases hf
  exact xm_zret dX1_isOperator_109 rfl hz (hR _ rfl)
def f_X1_isOperator_j108 (σ : xM)  : Option Int32 :=
  f_X1_isOperator_j109 σ (0 : Int32)
set_option maxHeartbeats 4000000 in
set_option maxRecDepth 20000 in
theorem L_X1_isOperator_j108 {G : xG} {π : Nat → Nat} {d C Z : Nat} {Q : xQ} (σ : xM)  {x : Int32} (hf : f_X1_isOperator_j108 σ = some x) (hR : ∀ g, x = g → Q (.inl (some (.int g))) (σ) π) : xMach G π J_X1_isOperator (d + 0) C Z 108 [] [] σ Q := by
  unfold f_X1_isOperator_j108 at hf
  refine xm_iconst dX1_isOperator_108 (v := 0) (by decide) ?_
  exact xm_sub [] rfl (L_X1_isOperator_j109 σ (0 : Int32) hf hR)
def f_X1_isOperator_j88 (σ : xM)  : Option Int32 :=
  f_X1_isOperator_j109 σ (0 : Int32)
set_option maxHeartbeats 4000000 in
set_option maxRecDepth 20000 in
theorem L_X1_isOperator_j88 {G : xG} {π : Nat → Nat} {d C Z : Nat} {Q : xQ} (σ : xM)  {x : Int32} (hf : f_X1_isOperator_j88 σ = some x) (hR : ∀ g, x = g → Q (.inl (some (.int g))) (σ) π) : xMach G π J_X1_isOperator (d + 0) C Z 88 [] [] σ Q := by
  unfold f_X1_isOperator_j88 at hf
  refine xm_iconst dX1_isOperator_88 (v := 0) (by decide) ?_
  refine xm_goto 109 dX1_isOperator_89 (by decide) ?_
  exact xm_sub [] rfl (L_X1_isOperator_j109 σ (0 : Int32) hf hR)
def f_X1_isOperator_j69 (σ : xM) (l0 : Int32) (l3 : Int32) : Option Int32 :=
  (if l0 = (2 : Int32) then (if l3 < (0 : Int32) then f_X1_isOperator_j88 σ else (if (10 : Int32) < l3 then f_X1_isOperator_j88 σ else f_X1_isOperator_j109 σ (1 : Int32))) else (if l3 < (11 : Int32) then f_X1_isOperator_j108 σ else (if (13 : Int32) < l3 then f_X1_isOperator_j108 σ else f_X1_isOperator_j109 σ (1 : Int32))))
set_option maxHeartbeats 4000000 in
set_option maxRecDepth 20000 in
theorem L_X1_isOperator_j69 {G : xG} {π : Nat → Nat} {d C Z : Nat} {Q : xQ} (σ : xM) (l0 : Int32) (l3 : Int32) {x : Int32} (hf : f_X1_isOperator_j69 σ l0 l3 = some x) (hR : ∀ g, x = g → Q (.inl (some (.int g))) (σ) π) : xMach G π J_X1_isOperator (d + 0) C Z 69 [(0, .int l0), (3, .int l3)] [] σ Q := by
  unfold f_X1_isOperator_j69 at hf
  refine xm_iload_n dX1_isOperator_69 rfl ?_
  refine xm_iconst dX1_isOperator_70 (v := 2) (by decide) ?_
  refine xb_icmp_ne 92 dX1_isOperator_71 (by decide) hf (fun c hf => ?_) (fun c hf => ?_)
  · refine xm_iload_n dX1_isOperator_92 rfl ?_
    refine xm_bipush dX1_isOperator_93 (v := 11) (by decide) ?_
    refine xb_icmp_lt 108 dX1_isOperator_95 (by decide) hf (fun c hf => ?_) (fun c hf => ?_)
    · exact xm_sub [] rfl (L_X1_isOperator_j108 σ hf hR)
    · refine xm_iload_n dX1_isOperator_98 rfl ?_
      refine xm_bipush dX1_isOperator_99 (v := 13) (by decide) ?_
      refine xb_icmp_gt 108 dX1_isOperator_101 (by decide) hf (fun c hf => ?_) (fun c hf => ?_)
      · exact xm_sub [] rfl (L_X1_isOperator_j108 σ hf hR)
      · refine xm_iconst dX1_isOperator_104 (v := 1) (by decide) ?_
        refine xm_goto 109 dX1_isOperator_105 (by decide) ?_
        exact xm_sub [] rfl (L_X1_isOperator_j109 σ (1 : Int32) hf hR)
  · refine xm_iload_n dX1_isOperator_74 rfl ?_
    refine xb_if_lt 88 dX1_isOperator_75 (by decide) hf (fun c hf => ?_) (fun c hf => ?_)
    · exact xm_sub [] rfl (L_X1_isOperator_j88 σ hf hR)
    · refine xm_iload_n dX1_isOperator_78 rfl ?_
      refine xm_bipush dX1_isOperator_79 (v := 10) (by decide) ?_
      refine xb_icmp_gt 88 dX1_isOperator_81 (by decide) hf (fun c hf => ?_) (fun c hf => ?_)
      · exact xm_sub [] rfl (L_X1_isOperator_j88 σ hf hR)
      · refine xm_iconst dX1_isOperator_84 (v := 1) (by decide) ?_
        refine xm_goto 109 dX1_isOperator_85 (by decide) ?_
        exact xm_sub [] rfl (L_X1_isOperator_j109 σ (1 : Int32) hf hR)
def f_X1_isOperator_j68 (σ : xM) (s0 : Int32) : Option Int32 :=
  (xz s0).bind (fun b3 => some b3)
set_option maxHeartbeats 4000000 in
set_option maxRecDepth 20000 in
theorem L_X1_isOperator_j68 {G : xG} {π : Nat → Nat} {d C Z : Nat} {Q : xQ} (σ : xM) (s0 : Int32) {x : Int32} (hf : f_X1_isOperator_j68 σ s0 = some x) (hR : ∀ g, x = g → Q (.inl (some (.int g))) (σ) π) : xMach G π J_X1_isOperator (d + 0) C Z 68 [] [.int s0] σ Q := by
  unfold f_X1_isOperator_j68 at hf
  obtain ⟨b3, eb3, hf⟩ := xbind hf
  obtain ⟨rfl, hz⟩ := xz_of eb3
  cases hf
  exact xm_zret dX1_isOperator_68 rfl hz (hR _ rfl)
def f_X1_isOperator_j67 (σ : xM)  : Option Int32 :=
  f_X1_isOperator_j68 σ (0 : Int32)
set_option maxHeartbeats 4000000 in
set_option maxRecDepth 20000 in
theorem L_X1_isOperator_j67 {G : xG} {π : Nat → Nat} {d C Z : Nat} {Q : xQ} (σ : xM)  {x : Int32} (hf : f_X1_isOperator_j67 σ = some x) (hR : ∀ g, x = g → Q (.inl (some (.int g))) (σ) π) : xMach G π J_X1_isOperator (d + 0) C Z 67 [] [] σ Q := by
  unfold f_X1_isOperator_j67 at hf
  refine xm_iconst dX1_isOperator_67 (v := 0) (by decide) ?_
  exact xm_sub [] rfl (L_X1_isOperator_j68 σ (0 : Int32) hf hR)
def f_X1_isOperator_j31 (σ : xM) (l0 : Int32) (l3 : Int32) : Option Int32 :=
  xlet (l3 - (100 : Int32)) (fun v1 => (if v1 < (0 : Int32) then f_X1_isOperator_j69 σ l0 l3 else (if (26 : Int32) ≤ v1 then f_X1_isOperator_j69 σ l0 l3 else (if v1 = (8 : Int32) then f_X1_isOperator_j67 σ else (if v1 = (18 : Int32) then f_X1_isOperator_j67 σ else f_X1_isOperator_j68 σ (1 : Int32))))))
set_option maxHeartbeats 4000000 in
set_option maxRecDepth 20000 in
theorem L_X1_isOperator_j31 {G : xG} {π : Nat → Nat} {d C Z : Nat} {Q : xQ} (σ : xM) (l0 : Int32) (l3 : Int32) {x : Int32} (hf : f_X1_isOperator_j31 σ l0 l3 = some x) (hR : ∀ g, x = g → Q (.inl (some (.int g))) (σ) π) : xMach G π J_X1_isOperator (d + 0) C Z 31 [(0, .int l0), (3, .int l3)] [] σ Q := by
  unfold f_X1_isOperator_j31 at hf
  refine xm_iload_n dX1_isOperator_31 rfl ?_
  refine xm_bipush dX1_isOperator_32 (v := 100) (by decide) ?_
  refine xm_isub dX1_isOperator_34 ?_
  refine xb_topi hf (fun v1 ev1 hf => ?_)
  refine xm_istore dX1_isOperator_35 (by decide) (xm_stL (L' := [(4, .int v1), (0, .int l0), (3, .int l3)]) rfl ?_)
  refine xm_iload dX1_isOperator_37 rfl ?_
  refine xb_if_lt 69 dX1_isOperator_39 (by decide) hf (fun c hf => ?_) (fun c hf => ?_)
  · exact xm_sub [1, 2] rfl (L_X1_isOperator_j69 σ l0 l3 hf hR)
  · refine xm_iload dX1_isOperator_42 rfl ?_
    refine xm_bipush dX1_isOperator_44 (v := 26) (by decide) ?_
    refine xb_icmp_ge 69 dX1_isOperator_46 (by decide) hf (fun c hf => ?_) (fun c hf => ?_)
    · exact xm_sub [1, 2] rfl (L_X1_isOperator_j69 σ l0 l3 hf hR)
    · refine xm_iload dX1_isOperator_49 rfl ?_
      refine xm_bipush dX1_isOperator_51 (v := 8) (by decide) ?_
      refine xb_icmp_eq 67 dX1_isOperator_53 (by decide) hf (fun c hf => ?_) (fun c hf => ?_)
      · exact xm_sub [] rfl (L_X1_isOperator_j67 σ hf hR)
      · refine xm_iload dX1_isOperator_56 rfl ?_
        refine xm_bipush dX1_isOperator_58 (v := 18) (by decide) ?_
        refine xb_icmp_eq 67 dX1_isOperator_60 (by decide) hf (fun c hf => ?_) (fun c hf => ?_)
        · exact xm_sub [] rfl (L_X1_isOperator_j67 σ hf hR)
        · refine xm_iconst dX1_isOperator_63 (v := 1) (by decide) ?_
          refine xm_goto 68 dX1_isOperator_64 (by decide) ?_
          exact xm_sub [] rfl (L_X1_isOperator_j68 σ (1 : Int32) hf hR)
def f_X1_isOperator (σ : xM) (l0 : Int32) (l1 : Int32) (l2 : Int32) (l3 : Int32) : Option Int32 :=
  (if l1 < (1 : Int32) then f_X1_isOperator_j29 σ else (if (9 : Int32) < l1 then f_X1_isOperator_j29 σ else (if l2 < (0 : Int32) then f_X1_isOperator_j29 σ else (if (2 : Int32) < l2 then f_X1_isOperator_j29 σ else (if l0 = (2 : Int32) then f_X1_isOperator_j31 σ l0 l3 else (if l2 = (0 : Int32) then f_X1_isOperator_j31 σ l0 l3 else f_X1_isOperator_j29 σ))))))
set_option maxHeartbeats 4000000 in
set_option maxRecDepth 20000 in
theorem m_X1_isOperator {G : xG} {π : Nat → Nat} {d C Z : Nat} {Q : xQ} {σ : xM} {l0 : Int32} {l1 : Int32} {l2 : Int32} {l3 : Int32} {x : Int32} (hf : f_X1_isOperator σ l0 l1 l2 l3 = some x) (hR : ∀ g, x = g → Q (.inl (some (.int g))) (σ) π) : xMach G π J_X1_isOperator (d + 0) C Z 0 (lv_args 0 [.int l0, .int l1, .int l2, .int l3]) [] σ Q := by
  unfold f_X1_isOperator at hf
  refine xm_stL (L' := [(0, .int l0), (1, .int l1), (2, .int l2), (3, .int l3)]) rfl ?_
  refine xm_iload_n dX1_isOperator_0 rfl ?_
  refine xm_iconst dX1_isOperator_1 (v := 1) (by decide) ?_
  refine xb_icmp_lt 29 dX1_isOperator_2 (by decide) hf (fun c hf => ?_) (fun c hf => ?_)
  · exact xm_sub [] rfl (L_X1_isOperator_j29 σ hf hR)
  · refine xm_iload_n dX1_isOperator_5 rfl ?_
    refine xm_bipush dX1_isOperator_6 (v := 9) (by decide) ?_
    refine xb_icmp_gt 29 dX1_isOperator_8 (by decide) hf (fun c hf => ?_) (fun c hf => ?_)
    · exact xm_sub [] rfl (L_X1_isOperator_j29 σ hf hR)
    · refine xm_iload_n dX1_isOperator_11 rfl ?_
      refine xb_if_lt 29 dX1_isOperator_12 (by decide) hf (fun c hf => ?_) (fun c hf => ?_)
      · exact xm_sub [] rfl (L_X1_isOperator_j29 σ hf hR)
      · refine xm_iload_n dX1_isOperator_15 rfl ?_
        refine xm_iconst dX1_isOperator_16 (v := 2) (by decide) ?_
        refine xb_icmp_gt 29 dX1_isOperator_17 (by decide) hf (fun c hf => ?_) (fun c hf => ?_)
        · exact xm_sub [] rfl (L_X1_isOperator_j29 σ hf hR)
        · refine xm_iload_n dX1_isOperator_20 rfl ?_
          refine xm_iconst dX1_isOperator_21 (v := 2) (by decide) ?_
          refine xb_icmp_eq 31 dX1_isOperator_22 (by decide) hf (fun c hf => ?_) (fun c hf => ?_)
          · exact xm_sub [0, 3] rfl (L_X1_isOperator_j31 σ l0 l3 hf hR)
          · refine xm_iload_n dX1_isOperator_25 rfl ?_
            refine xb_if_eq 31 dX1_isOperator_26 (by decide) hf (fun c hf => ?_) (fun c hf => ?_)
            · exact xm_sub [0, 3] rfl (L_X1_isOperator_j31 σ l0 l3 hf hR)
            · exact xm_sub [] rfl (L_X1_isOperator_j29 σ hf hR)
-- Rankwise$Desk.clashes(IIII)Z
def f_X1_clashes_j91 (σ : xM) (l0 : Nat) (l3 : Int32) (l4 : Int32) (l5 : Int32) (l6 : Int32) : Option (Int32 ⊕ ((Unit ⊕ Unit) ⊕ (Nat × Int32 × Int32 × Int32 × Int32))) :=
  xlet (l6 + (1 : Int32)) (fun v6 => some (Sum.inr (Sum.inr (l0, l3, l4, l5, v6))))
set_option maxHeartbeats 4000000 in
set_option maxRecDepth 20000 in
theorem L_X1_clashes_j91 {G : xG} {π : Nat → Nat} {d C Z : Nat} {Q : xQ} (σ : xM) (l0 : Nat) (l3 : Int32) (l4 : Int32) (l5 : Int32) (l6 : Int32) {x : (Int32 ⊕ ((Unit ⊕ Unit) ⊕ (Nat × Int32 × Int32 × Int32 × Int32)))} (hf : f_X1_clashes_j91 σ l0 l3 l4 l5 l6 = some x) (hR : ∀ g, x = Sum.inl (g) → Q (.inl (some (.int g))) (σ) π) (hE0 : ∀ e : Unit, x = Sum.inr (Sum.inl (Sum.inl e)) → xMach G π J_X1_clashes (d + 2) C Z 89 [] [] σ Q) (hE1 : ∀ e : Unit, x = Sum.inr (Sum.inl (Sum.inr e)) → xMach G π J_X1_clashes (d + 2) C Z 97 [] [] σ Q) (hC : ∀ e : (Nat × Int32 × Int32 × Int32 × Int32), x = Sum.inr (Sum.inr e) → xMach G π J_X1_clashes (d + 2) C Z 49 [(0, .ref e.1), (3, .int e.2.1), (4, .int e.2.2.1), (5, .int e.2.2.2.1), (6, .int e.2.2.2.2)] [] σ Q) : xMach G π J_X1_clashes (d + 2) C Z 91 [(0, .ref l0), (3, .int l3), (4, .int l4), (5, .int l5), (6, .int l6)] [] σ Q := by
  unfold f_X1_clashes_j91 at hf
  refine xb_iinc dX1_clashes_91 rfl (by decide) (by decide) hf (fun v6 ev6 hf => xm_stL (L' := [(6, .int v6), (0, .ref l0), (3, .int l3), (4, .int l4), (5, .int l5)]) rfl ?_)
  refine xm_goto 49 dX1_clashes_94 (by decide) ?_
  cases hf
  exact xm_sub [1, 2, 3, 4, 0] rfl (hC _ rfl)
def f_X1_clashes_s49 (σ : xM) (s : (Nat × Int32 × Int32 × Int32 × Int32)) : Option (Int32 ⊕ ((Unit ⊕ Unit) ⊕ (Nat × Int32 × Int32 × Int32 × Int32))) :=
  xlet s.1 (fun l0 => xlet s.2.1 (fun l3 => xlet s.2.2.1 (fun l4 => xlet s.2.2.2.1 (fun l5 => xlet s.2.2.2.2 (fun l6 => (gR σ l0 1 1).bind (fun x4 => (gL σ x4 14).bind (fun x5 => (if x5 ≤ l6 then some (Sum.inr (Sum.inl (Sum.inr ()))) else (if l6 = l5 then f_X1_clashes_j91 σ l0 l3 l4 l5 l6 else (gR σ l0 1 1).bind (fun x7 => (aI σ x7 14 l6).bind (fun x8 => (if x8 = l3 then (gR σ l0 1 2).bind (fun x9 => (aI σ x9 14 l6).bind (fun x10 => (if x10 = l4 then f_X1_clashes_j91 σ l0 l3 l4 l5 l6 else some (Sum.inr (Sum.inl (Sum.inl ())))))) else f_X1_clashes_j91 σ l0 l3 l4 l5 l6))))))))))))
set_option maxHeartbeats 4000000 in
set_option maxRecDepth 20000 in
theorem L_X1_clashes_s49 {G : xG} {π : Nat → Nat} {d C Z : Nat} {Q : xQ} (σ : xM) (l0 : Nat) (l3 : Int32) (l4 : Int32) (l5 : Int32) (l6 : Int32) {x : (Int32 ⊕ ((Unit ⊕ Unit) ⊕ (Nat × Int32 × Int32 × Int32 × Int32)))} (hf : f_X1_clashes_s49 σ (l0, l3, l4, l5, l6) = some x) (hR : ∀ g, x = Sum.inl (g) → Q (.inl (some (.int g))) (σ) π) (hE0 : ∀ e : Unit, x = Sum.inr (Sum.inl (Sum.inl e)) → xMach G π J_X1_clashes (d + 2) C Z 89 [] [] σ Q) (hE1 : ∀ e : Unit, x = Sum.inr (Sum.inl (Sum.inr e)) → xMach G π J_X1_clashes (d + 2) C Z 97 [] [] σ Q) (hC : ∀ e : (Nat × Int32 × Int32 × Int32 × Int32), x = Sum.inr (Sum.inr e) → xMach G π J_X1_clashes (d + 2) C Z 49 [(0, .ref e.1), (3, .int e.2.1), (4, .int e.2.2.1), (5, .int e.2.2.2.1), (6, .int e.2.2.2.2)] [] σ Q) : xMach G π J_X1_clashes (d + 2) C Z 49 [(0, .ref l0), (3, .int l3), (4, .int l4), (5, .int l5), (6, .int l6)] [] σ Q := by
  have hf : (gR σ l0 1 1).bind (fun x4 => (gL σ x4 14).bind (fun x5 => (if x5 ≤ l6 then some (Sum.inr (Sum.inl (Sum.inr ()))) else (if l6 = l5 then f_X1_clashes_j91 σ l0 l3 l4 l5 l6 else (gR σ l0 1 1).bind (fun x7 => (aI σ x7 14 l6).bind (fun x8 => (if x8 = l3 then (gR σ l0 1 2).bind (fun x9 => (aI σ x9 14 l6).bind (fun x10 => (if x10 = l4 then f_X1_clashes_j91 σ l0 l3 l4 l5 l6 else some (Sum.inr (Sum.inl (Sum.inl ())))))) else f_X1_clashes_j91 σ l0 l3 l4 l5 l6))))))) = some x := hf
  refine xm_iload dX1_clashes_49 rfl ?_
  refine xm_aload_n dX1_clashes_51 rfl ?_
  refine xb_getR (a := l0) (c := 1) (k := 1) dX1_clashes_52 xcl1 (by decide) xw_270 rfl hf (fun x4 ex4 hf => ?_)
  refine xb_alen dX1_clashes_55 (by decide) (by decide) hf (fun x5 ex5 hf => ?_)
  refine xb_icmp_ge 97 dX1_clashes_56 (by decide) hf (fun c hf => ?_) (fun c hf => ?_)
  · cases hf
    exact xm_sub [] rfl (hE1 _ rfl)
  · refine xm_iload dX1_clashes_59 rfl ?_
    refine xm_iload dX1_clashes_61 rfl ?_
    refine xb_icmp_eq 91 dX1_clashes_63 (by decide) hf (fun c hf => ?_) (fun c hf => ?_)
    · exact xm_sub [0, 1, 2, 3, 4] rfl (L_X1_clashes_j91 σ l0 l3 l4 l5 l6 hf hR hE0 hE1 hC)
    · refine xm_aload_n dX1_clashes_66 rfl ?_
      refine xb_getR (a := l0) (c := 1) (k := 1) dX1_clashes_67 xcl1 (by decide) xw_270 rfl hf (fun x7 ex7 hf => ?_)
      refine xm_iload dX1_clashes_70 rfl ?_
      refine xb_iald dX1_clashes_72 hf (fun x8 ex8 hf => ?_)
      refine xm_iload_n dX1_clashes_73 rfl ?_
      refine xb_icmp_ne 91 dX1_clashes_74 (by decide) hf (fun c hf => ?_) (fun c hf => ?_)
      · exact xm_sub [0, 1, 2, 3, 4] rfl (L_X1_clashes_j91 σ l0 l3 l4 l5 l6 hf hR hE0 hE1 hC)
      · refine xm_aload_n dX1_clashes_77 rfl ?_
        refine xb_getR (a := l0) (c := 1) (k := 2) dX1_clashes_78 xcl1 (by decide) xw_271 rfl hf (fun x9 ex9 hf => ?_)
        refine xm_iload dX1_clashes_81 rfl ?_
        refine xb_iald dX1_clashes_83 hf (fun x10 ex10 hf => ?_)
        refine xm_iload dX1_clashes_84 rfl ?_
        refine xb_icmp_eq 91 dX1_clashes_86 (by decide) hf (fun c hf => ?_) (fun c hf => ?_)
        · exact xm_sub [0, 1, 2, 3, 4] rfl (L_X1_clashes_j91 σ l0 l3 l4 l5 l6 hf hR hE0 hE1 hC)
        · cases hf
          exact xm_sub [] rfl (hE0 _ rfl)
theorem L_X1_clashes_l49 {G : xG} {π : Nat → Nat} {d C Z : Nat} {Q : xQ} (σ : xM) {s0 : (Nat × Int32 × Int32 × Int32 × Int32)} {x : (Int32 ⊕ (Unit ⊕ Unit))} (h1 : xloop (f_X1_clashes_s49 σ) xF s0 = some x) (hR : ∀ g, x = Sum.inl g → Q (.inl (some (.int g))) (σ) π) (hE0 : ∀ e : Unit, x = Sum.inr (Sum.inl e) → xMach G π J_X1_clashes (d + 2) C Z 89 [] [] σ Q) (hE1 : ∀ e : Unit, x = Sum.inr (Sum.inr e) → xMach G π J_X1_clashes (d + 2) C Z 97 [] [] σ Q) : xMach G π J_X1_clashes (d + 2) C Z 49 [(0, .ref s0.1), (3, .int s0.2.1), (4, .int s0.2.2.1), (5, .int s0.2.2.2.1), (6, .int s0.2.2.2.2)] [] σ Q := by
  refine xloop_run (M := (fun s : (Nat × Int32 × Int32 × Int32 × Int32) => xMach G π J_X1_clashes (d + 2) C Z 49 [(0, .ref s.1), (3, .int s.2.1), (4, .int s.2.2.1), (5, .int s.2.2.2.1), (6, .int s.2.2.2.2)] [] σ Q)) (r := x) ?_ xF _ h1
  intro s y hs hx
  exact L_X1_clashes_s49 σ s.1 s.2.1 s.2.2.1 s.2.2.2.1 s.2.2.2.2 (x := y) hs (fun g hg => by subst hg; exact hR g hx) (fun e he => by subst he; exact hE0 e hx) (fun e he => by subst he; exact hE1 e hx) (fun e he => by subst he; exact hx)
def f_X1_clashes_j89 (σ : xM)  : Option Int32 :=
  some (1 : Int32)
set_option maxHeartbeats 4000000 in
set_option maxRecDepth 20000 in
theorem L_X1_clashes_j89 {G : xG} {π : Nat → Nat} {d C Z : Nat} {Q : xQ} (σ : xM)  {x : Int32} (hf : f_X1_clashes_j89 σ = some x) (hR : ∀ g, x = g → Q (.inl (some (.int g))) (σ) π) : xMach G π J_X1_clashes (d + 2) C Z 89 [] [] σ Q := by
  unfold f_X1_clashes_j89 at hf
  refine xm_iconst dX1_clashes_89 (v := 1) (by decide) ?_
  cases hf
  exact xm_zret dX1_clashes_90 rfl rfl (hR _ rfl)
def f_X1_clashes_j97 (σ : xM)  : Option Int32 :=
  some (0 : Int32)
set_option maxHeartbeats 4000000 in
set_option maxRecDepth 20000 in
theorem L_X1_clashes_j97 {G : xG} {π : Nat → Nat} {d C Z : Nat} {Q : xQ} (σ : xM)  {x : Int32} (hf : f_X1_clashes_j97 σ = some x) (hR : ∀ g, x = g → Q (.inl (some (.int g))) (σ) π) : xMach G π J_X1_clashes (d + 2) C Z 97 [] [] σ Q := by
  unfold f_X1_clashes_j97 at hf
  refine xm_iconst dX1_clashes_97 (v := 0) (by decide) ?_
  cases hf
  exact xm_zret dX1_clashes_98 rfl rfl (hR _ rfl)
def f_X1_clashes_j25 (σ : xM) (s0 : Int32) : Option Int32 :=
  (xz s0).bind (fun b12 => some b12)
set_option maxHeartbeats 4000000 in
set_option maxRecDepth 20000 in
theorem L_X1_clashes_j25 {G : xG} {π : Nat → Nat} {d C Z : Nat} {Q : xQ} (σ : xM) (s0 : Int32) {x : Int32} (hf : f_X1_clashes_j25 σ s0 = some x) (hR : ∀ g, x = g → Q (.inl (some (.int g))) (σ) π) : xMach G π J_X1_clashes (d + 2) C Z 25 [] [.int s0] σ Q := by
  unfold f_X1_clashes_j25 at hf
  obtain ⟨b12, eb12, hf⟩ := xbind hf
  obtain ⟨rfl, hz⟩ := xz_of eb12
  cases hf
  exact xm_zret dX1_clashes_25 rfl hz (hR _ rfl)
def f_X1_clashes (σ : xM) (l0 : Nat) (l1 : Int32) (l2 : Int32) (l3 : Int32) (l4 : Int32) : Option Int32 :=
  (if l2 = (0 : Int32) then some (0 : Int32) else (if l2 = (1 : Int32) then (if xk σ l0 1 = true then (f_X1_rank σ l0 l1 (2 : Int32)).bind (fun p11 => (if p11 ≤ (0 : Int32) then f_X1_clashes_j25 σ (0 : Int32) else f_X1_clashes_j25 σ (1 : Int32))) else none) else (if xk σ l0 1 = true then (f_X1_rank σ l0 l1 (1 : Int32)).bind (fun p1 => (if p1 ≤ (0 : Int32) then (if xk σ l0 1 = true then (f_X1_slot σ l0 l1 (2 : Int32)).bind (fun p2 => xlet (32 : Int32) (fun v3 => (xloop (f_X1_clashes_s49 σ ) xF (l0, l3, l4, p2, v3)).bind (Sum.elim (fun g => some g) (Sum.elim (fun e => f_X1_clashes_j89 σ) (fun e => f_X1_clashes_j97 σ))))) else none) else some (1 : Int32))) else none)))
set_option maxHeartbeats 4000000 in
set_option maxRecDepth 20000 in
theorem m_X1_clashes {G : xG} {π : Nat → Nat} {d C Z : Nat} {Q : xQ} {σ : xM} {l0 : Nat} {l1 : Int32} {l2 : Int32} {l3 : Int32} {l4 : Int32} {x : Int32} (hf : f_X1_clashes σ l0 l1 l2 l3 l4 = some x) (hR : ∀ g, x = g → Q (.inl (some (.int g))) (σ) π) : xMach G π J_X1_clashes (d + 2) C Z 0 (lv_args 0 [.ref l0, .int l1, .int l2, .int l3, .int l4]) [] σ Q := by
  unfold f_X1_clashes at hf
  refine xm_stL (L' := [(0, .ref l0), (1, .int l1), (2, .int l2), (3, .int l3), (4, .int l4)]) rfl ?_
  refine xm_iload_n dX1_clashes_0 rfl ?_
  refine xb_if_ne 6 dX1_clashes_1 (by decide) hf (fun c hf => ?_) (fun c hf => ?_)
  · refine xm_iload_n dX1_clashes_6 rfl ?_
    refine xm_iconst dX1_clashes_7 (v := 1) (by decide) ?_
    refine xb_icmp_ne 26 dX1_clashes_8 (by decide) hf (fun c hf => ?_) (fun c hf => ?_)
    · refine xm_aload_n dX1_clashes_26 rfl ?_
      refine xm_iload_n dX1_clashes_27 rfl ?_
      refine xm_iconst dX1_clashes_28 (v := 1) (by decide) ?_
      refine xb_if hf (fun hb hf => ?_) (fun _ q => nomatch q)
      obtain ⟨p1, ep1, hf⟩ := xbind hf
      refine xb_callV (As := [.int l1, .int (1 : Int32)]) (v0 := (some (.int p1))) (τ0 := σ) dX1_clashes_29 (xc_X1_rank _ _) xcl1 xw_877 xw_776 xw_777 hb rfl (Nat.le_of_ble_eq_true rfl) rfl (Nat.le_of_ble_eq_true rfl) (fun Q1 hq => m_X1_rank (d := d + 0) ep1 (fun g hg => by subst hg; exact hq)) ?_
      refine xb_if_le 37 dX1_clashes_32 (by decide) hf (fun c hf => ?_) (fun c hf => ?_)
      · refine xm_aload_n dX1_clashes_37 rfl ?_
        refine xm_iload_n dX1_clashes_38 rfl ?_
        refine xm_iconst dX1_clashes_39 (v := 2) (by decide) ?_
        refine xb_if hf (fun hb hf => ?_) (fun _ q => nomatch q)
        obtain ⟨p2, ep2, hf⟩ := xbind hf
        refine xb_callV (As := [.int l1, .int (2 : Int32)]) (v0 := (some (.int p2))) (τ0 := σ) dX1_clashes_40 (xc_X1_slot _ _) xcl1 xw_178 xw_179 xw_180 hb rfl (Nat.le_of_ble_eq_true rfl) rfl (Nat.le_of_ble_eq_true rfl) (fun Q1 hq => m_X1_slot (d := d + 1) ep2 (fun g hg => by subst hg; exact hq)) ?_
        refine xm_istore dX1_clashes_43 (by decide) (xm_stL (L' := [(5, .int p2), (0, .ref l0), (1, .int l1), (2, .int l2), (3, .int l3), (4, .int l4)]) rfl ?_)
        refine xm_bipush dX1_clashes_45 (v := 32) (by decide) ?_
        refine xb_topi hf (fun v3 ev3 hf => ?_)
        refine xm_istore dX1_clashes_47 (by decide) (xm_stL (L' := [(6, .int v3), (5, .int p2), (0, .ref l0), (1, .int l1), (2, .int l2), (3, .int l3), (4, .int l4)]) rfl ?_)
        obtain ⟨o, h1, hf⟩ := xbind hf
        refine xm_sub [2, 5, 6, 1, 0] rfl (L_X1_clashes_l49 σ h1 (fun g hg => ?_) (fun e he => ?_) (fun e he => ?_))
        · subst hg
          cases hf
          exact hR _ rfl
        · subst he
          rw [Sum.elim_inr, Sum.elim_inl] at hf
          have hf : f_X1_clashes_j89 σ = some _ := hf
          exact xm_sub [] rfl (L_X1_clashes_j89 σ hf hR)
        · subst he
          rw [Sum.elim_inr, Sum.elim_inr] at hf
          have hf : f_X1_clashes_j97 σ = some _ := hf
          exact xm_sub [] rfl (L_X1_clashes_j97 σ hf hR)
      · refine xm_iconst dX1_clashes_35 (v := 1) (by decide) ?_
        cases hf
        exact xm_zret dX1_clashes_36 rfl rfl (hR _ rfl)
    · refine xm_aload_n dX1_clashes_11 rfl ?_
      refine xm_iload_n dX1_clashes_12 rfl ?_
      refine xm_iconst dX1_clashes_13 (v := 2) (by decide) ?_
      refine xb_if hf (fun hb hf => ?_) (fun _ q => nomatch q)
      obtain ⟨p11, ep11, hf⟩ := xbind hf
      refine xb_callV (As := [.int l1, .int (2 : Int32)]) (v0 := (some (.int p11))) (τ0 := σ) dX1_clashes_14 (xc_X1_rank _ _) xcl1 xw_877 xw_776 xw_777 hb rfl (Nat.le_of_ble_eq_true rfl) rfl (Nat.le_of_ble_eq_true rfl) (fun Q1 hq => m_X1_rank (d := d + 0) ep11 (fun g hg => by subst hg; exact hq)) ?_
      refine xb_if_le 24 dX1_clashes_17 (by decide) hf (fun c hf => ?_) (fun c hf => ?_)
      · refine xm_iconst dX1_clashes_24 (v := 0) (by decide) ?_
        exact xm_sub [] rfl (L_X1_clashes_j25 σ (0 : Int32) hf hR)
      · refine xm_iconst dX1_clashes_20 (v := 1) (by decide) ?_
        refine xm_goto 25 dX1_clashes_21 (by decide) ?_
        exact xm_sub [] rfl (L_X1_clashes_j25 σ (1 : Int32) hf hR)
  · refine xm_iconst dX1_clashes_4 (v := 0) (by decide) ?_
    cases hf
    exact xm_zret dX1_clashes_5 rfl rfl (hR _ rfl)
-- Rankwise$Desk.tellOperator(IIIII)V
def f_X1_tellOperator (σ : xM) (l0 : Nat) (l1 : Int32) (l2 : Int32) (l3 : Int32) (l4 : Int32) (l5 : Int32) : Option xM :=
  (if xk σ l0 1 = true then (f_X1_slot σ l0 l1 l2).bind (fun p1 => (if (0 : Int32) ≤ p1 then (gR σ l0 1 11).bind (fun x2 => (if xk σ l0 1 = true then (f_X1_note σ l0 (1 : Int32) p1).bind (fun p3 => ((aR p3.2 x2 18 p3.1).bind id).bind (fun x4 => (gR p3.2 l0 1 1).bind (fun x5 => (aI p3.2 x5 14 p1).bind (fun x6 => (wI p3.2 x4 (0 : Int32) x6).bind (fun σ7 => (gR σ7 l0 1 2).bind (fun x8 => (aI σ7 x8 14 p1).bind (fun x9 => (wI σ7 x4 (1 : Int32) x9).bind (fun σ10 => (gR σ10 l0 1 3).bind (fun x11 => (aI σ10 x11 14 p1).bind (fun x12 => (wI σ10 x4 (2 : Int32) x12).bind (fun σ13 => (if xk σ13 l0 1 = true then (f_X1_putOperator σ13 l0 p1 l3 l4 l5).bind (fun p14 => some p14) else none)))))))))))) else none)) else some σ)) else none)
set_option maxHeartbeats 4000000 in
set_option maxRecDepth 20000 in
theorem m_X1_tellOperator {G : xG} {π : Nat → Nat} {d C Z : Nat} {Q : xQ} {σ : xM} {l0 : Nat} {l1 : Int32} {l2 : Int32} {l3 : Int32} {l4 : Int32} {l5 : Int32} {x : xM} (hf : f_X1_tellOperator σ l0 l1 l2 l3 l4 l5 = some x) (hR : ∀ g, x = g → Q (.inl none) (g) π) : xMach G π J_X1_tellOperator (d + 1) C Z 0 (lv_args 0 [.ref l0, .int l1, .int l2, .int l3, .int l4, .int l5]) [] σ Q := by
  unfold f_X1_tellOperator at hf
  refine xm_stL (L' := [(0, .ref l0), (1, .int l1), (2, .int l2), (3, .int l3), (4, .int l4), (5, .int l5)]) rfl ?_
  refine xm_aload_n dX1_tellOperator_0 rfl ?_
  refine xm_iload_n dX1_tellOperator_1 rfl ?_
  refine xm_iload_n dX1_tellOperator_2 rfl ?_
  refine xb_if hf (fun hb hf => ?_) (fun _ q => nomatch q)
  obtain ⟨p1, ep1, hf⟩ := xbind hf
  refine xb_callV (As := [.int l1, .int l2]) (v0 := (some (.int p1))) (τ0 := σ) dX1_tellOperator_3 (xc_X1_slot _ _) xcl1 xw_178 xw_179 xw_180 hb rfl (Nat.le_of_ble_eq_true rfl) rfl (Nat.le_of_ble_eq_true rfl) (fun Q1 hq => m_X1_slot (d := d + 0) ep1 (fun g hg => by subst hg; exact hq)) ?_
  refine xm_istore dX1_tellOperator_6 (by decide) (xm_stL (L' := [(6, .int p1), (0, .ref l0), (1, .int l1), (2, .int l2), (3, .int l3), (4, .int l4), (5, .int l5)]) rfl ?_)
  refine xm_iload dX1_tellOperator_8 rfl ?_
  refine xb_if_ge 14 dX1_tellOperator_10 (by decide) hf (fun c hf => ?_) (fun c hf => ?_)
  · refine xm_aload_n dX1_tellOperator_14 rfl ?_
    refine xb_getR (a := l0) (c := 1) (k := 11) dX1_tellOperator_15 xcl1 (by decide) xw_286 rfl hf (fun x2 ex2 hf => ?_)
    refine xm_aload_n dX1_tellOperator_18 rfl ?_
    refine xm_iconst dX1_tellOperator_19 (v := 1) (by decide) ?_
    refine xm_iload dX1_tellOperator_20 rfl ?_
    refine xb_if hf (fun hb hf => ?_) (fun _ q => nomatch q)
    obtain ⟨p3, ep3, hf⟩ := xbind hf
    refine xb_callV (As := [.int (1 : Int32), .int p1]) (v0 := (some (.int p3.1))) (τ0 := p3.2) dX1_tellOperator_22 (xc_X1_note _ _) xcl1 xw_838 xw_840 xs_16 hb rfl (Nat.le_of_ble_eq_true rfl) rfl (Nat.le_of_ble_eq_true rfl) (fun Q1 hq => m_X1_note (d := d + 0) ep3 (fun g hg => by subst hg; exact hq)) ?_
    refine xb_aaldS dX1_tellOperator_25 (by decide) hf (fun x4 ex4 hf => ?_)
    refine xm_astore dX1_tellOperator_26 (by decide) (xm_stL (L' := [(7, .ref x4), (6, .int p1), (0, .ref l0), (1, .int l1), (2, .int l2), (3, .int l3), (4, .int l4), (5, .int l5)]) rfl ?_)
    refine xm_aload dX1_tellOperator_28 rfl ?_
    refine xm_iconst dX1_tellOperator_30 (v := 0) (by decide) ?_
    refine xm_aload_n dX1_tellOperator_31 rfl ?_
    refine xb_getR (a := l0) (c := 1) (k := 1) dX1_tellOperator_32 xcl1 (by decide) xw_270 rfl hf (fun x5 ex5 hf => ?_)
    refine xm_iload dX1_tellOperator_35 rfl ?_
    refine xb_iald dX1_tellOperator_37 hf (fun x6 ex6 hf => ?_)
    refine xb_iast dX1_tellOperator_38 hf (fun σ7 eσ7 hf => ?_)
    refine xm_aload dX1_tellOperator_39 rfl ?_
    refine xm_iconst dX1_tellOperator_41 (v := 1) (by decide) ?_
    refine xm_aload_n dX1_tellOperator_42 rfl ?_
    refine xb_getR (a := l0) (c := 1) (k := 2) dX1_tellOperator_43 xcl1 (by decide) xw_271 rfl hf (fun x8 ex8 hf => ?_)
    refine xm_iload dX1_tellOperator_46 rfl ?_
    refine xb_iald dX1_tellOperator_48 hf (fun x9 ex9 hf => ?_)
    refine xb_iast dX1_tellOperator_49 hf (fun σ10 eσ10 hf => ?_)
    refine xm_aload dX1_tellOperator_50 rfl ?_
    refine xm_iconst dX1_tellOperator_52 (v := 2) (by decide) ?_
    refine xm_aload_n dX1_tellOperator_53 rfl ?_
    refine xb_getR (a := l0) (c := 1) (k := 3) dX1_tellOperator_54 xcl1 (by decide) xw_272 rfl hf (fun x11 ex11 hf => ?_)
    refine xm_iload dX1_tellOperator_57 rfl ?_
    refine xb_iald dX1_tellOperator_59 hf (fun x12 ex12 hf => ?_)
    refine xb_iast dX1_tellOperator_60 hf (fun σ13 eσ13 hf => ?_)
    refine xm_aload_n dX1_tellOperator_61 rfl ?_
    refine xm_iload dX1_tellOperator_62 rfl ?_
    refine xm_iload_n dX1_tellOperator_64 rfl ?_
    refine xm_iload dX1_tellOperator_65 rfl ?_
    refine xm_iload dX1_tellOperator_67 rfl ?_
    refine xb_if hf (fun hb hf => ?_) (fun _ q => nomatch q)
    obtain ⟨p14, ep14, hf⟩ := xbind hf
    refine xb_callV (As := [.int p1, .int l3, .int l4, .int l5]) (v0 := none) (τ0 := p14) dX1_tellOperator_69 (xc_X1_putOperator _ _) xcl1 xw_182 xw_183 xw_184 hb rfl (Nat.le_of_ble_eq_true rfl) rfl (Nat.le_of_ble_eq_true rfl) (fun Q1 hq => m_X1_putOperator (d := d + 0) ep14 (fun g hg => by subst hg; exact hq)) ?_
    cases hf
    exact xm_vret dX1_tellOperator_72 rfl (hR _ rfl)
  · cases hf
    exact xm_vret dX1_tellOperator_13 rfl (hR _ rfl)
-- Rankwise$Desk.meaning(II)I
def f_X1_meaning_j30 (σ : xM) (s0 : Int32) : Option Int32 :=
  some s0
set_option maxHeartbeats 4000000 in
set_option maxRecDepth 20000 in
theorem L_X1_meaning_j30 {G : xG} {π : Nat → Nat} {d C Z : Nat} {Q : xQ} (σ : xM) (s0 : Int32) {x : Int32} (hf : f_X1_meaning_j30 σ s0 = some x) (hR : ∀ g, x = g → Q (.inl (some (.int g))) (σ) π) : xMach G π J_X1_meaning (d + 1) C Z 30 [] [.int s0] σ Q := by
  unfold f_X1_meaning_j30 at hf
  cases hf
  exact xm_iret dX1_meaning_30 rfl (hR _ rfl)
def f_X1_meaning_j20 (σ : xM)  : Option Int32 :=
  f_X1_meaning_j30 σ (-1 : Int32)
set_option maxHeartbeats 4000000 in
set_option maxRecDepth 20000 in
theorem L_X1_meaning_j20 {G : xG} {π : Nat → Nat} {d C Z : Nat} {Q : xQ} (σ : xM)  {x : Int32} (hf : f_X1_meaning_j20 σ = some x) (hR : ∀ g, x = g → Q (.inl (some (.int g))) (σ) π) : xMach G π J_X1_meaning (d + 1) C Z 20 [] [] σ Q := by
  unfold f_X1_meaning_j20 at hf
  refine xm_iconst dX1_meaning_20 (v := -1) (by decide) ?_
  refine xm_goto 30 dX1_meaning_21 (by decide) ?_
  exact xm_sub [] rfl (L_X1_meaning_j30 σ (-1 : Int32) hf hR)
def f_X1_meaning (σ : xM) (l0 : Nat) (l1 : Int32) (l2 : Int32) : Option Int32 :=
  (if xk σ l0 1 = true then (f_X1_slot σ l0 l1 l2).bind (fun p1 => (if p1 < (0 : Int32) then f_X1_meaning_j20 σ else (gR σ l0 1 1).bind (fun x2 => (aI σ x2 14 p1).bind (fun x3 => (if x3 = (0 : Int32) then f_X1_meaning_j20 σ else (gR σ l0 1 3).bind (fun x4 => (aI σ x4 14 p1).bind (fun x5 => f_X1_meaning_j30 σ x5))))))) else none)
set_option maxHeartbeats 4000000 in
set_option maxRecDepth 20000 in
theorem m_X1_meaning {G : xG} {π : Nat → Nat} {d C Z : Nat} {Q : xQ} {σ : xM} {l0 : Nat} {l1 : Int32} {l2 : Int32} {x : Int32} (hf : f_X1_meaning σ l0 l1 l2 = some x) (hR : ∀ g, x = g → Q (.inl (some (.int g))) (σ) π) : xMach G π J_X1_meaning (d + 1) C Z 0 (lv_args 0 [.ref l0, .int l1, .int l2]) [] σ Q := by
  unfold f_X1_meaning at hf
  refine xm_stL (L' := [(0, .ref l0), (1, .int l1), (2, .int l2)]) rfl ?_
  refine xm_aload_n dX1_meaning_0 rfl ?_
  refine xm_iload_n dX1_meaning_1 rfl ?_
  refine xm_iload_n dX1_meaning_2 rfl ?_
  refine xb_if hf (fun hb hf => ?_) (fun _ q => nomatch q)
  obtain ⟨p1, ep1, hf⟩ := xbind hf
  refine xb_callV (As := [.int l1, .int l2]) (v0 := (some (.int p1))) (τ0 := σ) dX1_meaning_3 (xc_X1_slot _ _) xcl1 xw_178 xw_179 xw_180 hb rfl (Nat.le_of_ble_eq_true rfl) rfl (Nat.le_of_ble_eq_true rfl) (fun Q1 hq => m_X1_slot (d := d + 0) ep1 (fun g hg => by subst hg; exact hq)) ?_
  refine xm_istore_n dX1_meaning_6 (by decide) (xm_stL (L' := [(3, .int p1), (0, .ref l0), (1, .int l1), (2, .int l2)]) rfl ?_)
  refine xm_iload_n dX1_meaning_7 rfl ?_
  refine xb_if_lt 20 dX1_meaning_8 (by decide) hf (fun c hf => ?_) (fun c hf => ?_)
  · exact xm_sub [] rfl (L_X1_meaning_j20 σ hf hR)
  · refine xm_aload_n dX1_meaning_11 rfl ?_
    refine xb_getR (a := l0) (c := 1) (k := 1) dX1_meaning_12 xcl1 (by decide) xw_270 rfl hf (fun x2 ex2 hf => ?_)
    refine xm_iload_n dX1_meaning_15 rfl ?_
    refine xb_iald dX1_meaning_16 hf (fun x3 ex3 hf => ?_)
    refine xb_if_ne 24 dX1_meaning_17 (by decide) hf (fun c hf => ?_) (fun c hf => ?_)
    · refine xm_aload_n dX1_meaning_24 rfl ?_
      refine xb_getR (a := l0) (c := 1) (k := 3) dX1_meaning_25 xcl1 (by decide) xw_272 rfl hf (fun x4 ex4 hf => ?_)
      refine xm_iload_n dX1_meaning_28 rfl ?_
      refine xb_iald dX1_meaning_29 hf (fun x5 ex5 hf => ?_)
      exact xm_sub [] rfl (L_X1_meaning_j30 σ x5 hf hR)
    · exact xm_sub [] rfl (L_X1_meaning_j20 σ hf hR)
-- Rankwise$Desk.casesOf(I)I
def f_X1_casesOf_j22 (σ : xM) (s0 : Int32) : Option Int32 :=
  some s0
set_option maxHeartbeats 4000000 in
set_option maxRecDepth 20000 in
theorem L_X1_casesOf_j22 {G : xG} {π : Nat → Nat} {d C Z : Nat} {Q : xQ} (σ : xM) (s0 : Int32) {x : Int32} (hf : f_X1_casesOf_j22 σ s0 = some x) (hR : ∀ g, x = g → Q (.inl (some (.int g))) (σ) π) : xMach G π J_X1_casesOf (d + 0) C Z 22 [] [.int s0] σ Q := by
  unfold f_X1_casesOf_j22 at hf
  cases hf
  exact xm_iret dX1_casesOf_22 rfl (hR _ rfl)
def f_X1_casesOf_j10 (σ : xM)  : Option Int32 :=
  f_X1_casesOf_j22 σ (0 : Int32)
set_option maxHeartbeats 4000000 in
set_option maxRecDepth 20000 in
theorem L_X1_casesOf_j10 {G : xG} {π : Nat → Nat} {d C Z : Nat} {Q : xQ} (σ : xM)  {x : Int32} (hf : f_X1_casesOf_j10 σ = some x) (hR : ∀ g, x = g → Q (.inl (some (.int g))) (σ) π) : xMach G π J_X1_casesOf (d + 0) C Z 10 [] [] σ Q := by
  unfold f_X1_casesOf_j10 at hf
  refine xm_iconst dX1_casesOf_10 (v := 0) (by decide) ?_
  refine xm_goto 22 dX1_casesOf_11 (by decide) ?_
  exact xm_sub [] rfl (L_X1_casesOf_j22 σ (0 : Int32) hf hR)
def f_X1_casesOf (σ : xM) (l0 : Nat) (l1 : Int32) : Option Int32 :=
  (if l1 < (0 : Int32) then f_X1_casesOf_j10 σ else (if l1 < (26 : Int32) then (gR σ l0 1 8).bind (fun x1 => ((aR σ x1 18 l1).bind id).bind (fun x2 => (aI σ x2 14 (1 : Int32)).bind (fun x3 => f_X1_casesOf_j22 σ x3))) else f_X1_casesOf_j10 σ))
set_option maxHeartbeats 4000000 in
set_option maxRecDepth 20000 in
theorem m_X1_casesOf {G : xG} {π : Nat → Nat} {d C Z : Nat} {Q : xQ} {σ : xM} {l0 : Nat} {l1 : Int32} {x : Int32} (hf : f_X1_casesOf σ l0 l1 = some x) (hR : ∀ g, x = g → Q (.inl (some (.int g))) (σ) π) : xMach G π J_X1_casesOf (d + 0) C Z 0 (lv_args 0 [.ref l0, .int l1]) [] σ Q := by
  unfold f_X1_casesOf at hf
  refine xm_stL (L' := [(0, .ref l0), (1, .int l1)]) rfl ?_
  refine xm_iload_n dX1_casesOf_0 rfl ?_
  refine xb_if_lt 10 dX1_casesOf_1 (by decide) hf (fun c hf => ?_) (fun c hf => ?_)
  · exact xm_sub [] rfl (L_X1_casesOf_j10 σ hf hR)
  · refine xm_iload_n dX1_casesOf_4 rfl ?_
    refine xm_bipush dX1_casesOf_5 (v := 26) (by decide) ?_
    refine xb_icmp_lt 14 dX1_casesOf_7 (by decide) hf (fun c hf => ?_) (fun c hf => ?_)
    · refine xm_aload_n dX1_casesOf_14 rfl ?_
      refine xb_getR (a := l0) (c := 1) (k := 8) dX1_casesOf_15 xcl1 (by decide) xw_283 rfl hf (fun x1 ex1 hf => ?_)
      refine xm_iload_n dX1_casesOf_18 rfl ?_
      refine xb_aaldS dX1_casesOf_19 (by decide) hf (fun x2 ex2 hf => ?_)
      refine xm_iconst dX1_casesOf_20 (v := 1) (by decide) ?_
      refine xb_iald dX1_casesOf_21 hf (fun x3 ex3 hf => ?_)
      exact xm_sub [] rfl (L_X1_casesOf_j22 σ x3 hf hR)
    · exact xm_sub [] rfl (L_X1_casesOf_j10 σ hf hR)
-- Rankwise$Desk.treeOf(I)LRankwise$Tree;
def f_X1_treeOf_j28 (σ : xM) (s0 : Option Nat) : Option (Option Nat) :=
  some s0
set_option maxHeartbeats 4000000 in
set_option maxRecDepth 20000 in
theorem L_X1_treeOf_j28 {G : xG} {π : Nat → Nat} {d C Z : Nat} {Q : xQ} (σ : xM) (s0 : Option Nat) {x : (Option Nat)} (hf : f_X1_treeOf_j28 σ s0 = some x) (hR : ∀ g, x = g → Q (.inl (some (va_rf g))) (σ) π) : xMach G π J_X1_treeOf (d + 0) C Z 28 [] [va_rf s0] σ Q := by
  unfold f_X1_treeOf_j28 at hf
  cases hf
  exact xm_aret dX1_treeOf_28 rfl (Or.inl ⟨_, rfl⟩) (va_rf_or _) (hR _ rfl)
def f_X1_treeOf_j18 (σ : xM)  : Option (Option Nat) :=
  f_X1_treeOf_j28 σ none
set_option maxHeartbeats 4000000 in
set_option maxRecDepth 20000 in
theorem L_X1_treeOf_j18 {G : xG} {π : Nat → Nat} {d C Z : Nat} {Q : xQ} (σ : xM)  {x : (Option Nat)} (hf : f_X1_treeOf_j18 σ = some x) (hR : ∀ g, x = g → Q (.inl (some (va_rf g))) (σ) π) : xMach G π J_X1_treeOf (d + 0) C Z 18 [] [] σ Q := by
  unfold f_X1_treeOf_j18 at hf
  refine xm_null dX1_treeOf_18 ?_
  refine xm_goto 28 dX1_treeOf_19 (by decide) ?_
  exact xm_sub [] rfl (L_X1_treeOf_j28 σ none hf hR)
def f_X1_treeOf (σ : xM) (l0 : Nat) (l1 : Int32) : Option (Option Nat) :=
  (if l1 < (0 : Int32) then f_X1_treeOf_j18 σ else (gI σ l0 1 5).bind (fun x1 => (if x1 ≤ l1 then f_X1_treeOf_j18 σ else (if l1 < (30 : Int32) then (gR σ l0 1 4).bind (fun x2 => ((aR σ x2 17 l1).bind id).bind (fun x3 => f_X1_treeOf_j28 σ (some x3))) else f_X1_treeOf_j18 σ))))
set_option maxHeartbeats 4000000 in
set_option maxRecDepth 20000 in
theorem m_X1_treeOf {G : xG} {π : Nat → Nat} {d C Z : Nat} {Q : xQ} {σ : xM} {l0 : Nat} {l1 : Int32} {x : (Option Nat)} (hf : f_X1_treeOf σ l0 l1 = some x) (hR : ∀ g, x = g → Q (.inl (some (va_rf g))) (σ) π) : xMach G π J_X1_treeOf (d + 0) C Z 0 (lv_args 0 [.ref l0, .int l1]) [] σ Q := by
  unfold f_X1_treeOf at hf
  refine xm_stL (L' := [(0, .ref l0), (1, .int l1)]) rfl ?_
  refine xm_iload_n dX1_treeOf_0 rfl ?_
  refine xb_if_lt 18 dX1_treeOf_1 (by decide) hf (fun c hf => ?_) (fun c hf => ?_)
  · exact xm_sub [] rfl (L_X1_treeOf_j18 σ hf hR)
  · refine xm_iload_n dX1_treeOf_4 rfl ?_
    refine xm_aload_n dX1_treeOf_5 rfl ?_
    refine xb_getI (a := l0) (c := 1) (k := 5) dX1_treeOf_6 xcl1 (by decide) xw_276 rfl hf (fun x1 ex1 hf => ?_)
    refine xb_icmp_ge 18 dX1_treeOf_9 (by decide) hf (fun c hf => ?_) (fun c hf => ?_)
    · exact xm_sub [] rfl (L_X1_treeOf_j18 σ hf hR)
    · refine xm_iload_n dX1_treeOf_12 rfl ?_
      refine xm_bipush dX1_treeOf_13 (v := 30) (by decide) ?_
      refine xb_icmp_lt 22 dX1_treeOf_15 (by decide) hf (fun c hf => ?_) (fun c hf => ?_)
      · refine xm_aload_n dX1_treeOf_22 rfl ?_
        refine xb_getR (a := l0) (c := 1) (k := 4) dX1_treeOf_23 xcl1 (by decide) xw_273 rfl hf (fun x2 ex2 hf => ?_)
        refine xm_iload_n dX1_treeOf_26 rfl ?_
        refine xb_aaldS dX1_treeOf_27 (by decide) hf (fun x3 ex3 hf => ?_)
        exact xm_sub [] rfl (L_X1_treeOf_j28 σ (some x3) hf hR)
      · exact xm_sub [] rfl (L_X1_treeOf_j18 σ hf hR)
-- Rankwise$Desk.valueOf(II)LRankwise$Tree;
def f_X1_valueOf_j32 (σ : xM) (s0 : Option Nat) : Option (Option Nat) :=
  some s0
set_option maxHeartbeats 4000000 in
set_option maxRecDepth 20000 in
theorem L_X1_valueOf_j32 {G : xG} {π : Nat → Nat} {d C Z : Nat} {Q : xQ} (σ : xM) (s0 : Option Nat) {x : (Option Nat)} (hf : f_X1_valueOf_j32 σ s0 = some x) (hR : ∀ g, x = g → Q (.inl (some (va_rf g))) (σ) π) : xMach G π J_X1_valueOf (d + 1) C Z 32 [] [va_rf s0] σ Q := by
  unfold f_X1_valueOf_j32 at hf
  cases hf
  exact xm_aret dX1_valueOf_32 rfl (Or.inl ⟨_, rfl⟩) (va_rf_or _) (hR _ rfl)
def f_X1_valueOf_j13 (σ : xM)  : Option (Option Nat) :=
  f_X1_valueOf_j32 σ none
set_option maxHeartbeats 4000000 in
set_option maxRecDepth 20000 in
theorem L_X1_valueOf_j13 {G : xG} {π : Nat → Nat} {d C Z : Nat} {Q : xQ} (σ : xM)  {x : (Option Nat)} (hf : f_X1_valueOf_j13 σ = some x) (hR : ∀ g, x = g → Q (.inl (some (va_rf g))) (σ) π) : xMach G π J_X1_valueOf (d + 1) C Z 13 [] [] σ Q := by
  unfold f_X1_valueOf_j13 at hf
  refine xm_null dX1_valueOf_13 ?_
  refine xm_goto 32 dX1_valueOf_14 (by decide) ?_
  exact xm_sub [] rfl (L_X1_valueOf_j32 σ none hf hR)
def f_X1_valueOf (σ : xM) (l0 : Nat) (l1 : Int32) (l2 : Int32) : Option (Option Nat) :=
  (if l2 < (0 : Int32) then f_X1_valueOf_j13 σ else (if xk σ l0 1 = true then (f_X1_casesOf σ l0 l1).bind (fun p1 => (if l2 < p1 then (gR σ l0 1 8).bind (fun x2 => ((aR σ x2 18 l1).bind id).bind (fun x3 => (aI σ x3 14 ((6 : Int32) + l2)).bind (fun x4 => (if xk σ l0 1 = true then (f_X1_treeOf σ l0 x4).bind (fun p5 => f_X1_valueOf_j32 σ p5) else none)))) else f_X1_valueOf_j13 σ)) else none))
set_option maxHeartbeats 4000000 in
set_option maxRecDepth 20000 in
theorem m_X1_valueOf {G : xG} {π : Nat → Nat} {d C Z : Nat} {Q : xQ} {σ : xM} {l0 : Nat} {l1 : Int32} {l2 : Int32} {x : (Option Nat)} (hf : f_X1_valueOf σ l0 l1 l2 = some x) (hR : ∀ g, x = g → Q (.inl (some (va_rf g))) (σ) π) : xMach G π J_X1_valueOf (d + 1) C Z 0 (lv_args 0 [.ref l0, .int l1, .int l2]) [] σ Q := by
  unfold f_X1_valueOf at hf
  refine xm_stL (L' := [(0, .ref l0), (1, .int l1), (2, .int l2)]) rfl ?_
  refine xm_iload_n dX1_valueOf_0 rfl ?_
  refine xb_if_lt 13 dX1_valueOf_1 (by decide) hf (fun c hf => ?_) (fun c hf => ?_)
  · exact xm_sub [] rfl (L_X1_valueOf_j13 σ hf hR)
  · refine xm_iload_n dX1_valueOf_4 rfl ?_
    refine xm_aload_n dX1_valueOf_5 rfl ?_
    refine xm_iload_n dX1_valueOf_6 rfl ?_
    refine xb_if hf (fun hb hf => ?_) (fun _ q => nomatch q)
    obtain ⟨p1, ep1, hf⟩ := xbind hf
    refine xb_callV (As := [.int l1]) (v0 := (some (.int p1))) (τ0 := σ) dX1_valueOf_7 (xc_X1_casesOf _ _) xcl1 xw_984 xw_957 xw_958 hb rfl (Nat.le_of_ble_eq_true rfl) rfl (Nat.le_of_ble_eq_true rfl) (fun Q1 hq => m_X1_casesOf (d := d + 0) ep1 (fun g hg => by subst hg; exact hq)) ?_
    refine xb_icmp_lt 17 dX1_valueOf_10 (by decide) hf (fun c hf => ?_) (fun c hf => ?_)
    · refine xm_aload_n dX1_valueOf_17 rfl ?_
      refine xm_aload_n dX1_valueOf_18 rfl ?_
      refine xb_getR (a := l0) (c := 1) (k := 8) dX1_valueOf_19 xcl1 (by decide) xw_283 rfl hf (fun x2 ex2 hf => ?_)
      refine xm_iload_n dX1_valueOf_22 rfl ?_
      refine xb_aaldS dX1_valueOf_23 (by decide) hf (fun x3 ex3 hf => ?_)
      refine xm_bipush dX1_valueOf_24 (v := 6) (by decide) ?_
      refine xm_iload_n dX1_valueOf_26 rfl ?_
      refine xm_iadd dX1_valueOf_27 ?_
      refine xb_iald dX1_valueOf_28 hf (fun x4 ex4 hf => ?_)
      refine xb_if hf (fun hb hf => ?_) (fun _ q => nomatch q)
      obtain ⟨p5, ep5, hf⟩ := xbind hf
      refine xb_callV (As := [.int x4]) (v0 := (some (va_rf p5))) (τ0 := σ) dX1_valueOf_29 (xc_X1_treeOf _ _) xcl1 xw_985 xw_987 xs_25 hb rfl (Nat.le_of_ble_eq_true rfl) rfl (Nat.le_of_ble_eq_true rfl) (fun Q1 hq => m_X1_treeOf (d := d + 0) ep5 (fun g hg => by subst hg; exact hq)) ?_
      exact xm_sub [] rfl (L_X1_valueOf_j32 σ p5 hf hR)
    · exact xm_sub [] rfl (L_X1_valueOf_j13 σ hf hR)
-- Rankwise$Desk.conditionOf(II)LRankwise$Tree;
def f_X1_conditionOf_j31 (σ : xM) (s0 : Option Nat) : Option (Option Nat) :=
  some s0
set_option maxHeartbeats 4000000 in
set_option maxRecDepth 20000 in
theorem L_X1_conditionOf_j31 {G : xG} {π : Nat → Nat} {d C Z : Nat} {Q : xQ} (σ : xM) (s0 : Option Nat) {x : (Option Nat)} (hf : f_X1_conditionOf_j31 σ s0 = some x) (hR : ∀ g, x = g → Q (.inl (some (va_rf g))) (σ) π) : xMach G π J_X1_conditionOf (d + 1) C Z 31 [] [va_rf s0] σ Q := by
  unfold f_X1_conditionOf_j31 at hf
  cases hf
  exact xm_aret dX1_conditionOf_31 rfl (Or.inl ⟨_, rfl⟩) (va_rf_or _) (hR _ rfl)
def f_X1_conditionOf_j13 (σ : xM)  : Option (Option Nat) :=
  f_X1_conditionOf_j31 σ none
set_option maxHeartbeats 4000000 in
set_option maxRecDepth 20000 in
theorem L_X1_conditionOf_j13 {G : xG} {π : Nat → Nat} {d C Z : Nat} {Q : xQ} (σ : xM)  {x : (Option Nat)} (hf : f_X1_conditionOf_j13 σ = some x) (hR : ∀ g, x = g → Q (.inl (some (va_rf g))) (σ) π) : xMach G π J_X1_conditionOf (d + 1) C Z 13 [] [] σ Q := by
  unfold f_X1_conditionOf_j13 at hf
  refine xm_null dX1_conditionOf_13 ?_
  refine xm_goto 31 dX1_conditionOf_14 (by decide) ?_
  exact xm_sub [] rfl (L_X1_conditionOf_j31 σ none hf hR)
def f_X1_conditionOf (σ : xM) (l0 : Nat) (l1 : Int32) (l2 : Int32) : Option (Option Nat) :=
  (if l2 < (0 : Int32) then f_X1_conditionOf_j13 σ else (if xk σ l0 1 = true then (f_X1_casesOf σ l0 l1).bind (fun p1 => (if l2 < p1 then (gR σ l0 1 8).bind (fun x2 => ((aR σ x2 18 l1).bind id).bind (fun x3 => (aI σ x3 14 ((2 : Int32) + l2)).bind (fun x4 => (if xk σ l0 1 = true then (f_X1_treeOf σ l0 x4).bind (fun p5 => f_X1_conditionOf_j31 σ p5) else none)))) else f_X1_conditionOf_j13 σ)) else none))
set_option maxHeartbeats 4000000 in
set_option maxRecDepth 20000 in
theorem m_X1_conditionOf {G : xG} {π : Nat → Nat} {d C Z : Nat} {Q : xQ} {σ : xM} {l0 : Nat} {l1 : Int32} {l2 : Int32} {x : (Option Nat)} (hf : f_X1_conditionOf σ l0 l1 l2 = some x) (hR : ∀ g, x = g → Q (.inl (some (va_rf g))) (σ) π) : xMach G π J_X1_conditionOf (d + 1) C Z 0 (lv_args 0 [.ref l0, .int l1, .int l2]) [] σ Q := by
  unfold f_X1_conditionOf at hf
  refine xm_stL (L' := [(0, .ref l0), (1, .int l1), (2, .int l2)]) rfl ?_
  refine xm_iload_n dX1_conditionOf_0 rfl ?_
  refine xb_if_lt 13 dX1_conditionOf_1 (by decide) hf (fun c hf => ?_) (fun c hf => ?_)
  · exact xm_sub [] rfl (L_X1_conditionOf_j13 σ hf hR)
  · refine xm_iload_n dX1_conditionOf_4 rfl ?_
    refine xm_aload_n dX1_conditionOf_5 rfl ?_
    refine xm_iload_n dX1_conditionOf_6 rfl ?_
    refine xb_if hf (fun hb hf => ?_) (fun _ q => nomatch q)
    obtain ⟨p1, ep1, hf⟩ := xbind hf
    refine xb_callV (As := [.int l1]) (v0 := (some (.int p1))) (τ0 := σ) dX1_conditionOf_7 (xc_X1_casesOf _ _) xcl1 xw_984 xw_957 xw_958 hb rfl (Nat.le_of_ble_eq_true rfl) rfl (Nat.le_of_ble_eq_true rfl) (fun Q1 hq => m_X1_casesOf (d := d + 0) ep1 (fun g hg => by subst hg; exact hq)) ?_
    refine xb_icmp_lt 17 dX1_conditionOf_10 (by decide) hf (fun c hf => ?_) (fun c hf => ?_)
    · refine xm_aload_n dX1_conditionOf_17 rfl ?_
      refine xm_aload_n dX1_conditionOf_18 rfl ?_
      refine xb_getR (a := l0) (c := 1) (k := 8) dX1_conditionOf_19 xcl1 (by decide) xw_283 rfl hf (fun x2 ex2 hf => ?_)
      refine xm_iload_n dX1_conditionOf_22 rfl ?_
      refine xb_aaldS dX1_conditionOf_23 (by decide) hf (fun x3 ex3 hf => ?_)
      refine xm_iconst dX1_conditionOf_24 (v := 2) (by decide) ?_
      refine xm_iload_n dX1_conditionOf_25 rfl ?_
      refine xm_iadd dX1_conditionOf_26 ?_
      refine xb_iald dX1_conditionOf_27 hf (fun x4 ex4 hf => ?_)
      refine xb_if hf (fun hb hf => ?_) (fun _ q => nomatch q)
      obtain ⟨p5, ep5, hf⟩ := xbind hf
      refine xb_callV (As := [.int x4]) (v0 := (some (va_rf p5))) (τ0 := σ) dX1_conditionOf_28 (xc_X1_treeOf _ _) xcl1 xw_985 xw_987 xs_25 hb rfl (Nat.le_of_ble_eq_true rfl) rfl (Nat.le_of_ble_eq_true rfl) (fun Q1 hq => m_X1_treeOf (d := d + 0) ep5 (fun g hg => by subst hg; exact hq)) ?_
      exact xm_sub [] rfl (L_X1_conditionOf_j31 σ p5 hf hR)
    · exact xm_sub [] rfl (L_X1_conditionOf_j13 σ hf hR)
-- Rankwise$Desk.parametersOf(I)I
def f_X1_parametersOf_j22 (σ : xM) (s0 : Int32) : Option Int32 :=
  some s0
set_option maxHeartbeats 4000000 in
set_option maxRecDepth 20000 in
theorem L_X1_parametersOf_j22 {G : xG} {π : Nat → Nat} {d C Z : Nat} {Q : xQ} (σ : xM) (s0 : Int32) {x : Int32} (hf : f_X1_parametersOf_j22 σ s0 = some x) (hR : ∀ g, x = g → Q (.inl (some (.int g))) (σ) π) : xMach G π J_X1_parametersOf (d + 0) C Z 22 [] [.int s0] σ Q := by
  unfold f_X1_parametersOf_j22 at hf
  cases hf
  exact xm_iret dX1_parametersOf_22 rfl (hR _ rfl)
def f_X1_parametersOf_j10 (σ : xM)  : Option Int32 :=
  f_X1_parametersOf_j22 σ (0 : Int32)
set_option maxHeartbeats 4000000 in
set_option maxRecDepth 20000 in
theorem L_X1_parametersOf_j10 {G : xG} {π : Nat → Nat} {d C Z : Nat} {Q : xQ} (σ : xM)  {x : Int32} (hf : f_X1_parametersOf_j10 σ = some x) (hR : ∀ g, x = g → Q (.inl (some (.int g))) (σ) π) : xMach G π J_X1_parametersOf (d + 0) C Z 10 [] [] σ Q := by
  unfold f_X1_parametersOf_j10 at hf
  refine xm_iconst dX1_parametersOf_10 (v := 0) (by decide) ?_
  refine xm_goto 22 dX1_parametersOf_11 (by decide) ?_
  exact xm_sub [] rfl (L_X1_parametersOf_j22 σ (0 : Int32) hf hR)
def f_X1_parametersOf (σ : xM) (l0 : Nat) (l1 : Int32) : Option Int32 :=
  (if l1 < (0 : Int32) then f_X1_parametersOf_j10 σ else (if l1 < (26 : Int32) then (gR σ l0 1 8).bind (fun x1 => ((aR σ x1 18 l1).bind id).bind (fun x2 => (aI σ x2 14 (0 : Int32)).bind (fun x3 => f_X1_parametersOf_j22 σ x3))) else f_X1_parametersOf_j10 σ))
set_option maxHeartbeats 4000000 in
set_option maxRecDepth 20000 in
theorem m_X1_parametersOf {G : xG} {π : Nat → Nat} {d C Z : Nat} {Q : xQ} {σ : xM} {l0 : Nat} {l1 : Int32} {x : Int32} (hf : f_X1_parametersOf σ l0 l1 = some x) (hR : ∀ g, x = g → Q (.inl (some (.int g))) (σ) π) : xMach G π J_X1_parametersOf (d + 0) C Z 0 (lv_args 0 [.ref l0, .int l1]) [] σ Q := by
  unfold f_X1_parametersOf at hf
  refine xm_stL (L' := [(0, .ref l0), (1, .int l1)]) rfl ?_
  refine xm_iload_n dX1_parametersOf_0 rfl ?_
  refine xb_if_lt 10 dX1_parametersOf_1 (by decide) hf (fun c hf => ?_) (fun c hf => ?_)
  · exact xm_sub [] rfl (L_X1_parametersOf_j10 σ hf hR)
  · refine xm_iload_n dX1_parametersOf_4 rfl ?_
    refine xm_bipush dX1_parametersOf_5 (v := 26) (by decide) ?_
    refine xb_icmp_lt 14 dX1_parametersOf_7 (by decide) hf (fun c hf => ?_) (fun c hf => ?_)
    · refine xm_aload_n dX1_parametersOf_14 rfl ?_
      refine xb_getR (a := l0) (c := 1) (k := 8) dX1_parametersOf_15 xcl1 (by decide) xw_283 rfl hf (fun x1 ex1 hf => ?_)
      refine xm_iload_n dX1_parametersOf_18 rfl ?_
      refine xb_aaldS dX1_parametersOf_19 (by decide) hf (fun x2 ex2 hf => ?_)
      refine xm_iconst dX1_parametersOf_20 (v := 0) (by decide) ?_
      refine xb_iald dX1_parametersOf_21 hf (fun x3 ex3 hf => ?_)
      exact xm_sub [] rfl (L_X1_parametersOf_j22 σ x3 hf hR)
    · exact xm_sub [] rfl (L_X1_parametersOf_j10 σ hf hR)
-- Rankwise$Desk.noteName(I)V
def f_X1_noteName_j28 (σ : xM) (l0 : Nat) (l1 : Int32) (l2 : Int32) (s0 : Int32) (s1 : Int32) (s2 : Nat) : Option xM :=
  (wI σ s2 s1 s0).bind (fun σ6 => (gR σ6 l0 1 12).bind (fun x7 => ((aR σ6 x7 16 l2).bind id).bind (fun x8 => (gR σ6 l0 1 6).bind (fun x9 => ((aR σ6 x9 16 l1).bind id).bind (fun x10 => (if xk σ6 x8 2 = true then (f_X2_copy σ6 x8 x10).bind (fun p11 => some p11) else none))))))
set_option maxHeartbeats 4000000 in
set_option maxRecDepth 20000 in
theorem L_X1_noteName_j28 {G : xG} {π : Nat → Nat} {d C Z : Nat} {Q : xQ} (σ : xM) (l0 : Nat) (l1 : Int32) (l2 : Int32) (s0 : Int32) (s1 : Int32) (s2 : Nat) {x : xM} (hf : f_X1_noteName_j28 σ l0 l1 l2 s0 s1 s2 = some x) (hR : ∀ g, x = g → Q (.inl none) (g) π) : xMach G π J_X1_noteName (d + 3) C Z 28 [(0, .ref l0), (1, .int l1), (2, .int l2)] [.int s0, .int s1, .ref s2] σ Q := by
  unfold f_X1_noteName_j28 at hf
  refine xb_iast dX1_noteName_28 hf (fun σ6 eσ6 hf => ?_)
  refine xm_aload_n dX1_noteName_29 rfl ?_
  refine xb_getR (a := l0) (c := 1) (k := 12) dX1_noteName_30 xcl1 (by decide) xw_287 rfl hf (fun x7 ex7 hf => ?_)
  refine xm_iload_n dX1_noteName_33 rfl ?_
  refine xb_aaldS dX1_noteName_34 (by decide) hf (fun x8 ex8 hf => ?_)
  refine xm_aload_n dX1_noteName_35 rfl ?_
  refine xb_getR (a := l0) (c := 1) (k := 6) dX1_noteName_36 xcl1 (by decide) xw_277 rfl hf (fun x9 ex9 hf => ?_)
  refine xm_iload_n dX1_noteName_39 rfl ?_
  refine xb_aaldS dX1_noteName_40 (by decide) hf (fun x10 ex10 hf => ?_)
  refine xb_if hf (fun hb hf => ?_) (fun _ q => nomatch q)
  obtain ⟨p11, ep11, hf⟩ := xbind hf
  refine xb_callV (As := [.ref x10]) (v0 := none) (τ0 := p11) dX1_noteName_41 (xc_X2_copy _ _) xcl2 xw_1205 xw_965 xw_966 hb rfl (Nat.le_of_ble_eq_true rfl) rfl (Nat.le_of_ble_eq_true rfl) (fun Q1 hq => m_X2_copy (d := d + 0) ep11 (fun g hg => by subst hg; exact hq)) ?_
  cases hf
  exact xm_vret dX1_noteName_44 rfl (hR _ rfl)
def f_X1_noteName (σ : xM) (l0 : Nat) (l1 : Int32) : Option xM :=
  (if xk σ l0 1 = true then (f_X1_note σ l0 (2 : Int32) l1).bind (fun p1 => (gR p1.2 l0 1 11).bind (fun x2 => ((aR p1.2 x2 18 p1.1).bind id).bind (fun x3 => (gR p1.2 l0 1 7).bind (fun x4 => (aI p1.2 x4 15 l1).bind (fun x5 => (if x5 = (0 : Int32) then f_X1_noteName_j28 p1.2 l0 l1 p1.1 (0 : Int32) (0 : Int32) x3 else f_X1_noteName_j28 p1.2 l0 l1 p1.1 (1 : Int32) (0 : Int32) x3)))))) else none)
set_option maxHeartbeats 4000000 in
set_option maxRecDepth 20000 in
theorem m_X1_noteName {G : xG} {π : Nat → Nat} {d C Z : Nat} {Q : xQ} {σ : xM} {l0 : Nat} {l1 : Int32} {x : xM} (hf : f_X1_noteName σ l0 l1 = some x) (hR : ∀ g, x = g → Q (.inl none) (g) π) : xMach G π J_X1_noteName (d + 3) C Z 0 (lv_args 0 [.ref l0, .int l1]) [] σ Q := by
  unfold f_X1_noteName at hf
  refine xm_stL (L' := [(0, .ref l0), (1, .int l1)]) rfl ?_
  refine xm_aload_n dX1_noteName_0 rfl ?_
  refine xm_iconst dX1_noteName_1 (v := 2) (by decide) ?_
  refine xm_iload_n dX1_noteName_2 rfl ?_
  refine xb_if hf (fun hb hf => ?_) (fun _ q => nomatch q)
  obtain ⟨p1, ep1, hf⟩ := xbind hf
  refine xb_callV (As := [.int (2 : Int32), .int l1]) (v0 := (some (.int p1.1))) (τ0 := p1.2) dX1_noteName_3 (xc_X1_note _ _) xcl1 xw_838 xw_840 xs_16 hb rfl (Nat.le_of_ble_eq_true rfl) rfl (Nat.le_of_ble_eq_true rfl) (fun Q1 hq => m_X1_note (d := d + 2) ep1 (fun g hg => by subst hg; exact hq)) ?_
  refine xm_istore_n dX1_noteName_6 (by decide) (xm_stL (L' := [(2, .int p1.1), (0, .ref l0), (1, .int l1)]) rfl ?_)
  refine xm_aload_n dX1_noteName_7 rfl ?_
  refine xb_getR (a := l0) (c := 1) (k := 11) dX1_noteName_8 xcl1 (by decide) xw_286 rfl hf (fun x2 ex2 hf => ?_)
  refine xm_iload_n dX1_noteName_11 rfl ?_
  refine xb_aaldS dX1_noteName_12 (by decide) hf (fun x3 ex3 hf => ?_)
  refine xm_iconst dX1_noteName_13 (v := 0) (by decide) ?_
  refine xm_aload_n dX1_noteName_14 rfl ?_
  refine xb_getR (a := l0) (c := 1) (k := 7) dX1_noteName_15 xcl1 (by decide) xw_280 rfl hf (fun x4 ex4 hf => ?_)
  refine xm_iload_n dX1_noteName_18 rfl ?_
  refine xb_zald dX1_noteName_19 hf (fun x5 ex5 hf => ?_)
  refine xb_if_eq 27 dX1_noteName_20 (by decide) hf (fun c hf => ?_) (fun c hf => ?_)
  · refine xm_iconst dX1_noteName_27 (v := 0) (by decide) ?_
    exact xm_sub [1, 2, 0] rfl (L_X1_noteName_j28 p1.2 l0 l1 p1.1 (0 : Int32) (0 : Int32) x3 hf hR)
  · refine xm_iconst dX1_noteName_23 (v := 1) (by decide) ?_
    refine xm_goto 28 dX1_noteName_24 (by decide) ?_
    exact xm_sub [1, 2, 0] rfl (L_X1_noteName_j28 p1.2 l0 l1 p1.1 (1 : Int32) (0 : Int32) x3 hf hR)
-- Rankwise$Desk.giveValue(ILRankwise$Fraction;)V
def f_X1_giveValue (σ : xM) (l0 : Nat) (l1 : Int32) (l2 : Nat) : Option xM :=
  (if xk σ l0 1 = true then (f_X1_noteName σ l0 l1).bind (fun p1 => (gR p1 l0 1 6).bind (fun x2 => ((aR p1 x2 16 l1).bind id).bind (fun x3 => (if xk p1 x3 2 = true then (f_X2_copy p1 x3 l2).bind (fun p4 => (gR p4 l0 1 7).bind (fun x5 => (wZ p4 x5 l1 (1 : Int32)).bind (fun σ6 => some σ6))) else none)))) else none)
set_option maxHeartbeats 4000000 in
set_option maxRecDepth 20000 in
theorem m_X1_giveValue {G : xG} {π : Nat → Nat} {d C Z : Nat} {Q : xQ} {σ : xM} {l0 : Nat} {l1 : Int32} {l2 : Nat} {x : xM} (hf : f_X1_giveValue σ l0 l1 l2 = some x) (hR : ∀ g, x = g → Q (.inl none) (g) π) : xMach G π J_X1_giveValue (d + 4) C Z 0 (lv_args 0 [.ref l0, .int l1, .ref l2]) [] σ Q := by
  unfold f_X1_giveValue at hf
  refine xm_stL (L' := [(0, .ref l0), (1, .int l1), (2, .ref l2)]) rfl ?_
  refine xm_aload_n dX1_giveValue_0 rfl ?_
  refine xm_iload_n dX1_giveValue_1 rfl ?_
  refine xb_if hf (fun hb hf => ?_) (fun _ q => nomatch q)
  obtain ⟨p1, ep1, hf⟩ := xbind hf
  refine xb_callV (As := [.int l1]) (v0 := none) (τ0 := p1) dX1_giveValue_2 (xc_X1_noteName _ _) xcl1 xw_1201 xw_1203 xs_41 hb rfl (Nat.le_of_ble_eq_true rfl) rfl (Nat.le_of_ble_eq_true rfl) (fun Q1 hq => m_X1_noteName (d := d + 0) ep1 (fun g hg => by subst hg; exact hq)) ?_
  refine xm_aload_n dX1_giveValue_5 rfl ?_
  refine xb_getR (a := l0) (c := 1) (k := 6) dX1_giveValue_6 xcl1 (by decide) xw_277 rfl hf (fun x2 ex2 hf => ?_)
  refine xm_iload_n dX1_giveValue_9 rfl ?_
  refine xb_aaldS dX1_giveValue_10 (by decide) hf (fun x3 ex3 hf => ?_)
  refine xm_aload_n dX1_giveValue_11 rfl ?_
  refine xb_if hf (fun hb hf => ?_) (fun _ q => nomatch q)
  obtain ⟨p4, ep4, hf⟩ := xbind hf
  refine xb_callV (As := [.ref l2]) (v0 := none) (τ0 := p4) dX1_giveValue_12 (xc_X2_copy _ _) xcl2 xw_1205 xw_965 xw_966 hb rfl (Nat.le_of_ble_eq_true rfl) rfl (Nat.le_of_ble_eq_true rfl) (fun Q1 hq => m_X2_copy (d := d + 1) ep4 (fun g hg => by subst hg; exact hq)) ?_
  refine xm_aload_n dX1_giveValue_15 rfl ?_
  refine xb_getR (a := l0) (c := 1) (k := 7) dX1_giveValue_16 xcl1 (by decide) xw_280 rfl hf (fun x5 ex5 hf => ?_)
  refine xm_iload_n dX1_giveValue_19 rfl ?_
  refine xm_iconst dX1_giveValue_20 (v := 1) (by decide) ?_
  refine xb_zast dX1_giveValue_21 hf (fun σ6 eσ6 hf => ?_)
  cases hf
  exact xm_vret dX1_giveValue_22 rfl (hR _ rfl)
-- Rankwise$Desk.copyRow([I[I)V
def f_X1_copyRow_s2 (s : (Nat × Nat × Int32 × xM)) : Option (xM ⊕ ((xM) ⊕ (Nat × Nat × Int32 × xM))) :=
  xlet s.1 (fun l0 => xlet s.2.1 (fun l1 => xlet s.2.2.1 (fun l2 => xlet s.2.2.2 (fun σ => (gL σ l0 14).bind (fun x2 => (if x2 ≤ l2 then some (Sum.inr (Sum.inl σ)) else (gL σ l1 14).bind (fun x3 => (if x3 ≤ l2 then some (Sum.inr (Sum.inl σ)) else (aI σ l0 14 l2).bind (fun x4 => (wI σ l1 l2 x4).bind (fun σ5 => xlet (l2 + (1 : Int32)) (fun v6 => some (Sum.inr (Sum.inr (l0, l1, v6, σ5))))))))))))))
set_option maxHeartbeats 4000000 in
set_option maxRecDepth 20000 in
theorem L_X1_copyRow_s2 {G : xG} {π : Nat → Nat} {d C Z : Nat} {Q : xQ} (σ : xM) (l0 : Nat) (l1 : Nat) (l2 : Int32) {x : (xM ⊕ ((xM) ⊕ (Nat × Nat × Int32 × xM)))} (hf : f_X1_copyRow_s2 (l0, l1, l2, σ) = some x) (hR : ∀ g, x = Sum.inl (g) → Q (.inl none) (g) π) (hE : ∀ e : (xM), x = Sum.inr (Sum.inl e) → xMach G π J_X1_copyRow (d + 0) C Z 26 [] [] e Q) (hC : ∀ e : (Nat × Nat × Int32 × xM), x = Sum.inr (Sum.inr e) → xMach G π J_X1_copyRow (d + 0) C Z 2 [(0, .ref e.1), (1, .ref e.2.1), (2, .int e.2.2.1)] [] e.2.2.2 Q) : xMach G π J_X1_copyRow (d + 0) C Z 2 [(0, .ref l0), (1, .ref l1), (2, .int l2)] [] σ Q := by
  have hf : (gL σ l0 14).bind (fun x2 => (if x2 ≤ l2 then some (Sum.inr (Sum.inl σ)) else (gL σ l1 14).bind (fun x3 => (if x3 ≤ l2 then some (Sum.inr (Sum.inl σ)) else (aI σ l0 14 l2).bind (fun x4 => (wI σ l1 l2 x4).bind (fun σ5 => xlet (l2 + (1 : Int32)) (fun v6 => some (Sum.inr (Sum.inr (l0, l1, v6, σ5)))))))))) = some x := hf
  refine xm_iload_n dX1_copyRow_2 rfl ?_
  refine xm_aload_n dX1_copyRow_3 rfl ?_
  refine xb_alen dX1_copyRow_4 (by decide) (by decide) hf (fun x2 ex2 hf => ?_)
  refine xb_icmp_ge 26 dX1_copyRow_5 (by decide) hf (fun c hf => ?_) (fun c hf => ?_)
  · cases hf
    exact xm_sub [] rfl (hE _ rfl)
  · refine xm_iload_n dX1_copyRow_8 rfl ?_
    refine xm_aload_n dX1_copyRow_9 rfl ?_
    refine xb_alen dX1_copyRow_10 (by decide) (by decide) hf (fun x3 ex3 hf => ?_)
    refine xb_icmp_ge 26 dX1_copyRow_11 (by decide) hf (fun c hf => ?_) (fun c hf => ?_)
    · cases hf
      exact xm_sub [] rfl (hE _ rfl)
    · refine xm_aload_n dX1_copyRow_14 rfl ?_
      refine xm_iload_n dX1_copyRow_15 rfl ?_
      refine xm_aload_n dX1_copyRow_16 rfl ?_
      refine xm_iload_n dX1_copyRow_17 rfl ?_
      refine xb_iald dX1_copyRow_18 hf (fun x4 ex4 hf => ?_)
      refine xb_iast dX1_copyRow_19 hf (fun σ5 eσ5 hf => ?_)
      refine xb_iinc dX1_copyRow_20 rfl (by decide) (by decide) hf (fun v6 ev6 hf => xm_stL (L' := [(2, .int v6), (0, .ref l0), (1, .ref l1)]) rfl ?_)
      refine xm_goto 2 dX1_copyRow_23 (by decide) ?_
      cases hf
      exact xm_sub [1, 2, 0] rfl (hC _ rfl)
theorem L_X1_copyRow_l2 {G : xG} {π : Nat → Nat} {d C Z : Nat} {Q : xQ} {s0 : (Nat × Nat × Int32 × xM)} {x : (xM ⊕ (xM))} (h1 : xloop (f_X1_copyRow_s2) xF s0 = some x) (hR : ∀ g, x = Sum.inl g → Q (.inl none) (g) π) (hE : ∀ e : (xM), x = Sum.inr e → xMach G π J_X1_copyRow (d + 0) C Z 26 [] [] e Q) : xMach G π J_X1_copyRow (d + 0) C Z 2 [(0, .ref s0.1), (1, .ref s0.2.1), (2, .int s0.2.2.1)] [] s0.2.2.2 Q := by
  refine xloop_run (M := (fun s : (Nat × Nat × Int32 × xM) => xMach G π J_X1_copyRow (d + 0) C Z 2 [(0, .ref s.1), (1, .ref s.2.1), (2, .int s.2.2.1)] [] s.2.2.2 Q)) (r := x) ?_ xF _ h1
  intro s y hs hx
  exact L_X1_copyRow_s2 s.2.2.2 s.1 s.2.1 s.2.2.1 (x := y) hs (fun g hg => by subst hg; exact hR g hx) (fun e he => by subst he; exact hE e hx) (fun e he => by subst he; exact hx)
def f_X1_copyRow_j26 (σ : xM)  : Option xM :=
  some σ
set_option maxHeartbeats 4000000 in
set_option maxRecDepth 20000 in
theorem L_X1_copyRow_j26 {G : xG} {π : Nat → Nat} {d C Z : Nat} {Q : xQ} (σ : xM)  {x : xM} (hf : f_X1_copyRow_j26 σ = some x) (hR : ∀ g, x = g → Q (.inl none) (g) π) : xMach G π J_X1_copyRow (d + 0) C Z 26 [] [] σ Q := by
  unfold f_X1_copyRow_j26 at hf
  cases hf
  exact xm_vret dX1_copyRow_26 rfl (hR _ rfl)
def f_X1_copyRow (σ : xM) (l0 : Nat) (l1 : Nat) : Option xM :=
  xlet (0 : Int32) (fun v1 => (xloop (f_X1_copyRow_s2 ) xF (l0, l1, v1, σ)).bind (Sum.elim (fun g => some g) (fun e => f_X1_copyRow_j26 e)))
set_option maxHeartbeats 4000000 in
set_option maxRecDepth 20000 in
theorem m_X1_copyRow {G : xG} {π : Nat → Nat} {d C Z : Nat} {Q : xQ} {σ : xM} {l0 : Nat} {l1 : Nat} {x : xM} (hf : f_X1_copyRow σ l0 l1 = some x) (hR : ∀ g, x = g → Q (.inl none) (g) π) : xMach G π J_X1_copyRow (d + 0) C Z 0 (lv_args 0 [.ref l0, .ref l1]) [] σ Q := by
  unfold f_X1_copyRow at hf
  refine xm_stL (L' := [(0, .ref l0), (1, .ref l1)]) rfl ?_
  refine xm_iconst dX1_copyRow_0 (v := 0) (by decide) ?_
  refine xb_topi hf (fun v1 ev1 hf => ?_)
  refine xm_istore_n dX1_copyRow_1 (by decide) (xm_stL (L' := [(2, .int v1), (0, .ref l0), (1, .ref l1)]) rfl ?_)
  obtain ⟨o, h1, hf⟩ := xbind hf
  refine xm_sub [1, 2, 0] rfl (L_X1_copyRow_l2  h1 (fun g hg => ?_) (fun e he => ?_))
  · subst hg
    cases hf
    exact hR _ rfl
  · subst he
    rw [Sum.elim_inr] at hf
    have hf : f_X1_copyRow_j26 e = some _ := hf
    exact xm_sub [] rfl (L_X1_copyRow_j26 e hf hR)
-- Rankwise$Desk.takeBack()I
def f_X1_takeBack_j156 (σ : xM) (l0 : Nat) (l1 : Int32) : Option (Int32 × xM) :=
  (gR σ l0 1 9).bind (fun x16 => (aI σ x16 14 l1).bind (fun x17 => some (x17, σ)))
set_option maxHeartbeats 4000000 in
set_option maxRecDepth 20000 in
theorem L_X1_takeBack_j156 {G : xG} {π : Nat → Nat} {d C Z : Nat} {Q : xQ} (σ : xM) (l0 : Nat) (l1 : Int32) {x : (Int32 × xM)} (hf : f_X1_takeBack_j156 σ l0 l1 = some x) (hR : ∀ g, x = g → Q (.inl (some (.int g.1))) (g.2) π) : xMach G π J_X1_takeBack (d + 3) C Z 156 [(0, .ref l0), (1, .int l1)] [] σ Q := by
  unfold f_X1_takeBack_j156 at hf
  refine xm_aload_n dX1_takeBack_156 rfl ?_
  refine xb_getR (a := l0) (c := 1) (k := 9) dX1_takeBack_157 xcl1 (by decide) xw_284 rfl hf (fun x16 ex16 hf => ?_)
  refine xm_iload_n dX1_takeBack_160 rfl ?_
  refine xb_iald dX1_takeBack_161 hf (fun x17 ex17 hf => ?_)
  cases hf
  exact xm_iret dX1_takeBack_162 rfl (hR _ rfl)
def f_X1_takeBack_j127 (σ : xM) (l0 : Nat) (l1 : Int32) (l2 : Int32) (s0 : Int32) (s1 : Int32) (s2 : Nat) : Option (Int32 × xM) :=
  (wZ σ s2 s1 s0).bind (fun σ26 => (gR σ26 l0 1 6).bind (fun x27 => ((aR σ26 x27 16 l2).bind id).bind (fun x28 => (gR σ26 l0 1 12).bind (fun x29 => ((aR σ26 x29 16 l1).bind id).bind (fun x30 => (if xk σ26 x28 2 = true then (f_X2_copy σ26 x28 x30).bind (fun p31 => f_X1_takeBack_j156 p31 l0 l1) else none))))))
set_option maxHeartbeats 4000000 in
set_option maxRecDepth 20000 in
theorem L_X1_takeBack_j127 {G : xG} {π : Nat → Nat} {d C Z : Nat} {Q : xQ} (σ : xM) (l0 : Nat) (l1 : Int32) (l2 : Int32) (s0 : Int32) (s1 : Int32) (s2 : Nat) {x : (Int32 × xM)} (hf : f_X1_takeBack_j127 σ l0 l1 l2 s0 s1 s2 = some x) (hR : ∀ g, x = g → Q (.inl (some (.int g.1))) (g.2) π) : xMach G π J_X1_takeBack (d + 3) C Z 127 [(0, .ref l0), (1, .int l1), (2, .int l2)] [.int s0, .int s1, .ref s2] σ Q := by
  unfold f_X1_takeBack_j127 at hf
  refine xb_zast dX1_takeBack_127 hf (fun σ26 eσ26 hf => ?_)
  refine xm_aload_n dX1_takeBack_128 rfl ?_
  refine xb_getR (a := l0) (c := 1) (k := 6) dX1_takeBack_129 xcl1 (by decide) xw_277 rfl hf (fun x27 ex27 hf => ?_)
  refine xm_iload_n dX1_takeBack_132 rfl ?_
  refine xb_aaldS dX1_takeBack_133 (by decide) hf (fun x28 ex28 hf => ?_)
  refine xm_aload_n dX1_takeBack_134 rfl ?_
  refine xb_getR (a := l0) (c := 1) (k := 12) dX1_takeBack_135 xcl1 (by decide) xw_287 rfl hf (fun x29 ex29 hf => ?_)
  refine xm_iload_n dX1_takeBack_138 rfl ?_
  refine xb_aaldS dX1_takeBack_139 (by decide) hf (fun x30 ex30 hf => ?_)
  refine xb_if hf (fun hb hf => ?_) (fun _ q => nomatch q)
  obtain ⟨p31, ep31, hf⟩ := xbind hf
  refine xb_callV (As := [.ref x30]) (v0 := none) (τ0 := p31) dX1_takeBack_140 (xc_X2_copy _ _) xcl2 xw_1205 xw_965 xw_966 hb rfl (Nat.le_of_ble_eq_true rfl) rfl (Nat.le_of_ble_eq_true rfl) (fun Q1 hq => m_X2_copy (d := d + 0) ep31 (fun g hg => by subst hg; exact hq)) ?_
  refine xm_goto 156 dX1_takeBack_143 (by decide) ?_
  exact xm_sub [0, 1] rfl (L_X1_takeBack_j156 p31 l0 l1 hf hR)
def f_X1_takeBack (σ : xM) (l0 : Nat) : Option (Int32 × xM) :=
  (gI σ l0 1 14).bind (fun x1 => (if (0 : Int32) < x1 then (gI σ l0 1 14).bind (fun x2 => (sI σ l0 1 14 (x2 - (1 : Int32))).bind (fun σ3 => (gI σ3 l0 1 13).bind (fun x4 => (gI σ3 l0 1 14).bind (fun x5 => xlet ((x4 + x5) - (x4 + x5) / (20 : Int32) * (20 : Int32)) (fun v6 => (gR σ3 l0 1 10).bind (fun x7 => (aI σ3 x7 14 v6).bind (fun x8 => (gR σ3 l0 1 11).bind (fun x9 => ((aR σ3 x9 18 v6).bind id).bind (fun x10 => (gR σ3 l0 1 9).bind (fun x11 => (aI σ3 x11 14 v6).bind (fun x12 => (if x12 = (0 : Int32) then (gI σ3 l0 1 5).bind (fun x18 => (sI σ3 l0 1 5 (x18 - (1 : Int32))).bind (fun σ19 => f_X1_takeBack_j156 σ19 l0 v6)) else (if x12 = (1 : Int32) then (aI σ3 x10 14 (0 : Int32)).bind (fun x20 => (aI σ3 x10 14 (1 : Int32)).bind (fun x21 => (aI σ3 x10 14 (2 : Int32)).bind (fun x22 => (if xk σ3 l0 1 = true then (f_X1_putOperator σ3 l0 x8 x20 x21 x22).bind (fun p23 => f_X1_takeBack_j156 p23 l0 v6) else none)))) else (if x12 = (2 : Int32) then (gR σ3 l0 1 7).bind (fun x24 => (aI σ3 x10 14 (0 : Int32)).bind (fun x25 => (if x25 = (1 : Int32) then f_X1_takeBack_j127 σ3 l0 v6 x8 (1 : Int32) x8 x24 else f_X1_takeBack_j127 σ3 l0 v6 x8 (0 : Int32) x8 x24))) else (gR σ3 l0 1 8).bind (fun x13 => ((aR σ3 x13 18 x8).bind id).bind (fun x14 => (f_X1_copyRow σ3 x10 x14).bind (fun p15 => f_X1_takeBack_j156 p15 l0 v6))))))))))))))))) else some ((-1 : Int32), σ)))
set_option maxHeartbeats 4000000 in
set_option maxRecDepth 20000 in
theorem m_X1_takeBack {G : xG} {π : Nat → Nat} {d C Z : Nat} {Q : xQ} {σ : xM} {l0 : Nat} {x : (Int32 × xM)} (hf : f_X1_takeBack σ l0 = some x) (hR : ∀ g, x = g → Q (.inl (some (.int g.1))) (g.2) π) : xMach G π J_X1_takeBack (d + 3) C Z 0 (lv_args 0 [.ref l0]) [] σ Q := by
  unfold f_X1_takeBack at hf
  refine xm_stL (L' := [(0, .ref l0)]) rfl ?_
  refine xm_aload_n dX1_takeBack_0 rfl ?_
  refine xb_getI (a := l0) (c := 1) (k := 14) dX1_takeBack_1 xcl1 (by decide) xw_289 rfl hf (fun x1 ex1 hf => ?_)
  refine xb_if_gt 9 dX1_takeBack_4 (by decide) hf (fun c hf => ?_) (fun c hf => ?_)
  · refine xm_aload_n dX1_takeBack_9 rfl ?_
    refine xm_dup dX1_takeBack_10 rfl ?_
    refine xb_getI (a := l0) (c := 1) (k := 14) dX1_takeBack_11 xcl1 (by decide) xw_289 rfl hf (fun x2 ex2 hf => ?_)
    refine xm_iconst dX1_takeBack_14 (v := 1) (by decide) ?_
    refine xm_isub dX1_takeBack_15 ?_
    refine xb_putI (a := l0) (c := 1) (k := 14) dX1_takeBack_16 xcl1 (by decide) xw_289 rfl rfl hf (fun σ3 eσ3 hf => ?_)
    refine xm_aload_n dX1_takeBack_19 rfl ?_
    refine xb_getI (a := l0) (c := 1) (k := 13) dX1_takeBack_20 xcl1 (by decide) xw_288 rfl hf (fun x4 ex4 hf => ?_)
    refine xm_aload_n dX1_takeBack_23 rfl ?_
    refine xb_getI (a := l0) (c := 1) (k := 14) dX1_takeBack_24 xcl1 (by decide) xw_289 rfl hf (fun x5 ex5 hf => ?_)
    refine xm_iadd dX1_takeBack_27 ?_
    refine xm_bipush dX1_takeBack_28 (v := 20) (by decide) ?_
    refine xm_irem dX1_takeBack_30 (by decide) ?_
    refine xb_topi hf (fun v6 ev6 hf => ?_)
    refine xm_istore_n dX1_takeBack_31 (by decide) (xm_stL (L' := [(1, .int v6), (0, .ref l0)]) rfl ?_)
    refine xm_aload_n dX1_takeBack_32 rfl ?_
    refine xb_getR (a := l0) (c := 1) (k := 10) dX1_takeBack_33 xcl1 (by decide) xw_285 rfl hf (fun x7 ex7 hf => ?_)
    refine xm_iload_n dX1_takeBack_36 rfl ?_
    refine xb_iald dX1_takeBack_37 hf (fun x8 ex8 hf => ?_)
    refine xm_istore_n dX1_takeBack_38 (by decide) (xm_stL (L' := [(2, .int x8), (1, .int v6), (0, .ref l0)]) rfl ?_)
    refine xm_aload_n dX1_takeBack_39 rfl ?_
    refine xb_getR (a := l0) (c := 1) (k := 11) dX1_takeBack_40 xcl1 (by decide) xw_286 rfl hf (fun x9 ex9 hf => ?_)
    refine xm_iload_n dX1_takeBack_43 rfl ?_
    refine xb_aaldS dX1_takeBack_44 (by decide) hf (fun x10 ex10 hf => ?_)
    refine xm_astore_n dX1_takeBack_45 (by decide) (xm_stL (L' := [(3, .ref x10), (2, .int x8), (1, .int v6), (0, .ref l0)]) rfl ?_)
    refine xm_aload_n dX1_takeBack_46 rfl ?_
    refine xb_getR (a := l0) (c := 1) (k := 9) dX1_takeBack_47 xcl1 (by decide) xw_284 rfl hf (fun x11 ex11 hf => ?_)
    refine xm_iload_n dX1_takeBack_50 rfl ?_
    refine xb_iald dX1_takeBack_51 hf (fun x12 ex12 hf => ?_)
    refine xb_if hf (fun c hf => ?_) (fun n0 hf => ?_)
    · refine xm_tableIn 80 dX1_takeBack_52 (by rw [c]; decide) (by rw [c]; decide) (by rw [c]; rfl) (by decide) ?_
      refine xm_aload_n dX1_takeBack_80 rfl ?_
      refine xm_dup dX1_takeBack_81 rfl ?_
      refine xb_getI (a := l0) (c := 1) (k := 5) dX1_takeBack_82 xcl1 (by decide) xw_276 rfl hf (fun x18 ex18 hf => ?_)
      refine xm_iconst dX1_takeBack_85 (v := 1) (by decide) ?_
      refine xm_isub dX1_takeBack_86 ?_
      refine xb_putI (a := l0) (c := 1) (k := 5) dX1_takeBack_87 xcl1 (by decide) xw_276 rfl rfl hf (fun σ19 eσ19 hf => ?_)
      refine xm_goto 156 dX1_takeBack_90 (by decide) ?_
      exact xm_sub [3, 2] rfl (L_X1_takeBack_j156 σ19 l0 v6 hf hR)
    refine xb_if hf (fun c hf => ?_) (fun n1 hf => ?_)
    · refine xm_tableIn 93 dX1_takeBack_52 (by rw [c]; decide) (by rw [c]; decide) (by rw [c]; rfl) (by decide) ?_
      refine xm_aload_n dX1_takeBack_93 rfl ?_
      refine xm_iload_n dX1_takeBack_94 rfl ?_
      refine xm_aload_n dX1_takeBack_95 rfl ?_
      refine xm_iconst dX1_takeBack_96 (v := 0) (by decide) ?_
      refine xb_iald dX1_takeBack_97 hf (fun x20 ex20 hf => ?_)
      refine xm_aload_n dX1_takeBack_98 rfl ?_
      refine xm_iconst dX1_takeBack_99 (v := 1) (by decide) ?_
      refine xb_iald dX1_takeBack_100 hf (fun x21 ex21 hf => ?_)
      refine xm_aload_n dX1_takeBack_101 rfl ?_
      refine xm_iconst dX1_takeBack_102 (v := 2) (by decide) ?_
      refine xb_iald dX1_takeBack_103 hf (fun x22 ex22 hf => ?_)
      refine xb_if hf (fun hb hf => ?_) (fun _ q => nomatch q)
      obtain ⟨p23, ep23, hf⟩ := xbind hf
      refine xb_callV (As := [.int x8, .int x20, .int x21, .int x22]) (v0 := none) (τ0 := p23) dX1_takeBack_104 (xc_X1_putOperator _ _) xcl1 xw_182 xw_183 xw_184 hb rfl (Nat.le_of_ble_eq_true rfl) rfl (Nat.le_of_ble_eq_true rfl) (fun Q1 hq => m_X1_putOperator (d := d + 2) ep23 (fun g hg => by subst hg; exact hq)) ?_
      refine xm_goto 156 dX1_takeBack_107 (by decide) ?_
      exact xm_sub [3, 2] rfl (L_X1_takeBack_j156 p23 l0 v6 hf hR)
    refine xb_if hf (fun c hf => ?_) (fun n2 hf => ?_)
    · refine xm_tableIn 110 dX1_takeBack_52 (by rw [c]; decide) (by rw [c]; decide) (by rw [c]; rfl) (by decide) ?_
      refine xm_aload_n dX1_takeBack_110 rfl ?_
      refine xb_getR (a := l0) (c := 1) (k := 7) dX1_takeBack_111 xcl1 (by decide) xw_280 rfl hf (fun x24 ex24 hf => ?_)
      refine xm_iload_n dX1_takeBack_114 rfl ?_
      refine xm_aload_n dX1_takeBack_115 rfl ?_
      refine xm_iconst dX1_takeBack_116 (v := 0) (by decide) ?_
      refine xb_iald dX1_takeBack_117 hf (fun x25 ex25 hf => ?_)
      refine xm_iconst dX1_takeBack_118 (v := 1) (by decide) ?_
      refine xb_icmp_ne 126 dX1_takeBack_119 (by decide) hf (fun c hf => ?_) (fun c hf => ?_)
      · refine xm_iconst dX1_takeBack_126 (v := 0) (by decide) ?_
        exact xm_sub [3, 2, 1] rfl (L_X1_takeBack_j127 σ3 l0 v6 x8 (0 : Int32) x8 x24 hf hR)
      · refine xm_iconst dX1_takeBack_122 (v := 1) (by decide) ?_
        refine xm_goto 127 dX1_takeBack_123 (by decide) ?_
        exact xm_sub [3, 2, 1] rfl (L_X1_takeBack_j127 σ3 l0 v6 x8 (1 : Int32) x8 x24 hf hR)
    refine xm_tableOut 146 dX1_takeBack_52 (by have q0 := lv_neT (a := 0) n0 (by decide); have q1 := lv_neT (a := 1) n1 (by decide); have q2 := lv_neT (a := 2) n2 (by decide); omega) (by decide) ?_
    refine xm_aload_n dX1_takeBack_146 rfl ?_
    refine xm_aload_n dX1_takeBack_147 rfl ?_
    refine xb_getR (a := l0) (c := 1) (k := 8) dX1_takeBack_148 xcl1 (by decide) xw_283 rfl hf (fun x13 ex13 hf => ?_)
    refine xm_iload_n dX1_takeBack_151 rfl ?_
    refine xb_aaldS dX1_takeBack_152 (by decide) hf (fun x14 ex14 hf => ?_)
    obtain ⟨p15, ep15, hf⟩ := xbind hf
    refine xb_callS (As := [.ref x10, .ref x14]) (v0 := none) (τ0 := p15) dX1_takeBack_153 (xc_X1_copyRow _ _) xw_1219 xw_1220 rfl (Nat.le_of_ble_eq_true rfl) rfl (Nat.le_of_ble_eq_true rfl) (fun Q1 hq => m_X1_copyRow (d := d + 2) ep15 (fun g hg => by subst hg; exact hq)) ?_
    exact xm_sub [3, 2] rfl (L_X1_takeBack_j156 p15 l0 v6 hf hR)
  · refine xm_iconst dX1_takeBack_7 (v := -1) (by decide) ?_
    cases hf
    exact xm_iret dX1_takeBack_8 rfl (hR _ rfl)
-- Rankwise$Desk.leastWith(I)I
def f_X1_leastWith_j39 (σ : xM) (l0 : Nat) (l1 : Int32) (l2 : Int32) : Option (Int32 ⊕ (((Int32) ⊕ Unit) ⊕ (Nat × Int32 × Int32))) :=
  xlet (l2 + (1 : Int32)) (fun v5 => some (Sum.inr (Sum.inr (l0, l1, v5))))
set_option maxHeartbeats 4000000 in
set_option maxRecDepth 20000 in
theorem L_X1_leastWith_j39 {G : xG} {π : Nat → Nat} {d C Z : Nat} {Q : xQ} (σ : xM) (l0 : Nat) (l1 : Int32) (l2 : Int32) {x : (Int32 ⊕ (((Int32) ⊕ Unit) ⊕ (Nat × Int32 × Int32)))} (hf : f_X1_leastWith_j39 σ l0 l1 l2 = some x) (hR : ∀ g, x = Sum.inl (g) → Q (.inl (some (.int g))) (σ) π) (hE0 : ∀ e : (Int32), x = Sum.inr (Sum.inl (Sum.inl e)) → xMach G π J_X1_leastWith (d + 4) C Z 32 [(2, .int e)] [] σ Q) (hE1 : ∀ e : Unit, x = Sum.inr (Sum.inl (Sum.inr e)) → xMach G π J_X1_leastWith (d + 4) C Z 45 [] [] σ Q) (hC : ∀ e : (Nat × Int32 × Int32), x = Sum.inr (Sum.inr e) → xMach G π J_X1_leastWith (d + 4) C Z 2 [(0, .ref e.1), (1, .int e.2.1), (2, .int e.2.2)] [] σ Q) : xMach G π J_X1_leastWith (d + 4) C Z 39 [(0, .ref l0), (1, .int l1), (2, .int l2)] [] σ Q := by
  unfold f_X1_leastWith_j39 at hf
  refine xb_iinc dX1_leastWith_39 rfl (by decide) (by decide) hf (fun v5 ev5 hf => xm_stL (L' := [(2, .int v5), (0, .ref l0), (1, .int l1)]) rfl ?_)
  refine xm_goto 2 dX1_leastWith_42 (by decide) ?_
  cases hf
  exact xm_sub [1, 2, 0] rfl (hC _ rfl)
def f_X1_leastWith_s2 (σ : xM) (s : (Nat × Int32 × Int32)) : Option (Int32 ⊕ (((Int32) ⊕ Unit) ⊕ (Nat × Int32 × Int32))) :=
  xlet s.1 (fun l0 => xlet s.2.1 (fun l1 => xlet s.2.2 (fun l2 => (if (16 : Int32) ≤ l2 then some (Sum.inr (Sum.inl (Sum.inr ()))) else xlet ((32 : Int32) + l2) (fun v2 => (gR σ l0 1 1).bind (fun x3 => (aI σ x3 14 v2).bind (fun x4 => (if x4 ≤ (0 : Int32) then f_X1_leastWith_j39 σ l0 l1 l2 else (gR σ l0 1 3).bind (fun x6 => (aI σ x6 14 v2).bind (fun x7 => (if x7 = l1 then some (Sum.inr (Sum.inl (Sum.inl l2))) else f_X1_leastWith_j39 σ l0 l1 l2)))))))))))
set_option maxHeartbeats 4000000 in
set_option maxRecDepth 20000 in
theorem L_X1_leastWith_s2 {G : xG} {π : Nat → Nat} {d C Z : Nat} {Q : xQ} (σ : xM) (l0 : Nat) (l1 : Int32) (l2 : Int32) {x : (Int32 ⊕ (((Int32) ⊕ Unit) ⊕ (Nat × Int32 × Int32)))} (hf : f_X1_leastWith_s2 σ (l0, l1, l2) = some x) (hR : ∀ g, x = Sum.inl (g) → Q (.inl (some (.int g))) (σ) π) (hE0 : ∀ e : (Int32), x = Sum.inr (Sum.inl (Sum.inl e)) → xMach G π J_X1_leastWith (d + 4) C Z 32 [(2, .int e)] [] σ Q) (hE1 : ∀ e : Unit, x = Sum.inr (Sum.inl (Sum.inr e)) → xMach G π J_X1_leastWith (d + 4) C Z 45 [] [] σ Q) (hC : ∀ e : (Nat × Int32 × Int32), x = Sum.inr (Sum.inr e) → xMach G π J_X1_leastWith (d + 4) C Z 2 [(0, .ref e.1), (1, .int e.2.1), (2, .int e.2.2)] [] σ Q) : xMach G π J_X1_leastWith (d + 4) C Z 2 [(0, .ref l0), (1, .int l1), (2, .int l2)] [] σ Q := by
  have hf : (if (16 : Int32) ≤ l2 then some (Sum.inr (Sum.inl (Sum.inr ()))) else xlet ((32 : Int32) + l2) (fun v2 => (gR σ l0 1 1).bind (fun x3 => (aI σ x3 14 v2).bind (fun x4 => (if x4 ≤ (0 : Int32) then f_X1_leastWith_j39 σ l0 l1 l2 else (gR σ l0 1 3).bind (fun x6 => (aI σ x6 14 v2).bind (fun x7 => (if x7 = l1 then some (Sum.inr (Sum.inl (Sum.inl l2))) else f_X1_leastWith_j39 σ l0 l1 l2)))))))) = some x := hf
  refine xm_iload_n dX1_leastWith_2 rfl ?_
  refine xm_bipush dX1_leastWith_3 (v := 16) (by decide) ?_
  refine xb_icmp_ge 45 dX1_leastWith_5 (by decide) hf (fun c hf => ?_) (fun c hf => ?_)
  · cases hf
    exact xm_sub [] rfl (hE1 _ rfl)
  · refine xm_bipush dX1_leastWith_8 (v := 32) (by decide) ?_
    refine xm_iload_n dX1_leastWith_10 rfl ?_
    refine xm_iadd dX1_leastWith_11 ?_
    refine xb_topi hf (fun v2 ev2 hf => ?_)
    refine xm_istore_n dX1_leastWith_12 (by decide) (xm_stL (L' := [(3, .int v2), (0, .ref l0), (1, .int l1), (2, .int l2)]) rfl ?_)
    refine xm_aload_n dX1_leastWith_13 rfl ?_
    refine xb_getR (a := l0) (c := 1) (k := 1) dX1_leastWith_14 xcl1 (by decide) xw_270 rfl hf (fun x3 ex3 hf => ?_)
    refine xm_iload_n dX1_leastWith_17 rfl ?_
    refine xb_iald dX1_leastWith_18 hf (fun x4 ex4 hf => ?_)
    refine xb_if_le 39 dX1_leastWith_19 (by decide) hf (fun c hf => ?_) (fun c hf => ?_)
    · exact xm_sub [1, 2, 3] rfl (L_X1_leastWith_j39 σ l0 l1 l2 hf hR hE0 hE1 hC)
    · refine xm_aload_n dX1_leastWith_22 rfl ?_
      refine xb_getR (a := l0) (c := 1) (k := 3) dX1_leastWith_23 xcl1 (by decide) xw_272 rfl hf (fun x6 ex6 hf => ?_)
      refine xm_iload_n dX1_leastWith_26 rfl ?_
      refine xb_iald dX1_leastWith_27 hf (fun x7 ex7 hf => ?_)
      refine xm_iload_n dX1_leastWith_28 rfl ?_
      refine xb_icmp_ne 39 dX1_leastWith_29 (by decide) hf (fun c hf => ?_) (fun c hf => ?_)
      · exact xm_sub [1, 2, 3] rfl (L_X1_leastWith_j39 σ l0 l1 l2 hf hR hE0 hE1 hC)
      · cases hf
        exact xm_sub [3] rfl (hE0 _ rfl)
theorem L_X1_leastWith_l2 {G : xG} {π : Nat → Nat} {d C Z : Nat} {Q : xQ} (σ : xM) {s0 : (Nat × Int32 × Int32)} {x : (Int32 ⊕ ((Int32) ⊕ Unit))} (h1 : xloop (f_X1_leastWith_s2 σ) xF s0 = some x) (hR : ∀ g, x = Sum.inl g → Q (.inl (some (.int g))) (σ) π) (hE0 : ∀ e : (Int32), x = Sum.inr (Sum.inl e) → xMach G π J_X1_leastWith (d + 4) C Z 32 [(2, .int e)] [] σ Q) (hE1 : ∀ e : Unit, x = Sum.inr (Sum.inr e) → xMach G π J_X1_leastWith (d + 4) C Z 45 [] [] σ Q) : xMach G π J_X1_leastWith (d + 4) C Z 2 [(0, .ref s0.1), (1, .int s0.2.1), (2, .int s0.2.2)] [] σ Q := by
  refine xloop_run (M := (fun s : (Nat × Int32 × Int32) => xMach G π J_X1_leastWith (d + 4) C Z 2 [(0, .ref s.1), (1, .int s.2.1), (2, .int s.2.2)] [] σ Q)) (r := x) ?_ xF _ h1
  intro s y hs hx
  exact L_X1_leastWith_s2 σ s.1 s.2.1 s.2.2 (x := y) hs (fun g hg => by subst hg; exact hR g hx) (fun e he => by subst he; exact hE0 e hx) (fun e he => by subst he; exact hE1 e hx) (fun e he => by subst he; exact hx)
def f_X1_leastWith_j32 (σ : xM) (l2 : Int32) : Option Int32 :=
  (xCh l2).bind (fun c8 => some c8)
set_option maxHeartbeats 4000000 in
set_option maxRecDepth 20000 in
theorem L_X1_leastWith_j32 {G : xG} {π : Nat → Nat} {d C Z : Nat} {Q : xQ} (σ : xM) (l2 : Int32) {x : Int32} (hf : f_X1_leastWith_j32 σ l2 = some x) (hR : ∀ g, x = g → Q (.inl (some (.int g))) (σ) π) : xMach G π J_X1_leastWith (d + 4) C Z 32 [(2, .int l2)] [] σ Q := by
  unfold f_X1_leastWith_j32 at hf
  refine xm_ldcS dX1_leastWith_32 rfl ?_
  refine xm_iload_n dX1_leastWith_34 rfl ?_
  obtain ⟨c8, ec8, hf⟩ := xbind hf
  refine xb_callVS (As := [.int l2]) (v0 := some (.int c8)) dX1_leastWith_35 (xc_chr _ _) rfl xw_1451 xw_1452 xw_1453 rfl (Nat.le_of_ble_eq_true rfl) rfl (Nat.le_of_ble_eq_true rfl) (fun Q1 hq => t_chr2 (d := d + 0) ec8 hq) ?_
  cases hf
  exact xm_iret dX1_leastWith_38 rfl (hR _ rfl)
def f_X1_leastWith_j45 (σ : xM)  : Option Int32 :=
  some (-1 : Int32)
set_option maxHeartbeats 4000000 in
set_option maxRecDepth 20000 in
theorem L_X1_leastWith_j45 {G : xG} {π : Nat → Nat} {d C Z : Nat} {Q : xQ} (σ : xM)  {x : Int32} (hf : f_X1_leastWith_j45 σ = some x) (hR : ∀ g, x = g → Q (.inl (some (.int g))) (σ) π) : xMach G π J_X1_leastWith (d + 4) C Z 45 [] [] σ Q := by
  unfold f_X1_leastWith_j45 at hf
  refine xm_iconst dX1_leastWith_45 (v := -1) (by decide) ?_
  cases hf
  exact xm_iret dX1_leastWith_46 rfl (hR _ rfl)
def f_X1_leastWith (σ : xM) (l0 : Nat) (l1 : Int32) : Option Int32 :=
  xlet (0 : Int32) (fun v1 => (xloop (f_X1_leastWith_s2 σ ) xF (l0, l1, v1)).bind (Sum.elim (fun g => some g) (Sum.elim (fun e => f_X1_leastWith_j32 σ e) (fun e => f_X1_leastWith_j45 σ))))
set_option maxHeartbeats 4000000 in
set_option maxRecDepth 20000 in
theorem m_X1_leastWith {G : xG} {π : Nat → Nat} {d C Z : Nat} {Q : xQ} {σ : xM} {l0 : Nat} {l1 : Int32} {x : Int32} (hf : f_X1_leastWith σ l0 l1 = some x) (hR : ∀ g, x = g → Q (.inl (some (.int g))) (σ) π) : xMach G π J_X1_leastWith (d + 4) C Z 0 (lv_args 0 [.ref l0, .int l1]) [] σ Q := by
  unfold f_X1_leastWith at hf
  refine xm_stL (L' := [(0, .ref l0), (1, .int l1)]) rfl ?_
  refine xm_iconst dX1_leastWith_0 (v := 0) (by decide) ?_
  refine xb_topi hf (fun v1 ev1 hf => ?_)
  refine xm_istore_n dX1_leastWith_1 (by decide) (xm_stL (L' := [(2, .int v1), (0, .ref l0), (1, .int l1)]) rfl ?_)
  obtain ⟨o, h1, hf⟩ := xbind hf
  refine xm_sub [1, 2, 0] rfl (L_X1_leastWith_l2 σ h1 (fun g hg => ?_) (fun e he => ?_) (fun e he => ?_))
  · subst hg
    cases hf
    exact hR _ rfl
  · subst he
    rw [Sum.elim_inr, Sum.elim_inl] at hf
    have hf : f_X1_leastWith_j32 σ e = some _ := hf
    exact xm_sub [0] rfl (L_X1_leastWith_j32 σ e hf hR)
  · subst he
    rw [Sum.elim_inr, Sum.elim_inr] at hf
    have hf : f_X1_leastWith_j45 σ = some _ := hf
    exact xm_sub [] rfl (L_X1_leastWith_j45 σ hf hR)
