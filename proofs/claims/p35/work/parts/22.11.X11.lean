-- Rankwise.type(C)I
def f_X11_type (σ : xM) (l0 : Nat) (l1 : Int32) : Option ((Int32 ⊕ String) × xM) :=
  (gI σ l0 11 1).bind (fun x1 => (gR σ l0 11 0).bind (fun x2 => (gL σ x2 13).bind (fun x3 => (if x1 < x3 then (gR σ l0 11 0).bind (fun x4 => (gI σ l0 11 1).bind (fun x5 => (wC σ x4 x5 l1).bind (fun σ6 => (gI σ6 l0 11 1).bind (fun x7 => (sI σ6 l0 11 1 (x7 + (1 : Int32))).bind (fun σ8 => (gI σ8 l0 11 1).bind (fun x9 => some ((Sum.inl x9), σ8))))))) else some ((Sum.inr "java/lang/IllegalStateException"), σ)))))
set_option maxHeartbeats 4000000 in
set_option maxRecDepth 20000 in
theorem m_X11_type {G : xG} {π : Nat → Nat} {d C Z : Nat} {Q : xQ} {σ : xM} {l0 : Nat} {l1 : Int32} {x : ((Int32 ⊕ String) × xM)} (hf : f_X11_type σ l0 l1 = some x) (hR : ∀ g, x = g → Sum.elim (fun v => Q (.inl (some (.int v))) (g.2) π) (fun E => (1 ≤ C ∧ 6 ≤ Z) ∧ Q (.inr E) (g.2) π) (g.1)) : xMach G π J_X11_type (d + 7) C Z 0 (lv_args 0 [.ref l0, .int l1]) [] σ Q := by
  unfold f_X11_type at hf
  refine xm_stL (L' := [(0, .ref l0), (1, .int l1)]) rfl ?_
  refine xm_aload_n dX11_type_0 rfl ?_
  refine xb_getI (a := l0) (c := 11) (k := 1) dX11_type_1 xcl11 (by decide) xw_584 rfl hf (fun x1 ex1 hf => ?_)
  refine xm_aload_n dX11_type_4 rfl ?_
  refine xb_getR (a := l0) (c := 11) (k := 0) dX11_type_5 xcl11 (by decide) xw_583 rfl hf (fun x2 ex2 hf => ?_)
  refine xb_alen dX11_type_8 (by decide) (by decide) hf (fun x3 ex3 hf => ?_)
  refine xb_icmp_lt 22 dX11_type_9 (by decide) hf (fun c hf => ?_) (fun c hf => ?_)
  · refine xm_aload_n dX11_type_22 rfl ?_
    refine xb_getR (a := l0) (c := 11) (k := 0) dX11_type_23 xcl11 (by decide) xw_583 rfl hf (fun x4 ex4 hf => ?_)
    refine xm_aload_n dX11_type_26 rfl ?_
    refine xb_getI (a := l0) (c := 11) (k := 1) dX11_type_27 xcl11 (by decide) xw_584 rfl hf (fun x5 ex5 hf => ?_)
    refine xm_iload_n dX11_type_30 rfl ?_
    refine xb_cast dX11_type_31 hf (fun σ6 eσ6 hf => ?_)
    refine xm_aload_n dX11_type_32 rfl ?_
    refine xm_dup dX11_type_33 rfl ?_
    refine xb_getI (a := l0) (c := 11) (k := 1) dX11_type_34 xcl11 (by decide) xw_584 rfl hf (fun x7 ex7 hf => ?_)
    refine xm_iconst dX11_type_37 (v := 1) (by decide) ?_
    refine xm_iadd dX11_type_38 ?_
    refine xb_putI (a := l0) (c := 11) (k := 1) dX11_type_39 xcl11 (by decide) xw_584 rfl rfl hf (fun σ8 eσ8 hf => ?_)
    refine xm_aload_n dX11_type_42 rfl ?_
    refine xb_getI (a := l0) (c := 11) (k := 1) dX11_type_43 xcl11 (by decide) xw_584 rfl hf (fun x9 ex9 hf => ?_)
    cases hf
    exact xm_iret dX11_type_46 rfl (hR _ rfl)
  · cases hf
    exact xb_throwS (text := "60 characters are typed") dX11_type_12 dX11_type_15 dX11_type_16 dX11_type_18 dX11_type_21 xt_X11_108_112 (by decide) (by omega) (Nat.le_of_ble_eq_true rfl) (hR _ rfl).1 (hR _ rfl).2
-- Rankwise.drop()I
def f_X11_drop (σ : xM) (l0 : Nat) : Option (Int32 × xM) :=
  (gI σ l0 11 1).bind (fun x1 => (sI σ l0 11 1 (0 : Int32)).bind (fun σ2 => some (x1, σ2)))
set_option maxHeartbeats 4000000 in
set_option maxRecDepth 20000 in
theorem m_X11_drop {G : xG} {π : Nat → Nat} {d C Z : Nat} {Q : xQ} {σ : xM} {l0 : Nat} {x : (Int32 × xM)} (hf : f_X11_drop σ l0 = some x) (hR : ∀ g, x = g → Q (.inl (some (.int g.1))) (g.2) π) : xMach G π J_X11_drop (d + 0) C Z 0 (lv_args 0 [.ref l0]) [] σ Q := by
  unfold f_X11_drop at hf
  refine xm_stL (L' := [(0, .ref l0)]) rfl ?_
  refine xm_aload_n dX11_drop_0 rfl ?_
  refine xb_getI (a := l0) (c := 11) (k := 1) dX11_drop_1 xcl11 (by decide) xw_584 rfl hf (fun x1 ex1 hf => ?_)
  refine xm_istore_n dX11_drop_4 (by decide) (xm_stL (L' := [(1, .int x1), (0, .ref l0)]) rfl ?_)
  refine xm_aload_n dX11_drop_5 rfl ?_
  refine xm_iconst dX11_drop_6 (v := 0) (by decide) ?_
  refine xb_putI (a := l0) (c := 11) (k := 1) dX11_drop_7 xcl11 (by decide) xw_584 rfl rfl hf (fun σ2 eσ2 hf => ?_)
  refine xm_iload_n dX11_drop_10 rfl ?_
  cases hf
  exact xm_iret dX11_drop_11 rfl (hR _ rfl)
-- Rankwise.fault()I
def f_X11_fault (σ : xM) (l0 : Nat) : Option (Int32 × xM) :=
  (gR σ l0 11 3).bind (fun x1 => (gR σ l0 11 0).bind (fun x2 => (gI σ l0 11 1).bind (fun x3 => (if xk σ x1 6 = true then (f_X6_split σ x1 x2 x3).bind (fun p4 => (gR p4 l0 11 3).bind (fun x5 => (if xk p4 x5 6 = true then (f_X6_byStacks p4 x5).bind (fun p6 => some (p6.1, p6.2)) else none))) else none))))
set_option maxHeartbeats 4000000 in
set_option maxRecDepth 20000 in
theorem m_X11_fault {G : xG} {π : Nat → Nat} {d C Z : Nat} {Q : xQ} {σ : xM} {l0 : Nat} {x : (Int32 × xM)} (hf : f_X11_fault σ l0 = some x) (hR : ∀ g, x = g → Q (.inl (some (.int g.1))) (g.2) π) : xMach G π J_X11_fault (d + 4) C Z 0 (lv_args 0 [.ref l0]) [] σ Q := by
  unfold f_X11_fault at hf
  refine xm_stL (L' := [(0, .ref l0)]) rfl ?_
  refine xm_aload_n dX11_fault_0 rfl ?_
  refine xb_getR (a := l0) (c := 11) (k := 3) dX11_fault_1 xcl11 (by decide) xw_586 rfl hf (fun x1 ex1 hf => ?_)
  refine xm_aload_n dX11_fault_4 rfl ?_
  refine xb_getR (a := l0) (c := 11) (k := 0) dX11_fault_5 xcl11 (by decide) xw_583 rfl hf (fun x2 ex2 hf => ?_)
  refine xm_aload_n dX11_fault_8 rfl ?_
  refine xb_getI (a := l0) (c := 11) (k := 1) dX11_fault_9 xcl11 (by decide) xw_584 rfl hf (fun x3 ex3 hf => ?_)
  refine xb_if hf (fun hb hf => ?_) (fun _ q => nomatch q)
  obtain ⟨p4, ep4, hf⟩ := xbind hf
  refine xb_callV (As := [.ref x2, .int x3]) (v0 := none) (τ0 := p4) dX11_fault_12 (xc_X6_split _ _) xcl6 xw_711 xw_712 xw_713 hb rfl (Nat.le_of_ble_eq_true rfl) rfl (Nat.le_of_ble_eq_true rfl) (fun Q1 hq => m_X6_split (d := d + 0) ep4 (fun g hg => by subst hg; exact hq)) ?_
  refine xm_aload_n dX11_fault_15 rfl ?_
  refine xb_getR (a := l0) (c := 11) (k := 3) dX11_fault_16 xcl11 (by decide) xw_586 rfl hf (fun x5 ex5 hf => ?_)
  refine xb_if hf (fun hb hf => ?_) (fun _ q => nomatch q)
  obtain ⟨p6, ep6, hf⟩ := xbind hf
  refine xb_callV (As := []) (v0 := (some (.int p6.1))) (τ0 := p6.2) dX11_fault_19 (xc_X6_byStacks _ _) xcl6 xw_739 xw_740 xw_741 hb rfl (Nat.le_of_ble_eq_true rfl) rfl (Nat.le_of_ble_eq_true rfl) (fun Q1 hq => m_X6_byStacks (d := d + 0) ep6 (fun g hg => by subst hg; exact hq)) ?_
  cases hf
  exact xm_iret dX11_fault_22 rfl (hR _ rfl)
-- Rankwise.needRoom()V
def f_X11_needRoom (σ : xM) (l0 : Nat) : Option (Unit ⊕ String) :=
  (gR σ l0 11 2).bind (fun x1 => (gI σ x1 1 5).bind (fun x2 => (gR σ l0 11 2).bind (fun x3 => (gR σ x3 1 4).bind (fun x4 => (gL σ x4 17).bind (fun x5 => (if x2 < x5 then some (Sum.inl ()) else some (Sum.inr "java/lang/IllegalStateException")))))))
set_option maxHeartbeats 4000000 in
set_option maxRecDepth 20000 in
theorem m_X11_needRoom {G : xG} {π : Nat → Nat} {d C Z : Nat} {Q : xQ} {σ : xM} {l0 : Nat} {x : (Unit ⊕ String)} (hf : f_X11_needRoom σ l0 = some x) (hR : ∀ g, x = g → Sum.elim (fun v => Q (.inl none) (σ) π) (fun E => (1 ≤ C ∧ 6 ≤ Z) ∧ Q (.inr E) (σ) π) (g)) : xMach G π J_X11_needRoom (d + 7) C Z 0 (lv_args 0 [.ref l0]) [] σ Q := by
  unfold f_X11_needRoom at hf
  refine xm_stL (L' := [(0, .ref l0)]) rfl ?_
  refine xm_aload_n dX11_needRoom_0 rfl ?_
  refine xb_getR (a := l0) (c := 11) (k := 2) dX11_needRoom_1 xcl11 (by decide) xw_585 rfl hf (fun x1 ex1 hf => ?_)
  refine xb_getI (a := x1) (c := 1) (k := 5) dX11_needRoom_4 xcl1 (by decide) xw_275 rfl hf (fun x2 ex2 hf => ?_)
  refine xm_aload_n dX11_needRoom_7 rfl ?_
  refine xb_getR (a := l0) (c := 11) (k := 2) dX11_needRoom_8 xcl11 (by decide) xw_585 rfl hf (fun x3 ex3 hf => ?_)
  refine xb_getR (a := x3) (c := 1) (k := 4) dX11_needRoom_11 xcl1 (by decide) xw_274 rfl hf (fun x4 ex4 hf => ?_)
  refine xb_alen dX11_needRoom_14 (by decide) (by decide) hf (fun x5 ex5 hf => ?_)
  refine xb_icmp_lt 29 dX11_needRoom_15 (by decide) hf (fun c hf => ?_) (fun c hf => ?_)
  · cases hf
    exact xm_vret dX11_needRoom_29 rfl (hR _ rfl)
  · cases hf
    exact xb_throwSW (text := "the shelf is full") dX11_needRoom_18 dX11_needRoom_21 dX11_needRoom_22 dX11_needRoom_25 dX11_needRoom_28 xt_X11_108_112 (by decide) (by omega) (Nat.le_of_ble_eq_true rfl) (hR _ rfl).1 (hR _ rfl).2
-- Rankwise.read()I
def f_X11_read (σ : xM) (l0 : Nat) : Option ((Int32 ⊕ String) × xM) :=
  (gR σ l0 11 3).bind (fun x1 => (gR σ l0 11 0).bind (fun x2 => (gI σ l0 11 1).bind (fun x3 => (if xk σ x1 6 = true then (f_X6_split σ x1 x2 x3).bind (fun p4 => (gR p4 l0 11 3).bind (fun x5 => (if xk p4 x5 6 = true then (f_X6_byStacks p4 x5).bind (fun p6 => (if p6.1 = (-1 : Int32) then (if xk p6.2 l0 11 = true then (f_X11_needRoom p6.2 l0).bind (fun p7 => Sum.elim (fun w8 => (sI p6.2 l0 11 1 (0 : Int32)).bind (fun σ9 => (gR σ9 l0 11 12).bind (fun x10 => (gR σ9 l0 11 3).bind (fun x11 => (gR σ9 x11 6 17).bind (fun x12 => (if xk σ9 x10 9 = true then (f_X9_turn σ9 x10 x12).bind (fun p13 => (gR p13 l0 11 2).bind (fun x14 => (gR p13 l0 11 12).bind (fun x15 => (if xk p13 x14 1 = true then (f_X1_shelve p13 x14 x15).bind (fun p16 => some ((Sum.inl p16.1), p16.2)) else none)))) else none)))))) (fun E => some ((Sum.inr E), p6.2)) p7) else none) else some ((Sum.inr "java/lang/IllegalStateException"), p6.2))) else none))) else none))))
set_option maxHeartbeats 4000000 in
set_option maxRecDepth 20000 in
theorem m_X11_read {G : xG} {π : Nat → Nat} {d C Z : Nat} {Q : xQ} {σ : xM} {l0 : Nat} {x : ((Int32 ⊕ String) × xM)} (hf : f_X11_read σ l0 = some x) (hR : ∀ g, x = g → Sum.elim (fun v => Q (.inl (some (.int v))) (g.2) π) (fun E => (1 ≤ C ∧ 6 ≤ Z) ∧ Q (.inr E) (g.2) π) (g.1)) : xMach G π J_X11_read (d + 8) C Z 0 (lv_args 0 [.ref l0]) [] σ Q := by
  unfold f_X11_read at hf
  refine xm_stL (L' := [(0, .ref l0)]) rfl ?_
  refine xm_aload_n dX11_read_0 rfl ?_
  refine xb_getR (a := l0) (c := 11) (k := 3) dX11_read_1 xcl11 (by decide) xw_586 rfl hf (fun x1 ex1 hf => ?_)
  refine xm_aload_n dX11_read_4 rfl ?_
  refine xb_getR (a := l0) (c := 11) (k := 0) dX11_read_5 xcl11 (by decide) xw_583 rfl hf (fun x2 ex2 hf => ?_)
  refine xm_aload_n dX11_read_8 rfl ?_
  refine xb_getI (a := l0) (c := 11) (k := 1) dX11_read_9 xcl11 (by decide) xw_584 rfl hf (fun x3 ex3 hf => ?_)
  refine xb_if hf (fun hb hf => ?_) (fun _ q => nomatch q)
  obtain ⟨p4, ep4, hf⟩ := xbind hf
  refine xb_callV (As := [.ref x2, .int x3]) (v0 := none) (τ0 := p4) dX11_read_12 (xc_X6_split _ _) xcl6 xw_711 xw_712 xw_713 hb rfl (Nat.le_of_ble_eq_true rfl) rfl (Nat.le_of_ble_eq_true rfl) (fun Q1 hq => m_X6_split (d := d + 4) ep4 (fun g hg => by subst hg; exact hq)) ?_
  refine xm_aload_n dX11_read_15 rfl ?_
  refine xb_getR (a := l0) (c := 11) (k := 3) dX11_read_16 xcl11 (by decide) xw_586 rfl hf (fun x5 ex5 hf => ?_)
  refine xb_if hf (fun hb hf => ?_) (fun _ q => nomatch q)
  obtain ⟨p6, ep6, hf⟩ := xbind hf
  refine xb_callV (As := []) (v0 := (some (.int p6.1))) (τ0 := p6.2) dX11_read_19 (xc_X6_byStacks _ _) xcl6 xw_739 xw_740 xw_741 hb rfl (Nat.le_of_ble_eq_true rfl) rfl (Nat.le_of_ble_eq_true rfl) (fun Q1 hq => m_X6_byStacks (d := d + 4) ep6 (fun g hg => by subst hg; exact hq)) ?_
  refine xm_iconst dX11_read_22 (v := -1) (by decide) ?_
  refine xb_icmp_eq 36 dX11_read_23 (by decide) hf (fun c hf => ?_) (fun c hf => ?_)
  · refine xm_aload_n dX11_read_36 rfl ?_
    refine xb_if hf (fun hb hf => ?_) (fun _ q => nomatch q)
    obtain ⟨p7, ep7, hf⟩ := xbind hf
    rcases p7 with w8 | E
    · have hf : (sI p6.2 l0 11 1 (0 : Int32)).bind (fun σ9 => (gR σ9 l0 11 12).bind (fun x10 => (gR σ9 l0 11 3).bind (fun x11 => (gR σ9 x11 6 17).bind (fun x12 => (if xk σ9 x10 9 = true then (f_X9_turn σ9 x10 x12).bind (fun p13 => (gR p13 l0 11 2).bind (fun x14 => (gR p13 l0 11 12).bind (fun x15 => (if xk p13 x14 1 = true then (f_X1_shelve p13 x14 x15).bind (fun p16 => some ((Sum.inl p16.1), p16.2)) else none)))) else none))))) = some _ := hf
      refine xb_callV (As := []) (v0 := none) (τ0 := p6.2) dX11_read_37 (xc_X11_needRoom _ _) xcl11 xw_801 xw_803 xs_14 hb rfl (Nat.le_of_ble_eq_true rfl) rfl (Nat.le_of_ble_eq_true rfl) (fun Q1 hq => m_X11_needRoom (d := d + 0) ep7 (fun g hg => by subst hg; exact hq)) ?_
      refine xm_aload_n dX11_read_40 rfl ?_
      refine xm_iconst dX11_read_41 (v := 0) (by decide) ?_
      refine xb_putI (a := l0) (c := 11) (k := 1) dX11_read_42 xcl11 (by decide) xw_584 rfl rfl hf (fun σ9 eσ9 hf => ?_)
      refine xm_aload_n dX11_read_45 rfl ?_
      refine xb_getR (a := l0) (c := 11) (k := 12) dX11_read_46 xcl11 (by decide) xw_595 rfl hf (fun x10 ex10 hf => ?_)
      refine xm_aload_n dX11_read_49 rfl ?_
      refine xb_getR (a := l0) (c := 11) (k := 3) dX11_read_50 xcl11 (by decide) xw_586 rfl hf (fun x11 ex11 hf => ?_)
      refine xb_getR (a := x11) (c := 6) (k := 17) dX11_read_53 xcl6 (by decide) xw_351 rfl hf (fun x12 ex12 hf => ?_)
      refine xb_if hf (fun hb hf => ?_) (fun _ q => nomatch q)
      obtain ⟨p13, ep13, hf⟩ := xbind hf
      refine xb_callV (As := [.ref x12]) (v0 := none) (τ0 := p13) dX11_read_56 (xc_X9_turn _ _) xcl9 xw_806 xw_807 xw_808 hb rfl (Nat.le_of_ble_eq_true rfl) rfl (Nat.le_of_ble_eq_true rfl) (fun Q1 hq => m_X9_turn (d := d + 6) ep13 (fun g hg => by subst hg; exact hq)) ?_
      refine xm_aload_n dX11_read_59 rfl ?_
      refine xb_getR (a := l0) (c := 11) (k := 2) dX11_read_60 xcl11 (by decide) xw_585 rfl hf (fun x14 ex14 hf => ?_)
      refine xm_aload_n dX11_read_63 rfl ?_
      refine xb_getR (a := l0) (c := 11) (k := 12) dX11_read_64 xcl11 (by decide) xw_595 rfl hf (fun x15 ex15 hf => ?_)
      refine xb_if hf (fun hb hf => ?_) (fun _ q => nomatch q)
      obtain ⟨p16, ep16, hf⟩ := xbind hf
      refine xb_callV (As := [.ref x15]) (v0 := (some (.int p16.1))) (τ0 := p16.2) dX11_read_67 (xc_X1_shelve _ _) xcl1 xw_819 xw_820 xw_821 hb rfl (Nat.le_of_ble_eq_true rfl) rfl (Nat.le_of_ble_eq_true rfl) (fun Q1 hq => m_X1_shelve (d := d + 3) ep16 (fun g hg => by subst hg; exact hq)) ?_
      cases hf
      exact xm_iret dX11_read_70 rfl (hR _ rfl)
    · have hf : some ((Sum.inr E), p6.2) = some _ := hf
      cases hf
      exact xb_callVX (As := []) (τ0 := p6.2) dX11_read_37 (xc_X11_needRoom _ _) xcl11 xw_801 xw_803 xs_14 hb rfl (Nat.le_of_ble_eq_true rfl) rfl (Nat.le_of_ble_eq_true rfl) (fun Q1 hq => m_X11_needRoom (d := d + 0) ep7 (fun g hg => by subst hg; exact ⟨⟨Nat.le_refl _, Nat.le_refl _⟩, hq⟩)) (hR _ rfl).1 (hR _ rfl).2
  · cases hf
    exact xb_throwS (text := "what is typed is no text") dX11_read_26 dX11_read_29 dX11_read_30 dX11_read_32 dX11_read_35 xt_X11_108_112 (by decide) (by omega) (Nat.le_of_ble_eq_true rfl) (hR _ rfl).1 (hR _ rfl).2
-- Rankwise.trees()I
def f_X11_trees (σ : xM) (l0 : Nat) : Option Int32 :=
  (gR σ l0 11 2).bind (fun x1 => (gI σ x1 1 5).bind (fun x2 => some x2))
set_option maxHeartbeats 4000000 in
set_option maxRecDepth 20000 in
theorem m_X11_trees {G : xG} {π : Nat → Nat} {d C Z : Nat} {Q : xQ} {σ : xM} {l0 : Nat} {x : Int32} (hf : f_X11_trees σ l0 = some x) (hR : ∀ g, x = g → Q (.inl (some (.int g))) (σ) π) : xMach G π J_X11_trees (d + 0) C Z 0 (lv_args 0 [.ref l0]) [] σ Q := by
  unfold f_X11_trees at hf
  refine xm_stL (L' := [(0, .ref l0)]) rfl ?_
  refine xm_aload_n dX11_trees_0 rfl ?_
  refine xb_getR (a := l0) (c := 11) (k := 2) dX11_trees_1 xcl11 (by decide) xw_585 rfl hf (fun x1 ex1 hf => ?_)
  refine xb_getI (a := x1) (c := 1) (k := 5) dX11_trees_4 xcl1 (by decide) xw_275 rfl hf (fun x2 ex2 hf => ?_)
  cases hf
  exact xm_iret dX11_trees_7 rfl (hR _ rfl)
-- Rankwise.treeAt(I)LRankwise$Tree;
def f_X11_treeAt_j27 (σ : xM)  : Option (Nat ⊕ String) :=
  some (Sum.inr "java/lang/IndexOutOfBoundsException")
set_option maxHeartbeats 4000000 in
set_option maxRecDepth 20000 in
theorem L_X11_treeAt_j27 {G : xG} {π : Nat → Nat} {d C Z : Nat} {Q : xQ} (σ : xM)  {x : (Nat ⊕ String)} (hf : f_X11_treeAt_j27 σ = some x) (hR : ∀ g, x = g → Sum.elim (fun v => Q (.inl (some (.ref v))) (σ) π) (fun E => (1 ≤ C ∧ 6 ≤ Z) ∧ Q (.inr E) (σ) π) (g)) : xMach G π J_X11_treeAt (d + 7) C Z 27 [] [] σ Q := by
  unfold f_X11_treeAt_j27 at hf
  cases hf
  exact xb_throwSW (text := "there is no such tree") dX11_treeAt_27 dX11_treeAt_30 dX11_treeAt_31 dX11_treeAt_34 dX11_treeAt_37 xt_X11_243_247 (by decide) (by omega) (Nat.le_of_ble_eq_true rfl) (hR _ rfl).1 (hR _ rfl).2
def f_X11_treeAt (σ : xM) (l0 : Nat) (l1 : Int32) : Option (Nat ⊕ String) :=
  (if l1 < (0 : Int32) then f_X11_treeAt_j27 σ else (gR σ l0 11 2).bind (fun x1 => (gI σ x1 1 5).bind (fun x2 => (if x2 ≤ l1 then f_X11_treeAt_j27 σ else (gR σ l0 11 2).bind (fun x3 => (gR σ x3 1 4).bind (fun x4 => (gL σ x4 17).bind (fun x5 => (if l1 < x5 then (gR σ l0 11 2).bind (fun x6 => (gR σ x6 1 4).bind (fun x7 => ((aR σ x7 17 l1).bind id).bind (fun x8 => some (Sum.inl x8)))) else f_X11_treeAt_j27 σ))))))))
set_option maxHeartbeats 4000000 in
set_option maxRecDepth 20000 in
theorem m_X11_treeAt {G : xG} {π : Nat → Nat} {d C Z : Nat} {Q : xQ} {σ : xM} {l0 : Nat} {l1 : Int32} {x : (Nat ⊕ String)} (hf : f_X11_treeAt σ l0 l1 = some x) (hR : ∀ g, x = g → Sum.elim (fun v => Q (.inl (some (.ref v))) (σ) π) (fun E => (1 ≤ C ∧ 6 ≤ Z) ∧ Q (.inr E) (σ) π) (g)) : xMach G π J_X11_treeAt (d + 7) C Z 0 (lv_args 0 [.ref l0, .int l1]) [] σ Q := by
  unfold f_X11_treeAt at hf
  refine xm_stL (L' := [(0, .ref l0), (1, .int l1)]) rfl ?_
  refine xm_iload_n dX11_treeAt_0 rfl ?_
  refine xb_if_lt 27 dX11_treeAt_1 (by decide) hf (fun c hf => ?_) (fun c hf => ?_)
  · exact xm_sub [] rfl (L_X11_treeAt_j27 σ hf hR)
  · refine xm_iload_n dX11_treeAt_4 rfl ?_
    refine xm_aload_n dX11_treeAt_5 rfl ?_
    refine xb_getR (a := l0) (c := 11) (k := 2) dX11_treeAt_6 xcl11 (by decide) xw_585 rfl hf (fun x1 ex1 hf => ?_)
    refine xb_getI (a := x1) (c := 1) (k := 5) dX11_treeAt_9 xcl1 (by decide) xw_275 rfl hf (fun x2 ex2 hf => ?_)
    refine xb_icmp_ge 27 dX11_treeAt_12 (by decide) hf (fun c hf => ?_) (fun c hf => ?_)
    · exact xm_sub [] rfl (L_X11_treeAt_j27 σ hf hR)
    · refine xm_iload_n dX11_treeAt_15 rfl ?_
      refine xm_aload_n dX11_treeAt_16 rfl ?_
      refine xb_getR (a := l0) (c := 11) (k := 2) dX11_treeAt_17 xcl11 (by decide) xw_585 rfl hf (fun x3 ex3 hf => ?_)
      refine xb_getR (a := x3) (c := 1) (k := 4) dX11_treeAt_20 xcl1 (by decide) xw_274 rfl hf (fun x4 ex4 hf => ?_)
      refine xb_alen dX11_treeAt_23 (by decide) (by decide) hf (fun x5 ex5 hf => ?_)
      refine xb_icmp_lt 38 dX11_treeAt_24 (by decide) hf (fun c hf => ?_) (fun c hf => ?_)
      · refine xm_aload_n dX11_treeAt_38 rfl ?_
        refine xb_getR (a := l0) (c := 11) (k := 2) dX11_treeAt_39 xcl11 (by decide) xw_585 rfl hf (fun x6 ex6 hf => ?_)
        refine xb_getR (a := x6) (c := 1) (k := 4) dX11_treeAt_42 xcl1 (by decide) xw_274 rfl hf (fun x7 ex7 hf => ?_)
        refine xm_iload_n dX11_treeAt_45 rfl ?_
        refine xb_aaldS dX11_treeAt_46 (by decide) hf (fun x8 ex8 hf => ?_)
        cases hf
        exact xm_aret dX11_treeAt_47 rfl (Or.inl ⟨_, rfl⟩) (Or.inr ⟨_, rfl⟩) (hR _ rfl)
      · exact xm_sub [] rfl (L_X11_treeAt_j27 σ hf hR)
-- Rankwise.needNode(LRankwise$Tree;I)V
def f_X11_needNode_j12 (σ : xM)  : Option (Unit ⊕ String) :=
  some (Sum.inr "java/lang/IndexOutOfBoundsException")
set_option maxHeartbeats 4000000 in
set_option maxRecDepth 20000 in
theorem L_X11_needNode_j12 {G : xG} {π : Nat → Nat} {d C Z : Nat} {Q : xQ} (σ : xM)  {x : (Unit ⊕ String)} (hf : f_X11_needNode_j12 σ = some x) (hR : ∀ g, x = g → Sum.elim (fun v => Q (.inl none) (σ) π) (fun E => (1 ≤ C ∧ 6 ≤ Z) ∧ Q (.inr E) (σ) π) (g)) : xMach G π J_X11_needNode (d + 7) C Z 12 [] [] σ Q := by
  unfold f_X11_needNode_j12 at hf
  cases hf
  exact xb_throwSW (text := "there is no such node") dX11_needNode_12 dX11_needNode_15 dX11_needNode_16 dX11_needNode_19 dX11_needNode_22 xt_X11_243_247 (by decide) (by omega) (Nat.le_of_ble_eq_true rfl) (hR _ rfl).1 (hR _ rfl).2
def f_X11_needNode (σ : xM) (l0 : Nat) (l1 : Nat) (l2 : Int32) : Option (Unit ⊕ String) :=
  (if l2 < (0 : Int32) then f_X11_needNode_j12 σ else (gI σ l1 9 7).bind (fun x1 => (if l2 < x1 then some (Sum.inl ()) else f_X11_needNode_j12 σ)))
set_option maxHeartbeats 4000000 in
set_option maxRecDepth 20000 in
theorem m_X11_needNode {G : xG} {π : Nat → Nat} {d C Z : Nat} {Q : xQ} {σ : xM} {l0 : Nat} {l1 : Nat} {l2 : Int32} {x : (Unit ⊕ String)} (hf : f_X11_needNode σ l0 l1 l2 = some x) (hR : ∀ g, x = g → Sum.elim (fun v => Q (.inl none) (σ) π) (fun E => (1 ≤ C ∧ 6 ≤ Z) ∧ Q (.inr E) (σ) π) (g)) : xMach G π J_X11_needNode (d + 7) C Z 0 (lv_args 0 [.ref l0, .ref l1, .int l2]) [] σ Q := by
  unfold f_X11_needNode at hf
  refine xm_stL (L' := [(0, .ref l0), (1, .ref l1), (2, .int l2)]) rfl ?_
  refine xm_iload_n dX11_needNode_0 rfl ?_
  refine xb_if_lt 12 dX11_needNode_1 (by decide) hf (fun c hf => ?_) (fun c hf => ?_)
  · exact xm_sub [] rfl (L_X11_needNode_j12 σ hf hR)
  · refine xm_iload_n dX11_needNode_4 rfl ?_
    refine xm_aload_n dX11_needNode_5 rfl ?_
    refine xb_getI (a := l1) (c := 9) (k := 7) dX11_needNode_6 xcl9 (by decide) xw_223 rfl hf (fun x1 ex1 hf => ?_)
    refine xb_icmp_lt 23 dX11_needNode_9 (by decide) hf (fun c hf => ?_) (fun c hf => ?_)
    · cases hf
      exact xm_vret dX11_needNode_23 rfl (hR _ rfl)
    · exact xm_sub [] rfl (L_X11_needNode_j12 σ hf hR)
-- Rankwise.node(III)I
def f_X11_node (σ : xM) (l0 : Nat) (l1 : Int32) (l2 : Int32) (l3 : Int32) : Option (Int32 ⊕ String) :=
  (if xk σ l0 11 = true then (f_X11_treeAt σ l0 l1).bind (fun p1 => Sum.elim (fun w2 => (if xk σ l0 11 = true then (f_X11_needNode σ l0 w2 l2).bind (fun p3 => Sum.elim (fun w4 => (if l3 = (0 : Int32) then (gR σ w2 9 0).bind (fun x5 => (aI σ x5 14 l2).bind (fun x6 => some (Sum.inl x6))) else (if l3 = (1 : Int32) then (gR σ w2 9 1).bind (fun x7 => (aI σ x7 14 l2).bind (fun x8 => some (Sum.inl x8))) else (if l3 = (2 : Int32) then (gR σ w2 9 2).bind (fun x9 => (aI σ x9 14 l2).bind (fun x10 => some (Sum.inl x10))) else (if l3 = (3 : Int32) then (gR σ w2 9 3).bind (fun x11 => (aI σ x11 14 l2).bind (fun x12 => some (Sum.inl x12))) else (if l3 = (4 : Int32) then (if xk σ w2 9 = true then (f_X9_parentOf σ w2 l2).bind (fun p13 => some (Sum.inl p13)) else none) else (if l3 = (5 : Int32) then (gR σ w2 9 4).bind (fun x14 => (aI σ x14 14 l2).bind (fun x15 => some (Sum.inl x15))) else some (Sum.inr "java/lang/IllegalArgumentException")))))))) (fun E => some (Sum.inr E)) p3) else none)) (fun E => some (Sum.inr E)) p1) else none)
set_option maxHeartbeats 4000000 in
set_option maxRecDepth 20000 in
theorem m_X11_node {G : xG} {π : Nat → Nat} {d C Z : Nat} {Q : xQ} {σ : xM} {l0 : Nat} {l1 : Int32} {l2 : Int32} {l3 : Int32} {x : (Int32 ⊕ String)} (hf : f_X11_node σ l0 l1 l2 l3 = some x) (hR : ∀ g, x = g → Sum.elim (fun v => Q (.inl (some (.int v))) (σ) π) (fun E => (1 ≤ C ∧ 6 ≤ Z) ∧ Q (.inr E) (σ) π) (g)) : xMach G π J_X11_node (d + 8) C Z 0 (lv_args 0 [.ref l0, .int l1, .int l2, .int l3]) [] σ Q := by
  unfold f_X11_node at hf
  refine xm_stL (L' := [(0, .ref l0), (1, .int l1), (2, .int l2), (3, .int l3)]) rfl ?_
  refine xm_aload_n dX11_node_0 rfl ?_
  refine xm_iload_n dX11_node_1 rfl ?_
  refine xb_if hf (fun hb hf => ?_) (fun _ q => nomatch q)
  obtain ⟨p1, ep1, hf⟩ := xbind hf
  rcases p1 with w2 | E
  · have hf : (if xk σ l0 11 = true then (f_X11_needNode σ l0 w2 l2).bind (fun p3 => Sum.elim (fun w4 => (if l3 = (0 : Int32) then (gR σ w2 9 0).bind (fun x5 => (aI σ x5 14 l2).bind (fun x6 => some (Sum.inl x6))) else (if l3 = (1 : Int32) then (gR σ w2 9 1).bind (fun x7 => (aI σ x7 14 l2).bind (fun x8 => some (Sum.inl x8))) else (if l3 = (2 : Int32) then (gR σ w2 9 2).bind (fun x9 => (aI σ x9 14 l2).bind (fun x10 => some (Sum.inl x10))) else (if l3 = (3 : Int32) then (gR σ w2 9 3).bind (fun x11 => (aI σ x11 14 l2).bind (fun x12 => some (Sum.inl x12))) else (if l3 = (4 : Int32) then (if xk σ w2 9 = true then (f_X9_parentOf σ w2 l2).bind (fun p13 => some (Sum.inl p13)) else none) else (if l3 = (5 : Int32) then (gR σ w2 9 4).bind (fun x14 => (aI σ x14 14 l2).bind (fun x15 => some (Sum.inl x15))) else some (Sum.inr "java/lang/IllegalArgumentException")))))))) (fun E => some (Sum.inr E)) p3) else none) = some _ := hf
    refine xb_callV (As := [.int l1]) (v0 := (some (.ref w2))) (τ0 := σ) dX11_node_2 (xc_X11_treeAt _ _) xcl11 xw_907 xw_909 xs_19 hb rfl (Nat.le_of_ble_eq_true rfl) rfl (Nat.le_of_ble_eq_true rfl) (fun Q1 hq => m_X11_treeAt (d := d + 0) ep1 (fun g hg => by subst hg; exact hq)) ?_
    refine xm_astore dX11_node_5 (by decide) (xm_stL (L' := [(4, .ref w2), (0, .ref l0), (1, .int l1), (2, .int l2), (3, .int l3)]) rfl ?_)
    refine xm_aload_n dX11_node_7 rfl ?_
    refine xm_aload dX11_node_8 rfl ?_
    refine xm_iload_n dX11_node_10 rfl ?_
    refine xb_if hf (fun hb hf => ?_) (fun _ q => nomatch q)
    obtain ⟨p3, ep3, hf⟩ := xbind hf
    rcases p3 with w4 | E
    · have hf : (if l3 = (0 : Int32) then (gR σ w2 9 0).bind (fun x5 => (aI σ x5 14 l2).bind (fun x6 => some (Sum.inl x6))) else (if l3 = (1 : Int32) then (gR σ w2 9 1).bind (fun x7 => (aI σ x7 14 l2).bind (fun x8 => some (Sum.inl x8))) else (if l3 = (2 : Int32) then (gR σ w2 9 2).bind (fun x9 => (aI σ x9 14 l2).bind (fun x10 => some (Sum.inl x10))) else (if l3 = (3 : Int32) then (gR σ w2 9 3).bind (fun x11 => (aI σ x11 14 l2).bind (fun x12 => some (Sum.inl x12))) else (if l3 = (4 : Int32) then (if xk σ w2 9 = true then (f_X9_parentOf σ w2 l2).bind (fun p13 => some (Sum.inl p13)) else none) else (if l3 = (5 : Int32) then (gR σ w2 9 4).bind (fun x14 => (aI σ x14 14 l2).bind (fun x15 => some (Sum.inl x15))) else some (Sum.inr "java/lang/IllegalArgumentException"))))))) = some _ := hf
      refine xb_callV (As := [.ref w2, .int l2]) (v0 := none) (τ0 := σ) dX11_node_11 (xc_X11_needNode _ _) xcl11 xw_1253 xw_1255 xs_42 hb rfl (Nat.le_of_ble_eq_true rfl) rfl (Nat.le_of_ble_eq_true rfl) (fun Q1 hq => m_X11_needNode (d := d + 0) ep3 (fun g hg => by subst hg; exact hq)) ?_
      refine xm_iload_n dX11_node_14 rfl ?_
      refine xb_if hf (fun c hf => ?_) (fun n0 hf => ?_)
      · refine xm_tableIn 52 dX11_node_15 (by rw [c]; decide) (by rw [c]; decide) (by rw [c]; rfl) (by decide) ?_
        refine xm_aload dX11_node_52 rfl ?_
        refine xb_getR (a := w2) (c := 9) (k := 0) dX11_node_54 xcl9 (by decide) xw_195 rfl hf (fun x5 ex5 hf => ?_)
        refine xm_iload_n dX11_node_57 rfl ?_
        refine xb_iald dX11_node_58 hf (fun x6 ex6 hf => ?_)
        cases hf
        exact xm_iret dX11_node_59 rfl (hR _ rfl)
      refine xb_if hf (fun c hf => ?_) (fun n1 hf => ?_)
      · refine xm_tableIn 60 dX11_node_15 (by rw [c]; decide) (by rw [c]; decide) (by rw [c]; rfl) (by decide) ?_
        refine xm_aload dX11_node_60 rfl ?_
        refine xb_getR (a := w2) (c := 9) (k := 1) dX11_node_62 xcl9 (by decide) xw_201 rfl hf (fun x7 ex7 hf => ?_)
        refine xm_iload_n dX11_node_65 rfl ?_
        refine xb_iald dX11_node_66 hf (fun x8 ex8 hf => ?_)
        cases hf
        exact xm_iret dX11_node_67 rfl (hR _ rfl)
      refine xb_if hf (fun c hf => ?_) (fun n2 hf => ?_)
      · refine xm_tableIn 68 dX11_node_15 (by rw [c]; decide) (by rw [c]; decide) (by rw [c]; rfl) (by decide) ?_
        refine xm_aload dX11_node_68 rfl ?_
        refine xb_getR (a := w2) (c := 9) (k := 2) dX11_node_70 xcl9 (by decide) xw_206 rfl hf (fun x9 ex9 hf => ?_)
        refine xm_iload_n dX11_node_73 rfl ?_
        refine xb_iald dX11_node_74 hf (fun x10 ex10 hf => ?_)
        cases hf
        exact xm_iret dX11_node_75 rfl (hR _ rfl)
      refine xb_if hf (fun c hf => ?_) (fun n3 hf => ?_)
      · refine xm_tableIn 76 dX11_node_15 (by rw [c]; decide) (by rw [c]; decide) (by rw [c]; rfl) (by decide) ?_
        refine xm_aload dX11_node_76 rfl ?_
        refine xb_getR (a := w2) (c := 9) (k := 3) dX11_node_78 xcl9 (by decide) xw_211 rfl hf (fun x11 ex11 hf => ?_)
        refine xm_iload_n dX11_node_81 rfl ?_
        refine xb_iald dX11_node_82 hf (fun x12 ex12 hf => ?_)
        cases hf
        exact xm_iret dX11_node_83 rfl (hR _ rfl)
      refine xb_if hf (fun c hf => ?_) (fun n4 hf => ?_)
      · refine xm_tableIn 84 dX11_node_15 (by rw [c]; decide) (by rw [c]; decide) (by rw [c]; rfl) (by decide) ?_
        refine xm_aload dX11_node_84 rfl ?_
        refine xm_iload_n dX11_node_86 rfl ?_
        refine xb_if hf (fun hb hf => ?_) (fun _ q => nomatch q)
        obtain ⟨p13, ep13, hf⟩ := xbind hf
        refine xb_callV (As := [.int l2]) (v0 := (some (.int p13))) (τ0 := σ) dX11_node_87 (xc_X9_parentOf _ _) xcl9 xw_1258 xw_1259 xw_1260 hb rfl (Nat.le_of_ble_eq_true rfl) rfl (Nat.le_of_ble_eq_true rfl) (fun Q1 hq => m_X9_parentOf (d := d + 7) ep13 (fun g hg => by subst hg; exact hq)) ?_
        cases hf
        exact xm_iret dX11_node_90 rfl (hR _ rfl)
      refine xb_if hf (fun c hf => ?_) (fun n5 hf => ?_)
      · refine xm_tableIn 91 dX11_node_15 (by rw [c]; decide) (by rw [c]; decide) (by rw [c]; rfl) (by decide) ?_
        refine xm_aload dX11_node_91 rfl ?_
        refine xb_getR (a := w2) (c := 9) (k := 4) dX11_node_93 xcl9 (by decide) xw_215 rfl hf (fun x14 ex14 hf => ?_)
        refine xm_iload_n dX11_node_96 rfl ?_
        refine xb_iald dX11_node_97 hf (fun x15 ex15 hf => ?_)
        cases hf
        exact xm_iret dX11_node_98 rfl (hR _ rfl)
      refine xm_tableOut 99 dX11_node_15 (by have q0 := lv_neT (a := 0) n0 (by decide); have q1 := lv_neT (a := 1) n1 (by decide); have q2 := lv_neT (a := 2) n2 (by decide); have q3 := lv_neT (a := 3) n3 (by decide); have q4 := lv_neT (a := 4) n4 (by decide); have q5 := lv_neT (a := 5) n5 (by decide); omega) (by decide) ?_
      cases hf
      exact xb_throwS (text := "what is not 0 to 5") dX11_node_99 dX11_node_102 dX11_node_103 dX11_node_105 dX11_node_108 xt_X11_169_173 (by decide) (by omega) (Nat.le_of_ble_eq_true rfl) (hR _ rfl).1 (hR _ rfl).2
    · have hf : some (Sum.inr E) = some _ := hf
      cases hf
      exact xb_callVX (As := [.ref w2, .int l2]) (τ0 := σ) dX11_node_11 (xc_X11_needNode _ _) xcl11 xw_1253 xw_1255 xs_42 hb rfl (Nat.le_of_ble_eq_true rfl) rfl (Nat.le_of_ble_eq_true rfl) (fun Q1 hq => m_X11_needNode (d := d + 0) ep3 (fun g hg => by subst hg; exact ⟨⟨Nat.le_refl _, Nat.le_refl _⟩, hq⟩)) (hR _ rfl).1 (hR _ rfl).2
  · have hf : some (Sum.inr E) = some _ := hf
    cases hf
    exact xb_callVX (As := [.int l1]) (τ0 := σ) dX11_node_2 (xc_X11_treeAt _ _) xcl11 xw_907 xw_909 xs_19 hb rfl (Nat.le_of_ble_eq_true rfl) rfl (Nat.le_of_ble_eq_true rfl) (fun Q1 hq => m_X11_treeAt (d := d + 0) ep1 (fun g hg => by subst hg; exact ⟨⟨Nat.le_refl _, Nat.le_refl _⟩, hq⟩)) (hR _ rfl).1 (hR _ rfl).2
-- Rankwise.isSame(II)Z
def f_X11_isSame (σ : xM) (l0 : Nat) (l1 : Int32) (l2 : Int32) : Option (Int32 ⊕ String) :=
  (if xk σ l0 11 = true then (f_X11_treeAt σ l0 l1).bind (fun p1 => Sum.elim (fun w2 => (if xk σ l0 11 = true then (f_X11_treeAt σ l0 l2).bind (fun p3 => Sum.elim (fun w4 => (if xk σ w2 9 = true then (f_X9_sameAs σ w2 w4).bind (fun p5 => (xz p5).bind (fun b6 => some (Sum.inl b6))) else none)) (fun E => some (Sum.inr E)) p3) else none)) (fun E => some (Sum.inr E)) p1) else none)
set_option maxHeartbeats 4000000 in
set_option maxRecDepth 20000 in
theorem m_X11_isSame {G : xG} {π : Nat → Nat} {d C Z : Nat} {Q : xQ} {σ : xM} {l0 : Nat} {l1 : Int32} {l2 : Int32} {x : (Int32 ⊕ String)} (hf : f_X11_isSame σ l0 l1 l2 = some x) (hR : ∀ g, x = g → Sum.elim (fun v => Q (.inl (some (.int v))) (σ) π) (fun E => (1 ≤ C ∧ 6 ≤ Z) ∧ Q (.inr E) (σ) π) (g)) : xMach G π J_X11_isSame (d + 8) C Z 0 (lv_args 0 [.ref l0, .int l1, .int l2]) [] σ Q := by
  unfold f_X11_isSame at hf
  refine xm_stL (L' := [(0, .ref l0), (1, .int l1), (2, .int l2)]) rfl ?_
  refine xm_aload_n dX11_isSame_0 rfl ?_
  refine xm_iload_n dX11_isSame_1 rfl ?_
  refine xb_if hf (fun hb hf => ?_) (fun _ q => nomatch q)
  obtain ⟨p1, ep1, hf⟩ := xbind hf
  rcases p1 with w2 | E
  · have hf : (if xk σ l0 11 = true then (f_X11_treeAt σ l0 l2).bind (fun p3 => Sum.elim (fun w4 => (if xk σ w2 9 = true then (f_X9_sameAs σ w2 w4).bind (fun p5 => (xz p5).bind (fun b6 => some (Sum.inl b6))) else none)) (fun E => some (Sum.inr E)) p3) else none) = some _ := hf
    refine xb_callV (As := [.int l1]) (v0 := (some (.ref w2))) (τ0 := σ) dX11_isSame_2 (xc_X11_treeAt _ _) xcl11 xw_907 xw_909 xs_19 hb rfl (Nat.le_of_ble_eq_true rfl) rfl (Nat.le_of_ble_eq_true rfl) (fun Q1 hq => m_X11_treeAt (d := d + 0) ep1 (fun g hg => by subst hg; exact hq)) ?_
    refine xm_aload_n dX11_isSame_5 rfl ?_
    refine xm_iload_n dX11_isSame_6 rfl ?_
    refine xb_if hf (fun hb hf => ?_) (fun _ q => nomatch q)
    obtain ⟨p3, ep3, hf⟩ := xbind hf
    rcases p3 with w4 | E
    · have hf : (if xk σ w2 9 = true then (f_X9_sameAs σ w2 w4).bind (fun p5 => (xz p5).bind (fun b6 => some (Sum.inl b6))) else none) = some _ := hf
      refine xb_callV (As := [.int l2]) (v0 := (some (.ref w4))) (τ0 := σ) dX11_isSame_7 (xc_X11_treeAt _ _) xcl11 xw_907 xw_909 xs_19 hb rfl (Nat.le_of_ble_eq_true rfl) rfl (Nat.le_of_ble_eq_true rfl) (fun Q1 hq => m_X11_treeAt (d := d + 0) ep3 (fun g hg => by subst hg; exact hq)) ?_
      refine xb_if hf (fun hb hf => ?_) (fun _ q => nomatch q)
      obtain ⟨p5, ep5, hf⟩ := xbind hf
      refine xb_callV (As := [.ref w4]) (v0 := (some (.int p5))) (τ0 := σ) dX11_isSame_10 (xc_X9_sameAs _ _) xcl9 xw_1267 xw_1268 xw_1269 hb rfl (Nat.le_of_ble_eq_true rfl) rfl (Nat.le_of_ble_eq_true rfl) (fun Q1 hq => m_X9_sameAs (d := d + 6) ep5 (fun g hg => by subst hg; exact hq)) ?_
      obtain ⟨b6, eb6, hf⟩ := xbind hf
      obtain ⟨rfl, hz⟩ := xz_of eb6
      cases hf
      exact xm_zret dX11_isSame_13 rfl hz (hR _ rfl)
    · have hf : some (Sum.inr E) = some _ := hf
      cases hf
      exact xb_callVX (As := [.int l2]) (τ0 := σ) dX11_isSame_7 (xc_X11_treeAt _ _) xcl11 xw_907 xw_909 xs_19 hb rfl (Nat.le_of_ble_eq_true rfl) rfl (Nat.le_of_ble_eq_true rfl) (fun Q1 hq => m_X11_treeAt (d := d + 0) ep3 (fun g hg => by subst hg; exact ⟨⟨Nat.le_refl _, Nat.le_refl _⟩, hq⟩)) (hR _ rfl).1 (hR _ rfl).2
  · have hf : some (Sum.inr E) = some _ := hf
    cases hf
    exact xb_callVX (As := [.int l1]) (τ0 := σ) dX11_isSame_2 (xc_X11_treeAt _ _) xcl11 xw_907 xw_909 xs_19 hb rfl (Nat.le_of_ble_eq_true rfl) rfl (Nat.le_of_ble_eq_true rfl) (fun Q1 hq => m_X11_treeAt (d := d + 0) ep1 (fun g hg => by subst hg; exact ⟨⟨Nat.le_refl _, Nat.le_refl _⟩, hq⟩)) (hR _ rfl).1 (hR _ rfl).2
-- Rankwise.tell(CIIII)I
def f_X11_tell_j30 (σ : xM)  : Option ((Int32 ⊕ String) × xM) :=
  some ((Sum.inr "java/lang/IllegalArgumentException"), σ)
set_option maxHeartbeats 4000000 in
set_option maxRecDepth 20000 in
theorem L_X11_tell_j30 {G : xG} {π : Nat → Nat} {d C Z : Nat} {Q : xQ} (σ : xM)  {x : ((Int32 ⊕ String) × xM)} (hf : f_X11_tell_j30 σ = some x) (hR : ∀ g, x = g → Sum.elim (fun v => Q (.inl (some (.int v))) (g.2) π) (fun E => (1 ≤ C ∧ 6 ≤ Z) ∧ Q (.inr E) (g.2) π) (g.1)) : xMach G π J_X11_tell (d + 7) C Z 30 [] [] σ Q := by
  unfold f_X11_tell_j30 at hf
  cases hf
  exact xb_throwS (text := "there is no such operator") dX11_tell_30 dX11_tell_33 dX11_tell_34 dX11_tell_36 dX11_tell_39 xt_X11_169_173 (by decide) (by omega) (Nat.le_of_ble_eq_true rfl) (hR _ rfl).1 (hR _ rfl).2
def f_X11_tell (σ : xM) (l0 : Nat) (l1 : Int32) (l2 : Int32) (l3 : Int32) (l4 : Int32) (l5 : Int32) : Option ((Int32 ⊕ String) × xM) :=
  (gR σ l0 11 2).bind (fun x1 => (if xk σ x1 1 = true then (f_X1_isSign σ x1 l1).bind (fun p2 => (if p2 = (0 : Int32) then f_X11_tell_j30 σ else (f_X1_isFix σ l2).bind (fun p3 => (if p3 = (0 : Int32) then f_X11_tell_j30 σ else (f_X1_isOperator σ l2 l3 l4 l5).bind (fun p4 => (if p4 = (0 : Int32) then f_X11_tell_j30 σ else (gR σ l0 11 2).bind (fun x5 => (if xk σ x5 1 = true then (f_X1_clashes σ x5 l1 l2 l3 l4).bind (fun p6 => (if p6 = (0 : Int32) then (gR σ l0 11 2).bind (fun x7 => (if xk σ x7 1 = true then (f_X1_rank σ x7 l1 l2).bind (fun p8 => (gR σ l0 11 2).bind (fun x9 => (if xk σ x9 1 = true then (f_X1_tellOperator σ x9 l1 l2 l3 l4 l5).bind (fun p10 => some ((Sum.inl p8), p10)) else none))) else none)) else some ((Sum.inr "java/lang/IllegalStateException"), σ))) else none)))))))) else none))
set_option maxHeartbeats 4000000 in
set_option maxRecDepth 20000 in
theorem m_X11_tell {G : xG} {π : Nat → Nat} {d C Z : Nat} {Q : xQ} {σ : xM} {l0 : Nat} {l1 : Int32} {l2 : Int32} {l3 : Int32} {l4 : Int32} {l5 : Int32} {x : ((Int32 ⊕ String) × xM)} (hf : f_X11_tell σ l0 l1 l2 l3 l4 l5 = some x) (hR : ∀ g, x = g → Sum.elim (fun v => Q (.inl (some (.int v))) (g.2) π) (fun E => (1 ≤ C ∧ 6 ≤ Z) ∧ Q (.inr E) (g.2) π) (g.1)) : xMach G π J_X11_tell (d + 7) C Z 0 (lv_args 0 [.ref l0, .int l1, .int l2, .int l3, .int l4, .int l5]) [] σ Q := by
  unfold f_X11_tell at hf
  refine xm_stL (L' := [(0, .ref l0), (1, .int l1), (2, .int l2), (3, .int l3), (4, .int l4), (5, .int l5)]) rfl ?_
  refine xm_aload_n dX11_tell_0 rfl ?_
  refine xb_getR (a := l0) (c := 11) (k := 2) dX11_tell_1 xcl11 (by decide) xw_585 rfl hf (fun x1 ex1 hf => ?_)
  refine xm_iload_n dX11_tell_4 rfl ?_
  refine xb_if hf (fun hb hf => ?_) (fun _ q => nomatch q)
  obtain ⟨p2, ep2, hf⟩ := xbind hf
  refine xb_callV (As := [.int l1]) (v0 := (some (.int p2))) (τ0 := σ) dX11_tell_5 (xc_X1_isSign _ _) xcl1 xw_850 xw_736 xw_737 hb rfl (Nat.le_of_ble_eq_true rfl) rfl (Nat.le_of_ble_eq_true rfl) (fun Q1 hq => m_X1_isSign (d := d + 5) ep2 (fun g hg => by subst hg; exact hq)) ?_
  refine xb_if_eq 30 dX11_tell_8 (by decide) hf (fun c hf => ?_) (fun c hf => ?_)
  · exact xm_sub [] rfl (L_X11_tell_j30 σ hf hR)
  · refine xm_iload_n dX11_tell_11 rfl ?_
    obtain ⟨p3, ep3, hf⟩ := xbind hf
    refine xb_callS (As := [.int l2]) (v0 := (some (.int p3))) (τ0 := σ) dX11_tell_12 (xc_X1_isFix _ _) xw_851 xw_852 rfl (Nat.le_of_ble_eq_true rfl) rfl (Nat.le_of_ble_eq_true rfl) (fun Q1 hq => m_X1_isFix (d := d + 6) ep3 (fun g hg => by subst hg; exact hq)) ?_
    refine xb_if_eq 30 dX11_tell_15 (by decide) hf (fun c hf => ?_) (fun c hf => ?_)
    · exact xm_sub [] rfl (L_X11_tell_j30 σ hf hR)
    · refine xm_iload_n dX11_tell_18 rfl ?_
      refine xm_iload_n dX11_tell_19 rfl ?_
      refine xm_iload dX11_tell_20 rfl ?_
      refine xm_iload dX11_tell_22 rfl ?_
      obtain ⟨p4, ep4, hf⟩ := xbind hf
      refine xb_callS (As := [.int l2, .int l3, .int l4, .int l5]) (v0 := (some (.int p4))) (τ0 := σ) dX11_tell_24 (xc_X1_isOperator _ _) xw_854 xw_855 rfl (Nat.le_of_ble_eq_true rfl) rfl (Nat.le_of_ble_eq_true rfl) (fun Q1 hq => m_X1_isOperator (d := d + 6) ep4 (fun g hg => by subst hg; exact hq)) ?_
      refine xb_if_ne 40 dX11_tell_27 (by decide) hf (fun c hf => ?_) (fun c hf => ?_)
      · refine xm_aload_n dX11_tell_40 rfl ?_
        refine xb_getR (a := l0) (c := 11) (k := 2) dX11_tell_41 xcl11 (by decide) xw_585 rfl hf (fun x5 ex5 hf => ?_)
        refine xm_iload_n dX11_tell_44 rfl ?_
        refine xm_iload_n dX11_tell_45 rfl ?_
        refine xm_iload_n dX11_tell_46 rfl ?_
        refine xm_iload dX11_tell_47 rfl ?_
        refine xb_if hf (fun hb hf => ?_) (fun _ q => nomatch q)
        obtain ⟨p6, ep6, hf⟩ := xbind hf
        refine xb_callV (As := [.int l1, .int l2, .int l3, .int l4]) (v0 := (some (.int p6))) (τ0 := σ) dX11_tell_49 (xc_X1_clashes _ _) xcl1 xw_873 xw_874 xw_875 hb rfl (Nat.le_of_ble_eq_true rfl) rfl (Nat.le_of_ble_eq_true rfl) (fun Q1 hq => m_X1_clashes (d := d + 4) ep6 (fun g hg => by subst hg; exact hq)) ?_
        refine xb_if_eq 65 dX11_tell_52 (by decide) hf (fun c hf => ?_) (fun c hf => ?_)
        · refine xm_aload_n dX11_tell_65 rfl ?_
          refine xb_getR (a := l0) (c := 11) (k := 2) dX11_tell_66 xcl11 (by decide) xw_585 rfl hf (fun x7 ex7 hf => ?_)
          refine xm_iload_n dX11_tell_69 rfl ?_
          refine xm_iload_n dX11_tell_70 rfl ?_
          refine xb_if hf (fun hb hf => ?_) (fun _ q => nomatch q)
          obtain ⟨p8, ep8, hf⟩ := xbind hf
          refine xb_callV (As := [.int l1, .int l2]) (v0 := (some (.int p8))) (τ0 := σ) dX11_tell_71 (xc_X1_rank _ _) xcl1 xw_879 xw_776 xw_777 hb rfl (Nat.le_of_ble_eq_true rfl) rfl (Nat.le_of_ble_eq_true rfl) (fun Q1 hq => m_X1_rank (d := d + 5) ep8 (fun g hg => by subst hg; exact hq)) ?_
          refine xm_istore dX11_tell_74 (by decide) (xm_stL (L' := [(6, .int p8), (0, .ref l0), (1, .int l1), (2, .int l2), (3, .int l3), (4, .int l4), (5, .int l5)]) rfl ?_)
          refine xm_aload_n dX11_tell_76 rfl ?_
          refine xb_getR (a := l0) (c := 11) (k := 2) dX11_tell_77 xcl11 (by decide) xw_585 rfl hf (fun x9 ex9 hf => ?_)
          refine xm_iload_n dX11_tell_80 rfl ?_
          refine xm_iload_n dX11_tell_81 rfl ?_
          refine xm_iload_n dX11_tell_82 rfl ?_
          refine xm_iload dX11_tell_83 rfl ?_
          refine xm_iload dX11_tell_85 rfl ?_
          refine xb_if hf (fun hb hf => ?_) (fun _ q => nomatch q)
          obtain ⟨p10, ep10, hf⟩ := xbind hf
          refine xb_callV (As := [.int l1, .int l2, .int l3, .int l4, .int l5]) (v0 := none) (τ0 := p10) dX11_tell_87 (xc_X1_tellOperator _ _) xcl1 xw_880 xw_881 xw_882 hb rfl (Nat.le_of_ble_eq_true rfl) rfl (Nat.le_of_ble_eq_true rfl) (fun Q1 hq => m_X1_tellOperator (d := d + 5) ep10 (fun g hg => by subst hg; exact hq)) ?_
          refine xm_iload dX11_tell_90 rfl ?_
          cases hf
          exact xm_iret dX11_tell_92 rfl (hR _ rfl)
        · cases hf
          exact xb_throwS (text := "it does not agree with the operators that are told") dX11_tell_55 dX11_tell_58 dX11_tell_59 dX11_tell_61 dX11_tell_64 xt_X11_108_112 (by decide) (by omega) (Nat.le_of_ble_eq_true rfl) (hR _ rfl).1 (hR _ rfl).2
      · exact xm_sub [] rfl (L_X11_tell_j30 σ hf hR)
-- Rankwise.told(CII)I
def f_X11_told_j16 (σ : xM)  : Option (Int32 ⊕ String) :=
  some (Sum.inr "java/lang/IllegalArgumentException")
set_option maxHeartbeats 4000000 in
set_option maxRecDepth 20000 in
theorem L_X11_told_j16 {G : xG} {π : Nat → Nat} {d C Z : Nat} {Q : xQ} (σ : xM)  {x : (Int32 ⊕ String)} (hf : f_X11_told_j16 σ = some x) (hR : ∀ g, x = g → Sum.elim (fun v => Q (.inl (some (.int v))) (σ) π) (fun E => (1 ≤ C ∧ 6 ≤ Z) ∧ Q (.inr E) (σ) π) (g)) : xMach G π J_X11_told (d + 7) C Z 16 [] [] σ Q := by
  unfold f_X11_told_j16 at hf
  cases hf
  exact xb_throwS (text := "no such fix, or what is not 0 to 2") dX11_told_16 dX11_told_19 dX11_told_20 dX11_told_22 dX11_told_25 xt_X11_169_173 (by decide) (by omega) (Nat.le_of_ble_eq_true rfl) (hR _ rfl).1 (hR _ rfl).2
def f_X11_told_j80 (σ : xM) (s0 : Int32) : Option (Int32 ⊕ String) :=
  some (Sum.inl s0)
set_option maxHeartbeats 4000000 in
set_option maxRecDepth 20000 in
theorem L_X11_told_j80 {G : xG} {π : Nat → Nat} {d C Z : Nat} {Q : xQ} (σ : xM) (s0 : Int32) {x : (Int32 ⊕ String)} (hf : f_X11_told_j80 σ s0 = some x) (hR : ∀ g, x = g → Sum.elim (fun v => Q (.inl (some (.int v))) (σ) π) (fun E => (1 ≤ C ∧ 6 ≤ Z) ∧ Q (.inr E) (σ) π) (g)) : xMach G π J_X11_told (d + 7) C Z 80 [] [.int s0] σ Q := by
  unfold f_X11_told_j80 at hf
  cases hf
  exact xm_iret dX11_told_80 rfl (hR _ rfl)
def f_X11_told (σ : xM) (l0 : Nat) (l1 : Int32) (l2 : Int32) (l3 : Int32) : Option (Int32 ⊕ String) :=
  (f_X1_isFix σ l2).bind (fun p1 => (if p1 = (0 : Int32) then f_X11_told_j16 σ else (if l3 < (0 : Int32) then f_X11_told_j16 σ else (if l3 ≤ (2 : Int32) then (gR σ l0 11 2).bind (fun x2 => (if xk σ x2 1 = true then (f_X1_rank σ x2 l1 l2).bind (fun p3 => (if p3 = (0 : Int32) then some (Sum.inl (-1 : Int32)) else (if l3 = (0 : Int32) then (gR σ l0 11 2).bind (fun x8 => (if xk σ x8 1 = true then (f_X1_rank σ x8 l1 l2).bind (fun p9 => some (Sum.inl p9)) else none)) else (if l3 = (1 : Int32) then (gR σ l0 11 2).bind (fun x6 => (if xk σ x6 1 = true then (f_X1_side σ x6 l1 l2).bind (fun p7 => f_X11_told_j80 σ p7) else none)) else (gR σ l0 11 2).bind (fun x4 => (if xk σ x4 1 = true then (f_X1_meaning σ x4 l1 l2).bind (fun p5 => f_X11_told_j80 σ p5) else none)))))) else none)) else f_X11_told_j16 σ))))
set_option maxHeartbeats 4000000 in
set_option maxRecDepth 20000 in
theorem m_X11_told {G : xG} {π : Nat → Nat} {d C Z : Nat} {Q : xQ} {σ : xM} {l0 : Nat} {l1 : Int32} {l2 : Int32} {l3 : Int32} {x : (Int32 ⊕ String)} (hf : f_X11_told σ l0 l1 l2 l3 = some x) (hR : ∀ g, x = g → Sum.elim (fun v => Q (.inl (some (.int v))) (σ) π) (fun E => (1 ≤ C ∧ 6 ≤ Z) ∧ Q (.inr E) (σ) π) (g)) : xMach G π J_X11_told (d + 7) C Z 0 (lv_args 0 [.ref l0, .int l1, .int l2, .int l3]) [] σ Q := by
  unfold f_X11_told at hf
  refine xm_stL (L' := [(0, .ref l0), (1, .int l1), (2, .int l2), (3, .int l3)]) rfl ?_
  refine xm_iload_n dX11_told_0 rfl ?_
  obtain ⟨p1, ep1, hf⟩ := xbind hf
  refine xb_callS (As := [.int l2]) (v0 := (some (.int p1))) (τ0 := σ) dX11_told_1 (xc_X1_isFix _ _) xw_851 xw_852 rfl (Nat.le_of_ble_eq_true rfl) rfl (Nat.le_of_ble_eq_true rfl) (fun Q1 hq => m_X1_isFix (d := d + 6) ep1 (fun g hg => by subst hg; exact hq)) ?_
  refine xb_if_eq 16 dX11_told_4 (by decide) hf (fun c hf => ?_) (fun c hf => ?_)
  · exact xm_sub [] rfl (L_X11_told_j16 σ hf hR)
  · refine xm_iload_n dX11_told_7 rfl ?_
    refine xb_if_lt 16 dX11_told_8 (by decide) hf (fun c hf => ?_) (fun c hf => ?_)
    · exact xm_sub [] rfl (L_X11_told_j16 σ hf hR)
    · refine xm_iload_n dX11_told_11 rfl ?_
      refine xm_iconst dX11_told_12 (v := 2) (by decide) ?_
      refine xb_icmp_le 26 dX11_told_13 (by decide) hf (fun c hf => ?_) (fun c hf => ?_)
      · refine xm_aload_n dX11_told_26 rfl ?_
        refine xb_getR (a := l0) (c := 11) (k := 2) dX11_told_27 xcl11 (by decide) xw_585 rfl hf (fun x2 ex2 hf => ?_)
        refine xm_iload_n dX11_told_30 rfl ?_
        refine xm_iload_n dX11_told_31 rfl ?_
        refine xb_if hf (fun hb hf => ?_) (fun _ q => nomatch q)
        obtain ⟨p3, ep3, hf⟩ := xbind hf
        refine xb_callV (As := [.int l1, .int l2]) (v0 := (some (.int p3))) (τ0 := σ) dX11_told_32 (xc_X1_rank _ _) xcl1 xw_879 xw_776 xw_777 hb rfl (Nat.le_of_ble_eq_true rfl) rfl (Nat.le_of_ble_eq_true rfl) (fun Q1 hq => m_X1_rank (d := d + 5) ep3 (fun g hg => by subst hg; exact hq)) ?_
        refine xb_if_ne 40 dX11_told_35 (by decide) hf (fun c hf => ?_) (fun c hf => ?_)
        · refine xm_iload_n dX11_told_40 rfl ?_
          refine xb_if_ne 54 dX11_told_41 (by decide) hf (fun c hf => ?_) (fun c hf => ?_)
          · refine xm_iload_n dX11_told_54 rfl ?_
            refine xm_iconst dX11_told_55 (v := 1) (by decide) ?_
            refine xb_icmp_ne 71 dX11_told_56 (by decide) hf (fun c hf => ?_) (fun c hf => ?_)
            · refine xm_aload_n dX11_told_71 rfl ?_
              refine xb_getR (a := l0) (c := 11) (k := 2) dX11_told_72 xcl11 (by decide) xw_585 rfl hf (fun x4 ex4 hf => ?_)
              refine xm_iload_n dX11_told_75 rfl ?_
              refine xm_iload_n dX11_told_76 rfl ?_
              refine xb_if hf (fun hb hf => ?_) (fun _ q => nomatch q)
              obtain ⟨p5, ep5, hf⟩ := xbind hf
              refine xb_callV (As := [.int l1, .int l2]) (v0 := (some (.int p5))) (τ0 := σ) dX11_told_77 (xc_X1_meaning _ _) xcl1 xw_890 xw_891 xw_892 hb rfl (Nat.le_of_ble_eq_true rfl) rfl (Nat.le_of_ble_eq_true rfl) (fun Q1 hq => m_X1_meaning (d := d + 5) ep5 (fun g hg => by subst hg; exact hq)) ?_
              exact xm_sub [] rfl (L_X11_told_j80 σ p5 hf hR)
            · refine xm_aload_n dX11_told_59 rfl ?_
              refine xb_getR (a := l0) (c := 11) (k := 2) dX11_told_60 xcl11 (by decide) xw_585 rfl hf (fun x6 ex6 hf => ?_)
              refine xm_iload_n dX11_told_63 rfl ?_
              refine xm_iload_n dX11_told_64 rfl ?_
              refine xb_if hf (fun hb hf => ?_) (fun _ q => nomatch q)
              obtain ⟨p7, ep7, hf⟩ := xbind hf
              refine xb_callV (As := [.int l1, .int l2]) (v0 := (some (.int p7))) (τ0 := σ) dX11_told_65 (xc_X1_side _ _) xcl1 xw_889 xw_789 xw_790 hb rfl (Nat.le_of_ble_eq_true rfl) rfl (Nat.le_of_ble_eq_true rfl) (fun Q1 hq => m_X1_side (d := d + 5) ep7 (fun g hg => by subst hg; exact hq)) ?_
              refine xm_goto 80 dX11_told_68 (by decide) ?_
              exact xm_sub [] rfl (L_X11_told_j80 σ p7 hf hR)
          · refine xm_aload_n dX11_told_44 rfl ?_
            refine xb_getR (a := l0) (c := 11) (k := 2) dX11_told_45 xcl11 (by decide) xw_585 rfl hf (fun x8 ex8 hf => ?_)
            refine xm_iload_n dX11_told_48 rfl ?_
            refine xm_iload_n dX11_told_49 rfl ?_
            refine xb_if hf (fun hb hf => ?_) (fun _ q => nomatch q)
            obtain ⟨p9, ep9, hf⟩ := xbind hf
            refine xb_callV (As := [.int l1, .int l2]) (v0 := (some (.int p9))) (τ0 := σ) dX11_told_50 (xc_X1_rank _ _) xcl1 xw_879 xw_776 xw_777 hb rfl (Nat.le_of_ble_eq_true rfl) rfl (Nat.le_of_ble_eq_true rfl) (fun Q1 hq => m_X1_rank (d := d + 5) ep9 (fun g hg => by subst hg; exact hq)) ?_
            cases hf
            exact xm_iret dX11_told_53 rfl (hR _ rfl)
        · refine xm_iconst dX11_told_38 (v := -1) (by decide) ?_
          cases hf
          exact xm_iret dX11_told_39 rfl (hR _ rfl)
      · exact xm_sub [] rfl (L_X11_told_j16 σ hf hR)
-- Rankwise.print(I)I
def f_X11_print (σ : xM) (l0 : Nat) (l1 : Int32) : Option ((Int32 ⊕ String) × xM) :=
  (gR σ l0 11 4).bind (fun x1 => (if xk σ l0 11 = true then (f_X11_treeAt σ l0 l1).bind (fun p2 => Sum.elim (fun w3 => (if xk σ x1 5 = true then (f_X5_fewest σ x1 w3).bind (fun p4 => (gR p4 l0 11 4).bind (fun x5 => (gI p4 x5 5 3).bind (fun x6 => some ((Sum.inl x6), p4)))) else none)) (fun E => some ((Sum.inr E), σ)) p2) else none))
set_option maxHeartbeats 4000000 in
set_option maxRecDepth 20000 in
theorem m_X11_print {G : xG} {π : Nat → Nat} {d C Z : Nat} {Q : xQ} {σ : xM} {l0 : Nat} {l1 : Int32} {x : ((Int32 ⊕ String) × xM)} (hf : f_X11_print σ l0 l1 = some x) (hR : ∀ g, x = g → Sum.elim (fun v => Q (.inl (some (.int v))) (g.2) π) (fun E => (1 ≤ C ∧ 6 ≤ Z) ∧ Q (.inr E) (g.2) π) (g.1)) : xMach G π J_X11_print (d + 402) C Z 0 (lv_args 0 [.ref l0, .int l1]) [] σ Q := by
  unfold f_X11_print at hf
  refine xm_stL (L' := [(0, .ref l0), (1, .int l1)]) rfl ?_
  refine xm_aload_n dX11_print_0 rfl ?_
  refine xb_getR (a := l0) (c := 11) (k := 4) dX11_print_1 xcl11 (by decide) xw_587 rfl hf (fun x1 ex1 hf => ?_)
  refine xm_aload_n dX11_print_4 rfl ?_
  refine xm_iload_n dX11_print_5 rfl ?_
  refine xb_if hf (fun hb hf => ?_) (fun _ q => nomatch q)
  obtain ⟨p2, ep2, hf⟩ := xbind hf
  rcases p2 with w3 | E
  · have hf : (if xk σ x1 5 = true then (f_X5_fewest σ x1 w3).bind (fun p4 => (gR p4 l0 11 4).bind (fun x5 => (gI p4 x5 5 3).bind (fun x6 => some ((Sum.inl x6), p4)))) else none) = some _ := hf
    refine xb_callV (As := [.int l1]) (v0 := (some (.ref w3))) (τ0 := σ) dX11_print_6 (xc_X11_treeAt _ _) xcl11 xw_907 xw_909 xs_19 hb rfl (Nat.le_of_ble_eq_true rfl) rfl (Nat.le_of_ble_eq_true rfl) (fun Q1 hq => m_X11_treeAt (d := d + 394) ep2 (fun g hg => by subst hg; exact hq)) ?_
    refine xb_if hf (fun hb hf => ?_) (fun _ q => nomatch q)
    obtain ⟨p4, ep4, hf⟩ := xbind hf
    refine xb_callV (As := [.ref w3]) (v0 := none) (τ0 := p4) dX11_print_9 (xc_X5_fewest _ _) xcl5 xw_1280 xw_1281 xw_1282 hb rfl (Nat.le_of_ble_eq_true rfl) rfl (Nat.le_of_ble_eq_true rfl) (fun Q1 hq => m_X5_fewest (d := d + 0) ep4 (fun g hg => by subst hg; exact hq)) ?_
    refine xm_aload_n dX11_print_12 rfl ?_
    refine xb_getR (a := l0) (c := 11) (k := 4) dX11_print_13 xcl11 (by decide) xw_587 rfl hf (fun x5 ex5 hf => ?_)
    refine xb_getI (a := x5) (c := 5) (k := 3) dX11_print_16 xcl5 (by decide) xw_402 rfl hf (fun x6 ex6 hf => ?_)
    cases hf
    exact xm_iret dX11_print_19 rfl (hR _ rfl)
  · have hf : some ((Sum.inr E), σ) = some _ := hf
    cases hf
    exact xb_callVX (As := [.int l1]) (τ0 := σ) dX11_print_6 (xc_X11_treeAt _ _) xcl11 xw_907 xw_909 xs_19 hb rfl (Nat.le_of_ble_eq_true rfl) rfl (Nat.le_of_ble_eq_true rfl) (fun Q1 hq => m_X11_treeAt (d := d + 394) ep2 (fun g hg => by subst hg; exact ⟨⟨Nat.le_refl _, Nat.le_refl _⟩, hq⟩)) (hR _ rfl).1 (hR _ rfl).2
-- Rankwise.needNoLazyCall(LRankwise$Tree;)V
def f_X11_needNoLazyCall (σ : xM) (l0 : Nat) (l1 : Nat) : Option (Unit ⊕ String) :=
  (if xk σ l1 9 = true then (f_X9_hasLazyCall σ l1).bind (fun p1 => (if p1 = (0 : Int32) then some (Sum.inl ()) else some (Sum.inr "java/lang/IllegalStateException"))) else none)
set_option maxHeartbeats 4000000 in
set_option maxRecDepth 20000 in
theorem m_X11_needNoLazyCall {G : xG} {π : Nat → Nat} {d C Z : Nat} {Q : xQ} {σ : xM} {l0 : Nat} {l1 : Nat} {x : (Unit ⊕ String)} (hf : f_X11_needNoLazyCall σ l0 l1 = some x) (hR : ∀ g, x = g → Sum.elim (fun v => Q (.inl none) (σ) π) (fun E => (1 ≤ C ∧ 6 ≤ Z) ∧ Q (.inr E) (σ) π) (g)) : xMach G π J_X11_needNoLazyCall (d + 7) C Z 0 (lv_args 0 [.ref l0, .ref l1]) [] σ Q := by
  unfold f_X11_needNoLazyCall at hf
  refine xm_stL (L' := [(0, .ref l0), (1, .ref l1)]) rfl ?_
  refine xm_aload_n dX11_needNoLazyCall_0 rfl ?_
  refine xb_if hf (fun hb hf => ?_) (fun _ q => nomatch q)
  obtain ⟨p1, ep1, hf⟩ := xbind hf
  refine xb_callV (As := []) (v0 := (some (.int p1))) (τ0 := σ) dX11_needNoLazyCall_1 (xc_X9_hasLazyCall _ _) xcl9 xw_1353 xw_1354 xw_1355 hb rfl (Nat.le_of_ble_eq_true rfl) rfl (Nat.le_of_ble_eq_true rfl) (fun Q1 hq => m_X9_hasLazyCall (d := d + 5) ep1 (fun g hg => by subst hg; exact hq)) ?_
  refine xb_if_eq 18 dX11_needNoLazyCall_4 (by decide) hf (fun c hf => ?_) (fun c hf => ?_)
  · cases hf
    exact xm_vret dX11_needNoLazyCall_18 rfl (hR _ rfl)
  · cases hf
    exact xb_throwSW (text := "it has a call of i or s") dX11_needNoLazyCall_7 dX11_needNoLazyCall_10 dX11_needNoLazyCall_11 dX11_needNoLazyCall_14 dX11_needNoLazyCall_17 xt_X11_108_112 (by decide) (by omega) (Nat.le_of_ble_eq_true rfl) (hR _ rfl).1 (hR _ rfl).2
-- Rankwise.postfix(I)I
def f_X11_postfix (σ : xM) (l0 : Nat) (l1 : Int32) : Option ((Int32 ⊕ String) × xM) :=
  (if xk σ l0 11 = true then (f_X11_treeAt σ l0 l1).bind (fun p1 => Sum.elim (fun w2 => (if xk σ l0 11 = true then (f_X11_needNoLazyCall σ l0 w2).bind (fun p3 => Sum.elim (fun w4 => (gR σ l0 11 4).bind (fun x5 => (if xk σ x5 5 = true then (f_X5_line σ x5 w2).bind (fun p6 => (gR p6 l0 11 4).bind (fun x7 => (gI p6 x7 5 3).bind (fun x8 => some ((Sum.inl x8), p6)))) else none))) (fun E => some ((Sum.inr E), σ)) p3) else none)) (fun E => some ((Sum.inr E), σ)) p1) else none)
set_option maxHeartbeats 4000000 in
set_option maxRecDepth 20000 in
theorem m_X11_postfix {G : xG} {π : Nat → Nat} {d C Z : Nat} {Q : xQ} {σ : xM} {l0 : Nat} {l1 : Int32} {x : ((Int32 ⊕ String) × xM)} (hf : f_X11_postfix σ l0 l1 = some x) (hR : ∀ g, x = g → Sum.elim (fun v => Q (.inl (some (.int v))) (g.2) π) (fun E => (1 ≤ C ∧ 6 ≤ Z) ∧ Q (.inr E) (g.2) π) (g.1)) : xMach G π J_X11_postfix (d + 8) C Z 0 (lv_args 0 [.ref l0, .int l1]) [] σ Q := by
  unfold f_X11_postfix at hf
  refine xm_stL (L' := [(0, .ref l0), (1, .int l1)]) rfl ?_
  refine xm_aload_n dX11_postfix_0 rfl ?_
  refine xm_iload_n dX11_postfix_1 rfl ?_
  refine xb_if hf (fun hb hf => ?_) (fun _ q => nomatch q)
  obtain ⟨p1, ep1, hf⟩ := xbind hf
  rcases p1 with w2 | E
  · have hf : (if xk σ l0 11 = true then (f_X11_needNoLazyCall σ l0 w2).bind (fun p3 => Sum.elim (fun w4 => (gR σ l0 11 4).bind (fun x5 => (if xk σ x5 5 = true then (f_X5_line σ x5 w2).bind (fun p6 => (gR p6 l0 11 4).bind (fun x7 => (gI p6 x7 5 3).bind (fun x8 => some ((Sum.inl x8), p6)))) else none))) (fun E => some ((Sum.inr E), σ)) p3) else none) = some _ := hf
    refine xb_callV (As := [.int l1]) (v0 := (some (.ref w2))) (τ0 := σ) dX11_postfix_2 (xc_X11_treeAt _ _) xcl11 xw_907 xw_909 xs_19 hb rfl (Nat.le_of_ble_eq_true rfl) rfl (Nat.le_of_ble_eq_true rfl) (fun Q1 hq => m_X11_treeAt (d := d + 0) ep1 (fun g hg => by subst hg; exact hq)) ?_
    refine xm_astore_n dX11_postfix_5 (by decide) (xm_stL (L' := [(2, .ref w2), (0, .ref l0), (1, .int l1)]) rfl ?_)
    refine xm_aload_n dX11_postfix_6 rfl ?_
    refine xm_aload_n dX11_postfix_7 rfl ?_
    refine xb_if hf (fun hb hf => ?_) (fun _ q => nomatch q)
    obtain ⟨p3, ep3, hf⟩ := xbind hf
    rcases p3 with w4 | E
    · have hf : (gR σ l0 11 4).bind (fun x5 => (if xk σ x5 5 = true then (f_X5_line σ x5 w2).bind (fun p6 => (gR p6 l0 11 4).bind (fun x7 => (gI p6 x7 5 3).bind (fun x8 => some ((Sum.inl x8), p6)))) else none)) = some _ := hf
      refine xb_callV (As := [.ref w2]) (v0 := none) (τ0 := σ) dX11_postfix_8 (xc_X11_needNoLazyCall _ _) xcl11 xw_1560 xw_1562 xs_69 hb rfl (Nat.le_of_ble_eq_true rfl) rfl (Nat.le_of_ble_eq_true rfl) (fun Q1 hq => m_X11_needNoLazyCall (d := d + 0) ep3 (fun g hg => by subst hg; exact hq)) ?_
      refine xm_aload_n dX11_postfix_11 rfl ?_
      refine xb_getR (a := l0) (c := 11) (k := 4) dX11_postfix_12 xcl11 (by decide) xw_587 rfl hf (fun x5 ex5 hf => ?_)
      refine xm_aload_n dX11_postfix_15 rfl ?_
      refine xb_if hf (fun hb hf => ?_) (fun _ q => nomatch q)
      obtain ⟨p6, ep6, hf⟩ := xbind hf
      refine xb_callV (As := [.ref w2]) (v0 := none) (τ0 := p6) dX11_postfix_16 (xc_X5_line _ _) xcl5 xw_1569 xw_1570 xw_1571 hb rfl (Nat.le_of_ble_eq_true rfl) rfl (Nat.le_of_ble_eq_true rfl) (fun Q1 hq => m_X5_line (d := d + 4) ep6 (fun g hg => by subst hg; exact hq)) ?_
      refine xm_aload_n dX11_postfix_19 rfl ?_
      refine xb_getR (a := l0) (c := 11) (k := 4) dX11_postfix_20 xcl11 (by decide) xw_587 rfl hf (fun x7 ex7 hf => ?_)
      refine xb_getI (a := x7) (c := 5) (k := 3) dX11_postfix_23 xcl5 (by decide) xw_402 rfl hf (fun x8 ex8 hf => ?_)
      cases hf
      exact xm_iret dX11_postfix_26 rfl (hR _ rfl)
    · have hf : some ((Sum.inr E), σ) = some _ := hf
      cases hf
      exact xb_callVX (As := [.ref w2]) (τ0 := σ) dX11_postfix_8 (xc_X11_needNoLazyCall _ _) xcl11 xw_1560 xw_1562 xs_69 hb rfl (Nat.le_of_ble_eq_true rfl) rfl (Nat.le_of_ble_eq_true rfl) (fun Q1 hq => m_X11_needNoLazyCall (d := d + 0) ep3 (fun g hg => by subst hg; exact ⟨⟨Nat.le_refl _, Nat.le_refl _⟩, hq⟩)) (hR _ rfl).1 (hR _ rfl).2
  · have hf : some ((Sum.inr E), σ) = some _ := hf
    cases hf
    exact xb_callVX (As := [.int l1]) (τ0 := σ) dX11_postfix_2 (xc_X11_treeAt _ _) xcl11 xw_907 xw_909 xs_19 hb rfl (Nat.le_of_ble_eq_true rfl) rfl (Nat.le_of_ble_eq_true rfl) (fun Q1 hq => m_X11_treeAt (d := d + 0) ep1 (fun g hg => by subst hg; exact ⟨⟨Nat.le_refl _, Nat.le_refl _⟩, hq⟩)) (hR _ rfl).1 (hR _ rfl).2
-- Rankwise.out(I)I
def f_X11_out_j15 (σ : xM)  : Option (Int32 ⊕ String) :=
  some (Sum.inr "java/lang/IndexOutOfBoundsException")
set_option maxHeartbeats 4000000 in
set_option maxRecDepth 20000 in
theorem L_X11_out_j15 {G : xG} {π : Nat → Nat} {d C Z : Nat} {Q : xQ} (σ : xM)  {x : (Int32 ⊕ String)} (hf : f_X11_out_j15 σ = some x) (hR : ∀ g, x = g → Sum.elim (fun v => Q (.inl (some (.int v))) (σ) π) (fun E => (1 ≤ C ∧ 6 ≤ Z) ∧ Q (.inr E) (σ) π) (g)) : xMach G π J_X11_out (d + 7) C Z 15 [] [] σ Q := by
  unfold f_X11_out_j15 at hf
  cases hf
  exact xb_throwS (text := "no such place is printed") dX11_out_15 dX11_out_18 dX11_out_19 dX11_out_21 dX11_out_24 xt_X11_243_247 (by decide) (by omega) (Nat.le_of_ble_eq_true rfl) (hR _ rfl).1 (hR _ rfl).2
def f_X11_out (σ : xM) (l0 : Nat) (l1 : Int32) : Option (Int32 ⊕ String) :=
  (if l1 < (0 : Int32) then f_X11_out_j15 σ else (gR σ l0 11 4).bind (fun x1 => (gI σ x1 5 3).bind (fun x2 => (if l1 < x2 then (gR σ l0 11 4).bind (fun x3 => (gR σ x3 5 2).bind (fun x4 => (aI σ x4 13 l1).bind (fun x5 => some (Sum.inl x5)))) else f_X11_out_j15 σ))))
set_option maxHeartbeats 4000000 in
set_option maxRecDepth 20000 in
theorem m_X11_out {G : xG} {π : Nat → Nat} {d C Z : Nat} {Q : xQ} {σ : xM} {l0 : Nat} {l1 : Int32} {x : (Int32 ⊕ String)} (hf : f_X11_out σ l0 l1 = some x) (hR : ∀ g, x = g → Sum.elim (fun v => Q (.inl (some (.int v))) (σ) π) (fun E => (1 ≤ C ∧ 6 ≤ Z) ∧ Q (.inr E) (σ) π) (g)) : xMach G π J_X11_out (d + 7) C Z 0 (lv_args 0 [.ref l0, .int l1]) [] σ Q := by
  unfold f_X11_out at hf
  refine xm_stL (L' := [(0, .ref l0), (1, .int l1)]) rfl ?_
  refine xm_iload_n dX11_out_0 rfl ?_
  refine xb_if_lt 15 dX11_out_1 (by decide) hf (fun c hf => ?_) (fun c hf => ?_)
  · exact xm_sub [] rfl (L_X11_out_j15 σ hf hR)
  · refine xm_iload_n dX11_out_4 rfl ?_
    refine xm_aload_n dX11_out_5 rfl ?_
    refine xb_getR (a := l0) (c := 11) (k := 4) dX11_out_6 xcl11 (by decide) xw_587 rfl hf (fun x1 ex1 hf => ?_)
    refine xb_getI (a := x1) (c := 5) (k := 3) dX11_out_9 xcl5 (by decide) xw_402 rfl hf (fun x2 ex2 hf => ?_)
    refine xb_icmp_lt 25 dX11_out_12 (by decide) hf (fun c hf => ?_) (fun c hf => ?_)
    · refine xm_aload_n dX11_out_25 rfl ?_
      refine xb_getR (a := l0) (c := 11) (k := 4) dX11_out_26 xcl11 (by decide) xw_587 rfl hf (fun x3 ex3 hf => ?_)
      refine xb_getR (a := x3) (c := 5) (k := 2) dX11_out_29 xcl5 (by decide) xw_400 rfl hf (fun x4 ex4 hf => ?_)
      refine xm_iload_n dX11_out_32 rfl ?_
      refine xb_cald dX11_out_33 hf (fun x5 ex5 hf => ?_)
      cases hf
      exact xm_iret dX11_out_34 rfl (hR _ rfl)
    · exact xm_sub [] rfl (L_X11_out_j15 σ hf hR)
-- Rankwise.answerOf(I)I
def f_X11_answerOf_j18 (σ : xM) (l1 : Int32) : Option (Int32 × xM) :=
  some (l1, σ)
set_option maxHeartbeats 4000000 in
set_option maxRecDepth 20000 in
theorem L_X11_answerOf_j18 {G : xG} {π : Nat → Nat} {d C Z : Nat} {Q : xQ} (σ : xM) (l1 : Int32) {x : (Int32 × xM)} (hf : f_X11_answerOf_j18 σ l1 = some x) (hR : ∀ g, x = g → Q (.inl (some (.int g.1))) (g.2) π) : xMach G π J_X11_answerOf (d + 3) C Z 18 [(1, .int l1)] [] σ Q := by
  unfold f_X11_answerOf_j18 at hf
  refine xm_iload_n dX11_answerOf_18 rfl ?_
  cases hf
  exact xm_iret dX11_answerOf_19 rfl (hR _ rfl)
def f_X11_answerOf (σ : xM) (l0 : Nat) (l1 : Int32) : Option (Int32 × xM) :=
  (if l1 = (0 : Int32) then (gR σ l0 11 10).bind (fun x1 => (gR σ l0 11 6).bind (fun x2 => (if xk σ x2 4 = true then (f_X4_result σ x2).bind (fun p3 => (if xk σ x1 2 = true then (f_X2_copy σ x1 p3).bind (fun p4 => f_X11_answerOf_j18 p4 l1) else none)) else none))) else f_X11_answerOf_j18 σ l1)
set_option maxHeartbeats 4000000 in
set_option maxRecDepth 20000 in
theorem m_X11_answerOf {G : xG} {π : Nat → Nat} {d C Z : Nat} {Q : xQ} {σ : xM} {l0 : Nat} {l1 : Int32} {x : (Int32 × xM)} (hf : f_X11_answerOf σ l0 l1 = some x) (hR : ∀ g, x = g → Q (.inl (some (.int g.1))) (g.2) π) : xMach G π J_X11_answerOf (d + 3) C Z 0 (lv_args 0 [.ref l0, .int l1]) [] σ Q := by
  unfold f_X11_answerOf at hf
  refine xm_stL (L' := [(0, .ref l0), (1, .int l1)]) rfl ?_
  refine xm_iload_n dX11_answerOf_0 rfl ?_
  refine xb_if_ne 18 dX11_answerOf_1 (by decide) hf (fun c hf => ?_) (fun c hf => ?_)
  · exact xm_sub [1] rfl (L_X11_answerOf_j18 σ l1 hf hR)
  · refine xm_aload_n dX11_answerOf_4 rfl ?_
    refine xb_getR (a := l0) (c := 11) (k := 10) dX11_answerOf_5 xcl11 (by decide) xw_593 rfl hf (fun x1 ex1 hf => ?_)
    refine xm_aload_n dX11_answerOf_8 rfl ?_
    refine xb_getR (a := l0) (c := 11) (k := 6) dX11_answerOf_9 xcl11 (by decide) xw_589 rfl hf (fun x2 ex2 hf => ?_)
    refine xb_if hf (fun hb hf => ?_) (fun _ q => nomatch q)
    obtain ⟨p3, ep3, hf⟩ := xbind hf
    refine xb_callV (As := []) (v0 := (some (.ref p3))) (τ0 := σ) dX11_answerOf_12 (xc_X4_result _ _) xcl4 xw_1193 xw_1194 xw_1195 hb rfl (Nat.le_of_ble_eq_true rfl) rfl (Nat.le_of_ble_eq_true rfl) (fun Q1 hq => m_X4_result (d := d + 2) ep3 (fun g hg => by subst hg; exact hq)) ?_
    refine xb_if hf (fun hb hf => ?_) (fun _ q => nomatch q)
    obtain ⟨p4, ep4, hf⟩ := xbind hf
    refine xb_callV (As := [.ref p3]) (v0 := none) (τ0 := p4) dX11_answerOf_15 (xc_X2_copy _ _) xcl2 xw_1210 xw_965 xw_966 hb rfl (Nat.le_of_ble_eq_true rfl) rfl (Nat.le_of_ble_eq_true rfl) (fun Q1 hq => m_X2_copy (d := d + 0) ep4 (fun g hg => by subst hg; exact hq)) ?_
    exact xm_sub [1] rfl (L_X11_answerOf_j18 p4 l1 hf hR)
-- Rankwise.evaluate(I)I
def f_X11_evaluate (σ : xM) (l0 : Nat) (l1 : Int32) : Option ((Int32 ⊕ String) × xM) :=
  (if xk σ l0 11 = true then (f_X11_treeAt σ l0 l1).bind (fun p1 => Sum.elim (fun w2 => (gR σ l0 11 6).bind (fun x3 => (if xk σ x3 4 = true then (f_X4_startTree σ x3 w2).bind (fun p4 => (gR p4 l0 11 6).bind (fun x5 => (if xk p4 x5 4 = true then (f_X4_work p4 x5).bind (fun p6 => (if xk p6.2 l0 11 = true then (f_X11_answerOf p6.2 l0 p6.1).bind (fun p7 => some ((Sum.inl p7.1), p7.2)) else none)) else none))) else none))) (fun E => some ((Sum.inr E), σ)) p1) else none)
set_option maxHeartbeats 4000000 in
set_option maxRecDepth 20000 in
theorem m_X11_evaluate {G : xG} {π : Nat → Nat} {d C Z : Nat} {Q : xQ} {σ : xM} {l0 : Nat} {l1 : Int32} {x : ((Int32 ⊕ String) × xM)} (hf : f_X11_evaluate σ l0 l1 = some x) (hR : ∀ g, x = g → Sum.elim (fun v => Q (.inl (some (.int v))) (g.2) π) (fun E => (1 ≤ C ∧ 6 ≤ Z) ∧ Q (.inr E) (g.2) π) (g.1)) : xMach G π J_X11_evaluate (d + 8) C Z 0 (lv_args 0 [.ref l0, .int l1]) [] σ Q := by
  unfold f_X11_evaluate at hf
  refine xm_stL (L' := [(0, .ref l0), (1, .int l1)]) rfl ?_
  refine xm_aload_n dX11_evaluate_0 rfl ?_
  refine xm_iload_n dX11_evaluate_1 rfl ?_
  refine xb_if hf (fun hb hf => ?_) (fun _ q => nomatch q)
  obtain ⟨p1, ep1, hf⟩ := xbind hf
  rcases p1 with w2 | E
  · have hf : (gR σ l0 11 6).bind (fun x3 => (if xk σ x3 4 = true then (f_X4_startTree σ x3 w2).bind (fun p4 => (gR p4 l0 11 6).bind (fun x5 => (if xk p4 x5 4 = true then (f_X4_work p4 x5).bind (fun p6 => (if xk p6.2 l0 11 = true then (f_X11_answerOf p6.2 l0 p6.1).bind (fun p7 => some ((Sum.inl p7.1), p7.2)) else none)) else none))) else none)) = some _ := hf
    refine xb_callV (As := [.int l1]) (v0 := (some (.ref w2))) (τ0 := σ) dX11_evaluate_2 (xc_X11_treeAt _ _) xcl11 xw_907 xw_909 xs_19 hb rfl (Nat.le_of_ble_eq_true rfl) rfl (Nat.le_of_ble_eq_true rfl) (fun Q1 hq => m_X11_treeAt (d := d + 0) ep1 (fun g hg => by subst hg; exact hq)) ?_
    refine xm_astore_n dX11_evaluate_5 (by decide) (xm_stL (L' := [(2, .ref w2), (0, .ref l0), (1, .int l1)]) rfl ?_)
    refine xm_aload_n dX11_evaluate_6 rfl ?_
    refine xb_getR (a := l0) (c := 11) (k := 6) dX11_evaluate_7 xcl11 (by decide) xw_589 rfl hf (fun x3 ex3 hf => ?_)
    refine xm_aload_n dX11_evaluate_10 rfl ?_
    refine xb_if hf (fun hb hf => ?_) (fun _ q => nomatch q)
    obtain ⟨p4, ep4, hf⟩ := xbind hf
    refine xb_callV (As := [.ref w2]) (v0 := none) (τ0 := p4) dX11_evaluate_11 (xc_X4_startTree _ _) xcl4 xw_927 xw_928 xw_929 hb rfl (Nat.le_of_ble_eq_true rfl) rfl (Nat.le_of_ble_eq_true rfl) (fun Q1 hq => m_X4_startTree (d := d + 5) ep4 (fun g hg => by subst hg; exact hq)) ?_
    refine xm_aload_n dX11_evaluate_14 rfl ?_
    refine xm_aload_n dX11_evaluate_15 rfl ?_
    refine xb_getR (a := l0) (c := 11) (k := 6) dX11_evaluate_16 xcl11 (by decide) xw_589 rfl hf (fun x5 ex5 hf => ?_)
    refine xb_if hf (fun hb hf => ?_) (fun _ q => nomatch q)
    obtain ⟨p6, ep6, hf⟩ := xbind hf
    refine xb_callV (As := []) (v0 := (some (.int p6.1))) (τ0 := p6.2) dX11_evaluate_19 (xc_X4_work _ _) xcl4 xw_947 xw_948 xw_949 hb rfl (Nat.le_of_ble_eq_true rfl) rfl (Nat.le_of_ble_eq_true rfl) (fun Q1 hq => m_X4_work (d := d + 2) ep6 (fun g hg => by subst hg; exact hq)) ?_
    refine xb_if hf (fun hb hf => ?_) (fun _ q => nomatch q)
    obtain ⟨p7, ep7, hf⟩ := xbind hf
    refine xb_callV (As := [.int p6.1]) (v0 := (some (.int p7.1))) (τ0 := p7.2) dX11_evaluate_22 (xc_X11_answerOf _ _) xcl11 xw_1537 xw_1539 xs_68 hb rfl (Nat.le_of_ble_eq_true rfl) rfl (Nat.le_of_ble_eq_true rfl) (fun Q1 hq => m_X11_answerOf (d := d + 4) ep7 (fun g hg => by subst hg; exact hq)) ?_
    cases hf
    exact xm_iret dX11_evaluate_25 rfl (hR _ rfl)
  · have hf : some ((Sum.inr E), σ) = some _ := hf
    cases hf
    exact xb_callVX (As := [.int l1]) (τ0 := σ) dX11_evaluate_2 (xc_X11_treeAt _ _) xcl11 xw_907 xw_909 xs_19 hb rfl (Nat.le_of_ble_eq_true rfl) rfl (Nat.le_of_ble_eq_true rfl) (fun Q1 hq => m_X11_treeAt (d := d + 0) ep1 (fun g hg => by subst hg; exact ⟨⟨Nat.le_refl _, Nat.le_refl _⟩, hq⟩)) (hR _ rfl).1 (hR _ rfl).2
-- Rankwise.reckon(I)I
def f_X11_reckon (σ : xM) (l0 : Nat) (l1 : Int32) : Option ((Int32 ⊕ String) × xM) :=
  (if xk σ l0 11 = true then (f_X11_treeAt σ l0 l1).bind (fun p1 => Sum.elim (fun w2 => (if xk σ l0 11 = true then (f_X11_needNoLazyCall σ l0 w2).bind (fun p3 => Sum.elim (fun w4 => (gR σ l0 11 6).bind (fun x5 => (if xk σ x5 4 = true then (f_X4_startLine σ x5 w2).bind (fun p6 => (gR p6 l0 11 6).bind (fun x7 => (if xk p6 x7 4 = true then (f_X4_work p6 x7).bind (fun p8 => (if xk p8.2 l0 11 = true then (f_X11_answerOf p8.2 l0 p8.1).bind (fun p9 => some ((Sum.inl p9.1), p9.2)) else none)) else none))) else none))) (fun E => some ((Sum.inr E), σ)) p3) else none)) (fun E => some ((Sum.inr E), σ)) p1) else none)
set_option maxHeartbeats 4000000 in
set_option maxRecDepth 20000 in
theorem m_X11_reckon {G : xG} {π : Nat → Nat} {d C Z : Nat} {Q : xQ} {σ : xM} {l0 : Nat} {l1 : Int32} {x : ((Int32 ⊕ String) × xM)} (hf : f_X11_reckon σ l0 l1 = some x) (hR : ∀ g, x = g → Sum.elim (fun v => Q (.inl (some (.int v))) (g.2) π) (fun E => (1 ≤ C ∧ 6 ≤ Z) ∧ Q (.inr E) (g.2) π) (g.1)) : xMach G π J_X11_reckon (d + 8) C Z 0 (lv_args 0 [.ref l0, .int l1]) [] σ Q := by
  unfold f_X11_reckon at hf
  refine xm_stL (L' := [(0, .ref l0), (1, .int l1)]) rfl ?_
  refine xm_aload_n dX11_reckon_0 rfl ?_
  refine xm_iload_n dX11_reckon_1 rfl ?_
  refine xb_if hf (fun hb hf => ?_) (fun _ q => nomatch q)
  obtain ⟨p1, ep1, hf⟩ := xbind hf
  rcases p1 with w2 | E
  · have hf : (if xk σ l0 11 = true then (f_X11_needNoLazyCall σ l0 w2).bind (fun p3 => Sum.elim (fun w4 => (gR σ l0 11 6).bind (fun x5 => (if xk σ x5 4 = true then (f_X4_startLine σ x5 w2).bind (fun p6 => (gR p6 l0 11 6).bind (fun x7 => (if xk p6 x7 4 = true then (f_X4_work p6 x7).bind (fun p8 => (if xk p8.2 l0 11 = true then (f_X11_answerOf p8.2 l0 p8.1).bind (fun p9 => some ((Sum.inl p9.1), p9.2)) else none)) else none))) else none))) (fun E => some ((Sum.inr E), σ)) p3) else none) = some _ := hf
    refine xb_callV (As := [.int l1]) (v0 := (some (.ref w2))) (τ0 := σ) dX11_reckon_2 (xc_X11_treeAt _ _) xcl11 xw_907 xw_909 xs_19 hb rfl (Nat.le_of_ble_eq_true rfl) rfl (Nat.le_of_ble_eq_true rfl) (fun Q1 hq => m_X11_treeAt (d := d + 0) ep1 (fun g hg => by subst hg; exact hq)) ?_
    refine xm_astore_n dX11_reckon_5 (by decide) (xm_stL (L' := [(2, .ref w2), (0, .ref l0), (1, .int l1)]) rfl ?_)
    refine xm_aload_n dX11_reckon_6 rfl ?_
    refine xm_aload_n dX11_reckon_7 rfl ?_
    refine xb_if hf (fun hb hf => ?_) (fun _ q => nomatch q)
    obtain ⟨p3, ep3, hf⟩ := xbind hf
    rcases p3 with w4 | E
    · have hf : (gR σ l0 11 6).bind (fun x5 => (if xk σ x5 4 = true then (f_X4_startLine σ x5 w2).bind (fun p6 => (gR p6 l0 11 6).bind (fun x7 => (if xk p6 x7 4 = true then (f_X4_work p6 x7).bind (fun p8 => (if xk p8.2 l0 11 = true then (f_X11_answerOf p8.2 l0 p8.1).bind (fun p9 => some ((Sum.inl p9.1), p9.2)) else none)) else none))) else none)) = some _ := hf
      refine xb_callV (As := [.ref w2]) (v0 := none) (τ0 := σ) dX11_reckon_8 (xc_X11_needNoLazyCall _ _) xcl11 xw_1560 xw_1562 xs_69 hb rfl (Nat.le_of_ble_eq_true rfl) rfl (Nat.le_of_ble_eq_true rfl) (fun Q1 hq => m_X11_needNoLazyCall (d := d + 0) ep3 (fun g hg => by subst hg; exact hq)) ?_
      refine xm_aload_n dX11_reckon_11 rfl ?_
      refine xb_getR (a := l0) (c := 11) (k := 6) dX11_reckon_12 xcl11 (by decide) xw_589 rfl hf (fun x5 ex5 hf => ?_)
      refine xm_aload_n dX11_reckon_15 rfl ?_
      refine xb_if hf (fun hb hf => ?_) (fun _ q => nomatch q)
      obtain ⟨p6, ep6, hf⟩ := xbind hf
      refine xb_callV (As := [.ref w2]) (v0 := none) (τ0 := p6) dX11_reckon_16 (xc_X4_startLine _ _) xcl4 xw_1358 xw_1359 xw_1360 hb rfl (Nat.le_of_ble_eq_true rfl) rfl (Nat.le_of_ble_eq_true rfl) (fun Q1 hq => m_X4_startLine (d := d + 6) ep6 (fun g hg => by subst hg; exact hq)) ?_
      refine xm_aload_n dX11_reckon_19 rfl ?_
      refine xm_aload_n dX11_reckon_20 rfl ?_
      refine xb_getR (a := l0) (c := 11) (k := 6) dX11_reckon_21 xcl11 (by decide) xw_589 rfl hf (fun x7 ex7 hf => ?_)
      refine xb_if hf (fun hb hf => ?_) (fun _ q => nomatch q)
      obtain ⟨p8, ep8, hf⟩ := xbind hf
      refine xb_callV (As := []) (v0 := (some (.int p8.1))) (τ0 := p8.2) dX11_reckon_24 (xc_X4_work _ _) xcl4 xw_947 xw_948 xw_949 hb rfl (Nat.le_of_ble_eq_true rfl) rfl (Nat.le_of_ble_eq_true rfl) (fun Q1 hq => m_X4_work (d := d + 2) ep8 (fun g hg => by subst hg; exact hq)) ?_
      refine xb_if hf (fun hb hf => ?_) (fun _ q => nomatch q)
      obtain ⟨p9, ep9, hf⟩ := xbind hf
      refine xb_callV (As := [.int p8.1]) (v0 := (some (.int p9.1))) (τ0 := p9.2) dX11_reckon_27 (xc_X11_answerOf _ _) xcl11 xw_1537 xw_1539 xs_68 hb rfl (Nat.le_of_ble_eq_true rfl) rfl (Nat.le_of_ble_eq_true rfl) (fun Q1 hq => m_X11_answerOf (d := d + 4) ep9 (fun g hg => by subst hg; exact hq)) ?_
      cases hf
      exact xm_iret dX11_reckon_30 rfl (hR _ rfl)
    · have hf : some ((Sum.inr E), σ) = some _ := hf
      cases hf
      exact xb_callVX (As := [.ref w2]) (τ0 := σ) dX11_reckon_8 (xc_X11_needNoLazyCall _ _) xcl11 xw_1560 xw_1562 xs_69 hb rfl (Nat.le_of_ble_eq_true rfl) rfl (Nat.le_of_ble_eq_true rfl) (fun Q1 hq => m_X11_needNoLazyCall (d := d + 0) ep3 (fun g hg => by subst hg; exact ⟨⟨Nat.le_refl _, Nat.le_refl _⟩, hq⟩)) (hR _ rfl).1 (hR _ rfl).2
  · have hf : some ((Sum.inr E), σ) = some _ := hf
    cases hf
    exact xb_callVX (As := [.int l1]) (τ0 := σ) dX11_reckon_2 (xc_X11_treeAt _ _) xcl11 xw_907 xw_909 xs_19 hb rfl (Nat.le_of_ble_eq_true rfl) rfl (Nat.le_of_ble_eq_true rfl) (fun Q1 hq => m_X11_treeAt (d := d + 0) ep1 (fun g hg => by subst hg; exact ⟨⟨Nat.le_refl _, Nat.le_refl _⟩, hq⟩)) (hR _ rfl).1 (hR _ rfl).2
-- Rankwise.answer(II)I
def f_X11_answer_j20 (σ : xM)  : Option ((Int32 ⊕ String) × xM) :=
  some ((Sum.inr "java/lang/IllegalArgumentException"), σ)
set_option maxHeartbeats 4000000 in
set_option maxRecDepth 20000 in
theorem L_X11_answer_j20 {G : xG} {π : Nat → Nat} {d C Z : Nat} {Q : xQ} (σ : xM)  {x : ((Int32 ⊕ String) × xM)} (hf : f_X11_answer_j20 σ = some x) (hR : ∀ g, x = g → Sum.elim (fun v => Q (.inl (some (.int v))) (g.2) π) (fun E => (1 ≤ C ∧ 6 ≤ Z) ∧ Q (.inr E) (g.2) π) (g.1)) : xMach G π J_X11_answer (d + 7) C Z 20 [] [] σ Q := by
  unfold f_X11_answer_j20 at hf
  cases hf
  exact xb_throwSW (text := "no such part or radix") dX11_answer_20 dX11_answer_23 dX11_answer_24 dX11_answer_27 dX11_answer_30 xt_X11_169_173 (by decide) (by omega) (Nat.le_of_ble_eq_true rfl) (hR _ rfl).1 (hR _ rfl).2
def f_X11_answer_j56 (σ : xM) (l0 : Nat) (l2 : Int32) (s0 : Nat) (s1 : Nat) : Option ((Int32 ⊕ String) × xM) :=
  (if xk σ s1 5 = true then (f_X5_digits σ s1 s0 l2).bind (fun p4 => (gR p4 l0 11 4).bind (fun x5 => (gI p4 x5 5 3).bind (fun x6 => some ((Sum.inl x6), p4)))) else none)
set_option maxHeartbeats 4000000 in
set_option maxRecDepth 20000 in
theorem L_X11_answer_j56 {G : xG} {π : Nat → Nat} {d C Z : Nat} {Q : xQ} (σ : xM) (l0 : Nat) (l2 : Int32) (s0 : Nat) (s1 : Nat) {x : ((Int32 ⊕ String) × xM)} (hf : f_X11_answer_j56 σ l0 l2 s0 s1 = some x) (hR : ∀ g, x = g → Sum.elim (fun v => Q (.inl (some (.int v))) (g.2) π) (fun E => (1 ≤ C ∧ 6 ≤ Z) ∧ Q (.inr E) (g.2) π) (g.1)) : xMach G π J_X11_answer (d + 7) C Z 56 [(0, .ref l0), (2, .int l2)] [.ref s0, .ref s1] σ Q := by
  unfold f_X11_answer_j56 at hf
  refine xm_iload_n dX11_answer_56 rfl ?_
  refine xb_if hf (fun hb hf => ?_) (fun _ q => nomatch q)
  obtain ⟨p4, ep4, hf⟩ := xbind hf
  refine xb_callV (As := [.ref s0, .int l2]) (v0 := none) (τ0 := p4) dX11_answer_57 (xc_X5_digits _ _) xcl5 xw_1549 xw_1550 xw_1551 hb rfl (Nat.le_of_ble_eq_true rfl) rfl (Nat.le_of_ble_eq_true rfl) (fun Q1 hq => m_X5_digits (d := d + 4) ep4 (fun g hg => by subst hg; exact hq)) ?_
  refine xm_aload_n dX11_answer_60 rfl ?_
  refine xb_getR (a := l0) (c := 11) (k := 4) dX11_answer_61 xcl11 (by decide) xw_587 rfl hf (fun x5 ex5 hf => ?_)
  refine xb_getI (a := x5) (c := 5) (k := 3) dX11_answer_64 xcl5 (by decide) xw_402 rfl hf (fun x6 ex6 hf => ?_)
  cases hf
  exact xm_iret dX11_answer_67 rfl (hR _ rfl)
def f_X11_answer (σ : xM) (l0 : Nat) (l1 : Int32) (l2 : Int32) : Option ((Int32 ⊕ String) × xM) :=
  (if l1 < (0 : Int32) then f_X11_answer_j20 σ else (if (1 : Int32) < l1 then f_X11_answer_j20 σ else (if l2 < (2 : Int32) then f_X11_answer_j20 σ else (if l2 ≤ (36 : Int32) then (gR σ l0 11 4).bind (fun x1 => (if l1 = (0 : Int32) then (gR σ l0 11 10).bind (fun x7 => (gR σ x7 2 0).bind (fun x8 => f_X11_answer_j56 σ l0 l2 x8 x1)) else (gR σ l0 11 10).bind (fun x2 => (gR σ x2 2 1).bind (fun x3 => f_X11_answer_j56 σ l0 l2 x3 x1)))) else f_X11_answer_j20 σ))))
set_option maxHeartbeats 4000000 in
set_option maxRecDepth 20000 in
theorem m_X11_answer {G : xG} {π : Nat → Nat} {d C Z : Nat} {Q : xQ} {σ : xM} {l0 : Nat} {l1 : Int32} {l2 : Int32} {x : ((Int32 ⊕ String) × xM)} (hf : f_X11_answer σ l0 l1 l2 = some x) (hR : ∀ g, x = g → Sum.elim (fun v => Q (.inl (some (.int v))) (g.2) π) (fun E => (1 ≤ C ∧ 6 ≤ Z) ∧ Q (.inr E) (g.2) π) (g.1)) : xMach G π J_X11_answer (d + 7) C Z 0 (lv_args 0 [.ref l0, .int l1, .int l2]) [] σ Q := by
  unfold f_X11_answer at hf
  refine xm_stL (L' := [(0, .ref l0), (1, .int l1), (2, .int l2)]) rfl ?_
  refine xm_iload_n dX11_answer_0 rfl ?_
  refine xb_if_lt 20 dX11_answer_1 (by decide) hf (fun c hf => ?_) (fun c hf => ?_)
  · exact xm_sub [] rfl (L_X11_answer_j20 σ hf hR)
  · refine xm_iload_n dX11_answer_4 rfl ?_
    refine xm_iconst dX11_answer_5 (v := 1) (by decide) ?_
    refine xb_icmp_gt 20 dX11_answer_6 (by decide) hf (fun c hf => ?_) (fun c hf => ?_)
    · exact xm_sub [] rfl (L_X11_answer_j20 σ hf hR)
    · refine xm_iload_n dX11_answer_9 rfl ?_
      refine xm_iconst dX11_answer_10 (v := 2) (by decide) ?_
      refine xb_icmp_lt 20 dX11_answer_11 (by decide) hf (fun c hf => ?_) (fun c hf => ?_)
      · exact xm_sub [] rfl (L_X11_answer_j20 σ hf hR)
      · refine xm_iload_n dX11_answer_14 rfl ?_
        refine xm_bipush dX11_answer_15 (v := 36) (by decide) ?_
        refine xb_icmp_le 31 dX11_answer_17 (by decide) hf (fun c hf => ?_) (fun c hf => ?_)
        · refine xm_aload_n dX11_answer_31 rfl ?_
          refine xb_getR (a := l0) (c := 11) (k := 4) dX11_answer_32 xcl11 (by decide) xw_587 rfl hf (fun x1 ex1 hf => ?_)
          refine xm_iload_n dX11_answer_35 rfl ?_
          refine xb_if_ne 49 dX11_answer_36 (by decide) hf (fun c hf => ?_) (fun c hf => ?_)
          · refine xm_aload_n dX11_answer_49 rfl ?_
            refine xb_getR (a := l0) (c := 11) (k := 10) dX11_answer_50 xcl11 (by decide) xw_593 rfl hf (fun x2 ex2 hf => ?_)
            refine xb_getR (a := x2) (c := 2) (k := 1) dX11_answer_53 xcl2 (by decide) xw_263 rfl hf (fun x3 ex3 hf => ?_)
            exact xm_sub [0, 2] rfl (L_X11_answer_j56 σ l0 l2 x3 x1 hf hR)
          · refine xm_aload_n dX11_answer_39 rfl ?_
            refine xb_getR (a := l0) (c := 11) (k := 10) dX11_answer_40 xcl11 (by decide) xw_593 rfl hf (fun x7 ex7 hf => ?_)
            refine xb_getR (a := x7) (c := 2) (k := 0) dX11_answer_43 xcl2 (by decide) xw_260 rfl hf (fun x8 ex8 hf => ?_)
            refine xm_goto 56 dX11_answer_46 (by decide) ?_
            exact xm_sub [0, 2] rfl (L_X11_answer_j56 σ l0 l2 x8 x1 hf hR)
        · exact xm_sub [] rfl (L_X11_answer_j20 σ hf hR)
-- Rankwise.needName(C)V
def f_X11_needName_j12 (σ : xM)  : Option (Unit ⊕ String) :=
  some (Sum.inr "java/lang/IllegalArgumentException")
set_option maxHeartbeats 4000000 in
set_option maxRecDepth 20000 in
theorem L_X11_needName_j12 {G : xG} {π : Nat → Nat} {d C Z : Nat} {Q : xQ} (σ : xM)  {x : (Unit ⊕ String)} (hf : f_X11_needName_j12 σ = some x) (hR : ∀ g, x = g → Sum.elim (fun v => Q (.inl none) (σ) π) (fun E => (1 ≤ C ∧ 6 ≤ Z) ∧ Q (.inr E) (σ) π) (g)) : xMach G π J_X11_needName (d + 7) C Z 12 [] [] σ Q := by
  unfold f_X11_needName_j12 at hf
  cases hf
  exact xb_throwSW (text := "a name is a to z") dX11_needName_12 dX11_needName_15 dX11_needName_16 dX11_needName_19 dX11_needName_22 xt_X11_169_173 (by decide) (by omega) (Nat.le_of_ble_eq_true rfl) (hR _ rfl).1 (hR _ rfl).2
def f_X11_needName (σ : xM) (l0 : Nat) (l1 : Int32) : Option (Unit ⊕ String) :=
  (if l1 < (97 : Int32) then f_X11_needName_j12 σ else (if l1 ≤ (122 : Int32) then some (Sum.inl ()) else f_X11_needName_j12 σ))
set_option maxHeartbeats 4000000 in
set_option maxRecDepth 20000 in
theorem m_X11_needName {G : xG} {π : Nat → Nat} {d C Z : Nat} {Q : xQ} {σ : xM} {l0 : Nat} {l1 : Int32} {x : (Unit ⊕ String)} (hf : f_X11_needName σ l0 l1 = some x) (hR : ∀ g, x = g → Sum.elim (fun v => Q (.inl none) (σ) π) (fun E => (1 ≤ C ∧ 6 ≤ Z) ∧ Q (.inr E) (σ) π) (g)) : xMach G π J_X11_needName (d + 7) C Z 0 (lv_args 0 [.ref l0, .int l1]) [] σ Q := by
  unfold f_X11_needName at hf
  refine xm_stL (L' := [(0, .ref l0), (1, .int l1)]) rfl ?_
  refine xm_iload_n dX11_needName_0 rfl ?_
  refine xm_bipush dX11_needName_1 (v := 97) (by decide) ?_
  refine xb_icmp_lt 12 dX11_needName_3 (by decide) hf (fun c hf => ?_) (fun c hf => ?_)
  · exact xm_sub [] rfl (L_X11_needName_j12 σ hf hR)
  · refine xm_iload_n dX11_needName_6 rfl ?_
    refine xm_bipush dX11_needName_7 (v := 122) (by decide) ?_
    refine xb_icmp_le 23 dX11_needName_9 (by decide) hf (fun c hf => ?_) (fun c hf => ?_)
    · cases hf
      exact xm_vret dX11_needName_23 rfl (hR _ rfl)
    · exact xm_sub [] rfl (L_X11_needName_j12 σ hf hR)
-- Rankwise.letterOf(C)I
def f_X11_letterOf (σ : xM) (l0 : Nat) (l1 : Int32) : Option (Int32 ⊕ String) :=
  (if xk σ l0 11 = true then (f_X11_needName σ l0 l1).bind (fun p1 => Sum.elim (fun w2 => some (Sum.inl (l1 - (97 : Int32)))) (fun E => some (Sum.inr E)) p1) else none)
set_option maxHeartbeats 4000000 in
set_option maxRecDepth 20000 in
theorem m_X11_letterOf {G : xG} {π : Nat → Nat} {d C Z : Nat} {Q : xQ} {σ : xM} {l0 : Nat} {l1 : Int32} {x : (Int32 ⊕ String)} (hf : f_X11_letterOf σ l0 l1 = some x) (hR : ∀ g, x = g → Sum.elim (fun v => Q (.inl (some (.int v))) (σ) π) (fun E => (1 ≤ C ∧ 6 ≤ Z) ∧ Q (.inr E) (σ) π) (g)) : xMach G π J_X11_letterOf (d + 8) C Z 0 (lv_args 0 [.ref l0, .int l1]) [] σ Q := by
  unfold f_X11_letterOf at hf
  refine xm_stL (L' := [(0, .ref l0), (1, .int l1)]) rfl ?_
  refine xm_aload_n dX11_letterOf_0 rfl ?_
  refine xm_iload_n dX11_letterOf_1 rfl ?_
  refine xb_if hf (fun hb hf => ?_) (fun _ q => nomatch q)
  obtain ⟨p1, ep1, hf⟩ := xbind hf
  rcases p1 with w2 | E
  · have hf : some (Sum.inl (l1 - (97 : Int32))) = some _ := hf
    refine xb_callV (As := [.int l1]) (v0 := none) (τ0 := σ) dX11_letterOf_2 (xc_X11_needName _ _) xcl11 xw_902 xw_904 xs_18 hb rfl (Nat.le_of_ble_eq_true rfl) rfl (Nat.le_of_ble_eq_true rfl) (fun Q1 hq => m_X11_needName (d := d + 0) ep1 (fun g hg => by subst hg; exact hq)) ?_
    refine xm_iload_n dX11_letterOf_5 rfl ?_
    refine xm_bipush dX11_letterOf_6 (v := 97) (by decide) ?_
    refine xm_isub dX11_letterOf_8 ?_
    cases hf
    exact xm_iret dX11_letterOf_9 rfl (hR _ rfl)
  · have hf : some (Sum.inr E) = some _ := hf
    cases hf
    exact xb_callVX (As := [.int l1]) (τ0 := σ) dX11_letterOf_2 (xc_X11_needName _ _) xcl11 xw_902 xw_904 xs_18 hb rfl (Nat.le_of_ble_eq_true rfl) rfl (Nat.le_of_ble_eq_true rfl) (fun Q1 hq => m_X11_needName (d := d + 0) ep1 (fun g hg => by subst hg; exact ⟨⟨Nat.le_refl _, Nat.le_refl _⟩, hq⟩)) (hR _ rfl).1 (hR _ rfl).2
-- Rankwise.let(CI)I
def f_X11_let_j51 (σ : xM) (l5 : Int32) : Option ((Int32 ⊕ String) × xM) :=
  some ((Sum.inl l5), σ)
set_option maxHeartbeats 4000000 in
set_option maxRecDepth 20000 in
theorem L_X11_let_j51 {G : xG} {π : Nat → Nat} {d C Z : Nat} {Q : xQ} (σ : xM) (l5 : Int32) {x : ((Int32 ⊕ String) × xM)} (hf : f_X11_let_j51 σ l5 = some x) (hR : ∀ g, x = g → Sum.elim (fun v => Q (.inl (some (.int v))) (g.2) π) (fun E => (1 ≤ C ∧ 6 ≤ Z) ∧ Q (.inr E) (g.2) π) (g.1)) : xMach G π J_X11_let (d + 9) C Z 51 [(5, .int l5)] [] σ Q := by
  unfold f_X11_let_j51 at hf
  refine xm_iload dX11_let_51 rfl ?_
  cases hf
  exact xm_iret dX11_let_53 rfl (hR _ rfl)
def f_X11_let (σ : xM) (l0 : Nat) (l1 : Int32) (l2 : Int32) : Option ((Int32 ⊕ String) × xM) :=
  (if xk σ l0 11 = true then (f_X11_letterOf σ l0 l1).bind (fun p1 => Sum.elim (fun w2 => (if xk σ l0 11 = true then (f_X11_treeAt σ l0 l2).bind (fun p3 => Sum.elim (fun w4 => (gR σ l0 11 6).bind (fun x5 => (if xk σ x5 4 = true then (f_X4_startTree σ x5 w4).bind (fun p6 => (gR p6 l0 11 6).bind (fun x7 => (if xk p6 x7 4 = true then (f_X4_work p6 x7).bind (fun p8 => (if p8.1 = (0 : Int32) then (gR p8.2 l0 11 2).bind (fun x9 => (gR p8.2 l0 11 6).bind (fun x10 => (if xk p8.2 x10 4 = true then (f_X4_result p8.2 x10).bind (fun p11 => (if xk p8.2 x9 1 = true then (f_X1_giveValue p8.2 x9 w2 p11).bind (fun p12 => f_X11_let_j51 p12 p8.1) else none)) else none))) else f_X11_let_j51 p8.2 p8.1)) else none))) else none))) (fun E => some ((Sum.inr E), σ)) p3) else none)) (fun E => some ((Sum.inr E), σ)) p1) else none)
set_option maxHeartbeats 4000000 in
set_option maxRecDepth 20000 in
theorem m_X11_let {G : xG} {π : Nat → Nat} {d C Z : Nat} {Q : xQ} {σ : xM} {l0 : Nat} {l1 : Int32} {l2 : Int32} {x : ((Int32 ⊕ String) × xM)} (hf : f_X11_let σ l0 l1 l2 = some x) (hR : ∀ g, x = g → Sum.elim (fun v => Q (.inl (some (.int v))) (g.2) π) (fun E => (1 ≤ C ∧ 6 ≤ Z) ∧ Q (.inr E) (g.2) π) (g.1)) : xMach G π J_X11_let (d + 9) C Z 0 (lv_args 0 [.ref l0, .int l1, .int l2]) [] σ Q := by
  unfold f_X11_let at hf
  refine xm_stL (L' := [(0, .ref l0), (1, .int l1), (2, .int l2)]) rfl ?_
  refine xm_aload_n dX11_let_0 rfl ?_
  refine xm_iload_n dX11_let_1 rfl ?_
  refine xb_if hf (fun hb hf => ?_) (fun _ q => nomatch q)
  obtain ⟨p1, ep1, hf⟩ := xbind hf
  rcases p1 with w2 | E
  · have hf : (if xk σ l0 11 = true then (f_X11_treeAt σ l0 l2).bind (fun p3 => Sum.elim (fun w4 => (gR σ l0 11 6).bind (fun x5 => (if xk σ x5 4 = true then (f_X4_startTree σ x5 w4).bind (fun p6 => (gR p6 l0 11 6).bind (fun x7 => (if xk p6 x7 4 = true then (f_X4_work p6 x7).bind (fun p8 => (if p8.1 = (0 : Int32) then (gR p8.2 l0 11 2).bind (fun x9 => (gR p8.2 l0 11 6).bind (fun x10 => (if xk p8.2 x10 4 = true then (f_X4_result p8.2 x10).bind (fun p11 => (if xk p8.2 x9 1 = true then (f_X1_giveValue p8.2 x9 w2 p11).bind (fun p12 => f_X11_let_j51 p12 p8.1) else none)) else none))) else f_X11_let_j51 p8.2 p8.1)) else none))) else none))) (fun E => some ((Sum.inr E), σ)) p3) else none) = some _ := hf
    refine xb_callV (As := [.int l1]) (v0 := (some (.int w2))) (τ0 := σ) dX11_let_2 (xc_X11_letterOf _ _) xcl11 xw_898 xw_900 xs_17 hb rfl (Nat.le_of_ble_eq_true rfl) rfl (Nat.le_of_ble_eq_true rfl) (fun Q1 hq => m_X11_letterOf (d := d + 0) ep1 (fun g hg => by subst hg; exact hq)) ?_
    refine xm_istore_n dX11_let_5 (by decide) (xm_stL (L' := [(3, .int w2), (0, .ref l0), (1, .int l1), (2, .int l2)]) rfl ?_)
    refine xm_aload_n dX11_let_6 rfl ?_
    refine xm_iload_n dX11_let_7 rfl ?_
    refine xb_if hf (fun hb hf => ?_) (fun _ q => nomatch q)
    obtain ⟨p3, ep3, hf⟩ := xbind hf
    rcases p3 with w4 | E
    · have hf : (gR σ l0 11 6).bind (fun x5 => (if xk σ x5 4 = true then (f_X4_startTree σ x5 w4).bind (fun p6 => (gR p6 l0 11 6).bind (fun x7 => (if xk p6 x7 4 = true then (f_X4_work p6 x7).bind (fun p8 => (if p8.1 = (0 : Int32) then (gR p8.2 l0 11 2).bind (fun x9 => (gR p8.2 l0 11 6).bind (fun x10 => (if xk p8.2 x10 4 = true then (f_X4_result p8.2 x10).bind (fun p11 => (if xk p8.2 x9 1 = true then (f_X1_giveValue p8.2 x9 w2 p11).bind (fun p12 => f_X11_let_j51 p12 p8.1) else none)) else none))) else f_X11_let_j51 p8.2 p8.1)) else none))) else none)) = some _ := hf
      refine xb_callV (As := [.int l2]) (v0 := (some (.ref w4))) (τ0 := σ) dX11_let_8 (xc_X11_treeAt _ _) xcl11 xw_907 xw_909 xs_19 hb rfl (Nat.le_of_ble_eq_true rfl) rfl (Nat.le_of_ble_eq_true rfl) (fun Q1 hq => m_X11_treeAt (d := d + 1) ep3 (fun g hg => by subst hg; exact hq)) ?_
      refine xm_astore dX11_let_11 (by decide) (xm_stL (L' := [(4, .ref w4), (3, .int w2), (0, .ref l0), (1, .int l1), (2, .int l2)]) rfl ?_)
      refine xm_aload_n dX11_let_13 rfl ?_
      refine xb_getR (a := l0) (c := 11) (k := 6) dX11_let_14 xcl11 (by decide) xw_589 rfl hf (fun x5 ex5 hf => ?_)
      refine xm_aload dX11_let_17 rfl ?_
      refine xb_if hf (fun hb hf => ?_) (fun _ q => nomatch q)
      obtain ⟨p6, ep6, hf⟩ := xbind hf
      refine xb_callV (As := [.ref w4]) (v0 := none) (τ0 := p6) dX11_let_19 (xc_X4_startTree _ _) xcl4 xw_927 xw_928 xw_929 hb rfl (Nat.le_of_ble_eq_true rfl) rfl (Nat.le_of_ble_eq_true rfl) (fun Q1 hq => m_X4_startTree (d := d + 6) ep6 (fun g hg => by subst hg; exact hq)) ?_
      refine xm_aload_n dX11_let_22 rfl ?_
      refine xb_getR (a := l0) (c := 11) (k := 6) dX11_let_23 xcl11 (by decide) xw_589 rfl hf (fun x7 ex7 hf => ?_)
      refine xb_if hf (fun hb hf => ?_) (fun _ q => nomatch q)
      obtain ⟨p8, ep8, hf⟩ := xbind hf
      refine xb_callV (As := []) (v0 := (some (.int p8.1))) (τ0 := p8.2) dX11_let_26 (xc_X4_work _ _) xcl4 xw_947 xw_948 xw_949 hb rfl (Nat.le_of_ble_eq_true rfl) rfl (Nat.le_of_ble_eq_true rfl) (fun Q1 hq => m_X4_work (d := d + 3) ep8 (fun g hg => by subst hg; exact hq)) ?_
      refine xm_istore dX11_let_29 (by decide) (xm_stL (L' := [(5, .int p8.1), (4, .ref w4), (3, .int w2), (0, .ref l0), (1, .int l1), (2, .int l2)]) rfl ?_)
      refine xm_iload dX11_let_31 rfl ?_
      refine xb_if_ne 51 dX11_let_33 (by decide) hf (fun c hf => ?_) (fun c hf => ?_)
      · exact xm_sub [0] rfl (L_X11_let_j51 p8.2 p8.1 hf hR)
      · refine xm_aload_n dX11_let_36 rfl ?_
        refine xb_getR (a := l0) (c := 11) (k := 2) dX11_let_37 xcl11 (by decide) xw_585 rfl hf (fun x9 ex9 hf => ?_)
        refine xm_iload_n dX11_let_40 rfl ?_
        refine xm_aload_n dX11_let_41 rfl ?_
        refine xb_getR (a := l0) (c := 11) (k := 6) dX11_let_42 xcl11 (by decide) xw_589 rfl hf (fun x10 ex10 hf => ?_)
        refine xb_if hf (fun hb hf => ?_) (fun _ q => nomatch q)
        obtain ⟨p11, ep11, hf⟩ := xbind hf
        refine xb_callV (As := []) (v0 := (some (.ref p11))) (τ0 := p8.2) dX11_let_45 (xc_X4_result _ _) xcl4 xw_1193 xw_1194 xw_1195 hb rfl (Nat.le_of_ble_eq_true rfl) rfl (Nat.le_of_ble_eq_true rfl) (fun Q1 hq => m_X4_result (d := d + 8) ep11 (fun g hg => by subst hg; exact hq)) ?_
        refine xb_if hf (fun hb hf => ?_) (fun _ q => nomatch q)
        obtain ⟨p12, ep12, hf⟩ := xbind hf
        refine xb_callV (As := [.int w2, .ref p11]) (v0 := none) (τ0 := p12) dX11_let_48 (xc_X1_giveValue _ _) xcl1 xw_1197 xw_1198 xw_1199 hb rfl (Nat.le_of_ble_eq_true rfl) rfl (Nat.le_of_ble_eq_true rfl) (fun Q1 hq => m_X1_giveValue (d := d + 4) ep12 (fun g hg => by subst hg; exact hq)) ?_
        exact xm_sub [0] rfl (L_X11_let_j51 p12 p8.1 hf hR)
    · have hf : some ((Sum.inr E), σ) = some _ := hf
      cases hf
      exact xb_callVX (As := [.int l2]) (τ0 := σ) dX11_let_8 (xc_X11_treeAt _ _) xcl11 xw_907 xw_909 xs_19 hb rfl (Nat.le_of_ble_eq_true rfl) rfl (Nat.le_of_ble_eq_true rfl) (fun Q1 hq => m_X11_treeAt (d := d + 1) ep3 (fun g hg => by subst hg; exact ⟨⟨Nat.le_refl _, Nat.le_refl _⟩, hq⟩)) (hR _ rfl).1 (hR _ rfl).2
  · have hf : some ((Sum.inr E), σ) = some _ := hf
    cases hf
    exact xb_callVX (As := [.int l1]) (τ0 := σ) dX11_let_2 (xc_X11_letterOf _ _) xcl11 xw_898 xw_900 xs_17 hb rfl (Nat.le_of_ble_eq_true rfl) rfl (Nat.le_of_ble_eq_true rfl) (fun Q1 hq => m_X11_letterOf (d := d + 0) ep1 (fun g hg => by subst hg; exact ⟨⟨Nat.le_refl _, Nat.le_refl _⟩, hq⟩)) (hR _ rfl).1 (hR _ rfl).2
-- Rankwise.recall(C)Z
def f_X11_recall (σ : xM) (l0 : Nat) (l1 : Int32) : Option ((Int32 ⊕ String) × xM) :=
  (if xk σ l0 11 = true then (f_X11_letterOf σ l0 l1).bind (fun p1 => Sum.elim (fun w2 => (gR σ l0 11 2).bind (fun x3 => (gR σ x3 1 7).bind (fun x4 => (aI σ x4 15 w2).bind (fun x5 => (if x5 = (0 : Int32) then some ((Sum.inl (0 : Int32)), σ) else (gR σ l0 11 10).bind (fun x6 => (gR σ l0 11 2).bind (fun x7 => (gR σ x7 1 6).bind (fun x8 => ((aR σ x8 16 w2).bind id).bind (fun x9 => (if xk σ x6 2 = true then (f_X2_copy σ x6 x9).bind (fun p10 => some ((Sum.inl (1 : Int32)), p10)) else none)))))))))) (fun E => some ((Sum.inr E), σ)) p1) else none)
set_option maxHeartbeats 4000000 in
set_option maxRecDepth 20000 in
theorem m_X11_recall {G : xG} {π : Nat → Nat} {d C Z : Nat} {Q : xQ} {σ : xM} {l0 : Nat} {l1 : Int32} {x : ((Int32 ⊕ String) × xM)} (hf : f_X11_recall σ l0 l1 = some x) (hR : ∀ g, x = g → Sum.elim (fun v => Q (.inl (some (.int v))) (g.2) π) (fun E => (1 ≤ C ∧ 6 ≤ Z) ∧ Q (.inr E) (g.2) π) (g.1)) : xMach G π J_X11_recall (d + 9) C Z 0 (lv_args 0 [.ref l0, .int l1]) [] σ Q := by
  unfold f_X11_recall at hf
  refine xm_stL (L' := [(0, .ref l0), (1, .int l1)]) rfl ?_
  refine xm_aload_n dX11_recall_0 rfl ?_
  refine xm_iload_n dX11_recall_1 rfl ?_
  refine xb_if hf (fun hb hf => ?_) (fun _ q => nomatch q)
  obtain ⟨p1, ep1, hf⟩ := xbind hf
  rcases p1 with w2 | E
  · have hf : (gR σ l0 11 2).bind (fun x3 => (gR σ x3 1 7).bind (fun x4 => (aI σ x4 15 w2).bind (fun x5 => (if x5 = (0 : Int32) then some ((Sum.inl (0 : Int32)), σ) else (gR σ l0 11 10).bind (fun x6 => (gR σ l0 11 2).bind (fun x7 => (gR σ x7 1 6).bind (fun x8 => ((aR σ x8 16 w2).bind id).bind (fun x9 => (if xk σ x6 2 = true then (f_X2_copy σ x6 x9).bind (fun p10 => some ((Sum.inl (1 : Int32)), p10)) else none))))))))) = some _ := hf
    refine xb_callV (As := [.int l1]) (v0 := (some (.int w2))) (τ0 := σ) dX11_recall_2 (xc_X11_letterOf _ _) xcl11 xw_898 xw_900 xs_17 hb rfl (Nat.le_of_ble_eq_true rfl) rfl (Nat.le_of_ble_eq_true rfl) (fun Q1 hq => m_X11_letterOf (d := d + 0) ep1 (fun g hg => by subst hg; exact hq)) ?_
    refine xm_istore_n dX11_recall_5 (by decide) (xm_stL (L' := [(2, .int w2), (0, .ref l0), (1, .int l1)]) rfl ?_)
    refine xm_aload_n dX11_recall_6 rfl ?_
    refine xb_getR (a := l0) (c := 11) (k := 2) dX11_recall_7 xcl11 (by decide) xw_585 rfl hf (fun x3 ex3 hf => ?_)
    refine xb_getR (a := x3) (c := 1) (k := 7) dX11_recall_10 xcl1 (by decide) xw_282 rfl hf (fun x4 ex4 hf => ?_)
    refine xm_iload_n dX11_recall_13 rfl ?_
    refine xb_zald dX11_recall_14 hf (fun x5 ex5 hf => ?_)
    refine xb_if_ne 20 dX11_recall_15 (by decide) hf (fun c hf => ?_) (fun c hf => ?_)
    · refine xm_aload_n dX11_recall_20 rfl ?_
      refine xb_getR (a := l0) (c := 11) (k := 10) dX11_recall_21 xcl11 (by decide) xw_593 rfl hf (fun x6 ex6 hf => ?_)
      refine xm_aload_n dX11_recall_24 rfl ?_
      refine xb_getR (a := l0) (c := 11) (k := 2) dX11_recall_25 xcl11 (by decide) xw_585 rfl hf (fun x7 ex7 hf => ?_)
      refine xb_getR (a := x7) (c := 1) (k := 6) dX11_recall_28 xcl1 (by decide) xw_279 rfl hf (fun x8 ex8 hf => ?_)
      refine xm_iload_n dX11_recall_31 rfl ?_
      refine xb_aaldS dX11_recall_32 (by decide) hf (fun x9 ex9 hf => ?_)
      refine xb_if hf (fun hb hf => ?_) (fun _ q => nomatch q)
      obtain ⟨p10, ep10, hf⟩ := xbind hf
      refine xb_callV (As := [.ref x9]) (v0 := none) (τ0 := p10) dX11_recall_33 (xc_X2_copy _ _) xcl2 xw_1210 xw_965 xw_966 hb rfl (Nat.le_of_ble_eq_true rfl) rfl (Nat.le_of_ble_eq_true rfl) (fun Q1 hq => m_X2_copy (d := d + 6) ep10 (fun g hg => by subst hg; exact hq)) ?_
      refine xm_iconst dX11_recall_36 (v := 1) (by decide) ?_
      cases hf
      exact xm_zret dX11_recall_37 rfl rfl (hR _ rfl)
    · refine xm_iconst dX11_recall_18 (v := 0) (by decide) ?_
      cases hf
      exact xm_zret dX11_recall_19 rfl rfl (hR _ rfl)
  · have hf : some ((Sum.inr E), σ) = some _ := hf
    cases hf
    exact xb_callVX (As := [.int l1]) (τ0 := σ) dX11_recall_2 (xc_X11_letterOf _ _) xcl11 xw_898 xw_900 xs_17 hb rfl (Nat.le_of_ble_eq_true rfl) rfl (Nat.le_of_ble_eq_true rfl) (fun Q1 hq => m_X11_letterOf (d := d + 0) ep1 (fun g hg => by subst hg; exact ⟨⟨Nat.le_refl _, Nat.le_refl _⟩, hq⟩)) (hR _ rfl).1 (hR _ rfl).2
-- Rankwise.takeSteps(LRankwise$Tree;I)I
def f_X11_takeSteps_j105 (σ : xM) (l0 : Nat) (l2 : Int32) (l3 : Int32) (l4 : Int32) : Option ((Int32 × xM) ⊕ ((Nat × xM) ⊕ (Nat × Int32 × Int32 × Int32 × xM))) :=
  xlet (l4 + (1 : Int32)) (fun v12 => some (Sum.inr (Sum.inr (l0, l2, l3, v12, σ))))
set_option maxHeartbeats 4000000 in
set_option maxRecDepth 20000 in
theorem L_X11_takeSteps_j105 {G : xG} {π : Nat → Nat} {d C Z : Nat} {Q : xQ} (σ : xM) (l0 : Nat) (l2 : Int32) (l3 : Int32) (l4 : Int32) {x : ((Int32 × xM) ⊕ ((Nat × xM) ⊕ (Nat × Int32 × Int32 × Int32 × xM)))} (hf : f_X11_takeSteps_j105 σ l0 l2 l3 l4 = some x) (hR : ∀ g, x = Sum.inl (g) → Q (.inl (some (.int g.1))) (g.2) π) (hE : ∀ e : (Nat × xM), x = Sum.inr (Sum.inl e) → xMach G π J_X11_takeSteps (d + 6) C Z 111 [(0, .ref e.1)] [] e.2 Q) (hC : ∀ e : (Nat × Int32 × Int32 × Int32 × xM), x = Sum.inr (Sum.inr e) → xMach G π J_X11_takeSteps (d + 6) C Z 18 [(0, .ref e.1), (2, .int e.2.1), (3, .int e.2.2.1), (4, .int e.2.2.2.1)] [] e.2.2.2.2 Q) : xMach G π J_X11_takeSteps (d + 6) C Z 105 [(0, .ref l0), (2, .int l2), (3, .int l3), (4, .int l4)] [] σ Q := by
  unfold f_X11_takeSteps_j105 at hf
  refine xb_iinc dX11_takeSteps_105 rfl (by decide) (by decide) hf (fun v12 ev12 hf => xm_stL (L' := [(4, .int v12), (0, .ref l0), (2, .int l2), (3, .int l3)]) rfl ?_)
  refine xm_goto 18 dX11_takeSteps_108 (by decide) ?_
  cases hf
  exact xm_sub [1, 2, 3, 0] rfl (hC _ rfl)
def f_X11_takeSteps_j63 (σ : xM) (l0 : Nat) (l2 : Int32) (l4 : Int32) (l5 : Int32) (s0 : Int32) : Option ((Int32 × xM) ⊕ ((Nat × xM) ⊕ (Nat × Int32 × Int32 × Int32 × xM))) :=
  (if s0 = (0 : Int32) then f_X11_takeSteps_j105 σ l0 l2 s0 l4 else (gR σ l0 11 13).bind (fun x13 => (gI σ l0 11 15).bind (fun x14 => (wI σ x13 x14 l5).bind (fun σ15 => (gR σ15 l0 11 14).bind (fun x16 => (gI σ15 l0 11 15).bind (fun x17 => (gR σ15 l0 11 8).bind (fun x18 => (gI σ15 x18 7 1).bind (fun x19 => (wI σ15 x16 x17 x19).bind (fun σ20 => (gI σ20 l0 11 15).bind (fun x21 => (sI σ20 l0 11 15 (x21 + (1 : Int32))).bind (fun σ22 => f_X11_takeSteps_j105 σ22 l0 l2 s0 l4)))))))))))
set_option maxHeartbeats 4000000 in
set_option maxRecDepth 20000 in
theorem L_X11_takeSteps_j63 {G : xG} {π : Nat → Nat} {d C Z : Nat} {Q : xQ} (σ : xM) (l0 : Nat) (l2 : Int32) (l4 : Int32) (l5 : Int32) (s0 : Int32) {x : ((Int32 × xM) ⊕ ((Nat × xM) ⊕ (Nat × Int32 × Int32 × Int32 × xM)))} (hf : f_X11_takeSteps_j63 σ l0 l2 l4 l5 s0 = some x) (hR : ∀ g, x = Sum.inl (g) → Q (.inl (some (.int g.1))) (g.2) π) (hE : ∀ e : (Nat × xM), x = Sum.inr (Sum.inl e) → xMach G π J_X11_takeSteps (d + 6) C Z 111 [(0, .ref e.1)] [] e.2 Q) (hC : ∀ e : (Nat × Int32 × Int32 × Int32 × xM), x = Sum.inr (Sum.inr e) → xMach G π J_X11_takeSteps (d + 6) C Z 18 [(0, .ref e.1), (2, .int e.2.1), (3, .int e.2.2.1), (4, .int e.2.2.2.1)] [] e.2.2.2.2 Q) : xMach G π J_X11_takeSteps (d + 6) C Z 63 [(0, .ref l0), (2, .int l2), (4, .int l4), (5, .int l5)] [.int s0] σ Q := by
  unfold f_X11_takeSteps_j63 at hf
  refine xm_istore_n dX11_takeSteps_63 (by decide) (xm_stL (L' := [(3, .int s0), (0, .ref l0), (2, .int l2), (4, .int l4), (5, .int l5)]) rfl ?_)
  refine xm_iload_n dX11_takeSteps_64 rfl ?_
  refine xb_if_eq 105 dX11_takeSteps_65 (by decide) hf (fun c hf => ?_) (fun c hf => ?_)
  · exact xm_sub [1, 2, 0, 3] rfl (L_X11_takeSteps_j105 σ l0 l2 s0 l4 hf hR hE hC)
  · refine xm_aload_n dX11_takeSteps_68 rfl ?_
    refine xb_getR (a := l0) (c := 11) (k := 13) dX11_takeSteps_69 xcl11 (by decide) xw_596 rfl hf (fun x13 ex13 hf => ?_)
    refine xm_aload_n dX11_takeSteps_72 rfl ?_
    refine xb_getI (a := l0) (c := 11) (k := 15) dX11_takeSteps_73 xcl11 (by decide) xw_598 rfl hf (fun x14 ex14 hf => ?_)
    refine xm_iload dX11_takeSteps_76 rfl ?_
    refine xb_iast dX11_takeSteps_78 hf (fun σ15 eσ15 hf => ?_)
    refine xm_aload_n dX11_takeSteps_79 rfl ?_
    refine xb_getR (a := l0) (c := 11) (k := 14) dX11_takeSteps_80 xcl11 (by decide) xw_597 rfl hf (fun x16 ex16 hf => ?_)
    refine xm_aload_n dX11_takeSteps_83 rfl ?_
    refine xb_getI (a := l0) (c := 11) (k := 15) dX11_takeSteps_84 xcl11 (by decide) xw_598 rfl hf (fun x17 ex17 hf => ?_)
    refine xm_aload_n dX11_takeSteps_87 rfl ?_
    refine xb_getR (a := l0) (c := 11) (k := 8) dX11_takeSteps_88 xcl11 (by decide) xw_591 rfl hf (fun x18 ex18 hf => ?_)
    refine xb_getI (a := x18) (c := 7) (k := 1) dX11_takeSteps_91 xcl7 (by decide) xw_522 rfl hf (fun x19 ex19 hf => ?_)
    refine xb_iast dX11_takeSteps_94 hf (fun σ20 eσ20 hf => ?_)
    refine xm_aload_n dX11_takeSteps_95 rfl ?_
    refine xm_dup dX11_takeSteps_96 rfl ?_
    refine xb_getI (a := l0) (c := 11) (k := 15) dX11_takeSteps_97 xcl11 (by decide) xw_598 rfl hf (fun x21 ex21 hf => ?_)
    refine xm_iconst dX11_takeSteps_100 (v := 1) (by decide) ?_
    refine xm_iadd dX11_takeSteps_101 ?_
    refine xb_putI (a := l0) (c := 11) (k := 15) dX11_takeSteps_102 xcl11 (by decide) xw_598 rfl rfl hf (fun σ22 eσ22 hf => ?_)
    exact xm_sub [1, 2, 0, 3] rfl (L_X11_takeSteps_j105 σ22 l0 l2 s0 l4 hf hR hE hC)
def f_X11_takeSteps_s18 (s : (Nat × Int32 × Int32 × Int32 × xM)) : Option ((Int32 × xM) ⊕ ((Nat × xM) ⊕ (Nat × Int32 × Int32 × Int32 × xM))) :=
  xlet s.1 (fun l0 => xlet s.2.1 (fun l2 => xlet s.2.2.1 (fun l3 => xlet s.2.2.2.1 (fun l4 => xlet s.2.2.2.2 (fun σ => (if l2 ≤ l4 then some (Sum.inr (Sum.inl (l0, σ))) else (gI σ l0 11 15).bind (fun x6 => (gR σ l0 11 13).bind (fun x7 => (gL σ x7 14).bind (fun x8 => (if x8 ≤ x6 then some (Sum.inr (Sum.inl (l0, σ))) else (if l3 = (0 : Int32) then some (Sum.inr (Sum.inl (l0, σ))) else (gR σ l0 11 8).bind (fun x9 => (gR σ l0 11 12).bind (fun x10 => (if xk σ x9 7 = true then (f_X7_applyRule σ x9 x10).bind (fun p11 => (if p11.1 = (0 : Int32) then f_X11_takeSteps_j63 p11.2 l0 l2 l4 p11.1 (0 : Int32) else f_X11_takeSteps_j63 p11.2 l0 l2 l4 p11.1 (1 : Int32))) else none))))))))))))))
set_option maxHeartbeats 4000000 in
set_option maxRecDepth 20000 in
theorem L_X11_takeSteps_s18 {G : xG} {π : Nat → Nat} {d C Z : Nat} {Q : xQ} (σ : xM) (l0 : Nat) (l2 : Int32) (l3 : Int32) (l4 : Int32) {x : ((Int32 × xM) ⊕ ((Nat × xM) ⊕ (Nat × Int32 × Int32 × Int32 × xM)))} (hf : f_X11_takeSteps_s18 (l0, l2, l3, l4, σ) = some x) (hR : ∀ g, x = Sum.inl (g) → Q (.inl (some (.int g.1))) (g.2) π) (hE : ∀ e : (Nat × xM), x = Sum.inr (Sum.inl e) → xMach G π J_X11_takeSteps (d + 6) C Z 111 [(0, .ref e.1)] [] e.2 Q) (hC : ∀ e : (Nat × Int32 × Int32 × Int32 × xM), x = Sum.inr (Sum.inr e) → xMach G π J_X11_takeSteps (d + 6) C Z 18 [(0, .ref e.1), (2, .int e.2.1), (3, .int e.2.2.1), (4, .int e.2.2.2.1)] [] e.2.2.2.2 Q) : xMach G π J_X11_takeSteps (d + 6) C Z 18 [(0, .ref l0), (2, .int l2), (3, .int l3), (4, .int l4)] [] σ Q := by
  have hf : (if l2 ≤ l4 then some (Sum.inr (Sum.inl (l0, σ))) else (gI σ l0 11 15).bind (fun x6 => (gR σ l0 11 13).bind (fun x7 => (gL σ x7 14).bind (fun x8 => (if x8 ≤ x6 then some (Sum.inr (Sum.inl (l0, σ))) else (if l3 = (0 : Int32) then some (Sum.inr (Sum.inl (l0, σ))) else (gR σ l0 11 8).bind (fun x9 => (gR σ l0 11 12).bind (fun x10 => (if xk σ x9 7 = true then (f_X7_applyRule σ x9 x10).bind (fun p11 => (if p11.1 = (0 : Int32) then f_X11_takeSteps_j63 p11.2 l0 l2 l4 p11.1 (0 : Int32) else f_X11_takeSteps_j63 p11.2 l0 l2 l4 p11.1 (1 : Int32))) else none))))))))) = some x := hf
  refine xm_iload dX11_takeSteps_18 rfl ?_
  refine xm_iload_n dX11_takeSteps_20 rfl ?_
  refine xb_icmp_ge 111 dX11_takeSteps_21 (by decide) hf (fun c hf => ?_) (fun c hf => ?_)
  · cases hf
    exact xm_sub [0] rfl (hE _ rfl)
  · refine xm_aload_n dX11_takeSteps_24 rfl ?_
    refine xb_getI (a := l0) (c := 11) (k := 15) dX11_takeSteps_25 xcl11 (by decide) xw_598 rfl hf (fun x6 ex6 hf => ?_)
    refine xm_aload_n dX11_takeSteps_28 rfl ?_
    refine xb_getR (a := l0) (c := 11) (k := 13) dX11_takeSteps_29 xcl11 (by decide) xw_596 rfl hf (fun x7 ex7 hf => ?_)
    refine xb_alen dX11_takeSteps_32 (by decide) (by decide) hf (fun x8 ex8 hf => ?_)
    refine xb_icmp_ge 111 dX11_takeSteps_33 (by decide) hf (fun c hf => ?_) (fun c hf => ?_)
    · cases hf
      exact xm_sub [0] rfl (hE _ rfl)
    · refine xm_iload_n dX11_takeSteps_36 rfl ?_
      refine xb_if_eq 111 dX11_takeSteps_37 (by decide) hf (fun c hf => ?_) (fun c hf => ?_)
      · cases hf
        exact xm_sub [0] rfl (hE _ rfl)
      · refine xm_aload_n dX11_takeSteps_40 rfl ?_
        refine xb_getR (a := l0) (c := 11) (k := 8) dX11_takeSteps_41 xcl11 (by decide) xw_591 rfl hf (fun x9 ex9 hf => ?_)
        refine xm_aload_n dX11_takeSteps_44 rfl ?_
        refine xb_getR (a := l0) (c := 11) (k := 12) dX11_takeSteps_45 xcl11 (by decide) xw_595 rfl hf (fun x10 ex10 hf => ?_)
        refine xb_if hf (fun hb hf => ?_) (fun _ q => nomatch q)
        obtain ⟨p11, ep11, hf⟩ := xbind hf
        refine xb_callV (As := [.ref x10]) (v0 := (some (.int p11.1))) (τ0 := p11.2) dX11_takeSteps_48 (xc_X7_applyRule _ _) xcl7 xw_1368 xw_1369 xw_1370 hb rfl (Nat.le_of_ble_eq_true rfl) rfl (Nat.le_of_ble_eq_true rfl) (fun Q1 hq => m_X7_applyRule (d := d + 0) ep11 (fun g hg => by subst hg; exact hq)) ?_
        refine xm_istore dX11_takeSteps_51 (by decide) (xm_stL (L' := [(5, .int p11.1), (0, .ref l0), (2, .int l2), (3, .int l3), (4, .int l4)]) rfl ?_)
        refine xm_iload dX11_takeSteps_53 rfl ?_
        refine xb_if_eq 62 dX11_takeSteps_55 (by decide) hf (fun c hf => ?_) (fun c hf => ?_)
        · refine xm_iconst dX11_takeSteps_62 (v := 0) (by decide) ?_
          exact xm_sub [1, 2, 4, 0] rfl (L_X11_takeSteps_j63 p11.2 l0 l2 l4 p11.1 (0 : Int32) hf hR hE hC)
        · refine xm_iconst dX11_takeSteps_58 (v := 1) (by decide) ?_
          refine xm_goto 63 dX11_takeSteps_59 (by decide) ?_
          exact xm_sub [1, 2, 4, 0] rfl (L_X11_takeSteps_j63 p11.2 l0 l2 l4 p11.1 (1 : Int32) hf hR hE hC)
theorem L_X11_takeSteps_l18 {G : xG} {π : Nat → Nat} {d C Z : Nat} {Q : xQ} {s0 : (Nat × Int32 × Int32 × Int32 × xM)} {x : ((Int32 × xM) ⊕ (Nat × xM))} (h1 : xloop (f_X11_takeSteps_s18) xF s0 = some x) (hR : ∀ g, x = Sum.inl g → Q (.inl (some (.int g.1))) (g.2) π) (hE : ∀ e : (Nat × xM), x = Sum.inr e → xMach G π J_X11_takeSteps (d + 6) C Z 111 [(0, .ref e.1)] [] e.2 Q) : xMach G π J_X11_takeSteps (d + 6) C Z 18 [(0, .ref s0.1), (2, .int s0.2.1), (3, .int s0.2.2.1), (4, .int s0.2.2.2.1)] [] s0.2.2.2.2 Q := by
  refine xloop_run (M := (fun s : (Nat × Int32 × Int32 × Int32 × xM) => xMach G π J_X11_takeSteps (d + 6) C Z 18 [(0, .ref s.1), (2, .int s.2.1), (3, .int s.2.2.1), (4, .int s.2.2.2.1)] [] s.2.2.2.2 Q)) (r := x) ?_ xF _ h1
  intro s y hs hx
  exact L_X11_takeSteps_s18 s.2.2.2.2 s.1 s.2.1 s.2.2.1 s.2.2.2.1 (x := y) hs (fun g hg => by subst hg; exact hR g hx) (fun e he => by subst he; exact hE e hx) (fun e he => by subst he; exact hx)
def f_X11_takeSteps_j111 (σ : xM) (l0 : Nat) : Option (Int32 × xM) :=
  (gI σ l0 11 15).bind (fun x23 => some (x23, σ))
set_option maxHeartbeats 4000000 in
set_option maxRecDepth 20000 in
theorem L_X11_takeSteps_j111 {G : xG} {π : Nat → Nat} {d C Z : Nat} {Q : xQ} (σ : xM) (l0 : Nat) {x : (Int32 × xM)} (hf : f_X11_takeSteps_j111 σ l0 = some x) (hR : ∀ g, x = g → Q (.inl (some (.int g.1))) (g.2) π) : xMach G π J_X11_takeSteps (d + 6) C Z 111 [(0, .ref l0)] [] σ Q := by
  unfold f_X11_takeSteps_j111 at hf
  refine xm_aload_n dX11_takeSteps_111 rfl ?_
  refine xb_getI (a := l0) (c := 11) (k := 15) dX11_takeSteps_112 xcl11 (by decide) xw_598 rfl hf (fun x23 ex23 hf => ?_)
  cases hf
  exact xm_iret dX11_takeSteps_115 rfl (hR _ rfl)
def f_X11_takeSteps (σ : xM) (l0 : Nat) (l1 : Nat) (l2 : Int32) : Option (Int32 × xM) :=
  (gR σ l0 11 12).bind (fun x1 => (if xk σ x1 9 = true then (f_X9_copy σ x1 l1).bind (fun p2 => (sI p2 l0 11 15 (0 : Int32)).bind (fun σ3 => xlet (1 : Int32) (fun v4 => xlet (0 : Int32) (fun v5 => (xloop (f_X11_takeSteps_s18 ) xF (l0, l2, v4, v5, σ3)).bind (Sum.elim (fun g => some g) (fun e => f_X11_takeSteps_j111 e.2 e.1)))))) else none))
set_option maxHeartbeats 4000000 in
set_option maxRecDepth 20000 in
theorem m_X11_takeSteps {G : xG} {π : Nat → Nat} {d C Z : Nat} {Q : xQ} {σ : xM} {l0 : Nat} {l1 : Nat} {l2 : Int32} {x : (Int32 × xM)} (hf : f_X11_takeSteps σ l0 l1 l2 = some x) (hR : ∀ g, x = g → Q (.inl (some (.int g.1))) (g.2) π) : xMach G π J_X11_takeSteps (d + 6) C Z 0 (lv_args 0 [.ref l0, .ref l1, .int l2]) [] σ Q := by
  unfold f_X11_takeSteps at hf
  refine xm_stL (L' := [(0, .ref l0), (1, .ref l1), (2, .int l2)]) rfl ?_
  refine xm_aload_n dX11_takeSteps_0 rfl ?_
  refine xb_getR (a := l0) (c := 11) (k := 12) dX11_takeSteps_1 xcl11 (by decide) xw_595 rfl hf (fun x1 ex1 hf => ?_)
  refine xm_aload_n dX11_takeSteps_4 rfl ?_
  refine xb_if hf (fun hb hf => ?_) (fun _ q => nomatch q)
  obtain ⟨p2, ep2, hf⟩ := xbind hf
  refine xb_callV (As := [.ref l1]) (v0 := none) (τ0 := p2) dX11_takeSteps_5 (xc_X9_copy _ _) xcl9 xw_1367 xw_824 xw_825 hb rfl (Nat.le_of_ble_eq_true rfl) rfl (Nat.le_of_ble_eq_true rfl) (fun Q1 hq => m_X9_copy (d := d + 2) ep2 (fun g hg => by subst hg; exact hq)) ?_
  refine xm_aload_n dX11_takeSteps_8 rfl ?_
  refine xm_iconst dX11_takeSteps_9 (v := 0) (by decide) ?_
  refine xb_putI (a := l0) (c := 11) (k := 15) dX11_takeSteps_10 xcl11 (by decide) xw_598 rfl rfl hf (fun σ3 eσ3 hf => ?_)
  refine xm_iconst dX11_takeSteps_13 (v := 1) (by decide) ?_
  refine xb_topi hf (fun v4 ev4 hf => ?_)
  refine xm_istore_n dX11_takeSteps_14 (by decide) (xm_stL (L' := [(3, .int v4), (0, .ref l0), (1, .ref l1), (2, .int l2)]) rfl ?_)
  refine xm_iconst dX11_takeSteps_15 (v := 0) (by decide) ?_
  refine xb_topi hf (fun v5 ev5 hf => ?_)
  refine xm_istore dX11_takeSteps_16 (by decide) (xm_stL (L' := [(4, .int v5), (3, .int v4), (0, .ref l0), (1, .ref l1), (2, .int l2)]) rfl ?_)
  obtain ⟨o, h1, hf⟩ := xbind hf
  refine xm_sub [2, 4, 1, 0] rfl (L_X11_takeSteps_l18  h1 (fun g hg => ?_) (fun e he => ?_))
  · subst hg
    cases hf
    exact hR _ rfl
  · subst he
    rw [Sum.elim_inr] at hf
    have hf : f_X11_takeSteps_j111 e.2 e.1 = some _ := hf
    exact xm_sub [0] rfl (L_X11_takeSteps_j111 e.2 e.1 hf hR)
-- Rankwise.step(I)I
def f_X11_step_j34 (σ : xM) (s0 : Int32) : Option ((Int32 ⊕ String) × xM) :=
  some ((Sum.inl s0), σ)
set_option maxHeartbeats 4000000 in
set_option maxRecDepth 20000 in
theorem L_X11_step_j34 {G : xG} {π : Nat → Nat} {d C Z : Nat} {Q : xQ} (σ : xM) (s0 : Int32) {x : ((Int32 ⊕ String) × xM)} (hf : f_X11_step_j34 σ s0 = some x) (hR : ∀ g, x = g → Sum.elim (fun v => Q (.inl (some (.int v))) (g.2) π) (fun E => (1 ≤ C ∧ 6 ≤ Z) ∧ Q (.inr E) (g.2) π) (g.1)) : xMach G π J_X11_step (d + 8) C Z 34 [] [.int s0] σ Q := by
  unfold f_X11_step_j34 at hf
  cases hf
  exact xm_iret dX11_step_34 rfl (hR _ rfl)
def f_X11_step (σ : xM) (l0 : Nat) (l1 : Int32) : Option ((Int32 ⊕ String) × xM) :=
  (if xk σ l0 11 = true then (f_X11_treeAt σ l0 l1).bind (fun p1 => Sum.elim (fun w2 => (if xk σ l0 11 = true then (f_X11_needRoom σ l0).bind (fun p3 => Sum.elim (fun w4 => (if xk σ l0 11 = true then (f_X11_takeSteps σ l0 w2 (1 : Int32)).bind (fun p5 => (if p5.1 = (0 : Int32) then f_X11_step_j34 p5.2 (-1 : Int32) else (gR p5.2 l0 11 2).bind (fun x6 => (gR p5.2 l0 11 12).bind (fun x7 => (if xk p5.2 x6 1 = true then (f_X1_shelve p5.2 x6 x7).bind (fun p8 => f_X11_step_j34 p8.2 p8.1) else none))))) else none)) (fun E => some ((Sum.inr E), σ)) p3) else none)) (fun E => some ((Sum.inr E), σ)) p1) else none)
set_option maxHeartbeats 4000000 in
set_option maxRecDepth 20000 in
theorem m_X11_step {G : xG} {π : Nat → Nat} {d C Z : Nat} {Q : xQ} {σ : xM} {l0 : Nat} {l1 : Int32} {x : ((Int32 ⊕ String) × xM)} (hf : f_X11_step σ l0 l1 = some x) (hR : ∀ g, x = g → Sum.elim (fun v => Q (.inl (some (.int v))) (g.2) π) (fun E => (1 ≤ C ∧ 6 ≤ Z) ∧ Q (.inr E) (g.2) π) (g.1)) : xMach G π J_X11_step (d + 8) C Z 0 (lv_args 0 [.ref l0, .int l1]) [] σ Q := by
  unfold f_X11_step at hf
  refine xm_stL (L' := [(0, .ref l0), (1, .int l1)]) rfl ?_
  refine xm_aload_n dX11_step_0 rfl ?_
  refine xm_iload_n dX11_step_1 rfl ?_
  refine xb_if hf (fun hb hf => ?_) (fun _ q => nomatch q)
  obtain ⟨p1, ep1, hf⟩ := xbind hf
  rcases p1 with w2 | E
  · have hf : (if xk σ l0 11 = true then (f_X11_needRoom σ l0).bind (fun p3 => Sum.elim (fun w4 => (if xk σ l0 11 = true then (f_X11_takeSteps σ l0 w2 (1 : Int32)).bind (fun p5 => (if p5.1 = (0 : Int32) then f_X11_step_j34 p5.2 (-1 : Int32) else (gR p5.2 l0 11 2).bind (fun x6 => (gR p5.2 l0 11 12).bind (fun x7 => (if xk p5.2 x6 1 = true then (f_X1_shelve p5.2 x6 x7).bind (fun p8 => f_X11_step_j34 p8.2 p8.1) else none))))) else none)) (fun E => some ((Sum.inr E), σ)) p3) else none) = some _ := hf
    refine xb_callV (As := [.int l1]) (v0 := (some (.ref w2))) (τ0 := σ) dX11_step_2 (xc_X11_treeAt _ _) xcl11 xw_907 xw_909 xs_19 hb rfl (Nat.le_of_ble_eq_true rfl) rfl (Nat.le_of_ble_eq_true rfl) (fun Q1 hq => m_X11_treeAt (d := d + 0) ep1 (fun g hg => by subst hg; exact hq)) ?_
    refine xm_astore_n dX11_step_5 (by decide) (xm_stL (L' := [(2, .ref w2), (0, .ref l0), (1, .int l1)]) rfl ?_)
    refine xm_aload_n dX11_step_6 rfl ?_
    refine xb_if hf (fun hb hf => ?_) (fun _ q => nomatch q)
    obtain ⟨p3, ep3, hf⟩ := xbind hf
    rcases p3 with w4 | E
    · have hf : (if xk σ l0 11 = true then (f_X11_takeSteps σ l0 w2 (1 : Int32)).bind (fun p5 => (if p5.1 = (0 : Int32) then f_X11_step_j34 p5.2 (-1 : Int32) else (gR p5.2 l0 11 2).bind (fun x6 => (gR p5.2 l0 11 12).bind (fun x7 => (if xk p5.2 x6 1 = true then (f_X1_shelve p5.2 x6 x7).bind (fun p8 => f_X11_step_j34 p8.2 p8.1) else none))))) else none) = some _ := hf
      refine xb_callV (As := []) (v0 := none) (τ0 := σ) dX11_step_7 (xc_X11_needRoom _ _) xcl11 xw_801 xw_803 xs_14 hb rfl (Nat.le_of_ble_eq_true rfl) rfl (Nat.le_of_ble_eq_true rfl) (fun Q1 hq => m_X11_needRoom (d := d + 0) ep3 (fun g hg => by subst hg; exact hq)) ?_
      refine xm_aload_n dX11_step_10 rfl ?_
      refine xm_aload_n dX11_step_11 rfl ?_
      refine xm_iconst dX11_step_12 (v := 1) (by decide) ?_
      refine xb_if hf (fun hb hf => ?_) (fun _ q => nomatch q)
      obtain ⟨p5, ep5, hf⟩ := xbind hf
      refine xb_callV (As := [.ref w2, .int (1 : Int32)]) (v0 := (some (.int p5.1))) (τ0 := p5.2) dX11_step_13 (xc_X11_takeSteps _ _) xcl11 xw_1581 xw_1583 xs_70 hb rfl (Nat.le_of_ble_eq_true rfl) rfl (Nat.le_of_ble_eq_true rfl) (fun Q1 hq => m_X11_takeSteps (d := d + 1) ep5 (fun g hg => by subst hg; exact hq)) ?_
      refine xb_if_ne 23 dX11_step_16 (by decide) hf (fun c hf => ?_) (fun c hf => ?_)
      · refine xm_aload_n dX11_step_23 rfl ?_
        refine xb_getR (a := l0) (c := 11) (k := 2) dX11_step_24 xcl11 (by decide) xw_585 rfl hf (fun x6 ex6 hf => ?_)
        refine xm_aload_n dX11_step_27 rfl ?_
        refine xb_getR (a := l0) (c := 11) (k := 12) dX11_step_28 xcl11 (by decide) xw_595 rfl hf (fun x7 ex7 hf => ?_)
        refine xb_if hf (fun hb hf => ?_) (fun _ q => nomatch q)
        obtain ⟨p8, ep8, hf⟩ := xbind hf
        refine xb_callV (As := [.ref x7]) (v0 := (some (.int p8.1))) (τ0 := p8.2) dX11_step_31 (xc_X1_shelve _ _) xcl1 xw_819 xw_820 xw_821 hb rfl (Nat.le_of_ble_eq_true rfl) rfl (Nat.le_of_ble_eq_true rfl) (fun Q1 hq => m_X1_shelve (d := d + 3) ep8 (fun g hg => by subst hg; exact hq)) ?_
        exact xm_sub [] rfl (L_X11_step_j34 p8.2 p8.1 hf hR)
      · refine xm_iconst dX11_step_19 (v := -1) (by decide) ?_
        refine xm_goto 34 dX11_step_20 (by decide) ?_
        exact xm_sub [] rfl (L_X11_step_j34 p5.2 (-1 : Int32) hf hR)
    · have hf : some ((Sum.inr E), σ) = some _ := hf
      cases hf
      exact xb_callVX (As := []) (τ0 := σ) dX11_step_7 (xc_X11_needRoom _ _) xcl11 xw_801 xw_803 xs_14 hb rfl (Nat.le_of_ble_eq_true rfl) rfl (Nat.le_of_ble_eq_true rfl) (fun Q1 hq => m_X11_needRoom (d := d + 0) ep3 (fun g hg => by subst hg; exact ⟨⟨Nat.le_refl _, Nat.le_refl _⟩, hq⟩)) (hR _ rfl).1 (hR _ rfl).2
  · have hf : some ((Sum.inr E), σ) = some _ := hf
    cases hf
    exact xb_callVX (As := [.int l1]) (τ0 := σ) dX11_step_2 (xc_X11_treeAt _ _) xcl11 xw_907 xw_909 xs_19 hb rfl (Nat.le_of_ble_eq_true rfl) rfl (Nat.le_of_ble_eq_true rfl) (fun Q1 hq => m_X11_treeAt (d := d + 0) ep1 (fun g hg => by subst hg; exact ⟨⟨Nat.le_refl _, Nat.le_refl _⟩, hq⟩)) (hR _ rfl).1 (hR _ rfl).2
-- Rankwise.simplify(I)I
def f_X11_simplify_j35 (σ : xM) (s0 : Int32) : Option ((Int32 ⊕ String) × xM) :=
  some ((Sum.inl s0), σ)
set_option maxHeartbeats 4000000 in
set_option maxRecDepth 20000 in
theorem L_X11_simplify_j35 {G : xG} {π : Nat → Nat} {d C Z : Nat} {Q : xQ} (σ : xM) (s0 : Int32) {x : ((Int32 ⊕ String) × xM)} (hf : f_X11_simplify_j35 σ s0 = some x) (hR : ∀ g, x = g → Sum.elim (fun v => Q (.inl (some (.int v))) (g.2) π) (fun E => (1 ≤ C ∧ 6 ≤ Z) ∧ Q (.inr E) (g.2) π) (g.1)) : xMach G π J_X11_simplify (d + 8) C Z 35 [] [.int s0] σ Q := by
  unfold f_X11_simplify_j35 at hf
  cases hf
  exact xm_iret dX11_simplify_35 rfl (hR _ rfl)
def f_X11_simplify (σ : xM) (l0 : Nat) (l1 : Int32) : Option ((Int32 ⊕ String) × xM) :=
  (if xk σ l0 11 = true then (f_X11_treeAt σ l0 l1).bind (fun p1 => Sum.elim (fun w2 => (if xk σ l0 11 = true then (f_X11_needRoom σ l0).bind (fun p3 => Sum.elim (fun w4 => (if xk σ l0 11 = true then (f_X11_takeSteps σ l0 w2 (80 : Int32)).bind (fun p5 => (if p5.1 = (0 : Int32) then f_X11_simplify_j35 p5.2 l1 else (gR p5.2 l0 11 2).bind (fun x6 => (gR p5.2 l0 11 12).bind (fun x7 => (if xk p5.2 x6 1 = true then (f_X1_shelve p5.2 x6 x7).bind (fun p8 => f_X11_simplify_j35 p8.2 p8.1) else none))))) else none)) (fun E => some ((Sum.inr E), σ)) p3) else none)) (fun E => some ((Sum.inr E), σ)) p1) else none)
set_option maxHeartbeats 4000000 in
set_option maxRecDepth 20000 in
theorem m_X11_simplify {G : xG} {π : Nat → Nat} {d C Z : Nat} {Q : xQ} {σ : xM} {l0 : Nat} {l1 : Int32} {x : ((Int32 ⊕ String) × xM)} (hf : f_X11_simplify σ l0 l1 = some x) (hR : ∀ g, x = g → Sum.elim (fun v => Q (.inl (some (.int v))) (g.2) π) (fun E => (1 ≤ C ∧ 6 ≤ Z) ∧ Q (.inr E) (g.2) π) (g.1)) : xMach G π J_X11_simplify (d + 8) C Z 0 (lv_args 0 [.ref l0, .int l1]) [] σ Q := by
  unfold f_X11_simplify at hf
  refine xm_stL (L' := [(0, .ref l0), (1, .int l1)]) rfl ?_
  refine xm_aload_n dX11_simplify_0 rfl ?_
  refine xm_iload_n dX11_simplify_1 rfl ?_
  refine xb_if hf (fun hb hf => ?_) (fun _ q => nomatch q)
  obtain ⟨p1, ep1, hf⟩ := xbind hf
  rcases p1 with w2 | E
  · have hf : (if xk σ l0 11 = true then (f_X11_needRoom σ l0).bind (fun p3 => Sum.elim (fun w4 => (if xk σ l0 11 = true then (f_X11_takeSteps σ l0 w2 (80 : Int32)).bind (fun p5 => (if p5.1 = (0 : Int32) then f_X11_simplify_j35 p5.2 l1 else (gR p5.2 l0 11 2).bind (fun x6 => (gR p5.2 l0 11 12).bind (fun x7 => (if xk p5.2 x6 1 = true then (f_X1_shelve p5.2 x6 x7).bind (fun p8 => f_X11_simplify_j35 p8.2 p8.1) else none))))) else none)) (fun E => some ((Sum.inr E), σ)) p3) else none) = some _ := hf
    refine xb_callV (As := [.int l1]) (v0 := (some (.ref w2))) (τ0 := σ) dX11_simplify_2 (xc_X11_treeAt _ _) xcl11 xw_907 xw_909 xs_19 hb rfl (Nat.le_of_ble_eq_true rfl) rfl (Nat.le_of_ble_eq_true rfl) (fun Q1 hq => m_X11_treeAt (d := d + 0) ep1 (fun g hg => by subst hg; exact hq)) ?_
    refine xm_astore_n dX11_simplify_5 (by decide) (xm_stL (L' := [(2, .ref w2), (0, .ref l0), (1, .int l1)]) rfl ?_)
    refine xm_aload_n dX11_simplify_6 rfl ?_
    refine xb_if hf (fun hb hf => ?_) (fun _ q => nomatch q)
    obtain ⟨p3, ep3, hf⟩ := xbind hf
    rcases p3 with w4 | E
    · have hf : (if xk σ l0 11 = true then (f_X11_takeSteps σ l0 w2 (80 : Int32)).bind (fun p5 => (if p5.1 = (0 : Int32) then f_X11_simplify_j35 p5.2 l1 else (gR p5.2 l0 11 2).bind (fun x6 => (gR p5.2 l0 11 12).bind (fun x7 => (if xk p5.2 x6 1 = true then (f_X1_shelve p5.2 x6 x7).bind (fun p8 => f_X11_simplify_j35 p8.2 p8.1) else none))))) else none) = some _ := hf
      refine xb_callV (As := []) (v0 := none) (τ0 := σ) dX11_simplify_7 (xc_X11_needRoom _ _) xcl11 xw_801 xw_803 xs_14 hb rfl (Nat.le_of_ble_eq_true rfl) rfl (Nat.le_of_ble_eq_true rfl) (fun Q1 hq => m_X11_needRoom (d := d + 0) ep3 (fun g hg => by subst hg; exact hq)) ?_
      refine xm_aload_n dX11_simplify_10 rfl ?_
      refine xm_aload_n dX11_simplify_11 rfl ?_
      refine xm_bipush dX11_simplify_12 (v := 80) (by decide) ?_
      refine xb_if hf (fun hb hf => ?_) (fun _ q => nomatch q)
      obtain ⟨p5, ep5, hf⟩ := xbind hf
      refine xb_callV (As := [.ref w2, .int (80 : Int32)]) (v0 := (some (.int p5.1))) (τ0 := p5.2) dX11_simplify_14 (xc_X11_takeSteps _ _) xcl11 xw_1581 xw_1583 xs_70 hb rfl (Nat.le_of_ble_eq_true rfl) rfl (Nat.le_of_ble_eq_true rfl) (fun Q1 hq => m_X11_takeSteps (d := d + 1) ep5 (fun g hg => by subst hg; exact hq)) ?_
      refine xb_if_ne 24 dX11_simplify_17 (by decide) hf (fun c hf => ?_) (fun c hf => ?_)
      · refine xm_aload_n dX11_simplify_24 rfl ?_
        refine xb_getR (a := l0) (c := 11) (k := 2) dX11_simplify_25 xcl11 (by decide) xw_585 rfl hf (fun x6 ex6 hf => ?_)
        refine xm_aload_n dX11_simplify_28 rfl ?_
        refine xb_getR (a := l0) (c := 11) (k := 12) dX11_simplify_29 xcl11 (by decide) xw_595 rfl hf (fun x7 ex7 hf => ?_)
        refine xb_if hf (fun hb hf => ?_) (fun _ q => nomatch q)
        obtain ⟨p8, ep8, hf⟩ := xbind hf
        refine xb_callV (As := [.ref x7]) (v0 := (some (.int p8.1))) (τ0 := p8.2) dX11_simplify_32 (xc_X1_shelve _ _) xcl1 xw_819 xw_820 xw_821 hb rfl (Nat.le_of_ble_eq_true rfl) rfl (Nat.le_of_ble_eq_true rfl) (fun Q1 hq => m_X1_shelve (d := d + 3) ep8 (fun g hg => by subst hg; exact hq)) ?_
        exact xm_sub [] rfl (L_X11_simplify_j35 p8.2 p8.1 hf hR)
      · refine xm_iload_n dX11_simplify_20 rfl ?_
        refine xm_goto 35 dX11_simplify_21 (by decide) ?_
        exact xm_sub [] rfl (L_X11_simplify_j35 p5.2 l1 hf hR)
    · have hf : some ((Sum.inr E), σ) = some _ := hf
      cases hf
      exact xb_callVX (As := []) (τ0 := σ) dX11_simplify_7 (xc_X11_needRoom _ _) xcl11 xw_801 xw_803 xs_14 hb rfl (Nat.le_of_ble_eq_true rfl) rfl (Nat.le_of_ble_eq_true rfl) (fun Q1 hq => m_X11_needRoom (d := d + 0) ep3 (fun g hg => by subst hg; exact ⟨⟨Nat.le_refl _, Nat.le_refl _⟩, hq⟩)) (hR _ rfl).1 (hR _ rfl).2
  · have hf : some ((Sum.inr E), σ) = some _ := hf
    cases hf
    exact xb_callVX (As := [.int l1]) (τ0 := σ) dX11_simplify_2 (xc_X11_treeAt _ _) xcl11 xw_907 xw_909 xs_19 hb rfl (Nat.le_of_ble_eq_true rfl) rfl (Nat.le_of_ble_eq_true rfl) (fun Q1 hq => m_X11_treeAt (d := d + 0) ep1 (fun g hg => by subst hg; exact ⟨⟨Nat.le_refl _, Nat.le_refl _⟩, hq⟩)) (hR _ rfl).1 (hR _ rfl).2
-- Rankwise.trace(II)I
def f_X11_trace_j9 (σ : xM)  : Option (Int32 ⊕ String) :=
  some (Sum.inr "java/lang/IllegalArgumentException")
set_option maxHeartbeats 4000000 in
set_option maxRecDepth 20000 in
theorem L_X11_trace_j9 {G : xG} {π : Nat → Nat} {d C Z : Nat} {Q : xQ} (σ : xM)  {x : (Int32 ⊕ String)} (hf : f_X11_trace_j9 σ = some x) (hR : ∀ g, x = g → Sum.elim (fun v => Q (.inl (some (.int v))) (σ) π) (fun E => (1 ≤ C ∧ 6 ≤ Z) ∧ Q (.inr E) (σ) π) (g)) : xMach G π J_X11_trace (d + 7) C Z 9 [] [] σ Q := by
  unfold f_X11_trace_j9 at hf
  cases hf
  exact xb_throwSW (text := "what is not 0 or 1") dX11_trace_9 dX11_trace_12 dX11_trace_13 dX11_trace_16 dX11_trace_19 xt_X11_169_173 (by decide) (by omega) (Nat.le_of_ble_eq_true rfl) (hR _ rfl).1 (hR _ rfl).2
def f_X11_trace_j32 (σ : xM)  : Option (Int32 ⊕ String) :=
  some (Sum.inl (-1 : Int32))
set_option maxHeartbeats 4000000 in
set_option maxRecDepth 20000 in
theorem L_X11_trace_j32 {G : xG} {π : Nat → Nat} {d C Z : Nat} {Q : xQ} (σ : xM)  {x : (Int32 ⊕ String)} (hf : f_X11_trace_j32 σ = some x) (hR : ∀ g, x = g → Sum.elim (fun v => Q (.inl (some (.int v))) (σ) π) (fun E => (1 ≤ C ∧ 6 ≤ Z) ∧ Q (.inr E) (σ) π) (g)) : xMach G π J_X11_trace (d + 7) C Z 32 [] [] σ Q := by
  unfold f_X11_trace_j32 at hf
  refine xm_iconst dX11_trace_32 (v := -1) (by decide) ?_
  cases hf
  exact xm_iret dX11_trace_33 rfl (hR _ rfl)
def f_X11_trace_j53 (σ : xM) (s0 : Int32) : Option (Int32 ⊕ String) :=
  some (Sum.inl s0)
set_option maxHeartbeats 4000000 in
set_option maxRecDepth 20000 in
theorem L_X11_trace_j53 {G : xG} {π : Nat → Nat} {d C Z : Nat} {Q : xQ} (σ : xM) (s0 : Int32) {x : (Int32 ⊕ String)} (hf : f_X11_trace_j53 σ s0 = some x) (hR : ∀ g, x = g → Sum.elim (fun v => Q (.inl (some (.int v))) (σ) π) (fun E => (1 ≤ C ∧ 6 ≤ Z) ∧ Q (.inr E) (σ) π) (g)) : xMach G π J_X11_trace (d + 7) C Z 53 [] [.int s0] σ Q := by
  unfold f_X11_trace_j53 at hf
  cases hf
  exact xm_iret dX11_trace_53 rfl (hR _ rfl)
def f_X11_trace (σ : xM) (l0 : Nat) (l1 : Int32) (l2 : Int32) : Option (Int32 ⊕ String) :=
  (if l2 < (0 : Int32) then f_X11_trace_j9 σ else (if l2 ≤ (1 : Int32) then (if l1 < (0 : Int32) then f_X11_trace_j32 σ else (gI σ l0 11 15).bind (fun x1 => (if l1 < x1 then (if l2 = (0 : Int32) then (gR σ l0 11 13).bind (fun x4 => (aI σ x4 14 l1).bind (fun x5 => f_X11_trace_j53 σ x5)) else (gR σ l0 11 14).bind (fun x2 => (aI σ x2 14 l1).bind (fun x3 => f_X11_trace_j53 σ x3))) else f_X11_trace_j32 σ))) else f_X11_trace_j9 σ))
set_option maxHeartbeats 4000000 in
set_option maxRecDepth 20000 in
theorem m_X11_trace {G : xG} {π : Nat → Nat} {d C Z : Nat} {Q : xQ} {σ : xM} {l0 : Nat} {l1 : Int32} {l2 : Int32} {x : (Int32 ⊕ String)} (hf : f_X11_trace σ l0 l1 l2 = some x) (hR : ∀ g, x = g → Sum.elim (fun v => Q (.inl (some (.int v))) (σ) π) (fun E => (1 ≤ C ∧ 6 ≤ Z) ∧ Q (.inr E) (σ) π) (g)) : xMach G π J_X11_trace (d + 7) C Z 0 (lv_args 0 [.ref l0, .int l1, .int l2]) [] σ Q := by
  unfold f_X11_trace at hf
  refine xm_stL (L' := [(0, .ref l0), (1, .int l1), (2, .int l2)]) rfl ?_
  refine xm_iload_n dX11_trace_0 rfl ?_
  refine xb_if_lt 9 dX11_trace_1 (by decide) hf (fun c hf => ?_) (fun c hf => ?_)
  · exact xm_sub [] rfl (L_X11_trace_j9 σ hf hR)
  · refine xm_iload_n dX11_trace_4 rfl ?_
    refine xm_iconst dX11_trace_5 (v := 1) (by decide) ?_
    refine xb_icmp_le 20 dX11_trace_6 (by decide) hf (fun c hf => ?_) (fun c hf => ?_)
    · refine xm_iload_n dX11_trace_20 rfl ?_
      refine xb_if_lt 32 dX11_trace_21 (by decide) hf (fun c hf => ?_) (fun c hf => ?_)
      · exact xm_sub [] rfl (L_X11_trace_j32 σ hf hR)
      · refine xm_iload_n dX11_trace_24 rfl ?_
        refine xm_aload_n dX11_trace_25 rfl ?_
        refine xb_getI (a := l0) (c := 11) (k := 15) dX11_trace_26 xcl11 (by decide) xw_598 rfl hf (fun x1 ex1 hf => ?_)
        refine xb_icmp_lt 34 dX11_trace_29 (by decide) hf (fun c hf => ?_) (fun c hf => ?_)
        · refine xm_iload_n dX11_trace_34 rfl ?_
          refine xb_if_ne 47 dX11_trace_35 (by decide) hf (fun c hf => ?_) (fun c hf => ?_)
          · refine xm_aload_n dX11_trace_47 rfl ?_
            refine xb_getR (a := l0) (c := 11) (k := 14) dX11_trace_48 xcl11 (by decide) xw_597 rfl hf (fun x2 ex2 hf => ?_)
            refine xm_iload_n dX11_trace_51 rfl ?_
            refine xb_iald dX11_trace_52 hf (fun x3 ex3 hf => ?_)
            exact xm_sub [] rfl (L_X11_trace_j53 σ x3 hf hR)
          · refine xm_aload_n dX11_trace_38 rfl ?_
            refine xb_getR (a := l0) (c := 11) (k := 13) dX11_trace_39 xcl11 (by decide) xw_596 rfl hf (fun x4 ex4 hf => ?_)
            refine xm_iload_n dX11_trace_42 rfl ?_
            refine xb_iald dX11_trace_43 hf (fun x5 ex5 hf => ?_)
            refine xm_goto 53 dX11_trace_44 (by decide) ?_
            exact xm_sub [] rfl (L_X11_trace_j53 σ x5 hf hR)
        · exact xm_sub [] rfl (L_X11_trace_j32 σ hf hR)
    · exact xm_sub [] rfl (L_X11_trace_j9 σ hf hR)
-- Rankwise.undo()I
def f_X11_undo (σ : xM) (l0 : Nat) : Option (Int32 × xM) :=
  (gR σ l0 11 2).bind (fun x1 => (if xk σ x1 1 = true then (f_X1_takeBack σ x1).bind (fun p2 => some (p2.1, p2.2)) else none))
set_option maxHeartbeats 4000000 in
set_option maxRecDepth 20000 in
theorem m_X11_undo {G : xG} {π : Nat → Nat} {d C Z : Nat} {Q : xQ} {σ : xM} {l0 : Nat} {x : (Int32 × xM)} (hf : f_X11_undo σ l0 = some x) (hR : ∀ g, x = g → Q (.inl (some (.int g.1))) (g.2) π) : xMach G π J_X11_undo (d + 4) C Z 0 (lv_args 0 [.ref l0]) [] σ Q := by
  unfold f_X11_undo at hf
  refine xm_stL (L' := [(0, .ref l0)]) rfl ?_
  refine xm_aload_n dX11_undo_0 rfl ?_
  refine xb_getR (a := l0) (c := 11) (k := 2) dX11_undo_1 xcl11 (by decide) xw_585 rfl hf (fun x1 ex1 hf => ?_)
  refine xb_if hf (fun hb hf => ?_) (fun _ q => nomatch q)
  obtain ⟨p2, ep2, hf⟩ := xbind hf
  refine xb_callV (As := []) (v0 := (some (.int p2.1))) (τ0 := p2.2) dX11_undo_4 (xc_X1_takeBack _ _) xcl1 xw_1215 xw_1216 xw_1217 hb rfl (Nat.le_of_ble_eq_true rfl) rfl (Nat.le_of_ble_eq_true rfl) (fun Q1 hq => m_X1_takeBack (d := d + 0) ep2 (fun g hg => by subst hg; exact hq)) ?_
  cases hf
  exact xm_iret dX11_undo_7 rfl (hR _ rfl)
-- Rankwise.postfixAgrees(LRankwise$Tree;)Z
def f_X11_postfixAgrees_j88 (σ : xM) (s0 : Int32) : Option (Int32 × xM) :=
  (xz s0).bind (fun b10 => some (b10, σ))
set_option maxHeartbeats 4000000 in
set_option maxRecDepth 20000 in
theorem L_X11_postfixAgrees_j88 {G : xG} {π : Nat → Nat} {d C Z : Nat} {Q : xQ} (σ : xM) (s0 : Int32) {x : (Int32 × xM)} (hf : f_X11_postfixAgrees_j88 σ s0 = some x) (hR : ∀ g, x = g → Q (.inl (some (.int g.1))) (g.2) π) : xMach G π J_X11_postfixAgrees (d + 6) C Z 88 [] [.int s0] σ Q := by
  unfold f_X11_postfixAgrees_j88 at hf
  obtain ⟨b10, eb10, hf⟩ := xbind hf
  obtain ⟨rfl, hz⟩ := xz_of eb10
  cases hf
  exact xm_zret dX11_postfixAgrees_88 rfl hz (hR _ rfl)
def f_X11_postfixAgrees_j87 (σ : xM)  : Option (Int32 × xM) :=
  f_X11_postfixAgrees_j88 σ (0 : Int32)
set_option maxHeartbeats 4000000 in
set_option maxRecDepth 20000 in
theorem L_X11_postfixAgrees_j87 {G : xG} {π : Nat → Nat} {d C Z : Nat} {Q : xQ} (σ : xM)  {x : (Int32 × xM)} (hf : f_X11_postfixAgrees_j87 σ = some x) (hR : ∀ g, x = g → Q (.inl (some (.int g.1))) (g.2) π) : xMach G π J_X11_postfixAgrees (d + 6) C Z 87 [] [] σ Q := by
  unfold f_X11_postfixAgrees_j87 at hf
  refine xm_iconst dX11_postfixAgrees_87 (v := 0) (by decide) ?_
  exact xm_sub [] rfl (L_X11_postfixAgrees_j88 σ (0 : Int32) hf hR)
def f_X11_postfixAgrees_j83 (σ : xM)  : Option (Int32 × xM) :=
  f_X11_postfixAgrees_j88 σ (1 : Int32)
set_option maxHeartbeats 4000000 in
set_option maxRecDepth 20000 in
theorem L_X11_postfixAgrees_j83 {G : xG} {π : Nat → Nat} {d C Z : Nat} {Q : xQ} (σ : xM)  {x : (Int32 × xM)} (hf : f_X11_postfixAgrees_j83 σ = some x) (hR : ∀ g, x = g → Q (.inl (some (.int g.1))) (g.2) π) : xMach G π J_X11_postfixAgrees (d + 6) C Z 83 [] [] σ Q := by
  unfold f_X11_postfixAgrees_j83 at hf
  refine xm_iconst dX11_postfixAgrees_83 (v := 1) (by decide) ?_
  refine xm_goto 88 dX11_postfixAgrees_84 (by decide) ?_
  exact xm_sub [] rfl (L_X11_postfixAgrees_j88 σ (1 : Int32) hf hR)
def f_X11_postfixAgrees_j43 (σ : xM) (l0 : Nat) (l1 : Nat) (l2 : Int32) : Option (Int32 × xM) :=
  (gR σ l0 11 6).bind (fun x6 => (if xk σ x6 4 = true then (f_X4_startLine σ x6 l1).bind (fun p7 => (gR p7 l0 11 6).bind (fun x8 => (if xk p7 x8 4 = true then (f_X4_work p7 x8).bind (fun p9 => (if p9.1 = l2 then (if l2 = (0 : Int32) then (gR p9.2 l0 11 6).bind (fun x11 => (if xk p9.2 x11 4 = true then (f_X4_result p9.2 x11).bind (fun p12 => (gR p9.2 l0 11 11).bind (fun x13 => (if xk p9.2 p12 2 = true then (f_X2_sameAs p9.2 p12 x13).bind (fun p14 => (if p14 = (0 : Int32) then f_X11_postfixAgrees_j87 p9.2 else f_X11_postfixAgrees_j83 p9.2)) else none))) else none)) else f_X11_postfixAgrees_j83 p9.2) else f_X11_postfixAgrees_j87 p9.2)) else none))) else none))
set_option maxHeartbeats 4000000 in
set_option maxRecDepth 20000 in
theorem L_X11_postfixAgrees_j43 {G : xG} {π : Nat → Nat} {d C Z : Nat} {Q : xQ} (σ : xM) (l0 : Nat) (l1 : Nat) (l2 : Int32) {x : (Int32 × xM)} (hf : f_X11_postfixAgrees_j43 σ l0 l1 l2 = some x) (hR : ∀ g, x = g → Q (.inl (some (.int g.1))) (g.2) π) : xMach G π J_X11_postfixAgrees (d + 6) C Z 43 [(0, .ref l0), (1, .ref l1), (2, .int l2)] [] σ Q := by
  unfold f_X11_postfixAgrees_j43 at hf
  refine xm_aload_n dX11_postfixAgrees_43 rfl ?_
  refine xb_getR (a := l0) (c := 11) (k := 6) dX11_postfixAgrees_44 xcl11 (by decide) xw_589 rfl hf (fun x6 ex6 hf => ?_)
  refine xm_aload_n dX11_postfixAgrees_47 rfl ?_
  refine xb_if hf (fun hb hf => ?_) (fun _ q => nomatch q)
  obtain ⟨p7, ep7, hf⟩ := xbind hf
  refine xb_callV (As := [.ref l1]) (v0 := none) (τ0 := p7) dX11_postfixAgrees_48 (xc_X4_startLine _ _) xcl4 xw_1358 xw_1359 xw_1360 hb rfl (Nat.le_of_ble_eq_true rfl) rfl (Nat.le_of_ble_eq_true rfl) (fun Q1 hq => m_X4_startLine (d := d + 4) ep7 (fun g hg => by subst hg; exact hq)) ?_
  refine xm_aload_n dX11_postfixAgrees_51 rfl ?_
  refine xb_getR (a := l0) (c := 11) (k := 6) dX11_postfixAgrees_52 xcl11 (by decide) xw_589 rfl hf (fun x8 ex8 hf => ?_)
  refine xb_if hf (fun hb hf => ?_) (fun _ q => nomatch q)
  obtain ⟨p9, ep9, hf⟩ := xbind hf
  refine xb_callV (As := []) (v0 := (some (.int p9.1))) (τ0 := p9.2) dX11_postfixAgrees_55 (xc_X4_work _ _) xcl4 xw_947 xw_948 xw_949 hb rfl (Nat.le_of_ble_eq_true rfl) rfl (Nat.le_of_ble_eq_true rfl) (fun Q1 hq => m_X4_work (d := d + 0) ep9 (fun g hg => by subst hg; exact hq)) ?_
  refine xm_iload_n dX11_postfixAgrees_58 rfl ?_
  refine xb_icmp_ne 87 dX11_postfixAgrees_59 (by decide) hf (fun c hf => ?_) (fun c hf => ?_)
  · exact xm_sub [] rfl (L_X11_postfixAgrees_j87 p9.2 hf hR)
  · refine xm_iload_n dX11_postfixAgrees_62 rfl ?_
    refine xb_if_ne 83 dX11_postfixAgrees_63 (by decide) hf (fun c hf => ?_) (fun c hf => ?_)
    · exact xm_sub [] rfl (L_X11_postfixAgrees_j83 p9.2 hf hR)
    · refine xm_aload_n dX11_postfixAgrees_66 rfl ?_
      refine xb_getR (a := l0) (c := 11) (k := 6) dX11_postfixAgrees_67 xcl11 (by decide) xw_589 rfl hf (fun x11 ex11 hf => ?_)
      refine xb_if hf (fun hb hf => ?_) (fun _ q => nomatch q)
      obtain ⟨p12, ep12, hf⟩ := xbind hf
      refine xb_callV (As := []) (v0 := (some (.ref p12))) (τ0 := p9.2) dX11_postfixAgrees_70 (xc_X4_result _ _) xcl4 xw_1193 xw_1194 xw_1195 hb rfl (Nat.le_of_ble_eq_true rfl) rfl (Nat.le_of_ble_eq_true rfl) (fun Q1 hq => m_X4_result (d := d + 5) ep12 (fun g hg => by subst hg; exact hq)) ?_
      refine xm_aload_n dX11_postfixAgrees_73 rfl ?_
      refine xb_getR (a := l0) (c := 11) (k := 11) dX11_postfixAgrees_74 xcl11 (by decide) xw_594 rfl hf (fun x13 ex13 hf => ?_)
      refine xb_if hf (fun hb hf => ?_) (fun _ q => nomatch q)
      obtain ⟨p14, ep14, hf⟩ := xbind hf
      refine xb_callV (As := [.ref x13]) (v0 := (some (.int p14))) (τ0 := p9.2) dX11_postfixAgrees_77 (xc_X2_sameAs _ _) xcl2 xw_1362 xw_1184 xw_1185 hb rfl (Nat.le_of_ble_eq_true rfl) rfl (Nat.le_of_ble_eq_true rfl) (fun Q1 hq => m_X2_sameAs (d := d + 3) ep14 (fun g hg => by subst hg; exact hq)) ?_
      refine xb_if_eq 87 dX11_postfixAgrees_80 (by decide) hf (fun c hf => ?_) (fun c hf => ?_)
      · exact xm_sub [] rfl (L_X11_postfixAgrees_j87 p9.2 hf hR)
      · exact xm_sub [] rfl (L_X11_postfixAgrees_j83 p9.2 hf hR)
def f_X11_postfixAgrees (σ : xM) (l0 : Nat) (l1 : Nat) : Option (Int32 × xM) :=
  (if xk σ l1 9 = true then (f_X9_hasLazyCall σ l1).bind (fun p1 => (if p1 = (0 : Int32) then (gR σ l0 11 6).bind (fun x2 => (if xk σ x2 4 = true then (f_X4_startTree σ x2 l1).bind (fun p3 => (gR p3 l0 11 6).bind (fun x4 => (if xk p3 x4 4 = true then (f_X4_work p3 x4).bind (fun p5 => (if p5.1 = (0 : Int32) then (gR p5.2 l0 11 11).bind (fun x15 => (gR p5.2 l0 11 6).bind (fun x16 => (if xk p5.2 x16 4 = true then (f_X4_result p5.2 x16).bind (fun p17 => (if xk p5.2 x15 2 = true then (f_X2_copy p5.2 x15 p17).bind (fun p18 => f_X11_postfixAgrees_j43 p18 l0 l1 p5.1) else none)) else none))) else f_X11_postfixAgrees_j43 p5.2 l0 l1 p5.1)) else none))) else none)) else some ((1 : Int32), σ))) else none)
set_option maxHeartbeats 4000000 in
set_option maxRecDepth 20000 in
theorem m_X11_postfixAgrees {G : xG} {π : Nat → Nat} {d C Z : Nat} {Q : xQ} {σ : xM} {l0 : Nat} {l1 : Nat} {x : (Int32 × xM)} (hf : f_X11_postfixAgrees σ l0 l1 = some x) (hR : ∀ g, x = g → Q (.inl (some (.int g.1))) (g.2) π) : xMach G π J_X11_postfixAgrees (d + 6) C Z 0 (lv_args 0 [.ref l0, .ref l1]) [] σ Q := by
  unfold f_X11_postfixAgrees at hf
  refine xm_stL (L' := [(0, .ref l0), (1, .ref l1)]) rfl ?_
  refine xm_aload_n dX11_postfixAgrees_0 rfl ?_
  refine xb_if hf (fun hb hf => ?_) (fun _ q => nomatch q)
  obtain ⟨p1, ep1, hf⟩ := xbind hf
  refine xb_callV (As := []) (v0 := (some (.int p1))) (τ0 := σ) dX11_postfixAgrees_1 (xc_X9_hasLazyCall _ _) xcl9 xw_1353 xw_1354 xw_1355 hb rfl (Nat.le_of_ble_eq_true rfl) rfl (Nat.le_of_ble_eq_true rfl) (fun Q1 hq => m_X9_hasLazyCall (d := d + 4) ep1 (fun g hg => by subst hg; exact hq)) ?_
  refine xb_if_eq 9 dX11_postfixAgrees_4 (by decide) hf (fun c hf => ?_) (fun c hf => ?_)
  · refine xm_aload_n dX11_postfixAgrees_9 rfl ?_
    refine xb_getR (a := l0) (c := 11) (k := 6) dX11_postfixAgrees_10 xcl11 (by decide) xw_589 rfl hf (fun x2 ex2 hf => ?_)
    refine xm_aload_n dX11_postfixAgrees_13 rfl ?_
    refine xb_if hf (fun hb hf => ?_) (fun _ q => nomatch q)
    obtain ⟨p3, ep3, hf⟩ := xbind hf
    refine xb_callV (As := [.ref l1]) (v0 := none) (τ0 := p3) dX11_postfixAgrees_14 (xc_X4_startTree _ _) xcl4 xw_927 xw_928 xw_929 hb rfl (Nat.le_of_ble_eq_true rfl) rfl (Nat.le_of_ble_eq_true rfl) (fun Q1 hq => m_X4_startTree (d := d + 3) ep3 (fun g hg => by subst hg; exact hq)) ?_
    refine xm_aload_n dX11_postfixAgrees_17 rfl ?_
    refine xb_getR (a := l0) (c := 11) (k := 6) dX11_postfixAgrees_18 xcl11 (by decide) xw_589 rfl hf (fun x4 ex4 hf => ?_)
    refine xb_if hf (fun hb hf => ?_) (fun _ q => nomatch q)
    obtain ⟨p5, ep5, hf⟩ := xbind hf
    refine xb_callV (As := []) (v0 := (some (.int p5.1))) (τ0 := p5.2) dX11_postfixAgrees_21 (xc_X4_work _ _) xcl4 xw_947 xw_948 xw_949 hb rfl (Nat.le_of_ble_eq_true rfl) rfl (Nat.le_of_ble_eq_true rfl) (fun Q1 hq => m_X4_work (d := d + 0) ep5 (fun g hg => by subst hg; exact hq)) ?_
    refine xm_istore_n dX11_postfixAgrees_24 (by decide) (xm_stL (L' := [(2, .int p5.1), (0, .ref l0), (1, .ref l1)]) rfl ?_)
    refine xm_iload_n dX11_postfixAgrees_25 rfl ?_
    refine xb_if_ne 43 dX11_postfixAgrees_26 (by decide) hf (fun c hf => ?_) (fun c hf => ?_)
    · exact xm_sub [1, 2, 0] rfl (L_X11_postfixAgrees_j43 p5.2 l0 l1 p5.1 hf hR)
    · refine xm_aload_n dX11_postfixAgrees_29 rfl ?_
      refine xb_getR (a := l0) (c := 11) (k := 11) dX11_postfixAgrees_30 xcl11 (by decide) xw_594 rfl hf (fun x15 ex15 hf => ?_)
      refine xm_aload_n dX11_postfixAgrees_33 rfl ?_
      refine xb_getR (a := l0) (c := 11) (k := 6) dX11_postfixAgrees_34 xcl11 (by decide) xw_589 rfl hf (fun x16 ex16 hf => ?_)
      refine xb_if hf (fun hb hf => ?_) (fun _ q => nomatch q)
      obtain ⟨p17, ep17, hf⟩ := xbind hf
      refine xb_callV (As := []) (v0 := (some (.ref p17))) (τ0 := p5.2) dX11_postfixAgrees_37 (xc_X4_result _ _) xcl4 xw_1193 xw_1194 xw_1195 hb rfl (Nat.le_of_ble_eq_true rfl) rfl (Nat.le_of_ble_eq_true rfl) (fun Q1 hq => m_X4_result (d := d + 5) ep17 (fun g hg => by subst hg; exact hq)) ?_
      refine xb_if hf (fun hb hf => ?_) (fun _ q => nomatch q)
      obtain ⟨p18, ep18, hf⟩ := xbind hf
      refine xb_callV (As := [.ref p17]) (v0 := none) (τ0 := p18) dX11_postfixAgrees_40 (xc_X2_copy _ _) xcl2 xw_1210 xw_965 xw_966 hb rfl (Nat.le_of_ble_eq_true rfl) rfl (Nat.le_of_ble_eq_true rfl) (fun Q1 hq => m_X2_copy (d := d + 3) ep18 (fun g hg => by subst hg; exact hq)) ?_
      exact xm_sub [1, 2, 0] rfl (L_X11_postfixAgrees_j43 p18 l0 l1 p5.1 hf hR)
  · refine xm_iconst dX11_postfixAgrees_7 (v := 1) (by decide) ?_
    cases hf
    exact xm_zret dX11_postfixAgrees_8 rfl rfl (hR _ rfl)
-- Rankwise.simplifiesWell(LRankwise$Tree;)Z
def f_X11_simplifiesWell_j105 (σ : xM) (l0 : Nat) (l2 : Int32) (l3 : Int32) (l4 : Int32) : Option ((Int32 × xM) ⊕ (((xM) ⊕ (Nat × Int32 × xM)) ⊕ (Nat × Int32 × Int32 × Int32 × xM))) :=
  xlet (l4 + (1 : Int32)) (fun v14 => some (Sum.inr (Sum.inr (l0, l2, l3, v14, σ))))
set_option maxHeartbeats 4000000 in
set_option maxRecDepth 20000 in
theorem L_X11_simplifiesWell_j105 {G : xG} {π : Nat → Nat} {d C Z : Nat} {Q : xQ} (σ : xM) (l0 : Nat) (l2 : Int32) (l3 : Int32) (l4 : Int32) {x : ((Int32 × xM) ⊕ (((xM) ⊕ (Nat × Int32 × xM)) ⊕ (Nat × Int32 × Int32 × Int32 × xM)))} (hf : f_X11_simplifiesWell_j105 σ l0 l2 l3 l4 = some x) (hR : ∀ g, x = Sum.inl (g) → Q (.inl (some (.int g.1))) (g.2) π) (hE0 : ∀ e : (xM), x = Sum.inr (Sum.inl (Sum.inl e)) → xMach G π J_X11_simplifiesWell (d + 6) C Z 103 [] [] e Q) (hE1 : ∀ e : (Nat × Int32 × xM), x = Sum.inr (Sum.inl (Sum.inr e)) → xMach G π J_X11_simplifiesWell (d + 6) C Z 111 [(0, .ref e.1), (2, .int e.2.1)] [] e.2.2 Q) (hC : ∀ e : (Nat × Int32 × Int32 × Int32 × xM), x = Sum.inr (Sum.inr e) → xMach G π J_X11_simplifiesWell (d + 6) C Z 47 [(0, .ref e.1), (2, .int e.2.1), (3, .int e.2.2.1), (4, .int e.2.2.2.1)] [] e.2.2.2.2 Q) : xMach G π J_X11_simplifiesWell (d + 6) C Z 105 [(0, .ref l0), (2, .int l2), (3, .int l3), (4, .int l4)] [] σ Q := by
  unfold f_X11_simplifiesWell_j105 at hf
  refine xb_iinc dX11_simplifiesWell_105 rfl (by decide) (by decide) hf (fun v14 ev14 hf => xm_stL (L' := [(4, .int v14), (0, .ref l0), (2, .int l2), (3, .int l3)]) rfl ?_)
  refine xm_goto 47 dX11_simplifiesWell_108 (by decide) ?_
  cases hf
  exact xm_sub [1, 2, 3, 0] rfl (hC _ rfl)
def f_X11_simplifiesWell_j86 (σ : xM) (l0 : Nat) (l2 : Int32) (l4 : Int32) (l5 : Int32) (s0 : Int32) : Option ((Int32 × xM) ⊕ (((xM) ⊕ (Nat × Int32 × xM)) ⊕ (Nat × Int32 × Int32 × Int32 × xM))) :=
  (if s0 = (0 : Int32) then f_X11_simplifiesWell_j105 σ l0 l2 s0 l4 else (gR σ l0 11 12).bind (fun x15 => (gI σ x15 9 7).bind (fun x16 => (if x16 < l5 then f_X11_simplifiesWell_j105 σ l0 l2 s0 l4 else some (Sum.inr (Sum.inl (Sum.inl σ)))))))
set_option maxHeartbeats 4000000 in
set_option maxRecDepth 20000 in
theorem L_X11_simplifiesWell_j86 {G : xG} {π : Nat → Nat} {d C Z : Nat} {Q : xQ} (σ : xM) (l0 : Nat) (l2 : Int32) (l4 : Int32) (l5 : Int32) (s0 : Int32) {x : ((Int32 × xM) ⊕ (((xM) ⊕ (Nat × Int32 × xM)) ⊕ (Nat × Int32 × Int32 × Int32 × xM)))} (hf : f_X11_simplifiesWell_j86 σ l0 l2 l4 l5 s0 = some x) (hR : ∀ g, x = Sum.inl (g) → Q (.inl (some (.int g.1))) (g.2) π) (hE0 : ∀ e : (xM), x = Sum.inr (Sum.inl (Sum.inl e)) → xMach G π J_X11_simplifiesWell (d + 6) C Z 103 [] [] e Q) (hE1 : ∀ e : (Nat × Int32 × xM), x = Sum.inr (Sum.inl (Sum.inr e)) → xMach G π J_X11_simplifiesWell (d + 6) C Z 111 [(0, .ref e.1), (2, .int e.2.1)] [] e.2.2 Q) (hC : ∀ e : (Nat × Int32 × Int32 × Int32 × xM), x = Sum.inr (Sum.inr e) → xMach G π J_X11_simplifiesWell (d + 6) C Z 47 [(0, .ref e.1), (2, .int e.2.1), (3, .int e.2.2.1), (4, .int e.2.2.2.1)] [] e.2.2.2.2 Q) : xMach G π J_X11_simplifiesWell (d + 6) C Z 86 [(0, .ref l0), (2, .int l2), (4, .int l4), (5, .int l5)] [.int s0] σ Q := by
  unfold f_X11_simplifiesWell_j86 at hf
  refine xm_istore_n dX11_simplifiesWell_86 (by decide) (xm_stL (L' := [(3, .int s0), (0, .ref l0), (2, .int l2), (4, .int l4), (5, .int l5)]) rfl ?_)
  refine xm_iload_n dX11_simplifiesWell_87 rfl ?_
  refine xb_if_eq 105 dX11_simplifiesWell_88 (by decide) hf (fun c hf => ?_) (fun c hf => ?_)
  · exact xm_sub [1, 2, 0, 3] rfl (L_X11_simplifiesWell_j105 σ l0 l2 s0 l4 hf hR hE0 hE1 hC)
  · refine xm_aload_n dX11_simplifiesWell_91 rfl ?_
    refine xb_getR (a := l0) (c := 11) (k := 12) dX11_simplifiesWell_92 xcl11 (by decide) xw_595 rfl hf (fun x15 ex15 hf => ?_)
    refine xb_getI (a := x15) (c := 9) (k := 7) dX11_simplifiesWell_95 xcl9 (by decide) xw_223 rfl hf (fun x16 ex16 hf => ?_)
    refine xm_iload dX11_simplifiesWell_98 rfl ?_
    refine xb_icmp_lt 105 dX11_simplifiesWell_100 (by decide) hf (fun c hf => ?_) (fun c hf => ?_)
    · exact xm_sub [1, 2, 0, 3] rfl (L_X11_simplifiesWell_j105 σ l0 l2 s0 l4 hf hR hE0 hE1 hC)
    · cases hf
      exact xm_sub [] rfl (hE0 _ rfl)
def f_X11_simplifiesWell_s47 (s : (Nat × Int32 × Int32 × Int32 × xM)) : Option ((Int32 × xM) ⊕ (((xM) ⊕ (Nat × Int32 × xM)) ⊕ (Nat × Int32 × Int32 × Int32 × xM))) :=
  xlet s.1 (fun l0 => xlet s.2.1 (fun l2 => xlet s.2.2.1 (fun l3 => xlet s.2.2.2.1 (fun l4 => xlet s.2.2.2.2 (fun σ => (if (80 : Int32) ≤ l4 then some (Sum.inr (Sum.inl (Sum.inr (l0, l2, σ)))) else (if l3 = (0 : Int32) then some (Sum.inr (Sum.inl (Sum.inr (l0, l2, σ)))) else (gR σ l0 11 12).bind (fun x9 => (gI σ x9 9 7).bind (fun x10 => (gR σ l0 11 8).bind (fun x11 => (gR σ l0 11 12).bind (fun x12 => (if xk σ x11 7 = true then (f_X7_applyRule σ x11 x12).bind (fun p13 => (if p13.1 = (0 : Int32) then f_X11_simplifiesWell_j86 p13.2 l0 l2 l4 x10 (0 : Int32) else f_X11_simplifiesWell_j86 p13.2 l0 l2 l4 x10 (1 : Int32))) else none))))))))))))
set_option maxHeartbeats 4000000 in
set_option maxRecDepth 20000 in
theorem L_X11_simplifiesWell_s47 {G : xG} {π : Nat → Nat} {d C Z : Nat} {Q : xQ} (σ : xM) (l0 : Nat) (l2 : Int32) (l3 : Int32) (l4 : Int32) {x : ((Int32 × xM) ⊕ (((xM) ⊕ (Nat × Int32 × xM)) ⊕ (Nat × Int32 × Int32 × Int32 × xM)))} (hf : f_X11_simplifiesWell_s47 (l0, l2, l3, l4, σ) = some x) (hR : ∀ g, x = Sum.inl (g) → Q (.inl (some (.int g.1))) (g.2) π) (hE0 : ∀ e : (xM), x = Sum.inr (Sum.inl (Sum.inl e)) → xMach G π J_X11_simplifiesWell (d + 6) C Z 103 [] [] e Q) (hE1 : ∀ e : (Nat × Int32 × xM), x = Sum.inr (Sum.inl (Sum.inr e)) → xMach G π J_X11_simplifiesWell (d + 6) C Z 111 [(0, .ref e.1), (2, .int e.2.1)] [] e.2.2 Q) (hC : ∀ e : (Nat × Int32 × Int32 × Int32 × xM), x = Sum.inr (Sum.inr e) → xMach G π J_X11_simplifiesWell (d + 6) C Z 47 [(0, .ref e.1), (2, .int e.2.1), (3, .int e.2.2.1), (4, .int e.2.2.2.1)] [] e.2.2.2.2 Q) : xMach G π J_X11_simplifiesWell (d + 6) C Z 47 [(0, .ref l0), (2, .int l2), (3, .int l3), (4, .int l4)] [] σ Q := by
  have hf : (if (80 : Int32) ≤ l4 then some (Sum.inr (Sum.inl (Sum.inr (l0, l2, σ)))) else (if l3 = (0 : Int32) then some (Sum.inr (Sum.inl (Sum.inr (l0, l2, σ)))) else (gR σ l0 11 12).bind (fun x9 => (gI σ x9 9 7).bind (fun x10 => (gR σ l0 11 8).bind (fun x11 => (gR σ l0 11 12).bind (fun x12 => (if xk σ x11 7 = true then (f_X7_applyRule σ x11 x12).bind (fun p13 => (if p13.1 = (0 : Int32) then f_X11_simplifiesWell_j86 p13.2 l0 l2 l4 x10 (0 : Int32) else f_X11_simplifiesWell_j86 p13.2 l0 l2 l4 x10 (1 : Int32))) else none))))))) = some x := hf
  refine xm_iload dX11_simplifiesWell_47 rfl ?_
  refine xm_bipush dX11_simplifiesWell_49 (v := 80) (by decide) ?_
  refine xb_icmp_ge 111 dX11_simplifiesWell_51 (by decide) hf (fun c hf => ?_) (fun c hf => ?_)
  · cases hf
    exact xm_sub [0, 1] rfl (hE1 _ rfl)
  · refine xm_iload_n dX11_simplifiesWell_54 rfl ?_
    refine xb_if_eq 111 dX11_simplifiesWell_55 (by decide) hf (fun c hf => ?_) (fun c hf => ?_)
    · cases hf
      exact xm_sub [0, 1] rfl (hE1 _ rfl)
    · refine xm_aload_n dX11_simplifiesWell_58 rfl ?_
      refine xb_getR (a := l0) (c := 11) (k := 12) dX11_simplifiesWell_59 xcl11 (by decide) xw_595 rfl hf (fun x9 ex9 hf => ?_)
      refine xb_getI (a := x9) (c := 9) (k := 7) dX11_simplifiesWell_62 xcl9 (by decide) xw_223 rfl hf (fun x10 ex10 hf => ?_)
      refine xm_istore dX11_simplifiesWell_65 (by decide) (xm_stL (L' := [(5, .int x10), (0, .ref l0), (2, .int l2), (3, .int l3), (4, .int l4)]) rfl ?_)
      refine xm_aload_n dX11_simplifiesWell_67 rfl ?_
      refine xb_getR (a := l0) (c := 11) (k := 8) dX11_simplifiesWell_68 xcl11 (by decide) xw_591 rfl hf (fun x11 ex11 hf => ?_)
      refine xm_aload_n dX11_simplifiesWell_71 rfl ?_
      refine xb_getR (a := l0) (c := 11) (k := 12) dX11_simplifiesWell_72 xcl11 (by decide) xw_595 rfl hf (fun x12 ex12 hf => ?_)
      refine xb_if hf (fun hb hf => ?_) (fun _ q => nomatch q)
      obtain ⟨p13, ep13, hf⟩ := xbind hf
      refine xb_callV (As := [.ref x12]) (v0 := (some (.int p13.1))) (τ0 := p13.2) dX11_simplifiesWell_75 (xc_X7_applyRule _ _) xcl7 xw_1368 xw_1369 xw_1370 hb rfl (Nat.le_of_ble_eq_true rfl) rfl (Nat.le_of_ble_eq_true rfl) (fun Q1 hq => m_X7_applyRule (d := d + 0) ep13 (fun g hg => by subst hg; exact hq)) ?_
      refine xb_if_eq 85 dX11_simplifiesWell_78 (by decide) hf (fun c hf => ?_) (fun c hf => ?_)
      · refine xm_iconst dX11_simplifiesWell_85 (v := 0) (by decide) ?_
        exact xm_sub [1, 2, 4, 0] rfl (L_X11_simplifiesWell_j86 p13.2 l0 l2 l4 x10 (0 : Int32) hf hR hE0 hE1 hC)
      · refine xm_iconst dX11_simplifiesWell_81 (v := 1) (by decide) ?_
        refine xm_goto 86 dX11_simplifiesWell_82 (by decide) ?_
        exact xm_sub [1, 2, 4, 0] rfl (L_X11_simplifiesWell_j86 p13.2 l0 l2 l4 x10 (1 : Int32) hf hR hE0 hE1 hC)
theorem L_X11_simplifiesWell_l47 {G : xG} {π : Nat → Nat} {d C Z : Nat} {Q : xQ} {s0 : (Nat × Int32 × Int32 × Int32 × xM)} {x : ((Int32 × xM) ⊕ ((xM) ⊕ (Nat × Int32 × xM)))} (h1 : xloop (f_X11_simplifiesWell_s47) xF s0 = some x) (hR : ∀ g, x = Sum.inl g → Q (.inl (some (.int g.1))) (g.2) π) (hE0 : ∀ e : (xM), x = Sum.inr (Sum.inl e) → xMach G π J_X11_simplifiesWell (d + 6) C Z 103 [] [] e Q) (hE1 : ∀ e : (Nat × Int32 × xM), x = Sum.inr (Sum.inr e) → xMach G π J_X11_simplifiesWell (d + 6) C Z 111 [(0, .ref e.1), (2, .int e.2.1)] [] e.2.2 Q) : xMach G π J_X11_simplifiesWell (d + 6) C Z 47 [(0, .ref s0.1), (2, .int s0.2.1), (3, .int s0.2.2.1), (4, .int s0.2.2.2.1)] [] s0.2.2.2.2 Q := by
  refine xloop_run (M := (fun s : (Nat × Int32 × Int32 × Int32 × xM) => xMach G π J_X11_simplifiesWell (d + 6) C Z 47 [(0, .ref s.1), (2, .int s.2.1), (3, .int s.2.2.1), (4, .int s.2.2.2.1)] [] s.2.2.2.2 Q)) (r := x) ?_ xF _ h1
  intro s y hs hx
  exact L_X11_simplifiesWell_s47 s.2.2.2.2 s.1 s.2.1 s.2.2.1 s.2.2.2.1 (x := y) hs (fun g hg => by subst hg; exact hR g hx) (fun e he => by subst he; exact hE0 e hx) (fun e he => by subst he; exact hE1 e hx) (fun e he => by subst he; exact hx)
def f_X11_simplifiesWell_j103 (σ : xM)  : Option (Int32 × xM) :=
  some ((0 : Int32), σ)
set_option maxHeartbeats 4000000 in
set_option maxRecDepth 20000 in
theorem L_X11_simplifiesWell_j103 {G : xG} {π : Nat → Nat} {d C Z : Nat} {Q : xQ} (σ : xM)  {x : (Int32 × xM)} (hf : f_X11_simplifiesWell_j103 σ = some x) (hR : ∀ g, x = g → Q (.inl (some (.int g.1))) (g.2) π) : xMach G π J_X11_simplifiesWell (d + 6) C Z 103 [] [] σ Q := by
  unfold f_X11_simplifiesWell_j103 at hf
  refine xm_iconst dX11_simplifiesWell_103 (v := 0) (by decide) ?_
  cases hf
  exact xm_zret dX11_simplifiesWell_104 rfl rfl (hR _ rfl)
def f_X11_simplifiesWell_j160 (σ : xM) (s0 : Int32) : Option (Int32 × xM) :=
  (xz s0).bind (fun b22 => some (b22, σ))
set_option maxHeartbeats 4000000 in
set_option maxRecDepth 20000 in
theorem L_X11_simplifiesWell_j160 {G : xG} {π : Nat → Nat} {d C Z : Nat} {Q : xQ} (σ : xM) (s0 : Int32) {x : (Int32 × xM)} (hf : f_X11_simplifiesWell_j160 σ s0 = some x) (hR : ∀ g, x = g → Q (.inl (some (.int g.1))) (g.2) π) : xMach G π J_X11_simplifiesWell (d + 6) C Z 160 [] [.int s0] σ Q := by
  unfold f_X11_simplifiesWell_j160 at hf
  obtain ⟨b22, eb22, hf⟩ := xbind hf
  obtain ⟨rfl, hz⟩ := xz_of eb22
  cases hf
  exact xm_zret dX11_simplifiesWell_160 rfl hz (hR _ rfl)
def f_X11_simplifiesWell_j155 (σ : xM)  : Option (Int32 × xM) :=
  f_X11_simplifiesWell_j160 σ (1 : Int32)
set_option maxHeartbeats 4000000 in
set_option maxRecDepth 20000 in
theorem L_X11_simplifiesWell_j155 {G : xG} {π : Nat → Nat} {d C Z : Nat} {Q : xQ} (σ : xM)  {x : (Int32 × xM)} (hf : f_X11_simplifiesWell_j155 σ = some x) (hR : ∀ g, x = g → Q (.inl (some (.int g.1))) (g.2) π) : xMach G π J_X11_simplifiesWell (d + 6) C Z 155 [] [] σ Q := by
  unfold f_X11_simplifiesWell_j155 at hf
  refine xm_iconst dX11_simplifiesWell_155 (v := 1) (by decide) ?_
  refine xm_goto 160 dX11_simplifiesWell_156 (by decide) ?_
  exact xm_sub [] rfl (L_X11_simplifiesWell_j160 σ (1 : Int32) hf hR)
def f_X11_simplifiesWell_j111 (σ : xM) (l0 : Nat) (l2 : Int32) : Option (Int32 × xM) :=
  (if l2 = (0 : Int32) then (gR σ l0 11 6).bind (fun x17 => (gR σ l0 11 12).bind (fun x18 => (if xk σ x17 4 = true then (f_X4_startTree σ x17 x18).bind (fun p19 => (gR p19 l0 11 6).bind (fun x20 => (if xk p19 x20 4 = true then (f_X4_work p19 x20).bind (fun p21 => (if p21.1 = (0 : Int32) then (gR p21.2 l0 11 6).bind (fun x23 => (if xk p21.2 x23 4 = true then (f_X4_result p21.2 x23).bind (fun p24 => (gR p21.2 l0 11 11).bind (fun x25 => (if xk p21.2 p24 2 = true then (f_X2_sameAs p21.2 p24 x25).bind (fun p26 => (if p26 = (0 : Int32) then f_X11_simplifiesWell_j160 p21.2 (0 : Int32) else f_X11_simplifiesWell_j155 p21.2)) else none))) else none)) else f_X11_simplifiesWell_j155 p21.2)) else none))) else none))) else some ((1 : Int32), σ))
set_option maxHeartbeats 4000000 in
set_option maxRecDepth 20000 in
theorem L_X11_simplifiesWell_j111 {G : xG} {π : Nat → Nat} {d C Z : Nat} {Q : xQ} (σ : xM) (l0 : Nat) (l2 : Int32) {x : (Int32 × xM)} (hf : f_X11_simplifiesWell_j111 σ l0 l2 = some x) (hR : ∀ g, x = g → Q (.inl (some (.int g.1))) (g.2) π) : xMach G π J_X11_simplifiesWell (d + 6) C Z 111 [(0, .ref l0), (2, .int l2)] [] σ Q := by
  unfold f_X11_simplifiesWell_j111 at hf
  refine xm_iload_n dX11_simplifiesWell_111 rfl ?_
  refine xb_if_eq 117 dX11_simplifiesWell_112 (by decide) hf (fun c hf => ?_) (fun c hf => ?_)
  · refine xm_aload_n dX11_simplifiesWell_117 rfl ?_
    refine xb_getR (a := l0) (c := 11) (k := 6) dX11_simplifiesWell_118 xcl11 (by decide) xw_589 rfl hf (fun x17 ex17 hf => ?_)
    refine xm_aload_n dX11_simplifiesWell_121 rfl ?_
    refine xb_getR (a := l0) (c := 11) (k := 12) dX11_simplifiesWell_122 xcl11 (by decide) xw_595 rfl hf (fun x18 ex18 hf => ?_)
    refine xb_if hf (fun hb hf => ?_) (fun _ q => nomatch q)
    obtain ⟨p19, ep19, hf⟩ := xbind hf
    refine xb_callV (As := [.ref x18]) (v0 := none) (τ0 := p19) dX11_simplifiesWell_125 (xc_X4_startTree _ _) xcl4 xw_927 xw_928 xw_929 hb rfl (Nat.le_of_ble_eq_true rfl) rfl (Nat.le_of_ble_eq_true rfl) (fun Q1 hq => m_X4_startTree (d := d + 3) ep19 (fun g hg => by subst hg; exact hq)) ?_
    refine xm_aload_n dX11_simplifiesWell_128 rfl ?_
    refine xb_getR (a := l0) (c := 11) (k := 6) dX11_simplifiesWell_129 xcl11 (by decide) xw_589 rfl hf (fun x20 ex20 hf => ?_)
    refine xb_if hf (fun hb hf => ?_) (fun _ q => nomatch q)
    obtain ⟨p21, ep21, hf⟩ := xbind hf
    refine xb_callV (As := []) (v0 := (some (.int p21.1))) (τ0 := p21.2) dX11_simplifiesWell_132 (xc_X4_work _ _) xcl4 xw_947 xw_948 xw_949 hb rfl (Nat.le_of_ble_eq_true rfl) rfl (Nat.le_of_ble_eq_true rfl) (fun Q1 hq => m_X4_work (d := d + 0) ep21 (fun g hg => by subst hg; exact hq)) ?_
    refine xb_if_ne 155 dX11_simplifiesWell_135 (by decide) hf (fun c hf => ?_) (fun c hf => ?_)
    · exact xm_sub [] rfl (L_X11_simplifiesWell_j155 p21.2 hf hR)
    · refine xm_aload_n dX11_simplifiesWell_138 rfl ?_
      refine xb_getR (a := l0) (c := 11) (k := 6) dX11_simplifiesWell_139 xcl11 (by decide) xw_589 rfl hf (fun x23 ex23 hf => ?_)
      refine xb_if hf (fun hb hf => ?_) (fun _ q => nomatch q)
      obtain ⟨p24, ep24, hf⟩ := xbind hf
      refine xb_callV (As := []) (v0 := (some (.ref p24))) (τ0 := p21.2) dX11_simplifiesWell_142 (xc_X4_result _ _) xcl4 xw_1193 xw_1194 xw_1195 hb rfl (Nat.le_of_ble_eq_true rfl) rfl (Nat.le_of_ble_eq_true rfl) (fun Q1 hq => m_X4_result (d := d + 5) ep24 (fun g hg => by subst hg; exact hq)) ?_
      refine xm_aload_n dX11_simplifiesWell_145 rfl ?_
      refine xb_getR (a := l0) (c := 11) (k := 11) dX11_simplifiesWell_146 xcl11 (by decide) xw_594 rfl hf (fun x25 ex25 hf => ?_)
      refine xb_if hf (fun hb hf => ?_) (fun _ q => nomatch q)
      obtain ⟨p26, ep26, hf⟩ := xbind hf
      refine xb_callV (As := [.ref x25]) (v0 := (some (.int p26))) (τ0 := p21.2) dX11_simplifiesWell_149 (xc_X2_sameAs _ _) xcl2 xw_1362 xw_1184 xw_1185 hb rfl (Nat.le_of_ble_eq_true rfl) rfl (Nat.le_of_ble_eq_true rfl) (fun Q1 hq => m_X2_sameAs (d := d + 3) ep26 (fun g hg => by subst hg; exact hq)) ?_
      refine xb_if_eq 159 dX11_simplifiesWell_152 (by decide) hf (fun c hf => ?_) (fun c hf => ?_)
      · refine xm_iconst dX11_simplifiesWell_159 (v := 0) (by decide) ?_
        exact xm_sub [] rfl (L_X11_simplifiesWell_j160 p21.2 (0 : Int32) hf hR)
      · exact xm_sub [] rfl (L_X11_simplifiesWell_j155 p21.2 hf hR)
  · refine xm_iconst dX11_simplifiesWell_115 (v := 1) (by decide) ?_
    cases hf
    exact xm_zret dX11_simplifiesWell_116 rfl rfl (hR _ rfl)
def f_X11_simplifiesWell_j34 (σ : xM) (l0 : Nat) (l1 : Nat) (l2 : Int32) : Option (Int32 × xM) :=
  (gR σ l0 11 12).bind (fun x5 => (if xk σ x5 9 = true then (f_X9_copy σ x5 l1).bind (fun p6 => xlet (1 : Int32) (fun v7 => xlet (0 : Int32) (fun v8 => (xloop (f_X11_simplifiesWell_s47 ) xF (l0, l2, v7, v8, p6)).bind (Sum.elim (fun g => some g) (Sum.elim (fun e => f_X11_simplifiesWell_j103 e) (fun e => f_X11_simplifiesWell_j111 e.2.2 e.1 e.2.1)))))) else none))
set_option maxHeartbeats 4000000 in
set_option maxRecDepth 20000 in
theorem L_X11_simplifiesWell_j34 {G : xG} {π : Nat → Nat} {d C Z : Nat} {Q : xQ} (σ : xM) (l0 : Nat) (l1 : Nat) (l2 : Int32) {x : (Int32 × xM)} (hf : f_X11_simplifiesWell_j34 σ l0 l1 l2 = some x) (hR : ∀ g, x = g → Q (.inl (some (.int g.1))) (g.2) π) : xMach G π J_X11_simplifiesWell (d + 6) C Z 34 [(0, .ref l0), (1, .ref l1), (2, .int l2)] [] σ Q := by
  unfold f_X11_simplifiesWell_j34 at hf
  refine xm_aload_n dX11_simplifiesWell_34 rfl ?_
  refine xb_getR (a := l0) (c := 11) (k := 12) dX11_simplifiesWell_35 xcl11 (by decide) xw_595 rfl hf (fun x5 ex5 hf => ?_)
  refine xm_aload_n dX11_simplifiesWell_38 rfl ?_
  refine xb_if hf (fun hb hf => ?_) (fun _ q => nomatch q)
  obtain ⟨p6, ep6, hf⟩ := xbind hf
  refine xb_callV (As := [.ref l1]) (v0 := none) (τ0 := p6) dX11_simplifiesWell_39 (xc_X9_copy _ _) xcl9 xw_1367 xw_824 xw_825 hb rfl (Nat.le_of_ble_eq_true rfl) rfl (Nat.le_of_ble_eq_true rfl) (fun Q1 hq => m_X9_copy (d := d + 2) ep6 (fun g hg => by subst hg; exact hq)) ?_
  refine xm_iconst dX11_simplifiesWell_42 (v := 1) (by decide) ?_
  refine xb_topi hf (fun v7 ev7 hf => ?_)
  refine xm_istore_n dX11_simplifiesWell_43 (by decide) (xm_stL (L' := [(3, .int v7), (0, .ref l0), (1, .ref l1), (2, .int l2)]) rfl ?_)
  refine xm_iconst dX11_simplifiesWell_44 (v := 0) (by decide) ?_
  refine xb_topi hf (fun v8 ev8 hf => ?_)
  refine xm_istore dX11_simplifiesWell_45 (by decide) (xm_stL (L' := [(4, .int v8), (3, .int v7), (0, .ref l0), (1, .ref l1), (2, .int l2)]) rfl ?_)
  obtain ⟨o, h1, hf⟩ := xbind hf
  refine xm_sub [2, 4, 1, 0] rfl (L_X11_simplifiesWell_l47  h1 (fun g hg => ?_) (fun e he => ?_) (fun e he => ?_))
  · subst hg
    cases hf
    exact hR _ rfl
  · subst he
    rw [Sum.elim_inr, Sum.elim_inl] at hf
    have hf : f_X11_simplifiesWell_j103 e = some _ := hf
    exact xm_sub [] rfl (L_X11_simplifiesWell_j103 e hf hR)
  · subst he
    rw [Sum.elim_inr, Sum.elim_inr] at hf
    have hf : f_X11_simplifiesWell_j111 e.2.2 e.1 e.2.1 = some _ := hf
    exact xm_sub [0, 1] rfl (L_X11_simplifiesWell_j111 e.2.2 e.1 e.2.1 hf hR)
def f_X11_simplifiesWell (σ : xM) (l0 : Nat) (l1 : Nat) : Option (Int32 × xM) :=
  (gR σ l0 11 6).bind (fun x1 => (if xk σ x1 4 = true then (f_X4_startTree σ x1 l1).bind (fun p2 => (gR p2 l0 11 6).bind (fun x3 => (if xk p2 x3 4 = true then (f_X4_work p2 x3).bind (fun p4 => (if p4.1 = (0 : Int32) then (gR p4.2 l0 11 11).bind (fun x27 => (gR p4.2 l0 11 6).bind (fun x28 => (if xk p4.2 x28 4 = true then (f_X4_result p4.2 x28).bind (fun p29 => (if xk p4.2 x27 2 = true then (f_X2_copy p4.2 x27 p29).bind (fun p30 => f_X11_simplifiesWell_j34 p30 l0 l1 p4.1) else none)) else none))) else f_X11_simplifiesWell_j34 p4.2 l0 l1 p4.1)) else none))) else none))
set_option maxHeartbeats 4000000 in
set_option maxRecDepth 20000 in
theorem m_X11_simplifiesWell {G : xG} {π : Nat → Nat} {d C Z : Nat} {Q : xQ} {σ : xM} {l0 : Nat} {l1 : Nat} {x : (Int32 × xM)} (hf : f_X11_simplifiesWell σ l0 l1 = some x) (hR : ∀ g, x = g → Q (.inl (some (.int g.1))) (g.2) π) : xMach G π J_X11_simplifiesWell (d + 6) C Z 0 (lv_args 0 [.ref l0, .ref l1]) [] σ Q := by
  unfold f_X11_simplifiesWell at hf
  refine xm_stL (L' := [(0, .ref l0), (1, .ref l1)]) rfl ?_
  refine xm_aload_n dX11_simplifiesWell_0 rfl ?_
  refine xb_getR (a := l0) (c := 11) (k := 6) dX11_simplifiesWell_1 xcl11 (by decide) xw_589 rfl hf (fun x1 ex1 hf => ?_)
  refine xm_aload_n dX11_simplifiesWell_4 rfl ?_
  refine xb_if hf (fun hb hf => ?_) (fun _ q => nomatch q)
  obtain ⟨p2, ep2, hf⟩ := xbind hf
  refine xb_callV (As := [.ref l1]) (v0 := none) (τ0 := p2) dX11_simplifiesWell_5 (xc_X4_startTree _ _) xcl4 xw_927 xw_928 xw_929 hb rfl (Nat.le_of_ble_eq_true rfl) rfl (Nat.le_of_ble_eq_true rfl) (fun Q1 hq => m_X4_startTree (d := d + 3) ep2 (fun g hg => by subst hg; exact hq)) ?_
  refine xm_aload_n dX11_simplifiesWell_8 rfl ?_
  refine xb_getR (a := l0) (c := 11) (k := 6) dX11_simplifiesWell_9 xcl11 (by decide) xw_589 rfl hf (fun x3 ex3 hf => ?_)
  refine xb_if hf (fun hb hf => ?_) (fun _ q => nomatch q)
  obtain ⟨p4, ep4, hf⟩ := xbind hf
  refine xb_callV (As := []) (v0 := (some (.int p4.1))) (τ0 := p4.2) dX11_simplifiesWell_12 (xc_X4_work _ _) xcl4 xw_947 xw_948 xw_949 hb rfl (Nat.le_of_ble_eq_true rfl) rfl (Nat.le_of_ble_eq_true rfl) (fun Q1 hq => m_X4_work (d := d + 0) ep4 (fun g hg => by subst hg; exact hq)) ?_
  refine xm_istore_n dX11_simplifiesWell_15 (by decide) (xm_stL (L' := [(2, .int p4.1), (0, .ref l0), (1, .ref l1)]) rfl ?_)
  refine xm_iload_n dX11_simplifiesWell_16 rfl ?_
  refine xb_if_ne 34 dX11_simplifiesWell_17 (by decide) hf (fun c hf => ?_) (fun c hf => ?_)
  · exact xm_sub [1, 2, 0] rfl (L_X11_simplifiesWell_j34 p4.2 l0 l1 p4.1 hf hR)
  · refine xm_aload_n dX11_simplifiesWell_20 rfl ?_
    refine xb_getR (a := l0) (c := 11) (k := 11) dX11_simplifiesWell_21 xcl11 (by decide) xw_594 rfl hf (fun x27 ex27 hf => ?_)
    refine xm_aload_n dX11_simplifiesWell_24 rfl ?_
    refine xb_getR (a := l0) (c := 11) (k := 6) dX11_simplifiesWell_25 xcl11 (by decide) xw_589 rfl hf (fun x28 ex28 hf => ?_)
    refine xb_if hf (fun hb hf => ?_) (fun _ q => nomatch q)
    obtain ⟨p29, ep29, hf⟩ := xbind hf
    refine xb_callV (As := []) (v0 := (some (.ref p29))) (τ0 := p4.2) dX11_simplifiesWell_28 (xc_X4_result _ _) xcl4 xw_1193 xw_1194 xw_1195 hb rfl (Nat.le_of_ble_eq_true rfl) rfl (Nat.le_of_ble_eq_true rfl) (fun Q1 hq => m_X4_result (d := d + 5) ep29 (fun g hg => by subst hg; exact hq)) ?_
    refine xb_if hf (fun hb hf => ?_) (fun _ q => nomatch q)
    obtain ⟨p30, ep30, hf⟩ := xbind hf
    refine xb_callV (As := [.ref p29]) (v0 := none) (τ0 := p30) dX11_simplifiesWell_31 (xc_X2_copy _ _) xcl2 xw_1210 xw_965 xw_966 hb rfl (Nat.le_of_ble_eq_true rfl) rfl (Nat.le_of_ble_eq_true rfl) (fun Q1 hq => m_X2_copy (d := d + 3) ep30 (fun g hg => by subst hg; exact hq)) ?_
    exact xm_sub [1, 2, 0] rfl (L_X11_simplifiesWell_j34 p30 l0 l1 p4.1 hf hR)
-- Rankwise.derivesWell(LRankwise$Tree;C)Z
def f_X11_derivesWell_j88 (σ : xM) (s0 : Int32) : Option (Int32 × xM) :=
  (xz s0).bind (fun b15 => some (b15, σ))
set_option maxHeartbeats 4000000 in
set_option maxRecDepth 20000 in
theorem L_X11_derivesWell_j88 {G : xG} {π : Nat → Nat} {d C Z : Nat} {Q : xQ} (σ : xM) (s0 : Int32) {x : (Int32 × xM)} (hf : f_X11_derivesWell_j88 σ s0 = some x) (hR : ∀ g, x = g → Q (.inl (some (.int g.1))) (g.2) π) : xMach G π J_X11_derivesWell (d + 407) C Z 88 [] [.int s0] σ Q := by
  unfold f_X11_derivesWell_j88 at hf
  obtain ⟨b15, eb15, hf⟩ := xbind hf
  obtain ⟨rfl, hz⟩ := xz_of eb15
  cases hf
  exact xm_zret dX11_derivesWell_88 rfl hz (hR _ rfl)
def f_X11_derivesWell_j83 (σ : xM)  : Option (Int32 × xM) :=
  f_X11_derivesWell_j88 σ (1 : Int32)
set_option maxHeartbeats 4000000 in
set_option maxRecDepth 20000 in
theorem L_X11_derivesWell_j83 {G : xG} {π : Nat → Nat} {d C Z : Nat} {Q : xQ} (σ : xM)  {x : (Int32 × xM)} (hf : f_X11_derivesWell_j83 σ = some x) (hR : ∀ g, x = g → Q (.inl (some (.int g.1))) (g.2) π) : xMach G π J_X11_derivesWell (d + 407) C Z 83 [] [] σ Q := by
  unfold f_X11_derivesWell_j83 at hf
  refine xm_iconst dX11_derivesWell_83 (v := 1) (by decide) ?_
  refine xm_goto 88 dX11_derivesWell_84 (by decide) ?_
  exact xm_sub [] rfl (L_X11_derivesWell_j88 σ (1 : Int32) hf hR)
def f_X11_derivesWell (σ : xM) (l0 : Nat) (l1 : Nat) (l2 : Int32) : Option (Int32 × xM) :=
  (gR σ l0 11 8).bind (fun x1 => (if xk σ x1 7 = true then (f_X7_differentiate σ x1 l1 l2).bind (fun p2 => (if p2.1 = (0 : Int32) then some ((1 : Int32), p2.2) else (gR p2.2 l0 11 6).bind (fun x3 => (gR p2.2 l0 11 8).bind (fun x4 => (gR p2.2 x4 7 2).bind (fun x5 => (if xk p2.2 x3 4 = true then (f_X4_startTree p2.2 x3 x5).bind (fun p6 => (gR p6 l0 11 6).bind (fun x7 => (if xk p6 x7 4 = true then (f_X4_work p6 x7).bind (fun p8 => (if p8.1 = (0 : Int32) then (gR p8.2 l0 11 11).bind (fun x9 => (gR p8.2 l0 11 6).bind (fun x10 => (if xk p8.2 x10 4 = true then (f_X4_result p8.2 x10).bind (fun p11 => (if xk p8.2 x9 2 = true then (f_X2_copy p8.2 x9 p11).bind (fun p12 => (gR p12 l0 11 7).bind (fun x13 => (if xk p12 x13 8 = true then (f_X8_reckonPart p12 x13 l1 l2).bind (fun p14 => (if p14.1 = (0 : Int32) then (gR p14.2 l0 11 7).bind (fun x16 => (if xk p14.2 x16 8 = true then (f_X8_result p14.2 x16).bind (fun p17 => (gR p14.2 l0 11 11).bind (fun x18 => (if xk p14.2 p17 2 = true then (f_X2_sameAs p14.2 p17 x18).bind (fun p19 => (if p19 = (0 : Int32) then f_X11_derivesWell_j88 p14.2 (0 : Int32) else f_X11_derivesWell_j83 p14.2)) else none))) else none)) else f_X11_derivesWell_j83 p14.2)) else none))) else none)) else none))) else some ((1 : Int32), p8.2))) else none))) else none)))))) else none))
set_option maxHeartbeats 4000000 in
set_option maxRecDepth 20000 in
theorem m_X11_derivesWell {G : xG} {π : Nat → Nat} {d C Z : Nat} {Q : xQ} {σ : xM} {l0 : Nat} {l1 : Nat} {l2 : Int32} {x : (Int32 × xM)} (hf : f_X11_derivesWell σ l0 l1 l2 = some x) (hR : ∀ g, x = g → Q (.inl (some (.int g.1))) (g.2) π) : xMach G π J_X11_derivesWell (d + 407) C Z 0 (lv_args 0 [.ref l0, .ref l1, .int l2]) [] σ Q := by
  unfold f_X11_derivesWell at hf
  refine xm_stL (L' := [(0, .ref l0), (1, .ref l1), (2, .int l2)]) rfl ?_
  refine xm_aload_n dX11_derivesWell_0 rfl ?_
  refine xb_getR (a := l0) (c := 11) (k := 8) dX11_derivesWell_1 xcl11 (by decide) xw_591 rfl hf (fun x1 ex1 hf => ?_)
  refine xm_aload_n dX11_derivesWell_4 rfl ?_
  refine xm_iload_n dX11_derivesWell_5 rfl ?_
  refine xb_if hf (fun hb hf => ?_) (fun _ q => nomatch q)
  obtain ⟨p2, ep2, hf⟩ := xbind hf
  refine xb_callV (As := [.ref l1, .int l2]) (v0 := (some (.int p2.1))) (τ0 := p2.2) dX11_derivesWell_6 (xc_X7_differentiate _ _) xcl7 xw_1424 xw_1425 xw_1426 hb rfl (Nat.le_of_ble_eq_true rfl) rfl (Nat.le_of_ble_eq_true rfl) (fun Q1 hq => m_X7_differentiate (d := d + 0) ep2 (fun g hg => by subst hg; exact hq)) ?_
  refine xb_if_ne 14 dX11_derivesWell_9 (by decide) hf (fun c hf => ?_) (fun c hf => ?_)
  · refine xm_aload_n dX11_derivesWell_14 rfl ?_
    refine xb_getR (a := l0) (c := 11) (k := 6) dX11_derivesWell_15 xcl11 (by decide) xw_589 rfl hf (fun x3 ex3 hf => ?_)
    refine xm_aload_n dX11_derivesWell_18 rfl ?_
    refine xb_getR (a := l0) (c := 11) (k := 8) dX11_derivesWell_19 xcl11 (by decide) xw_591 rfl hf (fun x4 ex4 hf => ?_)
    refine xb_getR (a := x4) (c := 7) (k := 2) dX11_derivesWell_22 xcl7 (by decide) xw_524 rfl hf (fun x5 ex5 hf => ?_)
    refine xb_if hf (fun hb hf => ?_) (fun _ q => nomatch q)
    obtain ⟨p6, ep6, hf⟩ := xbind hf
    refine xb_callV (As := [.ref x5]) (v0 := none) (τ0 := p6) dX11_derivesWell_25 (xc_X4_startTree _ _) xcl4 xw_927 xw_928 xw_929 hb rfl (Nat.le_of_ble_eq_true rfl) rfl (Nat.le_of_ble_eq_true rfl) (fun Q1 hq => m_X4_startTree (d := d + 404) ep6 (fun g hg => by subst hg; exact hq)) ?_
    refine xm_aload_n dX11_derivesWell_28 rfl ?_
    refine xb_getR (a := l0) (c := 11) (k := 6) dX11_derivesWell_29 xcl11 (by decide) xw_589 rfl hf (fun x7 ex7 hf => ?_)
    refine xb_if hf (fun hb hf => ?_) (fun _ q => nomatch q)
    obtain ⟨p8, ep8, hf⟩ := xbind hf
    refine xb_callV (As := []) (v0 := (some (.int p8.1))) (τ0 := p8.2) dX11_derivesWell_32 (xc_X4_work _ _) xcl4 xw_947 xw_948 xw_949 hb rfl (Nat.le_of_ble_eq_true rfl) rfl (Nat.le_of_ble_eq_true rfl) (fun Q1 hq => m_X4_work (d := d + 401) ep8 (fun g hg => by subst hg; exact hq)) ?_
    refine xb_if_eq 40 dX11_derivesWell_35 (by decide) hf (fun c hf => ?_) (fun c hf => ?_)
    · refine xm_aload_n dX11_derivesWell_40 rfl ?_
      refine xb_getR (a := l0) (c := 11) (k := 11) dX11_derivesWell_41 xcl11 (by decide) xw_594 rfl hf (fun x9 ex9 hf => ?_)
      refine xm_aload_n dX11_derivesWell_44 rfl ?_
      refine xb_getR (a := l0) (c := 11) (k := 6) dX11_derivesWell_45 xcl11 (by decide) xw_589 rfl hf (fun x10 ex10 hf => ?_)
      refine xb_if hf (fun hb hf => ?_) (fun _ q => nomatch q)
      obtain ⟨p11, ep11, hf⟩ := xbind hf
      refine xb_callV (As := []) (v0 := (some (.ref p11))) (τ0 := p8.2) dX11_derivesWell_48 (xc_X4_result _ _) xcl4 xw_1193 xw_1194 xw_1195 hb rfl (Nat.le_of_ble_eq_true rfl) rfl (Nat.le_of_ble_eq_true rfl) (fun Q1 hq => m_X4_result (d := d + 406) ep11 (fun g hg => by subst hg; exact hq)) ?_
      refine xb_if hf (fun hb hf => ?_) (fun _ q => nomatch q)
      obtain ⟨p12, ep12, hf⟩ := xbind hf
      refine xb_callV (As := [.ref p11]) (v0 := none) (τ0 := p12) dX11_derivesWell_51 (xc_X2_copy _ _) xcl2 xw_1210 xw_965 xw_966 hb rfl (Nat.le_of_ble_eq_true rfl) rfl (Nat.le_of_ble_eq_true rfl) (fun Q1 hq => m_X2_copy (d := d + 404) ep12 (fun g hg => by subst hg; exact hq)) ?_
      refine xm_aload_n dX11_derivesWell_54 rfl ?_
      refine xb_getR (a := l0) (c := 11) (k := 7) dX11_derivesWell_55 xcl11 (by decide) xw_590 rfl hf (fun x13 ex13 hf => ?_)
      refine xm_aload_n dX11_derivesWell_58 rfl ?_
      refine xm_iload_n dX11_derivesWell_59 rfl ?_
      refine xb_if hf (fun hb hf => ?_) (fun _ q => nomatch q)
      obtain ⟨p14, ep14, hf⟩ := xbind hf
      refine xb_callV (As := [.ref l1, .int l2]) (v0 := (some (.int p14.1))) (τ0 := p14.2) dX11_derivesWell_60 (xc_X8_reckonPart _ _) xcl8 xw_1473 xw_1474 xw_1475 hb rfl (Nat.le_of_ble_eq_true rfl) rfl (Nat.le_of_ble_eq_true rfl) (fun Q1 hq => m_X8_reckonPart (d := d + 401) ep14 (fun g hg => by subst hg; exact hq)) ?_
      refine xb_if_ne 83 dX11_derivesWell_63 (by decide) hf (fun c hf => ?_) (fun c hf => ?_)
      · exact xm_sub [] rfl (L_X11_derivesWell_j83 p14.2 hf hR)
      · refine xm_aload_n dX11_derivesWell_66 rfl ?_
        refine xb_getR (a := l0) (c := 11) (k := 7) dX11_derivesWell_67 xcl11 (by decide) xw_590 rfl hf (fun x16 ex16 hf => ?_)
        refine xb_if hf (fun hb hf => ?_) (fun _ q => nomatch q)
        obtain ⟨p17, ep17, hf⟩ := xbind hf
        refine xb_callV (As := []) (v0 := (some (.ref p17))) (τ0 := p14.2) dX11_derivesWell_70 (xc_X8_result _ _) xcl8 xw_1514 xw_1515 xw_1516 hb rfl (Nat.le_of_ble_eq_true rfl) rfl (Nat.le_of_ble_eq_true rfl) (fun Q1 hq => m_X8_result (d := d + 406) ep17 (fun g hg => by subst hg; exact hq)) ?_
        refine xm_aload_n dX11_derivesWell_73 rfl ?_
        refine xb_getR (a := l0) (c := 11) (k := 11) dX11_derivesWell_74 xcl11 (by decide) xw_594 rfl hf (fun x18 ex18 hf => ?_)
        refine xb_if hf (fun hb hf => ?_) (fun _ q => nomatch q)
        obtain ⟨p19, ep19, hf⟩ := xbind hf
        refine xb_callV (As := [.ref x18]) (v0 := (some (.int p19))) (τ0 := p14.2) dX11_derivesWell_77 (xc_X2_sameAs _ _) xcl2 xw_1362 xw_1184 xw_1185 hb rfl (Nat.le_of_ble_eq_true rfl) rfl (Nat.le_of_ble_eq_true rfl) (fun Q1 hq => m_X2_sameAs (d := d + 404) ep19 (fun g hg => by subst hg; exact hq)) ?_
        refine xb_if_eq 87 dX11_derivesWell_80 (by decide) hf (fun c hf => ?_) (fun c hf => ?_)
        · refine xm_iconst dX11_derivesWell_87 (v := 0) (by decide) ?_
          exact xm_sub [] rfl (L_X11_derivesWell_j88 p14.2 (0 : Int32) hf hR)
        · exact xm_sub [] rfl (L_X11_derivesWell_j83 p14.2 hf hR)
    · refine xm_iconst dX11_derivesWell_38 (v := 1) (by decide) ?_
      cases hf
      exact xm_zret dX11_derivesWell_39 rfl rfl (hR _ rfl)
  · refine xm_iconst dX11_derivesWell_12 (v := 1) (by decide) ?_
    cases hf
    exact xm_zret dX11_derivesWell_13 rfl rfl (hR _ rfl)
-- Rankwise.audit(II)Z
def f_X11_audit_j9 (σ : xM)  : Option ((Int32 ⊕ String) × xM) :=
  some ((Sum.inr "java/lang/IllegalArgumentException"), σ)
set_option maxHeartbeats 4000000 in
set_option maxRecDepth 20000 in
theorem L_X11_audit_j9 {G : xG} {π : Nat → Nat} {d C Z : Nat} {Q : xQ} (σ : xM)  {x : ((Int32 ⊕ String) × xM)} (hf : f_X11_audit_j9 σ = some x) (hR : ∀ g, x = g → Sum.elim (fun v => Q (.inl (some (.int v))) (g.2) π) (fun E => (1 ≤ C ∧ 6 ≤ Z) ∧ Q (.inr E) (g.2) π) (g.1)) : xMach G π J_X11_audit (d + 408) C Z 9 [] [] σ Q := by
  unfold f_X11_audit_j9 at hf
  cases hf
  exact xb_throwSW (text := "the part is not 0 to 3") dX11_audit_9 dX11_audit_12 dX11_audit_13 dX11_audit_16 dX11_audit_19 xt_X11_169_173 (by decide) (by omega) (Nat.le_of_ble_eq_true rfl) (hR _ rfl).1 (hR _ rfl).2
def f_X11_audit_j167 (σ : xM) (s0 : Int32) : Option ((Int32 ⊕ String) × xM) :=
  (xz s0).bind (fun b4 => some ((Sum.inl b4), σ))
set_option maxHeartbeats 4000000 in
set_option maxRecDepth 20000 in
theorem L_X11_audit_j167 {G : xG} {π : Nat → Nat} {d C Z : Nat} {Q : xQ} (σ : xM) (s0 : Int32) {x : ((Int32 ⊕ String) × xM)} (hf : f_X11_audit_j167 σ s0 = some x) (hR : ∀ g, x = g → Sum.elim (fun v => Q (.inl (some (.int v))) (g.2) π) (fun E => (1 ≤ C ∧ 6 ≤ Z) ∧ Q (.inr E) (g.2) π) (g.1)) : xMach G π J_X11_audit (d + 408) C Z 167 [] [.int s0] σ Q := by
  unfold f_X11_audit_j167 at hf
  obtain ⟨b4, eb4, hf⟩ := xbind hf
  obtain ⟨rfl, hz⟩ := xz_of eb4
  cases hf
  exact xm_zret dX11_audit_167 rfl hz (hR _ rfl)
def f_X11_audit_j166 (σ : xM)  : Option ((Int32 ⊕ String) × xM) :=
  f_X11_audit_j167 σ (0 : Int32)
set_option maxHeartbeats 4000000 in
set_option maxRecDepth 20000 in
theorem L_X11_audit_j166 {G : xG} {π : Nat → Nat} {d C Z : Nat} {Q : xQ} (σ : xM)  {x : ((Int32 ⊕ String) × xM)} (hf : f_X11_audit_j166 σ = some x) (hR : ∀ g, x = g → Sum.elim (fun v => Q (.inl (some (.int v))) (g.2) π) (fun E => (1 ≤ C ∧ 6 ≤ Z) ∧ Q (.inr E) (g.2) π) (g.1)) : xMach G π J_X11_audit (d + 408) C Z 166 [] [] σ Q := by
  unfold f_X11_audit_j166 at hf
  refine xm_iconst dX11_audit_166 (v := 0) (by decide) ?_
  exact xm_sub [] rfl (L_X11_audit_j167 σ (0 : Int32) hf hR)
def f_X11_audit_j119 (σ : xM) (s0 : Int32) : Option ((Int32 ⊕ String) × xM) :=
  (xz s0).bind (fun b17 => some ((Sum.inl b17), σ))
set_option maxHeartbeats 4000000 in
set_option maxRecDepth 20000 in
theorem L_X11_audit_j119 {G : xG} {π : Nat → Nat} {d C Z : Nat} {Q : xQ} (σ : xM) (s0 : Int32) {x : ((Int32 ⊕ String) × xM)} (hf : f_X11_audit_j119 σ s0 = some x) (hR : ∀ g, x = g → Sum.elim (fun v => Q (.inl (some (.int v))) (g.2) π) (fun E => (1 ≤ C ∧ 6 ≤ Z) ∧ Q (.inr E) (g.2) π) (g.1)) : xMach G π J_X11_audit (d + 408) C Z 119 [] [.int s0] σ Q := by
  unfold f_X11_audit_j119 at hf
  obtain ⟨b17, eb17, hf⟩ := xbind hf
  obtain ⟨rfl, hz⟩ := xz_of eb17
  cases hf
  exact xm_zret dX11_audit_119 rfl hz (hR _ rfl)
def f_X11_audit_j118 (σ : xM)  : Option ((Int32 ⊕ String) × xM) :=
  f_X11_audit_j119 σ (0 : Int32)
set_option maxHeartbeats 4000000 in
set_option maxRecDepth 20000 in
theorem L_X11_audit_j118 {G : xG} {π : Nat → Nat} {d C Z : Nat} {Q : xQ} (σ : xM)  {x : ((Int32 ⊕ String) × xM)} (hf : f_X11_audit_j118 σ = some x) (hR : ∀ g, x = g → Sum.elim (fun v => Q (.inl (some (.int v))) (g.2) π) (fun E => (1 ≤ C ∧ 6 ≤ Z) ∧ Q (.inr E) (g.2) π) (g.1)) : xMach G π J_X11_audit (d + 408) C Z 118 [] [] σ Q := by
  unfold f_X11_audit_j118 at hf
  refine xm_iconst dX11_audit_118 (v := 0) (by decide) ?_
  exact xm_sub [] rfl (L_X11_audit_j119 σ (0 : Int32) hf hR)
def f_X11_audit (σ : xM) (l0 : Nat) (l1 : Int32) (l2 : Int32) : Option ((Int32 ⊕ String) × xM) :=
  (if l1 < (0 : Int32) then f_X11_audit_j9 σ else (if l1 ≤ (3 : Int32) then (if xk σ l0 11 = true then (f_X11_treeAt σ l0 l2).bind (fun p1 => Sum.elim (fun w2 => (if l1 = (0 : Int32) then (gR σ l0 11 5).bind (fun x7 => (if xk σ x7 5 = true then (f_X5_fewest σ x7 w2).bind (fun p8 => (gR p8 l0 11 3).bind (fun x9 => (gR p8 l0 11 5).bind (fun x10 => (gR p8 x10 5 2).bind (fun x11 => (gR p8 l0 11 5).bind (fun x12 => (gI p8 x12 5 3).bind (fun x13 => (if xk p8 x9 6 = true then (f_X6_split p8 x9 x11 x13).bind (fun p14 => (gR p14 l0 11 3).bind (fun x15 => (if xk p14 x15 6 = true then (f_X6_stacksGive p14 x15 w2).bind (fun p16 => (if p16.1 = (0 : Int32) then f_X11_audit_j118 p16.2 else (gR p16.2 l0 11 3).bind (fun x18 => (if xk p16.2 x18 6 = true then (f_X6_climbingGives p16.2 x18 w2).bind (fun p19 => (if p19.1 = (0 : Int32) then f_X11_audit_j118 p19.2 else (gR p19.2 l0 11 3).bind (fun x20 => (if xk p19.2 x20 6 = true then (f_X6_needsAllBrackets p19.2 x20 w2).bind (fun p21 => (if p21.1 = (0 : Int32) then f_X11_audit_j118 p21.2 else f_X11_audit_j119 p21.2 (1 : Int32))) else none)))) else none)))) else none))) else none))))))) else none)) else (if l1 = (1 : Int32) then (if xk σ l0 11 = true then (f_X11_postfixAgrees σ l0 w2).bind (fun p22 => (xz p22.1).bind (fun b23 => some ((Sum.inl b23), p22.2))) else none) else (if l1 = (2 : Int32) then (if xk σ l0 11 = true then (f_X11_simplifiesWell σ l0 w2).bind (fun p24 => (xz p24.1).bind (fun b25 => some ((Sum.inl b25), p24.2))) else none) else (if xk σ l0 11 = true then (f_X11_derivesWell σ l0 w2 (120 : Int32)).bind (fun p3 => (if p3.1 = (0 : Int32) then f_X11_audit_j166 p3.2 else (if xk p3.2 l0 11 = true then (f_X11_derivesWell p3.2 l0 w2 (121 : Int32)).bind (fun p5 => (if p5.1 = (0 : Int32) then f_X11_audit_j166 p5.2 else (if xk p5.2 l0 11 = true then (f_X11_derivesWell p5.2 l0 w2 (122 : Int32)).bind (fun p6 => (if p6.1 = (0 : Int32) then f_X11_audit_j166 p6.2 else f_X11_audit_j167 p6.2 (1 : Int32))) else none))) else none))) else none))))) (fun E => some ((Sum.inr E), σ)) p1) else none) else f_X11_audit_j9 σ))
set_option maxHeartbeats 4000000 in
set_option maxRecDepth 20000 in
theorem m_X11_audit {G : xG} {π : Nat → Nat} {d C Z : Nat} {Q : xQ} {σ : xM} {l0 : Nat} {l1 : Int32} {l2 : Int32} {x : ((Int32 ⊕ String) × xM)} (hf : f_X11_audit σ l0 l1 l2 = some x) (hR : ∀ g, x = g → Sum.elim (fun v => Q (.inl (some (.int v))) (g.2) π) (fun E => (1 ≤ C ∧ 6 ≤ Z) ∧ Q (.inr E) (g.2) π) (g.1)) : xMach G π J_X11_audit (d + 408) C Z 0 (lv_args 0 [.ref l0, .int l1, .int l2]) [] σ Q := by
  unfold f_X11_audit at hf
  refine xm_stL (L' := [(0, .ref l0), (1, .int l1), (2, .int l2)]) rfl ?_
  refine xm_iload_n dX11_audit_0 rfl ?_
  refine xb_if_lt 9 dX11_audit_1 (by decide) hf (fun c hf => ?_) (fun c hf => ?_)
  · exact xm_sub [] rfl (L_X11_audit_j9 σ hf hR)
  · refine xm_iload_n dX11_audit_4 rfl ?_
    refine xm_iconst dX11_audit_5 (v := 3) (by decide) ?_
    refine xb_icmp_le 20 dX11_audit_6 (by decide) hf (fun c hf => ?_) (fun c hf => ?_)
    · refine xm_aload_n dX11_audit_20 rfl ?_
      refine xm_iload_n dX11_audit_21 rfl ?_
      refine xb_if hf (fun hb hf => ?_) (fun _ q => nomatch q)
      obtain ⟨p1, ep1, hf⟩ := xbind hf
      rcases p1 with w2 | E
      · have hf : (if l1 = (0 : Int32) then (gR σ l0 11 5).bind (fun x7 => (if xk σ x7 5 = true then (f_X5_fewest σ x7 w2).bind (fun p8 => (gR p8 l0 11 3).bind (fun x9 => (gR p8 l0 11 5).bind (fun x10 => (gR p8 x10 5 2).bind (fun x11 => (gR p8 l0 11 5).bind (fun x12 => (gI p8 x12 5 3).bind (fun x13 => (if xk p8 x9 6 = true then (f_X6_split p8 x9 x11 x13).bind (fun p14 => (gR p14 l0 11 3).bind (fun x15 => (if xk p14 x15 6 = true then (f_X6_stacksGive p14 x15 w2).bind (fun p16 => (if p16.1 = (0 : Int32) then f_X11_audit_j118 p16.2 else (gR p16.2 l0 11 3).bind (fun x18 => (if xk p16.2 x18 6 = true then (f_X6_climbingGives p16.2 x18 w2).bind (fun p19 => (if p19.1 = (0 : Int32) then f_X11_audit_j118 p19.2 else (gR p19.2 l0 11 3).bind (fun x20 => (if xk p19.2 x20 6 = true then (f_X6_needsAllBrackets p19.2 x20 w2).bind (fun p21 => (if p21.1 = (0 : Int32) then f_X11_audit_j118 p21.2 else f_X11_audit_j119 p21.2 (1 : Int32))) else none)))) else none)))) else none))) else none))))))) else none)) else (if l1 = (1 : Int32) then (if xk σ l0 11 = true then (f_X11_postfixAgrees σ l0 w2).bind (fun p22 => (xz p22.1).bind (fun b23 => some ((Sum.inl b23), p22.2))) else none) else (if l1 = (2 : Int32) then (if xk σ l0 11 = true then (f_X11_simplifiesWell σ l0 w2).bind (fun p24 => (xz p24.1).bind (fun b25 => some ((Sum.inl b25), p24.2))) else none) else (if xk σ l0 11 = true then (f_X11_derivesWell σ l0 w2 (120 : Int32)).bind (fun p3 => (if p3.1 = (0 : Int32) then f_X11_audit_j166 p3.2 else (if xk p3.2 l0 11 = true then (f_X11_derivesWell p3.2 l0 w2 (121 : Int32)).bind (fun p5 => (if p5.1 = (0 : Int32) then f_X11_audit_j166 p5.2 else (if xk p5.2 l0 11 = true then (f_X11_derivesWell p5.2 l0 w2 (122 : Int32)).bind (fun p6 => (if p6.1 = (0 : Int32) then f_X11_audit_j166 p6.2 else f_X11_audit_j167 p6.2 (1 : Int32))) else none))) else none))) else none)))) = some _ := hf
        refine xb_callV (As := [.int l2]) (v0 := (some (.ref w2))) (τ0 := σ) dX11_audit_22 (xc_X11_treeAt _ _) xcl11 xw_907 xw_909 xs_19 hb rfl (Nat.le_of_ble_eq_true rfl) rfl (Nat.le_of_ble_eq_true rfl) (fun Q1 hq => m_X11_treeAt (d := d + 400) ep1 (fun g hg => by subst hg; exact hq)) ?_
        refine xm_astore_n dX11_audit_25 (by decide) (xm_stL (L' := [(3, .ref w2), (0, .ref l0), (1, .int l1), (2, .int l2)]) rfl ?_)
        refine xm_iload_n dX11_audit_26 rfl ?_
        refine xb_if hf (fun c hf => ?_) (fun n0 hf => ?_)
        · refine xm_tableIn 52 dX11_audit_27 (by rw [c]; decide) (by rw [c]; decide) (by rw [c]; rfl) (by decide) ?_
          refine xm_aload_n dX11_audit_52 rfl ?_
          refine xb_getR (a := l0) (c := 11) (k := 5) dX11_audit_53 xcl11 (by decide) xw_588 rfl hf (fun x7 ex7 hf => ?_)
          refine xm_aload_n dX11_audit_56 rfl ?_
          refine xb_if hf (fun hb hf => ?_) (fun _ q => nomatch q)
          obtain ⟨p8, ep8, hf⟩ := xbind hf
          refine xb_callV (As := [.ref w2]) (v0 := none) (τ0 := p8) dX11_audit_57 (xc_X5_fewest _ _) xcl5 xw_1280 xw_1281 xw_1282 hb rfl (Nat.le_of_ble_eq_true rfl) rfl (Nat.le_of_ble_eq_true rfl) (fun Q1 hq => m_X5_fewest (d := d + 6) ep8 (fun g hg => by subst hg; exact hq)) ?_
          refine xm_aload_n dX11_audit_60 rfl ?_
          refine xb_getR (a := l0) (c := 11) (k := 3) dX11_audit_61 xcl11 (by decide) xw_586 rfl hf (fun x9 ex9 hf => ?_)
          refine xm_aload_n dX11_audit_64 rfl ?_
          refine xb_getR (a := l0) (c := 11) (k := 5) dX11_audit_65 xcl11 (by decide) xw_588 rfl hf (fun x10 ex10 hf => ?_)
          refine xb_getR (a := x10) (c := 5) (k := 2) dX11_audit_68 xcl5 (by decide) xw_400 rfl hf (fun x11 ex11 hf => ?_)
          refine xm_aload_n dX11_audit_71 rfl ?_
          refine xb_getR (a := l0) (c := 11) (k := 5) dX11_audit_72 xcl11 (by decide) xw_588 rfl hf (fun x12 ex12 hf => ?_)
          refine xb_getI (a := x12) (c := 5) (k := 3) dX11_audit_75 xcl5 (by decide) xw_402 rfl hf (fun x13 ex13 hf => ?_)
          refine xb_if hf (fun hb hf => ?_) (fun _ q => nomatch q)
          obtain ⟨p14, ep14, hf⟩ := xbind hf
          refine xb_callV (As := [.ref x11, .int x13]) (v0 := none) (τ0 := p14) dX11_audit_78 (xc_X6_split _ _) xcl6 xw_711 xw_712 xw_713 hb rfl (Nat.le_of_ble_eq_true rfl) rfl (Nat.le_of_ble_eq_true rfl) (fun Q1 hq => m_X6_split (d := d + 404) ep14 (fun g hg => by subst hg; exact hq)) ?_
          refine xm_aload_n dX11_audit_81 rfl ?_
          refine xb_getR (a := l0) (c := 11) (k := 3) dX11_audit_82 xcl11 (by decide) xw_586 rfl hf (fun x15 ex15 hf => ?_)
          refine xm_aload_n dX11_audit_85 rfl ?_
          refine xb_if hf (fun hb hf => ?_) (fun _ q => nomatch q)
          obtain ⟨p16, ep16, hf⟩ := xbind hf
          refine xb_callV (As := [.ref w2]) (v0 := (some (.int p16.1))) (τ0 := p16.2) dX11_audit_86 (xc_X6_stacksGive _ _) xcl6 xw_1328 xw_1307 xw_1308 hb rfl (Nat.le_of_ble_eq_true rfl) rfl (Nat.le_of_ble_eq_true rfl) (fun Q1 hq => m_X6_stacksGive (d := d + 403) ep16 (fun g hg => by subst hg; exact hq)) ?_
          refine xb_if_eq 118 dX11_audit_89 (by decide) hf (fun c hf => ?_) (fun c hf => ?_)
          · exact xm_sub [] rfl (L_X11_audit_j118 p16.2 hf hR)
          · refine xm_aload_n dX11_audit_92 rfl ?_
            refine xb_getR (a := l0) (c := 11) (k := 3) dX11_audit_93 xcl11 (by decide) xw_586 rfl hf (fun x18 ex18 hf => ?_)
            refine xm_aload_n dX11_audit_96 rfl ?_
            refine xb_if hf (fun hb hf => ?_) (fun _ q => nomatch q)
            obtain ⟨p19, ep19, hf⟩ := xbind hf
            refine xb_callV (As := [.ref w2]) (v0 := (some (.int p19.1))) (τ0 := p19.2) dX11_audit_97 (xc_X6_climbingGives _ _) xcl6 xw_1329 xw_1330 xw_1331 hb rfl (Nat.le_of_ble_eq_true rfl) rfl (Nat.le_of_ble_eq_true rfl) (fun Q1 hq => m_X6_climbingGives (d := d + 5) ep19 (fun g hg => by subst hg; exact hq)) ?_
            refine xb_if_eq 118 dX11_audit_100 (by decide) hf (fun c hf => ?_) (fun c hf => ?_)
            · exact xm_sub [] rfl (L_X11_audit_j118 p19.2 hf hR)
            · refine xm_aload_n dX11_audit_103 rfl ?_
              refine xb_getR (a := l0) (c := 11) (k := 3) dX11_audit_104 xcl11 (by decide) xw_586 rfl hf (fun x20 ex20 hf => ?_)
              refine xm_aload_n dX11_audit_107 rfl ?_
              refine xb_if hf (fun hb hf => ?_) (fun _ q => nomatch q)
              obtain ⟨p21, ep21, hf⟩ := xbind hf
              refine xb_callV (As := [.ref w2]) (v0 := (some (.int p21.1))) (τ0 := p21.2) dX11_audit_108 (xc_X6_needsAllBrackets _ _) xcl6 xw_1345 xw_1346 xw_1347 hb rfl (Nat.le_of_ble_eq_true rfl) rfl (Nat.le_of_ble_eq_true rfl) (fun Q1 hq => m_X6_needsAllBrackets (d := d + 402) ep21 (fun g hg => by subst hg; exact hq)) ?_
              refine xb_if_eq 118 dX11_audit_111 (by decide) hf (fun c hf => ?_) (fun c hf => ?_)
              · exact xm_sub [] rfl (L_X11_audit_j118 p21.2 hf hR)
              · refine xm_iconst dX11_audit_114 (v := 1) (by decide) ?_
                refine xm_goto 119 dX11_audit_115 (by decide) ?_
                exact xm_sub [] rfl (L_X11_audit_j119 p21.2 (1 : Int32) hf hR)
        refine xb_if hf (fun c hf => ?_) (fun n1 hf => ?_)
        · refine xm_tableIn 120 dX11_audit_27 (by rw [c]; decide) (by rw [c]; decide) (by rw [c]; rfl) (by decide) ?_
          refine xm_aload_n dX11_audit_120 rfl ?_
          refine xm_aload_n dX11_audit_121 rfl ?_
          refine xb_if hf (fun hb hf => ?_) (fun _ q => nomatch q)
          obtain ⟨p22, ep22, hf⟩ := xbind hf
          refine xb_callV (As := [.ref w2]) (v0 := (some (.int p22.1))) (τ0 := p22.2) dX11_audit_122 (xc_X11_postfixAgrees _ _) xcl11 xw_1349 xw_1351 xs_54 hb rfl (Nat.le_of_ble_eq_true rfl) rfl (Nat.le_of_ble_eq_true rfl) (fun Q1 hq => m_X11_postfixAgrees (d := d + 401) ep22 (fun g hg => by subst hg; exact hq)) ?_
          obtain ⟨b23, eb23, hf⟩ := xbind hf
          obtain ⟨rfl, hz⟩ := xz_of eb23
          cases hf
          exact xm_zret dX11_audit_125 rfl hz (hR _ rfl)
        refine xb_if hf (fun c hf => ?_) (fun n2 hf => ?_)
        · refine xm_tableIn 126 dX11_audit_27 (by rw [c]; decide) (by rw [c]; decide) (by rw [c]; rfl) (by decide) ?_
          refine xm_aload_n dX11_audit_126 rfl ?_
          refine xm_aload_n dX11_audit_127 rfl ?_
          refine xb_if hf (fun hb hf => ?_) (fun _ q => nomatch q)
          obtain ⟨p24, ep24, hf⟩ := xbind hf
          refine xb_callV (As := [.ref w2]) (v0 := (some (.int p24.1))) (τ0 := p24.2) dX11_audit_128 (xc_X11_simplifiesWell _ _) xcl11 xw_1363 xw_1365 xs_55 hb rfl (Nat.le_of_ble_eq_true rfl) rfl (Nat.le_of_ble_eq_true rfl) (fun Q1 hq => m_X11_simplifiesWell (d := d + 401) ep24 (fun g hg => by subst hg; exact hq)) ?_
          obtain ⟨b25, eb25, hf⟩ := xbind hf
          obtain ⟨rfl, hz⟩ := xz_of eb25
          cases hf
          exact xm_zret dX11_audit_131 rfl hz (hR _ rfl)
        refine xm_tableOut 132 dX11_audit_27 (by have q0 := lv_neT (a := 0) n0 (by decide); have q1 := lv_neT (a := 1) n1 (by decide); have q2 := lv_neT (a := 2) n2 (by decide); omega) (by decide) ?_
        refine xm_aload_n dX11_audit_132 rfl ?_
        refine xm_aload_n dX11_audit_133 rfl ?_
        refine xm_bipush dX11_audit_134 (v := 120) (by decide) ?_
        refine xb_if hf (fun hb hf => ?_) (fun _ q => nomatch q)
        obtain ⟨p3, ep3, hf⟩ := xbind hf
        refine xb_callV (As := [.ref w2, .int (120 : Int32)]) (v0 := (some (.int p3.1))) (τ0 := p3.2) dX11_audit_136 (xc_X11_derivesWell _ _) xcl11 xw_1420 xw_1422 xs_60 hb rfl (Nat.le_of_ble_eq_true rfl) rfl (Nat.le_of_ble_eq_true rfl) (fun Q1 hq => m_X11_derivesWell (d := d + 0) ep3 (fun g hg => by subst hg; exact hq)) ?_
        refine xb_if_eq 166 dX11_audit_139 (by decide) hf (fun c hf => ?_) (fun c hf => ?_)
        · exact xm_sub [] rfl (L_X11_audit_j166 p3.2 hf hR)
        · refine xm_aload_n dX11_audit_142 rfl ?_
          refine xm_aload_n dX11_audit_143 rfl ?_
          refine xm_bipush dX11_audit_144 (v := 121) (by decide) ?_
          refine xb_if hf (fun hb hf => ?_) (fun _ q => nomatch q)
          obtain ⟨p5, ep5, hf⟩ := xbind hf
          refine xb_callV (As := [.ref w2, .int (121 : Int32)]) (v0 := (some (.int p5.1))) (τ0 := p5.2) dX11_audit_146 (xc_X11_derivesWell _ _) xcl11 xw_1420 xw_1422 xs_60 hb rfl (Nat.le_of_ble_eq_true rfl) rfl (Nat.le_of_ble_eq_true rfl) (fun Q1 hq => m_X11_derivesWell (d := d + 0) ep5 (fun g hg => by subst hg; exact hq)) ?_
          refine xb_if_eq 166 dX11_audit_149 (by decide) hf (fun c hf => ?_) (fun c hf => ?_)
          · exact xm_sub [] rfl (L_X11_audit_j166 p5.2 hf hR)
          · refine xm_aload_n dX11_audit_152 rfl ?_
            refine xm_aload_n dX11_audit_153 rfl ?_
            refine xm_bipush dX11_audit_154 (v := 122) (by decide) ?_
            refine xb_if hf (fun hb hf => ?_) (fun _ q => nomatch q)
            obtain ⟨p6, ep6, hf⟩ := xbind hf
            refine xb_callV (As := [.ref w2, .int (122 : Int32)]) (v0 := (some (.int p6.1))) (τ0 := p6.2) dX11_audit_156 (xc_X11_derivesWell _ _) xcl11 xw_1420 xw_1422 xs_60 hb rfl (Nat.le_of_ble_eq_true rfl) rfl (Nat.le_of_ble_eq_true rfl) (fun Q1 hq => m_X11_derivesWell (d := d + 0) ep6 (fun g hg => by subst hg; exact hq)) ?_
            refine xb_if_eq 166 dX11_audit_159 (by decide) hf (fun c hf => ?_) (fun c hf => ?_)
            · exact xm_sub [] rfl (L_X11_audit_j166 p6.2 hf hR)
            · refine xm_iconst dX11_audit_162 (v := 1) (by decide) ?_
              refine xm_goto 167 dX11_audit_163 (by decide) ?_
              exact xm_sub [] rfl (L_X11_audit_j167 p6.2 (1 : Int32) hf hR)
      · have hf : some ((Sum.inr E), σ) = some _ := hf
        cases hf
        exact xb_callVX (As := [.int l2]) (τ0 := σ) dX11_audit_22 (xc_X11_treeAt _ _) xcl11 xw_907 xw_909 xs_19 hb rfl (Nat.le_of_ble_eq_true rfl) rfl (Nat.le_of_ble_eq_true rfl) (fun Q1 hq => m_X11_treeAt (d := d + 400) ep1 (fun g hg => by subst hg; exact ⟨⟨Nat.le_refl _, Nat.le_refl _⟩, hq⟩)) (hR _ rfl).1 (hR _ rfl).2
    · exact xm_sub [] rfl (L_X11_audit_j9 σ hf hR)
