-- RankwiseModel.type(C)I
def f_X12_type_j15 (σ : xM) (l0 : Nat) (l1 : Int32) (s0 : Int32) (s1 : Nat) : Option (Int32 × xM) :=
  (if xk σ s1 12 = true then (f_X12_refused σ s1 s0 (0 : Int32) (0 : Int32)).bind (fun p2 => (if p2.1 = (0 : Int32) then (gR p2.2 l0 12 18).bind (fun x3 => (gI p2.2 l0 12 19).bind (fun x4 => (wI p2.2 x3 x4 l1).bind (fun σ5 => (gI σ5 l0 12 19).bind (fun x6 => (sI σ5 l0 12 19 (x6 + (1 : Int32))).bind (fun σ7 => (gI σ7 l0 12 19).bind (fun x8 => some (x8, σ7))))))) else some ((0 : Int32), p2.2))) else none)
set_option maxHeartbeats 4000000 in
set_option maxRecDepth 20000 in
theorem L_X12_type_j15 {G : xG} {π : Nat → Nat} {d C Z : Nat} {Q : xQ} (σ : xM) (l0 : Nat) (l1 : Int32) (s0 : Int32) (s1 : Nat) {x : (Int32 × xM)} (hf : f_X12_type_j15 σ l0 l1 s0 s1 = some x) (hR : ∀ g, x = g → Q (.inl (some (.int g.1))) (g.2) π) : xMach G π J_X12_type (d + 1) C Z 15 [(0, .ref l0), (1, .int l1)] [.int s0, .ref s1] σ Q := by
  unfold f_X12_type_j15 at hf
  refine xm_iconst dX12_type_15 (v := 0) (by decide) ?_
  refine xm_iconst dX12_type_16 (v := 0) (by decide) ?_
  refine xb_if hf (fun hb hf => ?_) (fun _ q => nomatch q)
  obtain ⟨p2, ep2, hf⟩ := xbind hf
  refine xb_callV (As := [.int s0, .int (0 : Int32), .int (0 : Int32)]) (v0 := (some (.int p2.1))) (τ0 := p2.2) dX12_type_17 (xc_X12_refused _ _) xcl12 xw_2112 xw_2114 xs_90 hb rfl (Nat.le_of_ble_eq_true rfl) rfl (Nat.le_of_ble_eq_true rfl) (fun Q1 hq => m_X12_refused (d := d + 0) ep2 (fun g hg => by subst hg; exact hq)) ?_
  refine xb_if_eq 25 dX12_type_20 (by decide) hf (fun c hf => ?_) (fun c hf => ?_)
  · refine xm_aload_n dX12_type_25 rfl ?_
    refine xb_getR (a := l0) (c := 12) (k := 18) dX12_type_26 xcl12 (by decide) xw_1855 rfl hf (fun x3 ex3 hf => ?_)
    refine xm_aload_n dX12_type_29 rfl ?_
    refine xb_getI (a := l0) (c := 12) (k := 19) dX12_type_30 xcl12 (by decide) xw_1856 rfl hf (fun x4 ex4 hf => ?_)
    refine xm_iload_n dX12_type_33 rfl ?_
    refine xb_iast dX12_type_34 hf (fun σ5 eσ5 hf => ?_)
    refine xm_aload_n dX12_type_35 rfl ?_
    refine xm_dup dX12_type_36 rfl ?_
    refine xb_getI (a := l0) (c := 12) (k := 19) dX12_type_37 xcl12 (by decide) xw_1856 rfl hf (fun x6 ex6 hf => ?_)
    refine xm_iconst dX12_type_40 (v := 1) (by decide) ?_
    refine xm_iadd dX12_type_41 ?_
    refine xb_putI (a := l0) (c := 12) (k := 19) dX12_type_42 xcl12 (by decide) xw_1856 rfl rfl hf (fun σ7 eσ7 hf => ?_)
    refine xm_aload_n dX12_type_45 rfl ?_
    refine xb_getI (a := l0) (c := 12) (k := 19) dX12_type_46 xcl12 (by decide) xw_1856 rfl hf (fun x8 ex8 hf => ?_)
    cases hf
    exact xm_iret dX12_type_49 rfl (hR _ rfl)
  · refine xm_iconst dX12_type_23 (v := 0) (by decide) ?_
    cases hf
    exact xm_iret dX12_type_24 rfl (hR _ rfl)
def f_X12_type (σ : xM) (l0 : Nat) (l1 : Int32) : Option (Int32 × xM) :=
  (gI σ l0 12 19).bind (fun x1 => (if x1 = (60 : Int32) then f_X12_type_j15 σ l0 l1 (1 : Int32) l0 else f_X12_type_j15 σ l0 l1 (0 : Int32) l0))
set_option maxHeartbeats 4000000 in
set_option maxRecDepth 20000 in
theorem m_X12_type {G : xG} {π : Nat → Nat} {d C Z : Nat} {Q : xQ} {σ : xM} {l0 : Nat} {l1 : Int32} {x : (Int32 × xM)} (hf : f_X12_type σ l0 l1 = some x) (hR : ∀ g, x = g → Q (.inl (some (.int g.1))) (g.2) π) : xMach G π J_X12_type (d + 1) C Z 0 (lv_args 0 [.ref l0, .int l1]) [] σ Q := by
  unfold f_X12_type at hf
  refine xm_stL (L' := [(0, .ref l0), (1, .int l1)]) rfl ?_
  refine xm_aload_n dX12_type_0 rfl ?_
  refine xm_aload_n dX12_type_1 rfl ?_
  refine xb_getI (a := l0) (c := 12) (k := 19) dX12_type_2 xcl12 (by decide) xw_1856 rfl hf (fun x1 ex1 hf => ?_)
  refine xm_bipush dX12_type_5 (v := 60) (by decide) ?_
  refine xb_icmp_ne 14 dX12_type_7 (by decide) hf (fun c hf => ?_) (fun c hf => ?_)
  · refine xm_iconst dX12_type_14 (v := 0) (by decide) ?_
    exact xm_sub [0, 1] rfl (L_X12_type_j15 σ l0 l1 (0 : Int32) l0 hf hR)
  · refine xm_iconst dX12_type_10 (v := 1) (by decide) ?_
    refine xm_goto 15 dX12_type_11 (by decide) ?_
    exact xm_sub [0, 1] rfl (L_X12_type_j15 σ l0 l1 (1 : Int32) l0 hf hR)
-- RankwiseModel.drop()I
def f_X12_drop (σ : xM) (l0 : Nat) : Option (Int32 × xM) :=
  (sI σ l0 12 0 (0 : Int32)).bind (fun σ1 => (gI σ1 l0 12 19).bind (fun x2 => (sI σ1 l0 12 19 (0 : Int32)).bind (fun σ3 => some (x2, σ3))))
set_option maxHeartbeats 4000000 in
set_option maxRecDepth 20000 in
theorem m_X12_drop {G : xG} {π : Nat → Nat} {d C Z : Nat} {Q : xQ} {σ : xM} {l0 : Nat} {x : (Int32 × xM)} (hf : f_X12_drop σ l0 = some x) (hR : ∀ g, x = g → Q (.inl (some (.int g.1))) (g.2) π) : xMach G π J_X12_drop (d + 0) C Z 0 (lv_args 0 [.ref l0]) [] σ Q := by
  unfold f_X12_drop at hf
  refine xm_stL (L' := [(0, .ref l0)]) rfl ?_
  refine xm_aload_n dX12_drop_0 rfl ?_
  refine xm_iconst dX12_drop_1 (v := 0) (by decide) ?_
  refine xb_putI (a := l0) (c := 12) (k := 0) dX12_drop_2 xcl12 (by decide) xw_1837 rfl rfl hf (fun σ1 eσ1 hf => ?_)
  refine xm_aload_n dX12_drop_5 rfl ?_
  refine xb_getI (a := l0) (c := 12) (k := 19) dX12_drop_6 xcl12 (by decide) xw_1856 rfl hf (fun x2 ex2 hf => ?_)
  refine xm_istore_n dX12_drop_9 (by decide) (xm_stL (L' := [(1, .int x2), (0, .ref l0)]) rfl ?_)
  refine xm_aload_n dX12_drop_10 rfl ?_
  refine xm_iconst dX12_drop_11 (v := 0) (by decide) ?_
  refine xb_putI (a := l0) (c := 12) (k := 19) dX12_drop_12 xcl12 (by decide) xw_1856 rfl rfl hf (fun σ3 eσ3 hf => ?_)
  refine xm_iload_n dX12_drop_15 rfl ?_
  cases hf
  exact xm_iret dX12_drop_16 rfl (hR _ rfl)
-- RankwiseModel.fault()I
def f_X12_fault (σ : xM) (l0 : Nat) : Option (Int32 × xM) :=
  (sI σ l0 12 0 (0 : Int32)).bind (fun σ1 => (if xk σ1 l0 12 = true then (f_X12_faultOf σ1 l0).bind (fun p2 => some (p2.1, p2.2)) else none))
set_option maxHeartbeats 4000000 in
set_option maxRecDepth 20000 in
theorem m_X12_fault {G : xG} {π : Nat → Nat} {d C Z : Nat} {Q : xQ} {σ : xM} {l0 : Nat} {x : (Int32 × xM)} (hf : f_X12_fault σ l0 = some x) (hR : ∀ g, x = g → Q (.inl (some (.int g.1))) (g.2) π) : xMach G π J_X12_fault (d + 7) C Z 0 (lv_args 0 [.ref l0]) [] σ Q := by
  unfold f_X12_fault at hf
  refine xm_stL (L' := [(0, .ref l0)]) rfl ?_
  refine xm_aload_n dX12_fault_0 rfl ?_
  refine xm_iconst dX12_fault_1 (v := 0) (by decide) ?_
  refine xb_putI (a := l0) (c := 12) (k := 0) dX12_fault_2 xcl12 (by decide) xw_1837 rfl rfl hf (fun σ1 eσ1 hf => ?_)
  refine xm_aload_n dX12_fault_5 rfl ?_
  refine xb_if hf (fun hb hf => ?_) (fun _ q => nomatch q)
  obtain ⟨p2, ep2, hf⟩ := xbind hf
  refine xb_callV (As := []) (v0 := (some (.int p2.1))) (τ0 := p2.2) dX12_fault_6 (xc_X12_faultOf _ _) xcl12 xw_2124 xw_2126 xs_91 hb rfl (Nat.le_of_ble_eq_true rfl) rfl (Nat.le_of_ble_eq_true rfl) (fun Q1 hq => m_X12_faultOf (d := d + 0) ep2 (fun g hg => by subst hg; exact hq)) ?_
  cases hf
  exact xm_iret dX12_fault_9 rfl (hR _ rfl)
-- RankwiseModel.read()I
def f_X12_read_j23 (σ : xM) (l0 : Nat) (s0 : Int32) (s1 : Nat) : Option (Int32 × xM) :=
  (if xk σ s1 12 = true then (f_X12_refused σ s1 s0 (0 : Int32) (0 : Int32)).bind (fun p2 => (if p2.1 = (0 : Int32) then (if xk p2.2 l0 12 = true then (f_X12_lay p2.2 l0 (13440 : Int32)).bind (fun p3 => (sI p3.2 l0 12 19 (0 : Int32)).bind (fun σ4 => (if xk σ4 l0 12 = true then (f_X12_shelve σ4 l0 (13440 : Int32) p3.1).bind (fun p5 => some (p5.1, p5.2)) else none))) else none) else some ((0 : Int32), p2.2))) else none)
set_option maxHeartbeats 4000000 in
set_option maxRecDepth 20000 in
theorem L_X12_read_j23 {G : xG} {π : Nat → Nat} {d C Z : Nat} {Q : xQ} (σ : xM) (l0 : Nat) (s0 : Int32) (s1 : Nat) {x : (Int32 × xM)} (hf : f_X12_read_j23 σ l0 s0 s1 = some x) (hR : ∀ g, x = g → Q (.inl (some (.int g.1))) (g.2) π) : xMach G π J_X12_read (d + 7) C Z 23 [(0, .ref l0)] [.int s0, .ref s1] σ Q := by
  unfold f_X12_read_j23 at hf
  refine xm_iconst dX12_read_23 (v := 0) (by decide) ?_
  refine xm_iconst dX12_read_24 (v := 0) (by decide) ?_
  refine xb_if hf (fun hb hf => ?_) (fun _ q => nomatch q)
  obtain ⟨p2, ep2, hf⟩ := xbind hf
  refine xb_callV (As := [.int s0, .int (0 : Int32), .int (0 : Int32)]) (v0 := (some (.int p2.1))) (τ0 := p2.2) dX12_read_25 (xc_X12_refused _ _) xcl12 xw_2112 xw_2114 xs_90 hb rfl (Nat.le_of_ble_eq_true rfl) rfl (Nat.le_of_ble_eq_true rfl) (fun Q1 hq => m_X12_refused (d := d + 6) ep2 (fun g hg => by subst hg; exact hq)) ?_
  refine xb_if_eq 33 dX12_read_28 (by decide) hf (fun c hf => ?_) (fun c hf => ?_)
  · refine xm_aload_n dX12_read_33 rfl ?_
    refine xm_sipush dX12_read_34 (v := 13440) (by decide) ?_
    refine xb_if hf (fun hb hf => ?_) (fun _ q => nomatch q)
    obtain ⟨p3, ep3, hf⟩ := xbind hf
    refine xb_callV (As := [.int (13440 : Int32)]) (v0 := (some (.int p3.1))) (τ0 := p3.2) dX12_read_37 (xc_X12_lay _ _) xcl12 xw_2198 xw_2200 xs_107 hb rfl (Nat.le_of_ble_eq_true rfl) rfl (Nat.le_of_ble_eq_true rfl) (fun Q1 hq => m_X12_lay (d := d + 5) ep3 (fun g hg => by subst hg; exact hq)) ?_
    refine xm_istore_n dX12_read_40 (by decide) (xm_stL (L' := [(1, .int p3.1), (0, .ref l0)]) rfl ?_)
    refine xm_aload_n dX12_read_41 rfl ?_
    refine xm_iconst dX12_read_42 (v := 0) (by decide) ?_
    refine xb_putI (a := l0) (c := 12) (k := 19) dX12_read_43 xcl12 (by decide) xw_1856 rfl rfl hf (fun σ4 eσ4 hf => ?_)
    refine xm_aload_n dX12_read_46 rfl ?_
    refine xm_sipush dX12_read_47 (v := 13440) (by decide) ?_
    refine xm_iload_n dX12_read_50 rfl ?_
    refine xb_if hf (fun hb hf => ?_) (fun _ q => nomatch q)
    obtain ⟨p5, ep5, hf⟩ := xbind hf
    refine xb_callV (As := [.int (13440 : Int32), .int p3.1]) (v0 := (some (.int p5.1))) (τ0 := p5.2) dX12_read_51 (xc_X12_shelve _ _) xcl12 xw_2210 xw_2212 xs_110 hb rfl (Nat.le_of_ble_eq_true rfl) rfl (Nat.le_of_ble_eq_true rfl) (fun Q1 hq => m_X12_shelve (d := d + 5) ep5 (fun g hg => by subst hg; exact hq)) ?_
    cases hf
    exact xm_iret dX12_read_54 rfl (hR _ rfl)
  · refine xm_iconst dX12_read_31 (v := 0) (by decide) ?_
    cases hf
    exact xm_iret dX12_read_32 rfl (hR _ rfl)
def f_X12_read_j18 (σ : xM) (l0 : Nat) (s0 : Nat) : Option (Int32 × xM) :=
  f_X12_read_j23 σ l0 (1 : Int32) s0
set_option maxHeartbeats 4000000 in
set_option maxRecDepth 20000 in
theorem L_X12_read_j18 {G : xG} {π : Nat → Nat} {d C Z : Nat} {Q : xQ} (σ : xM) (l0 : Nat) (s0 : Nat) {x : (Int32 × xM)} (hf : f_X12_read_j18 σ l0 s0 = some x) (hR : ∀ g, x = g → Q (.inl (some (.int g.1))) (g.2) π) : xMach G π J_X12_read (d + 7) C Z 18 [(0, .ref l0)] [.ref s0] σ Q := by
  unfold f_X12_read_j18 at hf
  refine xm_iconst dX12_read_18 (v := 1) (by decide) ?_
  refine xm_goto 23 dX12_read_19 (by decide) ?_
  exact xm_sub [0] rfl (L_X12_read_j23 σ l0 (1 : Int32) s0 hf hR)
def f_X12_read (σ : xM) (l0 : Nat) : Option (Int32 × xM) :=
  (gI σ l0 12 10).bind (fun x1 => (if x1 = (30 : Int32) then f_X12_read_j18 σ l0 l0 else (if xk σ l0 12 = true then (f_X12_faultOf σ l0).bind (fun p6 => (if p6.1 = (-1 : Int32) then f_X12_read_j23 p6.2 l0 (0 : Int32) l0 else f_X12_read_j18 p6.2 l0 l0)) else none)))
set_option maxHeartbeats 4000000 in
set_option maxRecDepth 20000 in
theorem m_X12_read {G : xG} {π : Nat → Nat} {d C Z : Nat} {Q : xQ} {σ : xM} {l0 : Nat} {x : (Int32 × xM)} (hf : f_X12_read σ l0 = some x) (hR : ∀ g, x = g → Q (.inl (some (.int g.1))) (g.2) π) : xMach G π J_X12_read (d + 7) C Z 0 (lv_args 0 [.ref l0]) [] σ Q := by
  unfold f_X12_read at hf
  refine xm_stL (L' := [(0, .ref l0)]) rfl ?_
  refine xm_aload_n dX12_read_0 rfl ?_
  refine xm_aload_n dX12_read_1 rfl ?_
  refine xb_getI (a := l0) (c := 12) (k := 10) dX12_read_2 xcl12 (by decide) xw_1847 rfl hf (fun x1 ex1 hf => ?_)
  refine xm_bipush dX12_read_5 (v := 30) (by decide) ?_
  refine xb_icmp_eq 18 dX12_read_7 (by decide) hf (fun c hf => ?_) (fun c hf => ?_)
  · exact xm_sub [0] rfl (L_X12_read_j18 σ l0 l0 hf hR)
  · refine xm_aload_n dX12_read_10 rfl ?_
    refine xb_if hf (fun hb hf => ?_) (fun _ q => nomatch q)
    obtain ⟨p6, ep6, hf⟩ := xbind hf
    refine xb_callV (As := []) (v0 := (some (.int p6.1))) (τ0 := p6.2) dX12_read_11 (xc_X12_faultOf _ _) xcl12 xw_2124 xw_2126 xs_91 hb rfl (Nat.le_of_ble_eq_true rfl) rfl (Nat.le_of_ble_eq_true rfl) (fun Q1 hq => m_X12_faultOf (d := d + 0) ep6 (fun g hg => by subst hg; exact hq)) ?_
    refine xm_iconst dX12_read_14 (v := -1) (by decide) ?_
    refine xb_icmp_eq 22 dX12_read_15 (by decide) hf (fun c hf => ?_) (fun c hf => ?_)
    · refine xm_iconst dX12_read_22 (v := 0) (by decide) ?_
      exact xm_sub [0] rfl (L_X12_read_j23 p6.2 l0 (0 : Int32) l0 hf hR)
    · exact xm_sub [0] rfl (L_X12_read_j18 p6.2 l0 l0 hf hR)
-- RankwiseModel.trees()I
def f_X12_trees (σ : xM) (l0 : Nat) : Option (Int32 × xM) :=
  (sI σ l0 12 0 (0 : Int32)).bind (fun σ1 => (gI σ1 l0 12 10).bind (fun x2 => some (x2, σ1)))
set_option maxHeartbeats 4000000 in
set_option maxRecDepth 20000 in
theorem m_X12_trees {G : xG} {π : Nat → Nat} {d C Z : Nat} {Q : xQ} {σ : xM} {l0 : Nat} {x : (Int32 × xM)} (hf : f_X12_trees σ l0 = some x) (hR : ∀ g, x = g → Q (.inl (some (.int g.1))) (g.2) π) : xMach G π J_X12_trees (d + 0) C Z 0 (lv_args 0 [.ref l0]) [] σ Q := by
  unfold f_X12_trees at hf
  refine xm_stL (L' := [(0, .ref l0)]) rfl ?_
  refine xm_aload_n dX12_trees_0 rfl ?_
  refine xm_iconst dX12_trees_1 (v := 0) (by decide) ?_
  refine xb_putI (a := l0) (c := 12) (k := 0) dX12_trees_2 xcl12 (by decide) xw_1837 rfl rfl hf (fun σ1 eσ1 hf => ?_)
  refine xm_aload_n dX12_trees_5 rfl ?_
  refine xb_getI (a := l0) (c := 12) (k := 10) dX12_trees_6 xcl12 (by decide) xw_1847 rfl hf (fun x2 ex2 hf => ?_)
  cases hf
  exact xm_iret dX12_trees_9 rfl (hR _ rfl)
-- RankwiseModel.parentOf(II)I
def f_X12_parentOf_s4 (σ : xM) (s : (Nat × Int32 × Int32 × Int32)) : Option (Int32 ⊕ ((Int32 × Int32) ⊕ (Nat × Int32 × Int32 × Int32))) :=
  xlet s.1 (fun l0 => xlet s.2.1 (fun l1 => xlet s.2.2.1 (fun l2 => xlet s.2.2.2 (fun l3 => (if l3 < l1 then some (Sum.inr (Sum.inl (l1, l3))) else (gR σ l0 12 8).bind (fun x2 => (aI σ x2 14 l3).bind (fun x3 => (if l2 < (l3 + x3) then some (Sum.inr (Sum.inl (l1, l3))) else xlet (l3 + (-1 : Int32)) (fun v4 => some (Sum.inr (Sum.inr (l0, l1, l2, v4))))))))))))
set_option maxHeartbeats 4000000 in
set_option maxRecDepth 20000 in
theorem L_X12_parentOf_s4 {G : xG} {π : Nat → Nat} {d C Z : Nat} {Q : xQ} (σ : xM) (l0 : Nat) (l1 : Int32) (l2 : Int32) (l3 : Int32) {x : (Int32 ⊕ ((Int32 × Int32) ⊕ (Nat × Int32 × Int32 × Int32)))} (hf : f_X12_parentOf_s4 σ (l0, l1, l2, l3) = some x) (hR : ∀ g, x = Sum.inl (g) → Q (.inl (some (.int g))) (σ) π) (hE : ∀ e : (Int32 × Int32), x = Sum.inr (Sum.inl e) → xMach G π J_X12_parentOf (d + 0) C Z 27 [(1, .int e.1), (3, .int e.2)] [] σ Q) (hC : ∀ e : (Nat × Int32 × Int32 × Int32), x = Sum.inr (Sum.inr e) → xMach G π J_X12_parentOf (d + 0) C Z 4 [(0, .ref e.1), (1, .int e.2.1), (2, .int e.2.2.1), (3, .int e.2.2.2)] [] σ Q) : xMach G π J_X12_parentOf (d + 0) C Z 4 [(0, .ref l0), (1, .int l1), (2, .int l2), (3, .int l3)] [] σ Q := by
  have hf : (if l3 < l1 then some (Sum.inr (Sum.inl (l1, l3))) else (gR σ l0 12 8).bind (fun x2 => (aI σ x2 14 l3).bind (fun x3 => (if l2 < (l3 + x3) then some (Sum.inr (Sum.inl (l1, l3))) else xlet (l3 + (-1 : Int32)) (fun v4 => some (Sum.inr (Sum.inr (l0, l1, l2, v4)))))))) = some x := hf
  refine xm_iload_n dX12_parentOf_4 rfl ?_
  refine xm_iload_n dX12_parentOf_5 rfl ?_
  refine xb_icmp_lt 27 dX12_parentOf_6 (by decide) hf (fun c hf => ?_) (fun c hf => ?_)
  · cases hf
    exact xm_sub [1, 3] rfl (hE _ rfl)
  · refine xm_iload_n dX12_parentOf_9 rfl ?_
    refine xm_aload_n dX12_parentOf_10 rfl ?_
    refine xb_getR (a := l0) (c := 12) (k := 8) dX12_parentOf_11 xcl12 (by decide) xw_1845 rfl hf (fun x2 ex2 hf => ?_)
    refine xm_iload_n dX12_parentOf_14 rfl ?_
    refine xb_iald dX12_parentOf_15 hf (fun x3 ex3 hf => ?_)
    refine xm_iadd dX12_parentOf_16 ?_
    refine xm_iload_n dX12_parentOf_17 rfl ?_
    refine xb_icmp_gt 27 dX12_parentOf_18 (by decide) hf (fun c hf => ?_) (fun c hf => ?_)
    · cases hf
      exact xm_sub [1, 3] rfl (hE _ rfl)
    · refine xb_iinc dX12_parentOf_21 rfl (by decide) (by decide) hf (fun v4 ev4 hf => xm_stL (L' := [(3, .int v4), (0, .ref l0), (1, .int l1), (2, .int l2)]) rfl ?_)
      refine xm_goto 4 dX12_parentOf_24 (by decide) ?_
      cases hf
      exact xm_sub [1, 2, 3, 0] rfl (hC _ rfl)
theorem L_X12_parentOf_l4 {G : xG} {π : Nat → Nat} {d C Z : Nat} {Q : xQ} (σ : xM) {s0 : (Nat × Int32 × Int32 × Int32)} {x : (Int32 ⊕ (Int32 × Int32))} (h1 : xloop (f_X12_parentOf_s4 σ) xF s0 = some x) (hR : ∀ g, x = Sum.inl g → Q (.inl (some (.int g))) (σ) π) (hE : ∀ e : (Int32 × Int32), x = Sum.inr e → xMach G π J_X12_parentOf (d + 0) C Z 27 [(1, .int e.1), (3, .int e.2)] [] σ Q) : xMach G π J_X12_parentOf (d + 0) C Z 4 [(0, .ref s0.1), (1, .int s0.2.1), (2, .int s0.2.2.1), (3, .int s0.2.2.2)] [] σ Q := by
  refine xloop_run (M := (fun s : (Nat × Int32 × Int32 × Int32) => xMach G π J_X12_parentOf (d + 0) C Z 4 [(0, .ref s.1), (1, .int s.2.1), (2, .int s.2.2.1), (3, .int s.2.2.2)] [] σ Q)) (r := x) ?_ xF _ h1
  intro s y hs hx
  exact L_X12_parentOf_s4 σ s.1 s.2.1 s.2.2.1 s.2.2.2 (x := y) hs (fun g hg => by subst hg; exact hR g hx) (fun e he => by subst he; exact hE e hx) (fun e he => by subst he; exact hx)
def f_X12_parentOf_j39 (σ : xM) (s0 : Int32) : Option Int32 :=
  some s0
set_option maxHeartbeats 4000000 in
set_option maxRecDepth 20000 in
theorem L_X12_parentOf_j39 {G : xG} {π : Nat → Nat} {d C Z : Nat} {Q : xQ} (σ : xM) (s0 : Int32) {x : Int32} (hf : f_X12_parentOf_j39 σ s0 = some x) (hR : ∀ g, x = g → Q (.inl (some (.int g))) (σ) π) : xMach G π J_X12_parentOf (d + 0) C Z 39 [] [.int s0] σ Q := by
  unfold f_X12_parentOf_j39 at hf
  cases hf
  exact xm_iret dX12_parentOf_39 rfl (hR _ rfl)
def f_X12_parentOf_j27 (σ : xM) (l1 : Int32) (l3 : Int32) : Option Int32 :=
  (if l1 ≤ l3 then f_X12_parentOf_j39 σ (l3 - l1) else f_X12_parentOf_j39 σ (-1 : Int32))
set_option maxHeartbeats 4000000 in
set_option maxRecDepth 20000 in
theorem L_X12_parentOf_j27 {G : xG} {π : Nat → Nat} {d C Z : Nat} {Q : xQ} (σ : xM) (l1 : Int32) (l3 : Int32) {x : Int32} (hf : f_X12_parentOf_j27 σ l1 l3 = some x) (hR : ∀ g, x = g → Q (.inl (some (.int g))) (σ) π) : xMach G π J_X12_parentOf (d + 0) C Z 27 [(1, .int l1), (3, .int l3)] [] σ Q := by
  unfold f_X12_parentOf_j27 at hf
  refine xm_iload_n dX12_parentOf_27 rfl ?_
  refine xm_iload_n dX12_parentOf_28 rfl ?_
  refine xb_icmp_ge 36 dX12_parentOf_29 (by decide) hf (fun c hf => ?_) (fun c hf => ?_)
  · refine xm_iload_n dX12_parentOf_36 rfl ?_
    refine xm_iload_n dX12_parentOf_37 rfl ?_
    refine xm_isub dX12_parentOf_38 ?_
    exact xm_sub [] rfl (L_X12_parentOf_j39 σ (l3 - l1) hf hR)
  · refine xm_iconst dX12_parentOf_32 (v := -1) (by decide) ?_
    refine xm_goto 39 dX12_parentOf_33 (by decide) ?_
    exact xm_sub [] rfl (L_X12_parentOf_j39 σ (-1 : Int32) hf hR)
def f_X12_parentOf (σ : xM) (l0 : Nat) (l1 : Int32) (l2 : Int32) : Option Int32 :=
  xlet (l2 - (1 : Int32)) (fun v1 => (xloop (f_X12_parentOf_s4 σ ) xF (l0, l1, l2, v1)).bind (Sum.elim (fun g => some g) (fun e => f_X12_parentOf_j27 σ e.1 e.2)))
set_option maxHeartbeats 4000000 in
set_option maxRecDepth 20000 in
theorem m_X12_parentOf {G : xG} {π : Nat → Nat} {d C Z : Nat} {Q : xQ} {σ : xM} {l0 : Nat} {l1 : Int32} {l2 : Int32} {x : Int32} (hf : f_X12_parentOf σ l0 l1 l2 = some x) (hR : ∀ g, x = g → Q (.inl (some (.int g))) (σ) π) : xMach G π J_X12_parentOf (d + 0) C Z 0 (lv_args 0 [.ref l0, .int l1, .int l2]) [] σ Q := by
  unfold f_X12_parentOf at hf
  refine xm_stL (L' := [(0, .ref l0), (1, .int l1), (2, .int l2)]) rfl ?_
  refine xm_iload_n dX12_parentOf_0 rfl ?_
  refine xm_iconst dX12_parentOf_1 (v := 1) (by decide) ?_
  refine xm_isub dX12_parentOf_2 ?_
  refine xb_topi hf (fun v1 ev1 hf => ?_)
  refine xm_istore_n dX12_parentOf_3 (by decide) (xm_stL (L' := [(3, .int v1), (0, .ref l0), (1, .int l1), (2, .int l2)]) rfl ?_)
  obtain ⟨o, h1, hf⟩ := xbind hf
  refine xm_sub [1, 2, 3, 0] rfl (L_X12_parentOf_l4 σ h1 (fun g hg => ?_) (fun e he => ?_))
  · subst hg
    cases hf
    exact hR _ rfl
  · subst he
    rw [Sum.elim_inr] at hf
    have hf : f_X12_parentOf_j27 σ e.1 e.2 = some _ := hf
    exact xm_sub [0, 1] rfl (L_X12_parentOf_j27 σ e.1 e.2 hf hR)
-- RankwiseModel.node(III)I
def f_X12_node__j29 (σ : xM) (l0 : Nat) (l1 : Int32) (l2 : Int32) (l3 : Int32) (s0 : Int32) (s1 : Int32) (s2 : Nat) : Option (Int32 × xM) :=
  (if xk σ s2 12 = true then (f_X12_refused σ s2 s1 s0 (0 : Int32)).bind (fun p3 => (if p3.1 = (0 : Int32) then (f_X12_shelf p3.2 l1).bind (fun p4 => xlet (p4 + l2) (fun v5 => (if l3 = (0 : Int32) then (gR p3.2 l0 12 4).bind (fun x8 => (aI p3.2 x8 14 v5).bind (fun x9 => some (x9, p3.2))) else (if l3 = (1 : Int32) then (gR p3.2 l0 12 5).bind (fun x10 => (aI p3.2 x10 14 v5).bind (fun x11 => some (x11, p3.2))) else (if l3 = (2 : Int32) then (gR p3.2 l0 12 6).bind (fun x12 => (aI p3.2 x12 14 v5).bind (fun x13 => some (x13, p3.2))) else (if l3 = (3 : Int32) then (gR p3.2 l0 12 7).bind (fun x14 => (aI p3.2 x14 14 v5).bind (fun x15 => some (x15, p3.2))) else (if l3 = (4 : Int32) then (f_X12_shelf p3.2 l1).bind (fun p16 => (if xk p3.2 l0 12 = true then (f_X12_parentOf p3.2 l0 p16 v5).bind (fun p17 => some (p17, p3.2)) else none)) else (gR p3.2 l0 12 8).bind (fun x6 => (aI p3.2 x6 14 v5).bind (fun x7 => some (x7, p3.2)))))))))) else some ((0 : Int32), p3.2))) else none)
set_option maxHeartbeats 4000000 in
set_option maxRecDepth 20000 in
theorem L_X12_node__j29 {G : xG} {π : Nat → Nat} {d C Z : Nat} {Q : xQ} (σ : xM) (l0 : Nat) (l1 : Int32) (l2 : Int32) (l3 : Int32) (s0 : Int32) (s1 : Int32) (s2 : Nat) {x : (Int32 × xM)} (hf : f_X12_node__j29 σ l0 l1 l2 l3 s0 s1 s2 = some x) (hR : ∀ g, x = g → Q (.inl (some (.int g.1))) (g.2) π) : xMach G π J_X12_node_ (d + 3) C Z 29 [(0, .ref l0), (1, .int l1), (2, .int l2), (3, .int l3)] [.int s0, .int s1, .ref s2] σ Q := by
  unfold f_X12_node__j29 at hf
  refine xm_iconst dX12_node__29 (v := 0) (by decide) ?_
  refine xb_if hf (fun hb hf => ?_) (fun _ q => nomatch q)
  obtain ⟨p3, ep3, hf⟩ := xbind hf
  refine xb_callV (As := [.int s1, .int s0, .int (0 : Int32)]) (v0 := (some (.int p3.1))) (τ0 := p3.2) dX12_node__30 (xc_X12_refused _ _) xcl12 xw_2112 xw_2114 xs_90 hb rfl (Nat.le_of_ble_eq_true rfl) rfl (Nat.le_of_ble_eq_true rfl) (fun Q1 hq => m_X12_refused (d := d + 2) ep3 (fun g hg => by subst hg; exact hq)) ?_
  refine xb_if_eq 38 dX12_node__33 (by decide) hf (fun c hf => ?_) (fun c hf => ?_)
  · refine xm_iload_n dX12_node__38 rfl ?_
    obtain ⟨p4, ep4, hf⟩ := xbind hf
    refine xb_callS (As := [.int l1]) (v0 := (some (.int p4))) (τ0 := p3.2) dX12_node__39 (xc_X12_shelf _ _) xw_2214 xw_2215 rfl (Nat.le_of_ble_eq_true rfl) rfl (Nat.le_of_ble_eq_true rfl) (fun Q1 hq => m_X12_shelf (d := d + 2) ep4 (fun g hg => by subst hg; exact hq)) ?_
    refine xm_iload_n dX12_node__42 rfl ?_
    refine xm_iadd dX12_node__43 ?_
    refine xb_topi hf (fun v5 ev5 hf => ?_)
    refine xm_istore dX12_node__44 (by decide) (xm_stL (L' := [(4, .int v5), (0, .ref l0), (1, .int l1), (2, .int l2), (3, .int l3)]) rfl ?_)
    refine xm_iload_n dX12_node__46 rfl ?_
    refine xb_if hf (fun c hf => ?_) (fun n0 hf => ?_)
    · refine xm_tableIn 80 dX12_node__47 (by rw [c]; decide) (by rw [c]; decide) (by rw [c]; rfl) (by decide) ?_
      refine xm_aload_n dX12_node__80 rfl ?_
      refine xb_getR (a := l0) (c := 12) (k := 4) dX12_node__81 xcl12 (by decide) xw_1841 rfl hf (fun x8 ex8 hf => ?_)
      refine xm_iload dX12_node__84 rfl ?_
      refine xb_iald dX12_node__86 hf (fun x9 ex9 hf => ?_)
      cases hf
      exact xm_iret dX12_node__87 rfl (hR _ rfl)
    refine xb_if hf (fun c hf => ?_) (fun n1 hf => ?_)
    · refine xm_tableIn 88 dX12_node__47 (by rw [c]; decide) (by rw [c]; decide) (by rw [c]; rfl) (by decide) ?_
      refine xm_aload_n dX12_node__88 rfl ?_
      refine xb_getR (a := l0) (c := 12) (k := 5) dX12_node__89 xcl12 (by decide) xw_1842 rfl hf (fun x10 ex10 hf => ?_)
      refine xm_iload dX12_node__92 rfl ?_
      refine xb_iald dX12_node__94 hf (fun x11 ex11 hf => ?_)
      cases hf
      exact xm_iret dX12_node__95 rfl (hR _ rfl)
    refine xb_if hf (fun c hf => ?_) (fun n2 hf => ?_)
    · refine xm_tableIn 96 dX12_node__47 (by rw [c]; decide) (by rw [c]; decide) (by rw [c]; rfl) (by decide) ?_
      refine xm_aload_n dX12_node__96 rfl ?_
      refine xb_getR (a := l0) (c := 12) (k := 6) dX12_node__97 xcl12 (by decide) xw_1843 rfl hf (fun x12 ex12 hf => ?_)
      refine xm_iload dX12_node__100 rfl ?_
      refine xb_iald dX12_node__102 hf (fun x13 ex13 hf => ?_)
      cases hf
      exact xm_iret dX12_node__103 rfl (hR _ rfl)
    refine xb_if hf (fun c hf => ?_) (fun n3 hf => ?_)
    · refine xm_tableIn 104 dX12_node__47 (by rw [c]; decide) (by rw [c]; decide) (by rw [c]; rfl) (by decide) ?_
      refine xm_aload_n dX12_node__104 rfl ?_
      refine xb_getR (a := l0) (c := 12) (k := 7) dX12_node__105 xcl12 (by decide) xw_1844 rfl hf (fun x14 ex14 hf => ?_)
      refine xm_iload dX12_node__108 rfl ?_
      refine xb_iald dX12_node__110 hf (fun x15 ex15 hf => ?_)
      cases hf
      exact xm_iret dX12_node__111 rfl (hR _ rfl)
    refine xb_if hf (fun c hf => ?_) (fun n4 hf => ?_)
    · refine xm_tableIn 112 dX12_node__47 (by rw [c]; decide) (by rw [c]; decide) (by rw [c]; rfl) (by decide) ?_
      refine xm_aload_n dX12_node__112 rfl ?_
      refine xm_iload_n dX12_node__113 rfl ?_
      obtain ⟨p16, ep16, hf⟩ := xbind hf
      refine xb_callS (As := [.int l1]) (v0 := (some (.int p16))) (τ0 := p3.2) dX12_node__114 (xc_X12_shelf _ _) xw_2214 xw_2215 rfl (Nat.le_of_ble_eq_true rfl) rfl (Nat.le_of_ble_eq_true rfl) (fun Q1 hq => m_X12_shelf (d := d + 2) ep16 (fun g hg => by subst hg; exact hq)) ?_
      refine xm_iload dX12_node__117 rfl ?_
      refine xb_if hf (fun hb hf => ?_) (fun _ q => nomatch q)
      obtain ⟨p17, ep17, hf⟩ := xbind hf
      refine xb_callV (As := [.int p16, .int v5]) (v0 := (some (.int p17))) (τ0 := p3.2) dX12_node__119 (xc_X12_parentOf _ _) xcl12 xw_2237 xw_2239 xs_114 hb rfl (Nat.le_of_ble_eq_true rfl) rfl (Nat.le_of_ble_eq_true rfl) (fun Q1 hq => m_X12_parentOf (d := d + 2) ep17 (fun g hg => by subst hg; exact hq)) ?_
      cases hf
      exact xm_iret dX12_node__122 rfl (hR _ rfl)
    refine xm_tableOut 123 dX12_node__47 (by have q0 := lv_neT (a := 0) n0 (by decide); have q1 := lv_neT (a := 1) n1 (by decide); have q2 := lv_neT (a := 2) n2 (by decide); have q3 := lv_neT (a := 3) n3 (by decide); have q4 := lv_neT (a := 4) n4 (by decide); omega) (by decide) ?_
    refine xm_aload_n dX12_node__123 rfl ?_
    refine xb_getR (a := l0) (c := 12) (k := 8) dX12_node__124 xcl12 (by decide) xw_1845 rfl hf (fun x6 ex6 hf => ?_)
    refine xm_iload dX12_node__127 rfl ?_
    refine xb_iald dX12_node__129 hf (fun x7 ex7 hf => ?_)
    cases hf
    exact xm_iret dX12_node__130 rfl (hR _ rfl)
  · refine xm_iconst dX12_node__36 (v := 0) (by decide) ?_
    cases hf
    exact xm_iret dX12_node__37 rfl (hR _ rfl)
def f_X12_node__j15 (σ : xM) (l0 : Nat) (l1 : Int32) (l2 : Int32) (l3 : Int32) (s0 : Int32) (s1 : Nat) : Option (Int32 × xM) :=
  (f_X12_in σ l3 (0 : Int32) (5 : Int32)).bind (fun p2 => (if p2 = (0 : Int32) then f_X12_node__j29 σ l0 l1 l2 l3 (1 : Int32) s0 s1 else f_X12_node__j29 σ l0 l1 l2 l3 (0 : Int32) s0 s1))
set_option maxHeartbeats 4000000 in
set_option maxRecDepth 20000 in
theorem L_X12_node__j15 {G : xG} {π : Nat → Nat} {d C Z : Nat} {Q : xQ} (σ : xM) (l0 : Nat) (l1 : Int32) (l2 : Int32) (l3 : Int32) (s0 : Int32) (s1 : Nat) {x : (Int32 × xM)} (hf : f_X12_node__j15 σ l0 l1 l2 l3 s0 s1 = some x) (hR : ∀ g, x = g → Q (.inl (some (.int g.1))) (g.2) π) : xMach G π J_X12_node_ (d + 3) C Z 15 [(0, .ref l0), (1, .int l1), (2, .int l2), (3, .int l3)] [.int s0, .ref s1] σ Q := by
  unfold f_X12_node__j15 at hf
  refine xm_iload_n dX12_node__15 rfl ?_
  refine xm_iconst dX12_node__16 (v := 0) (by decide) ?_
  refine xm_iconst dX12_node__17 (v := 5) (by decide) ?_
  obtain ⟨p2, ep2, hf⟩ := xbind hf
  refine xb_callS (As := [.int l3, .int (0 : Int32), .int (5 : Int32)]) (v0 := (some (.int p2))) (τ0 := σ) dX12_node__18 (xc_X12_in _ _) xw_2132 xw_2133 rfl (Nat.le_of_ble_eq_true rfl) rfl (Nat.le_of_ble_eq_true rfl) (fun Q1 hq => m_X12_in (d := d + 2) ep2 (fun g hg => by subst hg; exact hq)) ?_
  refine xb_if_ne 28 dX12_node__21 (by decide) hf (fun c hf => ?_) (fun c hf => ?_)
  · refine xm_iconst dX12_node__28 (v := 0) (by decide) ?_
    exact xm_sub [0, 1, 2, 3] rfl (L_X12_node__j29 σ l0 l1 l2 l3 (0 : Int32) s0 s1 hf hR)
  · refine xm_iconst dX12_node__24 (v := 1) (by decide) ?_
    refine xm_goto 29 dX12_node__25 (by decide) ?_
    exact xm_sub [0, 1, 2, 3] rfl (L_X12_node__j29 σ l0 l1 l2 l3 (1 : Int32) s0 s1 hf hR)
def f_X12_node_ (σ : xM) (l0 : Nat) (l1 : Int32) (l2 : Int32) (l3 : Int32) : Option (Int32 × xM) :=
  (if xk σ l0 12 = true then (f_X12_isNode σ l0 l1 l2).bind (fun p1 => (if p1 = (0 : Int32) then f_X12_node__j15 σ l0 l1 l2 l3 (1 : Int32) l0 else f_X12_node__j15 σ l0 l1 l2 l3 (0 : Int32) l0)) else none)
set_option maxHeartbeats 4000000 in
set_option maxRecDepth 20000 in
theorem m_X12_node_ {G : xG} {π : Nat → Nat} {d C Z : Nat} {Q : xQ} {σ : xM} {l0 : Nat} {l1 : Int32} {l2 : Int32} {l3 : Int32} {x : (Int32 × xM)} (hf : f_X12_node_ σ l0 l1 l2 l3 = some x) (hR : ∀ g, x = g → Q (.inl (some (.int g.1))) (g.2) π) : xMach G π J_X12_node_ (d + 3) C Z 0 (lv_args 0 [.ref l0, .int l1, .int l2, .int l3]) [] σ Q := by
  unfold f_X12_node_ at hf
  refine xm_stL (L' := [(0, .ref l0), (1, .int l1), (2, .int l2), (3, .int l3)]) rfl ?_
  refine xm_aload_n dX12_node__0 rfl ?_
  refine xm_aload_n dX12_node__1 rfl ?_
  refine xm_iload_n dX12_node__2 rfl ?_
  refine xm_iload_n dX12_node__3 rfl ?_
  refine xb_if hf (fun hb hf => ?_) (fun _ q => nomatch q)
  obtain ⟨p1, ep1, hf⟩ := xbind hf
  refine xb_callV (As := [.int l1, .int l2]) (v0 := (some (.int p1))) (τ0 := σ) dX12_node__4 (xc_X12_isNode _ _) xcl12 xw_2229 xw_2231 xs_112 hb rfl (Nat.le_of_ble_eq_true rfl) rfl (Nat.le_of_ble_eq_true rfl) (fun Q1 hq => m_X12_isNode (d := d + 0) ep1 (fun g hg => by subst hg; exact hq)) ?_
  refine xb_if_ne 14 dX12_node__7 (by decide) hf (fun c hf => ?_) (fun c hf => ?_)
  · refine xm_iconst dX12_node__14 (v := 0) (by decide) ?_
    exact xm_sub [0, 1, 2, 3] rfl (L_X12_node__j15 σ l0 l1 l2 l3 (0 : Int32) l0 hf hR)
  · refine xm_iconst dX12_node__10 (v := 1) (by decide) ?_
    refine xm_goto 15 dX12_node__11 (by decide) ?_
    exact xm_sub [0, 1, 2, 3] rfl (L_X12_node__j15 σ l0 l1 l2 l3 (1 : Int32) l0 hf hR)
-- RankwiseModel.isSame(II)Z
def f_X12_isSame_j50 (σ : xM) (s0 : Int32) : Option (Int32 × xM) :=
  (xz s0).bind (fun b3 => some (b3, σ))
set_option maxHeartbeats 4000000 in
set_option maxRecDepth 20000 in
theorem L_X12_isSame_j50 {G : xG} {π : Nat → Nat} {d C Z : Nat} {Q : xQ} (σ : xM) (s0 : Int32) {x : (Int32 × xM)} (hf : f_X12_isSame_j50 σ s0 = some x) (hR : ∀ g, x = g → Q (.inl (some (.int g.1))) (g.2) π) : xMach G π J_X12_isSame (d + 2) C Z 50 [] [.int s0] σ Q := by
  unfold f_X12_isSame_j50 at hf
  obtain ⟨b3, eb3, hf⟩ := xbind hf
  obtain ⟨rfl, hz⟩ := xz_of eb3
  cases hf
  exact xm_zret dX12_isSame_50 rfl hz (hR _ rfl)
def f_X12_isSame_j49 (σ : xM)  : Option (Int32 × xM) :=
  f_X12_isSame_j50 σ (0 : Int32)
set_option maxHeartbeats 4000000 in
set_option maxRecDepth 20000 in
theorem L_X12_isSame_j49 {G : xG} {π : Nat → Nat} {d C Z : Nat} {Q : xQ} (σ : xM)  {x : (Int32 × xM)} (hf : f_X12_isSame_j49 σ = some x) (hR : ∀ g, x = g → Q (.inl (some (.int g.1))) (g.2) π) : xMach G π J_X12_isSame (d + 2) C Z 49 [] [] σ Q := by
  unfold f_X12_isSame_j49 at hf
  refine xm_iconst dX12_isSame_49 (v := 0) (by decide) ?_
  exact xm_sub [] rfl (L_X12_isSame_j50 σ (0 : Int32) hf hR)
def f_X12_isSame_j22 (σ : xM) (l0 : Nat) (l1 : Int32) (l2 : Int32) (s0 : Int32) (s1 : Nat) : Option (Int32 × xM) :=
  (if xk σ s1 12 = true then (f_X12_refused σ s1 s0 (0 : Int32) (0 : Int32)).bind (fun p2 => (if p2.1 = (0 : Int32) then (f_X12_shelf p2.2 l1).bind (fun p4 => (f_X12_shelf p2.2 l2).bind (fun p5 => (if xk p2.2 l0 12 = true then (f_X12_areSame p2.2 l0 p4 p5).bind (fun p6 => (if p6 = (0 : Int32) then f_X12_isSame_j49 p2.2 else f_X12_isSame_j50 p2.2 (1 : Int32))) else none))) else f_X12_isSame_j49 p2.2)) else none)
set_option maxHeartbeats 4000000 in
set_option maxRecDepth 20000 in
theorem L_X12_isSame_j22 {G : xG} {π : Nat → Nat} {d C Z : Nat} {Q : xQ} (σ : xM) (l0 : Nat) (l1 : Int32) (l2 : Int32) (s0 : Int32) (s1 : Nat) {x : (Int32 × xM)} (hf : f_X12_isSame_j22 σ l0 l1 l2 s0 s1 = some x) (hR : ∀ g, x = g → Q (.inl (some (.int g.1))) (g.2) π) : xMach G π J_X12_isSame (d + 2) C Z 22 [(0, .ref l0), (1, .int l1), (2, .int l2)] [.int s0, .ref s1] σ Q := by
  unfold f_X12_isSame_j22 at hf
  refine xm_iconst dX12_isSame_22 (v := 0) (by decide) ?_
  refine xm_iconst dX12_isSame_23 (v := 0) (by decide) ?_
  refine xb_if hf (fun hb hf => ?_) (fun _ q => nomatch q)
  obtain ⟨p2, ep2, hf⟩ := xbind hf
  refine xb_callV (As := [.int s0, .int (0 : Int32), .int (0 : Int32)]) (v0 := (some (.int p2.1))) (τ0 := p2.2) dX12_isSame_24 (xc_X12_refused _ _) xcl12 xw_2112 xw_2114 xs_90 hb rfl (Nat.le_of_ble_eq_true rfl) rfl (Nat.le_of_ble_eq_true rfl) (fun Q1 hq => m_X12_refused (d := d + 1) ep2 (fun g hg => by subst hg; exact hq)) ?_
  refine xb_if_ne 49 dX12_isSame_27 (by decide) hf (fun c hf => ?_) (fun c hf => ?_)
  · exact xm_sub [] rfl (L_X12_isSame_j49 p2.2 hf hR)
  · refine xm_aload_n dX12_isSame_30 rfl ?_
    refine xm_iload_n dX12_isSame_31 rfl ?_
    obtain ⟨p4, ep4, hf⟩ := xbind hf
    refine xb_callS (As := [.int l1]) (v0 := (some (.int p4))) (τ0 := p2.2) dX12_isSame_32 (xc_X12_shelf _ _) xw_2214 xw_2215 rfl (Nat.le_of_ble_eq_true rfl) rfl (Nat.le_of_ble_eq_true rfl) (fun Q1 hq => m_X12_shelf (d := d + 1) ep4 (fun g hg => by subst hg; exact hq)) ?_
    refine xm_iload_n dX12_isSame_35 rfl ?_
    obtain ⟨p5, ep5, hf⟩ := xbind hf
    refine xb_callS (As := [.int l2]) (v0 := (some (.int p5))) (τ0 := p2.2) dX12_isSame_36 (xc_X12_shelf _ _) xw_2214 xw_2215 rfl (Nat.le_of_ble_eq_true rfl) rfl (Nat.le_of_ble_eq_true rfl) (fun Q1 hq => m_X12_shelf (d := d + 1) ep5 (fun g hg => by subst hg; exact hq)) ?_
    refine xb_if hf (fun hb hf => ?_) (fun _ q => nomatch q)
    obtain ⟨p6, ep6, hf⟩ := xbind hf
    refine xb_callV (As := [.int p4, .int p5]) (v0 := (some (.int p6))) (τ0 := p2.2) dX12_isSame_39 (xc_X12_areSame _ _) xcl12 xw_2245 xw_2247 xs_115 hb rfl (Nat.le_of_ble_eq_true rfl) rfl (Nat.le_of_ble_eq_true rfl) (fun Q1 hq => m_X12_areSame (d := d + 1) ep6 (fun g hg => by subst hg; exact hq)) ?_
    refine xb_if_eq 49 dX12_isSame_42 (by decide) hf (fun c hf => ?_) (fun c hf => ?_)
    · exact xm_sub [] rfl (L_X12_isSame_j49 p2.2 hf hR)
    · refine xm_iconst dX12_isSame_45 (v := 1) (by decide) ?_
      refine xm_goto 50 dX12_isSame_46 (by decide) ?_
      exact xm_sub [] rfl (L_X12_isSame_j50 p2.2 (1 : Int32) hf hR)
def f_X12_isSame_j17 (σ : xM) (l0 : Nat) (l1 : Int32) (l2 : Int32) (s0 : Nat) : Option (Int32 × xM) :=
  f_X12_isSame_j22 σ l0 l1 l2 (1 : Int32) s0
set_option maxHeartbeats 4000000 in
set_option maxRecDepth 20000 in
theorem L_X12_isSame_j17 {G : xG} {π : Nat → Nat} {d C Z : Nat} {Q : xQ} (σ : xM) (l0 : Nat) (l1 : Int32) (l2 : Int32) (s0 : Nat) {x : (Int32 × xM)} (hf : f_X12_isSame_j17 σ l0 l1 l2 s0 = some x) (hR : ∀ g, x = g → Q (.inl (some (.int g.1))) (g.2) π) : xMach G π J_X12_isSame (d + 2) C Z 17 [(0, .ref l0), (1, .int l1), (2, .int l2)] [.ref s0] σ Q := by
  unfold f_X12_isSame_j17 at hf
  refine xm_iconst dX12_isSame_17 (v := 1) (by decide) ?_
  refine xm_goto 22 dX12_isSame_18 (by decide) ?_
  exact xm_sub [0, 1, 2] rfl (L_X12_isSame_j22 σ l0 l1 l2 (1 : Int32) s0 hf hR)
def f_X12_isSame (σ : xM) (l0 : Nat) (l1 : Int32) (l2 : Int32) : Option (Int32 × xM) :=
  (if xk σ l0 12 = true then (f_X12_isTree σ l0 l1).bind (fun p1 => (if p1 = (0 : Int32) then f_X12_isSame_j17 σ l0 l1 l2 l0 else (if xk σ l0 12 = true then (f_X12_isTree σ l0 l2).bind (fun p7 => (if p7 = (0 : Int32) then f_X12_isSame_j17 σ l0 l1 l2 l0 else f_X12_isSame_j22 σ l0 l1 l2 (0 : Int32) l0)) else none))) else none)
set_option maxHeartbeats 4000000 in
set_option maxRecDepth 20000 in
theorem m_X12_isSame {G : xG} {π : Nat → Nat} {d C Z : Nat} {Q : xQ} {σ : xM} {l0 : Nat} {l1 : Int32} {l2 : Int32} {x : (Int32 × xM)} (hf : f_X12_isSame σ l0 l1 l2 = some x) (hR : ∀ g, x = g → Q (.inl (some (.int g.1))) (g.2) π) : xMach G π J_X12_isSame (d + 2) C Z 0 (lv_args 0 [.ref l0, .int l1, .int l2]) [] σ Q := by
  unfold f_X12_isSame at hf
  refine xm_stL (L' := [(0, .ref l0), (1, .int l1), (2, .int l2)]) rfl ?_
  refine xm_aload_n dX12_isSame_0 rfl ?_
  refine xm_aload_n dX12_isSame_1 rfl ?_
  refine xm_iload_n dX12_isSame_2 rfl ?_
  refine xb_if hf (fun hb hf => ?_) (fun _ q => nomatch q)
  obtain ⟨p1, ep1, hf⟩ := xbind hf
  refine xb_callV (As := [.int l1]) (v0 := (some (.int p1))) (τ0 := σ) dX12_isSame_3 (xc_X12_isTree _ _) xcl12 xw_2233 xw_2235 xs_113 hb rfl (Nat.le_of_ble_eq_true rfl) rfl (Nat.le_of_ble_eq_true rfl) (fun Q1 hq => m_X12_isTree (d := d + 0) ep1 (fun g hg => by subst hg; exact hq)) ?_
  refine xb_if_eq 17 dX12_isSame_6 (by decide) hf (fun c hf => ?_) (fun c hf => ?_)
  · exact xm_sub [0, 1, 2] rfl (L_X12_isSame_j17 σ l0 l1 l2 l0 hf hR)
  · refine xm_aload_n dX12_isSame_9 rfl ?_
    refine xm_iload_n dX12_isSame_10 rfl ?_
    refine xb_if hf (fun hb hf => ?_) (fun _ q => nomatch q)
    obtain ⟨p7, ep7, hf⟩ := xbind hf
    refine xb_callV (As := [.int l2]) (v0 := (some (.int p7))) (τ0 := σ) dX12_isSame_11 (xc_X12_isTree _ _) xcl12 xw_2233 xw_2235 xs_113 hb rfl (Nat.le_of_ble_eq_true rfl) rfl (Nat.le_of_ble_eq_true rfl) (fun Q1 hq => m_X12_isTree (d := d + 0) ep7 (fun g hg => by subst hg; exact hq)) ?_
    refine xb_if_ne 21 dX12_isSame_14 (by decide) hf (fun c hf => ?_) (fun c hf => ?_)
    · refine xm_iconst dX12_isSame_21 (v := 0) (by decide) ?_
      exact xm_sub [0, 1, 2] rfl (L_X12_isSame_j22 σ l0 l1 l2 (0 : Int32) l0 hf hR)
    · exact xm_sub [0, 1, 2] rfl (L_X12_isSame_j17 σ l0 l1 l2 l0 hf hR)
-- RankwiseModel.part(II)I
def f_X12_part_j29 (σ : xM) (l0 : Nat) (l1 : Int32) (l2 : Int32) (s0 : Int32) (s1 : Int32) (s2 : Nat) : Option (Int32 × xM) :=
  (if xk σ s2 12 = true then (f_X12_refused σ s2 s1 s0 (0 : Int32)).bind (fun p3 => (if p3.1 = (0 : Int32) then (f_X12_shelf p3.2 l1).bind (fun p4 => (gR p3.2 l0 12 8).bind (fun x5 => (f_X12_shelf p3.2 l1).bind (fun p6 => (aI p3.2 x5 14 (p6 + l2)).bind (fun x7 => (if xk p3.2 l0 12 = true then (f_X12_shelve p3.2 l0 (p4 + l2) x7).bind (fun p8 => some (p8.1, p8.2)) else none))))) else some ((0 : Int32), p3.2))) else none)
set_option maxHeartbeats 4000000 in
set_option maxRecDepth 20000 in
theorem L_X12_part_j29 {G : xG} {π : Nat → Nat} {d C Z : Nat} {Q : xQ} (σ : xM) (l0 : Nat) (l1 : Int32) (l2 : Int32) (s0 : Int32) (s1 : Int32) (s2 : Nat) {x : (Int32 × xM)} (hf : f_X12_part_j29 σ l0 l1 l2 s0 s1 s2 = some x) (hR : ∀ g, x = g → Q (.inl (some (.int g.1))) (g.2) π) : xMach G π J_X12_part (d + 3) C Z 29 [(0, .ref l0), (1, .int l1), (2, .int l2)] [.int s0, .int s1, .ref s2] σ Q := by
  unfold f_X12_part_j29 at hf
  refine xm_iconst dX12_part_29 (v := 0) (by decide) ?_
  refine xb_if hf (fun hb hf => ?_) (fun _ q => nomatch q)
  obtain ⟨p3, ep3, hf⟩ := xbind hf
  refine xb_callV (As := [.int s1, .int s0, .int (0 : Int32)]) (v0 := (some (.int p3.1))) (τ0 := p3.2) dX12_part_30 (xc_X12_refused _ _) xcl12 xw_2112 xw_2114 xs_90 hb rfl (Nat.le_of_ble_eq_true rfl) rfl (Nat.le_of_ble_eq_true rfl) (fun Q1 hq => m_X12_refused (d := d + 2) ep3 (fun g hg => by subst hg; exact hq)) ?_
  refine xb_if_eq 38 dX12_part_33 (by decide) hf (fun c hf => ?_) (fun c hf => ?_)
  · refine xm_aload_n dX12_part_38 rfl ?_
    refine xm_iload_n dX12_part_39 rfl ?_
    obtain ⟨p4, ep4, hf⟩ := xbind hf
    refine xb_callS (As := [.int l1]) (v0 := (some (.int p4))) (τ0 := p3.2) dX12_part_40 (xc_X12_shelf _ _) xw_2214 xw_2215 rfl (Nat.le_of_ble_eq_true rfl) rfl (Nat.le_of_ble_eq_true rfl) (fun Q1 hq => m_X12_shelf (d := d + 2) ep4 (fun g hg => by subst hg; exact hq)) ?_
    refine xm_iload_n dX12_part_43 rfl ?_
    refine xm_iadd dX12_part_44 ?_
    refine xm_aload_n dX12_part_45 rfl ?_
    refine xb_getR (a := l0) (c := 12) (k := 8) dX12_part_46 xcl12 (by decide) xw_1845 rfl hf (fun x5 ex5 hf => ?_)
    refine xm_iload_n dX12_part_49 rfl ?_
    obtain ⟨p6, ep6, hf⟩ := xbind hf
    refine xb_callS (As := [.int l1]) (v0 := (some (.int p6))) (τ0 := p3.2) dX12_part_50 (xc_X12_shelf _ _) xw_2214 xw_2215 rfl (Nat.le_of_ble_eq_true rfl) rfl (Nat.le_of_ble_eq_true rfl) (fun Q1 hq => m_X12_shelf (d := d + 2) ep6 (fun g hg => by subst hg; exact hq)) ?_
    refine xm_iload_n dX12_part_53 rfl ?_
    refine xm_iadd dX12_part_54 ?_
    refine xb_iald dX12_part_55 hf (fun x7 ex7 hf => ?_)
    refine xb_if hf (fun hb hf => ?_) (fun _ q => nomatch q)
    obtain ⟨p8, ep8, hf⟩ := xbind hf
    refine xb_callV (As := [.int (p4 + l2), .int x7]) (v0 := (some (.int p8.1))) (τ0 := p8.2) dX12_part_56 (xc_X12_shelve _ _) xcl12 xw_2210 xw_2212 xs_110 hb rfl (Nat.le_of_ble_eq_true rfl) rfl (Nat.le_of_ble_eq_true rfl) (fun Q1 hq => m_X12_shelve (d := d + 1) ep8 (fun g hg => by subst hg; exact hq)) ?_
    cases hf
    exact xm_iret dX12_part_59 rfl (hR _ rfl)
  · refine xm_iconst dX12_part_36 (v := 0) (by decide) ?_
    cases hf
    exact xm_iret dX12_part_37 rfl (hR _ rfl)
def f_X12_part_j15 (σ : xM) (l0 : Nat) (l1 : Int32) (l2 : Int32) (s0 : Int32) (s1 : Nat) : Option (Int32 × xM) :=
  (gI σ l0 12 10).bind (fun x2 => (if x2 = (30 : Int32) then f_X12_part_j29 σ l0 l1 l2 (1 : Int32) s0 s1 else f_X12_part_j29 σ l0 l1 l2 (0 : Int32) s0 s1))
set_option maxHeartbeats 4000000 in
set_option maxRecDepth 20000 in
theorem L_X12_part_j15 {G : xG} {π : Nat → Nat} {d C Z : Nat} {Q : xQ} (σ : xM) (l0 : Nat) (l1 : Int32) (l2 : Int32) (s0 : Int32) (s1 : Nat) {x : (Int32 × xM)} (hf : f_X12_part_j15 σ l0 l1 l2 s0 s1 = some x) (hR : ∀ g, x = g → Q (.inl (some (.int g.1))) (g.2) π) : xMach G π J_X12_part (d + 3) C Z 15 [(0, .ref l0), (1, .int l1), (2, .int l2)] [.int s0, .ref s1] σ Q := by
  unfold f_X12_part_j15 at hf
  refine xm_aload_n dX12_part_15 rfl ?_
  refine xb_getI (a := l0) (c := 12) (k := 10) dX12_part_16 xcl12 (by decide) xw_1847 rfl hf (fun x2 ex2 hf => ?_)
  refine xm_bipush dX12_part_19 (v := 30) (by decide) ?_
  refine xb_icmp_ne 28 dX12_part_21 (by decide) hf (fun c hf => ?_) (fun c hf => ?_)
  · refine xm_iconst dX12_part_28 (v := 0) (by decide) ?_
    exact xm_sub [0, 1, 2] rfl (L_X12_part_j29 σ l0 l1 l2 (0 : Int32) s0 s1 hf hR)
  · refine xm_iconst dX12_part_24 (v := 1) (by decide) ?_
    refine xm_goto 29 dX12_part_25 (by decide) ?_
    exact xm_sub [0, 1, 2] rfl (L_X12_part_j29 σ l0 l1 l2 (1 : Int32) s0 s1 hf hR)
def f_X12_part (σ : xM) (l0 : Nat) (l1 : Int32) (l2 : Int32) : Option (Int32 × xM) :=
  (if xk σ l0 12 = true then (f_X12_isNode σ l0 l1 l2).bind (fun p1 => (if p1 = (0 : Int32) then f_X12_part_j15 σ l0 l1 l2 (1 : Int32) l0 else f_X12_part_j15 σ l0 l1 l2 (0 : Int32) l0)) else none)
set_option maxHeartbeats 4000000 in
set_option maxRecDepth 20000 in
theorem m_X12_part {G : xG} {π : Nat → Nat} {d C Z : Nat} {Q : xQ} {σ : xM} {l0 : Nat} {l1 : Int32} {l2 : Int32} {x : (Int32 × xM)} (hf : f_X12_part σ l0 l1 l2 = some x) (hR : ∀ g, x = g → Q (.inl (some (.int g.1))) (g.2) π) : xMach G π J_X12_part (d + 3) C Z 0 (lv_args 0 [.ref l0, .int l1, .int l2]) [] σ Q := by
  unfold f_X12_part at hf
  refine xm_stL (L' := [(0, .ref l0), (1, .int l1), (2, .int l2)]) rfl ?_
  refine xm_aload_n dX12_part_0 rfl ?_
  refine xm_aload_n dX12_part_1 rfl ?_
  refine xm_iload_n dX12_part_2 rfl ?_
  refine xm_iload_n dX12_part_3 rfl ?_
  refine xb_if hf (fun hb hf => ?_) (fun _ q => nomatch q)
  obtain ⟨p1, ep1, hf⟩ := xbind hf
  refine xb_callV (As := [.int l1, .int l2]) (v0 := (some (.int p1))) (τ0 := σ) dX12_part_4 (xc_X12_isNode _ _) xcl12 xw_2229 xw_2231 xs_112 hb rfl (Nat.le_of_ble_eq_true rfl) rfl (Nat.le_of_ble_eq_true rfl) (fun Q1 hq => m_X12_isNode (d := d + 0) ep1 (fun g hg => by subst hg; exact hq)) ?_
  refine xb_if_ne 14 dX12_part_7 (by decide) hf (fun c hf => ?_) (fun c hf => ?_)
  · refine xm_iconst dX12_part_14 (v := 0) (by decide) ?_
    exact xm_sub [0, 1, 2] rfl (L_X12_part_j15 σ l0 l1 l2 (0 : Int32) l0 hf hR)
  · refine xm_iconst dX12_part_10 (v := 1) (by decide) ?_
    refine xm_goto 15 dX12_part_11 (by decide) ?_
    exact xm_sub [0, 1, 2] rfl (L_X12_part_j15 σ l0 l1 l2 (1 : Int32) l0 hf hR)
-- RankwiseModel.isRange(II)Z
def f_X12_isRange_j46 (σ : xM) (s0 : Int32) : Option Int32 :=
  (xz s0).bind (fun b1 => some b1)
set_option maxHeartbeats 4000000 in
set_option maxRecDepth 20000 in
theorem L_X12_isRange_j46 {G : xG} {π : Nat → Nat} {d C Z : Nat} {Q : xQ} (σ : xM) (s0 : Int32) {x : Int32} (hf : f_X12_isRange_j46 σ s0 = some x) (hR : ∀ g, x = g → Q (.inl (some (.int g))) (σ) π) : xMach G π J_X12_isRange (d + 0) C Z 46 [] [.int s0] σ Q := by
  unfold f_X12_isRange_j46 at hf
  obtain ⟨b1, eb1, hf⟩ := xbind hf
  obtain ⟨rfl, hz⟩ := xz_of eb1
  cases hf
  exact xm_zret dX12_isRange_46 rfl hz (hR _ rfl)
def f_X12_isRange_j45 (σ : xM)  : Option Int32 :=
  f_X12_isRange_j46 σ (0 : Int32)
set_option maxHeartbeats 4000000 in
set_option maxRecDepth 20000 in
theorem L_X12_isRange_j45 {G : xG} {π : Nat → Nat} {d C Z : Nat} {Q : xQ} (σ : xM)  {x : Int32} (hf : f_X12_isRange_j45 σ = some x) (hR : ∀ g, x = g → Q (.inl (some (.int g))) (σ) π) : xMach G π J_X12_isRange (d + 0) C Z 45 [] [] σ Q := by
  unfold f_X12_isRange_j45 at hf
  refine xm_iconst dX12_isRange_45 (v := 0) (by decide) ?_
  exact xm_sub [] rfl (L_X12_isRange_j46 σ (0 : Int32) hf hR)
def f_X12_isRange (σ : xM) (l0 : Nat) (l1 : Int32) (l2 : Int32) : Option Int32 :=
  (if l2 ≤ l1 then f_X12_isRange_j45 σ else (gR σ l0 12 4).bind (fun x2 => (aI σ x2 14 (l2 - (1 : Int32))).bind (fun x3 => (if x3 = (2 : Int32) then (gR σ l0 12 5).bind (fun x4 => (aI σ x4 14 (l2 - (1 : Int32))).bind (fun x5 => (if x5 = (115 : Int32) then (gR σ l0 12 7).bind (fun x6 => (aI σ x6 14 (l2 - (1 : Int32))).bind (fun x7 => (if x7 ≤ (0 : Int32) then f_X12_isRange_j45 σ else f_X12_isRange_j46 σ (1 : Int32)))) else f_X12_isRange_j45 σ))) else f_X12_isRange_j45 σ))))
set_option maxHeartbeats 4000000 in
set_option maxRecDepth 20000 in
theorem m_X12_isRange {G : xG} {π : Nat → Nat} {d C Z : Nat} {Q : xQ} {σ : xM} {l0 : Nat} {l1 : Int32} {l2 : Int32} {x : Int32} (hf : f_X12_isRange σ l0 l1 l2 = some x) (hR : ∀ g, x = g → Q (.inl (some (.int g))) (σ) π) : xMach G π J_X12_isRange (d + 0) C Z 0 (lv_args 0 [.ref l0, .int l1, .int l2]) [] σ Q := by
  unfold f_X12_isRange at hf
  refine xm_stL (L' := [(0, .ref l0), (1, .int l1), (2, .int l2)]) rfl ?_
  refine xm_iload_n dX12_isRange_0 rfl ?_
  refine xm_iload_n dX12_isRange_1 rfl ?_
  refine xb_icmp_le 45 dX12_isRange_2 (by decide) hf (fun c hf => ?_) (fun c hf => ?_)
  · exact xm_sub [] rfl (L_X12_isRange_j45 σ hf hR)
  · refine xm_aload_n dX12_isRange_5 rfl ?_
    refine xb_getR (a := l0) (c := 12) (k := 4) dX12_isRange_6 xcl12 (by decide) xw_1841 rfl hf (fun x2 ex2 hf => ?_)
    refine xm_iload_n dX12_isRange_9 rfl ?_
    refine xm_iconst dX12_isRange_10 (v := 1) (by decide) ?_
    refine xm_isub dX12_isRange_11 ?_
    refine xb_iald dX12_isRange_12 hf (fun x3 ex3 hf => ?_)
    refine xm_iconst dX12_isRange_13 (v := 2) (by decide) ?_
    refine xb_icmp_ne 45 dX12_isRange_14 (by decide) hf (fun c hf => ?_) (fun c hf => ?_)
    · exact xm_sub [] rfl (L_X12_isRange_j45 σ hf hR)
    · refine xm_aload_n dX12_isRange_17 rfl ?_
      refine xb_getR (a := l0) (c := 12) (k := 5) dX12_isRange_18 xcl12 (by decide) xw_1842 rfl hf (fun x4 ex4 hf => ?_)
      refine xm_iload_n dX12_isRange_21 rfl ?_
      refine xm_iconst dX12_isRange_22 (v := 1) (by decide) ?_
      refine xm_isub dX12_isRange_23 ?_
      refine xb_iald dX12_isRange_24 hf (fun x5 ex5 hf => ?_)
      refine xm_bipush dX12_isRange_25 (v := 115) (by decide) ?_
      refine xb_icmp_ne 45 dX12_isRange_27 (by decide) hf (fun c hf => ?_) (fun c hf => ?_)
      · exact xm_sub [] rfl (L_X12_isRange_j45 σ hf hR)
      · refine xm_aload_n dX12_isRange_30 rfl ?_
        refine xb_getR (a := l0) (c := 12) (k := 7) dX12_isRange_31 xcl12 (by decide) xw_1844 rfl hf (fun x6 ex6 hf => ?_)
        refine xm_iload_n dX12_isRange_34 rfl ?_
        refine xm_iconst dX12_isRange_35 (v := 1) (by decide) ?_
        refine xm_isub dX12_isRange_36 ?_
        refine xb_iald dX12_isRange_37 hf (fun x7 ex7 hf => ?_)
        refine xb_if_le 45 dX12_isRange_38 (by decide) hf (fun c hf => ?_) (fun c hf => ?_)
        · exact xm_sub [] rfl (L_X12_isRange_j45 σ hf hR)
        · refine xm_iconst dX12_isRange_41 (v := 1) (by decide) ?_
          refine xm_goto 46 dX12_isRange_42 (by decide) ?_
          exact xm_sub [] rfl (L_X12_isRange_j46 σ (1 : Int32) hf hR)
-- RankwiseModel.grafted(III)I
def f_X12_grafted_j106 (σ : xM) (l0 : Nat) (l1 : Int32) (l2 : Int32) (l3 : Int32) (l4 : Int32) (l5 : Int32) (l7 : Int32) (s0 : Int32) (s1 : Int32) (s2 : Nat) : Option ((Int32 × xM) ⊕ (((xM) ⊕ (Int32 × xM)) ⊕ (Nat × Int32 × Int32 × Int32 × Int32 × Int32 × xM))) :=
  (if xk σ s2 12 = true then (f_X12_copyNodes σ s2 s1 s0 l7).bind (fun p6 => xlet (l4 + l7) (fun v7 => xlet (l5 + (1 : Int32)) (fun v8 => some (Sum.inr (Sum.inr (l0, l1, l2, l3, v7, v8, p6)))))) else none)
set_option maxHeartbeats 4000000 in
set_option maxRecDepth 20000 in
theorem L_X12_grafted_j106 {G : xG} {π : Nat → Nat} {d C Z : Nat} {Q : xQ} (σ : xM) (l0 : Nat) (l1 : Int32) (l2 : Int32) (l3 : Int32) (l4 : Int32) (l5 : Int32) (l7 : Int32) (s0 : Int32) (s1 : Int32) (s2 : Nat) {x : ((Int32 × xM) ⊕ (((xM) ⊕ (Int32 × xM)) ⊕ (Nat × Int32 × Int32 × Int32 × Int32 × Int32 × xM)))} (hf : f_X12_grafted_j106 σ l0 l1 l2 l3 l4 l5 l7 s0 s1 s2 = some x) (hR : ∀ g, x = Sum.inl (g) → Q (.inl (some (.int g.1))) (g.2) π) (hE0 : ∀ e : (xM), x = Sum.inr (Sum.inl (Sum.inl e)) → xMach G π J_X12_grafted (d + 1) C Z 85 [] [] e Q) (hE1 : ∀ e : (Int32 × xM), x = Sum.inr (Sum.inl (Sum.inr e)) → xMach G π J_X12_grafted (d + 1) C Z 124 [(4, .int e.1)] [] e.2 Q) (hC : ∀ e : (Nat × Int32 × Int32 × Int32 × Int32 × Int32 × xM), x = Sum.inr (Sum.inr e) → xMach G π J_X12_grafted (d + 1) C Z 6 [(0, .ref e.1), (1, .int e.2.1), (2, .int e.2.2.1), (3, .int e.2.2.2.1), (4, .int e.2.2.2.2.1), (5, .int e.2.2.2.2.2.1)] [] e.2.2.2.2.2.2 Q) : xMach G π J_X12_grafted (d + 1) C Z 106 [(0, .ref l0), (1, .int l1), (2, .int l2), (3, .int l3), (4, .int l4), (5, .int l5), (7, .int l7)] [.int s0, .int s1, .ref s2] σ Q := by
  unfold f_X12_grafted_j106 at hf
  refine xm_iload dX12_grafted_106 rfl ?_
  refine xb_if hf (fun hb hf => ?_) (fun _ q => nomatch q)
  obtain ⟨p6, ep6, hf⟩ := xbind hf
  refine xb_callV (As := [.int s1, .int s0, .int l7]) (v0 := none) (τ0 := p6) dX12_grafted_108 (xc_X12_copyNodes _ _) xcl12 xw_2104 xw_2106 xs_89 hb rfl (Nat.le_of_ble_eq_true rfl) rfl (Nat.le_of_ble_eq_true rfl) (fun Q1 hq => m_X12_copyNodes (d := d + 0) ep6 (fun g hg => by subst hg; exact hq)) ?_
  refine xm_iload dX12_grafted_111 rfl ?_
  refine xm_iload dX12_grafted_113 rfl ?_
  refine xm_iadd dX12_grafted_115 ?_
  refine xb_topi hf (fun v7 ev7 hf => ?_)
  refine xm_istore dX12_grafted_116 (by decide) (xm_stL (L' := [(4, .int v7), (0, .ref l0), (1, .int l1), (2, .int l2), (3, .int l3), (5, .int l5), (7, .int l7)]) rfl ?_)
  refine xb_iinc dX12_grafted_118 rfl (by decide) (by decide) hf (fun v8 ev8 hf => xm_stL (L' := [(5, .int v8), (4, .int v7), (0, .ref l0), (1, .int l1), (2, .int l2), (3, .int l3), (7, .int l7)]) rfl ?_)
  refine xm_goto 6 dX12_grafted_121 (by decide) ?_
  cases hf
  exact xm_sub [2, 3, 4, 5, 1, 0] rfl (hC _ rfl)
def f_X12_grafted_j73 (σ : xM) (l0 : Nat) (l1 : Int32) (l2 : Int32) (l3 : Int32) (l4 : Int32) (l5 : Int32) (l6 : Int32) (s0 : Int32) : Option ((Int32 × xM) ⊕ (((xM) ⊕ (Int32 × xM)) ⊕ (Nat × Int32 × Int32 × Int32 × Int32 × Int32 × xM))) :=
  (if (l4 + s0) ≤ (80 : Int32) then (if l6 = (0 : Int32) then f_X12_grafted_j106 σ l0 l1 l2 l3 l4 l5 s0 l5 ((13540 : Int32) + l4) l0 else f_X12_grafted_j106 σ l0 l1 l2 l3 l4 l5 s0 l3 ((13540 : Int32) + l4) l0) else some (Sum.inr (Sum.inl (Sum.inl σ))))
set_option maxHeartbeats 4000000 in
set_option maxRecDepth 20000 in
theorem L_X12_grafted_j73 {G : xG} {π : Nat → Nat} {d C Z : Nat} {Q : xQ} (σ : xM) (l0 : Nat) (l1 : Int32) (l2 : Int32) (l3 : Int32) (l4 : Int32) (l5 : Int32) (l6 : Int32) (s0 : Int32) {x : ((Int32 × xM) ⊕ (((xM) ⊕ (Int32 × xM)) ⊕ (Nat × Int32 × Int32 × Int32 × Int32 × Int32 × xM)))} (hf : f_X12_grafted_j73 σ l0 l1 l2 l3 l4 l5 l6 s0 = some x) (hR : ∀ g, x = Sum.inl (g) → Q (.inl (some (.int g.1))) (g.2) π) (hE0 : ∀ e : (xM), x = Sum.inr (Sum.inl (Sum.inl e)) → xMach G π J_X12_grafted (d + 1) C Z 85 [] [] e Q) (hE1 : ∀ e : (Int32 × xM), x = Sum.inr (Sum.inl (Sum.inr e)) → xMach G π J_X12_grafted (d + 1) C Z 124 [(4, .int e.1)] [] e.2 Q) (hC : ∀ e : (Nat × Int32 × Int32 × Int32 × Int32 × Int32 × xM), x = Sum.inr (Sum.inr e) → xMach G π J_X12_grafted (d + 1) C Z 6 [(0, .ref e.1), (1, .int e.2.1), (2, .int e.2.2.1), (3, .int e.2.2.2.1), (4, .int e.2.2.2.2.1), (5, .int e.2.2.2.2.2.1)] [] e.2.2.2.2.2.2 Q) : xMach G π J_X12_grafted (d + 1) C Z 73 [(0, .ref l0), (1, .int l1), (2, .int l2), (3, .int l3), (4, .int l4), (5, .int l5), (6, .int l6)] [.int s0] σ Q := by
  unfold f_X12_grafted_j73 at hf
  refine xm_istore dX12_grafted_73 (by decide) (xm_stL (L' := [(7, .int s0), (0, .ref l0), (1, .int l1), (2, .int l2), (3, .int l3), (4, .int l4), (5, .int l5), (6, .int l6)]) rfl ?_)
  refine xm_iload dX12_grafted_75 rfl ?_
  refine xm_iload dX12_grafted_77 rfl ?_
  refine xm_iadd dX12_grafted_79 ?_
  refine xm_bipush dX12_grafted_80 (v := 80) (by decide) ?_
  refine xb_icmp_le 88 dX12_grafted_82 (by decide) hf (fun c hf => ?_) (fun c hf => ?_)
  · refine xm_aload_n dX12_grafted_88 rfl ?_
    refine xm_sipush dX12_grafted_89 (v := 13540) (by decide) ?_
    refine xm_iload dX12_grafted_92 rfl ?_
    refine xm_iadd dX12_grafted_94 ?_
    refine xm_iload dX12_grafted_95 rfl ?_
    refine xb_if_eq 104 dX12_grafted_97 (by decide) hf (fun c hf => ?_) (fun c hf => ?_)
    · refine xm_iload dX12_grafted_104 rfl ?_
      exact xm_sub [1, 2, 3, 4, 5, 6, 0] rfl (L_X12_grafted_j106 σ l0 l1 l2 l3 l4 l5 s0 l5 ((13540 : Int32) + l4) l0 hf hR hE0 hE1 hC)
    · refine xm_iload_n dX12_grafted_100 rfl ?_
      refine xm_goto 106 dX12_grafted_101 (by decide) ?_
      exact xm_sub [1, 2, 3, 4, 5, 6, 0] rfl (L_X12_grafted_j106 σ l0 l1 l2 l3 l4 l5 s0 l3 ((13540 : Int32) + l4) l0 hf hR hE0 hE1 hC)
  · cases hf
    exact xm_sub [] rfl (hE0 _ rfl)
def f_X12_grafted_j56 (σ : xM) (l0 : Nat) (l1 : Int32) (l2 : Int32) (l3 : Int32) (l4 : Int32) (l5 : Int32) (s0 : Int32) : Option ((Int32 × xM) ⊕ (((xM) ⊕ (Int32 × xM)) ⊕ (Nat × Int32 × Int32 × Int32 × Int32 × Int32 × xM))) :=
  (if s0 = (0 : Int32) then f_X12_grafted_j73 σ l0 l1 l2 l3 l4 l5 s0 (1 : Int32) else (gR σ l0 12 8).bind (fun x9 => (aI σ x9 14 l3).bind (fun x10 => f_X12_grafted_j73 σ l0 l1 l2 l3 l4 l5 s0 x10)))
set_option maxHeartbeats 4000000 in
set_option maxRecDepth 20000 in
theorem L_X12_grafted_j56 {G : xG} {π : Nat → Nat} {d C Z : Nat} {Q : xQ} (σ : xM) (l0 : Nat) (l1 : Int32) (l2 : Int32) (l3 : Int32) (l4 : Int32) (l5 : Int32) (s0 : Int32) {x : ((Int32 × xM) ⊕ (((xM) ⊕ (Int32 × xM)) ⊕ (Nat × Int32 × Int32 × Int32 × Int32 × Int32 × xM)))} (hf : f_X12_grafted_j56 σ l0 l1 l2 l3 l4 l5 s0 = some x) (hR : ∀ g, x = Sum.inl (g) → Q (.inl (some (.int g.1))) (g.2) π) (hE0 : ∀ e : (xM), x = Sum.inr (Sum.inl (Sum.inl e)) → xMach G π J_X12_grafted (d + 1) C Z 85 [] [] e Q) (hE1 : ∀ e : (Int32 × xM), x = Sum.inr (Sum.inl (Sum.inr e)) → xMach G π J_X12_grafted (d + 1) C Z 124 [(4, .int e.1)] [] e.2 Q) (hC : ∀ e : (Nat × Int32 × Int32 × Int32 × Int32 × Int32 × xM), x = Sum.inr (Sum.inr e) → xMach G π J_X12_grafted (d + 1) C Z 6 [(0, .ref e.1), (1, .int e.2.1), (2, .int e.2.2.1), (3, .int e.2.2.2.1), (4, .int e.2.2.2.2.1), (5, .int e.2.2.2.2.2.1)] [] e.2.2.2.2.2.2 Q) : xMach G π J_X12_grafted (d + 1) C Z 56 [(0, .ref l0), (1, .int l1), (2, .int l2), (3, .int l3), (4, .int l4), (5, .int l5)] [.int s0] σ Q := by
  unfold f_X12_grafted_j56 at hf
  refine xm_istore dX12_grafted_56 (by decide) (xm_stL (L' := [(6, .int s0), (0, .ref l0), (1, .int l1), (2, .int l2), (3, .int l3), (4, .int l4), (5, .int l5)]) rfl ?_)
  refine xm_iload dX12_grafted_58 rfl ?_
  refine xb_if_eq 72 dX12_grafted_60 (by decide) hf (fun c hf => ?_) (fun c hf => ?_)
  · refine xm_iconst dX12_grafted_72 (v := 1) (by decide) ?_
    exact xm_sub [1, 2, 3, 4, 5, 6, 0] rfl (L_X12_grafted_j73 σ l0 l1 l2 l3 l4 l5 s0 (1 : Int32) hf hR hE0 hE1 hC)
  · refine xm_aload_n dX12_grafted_63 rfl ?_
    refine xb_getR (a := l0) (c := 12) (k := 8) dX12_grafted_64 xcl12 (by decide) xw_1845 rfl hf (fun x9 ex9 hf => ?_)
    refine xm_iload_n dX12_grafted_67 rfl ?_
    refine xb_iald dX12_grafted_68 hf (fun x10 ex10 hf => ?_)
    refine xm_goto 73 dX12_grafted_69 (by decide) ?_
    exact xm_sub [1, 2, 3, 4, 5, 6, 0] rfl (L_X12_grafted_j73 σ l0 l1 l2 l3 l4 l5 s0 x10 hf hR hE0 hE1 hC)
def f_X12_grafted_j55 (σ : xM) (l0 : Nat) (l1 : Int32) (l2 : Int32) (l3 : Int32) (l4 : Int32) (l5 : Int32) : Option ((Int32 × xM) ⊕ (((xM) ⊕ (Int32 × xM)) ⊕ (Nat × Int32 × Int32 × Int32 × Int32 × Int32 × xM))) :=
  f_X12_grafted_j56 σ l0 l1 l2 l3 l4 l5 (0 : Int32)
set_option maxHeartbeats 4000000 in
set_option maxRecDepth 20000 in
theorem L_X12_grafted_j55 {G : xG} {π : Nat → Nat} {d C Z : Nat} {Q : xQ} (σ : xM) (l0 : Nat) (l1 : Int32) (l2 : Int32) (l3 : Int32) (l4 : Int32) (l5 : Int32) {x : ((Int32 × xM) ⊕ (((xM) ⊕ (Int32 × xM)) ⊕ (Nat × Int32 × Int32 × Int32 × Int32 × Int32 × xM)))} (hf : f_X12_grafted_j55 σ l0 l1 l2 l3 l4 l5 = some x) (hR : ∀ g, x = Sum.inl (g) → Q (.inl (some (.int g.1))) (g.2) π) (hE0 : ∀ e : (xM), x = Sum.inr (Sum.inl (Sum.inl e)) → xMach G π J_X12_grafted (d + 1) C Z 85 [] [] e Q) (hE1 : ∀ e : (Int32 × xM), x = Sum.inr (Sum.inl (Sum.inr e)) → xMach G π J_X12_grafted (d + 1) C Z 124 [(4, .int e.1)] [] e.2 Q) (hC : ∀ e : (Nat × Int32 × Int32 × Int32 × Int32 × Int32 × xM), x = Sum.inr (Sum.inr e) → xMach G π J_X12_grafted (d + 1) C Z 6 [(0, .ref e.1), (1, .int e.2.1), (2, .int e.2.2.1), (3, .int e.2.2.2.1), (4, .int e.2.2.2.2.1), (5, .int e.2.2.2.2.2.1)] [] e.2.2.2.2.2.2 Q) : xMach G π J_X12_grafted (d + 1) C Z 55 [(0, .ref l0), (1, .int l1), (2, .int l2), (3, .int l3), (4, .int l4), (5, .int l5)] [] σ Q := by
  unfold f_X12_grafted_j55 at hf
  refine xm_iconst dX12_grafted_55 (v := 0) (by decide) ?_
  exact xm_sub [0, 1, 2, 3, 4, 5] rfl (L_X12_grafted_j56 σ l0 l1 l2 l3 l4 l5 (0 : Int32) hf hR hE0 hE1 hC)
def f_X12_grafted_s6 (s : (Nat × Int32 × Int32 × Int32 × Int32 × Int32 × xM)) : Option ((Int32 × xM) ⊕ (((xM) ⊕ (Int32 × xM)) ⊕ (Nat × Int32 × Int32 × Int32 × Int32 × Int32 × xM))) :=
  xlet s.1 (fun l0 => xlet s.2.1 (fun l1 => xlet s.2.2.1 (fun l2 => xlet s.2.2.2.1 (fun l3 => xlet s.2.2.2.2.1 (fun l4 => xlet s.2.2.2.2.2.1 (fun l5 => xlet s.2.2.2.2.2.2 (fun σ => (gR σ l0 12 8).bind (fun x2 => (aI σ x2 14 l1).bind (fun x3 => (if (l1 + x3) ≤ l5 then some (Sum.inr (Sum.inl (Sum.inr (l4, σ)))) else (gR σ l0 12 4).bind (fun x4 => (aI σ x4 14 l5).bind (fun x5 => (if x5 = (1 : Int32) then (gR σ l0 12 5).bind (fun x11 => (aI σ x11 14 l5).bind (fun x12 => (if x12 = l2 then (if xk σ l0 12 = true then (f_X12_isRange σ l0 l1 l5).bind (fun p13 => (if p13 = (0 : Int32) then f_X12_grafted_j56 σ l0 l1 l2 l3 l4 l5 (1 : Int32) else f_X12_grafted_j55 σ l0 l1 l2 l3 l4 l5)) else none) else f_X12_grafted_j55 σ l0 l1 l2 l3 l4 l5))) else f_X12_grafted_j55 σ l0 l1 l2 l3 l4 l5)))))))))))))
set_option maxHeartbeats 4000000 in
set_option maxRecDepth 20000 in
theorem L_X12_grafted_s6 {G : xG} {π : Nat → Nat} {d C Z : Nat} {Q : xQ} (σ : xM) (l0 : Nat) (l1 : Int32) (l2 : Int32) (l3 : Int32) (l4 : Int32) (l5 : Int32) {x : ((Int32 × xM) ⊕ (((xM) ⊕ (Int32 × xM)) ⊕ (Nat × Int32 × Int32 × Int32 × Int32 × Int32 × xM)))} (hf : f_X12_grafted_s6 (l0, l1, l2, l3, l4, l5, σ) = some x) (hR : ∀ g, x = Sum.inl (g) → Q (.inl (some (.int g.1))) (g.2) π) (hE0 : ∀ e : (xM), x = Sum.inr (Sum.inl (Sum.inl e)) → xMach G π J_X12_grafted (d + 1) C Z 85 [] [] e Q) (hE1 : ∀ e : (Int32 × xM), x = Sum.inr (Sum.inl (Sum.inr e)) → xMach G π J_X12_grafted (d + 1) C Z 124 [(4, .int e.1)] [] e.2 Q) (hC : ∀ e : (Nat × Int32 × Int32 × Int32 × Int32 × Int32 × xM), x = Sum.inr (Sum.inr e) → xMach G π J_X12_grafted (d + 1) C Z 6 [(0, .ref e.1), (1, .int e.2.1), (2, .int e.2.2.1), (3, .int e.2.2.2.1), (4, .int e.2.2.2.2.1), (5, .int e.2.2.2.2.2.1)] [] e.2.2.2.2.2.2 Q) : xMach G π J_X12_grafted (d + 1) C Z 6 [(0, .ref l0), (1, .int l1), (2, .int l2), (3, .int l3), (4, .int l4), (5, .int l5)] [] σ Q := by
  have hf : (gR σ l0 12 8).bind (fun x2 => (aI σ x2 14 l1).bind (fun x3 => (if (l1 + x3) ≤ l5 then some (Sum.inr (Sum.inl (Sum.inr (l4, σ)))) else (gR σ l0 12 4).bind (fun x4 => (aI σ x4 14 l5).bind (fun x5 => (if x5 = (1 : Int32) then (gR σ l0 12 5).bind (fun x11 => (aI σ x11 14 l5).bind (fun x12 => (if x12 = l2 then (if xk σ l0 12 = true then (f_X12_isRange σ l0 l1 l5).bind (fun p13 => (if p13 = (0 : Int32) then f_X12_grafted_j56 σ l0 l1 l2 l3 l4 l5 (1 : Int32) else f_X12_grafted_j55 σ l0 l1 l2 l3 l4 l5)) else none) else f_X12_grafted_j55 σ l0 l1 l2 l3 l4 l5))) else f_X12_grafted_j55 σ l0 l1 l2 l3 l4 l5)))))) = some x := hf
  refine xm_iload dX12_grafted_6 rfl ?_
  refine xm_iload_n dX12_grafted_8 rfl ?_
  refine xm_aload_n dX12_grafted_9 rfl ?_
  refine xb_getR (a := l0) (c := 12) (k := 8) dX12_grafted_10 xcl12 (by decide) xw_1845 rfl hf (fun x2 ex2 hf => ?_)
  refine xm_iload_n dX12_grafted_13 rfl ?_
  refine xb_iald dX12_grafted_14 hf (fun x3 ex3 hf => ?_)
  refine xm_iadd dX12_grafted_15 ?_
  refine xb_icmp_ge 124 dX12_grafted_16 (by decide) hf (fun c hf => ?_) (fun c hf => ?_)
  · cases hf
    exact xm_sub [4] rfl (hE1 _ rfl)
  · refine xm_aload_n dX12_grafted_19 rfl ?_
    refine xb_getR (a := l0) (c := 12) (k := 4) dX12_grafted_20 xcl12 (by decide) xw_1841 rfl hf (fun x4 ex4 hf => ?_)
    refine xm_iload dX12_grafted_23 rfl ?_
    refine xb_iald dX12_grafted_25 hf (fun x5 ex5 hf => ?_)
    refine xm_iconst dX12_grafted_26 (v := 1) (by decide) ?_
    refine xb_icmp_ne 55 dX12_grafted_27 (by decide) hf (fun c hf => ?_) (fun c hf => ?_)
    · exact xm_sub [0, 1, 2, 3, 4, 5] rfl (L_X12_grafted_j55 σ l0 l1 l2 l3 l4 l5 hf hR hE0 hE1 hC)
    · refine xm_aload_n dX12_grafted_30 rfl ?_
      refine xb_getR (a := l0) (c := 12) (k := 5) dX12_grafted_31 xcl12 (by decide) xw_1842 rfl hf (fun x11 ex11 hf => ?_)
      refine xm_iload dX12_grafted_34 rfl ?_
      refine xb_iald dX12_grafted_36 hf (fun x12 ex12 hf => ?_)
      refine xm_iload_n dX12_grafted_37 rfl ?_
      refine xb_icmp_ne 55 dX12_grafted_38 (by decide) hf (fun c hf => ?_) (fun c hf => ?_)
      · exact xm_sub [0, 1, 2, 3, 4, 5] rfl (L_X12_grafted_j55 σ l0 l1 l2 l3 l4 l5 hf hR hE0 hE1 hC)
      · refine xm_aload_n dX12_grafted_41 rfl ?_
        refine xm_iload_n dX12_grafted_42 rfl ?_
        refine xm_iload dX12_grafted_43 rfl ?_
        refine xb_if hf (fun hb hf => ?_) (fun _ q => nomatch q)
        obtain ⟨p13, ep13, hf⟩ := xbind hf
        refine xb_callV (As := [.int l1, .int l5]) (v0 := (some (.int p13))) (τ0 := σ) dX12_grafted_45 (xc_X12_isRange _ _) xcl12 xw_2264 xw_2266 xs_117 hb rfl (Nat.le_of_ble_eq_true rfl) rfl (Nat.le_of_ble_eq_true rfl) (fun Q1 hq => m_X12_isRange (d := d + 0) ep13 (fun g hg => by subst hg; exact hq)) ?_
        refine xb_if_ne 55 dX12_grafted_48 (by decide) hf (fun c hf => ?_) (fun c hf => ?_)
        · exact xm_sub [0, 1, 2, 3, 4, 5] rfl (L_X12_grafted_j55 σ l0 l1 l2 l3 l4 l5 hf hR hE0 hE1 hC)
        · refine xm_iconst dX12_grafted_51 (v := 1) (by decide) ?_
          refine xm_goto 56 dX12_grafted_52 (by decide) ?_
          exact xm_sub [0, 1, 2, 3, 4, 5] rfl (L_X12_grafted_j56 σ l0 l1 l2 l3 l4 l5 (1 : Int32) hf hR hE0 hE1 hC)
theorem L_X12_grafted_l6 {G : xG} {π : Nat → Nat} {d C Z : Nat} {Q : xQ} {s0 : (Nat × Int32 × Int32 × Int32 × Int32 × Int32 × xM)} {x : ((Int32 × xM) ⊕ ((xM) ⊕ (Int32 × xM)))} (h1 : xloop (f_X12_grafted_s6) xF s0 = some x) (hR : ∀ g, x = Sum.inl g → Q (.inl (some (.int g.1))) (g.2) π) (hE0 : ∀ e : (xM), x = Sum.inr (Sum.inl e) → xMach G π J_X12_grafted (d + 1) C Z 85 [] [] e Q) (hE1 : ∀ e : (Int32 × xM), x = Sum.inr (Sum.inr e) → xMach G π J_X12_grafted (d + 1) C Z 124 [(4, .int e.1)] [] e.2 Q) : xMach G π J_X12_grafted (d + 1) C Z 6 [(0, .ref s0.1), (1, .int s0.2.1), (2, .int s0.2.2.1), (3, .int s0.2.2.2.1), (4, .int s0.2.2.2.2.1), (5, .int s0.2.2.2.2.2.1)] [] s0.2.2.2.2.2.2 Q := by
  refine xloop_run (M := (fun s : (Nat × Int32 × Int32 × Int32 × Int32 × Int32 × xM) => xMach G π J_X12_grafted (d + 1) C Z 6 [(0, .ref s.1), (1, .int s.2.1), (2, .int s.2.2.1), (3, .int s.2.2.2.1), (4, .int s.2.2.2.2.1), (5, .int s.2.2.2.2.2.1)] [] s.2.2.2.2.2.2 Q)) (r := x) ?_ xF _ h1
  intro s y hs hx
  exact L_X12_grafted_s6 s.2.2.2.2.2.2 s.1 s.2.1 s.2.2.1 s.2.2.2.1 s.2.2.2.2.1 s.2.2.2.2.2.1 (x := y) hs (fun g hg => by subst hg; exact hR g hx) (fun e he => by subst he; exact hE0 e hx) (fun e he => by subst he; exact hE1 e hx) (fun e he => by subst he; exact hx)
def f_X12_grafted_j85 (σ : xM)  : Option (Int32 × xM) :=
  some ((81 : Int32), σ)
set_option maxHeartbeats 4000000 in
set_option maxRecDepth 20000 in
theorem L_X12_grafted_j85 {G : xG} {π : Nat → Nat} {d C Z : Nat} {Q : xQ} (σ : xM)  {x : (Int32 × xM)} (hf : f_X12_grafted_j85 σ = some x) (hR : ∀ g, x = g → Q (.inl (some (.int g.1))) (g.2) π) : xMach G π J_X12_grafted (d + 1) C Z 85 [] [] σ Q := by
  unfold f_X12_grafted_j85 at hf
  refine xm_bipush dX12_grafted_85 (v := 81) (by decide) ?_
  cases hf
  exact xm_iret dX12_grafted_87 rfl (hR _ rfl)
def f_X12_grafted_j124 (σ : xM) (l4 : Int32) : Option (Int32 × xM) :=
  some (l4, σ)
set_option maxHeartbeats 4000000 in
set_option maxRecDepth 20000 in
theorem L_X12_grafted_j124 {G : xG} {π : Nat → Nat} {d C Z : Nat} {Q : xQ} (σ : xM) (l4 : Int32) {x : (Int32 × xM)} (hf : f_X12_grafted_j124 σ l4 = some x) (hR : ∀ g, x = g → Q (.inl (some (.int g.1))) (g.2) π) : xMach G π J_X12_grafted (d + 1) C Z 124 [(4, .int l4)] [] σ Q := by
  unfold f_X12_grafted_j124 at hf
  refine xm_iload dX12_grafted_124 rfl ?_
  cases hf
  exact xm_iret dX12_grafted_126 rfl (hR _ rfl)
def f_X12_grafted (σ : xM) (l0 : Nat) (l1 : Int32) (l2 : Int32) (l3 : Int32) : Option (Int32 × xM) :=
  xlet (0 : Int32) (fun v1 => (xloop (f_X12_grafted_s6 ) xF (l0, l1, l2, l3, v1, l1, σ)).bind (Sum.elim (fun g => some g) (Sum.elim (fun e => f_X12_grafted_j85 e) (fun e => f_X12_grafted_j124 e.2 e.1))))
set_option maxHeartbeats 4000000 in
set_option maxRecDepth 20000 in
theorem m_X12_grafted {G : xG} {π : Nat → Nat} {d C Z : Nat} {Q : xQ} {σ : xM} {l0 : Nat} {l1 : Int32} {l2 : Int32} {l3 : Int32} {x : (Int32 × xM)} (hf : f_X12_grafted σ l0 l1 l2 l3 = some x) (hR : ∀ g, x = g → Q (.inl (some (.int g.1))) (g.2) π) : xMach G π J_X12_grafted (d + 1) C Z 0 (lv_args 0 [.ref l0, .int l1, .int l2, .int l3]) [] σ Q := by
  unfold f_X12_grafted at hf
  refine xm_stL (L' := [(0, .ref l0), (1, .int l1), (2, .int l2), (3, .int l3)]) rfl ?_
  refine xm_iconst dX12_grafted_0 (v := 0) (by decide) ?_
  refine xb_topi hf (fun v1 ev1 hf => ?_)
  refine xm_istore dX12_grafted_1 (by decide) (xm_stL (L' := [(4, .int v1), (0, .ref l0), (1, .int l1), (2, .int l2), (3, .int l3)]) rfl ?_)
  refine xm_iload_n dX12_grafted_3 rfl ?_
  refine xm_istore dX12_grafted_4 (by decide) (xm_stL (L' := [(5, .int l1), (4, .int v1), (0, .ref l0), (1, .int l1), (2, .int l2), (3, .int l3)]) rfl ?_)
  obtain ⟨o, h1, hf⟩ := xbind hf
  refine xm_sub [2, 3, 4, 5, 1, 0] rfl (L_X12_grafted_l6  h1 (fun g hg => ?_) (fun e he => ?_) (fun e he => ?_))
  · subst hg
    cases hf
    exact hR _ rfl
  · subst he
    rw [Sum.elim_inr, Sum.elim_inl] at hf
    have hf : f_X12_grafted_j85 e = some _ := hf
    exact xm_sub [] rfl (L_X12_grafted_j85 e hf hR)
  · subst he
    rw [Sum.elim_inr, Sum.elim_inr] at hf
    have hf : f_X12_grafted_j124 e.2 e.1 = some _ := hf
    exact xm_sub [0] rfl (L_X12_grafted_j124 e.2 e.1 hf hR)
-- RankwiseModel.graft(ICI)I
def f_X12_graft_j82 (σ : xM) (l0 : Nat) (l4 : Int32) (s0 : Int32) (s1 : Int32) (s2 : Int32) (s3 : Nat) : Option (Int32 × xM) :=
  (if xk σ s3 12 = true then (f_X12_refused σ s3 s2 s1 s0).bind (fun p8 => (if p8.1 = (0 : Int32) then (if xk p8.2 l0 12 = true then (f_X12_shelve p8.2 l0 (13540 : Int32) l4).bind (fun p9 => some (p9.1, p9.2)) else none) else some ((0 : Int32), p8.2))) else none)
set_option maxHeartbeats 4000000 in
set_option maxRecDepth 20000 in
theorem L_X12_graft_j82 {G : xG} {π : Nat → Nat} {d C Z : Nat} {Q : xQ} (σ : xM) (l0 : Nat) (l4 : Int32) (s0 : Int32) (s1 : Int32) (s2 : Int32) (s3 : Nat) {x : (Int32 × xM)} (hf : f_X12_graft_j82 σ l0 l4 s0 s1 s2 s3 = some x) (hR : ∀ g, x = g → Q (.inl (some (.int g.1))) (g.2) π) : xMach G π J_X12_graft (d + 2) C Z 82 [(0, .ref l0), (4, .int l4)] [.int s0, .int s1, .int s2, .ref s3] σ Q := by
  unfold f_X12_graft_j82 at hf
  refine xb_if hf (fun hb hf => ?_) (fun _ q => nomatch q)
  obtain ⟨p8, ep8, hf⟩ := xbind hf
  refine xb_callV (As := [.int s2, .int s1, .int s0]) (v0 := (some (.int p8.1))) (τ0 := p8.2) dX12_graft_82 (xc_X12_refused _ _) xcl12 xw_2112 xw_2114 xs_90 hb rfl (Nat.le_of_ble_eq_true rfl) rfl (Nat.le_of_ble_eq_true rfl) (fun Q1 hq => m_X12_refused (d := d + 1) ep8 (fun g hg => by subst hg; exact hq)) ?_
  refine xb_if_eq 90 dX12_graft_85 (by decide) hf (fun c hf => ?_) (fun c hf => ?_)
  · refine xm_aload_n dX12_graft_90 rfl ?_
    refine xm_sipush dX12_graft_91 (v := 13540) (by decide) ?_
    refine xm_iload dX12_graft_94 rfl ?_
    refine xb_if hf (fun hb hf => ?_) (fun _ q => nomatch q)
    obtain ⟨p9, ep9, hf⟩ := xbind hf
    refine xb_callV (As := [.int (13540 : Int32), .int l4]) (v0 := (some (.int p9.1))) (τ0 := p9.2) dX12_graft_96 (xc_X12_shelve _ _) xcl12 xw_2210 xw_2212 xs_110 hb rfl (Nat.le_of_ble_eq_true rfl) rfl (Nat.le_of_ble_eq_true rfl) (fun Q1 hq => m_X12_shelve (d := d + 0) ep9 (fun g hg => by subst hg; exact hq)) ?_
    cases hf
    exact xm_iret dX12_graft_99 rfl (hR _ rfl)
  · refine xm_iconst dX12_graft_88 (v := 0) (by decide) ?_
    cases hf
    exact xm_iret dX12_graft_89 rfl (hR _ rfl)
def f_X12_graft_j77 (σ : xM) (l0 : Nat) (l4 : Int32) (s0 : Int32) (s1 : Int32) (s2 : Nat) : Option (Int32 × xM) :=
  f_X12_graft_j82 σ l0 l4 (1 : Int32) s0 s1 s2
set_option maxHeartbeats 4000000 in
set_option maxRecDepth 20000 in
theorem L_X12_graft_j77 {G : xG} {π : Nat → Nat} {d C Z : Nat} {Q : xQ} (σ : xM) (l0 : Nat) (l4 : Int32) (s0 : Int32) (s1 : Int32) (s2 : Nat) {x : (Int32 × xM)} (hf : f_X12_graft_j77 σ l0 l4 s0 s1 s2 = some x) (hR : ∀ g, x = g → Q (.inl (some (.int g.1))) (g.2) π) : xMach G π J_X12_graft (d + 2) C Z 77 [(0, .ref l0), (4, .int l4)] [.int s0, .int s1, .ref s2] σ Q := by
  unfold f_X12_graft_j77 at hf
  refine xm_iconst dX12_graft_77 (v := 1) (by decide) ?_
  refine xm_goto 82 dX12_graft_78 (by decide) ?_
  exact xm_sub [0, 1] rfl (L_X12_graft_j82 σ l0 l4 (1 : Int32) s0 s1 s2 hf hR)
def f_X12_graft_j34 (σ : xM) (l0 : Nat) (l1 : Int32) (l2 : Int32) (l3 : Int32) (s0 : Int32) (s1 : Int32) (s2 : Nat) : Option (Int32 × xM) :=
  (if xk σ s2 12 = true then (f_X12_refused σ s2 s1 s0 (0 : Int32)).bind (fun p3 => (if p3.1 = (0 : Int32) then (f_X12_shelf p3.2 l1).bind (fun p4 => (f_X12_shelf p3.2 l3).bind (fun p5 => (if xk p3.2 l0 12 = true then (f_X12_grafted p3.2 l0 p4 l2 p5).bind (fun p6 => (gI p6.2 l0 12 10).bind (fun x7 => (if x7 = (30 : Int32) then f_X12_graft_j77 p6.2 l0 p6.1 (0 : Int32) (0 : Int32) l0 else (if p6.1 ≤ (80 : Int32) then f_X12_graft_j82 p6.2 l0 p6.1 (0 : Int32) (0 : Int32) (0 : Int32) l0 else f_X12_graft_j77 p6.2 l0 p6.1 (0 : Int32) (0 : Int32) l0)))) else none))) else some ((0 : Int32), p3.2))) else none)
set_option maxHeartbeats 4000000 in
set_option maxRecDepth 20000 in
theorem L_X12_graft_j34 {G : xG} {π : Nat → Nat} {d C Z : Nat} {Q : xQ} (σ : xM) (l0 : Nat) (l1 : Int32) (l2 : Int32) (l3 : Int32) (s0 : Int32) (s1 : Int32) (s2 : Nat) {x : (Int32 × xM)} (hf : f_X12_graft_j34 σ l0 l1 l2 l3 s0 s1 s2 = some x) (hR : ∀ g, x = g → Q (.inl (some (.int g.1))) (g.2) π) : xMach G π J_X12_graft (d + 2) C Z 34 [(0, .ref l0), (1, .int l1), (2, .int l2), (3, .int l3)] [.int s0, .int s1, .ref s2] σ Q := by
  unfold f_X12_graft_j34 at hf
  refine xm_iconst dX12_graft_34 (v := 0) (by decide) ?_
  refine xb_if hf (fun hb hf => ?_) (fun _ q => nomatch q)
  obtain ⟨p3, ep3, hf⟩ := xbind hf
  refine xb_callV (As := [.int s1, .int s0, .int (0 : Int32)]) (v0 := (some (.int p3.1))) (τ0 := p3.2) dX12_graft_35 (xc_X12_refused _ _) xcl12 xw_2112 xw_2114 xs_90 hb rfl (Nat.le_of_ble_eq_true rfl) rfl (Nat.le_of_ble_eq_true rfl) (fun Q1 hq => m_X12_refused (d := d + 1) ep3 (fun g hg => by subst hg; exact hq)) ?_
  refine xb_if_eq 43 dX12_graft_38 (by decide) hf (fun c hf => ?_) (fun c hf => ?_)
  · refine xm_aload_n dX12_graft_43 rfl ?_
    refine xm_iload_n dX12_graft_44 rfl ?_
    obtain ⟨p4, ep4, hf⟩ := xbind hf
    refine xb_callS (As := [.int l1]) (v0 := (some (.int p4))) (τ0 := p3.2) dX12_graft_45 (xc_X12_shelf _ _) xw_2214 xw_2215 rfl (Nat.le_of_ble_eq_true rfl) rfl (Nat.le_of_ble_eq_true rfl) (fun Q1 hq => m_X12_shelf (d := d + 1) ep4 (fun g hg => by subst hg; exact hq)) ?_
    refine xm_iload_n dX12_graft_48 rfl ?_
    refine xm_iload_n dX12_graft_49 rfl ?_
    obtain ⟨p5, ep5, hf⟩ := xbind hf
    refine xb_callS (As := [.int l3]) (v0 := (some (.int p5))) (τ0 := p3.2) dX12_graft_50 (xc_X12_shelf _ _) xw_2214 xw_2215 rfl (Nat.le_of_ble_eq_true rfl) rfl (Nat.le_of_ble_eq_true rfl) (fun Q1 hq => m_X12_shelf (d := d + 1) ep5 (fun g hg => by subst hg; exact hq)) ?_
    refine xb_if hf (fun hb hf => ?_) (fun _ q => nomatch q)
    obtain ⟨p6, ep6, hf⟩ := xbind hf
    refine xb_callV (As := [.int p4, .int l2, .int p5]) (v0 := (some (.int p6.1))) (τ0 := p6.2) dX12_graft_53 (xc_X12_grafted _ _) xcl12 xw_2260 xw_2262 xs_116 hb rfl (Nat.le_of_ble_eq_true rfl) rfl (Nat.le_of_ble_eq_true rfl) (fun Q1 hq => m_X12_grafted (d := d + 0) ep6 (fun g hg => by subst hg; exact hq)) ?_
    refine xm_istore dX12_graft_56 (by decide) (xm_stL (L' := [(4, .int p6.1), (0, .ref l0), (1, .int l1), (2, .int l2), (3, .int l3)]) rfl ?_)
    refine xm_aload_n dX12_graft_58 rfl ?_
    refine xm_iconst dX12_graft_59 (v := 0) (by decide) ?_
    refine xm_iconst dX12_graft_60 (v := 0) (by decide) ?_
    refine xm_aload_n dX12_graft_61 rfl ?_
    refine xb_getI (a := l0) (c := 12) (k := 10) dX12_graft_62 xcl12 (by decide) xw_1847 rfl hf (fun x7 ex7 hf => ?_)
    refine xm_bipush dX12_graft_65 (v := 30) (by decide) ?_
    refine xb_icmp_eq 77 dX12_graft_67 (by decide) hf (fun c hf => ?_) (fun c hf => ?_)
    · exact xm_sub [1, 0] rfl (L_X12_graft_j77 p6.2 l0 p6.1 (0 : Int32) (0 : Int32) l0 hf hR)
    · refine xm_iload dX12_graft_70 rfl ?_
      refine xm_bipush dX12_graft_72 (v := 80) (by decide) ?_
      refine xb_icmp_le 81 dX12_graft_74 (by decide) hf (fun c hf => ?_) (fun c hf => ?_)
      · refine xm_iconst dX12_graft_81 (v := 0) (by decide) ?_
        exact xm_sub [1, 0] rfl (L_X12_graft_j82 p6.2 l0 p6.1 (0 : Int32) (0 : Int32) (0 : Int32) l0 hf hR)
      · exact xm_sub [1, 0] rfl (L_X12_graft_j77 p6.2 l0 p6.1 (0 : Int32) (0 : Int32) l0 hf hR)
  · refine xm_iconst dX12_graft_41 (v := 0) (by decide) ?_
    cases hf
    exact xm_iret dX12_graft_42 rfl (hR _ rfl)
def f_X12_graft_j22 (σ : xM) (l0 : Nat) (l1 : Int32) (l2 : Int32) (l3 : Int32) (s0 : Int32) (s1 : Nat) : Option (Int32 × xM) :=
  (f_X12_isName σ l2).bind (fun p2 => (if p2 = (0 : Int32) then f_X12_graft_j34 σ l0 l1 l2 l3 (1 : Int32) s0 s1 else f_X12_graft_j34 σ l0 l1 l2 l3 (0 : Int32) s0 s1))
set_option maxHeartbeats 4000000 in
set_option maxRecDepth 20000 in
theorem L_X12_graft_j22 {G : xG} {π : Nat → Nat} {d C Z : Nat} {Q : xQ} (σ : xM) (l0 : Nat) (l1 : Int32) (l2 : Int32) (l3 : Int32) (s0 : Int32) (s1 : Nat) {x : (Int32 × xM)} (hf : f_X12_graft_j22 σ l0 l1 l2 l3 s0 s1 = some x) (hR : ∀ g, x = g → Q (.inl (some (.int g.1))) (g.2) π) : xMach G π J_X12_graft (d + 2) C Z 22 [(0, .ref l0), (1, .int l1), (2, .int l2), (3, .int l3)] [.int s0, .ref s1] σ Q := by
  unfold f_X12_graft_j22 at hf
  refine xm_iload_n dX12_graft_22 rfl ?_
  obtain ⟨p2, ep2, hf⟩ := xbind hf
  refine xb_callS (As := [.int l2]) (v0 := (some (.int p2))) (τ0 := σ) dX12_graft_23 (xc_X12_isName _ _) xw_2257 xw_2258 rfl (Nat.le_of_ble_eq_true rfl) rfl (Nat.le_of_ble_eq_true rfl) (fun Q1 hq => m_X12_isName (d := d + 0) ep2 (fun g hg => by subst hg; exact hq)) ?_
  refine xb_if_ne 33 dX12_graft_26 (by decide) hf (fun c hf => ?_) (fun c hf => ?_)
  · refine xm_iconst dX12_graft_33 (v := 0) (by decide) ?_
    exact xm_sub [0, 1, 2, 3] rfl (L_X12_graft_j34 σ l0 l1 l2 l3 (0 : Int32) s0 s1 hf hR)
  · refine xm_iconst dX12_graft_29 (v := 1) (by decide) ?_
    refine xm_goto 34 dX12_graft_30 (by decide) ?_
    exact xm_sub [0, 1, 2, 3] rfl (L_X12_graft_j34 σ l0 l1 l2 l3 (1 : Int32) s0 s1 hf hR)
def f_X12_graft_j17 (σ : xM) (l0 : Nat) (l1 : Int32) (l2 : Int32) (l3 : Int32) (s0 : Nat) : Option (Int32 × xM) :=
  f_X12_graft_j22 σ l0 l1 l2 l3 (1 : Int32) s0
set_option maxHeartbeats 4000000 in
set_option maxRecDepth 20000 in
theorem L_X12_graft_j17 {G : xG} {π : Nat → Nat} {d C Z : Nat} {Q : xQ} (σ : xM) (l0 : Nat) (l1 : Int32) (l2 : Int32) (l3 : Int32) (s0 : Nat) {x : (Int32 × xM)} (hf : f_X12_graft_j17 σ l0 l1 l2 l3 s0 = some x) (hR : ∀ g, x = g → Q (.inl (some (.int g.1))) (g.2) π) : xMach G π J_X12_graft (d + 2) C Z 17 [(0, .ref l0), (1, .int l1), (2, .int l2), (3, .int l3)] [.ref s0] σ Q := by
  unfold f_X12_graft_j17 at hf
  refine xm_iconst dX12_graft_17 (v := 1) (by decide) ?_
  refine xm_goto 22 dX12_graft_18 (by decide) ?_
  exact xm_sub [0, 1, 2, 3] rfl (L_X12_graft_j22 σ l0 l1 l2 l3 (1 : Int32) s0 hf hR)
def f_X12_graft (σ : xM) (l0 : Nat) (l1 : Int32) (l2 : Int32) (l3 : Int32) : Option (Int32 × xM) :=
  (if xk σ l0 12 = true then (f_X12_isTree σ l0 l1).bind (fun p1 => (if p1 = (0 : Int32) then f_X12_graft_j17 σ l0 l1 l2 l3 l0 else (if xk σ l0 12 = true then (f_X12_isTree σ l0 l3).bind (fun p10 => (if p10 = (0 : Int32) then f_X12_graft_j17 σ l0 l1 l2 l3 l0 else f_X12_graft_j22 σ l0 l1 l2 l3 (0 : Int32) l0)) else none))) else none)
set_option maxHeartbeats 4000000 in
set_option maxRecDepth 20000 in
theorem m_X12_graft {G : xG} {π : Nat → Nat} {d C Z : Nat} {Q : xQ} {σ : xM} {l0 : Nat} {l1 : Int32} {l2 : Int32} {l3 : Int32} {x : (Int32 × xM)} (hf : f_X12_graft σ l0 l1 l2 l3 = some x) (hR : ∀ g, x = g → Q (.inl (some (.int g.1))) (g.2) π) : xMach G π J_X12_graft (d + 2) C Z 0 (lv_args 0 [.ref l0, .int l1, .int l2, .int l3]) [] σ Q := by
  unfold f_X12_graft at hf
  refine xm_stL (L' := [(0, .ref l0), (1, .int l1), (2, .int l2), (3, .int l3)]) rfl ?_
  refine xm_aload_n dX12_graft_0 rfl ?_
  refine xm_aload_n dX12_graft_1 rfl ?_
  refine xm_iload_n dX12_graft_2 rfl ?_
  refine xb_if hf (fun hb hf => ?_) (fun _ q => nomatch q)
  obtain ⟨p1, ep1, hf⟩ := xbind hf
  refine xb_callV (As := [.int l1]) (v0 := (some (.int p1))) (τ0 := σ) dX12_graft_3 (xc_X12_isTree _ _) xcl12 xw_2233 xw_2235 xs_113 hb rfl (Nat.le_of_ble_eq_true rfl) rfl (Nat.le_of_ble_eq_true rfl) (fun Q1 hq => m_X12_isTree (d := d + 0) ep1 (fun g hg => by subst hg; exact hq)) ?_
  refine xb_if_eq 17 dX12_graft_6 (by decide) hf (fun c hf => ?_) (fun c hf => ?_)
  · exact xm_sub [0, 1, 2, 3] rfl (L_X12_graft_j17 σ l0 l1 l2 l3 l0 hf hR)
  · refine xm_aload_n dX12_graft_9 rfl ?_
    refine xm_iload_n dX12_graft_10 rfl ?_
    refine xb_if hf (fun hb hf => ?_) (fun _ q => nomatch q)
    obtain ⟨p10, ep10, hf⟩ := xbind hf
    refine xb_callV (As := [.int l3]) (v0 := (some (.int p10))) (τ0 := σ) dX12_graft_11 (xc_X12_isTree _ _) xcl12 xw_2233 xw_2235 xs_113 hb rfl (Nat.le_of_ble_eq_true rfl) rfl (Nat.le_of_ble_eq_true rfl) (fun Q1 hq => m_X12_isTree (d := d + 0) ep10 (fun g hg => by subst hg; exact hq)) ?_
    refine xb_if_ne 21 dX12_graft_14 (by decide) hf (fun c hf => ?_) (fun c hf => ?_)
    · refine xm_iconst dX12_graft_21 (v := 0) (by decide) ?_
      exact xm_sub [0, 1, 2, 3] rfl (L_X12_graft_j22 σ l0 l1 l2 l3 (0 : Int32) l0 hf hR)
    · exact xm_sub [0, 1, 2, 3] rfl (L_X12_graft_j17 σ l0 l1 l2 l3 l0 hf hR)
-- RankwiseModel.isMeaning(II)Z
def f_X12_isMeaning_j67 (σ : xM) (s0 : Int32) : Option Int32 :=
  (xz s0).bind (fun b2 => some b2)
set_option maxHeartbeats 4000000 in
set_option maxRecDepth 20000 in
theorem L_X12_isMeaning_j67 {G : xG} {π : Nat → Nat} {d C Z : Nat} {Q : xQ} (σ : xM) (s0 : Int32) {x : Int32} (hf : f_X12_isMeaning_j67 σ s0 = some x) (hR : ∀ g, x = g → Q (.inl (some (.int g))) (σ) π) : xMach G π J_X12_isMeaning (d + 1) C Z 67 [] [.int s0] σ Q := by
  unfold f_X12_isMeaning_j67 at hf
  obtain ⟨b2, eb2, hf⟩ := xbind hf
  obtain ⟨rfl, hz⟩ := xz_of eb2
  cases hf
  exact xm_zret dX12_isMeaning_67 rfl hz (hR _ rfl)
def f_X12_isMeaning_j62 (σ : xM)  : Option Int32 :=
  f_X12_isMeaning_j67 σ (1 : Int32)
set_option maxHeartbeats 4000000 in
set_option maxRecDepth 20000 in
theorem L_X12_isMeaning_j62 {G : xG} {π : Nat → Nat} {d C Z : Nat} {Q : xQ} (σ : xM)  {x : Int32} (hf : f_X12_isMeaning_j62 σ = some x) (hR : ∀ g, x = g → Q (.inl (some (.int g))) (σ) π) : xMach G π J_X12_isMeaning (d + 1) C Z 62 [] [] σ Q := by
  unfold f_X12_isMeaning_j62 at hf
  refine xm_iconst dX12_isMeaning_62 (v := 1) (by decide) ?_
  refine xm_goto 67 dX12_isMeaning_63 (by decide) ?_
  exact xm_sub [] rfl (L_X12_isMeaning_j67 σ (1 : Int32) hf hR)
def f_X12_isMeaning_j66 (σ : xM)  : Option Int32 :=
  f_X12_isMeaning_j67 σ (0 : Int32)
set_option maxHeartbeats 4000000 in
set_option maxRecDepth 20000 in
theorem L_X12_isMeaning_j66 {G : xG} {π : Nat → Nat} {d C Z : Nat} {Q : xQ} (σ : xM)  {x : Int32} (hf : f_X12_isMeaning_j66 σ = some x) (hR : ∀ g, x = g → Q (.inl (some (.int g))) (σ) π) : xMach G π J_X12_isMeaning (d + 1) C Z 66 [] [] σ Q := by
  unfold f_X12_isMeaning_j66 at hf
  refine xm_iconst dX12_isMeaning_66 (v := 0) (by decide) ?_
  exact xm_sub [] rfl (L_X12_isMeaning_j67 σ (0 : Int32) hf hR)
def f_X12_isMeaning_j28 (σ : xM) (l0 : Int32) (l1 : Int32) (s0 : Int32) : Option Int32 :=
  (if s0 = (0 : Int32) then (if l0 = (2 : Int32) then (f_X12_in σ l1 (0 : Int32) (10 : Int32)).bind (fun p4 => (if p4 = (0 : Int32) then f_X12_isMeaning_j66 σ else f_X12_isMeaning_j62 σ)) else (f_X12_in σ l1 (11 : Int32) (13 : Int32)).bind (fun p3 => (if p3 = (0 : Int32) then f_X12_isMeaning_j66 σ else f_X12_isMeaning_j62 σ))) else f_X12_isMeaning_j62 σ)
set_option maxHeartbeats 4000000 in
set_option maxRecDepth 20000 in
theorem L_X12_isMeaning_j28 {G : xG} {π : Nat → Nat} {d C Z : Nat} {Q : xQ} (σ : xM) (l0 : Int32) (l1 : Int32) (s0 : Int32) {x : Int32} (hf : f_X12_isMeaning_j28 σ l0 l1 s0 = some x) (hR : ∀ g, x = g → Q (.inl (some (.int g))) (σ) π) : xMach G π J_X12_isMeaning (d + 1) C Z 28 [(0, .int l0), (1, .int l1)] [.int s0] σ Q := by
  unfold f_X12_isMeaning_j28 at hf
  refine xm_istore_n dX12_isMeaning_28 (by decide) (xm_stL (L' := [(2, .int s0), (0, .int l0), (1, .int l1)]) rfl ?_)
  refine xm_iload_n dX12_isMeaning_29 rfl ?_
  refine xb_if_ne 62 dX12_isMeaning_30 (by decide) hf (fun c hf => ?_) (fun c hf => ?_)
  · exact xm_sub [] rfl (L_X12_isMeaning_j62 σ hf hR)
  · refine xm_iload_n dX12_isMeaning_33 rfl ?_
    refine xm_iconst dX12_isMeaning_34 (v := 2) (by decide) ?_
    refine xb_icmp_ne 51 dX12_isMeaning_35 (by decide) hf (fun c hf => ?_) (fun c hf => ?_)
    · refine xm_iload_n dX12_isMeaning_51 rfl ?_
      refine xm_bipush dX12_isMeaning_52 (v := 11) (by decide) ?_
      refine xm_bipush dX12_isMeaning_54 (v := 13) (by decide) ?_
      obtain ⟨p3, ep3, hf⟩ := xbind hf
      refine xb_callS (As := [.int l1, .int (11 : Int32), .int (13 : Int32)]) (v0 := (some (.int p3))) (τ0 := σ) dX12_isMeaning_56 (xc_X12_in _ _) xw_2132 xw_2133 rfl (Nat.le_of_ble_eq_true rfl) rfl (Nat.le_of_ble_eq_true rfl) (fun Q1 hq => m_X12_in (d := d + 0) ep3 (fun g hg => by subst hg; exact hq)) ?_
      refine xb_if_eq 66 dX12_isMeaning_59 (by decide) hf (fun c hf => ?_) (fun c hf => ?_)
      · exact xm_sub [] rfl (L_X12_isMeaning_j66 σ hf hR)
      · exact xm_sub [] rfl (L_X12_isMeaning_j62 σ hf hR)
    · refine xm_iload_n dX12_isMeaning_38 rfl ?_
      refine xm_iconst dX12_isMeaning_39 (v := 0) (by decide) ?_
      refine xm_bipush dX12_isMeaning_40 (v := 10) (by decide) ?_
      obtain ⟨p4, ep4, hf⟩ := xbind hf
      refine xb_callS (As := [.int l1, .int (0 : Int32), .int (10 : Int32)]) (v0 := (some (.int p4))) (τ0 := σ) dX12_isMeaning_42 (xc_X12_in _ _) xw_2132 xw_2133 rfl (Nat.le_of_ble_eq_true rfl) rfl (Nat.le_of_ble_eq_true rfl) (fun Q1 hq => m_X12_in (d := d + 0) ep4 (fun g hg => by subst hg; exact hq)) ?_
      refine xb_if_eq 66 dX12_isMeaning_45 (by decide) hf (fun c hf => ?_) (fun c hf => ?_)
      · exact xm_sub [] rfl (L_X12_isMeaning_j66 σ hf hR)
      · refine xm_goto 62 dX12_isMeaning_48 (by decide) ?_
        exact xm_sub [] rfl (L_X12_isMeaning_j62 σ hf hR)
def f_X12_isMeaning_j27 (σ : xM) (l0 : Int32) (l1 : Int32) : Option Int32 :=
  f_X12_isMeaning_j28 σ l0 l1 (0 : Int32)
set_option maxHeartbeats 4000000 in
set_option maxRecDepth 20000 in
theorem L_X12_isMeaning_j27 {G : xG} {π : Nat → Nat} {d C Z : Nat} {Q : xQ} (σ : xM) (l0 : Int32) (l1 : Int32) {x : Int32} (hf : f_X12_isMeaning_j27 σ l0 l1 = some x) (hR : ∀ g, x = g → Q (.inl (some (.int g))) (σ) π) : xMach G π J_X12_isMeaning (d + 1) C Z 27 [(0, .int l0), (1, .int l1)] [] σ Q := by
  unfold f_X12_isMeaning_j27 at hf
  refine xm_iconst dX12_isMeaning_27 (v := 0) (by decide) ?_
  exact xm_sub [0, 1] rfl (L_X12_isMeaning_j28 σ l0 l1 (0 : Int32) hf hR)
def f_X12_isMeaning (σ : xM) (l0 : Int32) (l1 : Int32) : Option Int32 :=
  (f_X12_in σ l1 (100 : Int32) (125 : Int32)).bind (fun p1 => (if p1 = (0 : Int32) then f_X12_isMeaning_j27 σ l0 l1 else (if l1 = (108 : Int32) then f_X12_isMeaning_j27 σ l0 l1 else (if l1 = (118 : Int32) then f_X12_isMeaning_j27 σ l0 l1 else f_X12_isMeaning_j28 σ l0 l1 (1 : Int32)))))
set_option maxHeartbeats 4000000 in
set_option maxRecDepth 20000 in
theorem m_X12_isMeaning {G : xG} {π : Nat → Nat} {d C Z : Nat} {Q : xQ} {σ : xM} {l0 : Int32} {l1 : Int32} {x : Int32} (hf : f_X12_isMeaning σ l0 l1 = some x) (hR : ∀ g, x = g → Q (.inl (some (.int g))) (σ) π) : xMach G π J_X12_isMeaning (d + 1) C Z 0 (lv_args 0 [.int l0, .int l1]) [] σ Q := by
  unfold f_X12_isMeaning at hf
  refine xm_stL (L' := [(0, .int l0), (1, .int l1)]) rfl ?_
  refine xm_iload_n dX12_isMeaning_0 rfl ?_
  refine xm_bipush dX12_isMeaning_1 (v := 100) (by decide) ?_
  refine xm_bipush dX12_isMeaning_3 (v := 125) (by decide) ?_
  obtain ⟨p1, ep1, hf⟩ := xbind hf
  refine xb_callS (As := [.int l1, .int (100 : Int32), .int (125 : Int32)]) (v0 := (some (.int p1))) (τ0 := σ) dX12_isMeaning_5 (xc_X12_in _ _) xw_2132 xw_2133 rfl (Nat.le_of_ble_eq_true rfl) rfl (Nat.le_of_ble_eq_true rfl) (fun Q1 hq => m_X12_in (d := d + 0) ep1 (fun g hg => by subst hg; exact hq)) ?_
  refine xb_if_eq 27 dX12_isMeaning_8 (by decide) hf (fun c hf => ?_) (fun c hf => ?_)
  · exact xm_sub [0, 1] rfl (L_X12_isMeaning_j27 σ l0 l1 hf hR)
  · refine xm_iload_n dX12_isMeaning_11 rfl ?_
    refine xm_bipush dX12_isMeaning_12 (v := 108) (by decide) ?_
    refine xb_icmp_eq 27 dX12_isMeaning_14 (by decide) hf (fun c hf => ?_) (fun c hf => ?_)
    · exact xm_sub [0, 1] rfl (L_X12_isMeaning_j27 σ l0 l1 hf hR)
    · refine xm_iload_n dX12_isMeaning_17 rfl ?_
      refine xm_bipush dX12_isMeaning_18 (v := 118) (by decide) ?_
      refine xb_icmp_eq 27 dX12_isMeaning_20 (by decide) hf (fun c hf => ?_) (fun c hf => ?_)
      · exact xm_sub [0, 1] rfl (L_X12_isMeaning_j27 σ l0 l1 hf hR)
      · refine xm_iconst dX12_isMeaning_23 (v := 1) (by decide) ?_
        refine xm_goto 28 dX12_isMeaning_24 (by decide) ?_
        exact xm_sub [0, 1] rfl (L_X12_isMeaning_j28 σ l0 l1 (1 : Int32) hf hR)
-- RankwiseModel.isOther(III)Z
def f_X12_isOther_j59 (σ : xM) (l0 : Nat) (l1 : Int32) (l2 : Int32) (l3 : Int32) (l5 : Int32) (s0 : Int32) : Option (Int32 ⊕ ((Int32) ⊕ (Nat × Int32 × Int32 × Int32 × Int32 × Int32))) :=
  xlet (l5 + (1 : Int32)) (fun v3 => some (Sum.inr (Sum.inr (l0, l1, l2, l3, s0, v3))))
set_option maxHeartbeats 4000000 in
set_option maxRecDepth 20000 in
theorem L_X12_isOther_j59 {G : xG} {π : Nat → Nat} {d C Z : Nat} {Q : xQ} (σ : xM) (l0 : Nat) (l1 : Int32) (l2 : Int32) (l3 : Int32) (l5 : Int32) (s0 : Int32) {x : (Int32 ⊕ ((Int32) ⊕ (Nat × Int32 × Int32 × Int32 × Int32 × Int32)))} (hf : f_X12_isOther_j59 σ l0 l1 l2 l3 l5 s0 = some x) (hR : ∀ g, x = Sum.inl (g) → Q (.inl (some (.int g))) (σ) π) (hE : ∀ e : (Int32), x = Sum.inr (Sum.inl e) → xMach G π J_X12_isOther (d + 0) C Z 67 [(4, .int e)] [] σ Q) (hC : ∀ e : (Nat × Int32 × Int32 × Int32 × Int32 × Int32), x = Sum.inr (Sum.inr e) → xMach G π J_X12_isOther (d + 0) C Z 6 [(0, .ref e.1), (1, .int e.2.1), (2, .int e.2.2.1), (3, .int e.2.2.2.1), (4, .int e.2.2.2.2.1), (5, .int e.2.2.2.2.2)] [] σ Q) : xMach G π J_X12_isOther (d + 0) C Z 59 [(0, .ref l0), (1, .int l1), (2, .int l2), (3, .int l3), (5, .int l5)] [.int s0] σ Q := by
  unfold f_X12_isOther_j59 at hf
  refine xm_istore dX12_isOther_59 (by decide) (xm_stL (L' := [(4, .int s0), (0, .ref l0), (1, .int l1), (2, .int l2), (3, .int l3), (5, .int l5)]) rfl ?_)
  refine xb_iinc dX12_isOther_61 rfl (by decide) (by decide) hf (fun v3 ev3 hf => xm_stL (L' := [(5, .int v3), (4, .int s0), (0, .ref l0), (1, .int l1), (2, .int l2), (3, .int l3)]) rfl ?_)
  refine xm_goto 6 dX12_isOther_64 (by decide) ?_
  cases hf
  exact xm_sub [2, 3, 4, 5, 1, 0] rfl (hC _ rfl)
def f_X12_isOther_j54 (σ : xM) (l0 : Nat) (l1 : Int32) (l2 : Int32) (l3 : Int32) (l5 : Int32) : Option (Int32 ⊕ ((Int32) ⊕ (Nat × Int32 × Int32 × Int32 × Int32 × Int32))) :=
  f_X12_isOther_j59 σ l0 l1 l2 l3 l5 (1 : Int32)
set_option maxHeartbeats 4000000 in
set_option maxRecDepth 20000 in
theorem L_X12_isOther_j54 {G : xG} {π : Nat → Nat} {d C Z : Nat} {Q : xQ} (σ : xM) (l0 : Nat) (l1 : Int32) (l2 : Int32) (l3 : Int32) (l5 : Int32) {x : (Int32 ⊕ ((Int32) ⊕ (Nat × Int32 × Int32 × Int32 × Int32 × Int32)))} (hf : f_X12_isOther_j54 σ l0 l1 l2 l3 l5 = some x) (hR : ∀ g, x = Sum.inl (g) → Q (.inl (some (.int g))) (σ) π) (hE : ∀ e : (Int32), x = Sum.inr (Sum.inl e) → xMach G π J_X12_isOther (d + 0) C Z 67 [(4, .int e)] [] σ Q) (hC : ∀ e : (Nat × Int32 × Int32 × Int32 × Int32 × Int32), x = Sum.inr (Sum.inr e) → xMach G π J_X12_isOther (d + 0) C Z 6 [(0, .ref e.1), (1, .int e.2.1), (2, .int e.2.2.1), (3, .int e.2.2.2.1), (4, .int e.2.2.2.2.1), (5, .int e.2.2.2.2.2)] [] σ Q) : xMach G π J_X12_isOther (d + 0) C Z 54 [(0, .ref l0), (1, .int l1), (2, .int l2), (3, .int l3), (5, .int l5)] [] σ Q := by
  unfold f_X12_isOther_j54 at hf
  refine xm_iconst dX12_isOther_54 (v := 1) (by decide) ?_
  refine xm_goto 59 dX12_isOther_55 (by decide) ?_
  exact xm_sub [0, 1, 2, 3, 4] rfl (L_X12_isOther_j59 σ l0 l1 l2 l3 l5 (1 : Int32) hf hR hE hC)
def f_X12_isOther_j58 (σ : xM) (l0 : Nat) (l1 : Int32) (l2 : Int32) (l3 : Int32) (l5 : Int32) : Option (Int32 ⊕ ((Int32) ⊕ (Nat × Int32 × Int32 × Int32 × Int32 × Int32))) :=
  f_X12_isOther_j59 σ l0 l1 l2 l3 l5 (0 : Int32)
set_option maxHeartbeats 4000000 in
set_option maxRecDepth 20000 in
theorem L_X12_isOther_j58 {G : xG} {π : Nat → Nat} {d C Z : Nat} {Q : xQ} (σ : xM) (l0 : Nat) (l1 : Int32) (l2 : Int32) (l3 : Int32) (l5 : Int32) {x : (Int32 ⊕ ((Int32) ⊕ (Nat × Int32 × Int32 × Int32 × Int32 × Int32)))} (hf : f_X12_isOther_j58 σ l0 l1 l2 l3 l5 = some x) (hR : ∀ g, x = Sum.inl (g) → Q (.inl (some (.int g))) (σ) π) (hE : ∀ e : (Int32), x = Sum.inr (Sum.inl e) → xMach G π J_X12_isOther (d + 0) C Z 67 [(4, .int e)] [] σ Q) (hC : ∀ e : (Nat × Int32 × Int32 × Int32 × Int32 × Int32), x = Sum.inr (Sum.inr e) → xMach G π J_X12_isOther (d + 0) C Z 6 [(0, .ref e.1), (1, .int e.2.1), (2, .int e.2.2.1), (3, .int e.2.2.2.1), (4, .int e.2.2.2.2.1), (5, .int e.2.2.2.2.2)] [] σ Q) : xMach G π J_X12_isOther (d + 0) C Z 58 [(0, .ref l0), (1, .int l1), (2, .int l2), (3, .int l3), (5, .int l5)] [] σ Q := by
  unfold f_X12_isOther_j58 at hf
  refine xm_iconst dX12_isOther_58 (v := 0) (by decide) ?_
  exact xm_sub [0, 1, 2, 3, 4] rfl (L_X12_isOther_j59 σ l0 l1 l2 l3 l5 (0 : Int32) hf hR hE hC)
def f_X12_isOther_s6 (σ : xM) (s : (Nat × Int32 × Int32 × Int32 × Int32 × Int32)) : Option (Int32 ⊕ ((Int32) ⊕ (Nat × Int32 × Int32 × Int32 × Int32 × Int32))) :=
  xlet s.1 (fun l0 => xlet s.2.1 (fun l1 => xlet s.2.2.1 (fun l2 => xlet s.2.2.2.1 (fun l3 => xlet s.2.2.2.2.1 (fun l4 => xlet s.2.2.2.2.2 (fun l5 => (if (16 : Int32) ≤ l5 then some (Sum.inr (Sum.inl l4)) else (if l4 = (0 : Int32) then (if l5 = l1 then f_X12_isOther_j58 σ l0 l1 l2 l3 l5 else (gR σ l0 12 15).bind (fun x4 => (aI σ x4 14 (((3 : Int32) * l5) + (2 : Int32))).bind (fun x5 => (if x5 = l2 then (gR σ l0 12 16).bind (fun x6 => (aI σ x6 14 (((3 : Int32) * l5) + (2 : Int32))).bind (fun x7 => (if x7 = l3 then f_X12_isOther_j58 σ l0 l1 l2 l3 l5 else f_X12_isOther_j54 σ l0 l1 l2 l3 l5))) else f_X12_isOther_j58 σ l0 l1 l2 l3 l5)))) else f_X12_isOther_j54 σ l0 l1 l2 l3 l5))))))))
set_option maxHeartbeats 4000000 in
set_option maxRecDepth 20000 in
theorem L_X12_isOther_s6 {G : xG} {π : Nat → Nat} {d C Z : Nat} {Q : xQ} (σ : xM) (l0 : Nat) (l1 : Int32) (l2 : Int32) (l3 : Int32) (l4 : Int32) (l5 : Int32) {x : (Int32 ⊕ ((Int32) ⊕ (Nat × Int32 × Int32 × Int32 × Int32 × Int32)))} (hf : f_X12_isOther_s6 σ (l0, l1, l2, l3, l4, l5) = some x) (hR : ∀ g, x = Sum.inl (g) → Q (.inl (some (.int g))) (σ) π) (hE : ∀ e : (Int32), x = Sum.inr (Sum.inl e) → xMach G π J_X12_isOther (d + 0) C Z 67 [(4, .int e)] [] σ Q) (hC : ∀ e : (Nat × Int32 × Int32 × Int32 × Int32 × Int32), x = Sum.inr (Sum.inr e) → xMach G π J_X12_isOther (d + 0) C Z 6 [(0, .ref e.1), (1, .int e.2.1), (2, .int e.2.2.1), (3, .int e.2.2.2.1), (4, .int e.2.2.2.2.1), (5, .int e.2.2.2.2.2)] [] σ Q) : xMach G π J_X12_isOther (d + 0) C Z 6 [(0, .ref l0), (1, .int l1), (2, .int l2), (3, .int l3), (4, .int l4), (5, .int l5)] [] σ Q := by
  have hf : (if (16 : Int32) ≤ l5 then some (Sum.inr (Sum.inl l4)) else (if l4 = (0 : Int32) then (if l5 = l1 then f_X12_isOther_j58 σ l0 l1 l2 l3 l5 else (gR σ l0 12 15).bind (fun x4 => (aI σ x4 14 (((3 : Int32) * l5) + (2 : Int32))).bind (fun x5 => (if x5 = l2 then (gR σ l0 12 16).bind (fun x6 => (aI σ x6 14 (((3 : Int32) * l5) + (2 : Int32))).bind (fun x7 => (if x7 = l3 then f_X12_isOther_j58 σ l0 l1 l2 l3 l5 else f_X12_isOther_j54 σ l0 l1 l2 l3 l5))) else f_X12_isOther_j58 σ l0 l1 l2 l3 l5)))) else f_X12_isOther_j54 σ l0 l1 l2 l3 l5)) = some x := hf
  refine xm_iload dX12_isOther_6 rfl ?_
  refine xm_bipush dX12_isOther_8 (v := 16) (by decide) ?_
  refine xb_icmp_ge 67 dX12_isOther_10 (by decide) hf (fun c hf => ?_) (fun c hf => ?_)
  · cases hf
    exact xm_sub [4] rfl (hE _ rfl)
  · refine xm_iload dX12_isOther_13 rfl ?_
    refine xb_if_ne 54 dX12_isOther_15 (by decide) hf (fun c hf => ?_) (fun c hf => ?_)
    · exact xm_sub [0, 1, 2, 3, 5] rfl (L_X12_isOther_j54 σ l0 l1 l2 l3 l5 hf hR hE hC)
    · refine xm_iload dX12_isOther_18 rfl ?_
      refine xm_iload_n dX12_isOther_20 rfl ?_
      refine xb_icmp_eq 58 dX12_isOther_21 (by decide) hf (fun c hf => ?_) (fun c hf => ?_)
      · exact xm_sub [0, 1, 2, 3, 5] rfl (L_X12_isOther_j58 σ l0 l1 l2 l3 l5 hf hR hE hC)
      · refine xm_aload_n dX12_isOther_24 rfl ?_
        refine xb_getR (a := l0) (c := 12) (k := 15) dX12_isOther_25 xcl12 (by decide) xw_1852 rfl hf (fun x4 ex4 hf => ?_)
        refine xm_iconst dX12_isOther_28 (v := 3) (by decide) ?_
        refine xm_iload dX12_isOther_29 rfl ?_
        refine xm_imul dX12_isOther_31 ?_
        refine xm_iconst dX12_isOther_32 (v := 2) (by decide) ?_
        refine xm_iadd dX12_isOther_33 ?_
        refine xb_iald dX12_isOther_34 hf (fun x5 ex5 hf => ?_)
        refine xm_iload_n dX12_isOther_35 rfl ?_
        refine xb_icmp_ne 58 dX12_isOther_36 (by decide) hf (fun c hf => ?_) (fun c hf => ?_)
        · exact xm_sub [0, 1, 2, 3, 5] rfl (L_X12_isOther_j58 σ l0 l1 l2 l3 l5 hf hR hE hC)
        · refine xm_aload_n dX12_isOther_39 rfl ?_
          refine xb_getR (a := l0) (c := 12) (k := 16) dX12_isOther_40 xcl12 (by decide) xw_1853 rfl hf (fun x6 ex6 hf => ?_)
          refine xm_iconst dX12_isOther_43 (v := 3) (by decide) ?_
          refine xm_iload dX12_isOther_44 rfl ?_
          refine xm_imul dX12_isOther_46 ?_
          refine xm_iconst dX12_isOther_47 (v := 2) (by decide) ?_
          refine xm_iadd dX12_isOther_48 ?_
          refine xb_iald dX12_isOther_49 hf (fun x7 ex7 hf => ?_)
          refine xm_iload_n dX12_isOther_50 rfl ?_
          refine xb_icmp_eq 58 dX12_isOther_51 (by decide) hf (fun c hf => ?_) (fun c hf => ?_)
          · exact xm_sub [0, 1, 2, 3, 5] rfl (L_X12_isOther_j58 σ l0 l1 l2 l3 l5 hf hR hE hC)
          · exact xm_sub [0, 1, 2, 3, 5] rfl (L_X12_isOther_j54 σ l0 l1 l2 l3 l5 hf hR hE hC)
theorem L_X12_isOther_l6 {G : xG} {π : Nat → Nat} {d C Z : Nat} {Q : xQ} (σ : xM) {s0 : (Nat × Int32 × Int32 × Int32 × Int32 × Int32)} {x : (Int32 ⊕ (Int32))} (h1 : xloop (f_X12_isOther_s6 σ) xF s0 = some x) (hR : ∀ g, x = Sum.inl g → Q (.inl (some (.int g))) (σ) π) (hE : ∀ e : (Int32), x = Sum.inr e → xMach G π J_X12_isOther (d + 0) C Z 67 [(4, .int e)] [] σ Q) : xMach G π J_X12_isOther (d + 0) C Z 6 [(0, .ref s0.1), (1, .int s0.2.1), (2, .int s0.2.2.1), (3, .int s0.2.2.2.1), (4, .int s0.2.2.2.2.1), (5, .int s0.2.2.2.2.2)] [] σ Q := by
  refine xloop_run (M := (fun s : (Nat × Int32 × Int32 × Int32 × Int32 × Int32) => xMach G π J_X12_isOther (d + 0) C Z 6 [(0, .ref s.1), (1, .int s.2.1), (2, .int s.2.2.1), (3, .int s.2.2.2.1), (4, .int s.2.2.2.2.1), (5, .int s.2.2.2.2.2)] [] σ Q)) (r := x) ?_ xF _ h1
  intro s y hs hx
  exact L_X12_isOther_s6 σ s.1 s.2.1 s.2.2.1 s.2.2.2.1 s.2.2.2.2.1 s.2.2.2.2.2 (x := y) hs (fun g hg => by subst hg; exact hR g hx) (fun e he => by subst he; exact hE e hx) (fun e he => by subst he; exact hx)
def f_X12_isOther_j67 (σ : xM) (l4 : Int32) : Option Int32 :=
  (xz l4).bind (fun b8 => some b8)
set_option maxHeartbeats 4000000 in
set_option maxRecDepth 20000 in
theorem L_X12_isOther_j67 {G : xG} {π : Nat → Nat} {d C Z : Nat} {Q : xQ} (σ : xM) (l4 : Int32) {x : Int32} (hf : f_X12_isOther_j67 σ l4 = some x) (hR : ∀ g, x = g → Q (.inl (some (.int g))) (σ) π) : xMach G π J_X12_isOther (d + 0) C Z 67 [(4, .int l4)] [] σ Q := by
  unfold f_X12_isOther_j67 at hf
  refine xm_iload dX12_isOther_67 rfl ?_
  obtain ⟨b8, eb8, hf⟩ := xbind hf
  obtain ⟨rfl, hz⟩ := xz_of eb8
  cases hf
  exact xm_zret dX12_isOther_69 rfl hz (hR _ rfl)
def f_X12_isOther (σ : xM) (l0 : Nat) (l1 : Int32) (l2 : Int32) (l3 : Int32) : Option Int32 :=
  xlet (0 : Int32) (fun v1 => xlet (0 : Int32) (fun v2 => (xloop (f_X12_isOther_s6 σ ) xF (l0, l1, l2, l3, v1, v2)).bind (Sum.elim (fun g => some g) (fun e => f_X12_isOther_j67 σ e))))
set_option maxHeartbeats 4000000 in
set_option maxRecDepth 20000 in
theorem m_X12_isOther {G : xG} {π : Nat → Nat} {d C Z : Nat} {Q : xQ} {σ : xM} {l0 : Nat} {l1 : Int32} {l2 : Int32} {l3 : Int32} {x : Int32} (hf : f_X12_isOther σ l0 l1 l2 l3 = some x) (hR : ∀ g, x = g → Q (.inl (some (.int g))) (σ) π) : xMach G π J_X12_isOther (d + 0) C Z 0 (lv_args 0 [.ref l0, .int l1, .int l2, .int l3]) [] σ Q := by
  unfold f_X12_isOther at hf
  refine xm_stL (L' := [(0, .ref l0), (1, .int l1), (2, .int l2), (3, .int l3)]) rfl ?_
  refine xm_iconst dX12_isOther_0 (v := 0) (by decide) ?_
  refine xb_topi hf (fun v1 ev1 hf => ?_)
  refine xm_istore dX12_isOther_1 (by decide) (xm_stL (L' := [(4, .int v1), (0, .ref l0), (1, .int l1), (2, .int l2), (3, .int l3)]) rfl ?_)
  refine xm_iconst dX12_isOther_3 (v := 0) (by decide) ?_
  refine xb_topi hf (fun v2 ev2 hf => ?_)
  refine xm_istore dX12_isOther_4 (by decide) (xm_stL (L' := [(5, .int v2), (4, .int v1), (0, .ref l0), (1, .int l1), (2, .int l2), (3, .int l3)]) rfl ?_)
  obtain ⟨o, h1, hf⟩ := xbind hf
  refine xm_sub [2, 3, 4, 5, 1, 0] rfl (L_X12_isOther_l6 σ h1 (fun g hg => ?_) (fun e he => ?_))
  · subst hg
    cases hf
    exact hR _ rfl
  · subst he
    rw [Sum.elim_inr] at hf
    have hf : f_X12_isOther_j67 σ e = some _ := hf
    exact xm_sub [0] rfl (L_X12_isOther_j67 σ e hf hR)
-- RankwiseModel.tell(CIIII)I
def f_X12_tell_j133 (σ : xM) (l0 : Nat) (l2 : Int32) (l3 : Int32) (l4 : Int32) (l5 : Int32) (l6 : Int32) (l8 : Int32) (s0 : Int32) (s1 : Nat) : Option (Int32 × xM) :=
  (if xk σ s1 12 = true then (f_X12_refused σ s1 s0 l8 (0 : Int32)).bind (fun p2 => (if p2.1 = (0 : Int32) then xlet (((3 : Int32) * l6) + l2) (fun v3 => (gR p2.2 l0 12 15).bind (fun x4 => (aI p2.2 x4 14 v3).bind (fun x5 => (gR p2.2 l0 12 15).bind (fun x6 => (aI p2.2 x6 14 v3).bind (fun x7 => (gR p2.2 l0 12 16).bind (fun x8 => (aI p2.2 x8 14 v3).bind (fun x9 => (gR p2.2 l0 12 17).bind (fun x10 => (aI p2.2 x10 14 v3).bind (fun x11 => (if xk p2.2 l0 12 = true then (f_X12_note p2.2 l0 (1 : Int32) v3 x7 x9 x11).bind (fun p12 => (gR p12.2 l0 12 15).bind (fun x13 => (wI p12.2 x13 v3 l3).bind (fun σ14 => (gR σ14 l0 12 16).bind (fun x15 => (wI σ14 x15 v3 l4).bind (fun σ16 => (gR σ16 l0 12 17).bind (fun x17 => (wI σ16 x17 v3 l5).bind (fun σ18 => some (x5, σ18)))))))) else none)))))))))) else some ((0 : Int32), p2.2))) else none)
set_option maxHeartbeats 4000000 in
set_option maxRecDepth 20000 in
theorem L_X12_tell_j133 {G : xG} {π : Nat → Nat} {d C Z : Nat} {Q : xQ} (σ : xM) (l0 : Nat) (l2 : Int32) (l3 : Int32) (l4 : Int32) (l5 : Int32) (l6 : Int32) (l8 : Int32) (s0 : Int32) (s1 : Nat) {x : (Int32 × xM)} (hf : f_X12_tell_j133 σ l0 l2 l3 l4 l5 l6 l8 s0 s1 = some x) (hR : ∀ g, x = g → Q (.inl (some (.int g.1))) (g.2) π) : xMach G π J_X12_tell (d + 2) C Z 133 [(0, .ref l0), (2, .int l2), (3, .int l3), (4, .int l4), (5, .int l5), (6, .int l6), (8, .int l8)] [.int s0, .ref s1] σ Q := by
  unfold f_X12_tell_j133 at hf
  refine xm_iload dX12_tell_133 rfl ?_
  refine xm_iconst dX12_tell_135 (v := 0) (by decide) ?_
  refine xb_if hf (fun hb hf => ?_) (fun _ q => nomatch q)
  obtain ⟨p2, ep2, hf⟩ := xbind hf
  refine xb_callV (As := [.int s0, .int l8, .int (0 : Int32)]) (v0 := (some (.int p2.1))) (τ0 := p2.2) dX12_tell_136 (xc_X12_refused _ _) xcl12 xw_2112 xw_2114 xs_90 hb rfl (Nat.le_of_ble_eq_true rfl) rfl (Nat.le_of_ble_eq_true rfl) (fun Q1 hq => m_X12_refused (d := d + 1) ep2 (fun g hg => by subst hg; exact hq)) ?_
  refine xb_if_eq 144 dX12_tell_139 (by decide) hf (fun c hf => ?_) (fun c hf => ?_)
  · refine xm_iconst dX12_tell_144 (v := 3) (by decide) ?_
    refine xm_iload dX12_tell_145 rfl ?_
    refine xm_imul dX12_tell_147 ?_
    refine xm_iload_n dX12_tell_148 rfl ?_
    refine xm_iadd dX12_tell_149 ?_
    refine xb_topi hf (fun v3 ev3 hf => ?_)
    refine xm_istore dX12_tell_150 (by decide) (xm_stL (L' := [(9, .int v3), (0, .ref l0), (2, .int l2), (3, .int l3), (4, .int l4), (5, .int l5), (6, .int l6), (8, .int l8)]) rfl ?_)
    refine xm_aload_n dX12_tell_152 rfl ?_
    refine xb_getR (a := l0) (c := 12) (k := 15) dX12_tell_153 xcl12 (by decide) xw_1852 rfl hf (fun x4 ex4 hf => ?_)
    refine xm_iload dX12_tell_156 rfl ?_
    refine xb_iald dX12_tell_158 hf (fun x5 ex5 hf => ?_)
    refine xm_istore dX12_tell_159 (by decide) (xm_stL (L' := [(10, .int x5), (9, .int v3), (0, .ref l0), (2, .int l2), (3, .int l3), (4, .int l4), (5, .int l5), (6, .int l6), (8, .int l8)]) rfl ?_)
    refine xm_aload_n dX12_tell_161 rfl ?_
    refine xm_iconst dX12_tell_162 (v := 1) (by decide) ?_
    refine xm_iload dX12_tell_163 rfl ?_
    refine xm_aload_n dX12_tell_165 rfl ?_
    refine xb_getR (a := l0) (c := 12) (k := 15) dX12_tell_166 xcl12 (by decide) xw_1852 rfl hf (fun x6 ex6 hf => ?_)
    refine xm_iload dX12_tell_169 rfl ?_
    refine xb_iald dX12_tell_171 hf (fun x7 ex7 hf => ?_)
    refine xm_aload_n dX12_tell_172 rfl ?_
    refine xb_getR (a := l0) (c := 12) (k := 16) dX12_tell_173 xcl12 (by decide) xw_1853 rfl hf (fun x8 ex8 hf => ?_)
    refine xm_iload dX12_tell_176 rfl ?_
    refine xb_iald dX12_tell_178 hf (fun x9 ex9 hf => ?_)
    refine xm_aload_n dX12_tell_179 rfl ?_
    refine xb_getR (a := l0) (c := 12) (k := 17) dX12_tell_180 xcl12 (by decide) xw_1854 rfl hf (fun x10 ex10 hf => ?_)
    refine xm_iload dX12_tell_183 rfl ?_
    refine xb_iald dX12_tell_185 hf (fun x11 ex11 hf => ?_)
    refine xb_if hf (fun hb hf => ?_) (fun _ q => nomatch q)
    obtain ⟨p12, ep12, hf⟩ := xbind hf
    refine xb_callV (As := [.int (1 : Int32), .int v3, .int x7, .int x9, .int x11]) (v0 := (some (.int p12.1))) (τ0 := p12.2) dX12_tell_186 (xc_X12_note _ _) xcl12 xw_2217 xw_2219 xs_111 hb rfl (Nat.le_of_ble_eq_true rfl) rfl (Nat.le_of_ble_eq_true rfl) (fun Q1 hq => m_X12_note (d := d + 1) ep12 (fun g hg => by subst hg; exact hq)) ?_
    refine xm_pop dX12_tell_189 rfl ?_
    refine xm_aload_n dX12_tell_190 rfl ?_
    refine xb_getR (a := l0) (c := 12) (k := 15) dX12_tell_191 xcl12 (by decide) xw_1852 rfl hf (fun x13 ex13 hf => ?_)
    refine xm_iload dX12_tell_194 rfl ?_
    refine xm_iload_n dX12_tell_196 rfl ?_
    refine xb_iast dX12_tell_197 hf (fun σ14 eσ14 hf => ?_)
    refine xm_aload_n dX12_tell_198 rfl ?_
    refine xb_getR (a := l0) (c := 12) (k := 16) dX12_tell_199 xcl12 (by decide) xw_1853 rfl hf (fun x15 ex15 hf => ?_)
    refine xm_iload dX12_tell_202 rfl ?_
    refine xm_iload dX12_tell_204 rfl ?_
    refine xb_iast dX12_tell_206 hf (fun σ16 eσ16 hf => ?_)
    refine xm_aload_n dX12_tell_207 rfl ?_
    refine xb_getR (a := l0) (c := 12) (k := 17) dX12_tell_208 xcl12 (by decide) xw_1854 rfl hf (fun x17 ex17 hf => ?_)
    refine xm_iload dX12_tell_211 rfl ?_
    refine xm_iload dX12_tell_213 rfl ?_
    refine xb_iast dX12_tell_215 hf (fun σ18 eσ18 hf => ?_)
    refine xm_iload dX12_tell_216 rfl ?_
    cases hf
    exact xm_iret dX12_tell_218 rfl (hR _ rfl)
  · refine xm_iconst dX12_tell_142 (v := 0) (by decide) ?_
    cases hf
    exact xm_iret dX12_tell_143 rfl (hR _ rfl)
def f_X12_tell_j120 (σ : xM) (l0 : Nat) (l2 : Int32) (l3 : Int32) (l4 : Int32) (l5 : Int32) (l6 : Int32) (l7 : Int32) (s0 : Int32) : Option (Int32 × xM) :=
  (if l7 = (0 : Int32) then f_X12_tell_j133 σ l0 l2 l3 l4 l5 l6 s0 (1 : Int32) l0 else f_X12_tell_j133 σ l0 l2 l3 l4 l5 l6 s0 (0 : Int32) l0)
set_option maxHeartbeats 4000000 in
set_option maxRecDepth 20000 in
theorem L_X12_tell_j120 {G : xG} {π : Nat → Nat} {d C Z : Nat} {Q : xQ} (σ : xM) (l0 : Nat) (l2 : Int32) (l3 : Int32) (l4 : Int32) (l5 : Int32) (l6 : Int32) (l7 : Int32) (s0 : Int32) {x : (Int32 × xM)} (hf : f_X12_tell_j120 σ l0 l2 l3 l4 l5 l6 l7 s0 = some x) (hR : ∀ g, x = g → Q (.inl (some (.int g.1))) (g.2) π) : xMach G π J_X12_tell (d + 2) C Z 120 [(0, .ref l0), (2, .int l2), (3, .int l3), (4, .int l4), (5, .int l5), (6, .int l6), (7, .int l7)] [.int s0] σ Q := by
  unfold f_X12_tell_j120 at hf
  refine xm_istore dX12_tell_120 (by decide) (xm_stL (L' := [(8, .int s0), (0, .ref l0), (2, .int l2), (3, .int l3), (4, .int l4), (5, .int l5), (6, .int l6), (7, .int l7)]) rfl ?_)
  refine xm_aload_n dX12_tell_122 rfl ?_
  refine xm_iload dX12_tell_123 rfl ?_
  refine xb_if_ne 132 dX12_tell_125 (by decide) hf (fun c hf => ?_) (fun c hf => ?_)
  · refine xm_iconst dX12_tell_132 (v := 0) (by decide) ?_
    exact xm_sub [1, 2, 3, 4, 5, 6, 0] rfl (L_X12_tell_j133 σ l0 l2 l3 l4 l5 l6 s0 (0 : Int32) l0 hf hR)
  · refine xm_iconst dX12_tell_128 (v := 1) (by decide) ?_
    refine xm_goto 133 dX12_tell_129 (by decide) ?_
    exact xm_sub [1, 2, 3, 4, 5, 6, 0] rfl (L_X12_tell_j133 σ l0 l2 l3 l4 l5 l6 s0 (1 : Int32) l0 hf hR)
def f_X12_tell_j119 (σ : xM) (l0 : Nat) (l2 : Int32) (l3 : Int32) (l4 : Int32) (l5 : Int32) (l6 : Int32) (l7 : Int32) : Option (Int32 × xM) :=
  f_X12_tell_j120 σ l0 l2 l3 l4 l5 l6 l7 (0 : Int32)
set_option maxHeartbeats 4000000 in
set_option maxRecDepth 20000 in
theorem L_X12_tell_j119 {G : xG} {π : Nat → Nat} {d C Z : Nat} {Q : xQ} (σ : xM) (l0 : Nat) (l2 : Int32) (l3 : Int32) (l4 : Int32) (l5 : Int32) (l6 : Int32) (l7 : Int32) {x : (Int32 × xM)} (hf : f_X12_tell_j119 σ l0 l2 l3 l4 l5 l6 l7 = some x) (hR : ∀ g, x = g → Q (.inl (some (.int g.1))) (g.2) π) : xMach G π J_X12_tell (d + 2) C Z 119 [(0, .ref l0), (2, .int l2), (3, .int l3), (4, .int l4), (5, .int l5), (6, .int l6), (7, .int l7)] [] σ Q := by
  unfold f_X12_tell_j119 at hf
  refine xm_iconst dX12_tell_119 (v := 0) (by decide) ?_
  exact xm_sub [0, 1, 2, 3, 4, 5, 6] rfl (L_X12_tell_j120 σ l0 l2 l3 l4 l5 l6 l7 (0 : Int32) hf hR)
def f_X12_tell_j115 (σ : xM) (l0 : Nat) (l2 : Int32) (l3 : Int32) (l4 : Int32) (l5 : Int32) (l6 : Int32) (l7 : Int32) : Option (Int32 × xM) :=
  f_X12_tell_j120 σ l0 l2 l3 l4 l5 l6 l7 (1 : Int32)
set_option maxHeartbeats 4000000 in
set_option maxRecDepth 20000 in
theorem L_X12_tell_j115 {G : xG} {π : Nat → Nat} {d C Z : Nat} {Q : xQ} (σ : xM) (l0 : Nat) (l2 : Int32) (l3 : Int32) (l4 : Int32) (l5 : Int32) (l6 : Int32) (l7 : Int32) {x : (Int32 × xM)} (hf : f_X12_tell_j115 σ l0 l2 l3 l4 l5 l6 l7 = some x) (hR : ∀ g, x = g → Q (.inl (some (.int g.1))) (g.2) π) : xMach G π J_X12_tell (d + 2) C Z 115 [(0, .ref l0), (2, .int l2), (3, .int l3), (4, .int l4), (5, .int l5), (6, .int l6), (7, .int l7)] [] σ Q := by
  unfold f_X12_tell_j115 at hf
  refine xm_iconst dX12_tell_115 (v := 1) (by decide) ?_
  refine xm_goto 120 dX12_tell_116 (by decide) ?_
  exact xm_sub [0, 1, 2, 3, 4, 5, 6] rfl (L_X12_tell_j120 σ l0 l2 l3 l4 l5 l6 l7 (1 : Int32) hf hR)
def f_X12_tell_j93 (σ : xM) (l0 : Nat) (l2 : Int32) (l3 : Int32) (l4 : Int32) (l5 : Int32) (l6 : Int32) (l7 : Int32) (s0 : Int32) (s1 : Int32) (s2 : Nat) : Option (Int32 × xM) :=
  (aI σ s2 14 (s1 + s0)).bind (fun x20 => (if (0 : Int32) < x20 then f_X12_tell_j115 σ l0 l2 l3 l4 l5 l6 l7 else (if l2 = (2 : Int32) then (if xk σ l0 12 = true then (f_X12_isOther σ l0 l6 l3 l4).bind (fun p21 => (if p21 = (0 : Int32) then f_X12_tell_j119 σ l0 l2 l3 l4 l5 l6 l7 else f_X12_tell_j115 σ l0 l2 l3 l4 l5 l6 l7)) else none) else f_X12_tell_j119 σ l0 l2 l3 l4 l5 l6 l7)))
set_option maxHeartbeats 4000000 in
set_option maxRecDepth 20000 in
theorem L_X12_tell_j93 {G : xG} {π : Nat → Nat} {d C Z : Nat} {Q : xQ} (σ : xM) (l0 : Nat) (l2 : Int32) (l3 : Int32) (l4 : Int32) (l5 : Int32) (l6 : Int32) (l7 : Int32) (s0 : Int32) (s1 : Int32) (s2 : Nat) {x : (Int32 × xM)} (hf : f_X12_tell_j93 σ l0 l2 l3 l4 l5 l6 l7 s0 s1 s2 = some x) (hR : ∀ g, x = g → Q (.inl (some (.int g.1))) (g.2) π) : xMach G π J_X12_tell (d + 2) C Z 93 [(0, .ref l0), (2, .int l2), (3, .int l3), (4, .int l4), (5, .int l5), (6, .int l6), (7, .int l7)] [.int s0, .int s1, .ref s2] σ Q := by
  unfold f_X12_tell_j93 at hf
  refine xm_iadd dX12_tell_93 ?_
  refine xb_iald dX12_tell_94 hf (fun x20 ex20 hf => ?_)
  refine xb_if_gt 115 dX12_tell_95 (by decide) hf (fun c hf => ?_) (fun c hf => ?_)
  · exact xm_sub [0, 1, 2, 3, 4, 5, 6] rfl (L_X12_tell_j115 σ l0 l2 l3 l4 l5 l6 l7 hf hR)
  · refine xm_iload_n dX12_tell_98 rfl ?_
    refine xm_iconst dX12_tell_99 (v := 2) (by decide) ?_
    refine xb_icmp_ne 119 dX12_tell_100 (by decide) hf (fun c hf => ?_) (fun c hf => ?_)
    · exact xm_sub [0, 1, 2, 3, 4, 5, 6] rfl (L_X12_tell_j119 σ l0 l2 l3 l4 l5 l6 l7 hf hR)
    · refine xm_aload_n dX12_tell_103 rfl ?_
      refine xm_iload dX12_tell_104 rfl ?_
      refine xm_iload_n dX12_tell_106 rfl ?_
      refine xm_iload dX12_tell_107 rfl ?_
      refine xb_if hf (fun hb hf => ?_) (fun _ q => nomatch q)
      obtain ⟨p21, ep21, hf⟩ := xbind hf
      refine xb_callV (As := [.int l6, .int l3, .int l4]) (v0 := (some (.int p21))) (τ0 := σ) dX12_tell_109 (xc_X12_isOther _ _) xcl12 xw_2275 xw_2277 xs_118 hb rfl (Nat.le_of_ble_eq_true rfl) rfl (Nat.le_of_ble_eq_true rfl) (fun Q1 hq => m_X12_isOther (d := d + 1) ep21 (fun g hg => by subst hg; exact hq)) ?_
      refine xb_if_eq 119 dX12_tell_112 (by decide) hf (fun c hf => ?_) (fun c hf => ?_)
      · exact xm_sub [0, 1, 2, 3, 4, 5, 6] rfl (L_X12_tell_j119 σ l0 l2 l3 l4 l5 l6 l7 hf hR)
      · exact xm_sub [0, 1, 2, 3, 4, 5, 6] rfl (L_X12_tell_j115 σ l0 l2 l3 l4 l5 l6 l7 hf hR)
def f_X12_tell_j64 (σ : xM) (l0 : Nat) (l2 : Int32) (l3 : Int32) (l4 : Int32) (l5 : Int32) (l6 : Int32) (s0 : Int32) : Option (Int32 × xM) :=
  (if s0 = (0 : Int32) then f_X12_tell_j119 σ l0 l2 l3 l4 l5 l6 s0 else (if l2 = (0 : Int32) then f_X12_tell_j119 σ l0 l2 l3 l4 l5 l6 s0 else (gR σ l0 12 15).bind (fun x19 => (if l2 = (2 : Int32) then f_X12_tell_j93 σ l0 l2 l3 l4 l5 l6 s0 (1 : Int32) ((3 : Int32) * l6) x19 else f_X12_tell_j93 σ l0 l2 l3 l4 l5 l6 s0 (2 : Int32) ((3 : Int32) * l6) x19))))
set_option maxHeartbeats 4000000 in
set_option maxRecDepth 20000 in
theorem L_X12_tell_j64 {G : xG} {π : Nat → Nat} {d C Z : Nat} {Q : xQ} (σ : xM) (l0 : Nat) (l2 : Int32) (l3 : Int32) (l4 : Int32) (l5 : Int32) (l6 : Int32) (s0 : Int32) {x : (Int32 × xM)} (hf : f_X12_tell_j64 σ l0 l2 l3 l4 l5 l6 s0 = some x) (hR : ∀ g, x = g → Q (.inl (some (.int g.1))) (g.2) π) : xMach G π J_X12_tell (d + 2) C Z 64 [(0, .ref l0), (2, .int l2), (3, .int l3), (4, .int l4), (5, .int l5), (6, .int l6)] [.int s0] σ Q := by
  unfold f_X12_tell_j64 at hf
  refine xm_istore dX12_tell_64 (by decide) (xm_stL (L' := [(7, .int s0), (0, .ref l0), (2, .int l2), (3, .int l3), (4, .int l4), (5, .int l5), (6, .int l6)]) rfl ?_)
  refine xm_iload dX12_tell_66 rfl ?_
  refine xb_if_eq 119 dX12_tell_68 (by decide) hf (fun c hf => ?_) (fun c hf => ?_)
  · exact xm_sub [1, 2, 3, 4, 5, 6, 0] rfl (L_X12_tell_j119 σ l0 l2 l3 l4 l5 l6 s0 hf hR)
  · refine xm_iload_n dX12_tell_71 rfl ?_
    refine xb_if_eq 119 dX12_tell_72 (by decide) hf (fun c hf => ?_) (fun c hf => ?_)
    · exact xm_sub [1, 2, 3, 4, 5, 6, 0] rfl (L_X12_tell_j119 σ l0 l2 l3 l4 l5 l6 s0 hf hR)
    · refine xm_aload_n dX12_tell_75 rfl ?_
      refine xb_getR (a := l0) (c := 12) (k := 15) dX12_tell_76 xcl12 (by decide) xw_1852 rfl hf (fun x19 ex19 hf => ?_)
      refine xm_iconst dX12_tell_79 (v := 3) (by decide) ?_
      refine xm_iload dX12_tell_80 rfl ?_
      refine xm_imul dX12_tell_82 ?_
      refine xm_iload_n dX12_tell_83 rfl ?_
      refine xm_iconst dX12_tell_84 (v := 2) (by decide) ?_
      refine xb_icmp_ne 92 dX12_tell_85 (by decide) hf (fun c hf => ?_) (fun c hf => ?_)
      · refine xm_iconst dX12_tell_92 (v := 2) (by decide) ?_
        exact xm_sub [1, 2, 3, 4, 5, 6, 0] rfl (L_X12_tell_j93 σ l0 l2 l3 l4 l5 l6 s0 (2 : Int32) ((3 : Int32) * l6) x19 hf hR)
      · refine xm_iconst dX12_tell_88 (v := 1) (by decide) ?_
        refine xm_goto 93 dX12_tell_89 (by decide) ?_
        exact xm_sub [1, 2, 3, 4, 5, 6, 0] rfl (L_X12_tell_j93 σ l0 l2 l3 l4 l5 l6 s0 (1 : Int32) ((3 : Int32) * l6) x19 hf hR)
def f_X12_tell_j63 (σ : xM) (l0 : Nat) (l2 : Int32) (l3 : Int32) (l4 : Int32) (l5 : Int32) (l6 : Int32) : Option (Int32 × xM) :=
  f_X12_tell_j64 σ l0 l2 l3 l4 l5 l6 (0 : Int32)
set_option maxHeartbeats 4000000 in
set_option maxRecDepth 20000 in
theorem L_X12_tell_j63 {G : xG} {π : Nat → Nat} {d C Z : Nat} {Q : xQ} (σ : xM) (l0 : Nat) (l2 : Int32) (l3 : Int32) (l4 : Int32) (l5 : Int32) (l6 : Int32) {x : (Int32 × xM)} (hf : f_X12_tell_j63 σ l0 l2 l3 l4 l5 l6 = some x) (hR : ∀ g, x = g → Q (.inl (some (.int g.1))) (g.2) π) : xMach G π J_X12_tell (d + 2) C Z 63 [(0, .ref l0), (2, .int l2), (3, .int l3), (4, .int l4), (5, .int l5), (6, .int l6)] [] σ Q := by
  unfold f_X12_tell_j63 at hf
  refine xm_iconst dX12_tell_63 (v := 0) (by decide) ?_
  exact xm_sub [0, 1, 2, 3, 4, 5] rfl (L_X12_tell_j64 σ l0 l2 l3 l4 l5 l6 (0 : Int32) hf hR)
def f_X12_tell_j44 (σ : xM) (l0 : Nat) (l2 : Int32) (l3 : Int32) (l4 : Int32) (l5 : Int32) (l6 : Int32) (s0 : Int32) (s1 : Int32) (s2 : Int32) : Option (Int32 × xM) :=
  (f_X12_in σ s2 s1 s0).bind (fun p24 => (if p24 = (0 : Int32) then f_X12_tell_j63 σ l0 l2 l3 l4 l5 l6 else (f_X12_isMeaning σ l2 l5).bind (fun p25 => (if p25 = (0 : Int32) then f_X12_tell_j63 σ l0 l2 l3 l4 l5 l6 else f_X12_tell_j64 σ l0 l2 l3 l4 l5 l6 (1 : Int32)))))
set_option maxHeartbeats 4000000 in
set_option maxRecDepth 20000 in
theorem L_X12_tell_j44 {G : xG} {π : Nat → Nat} {d C Z : Nat} {Q : xQ} (σ : xM) (l0 : Nat) (l2 : Int32) (l3 : Int32) (l4 : Int32) (l5 : Int32) (l6 : Int32) (s0 : Int32) (s1 : Int32) (s2 : Int32) {x : (Int32 × xM)} (hf : f_X12_tell_j44 σ l0 l2 l3 l4 l5 l6 s0 s1 s2 = some x) (hR : ∀ g, x = g → Q (.inl (some (.int g.1))) (g.2) π) : xMach G π J_X12_tell (d + 2) C Z 44 [(0, .ref l0), (2, .int l2), (3, .int l3), (4, .int l4), (5, .int l5), (6, .int l6)] [.int s0, .int s1, .int s2] σ Q := by
  unfold f_X12_tell_j44 at hf
  obtain ⟨p24, ep24, hf⟩ := xbind hf
  refine xb_callS (As := [.int s2, .int s1, .int s0]) (v0 := (some (.int p24))) (τ0 := σ) dX12_tell_44 (xc_X12_in _ _) xw_2132 xw_2133 rfl (Nat.le_of_ble_eq_true rfl) rfl (Nat.le_of_ble_eq_true rfl) (fun Q1 hq => m_X12_in (d := d + 1) ep24 (fun g hg => by subst hg; exact hq)) ?_
  refine xb_if_eq 63 dX12_tell_47 (by decide) hf (fun c hf => ?_) (fun c hf => ?_)
  · exact xm_sub [0, 1, 2, 3, 4, 5] rfl (L_X12_tell_j63 σ l0 l2 l3 l4 l5 l6 hf hR)
  · refine xm_iload_n dX12_tell_50 rfl ?_
    refine xm_iload dX12_tell_51 rfl ?_
    obtain ⟨p25, ep25, hf⟩ := xbind hf
    refine xb_callS (As := [.int l2, .int l5]) (v0 := (some (.int p25))) (τ0 := σ) dX12_tell_53 (xc_X12_isMeaning _ _) xw_2272 xw_2273 rfl (Nat.le_of_ble_eq_true rfl) rfl (Nat.le_of_ble_eq_true rfl) (fun Q1 hq => m_X12_isMeaning (d := d + 0) ep25 (fun g hg => by subst hg; exact hq)) ?_
    refine xb_if_eq 63 dX12_tell_56 (by decide) hf (fun c hf => ?_) (fun c hf => ?_)
    · exact xm_sub [0, 1, 2, 3, 4, 5] rfl (L_X12_tell_j63 σ l0 l2 l3 l4 l5 l6 hf hR)
    · refine xm_iconst dX12_tell_59 (v := 1) (by decide) ?_
      refine xm_goto 64 dX12_tell_60 (by decide) ?_
      exact xm_sub [0, 1, 2, 3, 4, 5] rfl (L_X12_tell_j64 σ l0 l2 l3 l4 l5 l6 (1 : Int32) hf hR)
def f_X12_tell (σ : xM) (l0 : Nat) (l1 : Int32) (l2 : Int32) (l3 : Int32) (l4 : Int32) (l5 : Int32) : Option (Int32 × xM) :=
  (f_X12_signOf σ l1).bind (fun p1 => (if p1 = (-1 : Int32) then f_X12_tell_j63 σ l0 l2 l3 l4 l5 p1 else (f_X12_in σ l2 (0 : Int32) (2 : Int32)).bind (fun p22 => (if p22 = (0 : Int32) then f_X12_tell_j63 σ l0 l2 l3 l4 l5 p1 else (f_X12_in σ l3 (1 : Int32) (9 : Int32)).bind (fun p23 => (if p23 = (0 : Int32) then f_X12_tell_j63 σ l0 l2 l3 l4 l5 p1 else (if l2 = (2 : Int32) then f_X12_tell_j44 σ l0 l2 l3 l4 l5 p1 (2 : Int32) (0 : Int32) l4 else f_X12_tell_j44 σ l0 l2 l3 l4 l5 p1 (0 : Int32) (0 : Int32) l4)))))))
set_option maxHeartbeats 4000000 in
set_option maxRecDepth 20000 in
theorem m_X12_tell {G : xG} {π : Nat → Nat} {d C Z : Nat} {Q : xQ} {σ : xM} {l0 : Nat} {l1 : Int32} {l2 : Int32} {l3 : Int32} {l4 : Int32} {l5 : Int32} {x : (Int32 × xM)} (hf : f_X12_tell σ l0 l1 l2 l3 l4 l5 = some x) (hR : ∀ g, x = g → Q (.inl (some (.int g.1))) (g.2) π) : xMach G π J_X12_tell (d + 2) C Z 0 (lv_args 0 [.ref l0, .int l1, .int l2, .int l3, .int l4, .int l5]) [] σ Q := by
  unfold f_X12_tell at hf
  refine xm_stL (L' := [(0, .ref l0), (1, .int l1), (2, .int l2), (3, .int l3), (4, .int l4), (5, .int l5)]) rfl ?_
  refine xm_iload_n dX12_tell_0 rfl ?_
  obtain ⟨p1, ep1, hf⟩ := xbind hf
  refine xb_callS (As := [.int l1]) (v0 := (some (.int p1))) (τ0 := σ) dX12_tell_1 (xc_X12_signOf _ _) xw_1817 xw_1818 rfl (Nat.le_of_ble_eq_true rfl) rfl (Nat.le_of_ble_eq_true rfl) (fun Q1 hq => m_X12_signOf (d := d + 1) ep1 (fun g hg => by subst hg; exact hq)) ?_
  refine xm_istore dX12_tell_4 (by decide) (xm_stL (L' := [(6, .int p1), (0, .ref l0), (1, .int l1), (2, .int l2), (3, .int l3), (4, .int l4), (5, .int l5)]) rfl ?_)
  refine xm_iload dX12_tell_6 rfl ?_
  refine xm_iconst dX12_tell_8 (v := -1) (by decide) ?_
  refine xb_icmp_eq 63 dX12_tell_9 (by decide) hf (fun c hf => ?_) (fun c hf => ?_)
  · exact xm_sub [1, 3, 4, 5, 6, 0] rfl (L_X12_tell_j63 σ l0 l2 l3 l4 l5 p1 hf hR)
  · refine xm_iload_n dX12_tell_12 rfl ?_
    refine xm_iconst dX12_tell_13 (v := 0) (by decide) ?_
    refine xm_iconst dX12_tell_14 (v := 2) (by decide) ?_
    obtain ⟨p22, ep22, hf⟩ := xbind hf
    refine xb_callS (As := [.int l2, .int (0 : Int32), .int (2 : Int32)]) (v0 := (some (.int p22))) (τ0 := σ) dX12_tell_15 (xc_X12_in _ _) xw_2132 xw_2133 rfl (Nat.le_of_ble_eq_true rfl) rfl (Nat.le_of_ble_eq_true rfl) (fun Q1 hq => m_X12_in (d := d + 1) ep22 (fun g hg => by subst hg; exact hq)) ?_
    refine xb_if_eq 63 dX12_tell_18 (by decide) hf (fun c hf => ?_) (fun c hf => ?_)
    · exact xm_sub [1, 3, 4, 5, 6, 0] rfl (L_X12_tell_j63 σ l0 l2 l3 l4 l5 p1 hf hR)
    · refine xm_iload_n dX12_tell_21 rfl ?_
      refine xm_iconst dX12_tell_22 (v := 1) (by decide) ?_
      refine xm_bipush dX12_tell_23 (v := 9) (by decide) ?_
      obtain ⟨p23, ep23, hf⟩ := xbind hf
      refine xb_callS (As := [.int l3, .int (1 : Int32), .int (9 : Int32)]) (v0 := (some (.int p23))) (τ0 := σ) dX12_tell_25 (xc_X12_in _ _) xw_2132 xw_2133 rfl (Nat.le_of_ble_eq_true rfl) rfl (Nat.le_of_ble_eq_true rfl) (fun Q1 hq => m_X12_in (d := d + 1) ep23 (fun g hg => by subst hg; exact hq)) ?_
      refine xb_if_eq 63 dX12_tell_28 (by decide) hf (fun c hf => ?_) (fun c hf => ?_)
      · exact xm_sub [1, 3, 4, 5, 6, 0] rfl (L_X12_tell_j63 σ l0 l2 l3 l4 l5 p1 hf hR)
      · refine xm_iload dX12_tell_31 rfl ?_
        refine xm_iconst dX12_tell_33 (v := 0) (by decide) ?_
        refine xm_iload_n dX12_tell_34 rfl ?_
        refine xm_iconst dX12_tell_35 (v := 2) (by decide) ?_
        refine xb_icmp_ne 43 dX12_tell_36 (by decide) hf (fun c hf => ?_) (fun c hf => ?_)
        · refine xm_iconst dX12_tell_43 (v := 0) (by decide) ?_
          exact xm_sub [1, 3, 4, 5, 6, 0] rfl (L_X12_tell_j44 σ l0 l2 l3 l4 l5 p1 (0 : Int32) (0 : Int32) l4 hf hR)
        · refine xm_iconst dX12_tell_39 (v := 2) (by decide) ?_
          refine xm_goto 44 dX12_tell_40 (by decide) ?_
          exact xm_sub [1, 3, 4, 5, 6, 0] rfl (L_X12_tell_j44 σ l0 l2 l3 l4 l5 p1 (2 : Int32) (0 : Int32) l4 hf hR)
-- RankwiseModel.told(CII)I
def f_X12_told_j102 (σ : xM) (s0 : Int32) : Option (Int32 × xM) :=
  some (s0, σ)
set_option maxHeartbeats 4000000 in
set_option maxRecDepth 20000 in
theorem L_X12_told_j102 {G : xG} {π : Nat → Nat} {d C Z : Nat} {Q : xQ} (σ : xM) (s0 : Int32) {x : (Int32 × xM)} (hf : f_X12_told_j102 σ s0 = some x) (hR : ∀ g, x = g → Q (.inl (some (.int g.1))) (g.2) π) : xMach G π J_X12_told (d + 1) C Z 102 [] [.int s0] σ Q := by
  unfold f_X12_told_j102 at hf
  cases hf
  exact xm_iret dX12_told_102 rfl (hR _ rfl)
def f_X12_told_j62 (σ : xM)  : Option (Int32 × xM) :=
  f_X12_told_j102 σ (-1 : Int32)
set_option maxHeartbeats 4000000 in
set_option maxRecDepth 20000 in
theorem L_X12_told_j62 {G : xG} {π : Nat → Nat} {d C Z : Nat} {Q : xQ} (σ : xM)  {x : (Int32 × xM)} (hf : f_X12_told_j62 σ = some x) (hR : ∀ g, x = g → Q (.inl (some (.int g.1))) (g.2) π) : xMach G π J_X12_told (d + 1) C Z 62 [] [] σ Q := by
  unfold f_X12_told_j62 at hf
  refine xm_iconst dX12_told_62 (v := -1) (by decide) ?_
  refine xm_goto 102 dX12_told_63 (by decide) ?_
  exact xm_sub [] rfl (L_X12_told_j102 σ (-1 : Int32) hf hR)
def f_X12_told_j24 (σ : xM) (l0 : Nat) (l1 : Int32) (l2 : Int32) (l3 : Int32) (s0 : Int32) (s1 : Nat) : Option (Int32 × xM) :=
  (if xk σ s1 12 = true then (f_X12_refused σ s1 s0 (0 : Int32) (0 : Int32)).bind (fun p2 => (if p2.1 = (0 : Int32) then (f_X12_signOf p2.2 l1).bind (fun p3 => xlet (((3 : Int32) * p3) + l2) (fun v4 => (f_X12_signOf p2.2 l1).bind (fun p5 => (if p5 = (-1 : Int32) then f_X12_told_j62 p2.2 else (gR p2.2 l0 12 15).bind (fun x6 => (aI p2.2 x6 14 v4).bind (fun x7 => (if x7 = (0 : Int32) then f_X12_told_j62 p2.2 else (if l3 = (0 : Int32) then (gR p2.2 l0 12 15).bind (fun x12 => (aI p2.2 x12 14 v4).bind (fun x13 => f_X12_told_j102 p2.2 x13)) else (if l3 = (1 : Int32) then (gR p2.2 l0 12 16).bind (fun x10 => (aI p2.2 x10 14 v4).bind (fun x11 => f_X12_told_j102 p2.2 x11)) else (gR p2.2 l0 12 17).bind (fun x8 => (aI p2.2 x8 14 v4).bind (fun x9 => f_X12_told_j102 p2.2 x9))))))))))) else some ((0 : Int32), p2.2))) else none)
set_option maxHeartbeats 4000000 in
set_option maxRecDepth 20000 in
theorem L_X12_told_j24 {G : xG} {π : Nat → Nat} {d C Z : Nat} {Q : xQ} (σ : xM) (l0 : Nat) (l1 : Int32) (l2 : Int32) (l3 : Int32) (s0 : Int32) (s1 : Nat) {x : (Int32 × xM)} (hf : f_X12_told_j24 σ l0 l1 l2 l3 s0 s1 = some x) (hR : ∀ g, x = g → Q (.inl (some (.int g.1))) (g.2) π) : xMach G π J_X12_told (d + 1) C Z 24 [(0, .ref l0), (1, .int l1), (2, .int l2), (3, .int l3)] [.int s0, .ref s1] σ Q := by
  unfold f_X12_told_j24 at hf
  refine xm_iconst dX12_told_24 (v := 0) (by decide) ?_
  refine xm_iconst dX12_told_25 (v := 0) (by decide) ?_
  refine xb_if hf (fun hb hf => ?_) (fun _ q => nomatch q)
  obtain ⟨p2, ep2, hf⟩ := xbind hf
  refine xb_callV (As := [.int s0, .int (0 : Int32), .int (0 : Int32)]) (v0 := (some (.int p2.1))) (τ0 := p2.2) dX12_told_26 (xc_X12_refused _ _) xcl12 xw_2112 xw_2114 xs_90 hb rfl (Nat.le_of_ble_eq_true rfl) rfl (Nat.le_of_ble_eq_true rfl) (fun Q1 hq => m_X12_refused (d := d + 0) ep2 (fun g hg => by subst hg; exact hq)) ?_
  refine xb_if_eq 34 dX12_told_29 (by decide) hf (fun c hf => ?_) (fun c hf => ?_)
  · refine xm_iconst dX12_told_34 (v := 3) (by decide) ?_
    refine xm_iload_n dX12_told_35 rfl ?_
    obtain ⟨p3, ep3, hf⟩ := xbind hf
    refine xb_callS (As := [.int l1]) (v0 := (some (.int p3))) (τ0 := p2.2) dX12_told_36 (xc_X12_signOf _ _) xw_1817 xw_1818 rfl (Nat.le_of_ble_eq_true rfl) rfl (Nat.le_of_ble_eq_true rfl) (fun Q1 hq => m_X12_signOf (d := d + 0) ep3 (fun g hg => by subst hg; exact hq)) ?_
    refine xm_imul dX12_told_39 ?_
    refine xm_iload_n dX12_told_40 rfl ?_
    refine xm_iadd dX12_told_41 ?_
    refine xb_topi hf (fun v4 ev4 hf => ?_)
    refine xm_istore dX12_told_42 (by decide) (xm_stL (L' := [(4, .int v4), (0, .ref l0), (1, .int l1), (2, .int l2), (3, .int l3)]) rfl ?_)
    refine xm_iload_n dX12_told_44 rfl ?_
    obtain ⟨p5, ep5, hf⟩ := xbind hf
    refine xb_callS (As := [.int l1]) (v0 := (some (.int p5))) (τ0 := p2.2) dX12_told_45 (xc_X12_signOf _ _) xw_1817 xw_1818 rfl (Nat.le_of_ble_eq_true rfl) rfl (Nat.le_of_ble_eq_true rfl) (fun Q1 hq => m_X12_signOf (d := d + 0) ep5 (fun g hg => by subst hg; exact hq)) ?_
    refine xm_iconst dX12_told_48 (v := -1) (by decide) ?_
    refine xb_icmp_eq 62 dX12_told_49 (by decide) hf (fun c hf => ?_) (fun c hf => ?_)
    · exact xm_sub [] rfl (L_X12_told_j62 p2.2 hf hR)
    · refine xm_aload_n dX12_told_52 rfl ?_
      refine xb_getR (a := l0) (c := 12) (k := 15) dX12_told_53 xcl12 (by decide) xw_1852 rfl hf (fun x6 ex6 hf => ?_)
      refine xm_iload dX12_told_56 rfl ?_
      refine xb_iald dX12_told_58 hf (fun x7 ex7 hf => ?_)
      refine xb_if_ne 66 dX12_told_59 (by decide) hf (fun c hf => ?_) (fun c hf => ?_)
      · refine xm_iload_n dX12_told_66 rfl ?_
        refine xb_if_ne 80 dX12_told_67 (by decide) hf (fun c hf => ?_) (fun c hf => ?_)
        · refine xm_iload_n dX12_told_80 rfl ?_
          refine xm_iconst dX12_told_81 (v := 1) (by decide) ?_
          refine xb_icmp_ne 95 dX12_told_82 (by decide) hf (fun c hf => ?_) (fun c hf => ?_)
          · refine xm_aload_n dX12_told_95 rfl ?_
            refine xb_getR (a := l0) (c := 12) (k := 17) dX12_told_96 xcl12 (by decide) xw_1854 rfl hf (fun x8 ex8 hf => ?_)
            refine xm_iload dX12_told_99 rfl ?_
            refine xb_iald dX12_told_101 hf (fun x9 ex9 hf => ?_)
            exact xm_sub [] rfl (L_X12_told_j102 p2.2 x9 hf hR)
          · refine xm_aload_n dX12_told_85 rfl ?_
            refine xb_getR (a := l0) (c := 12) (k := 16) dX12_told_86 xcl12 (by decide) xw_1853 rfl hf (fun x10 ex10 hf => ?_)
            refine xm_iload dX12_told_89 rfl ?_
            refine xb_iald dX12_told_91 hf (fun x11 ex11 hf => ?_)
            refine xm_goto 102 dX12_told_92 (by decide) ?_
            exact xm_sub [] rfl (L_X12_told_j102 p2.2 x11 hf hR)
        · refine xm_aload_n dX12_told_70 rfl ?_
          refine xb_getR (a := l0) (c := 12) (k := 15) dX12_told_71 xcl12 (by decide) xw_1852 rfl hf (fun x12 ex12 hf => ?_)
          refine xm_iload dX12_told_74 rfl ?_
          refine xb_iald dX12_told_76 hf (fun x13 ex13 hf => ?_)
          refine xm_goto 102 dX12_told_77 (by decide) ?_
          exact xm_sub [] rfl (L_X12_told_j102 p2.2 x13 hf hR)
      · exact xm_sub [] rfl (L_X12_told_j62 p2.2 hf hR)
  · refine xm_iconst dX12_told_32 (v := 0) (by decide) ?_
    cases hf
    exact xm_iret dX12_told_33 rfl (hR _ rfl)
def f_X12_told_j19 (σ : xM) (l0 : Nat) (l1 : Int32) (l2 : Int32) (l3 : Int32) (s0 : Nat) : Option (Int32 × xM) :=
  f_X12_told_j24 σ l0 l1 l2 l3 (1 : Int32) s0
set_option maxHeartbeats 4000000 in
set_option maxRecDepth 20000 in
theorem L_X12_told_j19 {G : xG} {π : Nat → Nat} {d C Z : Nat} {Q : xQ} (σ : xM) (l0 : Nat) (l1 : Int32) (l2 : Int32) (l3 : Int32) (s0 : Nat) {x : (Int32 × xM)} (hf : f_X12_told_j19 σ l0 l1 l2 l3 s0 = some x) (hR : ∀ g, x = g → Q (.inl (some (.int g.1))) (g.2) π) : xMach G π J_X12_told (d + 1) C Z 19 [(0, .ref l0), (1, .int l1), (2, .int l2), (3, .int l3)] [.ref s0] σ Q := by
  unfold f_X12_told_j19 at hf
  refine xm_iconst dX12_told_19 (v := 1) (by decide) ?_
  refine xm_goto 24 dX12_told_20 (by decide) ?_
  exact xm_sub [0, 1, 2, 3] rfl (L_X12_told_j24 σ l0 l1 l2 l3 (1 : Int32) s0 hf hR)
def f_X12_told (σ : xM) (l0 : Nat) (l1 : Int32) (l2 : Int32) (l3 : Int32) : Option (Int32 × xM) :=
  (f_X12_in σ l2 (0 : Int32) (2 : Int32)).bind (fun p1 => (if p1 = (0 : Int32) then f_X12_told_j19 σ l0 l1 l2 l3 l0 else (f_X12_in σ l3 (0 : Int32) (2 : Int32)).bind (fun p14 => (if p14 = (0 : Int32) then f_X12_told_j19 σ l0 l1 l2 l3 l0 else f_X12_told_j24 σ l0 l1 l2 l3 (0 : Int32) l0))))
set_option maxHeartbeats 4000000 in
set_option maxRecDepth 20000 in
theorem m_X12_told {G : xG} {π : Nat → Nat} {d C Z : Nat} {Q : xQ} {σ : xM} {l0 : Nat} {l1 : Int32} {l2 : Int32} {l3 : Int32} {x : (Int32 × xM)} (hf : f_X12_told σ l0 l1 l2 l3 = some x) (hR : ∀ g, x = g → Q (.inl (some (.int g.1))) (g.2) π) : xMach G π J_X12_told (d + 1) C Z 0 (lv_args 0 [.ref l0, .int l1, .int l2, .int l3]) [] σ Q := by
  unfold f_X12_told at hf
  refine xm_stL (L' := [(0, .ref l0), (1, .int l1), (2, .int l2), (3, .int l3)]) rfl ?_
  refine xm_aload_n dX12_told_0 rfl ?_
  refine xm_iload_n dX12_told_1 rfl ?_
  refine xm_iconst dX12_told_2 (v := 0) (by decide) ?_
  refine xm_iconst dX12_told_3 (v := 2) (by decide) ?_
  obtain ⟨p1, ep1, hf⟩ := xbind hf
  refine xb_callS (As := [.int l2, .int (0 : Int32), .int (2 : Int32)]) (v0 := (some (.int p1))) (τ0 := σ) dX12_told_4 (xc_X12_in _ _) xw_2132 xw_2133 rfl (Nat.le_of_ble_eq_true rfl) rfl (Nat.le_of_ble_eq_true rfl) (fun Q1 hq => m_X12_in (d := d + 0) ep1 (fun g hg => by subst hg; exact hq)) ?_
  refine xb_if_eq 19 dX12_told_7 (by decide) hf (fun c hf => ?_) (fun c hf => ?_)
  · exact xm_sub [0, 1, 2, 3] rfl (L_X12_told_j19 σ l0 l1 l2 l3 l0 hf hR)
  · refine xm_iload_n dX12_told_10 rfl ?_
    refine xm_iconst dX12_told_11 (v := 0) (by decide) ?_
    refine xm_iconst dX12_told_12 (v := 2) (by decide) ?_
    obtain ⟨p14, ep14, hf⟩ := xbind hf
    refine xb_callS (As := [.int l3, .int (0 : Int32), .int (2 : Int32)]) (v0 := (some (.int p14))) (τ0 := σ) dX12_told_13 (xc_X12_in _ _) xw_2132 xw_2133 rfl (Nat.le_of_ble_eq_true rfl) rfl (Nat.le_of_ble_eq_true rfl) (fun Q1 hq => m_X12_in (d := d + 0) ep14 (fun g hg => by subst hg; exact hq)) ?_
    refine xb_if_ne 23 dX12_told_16 (by decide) hf (fun c hf => ?_) (fun c hf => ?_)
    · refine xm_iconst dX12_told_23 (v := 0) (by decide) ?_
      exact xm_sub [0, 1, 2, 3] rfl (L_X12_told_j24 σ l0 l1 l2 l3 (0 : Int32) l0 hf hR)
    · exact xm_sub [0, 1, 2, 3] rfl (L_X12_told_j19 σ l0 l1 l2 l3 l0 hf hR)
-- RankwiseModel.print(I)I
def f_X12_print_j14 (σ : xM) (l0 : Nat) (l1 : Int32) (s0 : Int32) (s1 : Nat) : Option (Int32 × xM) :=
  (if xk σ s1 12 = true then (f_X12_refused σ s1 s0 (0 : Int32) (0 : Int32)).bind (fun p2 => (if p2.1 = (0 : Int32) then (f_X12_shelf p2.2 l1).bind (fun p3 => (if xk p2.2 l0 12 = true then (f_X12_fewest p2.2 l0 p3).bind (fun p4 => (if xk p4 l0 12 = true then (f_X12_outWords p4 l0).bind (fun p5 => (gI p5 l0 12 42).bind (fun x6 => some (x6, p5))) else none)) else none)) else some ((0 : Int32), p2.2))) else none)
set_option maxHeartbeats 4000000 in
set_option maxRecDepth 20000 in
theorem L_X12_print_j14 {G : xG} {π : Nat → Nat} {d C Z : Nat} {Q : xQ} (σ : xM) (l0 : Nat) (l1 : Int32) (s0 : Int32) (s1 : Nat) {x : (Int32 × xM)} (hf : f_X12_print_j14 σ l0 l1 s0 s1 = some x) (hR : ∀ g, x = g → Q (.inl (some (.int g.1))) (g.2) π) : xMach G π J_X12_print (d + 8) C Z 14 [(0, .ref l0), (1, .int l1)] [.int s0, .ref s1] σ Q := by
  unfold f_X12_print_j14 at hf
  refine xm_iconst dX12_print_14 (v := 0) (by decide) ?_
  refine xm_iconst dX12_print_15 (v := 0) (by decide) ?_
  refine xb_if hf (fun hb hf => ?_) (fun _ q => nomatch q)
  obtain ⟨p2, ep2, hf⟩ := xbind hf
  refine xb_callV (As := [.int s0, .int (0 : Int32), .int (0 : Int32)]) (v0 := (some (.int p2.1))) (τ0 := p2.2) dX12_print_16 (xc_X12_refused _ _) xcl12 xw_2112 xw_2114 xs_90 hb rfl (Nat.le_of_ble_eq_true rfl) rfl (Nat.le_of_ble_eq_true rfl) (fun Q1 hq => m_X12_refused (d := d + 7) ep2 (fun g hg => by subst hg; exact hq)) ?_
  refine xb_if_eq 24 dX12_print_19 (by decide) hf (fun c hf => ?_) (fun c hf => ?_)
  · refine xm_aload_n dX12_print_24 rfl ?_
    refine xm_iload_n dX12_print_25 rfl ?_
    obtain ⟨p3, ep3, hf⟩ := xbind hf
    refine xb_callS (As := [.int l1]) (v0 := (some (.int p3))) (τ0 := p2.2) dX12_print_26 (xc_X12_shelf _ _) xw_2214 xw_2215 rfl (Nat.le_of_ble_eq_true rfl) rfl (Nat.le_of_ble_eq_true rfl) (fun Q1 hq => m_X12_shelf (d := d + 7) ep3 (fun g hg => by subst hg; exact hq)) ?_
    refine xb_if hf (fun hb hf => ?_) (fun _ q => nomatch q)
    obtain ⟨p4, ep4, hf⟩ := xbind hf
    refine xb_callV (As := [.int p3]) (v0 := none) (τ0 := p4) dX12_print_29 (xc_X12_fewest _ _) xcl12 xw_2287 xw_2289 xs_119 hb rfl (Nat.le_of_ble_eq_true rfl) rfl (Nat.le_of_ble_eq_true rfl) (fun Q1 hq => m_X12_fewest (d := d + 0) ep4 (fun g hg => by subst hg; exact hq)) ?_
    refine xm_aload_n dX12_print_32 rfl ?_
    refine xb_if hf (fun hb hf => ?_) (fun _ q => nomatch q)
    obtain ⟨p5, ep5, hf⟩ := xbind hf
    refine xb_callV (As := []) (v0 := none) (τ0 := p5) dX12_print_33 (xc_X12_outWords _ _) xcl12 xw_2319 xw_2321 xs_127 hb rfl (Nat.le_of_ble_eq_true rfl) rfl (Nat.le_of_ble_eq_true rfl) (fun Q1 hq => m_X12_outWords (d := d + 5) ep5 (fun g hg => by subst hg; exact hq)) ?_
    refine xm_aload_n dX12_print_36 rfl ?_
    refine xb_getI (a := l0) (c := 12) (k := 42) dX12_print_37 xcl12 (by decide) xw_1879 rfl hf (fun x6 ex6 hf => ?_)
    cases hf
    exact xm_iret dX12_print_40 rfl (hR _ rfl)
  · refine xm_iconst dX12_print_22 (v := 0) (by decide) ?_
    cases hf
    exact xm_iret dX12_print_23 rfl (hR _ rfl)
def f_X12_print (σ : xM) (l0 : Nat) (l1 : Int32) : Option (Int32 × xM) :=
  (if xk σ l0 12 = true then (f_X12_isTree σ l0 l1).bind (fun p1 => (if p1 = (0 : Int32) then f_X12_print_j14 σ l0 l1 (1 : Int32) l0 else f_X12_print_j14 σ l0 l1 (0 : Int32) l0)) else none)
set_option maxHeartbeats 4000000 in
set_option maxRecDepth 20000 in
theorem m_X12_print {G : xG} {π : Nat → Nat} {d C Z : Nat} {Q : xQ} {σ : xM} {l0 : Nat} {l1 : Int32} {x : (Int32 × xM)} (hf : f_X12_print σ l0 l1 = some x) (hR : ∀ g, x = g → Q (.inl (some (.int g.1))) (g.2) π) : xMach G π J_X12_print (d + 8) C Z 0 (lv_args 0 [.ref l0, .int l1]) [] σ Q := by
  unfold f_X12_print at hf
  refine xm_stL (L' := [(0, .ref l0), (1, .int l1)]) rfl ?_
  refine xm_aload_n dX12_print_0 rfl ?_
  refine xm_aload_n dX12_print_1 rfl ?_
  refine xm_iload_n dX12_print_2 rfl ?_
  refine xb_if hf (fun hb hf => ?_) (fun _ q => nomatch q)
  obtain ⟨p1, ep1, hf⟩ := xbind hf
  refine xb_callV (As := [.int l1]) (v0 := (some (.int p1))) (τ0 := σ) dX12_print_3 (xc_X12_isTree _ _) xcl12 xw_2233 xw_2235 xs_113 hb rfl (Nat.le_of_ble_eq_true rfl) rfl (Nat.le_of_ble_eq_true rfl) (fun Q1 hq => m_X12_isTree (d := d + 6) ep1 (fun g hg => by subst hg; exact hq)) ?_
  refine xb_if_ne 13 dX12_print_6 (by decide) hf (fun c hf => ?_) (fun c hf => ?_)
  · refine xm_iconst dX12_print_13 (v := 0) (by decide) ?_
    exact xm_sub [0, 1] rfl (L_X12_print_j14 σ l0 l1 (0 : Int32) l0 hf hR)
  · refine xm_iconst dX12_print_9 (v := 1) (by decide) ?_
    refine xm_goto 14 dX12_print_10 (by decide) ?_
    exact xm_sub [0, 1] rfl (L_X12_print_j14 σ l0 l1 (1 : Int32) l0 hf hR)
-- RankwiseModel.postfix(I)I
def f_X12_postfix_j38 (σ : xM) (l0 : Nat) (l1 : Int32) (s0 : Int32) (s1 : Int32) (s2 : Nat) : Option (Int32 × xM) :=
  (if xk σ s2 12 = true then (f_X12_refused σ s2 s1 s0 (0 : Int32)).bind (fun p3 => (if p3.1 = (0 : Int32) then (f_X12_shelf p3.2 l1).bind (fun p4 => (if xk p3.2 l0 12 = true then (f_X12_outPostfix p3.2 l0 p4).bind (fun p5 => (gI p5 l0 12 42).bind (fun x6 => some (x6, p5))) else none)) else some ((0 : Int32), p3.2))) else none)
set_option maxHeartbeats 4000000 in
set_option maxRecDepth 20000 in
theorem L_X12_postfix_j38 {G : xG} {π : Nat → Nat} {d C Z : Nat} {Q : xQ} (σ : xM) (l0 : Nat) (l1 : Int32) (s0 : Int32) (s1 : Int32) (s2 : Nat) {x : (Int32 × xM)} (hf : f_X12_postfix_j38 σ l0 l1 s0 s1 s2 = some x) (hR : ∀ g, x = g → Q (.inl (some (.int g.1))) (g.2) π) : xMach G π J_X12_postfix (d + 3) C Z 38 [(0, .ref l0), (1, .int l1)] [.int s0, .int s1, .ref s2] σ Q := by
  unfold f_X12_postfix_j38 at hf
  refine xm_iconst dX12_postfix_38 (v := 0) (by decide) ?_
  refine xb_if hf (fun hb hf => ?_) (fun _ q => nomatch q)
  obtain ⟨p3, ep3, hf⟩ := xbind hf
  refine xb_callV (As := [.int s1, .int s0, .int (0 : Int32)]) (v0 := (some (.int p3.1))) (τ0 := p3.2) dX12_postfix_39 (xc_X12_refused _ _) xcl12 xw_2112 xw_2114 xs_90 hb rfl (Nat.le_of_ble_eq_true rfl) rfl (Nat.le_of_ble_eq_true rfl) (fun Q1 hq => m_X12_refused (d := d + 2) ep3 (fun g hg => by subst hg; exact hq)) ?_
  refine xb_if_eq 47 dX12_postfix_42 (by decide) hf (fun c hf => ?_) (fun c hf => ?_)
  · refine xm_aload_n dX12_postfix_47 rfl ?_
    refine xm_iload_n dX12_postfix_48 rfl ?_
    obtain ⟨p4, ep4, hf⟩ := xbind hf
    refine xb_callS (As := [.int l1]) (v0 := (some (.int p4))) (τ0 := p3.2) dX12_postfix_49 (xc_X12_shelf _ _) xw_2214 xw_2215 rfl (Nat.le_of_ble_eq_true rfl) rfl (Nat.le_of_ble_eq_true rfl) (fun Q1 hq => m_X12_shelf (d := d + 2) ep4 (fun g hg => by subst hg; exact hq)) ?_
    refine xb_if hf (fun hb hf => ?_) (fun _ q => nomatch q)
    obtain ⟨p5, ep5, hf⟩ := xbind hf
    refine xb_callV (As := [.int p4]) (v0 := none) (τ0 := p5) dX12_postfix_52 (xc_X12_outPostfix _ _) xcl12 xw_2339 xw_2341 xs_131 hb rfl (Nat.le_of_ble_eq_true rfl) rfl (Nat.le_of_ble_eq_true rfl) (fun Q1 hq => m_X12_outPostfix (d := d + 0) ep5 (fun g hg => by subst hg; exact hq)) ?_
    refine xm_aload_n dX12_postfix_55 rfl ?_
    refine xb_getI (a := l0) (c := 12) (k := 42) dX12_postfix_56 xcl12 (by decide) xw_1879 rfl hf (fun x6 ex6 hf => ?_)
    cases hf
    exact xm_iret dX12_postfix_59 rfl (hR _ rfl)
  · refine xm_iconst dX12_postfix_45 (v := 0) (by decide) ?_
    cases hf
    exact xm_iret dX12_postfix_46 rfl (hR _ rfl)
def f_X12_postfix_j37 (σ : xM) (l0 : Nat) (l1 : Int32) (s0 : Int32) (s1 : Nat) : Option (Int32 × xM) :=
  f_X12_postfix_j38 σ l0 l1 (0 : Int32) s0 s1
set_option maxHeartbeats 4000000 in
set_option maxRecDepth 20000 in
theorem L_X12_postfix_j37 {G : xG} {π : Nat → Nat} {d C Z : Nat} {Q : xQ} (σ : xM) (l0 : Nat) (l1 : Int32) (s0 : Int32) (s1 : Nat) {x : (Int32 × xM)} (hf : f_X12_postfix_j37 σ l0 l1 s0 s1 = some x) (hR : ∀ g, x = g → Q (.inl (some (.int g.1))) (g.2) π) : xMach G π J_X12_postfix (d + 3) C Z 37 [(0, .ref l0), (1, .int l1)] [.int s0, .ref s1] σ Q := by
  unfold f_X12_postfix_j37 at hf
  refine xm_iconst dX12_postfix_37 (v := 0) (by decide) ?_
  exact xm_sub [0, 1] rfl (L_X12_postfix_j38 σ l0 l1 (0 : Int32) s0 s1 hf hR)
def f_X12_postfix_j14 (σ : xM) (l0 : Nat) (l1 : Int32) (s0 : Int32) (s1 : Nat) : Option (Int32 × xM) :=
  (if xk σ l0 12 = true then (f_X12_isTree σ l0 l1).bind (fun p2 => (if p2 = (0 : Int32) then f_X12_postfix_j37 σ l0 l1 s0 s1 else (f_X12_shelf σ l1).bind (fun p7 => (if xk σ l0 12 = true then (f_X12_hasOwnCall σ l0 p7).bind (fun p8 => (if p8 = (0 : Int32) then f_X12_postfix_j37 σ l0 l1 s0 s1 else f_X12_postfix_j38 σ l0 l1 (1 : Int32) s0 s1)) else none)))) else none)
set_option maxHeartbeats 4000000 in
set_option maxRecDepth 20000 in
theorem L_X12_postfix_j14 {G : xG} {π : Nat → Nat} {d C Z : Nat} {Q : xQ} (σ : xM) (l0 : Nat) (l1 : Int32) (s0 : Int32) (s1 : Nat) {x : (Int32 × xM)} (hf : f_X12_postfix_j14 σ l0 l1 s0 s1 = some x) (hR : ∀ g, x = g → Q (.inl (some (.int g.1))) (g.2) π) : xMach G π J_X12_postfix (d + 3) C Z 14 [(0, .ref l0), (1, .int l1)] [.int s0, .ref s1] σ Q := by
  unfold f_X12_postfix_j14 at hf
  refine xm_aload_n dX12_postfix_14 rfl ?_
  refine xm_iload_n dX12_postfix_15 rfl ?_
  refine xb_if hf (fun hb hf => ?_) (fun _ q => nomatch q)
  obtain ⟨p2, ep2, hf⟩ := xbind hf
  refine xb_callV (As := [.int l1]) (v0 := (some (.int p2))) (τ0 := σ) dX12_postfix_16 (xc_X12_isTree _ _) xcl12 xw_2233 xw_2235 xs_113 hb rfl (Nat.le_of_ble_eq_true rfl) rfl (Nat.le_of_ble_eq_true rfl) (fun Q1 hq => m_X12_isTree (d := d + 1) ep2 (fun g hg => by subst hg; exact hq)) ?_
  refine xb_if_eq 37 dX12_postfix_19 (by decide) hf (fun c hf => ?_) (fun c hf => ?_)
  · exact xm_sub [0, 1] rfl (L_X12_postfix_j37 σ l0 l1 s0 s1 hf hR)
  · refine xm_aload_n dX12_postfix_22 rfl ?_
    refine xm_iload_n dX12_postfix_23 rfl ?_
    obtain ⟨p7, ep7, hf⟩ := xbind hf
    refine xb_callS (As := [.int l1]) (v0 := (some (.int p7))) (τ0 := σ) dX12_postfix_24 (xc_X12_shelf _ _) xw_2214 xw_2215 rfl (Nat.le_of_ble_eq_true rfl) rfl (Nat.le_of_ble_eq_true rfl) (fun Q1 hq => m_X12_shelf (d := d + 2) ep7 (fun g hg => by subst hg; exact hq)) ?_
    refine xb_if hf (fun hb hf => ?_) (fun _ q => nomatch q)
    obtain ⟨p8, ep8, hf⟩ := xbind hf
    refine xb_callV (As := [.int p7]) (v0 := (some (.int p8))) (τ0 := σ) dX12_postfix_27 (xc_X12_hasOwnCall _ _) xcl12 xw_2335 xw_2337 xs_130 hb rfl (Nat.le_of_ble_eq_true rfl) rfl (Nat.le_of_ble_eq_true rfl) (fun Q1 hq => m_X12_hasOwnCall (d := d + 2) ep8 (fun g hg => by subst hg; exact hq)) ?_
    refine xb_if_eq 37 dX12_postfix_30 (by decide) hf (fun c hf => ?_) (fun c hf => ?_)
    · exact xm_sub [0, 1] rfl (L_X12_postfix_j37 σ l0 l1 s0 s1 hf hR)
    · refine xm_iconst dX12_postfix_33 (v := 1) (by decide) ?_
      refine xm_goto 38 dX12_postfix_34 (by decide) ?_
      exact xm_sub [0, 1] rfl (L_X12_postfix_j38 σ l0 l1 (1 : Int32) s0 s1 hf hR)
def f_X12_postfix (σ : xM) (l0 : Nat) (l1 : Int32) : Option (Int32 × xM) :=
  (if xk σ l0 12 = true then (f_X12_isTree σ l0 l1).bind (fun p1 => (if p1 = (0 : Int32) then f_X12_postfix_j14 σ l0 l1 (1 : Int32) l0 else f_X12_postfix_j14 σ l0 l1 (0 : Int32) l0)) else none)
set_option maxHeartbeats 4000000 in
set_option maxRecDepth 20000 in
theorem m_X12_postfix {G : xG} {π : Nat → Nat} {d C Z : Nat} {Q : xQ} {σ : xM} {l0 : Nat} {l1 : Int32} {x : (Int32 × xM)} (hf : f_X12_postfix σ l0 l1 = some x) (hR : ∀ g, x = g → Q (.inl (some (.int g.1))) (g.2) π) : xMach G π J_X12_postfix (d + 3) C Z 0 (lv_args 0 [.ref l0, .int l1]) [] σ Q := by
  unfold f_X12_postfix at hf
  refine xm_stL (L' := [(0, .ref l0), (1, .int l1)]) rfl ?_
  refine xm_aload_n dX12_postfix_0 rfl ?_
  refine xm_aload_n dX12_postfix_1 rfl ?_
  refine xm_iload_n dX12_postfix_2 rfl ?_
  refine xb_if hf (fun hb hf => ?_) (fun _ q => nomatch q)
  obtain ⟨p1, ep1, hf⟩ := xbind hf
  refine xb_callV (As := [.int l1]) (v0 := (some (.int p1))) (τ0 := σ) dX12_postfix_3 (xc_X12_isTree _ _) xcl12 xw_2233 xw_2235 xs_113 hb rfl (Nat.le_of_ble_eq_true rfl) rfl (Nat.le_of_ble_eq_true rfl) (fun Q1 hq => m_X12_isTree (d := d + 1) ep1 (fun g hg => by subst hg; exact hq)) ?_
  refine xb_if_ne 13 dX12_postfix_6 (by decide) hf (fun c hf => ?_) (fun c hf => ?_)
  · refine xm_iconst dX12_postfix_13 (v := 0) (by decide) ?_
    exact xm_sub [0, 1] rfl (L_X12_postfix_j14 σ l0 l1 (0 : Int32) l0 hf hR)
  · refine xm_iconst dX12_postfix_9 (v := 1) (by decide) ?_
    refine xm_goto 14 dX12_postfix_10 (by decide) ?_
    exact xm_sub [0, 1] rfl (L_X12_postfix_j14 σ l0 l1 (1 : Int32) l0 hf hR)
-- RankwiseModel.out(I)I
def f_X12_out_j38 (σ : xM) (s0 : Int32) : Option (Int32 × xM) :=
  some (s0, σ)
set_option maxHeartbeats 4000000 in
set_option maxRecDepth 20000 in
theorem L_X12_out_j38 {G : xG} {π : Nat → Nat} {d C Z : Nat} {Q : xQ} (σ : xM) (s0 : Int32) {x : (Int32 × xM)} (hf : f_X12_out_j38 σ s0 = some x) (hR : ∀ g, x = g → Q (.inl (some (.int g.1))) (g.2) π) : xMach G π J_X12_out (d + 1) C Z 38 [] [.int s0] σ Q := by
  unfold f_X12_out_j38 at hf
  cases hf
  exact xm_iret dX12_out_38 rfl (hR _ rfl)
def f_X12_out_j20 (σ : xM) (l0 : Nat) (l1 : Int32) (s0 : Int32) (s1 : Nat) : Option (Int32 × xM) :=
  (if xk σ s1 12 = true then (f_X12_refused σ s1 s0 (0 : Int32) (0 : Int32)).bind (fun p3 => (if p3.1 = (0 : Int32) then (gR p3.2 l0 12 41).bind (fun x4 => (aI p3.2 x4 14 l1).bind (fun x5 => f_X12_out_j38 p3.2 x5)) else f_X12_out_j38 p3.2 (0 : Int32))) else none)
set_option maxHeartbeats 4000000 in
set_option maxRecDepth 20000 in
theorem L_X12_out_j20 {G : xG} {π : Nat → Nat} {d C Z : Nat} {Q : xQ} (σ : xM) (l0 : Nat) (l1 : Int32) (s0 : Int32) (s1 : Nat) {x : (Int32 × xM)} (hf : f_X12_out_j20 σ l0 l1 s0 s1 = some x) (hR : ∀ g, x = g → Q (.inl (some (.int g.1))) (g.2) π) : xMach G π J_X12_out (d + 1) C Z 20 [(0, .ref l0), (1, .int l1)] [.int s0, .ref s1] σ Q := by
  unfold f_X12_out_j20 at hf
  refine xm_iconst dX12_out_20 (v := 0) (by decide) ?_
  refine xm_iconst dX12_out_21 (v := 0) (by decide) ?_
  refine xb_if hf (fun hb hf => ?_) (fun _ q => nomatch q)
  obtain ⟨p3, ep3, hf⟩ := xbind hf
  refine xb_callV (As := [.int s0, .int (0 : Int32), .int (0 : Int32)]) (v0 := (some (.int p3.1))) (τ0 := p3.2) dX12_out_22 (xc_X12_refused _ _) xcl12 xw_2112 xw_2114 xs_90 hb rfl (Nat.le_of_ble_eq_true rfl) rfl (Nat.le_of_ble_eq_true rfl) (fun Q1 hq => m_X12_refused (d := d + 0) ep3 (fun g hg => by subst hg; exact hq)) ?_
  refine xb_if_eq 32 dX12_out_25 (by decide) hf (fun c hf => ?_) (fun c hf => ?_)
  · refine xm_aload_n dX12_out_32 rfl ?_
    refine xb_getR (a := l0) (c := 12) (k := 41) dX12_out_33 xcl12 (by decide) xw_1878 rfl hf (fun x4 ex4 hf => ?_)
    refine xm_iload_n dX12_out_36 rfl ?_
    refine xb_iald dX12_out_37 hf (fun x5 ex5 hf => ?_)
    exact xm_sub [] rfl (L_X12_out_j38 p3.2 x5 hf hR)
  · refine xm_iconst dX12_out_28 (v := 0) (by decide) ?_
    refine xm_goto 38 dX12_out_29 (by decide) ?_
    exact xm_sub [] rfl (L_X12_out_j38 p3.2 (0 : Int32) hf hR)
def f_X12_out (σ : xM) (l0 : Nat) (l1 : Int32) : Option (Int32 × xM) :=
  (gI σ l0 12 42).bind (fun x1 => (f_X12_in σ l1 (0 : Int32) (x1 - (1 : Int32))).bind (fun p2 => (if p2 = (0 : Int32) then f_X12_out_j20 σ l0 l1 (1 : Int32) l0 else f_X12_out_j20 σ l0 l1 (0 : Int32) l0)))
set_option maxHeartbeats 4000000 in
set_option maxRecDepth 20000 in
theorem m_X12_out {G : xG} {π : Nat → Nat} {d C Z : Nat} {Q : xQ} {σ : xM} {l0 : Nat} {l1 : Int32} {x : (Int32 × xM)} (hf : f_X12_out σ l0 l1 = some x) (hR : ∀ g, x = g → Q (.inl (some (.int g.1))) (g.2) π) : xMach G π J_X12_out (d + 1) C Z 0 (lv_args 0 [.ref l0, .int l1]) [] σ Q := by
  unfold f_X12_out at hf
  refine xm_stL (L' := [(0, .ref l0), (1, .int l1)]) rfl ?_
  refine xm_aload_n dX12_out_0 rfl ?_
  refine xm_iload_n dX12_out_1 rfl ?_
  refine xm_iconst dX12_out_2 (v := 0) (by decide) ?_
  refine xm_aload_n dX12_out_3 rfl ?_
  refine xb_getI (a := l0) (c := 12) (k := 42) dX12_out_4 xcl12 (by decide) xw_1879 rfl hf (fun x1 ex1 hf => ?_)
  refine xm_iconst dX12_out_7 (v := 1) (by decide) ?_
  refine xm_isub dX12_out_8 ?_
  obtain ⟨p2, ep2, hf⟩ := xbind hf
  refine xb_callS (As := [.int l1, .int (0 : Int32), .int (x1 - (1 : Int32))]) (v0 := (some (.int p2))) (τ0 := σ) dX12_out_9 (xc_X12_in _ _) xw_2132 xw_2133 rfl (Nat.le_of_ble_eq_true rfl) rfl (Nat.le_of_ble_eq_true rfl) (fun Q1 hq => m_X12_in (d := d + 0) ep2 (fun g hg => by subst hg; exact hq)) ?_
  refine xb_if_ne 19 dX12_out_12 (by decide) hf (fun c hf => ?_) (fun c hf => ?_)
  · refine xm_iconst dX12_out_19 (v := 0) (by decide) ?_
    exact xm_sub [0, 1] rfl (L_X12_out_j20 σ l0 l1 (0 : Int32) l0 hf hR)
  · refine xm_iconst dX12_out_15 (v := 1) (by decide) ?_
    refine xm_goto 20 dX12_out_16 (by decide) ?_
    exact xm_sub [0, 1] rfl (L_X12_out_j20 σ l0 l1 (1 : Int32) l0 hf hR)
-- RankwiseModel.answers(I)I
def f_X12_answers_j18 (σ : xM) (l2 : Int32) : Option (Int32 × xM) :=
  some (l2, σ)
set_option maxHeartbeats 4000000 in
set_option maxRecDepth 20000 in
theorem L_X12_answers_j18 {G : xG} {π : Nat → Nat} {d C Z : Nat} {Q : xQ} (σ : xM) (l2 : Int32) {x : (Int32 × xM)} (hf : f_X12_answers_j18 σ l2 = some x) (hR : ∀ g, x = g → Q (.inl (some (.int g.1))) (g.2) π) : xMach G π J_X12_answers (d + 11) C Z 18 [(2, .int l2)] [] σ Q := by
  unfold f_X12_answers_j18 at hf
  refine xm_iload_n dX12_answers_18 rfl ?_
  cases hf
  exact xm_iret dX12_answers_19 rfl (hR _ rfl)
def f_X12_answers (σ : xM) (l0 : Nat) (l1 : Int32) : Option (Int32 × xM) :=
  (if xk σ l0 12 = true then (f_X12_run σ l0 l1).bind (fun p1 => (if p1.1 = (0 : Int32) then (if xk p1.2 l0 12 = true then (f_X12_copyValue p1.2 l0 (26 : Int32) (60 : Int32)).bind (fun p2 => f_X12_answers_j18 p2 p1.1) else none) else f_X12_answers_j18 p1.2 p1.1)) else none)
set_option maxHeartbeats 4000000 in
set_option maxRecDepth 20000 in
theorem m_X12_answers {G : xG} {π : Nat → Nat} {d C Z : Nat} {Q : xQ} {σ : xM} {l0 : Nat} {l1 : Int32} {x : (Int32 × xM)} (hf : f_X12_answers σ l0 l1 = some x) (hR : ∀ g, x = g → Q (.inl (some (.int g.1))) (g.2) π) : xMach G π J_X12_answers (d + 11) C Z 0 (lv_args 0 [.ref l0, .int l1]) [] σ Q := by
  unfold f_X12_answers at hf
  refine xm_stL (L' := [(0, .ref l0), (1, .int l1)]) rfl ?_
  refine xm_aload_n dX12_answers_0 rfl ?_
  refine xm_iload_n dX12_answers_1 rfl ?_
  refine xb_if hf (fun hb hf => ?_) (fun _ q => nomatch q)
  obtain ⟨p1, ep1, hf⟩ := xbind hf
  refine xb_callV (As := [.int l1]) (v0 := (some (.int p1.1))) (τ0 := p1.2) dX12_answers_2 (xc_X12_run _ _) xcl12 xw_2359 xw_2361 xs_134 hb rfl (Nat.le_of_ble_eq_true rfl) rfl (Nat.le_of_ble_eq_true rfl) (fun Q1 hq => m_X12_run (d := d + 0) ep1 (fun g hg => by subst hg; exact hq)) ?_
  refine xm_istore_n dX12_answers_5 (by decide) (xm_stL (L' := [(2, .int p1.1), (0, .ref l0), (1, .int l1)]) rfl ?_)
  refine xm_iload_n dX12_answers_6 rfl ?_
  refine xb_if_ne 18 dX12_answers_7 (by decide) hf (fun c hf => ?_) (fun c hf => ?_)
  · exact xm_sub [0] rfl (L_X12_answers_j18 p1.2 p1.1 hf hR)
  · refine xm_aload_n dX12_answers_10 rfl ?_
    refine xm_bipush dX12_answers_11 (v := 26) (by decide) ?_
    refine xm_bipush dX12_answers_13 (v := 60) (by decide) ?_
    refine xb_if hf (fun hb hf => ?_) (fun _ q => nomatch q)
    obtain ⟨p2, ep2, hf⟩ := xbind hf
    refine xb_callV (As := [.int (26 : Int32), .int (60 : Int32)]) (v0 := none) (τ0 := p2) dX12_answers_15 (xc_X12_copyValue _ _) xcl12 xw_2100 xw_2102 xs_88 hb rfl (Nat.le_of_ble_eq_true rfl) rfl (Nat.le_of_ble_eq_true rfl) (fun Q1 hq => m_X12_copyValue (d := d + 10) ep2 (fun g hg => by subst hg; exact hq)) ?_
    exact xm_sub [0] rfl (L_X12_answers_j18 p2 p1.1 hf hR)
-- RankwiseModel.evaluate(I)I
def f_X12_evaluate_j34 (σ : xM) (s0 : Int32) : Option (Int32 × xM) :=
  some (s0, σ)
set_option maxHeartbeats 4000000 in
set_option maxRecDepth 20000 in
theorem L_X12_evaluate_j34 {G : xG} {π : Nat → Nat} {d C Z : Nat} {Q : xQ} (σ : xM) (s0 : Int32) {x : (Int32 × xM)} (hf : f_X12_evaluate_j34 σ s0 = some x) (hR : ∀ g, x = g → Q (.inl (some (.int g.1))) (g.2) π) : xMach G π J_X12_evaluate (d + 12) C Z 34 [] [.int s0] σ Q := by
  unfold f_X12_evaluate_j34 at hf
  cases hf
  exact xm_iret dX12_evaluate_34 rfl (hR _ rfl)
def f_X12_evaluate_j14 (σ : xM) (l0 : Nat) (l1 : Int32) (s0 : Int32) (s1 : Nat) : Option (Int32 × xM) :=
  (if xk σ s1 12 = true then (f_X12_refused σ s1 s0 (0 : Int32) (0 : Int32)).bind (fun p2 => (if p2.1 = (0 : Int32) then (f_X12_shelf p2.2 l1).bind (fun p3 => (if xk p2.2 l0 12 = true then (f_X12_answers p2.2 l0 p3).bind (fun p4 => f_X12_evaluate_j34 p4.2 p4.1) else none)) else f_X12_evaluate_j34 p2.2 (0 : Int32))) else none)
set_option maxHeartbeats 4000000 in
set_option maxRecDepth 20000 in
theorem L_X12_evaluate_j14 {G : xG} {π : Nat → Nat} {d C Z : Nat} {Q : xQ} (σ : xM) (l0 : Nat) (l1 : Int32) (s0 : Int32) (s1 : Nat) {x : (Int32 × xM)} (hf : f_X12_evaluate_j14 σ l0 l1 s0 s1 = some x) (hR : ∀ g, x = g → Q (.inl (some (.int g.1))) (g.2) π) : xMach G π J_X12_evaluate (d + 12) C Z 14 [(0, .ref l0), (1, .int l1)] [.int s0, .ref s1] σ Q := by
  unfold f_X12_evaluate_j14 at hf
  refine xm_iconst dX12_evaluate_14 (v := 0) (by decide) ?_
  refine xm_iconst dX12_evaluate_15 (v := 0) (by decide) ?_
  refine xb_if hf (fun hb hf => ?_) (fun _ q => nomatch q)
  obtain ⟨p2, ep2, hf⟩ := xbind hf
  refine xb_callV (As := [.int s0, .int (0 : Int32), .int (0 : Int32)]) (v0 := (some (.int p2.1))) (τ0 := p2.2) dX12_evaluate_16 (xc_X12_refused _ _) xcl12 xw_2112 xw_2114 xs_90 hb rfl (Nat.le_of_ble_eq_true rfl) rfl (Nat.le_of_ble_eq_true rfl) (fun Q1 hq => m_X12_refused (d := d + 11) ep2 (fun g hg => by subst hg; exact hq)) ?_
  refine xb_if_eq 26 dX12_evaluate_19 (by decide) hf (fun c hf => ?_) (fun c hf => ?_)
  · refine xm_aload_n dX12_evaluate_26 rfl ?_
    refine xm_iload_n dX12_evaluate_27 rfl ?_
    obtain ⟨p3, ep3, hf⟩ := xbind hf
    refine xb_callS (As := [.int l1]) (v0 := (some (.int p3))) (τ0 := p2.2) dX12_evaluate_28 (xc_X12_shelf _ _) xw_2214 xw_2215 rfl (Nat.le_of_ble_eq_true rfl) rfl (Nat.le_of_ble_eq_true rfl) (fun Q1 hq => m_X12_shelf (d := d + 11) ep3 (fun g hg => by subst hg; exact hq)) ?_
    refine xb_if hf (fun hb hf => ?_) (fun _ q => nomatch q)
    obtain ⟨p4, ep4, hf⟩ := xbind hf
    refine xb_callV (As := [.int p3]) (v0 := (some (.int p4.1))) (τ0 := p4.2) dX12_evaluate_31 (xc_X12_answers _ _) xcl12 xw_2355 xw_2357 xs_133 hb rfl (Nat.le_of_ble_eq_true rfl) rfl (Nat.le_of_ble_eq_true rfl) (fun Q1 hq => m_X12_answers (d := d + 0) ep4 (fun g hg => by subst hg; exact hq)) ?_
    exact xm_sub [] rfl (L_X12_evaluate_j34 p4.2 p4.1 hf hR)
  · refine xm_iconst dX12_evaluate_22 (v := 0) (by decide) ?_
    refine xm_goto 34 dX12_evaluate_23 (by decide) ?_
    exact xm_sub [] rfl (L_X12_evaluate_j34 p2.2 (0 : Int32) hf hR)
def f_X12_evaluate (σ : xM) (l0 : Nat) (l1 : Int32) : Option (Int32 × xM) :=
  (if xk σ l0 12 = true then (f_X12_isTree σ l0 l1).bind (fun p1 => (if p1 = (0 : Int32) then f_X12_evaluate_j14 σ l0 l1 (1 : Int32) l0 else f_X12_evaluate_j14 σ l0 l1 (0 : Int32) l0)) else none)
set_option maxHeartbeats 4000000 in
set_option maxRecDepth 20000 in
theorem m_X12_evaluate {G : xG} {π : Nat → Nat} {d C Z : Nat} {Q : xQ} {σ : xM} {l0 : Nat} {l1 : Int32} {x : (Int32 × xM)} (hf : f_X12_evaluate σ l0 l1 = some x) (hR : ∀ g, x = g → Q (.inl (some (.int g.1))) (g.2) π) : xMach G π J_X12_evaluate (d + 12) C Z 0 (lv_args 0 [.ref l0, .int l1]) [] σ Q := by
  unfold f_X12_evaluate at hf
  refine xm_stL (L' := [(0, .ref l0), (1, .int l1)]) rfl ?_
  refine xm_aload_n dX12_evaluate_0 rfl ?_
  refine xm_aload_n dX12_evaluate_1 rfl ?_
  refine xm_iload_n dX12_evaluate_2 rfl ?_
  refine xb_if hf (fun hb hf => ?_) (fun _ q => nomatch q)
  obtain ⟨p1, ep1, hf⟩ := xbind hf
  refine xb_callV (As := [.int l1]) (v0 := (some (.int p1))) (τ0 := σ) dX12_evaluate_3 (xc_X12_isTree _ _) xcl12 xw_2233 xw_2235 xs_113 hb rfl (Nat.le_of_ble_eq_true rfl) rfl (Nat.le_of_ble_eq_true rfl) (fun Q1 hq => m_X12_isTree (d := d + 10) ep1 (fun g hg => by subst hg; exact hq)) ?_
  refine xb_if_ne 13 dX12_evaluate_6 (by decide) hf (fun c hf => ?_) (fun c hf => ?_)
  · refine xm_iconst dX12_evaluate_13 (v := 0) (by decide) ?_
    exact xm_sub [0, 1] rfl (L_X12_evaluate_j14 σ l0 l1 (0 : Int32) l0 hf hR)
  · refine xm_iconst dX12_evaluate_9 (v := 1) (by decide) ?_
    refine xm_goto 14 dX12_evaluate_10 (by decide) ?_
    exact xm_sub [0, 1] rfl (L_X12_evaluate_j14 σ l0 l1 (1 : Int32) l0 hf hR)
-- RankwiseModel.reckon(I)I
def f_X12_reckon_j57 (σ : xM) (s0 : Int32) : Option (Int32 × xM) :=
  some (s0, σ)
set_option maxHeartbeats 4000000 in
set_option maxRecDepth 20000 in
theorem L_X12_reckon_j57 {G : xG} {π : Nat → Nat} {d C Z : Nat} {Q : xQ} (σ : xM) (s0 : Int32) {x : (Int32 × xM)} (hf : f_X12_reckon_j57 σ s0 = some x) (hR : ∀ g, x = g → Q (.inl (some (.int g.1))) (g.2) π) : xMach G π J_X12_reckon (d + 12) C Z 57 [] [.int s0] σ Q := by
  unfold f_X12_reckon_j57 at hf
  cases hf
  exact xm_iret dX12_reckon_57 rfl (hR _ rfl)
def f_X12_reckon_j38 (σ : xM) (l0 : Nat) (l1 : Int32) (s0 : Int32) (s1 : Int32) (s2 : Nat) : Option (Int32 × xM) :=
  (if xk σ s2 12 = true then (f_X12_refused σ s2 s1 s0 (0 : Int32)).bind (fun p3 => (if p3.1 = (0 : Int32) then (f_X12_shelf p3.2 l1).bind (fun p4 => (if xk p3.2 l0 12 = true then (f_X12_answers p3.2 l0 p4).bind (fun p5 => f_X12_reckon_j57 p5.2 p5.1) else none)) else f_X12_reckon_j57 p3.2 (0 : Int32))) else none)
set_option maxHeartbeats 4000000 in
set_option maxRecDepth 20000 in
theorem L_X12_reckon_j38 {G : xG} {π : Nat → Nat} {d C Z : Nat} {Q : xQ} (σ : xM) (l0 : Nat) (l1 : Int32) (s0 : Int32) (s1 : Int32) (s2 : Nat) {x : (Int32 × xM)} (hf : f_X12_reckon_j38 σ l0 l1 s0 s1 s2 = some x) (hR : ∀ g, x = g → Q (.inl (some (.int g.1))) (g.2) π) : xMach G π J_X12_reckon (d + 12) C Z 38 [(0, .ref l0), (1, .int l1)] [.int s0, .int s1, .ref s2] σ Q := by
  unfold f_X12_reckon_j38 at hf
  refine xm_iconst dX12_reckon_38 (v := 0) (by decide) ?_
  refine xb_if hf (fun hb hf => ?_) (fun _ q => nomatch q)
  obtain ⟨p3, ep3, hf⟩ := xbind hf
  refine xb_callV (As := [.int s1, .int s0, .int (0 : Int32)]) (v0 := (some (.int p3.1))) (τ0 := p3.2) dX12_reckon_39 (xc_X12_refused _ _) xcl12 xw_2112 xw_2114 xs_90 hb rfl (Nat.le_of_ble_eq_true rfl) rfl (Nat.le_of_ble_eq_true rfl) (fun Q1 hq => m_X12_refused (d := d + 11) ep3 (fun g hg => by subst hg; exact hq)) ?_
  refine xb_if_eq 49 dX12_reckon_42 (by decide) hf (fun c hf => ?_) (fun c hf => ?_)
  · refine xm_aload_n dX12_reckon_49 rfl ?_
    refine xm_iload_n dX12_reckon_50 rfl ?_
    obtain ⟨p4, ep4, hf⟩ := xbind hf
    refine xb_callS (As := [.int l1]) (v0 := (some (.int p4))) (τ0 := p3.2) dX12_reckon_51 (xc_X12_shelf _ _) xw_2214 xw_2215 rfl (Nat.le_of_ble_eq_true rfl) rfl (Nat.le_of_ble_eq_true rfl) (fun Q1 hq => m_X12_shelf (d := d + 11) ep4 (fun g hg => by subst hg; exact hq)) ?_
    refine xb_if hf (fun hb hf => ?_) (fun _ q => nomatch q)
    obtain ⟨p5, ep5, hf⟩ := xbind hf
    refine xb_callV (As := [.int p4]) (v0 := (some (.int p5.1))) (τ0 := p5.2) dX12_reckon_54 (xc_X12_answers _ _) xcl12 xw_2355 xw_2357 xs_133 hb rfl (Nat.le_of_ble_eq_true rfl) rfl (Nat.le_of_ble_eq_true rfl) (fun Q1 hq => m_X12_answers (d := d + 0) ep5 (fun g hg => by subst hg; exact hq)) ?_
    exact xm_sub [] rfl (L_X12_reckon_j57 p5.2 p5.1 hf hR)
  · refine xm_iconst dX12_reckon_45 (v := 0) (by decide) ?_
    refine xm_goto 57 dX12_reckon_46 (by decide) ?_
    exact xm_sub [] rfl (L_X12_reckon_j57 p3.2 (0 : Int32) hf hR)
def f_X12_reckon_j37 (σ : xM) (l0 : Nat) (l1 : Int32) (s0 : Int32) (s1 : Nat) : Option (Int32 × xM) :=
  f_X12_reckon_j38 σ l0 l1 (0 : Int32) s0 s1
set_option maxHeartbeats 4000000 in
set_option maxRecDepth 20000 in
theorem L_X12_reckon_j37 {G : xG} {π : Nat → Nat} {d C Z : Nat} {Q : xQ} (σ : xM) (l0 : Nat) (l1 : Int32) (s0 : Int32) (s1 : Nat) {x : (Int32 × xM)} (hf : f_X12_reckon_j37 σ l0 l1 s0 s1 = some x) (hR : ∀ g, x = g → Q (.inl (some (.int g.1))) (g.2) π) : xMach G π J_X12_reckon (d + 12) C Z 37 [(0, .ref l0), (1, .int l1)] [.int s0, .ref s1] σ Q := by
  unfold f_X12_reckon_j37 at hf
  refine xm_iconst dX12_reckon_37 (v := 0) (by decide) ?_
  exact xm_sub [0, 1] rfl (L_X12_reckon_j38 σ l0 l1 (0 : Int32) s0 s1 hf hR)
def f_X12_reckon_j14 (σ : xM) (l0 : Nat) (l1 : Int32) (s0 : Int32) (s1 : Nat) : Option (Int32 × xM) :=
  (if xk σ l0 12 = true then (f_X12_isTree σ l0 l1).bind (fun p2 => (if p2 = (0 : Int32) then f_X12_reckon_j37 σ l0 l1 s0 s1 else (f_X12_shelf σ l1).bind (fun p6 => (if xk σ l0 12 = true then (f_X12_hasOwnCall σ l0 p6).bind (fun p7 => (if p7 = (0 : Int32) then f_X12_reckon_j37 σ l0 l1 s0 s1 else f_X12_reckon_j38 σ l0 l1 (1 : Int32) s0 s1)) else none)))) else none)
set_option maxHeartbeats 4000000 in
set_option maxRecDepth 20000 in
theorem L_X12_reckon_j14 {G : xG} {π : Nat → Nat} {d C Z : Nat} {Q : xQ} (σ : xM) (l0 : Nat) (l1 : Int32) (s0 : Int32) (s1 : Nat) {x : (Int32 × xM)} (hf : f_X12_reckon_j14 σ l0 l1 s0 s1 = some x) (hR : ∀ g, x = g → Q (.inl (some (.int g.1))) (g.2) π) : xMach G π J_X12_reckon (d + 12) C Z 14 [(0, .ref l0), (1, .int l1)] [.int s0, .ref s1] σ Q := by
  unfold f_X12_reckon_j14 at hf
  refine xm_aload_n dX12_reckon_14 rfl ?_
  refine xm_iload_n dX12_reckon_15 rfl ?_
  refine xb_if hf (fun hb hf => ?_) (fun _ q => nomatch q)
  obtain ⟨p2, ep2, hf⟩ := xbind hf
  refine xb_callV (As := [.int l1]) (v0 := (some (.int p2))) (τ0 := σ) dX12_reckon_16 (xc_X12_isTree _ _) xcl12 xw_2233 xw_2235 xs_113 hb rfl (Nat.le_of_ble_eq_true rfl) rfl (Nat.le_of_ble_eq_true rfl) (fun Q1 hq => m_X12_isTree (d := d + 10) ep2 (fun g hg => by subst hg; exact hq)) ?_
  refine xb_if_eq 37 dX12_reckon_19 (by decide) hf (fun c hf => ?_) (fun c hf => ?_)
  · exact xm_sub [0, 1] rfl (L_X12_reckon_j37 σ l0 l1 s0 s1 hf hR)
  · refine xm_aload_n dX12_reckon_22 rfl ?_
    refine xm_iload_n dX12_reckon_23 rfl ?_
    obtain ⟨p6, ep6, hf⟩ := xbind hf
    refine xb_callS (As := [.int l1]) (v0 := (some (.int p6))) (τ0 := σ) dX12_reckon_24 (xc_X12_shelf _ _) xw_2214 xw_2215 rfl (Nat.le_of_ble_eq_true rfl) rfl (Nat.le_of_ble_eq_true rfl) (fun Q1 hq => m_X12_shelf (d := d + 11) ep6 (fun g hg => by subst hg; exact hq)) ?_
    refine xb_if hf (fun hb hf => ?_) (fun _ q => nomatch q)
    obtain ⟨p7, ep7, hf⟩ := xbind hf
    refine xb_callV (As := [.int p6]) (v0 := (some (.int p7))) (τ0 := σ) dX12_reckon_27 (xc_X12_hasOwnCall _ _) xcl12 xw_2335 xw_2337 xs_130 hb rfl (Nat.le_of_ble_eq_true rfl) rfl (Nat.le_of_ble_eq_true rfl) (fun Q1 hq => m_X12_hasOwnCall (d := d + 11) ep7 (fun g hg => by subst hg; exact hq)) ?_
    refine xb_if_eq 37 dX12_reckon_30 (by decide) hf (fun c hf => ?_) (fun c hf => ?_)
    · exact xm_sub [0, 1] rfl (L_X12_reckon_j37 σ l0 l1 s0 s1 hf hR)
    · refine xm_iconst dX12_reckon_33 (v := 1) (by decide) ?_
      refine xm_goto 38 dX12_reckon_34 (by decide) ?_
      exact xm_sub [0, 1] rfl (L_X12_reckon_j38 σ l0 l1 (1 : Int32) s0 s1 hf hR)
def f_X12_reckon (σ : xM) (l0 : Nat) (l1 : Int32) : Option (Int32 × xM) :=
  (if xk σ l0 12 = true then (f_X12_isTree σ l0 l1).bind (fun p1 => (if p1 = (0 : Int32) then f_X12_reckon_j14 σ l0 l1 (1 : Int32) l0 else f_X12_reckon_j14 σ l0 l1 (0 : Int32) l0)) else none)
set_option maxHeartbeats 4000000 in
set_option maxRecDepth 20000 in
theorem m_X12_reckon {G : xG} {π : Nat → Nat} {d C Z : Nat} {Q : xQ} {σ : xM} {l0 : Nat} {l1 : Int32} {x : (Int32 × xM)} (hf : f_X12_reckon σ l0 l1 = some x) (hR : ∀ g, x = g → Q (.inl (some (.int g.1))) (g.2) π) : xMach G π J_X12_reckon (d + 12) C Z 0 (lv_args 0 [.ref l0, .int l1]) [] σ Q := by
  unfold f_X12_reckon at hf
  refine xm_stL (L' := [(0, .ref l0), (1, .int l1)]) rfl ?_
  refine xm_aload_n dX12_reckon_0 rfl ?_
  refine xm_aload_n dX12_reckon_1 rfl ?_
  refine xm_iload_n dX12_reckon_2 rfl ?_
  refine xb_if hf (fun hb hf => ?_) (fun _ q => nomatch q)
  obtain ⟨p1, ep1, hf⟩ := xbind hf
  refine xb_callV (As := [.int l1]) (v0 := (some (.int p1))) (τ0 := σ) dX12_reckon_3 (xc_X12_isTree _ _) xcl12 xw_2233 xw_2235 xs_113 hb rfl (Nat.le_of_ble_eq_true rfl) rfl (Nat.le_of_ble_eq_true rfl) (fun Q1 hq => m_X12_isTree (d := d + 10) ep1 (fun g hg => by subst hg; exact hq)) ?_
  refine xb_if_ne 13 dX12_reckon_6 (by decide) hf (fun c hf => ?_) (fun c hf => ?_)
  · refine xm_iconst dX12_reckon_13 (v := 0) (by decide) ?_
    exact xm_sub [0, 1] rfl (L_X12_reckon_j14 σ l0 l1 (0 : Int32) l0 hf hR)
  · refine xm_iconst dX12_reckon_9 (v := 1) (by decide) ?_
    refine xm_goto 14 dX12_reckon_10 (by decide) ?_
    exact xm_sub [0, 1] rfl (L_X12_reckon_j14 σ l0 l1 (1 : Int32) l0 hf hR)
-- RankwiseModel.answer(II)I
def f_X12_answer_j146 (σ : xM) (l0 : Nat) (l3 : Int32) (s0 : Int32) (s1 : Nat) : Option ((Int32 × xM) ⊕ ((Nat × Int32 × xM) ⊕ (Nat × Int32 × xM))) :=
  (if xk σ s1 12 = true then (f_X12_prints σ s1 s0).bind (fun p12 => (if xk p12 l0 12 = true then (f_X12_copy p12 l0 (2 : Int32) (4 : Int32)).bind (fun p13 => (gR p13 l0 12 2).bind (fun x14 => (aI p13 x14 14 (2 : Int32)).bind (fun x15 => (if (0 : Int32) < x15 then some (Sum.inr (Sum.inr (l0, l3, p13))) else some (Sum.inr (Sum.inl (l0, l3, p13))))))) else none)) else none)
set_option maxHeartbeats 4000000 in
set_option maxRecDepth 20000 in
theorem L_X12_answer_j146 {G : xG} {π : Nat → Nat} {d C Z : Nat} {Q : xQ} (σ : xM) (l0 : Nat) (l3 : Int32) (s0 : Int32) (s1 : Nat) {x : ((Int32 × xM) ⊕ ((Nat × Int32 × xM) ⊕ (Nat × Int32 × xM)))} (hf : f_X12_answer_j146 σ l0 l3 s0 s1 = some x) (hR : ∀ g, x = Sum.inl (g) → Q (.inl (some (.int g.1))) (g.2) π) (hE : ∀ e : (Nat × Int32 × xM), x = Sum.inr (Sum.inl e) → xMach G π J_X12_answer (d + 3) C Z 164 [(0, .ref e.1), (3, .int e.2.1)] [] e.2.2 Q) (hC : ∀ e : (Nat × Int32 × xM), x = Sum.inr (Sum.inr e) → xMach G π J_X12_answer (d + 3) C Z 91 [(0, .ref e.1), (3, .int e.2.1)] [] e.2.2 Q) : xMach G π J_X12_answer (d + 3) C Z 146 [(0, .ref l0), (3, .int l3)] [.int s0, .ref s1] σ Q := by
  unfold f_X12_answer_j146 at hf
  refine xb_if hf (fun hb hf => ?_) (fun _ q => nomatch q)
  obtain ⟨p12, ep12, hf⟩ := xbind hf
  refine xb_callV (As := [.int s0]) (v0 := none) (τ0 := p12) dX12_answer_146 (xc_X12_prints _ _) xcl12 xw_2327 xw_2329 xs_129 hb rfl (Nat.le_of_ble_eq_true rfl) rfl (Nat.le_of_ble_eq_true rfl) (fun Q1 hq => m_X12_prints (d := d + 2) ep12 (fun g hg => by subst hg; exact hq)) ?_
  refine xm_aload_n dX12_answer_149 rfl ?_
  refine xm_iconst dX12_answer_150 (v := 2) (by decide) ?_
  refine xm_iconst dX12_answer_151 (v := 4) (by decide) ?_
  refine xb_if hf (fun hb hf => ?_) (fun _ q => nomatch q)
  obtain ⟨p13, ep13, hf⟩ := xbind hf
  refine xb_callV (As := [.int (2 : Int32), .int (4 : Int32)]) (v0 := none) (τ0 := p13) dX12_answer_152 (xc_X12_copy _ _) xcl12 xw_2424 xw_2426 xs_150 hb rfl (Nat.le_of_ble_eq_true rfl) rfl (Nat.le_of_ble_eq_true rfl) (fun Q1 hq => m_X12_copy (d := d + 2) ep13 (fun g hg => by subst hg; exact hq)) ?_
  refine xm_aload_n dX12_answer_155 rfl ?_
  refine xb_getR (a := l0) (c := 12) (k := 2) dX12_answer_156 xcl12 (by decide) xw_1839 rfl hf (fun x14 ex14 hf => ?_)
  refine xm_iconst dX12_answer_159 (v := 2) (by decide) ?_
  refine xb_iald dX12_answer_160 hf (fun x15 ex15 hf => ?_)
  refine xb_if_gt 91 dX12_answer_161 (by decide) hf (fun c hf => ?_) (fun c hf => ?_)
  · cases hf
    exact xm_sub [0, 1] rfl (hC _ rfl)
  · cases hf
    exact xm_sub [0, 1] rfl (hE _ rfl)
def f_X12_answer_j120 (σ : xM) (l0 : Nat) (l3 : Int32) (s0 : Int32) : Option ((Int32 × xM) ⊕ ((Nat × Int32 × xM) ⊕ (Nat × Int32 × xM))) :=
  (if (10 : Int32) ≤ s0 then f_X12_answer_j146 σ l0 l3 (((97 : Int32) + s0) - (10 : Int32)) l0 else f_X12_answer_j146 σ l0 l3 ((48 : Int32) + s0) l0)
set_option maxHeartbeats 4000000 in
set_option maxRecDepth 20000 in
theorem L_X12_answer_j120 {G : xG} {π : Nat → Nat} {d C Z : Nat} {Q : xQ} (σ : xM) (l0 : Nat) (l3 : Int32) (s0 : Int32) {x : ((Int32 × xM) ⊕ ((Nat × Int32 × xM) ⊕ (Nat × Int32 × xM)))} (hf : f_X12_answer_j120 σ l0 l3 s0 = some x) (hR : ∀ g, x = Sum.inl (g) → Q (.inl (some (.int g.1))) (g.2) π) (hE : ∀ e : (Nat × Int32 × xM), x = Sum.inr (Sum.inl e) → xMach G π J_X12_answer (d + 3) C Z 164 [(0, .ref e.1), (3, .int e.2.1)] [] e.2.2 Q) (hC : ∀ e : (Nat × Int32 × xM), x = Sum.inr (Sum.inr e) → xMach G π J_X12_answer (d + 3) C Z 91 [(0, .ref e.1), (3, .int e.2.1)] [] e.2.2 Q) : xMach G π J_X12_answer (d + 3) C Z 120 [(0, .ref l0), (3, .int l3)] [.int s0] σ Q := by
  unfold f_X12_answer_j120 at hf
  refine xm_istore dX12_answer_120 (by decide) (xm_stL (L' := [(4, .int s0), (0, .ref l0), (3, .int l3)]) rfl ?_)
  refine xm_aload_n dX12_answer_122 rfl ?_
  refine xm_iload dX12_answer_123 rfl ?_
  refine xm_bipush dX12_answer_125 (v := 10) (by decide) ?_
  refine xb_icmp_ge 138 dX12_answer_127 (by decide) hf (fun c hf => ?_) (fun c hf => ?_)
  · refine xm_bipush dX12_answer_138 (v := 97) (by decide) ?_
    refine xm_iload dX12_answer_140 rfl ?_
    refine xm_iadd dX12_answer_142 ?_
    refine xm_bipush dX12_answer_143 (v := 10) (by decide) ?_
    refine xm_isub dX12_answer_145 ?_
    exact xm_sub [1, 2] rfl (L_X12_answer_j146 σ l0 l3 (((97 : Int32) + s0) - (10 : Int32)) l0 hf hR hE hC)
  · refine xm_bipush dX12_answer_130 (v := 48) (by decide) ?_
    refine xm_iload dX12_answer_132 rfl ?_
    refine xm_iadd dX12_answer_134 ?_
    refine xm_goto 146 dX12_answer_135 (by decide) ?_
    exact xm_sub [1, 2] rfl (L_X12_answer_j146 σ l0 l3 ((48 : Int32) + s0) l0 hf hR hE hC)
def f_X12_answer_s91 (s : (Nat × Int32 × xM)) : Option ((Int32 × xM) ⊕ ((Nat × Int32 × xM) ⊕ (Nat × Int32 × xM))) :=
  xlet s.1 (fun l0 => xlet s.2.1 (fun l3 => xlet s.2.2 (fun σ => (if xk σ l0 12 = true then (f_X12_divide σ l0 (4 : Int32) (5 : Int32) (2 : Int32) (3 : Int32)).bind (fun p7 => (gR p7 l0 12 2).bind (fun x8 => (aI p7 x8 14 (5 : Int32)).bind (fun x9 => (if x9 = (0 : Int32) then f_X12_answer_j120 p7 l0 l3 (0 : Int32) else (gR p7 l0 12 1).bind (fun x10 => (aI p7 x10 14 (2200 : Int32)).bind (fun x11 => f_X12_answer_j120 p7 l0 l3 x11)))))) else none))))
set_option maxHeartbeats 4000000 in
set_option maxRecDepth 20000 in
theorem L_X12_answer_s91 {G : xG} {π : Nat → Nat} {d C Z : Nat} {Q : xQ} (σ : xM) (l0 : Nat) (l3 : Int32) {x : ((Int32 × xM) ⊕ ((Nat × Int32 × xM) ⊕ (Nat × Int32 × xM)))} (hf : f_X12_answer_s91 (l0, l3, σ) = some x) (hR : ∀ g, x = Sum.inl (g) → Q (.inl (some (.int g.1))) (g.2) π) (hE : ∀ e : (Nat × Int32 × xM), x = Sum.inr (Sum.inl e) → xMach G π J_X12_answer (d + 3) C Z 164 [(0, .ref e.1), (3, .int e.2.1)] [] e.2.2 Q) (hC : ∀ e : (Nat × Int32 × xM), x = Sum.inr (Sum.inr e) → xMach G π J_X12_answer (d + 3) C Z 91 [(0, .ref e.1), (3, .int e.2.1)] [] e.2.2 Q) : xMach G π J_X12_answer (d + 3) C Z 91 [(0, .ref l0), (3, .int l3)] [] σ Q := by
  have hf : (if xk σ l0 12 = true then (f_X12_divide σ l0 (4 : Int32) (5 : Int32) (2 : Int32) (3 : Int32)).bind (fun p7 => (gR p7 l0 12 2).bind (fun x8 => (aI p7 x8 14 (5 : Int32)).bind (fun x9 => (if x9 = (0 : Int32) then f_X12_answer_j120 p7 l0 l3 (0 : Int32) else (gR p7 l0 12 1).bind (fun x10 => (aI p7 x10 14 (2200 : Int32)).bind (fun x11 => f_X12_answer_j120 p7 l0 l3 x11)))))) else none) = some x := hf
  refine xm_aload_n dX12_answer_91 rfl ?_
  refine xm_iconst dX12_answer_92 (v := 4) (by decide) ?_
  refine xm_iconst dX12_answer_93 (v := 5) (by decide) ?_
  refine xm_iconst dX12_answer_94 (v := 2) (by decide) ?_
  refine xm_iconst dX12_answer_95 (v := 3) (by decide) ?_
  refine xb_if hf (fun hb hf => ?_) (fun _ q => nomatch q)
  obtain ⟨p7, ep7, hf⟩ := xbind hf
  refine xb_callV (As := [.int (4 : Int32), .int (5 : Int32), .int (2 : Int32), .int (3 : Int32)]) (v0 := none) (τ0 := p7) dX12_answer_96 (xc_X12_divide _ _) xcl12 xw_2464 xw_2466 xs_160 hb rfl (Nat.le_of_ble_eq_true rfl) rfl (Nat.le_of_ble_eq_true rfl) (fun Q1 hq => m_X12_divide (d := d + 0) ep7 (fun g hg => by subst hg; exact hq)) ?_
  refine xm_aload_n dX12_answer_99 rfl ?_
  refine xb_getR (a := l0) (c := 12) (k := 2) dX12_answer_100 xcl12 (by decide) xw_1839 rfl hf (fun x8 ex8 hf => ?_)
  refine xm_iconst dX12_answer_103 (v := 5) (by decide) ?_
  refine xb_iald dX12_answer_104 hf (fun x9 ex9 hf => ?_)
  refine xb_if_ne 112 dX12_answer_105 (by decide) hf (fun c hf => ?_) (fun c hf => ?_)
  · refine xm_aload_n dX12_answer_112 rfl ?_
    refine xb_getR (a := l0) (c := 12) (k := 1) dX12_answer_113 xcl12 (by decide) xw_1838 rfl hf (fun x10 ex10 hf => ?_)
    refine xm_sipush dX12_answer_116 (v := 2200) (by decide) ?_
    refine xb_iald dX12_answer_119 hf (fun x11 ex11 hf => ?_)
    exact xm_sub [0, 1] rfl (L_X12_answer_j120 p7 l0 l3 x11 hf hR hE hC)
  · refine xm_iconst dX12_answer_108 (v := 0) (by decide) ?_
    refine xm_goto 120 dX12_answer_109 (by decide) ?_
    exact xm_sub [0, 1] rfl (L_X12_answer_j120 p7 l0 l3 (0 : Int32) hf hR hE hC)
theorem L_X12_answer_l91 {G : xG} {π : Nat → Nat} {d C Z : Nat} {Q : xQ} {s0 : (Nat × Int32 × xM)} {x : ((Int32 × xM) ⊕ (Nat × Int32 × xM))} (h1 : xloop (f_X12_answer_s91) xF s0 = some x) (hR : ∀ g, x = Sum.inl g → Q (.inl (some (.int g.1))) (g.2) π) (hE : ∀ e : (Nat × Int32 × xM), x = Sum.inr e → xMach G π J_X12_answer (d + 3) C Z 164 [(0, .ref e.1), (3, .int e.2.1)] [] e.2.2 Q) : xMach G π J_X12_answer (d + 3) C Z 91 [(0, .ref s0.1), (3, .int s0.2.1)] [] s0.2.2 Q := by
  refine xloop_run (M := (fun s : (Nat × Int32 × xM) => xMach G π J_X12_answer (d + 3) C Z 91 [(0, .ref s.1), (3, .int s.2.1)] [] s.2.2 Q)) (r := x) ?_ xF _ h1
  intro s y hs hx
  exact L_X12_answer_s91 s.2.2 s.1 s.2.1 (x := y) hs (fun g hg => by subst hg; exact hR g hx) (fun e he => by subst he; exact hE e hx) (fun e he => by subst he; exact hx)
def f_X12_answer_s167 (s : (Nat × Int32 × Int32 × xM)) : Option ((Int32 × xM) ⊕ ((Nat × xM) ⊕ (Nat × Int32 × Int32 × xM))) :=
  xlet s.1 (fun l0 => xlet s.2.1 (fun l3 => xlet s.2.2.1 (fun l4 => xlet s.2.2.2 (fun σ => (gI σ l0 12 42).bind (fun x17 => (if ((x17 - l3) / (2 : Int32)) ≤ l4 then some (Sum.inr (Sum.inl (l0, σ))) else (gR σ l0 12 41).bind (fun x18 => (aI σ x18 14 (l3 + l4)).bind (fun x19 => (gR σ l0 12 41).bind (fun x20 => (gR σ l0 12 41).bind (fun x21 => (gI σ l0 12 42).bind (fun x22 => (aI σ x21 14 ((x22 - (1 : Int32)) - l4)).bind (fun x23 => (wI σ x20 (l3 + l4) x23).bind (fun σ24 => (gR σ24 l0 12 41).bind (fun x25 => (gI σ24 l0 12 42).bind (fun x26 => (wI σ24 x25 ((x26 - (1 : Int32)) - l4) x19).bind (fun σ27 => xlet (l4 + (1 : Int32)) (fun v28 => some (Sum.inr (Sum.inr (l0, l3, v28, σ27))))))))))))))))))))
set_option maxHeartbeats 4000000 in
set_option maxRecDepth 20000 in
theorem L_X12_answer_s167 {G : xG} {π : Nat → Nat} {d C Z : Nat} {Q : xQ} (σ : xM) (l0 : Nat) (l3 : Int32) (l4 : Int32) {x : ((Int32 × xM) ⊕ ((Nat × xM) ⊕ (Nat × Int32 × Int32 × xM)))} (hf : f_X12_answer_s167 (l0, l3, l4, σ) = some x) (hR : ∀ g, x = Sum.inl (g) → Q (.inl (some (.int g.1))) (g.2) π) (hE : ∀ e : (Nat × xM), x = Sum.inr (Sum.inl e) → xMach G π J_X12_answer (d + 3) C Z 236 [(0, .ref e.1)] [] e.2 Q) (hC : ∀ e : (Nat × Int32 × Int32 × xM), x = Sum.inr (Sum.inr e) → xMach G π J_X12_answer (d + 3) C Z 167 [(0, .ref e.1), (3, .int e.2.1), (4, .int e.2.2.1)] [] e.2.2.2 Q) : xMach G π J_X12_answer (d + 3) C Z 167 [(0, .ref l0), (3, .int l3), (4, .int l4)] [] σ Q := by
  have hf : (gI σ l0 12 42).bind (fun x17 => (if ((x17 - l3) / (2 : Int32)) ≤ l4 then some (Sum.inr (Sum.inl (l0, σ))) else (gR σ l0 12 41).bind (fun x18 => (aI σ x18 14 (l3 + l4)).bind (fun x19 => (gR σ l0 12 41).bind (fun x20 => (gR σ l0 12 41).bind (fun x21 => (gI σ l0 12 42).bind (fun x22 => (aI σ x21 14 ((x22 - (1 : Int32)) - l4)).bind (fun x23 => (wI σ x20 (l3 + l4) x23).bind (fun σ24 => (gR σ24 l0 12 41).bind (fun x25 => (gI σ24 l0 12 42).bind (fun x26 => (wI σ24 x25 ((x26 - (1 : Int32)) - l4) x19).bind (fun σ27 => xlet (l4 + (1 : Int32)) (fun v28 => some (Sum.inr (Sum.inr (l0, l3, v28, σ27)))))))))))))))) = some x := hf
  refine xm_iload dX12_answer_167 rfl ?_
  refine xm_aload_n dX12_answer_169 rfl ?_
  refine xb_getI (a := l0) (c := 12) (k := 42) dX12_answer_170 xcl12 (by decide) xw_1879 rfl hf (fun x17 ex17 hf => ?_)
  refine xm_iload_n dX12_answer_173 rfl ?_
  refine xm_isub dX12_answer_174 ?_
  refine xm_iconst dX12_answer_175 (v := 2) (by decide) ?_
  refine xm_idiv dX12_answer_176 (by decide) ?_
  refine xb_icmp_ge 236 dX12_answer_177 (by decide) hf (fun c hf => ?_) (fun c hf => ?_)
  · cases hf
    exact xm_sub [0] rfl (hE _ rfl)
  · refine xm_aload_n dX12_answer_180 rfl ?_
    refine xb_getR (a := l0) (c := 12) (k := 41) dX12_answer_181 xcl12 (by decide) xw_1878 rfl hf (fun x18 ex18 hf => ?_)
    refine xm_iload_n dX12_answer_184 rfl ?_
    refine xm_iload dX12_answer_185 rfl ?_
    refine xm_iadd dX12_answer_187 ?_
    refine xb_iald dX12_answer_188 hf (fun x19 ex19 hf => ?_)
    refine xm_istore dX12_answer_189 (by decide) (xm_stL (L' := [(5, .int x19), (0, .ref l0), (3, .int l3), (4, .int l4)]) rfl ?_)
    refine xm_aload_n dX12_answer_191 rfl ?_
    refine xb_getR (a := l0) (c := 12) (k := 41) dX12_answer_192 xcl12 (by decide) xw_1878 rfl hf (fun x20 ex20 hf => ?_)
    refine xm_iload_n dX12_answer_195 rfl ?_
    refine xm_iload dX12_answer_196 rfl ?_
    refine xm_iadd dX12_answer_198 ?_
    refine xm_aload_n dX12_answer_199 rfl ?_
    refine xb_getR (a := l0) (c := 12) (k := 41) dX12_answer_200 xcl12 (by decide) xw_1878 rfl hf (fun x21 ex21 hf => ?_)
    refine xm_aload_n dX12_answer_203 rfl ?_
    refine xb_getI (a := l0) (c := 12) (k := 42) dX12_answer_204 xcl12 (by decide) xw_1879 rfl hf (fun x22 ex22 hf => ?_)
    refine xm_iconst dX12_answer_207 (v := 1) (by decide) ?_
    refine xm_isub dX12_answer_208 ?_
    refine xm_iload dX12_answer_209 rfl ?_
    refine xm_isub dX12_answer_211 ?_
    refine xb_iald dX12_answer_212 hf (fun x23 ex23 hf => ?_)
    refine xb_iast dX12_answer_213 hf (fun σ24 eσ24 hf => ?_)
    refine xm_aload_n dX12_answer_214 rfl ?_
    refine xb_getR (a := l0) (c := 12) (k := 41) dX12_answer_215 xcl12 (by decide) xw_1878 rfl hf (fun x25 ex25 hf => ?_)
    refine xm_aload_n dX12_answer_218 rfl ?_
    refine xb_getI (a := l0) (c := 12) (k := 42) dX12_answer_219 xcl12 (by decide) xw_1879 rfl hf (fun x26 ex26 hf => ?_)
    refine xm_iconst dX12_answer_222 (v := 1) (by decide) ?_
    refine xm_isub dX12_answer_223 ?_
    refine xm_iload dX12_answer_224 rfl ?_
    refine xm_isub dX12_answer_226 ?_
    refine xm_iload dX12_answer_227 rfl ?_
    refine xb_iast dX12_answer_229 hf (fun σ27 eσ27 hf => ?_)
    refine xb_iinc dX12_answer_230 rfl (by decide) (by decide) hf (fun v28 ev28 hf => xm_stL (L' := [(4, .int v28), (5, .int x19), (0, .ref l0), (3, .int l3)]) rfl ?_)
    refine xm_goto 167 dX12_answer_233 (by decide) ?_
    cases hf
    exact xm_sub [2, 3, 0] rfl (hC _ rfl)
theorem L_X12_answer_l167 {G : xG} {π : Nat → Nat} {d C Z : Nat} {Q : xQ} {s0 : (Nat × Int32 × Int32 × xM)} {x : ((Int32 × xM) ⊕ (Nat × xM))} (h1 : xloop (f_X12_answer_s167) xF s0 = some x) (hR : ∀ g, x = Sum.inl g → Q (.inl (some (.int g.1))) (g.2) π) (hE : ∀ e : (Nat × xM), x = Sum.inr e → xMach G π J_X12_answer (d + 3) C Z 236 [(0, .ref e.1)] [] e.2 Q) : xMach G π J_X12_answer (d + 3) C Z 167 [(0, .ref s0.1), (3, .int s0.2.1), (4, .int s0.2.2.1)] [] s0.2.2.2 Q := by
  refine xloop_run (M := (fun s : (Nat × Int32 × Int32 × xM) => xMach G π J_X12_answer (d + 3) C Z 167 [(0, .ref s.1), (3, .int s.2.1), (4, .int s.2.2.1)] [] s.2.2.2 Q)) (r := x) ?_ xF _ h1
  intro s y hs hx
  exact L_X12_answer_s167 s.2.2.2 s.1 s.2.1 s.2.2.1 (x := y) hs (fun g hg => by subst hg; exact hR g hx) (fun e he => by subst he; exact hE e hx) (fun e he => by subst he; exact hx)
def f_X12_answer_j236 (σ : xM) (l0 : Nat) : Option (Int32 × xM) :=
  (gI σ l0 12 42).bind (fun x29 => some (x29, σ))
set_option maxHeartbeats 4000000 in
set_option maxRecDepth 20000 in
theorem L_X12_answer_j236 {G : xG} {π : Nat → Nat} {d C Z : Nat} {Q : xQ} (σ : xM) (l0 : Nat) {x : (Int32 × xM)} (hf : f_X12_answer_j236 σ l0 = some x) (hR : ∀ g, x = g → Q (.inl (some (.int g.1))) (g.2) π) : xMach G π J_X12_answer (d + 3) C Z 236 [(0, .ref l0)] [] σ Q := by
  unfold f_X12_answer_j236 at hf
  refine xm_aload_n dX12_answer_236 rfl ?_
  refine xb_getI (a := l0) (c := 12) (k := 42) dX12_answer_237 xcl12 (by decide) xw_1879 rfl hf (fun x29 ex29 hf => ?_)
  cases hf
  exact xm_iret dX12_answer_240 rfl (hR _ rfl)
def f_X12_answer_j164 (σ : xM) (l0 : Nat) (l3 : Int32) : Option (Int32 × xM) :=
  xlet (0 : Int32) (fun v16 => (xloop (f_X12_answer_s167 ) xF (l0, l3, v16, σ)).bind (Sum.elim (fun g => some g) (fun e => f_X12_answer_j236 e.2 e.1)))
set_option maxHeartbeats 4000000 in
set_option maxRecDepth 20000 in
theorem L_X12_answer_j164 {G : xG} {π : Nat → Nat} {d C Z : Nat} {Q : xQ} (σ : xM) (l0 : Nat) (l3 : Int32) {x : (Int32 × xM)} (hf : f_X12_answer_j164 σ l0 l3 = some x) (hR : ∀ g, x = g → Q (.inl (some (.int g.1))) (g.2) π) : xMach G π J_X12_answer (d + 3) C Z 164 [(0, .ref l0), (3, .int l3)] [] σ Q := by
  unfold f_X12_answer_j164 at hf
  refine xm_iconst dX12_answer_164 (v := 0) (by decide) ?_
  refine xb_topi hf (fun v16 ev16 hf => ?_)
  refine xm_istore dX12_answer_165 (by decide) (xm_stL (L' := [(4, .int v16), (0, .ref l0), (3, .int l3)]) rfl ?_)
  obtain ⟨o, h1, hf⟩ := xbind hf
  refine xm_sub [1, 2, 0] rfl (L_X12_answer_l167  h1 (fun g hg => ?_) (fun e he => ?_))
  · subst hg
    cases hf
    exact hR _ rfl
  · subst he
    rw [Sum.elim_inr] at hf
    have hf : f_X12_answer_j236 e.2 e.1 = some _ := hf
    exact xm_sub [0] rfl (L_X12_answer_j236 e.2 e.1 hf hR)
def f_X12_answer_j80 (σ : xM) (l0 : Nat) (l2 : Int32) : Option (Int32 × xM) :=
  (gI σ l0 12 42).bind (fun x5 => (if xk σ l0 12 = true then (f_X12_put σ l0 (3 : Int32) l2).bind (fun p6 => (xloop (f_X12_answer_s91 ) xF (l0, x5, p6)).bind (Sum.elim (fun g => some g) (fun e => f_X12_answer_j164 e.2.2 e.1 e.2.1))) else none))
set_option maxHeartbeats 4000000 in
set_option maxRecDepth 20000 in
theorem L_X12_answer_j80 {G : xG} {π : Nat → Nat} {d C Z : Nat} {Q : xQ} (σ : xM) (l0 : Nat) (l2 : Int32) {x : (Int32 × xM)} (hf : f_X12_answer_j80 σ l0 l2 = some x) (hR : ∀ g, x = g → Q (.inl (some (.int g.1))) (g.2) π) : xMach G π J_X12_answer (d + 3) C Z 80 [(0, .ref l0), (2, .int l2)] [] σ Q := by
  unfold f_X12_answer_j80 at hf
  refine xm_aload_n dX12_answer_80 rfl ?_
  refine xb_getI (a := l0) (c := 12) (k := 42) dX12_answer_81 xcl12 (by decide) xw_1879 rfl hf (fun x5 ex5 hf => ?_)
  refine xm_istore_n dX12_answer_84 (by decide) (xm_stL (L' := [(3, .int x5), (0, .ref l0), (2, .int l2)]) rfl ?_)
  refine xm_aload_n dX12_answer_85 rfl ?_
  refine xm_iconst dX12_answer_86 (v := 3) (by decide) ?_
  refine xm_iload_n dX12_answer_87 rfl ?_
  refine xb_if hf (fun hb hf => ?_) (fun _ q => nomatch q)
  obtain ⟨p6, ep6, hf⟩ := xbind hf
  refine xb_callV (As := [.int (3 : Int32), .int l2]) (v0 := none) (τ0 := p6) dX12_answer_88 (xc_X12_put _ _) xcl12 xw_1824 xw_1826 xs_85 hb rfl (Nat.le_of_ble_eq_true rfl) rfl (Nat.le_of_ble_eq_true rfl) (fun Q1 hq => m_X12_put (d := d + 1) ep6 (fun g hg => by subst hg; exact hq)) ?_
  obtain ⟨o, h1, hf⟩ := xbind hf
  refine xm_sub [1, 0] rfl (L_X12_answer_l91  h1 (fun g hg => ?_) (fun e he => ?_))
  · subst hg
    cases hf
    exact hR _ rfl
  · subst he
    rw [Sum.elim_inr] at hf
    have hf : f_X12_answer_j164 e.2.2 e.1 e.2.1 = some _ := hf
    exact xm_sub [0, 1] rfl (L_X12_answer_j164 e.2.2 e.1 e.2.1 hf hR)
def f_X12_answer_j61 (σ : xM) (l0 : Nat) (l1 : Int32) (l2 : Int32) : Option (Int32 × xM) :=
  (if l1 = (0 : Int32) then (if xk σ l0 12 = true then (f_X12_sign σ l0 (26 : Int32)).bind (fun p30 => (if (0 : Int32) ≤ p30 then f_X12_answer_j80 σ l0 l2 else (if xk σ l0 12 = true then (f_X12_prints σ l0 (45 : Int32)).bind (fun p31 => f_X12_answer_j80 p31 l0 l2) else none))) else none) else f_X12_answer_j80 σ l0 l2)
set_option maxHeartbeats 4000000 in
set_option maxRecDepth 20000 in
theorem L_X12_answer_j61 {G : xG} {π : Nat → Nat} {d C Z : Nat} {Q : xQ} (σ : xM) (l0 : Nat) (l1 : Int32) (l2 : Int32) {x : (Int32 × xM)} (hf : f_X12_answer_j61 σ l0 l1 l2 = some x) (hR : ∀ g, x = g → Q (.inl (some (.int g.1))) (g.2) π) : xMach G π J_X12_answer (d + 3) C Z 61 [(0, .ref l0), (1, .int l1), (2, .int l2)] [] σ Q := by
  unfold f_X12_answer_j61 at hf
  refine xm_iload_n dX12_answer_61 rfl ?_
  refine xb_if_ne 80 dX12_answer_62 (by decide) hf (fun c hf => ?_) (fun c hf => ?_)
  · exact xm_sub [0, 2] rfl (L_X12_answer_j80 σ l0 l2 hf hR)
  · refine xm_aload_n dX12_answer_65 rfl ?_
    refine xm_bipush dX12_answer_66 (v := 26) (by decide) ?_
    refine xb_if hf (fun hb hf => ?_) (fun _ q => nomatch q)
    obtain ⟨p30, ep30, hf⟩ := xbind hf
    refine xb_callV (As := [.int (26 : Int32)]) (v0 := (some (.int p30))) (τ0 := σ) dX12_answer_68 (xc_X12_sign _ _) xcl12 xw_2387 xw_2389 xs_141 hb rfl (Nat.le_of_ble_eq_true rfl) rfl (Nat.le_of_ble_eq_true rfl) (fun Q1 hq => m_X12_sign (d := d + 2) ep30 (fun g hg => by subst hg; exact hq)) ?_
    refine xb_if_ge 80 dX12_answer_71 (by decide) hf (fun c hf => ?_) (fun c hf => ?_)
    · exact xm_sub [0, 2] rfl (L_X12_answer_j80 σ l0 l2 hf hR)
    · refine xm_aload_n dX12_answer_74 rfl ?_
      refine xm_bipush dX12_answer_75 (v := 45) (by decide) ?_
      refine xb_if hf (fun hb hf => ?_) (fun _ q => nomatch q)
      obtain ⟨p31, ep31, hf⟩ := xbind hf
      refine xb_callV (As := [.int (45 : Int32)]) (v0 := none) (τ0 := p31) dX12_answer_77 (xc_X12_prints _ _) xcl12 xw_2327 xw_2329 xs_129 hb rfl (Nat.le_of_ble_eq_true rfl) rfl (Nat.le_of_ble_eq_true rfl) (fun Q1 hq => m_X12_prints (d := d + 2) ep31 (fun g hg => by subst hg; exact hq)) ?_
      exact xm_sub [0, 2] rfl (L_X12_answer_j80 p31 l0 l2 hf hR)
def f_X12_answer_j25 (σ : xM) (l0 : Nat) (l1 : Int32) (l2 : Int32) (s0 : Int32) (s1 : Nat) : Option (Int32 × xM) :=
  (if xk σ s1 12 = true then (f_X12_refused σ s1 s0 (0 : Int32) (0 : Int32)).bind (fun p2 => (if p2.1 = (0 : Int32) then (sI p2.2 l0 12 42 (0 : Int32)).bind (fun σ3 => (if l1 = (0 : Int32) then (if xk σ3 l0 12 = true then (f_X12_loadNumerator σ3 l0 (2 : Int32) (26 : Int32)).bind (fun p32 => f_X12_answer_j61 p32 l0 l1 l2) else none) else (if xk σ3 l0 12 = true then (f_X12_loadDenominator σ3 l0 (2 : Int32) (26 : Int32)).bind (fun p4 => f_X12_answer_j61 p4 l0 l1 l2) else none))) else some ((0 : Int32), p2.2))) else none)
set_option maxHeartbeats 4000000 in
set_option maxRecDepth 20000 in
theorem L_X12_answer_j25 {G : xG} {π : Nat → Nat} {d C Z : Nat} {Q : xQ} (σ : xM) (l0 : Nat) (l1 : Int32) (l2 : Int32) (s0 : Int32) (s1 : Nat) {x : (Int32 × xM)} (hf : f_X12_answer_j25 σ l0 l1 l2 s0 s1 = some x) (hR : ∀ g, x = g → Q (.inl (some (.int g.1))) (g.2) π) : xMach G π J_X12_answer (d + 3) C Z 25 [(0, .ref l0), (1, .int l1), (2, .int l2)] [.int s0, .ref s1] σ Q := by
  unfold f_X12_answer_j25 at hf
  refine xm_iconst dX12_answer_25 (v := 0) (by decide) ?_
  refine xm_iconst dX12_answer_26 (v := 0) (by decide) ?_
  refine xb_if hf (fun hb hf => ?_) (fun _ q => nomatch q)
  obtain ⟨p2, ep2, hf⟩ := xbind hf
  refine xb_callV (As := [.int s0, .int (0 : Int32), .int (0 : Int32)]) (v0 := (some (.int p2.1))) (τ0 := p2.2) dX12_answer_27 (xc_X12_refused _ _) xcl12 xw_2112 xw_2114 xs_90 hb rfl (Nat.le_of_ble_eq_true rfl) rfl (Nat.le_of_ble_eq_true rfl) (fun Q1 hq => m_X12_refused (d := d + 2) ep2 (fun g hg => by subst hg; exact hq)) ?_
  refine xb_if_eq 35 dX12_answer_30 (by decide) hf (fun c hf => ?_) (fun c hf => ?_)
  · refine xm_aload_n dX12_answer_35 rfl ?_
    refine xm_iconst dX12_answer_36 (v := 0) (by decide) ?_
    refine xb_putI (a := l0) (c := 12) (k := 42) dX12_answer_37 xcl12 (by decide) xw_1879 rfl rfl hf (fun σ3 eσ3 hf => ?_)
    refine xm_iload_n dX12_answer_40 rfl ?_
    refine xb_if_ne 54 dX12_answer_41 (by decide) hf (fun c hf => ?_) (fun c hf => ?_)
    · refine xm_aload_n dX12_answer_54 rfl ?_
      refine xm_iconst dX12_answer_55 (v := 2) (by decide) ?_
      refine xm_bipush dX12_answer_56 (v := 26) (by decide) ?_
      refine xb_if hf (fun hb hf => ?_) (fun _ q => nomatch q)
      obtain ⟨p4, ep4, hf⟩ := xbind hf
      refine xb_callV (As := [.int (2 : Int32), .int (26 : Int32)]) (v0 := none) (τ0 := p4) dX12_answer_58 (xc_X12_loadDenominator _ _) xcl12 xw_2411 xw_2413 xs_147 hb rfl (Nat.le_of_ble_eq_true rfl) rfl (Nat.le_of_ble_eq_true rfl) (fun Q1 hq => m_X12_loadDenominator (d := d + 0) ep4 (fun g hg => by subst hg; exact hq)) ?_
      exact xm_sub [0, 1, 2] rfl (L_X12_answer_j61 p4 l0 l1 l2 hf hR)
    · refine xm_aload_n dX12_answer_44 rfl ?_
      refine xm_iconst dX12_answer_45 (v := 2) (by decide) ?_
      refine xm_bipush dX12_answer_46 (v := 26) (by decide) ?_
      refine xb_if hf (fun hb hf => ?_) (fun _ q => nomatch q)
      obtain ⟨p32, ep32, hf⟩ := xbind hf
      refine xb_callV (As := [.int (2 : Int32), .int (26 : Int32)]) (v0 := none) (τ0 := p32) dX12_answer_48 (xc_X12_loadNumerator _ _) xcl12 xw_2403 xw_2405 xs_145 hb rfl (Nat.le_of_ble_eq_true rfl) rfl (Nat.le_of_ble_eq_true rfl) (fun Q1 hq => m_X12_loadNumerator (d := d + 0) ep32 (fun g hg => by subst hg; exact hq)) ?_
      refine xm_goto 61 dX12_answer_51 (by decide) ?_
      exact xm_sub [0, 1, 2] rfl (L_X12_answer_j61 p32 l0 l1 l2 hf hR)
  · refine xm_iconst dX12_answer_33 (v := 0) (by decide) ?_
    cases hf
    exact xm_iret dX12_answer_34 rfl (hR _ rfl)
def f_X12_answer_j20 (σ : xM) (l0 : Nat) (l1 : Int32) (l2 : Int32) (s0 : Nat) : Option (Int32 × xM) :=
  f_X12_answer_j25 σ l0 l1 l2 (1 : Int32) s0
set_option maxHeartbeats 4000000 in
set_option maxRecDepth 20000 in
theorem L_X12_answer_j20 {G : xG} {π : Nat → Nat} {d C Z : Nat} {Q : xQ} (σ : xM) (l0 : Nat) (l1 : Int32) (l2 : Int32) (s0 : Nat) {x : (Int32 × xM)} (hf : f_X12_answer_j20 σ l0 l1 l2 s0 = some x) (hR : ∀ g, x = g → Q (.inl (some (.int g.1))) (g.2) π) : xMach G π J_X12_answer (d + 3) C Z 20 [(0, .ref l0), (1, .int l1), (2, .int l2)] [.ref s0] σ Q := by
  unfold f_X12_answer_j20 at hf
  refine xm_iconst dX12_answer_20 (v := 1) (by decide) ?_
  refine xm_goto 25 dX12_answer_21 (by decide) ?_
  exact xm_sub [0, 1, 2] rfl (L_X12_answer_j25 σ l0 l1 l2 (1 : Int32) s0 hf hR)
def f_X12_answer (σ : xM) (l0 : Nat) (l1 : Int32) (l2 : Int32) : Option (Int32 × xM) :=
  (f_X12_in σ l1 (0 : Int32) (1 : Int32)).bind (fun p1 => (if p1 = (0 : Int32) then f_X12_answer_j20 σ l0 l1 l2 l0 else (f_X12_in σ l2 (2 : Int32) (36 : Int32)).bind (fun p33 => (if p33 = (0 : Int32) then f_X12_answer_j20 σ l0 l1 l2 l0 else f_X12_answer_j25 σ l0 l1 l2 (0 : Int32) l0))))
set_option maxHeartbeats 4000000 in
set_option maxRecDepth 20000 in
theorem m_X12_answer {G : xG} {π : Nat → Nat} {d C Z : Nat} {Q : xQ} {σ : xM} {l0 : Nat} {l1 : Int32} {l2 : Int32} {x : (Int32 × xM)} (hf : f_X12_answer σ l0 l1 l2 = some x) (hR : ∀ g, x = g → Q (.inl (some (.int g.1))) (g.2) π) : xMach G π J_X12_answer (d + 3) C Z 0 (lv_args 0 [.ref l0, .int l1, .int l2]) [] σ Q := by
  unfold f_X12_answer at hf
  refine xm_stL (L' := [(0, .ref l0), (1, .int l1), (2, .int l2)]) rfl ?_
  refine xm_aload_n dX12_answer_0 rfl ?_
  refine xm_iload_n dX12_answer_1 rfl ?_
  refine xm_iconst dX12_answer_2 (v := 0) (by decide) ?_
  refine xm_iconst dX12_answer_3 (v := 1) (by decide) ?_
  obtain ⟨p1, ep1, hf⟩ := xbind hf
  refine xb_callS (As := [.int l1, .int (0 : Int32), .int (1 : Int32)]) (v0 := (some (.int p1))) (τ0 := σ) dX12_answer_4 (xc_X12_in _ _) xw_2132 xw_2133 rfl (Nat.le_of_ble_eq_true rfl) rfl (Nat.le_of_ble_eq_true rfl) (fun Q1 hq => m_X12_in (d := d + 2) ep1 (fun g hg => by subst hg; exact hq)) ?_
  refine xb_if_eq 20 dX12_answer_7 (by decide) hf (fun c hf => ?_) (fun c hf => ?_)
  · exact xm_sub [0, 1, 2] rfl (L_X12_answer_j20 σ l0 l1 l2 l0 hf hR)
  · refine xm_iload_n dX12_answer_10 rfl ?_
    refine xm_iconst dX12_answer_11 (v := 2) (by decide) ?_
    refine xm_bipush dX12_answer_12 (v := 36) (by decide) ?_
    obtain ⟨p33, ep33, hf⟩ := xbind hf
    refine xb_callS (As := [.int l2, .int (2 : Int32), .int (36 : Int32)]) (v0 := (some (.int p33))) (τ0 := σ) dX12_answer_14 (xc_X12_in _ _) xw_2132 xw_2133 rfl (Nat.le_of_ble_eq_true rfl) rfl (Nat.le_of_ble_eq_true rfl) (fun Q1 hq => m_X12_in (d := d + 2) ep33 (fun g hg => by subst hg; exact hq)) ?_
    refine xb_if_ne 24 dX12_answer_17 (by decide) hf (fun c hf => ?_) (fun c hf => ?_)
    · refine xm_iconst dX12_answer_24 (v := 0) (by decide) ?_
      exact xm_sub [0, 1, 2] rfl (L_X12_answer_j25 σ l0 l1 l2 (0 : Int32) l0 hf hR)
    · exact xm_sub [0, 1, 2] rfl (L_X12_answer_j20 σ l0 l1 l2 l0 hf hR)
-- RankwiseModel.let(CI)I
def f_X12_let_j76 (σ : xM) (l3 : Int32) : Option (Int32 × xM) :=
  some (l3, σ)
set_option maxHeartbeats 4000000 in
set_option maxRecDepth 20000 in
theorem L_X12_let_j76 {G : xG} {π : Nat → Nat} {d C Z : Nat} {Q : xQ} (σ : xM) (l3 : Int32) {x : (Int32 × xM)} (hf : f_X12_let_j76 σ l3 = some x) (hR : ∀ g, x = g → Q (.inl (some (.int g.1))) (g.2) π) : xMach G π J_X12_let (d + 11) C Z 76 [(3, .int l3)] [] σ Q := by
  unfold f_X12_let_j76 at hf
  refine xm_iload_n dX12_let_76 rfl ?_
  cases hf
  exact xm_iret dX12_let_77 rfl (hR _ rfl)
def f_X12_let_j26 (σ : xM) (l0 : Nat) (l1 : Int32) (l2 : Int32) (s0 : Int32) (s1 : Int32) (s2 : Nat) : Option (Int32 × xM) :=
  (if xk σ s2 12 = true then (f_X12_refused σ s2 s1 s0 (0 : Int32)).bind (fun p3 => (if p3.1 = (0 : Int32) then (f_X12_shelf p3.2 l2).bind (fun p4 => (if xk p3.2 l0 12 = true then (f_X12_run p3.2 l0 p4).bind (fun p5 => (if p5.1 = (0 : Int32) then (if xk p5.2 l0 12 = true then (f_X12_noteValue p5.2 l0 (l1 - (97 : Int32))).bind (fun p6 => (gR p6 l0 12 47).bind (fun x7 => (wZ p6 x7 (l1 - (97 : Int32)) (1 : Int32)).bind (fun σ8 => (if xk σ8 l0 12 = true then (f_X12_copyValue σ8 l0 (l1 - (97 : Int32)) (60 : Int32)).bind (fun p9 => f_X12_let_j76 p9 p5.1) else none)))) else none) else f_X12_let_j76 p5.2 p5.1)) else none)) else some ((0 : Int32), p3.2))) else none)
set_option maxHeartbeats 4000000 in
set_option maxRecDepth 20000 in
theorem L_X12_let_j26 {G : xG} {π : Nat → Nat} {d C Z : Nat} {Q : xQ} (σ : xM) (l0 : Nat) (l1 : Int32) (l2 : Int32) (s0 : Int32) (s1 : Int32) (s2 : Nat) {x : (Int32 × xM)} (hf : f_X12_let_j26 σ l0 l1 l2 s0 s1 s2 = some x) (hR : ∀ g, x = g → Q (.inl (some (.int g.1))) (g.2) π) : xMach G π J_X12_let (d + 11) C Z 26 [(0, .ref l0), (1, .int l1), (2, .int l2)] [.int s0, .int s1, .ref s2] σ Q := by
  unfold f_X12_let_j26 at hf
  refine xm_iconst dX12_let_26 (v := 0) (by decide) ?_
  refine xb_if hf (fun hb hf => ?_) (fun _ q => nomatch q)
  obtain ⟨p3, ep3, hf⟩ := xbind hf
  refine xb_callV (As := [.int s1, .int s0, .int (0 : Int32)]) (v0 := (some (.int p3.1))) (τ0 := p3.2) dX12_let_27 (xc_X12_refused _ _) xcl12 xw_2112 xw_2114 xs_90 hb rfl (Nat.le_of_ble_eq_true rfl) rfl (Nat.le_of_ble_eq_true rfl) (fun Q1 hq => m_X12_refused (d := d + 10) ep3 (fun g hg => by subst hg; exact hq)) ?_
  refine xb_if_eq 35 dX12_let_30 (by decide) hf (fun c hf => ?_) (fun c hf => ?_)
  · refine xm_aload_n dX12_let_35 rfl ?_
    refine xm_iload_n dX12_let_36 rfl ?_
    obtain ⟨p4, ep4, hf⟩ := xbind hf
    refine xb_callS (As := [.int l2]) (v0 := (some (.int p4))) (τ0 := p3.2) dX12_let_37 (xc_X12_shelf _ _) xw_2214 xw_2215 rfl (Nat.le_of_ble_eq_true rfl) rfl (Nat.le_of_ble_eq_true rfl) (fun Q1 hq => m_X12_shelf (d := d + 10) ep4 (fun g hg => by subst hg; exact hq)) ?_
    refine xb_if hf (fun hb hf => ?_) (fun _ q => nomatch q)
    obtain ⟨p5, ep5, hf⟩ := xbind hf
    refine xb_callV (As := [.int p4]) (v0 := (some (.int p5.1))) (τ0 := p5.2) dX12_let_40 (xc_X12_run _ _) xcl12 xw_2359 xw_2361 xs_134 hb rfl (Nat.le_of_ble_eq_true rfl) rfl (Nat.le_of_ble_eq_true rfl) (fun Q1 hq => m_X12_run (d := d + 0) ep5 (fun g hg => by subst hg; exact hq)) ?_
    refine xm_istore_n dX12_let_43 (by decide) (xm_stL (L' := [(3, .int p5.1), (0, .ref l0), (1, .int l1), (2, .int l2)]) rfl ?_)
    refine xm_iload_n dX12_let_44 rfl ?_
    refine xb_if_ne 76 dX12_let_45 (by decide) hf (fun c hf => ?_) (fun c hf => ?_)
    · exact xm_sub [0] rfl (L_X12_let_j76 p5.2 p5.1 hf hR)
    · refine xm_aload_n dX12_let_48 rfl ?_
      refine xm_iload_n dX12_let_49 rfl ?_
      refine xm_bipush dX12_let_50 (v := 97) (by decide) ?_
      refine xm_isub dX12_let_52 ?_
      refine xb_if hf (fun hb hf => ?_) (fun _ q => nomatch q)
      obtain ⟨p6, ep6, hf⟩ := xbind hf
      refine xb_callV (As := [.int (l1 - (97 : Int32))]) (v0 := none) (τ0 := p6) dX12_let_53 (xc_X12_noteValue _ _) xcl12 xw_2556 xw_2558 xs_179 hb rfl (Nat.le_of_ble_eq_true rfl) rfl (Nat.le_of_ble_eq_true rfl) (fun Q1 hq => m_X12_noteValue (d := d + 9) ep6 (fun g hg => by subst hg; exact hq)) ?_
      refine xm_aload_n dX12_let_56 rfl ?_
      refine xb_getR (a := l0) (c := 12) (k := 47) dX12_let_57 xcl12 (by decide) xw_1884 rfl hf (fun x7 ex7 hf => ?_)
      refine xm_iload_n dX12_let_60 rfl ?_
      refine xm_bipush dX12_let_61 (v := 97) (by decide) ?_
      refine xm_isub dX12_let_63 ?_
      refine xm_iconst dX12_let_64 (v := 1) (by decide) ?_
      refine xb_zast dX12_let_65 hf (fun σ8 eσ8 hf => ?_)
      refine xm_aload_n dX12_let_66 rfl ?_
      refine xm_iload_n dX12_let_67 rfl ?_
      refine xm_bipush dX12_let_68 (v := 97) (by decide) ?_
      refine xm_isub dX12_let_70 ?_
      refine xm_bipush dX12_let_71 (v := 60) (by decide) ?_
      refine xb_if hf (fun hb hf => ?_) (fun _ q => nomatch q)
      obtain ⟨p9, ep9, hf⟩ := xbind hf
      refine xb_callV (As := [.int (l1 - (97 : Int32)), .int (60 : Int32)]) (v0 := none) (τ0 := p9) dX12_let_73 (xc_X12_copyValue _ _) xcl12 xw_2100 xw_2102 xs_88 hb rfl (Nat.le_of_ble_eq_true rfl) rfl (Nat.le_of_ble_eq_true rfl) (fun Q1 hq => m_X12_copyValue (d := d + 10) ep9 (fun g hg => by subst hg; exact hq)) ?_
      exact xm_sub [0] rfl (L_X12_let_j76 p9 p5.1 hf hR)
  · refine xm_iconst dX12_let_33 (v := 0) (by decide) ?_
    cases hf
    exact xm_iret dX12_let_34 rfl (hR _ rfl)
def f_X12_let_j13 (σ : xM) (l0 : Nat) (l1 : Int32) (l2 : Int32) (s0 : Int32) (s1 : Nat) : Option (Int32 × xM) :=
  (if xk σ l0 12 = true then (f_X12_isTree σ l0 l2).bind (fun p2 => (if p2 = (0 : Int32) then f_X12_let_j26 σ l0 l1 l2 (1 : Int32) s0 s1 else f_X12_let_j26 σ l0 l1 l2 (0 : Int32) s0 s1)) else none)
set_option maxHeartbeats 4000000 in
set_option maxRecDepth 20000 in
theorem L_X12_let_j13 {G : xG} {π : Nat → Nat} {d C Z : Nat} {Q : xQ} (σ : xM) (l0 : Nat) (l1 : Int32) (l2 : Int32) (s0 : Int32) (s1 : Nat) {x : (Int32 × xM)} (hf : f_X12_let_j13 σ l0 l1 l2 s0 s1 = some x) (hR : ∀ g, x = g → Q (.inl (some (.int g.1))) (g.2) π) : xMach G π J_X12_let (d + 11) C Z 13 [(0, .ref l0), (1, .int l1), (2, .int l2)] [.int s0, .ref s1] σ Q := by
  unfold f_X12_let_j13 at hf
  refine xm_aload_n dX12_let_13 rfl ?_
  refine xm_iload_n dX12_let_14 rfl ?_
  refine xb_if hf (fun hb hf => ?_) (fun _ q => nomatch q)
  obtain ⟨p2, ep2, hf⟩ := xbind hf
  refine xb_callV (As := [.int l2]) (v0 := (some (.int p2))) (τ0 := σ) dX12_let_15 (xc_X12_isTree _ _) xcl12 xw_2233 xw_2235 xs_113 hb rfl (Nat.le_of_ble_eq_true rfl) rfl (Nat.le_of_ble_eq_true rfl) (fun Q1 hq => m_X12_isTree (d := d + 9) ep2 (fun g hg => by subst hg; exact hq)) ?_
  refine xb_if_ne 25 dX12_let_18 (by decide) hf (fun c hf => ?_) (fun c hf => ?_)
  · refine xm_iconst dX12_let_25 (v := 0) (by decide) ?_
    exact xm_sub [0, 1, 2] rfl (L_X12_let_j26 σ l0 l1 l2 (0 : Int32) s0 s1 hf hR)
  · refine xm_iconst dX12_let_21 (v := 1) (by decide) ?_
    refine xm_goto 26 dX12_let_22 (by decide) ?_
    exact xm_sub [0, 1, 2] rfl (L_X12_let_j26 σ l0 l1 l2 (1 : Int32) s0 s1 hf hR)
def f_X12_let (σ : xM) (l0 : Nat) (l1 : Int32) (l2 : Int32) : Option (Int32 × xM) :=
  (f_X12_isName σ l1).bind (fun p1 => (if p1 = (0 : Int32) then f_X12_let_j13 σ l0 l1 l2 (1 : Int32) l0 else f_X12_let_j13 σ l0 l1 l2 (0 : Int32) l0))
set_option maxHeartbeats 4000000 in
set_option maxRecDepth 20000 in
theorem m_X12_let {G : xG} {π : Nat → Nat} {d C Z : Nat} {Q : xQ} {σ : xM} {l0 : Nat} {l1 : Int32} {l2 : Int32} {x : (Int32 × xM)} (hf : f_X12_let σ l0 l1 l2 = some x) (hR : ∀ g, x = g → Q (.inl (some (.int g.1))) (g.2) π) : xMach G π J_X12_let (d + 11) C Z 0 (lv_args 0 [.ref l0, .int l1, .int l2]) [] σ Q := by
  unfold f_X12_let at hf
  refine xm_stL (L' := [(0, .ref l0), (1, .int l1), (2, .int l2)]) rfl ?_
  refine xm_aload_n dX12_let_0 rfl ?_
  refine xm_iload_n dX12_let_1 rfl ?_
  obtain ⟨p1, ep1, hf⟩ := xbind hf
  refine xb_callS (As := [.int l1]) (v0 := (some (.int p1))) (τ0 := σ) dX12_let_2 (xc_X12_isName _ _) xw_2257 xw_2258 rfl (Nat.le_of_ble_eq_true rfl) rfl (Nat.le_of_ble_eq_true rfl) (fun Q1 hq => m_X12_isName (d := d + 9) ep1 (fun g hg => by subst hg; exact hq)) ?_
  refine xb_if_ne 12 dX12_let_5 (by decide) hf (fun c hf => ?_) (fun c hf => ?_)
  · refine xm_iconst dX12_let_12 (v := 0) (by decide) ?_
    exact xm_sub [0, 1, 2] rfl (L_X12_let_j13 σ l0 l1 l2 (0 : Int32) l0 hf hR)
  · refine xm_iconst dX12_let_8 (v := 1) (by decide) ?_
    refine xm_goto 13 dX12_let_9 (by decide) ?_
    exact xm_sub [0, 1, 2] rfl (L_X12_let_j13 σ l0 l1 l2 (1 : Int32) l0 hf hR)
-- RankwiseModel.unlet(C)Z
def f_X12_unlet_j33 (σ : xM)  : Option (Int32 × xM) :=
  some ((0 : Int32), σ)
set_option maxHeartbeats 4000000 in
set_option maxRecDepth 20000 in
theorem L_X12_unlet_j33 {G : xG} {π : Nat → Nat} {d C Z : Nat} {Q : xQ} (σ : xM)  {x : (Int32 × xM)} (hf : f_X12_unlet_j33 σ = some x) (hR : ∀ g, x = g → Q (.inl (some (.int g.1))) (g.2) π) : xMach G π J_X12_unlet (d + 2) C Z 33 [] [] σ Q := by
  unfold f_X12_unlet_j33 at hf
  refine xm_iconst dX12_unlet_33 (v := 0) (by decide) ?_
  cases hf
  exact xm_zret dX12_unlet_34 rfl rfl (hR _ rfl)
def f_X12_unlet_j13 (σ : xM) (l0 : Nat) (l1 : Int32) (s0 : Int32) (s1 : Nat) : Option (Int32 × xM) :=
  (if xk σ s1 12 = true then (f_X12_refused σ s1 s0 (0 : Int32) (0 : Int32)).bind (fun p2 => (if p2.1 = (0 : Int32) then (gR p2.2 l0 12 47).bind (fun x3 => (aI p2.2 x3 15 (l1 - (97 : Int32))).bind (fun x4 => (if x4 = (0 : Int32) then f_X12_unlet_j33 p2.2 else (if xk p2.2 l0 12 = true then (f_X12_noteValue p2.2 l0 (l1 - (97 : Int32))).bind (fun p5 => (gR p5 l0 12 47).bind (fun x6 => (wZ p5 x6 (l1 - (97 : Int32)) (0 : Int32)).bind (fun σ7 => some ((1 : Int32), σ7)))) else none)))) else f_X12_unlet_j33 p2.2)) else none)
set_option maxHeartbeats 4000000 in
set_option maxRecDepth 20000 in
theorem L_X12_unlet_j13 {G : xG} {π : Nat → Nat} {d C Z : Nat} {Q : xQ} (σ : xM) (l0 : Nat) (l1 : Int32) (s0 : Int32) (s1 : Nat) {x : (Int32 × xM)} (hf : f_X12_unlet_j13 σ l0 l1 s0 s1 = some x) (hR : ∀ g, x = g → Q (.inl (some (.int g.1))) (g.2) π) : xMach G π J_X12_unlet (d + 2) C Z 13 [(0, .ref l0), (1, .int l1)] [.int s0, .ref s1] σ Q := by
  unfold f_X12_unlet_j13 at hf
  refine xm_iconst dX12_unlet_13 (v := 0) (by decide) ?_
  refine xm_iconst dX12_unlet_14 (v := 0) (by decide) ?_
  refine xb_if hf (fun hb hf => ?_) (fun _ q => nomatch q)
  obtain ⟨p2, ep2, hf⟩ := xbind hf
  refine xb_callV (As := [.int s0, .int (0 : Int32), .int (0 : Int32)]) (v0 := (some (.int p2.1))) (τ0 := p2.2) dX12_unlet_15 (xc_X12_refused _ _) xcl12 xw_2112 xw_2114 xs_90 hb rfl (Nat.le_of_ble_eq_true rfl) rfl (Nat.le_of_ble_eq_true rfl) (fun Q1 hq => m_X12_refused (d := d + 1) ep2 (fun g hg => by subst hg; exact hq)) ?_
  refine xb_if_ne 33 dX12_unlet_18 (by decide) hf (fun c hf => ?_) (fun c hf => ?_)
  · exact xm_sub [] rfl (L_X12_unlet_j33 p2.2 hf hR)
  · refine xm_aload_n dX12_unlet_21 rfl ?_
    refine xb_getR (a := l0) (c := 12) (k := 47) dX12_unlet_22 xcl12 (by decide) xw_1884 rfl hf (fun x3 ex3 hf => ?_)
    refine xm_iload_n dX12_unlet_25 rfl ?_
    refine xm_bipush dX12_unlet_26 (v := 97) (by decide) ?_
    refine xm_isub dX12_unlet_28 ?_
    refine xb_zald dX12_unlet_29 hf (fun x4 ex4 hf => ?_)
    refine xb_if_ne 35 dX12_unlet_30 (by decide) hf (fun c hf => ?_) (fun c hf => ?_)
    · refine xm_aload_n dX12_unlet_35 rfl ?_
      refine xm_iload_n dX12_unlet_36 rfl ?_
      refine xm_bipush dX12_unlet_37 (v := 97) (by decide) ?_
      refine xm_isub dX12_unlet_39 ?_
      refine xb_if hf (fun hb hf => ?_) (fun _ q => nomatch q)
      obtain ⟨p5, ep5, hf⟩ := xbind hf
      refine xb_callV (As := [.int (l1 - (97 : Int32))]) (v0 := none) (τ0 := p5) dX12_unlet_40 (xc_X12_noteValue _ _) xcl12 xw_2556 xw_2558 xs_179 hb rfl (Nat.le_of_ble_eq_true rfl) rfl (Nat.le_of_ble_eq_true rfl) (fun Q1 hq => m_X12_noteValue (d := d + 0) ep5 (fun g hg => by subst hg; exact hq)) ?_
      refine xm_aload_n dX12_unlet_43 rfl ?_
      refine xb_getR (a := l0) (c := 12) (k := 47) dX12_unlet_44 xcl12 (by decide) xw_1884 rfl hf (fun x6 ex6 hf => ?_)
      refine xm_iload_n dX12_unlet_47 rfl ?_
      refine xm_bipush dX12_unlet_48 (v := 97) (by decide) ?_
      refine xm_isub dX12_unlet_50 ?_
      refine xm_iconst dX12_unlet_51 (v := 0) (by decide) ?_
      refine xb_zast dX12_unlet_52 hf (fun σ7 eσ7 hf => ?_)
      refine xm_iconst dX12_unlet_53 (v := 1) (by decide) ?_
      cases hf
      exact xm_zret dX12_unlet_54 rfl rfl (hR _ rfl)
    · exact xm_sub [] rfl (L_X12_unlet_j33 p2.2 hf hR)
def f_X12_unlet (σ : xM) (l0 : Nat) (l1 : Int32) : Option (Int32 × xM) :=
  (f_X12_isName σ l1).bind (fun p1 => (if p1 = (0 : Int32) then f_X12_unlet_j13 σ l0 l1 (1 : Int32) l0 else f_X12_unlet_j13 σ l0 l1 (0 : Int32) l0))
set_option maxHeartbeats 4000000 in
set_option maxRecDepth 20000 in
theorem m_X12_unlet {G : xG} {π : Nat → Nat} {d C Z : Nat} {Q : xQ} {σ : xM} {l0 : Nat} {l1 : Int32} {x : (Int32 × xM)} (hf : f_X12_unlet σ l0 l1 = some x) (hR : ∀ g, x = g → Q (.inl (some (.int g.1))) (g.2) π) : xMach G π J_X12_unlet (d + 2) C Z 0 (lv_args 0 [.ref l0, .int l1]) [] σ Q := by
  unfold f_X12_unlet at hf
  refine xm_stL (L' := [(0, .ref l0), (1, .int l1)]) rfl ?_
  refine xm_aload_n dX12_unlet_0 rfl ?_
  refine xm_iload_n dX12_unlet_1 rfl ?_
  obtain ⟨p1, ep1, hf⟩ := xbind hf
  refine xb_callS (As := [.int l1]) (v0 := (some (.int p1))) (τ0 := σ) dX12_unlet_2 (xc_X12_isName _ _) xw_2257 xw_2258 rfl (Nat.le_of_ble_eq_true rfl) rfl (Nat.le_of_ble_eq_true rfl) (fun Q1 hq => m_X12_isName (d := d + 0) ep1 (fun g hg => by subst hg; exact hq)) ?_
  refine xb_if_ne 12 dX12_unlet_5 (by decide) hf (fun c hf => ?_) (fun c hf => ?_)
  · refine xm_iconst dX12_unlet_12 (v := 0) (by decide) ?_
    exact xm_sub [0, 1] rfl (L_X12_unlet_j13 σ l0 l1 (0 : Int32) l0 hf hR)
  · refine xm_iconst dX12_unlet_8 (v := 1) (by decide) ?_
    refine xm_goto 13 dX12_unlet_9 (by decide) ?_
    exact xm_sub [0, 1] rfl (L_X12_unlet_j13 σ l0 l1 (1 : Int32) l0 hf hR)
-- RankwiseModel.recall(C)Z
def f_X12_recall_j33 (σ : xM)  : Option (Int32 × xM) :=
  some ((0 : Int32), σ)
set_option maxHeartbeats 4000000 in
set_option maxRecDepth 20000 in
theorem L_X12_recall_j33 {G : xG} {π : Nat → Nat} {d C Z : Nat} {Q : xQ} (σ : xM)  {x : (Int32 × xM)} (hf : f_X12_recall_j33 σ = some x) (hR : ∀ g, x = g → Q (.inl (some (.int g.1))) (g.2) π) : xMach G π J_X12_recall (d + 2) C Z 33 [] [] σ Q := by
  unfold f_X12_recall_j33 at hf
  refine xm_iconst dX12_recall_33 (v := 0) (by decide) ?_
  cases hf
  exact xm_zret dX12_recall_34 rfl rfl (hR _ rfl)
def f_X12_recall_j13 (σ : xM) (l0 : Nat) (l1 : Int32) (s0 : Int32) (s1 : Nat) : Option (Int32 × xM) :=
  (if xk σ s1 12 = true then (f_X12_refused σ s1 s0 (0 : Int32) (0 : Int32)).bind (fun p2 => (if p2.1 = (0 : Int32) then (gR p2.2 l0 12 47).bind (fun x3 => (aI p2.2 x3 15 (l1 - (97 : Int32))).bind (fun x4 => (if x4 = (0 : Int32) then f_X12_recall_j33 p2.2 else (if xk p2.2 l0 12 = true then (f_X12_copyValue p2.2 l0 (26 : Int32) (l1 - (97 : Int32))).bind (fun p5 => some ((1 : Int32), p5)) else none)))) else f_X12_recall_j33 p2.2)) else none)
set_option maxHeartbeats 4000000 in
set_option maxRecDepth 20000 in
theorem L_X12_recall_j13 {G : xG} {π : Nat → Nat} {d C Z : Nat} {Q : xQ} (σ : xM) (l0 : Nat) (l1 : Int32) (s0 : Int32) (s1 : Nat) {x : (Int32 × xM)} (hf : f_X12_recall_j13 σ l0 l1 s0 s1 = some x) (hR : ∀ g, x = g → Q (.inl (some (.int g.1))) (g.2) π) : xMach G π J_X12_recall (d + 2) C Z 13 [(0, .ref l0), (1, .int l1)] [.int s0, .ref s1] σ Q := by
  unfold f_X12_recall_j13 at hf
  refine xm_iconst dX12_recall_13 (v := 0) (by decide) ?_
  refine xm_iconst dX12_recall_14 (v := 0) (by decide) ?_
  refine xb_if hf (fun hb hf => ?_) (fun _ q => nomatch q)
  obtain ⟨p2, ep2, hf⟩ := xbind hf
  refine xb_callV (As := [.int s0, .int (0 : Int32), .int (0 : Int32)]) (v0 := (some (.int p2.1))) (τ0 := p2.2) dX12_recall_15 (xc_X12_refused _ _) xcl12 xw_2112 xw_2114 xs_90 hb rfl (Nat.le_of_ble_eq_true rfl) rfl (Nat.le_of_ble_eq_true rfl) (fun Q1 hq => m_X12_refused (d := d + 1) ep2 (fun g hg => by subst hg; exact hq)) ?_
  refine xb_if_ne 33 dX12_recall_18 (by decide) hf (fun c hf => ?_) (fun c hf => ?_)
  · exact xm_sub [] rfl (L_X12_recall_j33 p2.2 hf hR)
  · refine xm_aload_n dX12_recall_21 rfl ?_
    refine xb_getR (a := l0) (c := 12) (k := 47) dX12_recall_22 xcl12 (by decide) xw_1884 rfl hf (fun x3 ex3 hf => ?_)
    refine xm_iload_n dX12_recall_25 rfl ?_
    refine xm_bipush dX12_recall_26 (v := 97) (by decide) ?_
    refine xm_isub dX12_recall_28 ?_
    refine xb_zald dX12_recall_29 hf (fun x4 ex4 hf => ?_)
    refine xb_if_ne 35 dX12_recall_30 (by decide) hf (fun c hf => ?_) (fun c hf => ?_)
    · refine xm_aload_n dX12_recall_35 rfl ?_
      refine xm_bipush dX12_recall_36 (v := 26) (by decide) ?_
      refine xm_iload_n dX12_recall_38 rfl ?_
      refine xm_bipush dX12_recall_39 (v := 97) (by decide) ?_
      refine xm_isub dX12_recall_41 ?_
      refine xb_if hf (fun hb hf => ?_) (fun _ q => nomatch q)
      obtain ⟨p5, ep5, hf⟩ := xbind hf
      refine xb_callV (As := [.int (26 : Int32), .int (l1 - (97 : Int32))]) (v0 := none) (τ0 := p5) dX12_recall_42 (xc_X12_copyValue _ _) xcl12 xw_2100 xw_2102 xs_88 hb rfl (Nat.le_of_ble_eq_true rfl) rfl (Nat.le_of_ble_eq_true rfl) (fun Q1 hq => m_X12_copyValue (d := d + 1) ep5 (fun g hg => by subst hg; exact hq)) ?_
      refine xm_iconst dX12_recall_45 (v := 1) (by decide) ?_
      cases hf
      exact xm_zret dX12_recall_46 rfl rfl (hR _ rfl)
    · exact xm_sub [] rfl (L_X12_recall_j33 p2.2 hf hR)
def f_X12_recall (σ : xM) (l0 : Nat) (l1 : Int32) : Option (Int32 × xM) :=
  (f_X12_isName σ l1).bind (fun p1 => (if p1 = (0 : Int32) then f_X12_recall_j13 σ l0 l1 (1 : Int32) l0 else f_X12_recall_j13 σ l0 l1 (0 : Int32) l0))
set_option maxHeartbeats 4000000 in
set_option maxRecDepth 20000 in
theorem m_X12_recall {G : xG} {π : Nat → Nat} {d C Z : Nat} {Q : xQ} {σ : xM} {l0 : Nat} {l1 : Int32} {x : (Int32 × xM)} (hf : f_X12_recall σ l0 l1 = some x) (hR : ∀ g, x = g → Q (.inl (some (.int g.1))) (g.2) π) : xMach G π J_X12_recall (d + 2) C Z 0 (lv_args 0 [.ref l0, .int l1]) [] σ Q := by
  unfold f_X12_recall at hf
  refine xm_stL (L' := [(0, .ref l0), (1, .int l1)]) rfl ?_
  refine xm_aload_n dX12_recall_0 rfl ?_
  refine xm_iload_n dX12_recall_1 rfl ?_
  obtain ⟨p1, ep1, hf⟩ := xbind hf
  refine xb_callS (As := [.int l1]) (v0 := (some (.int p1))) (τ0 := σ) dX12_recall_2 (xc_X12_isName _ _) xw_2257 xw_2258 rfl (Nat.le_of_ble_eq_true rfl) rfl (Nat.le_of_ble_eq_true rfl) (fun Q1 hq => m_X12_isName (d := d + 0) ep1 (fun g hg => by subst hg; exact hq)) ?_
  refine xb_if_ne 12 dX12_recall_5 (by decide) hf (fun c hf => ?_) (fun c hf => ?_)
  · refine xm_iconst dX12_recall_12 (v := 0) (by decide) ?_
    exact xm_sub [0, 1] rfl (L_X12_recall_j13 σ l0 l1 (0 : Int32) l0 hf hR)
  · refine xm_iconst dX12_recall_8 (v := 1) (by decide) ?_
    refine xm_goto 13 dX12_recall_9 (by decide) ?_
    exact xm_sub [0, 1] rfl (L_X12_recall_j13 σ l0 l1 (1 : Int32) l0 hf hR)
-- RankwiseModel.define(CI)I
def f_X12_define_s92 (s : (Nat × Int32 × Int32 × Int32 × xM)) : Option ((Int32 × xM) ⊕ ((Int32 × xM) ⊕ (Nat × Int32 × Int32 × Int32 × xM))) :=
  xlet s.1 (fun l0 => xlet s.2.1 (fun l3 => xlet s.2.2.1 (fun l4 => xlet s.2.2.2.1 (fun l5 => xlet s.2.2.2.2 (fun σ => (if (8 : Int32) ≤ l5 then some (Sum.inr (Sum.inl (l4, σ))) else (gR σ l0 12 13).bind (fun x14 => (wI σ x14 (((8 : Int32) * l3) + l5) (0 : Int32)).bind (fun σ15 => xlet (l5 + (1 : Int32)) (fun v16 => some (Sum.inr (Sum.inr (l0, l3, l4, v16, σ15))))))))))))
set_option maxHeartbeats 4000000 in
set_option maxRecDepth 20000 in
theorem L_X12_define_s92 {G : xG} {π : Nat → Nat} {d C Z : Nat} {Q : xQ} (σ : xM) (l0 : Nat) (l3 : Int32) (l4 : Int32) (l5 : Int32) {x : ((Int32 × xM) ⊕ ((Int32 × xM) ⊕ (Nat × Int32 × Int32 × Int32 × xM)))} (hf : f_X12_define_s92 (l0, l3, l4, l5, σ) = some x) (hR : ∀ g, x = Sum.inl (g) → Q (.inl (some (.int g.1))) (g.2) π) (hE : ∀ e : (Int32 × xM), x = Sum.inr (Sum.inl e) → xMach G π J_X12_define (d + 2) C Z 118 [(4, .int e.1)] [] e.2 Q) (hC : ∀ e : (Nat × Int32 × Int32 × Int32 × xM), x = Sum.inr (Sum.inr e) → xMach G π J_X12_define (d + 2) C Z 92 [(0, .ref e.1), (3, .int e.2.1), (4, .int e.2.2.1), (5, .int e.2.2.2.1)] [] e.2.2.2.2 Q) : xMach G π J_X12_define (d + 2) C Z 92 [(0, .ref l0), (3, .int l3), (4, .int l4), (5, .int l5)] [] σ Q := by
  have hf : (if (8 : Int32) ≤ l5 then some (Sum.inr (Sum.inl (l4, σ))) else (gR σ l0 12 13).bind (fun x14 => (wI σ x14 (((8 : Int32) * l3) + l5) (0 : Int32)).bind (fun σ15 => xlet (l5 + (1 : Int32)) (fun v16 => some (Sum.inr (Sum.inr (l0, l3, l4, v16, σ15))))))) = some x := hf
  refine xm_iload dX12_define_92 rfl ?_
  refine xm_bipush dX12_define_94 (v := 8) (by decide) ?_
  refine xb_icmp_ge 118 dX12_define_96 (by decide) hf (fun c hf => ?_) (fun c hf => ?_)
  · cases hf
    exact xm_sub [2] rfl (hE _ rfl)
  · refine xm_aload_n dX12_define_99 rfl ?_
    refine xb_getR (a := l0) (c := 12) (k := 13) dX12_define_100 xcl12 (by decide) xw_1850 rfl hf (fun x14 ex14 hf => ?_)
    refine xm_bipush dX12_define_103 (v := 8) (by decide) ?_
    refine xm_iload_n dX12_define_105 rfl ?_
    refine xm_imul dX12_define_106 ?_
    refine xm_iload dX12_define_107 rfl ?_
    refine xm_iadd dX12_define_109 ?_
    refine xm_iconst dX12_define_110 (v := 0) (by decide) ?_
    refine xb_iast dX12_define_111 hf (fun σ15 eσ15 hf => ?_)
    refine xb_iinc dX12_define_112 rfl (by decide) (by decide) hf (fun v16 ev16 hf => xm_stL (L' := [(5, .int v16), (0, .ref l0), (3, .int l3), (4, .int l4)]) rfl ?_)
    refine xm_goto 92 dX12_define_115 (by decide) ?_
    cases hf
    exact xm_sub [1, 2, 3, 0] rfl (hC _ rfl)
theorem L_X12_define_l92 {G : xG} {π : Nat → Nat} {d C Z : Nat} {Q : xQ} {s0 : (Nat × Int32 × Int32 × Int32 × xM)} {x : ((Int32 × xM) ⊕ (Int32 × xM))} (h1 : xloop (f_X12_define_s92) xF s0 = some x) (hR : ∀ g, x = Sum.inl g → Q (.inl (some (.int g.1))) (g.2) π) (hE : ∀ e : (Int32 × xM), x = Sum.inr e → xMach G π J_X12_define (d + 2) C Z 118 [(4, .int e.1)] [] e.2 Q) : xMach G π J_X12_define (d + 2) C Z 92 [(0, .ref s0.1), (3, .int s0.2.1), (4, .int s0.2.2.1), (5, .int s0.2.2.2.1)] [] s0.2.2.2.2 Q := by
  refine xloop_run (M := (fun s : (Nat × Int32 × Int32 × Int32 × xM) => xMach G π J_X12_define (d + 2) C Z 92 [(0, .ref s.1), (3, .int s.2.1), (4, .int s.2.2.1), (5, .int s.2.2.2.1)] [] s.2.2.2.2 Q)) (r := x) ?_ xF _ h1
  intro s y hs hx
  exact L_X12_define_s92 s.2.2.2.2 s.1 s.2.1 s.2.2.1 s.2.2.2.1 (x := y) hs (fun g hg => by subst hg; exact hR g hx) (fun e he => by subst he; exact hE e hx) (fun e he => by subst he; exact hx)
def f_X12_define_j118 (σ : xM) (l4 : Int32) : Option (Int32 × xM) :=
  some (l4, σ)
set_option maxHeartbeats 4000000 in
set_option maxRecDepth 20000 in
theorem L_X12_define_j118 {G : xG} {π : Nat → Nat} {d C Z : Nat} {Q : xQ} (σ : xM) (l4 : Int32) {x : (Int32 × xM)} (hf : f_X12_define_j118 σ l4 = some x) (hR : ∀ g, x = g → Q (.inl (some (.int g.1))) (g.2) π) : xMach G π J_X12_define (d + 2) C Z 118 [(4, .int l4)] [] σ Q := by
  unfold f_X12_define_j118 at hf
  refine xm_iload dX12_define_118 rfl ?_
  cases hf
  exact xm_iret dX12_define_120 rfl (hR _ rfl)
def f_X12_define_j68 (σ : xM) (l0 : Nat) (l2 : Int32) (l3 : Int32) (s0 : Int32) : Option (Int32 × xM) :=
  (if xk σ l0 12 = true then (f_X12_noteFunction σ l0 l3).bind (fun p8 => (gR p8 l0 12 11).bind (fun x9 => (wI p8 x9 l3 l2).bind (fun σ10 => (gR σ10 l0 12 12).bind (fun x11 => (wI σ10 x11 l3 (0 : Int32)).bind (fun σ12 => xlet (0 : Int32) (fun v13 => (xloop (f_X12_define_s92 ) xF (l0, l3, s0, v13, σ12)).bind (Sum.elim (fun g => some g) (fun e => f_X12_define_j118 e.2 e.1)))))))) else none)
set_option maxHeartbeats 4000000 in
set_option maxRecDepth 20000 in
theorem L_X12_define_j68 {G : xG} {π : Nat → Nat} {d C Z : Nat} {Q : xQ} (σ : xM) (l0 : Nat) (l2 : Int32) (l3 : Int32) (s0 : Int32) {x : (Int32 × xM)} (hf : f_X12_define_j68 σ l0 l2 l3 s0 = some x) (hR : ∀ g, x = g → Q (.inl (some (.int g.1))) (g.2) π) : xMach G π J_X12_define (d + 2) C Z 68 [(0, .ref l0), (2, .int l2), (3, .int l3)] [.int s0] σ Q := by
  unfold f_X12_define_j68 at hf
  refine xm_istore dX12_define_68 (by decide) (xm_stL (L' := [(4, .int s0), (0, .ref l0), (2, .int l2), (3, .int l3)]) rfl ?_)
  refine xm_aload_n dX12_define_70 rfl ?_
  refine xm_iload_n dX12_define_71 rfl ?_
  refine xb_if hf (fun hb hf => ?_) (fun _ q => nomatch q)
  obtain ⟨p8, ep8, hf⟩ := xbind hf
  refine xb_callV (As := [.int l3]) (v0 := none) (τ0 := p8) dX12_define_72 (xc_X12_noteFunction _ _) xcl12 xw_2572 xw_2574 xs_180 hb rfl (Nat.le_of_ble_eq_true rfl) rfl (Nat.le_of_ble_eq_true rfl) (fun Q1 hq => m_X12_noteFunction (d := d + 0) ep8 (fun g hg => by subst hg; exact hq)) ?_
  refine xm_aload_n dX12_define_75 rfl ?_
  refine xb_getR (a := l0) (c := 12) (k := 11) dX12_define_76 xcl12 (by decide) xw_1848 rfl hf (fun x9 ex9 hf => ?_)
  refine xm_iload_n dX12_define_79 rfl ?_
  refine xm_iload_n dX12_define_80 rfl ?_
  refine xb_iast dX12_define_81 hf (fun σ10 eσ10 hf => ?_)
  refine xm_aload_n dX12_define_82 rfl ?_
  refine xb_getR (a := l0) (c := 12) (k := 12) dX12_define_83 xcl12 (by decide) xw_1849 rfl hf (fun x11 ex11 hf => ?_)
  refine xm_iload_n dX12_define_86 rfl ?_
  refine xm_iconst dX12_define_87 (v := 0) (by decide) ?_
  refine xb_iast dX12_define_88 hf (fun σ12 eσ12 hf => ?_)
  refine xm_iconst dX12_define_89 (v := 0) (by decide) ?_
  refine xb_topi hf (fun v13 ev13 hf => ?_)
  refine xm_istore dX12_define_90 (by decide) (xm_stL (L' := [(5, .int v13), (4, .int s0), (0, .ref l0), (2, .int l2), (3, .int l3)]) rfl ?_)
  obtain ⟨o, h1, hf⟩ := xbind hf
  refine xm_sub [2, 4, 1, 0] rfl (L_X12_define_l92  h1 (fun g hg => ?_) (fun e he => ?_))
  · subst hg
    cases hf
    exact hR _ rfl
  · subst he
    rw [Sum.elim_inr] at hf
    have hf : f_X12_define_j118 e.2 e.1 = some _ := hf
    exact xm_sub [0] rfl (L_X12_define_j118 e.2 e.1 hf hR)
def f_X12_define_j34 (σ : xM) (l0 : Nat) (l1 : Int32) (l2 : Int32) (s0 : Int32) (s1 : Nat) : Option (Int32 × xM) :=
  (if xk σ s1 12 = true then (f_X12_refused σ s1 s0 (0 : Int32) (0 : Int32)).bind (fun p2 => (if p2.1 = (0 : Int32) then xlet (l1 - (97 : Int32)) (fun v3 => (gR p2.2 l0 12 11).bind (fun x4 => (aI p2.2 x4 14 v3).bind (fun x5 => (if x5 = (0 : Int32) then f_X12_define_j68 p2.2 l0 l2 v3 (-1 : Int32) else (gR p2.2 l0 12 12).bind (fun x6 => (aI p2.2 x6 14 v3).bind (fun x7 => f_X12_define_j68 p2.2 l0 l2 v3 x7)))))) else some ((0 : Int32), p2.2))) else none)
set_option maxHeartbeats 4000000 in
set_option maxRecDepth 20000 in
theorem L_X12_define_j34 {G : xG} {π : Nat → Nat} {d C Z : Nat} {Q : xQ} (σ : xM) (l0 : Nat) (l1 : Int32) (l2 : Int32) (s0 : Int32) (s1 : Nat) {x : (Int32 × xM)} (hf : f_X12_define_j34 σ l0 l1 l2 s0 s1 = some x) (hR : ∀ g, x = g → Q (.inl (some (.int g.1))) (g.2) π) : xMach G π J_X12_define (d + 2) C Z 34 [(0, .ref l0), (1, .int l1), (2, .int l2)] [.int s0, .ref s1] σ Q := by
  unfold f_X12_define_j34 at hf
  refine xm_iconst dX12_define_34 (v := 0) (by decide) ?_
  refine xm_iconst dX12_define_35 (v := 0) (by decide) ?_
  refine xb_if hf (fun hb hf => ?_) (fun _ q => nomatch q)
  obtain ⟨p2, ep2, hf⟩ := xbind hf
  refine xb_callV (As := [.int s0, .int (0 : Int32), .int (0 : Int32)]) (v0 := (some (.int p2.1))) (τ0 := p2.2) dX12_define_36 (xc_X12_refused _ _) xcl12 xw_2112 xw_2114 xs_90 hb rfl (Nat.le_of_ble_eq_true rfl) rfl (Nat.le_of_ble_eq_true rfl) (fun Q1 hq => m_X12_refused (d := d + 1) ep2 (fun g hg => by subst hg; exact hq)) ?_
  refine xb_if_eq 44 dX12_define_39 (by decide) hf (fun c hf => ?_) (fun c hf => ?_)
  · refine xm_iload_n dX12_define_44 rfl ?_
    refine xm_bipush dX12_define_45 (v := 97) (by decide) ?_
    refine xm_isub dX12_define_47 ?_
    refine xb_topi hf (fun v3 ev3 hf => ?_)
    refine xm_istore_n dX12_define_48 (by decide) (xm_stL (L' := [(3, .int v3), (0, .ref l0), (1, .int l1), (2, .int l2)]) rfl ?_)
    refine xm_aload_n dX12_define_49 rfl ?_
    refine xb_getR (a := l0) (c := 12) (k := 11) dX12_define_50 xcl12 (by decide) xw_1848 rfl hf (fun x4 ex4 hf => ?_)
    refine xm_iload_n dX12_define_53 rfl ?_
    refine xb_iald dX12_define_54 hf (fun x5 ex5 hf => ?_)
    refine xb_if_ne 62 dX12_define_55 (by decide) hf (fun c hf => ?_) (fun c hf => ?_)
    · refine xm_aload_n dX12_define_62 rfl ?_
      refine xb_getR (a := l0) (c := 12) (k := 12) dX12_define_63 xcl12 (by decide) xw_1849 rfl hf (fun x6 ex6 hf => ?_)
      refine xm_iload_n dX12_define_66 rfl ?_
      refine xb_iald dX12_define_67 hf (fun x7 ex7 hf => ?_)
      exact xm_sub [1, 3, 0] rfl (L_X12_define_j68 p2.2 l0 l2 v3 x7 hf hR)
    · refine xm_iconst dX12_define_58 (v := -1) (by decide) ?_
      refine xm_goto 68 dX12_define_59 (by decide) ?_
      exact xm_sub [1, 3, 0] rfl (L_X12_define_j68 p2.2 l0 l2 v3 (-1 : Int32) hf hR)
  · refine xm_iconst dX12_define_42 (v := 0) (by decide) ?_
    cases hf
    exact xm_iret dX12_define_43 rfl (hR _ rfl)
def f_X12_define_j29 (σ : xM) (l0 : Nat) (l1 : Int32) (l2 : Int32) (s0 : Nat) : Option (Int32 × xM) :=
  f_X12_define_j34 σ l0 l1 l2 (1 : Int32) s0
set_option maxHeartbeats 4000000 in
set_option maxRecDepth 20000 in
theorem L_X12_define_j29 {G : xG} {π : Nat → Nat} {d C Z : Nat} {Q : xQ} (σ : xM) (l0 : Nat) (l1 : Int32) (l2 : Int32) (s0 : Nat) {x : (Int32 × xM)} (hf : f_X12_define_j29 σ l0 l1 l2 s0 = some x) (hR : ∀ g, x = g → Q (.inl (some (.int g.1))) (g.2) π) : xMach G π J_X12_define (d + 2) C Z 29 [(0, .ref l0), (1, .int l1), (2, .int l2)] [.ref s0] σ Q := by
  unfold f_X12_define_j29 at hf
  refine xm_iconst dX12_define_29 (v := 1) (by decide) ?_
  refine xm_goto 34 dX12_define_30 (by decide) ?_
  exact xm_sub [0, 1, 2] rfl (L_X12_define_j34 σ l0 l1 l2 (1 : Int32) s0 hf hR)
def f_X12_define (σ : xM) (l0 : Nat) (l1 : Int32) (l2 : Int32) : Option (Int32 × xM) :=
  (f_X12_isName σ l1).bind (fun p1 => (if p1 = (0 : Int32) then f_X12_define_j29 σ l0 l1 l2 l0 else (if l1 = (105 : Int32) then f_X12_define_j29 σ l0 l1 l2 l0 else (if l1 = (115 : Int32) then f_X12_define_j29 σ l0 l1 l2 l0 else (f_X12_in σ l2 (1 : Int32) (3 : Int32)).bind (fun p17 => (if p17 = (0 : Int32) then f_X12_define_j29 σ l0 l1 l2 l0 else f_X12_define_j34 σ l0 l1 l2 (0 : Int32) l0))))))
set_option maxHeartbeats 4000000 in
set_option maxRecDepth 20000 in
theorem m_X12_define {G : xG} {π : Nat → Nat} {d C Z : Nat} {Q : xQ} {σ : xM} {l0 : Nat} {l1 : Int32} {l2 : Int32} {x : (Int32 × xM)} (hf : f_X12_define σ l0 l1 l2 = some x) (hR : ∀ g, x = g → Q (.inl (some (.int g.1))) (g.2) π) : xMach G π J_X12_define (d + 2) C Z 0 (lv_args 0 [.ref l0, .int l1, .int l2]) [] σ Q := by
  unfold f_X12_define at hf
  refine xm_stL (L' := [(0, .ref l0), (1, .int l1), (2, .int l2)]) rfl ?_
  refine xm_aload_n dX12_define_0 rfl ?_
  refine xm_iload_n dX12_define_1 rfl ?_
  obtain ⟨p1, ep1, hf⟩ := xbind hf
  refine xb_callS (As := [.int l1]) (v0 := (some (.int p1))) (τ0 := σ) dX12_define_2 (xc_X12_isName _ _) xw_2257 xw_2258 rfl (Nat.le_of_ble_eq_true rfl) rfl (Nat.le_of_ble_eq_true rfl) (fun Q1 hq => m_X12_isName (d := d + 0) ep1 (fun g hg => by subst hg; exact hq)) ?_
  refine xb_if_eq 29 dX12_define_5 (by decide) hf (fun c hf => ?_) (fun c hf => ?_)
  · exact xm_sub [0, 1, 2] rfl (L_X12_define_j29 σ l0 l1 l2 l0 hf hR)
  · refine xm_iload_n dX12_define_8 rfl ?_
    refine xm_bipush dX12_define_9 (v := 105) (by decide) ?_
    refine xb_icmp_eq 29 dX12_define_11 (by decide) hf (fun c hf => ?_) (fun c hf => ?_)
    · exact xm_sub [0, 1, 2] rfl (L_X12_define_j29 σ l0 l1 l2 l0 hf hR)
    · refine xm_iload_n dX12_define_14 rfl ?_
      refine xm_bipush dX12_define_15 (v := 115) (by decide) ?_
      refine xb_icmp_eq 29 dX12_define_17 (by decide) hf (fun c hf => ?_) (fun c hf => ?_)
      · exact xm_sub [0, 1, 2] rfl (L_X12_define_j29 σ l0 l1 l2 l0 hf hR)
      · refine xm_iload_n dX12_define_20 rfl ?_
        refine xm_iconst dX12_define_21 (v := 1) (by decide) ?_
        refine xm_iconst dX12_define_22 (v := 3) (by decide) ?_
        obtain ⟨p17, ep17, hf⟩ := xbind hf
        refine xb_callS (As := [.int l2, .int (1 : Int32), .int (3 : Int32)]) (v0 := (some (.int p17))) (τ0 := σ) dX12_define_23 (xc_X12_in _ _) xw_2132 xw_2133 rfl (Nat.le_of_ble_eq_true rfl) rfl (Nat.le_of_ble_eq_true rfl) (fun Q1 hq => m_X12_in (d := d + 1) ep17 (fun g hg => by subst hg; exact hq)) ?_
        refine xb_if_ne 33 dX12_define_26 (by decide) hf (fun c hf => ?_) (fun c hf => ?_)
        · refine xm_iconst dX12_define_33 (v := 0) (by decide) ?_
          exact xm_sub [0, 1, 2] rfl (L_X12_define_j34 σ l0 l1 l2 (0 : Int32) l0 hf hR)
        · exact xm_sub [0, 1, 2] rfl (L_X12_define_j29 σ l0 l1 l2 l0 hf hR)
-- RankwiseModel.layCase(III)V
def f_X12_layCase_j62 (σ : xM) (l0 : Nat) (l4 : Int32) (s0 : Int32) (s1 : Int32) (s2 : Nat) : Option xM :=
  (gR σ l0 12 13).bind (fun x9 => (aI σ x9 14 l4).bind (fun x10 => (if xk σ s2 12 = true then (f_X12_copyNodes σ s2 s1 s0 x10).bind (fun p11 => some p11) else none)))
set_option maxHeartbeats 4000000 in
set_option maxRecDepth 20000 in
theorem L_X12_layCase_j62 {G : xG} {π : Nat → Nat} {d C Z : Nat} {Q : xQ} (σ : xM) (l0 : Nat) (l4 : Int32) (s0 : Int32) (s1 : Int32) (s2 : Nat) {x : xM} (hf : f_X12_layCase_j62 σ l0 l4 s0 s1 s2 = some x) (hR : ∀ g, x = g → Q (.inl none) (g) π) : xMach G π J_X12_layCase (d + 1) C Z 62 [(0, .ref l0), (4, .int l4)] [.int s0, .int s1, .ref s2] σ Q := by
  unfold f_X12_layCase_j62 at hf
  refine xm_aload_n dX12_layCase_62 rfl ?_
  refine xb_getR (a := l0) (c := 12) (k := 13) dX12_layCase_63 xcl12 (by decide) xw_1850 rfl hf (fun x9 ex9 hf => ?_)
  refine xm_iload dX12_layCase_66 rfl ?_
  refine xb_iald dX12_layCase_68 hf (fun x10 ex10 hf => ?_)
  refine xb_if hf (fun hb hf => ?_) (fun _ q => nomatch q)
  obtain ⟨p11, ep11, hf⟩ := xbind hf
  refine xb_callV (As := [.int s1, .int s0, .int x10]) (v0 := none) (τ0 := p11) dX12_layCase_69 (xc_X12_copyNodes _ _) xcl12 xw_2104 xw_2106 xs_89 hb rfl (Nat.le_of_ble_eq_true rfl) rfl (Nat.le_of_ble_eq_true rfl) (fun Q1 hq => m_X12_copyNodes (d := d + 0) ep11 (fun g hg => by subst hg; exact hq)) ?_
  cases hf
  exact xm_vret dX12_layCase_72 rfl (hR _ rfl)
def f_X12_layCase_j38 (σ : xM) (l0 : Nat) (l3 : Int32) (l4 : Int32) (s0 : Int32) (s1 : Int32) (s2 : Nat) : Option xM :=
  (wI σ s2 s1 s0).bind (fun σ7 => (if l3 = (-1 : Int32) then f_X12_layCase_j62 σ7 l0 l4 (0 : Int32) ((2400 : Int32) + ((30 : Int32) * l4)) l0 else (f_X12_shelf σ7 l3).bind (fun p8 => f_X12_layCase_j62 σ7 l0 l4 p8 ((2400 : Int32) + ((30 : Int32) * l4)) l0)))
set_option maxHeartbeats 4000000 in
set_option maxRecDepth 20000 in
theorem L_X12_layCase_j38 {G : xG} {π : Nat → Nat} {d C Z : Nat} {Q : xQ} (σ : xM) (l0 : Nat) (l3 : Int32) (l4 : Int32) (s0 : Int32) (s1 : Int32) (s2 : Nat) {x : xM} (hf : f_X12_layCase_j38 σ l0 l3 l4 s0 s1 s2 = some x) (hR : ∀ g, x = g → Q (.inl none) (g) π) : xMach G π J_X12_layCase (d + 1) C Z 38 [(0, .ref l0), (3, .int l3), (4, .int l4)] [.int s0, .int s1, .ref s2] σ Q := by
  unfold f_X12_layCase_j38 at hf
  refine xb_iast dX12_layCase_38 hf (fun σ7 eσ7 hf => ?_)
  refine xm_aload_n dX12_layCase_39 rfl ?_
  refine xm_sipush dX12_layCase_40 (v := 2400) (by decide) ?_
  refine xm_bipush dX12_layCase_43 (v := 30) (by decide) ?_
  refine xm_iload dX12_layCase_45 rfl ?_
  refine xm_imul dX12_layCase_47 ?_
  refine xm_iadd dX12_layCase_48 ?_
  refine xm_iload_n dX12_layCase_49 rfl ?_
  refine xm_iconst dX12_layCase_50 (v := -1) (by decide) ?_
  refine xb_icmp_ne 58 dX12_layCase_51 (by decide) hf (fun c hf => ?_) (fun c hf => ?_)
  · refine xm_iload_n dX12_layCase_58 rfl ?_
    obtain ⟨p8, ep8, hf⟩ := xbind hf
    refine xb_callS (As := [.int l3]) (v0 := (some (.int p8))) (τ0 := σ7) dX12_layCase_59 (xc_X12_shelf _ _) xw_2214 xw_2215 rfl (Nat.le_of_ble_eq_true rfl) rfl (Nat.le_of_ble_eq_true rfl) (fun Q1 hq => m_X12_shelf (d := d + 0) ep8 (fun g hg => by subst hg; exact hq)) ?_
    exact xm_sub [0, 2] rfl (L_X12_layCase_j62 σ7 l0 l4 p8 ((2400 : Int32) + ((30 : Int32) * l4)) l0 hf hR)
  · refine xm_iconst dX12_layCase_54 (v := 0) (by decide) ?_
    refine xm_goto 62 dX12_layCase_55 (by decide) ?_
    exact xm_sub [0, 2] rfl (L_X12_layCase_j62 σ7 l0 l4 (0 : Int32) ((2400 : Int32) + ((30 : Int32) * l4)) l0 hf hR)
def f_X12_layCase (σ : xM) (l0 : Nat) (l1 : Int32) (l2 : Int32) (l3 : Int32) : Option xM :=
  (gR σ l0 12 12).bind (fun x1 => (aI σ x1 14 l1).bind (fun x2 => xlet ((((8 : Int32) * l1) + ((2 : Int32) * x2)) + l2) (fun v3 => (gR σ l0 12 13).bind (fun x4 => (if l3 = (-1 : Int32) then f_X12_layCase_j38 σ l0 l3 v3 (0 : Int32) v3 x4 else (gR σ l0 12 9).bind (fun x5 => (aI σ x5 14 l3).bind (fun x6 => f_X12_layCase_j38 σ l0 l3 v3 x6 v3 x4)))))))
set_option maxHeartbeats 4000000 in
set_option maxRecDepth 20000 in
theorem m_X12_layCase {G : xG} {π : Nat → Nat} {d C Z : Nat} {Q : xQ} {σ : xM} {l0 : Nat} {l1 : Int32} {l2 : Int32} {l3 : Int32} {x : xM} (hf : f_X12_layCase σ l0 l1 l2 l3 = some x) (hR : ∀ g, x = g → Q (.inl none) (g) π) : xMach G π J_X12_layCase (d + 1) C Z 0 (lv_args 0 [.ref l0, .int l1, .int l2, .int l3]) [] σ Q := by
  unfold f_X12_layCase at hf
  refine xm_stL (L' := [(0, .ref l0), (1, .int l1), (2, .int l2), (3, .int l3)]) rfl ?_
  refine xm_bipush dX12_layCase_0 (v := 8) (by decide) ?_
  refine xm_iload_n dX12_layCase_2 rfl ?_
  refine xm_imul dX12_layCase_3 ?_
  refine xm_iconst dX12_layCase_4 (v := 2) (by decide) ?_
  refine xm_aload_n dX12_layCase_5 rfl ?_
  refine xb_getR (a := l0) (c := 12) (k := 12) dX12_layCase_6 xcl12 (by decide) xw_1849 rfl hf (fun x1 ex1 hf => ?_)
  refine xm_iload_n dX12_layCase_9 rfl ?_
  refine xb_iald dX12_layCase_10 hf (fun x2 ex2 hf => ?_)
  refine xm_imul dX12_layCase_11 ?_
  refine xm_iadd dX12_layCase_12 ?_
  refine xm_iload_n dX12_layCase_13 rfl ?_
  refine xm_iadd dX12_layCase_14 ?_
  refine xb_topi hf (fun v3 ev3 hf => ?_)
  refine xm_istore dX12_layCase_15 (by decide) (xm_stL (L' := [(4, .int v3), (0, .ref l0), (1, .int l1), (2, .int l2), (3, .int l3)]) rfl ?_)
  refine xm_aload_n dX12_layCase_17 rfl ?_
  refine xb_getR (a := l0) (c := 12) (k := 13) dX12_layCase_18 xcl12 (by decide) xw_1850 rfl hf (fun x4 ex4 hf => ?_)
  refine xm_iload dX12_layCase_21 rfl ?_
  refine xm_iload_n dX12_layCase_23 rfl ?_
  refine xm_iconst dX12_layCase_24 (v := -1) (by decide) ?_
  refine xb_icmp_ne 32 dX12_layCase_25 (by decide) hf (fun c hf => ?_) (fun c hf => ?_)
  · refine xm_aload_n dX12_layCase_32 rfl ?_
    refine xb_getR (a := l0) (c := 12) (k := 9) dX12_layCase_33 xcl12 (by decide) xw_1846 rfl hf (fun x5 ex5 hf => ?_)
    refine xm_iload_n dX12_layCase_36 rfl ?_
    refine xb_iald dX12_layCase_37 hf (fun x6 ex6 hf => ?_)
    exact xm_sub [1, 4, 0] rfl (L_X12_layCase_j38 σ l0 l3 v3 x6 v3 x4 hf hR)
  · refine xm_iconst dX12_layCase_28 (v := 0) (by decide) ?_
    refine xm_goto 38 dX12_layCase_29 (by decide) ?_
    exact xm_sub [1, 4, 0] rfl (L_X12_layCase_j38 σ l0 l3 v3 (0 : Int32) v3 x4 hf hR)

