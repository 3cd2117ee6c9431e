-- RankwiseModel.ruleAt(I)I
def f_X12_ruleAt_j64 (σ : xM) (s0 : Int32) : Option (Int32 × xM) :=
  some (s0, σ)
set_option maxHeartbeats 4000000 in
set_option maxRecDepth 20000 in
theorem L_X12_ruleAt_j64 {G : xG} {π : Nat → Nat} {d C Z : Nat} {Q : xQ} (σ : xM) (s0 : Int32) {x : (Int32 × xM)} (hf : f_X12_ruleAt_j64 σ s0 = some x) (hR : ∀ g, x = g → Q (.inl (some (.int g.1))) (g.2) π) : xMach G π J_X12_ruleAt (d + 5) C Z 64 [] [.int s0] σ Q := by
  unfold f_X12_ruleAt_j64 at hf
  cases hf
  exact xm_iret dX12_ruleAt_64 rfl (hR _ rfl)
def f_X12_ruleAt_j63 (σ : xM)  : Option (Int32 × xM) :=
  f_X12_ruleAt_j64 σ (0 : Int32)
set_option maxHeartbeats 4000000 in
set_option maxRecDepth 20000 in
theorem L_X12_ruleAt_j63 {G : xG} {π : Nat → Nat} {d C Z : Nat} {Q : xQ} (σ : xM)  {x : (Int32 × xM)} (hf : f_X12_ruleAt_j63 σ = some x) (hR : ∀ g, x = g → Q (.inl (some (.int g.1))) (g.2) π) : xMach G π J_X12_ruleAt (d + 5) C Z 63 [] [] σ Q := by
  unfold f_X12_ruleAt_j63 at hf
  refine xm_iconst dX12_ruleAt_63 (v := 0) (by decide) ?_
  exact xm_sub [] rfl (L_X12_ruleAt_j64 σ (0 : Int32) hf hR)
def f_X12_ruleAt_j35 (σ : xM) (l0 : Nat) (l1 : Int32) (l2 : Int32) : Option (Int32 × xM) :=
  (f_X12_in σ l2 (0 : Int32) (5 : Int32)).bind (fun p2 => (if p2 = (0 : Int32) then f_X12_ruleAt_j63 σ else (gR σ l0 12 7).bind (fun x3 => (aI σ x3 14 l1).bind (fun x4 => (if x4 = (2 : Int32) then (if xk σ l0 12 = true then (f_X12_ruleOfTwo σ l0 l1 l2).bind (fun p5 => f_X12_ruleAt_j64 p5.2 p5.1) else none) else f_X12_ruleAt_j63 σ)))))
set_option maxHeartbeats 4000000 in
set_option maxRecDepth 20000 in
theorem L_X12_ruleAt_j35 {G : xG} {π : Nat → Nat} {d C Z : Nat} {Q : xQ} (σ : xM) (l0 : Nat) (l1 : Int32) (l2 : Int32) {x : (Int32 × xM)} (hf : f_X12_ruleAt_j35 σ l0 l1 l2 = some x) (hR : ∀ g, x = g → Q (.inl (some (.int g.1))) (g.2) π) : xMach G π J_X12_ruleAt (d + 5) C Z 35 [(0, .ref l0), (1, .int l1), (2, .int l2)] [] σ Q := by
  unfold f_X12_ruleAt_j35 at hf
  refine xm_iload_n dX12_ruleAt_35 rfl ?_
  refine xm_iconst dX12_ruleAt_36 (v := 0) (by decide) ?_
  refine xm_iconst dX12_ruleAt_37 (v := 5) (by decide) ?_
  obtain ⟨p2, ep2, hf⟩ := xbind hf
  refine xb_callS (As := [.int l2, .int (0 : Int32), .int (5 : Int32)]) (v0 := (some (.int p2))) (τ0 := σ) dX12_ruleAt_38 (xc_X12_in _ _) xw_2132 xw_2133 rfl (Nat.le_of_ble_eq_true rfl) rfl (Nat.le_of_ble_eq_true rfl) (fun Q1 hq => m_X12_in (d := d + 4) ep2 (fun g hg => by subst hg; exact hq)) ?_
  refine xb_if_eq 63 dX12_ruleAt_41 (by decide) hf (fun c hf => ?_) (fun c hf => ?_)
  · exact xm_sub [] rfl (L_X12_ruleAt_j63 σ hf hR)
  · refine xm_aload_n dX12_ruleAt_44 rfl ?_
    refine xb_getR (a := l0) (c := 12) (k := 7) dX12_ruleAt_45 xcl12 (by decide) xw_1844 rfl hf (fun x3 ex3 hf => ?_)
    refine xm_iload_n dX12_ruleAt_48 rfl ?_
    refine xb_iald dX12_ruleAt_49 hf (fun x4 ex4 hf => ?_)
    refine xm_iconst dX12_ruleAt_50 (v := 2) (by decide) ?_
    refine xb_icmp_ne 63 dX12_ruleAt_51 (by decide) hf (fun c hf => ?_) (fun c hf => ?_)
    · exact xm_sub [] rfl (L_X12_ruleAt_j63 σ hf hR)
    · refine xm_aload_n dX12_ruleAt_54 rfl ?_
      refine xm_iload_n dX12_ruleAt_55 rfl ?_
      refine xm_iload_n dX12_ruleAt_56 rfl ?_
      refine xb_if hf (fun hb hf => ?_) (fun _ q => nomatch q)
      obtain ⟨p5, ep5, hf⟩ := xbind hf
      refine xb_callV (As := [.int l1, .int l2]) (v0 := (some (.int p5.1))) (τ0 := p5.2) dX12_ruleAt_57 (xc_X12_ruleOfTwo _ _) xcl12 xw_2604 xw_2606 xs_186 hb rfl (Nat.le_of_ble_eq_true rfl) rfl (Nat.le_of_ble_eq_true rfl) (fun Q1 hq => m_X12_ruleOfTwo (d := d + 0) ep5 (fun g hg => by subst hg; exact hq)) ?_
      refine xm_goto 64 dX12_ruleAt_60 (by decide) ?_
      exact xm_sub [] rfl (L_X12_ruleAt_j64 p5.2 p5.1 hf hR)
def f_X12_ruleAt (σ : xM) (l0 : Nat) (l1 : Int32) : Option (Int32 × xM) :=
  (if xk σ l0 12 = true then (f_X12_meaningAt σ l0 l1).bind (fun p1 => (if p1 = (11 : Int32) then (if xk σ l0 12 = true then (f_X12_meaningAt σ l0 (l1 + (1 : Int32))).bind (fun p6 => (if p6 = (11 : Int32) then (if xk σ l0 12 = true then (f_X12_becomesInner σ l0 l1 (l1 + (2 : Int32))).bind (fun p7 => some ((6 : Int32), p7)) else none) else f_X12_ruleAt_j35 σ l0 l1 p1)) else none) else f_X12_ruleAt_j35 σ l0 l1 p1)) else none)
set_option maxHeartbeats 4000000 in
set_option maxRecDepth 20000 in
theorem m_X12_ruleAt {G : xG} {π : Nat → Nat} {d C Z : Nat} {Q : xQ} {σ : xM} {l0 : Nat} {l1 : Int32} {x : (Int32 × xM)} (hf : f_X12_ruleAt σ l0 l1 = some x) (hR : ∀ g, x = g → Q (.inl (some (.int g.1))) (g.2) π) : xMach G π J_X12_ruleAt (d + 5) C Z 0 (lv_args 0 [.ref l0, .int l1]) [] σ Q := by
  unfold f_X12_ruleAt at hf
  refine xm_stL (L' := [(0, .ref l0), (1, .int l1)]) rfl ?_
  refine xm_aload_n dX12_ruleAt_0 rfl ?_
  refine xm_iload_n dX12_ruleAt_1 rfl ?_
  refine xb_if hf (fun hb hf => ?_) (fun _ q => nomatch q)
  obtain ⟨p1, ep1, hf⟩ := xbind hf
  refine xb_callV (As := [.int l1]) (v0 := (some (.int p1))) (τ0 := σ) dX12_ruleAt_2 (xc_X12_meaningAt _ _) xcl12 xw_2504 xw_2506 xs_169 hb rfl (Nat.le_of_ble_eq_true rfl) rfl (Nat.le_of_ble_eq_true rfl) (fun Q1 hq => m_X12_meaningAt (d := d + 3) ep1 (fun g hg => by subst hg; exact hq)) ?_
  refine xm_istore_n dX12_ruleAt_5 (by decide) (xm_stL (L' := [(2, .int p1), (0, .ref l0), (1, .int l1)]) rfl ?_)
  refine xm_iload_n dX12_ruleAt_6 rfl ?_
  refine xm_bipush dX12_ruleAt_7 (v := 11) (by decide) ?_
  refine xb_icmp_ne 35 dX12_ruleAt_9 (by decide) hf (fun c hf => ?_) (fun c hf => ?_)
  · exact xm_sub [1, 2, 0] rfl (L_X12_ruleAt_j35 σ l0 l1 p1 hf hR)
  · refine xm_aload_n dX12_ruleAt_12 rfl ?_
    refine xm_iload_n dX12_ruleAt_13 rfl ?_
    refine xm_iconst dX12_ruleAt_14 (v := 1) (by decide) ?_
    refine xm_iadd dX12_ruleAt_15 ?_
    refine xb_if hf (fun hb hf => ?_) (fun _ q => nomatch q)
    obtain ⟨p6, ep6, hf⟩ := xbind hf
    refine xb_callV (As := [.int (l1 + (1 : Int32))]) (v0 := (some (.int p6))) (τ0 := σ) dX12_ruleAt_16 (xc_X12_meaningAt _ _) xcl12 xw_2504 xw_2506 xs_169 hb rfl (Nat.le_of_ble_eq_true rfl) rfl (Nat.le_of_ble_eq_true rfl) (fun Q1 hq => m_X12_meaningAt (d := d + 3) ep6 (fun g hg => by subst hg; exact hq)) ?_
    refine xm_bipush dX12_ruleAt_19 (v := 11) (by decide) ?_
    refine xb_icmp_ne 35 dX12_ruleAt_21 (by decide) hf (fun c hf => ?_) (fun c hf => ?_)
    · exact xm_sub [1, 2, 0] rfl (L_X12_ruleAt_j35 σ l0 l1 p1 hf hR)
    · refine xm_aload_n dX12_ruleAt_24 rfl ?_
      refine xm_iload_n dX12_ruleAt_25 rfl ?_
      refine xm_iload_n dX12_ruleAt_26 rfl ?_
      refine xm_iconst dX12_ruleAt_27 (v := 2) (by decide) ?_
      refine xm_iadd dX12_ruleAt_28 ?_
      refine xb_if hf (fun hb hf => ?_) (fun _ q => nomatch q)
      obtain ⟨p7, ep7, hf⟩ := xbind hf
      refine xb_callV (As := [.int l1, .int (l1 + (2 : Int32))]) (v0 := none) (τ0 := p7) dX12_ruleAt_29 (xc_X12_becomesInner _ _) xcl12 xw_2600 xw_2602 xs_185 hb rfl (Nat.le_of_ble_eq_true rfl) rfl (Nat.le_of_ble_eq_true rfl) (fun Q1 hq => m_X12_becomesInner (d := d + 3) ep7 (fun g hg => by subst hg; exact hq)) ?_
      refine xm_bipush dX12_ruleAt_32 (v := 6) (by decide) ?_
      cases hf
      exact xm_iret dX12_ruleAt_34 rfl (hR _ rfl)
-- RankwiseModel.stepWork()Z
def f_X12_stepWork_j75 (σ : xM) (l0 : Nat) (l1 : Int32) (l2 : Int32) (l3 : Int32) : Option ((Int32 × xM) ⊕ ((Int32 × xM) ⊕ (Nat × Int32 × Int32 × Int32 × xM))) :=
  xlet (l3 + (1 : Int32)) (fun v7 => some (Sum.inr (Sum.inr (l0, l1, l2, v7, σ))))
set_option maxHeartbeats 4000000 in
set_option maxRecDepth 20000 in
theorem L_X12_stepWork_j75 {G : xG} {π : Nat → Nat} {d C Z : Nat} {Q : xQ} (σ : xM) (l0 : Nat) (l1 : Int32) (l2 : Int32) (l3 : Int32) {x : ((Int32 × xM) ⊕ ((Int32 × xM) ⊕ (Nat × Int32 × Int32 × Int32 × xM)))} (hf : f_X12_stepWork_j75 σ l0 l1 l2 l3 = some x) (hR : ∀ g, x = Sum.inl (g) → Q (.inl (some (.int g.1))) (g.2) π) (hE : ∀ e : (Int32 × xM), x = Sum.inr (Sum.inl e) → xMach G π J_X12_stepWork (d + 6) C Z 81 [(2, .int e.1)] [] e.2 Q) (hC : ∀ e : (Nat × Int32 × Int32 × Int32 × xM), x = Sum.inr (Sum.inr e) → xMach G π J_X12_stepWork (d + 6) C Z 12 [(0, .ref e.1), (1, .int e.2.1), (2, .int e.2.2.1), (3, .int e.2.2.2.1)] [] e.2.2.2.2 Q) : xMach G π J_X12_stepWork (d + 6) C Z 75 [(0, .ref l0), (1, .int l1), (2, .int l2), (3, .int l3)] [] σ Q := by
  unfold f_X12_stepWork_j75 at hf
  refine xb_iinc dX12_stepWork_75 rfl (by decide) (by decide) hf (fun v7 ev7 hf => xm_stL (L' := [(3, .int v7), (0, .ref l0), (1, .int l1), (2, .int l2)]) rfl ?_)
  refine xm_goto 12 dX12_stepWork_78 (by decide) ?_
  cases hf
  exact xm_sub [1, 2, 3, 0] rfl (hC _ rfl)
def f_X12_stepWork_s12 (s : (Nat × Int32 × Int32 × Int32 × xM)) : Option ((Int32 × xM) ⊕ ((Int32 × xM) ⊕ (Nat × Int32 × Int32 × Int32 × xM))) :=
  xlet s.1 (fun l0 => xlet s.2.1 (fun l1 => xlet s.2.2.1 (fun l2 => xlet s.2.2.2.1 (fun l3 => xlet s.2.2.2.2 (fun σ => (if l1 ≤ l3 then some (Sum.inr (Sum.inl (l2, σ))) else (if l2 = (0 : Int32) then (gR σ l0 12 14).bind (fun x4 => (aI σ x4 14 l3).bind (fun x5 => (if xk σ l0 12 = true then (f_X12_ruleAt σ l0 x5).bind (fun p6 => (if p6.1 ≤ (0 : Int32) then f_X12_stepWork_j75 p6.2 l0 l1 p6.1 l3 else (gR p6.2 l0 12 65).bind (fun x8 => (gI p6.2 l0 12 67).bind (fun x9 => (wI p6.2 x8 x9 p6.1).bind (fun σ10 => (gR σ10 l0 12 66).bind (fun x11 => (gI σ10 l0 12 67).bind (fun x12 => (wI σ10 x11 x12 (x5 - (13540 : Int32))).bind (fun σ13 => (gI σ13 l0 12 67).bind (fun x14 => (sI σ13 l0 12 67 (x14 + (1 : Int32))).bind (fun σ15 => f_X12_stepWork_j75 σ15 l0 l1 p6.1 l3)))))))))) else none))) else some (Sum.inr (Sum.inl (l2, σ))))))))))
set_option maxHeartbeats 4000000 in
set_option maxRecDepth 20000 in
theorem L_X12_stepWork_s12 {G : xG} {π : Nat → Nat} {d C Z : Nat} {Q : xQ} (σ : xM) (l0 : Nat) (l1 : Int32) (l2 : Int32) (l3 : Int32) {x : ((Int32 × xM) ⊕ ((Int32 × xM) ⊕ (Nat × Int32 × Int32 × Int32 × xM)))} (hf : f_X12_stepWork_s12 (l0, l1, l2, l3, σ) = some x) (hR : ∀ g, x = Sum.inl (g) → Q (.inl (some (.int g.1))) (g.2) π) (hE : ∀ e : (Int32 × xM), x = Sum.inr (Sum.inl e) → xMach G π J_X12_stepWork (d + 6) C Z 81 [(2, .int e.1)] [] e.2 Q) (hC : ∀ e : (Nat × Int32 × Int32 × Int32 × xM), x = Sum.inr (Sum.inr e) → xMach G π J_X12_stepWork (d + 6) C Z 12 [(0, .ref e.1), (1, .int e.2.1), (2, .int e.2.2.1), (3, .int e.2.2.2.1)] [] e.2.2.2.2 Q) : xMach G π J_X12_stepWork (d + 6) C Z 12 [(0, .ref l0), (1, .int l1), (2, .int l2), (3, .int l3)] [] σ Q := by
  have hf : (if l1 ≤ l3 then some (Sum.inr (Sum.inl (l2, σ))) else (if l2 = (0 : Int32) then (gR σ l0 12 14).bind (fun x4 => (aI σ x4 14 l3).bind (fun x5 => (if xk σ l0 12 = true then (f_X12_ruleAt σ l0 x5).bind (fun p6 => (if p6.1 ≤ (0 : Int32) then f_X12_stepWork_j75 p6.2 l0 l1 p6.1 l3 else (gR p6.2 l0 12 65).bind (fun x8 => (gI p6.2 l0 12 67).bind (fun x9 => (wI p6.2 x8 x9 p6.1).bind (fun σ10 => (gR σ10 l0 12 66).bind (fun x11 => (gI σ10 l0 12 67).bind (fun x12 => (wI σ10 x11 x12 (x5 - (13540 : Int32))).bind (fun σ13 => (gI σ13 l0 12 67).bind (fun x14 => (sI σ13 l0 12 67 (x14 + (1 : Int32))).bind (fun σ15 => f_X12_stepWork_j75 σ15 l0 l1 p6.1 l3)))))))))) else none))) else some (Sum.inr (Sum.inl (l2, σ))))) = some x := hf
  refine xm_iload_n dX12_stepWork_12 rfl ?_
  refine xm_iload_n dX12_stepWork_13 rfl ?_
  refine xb_icmp_ge 81 dX12_stepWork_14 (by decide) hf (fun c hf => ?_) (fun c hf => ?_)
  · cases hf
    exact xm_sub [2] rfl (hE _ rfl)
  · refine xm_iload_n dX12_stepWork_17 rfl ?_
    refine xb_if_ne 81 dX12_stepWork_18 (by decide) hf (fun c hf => ?_) (fun c hf => ?_)
    · cases hf
      exact xm_sub [2] rfl (hE _ rfl)
    · refine xm_aload_n dX12_stepWork_21 rfl ?_
      refine xb_getR (a := l0) (c := 12) (k := 14) dX12_stepWork_22 xcl12 (by decide) xw_1851 rfl hf (fun x4 ex4 hf => ?_)
      refine xm_iload_n dX12_stepWork_25 rfl ?_
      refine xb_iald dX12_stepWork_26 hf (fun x5 ex5 hf => ?_)
      refine xm_istore dX12_stepWork_27 (by decide) (xm_stL (L' := [(4, .int x5), (0, .ref l0), (1, .int l1), (2, .int l2), (3, .int l3)]) rfl ?_)
      refine xm_aload_n dX12_stepWork_29 rfl ?_
      refine xm_iload dX12_stepWork_30 rfl ?_
      refine xb_if hf (fun hb hf => ?_) (fun _ q => nomatch q)
      obtain ⟨p6, ep6, hf⟩ := xbind hf
      refine xb_callV (As := [.int x5]) (v0 := (some (.int p6.1))) (τ0 := p6.2) dX12_stepWork_32 (xc_X12_ruleAt _ _) xcl12 xw_2596 xw_2598 xs_184 hb rfl (Nat.le_of_ble_eq_true rfl) rfl (Nat.le_of_ble_eq_true rfl) (fun Q1 hq => m_X12_ruleAt (d := d + 0) ep6 (fun g hg => by subst hg; exact hq)) ?_
      refine xm_istore_n dX12_stepWork_35 (by decide) (xm_stL (L' := [(2, .int p6.1), (4, .int x5), (0, .ref l0), (1, .int l1), (3, .int l3)]) rfl ?_)
      refine xm_iload_n dX12_stepWork_36 rfl ?_
      refine xb_if_le 75 dX12_stepWork_37 (by decide) hf (fun c hf => ?_) (fun c hf => ?_)
      · exact xm_sub [2, 3, 0, 4] rfl (L_X12_stepWork_j75 p6.2 l0 l1 p6.1 l3 hf hR hE hC)
      · refine xm_aload_n dX12_stepWork_40 rfl ?_
        refine xb_getR (a := l0) (c := 12) (k := 65) dX12_stepWork_41 xcl12 (by decide) xw_1902 rfl hf (fun x8 ex8 hf => ?_)
        refine xm_aload_n dX12_stepWork_44 rfl ?_
        refine xb_getI (a := l0) (c := 12) (k := 67) dX12_stepWork_45 xcl12 (by decide) xw_1904 rfl hf (fun x9 ex9 hf => ?_)
        refine xm_iload_n dX12_stepWork_48 rfl ?_
        refine xb_iast dX12_stepWork_49 hf (fun σ10 eσ10 hf => ?_)
        refine xm_aload_n dX12_stepWork_50 rfl ?_
        refine xb_getR (a := l0) (c := 12) (k := 66) dX12_stepWork_51 xcl12 (by decide) xw_1903 rfl hf (fun x11 ex11 hf => ?_)
        refine xm_aload_n dX12_stepWork_54 rfl ?_
        refine xb_getI (a := l0) (c := 12) (k := 67) dX12_stepWork_55 xcl12 (by decide) xw_1904 rfl hf (fun x12 ex12 hf => ?_)
        refine xm_iload dX12_stepWork_58 rfl ?_
        refine xm_sipush dX12_stepWork_60 (v := 13540) (by decide) ?_
        refine xm_isub dX12_stepWork_63 ?_
        refine xb_iast dX12_stepWork_64 hf (fun σ13 eσ13 hf => ?_)
        refine xm_aload_n dX12_stepWork_65 rfl ?_
        refine xm_dup dX12_stepWork_66 rfl ?_
        refine xb_getI (a := l0) (c := 12) (k := 67) dX12_stepWork_67 xcl12 (by decide) xw_1904 rfl hf (fun x14 ex14 hf => ?_)
        refine xm_iconst dX12_stepWork_70 (v := 1) (by decide) ?_
        refine xm_iadd dX12_stepWork_71 ?_
        refine xb_putI (a := l0) (c := 12) (k := 67) dX12_stepWork_72 xcl12 (by decide) xw_1904 rfl rfl hf (fun σ15 eσ15 hf => ?_)
        exact xm_sub [2, 3, 0, 4] rfl (L_X12_stepWork_j75 σ15 l0 l1 p6.1 l3 hf hR hE hC)
theorem L_X12_stepWork_l12 {G : xG} {π : Nat → Nat} {d C Z : Nat} {Q : xQ} {s0 : (Nat × Int32 × Int32 × Int32 × xM)} {x : ((Int32 × xM) ⊕ (Int32 × xM))} (h1 : xloop (f_X12_stepWork_s12) xF s0 = some x) (hR : ∀ g, x = Sum.inl g → Q (.inl (some (.int g.1))) (g.2) π) (hE : ∀ e : (Int32 × xM), x = Sum.inr e → xMach G π J_X12_stepWork (d + 6) C Z 81 [(2, .int e.1)] [] e.2 Q) : xMach G π J_X12_stepWork (d + 6) C Z 12 [(0, .ref s0.1), (1, .int s0.2.1), (2, .int s0.2.2.1), (3, .int s0.2.2.2.1)] [] s0.2.2.2.2 Q := by
  refine xloop_run (M := (fun s : (Nat × Int32 × Int32 × Int32 × xM) => xMach G π J_X12_stepWork (d + 6) C Z 12 [(0, .ref s.1), (1, .int s.2.1), (2, .int s.2.2.1), (3, .int s.2.2.2.1)] [] s.2.2.2.2 Q)) (r := x) ?_ xF _ h1
  intro s y hs hx
  exact L_X12_stepWork_s12 s.2.2.2.2 s.1 s.2.1 s.2.2.1 s.2.2.2.1 (x := y) hs (fun g hg => by subst hg; exact hR g hx) (fun e he => by subst he; exact hE e hx) (fun e he => by subst he; exact hx)
def f_X12_stepWork_j90 (σ : xM) (s0 : Int32) : Option (Int32 × xM) :=
  (xz s0).bind (fun b16 => some (b16, σ))
set_option maxHeartbeats 4000000 in
set_option maxRecDepth 20000 in
theorem L_X12_stepWork_j90 {G : xG} {π : Nat → Nat} {d C Z : Nat} {Q : xQ} (σ : xM) (s0 : Int32) {x : (Int32 × xM)} (hf : f_X12_stepWork_j90 σ s0 = some x) (hR : ∀ g, x = g → Q (.inl (some (.int g.1))) (g.2) π) : xMach G π J_X12_stepWork (d + 6) C Z 90 [] [.int s0] σ Q := by
  unfold f_X12_stepWork_j90 at hf
  obtain ⟨b16, eb16, hf⟩ := xbind hf
  obtain ⟨rfl, hz⟩ := xz_of eb16
  cases hf
  exact xm_zret dX12_stepWork_90 rfl hz (hR _ rfl)
def f_X12_stepWork_j81 (σ : xM) (l2 : Int32) : Option (Int32 × xM) :=
  (if l2 ≤ (0 : Int32) then f_X12_stepWork_j90 σ (0 : Int32) else f_X12_stepWork_j90 σ (1 : Int32))
set_option maxHeartbeats 4000000 in
set_option maxRecDepth 20000 in
theorem L_X12_stepWork_j81 {G : xG} {π : Nat → Nat} {d C Z : Nat} {Q : xQ} (σ : xM) (l2 : Int32) {x : (Int32 × xM)} (hf : f_X12_stepWork_j81 σ l2 = some x) (hR : ∀ g, x = g → Q (.inl (some (.int g.1))) (g.2) π) : xMach G π J_X12_stepWork (d + 6) C Z 81 [(2, .int l2)] [] σ Q := by
  unfold f_X12_stepWork_j81 at hf
  refine xm_iload_n dX12_stepWork_81 rfl ?_
  refine xb_if_le 89 dX12_stepWork_82 (by decide) hf (fun c hf => ?_) (fun c hf => ?_)
  · refine xm_iconst dX12_stepWork_89 (v := 0) (by decide) ?_
    exact xm_sub [] rfl (L_X12_stepWork_j90 σ (0 : Int32) hf hR)
  · refine xm_iconst dX12_stepWork_85 (v := 1) (by decide) ?_
    refine xm_goto 90 dX12_stepWork_86 (by decide) ?_
    exact xm_sub [] rfl (L_X12_stepWork_j90 σ (1 : Int32) hf hR)
def f_X12_stepWork (σ : xM) (l0 : Nat) : Option (Int32 × xM) :=
  (if xk σ l0 12 = true then (f_X12_inOrder σ l0 (13540 : Int32)).bind (fun p1 => xlet (0 : Int32) (fun v2 => xlet (0 : Int32) (fun v3 => (xloop (f_X12_stepWork_s12 ) xF (l0, p1.1, v2, v3, p1.2)).bind (Sum.elim (fun g => some g) (fun e => f_X12_stepWork_j81 e.2 e.1))))) else none)
set_option maxHeartbeats 4000000 in
set_option maxRecDepth 20000 in
theorem m_X12_stepWork {G : xG} {π : Nat → Nat} {d C Z : Nat} {Q : xQ} {σ : xM} {l0 : Nat} {x : (Int32 × xM)} (hf : f_X12_stepWork σ l0 = some x) (hR : ∀ g, x = g → Q (.inl (some (.int g.1))) (g.2) π) : xMach G π J_X12_stepWork (d + 6) C Z 0 (lv_args 0 [.ref l0]) [] σ Q := by
  unfold f_X12_stepWork at hf
  refine xm_stL (L' := [(0, .ref l0)]) rfl ?_
  refine xm_aload_n dX12_stepWork_0 rfl ?_
  refine xm_sipush dX12_stepWork_1 (v := 13540) (by decide) ?_
  refine xb_if hf (fun hb hf => ?_) (fun _ q => nomatch q)
  obtain ⟨p1, ep1, hf⟩ := xbind hf
  refine xb_callV (As := [.int (13540 : Int32)]) (v0 := (some (.int p1.1))) (τ0 := p1.2) dX12_stepWork_4 (xc_X12_inOrder _ _) xcl12 xw_2343 xw_2345 xs_132 hb rfl (Nat.le_of_ble_eq_true rfl) rfl (Nat.le_of_ble_eq_true rfl) (fun Q1 hq => m_X12_inOrder (d := d + 5) ep1 (fun g hg => by subst hg; exact hq)) ?_
  refine xm_istore_n dX12_stepWork_7 (by decide) (xm_stL (L' := [(1, .int p1.1), (0, .ref l0)]) rfl ?_)
  refine xm_iconst dX12_stepWork_8 (v := 0) (by decide) ?_
  refine xb_topi hf (fun v2 ev2 hf => ?_)
  refine xm_istore_n dX12_stepWork_9 (by decide) (xm_stL (L' := [(2, .int v2), (1, .int p1.1), (0, .ref l0)]) rfl ?_)
  refine xm_iconst dX12_stepWork_10 (v := 0) (by decide) ?_
  refine xb_topi hf (fun v3 ev3 hf => ?_)
  refine xm_istore_n dX12_stepWork_11 (by decide) (xm_stL (L' := [(3, .int v3), (2, .int v2), (1, .int p1.1), (0, .ref l0)]) rfl ?_)
  obtain ⟨o, h1, hf⟩ := xbind hf
  refine xm_sub [3, 2, 1, 0] rfl (L_X12_stepWork_l12  h1 (fun g hg => ?_) (fun e he => ?_))
  · subst hg
    cases hf
    exact hR _ rfl
  · subst he
    rw [Sum.elim_inr] at hf
    have hf : f_X12_stepWork_j81 e.2 e.1 = some _ := hf
    exact xm_sub [0] rfl (L_X12_stepWork_j81 e.2 e.1 hf hR)
-- RankwiseModel.takeWork(I)V
def f_X12_takeWork (σ : xM) (l0 : Nat) (l1 : Int32) : Option xM :=
  (gR σ l0 12 8).bind (fun x1 => (aI σ x1 14 l1).bind (fun x2 => (sI σ l0 12 64 x2).bind (fun σ3 => (gI σ3 l0 12 64).bind (fun x4 => (if xk σ3 l0 12 = true then (f_X12_copyNodes σ3 l0 (13540 : Int32) l1 x4).bind (fun p5 => some p5) else none)))))
set_option maxHeartbeats 4000000 in
set_option maxRecDepth 20000 in
theorem m_X12_takeWork {G : xG} {π : Nat → Nat} {d C Z : Nat} {Q : xQ} {σ : xM} {l0 : Nat} {l1 : Int32} {x : xM} (hf : f_X12_takeWork σ l0 l1 = some x) (hR : ∀ g, x = g → Q (.inl none) (g) π) : xMach G π J_X12_takeWork (d + 1) C Z 0 (lv_args 0 [.ref l0, .int l1]) [] σ Q := by
  unfold f_X12_takeWork at hf
  refine xm_stL (L' := [(0, .ref l0), (1, .int l1)]) rfl ?_
  refine xm_aload_n dX12_takeWork_0 rfl ?_
  refine xm_aload_n dX12_takeWork_1 rfl ?_
  refine xb_getR (a := l0) (c := 12) (k := 8) dX12_takeWork_2 xcl12 (by decide) xw_1845 rfl hf (fun x1 ex1 hf => ?_)
  refine xm_iload_n dX12_takeWork_5 rfl ?_
  refine xb_iald dX12_takeWork_6 hf (fun x2 ex2 hf => ?_)
  refine xb_putI (a := l0) (c := 12) (k := 64) dX12_takeWork_7 xcl12 (by decide) xw_1901 rfl rfl hf (fun σ3 eσ3 hf => ?_)
  refine xm_aload_n dX12_takeWork_10 rfl ?_
  refine xm_sipush dX12_takeWork_11 (v := 13540) (by decide) ?_
  refine xm_iload_n dX12_takeWork_14 rfl ?_
  refine xm_aload_n dX12_takeWork_15 rfl ?_
  refine xb_getI (a := l0) (c := 12) (k := 64) dX12_takeWork_16 xcl12 (by decide) xw_1901 rfl hf (fun x4 ex4 hf => ?_)
  refine xb_if hf (fun hb hf => ?_) (fun _ q => nomatch q)
  obtain ⟨p5, ep5, hf⟩ := xbind hf
  refine xb_callV (As := [.int (13540 : Int32), .int l1, .int x4]) (v0 := none) (τ0 := p5) dX12_takeWork_19 (xc_X12_copyNodes _ _) xcl12 xw_2104 xw_2106 xs_89 hb rfl (Nat.le_of_ble_eq_true rfl) rfl (Nat.le_of_ble_eq_true rfl) (fun Q1 hq => m_X12_copyNodes (d := d + 0) ep5 (fun g hg => by subst hg; exact hq)) ?_
  cases hf
  exact xm_vret dX12_takeWork_22 rfl (hR _ rfl)
-- RankwiseModel.coefficientAt(II)I
def f_X12_coefficientAt (σ : xM) (l0 : Int32) (l1 : Int32) : Option Int32 :=
  some (((2700 : Int32) + ((9 : Int32) * l0)) + l1)
set_option maxHeartbeats 4000000 in
set_option maxRecDepth 20000 in
theorem m_X12_coefficientAt {G : xG} {π : Nat → Nat} {d C Z : Nat} {Q : xQ} {σ : xM} {l0 : Int32} {l1 : Int32} {x : Int32} (hf : f_X12_coefficientAt σ l0 l1 = some x) (hR : ∀ g, x = g → Q (.inl (some (.int g))) (σ) π) : xMach G π J_X12_coefficientAt (d + 0) C Z 0 (lv_args 0 [.int l0, .int l1]) [] σ Q := by
  unfold f_X12_coefficientAt at hf
  refine xm_stL (L' := [(0, .int l0), (1, .int l1)]) rfl ?_
  refine xm_sipush dX12_coefficientAt_0 (v := 2700) (by decide) ?_
  refine xm_bipush dX12_coefficientAt_3 (v := 9) (by decide) ?_
  refine xm_iload_n dX12_coefficientAt_5 rfl ?_
  refine xm_imul dX12_coefficientAt_6 ?_
  refine xm_iadd dX12_coefficientAt_7 ?_
  refine xm_iload_n dX12_coefficientAt_8 rfl ?_
  refine xm_iadd dX12_coefficientAt_9 ?_
  cases hf
  exact xm_iret dX12_coefficientAt_10 rfl (hR _ rfl)
-- RankwiseModel.degreeOf(I)I
def f_X12_degreeOf_s3 (σ : xM) (s : (Nat × Int32 × Int32)) : Option (Int32 ⊕ ((Int32) ⊕ (Nat × Int32 × Int32))) :=
  xlet s.1 (fun l0 => xlet s.2.1 (fun l1 => xlet s.2.2 (fun l2 => (if l2 ≤ (0 : Int32) then some (Sum.inr (Sum.inl l2)) else (f_X12_coefficientAt σ l1 l2).bind (fun p2 => (if xk σ l0 12 = true then (f_X12_sign σ l0 p2).bind (fun p3 => (if p3 = (0 : Int32) then xlet (l2 + (-1 : Int32)) (fun v4 => some (Sum.inr (Sum.inr (l0, l1, v4)))) else some (Sum.inr (Sum.inl l2)))) else none))))))
set_option maxHeartbeats 4000000 in
set_option maxRecDepth 20000 in
theorem L_X12_degreeOf_s3 {G : xG} {π : Nat → Nat} {d C Z : Nat} {Q : xQ} (σ : xM) (l0 : Nat) (l1 : Int32) (l2 : Int32) {x : (Int32 ⊕ ((Int32) ⊕ (Nat × Int32 × Int32)))} (hf : f_X12_degreeOf_s3 σ (l0, l1, l2) = some x) (hR : ∀ g, x = Sum.inl (g) → Q (.inl (some (.int g))) (σ) π) (hE : ∀ e : (Int32), x = Sum.inr (Sum.inl e) → xMach G π J_X12_degreeOf (d + 1) C Z 25 [(2, .int e)] [] σ Q) (hC : ∀ e : (Nat × Int32 × Int32), x = Sum.inr (Sum.inr e) → xMach G π J_X12_degreeOf (d + 1) C Z 3 [(0, .ref e.1), (1, .int e.2.1), (2, .int e.2.2)] [] σ Q) : xMach G π J_X12_degreeOf (d + 1) C Z 3 [(0, .ref l0), (1, .int l1), (2, .int l2)] [] σ Q := by
  have hf : (if l2 ≤ (0 : Int32) then some (Sum.inr (Sum.inl l2)) else (f_X12_coefficientAt σ l1 l2).bind (fun p2 => (if xk σ l0 12 = true then (f_X12_sign σ l0 p2).bind (fun p3 => (if p3 = (0 : Int32) then xlet (l2 + (-1 : Int32)) (fun v4 => some (Sum.inr (Sum.inr (l0, l1, v4)))) else some (Sum.inr (Sum.inl l2)))) else none))) = some x := hf
  refine xm_iload_n dX12_degreeOf_3 rfl ?_
  refine xb_if_le 25 dX12_degreeOf_4 (by decide) hf (fun c hf => ?_) (fun c hf => ?_)
  · cases hf
    exact xm_sub [2] rfl (hE _ rfl)
  · refine xm_aload_n dX12_degreeOf_7 rfl ?_
    refine xm_iload_n dX12_degreeOf_8 rfl ?_
    refine xm_iload_n dX12_degreeOf_9 rfl ?_
    obtain ⟨p2, ep2, hf⟩ := xbind hf
    refine xb_callS (As := [.int l1, .int l2]) (v0 := (some (.int p2))) (τ0 := σ) dX12_degreeOf_10 (xc_X12_coefficientAt _ _) xw_2655 xw_2656 rfl (Nat.le_of_ble_eq_true rfl) rfl (Nat.le_of_ble_eq_true rfl) (fun Q1 hq => m_X12_coefficientAt (d := d + 0) ep2 (fun g hg => by subst hg; exact hq)) ?_
    refine xb_if hf (fun hb hf => ?_) (fun _ q => nomatch q)
    obtain ⟨p3, ep3, hf⟩ := xbind hf
    refine xb_callV (As := [.int p2]) (v0 := (some (.int p3))) (τ0 := σ) dX12_degreeOf_13 (xc_X12_sign _ _) xcl12 xw_2387 xw_2389 xs_141 hb rfl (Nat.le_of_ble_eq_true rfl) rfl (Nat.le_of_ble_eq_true rfl) (fun Q1 hq => m_X12_sign (d := d + 0) ep3 (fun g hg => by subst hg; exact hq)) ?_
    refine xb_if_ne 25 dX12_degreeOf_16 (by decide) hf (fun c hf => ?_) (fun c hf => ?_)
    · cases hf
      exact xm_sub [2] rfl (hE _ rfl)
    · refine xb_iinc dX12_degreeOf_19 rfl (by decide) (by decide) hf (fun v4 ev4 hf => xm_stL (L' := [(2, .int v4), (0, .ref l0), (1, .int l1)]) rfl ?_)
      refine xm_goto 3 dX12_degreeOf_22 (by decide) ?_
      cases hf
      exact xm_sub [1, 2, 0] rfl (hC _ rfl)
theorem L_X12_degreeOf_l3 {G : xG} {π : Nat → Nat} {d C Z : Nat} {Q : xQ} (σ : xM) {s0 : (Nat × Int32 × Int32)} {x : (Int32 ⊕ (Int32))} (h1 : xloop (f_X12_degreeOf_s3 σ) xF s0 = some x) (hR : ∀ g, x = Sum.inl g → Q (.inl (some (.int g))) (σ) π) (hE : ∀ e : (Int32), x = Sum.inr e → xMach G π J_X12_degreeOf (d + 1) C Z 25 [(2, .int e)] [] σ Q) : xMach G π J_X12_degreeOf (d + 1) C Z 3 [(0, .ref s0.1), (1, .int s0.2.1), (2, .int s0.2.2)] [] σ Q := by
  refine xloop_run (M := (fun s : (Nat × Int32 × Int32) => xMach G π J_X12_degreeOf (d + 1) C Z 3 [(0, .ref s.1), (1, .int s.2.1), (2, .int s.2.2)] [] σ Q)) (r := x) ?_ xF _ h1
  intro s y hs hx
  exact L_X12_degreeOf_s3 σ s.1 s.2.1 s.2.2 (x := y) hs (fun g hg => by subst hg; exact hR g hx) (fun e he => by subst he; exact hE e hx) (fun e he => by subst he; exact hx)
def f_X12_degreeOf_j25 (σ : xM) (l2 : Int32) : Option Int32 :=
  some l2
set_option maxHeartbeats 4000000 in
set_option maxRecDepth 20000 in
theorem L_X12_degreeOf_j25 {G : xG} {π : Nat → Nat} {d C Z : Nat} {Q : xQ} (σ : xM) (l2 : Int32) {x : Int32} (hf : f_X12_degreeOf_j25 σ l2 = some x) (hR : ∀ g, x = g → Q (.inl (some (.int g))) (σ) π) : xMach G π J_X12_degreeOf (d + 1) C Z 25 [(2, .int l2)] [] σ Q := by
  unfold f_X12_degreeOf_j25 at hf
  refine xm_iload_n dX12_degreeOf_25 rfl ?_
  cases hf
  exact xm_iret dX12_degreeOf_26 rfl (hR _ rfl)
def f_X12_degreeOf (σ : xM) (l0 : Nat) (l1 : Int32) : Option Int32 :=
  xlet (8 : Int32) (fun v1 => (xloop (f_X12_degreeOf_s3 σ ) xF (l0, l1, v1)).bind (Sum.elim (fun g => some g) (fun e => f_X12_degreeOf_j25 σ e)))
set_option maxHeartbeats 4000000 in
set_option maxRecDepth 20000 in
theorem m_X12_degreeOf {G : xG} {π : Nat → Nat} {d C Z : Nat} {Q : xQ} {σ : xM} {l0 : Nat} {l1 : Int32} {x : Int32} (hf : f_X12_degreeOf σ l0 l1 = some x) (hR : ∀ g, x = g → Q (.inl (some (.int g))) (σ) π) : xMach G π J_X12_degreeOf (d + 1) C Z 0 (lv_args 0 [.ref l0, .int l1]) [] σ Q := by
  unfold f_X12_degreeOf at hf
  refine xm_stL (L' := [(0, .ref l0), (1, .int l1)]) rfl ?_
  refine xm_bipush dX12_degreeOf_0 (v := 8) (by decide) ?_
  refine xb_topi hf (fun v1 ev1 hf => ?_)
  refine xm_istore_n dX12_degreeOf_2 (by decide) (xm_stL (L' := [(2, .int v1), (0, .ref l0), (1, .int l1)]) rfl ?_)
  obtain ⟨o, h1, hf⟩ := xbind hf
  refine xm_sub [1, 2, 0] rfl (L_X12_degreeOf_l3 σ h1 (fun g hg => ?_) (fun e he => ?_))
  · subst hg
    cases hf
    exact hR _ rfl
  · subst he
    rw [Sum.elim_inr] at hf
    have hf : f_X12_degreeOf_j25 σ e = some _ := hf
    exact xm_sub [0] rfl (L_X12_degreeOf_j25 σ e hf hR)
-- RankwiseModel.clear(I)V
def f_X12_clear_s2 (s : (Nat × Int32 × Int32 × xM)) : Option (xM ⊕ ((xM) ⊕ (Nat × Int32 × Int32 × xM))) :=
  xlet s.1 (fun l0 => xlet s.2.1 (fun l1 => xlet s.2.2.1 (fun l2 => xlet s.2.2.2 (fun σ => (if (9 : Int32) ≤ l2 then some (Sum.inr (Sum.inl σ)) else (f_X12_coefficientAt σ l1 l2).bind (fun p2 => (if xk σ l0 12 = true then (f_X12_setInt σ l0 p2 (0 : Int32)).bind (fun p3 => xlet (l2 + (1 : Int32)) (fun v4 => some (Sum.inr (Sum.inr (l0, l1, v4, p3))))) else none)))))))
set_option maxHeartbeats 4000000 in
set_option maxRecDepth 20000 in
theorem L_X12_clear_s2 {G : xG} {π : Nat → Nat} {d C Z : Nat} {Q : xQ} (σ : xM) (l0 : Nat) (l1 : Int32) (l2 : Int32) {x : (xM ⊕ ((xM) ⊕ (Nat × Int32 × Int32 × xM)))} (hf : f_X12_clear_s2 (l0, l1, l2, σ) = some x) (hR : ∀ g, x = Sum.inl (g) → Q (.inl none) (g) π) (hE : ∀ e : (xM), x = Sum.inr (Sum.inl e) → xMach G π J_X12_clear (d + 3) C Z 24 [] [] e Q) (hC : ∀ e : (Nat × Int32 × Int32 × xM), x = Sum.inr (Sum.inr e) → xMach G π J_X12_clear (d + 3) C Z 2 [(0, .ref e.1), (1, .int e.2.1), (2, .int e.2.2.1)] [] e.2.2.2 Q) : xMach G π J_X12_clear (d + 3) C Z 2 [(0, .ref l0), (1, .int l1), (2, .int l2)] [] σ Q := by
  have hf : (if (9 : Int32) ≤ l2 then some (Sum.inr (Sum.inl σ)) else (f_X12_coefficientAt σ l1 l2).bind (fun p2 => (if xk σ l0 12 = true then (f_X12_setInt σ l0 p2 (0 : Int32)).bind (fun p3 => xlet (l2 + (1 : Int32)) (fun v4 => some (Sum.inr (Sum.inr (l0, l1, v4, p3))))) else none))) = some x := hf
  refine xm_iload_n dX12_clear_2 rfl ?_
  refine xm_bipush dX12_clear_3 (v := 9) (by decide) ?_
  refine xb_icmp_ge 24 dX12_clear_5 (by decide) hf (fun c hf => ?_) (fun c hf => ?_)
  · cases hf
    exact xm_sub [] rfl (hE _ rfl)
  · refine xm_aload_n dX12_clear_8 rfl ?_
    refine xm_iload_n dX12_clear_9 rfl ?_
    refine xm_iload_n dX12_clear_10 rfl ?_
    obtain ⟨p2, ep2, hf⟩ := xbind hf
    refine xb_callS (As := [.int l1, .int l2]) (v0 := (some (.int p2))) (τ0 := σ) dX12_clear_11 (xc_X12_coefficientAt _ _) xw_2655 xw_2656 rfl (Nat.le_of_ble_eq_true rfl) rfl (Nat.le_of_ble_eq_true rfl) (fun Q1 hq => m_X12_coefficientAt (d := d + 2) ep2 (fun g hg => by subst hg; exact hq)) ?_
    refine xm_iconst dX12_clear_14 (v := 0) (by decide) ?_
    refine xb_if hf (fun hb hf => ?_) (fun _ q => nomatch q)
    obtain ⟨p3, ep3, hf⟩ := xbind hf
    refine xb_callV (As := [.int p2, .int (0 : Int32)]) (v0 := none) (τ0 := p3) dX12_clear_15 (xc_X12_setInt _ _) xcl12 xw_1820 xw_1822 xs_84 hb rfl (Nat.le_of_ble_eq_true rfl) rfl (Nat.le_of_ble_eq_true rfl) (fun Q1 hq => m_X12_setInt (d := d + 0) ep3 (fun g hg => by subst hg; exact hq)) ?_
    refine xb_iinc dX12_clear_18 rfl (by decide) (by decide) hf (fun v4 ev4 hf => xm_stL (L' := [(2, .int v4), (0, .ref l0), (1, .int l1)]) rfl ?_)
    refine xm_goto 2 dX12_clear_21 (by decide) ?_
    cases hf
    exact xm_sub [1, 2, 0] rfl (hC _ rfl)
theorem L_X12_clear_l2 {G : xG} {π : Nat → Nat} {d C Z : Nat} {Q : xQ} {s0 : (Nat × Int32 × Int32 × xM)} {x : (xM ⊕ (xM))} (h1 : xloop (f_X12_clear_s2) xF s0 = some x) (hR : ∀ g, x = Sum.inl g → Q (.inl none) (g) π) (hE : ∀ e : (xM), x = Sum.inr e → xMach G π J_X12_clear (d + 3) C Z 24 [] [] e Q) : xMach G π J_X12_clear (d + 3) C Z 2 [(0, .ref s0.1), (1, .int s0.2.1), (2, .int s0.2.2.1)] [] s0.2.2.2 Q := by
  refine xloop_run (M := (fun s : (Nat × Int32 × Int32 × xM) => xMach G π J_X12_clear (d + 3) C Z 2 [(0, .ref s.1), (1, .int s.2.1), (2, .int s.2.2.1)] [] s.2.2.2 Q)) (r := x) ?_ xF _ h1
  intro s y hs hx
  exact L_X12_clear_s2 s.2.2.2 s.1 s.2.1 s.2.2.1 (x := y) hs (fun g hg => by subst hg; exact hR g hx) (fun e he => by subst he; exact hE e hx) (fun e he => by subst he; exact hx)
def f_X12_clear_j24 (σ : xM)  : Option xM :=
  some σ
set_option maxHeartbeats 4000000 in
set_option maxRecDepth 20000 in
theorem L_X12_clear_j24 {G : xG} {π : Nat → Nat} {d C Z : Nat} {Q : xQ} (σ : xM)  {x : xM} (hf : f_X12_clear_j24 σ = some x) (hR : ∀ g, x = g → Q (.inl none) (g) π) : xMach G π J_X12_clear (d + 3) C Z 24 [] [] σ Q := by
  unfold f_X12_clear_j24 at hf
  cases hf
  exact xm_vret dX12_clear_24 rfl (hR _ rfl)
def f_X12_clear (σ : xM) (l0 : Nat) (l1 : Int32) : Option xM :=
  xlet (0 : Int32) (fun v1 => (xloop (f_X12_clear_s2 ) xF (l0, l1, v1, σ)).bind (Sum.elim (fun g => some g) (fun e => f_X12_clear_j24 e)))
set_option maxHeartbeats 4000000 in
set_option maxRecDepth 20000 in
theorem m_X12_clear {G : xG} {π : Nat → Nat} {d C Z : Nat} {Q : xQ} {σ : xM} {l0 : Nat} {l1 : Int32} {x : xM} (hf : f_X12_clear σ l0 l1 = some x) (hR : ∀ g, x = g → Q (.inl none) (g) π) : xMach G π J_X12_clear (d + 3) C Z 0 (lv_args 0 [.ref l0, .int l1]) [] σ Q := by
  unfold f_X12_clear at hf
  refine xm_stL (L' := [(0, .ref l0), (1, .int l1)]) rfl ?_
  refine xm_iconst dX12_clear_0 (v := 0) (by decide) ?_
  refine xb_topi hf (fun v1 ev1 hf => ?_)
  refine xm_istore_n dX12_clear_1 (by decide) (xm_stL (L' := [(2, .int v1), (0, .ref l0), (1, .int l1)]) rfl ?_)
  obtain ⟨o, h1, hf⟩ := xbind hf
  refine xm_sub [1, 2, 0] rfl (L_X12_clear_l2  h1 (fun g hg => ?_) (fun e he => ?_))
  · subst hg
    cases hf
    exact hR _ rfl
  · subst he
    rw [Sum.elim_inr] at hf
    have hf : f_X12_clear_j24 e = some _ := hf
    exact xm_sub [] rfl (L_X12_clear_j24 e hf hR)
-- RankwiseModel.clearWide()V
def f_X12_clearWide (σ : xM) (l0 : Nat) : Option xM :=
  (sI σ l0 12 69 (0 : Int32)).bind (fun σ1 => (if xk σ1 l0 12 = true then (f_X12_put σ1 l0 (8 : Int32) (0 : Int32)).bind (fun p2 => (if xk p2 l0 12 = true then (f_X12_put p2 l0 (9 : Int32) (1 : Int32)).bind (fun p3 => some p3) else none)) else none))
set_option maxHeartbeats 4000000 in
set_option maxRecDepth 20000 in
theorem m_X12_clearWide {G : xG} {π : Nat → Nat} {d C Z : Nat} {Q : xQ} {σ : xM} {l0 : Nat} {x : xM} (hf : f_X12_clearWide σ l0 = some x) (hR : ∀ g, x = g → Q (.inl none) (g) π) : xMach G π J_X12_clearWide (d + 2) C Z 0 (lv_args 0 [.ref l0]) [] σ Q := by
  unfold f_X12_clearWide at hf
  refine xm_stL (L' := [(0, .ref l0)]) rfl ?_
  refine xm_aload_n dX12_clearWide_0 rfl ?_
  refine xm_iconst dX12_clearWide_1 (v := 0) (by decide) ?_
  refine xb_putI (a := l0) (c := 12) (k := 69) dX12_clearWide_2 xcl12 (by decide) xw_1906 rfl rfl hf (fun σ1 eσ1 hf => ?_)
  refine xm_aload_n dX12_clearWide_5 rfl ?_
  refine xm_bipush dX12_clearWide_6 (v := 8) (by decide) ?_
  refine xm_iconst dX12_clearWide_8 (v := 0) (by decide) ?_
  refine xb_if hf (fun hb hf => ?_) (fun _ q => nomatch q)
  obtain ⟨p2, ep2, hf⟩ := xbind hf
  refine xb_callV (As := [.int (8 : Int32), .int (0 : Int32)]) (v0 := none) (τ0 := p2) dX12_clearWide_9 (xc_X12_put _ _) xcl12 xw_1824 xw_1826 xs_85 hb rfl (Nat.le_of_ble_eq_true rfl) rfl (Nat.le_of_ble_eq_true rfl) (fun Q1 hq => m_X12_put (d := d + 0) ep2 (fun g hg => by subst hg; exact hq)) ?_
  refine xm_aload_n dX12_clearWide_12 rfl ?_
  refine xm_bipush dX12_clearWide_13 (v := 9) (by decide) ?_
  refine xm_iconst dX12_clearWide_15 (v := 1) (by decide) ?_
  refine xb_if hf (fun hb hf => ?_) (fun _ q => nomatch q)
  obtain ⟨p3, ep3, hf⟩ := xbind hf
  refine xb_callV (As := [.int (9 : Int32), .int (1 : Int32)]) (v0 := none) (τ0 := p3) dX12_clearWide_16 (xc_X12_put _ _) xcl12 xw_1824 xw_1826 xs_85 hb rfl (Nat.le_of_ble_eq_true rfl) rfl (Nat.le_of_ble_eq_true rfl) (fun Q1 hq => m_X12_put (d := d + 0) ep3 (fun g hg => by subst hg; exact hq)) ?_
  cases hf
  exact xm_vret dX12_clearWide_19 rfl (hR _ rfl)
-- RankwiseModel.addProduct(III)V
def f_X12_addProduct (σ : xM) (l0 : Nat) (l1 : Int32) (l2 : Int32) (l3 : Int32) : Option xM :=
  (if xk σ l0 12 = true then (f_X12_loadNumerator σ l0 (2 : Int32) l1).bind (fun p1 => (if xk p1 l0 12 = true then (f_X12_loadNumerator p1 l0 (3 : Int32) l2).bind (fun p2 => (if xk p2 l0 12 = true then (f_X12_times p2 l0 (4 : Int32) (2 : Int32) (3 : Int32)).bind (fun p3 => (if xk p3 l0 12 = true then (f_X12_loadDenominator p3 l0 (2 : Int32) l1).bind (fun p4 => (if xk p4 l0 12 = true then (f_X12_loadDenominator p4 l0 (3 : Int32) l2).bind (fun p5 => (if xk p5 l0 12 = true then (f_X12_times p5 l0 (5 : Int32) (2 : Int32) (3 : Int32)).bind (fun p6 => (if xk p6 l0 12 = true then (f_X12_times p6 l0 (6 : Int32) (8 : Int32) (5 : Int32)).bind (fun p7 => (if xk p7 l0 12 = true then (f_X12_times p7 l0 (7 : Int32) (4 : Int32) (9 : Int32)).bind (fun p8 => (if xk p8 l0 12 = true then (f_X12_times p8 l0 (10 : Int32) (9 : Int32) (5 : Int32)).bind (fun p9 => (if xk p9 l0 12 = true then (f_X12_copy p9 l0 (9 : Int32) (10 : Int32)).bind (fun p10 => (gI p10 l0 12 69).bind (fun x11 => (if xk p10 l0 12 = true then (f_X12_sign p10 l0 l1).bind (fun p12 => (if xk p10 l0 12 = true then (f_X12_sign p10 l0 l2).bind (fun p13 => (if xk p10 l0 12 = true then (f_X12_signed p10 l0 (6 : Int32) x11 (7 : Int32) ((l3 * p12) * p13)).bind (fun p14 => (sI p14.2 l0 12 69 p14.1).bind (fun σ15 => (if xk σ15 l0 12 = true then (f_X12_copy σ15 l0 (8 : Int32) (6 : Int32)).bind (fun p16 => (if xk p16 l0 12 = true then (f_X12_lowest p16 l0 (8 : Int32) (9 : Int32)).bind (fun p17 => some p17) else none)) else none))) else none)) else none)) else none))) else none)) else none)) else none)) else none)) else none)) else none)) else none)) else none)) else none)) else none)
set_option maxHeartbeats 4000000 in
set_option maxRecDepth 20000 in
theorem m_X12_addProduct {G : xG} {π : Nat → Nat} {d C Z : Nat} {Q : xQ} {σ : xM} {l0 : Nat} {l1 : Int32} {l2 : Int32} {l3 : Int32} {x : xM} (hf : f_X12_addProduct σ l0 l1 l2 l3 = some x) (hR : ∀ g, x = g → Q (.inl none) (g) π) : xMach G π J_X12_addProduct (d + 4) C Z 0 (lv_args 0 [.ref l0, .int l1, .int l2, .int l3]) [] σ Q := by
  unfold f_X12_addProduct at hf
  refine xm_stL (L' := [(0, .ref l0), (1, .int l1), (2, .int l2), (3, .int l3)]) rfl ?_
  refine xm_aload_n dX12_addProduct_0 rfl ?_
  refine xm_iconst dX12_addProduct_1 (v := 2) (by decide) ?_
  refine xm_iload_n dX12_addProduct_2 rfl ?_
  refine xb_if hf (fun hb hf => ?_) (fun _ q => nomatch q)
  obtain ⟨p1, ep1, hf⟩ := xbind hf
  refine xb_callV (As := [.int (2 : Int32), .int l1]) (v0 := none) (τ0 := p1) dX12_addProduct_3 (xc_X12_loadNumerator _ _) xcl12 xw_2403 xw_2405 xs_145 hb rfl (Nat.le_of_ble_eq_true rfl) rfl (Nat.le_of_ble_eq_true rfl) (fun Q1 hq => m_X12_loadNumerator (d := d + 1) ep1 (fun g hg => by subst hg; exact hq)) ?_
  refine xm_aload_n dX12_addProduct_6 rfl ?_
  refine xm_iconst dX12_addProduct_7 (v := 3) (by decide) ?_
  refine xm_iload_n dX12_addProduct_8 rfl ?_
  refine xb_if hf (fun hb hf => ?_) (fun _ q => nomatch q)
  obtain ⟨p2, ep2, hf⟩ := xbind hf
  refine xb_callV (As := [.int (3 : Int32), .int l2]) (v0 := none) (τ0 := p2) dX12_addProduct_9 (xc_X12_loadNumerator _ _) xcl12 xw_2403 xw_2405 xs_145 hb rfl (Nat.le_of_ble_eq_true rfl) rfl (Nat.le_of_ble_eq_true rfl) (fun Q1 hq => m_X12_loadNumerator (d := d + 1) ep2 (fun g hg => by subst hg; exact hq)) ?_
  refine xm_aload_n dX12_addProduct_12 rfl ?_
  refine xm_iconst dX12_addProduct_13 (v := 4) (by decide) ?_
  refine xm_iconst dX12_addProduct_14 (v := 2) (by decide) ?_
  refine xm_iconst dX12_addProduct_15 (v := 3) (by decide) ?_
  refine xb_if hf (fun hb hf => ?_) (fun _ q => nomatch q)
  obtain ⟨p3, ep3, hf⟩ := xbind hf
  refine xb_callV (As := [.int (4 : Int32), .int (2 : Int32), .int (3 : Int32)]) (v0 := none) (τ0 := p3) dX12_addProduct_16 (xc_X12_times _ _) xcl12 xw_2415 xw_2417 xs_148 hb rfl (Nat.le_of_ble_eq_true rfl) rfl (Nat.le_of_ble_eq_true rfl) (fun Q1 hq => m_X12_times (d := d + 2) ep3 (fun g hg => by subst hg; exact hq)) ?_
  refine xm_aload_n dX12_addProduct_19 rfl ?_
  refine xm_iconst dX12_addProduct_20 (v := 2) (by decide) ?_
  refine xm_iload_n dX12_addProduct_21 rfl ?_
  refine xb_if hf (fun hb hf => ?_) (fun _ q => nomatch q)
  obtain ⟨p4, ep4, hf⟩ := xbind hf
  refine xb_callV (As := [.int (2 : Int32), .int l1]) (v0 := none) (τ0 := p4) dX12_addProduct_22 (xc_X12_loadDenominator _ _) xcl12 xw_2411 xw_2413 xs_147 hb rfl (Nat.le_of_ble_eq_true rfl) rfl (Nat.le_of_ble_eq_true rfl) (fun Q1 hq => m_X12_loadDenominator (d := d + 1) ep4 (fun g hg => by subst hg; exact hq)) ?_
  refine xm_aload_n dX12_addProduct_25 rfl ?_
  refine xm_iconst dX12_addProduct_26 (v := 3) (by decide) ?_
  refine xm_iload_n dX12_addProduct_27 rfl ?_
  refine xb_if hf (fun hb hf => ?_) (fun _ q => nomatch q)
  obtain ⟨p5, ep5, hf⟩ := xbind hf
  refine xb_callV (As := [.int (3 : Int32), .int l2]) (v0 := none) (τ0 := p5) dX12_addProduct_28 (xc_X12_loadDenominator _ _) xcl12 xw_2411 xw_2413 xs_147 hb rfl (Nat.le_of_ble_eq_true rfl) rfl (Nat.le_of_ble_eq_true rfl) (fun Q1 hq => m_X12_loadDenominator (d := d + 1) ep5 (fun g hg => by subst hg; exact hq)) ?_
  refine xm_aload_n dX12_addProduct_31 rfl ?_
  refine xm_iconst dX12_addProduct_32 (v := 5) (by decide) ?_
  refine xm_iconst dX12_addProduct_33 (v := 2) (by decide) ?_
  refine xm_iconst dX12_addProduct_34 (v := 3) (by decide) ?_
  refine xb_if hf (fun hb hf => ?_) (fun _ q => nomatch q)
  obtain ⟨p6, ep6, hf⟩ := xbind hf
  refine xb_callV (As := [.int (5 : Int32), .int (2 : Int32), .int (3 : Int32)]) (v0 := none) (τ0 := p6) dX12_addProduct_35 (xc_X12_times _ _) xcl12 xw_2415 xw_2417 xs_148 hb rfl (Nat.le_of_ble_eq_true rfl) rfl (Nat.le_of_ble_eq_true rfl) (fun Q1 hq => m_X12_times (d := d + 2) ep6 (fun g hg => by subst hg; exact hq)) ?_
  refine xm_aload_n dX12_addProduct_38 rfl ?_
  refine xm_bipush dX12_addProduct_39 (v := 6) (by decide) ?_
  refine xm_bipush dX12_addProduct_41 (v := 8) (by decide) ?_
  refine xm_iconst dX12_addProduct_43 (v := 5) (by decide) ?_
  refine xb_if hf (fun hb hf => ?_) (fun _ q => nomatch q)
  obtain ⟨p7, ep7, hf⟩ := xbind hf
  refine xb_callV (As := [.int (6 : Int32), .int (8 : Int32), .int (5 : Int32)]) (v0 := none) (τ0 := p7) dX12_addProduct_44 (xc_X12_times _ _) xcl12 xw_2415 xw_2417 xs_148 hb rfl (Nat.le_of_ble_eq_true rfl) rfl (Nat.le_of_ble_eq_true rfl) (fun Q1 hq => m_X12_times (d := d + 2) ep7 (fun g hg => by subst hg; exact hq)) ?_
  refine xm_aload_n dX12_addProduct_47 rfl ?_
  refine xm_bipush dX12_addProduct_48 (v := 7) (by decide) ?_
  refine xm_iconst dX12_addProduct_50 (v := 4) (by decide) ?_
  refine xm_bipush dX12_addProduct_51 (v := 9) (by decide) ?_
  refine xb_if hf (fun hb hf => ?_) (fun _ q => nomatch q)
  obtain ⟨p8, ep8, hf⟩ := xbind hf
  refine xb_callV (As := [.int (7 : Int32), .int (4 : Int32), .int (9 : Int32)]) (v0 := none) (τ0 := p8) dX12_addProduct_53 (xc_X12_times _ _) xcl12 xw_2415 xw_2417 xs_148 hb rfl (Nat.le_of_ble_eq_true rfl) rfl (Nat.le_of_ble_eq_true rfl) (fun Q1 hq => m_X12_times (d := d + 2) ep8 (fun g hg => by subst hg; exact hq)) ?_
  refine xm_aload_n dX12_addProduct_56 rfl ?_
  refine xm_bipush dX12_addProduct_57 (v := 10) (by decide) ?_
  refine xm_bipush dX12_addProduct_59 (v := 9) (by decide) ?_
  refine xm_iconst dX12_addProduct_61 (v := 5) (by decide) ?_
  refine xb_if hf (fun hb hf => ?_) (fun _ q => nomatch q)
  obtain ⟨p9, ep9, hf⟩ := xbind hf
  refine xb_callV (As := [.int (10 : Int32), .int (9 : Int32), .int (5 : Int32)]) (v0 := none) (τ0 := p9) dX12_addProduct_62 (xc_X12_times _ _) xcl12 xw_2415 xw_2417 xs_148 hb rfl (Nat.le_of_ble_eq_true rfl) rfl (Nat.le_of_ble_eq_true rfl) (fun Q1 hq => m_X12_times (d := d + 2) ep9 (fun g hg => by subst hg; exact hq)) ?_
  refine xm_aload_n dX12_addProduct_65 rfl ?_
  refine xm_bipush dX12_addProduct_66 (v := 9) (by decide) ?_
  refine xm_bipush dX12_addProduct_68 (v := 10) (by decide) ?_
  refine xb_if hf (fun hb hf => ?_) (fun _ q => nomatch q)
  obtain ⟨p10, ep10, hf⟩ := xbind hf
  refine xb_callV (As := [.int (9 : Int32), .int (10 : Int32)]) (v0 := none) (τ0 := p10) dX12_addProduct_70 (xc_X12_copy _ _) xcl12 xw_2424 xw_2426 xs_150 hb rfl (Nat.le_of_ble_eq_true rfl) rfl (Nat.le_of_ble_eq_true rfl) (fun Q1 hq => m_X12_copy (d := d + 3) ep10 (fun g hg => by subst hg; exact hq)) ?_
  refine xm_aload_n dX12_addProduct_73 rfl ?_
  refine xm_aload_n dX12_addProduct_74 rfl ?_
  refine xm_bipush dX12_addProduct_75 (v := 6) (by decide) ?_
  refine xm_aload_n dX12_addProduct_77 rfl ?_
  refine xb_getI (a := l0) (c := 12) (k := 69) dX12_addProduct_78 xcl12 (by decide) xw_1906 rfl hf (fun x11 ex11 hf => ?_)
  refine xm_bipush dX12_addProduct_81 (v := 7) (by decide) ?_
  refine xm_iload_n dX12_addProduct_83 rfl ?_
  refine xm_aload_n dX12_addProduct_84 rfl ?_
  refine xm_iload_n dX12_addProduct_85 rfl ?_
  refine xb_if hf (fun hb hf => ?_) (fun _ q => nomatch q)
  obtain ⟨p12, ep12, hf⟩ := xbind hf
  refine xb_callV (As := [.int l1]) (v0 := (some (.int p12))) (τ0 := p10) dX12_addProduct_86 (xc_X12_sign _ _) xcl12 xw_2387 xw_2389 xs_141 hb rfl (Nat.le_of_ble_eq_true rfl) rfl (Nat.le_of_ble_eq_true rfl) (fun Q1 hq => m_X12_sign (d := d + 3) ep12 (fun g hg => by subst hg; exact hq)) ?_
  refine xm_imul dX12_addProduct_89 ?_
  refine xm_aload_n dX12_addProduct_90 rfl ?_
  refine xm_iload_n dX12_addProduct_91 rfl ?_
  refine xb_if hf (fun hb hf => ?_) (fun _ q => nomatch q)
  obtain ⟨p13, ep13, hf⟩ := xbind hf
  refine xb_callV (As := [.int l2]) (v0 := (some (.int p13))) (τ0 := p10) dX12_addProduct_92 (xc_X12_sign _ _) xcl12 xw_2387 xw_2389 xs_141 hb rfl (Nat.le_of_ble_eq_true rfl) rfl (Nat.le_of_ble_eq_true rfl) (fun Q1 hq => m_X12_sign (d := d + 3) ep13 (fun g hg => by subst hg; exact hq)) ?_
  refine xm_imul dX12_addProduct_95 ?_
  refine xb_if hf (fun hb hf => ?_) (fun _ q => nomatch q)
  obtain ⟨p14, ep14, hf⟩ := xbind hf
  refine xb_callV (As := [.int (6 : Int32), .int x11, .int (7 : Int32), .int ((l3 * p12) * p13)]) (v0 := (some (.int p14.1))) (τ0 := p14.2) dX12_addProduct_96 (xc_X12_signed _ _) xcl12 xw_2420 xw_2422 xs_149 hb rfl (Nat.le_of_ble_eq_true rfl) rfl (Nat.le_of_ble_eq_true rfl) (fun Q1 hq => m_X12_signed (d := d + 1) ep14 (fun g hg => by subst hg; exact hq)) ?_
  refine xb_putI (a := l0) (c := 12) (k := 69) dX12_addProduct_99 xcl12 (by decide) xw_1906 rfl rfl hf (fun σ15 eσ15 hf => ?_)
  refine xm_aload_n dX12_addProduct_102 rfl ?_
  refine xm_bipush dX12_addProduct_103 (v := 8) (by decide) ?_
  refine xm_bipush dX12_addProduct_105 (v := 6) (by decide) ?_
  refine xb_if hf (fun hb hf => ?_) (fun _ q => nomatch q)
  obtain ⟨p16, ep16, hf⟩ := xbind hf
  refine xb_callV (As := [.int (8 : Int32), .int (6 : Int32)]) (v0 := none) (τ0 := p16) dX12_addProduct_107 (xc_X12_copy _ _) xcl12 xw_2424 xw_2426 xs_150 hb rfl (Nat.le_of_ble_eq_true rfl) rfl (Nat.le_of_ble_eq_true rfl) (fun Q1 hq => m_X12_copy (d := d + 3) ep16 (fun g hg => by subst hg; exact hq)) ?_
  refine xm_aload_n dX12_addProduct_110 rfl ?_
  refine xm_bipush dX12_addProduct_111 (v := 8) (by decide) ?_
  refine xm_bipush dX12_addProduct_113 (v := 9) (by decide) ?_
  refine xb_if hf (fun hb hf => ?_) (fun _ q => nomatch q)
  obtain ⟨p17, ep17, hf⟩ := xbind hf
  refine xb_callV (As := [.int (8 : Int32), .int (9 : Int32)]) (v0 := none) (τ0 := p17) dX12_addProduct_115 (xc_X12_lowest _ _) xcl12 xw_2444 xw_2446 xs_155 hb rfl (Nat.le_of_ble_eq_true rfl) rfl (Nat.le_of_ble_eq_true rfl) (fun Q1 hq => m_X12_lowest (d := d + 0) ep17 (fun g hg => by subst hg; exact hq)) ?_
  cases hf
  exact xm_vret dX12_addProduct_118 rfl (hR _ rfl)
-- RankwiseModel.storeWide(I)Z
def f_X12_storeWide (σ : xM) (l0 : Nat) (l1 : Int32) : Option (Int32 × xM) :=
  (if xk σ l0 12 = true then (f_X12_copy σ l0 (0 : Int32) (8 : Int32)).bind (fun p1 => (if xk p1 l0 12 = true then (f_X12_copy p1 l0 (1 : Int32) (9 : Int32)).bind (fun p2 => (gI p2 l0 12 69).bind (fun x3 => (if xk p2 l0 12 = true then (f_X12_store p2 l0 l1 x3).bind (fun p4 => (xz p4.1).bind (fun b5 => some (b5, p4.2))) else none))) else none)) else none)
set_option maxHeartbeats 4000000 in
set_option maxRecDepth 20000 in
theorem m_X12_storeWide {G : xG} {π : Nat → Nat} {d C Z : Nat} {Q : xQ} {σ : xM} {l0 : Nat} {l1 : Int32} {x : (Int32 × xM)} (hf : f_X12_storeWide σ l0 l1 = some x) (hR : ∀ g, x = g → Q (.inl (some (.int g.1))) (g.2) π) : xMach G π J_X12_storeWide (d + 5) C Z 0 (lv_args 0 [.ref l0, .int l1]) [] σ Q := by
  unfold f_X12_storeWide at hf
  refine xm_stL (L' := [(0, .ref l0), (1, .int l1)]) rfl ?_
  refine xm_aload_n dX12_storeWide_0 rfl ?_
  refine xm_iconst dX12_storeWide_1 (v := 0) (by decide) ?_
  refine xm_bipush dX12_storeWide_2 (v := 8) (by decide) ?_
  refine xb_if hf (fun hb hf => ?_) (fun _ q => nomatch q)
  obtain ⟨p1, ep1, hf⟩ := xbind hf
  refine xb_callV (As := [.int (0 : Int32), .int (8 : Int32)]) (v0 := none) (τ0 := p1) dX12_storeWide_4 (xc_X12_copy _ _) xcl12 xw_2424 xw_2426 xs_150 hb rfl (Nat.le_of_ble_eq_true rfl) rfl (Nat.le_of_ble_eq_true rfl) (fun Q1 hq => m_X12_copy (d := d + 4) ep1 (fun g hg => by subst hg; exact hq)) ?_
  refine xm_aload_n dX12_storeWide_7 rfl ?_
  refine xm_iconst dX12_storeWide_8 (v := 1) (by decide) ?_
  refine xm_bipush dX12_storeWide_9 (v := 9) (by decide) ?_
  refine xb_if hf (fun hb hf => ?_) (fun _ q => nomatch q)
  obtain ⟨p2, ep2, hf⟩ := xbind hf
  refine xb_callV (As := [.int (1 : Int32), .int (9 : Int32)]) (v0 := none) (τ0 := p2) dX12_storeWide_11 (xc_X12_copy _ _) xcl12 xw_2424 xw_2426 xs_150 hb rfl (Nat.le_of_ble_eq_true rfl) rfl (Nat.le_of_ble_eq_true rfl) (fun Q1 hq => m_X12_copy (d := d + 4) ep2 (fun g hg => by subst hg; exact hq)) ?_
  refine xm_aload_n dX12_storeWide_14 rfl ?_
  refine xm_iload_n dX12_storeWide_15 rfl ?_
  refine xm_aload_n dX12_storeWide_16 rfl ?_
  refine xb_getI (a := l0) (c := 12) (k := 69) dX12_storeWide_17 xcl12 (by decide) xw_1906 rfl hf (fun x3 ex3 hf => ?_)
  refine xb_if hf (fun hb hf => ?_) (fun _ q => nomatch q)
  obtain ⟨p4, ep4, hf⟩ := xbind hf
  refine xb_callV (As := [.int l1, .int x3]) (v0 := (some (.int p4.1))) (τ0 := p4.2) dX12_storeWide_20 (xc_X12_store _ _) xcl12 xw_2440 xw_2442 xs_154 hb rfl (Nat.le_of_ble_eq_true rfl) rfl (Nat.le_of_ble_eq_true rfl) (fun Q1 hq => m_X12_store (d := d + 0) ep4 (fun g hg => by subst hg; exact hq)) ?_
  obtain ⟨b5, eb5, hf⟩ := xbind hf
  obtain ⟨rfl, hz⟩ := xz_of eb5
  cases hf
  exact xm_zret dX12_storeWide_23 rfl hz (hR _ rfl)
-- RankwiseModel.multiplyPolynomials(III)Z
def f_X12_multiplyPolynomials_j101 (σ : xM) (l0 : Nat) (l1 : Int32) (l2 : Int32) (l3 : Int32) (l5 : Int32) (l6 : Int32) : Option ((Int32 × xM) ⊕ ((Nat × Int32 × Int32 × Int32 × Int32 × xM) ⊕ (Nat × Int32 × Int32 × Int32 × Int32 × Int32 × xM))) :=
  xlet (l6 + (1 : Int32)) (fun v8 => some (Sum.inr (Sum.inr (l0, l1, l2, l3, l5, v8, σ))))
set_option maxHeartbeats 4000000 in
set_option maxRecDepth 20000 in
theorem L_X12_multiplyPolynomials_j101 {G : xG} {π : Nat → Nat} {d C Z : Nat} {Q : xQ} (σ : xM) (l0 : Nat) (l1 : Int32) (l2 : Int32) (l3 : Int32) (l5 : Int32) (l6 : Int32) {x : ((Int32 × xM) ⊕ ((Nat × Int32 × Int32 × Int32 × Int32 × xM) ⊕ (Nat × Int32 × Int32 × Int32 × Int32 × Int32 × xM)))} (hf : f_X12_multiplyPolynomials_j101 σ l0 l1 l2 l3 l5 l6 = some x) (hR : ∀ g, x = Sum.inl (g) → Q (.inl (some (.int g.1))) (g.2) π) (hE : ∀ e : (Nat × Int32 × Int32 × Int32 × Int32 × xM), x = Sum.inr (Sum.inl e) → xMach G π J_X12_multiplyPolynomials (d + 6) C Z 107 [(0, .ref e.1), (1, .int e.2.1), (2, .int e.2.2.1), (3, .int e.2.2.2.1), (5, .int e.2.2.2.2.1)] [] e.2.2.2.2.2 Q) (hC : ∀ e : (Nat × Int32 × Int32 × Int32 × Int32 × Int32 × xM), x = Sum.inr (Sum.inr e) → xMach G π J_X12_multiplyPolynomials (d + 6) C Z 45 [(0, .ref e.1), (1, .int e.2.1), (2, .int e.2.2.1), (3, .int e.2.2.2.1), (5, .int e.2.2.2.2.1), (6, .int e.2.2.2.2.2.1)] [] e.2.2.2.2.2.2 Q) : xMach G π J_X12_multiplyPolynomials (d + 6) C Z 101 [(0, .ref l0), (1, .int l1), (2, .int l2), (3, .int l3), (5, .int l5), (6, .int l6)] [] σ Q := by
  unfold f_X12_multiplyPolynomials_j101 at hf
  refine xb_iinc dX12_multiplyPolynomials_101 rfl (by decide) (by decide) hf (fun v8 ev8 hf => xm_stL (L' := [(6, .int v8), (0, .ref l0), (1, .int l1), (2, .int l2), (3, .int l3), (5, .int l5)]) rfl ?_)
  refine xm_goto 45 dX12_multiplyPolynomials_104 (by decide) ?_
  cases hf
  exact xm_sub [1, 2, 3, 4, 5, 0] rfl (hC _ rfl)
def f_X12_multiplyPolynomials_s45 (s : (Nat × Int32 × Int32 × Int32 × Int32 × Int32 × xM)) : Option ((Int32 × xM) ⊕ ((Nat × Int32 × Int32 × Int32 × Int32 × xM) ⊕ (Nat × Int32 × Int32 × Int32 × Int32 × Int32 × xM))) :=
  xlet s.1 (fun l0 => xlet s.2.1 (fun l1 => xlet s.2.2.1 (fun l2 => xlet s.2.2.2.1 (fun l3 => xlet s.2.2.2.2.1 (fun l5 => xlet s.2.2.2.2.2.1 (fun l6 => xlet s.2.2.2.2.2.2 (fun σ => (if l5 < l6 then some (Sum.inr (Sum.inl (l0, l1, l2, l3, l5, σ))) else (f_X12_coefficientAt σ l2 l6).bind (fun p6 => (if xk σ l0 12 = true then (f_X12_sign σ l0 p6).bind (fun p7 => (if p7 = (0 : Int32) then f_X12_multiplyPolynomials_j101 σ l0 l1 l2 l3 l5 l6 else (f_X12_coefficientAt σ l3 (l5 - l6)).bind (fun p9 => (if xk σ l0 12 = true then (f_X12_sign σ l0 p9).bind (fun p10 => (if p10 = (0 : Int32) then f_X12_multiplyPolynomials_j101 σ l0 l1 l2 l3 l5 l6 else (f_X12_coefficientAt σ l2 l6).bind (fun p11 => (f_X12_coefficientAt σ l3 (l5 - l6)).bind (fun p12 => (if xk σ l0 12 = true then (f_X12_addProduct σ l0 p11 p12 (1 : Int32)).bind (fun p13 => f_X12_multiplyPolynomials_j101 p13 l0 l1 l2 l3 l5 l6) else none))))) else none)))) else none))))))))))
set_option maxHeartbeats 4000000 in
set_option maxRecDepth 20000 in
theorem L_X12_multiplyPolynomials_s45 {G : xG} {π : Nat → Nat} {d C Z : Nat} {Q : xQ} (σ : xM) (l0 : Nat) (l1 : Int32) (l2 : Int32) (l3 : Int32) (l5 : Int32) (l6 : Int32) {x : ((Int32 × xM) ⊕ ((Nat × Int32 × Int32 × Int32 × Int32 × xM) ⊕ (Nat × Int32 × Int32 × Int32 × Int32 × Int32 × xM)))} (hf : f_X12_multiplyPolynomials_s45 (l0, l1, l2, l3, l5, l6, σ) = some x) (hR : ∀ g, x = Sum.inl (g) → Q (.inl (some (.int g.1))) (g.2) π) (hE : ∀ e : (Nat × Int32 × Int32 × Int32 × Int32 × xM), x = Sum.inr (Sum.inl e) → xMach G π J_X12_multiplyPolynomials (d + 6) C Z 107 [(0, .ref e.1), (1, .int e.2.1), (2, .int e.2.2.1), (3, .int e.2.2.2.1), (5, .int e.2.2.2.2.1)] [] e.2.2.2.2.2 Q) (hC : ∀ e : (Nat × Int32 × Int32 × Int32 × Int32 × Int32 × xM), x = Sum.inr (Sum.inr e) → xMach G π J_X12_multiplyPolynomials (d + 6) C Z 45 [(0, .ref e.1), (1, .int e.2.1), (2, .int e.2.2.1), (3, .int e.2.2.2.1), (5, .int e.2.2.2.2.1), (6, .int e.2.2.2.2.2.1)] [] e.2.2.2.2.2.2 Q) : xMach G π J_X12_multiplyPolynomials (d + 6) C Z 45 [(0, .ref l0), (1, .int l1), (2, .int l2), (3, .int l3), (5, .int l5), (6, .int l6)] [] σ Q := by
  have hf : (if l5 < l6 then some (Sum.inr (Sum.inl (l0, l1, l2, l3, l5, σ))) else (f_X12_coefficientAt σ l2 l6).bind (fun p6 => (if xk σ l0 12 = true then (f_X12_sign σ l0 p6).bind (fun p7 => (if p7 = (0 : Int32) then f_X12_multiplyPolynomials_j101 σ l0 l1 l2 l3 l5 l6 else (f_X12_coefficientAt σ l3 (l5 - l6)).bind (fun p9 => (if xk σ l0 12 = true then (f_X12_sign σ l0 p9).bind (fun p10 => (if p10 = (0 : Int32) then f_X12_multiplyPolynomials_j101 σ l0 l1 l2 l3 l5 l6 else (f_X12_coefficientAt σ l2 l6).bind (fun p11 => (f_X12_coefficientAt σ l3 (l5 - l6)).bind (fun p12 => (if xk σ l0 12 = true then (f_X12_addProduct σ l0 p11 p12 (1 : Int32)).bind (fun p13 => f_X12_multiplyPolynomials_j101 p13 l0 l1 l2 l3 l5 l6) else none))))) else none)))) else none))) = some x := hf
  refine xm_iload dX12_multiplyPolynomials_45 rfl ?_
  refine xm_iload dX12_multiplyPolynomials_47 rfl ?_
  refine xb_icmp_gt 107 dX12_multiplyPolynomials_49 (by decide) hf (fun c hf => ?_) (fun c hf => ?_)
  · cases hf
    exact xm_sub [0, 1, 2, 3, 4] rfl (hE _ rfl)
  · refine xm_aload_n dX12_multiplyPolynomials_52 rfl ?_
    refine xm_iload_n dX12_multiplyPolynomials_53 rfl ?_
    refine xm_iload dX12_multiplyPolynomials_54 rfl ?_
    obtain ⟨p6, ep6, hf⟩ := xbind hf
    refine xb_callS (As := [.int l2, .int l6]) (v0 := (some (.int p6))) (τ0 := σ) dX12_multiplyPolynomials_56 (xc_X12_coefficientAt _ _) xw_2655 xw_2656 rfl (Nat.le_of_ble_eq_true rfl) rfl (Nat.le_of_ble_eq_true rfl) (fun Q1 hq => m_X12_coefficientAt (d := d + 5) ep6 (fun g hg => by subst hg; exact hq)) ?_
    refine xb_if hf (fun hb hf => ?_) (fun _ q => nomatch q)
    obtain ⟨p7, ep7, hf⟩ := xbind hf
    refine xb_callV (As := [.int p6]) (v0 := (some (.int p7))) (τ0 := σ) dX12_multiplyPolynomials_59 (xc_X12_sign _ _) xcl12 xw_2387 xw_2389 xs_141 hb rfl (Nat.le_of_ble_eq_true rfl) rfl (Nat.le_of_ble_eq_true rfl) (fun Q1 hq => m_X12_sign (d := d + 5) ep7 (fun g hg => by subst hg; exact hq)) ?_
    refine xb_if_eq 101 dX12_multiplyPolynomials_62 (by decide) hf (fun c hf => ?_) (fun c hf => ?_)
    · exact xm_sub [0, 1, 2, 3, 4, 5] rfl (L_X12_multiplyPolynomials_j101 σ l0 l1 l2 l3 l5 l6 hf hR hE hC)
    · refine xm_aload_n dX12_multiplyPolynomials_65 rfl ?_
      refine xm_iload_n dX12_multiplyPolynomials_66 rfl ?_
      refine xm_iload dX12_multiplyPolynomials_67 rfl ?_
      refine xm_iload dX12_multiplyPolynomials_69 rfl ?_
      refine xm_isub dX12_multiplyPolynomials_71 ?_
      obtain ⟨p9, ep9, hf⟩ := xbind hf
      refine xb_callS (As := [.int l3, .int (l5 - l6)]) (v0 := (some (.int p9))) (τ0 := σ) dX12_multiplyPolynomials_72 (xc_X12_coefficientAt _ _) xw_2655 xw_2656 rfl (Nat.le_of_ble_eq_true rfl) rfl (Nat.le_of_ble_eq_true rfl) (fun Q1 hq => m_X12_coefficientAt (d := d + 5) ep9 (fun g hg => by subst hg; exact hq)) ?_
      refine xb_if hf (fun hb hf => ?_) (fun _ q => nomatch q)
      obtain ⟨p10, ep10, hf⟩ := xbind hf
      refine xb_callV (As := [.int p9]) (v0 := (some (.int p10))) (τ0 := σ) dX12_multiplyPolynomials_75 (xc_X12_sign _ _) xcl12 xw_2387 xw_2389 xs_141 hb rfl (Nat.le_of_ble_eq_true rfl) rfl (Nat.le_of_ble_eq_true rfl) (fun Q1 hq => m_X12_sign (d := d + 5) ep10 (fun g hg => by subst hg; exact hq)) ?_
      refine xb_if_eq 101 dX12_multiplyPolynomials_78 (by decide) hf (fun c hf => ?_) (fun c hf => ?_)
      · exact xm_sub [0, 1, 2, 3, 4, 5] rfl (L_X12_multiplyPolynomials_j101 σ l0 l1 l2 l3 l5 l6 hf hR hE hC)
      · refine xm_aload_n dX12_multiplyPolynomials_81 rfl ?_
        refine xm_iload_n dX12_multiplyPolynomials_82 rfl ?_
        refine xm_iload dX12_multiplyPolynomials_83 rfl ?_
        obtain ⟨p11, ep11, hf⟩ := xbind hf
        refine xb_callS (As := [.int l2, .int l6]) (v0 := (some (.int p11))) (τ0 := σ) dX12_multiplyPolynomials_85 (xc_X12_coefficientAt _ _) xw_2655 xw_2656 rfl (Nat.le_of_ble_eq_true rfl) rfl (Nat.le_of_ble_eq_true rfl) (fun Q1 hq => m_X12_coefficientAt (d := d + 5) ep11 (fun g hg => by subst hg; exact hq)) ?_
        refine xm_iload_n dX12_multiplyPolynomials_88 rfl ?_
        refine xm_iload dX12_multiplyPolynomials_89 rfl ?_
        refine xm_iload dX12_multiplyPolynomials_91 rfl ?_
        refine xm_isub dX12_multiplyPolynomials_93 ?_
        obtain ⟨p12, ep12, hf⟩ := xbind hf
        refine xb_callS (As := [.int l3, .int (l5 - l6)]) (v0 := (some (.int p12))) (τ0 := σ) dX12_multiplyPolynomials_94 (xc_X12_coefficientAt _ _) xw_2655 xw_2656 rfl (Nat.le_of_ble_eq_true rfl) rfl (Nat.le_of_ble_eq_true rfl) (fun Q1 hq => m_X12_coefficientAt (d := d + 5) ep12 (fun g hg => by subst hg; exact hq)) ?_
        refine xm_iconst dX12_multiplyPolynomials_97 (v := 1) (by decide) ?_
        refine xb_if hf (fun hb hf => ?_) (fun _ q => nomatch q)
        obtain ⟨p13, ep13, hf⟩ := xbind hf
        refine xb_callV (As := [.int p11, .int p12, .int (1 : Int32)]) (v0 := none) (τ0 := p13) dX12_multiplyPolynomials_98 (xc_X12_addProduct _ _) xcl12 xw_2674 xw_2676 xs_199 hb rfl (Nat.le_of_ble_eq_true rfl) rfl (Nat.le_of_ble_eq_true rfl) (fun Q1 hq => m_X12_addProduct (d := d + 1) ep13 (fun g hg => by subst hg; exact hq)) ?_
        exact xm_sub [0, 1, 2, 3, 4, 5] rfl (L_X12_multiplyPolynomials_j101 p13 l0 l1 l2 l3 l5 l6 hf hR hE hC)
theorem L_X12_multiplyPolynomials_l45 {G : xG} {π : Nat → Nat} {d C Z : Nat} {Q : xQ} {s0 : (Nat × Int32 × Int32 × Int32 × Int32 × Int32 × xM)} {x : ((Int32 × xM) ⊕ (Nat × Int32 × Int32 × Int32 × Int32 × xM))} (h1 : xloop (f_X12_multiplyPolynomials_s45) xF s0 = some x) (hR : ∀ g, x = Sum.inl g → Q (.inl (some (.int g.1))) (g.2) π) (hE : ∀ e : (Nat × Int32 × Int32 × Int32 × Int32 × xM), x = Sum.inr e → xMach G π J_X12_multiplyPolynomials (d + 6) C Z 107 [(0, .ref e.1), (1, .int e.2.1), (2, .int e.2.2.1), (3, .int e.2.2.2.1), (5, .int e.2.2.2.2.1)] [] e.2.2.2.2.2 Q) : xMach G π J_X12_multiplyPolynomials (d + 6) C Z 45 [(0, .ref s0.1), (1, .int s0.2.1), (2, .int s0.2.2.1), (3, .int s0.2.2.2.1), (5, .int s0.2.2.2.2.1), (6, .int s0.2.2.2.2.2.1)] [] s0.2.2.2.2.2.2 Q := by
  refine xloop_run (M := (fun s : (Nat × Int32 × Int32 × Int32 × Int32 × Int32 × xM) => xMach G π J_X12_multiplyPolynomials (d + 6) C Z 45 [(0, .ref s.1), (1, .int s.2.1), (2, .int s.2.2.1), (3, .int s.2.2.2.1), (5, .int s.2.2.2.2.1), (6, .int s.2.2.2.2.2.1)] [] s.2.2.2.2.2.2 Q)) (r := x) ?_ xF _ h1
  intro s y hs hx
  exact L_X12_multiplyPolynomials_s45 s.2.2.2.2.2.2 s.1 s.2.1 s.2.2.1 s.2.2.2.1 s.2.2.2.2.1 s.2.2.2.2.2.1 (x := y) hs (fun g hg => by subst hg; exact hR g hx) (fun e he => by subst he; exact hE e hx) (fun e he => by subst he; exact hx)
def f_X12_multiplyPolynomials_j107 (σ : xM) (l0 : Nat) (l1 : Int32) (l2 : Int32) (l3 : Int32) (l5 : Int32) : Option ((Int32 × xM) ⊕ ((Int32 × xM) ⊕ (Nat × Int32 × Int32 × Int32 × Int32 × Int32 × xM))) :=
  (f_X12_coefficientAt σ l1 l5).bind (fun p14 => (if xk σ l0 12 = true then (f_X12_storeWide σ l0 p14).bind (fun p15 => xlet (l5 + (1 : Int32)) (fun v16 => some (Sum.inr (Sum.inr (l0, l1, l2, l3, p15.1, v16, p15.2))))) else none))
set_option maxHeartbeats 4000000 in
set_option maxRecDepth 20000 in
theorem L_X12_multiplyPolynomials_j107 {G : xG} {π : Nat → Nat} {d C Z : Nat} {Q : xQ} (σ : xM) (l0 : Nat) (l1 : Int32) (l2 : Int32) (l3 : Int32) (l5 : Int32) {x : ((Int32 × xM) ⊕ ((Int32 × xM) ⊕ (Nat × Int32 × Int32 × Int32 × Int32 × Int32 × xM)))} (hf : f_X12_multiplyPolynomials_j107 σ l0 l1 l2 l3 l5 = some x) (hR : ∀ g, x = Sum.inl (g) → Q (.inl (some (.int g.1))) (g.2) π) (hE : ∀ e : (Int32 × xM), x = Sum.inr (Sum.inl e) → xMach G π J_X12_multiplyPolynomials (d + 6) C Z 125 [(4, .int e.1)] [] e.2 Q) (hC : ∀ e : (Nat × Int32 × Int32 × Int32 × Int32 × Int32 × xM), x = Sum.inr (Sum.inr e) → xMach G π J_X12_multiplyPolynomials (d + 6) C Z 26 [(0, .ref e.1), (1, .int e.2.1), (2, .int e.2.2.1), (3, .int e.2.2.2.1), (4, .int e.2.2.2.2.1), (5, .int e.2.2.2.2.2.1)] [] e.2.2.2.2.2.2 Q) : xMach G π J_X12_multiplyPolynomials (d + 6) C Z 107 [(0, .ref l0), (1, .int l1), (2, .int l2), (3, .int l3), (5, .int l5)] [] σ Q := by
  unfold f_X12_multiplyPolynomials_j107 at hf
  refine xm_aload_n dX12_multiplyPolynomials_107 rfl ?_
  refine xm_iload_n dX12_multiplyPolynomials_108 rfl ?_
  refine xm_iload dX12_multiplyPolynomials_109 rfl ?_
  obtain ⟨p14, ep14, hf⟩ := xbind hf
  refine xb_callS (As := [.int l1, .int l5]) (v0 := (some (.int p14))) (τ0 := σ) dX12_multiplyPolynomials_111 (xc_X12_coefficientAt _ _) xw_2655 xw_2656 rfl (Nat.le_of_ble_eq_true rfl) rfl (Nat.le_of_ble_eq_true rfl) (fun Q1 hq => m_X12_coefficientAt (d := d + 5) ep14 (fun g hg => by subst hg; exact hq)) ?_
  refine xb_if hf (fun hb hf => ?_) (fun _ q => nomatch q)
  obtain ⟨p15, ep15, hf⟩ := xbind hf
  refine xb_callV (As := [.int p14]) (v0 := (some (.int p15.1))) (τ0 := p15.2) dX12_multiplyPolynomials_114 (xc_X12_storeWide _ _) xcl12 xw_2678 xw_2680 xs_200 hb rfl (Nat.le_of_ble_eq_true rfl) rfl (Nat.le_of_ble_eq_true rfl) (fun Q1 hq => m_X12_storeWide (d := d + 0) ep15 (fun g hg => by subst hg; exact hq)) ?_
  refine xm_istore dX12_multiplyPolynomials_117 (by decide) (xm_stL (L' := [(4, .int p15.1), (0, .ref l0), (1, .int l1), (2, .int l2), (3, .int l3), (5, .int l5)]) rfl ?_)
  refine xb_iinc dX12_multiplyPolynomials_119 rfl (by decide) (by decide) hf (fun v16 ev16 hf => xm_stL (L' := [(5, .int v16), (4, .int p15.1), (0, .ref l0), (1, .int l1), (2, .int l2), (3, .int l3)]) rfl ?_)
  refine xm_goto 26 dX12_multiplyPolynomials_122 (by decide) ?_
  cases hf
  exact xm_sub [2, 3, 4, 5, 1, 0] rfl (hC _ rfl)
def f_X12_multiplyPolynomials_s26 (s : (Nat × Int32 × Int32 × Int32 × Int32 × Int32 × xM)) : Option ((Int32 × xM) ⊕ ((Int32 × xM) ⊕ (Nat × Int32 × Int32 × Int32 × Int32 × Int32 × xM))) :=
  xlet s.1 (fun l0 => xlet s.2.1 (fun l1 => xlet s.2.2.1 (fun l2 => xlet s.2.2.2.1 (fun l3 => xlet s.2.2.2.2.1 (fun l4 => xlet s.2.2.2.2.2.1 (fun l5 => xlet s.2.2.2.2.2.2 (fun σ => (if (9 : Int32) ≤ l5 then some (Sum.inr (Sum.inl (l4, σ))) else (if l4 = (0 : Int32) then some (Sum.inr (Sum.inl (l4, σ))) else (if xk σ l0 12 = true then (f_X12_clearWide σ l0).bind (fun p4 => xlet (0 : Int32) (fun v5 => (xloop (f_X12_multiplyPolynomials_s45 ) xF (l0, l1, l2, l3, l5, v5, p4)).bind (Sum.elim (fun g => some (Sum.inl g)) (fun e => f_X12_multiplyPolynomials_j107 e.2.2.2.2.2 e.1 e.2.1 e.2.2.1 e.2.2.2.1 e.2.2.2.2.1)))) else none))))))))))
set_option maxHeartbeats 4000000 in
set_option maxRecDepth 20000 in
theorem L_X12_multiplyPolynomials_s26 {G : xG} {π : Nat → Nat} {d C Z : Nat} {Q : xQ} (σ : xM) (l0 : Nat) (l1 : Int32) (l2 : Int32) (l3 : Int32) (l4 : Int32) (l5 : Int32) {x : ((Int32 × xM) ⊕ ((Int32 × xM) ⊕ (Nat × Int32 × Int32 × Int32 × Int32 × Int32 × xM)))} (hf : f_X12_multiplyPolynomials_s26 (l0, l1, l2, l3, l4, l5, σ) = some x) (hR : ∀ g, x = Sum.inl (g) → Q (.inl (some (.int g.1))) (g.2) π) (hE : ∀ e : (Int32 × xM), x = Sum.inr (Sum.inl e) → xMach G π J_X12_multiplyPolynomials (d + 6) C Z 125 [(4, .int e.1)] [] e.2 Q) (hC : ∀ e : (Nat × Int32 × Int32 × Int32 × Int32 × Int32 × xM), x = Sum.inr (Sum.inr e) → xMach G π J_X12_multiplyPolynomials (d + 6) C Z 26 [(0, .ref e.1), (1, .int e.2.1), (2, .int e.2.2.1), (3, .int e.2.2.2.1), (4, .int e.2.2.2.2.1), (5, .int e.2.2.2.2.2.1)] [] e.2.2.2.2.2.2 Q) : xMach G π J_X12_multiplyPolynomials (d + 6) C Z 26 [(0, .ref l0), (1, .int l1), (2, .int l2), (3, .int l3), (4, .int l4), (5, .int l5)] [] σ Q := by
  have hf : (if (9 : Int32) ≤ l5 then some (Sum.inr (Sum.inl (l4, σ))) else (if l4 = (0 : Int32) then some (Sum.inr (Sum.inl (l4, σ))) else (if xk σ l0 12 = true then (f_X12_clearWide σ l0).bind (fun p4 => xlet (0 : Int32) (fun v5 => (xloop (f_X12_multiplyPolynomials_s45 ) xF (l0, l1, l2, l3, l5, v5, p4)).bind (Sum.elim (fun g => some (Sum.inl g)) (fun e => f_X12_multiplyPolynomials_j107 e.2.2.2.2.2 e.1 e.2.1 e.2.2.1 e.2.2.2.1 e.2.2.2.2.1)))) else none))) = some x := hf
  refine xm_iload dX12_multiplyPolynomials_26 rfl ?_
  refine xm_bipush dX12_multiplyPolynomials_28 (v := 9) (by decide) ?_
  refine xb_icmp_ge 125 dX12_multiplyPolynomials_30 (by decide) hf (fun c hf => ?_) (fun c hf => ?_)
  · cases hf
    exact xm_sub [4] rfl (hE _ rfl)
  · refine xm_iload dX12_multiplyPolynomials_33 rfl ?_
    refine xb_if_eq 125 dX12_multiplyPolynomials_35 (by decide) hf (fun c hf => ?_) (fun c hf => ?_)
    · cases hf
      exact xm_sub [4] rfl (hE _ rfl)
    · refine xm_aload_n dX12_multiplyPolynomials_38 rfl ?_
      refine xb_if hf (fun hb hf => ?_) (fun _ q => nomatch q)
      obtain ⟨p4, ep4, hf⟩ := xbind hf
      refine xb_callV (As := []) (v0 := none) (τ0 := p4) dX12_multiplyPolynomials_39 (xc_X12_clearWide _ _) xcl12 xw_2670 xw_2672 xs_198 hb rfl (Nat.le_of_ble_eq_true rfl) rfl (Nat.le_of_ble_eq_true rfl) (fun Q1 hq => m_X12_clearWide (d := d + 3) ep4 (fun g hg => by subst hg; exact hq)) ?_
      refine xm_iconst dX12_multiplyPolynomials_42 (v := 0) (by decide) ?_
      refine xb_topi hf (fun v5 ev5 hf => ?_)
      refine xm_istore dX12_multiplyPolynomials_43 (by decide) (xm_stL (L' := [(6, .int v5), (0, .ref l0), (1, .int l1), (2, .int l2), (3, .int l3), (4, .int l4), (5, .int l5)]) rfl ?_)
      obtain ⟨o, h1, hf⟩ := xbind hf
      refine xm_sub [1, 2, 3, 4, 6, 0] rfl (L_X12_multiplyPolynomials_l45  h1 (fun g hg => ?_) (fun e he => ?_))
      · subst hg
        cases hf
        exact hR _ rfl
      · subst he
        rw [Sum.elim_inr] at hf
        have hf : f_X12_multiplyPolynomials_j107 e.2.2.2.2.2 e.1 e.2.1 e.2.2.1 e.2.2.2.1 e.2.2.2.2.1 = some _ := hf
        exact xm_sub [0, 1, 2, 3, 4] rfl (L_X12_multiplyPolynomials_j107 e.2.2.2.2.2 e.1 e.2.1 e.2.2.1 e.2.2.2.1 e.2.2.2.2.1 hf hR hE hC)
theorem L_X12_multiplyPolynomials_l26 {G : xG} {π : Nat → Nat} {d C Z : Nat} {Q : xQ} {s0 : (Nat × Int32 × Int32 × Int32 × Int32 × Int32 × xM)} {x : ((Int32 × xM) ⊕ (Int32 × xM))} (h1 : xloop (f_X12_multiplyPolynomials_s26) xF s0 = some x) (hR : ∀ g, x = Sum.inl g → Q (.inl (some (.int g.1))) (g.2) π) (hE : ∀ e : (Int32 × xM), x = Sum.inr e → xMach G π J_X12_multiplyPolynomials (d + 6) C Z 125 [(4, .int e.1)] [] e.2 Q) : xMach G π J_X12_multiplyPolynomials (d + 6) C Z 26 [(0, .ref s0.1), (1, .int s0.2.1), (2, .int s0.2.2.1), (3, .int s0.2.2.2.1), (4, .int s0.2.2.2.2.1), (5, .int s0.2.2.2.2.2.1)] [] s0.2.2.2.2.2.2 Q := by
  refine xloop_run (M := (fun s : (Nat × Int32 × Int32 × Int32 × Int32 × Int32 × xM) => xMach G π J_X12_multiplyPolynomials (d + 6) C Z 26 [(0, .ref s.1), (1, .int s.2.1), (2, .int s.2.2.1), (3, .int s.2.2.2.1), (4, .int s.2.2.2.2.1), (5, .int s.2.2.2.2.2.1)] [] s.2.2.2.2.2.2 Q)) (r := x) ?_ xF _ h1
  intro s y hs hx
  exact L_X12_multiplyPolynomials_s26 s.2.2.2.2.2.2 s.1 s.2.1 s.2.2.1 s.2.2.2.1 s.2.2.2.2.1 s.2.2.2.2.2.1 (x := y) hs (fun g hg => by subst hg; exact hR g hx) (fun e he => by subst he; exact hE e hx) (fun e he => by subst he; exact hx)
def f_X12_multiplyPolynomials_j125 (σ : xM) (l4 : Int32) : Option (Int32 × xM) :=
  (xz l4).bind (fun b17 => some (b17, σ))
set_option maxHeartbeats 4000000 in
set_option maxRecDepth 20000 in
theorem L_X12_multiplyPolynomials_j125 {G : xG} {π : Nat → Nat} {d C Z : Nat} {Q : xQ} (σ : xM) (l4 : Int32) {x : (Int32 × xM)} (hf : f_X12_multiplyPolynomials_j125 σ l4 = some x) (hR : ∀ g, x = g → Q (.inl (some (.int g.1))) (g.2) π) : xMach G π J_X12_multiplyPolynomials (d + 6) C Z 125 [(4, .int l4)] [] σ Q := by
  unfold f_X12_multiplyPolynomials_j125 at hf
  refine xm_iload dX12_multiplyPolynomials_125 rfl ?_
  obtain ⟨b17, eb17, hf⟩ := xbind hf
  obtain ⟨rfl, hz⟩ := xz_of eb17
  cases hf
  exact xm_zret dX12_multiplyPolynomials_127 rfl hz (hR _ rfl)
def f_X12_multiplyPolynomials_j21 (σ : xM) (l0 : Nat) (l1 : Int32) (l2 : Int32) (l3 : Int32) (s0 : Int32) : Option (Int32 × xM) :=
  xlet (0 : Int32) (fun v3 => (xloop (f_X12_multiplyPolynomials_s26 ) xF (l0, l1, l2, l3, s0, v3, σ)).bind (Sum.elim (fun g => some g) (fun e => f_X12_multiplyPolynomials_j125 e.2 e.1)))
set_option maxHeartbeats 4000000 in
set_option maxRecDepth 20000 in
theorem L_X12_multiplyPolynomials_j21 {G : xG} {π : Nat → Nat} {d C Z : Nat} {Q : xQ} (σ : xM) (l0 : Nat) (l1 : Int32) (l2 : Int32) (l3 : Int32) (s0 : Int32) {x : (Int32 × xM)} (hf : f_X12_multiplyPolynomials_j21 σ l0 l1 l2 l3 s0 = some x) (hR : ∀ g, x = g → Q (.inl (some (.int g.1))) (g.2) π) : xMach G π J_X12_multiplyPolynomials (d + 6) C Z 21 [(0, .ref l0), (1, .int l1), (2, .int l2), (3, .int l3)] [.int s0] σ Q := by
  unfold f_X12_multiplyPolynomials_j21 at hf
  refine xm_istore dX12_multiplyPolynomials_21 (by decide) (xm_stL (L' := [(4, .int s0), (0, .ref l0), (1, .int l1), (2, .int l2), (3, .int l3)]) rfl ?_)
  refine xm_iconst dX12_multiplyPolynomials_23 (v := 0) (by decide) ?_
  refine xb_topi hf (fun v3 ev3 hf => ?_)
  refine xm_istore dX12_multiplyPolynomials_24 (by decide) (xm_stL (L' := [(5, .int v3), (4, .int s0), (0, .ref l0), (1, .int l1), (2, .int l2), (3, .int l3)]) rfl ?_)
  obtain ⟨o, h1, hf⟩ := xbind hf
  refine xm_sub [2, 3, 4, 5, 1, 0] rfl (L_X12_multiplyPolynomials_l26  h1 (fun g hg => ?_) (fun e he => ?_))
  · subst hg
    cases hf
    exact hR _ rfl
  · subst he
    rw [Sum.elim_inr] at hf
    have hf : f_X12_multiplyPolynomials_j125 e.2 e.1 = some _ := hf
    exact xm_sub [0] rfl (L_X12_multiplyPolynomials_j125 e.2 e.1 hf hR)
def f_X12_multiplyPolynomials (σ : xM) (l0 : Nat) (l1 : Int32) (l2 : Int32) (l3 : Int32) : Option (Int32 × xM) :=
  (if xk σ l0 12 = true then (f_X12_degreeOf σ l0 l2).bind (fun p1 => (if xk σ l0 12 = true then (f_X12_degreeOf σ l0 l3).bind (fun p2 => (if (8 : Int32) < (p1 + p2) then f_X12_multiplyPolynomials_j21 σ l0 l1 l2 l3 (0 : Int32) else f_X12_multiplyPolynomials_j21 σ l0 l1 l2 l3 (1 : Int32))) else none)) else none)
set_option maxHeartbeats 4000000 in
set_option maxRecDepth 20000 in
theorem m_X12_multiplyPolynomials {G : xG} {π : Nat → Nat} {d C Z : Nat} {Q : xQ} {σ : xM} {l0 : Nat} {l1 : Int32} {l2 : Int32} {l3 : Int32} {x : (Int32 × xM)} (hf : f_X12_multiplyPolynomials σ l0 l1 l2 l3 = some x) (hR : ∀ g, x = g → Q (.inl (some (.int g.1))) (g.2) π) : xMach G π J_X12_multiplyPolynomials (d + 6) C Z 0 (lv_args 0 [.ref l0, .int l1, .int l2, .int l3]) [] σ Q := by
  unfold f_X12_multiplyPolynomials at hf
  refine xm_stL (L' := [(0, .ref l0), (1, .int l1), (2, .int l2), (3, .int l3)]) rfl ?_
  refine xm_aload_n dX12_multiplyPolynomials_0 rfl ?_
  refine xm_iload_n dX12_multiplyPolynomials_1 rfl ?_
  refine xb_if hf (fun hb hf => ?_) (fun _ q => nomatch q)
  obtain ⟨p1, ep1, hf⟩ := xbind hf
  refine xb_callV (As := [.int l2]) (v0 := (some (.int p1))) (τ0 := σ) dX12_multiplyPolynomials_2 (xc_X12_degreeOf _ _) xcl12 xw_2666 xw_2668 xs_197 hb rfl (Nat.le_of_ble_eq_true rfl) rfl (Nat.le_of_ble_eq_true rfl) (fun Q1 hq => m_X12_degreeOf (d := d + 4) ep1 (fun g hg => by subst hg; exact hq)) ?_
  refine xm_aload_n dX12_multiplyPolynomials_5 rfl ?_
  refine xm_iload_n dX12_multiplyPolynomials_6 rfl ?_
  refine xb_if hf (fun hb hf => ?_) (fun _ q => nomatch q)
  obtain ⟨p2, ep2, hf⟩ := xbind hf
  refine xb_callV (As := [.int l3]) (v0 := (some (.int p2))) (τ0 := σ) dX12_multiplyPolynomials_7 (xc_X12_degreeOf _ _) xcl12 xw_2666 xw_2668 xs_197 hb rfl (Nat.le_of_ble_eq_true rfl) rfl (Nat.le_of_ble_eq_true rfl) (fun Q1 hq => m_X12_degreeOf (d := d + 4) ep2 (fun g hg => by subst hg; exact hq)) ?_
  refine xm_iadd dX12_multiplyPolynomials_10 ?_
  refine xm_bipush dX12_multiplyPolynomials_11 (v := 8) (by decide) ?_
  refine xb_icmp_gt 20 dX12_multiplyPolynomials_13 (by decide) hf (fun c hf => ?_) (fun c hf => ?_)
  · refine xm_iconst dX12_multiplyPolynomials_20 (v := 0) (by decide) ?_
    exact xm_sub [0, 1, 2, 3] rfl (L_X12_multiplyPolynomials_j21 σ l0 l1 l2 l3 (0 : Int32) hf hR)
  · refine xm_iconst dX12_multiplyPolynomials_16 (v := 1) (by decide) ?_
    refine xm_goto 21 dX12_multiplyPolynomials_17 (by decide) ?_
    exact xm_sub [0, 1, 2, 3] rfl (L_X12_multiplyPolynomials_j21 σ l0 l1 l2 l3 (1 : Int32) hf hR)
-- RankwiseModel.copyPolynomial(II)V
def f_X12_copyPolynomial_s2 (s : (Nat × Int32 × Int32 × Int32 × xM)) : Option (xM ⊕ ((xM) ⊕ (Nat × Int32 × Int32 × Int32 × xM))) :=
  xlet s.1 (fun l0 => xlet s.2.1 (fun l1 => xlet s.2.2.1 (fun l2 => xlet s.2.2.2.1 (fun l3 => xlet s.2.2.2.2 (fun σ => (if (9 : Int32) ≤ l3 then some (Sum.inr (Sum.inl σ)) else (f_X12_coefficientAt σ l1 l3).bind (fun p2 => (f_X12_coefficientAt σ l2 l3).bind (fun p3 => (if xk σ l0 12 = true then (f_X12_copyValue σ l0 p2 p3).bind (fun p4 => xlet (l3 + (1 : Int32)) (fun v5 => some (Sum.inr (Sum.inr (l0, l1, l2, v5, p4))))) else none)))))))))
set_option maxHeartbeats 4000000 in
set_option maxRecDepth 20000 in
theorem L_X12_copyPolynomial_s2 {G : xG} {π : Nat → Nat} {d C Z : Nat} {Q : xQ} (σ : xM) (l0 : Nat) (l1 : Int32) (l2 : Int32) (l3 : Int32) {x : (xM ⊕ ((xM) ⊕ (Nat × Int32 × Int32 × Int32 × xM)))} (hf : f_X12_copyPolynomial_s2 (l0, l1, l2, l3, σ) = some x) (hR : ∀ g, x = Sum.inl (g) → Q (.inl none) (g) π) (hE : ∀ e : (xM), x = Sum.inr (Sum.inl e) → xMach G π J_X12_copyPolynomial (d + 1) C Z 28 [] [] e Q) (hC : ∀ e : (Nat × Int32 × Int32 × Int32 × xM), x = Sum.inr (Sum.inr e) → xMach G π J_X12_copyPolynomial (d + 1) C Z 2 [(0, .ref e.1), (1, .int e.2.1), (2, .int e.2.2.1), (3, .int e.2.2.2.1)] [] e.2.2.2.2 Q) : xMach G π J_X12_copyPolynomial (d + 1) C Z 2 [(0, .ref l0), (1, .int l1), (2, .int l2), (3, .int l3)] [] σ Q := by
  have hf : (if (9 : Int32) ≤ l3 then some (Sum.inr (Sum.inl σ)) else (f_X12_coefficientAt σ l1 l3).bind (fun p2 => (f_X12_coefficientAt σ l2 l3).bind (fun p3 => (if xk σ l0 12 = true then (f_X12_copyValue σ l0 p2 p3).bind (fun p4 => xlet (l3 + (1 : Int32)) (fun v5 => some (Sum.inr (Sum.inr (l0, l1, l2, v5, p4))))) else none)))) = some x := hf
  refine xm_iload_n dX12_copyPolynomial_2 rfl ?_
  refine xm_bipush dX12_copyPolynomial_3 (v := 9) (by decide) ?_
  refine xb_icmp_ge 28 dX12_copyPolynomial_5 (by decide) hf (fun c hf => ?_) (fun c hf => ?_)
  · cases hf
    exact xm_sub [] rfl (hE _ rfl)
  · refine xm_aload_n dX12_copyPolynomial_8 rfl ?_
    refine xm_iload_n dX12_copyPolynomial_9 rfl ?_
    refine xm_iload_n dX12_copyPolynomial_10 rfl ?_
    obtain ⟨p2, ep2, hf⟩ := xbind hf
    refine xb_callS (As := [.int l1, .int l3]) (v0 := (some (.int p2))) (τ0 := σ) dX12_copyPolynomial_11 (xc_X12_coefficientAt _ _) xw_2655 xw_2656 rfl (Nat.le_of_ble_eq_true rfl) rfl (Nat.le_of_ble_eq_true rfl) (fun Q1 hq => m_X12_coefficientAt (d := d + 0) ep2 (fun g hg => by subst hg; exact hq)) ?_
    refine xm_iload_n dX12_copyPolynomial_14 rfl ?_
    refine xm_iload_n dX12_copyPolynomial_15 rfl ?_
    obtain ⟨p3, ep3, hf⟩ := xbind hf
    refine xb_callS (As := [.int l2, .int l3]) (v0 := (some (.int p3))) (τ0 := σ) dX12_copyPolynomial_16 (xc_X12_coefficientAt _ _) xw_2655 xw_2656 rfl (Nat.le_of_ble_eq_true rfl) rfl (Nat.le_of_ble_eq_true rfl) (fun Q1 hq => m_X12_coefficientAt (d := d + 0) ep3 (fun g hg => by subst hg; exact hq)) ?_
    refine xb_if hf (fun hb hf => ?_) (fun _ q => nomatch q)
    obtain ⟨p4, ep4, hf⟩ := xbind hf
    refine xb_callV (As := [.int p2, .int p3]) (v0 := none) (τ0 := p4) dX12_copyPolynomial_19 (xc_X12_copyValue _ _) xcl12 xw_2100 xw_2102 xs_88 hb rfl (Nat.le_of_ble_eq_true rfl) rfl (Nat.le_of_ble_eq_true rfl) (fun Q1 hq => m_X12_copyValue (d := d + 0) ep4 (fun g hg => by subst hg; exact hq)) ?_
    refine xb_iinc dX12_copyPolynomial_22 rfl (by decide) (by decide) hf (fun v5 ev5 hf => xm_stL (L' := [(3, .int v5), (0, .ref l0), (1, .int l1), (2, .int l2)]) rfl ?_)
    refine xm_goto 2 dX12_copyPolynomial_25 (by decide) ?_
    cases hf
    exact xm_sub [1, 2, 3, 0] rfl (hC _ rfl)
theorem L_X12_copyPolynomial_l2 {G : xG} {π : Nat → Nat} {d C Z : Nat} {Q : xQ} {s0 : (Nat × Int32 × Int32 × Int32 × xM)} {x : (xM ⊕ (xM))} (h1 : xloop (f_X12_copyPolynomial_s2) xF s0 = some x) (hR : ∀ g, x = Sum.inl g → Q (.inl none) (g) π) (hE : ∀ e : (xM), x = Sum.inr e → xMach G π J_X12_copyPolynomial (d + 1) C Z 28 [] [] e Q) : xMach G π J_X12_copyPolynomial (d + 1) C Z 2 [(0, .ref s0.1), (1, .int s0.2.1), (2, .int s0.2.2.1), (3, .int s0.2.2.2.1)] [] s0.2.2.2.2 Q := by
  refine xloop_run (M := (fun s : (Nat × Int32 × Int32 × Int32 × xM) => xMach G π J_X12_copyPolynomial (d + 1) C Z 2 [(0, .ref s.1), (1, .int s.2.1), (2, .int s.2.2.1), (3, .int s.2.2.2.1)] [] s.2.2.2.2 Q)) (r := x) ?_ xF _ h1
  intro s y hs hx
  exact L_X12_copyPolynomial_s2 s.2.2.2.2 s.1 s.2.1 s.2.2.1 s.2.2.2.1 (x := y) hs (fun g hg => by subst hg; exact hR g hx) (fun e he => by subst he; exact hE e hx) (fun e he => by subst he; exact hx)
def f_X12_copyPolynomial_j28 (σ : xM)  : Option xM :=
  some σ
set_option maxHeartbeats 4000000 in
set_option maxRecDepth 20000 in
theorem L_X12_copyPolynomial_j28 {G : xG} {π : Nat → Nat} {d C Z : Nat} {Q : xQ} (σ : xM)  {x : xM} (hf : f_X12_copyPolynomial_j28 σ = some x) (hR : ∀ g, x = g → Q (.inl none) (g) π) : xMach G π J_X12_copyPolynomial (d + 1) C Z 28 [] [] σ Q := by
  unfold f_X12_copyPolynomial_j28 at hf
  cases hf
  exact xm_vret dX12_copyPolynomial_28 rfl (hR _ rfl)
def f_X12_copyPolynomial (σ : xM) (l0 : Nat) (l1 : Int32) (l2 : Int32) : Option xM :=
  xlet (0 : Int32) (fun v1 => (xloop (f_X12_copyPolynomial_s2 ) xF (l0, l1, l2, v1, σ)).bind (Sum.elim (fun g => some g) (fun e => f_X12_copyPolynomial_j28 e)))
set_option maxHeartbeats 4000000 in
set_option maxRecDepth 20000 in
theorem m_X12_copyPolynomial {G : xG} {π : Nat → Nat} {d C Z : Nat} {Q : xQ} {σ : xM} {l0 : Nat} {l1 : Int32} {l2 : Int32} {x : xM} (hf : f_X12_copyPolynomial σ l0 l1 l2 = some x) (hR : ∀ g, x = g → Q (.inl none) (g) π) : xMach G π J_X12_copyPolynomial (d + 1) C Z 0 (lv_args 0 [.ref l0, .int l1, .int l2]) [] σ Q := by
  unfold f_X12_copyPolynomial at hf
  refine xm_stL (L' := [(0, .ref l0), (1, .int l1), (2, .int l2)]) rfl ?_
  refine xm_iconst dX12_copyPolynomial_0 (v := 0) (by decide) ?_
  refine xb_topi hf (fun v1 ev1 hf => ?_)
  refine xm_istore_n dX12_copyPolynomial_1 (by decide) (xm_stL (L' := [(3, .int v1), (0, .ref l0), (1, .int l1), (2, .int l2)]) rfl ?_)
  obtain ⟨o, h1, hf⟩ := xbind hf
  refine xm_sub [1, 2, 3, 0] rfl (L_X12_copyPolynomial_l2  h1 (fun g hg => ?_) (fun e he => ?_))
  · subst hg
    cases hf
    exact hR _ rfl
  · subst he
    rw [Sum.elim_inr] at hf
    have hf : f_X12_copyPolynomial_j28 e = some _ := hf
    exact xm_sub [] rfl (L_X12_copyPolynomial_j28 e hf hR)
-- RankwiseModel.keepWhole(III)V
def f_X12_keepWhole_s3 (s : (Nat × Int32 × Int32 × Int32 × Int32 × xM)) : Option (xM ⊕ ((Nat × Int32 × Int32 × Int32 × xM) ⊕ (Nat × Int32 × Int32 × Int32 × Int32 × xM))) :=
  xlet s.1 (fun l0 => xlet s.2.1 (fun l1 => xlet s.2.2.1 (fun l2 => xlet s.2.2.2.1 (fun l3 => xlet s.2.2.2.2.1 (fun l4 => xlet s.2.2.2.2.2 (fun σ => (gR σ l0 12 2).bind (fun x2 => (aI σ x2 14 l2).bind (fun x3 => (if x3 ≤ l4 then some (Sum.inr (Sum.inl (l0, l1, l2, l3, σ))) else (gR σ l0 12 70).bind (fun x4 => (gR σ l0 12 1).bind (fun x5 => (aI σ x5 14 (((440 : Int32) * l2) + l4)).bind (fun x6 => (wI σ x4 (((216 : Int32) * l1) + l4) x6).bind (fun σ7 => xlet (l4 + (1 : Int32)) (fun v8 => some (Sum.inr (Sum.inr (l0, l1, l2, l3, v8, σ7)))))))))))))))))
set_option maxHeartbeats 4000000 in
set_option maxRecDepth 20000 in
theorem L_X12_keepWhole_s3 {G : xG} {π : Nat → Nat} {d C Z : Nat} {Q : xQ} (σ : xM) (l0 : Nat) (l1 : Int32) (l2 : Int32) (l3 : Int32) (l4 : Int32) {x : (xM ⊕ ((Nat × Int32 × Int32 × Int32 × xM) ⊕ (Nat × Int32 × Int32 × Int32 × Int32 × xM)))} (hf : f_X12_keepWhole_s3 (l0, l1, l2, l3, l4, σ) = some x) (hR : ∀ g, x = Sum.inl (g) → Q (.inl none) (g) π) (hE : ∀ e : (Nat × Int32 × Int32 × Int32 × xM), x = Sum.inr (Sum.inl e) → xMach G π J_X12_keepWhole (d + 0) C Z 46 [(0, .ref e.1), (1, .int e.2.1), (2, .int e.2.2.1), (3, .int e.2.2.2.1)] [] e.2.2.2.2 Q) (hC : ∀ e : (Nat × Int32 × Int32 × Int32 × Int32 × xM), x = Sum.inr (Sum.inr e) → xMach G π J_X12_keepWhole (d + 0) C Z 3 [(0, .ref e.1), (1, .int e.2.1), (2, .int e.2.2.1), (3, .int e.2.2.2.1), (4, .int e.2.2.2.2.1)] [] e.2.2.2.2.2 Q) : xMach G π J_X12_keepWhole (d + 0) C Z 3 [(0, .ref l0), (1, .int l1), (2, .int l2), (3, .int l3), (4, .int l4)] [] σ Q := by
  have hf : (gR σ l0 12 2).bind (fun x2 => (aI σ x2 14 l2).bind (fun x3 => (if x3 ≤ l4 then some (Sum.inr (Sum.inl (l0, l1, l2, l3, σ))) else (gR σ l0 12 70).bind (fun x4 => (gR σ l0 12 1).bind (fun x5 => (aI σ x5 14 (((440 : Int32) * l2) + l4)).bind (fun x6 => (wI σ x4 (((216 : Int32) * l1) + l4) x6).bind (fun σ7 => xlet (l4 + (1 : Int32)) (fun v8 => some (Sum.inr (Sum.inr (l0, l1, l2, l3, v8, σ7))))))))))) = some x := hf
  refine xm_iload dX12_keepWhole_3 rfl ?_
  refine xm_aload_n dX12_keepWhole_5 rfl ?_
  refine xb_getR (a := l0) (c := 12) (k := 2) dX12_keepWhole_6 xcl12 (by decide) xw_1839 rfl hf (fun x2 ex2 hf => ?_)
  refine xm_iload_n dX12_keepWhole_9 rfl ?_
  refine xb_iald dX12_keepWhole_10 hf (fun x3 ex3 hf => ?_)
  refine xb_icmp_ge 46 dX12_keepWhole_11 (by decide) hf (fun c hf => ?_) (fun c hf => ?_)
  · cases hf
    exact xm_sub [0, 1, 2, 3] rfl (hE _ rfl)
  · refine xm_aload_n dX12_keepWhole_14 rfl ?_
    refine xb_getR (a := l0) (c := 12) (k := 70) dX12_keepWhole_15 xcl12 (by decide) xw_1907 rfl hf (fun x4 ex4 hf => ?_)
    refine xm_sipush dX12_keepWhole_18 (v := 216) (by decide) ?_
    refine xm_iload_n dX12_keepWhole_21 rfl ?_
    refine xm_imul dX12_keepWhole_22 ?_
    refine xm_iload dX12_keepWhole_23 rfl ?_
    refine xm_iadd dX12_keepWhole_25 ?_
    refine xm_aload_n dX12_keepWhole_26 rfl ?_
    refine xb_getR (a := l0) (c := 12) (k := 1) dX12_keepWhole_27 xcl12 (by decide) xw_1838 rfl hf (fun x5 ex5 hf => ?_)
    refine xm_sipush dX12_keepWhole_30 (v := 440) (by decide) ?_
    refine xm_iload_n dX12_keepWhole_33 rfl ?_
    refine xm_imul dX12_keepWhole_34 ?_
    refine xm_iload dX12_keepWhole_35 rfl ?_
    refine xm_iadd dX12_keepWhole_37 ?_
    refine xb_iald dX12_keepWhole_38 hf (fun x6 ex6 hf => ?_)
    refine xb_iast dX12_keepWhole_39 hf (fun σ7 eσ7 hf => ?_)
    refine xb_iinc dX12_keepWhole_40 rfl (by decide) (by decide) hf (fun v8 ev8 hf => xm_stL (L' := [(4, .int v8), (0, .ref l0), (1, .int l1), (2, .int l2), (3, .int l3)]) rfl ?_)
    refine xm_goto 3 dX12_keepWhole_43 (by decide) ?_
    cases hf
    exact xm_sub [1, 2, 3, 4, 0] rfl (hC _ rfl)
theorem L_X12_keepWhole_l3 {G : xG} {π : Nat → Nat} {d C Z : Nat} {Q : xQ} {s0 : (Nat × Int32 × Int32 × Int32 × Int32 × xM)} {x : (xM ⊕ (Nat × Int32 × Int32 × Int32 × xM))} (h1 : xloop (f_X12_keepWhole_s3) xF s0 = some x) (hR : ∀ g, x = Sum.inl g → Q (.inl none) (g) π) (hE : ∀ e : (Nat × Int32 × Int32 × Int32 × xM), x = Sum.inr e → xMach G π J_X12_keepWhole (d + 0) C Z 46 [(0, .ref e.1), (1, .int e.2.1), (2, .int e.2.2.1), (3, .int e.2.2.2.1)] [] e.2.2.2.2 Q) : xMach G π J_X12_keepWhole (d + 0) C Z 3 [(0, .ref s0.1), (1, .int s0.2.1), (2, .int s0.2.2.1), (3, .int s0.2.2.2.1), (4, .int s0.2.2.2.2.1)] [] s0.2.2.2.2.2 Q := by
  refine xloop_run (M := (fun s : (Nat × Int32 × Int32 × Int32 × Int32 × xM) => xMach G π J_X12_keepWhole (d + 0) C Z 3 [(0, .ref s.1), (1, .int s.2.1), (2, .int s.2.2.1), (3, .int s.2.2.2.1), (4, .int s.2.2.2.2.1)] [] s.2.2.2.2.2 Q)) (r := x) ?_ xF _ h1
  intro s y hs hx
  exact L_X12_keepWhole_s3 s.2.2.2.2.2 s.1 s.2.1 s.2.2.1 s.2.2.2.1 s.2.2.2.2.1 (x := y) hs (fun g hg => by subst hg; exact hR g hx) (fun e he => by subst he; exact hE e hx) (fun e he => by subst he; exact hx)
def f_X12_keepWhole_j77 (σ : xM) (s0 : Int32) (s1 : Int32) (s2 : Nat) : Option xM :=
  (wI σ s2 s1 s0).bind (fun σ16 => some σ16)
set_option maxHeartbeats 4000000 in
set_option maxRecDepth 20000 in
theorem L_X12_keepWhole_j77 {G : xG} {π : Nat → Nat} {d C Z : Nat} {Q : xQ} (σ : xM) (s0 : Int32) (s1 : Int32) (s2 : Nat) {x : xM} (hf : f_X12_keepWhole_j77 σ s0 s1 s2 = some x) (hR : ∀ g, x = g → Q (.inl none) (g) π) : xMach G π J_X12_keepWhole (d + 0) C Z 77 [] [.int s0, .int s1, .ref s2] σ Q := by
  unfold f_X12_keepWhole_j77 at hf
  refine xb_iast dX12_keepWhole_77 hf (fun σ16 eσ16 hf => ?_)
  cases hf
  exact xm_vret dX12_keepWhole_78 rfl (hR _ rfl)
def f_X12_keepWhole_j46 (σ : xM) (l0 : Nat) (l1 : Int32) (l2 : Int32) (l3 : Int32) : Option xM :=
  (gR σ l0 12 71).bind (fun x9 => (gR σ l0 12 2).bind (fun x10 => (aI σ x10 14 l2).bind (fun x11 => (wI σ x9 l1 x11).bind (fun σ12 => (gR σ12 l0 12 72).bind (fun x13 => (gR σ12 l0 12 2).bind (fun x14 => (aI σ12 x14 14 l2).bind (fun x15 => (if x15 = (0 : Int32) then f_X12_keepWhole_j77 σ12 (0 : Int32) l1 x13 else f_X12_keepWhole_j77 σ12 l3 l1 x13))))))))
set_option maxHeartbeats 4000000 in
set_option maxRecDepth 20000 in
theorem L_X12_keepWhole_j46 {G : xG} {π : Nat → Nat} {d C Z : Nat} {Q : xQ} (σ : xM) (l0 : Nat) (l1 : Int32) (l2 : Int32) (l3 : Int32) {x : xM} (hf : f_X12_keepWhole_j46 σ l0 l1 l2 l3 = some x) (hR : ∀ g, x = g → Q (.inl none) (g) π) : xMach G π J_X12_keepWhole (d + 0) C Z 46 [(0, .ref l0), (1, .int l1), (2, .int l2), (3, .int l3)] [] σ Q := by
  unfold f_X12_keepWhole_j46 at hf
  refine xm_aload_n dX12_keepWhole_46 rfl ?_
  refine xb_getR (a := l0) (c := 12) (k := 71) dX12_keepWhole_47 xcl12 (by decide) xw_1908 rfl hf (fun x9 ex9 hf => ?_)
  refine xm_iload_n dX12_keepWhole_50 rfl ?_
  refine xm_aload_n dX12_keepWhole_51 rfl ?_
  refine xb_getR (a := l0) (c := 12) (k := 2) dX12_keepWhole_52 xcl12 (by decide) xw_1839 rfl hf (fun x10 ex10 hf => ?_)
  refine xm_iload_n dX12_keepWhole_55 rfl ?_
  refine xb_iald dX12_keepWhole_56 hf (fun x11 ex11 hf => ?_)
  refine xb_iast dX12_keepWhole_57 hf (fun σ12 eσ12 hf => ?_)
  refine xm_aload_n dX12_keepWhole_58 rfl ?_
  refine xb_getR (a := l0) (c := 12) (k := 72) dX12_keepWhole_59 xcl12 (by decide) xw_1909 rfl hf (fun x13 ex13 hf => ?_)
  refine xm_iload_n dX12_keepWhole_62 rfl ?_
  refine xm_aload_n dX12_keepWhole_63 rfl ?_
  refine xb_getR (a := l0) (c := 12) (k := 2) dX12_keepWhole_64 xcl12 (by decide) xw_1839 rfl hf (fun x14 ex14 hf => ?_)
  refine xm_iload_n dX12_keepWhole_67 rfl ?_
  refine xb_iald dX12_keepWhole_68 hf (fun x15 ex15 hf => ?_)
  refine xb_if_ne 76 dX12_keepWhole_69 (by decide) hf (fun c hf => ?_) (fun c hf => ?_)
  · refine xm_iload_n dX12_keepWhole_76 rfl ?_
    exact xm_sub [] rfl (L_X12_keepWhole_j77 σ12 l3 l1 x13 hf hR)
  · refine xm_iconst dX12_keepWhole_72 (v := 0) (by decide) ?_
    refine xm_goto 77 dX12_keepWhole_73 (by decide) ?_
    exact xm_sub [] rfl (L_X12_keepWhole_j77 σ12 (0 : Int32) l1 x13 hf hR)
def f_X12_keepWhole (σ : xM) (l0 : Nat) (l1 : Int32) (l2 : Int32) (l3 : Int32) : Option xM :=
  xlet (0 : Int32) (fun v1 => (xloop (f_X12_keepWhole_s3 ) xF (l0, l1, l2, l3, v1, σ)).bind (Sum.elim (fun g => some g) (fun e => f_X12_keepWhole_j46 e.2.2.2.2 e.1 e.2.1 e.2.2.1 e.2.2.2.1)))
set_option maxHeartbeats 4000000 in
set_option maxRecDepth 20000 in
theorem m_X12_keepWhole {G : xG} {π : Nat → Nat} {d C Z : Nat} {Q : xQ} {σ : xM} {l0 : Nat} {l1 : Int32} {l2 : Int32} {l3 : Int32} {x : xM} (hf : f_X12_keepWhole σ l0 l1 l2 l3 = some x) (hR : ∀ g, x = g → Q (.inl none) (g) π) : xMach G π J_X12_keepWhole (d + 0) C Z 0 (lv_args 0 [.ref l0, .int l1, .int l2, .int l3]) [] σ Q := by
  unfold f_X12_keepWhole at hf
  refine xm_stL (L' := [(0, .ref l0), (1, .int l1), (2, .int l2), (3, .int l3)]) rfl ?_
  refine xm_iconst dX12_keepWhole_0 (v := 0) (by decide) ?_
  refine xb_topi hf (fun v1 ev1 hf => ?_)
  refine xm_istore dX12_keepWhole_1 (by decide) (xm_stL (L' := [(4, .int v1), (0, .ref l0), (1, .int l1), (2, .int l2), (3, .int l3)]) rfl ?_)
  obtain ⟨o, h1, hf⟩ := xbind hf
  refine xm_sub [1, 2, 3, 4, 0] rfl (L_X12_keepWhole_l3  h1 (fun g hg => ?_) (fun e he => ?_))
  · subst hg
    cases hf
    exact hR _ rfl
  · subst he
    rw [Sum.elim_inr] at hf
    have hf : f_X12_keepWhole_j46 e.2.2.2.2 e.1 e.2.1 e.2.2.1 e.2.2.2.1 = some _ := hf
    exact xm_sub [0, 1, 2, 3] rfl (L_X12_keepWhole_j46 e.2.2.2.2 e.1 e.2.1 e.2.2.1 e.2.2.2.1 hf hR)
-- RankwiseModel.loadWhole(II)V
def f_X12_loadWhole_s2 (s : (Nat × Int32 × Int32 × Int32 × xM)) : Option (xM ⊕ ((Nat × Int32 × Int32 × xM) ⊕ (Nat × Int32 × Int32 × Int32 × xM))) :=
  xlet s.1 (fun l0 => xlet s.2.1 (fun l1 => xlet s.2.2.1 (fun l2 => xlet s.2.2.2.1 (fun l3 => xlet s.2.2.2.2 (fun σ => (gR σ l0 12 71).bind (fun x2 => (aI σ x2 14 l2).bind (fun x3 => (if x3 ≤ l3 then some (Sum.inr (Sum.inl (l0, l1, l2, σ))) else (gR σ l0 12 1).bind (fun x4 => (gR σ l0 12 70).bind (fun x5 => (aI σ x5 14 (((216 : Int32) * l2) + l3)).bind (fun x6 => (wI σ x4 (((440 : Int32) * l1) + l3) x6).bind (fun σ7 => xlet (l3 + (1 : Int32)) (fun v8 => some (Sum.inr (Sum.inr (l0, l1, l2, v8, σ7))))))))))))))))
set_option maxHeartbeats 4000000 in
set_option maxRecDepth 20000 in
theorem L_X12_loadWhole_s2 {G : xG} {π : Nat → Nat} {d C Z : Nat} {Q : xQ} (σ : xM) (l0 : Nat) (l1 : Int32) (l2 : Int32) (l3 : Int32) {x : (xM ⊕ ((Nat × Int32 × Int32 × xM) ⊕ (Nat × Int32 × Int32 × Int32 × xM)))} (hf : f_X12_loadWhole_s2 (l0, l1, l2, l3, σ) = some x) (hR : ∀ g, x = Sum.inl (g) → Q (.inl none) (g) π) (hE : ∀ e : (Nat × Int32 × Int32 × xM), x = Sum.inr (Sum.inl e) → xMach G π J_X12_loadWhole (d + 0) C Z 42 [(0, .ref e.1), (1, .int e.2.1), (2, .int e.2.2.1)] [] e.2.2.2 Q) (hC : ∀ e : (Nat × Int32 × Int32 × Int32 × xM), x = Sum.inr (Sum.inr e) → xMach G π J_X12_loadWhole (d + 0) C Z 2 [(0, .ref e.1), (1, .int e.2.1), (2, .int e.2.2.1), (3, .int e.2.2.2.1)] [] e.2.2.2.2 Q) : xMach G π J_X12_loadWhole (d + 0) C Z 2 [(0, .ref l0), (1, .int l1), (2, .int l2), (3, .int l3)] [] σ Q := by
  have hf : (gR σ l0 12 71).bind (fun x2 => (aI σ x2 14 l2).bind (fun x3 => (if x3 ≤ l3 then some (Sum.inr (Sum.inl (l0, l1, l2, σ))) else (gR σ l0 12 1).bind (fun x4 => (gR σ l0 12 70).bind (fun x5 => (aI σ x5 14 (((216 : Int32) * l2) + l3)).bind (fun x6 => (wI σ x4 (((440 : Int32) * l1) + l3) x6).bind (fun σ7 => xlet (l3 + (1 : Int32)) (fun v8 => some (Sum.inr (Sum.inr (l0, l1, l2, v8, σ7))))))))))) = some x := hf
  refine xm_iload_n dX12_loadWhole_2 rfl ?_
  refine xm_aload_n dX12_loadWhole_3 rfl ?_
  refine xb_getR (a := l0) (c := 12) (k := 71) dX12_loadWhole_4 xcl12 (by decide) xw_1908 rfl hf (fun x2 ex2 hf => ?_)
  refine xm_iload_n dX12_loadWhole_7 rfl ?_
  refine xb_iald dX12_loadWhole_8 hf (fun x3 ex3 hf => ?_)
  refine xb_icmp_ge 42 dX12_loadWhole_9 (by decide) hf (fun c hf => ?_) (fun c hf => ?_)
  · cases hf
    exact xm_sub [0, 1, 2] rfl (hE _ rfl)
  · refine xm_aload_n dX12_loadWhole_12 rfl ?_
    refine xb_getR (a := l0) (c := 12) (k := 1) dX12_loadWhole_13 xcl12 (by decide) xw_1838 rfl hf (fun x4 ex4 hf => ?_)
    refine xm_sipush dX12_loadWhole_16 (v := 440) (by decide) ?_
    refine xm_iload_n dX12_loadWhole_19 rfl ?_
    refine xm_imul dX12_loadWhole_20 ?_
    refine xm_iload_n dX12_loadWhole_21 rfl ?_
    refine xm_iadd dX12_loadWhole_22 ?_
    refine xm_aload_n dX12_loadWhole_23 rfl ?_
    refine xb_getR (a := l0) (c := 12) (k := 70) dX12_loadWhole_24 xcl12 (by decide) xw_1907 rfl hf (fun x5 ex5 hf => ?_)
    refine xm_sipush dX12_loadWhole_27 (v := 216) (by decide) ?_
    refine xm_iload_n dX12_loadWhole_30 rfl ?_
    refine xm_imul dX12_loadWhole_31 ?_
    refine xm_iload_n dX12_loadWhole_32 rfl ?_
    refine xm_iadd dX12_loadWhole_33 ?_
    refine xb_iald dX12_loadWhole_34 hf (fun x6 ex6 hf => ?_)
    refine xb_iast dX12_loadWhole_35 hf (fun σ7 eσ7 hf => ?_)
    refine xb_iinc dX12_loadWhole_36 rfl (by decide) (by decide) hf (fun v8 ev8 hf => xm_stL (L' := [(3, .int v8), (0, .ref l0), (1, .int l1), (2, .int l2)]) rfl ?_)
    refine xm_goto 2 dX12_loadWhole_39 (by decide) ?_
    cases hf
    exact xm_sub [1, 2, 3, 0] rfl (hC _ rfl)
theorem L_X12_loadWhole_l2 {G : xG} {π : Nat → Nat} {d C Z : Nat} {Q : xQ} {s0 : (Nat × Int32 × Int32 × Int32 × xM)} {x : (xM ⊕ (Nat × Int32 × Int32 × xM))} (h1 : xloop (f_X12_loadWhole_s2) xF s0 = some x) (hR : ∀ g, x = Sum.inl g → Q (.inl none) (g) π) (hE : ∀ e : (Nat × Int32 × Int32 × xM), x = Sum.inr e → xMach G π J_X12_loadWhole (d + 0) C Z 42 [(0, .ref e.1), (1, .int e.2.1), (2, .int e.2.2.1)] [] e.2.2.2 Q) : xMach G π J_X12_loadWhole (d + 0) C Z 2 [(0, .ref s0.1), (1, .int s0.2.1), (2, .int s0.2.2.1), (3, .int s0.2.2.2.1)] [] s0.2.2.2.2 Q := by
  refine xloop_run (M := (fun s : (Nat × Int32 × Int32 × Int32 × xM) => xMach G π J_X12_loadWhole (d + 0) C Z 2 [(0, .ref s.1), (1, .int s.2.1), (2, .int s.2.2.1), (3, .int s.2.2.2.1)] [] s.2.2.2.2 Q)) (r := x) ?_ xF _ h1
  intro s y hs hx
  exact L_X12_loadWhole_s2 s.2.2.2.2 s.1 s.2.1 s.2.2.1 s.2.2.2.1 (x := y) hs (fun g hg => by subst hg; exact hR g hx) (fun e he => by subst he; exact hE e hx) (fun e he => by subst he; exact hx)
def f_X12_loadWhole_j42 (σ : xM) (l0 : Nat) (l1 : Int32) (l2 : Int32) : Option xM :=
  (gR σ l0 12 2).bind (fun x9 => (gR σ l0 12 71).bind (fun x10 => (aI σ x10 14 l2).bind (fun x11 => (wI σ x9 l1 x11).bind (fun σ12 => some σ12))))
set_option maxHeartbeats 4000000 in
set_option maxRecDepth 20000 in
theorem L_X12_loadWhole_j42 {G : xG} {π : Nat → Nat} {d C Z : Nat} {Q : xQ} (σ : xM) (l0 : Nat) (l1 : Int32) (l2 : Int32) {x : xM} (hf : f_X12_loadWhole_j42 σ l0 l1 l2 = some x) (hR : ∀ g, x = g → Q (.inl none) (g) π) : xMach G π J_X12_loadWhole (d + 0) C Z 42 [(0, .ref l0), (1, .int l1), (2, .int l2)] [] σ Q := by
  unfold f_X12_loadWhole_j42 at hf
  refine xm_aload_n dX12_loadWhole_42 rfl ?_
  refine xb_getR (a := l0) (c := 12) (k := 2) dX12_loadWhole_43 xcl12 (by decide) xw_1839 rfl hf (fun x9 ex9 hf => ?_)
  refine xm_iload_n dX12_loadWhole_46 rfl ?_
  refine xm_aload_n dX12_loadWhole_47 rfl ?_
  refine xb_getR (a := l0) (c := 12) (k := 71) dX12_loadWhole_48 xcl12 (by decide) xw_1908 rfl hf (fun x10 ex10 hf => ?_)
  refine xm_iload_n dX12_loadWhole_51 rfl ?_
  refine xb_iald dX12_loadWhole_52 hf (fun x11 ex11 hf => ?_)
  refine xb_iast dX12_loadWhole_53 hf (fun σ12 eσ12 hf => ?_)
  cases hf
  exact xm_vret dX12_loadWhole_54 rfl (hR _ rfl)
def f_X12_loadWhole (σ : xM) (l0 : Nat) (l1 : Int32) (l2 : Int32) : Option xM :=
  xlet (0 : Int32) (fun v1 => (xloop (f_X12_loadWhole_s2 ) xF (l0, l1, l2, v1, σ)).bind (Sum.elim (fun g => some g) (fun e => f_X12_loadWhole_j42 e.2.2.2 e.1 e.2.1 e.2.2.1)))
set_option maxHeartbeats 4000000 in
set_option maxRecDepth 20000 in
theorem m_X12_loadWhole {G : xG} {π : Nat → Nat} {d C Z : Nat} {Q : xQ} {σ : xM} {l0 : Nat} {l1 : Int32} {l2 : Int32} {x : xM} (hf : f_X12_loadWhole σ l0 l1 l2 = some x) (hR : ∀ g, x = g → Q (.inl none) (g) π) : xMach G π J_X12_loadWhole (d + 0) C Z 0 (lv_args 0 [.ref l0, .int l1, .int l2]) [] σ Q := by
  unfold f_X12_loadWhole at hf
  refine xm_stL (L' := [(0, .ref l0), (1, .int l1), (2, .int l2)]) rfl ?_
  refine xm_iconst dX12_loadWhole_0 (v := 0) (by decide) ?_
  refine xb_topi hf (fun v1 ev1 hf => ?_)
  refine xm_istore_n dX12_loadWhole_1 (by decide) (xm_stL (L' := [(3, .int v1), (0, .ref l0), (1, .int l1), (2, .int l2)]) rfl ?_)
  obtain ⟨o, h1, hf⟩ := xbind hf
  refine xm_sub [1, 2, 3, 0] rfl (L_X12_loadWhole_l2  h1 (fun g hg => ?_) (fun e he => ?_))
  · subst hg
    cases hf
    exact hR _ rfl
  · subst he
    rw [Sum.elim_inr] at hf
    have hf : f_X12_loadWhole_j42 e.2.2.2 e.1 e.2.1 e.2.2.1 = some _ := hf
    exact xm_sub [0, 1, 2] rfl (L_X12_loadWhole_j42 e.2.2.2 e.1 e.2.1 e.2.2.1 hf hR)
-- RankwiseModel.makeWhole(I)V
def f_X12_makeWhole_s9 (s : (Nat × Int32 × Int32 × xM)) : Option (xM ⊕ ((Nat × Int32 × xM) ⊕ (Nat × Int32 × Int32 × xM))) :=
  xlet s.1 (fun l0 => xlet s.2.1 (fun l1 => xlet s.2.2.1 (fun l2 => xlet s.2.2.2 (fun σ => (if (9 : Int32) ≤ l2 then some (Sum.inr (Sum.inl (l0, l1, σ))) else (f_X12_coefficientAt σ l1 l2).bind (fun p3 => (if xk σ l0 12 = true then (f_X12_loadDenominator σ l0 (2 : Int32) p3).bind (fun p4 => (if xk p4 l0 12 = true then (f_X12_copy p4 l0 (12 : Int32) (8 : Int32)).bind (fun p5 => (if xk p5 l0 12 = true then (f_X12_copy p5 l0 (13 : Int32) (2 : Int32)).bind (fun p6 => (if xk p6 l0 12 = true then (f_X12_common p6 l0 (12 : Int32) (13 : Int32)).bind (fun p7 => (if xk p7 l0 12 = true then (f_X12_copy p7 l0 (13 : Int32) (12 : Int32)).bind (fun p8 => (if xk p8 l0 12 = true then (f_X12_divide p8 l0 (14 : Int32) (15 : Int32) (8 : Int32) (13 : Int32)).bind (fun p9 => (if xk p9 l0 12 = true then (f_X12_times p9 l0 (10 : Int32) (14 : Int32) (2 : Int32)).bind (fun p10 => (if xk p10 l0 12 = true then (f_X12_copy p10 l0 (8 : Int32) (10 : Int32)).bind (fun p11 => xlet (l2 + (1 : Int32)) (fun v12 => some (Sum.inr (Sum.inr (l0, l1, v12, p11))))) else none)) else none)) else none)) else none)) else none)) else none)) else none)) else none)))))))
set_option maxHeartbeats 4000000 in
set_option maxRecDepth 20000 in
theorem L_X12_makeWhole_s9 {G : xG} {π : Nat → Nat} {d C Z : Nat} {Q : xQ} (σ : xM) (l0 : Nat) (l1 : Int32) (l2 : Int32) {x : (xM ⊕ ((Nat × Int32 × xM) ⊕ (Nat × Int32 × Int32 × xM)))} (hf : f_X12_makeWhole_s9 (l0, l1, l2, σ) = some x) (hR : ∀ g, x = Sum.inl (g) → Q (.inl none) (g) π) (hE : ∀ e : (Nat × Int32 × xM), x = Sum.inr (Sum.inl e) → xMach G π J_X12_makeWhole (d + 3) C Z 91 [(0, .ref e.1), (1, .int e.2.1)] [] e.2.2 Q) (hC : ∀ e : (Nat × Int32 × Int32 × xM), x = Sum.inr (Sum.inr e) → xMach G π J_X12_makeWhole (d + 3) C Z 9 [(0, .ref e.1), (1, .int e.2.1), (2, .int e.2.2.1)] [] e.2.2.2 Q) : xMach G π J_X12_makeWhole (d + 3) C Z 9 [(0, .ref l0), (1, .int l1), (2, .int l2)] [] σ Q := by
  have hf : (if (9 : Int32) ≤ l2 then some (Sum.inr (Sum.inl (l0, l1, σ))) else (f_X12_coefficientAt σ l1 l2).bind (fun p3 => (if xk σ l0 12 = true then (f_X12_loadDenominator σ l0 (2 : Int32) p3).bind (fun p4 => (if xk p4 l0 12 = true then (f_X12_copy p4 l0 (12 : Int32) (8 : Int32)).bind (fun p5 => (if xk p5 l0 12 = true then (f_X12_copy p5 l0 (13 : Int32) (2 : Int32)).bind (fun p6 => (if xk p6 l0 12 = true then (f_X12_common p6 l0 (12 : Int32) (13 : Int32)).bind (fun p7 => (if xk p7 l0 12 = true then (f_X12_copy p7 l0 (13 : Int32) (12 : Int32)).bind (fun p8 => (if xk p8 l0 12 = true then (f_X12_divide p8 l0 (14 : Int32) (15 : Int32) (8 : Int32) (13 : Int32)).bind (fun p9 => (if xk p9 l0 12 = true then (f_X12_times p9 l0 (10 : Int32) (14 : Int32) (2 : Int32)).bind (fun p10 => (if xk p10 l0 12 = true then (f_X12_copy p10 l0 (8 : Int32) (10 : Int32)).bind (fun p11 => xlet (l2 + (1 : Int32)) (fun v12 => some (Sum.inr (Sum.inr (l0, l1, v12, p11))))) else none)) else none)) else none)) else none)) else none)) else none)) else none)) else none))) = some x := hf
  refine xm_iload_n dX12_makeWhole_9 rfl ?_
  refine xm_bipush dX12_makeWhole_10 (v := 9) (by decide) ?_
  refine xb_icmp_ge 91 dX12_makeWhole_12 (by decide) hf (fun c hf => ?_) (fun c hf => ?_)
  · cases hf
    exact xm_sub [0, 1] rfl (hE _ rfl)
  · refine xm_aload_n dX12_makeWhole_15 rfl ?_
    refine xm_iconst dX12_makeWhole_16 (v := 2) (by decide) ?_
    refine xm_iload_n dX12_makeWhole_17 rfl ?_
    refine xm_iload_n dX12_makeWhole_18 rfl ?_
    obtain ⟨p3, ep3, hf⟩ := xbind hf
    refine xb_callS (As := [.int l1, .int l2]) (v0 := (some (.int p3))) (τ0 := σ) dX12_makeWhole_19 (xc_X12_coefficientAt _ _) xw_2655 xw_2656 rfl (Nat.le_of_ble_eq_true rfl) rfl (Nat.le_of_ble_eq_true rfl) (fun Q1 hq => m_X12_coefficientAt (d := d + 2) ep3 (fun g hg => by subst hg; exact hq)) ?_
    refine xb_if hf (fun hb hf => ?_) (fun _ q => nomatch q)
    obtain ⟨p4, ep4, hf⟩ := xbind hf
    refine xb_callV (As := [.int (2 : Int32), .int p3]) (v0 := none) (τ0 := p4) dX12_makeWhole_22 (xc_X12_loadDenominator _ _) xcl12 xw_2411 xw_2413 xs_147 hb rfl (Nat.le_of_ble_eq_true rfl) rfl (Nat.le_of_ble_eq_true rfl) (fun Q1 hq => m_X12_loadDenominator (d := d + 0) ep4 (fun g hg => by subst hg; exact hq)) ?_
    refine xm_aload_n dX12_makeWhole_25 rfl ?_
    refine xm_bipush dX12_makeWhole_26 (v := 12) (by decide) ?_
    refine xm_bipush dX12_makeWhole_28 (v := 8) (by decide) ?_
    refine xb_if hf (fun hb hf => ?_) (fun _ q => nomatch q)
    obtain ⟨p5, ep5, hf⟩ := xbind hf
    refine xb_callV (As := [.int (12 : Int32), .int (8 : Int32)]) (v0 := none) (τ0 := p5) dX12_makeWhole_30 (xc_X12_copy _ _) xcl12 xw_2424 xw_2426 xs_150 hb rfl (Nat.le_of_ble_eq_true rfl) rfl (Nat.le_of_ble_eq_true rfl) (fun Q1 hq => m_X12_copy (d := d + 2) ep5 (fun g hg => by subst hg; exact hq)) ?_
    refine xm_aload_n dX12_makeWhole_33 rfl ?_
    refine xm_bipush dX12_makeWhole_34 (v := 13) (by decide) ?_
    refine xm_iconst dX12_makeWhole_36 (v := 2) (by decide) ?_
    refine xb_if hf (fun hb hf => ?_) (fun _ q => nomatch q)
    obtain ⟨p6, ep6, hf⟩ := xbind hf
    refine xb_callV (As := [.int (13 : Int32), .int (2 : Int32)]) (v0 := none) (τ0 := p6) dX12_makeWhole_37 (xc_X12_copy _ _) xcl12 xw_2424 xw_2426 xs_150 hb rfl (Nat.le_of_ble_eq_true rfl) rfl (Nat.le_of_ble_eq_true rfl) (fun Q1 hq => m_X12_copy (d := d + 2) ep6 (fun g hg => by subst hg; exact hq)) ?_
    refine xm_aload_n dX12_makeWhole_40 rfl ?_
    refine xm_bipush dX12_makeWhole_41 (v := 12) (by decide) ?_
    refine xm_bipush dX12_makeWhole_43 (v := 13) (by decide) ?_
    refine xb_if hf (fun hb hf => ?_) (fun _ q => nomatch q)
    obtain ⟨p7, ep7, hf⟩ := xbind hf
    refine xb_callV (As := [.int (12 : Int32), .int (13 : Int32)]) (v0 := none) (τ0 := p7) dX12_makeWhole_45 (xc_X12_common _ _) xcl12 xw_2448 xw_2450 xs_156 hb rfl (Nat.le_of_ble_eq_true rfl) rfl (Nat.le_of_ble_eq_true rfl) (fun Q1 hq => m_X12_common (d := d + 0) ep7 (fun g hg => by subst hg; exact hq)) ?_
    refine xm_aload_n dX12_makeWhole_48 rfl ?_
    refine xm_bipush dX12_makeWhole_49 (v := 13) (by decide) ?_
    refine xm_bipush dX12_makeWhole_51 (v := 12) (by decide) ?_
    refine xb_if hf (fun hb hf => ?_) (fun _ q => nomatch q)
    obtain ⟨p8, ep8, hf⟩ := xbind hf
    refine xb_callV (As := [.int (13 : Int32), .int (12 : Int32)]) (v0 := none) (τ0 := p8) dX12_makeWhole_53 (xc_X12_copy _ _) xcl12 xw_2424 xw_2426 xs_150 hb rfl (Nat.le_of_ble_eq_true rfl) rfl (Nat.le_of_ble_eq_true rfl) (fun Q1 hq => m_X12_copy (d := d + 2) ep8 (fun g hg => by subst hg; exact hq)) ?_
    refine xm_aload_n dX12_makeWhole_56 rfl ?_
    refine xm_bipush dX12_makeWhole_57 (v := 14) (by decide) ?_
    refine xm_bipush dX12_makeWhole_59 (v := 15) (by decide) ?_
    refine xm_bipush dX12_makeWhole_61 (v := 8) (by decide) ?_
    refine xm_bipush dX12_makeWhole_63 (v := 13) (by decide) ?_
    refine xb_if hf (fun hb hf => ?_) (fun _ q => nomatch q)
    obtain ⟨p9, ep9, hf⟩ := xbind hf
    refine xb_callV (As := [.int (14 : Int32), .int (15 : Int32), .int (8 : Int32), .int (13 : Int32)]) (v0 := none) (τ0 := p9) dX12_makeWhole_65 (xc_X12_divide _ _) xcl12 xw_2464 xw_2466 xs_160 hb rfl (Nat.le_of_ble_eq_true rfl) rfl (Nat.le_of_ble_eq_true rfl) (fun Q1 hq => m_X12_divide (d := d + 0) ep9 (fun g hg => by subst hg; exact hq)) ?_
    refine xm_aload_n dX12_makeWhole_68 rfl ?_
    refine xm_bipush dX12_makeWhole_69 (v := 10) (by decide) ?_
    refine xm_bipush dX12_makeWhole_71 (v := 14) (by decide) ?_
    refine xm_iconst dX12_makeWhole_73 (v := 2) (by decide) ?_
    refine xb_if hf (fun hb hf => ?_) (fun _ q => nomatch q)
    obtain ⟨p10, ep10, hf⟩ := xbind hf
    refine xb_callV (As := [.int (10 : Int32), .int (14 : Int32), .int (2 : Int32)]) (v0 := none) (τ0 := p10) dX12_makeWhole_74 (xc_X12_times _ _) xcl12 xw_2415 xw_2417 xs_148 hb rfl (Nat.le_of_ble_eq_true rfl) rfl (Nat.le_of_ble_eq_true rfl) (fun Q1 hq => m_X12_times (d := d + 1) ep10 (fun g hg => by subst hg; exact hq)) ?_
    refine xm_aload_n dX12_makeWhole_77 rfl ?_
    refine xm_bipush dX12_makeWhole_78 (v := 8) (by decide) ?_
    refine xm_bipush dX12_makeWhole_80 (v := 10) (by decide) ?_
    refine xb_if hf (fun hb hf => ?_) (fun _ q => nomatch q)
    obtain ⟨p11, ep11, hf⟩ := xbind hf
    refine xb_callV (As := [.int (8 : Int32), .int (10 : Int32)]) (v0 := none) (τ0 := p11) dX12_makeWhole_82 (xc_X12_copy _ _) xcl12 xw_2424 xw_2426 xs_150 hb rfl (Nat.le_of_ble_eq_true rfl) rfl (Nat.le_of_ble_eq_true rfl) (fun Q1 hq => m_X12_copy (d := d + 2) ep11 (fun g hg => by subst hg; exact hq)) ?_
    refine xb_iinc dX12_makeWhole_85 rfl (by decide) (by decide) hf (fun v12 ev12 hf => xm_stL (L' := [(2, .int v12), (0, .ref l0), (1, .int l1)]) rfl ?_)
    refine xm_goto 9 dX12_makeWhole_88 (by decide) ?_
    cases hf
    exact xm_sub [1, 2, 0] rfl (hC _ rfl)
theorem L_X12_makeWhole_l9 {G : xG} {π : Nat → Nat} {d C Z : Nat} {Q : xQ} {s0 : (Nat × Int32 × Int32 × xM)} {x : (xM ⊕ (Nat × Int32 × xM))} (h1 : xloop (f_X12_makeWhole_s9) xF s0 = some x) (hR : ∀ g, x = Sum.inl g → Q (.inl none) (g) π) (hE : ∀ e : (Nat × Int32 × xM), x = Sum.inr e → xMach G π J_X12_makeWhole (d + 3) C Z 91 [(0, .ref e.1), (1, .int e.2.1)] [] e.2.2 Q) : xMach G π J_X12_makeWhole (d + 3) C Z 9 [(0, .ref s0.1), (1, .int s0.2.1), (2, .int s0.2.2.1)] [] s0.2.2.2 Q := by
  refine xloop_run (M := (fun s : (Nat × Int32 × Int32 × xM) => xMach G π J_X12_makeWhole (d + 3) C Z 9 [(0, .ref s.1), (1, .int s.2.1), (2, .int s.2.2.1)] [] s.2.2.2 Q)) (r := x) ?_ xF _ h1
  intro s y hs hx
  exact L_X12_makeWhole_s9 s.2.2.2 s.1 s.2.1 s.2.2.1 (x := y) hs (fun g hg => by subst hg; exact hR g hx) (fun e he => by subst he; exact hE e hx) (fun e he => by subst he; exact hx)
def f_X12_makeWhole_s93 (s : (Nat × Int32 × Int32 × xM)) : Option (xM ⊕ ((xM) ⊕ (Nat × Int32 × Int32 × xM))) :=
  xlet s.1 (fun l0 => xlet s.2.1 (fun l1 => xlet s.2.2.1 (fun l2 => xlet s.2.2.2 (fun σ => (if (9 : Int32) ≤ l2 then some (Sum.inr (Sum.inl σ)) else (f_X12_coefficientAt σ l1 l2).bind (fun p14 => (if xk σ l0 12 = true then (f_X12_loadNumerator σ l0 (2 : Int32) p14).bind (fun p15 => (f_X12_coefficientAt p15 l1 l2).bind (fun p16 => (if xk p15 l0 12 = true then (f_X12_loadDenominator p15 l0 (3 : Int32) p16).bind (fun p17 => (if xk p17 l0 12 = true then (f_X12_divide p17 l0 (14 : Int32) (15 : Int32) (8 : Int32) (3 : Int32)).bind (fun p18 => (if xk p18 l0 12 = true then (f_X12_times p18 l0 (10 : Int32) (2 : Int32) (14 : Int32)).bind (fun p19 => (f_X12_coefficientAt p19 l1 l2).bind (fun p20 => (if xk p19 l0 12 = true then (f_X12_sign p19 l0 p20).bind (fun p21 => (if xk p19 l0 12 = true then (f_X12_keepWhole p19 l0 ((0 : Int32) + l2) (10 : Int32) p21).bind (fun p22 => xlet (l2 + (1 : Int32)) (fun v23 => some (Sum.inr (Sum.inr (l0, l1, v23, p22))))) else none)) else none))) else none)) else none)) else none))) else none)))))))
set_option maxHeartbeats 4000000 in
set_option maxRecDepth 20000 in
theorem L_X12_makeWhole_s93 {G : xG} {π : Nat → Nat} {d C Z : Nat} {Q : xQ} (σ : xM) (l0 : Nat) (l1 : Int32) (l2 : Int32) {x : (xM ⊕ ((xM) ⊕ (Nat × Int32 × Int32 × xM)))} (hf : f_X12_makeWhole_s93 (l0, l1, l2, σ) = some x) (hR : ∀ g, x = Sum.inl (g) → Q (.inl none) (g) π) (hE : ∀ e : (xM), x = Sum.inr (Sum.inl e) → xMach G π J_X12_makeWhole (d + 3) C Z 163 [] [] e Q) (hC : ∀ e : (Nat × Int32 × Int32 × xM), x = Sum.inr (Sum.inr e) → xMach G π J_X12_makeWhole (d + 3) C Z 93 [(0, .ref e.1), (1, .int e.2.1), (2, .int e.2.2.1)] [] e.2.2.2 Q) : xMach G π J_X12_makeWhole (d + 3) C Z 93 [(0, .ref l0), (1, .int l1), (2, .int l2)] [] σ Q := by
  have hf : (if (9 : Int32) ≤ l2 then some (Sum.inr (Sum.inl σ)) else (f_X12_coefficientAt σ l1 l2).bind (fun p14 => (if xk σ l0 12 = true then (f_X12_loadNumerator σ l0 (2 : Int32) p14).bind (fun p15 => (f_X12_coefficientAt p15 l1 l2).bind (fun p16 => (if xk p15 l0 12 = true then (f_X12_loadDenominator p15 l0 (3 : Int32) p16).bind (fun p17 => (if xk p17 l0 12 = true then (f_X12_divide p17 l0 (14 : Int32) (15 : Int32) (8 : Int32) (3 : Int32)).bind (fun p18 => (if xk p18 l0 12 = true then (f_X12_times p18 l0 (10 : Int32) (2 : Int32) (14 : Int32)).bind (fun p19 => (f_X12_coefficientAt p19 l1 l2).bind (fun p20 => (if xk p19 l0 12 = true then (f_X12_sign p19 l0 p20).bind (fun p21 => (if xk p19 l0 12 = true then (f_X12_keepWhole p19 l0 ((0 : Int32) + l2) (10 : Int32) p21).bind (fun p22 => xlet (l2 + (1 : Int32)) (fun v23 => some (Sum.inr (Sum.inr (l0, l1, v23, p22))))) else none)) else none))) else none)) else none)) else none))) else none))) = some x := hf
  refine xm_iload_n dX12_makeWhole_93 rfl ?_
  refine xm_bipush dX12_makeWhole_94 (v := 9) (by decide) ?_
  refine xb_icmp_ge 163 dX12_makeWhole_96 (by decide) hf (fun c hf => ?_) (fun c hf => ?_)
  · cases hf
    exact xm_sub [] rfl (hE _ rfl)
  · refine xm_aload_n dX12_makeWhole_99 rfl ?_
    refine xm_iconst dX12_makeWhole_100 (v := 2) (by decide) ?_
    refine xm_iload_n dX12_makeWhole_101 rfl ?_
    refine xm_iload_n dX12_makeWhole_102 rfl ?_
    obtain ⟨p14, ep14, hf⟩ := xbind hf
    refine xb_callS (As := [.int l1, .int l2]) (v0 := (some (.int p14))) (τ0 := σ) dX12_makeWhole_103 (xc_X12_coefficientAt _ _) xw_2655 xw_2656 rfl (Nat.le_of_ble_eq_true rfl) rfl (Nat.le_of_ble_eq_true rfl) (fun Q1 hq => m_X12_coefficientAt (d := d + 2) ep14 (fun g hg => by subst hg; exact hq)) ?_
    refine xb_if hf (fun hb hf => ?_) (fun _ q => nomatch q)
    obtain ⟨p15, ep15, hf⟩ := xbind hf
    refine xb_callV (As := [.int (2 : Int32), .int p14]) (v0 := none) (τ0 := p15) dX12_makeWhole_106 (xc_X12_loadNumerator _ _) xcl12 xw_2403 xw_2405 xs_145 hb rfl (Nat.le_of_ble_eq_true rfl) rfl (Nat.le_of_ble_eq_true rfl) (fun Q1 hq => m_X12_loadNumerator (d := d + 0) ep15 (fun g hg => by subst hg; exact hq)) ?_
    refine xm_aload_n dX12_makeWhole_109 rfl ?_
    refine xm_iconst dX12_makeWhole_110 (v := 3) (by decide) ?_
    refine xm_iload_n dX12_makeWhole_111 rfl ?_
    refine xm_iload_n dX12_makeWhole_112 rfl ?_
    obtain ⟨p16, ep16, hf⟩ := xbind hf
    refine xb_callS (As := [.int l1, .int l2]) (v0 := (some (.int p16))) (τ0 := p15) dX12_makeWhole_113 (xc_X12_coefficientAt _ _) xw_2655 xw_2656 rfl (Nat.le_of_ble_eq_true rfl) rfl (Nat.le_of_ble_eq_true rfl) (fun Q1 hq => m_X12_coefficientAt (d := d + 2) ep16 (fun g hg => by subst hg; exact hq)) ?_
    refine xb_if hf (fun hb hf => ?_) (fun _ q => nomatch q)
    obtain ⟨p17, ep17, hf⟩ := xbind hf
    refine xb_callV (As := [.int (3 : Int32), .int p16]) (v0 := none) (τ0 := p17) dX12_makeWhole_116 (xc_X12_loadDenominator _ _) xcl12 xw_2411 xw_2413 xs_147 hb rfl (Nat.le_of_ble_eq_true rfl) rfl (Nat.le_of_ble_eq_true rfl) (fun Q1 hq => m_X12_loadDenominator (d := d + 0) ep17 (fun g hg => by subst hg; exact hq)) ?_
    refine xm_aload_n dX12_makeWhole_119 rfl ?_
    refine xm_bipush dX12_makeWhole_120 (v := 14) (by decide) ?_
    refine xm_bipush dX12_makeWhole_122 (v := 15) (by decide) ?_
    refine xm_bipush dX12_makeWhole_124 (v := 8) (by decide) ?_
    refine xm_iconst dX12_makeWhole_126 (v := 3) (by decide) ?_
    refine xb_if hf (fun hb hf => ?_) (fun _ q => nomatch q)
    obtain ⟨p18, ep18, hf⟩ := xbind hf
    refine xb_callV (As := [.int (14 : Int32), .int (15 : Int32), .int (8 : Int32), .int (3 : Int32)]) (v0 := none) (τ0 := p18) dX12_makeWhole_127 (xc_X12_divide _ _) xcl12 xw_2464 xw_2466 xs_160 hb rfl (Nat.le_of_ble_eq_true rfl) rfl (Nat.le_of_ble_eq_true rfl) (fun Q1 hq => m_X12_divide (d := d + 0) ep18 (fun g hg => by subst hg; exact hq)) ?_
    refine xm_aload_n dX12_makeWhole_130 rfl ?_
    refine xm_bipush dX12_makeWhole_131 (v := 10) (by decide) ?_
    refine xm_iconst dX12_makeWhole_133 (v := 2) (by decide) ?_
    refine xm_bipush dX12_makeWhole_134 (v := 14) (by decide) ?_
    refine xb_if hf (fun hb hf => ?_) (fun _ q => nomatch q)
    obtain ⟨p19, ep19, hf⟩ := xbind hf
    refine xb_callV (As := [.int (10 : Int32), .int (2 : Int32), .int (14 : Int32)]) (v0 := none) (τ0 := p19) dX12_makeWhole_136 (xc_X12_times _ _) xcl12 xw_2415 xw_2417 xs_148 hb rfl (Nat.le_of_ble_eq_true rfl) rfl (Nat.le_of_ble_eq_true rfl) (fun Q1 hq => m_X12_times (d := d + 1) ep19 (fun g hg => by subst hg; exact hq)) ?_
    refine xm_aload_n dX12_makeWhole_139 rfl ?_
    refine xm_iconst dX12_makeWhole_140 (v := 0) (by decide) ?_
    refine xm_iload_n dX12_makeWhole_141 rfl ?_
    refine xm_iadd dX12_makeWhole_142 ?_
    refine xm_bipush dX12_makeWhole_143 (v := 10) (by decide) ?_
    refine xm_aload_n dX12_makeWhole_145 rfl ?_
    refine xm_iload_n dX12_makeWhole_146 rfl ?_
    refine xm_iload_n dX12_makeWhole_147 rfl ?_
    obtain ⟨p20, ep20, hf⟩ := xbind hf
    refine xb_callS (As := [.int l1, .int l2]) (v0 := (some (.int p20))) (τ0 := p19) dX12_makeWhole_148 (xc_X12_coefficientAt _ _) xw_2655 xw_2656 rfl (Nat.le_of_ble_eq_true rfl) rfl (Nat.le_of_ble_eq_true rfl) (fun Q1 hq => m_X12_coefficientAt (d := d + 2) ep20 (fun g hg => by subst hg; exact hq)) ?_
    refine xb_if hf (fun hb hf => ?_) (fun _ q => nomatch q)
    obtain ⟨p21, ep21, hf⟩ := xbind hf
    refine xb_callV (As := [.int p20]) (v0 := (some (.int p21))) (τ0 := p19) dX12_makeWhole_151 (xc_X12_sign _ _) xcl12 xw_2387 xw_2389 xs_141 hb rfl (Nat.le_of_ble_eq_true rfl) rfl (Nat.le_of_ble_eq_true rfl) (fun Q1 hq => m_X12_sign (d := d + 2) ep21 (fun g hg => by subst hg; exact hq)) ?_
    refine xb_if hf (fun hb hf => ?_) (fun _ q => nomatch q)
    obtain ⟨p22, ep22, hf⟩ := xbind hf
    refine xb_callV (As := [.int ((0 : Int32) + l2), .int (10 : Int32), .int p21]) (v0 := none) (τ0 := p22) dX12_makeWhole_154 (xc_X12_keepWhole _ _) xcl12 xw_2698 xw_2700 xs_205 hb rfl (Nat.le_of_ble_eq_true rfl) rfl (Nat.le_of_ble_eq_true rfl) (fun Q1 hq => m_X12_keepWhole (d := d + 2) ep22 (fun g hg => by subst hg; exact hq)) ?_
    refine xb_iinc dX12_makeWhole_157 rfl (by decide) (by decide) hf (fun v23 ev23 hf => xm_stL (L' := [(2, .int v23), (0, .ref l0), (1, .int l1)]) rfl ?_)
    refine xm_goto 93 dX12_makeWhole_160 (by decide) ?_
    cases hf
    exact xm_sub [1, 2, 0] rfl (hC _ rfl)
theorem L_X12_makeWhole_l93 {G : xG} {π : Nat → Nat} {d C Z : Nat} {Q : xQ} {s0 : (Nat × Int32 × Int32 × xM)} {x : (xM ⊕ (xM))} (h1 : xloop (f_X12_makeWhole_s93) xF s0 = some x) (hR : ∀ g, x = Sum.inl g → Q (.inl none) (g) π) (hE : ∀ e : (xM), x = Sum.inr e → xMach G π J_X12_makeWhole (d + 3) C Z 163 [] [] e Q) : xMach G π J_X12_makeWhole (d + 3) C Z 93 [(0, .ref s0.1), (1, .int s0.2.1), (2, .int s0.2.2.1)] [] s0.2.2.2 Q := by
  refine xloop_run (M := (fun s : (Nat × Int32 × Int32 × xM) => xMach G π J_X12_makeWhole (d + 3) C Z 93 [(0, .ref s.1), (1, .int s.2.1), (2, .int s.2.2.1)] [] s.2.2.2 Q)) (r := x) ?_ xF _ h1
  intro s y hs hx
  exact L_X12_makeWhole_s93 s.2.2.2 s.1 s.2.1 s.2.2.1 (x := y) hs (fun g hg => by subst hg; exact hR g hx) (fun e he => by subst he; exact hE e hx) (fun e he => by subst he; exact hx)
def f_X12_makeWhole_j163 (σ : xM)  : Option xM :=
  some σ
set_option maxHeartbeats 4000000 in
set_option maxRecDepth 20000 in
theorem L_X12_makeWhole_j163 {G : xG} {π : Nat → Nat} {d C Z : Nat} {Q : xQ} (σ : xM)  {x : xM} (hf : f_X12_makeWhole_j163 σ = some x) (hR : ∀ g, x = g → Q (.inl none) (g) π) : xMach G π J_X12_makeWhole (d + 3) C Z 163 [] [] σ Q := by
  unfold f_X12_makeWhole_j163 at hf
  cases hf
  exact xm_vret dX12_makeWhole_163 rfl (hR _ rfl)
def f_X12_makeWhole_j91 (σ : xM) (l0 : Nat) (l1 : Int32) : Option xM :=
  xlet (0 : Int32) (fun v13 => (xloop (f_X12_makeWhole_s93 ) xF (l0, l1, v13, σ)).bind (Sum.elim (fun g => some g) (fun e => f_X12_makeWhole_j163 e)))
set_option maxHeartbeats 4000000 in
set_option maxRecDepth 20000 in
theorem L_X12_makeWhole_j91 {G : xG} {π : Nat → Nat} {d C Z : Nat} {Q : xQ} (σ : xM) (l0 : Nat) (l1 : Int32) {x : xM} (hf : f_X12_makeWhole_j91 σ l0 l1 = some x) (hR : ∀ g, x = g → Q (.inl none) (g) π) : xMach G π J_X12_makeWhole (d + 3) C Z 91 [(0, .ref l0), (1, .int l1)] [] σ Q := by
  unfold f_X12_makeWhole_j91 at hf
  refine xm_iconst dX12_makeWhole_91 (v := 0) (by decide) ?_
  refine xb_topi hf (fun v13 ev13 hf => ?_)
  refine xm_istore_n dX12_makeWhole_92 (by decide) (xm_stL (L' := [(2, .int v13), (0, .ref l0), (1, .int l1)]) rfl ?_)
  obtain ⟨o, h1, hf⟩ := xbind hf
  refine xm_sub [1, 2, 0] rfl (L_X12_makeWhole_l93  h1 (fun g hg => ?_) (fun e he => ?_))
  · subst hg
    cases hf
    exact hR _ rfl
  · subst he
    rw [Sum.elim_inr] at hf
    have hf : f_X12_makeWhole_j163 e = some _ := hf
    exact xm_sub [] rfl (L_X12_makeWhole_j163 e hf hR)
def f_X12_makeWhole (σ : xM) (l0 : Nat) (l1 : Int32) : Option xM :=
  (if xk σ l0 12 = true then (f_X12_put σ l0 (8 : Int32) (1 : Int32)).bind (fun p1 => xlet (0 : Int32) (fun v2 => (xloop (f_X12_makeWhole_s9 ) xF (l0, l1, v2, p1)).bind (Sum.elim (fun g => some g) (fun e => f_X12_makeWhole_j91 e.2.2 e.1 e.2.1)))) else none)
set_option maxHeartbeats 4000000 in
set_option maxRecDepth 20000 in
theorem m_X12_makeWhole {G : xG} {π : Nat → Nat} {d C Z : Nat} {Q : xQ} {σ : xM} {l0 : Nat} {l1 : Int32} {x : xM} (hf : f_X12_makeWhole σ l0 l1 = some x) (hR : ∀ g, x = g → Q (.inl none) (g) π) : xMach G π J_X12_makeWhole (d + 3) C Z 0 (lv_args 0 [.ref l0, .int l1]) [] σ Q := by
  unfold f_X12_makeWhole at hf
  refine xm_stL (L' := [(0, .ref l0), (1, .int l1)]) rfl ?_
  refine xm_aload_n dX12_makeWhole_0 rfl ?_
  refine xm_bipush dX12_makeWhole_1 (v := 8) (by decide) ?_
  refine xm_iconst dX12_makeWhole_3 (v := 1) (by decide) ?_
  refine xb_if hf (fun hb hf => ?_) (fun _ q => nomatch q)
  obtain ⟨p1, ep1, hf⟩ := xbind hf
  refine xb_callV (As := [.int (8 : Int32), .int (1 : Int32)]) (v0 := none) (τ0 := p1) dX12_makeWhole_4 (xc_X12_put _ _) xcl12 xw_1824 xw_1826 xs_85 hb rfl (Nat.le_of_ble_eq_true rfl) rfl (Nat.le_of_ble_eq_true rfl) (fun Q1 hq => m_X12_put (d := d + 1) ep1 (fun g hg => by subst hg; exact hq)) ?_
  refine xm_iconst dX12_makeWhole_7 (v := 0) (by decide) ?_
  refine xb_topi hf (fun v2 ev2 hf => ?_)
  refine xm_istore_n dX12_makeWhole_8 (by decide) (xm_stL (L' := [(2, .int v2), (0, .ref l0), (1, .int l1)]) rfl ?_)
  obtain ⟨o, h1, hf⟩ := xbind hf
  refine xm_sub [1, 2, 0] rfl (L_X12_makeWhole_l9  h1 (fun g hg => ?_) (fun e he => ?_))
  · subst hg
    cases hf
    exact hR _ rfl
  · subst he
    rw [Sum.elim_inr] at hf
    have hf : f_X12_makeWhole_j91 e.2.2 e.1 e.2.1 = some _ := hf
    exact xm_sub [0, 1] rfl (L_X12_makeWhole_j91 e.2.2 e.1 e.2.1 hf hR)
-- RankwiseModel.raiseWhole()V
def f_X12_raiseWhole_j90 (σ : xM) (l0 : Nat) (l1 : Int32) (l2 : Int32) (l3 : Int32) : Option (xM ⊕ ((Nat × Int32 × Int32 × xM) ⊕ (Nat × Int32 × Int32 × Int32 × xM))) :=
  xlet (l3 + (1 : Int32)) (fun v10 => some (Sum.inr (Sum.inr (l0, l1, l2, v10, σ))))
set_option maxHeartbeats 4000000 in
set_option maxRecDepth 20000 in
theorem L_X12_raiseWhole_j90 {G : xG} {π : Nat → Nat} {d C Z : Nat} {Q : xQ} (σ : xM) (l0 : Nat) (l1 : Int32) (l2 : Int32) (l3 : Int32) {x : (xM ⊕ ((Nat × Int32 × Int32 × xM) ⊕ (Nat × Int32 × Int32 × Int32 × xM)))} (hf : f_X12_raiseWhole_j90 σ l0 l1 l2 l3 = some x) (hR : ∀ g, x = Sum.inl (g) → Q (.inl none) (g) π) (hE : ∀ e : (Nat × Int32 × Int32 × xM), x = Sum.inr (Sum.inl e) → xMach G π J_X12_raiseWhole (d + 3) C Z 96 [(0, .ref e.1), (1, .int e.2.1), (2, .int e.2.2.1)] [] e.2.2.2 Q) (hC : ∀ e : (Nat × Int32 × Int32 × Int32 × xM), x = Sum.inr (Sum.inr e) → xMach G π J_X12_raiseWhole (d + 3) C Z 19 [(0, .ref e.1), (1, .int e.2.1), (2, .int e.2.2.1), (3, .int e.2.2.2.1)] [] e.2.2.2.2 Q) : xMach G π J_X12_raiseWhole (d + 3) C Z 90 [(0, .ref l0), (1, .int l1), (2, .int l2), (3, .int l3)] [] σ Q := by
  unfold f_X12_raiseWhole_j90 at hf
  refine xb_iinc dX12_raiseWhole_90 rfl (by decide) (by decide) hf (fun v10 ev10 hf => xm_stL (L' := [(3, .int v10), (0, .ref l0), (1, .int l1), (2, .int l2)]) rfl ?_)
  refine xm_goto 19 dX12_raiseWhole_93 (by decide) ?_
  cases hf
  exact xm_sub [1, 2, 3, 0] rfl (hC _ rfl)
def f_X12_raiseWhole_s19 (s : (Nat × Int32 × Int32 × Int32 × xM)) : Option (xM ⊕ ((Nat × Int32 × Int32 × xM) ⊕ (Nat × Int32 × Int32 × Int32 × xM))) :=
  xlet s.1 (fun l0 => xlet s.2.1 (fun l1 => xlet s.2.2.1 (fun l2 => xlet s.2.2.2.1 (fun l3 => xlet s.2.2.2.2 (fun σ => (if l1 < l3 then some (Sum.inr (Sum.inl (l0, l1, l2, σ))) else (gR σ l0 12 72).bind (fun x5 => (aI σ x5 14 ((9 : Int32) + l3)).bind (fun x6 => (gR σ l0 12 72).bind (fun x7 => (aI σ x7 14 (((0 : Int32) + l1) - l3)).bind (fun x8 => xlet (x6 * x8) (fun v9 => (if v9 = (0 : Int32) then f_X12_raiseWhole_j90 σ l0 l1 l2 l3 else (if xk σ l0 12 = true then (f_X12_loadWhole σ l0 (2 : Int32) ((9 : Int32) + l3)).bind (fun p11 => (if xk p11 l0 12 = true then (f_X12_loadWhole p11 l0 (3 : Int32) (((0 : Int32) + l1) - l3)).bind (fun p12 => (if xk p12 l0 12 = true then (f_X12_times p12 l0 (7 : Int32) (2 : Int32) (3 : Int32)).bind (fun p13 => (if xk p13 l0 12 = true then (f_X12_signed p13 l0 (6 : Int32) l2 (7 : Int32) v9).bind (fun p14 => f_X12_raiseWhole_j90 p14.2 l0 l1 p14.1 l3) else none)) else none)) else none)) else none)))))))))))))
set_option maxHeartbeats 4000000 in
set_option maxRecDepth 20000 in
theorem L_X12_raiseWhole_s19 {G : xG} {π : Nat → Nat} {d C Z : Nat} {Q : xQ} (σ : xM) (l0 : Nat) (l1 : Int32) (l2 : Int32) (l3 : Int32) {x : (xM ⊕ ((Nat × Int32 × Int32 × xM) ⊕ (Nat × Int32 × Int32 × Int32 × xM)))} (hf : f_X12_raiseWhole_s19 (l0, l1, l2, l3, σ) = some x) (hR : ∀ g, x = Sum.inl (g) → Q (.inl none) (g) π) (hE : ∀ e : (Nat × Int32 × Int32 × xM), x = Sum.inr (Sum.inl e) → xMach G π J_X12_raiseWhole (d + 3) C Z 96 [(0, .ref e.1), (1, .int e.2.1), (2, .int e.2.2.1)] [] e.2.2.2 Q) (hC : ∀ e : (Nat × Int32 × Int32 × Int32 × xM), x = Sum.inr (Sum.inr e) → xMach G π J_X12_raiseWhole (d + 3) C Z 19 [(0, .ref e.1), (1, .int e.2.1), (2, .int e.2.2.1), (3, .int e.2.2.2.1)] [] e.2.2.2.2 Q) : xMach G π J_X12_raiseWhole (d + 3) C Z 19 [(0, .ref l0), (1, .int l1), (2, .int l2), (3, .int l3)] [] σ Q := by
  have hf : (if l1 < l3 then some (Sum.inr (Sum.inl (l0, l1, l2, σ))) else (gR σ l0 12 72).bind (fun x5 => (aI σ x5 14 ((9 : Int32) + l3)).bind (fun x6 => (gR σ l0 12 72).bind (fun x7 => (aI σ x7 14 (((0 : Int32) + l1) - l3)).bind (fun x8 => xlet (x6 * x8) (fun v9 => (if v9 = (0 : Int32) then f_X12_raiseWhole_j90 σ l0 l1 l2 l3 else (if xk σ l0 12 = true then (f_X12_loadWhole σ l0 (2 : Int32) ((9 : Int32) + l3)).bind (fun p11 => (if xk p11 l0 12 = true then (f_X12_loadWhole p11 l0 (3 : Int32) (((0 : Int32) + l1) - l3)).bind (fun p12 => (if xk p12 l0 12 = true then (f_X12_times p12 l0 (7 : Int32) (2 : Int32) (3 : Int32)).bind (fun p13 => (if xk p13 l0 12 = true then (f_X12_signed p13 l0 (6 : Int32) l2 (7 : Int32) v9).bind (fun p14 => f_X12_raiseWhole_j90 p14.2 l0 l1 p14.1 l3) else none)) else none)) else none)) else none)))))))) = some x := hf
  refine xm_iload_n dX12_raiseWhole_19 rfl ?_
  refine xm_iload_n dX12_raiseWhole_20 rfl ?_
  refine xb_icmp_gt 96 dX12_raiseWhole_21 (by decide) hf (fun c hf => ?_) (fun c hf => ?_)
  · cases hf
    exact xm_sub [0, 1, 2] rfl (hE _ rfl)
  · refine xm_aload_n dX12_raiseWhole_24 rfl ?_
    refine xb_getR (a := l0) (c := 12) (k := 72) dX12_raiseWhole_25 xcl12 (by decide) xw_1909 rfl hf (fun x5 ex5 hf => ?_)
    refine xm_bipush dX12_raiseWhole_28 (v := 9) (by decide) ?_
    refine xm_iload_n dX12_raiseWhole_30 rfl ?_
    refine xm_iadd dX12_raiseWhole_31 ?_
    refine xb_iald dX12_raiseWhole_32 hf (fun x6 ex6 hf => ?_)
    refine xm_aload_n dX12_raiseWhole_33 rfl ?_
    refine xb_getR (a := l0) (c := 12) (k := 72) dX12_raiseWhole_34 xcl12 (by decide) xw_1909 rfl hf (fun x7 ex7 hf => ?_)
    refine xm_iconst dX12_raiseWhole_37 (v := 0) (by decide) ?_
    refine xm_iload_n dX12_raiseWhole_38 rfl ?_
    refine xm_iadd dX12_raiseWhole_39 ?_
    refine xm_iload_n dX12_raiseWhole_40 rfl ?_
    refine xm_isub dX12_raiseWhole_41 ?_
    refine xb_iald dX12_raiseWhole_42 hf (fun x8 ex8 hf => ?_)
    refine xm_imul dX12_raiseWhole_43 ?_
    refine xb_topi hf (fun v9 ev9 hf => ?_)
    refine xm_istore dX12_raiseWhole_44 (by decide) (xm_stL (L' := [(4, .int v9), (0, .ref l0), (1, .int l1), (2, .int l2), (3, .int l3)]) rfl ?_)
    refine xm_iload dX12_raiseWhole_46 rfl ?_
    refine xb_if_eq 90 dX12_raiseWhole_48 (by decide) hf (fun c hf => ?_) (fun c hf => ?_)
    · exact xm_sub [1, 2, 3, 4] rfl (L_X12_raiseWhole_j90 σ l0 l1 l2 l3 hf hR hE hC)
    · refine xm_aload_n dX12_raiseWhole_51 rfl ?_
      refine xm_iconst dX12_raiseWhole_52 (v := 2) (by decide) ?_
      refine xm_bipush dX12_raiseWhole_53 (v := 9) (by decide) ?_
      refine xm_iload_n dX12_raiseWhole_55 rfl ?_
      refine xm_iadd dX12_raiseWhole_56 ?_
      refine xb_if hf (fun hb hf => ?_) (fun _ q => nomatch q)
      obtain ⟨p11, ep11, hf⟩ := xbind hf
      refine xb_callV (As := [.int (2 : Int32), .int ((9 : Int32) + l3)]) (v0 := none) (τ0 := p11) dX12_raiseWhole_57 (xc_X12_loadWhole _ _) xcl12 xw_2706 xw_2708 xs_207 hb rfl (Nat.le_of_ble_eq_true rfl) rfl (Nat.le_of_ble_eq_true rfl) (fun Q1 hq => m_X12_loadWhole (d := d + 2) ep11 (fun g hg => by subst hg; exact hq)) ?_
      refine xm_aload_n dX12_raiseWhole_60 rfl ?_
      refine xm_iconst dX12_raiseWhole_61 (v := 3) (by decide) ?_
      refine xm_iconst dX12_raiseWhole_62 (v := 0) (by decide) ?_
      refine xm_iload_n dX12_raiseWhole_63 rfl ?_
      refine xm_iadd dX12_raiseWhole_64 ?_
      refine xm_iload_n dX12_raiseWhole_65 rfl ?_
      refine xm_isub dX12_raiseWhole_66 ?_
      refine xb_if hf (fun hb hf => ?_) (fun _ q => nomatch q)
      obtain ⟨p12, ep12, hf⟩ := xbind hf
      refine xb_callV (As := [.int (3 : Int32), .int (((0 : Int32) + l1) - l3)]) (v0 := none) (τ0 := p12) dX12_raiseWhole_67 (xc_X12_loadWhole _ _) xcl12 xw_2706 xw_2708 xs_207 hb rfl (Nat.le_of_ble_eq_true rfl) rfl (Nat.le_of_ble_eq_true rfl) (fun Q1 hq => m_X12_loadWhole (d := d + 2) ep12 (fun g hg => by subst hg; exact hq)) ?_
      refine xm_aload_n dX12_raiseWhole_70 rfl ?_
      refine xm_bipush dX12_raiseWhole_71 (v := 7) (by decide) ?_
      refine xm_iconst dX12_raiseWhole_73 (v := 2) (by decide) ?_
      refine xm_iconst dX12_raiseWhole_74 (v := 3) (by decide) ?_
      refine xb_if hf (fun hb hf => ?_) (fun _ q => nomatch q)
      obtain ⟨p13, ep13, hf⟩ := xbind hf
      refine xb_callV (As := [.int (7 : Int32), .int (2 : Int32), .int (3 : Int32)]) (v0 := none) (τ0 := p13) dX12_raiseWhole_75 (xc_X12_times _ _) xcl12 xw_2415 xw_2417 xs_148 hb rfl (Nat.le_of_ble_eq_true rfl) rfl (Nat.le_of_ble_eq_true rfl) (fun Q1 hq => m_X12_times (d := d + 1) ep13 (fun g hg => by subst hg; exact hq)) ?_
      refine xm_aload_n dX12_raiseWhole_78 rfl ?_
      refine xm_bipush dX12_raiseWhole_79 (v := 6) (by decide) ?_
      refine xm_iload_n dX12_raiseWhole_81 rfl ?_
      refine xm_bipush dX12_raiseWhole_82 (v := 7) (by decide) ?_
      refine xm_iload dX12_raiseWhole_84 rfl ?_
      refine xb_if hf (fun hb hf => ?_) (fun _ q => nomatch q)
      obtain ⟨p14, ep14, hf⟩ := xbind hf
      refine xb_callV (As := [.int (6 : Int32), .int l2, .int (7 : Int32), .int v9]) (v0 := (some (.int p14.1))) (τ0 := p14.2) dX12_raiseWhole_86 (xc_X12_signed _ _) xcl12 xw_2420 xw_2422 xs_149 hb rfl (Nat.le_of_ble_eq_true rfl) rfl (Nat.le_of_ble_eq_true rfl) (fun Q1 hq => m_X12_signed (d := d + 0) ep14 (fun g hg => by subst hg; exact hq)) ?_
      refine xm_istore_n dX12_raiseWhole_89 (by decide) (xm_stL (L' := [(2, .int p14.1), (4, .int v9), (0, .ref l0), (1, .int l1), (3, .int l3)]) rfl ?_)
      exact xm_sub [2, 3, 0, 4] rfl (L_X12_raiseWhole_j90 p14.2 l0 l1 p14.1 l3 hf hR hE hC)
theorem L_X12_raiseWhole_l19 {G : xG} {π : Nat → Nat} {d C Z : Nat} {Q : xQ} {s0 : (Nat × Int32 × Int32 × Int32 × xM)} {x : (xM ⊕ (Nat × Int32 × Int32 × xM))} (h1 : xloop (f_X12_raiseWhole_s19) xF s0 = some x) (hR : ∀ g, x = Sum.inl g → Q (.inl none) (g) π) (hE : ∀ e : (Nat × Int32 × Int32 × xM), x = Sum.inr e → xMach G π J_X12_raiseWhole (d + 3) C Z 96 [(0, .ref e.1), (1, .int e.2.1), (2, .int e.2.2.1)] [] e.2.2.2 Q) : xMach G π J_X12_raiseWhole (d + 3) C Z 19 [(0, .ref s0.1), (1, .int s0.2.1), (2, .int s0.2.2.1), (3, .int s0.2.2.2.1)] [] s0.2.2.2.2 Q := by
  refine xloop_run (M := (fun s : (Nat × Int32 × Int32 × Int32 × xM) => xMach G π J_X12_raiseWhole (d + 3) C Z 19 [(0, .ref s.1), (1, .int s.2.1), (2, .int s.2.2.1), (3, .int s.2.2.2.1)] [] s.2.2.2.2 Q)) (r := x) ?_ xF _ h1
  intro s y hs hx
  exact L_X12_raiseWhole_s19 s.2.2.2.2 s.1 s.2.1 s.2.2.1 s.2.2.2.1 (x := y) hs (fun g hg => by subst hg; exact hR g hx) (fun e he => by subst he; exact hE e hx) (fun e he => by subst he; exact hx)
def f_X12_raiseWhole_j96 (σ : xM) (l0 : Nat) (l1 : Int32) (l2 : Int32) : Option (xM ⊕ ((Nat × xM) ⊕ (Nat × Int32 × xM))) :=
  (if xk σ l0 12 = true then (f_X12_keepWhole σ l0 ((18 : Int32) + l1) (6 : Int32) l2).bind (fun p15 => xlet (l1 + (1 : Int32)) (fun v16 => some (Sum.inr (Sum.inr (l0, v16, p15))))) else none)
set_option maxHeartbeats 4000000 in
set_option maxRecDepth 20000 in
theorem L_X12_raiseWhole_j96 {G : xG} {π : Nat → Nat} {d C Z : Nat} {Q : xQ} (σ : xM) (l0 : Nat) (l1 : Int32) (l2 : Int32) {x : (xM ⊕ ((Nat × xM) ⊕ (Nat × Int32 × xM)))} (hf : f_X12_raiseWhole_j96 σ l0 l1 l2 = some x) (hR : ∀ g, x = Sum.inl (g) → Q (.inl none) (g) π) (hE : ∀ e : (Nat × xM), x = Sum.inr (Sum.inl e) → xMach G π J_X12_raiseWhole (d + 3) C Z 113 [(0, .ref e.1)] [] e.2 Q) (hC : ∀ e : (Nat × Int32 × xM), x = Sum.inr (Sum.inr e) → xMach G π J_X12_raiseWhole (d + 3) C Z 2 [(0, .ref e.1), (1, .int e.2.1)] [] e.2.2 Q) : xMach G π J_X12_raiseWhole (d + 3) C Z 96 [(0, .ref l0), (1, .int l1), (2, .int l2)] [] σ Q := by
  unfold f_X12_raiseWhole_j96 at hf
  refine xm_aload_n dX12_raiseWhole_96 rfl ?_
  refine xm_bipush dX12_raiseWhole_97 (v := 18) (by decide) ?_
  refine xm_iload_n dX12_raiseWhole_99 rfl ?_
  refine xm_iadd dX12_raiseWhole_100 ?_
  refine xm_bipush dX12_raiseWhole_101 (v := 6) (by decide) ?_
  refine xm_iload_n dX12_raiseWhole_103 rfl ?_
  refine xb_if hf (fun hb hf => ?_) (fun _ q => nomatch q)
  obtain ⟨p15, ep15, hf⟩ := xbind hf
  refine xb_callV (As := [.int ((18 : Int32) + l1), .int (6 : Int32), .int l2]) (v0 := none) (τ0 := p15) dX12_raiseWhole_104 (xc_X12_keepWhole _ _) xcl12 xw_2698 xw_2700 xs_205 hb rfl (Nat.le_of_ble_eq_true rfl) rfl (Nat.le_of_ble_eq_true rfl) (fun Q1 hq => m_X12_keepWhole (d := d + 2) ep15 (fun g hg => by subst hg; exact hq)) ?_
  refine xb_iinc dX12_raiseWhole_107 rfl (by decide) (by decide) hf (fun v16 ev16 hf => xm_stL (L' := [(1, .int v16), (0, .ref l0), (2, .int l2)]) rfl ?_)
  refine xm_goto 2 dX12_raiseWhole_110 (by decide) ?_
  cases hf
  exact xm_sub [1, 0] rfl (hC _ rfl)
def f_X12_raiseWhole_s2 (s : (Nat × Int32 × xM)) : Option (xM ⊕ ((Nat × xM) ⊕ (Nat × Int32 × xM))) :=
  xlet s.1 (fun l0 => xlet s.2.1 (fun l1 => xlet s.2.2 (fun σ => (if (9 : Int32) ≤ l1 then some (Sum.inr (Sum.inl (l0, σ))) else (if xk σ l0 12 = true then (f_X12_put σ l0 (6 : Int32) (0 : Int32)).bind (fun p2 => xlet (0 : Int32) (fun v3 => xlet (0 : Int32) (fun v4 => (xloop (f_X12_raiseWhole_s19 ) xF (l0, l1, v3, v4, p2)).bind (Sum.elim (fun g => some (Sum.inl g)) (fun e => f_X12_raiseWhole_j96 e.2.2.2 e.1 e.2.1 e.2.2.1))))) else none)))))
set_option maxHeartbeats 4000000 in
set_option maxRecDepth 20000 in
theorem L_X12_raiseWhole_s2 {G : xG} {π : Nat → Nat} {d C Z : Nat} {Q : xQ} (σ : xM) (l0 : Nat) (l1 : Int32) {x : (xM ⊕ ((Nat × xM) ⊕ (Nat × Int32 × xM)))} (hf : f_X12_raiseWhole_s2 (l0, l1, σ) = some x) (hR : ∀ g, x = Sum.inl (g) → Q (.inl none) (g) π) (hE : ∀ e : (Nat × xM), x = Sum.inr (Sum.inl e) → xMach G π J_X12_raiseWhole (d + 3) C Z 113 [(0, .ref e.1)] [] e.2 Q) (hC : ∀ e : (Nat × Int32 × xM), x = Sum.inr (Sum.inr e) → xMach G π J_X12_raiseWhole (d + 3) C Z 2 [(0, .ref e.1), (1, .int e.2.1)] [] e.2.2 Q) : xMach G π J_X12_raiseWhole (d + 3) C Z 2 [(0, .ref l0), (1, .int l1)] [] σ Q := by
  have hf : (if (9 : Int32) ≤ l1 then some (Sum.inr (Sum.inl (l0, σ))) else (if xk σ l0 12 = true then (f_X12_put σ l0 (6 : Int32) (0 : Int32)).bind (fun p2 => xlet (0 : Int32) (fun v3 => xlet (0 : Int32) (fun v4 => (xloop (f_X12_raiseWhole_s19 ) xF (l0, l1, v3, v4, p2)).bind (Sum.elim (fun g => some (Sum.inl g)) (fun e => f_X12_raiseWhole_j96 e.2.2.2 e.1 e.2.1 e.2.2.1))))) else none)) = some x := hf
  refine xm_iload_n dX12_raiseWhole_2 rfl ?_
  refine xm_bipush dX12_raiseWhole_3 (v := 9) (by decide) ?_
  refine xb_icmp_ge 113 dX12_raiseWhole_5 (by decide) hf (fun c hf => ?_) (fun c hf => ?_)
  · cases hf
    exact xm_sub [0] rfl (hE _ rfl)
  · refine xm_aload_n dX12_raiseWhole_8 rfl ?_
    refine xm_bipush dX12_raiseWhole_9 (v := 6) (by decide) ?_
    refine xm_iconst dX12_raiseWhole_11 (v := 0) (by decide) ?_
    refine xb_if hf (fun hb hf => ?_) (fun _ q => nomatch q)
    obtain ⟨p2, ep2, hf⟩ := xbind hf
    refine xb_callV (As := [.int (6 : Int32), .int (0 : Int32)]) (v0 := none) (τ0 := p2) dX12_raiseWhole_12 (xc_X12_put _ _) xcl12 xw_1824 xw_1826 xs_85 hb rfl (Nat.le_of_ble_eq_true rfl) rfl (Nat.le_of_ble_eq_true rfl) (fun Q1 hq => m_X12_put (d := d + 1) ep2 (fun g hg => by subst hg; exact hq)) ?_
    refine xm_iconst dX12_raiseWhole_15 (v := 0) (by decide) ?_
    refine xb_topi hf (fun v3 ev3 hf => ?_)
    refine xm_istore_n dX12_raiseWhole_16 (by decide) (xm_stL (L' := [(2, .int v3), (0, .ref l0), (1, .int l1)]) rfl ?_)
    refine xm_iconst dX12_raiseWhole_17 (v := 0) (by decide) ?_
    refine xb_topi hf (fun v4 ev4 hf => ?_)
    refine xm_istore_n dX12_raiseWhole_18 (by decide) (xm_stL (L' := [(3, .int v4), (2, .int v3), (0, .ref l0), (1, .int l1)]) rfl ?_)
    obtain ⟨o, h1, hf⟩ := xbind hf
    refine xm_sub [2, 3, 1, 0] rfl (L_X12_raiseWhole_l19  h1 (fun g hg => ?_) (fun e he => ?_))
    · subst hg
      cases hf
      exact hR _ rfl
    · subst he
      rw [Sum.elim_inr] at hf
      have hf : f_X12_raiseWhole_j96 e.2.2.2 e.1 e.2.1 e.2.2.1 = some _ := hf
      exact xm_sub [0, 1, 2] rfl (L_X12_raiseWhole_j96 e.2.2.2 e.1 e.2.1 e.2.2.1 hf hR hE hC)
theorem L_X12_raiseWhole_l2 {G : xG} {π : Nat → Nat} {d C Z : Nat} {Q : xQ} {s0 : (Nat × Int32 × xM)} {x : (xM ⊕ (Nat × xM))} (h1 : xloop (f_X12_raiseWhole_s2) xF s0 = some x) (hR : ∀ g, x = Sum.inl g → Q (.inl none) (g) π) (hE : ∀ e : (Nat × xM), x = Sum.inr e → xMach G π J_X12_raiseWhole (d + 3) C Z 113 [(0, .ref e.1)] [] e.2 Q) : xMach G π J_X12_raiseWhole (d + 3) C Z 2 [(0, .ref s0.1), (1, .int s0.2.1)] [] s0.2.2 Q := by
  refine xloop_run (M := (fun s : (Nat × Int32 × xM) => xMach G π J_X12_raiseWhole (d + 3) C Z 2 [(0, .ref s.1), (1, .int s.2.1)] [] s.2.2 Q)) (r := x) ?_ xF _ h1
  intro s y hs hx
  exact L_X12_raiseWhole_s2 s.2.2 s.1 s.2.1 (x := y) hs (fun g hg => by subst hg; exact hR g hx) (fun e he => by subst he; exact hE e hx) (fun e he => by subst he; exact hx)
def f_X12_raiseWhole_s115 (s : (Nat × Int32 × xM)) : Option (xM ⊕ ((xM) ⊕ (Nat × Int32 × xM))) :=
  xlet s.1 (fun l0 => xlet s.2.1 (fun l1 => xlet s.2.2 (fun σ => (if (9 : Int32) ≤ l1 then some (Sum.inr (Sum.inl σ)) else (if xk σ l0 12 = true then (f_X12_loadWhole σ l0 (2 : Int32) ((18 : Int32) + l1)).bind (fun p18 => (gR p18 l0 12 72).bind (fun x19 => (aI p18 x19 14 ((18 : Int32) + l1)).bind (fun x20 => (if xk p18 l0 12 = true then (f_X12_keepWhole p18 l0 ((9 : Int32) + l1) (2 : Int32) x20).bind (fun p21 => xlet (l1 + (1 : Int32)) (fun v22 => some (Sum.inr (Sum.inr (l0, v22, p21))))) else none)))) else none)))))
set_option maxHeartbeats 4000000 in
set_option maxRecDepth 20000 in
theorem L_X12_raiseWhole_s115 {G : xG} {π : Nat → Nat} {d C Z : Nat} {Q : xQ} (σ : xM) (l0 : Nat) (l1 : Int32) {x : (xM ⊕ ((xM) ⊕ (Nat × Int32 × xM)))} (hf : f_X12_raiseWhole_s115 (l0, l1, σ) = some x) (hR : ∀ g, x = Sum.inl (g) → Q (.inl none) (g) π) (hE : ∀ e : (xM), x = Sum.inr (Sum.inl e) → xMach G π J_X12_raiseWhole (d + 3) C Z 154 [] [] e Q) (hC : ∀ e : (Nat × Int32 × xM), x = Sum.inr (Sum.inr e) → xMach G π J_X12_raiseWhole (d + 3) C Z 115 [(0, .ref e.1), (1, .int e.2.1)] [] e.2.2 Q) : xMach G π J_X12_raiseWhole (d + 3) C Z 115 [(0, .ref l0), (1, .int l1)] [] σ Q := by
  have hf : (if (9 : Int32) ≤ l1 then some (Sum.inr (Sum.inl σ)) else (if xk σ l0 12 = true then (f_X12_loadWhole σ l0 (2 : Int32) ((18 : Int32) + l1)).bind (fun p18 => (gR p18 l0 12 72).bind (fun x19 => (aI p18 x19 14 ((18 : Int32) + l1)).bind (fun x20 => (if xk p18 l0 12 = true then (f_X12_keepWhole p18 l0 ((9 : Int32) + l1) (2 : Int32) x20).bind (fun p21 => xlet (l1 + (1 : Int32)) (fun v22 => some (Sum.inr (Sum.inr (l0, v22, p21))))) else none)))) else none)) = some x := hf
  refine xm_iload_n dX12_raiseWhole_115 rfl ?_
  refine xm_bipush dX12_raiseWhole_116 (v := 9) (by decide) ?_
  refine xb_icmp_ge 154 dX12_raiseWhole_118 (by decide) hf (fun c hf => ?_) (fun c hf => ?_)
  · cases hf
    exact xm_sub [] rfl (hE _ rfl)
  · refine xm_aload_n dX12_raiseWhole_121 rfl ?_
    refine xm_iconst dX12_raiseWhole_122 (v := 2) (by decide) ?_
    refine xm_bipush dX12_raiseWhole_123 (v := 18) (by decide) ?_
    refine xm_iload_n dX12_raiseWhole_125 rfl ?_
    refine xm_iadd dX12_raiseWhole_126 ?_
    refine xb_if hf (fun hb hf => ?_) (fun _ q => nomatch q)
    obtain ⟨p18, ep18, hf⟩ := xbind hf
    refine xb_callV (As := [.int (2 : Int32), .int ((18 : Int32) + l1)]) (v0 := none) (τ0 := p18) dX12_raiseWhole_127 (xc_X12_loadWhole _ _) xcl12 xw_2706 xw_2708 xs_207 hb rfl (Nat.le_of_ble_eq_true rfl) rfl (Nat.le_of_ble_eq_true rfl) (fun Q1 hq => m_X12_loadWhole (d := d + 2) ep18 (fun g hg => by subst hg; exact hq)) ?_
    refine xm_aload_n dX12_raiseWhole_130 rfl ?_
    refine xm_bipush dX12_raiseWhole_131 (v := 9) (by decide) ?_
    refine xm_iload_n dX12_raiseWhole_133 rfl ?_
    refine xm_iadd dX12_raiseWhole_134 ?_
    refine xm_iconst dX12_raiseWhole_135 (v := 2) (by decide) ?_
    refine xm_aload_n dX12_raiseWhole_136 rfl ?_
    refine xb_getR (a := l0) (c := 12) (k := 72) dX12_raiseWhole_137 xcl12 (by decide) xw_1909 rfl hf (fun x19 ex19 hf => ?_)
    refine xm_bipush dX12_raiseWhole_140 (v := 18) (by decide) ?_
    refine xm_iload_n dX12_raiseWhole_142 rfl ?_
    refine xm_iadd dX12_raiseWhole_143 ?_
    refine xb_iald dX12_raiseWhole_144 hf (fun x20 ex20 hf => ?_)
    refine xb_if hf (fun hb hf => ?_) (fun _ q => nomatch q)
    obtain ⟨p21, ep21, hf⟩ := xbind hf
    refine xb_callV (As := [.int ((9 : Int32) + l1), .int (2 : Int32), .int x20]) (v0 := none) (τ0 := p21) dX12_raiseWhole_145 (xc_X12_keepWhole _ _) xcl12 xw_2698 xw_2700 xs_205 hb rfl (Nat.le_of_ble_eq_true rfl) rfl (Nat.le_of_ble_eq_true rfl) (fun Q1 hq => m_X12_keepWhole (d := d + 2) ep21 (fun g hg => by subst hg; exact hq)) ?_
    refine xb_iinc dX12_raiseWhole_148 rfl (by decide) (by decide) hf (fun v22 ev22 hf => xm_stL (L' := [(1, .int v22), (0, .ref l0)]) rfl ?_)
    refine xm_goto 115 dX12_raiseWhole_151 (by decide) ?_
    cases hf
    exact xm_sub [1, 0] rfl (hC _ rfl)
theorem L_X12_raiseWhole_l115 {G : xG} {π : Nat → Nat} {d C Z : Nat} {Q : xQ} {s0 : (Nat × Int32 × xM)} {x : (xM ⊕ (xM))} (h1 : xloop (f_X12_raiseWhole_s115) xF s0 = some x) (hR : ∀ g, x = Sum.inl g → Q (.inl none) (g) π) (hE : ∀ e : (xM), x = Sum.inr e → xMach G π J_X12_raiseWhole (d + 3) C Z 154 [] [] e Q) : xMach G π J_X12_raiseWhole (d + 3) C Z 115 [(0, .ref s0.1), (1, .int s0.2.1)] [] s0.2.2 Q := by
  refine xloop_run (M := (fun s : (Nat × Int32 × xM) => xMach G π J_X12_raiseWhole (d + 3) C Z 115 [(0, .ref s.1), (1, .int s.2.1)] [] s.2.2 Q)) (r := x) ?_ xF _ h1
  intro s y hs hx
  exact L_X12_raiseWhole_s115 s.2.2 s.1 s.2.1 (x := y) hs (fun g hg => by subst hg; exact hR g hx) (fun e he => by subst he; exact hE e hx) (fun e he => by subst he; exact hx)
def f_X12_raiseWhole_j154 (σ : xM)  : Option xM :=
  some σ
set_option maxHeartbeats 4000000 in
set_option maxRecDepth 20000 in
theorem L_X12_raiseWhole_j154 {G : xG} {π : Nat → Nat} {d C Z : Nat} {Q : xQ} (σ : xM)  {x : xM} (hf : f_X12_raiseWhole_j154 σ = some x) (hR : ∀ g, x = g → Q (.inl none) (g) π) : xMach G π J_X12_raiseWhole (d + 3) C Z 154 [] [] σ Q := by
  unfold f_X12_raiseWhole_j154 at hf
  cases hf
  exact xm_vret dX12_raiseWhole_154 rfl (hR _ rfl)
def f_X12_raiseWhole_j113 (σ : xM) (l0 : Nat) : Option xM :=
  xlet (0 : Int32) (fun v17 => (xloop (f_X12_raiseWhole_s115 ) xF (l0, v17, σ)).bind (Sum.elim (fun g => some g) (fun e => f_X12_raiseWhole_j154 e)))
set_option maxHeartbeats 4000000 in
set_option maxRecDepth 20000 in
theorem L_X12_raiseWhole_j113 {G : xG} {π : Nat → Nat} {d C Z : Nat} {Q : xQ} (σ : xM) (l0 : Nat) {x : xM} (hf : f_X12_raiseWhole_j113 σ l0 = some x) (hR : ∀ g, x = g → Q (.inl none) (g) π) : xMach G π J_X12_raiseWhole (d + 3) C Z 113 [(0, .ref l0)] [] σ Q := by
  unfold f_X12_raiseWhole_j113 at hf
  refine xm_iconst dX12_raiseWhole_113 (v := 0) (by decide) ?_
  refine xb_topi hf (fun v17 ev17 hf => ?_)
  refine xm_istore_n dX12_raiseWhole_114 (by decide) (xm_stL (L' := [(1, .int v17), (0, .ref l0)]) rfl ?_)
  obtain ⟨o, h1, hf⟩ := xbind hf
  refine xm_sub [1, 0] rfl (L_X12_raiseWhole_l115  h1 (fun g hg => ?_) (fun e he => ?_))
  · subst hg
    cases hf
    exact hR _ rfl
  · subst he
    rw [Sum.elim_inr] at hf
    have hf : f_X12_raiseWhole_j154 e = some _ := hf
    exact xm_sub [] rfl (L_X12_raiseWhole_j154 e hf hR)
def f_X12_raiseWhole (σ : xM) (l0 : Nat) : Option xM :=
  xlet (0 : Int32) (fun v1 => (xloop (f_X12_raiseWhole_s2 ) xF (l0, v1, σ)).bind (Sum.elim (fun g => some g) (fun e => f_X12_raiseWhole_j113 e.2 e.1)))
set_option maxHeartbeats 4000000 in
set_option maxRecDepth 20000 in
theorem m_X12_raiseWhole {G : xG} {π : Nat → Nat} {d C Z : Nat} {Q : xQ} {σ : xM} {l0 : Nat} {x : xM} (hf : f_X12_raiseWhole σ l0 = some x) (hR : ∀ g, x = g → Q (.inl none) (g) π) : xMach G π J_X12_raiseWhole (d + 3) C Z 0 (lv_args 0 [.ref l0]) [] σ Q := by
  unfold f_X12_raiseWhole at hf
  refine xm_stL (L' := [(0, .ref l0)]) rfl ?_
  refine xm_iconst dX12_raiseWhole_0 (v := 0) (by decide) ?_
  refine xb_topi hf (fun v1 ev1 hf => ?_)
  refine xm_istore_n dX12_raiseWhole_1 (by decide) (xm_stL (L' := [(1, .int v1), (0, .ref l0)]) rfl ?_)
  obtain ⟨o, h1, hf⟩ := xbind hf
  refine xm_sub [1, 0] rfl (L_X12_raiseWhole_l2  h1 (fun g hg => ?_) (fun e he => ?_))
  · subst hg
    cases hf
    exact hR _ rfl
  · subst he
    rw [Sum.elim_inr] at hf
    have hf : f_X12_raiseWhole_j113 e.2 e.1 = some _ := hf
    exact xm_sub [0] rfl (L_X12_raiseWhole_j113 e.2 e.1 hf hR)
-- RankwiseModel.raisePolynomial(II)Z
def f_X12_raisePolynomial_j38 (σ : xM) (l0 : Nat) (l1 : Int32) (l2 : Int32) (l3 : Int32) (s0 : Int32) (s1 : Int32) (s2 : Nat) : Option ((Int32 × xM) ⊕ ((Nat × Int32 × Int32 × xM) ⊕ (Nat × Int32 × Int32 × Int32 × xM))) :=
  (if xk σ s2 12 = true then (f_X12_put σ s2 s1 s0).bind (fun p4 => (if xk p4 l0 12 = true then (f_X12_keepWhole p4 l0 ((9 : Int32) + l3) (2 : Int32) (1 : Int32)).bind (fun p5 => xlet (l3 + (1 : Int32)) (fun v6 => some (Sum.inr (Sum.inr (l0, l1, l2, v6, p5))))) else none)) else none)
set_option maxHeartbeats 4000000 in
set_option maxRecDepth 20000 in
theorem L_X12_raisePolynomial_j38 {G : xG} {π : Nat → Nat} {d C Z : Nat} {Q : xQ} (σ : xM) (l0 : Nat) (l1 : Int32) (l2 : Int32) (l3 : Int32) (s0 : Int32) (s1 : Int32) (s2 : Nat) {x : ((Int32 × xM) ⊕ ((Nat × Int32 × Int32 × xM) ⊕ (Nat × Int32 × Int32 × Int32 × xM)))} (hf : f_X12_raisePolynomial_j38 σ l0 l1 l2 l3 s0 s1 s2 = some x) (hR : ∀ g, x = Sum.inl (g) → Q (.inl (some (.int g.1))) (g.2) π) (hE : ∀ e : (Nat × Int32 × Int32 × xM), x = Sum.inr (Sum.inl e) → xMach G π J_X12_raisePolynomial (d + 5) C Z 57 [(0, .ref e.1), (1, .int e.2.1), (2, .int e.2.2.1)] [] e.2.2.2 Q) (hC : ∀ e : (Nat × Int32 × Int32 × Int32 × xM), x = Sum.inr (Sum.inr e) → xMach G π J_X12_raisePolynomial (d + 5) C Z 21 [(0, .ref e.1), (1, .int e.2.1), (2, .int e.2.2.1), (3, .int e.2.2.2.1)] [] e.2.2.2.2 Q) : xMach G π J_X12_raisePolynomial (d + 5) C Z 38 [(0, .ref l0), (1, .int l1), (2, .int l2), (3, .int l3)] [.int s0, .int s1, .ref s2] σ Q := by
  unfold f_X12_raisePolynomial_j38 at hf
  refine xb_if hf (fun hb hf => ?_) (fun _ q => nomatch q)
  obtain ⟨p4, ep4, hf⟩ := xbind hf
  refine xb_callV (As := [.int s1, .int s0]) (v0 := none) (τ0 := p4) dX12_raisePolynomial_38 (xc_X12_put _ _) xcl12 xw_1824 xw_1826 xs_85 hb rfl (Nat.le_of_ble_eq_true rfl) rfl (Nat.le_of_ble_eq_true rfl) (fun Q1 hq => m_X12_put (d := d + 3) ep4 (fun g hg => by subst hg; exact hq)) ?_
  refine xm_aload_n dX12_raisePolynomial_41 rfl ?_
  refine xm_bipush dX12_raisePolynomial_42 (v := 9) (by decide) ?_
  refine xm_iload_n dX12_raisePolynomial_44 rfl ?_
  refine xm_iadd dX12_raisePolynomial_45 ?_
  refine xm_iconst dX12_raisePolynomial_46 (v := 2) (by decide) ?_
  refine xm_iconst dX12_raisePolynomial_47 (v := 1) (by decide) ?_
  refine xb_if hf (fun hb hf => ?_) (fun _ q => nomatch q)
  obtain ⟨p5, ep5, hf⟩ := xbind hf
  refine xb_callV (As := [.int ((9 : Int32) + l3), .int (2 : Int32), .int (1 : Int32)]) (v0 := none) (τ0 := p5) dX12_raisePolynomial_48 (xc_X12_keepWhole _ _) xcl12 xw_2698 xw_2700 xs_205 hb rfl (Nat.le_of_ble_eq_true rfl) rfl (Nat.le_of_ble_eq_true rfl) (fun Q1 hq => m_X12_keepWhole (d := d + 4) ep5 (fun g hg => by subst hg; exact hq)) ?_
  refine xb_iinc dX12_raisePolynomial_51 rfl (by decide) (by decide) hf (fun v6 ev6 hf => xm_stL (L' := [(3, .int v6), (0, .ref l0), (1, .int l1), (2, .int l2)]) rfl ?_)
  refine xm_goto 21 dX12_raisePolynomial_54 (by decide) ?_
  cases hf
  exact xm_sub [1, 2, 3, 0] rfl (hC _ rfl)
def f_X12_raisePolynomial_s21 (s : (Nat × Int32 × Int32 × Int32 × xM)) : Option ((Int32 × xM) ⊕ ((Nat × Int32 × Int32 × xM) ⊕ (Nat × Int32 × Int32 × Int32 × xM))) :=
  xlet s.1 (fun l0 => xlet s.2.1 (fun l1 => xlet s.2.2.1 (fun l2 => xlet s.2.2.2.1 (fun l3 => xlet s.2.2.2.2 (fun σ => (if (9 : Int32) ≤ l3 then some (Sum.inr (Sum.inl (l0, l1, l2, σ))) else (if l3 = (0 : Int32) then f_X12_raisePolynomial_j38 σ l0 l1 l2 l3 (1 : Int32) (2 : Int32) l0 else f_X12_raisePolynomial_j38 σ l0 l1 l2 l3 (0 : Int32) (2 : Int32) l0)))))))
set_option maxHeartbeats 4000000 in
set_option maxRecDepth 20000 in
theorem L_X12_raisePolynomial_s21 {G : xG} {π : Nat → Nat} {d C Z : Nat} {Q : xQ} (σ : xM) (l0 : Nat) (l1 : Int32) (l2 : Int32) (l3 : Int32) {x : ((Int32 × xM) ⊕ ((Nat × Int32 × Int32 × xM) ⊕ (Nat × Int32 × Int32 × Int32 × xM)))} (hf : f_X12_raisePolynomial_s21 (l0, l1, l2, l3, σ) = some x) (hR : ∀ g, x = Sum.inl (g) → Q (.inl (some (.int g.1))) (g.2) π) (hE : ∀ e : (Nat × Int32 × Int32 × xM), x = Sum.inr (Sum.inl e) → xMach G π J_X12_raisePolynomial (d + 5) C Z 57 [(0, .ref e.1), (1, .int e.2.1), (2, .int e.2.2.1)] [] e.2.2.2 Q) (hC : ∀ e : (Nat × Int32 × Int32 × Int32 × xM), x = Sum.inr (Sum.inr e) → xMach G π J_X12_raisePolynomial (d + 5) C Z 21 [(0, .ref e.1), (1, .int e.2.1), (2, .int e.2.2.1), (3, .int e.2.2.2.1)] [] e.2.2.2.2 Q) : xMach G π J_X12_raisePolynomial (d + 5) C Z 21 [(0, .ref l0), (1, .int l1), (2, .int l2), (3, .int l3)] [] σ Q := by
  have hf : (if (9 : Int32) ≤ l3 then some (Sum.inr (Sum.inl (l0, l1, l2, σ))) else (if l3 = (0 : Int32) then f_X12_raisePolynomial_j38 σ l0 l1 l2 l3 (1 : Int32) (2 : Int32) l0 else f_X12_raisePolynomial_j38 σ l0 l1 l2 l3 (0 : Int32) (2 : Int32) l0)) = some x := hf
  refine xm_iload_n dX12_raisePolynomial_21 rfl ?_
  refine xm_bipush dX12_raisePolynomial_22 (v := 9) (by decide) ?_
  refine xb_icmp_ge 57 dX12_raisePolynomial_24 (by decide) hf (fun c hf => ?_) (fun c hf => ?_)
  · cases hf
    exact xm_sub [0, 1, 2] rfl (hE _ rfl)
  · refine xm_aload_n dX12_raisePolynomial_27 rfl ?_
    refine xm_iconst dX12_raisePolynomial_28 (v := 2) (by decide) ?_
    refine xm_iload_n dX12_raisePolynomial_29 rfl ?_
    refine xb_if_ne 37 dX12_raisePolynomial_30 (by decide) hf (fun c hf => ?_) (fun c hf => ?_)
    · refine xm_iconst dX12_raisePolynomial_37 (v := 0) (by decide) ?_
      exact xm_sub [0, 1, 2, 3] rfl (L_X12_raisePolynomial_j38 σ l0 l1 l2 l3 (0 : Int32) (2 : Int32) l0 hf hR hE hC)
    · refine xm_iconst dX12_raisePolynomial_33 (v := 1) (by decide) ?_
      refine xm_goto 38 dX12_raisePolynomial_34 (by decide) ?_
      exact xm_sub [0, 1, 2, 3] rfl (L_X12_raisePolynomial_j38 σ l0 l1 l2 l3 (1 : Int32) (2 : Int32) l0 hf hR hE hC)
theorem L_X12_raisePolynomial_l21 {G : xG} {π : Nat → Nat} {d C Z : Nat} {Q : xQ} {s0 : (Nat × Int32 × Int32 × Int32 × xM)} {x : ((Int32 × xM) ⊕ (Nat × Int32 × Int32 × xM))} (h1 : xloop (f_X12_raisePolynomial_s21) xF s0 = some x) (hR : ∀ g, x = Sum.inl g → Q (.inl (some (.int g.1))) (g.2) π) (hE : ∀ e : (Nat × Int32 × Int32 × xM), x = Sum.inr e → xMach G π J_X12_raisePolynomial (d + 5) C Z 57 [(0, .ref e.1), (1, .int e.2.1), (2, .int e.2.2.1)] [] e.2.2.2 Q) : xMach G π J_X12_raisePolynomial (d + 5) C Z 21 [(0, .ref s0.1), (1, .int s0.2.1), (2, .int s0.2.2.1), (3, .int s0.2.2.2.1)] [] s0.2.2.2.2 Q := by
  refine xloop_run (M := (fun s : (Nat × Int32 × Int32 × Int32 × xM) => xMach G π J_X12_raisePolynomial (d + 5) C Z 21 [(0, .ref s.1), (1, .int s.2.1), (2, .int s.2.2.1), (3, .int s.2.2.2.1)] [] s.2.2.2.2 Q)) (r := x) ?_ xF _ h1
  intro s y hs hx
  exact L_X12_raisePolynomial_s21 s.2.2.2.2 s.1 s.2.1 s.2.2.1 s.2.2.2.1 (x := y) hs (fun g hg => by subst hg; exact hR g hx) (fun e he => by subst he; exact hE e hx) (fun e he => by subst he; exact hx)
def f_X12_raisePolynomial_s66 (s : (Nat × Int32 × Int32 × Int32 × xM)) : Option ((Int32 × xM) ⊕ ((Nat × Int32 × xM) ⊕ (Nat × Int32 × Int32 × Int32 × xM))) :=
  xlet s.1 (fun l0 => xlet s.2.1 (fun l1 => xlet s.2.2.1 (fun l2 => xlet s.2.2.2.1 (fun l3 => xlet s.2.2.2.2 (fun σ => (if l2 ≤ l3 then some (Sum.inr (Sum.inl (l0, l1, σ))) else (if xk σ l0 12 = true then (f_X12_raiseWhole σ l0).bind (fun p9 => (if xk p9 l0 12 = true then (f_X12_times p9 l0 (10 : Int32) (9 : Int32) (8 : Int32)).bind (fun p10 => (if xk p10 l0 12 = true then (f_X12_copy p10 l0 (9 : Int32) (10 : Int32)).bind (fun p11 => xlet (l3 + (1 : Int32)) (fun v12 => some (Sum.inr (Sum.inr (l0, l1, l2, v12, p11))))) else none)) else none)) else none)))))))
set_option maxHeartbeats 4000000 in
set_option maxRecDepth 20000 in
theorem L_X12_raisePolynomial_s66 {G : xG} {π : Nat → Nat} {d C Z : Nat} {Q : xQ} (σ : xM) (l0 : Nat) (l1 : Int32) (l2 : Int32) (l3 : Int32) {x : ((Int32 × xM) ⊕ ((Nat × Int32 × xM) ⊕ (Nat × Int32 × Int32 × Int32 × xM)))} (hf : f_X12_raisePolynomial_s66 (l0, l1, l2, l3, σ) = some x) (hR : ∀ g, x = Sum.inl (g) → Q (.inl (some (.int g.1))) (g.2) π) (hE : ∀ e : (Nat × Int32 × xM), x = Sum.inr (Sum.inl e) → xMach G π J_X12_raisePolynomial (d + 5) C Z 99 [(0, .ref e.1), (1, .int e.2.1)] [] e.2.2 Q) (hC : ∀ e : (Nat × Int32 × Int32 × Int32 × xM), x = Sum.inr (Sum.inr e) → xMach G π J_X12_raisePolynomial (d + 5) C Z 66 [(0, .ref e.1), (1, .int e.2.1), (2, .int e.2.2.1), (3, .int e.2.2.2.1)] [] e.2.2.2.2 Q) : xMach G π J_X12_raisePolynomial (d + 5) C Z 66 [(0, .ref l0), (1, .int l1), (2, .int l2), (3, .int l3)] [] σ Q := by
  have hf : (if l2 ≤ l3 then some (Sum.inr (Sum.inl (l0, l1, σ))) else (if xk σ l0 12 = true then (f_X12_raiseWhole σ l0).bind (fun p9 => (if xk p9 l0 12 = true then (f_X12_times p9 l0 (10 : Int32) (9 : Int32) (8 : Int32)).bind (fun p10 => (if xk p10 l0 12 = true then (f_X12_copy p10 l0 (9 : Int32) (10 : Int32)).bind (fun p11 => xlet (l3 + (1 : Int32)) (fun v12 => some (Sum.inr (Sum.inr (l0, l1, l2, v12, p11))))) else none)) else none)) else none)) = some x := hf
  refine xm_iload_n dX12_raisePolynomial_66 rfl ?_
  refine xm_iload_n dX12_raisePolynomial_67 rfl ?_
  refine xb_icmp_ge 99 dX12_raisePolynomial_68 (by decide) hf (fun c hf => ?_) (fun c hf => ?_)
  · cases hf
    exact xm_sub [0, 1] rfl (hE _ rfl)
  · refine xm_aload_n dX12_raisePolynomial_71 rfl ?_
    refine xb_if hf (fun hb hf => ?_) (fun _ q => nomatch q)
    obtain ⟨p9, ep9, hf⟩ := xbind hf
    refine xb_callV (As := []) (v0 := none) (τ0 := p9) dX12_raisePolynomial_72 (xc_X12_raiseWhole _ _) xcl12 xw_2702 xw_2704 xs_206 hb rfl (Nat.le_of_ble_eq_true rfl) rfl (Nat.le_of_ble_eq_true rfl) (fun Q1 hq => m_X12_raiseWhole (d := d + 1) ep9 (fun g hg => by subst hg; exact hq)) ?_
    refine xm_aload_n dX12_raisePolynomial_75 rfl ?_
    refine xm_bipush dX12_raisePolynomial_76 (v := 10) (by decide) ?_
    refine xm_bipush dX12_raisePolynomial_78 (v := 9) (by decide) ?_
    refine xm_bipush dX12_raisePolynomial_80 (v := 8) (by decide) ?_
    refine xb_if hf (fun hb hf => ?_) (fun _ q => nomatch q)
    obtain ⟨p10, ep10, hf⟩ := xbind hf
    refine xb_callV (As := [.int (10 : Int32), .int (9 : Int32), .int (8 : Int32)]) (v0 := none) (τ0 := p10) dX12_raisePolynomial_82 (xc_X12_times _ _) xcl12 xw_2415 xw_2417 xs_148 hb rfl (Nat.le_of_ble_eq_true rfl) rfl (Nat.le_of_ble_eq_true rfl) (fun Q1 hq => m_X12_times (d := d + 3) ep10 (fun g hg => by subst hg; exact hq)) ?_
    refine xm_aload_n dX12_raisePolynomial_85 rfl ?_
    refine xm_bipush dX12_raisePolynomial_86 (v := 9) (by decide) ?_
    refine xm_bipush dX12_raisePolynomial_88 (v := 10) (by decide) ?_
    refine xb_if hf (fun hb hf => ?_) (fun _ q => nomatch q)
    obtain ⟨p11, ep11, hf⟩ := xbind hf
    refine xb_callV (As := [.int (9 : Int32), .int (10 : Int32)]) (v0 := none) (τ0 := p11) dX12_raisePolynomial_90 (xc_X12_copy _ _) xcl12 xw_2424 xw_2426 xs_150 hb rfl (Nat.le_of_ble_eq_true rfl) rfl (Nat.le_of_ble_eq_true rfl) (fun Q1 hq => m_X12_copy (d := d + 4) ep11 (fun g hg => by subst hg; exact hq)) ?_
    refine xb_iinc dX12_raisePolynomial_93 rfl (by decide) (by decide) hf (fun v12 ev12 hf => xm_stL (L' := [(3, .int v12), (0, .ref l0), (1, .int l1), (2, .int l2)]) rfl ?_)
    refine xm_goto 66 dX12_raisePolynomial_96 (by decide) ?_
    cases hf
    exact xm_sub [1, 2, 3, 0] rfl (hC _ rfl)
theorem L_X12_raisePolynomial_l66 {G : xG} {π : Nat → Nat} {d C Z : Nat} {Q : xQ} {s0 : (Nat × Int32 × Int32 × Int32 × xM)} {x : ((Int32 × xM) ⊕ (Nat × Int32 × xM))} (h1 : xloop (f_X12_raisePolynomial_s66) xF s0 = some x) (hR : ∀ g, x = Sum.inl g → Q (.inl (some (.int g.1))) (g.2) π) (hE : ∀ e : (Nat × Int32 × xM), x = Sum.inr e → xMach G π J_X12_raisePolynomial (d + 5) C Z 99 [(0, .ref e.1), (1, .int e.2.1)] [] e.2.2 Q) : xMach G π J_X12_raisePolynomial (d + 5) C Z 66 [(0, .ref s0.1), (1, .int s0.2.1), (2, .int s0.2.2.1), (3, .int s0.2.2.2.1)] [] s0.2.2.2.2 Q := by
  refine xloop_run (M := (fun s : (Nat × Int32 × Int32 × Int32 × xM) => xMach G π J_X12_raisePolynomial (d + 5) C Z 66 [(0, .ref s.1), (1, .int s.2.1), (2, .int s.2.2.1), (3, .int s.2.2.2.1)] [] s.2.2.2.2 Q)) (r := x) ?_ xF _ h1
  intro s y hs hx
  exact L_X12_raisePolynomial_s66 s.2.2.2.2 s.1 s.2.1 s.2.2.1 s.2.2.2.1 (x := y) hs (fun g hg => by subst hg; exact hR g hx) (fun e he => by subst he; exact hE e hx) (fun e he => by subst he; exact hx)
def f_X12_raisePolynomial_s104 (s : (Nat × Int32 × Int32 × Int32 × xM)) : Option ((Int32 × xM) ⊕ ((Int32 × xM) ⊕ (Nat × Int32 × Int32 × Int32 × xM))) :=
  xlet s.1 (fun l0 => xlet s.2.1 (fun l1 => xlet s.2.2.1 (fun l3 => xlet s.2.2.2.1 (fun l4 => xlet s.2.2.2.2 (fun σ => (if (9 : Int32) ≤ l4 then some (Sum.inr (Sum.inl (l3, σ))) else (if l3 = (0 : Int32) then some (Sum.inr (Sum.inl (l3, σ))) else (if xk σ l0 12 = true then (f_X12_loadWhole σ l0 (0 : Int32) ((9 : Int32) + l4)).bind (fun p15 => (if xk p15 l0 12 = true then (f_X12_copy p15 l0 (1 : Int32) (9 : Int32)).bind (fun p16 => (f_X12_coefficientAt p16 l1 l4).bind (fun p17 => (gR p16 l0 12 72).bind (fun x18 => (aI p16 x18 14 ((9 : Int32) + l4)).bind (fun x19 => (if xk p16 l0 12 = true then (f_X12_store p16 l0 p17 x19).bind (fun p20 => xlet (l4 + (1 : Int32)) (fun v21 => some (Sum.inr (Sum.inr (l0, l1, p20.1, v21, p20.2))))) else none))))) else none)) else none))))))))
set_option maxHeartbeats 4000000 in
set_option maxRecDepth 20000 in
theorem L_X12_raisePolynomial_s104 {G : xG} {π : Nat → Nat} {d C Z : Nat} {Q : xQ} (σ : xM) (l0 : Nat) (l1 : Int32) (l3 : Int32) (l4 : Int32) {x : ((Int32 × xM) ⊕ ((Int32 × xM) ⊕ (Nat × Int32 × Int32 × Int32 × xM)))} (hf : f_X12_raisePolynomial_s104 (l0, l1, l3, l4, σ) = some x) (hR : ∀ g, x = Sum.inl (g) → Q (.inl (some (.int g.1))) (g.2) π) (hE : ∀ e : (Int32 × xM), x = Sum.inr (Sum.inl e) → xMach G π J_X12_raisePolynomial (d + 5) C Z 159 [(3, .int e.1)] [] e.2 Q) (hC : ∀ e : (Nat × Int32 × Int32 × Int32 × xM), x = Sum.inr (Sum.inr e) → xMach G π J_X12_raisePolynomial (d + 5) C Z 104 [(0, .ref e.1), (1, .int e.2.1), (3, .int e.2.2.1), (4, .int e.2.2.2.1)] [] e.2.2.2.2 Q) : xMach G π J_X12_raisePolynomial (d + 5) C Z 104 [(0, .ref l0), (1, .int l1), (3, .int l3), (4, .int l4)] [] σ Q := by
  have hf : (if (9 : Int32) ≤ l4 then some (Sum.inr (Sum.inl (l3, σ))) else (if l3 = (0 : Int32) then some (Sum.inr (Sum.inl (l3, σ))) else (if xk σ l0 12 = true then (f_X12_loadWhole σ l0 (0 : Int32) ((9 : Int32) + l4)).bind (fun p15 => (if xk p15 l0 12 = true then (f_X12_copy p15 l0 (1 : Int32) (9 : Int32)).bind (fun p16 => (f_X12_coefficientAt p16 l1 l4).bind (fun p17 => (gR p16 l0 12 72).bind (fun x18 => (aI p16 x18 14 ((9 : Int32) + l4)).bind (fun x19 => (if xk p16 l0 12 = true then (f_X12_store p16 l0 p17 x19).bind (fun p20 => xlet (l4 + (1 : Int32)) (fun v21 => some (Sum.inr (Sum.inr (l0, l1, p20.1, v21, p20.2))))) else none))))) else none)) else none))) = some x := hf
  refine xm_iload dX12_raisePolynomial_104 rfl ?_
  refine xm_bipush dX12_raisePolynomial_106 (v := 9) (by decide) ?_
  refine xb_icmp_ge 159 dX12_raisePolynomial_108 (by decide) hf (fun c hf => ?_) (fun c hf => ?_)
  · cases hf
    exact xm_sub [2] rfl (hE _ rfl)
  · refine xm_iload_n dX12_raisePolynomial_111 rfl ?_
    refine xb_if_eq 159 dX12_raisePolynomial_112 (by decide) hf (fun c hf => ?_) (fun c hf => ?_)
    · cases hf
      exact xm_sub [2] rfl (hE _ rfl)
    · refine xm_aload_n dX12_raisePolynomial_115 rfl ?_
      refine xm_iconst dX12_raisePolynomial_116 (v := 0) (by decide) ?_
      refine xm_bipush dX12_raisePolynomial_117 (v := 9) (by decide) ?_
      refine xm_iload dX12_raisePolynomial_119 rfl ?_
      refine xm_iadd dX12_raisePolynomial_121 ?_
      refine xb_if hf (fun hb hf => ?_) (fun _ q => nomatch q)
      obtain ⟨p15, ep15, hf⟩ := xbind hf
      refine xb_callV (As := [.int (0 : Int32), .int ((9 : Int32) + l4)]) (v0 := none) (τ0 := p15) dX12_raisePolynomial_122 (xc_X12_loadWhole _ _) xcl12 xw_2706 xw_2708 xs_207 hb rfl (Nat.le_of_ble_eq_true rfl) rfl (Nat.le_of_ble_eq_true rfl) (fun Q1 hq => m_X12_loadWhole (d := d + 4) ep15 (fun g hg => by subst hg; exact hq)) ?_
      refine xm_aload_n dX12_raisePolynomial_125 rfl ?_
      refine xm_iconst dX12_raisePolynomial_126 (v := 1) (by decide) ?_
      refine xm_bipush dX12_raisePolynomial_127 (v := 9) (by decide) ?_
      refine xb_if hf (fun hb hf => ?_) (fun _ q => nomatch q)
      obtain ⟨p16, ep16, hf⟩ := xbind hf
      refine xb_callV (As := [.int (1 : Int32), .int (9 : Int32)]) (v0 := none) (τ0 := p16) dX12_raisePolynomial_129 (xc_X12_copy _ _) xcl12 xw_2424 xw_2426 xs_150 hb rfl (Nat.le_of_ble_eq_true rfl) rfl (Nat.le_of_ble_eq_true rfl) (fun Q1 hq => m_X12_copy (d := d + 4) ep16 (fun g hg => by subst hg; exact hq)) ?_
      refine xm_aload_n dX12_raisePolynomial_132 rfl ?_
      refine xm_iload_n dX12_raisePolynomial_133 rfl ?_
      refine xm_iload dX12_raisePolynomial_134 rfl ?_
      obtain ⟨p17, ep17, hf⟩ := xbind hf
      refine xb_callS (As := [.int l1, .int l4]) (v0 := (some (.int p17))) (τ0 := p16) dX12_raisePolynomial_136 (xc_X12_coefficientAt _ _) xw_2655 xw_2656 rfl (Nat.le_of_ble_eq_true rfl) rfl (Nat.le_of_ble_eq_true rfl) (fun Q1 hq => m_X12_coefficientAt (d := d + 4) ep17 (fun g hg => by subst hg; exact hq)) ?_
      refine xm_aload_n dX12_raisePolynomial_139 rfl ?_
      refine xb_getR (a := l0) (c := 12) (k := 72) dX12_raisePolynomial_140 xcl12 (by decide) xw_1909 rfl hf (fun x18 ex18 hf => ?_)
      refine xm_bipush dX12_raisePolynomial_143 (v := 9) (by decide) ?_
      refine xm_iload dX12_raisePolynomial_145 rfl ?_
      refine xm_iadd dX12_raisePolynomial_147 ?_
      refine xb_iald dX12_raisePolynomial_148 hf (fun x19 ex19 hf => ?_)
      refine xb_if hf (fun hb hf => ?_) (fun _ q => nomatch q)
      obtain ⟨p20, ep20, hf⟩ := xbind hf
      refine xb_callV (As := [.int p17, .int x19]) (v0 := (some (.int p20.1))) (τ0 := p20.2) dX12_raisePolynomial_149 (xc_X12_store _ _) xcl12 xw_2440 xw_2442 xs_154 hb rfl (Nat.le_of_ble_eq_true rfl) rfl (Nat.le_of_ble_eq_true rfl) (fun Q1 hq => m_X12_store (d := d + 0) ep20 (fun g hg => by subst hg; exact hq)) ?_
      refine xm_istore_n dX12_raisePolynomial_152 (by decide) (xm_stL (L' := [(3, .int p20.1), (0, .ref l0), (1, .int l1), (4, .int l4)]) rfl ?_)
      refine xb_iinc dX12_raisePolynomial_153 rfl (by decide) (by decide) hf (fun v21 ev21 hf => xm_stL (L' := [(4, .int v21), (3, .int p20.1), (0, .ref l0), (1, .int l1)]) rfl ?_)
      refine xm_goto 104 dX12_raisePolynomial_156 (by decide) ?_
      cases hf
      exact xm_sub [2, 3, 1, 0] rfl (hC _ rfl)
theorem L_X12_raisePolynomial_l104 {G : xG} {π : Nat → Nat} {d C Z : Nat} {Q : xQ} {s0 : (Nat × Int32 × Int32 × Int32 × xM)} {x : ((Int32 × xM) ⊕ (Int32 × xM))} (h1 : xloop (f_X12_raisePolynomial_s104) xF s0 = some x) (hR : ∀ g, x = Sum.inl g → Q (.inl (some (.int g.1))) (g.2) π) (hE : ∀ e : (Int32 × xM), x = Sum.inr e → xMach G π J_X12_raisePolynomial (d + 5) C Z 159 [(3, .int e.1)] [] e.2 Q) : xMach G π J_X12_raisePolynomial (d + 5) C Z 104 [(0, .ref s0.1), (1, .int s0.2.1), (3, .int s0.2.2.1), (4, .int s0.2.2.2.1)] [] s0.2.2.2.2 Q := by
  refine xloop_run (M := (fun s : (Nat × Int32 × Int32 × Int32 × xM) => xMach G π J_X12_raisePolynomial (d + 5) C Z 104 [(0, .ref s.1), (1, .int s.2.1), (3, .int s.2.2.1), (4, .int s.2.2.2.1)] [] s.2.2.2.2 Q)) (r := x) ?_ xF _ h1
  intro s y hs hx
  exact L_X12_raisePolynomial_s104 s.2.2.2.2 s.1 s.2.1 s.2.2.1 s.2.2.2.1 (x := y) hs (fun g hg => by subst hg; exact hR g hx) (fun e he => by subst he; exact hE e hx) (fun e he => by subst he; exact hx)
def f_X12_raisePolynomial_j159 (σ : xM) (l3 : Int32) : Option (Int32 × xM) :=
  (xz l3).bind (fun b22 => some (b22, σ))
set_option maxHeartbeats 4000000 in
set_option maxRecDepth 20000 in
theorem L_X12_raisePolynomial_j159 {G : xG} {π : Nat → Nat} {d C Z : Nat} {Q : xQ} (σ : xM) (l3 : Int32) {x : (Int32 × xM)} (hf : f_X12_raisePolynomial_j159 σ l3 = some x) (hR : ∀ g, x = g → Q (.inl (some (.int g.1))) (g.2) π) : xMach G π J_X12_raisePolynomial (d + 5) C Z 159 [(3, .int l3)] [] σ Q := by
  unfold f_X12_raisePolynomial_j159 at hf
  refine xm_iload_n dX12_raisePolynomial_159 rfl ?_
  obtain ⟨b22, eb22, hf⟩ := xbind hf
  obtain ⟨rfl, hz⟩ := xz_of eb22
  cases hf
  exact xm_zret dX12_raisePolynomial_160 rfl hz (hR _ rfl)
def f_X12_raisePolynomial_j99 (σ : xM) (l0 : Nat) (l1 : Int32) : Option (Int32 × xM) :=
  xlet (1 : Int32) (fun v13 => xlet (0 : Int32) (fun v14 => (xloop (f_X12_raisePolynomial_s104 ) xF (l0, l1, v13, v14, σ)).bind (Sum.elim (fun g => some g) (fun e => f_X12_raisePolynomial_j159 e.2 e.1))))
set_option maxHeartbeats 4000000 in
set_option maxRecDepth 20000 in
theorem L_X12_raisePolynomial_j99 {G : xG} {π : Nat → Nat} {d C Z : Nat} {Q : xQ} (σ : xM) (l0 : Nat) (l1 : Int32) {x : (Int32 × xM)} (hf : f_X12_raisePolynomial_j99 σ l0 l1 = some x) (hR : ∀ g, x = g → Q (.inl (some (.int g.1))) (g.2) π) : xMach G π J_X12_raisePolynomial (d + 5) C Z 99 [(0, .ref l0), (1, .int l1)] [] σ Q := by
  unfold f_X12_raisePolynomial_j99 at hf
  refine xm_iconst dX12_raisePolynomial_99 (v := 1) (by decide) ?_
  refine xb_topi hf (fun v13 ev13 hf => ?_)
  refine xm_istore_n dX12_raisePolynomial_100 (by decide) (xm_stL (L' := [(3, .int v13), (0, .ref l0), (1, .int l1)]) rfl ?_)
  refine xm_iconst dX12_raisePolynomial_101 (v := 0) (by decide) ?_
  refine xb_topi hf (fun v14 ev14 hf => ?_)
  refine xm_istore dX12_raisePolynomial_102 (by decide) (xm_stL (L' := [(4, .int v14), (3, .int v13), (0, .ref l0), (1, .int l1)]) rfl ?_)
  obtain ⟨o, h1, hf⟩ := xbind hf
  refine xm_sub [2, 3, 1, 0] rfl (L_X12_raisePolynomial_l104  h1 (fun g hg => ?_) (fun e he => ?_))
  · subst hg
    cases hf
    exact hR _ rfl
  · subst he
    rw [Sum.elim_inr] at hf
    have hf : f_X12_raisePolynomial_j159 e.2 e.1 = some _ := hf
    exact xm_sub [0] rfl (L_X12_raisePolynomial_j159 e.2 e.1 hf hR)
def f_X12_raisePolynomial_j57 (σ : xM) (l0 : Nat) (l1 : Int32) (l2 : Int32) : Option (Int32 × xM) :=
  (if xk σ l0 12 = true then (f_X12_put σ l0 (9 : Int32) (1 : Int32)).bind (fun p7 => xlet (0 : Int32) (fun v8 => (xloop (f_X12_raisePolynomial_s66 ) xF (l0, l1, l2, v8, p7)).bind (Sum.elim (fun g => some g) (fun e => f_X12_raisePolynomial_j99 e.2.2 e.1 e.2.1)))) else none)
set_option maxHeartbeats 4000000 in
set_option maxRecDepth 20000 in
theorem L_X12_raisePolynomial_j57 {G : xG} {π : Nat → Nat} {d C Z : Nat} {Q : xQ} (σ : xM) (l0 : Nat) (l1 : Int32) (l2 : Int32) {x : (Int32 × xM)} (hf : f_X12_raisePolynomial_j57 σ l0 l1 l2 = some x) (hR : ∀ g, x = g → Q (.inl (some (.int g.1))) (g.2) π) : xMach G π J_X12_raisePolynomial (d + 5) C Z 57 [(0, .ref l0), (1, .int l1), (2, .int l2)] [] σ Q := by
  unfold f_X12_raisePolynomial_j57 at hf
  refine xm_aload_n dX12_raisePolynomial_57 rfl ?_
  refine xm_bipush dX12_raisePolynomial_58 (v := 9) (by decide) ?_
  refine xm_iconst dX12_raisePolynomial_60 (v := 1) (by decide) ?_
  refine xb_if hf (fun hb hf => ?_) (fun _ q => nomatch q)
  obtain ⟨p7, ep7, hf⟩ := xbind hf
  refine xb_callV (As := [.int (9 : Int32), .int (1 : Int32)]) (v0 := none) (τ0 := p7) dX12_raisePolynomial_61 (xc_X12_put _ _) xcl12 xw_1824 xw_1826 xs_85 hb rfl (Nat.le_of_ble_eq_true rfl) rfl (Nat.le_of_ble_eq_true rfl) (fun Q1 hq => m_X12_put (d := d + 3) ep7 (fun g hg => by subst hg; exact hq)) ?_
  refine xm_iconst dX12_raisePolynomial_64 (v := 0) (by decide) ?_
  refine xb_topi hf (fun v8 ev8 hf => ?_)
  refine xm_istore_n dX12_raisePolynomial_65 (by decide) (xm_stL (L' := [(3, .int v8), (0, .ref l0), (1, .int l1), (2, .int l2)]) rfl ?_)
  obtain ⟨o, h1, hf⟩ := xbind hf
  refine xm_sub [1, 2, 3, 0] rfl (L_X12_raisePolynomial_l66  h1 (fun g hg => ?_) (fun e he => ?_))
  · subst hg
    cases hf
    exact hR _ rfl
  · subst he
    rw [Sum.elim_inr] at hf
    have hf : f_X12_raisePolynomial_j99 e.2.2 e.1 e.2.1 = some _ := hf
    exact xm_sub [0, 1] rfl (L_X12_raisePolynomial_j99 e.2.2 e.1 e.2.1 hf hR)
def f_X12_raisePolynomial (σ : xM) (l0 : Nat) (l1 : Int32) (l2 : Int32) : Option (Int32 × xM) :=
  (if xk σ l0 12 = true then (f_X12_degreeOf σ l0 l1).bind (fun p1 => (if (p1 * l2) ≤ (8 : Int32) then (if xk σ l0 12 = true then (f_X12_makeWhole σ l0 l1).bind (fun p2 => xlet (0 : Int32) (fun v3 => (xloop (f_X12_raisePolynomial_s21 ) xF (l0, l1, l2, v3, p2)).bind (Sum.elim (fun g => some g) (fun e => f_X12_raisePolynomial_j57 e.2.2.2 e.1 e.2.1 e.2.2.1)))) else none) else some ((0 : Int32), σ))) else none)
set_option maxHeartbeats 4000000 in
set_option maxRecDepth 20000 in
theorem m_X12_raisePolynomial {G : xG} {π : Nat → Nat} {d C Z : Nat} {Q : xQ} {σ : xM} {l0 : Nat} {l1 : Int32} {l2 : Int32} {x : (Int32 × xM)} (hf : f_X12_raisePolynomial σ l0 l1 l2 = some x) (hR : ∀ g, x = g → Q (.inl (some (.int g.1))) (g.2) π) : xMach G π J_X12_raisePolynomial (d + 5) C Z 0 (lv_args 0 [.ref l0, .int l1, .int l2]) [] σ Q := by
  unfold f_X12_raisePolynomial at hf
  refine xm_stL (L' := [(0, .ref l0), (1, .int l1), (2, .int l2)]) rfl ?_
  refine xm_aload_n dX12_raisePolynomial_0 rfl ?_
  refine xm_iload_n dX12_raisePolynomial_1 rfl ?_
  refine xb_if hf (fun hb hf => ?_) (fun _ q => nomatch q)
  obtain ⟨p1, ep1, hf⟩ := xbind hf
  refine xb_callV (As := [.int l1]) (v0 := (some (.int p1))) (τ0 := σ) dX12_raisePolynomial_2 (xc_X12_degreeOf _ _) xcl12 xw_2666 xw_2668 xs_197 hb rfl (Nat.le_of_ble_eq_true rfl) rfl (Nat.le_of_ble_eq_true rfl) (fun Q1 hq => m_X12_degreeOf (d := d + 3) ep1 (fun g hg => by subst hg; exact hq)) ?_
  refine xm_iload_n dX12_raisePolynomial_5 rfl ?_
  refine xm_imul dX12_raisePolynomial_6 ?_
  refine xm_bipush dX12_raisePolynomial_7 (v := 8) (by decide) ?_
  refine xb_icmp_le 14 dX12_raisePolynomial_9 (by decide) hf (fun c hf => ?_) (fun c hf => ?_)
  · refine xm_aload_n dX12_raisePolynomial_14 rfl ?_
    refine xm_iload_n dX12_raisePolynomial_15 rfl ?_
    refine xb_if hf (fun hb hf => ?_) (fun _ q => nomatch q)
    obtain ⟨p2, ep2, hf⟩ := xbind hf
    refine xb_callV (As := [.int l1]) (v0 := none) (τ0 := p2) dX12_raisePolynomial_16 (xc_X12_makeWhole _ _) xcl12 xw_2694 xw_2696 xs_204 hb rfl (Nat.le_of_ble_eq_true rfl) rfl (Nat.le_of_ble_eq_true rfl) (fun Q1 hq => m_X12_makeWhole (d := d + 1) ep2 (fun g hg => by subst hg; exact hq)) ?_
    refine xm_iconst dX12_raisePolynomial_19 (v := 0) (by decide) ?_
    refine xb_topi hf (fun v3 ev3 hf => ?_)
    refine xm_istore_n dX12_raisePolynomial_20 (by decide) (xm_stL (L' := [(3, .int v3), (0, .ref l0), (1, .int l1), (2, .int l2)]) rfl ?_)
    obtain ⟨o, h1, hf⟩ := xbind hf
    refine xm_sub [1, 2, 3, 0] rfl (L_X12_raisePolynomial_l21  h1 (fun g hg => ?_) (fun e he => ?_))
    · subst hg
      cases hf
      exact hR _ rfl
    · subst he
      rw [Sum.elim_inr] at hf
      have hf : f_X12_raisePolynomial_j57 e.2.2.2 e.1 e.2.1 e.2.2.1 = some _ := hf
      exact xm_sub [0, 1, 2] rfl (L_X12_raisePolynomial_j57 e.2.2.2 e.1 e.2.1 e.2.2.1 hf hR)
  · refine xm_iconst dX12_raisePolynomial_12 (v := 0) (by decide) ?_
    cases hf
    exact xm_zret dX12_raisePolynomial_13 rfl rfl (hR _ rfl)
-- RankwiseModel.scalePolynomials(II)Z
def f_X12_scalePolynomials_s29 (s : (Nat × Int32 × Int32 × Int32 × Int32 × xM)) : Option ((Int32 × xM) ⊕ ((Int32 × xM) ⊕ (Nat × Int32 × Int32 × Int32 × Int32 × xM))) :=
  xlet s.1 (fun l0 => xlet s.2.1 (fun l1 => xlet s.2.2.1 (fun l2 => xlet s.2.2.2.1 (fun l3 => xlet s.2.2.2.2.1 (fun l4 => xlet s.2.2.2.2.2 (fun σ => (if (9 : Int32) ≤ l4 then some (Sum.inr (Sum.inl (l3, σ))) else (if l3 = (0 : Int32) then some (Sum.inr (Sum.inl (l3, σ))) else (f_X12_coefficientAt σ l1 l4).bind (fun p3 => (f_X12_coefficientAt σ l1 l4).bind (fun p4 => (f_X12_coefficientAt σ l2 (0 : Int32)).bind (fun p5 => (if xk σ l0 12 = true then (f_X12_divideValues σ l0 p3 p4 p5).bind (fun p6 => xlet (l4 + (1 : Int32)) (fun v7 => some (Sum.inr (Sum.inr (l0, l1, l2, p6.1, v7, p6.2))))) else none))))))))))))
set_option maxHeartbeats 4000000 in
set_option maxRecDepth 20000 in
theorem L_X12_scalePolynomials_s29 {G : xG} {π : Nat → Nat} {d C Z : Nat} {Q : xQ} (σ : xM) (l0 : Nat) (l1 : Int32) (l2 : Int32) (l3 : Int32) (l4 : Int32) {x : ((Int32 × xM) ⊕ ((Int32 × xM) ⊕ (Nat × Int32 × Int32 × Int32 × Int32 × xM)))} (hf : f_X12_scalePolynomials_s29 (l0, l1, l2, l3, l4, σ) = some x) (hR : ∀ g, x = Sum.inl (g) → Q (.inl (some (.int g.1))) (g.2) π) (hE : ∀ e : (Int32 × xM), x = Sum.inr (Sum.inl e) → xMach G π J_X12_scalePolynomials (d + 6) C Z 68 [(3, .int e.1)] [] e.2 Q) (hC : ∀ e : (Nat × Int32 × Int32 × Int32 × Int32 × xM), x = Sum.inr (Sum.inr e) → xMach G π J_X12_scalePolynomials (d + 6) C Z 29 [(0, .ref e.1), (1, .int e.2.1), (2, .int e.2.2.1), (3, .int e.2.2.2.1), (4, .int e.2.2.2.2.1)] [] e.2.2.2.2.2 Q) : xMach G π J_X12_scalePolynomials (d + 6) C Z 29 [(0, .ref l0), (1, .int l1), (2, .int l2), (3, .int l3), (4, .int l4)] [] σ Q := by
  have hf : (if (9 : Int32) ≤ l4 then some (Sum.inr (Sum.inl (l3, σ))) else (if l3 = (0 : Int32) then some (Sum.inr (Sum.inl (l3, σ))) else (f_X12_coefficientAt σ l1 l4).bind (fun p3 => (f_X12_coefficientAt σ l1 l4).bind (fun p4 => (f_X12_coefficientAt σ l2 (0 : Int32)).bind (fun p5 => (if xk σ l0 12 = true then (f_X12_divideValues σ l0 p3 p4 p5).bind (fun p6 => xlet (l4 + (1 : Int32)) (fun v7 => some (Sum.inr (Sum.inr (l0, l1, l2, p6.1, v7, p6.2))))) else none)))))) = some x := hf
  refine xm_iload dX12_scalePolynomials_29 rfl ?_
  refine xm_bipush dX12_scalePolynomials_31 (v := 9) (by decide) ?_
  refine xb_icmp_ge 68 dX12_scalePolynomials_33 (by decide) hf (fun c hf => ?_) (fun c hf => ?_)
  · cases hf
    exact xm_sub [3] rfl (hE _ rfl)
  · refine xm_iload_n dX12_scalePolynomials_36 rfl ?_
    refine xb_if_eq 68 dX12_scalePolynomials_37 (by decide) hf (fun c hf => ?_) (fun c hf => ?_)
    · cases hf
      exact xm_sub [3] rfl (hE _ rfl)
    · refine xm_aload_n dX12_scalePolynomials_40 rfl ?_
      refine xm_iload_n dX12_scalePolynomials_41 rfl ?_
      refine xm_iload dX12_scalePolynomials_42 rfl ?_
      obtain ⟨p3, ep3, hf⟩ := xbind hf
      refine xb_callS (As := [.int l1, .int l4]) (v0 := (some (.int p3))) (τ0 := σ) dX12_scalePolynomials_44 (xc_X12_coefficientAt _ _) xw_2655 xw_2656 rfl (Nat.le_of_ble_eq_true rfl) rfl (Nat.le_of_ble_eq_true rfl) (fun Q1 hq => m_X12_coefficientAt (d := d + 5) ep3 (fun g hg => by subst hg; exact hq)) ?_
      refine xm_iload_n dX12_scalePolynomials_47 rfl ?_
      refine xm_iload dX12_scalePolynomials_48 rfl ?_
      obtain ⟨p4, ep4, hf⟩ := xbind hf
      refine xb_callS (As := [.int l1, .int l4]) (v0 := (some (.int p4))) (τ0 := σ) dX12_scalePolynomials_50 (xc_X12_coefficientAt _ _) xw_2655 xw_2656 rfl (Nat.le_of_ble_eq_true rfl) rfl (Nat.le_of_ble_eq_true rfl) (fun Q1 hq => m_X12_coefficientAt (d := d + 5) ep4 (fun g hg => by subst hg; exact hq)) ?_
      refine xm_iload_n dX12_scalePolynomials_53 rfl ?_
      refine xm_iconst dX12_scalePolynomials_54 (v := 0) (by decide) ?_
      obtain ⟨p5, ep5, hf⟩ := xbind hf
      refine xb_callS (As := [.int l2, .int (0 : Int32)]) (v0 := (some (.int p5))) (τ0 := σ) dX12_scalePolynomials_55 (xc_X12_coefficientAt _ _) xw_2655 xw_2656 rfl (Nat.le_of_ble_eq_true rfl) rfl (Nat.le_of_ble_eq_true rfl) (fun Q1 hq => m_X12_coefficientAt (d := d + 5) ep5 (fun g hg => by subst hg; exact hq)) ?_
      refine xb_if hf (fun hb hf => ?_) (fun _ q => nomatch q)
      obtain ⟨p6, ep6, hf⟩ := xbind hf
      refine xb_callV (As := [.int p3, .int p4, .int p5]) (v0 := (some (.int p6.1))) (τ0 := p6.2) dX12_scalePolynomials_58 (xc_X12_divideValues _ _) xcl12 xw_2528 xw_2530 xs_175 hb rfl (Nat.le_of_ble_eq_true rfl) rfl (Nat.le_of_ble_eq_true rfl) (fun Q1 hq => m_X12_divideValues (d := d + 0) ep6 (fun g hg => by subst hg; exact hq)) ?_
      refine xm_istore_n dX12_scalePolynomials_61 (by decide) (xm_stL (L' := [(3, .int p6.1), (0, .ref l0), (1, .int l1), (2, .int l2), (4, .int l4)]) rfl ?_)
      refine xb_iinc dX12_scalePolynomials_62 rfl (by decide) (by decide) hf (fun v7 ev7 hf => xm_stL (L' := [(4, .int v7), (3, .int p6.1), (0, .ref l0), (1, .int l1), (2, .int l2)]) rfl ?_)
      refine xm_goto 29 dX12_scalePolynomials_65 (by decide) ?_
      cases hf
      exact xm_sub [2, 3, 4, 1, 0] rfl (hC _ rfl)
theorem L_X12_scalePolynomials_l29 {G : xG} {π : Nat → Nat} {d C Z : Nat} {Q : xQ} {s0 : (Nat × Int32 × Int32 × Int32 × Int32 × xM)} {x : ((Int32 × xM) ⊕ (Int32 × xM))} (h1 : xloop (f_X12_scalePolynomials_s29) xF s0 = some x) (hR : ∀ g, x = Sum.inl g → Q (.inl (some (.int g.1))) (g.2) π) (hE : ∀ e : (Int32 × xM), x = Sum.inr e → xMach G π J_X12_scalePolynomials (d + 6) C Z 68 [(3, .int e.1)] [] e.2 Q) : xMach G π J_X12_scalePolynomials (d + 6) C Z 29 [(0, .ref s0.1), (1, .int s0.2.1), (2, .int s0.2.2.1), (3, .int s0.2.2.2.1), (4, .int s0.2.2.2.2.1)] [] s0.2.2.2.2.2 Q := by
  refine xloop_run (M := (fun s : (Nat × Int32 × Int32 × Int32 × Int32 × xM) => xMach G π J_X12_scalePolynomials (d + 6) C Z 29 [(0, .ref s.1), (1, .int s.2.1), (2, .int s.2.2.1), (3, .int s.2.2.2.1), (4, .int s.2.2.2.2.1)] [] s.2.2.2.2.2 Q)) (r := x) ?_ xF _ h1
  intro s y hs hx
  exact L_X12_scalePolynomials_s29 s.2.2.2.2.2 s.1 s.2.1 s.2.2.1 s.2.2.2.1 s.2.2.2.2.1 (x := y) hs (fun g hg => by subst hg; exact hR g hx) (fun e he => by subst he; exact hE e hx) (fun e he => by subst he; exact hx)
def f_X12_scalePolynomials_j68 (σ : xM) (l3 : Int32) : Option (Int32 × xM) :=
  (xz l3).bind (fun b8 => some (b8, σ))
set_option maxHeartbeats 4000000 in
set_option maxRecDepth 20000 in
theorem L_X12_scalePolynomials_j68 {G : xG} {π : Nat → Nat} {d C Z : Nat} {Q : xQ} (σ : xM) (l3 : Int32) {x : (Int32 × xM)} (hf : f_X12_scalePolynomials_j68 σ l3 = some x) (hR : ∀ g, x = g → Q (.inl (some (.int g.1))) (g.2) π) : xMach G π J_X12_scalePolynomials (d + 6) C Z 68 [(3, .int l3)] [] σ Q := by
  unfold f_X12_scalePolynomials_j68 at hf
  refine xm_iload_n dX12_scalePolynomials_68 rfl ?_
  obtain ⟨b8, eb8, hf⟩ := xbind hf
  obtain ⟨rfl, hz⟩ := xz_of eb8
  cases hf
  exact xm_zret dX12_scalePolynomials_69 rfl hz (hR _ rfl)
def f_X12_scalePolynomials_j25 (σ : xM) (l0 : Nat) (l1 : Int32) (l2 : Int32) (s0 : Int32) : Option (Int32 × xM) :=
  xlet (0 : Int32) (fun v2 => (xloop (f_X12_scalePolynomials_s29 ) xF (l0, l1, l2, s0, v2, σ)).bind (Sum.elim (fun g => some g) (fun e => f_X12_scalePolynomials_j68 e.2 e.1)))
set_option maxHeartbeats 4000000 in
set_option maxRecDepth 20000 in
theorem L_X12_scalePolynomials_j25 {G : xG} {π : Nat → Nat} {d C Z : Nat} {Q : xQ} (σ : xM) (l0 : Nat) (l1 : Int32) (l2 : Int32) (s0 : Int32) {x : (Int32 × xM)} (hf : f_X12_scalePolynomials_j25 σ l0 l1 l2 s0 = some x) (hR : ∀ g, x = g → Q (.inl (some (.int g.1))) (g.2) π) : xMach G π J_X12_scalePolynomials (d + 6) C Z 25 [(0, .ref l0), (1, .int l1), (2, .int l2)] [.int s0] σ Q := by
  unfold f_X12_scalePolynomials_j25 at hf
  refine xm_istore_n dX12_scalePolynomials_25 (by decide) (xm_stL (L' := [(3, .int s0), (0, .ref l0), (1, .int l1), (2, .int l2)]) rfl ?_)
  refine xm_iconst dX12_scalePolynomials_26 (v := 0) (by decide) ?_
  refine xb_topi hf (fun v2 ev2 hf => ?_)
  refine xm_istore dX12_scalePolynomials_27 (by decide) (xm_stL (L' := [(4, .int v2), (3, .int s0), (0, .ref l0), (1, .int l1), (2, .int l2)]) rfl ?_)
  obtain ⟨o, h1, hf⟩ := xbind hf
  refine xm_sub [2, 3, 4, 1, 0] rfl (L_X12_scalePolynomials_l29  h1 (fun g hg => ?_) (fun e he => ?_))
  · subst hg
    cases hf
    exact hR _ rfl
  · subst he
    rw [Sum.elim_inr] at hf
    have hf : f_X12_scalePolynomials_j68 e.2 e.1 = some _ := hf
    exact xm_sub [0] rfl (L_X12_scalePolynomials_j68 e.2 e.1 hf hR)
def f_X12_scalePolynomials_j24 (σ : xM) (l0 : Nat) (l1 : Int32) (l2 : Int32) : Option (Int32 × xM) :=
  f_X12_scalePolynomials_j25 σ l0 l1 l2 (0 : Int32)
set_option maxHeartbeats 4000000 in
set_option maxRecDepth 20000 in
theorem L_X12_scalePolynomials_j24 {G : xG} {π : Nat → Nat} {d C Z : Nat} {Q : xQ} (σ : xM) (l0 : Nat) (l1 : Int32) (l2 : Int32) {x : (Int32 × xM)} (hf : f_X12_scalePolynomials_j24 σ l0 l1 l2 = some x) (hR : ∀ g, x = g → Q (.inl (some (.int g.1))) (g.2) π) : xMach G π J_X12_scalePolynomials (d + 6) C Z 24 [(0, .ref l0), (1, .int l1), (2, .int l2)] [] σ Q := by
  unfold f_X12_scalePolynomials_j24 at hf
  refine xm_iconst dX12_scalePolynomials_24 (v := 0) (by decide) ?_
  exact xm_sub [0, 1, 2] rfl (L_X12_scalePolynomials_j25 σ l0 l1 l2 (0 : Int32) hf hR)
def f_X12_scalePolynomials (σ : xM) (l0 : Nat) (l1 : Int32) (l2 : Int32) : Option (Int32 × xM) :=
  (if xk σ l0 12 = true then (f_X12_degreeOf σ l0 l2).bind (fun p1 => (if p1 = (0 : Int32) then (f_X12_coefficientAt σ l2 (0 : Int32)).bind (fun p9 => (if xk σ l0 12 = true then (f_X12_sign σ l0 p9).bind (fun p10 => (if p10 = (0 : Int32) then f_X12_scalePolynomials_j24 σ l0 l1 l2 else f_X12_scalePolynomials_j25 σ l0 l1 l2 (1 : Int32))) else none)) else f_X12_scalePolynomials_j24 σ l0 l1 l2)) else none)
set_option maxHeartbeats 4000000 in
set_option maxRecDepth 20000 in
theorem m_X12_scalePolynomials {G : xG} {π : Nat → Nat} {d C Z : Nat} {Q : xQ} {σ : xM} {l0 : Nat} {l1 : Int32} {l2 : Int32} {x : (Int32 × xM)} (hf : f_X12_scalePolynomials σ l0 l1 l2 = some x) (hR : ∀ g, x = g → Q (.inl (some (.int g.1))) (g.2) π) : xMach G π J_X12_scalePolynomials (d + 6) C Z 0 (lv_args 0 [.ref l0, .int l1, .int l2]) [] σ Q := by
  unfold f_X12_scalePolynomials at hf
  refine xm_stL (L' := [(0, .ref l0), (1, .int l1), (2, .int l2)]) rfl ?_
  refine xm_aload_n dX12_scalePolynomials_0 rfl ?_
  refine xm_iload_n dX12_scalePolynomials_1 rfl ?_
  refine xb_if hf (fun hb hf => ?_) (fun _ q => nomatch q)
  obtain ⟨p1, ep1, hf⟩ := xbind hf
  refine xb_callV (As := [.int l2]) (v0 := (some (.int p1))) (τ0 := σ) dX12_scalePolynomials_2 (xc_X12_degreeOf _ _) xcl12 xw_2666 xw_2668 xs_197 hb rfl (Nat.le_of_ble_eq_true rfl) rfl (Nat.le_of_ble_eq_true rfl) (fun Q1 hq => m_X12_degreeOf (d := d + 4) ep1 (fun g hg => by subst hg; exact hq)) ?_
  refine xb_if_ne 24 dX12_scalePolynomials_5 (by decide) hf (fun c hf => ?_) (fun c hf => ?_)
  · exact xm_sub [0, 1, 2] rfl (L_X12_scalePolynomials_j24 σ l0 l1 l2 hf hR)
  · refine xm_aload_n dX12_scalePolynomials_8 rfl ?_
    refine xm_iload_n dX12_scalePolynomials_9 rfl ?_
    refine xm_iconst dX12_scalePolynomials_10 (v := 0) (by decide) ?_
    obtain ⟨p9, ep9, hf⟩ := xbind hf
    refine xb_callS (As := [.int l2, .int (0 : Int32)]) (v0 := (some (.int p9))) (τ0 := σ) dX12_scalePolynomials_11 (xc_X12_coefficientAt _ _) xw_2655 xw_2656 rfl (Nat.le_of_ble_eq_true rfl) rfl (Nat.le_of_ble_eq_true rfl) (fun Q1 hq => m_X12_coefficientAt (d := d + 5) ep9 (fun g hg => by subst hg; exact hq)) ?_
    refine xb_if hf (fun hb hf => ?_) (fun _ q => nomatch q)
    obtain ⟨p10, ep10, hf⟩ := xbind hf
    refine xb_callV (As := [.int p9]) (v0 := (some (.int p10))) (τ0 := σ) dX12_scalePolynomials_14 (xc_X12_sign _ _) xcl12 xw_2387 xw_2389 xs_141 hb rfl (Nat.le_of_ble_eq_true rfl) rfl (Nat.le_of_ble_eq_true rfl) (fun Q1 hq => m_X12_sign (d := d + 5) ep10 (fun g hg => by subst hg; exact hq)) ?_
    refine xb_if_eq 24 dX12_scalePolynomials_17 (by decide) hf (fun c hf => ?_) (fun c hf => ?_)
    · exact xm_sub [0, 1, 2] rfl (L_X12_scalePolynomials_j24 σ l0 l1 l2 hf hR)
    · refine xm_iconst dX12_scalePolynomials_20 (v := 1) (by decide) ?_
      refine xm_goto 25 dX12_scalePolynomials_21 (by decide) ?_
      exact xm_sub [0, 1, 2] rfl (L_X12_scalePolynomials_j25 σ l0 l1 l2 (1 : Int32) hf hR)
-- RankwiseModel.gatherTwo(II)Z
def f_X12_gatherTwo_j206 (σ : xM)  : Option (Int32 × xM) :=
  some ((0 : Int32), σ)
set_option maxHeartbeats 4000000 in
set_option maxRecDepth 20000 in
theorem L_X12_gatherTwo_j206 {G : xG} {π : Nat → Nat} {d C Z : Nat} {Q : xQ} (σ : xM)  {x : (Int32 × xM)} (hf : f_X12_gatherTwo_j206 σ = some x) (hR : ∀ g, x = g → Q (.inl (some (.int g.1))) (g.2) π) : xMach G π J_X12_gatherTwo (d + 7) C Z 206 [] [] σ Q := by
  unfold f_X12_gatherTwo_j206 at hf
  refine xm_iconst dX12_gatherTwo_206 (v := 0) (by decide) ?_
  cases hf
  exact xm_zret dX12_gatherTwo_207 rfl rfl (hR _ rfl)
def f_X12_gatherTwo_j108 (σ : xM) (l0 : Nat) (l2 : Int32) (l3 : Int32) (l4 : Int32) (l6 : Int32) (s0 : Int32) (s1 : Int32) (s2 : Int32) (s3 : Int32) (s4 : Nat) : Option ((Int32 × xM) ⊕ ((Int32 × xM) ⊕ (Nat × Int32 × Int32 × Int32 × Int32 × Int32 × xM))) :=
  (if xk σ s4 12 = true then (f_X12_addValues σ s4 s3 s2 s1 s0).bind (fun p11 => xlet (l6 + (1 : Int32)) (fun v12 => some (Sum.inr (Sum.inr (l0, l2, l3, l4, p11.1, v12, p11.2))))) else none)
set_option maxHeartbeats 4000000 in
set_option maxRecDepth 20000 in
theorem L_X12_gatherTwo_j108 {G : xG} {π : Nat → Nat} {d C Z : Nat} {Q : xQ} (σ : xM) (l0 : Nat) (l2 : Int32) (l3 : Int32) (l4 : Int32) (l6 : Int32) (s0 : Int32) (s1 : Int32) (s2 : Int32) (s3 : Int32) (s4 : Nat) {x : ((Int32 × xM) ⊕ ((Int32 × xM) ⊕ (Nat × Int32 × Int32 × Int32 × Int32 × Int32 × xM)))} (hf : f_X12_gatherTwo_j108 σ l0 l2 l3 l4 l6 s0 s1 s2 s3 s4 = some x) (hR : ∀ g, x = Sum.inl (g) → Q (.inl (some (.int g.1))) (g.2) π) (hE : ∀ e : (Int32 × xM), x = Sum.inr (Sum.inl e) → xMach G π J_X12_gatherTwo (d + 7) C Z 119 [(5, .int e.1)] [] e.2 Q) (hC : ∀ e : (Nat × Int32 × Int32 × Int32 × Int32 × Int32 × xM), x = Sum.inr (Sum.inr e) → xMach G π J_X12_gatherTwo (d + 7) C Z 67 [(0, .ref e.1), (2, .int e.2.1), (3, .int e.2.2.1), (4, .int e.2.2.2.1), (5, .int e.2.2.2.2.1), (6, .int e.2.2.2.2.2.1)] [] e.2.2.2.2.2.2 Q) : xMach G π J_X12_gatherTwo (d + 7) C Z 108 [(0, .ref l0), (2, .int l2), (3, .int l3), (4, .int l4), (6, .int l6)] [.int s0, .int s1, .int s2, .int s3, .ref s4] σ Q := by
  unfold f_X12_gatherTwo_j108 at hf
  refine xb_if hf (fun hb hf => ?_) (fun _ q => nomatch q)
  obtain ⟨p11, ep11, hf⟩ := xbind hf
  refine xb_callV (As := [.int s3, .int s2, .int s1, .int s0]) (v0 := (some (.int p11.1))) (τ0 := p11.2) dX12_gatherTwo_108 (xc_X12_addValues _ _) xcl12 xw_2399 xw_2401 xs_144 hb rfl (Nat.le_of_ble_eq_true rfl) rfl (Nat.le_of_ble_eq_true rfl) (fun Q1 hq => m_X12_addValues (d := d + 1) ep11 (fun g hg => by subst hg; exact hq)) ?_
  refine xm_istore dX12_gatherTwo_111 (by decide) (xm_stL (L' := [(5, .int p11.1), (0, .ref l0), (2, .int l2), (3, .int l3), (4, .int l4), (6, .int l6)]) rfl ?_)
  refine xb_iinc dX12_gatherTwo_113 rfl (by decide) (by decide) hf (fun v12 ev12 hf => xm_stL (L' := [(6, .int v12), (5, .int p11.1), (0, .ref l0), (2, .int l2), (3, .int l3), (4, .int l4)]) rfl ?_)
  refine xm_goto 67 dX12_gatherTwo_116 (by decide) ?_
  cases hf
  exact xm_sub [2, 3, 4, 5, 1, 0] rfl (hC _ rfl)
def f_X12_gatherTwo_s67 (s : (Nat × Int32 × Int32 × Int32 × Int32 × Int32 × xM)) : Option ((Int32 × xM) ⊕ ((Int32 × xM) ⊕ (Nat × Int32 × Int32 × Int32 × Int32 × Int32 × xM))) :=
  xlet s.1 (fun l0 => xlet s.2.1 (fun l2 => xlet s.2.2.1 (fun l3 => xlet s.2.2.2.1 (fun l4 => xlet s.2.2.2.2.1 (fun l5 => xlet s.2.2.2.2.2.1 (fun l6 => xlet s.2.2.2.2.2.2 (fun σ => (if (9 : Int32) ≤ l6 then some (Sum.inr (Sum.inl (l5, σ))) else (if l5 = (0 : Int32) then some (Sum.inr (Sum.inl (l5, σ))) else (f_X12_coefficientAt σ l3 l6).bind (fun p8 => (f_X12_coefficientAt σ l3 l6).bind (fun p9 => (f_X12_coefficientAt σ l4 l6).bind (fun p10 => (if l2 = (0 : Int32) then f_X12_gatherTwo_j108 σ l0 l2 l3 l4 l6 (1 : Int32) p10 p9 p8 l0 else f_X12_gatherTwo_j108 σ l0 l2 l3 l4 l6 (-1 : Int32) p10 p9 p8 l0)))))))))))))
set_option maxHeartbeats 4000000 in
set_option maxRecDepth 20000 in
theorem L_X12_gatherTwo_s67 {G : xG} {π : Nat → Nat} {d C Z : Nat} {Q : xQ} (σ : xM) (l0 : Nat) (l2 : Int32) (l3 : Int32) (l4 : Int32) (l5 : Int32) (l6 : Int32) {x : ((Int32 × xM) ⊕ ((Int32 × xM) ⊕ (Nat × Int32 × Int32 × Int32 × Int32 × Int32 × xM)))} (hf : f_X12_gatherTwo_s67 (l0, l2, l3, l4, l5, l6, σ) = some x) (hR : ∀ g, x = Sum.inl (g) → Q (.inl (some (.int g.1))) (g.2) π) (hE : ∀ e : (Int32 × xM), x = Sum.inr (Sum.inl e) → xMach G π J_X12_gatherTwo (d + 7) C Z 119 [(5, .int e.1)] [] e.2 Q) (hC : ∀ e : (Nat × Int32 × Int32 × Int32 × Int32 × Int32 × xM), x = Sum.inr (Sum.inr e) → xMach G π J_X12_gatherTwo (d + 7) C Z 67 [(0, .ref e.1), (2, .int e.2.1), (3, .int e.2.2.1), (4, .int e.2.2.2.1), (5, .int e.2.2.2.2.1), (6, .int e.2.2.2.2.2.1)] [] e.2.2.2.2.2.2 Q) : xMach G π J_X12_gatherTwo (d + 7) C Z 67 [(0, .ref l0), (2, .int l2), (3, .int l3), (4, .int l4), (5, .int l5), (6, .int l6)] [] σ Q := by
  have hf : (if (9 : Int32) ≤ l6 then some (Sum.inr (Sum.inl (l5, σ))) else (if l5 = (0 : Int32) then some (Sum.inr (Sum.inl (l5, σ))) else (f_X12_coefficientAt σ l3 l6).bind (fun p8 => (f_X12_coefficientAt σ l3 l6).bind (fun p9 => (f_X12_coefficientAt σ l4 l6).bind (fun p10 => (if l2 = (0 : Int32) then f_X12_gatherTwo_j108 σ l0 l2 l3 l4 l6 (1 : Int32) p10 p9 p8 l0 else f_X12_gatherTwo_j108 σ l0 l2 l3 l4 l6 (-1 : Int32) p10 p9 p8 l0)))))) = some x := hf
  refine xm_iload dX12_gatherTwo_67 rfl ?_
  refine xm_bipush dX12_gatherTwo_69 (v := 9) (by decide) ?_
  refine xb_icmp_ge 119 dX12_gatherTwo_71 (by decide) hf (fun c hf => ?_) (fun c hf => ?_)
  · cases hf
    exact xm_sub [4] rfl (hE _ rfl)
  · refine xm_iload dX12_gatherTwo_74 rfl ?_
    refine xb_if_eq 119 dX12_gatherTwo_76 (by decide) hf (fun c hf => ?_) (fun c hf => ?_)
    · cases hf
      exact xm_sub [4] rfl (hE _ rfl)
    · refine xm_aload_n dX12_gatherTwo_79 rfl ?_
      refine xm_iload_n dX12_gatherTwo_80 rfl ?_
      refine xm_iload dX12_gatherTwo_81 rfl ?_
      obtain ⟨p8, ep8, hf⟩ := xbind hf
      refine xb_callS (As := [.int l3, .int l6]) (v0 := (some (.int p8))) (τ0 := σ) dX12_gatherTwo_83 (xc_X12_coefficientAt _ _) xw_2655 xw_2656 rfl (Nat.le_of_ble_eq_true rfl) rfl (Nat.le_of_ble_eq_true rfl) (fun Q1 hq => m_X12_coefficientAt (d := d + 6) ep8 (fun g hg => by subst hg; exact hq)) ?_
      refine xm_iload_n dX12_gatherTwo_86 rfl ?_
      refine xm_iload dX12_gatherTwo_87 rfl ?_
      obtain ⟨p9, ep9, hf⟩ := xbind hf
      refine xb_callS (As := [.int l3, .int l6]) (v0 := (some (.int p9))) (τ0 := σ) dX12_gatherTwo_89 (xc_X12_coefficientAt _ _) xw_2655 xw_2656 rfl (Nat.le_of_ble_eq_true rfl) rfl (Nat.le_of_ble_eq_true rfl) (fun Q1 hq => m_X12_coefficientAt (d := d + 6) ep9 (fun g hg => by subst hg; exact hq)) ?_
      refine xm_iload dX12_gatherTwo_92 rfl ?_
      refine xm_iload dX12_gatherTwo_94 rfl ?_
      obtain ⟨p10, ep10, hf⟩ := xbind hf
      refine xb_callS (As := [.int l4, .int l6]) (v0 := (some (.int p10))) (τ0 := σ) dX12_gatherTwo_96 (xc_X12_coefficientAt _ _) xw_2655 xw_2656 rfl (Nat.le_of_ble_eq_true rfl) rfl (Nat.le_of_ble_eq_true rfl) (fun Q1 hq => m_X12_coefficientAt (d := d + 6) ep10 (fun g hg => by subst hg; exact hq)) ?_
      refine xm_iload_n dX12_gatherTwo_99 rfl ?_
      refine xb_if_ne 107 dX12_gatherTwo_100 (by decide) hf (fun c hf => ?_) (fun c hf => ?_)
      · refine xm_iconst dX12_gatherTwo_107 (v := -1) (by decide) ?_
        exact xm_sub [0, 1, 2, 3, 5] rfl (L_X12_gatherTwo_j108 σ l0 l2 l3 l4 l6 (-1 : Int32) p10 p9 p8 l0 hf hR hE hC)
      · refine xm_iconst dX12_gatherTwo_103 (v := 1) (by decide) ?_
        refine xm_goto 108 dX12_gatherTwo_104 (by decide) ?_
        exact xm_sub [0, 1, 2, 3, 5] rfl (L_X12_gatherTwo_j108 σ l0 l2 l3 l4 l6 (1 : Int32) p10 p9 p8 l0 hf hR hE hC)
theorem L_X12_gatherTwo_l67 {G : xG} {π : Nat → Nat} {d C Z : Nat} {Q : xQ} {s0 : (Nat × Int32 × Int32 × Int32 × Int32 × Int32 × xM)} {x : ((Int32 × xM) ⊕ (Int32 × xM))} (h1 : xloop (f_X12_gatherTwo_s67) xF s0 = some x) (hR : ∀ g, x = Sum.inl g → Q (.inl (some (.int g.1))) (g.2) π) (hE : ∀ e : (Int32 × xM), x = Sum.inr e → xMach G π J_X12_gatherTwo (d + 7) C Z 119 [(5, .int e.1)] [] e.2 Q) : xMach G π J_X12_gatherTwo (d + 7) C Z 67 [(0, .ref s0.1), (2, .int s0.2.1), (3, .int s0.2.2.1), (4, .int s0.2.2.2.1), (5, .int s0.2.2.2.2.1), (6, .int s0.2.2.2.2.2.1)] [] s0.2.2.2.2.2.2 Q := by
  refine xloop_run (M := (fun s : (Nat × Int32 × Int32 × Int32 × Int32 × Int32 × xM) => xMach G π J_X12_gatherTwo (d + 7) C Z 67 [(0, .ref s.1), (2, .int s.2.1), (3, .int s.2.2.1), (4, .int s.2.2.2.1), (5, .int s.2.2.2.2.1), (6, .int s.2.2.2.2.2.1)] [] s.2.2.2.2.2.2 Q)) (r := x) ?_ xF _ h1
  intro s y hs hx
  exact L_X12_gatherTwo_s67 s.2.2.2.2.2.2 s.1 s.2.1 s.2.2.1 s.2.2.2.1 s.2.2.2.2.1 s.2.2.2.2.2.1 (x := y) hs (fun g hg => by subst hg; exact hR g hx) (fun e he => by subst he; exact hE e hx) (fun e he => by subst he; exact hx)
def f_X12_gatherTwo_j119 (σ : xM) (l5 : Int32) : Option (Int32 × xM) :=
  (xz l5).bind (fun b13 => some (b13, σ))
set_option maxHeartbeats 4000000 in
set_option maxRecDepth 20000 in
theorem L_X12_gatherTwo_j119 {G : xG} {π : Nat → Nat} {d C Z : Nat} {Q : xQ} (σ : xM) (l5 : Int32) {x : (Int32 × xM)} (hf : f_X12_gatherTwo_j119 σ l5 = some x) (hR : ∀ g, x = g → Q (.inl (some (.int g.1))) (g.2) π) : xMach G π J_X12_gatherTwo (d + 7) C Z 119 [(5, .int l5)] [] σ Q := by
  unfold f_X12_gatherTwo_j119 at hf
  refine xm_iload dX12_gatherTwo_119 rfl ?_
  obtain ⟨b13, eb13, hf⟩ := xbind hf
  obtain ⟨rfl, hz⟩ := xz_of eb13
  cases hf
  exact xm_zret dX12_gatherTwo_121 rfl hz (hR _ rfl)
def f_X12_gatherTwo_j64 (σ : xM) (l0 : Nat) (l2 : Int32) (l3 : Int32) (l4 : Int32) (l5 : Int32) : Option (Int32 × xM) :=
  xlet (0 : Int32) (fun v7 => (xloop (f_X12_gatherTwo_s67 ) xF (l0, l2, l3, l4, l5, v7, σ)).bind (Sum.elim (fun g => some g) (fun e => f_X12_gatherTwo_j119 e.2 e.1)))
set_option maxHeartbeats 4000000 in
set_option maxRecDepth 20000 in
theorem L_X12_gatherTwo_j64 {G : xG} {π : Nat → Nat} {d C Z : Nat} {Q : xQ} (σ : xM) (l0 : Nat) (l2 : Int32) (l3 : Int32) (l4 : Int32) (l5 : Int32) {x : (Int32 × xM)} (hf : f_X12_gatherTwo_j64 σ l0 l2 l3 l4 l5 = some x) (hR : ∀ g, x = g → Q (.inl (some (.int g.1))) (g.2) π) : xMach G π J_X12_gatherTwo (d + 7) C Z 64 [(0, .ref l0), (2, .int l2), (3, .int l3), (4, .int l4), (5, .int l5)] [] σ Q := by
  unfold f_X12_gatherTwo_j64 at hf
  refine xm_iconst dX12_gatherTwo_64 (v := 0) (by decide) ?_
  refine xb_topi hf (fun v7 ev7 hf => ?_)
  refine xm_istore dX12_gatherTwo_65 (by decide) (xm_stL (L' := [(6, .int v7), (0, .ref l0), (2, .int l2), (3, .int l3), (4, .int l4), (5, .int l5)]) rfl ?_)
  obtain ⟨o, h1, hf⟩ := xbind hf
  refine xm_sub [1, 2, 3, 4, 5, 0] rfl (L_X12_gatherTwo_l67  h1 (fun g hg => ?_) (fun e he => ?_))
  · subst hg
    cases hf
    exact hR _ rfl
  · subst he
    rw [Sum.elim_inr] at hf
    have hf : f_X12_gatherTwo_j119 e.2 e.1 = some _ := hf
    exact xm_sub [0] rfl (L_X12_gatherTwo_j119 e.2 e.1 hf hR)
def f_X12_gatherTwo_j205 (σ : xM) (s0 : Int32) : Option (Int32 × xM) :=
  (xz s0).bind (fun b22 => some (b22, σ))
set_option maxHeartbeats 4000000 in
set_option maxRecDepth 20000 in
theorem L_X12_gatherTwo_j205 {G : xG} {π : Nat → Nat} {d C Z : Nat} {Q : xQ} (σ : xM) (s0 : Int32) {x : (Int32 × xM)} (hf : f_X12_gatherTwo_j205 σ s0 = some x) (hR : ∀ g, x = g → Q (.inl (some (.int g.1))) (g.2) π) : xMach G π J_X12_gatherTwo (d + 7) C Z 205 [] [.int s0] σ Q := by
  unfold f_X12_gatherTwo_j205 at hf
  obtain ⟨b22, eb22, hf⟩ := xbind hf
  obtain ⟨rfl, hz⟩ := xz_of eb22
  cases hf
  exact xm_zret dX12_gatherTwo_205 rfl hz (hR _ rfl)
def f_X12_gatherTwo_j204 (σ : xM)  : Option (Int32 × xM) :=
  f_X12_gatherTwo_j205 σ (0 : Int32)
set_option maxHeartbeats 4000000 in
set_option maxRecDepth 20000 in
theorem L_X12_gatherTwo_j204 {G : xG} {π : Nat → Nat} {d C Z : Nat} {Q : xQ} (σ : xM)  {x : (Int32 × xM)} (hf : f_X12_gatherTwo_j204 σ = some x) (hR : ∀ g, x = g → Q (.inl (some (.int g.1))) (g.2) π) : xMach G π J_X12_gatherTwo (d + 7) C Z 204 [] [] σ Q := by
  unfold f_X12_gatherTwo_j204 at hf
  refine xm_iconst dX12_gatherTwo_204 (v := 0) (by decide) ?_
  exact xm_sub [] rfl (L_X12_gatherTwo_j205 σ (0 : Int32) hf hR)
def f_X12_gatherTwo (σ : xM) (l0 : Nat) (l1 : Int32) (l2 : Int32) : Option (Int32 × xM) :=
  (gI σ l0 12 68).bind (fun x1 => (sI σ l0 12 68 (x1 - (1 : Int32))).bind (fun σ2 => (gI σ2 l0 12 68).bind (fun x3 => xlet (x3 - (1 : Int32)) (fun v4 => (gI σ2 l0 12 68).bind (fun x5 => xlet (1 : Int32) (fun v6 => (if l2 = (0 : Int32) then f_X12_gatherTwo_j64 σ2 l0 l2 v4 x5 v6 else (if l2 = (1 : Int32) then f_X12_gatherTwo_j64 σ2 l0 l2 v4 x5 v6 else (if l2 = (2 : Int32) then (if xk σ2 l0 12 = true then (f_X12_multiplyPolynomials σ2 l0 (x5 + (1 : Int32)) v4 x5).bind (fun p14 => (if xk p14.2 l0 12 = true then (f_X12_copyPolynomial p14.2 l0 v4 (x5 + (1 : Int32))).bind (fun p15 => (xz p14.1).bind (fun b16 => some (b16, p15))) else none)) else none) else (if l2 = (3 : Int32) then (if xk σ2 l0 12 = true then (f_X12_scalePolynomials σ2 l0 v4 x5).bind (fun p17 => (xz p17.1).bind (fun b18 => some (b18, p17.2))) else none) else (if l2 = (4 : Int32) then f_X12_gatherTwo_j206 σ2 else (if l2 = (5 : Int32) then (if xk σ2 l0 12 = true then (f_X12_child σ2 l0 l1 (1 : Int32)).bind (fun p19 => (gR σ2 l0 12 4).bind (fun x20 => (aI σ2 x20 14 p19).bind (fun x21 => (if x21 = (0 : Int32) then (gR σ2 l0 12 5).bind (fun x23 => (aI σ2 x23 14 p19).bind (fun x24 => (if (8 : Int32) < x24 then f_X12_gatherTwo_j204 σ2 else (gR σ2 l0 12 5).bind (fun x25 => (aI σ2 x25 14 p19).bind (fun x26 => (if xk σ2 l0 12 = true then (f_X12_raisePolynomial σ2 l0 v4 x26).bind (fun p27 => (if p27.1 = (0 : Int32) then f_X12_gatherTwo_j204 p27.2 else f_X12_gatherTwo_j205 p27.2 (1 : Int32))) else none)))))) else f_X12_gatherTwo_j204 σ2)))) else none) else f_X12_gatherTwo_j206 σ2))))))))))))
set_option maxHeartbeats 4000000 in
set_option maxRecDepth 20000 in
theorem m_X12_gatherTwo {G : xG} {π : Nat → Nat} {d C Z : Nat} {Q : xQ} {σ : xM} {l0 : Nat} {l1 : Int32} {l2 : Int32} {x : (Int32 × xM)} (hf : f_X12_gatherTwo σ l0 l1 l2 = some x) (hR : ∀ g, x = g → Q (.inl (some (.int g.1))) (g.2) π) : xMach G π J_X12_gatherTwo (d + 7) C Z 0 (lv_args 0 [.ref l0, .int l1, .int l2]) [] σ Q := by
  unfold f_X12_gatherTwo at hf
  refine xm_stL (L' := [(0, .ref l0), (1, .int l1), (2, .int l2)]) rfl ?_
  refine xm_aload_n dX12_gatherTwo_0 rfl ?_
  refine xm_dup dX12_gatherTwo_1 rfl ?_
  refine xb_getI (a := l0) (c := 12) (k := 68) dX12_gatherTwo_2 xcl12 (by decide) xw_1905 rfl hf (fun x1 ex1 hf => ?_)
  refine xm_iconst dX12_gatherTwo_5 (v := 1) (by decide) ?_
  refine xm_isub dX12_gatherTwo_6 ?_
  refine xb_putI (a := l0) (c := 12) (k := 68) dX12_gatherTwo_7 xcl12 (by decide) xw_1905 rfl rfl hf (fun σ2 eσ2 hf => ?_)
  refine xm_aload_n dX12_gatherTwo_10 rfl ?_
  refine xb_getI (a := l0) (c := 12) (k := 68) dX12_gatherTwo_11 xcl12 (by decide) xw_1905 rfl hf (fun x3 ex3 hf => ?_)
  refine xm_iconst dX12_gatherTwo_14 (v := 1) (by decide) ?_
  refine xm_isub dX12_gatherTwo_15 ?_
  refine xb_topi hf (fun v4 ev4 hf => ?_)
  refine xm_istore_n dX12_gatherTwo_16 (by decide) (xm_stL (L' := [(3, .int v4), (0, .ref l0), (1, .int l1), (2, .int l2)]) rfl ?_)
  refine xm_aload_n dX12_gatherTwo_17 rfl ?_
  refine xb_getI (a := l0) (c := 12) (k := 68) dX12_gatherTwo_18 xcl12 (by decide) xw_1905 rfl hf (fun x5 ex5 hf => ?_)
  refine xm_istore dX12_gatherTwo_21 (by decide) (xm_stL (L' := [(4, .int x5), (3, .int v4), (0, .ref l0), (1, .int l1), (2, .int l2)]) rfl ?_)
  refine xm_iconst dX12_gatherTwo_23 (v := 1) (by decide) ?_
  refine xb_topi hf (fun v6 ev6 hf => ?_)
  refine xm_istore dX12_gatherTwo_24 (by decide) (xm_stL (L' := [(5, .int v6), (4, .int x5), (3, .int v4), (0, .ref l0), (1, .int l1), (2, .int l2)]) rfl ?_)
  refine xm_iload_n dX12_gatherTwo_26 rfl ?_
  refine xb_if hf (fun c hf => ?_) (fun n0 hf => ?_)
  · refine xm_tableIn 64 dX12_gatherTwo_27 (by rw [c]; decide) (by rw [c]; decide) (by rw [c]; rfl) (by decide) ?_
    exact xm_sub [3, 5, 2, 1, 0] rfl (L_X12_gatherTwo_j64 σ2 l0 l2 v4 x5 v6 hf hR)
  refine xb_if hf (fun c hf => ?_) (fun n1 hf => ?_)
  · refine xm_tableIn 64 dX12_gatherTwo_27 (by rw [c]; decide) (by rw [c]; decide) (by rw [c]; rfl) (by decide) ?_
    exact xm_sub [3, 5, 2, 1, 0] rfl (L_X12_gatherTwo_j64 σ2 l0 l2 v4 x5 v6 hf hR)
  refine xb_if hf (fun c hf => ?_) (fun n2 hf => ?_)
  · refine xm_tableIn 122 dX12_gatherTwo_27 (by rw [c]; decide) (by rw [c]; decide) (by rw [c]; rfl) (by decide) ?_
    refine xm_aload_n dX12_gatherTwo_122 rfl ?_
    refine xm_iload dX12_gatherTwo_123 rfl ?_
    refine xm_iconst dX12_gatherTwo_125 (v := 1) (by decide) ?_
    refine xm_iadd dX12_gatherTwo_126 ?_
    refine xm_iload_n dX12_gatherTwo_127 rfl ?_
    refine xm_iload dX12_gatherTwo_128 rfl ?_
    refine xb_if hf (fun hb hf => ?_) (fun _ q => nomatch q)
    obtain ⟨p14, ep14, hf⟩ := xbind hf
    refine xb_callV (As := [.int (x5 + (1 : Int32)), .int v4, .int x5]) (v0 := (some (.int p14.1))) (τ0 := p14.2) dX12_gatherTwo_130 (xc_X12_multiplyPolynomials _ _) xcl12 xw_2662 xw_2664 xs_196 hb rfl (Nat.le_of_ble_eq_true rfl) rfl (Nat.le_of_ble_eq_true rfl) (fun Q1 hq => m_X12_multiplyPolynomials (d := d + 0) ep14 (fun g hg => by subst hg; exact hq)) ?_
    refine xm_istore dX12_gatherTwo_133 (by decide) (xm_stL (L' := [(5, .int p14.1), (4, .int x5), (3, .int v4), (0, .ref l0), (1, .int l1), (2, .int l2)]) rfl ?_)
    refine xm_aload_n dX12_gatherTwo_135 rfl ?_
    refine xm_iload_n dX12_gatherTwo_136 rfl ?_
    refine xm_iload dX12_gatherTwo_137 rfl ?_
    refine xm_iconst dX12_gatherTwo_139 (v := 1) (by decide) ?_
    refine xm_iadd dX12_gatherTwo_140 ?_
    refine xb_if hf (fun hb hf => ?_) (fun _ q => nomatch q)
    obtain ⟨p15, ep15, hf⟩ := xbind hf
    refine xb_callV (As := [.int v4, .int (x5 + (1 : Int32))]) (v0 := none) (τ0 := p15) dX12_gatherTwo_141 (xc_X12_copyPolynomial _ _) xcl12 xw_2682 xw_2684 xs_201 hb rfl (Nat.le_of_ble_eq_true rfl) rfl (Nat.le_of_ble_eq_true rfl) (fun Q1 hq => m_X12_copyPolynomial (d := d + 5) ep15 (fun g hg => by subst hg; exact hq)) ?_
    refine xm_iload dX12_gatherTwo_144 rfl ?_
    obtain ⟨b16, eb16, hf⟩ := xbind hf
    obtain ⟨rfl, hz⟩ := xz_of eb16
    cases hf
    exact xm_zret dX12_gatherTwo_146 rfl hz (hR _ rfl)
  refine xb_if hf (fun c hf => ?_) (fun n3 hf => ?_)
  · refine xm_tableIn 147 dX12_gatherTwo_27 (by rw [c]; decide) (by rw [c]; decide) (by rw [c]; rfl) (by decide) ?_
    refine xm_aload_n dX12_gatherTwo_147 rfl ?_
    refine xm_iload_n dX12_gatherTwo_148 rfl ?_
    refine xm_iload dX12_gatherTwo_149 rfl ?_
    refine xb_if hf (fun hb hf => ?_) (fun _ q => nomatch q)
    obtain ⟨p17, ep17, hf⟩ := xbind hf
    refine xb_callV (As := [.int v4, .int x5]) (v0 := (some (.int p17.1))) (τ0 := p17.2) dX12_gatherTwo_151 (xc_X12_scalePolynomials _ _) xcl12 xw_2686 xw_2688 xs_202 hb rfl (Nat.le_of_ble_eq_true rfl) rfl (Nat.le_of_ble_eq_true rfl) (fun Q1 hq => m_X12_scalePolynomials (d := d + 0) ep17 (fun g hg => by subst hg; exact hq)) ?_
    obtain ⟨b18, eb18, hf⟩ := xbind hf
    obtain ⟨rfl, hz⟩ := xz_of eb18
    cases hf
    exact xm_zret dX12_gatherTwo_154 rfl hz (hR _ rfl)
  refine xb_if hf (fun c hf => ?_) (fun n4 hf => ?_)
  · refine xm_tableIn 206 dX12_gatherTwo_27 (by rw [c]; decide) (by rw [c]; decide) (by rw [c]; rfl) (by decide) ?_
    exact xm_sub [] rfl (L_X12_gatherTwo_j206 σ2 hf hR)
  refine xb_if hf (fun c hf => ?_) (fun n5 hf => ?_)
  · refine xm_tableIn 155 dX12_gatherTwo_27 (by rw [c]; decide) (by rw [c]; decide) (by rw [c]; rfl) (by decide) ?_
    refine xm_aload_n dX12_gatherTwo_155 rfl ?_
    refine xm_iload_n dX12_gatherTwo_156 rfl ?_
    refine xm_iconst dX12_gatherTwo_157 (v := 1) (by decide) ?_
    refine xb_if hf (fun hb hf => ?_) (fun _ q => nomatch q)
    obtain ⟨p19, ep19, hf⟩ := xbind hf
    refine xb_callV (As := [.int l1, .int (1 : Int32)]) (v0 := (some (.int p19))) (τ0 := σ2) dX12_gatherTwo_158 (xc_X12_child _ _) xcl12 xw_2303 xw_2305 xs_123 hb rfl (Nat.le_of_ble_eq_true rfl) rfl (Nat.le_of_ble_eq_true rfl) (fun Q1 hq => m_X12_child (d := d + 6) ep19 (fun g hg => by subst hg; exact hq)) ?_
    refine xm_istore dX12_gatherTwo_161 (by decide) (xm_stL (L' := [(6, .int p19), (5, .int v6), (4, .int x5), (3, .int v4), (0, .ref l0), (1, .int l1), (2, .int l2)]) rfl ?_)
    refine xm_aload_n dX12_gatherTwo_163 rfl ?_
    refine xb_getR (a := l0) (c := 12) (k := 4) dX12_gatherTwo_164 xcl12 (by decide) xw_1841 rfl hf (fun x20 ex20 hf => ?_)
    refine xm_iload dX12_gatherTwo_167 rfl ?_
    refine xb_iald dX12_gatherTwo_169 hf (fun x21 ex21 hf => ?_)
    refine xb_if_ne 204 dX12_gatherTwo_170 (by decide) hf (fun c hf => ?_) (fun c hf => ?_)
    · exact xm_sub [] rfl (L_X12_gatherTwo_j204 σ2 hf hR)
    · refine xm_aload_n dX12_gatherTwo_173 rfl ?_
      refine xb_getR (a := l0) (c := 12) (k := 5) dX12_gatherTwo_174 xcl12 (by decide) xw_1842 rfl hf (fun x23 ex23 hf => ?_)
      refine xm_iload dX12_gatherTwo_177 rfl ?_
      refine xb_iald dX12_gatherTwo_179 hf (fun x24 ex24 hf => ?_)
      refine xm_bipush dX12_gatherTwo_180 (v := 8) (by decide) ?_
      refine xb_icmp_gt 204 dX12_gatherTwo_182 (by decide) hf (fun c hf => ?_) (fun c hf => ?_)
      · exact xm_sub [] rfl (L_X12_gatherTwo_j204 σ2 hf hR)
      · refine xm_aload_n dX12_gatherTwo_185 rfl ?_
        refine xm_iload_n dX12_gatherTwo_186 rfl ?_
        refine xm_aload_n dX12_gatherTwo_187 rfl ?_
        refine xb_getR (a := l0) (c := 12) (k := 5) dX12_gatherTwo_188 xcl12 (by decide) xw_1842 rfl hf (fun x25 ex25 hf => ?_)
        refine xm_iload dX12_gatherTwo_191 rfl ?_
        refine xb_iald dX12_gatherTwo_193 hf (fun x26 ex26 hf => ?_)
        refine xb_if hf (fun hb hf => ?_) (fun _ q => nomatch q)
        obtain ⟨p27, ep27, hf⟩ := xbind hf
        refine xb_callV (As := [.int v4, .int x26]) (v0 := (some (.int p27.1))) (τ0 := p27.2) dX12_gatherTwo_194 (xc_X12_raisePolynomial _ _) xcl12 xw_2690 xw_2692 xs_203 hb rfl (Nat.le_of_ble_eq_true rfl) rfl (Nat.le_of_ble_eq_true rfl) (fun Q1 hq => m_X12_raisePolynomial (d := d + 1) ep27 (fun g hg => by subst hg; exact hq)) ?_
        refine xb_if_eq 204 dX12_gatherTwo_197 (by decide) hf (fun c hf => ?_) (fun c hf => ?_)
        · exact xm_sub [] rfl (L_X12_gatherTwo_j204 p27.2 hf hR)
        · refine xm_iconst dX12_gatherTwo_200 (v := 1) (by decide) ?_
          refine xm_goto 205 dX12_gatherTwo_201 (by decide) ?_
          exact xm_sub [] rfl (L_X12_gatherTwo_j205 p27.2 (1 : Int32) hf hR)
  refine xm_tableOut 206 dX12_gatherTwo_27 (by have q0 := lv_neT (a := 0) n0 (by decide); have q1 := lv_neT (a := 1) n1 (by decide); have q2 := lv_neT (a := 2) n2 (by decide); have q3 := lv_neT (a := 3) n3 (by decide); have q4 := lv_neT (a := 4) n4 (by decide); have q5 := lv_neT (a := 5) n5 (by decide); omega) (by decide) ?_
  exact xm_sub [] rfl (L_X12_gatherTwo_j206 σ2 hf hR)
-- RankwiseModel.gatherNode(II)Z
def f_X12_gatherNode_j148 (σ : xM) (s0 : Int32) : Option (Int32 × xM) :=
  (xz s0).bind (fun b17 => some (b17, σ))
set_option maxHeartbeats 4000000 in
set_option maxRecDepth 20000 in
theorem L_X12_gatherNode_j148 {G : xG} {π : Nat → Nat} {d C Z : Nat} {Q : xQ} (σ : xM) (s0 : Int32) {x : (Int32 × xM)} (hf : f_X12_gatherNode_j148 σ s0 = some x) (hR : ∀ g, x = g → Q (.inl (some (.int g.1))) (g.2) π) : xMach G π J_X12_gatherNode (d + 8) C Z 148 [] [.int s0] σ Q := by
  unfold f_X12_gatherNode_j148 at hf
  obtain ⟨b17, eb17, hf⟩ := xbind hf
  obtain ⟨rfl, hz⟩ := xz_of eb17
  cases hf
  exact xm_zret dX12_gatherNode_148 rfl hz (hR _ rfl)
def f_X12_gatherNode_j143 (σ : xM)  : Option (Int32 × xM) :=
  f_X12_gatherNode_j148 σ (1 : Int32)
set_option maxHeartbeats 4000000 in
set_option maxRecDepth 20000 in
theorem L_X12_gatherNode_j143 {G : xG} {π : Nat → Nat} {d C Z : Nat} {Q : xQ} (σ : xM)  {x : (Int32 × xM)} (hf : f_X12_gatherNode_j143 σ = some x) (hR : ∀ g, x = g → Q (.inl (some (.int g.1))) (g.2) π) : xMach G π J_X12_gatherNode (d + 8) C Z 143 [] [] σ Q := by
  unfold f_X12_gatherNode_j143 at hf
  refine xm_iconst dX12_gatherNode_143 (v := 1) (by decide) ?_
  refine xm_goto 148 dX12_gatherNode_144 (by decide) ?_
  exact xm_sub [] rfl (L_X12_gatherNode_j148 σ (1 : Int32) hf hR)
def f_X12_gatherNode_j107 (σ : xM) (l0 : Nat) (l1 : Int32) (l2 : Int32) : Option (Int32 × xM) :=
  (gR σ l0 12 5).bind (fun x15 => (aI σ x15 14 l1).bind (fun x16 => (if x16 = l2 then f_X12_gatherNode_j143 σ else (gR σ l0 12 4).bind (fun x18 => (aI σ x18 14 l1).bind (fun x19 => (if x19 = (0 : Int32) then f_X12_gatherNode_j143 σ else (gR σ l0 12 47).bind (fun x20 => (gR σ l0 12 5).bind (fun x21 => (aI σ x21 14 l1).bind (fun x22 => (aI σ x20 15 (x22 - (97 : Int32))).bind (fun x23 => (if x23 = (0 : Int32) then f_X12_gatherNode_j148 σ (0 : Int32) else f_X12_gatherNode_j143 σ)))))))))))
set_option maxHeartbeats 4000000 in
set_option maxRecDepth 20000 in
theorem L_X12_gatherNode_j107 {G : xG} {π : Nat → Nat} {d C Z : Nat} {Q : xQ} (σ : xM) (l0 : Nat) (l1 : Int32) (l2 : Int32) {x : (Int32 × xM)} (hf : f_X12_gatherNode_j107 σ l0 l1 l2 = some x) (hR : ∀ g, x = g → Q (.inl (some (.int g.1))) (g.2) π) : xMach G π J_X12_gatherNode (d + 8) C Z 107 [(0, .ref l0), (1, .int l1), (2, .int l2)] [] σ Q := by
  unfold f_X12_gatherNode_j107 at hf
  refine xm_aload_n dX12_gatherNode_107 rfl ?_
  refine xb_getR (a := l0) (c := 12) (k := 5) dX12_gatherNode_108 xcl12 (by decide) xw_1842 rfl hf (fun x15 ex15 hf => ?_)
  refine xm_iload_n dX12_gatherNode_111 rfl ?_
  refine xb_iald dX12_gatherNode_112 hf (fun x16 ex16 hf => ?_)
  refine xm_iload_n dX12_gatherNode_113 rfl ?_
  refine xb_icmp_eq 143 dX12_gatherNode_114 (by decide) hf (fun c hf => ?_) (fun c hf => ?_)
  · exact xm_sub [] rfl (L_X12_gatherNode_j143 σ hf hR)
  · refine xm_aload_n dX12_gatherNode_117 rfl ?_
    refine xb_getR (a := l0) (c := 12) (k := 4) dX12_gatherNode_118 xcl12 (by decide) xw_1841 rfl hf (fun x18 ex18 hf => ?_)
    refine xm_iload_n dX12_gatherNode_121 rfl ?_
    refine xb_iald dX12_gatherNode_122 hf (fun x19 ex19 hf => ?_)
    refine xb_if_eq 143 dX12_gatherNode_123 (by decide) hf (fun c hf => ?_) (fun c hf => ?_)
    · exact xm_sub [] rfl (L_X12_gatherNode_j143 σ hf hR)
    · refine xm_aload_n dX12_gatherNode_126 rfl ?_
      refine xb_getR (a := l0) (c := 12) (k := 47) dX12_gatherNode_127 xcl12 (by decide) xw_1884 rfl hf (fun x20 ex20 hf => ?_)
      refine xm_aload_n dX12_gatherNode_130 rfl ?_
      refine xb_getR (a := l0) (c := 12) (k := 5) dX12_gatherNode_131 xcl12 (by decide) xw_1842 rfl hf (fun x21 ex21 hf => ?_)
      refine xm_iload_n dX12_gatherNode_134 rfl ?_
      refine xb_iald dX12_gatherNode_135 hf (fun x22 ex22 hf => ?_)
      refine xm_bipush dX12_gatherNode_136 (v := 97) (by decide) ?_
      refine xm_isub dX12_gatherNode_138 ?_
      refine xb_zald dX12_gatherNode_139 hf (fun x23 ex23 hf => ?_)
      refine xb_if_eq 147 dX12_gatherNode_140 (by decide) hf (fun c hf => ?_) (fun c hf => ?_)
      · refine xm_iconst dX12_gatherNode_147 (v := 0) (by decide) ?_
        exact xm_sub [] rfl (L_X12_gatherNode_j148 σ (0 : Int32) hf hR)
      · exact xm_sub [] rfl (L_X12_gatherNode_j143 σ hf hR)
def f_X12_gatherNode_j19 (σ : xM) (l0 : Nat) (l1 : Int32) (l2 : Int32) : Option (Int32 × xM) :=
  (gI σ l0 12 68).bind (fun x3 => (if xk σ l0 12 = true then (f_X12_clear σ l0 x3).bind (fun p4 => (gI p4 l0 12 68).bind (fun x5 => (sI p4 l0 12 68 (x5 + (1 : Int32))).bind (fun σ6 => (gR σ6 l0 12 4).bind (fun x7 => (aI σ6 x7 14 l1).bind (fun x8 => (if x8 = (0 : Int32) then (f_X12_coefficientAt σ6 x3 (0 : Int32)).bind (fun p26 => (gR σ6 l0 12 5).bind (fun x27 => (aI σ6 x27 14 l1).bind (fun x28 => (if xk σ6 l0 12 = true then (f_X12_setInt σ6 l0 p26 x28).bind (fun p29 => f_X12_gatherNode_j107 p29 l0 l1 l2) else none)))) else (gR σ6 l0 12 5).bind (fun x9 => (aI σ6 x9 14 l1).bind (fun x10 => (if x10 = l2 then (f_X12_coefficientAt σ6 x3 (1 : Int32)).bind (fun p24 => (if xk σ6 l0 12 = true then (f_X12_setInt σ6 l0 p24 (1 : Int32)).bind (fun p25 => f_X12_gatherNode_j107 p25 l0 l1 l2) else none)) else (f_X12_coefficientAt σ6 x3 (0 : Int32)).bind (fun p11 => (gR σ6 l0 12 5).bind (fun x12 => (aI σ6 x12 14 l1).bind (fun x13 => (if xk σ6 l0 12 = true then (f_X12_copyValue σ6 l0 p11 (x13 - (97 : Int32))).bind (fun p14 => f_X12_gatherNode_j107 p14 l0 l1 l2) else none))))))))))))) else none))
set_option maxHeartbeats 4000000 in
set_option maxRecDepth 20000 in
theorem L_X12_gatherNode_j19 {G : xG} {π : Nat → Nat} {d C Z : Nat} {Q : xQ} (σ : xM) (l0 : Nat) (l1 : Int32) (l2 : Int32) {x : (Int32 × xM)} (hf : f_X12_gatherNode_j19 σ l0 l1 l2 = some x) (hR : ∀ g, x = g → Q (.inl (some (.int g.1))) (g.2) π) : xMach G π J_X12_gatherNode (d + 8) C Z 19 [(0, .ref l0), (1, .int l1), (2, .int l2)] [] σ Q := by
  unfold f_X12_gatherNode_j19 at hf
  refine xm_aload_n dX12_gatherNode_19 rfl ?_
  refine xb_getI (a := l0) (c := 12) (k := 68) dX12_gatherNode_20 xcl12 (by decide) xw_1905 rfl hf (fun x3 ex3 hf => ?_)
  refine xm_istore_n dX12_gatherNode_23 (by decide) (xm_stL (L' := [(3, .int x3), (0, .ref l0), (1, .int l1), (2, .int l2)]) rfl ?_)
  refine xm_aload_n dX12_gatherNode_24 rfl ?_
  refine xm_iload_n dX12_gatherNode_25 rfl ?_
  refine xb_if hf (fun hb hf => ?_) (fun _ q => nomatch q)
  obtain ⟨p4, ep4, hf⟩ := xbind hf
  refine xb_callV (As := [.int x3]) (v0 := none) (τ0 := p4) dX12_gatherNode_26 (xc_X12_clear _ _) xcl12 xw_2651 xw_2653 xs_194 hb rfl (Nat.le_of_ble_eq_true rfl) rfl (Nat.le_of_ble_eq_true rfl) (fun Q1 hq => m_X12_clear (d := d + 4) ep4 (fun g hg => by subst hg; exact hq)) ?_
  refine xm_aload_n dX12_gatherNode_29 rfl ?_
  refine xm_dup dX12_gatherNode_30 rfl ?_
  refine xb_getI (a := l0) (c := 12) (k := 68) dX12_gatherNode_31 xcl12 (by decide) xw_1905 rfl hf (fun x5 ex5 hf => ?_)
  refine xm_iconst dX12_gatherNode_34 (v := 1) (by decide) ?_
  refine xm_iadd dX12_gatherNode_35 ?_
  refine xb_putI (a := l0) (c := 12) (k := 68) dX12_gatherNode_36 xcl12 (by decide) xw_1905 rfl rfl hf (fun σ6 eσ6 hf => ?_)
  refine xm_aload_n dX12_gatherNode_39 rfl ?_
  refine xb_getR (a := l0) (c := 12) (k := 4) dX12_gatherNode_40 xcl12 (by decide) xw_1841 rfl hf (fun x7 ex7 hf => ?_)
  refine xm_iload_n dX12_gatherNode_43 rfl ?_
  refine xb_iald dX12_gatherNode_44 hf (fun x8 ex8 hf => ?_)
  refine xb_if_ne 66 dX12_gatherNode_45 (by decide) hf (fun c hf => ?_) (fun c hf => ?_)
  · refine xm_aload_n dX12_gatherNode_66 rfl ?_
    refine xb_getR (a := l0) (c := 12) (k := 5) dX12_gatherNode_67 xcl12 (by decide) xw_1842 rfl hf (fun x9 ex9 hf => ?_)
    refine xm_iload_n dX12_gatherNode_70 rfl ?_
    refine xb_iald dX12_gatherNode_71 hf (fun x10 ex10 hf => ?_)
    refine xm_iload_n dX12_gatherNode_72 rfl ?_
    refine xb_icmp_ne 89 dX12_gatherNode_73 (by decide) hf (fun c hf => ?_) (fun c hf => ?_)
    · refine xm_aload_n dX12_gatherNode_89 rfl ?_
      refine xm_iload_n dX12_gatherNode_90 rfl ?_
      refine xm_iconst dX12_gatherNode_91 (v := 0) (by decide) ?_
      obtain ⟨p11, ep11, hf⟩ := xbind hf
      refine xb_callS (As := [.int x3, .int (0 : Int32)]) (v0 := (some (.int p11))) (τ0 := σ6) dX12_gatherNode_92 (xc_X12_coefficientAt _ _) xw_2655 xw_2656 rfl (Nat.le_of_ble_eq_true rfl) rfl (Nat.le_of_ble_eq_true rfl) (fun Q1 hq => m_X12_coefficientAt (d := d + 7) ep11 (fun g hg => by subst hg; exact hq)) ?_
      refine xm_aload_n dX12_gatherNode_95 rfl ?_
      refine xb_getR (a := l0) (c := 12) (k := 5) dX12_gatherNode_96 xcl12 (by decide) xw_1842 rfl hf (fun x12 ex12 hf => ?_)
      refine xm_iload_n dX12_gatherNode_99 rfl ?_
      refine xb_iald dX12_gatherNode_100 hf (fun x13 ex13 hf => ?_)
      refine xm_bipush dX12_gatherNode_101 (v := 97) (by decide) ?_
      refine xm_isub dX12_gatherNode_103 ?_
      refine xb_if hf (fun hb hf => ?_) (fun _ q => nomatch q)
      obtain ⟨p14, ep14, hf⟩ := xbind hf
      refine xb_callV (As := [.int p11, .int (x13 - (97 : Int32))]) (v0 := none) (τ0 := p14) dX12_gatherNode_104 (xc_X12_copyValue _ _) xcl12 xw_2100 xw_2102 xs_88 hb rfl (Nat.le_of_ble_eq_true rfl) rfl (Nat.le_of_ble_eq_true rfl) (fun Q1 hq => m_X12_copyValue (d := d + 7) ep14 (fun g hg => by subst hg; exact hq)) ?_
      exact xm_sub [1, 2, 3] rfl (L_X12_gatherNode_j107 p14 l0 l1 l2 hf hR)
    · refine xm_aload_n dX12_gatherNode_76 rfl ?_
      refine xm_iload_n dX12_gatherNode_77 rfl ?_
      refine xm_iconst dX12_gatherNode_78 (v := 1) (by decide) ?_
      obtain ⟨p24, ep24, hf⟩ := xbind hf
      refine xb_callS (As := [.int x3, .int (1 : Int32)]) (v0 := (some (.int p24))) (τ0 := σ6) dX12_gatherNode_79 (xc_X12_coefficientAt _ _) xw_2655 xw_2656 rfl (Nat.le_of_ble_eq_true rfl) rfl (Nat.le_of_ble_eq_true rfl) (fun Q1 hq => m_X12_coefficientAt (d := d + 7) ep24 (fun g hg => by subst hg; exact hq)) ?_
      refine xm_iconst dX12_gatherNode_82 (v := 1) (by decide) ?_
      refine xb_if hf (fun hb hf => ?_) (fun _ q => nomatch q)
      obtain ⟨p25, ep25, hf⟩ := xbind hf
      refine xb_callV (As := [.int p24, .int (1 : Int32)]) (v0 := none) (τ0 := p25) dX12_gatherNode_83 (xc_X12_setInt _ _) xcl12 xw_1820 xw_1822 xs_84 hb rfl (Nat.le_of_ble_eq_true rfl) rfl (Nat.le_of_ble_eq_true rfl) (fun Q1 hq => m_X12_setInt (d := d + 5) ep25 (fun g hg => by subst hg; exact hq)) ?_
      refine xm_goto 107 dX12_gatherNode_86 (by decide) ?_
      exact xm_sub [1, 2, 3] rfl (L_X12_gatherNode_j107 p25 l0 l1 l2 hf hR)
  · refine xm_aload_n dX12_gatherNode_48 rfl ?_
    refine xm_iload_n dX12_gatherNode_49 rfl ?_
    refine xm_iconst dX12_gatherNode_50 (v := 0) (by decide) ?_
    obtain ⟨p26, ep26, hf⟩ := xbind hf
    refine xb_callS (As := [.int x3, .int (0 : Int32)]) (v0 := (some (.int p26))) (τ0 := σ6) dX12_gatherNode_51 (xc_X12_coefficientAt _ _) xw_2655 xw_2656 rfl (Nat.le_of_ble_eq_true rfl) rfl (Nat.le_of_ble_eq_true rfl) (fun Q1 hq => m_X12_coefficientAt (d := d + 7) ep26 (fun g hg => by subst hg; exact hq)) ?_
    refine xm_aload_n dX12_gatherNode_54 rfl ?_
    refine xb_getR (a := l0) (c := 12) (k := 5) dX12_gatherNode_55 xcl12 (by decide) xw_1842 rfl hf (fun x27 ex27 hf => ?_)
    refine xm_iload_n dX12_gatherNode_58 rfl ?_
    refine xb_iald dX12_gatherNode_59 hf (fun x28 ex28 hf => ?_)
    refine xb_if hf (fun hb hf => ?_) (fun _ q => nomatch q)
    obtain ⟨p29, ep29, hf⟩ := xbind hf
    refine xb_callV (As := [.int p26, .int x28]) (v0 := none) (τ0 := p29) dX12_gatherNode_60 (xc_X12_setInt _ _) xcl12 xw_1820 xw_1822 xs_84 hb rfl (Nat.le_of_ble_eq_true rfl) rfl (Nat.le_of_ble_eq_true rfl) (fun Q1 hq => m_X12_setInt (d := d + 5) ep29 (fun g hg => by subst hg; exact hq)) ?_
    refine xm_goto 107 dX12_gatherNode_63 (by decide) ?_
    exact xm_sub [1, 2, 3] rfl (L_X12_gatherNode_j107 p29 l0 l1 l2 hf hR)
def f_X12_gatherNode_j181 (σ : xM)  : Option (Int32 × xM) :=
  some ((0 : Int32), σ)
set_option maxHeartbeats 4000000 in
set_option maxRecDepth 20000 in
theorem L_X12_gatherNode_j181 {G : xG} {π : Nat → Nat} {d C Z : Nat} {Q : xQ} (σ : xM)  {x : (Int32 × xM)} (hf : f_X12_gatherNode_j181 σ = some x) (hR : ∀ g, x = g → Q (.inl (some (.int g.1))) (g.2) π) : xMach G π J_X12_gatherNode (d + 8) C Z 181 [] [] σ Q := by
  unfold f_X12_gatherNode_j181 at hf
  refine xm_iconst dX12_gatherNode_181 (v := 0) (by decide) ?_
  cases hf
  exact xm_zret dX12_gatherNode_182 rfl rfl (hR _ rfl)
def f_X12_gatherNode_s203 (s : (Nat × Int32 × xM)) : Option ((Int32 × xM) ⊕ ((xM) ⊕ (Nat × Int32 × xM))) :=
  xlet s.1 (fun l0 => xlet s.2.1 (fun l4 => xlet s.2.2 (fun σ => (if (9 : Int32) ≤ l4 then some (Sum.inr (Sum.inl σ)) else (gI σ l0 12 68).bind (fun x40 => (f_X12_coefficientAt σ (x40 - (1 : Int32)) l4).bind (fun p41 => (gR σ l0 12 3).bind (fun x42 => (if xk σ l0 12 = true then (f_X12_sign σ l0 p41).bind (fun p43 => (wI σ x42 ((28 : Int32) * p41) (-p43)).bind (fun σ44 => xlet (l4 + (1 : Int32)) (fun v45 => some (Sum.inr (Sum.inr (l0, v45, σ44)))))) else none))))))))
set_option maxHeartbeats 4000000 in
set_option maxRecDepth 20000 in
theorem L_X12_gatherNode_s203 {G : xG} {π : Nat → Nat} {d C Z : Nat} {Q : xQ} (σ : xM) (l0 : Nat) (l4 : Int32) {x : ((Int32 × xM) ⊕ ((xM) ⊕ (Nat × Int32 × xM)))} (hf : f_X12_gatherNode_s203 (l0, l4, σ) = some x) (hR : ∀ g, x = Sum.inl (g) → Q (.inl (some (.int g.1))) (g.2) π) (hE : ∀ e : (xM), x = Sum.inr (Sum.inl e) → xMach G π J_X12_gatherNode (d + 8) C Z 246 [] [] e Q) (hC : ∀ e : (Nat × Int32 × xM), x = Sum.inr (Sum.inr e) → xMach G π J_X12_gatherNode (d + 8) C Z 203 [(0, .ref e.1), (4, .int e.2.1)] [] e.2.2 Q) : xMach G π J_X12_gatherNode (d + 8) C Z 203 [(0, .ref l0), (4, .int l4)] [] σ Q := by
  have hf : (if (9 : Int32) ≤ l4 then some (Sum.inr (Sum.inl σ)) else (gI σ l0 12 68).bind (fun x40 => (f_X12_coefficientAt σ (x40 - (1 : Int32)) l4).bind (fun p41 => (gR σ l0 12 3).bind (fun x42 => (if xk σ l0 12 = true then (f_X12_sign σ l0 p41).bind (fun p43 => (wI σ x42 ((28 : Int32) * p41) (-p43)).bind (fun σ44 => xlet (l4 + (1 : Int32)) (fun v45 => some (Sum.inr (Sum.inr (l0, v45, σ44)))))) else none))))) = some x := hf
  refine xm_iload dX12_gatherNode_203 rfl ?_
  refine xm_bipush dX12_gatherNode_205 (v := 9) (by decide) ?_
  refine xb_icmp_ge 246 dX12_gatherNode_207 (by decide) hf (fun c hf => ?_) (fun c hf => ?_)
  · cases hf
    exact xm_sub [] rfl (hE _ rfl)
  · refine xm_aload_n dX12_gatherNode_210 rfl ?_
    refine xb_getI (a := l0) (c := 12) (k := 68) dX12_gatherNode_211 xcl12 (by decide) xw_1905 rfl hf (fun x40 ex40 hf => ?_)
    refine xm_iconst dX12_gatherNode_214 (v := 1) (by decide) ?_
    refine xm_isub dX12_gatherNode_215 ?_
    refine xm_iload dX12_gatherNode_216 rfl ?_
    obtain ⟨p41, ep41, hf⟩ := xbind hf
    refine xb_callS (As := [.int (x40 - (1 : Int32)), .int l4]) (v0 := (some (.int p41))) (τ0 := σ) dX12_gatherNode_218 (xc_X12_coefficientAt _ _) xw_2655 xw_2656 rfl (Nat.le_of_ble_eq_true rfl) rfl (Nat.le_of_ble_eq_true rfl) (fun Q1 hq => m_X12_coefficientAt (d := d + 7) ep41 (fun g hg => by subst hg; exact hq)) ?_
    refine xm_istore dX12_gatherNode_221 (by decide) (xm_stL (L' := [(5, .int p41), (0, .ref l0), (4, .int l4)]) rfl ?_)
    refine xm_aload_n dX12_gatherNode_223 rfl ?_
    refine xb_getR (a := l0) (c := 12) (k := 3) dX12_gatherNode_224 xcl12 (by decide) xw_1840 rfl hf (fun x42 ex42 hf => ?_)
    refine xm_bipush dX12_gatherNode_227 (v := 28) (by decide) ?_
    refine xm_iload dX12_gatherNode_229 rfl ?_
    refine xm_imul dX12_gatherNode_231 ?_
    refine xm_aload_n dX12_gatherNode_232 rfl ?_
    refine xm_iload dX12_gatherNode_233 rfl ?_
    refine xb_if hf (fun hb hf => ?_) (fun _ q => nomatch q)
    obtain ⟨p43, ep43, hf⟩ := xbind hf
    refine xb_callV (As := [.int p41]) (v0 := (some (.int p43))) (τ0 := σ) dX12_gatherNode_235 (xc_X12_sign _ _) xcl12 xw_2387 xw_2389 xs_141 hb rfl (Nat.le_of_ble_eq_true rfl) rfl (Nat.le_of_ble_eq_true rfl) (fun Q1 hq => m_X12_sign (d := d + 7) ep43 (fun g hg => by subst hg; exact hq)) ?_
    refine xm_ineg dX12_gatherNode_238 ?_
    refine xb_iast dX12_gatherNode_239 hf (fun σ44 eσ44 hf => ?_)
    refine xb_iinc dX12_gatherNode_240 rfl (by decide) (by decide) hf (fun v45 ev45 hf => xm_stL (L' := [(4, .int v45), (5, .int p41), (0, .ref l0)]) rfl ?_)
    refine xm_goto 203 dX12_gatherNode_243 (by decide) ?_
    cases hf
    exact xm_sub [2, 0] rfl (hC _ rfl)
theorem L_X12_gatherNode_l203 {G : xG} {π : Nat → Nat} {d C Z : Nat} {Q : xQ} {s0 : (Nat × Int32 × xM)} {x : ((Int32 × xM) ⊕ (xM))} (h1 : xloop (f_X12_gatherNode_s203) xF s0 = some x) (hR : ∀ g, x = Sum.inl g → Q (.inl (some (.int g.1))) (g.2) π) (hE : ∀ e : (xM), x = Sum.inr e → xMach G π J_X12_gatherNode (d + 8) C Z 246 [] [] e Q) : xMach G π J_X12_gatherNode (d + 8) C Z 203 [(0, .ref s0.1), (4, .int s0.2.1)] [] s0.2.2 Q := by
  refine xloop_run (M := (fun s : (Nat × Int32 × xM) => xMach G π J_X12_gatherNode (d + 8) C Z 203 [(0, .ref s.1), (4, .int s.2.1)] [] s.2.2 Q)) (r := x) ?_ xF _ h1
  intro s y hs hx
  exact L_X12_gatherNode_s203 s.2.2 s.1 s.2.1 (x := y) hs (fun g hg => by subst hg; exact hR g hx) (fun e he => by subst he; exact hE e hx) (fun e he => by subst he; exact hx)
def f_X12_gatherNode_j246 (σ : xM)  : Option (Int32 × xM) :=
  some ((1 : Int32), σ)
set_option maxHeartbeats 4000000 in
set_option maxRecDepth 20000 in
theorem L_X12_gatherNode_j246 {G : xG} {π : Nat → Nat} {d C Z : Nat} {Q : xQ} (σ : xM)  {x : (Int32 × xM)} (hf : f_X12_gatherNode_j246 σ = some x) (hR : ∀ g, x = g → Q (.inl (some (.int g.1))) (g.2) π) : xMach G π J_X12_gatherNode (d + 8) C Z 246 [] [] σ Q := by
  unfold f_X12_gatherNode_j246 at hf
  refine xm_iconst dX12_gatherNode_246 (v := 1) (by decide) ?_
  cases hf
  exact xm_zret dX12_gatherNode_247 rfl rfl (hR _ rfl)
def f_X12_gatherNode_j183 (σ : xM) (l0 : Nat) (l1 : Int32) (l3 : Int32) : Option (Int32 × xM) :=
  (gR σ l0 12 7).bind (fun x37 => (aI σ x37 14 l1).bind (fun x38 => (if x38 = (2 : Int32) then (if xk σ l0 12 = true then (f_X12_gatherTwo σ l0 l1 l3).bind (fun p46 => (xz p46.1).bind (fun b47 => some (b47, p46.2))) else none) else xlet (0 : Int32) (fun v39 => (xloop (f_X12_gatherNode_s203 ) xF (l0, v39, σ)).bind (Sum.elim (fun g => some g) (fun e => f_X12_gatherNode_j246 e))))))
set_option maxHeartbeats 4000000 in
set_option maxRecDepth 20000 in
theorem L_X12_gatherNode_j183 {G : xG} {π : Nat → Nat} {d C Z : Nat} {Q : xQ} (σ : xM) (l0 : Nat) (l1 : Int32) (l3 : Int32) {x : (Int32 × xM)} (hf : f_X12_gatherNode_j183 σ l0 l1 l3 = some x) (hR : ∀ g, x = g → Q (.inl (some (.int g.1))) (g.2) π) : xMach G π J_X12_gatherNode (d + 8) C Z 183 [(0, .ref l0), (1, .int l1), (3, .int l3)] [] σ Q := by
  unfold f_X12_gatherNode_j183 at hf
  refine xm_aload_n dX12_gatherNode_183 rfl ?_
  refine xb_getR (a := l0) (c := 12) (k := 7) dX12_gatherNode_184 xcl12 (by decide) xw_1844 rfl hf (fun x37 ex37 hf => ?_)
  refine xm_iload_n dX12_gatherNode_187 rfl ?_
  refine xb_iald dX12_gatherNode_188 hf (fun x38 ex38 hf => ?_)
  refine xm_iconst dX12_gatherNode_189 (v := 2) (by decide) ?_
  refine xb_icmp_ne 200 dX12_gatherNode_190 (by decide) hf (fun c hf => ?_) (fun c hf => ?_)
  · refine xm_iconst dX12_gatherNode_200 (v := 0) (by decide) ?_
    refine xb_topi hf (fun v39 ev39 hf => ?_)
    refine xm_istore dX12_gatherNode_201 (by decide) (xm_stL (L' := [(4, .int v39), (0, .ref l0), (1, .int l1), (3, .int l3)]) rfl ?_)
    obtain ⟨o, h1, hf⟩ := xbind hf
    refine xm_sub [1, 0] rfl (L_X12_gatherNode_l203  h1 (fun g hg => ?_) (fun e he => ?_))
    · subst hg
      cases hf
      exact hR _ rfl
    · subst he
      rw [Sum.elim_inr] at hf
      have hf : f_X12_gatherNode_j246 e = some _ := hf
      exact xm_sub [] rfl (L_X12_gatherNode_j246 e hf hR)
  · refine xm_aload_n dX12_gatherNode_193 rfl ?_
    refine xm_iload_n dX12_gatherNode_194 rfl ?_
    refine xm_iload_n dX12_gatherNode_195 rfl ?_
    refine xb_if hf (fun hb hf => ?_) (fun _ q => nomatch q)
    obtain ⟨p46, ep46, hf⟩ := xbind hf
    refine xb_callV (As := [.int l1, .int l3]) (v0 := (some (.int p46.1))) (τ0 := p46.2) dX12_gatherNode_196 (xc_X12_gatherTwo _ _) xcl12 xw_2658 xw_2660 xs_195 hb rfl (Nat.le_of_ble_eq_true rfl) rfl (Nat.le_of_ble_eq_true rfl) (fun Q1 hq => m_X12_gatherTwo (d := d + 0) ep46 (fun g hg => by subst hg; exact hq)) ?_
    obtain ⟨b47, eb47, hf⟩ := xbind hf
    obtain ⟨rfl, hz⟩ := xz_of eb47
    cases hf
    exact xm_zret dX12_gatherNode_199 rfl hz (hR _ rfl)
def f_X12_gatherNode (σ : xM) (l0 : Nat) (l1 : Int32) (l2 : Int32) : Option (Int32 × xM) :=
  (gR σ l0 12 4).bind (fun x1 => (aI σ x1 14 l1).bind (fun x2 => (if x2 = (0 : Int32) then f_X12_gatherNode_j19 σ l0 l1 l2 else (gR σ l0 12 4).bind (fun x30 => (aI σ x30 14 l1).bind (fun x31 => (if x31 = (1 : Int32) then f_X12_gatherNode_j19 σ l0 l1 l2 else (if xk σ l0 12 = true then (f_X12_meaningAt σ l0 l1).bind (fun p32 => (gR σ l0 12 4).bind (fun x33 => (aI σ x33 14 l1).bind (fun x34 => (if x34 = (2 : Int32) then f_X12_gatherNode_j181 σ else (gR σ l0 12 7).bind (fun x35 => (aI σ x35 14 l1).bind (fun x36 => (if x36 = (1 : Int32) then (if p32 = (11 : Int32) then f_X12_gatherNode_j183 σ l0 l1 p32 else f_X12_gatherNode_j181 σ) else f_X12_gatherNode_j183 σ l0 l1 p32))))))) else none)))))))
set_option maxHeartbeats 4000000 in
set_option maxRecDepth 20000 in
theorem m_X12_gatherNode {G : xG} {π : Nat → Nat} {d C Z : Nat} {Q : xQ} {σ : xM} {l0 : Nat} {l1 : Int32} {l2 : Int32} {x : (Int32 × xM)} (hf : f_X12_gatherNode σ l0 l1 l2 = some x) (hR : ∀ g, x = g → Q (.inl (some (.int g.1))) (g.2) π) : xMach G π J_X12_gatherNode (d + 8) C Z 0 (lv_args 0 [.ref l0, .int l1, .int l2]) [] σ Q := by
  unfold f_X12_gatherNode at hf
  refine xm_stL (L' := [(0, .ref l0), (1, .int l1), (2, .int l2)]) rfl ?_
  refine xm_aload_n dX12_gatherNode_0 rfl ?_
  refine xb_getR (a := l0) (c := 12) (k := 4) dX12_gatherNode_1 xcl12 (by decide) xw_1841 rfl hf (fun x1 ex1 hf => ?_)
  refine xm_iload_n dX12_gatherNode_4 rfl ?_
  refine xb_iald dX12_gatherNode_5 hf (fun x2 ex2 hf => ?_)
  refine xb_if_eq 19 dX12_gatherNode_6 (by decide) hf (fun c hf => ?_) (fun c hf => ?_)
  · exact xm_sub [0, 1, 2] rfl (L_X12_gatherNode_j19 σ l0 l1 l2 hf hR)
  · refine xm_aload_n dX12_gatherNode_9 rfl ?_
    refine xb_getR (a := l0) (c := 12) (k := 4) dX12_gatherNode_10 xcl12 (by decide) xw_1841 rfl hf (fun x30 ex30 hf => ?_)
    refine xm_iload_n dX12_gatherNode_13 rfl ?_
    refine xb_iald dX12_gatherNode_14 hf (fun x31 ex31 hf => ?_)
    refine xm_iconst dX12_gatherNode_15 (v := 1) (by decide) ?_
    refine xb_icmp_ne 149 dX12_gatherNode_16 (by decide) hf (fun c hf => ?_) (fun c hf => ?_)
    · refine xm_aload_n dX12_gatherNode_149 rfl ?_
      refine xm_iload_n dX12_gatherNode_150 rfl ?_
      refine xb_if hf (fun hb hf => ?_) (fun _ q => nomatch q)
      obtain ⟨p32, ep32, hf⟩ := xbind hf
      refine xb_callV (As := [.int l1]) (v0 := (some (.int p32))) (τ0 := σ) dX12_gatherNode_151 (xc_X12_meaningAt _ _) xcl12 xw_2504 xw_2506 xs_169 hb rfl (Nat.le_of_ble_eq_true rfl) rfl (Nat.le_of_ble_eq_true rfl) (fun Q1 hq => m_X12_meaningAt (d := d + 6) ep32 (fun g hg => by subst hg; exact hq)) ?_
      refine xm_istore_n dX12_gatherNode_154 (by decide) (xm_stL (L' := [(3, .int p32), (0, .ref l0), (1, .int l1), (2, .int l2)]) rfl ?_)
      refine xm_aload_n dX12_gatherNode_155 rfl ?_
      refine xb_getR (a := l0) (c := 12) (k := 4) dX12_gatherNode_156 xcl12 (by decide) xw_1841 rfl hf (fun x33 ex33 hf => ?_)
      refine xm_iload_n dX12_gatherNode_159 rfl ?_
      refine xb_iald dX12_gatherNode_160 hf (fun x34 ex34 hf => ?_)
      refine xm_iconst dX12_gatherNode_161 (v := 2) (by decide) ?_
      refine xb_icmp_eq 181 dX12_gatherNode_162 (by decide) hf (fun c hf => ?_) (fun c hf => ?_)
      · exact xm_sub [] rfl (L_X12_gatherNode_j181 σ hf hR)
      · refine xm_aload_n dX12_gatherNode_165 rfl ?_
        refine xb_getR (a := l0) (c := 12) (k := 7) dX12_gatherNode_166 xcl12 (by decide) xw_1844 rfl hf (fun x35 ex35 hf => ?_)
        refine xm_iload_n dX12_gatherNode_169 rfl ?_
        refine xb_iald dX12_gatherNode_170 hf (fun x36 ex36 hf => ?_)
        refine xm_iconst dX12_gatherNode_171 (v := 1) (by decide) ?_
        refine xb_icmp_ne 183 dX12_gatherNode_172 (by decide) hf (fun c hf => ?_) (fun c hf => ?_)
        · exact xm_sub [1, 2, 0] rfl (L_X12_gatherNode_j183 σ l0 l1 p32 hf hR)
        · refine xm_iload_n dX12_gatherNode_175 rfl ?_
          refine xm_bipush dX12_gatherNode_176 (v := 11) (by decide) ?_
          refine xb_icmp_eq 183 dX12_gatherNode_178 (by decide) hf (fun c hf => ?_) (fun c hf => ?_)
          · exact xm_sub [1, 2, 0] rfl (L_X12_gatherNode_j183 σ l0 l1 p32 hf hR)
          · exact xm_sub [] rfl (L_X12_gatherNode_j181 σ hf hR)
    · exact xm_sub [0, 1, 2] rfl (L_X12_gatherNode_j19 σ l0 l1 l2 hf hR)

