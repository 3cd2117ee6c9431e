-- Rankwise$Whole.set(J)V
def f_X10_set_s37 (s : (Nat × Int64 × Int32 × xM)) : Option (xM ⊕ ((xM) ⊕ (Nat × Int64 × Int32 × xM))) :=
  xlet s.1 (fun l0 => xlet s.2.1 (fun l3 => xlet s.2.2.1 (fun l5 => xlet s.2.2.2 (fun σ => (gR σ l0 10 0).bind (fun x5 => (gL σ x5 14).bind (fun x6 => (if x6 ≤ l5 then some (Sum.inr (Sum.inl σ)) else (if (lg_cmp l3 (0 : Int64)) ≤ (0 : Int32) then some (Sum.inr (Sum.inl σ)) else (gR σ l0 10 0).bind (fun x7 => (wI σ x7 l5 (((l3 &&& (1073741823 : Int64))).toInt32)).bind (fun σ8 => xlet (l3 >>> (((30 : Int32)).toInt64 &&& 63)) (fun v9 => (sI σ8 l0 10 1 (l5 + (1 : Int32))).bind (fun σ10 => xlet (l5 + (1 : Int32)) (fun v11 => some (Sum.inr (Sum.inr (l0, v9, v11, σ10))))))))))))))))
set_option maxHeartbeats 4000000 in
set_option maxRecDepth 20000 in
theorem L_X10_set_s37 {G : xG} {π : Nat → Nat} {d C Z : Nat} {Q : xQ} (σ : xM) (l0 : Nat) (l3 : Int64) (l5 : Int32) {x : (xM ⊕ ((xM) ⊕ (Nat × Int64 × Int32 × xM)))} (hf : f_X10_set_s37 (l0, l3, l5, σ) = some x) (hR : ∀ g, x = Sum.inl (g) → Q (.inl none) (g) π) (hE : ∀ e : (xM), x = Sum.inr (Sum.inl e) → xMach G π J_X10_set (d + 0) C Z 85 [] [] e Q) (hC : ∀ e : (Nat × Int64 × Int32 × xM), x = Sum.inr (Sum.inr e) → xMach G π J_X10_set (d + 0) C Z 37 [(0, .ref e.1), (3, .long e.2.1), (5, .int e.2.2.1)] [] e.2.2.2 Q) : xMach G π J_X10_set (d + 0) C Z 37 [(0, .ref l0), (3, .long l3), (5, .int l5)] [] σ Q := by
  have hf : (gR σ l0 10 0).bind (fun x5 => (gL σ x5 14).bind (fun x6 => (if x6 ≤ l5 then some (Sum.inr (Sum.inl σ)) else (if (lg_cmp l3 (0 : Int64)) ≤ (0 : Int32) then some (Sum.inr (Sum.inl σ)) else (gR σ l0 10 0).bind (fun x7 => (wI σ x7 l5 (((l3 &&& (1073741823 : Int64))).toInt32)).bind (fun σ8 => xlet (l3 >>> (((30 : Int32)).toInt64 &&& 63)) (fun v9 => (sI σ8 l0 10 1 (l5 + (1 : Int32))).bind (fun σ10 => xlet (l5 + (1 : Int32)) (fun v11 => some (Sum.inr (Sum.inr (l0, v9, v11, σ10)))))))))))) = some x := hf
  refine xm_iload dX10_set_37 rfl ?_
  refine xm_aload_n dX10_set_39 rfl ?_
  refine xb_getR (a := l0) (c := 10) (k := 0) dX10_set_40 xcl10 (by decide) xw_45 rfl hf (fun x5 ex5 hf => ?_)
  refine xb_alen dX10_set_43 (by decide) (by decide) hf (fun x6 ex6 hf => ?_)
  refine xb_icmp_ge 85 dX10_set_44 (by decide) hf (fun c hf => ?_) (fun c hf => ?_)
  · cases hf
    exact xm_sub [] rfl (hE _ rfl)
  · refine xm_lload_n dX10_set_47 rfl ?_
    refine xm_lconst dX10_set_48 (v := 0) (by decide) ?_
    refine xm_lcmp dX10_set_49 ?_
    refine xb_if_le 85 dX10_set_50 (by decide) hf (fun c hf => ?_) (fun c hf => ?_)
    · cases hf
      exact xm_sub [] rfl (hE _ rfl)
    · refine xm_aload_n dX10_set_53 rfl ?_
      refine xb_getR (a := l0) (c := 10) (k := 0) dX10_set_54 xcl10 (by decide) xw_45 rfl hf (fun x7 ex7 hf => ?_)
      refine xm_iload dX10_set_57 rfl ?_
      refine xm_lload_n dX10_set_59 rfl ?_
      refine xm_ldc2 dX10_set_60 (xws_in xw_255) ?_
      refine xm_land dX10_set_63 ?_
      refine xm_l2i dX10_set_64 rfl ?_
      refine xb_iast dX10_set_65 hf (fun σ8 eσ8 hf => ?_)
      refine xm_lload_n dX10_set_66 rfl ?_
      refine xm_bipush dX10_set_67 (v := 30) (by decide) ?_
      refine xm_lshr dX10_set_69 rfl ?_
      refine xb_topl hf (fun v9 ev9 hf => ?_)
      refine xm_lstore_n dX10_set_70 (by decide) (xm_stL (L' := [(3, .long v9), (0, .ref l0), (5, .int l5)]) rfl ?_)
      refine xm_aload_n dX10_set_71 rfl ?_
      refine xm_iload dX10_set_72 rfl ?_
      refine xm_iconst dX10_set_74 (v := 1) (by decide) ?_
      refine xm_iadd dX10_set_75 ?_
      refine xb_putI (a := l0) (c := 10) (k := 1) dX10_set_76 xcl10 (by decide) xw_46 rfl rfl hf (fun σ10 eσ10 hf => ?_)
      refine xb_iinc dX10_set_79 rfl (by decide) (by decide) hf (fun v11 ev11 hf => xm_stL (L' := [(5, .int v11), (3, .long v9), (0, .ref l0)]) rfl ?_)
      refine xm_goto 37 dX10_set_82 (by decide) ?_
      cases hf
      exact xm_sub [2, 1, 0] rfl (hC _ rfl)
theorem L_X10_set_l37 {G : xG} {π : Nat → Nat} {d C Z : Nat} {Q : xQ} {s0 : (Nat × Int64 × Int32 × xM)} {x : (xM ⊕ (xM))} (h1 : xloop (f_X10_set_s37) xF s0 = some x) (hR : ∀ g, x = Sum.inl g → Q (.inl none) (g) π) (hE : ∀ e : (xM), x = Sum.inr e → xMach G π J_X10_set (d + 0) C Z 85 [] [] e Q) : xMach G π J_X10_set (d + 0) C Z 37 [(0, .ref s0.1), (3, .long s0.2.1), (5, .int s0.2.2.1)] [] s0.2.2.2 Q := by
  refine xloop_run (M := (fun s : (Nat × Int64 × Int32 × xM) => xMach G π J_X10_set (d + 0) C Z 37 [(0, .ref s.1), (3, .long s.2.1), (5, .int s.2.2.1)] [] s.2.2.2 Q)) (r := x) ?_ xF _ h1
  intro s y hs hx
  exact L_X10_set_s37 s.2.2.2 s.1 s.2.1 s.2.2.1 (x := y) hs (fun g hg => by subst hg; exact hR g hx) (fun e he => by subst he; exact hE e hx) (fun e he => by subst he; exact hx)
def f_X10_set_j85 (σ : xM)  : Option xM :=
  some σ
set_option maxHeartbeats 4000000 in
set_option maxRecDepth 20000 in
theorem L_X10_set_j85 {G : xG} {π : Nat → Nat} {d C Z : Nat} {Q : xQ} (σ : xM)  {x : xM} (hf : f_X10_set_j85 σ = some x) (hR : ∀ g, x = g → Q (.inl none) (g) π) : xMach G π J_X10_set (d + 0) C Z 85 [] [] σ Q := by
  unfold f_X10_set_j85 at hf
  cases hf
  exact xm_vret dX10_set_85 rfl (hR _ rfl)
def f_X10_set_j33 (σ : xM) (l0 : Nat) (s0 : Int64) : Option xM :=
  xlet (0 : Int32) (fun v4 => (xloop (f_X10_set_s37 ) xF (l0, s0, v4, σ)).bind (Sum.elim (fun g => some g) (fun e => f_X10_set_j85 e)))
set_option maxHeartbeats 4000000 in
set_option maxRecDepth 20000 in
theorem L_X10_set_j33 {G : xG} {π : Nat → Nat} {d C Z : Nat} {Q : xQ} (σ : xM) (l0 : Nat) (s0 : Int64) {x : xM} (hf : f_X10_set_j33 σ l0 s0 = some x) (hR : ∀ g, x = g → Q (.inl none) (g) π) : xMach G π J_X10_set (d + 0) C Z 33 [(0, .ref l0)] [.long s0] σ Q := by
  unfold f_X10_set_j33 at hf
  refine xm_lstore_n dX10_set_33 (by decide) (xm_stL (L' := [(3, .long s0), (0, .ref l0)]) rfl ?_)
  refine xm_iconst dX10_set_34 (v := 0) (by decide) ?_
  refine xb_topi hf (fun v4 ev4 hf => ?_)
  refine xm_istore dX10_set_35 (by decide) (xm_stL (L' := [(5, .int v4), (3, .long s0), (0, .ref l0)]) rfl ?_)
  obtain ⟨o, h1, hf⟩ := xbind hf
  refine xm_sub [2, 1, 0] rfl (L_X10_set_l37  h1 (fun g hg => ?_) (fun e he => ?_))
  · subst hg
    cases hf
    exact hR _ rfl
  · subst he
    rw [Sum.elim_inr] at hf
    have hf : f_X10_set_j85 e = some _ := hf
    exact xm_sub [] rfl (L_X10_set_j85 e hf hR)
def f_X10_set_j12 (σ : xM) (l0 : Nat) (l1 : Int64) (s0 : Int32) (s1 : Nat) : Option xM :=
  (sZ σ s1 10 2 s0).bind (fun σ1 => (sI σ1 l0 10 1 (0 : Int32)).bind (fun σ2 => (gI σ2 l0 10 2).bind (fun x3 => (if x3 = (0 : Int32) then f_X10_set_j33 σ2 l0 l1 else f_X10_set_j33 σ2 l0 (-l1)))))
set_option maxHeartbeats 4000000 in
set_option maxRecDepth 20000 in
theorem L_X10_set_j12 {G : xG} {π : Nat → Nat} {d C Z : Nat} {Q : xQ} (σ : xM) (l0 : Nat) (l1 : Int64) (s0 : Int32) (s1 : Nat) {x : xM} (hf : f_X10_set_j12 σ l0 l1 s0 s1 = some x) (hR : ∀ g, x = g → Q (.inl none) (g) π) : xMach G π J_X10_set (d + 0) C Z 12 [(0, .ref l0), (1, .long l1)] [.int s0, .ref s1] σ Q := by
  unfold f_X10_set_j12 at hf
  refine xb_putZ (a := s1) (c := 10) (k := 2) dX10_set_12 xcl10 (by decide) xw_47 rfl rfl hf (fun σ1 eσ1 hf => ?_)
  refine xm_aload_n dX10_set_15 rfl ?_
  refine xm_iconst dX10_set_16 (v := 0) (by decide) ?_
  refine xb_putI (a := l0) (c := 10) (k := 1) dX10_set_17 xcl10 (by decide) xw_46 rfl rfl hf (fun σ2 eσ2 hf => ?_)
  refine xm_aload_n dX10_set_20 rfl ?_
  refine xb_getI (a := l0) (c := 10) (k := 2) dX10_set_21 xcl10 (by decide) xw_47 rfl hf (fun x3 ex3 hf => ?_)
  refine xb_if_eq 32 dX10_set_24 (by decide) hf (fun c hf => ?_) (fun c hf => ?_)
  · refine xm_lload_n dX10_set_32 rfl ?_
    exact xm_sub [0] rfl (L_X10_set_j33 σ2 l0 l1 hf hR)
  · refine xm_lload_n dX10_set_27 rfl ?_
    refine xm_lneg dX10_set_28 ?_
    refine xm_goto 33 dX10_set_29 (by decide) ?_
    exact xm_sub [0] rfl (L_X10_set_j33 σ2 l0 (-l1) hf hR)
def f_X10_set (σ : xM) (l0 : Nat) (l1 : Int64) : Option xM :=
  (if (0 : Int32) ≤ (lg_cmp l1 (0 : Int64)) then f_X10_set_j12 σ l0 l1 (0 : Int32) l0 else f_X10_set_j12 σ l0 l1 (1 : Int32) l0)
set_option maxHeartbeats 4000000 in
set_option maxRecDepth 20000 in
theorem m_X10_set {G : xG} {π : Nat → Nat} {d C Z : Nat} {Q : xQ} {σ : xM} {l0 : Nat} {l1 : Int64} {x : xM} (hf : f_X10_set σ l0 l1 = some x) (hR : ∀ g, x = g → Q (.inl none) (g) π) : xMach G π J_X10_set (d + 0) C Z 0 (lv_args 0 [.ref l0, .long l1]) [] σ Q := by
  unfold f_X10_set at hf
  refine xm_stL (L' := [(0, .ref l0), (1, .long l1)]) rfl ?_
  refine xm_aload_n dX10_set_0 rfl ?_
  refine xm_lload_n dX10_set_1 rfl ?_
  refine xm_lconst dX10_set_2 (v := 0) (by decide) ?_
  refine xm_lcmp dX10_set_3 ?_
  refine xb_if_ge 11 dX10_set_4 (by decide) hf (fun c hf => ?_) (fun c hf => ?_)
  · refine xm_iconst dX10_set_11 (v := 0) (by decide) ?_
    exact xm_sub [0, 1] rfl (L_X10_set_j12 σ l0 l1 (0 : Int32) l0 hf hR)
  · refine xm_iconst dX10_set_7 (v := 1) (by decide) ?_
    refine xm_goto 12 dX10_set_8 (by decide) ?_
    exact xm_sub [0, 1] rfl (L_X10_set_j12 σ l0 l1 (1 : Int32) l0 hf hR)
-- Rankwise$Whole.copySize(LRankwise$Whole;)V
def f_X10_copySize_s30 (s : (Nat × Nat × Int32 × xM)) : Option (xM ⊕ ((xM) ⊕ (Nat × Nat × Int32 × xM))) :=
  xlet s.1 (fun l0 => xlet s.2.1 (fun l1 => xlet s.2.2.1 (fun l2 => xlet s.2.2.2 (fun σ => (gI σ l0 10 1).bind (fun x8 => (if x8 ≤ l2 then some (Sum.inr (Sum.inl σ)) else (gR σ l0 10 0).bind (fun x9 => (gR σ l1 10 0).bind (fun x10 => (aI σ x10 14 l2).bind (fun x11 => (wI σ x9 l2 x11).bind (fun σ12 => xlet (l2 + (1 : Int32)) (fun v13 => some (Sum.inr (Sum.inr (l0, l1, v13, σ12))))))))))))))
set_option maxHeartbeats 4000000 in
set_option maxRecDepth 20000 in
theorem L_X10_copySize_s30 {G : xG} {π : Nat → Nat} {d C Z : Nat} {Q : xQ} (σ : xM) (l0 : Nat) (l1 : Nat) (l2 : Int32) {x : (xM ⊕ ((xM) ⊕ (Nat × Nat × Int32 × xM)))} (hf : f_X10_copySize_s30 (l0, l1, l2, σ) = some x) (hR : ∀ g, x = Sum.inl (g) → Q (.inl none) (g) π) (hE : ∀ e : (xM), x = Sum.inr (Sum.inl e) → xMach G π J_X10_copySize (d + 0) C Z 56 [] [] e Q) (hC : ∀ e : (Nat × Nat × Int32 × xM), x = Sum.inr (Sum.inr e) → xMach G π J_X10_copySize (d + 0) C Z 30 [(0, .ref e.1), (1, .ref e.2.1), (2, .int e.2.2.1)] [] e.2.2.2 Q) : xMach G π J_X10_copySize (d + 0) C Z 30 [(0, .ref l0), (1, .ref l1), (2, .int l2)] [] σ Q := by
  have hf : (gI σ l0 10 1).bind (fun x8 => (if x8 ≤ l2 then some (Sum.inr (Sum.inl σ)) else (gR σ l0 10 0).bind (fun x9 => (gR σ l1 10 0).bind (fun x10 => (aI σ x10 14 l2).bind (fun x11 => (wI σ x9 l2 x11).bind (fun σ12 => xlet (l2 + (1 : Int32)) (fun v13 => some (Sum.inr (Sum.inr (l0, l1, v13, σ12)))))))))) = some x := hf
  refine xm_iload_n dX10_copySize_30 rfl ?_
  refine xm_aload_n dX10_copySize_31 rfl ?_
  refine xb_getI (a := l0) (c := 10) (k := 1) dX10_copySize_32 xcl10 (by decide) xw_46 rfl hf (fun x8 ex8 hf => ?_)
  refine xb_icmp_ge 56 dX10_copySize_35 (by decide) hf (fun c hf => ?_) (fun c hf => ?_)
  · cases hf
    exact xm_sub [] rfl (hE _ rfl)
  · refine xm_aload_n dX10_copySize_38 rfl ?_
    refine xb_getR (a := l0) (c := 10) (k := 0) dX10_copySize_39 xcl10 (by decide) xw_45 rfl hf (fun x9 ex9 hf => ?_)
    refine xm_iload_n dX10_copySize_42 rfl ?_
    refine xm_aload_n dX10_copySize_43 rfl ?_
    refine xb_getR (a := l1) (c := 10) (k := 0) dX10_copySize_44 xcl10 (by decide) xw_45 rfl hf (fun x10 ex10 hf => ?_)
    refine xm_iload_n dX10_copySize_47 rfl ?_
    refine xb_iald dX10_copySize_48 hf (fun x11 ex11 hf => ?_)
    refine xb_iast dX10_copySize_49 hf (fun σ12 eσ12 hf => ?_)
    refine xb_iinc dX10_copySize_50 rfl (by decide) (by decide) hf (fun v13 ev13 hf => xm_stL (L' := [(2, .int v13), (0, .ref l0), (1, .ref l1)]) rfl ?_)
    refine xm_goto 30 dX10_copySize_53 (by decide) ?_
    cases hf
    exact xm_sub [1, 2, 0] rfl (hC _ rfl)
theorem L_X10_copySize_l30 {G : xG} {π : Nat → Nat} {d C Z : Nat} {Q : xQ} {s0 : (Nat × Nat × Int32 × xM)} {x : (xM ⊕ (xM))} (h1 : xloop (f_X10_copySize_s30) xF s0 = some x) (hR : ∀ g, x = Sum.inl g → Q (.inl none) (g) π) (hE : ∀ e : (xM), x = Sum.inr e → xMach G π J_X10_copySize (d + 0) C Z 56 [] [] e Q) : xMach G π J_X10_copySize (d + 0) C Z 30 [(0, .ref s0.1), (1, .ref s0.2.1), (2, .int s0.2.2.1)] [] s0.2.2.2 Q := by
  refine xloop_run (M := (fun s : (Nat × Nat × Int32 × xM) => xMach G π J_X10_copySize (d + 0) C Z 30 [(0, .ref s.1), (1, .ref s.2.1), (2, .int s.2.2.1)] [] s.2.2.2 Q)) (r := x) ?_ xF _ h1
  intro s y hs hx
  exact L_X10_copySize_s30 s.2.2.2 s.1 s.2.1 s.2.2.1 (x := y) hs (fun g hg => by subst hg; exact hR g hx) (fun e he => by subst he; exact hE e hx) (fun e he => by subst he; exact hx)
def f_X10_copySize_j56 (σ : xM)  : Option xM :=
  some σ
set_option maxHeartbeats 4000000 in
set_option maxRecDepth 20000 in
theorem L_X10_copySize_j56 {G : xG} {π : Nat → Nat} {d C Z : Nat} {Q : xQ} (σ : xM)  {x : xM} (hf : f_X10_copySize_j56 σ = some x) (hR : ∀ g, x = g → Q (.inl none) (g) π) : xMach G π J_X10_copySize (d + 0) C Z 56 [] [] σ Q := by
  unfold f_X10_copySize_j56 at hf
  cases hf
  exact xm_vret dX10_copySize_56 rfl (hR _ rfl)
def f_X10_copySize_j25 (σ : xM) (l0 : Nat) (l1 : Nat) (s0 : Int32) (s1 : Nat) : Option xM :=
  (sI σ s1 10 1 s0).bind (fun σ6 => xlet (0 : Int32) (fun v7 => (xloop (f_X10_copySize_s30 ) xF (l0, l1, v7, σ6)).bind (Sum.elim (fun g => some g) (fun e => f_X10_copySize_j56 e))))
set_option maxHeartbeats 4000000 in
set_option maxRecDepth 20000 in
theorem L_X10_copySize_j25 {G : xG} {π : Nat → Nat} {d C Z : Nat} {Q : xQ} (σ : xM) (l0 : Nat) (l1 : Nat) (s0 : Int32) (s1 : Nat) {x : xM} (hf : f_X10_copySize_j25 σ l0 l1 s0 s1 = some x) (hR : ∀ g, x = g → Q (.inl none) (g) π) : xMach G π J_X10_copySize (d + 0) C Z 25 [(0, .ref l0), (1, .ref l1)] [.int s0, .ref s1] σ Q := by
  unfold f_X10_copySize_j25 at hf
  refine xb_putI (a := s1) (c := 10) (k := 1) dX10_copySize_25 xcl10 (by decide) xw_46 rfl rfl hf (fun σ6 eσ6 hf => ?_)
  refine xm_iconst dX10_copySize_28 (v := 0) (by decide) ?_
  refine xb_topi hf (fun v7 ev7 hf => ?_)
  refine xm_istore_n dX10_copySize_29 (by decide) (xm_stL (L' := [(2, .int v7), (0, .ref l0), (1, .ref l1)]) rfl ?_)
  obtain ⟨o, h1, hf⟩ := xbind hf
  refine xm_sub [1, 2, 0] rfl (L_X10_copySize_l30  h1 (fun g hg => ?_) (fun e he => ?_))
  · subst hg
    cases hf
    exact hR _ rfl
  · subst he
    rw [Sum.elim_inr] at hf
    have hf : f_X10_copySize_j56 e = some _ := hf
    exact xm_sub [] rfl (L_X10_copySize_j56 e hf hR)
def f_X10_copySize (σ : xM) (l0 : Nat) (l1 : Nat) : Option xM :=
  (gI σ l1 10 1).bind (fun x1 => (gR σ l0 10 0).bind (fun x2 => (gL σ x2 14).bind (fun x3 => (if x3 ≤ x1 then (gR σ l0 10 0).bind (fun x4 => (gL σ x4 14).bind (fun x5 => f_X10_copySize_j25 σ l0 l1 x5 l0)) else (gI σ l1 10 1).bind (fun x14 => f_X10_copySize_j25 σ l0 l1 x14 l0)))))
set_option maxHeartbeats 4000000 in
set_option maxRecDepth 20000 in
theorem m_X10_copySize {G : xG} {π : Nat → Nat} {d C Z : Nat} {Q : xQ} {σ : xM} {l0 : Nat} {l1 : Nat} {x : xM} (hf : f_X10_copySize σ l0 l1 = some x) (hR : ∀ g, x = g → Q (.inl none) (g) π) : xMach G π J_X10_copySize (d + 0) C Z 0 (lv_args 0 [.ref l0, .ref l1]) [] σ Q := by
  unfold f_X10_copySize at hf
  refine xm_stL (L' := [(0, .ref l0), (1, .ref l1)]) rfl ?_
  refine xm_aload_n dX10_copySize_0 rfl ?_
  refine xm_aload_n dX10_copySize_1 rfl ?_
  refine xb_getI (a := l1) (c := 10) (k := 1) dX10_copySize_2 xcl10 (by decide) xw_46 rfl hf (fun x1 ex1 hf => ?_)
  refine xm_aload_n dX10_copySize_5 rfl ?_
  refine xb_getR (a := l0) (c := 10) (k := 0) dX10_copySize_6 xcl10 (by decide) xw_45 rfl hf (fun x2 ex2 hf => ?_)
  refine xb_alen dX10_copySize_9 (by decide) (by decide) hf (fun x3 ex3 hf => ?_)
  refine xb_icmp_ge 20 dX10_copySize_10 (by decide) hf (fun c hf => ?_) (fun c hf => ?_)
  · refine xm_aload_n dX10_copySize_20 rfl ?_
    refine xb_getR (a := l0) (c := 10) (k := 0) dX10_copySize_21 xcl10 (by decide) xw_45 rfl hf (fun x4 ex4 hf => ?_)
    refine xb_alen dX10_copySize_24 (by decide) (by decide) hf (fun x5 ex5 hf => ?_)
    exact xm_sub [0, 1] rfl (L_X10_copySize_j25 σ l0 l1 x5 l0 hf hR)
  · refine xm_aload_n dX10_copySize_13 rfl ?_
    refine xb_getI (a := l1) (c := 10) (k := 1) dX10_copySize_14 xcl10 (by decide) xw_46 rfl hf (fun x14 ex14 hf => ?_)
    refine xm_goto 25 dX10_copySize_17 (by decide) ?_
    exact xm_sub [0, 1] rfl (L_X10_copySize_j25 σ l0 l1 x14 l0 hf hR)
-- Rankwise$Whole.copy(LRankwise$Whole;)V
def f_X10_copy (σ : xM) (l0 : Nat) (l1 : Nat) : Option xM :=
  (gI σ l1 10 2).bind (fun x1 => (sZ σ l0 10 2 x1).bind (fun σ2 => (if xk σ2 l0 10 = true then (f_X10_copySize σ2 l0 l1).bind (fun p3 => some p3) else none)))
set_option maxHeartbeats 4000000 in
set_option maxRecDepth 20000 in
theorem m_X10_copy {G : xG} {π : Nat → Nat} {d C Z : Nat} {Q : xQ} {σ : xM} {l0 : Nat} {l1 : Nat} {x : xM} (hf : f_X10_copy σ l0 l1 = some x) (hR : ∀ g, x = g → Q (.inl none) (g) π) : xMach G π J_X10_copy (d + 1) C Z 0 (lv_args 0 [.ref l0, .ref l1]) [] σ Q := by
  unfold f_X10_copy at hf
  refine xm_stL (L' := [(0, .ref l0), (1, .ref l1)]) rfl ?_
  refine xm_aload_n dX10_copy_0 rfl ?_
  refine xm_aload_n dX10_copy_1 rfl ?_
  refine xb_getI (a := l1) (c := 10) (k := 2) dX10_copy_2 xcl10 (by decide) xw_47 rfl hf (fun x1 ex1 hf => ?_)
  refine xb_putZ (a := l0) (c := 10) (k := 2) dX10_copy_5 xcl10 (by decide) xw_47 rfl rfl hf (fun σ2 eσ2 hf => ?_)
  refine xm_aload_n dX10_copy_8 rfl ?_
  refine xm_aload_n dX10_copy_9 rfl ?_
  refine xb_if hf (fun hb hf => ?_) (fun _ q => nomatch q)
  obtain ⟨p3, ep3, hf⟩ := xbind hf
  refine xb_callV (As := [.ref l1]) (v0 := none) (τ0 := p3) dX10_copy_10 (xc_X10_copySize _ _) xcl10 xw_972 xw_973 xw_974 hb rfl (Nat.le_of_ble_eq_true rfl) rfl (Nat.le_of_ble_eq_true rfl) (fun Q1 hq => m_X10_copySize (d := d + 0) ep3 (fun g hg => by subst hg; exact hq)) ?_
  cases hf
  exact xm_vret dX10_copy_13 rfl (hR _ rfl)
-- Rankwise$Whole.isZero()Z
def f_X10_isZero_j12 (σ : xM) (s0 : Int32) : Option Int32 :=
  (xz s0).bind (fun b2 => some b2)
set_option maxHeartbeats 4000000 in
set_option maxRecDepth 20000 in
theorem L_X10_isZero_j12 {G : xG} {π : Nat → Nat} {d C Z : Nat} {Q : xQ} (σ : xM) (s0 : Int32) {x : Int32} (hf : f_X10_isZero_j12 σ s0 = some x) (hR : ∀ g, x = g → Q (.inl (some (.int g))) (σ) π) : xMach G π J_X10_isZero (d + 0) C Z 12 [] [.int s0] σ Q := by
  unfold f_X10_isZero_j12 at hf
  obtain ⟨b2, eb2, hf⟩ := xbind hf
  obtain ⟨rfl, hz⟩ := xz_of eb2
  cases hf
  exact xm_zret dX10_isZero_12 rfl hz (hR _ rfl)
def f_X10_isZero (σ : xM) (l0 : Nat) : Option Int32 :=
  (gI σ l0 10 1).bind (fun x1 => (if x1 = (0 : Int32) then f_X10_isZero_j12 σ (1 : Int32) else f_X10_isZero_j12 σ (0 : Int32)))
set_option maxHeartbeats 4000000 in
set_option maxRecDepth 20000 in
theorem m_X10_isZero {G : xG} {π : Nat → Nat} {d C Z : Nat} {Q : xQ} {σ : xM} {l0 : Nat} {x : Int32} (hf : f_X10_isZero σ l0 = some x) (hR : ∀ g, x = g → Q (.inl (some (.int g))) (σ) π) : xMach G π J_X10_isZero (d + 0) C Z 0 (lv_args 0 [.ref l0]) [] σ Q := by
  unfold f_X10_isZero at hf
  refine xm_stL (L' := [(0, .ref l0)]) rfl ?_
  refine xm_aload_n dX10_isZero_0 rfl ?_
  refine xb_getI (a := l0) (c := 10) (k := 1) dX10_isZero_1 xcl10 (by decide) xw_46 rfl hf (fun x1 ex1 hf => ?_)
  refine xb_if_ne 11 dX10_isZero_4 (by decide) hf (fun c hf => ?_) (fun c hf => ?_)
  · refine xm_iconst dX10_isZero_11 (v := 0) (by decide) ?_
    exact xm_sub [] rfl (L_X10_isZero_j12 σ (0 : Int32) hf hR)
  · refine xm_iconst dX10_isZero_7 (v := 1) (by decide) ?_
    refine xm_goto 12 dX10_isZero_8 (by decide) ?_
    exact xm_sub [] rfl (L_X10_isZero_j12 σ (1 : Int32) hf hR)
-- Rankwise$Whole.isOne()Z
def f_X10_isOne_j30 (σ : xM) (s0 : Int32) : Option Int32 :=
  (xz s0).bind (fun b2 => some b2)
set_option maxHeartbeats 4000000 in
set_option maxRecDepth 20000 in
theorem L_X10_isOne_j30 {G : xG} {π : Nat → Nat} {d C Z : Nat} {Q : xQ} (σ : xM) (s0 : Int32) {x : Int32} (hf : f_X10_isOne_j30 σ s0 = some x) (hR : ∀ g, x = g → Q (.inl (some (.int g))) (σ) π) : xMach G π J_X10_isOne (d + 0) C Z 30 [] [.int s0] σ Q := by
  unfold f_X10_isOne_j30 at hf
  obtain ⟨b2, eb2, hf⟩ := xbind hf
  obtain ⟨rfl, hz⟩ := xz_of eb2
  cases hf
  exact xm_zret dX10_isOne_30 rfl hz (hR _ rfl)
def f_X10_isOne_j29 (σ : xM)  : Option Int32 :=
  f_X10_isOne_j30 σ (0 : Int32)
set_option maxHeartbeats 4000000 in
set_option maxRecDepth 20000 in
theorem L_X10_isOne_j29 {G : xG} {π : Nat → Nat} {d C Z : Nat} {Q : xQ} (σ : xM)  {x : Int32} (hf : f_X10_isOne_j29 σ = some x) (hR : ∀ g, x = g → Q (.inl (some (.int g))) (σ) π) : xMach G π J_X10_isOne (d + 0) C Z 29 [] [] σ Q := by
  unfold f_X10_isOne_j29 at hf
  refine xm_iconst dX10_isOne_29 (v := 0) (by decide) ?_
  exact xm_sub [] rfl (L_X10_isOne_j30 σ (0 : Int32) hf hR)
def f_X10_isOne (σ : xM) (l0 : Nat) : Option Int32 :=
  (gI σ l0 10 1).bind (fun x1 => (if x1 = (1 : Int32) then (gR σ l0 10 0).bind (fun x3 => (aI σ x3 14 (0 : Int32)).bind (fun x4 => (if x4 = (1 : Int32) then (gI σ l0 10 2).bind (fun x5 => (if x5 = (0 : Int32) then f_X10_isOne_j30 σ (1 : Int32) else f_X10_isOne_j29 σ)) else f_X10_isOne_j29 σ))) else f_X10_isOne_j29 σ))
set_option maxHeartbeats 4000000 in
set_option maxRecDepth 20000 in
theorem m_X10_isOne {G : xG} {π : Nat → Nat} {d C Z : Nat} {Q : xQ} {σ : xM} {l0 : Nat} {x : Int32} (hf : f_X10_isOne σ l0 = some x) (hR : ∀ g, x = g → Q (.inl (some (.int g))) (σ) π) : xMach G π J_X10_isOne (d + 0) C Z 0 (lv_args 0 [.ref l0]) [] σ Q := by
  unfold f_X10_isOne at hf
  refine xm_stL (L' := [(0, .ref l0)]) rfl ?_
  refine xm_aload_n dX10_isOne_0 rfl ?_
  refine xb_getI (a := l0) (c := 10) (k := 1) dX10_isOne_1 xcl10 (by decide) xw_46 rfl hf (fun x1 ex1 hf => ?_)
  refine xm_iconst dX10_isOne_4 (v := 1) (by decide) ?_
  refine xb_icmp_ne 29 dX10_isOne_5 (by decide) hf (fun c hf => ?_) (fun c hf => ?_)
  · exact xm_sub [] rfl (L_X10_isOne_j29 σ hf hR)
  · refine xm_aload_n dX10_isOne_8 rfl ?_
    refine xb_getR (a := l0) (c := 10) (k := 0) dX10_isOne_9 xcl10 (by decide) xw_45 rfl hf (fun x3 ex3 hf => ?_)
    refine xm_iconst dX10_isOne_12 (v := 0) (by decide) ?_
    refine xb_iald dX10_isOne_13 hf (fun x4 ex4 hf => ?_)
    refine xm_iconst dX10_isOne_14 (v := 1) (by decide) ?_
    refine xb_icmp_ne 29 dX10_isOne_15 (by decide) hf (fun c hf => ?_) (fun c hf => ?_)
    · exact xm_sub [] rfl (L_X10_isOne_j29 σ hf hR)
    · refine xm_aload_n dX10_isOne_18 rfl ?_
      refine xb_getI (a := l0) (c := 10) (k := 2) dX10_isOne_19 xcl10 (by decide) xw_47 rfl hf (fun x5 ex5 hf => ?_)
      refine xb_if_ne 29 dX10_isOne_22 (by decide) hf (fun c hf => ?_) (fun c hf => ?_)
      · exact xm_sub [] rfl (L_X10_isOne_j29 σ hf hR)
      · refine xm_iconst dX10_isOne_25 (v := 1) (by decide) ?_
        refine xm_goto 30 dX10_isOne_26 (by decide) ?_
        exact xm_sub [] rfl (L_X10_isOne_j30 σ (1 : Int32) hf hR)
-- Rankwise$Whole.compareSizes(LRankwise$Whole;LRankwise$Whole;)I
def f_X10_compareSizes_s35 (σ : xM) (s : (Nat × Nat × Int32)) : Option (Int32 ⊕ (((Nat × Nat × Int32) ⊕ Unit) ⊕ (Nat × Nat × Int32))) :=
  xlet s.1 (fun l0 => xlet s.2.1 (fun l1 => xlet s.2.2 (fun l2 => (if l2 < (0 : Int32) then some (Sum.inr (Sum.inl (Sum.inr ()))) else (gR σ l0 10 0).bind (fun x5 => (aI σ x5 14 l2).bind (fun x6 => (gR σ l1 10 0).bind (fun x7 => (aI σ x7 14 l2).bind (fun x8 => (if x6 = x8 then xlet (l2 + (-1 : Int32)) (fun v9 => some (Sum.inr (Sum.inr (l0, l1, v9)))) else some (Sum.inr (Sum.inl (Sum.inl (l0, l1, l2)))))))))))))
set_option maxHeartbeats 4000000 in
set_option maxRecDepth 20000 in
theorem L_X10_compareSizes_s35 {G : xG} {π : Nat → Nat} {d C Z : Nat} {Q : xQ} (σ : xM) (l0 : Nat) (l1 : Nat) (l2 : Int32) {x : (Int32 ⊕ (((Nat × Nat × Int32) ⊕ Unit) ⊕ (Nat × Nat × Int32)))} (hf : f_X10_compareSizes_s35 σ (l0, l1, l2) = some x) (hR : ∀ g, x = Sum.inl (g) → Q (.inl (some (.int g))) (σ) π) (hE0 : ∀ e : (Nat × Nat × Int32), x = Sum.inr (Sum.inl (Sum.inl e)) → xMach G π J_X10_compareSizes (d + 0) C Z 54 [(0, .ref e.1), (1, .ref e.2.1), (2, .int e.2.2)] [] σ Q) (hE1 : ∀ e : Unit, x = Sum.inr (Sum.inl (Sum.inr e)) → xMach G π J_X10_compareSizes (d + 0) C Z 81 [] [] σ Q) (hC : ∀ e : (Nat × Nat × Int32), x = Sum.inr (Sum.inr e) → xMach G π J_X10_compareSizes (d + 0) C Z 35 [(0, .ref e.1), (1, .ref e.2.1), (2, .int e.2.2)] [] σ Q) : xMach G π J_X10_compareSizes (d + 0) C Z 35 [(0, .ref l0), (1, .ref l1), (2, .int l2)] [] σ Q := by
  have hf : (if l2 < (0 : Int32) then some (Sum.inr (Sum.inl (Sum.inr ()))) else (gR σ l0 10 0).bind (fun x5 => (aI σ x5 14 l2).bind (fun x6 => (gR σ l1 10 0).bind (fun x7 => (aI σ x7 14 l2).bind (fun x8 => (if x6 = x8 then xlet (l2 + (-1 : Int32)) (fun v9 => some (Sum.inr (Sum.inr (l0, l1, v9)))) else some (Sum.inr (Sum.inl (Sum.inl (l0, l1, l2)))))))))) = some x := hf
  refine xm_iload_n dX10_compareSizes_35 rfl ?_
  refine xb_if_lt 81 dX10_compareSizes_36 (by decide) hf (fun c hf => ?_) (fun c hf => ?_)
  · cases hf
    exact xm_sub [] rfl (hE1 _ rfl)
  · refine xm_aload_n dX10_compareSizes_39 rfl ?_
    refine xb_getR (a := l0) (c := 10) (k := 0) dX10_compareSizes_40 xcl10 (by decide) xw_45 rfl hf (fun x5 ex5 hf => ?_)
    refine xm_iload_n dX10_compareSizes_43 rfl ?_
    refine xb_iald dX10_compareSizes_44 hf (fun x6 ex6 hf => ?_)
    refine xm_aload_n dX10_compareSizes_45 rfl ?_
    refine xb_getR (a := l1) (c := 10) (k := 0) dX10_compareSizes_46 xcl10 (by decide) xw_45 rfl hf (fun x7 ex7 hf => ?_)
    refine xm_iload_n dX10_compareSizes_49 rfl ?_
    refine xb_iald dX10_compareSizes_50 hf (fun x8 ex8 hf => ?_)
    refine xb_icmp_eq 75 dX10_compareSizes_51 (by decide) hf (fun c hf => ?_) (fun c hf => ?_)
    · refine xb_iinc dX10_compareSizes_75 rfl (by decide) (by decide) hf (fun v9 ev9 hf => xm_stL (L' := [(2, .int v9), (0, .ref l0), (1, .ref l1)]) rfl ?_)
      refine xm_goto 35 dX10_compareSizes_78 (by decide) ?_
      cases hf
      exact xm_sub [1, 2, 0] rfl (hC _ rfl)
    · cases hf
      exact xm_sub [0, 1, 2] rfl (hE0 _ rfl)
theorem L_X10_compareSizes_l35 {G : xG} {π : Nat → Nat} {d C Z : Nat} {Q : xQ} (σ : xM) {s0 : (Nat × Nat × Int32)} {x : (Int32 ⊕ ((Nat × Nat × Int32) ⊕ Unit))} (h1 : xloop (f_X10_compareSizes_s35 σ) xF s0 = some x) (hR : ∀ g, x = Sum.inl g → Q (.inl (some (.int g))) (σ) π) (hE0 : ∀ e : (Nat × Nat × Int32), x = Sum.inr (Sum.inl e) → xMach G π J_X10_compareSizes (d + 0) C Z 54 [(0, .ref e.1), (1, .ref e.2.1), (2, .int e.2.2)] [] σ Q) (hE1 : ∀ e : Unit, x = Sum.inr (Sum.inr e) → xMach G π J_X10_compareSizes (d + 0) C Z 81 [] [] σ Q) : xMach G π J_X10_compareSizes (d + 0) C Z 35 [(0, .ref s0.1), (1, .ref s0.2.1), (2, .int s0.2.2)] [] σ Q := by
  refine xloop_run (M := (fun s : (Nat × Nat × Int32) => xMach G π J_X10_compareSizes (d + 0) C Z 35 [(0, .ref s.1), (1, .ref s.2.1), (2, .int s.2.2)] [] σ Q)) (r := x) ?_ xF _ h1
  intro s y hs hx
  exact L_X10_compareSizes_s35 σ s.1 s.2.1 s.2.2 (x := y) hs (fun g hg => by subst hg; exact hR g hx) (fun e he => by subst he; exact hE0 e hx) (fun e he => by subst he; exact hE1 e hx) (fun e he => by subst he; exact hx)
def f_X10_compareSizes_j74 (σ : xM) (s0 : Int32) : Option Int32 :=
  some s0
set_option maxHeartbeats 4000000 in
set_option maxRecDepth 20000 in
theorem L_X10_compareSizes_j74 {G : xG} {π : Nat → Nat} {d C Z : Nat} {Q : xQ} (σ : xM) (s0 : Int32) {x : Int32} (hf : f_X10_compareSizes_j74 σ s0 = some x) (hR : ∀ g, x = g → Q (.inl (some (.int g))) (σ) π) : xMach G π J_X10_compareSizes (d + 0) C Z 74 [] [.int s0] σ Q := by
  unfold f_X10_compareSizes_j74 at hf
  cases hf
  exact xm_iret dX10_compareSizes_74 rfl (hR _ rfl)
def f_X10_compareSizes_j54 (σ : xM) (l0 : Nat) (l1 : Nat) (l2 : Int32) : Option Int32 :=
  (gR σ l0 10 0).bind (fun x10 => (aI σ x10 14 l2).bind (fun x11 => (gR σ l1 10 0).bind (fun x12 => (aI σ x12 14 l2).bind (fun x13 => (if x13 ≤ x11 then f_X10_compareSizes_j74 σ (1 : Int32) else f_X10_compareSizes_j74 σ (-1 : Int32))))))
set_option maxHeartbeats 4000000 in
set_option maxRecDepth 20000 in
theorem L_X10_compareSizes_j54 {G : xG} {π : Nat → Nat} {d C Z : Nat} {Q : xQ} (σ : xM) (l0 : Nat) (l1 : Nat) (l2 : Int32) {x : Int32} (hf : f_X10_compareSizes_j54 σ l0 l1 l2 = some x) (hR : ∀ g, x = g → Q (.inl (some (.int g))) (σ) π) : xMach G π J_X10_compareSizes (d + 0) C Z 54 [(0, .ref l0), (1, .ref l1), (2, .int l2)] [] σ Q := by
  unfold f_X10_compareSizes_j54 at hf
  refine xm_aload_n dX10_compareSizes_54 rfl ?_
  refine xb_getR (a := l0) (c := 10) (k := 0) dX10_compareSizes_55 xcl10 (by decide) xw_45 rfl hf (fun x10 ex10 hf => ?_)
  refine xm_iload_n dX10_compareSizes_58 rfl ?_
  refine xb_iald dX10_compareSizes_59 hf (fun x11 ex11 hf => ?_)
  refine xm_aload_n dX10_compareSizes_60 rfl ?_
  refine xb_getR (a := l1) (c := 10) (k := 0) dX10_compareSizes_61 xcl10 (by decide) xw_45 rfl hf (fun x12 ex12 hf => ?_)
  refine xm_iload_n dX10_compareSizes_64 rfl ?_
  refine xb_iald dX10_compareSizes_65 hf (fun x13 ex13 hf => ?_)
  refine xb_icmp_ge 73 dX10_compareSizes_66 (by decide) hf (fun c hf => ?_) (fun c hf => ?_)
  · refine xm_iconst dX10_compareSizes_73 (v := 1) (by decide) ?_
    exact xm_sub [] rfl (L_X10_compareSizes_j74 σ (1 : Int32) hf hR)
  · refine xm_iconst dX10_compareSizes_69 (v := -1) (by decide) ?_
    refine xm_goto 74 dX10_compareSizes_70 (by decide) ?_
    exact xm_sub [] rfl (L_X10_compareSizes_j74 σ (-1 : Int32) hf hR)
def f_X10_compareSizes_j81 (σ : xM)  : Option Int32 :=
  some (0 : Int32)
set_option maxHeartbeats 4000000 in
set_option maxRecDepth 20000 in
theorem L_X10_compareSizes_j81 {G : xG} {π : Nat → Nat} {d C Z : Nat} {Q : xQ} (σ : xM)  {x : Int32} (hf : f_X10_compareSizes_j81 σ = some x) (hR : ∀ g, x = g → Q (.inl (some (.int g))) (σ) π) : xMach G π J_X10_compareSizes (d + 0) C Z 81 [] [] σ Q := by
  unfold f_X10_compareSizes_j81 at hf
  refine xm_iconst dX10_compareSizes_81 (v := 0) (by decide) ?_
  cases hf
  exact xm_iret dX10_compareSizes_82 rfl (hR _ rfl)
def f_X10_compareSizes_j27 (σ : xM) (s0 : Int32) : Option Int32 :=
  some s0
set_option maxHeartbeats 4000000 in
set_option maxRecDepth 20000 in
theorem L_X10_compareSizes_j27 {G : xG} {π : Nat → Nat} {d C Z : Nat} {Q : xQ} (σ : xM) (s0 : Int32) {x : Int32} (hf : f_X10_compareSizes_j27 σ s0 = some x) (hR : ∀ g, x = g → Q (.inl (some (.int g))) (σ) π) : xMach G π J_X10_compareSizes (d + 0) C Z 27 [] [.int s0] σ Q := by
  unfold f_X10_compareSizes_j27 at hf
  cases hf
  exact xm_iret dX10_compareSizes_27 rfl (hR _ rfl)
def f_X10_compareSizes (σ : xM) (l0 : Nat) (l1 : Nat) : Option Int32 :=
  (gI σ l0 10 1).bind (fun x1 => (gI σ l1 10 1).bind (fun x2 => (if x1 = x2 then (gI σ l0 10 1).bind (fun x3 => xlet (x3 - (1 : Int32)) (fun v4 => (xloop (f_X10_compareSizes_s35 σ ) xF (l0, l1, v4)).bind (Sum.elim (fun g => some g) (Sum.elim (fun e => f_X10_compareSizes_j54 σ e.1 e.2.1 e.2.2) (fun e => f_X10_compareSizes_j81 σ))))) else (gI σ l0 10 1).bind (fun x14 => (gI σ l1 10 1).bind (fun x15 => (if x15 ≤ x14 then f_X10_compareSizes_j27 σ (1 : Int32) else f_X10_compareSizes_j27 σ (-1 : Int32)))))))
set_option maxHeartbeats 4000000 in
set_option maxRecDepth 20000 in
theorem m_X10_compareSizes {G : xG} {π : Nat → Nat} {d C Z : Nat} {Q : xQ} {σ : xM} {l0 : Nat} {l1 : Nat} {x : Int32} (hf : f_X10_compareSizes σ l0 l1 = some x) (hR : ∀ g, x = g → Q (.inl (some (.int g))) (σ) π) : xMach G π J_X10_compareSizes (d + 0) C Z 0 (lv_args 0 [.ref l0, .ref l1]) [] σ Q := by
  unfold f_X10_compareSizes at hf
  refine xm_stL (L' := [(0, .ref l0), (1, .ref l1)]) rfl ?_
  refine xm_aload_n dX10_compareSizes_0 rfl ?_
  refine xb_getI (a := l0) (c := 10) (k := 1) dX10_compareSizes_1 xcl10 (by decide) xw_46 rfl hf (fun x1 ex1 hf => ?_)
  refine xm_aload_n dX10_compareSizes_4 rfl ?_
  refine xb_getI (a := l1) (c := 10) (k := 1) dX10_compareSizes_5 xcl10 (by decide) xw_46 rfl hf (fun x2 ex2 hf => ?_)
  refine xb_icmp_eq 28 dX10_compareSizes_8 (by decide) hf (fun c hf => ?_) (fun c hf => ?_)
  · refine xm_aload_n dX10_compareSizes_28 rfl ?_
    refine xb_getI (a := l0) (c := 10) (k := 1) dX10_compareSizes_29 xcl10 (by decide) xw_46 rfl hf (fun x3 ex3 hf => ?_)
    refine xm_iconst dX10_compareSizes_32 (v := 1) (by decide) ?_
    refine xm_isub dX10_compareSizes_33 ?_
    refine xb_topi hf (fun v4 ev4 hf => ?_)
    refine xm_istore_n dX10_compareSizes_34 (by decide) (xm_stL (L' := [(2, .int v4), (0, .ref l0), (1, .ref l1)]) rfl ?_)
    obtain ⟨o, h1, hf⟩ := xbind hf
    refine xm_sub [1, 2, 0] rfl (L_X10_compareSizes_l35 σ h1 (fun g hg => ?_) (fun e he => ?_) (fun e he => ?_))
    · subst hg
      cases hf
      exact hR _ rfl
    · subst he
      rw [Sum.elim_inr, Sum.elim_inl] at hf
      have hf : f_X10_compareSizes_j54 σ e.1 e.2.1 e.2.2 = some _ := hf
      exact xm_sub [0, 1, 2] rfl (L_X10_compareSizes_j54 σ e.1 e.2.1 e.2.2 hf hR)
    · subst he
      rw [Sum.elim_inr, Sum.elim_inr] at hf
      have hf : f_X10_compareSizes_j81 σ = some _ := hf
      exact xm_sub [] rfl (L_X10_compareSizes_j81 σ hf hR)
  · refine xm_aload_n dX10_compareSizes_11 rfl ?_
    refine xb_getI (a := l0) (c := 10) (k := 1) dX10_compareSizes_12 xcl10 (by decide) xw_46 rfl hf (fun x14 ex14 hf => ?_)
    refine xm_aload_n dX10_compareSizes_15 rfl ?_
    refine xb_getI (a := l1) (c := 10) (k := 1) dX10_compareSizes_16 xcl10 (by decide) xw_46 rfl hf (fun x15 ex15 hf => ?_)
    refine xb_icmp_ge 26 dX10_compareSizes_19 (by decide) hf (fun c hf => ?_) (fun c hf => ?_)
    · refine xm_iconst dX10_compareSizes_26 (v := 1) (by decide) ?_
      exact xm_sub [] rfl (L_X10_compareSizes_j27 σ (1 : Int32) hf hR)
    · refine xm_iconst dX10_compareSizes_22 (v := -1) (by decide) ?_
      refine xm_goto 27 dX10_compareSizes_23 (by decide) ?_
      exact xm_sub [] rfl (L_X10_compareSizes_j27 σ (-1 : Int32) hf hR)
-- Rankwise$Whole.trim(I)V
def f_X10_trim_s7 (s : (Nat × Int32 × xM)) : Option (xM ⊕ ((Nat × xM) ⊕ (Nat × Int32 × xM))) :=
  xlet s.1 (fun l0 => xlet s.2.1 (fun l2 => xlet s.2.2 (fun σ => (if l2 ≤ (0 : Int32) then some (Sum.inr (Sum.inl (l0, σ))) else (gR σ l0 10 0).bind (fun x2 => (aI σ x2 14 (l2 - (1 : Int32))).bind (fun x3 => (if x3 = (0 : Int32) then (sI σ l0 10 1 (l2 - (1 : Int32))).bind (fun σ4 => xlet (l2 + (-1 : Int32)) (fun v5 => some (Sum.inr (Sum.inr (l0, v5, σ4))))) else some (Sum.inr (Sum.inl (l0, σ))))))))))
set_option maxHeartbeats 4000000 in
set_option maxRecDepth 20000 in
theorem L_X10_trim_s7 {G : xG} {π : Nat → Nat} {d C Z : Nat} {Q : xQ} (σ : xM) (l0 : Nat) (l2 : Int32) {x : (xM ⊕ ((Nat × xM) ⊕ (Nat × Int32 × xM)))} (hf : f_X10_trim_s7 (l0, l2, σ) = some x) (hR : ∀ g, x = Sum.inl (g) → Q (.inl none) (g) π) (hE : ∀ e : (Nat × xM), x = Sum.inr (Sum.inl e) → xMach G π J_X10_trim (d + 0) C Z 35 [(0, .ref e.1)] [] e.2 Q) (hC : ∀ e : (Nat × Int32 × xM), x = Sum.inr (Sum.inr e) → xMach G π J_X10_trim (d + 0) C Z 7 [(0, .ref e.1), (2, .int e.2.1)] [] e.2.2 Q) : xMach G π J_X10_trim (d + 0) C Z 7 [(0, .ref l0), (2, .int l2)] [] σ Q := by
  have hf : (if l2 ≤ (0 : Int32) then some (Sum.inr (Sum.inl (l0, σ))) else (gR σ l0 10 0).bind (fun x2 => (aI σ x2 14 (l2 - (1 : Int32))).bind (fun x3 => (if x3 = (0 : Int32) then (sI σ l0 10 1 (l2 - (1 : Int32))).bind (fun σ4 => xlet (l2 + (-1 : Int32)) (fun v5 => some (Sum.inr (Sum.inr (l0, v5, σ4))))) else some (Sum.inr (Sum.inl (l0, σ))))))) = some x := hf
  refine xm_iload_n dX10_trim_7 rfl ?_
  refine xb_if_le 35 dX10_trim_8 (by decide) hf (fun c hf => ?_) (fun c hf => ?_)
  · cases hf
    exact xm_sub [0] rfl (hE _ rfl)
  · refine xm_aload_n dX10_trim_11 rfl ?_
    refine xb_getR (a := l0) (c := 10) (k := 0) dX10_trim_12 xcl10 (by decide) xw_45 rfl hf (fun x2 ex2 hf => ?_)
    refine xm_iload_n dX10_trim_15 rfl ?_
    refine xm_iconst dX10_trim_16 (v := 1) (by decide) ?_
    refine xm_isub dX10_trim_17 ?_
    refine xb_iald dX10_trim_18 hf (fun x3 ex3 hf => ?_)
    refine xb_if_ne 35 dX10_trim_19 (by decide) hf (fun c hf => ?_) (fun c hf => ?_)
    · cases hf
      exact xm_sub [0] rfl (hE _ rfl)
    · refine xm_aload_n dX10_trim_22 rfl ?_
      refine xm_iload_n dX10_trim_23 rfl ?_
      refine xm_iconst dX10_trim_24 (v := 1) (by decide) ?_
      refine xm_isub dX10_trim_25 ?_
      refine xb_putI (a := l0) (c := 10) (k := 1) dX10_trim_26 xcl10 (by decide) xw_46 rfl rfl hf (fun σ4 eσ4 hf => ?_)
      refine xb_iinc dX10_trim_29 rfl (by decide) (by decide) hf (fun v5 ev5 hf => xm_stL (L' := [(2, .int v5), (0, .ref l0)]) rfl ?_)
      refine xm_goto 7 dX10_trim_32 (by decide) ?_
      cases hf
      exact xm_sub [1, 0] rfl (hC _ rfl)
theorem L_X10_trim_l7 {G : xG} {π : Nat → Nat} {d C Z : Nat} {Q : xQ} {s0 : (Nat × Int32 × xM)} {x : (xM ⊕ (Nat × xM))} (h1 : xloop (f_X10_trim_s7) xF s0 = some x) (hR : ∀ g, x = Sum.inl g → Q (.inl none) (g) π) (hE : ∀ e : (Nat × xM), x = Sum.inr e → xMach G π J_X10_trim (d + 0) C Z 35 [(0, .ref e.1)] [] e.2 Q) : xMach G π J_X10_trim (d + 0) C Z 7 [(0, .ref s0.1), (2, .int s0.2.1)] [] s0.2.2 Q := by
  refine xloop_run (M := (fun s : (Nat × Int32 × xM) => xMach G π J_X10_trim (d + 0) C Z 7 [(0, .ref s.1), (2, .int s.2.1)] [] s.2.2 Q)) (r := x) ?_ xF _ h1
  intro s y hs hx
  exact L_X10_trim_s7 s.2.2 s.1 s.2.1 (x := y) hs (fun g hg => by subst hg; exact hR g hx) (fun e he => by subst he; exact hE e hx) (fun e he => by subst he; exact hx)
def f_X10_trim_j47 (σ : xM)  : Option xM :=
  some σ
set_option maxHeartbeats 4000000 in
set_option maxRecDepth 20000 in
theorem L_X10_trim_j47 {G : xG} {π : Nat → Nat} {d C Z : Nat} {Q : xQ} (σ : xM)  {x : xM} (hf : f_X10_trim_j47 σ = some x) (hR : ∀ g, x = g → Q (.inl none) (g) π) : xMach G π J_X10_trim (d + 0) C Z 47 [] [] σ Q := by
  unfold f_X10_trim_j47 at hf
  cases hf
  exact xm_vret dX10_trim_47 rfl (hR _ rfl)
def f_X10_trim_j35 (σ : xM) (l0 : Nat) : Option xM :=
  (gI σ l0 10 1).bind (fun x6 => (if x6 = (0 : Int32) then (sZ σ l0 10 2 (0 : Int32)).bind (fun σ7 => f_X10_trim_j47 σ7) else f_X10_trim_j47 σ))
set_option maxHeartbeats 4000000 in
set_option maxRecDepth 20000 in
theorem L_X10_trim_j35 {G : xG} {π : Nat → Nat} {d C Z : Nat} {Q : xQ} (σ : xM) (l0 : Nat) {x : xM} (hf : f_X10_trim_j35 σ l0 = some x) (hR : ∀ g, x = g → Q (.inl none) (g) π) : xMach G π J_X10_trim (d + 0) C Z 35 [(0, .ref l0)] [] σ Q := by
  unfold f_X10_trim_j35 at hf
  refine xm_aload_n dX10_trim_35 rfl ?_
  refine xb_getI (a := l0) (c := 10) (k := 1) dX10_trim_36 xcl10 (by decide) xw_46 rfl hf (fun x6 ex6 hf => ?_)
  refine xb_if_ne 47 dX10_trim_39 (by decide) hf (fun c hf => ?_) (fun c hf => ?_)
  · exact xm_sub [] rfl (L_X10_trim_j47 σ hf hR)
  · refine xm_aload_n dX10_trim_42 rfl ?_
    refine xm_iconst dX10_trim_43 (v := 0) (by decide) ?_
    refine xb_putZ (a := l0) (c := 10) (k := 2) dX10_trim_44 xcl10 (by decide) xw_47 rfl rfl hf (fun σ7 eσ7 hf => ?_)
    exact xm_sub [] rfl (L_X10_trim_j47 σ7 hf hR)
def f_X10_trim (σ : xM) (l0 : Nat) (l1 : Int32) : Option xM :=
  (sI σ l0 10 1 l1).bind (fun σ1 => (xloop (f_X10_trim_s7 ) xF (l0, l1, σ1)).bind (Sum.elim (fun g => some g) (fun e => f_X10_trim_j35 e.2 e.1)))
set_option maxHeartbeats 4000000 in
set_option maxRecDepth 20000 in
theorem m_X10_trim {G : xG} {π : Nat → Nat} {d C Z : Nat} {Q : xQ} {σ : xM} {l0 : Nat} {l1 : Int32} {x : xM} (hf : f_X10_trim σ l0 l1 = some x) (hR : ∀ g, x = g → Q (.inl none) (g) π) : xMach G π J_X10_trim (d + 0) C Z 0 (lv_args 0 [.ref l0, .int l1]) [] σ Q := by
  unfold f_X10_trim at hf
  refine xm_stL (L' := [(0, .ref l0), (1, .int l1)]) rfl ?_
  refine xm_aload_n dX10_trim_0 rfl ?_
  refine xm_iload_n dX10_trim_1 rfl ?_
  refine xb_putI (a := l0) (c := 10) (k := 1) dX10_trim_2 xcl10 (by decide) xw_46 rfl rfl hf (fun σ1 eσ1 hf => ?_)
  refine xm_iload_n dX10_trim_5 rfl ?_
  refine xm_istore_n dX10_trim_6 (by decide) (xm_stL (L' := [(2, .int l1), (0, .ref l0), (1, .int l1)]) rfl ?_)
  obtain ⟨o, h1, hf⟩ := xbind hf
  refine xm_sub [1, 0] rfl (L_X10_trim_l7  h1 (fun g hg => ?_) (fun e he => ?_))
  · subst hg
    cases hf
    exact hR _ rfl
  · subst he
    rw [Sum.elim_inr] at hf
    have hf : f_X10_trim_j35 e.2 e.1 = some _ := hf
    exact xm_sub [0] rfl (L_X10_trim_j35 e.2 e.1 hf hR)
-- Rankwise$Whole.sum(LRankwise$Whole;LRankwise$Whole;Z)V
def f_X10_sum_j148 (σ : xM) (l0 : Nat) (l1 : Nat) (l4 : Int32) (l5 : Int32) (l6 : Nat) (l7 : Nat) (l8 : Int32) (l9 : Int32) (l10 : Int64) (l12 : Int32) (l13 : Int64) (s0 : Int64) : Option (xM ⊕ ((Nat × Nat × Int32 × Int32 × Int32 × xM) ⊕ (Nat × Nat × Int32 × Int32 × Nat × Nat × Int32 × Int32 × Int64 × Int32 × xM))) :=
  xlet ((l13 + (((l8).toInt64) * s0)) + l10) (fun v12 => (gR σ l0 10 0).bind (fun x13 => (wI σ x13 l12 (((v12 &&& (1073741823 : Int64))).toInt32)).bind (fun σ14 => xlet (v12 >>> (((30 : Int32)).toInt64 &&& 63)) (fun v15 => xlet (l12 + (1 : Int32)) (fun v16 => some (Sum.inr (Sum.inr (l0, l1, l4, l5, l6, l7, l8, l9, v15, v16, σ14))))))))
set_option maxHeartbeats 4000000 in
set_option maxRecDepth 20000 in
theorem L_X10_sum_j148 {G : xG} {π : Nat → Nat} {d C Z : Nat} {Q : xQ} (σ : xM) (l0 : Nat) (l1 : Nat) (l4 : Int32) (l5 : Int32) (l6 : Nat) (l7 : Nat) (l8 : Int32) (l9 : Int32) (l10 : Int64) (l12 : Int32) (l13 : Int64) (s0 : Int64) {x : (xM ⊕ ((Nat × Nat × Int32 × Int32 × Int32 × xM) ⊕ (Nat × Nat × Int32 × Int32 × Nat × Nat × Int32 × Int32 × Int64 × Int32 × xM)))} (hf : f_X10_sum_j148 σ l0 l1 l4 l5 l6 l7 l8 l9 l10 l12 l13 s0 = some x) (hR : ∀ g, x = Sum.inl (g) → Q (.inl none) (g) π) (hE : ∀ e : (Nat × Nat × Int32 × Int32 × Int32 × xM), x = Sum.inr (Sum.inl e) → xMach G π J_X10_sum (d + 1) C Z 191 [(0, .ref e.1), (1, .ref e.2.1), (4, .int e.2.2.1), (5, .int e.2.2.2.1), (9, .int e.2.2.2.2.1)] [] e.2.2.2.2.2 Q) (hC : ∀ e : (Nat × Nat × Int32 × Int32 × Nat × Nat × Int32 × Int32 × Int64 × Int32 × xM), x = Sum.inr (Sum.inr e) → xMach G π J_X10_sum (d + 1) C Z 93 [(0, .ref e.1), (1, .ref e.2.1), (4, .int e.2.2.1), (5, .int e.2.2.2.1), (6, .ref e.2.2.2.2.1), (7, .ref e.2.2.2.2.2.1), (8, .int e.2.2.2.2.2.2.1), (9, .int e.2.2.2.2.2.2.2.1), (10, .long e.2.2.2.2.2.2.2.2.1), (12, .int e.2.2.2.2.2.2.2.2.2.1)] [] e.2.2.2.2.2.2.2.2.2.2 Q) : xMach G π J_X10_sum (d + 1) C Z 148 [(0, .ref l0), (1, .ref l1), (4, .int l4), (5, .int l5), (6, .ref l6), (7, .ref l7), (8, .int l8), (9, .int l9), (10, .long l10), (12, .int l12), (13, .long l13)] [.long s0] σ Q := by
  unfold f_X10_sum_j148 at hf
  refine xm_lstore dX10_sum_148 (by decide) (xm_stL (L' := [(15, .long s0), (0, .ref l0), (1, .ref l1), (4, .int l4), (5, .int l5), (6, .ref l6), (7, .ref l7), (8, .int l8), (9, .int l9), (10, .long l10), (12, .int l12), (13, .long l13)]) rfl ?_)
  refine xm_lload dX10_sum_150 rfl ?_
  refine xm_iload dX10_sum_152 rfl ?_
  refine xm_i2l dX10_sum_154 rfl ?_
  refine xm_lload dX10_sum_155 rfl ?_
  refine xm_lmul dX10_sum_157 ?_
  refine xm_ladd dX10_sum_158 ?_
  refine xm_lload dX10_sum_159 rfl ?_
  refine xm_ladd dX10_sum_161 ?_
  refine xb_topl hf (fun v12 ev12 hf => ?_)
  refine xm_lstore dX10_sum_162 (by decide) (xm_stL (L' := [(17, .long v12), (15, .long s0), (0, .ref l0), (1, .ref l1), (4, .int l4), (5, .int l5), (6, .ref l6), (7, .ref l7), (8, .int l8), (9, .int l9), (10, .long l10), (12, .int l12), (13, .long l13)]) rfl ?_)
  refine xm_aload_n dX10_sum_164 rfl ?_
  refine xb_getR (a := l0) (c := 10) (k := 0) dX10_sum_165 xcl10 (by decide) xw_45 rfl hf (fun x13 ex13 hf => ?_)
  refine xm_iload dX10_sum_168 rfl ?_
  refine xm_lload dX10_sum_170 rfl ?_
  refine xm_ldc2 dX10_sum_172 (xws_in xw_255) ?_
  refine xm_land dX10_sum_175 ?_
  refine xm_l2i dX10_sum_176 rfl ?_
  refine xb_iast dX10_sum_177 hf (fun σ14 eσ14 hf => ?_)
  refine xm_lload dX10_sum_178 rfl ?_
  refine xm_bipush dX10_sum_180 (v := 30) (by decide) ?_
  refine xm_lshr dX10_sum_182 rfl ?_
  refine xb_topl hf (fun v15 ev15 hf => ?_)
  refine xm_lstore dX10_sum_183 (by decide) (xm_stL (L' := [(10, .long v15), (17, .long v12), (15, .long s0), (0, .ref l0), (1, .ref l1), (4, .int l4), (5, .int l5), (6, .ref l6), (7, .ref l7), (8, .int l8), (9, .int l9), (12, .int l12), (13, .long l13)]) rfl ?_)
  refine xb_iinc dX10_sum_185 rfl (by decide) (by decide) hf (fun v16 ev16 hf => xm_stL (L' := [(12, .int v16), (10, .long v15), (17, .long v12), (15, .long s0), (0, .ref l0), (1, .ref l1), (4, .int l4), (5, .int l5), (6, .ref l6), (7, .ref l7), (8, .int l8), (9, .int l9), (13, .long l13)]) rfl ?_)
  refine xm_goto 93 dX10_sum_188 (by decide) ?_
  cases hf
  exact xm_sub [4, 5, 6, 7, 8, 9, 10, 11, 1, 0] rfl (hC _ rfl)
def f_X10_sum_j123 (σ : xM) (l0 : Nat) (l1 : Nat) (l4 : Int32) (l5 : Int32) (l6 : Nat) (l7 : Nat) (l8 : Int32) (l9 : Int32) (l10 : Int64) (l12 : Int32) (s0 : Int64) : Option (xM ⊕ ((Nat × Nat × Int32 × Int32 × Int32 × xM) ⊕ (Nat × Nat × Int32 × Int32 × Nat × Nat × Int32 × Int32 × Int64 × Int32 × xM))) :=
  (gI σ l7 10 1).bind (fun x11 => (if x11 ≤ l12 then f_X10_sum_j148 σ l0 l1 l4 l5 l6 l7 l8 l9 l10 l12 s0 (0 : Int64) else (gR σ l7 10 0).bind (fun x17 => (aI σ x17 14 l12).bind (fun x18 => f_X10_sum_j148 σ l0 l1 l4 l5 l6 l7 l8 l9 l10 l12 s0 ((x18).toInt64)))))
set_option maxHeartbeats 4000000 in
set_option maxRecDepth 20000 in
theorem L_X10_sum_j123 {G : xG} {π : Nat → Nat} {d C Z : Nat} {Q : xQ} (σ : xM) (l0 : Nat) (l1 : Nat) (l4 : Int32) (l5 : Int32) (l6 : Nat) (l7 : Nat) (l8 : Int32) (l9 : Int32) (l10 : Int64) (l12 : Int32) (s0 : Int64) {x : (xM ⊕ ((Nat × Nat × Int32 × Int32 × Int32 × xM) ⊕ (Nat × Nat × Int32 × Int32 × Nat × Nat × Int32 × Int32 × Int64 × Int32 × xM)))} (hf : f_X10_sum_j123 σ l0 l1 l4 l5 l6 l7 l8 l9 l10 l12 s0 = some x) (hR : ∀ g, x = Sum.inl (g) → Q (.inl none) (g) π) (hE : ∀ e : (Nat × Nat × Int32 × Int32 × Int32 × xM), x = Sum.inr (Sum.inl e) → xMach G π J_X10_sum (d + 1) C Z 191 [(0, .ref e.1), (1, .ref e.2.1), (4, .int e.2.2.1), (5, .int e.2.2.2.1), (9, .int e.2.2.2.2.1)] [] e.2.2.2.2.2 Q) (hC : ∀ e : (Nat × Nat × Int32 × Int32 × Nat × Nat × Int32 × Int32 × Int64 × Int32 × xM), x = Sum.inr (Sum.inr e) → xMach G π J_X10_sum (d + 1) C Z 93 [(0, .ref e.1), (1, .ref e.2.1), (4, .int e.2.2.1), (5, .int e.2.2.2.1), (6, .ref e.2.2.2.2.1), (7, .ref e.2.2.2.2.2.1), (8, .int e.2.2.2.2.2.2.1), (9, .int e.2.2.2.2.2.2.2.1), (10, .long e.2.2.2.2.2.2.2.2.1), (12, .int e.2.2.2.2.2.2.2.2.2.1)] [] e.2.2.2.2.2.2.2.2.2.2 Q) : xMach G π J_X10_sum (d + 1) C Z 123 [(0, .ref l0), (1, .ref l1), (4, .int l4), (5, .int l5), (6, .ref l6), (7, .ref l7), (8, .int l8), (9, .int l9), (10, .long l10), (12, .int l12)] [.long s0] σ Q := by
  unfold f_X10_sum_j123 at hf
  refine xm_lstore dX10_sum_123 (by decide) (xm_stL (L' := [(13, .long s0), (0, .ref l0), (1, .ref l1), (4, .int l4), (5, .int l5), (6, .ref l6), (7, .ref l7), (8, .int l8), (9, .int l9), (10, .long l10), (12, .int l12)]) rfl ?_)
  refine xm_iload dX10_sum_125 rfl ?_
  refine xm_aload dX10_sum_127 rfl ?_
  refine xb_getI (a := l7) (c := 10) (k := 1) dX10_sum_129 xcl10 (by decide) xw_46 rfl hf (fun x11 ex11 hf => ?_)
  refine xb_icmp_ge 147 dX10_sum_132 (by decide) hf (fun c hf => ?_) (fun c hf => ?_)
  · refine xm_lconst dX10_sum_147 (v := 0) (by decide) ?_
    exact xm_sub [1, 2, 3, 4, 5, 6, 7, 8, 9, 10, 0] rfl (L_X10_sum_j148 σ l0 l1 l4 l5 l6 l7 l8 l9 l10 l12 s0 (0 : Int64) hf hR hE hC)
  · refine xm_aload dX10_sum_135 rfl ?_
    refine xb_getR (a := l7) (c := 10) (k := 0) dX10_sum_137 xcl10 (by decide) xw_45 rfl hf (fun x17 ex17 hf => ?_)
    refine xm_iload dX10_sum_140 rfl ?_
    refine xb_iald dX10_sum_142 hf (fun x18 ex18 hf => ?_)
    refine xm_i2l dX10_sum_143 rfl ?_
    refine xm_goto 148 dX10_sum_144 (by decide) ?_
    exact xm_sub [1, 2, 3, 4, 5, 6, 7, 8, 9, 10, 0] rfl (L_X10_sum_j148 σ l0 l1 l4 l5 l6 l7 l8 l9 l10 l12 s0 ((x18).toInt64) hf hR hE hC)
def f_X10_sum_s93 (s : (Nat × Nat × Int32 × Int32 × Nat × Nat × Int32 × Int32 × Int64 × Int32 × xM)) : Option (xM ⊕ ((Nat × Nat × Int32 × Int32 × Int32 × xM) ⊕ (Nat × Nat × Int32 × Int32 × Nat × Nat × Int32 × Int32 × Int64 × Int32 × xM))) :=
  xlet s.1 (fun l0 => xlet s.2.1 (fun l1 => xlet s.2.2.1 (fun l4 => xlet s.2.2.2.1 (fun l5 => xlet s.2.2.2.2.1 (fun l6 => xlet s.2.2.2.2.2.1 (fun l7 => xlet s.2.2.2.2.2.2.1 (fun l8 => xlet s.2.2.2.2.2.2.2.1 (fun l9 => xlet s.2.2.2.2.2.2.2.2.1 (fun l10 => xlet s.2.2.2.2.2.2.2.2.2.1 (fun l12 => xlet s.2.2.2.2.2.2.2.2.2.2 (fun σ => (if l9 ≤ l12 then some (Sum.inr (Sum.inl (l0, l1, l4, l5, l9, σ))) else (gI σ l6 10 1).bind (fun x10 => (if x10 ≤ l12 then f_X10_sum_j123 σ l0 l1 l4 l5 l6 l7 l8 l9 l10 l12 (0 : Int64) else (gR σ l6 10 0).bind (fun x19 => (aI σ x19 14 l12).bind (fun x20 => f_X10_sum_j123 σ l0 l1 l4 l5 l6 l7 l8 l9 l10 l12 ((x20).toInt64)))))))))))))))))
set_option maxHeartbeats 4000000 in
set_option maxRecDepth 20000 in
theorem L_X10_sum_s93 {G : xG} {π : Nat → Nat} {d C Z : Nat} {Q : xQ} (σ : xM) (l0 : Nat) (l1 : Nat) (l4 : Int32) (l5 : Int32) (l6 : Nat) (l7 : Nat) (l8 : Int32) (l9 : Int32) (l10 : Int64) (l12 : Int32) {x : (xM ⊕ ((Nat × Nat × Int32 × Int32 × Int32 × xM) ⊕ (Nat × Nat × Int32 × Int32 × Nat × Nat × Int32 × Int32 × Int64 × Int32 × xM)))} (hf : f_X10_sum_s93 (l0, l1, l4, l5, l6, l7, l8, l9, l10, l12, σ) = some x) (hR : ∀ g, x = Sum.inl (g) → Q (.inl none) (g) π) (hE : ∀ e : (Nat × Nat × Int32 × Int32 × Int32 × xM), x = Sum.inr (Sum.inl e) → xMach G π J_X10_sum (d + 1) C Z 191 [(0, .ref e.1), (1, .ref e.2.1), (4, .int e.2.2.1), (5, .int e.2.2.2.1), (9, .int e.2.2.2.2.1)] [] e.2.2.2.2.2 Q) (hC : ∀ e : (Nat × Nat × Int32 × Int32 × Nat × Nat × Int32 × Int32 × Int64 × Int32 × xM), x = Sum.inr (Sum.inr e) → xMach G π J_X10_sum (d + 1) C Z 93 [(0, .ref e.1), (1, .ref e.2.1), (4, .int e.2.2.1), (5, .int e.2.2.2.1), (6, .ref e.2.2.2.2.1), (7, .ref e.2.2.2.2.2.1), (8, .int e.2.2.2.2.2.2.1), (9, .int e.2.2.2.2.2.2.2.1), (10, .long e.2.2.2.2.2.2.2.2.1), (12, .int e.2.2.2.2.2.2.2.2.2.1)] [] e.2.2.2.2.2.2.2.2.2.2 Q) : xMach G π J_X10_sum (d + 1) C Z 93 [(0, .ref l0), (1, .ref l1), (4, .int l4), (5, .int l5), (6, .ref l6), (7, .ref l7), (8, .int l8), (9, .int l9), (10, .long l10), (12, .int l12)] [] σ Q := by
  have hf : (if l9 ≤ l12 then some (Sum.inr (Sum.inl (l0, l1, l4, l5, l9, σ))) else (gI σ l6 10 1).bind (fun x10 => (if x10 ≤ l12 then f_X10_sum_j123 σ l0 l1 l4 l5 l6 l7 l8 l9 l10 l12 (0 : Int64) else (gR σ l6 10 0).bind (fun x19 => (aI σ x19 14 l12).bind (fun x20 => f_X10_sum_j123 σ l0 l1 l4 l5 l6 l7 l8 l9 l10 l12 ((x20).toInt64)))))) = some x := hf
  refine xm_iload dX10_sum_93 rfl ?_
  refine xm_iload dX10_sum_95 rfl ?_
  refine xb_icmp_ge 191 dX10_sum_97 (by decide) hf (fun c hf => ?_) (fun c hf => ?_)
  · cases hf
    exact xm_sub [0, 1, 2, 3, 7] rfl (hE _ rfl)
  · refine xm_iload dX10_sum_100 rfl ?_
    refine xm_aload dX10_sum_102 rfl ?_
    refine xb_getI (a := l6) (c := 10) (k := 1) dX10_sum_104 xcl10 (by decide) xw_46 rfl hf (fun x10 ex10 hf => ?_)
    refine xb_icmp_ge 122 dX10_sum_107 (by decide) hf (fun c hf => ?_) (fun c hf => ?_)
    · refine xm_lconst dX10_sum_122 (v := 0) (by decide) ?_
      exact xm_sub [0, 1, 2, 3, 4, 5, 6, 7, 8, 9] rfl (L_X10_sum_j123 σ l0 l1 l4 l5 l6 l7 l8 l9 l10 l12 (0 : Int64) hf hR hE hC)
    · refine xm_aload dX10_sum_110 rfl ?_
      refine xb_getR (a := l6) (c := 10) (k := 0) dX10_sum_112 xcl10 (by decide) xw_45 rfl hf (fun x19 ex19 hf => ?_)
      refine xm_iload dX10_sum_115 rfl ?_
      refine xb_iald dX10_sum_117 hf (fun x20 ex20 hf => ?_)
      refine xm_i2l dX10_sum_118 rfl ?_
      refine xm_goto 123 dX10_sum_119 (by decide) ?_
      exact xm_sub [0, 1, 2, 3, 4, 5, 6, 7, 8, 9] rfl (L_X10_sum_j123 σ l0 l1 l4 l5 l6 l7 l8 l9 l10 l12 ((x20).toInt64) hf hR hE hC)
theorem L_X10_sum_l93 {G : xG} {π : Nat → Nat} {d C Z : Nat} {Q : xQ} {s0 : (Nat × Nat × Int32 × Int32 × Nat × Nat × Int32 × Int32 × Int64 × Int32 × xM)} {x : (xM ⊕ (Nat × Nat × Int32 × Int32 × Int32 × xM))} (h1 : xloop (f_X10_sum_s93) xF s0 = some x) (hR : ∀ g, x = Sum.inl g → Q (.inl none) (g) π) (hE : ∀ e : (Nat × Nat × Int32 × Int32 × Int32 × xM), x = Sum.inr e → xMach G π J_X10_sum (d + 1) C Z 191 [(0, .ref e.1), (1, .ref e.2.1), (4, .int e.2.2.1), (5, .int e.2.2.2.1), (9, .int e.2.2.2.2.1)] [] e.2.2.2.2.2 Q) : xMach G π J_X10_sum (d + 1) C Z 93 [(0, .ref s0.1), (1, .ref s0.2.1), (4, .int s0.2.2.1), (5, .int s0.2.2.2.1), (6, .ref s0.2.2.2.2.1), (7, .ref s0.2.2.2.2.2.1), (8, .int s0.2.2.2.2.2.2.1), (9, .int s0.2.2.2.2.2.2.2.1), (10, .long s0.2.2.2.2.2.2.2.2.1), (12, .int s0.2.2.2.2.2.2.2.2.2.1)] [] s0.2.2.2.2.2.2.2.2.2.2 Q := by
  refine xloop_run (M := (fun s : (Nat × Nat × Int32 × Int32 × Nat × Nat × Int32 × Int32 × Int64 × Int32 × xM) => xMach G π J_X10_sum (d + 1) C Z 93 [(0, .ref s.1), (1, .ref s.2.1), (4, .int s.2.2.1), (5, .int s.2.2.2.1), (6, .ref s.2.2.2.2.1), (7, .ref s.2.2.2.2.2.1), (8, .int s.2.2.2.2.2.2.1), (9, .int s.2.2.2.2.2.2.2.1), (10, .long s.2.2.2.2.2.2.2.2.1), (12, .int s.2.2.2.2.2.2.2.2.2.1)] [] s.2.2.2.2.2.2.2.2.2.2 Q)) (r := x) ?_ xF _ h1
  intro s y hs hx
  exact L_X10_sum_s93 s.2.2.2.2.2.2.2.2.2.2 s.1 s.2.1 s.2.2.1 s.2.2.2.1 s.2.2.2.2.1 s.2.2.2.2.2.1 s.2.2.2.2.2.2.1 s.2.2.2.2.2.2.2.1 s.2.2.2.2.2.2.2.2.1 s.2.2.2.2.2.2.2.2.2.1 (x := y) hs (fun g hg => by subst hg; exact hR g hx) (fun e he => by subst he; exact hE e hx) (fun e he => by subst he; exact hx)
def f_X10_sum_j206 (σ : xM) (l0 : Nat) (l9 : Int32) (s0 : Int32) (s1 : Nat) : Option xM :=
  (sZ σ s1 10 2 s0).bind (fun σ22 => (if xk σ22 l0 10 = true then (f_X10_trim σ22 l0 l9).bind (fun p23 => some p23) else none))
set_option maxHeartbeats 4000000 in
set_option maxRecDepth 20000 in
theorem L_X10_sum_j206 {G : xG} {π : Nat → Nat} {d C Z : Nat} {Q : xQ} (σ : xM) (l0 : Nat) (l9 : Int32) (s0 : Int32) (s1 : Nat) {x : xM} (hf : f_X10_sum_j206 σ l0 l9 s0 s1 = some x) (hR : ∀ g, x = g → Q (.inl none) (g) π) : xMach G π J_X10_sum (d + 1) C Z 206 [(0, .ref l0), (9, .int l9)] [.int s0, .ref s1] σ Q := by
  unfold f_X10_sum_j206 at hf
  refine xb_putZ (a := s1) (c := 10) (k := 2) dX10_sum_206 xcl10 (by decide) xw_47 rfl rfl hf (fun σ22 eσ22 hf => ?_)
  refine xm_aload_n dX10_sum_209 rfl ?_
  refine xm_iload dX10_sum_210 rfl ?_
  refine xb_if hf (fun hb hf => ?_) (fun _ q => nomatch q)
  obtain ⟨p23, ep23, hf⟩ := xbind hf
  refine xb_callV (As := [.int l9]) (v0 := none) (τ0 := p23) dX10_sum_212 (xc_X10_trim _ _) xcl10 xw_1050 xw_1052 xs_32 hb rfl (Nat.le_of_ble_eq_true rfl) rfl (Nat.le_of_ble_eq_true rfl) (fun Q1 hq => m_X10_trim (d := d + 0) ep23 (fun g hg => by subst hg; exact hq)) ?_
  cases hf
  exact xm_vret dX10_sum_215 rfl (hR _ rfl)
def f_X10_sum_j191 (σ : xM) (l0 : Nat) (l1 : Nat) (l4 : Int32) (l5 : Int32) (l9 : Int32) : Option xM :=
  (if l5 = (0 : Int32) then (gI σ l1 10 2).bind (fun x21 => f_X10_sum_j206 σ l0 l9 x21 l0) else f_X10_sum_j206 σ l0 l9 l4 l0)
set_option maxHeartbeats 4000000 in
set_option maxRecDepth 20000 in
theorem L_X10_sum_j191 {G : xG} {π : Nat → Nat} {d C Z : Nat} {Q : xQ} (σ : xM) (l0 : Nat) (l1 : Nat) (l4 : Int32) (l5 : Int32) (l9 : Int32) {x : xM} (hf : f_X10_sum_j191 σ l0 l1 l4 l5 l9 = some x) (hR : ∀ g, x = g → Q (.inl none) (g) π) : xMach G π J_X10_sum (d + 1) C Z 191 [(0, .ref l0), (1, .ref l1), (4, .int l4), (5, .int l5), (9, .int l9)] [] σ Q := by
  unfold f_X10_sum_j191 at hf
  refine xm_aload_n dX10_sum_191 rfl ?_
  refine xm_iload dX10_sum_192 rfl ?_
  refine xb_if_eq 202 dX10_sum_194 (by decide) hf (fun c hf => ?_) (fun c hf => ?_)
  · refine xm_aload_n dX10_sum_202 rfl ?_
    refine xb_getI (a := l1) (c := 10) (k := 2) dX10_sum_203 xcl10 (by decide) xw_47 rfl hf (fun x21 ex21 hf => ?_)
    exact xm_sub [0, 4] rfl (L_X10_sum_j206 σ l0 l9 x21 l0 hf hR)
  · refine xm_iload dX10_sum_197 rfl ?_
    refine xm_goto 206 dX10_sum_199 (by decide) ?_
    exact xm_sub [0, 4] rfl (L_X10_sum_j206 σ l0 l9 l4 l0 hf hR)
def f_X10_sum_j68 (σ : xM) (l0 : Nat) (l1 : Nat) (l4 : Int32) (l5 : Int32) (l6 : Nat) (l7 : Nat) (s0 : Int32) : Option xM :=
  (gI σ l6 10 1).bind (fun x4 => (gR σ l0 10 0).bind (fun x5 => (gL σ x5 14).bind (fun x6 => xlet (if x6 < (x4 + (1 : Int32)) then x6 else (x4 + (1 : Int32))) (fun v7 => xlet (0 : Int64) (fun v8 => xlet (0 : Int32) (fun v9 => (xloop (f_X10_sum_s93 ) xF (l0, l1, l4, l5, l6, l7, s0, v7, v8, v9, σ)).bind (Sum.elim (fun g => some g) (fun e => f_X10_sum_j191 e.2.2.2.2.2 e.1 e.2.1 e.2.2.1 e.2.2.2.1 e.2.2.2.2.1))))))))
set_option maxHeartbeats 4000000 in
set_option maxRecDepth 20000 in
theorem L_X10_sum_j68 {G : xG} {π : Nat → Nat} {d C Z : Nat} {Q : xQ} (σ : xM) (l0 : Nat) (l1 : Nat) (l4 : Int32) (l5 : Int32) (l6 : Nat) (l7 : Nat) (s0 : Int32) {x : xM} (hf : f_X10_sum_j68 σ l0 l1 l4 l5 l6 l7 s0 = some x) (hR : ∀ g, x = g → Q (.inl none) (g) π) : xMach G π J_X10_sum (d + 1) C Z 68 [(0, .ref l0), (1, .ref l1), (4, .int l4), (5, .int l5), (6, .ref l6), (7, .ref l7)] [.int s0] σ Q := by
  unfold f_X10_sum_j68 at hf
  refine xm_istore dX10_sum_68 (by decide) (xm_stL (L' := [(8, .int s0), (0, .ref l0), (1, .ref l1), (4, .int l4), (5, .int l5), (6, .ref l6), (7, .ref l7)]) rfl ?_)
  refine xm_aload dX10_sum_70 rfl ?_
  refine xb_getI (a := l6) (c := 10) (k := 1) dX10_sum_72 xcl10 (by decide) xw_46 rfl hf (fun x4 ex4 hf => ?_)
  refine xm_iconst dX10_sum_75 (v := 1) (by decide) ?_
  refine xm_iadd dX10_sum_76 ?_
  refine xm_aload_n dX10_sum_77 rfl ?_
  refine xb_getR (a := l0) (c := 10) (k := 0) dX10_sum_78 xcl10 (by decide) xw_45 rfl hf (fun x5 ex5 hf => ?_)
  refine xb_alen dX10_sum_81 (by decide) (by decide) hf (fun x6 ex6 hf => ?_)
  refine xm_min dX10_sum_82 xw_1049 xw_120 xw_7 xw_121 (Nat.le_of_ble_eq_true rfl) ?_
  refine xb_topi hf (fun v7 ev7 hf => ?_)
  refine xm_istore dX10_sum_85 (by decide) (xm_stL (L' := [(9, .int v7), (8, .int s0), (0, .ref l0), (1, .ref l1), (4, .int l4), (5, .int l5), (6, .ref l6), (7, .ref l7)]) rfl ?_)
  refine xm_lconst dX10_sum_87 (v := 0) (by decide) ?_
  refine xb_topl hf (fun v8 ev8 hf => ?_)
  refine xm_lstore dX10_sum_88 (by decide) (xm_stL (L' := [(10, .long v8), (9, .int v7), (8, .int s0), (0, .ref l0), (1, .ref l1), (4, .int l4), (5, .int l5), (6, .ref l6), (7, .ref l7)]) rfl ?_)
  refine xm_iconst dX10_sum_90 (v := 0) (by decide) ?_
  refine xb_topi hf (fun v9 ev9 hf => ?_)
  refine xm_istore dX10_sum_91 (by decide) (xm_stL (L' := [(12, .int v9), (10, .long v8), (9, .int v7), (8, .int s0), (0, .ref l0), (1, .ref l1), (4, .int l4), (5, .int l5), (6, .ref l6), (7, .ref l7)]) rfl ?_)
  obtain ⟨o, h1, hf⟩ := xbind hf
  refine xm_sub [4, 5, 6, 7, 8, 9, 3, 2, 1, 0] rfl (L_X10_sum_l93  h1 (fun g hg => ?_) (fun e he => ?_))
  · subst hg
    cases hf
    exact hR _ rfl
  · subst he
    rw [Sum.elim_inr] at hf
    have hf : f_X10_sum_j191 e.2.2.2.2.2 e.1 e.2.1 e.2.2.1 e.2.2.2.1 e.2.2.2.2.1 = some _ := hf
    exact xm_sub [0, 1, 2, 3, 4] rfl (L_X10_sum_j191 e.2.2.2.2.2 e.1 e.2.1 e.2.2.1 e.2.2.2.1 e.2.2.2.2.1 hf hR)
def f_X10_sum_j52 (σ : xM) (l0 : Nat) (l1 : Nat) (l4 : Int32) (l5 : Int32) (l6 : Nat) (s0 : Nat) : Option xM :=
  (gI σ l1 10 2).bind (fun x3 => (if x3 = l4 then f_X10_sum_j68 σ l0 l1 l4 l5 l6 s0 (1 : Int32) else f_X10_sum_j68 σ l0 l1 l4 l5 l6 s0 (-1 : Int32)))
set_option maxHeartbeats 4000000 in
set_option maxRecDepth 20000 in
theorem L_X10_sum_j52 {G : xG} {π : Nat → Nat} {d C Z : Nat} {Q : xQ} (σ : xM) (l0 : Nat) (l1 : Nat) (l4 : Int32) (l5 : Int32) (l6 : Nat) (s0 : Nat) {x : xM} (hf : f_X10_sum_j52 σ l0 l1 l4 l5 l6 s0 = some x) (hR : ∀ g, x = g → Q (.inl none) (g) π) : xMach G π J_X10_sum (d + 1) C Z 52 [(0, .ref l0), (1, .ref l1), (4, .int l4), (5, .int l5), (6, .ref l6)] [.ref s0] σ Q := by
  unfold f_X10_sum_j52 at hf
  refine xm_astore dX10_sum_52 (by decide) (xm_stL (L' := [(7, .ref s0), (0, .ref l0), (1, .ref l1), (4, .int l4), (5, .int l5), (6, .ref l6)]) rfl ?_)
  refine xm_aload_n dX10_sum_54 rfl ?_
  refine xb_getI (a := l1) (c := 10) (k := 2) dX10_sum_55 xcl10 (by decide) xw_47 rfl hf (fun x3 ex3 hf => ?_)
  refine xm_iload dX10_sum_58 rfl ?_
  refine xb_icmp_ne 67 dX10_sum_60 (by decide) hf (fun c hf => ?_) (fun c hf => ?_)
  · refine xm_iconst dX10_sum_67 (v := -1) (by decide) ?_
    exact xm_sub [1, 2, 3, 4, 5, 0] rfl (L_X10_sum_j68 σ l0 l1 l4 l5 l6 s0 (-1 : Int32) hf hR)
  · refine xm_iconst dX10_sum_63 (v := 1) (by decide) ?_
    refine xm_goto 68 dX10_sum_64 (by decide) ?_
    exact xm_sub [1, 2, 3, 4, 5, 0] rfl (L_X10_sum_j68 σ l0 l1 l4 l5 l6 s0 (1 : Int32) hf hR)
def f_X10_sum_j40 (σ : xM) (l0 : Nat) (l1 : Nat) (l2 : Nat) (l4 : Int32) (l5 : Int32) (s0 : Nat) : Option xM :=
  (if l5 = (0 : Int32) then f_X10_sum_j52 σ l0 l1 l4 l5 s0 l2 else f_X10_sum_j52 σ l0 l1 l4 l5 s0 l1)
set_option maxHeartbeats 4000000 in
set_option maxRecDepth 20000 in
theorem L_X10_sum_j40 {G : xG} {π : Nat → Nat} {d C Z : Nat} {Q : xQ} (σ : xM) (l0 : Nat) (l1 : Nat) (l2 : Nat) (l4 : Int32) (l5 : Int32) (s0 : Nat) {x : xM} (hf : f_X10_sum_j40 σ l0 l1 l2 l4 l5 s0 = some x) (hR : ∀ g, x = g → Q (.inl none) (g) π) : xMach G π J_X10_sum (d + 1) C Z 40 [(0, .ref l0), (1, .ref l1), (2, .ref l2), (4, .int l4), (5, .int l5)] [.ref s0] σ Q := by
  unfold f_X10_sum_j40 at hf
  refine xm_astore dX10_sum_40 (by decide) (xm_stL (L' := [(6, .ref s0), (0, .ref l0), (1, .ref l1), (2, .ref l2), (4, .int l4), (5, .int l5)]) rfl ?_)
  refine xm_iload dX10_sum_42 rfl ?_
  refine xb_if_eq 51 dX10_sum_44 (by decide) hf (fun c hf => ?_) (fun c hf => ?_)
  · refine xm_aload_n dX10_sum_51 rfl ?_
    exact xm_sub [1, 2, 4, 5, 0] rfl (L_X10_sum_j52 σ l0 l1 l4 l5 s0 l2 hf hR)
  · refine xm_aload_n dX10_sum_47 rfl ?_
    refine xm_goto 52 dX10_sum_48 (by decide) ?_
    exact xm_sub [1, 2, 4, 5, 0] rfl (L_X10_sum_j52 σ l0 l1 l4 l5 s0 l1 hf hR)
def f_X10_sum_j28 (σ : xM) (l0 : Nat) (l1 : Nat) (l2 : Nat) (l4 : Int32) (s0 : Int32) : Option xM :=
  (if s0 = (0 : Int32) then f_X10_sum_j40 σ l0 l1 l2 l4 s0 l1 else f_X10_sum_j40 σ l0 l1 l2 l4 s0 l2)
set_option maxHeartbeats 4000000 in
set_option maxRecDepth 20000 in
theorem L_X10_sum_j28 {G : xG} {π : Nat → Nat} {d C Z : Nat} {Q : xQ} (σ : xM) (l0 : Nat) (l1 : Nat) (l2 : Nat) (l4 : Int32) (s0 : Int32) {x : xM} (hf : f_X10_sum_j28 σ l0 l1 l2 l4 s0 = some x) (hR : ∀ g, x = g → Q (.inl none) (g) π) : xMach G π J_X10_sum (d + 1) C Z 28 [(0, .ref l0), (1, .ref l1), (2, .ref l2), (4, .int l4)] [.int s0] σ Q := by
  unfold f_X10_sum_j28 at hf
  refine xm_istore dX10_sum_28 (by decide) (xm_stL (L' := [(5, .int s0), (0, .ref l0), (1, .ref l1), (2, .ref l2), (4, .int l4)]) rfl ?_)
  refine xm_iload dX10_sum_30 rfl ?_
  refine xb_if_eq 39 dX10_sum_32 (by decide) hf (fun c hf => ?_) (fun c hf => ?_)
  · refine xm_aload_n dX10_sum_39 rfl ?_
    exact xm_sub [1, 2, 3, 4, 0] rfl (L_X10_sum_j40 σ l0 l1 l2 l4 s0 l1 hf hR)
  · refine xm_aload_n dX10_sum_35 rfl ?_
    refine xm_goto 40 dX10_sum_36 (by decide) ?_
    exact xm_sub [1, 2, 3, 4, 0] rfl (L_X10_sum_j40 σ l0 l1 l2 l4 s0 l2 hf hR)
def f_X10_sum_j13 (σ : xM) (l0 : Nat) (l1 : Nat) (l2 : Nat) (s0 : Int32) : Option xM :=
  (f_X10_compareSizes σ l1 l2).bind (fun p2 => (if (0 : Int32) ≤ p2 then f_X10_sum_j28 σ l0 l1 l2 s0 (0 : Int32) else f_X10_sum_j28 σ l0 l1 l2 s0 (1 : Int32)))
set_option maxHeartbeats 4000000 in
set_option maxRecDepth 20000 in
theorem L_X10_sum_j13 {G : xG} {π : Nat → Nat} {d C Z : Nat} {Q : xQ} (σ : xM) (l0 : Nat) (l1 : Nat) (l2 : Nat) (s0 : Int32) {x : xM} (hf : f_X10_sum_j13 σ l0 l1 l2 s0 = some x) (hR : ∀ g, x = g → Q (.inl none) (g) π) : xMach G π J_X10_sum (d + 1) C Z 13 [(0, .ref l0), (1, .ref l1), (2, .ref l2)] [.int s0] σ Q := by
  unfold f_X10_sum_j13 at hf
  refine xm_istore dX10_sum_13 (by decide) (xm_stL (L' := [(4, .int s0), (0, .ref l0), (1, .ref l1), (2, .ref l2)]) rfl ?_)
  refine xm_aload_n dX10_sum_15 rfl ?_
  refine xm_aload_n dX10_sum_16 rfl ?_
  obtain ⟨p2, ep2, hf⟩ := xbind hf
  refine xb_callS (As := [.ref l1, .ref l2]) (v0 := (some (.int p2))) (τ0 := σ) dX10_sum_17 (xc_X10_compareSizes _ _) xw_1046 xw_1047 rfl (Nat.le_of_ble_eq_true rfl) rfl (Nat.le_of_ble_eq_true rfl) (fun Q1 hq => m_X10_compareSizes (d := d + 0) ep2 (fun g hg => by subst hg; exact hq)) ?_
  refine xb_if_ge 27 dX10_sum_20 (by decide) hf (fun c hf => ?_) (fun c hf => ?_)
  · refine xm_iconst dX10_sum_27 (v := 0) (by decide) ?_
    exact xm_sub [1, 2, 3, 0] rfl (L_X10_sum_j28 σ l0 l1 l2 s0 (0 : Int32) hf hR)
  · refine xm_iconst dX10_sum_23 (v := 1) (by decide) ?_
    refine xm_goto 28 dX10_sum_24 (by decide) ?_
    exact xm_sub [1, 2, 3, 0] rfl (L_X10_sum_j28 σ l0 l1 l2 s0 (1 : Int32) hf hR)
def f_X10_sum (σ : xM) (l0 : Nat) (l1 : Nat) (l2 : Nat) (l3 : Int32) : Option xM :=
  (gI σ l2 10 2).bind (fun x1 => (if x1 = l3 then f_X10_sum_j13 σ l0 l1 l2 (0 : Int32) else f_X10_sum_j13 σ l0 l1 l2 (1 : Int32)))
set_option maxHeartbeats 4000000 in
set_option maxRecDepth 20000 in
theorem m_X10_sum {G : xG} {π : Nat → Nat} {d C Z : Nat} {Q : xQ} {σ : xM} {l0 : Nat} {l1 : Nat} {l2 : Nat} {l3 : Int32} {x : xM} (hf : f_X10_sum σ l0 l1 l2 l3 = some x) (hR : ∀ g, x = g → Q (.inl none) (g) π) : xMach G π J_X10_sum (d + 1) C Z 0 (lv_args 0 [.ref l0, .ref l1, .ref l2, .int l3]) [] σ Q := by
  unfold f_X10_sum at hf
  refine xm_stL (L' := [(0, .ref l0), (1, .ref l1), (2, .ref l2), (3, .int l3)]) rfl ?_
  refine xm_aload_n dX10_sum_0 rfl ?_
  refine xb_getI (a := l2) (c := 10) (k := 2) dX10_sum_1 xcl10 (by decide) xw_47 rfl hf (fun x1 ex1 hf => ?_)
  refine xm_iload_n dX10_sum_4 rfl ?_
  refine xb_icmp_eq 12 dX10_sum_5 (by decide) hf (fun c hf => ?_) (fun c hf => ?_)
  · refine xm_iconst dX10_sum_12 (v := 0) (by decide) ?_
    exact xm_sub [0, 1, 2] rfl (L_X10_sum_j13 σ l0 l1 l2 (0 : Int32) hf hR)
  · refine xm_iconst dX10_sum_8 (v := 1) (by decide) ?_
    refine xm_goto 13 dX10_sum_9 (by decide) ?_
    exact xm_sub [0, 1, 2] rfl (L_X10_sum_j13 σ l0 l1 l2 (1 : Int32) hf hR)
-- Rankwise$Whole.multiply(LRankwise$Whole;LRankwise$Whole;)V
def f_X10_multiply_s21 (s : (Nat × Nat × Nat × Int32 × Int32 × xM)) : Option (xM ⊕ ((Nat × Nat × Nat × Int32 × xM) ⊕ (Nat × Nat × Nat × Int32 × Int32 × xM))) :=
  xlet s.1 (fun l0 => xlet s.2.1 (fun l1 => xlet s.2.2.1 (fun l2 => xlet s.2.2.2.1 (fun l3 => xlet s.2.2.2.2.1 (fun l4 => xlet s.2.2.2.2.2 (fun σ => (if l3 ≤ l4 then some (Sum.inr (Sum.inl (l0, l1, l2, l3, σ))) else (gR σ l0 10 0).bind (fun x7 => (wI σ x7 l4 (0 : Int32)).bind (fun σ8 => xlet (l4 + (1 : Int32)) (fun v9 => some (Sum.inr (Sum.inr (l0, l1, l2, l3, v9, σ8)))))))))))))
set_option maxHeartbeats 4000000 in
set_option maxRecDepth 20000 in
theorem L_X10_multiply_s21 {G : xG} {π : Nat → Nat} {d C Z : Nat} {Q : xQ} (σ : xM) (l0 : Nat) (l1 : Nat) (l2 : Nat) (l3 : Int32) (l4 : Int32) {x : (xM ⊕ ((Nat × Nat × Nat × Int32 × xM) ⊕ (Nat × Nat × Nat × Int32 × Int32 × xM)))} (hf : f_X10_multiply_s21 (l0, l1, l2, l3, l4, σ) = some x) (hR : ∀ g, x = Sum.inl (g) → Q (.inl none) (g) π) (hE : ∀ e : (Nat × Nat × Nat × Int32 × xM), x = Sum.inr (Sum.inl e) → xMach G π J_X10_multiply (d + 1) C Z 41 [(0, .ref e.1), (1, .ref e.2.1), (2, .ref e.2.2.1), (3, .int e.2.2.2.1)] [] e.2.2.2.2 Q) (hC : ∀ e : (Nat × Nat × Nat × Int32 × Int32 × xM), x = Sum.inr (Sum.inr e) → xMach G π J_X10_multiply (d + 1) C Z 21 [(0, .ref e.1), (1, .ref e.2.1), (2, .ref e.2.2.1), (3, .int e.2.2.2.1), (4, .int e.2.2.2.2.1)] [] e.2.2.2.2.2 Q) : xMach G π J_X10_multiply (d + 1) C Z 21 [(0, .ref l0), (1, .ref l1), (2, .ref l2), (3, .int l3), (4, .int l4)] [] σ Q := by
  have hf : (if l3 ≤ l4 then some (Sum.inr (Sum.inl (l0, l1, l2, l3, σ))) else (gR σ l0 10 0).bind (fun x7 => (wI σ x7 l4 (0 : Int32)).bind (fun σ8 => xlet (l4 + (1 : Int32)) (fun v9 => some (Sum.inr (Sum.inr (l0, l1, l2, l3, v9, σ8))))))) = some x := hf
  refine xm_iload dX10_multiply_21 rfl ?_
  refine xm_iload_n dX10_multiply_23 rfl ?_
  refine xb_icmp_ge 41 dX10_multiply_24 (by decide) hf (fun c hf => ?_) (fun c hf => ?_)
  · cases hf
    exact xm_sub [0, 1, 2, 3] rfl (hE _ rfl)
  · refine xm_aload_n dX10_multiply_27 rfl ?_
    refine xb_getR (a := l0) (c := 10) (k := 0) dX10_multiply_28 xcl10 (by decide) xw_45 rfl hf (fun x7 ex7 hf => ?_)
    refine xm_iload dX10_multiply_31 rfl ?_
    refine xm_iconst dX10_multiply_33 (v := 0) (by decide) ?_
    refine xb_iast dX10_multiply_34 hf (fun σ8 eσ8 hf => ?_)
    refine xb_iinc dX10_multiply_35 rfl (by decide) (by decide) hf (fun v9 ev9 hf => xm_stL (L' := [(4, .int v9), (0, .ref l0), (1, .ref l1), (2, .ref l2), (3, .int l3)]) rfl ?_)
    refine xm_goto 21 dX10_multiply_38 (by decide) ?_
    cases hf
    exact xm_sub [1, 2, 3, 4, 0] rfl (hC _ rfl)
theorem L_X10_multiply_l21 {G : xG} {π : Nat → Nat} {d C Z : Nat} {Q : xQ} {s0 : (Nat × Nat × Nat × Int32 × Int32 × xM)} {x : (xM ⊕ (Nat × Nat × Nat × Int32 × xM))} (h1 : xloop (f_X10_multiply_s21) xF s0 = some x) (hR : ∀ g, x = Sum.inl g → Q (.inl none) (g) π) (hE : ∀ e : (Nat × Nat × Nat × Int32 × xM), x = Sum.inr e → xMach G π J_X10_multiply (d + 1) C Z 41 [(0, .ref e.1), (1, .ref e.2.1), (2, .ref e.2.2.1), (3, .int e.2.2.2.1)] [] e.2.2.2.2 Q) : xMach G π J_X10_multiply (d + 1) C Z 21 [(0, .ref s0.1), (1, .ref s0.2.1), (2, .ref s0.2.2.1), (3, .int s0.2.2.2.1), (4, .int s0.2.2.2.2.1)] [] s0.2.2.2.2.2 Q := by
  refine xloop_run (M := (fun s : (Nat × Nat × Nat × Int32 × Int32 × xM) => xMach G π J_X10_multiply (d + 1) C Z 21 [(0, .ref s.1), (1, .ref s.2.1), (2, .ref s.2.2.1), (3, .int s.2.2.2.1), (4, .int s.2.2.2.2.1)] [] s.2.2.2.2.2 Q)) (r := x) ?_ xF _ h1
  intro s y hs hx
  exact L_X10_multiply_s21 s.2.2.2.2.2 s.1 s.2.1 s.2.2.1 s.2.2.2.1 s.2.2.2.2.1 (x := y) hs (fun g hg => by subst hg; exact hR g hx) (fun e he => by subst he; exact hE e hx) (fun e he => by subst he; exact hx)
def f_X10_multiply_s65 (s : (Nat × Nat × Nat × Int32 × Int32 × Int64 × Int32 × xM)) : Option (xM ⊕ ((Nat × Nat × Nat × Int32 × Int32 × Int64 × xM) ⊕ (Nat × Nat × Nat × Int32 × Int32 × Int64 × Int32 × xM))) :=
  xlet s.1 (fun l0 => xlet s.2.1 (fun l1 => xlet s.2.2.1 (fun l2 => xlet s.2.2.2.1 (fun l3 => xlet s.2.2.2.2.1 (fun l4 => xlet s.2.2.2.2.2.1 (fun l5 => xlet s.2.2.2.2.2.2.1 (fun l7 => xlet s.2.2.2.2.2.2.2 (fun σ => (gI σ l2 10 1).bind (fun x14 => (if x14 ≤ l7 then some (Sum.inr (Sum.inl (l0, l1, l2, l3, l4, l5, σ))) else (if l3 ≤ (l4 + l7) then some (Sum.inr (Sum.inl (l0, l1, l2, l3, l4, l5, σ))) else (gR σ l0 10 0).bind (fun x15 => (aI σ x15 14 (l4 + l7)).bind (fun x16 => (gR σ l1 10 0).bind (fun x17 => (aI σ x17 14 l4).bind (fun x18 => (gR σ l2 10 0).bind (fun x19 => (aI σ x19 14 l7).bind (fun x20 => xlet ((((x16).toInt64) + (((x18).toInt64) * ((x20).toInt64))) + l5) (fun v21 => (gR σ l0 10 0).bind (fun x22 => (wI σ x22 (l4 + l7) (((v21 &&& (1073741823 : Int64))).toInt32)).bind (fun σ23 => xlet (v21 >>> (((30 : Int32)).toInt64 &&& 63)) (fun v24 => xlet (l7 + (1 : Int32)) (fun v25 => some (Sum.inr (Sum.inr (l0, l1, l2, l3, l4, v24, v25, σ23)))))))))))))))))))))))))
set_option maxHeartbeats 4000000 in
set_option maxRecDepth 20000 in
theorem L_X10_multiply_s65 {G : xG} {π : Nat → Nat} {d C Z : Nat} {Q : xQ} (σ : xM) (l0 : Nat) (l1 : Nat) (l2 : Nat) (l3 : Int32) (l4 : Int32) (l5 : Int64) (l7 : Int32) {x : (xM ⊕ ((Nat × Nat × Nat × Int32 × Int32 × Int64 × xM) ⊕ (Nat × Nat × Nat × Int32 × Int32 × Int64 × Int32 × xM)))} (hf : f_X10_multiply_s65 (l0, l1, l2, l3, l4, l5, l7, σ) = some x) (hR : ∀ g, x = Sum.inl (g) → Q (.inl none) (g) π) (hE : ∀ e : (Nat × Nat × Nat × Int32 × Int32 × Int64 × xM), x = Sum.inr (Sum.inl e) → xMach G π J_X10_multiply (d + 1) C Z 147 [(0, .ref e.1), (1, .ref e.2.1), (2, .ref e.2.2.1), (3, .int e.2.2.2.1), (4, .int e.2.2.2.2.1), (5, .long e.2.2.2.2.2.1)] [] e.2.2.2.2.2.2 Q) (hC : ∀ e : (Nat × Nat × Nat × Int32 × Int32 × Int64 × Int32 × xM), x = Sum.inr (Sum.inr e) → xMach G π J_X10_multiply (d + 1) C Z 65 [(0, .ref e.1), (1, .ref e.2.1), (2, .ref e.2.2.1), (3, .int e.2.2.2.1), (4, .int e.2.2.2.2.1), (5, .long e.2.2.2.2.2.1), (7, .int e.2.2.2.2.2.2.1)] [] e.2.2.2.2.2.2.2 Q) : xMach G π J_X10_multiply (d + 1) C Z 65 [(0, .ref l0), (1, .ref l1), (2, .ref l2), (3, .int l3), (4, .int l4), (5, .long l5), (7, .int l7)] [] σ Q := by
  have hf : (gI σ l2 10 1).bind (fun x14 => (if x14 ≤ l7 then some (Sum.inr (Sum.inl (l0, l1, l2, l3, l4, l5, σ))) else (if l3 ≤ (l4 + l7) then some (Sum.inr (Sum.inl (l0, l1, l2, l3, l4, l5, σ))) else (gR σ l0 10 0).bind (fun x15 => (aI σ x15 14 (l4 + l7)).bind (fun x16 => (gR σ l1 10 0).bind (fun x17 => (aI σ x17 14 l4).bind (fun x18 => (gR σ l2 10 0).bind (fun x19 => (aI σ x19 14 l7).bind (fun x20 => xlet ((((x16).toInt64) + (((x18).toInt64) * ((x20).toInt64))) + l5) (fun v21 => (gR σ l0 10 0).bind (fun x22 => (wI σ x22 (l4 + l7) (((v21 &&& (1073741823 : Int64))).toInt32)).bind (fun σ23 => xlet (v21 >>> (((30 : Int32)).toInt64 &&& 63)) (fun v24 => xlet (l7 + (1 : Int32)) (fun v25 => some (Sum.inr (Sum.inr (l0, l1, l2, l3, l4, v24, v25, σ23))))))))))))))))) = some x := hf
  refine xm_iload dX10_multiply_65 rfl ?_
  refine xm_aload_n dX10_multiply_67 rfl ?_
  refine xb_getI (a := l2) (c := 10) (k := 1) dX10_multiply_68 xcl10 (by decide) xw_46 rfl hf (fun x14 ex14 hf => ?_)
  refine xb_icmp_ge 147 dX10_multiply_71 (by decide) hf (fun c hf => ?_) (fun c hf => ?_)
  · cases hf
    exact xm_sub [0, 1, 2, 3, 4, 5] rfl (hE _ rfl)
  · refine xm_iload dX10_multiply_74 rfl ?_
    refine xm_iload dX10_multiply_76 rfl ?_
    refine xm_iadd dX10_multiply_78 ?_
    refine xm_iload_n dX10_multiply_79 rfl ?_
    refine xb_icmp_ge 147 dX10_multiply_80 (by decide) hf (fun c hf => ?_) (fun c hf => ?_)
    · cases hf
      exact xm_sub [0, 1, 2, 3, 4, 5] rfl (hE _ rfl)
    · refine xm_aload_n dX10_multiply_83 rfl ?_
      refine xb_getR (a := l0) (c := 10) (k := 0) dX10_multiply_84 xcl10 (by decide) xw_45 rfl hf (fun x15 ex15 hf => ?_)
      refine xm_iload dX10_multiply_87 rfl ?_
      refine xm_iload dX10_multiply_89 rfl ?_
      refine xm_iadd dX10_multiply_91 ?_
      refine xb_iald dX10_multiply_92 hf (fun x16 ex16 hf => ?_)
      refine xm_i2l dX10_multiply_93 rfl ?_
      refine xm_aload_n dX10_multiply_94 rfl ?_
      refine xb_getR (a := l1) (c := 10) (k := 0) dX10_multiply_95 xcl10 (by decide) xw_45 rfl hf (fun x17 ex17 hf => ?_)
      refine xm_iload dX10_multiply_98 rfl ?_
      refine xb_iald dX10_multiply_100 hf (fun x18 ex18 hf => ?_)
      refine xm_i2l dX10_multiply_101 rfl ?_
      refine xm_aload_n dX10_multiply_102 rfl ?_
      refine xb_getR (a := l2) (c := 10) (k := 0) dX10_multiply_103 xcl10 (by decide) xw_45 rfl hf (fun x19 ex19 hf => ?_)
      refine xm_iload dX10_multiply_106 rfl ?_
      refine xb_iald dX10_multiply_108 hf (fun x20 ex20 hf => ?_)
      refine xm_i2l dX10_multiply_109 rfl ?_
      refine xm_lmul dX10_multiply_110 ?_
      refine xm_ladd dX10_multiply_111 ?_
      refine xm_lload dX10_multiply_112 rfl ?_
      refine xm_ladd dX10_multiply_114 ?_
      refine xb_topl hf (fun v21 ev21 hf => ?_)
      refine xm_lstore dX10_multiply_115 (by decide) (xm_stL (L' := [(8, .long v21), (0, .ref l0), (1, .ref l1), (2, .ref l2), (3, .int l3), (4, .int l4), (5, .long l5), (7, .int l7)]) rfl ?_)
      refine xm_aload_n dX10_multiply_117 rfl ?_
      refine xb_getR (a := l0) (c := 10) (k := 0) dX10_multiply_118 xcl10 (by decide) xw_45 rfl hf (fun x22 ex22 hf => ?_)
      refine xm_iload dX10_multiply_121 rfl ?_
      refine xm_iload dX10_multiply_123 rfl ?_
      refine xm_iadd dX10_multiply_125 ?_
      refine xm_lload dX10_multiply_126 rfl ?_
      refine xm_ldc2 dX10_multiply_128 (xws_in xw_255) ?_
      refine xm_land dX10_multiply_131 ?_
      refine xm_l2i dX10_multiply_132 rfl ?_
      refine xb_iast dX10_multiply_133 hf (fun σ23 eσ23 hf => ?_)
      refine xm_lload dX10_multiply_134 rfl ?_
      refine xm_bipush dX10_multiply_136 (v := 30) (by decide) ?_
      refine xm_lshr dX10_multiply_138 rfl ?_
      refine xb_topl hf (fun v24 ev24 hf => ?_)
      refine xm_lstore dX10_multiply_139 (by decide) (xm_stL (L' := [(5, .long v24), (8, .long v21), (0, .ref l0), (1, .ref l1), (2, .ref l2), (3, .int l3), (4, .int l4), (7, .int l7)]) rfl ?_)
      refine xb_iinc dX10_multiply_141 rfl (by decide) (by decide) hf (fun v25 ev25 hf => xm_stL (L' := [(7, .int v25), (5, .long v24), (8, .long v21), (0, .ref l0), (1, .ref l1), (2, .ref l2), (3, .int l3), (4, .int l4)]) rfl ?_)
      refine xm_goto 65 dX10_multiply_144 (by decide) ?_
      cases hf
      exact xm_sub [3, 4, 5, 6, 7, 1, 0] rfl (hC _ rfl)
theorem L_X10_multiply_l65 {G : xG} {π : Nat → Nat} {d C Z : Nat} {Q : xQ} {s0 : (Nat × Nat × Nat × Int32 × Int32 × Int64 × Int32 × xM)} {x : (xM ⊕ (Nat × Nat × Nat × Int32 × Int32 × Int64 × xM))} (h1 : xloop (f_X10_multiply_s65) xF s0 = some x) (hR : ∀ g, x = Sum.inl g → Q (.inl none) (g) π) (hE : ∀ e : (Nat × Nat × Nat × Int32 × Int32 × Int64 × xM), x = Sum.inr e → xMach G π J_X10_multiply (d + 1) C Z 147 [(0, .ref e.1), (1, .ref e.2.1), (2, .ref e.2.2.1), (3, .int e.2.2.2.1), (4, .int e.2.2.2.2.1), (5, .long e.2.2.2.2.2.1)] [] e.2.2.2.2.2.2 Q) : xMach G π J_X10_multiply (d + 1) C Z 65 [(0, .ref s0.1), (1, .ref s0.2.1), (2, .ref s0.2.2.1), (3, .int s0.2.2.2.1), (4, .int s0.2.2.2.2.1), (5, .long s0.2.2.2.2.2.1), (7, .int s0.2.2.2.2.2.2.1)] [] s0.2.2.2.2.2.2.2 Q := by
  refine xloop_run (M := (fun s : (Nat × Nat × Nat × Int32 × Int32 × Int64 × Int32 × xM) => xMach G π J_X10_multiply (d + 1) C Z 65 [(0, .ref s.1), (1, .ref s.2.1), (2, .ref s.2.2.1), (3, .int s.2.2.2.1), (4, .int s.2.2.2.2.1), (5, .long s.2.2.2.2.2.1), (7, .int s.2.2.2.2.2.2.1)] [] s.2.2.2.2.2.2.2 Q)) (r := x) ?_ xF _ h1
  intro s y hs hx
  exact L_X10_multiply_s65 s.2.2.2.2.2.2.2 s.1 s.2.1 s.2.2.1 s.2.2.2.1 s.2.2.2.2.1 s.2.2.2.2.2.1 s.2.2.2.2.2.2.1 (x := y) hs (fun g hg => by subst hg; exact hR g hx) (fun e he => by subst he; exact hE e hx) (fun e he => by subst he; exact hx)
def f_X10_multiply_j173 (σ : xM) (l0 : Nat) (l1 : Nat) (l2 : Nat) (l3 : Int32) (l4 : Int32) : Option (xM ⊕ ((Nat × Nat × Nat × Int32 × xM) ⊕ (Nat × Nat × Nat × Int32 × Int32 × xM))) :=
  xlet (l4 + (1 : Int32)) (fun v27 => some (Sum.inr (Sum.inr (l0, l1, l2, l3, v27, σ))))
set_option maxHeartbeats 4000000 in
set_option maxRecDepth 20000 in
theorem L_X10_multiply_j173 {G : xG} {π : Nat → Nat} {d C Z : Nat} {Q : xQ} (σ : xM) (l0 : Nat) (l1 : Nat) (l2 : Nat) (l3 : Int32) (l4 : Int32) {x : (xM ⊕ ((Nat × Nat × Nat × Int32 × xM) ⊕ (Nat × Nat × Nat × Int32 × Int32 × xM)))} (hf : f_X10_multiply_j173 σ l0 l1 l2 l3 l4 = some x) (hR : ∀ g, x = Sum.inl (g) → Q (.inl none) (g) π) (hE : ∀ e : (Nat × Nat × Nat × Int32 × xM), x = Sum.inr (Sum.inl e) → xMach G π J_X10_multiply (d + 1) C Z 179 [(0, .ref e.1), (1, .ref e.2.1), (2, .ref e.2.2.1), (3, .int e.2.2.2.1)] [] e.2.2.2.2 Q) (hC : ∀ e : (Nat × Nat × Nat × Int32 × Int32 × xM), x = Sum.inr (Sum.inr e) → xMach G π J_X10_multiply (d + 1) C Z 44 [(0, .ref e.1), (1, .ref e.2.1), (2, .ref e.2.2.1), (3, .int e.2.2.2.1), (4, .int e.2.2.2.2.1)] [] e.2.2.2.2.2 Q) : xMach G π J_X10_multiply (d + 1) C Z 173 [(0, .ref l0), (1, .ref l1), (2, .ref l2), (3, .int l3), (4, .int l4)] [] σ Q := by
  unfold f_X10_multiply_j173 at hf
  refine xb_iinc dX10_multiply_173 rfl (by decide) (by decide) hf (fun v27 ev27 hf => xm_stL (L' := [(4, .int v27), (0, .ref l0), (1, .ref l1), (2, .ref l2), (3, .int l3)]) rfl ?_)
  refine xm_goto 44 dX10_multiply_176 (by decide) ?_
  cases hf
  exact xm_sub [1, 2, 3, 4, 0] rfl (hC _ rfl)
def f_X10_multiply_j147 (σ : xM) (l0 : Nat) (l1 : Nat) (l2 : Nat) (l3 : Int32) (l4 : Int32) (l5 : Int64) : Option (xM ⊕ ((Nat × Nat × Nat × Int32 × xM) ⊕ (Nat × Nat × Nat × Int32 × Int32 × xM))) :=
  (gI σ l2 10 1).bind (fun x26 => (if l3 ≤ (l4 + x26) then f_X10_multiply_j173 σ l0 l1 l2 l3 l4 else (gR σ l0 10 0).bind (fun x28 => (gI σ l2 10 1).bind (fun x29 => (wI σ x28 (l4 + x29) ((l5).toInt32)).bind (fun σ30 => f_X10_multiply_j173 σ30 l0 l1 l2 l3 l4)))))
set_option maxHeartbeats 4000000 in
set_option maxRecDepth 20000 in
theorem L_X10_multiply_j147 {G : xG} {π : Nat → Nat} {d C Z : Nat} {Q : xQ} (σ : xM) (l0 : Nat) (l1 : Nat) (l2 : Nat) (l3 : Int32) (l4 : Int32) (l5 : Int64) {x : (xM ⊕ ((Nat × Nat × Nat × Int32 × xM) ⊕ (Nat × Nat × Nat × Int32 × Int32 × xM)))} (hf : f_X10_multiply_j147 σ l0 l1 l2 l3 l4 l5 = some x) (hR : ∀ g, x = Sum.inl (g) → Q (.inl none) (g) π) (hE : ∀ e : (Nat × Nat × Nat × Int32 × xM), x = Sum.inr (Sum.inl e) → xMach G π J_X10_multiply (d + 1) C Z 179 [(0, .ref e.1), (1, .ref e.2.1), (2, .ref e.2.2.1), (3, .int e.2.2.2.1)] [] e.2.2.2.2 Q) (hC : ∀ e : (Nat × Nat × Nat × Int32 × Int32 × xM), x = Sum.inr (Sum.inr e) → xMach G π J_X10_multiply (d + 1) C Z 44 [(0, .ref e.1), (1, .ref e.2.1), (2, .ref e.2.2.1), (3, .int e.2.2.2.1), (4, .int e.2.2.2.2.1)] [] e.2.2.2.2.2 Q) : xMach G π J_X10_multiply (d + 1) C Z 147 [(0, .ref l0), (1, .ref l1), (2, .ref l2), (3, .int l3), (4, .int l4), (5, .long l5)] [] σ Q := by
  unfold f_X10_multiply_j147 at hf
  refine xm_iload dX10_multiply_147 rfl ?_
  refine xm_aload_n dX10_multiply_149 rfl ?_
  refine xb_getI (a := l2) (c := 10) (k := 1) dX10_multiply_150 xcl10 (by decide) xw_46 rfl hf (fun x26 ex26 hf => ?_)
  refine xm_iadd dX10_multiply_153 ?_
  refine xm_iload_n dX10_multiply_154 rfl ?_
  refine xb_icmp_ge 173 dX10_multiply_155 (by decide) hf (fun c hf => ?_) (fun c hf => ?_)
  · exact xm_sub [0, 1, 2, 3, 4] rfl (L_X10_multiply_j173 σ l0 l1 l2 l3 l4 hf hR hE hC)
  · refine xm_aload_n dX10_multiply_158 rfl ?_
    refine xb_getR (a := l0) (c := 10) (k := 0) dX10_multiply_159 xcl10 (by decide) xw_45 rfl hf (fun x28 ex28 hf => ?_)
    refine xm_iload dX10_multiply_162 rfl ?_
    refine xm_aload_n dX10_multiply_164 rfl ?_
    refine xb_getI (a := l2) (c := 10) (k := 1) dX10_multiply_165 xcl10 (by decide) xw_46 rfl hf (fun x29 ex29 hf => ?_)
    refine xm_iadd dX10_multiply_168 ?_
    refine xm_lload dX10_multiply_169 rfl ?_
    refine xm_l2i dX10_multiply_171 rfl ?_
    refine xb_iast dX10_multiply_172 hf (fun σ30 eσ30 hf => ?_)
    exact xm_sub [0, 1, 2, 3, 4] rfl (L_X10_multiply_j173 σ30 l0 l1 l2 l3 l4 hf hR hE hC)
def f_X10_multiply_s44 (s : (Nat × Nat × Nat × Int32 × Int32 × xM)) : Option (xM ⊕ ((Nat × Nat × Nat × Int32 × xM) ⊕ (Nat × Nat × Nat × Int32 × Int32 × xM))) :=
  xlet s.1 (fun l0 => xlet s.2.1 (fun l1 => xlet s.2.2.1 (fun l2 => xlet s.2.2.2.1 (fun l3 => xlet s.2.2.2.2.1 (fun l4 => xlet s.2.2.2.2.2 (fun σ => (gI σ l1 10 1).bind (fun x11 => (if x11 ≤ l4 then some (Sum.inr (Sum.inl (l0, l1, l2, l3, σ))) else (if l3 ≤ l4 then some (Sum.inr (Sum.inl (l0, l1, l2, l3, σ))) else xlet (0 : Int64) (fun v12 => xlet (0 : Int32) (fun v13 => (xloop (f_X10_multiply_s65 ) xF (l0, l1, l2, l3, l4, v12, v13, σ)).bind (Sum.elim (fun g => some (Sum.inl g)) (fun e => f_X10_multiply_j147 e.2.2.2.2.2.2 e.1 e.2.1 e.2.2.1 e.2.2.2.1 e.2.2.2.2.1 e.2.2.2.2.2.1)))))))))))))
set_option maxHeartbeats 4000000 in
set_option maxRecDepth 20000 in
theorem L_X10_multiply_s44 {G : xG} {π : Nat → Nat} {d C Z : Nat} {Q : xQ} (σ : xM) (l0 : Nat) (l1 : Nat) (l2 : Nat) (l3 : Int32) (l4 : Int32) {x : (xM ⊕ ((Nat × Nat × Nat × Int32 × xM) ⊕ (Nat × Nat × Nat × Int32 × Int32 × xM)))} (hf : f_X10_multiply_s44 (l0, l1, l2, l3, l4, σ) = some x) (hR : ∀ g, x = Sum.inl (g) → Q (.inl none) (g) π) (hE : ∀ e : (Nat × Nat × Nat × Int32 × xM), x = Sum.inr (Sum.inl e) → xMach G π J_X10_multiply (d + 1) C Z 179 [(0, .ref e.1), (1, .ref e.2.1), (2, .ref e.2.2.1), (3, .int e.2.2.2.1)] [] e.2.2.2.2 Q) (hC : ∀ e : (Nat × Nat × Nat × Int32 × Int32 × xM), x = Sum.inr (Sum.inr e) → xMach G π J_X10_multiply (d + 1) C Z 44 [(0, .ref e.1), (1, .ref e.2.1), (2, .ref e.2.2.1), (3, .int e.2.2.2.1), (4, .int e.2.2.2.2.1)] [] e.2.2.2.2.2 Q) : xMach G π J_X10_multiply (d + 1) C Z 44 [(0, .ref l0), (1, .ref l1), (2, .ref l2), (3, .int l3), (4, .int l4)] [] σ Q := by
  have hf : (gI σ l1 10 1).bind (fun x11 => (if x11 ≤ l4 then some (Sum.inr (Sum.inl (l0, l1, l2, l3, σ))) else (if l3 ≤ l4 then some (Sum.inr (Sum.inl (l0, l1, l2, l3, σ))) else xlet (0 : Int64) (fun v12 => xlet (0 : Int32) (fun v13 => (xloop (f_X10_multiply_s65 ) xF (l0, l1, l2, l3, l4, v12, v13, σ)).bind (Sum.elim (fun g => some (Sum.inl g)) (fun e => f_X10_multiply_j147 e.2.2.2.2.2.2 e.1 e.2.1 e.2.2.1 e.2.2.2.1 e.2.2.2.2.1 e.2.2.2.2.2.1))))))) = some x := hf
  refine xm_iload dX10_multiply_44 rfl ?_
  refine xm_aload_n dX10_multiply_46 rfl ?_
  refine xb_getI (a := l1) (c := 10) (k := 1) dX10_multiply_47 xcl10 (by decide) xw_46 rfl hf (fun x11 ex11 hf => ?_)
  refine xb_icmp_ge 179 dX10_multiply_50 (by decide) hf (fun c hf => ?_) (fun c hf => ?_)
  · cases hf
    exact xm_sub [0, 1, 2, 3] rfl (hE _ rfl)
  · refine xm_iload dX10_multiply_53 rfl ?_
    refine xm_iload_n dX10_multiply_55 rfl ?_
    refine xb_icmp_ge 179 dX10_multiply_56 (by decide) hf (fun c hf => ?_) (fun c hf => ?_)
    · cases hf
      exact xm_sub [0, 1, 2, 3] rfl (hE _ rfl)
    · refine xm_lconst dX10_multiply_59 (v := 0) (by decide) ?_
      refine xb_topl hf (fun v12 ev12 hf => ?_)
      refine xm_lstore dX10_multiply_60 (by decide) (xm_stL (L' := [(5, .long v12), (0, .ref l0), (1, .ref l1), (2, .ref l2), (3, .int l3), (4, .int l4)]) rfl ?_)
      refine xm_iconst dX10_multiply_62 (v := 0) (by decide) ?_
      refine xb_topi hf (fun v13 ev13 hf => ?_)
      refine xm_istore dX10_multiply_63 (by decide) (xm_stL (L' := [(7, .int v13), (5, .long v12), (0, .ref l0), (1, .ref l1), (2, .ref l2), (3, .int l3), (4, .int l4)]) rfl ?_)
      obtain ⟨o, h1, hf⟩ := xbind hf
      refine xm_sub [2, 3, 4, 5, 6, 1, 0] rfl (L_X10_multiply_l65  h1 (fun g hg => ?_) (fun e he => ?_))
      · subst hg
        cases hf
        exact hR _ rfl
      · subst he
        rw [Sum.elim_inr] at hf
        have hf : f_X10_multiply_j147 e.2.2.2.2.2.2 e.1 e.2.1 e.2.2.1 e.2.2.2.1 e.2.2.2.2.1 e.2.2.2.2.2.1 = some _ := hf
        exact xm_sub [0, 1, 2, 3, 4, 5] rfl (L_X10_multiply_j147 e.2.2.2.2.2.2 e.1 e.2.1 e.2.2.1 e.2.2.2.1 e.2.2.2.2.1 e.2.2.2.2.2.1 hf hR hE hC)
theorem L_X10_multiply_l44 {G : xG} {π : Nat → Nat} {d C Z : Nat} {Q : xQ} {s0 : (Nat × Nat × Nat × Int32 × Int32 × xM)} {x : (xM ⊕ (Nat × Nat × Nat × Int32 × xM))} (h1 : xloop (f_X10_multiply_s44) xF s0 = some x) (hR : ∀ g, x = Sum.inl g → Q (.inl none) (g) π) (hE : ∀ e : (Nat × Nat × Nat × Int32 × xM), x = Sum.inr e → xMach G π J_X10_multiply (d + 1) C Z 179 [(0, .ref e.1), (1, .ref e.2.1), (2, .ref e.2.2.1), (3, .int e.2.2.2.1)] [] e.2.2.2.2 Q) : xMach G π J_X10_multiply (d + 1) C Z 44 [(0, .ref s0.1), (1, .ref s0.2.1), (2, .ref s0.2.2.1), (3, .int s0.2.2.2.1), (4, .int s0.2.2.2.2.1)] [] s0.2.2.2.2.2 Q := by
  refine xloop_run (M := (fun s : (Nat × Nat × Nat × Int32 × Int32 × xM) => xMach G π J_X10_multiply (d + 1) C Z 44 [(0, .ref s.1), (1, .ref s.2.1), (2, .ref s.2.2.1), (3, .int s.2.2.2.1), (4, .int s.2.2.2.2.1)] [] s.2.2.2.2.2 Q)) (r := x) ?_ xF _ h1
  intro s y hs hx
  exact L_X10_multiply_s44 s.2.2.2.2.2 s.1 s.2.1 s.2.2.1 s.2.2.2.1 s.2.2.2.2.1 (x := y) hs (fun g hg => by subst hg; exact hR g hx) (fun e he => by subst he; exact hE e hx) (fun e he => by subst he; exact hx)
def f_X10_multiply_j196 (σ : xM) (l0 : Nat) (l3 : Int32) (s0 : Int32) (s1 : Nat) : Option xM :=
  (sZ σ s1 10 2 s0).bind (fun σ33 => (if xk σ33 l0 10 = true then (f_X10_trim σ33 l0 l3).bind (fun p34 => some p34) else none))
set_option maxHeartbeats 4000000 in
set_option maxRecDepth 20000 in
theorem L_X10_multiply_j196 {G : xG} {π : Nat → Nat} {d C Z : Nat} {Q : xQ} (σ : xM) (l0 : Nat) (l3 : Int32) (s0 : Int32) (s1 : Nat) {x : xM} (hf : f_X10_multiply_j196 σ l0 l3 s0 s1 = some x) (hR : ∀ g, x = g → Q (.inl none) (g) π) : xMach G π J_X10_multiply (d + 1) C Z 196 [(0, .ref l0), (3, .int l3)] [.int s0, .ref s1] σ Q := by
  unfold f_X10_multiply_j196 at hf
  refine xb_putZ (a := s1) (c := 10) (k := 2) dX10_multiply_196 xcl10 (by decide) xw_47 rfl rfl hf (fun σ33 eσ33 hf => ?_)
  refine xm_aload_n dX10_multiply_199 rfl ?_
  refine xm_iload_n dX10_multiply_200 rfl ?_
  refine xb_if hf (fun hb hf => ?_) (fun _ q => nomatch q)
  obtain ⟨p34, ep34, hf⟩ := xbind hf
  refine xb_callV (As := [.int l3]) (v0 := none) (τ0 := p34) dX10_multiply_201 (xc_X10_trim _ _) xcl10 xw_1050 xw_1052 xs_32 hb rfl (Nat.le_of_ble_eq_true rfl) rfl (Nat.le_of_ble_eq_true rfl) (fun Q1 hq => m_X10_trim (d := d + 0) ep34 (fun g hg => by subst hg; exact hq)) ?_
  cases hf
  exact xm_vret dX10_multiply_204 rfl (hR _ rfl)
def f_X10_multiply_j179 (σ : xM) (l0 : Nat) (l1 : Nat) (l2 : Nat) (l3 : Int32) : Option xM :=
  (gI σ l1 10 2).bind (fun x31 => (gI σ l2 10 2).bind (fun x32 => (if x31 = x32 then f_X10_multiply_j196 σ l0 l3 (0 : Int32) l0 else f_X10_multiply_j196 σ l0 l3 (1 : Int32) l0)))
set_option maxHeartbeats 4000000 in
set_option maxRecDepth 20000 in
theorem L_X10_multiply_j179 {G : xG} {π : Nat → Nat} {d C Z : Nat} {Q : xQ} (σ : xM) (l0 : Nat) (l1 : Nat) (l2 : Nat) (l3 : Int32) {x : xM} (hf : f_X10_multiply_j179 σ l0 l1 l2 l3 = some x) (hR : ∀ g, x = g → Q (.inl none) (g) π) : xMach G π J_X10_multiply (d + 1) C Z 179 [(0, .ref l0), (1, .ref l1), (2, .ref l2), (3, .int l3)] [] σ Q := by
  unfold f_X10_multiply_j179 at hf
  refine xm_aload_n dX10_multiply_179 rfl ?_
  refine xm_aload_n dX10_multiply_180 rfl ?_
  refine xb_getI (a := l1) (c := 10) (k := 2) dX10_multiply_181 xcl10 (by decide) xw_47 rfl hf (fun x31 ex31 hf => ?_)
  refine xm_aload_n dX10_multiply_184 rfl ?_
  refine xb_getI (a := l2) (c := 10) (k := 2) dX10_multiply_185 xcl10 (by decide) xw_47 rfl hf (fun x32 ex32 hf => ?_)
  refine xb_icmp_eq 195 dX10_multiply_188 (by decide) hf (fun c hf => ?_) (fun c hf => ?_)
  · refine xm_iconst dX10_multiply_195 (v := 0) (by decide) ?_
    exact xm_sub [0, 3] rfl (L_X10_multiply_j196 σ l0 l3 (0 : Int32) l0 hf hR)
  · refine xm_iconst dX10_multiply_191 (v := 1) (by decide) ?_
    refine xm_goto 196 dX10_multiply_192 (by decide) ?_
    exact xm_sub [0, 3] rfl (L_X10_multiply_j196 σ l0 l3 (1 : Int32) l0 hf hR)
def f_X10_multiply_j41 (σ : xM) (l0 : Nat) (l1 : Nat) (l2 : Nat) (l3 : Int32) : Option xM :=
  xlet (0 : Int32) (fun v10 => (xloop (f_X10_multiply_s44 ) xF (l0, l1, l2, l3, v10, σ)).bind (Sum.elim (fun g => some g) (fun e => f_X10_multiply_j179 e.2.2.2.2 e.1 e.2.1 e.2.2.1 e.2.2.2.1)))
set_option maxHeartbeats 4000000 in
set_option maxRecDepth 20000 in
theorem L_X10_multiply_j41 {G : xG} {π : Nat → Nat} {d C Z : Nat} {Q : xQ} (σ : xM) (l0 : Nat) (l1 : Nat) (l2 : Nat) (l3 : Int32) {x : xM} (hf : f_X10_multiply_j41 σ l0 l1 l2 l3 = some x) (hR : ∀ g, x = g → Q (.inl none) (g) π) : xMach G π J_X10_multiply (d + 1) C Z 41 [(0, .ref l0), (1, .ref l1), (2, .ref l2), (3, .int l3)] [] σ Q := by
  unfold f_X10_multiply_j41 at hf
  refine xm_iconst dX10_multiply_41 (v := 0) (by decide) ?_
  refine xb_topi hf (fun v10 ev10 hf => ?_)
  refine xm_istore dX10_multiply_42 (by decide) (xm_stL (L' := [(4, .int v10), (0, .ref l0), (1, .ref l1), (2, .ref l2), (3, .int l3)]) rfl ?_)
  obtain ⟨o, h1, hf⟩ := xbind hf
  refine xm_sub [1, 2, 3, 4, 0] rfl (L_X10_multiply_l44  h1 (fun g hg => ?_) (fun e he => ?_))
  · subst hg
    cases hf
    exact hR _ rfl
  · subst he
    rw [Sum.elim_inr] at hf
    have hf : f_X10_multiply_j179 e.2.2.2.2 e.1 e.2.1 e.2.2.1 e.2.2.2.1 = some _ := hf
    exact xm_sub [0, 1, 2, 3] rfl (L_X10_multiply_j179 e.2.2.2.2 e.1 e.2.1 e.2.2.1 e.2.2.2.1 hf hR)
def f_X10_multiply (σ : xM) (l0 : Nat) (l1 : Nat) (l2 : Nat) : Option xM :=
  (gI σ l1 10 1).bind (fun x1 => (gI σ l2 10 1).bind (fun x2 => (gR σ l0 10 0).bind (fun x3 => (gL σ x3 14).bind (fun x4 => xlet (if x4 < (x1 + x2) then x4 else (x1 + x2)) (fun v5 => xlet (0 : Int32) (fun v6 => (xloop (f_X10_multiply_s21 ) xF (l0, l1, l2, v5, v6, σ)).bind (Sum.elim (fun g => some g) (fun e => f_X10_multiply_j41 e.2.2.2.2 e.1 e.2.1 e.2.2.1 e.2.2.2.1))))))))
set_option maxHeartbeats 4000000 in
set_option maxRecDepth 20000 in
theorem m_X10_multiply {G : xG} {π : Nat → Nat} {d C Z : Nat} {Q : xQ} {σ : xM} {l0 : Nat} {l1 : Nat} {l2 : Nat} {x : xM} (hf : f_X10_multiply σ l0 l1 l2 = some x) (hR : ∀ g, x = g → Q (.inl none) (g) π) : xMach G π J_X10_multiply (d + 1) C Z 0 (lv_args 0 [.ref l0, .ref l1, .ref l2]) [] σ Q := by
  unfold f_X10_multiply at hf
  refine xm_stL (L' := [(0, .ref l0), (1, .ref l1), (2, .ref l2)]) rfl ?_
  refine xm_aload_n dX10_multiply_0 rfl ?_
  refine xb_getI (a := l1) (c := 10) (k := 1) dX10_multiply_1 xcl10 (by decide) xw_46 rfl hf (fun x1 ex1 hf => ?_)
  refine xm_aload_n dX10_multiply_4 rfl ?_
  refine xb_getI (a := l2) (c := 10) (k := 1) dX10_multiply_5 xcl10 (by decide) xw_46 rfl hf (fun x2 ex2 hf => ?_)
  refine xm_iadd dX10_multiply_8 ?_
  refine xm_aload_n dX10_multiply_9 rfl ?_
  refine xb_getR (a := l0) (c := 10) (k := 0) dX10_multiply_10 xcl10 (by decide) xw_45 rfl hf (fun x3 ex3 hf => ?_)
  refine xb_alen dX10_multiply_13 (by decide) (by decide) hf (fun x4 ex4 hf => ?_)
  refine xm_min dX10_multiply_14 xw_1049 xw_120 xw_7 xw_121 (Nat.le_of_ble_eq_true rfl) ?_
  refine xb_topi hf (fun v5 ev5 hf => ?_)
  refine xm_istore_n dX10_multiply_17 (by decide) (xm_stL (L' := [(3, .int v5), (0, .ref l0), (1, .ref l1), (2, .ref l2)]) rfl ?_)
  refine xm_iconst dX10_multiply_18 (v := 0) (by decide) ?_
  refine xb_topi hf (fun v6 ev6 hf => ?_)
  refine xm_istore dX10_multiply_19 (by decide) (xm_stL (L' := [(4, .int v6), (3, .int v5), (0, .ref l0), (1, .ref l1), (2, .ref l2)]) rfl ?_)
  obtain ⟨o, h1, hf⟩ := xbind hf
  refine xm_sub [2, 3, 4, 1, 0] rfl (L_X10_multiply_l21  h1 (fun g hg => ?_) (fun e he => ?_))
  · subst hg
    cases hf
    exact hR _ rfl
  · subst he
    rw [Sum.elim_inr] at hf
    have hf : f_X10_multiply_j41 e.2.2.2.2 e.1 e.2.1 e.2.2.1 e.2.2.2.1 = some _ := hf
    exact xm_sub [0, 1, 2, 3] rfl (L_X10_multiply_j41 e.2.2.2.2 e.1 e.2.1 e.2.2.1 e.2.2.2.1 hf hR)
-- Rankwise$Whole.clamped()I
def f_X10_clamped_j44 (σ : xM) (s0 : Int32) : Option Int32 :=
  some s0
set_option maxHeartbeats 4000000 in
set_option maxRecDepth 20000 in
theorem L_X10_clamped_j44 {G : xG} {π : Nat → Nat} {d C Z : Nat} {Q : xQ} (σ : xM) (s0 : Int32) {x : Int32} (hf : f_X10_clamped_j44 σ s0 = some x) (hR : ∀ g, x = g → Q (.inl (some (.int g))) (σ) π) : xMach G π J_X10_clamped (d + 0) C Z 44 [] [.int s0] σ Q := by
  unfold f_X10_clamped_j44 at hf
  cases hf
  exact xm_iret dX10_clamped_44 rfl (hR _ rfl)
def f_X10_clamped_j30 (σ : xM) (l0 : Nat) (s0 : Int32) : Option Int32 :=
  (gI σ l0 10 2).bind (fun x3 => (if x3 = (0 : Int32) then f_X10_clamped_j44 σ s0 else f_X10_clamped_j44 σ (-s0)))
set_option maxHeartbeats 4000000 in
set_option maxRecDepth 20000 in
theorem L_X10_clamped_j30 {G : xG} {π : Nat → Nat} {d C Z : Nat} {Q : xQ} (σ : xM) (l0 : Nat) (s0 : Int32) {x : Int32} (hf : f_X10_clamped_j30 σ l0 s0 = some x) (hR : ∀ g, x = g → Q (.inl (some (.int g))) (σ) π) : xMach G π J_X10_clamped (d + 0) C Z 30 [(0, .ref l0)] [.int s0] σ Q := by
  unfold f_X10_clamped_j30 at hf
  refine xm_istore_n dX10_clamped_30 (by decide) (xm_stL (L' := [(1, .int s0), (0, .ref l0)]) rfl ?_)
  refine xm_aload_n dX10_clamped_31 rfl ?_
  refine xb_getI (a := l0) (c := 10) (k := 2) dX10_clamped_32 xcl10 (by decide) xw_47 rfl hf (fun x3 ex3 hf => ?_)
  refine xb_if_eq 43 dX10_clamped_35 (by decide) hf (fun c hf => ?_) (fun c hf => ?_)
  · refine xm_iload_n dX10_clamped_43 rfl ?_
    exact xm_sub [] rfl (L_X10_clamped_j44 σ s0 hf hR)
  · refine xm_iload_n dX10_clamped_38 rfl ?_
    refine xm_ineg dX10_clamped_39 ?_
    refine xm_goto 44 dX10_clamped_40 (by decide) ?_
    exact xm_sub [] rfl (L_X10_clamped_j44 σ (-s0) hf hR)
def f_X10_clamped (σ : xM) (l0 : Nat) : Option Int32 :=
  (gI σ l0 10 1).bind (fun x1 => (if x1 = (0 : Int32) then f_X10_clamped_j30 σ l0 (0 : Int32) else (gI σ l0 10 1).bind (fun x2 => (if x2 = (1 : Int32) then (gR σ l0 10 0).bind (fun x4 => (aI σ x4 14 (0 : Int32)).bind (fun x5 => f_X10_clamped_j30 σ l0 x5)) else f_X10_clamped_j30 σ l0 (1073741823 : Int32)))))
set_option maxHeartbeats 4000000 in
set_option maxRecDepth 20000 in
theorem m_X10_clamped {G : xG} {π : Nat → Nat} {d C Z : Nat} {Q : xQ} {σ : xM} {l0 : Nat} {x : Int32} (hf : f_X10_clamped σ l0 = some x) (hR : ∀ g, x = g → Q (.inl (some (.int g))) (σ) π) : xMach G π J_X10_clamped (d + 0) C Z 0 (lv_args 0 [.ref l0]) [] σ Q := by
  unfold f_X10_clamped at hf
  refine xm_stL (L' := [(0, .ref l0)]) rfl ?_
  refine xm_aload_n dX10_clamped_0 rfl ?_
  refine xb_getI (a := l0) (c := 10) (k := 1) dX10_clamped_1 xcl10 (by decide) xw_46 rfl hf (fun x1 ex1 hf => ?_)
  refine xb_if_ne 11 dX10_clamped_4 (by decide) hf (fun c hf => ?_) (fun c hf => ?_)
  · refine xm_aload_n dX10_clamped_11 rfl ?_
    refine xb_getI (a := l0) (c := 10) (k := 1) dX10_clamped_12 xcl10 (by decide) xw_46 rfl hf (fun x2 ex2 hf => ?_)
    refine xm_iconst dX10_clamped_15 (v := 1) (by decide) ?_
    refine xb_icmp_ne 28 dX10_clamped_16 (by decide) hf (fun c hf => ?_) (fun c hf => ?_)
    · refine xm_ldc dX10_clamped_28 (xws_in xw_1064) ?_
      exact xm_sub [0] rfl (L_X10_clamped_j30 σ l0 (1073741823 : Int32) hf hR)
    · refine xm_aload_n dX10_clamped_19 rfl ?_
      refine xb_getR (a := l0) (c := 10) (k := 0) dX10_clamped_20 xcl10 (by decide) xw_45 rfl hf (fun x4 ex4 hf => ?_)
      refine xm_iconst dX10_clamped_23 (v := 0) (by decide) ?_
      refine xb_iald dX10_clamped_24 hf (fun x5 ex5 hf => ?_)
      refine xm_goto 30 dX10_clamped_25 (by decide) ?_
      exact xm_sub [0] rfl (L_X10_clamped_j30 σ l0 x5 hf hR)
  · refine xm_iconst dX10_clamped_7 (v := 0) (by decide) ?_
    refine xm_goto 30 dX10_clamped_8 (by decide) ?_
    exact xm_sub [0] rfl (L_X10_clamped_j30 σ l0 (0 : Int32) hf hR)
-- Rankwise$Whole.flip()V
def f_X10_flip_j20 (σ : xM) (s0 : Int32) (s1 : Nat) : Option xM :=
  (sZ σ s1 10 2 s0).bind (fun σ2 => some σ2)
set_option maxHeartbeats 4000000 in
set_option maxRecDepth 20000 in
theorem L_X10_flip_j20 {G : xG} {π : Nat → Nat} {d C Z : Nat} {Q : xQ} (σ : xM) (s0 : Int32) (s1 : Nat) {x : xM} (hf : f_X10_flip_j20 σ s0 s1 = some x) (hR : ∀ g, x = g → Q (.inl none) (g) π) : xMach G π J_X10_flip (d + 0) C Z 20 [] [.int s0, .ref s1] σ Q := by
  unfold f_X10_flip_j20 at hf
  refine xb_putZ (a := s1) (c := 10) (k := 2) dX10_flip_20 xcl10 (by decide) xw_47 rfl rfl hf (fun σ2 eσ2 hf => ?_)
  cases hf
  exact xm_vret dX10_flip_23 rfl (hR _ rfl)
def f_X10_flip_j19 (σ : xM) (s0 : Nat) : Option xM :=
  f_X10_flip_j20 σ (0 : Int32) s0
set_option maxHeartbeats 4000000 in
set_option maxRecDepth 20000 in
theorem L_X10_flip_j19 {G : xG} {π : Nat → Nat} {d C Z : Nat} {Q : xQ} (σ : xM) (s0 : Nat) {x : xM} (hf : f_X10_flip_j19 σ s0 = some x) (hR : ∀ g, x = g → Q (.inl none) (g) π) : xMach G π J_X10_flip (d + 0) C Z 19 [] [.ref s0] σ Q := by
  unfold f_X10_flip_j19 at hf
  refine xm_iconst dX10_flip_19 (v := 0) (by decide) ?_
  exact xm_sub [] rfl (L_X10_flip_j20 σ (0 : Int32) s0 hf hR)
def f_X10_flip (σ : xM) (l0 : Nat) : Option xM :=
  (gI σ l0 10 2).bind (fun x1 => (if x1 = (0 : Int32) then (gI σ l0 10 1).bind (fun x3 => (if x3 ≤ (0 : Int32) then f_X10_flip_j19 σ l0 else f_X10_flip_j20 σ (1 : Int32) l0)) else f_X10_flip_j19 σ l0))
set_option maxHeartbeats 4000000 in
set_option maxRecDepth 20000 in
theorem m_X10_flip {G : xG} {π : Nat → Nat} {d C Z : Nat} {Q : xQ} {σ : xM} {l0 : Nat} {x : xM} (hf : f_X10_flip σ l0 = some x) (hR : ∀ g, x = g → Q (.inl none) (g) π) : xMach G π J_X10_flip (d + 0) C Z 0 (lv_args 0 [.ref l0]) [] σ Q := by
  unfold f_X10_flip at hf
  refine xm_stL (L' := [(0, .ref l0)]) rfl ?_
  refine xm_aload_n dX10_flip_0 rfl ?_
  refine xm_aload_n dX10_flip_1 rfl ?_
  refine xb_getI (a := l0) (c := 10) (k := 2) dX10_flip_2 xcl10 (by decide) xw_47 rfl hf (fun x1 ex1 hf => ?_)
  refine xb_if_ne 19 dX10_flip_5 (by decide) hf (fun c hf => ?_) (fun c hf => ?_)
  · exact xm_sub [] rfl (L_X10_flip_j19 σ l0 hf hR)
  · refine xm_aload_n dX10_flip_8 rfl ?_
    refine xb_getI (a := l0) (c := 10) (k := 1) dX10_flip_9 xcl10 (by decide) xw_46 rfl hf (fun x3 ex3 hf => ?_)
    refine xb_if_le 19 dX10_flip_12 (by decide) hf (fun c hf => ?_) (fun c hf => ?_)
    · exact xm_sub [] rfl (L_X10_flip_j19 σ l0 hf hR)
    · refine xm_iconst dX10_flip_15 (v := 1) (by decide) ?_
      refine xm_goto 20 dX10_flip_16 (by decide) ?_
      exact xm_sub [] rfl (L_X10_flip_j20 σ (1 : Int32) l0 hf hR)
-- Rankwise$Whole.isShort()Z
def f_X10_isShort_j13 (σ : xM) (s0 : Int32) : Option Int32 :=
  (xz s0).bind (fun b2 => some b2)
set_option maxHeartbeats 4000000 in
set_option maxRecDepth 20000 in
theorem L_X10_isShort_j13 {G : xG} {π : Nat → Nat} {d C Z : Nat} {Q : xQ} (σ : xM) (s0 : Int32) {x : Int32} (hf : f_X10_isShort_j13 σ s0 = some x) (hR : ∀ g, x = g → Q (.inl (some (.int g))) (σ) π) : xMach G π J_X10_isShort (d + 0) C Z 13 [] [.int s0] σ Q := by
  unfold f_X10_isShort_j13 at hf
  obtain ⟨b2, eb2, hf⟩ := xbind hf
  obtain ⟨rfl, hz⟩ := xz_of eb2
  cases hf
  exact xm_zret dX10_isShort_13 rfl hz (hR _ rfl)
def f_X10_isShort (σ : xM) (l0 : Nat) : Option Int32 :=
  (gI σ l0 10 1).bind (fun x1 => (if (2 : Int32) < x1 then f_X10_isShort_j13 σ (0 : Int32) else f_X10_isShort_j13 σ (1 : Int32)))
set_option maxHeartbeats 4000000 in
set_option maxRecDepth 20000 in
theorem m_X10_isShort {G : xG} {π : Nat → Nat} {d C Z : Nat} {Q : xQ} {σ : xM} {l0 : Nat} {x : Int32} (hf : f_X10_isShort σ l0 = some x) (hR : ∀ g, x = g → Q (.inl (some (.int g))) (σ) π) : xMach G π J_X10_isShort (d + 0) C Z 0 (lv_args 0 [.ref l0]) [] σ Q := by
  unfold f_X10_isShort at hf
  refine xm_stL (L' := [(0, .ref l0)]) rfl ?_
  refine xm_aload_n dX10_isShort_0 rfl ?_
  refine xb_getI (a := l0) (c := 10) (k := 1) dX10_isShort_1 xcl10 (by decide) xw_46 rfl hf (fun x1 ex1 hf => ?_)
  refine xm_iconst dX10_isShort_4 (v := 2) (by decide) ?_
  refine xb_icmp_gt 12 dX10_isShort_5 (by decide) hf (fun c hf => ?_) (fun c hf => ?_)
  · refine xm_iconst dX10_isShort_12 (v := 0) (by decide) ?_
    exact xm_sub [] rfl (L_X10_isShort_j13 σ (0 : Int32) hf hR)
  · refine xm_iconst dX10_isShort_8 (v := 1) (by decide) ?_
    refine xm_goto 13 dX10_isShort_9 (by decide) ?_
    exact xm_sub [] rfl (L_X10_isShort_j13 σ (1 : Int32) hf hR)
-- Rankwise$Whole.shrink(I)I
def f_X10_shrink_s17 (s : (Nat × Int32 × Int64 × Int32 × xM)) : Option ((Int32 × xM) ⊕ ((Nat × Int64 × xM) ⊕ (Nat × Int32 × Int64 × Int32 × xM))) :=
  xlet s.1 (fun l0 => xlet s.2.1 (fun l1 => xlet s.2.2.1 (fun l2 => xlet s.2.2.2.1 (fun l4 => xlet s.2.2.2.2 (fun σ => (if l4 < (0 : Int32) then some (Sum.inr (Sum.inl (l0, l2, σ))) else (gR σ l0 10 0).bind (fun x4 => (aI σ x4 14 l4).bind (fun x5 => xlet ((l2 <<< (((30 : Int32)).toInt64 &&& 63)) ||| ((x5).toInt64)) (fun v6 => (gR σ l0 10 0).bind (fun x7 => (if ((l1).toInt64) = 0 then none else (wI σ x7 l4 (((v6 / ((l1).toInt64))).toInt32)).bind (fun σ8 => (if ((l1).toInt64) = 0 then none else xlet (v6 - v6 / ((l1).toInt64) * ((l1).toInt64)) (fun v9 => xlet (l4 + (-1 : Int32)) (fun v10 => some (Sum.inr (Sum.inr (l0, l1, v9, v10, σ8))))))))))))))))))
set_option maxHeartbeats 4000000 in
set_option maxRecDepth 20000 in
theorem L_X10_shrink_s17 {G : xG} {π : Nat → Nat} {d C Z : Nat} {Q : xQ} (σ : xM) (l0 : Nat) (l1 : Int32) (l2 : Int64) (l4 : Int32) {x : ((Int32 × xM) ⊕ ((Nat × Int64 × xM) ⊕ (Nat × Int32 × Int64 × Int32 × xM)))} (hf : f_X10_shrink_s17 (l0, l1, l2, l4, σ) = some x) (hR : ∀ g, x = Sum.inl (g) → Q (.inl (some (.int g.1))) (g.2) π) (hE : ∀ e : (Nat × Int64 × xM), x = Sum.inr (Sum.inl e) → xMach G π J_X10_shrink (d + 0) C Z 62 [(0, .ref e.1), (2, .long e.2.1)] [] e.2.2 Q) (hC : ∀ e : (Nat × Int32 × Int64 × Int32 × xM), x = Sum.inr (Sum.inr e) → xMach G π J_X10_shrink (d + 0) C Z 17 [(0, .ref e.1), (1, .int e.2.1), (2, .long e.2.2.1), (4, .int e.2.2.2.1)] [] e.2.2.2.2 Q) : xMach G π J_X10_shrink (d + 0) C Z 17 [(0, .ref l0), (1, .int l1), (2, .long l2), (4, .int l4)] [] σ Q := by
  have hf : (if l4 < (0 : Int32) then some (Sum.inr (Sum.inl (l0, l2, σ))) else (gR σ l0 10 0).bind (fun x4 => (aI σ x4 14 l4).bind (fun x5 => xlet ((l2 <<< (((30 : Int32)).toInt64 &&& 63)) ||| ((x5).toInt64)) (fun v6 => (gR σ l0 10 0).bind (fun x7 => (if ((l1).toInt64) = 0 then none else (wI σ x7 l4 (((v6 / ((l1).toInt64))).toInt32)).bind (fun σ8 => (if ((l1).toInt64) = 0 then none else xlet (v6 - v6 / ((l1).toInt64) * ((l1).toInt64)) (fun v9 => xlet (l4 + (-1 : Int32)) (fun v10 => some (Sum.inr (Sum.inr (l0, l1, v9, v10, σ8))))))))))))) = some x := hf
  refine xm_iload dX10_shrink_17 rfl ?_
  refine xb_if_lt 62 dX10_shrink_19 (by decide) hf (fun c hf => ?_) (fun c hf => ?_)
  · cases hf
    exact xm_sub [0, 2] rfl (hE _ rfl)
  · refine xm_lload_n dX10_shrink_22 rfl ?_
    refine xm_bipush dX10_shrink_23 (v := 30) (by decide) ?_
    refine xm_lshl dX10_shrink_25 rfl ?_
    refine xm_aload_n dX10_shrink_26 rfl ?_
    refine xb_getR (a := l0) (c := 10) (k := 0) dX10_shrink_27 xcl10 (by decide) xw_45 rfl hf (fun x4 ex4 hf => ?_)
    refine xm_iload dX10_shrink_30 rfl ?_
    refine xb_iald dX10_shrink_32 hf (fun x5 ex5 hf => ?_)
    refine xm_i2l dX10_shrink_33 rfl ?_
    refine xm_lor dX10_shrink_34 ?_
    refine xb_topl hf (fun v6 ev6 hf => ?_)
    refine xm_lstore dX10_shrink_35 (by decide) (xm_stL (L' := [(5, .long v6), (0, .ref l0), (1, .int l1), (2, .long l2), (4, .int l4)]) rfl ?_)
    refine xm_aload_n dX10_shrink_37 rfl ?_
    refine xb_getR (a := l0) (c := 10) (k := 0) dX10_shrink_38 xcl10 (by decide) xw_45 rfl hf (fun x7 ex7 hf => ?_)
    refine xm_iload dX10_shrink_41 rfl ?_
    refine xm_lload dX10_shrink_43 rfl ?_
    refine xm_iload_n dX10_shrink_45 rfl ?_
    refine xm_i2l dX10_shrink_46 rfl ?_
    refine xb_ldiv dX10_shrink_47 hf (fun c hf => ?_)
    refine xm_l2i dX10_shrink_48 rfl ?_
    refine xb_iast dX10_shrink_49 hf (fun σ8 eσ8 hf => ?_)
    refine xm_lload dX10_shrink_50 rfl ?_
    refine xm_iload_n dX10_shrink_52 rfl ?_
    refine xm_i2l dX10_shrink_53 rfl ?_
    refine xb_lrem dX10_shrink_54 hf (fun c hf => ?_)
    refine xb_topl hf (fun v9 ev9 hf => ?_)
    refine xm_lstore_n dX10_shrink_55 (by decide) (xm_stL (L' := [(2, .long v9), (5, .long v6), (0, .ref l0), (1, .int l1), (4, .int l4)]) rfl ?_)
    refine xb_iinc dX10_shrink_56 rfl (by decide) (by decide) hf (fun v10 ev10 hf => xm_stL (L' := [(4, .int v10), (2, .long v9), (5, .long v6), (0, .ref l0), (1, .int l1)]) rfl ?_)
    refine xm_goto 17 dX10_shrink_59 (by decide) ?_
    cases hf
    exact xm_sub [3, 4, 1, 0] rfl (hC _ rfl)
theorem L_X10_shrink_l17 {G : xG} {π : Nat → Nat} {d C Z : Nat} {Q : xQ} {s0 : (Nat × Int32 × Int64 × Int32 × xM)} {x : ((Int32 × xM) ⊕ (Nat × Int64 × xM))} (h1 : xloop (f_X10_shrink_s17) xF s0 = some x) (hR : ∀ g, x = Sum.inl g → Q (.inl (some (.int g.1))) (g.2) π) (hE : ∀ e : (Nat × Int64 × xM), x = Sum.inr e → xMach G π J_X10_shrink (d + 0) C Z 62 [(0, .ref e.1), (2, .long e.2.1)] [] e.2.2 Q) : xMach G π J_X10_shrink (d + 0) C Z 17 [(0, .ref s0.1), (1, .int s0.2.1), (2, .long s0.2.2.1), (4, .int s0.2.2.2.1)] [] s0.2.2.2.2 Q := by
  refine xloop_run (M := (fun s : (Nat × Int32 × Int64 × Int32 × xM) => xMach G π J_X10_shrink (d + 0) C Z 17 [(0, .ref s.1), (1, .int s.2.1), (2, .long s.2.2.1), (4, .int s.2.2.2.1)] [] s.2.2.2.2 Q)) (r := x) ?_ xF _ h1
  intro s y hs hx
  exact L_X10_shrink_s17 s.2.2.2.2 s.1 s.2.1 s.2.2.1 s.2.2.2.1 (x := y) hs (fun g hg => by subst hg; exact hR g hx) (fun e he => by subst he; exact hE e hx) (fun e he => by subst he; exact hx)
def f_X10_shrink_j113 (σ : xM) (l2 : Int64) (s0 : Int32) (s1 : Nat) : Option (Int32 × xM) :=
  (sZ σ s1 10 2 s0).bind (fun σ13 => some (((l2).toInt32), σ13))
set_option maxHeartbeats 4000000 in
set_option maxRecDepth 20000 in
theorem L_X10_shrink_j113 {G : xG} {π : Nat → Nat} {d C Z : Nat} {Q : xQ} (σ : xM) (l2 : Int64) (s0 : Int32) (s1 : Nat) {x : (Int32 × xM)} (hf : f_X10_shrink_j113 σ l2 s0 s1 = some x) (hR : ∀ g, x = g → Q (.inl (some (.int g.1))) (g.2) π) : xMach G π J_X10_shrink (d + 0) C Z 113 [(2, .long l2)] [.int s0, .ref s1] σ Q := by
  unfold f_X10_shrink_j113 at hf
  refine xb_putZ (a := s1) (c := 10) (k := 2) dX10_shrink_113 xcl10 (by decide) xw_47 rfl rfl hf (fun σ13 eσ13 hf => ?_)
  refine xm_lload_n dX10_shrink_116 rfl ?_
  refine xm_l2i dX10_shrink_117 rfl ?_
  cases hf
  exact xm_iret dX10_shrink_118 rfl (hR _ rfl)
def f_X10_shrink_j112 (σ : xM) (l2 : Int64) (s0 : Nat) : Option (Int32 × xM) :=
  f_X10_shrink_j113 σ l2 (0 : Int32) s0
set_option maxHeartbeats 4000000 in
set_option maxRecDepth 20000 in
theorem L_X10_shrink_j112 {G : xG} {π : Nat → Nat} {d C Z : Nat} {Q : xQ} (σ : xM) (l2 : Int64) (s0 : Nat) {x : (Int32 × xM)} (hf : f_X10_shrink_j112 σ l2 s0 = some x) (hR : ∀ g, x = g → Q (.inl (some (.int g.1))) (g.2) π) : xMach G π J_X10_shrink (d + 0) C Z 112 [(2, .long l2)] [.ref s0] σ Q := by
  unfold f_X10_shrink_j112 at hf
  refine xm_iconst dX10_shrink_112 (v := 0) (by decide) ?_
  exact xm_sub [0] rfl (L_X10_shrink_j113 σ l2 (0 : Int32) s0 hf hR)
def f_X10_shrink_j93 (σ : xM) (l0 : Nat) (l2 : Int64) : Option (Int32 × xM) :=
  (gI σ l0 10 2).bind (fun x12 => (if x12 = (0 : Int32) then f_X10_shrink_j112 σ l2 l0 else (gI σ l0 10 1).bind (fun x14 => (if x14 ≤ (0 : Int32) then f_X10_shrink_j112 σ l2 l0 else f_X10_shrink_j113 σ l2 (1 : Int32) l0))))
set_option maxHeartbeats 4000000 in
set_option maxRecDepth 20000 in
theorem L_X10_shrink_j93 {G : xG} {π : Nat → Nat} {d C Z : Nat} {Q : xQ} (σ : xM) (l0 : Nat) (l2 : Int64) {x : (Int32 × xM)} (hf : f_X10_shrink_j93 σ l0 l2 = some x) (hR : ∀ g, x = g → Q (.inl (some (.int g.1))) (g.2) π) : xMach G π J_X10_shrink (d + 0) C Z 93 [(0, .ref l0), (2, .long l2)] [] σ Q := by
  unfold f_X10_shrink_j93 at hf
  refine xm_aload_n dX10_shrink_93 rfl ?_
  refine xm_aload_n dX10_shrink_94 rfl ?_
  refine xb_getI (a := l0) (c := 10) (k := 2) dX10_shrink_95 xcl10 (by decide) xw_47 rfl hf (fun x12 ex12 hf => ?_)
  refine xb_if_eq 112 dX10_shrink_98 (by decide) hf (fun c hf => ?_) (fun c hf => ?_)
  · exact xm_sub [1] rfl (L_X10_shrink_j112 σ l2 l0 hf hR)
  · refine xm_aload_n dX10_shrink_101 rfl ?_
    refine xb_getI (a := l0) (c := 10) (k := 1) dX10_shrink_102 xcl10 (by decide) xw_46 rfl hf (fun x14 ex14 hf => ?_)
    refine xb_if_le 112 dX10_shrink_105 (by decide) hf (fun c hf => ?_) (fun c hf => ?_)
    · exact xm_sub [1] rfl (L_X10_shrink_j112 σ l2 l0 hf hR)
    · refine xm_iconst dX10_shrink_108 (v := 1) (by decide) ?_
      refine xm_goto 113 dX10_shrink_109 (by decide) ?_
      exact xm_sub [1] rfl (L_X10_shrink_j113 σ l2 (1 : Int32) l0 hf hR)
def f_X10_shrink_j62 (σ : xM) (l0 : Nat) (l2 : Int64) : Option (Int32 × xM) :=
  (gI σ l0 10 1).bind (fun x11 => (if x11 ≤ (0 : Int32) then f_X10_shrink_j93 σ l0 l2 else (gR σ l0 10 0).bind (fun x15 => (gI σ l0 10 1).bind (fun x16 => (aI σ x15 14 (x16 - (1 : Int32))).bind (fun x17 => (if x17 = (0 : Int32) then (gI σ l0 10 1).bind (fun x18 => (sI σ l0 10 1 (x18 - (1 : Int32))).bind (fun σ19 => f_X10_shrink_j93 σ19 l0 l2)) else f_X10_shrink_j93 σ l0 l2))))))
set_option maxHeartbeats 4000000 in
set_option maxRecDepth 20000 in
theorem L_X10_shrink_j62 {G : xG} {π : Nat → Nat} {d C Z : Nat} {Q : xQ} (σ : xM) (l0 : Nat) (l2 : Int64) {x : (Int32 × xM)} (hf : f_X10_shrink_j62 σ l0 l2 = some x) (hR : ∀ g, x = g → Q (.inl (some (.int g.1))) (g.2) π) : xMach G π J_X10_shrink (d + 0) C Z 62 [(0, .ref l0), (2, .long l2)] [] σ Q := by
  unfold f_X10_shrink_j62 at hf
  refine xm_aload_n dX10_shrink_62 rfl ?_
  refine xb_getI (a := l0) (c := 10) (k := 1) dX10_shrink_63 xcl10 (by decide) xw_46 rfl hf (fun x11 ex11 hf => ?_)
  refine xb_if_le 93 dX10_shrink_66 (by decide) hf (fun c hf => ?_) (fun c hf => ?_)
  · exact xm_sub [0, 1] rfl (L_X10_shrink_j93 σ l0 l2 hf hR)
  · refine xm_aload_n dX10_shrink_69 rfl ?_
    refine xb_getR (a := l0) (c := 10) (k := 0) dX10_shrink_70 xcl10 (by decide) xw_45 rfl hf (fun x15 ex15 hf => ?_)
    refine xm_aload_n dX10_shrink_73 rfl ?_
    refine xb_getI (a := l0) (c := 10) (k := 1) dX10_shrink_74 xcl10 (by decide) xw_46 rfl hf (fun x16 ex16 hf => ?_)
    refine xm_iconst dX10_shrink_77 (v := 1) (by decide) ?_
    refine xm_isub dX10_shrink_78 ?_
    refine xb_iald dX10_shrink_79 hf (fun x17 ex17 hf => ?_)
    refine xb_if_ne 93 dX10_shrink_80 (by decide) hf (fun c hf => ?_) (fun c hf => ?_)
    · exact xm_sub [0, 1] rfl (L_X10_shrink_j93 σ l0 l2 hf hR)
    · refine xm_aload_n dX10_shrink_83 rfl ?_
      refine xm_dup dX10_shrink_84 rfl ?_
      refine xb_getI (a := l0) (c := 10) (k := 1) dX10_shrink_85 xcl10 (by decide) xw_46 rfl hf (fun x18 ex18 hf => ?_)
      refine xm_iconst dX10_shrink_88 (v := 1) (by decide) ?_
      refine xm_isub dX10_shrink_89 ?_
      refine xb_putI (a := l0) (c := 10) (k := 1) dX10_shrink_90 xcl10 (by decide) xw_46 rfl rfl hf (fun σ19 eσ19 hf => ?_)
      exact xm_sub [0, 1] rfl (L_X10_shrink_j93 σ19 l0 l2 hf hR)
def f_X10_shrink (σ : xM) (l0 : Nat) (l1 : Int32) : Option (Int32 × xM) :=
  (if (1 : Int32) ≤ l1 then xlet (0 : Int64) (fun v1 => (gI σ l0 10 1).bind (fun x2 => xlet (x2 - (1 : Int32)) (fun v3 => (xloop (f_X10_shrink_s17 ) xF (l0, l1, v1, v3, σ)).bind (Sum.elim (fun g => some g) (fun e => f_X10_shrink_j62 e.2.2 e.1 e.2.1))))) else some ((0 : Int32), σ))
set_option maxHeartbeats 4000000 in
set_option maxRecDepth 20000 in
theorem m_X10_shrink {G : xG} {π : Nat → Nat} {d C Z : Nat} {Q : xQ} {σ : xM} {l0 : Nat} {l1 : Int32} {x : (Int32 × xM)} (hf : f_X10_shrink σ l0 l1 = some x) (hR : ∀ g, x = g → Q (.inl (some (.int g.1))) (g.2) π) : xMach G π J_X10_shrink (d + 0) C Z 0 (lv_args 0 [.ref l0, .int l1]) [] σ Q := by
  unfold f_X10_shrink at hf
  refine xm_stL (L' := [(0, .ref l0), (1, .int l1)]) rfl ?_
  refine xm_iload_n dX10_shrink_0 rfl ?_
  refine xm_iconst dX10_shrink_1 (v := 1) (by decide) ?_
  refine xb_icmp_ge 7 dX10_shrink_2 (by decide) hf (fun c hf => ?_) (fun c hf => ?_)
  · refine xm_lconst dX10_shrink_7 (v := 0) (by decide) ?_
    refine xb_topl hf (fun v1 ev1 hf => ?_)
    refine xm_lstore_n dX10_shrink_8 (by decide) (xm_stL (L' := [(2, .long v1), (0, .ref l0), (1, .int l1)]) rfl ?_)
    refine xm_aload_n dX10_shrink_9 rfl ?_
    refine xb_getI (a := l0) (c := 10) (k := 1) dX10_shrink_10 xcl10 (by decide) xw_46 rfl hf (fun x2 ex2 hf => ?_)
    refine xm_iconst dX10_shrink_13 (v := 1) (by decide) ?_
    refine xm_isub dX10_shrink_14 ?_
    refine xb_topi hf (fun v3 ev3 hf => ?_)
    refine xm_istore dX10_shrink_15 (by decide) (xm_stL (L' := [(4, .int v3), (2, .long v1), (0, .ref l0), (1, .int l1)]) rfl ?_)
    obtain ⟨o, h1, hf⟩ := xbind hf
    refine xm_sub [2, 3, 1, 0] rfl (L_X10_shrink_l17  h1 (fun g hg => ?_) (fun e he => ?_))
    · subst hg
      cases hf
      exact hR _ rfl
    · subst he
      rw [Sum.elim_inr] at hf
      have hf : f_X10_shrink_j62 e.2.2 e.1 e.2.1 = some _ := hf
      exact xm_sub [0, 1] rfl (L_X10_shrink_j62 e.2.2 e.1 e.2.1 hf hR)
  · refine xm_iconst dX10_shrink_5 (v := 0) (by decide) ?_
    cases hf
    exact xm_iret dX10_shrink_6 rfl (hR _ rfl)
-- Rankwise$Whole.guess(LRankwise$Whole;I)J
def f_X10_guess_j23 (σ : xM)  : Option Int64 :=
  some (0 : Int64)
set_option maxHeartbeats 4000000 in
set_option maxRecDepth 20000 in
theorem L_X10_guess_j23 {G : xG} {π : Nat → Nat} {d C Z : Nat} {Q : xQ} (σ : xM)  {x : Int64} (hf : f_X10_guess_j23 σ = some x) (hR : ∀ g, x = g → Q (.inl (some (.long g))) (σ) π) : xMach G π J_X10_guess (d + 0) C Z 23 [] [] σ Q := by
  unfold f_X10_guess_j23 at hf
  refine xm_lconst dX10_guess_23 (v := 0) (by decide) ?_
  cases hf
  exact xm_lret dX10_guess_24 rfl (hR _ rfl)
def f_X10_guess_s38 (σ : xM) (s : (Nat × Nat × Int32 × Int32 × Int32 × Int32)) : Option (Int64 ⊕ ((Nat × Nat × Int32 × Int32 × Int32) ⊕ (Nat × Nat × Int32 × Int32 × Int32 × Int32))) :=
  xlet s.1 (fun l0 => xlet s.2.1 (fun l1 => xlet s.2.2.1 (fun l2 => xlet s.2.2.2.1 (fun l3 => xlet s.2.2.2.2.1 (fun l4 => xlet s.2.2.2.2.2 (fun l5 => (if (29 : Int32) ≤ l4 then some (Sum.inr (Sum.inl (l0, l1, l2, l3, l4))) else (if (l5 >>> (((29 : Int32) - l4) &&& 31)) = (0 : Int32) then xlet (l4 + (1 : Int32)) (fun v6 => some (Sum.inr (Sum.inr (l0, l1, l2, l3, v6, l5)))) else some (Sum.inr (Sum.inl (l0, l1, l2, l3, l4)))))))))))
set_option maxHeartbeats 4000000 in
set_option maxRecDepth 20000 in
theorem L_X10_guess_s38 {G : xG} {π : Nat → Nat} {d C Z : Nat} {Q : xQ} (σ : xM) (l0 : Nat) (l1 : Nat) (l2 : Int32) (l3 : Int32) (l4 : Int32) (l5 : Int32) {x : (Int64 ⊕ ((Nat × Nat × Int32 × Int32 × Int32) ⊕ (Nat × Nat × Int32 × Int32 × Int32 × Int32)))} (hf : f_X10_guess_s38 σ (l0, l1, l2, l3, l4, l5) = some x) (hR : ∀ g, x = Sum.inl (g) → Q (.inl (some (.long g))) (σ) π) (hE : ∀ e : (Nat × Nat × Int32 × Int32 × Int32), x = Sum.inr (Sum.inl e) → xMach G π J_X10_guess (d + 0) C Z 62 [(0, .ref e.1), (1, .ref e.2.1), (2, .int e.2.2.1), (3, .int e.2.2.2.1), (4, .int e.2.2.2.2)] [] σ Q) (hC : ∀ e : (Nat × Nat × Int32 × Int32 × Int32 × Int32), x = Sum.inr (Sum.inr e) → xMach G π J_X10_guess (d + 0) C Z 38 [(0, .ref e.1), (1, .ref e.2.1), (2, .int e.2.2.1), (3, .int e.2.2.2.1), (4, .int e.2.2.2.2.1), (5, .int e.2.2.2.2.2)] [] σ Q) : xMach G π J_X10_guess (d + 0) C Z 38 [(0, .ref l0), (1, .ref l1), (2, .int l2), (3, .int l3), (4, .int l4), (5, .int l5)] [] σ Q := by
  have hf : (if (29 : Int32) ≤ l4 then some (Sum.inr (Sum.inl (l0, l1, l2, l3, l4))) else (if (l5 >>> (((29 : Int32) - l4) &&& 31)) = (0 : Int32) then xlet (l4 + (1 : Int32)) (fun v6 => some (Sum.inr (Sum.inr (l0, l1, l2, l3, v6, l5)))) else some (Sum.inr (Sum.inl (l0, l1, l2, l3, l4))))) = some x := hf
  refine xm_iload dX10_guess_38 rfl ?_
  refine xm_bipush dX10_guess_40 (v := 29) (by decide) ?_
  refine xb_icmp_ge 62 dX10_guess_42 (by decide) hf (fun c hf => ?_) (fun c hf => ?_)
  · cases hf
    exact xm_sub [0, 1, 2, 3, 4] rfl (hE _ rfl)
  · refine xm_iload dX10_guess_45 rfl ?_
    refine xm_bipush dX10_guess_47 (v := 29) (by decide) ?_
    refine xm_iload dX10_guess_49 rfl ?_
    refine xm_isub dX10_guess_51 ?_
    refine xm_ishr dX10_guess_52 ?_
    refine xb_if_ne 62 dX10_guess_53 (by decide) hf (fun c hf => ?_) (fun c hf => ?_)
    · cases hf
      exact xm_sub [0, 1, 2, 3, 4] rfl (hE _ rfl)
    · refine xb_iinc dX10_guess_56 rfl (by decide) (by decide) hf (fun v6 ev6 hf => xm_stL (L' := [(4, .int v6), (0, .ref l0), (1, .ref l1), (2, .int l2), (3, .int l3), (5, .int l5)]) rfl ?_)
      refine xm_goto 38 dX10_guess_59 (by decide) ?_
      cases hf
      exact xm_sub [1, 2, 3, 4, 0, 5] rfl (hC _ rfl)
theorem L_X10_guess_l38 {G : xG} {π : Nat → Nat} {d C Z : Nat} {Q : xQ} (σ : xM) {s0 : (Nat × Nat × Int32 × Int32 × Int32 × Int32)} {x : (Int64 ⊕ (Nat × Nat × Int32 × Int32 × Int32))} (h1 : xloop (f_X10_guess_s38 σ) xF s0 = some x) (hR : ∀ g, x = Sum.inl g → Q (.inl (some (.long g))) (σ) π) (hE : ∀ e : (Nat × Nat × Int32 × Int32 × Int32), x = Sum.inr e → xMach G π J_X10_guess (d + 0) C Z 62 [(0, .ref e.1), (1, .ref e.2.1), (2, .int e.2.2.1), (3, .int e.2.2.2.1), (4, .int e.2.2.2.2)] [] σ Q) : xMach G π J_X10_guess (d + 0) C Z 38 [(0, .ref s0.1), (1, .ref s0.2.1), (2, .int s0.2.2.1), (3, .int s0.2.2.2.1), (4, .int s0.2.2.2.2.1), (5, .int s0.2.2.2.2.2)] [] σ Q := by
  refine xloop_run (M := (fun s : (Nat × Nat × Int32 × Int32 × Int32 × Int32) => xMach G π J_X10_guess (d + 0) C Z 38 [(0, .ref s.1), (1, .ref s.2.1), (2, .int s.2.2.1), (3, .int s.2.2.2.1), (4, .int s.2.2.2.2.1), (5, .int s.2.2.2.2.2)] [] σ Q)) (r := x) ?_ xF _ h1
  intro s y hs hx
  exact L_X10_guess_s38 σ s.1 s.2.1 s.2.2.1 s.2.2.2.1 s.2.2.2.2.1 s.2.2.2.2.2 (x := y) hs (fun g hg => by subst hg; exact hR g hx) (fun e he => by subst he; exact hE e hx) (fun e he => by subst he; exact hx)
def f_X10_guess_s301 (σ : xM) (s : (Int64 × Int64 × Int64 × Int64 × Int64 × Int32)) : Option (Int64 ⊕ ((Int64) ⊕ (Int64 × Int64 × Int64 × Int64 × Int64 × Int32))) :=
  xlet s.1 (fun l6 => xlet s.2.1 (fun l8 => xlet s.2.2.1 (fun l14 => xlet s.2.2.2.1 (fun l18 => xlet s.2.2.2.2.1 (fun l20 => xlet s.2.2.2.2.2 (fun l22 => (if (3 : Int32) ≤ l22 then some (Sum.inr (Sum.inl l18)) else (if (0 : Int32) < (lg_cmp l20 (1073741823 : Int64)) then some (Sum.inr (Sum.inl l18)) else (if (lg_cmp (l18 * l8) ((l20 <<< (((30 : Int32)).toInt64 &&& 63)) ||| l14)) ≤ (0 : Int32) then some (Sum.inr (Sum.inl l18)) else xlet (l18 - (1 : Int64)) (fun v31 => xlet (l20 + l6) (fun v32 => xlet (l22 + (1 : Int32)) (fun v33 => some (Sum.inr (Sum.inr (l6, l8, l14, v31, v32, v33)))))))))))))))
set_option maxHeartbeats 4000000 in
set_option maxRecDepth 20000 in
theorem L_X10_guess_s301 {G : xG} {π : Nat → Nat} {d C Z : Nat} {Q : xQ} (σ : xM) (l6 : Int64) (l8 : Int64) (l14 : Int64) (l18 : Int64) (l20 : Int64) (l22 : Int32) {x : (Int64 ⊕ ((Int64) ⊕ (Int64 × Int64 × Int64 × Int64 × Int64 × Int32)))} (hf : f_X10_guess_s301 σ (l6, l8, l14, l18, l20, l22) = some x) (hR : ∀ g, x = Sum.inl (g) → Q (.inl (some (.long g))) (σ) π) (hE : ∀ e : (Int64), x = Sum.inr (Sum.inl e) → xMach G π J_X10_guess (d + 0) C Z 352 [(18, .long e)] [] σ Q) (hC : ∀ e : (Int64 × Int64 × Int64 × Int64 × Int64 × Int32), x = Sum.inr (Sum.inr e) → xMach G π J_X10_guess (d + 0) C Z 301 [(6, .long e.1), (8, .long e.2.1), (14, .long e.2.2.1), (18, .long e.2.2.2.1), (20, .long e.2.2.2.2.1), (22, .int e.2.2.2.2.2)] [] σ Q) : xMach G π J_X10_guess (d + 0) C Z 301 [(6, .long l6), (8, .long l8), (14, .long l14), (18, .long l18), (20, .long l20), (22, .int l22)] [] σ Q := by
  have hf : (if (3 : Int32) ≤ l22 then some (Sum.inr (Sum.inl l18)) else (if (0 : Int32) < (lg_cmp l20 (1073741823 : Int64)) then some (Sum.inr (Sum.inl l18)) else (if (lg_cmp (l18 * l8) ((l20 <<< (((30 : Int32)).toInt64 &&& 63)) ||| l14)) ≤ (0 : Int32) then some (Sum.inr (Sum.inl l18)) else xlet (l18 - (1 : Int64)) (fun v31 => xlet (l20 + l6) (fun v32 => xlet (l22 + (1 : Int32)) (fun v33 => some (Sum.inr (Sum.inr (l6, l8, l14, v31, v32, v33))))))))) = some x := hf
  refine xm_iload dX10_guess_301 rfl ?_
  refine xm_iconst dX10_guess_303 (v := 3) (by decide) ?_
  refine xb_icmp_ge 352 dX10_guess_304 (by decide) hf (fun c hf => ?_) (fun c hf => ?_)
  · cases hf
    exact xm_sub [3] rfl (hE _ rfl)
  · refine xm_lload dX10_guess_307 rfl ?_
    refine xm_ldc2 dX10_guess_309 (xws_in xw_255) ?_
    refine xm_lcmp dX10_guess_312 ?_
    refine xb_if_gt 352 dX10_guess_313 (by decide) hf (fun c hf => ?_) (fun c hf => ?_)
    · cases hf
      exact xm_sub [3] rfl (hE _ rfl)
    · refine xm_lload dX10_guess_316 rfl ?_
      refine xm_lload dX10_guess_318 rfl ?_
      refine xm_lmul dX10_guess_320 ?_
      refine xm_lload dX10_guess_321 rfl ?_
      refine xm_bipush dX10_guess_323 (v := 30) (by decide) ?_
      refine xm_lshl dX10_guess_325 rfl ?_
      refine xm_lload dX10_guess_326 rfl ?_
      refine xm_lor dX10_guess_328 ?_
      refine xm_lcmp dX10_guess_329 ?_
      refine xb_if_le 352 dX10_guess_330 (by decide) hf (fun c hf => ?_) (fun c hf => ?_)
      · cases hf
        exact xm_sub [3] rfl (hE _ rfl)
      · refine xm_lload dX10_guess_333 rfl ?_
        refine xm_lconst dX10_guess_335 (v := 1) (by decide) ?_
        refine xm_lsub dX10_guess_336 ?_
        refine xb_topl hf (fun v31 ev31 hf => ?_)
        refine xm_lstore dX10_guess_337 (by decide) (xm_stL (L' := [(18, .long v31), (6, .long l6), (8, .long l8), (14, .long l14), (20, .long l20), (22, .int l22)]) rfl ?_)
        refine xm_lload dX10_guess_339 rfl ?_
        refine xm_lload dX10_guess_341 rfl ?_
        refine xm_ladd dX10_guess_343 ?_
        refine xb_topl hf (fun v32 ev32 hf => ?_)
        refine xm_lstore dX10_guess_344 (by decide) (xm_stL (L' := [(20, .long v32), (18, .long v31), (6, .long l6), (8, .long l8), (14, .long l14), (22, .int l22)]) rfl ?_)
        refine xb_iinc dX10_guess_346 rfl (by decide) (by decide) hf (fun v33 ev33 hf => xm_stL (L' := [(22, .int v33), (20, .long v32), (18, .long v31), (6, .long l6), (8, .long l8), (14, .long l14)]) rfl ?_)
        refine xm_goto 301 dX10_guess_349 (by decide) ?_
        cases hf
        exact xm_sub [3, 4, 5, 2, 1, 0] rfl (hC _ rfl)
theorem L_X10_guess_l301 {G : xG} {π : Nat → Nat} {d C Z : Nat} {Q : xQ} (σ : xM) {s0 : (Int64 × Int64 × Int64 × Int64 × Int64 × Int32)} {x : (Int64 ⊕ (Int64))} (h1 : xloop (f_X10_guess_s301 σ) xF s0 = some x) (hR : ∀ g, x = Sum.inl g → Q (.inl (some (.long g))) (σ) π) (hE : ∀ e : (Int64), x = Sum.inr e → xMach G π J_X10_guess (d + 0) C Z 352 [(18, .long e)] [] σ Q) : xMach G π J_X10_guess (d + 0) C Z 301 [(6, .long s0.1), (8, .long s0.2.1), (14, .long s0.2.2.1), (18, .long s0.2.2.2.1), (20, .long s0.2.2.2.2.1), (22, .int s0.2.2.2.2.2)] [] σ Q := by
  refine xloop_run (M := (fun s : (Int64 × Int64 × Int64 × Int64 × Int64 × Int32) => xMach G π J_X10_guess (d + 0) C Z 301 [(6, .long s.1), (8, .long s.2.1), (14, .long s.2.2.1), (18, .long s.2.2.2.1), (20, .long s.2.2.2.2.1), (22, .int s.2.2.2.2.2)] [] σ Q)) (r := x) ?_ xF _ h1
  intro s y hs hx
  exact L_X10_guess_s301 σ s.1 s.2.1 s.2.2.1 s.2.2.2.1 s.2.2.2.2.1 s.2.2.2.2.2 (x := y) hs (fun g hg => by subst hg; exact hR g hx) (fun e he => by subst he; exact hE e hx) (fun e he => by subst he; exact hx)
def f_X10_guess_j352 (σ : xM) (l18 : Int64) : Option Int64 :=
  some l18
set_option maxHeartbeats 4000000 in
set_option maxRecDepth 20000 in
theorem L_X10_guess_j352 {G : xG} {π : Nat → Nat} {d C Z : Nat} {Q : xQ} (σ : xM) (l18 : Int64) {x : Int64} (hf : f_X10_guess_j352 σ l18 = some x) (hR : ∀ g, x = g → Q (.inl (some (.long g))) (σ) π) : xMach G π J_X10_guess (d + 0) C Z 352 [(18, .long l18)] [] σ Q := by
  unfold f_X10_guess_j352 at hf
  refine xm_lload dX10_guess_352 rfl ?_
  cases hf
  exact xm_lret dX10_guess_354 rfl (hR _ rfl)
def f_X10_guess_j286 (σ : xM) (l6 : Int64) (l8 : Int64) (l14 : Int64) (l16 : Int64) (s0 : Int64) : Option Int64 :=
  xlet (l16 - (s0 * l6)) (fun v29 => xlet (0 : Int32) (fun v30 => (xloop (f_X10_guess_s301 σ ) xF (l6, l8, l14, s0, v29, v30)).bind (Sum.elim (fun g => some g) (fun e => f_X10_guess_j352 σ e))))
set_option maxHeartbeats 4000000 in
set_option maxRecDepth 20000 in
theorem L_X10_guess_j286 {G : xG} {π : Nat → Nat} {d C Z : Nat} {Q : xQ} (σ : xM) (l6 : Int64) (l8 : Int64) (l14 : Int64) (l16 : Int64) (s0 : Int64) {x : Int64} (hf : f_X10_guess_j286 σ l6 l8 l14 l16 s0 = some x) (hR : ∀ g, x = g → Q (.inl (some (.long g))) (σ) π) : xMach G π J_X10_guess (d + 0) C Z 286 [(6, .long l6), (8, .long l8), (14, .long l14), (16, .long l16)] [.long s0] σ Q := by
  unfold f_X10_guess_j286 at hf
  refine xm_lstore dX10_guess_286 (by decide) (xm_stL (L' := [(18, .long s0), (6, .long l6), (8, .long l8), (14, .long l14), (16, .long l16)]) rfl ?_)
  refine xm_lload dX10_guess_288 rfl ?_
  refine xm_lload dX10_guess_290 rfl ?_
  refine xm_lload dX10_guess_292 rfl ?_
  refine xm_lmul dX10_guess_294 ?_
  refine xm_lsub dX10_guess_295 ?_
  refine xb_topl hf (fun v29 ev29 hf => ?_)
  refine xm_lstore dX10_guess_296 (by decide) (xm_stL (L' := [(20, .long v29), (18, .long s0), (6, .long l6), (8, .long l8), (14, .long l14), (16, .long l16)]) rfl ?_)
  refine xm_iconst dX10_guess_298 (v := 0) (by decide) ?_
  refine xb_topi hf (fun v30 ev30 hf => ?_)
  refine xm_istore dX10_guess_299 (by decide) (xm_stL (L' := [(22, .int v30), (20, .long v29), (18, .long s0), (6, .long l6), (8, .long l8), (14, .long l14), (16, .long l16)]) rfl ?_)
  obtain ⟨o, h1, hf⟩ := xbind hf
  refine xm_sub [3, 4, 5, 2, 1, 0] rfl (L_X10_guess_l301 σ h1 (fun g hg => ?_) (fun e he => ?_))
  · subst hg
    cases hf
    exact hR _ rfl
  · subst he
    rw [Sum.elim_inr] at hf
    have hf : f_X10_guess_j352 σ e = some _ := hf
    exact xm_sub [0] rfl (L_X10_guess_j352 σ e hf hR)
def f_X10_guess_j240 (σ : xM) (l6 : Int64) (l8 : Int64) (l10 : Int64) (l12 : Int64) (s0 : Int32) (s1 : Int64) : Option Int64 :=
  xlet (s1 ||| ((s0).toInt64)) (fun v27 => (if (0 : Int32) ≤ (lg_cmp l6 (1 : Int64)) then xlet ((l10 <<< (((30 : Int32)).toInt64 &&& 63)) ||| l12) (fun v28 => (if l6 = 0 then none else (if (0 : Int32) ≤ (lg_cmp (v28 / l6) (1073741823 : Int64)) then f_X10_guess_j286 σ l6 l8 v27 v28 (1073741823 : Int64) else (if l6 = 0 then none else f_X10_guess_j286 σ l6 l8 v27 v28 (v28 / l6))))) else some (0 : Int64)))
set_option maxHeartbeats 4000000 in
set_option maxRecDepth 20000 in
theorem L_X10_guess_j240 {G : xG} {π : Nat → Nat} {d C Z : Nat} {Q : xQ} (σ : xM) (l6 : Int64) (l8 : Int64) (l10 : Int64) (l12 : Int64) (s0 : Int32) (s1 : Int64) {x : Int64} (hf : f_X10_guess_j240 σ l6 l8 l10 l12 s0 s1 = some x) (hR : ∀ g, x = g → Q (.inl (some (.long g))) (σ) π) : xMach G π J_X10_guess (d + 0) C Z 240 [(6, .long l6), (8, .long l8), (10, .long l10), (12, .long l12)] [.int s0, .long s1] σ Q := by
  unfold f_X10_guess_j240 at hf
  refine xm_i2l dX10_guess_240 rfl ?_
  refine xm_lor dX10_guess_241 ?_
  refine xb_topl hf (fun v27 ev27 hf => ?_)
  refine xm_lstore dX10_guess_242 (by decide) (xm_stL (L' := [(14, .long v27), (6, .long l6), (8, .long l8), (10, .long l10), (12, .long l12)]) rfl ?_)
  refine xm_lload dX10_guess_244 rfl ?_
  refine xm_lconst dX10_guess_246 (v := 1) (by decide) ?_
  refine xm_lcmp dX10_guess_247 ?_
  refine xb_if_ge 253 dX10_guess_248 (by decide) hf (fun c hf => ?_) (fun c hf => ?_)
  · refine xm_lload dX10_guess_253 rfl ?_
    refine xm_bipush dX10_guess_255 (v := 30) (by decide) ?_
    refine xm_lshl dX10_guess_257 rfl ?_
    refine xm_lload dX10_guess_258 rfl ?_
    refine xm_lor dX10_guess_260 ?_
    refine xb_topl hf (fun v28 ev28 hf => ?_)
    refine xm_lstore dX10_guess_261 (by decide) (xm_stL (L' := [(16, .long v28), (14, .long v27), (6, .long l6), (8, .long l8), (10, .long l10), (12, .long l12)]) rfl ?_)
    refine xm_lload dX10_guess_263 rfl ?_
    refine xm_lload dX10_guess_265 rfl ?_
    refine xb_ldiv dX10_guess_267 hf (fun c hf => ?_)
    refine xm_ldc2 dX10_guess_268 (xws_in xw_255) ?_
    refine xm_lcmp dX10_guess_271 ?_
    refine xb_if_ge 283 dX10_guess_272 (by decide) hf (fun c hf => ?_) (fun c hf => ?_)
    · refine xm_ldc2 dX10_guess_283 (xws_in xw_255) ?_
      exact xm_sub [2, 3, 1, 0] rfl (L_X10_guess_j286 σ l6 l8 v27 v28 (1073741823 : Int64) hf hR)
    · refine xm_lload dX10_guess_275 rfl ?_
      refine xm_lload dX10_guess_277 rfl ?_
      refine xb_ldiv dX10_guess_279 hf (fun c hf => ?_)
      refine xm_goto 286 dX10_guess_280 (by decide) ?_
      exact xm_sub [2, 3, 1, 0] rfl (L_X10_guess_j286 σ l6 l8 v27 v28 (v28 / l6) hf hR)
  · refine xm_lconst dX10_guess_251 (v := 0) (by decide) ?_
    cases hf
    exact xm_lret dX10_guess_252 rfl (hR _ rfl)
def f_X10_guess_j154 (σ : xM) (l0 : Nat) (l2 : Int32) (l4 : Int32) (l5 : Int32) (l6 : Int64) (l8 : Int64) (s0 : Int32) : Option Int64 :=
  (gR σ l0 10 0).bind (fun x17 => (aI σ x17 14 (l2 - (1 : Int32))).bind (fun x18 => xlet ((((s0).toInt64) <<< ((l4).toInt64 &&& 63)) ||| (((x18 >>> (l5 &&& 31))).toInt64)) (fun v19 => (gR σ l0 10 0).bind (fun x20 => (aI σ x20 14 (l2 - (1 : Int32))).bind (fun x21 => (gR σ l0 10 0).bind (fun x22 => (aI σ x22 14 (l2 - (2 : Int32))).bind (fun x23 => xlet (((((x21).toInt64) <<< ((l4).toInt64 &&& 63)) &&& (1073741823 : Int64)) ||| (((x23 >>> (l5 &&& 31))).toInt64)) (fun v24 => (gR σ l0 10 0).bind (fun x25 => (aI σ x25 14 (l2 - (2 : Int32))).bind (fun x26 => (if l2 ≤ (2 : Int32) then f_X10_guess_j240 σ l6 l8 v19 v24 (0 : Int32) ((((x26).toInt64) <<< ((l4).toInt64 &&& 63)) &&& (1073741823 : Int64)) else (gR σ l0 10 0).bind (fun x34 => (aI σ x34 14 (l2 - (3 : Int32))).bind (fun x35 => f_X10_guess_j240 σ l6 l8 v19 v24 (x35 >>> (l5 &&& 31)) ((((x26).toInt64) <<< ((l4).toInt64 &&& 63)) &&& (1073741823 : Int64)))))))))))))))
set_option maxHeartbeats 4000000 in
set_option maxRecDepth 20000 in
theorem L_X10_guess_j154 {G : xG} {π : Nat → Nat} {d C Z : Nat} {Q : xQ} (σ : xM) (l0 : Nat) (l2 : Int32) (l4 : Int32) (l5 : Int32) (l6 : Int64) (l8 : Int64) (s0 : Int32) {x : Int64} (hf : f_X10_guess_j154 σ l0 l2 l4 l5 l6 l8 s0 = some x) (hR : ∀ g, x = g → Q (.inl (some (.long g))) (σ) π) : xMach G π J_X10_guess (d + 0) C Z 154 [(0, .ref l0), (2, .int l2), (4, .int l4), (5, .int l5), (6, .long l6), (8, .long l8)] [.int s0] σ Q := by
  unfold f_X10_guess_j154 at hf
  refine xm_i2l dX10_guess_154 rfl ?_
  refine xm_iload dX10_guess_155 rfl ?_
  refine xm_lshl dX10_guess_157 rfl ?_
  refine xm_aload_n dX10_guess_158 rfl ?_
  refine xb_getR (a := l0) (c := 10) (k := 0) dX10_guess_159 xcl10 (by decide) xw_45 rfl hf (fun x17 ex17 hf => ?_)
  refine xm_iload_n dX10_guess_162 rfl ?_
  refine xm_iconst dX10_guess_163 (v := 1) (by decide) ?_
  refine xm_isub dX10_guess_164 ?_
  refine xb_iald dX10_guess_165 hf (fun x18 ex18 hf => ?_)
  refine xm_iload dX10_guess_166 rfl ?_
  refine xm_ishr dX10_guess_168 ?_
  refine xm_i2l dX10_guess_169 rfl ?_
  refine xm_lor dX10_guess_170 ?_
  refine xb_topl hf (fun v19 ev19 hf => ?_)
  refine xm_lstore dX10_guess_171 (by decide) (xm_stL (L' := [(10, .long v19), (0, .ref l0), (2, .int l2), (4, .int l4), (5, .int l5), (6, .long l6), (8, .long l8)]) rfl ?_)
  refine xm_aload_n dX10_guess_173 rfl ?_
  refine xb_getR (a := l0) (c := 10) (k := 0) dX10_guess_174 xcl10 (by decide) xw_45 rfl hf (fun x20 ex20 hf => ?_)
  refine xm_iload_n dX10_guess_177 rfl ?_
  refine xm_iconst dX10_guess_178 (v := 1) (by decide) ?_
  refine xm_isub dX10_guess_179 ?_
  refine xb_iald dX10_guess_180 hf (fun x21 ex21 hf => ?_)
  refine xm_i2l dX10_guess_181 rfl ?_
  refine xm_iload dX10_guess_182 rfl ?_
  refine xm_lshl dX10_guess_184 rfl ?_
  refine xm_ldc2 dX10_guess_185 (xws_in xw_255) ?_
  refine xm_land dX10_guess_188 ?_
  refine xm_aload_n dX10_guess_189 rfl ?_
  refine xb_getR (a := l0) (c := 10) (k := 0) dX10_guess_190 xcl10 (by decide) xw_45 rfl hf (fun x22 ex22 hf => ?_)
  refine xm_iload_n dX10_guess_193 rfl ?_
  refine xm_iconst dX10_guess_194 (v := 2) (by decide) ?_
  refine xm_isub dX10_guess_195 ?_
  refine xb_iald dX10_guess_196 hf (fun x23 ex23 hf => ?_)
  refine xm_iload dX10_guess_197 rfl ?_
  refine xm_ishr dX10_guess_199 ?_
  refine xm_i2l dX10_guess_200 rfl ?_
  refine xm_lor dX10_guess_201 ?_
  refine xb_topl hf (fun v24 ev24 hf => ?_)
  refine xm_lstore dX10_guess_202 (by decide) (xm_stL (L' := [(12, .long v24), (10, .long v19), (0, .ref l0), (2, .int l2), (4, .int l4), (5, .int l5), (6, .long l6), (8, .long l8)]) rfl ?_)
  refine xm_aload_n dX10_guess_204 rfl ?_
  refine xb_getR (a := l0) (c := 10) (k := 0) dX10_guess_205 xcl10 (by decide) xw_45 rfl hf (fun x25 ex25 hf => ?_)
  refine xm_iload_n dX10_guess_208 rfl ?_
  refine xm_iconst dX10_guess_209 (v := 2) (by decide) ?_
  refine xm_isub dX10_guess_210 ?_
  refine xb_iald dX10_guess_211 hf (fun x26 ex26 hf => ?_)
  refine xm_i2l dX10_guess_212 rfl ?_
  refine xm_iload dX10_guess_213 rfl ?_
  refine xm_lshl dX10_guess_215 rfl ?_
  refine xm_ldc2 dX10_guess_216 (xws_in xw_255) ?_
  refine xm_land dX10_guess_219 ?_
  refine xm_iload_n dX10_guess_220 rfl ?_
  refine xm_iconst dX10_guess_221 (v := 2) (by decide) ?_
  refine xb_icmp_le 239 dX10_guess_222 (by decide) hf (fun c hf => ?_) (fun c hf => ?_)
  · refine xm_iconst dX10_guess_239 (v := 0) (by decide) ?_
    exact xm_sub [6, 7, 1, 0] rfl (L_X10_guess_j240 σ l6 l8 v19 v24 (0 : Int32) ((((x26).toInt64) <<< ((l4).toInt64 &&& 63)) &&& (1073741823 : Int64)) hf hR)
  · refine xm_aload_n dX10_guess_225 rfl ?_
    refine xb_getR (a := l0) (c := 10) (k := 0) dX10_guess_226 xcl10 (by decide) xw_45 rfl hf (fun x34 ex34 hf => ?_)
    refine xm_iload_n dX10_guess_229 rfl ?_
    refine xm_iconst dX10_guess_230 (v := 3) (by decide) ?_
    refine xm_isub dX10_guess_231 ?_
    refine xb_iald dX10_guess_232 hf (fun x35 ex35 hf => ?_)
    refine xm_iload dX10_guess_233 rfl ?_
    refine xm_ishr dX10_guess_235 ?_
    refine xm_goto 240 dX10_guess_236 (by decide) ?_
    exact xm_sub [6, 7, 1, 0] rfl (L_X10_guess_j240 σ l6 l8 v19 v24 (x35 >>> (l5 &&& 31)) ((((x26).toInt64) <<< ((l4).toInt64 &&& 63)) &&& (1073741823 : Int64)) hf hR)
def f_X10_guess_j132 (σ : xM) (l0 : Nat) (l2 : Int32) (l4 : Int32) (l5 : Int32) (l6 : Int64) (s0 : Int32) (s1 : Int64) : Option Int64 :=
  xlet (s1 ||| ((s0).toInt64)) (fun v15 => (gI σ l0 10 1).bind (fun x16 => (if x16 ≤ l2 then f_X10_guess_j154 σ l0 l2 l4 l5 l6 v15 (0 : Int32) else (gR σ l0 10 0).bind (fun x36 => (aI σ x36 14 l2).bind (fun x37 => f_X10_guess_j154 σ l0 l2 l4 l5 l6 v15 x37)))))
set_option maxHeartbeats 4000000 in
set_option maxRecDepth 20000 in
theorem L_X10_guess_j132 {G : xG} {π : Nat → Nat} {d C Z : Nat} {Q : xQ} (σ : xM) (l0 : Nat) (l2 : Int32) (l4 : Int32) (l5 : Int32) (l6 : Int64) (s0 : Int32) (s1 : Int64) {x : Int64} (hf : f_X10_guess_j132 σ l0 l2 l4 l5 l6 s0 s1 = some x) (hR : ∀ g, x = g → Q (.inl (some (.long g))) (σ) π) : xMach G π J_X10_guess (d + 0) C Z 132 [(0, .ref l0), (2, .int l2), (4, .int l4), (5, .int l5), (6, .long l6)] [.int s0, .long s1] σ Q := by
  unfold f_X10_guess_j132 at hf
  refine xm_i2l dX10_guess_132 rfl ?_
  refine xm_lor dX10_guess_133 ?_
  refine xb_topl hf (fun v15 ev15 hf => ?_)
  refine xm_lstore dX10_guess_134 (by decide) (xm_stL (L' := [(8, .long v15), (0, .ref l0), (2, .int l2), (4, .int l4), (5, .int l5), (6, .long l6)]) rfl ?_)
  refine xm_iload_n dX10_guess_136 rfl ?_
  refine xm_aload_n dX10_guess_137 rfl ?_
  refine xb_getI (a := l0) (c := 10) (k := 1) dX10_guess_138 xcl10 (by decide) xw_46 rfl hf (fun x16 ex16 hf => ?_)
  refine xb_icmp_ge 153 dX10_guess_141 (by decide) hf (fun c hf => ?_) (fun c hf => ?_)
  · refine xm_iconst dX10_guess_153 (v := 0) (by decide) ?_
    exact xm_sub [1, 2, 3, 4, 5, 0] rfl (L_X10_guess_j154 σ l0 l2 l4 l5 l6 v15 (0 : Int32) hf hR)
  · refine xm_aload_n dX10_guess_144 rfl ?_
    refine xb_getR (a := l0) (c := 10) (k := 0) dX10_guess_145 xcl10 (by decide) xw_45 rfl hf (fun x36 ex36 hf => ?_)
    refine xm_iload_n dX10_guess_148 rfl ?_
    refine xb_iald dX10_guess_149 hf (fun x37 ex37 hf => ?_)
    refine xm_goto 154 dX10_guess_150 (by decide) ?_
    exact xm_sub [1, 2, 3, 4, 5, 0] rfl (L_X10_guess_j154 σ l0 l2 l4 l5 l6 v15 x37 hf hR)
def f_X10_guess_j62 (σ : xM) (l0 : Nat) (l1 : Nat) (l2 : Int32) (l3 : Int32) (l4 : Int32) : Option Int64 :=
  xlet ((30 : Int32) - l4) (fun v7 => (gR σ l1 10 0).bind (fun x8 => (aI σ x8 14 (l3 - (1 : Int32))).bind (fun x9 => (gR σ l1 10 0).bind (fun x10 => (aI σ x10 14 (l3 - (2 : Int32))).bind (fun x11 => xlet ((((x9).toInt64) <<< ((l4).toInt64 &&& 63)) ||| (((x11 >>> (v7 &&& 31))).toInt64)) (fun v12 => (gR σ l1 10 0).bind (fun x13 => (aI σ x13 14 (l3 - (2 : Int32))).bind (fun x14 => (if l3 ≤ (2 : Int32) then f_X10_guess_j132 σ l0 l2 l4 v7 v12 (0 : Int32) ((((x14).toInt64) <<< ((l4).toInt64 &&& 63)) &&& (1073741823 : Int64)) else (gR σ l1 10 0).bind (fun x38 => (aI σ x38 14 (l3 - (3 : Int32))).bind (fun x39 => f_X10_guess_j132 σ l0 l2 l4 v7 v12 (x39 >>> (v7 &&& 31)) ((((x14).toInt64) <<< ((l4).toInt64 &&& 63)) &&& (1073741823 : Int64)))))))))))))
set_option maxHeartbeats 4000000 in
set_option maxRecDepth 20000 in
theorem L_X10_guess_j62 {G : xG} {π : Nat → Nat} {d C Z : Nat} {Q : xQ} (σ : xM) (l0 : Nat) (l1 : Nat) (l2 : Int32) (l3 : Int32) (l4 : Int32) {x : Int64} (hf : f_X10_guess_j62 σ l0 l1 l2 l3 l4 = some x) (hR : ∀ g, x = g → Q (.inl (some (.long g))) (σ) π) : xMach G π J_X10_guess (d + 0) C Z 62 [(0, .ref l0), (1, .ref l1), (2, .int l2), (3, .int l3), (4, .int l4)] [] σ Q := by
  unfold f_X10_guess_j62 at hf
  refine xm_bipush dX10_guess_62 (v := 30) (by decide) ?_
  refine xm_iload dX10_guess_64 rfl ?_
  refine xm_isub dX10_guess_66 ?_
  refine xb_topi hf (fun v7 ev7 hf => ?_)
  refine xm_istore dX10_guess_67 (by decide) (xm_stL (L' := [(5, .int v7), (0, .ref l0), (1, .ref l1), (2, .int l2), (3, .int l3), (4, .int l4)]) rfl ?_)
  refine xm_aload_n dX10_guess_69 rfl ?_
  refine xb_getR (a := l1) (c := 10) (k := 0) dX10_guess_70 xcl10 (by decide) xw_45 rfl hf (fun x8 ex8 hf => ?_)
  refine xm_iload_n dX10_guess_73 rfl ?_
  refine xm_iconst dX10_guess_74 (v := 1) (by decide) ?_
  refine xm_isub dX10_guess_75 ?_
  refine xb_iald dX10_guess_76 hf (fun x9 ex9 hf => ?_)
  refine xm_i2l dX10_guess_77 rfl ?_
  refine xm_iload dX10_guess_78 rfl ?_
  refine xm_lshl dX10_guess_80 rfl ?_
  refine xm_aload_n dX10_guess_81 rfl ?_
  refine xb_getR (a := l1) (c := 10) (k := 0) dX10_guess_82 xcl10 (by decide) xw_45 rfl hf (fun x10 ex10 hf => ?_)
  refine xm_iload_n dX10_guess_85 rfl ?_
  refine xm_iconst dX10_guess_86 (v := 2) (by decide) ?_
  refine xm_isub dX10_guess_87 ?_
  refine xb_iald dX10_guess_88 hf (fun x11 ex11 hf => ?_)
  refine xm_iload dX10_guess_89 rfl ?_
  refine xm_ishr dX10_guess_91 ?_
  refine xm_i2l dX10_guess_92 rfl ?_
  refine xm_lor dX10_guess_93 ?_
  refine xb_topl hf (fun v12 ev12 hf => ?_)
  refine xm_lstore dX10_guess_94 (by decide) (xm_stL (L' := [(6, .long v12), (5, .int v7), (0, .ref l0), (1, .ref l1), (2, .int l2), (3, .int l3), (4, .int l4)]) rfl ?_)
  refine xm_aload_n dX10_guess_96 rfl ?_
  refine xb_getR (a := l1) (c := 10) (k := 0) dX10_guess_97 xcl10 (by decide) xw_45 rfl hf (fun x13 ex13 hf => ?_)
  refine xm_iload_n dX10_guess_100 rfl ?_
  refine xm_iconst dX10_guess_101 (v := 2) (by decide) ?_
  refine xm_isub dX10_guess_102 ?_
  refine xb_iald dX10_guess_103 hf (fun x14 ex14 hf => ?_)
  refine xm_i2l dX10_guess_104 rfl ?_
  refine xm_iload dX10_guess_105 rfl ?_
  refine xm_lshl dX10_guess_107 rfl ?_
  refine xm_ldc2 dX10_guess_108 (xws_in xw_255) ?_
  refine xm_land dX10_guess_111 ?_
  refine xm_iload_n dX10_guess_112 rfl ?_
  refine xm_iconst dX10_guess_113 (v := 2) (by decide) ?_
  refine xb_icmp_le 131 dX10_guess_114 (by decide) hf (fun c hf => ?_) (fun c hf => ?_)
  · refine xm_iconst dX10_guess_131 (v := 0) (by decide) ?_
    exact xm_sub [2, 4, 6, 1, 0] rfl (L_X10_guess_j132 σ l0 l2 l4 v7 v12 (0 : Int32) ((((x14).toInt64) <<< ((l4).toInt64 &&& 63)) &&& (1073741823 : Int64)) hf hR)
  · refine xm_aload_n dX10_guess_117 rfl ?_
    refine xb_getR (a := l1) (c := 10) (k := 0) dX10_guess_118 xcl10 (by decide) xw_45 rfl hf (fun x38 ex38 hf => ?_)
    refine xm_iload_n dX10_guess_121 rfl ?_
    refine xm_iconst dX10_guess_122 (v := 3) (by decide) ?_
    refine xm_isub dX10_guess_123 ?_
    refine xb_iald dX10_guess_124 hf (fun x39 ex39 hf => ?_)
    refine xm_iload dX10_guess_125 rfl ?_
    refine xm_ishr dX10_guess_127 ?_
    refine xm_goto 132 dX10_guess_128 (by decide) ?_
    exact xm_sub [2, 4, 6, 1, 0] rfl (L_X10_guess_j132 σ l0 l2 l4 v7 v12 (x39 >>> (v7 &&& 31)) ((((x14).toInt64) <<< ((l4).toInt64 &&& 63)) &&& (1073741823 : Int64)) hf hR)
def f_X10_guess (σ : xM) (l0 : Nat) (l1 : Nat) (l2 : Int32) : Option Int64 :=
  (gI σ l1 10 1).bind (fun x1 => (if x1 < (2 : Int32) then f_X10_guess_j23 σ else (if l2 < (2 : Int32) then f_X10_guess_j23 σ else (gI σ l0 10 1).bind (fun x2 => (if l2 ≤ x2 then xlet (0 : Int32) (fun v3 => (gR σ l1 10 0).bind (fun x4 => (aI σ x4 14 (x1 - (1 : Int32))).bind (fun x5 => (xloop (f_X10_guess_s38 σ ) xF (l0, l1, l2, x1, v3, x5)).bind (Sum.elim (fun g => some g) (fun e => f_X10_guess_j62 σ e.1 e.2.1 e.2.2.1 e.2.2.2.1 e.2.2.2.2))))) else f_X10_guess_j23 σ)))))
set_option maxHeartbeats 4000000 in
set_option maxRecDepth 20000 in
theorem m_X10_guess {G : xG} {π : Nat → Nat} {d C Z : Nat} {Q : xQ} {σ : xM} {l0 : Nat} {l1 : Nat} {l2 : Int32} {x : Int64} (hf : f_X10_guess σ l0 l1 l2 = some x) (hR : ∀ g, x = g → Q (.inl (some (.long g))) (σ) π) : xMach G π J_X10_guess (d + 0) C Z 0 (lv_args 0 [.ref l0, .ref l1, .int l2]) [] σ Q := by
  unfold f_X10_guess at hf
  refine xm_stL (L' := [(0, .ref l0), (1, .ref l1), (2, .int l2)]) rfl ?_
  refine xm_aload_n dX10_guess_0 rfl ?_
  refine xb_getI (a := l1) (c := 10) (k := 1) dX10_guess_1 xcl10 (by decide) xw_46 rfl hf (fun x1 ex1 hf => ?_)
  refine xm_istore_n dX10_guess_4 (by decide) (xm_stL (L' := [(3, .int x1), (0, .ref l0), (1, .ref l1), (2, .int l2)]) rfl ?_)
  refine xm_iload_n dX10_guess_5 rfl ?_
  refine xm_iconst dX10_guess_6 (v := 2) (by decide) ?_
  refine xb_icmp_lt 23 dX10_guess_7 (by decide) hf (fun c hf => ?_) (fun c hf => ?_)
  · exact xm_sub [] rfl (L_X10_guess_j23 σ hf hR)
  · refine xm_iload_n dX10_guess_10 rfl ?_
    refine xm_iconst dX10_guess_11 (v := 2) (by decide) ?_
    refine xb_icmp_lt 23 dX10_guess_12 (by decide) hf (fun c hf => ?_) (fun c hf => ?_)
    · exact xm_sub [] rfl (L_X10_guess_j23 σ hf hR)
    · refine xm_iload_n dX10_guess_15 rfl ?_
      refine xm_aload_n dX10_guess_16 rfl ?_
      refine xb_getI (a := l0) (c := 10) (k := 1) dX10_guess_17 xcl10 (by decide) xw_46 rfl hf (fun x2 ex2 hf => ?_)
      refine xb_icmp_le 25 dX10_guess_20 (by decide) hf (fun c hf => ?_) (fun c hf => ?_)
      · refine xm_iconst dX10_guess_25 (v := 0) (by decide) ?_
        refine xb_topi hf (fun v3 ev3 hf => ?_)
        refine xm_istore dX10_guess_26 (by decide) (xm_stL (L' := [(4, .int v3), (3, .int x1), (0, .ref l0), (1, .ref l1), (2, .int l2)]) rfl ?_)
        refine xm_aload_n dX10_guess_28 rfl ?_
        refine xb_getR (a := l1) (c := 10) (k := 0) dX10_guess_29 xcl10 (by decide) xw_45 rfl hf (fun x4 ex4 hf => ?_)
        refine xm_iload_n dX10_guess_32 rfl ?_
        refine xm_iconst dX10_guess_33 (v := 1) (by decide) ?_
        refine xm_isub dX10_guess_34 ?_
        refine xb_iald dX10_guess_35 hf (fun x5 ex5 hf => ?_)
        refine xm_istore dX10_guess_36 (by decide) (xm_stL (L' := [(5, .int x5), (4, .int v3), (3, .int x1), (0, .ref l0), (1, .ref l1), (2, .int l2)]) rfl ?_)
        obtain ⟨o, h1, hf⟩ := xbind hf
        refine xm_sub [3, 4, 5, 2, 1, 0] rfl (L_X10_guess_l38 σ h1 (fun g hg => ?_) (fun e he => ?_))
        · subst hg
          cases hf
          exact hR _ rfl
        · subst he
          rw [Sum.elim_inr] at hf
          have hf : f_X10_guess_j62 σ e.1 e.2.1 e.2.2.1 e.2.2.2.1 e.2.2.2.2 = some _ := hf
          exact xm_sub [0, 1, 2, 3, 4] rfl (L_X10_guess_j62 σ e.1 e.2.1 e.2.2.1 e.2.2.2.1 e.2.2.2.2 hf hR)
      · exact xm_sub [] rfl (L_X10_guess_j23 σ hf hR)
-- Rankwise$Whole.takeTimes(LRankwise$Whole;JI)J
def f_X10_takeTimes_s15 (s : (Nat × Nat × Int64 × Int32 × Int64 × Int32 × Int32 × xM)) : Option ((Int64 × xM) ⊕ ((Nat × Nat × Int64 × Int32 × Int64 × Int32 × xM) ⊕ (Nat × Nat × Int64 × Int32 × Int64 × Int32 × Int32 × xM))) :=
  xlet s.1 (fun l0 => xlet s.2.1 (fun l1 => xlet s.2.2.1 (fun l2 => xlet s.2.2.2.1 (fun l4 => xlet s.2.2.2.2.1 (fun l5 => xlet s.2.2.2.2.2.1 (fun l7 => xlet s.2.2.2.2.2.2.1 (fun l8 => xlet s.2.2.2.2.2.2.2 (fun σ => (gI σ l1 10 1).bind (fun x5 => (if x5 ≤ l8 then some (Sum.inr (Sum.inl (l0, l1, l2, l4, l5, l7, σ))) else (gI σ l0 10 1).bind (fun x6 => (if x6 ≤ (l4 + l8) then some (Sum.inr (Sum.inl (l0, l1, l2, l4, l5, l7, σ))) else (gR σ l0 10 0).bind (fun x7 => (aI σ x7 14 (l4 + l8)).bind (fun x8 => (gR σ l1 10 0).bind (fun x9 => (aI σ x9 14 l8).bind (fun x10 => xlet ((((x8).toInt64) - (l2 * ((x10).toInt64))) - l5) (fun v11 => (gR σ l0 10 0).bind (fun x12 => (wI σ x12 (l4 + l8) (((v11 &&& (1073741823 : Int64))).toInt32)).bind (fun σ13 => xlet (-(v11 >>> (((30 : Int32)).toInt64 &&& 63))) (fun v14 => xlet (l8 + (1 : Int32)) (fun v15 => some (Sum.inr (Sum.inr (l0, l1, l2, l4, v14, l7, v15, σ13))))))))))))))))))))))))
set_option maxHeartbeats 4000000 in
set_option maxRecDepth 20000 in
theorem L_X10_takeTimes_s15 {G : xG} {π : Nat → Nat} {d C Z : Nat} {Q : xQ} (σ : xM) (l0 : Nat) (l1 : Nat) (l2 : Int64) (l4 : Int32) (l5 : Int64) (l7 : Int32) (l8 : Int32) {x : ((Int64 × xM) ⊕ ((Nat × Nat × Int64 × Int32 × Int64 × Int32 × xM) ⊕ (Nat × Nat × Int64 × Int32 × Int64 × Int32 × Int32 × xM)))} (hf : f_X10_takeTimes_s15 (l0, l1, l2, l4, l5, l7, l8, σ) = some x) (hR : ∀ g, x = Sum.inl (g) → Q (.inl (some (.long g.1))) (g.2) π) (hE : ∀ e : (Nat × Nat × Int64 × Int32 × Int64 × Int32 × xM), x = Sum.inr (Sum.inl e) → xMach G π J_X10_takeTimes (d + 0) C Z 94 [(0, .ref e.1), (1, .ref e.2.1), (2, .long e.2.2.1), (4, .int e.2.2.2.1), (5, .long e.2.2.2.2.1), (7, .int e.2.2.2.2.2.1)] [] e.2.2.2.2.2.2 Q) (hC : ∀ e : (Nat × Nat × Int64 × Int32 × Int64 × Int32 × Int32 × xM), x = Sum.inr (Sum.inr e) → xMach G π J_X10_takeTimes (d + 0) C Z 15 [(0, .ref e.1), (1, .ref e.2.1), (2, .long e.2.2.1), (4, .int e.2.2.2.1), (5, .long e.2.2.2.2.1), (7, .int e.2.2.2.2.2.1), (8, .int e.2.2.2.2.2.2.1)] [] e.2.2.2.2.2.2.2 Q) : xMach G π J_X10_takeTimes (d + 0) C Z 15 [(0, .ref l0), (1, .ref l1), (2, .long l2), (4, .int l4), (5, .long l5), (7, .int l7), (8, .int l8)] [] σ Q := by
  have hf : (gI σ l1 10 1).bind (fun x5 => (if x5 ≤ l8 then some (Sum.inr (Sum.inl (l0, l1, l2, l4, l5, l7, σ))) else (gI σ l0 10 1).bind (fun x6 => (if x6 ≤ (l4 + l8) then some (Sum.inr (Sum.inl (l0, l1, l2, l4, l5, l7, σ))) else (gR σ l0 10 0).bind (fun x7 => (aI σ x7 14 (l4 + l8)).bind (fun x8 => (gR σ l1 10 0).bind (fun x9 => (aI σ x9 14 l8).bind (fun x10 => xlet ((((x8).toInt64) - (l2 * ((x10).toInt64))) - l5) (fun v11 => (gR σ l0 10 0).bind (fun x12 => (wI σ x12 (l4 + l8) (((v11 &&& (1073741823 : Int64))).toInt32)).bind (fun σ13 => xlet (-(v11 >>> (((30 : Int32)).toInt64 &&& 63))) (fun v14 => xlet (l8 + (1 : Int32)) (fun v15 => some (Sum.inr (Sum.inr (l0, l1, l2, l4, v14, l7, v15, σ13)))))))))))))))) = some x := hf
  refine xm_iload dX10_takeTimes_15 rfl ?_
  refine xm_aload_n dX10_takeTimes_17 rfl ?_
  refine xb_getI (a := l1) (c := 10) (k := 1) dX10_takeTimes_18 xcl10 (by decide) xw_46 rfl hf (fun x5 ex5 hf => ?_)
  refine xb_icmp_ge 94 dX10_takeTimes_21 (by decide) hf (fun c hf => ?_) (fun c hf => ?_)
  · cases hf
    exact xm_sub [0, 1, 2, 3, 4, 5] rfl (hE _ rfl)
  · refine xm_iload dX10_takeTimes_24 rfl ?_
    refine xm_iload dX10_takeTimes_26 rfl ?_
    refine xm_iadd dX10_takeTimes_28 ?_
    refine xm_aload_n dX10_takeTimes_29 rfl ?_
    refine xb_getI (a := l0) (c := 10) (k := 1) dX10_takeTimes_30 xcl10 (by decide) xw_46 rfl hf (fun x6 ex6 hf => ?_)
    refine xb_icmp_ge 94 dX10_takeTimes_33 (by decide) hf (fun c hf => ?_) (fun c hf => ?_)
    · cases hf
      exact xm_sub [0, 1, 2, 3, 4, 5] rfl (hE _ rfl)
    · refine xm_aload_n dX10_takeTimes_36 rfl ?_
      refine xb_getR (a := l0) (c := 10) (k := 0) dX10_takeTimes_37 xcl10 (by decide) xw_45 rfl hf (fun x7 ex7 hf => ?_)
      refine xm_iload dX10_takeTimes_40 rfl ?_
      refine xm_iload dX10_takeTimes_42 rfl ?_
      refine xm_iadd dX10_takeTimes_44 ?_
      refine xb_iald dX10_takeTimes_45 hf (fun x8 ex8 hf => ?_)
      refine xm_i2l dX10_takeTimes_46 rfl ?_
      refine xm_lload_n dX10_takeTimes_47 rfl ?_
      refine xm_aload_n dX10_takeTimes_48 rfl ?_
      refine xb_getR (a := l1) (c := 10) (k := 0) dX10_takeTimes_49 xcl10 (by decide) xw_45 rfl hf (fun x9 ex9 hf => ?_)
      refine xm_iload dX10_takeTimes_52 rfl ?_
      refine xb_iald dX10_takeTimes_54 hf (fun x10 ex10 hf => ?_)
      refine xm_i2l dX10_takeTimes_55 rfl ?_
      refine xm_lmul dX10_takeTimes_56 ?_
      refine xm_lsub dX10_takeTimes_57 ?_
      refine xm_lload dX10_takeTimes_58 rfl ?_
      refine xm_lsub dX10_takeTimes_60 ?_
      refine xb_topl hf (fun v11 ev11 hf => ?_)
      refine xm_lstore dX10_takeTimes_61 (by decide) (xm_stL (L' := [(9, .long v11), (0, .ref l0), (1, .ref l1), (2, .long l2), (4, .int l4), (5, .long l5), (7, .int l7), (8, .int l8)]) rfl ?_)
      refine xm_aload_n dX10_takeTimes_63 rfl ?_
      refine xb_getR (a := l0) (c := 10) (k := 0) dX10_takeTimes_64 xcl10 (by decide) xw_45 rfl hf (fun x12 ex12 hf => ?_)
      refine xm_iload dX10_takeTimes_67 rfl ?_
      refine xm_iload dX10_takeTimes_69 rfl ?_
      refine xm_iadd dX10_takeTimes_71 ?_
      refine xm_lload dX10_takeTimes_72 rfl ?_
      refine xm_ldc2 dX10_takeTimes_74 (xws_in xw_255) ?_
      refine xm_land dX10_takeTimes_77 ?_
      refine xm_l2i dX10_takeTimes_78 rfl ?_
      refine xb_iast dX10_takeTimes_79 hf (fun σ13 eσ13 hf => ?_)
      refine xm_lload dX10_takeTimes_80 rfl ?_
      refine xm_bipush dX10_takeTimes_82 (v := 30) (by decide) ?_
      refine xm_lshr dX10_takeTimes_84 rfl ?_
      refine xm_lneg dX10_takeTimes_85 ?_
      refine xb_topl hf (fun v14 ev14 hf => ?_)
      refine xm_lstore dX10_takeTimes_86 (by decide) (xm_stL (L' := [(5, .long v14), (9, .long v11), (0, .ref l0), (1, .ref l1), (2, .long l2), (4, .int l4), (7, .int l7), (8, .int l8)]) rfl ?_)
      refine xb_iinc dX10_takeTimes_88 rfl (by decide) (by decide) hf (fun v15 ev15 hf => xm_stL (L' := [(8, .int v15), (5, .long v14), (9, .long v11), (0, .ref l0), (1, .ref l1), (2, .long l2), (4, .int l4), (7, .int l7)]) rfl ?_)
      refine xm_goto 15 dX10_takeTimes_91 (by decide) ?_
      cases hf
      exact xm_sub [3, 4, 5, 6, 1, 7, 0] rfl (hC _ rfl)
theorem L_X10_takeTimes_l15 {G : xG} {π : Nat → Nat} {d C Z : Nat} {Q : xQ} {s0 : (Nat × Nat × Int64 × Int32 × Int64 × Int32 × Int32 × xM)} {x : ((Int64 × xM) ⊕ (Nat × Nat × Int64 × Int32 × Int64 × Int32 × xM))} (h1 : xloop (f_X10_takeTimes_s15) xF s0 = some x) (hR : ∀ g, x = Sum.inl g → Q (.inl (some (.long g.1))) (g.2) π) (hE : ∀ e : (Nat × Nat × Int64 × Int32 × Int64 × Int32 × xM), x = Sum.inr e → xMach G π J_X10_takeTimes (d + 0) C Z 94 [(0, .ref e.1), (1, .ref e.2.1), (2, .long e.2.2.1), (4, .int e.2.2.2.1), (5, .long e.2.2.2.2.1), (7, .int e.2.2.2.2.2.1)] [] e.2.2.2.2.2.2 Q) : xMach G π J_X10_takeTimes (d + 0) C Z 15 [(0, .ref s0.1), (1, .ref s0.2.1), (2, .long s0.2.2.1), (4, .int s0.2.2.2.1), (5, .long s0.2.2.2.2.1), (7, .int s0.2.2.2.2.2.1), (8, .int s0.2.2.2.2.2.2.1)] [] s0.2.2.2.2.2.2.2 Q := by
  refine xloop_run (M := (fun s : (Nat × Nat × Int64 × Int32 × Int64 × Int32 × Int32 × xM) => xMach G π J_X10_takeTimes (d + 0) C Z 15 [(0, .ref s.1), (1, .ref s.2.1), (2, .long s.2.2.1), (4, .int s.2.2.2.1), (5, .long s.2.2.2.2.1), (7, .int s.2.2.2.2.2.1), (8, .int s.2.2.2.2.2.2.1)] [] s.2.2.2.2.2.2.2 Q)) (r := x) ?_ xF _ h1
  intro s y hs hx
  exact L_X10_takeTimes_s15 s.2.2.2.2.2.2.2 s.1 s.2.1 s.2.2.1 s.2.2.2.1 s.2.2.2.2.1 s.2.2.2.2.2.1 s.2.2.2.2.2.2.1 (x := y) hs (fun g hg => by subst hg; exact hR g hx) (fun e he => by subst he; exact hE e hx) (fun e he => by subst he; exact hx)
def f_X10_takeTimes_j243 (σ : xM) (l2 : Int64) : Option (Int64 × xM) :=
  some (l2, σ)
set_option maxHeartbeats 4000000 in
set_option maxRecDepth 20000 in
theorem L_X10_takeTimes_j243 {G : xG} {π : Nat → Nat} {d C Z : Nat} {Q : xQ} (σ : xM) (l2 : Int64) {x : (Int64 × xM)} (hf : f_X10_takeTimes_j243 σ l2 = some x) (hR : ∀ g, x = g → Q (.inl (some (.long g.1))) (g.2) π) : xMach G π J_X10_takeTimes (d + 0) C Z 243 [(2, .long l2)] [] σ Q := by
  unfold f_X10_takeTimes_j243 at hf
  refine xm_lload_n dX10_takeTimes_243 rfl ?_
  cases hf
  exact xm_lret dX10_takeTimes_244 rfl (hR _ rfl)
def f_X10_takeTimes_j220 (σ : xM) (l0 : Nat) (l2 : Int64) (l7 : Int32) (l8 : Int64) : Option (Int64 × xM) :=
  (gI σ l0 10 1).bind (fun x18 => (if x18 ≤ l7 then f_X10_takeTimes_j243 σ l2 else (gR σ l0 10 0).bind (fun x19 => (wI σ x19 l7 (((l8 &&& (1073741823 : Int64))).toInt32)).bind (fun σ20 => f_X10_takeTimes_j243 σ20 l2))))
set_option maxHeartbeats 4000000 in
set_option maxRecDepth 20000 in
theorem L_X10_takeTimes_j220 {G : xG} {π : Nat → Nat} {d C Z : Nat} {Q : xQ} (σ : xM) (l0 : Nat) (l2 : Int64) (l7 : Int32) (l8 : Int64) {x : (Int64 × xM)} (hf : f_X10_takeTimes_j220 σ l0 l2 l7 l8 = some x) (hR : ∀ g, x = g → Q (.inl (some (.long g.1))) (g.2) π) : xMach G π J_X10_takeTimes (d + 0) C Z 220 [(0, .ref l0), (2, .long l2), (7, .int l7), (8, .long l8)] [] σ Q := by
  unfold f_X10_takeTimes_j220 at hf
  refine xm_iload dX10_takeTimes_220 rfl ?_
  refine xm_aload_n dX10_takeTimes_222 rfl ?_
  refine xb_getI (a := l0) (c := 10) (k := 1) dX10_takeTimes_223 xcl10 (by decide) xw_46 rfl hf (fun x18 ex18 hf => ?_)
  refine xb_icmp_ge 243 dX10_takeTimes_226 (by decide) hf (fun c hf => ?_) (fun c hf => ?_)
  · exact xm_sub [1] rfl (L_X10_takeTimes_j243 σ l2 hf hR)
  · refine xm_aload_n dX10_takeTimes_229 rfl ?_
    refine xb_getR (a := l0) (c := 10) (k := 0) dX10_takeTimes_230 xcl10 (by decide) xw_45 rfl hf (fun x19 ex19 hf => ?_)
    refine xm_iload dX10_takeTimes_233 rfl ?_
    refine xm_lload dX10_takeTimes_235 rfl ?_
    refine xm_ldc2 dX10_takeTimes_237 (xws_in xw_255) ?_
    refine xm_land dX10_takeTimes_240 ?_
    refine xm_l2i dX10_takeTimes_241 rfl ?_
    refine xb_iast dX10_takeTimes_242 hf (fun σ20 eσ20 hf => ?_)
    exact xm_sub [1] rfl (L_X10_takeTimes_j243 σ20 l2 hf hR)
def f_X10_takeTimes_s133 (s : (Nat × Nat × Int64 × Int32 × Int32 × Int64 × Int64 × Int32 × xM)) : Option ((Int64 × xM) ⊕ ((Nat × Int64 × Int32 × Int64 × Int64 × xM) ⊕ (Nat × Nat × Int64 × Int32 × Int32 × Int64 × Int64 × Int32 × xM))) :=
  xlet s.1 (fun l0 => xlet s.2.1 (fun l1 => xlet s.2.2.1 (fun l2 => xlet s.2.2.2.1 (fun l4 => xlet s.2.2.2.2.1 (fun l7 => xlet s.2.2.2.2.2.1 (fun l8 => xlet s.2.2.2.2.2.2.1 (fun l10 => xlet s.2.2.2.2.2.2.2.1 (fun l12 => xlet s.2.2.2.2.2.2.2.2 (fun σ => (gI σ l1 10 1).bind (fun x23 => (if x23 ≤ l12 then some (Sum.inr (Sum.inl (l0, l2, l7, l8, l10, σ))) else (gI σ l0 10 1).bind (fun x24 => (if x24 ≤ (l4 + l12) then some (Sum.inr (Sum.inl (l0, l2, l7, l8, l10, σ))) else (gR σ l0 10 0).bind (fun x25 => (aI σ x25 14 (l4 + l12)).bind (fun x26 => (gR σ l1 10 0).bind (fun x27 => (aI σ x27 14 l12).bind (fun x28 => xlet ((((x26).toInt64) + ((x28).toInt64)) + l10) (fun v29 => (gR σ l0 10 0).bind (fun x30 => (wI σ x30 (l4 + l12) (((v29 &&& (1073741823 : Int64))).toInt32)).bind (fun σ31 => xlet (v29 >>> (((30 : Int32)).toInt64 &&& 63)) (fun v32 => xlet (l12 + (1 : Int32)) (fun v33 => some (Sum.inr (Sum.inr (l0, l1, l2, l4, l7, l8, v32, v33, σ31)))))))))))))))))))))))))
set_option maxHeartbeats 4000000 in
set_option maxRecDepth 20000 in
theorem L_X10_takeTimes_s133 {G : xG} {π : Nat → Nat} {d C Z : Nat} {Q : xQ} (σ : xM) (l0 : Nat) (l1 : Nat) (l2 : Int64) (l4 : Int32) (l7 : Int32) (l8 : Int64) (l10 : Int64) (l12 : Int32) {x : ((Int64 × xM) ⊕ ((Nat × Int64 × Int32 × Int64 × Int64 × xM) ⊕ (Nat × Nat × Int64 × Int32 × Int32 × Int64 × Int64 × Int32 × xM)))} (hf : f_X10_takeTimes_s133 (l0, l1, l2, l4, l7, l8, l10, l12, σ) = some x) (hR : ∀ g, x = Sum.inl (g) → Q (.inl (some (.long g.1))) (g.2) π) (hE : ∀ e : (Nat × Int64 × Int32 × Int64 × Int64 × xM), x = Sum.inr (Sum.inl e) → xMach G π J_X10_takeTimes (d + 0) C Z 209 [(0, .ref e.1), (2, .long e.2.1), (7, .int e.2.2.1), (8, .long e.2.2.2.1), (10, .long e.2.2.2.2.1)] [] e.2.2.2.2.2 Q) (hC : ∀ e : (Nat × Nat × Int64 × Int32 × Int32 × Int64 × Int64 × Int32 × xM), x = Sum.inr (Sum.inr e) → xMach G π J_X10_takeTimes (d + 0) C Z 133 [(0, .ref e.1), (1, .ref e.2.1), (2, .long e.2.2.1), (4, .int e.2.2.2.1), (7, .int e.2.2.2.2.1), (8, .long e.2.2.2.2.2.1), (10, .long e.2.2.2.2.2.2.1), (12, .int e.2.2.2.2.2.2.2.1)] [] e.2.2.2.2.2.2.2.2 Q) : xMach G π J_X10_takeTimes (d + 0) C Z 133 [(0, .ref l0), (1, .ref l1), (2, .long l2), (4, .int l4), (7, .int l7), (8, .long l8), (10, .long l10), (12, .int l12)] [] σ Q := by
  have hf : (gI σ l1 10 1).bind (fun x23 => (if x23 ≤ l12 then some (Sum.inr (Sum.inl (l0, l2, l7, l8, l10, σ))) else (gI σ l0 10 1).bind (fun x24 => (if x24 ≤ (l4 + l12) then some (Sum.inr (Sum.inl (l0, l2, l7, l8, l10, σ))) else (gR σ l0 10 0).bind (fun x25 => (aI σ x25 14 (l4 + l12)).bind (fun x26 => (gR σ l1 10 0).bind (fun x27 => (aI σ x27 14 l12).bind (fun x28 => xlet ((((x26).toInt64) + ((x28).toInt64)) + l10) (fun v29 => (gR σ l0 10 0).bind (fun x30 => (wI σ x30 (l4 + l12) (((v29 &&& (1073741823 : Int64))).toInt32)).bind (fun σ31 => xlet (v29 >>> (((30 : Int32)).toInt64 &&& 63)) (fun v32 => xlet (l12 + (1 : Int32)) (fun v33 => some (Sum.inr (Sum.inr (l0, l1, l2, l4, l7, l8, v32, v33, σ31)))))))))))))))) = some x := hf
  refine xm_iload dX10_takeTimes_133 rfl ?_
  refine xm_aload_n dX10_takeTimes_135 rfl ?_
  refine xb_getI (a := l1) (c := 10) (k := 1) dX10_takeTimes_136 xcl10 (by decide) xw_46 rfl hf (fun x23 ex23 hf => ?_)
  refine xb_icmp_ge 209 dX10_takeTimes_139 (by decide) hf (fun c hf => ?_) (fun c hf => ?_)
  · cases hf
    exact xm_sub [0, 2, 4, 5, 6] rfl (hE _ rfl)
  · refine xm_iload dX10_takeTimes_142 rfl ?_
    refine xm_iload dX10_takeTimes_144 rfl ?_
    refine xm_iadd dX10_takeTimes_146 ?_
    refine xm_aload_n dX10_takeTimes_147 rfl ?_
    refine xb_getI (a := l0) (c := 10) (k := 1) dX10_takeTimes_148 xcl10 (by decide) xw_46 rfl hf (fun x24 ex24 hf => ?_)
    refine xb_icmp_ge 209 dX10_takeTimes_151 (by decide) hf (fun c hf => ?_) (fun c hf => ?_)
    · cases hf
      exact xm_sub [0, 2, 4, 5, 6] rfl (hE _ rfl)
    · refine xm_aload_n dX10_takeTimes_154 rfl ?_
      refine xb_getR (a := l0) (c := 10) (k := 0) dX10_takeTimes_155 xcl10 (by decide) xw_45 rfl hf (fun x25 ex25 hf => ?_)
      refine xm_iload dX10_takeTimes_158 rfl ?_
      refine xm_iload dX10_takeTimes_160 rfl ?_
      refine xm_iadd dX10_takeTimes_162 ?_
      refine xb_iald dX10_takeTimes_163 hf (fun x26 ex26 hf => ?_)
      refine xm_i2l dX10_takeTimes_164 rfl ?_
      refine xm_aload_n dX10_takeTimes_165 rfl ?_
      refine xb_getR (a := l1) (c := 10) (k := 0) dX10_takeTimes_166 xcl10 (by decide) xw_45 rfl hf (fun x27 ex27 hf => ?_)
      refine xm_iload dX10_takeTimes_169 rfl ?_
      refine xb_iald dX10_takeTimes_171 hf (fun x28 ex28 hf => ?_)
      refine xm_i2l dX10_takeTimes_172 rfl ?_
      refine xm_ladd dX10_takeTimes_173 ?_
      refine xm_lload dX10_takeTimes_174 rfl ?_
      refine xm_ladd dX10_takeTimes_176 ?_
      refine xb_topl hf (fun v29 ev29 hf => ?_)
      refine xm_lstore dX10_takeTimes_177 (by decide) (xm_stL (L' := [(13, .long v29), (0, .ref l0), (1, .ref l1), (2, .long l2), (4, .int l4), (7, .int l7), (8, .long l8), (10, .long l10), (12, .int l12)]) rfl ?_)
      refine xm_aload_n dX10_takeTimes_179 rfl ?_
      refine xb_getR (a := l0) (c := 10) (k := 0) dX10_takeTimes_180 xcl10 (by decide) xw_45 rfl hf (fun x30 ex30 hf => ?_)
      refine xm_iload dX10_takeTimes_183 rfl ?_
      refine xm_iload dX10_takeTimes_185 rfl ?_
      refine xm_iadd dX10_takeTimes_187 ?_
      refine xm_lload dX10_takeTimes_188 rfl ?_
      refine xm_ldc2 dX10_takeTimes_190 (xws_in xw_255) ?_
      refine xm_land dX10_takeTimes_193 ?_
      refine xm_l2i dX10_takeTimes_194 rfl ?_
      refine xb_iast dX10_takeTimes_195 hf (fun σ31 eσ31 hf => ?_)
      refine xm_lload dX10_takeTimes_196 rfl ?_
      refine xm_bipush dX10_takeTimes_198 (v := 30) (by decide) ?_
      refine xm_lshr dX10_takeTimes_200 rfl ?_
      refine xb_topl hf (fun v32 ev32 hf => ?_)
      refine xm_lstore dX10_takeTimes_201 (by decide) (xm_stL (L' := [(10, .long v32), (13, .long v29), (0, .ref l0), (1, .ref l1), (2, .long l2), (4, .int l4), (7, .int l7), (8, .long l8), (12, .int l12)]) rfl ?_)
      refine xb_iinc dX10_takeTimes_203 rfl (by decide) (by decide) hf (fun v33 ev33 hf => xm_stL (L' := [(12, .int v33), (10, .long v32), (13, .long v29), (0, .ref l0), (1, .ref l1), (2, .long l2), (4, .int l4), (7, .int l7), (8, .long l8)]) rfl ?_)
      refine xm_goto 133 dX10_takeTimes_206 (by decide) ?_
      cases hf
      exact xm_sub [3, 4, 5, 6, 7, 8, 1, 0] rfl (hC _ rfl)
theorem L_X10_takeTimes_l133 {G : xG} {π : Nat → Nat} {d C Z : Nat} {Q : xQ} {s0 : (Nat × Nat × Int64 × Int32 × Int32 × Int64 × Int64 × Int32 × xM)} {x : ((Int64 × xM) ⊕ (Nat × Int64 × Int32 × Int64 × Int64 × xM))} (h1 : xloop (f_X10_takeTimes_s133) xF s0 = some x) (hR : ∀ g, x = Sum.inl g → Q (.inl (some (.long g.1))) (g.2) π) (hE : ∀ e : (Nat × Int64 × Int32 × Int64 × Int64 × xM), x = Sum.inr e → xMach G π J_X10_takeTimes (d + 0) C Z 209 [(0, .ref e.1), (2, .long e.2.1), (7, .int e.2.2.1), (8, .long e.2.2.2.1), (10, .long e.2.2.2.2.1)] [] e.2.2.2.2.2 Q) : xMach G π J_X10_takeTimes (d + 0) C Z 133 [(0, .ref s0.1), (1, .ref s0.2.1), (2, .long s0.2.2.1), (4, .int s0.2.2.2.1), (7, .int s0.2.2.2.2.1), (8, .long s0.2.2.2.2.2.1), (10, .long s0.2.2.2.2.2.2.1), (12, .int s0.2.2.2.2.2.2.2.1)] [] s0.2.2.2.2.2.2.2.2 Q := by
  refine xloop_run (M := (fun s : (Nat × Nat × Int64 × Int32 × Int32 × Int64 × Int64 × Int32 × xM) => xMach G π J_X10_takeTimes (d + 0) C Z 133 [(0, .ref s.1), (1, .ref s.2.1), (2, .long s.2.2.1), (4, .int s.2.2.2.1), (7, .int s.2.2.2.2.1), (8, .long s.2.2.2.2.2.1), (10, .long s.2.2.2.2.2.2.1), (12, .int s.2.2.2.2.2.2.2.1)] [] s.2.2.2.2.2.2.2.2 Q)) (r := x) ?_ xF _ h1
  intro s y hs hx
  exact L_X10_takeTimes_s133 s.2.2.2.2.2.2.2.2 s.1 s.2.1 s.2.2.1 s.2.2.2.1 s.2.2.2.2.1 s.2.2.2.2.2.1 s.2.2.2.2.2.2.1 s.2.2.2.2.2.2.2.1 (x := y) hs (fun g hg => by subst hg; exact hR g hx) (fun e he => by subst he; exact hE e hx) (fun e he => by subst he; exact hx)
def f_X10_takeTimes_j209 (σ : xM) (l0 : Nat) (l2 : Int64) (l7 : Int32) (l8 : Int64) (l10 : Int64) : Option (Int64 × xM) :=
  xlet (l8 + l10) (fun v34 => xlet (l2 - (1 : Int64)) (fun v35 => f_X10_takeTimes_j220 σ l0 v35 l7 v34))
set_option maxHeartbeats 4000000 in
set_option maxRecDepth 20000 in
theorem L_X10_takeTimes_j209 {G : xG} {π : Nat → Nat} {d C Z : Nat} {Q : xQ} (σ : xM) (l0 : Nat) (l2 : Int64) (l7 : Int32) (l8 : Int64) (l10 : Int64) {x : (Int64 × xM)} (hf : f_X10_takeTimes_j209 σ l0 l2 l7 l8 l10 = some x) (hR : ∀ g, x = g → Q (.inl (some (.long g.1))) (g.2) π) : xMach G π J_X10_takeTimes (d + 0) C Z 209 [(0, .ref l0), (2, .long l2), (7, .int l7), (8, .long l8), (10, .long l10)] [] σ Q := by
  unfold f_X10_takeTimes_j209 at hf
  refine xm_lload dX10_takeTimes_209 rfl ?_
  refine xm_lload dX10_takeTimes_211 rfl ?_
  refine xm_ladd dX10_takeTimes_213 ?_
  refine xb_topl hf (fun v34 ev34 hf => ?_)
  refine xm_lstore dX10_takeTimes_214 (by decide) (xm_stL (L' := [(8, .long v34), (0, .ref l0), (2, .long l2), (7, .int l7), (10, .long l10)]) rfl ?_)
  refine xm_lload_n dX10_takeTimes_216 rfl ?_
  refine xm_lconst dX10_takeTimes_217 (v := 1) (by decide) ?_
  refine xm_lsub dX10_takeTimes_218 ?_
  refine xb_topl hf (fun v35 ev35 hf => ?_)
  refine xm_lstore_n dX10_takeTimes_219 (by decide) (xm_stL (L' := [(2, .long v35), (8, .long v34), (0, .ref l0), (7, .int l7), (10, .long l10)]) rfl ?_)
  exact xm_sub [2, 0, 3, 1] rfl (L_X10_takeTimes_j220 σ l0 v35 l7 v34 hf hR)
def f_X10_takeTimes_j114 (σ : xM) (l0 : Nat) (l1 : Nat) (l2 : Int64) (l4 : Int32) (l5 : Int64) (l7 : Int32) (s0 : Int32) : Option (Int64 × xM) :=
  xlet (((s0).toInt64) - l5) (fun v17 => (if (0 : Int32) ≤ (lg_cmp v17 (0 : Int64)) then f_X10_takeTimes_j220 σ l0 l2 l7 v17 else xlet (0 : Int64) (fun v21 => xlet (0 : Int32) (fun v22 => (xloop (f_X10_takeTimes_s133 ) xF (l0, l1, l2, l4, l7, v17, v21, v22, σ)).bind (Sum.elim (fun g => some g) (fun e => f_X10_takeTimes_j209 e.2.2.2.2.2 e.1 e.2.1 e.2.2.1 e.2.2.2.1 e.2.2.2.2.1))))))
set_option maxHeartbeats 4000000 in
set_option maxRecDepth 20000 in
theorem L_X10_takeTimes_j114 {G : xG} {π : Nat → Nat} {d C Z : Nat} {Q : xQ} (σ : xM) (l0 : Nat) (l1 : Nat) (l2 : Int64) (l4 : Int32) (l5 : Int64) (l7 : Int32) (s0 : Int32) {x : (Int64 × xM)} (hf : f_X10_takeTimes_j114 σ l0 l1 l2 l4 l5 l7 s0 = some x) (hR : ∀ g, x = g → Q (.inl (some (.long g.1))) (g.2) π) : xMach G π J_X10_takeTimes (d + 0) C Z 114 [(0, .ref l0), (1, .ref l1), (2, .long l2), (4, .int l4), (5, .long l5), (7, .int l7)] [.int s0] σ Q := by
  unfold f_X10_takeTimes_j114 at hf
  refine xm_i2l dX10_takeTimes_114 rfl ?_
  refine xm_lload dX10_takeTimes_115 rfl ?_
  refine xm_lsub dX10_takeTimes_117 ?_
  refine xb_topl hf (fun v17 ev17 hf => ?_)
  refine xm_lstore dX10_takeTimes_118 (by decide) (xm_stL (L' := [(8, .long v17), (0, .ref l0), (1, .ref l1), (2, .long l2), (4, .int l4), (5, .long l5), (7, .int l7)]) rfl ?_)
  refine xm_lload dX10_takeTimes_120 rfl ?_
  refine xm_lconst dX10_takeTimes_122 (v := 0) (by decide) ?_
  refine xm_lcmp dX10_takeTimes_123 ?_
  refine xb_if_ge 220 dX10_takeTimes_124 (by decide) hf (fun c hf => ?_) (fun c hf => ?_)
  · exact xm_sub [1, 3, 6, 0] rfl (L_X10_takeTimes_j220 σ l0 l2 l7 v17 hf hR)
  · refine xm_lconst dX10_takeTimes_127 (v := 0) (by decide) ?_
    refine xb_topl hf (fun v21 ev21 hf => ?_)
    refine xm_lstore dX10_takeTimes_128 (by decide) (xm_stL (L' := [(10, .long v21), (8, .long v17), (0, .ref l0), (1, .ref l1), (2, .long l2), (4, .int l4), (5, .long l5), (7, .int l7)]) rfl ?_)
    refine xm_iconst dX10_takeTimes_130 (v := 0) (by decide) ?_
    refine xb_topi hf (fun v22 ev22 hf => ?_)
    refine xm_istore dX10_takeTimes_131 (by decide) (xm_stL (L' := [(12, .int v22), (10, .long v21), (8, .long v17), (0, .ref l0), (1, .ref l1), (2, .long l2), (4, .int l4), (5, .long l5), (7, .int l7)]) rfl ?_)
    obtain ⟨o, h1, hf⟩ := xbind hf
    refine xm_sub [3, 4, 5, 6, 8, 2, 1, 0] rfl (L_X10_takeTimes_l133  h1 (fun g hg => ?_) (fun e he => ?_))
    · subst hg
      cases hf
      exact hR _ rfl
    · subst he
      rw [Sum.elim_inr] at hf
      have hf : f_X10_takeTimes_j209 e.2.2.2.2.2 e.1 e.2.1 e.2.2.1 e.2.2.2.1 e.2.2.2.2.1 = some _ := hf
      exact xm_sub [0, 1, 2, 3, 4] rfl (L_X10_takeTimes_j209 e.2.2.2.2.2 e.1 e.2.1 e.2.2.1 e.2.2.2.1 e.2.2.2.2.1 hf hR)
def f_X10_takeTimes_j94 (σ : xM) (l0 : Nat) (l1 : Nat) (l2 : Int64) (l4 : Int32) (l5 : Int64) (l7 : Int32) : Option (Int64 × xM) :=
  (gI σ l0 10 1).bind (fun x16 => (if x16 ≤ l7 then f_X10_takeTimes_j114 σ l0 l1 l2 l4 l5 l7 (0 : Int32) else (gR σ l0 10 0).bind (fun x36 => (aI σ x36 14 l7).bind (fun x37 => f_X10_takeTimes_j114 σ l0 l1 l2 l4 l5 l7 x37))))
set_option maxHeartbeats 4000000 in
set_option maxRecDepth 20000 in
theorem L_X10_takeTimes_j94 {G : xG} {π : Nat → Nat} {d C Z : Nat} {Q : xQ} (σ : xM) (l0 : Nat) (l1 : Nat) (l2 : Int64) (l4 : Int32) (l5 : Int64) (l7 : Int32) {x : (Int64 × xM)} (hf : f_X10_takeTimes_j94 σ l0 l1 l2 l4 l5 l7 = some x) (hR : ∀ g, x = g → Q (.inl (some (.long g.1))) (g.2) π) : xMach G π J_X10_takeTimes (d + 0) C Z 94 [(0, .ref l0), (1, .ref l1), (2, .long l2), (4, .int l4), (5, .long l5), (7, .int l7)] [] σ Q := by
  unfold f_X10_takeTimes_j94 at hf
  refine xm_iload dX10_takeTimes_94 rfl ?_
  refine xm_aload_n dX10_takeTimes_96 rfl ?_
  refine xb_getI (a := l0) (c := 10) (k := 1) dX10_takeTimes_97 xcl10 (by decide) xw_46 rfl hf (fun x16 ex16 hf => ?_)
  refine xb_icmp_ge 113 dX10_takeTimes_100 (by decide) hf (fun c hf => ?_) (fun c hf => ?_)
  · refine xm_iconst dX10_takeTimes_113 (v := 0) (by decide) ?_
    exact xm_sub [0, 1, 2, 3, 4, 5] rfl (L_X10_takeTimes_j114 σ l0 l1 l2 l4 l5 l7 (0 : Int32) hf hR)
  · refine xm_aload_n dX10_takeTimes_103 rfl ?_
    refine xb_getR (a := l0) (c := 10) (k := 0) dX10_takeTimes_104 xcl10 (by decide) xw_45 rfl hf (fun x36 ex36 hf => ?_)
    refine xm_iload dX10_takeTimes_107 rfl ?_
    refine xb_iald dX10_takeTimes_109 hf (fun x37 ex37 hf => ?_)
    refine xm_goto 114 dX10_takeTimes_110 (by decide) ?_
    exact xm_sub [0, 1, 2, 3, 4, 5] rfl (L_X10_takeTimes_j114 σ l0 l1 l2 l4 l5 l7 x37 hf hR)
def f_X10_takeTimes (σ : xM) (l0 : Nat) (l1 : Nat) (l2 : Int64) (l4 : Int32) : Option (Int64 × xM) :=
  xlet (0 : Int64) (fun v1 => (gI σ l1 10 1).bind (fun x2 => xlet (l4 + x2) (fun v3 => xlet (0 : Int32) (fun v4 => (xloop (f_X10_takeTimes_s15 ) xF (l0, l1, l2, l4, v1, v3, v4, σ)).bind (Sum.elim (fun g => some g) (fun e => f_X10_takeTimes_j94 e.2.2.2.2.2.2 e.1 e.2.1 e.2.2.1 e.2.2.2.1 e.2.2.2.2.1 e.2.2.2.2.2.1))))))
set_option maxHeartbeats 4000000 in
set_option maxRecDepth 20000 in
theorem m_X10_takeTimes {G : xG} {π : Nat → Nat} {d C Z : Nat} {Q : xQ} {σ : xM} {l0 : Nat} {l1 : Nat} {l2 : Int64} {l4 : Int32} {x : (Int64 × xM)} (hf : f_X10_takeTimes σ l0 l1 l2 l4 = some x) (hR : ∀ g, x = g → Q (.inl (some (.long g.1))) (g.2) π) : xMach G π J_X10_takeTimes (d + 0) C Z 0 (lv_args 0 [.ref l0, .ref l1, .long l2, .int l4]) [] σ Q := by
  unfold f_X10_takeTimes at hf
  refine xm_stL (L' := [(0, .ref l0), (1, .ref l1), (2, .long l2), (4, .int l4)]) rfl ?_
  refine xm_lconst dX10_takeTimes_0 (v := 0) (by decide) ?_
  refine xb_topl hf (fun v1 ev1 hf => ?_)
  refine xm_lstore dX10_takeTimes_1 (by decide) (xm_stL (L' := [(5, .long v1), (0, .ref l0), (1, .ref l1), (2, .long l2), (4, .int l4)]) rfl ?_)
  refine xm_iload dX10_takeTimes_3 rfl ?_
  refine xm_aload_n dX10_takeTimes_5 rfl ?_
  refine xb_getI (a := l1) (c := 10) (k := 1) dX10_takeTimes_6 xcl10 (by decide) xw_46 rfl hf (fun x2 ex2 hf => ?_)
  refine xm_iadd dX10_takeTimes_9 ?_
  refine xb_topi hf (fun v3 ev3 hf => ?_)
  refine xm_istore dX10_takeTimes_10 (by decide) (xm_stL (L' := [(7, .int v3), (5, .long v1), (0, .ref l0), (1, .ref l1), (2, .long l2), (4, .int l4)]) rfl ?_)
  refine xm_iconst dX10_takeTimes_12 (v := 0) (by decide) ?_
  refine xb_topi hf (fun v4 ev4 hf => ?_)
  refine xm_istore dX10_takeTimes_13 (by decide) (xm_stL (L' := [(8, .int v4), (7, .int v3), (5, .long v1), (0, .ref l0), (1, .ref l1), (2, .long l2), (4, .int l4)]) rfl ?_)
  obtain ⟨o, h1, hf⟩ := xbind hf
  refine xm_sub [3, 4, 5, 6, 2, 1, 0] rfl (L_X10_takeTimes_l15  h1 (fun g hg => ?_) (fun e he => ?_))
  · subst hg
    cases hf
    exact hR _ rfl
  · subst he
    rw [Sum.elim_inr] at hf
    have hf : f_X10_takeTimes_j94 e.2.2.2.2.2.2 e.1 e.2.1 e.2.2.1 e.2.2.2.1 e.2.2.2.2.1 e.2.2.2.2.2.1 = some _ := hf
    exact xm_sub [0, 1, 2, 3, 4, 5] rfl (L_X10_takeTimes_j94 e.2.2.2.2.2.2 e.1 e.2.1 e.2.2.1 e.2.2.2.1 e.2.2.2.2.1 e.2.2.2.2.2.1 hf hR)
-- Rankwise$Whole.divideBy(LRankwise$Whole;LRankwise$Whole;)V
def f_X10_divideBy_j27 (σ : xM)  : Option xM :=
  some σ
set_option maxHeartbeats 4000000 in
set_option maxRecDepth 20000 in
theorem L_X10_divideBy_j27 {G : xG} {π : Nat → Nat} {d C Z : Nat} {Q : xQ} (σ : xM)  {x : xM} (hf : f_X10_divideBy_j27 σ = some x) (hR : ∀ g, x = g → Q (.inl none) (g) π) : xMach G π J_X10_divideBy (d + 1) C Z 27 [] [] σ Q := by
  unfold f_X10_divideBy_j27 at hf
  cases hf
  exact xm_vret dX10_divideBy_27 rfl (hR _ rfl)
def f_X10_divideBy_s78 (s : (Nat × Nat × Nat × Int32 × Int32 × Int32 × xM)) : Option (xM ⊕ ((Nat × Nat × Int32 × xM) ⊕ (Nat × Nat × Nat × Int32 × Int32 × Int32 × xM))) :=
  xlet s.1 (fun l0 => xlet s.2.1 (fun l1 => xlet s.2.2.1 (fun l2 => xlet s.2.2.2.1 (fun l3 => xlet s.2.2.2.2.1 (fun l4 => xlet s.2.2.2.2.2.1 (fun l5 => xlet s.2.2.2.2.2.2 (fun σ => (if l5 < (0 : Int32) then some (Sum.inr (Sum.inl (l0, l2, l4, σ))) else (if xk σ l0 10 = true then (f_X10_guess σ l0 l1 (l5 + l3)).bind (fun p10 => (gR σ l2 10 0).bind (fun x11 => (if xk σ l0 10 = true then (f_X10_takeTimes σ l0 l1 p10 l5).bind (fun p12 => (wI p12.2 x11 l5 ((p12.1).toInt32)).bind (fun σ13 => xlet (l5 + (-1 : Int32)) (fun v14 => some (Sum.inr (Sum.inr (l0, l1, l2, l3, l4, v14, σ13)))))) else none))) else none)))))))))
set_option maxHeartbeats 4000000 in
set_option maxRecDepth 20000 in
theorem L_X10_divideBy_s78 {G : xG} {π : Nat → Nat} {d C Z : Nat} {Q : xQ} (σ : xM) (l0 : Nat) (l1 : Nat) (l2 : Nat) (l3 : Int32) (l4 : Int32) (l5 : Int32) {x : (xM ⊕ ((Nat × Nat × Int32 × xM) ⊕ (Nat × Nat × Nat × Int32 × Int32 × Int32 × xM)))} (hf : f_X10_divideBy_s78 (l0, l1, l2, l3, l4, l5, σ) = some x) (hR : ∀ g, x = Sum.inl (g) → Q (.inl none) (g) π) (hE : ∀ e : (Nat × Nat × Int32 × xM), x = Sum.inr (Sum.inl e) → xMach G π J_X10_divideBy (d + 1) C Z 117 [(0, .ref e.1), (2, .ref e.2.1), (4, .int e.2.2.1)] [] e.2.2.2 Q) (hC : ∀ e : (Nat × Nat × Nat × Int32 × Int32 × Int32 × xM), x = Sum.inr (Sum.inr e) → xMach G π J_X10_divideBy (d + 1) C Z 78 [(0, .ref e.1), (1, .ref e.2.1), (2, .ref e.2.2.1), (3, .int e.2.2.2.1), (4, .int e.2.2.2.2.1), (5, .int e.2.2.2.2.2.1)] [] e.2.2.2.2.2.2 Q) : xMach G π J_X10_divideBy (d + 1) C Z 78 [(0, .ref l0), (1, .ref l1), (2, .ref l2), (3, .int l3), (4, .int l4), (5, .int l5)] [] σ Q := by
  have hf : (if l5 < (0 : Int32) then some (Sum.inr (Sum.inl (l0, l2, l4, σ))) else (if xk σ l0 10 = true then (f_X10_guess σ l0 l1 (l5 + l3)).bind (fun p10 => (gR σ l2 10 0).bind (fun x11 => (if xk σ l0 10 = true then (f_X10_takeTimes σ l0 l1 p10 l5).bind (fun p12 => (wI p12.2 x11 l5 ((p12.1).toInt32)).bind (fun σ13 => xlet (l5 + (-1 : Int32)) (fun v14 => some (Sum.inr (Sum.inr (l0, l1, l2, l3, l4, v14, σ13)))))) else none))) else none)) = some x := hf
  refine xm_iload dX10_divideBy_78 rfl ?_
  refine xb_if_lt 117 dX10_divideBy_80 (by decide) hf (fun c hf => ?_) (fun c hf => ?_)
  · cases hf
    exact xm_sub [0, 2, 4] rfl (hE _ rfl)
  · refine xm_aload_n dX10_divideBy_83 rfl ?_
    refine xm_aload_n dX10_divideBy_84 rfl ?_
    refine xm_iload dX10_divideBy_85 rfl ?_
    refine xm_iload_n dX10_divideBy_87 rfl ?_
    refine xm_iadd dX10_divideBy_88 ?_
    refine xb_if hf (fun hb hf => ?_) (fun _ q => nomatch q)
    obtain ⟨p10, ep10, hf⟩ := xbind hf
    refine xb_callV (As := [.ref l1, .int (l5 + l3)]) (v0 := (some (.long p10))) (τ0 := σ) dX10_divideBy_89 (xc_X10_guess _ _) xcl10 xw_1106 xw_1108 xs_36 hb rfl (Nat.le_of_ble_eq_true rfl) rfl (Nat.le_of_ble_eq_true rfl) (fun Q1 hq => m_X10_guess (d := d + 0) ep10 (fun g hg => by subst hg; exact hq)) ?_
    refine xm_lstore dX10_divideBy_92 (by decide) (xm_stL (L' := [(6, .long p10), (0, .ref l0), (1, .ref l1), (2, .ref l2), (3, .int l3), (4, .int l4), (5, .int l5)]) rfl ?_)
    refine xm_aload_n dX10_divideBy_94 rfl ?_
    refine xb_getR (a := l2) (c := 10) (k := 0) dX10_divideBy_95 xcl10 (by decide) xw_45 rfl hf (fun x11 ex11 hf => ?_)
    refine xm_iload dX10_divideBy_98 rfl ?_
    refine xm_aload_n dX10_divideBy_100 rfl ?_
    refine xm_aload_n dX10_divideBy_101 rfl ?_
    refine xm_lload dX10_divideBy_102 rfl ?_
    refine xm_iload dX10_divideBy_104 rfl ?_
    refine xb_if hf (fun hb hf => ?_) (fun _ q => nomatch q)
    obtain ⟨p12, ep12, hf⟩ := xbind hf
    refine xb_callV (As := [.ref l1, .long p10, .int l5]) (v0 := (some (.long p12.1))) (τ0 := p12.2) dX10_divideBy_106 (xc_X10_takeTimes _ _) xcl10 xw_1110 xw_1112 xs_37 hb rfl (Nat.le_of_ble_eq_true rfl) rfl (Nat.le_of_ble_eq_true rfl) (fun Q1 hq => m_X10_takeTimes (d := d + 0) ep12 (fun g hg => by subst hg; exact hq)) ?_
    refine xm_l2i dX10_divideBy_109 rfl ?_
    refine xb_iast dX10_divideBy_110 hf (fun σ13 eσ13 hf => ?_)
    refine xb_iinc dX10_divideBy_111 rfl (by decide) (by decide) hf (fun v14 ev14 hf => xm_stL (L' := [(5, .int v14), (6, .long p10), (0, .ref l0), (1, .ref l1), (2, .ref l2), (3, .int l3), (4, .int l4)]) rfl ?_)
    refine xm_goto 78 dX10_divideBy_114 (by decide) ?_
    cases hf
    exact xm_sub [2, 3, 4, 5, 6, 0] rfl (hC _ rfl)
theorem L_X10_divideBy_l78 {G : xG} {π : Nat → Nat} {d C Z : Nat} {Q : xQ} {s0 : (Nat × Nat × Nat × Int32 × Int32 × Int32 × xM)} {x : (xM ⊕ (Nat × Nat × Int32 × xM))} (h1 : xloop (f_X10_divideBy_s78) xF s0 = some x) (hR : ∀ g, x = Sum.inl g → Q (.inl none) (g) π) (hE : ∀ e : (Nat × Nat × Int32 × xM), x = Sum.inr e → xMach G π J_X10_divideBy (d + 1) C Z 117 [(0, .ref e.1), (2, .ref e.2.1), (4, .int e.2.2.1)] [] e.2.2.2 Q) : xMach G π J_X10_divideBy (d + 1) C Z 78 [(0, .ref s0.1), (1, .ref s0.2.1), (2, .ref s0.2.2.1), (3, .int s0.2.2.2.1), (4, .int s0.2.2.2.2.1), (5, .int s0.2.2.2.2.2.1)] [] s0.2.2.2.2.2.2 Q := by
  refine xloop_run (M := (fun s : (Nat × Nat × Nat × Int32 × Int32 × Int32 × xM) => xMach G π J_X10_divideBy (d + 1) C Z 78 [(0, .ref s.1), (1, .ref s.2.1), (2, .ref s.2.2.1), (3, .int s.2.2.2.1), (4, .int s.2.2.2.2.1), (5, .int s.2.2.2.2.2.1)] [] s.2.2.2.2.2.2 Q)) (r := x) ?_ xF _ h1
  intro s y hs hx
  exact L_X10_divideBy_s78 s.2.2.2.2.2.2 s.1 s.2.1 s.2.2.1 s.2.2.2.1 s.2.2.2.2.1 s.2.2.2.2.2.1 (x := y) hs (fun g hg => by subst hg; exact hR g hx) (fun e he => by subst he; exact hE e hx) (fun e he => by subst he; exact hx)
def f_X10_divideBy_j117 (σ : xM) (l0 : Nat) (l2 : Nat) (l4 : Int32) : Option xM :=
  (if xk σ l2 10 = true then (f_X10_trim σ l2 l4).bind (fun p15 => (gI p15 l0 10 1).bind (fun x16 => (if xk p15 l0 10 = true then (f_X10_trim p15 l0 x16).bind (fun p17 => some p17) else none))) else none)
set_option maxHeartbeats 4000000 in
set_option maxRecDepth 20000 in
theorem L_X10_divideBy_j117 {G : xG} {π : Nat → Nat} {d C Z : Nat} {Q : xQ} (σ : xM) (l0 : Nat) (l2 : Nat) (l4 : Int32) {x : xM} (hf : f_X10_divideBy_j117 σ l0 l2 l4 = some x) (hR : ∀ g, x = g → Q (.inl none) (g) π) : xMach G π J_X10_divideBy (d + 1) C Z 117 [(0, .ref l0), (2, .ref l2), (4, .int l4)] [] σ Q := by
  unfold f_X10_divideBy_j117 at hf
  refine xm_aload_n dX10_divideBy_117 rfl ?_
  refine xm_iload dX10_divideBy_118 rfl ?_
  refine xb_if hf (fun hb hf => ?_) (fun _ q => nomatch q)
  obtain ⟨p15, ep15, hf⟩ := xbind hf
  refine xb_callV (As := [.int l4]) (v0 := none) (τ0 := p15) dX10_divideBy_120 (xc_X10_trim _ _) xcl10 xw_1050 xw_1052 xs_32 hb rfl (Nat.le_of_ble_eq_true rfl) rfl (Nat.le_of_ble_eq_true rfl) (fun Q1 hq => m_X10_trim (d := d + 0) ep15 (fun g hg => by subst hg; exact hq)) ?_
  refine xm_aload_n dX10_divideBy_123 rfl ?_
  refine xm_aload_n dX10_divideBy_124 rfl ?_
  refine xb_getI (a := l0) (c := 10) (k := 1) dX10_divideBy_125 xcl10 (by decide) xw_46 rfl hf (fun x16 ex16 hf => ?_)
  refine xb_if hf (fun hb hf => ?_) (fun _ q => nomatch q)
  obtain ⟨p17, ep17, hf⟩ := xbind hf
  refine xb_callV (As := [.int x16]) (v0 := none) (τ0 := p17) dX10_divideBy_128 (xc_X10_trim _ _) xcl10 xw_1050 xw_1052 xs_32 hb rfl (Nat.le_of_ble_eq_true rfl) rfl (Nat.le_of_ble_eq_true rfl) (fun Q1 hq => m_X10_trim (d := d + 0) ep17 (fun g hg => by subst hg; exact hq)) ?_
  cases hf
  exact xm_vret dX10_divideBy_131 rfl (hR _ rfl)
def f_X10_divideBy (σ : xM) (l0 : Nat) (l1 : Nat) (l2 : Nat) : Option xM :=
  (sZ σ l0 10 2 (0 : Int32)).bind (fun σ1 => (if xk σ1 l2 10 = true then (f_X10_set σ1 l2 (0 : Int64)).bind (fun p2 => (gI p2 l1 10 1).bind (fun x3 => (if x3 = (0 : Int32) then f_X10_divideBy_j27 p2 else (f_X10_compareSizes p2 l0 l1).bind (fun p4 => (if (0 : Int32) ≤ p4 then (if x3 = (1 : Int32) then (if xk p2 l2 10 = true then (f_X10_copySize p2 l2 l0).bind (fun p18 => (gR p18 l1 10 0).bind (fun x19 => (aI p18 x19 14 (0 : Int32)).bind (fun x20 => (if xk p18 l2 10 = true then (f_X10_shrink p18 l2 x20).bind (fun p21 => (if xk p21.2 l0 10 = true then (f_X10_set p21.2 l0 ((p21.1).toInt64)).bind (fun p22 => some p22) else none)) else none)))) else none) else (gI p2 l0 10 1).bind (fun x5 => (gR p2 l2 10 0).bind (fun x6 => (gL p2 x6 14).bind (fun x7 => xlet (if x7 < ((x5 - x3) + (1 : Int32)) then x7 else ((x5 - x3) + (1 : Int32))) (fun v8 => xlet (v8 - (1 : Int32)) (fun v9 => (xloop (f_X10_divideBy_s78 ) xF (l0, l1, l2, x3, v8, v9, p2)).bind (Sum.elim (fun g => some g) (fun e => f_X10_divideBy_j117 e.2.2.2 e.1 e.2.1 e.2.2.1)))))))) else f_X10_divideBy_j27 p2))))) else none))
set_option maxHeartbeats 4000000 in
set_option maxRecDepth 20000 in
theorem m_X10_divideBy {G : xG} {π : Nat → Nat} {d C Z : Nat} {Q : xQ} {σ : xM} {l0 : Nat} {l1 : Nat} {l2 : Nat} {x : xM} (hf : f_X10_divideBy σ l0 l1 l2 = some x) (hR : ∀ g, x = g → Q (.inl none) (g) π) : xMach G π J_X10_divideBy (d + 1) C Z 0 (lv_args 0 [.ref l0, .ref l1, .ref l2]) [] σ Q := by
  unfold f_X10_divideBy at hf
  refine xm_stL (L' := [(0, .ref l0), (1, .ref l1), (2, .ref l2)]) rfl ?_
  refine xm_aload_n dX10_divideBy_0 rfl ?_
  refine xm_iconst dX10_divideBy_1 (v := 0) (by decide) ?_
  refine xb_putZ (a := l0) (c := 10) (k := 2) dX10_divideBy_2 xcl10 (by decide) xw_47 rfl rfl hf (fun σ1 eσ1 hf => ?_)
  refine xm_aload_n dX10_divideBy_5 rfl ?_
  refine xm_lconst dX10_divideBy_6 (v := 0) (by decide) ?_
  refine xb_if hf (fun hb hf => ?_) (fun _ q => nomatch q)
  obtain ⟨p2, ep2, hf⟩ := xbind hf
  refine xb_callV (As := [.long (0 : Int64)]) (v0 := none) (τ0 := p2) dX10_divideBy_7 (xc_X10_set _ _) xcl10 xw_1101 xw_252 xw_253 hb rfl (Nat.le_of_ble_eq_true rfl) rfl (Nat.le_of_ble_eq_true rfl) (fun Q1 hq => m_X10_set (d := d + 0) ep2 (fun g hg => by subst hg; exact hq)) ?_
  refine xm_aload_n dX10_divideBy_10 rfl ?_
  refine xb_getI (a := l1) (c := 10) (k := 1) dX10_divideBy_11 xcl10 (by decide) xw_46 rfl hf (fun x3 ex3 hf => ?_)
  refine xm_istore_n dX10_divideBy_14 (by decide) (xm_stL (L' := [(3, .int x3), (0, .ref l0), (1, .ref l1), (2, .ref l2)]) rfl ?_)
  refine xm_iload_n dX10_divideBy_15 rfl ?_
  refine xb_if_eq 27 dX10_divideBy_16 (by decide) hf (fun c hf => ?_) (fun c hf => ?_)
  · exact xm_sub [] rfl (L_X10_divideBy_j27 p2 hf hR)
  · refine xm_aload_n dX10_divideBy_19 rfl ?_
    refine xm_aload_n dX10_divideBy_20 rfl ?_
    obtain ⟨p4, ep4, hf⟩ := xbind hf
    refine xb_callS (As := [.ref l0, .ref l1]) (v0 := (some (.int p4))) (τ0 := p2) dX10_divideBy_21 (xc_X10_compareSizes _ _) xw_1046 xw_1047 rfl (Nat.le_of_ble_eq_true rfl) rfl (Nat.le_of_ble_eq_true rfl) (fun Q1 hq => m_X10_compareSizes (d := d + 0) ep4 (fun g hg => by subst hg; exact hq)) ?_
    refine xb_if_ge 28 dX10_divideBy_24 (by decide) hf (fun c hf => ?_) (fun c hf => ?_)
    · refine xm_iload_n dX10_divideBy_28 rfl ?_
      refine xm_iconst dX10_divideBy_29 (v := 1) (by decide) ?_
      refine xb_icmp_ne 54 dX10_divideBy_30 (by decide) hf (fun c hf => ?_) (fun c hf => ?_)
      · refine xm_aload_n dX10_divideBy_54 rfl ?_
        refine xb_getI (a := l0) (c := 10) (k := 1) dX10_divideBy_55 xcl10 (by decide) xw_46 rfl hf (fun x5 ex5 hf => ?_)
        refine xm_iload_n dX10_divideBy_58 rfl ?_
        refine xm_isub dX10_divideBy_59 ?_
        refine xm_iconst dX10_divideBy_60 (v := 1) (by decide) ?_
        refine xm_iadd dX10_divideBy_61 ?_
        refine xm_aload_n dX10_divideBy_62 rfl ?_
        refine xb_getR (a := l2) (c := 10) (k := 0) dX10_divideBy_63 xcl10 (by decide) xw_45 rfl hf (fun x6 ex6 hf => ?_)
        refine xb_alen dX10_divideBy_66 (by decide) (by decide) hf (fun x7 ex7 hf => ?_)
        refine xm_min dX10_divideBy_67 xw_1049 xw_120 xw_7 xw_121 (Nat.le_of_ble_eq_true rfl) ?_
        refine xb_topi hf (fun v8 ev8 hf => ?_)
        refine xm_istore dX10_divideBy_70 (by decide) (xm_stL (L' := [(4, .int v8), (3, .int x3), (0, .ref l0), (1, .ref l1), (2, .ref l2)]) rfl ?_)
        refine xm_iload dX10_divideBy_72 rfl ?_
        refine xm_iconst dX10_divideBy_74 (v := 1) (by decide) ?_
        refine xm_isub dX10_divideBy_75 ?_
        refine xb_topi hf (fun v9 ev9 hf => ?_)
        refine xm_istore dX10_divideBy_76 (by decide) (xm_stL (L' := [(5, .int v9), (4, .int v8), (3, .int x3), (0, .ref l0), (1, .ref l1), (2, .ref l2)]) rfl ?_)
        obtain ⟨o, h1, hf⟩ := xbind hf
        refine xm_sub [3, 4, 5, 2, 1, 0] rfl (L_X10_divideBy_l78  h1 (fun g hg => ?_) (fun e he => ?_))
        · subst hg
          cases hf
          exact hR _ rfl
        · subst he
          rw [Sum.elim_inr] at hf
          have hf : f_X10_divideBy_j117 e.2.2.2 e.1 e.2.1 e.2.2.1 = some _ := hf
          exact xm_sub [0, 1, 2] rfl (L_X10_divideBy_j117 e.2.2.2 e.1 e.2.1 e.2.2.1 hf hR)
      · refine xm_aload_n dX10_divideBy_33 rfl ?_
        refine xm_aload_n dX10_divideBy_34 rfl ?_
        refine xb_if hf (fun hb hf => ?_) (fun _ q => nomatch q)
        obtain ⟨p18, ep18, hf⟩ := xbind hf
        refine xb_callV (As := [.ref l0]) (v0 := none) (τ0 := p18) dX10_divideBy_35 (xc_X10_copySize _ _) xcl10 xw_972 xw_973 xw_974 hb rfl (Nat.le_of_ble_eq_true rfl) rfl (Nat.le_of_ble_eq_true rfl) (fun Q1 hq => m_X10_copySize (d := d + 0) ep18 (fun g hg => by subst hg; exact hq)) ?_
        refine xm_aload_n dX10_divideBy_38 rfl ?_
        refine xm_aload_n dX10_divideBy_39 rfl ?_
        refine xm_aload_n dX10_divideBy_40 rfl ?_
        refine xb_getR (a := l1) (c := 10) (k := 0) dX10_divideBy_41 xcl10 (by decide) xw_45 rfl hf (fun x19 ex19 hf => ?_)
        refine xm_iconst dX10_divideBy_44 (v := 0) (by decide) ?_
        refine xb_iald dX10_divideBy_45 hf (fun x20 ex20 hf => ?_)
        refine xb_if hf (fun hb hf => ?_) (fun _ q => nomatch q)
        obtain ⟨p21, ep21, hf⟩ := xbind hf
        refine xb_callV (As := [.int x20]) (v0 := (some (.int p21.1))) (τ0 := p21.2) dX10_divideBy_46 (xc_X10_shrink _ _) xcl10 xw_1102 xw_1103 xw_1104 hb rfl (Nat.le_of_ble_eq_true rfl) rfl (Nat.le_of_ble_eq_true rfl) (fun Q1 hq => m_X10_shrink (d := d + 0) ep21 (fun g hg => by subst hg; exact hq)) ?_
        refine xm_i2l dX10_divideBy_49 rfl ?_
        refine xb_if hf (fun hb hf => ?_) (fun _ q => nomatch q)
        obtain ⟨p22, ep22, hf⟩ := xbind hf
        refine xb_callV (As := [.long ((p21.1).toInt64)]) (v0 := none) (τ0 := p22) dX10_divideBy_50 (xc_X10_set _ _) xcl10 xw_1101 xw_252 xw_253 hb rfl (Nat.le_of_ble_eq_true rfl) rfl (Nat.le_of_ble_eq_true rfl) (fun Q1 hq => m_X10_set (d := d + 0) ep22 (fun g hg => by subst hg; exact hq)) ?_
        cases hf
        exact xm_vret dX10_divideBy_53 rfl (hR _ rfl)
    · exact xm_sub [] rfl (L_X10_divideBy_j27 p2 hf hR)
-- Rankwise$Whole.shortSize()J
def f_X10_shortSize_j43 (σ : xM) (s0 : Int64) : Option Int64 :=
  some s0
set_option maxHeartbeats 4000000 in
set_option maxRecDepth 20000 in
theorem L_X10_shortSize_j43 {G : xG} {π : Nat → Nat} {d C Z : Nat} {Q : xQ} (σ : xM) (s0 : Int64) {x : Int64} (hf : f_X10_shortSize_j43 σ s0 = some x) (hR : ∀ g, x = g → Q (.inl (some (.long g))) (σ) π) : xMach G π J_X10_shortSize (d + 0) C Z 43 [] [.long s0] σ Q := by
  unfold f_X10_shortSize_j43 at hf
  cases hf
  exact xm_lret dX10_shortSize_43 rfl (hR _ rfl)
def f_X10_shortSize_j18 (σ : xM) (l0 : Nat) (s0 : Int64) : Option Int64 :=
  (gI σ l0 10 1).bind (fun x2 => (if x2 ≤ (1 : Int32) then f_X10_shortSize_j43 σ s0 else (gR σ l0 10 0).bind (fun x3 => (aI σ x3 14 (1 : Int32)).bind (fun x4 => f_X10_shortSize_j43 σ ((((x4).toInt64) <<< (((30 : Int32)).toInt64 &&& 63)) ||| s0)))))
set_option maxHeartbeats 4000000 in
set_option maxRecDepth 20000 in
theorem L_X10_shortSize_j18 {G : xG} {π : Nat → Nat} {d C Z : Nat} {Q : xQ} (σ : xM) (l0 : Nat) (s0 : Int64) {x : Int64} (hf : f_X10_shortSize_j18 σ l0 s0 = some x) (hR : ∀ g, x = g → Q (.inl (some (.long g))) (σ) π) : xMach G π J_X10_shortSize (d + 0) C Z 18 [(0, .ref l0)] [.long s0] σ Q := by
  unfold f_X10_shortSize_j18 at hf
  refine xm_lstore_n dX10_shortSize_18 (by decide) (xm_stL (L' := [(1, .long s0), (0, .ref l0)]) rfl ?_)
  refine xm_aload_n dX10_shortSize_19 rfl ?_
  refine xb_getI (a := l0) (c := 10) (k := 1) dX10_shortSize_20 xcl10 (by decide) xw_46 rfl hf (fun x2 ex2 hf => ?_)
  refine xm_iconst dX10_shortSize_23 (v := 1) (by decide) ?_
  refine xb_icmp_le 42 dX10_shortSize_24 (by decide) hf (fun c hf => ?_) (fun c hf => ?_)
  · refine xm_lload_n dX10_shortSize_42 rfl ?_
    exact xm_sub [] rfl (L_X10_shortSize_j43 σ s0 hf hR)
  · refine xm_aload_n dX10_shortSize_27 rfl ?_
    refine xb_getR (a := l0) (c := 10) (k := 0) dX10_shortSize_28 xcl10 (by decide) xw_45 rfl hf (fun x3 ex3 hf => ?_)
    refine xm_iconst dX10_shortSize_31 (v := 1) (by decide) ?_
    refine xb_iald dX10_shortSize_32 hf (fun x4 ex4 hf => ?_)
    refine xm_i2l dX10_shortSize_33 rfl ?_
    refine xm_bipush dX10_shortSize_34 (v := 30) (by decide) ?_
    refine xm_lshl dX10_shortSize_36 rfl ?_
    refine xm_lload_n dX10_shortSize_37 rfl ?_
    refine xm_lor dX10_shortSize_38 ?_
    refine xm_goto 43 dX10_shortSize_39 (by decide) ?_
    exact xm_sub [] rfl (L_X10_shortSize_j43 σ ((((x4).toInt64) <<< (((30 : Int32)).toInt64 &&& 63)) ||| s0) hf hR)
def f_X10_shortSize (σ : xM) (l0 : Nat) : Option Int64 :=
  (gI σ l0 10 1).bind (fun x1 => (if x1 ≤ (0 : Int32) then f_X10_shortSize_j18 σ l0 (0 : Int64) else (gR σ l0 10 0).bind (fun x5 => (aI σ x5 14 (0 : Int32)).bind (fun x6 => f_X10_shortSize_j18 σ l0 ((x6).toInt64)))))
set_option maxHeartbeats 4000000 in
set_option maxRecDepth 20000 in
theorem m_X10_shortSize {G : xG} {π : Nat → Nat} {d C Z : Nat} {Q : xQ} {σ : xM} {l0 : Nat} {x : Int64} (hf : f_X10_shortSize σ l0 = some x) (hR : ∀ g, x = g → Q (.inl (some (.long g))) (σ) π) : xMach G π J_X10_shortSize (d + 0) C Z 0 (lv_args 0 [.ref l0]) [] σ Q := by
  unfold f_X10_shortSize at hf
  refine xm_stL (L' := [(0, .ref l0)]) rfl ?_
  refine xm_aload_n dX10_shortSize_0 rfl ?_
  refine xb_getI (a := l0) (c := 10) (k := 1) dX10_shortSize_1 xcl10 (by decide) xw_46 rfl hf (fun x1 ex1 hf => ?_)
  refine xb_if_le 17 dX10_shortSize_4 (by decide) hf (fun c hf => ?_) (fun c hf => ?_)
  · refine xm_lconst dX10_shortSize_17 (v := 0) (by decide) ?_
    exact xm_sub [0] rfl (L_X10_shortSize_j18 σ l0 (0 : Int64) hf hR)
  · refine xm_aload_n dX10_shortSize_7 rfl ?_
    refine xb_getR (a := l0) (c := 10) (k := 0) dX10_shortSize_8 xcl10 (by decide) xw_45 rfl hf (fun x5 ex5 hf => ?_)
    refine xm_iconst dX10_shortSize_11 (v := 0) (by decide) ?_
    refine xb_iald dX10_shortSize_12 hf (fun x6 ex6 hf => ?_)
    refine xm_i2l dX10_shortSize_13 rfl ?_
    refine xm_goto 18 dX10_shortSize_14 (by decide) ?_
    exact xm_sub [0] rfl (L_X10_shortSize_j18 σ l0 ((x6).toInt64) hf hR)
-- Rankwise$Whole.bits()I
def f_X10_bits_s31 (σ : xM) (s : (Int32 × Int32)) : Option (Int32 ⊕ ((Int32) ⊕ (Int32 × Int32))) :=
  xlet s.1 (fun l1 => xlet s.2 (fun l2 => (if l2 ≤ (0 : Int32) then some (Sum.inr (Sum.inl l1)) else xlet (l1 + (1 : Int32)) (fun v7 => xlet (l2 >>> ((1 : Int32) &&& 31)) (fun v8 => some (Sum.inr (Sum.inr (v7, v8))))))))
set_option maxHeartbeats 4000000 in
set_option maxRecDepth 20000 in
theorem L_X10_bits_s31 {G : xG} {π : Nat → Nat} {d C Z : Nat} {Q : xQ} (σ : xM) (l1 : Int32) (l2 : Int32) {x : (Int32 ⊕ ((Int32) ⊕ (Int32 × Int32)))} (hf : f_X10_bits_s31 σ (l1, l2) = some x) (hR : ∀ g, x = Sum.inl (g) → Q (.inl (some (.int g))) (σ) π) (hE : ∀ e : (Int32), x = Sum.inr (Sum.inl e) → xMach G π J_X10_bits (d + 0) C Z 45 [(1, .int e)] [] σ Q) (hC : ∀ e : (Int32 × Int32), x = Sum.inr (Sum.inr e) → xMach G π J_X10_bits (d + 0) C Z 31 [(1, .int e.1), (2, .int e.2)] [] σ Q) : xMach G π J_X10_bits (d + 0) C Z 31 [(1, .int l1), (2, .int l2)] [] σ Q := by
  have hf : (if l2 ≤ (0 : Int32) then some (Sum.inr (Sum.inl l1)) else xlet (l1 + (1 : Int32)) (fun v7 => xlet (l2 >>> ((1 : Int32) &&& 31)) (fun v8 => some (Sum.inr (Sum.inr (v7, v8)))))) = some x := hf
  refine xm_iload_n dX10_bits_31 rfl ?_
  refine xb_if_le 45 dX10_bits_32 (by decide) hf (fun c hf => ?_) (fun c hf => ?_)
  · cases hf
    exact xm_sub [0] rfl (hE _ rfl)
  · refine xb_iinc dX10_bits_35 rfl (by decide) (by decide) hf (fun v7 ev7 hf => xm_stL (L' := [(1, .int v7), (2, .int l2)]) rfl ?_)
    refine xm_iload_n dX10_bits_38 rfl ?_
    refine xm_iconst dX10_bits_39 (v := 1) (by decide) ?_
    refine xm_ishr dX10_bits_40 ?_
    refine xb_topi hf (fun v8 ev8 hf => ?_)
    refine xm_istore_n dX10_bits_41 (by decide) (xm_stL (L' := [(2, .int v8), (1, .int v7)]) rfl ?_)
    refine xm_goto 31 dX10_bits_42 (by decide) ?_
    cases hf
    exact xm_sub [1, 0] rfl (hC _ rfl)
theorem L_X10_bits_l31 {G : xG} {π : Nat → Nat} {d C Z : Nat} {Q : xQ} (σ : xM) {s0 : (Int32 × Int32)} {x : (Int32 ⊕ (Int32))} (h1 : xloop (f_X10_bits_s31 σ) xF s0 = some x) (hR : ∀ g, x = Sum.inl g → Q (.inl (some (.int g))) (σ) π) (hE : ∀ e : (Int32), x = Sum.inr e → xMach G π J_X10_bits (d + 0) C Z 45 [(1, .int e)] [] σ Q) : xMach G π J_X10_bits (d + 0) C Z 31 [(1, .int s0.1), (2, .int s0.2)] [] σ Q := by
  refine xloop_run (M := (fun s : (Int32 × Int32) => xMach G π J_X10_bits (d + 0) C Z 31 [(1, .int s.1), (2, .int s.2)] [] σ Q)) (r := x) ?_ xF _ h1
  intro s y hs hx
  exact L_X10_bits_s31 σ s.1 s.2 (x := y) hs (fun g hg => by subst hg; exact hR g hx) (fun e he => by subst he; exact hE e hx) (fun e he => by subst he; exact hx)
def f_X10_bits_j45 (σ : xM) (l1 : Int32) : Option Int32 :=
  some l1
set_option maxHeartbeats 4000000 in
set_option maxRecDepth 20000 in
theorem L_X10_bits_j45 {G : xG} {π : Nat → Nat} {d C Z : Nat} {Q : xQ} (σ : xM) (l1 : Int32) {x : Int32} (hf : f_X10_bits_j45 σ l1 = some x) (hR : ∀ g, x = g → Q (.inl (some (.int g))) (σ) π) : xMach G π J_X10_bits (d + 0) C Z 45 [(1, .int l1)] [] σ Q := by
  unfold f_X10_bits_j45 at hf
  refine xm_iload_n dX10_bits_45 rfl ?_
  cases hf
  exact xm_iret dX10_bits_46 rfl (hR _ rfl)
def f_X10_bits (σ : xM) (l0 : Nat) : Option Int32 :=
  (gI σ l0 10 1).bind (fun x1 => (if x1 = (0 : Int32) then some (0 : Int32) else (gI σ l0 10 1).bind (fun x2 => xlet ((x2 - (1 : Int32)) * (30 : Int32)) (fun v3 => (gR σ l0 10 0).bind (fun x4 => (gI σ l0 10 1).bind (fun x5 => (aI σ x4 14 (x5 - (1 : Int32))).bind (fun x6 => (xloop (f_X10_bits_s31 σ ) xF (v3, x6)).bind (Sum.elim (fun g => some g) (fun e => f_X10_bits_j45 σ e)))))))))
set_option maxHeartbeats 4000000 in
set_option maxRecDepth 20000 in
theorem m_X10_bits {G : xG} {π : Nat → Nat} {d C Z : Nat} {Q : xQ} {σ : xM} {l0 : Nat} {x : Int32} (hf : f_X10_bits σ l0 = some x) (hR : ∀ g, x = g → Q (.inl (some (.int g))) (σ) π) : xMach G π J_X10_bits (d + 0) C Z 0 (lv_args 0 [.ref l0]) [] σ Q := by
  unfold f_X10_bits at hf
  refine xm_stL (L' := [(0, .ref l0)]) rfl ?_
  refine xm_aload_n dX10_bits_0 rfl ?_
  refine xb_getI (a := l0) (c := 10) (k := 1) dX10_bits_1 xcl10 (by decide) xw_46 rfl hf (fun x1 ex1 hf => ?_)
  refine xb_if_ne 9 dX10_bits_4 (by decide) hf (fun c hf => ?_) (fun c hf => ?_)
  · refine xm_aload_n dX10_bits_9 rfl ?_
    refine xb_getI (a := l0) (c := 10) (k := 1) dX10_bits_10 xcl10 (by decide) xw_46 rfl hf (fun x2 ex2 hf => ?_)
    refine xm_iconst dX10_bits_13 (v := 1) (by decide) ?_
    refine xm_isub dX10_bits_14 ?_
    refine xm_bipush dX10_bits_15 (v := 30) (by decide) ?_
    refine xm_imul dX10_bits_17 ?_
    refine xb_topi hf (fun v3 ev3 hf => ?_)
    refine xm_istore_n dX10_bits_18 (by decide) (xm_stL (L' := [(1, .int v3), (0, .ref l0)]) rfl ?_)
    refine xm_aload_n dX10_bits_19 rfl ?_
    refine xb_getR (a := l0) (c := 10) (k := 0) dX10_bits_20 xcl10 (by decide) xw_45 rfl hf (fun x4 ex4 hf => ?_)
    refine xm_aload_n dX10_bits_23 rfl ?_
    refine xb_getI (a := l0) (c := 10) (k := 1) dX10_bits_24 xcl10 (by decide) xw_46 rfl hf (fun x5 ex5 hf => ?_)
    refine xm_iconst dX10_bits_27 (v := 1) (by decide) ?_
    refine xm_isub dX10_bits_28 ?_
    refine xb_iald dX10_bits_29 hf (fun x6 ex6 hf => ?_)
    refine xm_istore_n dX10_bits_30 (by decide) (xm_stL (L' := [(2, .int x6), (1, .int v3), (0, .ref l0)]) rfl ?_)
    obtain ⟨o, h1, hf⟩ := xbind hf
    refine xm_sub [1, 0] rfl (L_X10_bits_l31 σ h1 (fun g hg => ?_) (fun e he => ?_))
    · subst hg
      cases hf
      exact hR _ rfl
    · subst he
      rw [Sum.elim_inr] at hf
      have hf : f_X10_bits_j45 σ e = some _ := hf
      exact xm_sub [0] rfl (L_X10_bits_j45 σ e hf hR)
  · refine xm_iconst dX10_bits_7 (v := 0) (by decide) ?_
    cases hf
    exact xm_iret dX10_bits_8 rfl (hR _ rfl)
-- Rankwise$Whole.compareSigned(LRankwise$Whole;LRankwise$Whole;)I
def f_X10_compareSigned_j44 (σ : xM) (s0 : Int32) : Option Int32 :=
  some s0
set_option maxHeartbeats 4000000 in
set_option maxRecDepth 20000 in
theorem L_X10_compareSigned_j44 {G : xG} {π : Nat → Nat} {d C Z : Nat} {Q : xQ} (σ : xM) (s0 : Int32) {x : Int32} (hf : f_X10_compareSigned_j44 σ s0 = some x) (hR : ∀ g, x = g → Q (.inl (some (.int g))) (σ) π) : xMach G π J_X10_compareSigned (d + 1) C Z 44 [] [.int s0] σ Q := by
  unfold f_X10_compareSigned_j44 at hf
  cases hf
  exact xm_iret dX10_compareSigned_44 rfl (hR _ rfl)
def f_X10_compareSigned_j23 (σ : xM) (s0 : Int32) : Option Int32 :=
  some s0
set_option maxHeartbeats 4000000 in
set_option maxRecDepth 20000 in
theorem L_X10_compareSigned_j23 {G : xG} {π : Nat → Nat} {d C Z : Nat} {Q : xQ} (σ : xM) (s0 : Int32) {x : Int32} (hf : f_X10_compareSigned_j23 σ s0 = some x) (hR : ∀ g, x = g → Q (.inl (some (.int g))) (σ) π) : xMach G π J_X10_compareSigned (d + 1) C Z 23 [] [.int s0] σ Q := by
  unfold f_X10_compareSigned_j23 at hf
  cases hf
  exact xm_iret dX10_compareSigned_23 rfl (hR _ rfl)
def f_X10_compareSigned (σ : xM) (l0 : Nat) (l1 : Nat) : Option Int32 :=
  (gI σ l0 10 2).bind (fun x1 => (gI σ l1 10 2).bind (fun x2 => (if x1 = x2 then (gI σ l0 10 2).bind (fun x3 => (if x3 = (0 : Int32) then (f_X10_compareSizes σ l0 l1).bind (fun p4 => f_X10_compareSigned_j44 σ p4) else (f_X10_compareSizes σ l1 l0).bind (fun p5 => f_X10_compareSigned_j44 σ p5))) else (gI σ l0 10 2).bind (fun x6 => (if x6 = (0 : Int32) then f_X10_compareSigned_j23 σ (1 : Int32) else f_X10_compareSigned_j23 σ (-1 : Int32))))))
set_option maxHeartbeats 4000000 in
set_option maxRecDepth 20000 in
theorem m_X10_compareSigned {G : xG} {π : Nat → Nat} {d C Z : Nat} {Q : xQ} {σ : xM} {l0 : Nat} {l1 : Nat} {x : Int32} (hf : f_X10_compareSigned σ l0 l1 = some x) (hR : ∀ g, x = g → Q (.inl (some (.int g))) (σ) π) : xMach G π J_X10_compareSigned (d + 1) C Z 0 (lv_args 0 [.ref l0, .ref l1]) [] σ Q := by
  unfold f_X10_compareSigned at hf
  refine xm_stL (L' := [(0, .ref l0), (1, .ref l1)]) rfl ?_
  refine xm_aload_n dX10_compareSigned_0 rfl ?_
  refine xb_getI (a := l0) (c := 10) (k := 2) dX10_compareSigned_1 xcl10 (by decide) xw_47 rfl hf (fun x1 ex1 hf => ?_)
  refine xm_aload_n dX10_compareSigned_4 rfl ?_
  refine xb_getI (a := l1) (c := 10) (k := 2) dX10_compareSigned_5 xcl10 (by decide) xw_47 rfl hf (fun x2 ex2 hf => ?_)
  refine xb_icmp_eq 24 dX10_compareSigned_8 (by decide) hf (fun c hf => ?_) (fun c hf => ?_)
  · refine xm_aload_n dX10_compareSigned_24 rfl ?_
    refine xb_getI (a := l0) (c := 10) (k := 2) dX10_compareSigned_25 xcl10 (by decide) xw_47 rfl hf (fun x3 ex3 hf => ?_)
    refine xb_if_eq 39 dX10_compareSigned_28 (by decide) hf (fun c hf => ?_) (fun c hf => ?_)
    · refine xm_aload_n dX10_compareSigned_39 rfl ?_
      refine xm_aload_n dX10_compareSigned_40 rfl ?_
      obtain ⟨p4, ep4, hf⟩ := xbind hf
      refine xb_callS (As := [.ref l0, .ref l1]) (v0 := (some (.int p4))) (τ0 := σ) dX10_compareSigned_41 (xc_X10_compareSizes _ _) xw_1046 xw_1047 rfl (Nat.le_of_ble_eq_true rfl) rfl (Nat.le_of_ble_eq_true rfl) (fun Q1 hq => m_X10_compareSizes (d := d + 0) ep4 (fun g hg => by subst hg; exact hq)) ?_
      exact xm_sub [] rfl (L_X10_compareSigned_j44 σ p4 hf hR)
    · refine xm_aload_n dX10_compareSigned_31 rfl ?_
      refine xm_aload_n dX10_compareSigned_32 rfl ?_
      obtain ⟨p5, ep5, hf⟩ := xbind hf
      refine xb_callS (As := [.ref l1, .ref l0]) (v0 := (some (.int p5))) (τ0 := σ) dX10_compareSigned_33 (xc_X10_compareSizes _ _) xw_1046 xw_1047 rfl (Nat.le_of_ble_eq_true rfl) rfl (Nat.le_of_ble_eq_true rfl) (fun Q1 hq => m_X10_compareSizes (d := d + 0) ep5 (fun g hg => by subst hg; exact hq)) ?_
      refine xm_goto 44 dX10_compareSigned_36 (by decide) ?_
      exact xm_sub [] rfl (L_X10_compareSigned_j44 σ p5 hf hR)
  · refine xm_aload_n dX10_compareSigned_11 rfl ?_
    refine xb_getI (a := l0) (c := 10) (k := 2) dX10_compareSigned_12 xcl10 (by decide) xw_47 rfl hf (fun x6 ex6 hf => ?_)
    refine xb_if_eq 22 dX10_compareSigned_15 (by decide) hf (fun c hf => ?_) (fun c hf => ?_)
    · refine xm_iconst dX10_compareSigned_22 (v := 1) (by decide) ?_
      exact xm_sub [] rfl (L_X10_compareSigned_j23 σ (1 : Int32) hf hR)
    · refine xm_iconst dX10_compareSigned_18 (v := -1) (by decide) ?_
      refine xm_goto 23 dX10_compareSigned_19 (by decide) ?_
      exact xm_sub [] rfl (L_X10_compareSigned_j23 σ (-1 : Int32) hf hR)
