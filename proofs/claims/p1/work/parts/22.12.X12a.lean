-- RankwiseModel.thrown()I
def f_X12_thrown (σ : xM) (l0 : Nat) : Option Int32 :=
  (gI σ l0 12 0).bind (fun x1 => some x1)
set_option maxHeartbeats 4000000 in
set_option maxRecDepth 20000 in
theorem m_X12_thrown {G : xG} {π : Nat → Nat} {d C Z : Nat} {Q : xQ} {σ : xM} {l0 : Nat} {x : Int32} (hf : f_X12_thrown σ l0 = some x) (hR : ∀ g, x = g → Q (.inl (some (.int g))) (σ) π) : xMach G π J_X12_thrown (d + 0) C Z 0 (lv_args 0 [.ref l0]) [] σ Q := by
  unfold f_X12_thrown at hf
  refine xm_stL (L' := [(0, .ref l0)]) rfl ?_
  refine xm_aload_n dX12_thrown_0 rfl ?_
  refine xb_getI (a := l0) (c := 12) (k := 0) dX12_thrown_1 xcl12 (by decide) xw_1837 rfl hf (fun x1 ex1 hf => ?_)
  cases hf
  exact xm_iret dX12_thrown_4 rfl (hR _ rfl)
-- RankwiseModel.in(III)Z
def f_X12_in_j15 (σ : xM) (s0 : Int32) : Option Int32 :=
  (xz s0).bind (fun b1 => some b1)
set_option maxHeartbeats 4000000 in
set_option maxRecDepth 20000 in
theorem L_X12_in_j15 {G : xG} {π : Nat → Nat} {d C Z : Nat} {Q : xQ} (σ : xM) (s0 : Int32) {x : Int32} (hf : f_X12_in_j15 σ s0 = some x) (hR : ∀ g, x = g → Q (.inl (some (.int g))) (σ) π) : xMach G π J_X12_in (d + 0) C Z 15 [] [.int s0] σ Q := by
  unfold f_X12_in_j15 at hf
  obtain ⟨b1, eb1, hf⟩ := xbind hf
  obtain ⟨rfl, hz⟩ := xz_of eb1
  cases hf
  exact xm_zret dX12_in_15 rfl hz (hR _ rfl)
def f_X12_in_j14 (σ : xM)  : Option Int32 :=
  f_X12_in_j15 σ (0 : Int32)
set_option maxHeartbeats 4000000 in
set_option maxRecDepth 20000 in
theorem L_X12_in_j14 {G : xG} {π : Nat → Nat} {d C Z : Nat} {Q : xQ} (σ : xM)  {x : Int32} (hf : f_X12_in_j14 σ = some x) (hR : ∀ g, x = g → Q (.inl (some (.int g))) (σ) π) : xMach G π J_X12_in (d + 0) C Z 14 [] [] σ Q := by
  unfold f_X12_in_j14 at hf
  refine xm_iconst dX12_in_14 (v := 0) (by decide) ?_
  exact xm_sub [] rfl (L_X12_in_j15 σ (0 : Int32) hf hR)
def f_X12_in (σ : xM) (l0 : Int32) (l1 : Int32) (l2 : Int32) : Option Int32 :=
  (if l0 < l1 then f_X12_in_j14 σ else (if l2 < l0 then f_X12_in_j14 σ else f_X12_in_j15 σ (1 : Int32)))
set_option maxHeartbeats 4000000 in
set_option maxRecDepth 20000 in
theorem m_X12_in {G : xG} {π : Nat → Nat} {d C Z : Nat} {Q : xQ} {σ : xM} {l0 : Int32} {l1 : Int32} {l2 : Int32} {x : Int32} (hf : f_X12_in σ l0 l1 l2 = some x) (hR : ∀ g, x = g → Q (.inl (some (.int g))) (σ) π) : xMach G π J_X12_in (d + 0) C Z 0 (lv_args 0 [.int l0, .int l1, .int l2]) [] σ Q := by
  unfold f_X12_in at hf
  refine xm_stL (L' := [(0, .int l0), (1, .int l1), (2, .int l2)]) rfl ?_
  refine xm_iload_n dX12_in_0 rfl ?_
  refine xm_iload_n dX12_in_1 rfl ?_
  refine xb_icmp_lt 14 dX12_in_2 (by decide) hf (fun c hf => ?_) (fun c hf => ?_)
  · exact xm_sub [] rfl (L_X12_in_j14 σ hf hR)
  · refine xm_iload_n dX12_in_5 rfl ?_
    refine xm_iload_n dX12_in_6 rfl ?_
    refine xb_icmp_gt 14 dX12_in_7 (by decide) hf (fun c hf => ?_) (fun c hf => ?_)
    · exact xm_sub [] rfl (L_X12_in_j14 σ hf hR)
    · refine xm_iconst dX12_in_10 (v := 1) (by decide) ?_
      refine xm_goto 15 dX12_in_11 (by decide) ?_
      exact xm_sub [] rfl (L_X12_in_j15 σ (1 : Int32) hf hR)
-- RankwiseModel.refused(ZZZ)Z
def f_X12_refused_j41 (σ : xM) (s0 : Int32) : Option (Int32 × xM) :=
  (xz s0).bind (fun b3 => some (b3, σ))
set_option maxHeartbeats 4000000 in
set_option maxRecDepth 20000 in
theorem L_X12_refused_j41 {G : xG} {π : Nat → Nat} {d C Z : Nat} {Q : xQ} (σ : xM) (s0 : Int32) {x : (Int32 × xM)} (hf : f_X12_refused_j41 σ s0 = some x) (hR : ∀ g, x = g → Q (.inl (some (.int g.1))) (g.2) π) : xMach G π J_X12_refused (d + 0) C Z 41 [] [.int s0] σ Q := by
  unfold f_X12_refused_j41 at hf
  obtain ⟨b3, eb3, hf⟩ := xbind hf
  obtain ⟨rfl, hz⟩ := xz_of eb3
  cases hf
  exact xm_zret dX12_refused_41 rfl hz (hR _ rfl)
def f_X12_refused_j26 (σ : xM) (l0 : Nat) (s0 : Int32) (s1 : Nat) : Option (Int32 × xM) :=
  (sI σ s1 12 0 s0).bind (fun σ1 => (gI σ1 l0 12 0).bind (fun x2 => (if x2 = (0 : Int32) then f_X12_refused_j41 σ1 (0 : Int32) else f_X12_refused_j41 σ1 (1 : Int32))))
set_option maxHeartbeats 4000000 in
set_option maxRecDepth 20000 in
theorem L_X12_refused_j26 {G : xG} {π : Nat → Nat} {d C Z : Nat} {Q : xQ} (σ : xM) (l0 : Nat) (s0 : Int32) (s1 : Nat) {x : (Int32 × xM)} (hf : f_X12_refused_j26 σ l0 s0 s1 = some x) (hR : ∀ g, x = g → Q (.inl (some (.int g.1))) (g.2) π) : xMach G π J_X12_refused (d + 0) C Z 26 [(0, .ref l0)] [.int s0, .ref s1] σ Q := by
  unfold f_X12_refused_j26 at hf
  refine xb_putI (a := s1) (c := 12) (k := 0) dX12_refused_26 xcl12 (by decide) xw_1837 rfl rfl hf (fun σ1 eσ1 hf => ?_)
  refine xm_aload_n dX12_refused_29 rfl ?_
  refine xb_getI (a := l0) (c := 12) (k := 0) dX12_refused_30 xcl12 (by decide) xw_1837 rfl hf (fun x2 ex2 hf => ?_)
  refine xb_if_eq 40 dX12_refused_33 (by decide) hf (fun c hf => ?_) (fun c hf => ?_)
  · refine xm_iconst dX12_refused_40 (v := 0) (by decide) ?_
    exact xm_sub [] rfl (L_X12_refused_j41 σ1 (0 : Int32) hf hR)
  · refine xm_iconst dX12_refused_36 (v := 1) (by decide) ?_
    refine xm_goto 41 dX12_refused_37 (by decide) ?_
    exact xm_sub [] rfl (L_X12_refused_j41 σ1 (1 : Int32) hf hR)
def f_X12_refused (σ : xM) (l0 : Nat) (l1 : Int32) (l2 : Int32) (l3 : Int32) : Option (Int32 × xM) :=
  (if l1 = (0 : Int32) then (if l2 = (0 : Int32) then (if l3 = (0 : Int32) then f_X12_refused_j26 σ l0 (0 : Int32) l0 else f_X12_refused_j26 σ l0 (3 : Int32) l0) else f_X12_refused_j26 σ l0 (2 : Int32) l0) else f_X12_refused_j26 σ l0 (1 : Int32) l0)
set_option maxHeartbeats 4000000 in
set_option maxRecDepth 20000 in
theorem m_X12_refused {G : xG} {π : Nat → Nat} {d C Z : Nat} {Q : xQ} {σ : xM} {l0 : Nat} {l1 : Int32} {l2 : Int32} {l3 : Int32} {x : (Int32 × xM)} (hf : f_X12_refused σ l0 l1 l2 l3 = some x) (hR : ∀ g, x = g → Q (.inl (some (.int g.1))) (g.2) π) : xMach G π J_X12_refused (d + 0) C Z 0 (lv_args 0 [.ref l0, .int l1, .int l2, .int l3]) [] σ Q := by
  unfold f_X12_refused at hf
  refine xm_stL (L' := [(0, .ref l0), (1, .int l1), (2, .int l2), (3, .int l3)]) rfl ?_
  refine xm_aload_n dX12_refused_0 rfl ?_
  refine xm_iload_n dX12_refused_1 rfl ?_
  refine xb_if_eq 9 dX12_refused_2 (by decide) hf (fun c hf => ?_) (fun c hf => ?_)
  · refine xm_iload_n dX12_refused_9 rfl ?_
    refine xb_if_eq 17 dX12_refused_10 (by decide) hf (fun c hf => ?_) (fun c hf => ?_)
    · refine xm_iload_n dX12_refused_17 rfl ?_
      refine xb_if_eq 25 dX12_refused_18 (by decide) hf (fun c hf => ?_) (fun c hf => ?_)
      · refine xm_iconst dX12_refused_25 (v := 0) (by decide) ?_
        exact xm_sub [0] rfl (L_X12_refused_j26 σ l0 (0 : Int32) l0 hf hR)
      · refine xm_iconst dX12_refused_21 (v := 3) (by decide) ?_
        refine xm_goto 26 dX12_refused_22 (by decide) ?_
        exact xm_sub [0] rfl (L_X12_refused_j26 σ l0 (3 : Int32) l0 hf hR)
    · refine xm_iconst dX12_refused_13 (v := 2) (by decide) ?_
      refine xm_goto 26 dX12_refused_14 (by decide) ?_
      exact xm_sub [0] rfl (L_X12_refused_j26 σ l0 (2 : Int32) l0 hf hR)
  · refine xm_iconst dX12_refused_5 (v := 1) (by decide) ?_
    refine xm_goto 26 dX12_refused_6 (by decide) ?_
    exact xm_sub [0] rfl (L_X12_refused_j26 σ l0 (1 : Int32) l0 hf hR)
-- RankwiseModel.trim(I)V
def f_X12_trim_s0 (s : (Nat × Int32 × xM)) : Option (xM ⊕ ((xM) ⊕ (Nat × Int32 × xM))) :=
  xlet s.1 (fun l0 => xlet s.2.1 (fun l1 => xlet s.2.2 (fun σ => (gR σ l0 12 2).bind (fun x1 => (aI σ x1 14 l1).bind (fun x2 => (if x2 ≤ (0 : Int32) then some (Sum.inr (Sum.inl σ)) else (gR σ l0 12 1).bind (fun x3 => (gR σ l0 12 2).bind (fun x4 => (aI σ x4 14 l1).bind (fun x5 => (aI σ x3 14 ((((440 : Int32) * l1) + x5) - (1 : Int32))).bind (fun x6 => (if x6 = (0 : Int32) then (gR σ l0 12 2).bind (fun x7 => (aI σ x7 14 l1).bind (fun x8 => (wI σ x7 l1 (x8 - (1 : Int32))).bind (fun σ9 => some (Sum.inr (Sum.inr (l0, l1, σ9)))))) else some (Sum.inr (Sum.inl σ)))))))))))))
set_option maxHeartbeats 4000000 in
set_option maxRecDepth 20000 in
theorem L_X12_trim_s0 {G : xG} {π : Nat → Nat} {d C Z : Nat} {Q : xQ} (σ : xM) (l0 : Nat) (l1 : Int32) {x : (xM ⊕ ((xM) ⊕ (Nat × Int32 × xM)))} (hf : f_X12_trim_s0 (l0, l1, σ) = some x) (hR : ∀ g, x = Sum.inl (g) → Q (.inl none) (g) π) (hE : ∀ e : (xM), x = Sum.inr (Sum.inl e) → xMach G π J_X12_trim (d + 0) C Z 44 [] [] e Q) (hC : ∀ e : (Nat × Int32 × xM), x = Sum.inr (Sum.inr e) → xMach G π J_X12_trim (d + 0) C Z 0 [(0, .ref e.1), (1, .int e.2.1)] [] e.2.2 Q) : xMach G π J_X12_trim (d + 0) C Z 0 [(0, .ref l0), (1, .int l1)] [] σ Q := by
  have hf : (gR σ l0 12 2).bind (fun x1 => (aI σ x1 14 l1).bind (fun x2 => (if x2 ≤ (0 : Int32) then some (Sum.inr (Sum.inl σ)) else (gR σ l0 12 1).bind (fun x3 => (gR σ l0 12 2).bind (fun x4 => (aI σ x4 14 l1).bind (fun x5 => (aI σ x3 14 ((((440 : Int32) * l1) + x5) - (1 : Int32))).bind (fun x6 => (if x6 = (0 : Int32) then (gR σ l0 12 2).bind (fun x7 => (aI σ x7 14 l1).bind (fun x8 => (wI σ x7 l1 (x8 - (1 : Int32))).bind (fun σ9 => some (Sum.inr (Sum.inr (l0, l1, σ9)))))) else some (Sum.inr (Sum.inl σ)))))))))) = some x := hf
  refine xm_aload_n dX12_trim_0 rfl ?_
  refine xb_getR (a := l0) (c := 12) (k := 2) dX12_trim_1 xcl12 (by decide) xw_1839 rfl hf (fun x1 ex1 hf => ?_)
  refine xm_iload_n dX12_trim_4 rfl ?_
  refine xb_iald dX12_trim_5 hf (fun x2 ex2 hf => ?_)
  refine xb_if_le 44 dX12_trim_6 (by decide) hf (fun c hf => ?_) (fun c hf => ?_)
  · cases hf
    exact xm_sub [] rfl (hE _ rfl)
  · refine xm_aload_n dX12_trim_9 rfl ?_
    refine xb_getR (a := l0) (c := 12) (k := 1) dX12_trim_10 xcl12 (by decide) xw_1838 rfl hf (fun x3 ex3 hf => ?_)
    refine xm_sipush dX12_trim_13 (v := 440) (by decide) ?_
    refine xm_iload_n dX12_trim_16 rfl ?_
    refine xm_imul dX12_trim_17 ?_
    refine xm_aload_n dX12_trim_18 rfl ?_
    refine xb_getR (a := l0) (c := 12) (k := 2) dX12_trim_19 xcl12 (by decide) xw_1839 rfl hf (fun x4 ex4 hf => ?_)
    refine xm_iload_n dX12_trim_22 rfl ?_
    refine xb_iald dX12_trim_23 hf (fun x5 ex5 hf => ?_)
    refine xm_iadd dX12_trim_24 ?_
    refine xm_iconst dX12_trim_25 (v := 1) (by decide) ?_
    refine xm_isub dX12_trim_26 ?_
    refine xb_iald dX12_trim_27 hf (fun x6 ex6 hf => ?_)
    refine xb_if_ne 44 dX12_trim_28 (by decide) hf (fun c hf => ?_) (fun c hf => ?_)
    · cases hf
      exact xm_sub [] rfl (hE _ rfl)
    · refine xm_aload_n dX12_trim_31 rfl ?_
      refine xb_getR (a := l0) (c := 12) (k := 2) dX12_trim_32 xcl12 (by decide) xw_1839 rfl hf (fun x7 ex7 hf => ?_)
      refine xm_iload_n dX12_trim_35 rfl ?_
      refine xm_dup2 dX12_trim_36 rfl rfl ?_
      refine xb_iald dX12_trim_37 hf (fun x8 ex8 hf => ?_)
      refine xm_iconst dX12_trim_38 (v := 1) (by decide) ?_
      refine xm_isub dX12_trim_39 ?_
      refine xb_iast dX12_trim_40 hf (fun σ9 eσ9 hf => ?_)
      refine xm_goto 0 dX12_trim_41 (by decide) ?_
      cases hf
      exact xm_sub [0, 1] rfl (hC _ rfl)
theorem L_X12_trim_l0 {G : xG} {π : Nat → Nat} {d C Z : Nat} {Q : xQ} {s0 : (Nat × Int32 × xM)} {x : (xM ⊕ (xM))} (h1 : xloop (f_X12_trim_s0) xF s0 = some x) (hR : ∀ g, x = Sum.inl g → Q (.inl none) (g) π) (hE : ∀ e : (xM), x = Sum.inr e → xMach G π J_X12_trim (d + 0) C Z 44 [] [] e Q) : xMach G π J_X12_trim (d + 0) C Z 0 [(0, .ref s0.1), (1, .int s0.2.1)] [] s0.2.2 Q := by
  refine xloop_run (M := (fun s : (Nat × Int32 × xM) => xMach G π J_X12_trim (d + 0) C Z 0 [(0, .ref s.1), (1, .int s.2.1)] [] s.2.2 Q)) (r := x) ?_ xF _ h1
  intro s y hs hx
  exact L_X12_trim_s0 s.2.2 s.1 s.2.1 (x := y) hs (fun g hg => by subst hg; exact hR g hx) (fun e he => by subst he; exact hE e hx) (fun e he => by subst he; exact hx)
def f_X12_trim_j44 (σ : xM)  : Option xM :=
  some σ
set_option maxHeartbeats 4000000 in
set_option maxRecDepth 20000 in
theorem L_X12_trim_j44 {G : xG} {π : Nat → Nat} {d C Z : Nat} {Q : xQ} (σ : xM)  {x : xM} (hf : f_X12_trim_j44 σ = some x) (hR : ∀ g, x = g → Q (.inl none) (g) π) : xMach G π J_X12_trim (d + 0) C Z 44 [] [] σ Q := by
  unfold f_X12_trim_j44 at hf
  cases hf
  exact xm_vret dX12_trim_44 rfl (hR _ rfl)
def f_X12_trim (σ : xM) (l0 : Nat) (l1 : Int32) : Option xM :=
  (xloop (f_X12_trim_s0 ) xF (l0, l1, σ)).bind (Sum.elim (fun g => some g) (fun e => f_X12_trim_j44 e))
set_option maxHeartbeats 4000000 in
set_option maxRecDepth 20000 in
theorem m_X12_trim {G : xG} {π : Nat → Nat} {d C Z : Nat} {Q : xQ} {σ : xM} {l0 : Nat} {l1 : Int32} {x : xM} (hf : f_X12_trim σ l0 l1 = some x) (hR : ∀ g, x = g → Q (.inl none) (g) π) : xMach G π J_X12_trim (d + 0) C Z 0 (lv_args 0 [.ref l0, .int l1]) [] σ Q := by
  unfold f_X12_trim at hf
  refine xm_stL (L' := [(0, .ref l0), (1, .int l1)]) rfl ?_
  obtain ⟨o, h1, hf⟩ := xbind hf
  refine xm_sub [0, 1] rfl (L_X12_trim_l0  h1 (fun g hg => ?_) (fun e he => ?_))
  · subst hg
    cases hf
    exact hR _ rfl
  · subst he
    rw [Sum.elim_inr] at hf
    have hf : f_X12_trim_j44 e = some _ := hf
    exact xm_sub [] rfl (L_X12_trim_j44 e hf hR)
-- RankwiseModel.put(II)V
def f_X12_put (σ : xM) (l0 : Nat) (l1 : Int32) (l2 : Int32) : Option xM :=
  (gR σ l0 12 1).bind (fun x1 => (wI σ x1 ((440 : Int32) * l1) (l2 &&& (65535 : Int32))).bind (fun σ2 => (gR σ2 l0 12 1).bind (fun x3 => (wI σ2 x3 (((440 : Int32) * l1) + (1 : Int32)) ((l2).toUInt32 >>> (((16 : Int32)).toUInt32 &&& Int32.toUInt32 31)).toInt32).bind (fun σ4 => (gR σ4 l0 12 2).bind (fun x5 => (wI σ4 x5 l1 (2 : Int32)).bind (fun σ6 => (if xk σ6 l0 12 = true then (f_X12_trim σ6 l0 l1).bind (fun p7 => some p7) else none)))))))
set_option maxHeartbeats 4000000 in
set_option maxRecDepth 20000 in
theorem m_X12_put {G : xG} {π : Nat → Nat} {d C Z : Nat} {Q : xQ} {σ : xM} {l0 : Nat} {l1 : Int32} {l2 : Int32} {x : xM} (hf : f_X12_put σ l0 l1 l2 = some x) (hR : ∀ g, x = g → Q (.inl none) (g) π) : xMach G π J_X12_put (d + 1) C Z 0 (lv_args 0 [.ref l0, .int l1, .int l2]) [] σ Q := by
  unfold f_X12_put at hf
  refine xm_stL (L' := [(0, .ref l0), (1, .int l1), (2, .int l2)]) rfl ?_
  refine xm_aload_n dX12_put_0 rfl ?_
  refine xb_getR (a := l0) (c := 12) (k := 1) dX12_put_1 xcl12 (by decide) xw_1838 rfl hf (fun x1 ex1 hf => ?_)
  refine xm_sipush dX12_put_4 (v := 440) (by decide) ?_
  refine xm_iload_n dX12_put_7 rfl ?_
  refine xm_imul dX12_put_8 ?_
  refine xm_iload_n dX12_put_9 rfl ?_
  refine xm_ldc dX12_put_10 (xws_in xw_1828) ?_
  refine xm_iand dX12_put_12 ?_
  refine xb_iast dX12_put_13 hf (fun σ2 eσ2 hf => ?_)
  refine xm_aload_n dX12_put_14 rfl ?_
  refine xb_getR (a := l0) (c := 12) (k := 1) dX12_put_15 xcl12 (by decide) xw_1838 rfl hf (fun x3 ex3 hf => ?_)
  refine xm_sipush dX12_put_18 (v := 440) (by decide) ?_
  refine xm_iload_n dX12_put_21 rfl ?_
  refine xm_imul dX12_put_22 ?_
  refine xm_iconst dX12_put_23 (v := 1) (by decide) ?_
  refine xm_iadd dX12_put_24 ?_
  refine xm_iload_n dX12_put_25 rfl ?_
  refine xm_bipush dX12_put_26 (v := 16) (by decide) ?_
  refine xm_iushr dX12_put_28 rfl ?_
  refine xb_iast dX12_put_29 hf (fun σ4 eσ4 hf => ?_)
  refine xm_aload_n dX12_put_30 rfl ?_
  refine xb_getR (a := l0) (c := 12) (k := 2) dX12_put_31 xcl12 (by decide) xw_1839 rfl hf (fun x5 ex5 hf => ?_)
  refine xm_iload_n dX12_put_34 rfl ?_
  refine xm_iconst dX12_put_35 (v := 2) (by decide) ?_
  refine xb_iast dX12_put_36 hf (fun σ6 eσ6 hf => ?_)
  refine xm_aload_n dX12_put_37 rfl ?_
  refine xm_iload_n dX12_put_38 rfl ?_
  refine xb_if hf (fun hb hf => ?_) (fun _ q => nomatch q)
  obtain ⟨p7, ep7, hf⟩ := xbind hf
  refine xb_callV (As := [.int l1]) (v0 := none) (τ0 := p7) dX12_put_39 (xc_X12_trim _ _) xcl12 xw_1829 xw_1831 xs_86 hb rfl (Nat.le_of_ble_eq_true rfl) rfl (Nat.le_of_ble_eq_true rfl) (fun Q1 hq => m_X12_trim (d := d + 0) ep7 (fun g hg => by subst hg; exact hq)) ?_
  cases hf
  exact xm_vret dX12_put_42 rfl (hR _ rfl)
-- RankwiseModel.copy(II)V
def f_X12_copy_s2 (s : (Nat × Int32 × Int32 × Int32 × xM)) : Option (xM ⊕ ((Nat × Int32 × Int32 × xM) ⊕ (Nat × Int32 × Int32 × Int32 × xM))) :=
  xlet s.1 (fun l0 => xlet s.2.1 (fun l1 => xlet s.2.2.1 (fun l2 => xlet s.2.2.2.1 (fun l3 => xlet s.2.2.2.2 (fun σ => (gR σ l0 12 2).bind (fun x2 => (aI σ x2 14 l2).bind (fun x3 => (if x3 ≤ l3 then some (Sum.inr (Sum.inl (l0, l1, l2, σ))) else (gR σ l0 12 1).bind (fun x4 => (gR σ l0 12 1).bind (fun x5 => (aI σ x5 14 (((440 : Int32) * l2) + l3)).bind (fun x6 => (wI σ x4 (((440 : Int32) * l1) + l3) x6).bind (fun σ7 => xlet (l3 + (1 : Int32)) (fun v8 => some (Sum.inr (Sum.inr (l0, l1, l2, v8, σ7))))))))))))))))
set_option maxHeartbeats 4000000 in
set_option maxRecDepth 20000 in
theorem L_X12_copy_s2 {G : xG} {π : Nat → Nat} {d C Z : Nat} {Q : xQ} (σ : xM) (l0 : Nat) (l1 : Int32) (l2 : Int32) (l3 : Int32) {x : (xM ⊕ ((Nat × Int32 × Int32 × xM) ⊕ (Nat × Int32 × Int32 × Int32 × xM)))} (hf : f_X12_copy_s2 (l0, l1, l2, l3, σ) = some x) (hR : ∀ g, x = Sum.inl (g) → Q (.inl none) (g) π) (hE : ∀ e : (Nat × Int32 × Int32 × xM), x = Sum.inr (Sum.inl e) → xMach G π J_X12_copy (d + 0) C Z 42 [(0, .ref e.1), (1, .int e.2.1), (2, .int e.2.2.1)] [] e.2.2.2 Q) (hC : ∀ e : (Nat × Int32 × Int32 × Int32 × xM), x = Sum.inr (Sum.inr e) → xMach G π J_X12_copy (d + 0) C Z 2 [(0, .ref e.1), (1, .int e.2.1), (2, .int e.2.2.1), (3, .int e.2.2.2.1)] [] e.2.2.2.2 Q) : xMach G π J_X12_copy (d + 0) C Z 2 [(0, .ref l0), (1, .int l1), (2, .int l2), (3, .int l3)] [] σ Q := by
  have hf : (gR σ l0 12 2).bind (fun x2 => (aI σ x2 14 l2).bind (fun x3 => (if x3 ≤ l3 then some (Sum.inr (Sum.inl (l0, l1, l2, σ))) else (gR σ l0 12 1).bind (fun x4 => (gR σ l0 12 1).bind (fun x5 => (aI σ x5 14 (((440 : Int32) * l2) + l3)).bind (fun x6 => (wI σ x4 (((440 : Int32) * l1) + l3) x6).bind (fun σ7 => xlet (l3 + (1 : Int32)) (fun v8 => some (Sum.inr (Sum.inr (l0, l1, l2, v8, σ7))))))))))) = some x := hf
  refine xm_iload_n dX12_copy_2 rfl ?_
  refine xm_aload_n dX12_copy_3 rfl ?_
  refine xb_getR (a := l0) (c := 12) (k := 2) dX12_copy_4 xcl12 (by decide) xw_1839 rfl hf (fun x2 ex2 hf => ?_)
  refine xm_iload_n dX12_copy_7 rfl ?_
  refine xb_iald dX12_copy_8 hf (fun x3 ex3 hf => ?_)
  refine xb_icmp_ge 42 dX12_copy_9 (by decide) hf (fun c hf => ?_) (fun c hf => ?_)
  · cases hf
    exact xm_sub [0, 1, 2] rfl (hE _ rfl)
  · refine xm_aload_n dX12_copy_12 rfl ?_
    refine xb_getR (a := l0) (c := 12) (k := 1) dX12_copy_13 xcl12 (by decide) xw_1838 rfl hf (fun x4 ex4 hf => ?_)
    refine xm_sipush dX12_copy_16 (v := 440) (by decide) ?_
    refine xm_iload_n dX12_copy_19 rfl ?_
    refine xm_imul dX12_copy_20 ?_
    refine xm_iload_n dX12_copy_21 rfl ?_
    refine xm_iadd dX12_copy_22 ?_
    refine xm_aload_n dX12_copy_23 rfl ?_
    refine xb_getR (a := l0) (c := 12) (k := 1) dX12_copy_24 xcl12 (by decide) xw_1838 rfl hf (fun x5 ex5 hf => ?_)
    refine xm_sipush dX12_copy_27 (v := 440) (by decide) ?_
    refine xm_iload_n dX12_copy_30 rfl ?_
    refine xm_imul dX12_copy_31 ?_
    refine xm_iload_n dX12_copy_32 rfl ?_
    refine xm_iadd dX12_copy_33 ?_
    refine xb_iald dX12_copy_34 hf (fun x6 ex6 hf => ?_)
    refine xb_iast dX12_copy_35 hf (fun σ7 eσ7 hf => ?_)
    refine xb_iinc dX12_copy_36 rfl (by decide) (by decide) hf (fun v8 ev8 hf => xm_stL (L' := [(3, .int v8), (0, .ref l0), (1, .int l1), (2, .int l2)]) rfl ?_)
    refine xm_goto 2 dX12_copy_39 (by decide) ?_
    cases hf
    exact xm_sub [1, 2, 3, 0] rfl (hC _ rfl)
theorem L_X12_copy_l2 {G : xG} {π : Nat → Nat} {d C Z : Nat} {Q : xQ} {s0 : (Nat × Int32 × Int32 × Int32 × xM)} {x : (xM ⊕ (Nat × Int32 × Int32 × xM))} (h1 : xloop (f_X12_copy_s2) xF s0 = some x) (hR : ∀ g, x = Sum.inl g → Q (.inl none) (g) π) (hE : ∀ e : (Nat × Int32 × Int32 × xM), x = Sum.inr e → xMach G π J_X12_copy (d + 0) C Z 42 [(0, .ref e.1), (1, .int e.2.1), (2, .int e.2.2.1)] [] e.2.2.2 Q) : xMach G π J_X12_copy (d + 0) C Z 2 [(0, .ref s0.1), (1, .int s0.2.1), (2, .int s0.2.2.1), (3, .int s0.2.2.2.1)] [] s0.2.2.2.2 Q := by
  refine xloop_run (M := (fun s : (Nat × Int32 × Int32 × Int32 × xM) => xMach G π J_X12_copy (d + 0) C Z 2 [(0, .ref s.1), (1, .int s.2.1), (2, .int s.2.2.1), (3, .int s.2.2.2.1)] [] s.2.2.2.2 Q)) (r := x) ?_ xF _ h1
  intro s y hs hx
  exact L_X12_copy_s2 s.2.2.2.2 s.1 s.2.1 s.2.2.1 s.2.2.2.1 (x := y) hs (fun g hg => by subst hg; exact hR g hx) (fun e he => by subst he; exact hE e hx) (fun e he => by subst he; exact hx)
def f_X12_copy_j42 (σ : xM) (l0 : Nat) (l1 : Int32) (l2 : Int32) : Option xM :=
  (gR σ l0 12 2).bind (fun x9 => (gR σ l0 12 2).bind (fun x10 => (aI σ x10 14 l2).bind (fun x11 => (wI σ x9 l1 x11).bind (fun σ12 => some σ12))))
set_option maxHeartbeats 4000000 in
set_option maxRecDepth 20000 in
theorem L_X12_copy_j42 {G : xG} {π : Nat → Nat} {d C Z : Nat} {Q : xQ} (σ : xM) (l0 : Nat) (l1 : Int32) (l2 : Int32) {x : xM} (hf : f_X12_copy_j42 σ l0 l1 l2 = some x) (hR : ∀ g, x = g → Q (.inl none) (g) π) : xMach G π J_X12_copy (d + 0) C Z 42 [(0, .ref l0), (1, .int l1), (2, .int l2)] [] σ Q := by
  unfold f_X12_copy_j42 at hf
  refine xm_aload_n dX12_copy_42 rfl ?_
  refine xb_getR (a := l0) (c := 12) (k := 2) dX12_copy_43 xcl12 (by decide) xw_1839 rfl hf (fun x9 ex9 hf => ?_)
  refine xm_iload_n dX12_copy_46 rfl ?_
  refine xm_aload_n dX12_copy_47 rfl ?_
  refine xb_getR (a := l0) (c := 12) (k := 2) dX12_copy_48 xcl12 (by decide) xw_1839 rfl hf (fun x10 ex10 hf => ?_)
  refine xm_iload_n dX12_copy_51 rfl ?_
  refine xb_iald dX12_copy_52 hf (fun x11 ex11 hf => ?_)
  refine xb_iast dX12_copy_53 hf (fun σ12 eσ12 hf => ?_)
  cases hf
  exact xm_vret dX12_copy_54 rfl (hR _ rfl)
def f_X12_copy (σ : xM) (l0 : Nat) (l1 : Int32) (l2 : Int32) : Option xM :=
  xlet (0 : Int32) (fun v1 => (xloop (f_X12_copy_s2 ) xF (l0, l1, l2, v1, σ)).bind (Sum.elim (fun g => some g) (fun e => f_X12_copy_j42 e.2.2.2 e.1 e.2.1 e.2.2.1)))
set_option maxHeartbeats 4000000 in
set_option maxRecDepth 20000 in
theorem m_X12_copy {G : xG} {π : Nat → Nat} {d C Z : Nat} {Q : xQ} {σ : xM} {l0 : Nat} {l1 : Int32} {l2 : Int32} {x : xM} (hf : f_X12_copy σ l0 l1 l2 = some x) (hR : ∀ g, x = g → Q (.inl none) (g) π) : xMach G π J_X12_copy (d + 0) C Z 0 (lv_args 0 [.ref l0, .int l1, .int l2]) [] σ Q := by
  unfold f_X12_copy at hf
  refine xm_stL (L' := [(0, .ref l0), (1, .int l1), (2, .int l2)]) rfl ?_
  refine xm_iconst dX12_copy_0 (v := 0) (by decide) ?_
  refine xb_topi hf (fun v1 ev1 hf => ?_)
  refine xm_istore_n dX12_copy_1 (by decide) (xm_stL (L' := [(3, .int v1), (0, .ref l0), (1, .int l1), (2, .int l2)]) rfl ?_)
  obtain ⟨o, h1, hf⟩ := xbind hf
  refine xm_sub [1, 2, 3, 0] rfl (L_X12_copy_l2  h1 (fun g hg => ?_) (fun e he => ?_))
  · subst hg
    cases hf
    exact hR _ rfl
  · subst he
    rw [Sum.elim_inr] at hf
    have hf : f_X12_copy_j42 e.2.2.2 e.1 e.2.1 e.2.2.1 = some _ := hf
    exact xm_sub [0, 1, 2] rfl (L_X12_copy_j42 e.2.2.2 e.1 e.2.1 e.2.2.1 hf hR)
-- RankwiseModel.compare(II)I
def f_X12_compare_s48 (σ : xM) (s : (Nat × Int32 × Int32 × Int32 × Int32)) : Option (Int32 ⊕ ((Int32) ⊕ (Nat × Int32 × Int32 × Int32 × Int32))) :=
  xlet s.1 (fun l0 => xlet s.2.1 (fun l1 => xlet s.2.2.1 (fun l2 => xlet s.2.2.2.1 (fun l3 => xlet s.2.2.2.2 (fun l4 => (if l4 < (0 : Int32) then some (Sum.inr (Sum.inl l3)) else (if l3 = (0 : Int32) then (gR σ l0 12 1).bind (fun x9 => (aI σ x9 14 (((440 : Int32) * l1) + l4)).bind (fun x10 => (gR σ l0 12 1).bind (fun x11 => (aI σ x11 14 (((440 : Int32) * l2) + l4)).bind (fun x12 => xlet (x10 - x12) (fun v13 => xlet (l4 + (-1 : Int32)) (fun v14 => some (Sum.inr (Sum.inr (l0, l1, l2, v13, v14))))))))) else some (Sum.inr (Sum.inl l3)))))))))
set_option maxHeartbeats 4000000 in
set_option maxRecDepth 20000 in
theorem L_X12_compare_s48 {G : xG} {π : Nat → Nat} {d C Z : Nat} {Q : xQ} (σ : xM) (l0 : Nat) (l1 : Int32) (l2 : Int32) (l3 : Int32) (l4 : Int32) {x : (Int32 ⊕ ((Int32) ⊕ (Nat × Int32 × Int32 × Int32 × Int32)))} (hf : f_X12_compare_s48 σ (l0, l1, l2, l3, l4) = some x) (hR : ∀ g, x = Sum.inl (g) → Q (.inl (some (.int g))) (σ) π) (hE : ∀ e : (Int32), x = Sum.inr (Sum.inl e) → xMach G π J_X12_compare (d + 0) C Z 91 [(3, .int e)] [] σ Q) (hC : ∀ e : (Nat × Int32 × Int32 × Int32 × Int32), x = Sum.inr (Sum.inr e) → xMach G π J_X12_compare (d + 0) C Z 48 [(0, .ref e.1), (1, .int e.2.1), (2, .int e.2.2.1), (3, .int e.2.2.2.1), (4, .int e.2.2.2.2)] [] σ Q) : xMach G π J_X12_compare (d + 0) C Z 48 [(0, .ref l0), (1, .int l1), (2, .int l2), (3, .int l3), (4, .int l4)] [] σ Q := by
  have hf : (if l4 < (0 : Int32) then some (Sum.inr (Sum.inl l3)) else (if l3 = (0 : Int32) then (gR σ l0 12 1).bind (fun x9 => (aI σ x9 14 (((440 : Int32) * l1) + l4)).bind (fun x10 => (gR σ l0 12 1).bind (fun x11 => (aI σ x11 14 (((440 : Int32) * l2) + l4)).bind (fun x12 => xlet (x10 - x12) (fun v13 => xlet (l4 + (-1 : Int32)) (fun v14 => some (Sum.inr (Sum.inr (l0, l1, l2, v13, v14))))))))) else some (Sum.inr (Sum.inl l3)))) = some x := hf
  refine xm_iload dX12_compare_48 rfl ?_
  refine xb_if_lt 91 dX12_compare_50 (by decide) hf (fun c hf => ?_) (fun c hf => ?_)
  · cases hf
    exact xm_sub [3] rfl (hE _ rfl)
  · refine xm_iload_n dX12_compare_53 rfl ?_
    refine xb_if_ne 91 dX12_compare_54 (by decide) hf (fun c hf => ?_) (fun c hf => ?_)
    · cases hf
      exact xm_sub [3] rfl (hE _ rfl)
    · refine xm_aload_n dX12_compare_57 rfl ?_
      refine xb_getR (a := l0) (c := 12) (k := 1) dX12_compare_58 xcl12 (by decide) xw_1838 rfl hf (fun x9 ex9 hf => ?_)
      refine xm_sipush dX12_compare_61 (v := 440) (by decide) ?_
      refine xm_iload_n dX12_compare_64 rfl ?_
      refine xm_imul dX12_compare_65 ?_
      refine xm_iload dX12_compare_66 rfl ?_
      refine xm_iadd dX12_compare_68 ?_
      refine xb_iald dX12_compare_69 hf (fun x10 ex10 hf => ?_)
      refine xm_aload_n dX12_compare_70 rfl ?_
      refine xb_getR (a := l0) (c := 12) (k := 1) dX12_compare_71 xcl12 (by decide) xw_1838 rfl hf (fun x11 ex11 hf => ?_)
      refine xm_sipush dX12_compare_74 (v := 440) (by decide) ?_
      refine xm_iload_n dX12_compare_77 rfl ?_
      refine xm_imul dX12_compare_78 ?_
      refine xm_iload dX12_compare_79 rfl ?_
      refine xm_iadd dX12_compare_81 ?_
      refine xb_iald dX12_compare_82 hf (fun x12 ex12 hf => ?_)
      refine xm_isub dX12_compare_83 ?_
      refine xb_topi hf (fun v13 ev13 hf => ?_)
      refine xm_istore_n dX12_compare_84 (by decide) (xm_stL (L' := [(3, .int v13), (0, .ref l0), (1, .int l1), (2, .int l2), (4, .int l4)]) rfl ?_)
      refine xb_iinc dX12_compare_85 rfl (by decide) (by decide) hf (fun v14 ev14 hf => xm_stL (L' := [(4, .int v14), (3, .int v13), (0, .ref l0), (1, .int l1), (2, .int l2)]) rfl ?_)
      refine xm_goto 48 dX12_compare_88 (by decide) ?_
      cases hf
      exact xm_sub [2, 3, 4, 1, 0] rfl (hC _ rfl)
theorem L_X12_compare_l48 {G : xG} {π : Nat → Nat} {d C Z : Nat} {Q : xQ} (σ : xM) {s0 : (Nat × Int32 × Int32 × Int32 × Int32)} {x : (Int32 ⊕ (Int32))} (h1 : xloop (f_X12_compare_s48 σ) xF s0 = some x) (hR : ∀ g, x = Sum.inl g → Q (.inl (some (.int g))) (σ) π) (hE : ∀ e : (Int32), x = Sum.inr e → xMach G π J_X12_compare (d + 0) C Z 91 [(3, .int e)] [] σ Q) : xMach G π J_X12_compare (d + 0) C Z 48 [(0, .ref s0.1), (1, .int s0.2.1), (2, .int s0.2.2.1), (3, .int s0.2.2.2.1), (4, .int s0.2.2.2.2)] [] σ Q := by
  refine xloop_run (M := (fun s : (Nat × Int32 × Int32 × Int32 × Int32) => xMach G π J_X12_compare (d + 0) C Z 48 [(0, .ref s.1), (1, .int s.2.1), (2, .int s.2.2.1), (3, .int s.2.2.2.1), (4, .int s.2.2.2.2)] [] σ Q)) (r := x) ?_ xF _ h1
  intro s y hs hx
  exact L_X12_compare_s48 σ s.1 s.2.1 s.2.2.1 s.2.2.2.1 s.2.2.2.2 (x := y) hs (fun g hg => by subst hg; exact hR g hx) (fun e he => by subst he; exact hE e hx) (fun e he => by subst he; exact hx)
def f_X12_compare_j91 (σ : xM) (l3 : Int32) : Option Int32 :=
  some l3
set_option maxHeartbeats 4000000 in
set_option maxRecDepth 20000 in
theorem L_X12_compare_j91 {G : xG} {π : Nat → Nat} {d C Z : Nat} {Q : xQ} (σ : xM) (l3 : Int32) {x : Int32} (hf : f_X12_compare_j91 σ l3 = some x) (hR : ∀ g, x = g → Q (.inl (some (.int g))) (σ) π) : xMach G π J_X12_compare (d + 0) C Z 91 [(3, .int l3)] [] σ Q := by
  unfold f_X12_compare_j91 at hf
  refine xm_iload_n dX12_compare_91 rfl ?_
  cases hf
  exact xm_iret dX12_compare_92 rfl (hR _ rfl)
def f_X12_compare_j35 (σ : xM) (s0 : Int32) : Option Int32 :=
  some s0
set_option maxHeartbeats 4000000 in
set_option maxRecDepth 20000 in
theorem L_X12_compare_j35 {G : xG} {π : Nat → Nat} {d C Z : Nat} {Q : xQ} (σ : xM) (s0 : Int32) {x : Int32} (hf : f_X12_compare_j35 σ s0 = some x) (hR : ∀ g, x = g → Q (.inl (some (.int g))) (σ) π) : xMach G π J_X12_compare (d + 0) C Z 35 [] [.int s0] σ Q := by
  unfold f_X12_compare_j35 at hf
  cases hf
  exact xm_iret dX12_compare_35 rfl (hR _ rfl)
def f_X12_compare (σ : xM) (l0 : Nat) (l1 : Int32) (l2 : Int32) : Option Int32 :=
  (gR σ l0 12 2).bind (fun x1 => (aI σ x1 14 l1).bind (fun x2 => (gR σ l0 12 2).bind (fun x3 => (aI σ x3 14 l2).bind (fun x4 => (if x2 = x4 then xlet (0 : Int32) (fun v5 => (gR σ l0 12 2).bind (fun x6 => (aI σ x6 14 l1).bind (fun x7 => xlet (x7 - (1 : Int32)) (fun v8 => (xloop (f_X12_compare_s48 σ ) xF (l0, l1, l2, v5, v8)).bind (Sum.elim (fun g => some g) (fun e => f_X12_compare_j91 σ e)))))) else (gR σ l0 12 2).bind (fun x15 => (aI σ x15 14 l1).bind (fun x16 => (gR σ l0 12 2).bind (fun x17 => (aI σ x17 14 l2).bind (fun x18 => (if x18 ≤ x16 then f_X12_compare_j35 σ (1 : Int32) else f_X12_compare_j35 σ (-1 : Int32)))))))))))
set_option maxHeartbeats 4000000 in
set_option maxRecDepth 20000 in
theorem m_X12_compare {G : xG} {π : Nat → Nat} {d C Z : Nat} {Q : xQ} {σ : xM} {l0 : Nat} {l1 : Int32} {l2 : Int32} {x : Int32} (hf : f_X12_compare σ l0 l1 l2 = some x) (hR : ∀ g, x = g → Q (.inl (some (.int g))) (σ) π) : xMach G π J_X12_compare (d + 0) C Z 0 (lv_args 0 [.ref l0, .int l1, .int l2]) [] σ Q := by
  unfold f_X12_compare at hf
  refine xm_stL (L' := [(0, .ref l0), (1, .int l1), (2, .int l2)]) rfl ?_
  refine xm_aload_n dX12_compare_0 rfl ?_
  refine xb_getR (a := l0) (c := 12) (k := 2) dX12_compare_1 xcl12 (by decide) xw_1839 rfl hf (fun x1 ex1 hf => ?_)
  refine xm_iload_n dX12_compare_4 rfl ?_
  refine xb_iald dX12_compare_5 hf (fun x2 ex2 hf => ?_)
  refine xm_aload_n dX12_compare_6 rfl ?_
  refine xb_getR (a := l0) (c := 12) (k := 2) dX12_compare_7 xcl12 (by decide) xw_1839 rfl hf (fun x3 ex3 hf => ?_)
  refine xm_iload_n dX12_compare_10 rfl ?_
  refine xb_iald dX12_compare_11 hf (fun x4 ex4 hf => ?_)
  refine xb_icmp_eq 36 dX12_compare_12 (by decide) hf (fun c hf => ?_) (fun c hf => ?_)
  · refine xm_iconst dX12_compare_36 (v := 0) (by decide) ?_
    refine xb_topi hf (fun v5 ev5 hf => ?_)
    refine xm_istore_n dX12_compare_37 (by decide) (xm_stL (L' := [(3, .int v5), (0, .ref l0), (1, .int l1), (2, .int l2)]) rfl ?_)
    refine xm_aload_n dX12_compare_38 rfl ?_
    refine xb_getR (a := l0) (c := 12) (k := 2) dX12_compare_39 xcl12 (by decide) xw_1839 rfl hf (fun x6 ex6 hf => ?_)
    refine xm_iload_n dX12_compare_42 rfl ?_
    refine xb_iald dX12_compare_43 hf (fun x7 ex7 hf => ?_)
    refine xm_iconst dX12_compare_44 (v := 1) (by decide) ?_
    refine xm_isub dX12_compare_45 ?_
    refine xb_topi hf (fun v8 ev8 hf => ?_)
    refine xm_istore dX12_compare_46 (by decide) (xm_stL (L' := [(4, .int v8), (3, .int v5), (0, .ref l0), (1, .int l1), (2, .int l2)]) rfl ?_)
    obtain ⟨o, h1, hf⟩ := xbind hf
    refine xm_sub [2, 3, 4, 1, 0] rfl (L_X12_compare_l48 σ h1 (fun g hg => ?_) (fun e he => ?_))
    · subst hg
      cases hf
      exact hR _ rfl
    · subst he
      rw [Sum.elim_inr] at hf
      have hf : f_X12_compare_j91 σ e = some _ := hf
      exact xm_sub [0] rfl (L_X12_compare_j91 σ e hf hR)
  · refine xm_aload_n dX12_compare_15 rfl ?_
    refine xb_getR (a := l0) (c := 12) (k := 2) dX12_compare_16 xcl12 (by decide) xw_1839 rfl hf (fun x15 ex15 hf => ?_)
    refine xm_iload_n dX12_compare_19 rfl ?_
    refine xb_iald dX12_compare_20 hf (fun x16 ex16 hf => ?_)
    refine xm_aload_n dX12_compare_21 rfl ?_
    refine xb_getR (a := l0) (c := 12) (k := 2) dX12_compare_22 xcl12 (by decide) xw_1839 rfl hf (fun x17 ex17 hf => ?_)
    refine xm_iload_n dX12_compare_25 rfl ?_
    refine xb_iald dX12_compare_26 hf (fun x18 ex18 hf => ?_)
    refine xb_icmp_ge 34 dX12_compare_27 (by decide) hf (fun c hf => ?_) (fun c hf => ?_)
    · refine xm_iconst dX12_compare_34 (v := 1) (by decide) ?_
      exact xm_sub [] rfl (L_X12_compare_j35 σ (1 : Int32) hf hR)
    · refine xm_iconst dX12_compare_30 (v := -1) (by decide) ?_
      refine xm_goto 35 dX12_compare_31 (by decide) ?_
      exact xm_sub [] rfl (L_X12_compare_j35 σ (-1 : Int32) hf hR)
-- RankwiseModel.plus(II)V
def f_X12_plus_j151 (σ : xM) (l0 : Nat) (l1 : Int32) (l2 : Int32) (l3 : Int32) (l5 : Int32) (s0 : Int32) : Option (xM ⊕ ((Nat × Int32 × Int32 × xM) ⊕ (Nat × Int32 × Int32 × Int32 × Int32 × Int32 × xM))) :=
  xlet (l5 + (1 : Int32)) (fun v17 => some (Sum.inr (Sum.inr (l0, l1, l2, l3, s0, v17, σ))))
set_option maxHeartbeats 4000000 in
set_option maxRecDepth 20000 in
theorem L_X12_plus_j151 {G : xG} {π : Nat → Nat} {d C Z : Nat} {Q : xQ} (σ : xM) (l0 : Nat) (l1 : Int32) (l2 : Int32) (l3 : Int32) (l5 : Int32) (s0 : Int32) {x : (xM ⊕ ((Nat × Int32 × Int32 × xM) ⊕ (Nat × Int32 × Int32 × Int32 × Int32 × Int32 × xM)))} (hf : f_X12_plus_j151 σ l0 l1 l2 l3 l5 s0 = some x) (hR : ∀ g, x = Sum.inl (g) → Q (.inl none) (g) π) (hE : ∀ e : (Nat × Int32 × Int32 × xM), x = Sum.inr (Sum.inl e) → xMach G π J_X12_plus (d + 0) C Z 159 [(0, .ref e.1), (1, .int e.2.1), (4, .int e.2.2.1)] [] e.2.2.2 Q) (hC : ∀ e : (Nat × Int32 × Int32 × Int32 × Int32 × Int32 × xM), x = Sum.inr (Sum.inr e) → xMach G π J_X12_plus (d + 0) C Z 37 [(0, .ref e.1), (1, .int e.2.1), (2, .int e.2.2.1), (3, .int e.2.2.2.1), (4, .int e.2.2.2.2.1), (5, .int e.2.2.2.2.2.1)] [] e.2.2.2.2.2.2 Q) : xMach G π J_X12_plus (d + 0) C Z 151 [(0, .ref l0), (1, .int l1), (2, .int l2), (3, .int l3), (5, .int l5)] [.int s0] σ Q := by
  unfold f_X12_plus_j151 at hf
  refine xm_istore dX12_plus_151 (by decide) (xm_stL (L' := [(4, .int s0), (0, .ref l0), (1, .int l1), (2, .int l2), (3, .int l3), (5, .int l5)]) rfl ?_)
  refine xb_iinc dX12_plus_153 rfl (by decide) (by decide) hf (fun v17 ev17 hf => xm_stL (L' := [(5, .int v17), (4, .int s0), (0, .ref l0), (1, .int l1), (2, .int l2), (3, .int l3)]) rfl ?_)
  refine xm_goto 37 dX12_plus_156 (by decide) ?_
  cases hf
  exact xm_sub [2, 3, 4, 5, 1, 0] rfl (hC _ rfl)
def f_X12_plus_j106 (σ : xM) (l0 : Nat) (l1 : Int32) (l2 : Int32) (l4 : Int32) (l5 : Int32) (s0 : Int32) (s1 : Int32) : Option (xM ⊕ ((Nat × Int32 × Int32 × xM) ⊕ (Nat × Int32 × Int32 × Int32 × Int32 × Int32 × xM))) :=
  xlet (s1 + s0) (fun v13 => (gR σ l0 12 1).bind (fun x14 => (wI σ x14 (((440 : Int32) * l1) + l5) (v13 &&& (65535 : Int32))).bind (fun σ15 => xlet (v13 >>> ((16 : Int32) &&& 31)) (fun v16 => (if (l5 + (1 : Int32)) ≤ l4 then f_X12_plus_j151 σ15 l0 l1 l2 v16 l5 l4 else f_X12_plus_j151 σ15 l0 l1 l2 v16 l5 (l5 + (1 : Int32)))))))
set_option maxHeartbeats 4000000 in
set_option maxRecDepth 20000 in
theorem L_X12_plus_j106 {G : xG} {π : Nat → Nat} {d C Z : Nat} {Q : xQ} (σ : xM) (l0 : Nat) (l1 : Int32) (l2 : Int32) (l4 : Int32) (l5 : Int32) (s0 : Int32) (s1 : Int32) {x : (xM ⊕ ((Nat × Int32 × Int32 × xM) ⊕ (Nat × Int32 × Int32 × Int32 × Int32 × Int32 × xM)))} (hf : f_X12_plus_j106 σ l0 l1 l2 l4 l5 s0 s1 = some x) (hR : ∀ g, x = Sum.inl (g) → Q (.inl none) (g) π) (hE : ∀ e : (Nat × Int32 × Int32 × xM), x = Sum.inr (Sum.inl e) → xMach G π J_X12_plus (d + 0) C Z 159 [(0, .ref e.1), (1, .int e.2.1), (4, .int e.2.2.1)] [] e.2.2.2 Q) (hC : ∀ e : (Nat × Int32 × Int32 × Int32 × Int32 × Int32 × xM), x = Sum.inr (Sum.inr e) → xMach G π J_X12_plus (d + 0) C Z 37 [(0, .ref e.1), (1, .int e.2.1), (2, .int e.2.2.1), (3, .int e.2.2.2.1), (4, .int e.2.2.2.2.1), (5, .int e.2.2.2.2.2.1)] [] e.2.2.2.2.2.2 Q) : xMach G π J_X12_plus (d + 0) C Z 106 [(0, .ref l0), (1, .int l1), (2, .int l2), (4, .int l4), (5, .int l5)] [.int s0, .int s1] σ Q := by
  unfold f_X12_plus_j106 at hf
  refine xm_iadd dX12_plus_106 ?_
  refine xb_topi hf (fun v13 ev13 hf => ?_)
  refine xm_istore dX12_plus_107 (by decide) (xm_stL (L' := [(6, .int v13), (0, .ref l0), (1, .int l1), (2, .int l2), (4, .int l4), (5, .int l5)]) rfl ?_)
  refine xm_aload_n dX12_plus_109 rfl ?_
  refine xb_getR (a := l0) (c := 12) (k := 1) dX12_plus_110 xcl12 (by decide) xw_1838 rfl hf (fun x14 ex14 hf => ?_)
  refine xm_sipush dX12_plus_113 (v := 440) (by decide) ?_
  refine xm_iload_n dX12_plus_116 rfl ?_
  refine xm_imul dX12_plus_117 ?_
  refine xm_iload dX12_plus_118 rfl ?_
  refine xm_iadd dX12_plus_120 ?_
  refine xm_iload dX12_plus_121 rfl ?_
  refine xm_ldc dX12_plus_123 (xws_in xw_1828) ?_
  refine xm_iand dX12_plus_125 ?_
  refine xb_iast dX12_plus_126 hf (fun σ15 eσ15 hf => ?_)
  refine xm_iload dX12_plus_127 rfl ?_
  refine xm_bipush dX12_plus_129 (v := 16) (by decide) ?_
  refine xm_ishr dX12_plus_131 ?_
  refine xb_topi hf (fun v16 ev16 hf => ?_)
  refine xm_istore_n dX12_plus_132 (by decide) (xm_stL (L' := [(3, .int v16), (6, .int v13), (0, .ref l0), (1, .int l1), (2, .int l2), (4, .int l4), (5, .int l5)]) rfl ?_)
  refine xm_iload dX12_plus_133 rfl ?_
  refine xm_iconst dX12_plus_135 (v := 1) (by decide) ?_
  refine xm_iadd dX12_plus_136 ?_
  refine xm_iload dX12_plus_137 rfl ?_
  refine xb_icmp_le 149 dX12_plus_139 (by decide) hf (fun c hf => ?_) (fun c hf => ?_)
  · refine xm_iload dX12_plus_149 rfl ?_
    exact xm_sub [2, 3, 4, 0, 6] rfl (L_X12_plus_j151 σ15 l0 l1 l2 v16 l5 l4 hf hR hE hC)
  · refine xm_iload dX12_plus_142 rfl ?_
    refine xm_iconst dX12_plus_144 (v := 1) (by decide) ?_
    refine xm_iadd dX12_plus_145 ?_
    refine xm_goto 151 dX12_plus_146 (by decide) ?_
    exact xm_sub [2, 3, 4, 0, 6] rfl (L_X12_plus_j151 σ15 l0 l1 l2 v16 l5 (l5 + (1 : Int32)) hf hR hE hC)
def f_X12_plus_j77 (σ : xM) (l0 : Nat) (l1 : Int32) (l2 : Int32) (l4 : Int32) (l5 : Int32) (s0 : Int32) (s1 : Int32) : Option (xM ⊕ ((Nat × Int32 × Int32 × xM) ⊕ (Nat × Int32 × Int32 × Int32 × Int32 × Int32 × xM))) :=
  (gR σ l0 12 2).bind (fun x11 => (aI σ x11 14 l2).bind (fun x12 => (if x12 ≤ l5 then f_X12_plus_j106 σ l0 l1 l2 l4 l5 (0 : Int32) (s1 + s0) else (gR σ l0 12 1).bind (fun x18 => (aI σ x18 14 (((440 : Int32) * l2) + l5)).bind (fun x19 => f_X12_plus_j106 σ l0 l1 l2 l4 l5 x19 (s1 + s0))))))
set_option maxHeartbeats 4000000 in
set_option maxRecDepth 20000 in
theorem L_X12_plus_j77 {G : xG} {π : Nat → Nat} {d C Z : Nat} {Q : xQ} (σ : xM) (l0 : Nat) (l1 : Int32) (l2 : Int32) (l4 : Int32) (l5 : Int32) (s0 : Int32) (s1 : Int32) {x : (xM ⊕ ((Nat × Int32 × Int32 × xM) ⊕ (Nat × Int32 × Int32 × Int32 × Int32 × Int32 × xM)))} (hf : f_X12_plus_j77 σ l0 l1 l2 l4 l5 s0 s1 = some x) (hR : ∀ g, x = Sum.inl (g) → Q (.inl none) (g) π) (hE : ∀ e : (Nat × Int32 × Int32 × xM), x = Sum.inr (Sum.inl e) → xMach G π J_X12_plus (d + 0) C Z 159 [(0, .ref e.1), (1, .int e.2.1), (4, .int e.2.2.1)] [] e.2.2.2 Q) (hC : ∀ e : (Nat × Int32 × Int32 × Int32 × Int32 × Int32 × xM), x = Sum.inr (Sum.inr e) → xMach G π J_X12_plus (d + 0) C Z 37 [(0, .ref e.1), (1, .int e.2.1), (2, .int e.2.2.1), (3, .int e.2.2.2.1), (4, .int e.2.2.2.2.1), (5, .int e.2.2.2.2.2.1)] [] e.2.2.2.2.2.2 Q) : xMach G π J_X12_plus (d + 0) C Z 77 [(0, .ref l0), (1, .int l1), (2, .int l2), (4, .int l4), (5, .int l5)] [.int s0, .int s1] σ Q := by
  unfold f_X12_plus_j77 at hf
  refine xm_iadd dX12_plus_77 ?_
  refine xm_iload dX12_plus_78 rfl ?_
  refine xm_aload_n dX12_plus_80 rfl ?_
  refine xb_getR (a := l0) (c := 12) (k := 2) dX12_plus_81 xcl12 (by decide) xw_1839 rfl hf (fun x11 ex11 hf => ?_)
  refine xm_iload_n dX12_plus_84 rfl ?_
  refine xb_iald dX12_plus_85 hf (fun x12 ex12 hf => ?_)
  refine xb_icmp_ge 105 dX12_plus_86 (by decide) hf (fun c hf => ?_) (fun c hf => ?_)
  · refine xm_iconst dX12_plus_105 (v := 0) (by decide) ?_
    exact xm_sub [0, 1, 2, 3, 4] rfl (L_X12_plus_j106 σ l0 l1 l2 l4 l5 (0 : Int32) (s1 + s0) hf hR hE hC)
  · refine xm_aload_n dX12_plus_89 rfl ?_
    refine xb_getR (a := l0) (c := 12) (k := 1) dX12_plus_90 xcl12 (by decide) xw_1838 rfl hf (fun x18 ex18 hf => ?_)
    refine xm_sipush dX12_plus_93 (v := 440) (by decide) ?_
    refine xm_iload_n dX12_plus_96 rfl ?_
    refine xm_imul dX12_plus_97 ?_
    refine xm_iload dX12_plus_98 rfl ?_
    refine xm_iadd dX12_plus_100 ?_
    refine xb_iald dX12_plus_101 hf (fun x19 ex19 hf => ?_)
    refine xm_goto 106 dX12_plus_102 (by decide) ?_
    exact xm_sub [0, 1, 2, 3, 4] rfl (L_X12_plus_j106 σ l0 l1 l2 l4 l5 x19 (s1 + s0) hf hR hE hC)
def f_X12_plus_j48 (σ : xM) (l0 : Nat) (l1 : Int32) (l2 : Int32) (l3 : Int32) (l4 : Int32) (l5 : Int32) : Option (xM ⊕ ((Nat × Int32 × Int32 × xM) ⊕ (Nat × Int32 × Int32 × Int32 × Int32 × Int32 × xM))) :=
  (gR σ l0 12 2).bind (fun x9 => (aI σ x9 14 l1).bind (fun x10 => (if x10 ≤ l5 then f_X12_plus_j77 σ l0 l1 l2 l4 l5 (0 : Int32) l3 else (gR σ l0 12 1).bind (fun x20 => (aI σ x20 14 (((440 : Int32) * l1) + l5)).bind (fun x21 => f_X12_plus_j77 σ l0 l1 l2 l4 l5 x21 l3)))))
set_option maxHeartbeats 4000000 in
set_option maxRecDepth 20000 in
theorem L_X12_plus_j48 {G : xG} {π : Nat → Nat} {d C Z : Nat} {Q : xQ} (σ : xM) (l0 : Nat) (l1 : Int32) (l2 : Int32) (l3 : Int32) (l4 : Int32) (l5 : Int32) {x : (xM ⊕ ((Nat × Int32 × Int32 × xM) ⊕ (Nat × Int32 × Int32 × Int32 × Int32 × Int32 × xM)))} (hf : f_X12_plus_j48 σ l0 l1 l2 l3 l4 l5 = some x) (hR : ∀ g, x = Sum.inl (g) → Q (.inl none) (g) π) (hE : ∀ e : (Nat × Int32 × Int32 × xM), x = Sum.inr (Sum.inl e) → xMach G π J_X12_plus (d + 0) C Z 159 [(0, .ref e.1), (1, .int e.2.1), (4, .int e.2.2.1)] [] e.2.2.2 Q) (hC : ∀ e : (Nat × Int32 × Int32 × Int32 × Int32 × Int32 × xM), x = Sum.inr (Sum.inr e) → xMach G π J_X12_plus (d + 0) C Z 37 [(0, .ref e.1), (1, .int e.2.1), (2, .int e.2.2.1), (3, .int e.2.2.2.1), (4, .int e.2.2.2.2.1), (5, .int e.2.2.2.2.2.1)] [] e.2.2.2.2.2.2 Q) : xMach G π J_X12_plus (d + 0) C Z 48 [(0, .ref l0), (1, .int l1), (2, .int l2), (3, .int l3), (4, .int l4), (5, .int l5)] [] σ Q := by
  unfold f_X12_plus_j48 at hf
  refine xm_iload_n dX12_plus_48 rfl ?_
  refine xm_iload dX12_plus_49 rfl ?_
  refine xm_aload_n dX12_plus_51 rfl ?_
  refine xb_getR (a := l0) (c := 12) (k := 2) dX12_plus_52 xcl12 (by decide) xw_1839 rfl hf (fun x9 ex9 hf => ?_)
  refine xm_iload_n dX12_plus_55 rfl ?_
  refine xb_iald dX12_plus_56 hf (fun x10 ex10 hf => ?_)
  refine xb_icmp_ge 76 dX12_plus_57 (by decide) hf (fun c hf => ?_) (fun c hf => ?_)
  · refine xm_iconst dX12_plus_76 (v := 0) (by decide) ?_
    exact xm_sub [0, 1, 2, 4, 5] rfl (L_X12_plus_j77 σ l0 l1 l2 l4 l5 (0 : Int32) l3 hf hR hE hC)
  · refine xm_aload_n dX12_plus_60 rfl ?_
    refine xb_getR (a := l0) (c := 12) (k := 1) dX12_plus_61 xcl12 (by decide) xw_1838 rfl hf (fun x20 ex20 hf => ?_)
    refine xm_sipush dX12_plus_64 (v := 440) (by decide) ?_
    refine xm_iload_n dX12_plus_67 rfl ?_
    refine xm_imul dX12_plus_68 ?_
    refine xm_iload dX12_plus_69 rfl ?_
    refine xm_iadd dX12_plus_71 ?_
    refine xb_iald dX12_plus_72 hf (fun x21 ex21 hf => ?_)
    refine xm_goto 77 dX12_plus_73 (by decide) ?_
    exact xm_sub [0, 1, 2, 4, 5] rfl (L_X12_plus_j77 σ l0 l1 l2 l4 l5 x21 l3 hf hR hE hC)
def f_X12_plus_s37 (s : (Nat × Int32 × Int32 × Int32 × Int32 × Int32 × xM)) : Option (xM ⊕ ((Nat × Int32 × Int32 × xM) ⊕ (Nat × Int32 × Int32 × Int32 × Int32 × Int32 × xM))) :=
  xlet s.1 (fun l0 => xlet s.2.1 (fun l1 => xlet s.2.2.1 (fun l2 => xlet s.2.2.2.1 (fun l3 => xlet s.2.2.2.2.1 (fun l4 => xlet s.2.2.2.2.2.1 (fun l5 => xlet s.2.2.2.2.2.2 (fun σ => (if l5 < l4 then f_X12_plus_j48 σ l0 l1 l2 l3 l4 l5 else (if l3 ≤ (0 : Int32) then some (Sum.inr (Sum.inl (l0, l1, l4, σ))) else f_X12_plus_j48 σ l0 l1 l2 l3 l4 l5)))))))))
set_option maxHeartbeats 4000000 in
set_option maxRecDepth 20000 in
theorem L_X12_plus_s37 {G : xG} {π : Nat → Nat} {d C Z : Nat} {Q : xQ} (σ : xM) (l0 : Nat) (l1 : Int32) (l2 : Int32) (l3 : Int32) (l4 : Int32) (l5 : Int32) {x : (xM ⊕ ((Nat × Int32 × Int32 × xM) ⊕ (Nat × Int32 × Int32 × Int32 × Int32 × Int32 × xM)))} (hf : f_X12_plus_s37 (l0, l1, l2, l3, l4, l5, σ) = some x) (hR : ∀ g, x = Sum.inl (g) → Q (.inl none) (g) π) (hE : ∀ e : (Nat × Int32 × Int32 × xM), x = Sum.inr (Sum.inl e) → xMach G π J_X12_plus (d + 0) C Z 159 [(0, .ref e.1), (1, .int e.2.1), (4, .int e.2.2.1)] [] e.2.2.2 Q) (hC : ∀ e : (Nat × Int32 × Int32 × Int32 × Int32 × Int32 × xM), x = Sum.inr (Sum.inr e) → xMach G π J_X12_plus (d + 0) C Z 37 [(0, .ref e.1), (1, .int e.2.1), (2, .int e.2.2.1), (3, .int e.2.2.2.1), (4, .int e.2.2.2.2.1), (5, .int e.2.2.2.2.2.1)] [] e.2.2.2.2.2.2 Q) : xMach G π J_X12_plus (d + 0) C Z 37 [(0, .ref l0), (1, .int l1), (2, .int l2), (3, .int l3), (4, .int l4), (5, .int l5)] [] σ Q := by
  have hf : (if l5 < l4 then f_X12_plus_j48 σ l0 l1 l2 l3 l4 l5 else (if l3 ≤ (0 : Int32) then some (Sum.inr (Sum.inl (l0, l1, l4, σ))) else f_X12_plus_j48 σ l0 l1 l2 l3 l4 l5)) = some x := hf
  refine xm_iload dX12_plus_37 rfl ?_
  refine xm_iload dX12_plus_39 rfl ?_
  refine xb_icmp_lt 48 dX12_plus_41 (by decide) hf (fun c hf => ?_) (fun c hf => ?_)
  · exact xm_sub [0, 1, 2, 3, 4, 5] rfl (L_X12_plus_j48 σ l0 l1 l2 l3 l4 l5 hf hR hE hC)
  · refine xm_iload_n dX12_plus_44 rfl ?_
    refine xb_if_le 159 dX12_plus_45 (by decide) hf (fun c hf => ?_) (fun c hf => ?_)
    · cases hf
      exact xm_sub [0, 1, 4] rfl (hE _ rfl)
    · exact xm_sub [0, 1, 2, 3, 4, 5] rfl (L_X12_plus_j48 σ l0 l1 l2 l3 l4 l5 hf hR hE hC)
theorem L_X12_plus_l37 {G : xG} {π : Nat → Nat} {d C Z : Nat} {Q : xQ} {s0 : (Nat × Int32 × Int32 × Int32 × Int32 × Int32 × xM)} {x : (xM ⊕ (Nat × Int32 × Int32 × xM))} (h1 : xloop (f_X12_plus_s37) xF s0 = some x) (hR : ∀ g, x = Sum.inl g → Q (.inl none) (g) π) (hE : ∀ e : (Nat × Int32 × Int32 × xM), x = Sum.inr e → xMach G π J_X12_plus (d + 0) C Z 159 [(0, .ref e.1), (1, .int e.2.1), (4, .int e.2.2.1)] [] e.2.2.2 Q) : xMach G π J_X12_plus (d + 0) C Z 37 [(0, .ref s0.1), (1, .int s0.2.1), (2, .int s0.2.2.1), (3, .int s0.2.2.2.1), (4, .int s0.2.2.2.2.1), (5, .int s0.2.2.2.2.2.1)] [] s0.2.2.2.2.2.2 Q := by
  refine xloop_run (M := (fun s : (Nat × Int32 × Int32 × Int32 × Int32 × Int32 × xM) => xMach G π J_X12_plus (d + 0) C Z 37 [(0, .ref s.1), (1, .int s.2.1), (2, .int s.2.2.1), (3, .int s.2.2.2.1), (4, .int s.2.2.2.2.1), (5, .int s.2.2.2.2.2.1)] [] s.2.2.2.2.2.2 Q)) (r := x) ?_ xF _ h1
  intro s y hs hx
  exact L_X12_plus_s37 s.2.2.2.2.2.2 s.1 s.2.1 s.2.2.1 s.2.2.2.1 s.2.2.2.2.1 s.2.2.2.2.2.1 (x := y) hs (fun g hg => by subst hg; exact hR g hx) (fun e he => by subst he; exact hE e hx) (fun e he => by subst he; exact hx)
def f_X12_plus_j159 (σ : xM) (l0 : Nat) (l1 : Int32) (l4 : Int32) : Option xM :=
  (gR σ l0 12 2).bind (fun x22 => (wI σ x22 l1 l4).bind (fun σ23 => some σ23))
set_option maxHeartbeats 4000000 in
set_option maxRecDepth 20000 in
theorem L_X12_plus_j159 {G : xG} {π : Nat → Nat} {d C Z : Nat} {Q : xQ} (σ : xM) (l0 : Nat) (l1 : Int32) (l4 : Int32) {x : xM} (hf : f_X12_plus_j159 σ l0 l1 l4 = some x) (hR : ∀ g, x = g → Q (.inl none) (g) π) : xMach G π J_X12_plus (d + 0) C Z 159 [(0, .ref l0), (1, .int l1), (4, .int l4)] [] σ Q := by
  unfold f_X12_plus_j159 at hf
  refine xm_aload_n dX12_plus_159 rfl ?_
  refine xb_getR (a := l0) (c := 12) (k := 2) dX12_plus_160 xcl12 (by decide) xw_1839 rfl hf (fun x22 ex22 hf => ?_)
  refine xm_iload_n dX12_plus_163 rfl ?_
  refine xm_iload dX12_plus_164 rfl ?_
  refine xb_iast dX12_plus_166 hf (fun σ23 eσ23 hf => ?_)
  cases hf
  exact xm_vret dX12_plus_167 rfl (hR _ rfl)
def f_X12_plus_j32 (σ : xM) (l0 : Nat) (l1 : Int32) (l2 : Int32) (l3 : Int32) (s0 : Int32) : Option xM :=
  xlet (0 : Int32) (fun v8 => (xloop (f_X12_plus_s37 ) xF (l0, l1, l2, l3, s0, v8, σ)).bind (Sum.elim (fun g => some g) (fun e => f_X12_plus_j159 e.2.2.2 e.1 e.2.1 e.2.2.1)))
set_option maxHeartbeats 4000000 in
set_option maxRecDepth 20000 in
theorem L_X12_plus_j32 {G : xG} {π : Nat → Nat} {d C Z : Nat} {Q : xQ} (σ : xM) (l0 : Nat) (l1 : Int32) (l2 : Int32) (l3 : Int32) (s0 : Int32) {x : xM} (hf : f_X12_plus_j32 σ l0 l1 l2 l3 s0 = some x) (hR : ∀ g, x = g → Q (.inl none) (g) π) : xMach G π J_X12_plus (d + 0) C Z 32 [(0, .ref l0), (1, .int l1), (2, .int l2), (3, .int l3)] [.int s0] σ Q := by
  unfold f_X12_plus_j32 at hf
  refine xm_istore dX12_plus_32 (by decide) (xm_stL (L' := [(4, .int s0), (0, .ref l0), (1, .int l1), (2, .int l2), (3, .int l3)]) rfl ?_)
  refine xm_iconst dX12_plus_34 (v := 0) (by decide) ?_
  refine xb_topi hf (fun v8 ev8 hf => ?_)
  refine xm_istore dX12_plus_35 (by decide) (xm_stL (L' := [(5, .int v8), (4, .int s0), (0, .ref l0), (1, .int l1), (2, .int l2), (3, .int l3)]) rfl ?_)
  obtain ⟨o, h1, hf⟩ := xbind hf
  refine xm_sub [2, 3, 4, 5, 1, 0] rfl (L_X12_plus_l37  h1 (fun g hg => ?_) (fun e he => ?_))
  · subst hg
    cases hf
    exact hR _ rfl
  · subst he
    rw [Sum.elim_inr] at hf
    have hf : f_X12_plus_j159 e.2.2.2 e.1 e.2.1 e.2.2.1 = some _ := hf
    exact xm_sub [0, 1, 2] rfl (L_X12_plus_j159 e.2.2.2 e.1 e.2.1 e.2.2.1 hf hR)
def f_X12_plus (σ : xM) (l0 : Nat) (l1 : Int32) (l2 : Int32) : Option xM :=
  xlet (0 : Int32) (fun v1 => (gR σ l0 12 2).bind (fun x2 => (aI σ x2 14 l1).bind (fun x3 => (gR σ l0 12 2).bind (fun x4 => (aI σ x4 14 l2).bind (fun x5 => (if x3 ≤ x5 then (gR σ l0 12 2).bind (fun x6 => (aI σ x6 14 l2).bind (fun x7 => f_X12_plus_j32 σ l0 l1 l2 v1 x7)) else (gR σ l0 12 2).bind (fun x24 => (aI σ x24 14 l1).bind (fun x25 => f_X12_plus_j32 σ l0 l1 l2 v1 x25))))))))
set_option maxHeartbeats 4000000 in
set_option maxRecDepth 20000 in
theorem m_X12_plus {G : xG} {π : Nat → Nat} {d C Z : Nat} {Q : xQ} {σ : xM} {l0 : Nat} {l1 : Int32} {l2 : Int32} {x : xM} (hf : f_X12_plus σ l0 l1 l2 = some x) (hR : ∀ g, x = g → Q (.inl none) (g) π) : xMach G π J_X12_plus (d + 0) C Z 0 (lv_args 0 [.ref l0, .int l1, .int l2]) [] σ Q := by
  unfold f_X12_plus at hf
  refine xm_stL (L' := [(0, .ref l0), (1, .int l1), (2, .int l2)]) rfl ?_
  refine xm_iconst dX12_plus_0 (v := 0) (by decide) ?_
  refine xb_topi hf (fun v1 ev1 hf => ?_)
  refine xm_istore_n dX12_plus_1 (by decide) (xm_stL (L' := [(3, .int v1), (0, .ref l0), (1, .int l1), (2, .int l2)]) rfl ?_)
  refine xm_aload_n dX12_plus_2 rfl ?_
  refine xb_getR (a := l0) (c := 12) (k := 2) dX12_plus_3 xcl12 (by decide) xw_1839 rfl hf (fun x2 ex2 hf => ?_)
  refine xm_iload_n dX12_plus_6 rfl ?_
  refine xb_iald dX12_plus_7 hf (fun x3 ex3 hf => ?_)
  refine xm_aload_n dX12_plus_8 rfl ?_
  refine xb_getR (a := l0) (c := 12) (k := 2) dX12_plus_9 xcl12 (by decide) xw_1839 rfl hf (fun x4 ex4 hf => ?_)
  refine xm_iload_n dX12_plus_12 rfl ?_
  refine xb_iald dX12_plus_13 hf (fun x5 ex5 hf => ?_)
  refine xb_icmp_le 26 dX12_plus_14 (by decide) hf (fun c hf => ?_) (fun c hf => ?_)
  · refine xm_aload_n dX12_plus_26 rfl ?_
    refine xb_getR (a := l0) (c := 12) (k := 2) dX12_plus_27 xcl12 (by decide) xw_1839 rfl hf (fun x6 ex6 hf => ?_)
    refine xm_iload_n dX12_plus_30 rfl ?_
    refine xb_iald dX12_plus_31 hf (fun x7 ex7 hf => ?_)
    exact xm_sub [1, 2, 3, 0] rfl (L_X12_plus_j32 σ l0 l1 l2 v1 x7 hf hR)
  · refine xm_aload_n dX12_plus_17 rfl ?_
    refine xb_getR (a := l0) (c := 12) (k := 2) dX12_plus_18 xcl12 (by decide) xw_1839 rfl hf (fun x24 ex24 hf => ?_)
    refine xm_iload_n dX12_plus_21 rfl ?_
    refine xb_iald dX12_plus_22 hf (fun x25 ex25 hf => ?_)
    refine xm_goto 32 dX12_plus_23 (by decide) ?_
    exact xm_sub [1, 2, 3, 0] rfl (L_X12_plus_j32 σ l0 l1 l2 v1 x25 hf hR)
-- RankwiseModel.minus(II)V
def f_X12_minus_j90 (σ : xM) (l0 : Nat) (l1 : Int32) (l2 : Int32) (l4 : Int32) (s0 : Int32) : Option (xM ⊕ ((Nat × Int32 × xM) ⊕ (Nat × Int32 × Int32 × Int32 × Int32 × xM))) :=
  xlet (l4 + (1 : Int32)) (fun v12 => some (Sum.inr (Sum.inr (l0, l1, l2, s0, v12, σ))))
set_option maxHeartbeats 4000000 in
set_option maxRecDepth 20000 in
theorem L_X12_minus_j90 {G : xG} {π : Nat → Nat} {d C Z : Nat} {Q : xQ} (σ : xM) (l0 : Nat) (l1 : Int32) (l2 : Int32) (l4 : Int32) (s0 : Int32) {x : (xM ⊕ ((Nat × Int32 × xM) ⊕ (Nat × Int32 × Int32 × Int32 × Int32 × xM)))} (hf : f_X12_minus_j90 σ l0 l1 l2 l4 s0 = some x) (hR : ∀ g, x = Sum.inl (g) → Q (.inl none) (g) π) (hE : ∀ e : (Nat × Int32 × xM), x = Sum.inr (Sum.inl e) → xMach G π J_X12_minus (d + 1) C Z 97 [(0, .ref e.1), (1, .int e.2.1)] [] e.2.2 Q) (hC : ∀ e : (Nat × Int32 × Int32 × Int32 × Int32 × xM), x = Sum.inr (Sum.inr e) → xMach G π J_X12_minus (d + 1) C Z 5 [(0, .ref e.1), (1, .int e.2.1), (2, .int e.2.2.1), (3, .int e.2.2.2.1), (4, .int e.2.2.2.2.1)] [] e.2.2.2.2.2 Q) : xMach G π J_X12_minus (d + 1) C Z 90 [(0, .ref l0), (1, .int l1), (2, .int l2), (4, .int l4)] [.int s0] σ Q := by
  unfold f_X12_minus_j90 at hf
  refine xm_istore_n dX12_minus_90 (by decide) (xm_stL (L' := [(3, .int s0), (0, .ref l0), (1, .int l1), (2, .int l2), (4, .int l4)]) rfl ?_)
  refine xb_iinc dX12_minus_91 rfl (by decide) (by decide) hf (fun v12 ev12 hf => xm_stL (L' := [(4, .int v12), (3, .int s0), (0, .ref l0), (1, .int l1), (2, .int l2)]) rfl ?_)
  refine xm_goto 5 dX12_minus_94 (by decide) ?_
  cases hf
  exact xm_sub [2, 3, 4, 1, 0] rfl (hC _ rfl)
def f_X12_minus_j59 (σ : xM) (l0 : Nat) (l1 : Int32) (l2 : Int32) (l4 : Int32) (s0 : Int32) (s1 : Int32) : Option (xM ⊕ ((Nat × Int32 × xM) ⊕ (Nat × Int32 × Int32 × Int32 × Int32 × xM))) :=
  xlet (s1 - s0) (fun v9 => (gR σ l0 12 1).bind (fun x10 => (wI σ x10 (((440 : Int32) * l1) + l4) (v9 &&& (65535 : Int32))).bind (fun σ11 => (if (0 : Int32) ≤ v9 then f_X12_minus_j90 σ11 l0 l1 l2 l4 (0 : Int32) else f_X12_minus_j90 σ11 l0 l1 l2 l4 (1 : Int32)))))
set_option maxHeartbeats 4000000 in
set_option maxRecDepth 20000 in
theorem L_X12_minus_j59 {G : xG} {π : Nat → Nat} {d C Z : Nat} {Q : xQ} (σ : xM) (l0 : Nat) (l1 : Int32) (l2 : Int32) (l4 : Int32) (s0 : Int32) (s1 : Int32) {x : (xM ⊕ ((Nat × Int32 × xM) ⊕ (Nat × Int32 × Int32 × Int32 × Int32 × xM)))} (hf : f_X12_minus_j59 σ l0 l1 l2 l4 s0 s1 = some x) (hR : ∀ g, x = Sum.inl (g) → Q (.inl none) (g) π) (hE : ∀ e : (Nat × Int32 × xM), x = Sum.inr (Sum.inl e) → xMach G π J_X12_minus (d + 1) C Z 97 [(0, .ref e.1), (1, .int e.2.1)] [] e.2.2 Q) (hC : ∀ e : (Nat × Int32 × Int32 × Int32 × Int32 × xM), x = Sum.inr (Sum.inr e) → xMach G π J_X12_minus (d + 1) C Z 5 [(0, .ref e.1), (1, .int e.2.1), (2, .int e.2.2.1), (3, .int e.2.2.2.1), (4, .int e.2.2.2.2.1)] [] e.2.2.2.2.2 Q) : xMach G π J_X12_minus (d + 1) C Z 59 [(0, .ref l0), (1, .int l1), (2, .int l2), (4, .int l4)] [.int s0, .int s1] σ Q := by
  unfold f_X12_minus_j59 at hf
  refine xm_isub dX12_minus_59 ?_
  refine xb_topi hf (fun v9 ev9 hf => ?_)
  refine xm_istore dX12_minus_60 (by decide) (xm_stL (L' := [(5, .int v9), (0, .ref l0), (1, .int l1), (2, .int l2), (4, .int l4)]) rfl ?_)
  refine xm_aload_n dX12_minus_62 rfl ?_
  refine xb_getR (a := l0) (c := 12) (k := 1) dX12_minus_63 xcl12 (by decide) xw_1838 rfl hf (fun x10 ex10 hf => ?_)
  refine xm_sipush dX12_minus_66 (v := 440) (by decide) ?_
  refine xm_iload_n dX12_minus_69 rfl ?_
  refine xm_imul dX12_minus_70 ?_
  refine xm_iload dX12_minus_71 rfl ?_
  refine xm_iadd dX12_minus_73 ?_
  refine xm_iload dX12_minus_74 rfl ?_
  refine xm_ldc dX12_minus_76 (xws_in xw_1828) ?_
  refine xm_iand dX12_minus_78 ?_
  refine xb_iast dX12_minus_79 hf (fun σ11 eσ11 hf => ?_)
  refine xm_iload dX12_minus_80 rfl ?_
  refine xb_if_ge 89 dX12_minus_82 (by decide) hf (fun c hf => ?_) (fun c hf => ?_)
  · refine xm_iconst dX12_minus_89 (v := 0) (by decide) ?_
    exact xm_sub [1, 2, 3, 4] rfl (L_X12_minus_j90 σ11 l0 l1 l2 l4 (0 : Int32) hf hR hE hC)
  · refine xm_iconst dX12_minus_85 (v := 1) (by decide) ?_
    refine xm_goto 90 dX12_minus_86 (by decide) ?_
    exact xm_sub [1, 2, 3, 4] rfl (L_X12_minus_j90 σ11 l0 l1 l2 l4 (1 : Int32) hf hR hE hC)
def f_X12_minus_s5 (s : (Nat × Int32 × Int32 × Int32 × Int32 × xM)) : Option (xM ⊕ ((Nat × Int32 × xM) ⊕ (Nat × Int32 × Int32 × Int32 × Int32 × xM))) :=
  xlet s.1 (fun l0 => xlet s.2.1 (fun l1 => xlet s.2.2.1 (fun l2 => xlet s.2.2.2.1 (fun l3 => xlet s.2.2.2.2.1 (fun l4 => xlet s.2.2.2.2.2 (fun σ => (gR σ l0 12 2).bind (fun x3 => (aI σ x3 14 l1).bind (fun x4 => (if x4 ≤ l4 then some (Sum.inr (Sum.inl (l0, l1, σ))) else (gR σ l0 12 1).bind (fun x5 => (aI σ x5 14 (((440 : Int32) * l1) + l4)).bind (fun x6 => (gR σ l0 12 2).bind (fun x7 => (aI σ x7 14 l2).bind (fun x8 => (if x8 ≤ l4 then f_X12_minus_j59 σ l0 l1 l2 l4 (0 : Int32) (x6 - l3) else (gR σ l0 12 1).bind (fun x13 => (aI σ x13 14 (((440 : Int32) * l2) + l4)).bind (fun x14 => f_X12_minus_j59 σ l0 l1 l2 l4 x14 (x6 - l3)))))))))))))))))
set_option maxHeartbeats 4000000 in
set_option maxRecDepth 20000 in
theorem L_X12_minus_s5 {G : xG} {π : Nat → Nat} {d C Z : Nat} {Q : xQ} (σ : xM) (l0 : Nat) (l1 : Int32) (l2 : Int32) (l3 : Int32) (l4 : Int32) {x : (xM ⊕ ((Nat × Int32 × xM) ⊕ (Nat × Int32 × Int32 × Int32 × Int32 × xM)))} (hf : f_X12_minus_s5 (l0, l1, l2, l3, l4, σ) = some x) (hR : ∀ g, x = Sum.inl (g) → Q (.inl none) (g) π) (hE : ∀ e : (Nat × Int32 × xM), x = Sum.inr (Sum.inl e) → xMach G π J_X12_minus (d + 1) C Z 97 [(0, .ref e.1), (1, .int e.2.1)] [] e.2.2 Q) (hC : ∀ e : (Nat × Int32 × Int32 × Int32 × Int32 × xM), x = Sum.inr (Sum.inr e) → xMach G π J_X12_minus (d + 1) C Z 5 [(0, .ref e.1), (1, .int e.2.1), (2, .int e.2.2.1), (3, .int e.2.2.2.1), (4, .int e.2.2.2.2.1)] [] e.2.2.2.2.2 Q) : xMach G π J_X12_minus (d + 1) C Z 5 [(0, .ref l0), (1, .int l1), (2, .int l2), (3, .int l3), (4, .int l4)] [] σ Q := by
  have hf : (gR σ l0 12 2).bind (fun x3 => (aI σ x3 14 l1).bind (fun x4 => (if x4 ≤ l4 then some (Sum.inr (Sum.inl (l0, l1, σ))) else (gR σ l0 12 1).bind (fun x5 => (aI σ x5 14 (((440 : Int32) * l1) + l4)).bind (fun x6 => (gR σ l0 12 2).bind (fun x7 => (aI σ x7 14 l2).bind (fun x8 => (if x8 ≤ l4 then f_X12_minus_j59 σ l0 l1 l2 l4 (0 : Int32) (x6 - l3) else (gR σ l0 12 1).bind (fun x13 => (aI σ x13 14 (((440 : Int32) * l2) + l4)).bind (fun x14 => f_X12_minus_j59 σ l0 l1 l2 l4 x14 (x6 - l3))))))))))) = some x := hf
  refine xm_iload dX12_minus_5 rfl ?_
  refine xm_aload_n dX12_minus_7 rfl ?_
  refine xb_getR (a := l0) (c := 12) (k := 2) dX12_minus_8 xcl12 (by decide) xw_1839 rfl hf (fun x3 ex3 hf => ?_)
  refine xm_iload_n dX12_minus_11 rfl ?_
  refine xb_iald dX12_minus_12 hf (fun x4 ex4 hf => ?_)
  refine xb_icmp_ge 97 dX12_minus_13 (by decide) hf (fun c hf => ?_) (fun c hf => ?_)
  · cases hf
    exact xm_sub [0, 1] rfl (hE _ rfl)
  · refine xm_aload_n dX12_minus_16 rfl ?_
    refine xb_getR (a := l0) (c := 12) (k := 1) dX12_minus_17 xcl12 (by decide) xw_1838 rfl hf (fun x5 ex5 hf => ?_)
    refine xm_sipush dX12_minus_20 (v := 440) (by decide) ?_
    refine xm_iload_n dX12_minus_23 rfl ?_
    refine xm_imul dX12_minus_24 ?_
    refine xm_iload dX12_minus_25 rfl ?_
    refine xm_iadd dX12_minus_27 ?_
    refine xb_iald dX12_minus_28 hf (fun x6 ex6 hf => ?_)
    refine xm_iload_n dX12_minus_29 rfl ?_
    refine xm_isub dX12_minus_30 ?_
    refine xm_iload dX12_minus_31 rfl ?_
    refine xm_aload_n dX12_minus_33 rfl ?_
    refine xb_getR (a := l0) (c := 12) (k := 2) dX12_minus_34 xcl12 (by decide) xw_1839 rfl hf (fun x7 ex7 hf => ?_)
    refine xm_iload_n dX12_minus_37 rfl ?_
    refine xb_iald dX12_minus_38 hf (fun x8 ex8 hf => ?_)
    refine xb_icmp_ge 58 dX12_minus_39 (by decide) hf (fun c hf => ?_) (fun c hf => ?_)
    · refine xm_iconst dX12_minus_58 (v := 0) (by decide) ?_
      exact xm_sub [0, 1, 2, 4] rfl (L_X12_minus_j59 σ l0 l1 l2 l4 (0 : Int32) (x6 - l3) hf hR hE hC)
    · refine xm_aload_n dX12_minus_42 rfl ?_
      refine xb_getR (a := l0) (c := 12) (k := 1) dX12_minus_43 xcl12 (by decide) xw_1838 rfl hf (fun x13 ex13 hf => ?_)
      refine xm_sipush dX12_minus_46 (v := 440) (by decide) ?_
      refine xm_iload_n dX12_minus_49 rfl ?_
      refine xm_imul dX12_minus_50 ?_
      refine xm_iload dX12_minus_51 rfl ?_
      refine xm_iadd dX12_minus_53 ?_
      refine xb_iald dX12_minus_54 hf (fun x14 ex14 hf => ?_)
      refine xm_goto 59 dX12_minus_55 (by decide) ?_
      exact xm_sub [0, 1, 2, 4] rfl (L_X12_minus_j59 σ l0 l1 l2 l4 x14 (x6 - l3) hf hR hE hC)
theorem L_X12_minus_l5 {G : xG} {π : Nat → Nat} {d C Z : Nat} {Q : xQ} {s0 : (Nat × Int32 × Int32 × Int32 × Int32 × xM)} {x : (xM ⊕ (Nat × Int32 × xM))} (h1 : xloop (f_X12_minus_s5) xF s0 = some x) (hR : ∀ g, x = Sum.inl g → Q (.inl none) (g) π) (hE : ∀ e : (Nat × Int32 × xM), x = Sum.inr e → xMach G π J_X12_minus (d + 1) C Z 97 [(0, .ref e.1), (1, .int e.2.1)] [] e.2.2 Q) : xMach G π J_X12_minus (d + 1) C Z 5 [(0, .ref s0.1), (1, .int s0.2.1), (2, .int s0.2.2.1), (3, .int s0.2.2.2.1), (4, .int s0.2.2.2.2.1)] [] s0.2.2.2.2.2 Q := by
  refine xloop_run (M := (fun s : (Nat × Int32 × Int32 × Int32 × Int32 × xM) => xMach G π J_X12_minus (d + 1) C Z 5 [(0, .ref s.1), (1, .int s.2.1), (2, .int s.2.2.1), (3, .int s.2.2.2.1), (4, .int s.2.2.2.2.1)] [] s.2.2.2.2.2 Q)) (r := x) ?_ xF _ h1
  intro s y hs hx
  exact L_X12_minus_s5 s.2.2.2.2.2 s.1 s.2.1 s.2.2.1 s.2.2.2.1 s.2.2.2.2.1 (x := y) hs (fun g hg => by subst hg; exact hR g hx) (fun e he => by subst he; exact hE e hx) (fun e he => by subst he; exact hx)
def f_X12_minus_j97 (σ : xM) (l0 : Nat) (l1 : Int32) : Option xM :=
  (if xk σ l0 12 = true then (f_X12_trim σ l0 l1).bind (fun p15 => some p15) else none)
set_option maxHeartbeats 4000000 in
set_option maxRecDepth 20000 in
theorem L_X12_minus_j97 {G : xG} {π : Nat → Nat} {d C Z : Nat} {Q : xQ} (σ : xM) (l0 : Nat) (l1 : Int32) {x : xM} (hf : f_X12_minus_j97 σ l0 l1 = some x) (hR : ∀ g, x = g → Q (.inl none) (g) π) : xMach G π J_X12_minus (d + 1) C Z 97 [(0, .ref l0), (1, .int l1)] [] σ Q := by
  unfold f_X12_minus_j97 at hf
  refine xm_aload_n dX12_minus_97 rfl ?_
  refine xm_iload_n dX12_minus_98 rfl ?_
  refine xb_if hf (fun hb hf => ?_) (fun _ q => nomatch q)
  obtain ⟨p15, ep15, hf⟩ := xbind hf
  refine xb_callV (As := [.int l1]) (v0 := none) (τ0 := p15) dX12_minus_99 (xc_X12_trim _ _) xcl12 xw_1829 xw_1831 xs_86 hb rfl (Nat.le_of_ble_eq_true rfl) rfl (Nat.le_of_ble_eq_true rfl) (fun Q1 hq => m_X12_trim (d := d + 0) ep15 (fun g hg => by subst hg; exact hq)) ?_
  cases hf
  exact xm_vret dX12_minus_102 rfl (hR _ rfl)
def f_X12_minus (σ : xM) (l0 : Nat) (l1 : Int32) (l2 : Int32) : Option xM :=
  xlet (0 : Int32) (fun v1 => xlet (0 : Int32) (fun v2 => (xloop (f_X12_minus_s5 ) xF (l0, l1, l2, v1, v2, σ)).bind (Sum.elim (fun g => some g) (fun e => f_X12_minus_j97 e.2.2 e.1 e.2.1))))
set_option maxHeartbeats 4000000 in
set_option maxRecDepth 20000 in
theorem m_X12_minus {G : xG} {π : Nat → Nat} {d C Z : Nat} {Q : xQ} {σ : xM} {l0 : Nat} {l1 : Int32} {l2 : Int32} {x : xM} (hf : f_X12_minus σ l0 l1 l2 = some x) (hR : ∀ g, x = g → Q (.inl none) (g) π) : xMach G π J_X12_minus (d + 1) C Z 0 (lv_args 0 [.ref l0, .int l1, .int l2]) [] σ Q := by
  unfold f_X12_minus at hf
  refine xm_stL (L' := [(0, .ref l0), (1, .int l1), (2, .int l2)]) rfl ?_
  refine xm_iconst dX12_minus_0 (v := 0) (by decide) ?_
  refine xb_topi hf (fun v1 ev1 hf => ?_)
  refine xm_istore_n dX12_minus_1 (by decide) (xm_stL (L' := [(3, .int v1), (0, .ref l0), (1, .int l1), (2, .int l2)]) rfl ?_)
  refine xm_iconst dX12_minus_2 (v := 0) (by decide) ?_
  refine xb_topi hf (fun v2 ev2 hf => ?_)
  refine xm_istore dX12_minus_3 (by decide) (xm_stL (L' := [(4, .int v2), (3, .int v1), (0, .ref l0), (1, .int l1), (2, .int l2)]) rfl ?_)
  obtain ⟨o, h1, hf⟩ := xbind hf
  refine xm_sub [2, 3, 4, 1, 0] rfl (L_X12_minus_l5  h1 (fun g hg => ?_) (fun e he => ?_))
  · subst hg
    cases hf
    exact hR _ rfl
  · subst he
    rw [Sum.elim_inr] at hf
    have hf : f_X12_minus_j97 e.2.2 e.1 e.2.1 = some _ := hf
    exact xm_sub [0, 1] rfl (L_X12_minus_j97 e.2.2 e.1 e.2.1 hf hR)
-- RankwiseModel.times(III)V
def f_X12_times_s18 (s : (Nat × Int32 × Int32 × Int32 × Int32 × Int32 × xM)) : Option (xM ⊕ ((Nat × Int32 × Int32 × Int32 × Int32 × xM) ⊕ (Nat × Int32 × Int32 × Int32 × Int32 × Int32 × xM))) :=
  xlet s.1 (fun l0 => xlet s.2.1 (fun l1 => xlet s.2.2.1 (fun l2 => xlet s.2.2.2.1 (fun l3 => xlet s.2.2.2.2.1 (fun l4 => xlet s.2.2.2.2.2.1 (fun l5 => xlet s.2.2.2.2.2.2 (fun σ => (if l4 ≤ l5 then some (Sum.inr (Sum.inl (l0, l1, l2, l3, l4, σ))) else (gR σ l0 12 1).bind (fun x7 => (wI σ x7 (((440 : Int32) * l1) + l5) (0 : Int32)).bind (fun σ8 => xlet (l5 + (1 : Int32)) (fun v9 => some (Sum.inr (Sum.inr (l0, l1, l2, l3, l4, v9, σ8))))))))))))))
set_option maxHeartbeats 4000000 in
set_option maxRecDepth 20000 in
theorem L_X12_times_s18 {G : xG} {π : Nat → Nat} {d C Z : Nat} {Q : xQ} (σ : xM) (l0 : Nat) (l1 : Int32) (l2 : Int32) (l3 : Int32) (l4 : Int32) (l5 : Int32) {x : (xM ⊕ ((Nat × Int32 × Int32 × Int32 × Int32 × xM) ⊕ (Nat × Int32 × Int32 × Int32 × Int32 × Int32 × xM)))} (hf : f_X12_times_s18 (l0, l1, l2, l3, l4, l5, σ) = some x) (hR : ∀ g, x = Sum.inl (g) → Q (.inl none) (g) π) (hE : ∀ e : (Nat × Int32 × Int32 × Int32 × Int32 × xM), x = Sum.inr (Sum.inl e) → xMach G π J_X12_times (d + 1) C Z 45 [(0, .ref e.1), (1, .int e.2.1), (2, .int e.2.2.1), (3, .int e.2.2.2.1), (4, .int e.2.2.2.2.1)] [] e.2.2.2.2.2 Q) (hC : ∀ e : (Nat × Int32 × Int32 × Int32 × Int32 × Int32 × xM), x = Sum.inr (Sum.inr e) → xMach G π J_X12_times (d + 1) C Z 18 [(0, .ref e.1), (1, .int e.2.1), (2, .int e.2.2.1), (3, .int e.2.2.2.1), (4, .int e.2.2.2.2.1), (5, .int e.2.2.2.2.2.1)] [] e.2.2.2.2.2.2 Q) : xMach G π J_X12_times (d + 1) C Z 18 [(0, .ref l0), (1, .int l1), (2, .int l2), (3, .int l3), (4, .int l4), (5, .int l5)] [] σ Q := by
  have hf : (if l4 ≤ l5 then some (Sum.inr (Sum.inl (l0, l1, l2, l3, l4, σ))) else (gR σ l0 12 1).bind (fun x7 => (wI σ x7 (((440 : Int32) * l1) + l5) (0 : Int32)).bind (fun σ8 => xlet (l5 + (1 : Int32)) (fun v9 => some (Sum.inr (Sum.inr (l0, l1, l2, l3, l4, v9, σ8))))))) = some x := hf
  refine xm_iload dX12_times_18 rfl ?_
  refine xm_iload dX12_times_20 rfl ?_
  refine xb_icmp_ge 45 dX12_times_22 (by decide) hf (fun c hf => ?_) (fun c hf => ?_)
  · cases hf
    exact xm_sub [0, 1, 2, 3, 4] rfl (hE _ rfl)
  · refine xm_aload_n dX12_times_25 rfl ?_
    refine xb_getR (a := l0) (c := 12) (k := 1) dX12_times_26 xcl12 (by decide) xw_1838 rfl hf (fun x7 ex7 hf => ?_)
    refine xm_sipush dX12_times_29 (v := 440) (by decide) ?_
    refine xm_iload_n dX12_times_32 rfl ?_
    refine xm_imul dX12_times_33 ?_
    refine xm_iload dX12_times_34 rfl ?_
    refine xm_iadd dX12_times_36 ?_
    refine xm_iconst dX12_times_37 (v := 0) (by decide) ?_
    refine xb_iast dX12_times_38 hf (fun σ8 eσ8 hf => ?_)
    refine xb_iinc dX12_times_39 rfl (by decide) (by decide) hf (fun v9 ev9 hf => xm_stL (L' := [(5, .int v9), (0, .ref l0), (1, .int l1), (2, .int l2), (3, .int l3), (4, .int l4)]) rfl ?_)
    refine xm_goto 18 dX12_times_42 (by decide) ?_
    cases hf
    exact xm_sub [1, 2, 3, 4, 5, 0] rfl (hC _ rfl)
theorem L_X12_times_l18 {G : xG} {π : Nat → Nat} {d C Z : Nat} {Q : xQ} {s0 : (Nat × Int32 × Int32 × Int32 × Int32 × Int32 × xM)} {x : (xM ⊕ (Nat × Int32 × Int32 × Int32 × Int32 × xM))} (h1 : xloop (f_X12_times_s18) xF s0 = some x) (hR : ∀ g, x = Sum.inl g → Q (.inl none) (g) π) (hE : ∀ e : (Nat × Int32 × Int32 × Int32 × Int32 × xM), x = Sum.inr e → xMach G π J_X12_times (d + 1) C Z 45 [(0, .ref e.1), (1, .int e.2.1), (2, .int e.2.2.1), (3, .int e.2.2.2.1), (4, .int e.2.2.2.2.1)] [] e.2.2.2.2.2 Q) : xMach G π J_X12_times (d + 1) C Z 18 [(0, .ref s0.1), (1, .int s0.2.1), (2, .int s0.2.2.1), (3, .int s0.2.2.2.1), (4, .int s0.2.2.2.2.1), (5, .int s0.2.2.2.2.2.1)] [] s0.2.2.2.2.2.2 Q := by
  refine xloop_run (M := (fun s : (Nat × Int32 × Int32 × Int32 × Int32 × Int32 × xM) => xMach G π J_X12_times (d + 1) C Z 18 [(0, .ref s.1), (1, .int s.2.1), (2, .int s.2.2.1), (3, .int s.2.2.2.1), (4, .int s.2.2.2.2.1), (5, .int s.2.2.2.2.2.1)] [] s.2.2.2.2.2.2 Q)) (r := x) ?_ xF _ h1
  intro s y hs hx
  exact L_X12_times_s18 s.2.2.2.2.2.2 s.1 s.2.1 s.2.2.1 s.2.2.2.1 s.2.2.2.2.1 s.2.2.2.2.2.1 (x := y) hs (fun g hg => by subst hg; exact hR g hx) (fun e he => by subst he; exact hE e hx) (fun e he => by subst he; exact hx)
def f_X12_times_s81 (s : (Nat × Int32 × Int32 × Int32 × Int32 × Int32 × Int64 × Int64 × Int32 × xM)) : Option (xM ⊕ ((Nat × Int32 × Int32 × Int32 × Int32 × Int32 × Int64 × xM) ⊕ (Nat × Int32 × Int32 × Int32 × Int32 × Int32 × Int64 × Int64 × Int32 × xM))) :=
  xlet s.1 (fun l0 => xlet s.2.1 (fun l1 => xlet s.2.2.1 (fun l2 => xlet s.2.2.2.1 (fun l3 => xlet s.2.2.2.2.1 (fun l4 => xlet s.2.2.2.2.2.1 (fun l5 => xlet s.2.2.2.2.2.2.1 (fun l6 => xlet s.2.2.2.2.2.2.2.1 (fun l8 => xlet s.2.2.2.2.2.2.2.2.1 (fun l10 => xlet s.2.2.2.2.2.2.2.2.2 (fun σ => (gR σ l0 12 2).bind (fun x18 => (aI σ x18 14 l3).bind (fun x19 => (if x19 ≤ l10 then some (Sum.inr (Sum.inl (l0, l1, l2, l3, l4, l5, l6, σ))) else (gR σ l0 12 1).bind (fun x20 => (aI σ x20 14 ((((440 : Int32) * l1) + l5) + l10)).bind (fun x21 => (gR σ l0 12 1).bind (fun x22 => (aI σ x22 14 (((440 : Int32) * l3) + l10)).bind (fun x23 => xlet ((((x21).toInt64) + (l8 * ((x23).toInt64))) + l6) (fun v24 => (gR σ l0 12 1).bind (fun x25 => (wI σ x25 ((((440 : Int32) * l1) + l5) + l10) (((v24 &&& (65535 : Int64))).toInt32)).bind (fun σ26 => xlet (v24 >>> (((16 : Int32)).toInt64 &&& 63)) (fun v27 => xlet (l10 + (1 : Int32)) (fun v28 => some (Sum.inr (Sum.inr (l0, l1, l2, l3, l4, l5, v27, l8, v28, σ26)))))))))))))))))))))))))
set_option maxHeartbeats 4000000 in
set_option maxRecDepth 20000 in
theorem L_X12_times_s81 {G : xG} {π : Nat → Nat} {d C Z : Nat} {Q : xQ} (σ : xM) (l0 : Nat) (l1 : Int32) (l2 : Int32) (l3 : Int32) (l4 : Int32) (l5 : Int32) (l6 : Int64) (l8 : Int64) (l10 : Int32) {x : (xM ⊕ ((Nat × Int32 × Int32 × Int32 × Int32 × Int32 × Int64 × xM) ⊕ (Nat × Int32 × Int32 × Int32 × Int32 × Int32 × Int64 × Int64 × Int32 × xM)))} (hf : f_X12_times_s81 (l0, l1, l2, l3, l4, l5, l6, l8, l10, σ) = some x) (hR : ∀ g, x = Sum.inl (g) → Q (.inl none) (g) π) (hE : ∀ e : (Nat × Int32 × Int32 × Int32 × Int32 × Int32 × Int64 × xM), x = Sum.inr (Sum.inl e) → xMach G π J_X12_times (d + 1) C Z 168 [(0, .ref e.1), (1, .int e.2.1), (2, .int e.2.2.1), (3, .int e.2.2.2.1), (4, .int e.2.2.2.2.1), (5, .int e.2.2.2.2.2.1), (6, .long e.2.2.2.2.2.2.1)] [] e.2.2.2.2.2.2.2 Q) (hC : ∀ e : (Nat × Int32 × Int32 × Int32 × Int32 × Int32 × Int64 × Int64 × Int32 × xM), x = Sum.inr (Sum.inr e) → xMach G π J_X12_times (d + 1) C Z 81 [(0, .ref e.1), (1, .int e.2.1), (2, .int e.2.2.1), (3, .int e.2.2.2.1), (4, .int e.2.2.2.2.1), (5, .int e.2.2.2.2.2.1), (6, .long e.2.2.2.2.2.2.1), (8, .long e.2.2.2.2.2.2.2.1), (10, .int e.2.2.2.2.2.2.2.2.1)] [] e.2.2.2.2.2.2.2.2.2 Q) : xMach G π J_X12_times (d + 1) C Z 81 [(0, .ref l0), (1, .int l1), (2, .int l2), (3, .int l3), (4, .int l4), (5, .int l5), (6, .long l6), (8, .long l8), (10, .int l10)] [] σ Q := by
  have hf : (gR σ l0 12 2).bind (fun x18 => (aI σ x18 14 l3).bind (fun x19 => (if x19 ≤ l10 then some (Sum.inr (Sum.inl (l0, l1, l2, l3, l4, l5, l6, σ))) else (gR σ l0 12 1).bind (fun x20 => (aI σ x20 14 ((((440 : Int32) * l1) + l5) + l10)).bind (fun x21 => (gR σ l0 12 1).bind (fun x22 => (aI σ x22 14 (((440 : Int32) * l3) + l10)).bind (fun x23 => xlet ((((x21).toInt64) + (l8 * ((x23).toInt64))) + l6) (fun v24 => (gR σ l0 12 1).bind (fun x25 => (wI σ x25 ((((440 : Int32) * l1) + l5) + l10) (((v24 &&& (65535 : Int64))).toInt32)).bind (fun σ26 => xlet (v24 >>> (((16 : Int32)).toInt64 &&& 63)) (fun v27 => xlet (l10 + (1 : Int32)) (fun v28 => some (Sum.inr (Sum.inr (l0, l1, l2, l3, l4, l5, v27, l8, v28, σ26))))))))))))))) = some x := hf
  refine xm_iload dX12_times_81 rfl ?_
  refine xm_aload_n dX12_times_83 rfl ?_
  refine xb_getR (a := l0) (c := 12) (k := 2) dX12_times_84 xcl12 (by decide) xw_1839 rfl hf (fun x18 ex18 hf => ?_)
  refine xm_iload_n dX12_times_87 rfl ?_
  refine xb_iald dX12_times_88 hf (fun x19 ex19 hf => ?_)
  refine xb_icmp_ge 168 dX12_times_89 (by decide) hf (fun c hf => ?_) (fun c hf => ?_)
  · cases hf
    exact xm_sub [0, 1, 2, 3, 4, 5, 6] rfl (hE _ rfl)
  · refine xm_aload_n dX12_times_92 rfl ?_
    refine xb_getR (a := l0) (c := 12) (k := 1) dX12_times_93 xcl12 (by decide) xw_1838 rfl hf (fun x20 ex20 hf => ?_)
    refine xm_sipush dX12_times_96 (v := 440) (by decide) ?_
    refine xm_iload_n dX12_times_99 rfl ?_
    refine xm_imul dX12_times_100 ?_
    refine xm_iload dX12_times_101 rfl ?_
    refine xm_iadd dX12_times_103 ?_
    refine xm_iload dX12_times_104 rfl ?_
    refine xm_iadd dX12_times_106 ?_
    refine xb_iald dX12_times_107 hf (fun x21 ex21 hf => ?_)
    refine xm_i2l dX12_times_108 rfl ?_
    refine xm_lload dX12_times_109 rfl ?_
    refine xm_aload_n dX12_times_111 rfl ?_
    refine xb_getR (a := l0) (c := 12) (k := 1) dX12_times_112 xcl12 (by decide) xw_1838 rfl hf (fun x22 ex22 hf => ?_)
    refine xm_sipush dX12_times_115 (v := 440) (by decide) ?_
    refine xm_iload_n dX12_times_118 rfl ?_
    refine xm_imul dX12_times_119 ?_
    refine xm_iload dX12_times_120 rfl ?_
    refine xm_iadd dX12_times_122 ?_
    refine xb_iald dX12_times_123 hf (fun x23 ex23 hf => ?_)
    refine xm_i2l dX12_times_124 rfl ?_
    refine xm_lmul dX12_times_125 ?_
    refine xm_ladd dX12_times_126 ?_
    refine xm_lload dX12_times_127 rfl ?_
    refine xm_ladd dX12_times_129 ?_
    refine xb_topl hf (fun v24 ev24 hf => ?_)
    refine xm_lstore dX12_times_130 (by decide) (xm_stL (L' := [(11, .long v24), (0, .ref l0), (1, .int l1), (2, .int l2), (3, .int l3), (4, .int l4), (5, .int l5), (6, .long l6), (8, .long l8), (10, .int l10)]) rfl ?_)
    refine xm_aload_n dX12_times_132 rfl ?_
    refine xb_getR (a := l0) (c := 12) (k := 1) dX12_times_133 xcl12 (by decide) xw_1838 rfl hf (fun x25 ex25 hf => ?_)
    refine xm_sipush dX12_times_136 (v := 440) (by decide) ?_
    refine xm_iload_n dX12_times_139 rfl ?_
    refine xm_imul dX12_times_140 ?_
    refine xm_iload dX12_times_141 rfl ?_
    refine xm_iadd dX12_times_143 ?_
    refine xm_iload dX12_times_144 rfl ?_
    refine xm_iadd dX12_times_146 ?_
    refine xm_lload dX12_times_147 rfl ?_
    refine xm_ldc2 dX12_times_149 (xws_in xw_2419) ?_
    refine xm_land dX12_times_152 ?_
    refine xm_l2i dX12_times_153 rfl ?_
    refine xb_iast dX12_times_154 hf (fun σ26 eσ26 hf => ?_)
    refine xm_lload dX12_times_155 rfl ?_
    refine xm_bipush dX12_times_157 (v := 16) (by decide) ?_
    refine xm_lshr dX12_times_159 rfl ?_
    refine xb_topl hf (fun v27 ev27 hf => ?_)
    refine xm_lstore dX12_times_160 (by decide) (xm_stL (L' := [(6, .long v27), (11, .long v24), (0, .ref l0), (1, .int l1), (2, .int l2), (3, .int l3), (4, .int l4), (5, .int l5), (8, .long l8), (10, .int l10)]) rfl ?_)
    refine xb_iinc dX12_times_162 rfl (by decide) (by decide) hf (fun v28 ev28 hf => xm_stL (L' := [(10, .int v28), (6, .long v27), (11, .long v24), (0, .ref l0), (1, .int l1), (2, .int l2), (3, .int l3), (4, .int l4), (5, .int l5), (8, .long l8)]) rfl ?_)
    refine xm_goto 81 dX12_times_165 (by decide) ?_
    cases hf
    exact xm_sub [3, 4, 5, 6, 7, 8, 1, 9, 0] rfl (hC _ rfl)
theorem L_X12_times_l81 {G : xG} {π : Nat → Nat} {d C Z : Nat} {Q : xQ} {s0 : (Nat × Int32 × Int32 × Int32 × Int32 × Int32 × Int64 × Int64 × Int32 × xM)} {x : (xM ⊕ (Nat × Int32 × Int32 × Int32 × Int32 × Int32 × Int64 × xM))} (h1 : xloop (f_X12_times_s81) xF s0 = some x) (hR : ∀ g, x = Sum.inl g → Q (.inl none) (g) π) (hE : ∀ e : (Nat × Int32 × Int32 × Int32 × Int32 × Int32 × Int64 × xM), x = Sum.inr e → xMach G π J_X12_times (d + 1) C Z 168 [(0, .ref e.1), (1, .int e.2.1), (2, .int e.2.2.1), (3, .int e.2.2.2.1), (4, .int e.2.2.2.2.1), (5, .int e.2.2.2.2.2.1), (6, .long e.2.2.2.2.2.2.1)] [] e.2.2.2.2.2.2.2 Q) : xMach G π J_X12_times (d + 1) C Z 81 [(0, .ref s0.1), (1, .int s0.2.1), (2, .int s0.2.2.1), (3, .int s0.2.2.2.1), (4, .int s0.2.2.2.2.1), (5, .int s0.2.2.2.2.2.1), (6, .long s0.2.2.2.2.2.2.1), (8, .long s0.2.2.2.2.2.2.2.1), (10, .int s0.2.2.2.2.2.2.2.2.1)] [] s0.2.2.2.2.2.2.2.2.2 Q := by
  refine xloop_run (M := (fun s : (Nat × Int32 × Int32 × Int32 × Int32 × Int32 × Int64 × Int64 × Int32 × xM) => xMach G π J_X12_times (d + 1) C Z 81 [(0, .ref s.1), (1, .int s.2.1), (2, .int s.2.2.1), (3, .int s.2.2.2.1), (4, .int s.2.2.2.2.1), (5, .int s.2.2.2.2.2.1), (6, .long s.2.2.2.2.2.2.1), (8, .long s.2.2.2.2.2.2.2.1), (10, .int s.2.2.2.2.2.2.2.2.1)] [] s.2.2.2.2.2.2.2.2.2 Q)) (r := x) ?_ xF _ h1
  intro s y hs hx
  exact L_X12_times_s81 s.2.2.2.2.2.2.2.2.2 s.1 s.2.1 s.2.2.1 s.2.2.2.1 s.2.2.2.2.1 s.2.2.2.2.2.1 s.2.2.2.2.2.2.1 s.2.2.2.2.2.2.2.1 s.2.2.2.2.2.2.2.2.1 (x := y) hs (fun g hg => by subst hg; exact hR g hx) (fun e he => by subst he; exact hE e hx) (fun e he => by subst he; exact hx)
def f_X12_times_j168 (σ : xM) (l0 : Nat) (l1 : Int32) (l2 : Int32) (l3 : Int32) (l4 : Int32) (l5 : Int32) (l6 : Int64) : Option (xM ⊕ ((Nat × Int32 × Int32 × xM) ⊕ (Nat × Int32 × Int32 × Int32 × Int32 × Int32 × xM))) :=
  (gR σ l0 12 1).bind (fun x29 => (gR σ l0 12 2).bind (fun x30 => (aI σ x30 14 l3).bind (fun x31 => (wI σ x29 ((((440 : Int32) * l1) + l5) + x31) ((l6).toInt32)).bind (fun σ32 => xlet (l5 + (1 : Int32)) (fun v33 => some (Sum.inr (Sum.inr (l0, l1, l2, l3, l4, v33, σ32))))))))
set_option maxHeartbeats 4000000 in
set_option maxRecDepth 20000 in
theorem L_X12_times_j168 {G : xG} {π : Nat → Nat} {d C Z : Nat} {Q : xQ} (σ : xM) (l0 : Nat) (l1 : Int32) (l2 : Int32) (l3 : Int32) (l4 : Int32) (l5 : Int32) (l6 : Int64) {x : (xM ⊕ ((Nat × Int32 × Int32 × xM) ⊕ (Nat × Int32 × Int32 × Int32 × Int32 × Int32 × xM)))} (hf : f_X12_times_j168 σ l0 l1 l2 l3 l4 l5 l6 = some x) (hR : ∀ g, x = Sum.inl (g) → Q (.inl none) (g) π) (hE : ∀ e : (Nat × Int32 × Int32 × xM), x = Sum.inr (Sum.inl e) → xMach G π J_X12_times (d + 1) C Z 197 [(0, .ref e.1), (1, .int e.2.1), (4, .int e.2.2.1)] [] e.2.2.2 Q) (hC : ∀ e : (Nat × Int32 × Int32 × Int32 × Int32 × Int32 × xM), x = Sum.inr (Sum.inr e) → xMach G π J_X12_times (d + 1) C Z 48 [(0, .ref e.1), (1, .int e.2.1), (2, .int e.2.2.1), (3, .int e.2.2.2.1), (4, .int e.2.2.2.2.1), (5, .int e.2.2.2.2.2.1)] [] e.2.2.2.2.2.2 Q) : xMach G π J_X12_times (d + 1) C Z 168 [(0, .ref l0), (1, .int l1), (2, .int l2), (3, .int l3), (4, .int l4), (5, .int l5), (6, .long l6)] [] σ Q := by
  unfold f_X12_times_j168 at hf
  refine xm_aload_n dX12_times_168 rfl ?_
  refine xb_getR (a := l0) (c := 12) (k := 1) dX12_times_169 xcl12 (by decide) xw_1838 rfl hf (fun x29 ex29 hf => ?_)
  refine xm_sipush dX12_times_172 (v := 440) (by decide) ?_
  refine xm_iload_n dX12_times_175 rfl ?_
  refine xm_imul dX12_times_176 ?_
  refine xm_iload dX12_times_177 rfl ?_
  refine xm_iadd dX12_times_179 ?_
  refine xm_aload_n dX12_times_180 rfl ?_
  refine xb_getR (a := l0) (c := 12) (k := 2) dX12_times_181 xcl12 (by decide) xw_1839 rfl hf (fun x30 ex30 hf => ?_)
  refine xm_iload_n dX12_times_184 rfl ?_
  refine xb_iald dX12_times_185 hf (fun x31 ex31 hf => ?_)
  refine xm_iadd dX12_times_186 ?_
  refine xm_lload dX12_times_187 rfl ?_
  refine xm_l2i dX12_times_189 rfl ?_
  refine xb_iast dX12_times_190 hf (fun σ32 eσ32 hf => ?_)
  refine xb_iinc dX12_times_191 rfl (by decide) (by decide) hf (fun v33 ev33 hf => xm_stL (L' := [(5, .int v33), (0, .ref l0), (1, .int l1), (2, .int l2), (3, .int l3), (4, .int l4), (6, .long l6)]) rfl ?_)
  refine xm_goto 48 dX12_times_194 (by decide) ?_
  cases hf
  exact xm_sub [1, 2, 3, 4, 5, 0] rfl (hC _ rfl)
def f_X12_times_s48 (s : (Nat × Int32 × Int32 × Int32 × Int32 × Int32 × xM)) : Option (xM ⊕ ((Nat × Int32 × Int32 × xM) ⊕ (Nat × Int32 × Int32 × Int32 × Int32 × Int32 × xM))) :=
  xlet s.1 (fun l0 => xlet s.2.1 (fun l1 => xlet s.2.2.1 (fun l2 => xlet s.2.2.2.1 (fun l3 => xlet s.2.2.2.2.1 (fun l4 => xlet s.2.2.2.2.2.1 (fun l5 => xlet s.2.2.2.2.2.2 (fun σ => (gR σ l0 12 2).bind (fun x11 => (aI σ x11 14 l2).bind (fun x12 => (if x12 ≤ l5 then some (Sum.inr (Sum.inl (l0, l1, l4, σ))) else xlet (0 : Int64) (fun v13 => (gR σ l0 12 1).bind (fun x14 => (aI σ x14 14 (((440 : Int32) * l2) + l5)).bind (fun x15 => xlet ((x15).toInt64) (fun v16 => xlet (0 : Int32) (fun v17 => (xloop (f_X12_times_s81 ) xF (l0, l1, l2, l3, l4, l5, v13, v16, v17, σ)).bind (Sum.elim (fun g => some (Sum.inl g)) (fun e => f_X12_times_j168 e.2.2.2.2.2.2.2 e.1 e.2.1 e.2.2.1 e.2.2.2.1 e.2.2.2.2.1 e.2.2.2.2.2.1 e.2.2.2.2.2.2.1)))))))))))))))))
set_option maxHeartbeats 4000000 in
set_option maxRecDepth 20000 in
theorem L_X12_times_s48 {G : xG} {π : Nat → Nat} {d C Z : Nat} {Q : xQ} (σ : xM) (l0 : Nat) (l1 : Int32) (l2 : Int32) (l3 : Int32) (l4 : Int32) (l5 : Int32) {x : (xM ⊕ ((Nat × Int32 × Int32 × xM) ⊕ (Nat × Int32 × Int32 × Int32 × Int32 × Int32 × xM)))} (hf : f_X12_times_s48 (l0, l1, l2, l3, l4, l5, σ) = some x) (hR : ∀ g, x = Sum.inl (g) → Q (.inl none) (g) π) (hE : ∀ e : (Nat × Int32 × Int32 × xM), x = Sum.inr (Sum.inl e) → xMach G π J_X12_times (d + 1) C Z 197 [(0, .ref e.1), (1, .int e.2.1), (4, .int e.2.2.1)] [] e.2.2.2 Q) (hC : ∀ e : (Nat × Int32 × Int32 × Int32 × Int32 × Int32 × xM), x = Sum.inr (Sum.inr e) → xMach G π J_X12_times (d + 1) C Z 48 [(0, .ref e.1), (1, .int e.2.1), (2, .int e.2.2.1), (3, .int e.2.2.2.1), (4, .int e.2.2.2.2.1), (5, .int e.2.2.2.2.2.1)] [] e.2.2.2.2.2.2 Q) : xMach G π J_X12_times (d + 1) C Z 48 [(0, .ref l0), (1, .int l1), (2, .int l2), (3, .int l3), (4, .int l4), (5, .int l5)] [] σ Q := by
  have hf : (gR σ l0 12 2).bind (fun x11 => (aI σ x11 14 l2).bind (fun x12 => (if x12 ≤ l5 then some (Sum.inr (Sum.inl (l0, l1, l4, σ))) else xlet (0 : Int64) (fun v13 => (gR σ l0 12 1).bind (fun x14 => (aI σ x14 14 (((440 : Int32) * l2) + l5)).bind (fun x15 => xlet ((x15).toInt64) (fun v16 => xlet (0 : Int32) (fun v17 => (xloop (f_X12_times_s81 ) xF (l0, l1, l2, l3, l4, l5, v13, v16, v17, σ)).bind (Sum.elim (fun g => some (Sum.inl g)) (fun e => f_X12_times_j168 e.2.2.2.2.2.2.2 e.1 e.2.1 e.2.2.1 e.2.2.2.1 e.2.2.2.2.1 e.2.2.2.2.2.1 e.2.2.2.2.2.2.1)))))))))) = some x := hf
  refine xm_iload dX12_times_48 rfl ?_
  refine xm_aload_n dX12_times_50 rfl ?_
  refine xb_getR (a := l0) (c := 12) (k := 2) dX12_times_51 xcl12 (by decide) xw_1839 rfl hf (fun x11 ex11 hf => ?_)
  refine xm_iload_n dX12_times_54 rfl ?_
  refine xb_iald dX12_times_55 hf (fun x12 ex12 hf => ?_)
  refine xb_icmp_ge 197 dX12_times_56 (by decide) hf (fun c hf => ?_) (fun c hf => ?_)
  · cases hf
    exact xm_sub [0, 1, 4] rfl (hE _ rfl)
  · refine xm_lconst dX12_times_59 (v := 0) (by decide) ?_
    refine xb_topl hf (fun v13 ev13 hf => ?_)
    refine xm_lstore dX12_times_60 (by decide) (xm_stL (L' := [(6, .long v13), (0, .ref l0), (1, .int l1), (2, .int l2), (3, .int l3), (4, .int l4), (5, .int l5)]) rfl ?_)
    refine xm_aload_n dX12_times_62 rfl ?_
    refine xb_getR (a := l0) (c := 12) (k := 1) dX12_times_63 xcl12 (by decide) xw_1838 rfl hf (fun x14 ex14 hf => ?_)
    refine xm_sipush dX12_times_66 (v := 440) (by decide) ?_
    refine xm_iload_n dX12_times_69 rfl ?_
    refine xm_imul dX12_times_70 ?_
    refine xm_iload dX12_times_71 rfl ?_
    refine xm_iadd dX12_times_73 ?_
    refine xb_iald dX12_times_74 hf (fun x15 ex15 hf => ?_)
    refine xm_i2l dX12_times_75 rfl ?_
    refine xb_topl hf (fun v16 ev16 hf => ?_)
    refine xm_lstore dX12_times_76 (by decide) (xm_stL (L' := [(8, .long v16), (6, .long v13), (0, .ref l0), (1, .int l1), (2, .int l2), (3, .int l3), (4, .int l4), (5, .int l5)]) rfl ?_)
    refine xm_iconst dX12_times_78 (v := 0) (by decide) ?_
    refine xb_topi hf (fun v17 ev17 hf => ?_)
    refine xm_istore dX12_times_79 (by decide) (xm_stL (L' := [(10, .int v17), (8, .long v16), (6, .long v13), (0, .ref l0), (1, .int l1), (2, .int l2), (3, .int l3), (4, .int l4), (5, .int l5)]) rfl ?_)
    obtain ⟨o, h1, hf⟩ := xbind hf
    refine xm_sub [3, 4, 5, 6, 7, 8, 2, 1, 0] rfl (L_X12_times_l81  h1 (fun g hg => ?_) (fun e he => ?_))
    · subst hg
      cases hf
      exact hR _ rfl
    · subst he
      rw [Sum.elim_inr] at hf
      have hf : f_X12_times_j168 e.2.2.2.2.2.2.2 e.1 e.2.1 e.2.2.1 e.2.2.2.1 e.2.2.2.2.1 e.2.2.2.2.2.1 e.2.2.2.2.2.2.1 = some _ := hf
      exact xm_sub [0, 1, 2, 3, 4, 5, 6] rfl (L_X12_times_j168 e.2.2.2.2.2.2.2 e.1 e.2.1 e.2.2.1 e.2.2.2.1 e.2.2.2.2.1 e.2.2.2.2.2.1 e.2.2.2.2.2.2.1 hf hR hE hC)
theorem L_X12_times_l48 {G : xG} {π : Nat → Nat} {d C Z : Nat} {Q : xQ} {s0 : (Nat × Int32 × Int32 × Int32 × Int32 × Int32 × xM)} {x : (xM ⊕ (Nat × Int32 × Int32 × xM))} (h1 : xloop (f_X12_times_s48) xF s0 = some x) (hR : ∀ g, x = Sum.inl g → Q (.inl none) (g) π) (hE : ∀ e : (Nat × Int32 × Int32 × xM), x = Sum.inr e → xMach G π J_X12_times (d + 1) C Z 197 [(0, .ref e.1), (1, .int e.2.1), (4, .int e.2.2.1)] [] e.2.2.2 Q) : xMach G π J_X12_times (d + 1) C Z 48 [(0, .ref s0.1), (1, .int s0.2.1), (2, .int s0.2.2.1), (3, .int s0.2.2.2.1), (4, .int s0.2.2.2.2.1), (5, .int s0.2.2.2.2.2.1)] [] s0.2.2.2.2.2.2 Q := by
  refine xloop_run (M := (fun s : (Nat × Int32 × Int32 × Int32 × Int32 × Int32 × xM) => xMach G π J_X12_times (d + 1) C Z 48 [(0, .ref s.1), (1, .int s.2.1), (2, .int s.2.2.1), (3, .int s.2.2.2.1), (4, .int s.2.2.2.2.1), (5, .int s.2.2.2.2.2.1)] [] s.2.2.2.2.2.2 Q)) (r := x) ?_ xF _ h1
  intro s y hs hx
  exact L_X12_times_s48 s.2.2.2.2.2.2 s.1 s.2.1 s.2.2.1 s.2.2.2.1 s.2.2.2.2.1 s.2.2.2.2.2.1 (x := y) hs (fun g hg => by subst hg; exact hR g hx) (fun e he => by subst he; exact hE e hx) (fun e he => by subst he; exact hx)
def f_X12_times_j197 (σ : xM) (l0 : Nat) (l1 : Int32) (l4 : Int32) : Option xM :=
  (gR σ l0 12 2).bind (fun x34 => (wI σ x34 l1 l4).bind (fun σ35 => (if xk σ35 l0 12 = true then (f_X12_trim σ35 l0 l1).bind (fun p36 => some p36) else none)))
set_option maxHeartbeats 4000000 in
set_option maxRecDepth 20000 in
theorem L_X12_times_j197 {G : xG} {π : Nat → Nat} {d C Z : Nat} {Q : xQ} (σ : xM) (l0 : Nat) (l1 : Int32) (l4 : Int32) {x : xM} (hf : f_X12_times_j197 σ l0 l1 l4 = some x) (hR : ∀ g, x = g → Q (.inl none) (g) π) : xMach G π J_X12_times (d + 1) C Z 197 [(0, .ref l0), (1, .int l1), (4, .int l4)] [] σ Q := by
  unfold f_X12_times_j197 at hf
  refine xm_aload_n dX12_times_197 rfl ?_
  refine xb_getR (a := l0) (c := 12) (k := 2) dX12_times_198 xcl12 (by decide) xw_1839 rfl hf (fun x34 ex34 hf => ?_)
  refine xm_iload_n dX12_times_201 rfl ?_
  refine xm_iload dX12_times_202 rfl ?_
  refine xb_iast dX12_times_204 hf (fun σ35 eσ35 hf => ?_)
  refine xm_aload_n dX12_times_205 rfl ?_
  refine xm_iload_n dX12_times_206 rfl ?_
  refine xb_if hf (fun hb hf => ?_) (fun _ q => nomatch q)
  obtain ⟨p36, ep36, hf⟩ := xbind hf
  refine xb_callV (As := [.int l1]) (v0 := none) (τ0 := p36) dX12_times_207 (xc_X12_trim _ _) xcl12 xw_1829 xw_1831 xs_86 hb rfl (Nat.le_of_ble_eq_true rfl) rfl (Nat.le_of_ble_eq_true rfl) (fun Q1 hq => m_X12_trim (d := d + 0) ep36 (fun g hg => by subst hg; exact hq)) ?_
  cases hf
  exact xm_vret dX12_times_210 rfl (hR _ rfl)
def f_X12_times_j45 (σ : xM) (l0 : Nat) (l1 : Int32) (l2 : Int32) (l3 : Int32) (l4 : Int32) : Option xM :=
  xlet (0 : Int32) (fun v10 => (xloop (f_X12_times_s48 ) xF (l0, l1, l2, l3, l4, v10, σ)).bind (Sum.elim (fun g => some g) (fun e => f_X12_times_j197 e.2.2.2 e.1 e.2.1 e.2.2.1)))
set_option maxHeartbeats 4000000 in
set_option maxRecDepth 20000 in
theorem L_X12_times_j45 {G : xG} {π : Nat → Nat} {d C Z : Nat} {Q : xQ} (σ : xM) (l0 : Nat) (l1 : Int32) (l2 : Int32) (l3 : Int32) (l4 : Int32) {x : xM} (hf : f_X12_times_j45 σ l0 l1 l2 l3 l4 = some x) (hR : ∀ g, x = g → Q (.inl none) (g) π) : xMach G π J_X12_times (d + 1) C Z 45 [(0, .ref l0), (1, .int l1), (2, .int l2), (3, .int l3), (4, .int l4)] [] σ Q := by
  unfold f_X12_times_j45 at hf
  refine xm_iconst dX12_times_45 (v := 0) (by decide) ?_
  refine xb_topi hf (fun v10 ev10 hf => ?_)
  refine xm_istore dX12_times_46 (by decide) (xm_stL (L' := [(5, .int v10), (0, .ref l0), (1, .int l1), (2, .int l2), (3, .int l3), (4, .int l4)]) rfl ?_)
  obtain ⟨o, h1, hf⟩ := xbind hf
  refine xm_sub [1, 2, 3, 4, 5, 0] rfl (L_X12_times_l48  h1 (fun g hg => ?_) (fun e he => ?_))
  · subst hg
    cases hf
    exact hR _ rfl
  · subst he
    rw [Sum.elim_inr] at hf
    have hf : f_X12_times_j197 e.2.2.2 e.1 e.2.1 e.2.2.1 = some _ := hf
    exact xm_sub [0, 1, 2] rfl (L_X12_times_j197 e.2.2.2 e.1 e.2.1 e.2.2.1 hf hR)
def f_X12_times (σ : xM) (l0 : Nat) (l1 : Int32) (l2 : Int32) (l3 : Int32) : Option xM :=
  (gR σ l0 12 2).bind (fun x1 => (aI σ x1 14 l2).bind (fun x2 => (gR σ l0 12 2).bind (fun x3 => (aI σ x3 14 l3).bind (fun x4 => xlet (x2 + x4) (fun v5 => xlet (0 : Int32) (fun v6 => (xloop (f_X12_times_s18 ) xF (l0, l1, l2, l3, v5, v6, σ)).bind (Sum.elim (fun g => some g) (fun e => f_X12_times_j45 e.2.2.2.2.2 e.1 e.2.1 e.2.2.1 e.2.2.2.1 e.2.2.2.2.1))))))))
set_option maxHeartbeats 4000000 in
set_option maxRecDepth 20000 in
theorem m_X12_times {G : xG} {π : Nat → Nat} {d C Z : Nat} {Q : xQ} {σ : xM} {l0 : Nat} {l1 : Int32} {l2 : Int32} {l3 : Int32} {x : xM} (hf : f_X12_times σ l0 l1 l2 l3 = some x) (hR : ∀ g, x = g → Q (.inl none) (g) π) : xMach G π J_X12_times (d + 1) C Z 0 (lv_args 0 [.ref l0, .int l1, .int l2, .int l3]) [] σ Q := by
  unfold f_X12_times at hf
  refine xm_stL (L' := [(0, .ref l0), (1, .int l1), (2, .int l2), (3, .int l3)]) rfl ?_
  refine xm_aload_n dX12_times_0 rfl ?_
  refine xb_getR (a := l0) (c := 12) (k := 2) dX12_times_1 xcl12 (by decide) xw_1839 rfl hf (fun x1 ex1 hf => ?_)
  refine xm_iload_n dX12_times_4 rfl ?_
  refine xb_iald dX12_times_5 hf (fun x2 ex2 hf => ?_)
  refine xm_aload_n dX12_times_6 rfl ?_
  refine xb_getR (a := l0) (c := 12) (k := 2) dX12_times_7 xcl12 (by decide) xw_1839 rfl hf (fun x3 ex3 hf => ?_)
  refine xm_iload_n dX12_times_10 rfl ?_
  refine xb_iald dX12_times_11 hf (fun x4 ex4 hf => ?_)
  refine xm_iadd dX12_times_12 ?_
  refine xb_topi hf (fun v5 ev5 hf => ?_)
  refine xm_istore dX12_times_13 (by decide) (xm_stL (L' := [(4, .int v5), (0, .ref l0), (1, .int l1), (2, .int l2), (3, .int l3)]) rfl ?_)
  refine xm_iconst dX12_times_15 (v := 0) (by decide) ?_
  refine xb_topi hf (fun v6 ev6 hf => ?_)
  refine xm_istore dX12_times_16 (by decide) (xm_stL (L' := [(5, .int v6), (4, .int v5), (0, .ref l0), (1, .int l1), (2, .int l2), (3, .int l3)]) rfl ?_)
  obtain ⟨o, h1, hf⟩ := xbind hf
  refine xm_sub [2, 3, 4, 5, 1, 0] rfl (L_X12_times_l18  h1 (fun g hg => ?_) (fun e he => ?_))
  · subst hg
    cases hf
    exact hR _ rfl
  · subst he
    rw [Sum.elim_inr] at hf
    have hf : f_X12_times_j45 e.2.2.2.2.2 e.1 e.2.1 e.2.2.1 e.2.2.2.1 e.2.2.2.2.1 = some _ := hf
    exact xm_sub [0, 1, 2, 3, 4] rfl (L_X12_times_j45 e.2.2.2.2.2 e.1 e.2.1 e.2.2.1 e.2.2.2.1 e.2.2.2.2.1 hf hR)
-- RankwiseModel.bits(I)I
def f_X12_bits_s58 (σ : xM) (s : (Int32 × Int32)) : Option (Int32 ⊕ ((Int32) ⊕ (Int32 × Int32))) :=
  xlet s.1 (fun l2 => xlet s.2 (fun l3 => (if l2 ≤ (0 : Int32) then some (Sum.inr (Sum.inl l3)) else xlet (l3 + (1 : Int32)) (fun v11 => xlet (l2 >>> ((1 : Int32) &&& 31)) (fun v12 => some (Sum.inr (Sum.inr (v12, v11))))))))
set_option maxHeartbeats 4000000 in
set_option maxRecDepth 20000 in
theorem L_X12_bits_s58 {G : xG} {π : Nat → Nat} {d C Z : Nat} {Q : xQ} (σ : xM) (l2 : Int32) (l3 : Int32) {x : (Int32 ⊕ ((Int32) ⊕ (Int32 × Int32)))} (hf : f_X12_bits_s58 σ (l2, l3) = some x) (hR : ∀ g, x = Sum.inl (g) → Q (.inl (some (.int g))) (σ) π) (hE : ∀ e : (Int32), x = Sum.inr (Sum.inl e) → xMach G π J_X12_bits (d + 0) C Z 72 [(3, .int e)] [] σ Q) (hC : ∀ e : (Int32 × Int32), x = Sum.inr (Sum.inr e) → xMach G π J_X12_bits (d + 0) C Z 58 [(2, .int e.1), (3, .int e.2)] [] σ Q) : xMach G π J_X12_bits (d + 0) C Z 58 [(2, .int l2), (3, .int l3)] [] σ Q := by
  have hf : (if l2 ≤ (0 : Int32) then some (Sum.inr (Sum.inl l3)) else xlet (l3 + (1 : Int32)) (fun v11 => xlet (l2 >>> ((1 : Int32) &&& 31)) (fun v12 => some (Sum.inr (Sum.inr (v12, v11)))))) = some x := hf
  refine xm_iload_n dX12_bits_58 rfl ?_
  refine xb_if_le 72 dX12_bits_59 (by decide) hf (fun c hf => ?_) (fun c hf => ?_)
  · cases hf
    exact xm_sub [1] rfl (hE _ rfl)
  · refine xb_iinc dX12_bits_62 rfl (by decide) (by decide) hf (fun v11 ev11 hf => xm_stL (L' := [(3, .int v11), (2, .int l2)]) rfl ?_)
    refine xm_iload_n dX12_bits_65 rfl ?_
    refine xm_iconst dX12_bits_66 (v := 1) (by decide) ?_
    refine xm_ishr dX12_bits_67 ?_
    refine xb_topi hf (fun v12 ev12 hf => ?_)
    refine xm_istore_n dX12_bits_68 (by decide) (xm_stL (L' := [(2, .int v12), (3, .int v11)]) rfl ?_)
    refine xm_goto 58 dX12_bits_69 (by decide) ?_
    cases hf
    exact xm_sub [0, 1] rfl (hC _ rfl)
theorem L_X12_bits_l58 {G : xG} {π : Nat → Nat} {d C Z : Nat} {Q : xQ} (σ : xM) {s0 : (Int32 × Int32)} {x : (Int32 ⊕ (Int32))} (h1 : xloop (f_X12_bits_s58 σ) xF s0 = some x) (hR : ∀ g, x = Sum.inl g → Q (.inl (some (.int g))) (σ) π) (hE : ∀ e : (Int32), x = Sum.inr e → xMach G π J_X12_bits (d + 0) C Z 72 [(3, .int e)] [] σ Q) : xMach G π J_X12_bits (d + 0) C Z 58 [(2, .int s0.1), (3, .int s0.2)] [] σ Q := by
  refine xloop_run (M := (fun s : (Int32 × Int32) => xMach G π J_X12_bits (d + 0) C Z 58 [(2, .int s.1), (3, .int s.2)] [] σ Q)) (r := x) ?_ xF _ h1
  intro s y hs hx
  exact L_X12_bits_s58 σ s.1 s.2 (x := y) hs (fun g hg => by subst hg; exact hR g hx) (fun e he => by subst he; exact hE e hx) (fun e he => by subst he; exact hx)
def f_X12_bits_j72 (σ : xM) (l3 : Int32) : Option Int32 :=
  some l3
set_option maxHeartbeats 4000000 in
set_option maxRecDepth 20000 in
theorem L_X12_bits_j72 {G : xG} {π : Nat → Nat} {d C Z : Nat} {Q : xQ} (σ : xM) (l3 : Int32) {x : Int32} (hf : f_X12_bits_j72 σ l3 = some x) (hR : ∀ g, x = g → Q (.inl (some (.int g))) (σ) π) : xMach G π J_X12_bits (d + 0) C Z 72 [(3, .int l3)] [] σ Q := by
  unfold f_X12_bits_j72 at hf
  refine xm_iload_n dX12_bits_72 rfl ?_
  cases hf
  exact xm_iret dX12_bits_73 rfl (hR _ rfl)
def f_X12_bits_j57 (σ : xM) (l2 : Int32) (s0 : Int32) : Option Int32 :=
  (xloop (f_X12_bits_s58 σ ) xF (l2, s0)).bind (Sum.elim (fun g => some g) (fun e => f_X12_bits_j72 σ e))
set_option maxHeartbeats 4000000 in
set_option maxRecDepth 20000 in
theorem L_X12_bits_j57 {G : xG} {π : Nat → Nat} {d C Z : Nat} {Q : xQ} (σ : xM) (l2 : Int32) (s0 : Int32) {x : Int32} (hf : f_X12_bits_j57 σ l2 s0 = some x) (hR : ∀ g, x = g → Q (.inl (some (.int g))) (σ) π) : xMach G π J_X12_bits (d + 0) C Z 57 [(2, .int l2)] [.int s0] σ Q := by
  unfold f_X12_bits_j57 at hf
  refine xm_istore_n dX12_bits_57 (by decide) (xm_stL (L' := [(3, .int s0), (2, .int l2)]) rfl ?_)
  obtain ⟨o, h1, hf⟩ := xbind hf
  refine xm_sub [1, 0] rfl (L_X12_bits_l58 σ h1 (fun g hg => ?_) (fun e he => ?_))
  · subst hg
    cases hf
    exact hR _ rfl
  · subst he
    rw [Sum.elim_inr] at hf
    have hf : f_X12_bits_j72 σ e = some _ := hf
    exact xm_sub [0] rfl (L_X12_bits_j72 σ e hf hR)
def f_X12_bits_j32 (σ : xM) (l0 : Nat) (l1 : Int32) (s0 : Int32) : Option Int32 :=
  (gR σ l0 12 2).bind (fun x7 => (aI σ x7 14 l1).bind (fun x8 => (if x8 = (0 : Int32) then f_X12_bits_j57 σ s0 (0 : Int32) else (gR σ l0 12 2).bind (fun x9 => (aI σ x9 14 l1).bind (fun x10 => f_X12_bits_j57 σ s0 ((16 : Int32) * (x10 - (1 : Int32))))))))
set_option maxHeartbeats 4000000 in
set_option maxRecDepth 20000 in
theorem L_X12_bits_j32 {G : xG} {π : Nat → Nat} {d C Z : Nat} {Q : xQ} (σ : xM) (l0 : Nat) (l1 : Int32) (s0 : Int32) {x : Int32} (hf : f_X12_bits_j32 σ l0 l1 s0 = some x) (hR : ∀ g, x = g → Q (.inl (some (.int g))) (σ) π) : xMach G π J_X12_bits (d + 0) C Z 32 [(0, .ref l0), (1, .int l1)] [.int s0] σ Q := by
  unfold f_X12_bits_j32 at hf
  refine xm_istore_n dX12_bits_32 (by decide) (xm_stL (L' := [(2, .int s0), (0, .ref l0), (1, .int l1)]) rfl ?_)
  refine xm_aload_n dX12_bits_33 rfl ?_
  refine xb_getR (a := l0) (c := 12) (k := 2) dX12_bits_34 xcl12 (by decide) xw_1839 rfl hf (fun x7 ex7 hf => ?_)
  refine xm_iload_n dX12_bits_37 rfl ?_
  refine xb_iald dX12_bits_38 hf (fun x8 ex8 hf => ?_)
  refine xb_if_ne 46 dX12_bits_39 (by decide) hf (fun c hf => ?_) (fun c hf => ?_)
  · refine xm_bipush dX12_bits_46 (v := 16) (by decide) ?_
    refine xm_aload_n dX12_bits_48 rfl ?_
    refine xb_getR (a := l0) (c := 12) (k := 2) dX12_bits_49 xcl12 (by decide) xw_1839 rfl hf (fun x9 ex9 hf => ?_)
    refine xm_iload_n dX12_bits_52 rfl ?_
    refine xb_iald dX12_bits_53 hf (fun x10 ex10 hf => ?_)
    refine xm_iconst dX12_bits_54 (v := 1) (by decide) ?_
    refine xm_isub dX12_bits_55 ?_
    refine xm_imul dX12_bits_56 ?_
    exact xm_sub [0] rfl (L_X12_bits_j57 σ s0 ((16 : Int32) * (x10 - (1 : Int32))) hf hR)
  · refine xm_iconst dX12_bits_42 (v := 0) (by decide) ?_
    refine xm_goto 57 dX12_bits_43 (by decide) ?_
    exact xm_sub [0] rfl (L_X12_bits_j57 σ s0 (0 : Int32) hf hR)
def f_X12_bits (σ : xM) (l0 : Nat) (l1 : Int32) : Option Int32 :=
  (gR σ l0 12 2).bind (fun x1 => (aI σ x1 14 l1).bind (fun x2 => (if x2 = (0 : Int32) then f_X12_bits_j32 σ l0 l1 (0 : Int32) else (gR σ l0 12 1).bind (fun x3 => (gR σ l0 12 2).bind (fun x4 => (aI σ x4 14 l1).bind (fun x5 => (aI σ x3 14 ((((440 : Int32) * l1) + x5) - (1 : Int32))).bind (fun x6 => f_X12_bits_j32 σ l0 l1 x6)))))))
set_option maxHeartbeats 4000000 in
set_option maxRecDepth 20000 in
theorem m_X12_bits {G : xG} {π : Nat → Nat} {d C Z : Nat} {Q : xQ} {σ : xM} {l0 : Nat} {l1 : Int32} {x : Int32} (hf : f_X12_bits σ l0 l1 = some x) (hR : ∀ g, x = g → Q (.inl (some (.int g))) (σ) π) : xMach G π J_X12_bits (d + 0) C Z 0 (lv_args 0 [.ref l0, .int l1]) [] σ Q := by
  unfold f_X12_bits at hf
  refine xm_stL (L' := [(0, .ref l0), (1, .int l1)]) rfl ?_
  refine xm_aload_n dX12_bits_0 rfl ?_
  refine xb_getR (a := l0) (c := 12) (k := 2) dX12_bits_1 xcl12 (by decide) xw_1839 rfl hf (fun x1 ex1 hf => ?_)
  refine xm_iload_n dX12_bits_4 rfl ?_
  refine xb_iald dX12_bits_5 hf (fun x2 ex2 hf => ?_)
  refine xb_if_ne 13 dX12_bits_6 (by decide) hf (fun c hf => ?_) (fun c hf => ?_)
  · refine xm_aload_n dX12_bits_13 rfl ?_
    refine xb_getR (a := l0) (c := 12) (k := 1) dX12_bits_14 xcl12 (by decide) xw_1838 rfl hf (fun x3 ex3 hf => ?_)
    refine xm_sipush dX12_bits_17 (v := 440) (by decide) ?_
    refine xm_iload_n dX12_bits_20 rfl ?_
    refine xm_imul dX12_bits_21 ?_
    refine xm_aload_n dX12_bits_22 rfl ?_
    refine xb_getR (a := l0) (c := 12) (k := 2) dX12_bits_23 xcl12 (by decide) xw_1839 rfl hf (fun x4 ex4 hf => ?_)
    refine xm_iload_n dX12_bits_26 rfl ?_
    refine xb_iald dX12_bits_27 hf (fun x5 ex5 hf => ?_)
    refine xm_iadd dX12_bits_28 ?_
    refine xm_iconst dX12_bits_29 (v := 1) (by decide) ?_
    refine xm_isub dX12_bits_30 ?_
    refine xb_iald dX12_bits_31 hf (fun x6 ex6 hf => ?_)
    exact xm_sub [0, 1] rfl (L_X12_bits_j32 σ l0 l1 x6 hf hR)
  · refine xm_iconst dX12_bits_9 (v := 0) (by decide) ?_
    refine xm_goto 32 dX12_bits_10 (by decide) ?_
    exact xm_sub [0, 1] rfl (L_X12_bits_j32 σ l0 l1 (0 : Int32) hf hR)
-- RankwiseModel.isBit(II)Z
def f_X12_isBit_j42 (σ : xM) (s0 : Int32) : Option Int32 :=
  (xz s0).bind (fun b3 => some b3)
set_option maxHeartbeats 4000000 in
set_option maxRecDepth 20000 in
theorem L_X12_isBit_j42 {G : xG} {π : Nat → Nat} {d C Z : Nat} {Q : xQ} (σ : xM) (s0 : Int32) {x : Int32} (hf : f_X12_isBit_j42 σ s0 = some x) (hR : ∀ g, x = g → Q (.inl (some (.int g))) (σ) π) : xMach G π J_X12_isBit (d + 0) C Z 42 [] [.int s0] σ Q := by
  unfold f_X12_isBit_j42 at hf
  obtain ⟨b3, eb3, hf⟩ := xbind hf
  obtain ⟨rfl, hz⟩ := xz_of eb3
  cases hf
  exact xm_zret dX12_isBit_42 rfl hz (hR _ rfl)
def f_X12_isBit_j41 (σ : xM)  : Option Int32 :=
  f_X12_isBit_j42 σ (0 : Int32)
set_option maxHeartbeats 4000000 in
set_option maxRecDepth 20000 in
theorem L_X12_isBit_j41 {G : xG} {π : Nat → Nat} {d C Z : Nat} {Q : xQ} (σ : xM)  {x : Int32} (hf : f_X12_isBit_j41 σ = some x) (hR : ∀ g, x = g → Q (.inl (some (.int g))) (σ) π) : xMach G π J_X12_isBit (d + 0) C Z 41 [] [] σ Q := by
  unfold f_X12_isBit_j41 at hf
  refine xm_iconst dX12_isBit_41 (v := 0) (by decide) ?_
  exact xm_sub [] rfl (L_X12_isBit_j42 σ (0 : Int32) hf hR)
def f_X12_isBit (σ : xM) (l0 : Nat) (l1 : Int32) (l2 : Int32) : Option Int32 :=
  (gR σ l0 12 2).bind (fun x1 => (aI σ x1 14 l1).bind (fun x2 => (if x2 ≤ (l2 >>> ((4 : Int32) &&& 31)) then f_X12_isBit_j41 σ else (gR σ l0 12 1).bind (fun x4 => (aI σ x4 14 (((440 : Int32) * l1) + (l2 >>> ((4 : Int32) &&& 31)))).bind (fun x5 => (if ((x5 >>> ((l2 &&& (15 : Int32)) &&& 31)) &&& (1 : Int32)) = (1 : Int32) then f_X12_isBit_j42 σ (1 : Int32) else f_X12_isBit_j41 σ))))))
set_option maxHeartbeats 4000000 in
set_option maxRecDepth 20000 in
theorem m_X12_isBit {G : xG} {π : Nat → Nat} {d C Z : Nat} {Q : xQ} {σ : xM} {l0 : Nat} {l1 : Int32} {l2 : Int32} {x : Int32} (hf : f_X12_isBit σ l0 l1 l2 = some x) (hR : ∀ g, x = g → Q (.inl (some (.int g))) (σ) π) : xMach G π J_X12_isBit (d + 0) C Z 0 (lv_args 0 [.ref l0, .int l1, .int l2]) [] σ Q := by
  unfold f_X12_isBit at hf
  refine xm_stL (L' := [(0, .ref l0), (1, .int l1), (2, .int l2)]) rfl ?_
  refine xm_iload_n dX12_isBit_0 rfl ?_
  refine xm_iconst dX12_isBit_1 (v := 4) (by decide) ?_
  refine xm_ishr dX12_isBit_2 ?_
  refine xm_aload_n dX12_isBit_3 rfl ?_
  refine xb_getR (a := l0) (c := 12) (k := 2) dX12_isBit_4 xcl12 (by decide) xw_1839 rfl hf (fun x1 ex1 hf => ?_)
  refine xm_iload_n dX12_isBit_7 rfl ?_
  refine xb_iald dX12_isBit_8 hf (fun x2 ex2 hf => ?_)
  refine xb_icmp_ge 41 dX12_isBit_9 (by decide) hf (fun c hf => ?_) (fun c hf => ?_)
  · exact xm_sub [] rfl (L_X12_isBit_j41 σ hf hR)
  · refine xm_aload_n dX12_isBit_12 rfl ?_
    refine xb_getR (a := l0) (c := 12) (k := 1) dX12_isBit_13 xcl12 (by decide) xw_1838 rfl hf (fun x4 ex4 hf => ?_)
    refine xm_sipush dX12_isBit_16 (v := 440) (by decide) ?_
    refine xm_iload_n dX12_isBit_19 rfl ?_
    refine xm_imul dX12_isBit_20 ?_
    refine xm_iload_n dX12_isBit_21 rfl ?_
    refine xm_iconst dX12_isBit_22 (v := 4) (by decide) ?_
    refine xm_ishr dX12_isBit_23 ?_
    refine xm_iadd dX12_isBit_24 ?_
    refine xb_iald dX12_isBit_25 hf (fun x5 ex5 hf => ?_)
    refine xm_iload_n dX12_isBit_26 rfl ?_
    refine xm_bipush dX12_isBit_27 (v := 15) (by decide) ?_
    refine xm_iand dX12_isBit_29 ?_
    refine xm_ishr dX12_isBit_30 ?_
    refine xm_iconst dX12_isBit_31 (v := 1) (by decide) ?_
    refine xm_iand dX12_isBit_32 ?_
    refine xm_iconst dX12_isBit_33 (v := 1) (by decide) ?_
    refine xb_icmp_ne 41 dX12_isBit_34 (by decide) hf (fun c hf => ?_) (fun c hf => ?_)
    · exact xm_sub [] rfl (L_X12_isBit_j41 σ hf hR)
    · refine xm_iconst dX12_isBit_37 (v := 1) (by decide) ?_
      refine xm_goto 42 dX12_isBit_38 (by decide) ?_
      exact xm_sub [] rfl (L_X12_isBit_j42 σ (1 : Int32) hf hR)
-- RankwiseModel.twice(II)V
def f_X12_twice_s5 (s : (Nat × Int32 × Int32 × Int32 × xM)) : Option (xM ⊕ ((Nat × Int32 × Int32 × xM) ⊕ (Nat × Int32 × Int32 × Int32 × xM))) :=
  xlet s.1 (fun l0 => xlet s.2.1 (fun l1 => xlet s.2.2.1 (fun l3 => xlet s.2.2.2.1 (fun l4 => xlet s.2.2.2.2 (fun σ => (gR σ l0 12 2).bind (fun x2 => (aI σ x2 14 l1).bind (fun x3 => (if x3 ≤ l4 then some (Sum.inr (Sum.inl (l0, l1, l3, σ))) else (gR σ l0 12 1).bind (fun x4 => (aI σ x4 14 (((440 : Int32) * l1) + l4)).bind (fun x5 => xlet (((2 : Int32) * x5) + l3) (fun v6 => (gR σ l0 12 1).bind (fun x7 => (wI σ x7 (((440 : Int32) * l1) + l4) (v6 &&& (65535 : Int32))).bind (fun σ8 => xlet (v6 >>> ((16 : Int32) &&& 31)) (fun v9 => xlet (l4 + (1 : Int32)) (fun v10 => some (Sum.inr (Sum.inr (l0, l1, v9, v10, σ8))))))))))))))))))
set_option maxHeartbeats 4000000 in
set_option maxRecDepth 20000 in
theorem L_X12_twice_s5 {G : xG} {π : Nat → Nat} {d C Z : Nat} {Q : xQ} (σ : xM) (l0 : Nat) (l1 : Int32) (l3 : Int32) (l4 : Int32) {x : (xM ⊕ ((Nat × Int32 × Int32 × xM) ⊕ (Nat × Int32 × Int32 × Int32 × xM)))} (hf : f_X12_twice_s5 (l0, l1, l3, l4, σ) = some x) (hR : ∀ g, x = Sum.inl (g) → Q (.inl none) (g) π) (hE : ∀ e : (Nat × Int32 × Int32 × xM), x = Sum.inr (Sum.inl e) → xMach G π J_X12_twice (d + 0) C Z 65 [(0, .ref e.1), (1, .int e.2.1), (3, .int e.2.2.1)] [] e.2.2.2 Q) (hC : ∀ e : (Nat × Int32 × Int32 × Int32 × xM), x = Sum.inr (Sum.inr e) → xMach G π J_X12_twice (d + 0) C Z 5 [(0, .ref e.1), (1, .int e.2.1), (3, .int e.2.2.1), (4, .int e.2.2.2.1)] [] e.2.2.2.2 Q) : xMach G π J_X12_twice (d + 0) C Z 5 [(0, .ref l0), (1, .int l1), (3, .int l3), (4, .int l4)] [] σ Q := by
  have hf : (gR σ l0 12 2).bind (fun x2 => (aI σ x2 14 l1).bind (fun x3 => (if x3 ≤ l4 then some (Sum.inr (Sum.inl (l0, l1, l3, σ))) else (gR σ l0 12 1).bind (fun x4 => (aI σ x4 14 (((440 : Int32) * l1) + l4)).bind (fun x5 => xlet (((2 : Int32) * x5) + l3) (fun v6 => (gR σ l0 12 1).bind (fun x7 => (wI σ x7 (((440 : Int32) * l1) + l4) (v6 &&& (65535 : Int32))).bind (fun σ8 => xlet (v6 >>> ((16 : Int32) &&& 31)) (fun v9 => xlet (l4 + (1 : Int32)) (fun v10 => some (Sum.inr (Sum.inr (l0, l1, v9, v10, σ8))))))))))))) = some x := hf
  refine xm_iload dX12_twice_5 rfl ?_
  refine xm_aload_n dX12_twice_7 rfl ?_
  refine xb_getR (a := l0) (c := 12) (k := 2) dX12_twice_8 xcl12 (by decide) xw_1839 rfl hf (fun x2 ex2 hf => ?_)
  refine xm_iload_n dX12_twice_11 rfl ?_
  refine xb_iald dX12_twice_12 hf (fun x3 ex3 hf => ?_)
  refine xb_icmp_ge 65 dX12_twice_13 (by decide) hf (fun c hf => ?_) (fun c hf => ?_)
  · cases hf
    exact xm_sub [0, 1, 2] rfl (hE _ rfl)
  · refine xm_iconst dX12_twice_16 (v := 2) (by decide) ?_
    refine xm_aload_n dX12_twice_17 rfl ?_
    refine xb_getR (a := l0) (c := 12) (k := 1) dX12_twice_18 xcl12 (by decide) xw_1838 rfl hf (fun x4 ex4 hf => ?_)
    refine xm_sipush dX12_twice_21 (v := 440) (by decide) ?_
    refine xm_iload_n dX12_twice_24 rfl ?_
    refine xm_imul dX12_twice_25 ?_
    refine xm_iload dX12_twice_26 rfl ?_
    refine xm_iadd dX12_twice_28 ?_
    refine xb_iald dX12_twice_29 hf (fun x5 ex5 hf => ?_)
    refine xm_imul dX12_twice_30 ?_
    refine xm_iload_n dX12_twice_31 rfl ?_
    refine xm_iadd dX12_twice_32 ?_
    refine xb_topi hf (fun v6 ev6 hf => ?_)
    refine xm_istore dX12_twice_33 (by decide) (xm_stL (L' := [(5, .int v6), (0, .ref l0), (1, .int l1), (3, .int l3), (4, .int l4)]) rfl ?_)
    refine xm_aload_n dX12_twice_35 rfl ?_
    refine xb_getR (a := l0) (c := 12) (k := 1) dX12_twice_36 xcl12 (by decide) xw_1838 rfl hf (fun x7 ex7 hf => ?_)
    refine xm_sipush dX12_twice_39 (v := 440) (by decide) ?_
    refine xm_iload_n dX12_twice_42 rfl ?_
    refine xm_imul dX12_twice_43 ?_
    refine xm_iload dX12_twice_44 rfl ?_
    refine xm_iadd dX12_twice_46 ?_
    refine xm_iload dX12_twice_47 rfl ?_
    refine xm_ldc dX12_twice_49 (xws_in xw_1828) ?_
    refine xm_iand dX12_twice_51 ?_
    refine xb_iast dX12_twice_52 hf (fun σ8 eσ8 hf => ?_)
    refine xm_iload dX12_twice_53 rfl ?_
    refine xm_bipush dX12_twice_55 (v := 16) (by decide) ?_
    refine xm_ishr dX12_twice_57 ?_
    refine xb_topi hf (fun v9 ev9 hf => ?_)
    refine xm_istore_n dX12_twice_58 (by decide) (xm_stL (L' := [(3, .int v9), (5, .int v6), (0, .ref l0), (1, .int l1), (4, .int l4)]) rfl ?_)
    refine xb_iinc dX12_twice_59 rfl (by decide) (by decide) hf (fun v10 ev10 hf => xm_stL (L' := [(4, .int v10), (3, .int v9), (5, .int v6), (0, .ref l0), (1, .int l1)]) rfl ?_)
    refine xm_goto 5 dX12_twice_62 (by decide) ?_
    cases hf
    exact xm_sub [3, 4, 1, 0] rfl (hC _ rfl)
theorem L_X12_twice_l5 {G : xG} {π : Nat → Nat} {d C Z : Nat} {Q : xQ} {s0 : (Nat × Int32 × Int32 × Int32 × xM)} {x : (xM ⊕ (Nat × Int32 × Int32 × xM))} (h1 : xloop (f_X12_twice_s5) xF s0 = some x) (hR : ∀ g, x = Sum.inl g → Q (.inl none) (g) π) (hE : ∀ e : (Nat × Int32 × Int32 × xM), x = Sum.inr e → xMach G π J_X12_twice (d + 0) C Z 65 [(0, .ref e.1), (1, .int e.2.1), (3, .int e.2.2.1)] [] e.2.2.2 Q) : xMach G π J_X12_twice (d + 0) C Z 5 [(0, .ref s0.1), (1, .int s0.2.1), (3, .int s0.2.2.1), (4, .int s0.2.2.2.1)] [] s0.2.2.2.2 Q := by
  refine xloop_run (M := (fun s : (Nat × Int32 × Int32 × Int32 × xM) => xMach G π J_X12_twice (d + 0) C Z 5 [(0, .ref s.1), (1, .int s.2.1), (3, .int s.2.2.1), (4, .int s.2.2.2.1)] [] s.2.2.2.2 Q)) (r := x) ?_ xF _ h1
  intro s y hs hx
  exact L_X12_twice_s5 s.2.2.2.2 s.1 s.2.1 s.2.2.1 s.2.2.2.1 (x := y) hs (fun g hg => by subst hg; exact hR g hx) (fun e he => by subst he; exact hE e hx) (fun e he => by subst he; exact hx)
def f_X12_twice_j97 (σ : xM)  : Option xM :=
  some σ
set_option maxHeartbeats 4000000 in
set_option maxRecDepth 20000 in
theorem L_X12_twice_j97 {G : xG} {π : Nat → Nat} {d C Z : Nat} {Q : xQ} (σ : xM)  {x : xM} (hf : f_X12_twice_j97 σ = some x) (hR : ∀ g, x = g → Q (.inl none) (g) π) : xMach G π J_X12_twice (d + 0) C Z 97 [] [] σ Q := by
  unfold f_X12_twice_j97 at hf
  cases hf
  exact xm_vret dX12_twice_97 rfl (hR _ rfl)
def f_X12_twice_j65 (σ : xM) (l0 : Nat) (l1 : Int32) (l3 : Int32) : Option xM :=
  (if l3 ≤ (0 : Int32) then f_X12_twice_j97 σ else (gR σ l0 12 1).bind (fun x11 => (gR σ l0 12 2).bind (fun x12 => (aI σ x12 14 l1).bind (fun x13 => (wI σ x11 (((440 : Int32) * l1) + x13) l3).bind (fun σ14 => (gR σ14 l0 12 2).bind (fun x15 => (aI σ14 x15 14 l1).bind (fun x16 => (wI σ14 x15 l1 (x16 + (1 : Int32))).bind (fun σ17 => f_X12_twice_j97 σ17))))))))
set_option maxHeartbeats 4000000 in
set_option maxRecDepth 20000 in
theorem L_X12_twice_j65 {G : xG} {π : Nat → Nat} {d C Z : Nat} {Q : xQ} (σ : xM) (l0 : Nat) (l1 : Int32) (l3 : Int32) {x : xM} (hf : f_X12_twice_j65 σ l0 l1 l3 = some x) (hR : ∀ g, x = g → Q (.inl none) (g) π) : xMach G π J_X12_twice (d + 0) C Z 65 [(0, .ref l0), (1, .int l1), (3, .int l3)] [] σ Q := by
  unfold f_X12_twice_j65 at hf
  refine xm_iload_n dX12_twice_65 rfl ?_
  refine xb_if_le 97 dX12_twice_66 (by decide) hf (fun c hf => ?_) (fun c hf => ?_)
  · exact xm_sub [] rfl (L_X12_twice_j97 σ hf hR)
  · refine xm_aload_n dX12_twice_69 rfl ?_
    refine xb_getR (a := l0) (c := 12) (k := 1) dX12_twice_70 xcl12 (by decide) xw_1838 rfl hf (fun x11 ex11 hf => ?_)
    refine xm_sipush dX12_twice_73 (v := 440) (by decide) ?_
    refine xm_iload_n dX12_twice_76 rfl ?_
    refine xm_imul dX12_twice_77 ?_
    refine xm_aload_n dX12_twice_78 rfl ?_
    refine xb_getR (a := l0) (c := 12) (k := 2) dX12_twice_79 xcl12 (by decide) xw_1839 rfl hf (fun x12 ex12 hf => ?_)
    refine xm_iload_n dX12_twice_82 rfl ?_
    refine xb_iald dX12_twice_83 hf (fun x13 ex13 hf => ?_)
    refine xm_iadd dX12_twice_84 ?_
    refine xm_iload_n dX12_twice_85 rfl ?_
    refine xb_iast dX12_twice_86 hf (fun σ14 eσ14 hf => ?_)
    refine xm_aload_n dX12_twice_87 rfl ?_
    refine xb_getR (a := l0) (c := 12) (k := 2) dX12_twice_88 xcl12 (by decide) xw_1839 rfl hf (fun x15 ex15 hf => ?_)
    refine xm_iload_n dX12_twice_91 rfl ?_
    refine xm_dup2 dX12_twice_92 rfl rfl ?_
    refine xb_iald dX12_twice_93 hf (fun x16 ex16 hf => ?_)
    refine xm_iconst dX12_twice_94 (v := 1) (by decide) ?_
    refine xm_iadd dX12_twice_95 ?_
    refine xb_iast dX12_twice_96 hf (fun σ17 eσ17 hf => ?_)
    exact xm_sub [] rfl (L_X12_twice_j97 σ17 hf hR)
def f_X12_twice (σ : xM) (l0 : Nat) (l1 : Int32) (l2 : Int32) : Option xM :=
  xlet (0 : Int32) (fun v1 => (xloop (f_X12_twice_s5 ) xF (l0, l1, l2, v1, σ)).bind (Sum.elim (fun g => some g) (fun e => f_X12_twice_j65 e.2.2.2 e.1 e.2.1 e.2.2.1)))
set_option maxHeartbeats 4000000 in
set_option maxRecDepth 20000 in
theorem m_X12_twice {G : xG} {π : Nat → Nat} {d C Z : Nat} {Q : xQ} {σ : xM} {l0 : Nat} {l1 : Int32} {l2 : Int32} {x : xM} (hf : f_X12_twice σ l0 l1 l2 = some x) (hR : ∀ g, x = g → Q (.inl none) (g) π) : xMach G π J_X12_twice (d + 0) C Z 0 (lv_args 0 [.ref l0, .int l1, .int l2]) [] σ Q := by
  unfold f_X12_twice at hf
  refine xm_stL (L' := [(0, .ref l0), (1, .int l1), (2, .int l2)]) rfl ?_
  refine xm_iload_n dX12_twice_0 rfl ?_
  refine xm_istore_n dX12_twice_1 (by decide) (xm_stL (L' := [(3, .int l2), (0, .ref l0), (1, .int l1), (2, .int l2)]) rfl ?_)
  refine xm_iconst dX12_twice_2 (v := 0) (by decide) ?_
  refine xb_topi hf (fun v1 ev1 hf => ?_)
  refine xm_istore dX12_twice_3 (by decide) (xm_stL (L' := [(4, .int v1), (3, .int l2), (0, .ref l0), (1, .int l1), (2, .int l2)]) rfl ?_)
  obtain ⟨o, h1, hf⟩ := xbind hf
  refine xm_sub [2, 3, 1, 0] rfl (L_X12_twice_l5  h1 (fun g hg => ?_) (fun e he => ?_))
  · subst hg
    cases hf
    exact hR _ rfl
  · subst he
    rw [Sum.elim_inr] at hf
    have hf : f_X12_twice_j65 e.2.2.2 e.1 e.2.1 e.2.2.1 = some _ := hf
    exact xm_sub [0, 1, 2] rfl (L_X12_twice_j65 e.2.2.2 e.1 e.2.1 e.2.2.1 hf hR)
-- RankwiseModel.divide(IIII)V
def f_X12_divide_j89 (σ : xM) (l0 : Nat) (l1 : Int32) (l2 : Int32) (l3 : Int32) (l4 : Int32) (l5 : Int32) (s0 : Int32) (s1 : Int32) (s2 : Nat) : Option (xM ⊕ ((xM) ⊕ (Nat × Int32 × Int32 × Int32 × Int32 × Int32 × xM))) :=
  (if xk σ s2 12 = true then (f_X12_twice σ s2 s1 s0).bind (fun p10 => xlet (l5 + (-1 : Int32)) (fun v11 => some (Sum.inr (Sum.inr (l0, l1, l2, l3, l4, v11, p10))))) else none)
set_option maxHeartbeats 4000000 in
set_option maxRecDepth 20000 in
theorem L_X12_divide_j89 {G : xG} {π : Nat → Nat} {d C Z : Nat} {Q : xQ} (σ : xM) (l0 : Nat) (l1 : Int32) (l2 : Int32) (l3 : Int32) (l4 : Int32) (l5 : Int32) (s0 : Int32) (s1 : Int32) (s2 : Nat) {x : (xM ⊕ ((xM) ⊕ (Nat × Int32 × Int32 × Int32 × Int32 × Int32 × xM)))} (hf : f_X12_divide_j89 σ l0 l1 l2 l3 l4 l5 s0 s1 s2 = some x) (hR : ∀ g, x = Sum.inl (g) → Q (.inl none) (g) π) (hE : ∀ e : (xM), x = Sum.inr (Sum.inl e) → xMach G π J_X12_divide (d + 2) C Z 98 [] [] e Q) (hC : ∀ e : (Nat × Int32 × Int32 × Int32 × Int32 × Int32 × xM), x = Sum.inr (Sum.inr e) → xMach G π J_X12_divide (d + 2) C Z 23 [(0, .ref e.1), (1, .int e.2.1), (2, .int e.2.2.1), (3, .int e.2.2.2.1), (4, .int e.2.2.2.2.1), (5, .int e.2.2.2.2.2.1)] [] e.2.2.2.2.2.2 Q) : xMach G π J_X12_divide (d + 2) C Z 89 [(0, .ref l0), (1, .int l1), (2, .int l2), (3, .int l3), (4, .int l4), (5, .int l5)] [.int s0, .int s1, .ref s2] σ Q := by
  unfold f_X12_divide_j89 at hf
  refine xb_if hf (fun hb hf => ?_) (fun _ q => nomatch q)
  obtain ⟨p10, ep10, hf⟩ := xbind hf
  refine xb_callV (As := [.int s1, .int s0]) (v0 := none) (τ0 := p10) dX12_divide_89 (xc_X12_twice _ _) xcl12 xw_2460 xw_2462 xs_159 hb rfl (Nat.le_of_ble_eq_true rfl) rfl (Nat.le_of_ble_eq_true rfl) (fun Q1 hq => m_X12_twice (d := d + 1) ep10 (fun g hg => by subst hg; exact hq)) ?_
  refine xb_iinc dX12_divide_92 rfl (by decide) (by decide) hf (fun v11 ev11 hf => xm_stL (L' := [(5, .int v11), (0, .ref l0), (1, .int l1), (2, .int l2), (3, .int l3), (4, .int l4)]) rfl ?_)
  refine xm_goto 23 dX12_divide_95 (by decide) ?_
  cases hf
  exact xm_sub [1, 2, 3, 4, 5, 0] rfl (hC _ rfl)
def f_X12_divide_j77 (σ : xM) (l0 : Nat) (l1 : Int32) (l2 : Int32) (l3 : Int32) (l4 : Int32) (l5 : Int32) (l6 : Int32) : Option (xM ⊕ ((xM) ⊕ (Nat × Int32 × Int32 × Int32 × Int32 × Int32 × xM))) :=
  (if l6 = (0 : Int32) then f_X12_divide_j89 σ l0 l1 l2 l3 l4 l5 (0 : Int32) l1 l0 else f_X12_divide_j89 σ l0 l1 l2 l3 l4 l5 (1 : Int32) l1 l0)
set_option maxHeartbeats 4000000 in
set_option maxRecDepth 20000 in
theorem L_X12_divide_j77 {G : xG} {π : Nat → Nat} {d C Z : Nat} {Q : xQ} (σ : xM) (l0 : Nat) (l1 : Int32) (l2 : Int32) (l3 : Int32) (l4 : Int32) (l5 : Int32) (l6 : Int32) {x : (xM ⊕ ((xM) ⊕ (Nat × Int32 × Int32 × Int32 × Int32 × Int32 × xM)))} (hf : f_X12_divide_j77 σ l0 l1 l2 l3 l4 l5 l6 = some x) (hR : ∀ g, x = Sum.inl (g) → Q (.inl none) (g) π) (hE : ∀ e : (xM), x = Sum.inr (Sum.inl e) → xMach G π J_X12_divide (d + 2) C Z 98 [] [] e Q) (hC : ∀ e : (Nat × Int32 × Int32 × Int32 × Int32 × Int32 × xM), x = Sum.inr (Sum.inr e) → xMach G π J_X12_divide (d + 2) C Z 23 [(0, .ref e.1), (1, .int e.2.1), (2, .int e.2.2.1), (3, .int e.2.2.2.1), (4, .int e.2.2.2.2.1), (5, .int e.2.2.2.2.2.1)] [] e.2.2.2.2.2.2 Q) : xMach G π J_X12_divide (d + 2) C Z 77 [(0, .ref l0), (1, .int l1), (2, .int l2), (3, .int l3), (4, .int l4), (5, .int l5), (6, .int l6)] [] σ Q := by
  unfold f_X12_divide_j77 at hf
  refine xm_aload_n dX12_divide_77 rfl ?_
  refine xm_iload_n dX12_divide_78 rfl ?_
  refine xm_iload dX12_divide_79 rfl ?_
  refine xb_if_eq 88 dX12_divide_81 (by decide) hf (fun c hf => ?_) (fun c hf => ?_)
  · refine xm_iconst dX12_divide_88 (v := 0) (by decide) ?_
    exact xm_sub [0, 1, 2, 3, 4, 5] rfl (L_X12_divide_j89 σ l0 l1 l2 l3 l4 l5 (0 : Int32) l1 l0 hf hR hE hC)
  · refine xm_iconst dX12_divide_84 (v := 1) (by decide) ?_
    refine xm_goto 89 dX12_divide_85 (by decide) ?_
    exact xm_sub [0, 1, 2, 3, 4, 5] rfl (L_X12_divide_j89 σ l0 l1 l2 l3 l4 l5 (1 : Int32) l1 l0 hf hR hE hC)
def f_X12_divide_j63 (σ : xM) (l0 : Nat) (l1 : Int32) (l2 : Int32) (l3 : Int32) (l4 : Int32) (l5 : Int32) (s0 : Int32) : Option (xM ⊕ ((xM) ⊕ (Nat × Int32 × Int32 × Int32 × Int32 × Int32 × xM))) :=
  (if s0 = (0 : Int32) then f_X12_divide_j77 σ l0 l1 l2 l3 l4 l5 s0 else (if xk σ l0 12 = true then (f_X12_minus σ l0 l2 l4).bind (fun p12 => f_X12_divide_j77 p12 l0 l1 l2 l3 l4 l5 s0) else none))
set_option maxHeartbeats 4000000 in
set_option maxRecDepth 20000 in
theorem L_X12_divide_j63 {G : xG} {π : Nat → Nat} {d C Z : Nat} {Q : xQ} (σ : xM) (l0 : Nat) (l1 : Int32) (l2 : Int32) (l3 : Int32) (l4 : Int32) (l5 : Int32) (s0 : Int32) {x : (xM ⊕ ((xM) ⊕ (Nat × Int32 × Int32 × Int32 × Int32 × Int32 × xM)))} (hf : f_X12_divide_j63 σ l0 l1 l2 l3 l4 l5 s0 = some x) (hR : ∀ g, x = Sum.inl (g) → Q (.inl none) (g) π) (hE : ∀ e : (xM), x = Sum.inr (Sum.inl e) → xMach G π J_X12_divide (d + 2) C Z 98 [] [] e Q) (hC : ∀ e : (Nat × Int32 × Int32 × Int32 × Int32 × Int32 × xM), x = Sum.inr (Sum.inr e) → xMach G π J_X12_divide (d + 2) C Z 23 [(0, .ref e.1), (1, .int e.2.1), (2, .int e.2.2.1), (3, .int e.2.2.2.1), (4, .int e.2.2.2.2.1), (5, .int e.2.2.2.2.2.1)] [] e.2.2.2.2.2.2 Q) : xMach G π J_X12_divide (d + 2) C Z 63 [(0, .ref l0), (1, .int l1), (2, .int l2), (3, .int l3), (4, .int l4), (5, .int l5)] [.int s0] σ Q := by
  unfold f_X12_divide_j63 at hf
  refine xm_istore dX12_divide_63 (by decide) (xm_stL (L' := [(6, .int s0), (0, .ref l0), (1, .int l1), (2, .int l2), (3, .int l3), (4, .int l4), (5, .int l5)]) rfl ?_)
  refine xm_iload dX12_divide_65 rfl ?_
  refine xb_if_eq 77 dX12_divide_67 (by decide) hf (fun c hf => ?_) (fun c hf => ?_)
  · exact xm_sub [1, 2, 3, 4, 5, 6, 0] rfl (L_X12_divide_j77 σ l0 l1 l2 l3 l4 l5 s0 hf hR hE hC)
  · refine xm_aload_n dX12_divide_70 rfl ?_
    refine xm_iload_n dX12_divide_71 rfl ?_
    refine xm_iload dX12_divide_72 rfl ?_
    refine xb_if hf (fun hb hf => ?_) (fun _ q => nomatch q)
    obtain ⟨p12, ep12, hf⟩ := xbind hf
    refine xb_callV (As := [.int l2, .int l4]) (v0 := none) (τ0 := p12) dX12_divide_74 (xc_X12_minus _ _) xcl12 xw_2436 xw_2438 xs_153 hb rfl (Nat.le_of_ble_eq_true rfl) rfl (Nat.le_of_ble_eq_true rfl) (fun Q1 hq => m_X12_minus (d := d + 0) ep12 (fun g hg => by subst hg; exact hq)) ?_
    exact xm_sub [1, 2, 3, 4, 5, 6, 0] rfl (L_X12_divide_j77 p12 l0 l1 l2 l3 l4 l5 s0 hf hR hE hC)
def f_X12_divide_j45 (σ : xM) (l0 : Nat) (l1 : Int32) (l2 : Int32) (l3 : Int32) (l4 : Int32) (l5 : Int32) (s0 : Int32) (s1 : Int32) (s2 : Nat) : Option (xM ⊕ ((xM) ⊕ (Nat × Int32 × Int32 × Int32 × Int32 × Int32 × xM))) :=
  (if xk σ s2 12 = true then (f_X12_twice σ s2 s1 s0).bind (fun p8 => (if xk p8 l0 12 = true then (f_X12_compare p8 l0 l2 l4).bind (fun p9 => (if p9 < (0 : Int32) then f_X12_divide_j63 p8 l0 l1 l2 l3 l4 l5 (0 : Int32) else f_X12_divide_j63 p8 l0 l1 l2 l3 l4 l5 (1 : Int32))) else none)) else none)
set_option maxHeartbeats 4000000 in
set_option maxRecDepth 20000 in
theorem L_X12_divide_j45 {G : xG} {π : Nat → Nat} {d C Z : Nat} {Q : xQ} (σ : xM) (l0 : Nat) (l1 : Int32) (l2 : Int32) (l3 : Int32) (l4 : Int32) (l5 : Int32) (s0 : Int32) (s1 : Int32) (s2 : Nat) {x : (xM ⊕ ((xM) ⊕ (Nat × Int32 × Int32 × Int32 × Int32 × Int32 × xM)))} (hf : f_X12_divide_j45 σ l0 l1 l2 l3 l4 l5 s0 s1 s2 = some x) (hR : ∀ g, x = Sum.inl (g) → Q (.inl none) (g) π) (hE : ∀ e : (xM), x = Sum.inr (Sum.inl e) → xMach G π J_X12_divide (d + 2) C Z 98 [] [] e Q) (hC : ∀ e : (Nat × Int32 × Int32 × Int32 × Int32 × Int32 × xM), x = Sum.inr (Sum.inr e) → xMach G π J_X12_divide (d + 2) C Z 23 [(0, .ref e.1), (1, .int e.2.1), (2, .int e.2.2.1), (3, .int e.2.2.2.1), (4, .int e.2.2.2.2.1), (5, .int e.2.2.2.2.2.1)] [] e.2.2.2.2.2.2 Q) : xMach G π J_X12_divide (d + 2) C Z 45 [(0, .ref l0), (1, .int l1), (2, .int l2), (3, .int l3), (4, .int l4), (5, .int l5)] [.int s0, .int s1, .ref s2] σ Q := by
  unfold f_X12_divide_j45 at hf
  refine xb_if hf (fun hb hf => ?_) (fun _ q => nomatch q)
  obtain ⟨p8, ep8, hf⟩ := xbind hf
  refine xb_callV (As := [.int s1, .int s0]) (v0 := none) (τ0 := p8) dX12_divide_45 (xc_X12_twice _ _) xcl12 xw_2460 xw_2462 xs_159 hb rfl (Nat.le_of_ble_eq_true rfl) rfl (Nat.le_of_ble_eq_true rfl) (fun Q1 hq => m_X12_twice (d := d + 1) ep8 (fun g hg => by subst hg; exact hq)) ?_
  refine xm_aload_n dX12_divide_48 rfl ?_
  refine xm_iload_n dX12_divide_49 rfl ?_
  refine xm_iload dX12_divide_50 rfl ?_
  refine xb_if hf (fun hb hf => ?_) (fun _ q => nomatch q)
  obtain ⟨p9, ep9, hf⟩ := xbind hf
  refine xb_callV (As := [.int l2, .int l4]) (v0 := (some (.int p9))) (τ0 := p8) dX12_divide_52 (xc_X12_compare _ _) xcl12 xw_2432 xw_2434 xs_152 hb rfl (Nat.le_of_ble_eq_true rfl) rfl (Nat.le_of_ble_eq_true rfl) (fun Q1 hq => m_X12_compare (d := d + 1) ep9 (fun g hg => by subst hg; exact hq)) ?_
  refine xb_if_lt 62 dX12_divide_55 (by decide) hf (fun c hf => ?_) (fun c hf => ?_)
  · refine xm_iconst dX12_divide_62 (v := 0) (by decide) ?_
    exact xm_sub [0, 1, 2, 3, 4, 5] rfl (L_X12_divide_j63 p8 l0 l1 l2 l3 l4 l5 (0 : Int32) hf hR hE hC)
  · refine xm_iconst dX12_divide_58 (v := 1) (by decide) ?_
    refine xm_goto 63 dX12_divide_59 (by decide) ?_
    exact xm_sub [0, 1, 2, 3, 4, 5] rfl (L_X12_divide_j63 p8 l0 l1 l2 l3 l4 l5 (1 : Int32) hf hR hE hC)
def f_X12_divide_s23 (s : (Nat × Int32 × Int32 × Int32 × Int32 × Int32 × xM)) : Option (xM ⊕ ((xM) ⊕ (Nat × Int32 × Int32 × Int32 × Int32 × Int32 × xM))) :=
  xlet s.1 (fun l0 => xlet s.2.1 (fun l1 => xlet s.2.2.1 (fun l2 => xlet s.2.2.2.1 (fun l3 => xlet s.2.2.2.2.1 (fun l4 => xlet s.2.2.2.2.2.1 (fun l5 => xlet s.2.2.2.2.2.2 (fun σ => (if l5 < (0 : Int32) then some (Sum.inr (Sum.inl σ)) else (if xk σ l0 12 = true then (f_X12_isBit σ l0 l3 l5).bind (fun p7 => (if p7 = (0 : Int32) then f_X12_divide_j45 σ l0 l1 l2 l3 l4 l5 (0 : Int32) l2 l0 else f_X12_divide_j45 σ l0 l1 l2 l3 l4 l5 (1 : Int32) l2 l0)) else none)))))))))
set_option maxHeartbeats 4000000 in
set_option maxRecDepth 20000 in
theorem L_X12_divide_s23 {G : xG} {π : Nat → Nat} {d C Z : Nat} {Q : xQ} (σ : xM) (l0 : Nat) (l1 : Int32) (l2 : Int32) (l3 : Int32) (l4 : Int32) (l5 : Int32) {x : (xM ⊕ ((xM) ⊕ (Nat × Int32 × Int32 × Int32 × Int32 × Int32 × xM)))} (hf : f_X12_divide_s23 (l0, l1, l2, l3, l4, l5, σ) = some x) (hR : ∀ g, x = Sum.inl (g) → Q (.inl none) (g) π) (hE : ∀ e : (xM), x = Sum.inr (Sum.inl e) → xMach G π J_X12_divide (d + 2) C Z 98 [] [] e Q) (hC : ∀ e : (Nat × Int32 × Int32 × Int32 × Int32 × Int32 × xM), x = Sum.inr (Sum.inr e) → xMach G π J_X12_divide (d + 2) C Z 23 [(0, .ref e.1), (1, .int e.2.1), (2, .int e.2.2.1), (3, .int e.2.2.2.1), (4, .int e.2.2.2.2.1), (5, .int e.2.2.2.2.2.1)] [] e.2.2.2.2.2.2 Q) : xMach G π J_X12_divide (d + 2) C Z 23 [(0, .ref l0), (1, .int l1), (2, .int l2), (3, .int l3), (4, .int l4), (5, .int l5)] [] σ Q := by
  have hf : (if l5 < (0 : Int32) then some (Sum.inr (Sum.inl σ)) else (if xk σ l0 12 = true then (f_X12_isBit σ l0 l3 l5).bind (fun p7 => (if p7 = (0 : Int32) then f_X12_divide_j45 σ l0 l1 l2 l3 l4 l5 (0 : Int32) l2 l0 else f_X12_divide_j45 σ l0 l1 l2 l3 l4 l5 (1 : Int32) l2 l0)) else none)) = some x := hf
  refine xm_iload dX12_divide_23 rfl ?_
  refine xb_if_lt 98 dX12_divide_25 (by decide) hf (fun c hf => ?_) (fun c hf => ?_)
  · cases hf
    exact xm_sub [] rfl (hE _ rfl)
  · refine xm_aload_n dX12_divide_28 rfl ?_
    refine xm_iload_n dX12_divide_29 rfl ?_
    refine xm_aload_n dX12_divide_30 rfl ?_
    refine xm_iload_n dX12_divide_31 rfl ?_
    refine xm_iload dX12_divide_32 rfl ?_
    refine xb_if hf (fun hb hf => ?_) (fun _ q => nomatch q)
    obtain ⟨p7, ep7, hf⟩ := xbind hf
    refine xb_callV (As := [.int l3, .int l5]) (v0 := (some (.int p7))) (τ0 := σ) dX12_divide_34 (xc_X12_isBit _ _) xcl12 xw_2452 xw_2454 xs_157 hb rfl (Nat.le_of_ble_eq_true rfl) rfl (Nat.le_of_ble_eq_true rfl) (fun Q1 hq => m_X12_isBit (d := d + 1) ep7 (fun g hg => by subst hg; exact hq)) ?_
    refine xb_if_eq 44 dX12_divide_37 (by decide) hf (fun c hf => ?_) (fun c hf => ?_)
    · refine xm_iconst dX12_divide_44 (v := 0) (by decide) ?_
      exact xm_sub [0, 1, 2, 3, 4, 5] rfl (L_X12_divide_j45 σ l0 l1 l2 l3 l4 l5 (0 : Int32) l2 l0 hf hR hE hC)
    · refine xm_iconst dX12_divide_40 (v := 1) (by decide) ?_
      refine xm_goto 45 dX12_divide_41 (by decide) ?_
      exact xm_sub [0, 1, 2, 3, 4, 5] rfl (L_X12_divide_j45 σ l0 l1 l2 l3 l4 l5 (1 : Int32) l2 l0 hf hR hE hC)
theorem L_X12_divide_l23 {G : xG} {π : Nat → Nat} {d C Z : Nat} {Q : xQ} {s0 : (Nat × Int32 × Int32 × Int32 × Int32 × Int32 × xM)} {x : (xM ⊕ (xM))} (h1 : xloop (f_X12_divide_s23) xF s0 = some x) (hR : ∀ g, x = Sum.inl g → Q (.inl none) (g) π) (hE : ∀ e : (xM), x = Sum.inr e → xMach G π J_X12_divide (d + 2) C Z 98 [] [] e Q) : xMach G π J_X12_divide (d + 2) C Z 23 [(0, .ref s0.1), (1, .int s0.2.1), (2, .int s0.2.2.1), (3, .int s0.2.2.2.1), (4, .int s0.2.2.2.2.1), (5, .int s0.2.2.2.2.2.1)] [] s0.2.2.2.2.2.2 Q := by
  refine xloop_run (M := (fun s : (Nat × Int32 × Int32 × Int32 × Int32 × Int32 × xM) => xMach G π J_X12_divide (d + 2) C Z 23 [(0, .ref s.1), (1, .int s.2.1), (2, .int s.2.2.1), (3, .int s.2.2.2.1), (4, .int s.2.2.2.2.1), (5, .int s.2.2.2.2.2.1)] [] s.2.2.2.2.2.2 Q)) (r := x) ?_ xF _ h1
  intro s y hs hx
  exact L_X12_divide_s23 s.2.2.2.2.2.2 s.1 s.2.1 s.2.2.1 s.2.2.2.1 s.2.2.2.2.1 s.2.2.2.2.2.1 (x := y) hs (fun g hg => by subst hg; exact hR g hx) (fun e he => by subst he; exact hE e hx) (fun e he => by subst he; exact hx)
def f_X12_divide_j98 (σ : xM)  : Option xM :=
  some σ
set_option maxHeartbeats 4000000 in
set_option maxRecDepth 20000 in
theorem L_X12_divide_j98 {G : xG} {π : Nat → Nat} {d C Z : Nat} {Q : xQ} (σ : xM)  {x : xM} (hf : f_X12_divide_j98 σ = some x) (hR : ∀ g, x = g → Q (.inl none) (g) π) : xMach G π J_X12_divide (d + 2) C Z 98 [] [] σ Q := by
  unfold f_X12_divide_j98 at hf
  cases hf
  exact xm_vret dX12_divide_98 rfl (hR _ rfl)
def f_X12_divide (σ : xM) (l0 : Nat) (l1 : Int32) (l2 : Int32) (l3 : Int32) (l4 : Int32) : Option xM :=
  (gR σ l0 12 2).bind (fun x1 => (wI σ x1 l1 (0 : Int32)).bind (fun σ2 => (gR σ2 l0 12 2).bind (fun x3 => (wI σ2 x3 l2 (0 : Int32)).bind (fun σ4 => (if xk σ4 l0 12 = true then (f_X12_bits σ4 l0 l3).bind (fun p5 => xlet (p5 - (1 : Int32)) (fun v6 => (xloop (f_X12_divide_s23 ) xF (l0, l1, l2, l3, l4, v6, σ4)).bind (Sum.elim (fun g => some g) (fun e => f_X12_divide_j98 e)))) else none)))))
set_option maxHeartbeats 4000000 in
set_option maxRecDepth 20000 in
theorem m_X12_divide {G : xG} {π : Nat → Nat} {d C Z : Nat} {Q : xQ} {σ : xM} {l0 : Nat} {l1 : Int32} {l2 : Int32} {l3 : Int32} {l4 : Int32} {x : xM} (hf : f_X12_divide σ l0 l1 l2 l3 l4 = some x) (hR : ∀ g, x = g → Q (.inl none) (g) π) : xMach G π J_X12_divide (d + 2) C Z 0 (lv_args 0 [.ref l0, .int l1, .int l2, .int l3, .int l4]) [] σ Q := by
  unfold f_X12_divide at hf
  refine xm_stL (L' := [(0, .ref l0), (1, .int l1), (2, .int l2), (3, .int l3), (4, .int l4)]) rfl ?_
  refine xm_aload_n dX12_divide_0 rfl ?_
  refine xb_getR (a := l0) (c := 12) (k := 2) dX12_divide_1 xcl12 (by decide) xw_1839 rfl hf (fun x1 ex1 hf => ?_)
  refine xm_iload_n dX12_divide_4 rfl ?_
  refine xm_iconst dX12_divide_5 (v := 0) (by decide) ?_
  refine xb_iast dX12_divide_6 hf (fun σ2 eσ2 hf => ?_)
  refine xm_aload_n dX12_divide_7 rfl ?_
  refine xb_getR (a := l0) (c := 12) (k := 2) dX12_divide_8 xcl12 (by decide) xw_1839 rfl hf (fun x3 ex3 hf => ?_)
  refine xm_iload_n dX12_divide_11 rfl ?_
  refine xm_iconst dX12_divide_12 (v := 0) (by decide) ?_
  refine xb_iast dX12_divide_13 hf (fun σ4 eσ4 hf => ?_)
  refine xm_aload_n dX12_divide_14 rfl ?_
  refine xm_iload_n dX12_divide_15 rfl ?_
  refine xb_if hf (fun hb hf => ?_) (fun _ q => nomatch q)
  obtain ⟨p5, ep5, hf⟩ := xbind hf
  refine xb_callV (As := [.int l3]) (v0 := (some (.int p5))) (τ0 := σ4) dX12_divide_16 (xc_X12_bits _ _) xcl12 xw_2468 xw_2470 xs_161 hb rfl (Nat.le_of_ble_eq_true rfl) rfl (Nat.le_of_ble_eq_true rfl) (fun Q1 hq => m_X12_bits (d := d + 1) ep5 (fun g hg => by subst hg; exact hq)) ?_
  refine xm_iconst dX12_divide_19 (v := 1) (by decide) ?_
  refine xm_isub dX12_divide_20 ?_
  refine xb_topi hf (fun v6 ev6 hf => ?_)
  refine xm_istore dX12_divide_21 (by decide) (xm_stL (L' := [(5, .int v6), (0, .ref l0), (1, .int l1), (2, .int l2), (3, .int l3), (4, .int l4)]) rfl ?_)
  obtain ⟨o, h1, hf⟩ := xbind hf
  refine xm_sub [1, 2, 3, 4, 5, 0] rfl (L_X12_divide_l23  h1 (fun g hg => ?_) (fun e he => ?_))
  · subst hg
    cases hf
    exact hR _ rfl
  · subst he
    rw [Sum.elim_inr] at hf
    have hf : f_X12_divide_j98 e = some _ := hf
    exact xm_sub [] rfl (L_X12_divide_j98 e hf hR)
-- RankwiseModel.halve(I)V
def f_X12_halve_j44 (σ : xM) (l0 : Nat) (l1 : Int32) (l2 : Int32) (s0 : Int32) : Option (xM ⊕ ((Nat × Int32 × xM) ⊕ (Nat × Int32 × Int32 × xM))) :=
  (gR σ l0 12 1).bind (fun x6 => (gR σ l0 12 1).bind (fun x7 => (aI σ x7 14 (((440 : Int32) * l1) + l2)).bind (fun x8 => (wI σ x6 (((440 : Int32) * l1) + l2) ((x8 >>> ((1 : Int32) &&& 31)) ||| (s0 <<< ((15 : Int32) &&& 31)))).bind (fun σ9 => xlet (l2 + (1 : Int32)) (fun v10 => some (Sum.inr (Sum.inr (l0, l1, v10, σ9))))))))
set_option maxHeartbeats 4000000 in
set_option maxRecDepth 20000 in
theorem L_X12_halve_j44 {G : xG} {π : Nat → Nat} {d C Z : Nat} {Q : xQ} (σ : xM) (l0 : Nat) (l1 : Int32) (l2 : Int32) (s0 : Int32) {x : (xM ⊕ ((Nat × Int32 × xM) ⊕ (Nat × Int32 × Int32 × xM)))} (hf : f_X12_halve_j44 σ l0 l1 l2 s0 = some x) (hR : ∀ g, x = Sum.inl (g) → Q (.inl none) (g) π) (hE : ∀ e : (Nat × Int32 × xM), x = Sum.inr (Sum.inl e) → xMach G π J_X12_halve (d + 1) C Z 82 [(0, .ref e.1), (1, .int e.2.1)] [] e.2.2 Q) (hC : ∀ e : (Nat × Int32 × Int32 × xM), x = Sum.inr (Sum.inr e) → xMach G π J_X12_halve (d + 1) C Z 2 [(0, .ref e.1), (1, .int e.2.1), (2, .int e.2.2.1)] [] e.2.2.2 Q) : xMach G π J_X12_halve (d + 1) C Z 44 [(0, .ref l0), (1, .int l1), (2, .int l2)] [.int s0] σ Q := by
  unfold f_X12_halve_j44 at hf
  refine xm_istore_n dX12_halve_44 (by decide) (xm_stL (L' := [(3, .int s0), (0, .ref l0), (1, .int l1), (2, .int l2)]) rfl ?_)
  refine xm_aload_n dX12_halve_45 rfl ?_
  refine xb_getR (a := l0) (c := 12) (k := 1) dX12_halve_46 xcl12 (by decide) xw_1838 rfl hf (fun x6 ex6 hf => ?_)
  refine xm_sipush dX12_halve_49 (v := 440) (by decide) ?_
  refine xm_iload_n dX12_halve_52 rfl ?_
  refine xm_imul dX12_halve_53 ?_
  refine xm_iload_n dX12_halve_54 rfl ?_
  refine xm_iadd dX12_halve_55 ?_
  refine xm_aload_n dX12_halve_56 rfl ?_
  refine xb_getR (a := l0) (c := 12) (k := 1) dX12_halve_57 xcl12 (by decide) xw_1838 rfl hf (fun x7 ex7 hf => ?_)
  refine xm_sipush dX12_halve_60 (v := 440) (by decide) ?_
  refine xm_iload_n dX12_halve_63 rfl ?_
  refine xm_imul dX12_halve_64 ?_
  refine xm_iload_n dX12_halve_65 rfl ?_
  refine xm_iadd dX12_halve_66 ?_
  refine xb_iald dX12_halve_67 hf (fun x8 ex8 hf => ?_)
  refine xm_iconst dX12_halve_68 (v := 1) (by decide) ?_
  refine xm_ishr dX12_halve_69 ?_
  refine xm_iload_n dX12_halve_70 rfl ?_
  refine xm_bipush dX12_halve_71 (v := 15) (by decide) ?_
  refine xm_ishl dX12_halve_73 ?_
  refine xm_ior dX12_halve_74 ?_
  refine xb_iast dX12_halve_75 hf (fun σ9 eσ9 hf => ?_)
  refine xb_iinc dX12_halve_76 rfl (by decide) (by decide) hf (fun v10 ev10 hf => xm_stL (L' := [(2, .int v10), (3, .int s0), (0, .ref l0), (1, .int l1)]) rfl ?_)
  refine xm_goto 2 dX12_halve_79 (by decide) ?_
  cases hf
  exact xm_sub [2, 3, 0] rfl (hC _ rfl)
def f_X12_halve_s2 (s : (Nat × Int32 × Int32 × xM)) : Option (xM ⊕ ((Nat × Int32 × xM) ⊕ (Nat × Int32 × Int32 × xM))) :=
  xlet s.1 (fun l0 => xlet s.2.1 (fun l1 => xlet s.2.2.1 (fun l2 => xlet s.2.2.2 (fun σ => (gR σ l0 12 2).bind (fun x2 => (aI σ x2 14 l1).bind (fun x3 => (if x3 ≤ l2 then some (Sum.inr (Sum.inl (l0, l1, σ))) else (gR σ l0 12 2).bind (fun x4 => (aI σ x4 14 l1).bind (fun x5 => (if x5 ≤ (l2 + (1 : Int32)) then f_X12_halve_j44 σ l0 l1 l2 (0 : Int32) else (gR σ l0 12 1).bind (fun x11 => (aI σ x11 14 ((((440 : Int32) * l1) + l2) + (1 : Int32))).bind (fun x12 => f_X12_halve_j44 σ l0 l1 l2 (x12 &&& (1 : Int32))))))))))))))
set_option maxHeartbeats 4000000 in
set_option maxRecDepth 20000 in
theorem L_X12_halve_s2 {G : xG} {π : Nat → Nat} {d C Z : Nat} {Q : xQ} (σ : xM) (l0 : Nat) (l1 : Int32) (l2 : Int32) {x : (xM ⊕ ((Nat × Int32 × xM) ⊕ (Nat × Int32 × Int32 × xM)))} (hf : f_X12_halve_s2 (l0, l1, l2, σ) = some x) (hR : ∀ g, x = Sum.inl (g) → Q (.inl none) (g) π) (hE : ∀ e : (Nat × Int32 × xM), x = Sum.inr (Sum.inl e) → xMach G π J_X12_halve (d + 1) C Z 82 [(0, .ref e.1), (1, .int e.2.1)] [] e.2.2 Q) (hC : ∀ e : (Nat × Int32 × Int32 × xM), x = Sum.inr (Sum.inr e) → xMach G π J_X12_halve (d + 1) C Z 2 [(0, .ref e.1), (1, .int e.2.1), (2, .int e.2.2.1)] [] e.2.2.2 Q) : xMach G π J_X12_halve (d + 1) C Z 2 [(0, .ref l0), (1, .int l1), (2, .int l2)] [] σ Q := by
  have hf : (gR σ l0 12 2).bind (fun x2 => (aI σ x2 14 l1).bind (fun x3 => (if x3 ≤ l2 then some (Sum.inr (Sum.inl (l0, l1, σ))) else (gR σ l0 12 2).bind (fun x4 => (aI σ x4 14 l1).bind (fun x5 => (if x5 ≤ (l2 + (1 : Int32)) then f_X12_halve_j44 σ l0 l1 l2 (0 : Int32) else (gR σ l0 12 1).bind (fun x11 => (aI σ x11 14 ((((440 : Int32) * l1) + l2) + (1 : Int32))).bind (fun x12 => f_X12_halve_j44 σ l0 l1 l2 (x12 &&& (1 : Int32)))))))))) = some x := hf
  refine xm_iload_n dX12_halve_2 rfl ?_
  refine xm_aload_n dX12_halve_3 rfl ?_
  refine xb_getR (a := l0) (c := 12) (k := 2) dX12_halve_4 xcl12 (by decide) xw_1839 rfl hf (fun x2 ex2 hf => ?_)
  refine xm_iload_n dX12_halve_7 rfl ?_
  refine xb_iald dX12_halve_8 hf (fun x3 ex3 hf => ?_)
  refine xb_icmp_ge 82 dX12_halve_9 (by decide) hf (fun c hf => ?_) (fun c hf => ?_)
  · cases hf
    exact xm_sub [0, 1] rfl (hE _ rfl)
  · refine xm_iload_n dX12_halve_12 rfl ?_
    refine xm_iconst dX12_halve_13 (v := 1) (by decide) ?_
    refine xm_iadd dX12_halve_14 ?_
    refine xm_aload_n dX12_halve_15 rfl ?_
    refine xb_getR (a := l0) (c := 12) (k := 2) dX12_halve_16 xcl12 (by decide) xw_1839 rfl hf (fun x4 ex4 hf => ?_)
    refine xm_iload_n dX12_halve_19 rfl ?_
    refine xb_iald dX12_halve_20 hf (fun x5 ex5 hf => ?_)
    refine xb_icmp_ge 43 dX12_halve_21 (by decide) hf (fun c hf => ?_) (fun c hf => ?_)
    · refine xm_iconst dX12_halve_43 (v := 0) (by decide) ?_
      exact xm_sub [0, 1, 2] rfl (L_X12_halve_j44 σ l0 l1 l2 (0 : Int32) hf hR hE hC)
    · refine xm_aload_n dX12_halve_24 rfl ?_
      refine xb_getR (a := l0) (c := 12) (k := 1) dX12_halve_25 xcl12 (by decide) xw_1838 rfl hf (fun x11 ex11 hf => ?_)
      refine xm_sipush dX12_halve_28 (v := 440) (by decide) ?_
      refine xm_iload_n dX12_halve_31 rfl ?_
      refine xm_imul dX12_halve_32 ?_
      refine xm_iload_n dX12_halve_33 rfl ?_
      refine xm_iadd dX12_halve_34 ?_
      refine xm_iconst dX12_halve_35 (v := 1) (by decide) ?_
      refine xm_iadd dX12_halve_36 ?_
      refine xb_iald dX12_halve_37 hf (fun x12 ex12 hf => ?_)
      refine xm_iconst dX12_halve_38 (v := 1) (by decide) ?_
      refine xm_iand dX12_halve_39 ?_
      refine xm_goto 44 dX12_halve_40 (by decide) ?_
      exact xm_sub [0, 1, 2] rfl (L_X12_halve_j44 σ l0 l1 l2 (x12 &&& (1 : Int32)) hf hR hE hC)
theorem L_X12_halve_l2 {G : xG} {π : Nat → Nat} {d C Z : Nat} {Q : xQ} {s0 : (Nat × Int32 × Int32 × xM)} {x : (xM ⊕ (Nat × Int32 × xM))} (h1 : xloop (f_X12_halve_s2) xF s0 = some x) (hR : ∀ g, x = Sum.inl g → Q (.inl none) (g) π) (hE : ∀ e : (Nat × Int32 × xM), x = Sum.inr e → xMach G π J_X12_halve (d + 1) C Z 82 [(0, .ref e.1), (1, .int e.2.1)] [] e.2.2 Q) : xMach G π J_X12_halve (d + 1) C Z 2 [(0, .ref s0.1), (1, .int s0.2.1), (2, .int s0.2.2.1)] [] s0.2.2.2 Q := by
  refine xloop_run (M := (fun s : (Nat × Int32 × Int32 × xM) => xMach G π J_X12_halve (d + 1) C Z 2 [(0, .ref s.1), (1, .int s.2.1), (2, .int s.2.2.1)] [] s.2.2.2 Q)) (r := x) ?_ xF _ h1
  intro s y hs hx
  exact L_X12_halve_s2 s.2.2.2 s.1 s.2.1 s.2.2.1 (x := y) hs (fun g hg => by subst hg; exact hR g hx) (fun e he => by subst he; exact hE e hx) (fun e he => by subst he; exact hx)
def f_X12_halve_j82 (σ : xM) (l0 : Nat) (l1 : Int32) : Option xM :=
  (if xk σ l0 12 = true then (f_X12_trim σ l0 l1).bind (fun p13 => some p13) else none)
set_option maxHeartbeats 4000000 in
set_option maxRecDepth 20000 in
theorem L_X12_halve_j82 {G : xG} {π : Nat → Nat} {d C Z : Nat} {Q : xQ} (σ : xM) (l0 : Nat) (l1 : Int32) {x : xM} (hf : f_X12_halve_j82 σ l0 l1 = some x) (hR : ∀ g, x = g → Q (.inl none) (g) π) : xMach G π J_X12_halve (d + 1) C Z 82 [(0, .ref l0), (1, .int l1)] [] σ Q := by
  unfold f_X12_halve_j82 at hf
  refine xm_aload_n dX12_halve_82 rfl ?_
  refine xm_iload_n dX12_halve_83 rfl ?_
  refine xb_if hf (fun hb hf => ?_) (fun _ q => nomatch q)
  obtain ⟨p13, ep13, hf⟩ := xbind hf
  refine xb_callV (As := [.int l1]) (v0 := none) (τ0 := p13) dX12_halve_84 (xc_X12_trim _ _) xcl12 xw_1829 xw_1831 xs_86 hb rfl (Nat.le_of_ble_eq_true rfl) rfl (Nat.le_of_ble_eq_true rfl) (fun Q1 hq => m_X12_trim (d := d + 0) ep13 (fun g hg => by subst hg; exact hq)) ?_
  cases hf
  exact xm_vret dX12_halve_87 rfl (hR _ rfl)
def f_X12_halve (σ : xM) (l0 : Nat) (l1 : Int32) : Option xM :=
  xlet (0 : Int32) (fun v1 => (xloop (f_X12_halve_s2 ) xF (l0, l1, v1, σ)).bind (Sum.elim (fun g => some g) (fun e => f_X12_halve_j82 e.2.2 e.1 e.2.1)))
set_option maxHeartbeats 4000000 in
set_option maxRecDepth 20000 in
theorem m_X12_halve {G : xG} {π : Nat → Nat} {d C Z : Nat} {Q : xQ} {σ : xM} {l0 : Nat} {l1 : Int32} {x : xM} (hf : f_X12_halve σ l0 l1 = some x) (hR : ∀ g, x = g → Q (.inl none) (g) π) : xMach G π J_X12_halve (d + 1) C Z 0 (lv_args 0 [.ref l0, .int l1]) [] σ Q := by
  unfold f_X12_halve at hf
  refine xm_stL (L' := [(0, .ref l0), (1, .int l1)]) rfl ?_
  refine xm_iconst dX12_halve_0 (v := 0) (by decide) ?_
  refine xb_topi hf (fun v1 ev1 hf => ?_)
  refine xm_istore_n dX12_halve_1 (by decide) (xm_stL (L' := [(2, .int v1), (0, .ref l0), (1, .int l1)]) rfl ?_)
  obtain ⟨o, h1, hf⟩ := xbind hf
  refine xm_sub [1, 2, 0] rfl (L_X12_halve_l2  h1 (fun g hg => ?_) (fun e he => ?_))
  · subst hg
    cases hf
    exact hR _ rfl
  · subst he
    rw [Sum.elim_inr] at hf
    have hf : f_X12_halve_j82 e.2.2 e.1 e.2.1 = some _ := hf
    exact xm_sub [0, 1] rfl (L_X12_halve_j82 e.2.2 e.1 e.2.1 hf hR)
-- RankwiseModel.common(II)V
def f_X12_common_s2 (s : (Nat × Int32 × Int32 × Int32 × xM)) : Option (xM ⊕ ((Nat × Int32 × Int32 × Int32 × xM) ⊕ (Nat × Int32 × Int32 × Int32 × xM))) :=
  xlet s.1 (fun l0 => xlet s.2.1 (fun l1 => xlet s.2.2.1 (fun l2 => xlet s.2.2.2.1 (fun l3 => xlet s.2.2.2.2 (fun σ => (gR σ l0 12 2).bind (fun x2 => (aI σ x2 14 l1).bind (fun x3 => (if x3 ≤ (0 : Int32) then some (Sum.inr (Sum.inl (l0, l1, l2, l3, σ))) else (if xk σ l0 12 = true then (f_X12_isBit σ l0 l1 (0 : Int32)).bind (fun p4 => (if p4 = (0 : Int32) then (if xk σ l0 12 = true then (f_X12_isBit σ l0 l2 (0 : Int32)).bind (fun p5 => (if p5 = (0 : Int32) then (if xk σ l0 12 = true then (f_X12_halve σ l0 l1).bind (fun p6 => (if xk p6 l0 12 = true then (f_X12_halve p6 l0 l2).bind (fun p7 => xlet (l3 + (1 : Int32)) (fun v8 => some (Sum.inr (Sum.inr (l0, l1, l2, v8, p7))))) else none)) else none) else some (Sum.inr (Sum.inl (l0, l1, l2, l3, σ))))) else none) else some (Sum.inr (Sum.inl (l0, l1, l2, l3, σ))))) else none)))))))))
set_option maxHeartbeats 4000000 in
set_option maxRecDepth 20000 in
theorem L_X12_common_s2 {G : xG} {π : Nat → Nat} {d C Z : Nat} {Q : xQ} (σ : xM) (l0 : Nat) (l1 : Int32) (l2 : Int32) (l3 : Int32) {x : (xM ⊕ ((Nat × Int32 × Int32 × Int32 × xM) ⊕ (Nat × Int32 × Int32 × Int32 × xM)))} (hf : f_X12_common_s2 (l0, l1, l2, l3, σ) = some x) (hR : ∀ g, x = Sum.inl (g) → Q (.inl none) (g) π) (hE : ∀ e : (Nat × Int32 × Int32 × Int32 × xM), x = Sum.inr (Sum.inl e) → xMach G π J_X12_common (d + 2) C Z 45 [(0, .ref e.1), (1, .int e.2.1), (2, .int e.2.2.1), (3, .int e.2.2.2.1)] [] e.2.2.2.2 Q) (hC : ∀ e : (Nat × Int32 × Int32 × Int32 × xM), x = Sum.inr (Sum.inr e) → xMach G π J_X12_common (d + 2) C Z 2 [(0, .ref e.1), (1, .int e.2.1), (2, .int e.2.2.1), (3, .int e.2.2.2.1)] [] e.2.2.2.2 Q) : xMach G π J_X12_common (d + 2) C Z 2 [(0, .ref l0), (1, .int l1), (2, .int l2), (3, .int l3)] [] σ Q := by
  have hf : (gR σ l0 12 2).bind (fun x2 => (aI σ x2 14 l1).bind (fun x3 => (if x3 ≤ (0 : Int32) then some (Sum.inr (Sum.inl (l0, l1, l2, l3, σ))) else (if xk σ l0 12 = true then (f_X12_isBit σ l0 l1 (0 : Int32)).bind (fun p4 => (if p4 = (0 : Int32) then (if xk σ l0 12 = true then (f_X12_isBit σ l0 l2 (0 : Int32)).bind (fun p5 => (if p5 = (0 : Int32) then (if xk σ l0 12 = true then (f_X12_halve σ l0 l1).bind (fun p6 => (if xk p6 l0 12 = true then (f_X12_halve p6 l0 l2).bind (fun p7 => xlet (l3 + (1 : Int32)) (fun v8 => some (Sum.inr (Sum.inr (l0, l1, l2, v8, p7))))) else none)) else none) else some (Sum.inr (Sum.inl (l0, l1, l2, l3, σ))))) else none) else some (Sum.inr (Sum.inl (l0, l1, l2, l3, σ))))) else none)))) = some x := hf
  refine xm_aload_n dX12_common_2 rfl ?_
  refine xb_getR (a := l0) (c := 12) (k := 2) dX12_common_3 xcl12 (by decide) xw_1839 rfl hf (fun x2 ex2 hf => ?_)
  refine xm_iload_n dX12_common_6 rfl ?_
  refine xb_iald dX12_common_7 hf (fun x3 ex3 hf => ?_)
  refine xb_if_le 45 dX12_common_8 (by decide) hf (fun c hf => ?_) (fun c hf => ?_)
  · cases hf
    exact xm_sub [0, 1, 2, 3] rfl (hE _ rfl)
  · refine xm_aload_n dX12_common_11 rfl ?_
    refine xm_iload_n dX12_common_12 rfl ?_
    refine xm_iconst dX12_common_13 (v := 0) (by decide) ?_
    refine xb_if hf (fun hb hf => ?_) (fun _ q => nomatch q)
    obtain ⟨p4, ep4, hf⟩ := xbind hf
    refine xb_callV (As := [.int l1, .int (0 : Int32)]) (v0 := (some (.int p4))) (τ0 := σ) dX12_common_14 (xc_X12_isBit _ _) xcl12 xw_2452 xw_2454 xs_157 hb rfl (Nat.le_of_ble_eq_true rfl) rfl (Nat.le_of_ble_eq_true rfl) (fun Q1 hq => m_X12_isBit (d := d + 1) ep4 (fun g hg => by subst hg; exact hq)) ?_
    refine xb_if_ne 45 dX12_common_17 (by decide) hf (fun c hf => ?_) (fun c hf => ?_)
    · cases hf
      exact xm_sub [0, 1, 2, 3] rfl (hE _ rfl)
    · refine xm_aload_n dX12_common_20 rfl ?_
      refine xm_iload_n dX12_common_21 rfl ?_
      refine xm_iconst dX12_common_22 (v := 0) (by decide) ?_
      refine xb_if hf (fun hb hf => ?_) (fun _ q => nomatch q)
      obtain ⟨p5, ep5, hf⟩ := xbind hf
      refine xb_callV (As := [.int l2, .int (0 : Int32)]) (v0 := (some (.int p5))) (τ0 := σ) dX12_common_23 (xc_X12_isBit _ _) xcl12 xw_2452 xw_2454 xs_157 hb rfl (Nat.le_of_ble_eq_true rfl) rfl (Nat.le_of_ble_eq_true rfl) (fun Q1 hq => m_X12_isBit (d := d + 1) ep5 (fun g hg => by subst hg; exact hq)) ?_
      refine xb_if_ne 45 dX12_common_26 (by decide) hf (fun c hf => ?_) (fun c hf => ?_)
      · cases hf
        exact xm_sub [0, 1, 2, 3] rfl (hE _ rfl)
      · refine xm_aload_n dX12_common_29 rfl ?_
        refine xm_iload_n dX12_common_30 rfl ?_
        refine xb_if hf (fun hb hf => ?_) (fun _ q => nomatch q)
        obtain ⟨p6, ep6, hf⟩ := xbind hf
        refine xb_callV (As := [.int l1]) (v0 := none) (τ0 := p6) dX12_common_31 (xc_X12_halve _ _) xcl12 xw_2456 xw_2458 xs_158 hb rfl (Nat.le_of_ble_eq_true rfl) rfl (Nat.le_of_ble_eq_true rfl) (fun Q1 hq => m_X12_halve (d := d + 0) ep6 (fun g hg => by subst hg; exact hq)) ?_
        refine xm_aload_n dX12_common_34 rfl ?_
        refine xm_iload_n dX12_common_35 rfl ?_
        refine xb_if hf (fun hb hf => ?_) (fun _ q => nomatch q)
        obtain ⟨p7, ep7, hf⟩ := xbind hf
        refine xb_callV (As := [.int l2]) (v0 := none) (τ0 := p7) dX12_common_36 (xc_X12_halve _ _) xcl12 xw_2456 xw_2458 xs_158 hb rfl (Nat.le_of_ble_eq_true rfl) rfl (Nat.le_of_ble_eq_true rfl) (fun Q1 hq => m_X12_halve (d := d + 0) ep7 (fun g hg => by subst hg; exact hq)) ?_
        refine xb_iinc dX12_common_39 rfl (by decide) (by decide) hf (fun v8 ev8 hf => xm_stL (L' := [(3, .int v8), (0, .ref l0), (1, .int l1), (2, .int l2)]) rfl ?_)
        refine xm_goto 2 dX12_common_42 (by decide) ?_
        cases hf
        exact xm_sub [1, 2, 3, 0] rfl (hC _ rfl)
theorem L_X12_common_l2 {G : xG} {π : Nat → Nat} {d C Z : Nat} {Q : xQ} {s0 : (Nat × Int32 × Int32 × Int32 × xM)} {x : (xM ⊕ (Nat × Int32 × Int32 × Int32 × xM))} (h1 : xloop (f_X12_common_s2) xF s0 = some x) (hR : ∀ g, x = Sum.inl g → Q (.inl none) (g) π) (hE : ∀ e : (Nat × Int32 × Int32 × Int32 × xM), x = Sum.inr e → xMach G π J_X12_common (d + 2) C Z 45 [(0, .ref e.1), (1, .int e.2.1), (2, .int e.2.2.1), (3, .int e.2.2.2.1)] [] e.2.2.2.2 Q) : xMach G π J_X12_common (d + 2) C Z 2 [(0, .ref s0.1), (1, .int s0.2.1), (2, .int s0.2.2.1), (3, .int s0.2.2.2.1)] [] s0.2.2.2.2 Q := by
  refine xloop_run (M := (fun s : (Nat × Int32 × Int32 × Int32 × xM) => xMach G π J_X12_common (d + 2) C Z 2 [(0, .ref s.1), (1, .int s.2.1), (2, .int s.2.2.1), (3, .int s.2.2.2.1)] [] s.2.2.2.2 Q)) (r := x) ?_ xF _ h1
  intro s y hs hx
  exact L_X12_common_s2 s.2.2.2.2 s.1 s.2.1 s.2.2.1 s.2.2.2.1 (x := y) hs (fun g hg => by subst hg; exact hR g hx) (fun e he => by subst he; exact hE e hx) (fun e he => by subst he; exact hx)
def f_X12_common_s54 (s : (Nat × Int32 × Int32 × Int32 × xM)) : Option (xM ⊕ ((Nat × Int32 × Int32 × Int32 × xM) ⊕ (Nat × Int32 × Int32 × Int32 × xM))) :=
  xlet s.1 (fun l0 => xlet s.2.1 (fun l1 => xlet s.2.2.1 (fun l2 => xlet s.2.2.2.1 (fun l3 => xlet s.2.2.2.2 (fun σ => (if xk σ l0 12 = true then (f_X12_isBit σ l0 l1 (0 : Int32)).bind (fun p11 => (if p11 = (0 : Int32) then (if xk σ l0 12 = true then (f_X12_halve σ l0 l1).bind (fun p12 => some (Sum.inr (Sum.inr (l0, l1, l2, l3, p12)))) else none) else some (Sum.inr (Sum.inl (l0, l1, l2, l3, σ))))) else none))))))
set_option maxHeartbeats 4000000 in
set_option maxRecDepth 20000 in
theorem L_X12_common_s54 {G : xG} {π : Nat → Nat} {d C Z : Nat} {Q : xQ} (σ : xM) (l0 : Nat) (l1 : Int32) (l2 : Int32) (l3 : Int32) {x : (xM ⊕ ((Nat × Int32 × Int32 × Int32 × xM) ⊕ (Nat × Int32 × Int32 × Int32 × xM)))} (hf : f_X12_common_s54 (l0, l1, l2, l3, σ) = some x) (hR : ∀ g, x = Sum.inl (g) → Q (.inl none) (g) π) (hE : ∀ e : (Nat × Int32 × Int32 × Int32 × xM), x = Sum.inr (Sum.inl e) → xMach G π J_X12_common (d + 2) C Z 71 [(0, .ref e.1), (1, .int e.2.1), (2, .int e.2.2.1), (3, .int e.2.2.2.1)] [] e.2.2.2.2 Q) (hC : ∀ e : (Nat × Int32 × Int32 × Int32 × xM), x = Sum.inr (Sum.inr e) → xMach G π J_X12_common (d + 2) C Z 54 [(0, .ref e.1), (1, .int e.2.1), (2, .int e.2.2.1), (3, .int e.2.2.2.1)] [] e.2.2.2.2 Q) : xMach G π J_X12_common (d + 2) C Z 54 [(0, .ref l0), (1, .int l1), (2, .int l2), (3, .int l3)] [] σ Q := by
  have hf : (if xk σ l0 12 = true then (f_X12_isBit σ l0 l1 (0 : Int32)).bind (fun p11 => (if p11 = (0 : Int32) then (if xk σ l0 12 = true then (f_X12_halve σ l0 l1).bind (fun p12 => some (Sum.inr (Sum.inr (l0, l1, l2, l3, p12)))) else none) else some (Sum.inr (Sum.inl (l0, l1, l2, l3, σ))))) else none) = some x := hf
  refine xm_aload_n dX12_common_54 rfl ?_
  refine xm_iload_n dX12_common_55 rfl ?_
  refine xm_iconst dX12_common_56 (v := 0) (by decide) ?_
  refine xb_if hf (fun hb hf => ?_) (fun _ q => nomatch q)
  obtain ⟨p11, ep11, hf⟩ := xbind hf
  refine xb_callV (As := [.int l1, .int (0 : Int32)]) (v0 := (some (.int p11))) (τ0 := σ) dX12_common_57 (xc_X12_isBit _ _) xcl12 xw_2452 xw_2454 xs_157 hb rfl (Nat.le_of_ble_eq_true rfl) rfl (Nat.le_of_ble_eq_true rfl) (fun Q1 hq => m_X12_isBit (d := d + 1) ep11 (fun g hg => by subst hg; exact hq)) ?_
  refine xb_if_ne 71 dX12_common_60 (by decide) hf (fun c hf => ?_) (fun c hf => ?_)
  · cases hf
    exact xm_sub [0, 1, 2, 3] rfl (hE _ rfl)
  · refine xm_aload_n dX12_common_63 rfl ?_
    refine xm_iload_n dX12_common_64 rfl ?_
    refine xb_if hf (fun hb hf => ?_) (fun _ q => nomatch q)
    obtain ⟨p12, ep12, hf⟩ := xbind hf
    refine xb_callV (As := [.int l1]) (v0 := none) (τ0 := p12) dX12_common_65 (xc_X12_halve _ _) xcl12 xw_2456 xw_2458 xs_158 hb rfl (Nat.le_of_ble_eq_true rfl) rfl (Nat.le_of_ble_eq_true rfl) (fun Q1 hq => m_X12_halve (d := d + 0) ep12 (fun g hg => by subst hg; exact hq)) ?_
    refine xm_goto 54 dX12_common_68 (by decide) ?_
    cases hf
    exact xm_sub [0, 1, 2, 3] rfl (hC _ rfl)
theorem L_X12_common_l54 {G : xG} {π : Nat → Nat} {d C Z : Nat} {Q : xQ} {s0 : (Nat × Int32 × Int32 × Int32 × xM)} {x : (xM ⊕ (Nat × Int32 × Int32 × Int32 × xM))} (h1 : xloop (f_X12_common_s54) xF s0 = some x) (hR : ∀ g, x = Sum.inl g → Q (.inl none) (g) π) (hE : ∀ e : (Nat × Int32 × Int32 × Int32 × xM), x = Sum.inr e → xMach G π J_X12_common (d + 2) C Z 71 [(0, .ref e.1), (1, .int e.2.1), (2, .int e.2.2.1), (3, .int e.2.2.2.1)] [] e.2.2.2.2 Q) : xMach G π J_X12_common (d + 2) C Z 54 [(0, .ref s0.1), (1, .int s0.2.1), (2, .int s0.2.2.1), (3, .int s0.2.2.2.1)] [] s0.2.2.2.2 Q := by
  refine xloop_run (M := (fun s : (Nat × Int32 × Int32 × Int32 × xM) => xMach G π J_X12_common (d + 2) C Z 54 [(0, .ref s.1), (1, .int s.2.1), (2, .int s.2.2.1), (3, .int s.2.2.2.1)] [] s.2.2.2.2 Q)) (r := x) ?_ xF _ h1
  intro s y hs hx
  exact L_X12_common_s54 s.2.2.2.2 s.1 s.2.1 s.2.2.1 s.2.2.2.1 (x := y) hs (fun g hg => by subst hg; exact hR g hx) (fun e he => by subst he; exact hE e hx) (fun e he => by subst he; exact hx)
def f_X12_common_s71 (s : (Nat × Int32 × Int32 × Int32 × xM)) : Option (xM ⊕ ((Nat × Int32 × Int32 × Int32 × xM) ⊕ (Nat × Int32 × Int32 × Int32 × xM))) :=
  xlet s.1 (fun l0 => xlet s.2.1 (fun l1 => xlet s.2.2.1 (fun l2 => xlet s.2.2.2.1 (fun l3 => xlet s.2.2.2.2 (fun σ => (if xk σ l0 12 = true then (f_X12_isBit σ l0 l2 (0 : Int32)).bind (fun p13 => (if p13 = (0 : Int32) then (if xk σ l0 12 = true then (f_X12_halve σ l0 l2).bind (fun p14 => some (Sum.inr (Sum.inr (l0, l1, l2, l3, p14)))) else none) else some (Sum.inr (Sum.inl (l0, l1, l2, l3, σ))))) else none))))))
set_option maxHeartbeats 4000000 in
set_option maxRecDepth 20000 in
theorem L_X12_common_s71 {G : xG} {π : Nat → Nat} {d C Z : Nat} {Q : xQ} (σ : xM) (l0 : Nat) (l1 : Int32) (l2 : Int32) (l3 : Int32) {x : (xM ⊕ ((Nat × Int32 × Int32 × Int32 × xM) ⊕ (Nat × Int32 × Int32 × Int32 × xM)))} (hf : f_X12_common_s71 (l0, l1, l2, l3, σ) = some x) (hR : ∀ g, x = Sum.inl (g) → Q (.inl none) (g) π) (hE : ∀ e : (Nat × Int32 × Int32 × Int32 × xM), x = Sum.inr (Sum.inl e) → xMach G π J_X12_common (d + 2) C Z 88 [(0, .ref e.1), (1, .int e.2.1), (2, .int e.2.2.1), (3, .int e.2.2.2.1)] [] e.2.2.2.2 Q) (hC : ∀ e : (Nat × Int32 × Int32 × Int32 × xM), x = Sum.inr (Sum.inr e) → xMach G π J_X12_common (d + 2) C Z 71 [(0, .ref e.1), (1, .int e.2.1), (2, .int e.2.2.1), (3, .int e.2.2.2.1)] [] e.2.2.2.2 Q) : xMach G π J_X12_common (d + 2) C Z 71 [(0, .ref l0), (1, .int l1), (2, .int l2), (3, .int l3)] [] σ Q := by
  have hf : (if xk σ l0 12 = true then (f_X12_isBit σ l0 l2 (0 : Int32)).bind (fun p13 => (if p13 = (0 : Int32) then (if xk σ l0 12 = true then (f_X12_halve σ l0 l2).bind (fun p14 => some (Sum.inr (Sum.inr (l0, l1, l2, l3, p14)))) else none) else some (Sum.inr (Sum.inl (l0, l1, l2, l3, σ))))) else none) = some x := hf
  refine xm_aload_n dX12_common_71 rfl ?_
  refine xm_iload_n dX12_common_72 rfl ?_
  refine xm_iconst dX12_common_73 (v := 0) (by decide) ?_
  refine xb_if hf (fun hb hf => ?_) (fun _ q => nomatch q)
  obtain ⟨p13, ep13, hf⟩ := xbind hf
  refine xb_callV (As := [.int l2, .int (0 : Int32)]) (v0 := (some (.int p13))) (τ0 := σ) dX12_common_74 (xc_X12_isBit _ _) xcl12 xw_2452 xw_2454 xs_157 hb rfl (Nat.le_of_ble_eq_true rfl) rfl (Nat.le_of_ble_eq_true rfl) (fun Q1 hq => m_X12_isBit (d := d + 1) ep13 (fun g hg => by subst hg; exact hq)) ?_
  refine xb_if_ne 88 dX12_common_77 (by decide) hf (fun c hf => ?_) (fun c hf => ?_)
  · cases hf
    exact xm_sub [0, 1, 2, 3] rfl (hE _ rfl)
  · refine xm_aload_n dX12_common_80 rfl ?_
    refine xm_iload_n dX12_common_81 rfl ?_
    refine xb_if hf (fun hb hf => ?_) (fun _ q => nomatch q)
    obtain ⟨p14, ep14, hf⟩ := xbind hf
    refine xb_callV (As := [.int l2]) (v0 := none) (τ0 := p14) dX12_common_82 (xc_X12_halve _ _) xcl12 xw_2456 xw_2458 xs_158 hb rfl (Nat.le_of_ble_eq_true rfl) rfl (Nat.le_of_ble_eq_true rfl) (fun Q1 hq => m_X12_halve (d := d + 0) ep14 (fun g hg => by subst hg; exact hq)) ?_
    refine xm_goto 71 dX12_common_85 (by decide) ?_
    cases hf
    exact xm_sub [0, 1, 2, 3] rfl (hC _ rfl)
theorem L_X12_common_l71 {G : xG} {π : Nat → Nat} {d C Z : Nat} {Q : xQ} {s0 : (Nat × Int32 × Int32 × Int32 × xM)} {x : (xM ⊕ (Nat × Int32 × Int32 × Int32 × xM))} (h1 : xloop (f_X12_common_s71) xF s0 = some x) (hR : ∀ g, x = Sum.inl g → Q (.inl none) (g) π) (hE : ∀ e : (Nat × Int32 × Int32 × Int32 × xM), x = Sum.inr e → xMach G π J_X12_common (d + 2) C Z 88 [(0, .ref e.1), (1, .int e.2.1), (2, .int e.2.2.1), (3, .int e.2.2.2.1)] [] e.2.2.2.2 Q) : xMach G π J_X12_common (d + 2) C Z 71 [(0, .ref s0.1), (1, .int s0.2.1), (2, .int s0.2.2.1), (3, .int s0.2.2.2.1)] [] s0.2.2.2.2 Q := by
  refine xloop_run (M := (fun s : (Nat × Int32 × Int32 × Int32 × xM) => xMach G π J_X12_common (d + 2) C Z 71 [(0, .ref s.1), (1, .int s.2.1), (2, .int s.2.2.1), (3, .int s.2.2.2.1)] [] s.2.2.2.2 Q)) (r := x) ?_ xF _ h1
  intro s y hs hx
  exact L_X12_common_s71 s.2.2.2.2 s.1 s.2.1 s.2.2.1 s.2.2.2.1 (x := y) hs (fun g hg => by subst hg; exact hR g hx) (fun e he => by subst he; exact hE e hx) (fun e he => by subst he; exact hx)
def f_X12_common_j88 (σ : xM) (l0 : Nat) (l1 : Int32) (l2 : Int32) (l3 : Int32) : Option (xM ⊕ ((Nat × Int32 × Int32 × Int32 × xM) ⊕ (Nat × Int32 × Int32 × Int32 × xM))) :=
  (if xk σ l0 12 = true then (f_X12_compare σ l0 l1 l2).bind (fun p15 => (if p15 < (0 : Int32) then (if xk σ l0 12 = true then (f_X12_minus σ l0 l2 l1).bind (fun p16 => some (Sum.inr (Sum.inr (l0, l1, l2, l3, p16)))) else none) else (if xk σ l0 12 = true then (f_X12_minus σ l0 l1 l2).bind (fun p17 => some (Sum.inr (Sum.inr (l0, l1, l2, l3, p17)))) else none))) else none)
set_option maxHeartbeats 4000000 in
set_option maxRecDepth 20000 in
theorem L_X12_common_j88 {G : xG} {π : Nat → Nat} {d C Z : Nat} {Q : xQ} (σ : xM) (l0 : Nat) (l1 : Int32) (l2 : Int32) (l3 : Int32) {x : (xM ⊕ ((Nat × Int32 × Int32 × Int32 × xM) ⊕ (Nat × Int32 × Int32 × Int32 × xM)))} (hf : f_X12_common_j88 σ l0 l1 l2 l3 = some x) (hR : ∀ g, x = Sum.inl (g) → Q (.inl none) (g) π) (hE : ∀ e : (Nat × Int32 × Int32 × Int32 × xM), x = Sum.inr (Sum.inl e) → xMach G π J_X12_common (d + 2) C Z 115 [(0, .ref e.1), (1, .int e.2.1), (2, .int e.2.2.1), (3, .int e.2.2.2.1)] [] e.2.2.2.2 Q) (hC : ∀ e : (Nat × Int32 × Int32 × Int32 × xM), x = Sum.inr (Sum.inr e) → xMach G π J_X12_common (d + 2) C Z 45 [(0, .ref e.1), (1, .int e.2.1), (2, .int e.2.2.1), (3, .int e.2.2.2.1)] [] e.2.2.2.2 Q) : xMach G π J_X12_common (d + 2) C Z 88 [(0, .ref l0), (1, .int l1), (2, .int l2), (3, .int l3)] [] σ Q := by
  unfold f_X12_common_j88 at hf
  refine xm_aload_n dX12_common_88 rfl ?_
  refine xm_iload_n dX12_common_89 rfl ?_
  refine xm_iload_n dX12_common_90 rfl ?_
  refine xb_if hf (fun hb hf => ?_) (fun _ q => nomatch q)
  obtain ⟨p15, ep15, hf⟩ := xbind hf
  refine xb_callV (As := [.int l1, .int l2]) (v0 := (some (.int p15))) (τ0 := σ) dX12_common_91 (xc_X12_compare _ _) xcl12 xw_2432 xw_2434 xs_152 hb rfl (Nat.le_of_ble_eq_true rfl) rfl (Nat.le_of_ble_eq_true rfl) (fun Q1 hq => m_X12_compare (d := d + 1) ep15 (fun g hg => by subst hg; exact hq)) ?_
  refine xb_if_lt 106 dX12_common_94 (by decide) hf (fun c hf => ?_) (fun c hf => ?_)
  · refine xm_aload_n dX12_common_106 rfl ?_
    refine xm_iload_n dX12_common_107 rfl ?_
    refine xm_iload_n dX12_common_108 rfl ?_
    refine xb_if hf (fun hb hf => ?_) (fun _ q => nomatch q)
    obtain ⟨p16, ep16, hf⟩ := xbind hf
    refine xb_callV (As := [.int l2, .int l1]) (v0 := none) (τ0 := p16) dX12_common_109 (xc_X12_minus _ _) xcl12 xw_2436 xw_2438 xs_153 hb rfl (Nat.le_of_ble_eq_true rfl) rfl (Nat.le_of_ble_eq_true rfl) (fun Q1 hq => m_X12_minus (d := d + 0) ep16 (fun g hg => by subst hg; exact hq)) ?_
    refine xm_goto 45 dX12_common_112 (by decide) ?_
    cases hf
    exact xm_sub [0, 1, 2, 3] rfl (hC _ rfl)
  · refine xm_aload_n dX12_common_97 rfl ?_
    refine xm_iload_n dX12_common_98 rfl ?_
    refine xm_iload_n dX12_common_99 rfl ?_
    refine xb_if hf (fun hb hf => ?_) (fun _ q => nomatch q)
    obtain ⟨p17, ep17, hf⟩ := xbind hf
    refine xb_callV (As := [.int l1, .int l2]) (v0 := none) (τ0 := p17) dX12_common_100 (xc_X12_minus _ _) xcl12 xw_2436 xw_2438 xs_153 hb rfl (Nat.le_of_ble_eq_true rfl) rfl (Nat.le_of_ble_eq_true rfl) (fun Q1 hq => m_X12_minus (d := d + 0) ep17 (fun g hg => by subst hg; exact hq)) ?_
    refine xm_goto 45 dX12_common_103 (by decide) ?_
    cases hf
    exact xm_sub [0, 1, 2, 3] rfl (hC _ rfl)
def f_X12_common_s45 (s : (Nat × Int32 × Int32 × Int32 × xM)) : Option (xM ⊕ ((Nat × Int32 × Int32 × Int32 × xM) ⊕ (Nat × Int32 × Int32 × Int32 × xM))) :=
  xlet s.1 (fun l0 => xlet s.2.1 (fun l1 => xlet s.2.2.1 (fun l2 => xlet s.2.2.2.1 (fun l3 => xlet s.2.2.2.2 (fun σ => (gR σ l0 12 2).bind (fun x9 => (aI σ x9 14 l1).bind (fun x10 => (if x10 ≤ (0 : Int32) then some (Sum.inr (Sum.inl (l0, l1, l2, l3, σ))) else (xloop (f_X12_common_s54 ) xF (l0, l1, l2, l3, σ)).bind (Sum.elim (fun g => some (Sum.inl g)) (fun e => (xloop (f_X12_common_s71 ) xF (e.1, e.2.1, e.2.2.1, e.2.2.2.1, e.2.2.2.2)).bind (Sum.elim (fun g => some (Sum.inl g)) (fun e => f_X12_common_j88 e.2.2.2.2 e.1 e.2.1 e.2.2.1 e.2.2.2.1))))))))))))
set_option maxHeartbeats 4000000 in
set_option maxRecDepth 20000 in
theorem L_X12_common_s45 {G : xG} {π : Nat → Nat} {d C Z : Nat} {Q : xQ} (σ : xM) (l0 : Nat) (l1 : Int32) (l2 : Int32) (l3 : Int32) {x : (xM ⊕ ((Nat × Int32 × Int32 × Int32 × xM) ⊕ (Nat × Int32 × Int32 × Int32 × xM)))} (hf : f_X12_common_s45 (l0, l1, l2, l3, σ) = some x) (hR : ∀ g, x = Sum.inl (g) → Q (.inl none) (g) π) (hE : ∀ e : (Nat × Int32 × Int32 × Int32 × xM), x = Sum.inr (Sum.inl e) → xMach G π J_X12_common (d + 2) C Z 115 [(0, .ref e.1), (1, .int e.2.1), (2, .int e.2.2.1), (3, .int e.2.2.2.1)] [] e.2.2.2.2 Q) (hC : ∀ e : (Nat × Int32 × Int32 × Int32 × xM), x = Sum.inr (Sum.inr e) → xMach G π J_X12_common (d + 2) C Z 45 [(0, .ref e.1), (1, .int e.2.1), (2, .int e.2.2.1), (3, .int e.2.2.2.1)] [] e.2.2.2.2 Q) : xMach G π J_X12_common (d + 2) C Z 45 [(0, .ref l0), (1, .int l1), (2, .int l2), (3, .int l3)] [] σ Q := by
  have hf : (gR σ l0 12 2).bind (fun x9 => (aI σ x9 14 l1).bind (fun x10 => (if x10 ≤ (0 : Int32) then some (Sum.inr (Sum.inl (l0, l1, l2, l3, σ))) else (xloop (f_X12_common_s54 ) xF (l0, l1, l2, l3, σ)).bind (Sum.elim (fun g => some (Sum.inl g)) (fun e => (xloop (f_X12_common_s71 ) xF (e.1, e.2.1, e.2.2.1, e.2.2.2.1, e.2.2.2.2)).bind (Sum.elim (fun g => some (Sum.inl g)) (fun e => f_X12_common_j88 e.2.2.2.2 e.1 e.2.1 e.2.2.1 e.2.2.2.1))))))) = some x := hf
  refine xm_aload_n dX12_common_45 rfl ?_
  refine xb_getR (a := l0) (c := 12) (k := 2) dX12_common_46 xcl12 (by decide) xw_1839 rfl hf (fun x9 ex9 hf => ?_)
  refine xm_iload_n dX12_common_49 rfl ?_
  refine xb_iald dX12_common_50 hf (fun x10 ex10 hf => ?_)
  refine xb_if_le 115 dX12_common_51 (by decide) hf (fun c hf => ?_) (fun c hf => ?_)
  · cases hf
    exact xm_sub [0, 1, 2, 3] rfl (hE _ rfl)
  · obtain ⟨o, h1, hf⟩ := xbind hf
    refine xm_sub [0, 1, 2, 3] rfl (L_X12_common_l54  h1 (fun g hg => ?_) (fun e he => ?_))
    · subst hg
      cases hf
      exact hR _ rfl
    · subst he
      rw [Sum.elim_inr] at hf
      have hf : (xloop (f_X12_common_s71 ) xF (e.1, e.2.1, e.2.2.1, e.2.2.2.1, e.2.2.2.2)).bind (Sum.elim (fun g => some (Sum.inl g)) (fun e => f_X12_common_j88 e.2.2.2.2 e.1 e.2.1 e.2.2.1 e.2.2.2.1)) = some _ := hf
      obtain ⟨o, h1, hf⟩ := xbind hf
      refine xm_sub [0, 1, 2, 3] rfl (L_X12_common_l71  h1 (fun g hg => ?_) (fun e he => ?_))
      · subst hg
        cases hf
        exact hR _ rfl
      · subst he
        rw [Sum.elim_inr] at hf
        have hf : f_X12_common_j88 e.2.2.2.2 e.1 e.2.1 e.2.2.1 e.2.2.2.1 = some _ := hf
        exact xm_sub [0, 1, 2, 3] rfl (L_X12_common_j88 e.2.2.2.2 e.1 e.2.1 e.2.2.1 e.2.2.2.1 hf hR hE hC)
theorem L_X12_common_l45 {G : xG} {π : Nat → Nat} {d C Z : Nat} {Q : xQ} {s0 : (Nat × Int32 × Int32 × Int32 × xM)} {x : (xM ⊕ (Nat × Int32 × Int32 × Int32 × xM))} (h1 : xloop (f_X12_common_s45) xF s0 = some x) (hR : ∀ g, x = Sum.inl g → Q (.inl none) (g) π) (hE : ∀ e : (Nat × Int32 × Int32 × Int32 × xM), x = Sum.inr e → xMach G π J_X12_common (d + 2) C Z 115 [(0, .ref e.1), (1, .int e.2.1), (2, .int e.2.2.1), (3, .int e.2.2.2.1)] [] e.2.2.2.2 Q) : xMach G π J_X12_common (d + 2) C Z 45 [(0, .ref s0.1), (1, .int s0.2.1), (2, .int s0.2.2.1), (3, .int s0.2.2.2.1)] [] s0.2.2.2.2 Q := by
  refine xloop_run (M := (fun s : (Nat × Int32 × Int32 × Int32 × xM) => xMach G π J_X12_common (d + 2) C Z 45 [(0, .ref s.1), (1, .int s.2.1), (2, .int s.2.2.1), (3, .int s.2.2.2.1)] [] s.2.2.2.2 Q)) (r := x) ?_ xF _ h1
  intro s y hs hx
  exact L_X12_common_s45 s.2.2.2.2 s.1 s.2.1 s.2.2.1 s.2.2.2.1 (x := y) hs (fun g hg => by subst hg; exact hR g hx) (fun e he => by subst he; exact hE e hx) (fun e he => by subst he; exact hx)
def f_X12_common_s124 (s : (Nat × Int32 × Int32 × Int32 × xM)) : Option (xM ⊕ ((xM) ⊕ (Nat × Int32 × Int32 × Int32 × xM))) :=
  xlet s.1 (fun l0 => xlet s.2.1 (fun l1 => xlet s.2.2.1 (fun l3 => xlet s.2.2.2.1 (fun l4 => xlet s.2.2.2.2 (fun σ => (if l3 ≤ l4 then some (Sum.inr (Sum.inl σ)) else (if xk σ l0 12 = true then (f_X12_twice σ l0 l1 (0 : Int32)).bind (fun p20 => xlet (l4 + (1 : Int32)) (fun v21 => some (Sum.inr (Sum.inr (l0, l1, l3, v21, p20))))) else none)))))))
set_option maxHeartbeats 4000000 in
set_option maxRecDepth 20000 in
theorem L_X12_common_s124 {G : xG} {π : Nat → Nat} {d C Z : Nat} {Q : xQ} (σ : xM) (l0 : Nat) (l1 : Int32) (l3 : Int32) (l4 : Int32) {x : (xM ⊕ ((xM) ⊕ (Nat × Int32 × Int32 × Int32 × xM)))} (hf : f_X12_common_s124 (l0, l1, l3, l4, σ) = some x) (hR : ∀ g, x = Sum.inl (g) → Q (.inl none) (g) π) (hE : ∀ e : (xM), x = Sum.inr (Sum.inl e) → xMach G π J_X12_common (d + 2) C Z 142 [] [] e Q) (hC : ∀ e : (Nat × Int32 × Int32 × Int32 × xM), x = Sum.inr (Sum.inr e) → xMach G π J_X12_common (d + 2) C Z 124 [(0, .ref e.1), (1, .int e.2.1), (3, .int e.2.2.1), (4, .int e.2.2.2.1)] [] e.2.2.2.2 Q) : xMach G π J_X12_common (d + 2) C Z 124 [(0, .ref l0), (1, .int l1), (3, .int l3), (4, .int l4)] [] σ Q := by
  have hf : (if l3 ≤ l4 then some (Sum.inr (Sum.inl σ)) else (if xk σ l0 12 = true then (f_X12_twice σ l0 l1 (0 : Int32)).bind (fun p20 => xlet (l4 + (1 : Int32)) (fun v21 => some (Sum.inr (Sum.inr (l0, l1, l3, v21, p20))))) else none)) = some x := hf
  refine xm_iload dX12_common_124 rfl ?_
  refine xm_iload_n dX12_common_126 rfl ?_
  refine xb_icmp_ge 142 dX12_common_127 (by decide) hf (fun c hf => ?_) (fun c hf => ?_)
  · cases hf
    exact xm_sub [] rfl (hE _ rfl)
  · refine xm_aload_n dX12_common_130 rfl ?_
    refine xm_iload_n dX12_common_131 rfl ?_
    refine xm_iconst dX12_common_132 (v := 0) (by decide) ?_
    refine xb_if hf (fun hb hf => ?_) (fun _ q => nomatch q)
    obtain ⟨p20, ep20, hf⟩ := xbind hf
    refine xb_callV (As := [.int l1, .int (0 : Int32)]) (v0 := none) (τ0 := p20) dX12_common_133 (xc_X12_twice _ _) xcl12 xw_2460 xw_2462 xs_159 hb rfl (Nat.le_of_ble_eq_true rfl) rfl (Nat.le_of_ble_eq_true rfl) (fun Q1 hq => m_X12_twice (d := d + 1) ep20 (fun g hg => by subst hg; exact hq)) ?_
    refine xb_iinc dX12_common_136 rfl (by decide) (by decide) hf (fun v21 ev21 hf => xm_stL (L' := [(4, .int v21), (0, .ref l0), (1, .int l1), (3, .int l3)]) rfl ?_)
    refine xm_goto 124 dX12_common_139 (by decide) ?_
    cases hf
    exact xm_sub [1, 2, 3, 0] rfl (hC _ rfl)
theorem L_X12_common_l124 {G : xG} {π : Nat → Nat} {d C Z : Nat} {Q : xQ} {s0 : (Nat × Int32 × Int32 × Int32 × xM)} {x : (xM ⊕ (xM))} (h1 : xloop (f_X12_common_s124) xF s0 = some x) (hR : ∀ g, x = Sum.inl g → Q (.inl none) (g) π) (hE : ∀ e : (xM), x = Sum.inr e → xMach G π J_X12_common (d + 2) C Z 142 [] [] e Q) : xMach G π J_X12_common (d + 2) C Z 124 [(0, .ref s0.1), (1, .int s0.2.1), (3, .int s0.2.2.1), (4, .int s0.2.2.2.1)] [] s0.2.2.2.2 Q := by
  refine xloop_run (M := (fun s : (Nat × Int32 × Int32 × Int32 × xM) => xMach G π J_X12_common (d + 2) C Z 124 [(0, .ref s.1), (1, .int s.2.1), (3, .int s.2.2.1), (4, .int s.2.2.2.1)] [] s.2.2.2.2 Q)) (r := x) ?_ xF _ h1
  intro s y hs hx
  exact L_X12_common_s124 s.2.2.2.2 s.1 s.2.1 s.2.2.1 s.2.2.2.1 (x := y) hs (fun g hg => by subst hg; exact hR g hx) (fun e he => by subst he; exact hE e hx) (fun e he => by subst he; exact hx)
def f_X12_common_j142 (σ : xM)  : Option xM :=
  some σ
set_option maxHeartbeats 4000000 in
set_option maxRecDepth 20000 in
theorem L_X12_common_j142 {G : xG} {π : Nat → Nat} {d C Z : Nat} {Q : xQ} (σ : xM)  {x : xM} (hf : f_X12_common_j142 σ = some x) (hR : ∀ g, x = g → Q (.inl none) (g) π) : xMach G π J_X12_common (d + 2) C Z 142 [] [] σ Q := by
  unfold f_X12_common_j142 at hf
  cases hf
  exact xm_vret dX12_common_142 rfl (hR _ rfl)
def f_X12_common_j115 (σ : xM) (l0 : Nat) (l1 : Int32) (l2 : Int32) (l3 : Int32) : Option xM :=
  (if xk σ l0 12 = true then (f_X12_copy σ l0 l1 l2).bind (fun p18 => xlet (0 : Int32) (fun v19 => (xloop (f_X12_common_s124 ) xF (l0, l1, l3, v19, p18)).bind (Sum.elim (fun g => some g) (fun e => f_X12_common_j142 e)))) else none)
set_option maxHeartbeats 4000000 in
set_option maxRecDepth 20000 in
theorem L_X12_common_j115 {G : xG} {π : Nat → Nat} {d C Z : Nat} {Q : xQ} (σ : xM) (l0 : Nat) (l1 : Int32) (l2 : Int32) (l3 : Int32) {x : xM} (hf : f_X12_common_j115 σ l0 l1 l2 l3 = some x) (hR : ∀ g, x = g → Q (.inl none) (g) π) : xMach G π J_X12_common (d + 2) C Z 115 [(0, .ref l0), (1, .int l1), (2, .int l2), (3, .int l3)] [] σ Q := by
  unfold f_X12_common_j115 at hf
  refine xm_aload_n dX12_common_115 rfl ?_
  refine xm_iload_n dX12_common_116 rfl ?_
  refine xm_iload_n dX12_common_117 rfl ?_
  refine xb_if hf (fun hb hf => ?_) (fun _ q => nomatch q)
  obtain ⟨p18, ep18, hf⟩ := xbind hf
  refine xb_callV (As := [.int l1, .int l2]) (v0 := none) (τ0 := p18) dX12_common_118 (xc_X12_copy _ _) xcl12 xw_2424 xw_2426 xs_150 hb rfl (Nat.le_of_ble_eq_true rfl) rfl (Nat.le_of_ble_eq_true rfl) (fun Q1 hq => m_X12_copy (d := d + 1) ep18 (fun g hg => by subst hg; exact hq)) ?_
  refine xm_iconst dX12_common_121 (v := 0) (by decide) ?_
  refine xb_topi hf (fun v19 ev19 hf => ?_)
  refine xm_istore dX12_common_122 (by decide) (xm_stL (L' := [(4, .int v19), (0, .ref l0), (1, .int l1), (2, .int l2), (3, .int l3)]) rfl ?_)
  obtain ⟨o, h1, hf⟩ := xbind hf
  refine xm_sub [1, 2, 4, 0] rfl (L_X12_common_l124  h1 (fun g hg => ?_) (fun e he => ?_))
  · subst hg
    cases hf
    exact hR _ rfl
  · subst he
    rw [Sum.elim_inr] at hf
    have hf : f_X12_common_j142 e = some _ := hf
    exact xm_sub [] rfl (L_X12_common_j142 e hf hR)
def f_X12_common (σ : xM) (l0 : Nat) (l1 : Int32) (l2 : Int32) : Option xM :=
  xlet (0 : Int32) (fun v1 => (xloop (f_X12_common_s2 ) xF (l0, l1, l2, v1, σ)).bind (Sum.elim (fun g => some g) (fun e => (xloop (f_X12_common_s45 ) xF (e.1, e.2.1, e.2.2.1, e.2.2.2.1, e.2.2.2.2)).bind (Sum.elim (fun g => some g) (fun e => f_X12_common_j115 e.2.2.2.2 e.1 e.2.1 e.2.2.1 e.2.2.2.1)))))
set_option maxHeartbeats 4000000 in
set_option maxRecDepth 20000 in
theorem m_X12_common {G : xG} {π : Nat → Nat} {d C Z : Nat} {Q : xQ} {σ : xM} {l0 : Nat} {l1 : Int32} {l2 : Int32} {x : xM} (hf : f_X12_common σ l0 l1 l2 = some x) (hR : ∀ g, x = g → Q (.inl none) (g) π) : xMach G π J_X12_common (d + 2) C Z 0 (lv_args 0 [.ref l0, .int l1, .int l2]) [] σ Q := by
  unfold f_X12_common at hf
  refine xm_stL (L' := [(0, .ref l0), (1, .int l1), (2, .int l2)]) rfl ?_
  refine xm_iconst dX12_common_0 (v := 0) (by decide) ?_
  refine xb_topi hf (fun v1 ev1 hf => ?_)
  refine xm_istore_n dX12_common_1 (by decide) (xm_stL (L' := [(3, .int v1), (0, .ref l0), (1, .int l1), (2, .int l2)]) rfl ?_)
  obtain ⟨o, h1, hf⟩ := xbind hf
  refine xm_sub [1, 2, 3, 0] rfl (L_X12_common_l2  h1 (fun g hg => ?_) (fun e he => ?_))
  · subst hg
    cases hf
    exact hR _ rfl
  · subst he
    rw [Sum.elim_inr] at hf
    have hf : (xloop (f_X12_common_s45 ) xF (e.1, e.2.1, e.2.2.1, e.2.2.2.1, e.2.2.2.2)).bind (Sum.elim (fun g => some g) (fun e => f_X12_common_j115 e.2.2.2.2 e.1 e.2.1 e.2.2.1 e.2.2.2.1)) = some _ := hf
    obtain ⟨o, h1, hf⟩ := xbind hf
    refine xm_sub [0, 1, 2, 3] rfl (L_X12_common_l45  h1 (fun g hg => ?_) (fun e he => ?_))
    · subst hg
      cases hf
      exact hR _ rfl
    · subst he
      rw [Sum.elim_inr] at hf
      have hf : f_X12_common_j115 e.2.2.2.2 e.1 e.2.1 e.2.2.1 e.2.2.2.1 = some _ := hf
      exact xm_sub [0, 1, 2, 3] rfl (L_X12_common_j115 e.2.2.2.2 e.1 e.2.1 e.2.2.1 e.2.2.2.1 hf hR)
-- RankwiseModel.sign(I)I
def f_X12_sign (σ : xM) (l0 : Nat) (l1 : Int32) : Option Int32 :=
  (gR σ l0 12 3).bind (fun x1 => (aI σ x1 14 ((28 : Int32) * l1)).bind (fun x2 => some x2))
set_option maxHeartbeats 4000000 in
set_option maxRecDepth 20000 in
theorem m_X12_sign {G : xG} {π : Nat → Nat} {d C Z : Nat} {Q : xQ} {σ : xM} {l0 : Nat} {l1 : Int32} {x : Int32} (hf : f_X12_sign σ l0 l1 = some x) (hR : ∀ g, x = g → Q (.inl (some (.int g))) (σ) π) : xMach G π J_X12_sign (d + 0) C Z 0 (lv_args 0 [.ref l0, .int l1]) [] σ Q := by
  unfold f_X12_sign at hf
  refine xm_stL (L' := [(0, .ref l0), (1, .int l1)]) rfl ?_
  refine xm_aload_n dX12_sign_0 rfl ?_
  refine xb_getR (a := l0) (c := 12) (k := 3) dX12_sign_1 xcl12 (by decide) xw_1840 rfl hf (fun x1 ex1 hf => ?_)
  refine xm_bipush dX12_sign_4 (v := 28) (by decide) ?_
  refine xm_iload_n dX12_sign_6 rfl ?_
  refine xm_imul dX12_sign_7 ?_
  refine xb_iald dX12_sign_8 hf (fun x2 ex2 hf => ?_)
  cases hf
  exact xm_iret dX12_sign_9 rfl (hR _ rfl)
-- RankwiseModel.load(III)V
def f_X12_load_s3 (s : (Nat × Int32 × Int32 × Int32 × Int32 × xM)) : Option (xM ⊕ ((Nat × Int32 × xM) ⊕ (Nat × Int32 × Int32 × Int32 × Int32 × xM))) :=
  xlet s.1 (fun l0 => xlet s.2.1 (fun l1 => xlet s.2.2.1 (fun l2 => xlet s.2.2.2.1 (fun l3 => xlet s.2.2.2.2.1 (fun l4 => xlet s.2.2.2.2.2 (fun σ => (if (13 : Int32) ≤ l4 then some (Sum.inr (Sum.inl (l0, l1, σ))) else (gR σ l0 12 1).bind (fun x2 => (gR σ l0 12 3).bind (fun x3 => (aI σ x3 14 ((((28 : Int32) * l2) + l3) + l4)).bind (fun x4 => (wI σ x2 (((440 : Int32) * l1) + l4) x4).bind (fun σ5 => xlet (l4 + (1 : Int32)) (fun v6 => some (Sum.inr (Sum.inr (l0, l1, l2, l3, v6, σ5)))))))))))))))
set_option maxHeartbeats 4000000 in
set_option maxRecDepth 20000 in
theorem L_X12_load_s3 {G : xG} {π : Nat → Nat} {d C Z : Nat} {Q : xQ} (σ : xM) (l0 : Nat) (l1 : Int32) (l2 : Int32) (l3 : Int32) (l4 : Int32) {x : (xM ⊕ ((Nat × Int32 × xM) ⊕ (Nat × Int32 × Int32 × Int32 × Int32 × xM)))} (hf : f_X12_load_s3 (l0, l1, l2, l3, l4, σ) = some x) (hR : ∀ g, x = Sum.inl (g) → Q (.inl none) (g) π) (hE : ∀ e : (Nat × Int32 × xM), x = Sum.inr (Sum.inl e) → xMach G π J_X12_load (d + 1) C Z 43 [(0, .ref e.1), (1, .int e.2.1)] [] e.2.2 Q) (hC : ∀ e : (Nat × Int32 × Int32 × Int32 × Int32 × xM), x = Sum.inr (Sum.inr e) → xMach G π J_X12_load (d + 1) C Z 3 [(0, .ref e.1), (1, .int e.2.1), (2, .int e.2.2.1), (3, .int e.2.2.2.1), (4, .int e.2.2.2.2.1)] [] e.2.2.2.2.2 Q) : xMach G π J_X12_load (d + 1) C Z 3 [(0, .ref l0), (1, .int l1), (2, .int l2), (3, .int l3), (4, .int l4)] [] σ Q := by
  have hf : (if (13 : Int32) ≤ l4 then some (Sum.inr (Sum.inl (l0, l1, σ))) else (gR σ l0 12 1).bind (fun x2 => (gR σ l0 12 3).bind (fun x3 => (aI σ x3 14 ((((28 : Int32) * l2) + l3) + l4)).bind (fun x4 => (wI σ x2 (((440 : Int32) * l1) + l4) x4).bind (fun σ5 => xlet (l4 + (1 : Int32)) (fun v6 => some (Sum.inr (Sum.inr (l0, l1, l2, l3, v6, σ5))))))))) = some x := hf
  refine xm_iload dX12_load_3 rfl ?_
  refine xm_bipush dX12_load_5 (v := 13) (by decide) ?_
  refine xb_icmp_ge 43 dX12_load_7 (by decide) hf (fun c hf => ?_) (fun c hf => ?_)
  · cases hf
    exact xm_sub [0, 1] rfl (hE _ rfl)
  · refine xm_aload_n dX12_load_10 rfl ?_
    refine xb_getR (a := l0) (c := 12) (k := 1) dX12_load_11 xcl12 (by decide) xw_1838 rfl hf (fun x2 ex2 hf => ?_)
    refine xm_sipush dX12_load_14 (v := 440) (by decide) ?_
    refine xm_iload_n dX12_load_17 rfl ?_
    refine xm_imul dX12_load_18 ?_
    refine xm_iload dX12_load_19 rfl ?_
    refine xm_iadd dX12_load_21 ?_
    refine xm_aload_n dX12_load_22 rfl ?_
    refine xb_getR (a := l0) (c := 12) (k := 3) dX12_load_23 xcl12 (by decide) xw_1840 rfl hf (fun x3 ex3 hf => ?_)
    refine xm_bipush dX12_load_26 (v := 28) (by decide) ?_
    refine xm_iload_n dX12_load_28 rfl ?_
    refine xm_imul dX12_load_29 ?_
    refine xm_iload_n dX12_load_30 rfl ?_
    refine xm_iadd dX12_load_31 ?_
    refine xm_iload dX12_load_32 rfl ?_
    refine xm_iadd dX12_load_34 ?_
    refine xb_iald dX12_load_35 hf (fun x4 ex4 hf => ?_)
    refine xb_iast dX12_load_36 hf (fun σ5 eσ5 hf => ?_)
    refine xb_iinc dX12_load_37 rfl (by decide) (by decide) hf (fun v6 ev6 hf => xm_stL (L' := [(4, .int v6), (0, .ref l0), (1, .int l1), (2, .int l2), (3, .int l3)]) rfl ?_)
    refine xm_goto 3 dX12_load_40 (by decide) ?_
    cases hf
    exact xm_sub [1, 2, 3, 4, 0] rfl (hC _ rfl)
theorem L_X12_load_l3 {G : xG} {π : Nat → Nat} {d C Z : Nat} {Q : xQ} {s0 : (Nat × Int32 × Int32 × Int32 × Int32 × xM)} {x : (xM ⊕ (Nat × Int32 × xM))} (h1 : xloop (f_X12_load_s3) xF s0 = some x) (hR : ∀ g, x = Sum.inl g → Q (.inl none) (g) π) (hE : ∀ e : (Nat × Int32 × xM), x = Sum.inr e → xMach G π J_X12_load (d + 1) C Z 43 [(0, .ref e.1), (1, .int e.2.1)] [] e.2.2 Q) : xMach G π J_X12_load (d + 1) C Z 3 [(0, .ref s0.1), (1, .int s0.2.1), (2, .int s0.2.2.1), (3, .int s0.2.2.2.1), (4, .int s0.2.2.2.2.1)] [] s0.2.2.2.2.2 Q := by
  refine xloop_run (M := (fun s : (Nat × Int32 × Int32 × Int32 × Int32 × xM) => xMach G π J_X12_load (d + 1) C Z 3 [(0, .ref s.1), (1, .int s.2.1), (2, .int s.2.2.1), (3, .int s.2.2.2.1), (4, .int s.2.2.2.2.1)] [] s.2.2.2.2.2 Q)) (r := x) ?_ xF _ h1
  intro s y hs hx
  exact L_X12_load_s3 s.2.2.2.2.2 s.1 s.2.1 s.2.2.1 s.2.2.2.1 s.2.2.2.2.1 (x := y) hs (fun g hg => by subst hg; exact hR g hx) (fun e he => by subst he; exact hE e hx) (fun e he => by subst he; exact hx)
def f_X12_load_j43 (σ : xM) (l0 : Nat) (l1 : Int32) : Option xM :=
  (gR σ l0 12 2).bind (fun x7 => (wI σ x7 l1 (13 : Int32)).bind (fun σ8 => (if xk σ8 l0 12 = true then (f_X12_trim σ8 l0 l1).bind (fun p9 => some p9) else none)))
set_option maxHeartbeats 4000000 in
set_option maxRecDepth 20000 in
theorem L_X12_load_j43 {G : xG} {π : Nat → Nat} {d C Z : Nat} {Q : xQ} (σ : xM) (l0 : Nat) (l1 : Int32) {x : xM} (hf : f_X12_load_j43 σ l0 l1 = some x) (hR : ∀ g, x = g → Q (.inl none) (g) π) : xMach G π J_X12_load (d + 1) C Z 43 [(0, .ref l0), (1, .int l1)] [] σ Q := by
  unfold f_X12_load_j43 at hf
  refine xm_aload_n dX12_load_43 rfl ?_
  refine xb_getR (a := l0) (c := 12) (k := 2) dX12_load_44 xcl12 (by decide) xw_1839 rfl hf (fun x7 ex7 hf => ?_)
  refine xm_iload_n dX12_load_47 rfl ?_
  refine xm_bipush dX12_load_48 (v := 13) (by decide) ?_
  refine xb_iast dX12_load_50 hf (fun σ8 eσ8 hf => ?_)
  refine xm_aload_n dX12_load_51 rfl ?_
  refine xm_iload_n dX12_load_52 rfl ?_
  refine xb_if hf (fun hb hf => ?_) (fun _ q => nomatch q)
  obtain ⟨p9, ep9, hf⟩ := xbind hf
  refine xb_callV (As := [.int l1]) (v0 := none) (τ0 := p9) dX12_load_53 (xc_X12_trim _ _) xcl12 xw_1829 xw_1831 xs_86 hb rfl (Nat.le_of_ble_eq_true rfl) rfl (Nat.le_of_ble_eq_true rfl) (fun Q1 hq => m_X12_trim (d := d + 0) ep9 (fun g hg => by subst hg; exact hq)) ?_
  cases hf
  exact xm_vret dX12_load_56 rfl (hR _ rfl)
def f_X12_load (σ : xM) (l0 : Nat) (l1 : Int32) (l2 : Int32) (l3 : Int32) : Option xM :=
  xlet (0 : Int32) (fun v1 => (xloop (f_X12_load_s3 ) xF (l0, l1, l2, l3, v1, σ)).bind (Sum.elim (fun g => some g) (fun e => f_X12_load_j43 e.2.2 e.1 e.2.1)))
set_option maxHeartbeats 4000000 in
set_option maxRecDepth 20000 in
theorem m_X12_load {G : xG} {π : Nat → Nat} {d C Z : Nat} {Q : xQ} {σ : xM} {l0 : Nat} {l1 : Int32} {l2 : Int32} {l3 : Int32} {x : xM} (hf : f_X12_load σ l0 l1 l2 l3 = some x) (hR : ∀ g, x = g → Q (.inl none) (g) π) : xMach G π J_X12_load (d + 1) C Z 0 (lv_args 0 [.ref l0, .int l1, .int l2, .int l3]) [] σ Q := by
  unfold f_X12_load at hf
  refine xm_stL (L' := [(0, .ref l0), (1, .int l1), (2, .int l2), (3, .int l3)]) rfl ?_
  refine xm_iconst dX12_load_0 (v := 0) (by decide) ?_
  refine xb_topi hf (fun v1 ev1 hf => ?_)
  refine xm_istore dX12_load_1 (by decide) (xm_stL (L' := [(4, .int v1), (0, .ref l0), (1, .int l1), (2, .int l2), (3, .int l3)]) rfl ?_)
  obtain ⟨o, h1, hf⟩ := xbind hf
  refine xm_sub [1, 2, 3, 4, 0] rfl (L_X12_load_l3  h1 (fun g hg => ?_) (fun e he => ?_))
  · subst hg
    cases hf
    exact hR _ rfl
  · subst he
    rw [Sum.elim_inr] at hf
    have hf : f_X12_load_j43 e.2.2 e.1 e.2.1 = some _ := hf
    exact xm_sub [0, 1] rfl (L_X12_load_j43 e.2.2 e.1 e.2.1 hf hR)
-- RankwiseModel.loadNumerator(II)V
def f_X12_loadNumerator (σ : xM) (l0 : Nat) (l1 : Int32) (l2 : Int32) : Option xM :=
  (if xk σ l0 12 = true then (f_X12_load σ l0 l1 l2 (1 : Int32)).bind (fun p1 => some p1) else none)
set_option maxHeartbeats 4000000 in
set_option maxRecDepth 20000 in
theorem m_X12_loadNumerator {G : xG} {π : Nat → Nat} {d C Z : Nat} {Q : xQ} {σ : xM} {l0 : Nat} {l1 : Int32} {l2 : Int32} {x : xM} (hf : f_X12_loadNumerator σ l0 l1 l2 = some x) (hR : ∀ g, x = g → Q (.inl none) (g) π) : xMach G π J_X12_loadNumerator (d + 2) C Z 0 (lv_args 0 [.ref l0, .int l1, .int l2]) [] σ Q := by
  unfold f_X12_loadNumerator at hf
  refine xm_stL (L' := [(0, .ref l0), (1, .int l1), (2, .int l2)]) rfl ?_
  refine xm_aload_n dX12_loadNumerator_0 rfl ?_
  refine xm_iload_n dX12_loadNumerator_1 rfl ?_
  refine xm_iload_n dX12_loadNumerator_2 rfl ?_
  refine xm_iconst dX12_loadNumerator_3 (v := 1) (by decide) ?_
  refine xb_if hf (fun hb hf => ?_) (fun _ q => nomatch q)
  obtain ⟨p1, ep1, hf⟩ := xbind hf
  refine xb_callV (As := [.int l1, .int l2, .int (1 : Int32)]) (v0 := none) (τ0 := p1) dX12_loadNumerator_4 (xc_X12_load _ _) xcl12 xw_2407 xw_2409 xs_146 hb rfl (Nat.le_of_ble_eq_true rfl) rfl (Nat.le_of_ble_eq_true rfl) (fun Q1 hq => m_X12_load (d := d + 0) ep1 (fun g hg => by subst hg; exact hq)) ?_
  cases hf
  exact xm_vret dX12_loadNumerator_7 rfl (hR _ rfl)
-- RankwiseModel.loadDenominator(II)V
def f_X12_loadDenominator (σ : xM) (l0 : Nat) (l1 : Int32) (l2 : Int32) : Option xM :=
  (if xk σ l0 12 = true then (f_X12_load σ l0 l1 l2 (14 : Int32)).bind (fun p1 => some p1) else none)
set_option maxHeartbeats 4000000 in
set_option maxRecDepth 20000 in
theorem m_X12_loadDenominator {G : xG} {π : Nat → Nat} {d C Z : Nat} {Q : xQ} {σ : xM} {l0 : Nat} {l1 : Int32} {l2 : Int32} {x : xM} (hf : f_X12_loadDenominator σ l0 l1 l2 = some x) (hR : ∀ g, x = g → Q (.inl none) (g) π) : xMach G π J_X12_loadDenominator (d + 2) C Z 0 (lv_args 0 [.ref l0, .int l1, .int l2]) [] σ Q := by
  unfold f_X12_loadDenominator at hf
  refine xm_stL (L' := [(0, .ref l0), (1, .int l1), (2, .int l2)]) rfl ?_
  refine xm_aload_n dX12_loadDenominator_0 rfl ?_
  refine xm_iload_n dX12_loadDenominator_1 rfl ?_
  refine xm_iload_n dX12_loadDenominator_2 rfl ?_
  refine xm_bipush dX12_loadDenominator_3 (v := 14) (by decide) ?_
  refine xb_if hf (fun hb hf => ?_) (fun _ q => nomatch q)
  obtain ⟨p1, ep1, hf⟩ := xbind hf
  refine xb_callV (As := [.int l1, .int l2, .int (14 : Int32)]) (v0 := none) (τ0 := p1) dX12_loadDenominator_5 (xc_X12_load _ _) xcl12 xw_2407 xw_2409 xs_146 hb rfl (Nat.le_of_ble_eq_true rfl) rfl (Nat.le_of_ble_eq_true rfl) (fun Q1 hq => m_X12_load (d := d + 0) ep1 (fun g hg => by subst hg; exact hq)) ?_
  cases hf
  exact xm_vret dX12_loadDenominator_8 rfl (hR _ rfl)
-- RankwiseModel.hold(III)V
def f_X12_hold_j51 (σ : xM) (l0 : Nat) (l1 : Int32) (l2 : Int32) (l3 : Int32) (l4 : Int32) (s0 : Int32) (s1 : Int32) (s2 : Nat) : Option (xM ⊕ ((xM) ⊕ (Nat × Int32 × Int32 × Int32 × Int32 × xM))) :=
  (wI σ s2 s1 s0).bind (fun σ5 => xlet (l4 + (1 : Int32)) (fun v6 => some (Sum.inr (Sum.inr (l0, l1, l2, l3, v6, σ5)))))
set_option maxHeartbeats 4000000 in
set_option maxRecDepth 20000 in
theorem L_X12_hold_j51 {G : xG} {π : Nat → Nat} {d C Z : Nat} {Q : xQ} (σ : xM) (l0 : Nat) (l1 : Int32) (l2 : Int32) (l3 : Int32) (l4 : Int32) (s0 : Int32) (s1 : Int32) (s2 : Nat) {x : (xM ⊕ ((xM) ⊕ (Nat × Int32 × Int32 × Int32 × Int32 × xM)))} (hf : f_X12_hold_j51 σ l0 l1 l2 l3 l4 s0 s1 s2 = some x) (hR : ∀ g, x = Sum.inl (g) → Q (.inl none) (g) π) (hE : ∀ e : (xM), x = Sum.inr (Sum.inl e) → xMach G π J_X12_hold (d + 0) C Z 58 [] [] e Q) (hC : ∀ e : (Nat × Int32 × Int32 × Int32 × Int32 × xM), x = Sum.inr (Sum.inr e) → xMach G π J_X12_hold (d + 0) C Z 3 [(0, .ref e.1), (1, .int e.2.1), (2, .int e.2.2.1), (3, .int e.2.2.2.1), (4, .int e.2.2.2.2.1)] [] e.2.2.2.2.2 Q) : xMach G π J_X12_hold (d + 0) C Z 51 [(0, .ref l0), (1, .int l1), (2, .int l2), (3, .int l3), (4, .int l4)] [.int s0, .int s1, .ref s2] σ Q := by
  unfold f_X12_hold_j51 at hf
  refine xb_iast dX12_hold_51 hf (fun σ5 eσ5 hf => ?_)
  refine xb_iinc dX12_hold_52 rfl (by decide) (by decide) hf (fun v6 ev6 hf => xm_stL (L' := [(4, .int v6), (0, .ref l0), (1, .int l1), (2, .int l2), (3, .int l3)]) rfl ?_)
  refine xm_goto 3 dX12_hold_55 (by decide) ?_
  cases hf
  exact xm_sub [1, 2, 3, 4, 0] rfl (hC _ rfl)
def f_X12_hold_s3 (s : (Nat × Int32 × Int32 × Int32 × Int32 × xM)) : Option (xM ⊕ ((xM) ⊕ (Nat × Int32 × Int32 × Int32 × Int32 × xM))) :=
  xlet s.1 (fun l0 => xlet s.2.1 (fun l1 => xlet s.2.2.1 (fun l2 => xlet s.2.2.2.1 (fun l3 => xlet s.2.2.2.2.1 (fun l4 => xlet s.2.2.2.2.2 (fun σ => (if (13 : Int32) ≤ l4 then some (Sum.inr (Sum.inl σ)) else (gR σ l0 12 3).bind (fun x2 => (gR σ l0 12 2).bind (fun x3 => (aI σ x3 14 l2).bind (fun x4 => (if x4 ≤ l4 then f_X12_hold_j51 σ l0 l1 l2 l3 l4 (0 : Int32) ((((28 : Int32) * l1) + l3) + l4) x2 else (gR σ l0 12 1).bind (fun x7 => (aI σ x7 14 (((440 : Int32) * l2) + l4)).bind (fun x8 => f_X12_hold_j51 σ l0 l1 l2 l3 l4 x8 ((((28 : Int32) * l1) + l3) + l4) x2)))))))))))))
set_option maxHeartbeats 4000000 in
set_option maxRecDepth 20000 in
theorem L_X12_hold_s3 {G : xG} {π : Nat → Nat} {d C Z : Nat} {Q : xQ} (σ : xM) (l0 : Nat) (l1 : Int32) (l2 : Int32) (l3 : Int32) (l4 : Int32) {x : (xM ⊕ ((xM) ⊕ (Nat × Int32 × Int32 × Int32 × Int32 × xM)))} (hf : f_X12_hold_s3 (l0, l1, l2, l3, l4, σ) = some x) (hR : ∀ g, x = Sum.inl (g) → Q (.inl none) (g) π) (hE : ∀ e : (xM), x = Sum.inr (Sum.inl e) → xMach G π J_X12_hold (d + 0) C Z 58 [] [] e Q) (hC : ∀ e : (Nat × Int32 × Int32 × Int32 × Int32 × xM), x = Sum.inr (Sum.inr e) → xMach G π J_X12_hold (d + 0) C Z 3 [(0, .ref e.1), (1, .int e.2.1), (2, .int e.2.2.1), (3, .int e.2.2.2.1), (4, .int e.2.2.2.2.1)] [] e.2.2.2.2.2 Q) : xMach G π J_X12_hold (d + 0) C Z 3 [(0, .ref l0), (1, .int l1), (2, .int l2), (3, .int l3), (4, .int l4)] [] σ Q := by
  have hf : (if (13 : Int32) ≤ l4 then some (Sum.inr (Sum.inl σ)) else (gR σ l0 12 3).bind (fun x2 => (gR σ l0 12 2).bind (fun x3 => (aI σ x3 14 l2).bind (fun x4 => (if x4 ≤ l4 then f_X12_hold_j51 σ l0 l1 l2 l3 l4 (0 : Int32) ((((28 : Int32) * l1) + l3) + l4) x2 else (gR σ l0 12 1).bind (fun x7 => (aI σ x7 14 (((440 : Int32) * l2) + l4)).bind (fun x8 => f_X12_hold_j51 σ l0 l1 l2 l3 l4 x8 ((((28 : Int32) * l1) + l3) + l4) x2))))))) = some x := hf
  refine xm_iload dX12_hold_3 rfl ?_
  refine xm_bipush dX12_hold_5 (v := 13) (by decide) ?_
  refine xb_icmp_ge 58 dX12_hold_7 (by decide) hf (fun c hf => ?_) (fun c hf => ?_)
  · cases hf
    exact xm_sub [] rfl (hE _ rfl)
  · refine xm_aload_n dX12_hold_10 rfl ?_
    refine xb_getR (a := l0) (c := 12) (k := 3) dX12_hold_11 xcl12 (by decide) xw_1840 rfl hf (fun x2 ex2 hf => ?_)
    refine xm_bipush dX12_hold_14 (v := 28) (by decide) ?_
    refine xm_iload_n dX12_hold_16 rfl ?_
    refine xm_imul dX12_hold_17 ?_
    refine xm_iload_n dX12_hold_18 rfl ?_
    refine xm_iadd dX12_hold_19 ?_
    refine xm_iload dX12_hold_20 rfl ?_
    refine xm_iadd dX12_hold_22 ?_
    refine xm_iload dX12_hold_23 rfl ?_
    refine xm_aload_n dX12_hold_25 rfl ?_
    refine xb_getR (a := l0) (c := 12) (k := 2) dX12_hold_26 xcl12 (by decide) xw_1839 rfl hf (fun x3 ex3 hf => ?_)
    refine xm_iload_n dX12_hold_29 rfl ?_
    refine xb_iald dX12_hold_30 hf (fun x4 ex4 hf => ?_)
    refine xb_icmp_ge 50 dX12_hold_31 (by decide) hf (fun c hf => ?_) (fun c hf => ?_)
    · refine xm_iconst dX12_hold_50 (v := 0) (by decide) ?_
      exact xm_sub [0, 1, 2, 3, 4] rfl (L_X12_hold_j51 σ l0 l1 l2 l3 l4 (0 : Int32) ((((28 : Int32) * l1) + l3) + l4) x2 hf hR hE hC)
    · refine xm_aload_n dX12_hold_34 rfl ?_
      refine xb_getR (a := l0) (c := 12) (k := 1) dX12_hold_35 xcl12 (by decide) xw_1838 rfl hf (fun x7 ex7 hf => ?_)
      refine xm_sipush dX12_hold_38 (v := 440) (by decide) ?_
      refine xm_iload_n dX12_hold_41 rfl ?_
      refine xm_imul dX12_hold_42 ?_
      refine xm_iload dX12_hold_43 rfl ?_
      refine xm_iadd dX12_hold_45 ?_
      refine xb_iald dX12_hold_46 hf (fun x8 ex8 hf => ?_)
      refine xm_goto 51 dX12_hold_47 (by decide) ?_
      exact xm_sub [0, 1, 2, 3, 4] rfl (L_X12_hold_j51 σ l0 l1 l2 l3 l4 x8 ((((28 : Int32) * l1) + l3) + l4) x2 hf hR hE hC)
theorem L_X12_hold_l3 {G : xG} {π : Nat → Nat} {d C Z : Nat} {Q : xQ} {s0 : (Nat × Int32 × Int32 × Int32 × Int32 × xM)} {x : (xM ⊕ (xM))} (h1 : xloop (f_X12_hold_s3) xF s0 = some x) (hR : ∀ g, x = Sum.inl g → Q (.inl none) (g) π) (hE : ∀ e : (xM), x = Sum.inr e → xMach G π J_X12_hold (d + 0) C Z 58 [] [] e Q) : xMach G π J_X12_hold (d + 0) C Z 3 [(0, .ref s0.1), (1, .int s0.2.1), (2, .int s0.2.2.1), (3, .int s0.2.2.2.1), (4, .int s0.2.2.2.2.1)] [] s0.2.2.2.2.2 Q := by
  refine xloop_run (M := (fun s : (Nat × Int32 × Int32 × Int32 × Int32 × xM) => xMach G π J_X12_hold (d + 0) C Z 3 [(0, .ref s.1), (1, .int s.2.1), (2, .int s.2.2.1), (3, .int s.2.2.2.1), (4, .int s.2.2.2.2.1)] [] s.2.2.2.2.2 Q)) (r := x) ?_ xF _ h1
  intro s y hs hx
  exact L_X12_hold_s3 s.2.2.2.2.2 s.1 s.2.1 s.2.2.1 s.2.2.2.1 s.2.2.2.2.1 (x := y) hs (fun g hg => by subst hg; exact hR g hx) (fun e he => by subst he; exact hE e hx) (fun e he => by subst he; exact hx)
def f_X12_hold_j58 (σ : xM)  : Option xM :=
  some σ
set_option maxHeartbeats 4000000 in
set_option maxRecDepth 20000 in
theorem L_X12_hold_j58 {G : xG} {π : Nat → Nat} {d C Z : Nat} {Q : xQ} (σ : xM)  {x : xM} (hf : f_X12_hold_j58 σ = some x) (hR : ∀ g, x = g → Q (.inl none) (g) π) : xMach G π J_X12_hold (d + 0) C Z 58 [] [] σ Q := by
  unfold f_X12_hold_j58 at hf
  cases hf
  exact xm_vret dX12_hold_58 rfl (hR _ rfl)
def f_X12_hold (σ : xM) (l0 : Nat) (l1 : Int32) (l2 : Int32) (l3 : Int32) : Option xM :=
  xlet (0 : Int32) (fun v1 => (xloop (f_X12_hold_s3 ) xF (l0, l1, l2, l3, v1, σ)).bind (Sum.elim (fun g => some g) (fun e => f_X12_hold_j58 e)))
set_option maxHeartbeats 4000000 in
set_option maxRecDepth 20000 in
theorem m_X12_hold {G : xG} {π : Nat → Nat} {d C Z : Nat} {Q : xQ} {σ : xM} {l0 : Nat} {l1 : Int32} {l2 : Int32} {l3 : Int32} {x : xM} (hf : f_X12_hold σ l0 l1 l2 l3 = some x) (hR : ∀ g, x = g → Q (.inl none) (g) π) : xMach G π J_X12_hold (d + 0) C Z 0 (lv_args 0 [.ref l0, .int l1, .int l2, .int l3]) [] σ Q := by
  unfold f_X12_hold at hf
  refine xm_stL (L' := [(0, .ref l0), (1, .int l1), (2, .int l2), (3, .int l3)]) rfl ?_
  refine xm_iconst dX12_hold_0 (v := 0) (by decide) ?_
  refine xb_topi hf (fun v1 ev1 hf => ?_)
  refine xm_istore dX12_hold_1 (by decide) (xm_stL (L' := [(4, .int v1), (0, .ref l0), (1, .int l1), (2, .int l2), (3, .int l3)]) rfl ?_)
  obtain ⟨o, h1, hf⟩ := xbind hf
  refine xm_sub [1, 2, 3, 4, 0] rfl (L_X12_hold_l3  h1 (fun g hg => ?_) (fun e he => ?_))
  · subst hg
    cases hf
    exact hR _ rfl
  · subst he
    rw [Sum.elim_inr] at hf
    have hf : f_X12_hold_j58 e = some _ := hf
    exact xm_sub [] rfl (L_X12_hold_j58 e hf hR)
-- RankwiseModel.copyValue(II)V
def f_X12_copyValue_s2 (s : (Nat × Int32 × Int32 × Int32 × xM)) : Option (xM ⊕ ((xM) ⊕ (Nat × Int32 × Int32 × Int32 × xM))) :=
  xlet s.1 (fun l0 => xlet s.2.1 (fun l1 => xlet s.2.2.1 (fun l2 => xlet s.2.2.2.1 (fun l3 => xlet s.2.2.2.2 (fun σ => (if (28 : Int32) ≤ l3 then some (Sum.inr (Sum.inl σ)) else (gR σ l0 12 3).bind (fun x2 => (gR σ l0 12 3).bind (fun x3 => (aI σ x3 14 (((28 : Int32) * l2) + l3)).bind (fun x4 => (wI σ x2 (((28 : Int32) * l1) + l3) x4).bind (fun σ5 => xlet (l3 + (1 : Int32)) (fun v6 => some (Sum.inr (Sum.inr (l0, l1, l2, v6, σ5))))))))))))))
set_option maxHeartbeats 4000000 in
set_option maxRecDepth 20000 in
theorem L_X12_copyValue_s2 {G : xG} {π : Nat → Nat} {d C Z : Nat} {Q : xQ} (σ : xM) (l0 : Nat) (l1 : Int32) (l2 : Int32) (l3 : Int32) {x : (xM ⊕ ((xM) ⊕ (Nat × Int32 × Int32 × Int32 × xM)))} (hf : f_X12_copyValue_s2 (l0, l1, l2, l3, σ) = some x) (hR : ∀ g, x = Sum.inl (g) → Q (.inl none) (g) π) (hE : ∀ e : (xM), x = Sum.inr (Sum.inl e) → xMach G π J_X12_copyValue (d + 0) C Z 36 [] [] e Q) (hC : ∀ e : (Nat × Int32 × Int32 × Int32 × xM), x = Sum.inr (Sum.inr e) → xMach G π J_X12_copyValue (d + 0) C Z 2 [(0, .ref e.1), (1, .int e.2.1), (2, .int e.2.2.1), (3, .int e.2.2.2.1)] [] e.2.2.2.2 Q) : xMach G π J_X12_copyValue (d + 0) C Z 2 [(0, .ref l0), (1, .int l1), (2, .int l2), (3, .int l3)] [] σ Q := by
  have hf : (if (28 : Int32) ≤ l3 then some (Sum.inr (Sum.inl σ)) else (gR σ l0 12 3).bind (fun x2 => (gR σ l0 12 3).bind (fun x3 => (aI σ x3 14 (((28 : Int32) * l2) + l3)).bind (fun x4 => (wI σ x2 (((28 : Int32) * l1) + l3) x4).bind (fun σ5 => xlet (l3 + (1 : Int32)) (fun v6 => some (Sum.inr (Sum.inr (l0, l1, l2, v6, σ5))))))))) = some x := hf
  refine xm_iload_n dX12_copyValue_2 rfl ?_
  refine xm_bipush dX12_copyValue_3 (v := 28) (by decide) ?_
  refine xb_icmp_ge 36 dX12_copyValue_5 (by decide) hf (fun c hf => ?_) (fun c hf => ?_)
  · cases hf
    exact xm_sub [] rfl (hE _ rfl)
  · refine xm_aload_n dX12_copyValue_8 rfl ?_
    refine xb_getR (a := l0) (c := 12) (k := 3) dX12_copyValue_9 xcl12 (by decide) xw_1840 rfl hf (fun x2 ex2 hf => ?_)
    refine xm_bipush dX12_copyValue_12 (v := 28) (by decide) ?_
    refine xm_iload_n dX12_copyValue_14 rfl ?_
    refine xm_imul dX12_copyValue_15 ?_
    refine xm_iload_n dX12_copyValue_16 rfl ?_
    refine xm_iadd dX12_copyValue_17 ?_
    refine xm_aload_n dX12_copyValue_18 rfl ?_
    refine xb_getR (a := l0) (c := 12) (k := 3) dX12_copyValue_19 xcl12 (by decide) xw_1840 rfl hf (fun x3 ex3 hf => ?_)
    refine xm_bipush dX12_copyValue_22 (v := 28) (by decide) ?_
    refine xm_iload_n dX12_copyValue_24 rfl ?_
    refine xm_imul dX12_copyValue_25 ?_
    refine xm_iload_n dX12_copyValue_26 rfl ?_
    refine xm_iadd dX12_copyValue_27 ?_
    refine xb_iald dX12_copyValue_28 hf (fun x4 ex4 hf => ?_)
    refine xb_iast dX12_copyValue_29 hf (fun σ5 eσ5 hf => ?_)
    refine xb_iinc dX12_copyValue_30 rfl (by decide) (by decide) hf (fun v6 ev6 hf => xm_stL (L' := [(3, .int v6), (0, .ref l0), (1, .int l1), (2, .int l2)]) rfl ?_)
    refine xm_goto 2 dX12_copyValue_33 (by decide) ?_
    cases hf
    exact xm_sub [1, 2, 3, 0] rfl (hC _ rfl)
theorem L_X12_copyValue_l2 {G : xG} {π : Nat → Nat} {d C Z : Nat} {Q : xQ} {s0 : (Nat × Int32 × Int32 × Int32 × xM)} {x : (xM ⊕ (xM))} (h1 : xloop (f_X12_copyValue_s2) xF s0 = some x) (hR : ∀ g, x = Sum.inl g → Q (.inl none) (g) π) (hE : ∀ e : (xM), x = Sum.inr e → xMach G π J_X12_copyValue (d + 0) C Z 36 [] [] e Q) : xMach G π J_X12_copyValue (d + 0) C Z 2 [(0, .ref s0.1), (1, .int s0.2.1), (2, .int s0.2.2.1), (3, .int s0.2.2.2.1)] [] s0.2.2.2.2 Q := by
  refine xloop_run (M := (fun s : (Nat × Int32 × Int32 × Int32 × xM) => xMach G π J_X12_copyValue (d + 0) C Z 2 [(0, .ref s.1), (1, .int s.2.1), (2, .int s.2.2.1), (3, .int s.2.2.2.1)] [] s.2.2.2.2 Q)) (r := x) ?_ xF _ h1
  intro s y hs hx
  exact L_X12_copyValue_s2 s.2.2.2.2 s.1 s.2.1 s.2.2.1 s.2.2.2.1 (x := y) hs (fun g hg => by subst hg; exact hR g hx) (fun e he => by subst he; exact hE e hx) (fun e he => by subst he; exact hx)
def f_X12_copyValue_j36 (σ : xM)  : Option xM :=
  some σ
set_option maxHeartbeats 4000000 in
set_option maxRecDepth 20000 in
theorem L_X12_copyValue_j36 {G : xG} {π : Nat → Nat} {d C Z : Nat} {Q : xQ} (σ : xM)  {x : xM} (hf : f_X12_copyValue_j36 σ = some x) (hR : ∀ g, x = g → Q (.inl none) (g) π) : xMach G π J_X12_copyValue (d + 0) C Z 36 [] [] σ Q := by
  unfold f_X12_copyValue_j36 at hf
  cases hf
  exact xm_vret dX12_copyValue_36 rfl (hR _ rfl)
def f_X12_copyValue (σ : xM) (l0 : Nat) (l1 : Int32) (l2 : Int32) : Option xM :=
  xlet (0 : Int32) (fun v1 => (xloop (f_X12_copyValue_s2 ) xF (l0, l1, l2, v1, σ)).bind (Sum.elim (fun g => some g) (fun e => f_X12_copyValue_j36 e)))
set_option maxHeartbeats 4000000 in
set_option maxRecDepth 20000 in
theorem m_X12_copyValue {G : xG} {π : Nat → Nat} {d C Z : Nat} {Q : xQ} {σ : xM} {l0 : Nat} {l1 : Int32} {l2 : Int32} {x : xM} (hf : f_X12_copyValue σ l0 l1 l2 = some x) (hR : ∀ g, x = g → Q (.inl none) (g) π) : xMach G π J_X12_copyValue (d + 0) C Z 0 (lv_args 0 [.ref l0, .int l1, .int l2]) [] σ Q := by
  unfold f_X12_copyValue at hf
  refine xm_stL (L' := [(0, .ref l0), (1, .int l1), (2, .int l2)]) rfl ?_
  refine xm_iconst dX12_copyValue_0 (v := 0) (by decide) ?_
  refine xb_topi hf (fun v1 ev1 hf => ?_)
  refine xm_istore_n dX12_copyValue_1 (by decide) (xm_stL (L' := [(3, .int v1), (0, .ref l0), (1, .int l1), (2, .int l2)]) rfl ?_)
  obtain ⟨o, h1, hf⟩ := xbind hf
  refine xm_sub [1, 2, 3, 0] rfl (L_X12_copyValue_l2  h1 (fun g hg => ?_) (fun e he => ?_))
  · subst hg
    cases hf
    exact hR _ rfl
  · subst he
    rw [Sum.elim_inr] at hf
    have hf : f_X12_copyValue_j36 e = some _ := hf
    exact xm_sub [] rfl (L_X12_copyValue_j36 e hf hR)
-- RankwiseModel.setInt(II)V
def f_X12_setInt_j38 (σ : xM) (l0 : Nat) (l1 : Int32) (s0 : Int32) (s1 : Int32) (s2 : Nat) : Option xM :=
  (if xk σ s2 12 = true then (f_X12_put σ s2 s1 s0).bind (fun p3 => (if xk p3 l0 12 = true then (f_X12_hold p3 l0 l1 (0 : Int32) (1 : Int32)).bind (fun p4 => (if xk p4 l0 12 = true then (f_X12_put p4 l0 (0 : Int32) (1 : Int32)).bind (fun p5 => (if xk p5 l0 12 = true then (f_X12_hold p5 l0 l1 (0 : Int32) (14 : Int32)).bind (fun p6 => some p6) else none)) else none)) else none)) else none)
set_option maxHeartbeats 4000000 in
set_option maxRecDepth 20000 in
theorem L_X12_setInt_j38 {G : xG} {π : Nat → Nat} {d C Z : Nat} {Q : xQ} (σ : xM) (l0 : Nat) (l1 : Int32) (s0 : Int32) (s1 : Int32) (s2 : Nat) {x : xM} (hf : f_X12_setInt_j38 σ l0 l1 s0 s1 s2 = some x) (hR : ∀ g, x = g → Q (.inl none) (g) π) : xMach G π J_X12_setInt (d + 2) C Z 38 [(0, .ref l0), (1, .int l1)] [.int s0, .int s1, .ref s2] σ Q := by
  unfold f_X12_setInt_j38 at hf
  refine xb_if hf (fun hb hf => ?_) (fun _ q => nomatch q)
  obtain ⟨p3, ep3, hf⟩ := xbind hf
  refine xb_callV (As := [.int s1, .int s0]) (v0 := none) (τ0 := p3) dX12_setInt_38 (xc_X12_put _ _) xcl12 xw_1824 xw_1826 xs_85 hb rfl (Nat.le_of_ble_eq_true rfl) rfl (Nat.le_of_ble_eq_true rfl) (fun Q1 hq => m_X12_put (d := d + 0) ep3 (fun g hg => by subst hg; exact hq)) ?_
  refine xm_aload_n dX12_setInt_41 rfl ?_
  refine xm_iload_n dX12_setInt_42 rfl ?_
  refine xm_iconst dX12_setInt_43 (v := 0) (by decide) ?_
  refine xm_iconst dX12_setInt_44 (v := 1) (by decide) ?_
  refine xb_if hf (fun hb hf => ?_) (fun _ q => nomatch q)
  obtain ⟨p4, ep4, hf⟩ := xbind hf
  refine xb_callV (As := [.int l1, .int (0 : Int32), .int (1 : Int32)]) (v0 := none) (τ0 := p4) dX12_setInt_45 (xc_X12_hold _ _) xcl12 xw_1833 xw_1835 xs_87 hb rfl (Nat.le_of_ble_eq_true rfl) rfl (Nat.le_of_ble_eq_true rfl) (fun Q1 hq => m_X12_hold (d := d + 1) ep4 (fun g hg => by subst hg; exact hq)) ?_
  refine xm_aload_n dX12_setInt_48 rfl ?_
  refine xm_iconst dX12_setInt_49 (v := 0) (by decide) ?_
  refine xm_iconst dX12_setInt_50 (v := 1) (by decide) ?_
  refine xb_if hf (fun hb hf => ?_) (fun _ q => nomatch q)
  obtain ⟨p5, ep5, hf⟩ := xbind hf
  refine xb_callV (As := [.int (0 : Int32), .int (1 : Int32)]) (v0 := none) (τ0 := p5) dX12_setInt_51 (xc_X12_put _ _) xcl12 xw_1824 xw_1826 xs_85 hb rfl (Nat.le_of_ble_eq_true rfl) rfl (Nat.le_of_ble_eq_true rfl) (fun Q1 hq => m_X12_put (d := d + 0) ep5 (fun g hg => by subst hg; exact hq)) ?_
  refine xm_aload_n dX12_setInt_54 rfl ?_
  refine xm_iload_n dX12_setInt_55 rfl ?_
  refine xm_iconst dX12_setInt_56 (v := 0) (by decide) ?_
  refine xm_bipush dX12_setInt_57 (v := 14) (by decide) ?_
  refine xb_if hf (fun hb hf => ?_) (fun _ q => nomatch q)
  obtain ⟨p6, ep6, hf⟩ := xbind hf
  refine xb_callV (As := [.int l1, .int (0 : Int32), .int (14 : Int32)]) (v0 := none) (τ0 := p6) dX12_setInt_59 (xc_X12_hold _ _) xcl12 xw_1833 xw_1835 xs_87 hb rfl (Nat.le_of_ble_eq_true rfl) rfl (Nat.le_of_ble_eq_true rfl) (fun Q1 hq => m_X12_hold (d := d + 1) ep6 (fun g hg => by subst hg; exact hq)) ?_
  cases hf
  exact xm_vret dX12_setInt_62 rfl (hR _ rfl)
def f_X12_setInt_j25 (σ : xM) (l0 : Nat) (l1 : Int32) (l2 : Int32) (s0 : Int32) (s1 : Int32) (s2 : Nat) : Option xM :=
  (wI σ s2 s1 s0).bind (fun σ2 => (if (0 : Int32) ≤ l2 then f_X12_setInt_j38 σ2 l0 l1 l2 (0 : Int32) l0 else f_X12_setInt_j38 σ2 l0 l1 (-l2) (0 : Int32) l0))
set_option maxHeartbeats 4000000 in
set_option maxRecDepth 20000 in
theorem L_X12_setInt_j25 {G : xG} {π : Nat → Nat} {d C Z : Nat} {Q : xQ} (σ : xM) (l0 : Nat) (l1 : Int32) (l2 : Int32) (s0 : Int32) (s1 : Int32) (s2 : Nat) {x : xM} (hf : f_X12_setInt_j25 σ l0 l1 l2 s0 s1 s2 = some x) (hR : ∀ g, x = g → Q (.inl none) (g) π) : xMach G π J_X12_setInt (d + 2) C Z 25 [(0, .ref l0), (1, .int l1), (2, .int l2)] [.int s0, .int s1, .ref s2] σ Q := by
  unfold f_X12_setInt_j25 at hf
  refine xb_iast dX12_setInt_25 hf (fun σ2 eσ2 hf => ?_)
  refine xm_aload_n dX12_setInt_26 rfl ?_
  refine xm_iconst dX12_setInt_27 (v := 0) (by decide) ?_
  refine xm_iload_n dX12_setInt_28 rfl ?_
  refine xb_if_ge 37 dX12_setInt_29 (by decide) hf (fun c hf => ?_) (fun c hf => ?_)
  · refine xm_iload_n dX12_setInt_37 rfl ?_
    exact xm_sub [0, 1] rfl (L_X12_setInt_j38 σ2 l0 l1 l2 (0 : Int32) l0 hf hR)
  · refine xm_iload_n dX12_setInt_32 rfl ?_
    refine xm_ineg dX12_setInt_33 ?_
    refine xm_goto 38 dX12_setInt_34 (by decide) ?_
    exact xm_sub [0, 1] rfl (L_X12_setInt_j38 σ2 l0 l1 (-l2) (0 : Int32) l0 hf hR)
def f_X12_setInt (σ : xM) (l0 : Nat) (l1 : Int32) (l2 : Int32) : Option xM :=
  (gR σ l0 12 3).bind (fun x1 => (if l2 ≤ (0 : Int32) then (if (0 : Int32) ≤ l2 then f_X12_setInt_j25 σ l0 l1 l2 (0 : Int32) ((28 : Int32) * l1) x1 else f_X12_setInt_j25 σ l0 l1 l2 (-1 : Int32) ((28 : Int32) * l1) x1) else f_X12_setInt_j25 σ l0 l1 l2 (1 : Int32) ((28 : Int32) * l1) x1))
set_option maxHeartbeats 4000000 in
set_option maxRecDepth 20000 in
theorem m_X12_setInt {G : xG} {π : Nat → Nat} {d C Z : Nat} {Q : xQ} {σ : xM} {l0 : Nat} {l1 : Int32} {l2 : Int32} {x : xM} (hf : f_X12_setInt σ l0 l1 l2 = some x) (hR : ∀ g, x = g → Q (.inl none) (g) π) : xMach G π J_X12_setInt (d + 2) C Z 0 (lv_args 0 [.ref l0, .int l1, .int l2]) [] σ Q := by
  unfold f_X12_setInt at hf
  refine xm_stL (L' := [(0, .ref l0), (1, .int l1), (2, .int l2)]) rfl ?_
  refine xm_aload_n dX12_setInt_0 rfl ?_
  refine xb_getR (a := l0) (c := 12) (k := 3) dX12_setInt_1 xcl12 (by decide) xw_1840 rfl hf (fun x1 ex1 hf => ?_)
  refine xm_bipush dX12_setInt_4 (v := 28) (by decide) ?_
  refine xm_iload_n dX12_setInt_6 rfl ?_
  refine xm_imul dX12_setInt_7 ?_
  refine xm_iload_n dX12_setInt_8 rfl ?_
  refine xb_if_le 16 dX12_setInt_9 (by decide) hf (fun c hf => ?_) (fun c hf => ?_)
  · refine xm_iload_n dX12_setInt_16 rfl ?_
    refine xb_if_ge 24 dX12_setInt_17 (by decide) hf (fun c hf => ?_) (fun c hf => ?_)
    · refine xm_iconst dX12_setInt_24 (v := 0) (by decide) ?_
      exact xm_sub [0, 1, 2] rfl (L_X12_setInt_j25 σ l0 l1 l2 (0 : Int32) ((28 : Int32) * l1) x1 hf hR)
    · refine xm_iconst dX12_setInt_20 (v := -1) (by decide) ?_
      refine xm_goto 25 dX12_setInt_21 (by decide) ?_
      exact xm_sub [0, 1, 2] rfl (L_X12_setInt_j25 σ l0 l1 l2 (-1 : Int32) ((28 : Int32) * l1) x1 hf hR)
  · refine xm_iconst dX12_setInt_12 (v := 1) (by decide) ?_
    refine xm_goto 25 dX12_setInt_13 (by decide) ?_
    exact xm_sub [0, 1, 2] rfl (L_X12_setInt_j25 σ l0 l1 l2 (1 : Int32) ((28 : Int32) * l1) x1 hf hR)
-- RankwiseModel.lowest(II)V
def f_X12_lowest_j105 (σ : xM)  : Option xM :=
  some σ
set_option maxHeartbeats 4000000 in
set_option maxRecDepth 20000 in
theorem L_X12_lowest_j105 {G : xG} {π : Nat → Nat} {d C Z : Nat} {Q : xQ} (σ : xM)  {x : xM} (hf : f_X12_lowest_j105 σ = some x) (hR : ∀ g, x = g → Q (.inl none) (g) π) : xMach G π J_X12_lowest (d + 3) C Z 105 [] [] σ Q := by
  unfold f_X12_lowest_j105 at hf
  cases hf
  exact xm_vret dX12_lowest_105 rfl (hR _ rfl)
def f_X12_lowest_j61 (σ : xM) (l0 : Nat) (l1 : Int32) (l2 : Int32) : Option xM :=
  (if xk σ l0 12 = true then (f_X12_copy σ l0 (13 : Int32) (12 : Int32)).bind (fun p8 => (if xk p8 l0 12 = true then (f_X12_divide p8 l0 (14 : Int32) (15 : Int32) l1 (13 : Int32)).bind (fun p9 => (if xk p9 l0 12 = true then (f_X12_copy p9 l0 l1 (14 : Int32)).bind (fun p10 => (if xk p10 l0 12 = true then (f_X12_divide p10 l0 (14 : Int32) (15 : Int32) l2 (13 : Int32)).bind (fun p11 => (if xk p11 l0 12 = true then (f_X12_copy p11 l0 l2 (14 : Int32)).bind (fun p12 => f_X12_lowest_j105 p12) else none)) else none)) else none)) else none)) else none)
set_option maxHeartbeats 4000000 in
set_option maxRecDepth 20000 in
theorem L_X12_lowest_j61 {G : xG} {π : Nat → Nat} {d C Z : Nat} {Q : xQ} (σ : xM) (l0 : Nat) (l1 : Int32) (l2 : Int32) {x : xM} (hf : f_X12_lowest_j61 σ l0 l1 l2 = some x) (hR : ∀ g, x = g → Q (.inl none) (g) π) : xMach G π J_X12_lowest (d + 3) C Z 61 [(0, .ref l0), (1, .int l1), (2, .int l2)] [] σ Q := by
  unfold f_X12_lowest_j61 at hf
  refine xm_aload_n dX12_lowest_61 rfl ?_
  refine xm_bipush dX12_lowest_62 (v := 13) (by decide) ?_
  refine xm_bipush dX12_lowest_64 (v := 12) (by decide) ?_
  refine xb_if hf (fun hb hf => ?_) (fun _ q => nomatch q)
  obtain ⟨p8, ep8, hf⟩ := xbind hf
  refine xb_callV (As := [.int (13 : Int32), .int (12 : Int32)]) (v0 := none) (τ0 := p8) dX12_lowest_66 (xc_X12_copy _ _) xcl12 xw_2424 xw_2426 xs_150 hb rfl (Nat.le_of_ble_eq_true rfl) rfl (Nat.le_of_ble_eq_true rfl) (fun Q1 hq => m_X12_copy (d := d + 2) ep8 (fun g hg => by subst hg; exact hq)) ?_
  refine xm_aload_n dX12_lowest_69 rfl ?_
  refine xm_bipush dX12_lowest_70 (v := 14) (by decide) ?_
  refine xm_bipush dX12_lowest_72 (v := 15) (by decide) ?_
  refine xm_iload_n dX12_lowest_74 rfl ?_
  refine xm_bipush dX12_lowest_75 (v := 13) (by decide) ?_
  refine xb_if hf (fun hb hf => ?_) (fun _ q => nomatch q)
  obtain ⟨p9, ep9, hf⟩ := xbind hf
  refine xb_callV (As := [.int (14 : Int32), .int (15 : Int32), .int l1, .int (13 : Int32)]) (v0 := none) (τ0 := p9) dX12_lowest_77 (xc_X12_divide _ _) xcl12 xw_2464 xw_2466 xs_160 hb rfl (Nat.le_of_ble_eq_true rfl) rfl (Nat.le_of_ble_eq_true rfl) (fun Q1 hq => m_X12_divide (d := d + 0) ep9 (fun g hg => by subst hg; exact hq)) ?_
  refine xm_aload_n dX12_lowest_80 rfl ?_
  refine xm_iload_n dX12_lowest_81 rfl ?_
  refine xm_bipush dX12_lowest_82 (v := 14) (by decide) ?_
  refine xb_if hf (fun hb hf => ?_) (fun _ q => nomatch q)
  obtain ⟨p10, ep10, hf⟩ := xbind hf
  refine xb_callV (As := [.int l1, .int (14 : Int32)]) (v0 := none) (τ0 := p10) dX12_lowest_84 (xc_X12_copy _ _) xcl12 xw_2424 xw_2426 xs_150 hb rfl (Nat.le_of_ble_eq_true rfl) rfl (Nat.le_of_ble_eq_true rfl) (fun Q1 hq => m_X12_copy (d := d + 2) ep10 (fun g hg => by subst hg; exact hq)) ?_
  refine xm_aload_n dX12_lowest_87 rfl ?_
  refine xm_bipush dX12_lowest_88 (v := 14) (by decide) ?_
  refine xm_bipush dX12_lowest_90 (v := 15) (by decide) ?_
  refine xm_iload_n dX12_lowest_92 rfl ?_
  refine xm_bipush dX12_lowest_93 (v := 13) (by decide) ?_
  refine xb_if hf (fun hb hf => ?_) (fun _ q => nomatch q)
  obtain ⟨p11, ep11, hf⟩ := xbind hf
  refine xb_callV (As := [.int (14 : Int32), .int (15 : Int32), .int l2, .int (13 : Int32)]) (v0 := none) (τ0 := p11) dX12_lowest_95 (xc_X12_divide _ _) xcl12 xw_2464 xw_2466 xs_160 hb rfl (Nat.le_of_ble_eq_true rfl) rfl (Nat.le_of_ble_eq_true rfl) (fun Q1 hq => m_X12_divide (d := d + 0) ep11 (fun g hg => by subst hg; exact hq)) ?_
  refine xm_aload_n dX12_lowest_98 rfl ?_
  refine xm_iload_n dX12_lowest_99 rfl ?_
  refine xm_bipush dX12_lowest_100 (v := 14) (by decide) ?_
  refine xb_if hf (fun hb hf => ?_) (fun _ q => nomatch q)
  obtain ⟨p12, ep12, hf⟩ := xbind hf
  refine xb_callV (As := [.int l2, .int (14 : Int32)]) (v0 := none) (τ0 := p12) dX12_lowest_102 (xc_X12_copy _ _) xcl12 xw_2424 xw_2426 xs_150 hb rfl (Nat.le_of_ble_eq_true rfl) rfl (Nat.le_of_ble_eq_true rfl) (fun Q1 hq => m_X12_copy (d := d + 2) ep12 (fun g hg => by subst hg; exact hq)) ?_
  exact xm_sub [] rfl (L_X12_lowest_j105 p12 hf hR)
def f_X12_lowest (σ : xM) (l0 : Nat) (l1 : Int32) (l2 : Int32) : Option xM :=
  (gR σ l0 12 2).bind (fun x1 => (aI σ x1 14 l1).bind (fun x2 => (if x2 = (0 : Int32) then (if xk σ l0 12 = true then (f_X12_put σ l0 l2 (1 : Int32)).bind (fun p15 => some p15) else none) else (if xk σ l0 12 = true then (f_X12_copy σ l0 (12 : Int32) l1).bind (fun p3 => (if xk p3 l0 12 = true then (f_X12_copy p3 l0 (13 : Int32) l2).bind (fun p4 => (if xk p4 l0 12 = true then (f_X12_common p4 l0 (12 : Int32) (13 : Int32)).bind (fun p5 => (gR p5 l0 12 2).bind (fun x6 => (aI p5 x6 14 (12 : Int32)).bind (fun x7 => (if (1 : Int32) < x7 then f_X12_lowest_j61 p5 l0 l1 l2 else (gR p5 l0 12 1).bind (fun x13 => (aI p5 x13 14 (5280 : Int32)).bind (fun x14 => (if x14 ≤ (1 : Int32) then f_X12_lowest_j105 p5 else f_X12_lowest_j61 p5 l0 l1 l2))))))) else none)) else none)) else none))))
set_option maxHeartbeats 4000000 in
set_option maxRecDepth 20000 in
theorem m_X12_lowest {G : xG} {π : Nat → Nat} {d C Z : Nat} {Q : xQ} {σ : xM} {l0 : Nat} {l1 : Int32} {l2 : Int32} {x : xM} (hf : f_X12_lowest σ l0 l1 l2 = some x) (hR : ∀ g, x = g → Q (.inl none) (g) π) : xMach G π J_X12_lowest (d + 3) C Z 0 (lv_args 0 [.ref l0, .int l1, .int l2]) [] σ Q := by
  unfold f_X12_lowest at hf
  refine xm_stL (L' := [(0, .ref l0), (1, .int l1), (2, .int l2)]) rfl ?_
  refine xm_aload_n dX12_lowest_0 rfl ?_
  refine xb_getR (a := l0) (c := 12) (k := 2) dX12_lowest_1 xcl12 (by decide) xw_1839 rfl hf (fun x1 ex1 hf => ?_)
  refine xm_iload_n dX12_lowest_4 rfl ?_
  refine xb_iald dX12_lowest_5 hf (fun x2 ex2 hf => ?_)
  refine xb_if_ne 16 dX12_lowest_6 (by decide) hf (fun c hf => ?_) (fun c hf => ?_)
  · refine xm_aload_n dX12_lowest_16 rfl ?_
    refine xm_bipush dX12_lowest_17 (v := 12) (by decide) ?_
    refine xm_iload_n dX12_lowest_19 rfl ?_
    refine xb_if hf (fun hb hf => ?_) (fun _ q => nomatch q)
    obtain ⟨p3, ep3, hf⟩ := xbind hf
    refine xb_callV (As := [.int (12 : Int32), .int l1]) (v0 := none) (τ0 := p3) dX12_lowest_20 (xc_X12_copy _ _) xcl12 xw_2424 xw_2426 xs_150 hb rfl (Nat.le_of_ble_eq_true rfl) rfl (Nat.le_of_ble_eq_true rfl) (fun Q1 hq => m_X12_copy (d := d + 2) ep3 (fun g hg => by subst hg; exact hq)) ?_
    refine xm_aload_n dX12_lowest_23 rfl ?_
    refine xm_bipush dX12_lowest_24 (v := 13) (by decide) ?_
    refine xm_iload_n dX12_lowest_26 rfl ?_
    refine xb_if hf (fun hb hf => ?_) (fun _ q => nomatch q)
    obtain ⟨p4, ep4, hf⟩ := xbind hf
    refine xb_callV (As := [.int (13 : Int32), .int l2]) (v0 := none) (τ0 := p4) dX12_lowest_27 (xc_X12_copy _ _) xcl12 xw_2424 xw_2426 xs_150 hb rfl (Nat.le_of_ble_eq_true rfl) rfl (Nat.le_of_ble_eq_true rfl) (fun Q1 hq => m_X12_copy (d := d + 2) ep4 (fun g hg => by subst hg; exact hq)) ?_
    refine xm_aload_n dX12_lowest_30 rfl ?_
    refine xm_bipush dX12_lowest_31 (v := 12) (by decide) ?_
    refine xm_bipush dX12_lowest_33 (v := 13) (by decide) ?_
    refine xb_if hf (fun hb hf => ?_) (fun _ q => nomatch q)
    obtain ⟨p5, ep5, hf⟩ := xbind hf
    refine xb_callV (As := [.int (12 : Int32), .int (13 : Int32)]) (v0 := none) (τ0 := p5) dX12_lowest_35 (xc_X12_common _ _) xcl12 xw_2448 xw_2450 xs_156 hb rfl (Nat.le_of_ble_eq_true rfl) rfl (Nat.le_of_ble_eq_true rfl) (fun Q1 hq => m_X12_common (d := d + 0) ep5 (fun g hg => by subst hg; exact hq)) ?_
    refine xm_aload_n dX12_lowest_38 rfl ?_
    refine xb_getR (a := l0) (c := 12) (k := 2) dX12_lowest_39 xcl12 (by decide) xw_1839 rfl hf (fun x6 ex6 hf => ?_)
    refine xm_bipush dX12_lowest_42 (v := 12) (by decide) ?_
    refine xb_iald dX12_lowest_44 hf (fun x7 ex7 hf => ?_)
    refine xm_iconst dX12_lowest_45 (v := 1) (by decide) ?_
    refine xb_icmp_gt 61 dX12_lowest_46 (by decide) hf (fun c hf => ?_) (fun c hf => ?_)
    · exact xm_sub [0, 1, 2] rfl (L_X12_lowest_j61 p5 l0 l1 l2 hf hR)
    · refine xm_aload_n dX12_lowest_49 rfl ?_
      refine xb_getR (a := l0) (c := 12) (k := 1) dX12_lowest_50 xcl12 (by decide) xw_1838 rfl hf (fun x13 ex13 hf => ?_)
      refine xm_sipush dX12_lowest_53 (v := 5280) (by decide) ?_
      refine xb_iald dX12_lowest_56 hf (fun x14 ex14 hf => ?_)
      refine xm_iconst dX12_lowest_57 (v := 1) (by decide) ?_
      refine xb_icmp_le 105 dX12_lowest_58 (by decide) hf (fun c hf => ?_) (fun c hf => ?_)
      · exact xm_sub [] rfl (L_X12_lowest_j105 p5 hf hR)
      · exact xm_sub [0, 1, 2] rfl (L_X12_lowest_j61 p5 l0 l1 l2 hf hR)
  · refine xm_aload_n dX12_lowest_9 rfl ?_
    refine xm_iload_n dX12_lowest_10 rfl ?_
    refine xm_iconst dX12_lowest_11 (v := 1) (by decide) ?_
    refine xb_if hf (fun hb hf => ?_) (fun _ q => nomatch q)
    obtain ⟨p15, ep15, hf⟩ := xbind hf
    refine xb_callV (As := [.int l2, .int (1 : Int32)]) (v0 := none) (τ0 := p15) dX12_lowest_12 (xc_X12_put _ _) xcl12 xw_1824 xw_1826 xs_85 hb rfl (Nat.le_of_ble_eq_true rfl) rfl (Nat.le_of_ble_eq_true rfl) (fun Q1 hq => m_X12_put (d := d + 1) ep15 (fun g hg => by subst hg; exact hq)) ?_
    cases hf
    exact xm_vret dX12_lowest_15 rfl (hR _ rfl)
-- RankwiseModel.store(II)Z
def f_X12_store_j28 (σ : xM)  : Option (Int32 × xM) :=
  some ((0 : Int32), σ)
set_option maxHeartbeats 4000000 in
set_option maxRecDepth 20000 in
theorem L_X12_store_j28 {G : xG} {π : Nat → Nat} {d C Z : Nat} {Q : xQ} (σ : xM)  {x : (Int32 × xM)} (hf : f_X12_store_j28 σ = some x) (hR : ∀ g, x = g → Q (.inl (some (.int g.1))) (g.2) π) : xMach G π J_X12_store (d + 4) C Z 28 [] [] σ Q := by
  unfold f_X12_store_j28 at hf
  refine xm_iconst dX12_store_28 (v := 0) (by decide) ?_
  cases hf
  exact xm_zret dX12_store_29 rfl rfl (hR _ rfl)
def f_X12_store_j52 (σ : xM) (l0 : Nat) (l1 : Int32) (s0 : Int32) (s1 : Int32) (s2 : Nat) : Option (Int32 × xM) :=
  (wI σ s2 s1 s0).bind (fun σ7 => (if xk σ7 l0 12 = true then (f_X12_hold σ7 l0 l1 (0 : Int32) (1 : Int32)).bind (fun p8 => (if xk p8 l0 12 = true then (f_X12_hold p8 l0 l1 (1 : Int32) (14 : Int32)).bind (fun p9 => some ((1 : Int32), p9)) else none)) else none))
set_option maxHeartbeats 4000000 in
set_option maxRecDepth 20000 in
theorem L_X12_store_j52 {G : xG} {π : Nat → Nat} {d C Z : Nat} {Q : xQ} (σ : xM) (l0 : Nat) (l1 : Int32) (s0 : Int32) (s1 : Int32) (s2 : Nat) {x : (Int32 × xM)} (hf : f_X12_store_j52 σ l0 l1 s0 s1 s2 = some x) (hR : ∀ g, x = g → Q (.inl (some (.int g.1))) (g.2) π) : xMach G π J_X12_store (d + 4) C Z 52 [(0, .ref l0), (1, .int l1)] [.int s0, .int s1, .ref s2] σ Q := by
  unfold f_X12_store_j52 at hf
  refine xb_iast dX12_store_52 hf (fun σ7 eσ7 hf => ?_)
  refine xm_aload_n dX12_store_53 rfl ?_
  refine xm_iload_n dX12_store_54 rfl ?_
  refine xm_iconst dX12_store_55 (v := 0) (by decide) ?_
  refine xm_iconst dX12_store_56 (v := 1) (by decide) ?_
  refine xb_if hf (fun hb hf => ?_) (fun _ q => nomatch q)
  obtain ⟨p8, ep8, hf⟩ := xbind hf
  refine xb_callV (As := [.int l1, .int (0 : Int32), .int (1 : Int32)]) (v0 := none) (τ0 := p8) dX12_store_57 (xc_X12_hold _ _) xcl12 xw_1833 xw_1835 xs_87 hb rfl (Nat.le_of_ble_eq_true rfl) rfl (Nat.le_of_ble_eq_true rfl) (fun Q1 hq => m_X12_hold (d := d + 3) ep8 (fun g hg => by subst hg; exact hq)) ?_
  refine xm_aload_n dX12_store_60 rfl ?_
  refine xm_iload_n dX12_store_61 rfl ?_
  refine xm_iconst dX12_store_62 (v := 1) (by decide) ?_
  refine xm_bipush dX12_store_63 (v := 14) (by decide) ?_
  refine xb_if hf (fun hb hf => ?_) (fun _ q => nomatch q)
  obtain ⟨p9, ep9, hf⟩ := xbind hf
  refine xb_callV (As := [.int l1, .int (1 : Int32), .int (14 : Int32)]) (v0 := none) (τ0 := p9) dX12_store_65 (xc_X12_hold _ _) xcl12 xw_1833 xw_1835 xs_87 hb rfl (Nat.le_of_ble_eq_true rfl) rfl (Nat.le_of_ble_eq_true rfl) (fun Q1 hq => m_X12_hold (d := d + 3) ep9 (fun g hg => by subst hg; exact hq)) ?_
  refine xm_iconst dX12_store_68 (v := 1) (by decide) ?_
  cases hf
  exact xm_zret dX12_store_69 rfl rfl (hR _ rfl)
def f_X12_store (σ : xM) (l0 : Nat) (l1 : Int32) (l2 : Int32) : Option (Int32 × xM) :=
  (if xk σ l0 12 = true then (f_X12_lowest σ l0 (0 : Int32) (1 : Int32)).bind (fun p1 => (if xk p1 l0 12 = true then (f_X12_bits p1 l0 (0 : Int32)).bind (fun p2 => (if (200 : Int32) < p2 then f_X12_store_j28 p1 else (if xk p1 l0 12 = true then (f_X12_bits p1 l0 (1 : Int32)).bind (fun p3 => (if p3 ≤ (200 : Int32) then (gR p1 l0 12 3).bind (fun x4 => (gR p1 l0 12 2).bind (fun x5 => (aI p1 x5 14 (0 : Int32)).bind (fun x6 => (if x6 = (0 : Int32) then f_X12_store_j52 p1 l0 l1 (0 : Int32) ((28 : Int32) * l1) x4 else f_X12_store_j52 p1 l0 l1 l2 ((28 : Int32) * l1) x4)))) else f_X12_store_j28 p1)) else none))) else none)) else none)
set_option maxHeartbeats 4000000 in
set_option maxRecDepth 20000 in
theorem m_X12_store {G : xG} {π : Nat → Nat} {d C Z : Nat} {Q : xQ} {σ : xM} {l0 : Nat} {l1 : Int32} {l2 : Int32} {x : (Int32 × xM)} (hf : f_X12_store σ l0 l1 l2 = some x) (hR : ∀ g, x = g → Q (.inl (some (.int g.1))) (g.2) π) : xMach G π J_X12_store (d + 4) C Z 0 (lv_args 0 [.ref l0, .int l1, .int l2]) [] σ Q := by
  unfold f_X12_store at hf
  refine xm_stL (L' := [(0, .ref l0), (1, .int l1), (2, .int l2)]) rfl ?_
  refine xm_aload_n dX12_store_0 rfl ?_
  refine xm_iconst dX12_store_1 (v := 0) (by decide) ?_
  refine xm_iconst dX12_store_2 (v := 1) (by decide) ?_
  refine xb_if hf (fun hb hf => ?_) (fun _ q => nomatch q)
  obtain ⟨p1, ep1, hf⟩ := xbind hf
  refine xb_callV (As := [.int (0 : Int32), .int (1 : Int32)]) (v0 := none) (τ0 := p1) dX12_store_3 (xc_X12_lowest _ _) xcl12 xw_2444 xw_2446 xs_155 hb rfl (Nat.le_of_ble_eq_true rfl) rfl (Nat.le_of_ble_eq_true rfl) (fun Q1 hq => m_X12_lowest (d := d + 0) ep1 (fun g hg => by subst hg; exact hq)) ?_
  refine xm_aload_n dX12_store_6 rfl ?_
  refine xm_iconst dX12_store_7 (v := 0) (by decide) ?_
  refine xb_if hf (fun hb hf => ?_) (fun _ q => nomatch q)
  obtain ⟨p2, ep2, hf⟩ := xbind hf
  refine xb_callV (As := [.int (0 : Int32)]) (v0 := (some (.int p2))) (τ0 := p1) dX12_store_8 (xc_X12_bits _ _) xcl12 xw_2468 xw_2470 xs_161 hb rfl (Nat.le_of_ble_eq_true rfl) rfl (Nat.le_of_ble_eq_true rfl) (fun Q1 hq => m_X12_bits (d := d + 3) ep2 (fun g hg => by subst hg; exact hq)) ?_
  refine xm_sipush dX12_store_11 (v := 200) (by decide) ?_
  refine xb_icmp_gt 28 dX12_store_14 (by decide) hf (fun c hf => ?_) (fun c hf => ?_)
  · exact xm_sub [] rfl (L_X12_store_j28 p1 hf hR)
  · refine xm_aload_n dX12_store_17 rfl ?_
    refine xm_iconst dX12_store_18 (v := 1) (by decide) ?_
    refine xb_if hf (fun hb hf => ?_) (fun _ q => nomatch q)
    obtain ⟨p3, ep3, hf⟩ := xbind hf
    refine xb_callV (As := [.int (1 : Int32)]) (v0 := (some (.int p3))) (τ0 := p1) dX12_store_19 (xc_X12_bits _ _) xcl12 xw_2468 xw_2470 xs_161 hb rfl (Nat.le_of_ble_eq_true rfl) rfl (Nat.le_of_ble_eq_true rfl) (fun Q1 hq => m_X12_bits (d := d + 3) ep3 (fun g hg => by subst hg; exact hq)) ?_
    refine xm_sipush dX12_store_22 (v := 200) (by decide) ?_
    refine xb_icmp_le 30 dX12_store_25 (by decide) hf (fun c hf => ?_) (fun c hf => ?_)
    · refine xm_aload_n dX12_store_30 rfl ?_
      refine xb_getR (a := l0) (c := 12) (k := 3) dX12_store_31 xcl12 (by decide) xw_1840 rfl hf (fun x4 ex4 hf => ?_)
      refine xm_bipush dX12_store_34 (v := 28) (by decide) ?_
      refine xm_iload_n dX12_store_36 rfl ?_
      refine xm_imul dX12_store_37 ?_
      refine xm_aload_n dX12_store_38 rfl ?_
      refine xb_getR (a := l0) (c := 12) (k := 2) dX12_store_39 xcl12 (by decide) xw_1839 rfl hf (fun x5 ex5 hf => ?_)
      refine xm_iconst dX12_store_42 (v := 0) (by decide) ?_
      refine xb_iald dX12_store_43 hf (fun x6 ex6 hf => ?_)
      refine xb_if_ne 51 dX12_store_44 (by decide) hf (fun c hf => ?_) (fun c hf => ?_)
      · refine xm_iload_n dX12_store_51 rfl ?_
        exact xm_sub [0, 1] rfl (L_X12_store_j52 p1 l0 l1 l2 ((28 : Int32) * l1) x4 hf hR)
      · refine xm_iconst dX12_store_47 (v := 0) (by decide) ?_
        refine xm_goto 52 dX12_store_48 (by decide) ?_
        exact xm_sub [0, 1] rfl (L_X12_store_j52 p1 l0 l1 (0 : Int32) ((28 : Int32) * l1) x4 hf hR)
    · exact xm_sub [] rfl (L_X12_store_j28 p1 hf hR)
-- RankwiseModel.signed(IIII)I
def f_X12_signed_j28 (σ : xM) (s0 : Int32) : Option (Int32 × xM) :=
  some (s0, σ)
set_option maxHeartbeats 4000000 in
set_option maxRecDepth 20000 in
theorem L_X12_signed_j28 {G : xG} {π : Nat → Nat} {d C Z : Nat} {Q : xQ} (σ : xM) (s0 : Int32) {x : (Int32 × xM)} (hf : f_X12_signed_j28 σ s0 = some x) (hR : ∀ g, x = g → Q (.inl (some (.int g.1))) (g.2) π) : xMach G π J_X12_signed (d + 2) C Z 28 [] [.int s0] σ Q := by
  unfold f_X12_signed_j28 at hf
  cases hf
  exact xm_iret dX12_signed_28 rfl (hR _ rfl)
def f_X12_signed_j14 (σ : xM) (l0 : Nat) (l1 : Int32) (l2 : Int32) : Option (Int32 × xM) :=
  (gR σ l0 12 2).bind (fun x1 => (aI σ x1 14 l1).bind (fun x2 => (if x2 = (0 : Int32) then f_X12_signed_j28 σ (0 : Int32) else f_X12_signed_j28 σ l2)))
set_option maxHeartbeats 4000000 in
set_option maxRecDepth 20000 in
theorem L_X12_signed_j14 {G : xG} {π : Nat → Nat} {d C Z : Nat} {Q : xQ} (σ : xM) (l0 : Nat) (l1 : Int32) (l2 : Int32) {x : (Int32 × xM)} (hf : f_X12_signed_j14 σ l0 l1 l2 = some x) (hR : ∀ g, x = g → Q (.inl (some (.int g.1))) (g.2) π) : xMach G π J_X12_signed (d + 2) C Z 14 [(0, .ref l0), (1, .int l1), (2, .int l2)] [] σ Q := by
  unfold f_X12_signed_j14 at hf
  refine xm_aload_n dX12_signed_14 rfl ?_
  refine xb_getR (a := l0) (c := 12) (k := 2) dX12_signed_15 xcl12 (by decide) xw_1839 rfl hf (fun x1 ex1 hf => ?_)
  refine xm_iload_n dX12_signed_18 rfl ?_
  refine xb_iald dX12_signed_19 hf (fun x2 ex2 hf => ?_)
  refine xb_if_ne 27 dX12_signed_20 (by decide) hf (fun c hf => ?_) (fun c hf => ?_)
  · refine xm_iload_n dX12_signed_27 rfl ?_
    exact xm_sub [] rfl (L_X12_signed_j28 σ l2 hf hR)
  · refine xm_iconst dX12_signed_23 (v := 0) (by decide) ?_
    refine xm_goto 28 dX12_signed_24 (by decide) ?_
    exact xm_sub [] rfl (L_X12_signed_j28 σ (0 : Int32) hf hR)
def f_X12_signed_j42 (σ : xM) (l0 : Nat) (l1 : Int32) (l3 : Int32) (l4 : Int32) : Option (Int32 × xM) :=
  (if xk σ l0 12 = true then (f_X12_copy σ l0 l1 l3).bind (fun p5 => some (l4, p5)) else none)
set_option maxHeartbeats 4000000 in
set_option maxRecDepth 20000 in
theorem L_X12_signed_j42 {G : xG} {π : Nat → Nat} {d C Z : Nat} {Q : xQ} (σ : xM) (l0 : Nat) (l1 : Int32) (l3 : Int32) (l4 : Int32) {x : (Int32 × xM)} (hf : f_X12_signed_j42 σ l0 l1 l3 l4 = some x) (hR : ∀ g, x = g → Q (.inl (some (.int g.1))) (g.2) π) : xMach G π J_X12_signed (d + 2) C Z 42 [(0, .ref l0), (1, .int l1), (3, .int l3), (4, .int l4)] [] σ Q := by
  unfold f_X12_signed_j42 at hf
  refine xm_aload_n dX12_signed_42 rfl ?_
  refine xm_iload_n dX12_signed_43 rfl ?_
  refine xm_iload_n dX12_signed_44 rfl ?_
  refine xb_if hf (fun hb hf => ?_) (fun _ q => nomatch q)
  obtain ⟨p5, ep5, hf⟩ := xbind hf
  refine xb_callV (As := [.int l1, .int l3]) (v0 := none) (τ0 := p5) dX12_signed_45 (xc_X12_copy _ _) xcl12 xw_2424 xw_2426 xs_150 hb rfl (Nat.le_of_ble_eq_true rfl) rfl (Nat.le_of_ble_eq_true rfl) (fun Q1 hq => m_X12_copy (d := d + 1) ep5 (fun g hg => by subst hg; exact hq)) ?_
  refine xm_iload dX12_signed_48 rfl ?_
  cases hf
  exact xm_iret dX12_signed_50 rfl (hR _ rfl)
def f_X12_signed_j94 (σ : xM) (s0 : Int32) : Option (Int32 × xM) :=
  some (s0, σ)
set_option maxHeartbeats 4000000 in
set_option maxRecDepth 20000 in
theorem L_X12_signed_j94 {G : xG} {π : Nat → Nat} {d C Z : Nat} {Q : xQ} (σ : xM) (s0 : Int32) {x : (Int32 × xM)} (hf : f_X12_signed_j94 σ s0 = some x) (hR : ∀ g, x = g → Q (.inl (some (.int g.1))) (g.2) π) : xMach G π J_X12_signed (d + 2) C Z 94 [] [.int s0] σ Q := by
  unfold f_X12_signed_j94 at hf
  cases hf
  exact xm_iret dX12_signed_94 rfl (hR _ rfl)
def f_X12_signed (σ : xM) (l0 : Nat) (l1 : Int32) (l2 : Int32) (l3 : Int32) (l4 : Int32) : Option (Int32 × xM) :=
  (if l4 = (0 : Int32) then f_X12_signed_j14 σ l0 l1 l2 else (gR σ l0 12 2).bind (fun x3 => (aI σ x3 14 l3).bind (fun x4 => (if x4 = (0 : Int32) then f_X12_signed_j14 σ l0 l1 l2 else (if l2 = (0 : Int32) then f_X12_signed_j42 σ l0 l1 l3 l4 else (gR σ l0 12 2).bind (fun x6 => (aI σ x6 14 l1).bind (fun x7 => (if x7 = (0 : Int32) then f_X12_signed_j42 σ l0 l1 l3 l4 else (if l2 = l4 then (if xk σ l0 12 = true then (f_X12_plus σ l0 l1 l3).bind (fun p13 => some (l2, p13)) else none) else (if xk σ l0 12 = true then (f_X12_compare σ l0 l1 l3).bind (fun p8 => (if p8 < (0 : Int32) then (if xk σ l0 12 = true then (f_X12_copy σ l0 (11 : Int32) l3).bind (fun p9 => (if xk p9 l0 12 = true then (f_X12_minus p9 l0 (11 : Int32) l1).bind (fun p10 => (if xk p10 l0 12 = true then (f_X12_copy p10 l0 l1 (11 : Int32)).bind (fun p11 => some (l4, p11)) else none)) else none)) else none) else (if xk σ l0 12 = true then (f_X12_minus σ l0 l1 l3).bind (fun p12 => (if p8 = (0 : Int32) then f_X12_signed_j94 p12 (0 : Int32) else f_X12_signed_j94 p12 l2)) else none))) else none))))))))))
set_option maxHeartbeats 4000000 in
set_option maxRecDepth 20000 in
theorem m_X12_signed {G : xG} {π : Nat → Nat} {d C Z : Nat} {Q : xQ} {σ : xM} {l0 : Nat} {l1 : Int32} {l2 : Int32} {l3 : Int32} {l4 : Int32} {x : (Int32 × xM)} (hf : f_X12_signed σ l0 l1 l2 l3 l4 = some x) (hR : ∀ g, x = g → Q (.inl (some (.int g.1))) (g.2) π) : xMach G π J_X12_signed (d + 2) C Z 0 (lv_args 0 [.ref l0, .int l1, .int l2, .int l3, .int l4]) [] σ Q := by
  unfold f_X12_signed at hf
  refine xm_stL (L' := [(0, .ref l0), (1, .int l1), (2, .int l2), (3, .int l3), (4, .int l4)]) rfl ?_
  refine xm_iload dX12_signed_0 rfl ?_
  refine xb_if_eq 14 dX12_signed_2 (by decide) hf (fun c hf => ?_) (fun c hf => ?_)
  · exact xm_sub [0, 1, 2] rfl (L_X12_signed_j14 σ l0 l1 l2 hf hR)
  · refine xm_aload_n dX12_signed_5 rfl ?_
    refine xb_getR (a := l0) (c := 12) (k := 2) dX12_signed_6 xcl12 (by decide) xw_1839 rfl hf (fun x3 ex3 hf => ?_)
    refine xm_iload_n dX12_signed_9 rfl ?_
    refine xb_iald dX12_signed_10 hf (fun x4 ex4 hf => ?_)
    refine xb_if_ne 29 dX12_signed_11 (by decide) hf (fun c hf => ?_) (fun c hf => ?_)
    · refine xm_iload_n dX12_signed_29 rfl ?_
      refine xb_if_eq 42 dX12_signed_30 (by decide) hf (fun c hf => ?_) (fun c hf => ?_)
      · exact xm_sub [0, 1, 3, 4] rfl (L_X12_signed_j42 σ l0 l1 l3 l4 hf hR)
      · refine xm_aload_n dX12_signed_33 rfl ?_
        refine xb_getR (a := l0) (c := 12) (k := 2) dX12_signed_34 xcl12 (by decide) xw_1839 rfl hf (fun x6 ex6 hf => ?_)
        refine xm_iload_n dX12_signed_37 rfl ?_
        refine xb_iald dX12_signed_38 hf (fun x7 ex7 hf => ?_)
        refine xb_if_ne 51 dX12_signed_39 (by decide) hf (fun c hf => ?_) (fun c hf => ?_)
        · refine xm_iload_n dX12_signed_51 rfl ?_
          refine xm_iload dX12_signed_52 rfl ?_
          refine xb_icmp_ne 65 dX12_signed_54 (by decide) hf (fun c hf => ?_) (fun c hf => ?_)
          · refine xm_aload_n dX12_signed_65 rfl ?_
            refine xm_iload_n dX12_signed_66 rfl ?_
            refine xm_iload_n dX12_signed_67 rfl ?_
            refine xb_if hf (fun hb hf => ?_) (fun _ q => nomatch q)
            obtain ⟨p8, ep8, hf⟩ := xbind hf
            refine xb_callV (As := [.int l1, .int l3]) (v0 := (some (.int p8))) (τ0 := σ) dX12_signed_68 (xc_X12_compare _ _) xcl12 xw_2432 xw_2434 xs_152 hb rfl (Nat.le_of_ble_eq_true rfl) rfl (Nat.le_of_ble_eq_true rfl) (fun Q1 hq => m_X12_compare (d := d + 1) ep8 (fun g hg => by subst hg; exact hq)) ?_
            refine xm_istore dX12_signed_71 (by decide) (xm_stL (L' := [(5, .int p8), (0, .ref l0), (1, .int l1), (2, .int l2), (3, .int l3), (4, .int l4)]) rfl ?_)
            refine xm_iload dX12_signed_73 rfl ?_
            refine xb_if_lt 95 dX12_signed_75 (by decide) hf (fun c hf => ?_) (fun c hf => ?_)
            · refine xm_aload_n dX12_signed_95 rfl ?_
              refine xm_bipush dX12_signed_96 (v := 11) (by decide) ?_
              refine xm_iload_n dX12_signed_98 rfl ?_
              refine xb_if hf (fun hb hf => ?_) (fun _ q => nomatch q)
              obtain ⟨p9, ep9, hf⟩ := xbind hf
              refine xb_callV (As := [.int (11 : Int32), .int l3]) (v0 := none) (τ0 := p9) dX12_signed_99 (xc_X12_copy _ _) xcl12 xw_2424 xw_2426 xs_150 hb rfl (Nat.le_of_ble_eq_true rfl) rfl (Nat.le_of_ble_eq_true rfl) (fun Q1 hq => m_X12_copy (d := d + 1) ep9 (fun g hg => by subst hg; exact hq)) ?_
              refine xm_aload_n dX12_signed_102 rfl ?_
              refine xm_bipush dX12_signed_103 (v := 11) (by decide) ?_
              refine xm_iload_n dX12_signed_105 rfl ?_
              refine xb_if hf (fun hb hf => ?_) (fun _ q => nomatch q)
              obtain ⟨p10, ep10, hf⟩ := xbind hf
              refine xb_callV (As := [.int (11 : Int32), .int l1]) (v0 := none) (τ0 := p10) dX12_signed_106 (xc_X12_minus _ _) xcl12 xw_2436 xw_2438 xs_153 hb rfl (Nat.le_of_ble_eq_true rfl) rfl (Nat.le_of_ble_eq_true rfl) (fun Q1 hq => m_X12_minus (d := d + 0) ep10 (fun g hg => by subst hg; exact hq)) ?_
              refine xm_aload_n dX12_signed_109 rfl ?_
              refine xm_iload_n dX12_signed_110 rfl ?_
              refine xm_bipush dX12_signed_111 (v := 11) (by decide) ?_
              refine xb_if hf (fun hb hf => ?_) (fun _ q => nomatch q)
              obtain ⟨p11, ep11, hf⟩ := xbind hf
              refine xb_callV (As := [.int l1, .int (11 : Int32)]) (v0 := none) (τ0 := p11) dX12_signed_113 (xc_X12_copy _ _) xcl12 xw_2424 xw_2426 xs_150 hb rfl (Nat.le_of_ble_eq_true rfl) rfl (Nat.le_of_ble_eq_true rfl) (fun Q1 hq => m_X12_copy (d := d + 1) ep11 (fun g hg => by subst hg; exact hq)) ?_
              refine xm_iload dX12_signed_116 rfl ?_
              cases hf
              exact xm_iret dX12_signed_118 rfl (hR _ rfl)
            · refine xm_aload_n dX12_signed_78 rfl ?_
              refine xm_iload_n dX12_signed_79 rfl ?_
              refine xm_iload_n dX12_signed_80 rfl ?_
              refine xb_if hf (fun hb hf => ?_) (fun _ q => nomatch q)
              obtain ⟨p12, ep12, hf⟩ := xbind hf
              refine xb_callV (As := [.int l1, .int l3]) (v0 := none) (τ0 := p12) dX12_signed_81 (xc_X12_minus _ _) xcl12 xw_2436 xw_2438 xs_153 hb rfl (Nat.le_of_ble_eq_true rfl) rfl (Nat.le_of_ble_eq_true rfl) (fun Q1 hq => m_X12_minus (d := d + 0) ep12 (fun g hg => by subst hg; exact hq)) ?_
              refine xm_iload dX12_signed_84 rfl ?_
              refine xb_if_ne 93 dX12_signed_86 (by decide) hf (fun c hf => ?_) (fun c hf => ?_)
              · refine xm_iload_n dX12_signed_93 rfl ?_
                exact xm_sub [] rfl (L_X12_signed_j94 p12 l2 hf hR)
              · refine xm_iconst dX12_signed_89 (v := 0) (by decide) ?_
                refine xm_goto 94 dX12_signed_90 (by decide) ?_
                exact xm_sub [] rfl (L_X12_signed_j94 p12 (0 : Int32) hf hR)
          · refine xm_aload_n dX12_signed_57 rfl ?_
            refine xm_iload_n dX12_signed_58 rfl ?_
            refine xm_iload_n dX12_signed_59 rfl ?_
            refine xb_if hf (fun hb hf => ?_) (fun _ q => nomatch q)
            obtain ⟨p13, ep13, hf⟩ := xbind hf
            refine xb_callV (As := [.int l1, .int l3]) (v0 := none) (τ0 := p13) dX12_signed_60 (xc_X12_plus _ _) xcl12 xw_2428 xw_2430 xs_151 hb rfl (Nat.le_of_ble_eq_true rfl) rfl (Nat.le_of_ble_eq_true rfl) (fun Q1 hq => m_X12_plus (d := d + 1) ep13 (fun g hg => by subst hg; exact hq)) ?_
            refine xm_iload_n dX12_signed_63 rfl ?_
            cases hf
            exact xm_iret dX12_signed_64 rfl (hR _ rfl)
        · exact xm_sub [0, 1, 3, 4] rfl (L_X12_signed_j42 σ l0 l1 l3 l4 hf hR)
    · exact xm_sub [0, 1, 2] rfl (L_X12_signed_j14 σ l0 l1 l2 hf hR)
-- RankwiseModel.addValues(IIII)Z
def f_X12_addValues (σ : xM) (l0 : Nat) (l1 : Int32) (l2 : Int32) (l3 : Int32) (l4 : Int32) : Option (Int32 × xM) :=
  (if xk σ l0 12 = true then (f_X12_loadNumerator σ l0 (2 : Int32) l2).bind (fun p1 => (if xk p1 l0 12 = true then (f_X12_loadDenominator p1 l0 (3 : Int32) l2).bind (fun p2 => (if xk p2 l0 12 = true then (f_X12_loadNumerator p2 l0 (4 : Int32) l3).bind (fun p3 => (if xk p3 l0 12 = true then (f_X12_loadDenominator p3 l0 (5 : Int32) l3).bind (fun p4 => (if xk p4 l0 12 = true then (f_X12_times p4 l0 (6 : Int32) (2 : Int32) (5 : Int32)).bind (fun p5 => (if xk p5 l0 12 = true then (f_X12_times p5 l0 (7 : Int32) (4 : Int32) (3 : Int32)).bind (fun p6 => (if xk p6 l0 12 = true then (f_X12_times p6 l0 (1 : Int32) (3 : Int32) (5 : Int32)).bind (fun p7 => (if xk p7 l0 12 = true then (f_X12_sign p7 l0 l2).bind (fun p8 => (if xk p7 l0 12 = true then (f_X12_sign p7 l0 l3).bind (fun p9 => (if xk p7 l0 12 = true then (f_X12_signed p7 l0 (6 : Int32) p8 (7 : Int32) (l4 * p9)).bind (fun p10 => (if xk p10.2 l0 12 = true then (f_X12_copy p10.2 l0 (0 : Int32) (6 : Int32)).bind (fun p11 => (if xk p11 l0 12 = true then (f_X12_store p11 l0 l1 p10.1).bind (fun p12 => (xz p12.1).bind (fun b13 => some (b13, p12.2))) else none)) else none)) else none)) else none)) else none)) else none)) else none)) else none)) else none)) else none)) else none)) else none)
set_option maxHeartbeats 4000000 in
set_option maxRecDepth 20000 in
theorem m_X12_addValues {G : xG} {π : Nat → Nat} {d C Z : Nat} {Q : xQ} {σ : xM} {l0 : Nat} {l1 : Int32} {l2 : Int32} {l3 : Int32} {l4 : Int32} {x : (Int32 × xM)} (hf : f_X12_addValues σ l0 l1 l2 l3 l4 = some x) (hR : ∀ g, x = g → Q (.inl (some (.int g.1))) (g.2) π) : xMach G π J_X12_addValues (d + 5) C Z 0 (lv_args 0 [.ref l0, .int l1, .int l2, .int l3, .int l4]) [] σ Q := by
  unfold f_X12_addValues at hf
  refine xm_stL (L' := [(0, .ref l0), (1, .int l1), (2, .int l2), (3, .int l3), (4, .int l4)]) rfl ?_
  refine xm_aload_n dX12_addValues_0 rfl ?_
  refine xm_iconst dX12_addValues_1 (v := 2) (by decide) ?_
  refine xm_iload_n dX12_addValues_2 rfl ?_
  refine xb_if hf (fun hb hf => ?_) (fun _ q => nomatch q)
  obtain ⟨p1, ep1, hf⟩ := xbind hf
  refine xb_callV (As := [.int (2 : Int32), .int l2]) (v0 := none) (τ0 := p1) dX12_addValues_3 (xc_X12_loadNumerator _ _) xcl12 xw_2403 xw_2405 xs_145 hb rfl (Nat.le_of_ble_eq_true rfl) rfl (Nat.le_of_ble_eq_true rfl) (fun Q1 hq => m_X12_loadNumerator (d := d + 2) ep1 (fun g hg => by subst hg; exact hq)) ?_
  refine xm_aload_n dX12_addValues_6 rfl ?_
  refine xm_iconst dX12_addValues_7 (v := 3) (by decide) ?_
  refine xm_iload_n dX12_addValues_8 rfl ?_
  refine xb_if hf (fun hb hf => ?_) (fun _ q => nomatch q)
  obtain ⟨p2, ep2, hf⟩ := xbind hf
  refine xb_callV (As := [.int (3 : Int32), .int l2]) (v0 := none) (τ0 := p2) dX12_addValues_9 (xc_X12_loadDenominator _ _) xcl12 xw_2411 xw_2413 xs_147 hb rfl (Nat.le_of_ble_eq_true rfl) rfl (Nat.le_of_ble_eq_true rfl) (fun Q1 hq => m_X12_loadDenominator (d := d + 2) ep2 (fun g hg => by subst hg; exact hq)) ?_
  refine xm_aload_n dX12_addValues_12 rfl ?_
  refine xm_iconst dX12_addValues_13 (v := 4) (by decide) ?_
  refine xm_iload_n dX12_addValues_14 rfl ?_
  refine xb_if hf (fun hb hf => ?_) (fun _ q => nomatch q)
  obtain ⟨p3, ep3, hf⟩ := xbind hf
  refine xb_callV (As := [.int (4 : Int32), .int l3]) (v0 := none) (τ0 := p3) dX12_addValues_15 (xc_X12_loadNumerator _ _) xcl12 xw_2403 xw_2405 xs_145 hb rfl (Nat.le_of_ble_eq_true rfl) rfl (Nat.le_of_ble_eq_true rfl) (fun Q1 hq => m_X12_loadNumerator (d := d + 2) ep3 (fun g hg => by subst hg; exact hq)) ?_
  refine xm_aload_n dX12_addValues_18 rfl ?_
  refine xm_iconst dX12_addValues_19 (v := 5) (by decide) ?_
  refine xm_iload_n dX12_addValues_20 rfl ?_
  refine xb_if hf (fun hb hf => ?_) (fun _ q => nomatch q)
  obtain ⟨p4, ep4, hf⟩ := xbind hf
  refine xb_callV (As := [.int (5 : Int32), .int l3]) (v0 := none) (τ0 := p4) dX12_addValues_21 (xc_X12_loadDenominator _ _) xcl12 xw_2411 xw_2413 xs_147 hb rfl (Nat.le_of_ble_eq_true rfl) rfl (Nat.le_of_ble_eq_true rfl) (fun Q1 hq => m_X12_loadDenominator (d := d + 2) ep4 (fun g hg => by subst hg; exact hq)) ?_
  refine xm_aload_n dX12_addValues_24 rfl ?_
  refine xm_bipush dX12_addValues_25 (v := 6) (by decide) ?_
  refine xm_iconst dX12_addValues_27 (v := 2) (by decide) ?_
  refine xm_iconst dX12_addValues_28 (v := 5) (by decide) ?_
  refine xb_if hf (fun hb hf => ?_) (fun _ q => nomatch q)
  obtain ⟨p5, ep5, hf⟩ := xbind hf
  refine xb_callV (As := [.int (6 : Int32), .int (2 : Int32), .int (5 : Int32)]) (v0 := none) (τ0 := p5) dX12_addValues_29 (xc_X12_times _ _) xcl12 xw_2415 xw_2417 xs_148 hb rfl (Nat.le_of_ble_eq_true rfl) rfl (Nat.le_of_ble_eq_true rfl) (fun Q1 hq => m_X12_times (d := d + 3) ep5 (fun g hg => by subst hg; exact hq)) ?_
  refine xm_aload_n dX12_addValues_32 rfl ?_
  refine xm_bipush dX12_addValues_33 (v := 7) (by decide) ?_
  refine xm_iconst dX12_addValues_35 (v := 4) (by decide) ?_
  refine xm_iconst dX12_addValues_36 (v := 3) (by decide) ?_
  refine xb_if hf (fun hb hf => ?_) (fun _ q => nomatch q)
  obtain ⟨p6, ep6, hf⟩ := xbind hf
  refine xb_callV (As := [.int (7 : Int32), .int (4 : Int32), .int (3 : Int32)]) (v0 := none) (τ0 := p6) dX12_addValues_37 (xc_X12_times _ _) xcl12 xw_2415 xw_2417 xs_148 hb rfl (Nat.le_of_ble_eq_true rfl) rfl (Nat.le_of_ble_eq_true rfl) (fun Q1 hq => m_X12_times (d := d + 3) ep6 (fun g hg => by subst hg; exact hq)) ?_
  refine xm_aload_n dX12_addValues_40 rfl ?_
  refine xm_iconst dX12_addValues_41 (v := 1) (by decide) ?_
  refine xm_iconst dX12_addValues_42 (v := 3) (by decide) ?_
  refine xm_iconst dX12_addValues_43 (v := 5) (by decide) ?_
  refine xb_if hf (fun hb hf => ?_) (fun _ q => nomatch q)
  obtain ⟨p7, ep7, hf⟩ := xbind hf
  refine xb_callV (As := [.int (1 : Int32), .int (3 : Int32), .int (5 : Int32)]) (v0 := none) (τ0 := p7) dX12_addValues_44 (xc_X12_times _ _) xcl12 xw_2415 xw_2417 xs_148 hb rfl (Nat.le_of_ble_eq_true rfl) rfl (Nat.le_of_ble_eq_true rfl) (fun Q1 hq => m_X12_times (d := d + 3) ep7 (fun g hg => by subst hg; exact hq)) ?_
  refine xm_aload_n dX12_addValues_47 rfl ?_
  refine xm_bipush dX12_addValues_48 (v := 6) (by decide) ?_
  refine xm_aload_n dX12_addValues_50 rfl ?_
  refine xm_iload_n dX12_addValues_51 rfl ?_
  refine xb_if hf (fun hb hf => ?_) (fun _ q => nomatch q)
  obtain ⟨p8, ep8, hf⟩ := xbind hf
  refine xb_callV (As := [.int l2]) (v0 := (some (.int p8))) (τ0 := p7) dX12_addValues_52 (xc_X12_sign _ _) xcl12 xw_2387 xw_2389 xs_141 hb rfl (Nat.le_of_ble_eq_true rfl) rfl (Nat.le_of_ble_eq_true rfl) (fun Q1 hq => m_X12_sign (d := d + 4) ep8 (fun g hg => by subst hg; exact hq)) ?_
  refine xm_bipush dX12_addValues_55 (v := 7) (by decide) ?_
  refine xm_iload dX12_addValues_57 rfl ?_
  refine xm_aload_n dX12_addValues_59 rfl ?_
  refine xm_iload_n dX12_addValues_60 rfl ?_
  refine xb_if hf (fun hb hf => ?_) (fun _ q => nomatch q)
  obtain ⟨p9, ep9, hf⟩ := xbind hf
  refine xb_callV (As := [.int l3]) (v0 := (some (.int p9))) (τ0 := p7) dX12_addValues_61 (xc_X12_sign _ _) xcl12 xw_2387 xw_2389 xs_141 hb rfl (Nat.le_of_ble_eq_true rfl) rfl (Nat.le_of_ble_eq_true rfl) (fun Q1 hq => m_X12_sign (d := d + 4) ep9 (fun g hg => by subst hg; exact hq)) ?_
  refine xm_imul dX12_addValues_64 ?_
  refine xb_if hf (fun hb hf => ?_) (fun _ q => nomatch q)
  obtain ⟨p10, ep10, hf⟩ := xbind hf
  refine xb_callV (As := [.int (6 : Int32), .int p8, .int (7 : Int32), .int (l4 * p9)]) (v0 := (some (.int p10.1))) (τ0 := p10.2) dX12_addValues_65 (xc_X12_signed _ _) xcl12 xw_2420 xw_2422 xs_149 hb rfl (Nat.le_of_ble_eq_true rfl) rfl (Nat.le_of_ble_eq_true rfl) (fun Q1 hq => m_X12_signed (d := d + 2) ep10 (fun g hg => by subst hg; exact hq)) ?_
  refine xm_istore dX12_addValues_68 (by decide) (xm_stL (L' := [(5, .int p10.1), (0, .ref l0), (1, .int l1), (2, .int l2), (3, .int l3), (4, .int l4)]) rfl ?_)
  refine xm_aload_n dX12_addValues_70 rfl ?_
  refine xm_iconst dX12_addValues_71 (v := 0) (by decide) ?_
  refine xm_bipush dX12_addValues_72 (v := 6) (by decide) ?_
  refine xb_if hf (fun hb hf => ?_) (fun _ q => nomatch q)
  obtain ⟨p11, ep11, hf⟩ := xbind hf
  refine xb_callV (As := [.int (0 : Int32), .int (6 : Int32)]) (v0 := none) (τ0 := p11) dX12_addValues_74 (xc_X12_copy _ _) xcl12 xw_2424 xw_2426 xs_150 hb rfl (Nat.le_of_ble_eq_true rfl) rfl (Nat.le_of_ble_eq_true rfl) (fun Q1 hq => m_X12_copy (d := d + 4) ep11 (fun g hg => by subst hg; exact hq)) ?_
  refine xm_aload_n dX12_addValues_77 rfl ?_
  refine xm_iload_n dX12_addValues_78 rfl ?_
  refine xm_iload dX12_addValues_79 rfl ?_
  refine xb_if hf (fun hb hf => ?_) (fun _ q => nomatch q)
  obtain ⟨p12, ep12, hf⟩ := xbind hf
  refine xb_callV (As := [.int l1, .int p10.1]) (v0 := (some (.int p12.1))) (τ0 := p12.2) dX12_addValues_81 (xc_X12_store _ _) xcl12 xw_2440 xw_2442 xs_154 hb rfl (Nat.le_of_ble_eq_true rfl) rfl (Nat.le_of_ble_eq_true rfl) (fun Q1 hq => m_X12_store (d := d + 0) ep12 (fun g hg => by subst hg; exact hq)) ?_
  obtain ⟨b13, eb13, hf⟩ := xbind hf
  obtain ⟨rfl, hz⟩ := xz_of eb13
  cases hf
  exact xm_zret dX12_addValues_84 rfl hz (hR _ rfl)

