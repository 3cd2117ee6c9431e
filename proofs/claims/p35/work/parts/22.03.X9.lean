-- Rankwise$Tree.clear()V
def f_X9_clear (σ : xM) (l0 : Nat) : Option xM :=
  (sI σ l0 9 7 (0 : Int32)).bind (fun σ1 => some σ1)
set_option maxHeartbeats 4000000 in
set_option maxRecDepth 20000 in
theorem m_X9_clear {G : xG} {π : Nat → Nat} {d C Z : Nat} {Q : xQ} {σ : xM} {l0 : Nat} {x : xM} (hf : f_X9_clear σ l0 = some x) (hR : ∀ g, x = g → Q (.inl none) (g) π) : xMach G π J_X9_clear (d + 0) C Z 0 (lv_args 0 [.ref l0]) [] σ Q := by
  unfold f_X9_clear at hf
  refine xm_stL (L' := [(0, .ref l0)]) rfl ?_
  refine xm_aload_n dX9_clear_0 rfl ?_
  refine xm_iconst dX9_clear_1 (v := 0) (by decide) ?_
  refine xb_putI (a := l0) (c := 9) (k := 7) dX9_clear_2 xcl9 (by decide) xw_218 rfl rfl hf (fun σ1 eσ1 hf => ?_)
  cases hf
  exact xm_vret dX9_clear_5 rfl (hR _ rfl)
-- Rankwise$Tree.add(IIII)Z
def f_X9_add (σ : xM) (l0 : Nat) (l1 : Int32) (l2 : Int32) (l3 : Int32) (l4 : Int32) : Option (Int32 × xM) :=
  (gI σ l0 9 7).bind (fun x1 => (if x1 < (80 : Int32) then (gR σ l0 9 0).bind (fun x2 => (gI σ l0 9 7).bind (fun x3 => (wI σ x2 x3 l1).bind (fun σ4 => (gR σ4 l0 9 1).bind (fun x5 => (gI σ4 l0 9 7).bind (fun x6 => (wI σ4 x5 x6 l2).bind (fun σ7 => (gR σ7 l0 9 2).bind (fun x8 => (gI σ7 l0 9 7).bind (fun x9 => (wI σ7 x8 x9 l3).bind (fun σ10 => (gR σ10 l0 9 3).bind (fun x11 => (gI σ10 l0 9 7).bind (fun x12 => (wI σ10 x11 x12 l4).bind (fun σ13 => (gI σ13 l0 9 7).bind (fun x14 => (sI σ13 l0 9 7 (x14 + (1 : Int32))).bind (fun σ15 => some ((1 : Int32), σ15))))))))))))))) else some ((0 : Int32), σ)))
set_option maxHeartbeats 4000000 in
set_option maxRecDepth 20000 in
theorem m_X9_add {G : xG} {π : Nat → Nat} {d C Z : Nat} {Q : xQ} {σ : xM} {l0 : Nat} {l1 : Int32} {l2 : Int32} {l3 : Int32} {l4 : Int32} {x : (Int32 × xM)} (hf : f_X9_add σ l0 l1 l2 l3 l4 = some x) (hR : ∀ g, x = g → Q (.inl (some (.int g.1))) (g.2) π) : xMach G π J_X9_add (d + 0) C Z 0 (lv_args 0 [.ref l0, .int l1, .int l2, .int l3, .int l4]) [] σ Q := by
  unfold f_X9_add at hf
  refine xm_stL (L' := [(0, .ref l0), (1, .int l1), (2, .int l2), (3, .int l3), (4, .int l4)]) rfl ?_
  refine xm_aload_n dX9_add_0 rfl ?_
  refine xb_getI (a := l0) (c := 9) (k := 7) dX9_add_1 xcl9 (by decide) xw_218 rfl hf (fun x1 ex1 hf => ?_)
  refine xm_bipush dX9_add_4 (v := 80) (by decide) ?_
  refine xb_icmp_lt 11 dX9_add_6 (by decide) hf (fun c hf => ?_) (fun c hf => ?_)
  · refine xm_aload_n dX9_add_11 rfl ?_
    refine xb_getR (a := l0) (c := 9) (k := 0) dX9_add_12 xcl9 (by decide) xw_191 rfl hf (fun x2 ex2 hf => ?_)
    refine xm_aload_n dX9_add_15 rfl ?_
    refine xb_getI (a := l0) (c := 9) (k := 7) dX9_add_16 xcl9 (by decide) xw_218 rfl hf (fun x3 ex3 hf => ?_)
    refine xm_iload_n dX9_add_19 rfl ?_
    refine xb_iast dX9_add_20 hf (fun σ4 eσ4 hf => ?_)
    refine xm_aload_n dX9_add_21 rfl ?_
    refine xb_getR (a := l0) (c := 9) (k := 1) dX9_add_22 xcl9 (by decide) xw_197 rfl hf (fun x5 ex5 hf => ?_)
    refine xm_aload_n dX9_add_25 rfl ?_
    refine xb_getI (a := l0) (c := 9) (k := 7) dX9_add_26 xcl9 (by decide) xw_218 rfl hf (fun x6 ex6 hf => ?_)
    refine xm_iload_n dX9_add_29 rfl ?_
    refine xb_iast dX9_add_30 hf (fun σ7 eσ7 hf => ?_)
    refine xm_aload_n dX9_add_31 rfl ?_
    refine xb_getR (a := l0) (c := 9) (k := 2) dX9_add_32 xcl9 (by decide) xw_203 rfl hf (fun x8 ex8 hf => ?_)
    refine xm_aload_n dX9_add_35 rfl ?_
    refine xb_getI (a := l0) (c := 9) (k := 7) dX9_add_36 xcl9 (by decide) xw_218 rfl hf (fun x9 ex9 hf => ?_)
    refine xm_iload_n dX9_add_39 rfl ?_
    refine xb_iast dX9_add_40 hf (fun σ10 eσ10 hf => ?_)
    refine xm_aload_n dX9_add_41 rfl ?_
    refine xb_getR (a := l0) (c := 9) (k := 3) dX9_add_42 xcl9 (by decide) xw_208 rfl hf (fun x11 ex11 hf => ?_)
    refine xm_aload_n dX9_add_45 rfl ?_
    refine xb_getI (a := l0) (c := 9) (k := 7) dX9_add_46 xcl9 (by decide) xw_218 rfl hf (fun x12 ex12 hf => ?_)
    refine xm_iload dX9_add_49 rfl ?_
    refine xb_iast dX9_add_51 hf (fun σ13 eσ13 hf => ?_)
    refine xm_aload_n dX9_add_52 rfl ?_
    refine xm_dup dX9_add_53 rfl ?_
    refine xb_getI (a := l0) (c := 9) (k := 7) dX9_add_54 xcl9 (by decide) xw_218 rfl hf (fun x14 ex14 hf => ?_)
    refine xm_iconst dX9_add_57 (v := 1) (by decide) ?_
    refine xm_iadd dX9_add_58 ?_
    refine xb_putI (a := l0) (c := 9) (k := 7) dX9_add_59 xcl9 (by decide) xw_218 rfl rfl hf (fun σ15 eσ15 hf => ?_)
    refine xm_iconst dX9_add_62 (v := 1) (by decide) ?_
    cases hf
    exact xm_zret dX9_add_63 rfl rfl (hR _ rfl)
  · refine xm_iconst dX9_add_9 (v := 0) (by decide) ?_
    cases hf
    exact xm_zret dX9_add_10 rfl rfl (hR _ rfl)
-- Rankwise$Tree.put(ILRankwise$Tree;I)V
def f_X9_put_j60 (σ : xM)  : Option xM :=
  some σ
set_option maxHeartbeats 4000000 in
set_option maxRecDepth 20000 in
theorem L_X9_put_j60 {G : xG} {π : Nat → Nat} {d C Z : Nat} {Q : xQ} (σ : xM)  {x : xM} (hf : f_X9_put_j60 σ = some x) (hR : ∀ g, x = g → Q (.inl none) (g) π) : xMach G π J_X9_put (d + 0) C Z 60 [] [] σ Q := by
  unfold f_X9_put_j60 at hf
  cases hf
  exact xm_vret dX9_put_60 rfl (hR _ rfl)
def f_X9_put (σ : xM) (l0 : Nat) (l1 : Int32) (l2 : Nat) (l3 : Int32) : Option xM :=
  (if l1 < (0 : Int32) then f_X9_put_j60 σ else (gI σ l0 9 7).bind (fun x1 => (if x1 ≤ l1 then f_X9_put_j60 σ else (gR σ l0 9 0).bind (fun x2 => (gR σ l2 9 0).bind (fun x3 => (aI σ x3 14 l3).bind (fun x4 => (wI σ x2 l1 x4).bind (fun σ5 => (gR σ5 l0 9 1).bind (fun x6 => (gR σ5 l2 9 1).bind (fun x7 => (aI σ5 x7 14 l3).bind (fun x8 => (wI σ5 x6 l1 x8).bind (fun σ9 => (gR σ9 l0 9 2).bind (fun x10 => (gR σ9 l2 9 2).bind (fun x11 => (aI σ9 x11 14 l3).bind (fun x12 => (wI σ9 x10 l1 x12).bind (fun σ13 => (gR σ13 l0 9 3).bind (fun x14 => (gR σ13 l2 9 3).bind (fun x15 => (aI σ13 x15 14 l3).bind (fun x16 => (wI σ13 x14 l1 x16).bind (fun σ17 => f_X9_put_j60 σ17)))))))))))))))))))
set_option maxHeartbeats 4000000 in
set_option maxRecDepth 20000 in
theorem m_X9_put {G : xG} {π : Nat → Nat} {d C Z : Nat} {Q : xQ} {σ : xM} {l0 : Nat} {l1 : Int32} {l2 : Nat} {l3 : Int32} {x : xM} (hf : f_X9_put σ l0 l1 l2 l3 = some x) (hR : ∀ g, x = g → Q (.inl none) (g) π) : xMach G π J_X9_put (d + 0) C Z 0 (lv_args 0 [.ref l0, .int l1, .ref l2, .int l3]) [] σ Q := by
  unfold f_X9_put at hf
  refine xm_stL (L' := [(0, .ref l0), (1, .int l1), (2, .ref l2), (3, .int l3)]) rfl ?_
  refine xm_iload_n dX9_put_0 rfl ?_
  refine xb_if_lt 60 dX9_put_1 (by decide) hf (fun c hf => ?_) (fun c hf => ?_)
  · exact xm_sub [] rfl (L_X9_put_j60 σ hf hR)
  · refine xm_iload_n dX9_put_4 rfl ?_
    refine xm_aload_n dX9_put_5 rfl ?_
    refine xb_getI (a := l0) (c := 9) (k := 7) dX9_put_6 xcl9 (by decide) xw_218 rfl hf (fun x1 ex1 hf => ?_)
    refine xb_icmp_ge 60 dX9_put_9 (by decide) hf (fun c hf => ?_) (fun c hf => ?_)
    · exact xm_sub [] rfl (L_X9_put_j60 σ hf hR)
    · refine xm_aload_n dX9_put_12 rfl ?_
      refine xb_getR (a := l0) (c := 9) (k := 0) dX9_put_13 xcl9 (by decide) xw_191 rfl hf (fun x2 ex2 hf => ?_)
      refine xm_iload_n dX9_put_16 rfl ?_
      refine xm_aload_n dX9_put_17 rfl ?_
      refine xb_getR (a := l2) (c := 9) (k := 0) dX9_put_18 xcl9 (by decide) xw_191 rfl hf (fun x3 ex3 hf => ?_)
      refine xm_iload_n dX9_put_21 rfl ?_
      refine xb_iald dX9_put_22 hf (fun x4 ex4 hf => ?_)
      refine xb_iast dX9_put_23 hf (fun σ5 eσ5 hf => ?_)
      refine xm_aload_n dX9_put_24 rfl ?_
      refine xb_getR (a := l0) (c := 9) (k := 1) dX9_put_25 xcl9 (by decide) xw_197 rfl hf (fun x6 ex6 hf => ?_)
      refine xm_iload_n dX9_put_28 rfl ?_
      refine xm_aload_n dX9_put_29 rfl ?_
      refine xb_getR (a := l2) (c := 9) (k := 1) dX9_put_30 xcl9 (by decide) xw_197 rfl hf (fun x7 ex7 hf => ?_)
      refine xm_iload_n dX9_put_33 rfl ?_
      refine xb_iald dX9_put_34 hf (fun x8 ex8 hf => ?_)
      refine xb_iast dX9_put_35 hf (fun σ9 eσ9 hf => ?_)
      refine xm_aload_n dX9_put_36 rfl ?_
      refine xb_getR (a := l0) (c := 9) (k := 2) dX9_put_37 xcl9 (by decide) xw_203 rfl hf (fun x10 ex10 hf => ?_)
      refine xm_iload_n dX9_put_40 rfl ?_
      refine xm_aload_n dX9_put_41 rfl ?_
      refine xb_getR (a := l2) (c := 9) (k := 2) dX9_put_42 xcl9 (by decide) xw_203 rfl hf (fun x11 ex11 hf => ?_)
      refine xm_iload_n dX9_put_45 rfl ?_
      refine xb_iald dX9_put_46 hf (fun x12 ex12 hf => ?_)
      refine xb_iast dX9_put_47 hf (fun σ13 eσ13 hf => ?_)
      refine xm_aload_n dX9_put_48 rfl ?_
      refine xb_getR (a := l0) (c := 9) (k := 3) dX9_put_49 xcl9 (by decide) xw_208 rfl hf (fun x14 ex14 hf => ?_)
      refine xm_iload_n dX9_put_52 rfl ?_
      refine xm_aload_n dX9_put_53 rfl ?_
      refine xb_getR (a := l2) (c := 9) (k := 3) dX9_put_54 xcl9 (by decide) xw_208 rfl hf (fun x15 ex15 hf => ?_)
      refine xm_iload_n dX9_put_57 rfl ?_
      refine xb_iald dX9_put_58 hf (fun x16 ex16 hf => ?_)
      refine xb_iast dX9_put_59 hf (fun σ17 eσ17 hf => ?_)
      exact xm_sub [] rfl (L_X9_put_j60 σ17 hf hR)
-- Rankwise$Tree.measure()V
def f_X9_measure_s17 (σ : xM) (s : (Nat × Int32 × Int32 × Int32)) : Option (xM ⊕ ((Nat × Int32 × Int32) ⊕ (Nat × Int32 × Int32 × Int32))) :=
  xlet s.1 (fun l0 => xlet s.2.1 (fun l1 => xlet s.2.2.1 (fun l2 => xlet s.2.2.2 (fun l3 => (gR σ l0 9 3).bind (fun x5 => (aI σ x5 14 l1).bind (fun x6 => (if x6 ≤ l3 then some (Sum.inr (Sum.inl (l0, l1, l2))) else (gI σ l0 9 7).bind (fun x7 => (if x7 ≤ l2 then some (Sum.inr (Sum.inl (l0, l1, l2))) else (gR σ l0 9 4).bind (fun x8 => (aI σ x8 14 l2).bind (fun x9 => xlet (l2 + x9) (fun v10 => xlet (l3 + (1 : Int32)) (fun v11 => some (Sum.inr (Sum.inr (l0, l1, v10, v11))))))))))))))))
set_option maxHeartbeats 4000000 in
set_option maxRecDepth 20000 in
theorem L_X9_measure_s17 {G : xG} {π : Nat → Nat} {d C Z : Nat} {Q : xQ} (σ : xM) (l0 : Nat) (l1 : Int32) (l2 : Int32) (l3 : Int32) {x : (xM ⊕ ((Nat × Int32 × Int32) ⊕ (Nat × Int32 × Int32 × Int32)))} (hf : f_X9_measure_s17 σ (l0, l1, l2, l3) = some x) (hR : ∀ g, x = Sum.inl (g) → Q (.inl none) (g) π) (hE : ∀ e : (Nat × Int32 × Int32), x = Sum.inr (Sum.inl e) → xMach G π J_X9_measure (d + 0) C Z 50 [(0, .ref e.1), (1, .int e.2.1), (2, .int e.2.2)] [] σ Q) (hC : ∀ e : (Nat × Int32 × Int32 × Int32), x = Sum.inr (Sum.inr e) → xMach G π J_X9_measure (d + 0) C Z 17 [(0, .ref e.1), (1, .int e.2.1), (2, .int e.2.2.1), (3, .int e.2.2.2)] [] σ Q) : xMach G π J_X9_measure (d + 0) C Z 17 [(0, .ref l0), (1, .int l1), (2, .int l2), (3, .int l3)] [] σ Q := by
  have hf : (gR σ l0 9 3).bind (fun x5 => (aI σ x5 14 l1).bind (fun x6 => (if x6 ≤ l3 then some (Sum.inr (Sum.inl (l0, l1, l2))) else (gI σ l0 9 7).bind (fun x7 => (if x7 ≤ l2 then some (Sum.inr (Sum.inl (l0, l1, l2))) else (gR σ l0 9 4).bind (fun x8 => (aI σ x8 14 l2).bind (fun x9 => xlet (l2 + x9) (fun v10 => xlet (l3 + (1 : Int32)) (fun v11 => some (Sum.inr (Sum.inr (l0, l1, v10, v11)))))))))))) = some x := hf
  refine xm_iload_n dX9_measure_17 rfl ?_
  refine xm_aload_n dX9_measure_18 rfl ?_
  refine xb_getR (a := l0) (c := 9) (k := 3) dX9_measure_19 xcl9 (by decide) xw_208 rfl hf (fun x5 ex5 hf => ?_)
  refine xm_iload_n dX9_measure_22 rfl ?_
  refine xb_iald dX9_measure_23 hf (fun x6 ex6 hf => ?_)
  refine xb_icmp_ge 50 dX9_measure_24 (by decide) hf (fun c hf => ?_) (fun c hf => ?_)
  · cases hf
    exact xm_sub [0, 1, 2] rfl (hE _ rfl)
  · refine xm_iload_n dX9_measure_27 rfl ?_
    refine xm_aload_n dX9_measure_28 rfl ?_
    refine xb_getI (a := l0) (c := 9) (k := 7) dX9_measure_29 xcl9 (by decide) xw_218 rfl hf (fun x7 ex7 hf => ?_)
    refine xb_icmp_ge 50 dX9_measure_32 (by decide) hf (fun c hf => ?_) (fun c hf => ?_)
    · cases hf
      exact xm_sub [0, 1, 2] rfl (hE _ rfl)
    · refine xm_iload_n dX9_measure_35 rfl ?_
      refine xm_aload_n dX9_measure_36 rfl ?_
      refine xb_getR (a := l0) (c := 9) (k := 4) dX9_measure_37 xcl9 (by decide) xw_213 rfl hf (fun x8 ex8 hf => ?_)
      refine xm_iload_n dX9_measure_40 rfl ?_
      refine xb_iald dX9_measure_41 hf (fun x9 ex9 hf => ?_)
      refine xm_iadd dX9_measure_42 ?_
      refine xb_topi hf (fun v10 ev10 hf => ?_)
      refine xm_istore_n dX9_measure_43 (by decide) (xm_stL (L' := [(2, .int v10), (0, .ref l0), (1, .int l1), (3, .int l3)]) rfl ?_)
      refine xb_iinc dX9_measure_44 rfl (by decide) (by decide) hf (fun v11 ev11 hf => xm_stL (L' := [(3, .int v11), (2, .int v10), (0, .ref l0), (1, .int l1)]) rfl ?_)
      refine xm_goto 17 dX9_measure_47 (by decide) ?_
      cases hf
      exact xm_sub [2, 3, 1, 0] rfl (hC _ rfl)
theorem L_X9_measure_l17 {G : xG} {π : Nat → Nat} {d C Z : Nat} {Q : xQ} (σ : xM) {s0 : (Nat × Int32 × Int32 × Int32)} {x : (xM ⊕ (Nat × Int32 × Int32))} (h1 : xloop (f_X9_measure_s17 σ) xF s0 = some x) (hR : ∀ g, x = Sum.inl g → Q (.inl none) (g) π) (hE : ∀ e : (Nat × Int32 × Int32), x = Sum.inr e → xMach G π J_X9_measure (d + 0) C Z 50 [(0, .ref e.1), (1, .int e.2.1), (2, .int e.2.2)] [] σ Q) : xMach G π J_X9_measure (d + 0) C Z 17 [(0, .ref s0.1), (1, .int s0.2.1), (2, .int s0.2.2.1), (3, .int s0.2.2.2)] [] σ Q := by
  refine xloop_run (M := (fun s : (Nat × Int32 × Int32 × Int32) => xMach G π J_X9_measure (d + 0) C Z 17 [(0, .ref s.1), (1, .int s.2.1), (2, .int s.2.2.1), (3, .int s.2.2.2)] [] σ Q)) (r := x) ?_ xF _ h1
  intro s y hs hx
  exact L_X9_measure_s17 σ s.1 s.2.1 s.2.2.1 s.2.2.2 (x := y) hs (fun g hg => by subst hg; exact hR g hx) (fun e he => by subst he; exact hE e hx) (fun e he => by subst he; exact hx)
def f_X9_measure_j50 (σ : xM) (l0 : Nat) (l1 : Int32) (l2 : Int32) : Option (xM ⊕ ((Nat × xM) ⊕ (Nat × Int32 × xM))) :=
  (gR σ l0 9 4).bind (fun x12 => (wI σ x12 l1 (l2 - l1)).bind (fun σ13 => xlet (l1 + (-1 : Int32)) (fun v14 => some (Sum.inr (Sum.inr (l0, v14, σ13))))))
set_option maxHeartbeats 4000000 in
set_option maxRecDepth 20000 in
theorem L_X9_measure_j50 {G : xG} {π : Nat → Nat} {d C Z : Nat} {Q : xQ} (σ : xM) (l0 : Nat) (l1 : Int32) (l2 : Int32) {x : (xM ⊕ ((Nat × xM) ⊕ (Nat × Int32 × xM)))} (hf : f_X9_measure_j50 σ l0 l1 l2 = some x) (hR : ∀ g, x = Sum.inl (g) → Q (.inl none) (g) π) (hE : ∀ e : (Nat × xM), x = Sum.inr (Sum.inl e) → xMach G π J_X9_measure (d + 0) C Z 65 [(0, .ref e.1)] [] e.2 Q) (hC : ∀ e : (Nat × Int32 × xM), x = Sum.inr (Sum.inr e) → xMach G π J_X9_measure (d + 0) C Z 7 [(0, .ref e.1), (1, .int e.2.1)] [] e.2.2 Q) : xMach G π J_X9_measure (d + 0) C Z 50 [(0, .ref l0), (1, .int l1), (2, .int l2)] [] σ Q := by
  unfold f_X9_measure_j50 at hf
  refine xm_aload_n dX9_measure_50 rfl ?_
  refine xb_getR (a := l0) (c := 9) (k := 4) dX9_measure_51 xcl9 (by decide) xw_213 rfl hf (fun x12 ex12 hf => ?_)
  refine xm_iload_n dX9_measure_54 rfl ?_
  refine xm_iload_n dX9_measure_55 rfl ?_
  refine xm_iload_n dX9_measure_56 rfl ?_
  refine xm_isub dX9_measure_57 ?_
  refine xb_iast dX9_measure_58 hf (fun σ13 eσ13 hf => ?_)
  refine xb_iinc dX9_measure_59 rfl (by decide) (by decide) hf (fun v14 ev14 hf => xm_stL (L' := [(1, .int v14), (0, .ref l0), (2, .int l2)]) rfl ?_)
  refine xm_goto 7 dX9_measure_62 (by decide) ?_
  cases hf
  exact xm_sub [1, 0] rfl (hC _ rfl)
def f_X9_measure_s7 (s : (Nat × Int32 × xM)) : Option (xM ⊕ ((Nat × xM) ⊕ (Nat × Int32 × xM))) :=
  xlet s.1 (fun l0 => xlet s.2.1 (fun l1 => xlet s.2.2 (fun σ => (if l1 < (0 : Int32) then some (Sum.inr (Sum.inl (l0, σ))) else xlet (l1 + (1 : Int32)) (fun v3 => xlet (0 : Int32) (fun v4 => (xloop (f_X9_measure_s17 σ ) xF (l0, l1, v3, v4)).bind (Sum.elim (fun g => some (Sum.inl g)) (fun e => f_X9_measure_j50 σ e.1 e.2.1 e.2.2))))))))
set_option maxHeartbeats 4000000 in
set_option maxRecDepth 20000 in
theorem L_X9_measure_s7 {G : xG} {π : Nat → Nat} {d C Z : Nat} {Q : xQ} (σ : xM) (l0 : Nat) (l1 : Int32) {x : (xM ⊕ ((Nat × xM) ⊕ (Nat × Int32 × xM)))} (hf : f_X9_measure_s7 (l0, l1, σ) = some x) (hR : ∀ g, x = Sum.inl (g) → Q (.inl none) (g) π) (hE : ∀ e : (Nat × xM), x = Sum.inr (Sum.inl e) → xMach G π J_X9_measure (d + 0) C Z 65 [(0, .ref e.1)] [] e.2 Q) (hC : ∀ e : (Nat × Int32 × xM), x = Sum.inr (Sum.inr e) → xMach G π J_X9_measure (d + 0) C Z 7 [(0, .ref e.1), (1, .int e.2.1)] [] e.2.2 Q) : xMach G π J_X9_measure (d + 0) C Z 7 [(0, .ref l0), (1, .int l1)] [] σ Q := by
  have hf : (if l1 < (0 : Int32) then some (Sum.inr (Sum.inl (l0, σ))) else xlet (l1 + (1 : Int32)) (fun v3 => xlet (0 : Int32) (fun v4 => (xloop (f_X9_measure_s17 σ ) xF (l0, l1, v3, v4)).bind (Sum.elim (fun g => some (Sum.inl g)) (fun e => f_X9_measure_j50 σ e.1 e.2.1 e.2.2))))) = some x := hf
  refine xm_iload_n dX9_measure_7 rfl ?_
  refine xb_if_lt 65 dX9_measure_8 (by decide) hf (fun c hf => ?_) (fun c hf => ?_)
  · cases hf
    exact xm_sub [0] rfl (hE _ rfl)
  · refine xm_iload_n dX9_measure_11 rfl ?_
    refine xm_iconst dX9_measure_12 (v := 1) (by decide) ?_
    refine xm_iadd dX9_measure_13 ?_
    refine xb_topi hf (fun v3 ev3 hf => ?_)
    refine xm_istore_n dX9_measure_14 (by decide) (xm_stL (L' := [(2, .int v3), (0, .ref l0), (1, .int l1)]) rfl ?_)
    refine xm_iconst dX9_measure_15 (v := 0) (by decide) ?_
    refine xb_topi hf (fun v4 ev4 hf => ?_)
    refine xm_istore_n dX9_measure_16 (by decide) (xm_stL (L' := [(3, .int v4), (2, .int v3), (0, .ref l0), (1, .int l1)]) rfl ?_)
    obtain ⟨o, h1, hf⟩ := xbind hf
    refine xm_sub [2, 3, 1, 0] rfl (L_X9_measure_l17 σ h1 (fun g hg => ?_) (fun e he => ?_))
    · subst hg
      cases hf
      exact hR _ rfl
    · subst he
      rw [Sum.elim_inr] at hf
      have hf : f_X9_measure_j50 σ e.1 e.2.1 e.2.2 = some _ := hf
      exact xm_sub [0, 1, 2] rfl (L_X9_measure_j50 σ e.1 e.2.1 e.2.2 hf hR hE hC)
theorem L_X9_measure_l7 {G : xG} {π : Nat → Nat} {d C Z : Nat} {Q : xQ} {s0 : (Nat × Int32 × xM)} {x : (xM ⊕ (Nat × xM))} (h1 : xloop (f_X9_measure_s7) xF s0 = some x) (hR : ∀ g, x = Sum.inl g → Q (.inl none) (g) π) (hE : ∀ e : (Nat × xM), x = Sum.inr e → xMach G π J_X9_measure (d + 0) C Z 65 [(0, .ref e.1)] [] e.2 Q) : xMach G π J_X9_measure (d + 0) C Z 7 [(0, .ref s0.1), (1, .int s0.2.1)] [] s0.2.2 Q := by
  refine xloop_run (M := (fun s : (Nat × Int32 × xM) => xMach G π J_X9_measure (d + 0) C Z 7 [(0, .ref s.1), (1, .int s.2.1)] [] s.2.2 Q)) (r := x) ?_ xF _ h1
  intro s y hs hx
  exact L_X9_measure_s7 s.2.2 s.1 s.2.1 (x := y) hs (fun g hg => by subst hg; exact hR g hx) (fun e he => by subst he; exact hE e hx) (fun e he => by subst he; exact hx)
def f_X9_measure_s110 (s : (Nat × Int32 × Int32 × Int32 × Int32 × xM)) : Option (xM ⊕ ((Nat × Int32 × xM) ⊕ (Nat × Int32 × Int32 × Int32 × Int32 × xM))) :=
  xlet s.1 (fun l0 => xlet s.2.1 (fun l1 => xlet s.2.2.1 (fun l2 => xlet s.2.2.2.1 (fun l3 => xlet s.2.2.2.2.1 (fun l4 => xlet s.2.2.2.2.2 (fun σ => (gR σ l0 9 3).bind (fun x27 => (aI σ x27 14 l1).bind (fun x28 => (if x28 ≤ l4 then some (Sum.inr (Sum.inl (l0, l1, σ))) else (gI σ l0 9 7).bind (fun x29 => (if x29 ≤ l3 then some (Sum.inr (Sum.inl (l0, l1, σ))) else (gR σ l0 9 4).bind (fun x30 => (aI σ x30 14 l3).bind (fun x31 => xlet (l2 + x31) (fun v32 => (gR σ l0 9 5).bind (fun x33 => (wI σ x33 l3 (v32 - (1 : Int32))).bind (fun σ34 => (gR σ34 l0 9 4).bind (fun x35 => (aI σ34 x35 14 l3).bind (fun x36 => xlet (l3 + x36) (fun v37 => xlet (l4 + (1 : Int32)) (fun v38 => some (Sum.inr (Sum.inr (l0, l1, v32, v37, v38, σ34)))))))))))))))))))))))
set_option maxHeartbeats 4000000 in
set_option maxRecDepth 20000 in
theorem L_X9_measure_s110 {G : xG} {π : Nat → Nat} {d C Z : Nat} {Q : xQ} (σ : xM) (l0 : Nat) (l1 : Int32) (l2 : Int32) (l3 : Int32) (l4 : Int32) {x : (xM ⊕ ((Nat × Int32 × xM) ⊕ (Nat × Int32 × Int32 × Int32 × Int32 × xM)))} (hf : f_X9_measure_s110 (l0, l1, l2, l3, l4, σ) = some x) (hR : ∀ g, x = Sum.inl (g) → Q (.inl none) (g) π) (hE : ∀ e : (Nat × Int32 × xM), x = Sum.inr (Sum.inl e) → xMach G π J_X9_measure (d + 0) C Z 162 [(0, .ref e.1), (1, .int e.2.1)] [] e.2.2 Q) (hC : ∀ e : (Nat × Int32 × Int32 × Int32 × Int32 × xM), x = Sum.inr (Sum.inr e) → xMach G π J_X9_measure (d + 0) C Z 110 [(0, .ref e.1), (1, .int e.2.1), (2, .int e.2.2.1), (3, .int e.2.2.2.1), (4, .int e.2.2.2.2.1)] [] e.2.2.2.2.2 Q) : xMach G π J_X9_measure (d + 0) C Z 110 [(0, .ref l0), (1, .int l1), (2, .int l2), (3, .int l3), (4, .int l4)] [] σ Q := by
  have hf : (gR σ l0 9 3).bind (fun x27 => (aI σ x27 14 l1).bind (fun x28 => (if x28 ≤ l4 then some (Sum.inr (Sum.inl (l0, l1, σ))) else (gI σ l0 9 7).bind (fun x29 => (if x29 ≤ l3 then some (Sum.inr (Sum.inl (l0, l1, σ))) else (gR σ l0 9 4).bind (fun x30 => (aI σ x30 14 l3).bind (fun x31 => xlet (l2 + x31) (fun v32 => (gR σ l0 9 5).bind (fun x33 => (wI σ x33 l3 (v32 - (1 : Int32))).bind (fun σ34 => (gR σ34 l0 9 4).bind (fun x35 => (aI σ34 x35 14 l3).bind (fun x36 => xlet (l3 + x36) (fun v37 => xlet (l4 + (1 : Int32)) (fun v38 => some (Sum.inr (Sum.inr (l0, l1, v32, v37, v38, σ34))))))))))))))))) = some x := hf
  refine xm_iload dX9_measure_110 rfl ?_
  refine xm_aload_n dX9_measure_112 rfl ?_
  refine xb_getR (a := l0) (c := 9) (k := 3) dX9_measure_113 xcl9 (by decide) xw_208 rfl hf (fun x27 ex27 hf => ?_)
  refine xm_iload_n dX9_measure_116 rfl ?_
  refine xb_iald dX9_measure_117 hf (fun x28 ex28 hf => ?_)
  refine xb_icmp_ge 162 dX9_measure_118 (by decide) hf (fun c hf => ?_) (fun c hf => ?_)
  · cases hf
    exact xm_sub [0, 1] rfl (hE _ rfl)
  · refine xm_iload_n dX9_measure_121 rfl ?_
    refine xm_aload_n dX9_measure_122 rfl ?_
    refine xb_getI (a := l0) (c := 9) (k := 7) dX9_measure_123 xcl9 (by decide) xw_218 rfl hf (fun x29 ex29 hf => ?_)
    refine xb_icmp_ge 162 dX9_measure_126 (by decide) hf (fun c hf => ?_) (fun c hf => ?_)
    · cases hf
      exact xm_sub [0, 1] rfl (hE _ rfl)
    · refine xm_iload_n dX9_measure_129 rfl ?_
      refine xm_aload_n dX9_measure_130 rfl ?_
      refine xb_getR (a := l0) (c := 9) (k := 4) dX9_measure_131 xcl9 (by decide) xw_213 rfl hf (fun x30 ex30 hf => ?_)
      refine xm_iload_n dX9_measure_134 rfl ?_
      refine xb_iald dX9_measure_135 hf (fun x31 ex31 hf => ?_)
      refine xm_iadd dX9_measure_136 ?_
      refine xb_topi hf (fun v32 ev32 hf => ?_)
      refine xm_istore_n dX9_measure_137 (by decide) (xm_stL (L' := [(2, .int v32), (0, .ref l0), (1, .int l1), (3, .int l3), (4, .int l4)]) rfl ?_)
      refine xm_aload_n dX9_measure_138 rfl ?_
      refine xb_getR (a := l0) (c := 9) (k := 5) dX9_measure_139 xcl9 (by decide) xw_216 rfl hf (fun x33 ex33 hf => ?_)
      refine xm_iload_n dX9_measure_142 rfl ?_
      refine xm_iload_n dX9_measure_143 rfl ?_
      refine xm_iconst dX9_measure_144 (v := 1) (by decide) ?_
      refine xm_isub dX9_measure_145 ?_
      refine xb_iast dX9_measure_146 hf (fun σ34 eσ34 hf => ?_)
      refine xm_iload_n dX9_measure_147 rfl ?_
      refine xm_aload_n dX9_measure_148 rfl ?_
      refine xb_getR (a := l0) (c := 9) (k := 4) dX9_measure_149 xcl9 (by decide) xw_213 rfl hf (fun x35 ex35 hf => ?_)
      refine xm_iload_n dX9_measure_152 rfl ?_
      refine xb_iald dX9_measure_153 hf (fun x36 ex36 hf => ?_)
      refine xm_iadd dX9_measure_154 ?_
      refine xb_topi hf (fun v37 ev37 hf => ?_)
      refine xm_istore_n dX9_measure_155 (by decide) (xm_stL (L' := [(3, .int v37), (2, .int v32), (0, .ref l0), (1, .int l1), (4, .int l4)]) rfl ?_)
      refine xb_iinc dX9_measure_156 rfl (by decide) (by decide) hf (fun v38 ev38 hf => xm_stL (L' := [(4, .int v38), (3, .int v37), (2, .int v32), (0, .ref l0), (1, .int l1)]) rfl ?_)
      refine xm_goto 110 dX9_measure_159 (by decide) ?_
      cases hf
      exact xm_sub [3, 4, 2, 1, 0] rfl (hC _ rfl)
theorem L_X9_measure_l110 {G : xG} {π : Nat → Nat} {d C Z : Nat} {Q : xQ} {s0 : (Nat × Int32 × Int32 × Int32 × Int32 × xM)} {x : (xM ⊕ (Nat × Int32 × xM))} (h1 : xloop (f_X9_measure_s110) xF s0 = some x) (hR : ∀ g, x = Sum.inl g → Q (.inl none) (g) π) (hE : ∀ e : (Nat × Int32 × xM), x = Sum.inr e → xMach G π J_X9_measure (d + 0) C Z 162 [(0, .ref e.1), (1, .int e.2.1)] [] e.2.2 Q) : xMach G π J_X9_measure (d + 0) C Z 110 [(0, .ref s0.1), (1, .int s0.2.1), (2, .int s0.2.2.1), (3, .int s0.2.2.2.1), (4, .int s0.2.2.2.2.1)] [] s0.2.2.2.2.2 Q := by
  refine xloop_run (M := (fun s : (Nat × Int32 × Int32 × Int32 × Int32 × xM) => xMach G π J_X9_measure (d + 0) C Z 110 [(0, .ref s.1), (1, .int s.2.1), (2, .int s.2.2.1), (3, .int s.2.2.2.1), (4, .int s.2.2.2.2.1)] [] s.2.2.2.2.2 Q)) (r := x) ?_ xF _ h1
  intro s y hs hx
  exact L_X9_measure_s110 s.2.2.2.2.2 s.1 s.2.1 s.2.2.1 s.2.2.2.1 s.2.2.2.2.1 (x := y) hs (fun g hg => by subst hg; exact hR g hx) (fun e he => by subst he; exact hE e hx) (fun e he => by subst he; exact hx)
def f_X9_measure_j162 (σ : xM) (l0 : Nat) (l1 : Int32) : Option (xM ⊕ ((Nat × xM) ⊕ (Nat × Int32 × xM))) :=
  xlet (l1 + (1 : Int32)) (fun v39 => some (Sum.inr (Sum.inr (l0, v39, σ))))
set_option maxHeartbeats 4000000 in
set_option maxRecDepth 20000 in
theorem L_X9_measure_j162 {G : xG} {π : Nat → Nat} {d C Z : Nat} {Q : xQ} (σ : xM) (l0 : Nat) (l1 : Int32) {x : (xM ⊕ ((Nat × xM) ⊕ (Nat × Int32 × xM)))} (hf : f_X9_measure_j162 σ l0 l1 = some x) (hR : ∀ g, x = Sum.inl (g) → Q (.inl none) (g) π) (hE : ∀ e : (Nat × xM), x = Sum.inr (Sum.inl e) → xMach G π J_X9_measure (d + 0) C Z 168 [(0, .ref e.1)] [] e.2 Q) (hC : ∀ e : (Nat × Int32 × xM), x = Sum.inr (Sum.inr e) → xMach G π J_X9_measure (d + 0) C Z 79 [(0, .ref e.1), (1, .int e.2.1)] [] e.2.2 Q) : xMach G π J_X9_measure (d + 0) C Z 162 [(0, .ref l0), (1, .int l1)] [] σ Q := by
  unfold f_X9_measure_j162 at hf
  refine xb_iinc dX9_measure_162 rfl (by decide) (by decide) hf (fun v39 ev39 hf => xm_stL (L' := [(1, .int v39), (0, .ref l0)]) rfl ?_)
  refine xm_goto 79 dX9_measure_165 (by decide) ?_
  cases hf
  exact xm_sub [1, 0] rfl (hC _ rfl)
def f_X9_measure_s79 (s : (Nat × Int32 × xM)) : Option (xM ⊕ ((Nat × xM) ⊕ (Nat × Int32 × xM))) :=
  xlet s.1 (fun l0 => xlet s.2.1 (fun l1 => xlet s.2.2 (fun σ => (gI σ l0 9 7).bind (fun x19 => (if x19 ≤ l1 then some (Sum.inr (Sum.inl (l0, σ))) else (gR σ l0 9 5).bind (fun x20 => (aI σ x20 14 l1).bind (fun x21 => (gR σ l0 9 4).bind (fun x22 => (aI σ x22 14 l1).bind (fun x23 => xlet ((x21 - x23) + (1 : Int32)) (fun v24 => xlet (l1 + (1 : Int32)) (fun v25 => xlet (0 : Int32) (fun v26 => (xloop (f_X9_measure_s110 ) xF (l0, l1, v24, v25, v26, σ)).bind (Sum.elim (fun g => some (Sum.inl g)) (fun e => f_X9_measure_j162 e.2.2 e.1 e.2.1))))))))))))))
set_option maxHeartbeats 4000000 in
set_option maxRecDepth 20000 in
theorem L_X9_measure_s79 {G : xG} {π : Nat → Nat} {d C Z : Nat} {Q : xQ} (σ : xM) (l0 : Nat) (l1 : Int32) {x : (xM ⊕ ((Nat × xM) ⊕ (Nat × Int32 × xM)))} (hf : f_X9_measure_s79 (l0, l1, σ) = some x) (hR : ∀ g, x = Sum.inl (g) → Q (.inl none) (g) π) (hE : ∀ e : (Nat × xM), x = Sum.inr (Sum.inl e) → xMach G π J_X9_measure (d + 0) C Z 168 [(0, .ref e.1)] [] e.2 Q) (hC : ∀ e : (Nat × Int32 × xM), x = Sum.inr (Sum.inr e) → xMach G π J_X9_measure (d + 0) C Z 79 [(0, .ref e.1), (1, .int e.2.1)] [] e.2.2 Q) : xMach G π J_X9_measure (d + 0) C Z 79 [(0, .ref l0), (1, .int l1)] [] σ Q := by
  have hf : (gI σ l0 9 7).bind (fun x19 => (if x19 ≤ l1 then some (Sum.inr (Sum.inl (l0, σ))) else (gR σ l0 9 5).bind (fun x20 => (aI σ x20 14 l1).bind (fun x21 => (gR σ l0 9 4).bind (fun x22 => (aI σ x22 14 l1).bind (fun x23 => xlet ((x21 - x23) + (1 : Int32)) (fun v24 => xlet (l1 + (1 : Int32)) (fun v25 => xlet (0 : Int32) (fun v26 => (xloop (f_X9_measure_s110 ) xF (l0, l1, v24, v25, v26, σ)).bind (Sum.elim (fun g => some (Sum.inl g)) (fun e => f_X9_measure_j162 e.2.2 e.1 e.2.1))))))))))) = some x := hf
  refine xm_iload_n dX9_measure_79 rfl ?_
  refine xm_aload_n dX9_measure_80 rfl ?_
  refine xb_getI (a := l0) (c := 9) (k := 7) dX9_measure_81 xcl9 (by decide) xw_218 rfl hf (fun x19 ex19 hf => ?_)
  refine xb_icmp_ge 168 dX9_measure_84 (by decide) hf (fun c hf => ?_) (fun c hf => ?_)
  · cases hf
    exact xm_sub [0] rfl (hE _ rfl)
  · refine xm_aload_n dX9_measure_87 rfl ?_
    refine xb_getR (a := l0) (c := 9) (k := 5) dX9_measure_88 xcl9 (by decide) xw_216 rfl hf (fun x20 ex20 hf => ?_)
    refine xm_iload_n dX9_measure_91 rfl ?_
    refine xb_iald dX9_measure_92 hf (fun x21 ex21 hf => ?_)
    refine xm_aload_n dX9_measure_93 rfl ?_
    refine xb_getR (a := l0) (c := 9) (k := 4) dX9_measure_94 xcl9 (by decide) xw_213 rfl hf (fun x22 ex22 hf => ?_)
    refine xm_iload_n dX9_measure_97 rfl ?_
    refine xb_iald dX9_measure_98 hf (fun x23 ex23 hf => ?_)
    refine xm_isub dX9_measure_99 ?_
    refine xm_iconst dX9_measure_100 (v := 1) (by decide) ?_
    refine xm_iadd dX9_measure_101 ?_
    refine xb_topi hf (fun v24 ev24 hf => ?_)
    refine xm_istore_n dX9_measure_102 (by decide) (xm_stL (L' := [(2, .int v24), (0, .ref l0), (1, .int l1)]) rfl ?_)
    refine xm_iload_n dX9_measure_103 rfl ?_
    refine xm_iconst dX9_measure_104 (v := 1) (by decide) ?_
    refine xm_iadd dX9_measure_105 ?_
    refine xb_topi hf (fun v25 ev25 hf => ?_)
    refine xm_istore_n dX9_measure_106 (by decide) (xm_stL (L' := [(3, .int v25), (2, .int v24), (0, .ref l0), (1, .int l1)]) rfl ?_)
    refine xm_iconst dX9_measure_107 (v := 0) (by decide) ?_
    refine xb_topi hf (fun v26 ev26 hf => ?_)
    refine xm_istore dX9_measure_108 (by decide) (xm_stL (L' := [(4, .int v26), (3, .int v25), (2, .int v24), (0, .ref l0), (1, .int l1)]) rfl ?_)
    obtain ⟨o, h1, hf⟩ := xbind hf
    refine xm_sub [3, 4, 2, 1, 0] rfl (L_X9_measure_l110  h1 (fun g hg => ?_) (fun e he => ?_))
    · subst hg
      cases hf
      exact hR _ rfl
    · subst he
      rw [Sum.elim_inr] at hf
      have hf : f_X9_measure_j162 e.2.2 e.1 e.2.1 = some _ := hf
      exact xm_sub [0, 1] rfl (L_X9_measure_j162 e.2.2 e.1 e.2.1 hf hR hE hC)
theorem L_X9_measure_l79 {G : xG} {π : Nat → Nat} {d C Z : Nat} {Q : xQ} {s0 : (Nat × Int32 × xM)} {x : (xM ⊕ (Nat × xM))} (h1 : xloop (f_X9_measure_s79) xF s0 = some x) (hR : ∀ g, x = Sum.inl g → Q (.inl none) (g) π) (hE : ∀ e : (Nat × xM), x = Sum.inr e → xMach G π J_X9_measure (d + 0) C Z 168 [(0, .ref e.1)] [] e.2 Q) : xMach G π J_X9_measure (d + 0) C Z 79 [(0, .ref s0.1), (1, .int s0.2.1)] [] s0.2.2 Q := by
  refine xloop_run (M := (fun s : (Nat × Int32 × xM) => xMach G π J_X9_measure (d + 0) C Z 79 [(0, .ref s.1), (1, .int s.2.1)] [] s.2.2 Q)) (r := x) ?_ xF _ h1
  intro s y hs hx
  exact L_X9_measure_s79 s.2.2 s.1 s.2.1 (x := y) hs (fun g hg => by subst hg; exact hR g hx) (fun e he => by subst he; exact hE e hx) (fun e he => by subst he; exact hx)
def f_X9_measure_j210 (σ : xM) (l0 : Nat) (l1 : Int32) : Option (xM ⊕ ((xM) ⊕ (Nat × Int32 × xM))) :=
  xlet (l1 + (1 : Int32)) (fun v44 => some (Sum.inr (Sum.inr (l0, v44, σ))))
set_option maxHeartbeats 4000000 in
set_option maxRecDepth 20000 in
theorem L_X9_measure_j210 {G : xG} {π : Nat → Nat} {d C Z : Nat} {Q : xQ} (σ : xM) (l0 : Nat) (l1 : Int32) {x : (xM ⊕ ((xM) ⊕ (Nat × Int32 × xM)))} (hf : f_X9_measure_j210 σ l0 l1 = some x) (hR : ∀ g, x = Sum.inl (g) → Q (.inl none) (g) π) (hE : ∀ e : (xM), x = Sum.inr (Sum.inl e) → xMach G π J_X9_measure (d + 0) C Z 216 [] [] e Q) (hC : ∀ e : (Nat × Int32 × xM), x = Sum.inr (Sum.inr e) → xMach G π J_X9_measure (d + 0) C Z 170 [(0, .ref e.1), (1, .int e.2.1)] [] e.2.2 Q) : xMach G π J_X9_measure (d + 0) C Z 210 [(0, .ref l0), (1, .int l1)] [] σ Q := by
  unfold f_X9_measure_j210 at hf
  refine xb_iinc dX9_measure_210 rfl (by decide) (by decide) hf (fun v44 ev44 hf => xm_stL (L' := [(1, .int v44), (0, .ref l0)]) rfl ?_)
  refine xm_goto 170 dX9_measure_213 (by decide) ?_
  cases hf
  exact xm_sub [1, 0] rfl (hC _ rfl)
def f_X9_measure_s170 (s : (Nat × Int32 × xM)) : Option (xM ⊕ ((xM) ⊕ (Nat × Int32 × xM))) :=
  xlet s.1 (fun l0 => xlet s.2.1 (fun l1 => xlet s.2.2 (fun σ => (gI σ l0 9 7).bind (fun x41 => (if x41 ≤ l1 then some (Sum.inr (Sum.inl σ)) else (gR σ l0 9 5).bind (fun x42 => (aI σ x42 14 l1).bind (fun x43 => (if x43 < (0 : Int32) then f_X9_measure_j210 σ l0 l1 else (gR σ l0 9 5).bind (fun x45 => (aI σ x45 14 l1).bind (fun x46 => (if (80 : Int32) ≤ x46 then f_X9_measure_j210 σ l0 l1 else (gR σ l0 9 6).bind (fun x47 => (gR σ l0 9 5).bind (fun x48 => (aI σ x48 14 l1).bind (fun x49 => (wI σ x47 x49 l1).bind (fun σ50 => f_X9_measure_j210 σ50 l0 l1)))))))))))))))
set_option maxHeartbeats 4000000 in
set_option maxRecDepth 20000 in
theorem L_X9_measure_s170 {G : xG} {π : Nat → Nat} {d C Z : Nat} {Q : xQ} (σ : xM) (l0 : Nat) (l1 : Int32) {x : (xM ⊕ ((xM) ⊕ (Nat × Int32 × xM)))} (hf : f_X9_measure_s170 (l0, l1, σ) = some x) (hR : ∀ g, x = Sum.inl (g) → Q (.inl none) (g) π) (hE : ∀ e : (xM), x = Sum.inr (Sum.inl e) → xMach G π J_X9_measure (d + 0) C Z 216 [] [] e Q) (hC : ∀ e : (Nat × Int32 × xM), x = Sum.inr (Sum.inr e) → xMach G π J_X9_measure (d + 0) C Z 170 [(0, .ref e.1), (1, .int e.2.1)] [] e.2.2 Q) : xMach G π J_X9_measure (d + 0) C Z 170 [(0, .ref l0), (1, .int l1)] [] σ Q := by
  have hf : (gI σ l0 9 7).bind (fun x41 => (if x41 ≤ l1 then some (Sum.inr (Sum.inl σ)) else (gR σ l0 9 5).bind (fun x42 => (aI σ x42 14 l1).bind (fun x43 => (if x43 < (0 : Int32) then f_X9_measure_j210 σ l0 l1 else (gR σ l0 9 5).bind (fun x45 => (aI σ x45 14 l1).bind (fun x46 => (if (80 : Int32) ≤ x46 then f_X9_measure_j210 σ l0 l1 else (gR σ l0 9 6).bind (fun x47 => (gR σ l0 9 5).bind (fun x48 => (aI σ x48 14 l1).bind (fun x49 => (wI σ x47 x49 l1).bind (fun σ50 => f_X9_measure_j210 σ50 l0 l1)))))))))))) = some x := hf
  refine xm_iload_n dX9_measure_170 rfl ?_
  refine xm_aload_n dX9_measure_171 rfl ?_
  refine xb_getI (a := l0) (c := 9) (k := 7) dX9_measure_172 xcl9 (by decide) xw_218 rfl hf (fun x41 ex41 hf => ?_)
  refine xb_icmp_ge 216 dX9_measure_175 (by decide) hf (fun c hf => ?_) (fun c hf => ?_)
  · cases hf
    exact xm_sub [] rfl (hE _ rfl)
  · refine xm_aload_n dX9_measure_178 rfl ?_
    refine xb_getR (a := l0) (c := 9) (k := 5) dX9_measure_179 xcl9 (by decide) xw_216 rfl hf (fun x42 ex42 hf => ?_)
    refine xm_iload_n dX9_measure_182 rfl ?_
    refine xb_iald dX9_measure_183 hf (fun x43 ex43 hf => ?_)
    refine xb_if_lt 210 dX9_measure_184 (by decide) hf (fun c hf => ?_) (fun c hf => ?_)
    · exact xm_sub [0, 1] rfl (L_X9_measure_j210 σ l0 l1 hf hR hE hC)
    · refine xm_aload_n dX9_measure_187 rfl ?_
      refine xb_getR (a := l0) (c := 9) (k := 5) dX9_measure_188 xcl9 (by decide) xw_216 rfl hf (fun x45 ex45 hf => ?_)
      refine xm_iload_n dX9_measure_191 rfl ?_
      refine xb_iald dX9_measure_192 hf (fun x46 ex46 hf => ?_)
      refine xm_bipush dX9_measure_193 (v := 80) (by decide) ?_
      refine xb_icmp_ge 210 dX9_measure_195 (by decide) hf (fun c hf => ?_) (fun c hf => ?_)
      · exact xm_sub [0, 1] rfl (L_X9_measure_j210 σ l0 l1 hf hR hE hC)
      · refine xm_aload_n dX9_measure_198 rfl ?_
        refine xb_getR (a := l0) (c := 9) (k := 6) dX9_measure_199 xcl9 (by decide) xw_217 rfl hf (fun x47 ex47 hf => ?_)
        refine xm_aload_n dX9_measure_202 rfl ?_
        refine xb_getR (a := l0) (c := 9) (k := 5) dX9_measure_203 xcl9 (by decide) xw_216 rfl hf (fun x48 ex48 hf => ?_)
        refine xm_iload_n dX9_measure_206 rfl ?_
        refine xb_iald dX9_measure_207 hf (fun x49 ex49 hf => ?_)
        refine xm_iload_n dX9_measure_208 rfl ?_
        refine xb_iast dX9_measure_209 hf (fun σ50 eσ50 hf => ?_)
        exact xm_sub [0, 1] rfl (L_X9_measure_j210 σ50 l0 l1 hf hR hE hC)
theorem L_X9_measure_l170 {G : xG} {π : Nat → Nat} {d C Z : Nat} {Q : xQ} {s0 : (Nat × Int32 × xM)} {x : (xM ⊕ (xM))} (h1 : xloop (f_X9_measure_s170) xF s0 = some x) (hR : ∀ g, x = Sum.inl g → Q (.inl none) (g) π) (hE : ∀ e : (xM), x = Sum.inr e → xMach G π J_X9_measure (d + 0) C Z 216 [] [] e Q) : xMach G π J_X9_measure (d + 0) C Z 170 [(0, .ref s0.1), (1, .int s0.2.1)] [] s0.2.2 Q := by
  refine xloop_run (M := (fun s : (Nat × Int32 × xM) => xMach G π J_X9_measure (d + 0) C Z 170 [(0, .ref s.1), (1, .int s.2.1)] [] s.2.2 Q)) (r := x) ?_ xF _ h1
  intro s y hs hx
  exact L_X9_measure_s170 s.2.2 s.1 s.2.1 (x := y) hs (fun g hg => by subst hg; exact hR g hx) (fun e he => by subst he; exact hE e hx) (fun e he => by subst he; exact hx)
def f_X9_measure_j216 (σ : xM)  : Option xM :=
  some σ
set_option maxHeartbeats 4000000 in
set_option maxRecDepth 20000 in
theorem L_X9_measure_j216 {G : xG} {π : Nat → Nat} {d C Z : Nat} {Q : xQ} (σ : xM)  {x : xM} (hf : f_X9_measure_j216 σ = some x) (hR : ∀ g, x = g → Q (.inl none) (g) π) : xMach G π J_X9_measure (d + 0) C Z 216 [] [] σ Q := by
  unfold f_X9_measure_j216 at hf
  cases hf
  exact xm_vret dX9_measure_216 rfl (hR _ rfl)
def f_X9_measure_j168 (σ : xM) (l0 : Nat) : Option xM :=
  xlet (0 : Int32) (fun v40 => (xloop (f_X9_measure_s170 ) xF (l0, v40, σ)).bind (Sum.elim (fun g => some g) (fun e => f_X9_measure_j216 e)))
set_option maxHeartbeats 4000000 in
set_option maxRecDepth 20000 in
theorem L_X9_measure_j168 {G : xG} {π : Nat → Nat} {d C Z : Nat} {Q : xQ} (σ : xM) (l0 : Nat) {x : xM} (hf : f_X9_measure_j168 σ l0 = some x) (hR : ∀ g, x = g → Q (.inl none) (g) π) : xMach G π J_X9_measure (d + 0) C Z 168 [(0, .ref l0)] [] σ Q := by
  unfold f_X9_measure_j168 at hf
  refine xm_iconst dX9_measure_168 (v := 0) (by decide) ?_
  refine xb_topi hf (fun v40 ev40 hf => ?_)
  refine xm_istore_n dX9_measure_169 (by decide) (xm_stL (L' := [(1, .int v40), (0, .ref l0)]) rfl ?_)
  obtain ⟨o, h1, hf⟩ := xbind hf
  refine xm_sub [1, 0] rfl (L_X9_measure_l170  h1 (fun g hg => ?_) (fun e he => ?_))
  · subst hg
    cases hf
    exact hR _ rfl
  · subst he
    rw [Sum.elim_inr] at hf
    have hf : f_X9_measure_j216 e = some _ := hf
    exact xm_sub [] rfl (L_X9_measure_j216 e hf hR)
def f_X9_measure_j65 (σ : xM) (l0 : Nat) : Option xM :=
  (gR σ l0 9 5).bind (fun x15 => (gI σ l0 9 7).bind (fun x16 => (wI σ x15 (0 : Int32) (x16 - (1 : Int32))).bind (fun σ17 => xlet (0 : Int32) (fun v18 => (xloop (f_X9_measure_s79 ) xF (l0, v18, σ17)).bind (Sum.elim (fun g => some g) (fun e => f_X9_measure_j168 e.2 e.1))))))
set_option maxHeartbeats 4000000 in
set_option maxRecDepth 20000 in
theorem L_X9_measure_j65 {G : xG} {π : Nat → Nat} {d C Z : Nat} {Q : xQ} (σ : xM) (l0 : Nat) {x : xM} (hf : f_X9_measure_j65 σ l0 = some x) (hR : ∀ g, x = g → Q (.inl none) (g) π) : xMach G π J_X9_measure (d + 0) C Z 65 [(0, .ref l0)] [] σ Q := by
  unfold f_X9_measure_j65 at hf
  refine xm_aload_n dX9_measure_65 rfl ?_
  refine xb_getR (a := l0) (c := 9) (k := 5) dX9_measure_66 xcl9 (by decide) xw_216 rfl hf (fun x15 ex15 hf => ?_)
  refine xm_iconst dX9_measure_69 (v := 0) (by decide) ?_
  refine xm_aload_n dX9_measure_70 rfl ?_
  refine xb_getI (a := l0) (c := 9) (k := 7) dX9_measure_71 xcl9 (by decide) xw_218 rfl hf (fun x16 ex16 hf => ?_)
  refine xm_iconst dX9_measure_74 (v := 1) (by decide) ?_
  refine xm_isub dX9_measure_75 ?_
  refine xb_iast dX9_measure_76 hf (fun σ17 eσ17 hf => ?_)
  refine xm_iconst dX9_measure_77 (v := 0) (by decide) ?_
  refine xb_topi hf (fun v18 ev18 hf => ?_)
  refine xm_istore_n dX9_measure_78 (by decide) (xm_stL (L' := [(1, .int v18), (0, .ref l0)]) rfl ?_)
  obtain ⟨o, h1, hf⟩ := xbind hf
  refine xm_sub [1, 0] rfl (L_X9_measure_l79  h1 (fun g hg => ?_) (fun e he => ?_))
  · subst hg
    cases hf
    exact hR _ rfl
  · subst he
    rw [Sum.elim_inr] at hf
    have hf : f_X9_measure_j168 e.2 e.1 = some _ := hf
    exact xm_sub [0] rfl (L_X9_measure_j168 e.2 e.1 hf hR)
def f_X9_measure (σ : xM) (l0 : Nat) : Option xM :=
  (gI σ l0 9 7).bind (fun x1 => xlet (x1 - (1 : Int32)) (fun v2 => (xloop (f_X9_measure_s7 ) xF (l0, v2, σ)).bind (Sum.elim (fun g => some g) (fun e => f_X9_measure_j65 e.2 e.1))))
set_option maxHeartbeats 4000000 in
set_option maxRecDepth 20000 in
theorem m_X9_measure {G : xG} {π : Nat → Nat} {d C Z : Nat} {Q : xQ} {σ : xM} {l0 : Nat} {x : xM} (hf : f_X9_measure σ l0 = some x) (hR : ∀ g, x = g → Q (.inl none) (g) π) : xMach G π J_X9_measure (d + 0) C Z 0 (lv_args 0 [.ref l0]) [] σ Q := by
  unfold f_X9_measure at hf
  refine xm_stL (L' := [(0, .ref l0)]) rfl ?_
  refine xm_aload_n dX9_measure_0 rfl ?_
  refine xb_getI (a := l0) (c := 9) (k := 7) dX9_measure_1 xcl9 (by decide) xw_218 rfl hf (fun x1 ex1 hf => ?_)
  refine xm_iconst dX9_measure_4 (v := 1) (by decide) ?_
  refine xm_isub dX9_measure_5 ?_
  refine xb_topi hf (fun v2 ev2 hf => ?_)
  refine xm_istore_n dX9_measure_6 (by decide) (xm_stL (L' := [(1, .int v2), (0, .ref l0)]) rfl ?_)
  obtain ⟨o, h1, hf⟩ := xbind hf
  refine xm_sub [1, 0] rfl (L_X9_measure_l7  h1 (fun g hg => ?_) (fun e he => ?_))
  · subst hg
    cases hf
    exact hR _ rfl
  · subst he
    rw [Sum.elim_inr] at hf
    have hf : f_X9_measure_j65 e.2 e.1 = some _ := hf
    exact xm_sub [0] rfl (L_X9_measure_j65 e.2 e.1 hf hR)
-- Rankwise$Tree.turn(LRankwise$Tree;)V
def f_X9_turn_s23 (σ : xM) (s : (Nat × Nat × Int32 × Int32 × Int32)) : Option (xM ⊕ ((Nat × Nat × Int32 × Int32) ⊕ (Nat × Nat × Int32 × Int32 × Int32))) :=
  xlet s.1 (fun l0 => xlet s.2.1 (fun l1 => xlet s.2.2.1 (fun l2 => xlet s.2.2.2.1 (fun l3 => xlet s.2.2.2.2 (fun l4 => (gR σ l1 9 3).bind (fun x6 => (aI σ x6 14 l2).bind (fun x7 => (if x7 ≤ l4 then some (Sum.inr (Sum.inl (l0, l1, l2, l3))) else (if l3 ≤ (0 : Int32) then some (Sum.inr (Sum.inl (l0, l1, l2, l3))) else (gR σ l1 9 4).bind (fun x8 => (aI σ x8 14 (l3 - (1 : Int32))).bind (fun x9 => xlet (l3 - x9) (fun v10 => xlet (l4 + (1 : Int32)) (fun v11 => some (Sum.inr (Sum.inr (l0, l1, l2, v10, v11))))))))))))))))
set_option maxHeartbeats 4000000 in
set_option maxRecDepth 20000 in
theorem L_X9_turn_s23 {G : xG} {π : Nat → Nat} {d C Z : Nat} {Q : xQ} (σ : xM) (l0 : Nat) (l1 : Nat) (l2 : Int32) (l3 : Int32) (l4 : Int32) {x : (xM ⊕ ((Nat × Nat × Int32 × Int32) ⊕ (Nat × Nat × Int32 × Int32 × Int32)))} (hf : f_X9_turn_s23 σ (l0, l1, l2, l3, l4) = some x) (hR : ∀ g, x = Sum.inl (g) → Q (.inl none) (g) π) (hE : ∀ e : (Nat × Nat × Int32 × Int32), x = Sum.inr (Sum.inl e) → xMach G π J_X9_turn (d + 1) C Z 55 [(0, .ref e.1), (1, .ref e.2.1), (2, .int e.2.2.1), (3, .int e.2.2.2)] [] σ Q) (hC : ∀ e : (Nat × Nat × Int32 × Int32 × Int32), x = Sum.inr (Sum.inr e) → xMach G π J_X9_turn (d + 1) C Z 23 [(0, .ref e.1), (1, .ref e.2.1), (2, .int e.2.2.1), (3, .int e.2.2.2.1), (4, .int e.2.2.2.2)] [] σ Q) : xMach G π J_X9_turn (d + 1) C Z 23 [(0, .ref l0), (1, .ref l1), (2, .int l2), (3, .int l3), (4, .int l4)] [] σ Q := by
  have hf : (gR σ l1 9 3).bind (fun x6 => (aI σ x6 14 l2).bind (fun x7 => (if x7 ≤ l4 then some (Sum.inr (Sum.inl (l0, l1, l2, l3))) else (if l3 ≤ (0 : Int32) then some (Sum.inr (Sum.inl (l0, l1, l2, l3))) else (gR σ l1 9 4).bind (fun x8 => (aI σ x8 14 (l3 - (1 : Int32))).bind (fun x9 => xlet (l3 - x9) (fun v10 => xlet (l4 + (1 : Int32)) (fun v11 => some (Sum.inr (Sum.inr (l0, l1, l2, v10, v11))))))))))) = some x := hf
  refine xm_iload dX9_turn_23 rfl ?_
  refine xm_aload_n dX9_turn_25 rfl ?_
  refine xb_getR (a := l1) (c := 9) (k := 3) dX9_turn_26 xcl9 (by decide) xw_208 rfl hf (fun x6 ex6 hf => ?_)
  refine xm_iload_n dX9_turn_29 rfl ?_
  refine xb_iald dX9_turn_30 hf (fun x7 ex7 hf => ?_)
  refine xb_icmp_ge 55 dX9_turn_31 (by decide) hf (fun c hf => ?_) (fun c hf => ?_)
  · cases hf
    exact xm_sub [0, 1, 2, 3] rfl (hE _ rfl)
  · refine xm_iload_n dX9_turn_34 rfl ?_
    refine xb_if_le 55 dX9_turn_35 (by decide) hf (fun c hf => ?_) (fun c hf => ?_)
    · cases hf
      exact xm_sub [0, 1, 2, 3] rfl (hE _ rfl)
    · refine xm_iload_n dX9_turn_38 rfl ?_
      refine xm_aload_n dX9_turn_39 rfl ?_
      refine xb_getR (a := l1) (c := 9) (k := 4) dX9_turn_40 xcl9 (by decide) xw_213 rfl hf (fun x8 ex8 hf => ?_)
      refine xm_iload_n dX9_turn_43 rfl ?_
      refine xm_iconst dX9_turn_44 (v := 1) (by decide) ?_
      refine xm_isub dX9_turn_45 ?_
      refine xb_iald dX9_turn_46 hf (fun x9 ex9 hf => ?_)
      refine xm_isub dX9_turn_47 ?_
      refine xb_topi hf (fun v10 ev10 hf => ?_)
      refine xm_istore_n dX9_turn_48 (by decide) (xm_stL (L' := [(3, .int v10), (0, .ref l0), (1, .ref l1), (2, .int l2), (4, .int l4)]) rfl ?_)
      refine xb_iinc dX9_turn_49 rfl (by decide) (by decide) hf (fun v11 ev11 hf => xm_stL (L' := [(4, .int v11), (3, .int v10), (0, .ref l0), (1, .ref l1), (2, .int l2)]) rfl ?_)
      refine xm_goto 23 dX9_turn_52 (by decide) ?_
      cases hf
      exact xm_sub [2, 3, 4, 1, 0] rfl (hC _ rfl)
theorem L_X9_turn_l23 {G : xG} {π : Nat → Nat} {d C Z : Nat} {Q : xQ} (σ : xM) {s0 : (Nat × Nat × Int32 × Int32 × Int32)} {x : (xM ⊕ (Nat × Nat × Int32 × Int32))} (h1 : xloop (f_X9_turn_s23 σ) xF s0 = some x) (hR : ∀ g, x = Sum.inl g → Q (.inl none) (g) π) (hE : ∀ e : (Nat × Nat × Int32 × Int32), x = Sum.inr e → xMach G π J_X9_turn (d + 1) C Z 55 [(0, .ref e.1), (1, .ref e.2.1), (2, .int e.2.2.1), (3, .int e.2.2.2)] [] σ Q) : xMach G π J_X9_turn (d + 1) C Z 23 [(0, .ref s0.1), (1, .ref s0.2.1), (2, .int s0.2.2.1), (3, .int s0.2.2.2.1), (4, .int s0.2.2.2.2)] [] σ Q := by
  refine xloop_run (M := (fun s : (Nat × Nat × Int32 × Int32 × Int32) => xMach G π J_X9_turn (d + 1) C Z 23 [(0, .ref s.1), (1, .ref s.2.1), (2, .int s.2.2.1), (3, .int s.2.2.2.1), (4, .int s.2.2.2.2)] [] σ Q)) (r := x) ?_ xF _ h1
  intro s y hs hx
  exact L_X9_turn_s23 σ s.1 s.2.1 s.2.2.1 s.2.2.2.1 s.2.2.2.2 (x := y) hs (fun g hg => by subst hg; exact hR g hx) (fun e he => by subst he; exact hE e hx) (fun e he => by subst he; exact hx)
def f_X9_turn_j55 (σ : xM) (l0 : Nat) (l1 : Nat) (l2 : Int32) (l3 : Int32) : Option (xM ⊕ ((Nat × Nat × xM) ⊕ (Nat × Nat × Int32 × xM))) :=
  (gR σ l1 9 4).bind (fun x12 => (wI σ x12 l2 ((l2 - l3) + (1 : Int32))).bind (fun σ13 => xlet (l2 + (1 : Int32)) (fun v14 => some (Sum.inr (Sum.inr (l0, l1, v14, σ13))))))
set_option maxHeartbeats 4000000 in
set_option maxRecDepth 20000 in
theorem L_X9_turn_j55 {G : xG} {π : Nat → Nat} {d C Z : Nat} {Q : xQ} (σ : xM) (l0 : Nat) (l1 : Nat) (l2 : Int32) (l3 : Int32) {x : (xM ⊕ ((Nat × Nat × xM) ⊕ (Nat × Nat × Int32 × xM)))} (hf : f_X9_turn_j55 σ l0 l1 l2 l3 = some x) (hR : ∀ g, x = Sum.inl (g) → Q (.inl none) (g) π) (hE : ∀ e : (Nat × Nat × xM), x = Sum.inr (Sum.inl e) → xMach G π J_X9_turn (d + 1) C Z 72 [(0, .ref e.1), (1, .ref e.2.1)] [] e.2.2 Q) (hC : ∀ e : (Nat × Nat × Int32 × xM), x = Sum.inr (Sum.inr e) → xMach G π J_X9_turn (d + 1) C Z 10 [(0, .ref e.1), (1, .ref e.2.1), (2, .int e.2.2.1)] [] e.2.2.2 Q) : xMach G π J_X9_turn (d + 1) C Z 55 [(0, .ref l0), (1, .ref l1), (2, .int l2), (3, .int l3)] [] σ Q := by
  unfold f_X9_turn_j55 at hf
  refine xm_aload_n dX9_turn_55 rfl ?_
  refine xb_getR (a := l1) (c := 9) (k := 4) dX9_turn_56 xcl9 (by decide) xw_213 rfl hf (fun x12 ex12 hf => ?_)
  refine xm_iload_n dX9_turn_59 rfl ?_
  refine xm_iload_n dX9_turn_60 rfl ?_
  refine xm_iload_n dX9_turn_61 rfl ?_
  refine xm_isub dX9_turn_62 ?_
  refine xm_iconst dX9_turn_63 (v := 1) (by decide) ?_
  refine xm_iadd dX9_turn_64 ?_
  refine xb_iast dX9_turn_65 hf (fun σ13 eσ13 hf => ?_)
  refine xb_iinc dX9_turn_66 rfl (by decide) (by decide) hf (fun v14 ev14 hf => xm_stL (L' := [(2, .int v14), (0, .ref l0), (1, .ref l1), (3, .int l3)]) rfl ?_)
  refine xm_goto 10 dX9_turn_69 (by decide) ?_
  cases hf
  exact xm_sub [1, 2, 0] rfl (hC _ rfl)
def f_X9_turn_s10 (s : (Nat × Nat × Int32 × xM)) : Option (xM ⊕ ((Nat × Nat × xM) ⊕ (Nat × Nat × Int32 × xM))) :=
  xlet s.1 (fun l0 => xlet s.2.1 (fun l1 => xlet s.2.2.1 (fun l2 => xlet s.2.2.2 (fun σ => (gI σ l0 9 7).bind (fun x4 => (if x4 ≤ l2 then some (Sum.inr (Sum.inl (l0, l1, σ))) else xlet (0 : Int32) (fun v5 => (xloop (f_X9_turn_s23 σ ) xF (l0, l1, l2, l2, v5)).bind (Sum.elim (fun g => some (Sum.inl g)) (fun e => f_X9_turn_j55 σ e.1 e.2.1 e.2.2.1 e.2.2.2)))))))))
set_option maxHeartbeats 4000000 in
set_option maxRecDepth 20000 in
theorem L_X9_turn_s10 {G : xG} {π : Nat → Nat} {d C Z : Nat} {Q : xQ} (σ : xM) (l0 : Nat) (l1 : Nat) (l2 : Int32) {x : (xM ⊕ ((Nat × Nat × xM) ⊕ (Nat × Nat × Int32 × xM)))} (hf : f_X9_turn_s10 (l0, l1, l2, σ) = some x) (hR : ∀ g, x = Sum.inl (g) → Q (.inl none) (g) π) (hE : ∀ e : (Nat × Nat × xM), x = Sum.inr (Sum.inl e) → xMach G π J_X9_turn (d + 1) C Z 72 [(0, .ref e.1), (1, .ref e.2.1)] [] e.2.2 Q) (hC : ∀ e : (Nat × Nat × Int32 × xM), x = Sum.inr (Sum.inr e) → xMach G π J_X9_turn (d + 1) C Z 10 [(0, .ref e.1), (1, .ref e.2.1), (2, .int e.2.2.1)] [] e.2.2.2 Q) : xMach G π J_X9_turn (d + 1) C Z 10 [(0, .ref l0), (1, .ref l1), (2, .int l2)] [] σ Q := by
  have hf : (gI σ l0 9 7).bind (fun x4 => (if x4 ≤ l2 then some (Sum.inr (Sum.inl (l0, l1, σ))) else xlet (0 : Int32) (fun v5 => (xloop (f_X9_turn_s23 σ ) xF (l0, l1, l2, l2, v5)).bind (Sum.elim (fun g => some (Sum.inl g)) (fun e => f_X9_turn_j55 σ e.1 e.2.1 e.2.2.1 e.2.2.2))))) = some x := hf
  refine xm_iload_n dX9_turn_10 rfl ?_
  refine xm_aload_n dX9_turn_11 rfl ?_
  refine xb_getI (a := l0) (c := 9) (k := 7) dX9_turn_12 xcl9 (by decide) xw_218 rfl hf (fun x4 ex4 hf => ?_)
  refine xb_icmp_ge 72 dX9_turn_15 (by decide) hf (fun c hf => ?_) (fun c hf => ?_)
  · cases hf
    exact xm_sub [0, 1] rfl (hE _ rfl)
  · refine xm_iload_n dX9_turn_18 rfl ?_
    refine xm_istore_n dX9_turn_19 (by decide) (xm_stL (L' := [(3, .int l2), (0, .ref l0), (1, .ref l1), (2, .int l2)]) rfl ?_)
    refine xm_iconst dX9_turn_20 (v := 0) (by decide) ?_
    refine xb_topi hf (fun v5 ev5 hf => ?_)
    refine xm_istore dX9_turn_21 (by decide) (xm_stL (L' := [(4, .int v5), (3, .int l2), (0, .ref l0), (1, .ref l1), (2, .int l2)]) rfl ?_)
    obtain ⟨o, h1, hf⟩ := xbind hf
    refine xm_sub [2, 3, 4, 1, 0] rfl (L_X9_turn_l23 σ h1 (fun g hg => ?_) (fun e he => ?_))
    · subst hg
      cases hf
      exact hR _ rfl
    · subst he
      rw [Sum.elim_inr] at hf
      have hf : f_X9_turn_j55 σ e.1 e.2.1 e.2.2.1 e.2.2.2 = some _ := hf
      exact xm_sub [0, 1, 2, 3] rfl (L_X9_turn_j55 σ e.1 e.2.1 e.2.2.1 e.2.2.2 hf hR hE hC)
theorem L_X9_turn_l10 {G : xG} {π : Nat → Nat} {d C Z : Nat} {Q : xQ} {s0 : (Nat × Nat × Int32 × xM)} {x : (xM ⊕ (Nat × Nat × xM))} (h1 : xloop (f_X9_turn_s10) xF s0 = some x) (hR : ∀ g, x = Sum.inl g → Q (.inl none) (g) π) (hE : ∀ e : (Nat × Nat × xM), x = Sum.inr e → xMach G π J_X9_turn (d + 1) C Z 72 [(0, .ref e.1), (1, .ref e.2.1)] [] e.2.2 Q) : xMach G π J_X9_turn (d + 1) C Z 10 [(0, .ref s0.1), (1, .ref s0.2.1), (2, .int s0.2.2.1)] [] s0.2.2.2 Q := by
  refine xloop_run (M := (fun s : (Nat × Nat × Int32 × xM) => xMach G π J_X9_turn (d + 1) C Z 10 [(0, .ref s.1), (1, .ref s.2.1), (2, .int s.2.2.1)] [] s.2.2.2 Q)) (r := x) ?_ xF _ h1
  intro s y hs hx
  exact L_X9_turn_s10 s.2.2.2 s.1 s.2.1 s.2.2.1 (x := y) hs (fun g hg => by subst hg; exact hR g hx) (fun e he => by subst he; exact hE e hx) (fun e he => by subst he; exact hx)
def f_X9_turn_s121 (s : (Nat × Nat × Int32 × Int32 × Int32 × Int32 × xM)) : Option (xM ⊕ ((Nat × Nat × Int32 × xM) ⊕ (Nat × Nat × Int32 × Int32 × Int32 × Int32 × xM))) :=
  xlet s.1 (fun l0 => xlet s.2.1 (fun l1 => xlet s.2.2.1 (fun l2 => xlet s.2.2.2.1 (fun l3 => xlet s.2.2.2.2.1 (fun l4 => xlet s.2.2.2.2.2.1 (fun l5 => xlet s.2.2.2.2.2.2 (fun σ => (gR σ l1 9 3).bind (fun x27 => (aI σ x27 14 l2).bind (fun x28 => (if x28 ≤ l5 then some (Sum.inr (Sum.inl (l0, l1, l2, σ))) else (if l4 < (0 : Int32) then some (Sum.inr (Sum.inl (l0, l1, l2, σ))) else (gR σ l1 9 4).bind (fun x29 => (aI σ x29 14 l4).bind (fun x30 => xlet (l3 - x30) (fun v31 => (gR σ l1 9 5).bind (fun x32 => (wI σ x32 l4 v31).bind (fun σ33 => (gR σ33 l1 9 4).bind (fun x34 => (aI σ33 x34 14 l4).bind (fun x35 => xlet (l4 - x35) (fun v36 => xlet (l5 + (1 : Int32)) (fun v37 => some (Sum.inr (Sum.inr (l0, l1, l2, v31, v36, v37, σ33)))))))))))))))))))))))
set_option maxHeartbeats 4000000 in
set_option maxRecDepth 20000 in
theorem L_X9_turn_s121 {G : xG} {π : Nat → Nat} {d C Z : Nat} {Q : xQ} (σ : xM) (l0 : Nat) (l1 : Nat) (l2 : Int32) (l3 : Int32) (l4 : Int32) (l5 : Int32) {x : (xM ⊕ ((Nat × Nat × Int32 × xM) ⊕ (Nat × Nat × Int32 × Int32 × Int32 × Int32 × xM)))} (hf : f_X9_turn_s121 (l0, l1, l2, l3, l4, l5, σ) = some x) (hR : ∀ g, x = Sum.inl (g) → Q (.inl none) (g) π) (hE : ∀ e : (Nat × Nat × Int32 × xM), x = Sum.inr (Sum.inl e) → xMach G π J_X9_turn (d + 1) C Z 173 [(0, .ref e.1), (1, .ref e.2.1), (2, .int e.2.2.1)] [] e.2.2.2 Q) (hC : ∀ e : (Nat × Nat × Int32 × Int32 × Int32 × Int32 × xM), x = Sum.inr (Sum.inr e) → xMach G π J_X9_turn (d + 1) C Z 121 [(0, .ref e.1), (1, .ref e.2.1), (2, .int e.2.2.1), (3, .int e.2.2.2.1), (4, .int e.2.2.2.2.1), (5, .int e.2.2.2.2.2.1)] [] e.2.2.2.2.2.2 Q) : xMach G π J_X9_turn (d + 1) C Z 121 [(0, .ref l0), (1, .ref l1), (2, .int l2), (3, .int l3), (4, .int l4), (5, .int l5)] [] σ Q := by
  have hf : (gR σ l1 9 3).bind (fun x27 => (aI σ x27 14 l2).bind (fun x28 => (if x28 ≤ l5 then some (Sum.inr (Sum.inl (l0, l1, l2, σ))) else (if l4 < (0 : Int32) then some (Sum.inr (Sum.inl (l0, l1, l2, σ))) else (gR σ l1 9 4).bind (fun x29 => (aI σ x29 14 l4).bind (fun x30 => xlet (l3 - x30) (fun v31 => (gR σ l1 9 5).bind (fun x32 => (wI σ x32 l4 v31).bind (fun σ33 => (gR σ33 l1 9 4).bind (fun x34 => (aI σ33 x34 14 l4).bind (fun x35 => xlet (l4 - x35) (fun v36 => xlet (l5 + (1 : Int32)) (fun v37 => some (Sum.inr (Sum.inr (l0, l1, l2, v31, v36, v37, σ33)))))))))))))))) = some x := hf
  refine xm_iload dX9_turn_121 rfl ?_
  refine xm_aload_n dX9_turn_123 rfl ?_
  refine xb_getR (a := l1) (c := 9) (k := 3) dX9_turn_124 xcl9 (by decide) xw_208 rfl hf (fun x27 ex27 hf => ?_)
  refine xm_iload_n dX9_turn_127 rfl ?_
  refine xb_iald dX9_turn_128 hf (fun x28 ex28 hf => ?_)
  refine xb_icmp_ge 173 dX9_turn_129 (by decide) hf (fun c hf => ?_) (fun c hf => ?_)
  · cases hf
    exact xm_sub [0, 1, 2] rfl (hE _ rfl)
  · refine xm_iload dX9_turn_132 rfl ?_
    refine xb_if_lt 173 dX9_turn_134 (by decide) hf (fun c hf => ?_) (fun c hf => ?_)
    · cases hf
      exact xm_sub [0, 1, 2] rfl (hE _ rfl)
    · refine xm_iload_n dX9_turn_137 rfl ?_
      refine xm_aload_n dX9_turn_138 rfl ?_
      refine xb_getR (a := l1) (c := 9) (k := 4) dX9_turn_139 xcl9 (by decide) xw_213 rfl hf (fun x29 ex29 hf => ?_)
      refine xm_iload dX9_turn_142 rfl ?_
      refine xb_iald dX9_turn_144 hf (fun x30 ex30 hf => ?_)
      refine xm_isub dX9_turn_145 ?_
      refine xb_topi hf (fun v31 ev31 hf => ?_)
      refine xm_istore_n dX9_turn_146 (by decide) (xm_stL (L' := [(3, .int v31), (0, .ref l0), (1, .ref l1), (2, .int l2), (4, .int l4), (5, .int l5)]) rfl ?_)
      refine xm_aload_n dX9_turn_147 rfl ?_
      refine xb_getR (a := l1) (c := 9) (k := 5) dX9_turn_148 xcl9 (by decide) xw_216 rfl hf (fun x32 ex32 hf => ?_)
      refine xm_iload dX9_turn_151 rfl ?_
      refine xm_iload_n dX9_turn_153 rfl ?_
      refine xb_iast dX9_turn_154 hf (fun σ33 eσ33 hf => ?_)
      refine xm_iload dX9_turn_155 rfl ?_
      refine xm_aload_n dX9_turn_157 rfl ?_
      refine xb_getR (a := l1) (c := 9) (k := 4) dX9_turn_158 xcl9 (by decide) xw_213 rfl hf (fun x34 ex34 hf => ?_)
      refine xm_iload dX9_turn_161 rfl ?_
      refine xb_iald dX9_turn_163 hf (fun x35 ex35 hf => ?_)
      refine xm_isub dX9_turn_164 ?_
      refine xb_topi hf (fun v36 ev36 hf => ?_)
      refine xm_istore dX9_turn_165 (by decide) (xm_stL (L' := [(4, .int v36), (3, .int v31), (0, .ref l0), (1, .ref l1), (2, .int l2), (5, .int l5)]) rfl ?_)
      refine xb_iinc dX9_turn_167 rfl (by decide) (by decide) hf (fun v37 ev37 hf => xm_stL (L' := [(5, .int v37), (4, .int v36), (3, .int v31), (0, .ref l0), (1, .ref l1), (2, .int l2)]) rfl ?_)
      refine xm_goto 121 dX9_turn_170 (by decide) ?_
      cases hf
      exact xm_sub [3, 4, 5, 2, 1, 0] rfl (hC _ rfl)
theorem L_X9_turn_l121 {G : xG} {π : Nat → Nat} {d C Z : Nat} {Q : xQ} {s0 : (Nat × Nat × Int32 × Int32 × Int32 × Int32 × xM)} {x : (xM ⊕ (Nat × Nat × Int32 × xM))} (h1 : xloop (f_X9_turn_s121) xF s0 = some x) (hR : ∀ g, x = Sum.inl g → Q (.inl none) (g) π) (hE : ∀ e : (Nat × Nat × Int32 × xM), x = Sum.inr e → xMach G π J_X9_turn (d + 1) C Z 173 [(0, .ref e.1), (1, .ref e.2.1), (2, .int e.2.2.1)] [] e.2.2.2 Q) : xMach G π J_X9_turn (d + 1) C Z 121 [(0, .ref s0.1), (1, .ref s0.2.1), (2, .int s0.2.2.1), (3, .int s0.2.2.2.1), (4, .int s0.2.2.2.2.1), (5, .int s0.2.2.2.2.2.1)] [] s0.2.2.2.2.2.2 Q := by
  refine xloop_run (M := (fun s : (Nat × Nat × Int32 × Int32 × Int32 × Int32 × xM) => xMach G π J_X9_turn (d + 1) C Z 121 [(0, .ref s.1), (1, .ref s.2.1), (2, .int s.2.2.1), (3, .int s.2.2.2.1), (4, .int s.2.2.2.2.1), (5, .int s.2.2.2.2.2.1)] [] s.2.2.2.2.2.2 Q)) (r := x) ?_ xF _ h1
  intro s y hs hx
  exact L_X9_turn_s121 s.2.2.2.2.2.2 s.1 s.2.1 s.2.2.1 s.2.2.2.1 s.2.2.2.2.1 s.2.2.2.2.2.1 (x := y) hs (fun g hg => by subst hg; exact hR g hx) (fun e he => by subst he; exact hE e hx) (fun e he => by subst he; exact hx)
def f_X9_turn_j173 (σ : xM) (l0 : Nat) (l1 : Nat) (l2 : Int32) : Option (xM ⊕ ((Nat × xM) ⊕ (Nat × Nat × Int32 × xM))) :=
  (gR σ l1 9 5).bind (fun x38 => (aI σ x38 14 l2).bind (fun x39 => (if xk σ l0 9 = true then (f_X9_put σ l0 x39 l1 l2).bind (fun p40 => xlet (l2 + (-1 : Int32)) (fun v41 => some (Sum.inr (Sum.inr (l0, l1, v41, p40))))) else none)))
set_option maxHeartbeats 4000000 in
set_option maxRecDepth 20000 in
theorem L_X9_turn_j173 {G : xG} {π : Nat → Nat} {d C Z : Nat} {Q : xQ} (σ : xM) (l0 : Nat) (l1 : Nat) (l2 : Int32) {x : (xM ⊕ ((Nat × xM) ⊕ (Nat × Nat × Int32 × xM)))} (hf : f_X9_turn_j173 σ l0 l1 l2 = some x) (hR : ∀ g, x = Sum.inl (g) → Q (.inl none) (g) π) (hE : ∀ e : (Nat × xM), x = Sum.inr (Sum.inl e) → xMach G π J_X9_turn (d + 1) C Z 191 [(0, .ref e.1)] [] e.2 Q) (hC : ∀ e : (Nat × Nat × Int32 × xM), x = Sum.inr (Sum.inr e) → xMach G π J_X9_turn (d + 1) C Z 95 [(0, .ref e.1), (1, .ref e.2.1), (2, .int e.2.2.1)] [] e.2.2.2 Q) : xMach G π J_X9_turn (d + 1) C Z 173 [(0, .ref l0), (1, .ref l1), (2, .int l2)] [] σ Q := by
  unfold f_X9_turn_j173 at hf
  refine xm_aload_n dX9_turn_173 rfl ?_
  refine xm_aload_n dX9_turn_174 rfl ?_
  refine xb_getR (a := l1) (c := 9) (k := 5) dX9_turn_175 xcl9 (by decide) xw_216 rfl hf (fun x38 ex38 hf => ?_)
  refine xm_iload_n dX9_turn_178 rfl ?_
  refine xb_iald dX9_turn_179 hf (fun x39 ex39 hf => ?_)
  refine xm_aload_n dX9_turn_180 rfl ?_
  refine xm_iload_n dX9_turn_181 rfl ?_
  refine xb_if hf (fun hb hf => ?_) (fun _ q => nomatch q)
  obtain ⟨p40, ep40, hf⟩ := xbind hf
  refine xb_callV (As := [.int x39, .ref l1, .int l2]) (v0 := none) (τ0 := p40) dX9_turn_182 (xc_X9_put _ _) xcl9 xw_811 xw_813 xs_15 hb rfl (Nat.le_of_ble_eq_true rfl) rfl (Nat.le_of_ble_eq_true rfl) (fun Q1 hq => m_X9_put (d := d + 0) ep40 (fun g hg => by subst hg; exact hq)) ?_
  refine xb_iinc dX9_turn_185 rfl (by decide) (by decide) hf (fun v41 ev41 hf => xm_stL (L' := [(2, .int v41), (0, .ref l0), (1, .ref l1)]) rfl ?_)
  refine xm_goto 95 dX9_turn_188 (by decide) ?_
  cases hf
  exact xm_sub [1, 2, 0] rfl (hC _ rfl)
def f_X9_turn_s95 (s : (Nat × Nat × Int32 × xM)) : Option (xM ⊕ ((Nat × xM) ⊕ (Nat × Nat × Int32 × xM))) :=
  xlet s.1 (fun l0 => xlet s.2.1 (fun l1 => xlet s.2.2.1 (fun l2 => xlet s.2.2.2 (fun σ => (if l2 < (0 : Int32) then some (Sum.inr (Sum.inl (l0, σ))) else (gR σ l1 9 5).bind (fun x20 => (aI σ x20 14 l2).bind (fun x21 => (gR σ l1 9 4).bind (fun x22 => (aI σ x22 14 l2).bind (fun x23 => xlet (x21 + x23) (fun v24 => xlet (l2 - (1 : Int32)) (fun v25 => xlet (0 : Int32) (fun v26 => (xloop (f_X9_turn_s121 ) xF (l0, l1, l2, v24, v25, v26, σ)).bind (Sum.elim (fun g => some (Sum.inl g)) (fun e => f_X9_turn_j173 e.2.2.2 e.1 e.2.1 e.2.2.1))))))))))))))
set_option maxHeartbeats 4000000 in
set_option maxRecDepth 20000 in
theorem L_X9_turn_s95 {G : xG} {π : Nat → Nat} {d C Z : Nat} {Q : xQ} (σ : xM) (l0 : Nat) (l1 : Nat) (l2 : Int32) {x : (xM ⊕ ((Nat × xM) ⊕ (Nat × Nat × Int32 × xM)))} (hf : f_X9_turn_s95 (l0, l1, l2, σ) = some x) (hR : ∀ g, x = Sum.inl (g) → Q (.inl none) (g) π) (hE : ∀ e : (Nat × xM), x = Sum.inr (Sum.inl e) → xMach G π J_X9_turn (d + 1) C Z 191 [(0, .ref e.1)] [] e.2 Q) (hC : ∀ e : (Nat × Nat × Int32 × xM), x = Sum.inr (Sum.inr e) → xMach G π J_X9_turn (d + 1) C Z 95 [(0, .ref e.1), (1, .ref e.2.1), (2, .int e.2.2.1)] [] e.2.2.2 Q) : xMach G π J_X9_turn (d + 1) C Z 95 [(0, .ref l0), (1, .ref l1), (2, .int l2)] [] σ Q := by
  have hf : (if l2 < (0 : Int32) then some (Sum.inr (Sum.inl (l0, σ))) else (gR σ l1 9 5).bind (fun x20 => (aI σ x20 14 l2).bind (fun x21 => (gR σ l1 9 4).bind (fun x22 => (aI σ x22 14 l2).bind (fun x23 => xlet (x21 + x23) (fun v24 => xlet (l2 - (1 : Int32)) (fun v25 => xlet (0 : Int32) (fun v26 => (xloop (f_X9_turn_s121 ) xF (l0, l1, l2, v24, v25, v26, σ)).bind (Sum.elim (fun g => some (Sum.inl g)) (fun e => f_X9_turn_j173 e.2.2.2 e.1 e.2.1 e.2.2.1)))))))))) = some x := hf
  refine xm_iload_n dX9_turn_95 rfl ?_
  refine xb_if_lt 191 dX9_turn_96 (by decide) hf (fun c hf => ?_) (fun c hf => ?_)
  · cases hf
    exact xm_sub [0] rfl (hE _ rfl)
  · refine xm_aload_n dX9_turn_99 rfl ?_
    refine xb_getR (a := l1) (c := 9) (k := 5) dX9_turn_100 xcl9 (by decide) xw_216 rfl hf (fun x20 ex20 hf => ?_)
    refine xm_iload_n dX9_turn_103 rfl ?_
    refine xb_iald dX9_turn_104 hf (fun x21 ex21 hf => ?_)
    refine xm_aload_n dX9_turn_105 rfl ?_
    refine xb_getR (a := l1) (c := 9) (k := 4) dX9_turn_106 xcl9 (by decide) xw_213 rfl hf (fun x22 ex22 hf => ?_)
    refine xm_iload_n dX9_turn_109 rfl ?_
    refine xb_iald dX9_turn_110 hf (fun x23 ex23 hf => ?_)
    refine xm_iadd dX9_turn_111 ?_
    refine xb_topi hf (fun v24 ev24 hf => ?_)
    refine xm_istore_n dX9_turn_112 (by decide) (xm_stL (L' := [(3, .int v24), (0, .ref l0), (1, .ref l1), (2, .int l2)]) rfl ?_)
    refine xm_iload_n dX9_turn_113 rfl ?_
    refine xm_iconst dX9_turn_114 (v := 1) (by decide) ?_
    refine xm_isub dX9_turn_115 ?_
    refine xb_topi hf (fun v25 ev25 hf => ?_)
    refine xm_istore dX9_turn_116 (by decide) (xm_stL (L' := [(4, .int v25), (3, .int v24), (0, .ref l0), (1, .ref l1), (2, .int l2)]) rfl ?_)
    refine xm_iconst dX9_turn_118 (v := 0) (by decide) ?_
    refine xb_topi hf (fun v26 ev26 hf => ?_)
    refine xm_istore dX9_turn_119 (by decide) (xm_stL (L' := [(5, .int v26), (4, .int v25), (3, .int v24), (0, .ref l0), (1, .ref l1), (2, .int l2)]) rfl ?_)
    obtain ⟨o, h1, hf⟩ := xbind hf
    refine xm_sub [3, 4, 5, 2, 1, 0] rfl (L_X9_turn_l121  h1 (fun g hg => ?_) (fun e he => ?_))
    · subst hg
      cases hf
      exact hR _ rfl
    · subst he
      rw [Sum.elim_inr] at hf
      have hf : f_X9_turn_j173 e.2.2.2 e.1 e.2.1 e.2.2.1 = some _ := hf
      exact xm_sub [0, 1, 2] rfl (L_X9_turn_j173 e.2.2.2 e.1 e.2.1 e.2.2.1 hf hR hE hC)
theorem L_X9_turn_l95 {G : xG} {π : Nat → Nat} {d C Z : Nat} {Q : xQ} {s0 : (Nat × Nat × Int32 × xM)} {x : (xM ⊕ (Nat × xM))} (h1 : xloop (f_X9_turn_s95) xF s0 = some x) (hR : ∀ g, x = Sum.inl g → Q (.inl none) (g) π) (hE : ∀ e : (Nat × xM), x = Sum.inr e → xMach G π J_X9_turn (d + 1) C Z 191 [(0, .ref e.1)] [] e.2 Q) : xMach G π J_X9_turn (d + 1) C Z 95 [(0, .ref s0.1), (1, .ref s0.2.1), (2, .int s0.2.2.1)] [] s0.2.2.2 Q := by
  refine xloop_run (M := (fun s : (Nat × Nat × Int32 × xM) => xMach G π J_X9_turn (d + 1) C Z 95 [(0, .ref s.1), (1, .ref s.2.1), (2, .int s.2.2.1)] [] s.2.2.2 Q)) (r := x) ?_ xF _ h1
  intro s y hs hx
  exact L_X9_turn_s95 s.2.2.2 s.1 s.2.1 s.2.2.1 (x := y) hs (fun g hg => by subst hg; exact hR g hx) (fun e he => by subst he; exact hE e hx) (fun e he => by subst he; exact hx)
def f_X9_turn_j191 (σ : xM) (l0 : Nat) : Option xM :=
  (if xk σ l0 9 = true then (f_X9_measure σ l0).bind (fun p42 => some p42) else none)
set_option maxHeartbeats 4000000 in
set_option maxRecDepth 20000 in
theorem L_X9_turn_j191 {G : xG} {π : Nat → Nat} {d C Z : Nat} {Q : xQ} (σ : xM) (l0 : Nat) {x : xM} (hf : f_X9_turn_j191 σ l0 = some x) (hR : ∀ g, x = g → Q (.inl none) (g) π) : xMach G π J_X9_turn (d + 1) C Z 191 [(0, .ref l0)] [] σ Q := by
  unfold f_X9_turn_j191 at hf
  refine xm_aload_n dX9_turn_191 rfl ?_
  refine xb_if hf (fun hb hf => ?_) (fun _ q => nomatch q)
  obtain ⟨p42, ep42, hf⟩ := xbind hf
  refine xb_callV (As := []) (v0 := none) (τ0 := p42) dX9_turn_192 (xc_X9_measure _ _) xcl9 xw_815 xw_816 xw_817 hb rfl (Nat.le_of_ble_eq_true rfl) rfl (Nat.le_of_ble_eq_true rfl) (fun Q1 hq => m_X9_measure (d := d + 0) ep42 (fun g hg => by subst hg; exact hq)) ?_
  cases hf
  exact xm_vret dX9_turn_195 rfl (hR _ rfl)
def f_X9_turn_j72 (σ : xM) (l0 : Nat) (l1 : Nat) : Option xM :=
  (gR σ l1 9 5).bind (fun x15 => (gI σ l0 9 7).bind (fun x16 => (wI σ x15 (if (x16 - (1 : Int32)) < (0 : Int32) then (0 : Int32) else (x16 - (1 : Int32))) (0 : Int32)).bind (fun σ17 => (gI σ17 l0 9 7).bind (fun x18 => xlet (x18 - (1 : Int32)) (fun v19 => (xloop (f_X9_turn_s95 ) xF (l0, l1, v19, σ17)).bind (Sum.elim (fun g => some g) (fun e => f_X9_turn_j191 e.2 e.1)))))))
set_option maxHeartbeats 4000000 in
set_option maxRecDepth 20000 in
theorem L_X9_turn_j72 {G : xG} {π : Nat → Nat} {d C Z : Nat} {Q : xQ} (σ : xM) (l0 : Nat) (l1 : Nat) {x : xM} (hf : f_X9_turn_j72 σ l0 l1 = some x) (hR : ∀ g, x = g → Q (.inl none) (g) π) : xMach G π J_X9_turn (d + 1) C Z 72 [(0, .ref l0), (1, .ref l1)] [] σ Q := by
  unfold f_X9_turn_j72 at hf
  refine xm_aload_n dX9_turn_72 rfl ?_
  refine xb_getR (a := l1) (c := 9) (k := 5) dX9_turn_73 xcl9 (by decide) xw_216 rfl hf (fun x15 ex15 hf => ?_)
  refine xm_aload_n dX9_turn_76 rfl ?_
  refine xb_getI (a := l0) (c := 9) (k := 7) dX9_turn_77 xcl9 (by decide) xw_218 rfl hf (fun x16 ex16 hf => ?_)
  refine xm_iconst dX9_turn_80 (v := 1) (by decide) ?_
  refine xm_isub dX9_turn_81 ?_
  refine xm_iconst dX9_turn_82 (v := 0) (by decide) ?_
  refine xm_max dX9_turn_83 xw_810 xw_117 xw_7 xw_118 (Nat.le_of_ble_eq_true rfl) ?_
  refine xm_iconst dX9_turn_86 (v := 0) (by decide) ?_
  refine xb_iast dX9_turn_87 hf (fun σ17 eσ17 hf => ?_)
  refine xm_aload_n dX9_turn_88 rfl ?_
  refine xb_getI (a := l0) (c := 9) (k := 7) dX9_turn_89 xcl9 (by decide) xw_218 rfl hf (fun x18 ex18 hf => ?_)
  refine xm_iconst dX9_turn_92 (v := 1) (by decide) ?_
  refine xm_isub dX9_turn_93 ?_
  refine xb_topi hf (fun v19 ev19 hf => ?_)
  refine xm_istore_n dX9_turn_94 (by decide) (xm_stL (L' := [(2, .int v19), (0, .ref l0), (1, .ref l1)]) rfl ?_)
  obtain ⟨o, h1, hf⟩ := xbind hf
  refine xm_sub [1, 2, 0] rfl (L_X9_turn_l95  h1 (fun g hg => ?_) (fun e he => ?_))
  · subst hg
    cases hf
    exact hR _ rfl
  · subst he
    rw [Sum.elim_inr] at hf
    have hf : f_X9_turn_j191 e.2 e.1 = some _ := hf
    exact xm_sub [0] rfl (L_X9_turn_j191 e.2 e.1 hf hR)
def f_X9_turn (σ : xM) (l0 : Nat) (l1 : Nat) : Option xM :=
  (gI σ l1 9 7).bind (fun x1 => (sI σ l0 9 7 x1).bind (fun σ2 => xlet (0 : Int32) (fun v3 => (xloop (f_X9_turn_s10 ) xF (l0, l1, v3, σ2)).bind (Sum.elim (fun g => some g) (fun e => f_X9_turn_j72 e.2.2 e.1 e.2.1)))))
set_option maxHeartbeats 4000000 in
set_option maxRecDepth 20000 in
theorem m_X9_turn {G : xG} {π : Nat → Nat} {d C Z : Nat} {Q : xQ} {σ : xM} {l0 : Nat} {l1 : Nat} {x : xM} (hf : f_X9_turn σ l0 l1 = some x) (hR : ∀ g, x = g → Q (.inl none) (g) π) : xMach G π J_X9_turn (d + 1) C Z 0 (lv_args 0 [.ref l0, .ref l1]) [] σ Q := by
  unfold f_X9_turn at hf
  refine xm_stL (L' := [(0, .ref l0), (1, .ref l1)]) rfl ?_
  refine xm_aload_n dX9_turn_0 rfl ?_
  refine xm_aload_n dX9_turn_1 rfl ?_
  refine xb_getI (a := l1) (c := 9) (k := 7) dX9_turn_2 xcl9 (by decide) xw_218 rfl hf (fun x1 ex1 hf => ?_)
  refine xb_putI (a := l0) (c := 9) (k := 7) dX9_turn_5 xcl9 (by decide) xw_218 rfl rfl hf (fun σ2 eσ2 hf => ?_)
  refine xm_iconst dX9_turn_8 (v := 0) (by decide) ?_
  refine xb_topi hf (fun v3 ev3 hf => ?_)
  refine xm_istore_n dX9_turn_9 (by decide) (xm_stL (L' := [(2, .int v3), (0, .ref l0), (1, .ref l1)]) rfl ?_)
  obtain ⟨o, h1, hf⟩ := xbind hf
  refine xm_sub [1, 2, 0] rfl (L_X9_turn_l10  h1 (fun g hg => ?_) (fun e he => ?_))
  · subst hg
    cases hf
    exact hR _ rfl
  · subst he
    rw [Sum.elim_inr] at hf
    have hf : f_X9_turn_j72 e.2.2 e.1 e.2.1 = some _ := hf
    exact xm_sub [0, 1] rfl (L_X9_turn_j72 e.2.2 e.1 e.2.1 hf hR)
-- Rankwise$Tree.addNode(LRankwise$Tree;I)Z
def f_X9_addNode_j48 (σ : xM) (s0 : Int32) : Option (Int32 × xM) :=
  (xz s0).bind (fun b1 => some (b1, σ))
set_option maxHeartbeats 4000000 in
set_option maxRecDepth 20000 in
theorem L_X9_addNode_j48 {G : xG} {π : Nat → Nat} {d C Z : Nat} {Q : xQ} (σ : xM) (s0 : Int32) {x : (Int32 × xM)} (hf : f_X9_addNode_j48 σ s0 = some x) (hR : ∀ g, x = g → Q (.inl (some (.int g.1))) (g.2) π) : xMach G π J_X9_addNode (d + 1) C Z 48 [] [.int s0] σ Q := by
  unfold f_X9_addNode_j48 at hf
  obtain ⟨b1, eb1, hf⟩ := xbind hf
  obtain ⟨rfl, hz⟩ := xz_of eb1
  cases hf
  exact xm_zret dX9_addNode_48 rfl hz (hR _ rfl)
def f_X9_addNode_j47 (σ : xM)  : Option (Int32 × xM) :=
  f_X9_addNode_j48 σ (0 : Int32)
set_option maxHeartbeats 4000000 in
set_option maxRecDepth 20000 in
theorem L_X9_addNode_j47 {G : xG} {π : Nat → Nat} {d C Z : Nat} {Q : xQ} (σ : xM)  {x : (Int32 × xM)} (hf : f_X9_addNode_j47 σ = some x) (hR : ∀ g, x = g → Q (.inl (some (.int g.1))) (g.2) π) : xMach G π J_X9_addNode (d + 1) C Z 47 [] [] σ Q := by
  unfold f_X9_addNode_j47 at hf
  refine xm_iconst dX9_addNode_47 (v := 0) (by decide) ?_
  exact xm_sub [] rfl (L_X9_addNode_j48 σ (0 : Int32) hf hR)
def f_X9_addNode (σ : xM) (l0 : Nat) (l1 : Nat) (l2 : Int32) : Option (Int32 × xM) :=
  (if l2 < (0 : Int32) then f_X9_addNode_j47 σ else (gI σ l1 9 7).bind (fun x2 => (if x2 ≤ l2 then f_X9_addNode_j47 σ else (gR σ l1 9 0).bind (fun x3 => (aI σ x3 14 l2).bind (fun x4 => (gR σ l1 9 1).bind (fun x5 => (aI σ x5 14 l2).bind (fun x6 => (gR σ l1 9 2).bind (fun x7 => (aI σ x7 14 l2).bind (fun x8 => (gR σ l1 9 3).bind (fun x9 => (aI σ x9 14 l2).bind (fun x10 => (if xk σ l0 9 = true then (f_X9_add σ l0 x4 x6 x8 x10).bind (fun p11 => (if p11.1 = (0 : Int32) then f_X9_addNode_j47 p11.2 else f_X9_addNode_j48 p11.2 (1 : Int32))) else none))))))))))))
set_option maxHeartbeats 4000000 in
set_option maxRecDepth 20000 in
theorem m_X9_addNode {G : xG} {π : Nat → Nat} {d C Z : Nat} {Q : xQ} {σ : xM} {l0 : Nat} {l1 : Nat} {l2 : Int32} {x : (Int32 × xM)} (hf : f_X9_addNode σ l0 l1 l2 = some x) (hR : ∀ g, x = g → Q (.inl (some (.int g.1))) (g.2) π) : xMach G π J_X9_addNode (d + 1) C Z 0 (lv_args 0 [.ref l0, .ref l1, .int l2]) [] σ Q := by
  unfold f_X9_addNode at hf
  refine xm_stL (L' := [(0, .ref l0), (1, .ref l1), (2, .int l2)]) rfl ?_
  refine xm_iload_n dX9_addNode_0 rfl ?_
  refine xb_if_lt 47 dX9_addNode_1 (by decide) hf (fun c hf => ?_) (fun c hf => ?_)
  · exact xm_sub [] rfl (L_X9_addNode_j47 σ hf hR)
  · refine xm_iload_n dX9_addNode_4 rfl ?_
    refine xm_aload_n dX9_addNode_5 rfl ?_
    refine xb_getI (a := l1) (c := 9) (k := 7) dX9_addNode_6 xcl9 (by decide) xw_218 rfl hf (fun x2 ex2 hf => ?_)
    refine xb_icmp_ge 47 dX9_addNode_9 (by decide) hf (fun c hf => ?_) (fun c hf => ?_)
    · exact xm_sub [] rfl (L_X9_addNode_j47 σ hf hR)
    · refine xm_aload_n dX9_addNode_12 rfl ?_
      refine xm_aload_n dX9_addNode_13 rfl ?_
      refine xb_getR (a := l1) (c := 9) (k := 0) dX9_addNode_14 xcl9 (by decide) xw_191 rfl hf (fun x3 ex3 hf => ?_)
      refine xm_iload_n dX9_addNode_17 rfl ?_
      refine xb_iald dX9_addNode_18 hf (fun x4 ex4 hf => ?_)
      refine xm_aload_n dX9_addNode_19 rfl ?_
      refine xb_getR (a := l1) (c := 9) (k := 1) dX9_addNode_20 xcl9 (by decide) xw_197 rfl hf (fun x5 ex5 hf => ?_)
      refine xm_iload_n dX9_addNode_23 rfl ?_
      refine xb_iald dX9_addNode_24 hf (fun x6 ex6 hf => ?_)
      refine xm_aload_n dX9_addNode_25 rfl ?_
      refine xb_getR (a := l1) (c := 9) (k := 2) dX9_addNode_26 xcl9 (by decide) xw_203 rfl hf (fun x7 ex7 hf => ?_)
      refine xm_iload_n dX9_addNode_29 rfl ?_
      refine xb_iald dX9_addNode_30 hf (fun x8 ex8 hf => ?_)
      refine xm_aload_n dX9_addNode_31 rfl ?_
      refine xb_getR (a := l1) (c := 9) (k := 3) dX9_addNode_32 xcl9 (by decide) xw_208 rfl hf (fun x9 ex9 hf => ?_)
      refine xm_iload_n dX9_addNode_35 rfl ?_
      refine xb_iald dX9_addNode_36 hf (fun x10 ex10 hf => ?_)
      refine xb_if hf (fun hb hf => ?_) (fun _ q => nomatch q)
      obtain ⟨p11, ep11, hf⟩ := xbind hf
      refine xb_callV (As := [.int x4, .int x6, .int x8, .int x10]) (v0 := (some (.int p11.1))) (τ0 := p11.2) dX9_addNode_37 (xc_X9_add _ _) xcl9 xw_837 xw_764 xw_765 hb rfl (Nat.le_of_ble_eq_true rfl) rfl (Nat.le_of_ble_eq_true rfl) (fun Q1 hq => m_X9_add (d := d + 0) ep11 (fun g hg => by subst hg; exact hq)) ?_
      refine xb_if_eq 47 dX9_addNode_40 (by decide) hf (fun c hf => ?_) (fun c hf => ?_)
      · exact xm_sub [] rfl (L_X9_addNode_j47 p11.2 hf hR)
      · refine xm_iconst dX9_addNode_43 (v := 1) (by decide) ?_
        refine xm_goto 48 dX9_addNode_44 (by decide) ?_
        exact xm_sub [] rfl (L_X9_addNode_j48 p11.2 (1 : Int32) hf hR)
-- Rankwise$Tree.addPart(LRankwise$Tree;I)Z
def f_X9_addPart_j12 (σ : xM)  : Option (Int32 × xM) :=
  some ((0 : Int32), σ)
set_option maxHeartbeats 4000000 in
set_option maxRecDepth 20000 in
theorem L_X9_addPart_j12 {G : xG} {π : Nat → Nat} {d C Z : Nat} {Q : xQ} (σ : xM)  {x : (Int32 × xM)} (hf : f_X9_addPart_j12 σ = some x) (hR : ∀ g, x = g → Q (.inl (some (.int g.1))) (g.2) π) : xMach G π J_X9_addPart (d + 2) C Z 12 [] [] σ Q := by
  unfold f_X9_addPart_j12 at hf
  refine xm_iconst dX9_addPart_12 (v := 0) (by decide) ?_
  cases hf
  exact xm_zret dX9_addPart_13 rfl rfl (hR _ rfl)
def f_X9_addPart_s36 (s : (Nat × Nat × Int32 × Int32 × Int32 × xM)) : Option ((Int32 × xM) ⊕ ((Int32 × xM) ⊕ (Nat × Nat × Int32 × Int32 × Int32 × xM))) :=
  xlet s.1 (fun l0 => xlet s.2.1 (fun l1 => xlet s.2.2.1 (fun l3 => xlet s.2.2.2.1 (fun l4 => xlet s.2.2.2.2.1 (fun l5 => xlet s.2.2.2.2.2 (fun σ => (if l3 ≤ l5 then some (Sum.inr (Sum.inl (l4, σ))) else (if l4 = (0 : Int32) then some (Sum.inr (Sum.inl (l4, σ))) else (if xk σ l0 9 = true then (f_X9_addNode σ l0 l1 l5).bind (fun p7 => xlet (l5 + (1 : Int32)) (fun v8 => some (Sum.inr (Sum.inr (l0, l1, l3, p7.1, v8, p7.2))))) else none)))))))))
set_option maxHeartbeats 4000000 in
set_option maxRecDepth 20000 in
theorem L_X9_addPart_s36 {G : xG} {π : Nat → Nat} {d C Z : Nat} {Q : xQ} (σ : xM) (l0 : Nat) (l1 : Nat) (l3 : Int32) (l4 : Int32) (l5 : Int32) {x : ((Int32 × xM) ⊕ ((Int32 × xM) ⊕ (Nat × Nat × Int32 × Int32 × Int32 × xM)))} (hf : f_X9_addPart_s36 (l0, l1, l3, l4, l5, σ) = some x) (hR : ∀ g, x = Sum.inl (g) → Q (.inl (some (.int g.1))) (g.2) π) (hE : ∀ e : (Int32 × xM), x = Sum.inr (Sum.inl e) → xMach G π J_X9_addPart (d + 2) C Z 62 [(4, .int e.1)] [] e.2 Q) (hC : ∀ e : (Nat × Nat × Int32 × Int32 × Int32 × xM), x = Sum.inr (Sum.inr e) → xMach G π J_X9_addPart (d + 2) C Z 36 [(0, .ref e.1), (1, .ref e.2.1), (3, .int e.2.2.1), (4, .int e.2.2.2.1), (5, .int e.2.2.2.2.1)] [] e.2.2.2.2.2 Q) : xMach G π J_X9_addPart (d + 2) C Z 36 [(0, .ref l0), (1, .ref l1), (3, .int l3), (4, .int l4), (5, .int l5)] [] σ Q := by
  have hf : (if l3 ≤ l5 then some (Sum.inr (Sum.inl (l4, σ))) else (if l4 = (0 : Int32) then some (Sum.inr (Sum.inl (l4, σ))) else (if xk σ l0 9 = true then (f_X9_addNode σ l0 l1 l5).bind (fun p7 => xlet (l5 + (1 : Int32)) (fun v8 => some (Sum.inr (Sum.inr (l0, l1, l3, p7.1, v8, p7.2))))) else none))) = some x := hf
  refine xm_iload dX9_addPart_36 rfl ?_
  refine xm_iload_n dX9_addPart_38 rfl ?_
  refine xb_icmp_ge 62 dX9_addPart_39 (by decide) hf (fun c hf => ?_) (fun c hf => ?_)
  · cases hf
    exact xm_sub [3] rfl (hE _ rfl)
  · refine xm_iload dX9_addPart_42 rfl ?_
    refine xb_if_eq 62 dX9_addPart_44 (by decide) hf (fun c hf => ?_) (fun c hf => ?_)
    · cases hf
      exact xm_sub [3] rfl (hE _ rfl)
    · refine xm_aload_n dX9_addPart_47 rfl ?_
      refine xm_aload_n dX9_addPart_48 rfl ?_
      refine xm_iload dX9_addPart_49 rfl ?_
      refine xb_if hf (fun hb hf => ?_) (fun _ q => nomatch q)
      obtain ⟨p7, ep7, hf⟩ := xbind hf
      refine xb_callV (As := [.ref l1, .int l5]) (v0 := (some (.int p7.1))) (τ0 := p7.2) dX9_addPart_51 (xc_X9_addNode _ _) xcl9 xw_833 xw_834 xw_835 hb rfl (Nat.le_of_ble_eq_true rfl) rfl (Nat.le_of_ble_eq_true rfl) (fun Q1 hq => m_X9_addNode (d := d + 0) ep7 (fun g hg => by subst hg; exact hq)) ?_
      refine xm_istore dX9_addPart_54 (by decide) (xm_stL (L' := [(4, .int p7.1), (0, .ref l0), (1, .ref l1), (3, .int l3), (5, .int l5)]) rfl ?_)
      refine xb_iinc dX9_addPart_56 rfl (by decide) (by decide) hf (fun v8 ev8 hf => xm_stL (L' := [(5, .int v8), (4, .int p7.1), (0, .ref l0), (1, .ref l1), (3, .int l3)]) rfl ?_)
      refine xm_goto 36 dX9_addPart_59 (by decide) ?_
      cases hf
      exact xm_sub [2, 3, 4, 1, 0] rfl (hC _ rfl)
theorem L_X9_addPart_l36 {G : xG} {π : Nat → Nat} {d C Z : Nat} {Q : xQ} {s0 : (Nat × Nat × Int32 × Int32 × Int32 × xM)} {x : ((Int32 × xM) ⊕ (Int32 × xM))} (h1 : xloop (f_X9_addPart_s36) xF s0 = some x) (hR : ∀ g, x = Sum.inl g → Q (.inl (some (.int g.1))) (g.2) π) (hE : ∀ e : (Int32 × xM), x = Sum.inr e → xMach G π J_X9_addPart (d + 2) C Z 62 [(4, .int e.1)] [] e.2 Q) : xMach G π J_X9_addPart (d + 2) C Z 36 [(0, .ref s0.1), (1, .ref s0.2.1), (3, .int s0.2.2.1), (4, .int s0.2.2.2.1), (5, .int s0.2.2.2.2.1)] [] s0.2.2.2.2.2 Q := by
  refine xloop_run (M := (fun s : (Nat × Nat × Int32 × Int32 × Int32 × xM) => xMach G π J_X9_addPart (d + 2) C Z 36 [(0, .ref s.1), (1, .ref s.2.1), (3, .int s.2.2.1), (4, .int s.2.2.2.1), (5, .int s.2.2.2.2.1)] [] s.2.2.2.2.2 Q)) (r := x) ?_ xF _ h1
  intro s y hs hx
  exact L_X9_addPart_s36 s.2.2.2.2.2 s.1 s.2.1 s.2.2.1 s.2.2.2.1 s.2.2.2.2.1 (x := y) hs (fun g hg => by subst hg; exact hR g hx) (fun e he => by subst he; exact hE e hx) (fun e he => by subst he; exact hx)
def f_X9_addPart_j62 (σ : xM) (l4 : Int32) : Option (Int32 × xM) :=
  (xz l4).bind (fun b9 => some (b9, σ))
set_option maxHeartbeats 4000000 in
set_option maxRecDepth 20000 in
theorem L_X9_addPart_j62 {G : xG} {π : Nat → Nat} {d C Z : Nat} {Q : xQ} (σ : xM) (l4 : Int32) {x : (Int32 × xM)} (hf : f_X9_addPart_j62 σ l4 = some x) (hR : ∀ g, x = g → Q (.inl (some (.int g.1))) (g.2) π) : xMach G π J_X9_addPart (d + 2) C Z 62 [(4, .int l4)] [] σ Q := by
  unfold f_X9_addPart_j62 at hf
  refine xm_iload dX9_addPart_62 rfl ?_
  obtain ⟨b9, eb9, hf⟩ := xbind hf
  obtain ⟨rfl, hz⟩ := xz_of eb9
  cases hf
  exact xm_zret dX9_addPart_64 rfl hz (hR _ rfl)
def f_X9_addPart (σ : xM) (l0 : Nat) (l1 : Nat) (l2 : Int32) : Option (Int32 × xM) :=
  (if l2 < (0 : Int32) then f_X9_addPart_j12 σ else (gI σ l1 9 7).bind (fun x1 => (if l2 < x1 then (gR σ l1 9 4).bind (fun x2 => (aI σ x2 14 l2).bind (fun x3 => (gI σ l1 9 7).bind (fun x4 => xlet (if x4 < (l2 + x3) then x4 else (l2 + x3)) (fun v5 => xlet (1 : Int32) (fun v6 => (xloop (f_X9_addPart_s36 ) xF (l0, l1, v5, v6, l2, σ)).bind (Sum.elim (fun g => some g) (fun e => f_X9_addPart_j62 e.2 e.1))))))) else f_X9_addPart_j12 σ)))
set_option maxHeartbeats 4000000 in
set_option maxRecDepth 20000 in
theorem m_X9_addPart {G : xG} {π : Nat → Nat} {d C Z : Nat} {Q : xQ} {σ : xM} {l0 : Nat} {l1 : Nat} {l2 : Int32} {x : (Int32 × xM)} (hf : f_X9_addPart σ l0 l1 l2 = some x) (hR : ∀ g, x = g → Q (.inl (some (.int g.1))) (g.2) π) : xMach G π J_X9_addPart (d + 2) C Z 0 (lv_args 0 [.ref l0, .ref l1, .int l2]) [] σ Q := by
  unfold f_X9_addPart at hf
  refine xm_stL (L' := [(0, .ref l0), (1, .ref l1), (2, .int l2)]) rfl ?_
  refine xm_iload_n dX9_addPart_0 rfl ?_
  refine xb_if_lt 12 dX9_addPart_1 (by decide) hf (fun c hf => ?_) (fun c hf => ?_)
  · exact xm_sub [] rfl (L_X9_addPart_j12 σ hf hR)
  · refine xm_iload_n dX9_addPart_4 rfl ?_
    refine xm_aload_n dX9_addPart_5 rfl ?_
    refine xb_getI (a := l1) (c := 9) (k := 7) dX9_addPart_6 xcl9 (by decide) xw_218 rfl hf (fun x1 ex1 hf => ?_)
    refine xb_icmp_lt 14 dX9_addPart_9 (by decide) hf (fun c hf => ?_) (fun c hf => ?_)
    · refine xm_iload_n dX9_addPart_14 rfl ?_
      refine xm_aload_n dX9_addPart_15 rfl ?_
      refine xb_getR (a := l1) (c := 9) (k := 4) dX9_addPart_16 xcl9 (by decide) xw_213 rfl hf (fun x2 ex2 hf => ?_)
      refine xm_iload_n dX9_addPart_19 rfl ?_
      refine xb_iald dX9_addPart_20 hf (fun x3 ex3 hf => ?_)
      refine xm_iadd dX9_addPart_21 ?_
      refine xm_aload_n dX9_addPart_22 rfl ?_
      refine xb_getI (a := l1) (c := 9) (k := 7) dX9_addPart_23 xcl9 (by decide) xw_218 rfl hf (fun x4 ex4 hf => ?_)
      refine xm_min dX9_addPart_26 xw_832 xw_120 xw_7 xw_121 (Nat.le_of_ble_eq_true rfl) ?_
      refine xb_topi hf (fun v5 ev5 hf => ?_)
      refine xm_istore_n dX9_addPart_29 (by decide) (xm_stL (L' := [(3, .int v5), (0, .ref l0), (1, .ref l1), (2, .int l2)]) rfl ?_)
      refine xm_iconst dX9_addPart_30 (v := 1) (by decide) ?_
      refine xb_topi hf (fun v6 ev6 hf => ?_)
      refine xm_istore dX9_addPart_31 (by decide) (xm_stL (L' := [(4, .int v6), (3, .int v5), (0, .ref l0), (1, .ref l1), (2, .int l2)]) rfl ?_)
      refine xm_iload_n dX9_addPart_33 rfl ?_
      refine xm_istore dX9_addPart_34 (by decide) (xm_stL (L' := [(5, .int l2), (4, .int v6), (3, .int v5), (0, .ref l0), (1, .ref l1), (2, .int l2)]) rfl ?_)
      obtain ⟨o, h1, hf⟩ := xbind hf
      refine xm_sub [3, 4, 2, 1, 0] rfl (L_X9_addPart_l36  h1 (fun g hg => ?_) (fun e he => ?_))
      · subst hg
        cases hf
        exact hR _ rfl
      · subst he
        rw [Sum.elim_inr] at hf
        have hf : f_X9_addPart_j62 e.2 e.1 = some _ := hf
        exact xm_sub [0] rfl (L_X9_addPart_j62 e.2 e.1 hf hR)
    · exact xm_sub [] rfl (L_X9_addPart_j12 σ hf hR)
-- Rankwise$Tree.copy(LRankwise$Tree;)V
def f_X9_copy (σ : xM) (l0 : Nat) (l1 : Nat) : Option xM :=
  (if xk σ l0 9 = true then (f_X9_clear σ l0).bind (fun p1 => (if xk p1 l0 9 = true then (f_X9_addPart p1 l0 l1 (0 : Int32)).bind (fun p2 => (if xk p2.2 l0 9 = true then (f_X9_measure p2.2 l0).bind (fun p3 => some p3) else none)) else none)) else none)
set_option maxHeartbeats 4000000 in
set_option maxRecDepth 20000 in
theorem m_X9_copy {G : xG} {π : Nat → Nat} {d C Z : Nat} {Q : xQ} {σ : xM} {l0 : Nat} {l1 : Nat} {x : xM} (hf : f_X9_copy σ l0 l1 = some x) (hR : ∀ g, x = g → Q (.inl none) (g) π) : xMach G π J_X9_copy (d + 3) C Z 0 (lv_args 0 [.ref l0, .ref l1]) [] σ Q := by
  unfold f_X9_copy at hf
  refine xm_stL (L' := [(0, .ref l0), (1, .ref l1)]) rfl ?_
  refine xm_aload_n dX9_copy_0 rfl ?_
  refine xb_if hf (fun hb hf => ?_) (fun _ q => nomatch q)
  obtain ⟨p1, ep1, hf⟩ := xbind hf
  refine xb_callV (As := []) (v0 := none) (τ0 := p1) dX9_copy_1 (xc_X9_clear _ _) xcl9 xw_827 xw_744 xw_745 hb rfl (Nat.le_of_ble_eq_true rfl) rfl (Nat.le_of_ble_eq_true rfl) (fun Q1 hq => m_X9_clear (d := d + 2) ep1 (fun g hg => by subst hg; exact hq)) ?_
  refine xm_aload_n dX9_copy_4 rfl ?_
  refine xm_aload_n dX9_copy_5 rfl ?_
  refine xm_iconst dX9_copy_6 (v := 0) (by decide) ?_
  refine xb_if hf (fun hb hf => ?_) (fun _ q => nomatch q)
  obtain ⟨p2, ep2, hf⟩ := xbind hf
  refine xb_callV (As := [.ref l1, .int (0 : Int32)]) (v0 := (some (.int p2.1))) (τ0 := p2.2) dX9_copy_7 (xc_X9_addPart _ _) xcl9 xw_828 xw_829 xw_830 hb rfl (Nat.le_of_ble_eq_true rfl) rfl (Nat.le_of_ble_eq_true rfl) (fun Q1 hq => m_X9_addPart (d := d + 0) ep2 (fun g hg => by subst hg; exact hq)) ?_
  refine xm_pop dX9_copy_10 rfl ?_
  refine xm_aload_n dX9_copy_11 rfl ?_
  refine xb_if hf (fun hb hf => ?_) (fun _ q => nomatch q)
  obtain ⟨p3, ep3, hf⟩ := xbind hf
  refine xb_callV (As := []) (v0 := none) (τ0 := p3) dX9_copy_12 (xc_X9_measure _ _) xcl9 xw_815 xw_816 xw_817 hb rfl (Nat.le_of_ble_eq_true rfl) rfl (Nat.le_of_ble_eq_true rfl) (fun Q1 hq => m_X9_measure (d := d + 2) ep3 (fun g hg => by subst hg; exact hq)) ?_
  cases hf
  exact xm_vret dX9_copy_15 rfl (hR _ rfl)
-- Rankwise$Tree.parentOf(I)I
def f_X9_parentOf_s4 (σ : xM) (s : (Nat × Int32 × Int32)) : Option (Int32 ⊕ (((Int32) ⊕ Unit) ⊕ (Nat × Int32 × Int32))) :=
  xlet s.1 (fun l0 => xlet s.2.1 (fun l1 => xlet s.2.2 (fun l2 => (if l2 < (0 : Int32) then some (Sum.inr (Sum.inl (Sum.inr ()))) else (gR σ l0 9 4).bind (fun x2 => (aI σ x2 14 l2).bind (fun x3 => (if (l2 + x3) ≤ l1 then xlet (l2 + (-1 : Int32)) (fun v4 => some (Sum.inr (Sum.inr (l0, l1, v4)))) else some (Sum.inr (Sum.inl (Sum.inl l2))))))))))
set_option maxHeartbeats 4000000 in
set_option maxRecDepth 20000 in
theorem L_X9_parentOf_s4 {G : xG} {π : Nat → Nat} {d C Z : Nat} {Q : xQ} (σ : xM) (l0 : Nat) (l1 : Int32) (l2 : Int32) {x : (Int32 ⊕ (((Int32) ⊕ Unit) ⊕ (Nat × Int32 × Int32)))} (hf : f_X9_parentOf_s4 σ (l0, l1, l2) = some x) (hR : ∀ g, x = Sum.inl (g) → Q (.inl (some (.int g))) (σ) π) (hE0 : ∀ e : (Int32), x = Sum.inr (Sum.inl (Sum.inl e)) → xMach G π J_X9_parentOf (d + 0) C Z 20 [(2, .int e)] [] σ Q) (hE1 : ∀ e : Unit, x = Sum.inr (Sum.inl (Sum.inr e)) → xMach G π J_X9_parentOf (d + 0) C Z 28 [] [] σ Q) (hC : ∀ e : (Nat × Int32 × Int32), x = Sum.inr (Sum.inr e) → xMach G π J_X9_parentOf (d + 0) C Z 4 [(0, .ref e.1), (1, .int e.2.1), (2, .int e.2.2)] [] σ Q) : xMach G π J_X9_parentOf (d + 0) C Z 4 [(0, .ref l0), (1, .int l1), (2, .int l2)] [] σ Q := by
  have hf : (if l2 < (0 : Int32) then some (Sum.inr (Sum.inl (Sum.inr ()))) else (gR σ l0 9 4).bind (fun x2 => (aI σ x2 14 l2).bind (fun x3 => (if (l2 + x3) ≤ l1 then xlet (l2 + (-1 : Int32)) (fun v4 => some (Sum.inr (Sum.inr (l0, l1, v4)))) else some (Sum.inr (Sum.inl (Sum.inl l2))))))) = some x := hf
  refine xm_iload_n dX9_parentOf_4 rfl ?_
  refine xb_if_lt 28 dX9_parentOf_5 (by decide) hf (fun c hf => ?_) (fun c hf => ?_)
  · cases hf
    exact xm_sub [] rfl (hE1 _ rfl)
  · refine xm_iload_n dX9_parentOf_8 rfl ?_
    refine xm_aload_n dX9_parentOf_9 rfl ?_
    refine xb_getR (a := l0) (c := 9) (k := 4) dX9_parentOf_10 xcl9 (by decide) xw_213 rfl hf (fun x2 ex2 hf => ?_)
    refine xm_iload_n dX9_parentOf_13 rfl ?_
    refine xb_iald dX9_parentOf_14 hf (fun x3 ex3 hf => ?_)
    refine xm_iadd dX9_parentOf_15 ?_
    refine xm_iload_n dX9_parentOf_16 rfl ?_
    refine xb_icmp_le 22 dX9_parentOf_17 (by decide) hf (fun c hf => ?_) (fun c hf => ?_)
    · refine xb_iinc dX9_parentOf_22 rfl (by decide) (by decide) hf (fun v4 ev4 hf => xm_stL (L' := [(2, .int v4), (0, .ref l0), (1, .int l1)]) rfl ?_)
      refine xm_goto 4 dX9_parentOf_25 (by decide) ?_
      cases hf
      exact xm_sub [1, 2, 0] rfl (hC _ rfl)
    · cases hf
      exact xm_sub [2] rfl (hE0 _ rfl)
theorem L_X9_parentOf_l4 {G : xG} {π : Nat → Nat} {d C Z : Nat} {Q : xQ} (σ : xM) {s0 : (Nat × Int32 × Int32)} {x : (Int32 ⊕ ((Int32) ⊕ Unit))} (h1 : xloop (f_X9_parentOf_s4 σ) xF s0 = some x) (hR : ∀ g, x = Sum.inl g → Q (.inl (some (.int g))) (σ) π) (hE0 : ∀ e : (Int32), x = Sum.inr (Sum.inl e) → xMach G π J_X9_parentOf (d + 0) C Z 20 [(2, .int e)] [] σ Q) (hE1 : ∀ e : Unit, x = Sum.inr (Sum.inr e) → xMach G π J_X9_parentOf (d + 0) C Z 28 [] [] σ Q) : xMach G π J_X9_parentOf (d + 0) C Z 4 [(0, .ref s0.1), (1, .int s0.2.1), (2, .int s0.2.2)] [] σ Q := by
  refine xloop_run (M := (fun s : (Nat × Int32 × Int32) => xMach G π J_X9_parentOf (d + 0) C Z 4 [(0, .ref s.1), (1, .int s.2.1), (2, .int s.2.2)] [] σ Q)) (r := x) ?_ xF _ h1
  intro s y hs hx
  exact L_X9_parentOf_s4 σ s.1 s.2.1 s.2.2 (x := y) hs (fun g hg => by subst hg; exact hR g hx) (fun e he => by subst he; exact hE0 e hx) (fun e he => by subst he; exact hE1 e hx) (fun e he => by subst he; exact hx)
def f_X9_parentOf_j20 (σ : xM) (l2 : Int32) : Option Int32 :=
  some l2
set_option maxHeartbeats 4000000 in
set_option maxRecDepth 20000 in
theorem L_X9_parentOf_j20 {G : xG} {π : Nat → Nat} {d C Z : Nat} {Q : xQ} (σ : xM) (l2 : Int32) {x : Int32} (hf : f_X9_parentOf_j20 σ l2 = some x) (hR : ∀ g, x = g → Q (.inl (some (.int g))) (σ) π) : xMach G π J_X9_parentOf (d + 0) C Z 20 [(2, .int l2)] [] σ Q := by
  unfold f_X9_parentOf_j20 at hf
  refine xm_iload_n dX9_parentOf_20 rfl ?_
  cases hf
  exact xm_iret dX9_parentOf_21 rfl (hR _ rfl)
def f_X9_parentOf_j28 (σ : xM)  : Option Int32 :=
  some (-1 : Int32)
set_option maxHeartbeats 4000000 in
set_option maxRecDepth 20000 in
theorem L_X9_parentOf_j28 {G : xG} {π : Nat → Nat} {d C Z : Nat} {Q : xQ} (σ : xM)  {x : Int32} (hf : f_X9_parentOf_j28 σ = some x) (hR : ∀ g, x = g → Q (.inl (some (.int g))) (σ) π) : xMach G π J_X9_parentOf (d + 0) C Z 28 [] [] σ Q := by
  unfold f_X9_parentOf_j28 at hf
  refine xm_iconst dX9_parentOf_28 (v := -1) (by decide) ?_
  cases hf
  exact xm_iret dX9_parentOf_29 rfl (hR _ rfl)
def f_X9_parentOf (σ : xM) (l0 : Nat) (l1 : Int32) : Option Int32 :=
  xlet (l1 - (1 : Int32)) (fun v1 => (xloop (f_X9_parentOf_s4 σ ) xF (l0, l1, v1)).bind (Sum.elim (fun g => some g) (Sum.elim (fun e => f_X9_parentOf_j20 σ e) (fun e => f_X9_parentOf_j28 σ))))
set_option maxHeartbeats 4000000 in
set_option maxRecDepth 20000 in
theorem m_X9_parentOf {G : xG} {π : Nat → Nat} {d C Z : Nat} {Q : xQ} {σ : xM} {l0 : Nat} {l1 : Int32} {x : Int32} (hf : f_X9_parentOf σ l0 l1 = some x) (hR : ∀ g, x = g → Q (.inl (some (.int g))) (σ) π) : xMach G π J_X9_parentOf (d + 0) C Z 0 (lv_args 0 [.ref l0, .int l1]) [] σ Q := by
  unfold f_X9_parentOf at hf
  refine xm_stL (L' := [(0, .ref l0), (1, .int l1)]) rfl ?_
  refine xm_iload_n dX9_parentOf_0 rfl ?_
  refine xm_iconst dX9_parentOf_1 (v := 1) (by decide) ?_
  refine xm_isub dX9_parentOf_2 ?_
  refine xb_topi hf (fun v1 ev1 hf => ?_)
  refine xm_istore_n dX9_parentOf_3 (by decide) (xm_stL (L' := [(2, .int v1), (0, .ref l0), (1, .int l1)]) rfl ?_)
  obtain ⟨o, h1, hf⟩ := xbind hf
  refine xm_sub [1, 2, 0] rfl (L_X9_parentOf_l4 σ h1 (fun g hg => ?_) (fun e he => ?_) (fun e he => ?_))
  · subst hg
    cases hf
    exact hR _ rfl
  · subst he
    rw [Sum.elim_inr, Sum.elim_inl] at hf
    have hf : f_X9_parentOf_j20 σ e = some _ := hf
    exact xm_sub [0] rfl (L_X9_parentOf_j20 σ e hf hR)
  · subst he
    rw [Sum.elim_inr, Sum.elim_inr] at hf
    have hf : f_X9_parentOf_j28 σ = some _ := hf
    exact xm_sub [] rfl (L_X9_parentOf_j28 σ hf hR)
-- Rankwise$Tree.sameNode(ILRankwise$Tree;I)Z
def f_X9_sameNode_j65 (σ : xM) (s0 : Int32) : Option Int32 :=
  (xz s0).bind (fun b5 => some b5)
set_option maxHeartbeats 4000000 in
set_option maxRecDepth 20000 in
theorem L_X9_sameNode_j65 {G : xG} {π : Nat → Nat} {d C Z : Nat} {Q : xQ} (σ : xM) (s0 : Int32) {x : Int32} (hf : f_X9_sameNode_j65 σ s0 = some x) (hR : ∀ g, x = g → Q (.inl (some (.int g))) (σ) π) : xMach G π J_X9_sameNode (d + 0) C Z 65 [] [.int s0] σ Q := by
  unfold f_X9_sameNode_j65 at hf
  obtain ⟨b5, eb5, hf⟩ := xbind hf
  obtain ⟨rfl, hz⟩ := xz_of eb5
  cases hf
  exact xm_zret dX9_sameNode_65 rfl hz (hR _ rfl)
def f_X9_sameNode_j64 (σ : xM)  : Option Int32 :=
  f_X9_sameNode_j65 σ (0 : Int32)
set_option maxHeartbeats 4000000 in
set_option maxRecDepth 20000 in
theorem L_X9_sameNode_j64 {G : xG} {π : Nat → Nat} {d C Z : Nat} {Q : xQ} (σ : xM)  {x : Int32} (hf : f_X9_sameNode_j64 σ = some x) (hR : ∀ g, x = g → Q (.inl (some (.int g))) (σ) π) : xMach G π J_X9_sameNode (d + 0) C Z 64 [] [] σ Q := by
  unfold f_X9_sameNode_j64 at hf
  refine xm_iconst dX9_sameNode_64 (v := 0) (by decide) ?_
  exact xm_sub [] rfl (L_X9_sameNode_j65 σ (0 : Int32) hf hR)
def f_X9_sameNode (σ : xM) (l0 : Nat) (l1 : Int32) (l2 : Nat) (l3 : Int32) : Option Int32 :=
  (gR σ l0 9 0).bind (fun x1 => (aI σ x1 14 l1).bind (fun x2 => (gR σ l2 9 0).bind (fun x3 => (aI σ x3 14 l3).bind (fun x4 => (if x2 = x4 then (gR σ l0 9 1).bind (fun x6 => (aI σ x6 14 l1).bind (fun x7 => (gR σ l2 9 1).bind (fun x8 => (aI σ x8 14 l3).bind (fun x9 => (if x7 = x9 then (gR σ l0 9 2).bind (fun x10 => (aI σ x10 14 l1).bind (fun x11 => (gR σ l2 9 2).bind (fun x12 => (aI σ x12 14 l3).bind (fun x13 => (if x11 = x13 then (gR σ l0 9 3).bind (fun x14 => (aI σ x14 14 l1).bind (fun x15 => (gR σ l2 9 3).bind (fun x16 => (aI σ x16 14 l3).bind (fun x17 => (if x15 = x17 then f_X9_sameNode_j65 σ (1 : Int32) else f_X9_sameNode_j64 σ))))) else f_X9_sameNode_j64 σ))))) else f_X9_sameNode_j64 σ))))) else f_X9_sameNode_j64 σ)))))
set_option maxHeartbeats 4000000 in
set_option maxRecDepth 20000 in
theorem m_X9_sameNode {G : xG} {π : Nat → Nat} {d C Z : Nat} {Q : xQ} {σ : xM} {l0 : Nat} {l1 : Int32} {l2 : Nat} {l3 : Int32} {x : Int32} (hf : f_X9_sameNode σ l0 l1 l2 l3 = some x) (hR : ∀ g, x = g → Q (.inl (some (.int g))) (σ) π) : xMach G π J_X9_sameNode (d + 0) C Z 0 (lv_args 0 [.ref l0, .int l1, .ref l2, .int l3]) [] σ Q := by
  unfold f_X9_sameNode at hf
  refine xm_stL (L' := [(0, .ref l0), (1, .int l1), (2, .ref l2), (3, .int l3)]) rfl ?_
  refine xm_aload_n dX9_sameNode_0 rfl ?_
  refine xb_getR (a := l0) (c := 9) (k := 0) dX9_sameNode_1 xcl9 (by decide) xw_191 rfl hf (fun x1 ex1 hf => ?_)
  refine xm_iload_n dX9_sameNode_4 rfl ?_
  refine xb_iald dX9_sameNode_5 hf (fun x2 ex2 hf => ?_)
  refine xm_aload_n dX9_sameNode_6 rfl ?_
  refine xb_getR (a := l2) (c := 9) (k := 0) dX9_sameNode_7 xcl9 (by decide) xw_191 rfl hf (fun x3 ex3 hf => ?_)
  refine xm_iload_n dX9_sameNode_10 rfl ?_
  refine xb_iald dX9_sameNode_11 hf (fun x4 ex4 hf => ?_)
  refine xb_icmp_ne 64 dX9_sameNode_12 (by decide) hf (fun c hf => ?_) (fun c hf => ?_)
  · exact xm_sub [] rfl (L_X9_sameNode_j64 σ hf hR)
  · refine xm_aload_n dX9_sameNode_15 rfl ?_
    refine xb_getR (a := l0) (c := 9) (k := 1) dX9_sameNode_16 xcl9 (by decide) xw_197 rfl hf (fun x6 ex6 hf => ?_)
    refine xm_iload_n dX9_sameNode_19 rfl ?_
    refine xb_iald dX9_sameNode_20 hf (fun x7 ex7 hf => ?_)
    refine xm_aload_n dX9_sameNode_21 rfl ?_
    refine xb_getR (a := l2) (c := 9) (k := 1) dX9_sameNode_22 xcl9 (by decide) xw_197 rfl hf (fun x8 ex8 hf => ?_)
    refine xm_iload_n dX9_sameNode_25 rfl ?_
    refine xb_iald dX9_sameNode_26 hf (fun x9 ex9 hf => ?_)
    refine xb_icmp_ne 64 dX9_sameNode_27 (by decide) hf (fun c hf => ?_) (fun c hf => ?_)
    · exact xm_sub [] rfl (L_X9_sameNode_j64 σ hf hR)
    · refine xm_aload_n dX9_sameNode_30 rfl ?_
      refine xb_getR (a := l0) (c := 9) (k := 2) dX9_sameNode_31 xcl9 (by decide) xw_203 rfl hf (fun x10 ex10 hf => ?_)
      refine xm_iload_n dX9_sameNode_34 rfl ?_
      refine xb_iald dX9_sameNode_35 hf (fun x11 ex11 hf => ?_)
      refine xm_aload_n dX9_sameNode_36 rfl ?_
      refine xb_getR (a := l2) (c := 9) (k := 2) dX9_sameNode_37 xcl9 (by decide) xw_203 rfl hf (fun x12 ex12 hf => ?_)
      refine xm_iload_n dX9_sameNode_40 rfl ?_
      refine xb_iald dX9_sameNode_41 hf (fun x13 ex13 hf => ?_)
      refine xb_icmp_ne 64 dX9_sameNode_42 (by decide) hf (fun c hf => ?_) (fun c hf => ?_)
      · exact xm_sub [] rfl (L_X9_sameNode_j64 σ hf hR)
      · refine xm_aload_n dX9_sameNode_45 rfl ?_
        refine xb_getR (a := l0) (c := 9) (k := 3) dX9_sameNode_46 xcl9 (by decide) xw_208 rfl hf (fun x14 ex14 hf => ?_)
        refine xm_iload_n dX9_sameNode_49 rfl ?_
        refine xb_iald dX9_sameNode_50 hf (fun x15 ex15 hf => ?_)
        refine xm_aload_n dX9_sameNode_51 rfl ?_
        refine xb_getR (a := l2) (c := 9) (k := 3) dX9_sameNode_52 xcl9 (by decide) xw_208 rfl hf (fun x16 ex16 hf => ?_)
        refine xm_iload_n dX9_sameNode_55 rfl ?_
        refine xb_iald dX9_sameNode_56 hf (fun x17 ex17 hf => ?_)
        refine xb_icmp_ne 64 dX9_sameNode_57 (by decide) hf (fun c hf => ?_) (fun c hf => ?_)
        · exact xm_sub [] rfl (L_X9_sameNode_j64 σ hf hR)
        · refine xm_iconst dX9_sameNode_60 (v := 1) (by decide) ?_
          refine xm_goto 65 dX9_sameNode_61 (by decide) ?_
          exact xm_sub [] rfl (L_X9_sameNode_j65 σ (1 : Int32) hf hR)
-- Rankwise$Tree.sameAs(LRankwise$Tree;)Z
def f_X9_sameAs_s15 (σ : xM) (s : (Nat × Nat × Int32)) : Option (Int32 ⊕ ((Unit ⊕ Unit) ⊕ (Nat × Nat × Int32))) :=
  xlet s.1 (fun l0 => xlet s.2.1 (fun l1 => xlet s.2.2 (fun l2 => (gI σ l0 9 7).bind (fun x4 => (if x4 ≤ l2 then some (Sum.inr (Sum.inl (Sum.inr ()))) else (if xk σ l0 9 = true then (f_X9_sameNode σ l0 l2 l1 l2).bind (fun p5 => (if p5 = (0 : Int32) then some (Sum.inr (Sum.inl (Sum.inl ()))) else xlet (l2 + (1 : Int32)) (fun v6 => some (Sum.inr (Sum.inr (l0, l1, v6)))))) else none))))))
set_option maxHeartbeats 4000000 in
set_option maxRecDepth 20000 in
theorem L_X9_sameAs_s15 {G : xG} {π : Nat → Nat} {d C Z : Nat} {Q : xQ} (σ : xM) (l0 : Nat) (l1 : Nat) (l2 : Int32) {x : (Int32 ⊕ ((Unit ⊕ Unit) ⊕ (Nat × Nat × Int32)))} (hf : f_X9_sameAs_s15 σ (l0, l1, l2) = some x) (hR : ∀ g, x = Sum.inl (g) → Q (.inl (some (.int g))) (σ) π) (hE0 : ∀ e : Unit, x = Sum.inr (Sum.inl (Sum.inl e)) → xMach G π J_X9_sameAs (d + 1) C Z 33 [] [] σ Q) (hE1 : ∀ e : Unit, x = Sum.inr (Sum.inl (Sum.inr e)) → xMach G π J_X9_sameAs (d + 1) C Z 41 [] [] σ Q) (hC : ∀ e : (Nat × Nat × Int32), x = Sum.inr (Sum.inr e) → xMach G π J_X9_sameAs (d + 1) C Z 15 [(0, .ref e.1), (1, .ref e.2.1), (2, .int e.2.2)] [] σ Q) : xMach G π J_X9_sameAs (d + 1) C Z 15 [(0, .ref l0), (1, .ref l1), (2, .int l2)] [] σ Q := by
  have hf : (gI σ l0 9 7).bind (fun x4 => (if x4 ≤ l2 then some (Sum.inr (Sum.inl (Sum.inr ()))) else (if xk σ l0 9 = true then (f_X9_sameNode σ l0 l2 l1 l2).bind (fun p5 => (if p5 = (0 : Int32) then some (Sum.inr (Sum.inl (Sum.inl ()))) else xlet (l2 + (1 : Int32)) (fun v6 => some (Sum.inr (Sum.inr (l0, l1, v6)))))) else none))) = some x := hf
  refine xm_iload_n dX9_sameAs_15 rfl ?_
  refine xm_aload_n dX9_sameAs_16 rfl ?_
  refine xb_getI (a := l0) (c := 9) (k := 7) dX9_sameAs_17 xcl9 (by decide) xw_218 rfl hf (fun x4 ex4 hf => ?_)
  refine xb_icmp_ge 41 dX9_sameAs_20 (by decide) hf (fun c hf => ?_) (fun c hf => ?_)
  · cases hf
    exact xm_sub [] rfl (hE1 _ rfl)
  · refine xm_aload_n dX9_sameAs_23 rfl ?_
    refine xm_iload_n dX9_sameAs_24 rfl ?_
    refine xm_aload_n dX9_sameAs_25 rfl ?_
    refine xm_iload_n dX9_sameAs_26 rfl ?_
    refine xb_if hf (fun hb hf => ?_) (fun _ q => nomatch q)
    obtain ⟨p5, ep5, hf⟩ := xbind hf
    refine xb_callV (As := [.int l2, .ref l1, .int l2]) (v0 := (some (.int p5))) (τ0 := σ) dX9_sameAs_27 (xc_X9_sameNode _ _) xcl9 xw_1271 xw_1273 xs_43 hb rfl (Nat.le_of_ble_eq_true rfl) rfl (Nat.le_of_ble_eq_true rfl) (fun Q1 hq => m_X9_sameNode (d := d + 0) ep5 (fun g hg => by subst hg; exact hq)) ?_
    refine xb_if_ne 35 dX9_sameAs_30 (by decide) hf (fun c hf => ?_) (fun c hf => ?_)
    · refine xb_iinc dX9_sameAs_35 rfl (by decide) (by decide) hf (fun v6 ev6 hf => xm_stL (L' := [(2, .int v6), (0, .ref l0), (1, .ref l1)]) rfl ?_)
      refine xm_goto 15 dX9_sameAs_38 (by decide) ?_
      cases hf
      exact xm_sub [1, 2, 0] rfl (hC _ rfl)
    · cases hf
      exact xm_sub [] rfl (hE0 _ rfl)
theorem L_X9_sameAs_l15 {G : xG} {π : Nat → Nat} {d C Z : Nat} {Q : xQ} (σ : xM) {s0 : (Nat × Nat × Int32)} {x : (Int32 ⊕ (Unit ⊕ Unit))} (h1 : xloop (f_X9_sameAs_s15 σ) xF s0 = some x) (hR : ∀ g, x = Sum.inl g → Q (.inl (some (.int g))) (σ) π) (hE0 : ∀ e : Unit, x = Sum.inr (Sum.inl e) → xMach G π J_X9_sameAs (d + 1) C Z 33 [] [] σ Q) (hE1 : ∀ e : Unit, x = Sum.inr (Sum.inr e) → xMach G π J_X9_sameAs (d + 1) C Z 41 [] [] σ Q) : xMach G π J_X9_sameAs (d + 1) C Z 15 [(0, .ref s0.1), (1, .ref s0.2.1), (2, .int s0.2.2)] [] σ Q := by
  refine xloop_run (M := (fun s : (Nat × Nat × Int32) => xMach G π J_X9_sameAs (d + 1) C Z 15 [(0, .ref s.1), (1, .ref s.2.1), (2, .int s.2.2)] [] σ Q)) (r := x) ?_ xF _ h1
  intro s y hs hx
  exact L_X9_sameAs_s15 σ s.1 s.2.1 s.2.2 (x := y) hs (fun g hg => by subst hg; exact hR g hx) (fun e he => by subst he; exact hE0 e hx) (fun e he => by subst he; exact hE1 e hx) (fun e he => by subst he; exact hx)
def f_X9_sameAs_j33 (σ : xM)  : Option Int32 :=
  some (0 : Int32)
set_option maxHeartbeats 4000000 in
set_option maxRecDepth 20000 in
theorem L_X9_sameAs_j33 {G : xG} {π : Nat → Nat} {d C Z : Nat} {Q : xQ} (σ : xM)  {x : Int32} (hf : f_X9_sameAs_j33 σ = some x) (hR : ∀ g, x = g → Q (.inl (some (.int g))) (σ) π) : xMach G π J_X9_sameAs (d + 1) C Z 33 [] [] σ Q := by
  unfold f_X9_sameAs_j33 at hf
  refine xm_iconst dX9_sameAs_33 (v := 0) (by decide) ?_
  cases hf
  exact xm_zret dX9_sameAs_34 rfl rfl (hR _ rfl)
def f_X9_sameAs_j41 (σ : xM)  : Option Int32 :=
  some (1 : Int32)
set_option maxHeartbeats 4000000 in
set_option maxRecDepth 20000 in
theorem L_X9_sameAs_j41 {G : xG} {π : Nat → Nat} {d C Z : Nat} {Q : xQ} (σ : xM)  {x : Int32} (hf : f_X9_sameAs_j41 σ = some x) (hR : ∀ g, x = g → Q (.inl (some (.int g))) (σ) π) : xMach G π J_X9_sameAs (d + 1) C Z 41 [] [] σ Q := by
  unfold f_X9_sameAs_j41 at hf
  refine xm_iconst dX9_sameAs_41 (v := 1) (by decide) ?_
  cases hf
  exact xm_zret dX9_sameAs_42 rfl rfl (hR _ rfl)
def f_X9_sameAs (σ : xM) (l0 : Nat) (l1 : Nat) : Option Int32 :=
  (gI σ l0 9 7).bind (fun x1 => (gI σ l1 9 7).bind (fun x2 => (if x1 = x2 then xlet (0 : Int32) (fun v3 => (xloop (f_X9_sameAs_s15 σ ) xF (l0, l1, v3)).bind (Sum.elim (fun g => some g) (Sum.elim (fun e => f_X9_sameAs_j33 σ) (fun e => f_X9_sameAs_j41 σ)))) else some (0 : Int32))))
set_option maxHeartbeats 4000000 in
set_option maxRecDepth 20000 in
theorem m_X9_sameAs {G : xG} {π : Nat → Nat} {d C Z : Nat} {Q : xQ} {σ : xM} {l0 : Nat} {l1 : Nat} {x : Int32} (hf : f_X9_sameAs σ l0 l1 = some x) (hR : ∀ g, x = g → Q (.inl (some (.int g))) (σ) π) : xMach G π J_X9_sameAs (d + 1) C Z 0 (lv_args 0 [.ref l0, .ref l1]) [] σ Q := by
  unfold f_X9_sameAs at hf
  refine xm_stL (L' := [(0, .ref l0), (1, .ref l1)]) rfl ?_
  refine xm_aload_n dX9_sameAs_0 rfl ?_
  refine xb_getI (a := l0) (c := 9) (k := 7) dX9_sameAs_1 xcl9 (by decide) xw_218 rfl hf (fun x1 ex1 hf => ?_)
  refine xm_aload_n dX9_sameAs_4 rfl ?_
  refine xb_getI (a := l1) (c := 9) (k := 7) dX9_sameAs_5 xcl9 (by decide) xw_218 rfl hf (fun x2 ex2 hf => ?_)
  refine xb_icmp_eq 13 dX9_sameAs_8 (by decide) hf (fun c hf => ?_) (fun c hf => ?_)
  · refine xm_iconst dX9_sameAs_13 (v := 0) (by decide) ?_
    refine xb_topi hf (fun v3 ev3 hf => ?_)
    refine xm_istore_n dX9_sameAs_14 (by decide) (xm_stL (L' := [(2, .int v3), (0, .ref l0), (1, .ref l1)]) rfl ?_)
    obtain ⟨o, h1, hf⟩ := xbind hf
    refine xm_sub [1, 2, 0] rfl (L_X9_sameAs_l15 σ h1 (fun g hg => ?_) (fun e he => ?_) (fun e he => ?_))
    · subst hg
      cases hf
      exact hR _ rfl
    · subst he
      rw [Sum.elim_inr, Sum.elim_inl] at hf
      have hf : f_X9_sameAs_j33 σ = some _ := hf
      exact xm_sub [] rfl (L_X9_sameAs_j33 σ hf hR)
    · subst he
      rw [Sum.elim_inr, Sum.elim_inr] at hf
      have hf : f_X9_sameAs_j41 σ = some _ := hf
      exact xm_sub [] rfl (L_X9_sameAs_j41 σ hf hR)
  · refine xm_iconst dX9_sameAs_11 (v := 0) (by decide) ?_
    cases hf
    exact xm_zret dX9_sameAs_12 rfl rfl (hR _ rfl)
-- Rankwise$Tree.nodeAt(I)I
def f_X9_nodeAt_j22 (σ : xM) (s0 : Int32) : Option Int32 :=
  some s0
set_option maxHeartbeats 4000000 in
set_option maxRecDepth 20000 in
theorem L_X9_nodeAt_j22 {G : xG} {π : Nat → Nat} {d C Z : Nat} {Q : xQ} (σ : xM) (s0 : Int32) {x : Int32} (hf : f_X9_nodeAt_j22 σ s0 = some x) (hR : ∀ g, x = g → Q (.inl (some (.int g))) (σ) π) : xMach G π J_X9_nodeAt (d + 0) C Z 22 [] [.int s0] σ Q := by
  unfold f_X9_nodeAt_j22 at hf
  cases hf
  exact xm_iret dX9_nodeAt_22 rfl (hR _ rfl)
def f_X9_nodeAt_j21 (σ : xM)  : Option Int32 :=
  f_X9_nodeAt_j22 σ (0 : Int32)
set_option maxHeartbeats 4000000 in
set_option maxRecDepth 20000 in
theorem L_X9_nodeAt_j21 {G : xG} {π : Nat → Nat} {d C Z : Nat} {Q : xQ} (σ : xM)  {x : Int32} (hf : f_X9_nodeAt_j21 σ = some x) (hR : ∀ g, x = g → Q (.inl (some (.int g))) (σ) π) : xMach G π J_X9_nodeAt (d + 0) C Z 21 [] [] σ Q := by
  unfold f_X9_nodeAt_j21 at hf
  refine xm_iconst dX9_nodeAt_21 (v := 0) (by decide) ?_
  exact xm_sub [] rfl (L_X9_nodeAt_j22 σ (0 : Int32) hf hR)
def f_X9_nodeAt (σ : xM) (l0 : Nat) (l1 : Int32) : Option Int32 :=
  (if l1 < (0 : Int32) then f_X9_nodeAt_j21 σ else (gI σ l0 9 7).bind (fun x1 => (if x1 ≤ l1 then f_X9_nodeAt_j21 σ else (gR σ l0 9 6).bind (fun x2 => (aI σ x2 14 l1).bind (fun x3 => f_X9_nodeAt_j22 σ x3)))))
set_option maxHeartbeats 4000000 in
set_option maxRecDepth 20000 in
theorem m_X9_nodeAt {G : xG} {π : Nat → Nat} {d C Z : Nat} {Q : xQ} {σ : xM} {l0 : Nat} {l1 : Int32} {x : Int32} (hf : f_X9_nodeAt σ l0 l1 = some x) (hR : ∀ g, x = g → Q (.inl (some (.int g))) (σ) π) : xMach G π J_X9_nodeAt (d + 0) C Z 0 (lv_args 0 [.ref l0, .int l1]) [] σ Q := by
  unfold f_X9_nodeAt at hf
  refine xm_stL (L' := [(0, .ref l0), (1, .int l1)]) rfl ?_
  refine xm_iload_n dX9_nodeAt_0 rfl ?_
  refine xb_if_lt 21 dX9_nodeAt_1 (by decide) hf (fun c hf => ?_) (fun c hf => ?_)
  · exact xm_sub [] rfl (L_X9_nodeAt_j21 σ hf hR)
  · refine xm_iload_n dX9_nodeAt_4 rfl ?_
    refine xm_aload_n dX9_nodeAt_5 rfl ?_
    refine xb_getI (a := l0) (c := 9) (k := 7) dX9_nodeAt_6 xcl9 (by decide) xw_218 rfl hf (fun x1 ex1 hf => ?_)
    refine xb_icmp_ge 21 dX9_nodeAt_9 (by decide) hf (fun c hf => ?_) (fun c hf => ?_)
    · exact xm_sub [] rfl (L_X9_nodeAt_j21 σ hf hR)
    · refine xm_aload_n dX9_nodeAt_12 rfl ?_
      refine xb_getR (a := l0) (c := 9) (k := 6) dX9_nodeAt_13 xcl9 (by decide) xw_217 rfl hf (fun x2 ex2 hf => ?_)
      refine xm_iload_n dX9_nodeAt_16 rfl ?_
      refine xb_iald dX9_nodeAt_17 hf (fun x3 ex3 hf => ?_)
      refine xm_goto 22 dX9_nodeAt_18 (by decide) ?_
      exact xm_sub [] rfl (L_X9_nodeAt_j22 σ x3 hf hR)
-- Rankwise$Tree.hasLine(LRankwise$Tree;)Z
def f_X9_hasLine_s15 (σ : xM) (s : (Nat × Nat × Int32)) : Option (Int32 ⊕ ((Unit ⊕ Unit) ⊕ (Nat × Nat × Int32))) :=
  xlet s.1 (fun l0 => xlet s.2.1 (fun l1 => xlet s.2.2 (fun l2 => (gI σ l0 9 7).bind (fun x4 => (if x4 ≤ l2 then some (Sum.inr (Sum.inl (Sum.inr ()))) else (if xk σ l0 9 = true then (f_X9_nodeAt σ l0 l2).bind (fun p5 => (if xk σ l0 9 = true then (f_X9_sameNode σ l0 p5 l1 l2).bind (fun p6 => (if p6 = (0 : Int32) then some (Sum.inr (Sum.inl (Sum.inl ()))) else xlet (l2 + (1 : Int32)) (fun v7 => some (Sum.inr (Sum.inr (l0, l1, v7)))))) else none)) else none))))))
set_option maxHeartbeats 4000000 in
set_option maxRecDepth 20000 in
theorem L_X9_hasLine_s15 {G : xG} {π : Nat → Nat} {d C Z : Nat} {Q : xQ} (σ : xM) (l0 : Nat) (l1 : Nat) (l2 : Int32) {x : (Int32 ⊕ ((Unit ⊕ Unit) ⊕ (Nat × Nat × Int32)))} (hf : f_X9_hasLine_s15 σ (l0, l1, l2) = some x) (hR : ∀ g, x = Sum.inl (g) → Q (.inl (some (.int g))) (σ) π) (hE0 : ∀ e : Unit, x = Sum.inr (Sum.inl (Sum.inl e)) → xMach G π J_X9_hasLine (d + 1) C Z 37 [] [] σ Q) (hE1 : ∀ e : Unit, x = Sum.inr (Sum.inl (Sum.inr e)) → xMach G π J_X9_hasLine (d + 1) C Z 45 [] [] σ Q) (hC : ∀ e : (Nat × Nat × Int32), x = Sum.inr (Sum.inr e) → xMach G π J_X9_hasLine (d + 1) C Z 15 [(0, .ref e.1), (1, .ref e.2.1), (2, .int e.2.2)] [] σ Q) : xMach G π J_X9_hasLine (d + 1) C Z 15 [(0, .ref l0), (1, .ref l1), (2, .int l2)] [] σ Q := by
  have hf : (gI σ l0 9 7).bind (fun x4 => (if x4 ≤ l2 then some (Sum.inr (Sum.inl (Sum.inr ()))) else (if xk σ l0 9 = true then (f_X9_nodeAt σ l0 l2).bind (fun p5 => (if xk σ l0 9 = true then (f_X9_sameNode σ l0 p5 l1 l2).bind (fun p6 => (if p6 = (0 : Int32) then some (Sum.inr (Sum.inl (Sum.inl ()))) else xlet (l2 + (1 : Int32)) (fun v7 => some (Sum.inr (Sum.inr (l0, l1, v7)))))) else none)) else none))) = some x := hf
  refine xm_iload_n dX9_hasLine_15 rfl ?_
  refine xm_aload_n dX9_hasLine_16 rfl ?_
  refine xb_getI (a := l0) (c := 9) (k := 7) dX9_hasLine_17 xcl9 (by decide) xw_218 rfl hf (fun x4 ex4 hf => ?_)
  refine xb_icmp_ge 45 dX9_hasLine_20 (by decide) hf (fun c hf => ?_) (fun c hf => ?_)
  · cases hf
    exact xm_sub [] rfl (hE1 _ rfl)
  · refine xm_aload_n dX9_hasLine_23 rfl ?_
    refine xm_aload_n dX9_hasLine_24 rfl ?_
    refine xm_iload_n dX9_hasLine_25 rfl ?_
    refine xb_if hf (fun hb hf => ?_) (fun _ q => nomatch q)
    obtain ⟨p5, ep5, hf⟩ := xbind hf
    refine xb_callV (As := [.int l2]) (v0 := (some (.int p5))) (τ0 := σ) dX9_hasLine_26 (xc_X9_nodeAt _ _) xcl9 xw_1315 xw_1132 xw_1133 hb rfl (Nat.le_of_ble_eq_true rfl) rfl (Nat.le_of_ble_eq_true rfl) (fun Q1 hq => m_X9_nodeAt (d := d + 0) ep5 (fun g hg => by subst hg; exact hq)) ?_
    refine xm_aload_n dX9_hasLine_29 rfl ?_
    refine xm_iload_n dX9_hasLine_30 rfl ?_
    refine xb_if hf (fun hb hf => ?_) (fun _ q => nomatch q)
    obtain ⟨p6, ep6, hf⟩ := xbind hf
    refine xb_callV (As := [.int p5, .ref l1, .int l2]) (v0 := (some (.int p6))) (τ0 := σ) dX9_hasLine_31 (xc_X9_sameNode _ _) xcl9 xw_1271 xw_1273 xs_43 hb rfl (Nat.le_of_ble_eq_true rfl) rfl (Nat.le_of_ble_eq_true rfl) (fun Q1 hq => m_X9_sameNode (d := d + 0) ep6 (fun g hg => by subst hg; exact hq)) ?_
    refine xb_if_ne 39 dX9_hasLine_34 (by decide) hf (fun c hf => ?_) (fun c hf => ?_)
    · refine xb_iinc dX9_hasLine_39 rfl (by decide) (by decide) hf (fun v7 ev7 hf => xm_stL (L' := [(2, .int v7), (0, .ref l0), (1, .ref l1)]) rfl ?_)
      refine xm_goto 15 dX9_hasLine_42 (by decide) ?_
      cases hf
      exact xm_sub [1, 2, 0] rfl (hC _ rfl)
    · cases hf
      exact xm_sub [] rfl (hE0 _ rfl)
theorem L_X9_hasLine_l15 {G : xG} {π : Nat → Nat} {d C Z : Nat} {Q : xQ} (σ : xM) {s0 : (Nat × Nat × Int32)} {x : (Int32 ⊕ (Unit ⊕ Unit))} (h1 : xloop (f_X9_hasLine_s15 σ) xF s0 = some x) (hR : ∀ g, x = Sum.inl g → Q (.inl (some (.int g))) (σ) π) (hE0 : ∀ e : Unit, x = Sum.inr (Sum.inl e) → xMach G π J_X9_hasLine (d + 1) C Z 37 [] [] σ Q) (hE1 : ∀ e : Unit, x = Sum.inr (Sum.inr e) → xMach G π J_X9_hasLine (d + 1) C Z 45 [] [] σ Q) : xMach G π J_X9_hasLine (d + 1) C Z 15 [(0, .ref s0.1), (1, .ref s0.2.1), (2, .int s0.2.2)] [] σ Q := by
  refine xloop_run (M := (fun s : (Nat × Nat × Int32) => xMach G π J_X9_hasLine (d + 1) C Z 15 [(0, .ref s.1), (1, .ref s.2.1), (2, .int s.2.2)] [] σ Q)) (r := x) ?_ xF _ h1
  intro s y hs hx
  exact L_X9_hasLine_s15 σ s.1 s.2.1 s.2.2 (x := y) hs (fun g hg => by subst hg; exact hR g hx) (fun e he => by subst he; exact hE0 e hx) (fun e he => by subst he; exact hE1 e hx) (fun e he => by subst he; exact hx)
def f_X9_hasLine_j37 (σ : xM)  : Option Int32 :=
  some (0 : Int32)
set_option maxHeartbeats 4000000 in
set_option maxRecDepth 20000 in
theorem L_X9_hasLine_j37 {G : xG} {π : Nat → Nat} {d C Z : Nat} {Q : xQ} (σ : xM)  {x : Int32} (hf : f_X9_hasLine_j37 σ = some x) (hR : ∀ g, x = g → Q (.inl (some (.int g))) (σ) π) : xMach G π J_X9_hasLine (d + 1) C Z 37 [] [] σ Q := by
  unfold f_X9_hasLine_j37 at hf
  refine xm_iconst dX9_hasLine_37 (v := 0) (by decide) ?_
  cases hf
  exact xm_zret dX9_hasLine_38 rfl rfl (hR _ rfl)
def f_X9_hasLine_j45 (σ : xM)  : Option Int32 :=
  some (1 : Int32)
set_option maxHeartbeats 4000000 in
set_option maxRecDepth 20000 in
theorem L_X9_hasLine_j45 {G : xG} {π : Nat → Nat} {d C Z : Nat} {Q : xQ} (σ : xM)  {x : Int32} (hf : f_X9_hasLine_j45 σ = some x) (hR : ∀ g, x = g → Q (.inl (some (.int g))) (σ) π) : xMach G π J_X9_hasLine (d + 1) C Z 45 [] [] σ Q := by
  unfold f_X9_hasLine_j45 at hf
  refine xm_iconst dX9_hasLine_45 (v := 1) (by decide) ?_
  cases hf
  exact xm_zret dX9_hasLine_46 rfl rfl (hR _ rfl)
def f_X9_hasLine (σ : xM) (l0 : Nat) (l1 : Nat) : Option Int32 :=
  (gI σ l0 9 7).bind (fun x1 => (gI σ l1 9 7).bind (fun x2 => (if x1 = x2 then xlet (0 : Int32) (fun v3 => (xloop (f_X9_hasLine_s15 σ ) xF (l0, l1, v3)).bind (Sum.elim (fun g => some g) (Sum.elim (fun e => f_X9_hasLine_j37 σ) (fun e => f_X9_hasLine_j45 σ)))) else some (0 : Int32))))
set_option maxHeartbeats 4000000 in
set_option maxRecDepth 20000 in
theorem m_X9_hasLine {G : xG} {π : Nat → Nat} {d C Z : Nat} {Q : xQ} {σ : xM} {l0 : Nat} {l1 : Nat} {x : Int32} (hf : f_X9_hasLine σ l0 l1 = some x) (hR : ∀ g, x = g → Q (.inl (some (.int g))) (σ) π) : xMach G π J_X9_hasLine (d + 1) C Z 0 (lv_args 0 [.ref l0, .ref l1]) [] σ Q := by
  unfold f_X9_hasLine at hf
  refine xm_stL (L' := [(0, .ref l0), (1, .ref l1)]) rfl ?_
  refine xm_aload_n dX9_hasLine_0 rfl ?_
  refine xb_getI (a := l0) (c := 9) (k := 7) dX9_hasLine_1 xcl9 (by decide) xw_218 rfl hf (fun x1 ex1 hf => ?_)
  refine xm_aload_n dX9_hasLine_4 rfl ?_
  refine xb_getI (a := l1) (c := 9) (k := 7) dX9_hasLine_5 xcl9 (by decide) xw_218 rfl hf (fun x2 ex2 hf => ?_)
  refine xb_icmp_eq 13 dX9_hasLine_8 (by decide) hf (fun c hf => ?_) (fun c hf => ?_)
  · refine xm_iconst dX9_hasLine_13 (v := 0) (by decide) ?_
    refine xb_topi hf (fun v3 ev3 hf => ?_)
    refine xm_istore_n dX9_hasLine_14 (by decide) (xm_stL (L' := [(2, .int v3), (0, .ref l0), (1, .ref l1)]) rfl ?_)
    obtain ⟨o, h1, hf⟩ := xbind hf
    refine xm_sub [1, 2, 0] rfl (L_X9_hasLine_l15 σ h1 (fun g hg => ?_) (fun e he => ?_) (fun e he => ?_))
    · subst hg
      cases hf
      exact hR _ rfl
    · subst he
      rw [Sum.elim_inr, Sum.elim_inl] at hf
      have hf : f_X9_hasLine_j37 σ = some _ := hf
      exact xm_sub [] rfl (L_X9_hasLine_j37 σ hf hR)
    · subst he
      rw [Sum.elim_inr, Sum.elim_inr] at hf
      have hf : f_X9_hasLine_j45 σ = some _ := hf
      exact xm_sub [] rfl (L_X9_hasLine_j45 σ hf hR)
  · refine xm_iconst dX9_hasLine_11 (v := 0) (by decide) ?_
    cases hf
    exact xm_zret dX9_hasLine_12 rfl rfl (hR _ rfl)
-- Rankwise$Tree.isCallOf(II)Z
def f_X9_isCallOf_j25 (σ : xM) (s0 : Int32) : Option Int32 :=
  (xz s0).bind (fun b3 => some b3)
set_option maxHeartbeats 4000000 in
set_option maxRecDepth 20000 in
theorem L_X9_isCallOf_j25 {G : xG} {π : Nat → Nat} {d C Z : Nat} {Q : xQ} (σ : xM) (s0 : Int32) {x : Int32} (hf : f_X9_isCallOf_j25 σ s0 = some x) (hR : ∀ g, x = g → Q (.inl (some (.int g))) (σ) π) : xMach G π J_X9_isCallOf (d + 0) C Z 25 [] [.int s0] σ Q := by
  unfold f_X9_isCallOf_j25 at hf
  obtain ⟨b3, eb3, hf⟩ := xbind hf
  obtain ⟨rfl, hz⟩ := xz_of eb3
  cases hf
  exact xm_zret dX9_isCallOf_25 rfl hz (hR _ rfl)
def f_X9_isCallOf_j24 (σ : xM)  : Option Int32 :=
  f_X9_isCallOf_j25 σ (0 : Int32)
set_option maxHeartbeats 4000000 in
set_option maxRecDepth 20000 in
theorem L_X9_isCallOf_j24 {G : xG} {π : Nat → Nat} {d C Z : Nat} {Q : xQ} (σ : xM)  {x : Int32} (hf : f_X9_isCallOf_j24 σ = some x) (hR : ∀ g, x = g → Q (.inl (some (.int g))) (σ) π) : xMach G π J_X9_isCallOf (d + 0) C Z 24 [] [] σ Q := by
  unfold f_X9_isCallOf_j24 at hf
  refine xm_iconst dX9_isCallOf_24 (v := 0) (by decide) ?_
  exact xm_sub [] rfl (L_X9_isCallOf_j25 σ (0 : Int32) hf hR)
def f_X9_isCallOf (σ : xM) (l0 : Nat) (l1 : Int32) (l2 : Int32) : Option Int32 :=
  (gR σ l0 9 0).bind (fun x1 => (aI σ x1 14 l1).bind (fun x2 => (if x2 = (2 : Int32) then (gR σ l0 9 1).bind (fun x4 => (aI σ x4 14 l1).bind (fun x5 => (if x5 = l2 then f_X9_isCallOf_j25 σ (1 : Int32) else f_X9_isCallOf_j24 σ))) else f_X9_isCallOf_j24 σ)))
set_option maxHeartbeats 4000000 in
set_option maxRecDepth 20000 in
theorem m_X9_isCallOf {G : xG} {π : Nat → Nat} {d C Z : Nat} {Q : xQ} {σ : xM} {l0 : Nat} {l1 : Int32} {l2 : Int32} {x : Int32} (hf : f_X9_isCallOf σ l0 l1 l2 = some x) (hR : ∀ g, x = g → Q (.inl (some (.int g))) (σ) π) : xMach G π J_X9_isCallOf (d + 0) C Z 0 (lv_args 0 [.ref l0, .int l1, .int l2]) [] σ Q := by
  unfold f_X9_isCallOf at hf
  refine xm_stL (L' := [(0, .ref l0), (1, .int l1), (2, .int l2)]) rfl ?_
  refine xm_aload_n dX9_isCallOf_0 rfl ?_
  refine xb_getR (a := l0) (c := 9) (k := 0) dX9_isCallOf_1 xcl9 (by decide) xw_191 rfl hf (fun x1 ex1 hf => ?_)
  refine xm_iload_n dX9_isCallOf_4 rfl ?_
  refine xb_iald dX9_isCallOf_5 hf (fun x2 ex2 hf => ?_)
  refine xm_iconst dX9_isCallOf_6 (v := 2) (by decide) ?_
  refine xb_icmp_ne 24 dX9_isCallOf_7 (by decide) hf (fun c hf => ?_) (fun c hf => ?_)
  · exact xm_sub [] rfl (L_X9_isCallOf_j24 σ hf hR)
  · refine xm_aload_n dX9_isCallOf_10 rfl ?_
    refine xb_getR (a := l0) (c := 9) (k := 1) dX9_isCallOf_11 xcl9 (by decide) xw_197 rfl hf (fun x4 ex4 hf => ?_)
    refine xm_iload_n dX9_isCallOf_14 rfl ?_
    refine xb_iald dX9_isCallOf_15 hf (fun x5 ex5 hf => ?_)
    refine xm_iload_n dX9_isCallOf_16 rfl ?_
    refine xb_icmp_ne 24 dX9_isCallOf_17 (by decide) hf (fun c hf => ?_) (fun c hf => ?_)
    · exact xm_sub [] rfl (L_X9_isCallOf_j24 σ hf hR)
    · refine xm_iconst dX9_isCallOf_20 (v := 1) (by decide) ?_
      refine xm_goto 25 dX9_isCallOf_21 (by decide) ?_
      exact xm_sub [] rfl (L_X9_isCallOf_j25 σ (1 : Int32) hf hR)
-- Rankwise$Tree.hasLazyCall()Z
def f_X9_hasLazyCall_s2 (σ : xM) (s : (Nat × Int32)) : Option (Int32 ⊕ ((Unit ⊕ Unit) ⊕ (Nat × Int32))) :=
  xlet s.1 (fun l0 => xlet s.2 (fun l1 => (gI σ l0 9 7).bind (fun x2 => (if x2 ≤ l1 then some (Sum.inr (Sum.inl (Sum.inr ()))) else (if xk σ l0 9 = true then (f_X9_isCallOf σ l0 l1 (105 : Int32)).bind (fun p3 => (if p3 = (0 : Int32) then (if xk σ l0 9 = true then (f_X9_isCallOf σ l0 l1 (115 : Int32)).bind (fun p4 => (if p4 = (0 : Int32) then xlet (l1 + (1 : Int32)) (fun v5 => some (Sum.inr (Sum.inr (l0, v5)))) else some (Sum.inr (Sum.inl (Sum.inl ()))))) else none) else some (Sum.inr (Sum.inl (Sum.inl ()))))) else none)))))
set_option maxHeartbeats 4000000 in
set_option maxRecDepth 20000 in
theorem L_X9_hasLazyCall_s2 {G : xG} {π : Nat → Nat} {d C Z : Nat} {Q : xQ} (σ : xM) (l0 : Nat) (l1 : Int32) {x : (Int32 ⊕ ((Unit ⊕ Unit) ⊕ (Nat × Int32)))} (hf : f_X9_hasLazyCall_s2 σ (l0, l1) = some x) (hR : ∀ g, x = Sum.inl (g) → Q (.inl (some (.int g))) (σ) π) (hE0 : ∀ e : Unit, x = Sum.inr (Sum.inl (Sum.inl e)) → xMach G π J_X9_hasLazyCall (d + 1) C Z 30 [] [] σ Q) (hE1 : ∀ e : Unit, x = Sum.inr (Sum.inl (Sum.inr e)) → xMach G π J_X9_hasLazyCall (d + 1) C Z 38 [] [] σ Q) (hC : ∀ e : (Nat × Int32), x = Sum.inr (Sum.inr e) → xMach G π J_X9_hasLazyCall (d + 1) C Z 2 [(0, .ref e.1), (1, .int e.2)] [] σ Q) : xMach G π J_X9_hasLazyCall (d + 1) C Z 2 [(0, .ref l0), (1, .int l1)] [] σ Q := by
  have hf : (gI σ l0 9 7).bind (fun x2 => (if x2 ≤ l1 then some (Sum.inr (Sum.inl (Sum.inr ()))) else (if xk σ l0 9 = true then (f_X9_isCallOf σ l0 l1 (105 : Int32)).bind (fun p3 => (if p3 = (0 : Int32) then (if xk σ l0 9 = true then (f_X9_isCallOf σ l0 l1 (115 : Int32)).bind (fun p4 => (if p4 = (0 : Int32) then xlet (l1 + (1 : Int32)) (fun v5 => some (Sum.inr (Sum.inr (l0, v5)))) else some (Sum.inr (Sum.inl (Sum.inl ()))))) else none) else some (Sum.inr (Sum.inl (Sum.inl ()))))) else none))) = some x := hf
  refine xm_iload_n dX9_hasLazyCall_2 rfl ?_
  refine xm_aload_n dX9_hasLazyCall_3 rfl ?_
  refine xb_getI (a := l0) (c := 9) (k := 7) dX9_hasLazyCall_4 xcl9 (by decide) xw_218 rfl hf (fun x2 ex2 hf => ?_)
  refine xb_icmp_ge 38 dX9_hasLazyCall_7 (by decide) hf (fun c hf => ?_) (fun c hf => ?_)
  · cases hf
    exact xm_sub [] rfl (hE1 _ rfl)
  · refine xm_aload_n dX9_hasLazyCall_10 rfl ?_
    refine xm_iload_n dX9_hasLazyCall_11 rfl ?_
    refine xm_bipush dX9_hasLazyCall_12 (v := 105) (by decide) ?_
    refine xb_if hf (fun hb hf => ?_) (fun _ q => nomatch q)
    obtain ⟨p3, ep3, hf⟩ := xbind hf
    refine xb_callV (As := [.int l1, .int (105 : Int32)]) (v0 := (some (.int p3))) (τ0 := σ) dX9_hasLazyCall_14 (xc_X9_isCallOf _ _) xcl9 xw_1357 xw_940 xw_941 hb rfl (Nat.le_of_ble_eq_true rfl) rfl (Nat.le_of_ble_eq_true rfl) (fun Q1 hq => m_X9_isCallOf (d := d + 0) ep3 (fun g hg => by subst hg; exact hq)) ?_
    refine xb_if_ne 30 dX9_hasLazyCall_17 (by decide) hf (fun c hf => ?_) (fun c hf => ?_)
    · cases hf
      exact xm_sub [] rfl (hE0 _ rfl)
    · refine xm_aload_n dX9_hasLazyCall_20 rfl ?_
      refine xm_iload_n dX9_hasLazyCall_21 rfl ?_
      refine xm_bipush dX9_hasLazyCall_22 (v := 115) (by decide) ?_
      refine xb_if hf (fun hb hf => ?_) (fun _ q => nomatch q)
      obtain ⟨p4, ep4, hf⟩ := xbind hf
      refine xb_callV (As := [.int l1, .int (115 : Int32)]) (v0 := (some (.int p4))) (τ0 := σ) dX9_hasLazyCall_24 (xc_X9_isCallOf _ _) xcl9 xw_1357 xw_940 xw_941 hb rfl (Nat.le_of_ble_eq_true rfl) rfl (Nat.le_of_ble_eq_true rfl) (fun Q1 hq => m_X9_isCallOf (d := d + 0) ep4 (fun g hg => by subst hg; exact hq)) ?_
      refine xb_if_eq 32 dX9_hasLazyCall_27 (by decide) hf (fun c hf => ?_) (fun c hf => ?_)
      · refine xb_iinc dX9_hasLazyCall_32 rfl (by decide) (by decide) hf (fun v5 ev5 hf => xm_stL (L' := [(1, .int v5), (0, .ref l0)]) rfl ?_)
        refine xm_goto 2 dX9_hasLazyCall_35 (by decide) ?_
        cases hf
        exact xm_sub [1, 0] rfl (hC _ rfl)
      · cases hf
        exact xm_sub [] rfl (hE0 _ rfl)
theorem L_X9_hasLazyCall_l2 {G : xG} {π : Nat → Nat} {d C Z : Nat} {Q : xQ} (σ : xM) {s0 : (Nat × Int32)} {x : (Int32 ⊕ (Unit ⊕ Unit))} (h1 : xloop (f_X9_hasLazyCall_s2 σ) xF s0 = some x) (hR : ∀ g, x = Sum.inl g → Q (.inl (some (.int g))) (σ) π) (hE0 : ∀ e : Unit, x = Sum.inr (Sum.inl e) → xMach G π J_X9_hasLazyCall (d + 1) C Z 30 [] [] σ Q) (hE1 : ∀ e : Unit, x = Sum.inr (Sum.inr e) → xMach G π J_X9_hasLazyCall (d + 1) C Z 38 [] [] σ Q) : xMach G π J_X9_hasLazyCall (d + 1) C Z 2 [(0, .ref s0.1), (1, .int s0.2)] [] σ Q := by
  refine xloop_run (M := (fun s : (Nat × Int32) => xMach G π J_X9_hasLazyCall (d + 1) C Z 2 [(0, .ref s.1), (1, .int s.2)] [] σ Q)) (r := x) ?_ xF _ h1
  intro s y hs hx
  exact L_X9_hasLazyCall_s2 σ s.1 s.2 (x := y) hs (fun g hg => by subst hg; exact hR g hx) (fun e he => by subst he; exact hE0 e hx) (fun e he => by subst he; exact hE1 e hx) (fun e he => by subst he; exact hx)
def f_X9_hasLazyCall_j30 (σ : xM)  : Option Int32 :=
  some (1 : Int32)
set_option maxHeartbeats 4000000 in
set_option maxRecDepth 20000 in
theorem L_X9_hasLazyCall_j30 {G : xG} {π : Nat → Nat} {d C Z : Nat} {Q : xQ} (σ : xM)  {x : Int32} (hf : f_X9_hasLazyCall_j30 σ = some x) (hR : ∀ g, x = g → Q (.inl (some (.int g))) (σ) π) : xMach G π J_X9_hasLazyCall (d + 1) C Z 30 [] [] σ Q := by
  unfold f_X9_hasLazyCall_j30 at hf
  refine xm_iconst dX9_hasLazyCall_30 (v := 1) (by decide) ?_
  cases hf
  exact xm_zret dX9_hasLazyCall_31 rfl rfl (hR _ rfl)
def f_X9_hasLazyCall_j38 (σ : xM)  : Option Int32 :=
  some (0 : Int32)
set_option maxHeartbeats 4000000 in
set_option maxRecDepth 20000 in
theorem L_X9_hasLazyCall_j38 {G : xG} {π : Nat → Nat} {d C Z : Nat} {Q : xQ} (σ : xM)  {x : Int32} (hf : f_X9_hasLazyCall_j38 σ = some x) (hR : ∀ g, x = g → Q (.inl (some (.int g))) (σ) π) : xMach G π J_X9_hasLazyCall (d + 1) C Z 38 [] [] σ Q := by
  unfold f_X9_hasLazyCall_j38 at hf
  refine xm_iconst dX9_hasLazyCall_38 (v := 0) (by decide) ?_
  cases hf
  exact xm_zret dX9_hasLazyCall_39 rfl rfl (hR _ rfl)
def f_X9_hasLazyCall (σ : xM) (l0 : Nat) : Option Int32 :=
  xlet (0 : Int32) (fun v1 => (xloop (f_X9_hasLazyCall_s2 σ ) xF (l0, v1)).bind (Sum.elim (fun g => some g) (Sum.elim (fun e => f_X9_hasLazyCall_j30 σ) (fun e => f_X9_hasLazyCall_j38 σ))))
set_option maxHeartbeats 4000000 in
set_option maxRecDepth 20000 in
theorem m_X9_hasLazyCall {G : xG} {π : Nat → Nat} {d C Z : Nat} {Q : xQ} {σ : xM} {l0 : Nat} {x : Int32} (hf : f_X9_hasLazyCall σ l0 = some x) (hR : ∀ g, x = g → Q (.inl (some (.int g))) (σ) π) : xMach G π J_X9_hasLazyCall (d + 1) C Z 0 (lv_args 0 [.ref l0]) [] σ Q := by
  unfold f_X9_hasLazyCall at hf
  refine xm_stL (L' := [(0, .ref l0)]) rfl ?_
  refine xm_iconst dX9_hasLazyCall_0 (v := 0) (by decide) ?_
  refine xb_topi hf (fun v1 ev1 hf => ?_)
  refine xm_istore_n dX9_hasLazyCall_1 (by decide) (xm_stL (L' := [(1, .int v1), (0, .ref l0)]) rfl ?_)
  obtain ⟨o, h1, hf⟩ := xbind hf
  refine xm_sub [1, 0] rfl (L_X9_hasLazyCall_l2 σ h1 (fun g hg => ?_) (fun e he => ?_) (fun e he => ?_))
  · subst hg
    cases hf
    exact hR _ rfl
  · subst he
    rw [Sum.elim_inr, Sum.elim_inl] at hf
    have hf : f_X9_hasLazyCall_j30 σ = some _ := hf
    exact xm_sub [] rfl (L_X9_hasLazyCall_j30 σ hf hR)
  · subst he
    rw [Sum.elim_inr, Sum.elim_inr] at hf
    have hf : f_X9_hasLazyCall_j38 σ = some _ := hf
    exact xm_sub [] rfl (L_X9_hasLazyCall_j38 σ hf hR)
-- Rankwise$Tree.child(II)I
def f_X9_child_s7 (σ : xM) (s : (Nat × Int32 × Int32 × Int32)) : Option (Int32 ⊕ ((Nat × Int32) ⊕ (Nat × Int32 × Int32 × Int32))) :=
  xlet s.1 (fun l0 => xlet s.2.1 (fun l2 => xlet s.2.2.1 (fun l3 => xlet s.2.2.2 (fun l4 => (if l2 ≤ l4 then some (Sum.inr (Sum.inl (l0, l3))) else (gI σ l0 9 7).bind (fun x3 => (if x3 ≤ l3 then some (Sum.inr (Sum.inl (l0, l3))) else (gR σ l0 9 4).bind (fun x4 => (aI σ x4 14 l3).bind (fun x5 => xlet (l3 + x5) (fun v6 => xlet (l4 + (1 : Int32)) (fun v7 => some (Sum.inr (Sum.inr (l0, l2, v6, v7))))))))))))))
set_option maxHeartbeats 4000000 in
set_option maxRecDepth 20000 in
theorem L_X9_child_s7 {G : xG} {π : Nat → Nat} {d C Z : Nat} {Q : xQ} (σ : xM) (l0 : Nat) (l2 : Int32) (l3 : Int32) (l4 : Int32) {x : (Int32 ⊕ ((Nat × Int32) ⊕ (Nat × Int32 × Int32 × Int32)))} (hf : f_X9_child_s7 σ (l0, l2, l3, l4) = some x) (hR : ∀ g, x = Sum.inl (g) → Q (.inl (some (.int g))) (σ) π) (hE : ∀ e : (Nat × Int32), x = Sum.inr (Sum.inl e) → xMach G π J_X9_child (d + 1) C Z 36 [(0, .ref e.1), (3, .int e.2)] [] σ Q) (hC : ∀ e : (Nat × Int32 × Int32 × Int32), x = Sum.inr (Sum.inr e) → xMach G π J_X9_child (d + 1) C Z 7 [(0, .ref e.1), (2, .int e.2.1), (3, .int e.2.2.1), (4, .int e.2.2.2)] [] σ Q) : xMach G π J_X9_child (d + 1) C Z 7 [(0, .ref l0), (2, .int l2), (3, .int l3), (4, .int l4)] [] σ Q := by
  have hf : (if l2 ≤ l4 then some (Sum.inr (Sum.inl (l0, l3))) else (gI σ l0 9 7).bind (fun x3 => (if x3 ≤ l3 then some (Sum.inr (Sum.inl (l0, l3))) else (gR σ l0 9 4).bind (fun x4 => (aI σ x4 14 l3).bind (fun x5 => xlet (l3 + x5) (fun v6 => xlet (l4 + (1 : Int32)) (fun v7 => some (Sum.inr (Sum.inr (l0, l2, v6, v7)))))))))) = some x := hf
  refine xm_iload dX9_child_7 rfl ?_
  refine xm_iload_n dX9_child_9 rfl ?_
  refine xb_icmp_ge 36 dX9_child_10 (by decide) hf (fun c hf => ?_) (fun c hf => ?_)
  · cases hf
    exact xm_sub [0, 2] rfl (hE _ rfl)
  · refine xm_iload_n dX9_child_13 rfl ?_
    refine xm_aload_n dX9_child_14 rfl ?_
    refine xb_getI (a := l0) (c := 9) (k := 7) dX9_child_15 xcl9 (by decide) xw_218 rfl hf (fun x3 ex3 hf => ?_)
    refine xb_icmp_ge 36 dX9_child_18 (by decide) hf (fun c hf => ?_) (fun c hf => ?_)
    · cases hf
      exact xm_sub [0, 2] rfl (hE _ rfl)
    · refine xm_iload_n dX9_child_21 rfl ?_
      refine xm_aload_n dX9_child_22 rfl ?_
      refine xb_getR (a := l0) (c := 9) (k := 4) dX9_child_23 xcl9 (by decide) xw_213 rfl hf (fun x4 ex4 hf => ?_)
      refine xm_iload_n dX9_child_26 rfl ?_
      refine xb_iald dX9_child_27 hf (fun x5 ex5 hf => ?_)
      refine xm_iadd dX9_child_28 ?_
      refine xb_topi hf (fun v6 ev6 hf => ?_)
      refine xm_istore_n dX9_child_29 (by decide) (xm_stL (L' := [(3, .int v6), (0, .ref l0), (2, .int l2), (4, .int l4)]) rfl ?_)
      refine xb_iinc dX9_child_30 rfl (by decide) (by decide) hf (fun v7 ev7 hf => xm_stL (L' := [(4, .int v7), (3, .int v6), (0, .ref l0), (2, .int l2)]) rfl ?_)
      refine xm_goto 7 dX9_child_33 (by decide) ?_
      cases hf
      exact xm_sub [2, 3, 1, 0] rfl (hC _ rfl)
theorem L_X9_child_l7 {G : xG} {π : Nat → Nat} {d C Z : Nat} {Q : xQ} (σ : xM) {s0 : (Nat × Int32 × Int32 × Int32)} {x : (Int32 ⊕ (Nat × Int32))} (h1 : xloop (f_X9_child_s7 σ) xF s0 = some x) (hR : ∀ g, x = Sum.inl g → Q (.inl (some (.int g))) (σ) π) (hE : ∀ e : (Nat × Int32), x = Sum.inr e → xMach G π J_X9_child (d + 1) C Z 36 [(0, .ref e.1), (3, .int e.2)] [] σ Q) : xMach G π J_X9_child (d + 1) C Z 7 [(0, .ref s0.1), (2, .int s0.2.1), (3, .int s0.2.2.1), (4, .int s0.2.2.2)] [] σ Q := by
  refine xloop_run (M := (fun s : (Nat × Int32 × Int32 × Int32) => xMach G π J_X9_child (d + 1) C Z 7 [(0, .ref s.1), (2, .int s.2.1), (3, .int s.2.2.1), (4, .int s.2.2.2)] [] σ Q)) (r := x) ?_ xF _ h1
  intro s y hs hx
  exact L_X9_child_s7 σ s.1 s.2.1 s.2.2.1 s.2.2.2 (x := y) hs (fun g hg => by subst hg; exact hR g hx) (fun e he => by subst he; exact hE e hx) (fun e he => by subst he; exact hx)
def f_X9_child_j36 (σ : xM) (l0 : Nat) (l3 : Int32) : Option Int32 :=
  (gI σ l0 9 7).bind (fun x8 => some (if (x8 - (1 : Int32)) < l3 then (x8 - (1 : Int32)) else l3))
set_option maxHeartbeats 4000000 in
set_option maxRecDepth 20000 in
theorem L_X9_child_j36 {G : xG} {π : Nat → Nat} {d C Z : Nat} {Q : xQ} (σ : xM) (l0 : Nat) (l3 : Int32) {x : Int32} (hf : f_X9_child_j36 σ l0 l3 = some x) (hR : ∀ g, x = g → Q (.inl (some (.int g))) (σ) π) : xMach G π J_X9_child (d + 1) C Z 36 [(0, .ref l0), (3, .int l3)] [] σ Q := by
  unfold f_X9_child_j36 at hf
  refine xm_iload_n dX9_child_36 rfl ?_
  refine xm_aload_n dX9_child_37 rfl ?_
  refine xb_getI (a := l0) (c := 9) (k := 7) dX9_child_38 xcl9 (by decide) xw_218 rfl hf (fun x8 ex8 hf => ?_)
  refine xm_iconst dX9_child_41 (v := 1) (by decide) ?_
  refine xm_isub dX9_child_42 ?_
  refine xm_min dX9_child_43 xw_832 xw_120 xw_7 xw_121 (Nat.le_of_ble_eq_true rfl) ?_
  cases hf
  exact xm_iret dX9_child_46 rfl (hR _ rfl)
def f_X9_child (σ : xM) (l0 : Nat) (l1 : Int32) (l2 : Int32) : Option Int32 :=
  xlet (l1 + (1 : Int32)) (fun v1 => xlet (0 : Int32) (fun v2 => (xloop (f_X9_child_s7 σ ) xF (l0, l2, v1, v2)).bind (Sum.elim (fun g => some g) (fun e => f_X9_child_j36 σ e.1 e.2))))
set_option maxHeartbeats 4000000 in
set_option maxRecDepth 20000 in
theorem m_X9_child {G : xG} {π : Nat → Nat} {d C Z : Nat} {Q : xQ} {σ : xM} {l0 : Nat} {l1 : Int32} {l2 : Int32} {x : Int32} (hf : f_X9_child σ l0 l1 l2 = some x) (hR : ∀ g, x = g → Q (.inl (some (.int g))) (σ) π) : xMach G π J_X9_child (d + 1) C Z 0 (lv_args 0 [.ref l0, .int l1, .int l2]) [] σ Q := by
  unfold f_X9_child at hf
  refine xm_stL (L' := [(0, .ref l0), (1, .int l1), (2, .int l2)]) rfl ?_
  refine xm_iload_n dX9_child_0 rfl ?_
  refine xm_iconst dX9_child_1 (v := 1) (by decide) ?_
  refine xm_iadd dX9_child_2 ?_
  refine xb_topi hf (fun v1 ev1 hf => ?_)
  refine xm_istore_n dX9_child_3 (by decide) (xm_stL (L' := [(3, .int v1), (0, .ref l0), (1, .int l1), (2, .int l2)]) rfl ?_)
  refine xm_iconst dX9_child_4 (v := 0) (by decide) ?_
  refine xb_topi hf (fun v2 ev2 hf => ?_)
  refine xm_istore dX9_child_5 (by decide) (xm_stL (L' := [(4, .int v2), (3, .int v1), (0, .ref l0), (1, .int l1), (2, .int l2)]) rfl ?_)
  obtain ⟨o, h1, hf⟩ := xbind hf
  refine xm_sub [2, 4, 1, 0] rfl (L_X9_child_l7 σ h1 (fun g hg => ?_) (fun e he => ?_))
  · subst hg
    cases hf
    exact hR _ rfl
  · subst he
    rw [Sum.elim_inr] at hf
    have hf : f_X9_child_j36 σ e.1 e.2 = some _ := hf
    exact xm_sub [0, 1] rfl (L_X9_child_j36 σ e.1 e.2 hf hR)
-- Rankwise$Tree.cut(II)V
def f_X9_cut_j20 (σ : xM)  : Option xM :=
  some σ
set_option maxHeartbeats 4000000 in
set_option maxRecDepth 20000 in
theorem L_X9_cut_j20 {G : xG} {π : Nat → Nat} {d C Z : Nat} {Q : xQ} (σ : xM)  {x : xM} (hf : f_X9_cut_j20 σ = some x) (hR : ∀ g, x = g → Q (.inl none) (g) π) : xMach G π J_X9_cut (d + 0) C Z 20 [] [] σ Q := by
  unfold f_X9_cut_j20 at hf
  cases hf
  exact xm_vret dX9_cut_20 rfl (hR _ rfl)
def f_X9_cut_s24 (s : (Nat × Int32 × Int32 × xM)) : Option (xM ⊕ ((Nat × Int32 × xM) ⊕ (Nat × Int32 × Int32 × xM))) :=
  xlet s.1 (fun l0 => xlet s.2.1 (fun l3 => xlet s.2.2.1 (fun l4 => xlet s.2.2.2 (fun σ => (gI σ l0 9 7).bind (fun x3 => (if x3 ≤ l4 then some (Sum.inr (Sum.inl (l0, l3, σ))) else (gR σ l0 9 0).bind (fun x4 => (gR σ l0 9 0).bind (fun x5 => (aI σ x5 14 l4).bind (fun x6 => (wI σ x4 (l4 - l3) x6).bind (fun σ7 => (gR σ7 l0 9 1).bind (fun x8 => (gR σ7 l0 9 1).bind (fun x9 => (aI σ7 x9 14 l4).bind (fun x10 => (wI σ7 x8 (l4 - l3) x10).bind (fun σ11 => (gR σ11 l0 9 2).bind (fun x12 => (gR σ11 l0 9 2).bind (fun x13 => (aI σ11 x13 14 l4).bind (fun x14 => (wI σ11 x12 (l4 - l3) x14).bind (fun σ15 => (gR σ15 l0 9 3).bind (fun x16 => (gR σ15 l0 9 3).bind (fun x17 => (aI σ15 x17 14 l4).bind (fun x18 => (wI σ15 x16 (l4 - l3) x18).bind (fun σ19 => xlet (l4 + (1 : Int32)) (fun v20 => some (Sum.inr (Sum.inr (l0, l3, v20, σ19))))))))))))))))))))))))))
set_option maxHeartbeats 4000000 in
set_option maxRecDepth 20000 in
theorem L_X9_cut_s24 {G : xG} {π : Nat → Nat} {d C Z : Nat} {Q : xQ} (σ : xM) (l0 : Nat) (l3 : Int32) (l4 : Int32) {x : (xM ⊕ ((Nat × Int32 × xM) ⊕ (Nat × Int32 × Int32 × xM)))} (hf : f_X9_cut_s24 (l0, l3, l4, σ) = some x) (hR : ∀ g, x = Sum.inl (g) → Q (.inl none) (g) π) (hE : ∀ e : (Nat × Int32 × xM), x = Sum.inr (Sum.inl e) → xMach G π J_X9_cut (d + 0) C Z 103 [(0, .ref e.1), (3, .int e.2.1)] [] e.2.2 Q) (hC : ∀ e : (Nat × Int32 × Int32 × xM), x = Sum.inr (Sum.inr e) → xMach G π J_X9_cut (d + 0) C Z 24 [(0, .ref e.1), (3, .int e.2.1), (4, .int e.2.2.1)] [] e.2.2.2 Q) : xMach G π J_X9_cut (d + 0) C Z 24 [(0, .ref l0), (3, .int l3), (4, .int l4)] [] σ Q := by
  have hf : (gI σ l0 9 7).bind (fun x3 => (if x3 ≤ l4 then some (Sum.inr (Sum.inl (l0, l3, σ))) else (gR σ l0 9 0).bind (fun x4 => (gR σ l0 9 0).bind (fun x5 => (aI σ x5 14 l4).bind (fun x6 => (wI σ x4 (l4 - l3) x6).bind (fun σ7 => (gR σ7 l0 9 1).bind (fun x8 => (gR σ7 l0 9 1).bind (fun x9 => (aI σ7 x9 14 l4).bind (fun x10 => (wI σ7 x8 (l4 - l3) x10).bind (fun σ11 => (gR σ11 l0 9 2).bind (fun x12 => (gR σ11 l0 9 2).bind (fun x13 => (aI σ11 x13 14 l4).bind (fun x14 => (wI σ11 x12 (l4 - l3) x14).bind (fun σ15 => (gR σ15 l0 9 3).bind (fun x16 => (gR σ15 l0 9 3).bind (fun x17 => (aI σ15 x17 14 l4).bind (fun x18 => (wI σ15 x16 (l4 - l3) x18).bind (fun σ19 => xlet (l4 + (1 : Int32)) (fun v20 => some (Sum.inr (Sum.inr (l0, l3, v20, σ19)))))))))))))))))))))) = some x := hf
  refine xm_iload dX9_cut_24 rfl ?_
  refine xm_aload_n dX9_cut_26 rfl ?_
  refine xb_getI (a := l0) (c := 9) (k := 7) dX9_cut_27 xcl9 (by decide) xw_218 rfl hf (fun x3 ex3 hf => ?_)
  refine xb_icmp_ge 103 dX9_cut_30 (by decide) hf (fun c hf => ?_) (fun c hf => ?_)
  · cases hf
    exact xm_sub [0, 1] rfl (hE _ rfl)
  · refine xm_aload_n dX9_cut_33 rfl ?_
    refine xb_getR (a := l0) (c := 9) (k := 0) dX9_cut_34 xcl9 (by decide) xw_191 rfl hf (fun x4 ex4 hf => ?_)
    refine xm_iload dX9_cut_37 rfl ?_
    refine xm_iload_n dX9_cut_39 rfl ?_
    refine xm_isub dX9_cut_40 ?_
    refine xm_aload_n dX9_cut_41 rfl ?_
    refine xb_getR (a := l0) (c := 9) (k := 0) dX9_cut_42 xcl9 (by decide) xw_191 rfl hf (fun x5 ex5 hf => ?_)
    refine xm_iload dX9_cut_45 rfl ?_
    refine xb_iald dX9_cut_47 hf (fun x6 ex6 hf => ?_)
    refine xb_iast dX9_cut_48 hf (fun σ7 eσ7 hf => ?_)
    refine xm_aload_n dX9_cut_49 rfl ?_
    refine xb_getR (a := l0) (c := 9) (k := 1) dX9_cut_50 xcl9 (by decide) xw_197 rfl hf (fun x8 ex8 hf => ?_)
    refine xm_iload dX9_cut_53 rfl ?_
    refine xm_iload_n dX9_cut_55 rfl ?_
    refine xm_isub dX9_cut_56 ?_
    refine xm_aload_n dX9_cut_57 rfl ?_
    refine xb_getR (a := l0) (c := 9) (k := 1) dX9_cut_58 xcl9 (by decide) xw_197 rfl hf (fun x9 ex9 hf => ?_)
    refine xm_iload dX9_cut_61 rfl ?_
    refine xb_iald dX9_cut_63 hf (fun x10 ex10 hf => ?_)
    refine xb_iast dX9_cut_64 hf (fun σ11 eσ11 hf => ?_)
    refine xm_aload_n dX9_cut_65 rfl ?_
    refine xb_getR (a := l0) (c := 9) (k := 2) dX9_cut_66 xcl9 (by decide) xw_203 rfl hf (fun x12 ex12 hf => ?_)
    refine xm_iload dX9_cut_69 rfl ?_
    refine xm_iload_n dX9_cut_71 rfl ?_
    refine xm_isub dX9_cut_72 ?_
    refine xm_aload_n dX9_cut_73 rfl ?_
    refine xb_getR (a := l0) (c := 9) (k := 2) dX9_cut_74 xcl9 (by decide) xw_203 rfl hf (fun x13 ex13 hf => ?_)
    refine xm_iload dX9_cut_77 rfl ?_
    refine xb_iald dX9_cut_79 hf (fun x14 ex14 hf => ?_)
    refine xb_iast dX9_cut_80 hf (fun σ15 eσ15 hf => ?_)
    refine xm_aload_n dX9_cut_81 rfl ?_
    refine xb_getR (a := l0) (c := 9) (k := 3) dX9_cut_82 xcl9 (by decide) xw_208 rfl hf (fun x16 ex16 hf => ?_)
    refine xm_iload dX9_cut_85 rfl ?_
    refine xm_iload_n dX9_cut_87 rfl ?_
    refine xm_isub dX9_cut_88 ?_
    refine xm_aload_n dX9_cut_89 rfl ?_
    refine xb_getR (a := l0) (c := 9) (k := 3) dX9_cut_90 xcl9 (by decide) xw_208 rfl hf (fun x17 ex17 hf => ?_)
    refine xm_iload dX9_cut_93 rfl ?_
    refine xb_iald dX9_cut_95 hf (fun x18 ex18 hf => ?_)
    refine xb_iast dX9_cut_96 hf (fun σ19 eσ19 hf => ?_)
    refine xb_iinc dX9_cut_97 rfl (by decide) (by decide) hf (fun v20 ev20 hf => xm_stL (L' := [(4, .int v20), (0, .ref l0), (3, .int l3)]) rfl ?_)
    refine xm_goto 24 dX9_cut_100 (by decide) ?_
    cases hf
    exact xm_sub [1, 2, 0] rfl (hC _ rfl)
theorem L_X9_cut_l24 {G : xG} {π : Nat → Nat} {d C Z : Nat} {Q : xQ} {s0 : (Nat × Int32 × Int32 × xM)} {x : (xM ⊕ (Nat × Int32 × xM))} (h1 : xloop (f_X9_cut_s24) xF s0 = some x) (hR : ∀ g, x = Sum.inl g → Q (.inl none) (g) π) (hE : ∀ e : (Nat × Int32 × xM), x = Sum.inr e → xMach G π J_X9_cut (d + 0) C Z 103 [(0, .ref e.1), (3, .int e.2.1)] [] e.2.2 Q) : xMach G π J_X9_cut (d + 0) C Z 24 [(0, .ref s0.1), (3, .int s0.2.1), (4, .int s0.2.2.1)] [] s0.2.2.2 Q := by
  refine xloop_run (M := (fun s : (Nat × Int32 × Int32 × xM) => xMach G π J_X9_cut (d + 0) C Z 24 [(0, .ref s.1), (3, .int s.2.1), (4, .int s.2.2.1)] [] s.2.2.2 Q)) (r := x) ?_ xF _ h1
  intro s y hs hx
  exact L_X9_cut_s24 s.2.2.2 s.1 s.2.1 s.2.2.1 (x := y) hs (fun g hg => by subst hg; exact hR g hx) (fun e he => by subst he; exact hE e hx) (fun e he => by subst he; exact hx)
def f_X9_cut_j103 (σ : xM) (l0 : Nat) (l3 : Int32) : Option xM :=
  (gI σ l0 9 7).bind (fun x21 => (sI σ l0 9 7 (x21 - l3)).bind (fun σ22 => some σ22))
set_option maxHeartbeats 4000000 in
set_option maxRecDepth 20000 in
theorem L_X9_cut_j103 {G : xG} {π : Nat → Nat} {d C Z : Nat} {Q : xQ} (σ : xM) (l0 : Nat) (l3 : Int32) {x : xM} (hf : f_X9_cut_j103 σ l0 l3 = some x) (hR : ∀ g, x = g → Q (.inl none) (g) π) : xMach G π J_X9_cut (d + 0) C Z 103 [(0, .ref l0), (3, .int l3)] [] σ Q := by
  unfold f_X9_cut_j103 at hf
  refine xm_aload_n dX9_cut_103 rfl ?_
  refine xm_dup dX9_cut_104 rfl ?_
  refine xb_getI (a := l0) (c := 9) (k := 7) dX9_cut_105 xcl9 (by decide) xw_218 rfl hf (fun x21 ex21 hf => ?_)
  refine xm_iload_n dX9_cut_108 rfl ?_
  refine xm_isub dX9_cut_109 ?_
  refine xb_putI (a := l0) (c := 9) (k := 7) dX9_cut_110 xcl9 (by decide) xw_218 rfl rfl hf (fun σ22 eσ22 hf => ?_)
  cases hf
  exact xm_vret dX9_cut_113 rfl (hR _ rfl)
def f_X9_cut (σ : xM) (l0 : Nat) (l1 : Int32) (l2 : Int32) : Option xM :=
  xlet (l2 - l1) (fun v1 => (if v1 ≤ (0 : Int32) then f_X9_cut_j20 σ else (if l1 < (0 : Int32) then f_X9_cut_j20 σ else (gI σ l0 9 7).bind (fun x2 => (if l2 ≤ x2 then (xloop (f_X9_cut_s24 ) xF (l0, v1, l2, σ)).bind (Sum.elim (fun g => some g) (fun e => f_X9_cut_j103 e.2.2 e.1 e.2.1)) else f_X9_cut_j20 σ)))))
set_option maxHeartbeats 4000000 in
set_option maxRecDepth 20000 in
theorem m_X9_cut {G : xG} {π : Nat → Nat} {d C Z : Nat} {Q : xQ} {σ : xM} {l0 : Nat} {l1 : Int32} {l2 : Int32} {x : xM} (hf : f_X9_cut σ l0 l1 l2 = some x) (hR : ∀ g, x = g → Q (.inl none) (g) π) : xMach G π J_X9_cut (d + 0) C Z 0 (lv_args 0 [.ref l0, .int l1, .int l2]) [] σ Q := by
  unfold f_X9_cut at hf
  refine xm_stL (L' := [(0, .ref l0), (1, .int l1), (2, .int l2)]) rfl ?_
  refine xm_iload_n dX9_cut_0 rfl ?_
  refine xm_iload_n dX9_cut_1 rfl ?_
  refine xm_isub dX9_cut_2 ?_
  refine xb_topi hf (fun v1 ev1 hf => ?_)
  refine xm_istore_n dX9_cut_3 (by decide) (xm_stL (L' := [(3, .int v1), (0, .ref l0), (1, .int l1), (2, .int l2)]) rfl ?_)
  refine xm_iload_n dX9_cut_4 rfl ?_
  refine xb_if_le 20 dX9_cut_5 (by decide) hf (fun c hf => ?_) (fun c hf => ?_)
  · exact xm_sub [] rfl (L_X9_cut_j20 σ hf hR)
  · refine xm_iload_n dX9_cut_8 rfl ?_
    refine xb_if_lt 20 dX9_cut_9 (by decide) hf (fun c hf => ?_) (fun c hf => ?_)
    · exact xm_sub [] rfl (L_X9_cut_j20 σ hf hR)
    · refine xm_iload_n dX9_cut_12 rfl ?_
      refine xm_aload_n dX9_cut_13 rfl ?_
      refine xb_getI (a := l0) (c := 9) (k := 7) dX9_cut_14 xcl9 (by decide) xw_218 rfl hf (fun x2 ex2 hf => ?_)
      refine xb_icmp_le 21 dX9_cut_17 (by decide) hf (fun c hf => ?_) (fun c hf => ?_)
      · refine xm_iload_n dX9_cut_21 rfl ?_
        refine xm_istore dX9_cut_22 (by decide) (xm_stL (L' := [(4, .int l2), (3, .int v1), (0, .ref l0), (1, .int l1), (2, .int l2)]) rfl ?_)
        obtain ⟨o, h1, hf⟩ := xbind hf
        refine xm_sub [2, 1, 0] rfl (L_X9_cut_l24  h1 (fun g hg => ?_) (fun e he => ?_))
        · subst hg
          cases hf
          exact hR _ rfl
        · subst he
          rw [Sum.elim_inr] at hf
          have hf : f_X9_cut_j103 e.2.2 e.1 e.2.1 = some _ := hf
          exact xm_sub [0, 1] rfl (L_X9_cut_j103 e.2.2 e.1 e.2.1 hf hR)
      · exact xm_sub [] rfl (L_X9_cut_j20 σ hf hR)
-- Rankwise$Tree.keepOnly(II)V
def f_X9_keepOnly (σ : xM) (l0 : Nat) (l1 : Int32) (l2 : Int32) : Option xM :=
  (gR σ l0 9 4).bind (fun x1 => (aI σ x1 14 l1).bind (fun x2 => xlet (l1 + x2) (fun v3 => (gR σ l0 9 4).bind (fun x4 => (aI σ x4 14 l2).bind (fun x5 => xlet (l2 + x5) (fun v6 => (if xk σ l0 9 = true then (f_X9_cut σ l0 v6 v3).bind (fun p7 => (if xk p7 l0 9 = true then (f_X9_cut p7 l0 l1 l2).bind (fun p8 => (if xk p8 l0 9 = true then (f_X9_measure p8 l0).bind (fun p9 => some p9) else none)) else none)) else none)))))))
set_option maxHeartbeats 4000000 in
set_option maxRecDepth 20000 in
theorem m_X9_keepOnly {G : xG} {π : Nat → Nat} {d C Z : Nat} {Q : xQ} {σ : xM} {l0 : Nat} {l1 : Int32} {l2 : Int32} {x : xM} (hf : f_X9_keepOnly σ l0 l1 l2 = some x) (hR : ∀ g, x = g → Q (.inl none) (g) π) : xMach G π J_X9_keepOnly (d + 1) C Z 0 (lv_args 0 [.ref l0, .int l1, .int l2]) [] σ Q := by
  unfold f_X9_keepOnly at hf
  refine xm_stL (L' := [(0, .ref l0), (1, .int l1), (2, .int l2)]) rfl ?_
  refine xm_iload_n dX9_keepOnly_0 rfl ?_
  refine xm_aload_n dX9_keepOnly_1 rfl ?_
  refine xb_getR (a := l0) (c := 9) (k := 4) dX9_keepOnly_2 xcl9 (by decide) xw_213 rfl hf (fun x1 ex1 hf => ?_)
  refine xm_iload_n dX9_keepOnly_5 rfl ?_
  refine xb_iald dX9_keepOnly_6 hf (fun x2 ex2 hf => ?_)
  refine xm_iadd dX9_keepOnly_7 ?_
  refine xb_topi hf (fun v3 ev3 hf => ?_)
  refine xm_istore_n dX9_keepOnly_8 (by decide) (xm_stL (L' := [(3, .int v3), (0, .ref l0), (1, .int l1), (2, .int l2)]) rfl ?_)
  refine xm_iload_n dX9_keepOnly_9 rfl ?_
  refine xm_aload_n dX9_keepOnly_10 rfl ?_
  refine xb_getR (a := l0) (c := 9) (k := 4) dX9_keepOnly_11 xcl9 (by decide) xw_213 rfl hf (fun x4 ex4 hf => ?_)
  refine xm_iload_n dX9_keepOnly_14 rfl ?_
  refine xb_iald dX9_keepOnly_15 hf (fun x5 ex5 hf => ?_)
  refine xm_iadd dX9_keepOnly_16 ?_
  refine xb_topi hf (fun v6 ev6 hf => ?_)
  refine xm_istore dX9_keepOnly_17 (by decide) (xm_stL (L' := [(4, .int v6), (3, .int v3), (0, .ref l0), (1, .int l1), (2, .int l2)]) rfl ?_)
  refine xm_aload_n dX9_keepOnly_19 rfl ?_
  refine xm_iload dX9_keepOnly_20 rfl ?_
  refine xm_iload_n dX9_keepOnly_22 rfl ?_
  refine xb_if hf (fun hb hf => ?_) (fun _ q => nomatch q)
  obtain ⟨p7, ep7, hf⟩ := xbind hf
  refine xb_callV (As := [.int v6, .int v3]) (v0 := none) (τ0 := p7) dX9_keepOnly_23 (xc_X9_cut _ _) xcl9 xw_1383 xw_1385 xs_57 hb rfl (Nat.le_of_ble_eq_true rfl) rfl (Nat.le_of_ble_eq_true rfl) (fun Q1 hq => m_X9_cut (d := d + 0) ep7 (fun g hg => by subst hg; exact hq)) ?_
  refine xm_aload_n dX9_keepOnly_26 rfl ?_
  refine xm_iload_n dX9_keepOnly_27 rfl ?_
  refine xm_iload_n dX9_keepOnly_28 rfl ?_
  refine xb_if hf (fun hb hf => ?_) (fun _ q => nomatch q)
  obtain ⟨p8, ep8, hf⟩ := xbind hf
  refine xb_callV (As := [.int l1, .int l2]) (v0 := none) (τ0 := p8) dX9_keepOnly_29 (xc_X9_cut _ _) xcl9 xw_1383 xw_1385 xs_57 hb rfl (Nat.le_of_ble_eq_true rfl) rfl (Nat.le_of_ble_eq_true rfl) (fun Q1 hq => m_X9_cut (d := d + 0) ep8 (fun g hg => by subst hg; exact hq)) ?_
  refine xm_aload_n dX9_keepOnly_32 rfl ?_
  refine xb_if hf (fun hb hf => ?_) (fun _ q => nomatch q)
  obtain ⟨p9, ep9, hf⟩ := xbind hf
  refine xb_callV (As := []) (v0 := none) (τ0 := p9) dX9_keepOnly_33 (xc_X9_measure _ _) xcl9 xw_815 xw_816 xw_817 hb rfl (Nat.le_of_ble_eq_true rfl) rfl (Nat.le_of_ble_eq_true rfl) (fun Q1 hq => m_X9_measure (d := d + 0) ep9 (fun g hg => by subst hg; exact hq)) ?_
  cases hf
  exact xm_vret dX9_keepOnly_36 rfl (hR _ rfl)
-- Rankwise$Tree.makeNumber(II)V
def f_X9_makeNumber (σ : xM) (l0 : Nat) (l1 : Int32) (l2 : Int32) : Option xM :=
  (gR σ l0 9 4).bind (fun x1 => (aI σ x1 14 l1).bind (fun x2 => (if xk σ l0 9 = true then (f_X9_cut σ l0 (l1 + (1 : Int32)) (l1 + x2)).bind (fun p3 => (gR p3 l0 9 0).bind (fun x4 => (wI p3 x4 l1 (0 : Int32)).bind (fun σ5 => (gR σ5 l0 9 1).bind (fun x6 => (wI σ5 x6 l1 l2).bind (fun σ7 => (gR σ7 l0 9 2).bind (fun x8 => (wI σ7 x8 l1 (-1 : Int32)).bind (fun σ9 => (gR σ9 l0 9 3).bind (fun x10 => (wI σ9 x10 l1 (0 : Int32)).bind (fun σ11 => (if xk σ11 l0 9 = true then (f_X9_measure σ11 l0).bind (fun p12 => some p12) else none)))))))))) else none)))
set_option maxHeartbeats 4000000 in
set_option maxRecDepth 20000 in
theorem m_X9_makeNumber {G : xG} {π : Nat → Nat} {d C Z : Nat} {Q : xQ} {σ : xM} {l0 : Nat} {l1 : Int32} {l2 : Int32} {x : xM} (hf : f_X9_makeNumber σ l0 l1 l2 = some x) (hR : ∀ g, x = g → Q (.inl none) (g) π) : xMach G π J_X9_makeNumber (d + 1) C Z 0 (lv_args 0 [.ref l0, .int l1, .int l2]) [] σ Q := by
  unfold f_X9_makeNumber at hf
  refine xm_stL (L' := [(0, .ref l0), (1, .int l1), (2, .int l2)]) rfl ?_
  refine xm_aload_n dX9_makeNumber_0 rfl ?_
  refine xm_iload_n dX9_makeNumber_1 rfl ?_
  refine xm_iconst dX9_makeNumber_2 (v := 1) (by decide) ?_
  refine xm_iadd dX9_makeNumber_3 ?_
  refine xm_iload_n dX9_makeNumber_4 rfl ?_
  refine xm_aload_n dX9_makeNumber_5 rfl ?_
  refine xb_getR (a := l0) (c := 9) (k := 4) dX9_makeNumber_6 xcl9 (by decide) xw_213 rfl hf (fun x1 ex1 hf => ?_)
  refine xm_iload_n dX9_makeNumber_9 rfl ?_
  refine xb_iald dX9_makeNumber_10 hf (fun x2 ex2 hf => ?_)
  refine xm_iadd dX9_makeNumber_11 ?_
  refine xb_if hf (fun hb hf => ?_) (fun _ q => nomatch q)
  obtain ⟨p3, ep3, hf⟩ := xbind hf
  refine xb_callV (As := [.int (l1 + (1 : Int32)), .int (l1 + x2)]) (v0 := none) (τ0 := p3) dX9_makeNumber_12 (xc_X9_cut _ _) xcl9 xw_1383 xw_1385 xs_57 hb rfl (Nat.le_of_ble_eq_true rfl) rfl (Nat.le_of_ble_eq_true rfl) (fun Q1 hq => m_X9_cut (d := d + 0) ep3 (fun g hg => by subst hg; exact hq)) ?_
  refine xm_aload_n dX9_makeNumber_15 rfl ?_
  refine xb_getR (a := l0) (c := 9) (k := 0) dX9_makeNumber_16 xcl9 (by decide) xw_191 rfl hf (fun x4 ex4 hf => ?_)
  refine xm_iload_n dX9_makeNumber_19 rfl ?_
  refine xm_iconst dX9_makeNumber_20 (v := 0) (by decide) ?_
  refine xb_iast dX9_makeNumber_21 hf (fun σ5 eσ5 hf => ?_)
  refine xm_aload_n dX9_makeNumber_22 rfl ?_
  refine xb_getR (a := l0) (c := 9) (k := 1) dX9_makeNumber_23 xcl9 (by decide) xw_197 rfl hf (fun x6 ex6 hf => ?_)
  refine xm_iload_n dX9_makeNumber_26 rfl ?_
  refine xm_iload_n dX9_makeNumber_27 rfl ?_
  refine xb_iast dX9_makeNumber_28 hf (fun σ7 eσ7 hf => ?_)
  refine xm_aload_n dX9_makeNumber_29 rfl ?_
  refine xb_getR (a := l0) (c := 9) (k := 2) dX9_makeNumber_30 xcl9 (by decide) xw_203 rfl hf (fun x8 ex8 hf => ?_)
  refine xm_iload_n dX9_makeNumber_33 rfl ?_
  refine xm_iconst dX9_makeNumber_34 (v := -1) (by decide) ?_
  refine xb_iast dX9_makeNumber_35 hf (fun σ9 eσ9 hf => ?_)
  refine xm_aload_n dX9_makeNumber_36 rfl ?_
  refine xb_getR (a := l0) (c := 9) (k := 3) dX9_makeNumber_37 xcl9 (by decide) xw_208 rfl hf (fun x10 ex10 hf => ?_)
  refine xm_iload_n dX9_makeNumber_40 rfl ?_
  refine xm_iconst dX9_makeNumber_41 (v := 0) (by decide) ?_
  refine xb_iast dX9_makeNumber_42 hf (fun σ11 eσ11 hf => ?_)
  refine xm_aload_n dX9_makeNumber_43 rfl ?_
  refine xb_if hf (fun hb hf => ?_) (fun _ q => nomatch q)
  obtain ⟨p12, ep12, hf⟩ := xbind hf
  refine xb_callV (As := []) (v0 := none) (τ0 := p12) dX9_makeNumber_44 (xc_X9_measure _ _) xcl9 xw_815 xw_816 xw_817 hb rfl (Nat.le_of_ble_eq_true rfl) rfl (Nat.le_of_ble_eq_true rfl) (fun Q1 hq => m_X9_measure (d := d + 0) ep12 (fun g hg => by subst hg; exact hq)) ?_
  cases hf
  exact xm_vret dX9_makeNumber_47 rfl (hR _ rfl)
-- Rankwise$Tree.isNumber(II)Z
def f_X9_isNumber_j24 (σ : xM) (s0 : Int32) : Option Int32 :=
  (xz s0).bind (fun b3 => some b3)
set_option maxHeartbeats 4000000 in
set_option maxRecDepth 20000 in
theorem L_X9_isNumber_j24 {G : xG} {π : Nat → Nat} {d C Z : Nat} {Q : xQ} (σ : xM) (s0 : Int32) {x : Int32} (hf : f_X9_isNumber_j24 σ s0 = some x) (hR : ∀ g, x = g → Q (.inl (some (.int g))) (σ) π) : xMach G π J_X9_isNumber (d + 0) C Z 24 [] [.int s0] σ Q := by
  unfold f_X9_isNumber_j24 at hf
  obtain ⟨b3, eb3, hf⟩ := xbind hf
  obtain ⟨rfl, hz⟩ := xz_of eb3
  cases hf
  exact xm_zret dX9_isNumber_24 rfl hz (hR _ rfl)
def f_X9_isNumber_j23 (σ : xM)  : Option Int32 :=
  f_X9_isNumber_j24 σ (0 : Int32)
set_option maxHeartbeats 4000000 in
set_option maxRecDepth 20000 in
theorem L_X9_isNumber_j23 {G : xG} {π : Nat → Nat} {d C Z : Nat} {Q : xQ} (σ : xM)  {x : Int32} (hf : f_X9_isNumber_j23 σ = some x) (hR : ∀ g, x = g → Q (.inl (some (.int g))) (σ) π) : xMach G π J_X9_isNumber (d + 0) C Z 23 [] [] σ Q := by
  unfold f_X9_isNumber_j23 at hf
  refine xm_iconst dX9_isNumber_23 (v := 0) (by decide) ?_
  exact xm_sub [] rfl (L_X9_isNumber_j24 σ (0 : Int32) hf hR)
def f_X9_isNumber (σ : xM) (l0 : Nat) (l1 : Int32) (l2 : Int32) : Option Int32 :=
  (gR σ l0 9 0).bind (fun x1 => (aI σ x1 14 l1).bind (fun x2 => (if x2 = (0 : Int32) then (gR σ l0 9 1).bind (fun x4 => (aI σ x4 14 l1).bind (fun x5 => (if x5 = l2 then f_X9_isNumber_j24 σ (1 : Int32) else f_X9_isNumber_j23 σ))) else f_X9_isNumber_j23 σ)))
set_option maxHeartbeats 4000000 in
set_option maxRecDepth 20000 in
theorem m_X9_isNumber {G : xG} {π : Nat → Nat} {d C Z : Nat} {Q : xQ} {σ : xM} {l0 : Nat} {l1 : Int32} {l2 : Int32} {x : Int32} (hf : f_X9_isNumber σ l0 l1 l2 = some x) (hR : ∀ g, x = g → Q (.inl (some (.int g))) (σ) π) : xMach G π J_X9_isNumber (d + 0) C Z 0 (lv_args 0 [.ref l0, .int l1, .int l2]) [] σ Q := by
  unfold f_X9_isNumber at hf
  refine xm_stL (L' := [(0, .ref l0), (1, .int l1), (2, .int l2)]) rfl ?_
  refine xm_aload_n dX9_isNumber_0 rfl ?_
  refine xb_getR (a := l0) (c := 9) (k := 0) dX9_isNumber_1 xcl9 (by decide) xw_191 rfl hf (fun x1 ex1 hf => ?_)
  refine xm_iload_n dX9_isNumber_4 rfl ?_
  refine xb_iald dX9_isNumber_5 hf (fun x2 ex2 hf => ?_)
  refine xb_if_ne 23 dX9_isNumber_6 (by decide) hf (fun c hf => ?_) (fun c hf => ?_)
  · exact xm_sub [] rfl (L_X9_isNumber_j23 σ hf hR)
  · refine xm_aload_n dX9_isNumber_9 rfl ?_
    refine xb_getR (a := l0) (c := 9) (k := 1) dX9_isNumber_10 xcl9 (by decide) xw_197 rfl hf (fun x4 ex4 hf => ?_)
    refine xm_iload_n dX9_isNumber_13 rfl ?_
    refine xb_iald dX9_isNumber_14 hf (fun x5 ex5 hf => ?_)
    refine xm_iload_n dX9_isNumber_15 rfl ?_
    refine xb_icmp_ne 23 dX9_isNumber_16 (by decide) hf (fun c hf => ?_) (fun c hf => ?_)
    · exact xm_sub [] rfl (L_X9_isNumber_j23 σ hf hR)
    · refine xm_iconst dX9_isNumber_19 (v := 1) (by decide) ?_
      refine xm_goto 24 dX9_isNumber_20 (by decide) ?_
      exact xm_sub [] rfl (L_X9_isNumber_j24 σ (1 : Int32) hf hR)
-- Rankwise$Tree.sameParts(II)Z
def f_X9_sameParts_s22 (σ : xM) (s : (Nat × Int32 × Int32 × Int32 × Int32)) : Option (Int32 ⊕ ((Unit ⊕ Unit) ⊕ (Nat × Int32 × Int32 × Int32 × Int32))) :=
  xlet s.1 (fun l0 => xlet s.2.1 (fun l1 => xlet s.2.2.1 (fun l2 => xlet s.2.2.2.1 (fun l3 => xlet s.2.2.2.2 (fun l4 => (if l3 ≤ l4 then some (Sum.inr (Sum.inl (Sum.inr ()))) else (gI σ l0 9 7).bind (fun x6 => (if x6 ≤ (l1 + l4) then some (Sum.inr (Sum.inl (Sum.inr ()))) else (gI σ l0 9 7).bind (fun x7 => (if x7 ≤ (l2 + l4) then some (Sum.inr (Sum.inl (Sum.inr ()))) else (if xk σ l0 9 = true then (f_X9_sameNode σ l0 (l1 + l4) l0 (l2 + l4)).bind (fun p8 => (if p8 = (0 : Int32) then some (Sum.inr (Sum.inl (Sum.inl ()))) else xlet (l4 + (1 : Int32)) (fun v9 => some (Sum.inr (Sum.inr (l0, l1, l2, l3, v9)))))) else none)))))))))))
set_option maxHeartbeats 4000000 in
set_option maxRecDepth 20000 in
theorem L_X9_sameParts_s22 {G : xG} {π : Nat → Nat} {d C Z : Nat} {Q : xQ} (σ : xM) (l0 : Nat) (l1 : Int32) (l2 : Int32) (l3 : Int32) (l4 : Int32) {x : (Int32 ⊕ ((Unit ⊕ Unit) ⊕ (Nat × Int32 × Int32 × Int32 × Int32)))} (hf : f_X9_sameParts_s22 σ (l0, l1, l2, l3, l4) = some x) (hR : ∀ g, x = Sum.inl (g) → Q (.inl (some (.int g))) (σ) π) (hE0 : ∀ e : Unit, x = Sum.inr (Sum.inl (Sum.inl e)) → xMach G π J_X9_sameParts (d + 1) C Z 66 [] [] σ Q) (hE1 : ∀ e : Unit, x = Sum.inr (Sum.inl (Sum.inr e)) → xMach G π J_X9_sameParts (d + 1) C Z 74 [] [] σ Q) (hC : ∀ e : (Nat × Int32 × Int32 × Int32 × Int32), x = Sum.inr (Sum.inr e) → xMach G π J_X9_sameParts (d + 1) C Z 22 [(0, .ref e.1), (1, .int e.2.1), (2, .int e.2.2.1), (3, .int e.2.2.2.1), (4, .int e.2.2.2.2)] [] σ Q) : xMach G π J_X9_sameParts (d + 1) C Z 22 [(0, .ref l0), (1, .int l1), (2, .int l2), (3, .int l3), (4, .int l4)] [] σ Q := by
  have hf : (if l3 ≤ l4 then some (Sum.inr (Sum.inl (Sum.inr ()))) else (gI σ l0 9 7).bind (fun x6 => (if x6 ≤ (l1 + l4) then some (Sum.inr (Sum.inl (Sum.inr ()))) else (gI σ l0 9 7).bind (fun x7 => (if x7 ≤ (l2 + l4) then some (Sum.inr (Sum.inl (Sum.inr ()))) else (if xk σ l0 9 = true then (f_X9_sameNode σ l0 (l1 + l4) l0 (l2 + l4)).bind (fun p8 => (if p8 = (0 : Int32) then some (Sum.inr (Sum.inl (Sum.inl ()))) else xlet (l4 + (1 : Int32)) (fun v9 => some (Sum.inr (Sum.inr (l0, l1, l2, l3, v9)))))) else none)))))) = some x := hf
  refine xm_iload dX9_sameParts_22 rfl ?_
  refine xm_iload_n dX9_sameParts_24 rfl ?_
  refine xb_icmp_ge 74 dX9_sameParts_25 (by decide) hf (fun c hf => ?_) (fun c hf => ?_)
  · cases hf
    exact xm_sub [] rfl (hE1 _ rfl)
  · refine xm_iload_n dX9_sameParts_28 rfl ?_
    refine xm_iload dX9_sameParts_29 rfl ?_
    refine xm_iadd dX9_sameParts_31 ?_
    refine xm_aload_n dX9_sameParts_32 rfl ?_
    refine xb_getI (a := l0) (c := 9) (k := 7) dX9_sameParts_33 xcl9 (by decide) xw_218 rfl hf (fun x6 ex6 hf => ?_)
    refine xb_icmp_ge 74 dX9_sameParts_36 (by decide) hf (fun c hf => ?_) (fun c hf => ?_)
    · cases hf
      exact xm_sub [] rfl (hE1 _ rfl)
    · refine xm_iload_n dX9_sameParts_39 rfl ?_
      refine xm_iload dX9_sameParts_40 rfl ?_
      refine xm_iadd dX9_sameParts_42 ?_
      refine xm_aload_n dX9_sameParts_43 rfl ?_
      refine xb_getI (a := l0) (c := 9) (k := 7) dX9_sameParts_44 xcl9 (by decide) xw_218 rfl hf (fun x7 ex7 hf => ?_)
      refine xb_icmp_ge 74 dX9_sameParts_47 (by decide) hf (fun c hf => ?_) (fun c hf => ?_)
      · cases hf
        exact xm_sub [] rfl (hE1 _ rfl)
      · refine xm_aload_n dX9_sameParts_50 rfl ?_
        refine xm_iload_n dX9_sameParts_51 rfl ?_
        refine xm_iload dX9_sameParts_52 rfl ?_
        refine xm_iadd dX9_sameParts_54 ?_
        refine xm_aload_n dX9_sameParts_55 rfl ?_
        refine xm_iload_n dX9_sameParts_56 rfl ?_
        refine xm_iload dX9_sameParts_57 rfl ?_
        refine xm_iadd dX9_sameParts_59 ?_
        refine xb_if hf (fun hb hf => ?_) (fun _ q => nomatch q)
        obtain ⟨p8, ep8, hf⟩ := xbind hf
        refine xb_callV (As := [.int (l1 + l4), .ref l0, .int (l2 + l4)]) (v0 := (some (.int p8))) (τ0 := σ) dX9_sameParts_60 (xc_X9_sameNode _ _) xcl9 xw_1271 xw_1273 xs_43 hb rfl (Nat.le_of_ble_eq_true rfl) rfl (Nat.le_of_ble_eq_true rfl) (fun Q1 hq => m_X9_sameNode (d := d + 0) ep8 (fun g hg => by subst hg; exact hq)) ?_
        refine xb_if_ne 68 dX9_sameParts_63 (by decide) hf (fun c hf => ?_) (fun c hf => ?_)
        · refine xb_iinc dX9_sameParts_68 rfl (by decide) (by decide) hf (fun v9 ev9 hf => xm_stL (L' := [(4, .int v9), (0, .ref l0), (1, .int l1), (2, .int l2), (3, .int l3)]) rfl ?_)
          refine xm_goto 22 dX9_sameParts_71 (by decide) ?_
          cases hf
          exact xm_sub [1, 2, 3, 4, 0] rfl (hC _ rfl)
        · cases hf
          exact xm_sub [] rfl (hE0 _ rfl)
theorem L_X9_sameParts_l22 {G : xG} {π : Nat → Nat} {d C Z : Nat} {Q : xQ} (σ : xM) {s0 : (Nat × Int32 × Int32 × Int32 × Int32)} {x : (Int32 ⊕ (Unit ⊕ Unit))} (h1 : xloop (f_X9_sameParts_s22 σ) xF s0 = some x) (hR : ∀ g, x = Sum.inl g → Q (.inl (some (.int g))) (σ) π) (hE0 : ∀ e : Unit, x = Sum.inr (Sum.inl e) → xMach G π J_X9_sameParts (d + 1) C Z 66 [] [] σ Q) (hE1 : ∀ e : Unit, x = Sum.inr (Sum.inr e) → xMach G π J_X9_sameParts (d + 1) C Z 74 [] [] σ Q) : xMach G π J_X9_sameParts (d + 1) C Z 22 [(0, .ref s0.1), (1, .int s0.2.1), (2, .int s0.2.2.1), (3, .int s0.2.2.2.1), (4, .int s0.2.2.2.2)] [] σ Q := by
  refine xloop_run (M := (fun s : (Nat × Int32 × Int32 × Int32 × Int32) => xMach G π J_X9_sameParts (d + 1) C Z 22 [(0, .ref s.1), (1, .int s.2.1), (2, .int s.2.2.1), (3, .int s.2.2.2.1), (4, .int s.2.2.2.2)] [] σ Q)) (r := x) ?_ xF _ h1
  intro s y hs hx
  exact L_X9_sameParts_s22 σ s.1 s.2.1 s.2.2.1 s.2.2.2.1 s.2.2.2.2 (x := y) hs (fun g hg => by subst hg; exact hR g hx) (fun e he => by subst he; exact hE0 e hx) (fun e he => by subst he; exact hE1 e hx) (fun e he => by subst he; exact hx)
def f_X9_sameParts_j66 (σ : xM)  : Option Int32 :=
  some (0 : Int32)
set_option maxHeartbeats 4000000 in
set_option maxRecDepth 20000 in
theorem L_X9_sameParts_j66 {G : xG} {π : Nat → Nat} {d C Z : Nat} {Q : xQ} (σ : xM)  {x : Int32} (hf : f_X9_sameParts_j66 σ = some x) (hR : ∀ g, x = g → Q (.inl (some (.int g))) (σ) π) : xMach G π J_X9_sameParts (d + 1) C Z 66 [] [] σ Q := by
  unfold f_X9_sameParts_j66 at hf
  refine xm_iconst dX9_sameParts_66 (v := 0) (by decide) ?_
  cases hf
  exact xm_zret dX9_sameParts_67 rfl rfl (hR _ rfl)
def f_X9_sameParts_j74 (σ : xM)  : Option Int32 :=
  some (1 : Int32)
set_option maxHeartbeats 4000000 in
set_option maxRecDepth 20000 in
theorem L_X9_sameParts_j74 {G : xG} {π : Nat → Nat} {d C Z : Nat} {Q : xQ} (σ : xM)  {x : Int32} (hf : f_X9_sameParts_j74 σ = some x) (hR : ∀ g, x = g → Q (.inl (some (.int g))) (σ) π) : xMach G π J_X9_sameParts (d + 1) C Z 74 [] [] σ Q := by
  unfold f_X9_sameParts_j74 at hf
  refine xm_iconst dX9_sameParts_74 (v := 1) (by decide) ?_
  cases hf
  exact xm_zret dX9_sameParts_75 rfl rfl (hR _ rfl)
def f_X9_sameParts (σ : xM) (l0 : Nat) (l1 : Int32) (l2 : Int32) : Option Int32 :=
  (gR σ l0 9 4).bind (fun x1 => (aI σ x1 14 l1).bind (fun x2 => (gR σ l0 9 4).bind (fun x3 => (aI σ x3 14 l2).bind (fun x4 => (if x2 = x4 then xlet (0 : Int32) (fun v5 => (xloop (f_X9_sameParts_s22 σ ) xF (l0, l1, l2, x2, v5)).bind (Sum.elim (fun g => some g) (Sum.elim (fun e => f_X9_sameParts_j66 σ) (fun e => f_X9_sameParts_j74 σ)))) else some (0 : Int32))))))
set_option maxHeartbeats 4000000 in
set_option maxRecDepth 20000 in
theorem m_X9_sameParts {G : xG} {π : Nat → Nat} {d C Z : Nat} {Q : xQ} {σ : xM} {l0 : Nat} {l1 : Int32} {l2 : Int32} {x : Int32} (hf : f_X9_sameParts σ l0 l1 l2 = some x) (hR : ∀ g, x = g → Q (.inl (some (.int g))) (σ) π) : xMach G π J_X9_sameParts (d + 1) C Z 0 (lv_args 0 [.ref l0, .int l1, .int l2]) [] σ Q := by
  unfold f_X9_sameParts at hf
  refine xm_stL (L' := [(0, .ref l0), (1, .int l1), (2, .int l2)]) rfl ?_
  refine xm_aload_n dX9_sameParts_0 rfl ?_
  refine xb_getR (a := l0) (c := 9) (k := 4) dX9_sameParts_1 xcl9 (by decide) xw_213 rfl hf (fun x1 ex1 hf => ?_)
  refine xm_iload_n dX9_sameParts_4 rfl ?_
  refine xb_iald dX9_sameParts_5 hf (fun x2 ex2 hf => ?_)
  refine xm_istore_n dX9_sameParts_6 (by decide) (xm_stL (L' := [(3, .int x2), (0, .ref l0), (1, .int l1), (2, .int l2)]) rfl ?_)
  refine xm_iload_n dX9_sameParts_7 rfl ?_
  refine xm_aload_n dX9_sameParts_8 rfl ?_
  refine xb_getR (a := l0) (c := 9) (k := 4) dX9_sameParts_9 xcl9 (by decide) xw_213 rfl hf (fun x3 ex3 hf => ?_)
  refine xm_iload_n dX9_sameParts_12 rfl ?_
  refine xb_iald dX9_sameParts_13 hf (fun x4 ex4 hf => ?_)
  refine xb_icmp_eq 19 dX9_sameParts_14 (by decide) hf (fun c hf => ?_) (fun c hf => ?_)
  · refine xm_iconst dX9_sameParts_19 (v := 0) (by decide) ?_
    refine xb_topi hf (fun v5 ev5 hf => ?_)
    refine xm_istore dX9_sameParts_20 (by decide) (xm_stL (L' := [(4, .int v5), (3, .int x2), (0, .ref l0), (1, .int l1), (2, .int l2)]) rfl ?_)
    obtain ⟨o, h1, hf⟩ := xbind hf
    refine xm_sub [2, 3, 4, 1, 0] rfl (L_X9_sameParts_l22 σ h1 (fun g hg => ?_) (fun e he => ?_) (fun e he => ?_))
    · subst hg
      cases hf
      exact hR _ rfl
    · subst he
      rw [Sum.elim_inr, Sum.elim_inl] at hf
      have hf : f_X9_sameParts_j66 σ = some _ := hf
      exact xm_sub [] rfl (L_X9_sameParts_j66 σ hf hR)
    · subst he
      rw [Sum.elim_inr, Sum.elim_inr] at hf
      have hf : f_X9_sameParts_j74 σ = some _ := hf
      exact xm_sub [] rfl (L_X9_sameParts_j74 σ hf hR)
  · refine xm_iconst dX9_sameParts_17 (v := 0) (by decide) ?_
    cases hf
    exact xm_zret dX9_sameParts_18 rfl rfl (hR _ rfl)
