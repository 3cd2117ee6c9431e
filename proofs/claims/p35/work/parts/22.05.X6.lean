-- Rankwise$Reader.startWords()V
def f_X6_startWords (σ : xM) (l0 : Nat) : Option xM :=
  (sI σ l0 6 5 (0 : Int32)).bind (fun σ1 => (sI σ1 l0 6 6 (0 : Int32)).bind (fun σ2 => some σ2))
set_option maxHeartbeats 4000000 in
set_option maxRecDepth 20000 in
theorem m_X6_startWords {G : xG} {π : Nat → Nat} {d C Z : Nat} {Q : xQ} {σ : xM} {l0 : Nat} {x : xM} (hf : f_X6_startWords σ l0 = some x) (hR : ∀ g, x = g → Q (.inl none) (g) π) : xMach G π J_X6_startWords (d + 0) C Z 0 (lv_args 0 [.ref l0]) [] σ Q := by
  unfold f_X6_startWords at hf
  refine xm_stL (L' := [(0, .ref l0)]) rfl ?_
  refine xm_aload_n dX6_startWords_0 rfl ?_
  refine xm_iconst dX6_startWords_1 (v := 0) (by decide) ?_
  refine xb_putI (a := l0) (c := 6) (k := 5) dX6_startWords_2 xcl6 (by decide) xw_337 rfl rfl hf (fun σ1 eσ1 hf => ?_)
  refine xm_aload_n dX6_startWords_5 rfl ?_
  refine xm_iconst dX6_startWords_6 (v := 0) (by decide) ?_
  refine xb_putI (a := l0) (c := 6) (k := 6) dX6_startWords_7 xcl6 (by decide) xw_339 rfl rfl hf (fun σ2 eσ2 hf => ?_)
  cases hf
  exact xm_vret dX6_startWords_10 rfl (hR _ rfl)
-- Rankwise$Reader.digit(C)I
def f_X6_digit_j41 (σ : xM) (s0 : Int32) : Option Int32 :=
  some s0
set_option maxHeartbeats 4000000 in
set_option maxRecDepth 20000 in
theorem L_X6_digit_j41 {G : xG} {π : Nat → Nat} {d C Z : Nat} {Q : xQ} (σ : xM) (s0 : Int32) {x : Int32} (hf : f_X6_digit_j41 σ s0 = some x) (hR : ∀ g, x = g → Q (.inl (some (.int g))) (σ) π) : xMach G π J_X6_digit (d + 0) C Z 41 [] [.int s0] σ Q := by
  unfold f_X6_digit_j41 at hf
  cases hf
  exact xm_iret dX6_digit_41 rfl (hR _ rfl)
def f_X6_digit_j39 (σ : xM)  : Option Int32 :=
  f_X6_digit_j41 σ (16 : Int32)
set_option maxHeartbeats 4000000 in
set_option maxRecDepth 20000 in
theorem L_X6_digit_j39 {G : xG} {π : Nat → Nat} {d C Z : Nat} {Q : xQ} (σ : xM)  {x : Int32} (hf : f_X6_digit_j39 σ = some x) (hR : ∀ g, x = g → Q (.inl (some (.int g))) (σ) π) : xMach G π J_X6_digit (d + 0) C Z 39 [] [] σ Q := by
  unfold f_X6_digit_j39 at hf
  refine xm_bipush dX6_digit_39 (v := 16) (by decide) ?_
  exact xm_sub [] rfl (L_X6_digit_j41 σ (16 : Int32) hf hR)
def f_X6_digit_j17 (σ : xM) (l0 : Int32) : Option Int32 :=
  (if l0 < (97 : Int32) then f_X6_digit_j39 σ else (if (102 : Int32) < l0 then f_X6_digit_j39 σ else f_X6_digit_j41 σ ((l0 - (97 : Int32)) + (10 : Int32))))
set_option maxHeartbeats 4000000 in
set_option maxRecDepth 20000 in
theorem L_X6_digit_j17 {G : xG} {π : Nat → Nat} {d C Z : Nat} {Q : xQ} (σ : xM) (l0 : Int32) {x : Int32} (hf : f_X6_digit_j17 σ l0 = some x) (hR : ∀ g, x = g → Q (.inl (some (.int g))) (σ) π) : xMach G π J_X6_digit (d + 0) C Z 17 [(0, .int l0)] [] σ Q := by
  unfold f_X6_digit_j17 at hf
  refine xm_iload_n dX6_digit_17 rfl ?_
  refine xm_bipush dX6_digit_18 (v := 97) (by decide) ?_
  refine xb_icmp_lt 39 dX6_digit_20 (by decide) hf (fun c hf => ?_) (fun c hf => ?_)
  · exact xm_sub [] rfl (L_X6_digit_j39 σ hf hR)
  · refine xm_iload_n dX6_digit_23 rfl ?_
    refine xm_bipush dX6_digit_24 (v := 102) (by decide) ?_
    refine xb_icmp_gt 39 dX6_digit_26 (by decide) hf (fun c hf => ?_) (fun c hf => ?_)
    · exact xm_sub [] rfl (L_X6_digit_j39 σ hf hR)
    · refine xm_iload_n dX6_digit_29 rfl ?_
      refine xm_bipush dX6_digit_30 (v := 97) (by decide) ?_
      refine xm_isub dX6_digit_32 ?_
      refine xm_bipush dX6_digit_33 (v := 10) (by decide) ?_
      refine xm_iadd dX6_digit_35 ?_
      refine xm_goto 41 dX6_digit_36 (by decide) ?_
      exact xm_sub [] rfl (L_X6_digit_j41 σ ((l0 - (97 : Int32)) + (10 : Int32)) hf hR)
def f_X6_digit (σ : xM) (l0 : Int32) : Option Int32 :=
  (if l0 < (48 : Int32) then f_X6_digit_j17 σ l0 else (if (57 : Int32) < l0 then f_X6_digit_j17 σ l0 else some (l0 - (48 : Int32))))
set_option maxHeartbeats 4000000 in
set_option maxRecDepth 20000 in
theorem m_X6_digit {G : xG} {π : Nat → Nat} {d C Z : Nat} {Q : xQ} {σ : xM} {l0 : Int32} {x : Int32} (hf : f_X6_digit σ l0 = some x) (hR : ∀ g, x = g → Q (.inl (some (.int g))) (σ) π) : xMach G π J_X6_digit (d + 0) C Z 0 (lv_args 0 [.int l0]) [] σ Q := by
  unfold f_X6_digit at hf
  refine xm_stL (L' := [(0, .int l0)]) rfl ?_
  refine xm_iload_n dX6_digit_0 rfl ?_
  refine xm_bipush dX6_digit_1 (v := 48) (by decide) ?_
  refine xb_icmp_lt 17 dX6_digit_3 (by decide) hf (fun c hf => ?_) (fun c hf => ?_)
  · exact xm_sub [0] rfl (L_X6_digit_j17 σ l0 hf hR)
  · refine xm_iload_n dX6_digit_6 rfl ?_
    refine xm_bipush dX6_digit_7 (v := 57) (by decide) ?_
    refine xb_icmp_gt 17 dX6_digit_9 (by decide) hf (fun c hf => ?_) (fun c hf => ?_)
    · exact xm_sub [0] rfl (L_X6_digit_j17 σ l0 hf hR)
    · refine xm_iload_n dX6_digit_12 rfl ?_
      refine xm_bipush dX6_digit_13 (v := 48) (by decide) ?_
      refine xm_isub dX6_digit_15 ?_
      cases hf
      exact xm_iret dX6_digit_16 rfl (hR _ rfl)
-- Rankwise$Reader.addWord(III)V
def f_X6_addWord_j60 (σ : xM)  : Option xM :=
  some σ
set_option maxHeartbeats 4000000 in
set_option maxRecDepth 20000 in
theorem L_X6_addWord_j60 {G : xG} {π : Nat → Nat} {d C Z : Nat} {Q : xQ} (σ : xM)  {x : xM} (hf : f_X6_addWord_j60 σ = some x) (hR : ∀ g, x = g → Q (.inl none) (g) π) : xMach G π J_X6_addWord (d + 0) C Z 60 [] [] σ Q := by
  unfold f_X6_addWord_j60 at hf
  cases hf
  exact xm_vret dX6_addWord_60 rfl (hR _ rfl)
def f_X6_addWord (σ : xM) (l0 : Nat) (l1 : Int32) (l2 : Int32) (l3 : Int32) : Option xM :=
  (gI σ l0 6 5).bind (fun x1 => (if (300 : Int32) ≤ x1 then f_X6_addWord_j60 σ else (gR σ l0 6 1).bind (fun x2 => (gI σ l0 6 5).bind (fun x3 => (wI σ x2 x3 l1).bind (fun σ4 => (gR σ4 l0 6 2).bind (fun x5 => (gI σ4 l0 6 5).bind (fun x6 => (wI σ4 x5 x6 l2).bind (fun σ7 => (gR σ7 l0 6 3).bind (fun x8 => (gI σ7 l0 6 5).bind (fun x9 => (wI σ7 x8 x9 l3).bind (fun σ10 => (gR σ10 l0 6 4).bind (fun x11 => (gI σ10 l0 6 5).bind (fun x12 => (wZ σ10 x11 x12 (0 : Int32)).bind (fun σ13 => (gI σ13 l0 6 5).bind (fun x14 => (sI σ13 l0 6 5 (x14 + (1 : Int32))).bind (fun σ15 => f_X6_addWord_j60 σ15))))))))))))))))
set_option maxHeartbeats 4000000 in
set_option maxRecDepth 20000 in
theorem m_X6_addWord {G : xG} {π : Nat → Nat} {d C Z : Nat} {Q : xQ} {σ : xM} {l0 : Nat} {l1 : Int32} {l2 : Int32} {l3 : Int32} {x : xM} (hf : f_X6_addWord σ l0 l1 l2 l3 = some x) (hR : ∀ g, x = g → Q (.inl none) (g) π) : xMach G π J_X6_addWord (d + 0) C Z 0 (lv_args 0 [.ref l0, .int l1, .int l2, .int l3]) [] σ Q := by
  unfold f_X6_addWord at hf
  refine xm_stL (L' := [(0, .ref l0), (1, .int l1), (2, .int l2), (3, .int l3)]) rfl ?_
  refine xm_aload_n dX6_addWord_0 rfl ?_
  refine xb_getI (a := l0) (c := 6) (k := 5) dX6_addWord_1 xcl6 (by decide) xw_337 rfl hf (fun x1 ex1 hf => ?_)
  refine xm_sipush dX6_addWord_4 (v := 300) (by decide) ?_
  refine xb_icmp_ge 60 dX6_addWord_7 (by decide) hf (fun c hf => ?_) (fun c hf => ?_)
  · exact xm_sub [] rfl (L_X6_addWord_j60 σ hf hR)
  · refine xm_aload_n dX6_addWord_10 rfl ?_
    refine xb_getR (a := l0) (c := 6) (k := 1) dX6_addWord_11 xcl6 (by decide) xw_330 rfl hf (fun x2 ex2 hf => ?_)
    refine xm_aload_n dX6_addWord_14 rfl ?_
    refine xb_getI (a := l0) (c := 6) (k := 5) dX6_addWord_15 xcl6 (by decide) xw_337 rfl hf (fun x3 ex3 hf => ?_)
    refine xm_iload_n dX6_addWord_18 rfl ?_
    refine xb_iast dX6_addWord_19 hf (fun σ4 eσ4 hf => ?_)
    refine xm_aload_n dX6_addWord_20 rfl ?_
    refine xb_getR (a := l0) (c := 6) (k := 2) dX6_addWord_21 xcl6 (by decide) xw_332 rfl hf (fun x5 ex5 hf => ?_)
    refine xm_aload_n dX6_addWord_24 rfl ?_
    refine xb_getI (a := l0) (c := 6) (k := 5) dX6_addWord_25 xcl6 (by decide) xw_337 rfl hf (fun x6 ex6 hf => ?_)
    refine xm_iload_n dX6_addWord_28 rfl ?_
    refine xb_iast dX6_addWord_29 hf (fun σ7 eσ7 hf => ?_)
    refine xm_aload_n dX6_addWord_30 rfl ?_
    refine xb_getR (a := l0) (c := 6) (k := 3) dX6_addWord_31 xcl6 (by decide) xw_334 rfl hf (fun x8 ex8 hf => ?_)
    refine xm_aload_n dX6_addWord_34 rfl ?_
    refine xb_getI (a := l0) (c := 6) (k := 5) dX6_addWord_35 xcl6 (by decide) xw_337 rfl hf (fun x9 ex9 hf => ?_)
    refine xm_iload_n dX6_addWord_38 rfl ?_
    refine xb_iast dX6_addWord_39 hf (fun σ10 eσ10 hf => ?_)
    refine xm_aload_n dX6_addWord_40 rfl ?_
    refine xb_getR (a := l0) (c := 6) (k := 4) dX6_addWord_41 xcl6 (by decide) xw_335 rfl hf (fun x11 ex11 hf => ?_)
    refine xm_aload_n dX6_addWord_44 rfl ?_
    refine xb_getI (a := l0) (c := 6) (k := 5) dX6_addWord_45 xcl6 (by decide) xw_337 rfl hf (fun x12 ex12 hf => ?_)
    refine xm_iconst dX6_addWord_48 (v := 0) (by decide) ?_
    refine xb_zast dX6_addWord_49 hf (fun σ13 eσ13 hf => ?_)
    refine xm_aload_n dX6_addWord_50 rfl ?_
    refine xm_dup dX6_addWord_51 rfl ?_
    refine xb_getI (a := l0) (c := 6) (k := 5) dX6_addWord_52 xcl6 (by decide) xw_337 rfl hf (fun x14 ex14 hf => ?_)
    refine xm_iconst dX6_addWord_55 (v := 1) (by decide) ?_
    refine xm_iadd dX6_addWord_56 ?_
    refine xb_putI (a := l0) (c := 6) (k := 5) dX6_addWord_57 xcl6 (by decide) xw_337 rfl rfl hf (fun σ15 eσ15 hf => ?_)
    exact xm_sub [] rfl (L_X6_addWord_j60 σ15 hf hR)
-- Rankwise$Reader.splitNumber([CI)I
def f_X6_splitNumber_s114 (σ : xM) (s : (Nat × Nat × Int32 × Int32 × Int32 × Int32 × Int32 × Int32)) : Option ((Int32 × xM) ⊕ ((Nat × Int32 × Int32 × Int32 × Int32) ⊕ (Nat × Nat × Int32 × Int32 × Int32 × Int32 × Int32 × Int32))) :=
  xlet s.1 (fun l0 => xlet s.2.1 (fun l1 => xlet s.2.2.1 (fun l2 => xlet s.2.2.2.1 (fun l4 => xlet s.2.2.2.2.1 (fun l5 => xlet s.2.2.2.2.2.1 (fun l6 => xlet s.2.2.2.2.2.2.1 (fun l7 => xlet s.2.2.2.2.2.2.2 (fun l8 => (if l6 ≤ l8 then some (Sum.inr (Sum.inl (l0, l2, l5, l7, l8))) else (aI σ l1 13 l8).bind (fun x5 => (f_X6_digit σ x5).bind (fun p6 => (if l4 ≤ p6 then some (Sum.inr (Sum.inl (l0, l2, l5, l7, l8))) else (aI σ l1 13 l8).bind (fun x7 => (f_X6_digit σ x7).bind (fun p8 => xlet ((l7 * l4) + p8) (fun v9 => xlet (l8 + (1 : Int32)) (fun v10 => some (Sum.inr (Sum.inr (l0, l1, l2, l4, l5, l6, v9, v10)))))))))))))))))))
set_option maxHeartbeats 4000000 in
set_option maxRecDepth 20000 in
theorem L_X6_splitNumber_s114 {G : xG} {π : Nat → Nat} {d C Z : Nat} {Q : xQ} (σ : xM) (l0 : Nat) (l1 : Nat) (l2 : Int32) (l4 : Int32) (l5 : Int32) (l6 : Int32) (l7 : Int32) (l8 : Int32) {x : ((Int32 × xM) ⊕ ((Nat × Int32 × Int32 × Int32 × Int32) ⊕ (Nat × Nat × Int32 × Int32 × Int32 × Int32 × Int32 × Int32)))} (hf : f_X6_splitNumber_s114 σ (l0, l1, l2, l4, l5, l6, l7, l8) = some x) (hR : ∀ g, x = Sum.inl (g) → Q (.inl (some (.int g.1))) (g.2) π) (hE : ∀ e : (Nat × Int32 × Int32 × Int32 × Int32), x = Sum.inr (Sum.inl e) → xMach G π J_X6_splitNumber (d + 1) C Z 154 [(0, .ref e.1), (2, .int e.2.1), (5, .int e.2.2.1), (7, .int e.2.2.2.1), (8, .int e.2.2.2.2)] [] σ Q) (hC : ∀ e : (Nat × Nat × Int32 × Int32 × Int32 × Int32 × Int32 × Int32), x = Sum.inr (Sum.inr e) → xMach G π J_X6_splitNumber (d + 1) C Z 114 [(0, .ref e.1), (1, .ref e.2.1), (2, .int e.2.2.1), (4, .int e.2.2.2.1), (5, .int e.2.2.2.2.1), (6, .int e.2.2.2.2.2.1), (7, .int e.2.2.2.2.2.2.1), (8, .int e.2.2.2.2.2.2.2)] [] σ Q) : xMach G π J_X6_splitNumber (d + 1) C Z 114 [(0, .ref l0), (1, .ref l1), (2, .int l2), (4, .int l4), (5, .int l5), (6, .int l6), (7, .int l7), (8, .int l8)] [] σ Q := by
  have hf : (if l6 ≤ l8 then some (Sum.inr (Sum.inl (l0, l2, l5, l7, l8))) else (aI σ l1 13 l8).bind (fun x5 => (f_X6_digit σ x5).bind (fun p6 => (if l4 ≤ p6 then some (Sum.inr (Sum.inl (l0, l2, l5, l7, l8))) else (aI σ l1 13 l8).bind (fun x7 => (f_X6_digit σ x7).bind (fun p8 => xlet ((l7 * l4) + p8) (fun v9 => xlet (l8 + (1 : Int32)) (fun v10 => some (Sum.inr (Sum.inr (l0, l1, l2, l4, l5, l6, v9, v10))))))))))) = some x := hf
  refine xm_iload dX6_splitNumber_114 rfl ?_
  refine xm_iload dX6_splitNumber_116 rfl ?_
  refine xb_icmp_ge 154 dX6_splitNumber_118 (by decide) hf (fun c hf => ?_) (fun c hf => ?_)
  · cases hf
    exact xm_sub [0, 2, 4, 6, 7] rfl (hE _ rfl)
  · refine xm_aload_n dX6_splitNumber_121 rfl ?_
    refine xm_iload dX6_splitNumber_122 rfl ?_
    refine xb_cald dX6_splitNumber_124 hf (fun x5 ex5 hf => ?_)
    obtain ⟨p6, ep6, hf⟩ := xbind hf
    refine xb_callS (As := [.int x5]) (v0 := (some (.int p6))) (τ0 := σ) dX6_splitNumber_125 (xc_X6_digit _ _) xw_724 xw_725 rfl (Nat.le_of_ble_eq_true rfl) rfl (Nat.le_of_ble_eq_true rfl) (fun Q1 hq => m_X6_digit (d := d + 0) ep6 (fun g hg => by subst hg; exact hq)) ?_
    refine xm_iload dX6_splitNumber_128 rfl ?_
    refine xb_icmp_ge 154 dX6_splitNumber_130 (by decide) hf (fun c hf => ?_) (fun c hf => ?_)
    · cases hf
      exact xm_sub [0, 2, 4, 6, 7] rfl (hE _ rfl)
    · refine xm_iload dX6_splitNumber_133 rfl ?_
      refine xm_iload dX6_splitNumber_135 rfl ?_
      refine xm_imul dX6_splitNumber_137 ?_
      refine xm_aload_n dX6_splitNumber_138 rfl ?_
      refine xm_iload dX6_splitNumber_139 rfl ?_
      refine xb_cald dX6_splitNumber_141 hf (fun x7 ex7 hf => ?_)
      obtain ⟨p8, ep8, hf⟩ := xbind hf
      refine xb_callS (As := [.int x7]) (v0 := (some (.int p8))) (τ0 := σ) dX6_splitNumber_142 (xc_X6_digit _ _) xw_724 xw_725 rfl (Nat.le_of_ble_eq_true rfl) rfl (Nat.le_of_ble_eq_true rfl) (fun Q1 hq => m_X6_digit (d := d + 0) ep8 (fun g hg => by subst hg; exact hq)) ?_
      refine xm_iadd dX6_splitNumber_145 ?_
      refine xb_topi hf (fun v9 ev9 hf => ?_)
      refine xm_istore dX6_splitNumber_146 (by decide) (xm_stL (L' := [(7, .int v9), (0, .ref l0), (1, .ref l1), (2, .int l2), (4, .int l4), (5, .int l5), (6, .int l6), (8, .int l8)]) rfl ?_)
      refine xb_iinc dX6_splitNumber_148 rfl (by decide) (by decide) hf (fun v10 ev10 hf => xm_stL (L' := [(8, .int v10), (7, .int v9), (0, .ref l0), (1, .ref l1), (2, .int l2), (4, .int l4), (5, .int l5), (6, .int l6)]) rfl ?_)
      refine xm_goto 114 dX6_splitNumber_151 (by decide) ?_
      cases hf
      exact xm_sub [2, 3, 4, 5, 6, 7, 1, 0] rfl (hC _ rfl)
theorem L_X6_splitNumber_l114 {G : xG} {π : Nat → Nat} {d C Z : Nat} {Q : xQ} (σ : xM) {s0 : (Nat × Nat × Int32 × Int32 × Int32 × Int32 × Int32 × Int32)} {x : ((Int32 × xM) ⊕ (Nat × Int32 × Int32 × Int32 × Int32))} (h1 : xloop (f_X6_splitNumber_s114 σ) xF s0 = some x) (hR : ∀ g, x = Sum.inl g → Q (.inl (some (.int g.1))) (g.2) π) (hE : ∀ e : (Nat × Int32 × Int32 × Int32 × Int32), x = Sum.inr e → xMach G π J_X6_splitNumber (d + 1) C Z 154 [(0, .ref e.1), (2, .int e.2.1), (5, .int e.2.2.1), (7, .int e.2.2.2.1), (8, .int e.2.2.2.2)] [] σ Q) : xMach G π J_X6_splitNumber (d + 1) C Z 114 [(0, .ref s0.1), (1, .ref s0.2.1), (2, .int s0.2.2.1), (4, .int s0.2.2.2.1), (5, .int s0.2.2.2.2.1), (6, .int s0.2.2.2.2.2.1), (7, .int s0.2.2.2.2.2.2.1), (8, .int s0.2.2.2.2.2.2.2)] [] σ Q := by
  refine xloop_run (M := (fun s : (Nat × Nat × Int32 × Int32 × Int32 × Int32 × Int32 × Int32) => xMach G π J_X6_splitNumber (d + 1) C Z 114 [(0, .ref s.1), (1, .ref s.2.1), (2, .int s.2.2.1), (4, .int s.2.2.2.1), (5, .int s.2.2.2.2.1), (6, .int s.2.2.2.2.2.1), (7, .int s.2.2.2.2.2.2.1), (8, .int s.2.2.2.2.2.2.2)] [] σ Q)) (r := x) ?_ xF _ h1
  intro s y hs hx
  exact L_X6_splitNumber_s114 σ s.1 s.2.1 s.2.2.1 s.2.2.2.1 s.2.2.2.2.1 s.2.2.2.2.2.1 s.2.2.2.2.2.2.1 s.2.2.2.2.2.2.2 (x := y) hs (fun g hg => by subst hg; exact hR g hx) (fun e he => by subst he; exact hE e hx) (fun e he => by subst he; exact hx)
def f_X6_splitNumber_j154 (σ : xM) (l0 : Nat) (l2 : Int32) (l5 : Int32) (l7 : Int32) (l8 : Int32) : Option (Int32 × xM) :=
  (if l8 = l5 then (if xk σ l0 6 = true then (f_X6_addWord σ l0 (7 : Int32) l8 l2).bind (fun p12 => (gI p12 l0 6 6).bind (fun x13 => some (x13, p12))) else none) else (if xk σ l0 6 = true then (f_X6_addWord σ l0 (0 : Int32) l7 l2).bind (fun p11 => some (l8, p11)) else none))
set_option maxHeartbeats 4000000 in
set_option maxRecDepth 20000 in
theorem L_X6_splitNumber_j154 {G : xG} {π : Nat → Nat} {d C Z : Nat} {Q : xQ} (σ : xM) (l0 : Nat) (l2 : Int32) (l5 : Int32) (l7 : Int32) (l8 : Int32) {x : (Int32 × xM)} (hf : f_X6_splitNumber_j154 σ l0 l2 l5 l7 l8 = some x) (hR : ∀ g, x = g → Q (.inl (some (.int g.1))) (g.2) π) : xMach G π J_X6_splitNumber (d + 1) C Z 154 [(0, .ref l0), (2, .int l2), (5, .int l5), (7, .int l7), (8, .int l8)] [] σ Q := by
  unfold f_X6_splitNumber_j154 at hf
  refine xm_iload dX6_splitNumber_154 rfl ?_
  refine xm_iload dX6_splitNumber_156 rfl ?_
  refine xb_icmp_ne 175 dX6_splitNumber_158 (by decide) hf (fun c hf => ?_) (fun c hf => ?_)
  · refine xm_aload_n dX6_splitNumber_175 rfl ?_
    refine xm_iconst dX6_splitNumber_176 (v := 0) (by decide) ?_
    refine xm_iload dX6_splitNumber_177 rfl ?_
    refine xm_iload_n dX6_splitNumber_179 rfl ?_
    refine xb_if hf (fun hb hf => ?_) (fun _ q => nomatch q)
    obtain ⟨p11, ep11, hf⟩ := xbind hf
    refine xb_callV (As := [.int (0 : Int32), .int l7, .int l2]) (v0 := none) (τ0 := p11) dX6_splitNumber_180 (xc_X6_addWord _ _) xcl6 xw_727 xw_728 xw_729 hb rfl (Nat.le_of_ble_eq_true rfl) rfl (Nat.le_of_ble_eq_true rfl) (fun Q1 hq => m_X6_addWord (d := d + 0) ep11 (fun g hg => by subst hg; exact hq)) ?_
    refine xm_iload dX6_splitNumber_183 rfl ?_
    cases hf
    exact xm_iret dX6_splitNumber_185 rfl (hR _ rfl)
  · refine xm_aload_n dX6_splitNumber_161 rfl ?_
    refine xm_bipush dX6_splitNumber_162 (v := 7) (by decide) ?_
    refine xm_iload dX6_splitNumber_164 rfl ?_
    refine xm_iload_n dX6_splitNumber_166 rfl ?_
    refine xb_if hf (fun hb hf => ?_) (fun _ q => nomatch q)
    obtain ⟨p12, ep12, hf⟩ := xbind hf
    refine xb_callV (As := [.int (7 : Int32), .int l8, .int l2]) (v0 := none) (τ0 := p12) dX6_splitNumber_167 (xc_X6_addWord _ _) xcl6 xw_727 xw_728 xw_729 hb rfl (Nat.le_of_ble_eq_true rfl) rfl (Nat.le_of_ble_eq_true rfl) (fun Q1 hq => m_X6_addWord (d := d + 0) ep12 (fun g hg => by subst hg; exact hq)) ?_
    refine xm_aload_n dX6_splitNumber_170 rfl ?_
    refine xb_getI (a := l0) (c := 6) (k := 6) dX6_splitNumber_171 xcl6 (by decide) xw_339 rfl hf (fun x13 ex13 hf => ?_)
    cases hf
    exact xm_iret dX6_splitNumber_174 rfl (hR _ rfl)
def f_X6_splitNumber_j101 (σ : xM) (l0 : Nat) (l1 : Nat) (l2 : Int32) (l4 : Int32) (l5 : Int32) (s0 : Int32) (s1 : Int32) (s2 : Int32) : Option (Int32 × xM) :=
  xlet (if (s1 + s0) < s2 then (s1 + s0) else s2) (fun v3 => xlet (0 : Int32) (fun v4 => (xloop (f_X6_splitNumber_s114 σ ) xF (l0, l1, l2, l4, l5, v3, v4, l5)).bind (Sum.elim (fun g => some g) (fun e => f_X6_splitNumber_j154 σ e.1 e.2.1 e.2.2.1 e.2.2.2.1 e.2.2.2.2))))
set_option maxHeartbeats 4000000 in
set_option maxRecDepth 20000 in
theorem L_X6_splitNumber_j101 {G : xG} {π : Nat → Nat} {d C Z : Nat} {Q : xQ} (σ : xM) (l0 : Nat) (l1 : Nat) (l2 : Int32) (l4 : Int32) (l5 : Int32) (s0 : Int32) (s1 : Int32) (s2 : Int32) {x : (Int32 × xM)} (hf : f_X6_splitNumber_j101 σ l0 l1 l2 l4 l5 s0 s1 s2 = some x) (hR : ∀ g, x = g → Q (.inl (some (.int g.1))) (g.2) π) : xMach G π J_X6_splitNumber (d + 1) C Z 101 [(0, .ref l0), (1, .ref l1), (2, .int l2), (4, .int l4), (5, .int l5)] [.int s0, .int s1, .int s2] σ Q := by
  unfold f_X6_splitNumber_j101 at hf
  refine xm_iadd dX6_splitNumber_101 ?_
  refine xm_min dX6_splitNumber_102 xw_719 xw_120 xw_7 xw_121 (Nat.le_of_ble_eq_true rfl) ?_
  refine xb_topi hf (fun v3 ev3 hf => ?_)
  refine xm_istore dX6_splitNumber_105 (by decide) (xm_stL (L' := [(6, .int v3), (0, .ref l0), (1, .ref l1), (2, .int l2), (4, .int l4), (5, .int l5)]) rfl ?_)
  refine xm_iconst dX6_splitNumber_107 (v := 0) (by decide) ?_
  refine xb_topi hf (fun v4 ev4 hf => ?_)
  refine xm_istore dX6_splitNumber_108 (by decide) (xm_stL (L' := [(7, .int v4), (6, .int v3), (0, .ref l0), (1, .ref l1), (2, .int l2), (4, .int l4), (5, .int l5)]) rfl ?_)
  refine xm_iload dX6_splitNumber_110 rfl ?_
  refine xm_istore dX6_splitNumber_112 (by decide) (xm_stL (L' := [(8, .int l5), (7, .int v4), (6, .int v3), (0, .ref l0), (1, .ref l1), (2, .int l2), (4, .int l4), (5, .int l5)]) rfl ?_)
  obtain ⟨o, h1, hf⟩ := xbind hf
  refine xm_sub [3, 4, 5, 6, 7, 2, 1, 0] rfl (L_X6_splitNumber_l114 σ h1 (fun g hg => ?_) (fun e he => ?_))
  · subst hg
    cases hf
    exact hR _ rfl
  · subst he
    rw [Sum.elim_inr] at hf
    have hf : f_X6_splitNumber_j154 σ e.1 e.2.1 e.2.2.1 e.2.2.2.1 e.2.2.2.2 = some _ := hf
    exact xm_sub [0, 1, 2, 3, 4] rfl (L_X6_splitNumber_j154 σ e.1 e.2.1 e.2.2.1 e.2.2.2.1 e.2.2.2.2 hf hR)
def f_X6_splitNumber_j79 (σ : xM) (l0 : Nat) (l1 : Nat) (l2 : Int32) (l4 : Int32) (s0 : Int32) : Option (Int32 × xM) :=
  (gI σ l0 6 6).bind (fun x2 => (if l4 = (10 : Int32) then f_X6_splitNumber_j101 σ l0 l1 l2 l4 s0 (9 : Int32) s0 x2 else f_X6_splitNumber_j101 σ l0 l1 l2 l4 s0 (7 : Int32) s0 x2))
set_option maxHeartbeats 4000000 in
set_option maxRecDepth 20000 in
theorem L_X6_splitNumber_j79 {G : xG} {π : Nat → Nat} {d C Z : Nat} {Q : xQ} (σ : xM) (l0 : Nat) (l1 : Nat) (l2 : Int32) (l4 : Int32) (s0 : Int32) {x : (Int32 × xM)} (hf : f_X6_splitNumber_j79 σ l0 l1 l2 l4 s0 = some x) (hR : ∀ g, x = g → Q (.inl (some (.int g.1))) (g.2) π) : xMach G π J_X6_splitNumber (d + 1) C Z 79 [(0, .ref l0), (1, .ref l1), (2, .int l2), (4, .int l4)] [.int s0] σ Q := by
  unfold f_X6_splitNumber_j79 at hf
  refine xm_istore dX6_splitNumber_79 (by decide) (xm_stL (L' := [(5, .int s0), (0, .ref l0), (1, .ref l1), (2, .int l2), (4, .int l4)]) rfl ?_)
  refine xm_aload_n dX6_splitNumber_81 rfl ?_
  refine xb_getI (a := l0) (c := 6) (k := 6) dX6_splitNumber_82 xcl6 (by decide) xw_339 rfl hf (fun x2 ex2 hf => ?_)
  refine xm_iload dX6_splitNumber_85 rfl ?_
  refine xm_iload dX6_splitNumber_87 rfl ?_
  refine xm_bipush dX6_splitNumber_89 (v := 10) (by decide) ?_
  refine xb_icmp_ne 99 dX6_splitNumber_91 (by decide) hf (fun c hf => ?_) (fun c hf => ?_)
  · refine xm_bipush dX6_splitNumber_99 (v := 7) (by decide) ?_
    exact xm_sub [1, 2, 3, 4, 0] rfl (L_X6_splitNumber_j101 σ l0 l1 l2 l4 s0 (7 : Int32) s0 x2 hf hR)
  · refine xm_bipush dX6_splitNumber_94 (v := 9) (by decide) ?_
    refine xm_goto 101 dX6_splitNumber_96 (by decide) ?_
    exact xm_sub [1, 2, 3, 4, 0] rfl (L_X6_splitNumber_j101 σ l0 l1 l2 l4 s0 (9 : Int32) s0 x2 hf hR)
def f_X6_splitNumber_j63 (σ : xM) (l0 : Nat) (l1 : Nat) (l2 : Int32) (s0 : Int32) : Option (Int32 × xM) :=
  (if s0 = (10 : Int32) then f_X6_splitNumber_j79 σ l0 l1 l2 s0 l2 else f_X6_splitNumber_j79 σ l0 l1 l2 s0 (l2 + (2 : Int32)))
set_option maxHeartbeats 4000000 in
set_option maxRecDepth 20000 in
theorem L_X6_splitNumber_j63 {G : xG} {π : Nat → Nat} {d C Z : Nat} {Q : xQ} (σ : xM) (l0 : Nat) (l1 : Nat) (l2 : Int32) (s0 : Int32) {x : (Int32 × xM)} (hf : f_X6_splitNumber_j63 σ l0 l1 l2 s0 = some x) (hR : ∀ g, x = g → Q (.inl (some (.int g.1))) (g.2) π) : xMach G π J_X6_splitNumber (d + 1) C Z 63 [(0, .ref l0), (1, .ref l1), (2, .int l2)] [.int s0] σ Q := by
  unfold f_X6_splitNumber_j63 at hf
  refine xm_istore dX6_splitNumber_63 (by decide) (xm_stL (L' := [(4, .int s0), (0, .ref l0), (1, .ref l1), (2, .int l2)]) rfl ?_)
  refine xm_iload dX6_splitNumber_65 rfl ?_
  refine xm_bipush dX6_splitNumber_67 (v := 10) (by decide) ?_
  refine xb_icmp_ne 76 dX6_splitNumber_69 (by decide) hf (fun c hf => ?_) (fun c hf => ?_)
  · refine xm_iload_n dX6_splitNumber_76 rfl ?_
    refine xm_iconst dX6_splitNumber_77 (v := 2) (by decide) ?_
    refine xm_iadd dX6_splitNumber_78 ?_
    exact xm_sub [1, 2, 3, 0] rfl (L_X6_splitNumber_j79 σ l0 l1 l2 s0 (l2 + (2 : Int32)) hf hR)
  · refine xm_iload_n dX6_splitNumber_72 rfl ?_
    refine xm_goto 79 dX6_splitNumber_73 (by decide) ?_
    exact xm_sub [1, 2, 3, 0] rfl (L_X6_splitNumber_j79 σ l0 l1 l2 s0 l2 hf hR)
def f_X6_splitNumber_j28 (σ : xM) (l0 : Nat) (l1 : Nat) (l2 : Int32) (s0 : Int32) : Option (Int32 × xM) :=
  (if s0 = (120 : Int32) then f_X6_splitNumber_j63 σ l0 l1 l2 (16 : Int32) else (if s0 = (111 : Int32) then f_X6_splitNumber_j63 σ l0 l1 l2 (8 : Int32) else (if s0 = (98 : Int32) then f_X6_splitNumber_j63 σ l0 l1 l2 (2 : Int32) else f_X6_splitNumber_j63 σ l0 l1 l2 (10 : Int32))))
set_option maxHeartbeats 4000000 in
set_option maxRecDepth 20000 in
theorem L_X6_splitNumber_j28 {G : xG} {π : Nat → Nat} {d C Z : Nat} {Q : xQ} (σ : xM) (l0 : Nat) (l1 : Nat) (l2 : Int32) (s0 : Int32) {x : (Int32 × xM)} (hf : f_X6_splitNumber_j28 σ l0 l1 l2 s0 = some x) (hR : ∀ g, x = g → Q (.inl (some (.int g.1))) (g.2) π) : xMach G π J_X6_splitNumber (d + 1) C Z 28 [(0, .ref l0), (1, .ref l1), (2, .int l2)] [.int s0] σ Q := by
  unfold f_X6_splitNumber_j28 at hf
  refine xm_istore_n dX6_splitNumber_28 (by decide) (xm_stL (L' := [(3, .int s0), (0, .ref l0), (1, .ref l1), (2, .int l2)]) rfl ?_)
  refine xm_iload_n dX6_splitNumber_29 rfl ?_
  refine xm_bipush dX6_splitNumber_30 (v := 120) (by decide) ?_
  refine xb_icmp_ne 40 dX6_splitNumber_32 (by decide) hf (fun c hf => ?_) (fun c hf => ?_)
  · refine xm_iload_n dX6_splitNumber_40 rfl ?_
    refine xm_bipush dX6_splitNumber_41 (v := 111) (by decide) ?_
    refine xb_icmp_ne 51 dX6_splitNumber_43 (by decide) hf (fun c hf => ?_) (fun c hf => ?_)
    · refine xm_iload_n dX6_splitNumber_51 rfl ?_
      refine xm_bipush dX6_splitNumber_52 (v := 98) (by decide) ?_
      refine xb_icmp_ne 61 dX6_splitNumber_54 (by decide) hf (fun c hf => ?_) (fun c hf => ?_)
      · refine xm_bipush dX6_splitNumber_61 (v := 10) (by decide) ?_
        exact xm_sub [1, 2, 3] rfl (L_X6_splitNumber_j63 σ l0 l1 l2 (10 : Int32) hf hR)
      · refine xm_iconst dX6_splitNumber_57 (v := 2) (by decide) ?_
        refine xm_goto 63 dX6_splitNumber_58 (by decide) ?_
        exact xm_sub [1, 2, 3] rfl (L_X6_splitNumber_j63 σ l0 l1 l2 (2 : Int32) hf hR)
    · refine xm_bipush dX6_splitNumber_46 (v := 8) (by decide) ?_
      refine xm_goto 63 dX6_splitNumber_48 (by decide) ?_
      exact xm_sub [1, 2, 3] rfl (L_X6_splitNumber_j63 σ l0 l1 l2 (8 : Int32) hf hR)
  · refine xm_bipush dX6_splitNumber_35 (v := 16) (by decide) ?_
    refine xm_goto 63 dX6_splitNumber_37 (by decide) ?_
    exact xm_sub [1, 2, 3] rfl (L_X6_splitNumber_j63 σ l0 l1 l2 (16 : Int32) hf hR)
def f_X6_splitNumber_j26 (σ : xM) (l0 : Nat) (l1 : Nat) (l2 : Int32) : Option (Int32 × xM) :=
  f_X6_splitNumber_j28 σ l0 l1 l2 (32 : Int32)
set_option maxHeartbeats 4000000 in
set_option maxRecDepth 20000 in
theorem L_X6_splitNumber_j26 {G : xG} {π : Nat → Nat} {d C Z : Nat} {Q : xQ} (σ : xM) (l0 : Nat) (l1 : Nat) (l2 : Int32) {x : (Int32 × xM)} (hf : f_X6_splitNumber_j26 σ l0 l1 l2 = some x) (hR : ∀ g, x = g → Q (.inl (some (.int g.1))) (g.2) π) : xMach G π J_X6_splitNumber (d + 1) C Z 26 [(0, .ref l0), (1, .ref l1), (2, .int l2)] [] σ Q := by
  unfold f_X6_splitNumber_j26 at hf
  refine xm_bipush dX6_splitNumber_26 (v := 32) (by decide) ?_
  exact xm_sub [0, 1, 2] rfl (L_X6_splitNumber_j28 σ l0 l1 l2 (32 : Int32) hf hR)
def f_X6_splitNumber (σ : xM) (l0 : Nat) (l1 : Nat) (l2 : Int32) : Option (Int32 × xM) :=
  (aI σ l1 13 l2).bind (fun x1 => (if x1 = (48 : Int32) then (gI σ l0 6 6).bind (fun x14 => (if x14 ≤ (l2 + (1 : Int32)) then f_X6_splitNumber_j26 σ l0 l1 l2 else (aI σ l1 13 (l2 + (1 : Int32))).bind (fun x15 => f_X6_splitNumber_j28 σ l0 l1 l2 x15))) else f_X6_splitNumber_j26 σ l0 l1 l2))
set_option maxHeartbeats 4000000 in
set_option maxRecDepth 20000 in
theorem m_X6_splitNumber {G : xG} {π : Nat → Nat} {d C Z : Nat} {Q : xQ} {σ : xM} {l0 : Nat} {l1 : Nat} {l2 : Int32} {x : (Int32 × xM)} (hf : f_X6_splitNumber σ l0 l1 l2 = some x) (hR : ∀ g, x = g → Q (.inl (some (.int g.1))) (g.2) π) : xMach G π J_X6_splitNumber (d + 1) C Z 0 (lv_args 0 [.ref l0, .ref l1, .int l2]) [] σ Q := by
  unfold f_X6_splitNumber at hf
  refine xm_stL (L' := [(0, .ref l0), (1, .ref l1), (2, .int l2)]) rfl ?_
  refine xm_aload_n dX6_splitNumber_0 rfl ?_
  refine xm_iload_n dX6_splitNumber_1 rfl ?_
  refine xb_cald dX6_splitNumber_2 hf (fun x1 ex1 hf => ?_)
  refine xm_bipush dX6_splitNumber_3 (v := 48) (by decide) ?_
  refine xb_icmp_ne 26 dX6_splitNumber_5 (by decide) hf (fun c hf => ?_) (fun c hf => ?_)
  · exact xm_sub [0, 1, 2] rfl (L_X6_splitNumber_j26 σ l0 l1 l2 hf hR)
  · refine xm_iload_n dX6_splitNumber_8 rfl ?_
    refine xm_iconst dX6_splitNumber_9 (v := 1) (by decide) ?_
    refine xm_iadd dX6_splitNumber_10 ?_
    refine xm_aload_n dX6_splitNumber_11 rfl ?_
    refine xb_getI (a := l0) (c := 6) (k := 6) dX6_splitNumber_12 xcl6 (by decide) xw_339 rfl hf (fun x14 ex14 hf => ?_)
    refine xb_icmp_ge 26 dX6_splitNumber_15 (by decide) hf (fun c hf => ?_) (fun c hf => ?_)
    · exact xm_sub [0, 1, 2] rfl (L_X6_splitNumber_j26 σ l0 l1 l2 hf hR)
    · refine xm_aload_n dX6_splitNumber_18 rfl ?_
      refine xm_iload_n dX6_splitNumber_19 rfl ?_
      refine xm_iconst dX6_splitNumber_20 (v := 1) (by decide) ?_
      refine xm_iadd dX6_splitNumber_21 ?_
      refine xb_cald dX6_splitNumber_22 hf (fun x15 ex15 hf => ?_)
      refine xm_goto 28 dX6_splitNumber_23 (by decide) ?_
      exact xm_sub [0, 1, 2] rfl (L_X6_splitNumber_j28 σ l0 l1 l2 x15 hf hR)
-- Rankwise$Reader.splitOther(CI)I
def f_X6_splitOther_j90 (σ : xM) (s0 : Int32) : Option (Int32 × xM) :=
  some (s0, σ)
set_option maxHeartbeats 4000000 in
set_option maxRecDepth 20000 in
theorem L_X6_splitOther_j90 {G : xG} {π : Nat → Nat} {d C Z : Nat} {Q : xQ} (σ : xM) (s0 : Int32) {x : (Int32 × xM)} (hf : f_X6_splitOther_j90 σ s0 = some x) (hR : ∀ g, x = g → Q (.inl (some (.int g.1))) (g.2) π) : xMach G π J_X6_splitOther (d + 2) C Z 90 [] [.int s0] σ Q := by
  unfold f_X6_splitOther_j90 at hf
  cases hf
  exact xm_iret dX6_splitOther_90 rfl (hR _ rfl)
def f_X6_splitOther_j67 (σ : xM) (l0 : Nat) (l1 : Int32) (l2 : Int32) (l3 : Int32) : Option (Int32 × xM) :=
  (if xk σ l0 6 = true then (f_X6_addWord σ l0 l3 l1 l2).bind (fun p4 => (if l3 = (8 : Int32) then (gI p4 l0 6 6).bind (fun x5 => f_X6_splitOther_j90 p4 x5) else f_X6_splitOther_j90 p4 (l2 + (1 : Int32)))) else none)
set_option maxHeartbeats 4000000 in
set_option maxRecDepth 20000 in
theorem L_X6_splitOther_j67 {G : xG} {π : Nat → Nat} {d C Z : Nat} {Q : xQ} (σ : xM) (l0 : Nat) (l1 : Int32) (l2 : Int32) (l3 : Int32) {x : (Int32 × xM)} (hf : f_X6_splitOther_j67 σ l0 l1 l2 l3 = some x) (hR : ∀ g, x = g → Q (.inl (some (.int g.1))) (g.2) π) : xMach G π J_X6_splitOther (d + 2) C Z 67 [(0, .ref l0), (1, .int l1), (2, .int l2), (3, .int l3)] [] σ Q := by
  unfold f_X6_splitOther_j67 at hf
  refine xm_aload_n dX6_splitOther_67 rfl ?_
  refine xm_iload_n dX6_splitOther_68 rfl ?_
  refine xm_iload_n dX6_splitOther_69 rfl ?_
  refine xm_iload_n dX6_splitOther_70 rfl ?_
  refine xb_if hf (fun hb hf => ?_) (fun _ q => nomatch q)
  obtain ⟨p4, ep4, hf⟩ := xbind hf
  refine xb_callV (As := [.int l3, .int l1, .int l2]) (v0 := none) (τ0 := p4) dX6_splitOther_71 (xc_X6_addWord _ _) xcl6 xw_727 xw_728 xw_729 hb rfl (Nat.le_of_ble_eq_true rfl) rfl (Nat.le_of_ble_eq_true rfl) (fun Q1 hq => m_X6_addWord (d := d + 1) ep4 (fun g hg => by subst hg; exact hq)) ?_
  refine xm_iload_n dX6_splitOther_74 rfl ?_
  refine xm_bipush dX6_splitOther_75 (v := 8) (by decide) ?_
  refine xb_icmp_ne 87 dX6_splitOther_77 (by decide) hf (fun c hf => ?_) (fun c hf => ?_)
  · refine xm_iload_n dX6_splitOther_87 rfl ?_
    refine xm_iconst dX6_splitOther_88 (v := 1) (by decide) ?_
    refine xm_iadd dX6_splitOther_89 ?_
    exact xm_sub [] rfl (L_X6_splitOther_j90 p4 (l2 + (1 : Int32)) hf hR)
  · refine xm_aload_n dX6_splitOther_80 rfl ?_
    refine xb_getI (a := l0) (c := 6) (k := 6) dX6_splitOther_81 xcl6 (by decide) xw_339 rfl hf (fun x5 ex5 hf => ?_)
    refine xm_goto 90 dX6_splitOther_84 (by decide) ?_
    exact xm_sub [] rfl (L_X6_splitOther_j90 p4 x5 hf hR)
def f_X6_splitOther_j20 (σ : xM) (l0 : Nat) (l1 : Int32) (l2 : Int32) (l3 : Int32) : Option (Int32 × xM) :=
  (if l1 = (40 : Int32) then xlet (4 : Int32) (fun v9 => f_X6_splitOther_j67 σ l0 l1 l2 v9) else (if l1 = (41 : Int32) then xlet (5 : Int32) (fun v8 => f_X6_splitOther_j67 σ l0 l1 l2 v8) else (if l1 = (44 : Int32) then xlet (6 : Int32) (fun v7 => f_X6_splitOther_j67 σ l0 l1 l2 v7) else (gR σ l0 6 0).bind (fun x2 => (if xk σ x2 1 = true then (f_X1_isSign σ x2 l1).bind (fun p3 => (if p3 = (0 : Int32) then f_X6_splitOther_j67 σ l0 l1 l2 l3 else xlet (3 : Int32) (fun v6 => f_X6_splitOther_j67 σ l0 l1 l2 v6))) else none)))))
set_option maxHeartbeats 4000000 in
set_option maxRecDepth 20000 in
theorem L_X6_splitOther_j20 {G : xG} {π : Nat → Nat} {d C Z : Nat} {Q : xQ} (σ : xM) (l0 : Nat) (l1 : Int32) (l2 : Int32) (l3 : Int32) {x : (Int32 × xM)} (hf : f_X6_splitOther_j20 σ l0 l1 l2 l3 = some x) (hR : ∀ g, x = g → Q (.inl (some (.int g.1))) (g.2) π) : xMach G π J_X6_splitOther (d + 2) C Z 20 [(0, .ref l0), (1, .int l1), (2, .int l2), (3, .int l3)] [] σ Q := by
  unfold f_X6_splitOther_j20 at hf
  refine xm_iload_n dX6_splitOther_20 rfl ?_
  refine xm_bipush dX6_splitOther_21 (v := 40) (by decide) ?_
  refine xb_icmp_ne 31 dX6_splitOther_23 (by decide) hf (fun c hf => ?_) (fun c hf => ?_)
  · refine xm_iload_n dX6_splitOther_31 rfl ?_
    refine xm_bipush dX6_splitOther_32 (v := 41) (by decide) ?_
    refine xb_icmp_ne 42 dX6_splitOther_34 (by decide) hf (fun c hf => ?_) (fun c hf => ?_)
    · refine xm_iload_n dX6_splitOther_42 rfl ?_
      refine xm_bipush dX6_splitOther_43 (v := 44) (by decide) ?_
      refine xb_icmp_ne 54 dX6_splitOther_45 (by decide) hf (fun c hf => ?_) (fun c hf => ?_)
      · refine xm_aload_n dX6_splitOther_54 rfl ?_
        refine xb_getR (a := l0) (c := 6) (k := 0) dX6_splitOther_55 xcl6 (by decide) xw_329 rfl hf (fun x2 ex2 hf => ?_)
        refine xm_iload_n dX6_splitOther_58 rfl ?_
        refine xb_if hf (fun hb hf => ?_) (fun _ q => nomatch q)
        obtain ⟨p3, ep3, hf⟩ := xbind hf
        refine xb_callV (As := [.int l1]) (v0 := (some (.int p3))) (τ0 := σ) dX6_splitOther_59 (xc_X1_isSign _ _) xcl1 xw_735 xw_736 xw_737 hb rfl (Nat.le_of_ble_eq_true rfl) rfl (Nat.le_of_ble_eq_true rfl) (fun Q1 hq => m_X1_isSign (d := d + 0) ep3 (fun g hg => by subst hg; exact hq)) ?_
        refine xb_if_eq 67 dX6_splitOther_62 (by decide) hf (fun c hf => ?_) (fun c hf => ?_)
        · exact xm_sub [0, 1, 2, 3] rfl (L_X6_splitOther_j67 σ l0 l1 l2 l3 hf hR)
        · refine xm_iconst dX6_splitOther_65 (v := 3) (by decide) ?_
          refine xb_topi hf (fun v6 ev6 hf => ?_)
          refine xm_istore_n dX6_splitOther_66 (by decide) (xm_stL (L' := [(3, .int v6), (0, .ref l0), (1, .int l1), (2, .int l2)]) rfl ?_)
          exact xm_sub [1, 2, 3, 0] rfl (L_X6_splitOther_j67 σ l0 l1 l2 v6 hf hR)
      · refine xm_bipush dX6_splitOther_48 (v := 6) (by decide) ?_
        refine xb_topi hf (fun v7 ev7 hf => ?_)
        refine xm_istore_n dX6_splitOther_50 (by decide) (xm_stL (L' := [(3, .int v7), (0, .ref l0), (1, .int l1), (2, .int l2)]) rfl ?_)
        refine xm_goto 67 dX6_splitOther_51 (by decide) ?_
        exact xm_sub [1, 2, 3, 0] rfl (L_X6_splitOther_j67 σ l0 l1 l2 v7 hf hR)
    · refine xm_iconst dX6_splitOther_37 (v := 5) (by decide) ?_
      refine xb_topi hf (fun v8 ev8 hf => ?_)
      refine xm_istore_n dX6_splitOther_38 (by decide) (xm_stL (L' := [(3, .int v8), (0, .ref l0), (1, .int l1), (2, .int l2)]) rfl ?_)
      refine xm_goto 67 dX6_splitOther_39 (by decide) ?_
      exact xm_sub [1, 2, 3, 0] rfl (L_X6_splitOther_j67 σ l0 l1 l2 v8 hf hR)
  · refine xm_iconst dX6_splitOther_26 (v := 4) (by decide) ?_
    refine xb_topi hf (fun v9 ev9 hf => ?_)
    refine xm_istore_n dX6_splitOther_27 (by decide) (xm_stL (L' := [(3, .int v9), (0, .ref l0), (1, .int l1), (2, .int l2)]) rfl ?_)
    refine xm_goto 67 dX6_splitOther_28 (by decide) ?_
    exact xm_sub [1, 2, 3, 0] rfl (L_X6_splitOther_j67 σ l0 l1 l2 v9 hf hR)
def f_X6_splitOther (σ : xM) (l0 : Nat) (l1 : Int32) (l2 : Int32) : Option (Int32 × xM) :=
  xlet (8 : Int32) (fun v1 => (if l1 < (97 : Int32) then f_X6_splitOther_j20 σ l0 l1 l2 v1 else (if (122 : Int32) < l1 then f_X6_splitOther_j20 σ l0 l1 l2 v1 else xlet (1 : Int32) (fun v10 => f_X6_splitOther_j67 σ l0 l1 l2 v10))))
set_option maxHeartbeats 4000000 in
set_option maxRecDepth 20000 in
theorem m_X6_splitOther {G : xG} {π : Nat → Nat} {d C Z : Nat} {Q : xQ} {σ : xM} {l0 : Nat} {l1 : Int32} {l2 : Int32} {x : (Int32 × xM)} (hf : f_X6_splitOther σ l0 l1 l2 = some x) (hR : ∀ g, x = g → Q (.inl (some (.int g.1))) (g.2) π) : xMach G π J_X6_splitOther (d + 2) C Z 0 (lv_args 0 [.ref l0, .int l1, .int l2]) [] σ Q := by
  unfold f_X6_splitOther at hf
  refine xm_stL (L' := [(0, .ref l0), (1, .int l1), (2, .int l2)]) rfl ?_
  refine xm_bipush dX6_splitOther_0 (v := 8) (by decide) ?_
  refine xb_topi hf (fun v1 ev1 hf => ?_)
  refine xm_istore_n dX6_splitOther_2 (by decide) (xm_stL (L' := [(3, .int v1), (0, .ref l0), (1, .int l1), (2, .int l2)]) rfl ?_)
  refine xm_iload_n dX6_splitOther_3 rfl ?_
  refine xm_bipush dX6_splitOther_4 (v := 97) (by decide) ?_
  refine xb_icmp_lt 20 dX6_splitOther_6 (by decide) hf (fun c hf => ?_) (fun c hf => ?_)
  · exact xm_sub [1, 2, 3, 0] rfl (L_X6_splitOther_j20 σ l0 l1 l2 v1 hf hR)
  · refine xm_iload_n dX6_splitOther_9 rfl ?_
    refine xm_bipush dX6_splitOther_10 (v := 122) (by decide) ?_
    refine xb_icmp_gt 20 dX6_splitOther_12 (by decide) hf (fun c hf => ?_) (fun c hf => ?_)
    · exact xm_sub [1, 2, 3, 0] rfl (L_X6_splitOther_j20 σ l0 l1 l2 v1 hf hR)
    · refine xm_iconst dX6_splitOther_15 (v := 1) (by decide) ?_
      refine xb_topi hf (fun v10 ev10 hf => ?_)
      refine xm_istore_n dX6_splitOther_16 (by decide) (xm_stL (L' := [(3, .int v10), (0, .ref l0), (1, .int l1), (2, .int l2)]) rfl ?_)
      refine xm_goto 67 dX6_splitOther_17 (by decide) ?_
      exact xm_sub [1, 2, 3, 0] rfl (L_X6_splitOther_j67 σ l0 l1 l2 v10 hf hR)
-- Rankwise$Reader.split([CI)V
def f_X6_split_j84 (σ : xM) (l0 : Nat) (l1 : Nat) (l3 : Int32) (l4 : Int32) : Option (xM ⊕ ((xM) ⊕ (Nat × Nat × Int32 × Int32 × xM))) :=
  xlet (l4 + (1 : Int32)) (fun v12 => some (Sum.inr (Sum.inr (l0, l1, l3, v12, σ))))
set_option maxHeartbeats 4000000 in
set_option maxRecDepth 20000 in
theorem L_X6_split_j84 {G : xG} {π : Nat → Nat} {d C Z : Nat} {Q : xQ} (σ : xM) (l0 : Nat) (l1 : Nat) (l3 : Int32) (l4 : Int32) {x : (xM ⊕ ((xM) ⊕ (Nat × Nat × Int32 × Int32 × xM)))} (hf : f_X6_split_j84 σ l0 l1 l3 l4 = some x) (hR : ∀ g, x = Sum.inl (g) → Q (.inl none) (g) π) (hE : ∀ e : (xM), x = Sum.inr (Sum.inl e) → xMach G π J_X6_split (d + 3) C Z 90 [] [] e Q) (hC : ∀ e : (Nat × Nat × Int32 × Int32 × xM), x = Sum.inr (Sum.inr e) → xMach G π J_X6_split (d + 3) C Z 19 [(0, .ref e.1), (1, .ref e.2.1), (3, .int e.2.2.1), (4, .int e.2.2.2.1)] [] e.2.2.2.2 Q) : xMach G π J_X6_split (d + 3) C Z 84 [(0, .ref l0), (1, .ref l1), (3, .int l3), (4, .int l4)] [] σ Q := by
  unfold f_X6_split_j84 at hf
  refine xb_iinc dX6_split_84 rfl (by decide) (by decide) hf (fun v12 ev12 hf => xm_stL (L' := [(4, .int v12), (0, .ref l0), (1, .ref l1), (3, .int l3)]) rfl ?_)
  refine xm_goto 19 dX6_split_87 (by decide) ?_
  cases hf
  exact xm_sub [1, 2, 3, 0] rfl (hC _ rfl)
def f_X6_split_j83 (σ : xM) (l0 : Nat) (l1 : Nat) (l4 : Int32) (s0 : Int32) : Option (xM ⊕ ((xM) ⊕ (Nat × Nat × Int32 × Int32 × xM))) :=
  f_X6_split_j84 σ l0 l1 s0 l4
set_option maxHeartbeats 4000000 in
set_option maxRecDepth 20000 in
theorem L_X6_split_j83 {G : xG} {π : Nat → Nat} {d C Z : Nat} {Q : xQ} (σ : xM) (l0 : Nat) (l1 : Nat) (l4 : Int32) (s0 : Int32) {x : (xM ⊕ ((xM) ⊕ (Nat × Nat × Int32 × Int32 × xM)))} (hf : f_X6_split_j83 σ l0 l1 l4 s0 = some x) (hR : ∀ g, x = Sum.inl (g) → Q (.inl none) (g) π) (hE : ∀ e : (xM), x = Sum.inr (Sum.inl e) → xMach G π J_X6_split (d + 3) C Z 90 [] [] e Q) (hC : ∀ e : (Nat × Nat × Int32 × Int32 × xM), x = Sum.inr (Sum.inr e) → xMach G π J_X6_split (d + 3) C Z 19 [(0, .ref e.1), (1, .ref e.2.1), (3, .int e.2.2.1), (4, .int e.2.2.2.1)] [] e.2.2.2.2 Q) : xMach G π J_X6_split (d + 3) C Z 83 [(0, .ref l0), (1, .ref l1), (4, .int l4)] [.int s0] σ Q := by
  unfold f_X6_split_j83 at hf
  refine xm_istore_n dX6_split_83 (by decide) (xm_stL (L' := [(3, .int s0), (0, .ref l0), (1, .ref l1), (4, .int l4)]) rfl ?_)
  exact xm_sub [1, 2, 0, 3] rfl (L_X6_split_j84 σ l0 l1 s0 l4 hf hR hE hC)
def f_X6_split_j75 (σ : xM) (l0 : Nat) (l1 : Nat) (l3 : Int32) (l4 : Int32) : Option (xM ⊕ ((xM) ⊕ (Nat × Nat × Int32 × Int32 × xM))) :=
  (aI σ l1 13 l3).bind (fun x10 => (if xk σ l0 6 = true then (f_X6_splitOther σ l0 x10 l3).bind (fun p11 => f_X6_split_j83 p11.2 l0 l1 l4 p11.1) else none))
set_option maxHeartbeats 4000000 in
set_option maxRecDepth 20000 in
theorem L_X6_split_j75 {G : xG} {π : Nat → Nat} {d C Z : Nat} {Q : xQ} (σ : xM) (l0 : Nat) (l1 : Nat) (l3 : Int32) (l4 : Int32) {x : (xM ⊕ ((xM) ⊕ (Nat × Nat × Int32 × Int32 × xM)))} (hf : f_X6_split_j75 σ l0 l1 l3 l4 = some x) (hR : ∀ g, x = Sum.inl (g) → Q (.inl none) (g) π) (hE : ∀ e : (xM), x = Sum.inr (Sum.inl e) → xMach G π J_X6_split (d + 3) C Z 90 [] [] e Q) (hC : ∀ e : (Nat × Nat × Int32 × Int32 × xM), x = Sum.inr (Sum.inr e) → xMach G π J_X6_split (d + 3) C Z 19 [(0, .ref e.1), (1, .ref e.2.1), (3, .int e.2.2.1), (4, .int e.2.2.2.1)] [] e.2.2.2.2 Q) : xMach G π J_X6_split (d + 3) C Z 75 [(0, .ref l0), (1, .ref l1), (3, .int l3), (4, .int l4)] [] σ Q := by
  unfold f_X6_split_j75 at hf
  refine xm_aload_n dX6_split_75 rfl ?_
  refine xm_aload_n dX6_split_76 rfl ?_
  refine xm_iload_n dX6_split_77 rfl ?_
  refine xb_cald dX6_split_78 hf (fun x10 ex10 hf => ?_)
  refine xm_iload_n dX6_split_79 rfl ?_
  refine xb_if hf (fun hb hf => ?_) (fun _ q => nomatch q)
  obtain ⟨p11, ep11, hf⟩ := xbind hf
  refine xb_callV (As := [.int x10, .int l3]) (v0 := (some (.int p11.1))) (τ0 := p11.2) dX6_split_80 (xc_X6_splitOther _ _) xcl6 xw_731 xw_733 xs_4 hb rfl (Nat.le_of_ble_eq_true rfl) rfl (Nat.le_of_ble_eq_true rfl) (fun Q1 hq => m_X6_splitOther (d := d + 0) ep11 (fun g hg => by subst hg; exact hq)) ?_
  exact xm_sub [0, 1, 3] rfl (L_X6_split_j83 p11.2 l0 l1 l4 p11.1 hf hR hE hC)
def f_X6_split_s19 (s : (Nat × Nat × Int32 × Int32 × xM)) : Option (xM ⊕ ((xM) ⊕ (Nat × Nat × Int32 × Int32 × xM))) :=
  xlet s.1 (fun l0 => xlet s.2.1 (fun l1 => xlet s.2.2.1 (fun l3 => xlet s.2.2.2.1 (fun l4 => xlet s.2.2.2.2 (fun σ => (gI σ l0 6 6).bind (fun x6 => (if x6 ≤ l4 then some (Sum.inr (Sum.inl σ)) else (gI σ l0 6 6).bind (fun x7 => (if x7 ≤ l3 then some (Sum.inr (Sum.inl σ)) else (aI σ l1 13 l3).bind (fun x8 => (if x8 = (32 : Int32) then xlet (l3 + (1 : Int32)) (fun v15 => f_X6_split_j84 σ l0 l1 v15 l4) else (aI σ l1 13 l3).bind (fun x9 => (if x9 < (48 : Int32) then f_X6_split_j75 σ l0 l1 l3 l4 else (aI σ l1 13 l3).bind (fun x13 => (if (57 : Int32) < x13 then f_X6_split_j75 σ l0 l1 l3 l4 else (if xk σ l0 6 = true then (f_X6_splitNumber σ l0 l1 l3).bind (fun p14 => f_X6_split_j83 p14.2 l0 l1 l4 p14.1) else none))))))))))))))))
set_option maxHeartbeats 4000000 in
set_option maxRecDepth 20000 in
theorem L_X6_split_s19 {G : xG} {π : Nat → Nat} {d C Z : Nat} {Q : xQ} (σ : xM) (l0 : Nat) (l1 : Nat) (l3 : Int32) (l4 : Int32) {x : (xM ⊕ ((xM) ⊕ (Nat × Nat × Int32 × Int32 × xM)))} (hf : f_X6_split_s19 (l0, l1, l3, l4, σ) = some x) (hR : ∀ g, x = Sum.inl (g) → Q (.inl none) (g) π) (hE : ∀ e : (xM), x = Sum.inr (Sum.inl e) → xMach G π J_X6_split (d + 3) C Z 90 [] [] e Q) (hC : ∀ e : (Nat × Nat × Int32 × Int32 × xM), x = Sum.inr (Sum.inr e) → xMach G π J_X6_split (d + 3) C Z 19 [(0, .ref e.1), (1, .ref e.2.1), (3, .int e.2.2.1), (4, .int e.2.2.2.1)] [] e.2.2.2.2 Q) : xMach G π J_X6_split (d + 3) C Z 19 [(0, .ref l0), (1, .ref l1), (3, .int l3), (4, .int l4)] [] σ Q := by
  have hf : (gI σ l0 6 6).bind (fun x6 => (if x6 ≤ l4 then some (Sum.inr (Sum.inl σ)) else (gI σ l0 6 6).bind (fun x7 => (if x7 ≤ l3 then some (Sum.inr (Sum.inl σ)) else (aI σ l1 13 l3).bind (fun x8 => (if x8 = (32 : Int32) then xlet (l3 + (1 : Int32)) (fun v15 => f_X6_split_j84 σ l0 l1 v15 l4) else (aI σ l1 13 l3).bind (fun x9 => (if x9 < (48 : Int32) then f_X6_split_j75 σ l0 l1 l3 l4 else (aI σ l1 13 l3).bind (fun x13 => (if (57 : Int32) < x13 then f_X6_split_j75 σ l0 l1 l3 l4 else (if xk σ l0 6 = true then (f_X6_splitNumber σ l0 l1 l3).bind (fun p14 => f_X6_split_j83 p14.2 l0 l1 l4 p14.1) else none))))))))))) = some x := hf
  refine xm_iload dX6_split_19 rfl ?_
  refine xm_aload_n dX6_split_21 rfl ?_
  refine xb_getI (a := l0) (c := 6) (k := 6) dX6_split_22 xcl6 (by decide) xw_339 rfl hf (fun x6 ex6 hf => ?_)
  refine xb_icmp_ge 90 dX6_split_25 (by decide) hf (fun c hf => ?_) (fun c hf => ?_)
  · cases hf
    exact xm_sub [] rfl (hE _ rfl)
  · refine xm_iload_n dX6_split_28 rfl ?_
    refine xm_aload_n dX6_split_29 rfl ?_
    refine xb_getI (a := l0) (c := 6) (k := 6) dX6_split_30 xcl6 (by decide) xw_339 rfl hf (fun x7 ex7 hf => ?_)
    refine xb_icmp_ge 90 dX6_split_33 (by decide) hf (fun c hf => ?_) (fun c hf => ?_)
    · cases hf
      exact xm_sub [] rfl (hE _ rfl)
    · refine xm_aload_n dX6_split_36 rfl ?_
      refine xm_iload_n dX6_split_37 rfl ?_
      refine xb_cald dX6_split_38 hf (fun x8 ex8 hf => ?_)
      refine xm_bipush dX6_split_39 (v := 32) (by decide) ?_
      refine xb_icmp_ne 50 dX6_split_41 (by decide) hf (fun c hf => ?_) (fun c hf => ?_)
      · refine xm_aload_n dX6_split_50 rfl ?_
        refine xm_iload_n dX6_split_51 rfl ?_
        refine xb_cald dX6_split_52 hf (fun x9 ex9 hf => ?_)
        refine xm_bipush dX6_split_53 (v := 48) (by decide) ?_
        refine xb_icmp_lt 75 dX6_split_55 (by decide) hf (fun c hf => ?_) (fun c hf => ?_)
        · exact xm_sub [0, 1, 2, 3] rfl (L_X6_split_j75 σ l0 l1 l3 l4 hf hR hE hC)
        · refine xm_aload_n dX6_split_58 rfl ?_
          refine xm_iload_n dX6_split_59 rfl ?_
          refine xb_cald dX6_split_60 hf (fun x13 ex13 hf => ?_)
          refine xm_bipush dX6_split_61 (v := 57) (by decide) ?_
          refine xb_icmp_gt 75 dX6_split_63 (by decide) hf (fun c hf => ?_) (fun c hf => ?_)
          · exact xm_sub [0, 1, 2, 3] rfl (L_X6_split_j75 σ l0 l1 l3 l4 hf hR hE hC)
          · refine xm_aload_n dX6_split_66 rfl ?_
            refine xm_aload_n dX6_split_67 rfl ?_
            refine xm_iload_n dX6_split_68 rfl ?_
            refine xb_if hf (fun hb hf => ?_) (fun _ q => nomatch q)
            obtain ⟨p14, ep14, hf⟩ := xbind hf
            refine xb_callV (As := [.ref l1, .int l3]) (v0 := (some (.int p14.1))) (τ0 := p14.2) dX6_split_69 (xc_X6_splitNumber _ _) xcl6 xw_720 xw_722 xs_3 hb rfl (Nat.le_of_ble_eq_true rfl) rfl (Nat.le_of_ble_eq_true rfl) (fun Q1 hq => m_X6_splitNumber (d := d + 1) ep14 (fun g hg => by subst hg; exact hq)) ?_
            refine xm_goto 83 dX6_split_72 (by decide) ?_
            exact xm_sub [0, 1, 3] rfl (L_X6_split_j83 p14.2 l0 l1 l4 p14.1 hf hR hE hC)
      · refine xb_iinc dX6_split_44 rfl (by decide) (by decide) hf (fun v15 ev15 hf => xm_stL (L' := [(3, .int v15), (0, .ref l0), (1, .ref l1), (4, .int l4)]) rfl ?_)
        refine xm_goto 84 dX6_split_47 (by decide) ?_
        exact xm_sub [1, 2, 0, 3] rfl (L_X6_split_j84 σ l0 l1 v15 l4 hf hR hE hC)
theorem L_X6_split_l19 {G : xG} {π : Nat → Nat} {d C Z : Nat} {Q : xQ} {s0 : (Nat × Nat × Int32 × Int32 × xM)} {x : (xM ⊕ (xM))} (h1 : xloop (f_X6_split_s19) xF s0 = some x) (hR : ∀ g, x = Sum.inl g → Q (.inl none) (g) π) (hE : ∀ e : (xM), x = Sum.inr e → xMach G π J_X6_split (d + 3) C Z 90 [] [] e Q) : xMach G π J_X6_split (d + 3) C Z 19 [(0, .ref s0.1), (1, .ref s0.2.1), (3, .int s0.2.2.1), (4, .int s0.2.2.2.1)] [] s0.2.2.2.2 Q := by
  refine xloop_run (M := (fun s : (Nat × Nat × Int32 × Int32 × xM) => xMach G π J_X6_split (d + 3) C Z 19 [(0, .ref s.1), (1, .ref s.2.1), (3, .int s.2.2.1), (4, .int s.2.2.2.1)] [] s.2.2.2.2 Q)) (r := x) ?_ xF _ h1
  intro s y hs hx
  exact L_X6_split_s19 s.2.2.2.2 s.1 s.2.1 s.2.2.1 s.2.2.2.1 (x := y) hs (fun g hg => by subst hg; exact hR g hx) (fun e he => by subst he; exact hE e hx) (fun e he => by subst he; exact hx)
def f_X6_split_j90 (σ : xM)  : Option xM :=
  some σ
set_option maxHeartbeats 4000000 in
set_option maxRecDepth 20000 in
theorem L_X6_split_j90 {G : xG} {π : Nat → Nat} {d C Z : Nat} {Q : xQ} (σ : xM)  {x : xM} (hf : f_X6_split_j90 σ = some x) (hR : ∀ g, x = g → Q (.inl none) (g) π) : xMach G π J_X6_split (d + 3) C Z 90 [] [] σ Q := by
  unfold f_X6_split_j90 at hf
  cases hf
  exact xm_vret dX6_split_90 rfl (hR _ rfl)
def f_X6_split (σ : xM) (l0 : Nat) (l1 : Nat) (l2 : Int32) : Option xM :=
  (if xk σ l0 6 = true then (f_X6_startWords σ l0).bind (fun p1 => (gL p1 l1 13).bind (fun x2 => (sI p1 l0 6 6 (if x2 < l2 then x2 else l2)).bind (fun σ3 => xlet (0 : Int32) (fun v4 => xlet (0 : Int32) (fun v5 => (xloop (f_X6_split_s19 ) xF (l0, l1, v4, v5, σ3)).bind (Sum.elim (fun g => some g) (fun e => f_X6_split_j90 e))))))) else none)
set_option maxHeartbeats 4000000 in
set_option maxRecDepth 20000 in
theorem m_X6_split {G : xG} {π : Nat → Nat} {d C Z : Nat} {Q : xQ} {σ : xM} {l0 : Nat} {l1 : Nat} {l2 : Int32} {x : xM} (hf : f_X6_split σ l0 l1 l2 = some x) (hR : ∀ g, x = g → Q (.inl none) (g) π) : xMach G π J_X6_split (d + 3) C Z 0 (lv_args 0 [.ref l0, .ref l1, .int l2]) [] σ Q := by
  unfold f_X6_split at hf
  refine xm_stL (L' := [(0, .ref l0), (1, .ref l1), (2, .int l2)]) rfl ?_
  refine xm_aload_n dX6_split_0 rfl ?_
  refine xb_if hf (fun hb hf => ?_) (fun _ q => nomatch q)
  obtain ⟨p1, ep1, hf⟩ := xbind hf
  refine xb_callV (As := []) (v0 := none) (τ0 := p1) dX6_split_1 (xc_X6_startWords _ _) xcl6 xw_715 xw_716 xw_717 hb rfl (Nat.le_of_ble_eq_true rfl) rfl (Nat.le_of_ble_eq_true rfl) (fun Q1 hq => m_X6_startWords (d := d + 2) ep1 (fun g hg => by subst hg; exact hq)) ?_
  refine xm_aload_n dX6_split_4 rfl ?_
  refine xm_iload_n dX6_split_5 rfl ?_
  refine xm_aload_n dX6_split_6 rfl ?_
  refine xb_alen dX6_split_7 (by decide) (by decide) hf (fun x2 ex2 hf => ?_)
  refine xm_min dX6_split_8 xw_719 xw_120 xw_7 xw_121 (Nat.le_of_ble_eq_true rfl) ?_
  refine xb_putI (a := l0) (c := 6) (k := 6) dX6_split_11 xcl6 (by decide) xw_339 rfl rfl hf (fun σ3 eσ3 hf => ?_)
  refine xm_iconst dX6_split_14 (v := 0) (by decide) ?_
  refine xb_topi hf (fun v4 ev4 hf => ?_)
  refine xm_istore_n dX6_split_15 (by decide) (xm_stL (L' := [(3, .int v4), (0, .ref l0), (1, .ref l1), (2, .int l2)]) rfl ?_)
  refine xm_iconst dX6_split_16 (v := 0) (by decide) ?_
  refine xb_topi hf (fun v5 ev5 hf => ?_)
  refine xm_istore dX6_split_17 (by decide) (xm_stL (L' := [(4, .int v5), (3, .int v4), (0, .ref l0), (1, .ref l1), (2, .int l2)]) rfl ?_)
  obtain ⟨o, h1, hf⟩ := xbind hf
  refine xm_sub [2, 3, 1, 0] rfl (L_X6_split_l19  h1 (fun g hg => ?_) (fun e he => ?_))
  · subst hg
    cases hf
    exact hR _ rfl
  · subst he
    rw [Sum.elim_inr] at hf
    have hf : f_X6_split_j90 e = some _ := hf
    exact xm_sub [] rfl (L_X6_split_j90 e hf hR)
-- Rankwise$Reader.nextWord()I
def f_X6_nextWord_s7 (σ : xM) (s : (Nat × Int32 × Int32)) : Option (Int32 ⊕ ((Int32) ⊕ (Nat × Int32 × Int32))) :=
  xlet s.1 (fun l0 => xlet s.2.1 (fun l1 => xlet s.2.2 (fun l2 => (gI σ l0 6 5).bind (fun x3 => (if x3 ≤ l2 then some (Sum.inr (Sum.inl l1)) else (gI σ l0 6 5).bind (fun x4 => (if x4 ≤ l1 then some (Sum.inr (Sum.inl l1)) else (gR σ l0 6 4).bind (fun x5 => (aI σ x5 15 l1).bind (fun x6 => (if x6 = (0 : Int32) then some (Sum.inr (Sum.inl l1)) else xlet (l1 + (1 : Int32)) (fun v7 => xlet (l2 + (1 : Int32)) (fun v8 => some (Sum.inr (Sum.inr (l0, v7, v8)))))))))))))))
set_option maxHeartbeats 4000000 in
set_option maxRecDepth 20000 in
theorem L_X6_nextWord_s7 {G : xG} {π : Nat → Nat} {d C Z : Nat} {Q : xQ} (σ : xM) (l0 : Nat) (l1 : Int32) (l2 : Int32) {x : (Int32 ⊕ ((Int32) ⊕ (Nat × Int32 × Int32)))} (hf : f_X6_nextWord_s7 σ (l0, l1, l2) = some x) (hR : ∀ g, x = Sum.inl (g) → Q (.inl (some (.int g))) (σ) π) (hE : ∀ e : (Int32), x = Sum.inr (Sum.inl e) → xMach G π J_X6_nextWord (d + 0) C Z 41 [(1, .int e)] [] σ Q) (hC : ∀ e : (Nat × Int32 × Int32), x = Sum.inr (Sum.inr e) → xMach G π J_X6_nextWord (d + 0) C Z 7 [(0, .ref e.1), (1, .int e.2.1), (2, .int e.2.2)] [] σ Q) : xMach G π J_X6_nextWord (d + 0) C Z 7 [(0, .ref l0), (1, .int l1), (2, .int l2)] [] σ Q := by
  have hf : (gI σ l0 6 5).bind (fun x3 => (if x3 ≤ l2 then some (Sum.inr (Sum.inl l1)) else (gI σ l0 6 5).bind (fun x4 => (if x4 ≤ l1 then some (Sum.inr (Sum.inl l1)) else (gR σ l0 6 4).bind (fun x5 => (aI σ x5 15 l1).bind (fun x6 => (if x6 = (0 : Int32) then some (Sum.inr (Sum.inl l1)) else xlet (l1 + (1 : Int32)) (fun v7 => xlet (l2 + (1 : Int32)) (fun v8 => some (Sum.inr (Sum.inr (l0, v7, v8)))))))))))) = some x := hf
  refine xm_iload_n dX6_nextWord_7 rfl ?_
  refine xm_aload_n dX6_nextWord_8 rfl ?_
  refine xb_getI (a := l0) (c := 6) (k := 5) dX6_nextWord_9 xcl6 (by decide) xw_337 rfl hf (fun x3 ex3 hf => ?_)
  refine xb_icmp_ge 41 dX6_nextWord_12 (by decide) hf (fun c hf => ?_) (fun c hf => ?_)
  · cases hf
    exact xm_sub [1] rfl (hE _ rfl)
  · refine xm_iload_n dX6_nextWord_15 rfl ?_
    refine xm_aload_n dX6_nextWord_16 rfl ?_
    refine xb_getI (a := l0) (c := 6) (k := 5) dX6_nextWord_17 xcl6 (by decide) xw_337 rfl hf (fun x4 ex4 hf => ?_)
    refine xb_icmp_ge 41 dX6_nextWord_20 (by decide) hf (fun c hf => ?_) (fun c hf => ?_)
    · cases hf
      exact xm_sub [1] rfl (hE _ rfl)
    · refine xm_aload_n dX6_nextWord_23 rfl ?_
      refine xb_getR (a := l0) (c := 6) (k := 4) dX6_nextWord_24 xcl6 (by decide) xw_335 rfl hf (fun x5 ex5 hf => ?_)
      refine xm_iload_n dX6_nextWord_27 rfl ?_
      refine xb_zald dX6_nextWord_28 hf (fun x6 ex6 hf => ?_)
      refine xb_if_eq 41 dX6_nextWord_29 (by decide) hf (fun c hf => ?_) (fun c hf => ?_)
      · cases hf
        exact xm_sub [1] rfl (hE _ rfl)
      · refine xb_iinc dX6_nextWord_32 rfl (by decide) (by decide) hf (fun v7 ev7 hf => xm_stL (L' := [(1, .int v7), (0, .ref l0), (2, .int l2)]) rfl ?_)
        refine xb_iinc dX6_nextWord_35 rfl (by decide) (by decide) hf (fun v8 ev8 hf => xm_stL (L' := [(2, .int v8), (1, .int v7), (0, .ref l0)]) rfl ?_)
        refine xm_goto 7 dX6_nextWord_38 (by decide) ?_
        cases hf
        exact xm_sub [2, 1, 0] rfl (hC _ rfl)
theorem L_X6_nextWord_l7 {G : xG} {π : Nat → Nat} {d C Z : Nat} {Q : xQ} (σ : xM) {s0 : (Nat × Int32 × Int32)} {x : (Int32 ⊕ (Int32))} (h1 : xloop (f_X6_nextWord_s7 σ) xF s0 = some x) (hR : ∀ g, x = Sum.inl g → Q (.inl (some (.int g))) (σ) π) (hE : ∀ e : (Int32), x = Sum.inr e → xMach G π J_X6_nextWord (d + 0) C Z 41 [(1, .int e)] [] σ Q) : xMach G π J_X6_nextWord (d + 0) C Z 7 [(0, .ref s0.1), (1, .int s0.2.1), (2, .int s0.2.2)] [] σ Q := by
  refine xloop_run (M := (fun s : (Nat × Int32 × Int32) => xMach G π J_X6_nextWord (d + 0) C Z 7 [(0, .ref s.1), (1, .int s.2.1), (2, .int s.2.2)] [] σ Q)) (r := x) ?_ xF _ h1
  intro s y hs hx
  exact L_X6_nextWord_s7 σ s.1 s.2.1 s.2.2 (x := y) hs (fun g hg => by subst hg; exact hR g hx) (fun e he => by subst he; exact hE e hx) (fun e he => by subst he; exact hx)
def f_X6_nextWord_j41 (σ : xM) (l1 : Int32) : Option Int32 :=
  some l1
set_option maxHeartbeats 4000000 in
set_option maxRecDepth 20000 in
theorem L_X6_nextWord_j41 {G : xG} {π : Nat → Nat} {d C Z : Nat} {Q : xQ} (σ : xM) (l1 : Int32) {x : Int32} (hf : f_X6_nextWord_j41 σ l1 = some x) (hR : ∀ g, x = g → Q (.inl (some (.int g))) (σ) π) : xMach G π J_X6_nextWord (d + 0) C Z 41 [(1, .int l1)] [] σ Q := by
  unfold f_X6_nextWord_j41 at hf
  refine xm_iload_n dX6_nextWord_41 rfl ?_
  cases hf
  exact xm_iret dX6_nextWord_42 rfl (hR _ rfl)
def f_X6_nextWord (σ : xM) (l0 : Nat) : Option Int32 :=
  (gI σ l0 6 7).bind (fun x1 => xlet (0 : Int32) (fun v2 => (xloop (f_X6_nextWord_s7 σ ) xF (l0, x1, v2)).bind (Sum.elim (fun g => some g) (fun e => f_X6_nextWord_j41 σ e))))
set_option maxHeartbeats 4000000 in
set_option maxRecDepth 20000 in
theorem m_X6_nextWord {G : xG} {π : Nat → Nat} {d C Z : Nat} {Q : xQ} {σ : xM} {l0 : Nat} {x : Int32} (hf : f_X6_nextWord σ l0 = some x) (hR : ∀ g, x = g → Q (.inl (some (.int g))) (σ) π) : xMach G π J_X6_nextWord (d + 0) C Z 0 (lv_args 0 [.ref l0]) [] σ Q := by
  unfold f_X6_nextWord at hf
  refine xm_stL (L' := [(0, .ref l0)]) rfl ?_
  refine xm_aload_n dX6_nextWord_0 rfl ?_
  refine xb_getI (a := l0) (c := 6) (k := 7) dX6_nextWord_1 xcl6 (by decide) xw_340 rfl hf (fun x1 ex1 hf => ?_)
  refine xm_istore_n dX6_nextWord_4 (by decide) (xm_stL (L' := [(1, .int x1), (0, .ref l0)]) rfl ?_)
  refine xm_iconst dX6_nextWord_5 (v := 0) (by decide) ?_
  refine xb_topi hf (fun v2 ev2 hf => ?_)
  refine xm_istore_n dX6_nextWord_6 (by decide) (xm_stL (L' := [(2, .int v2), (1, .int x1), (0, .ref l0)]) rfl ?_)
  obtain ⟨o, h1, hf⟩ := xbind hf
  refine xm_sub [2, 1, 0] rfl (L_X6_nextWord_l7 σ h1 (fun g hg => ?_) (fun e he => ?_))
  · subst hg
    cases hf
    exact hR _ rfl
  · subst he
    rw [Sum.elim_inr] at hf
    have hf : f_X6_nextWord_j41 σ e = some _ := hf
    exact xm_sub [0] rfl (L_X6_nextWord_j41 σ e hf hR)
-- Rankwise$Reader.pushOperand(I)Z
def f_X6_pushOperand (σ : xM) (l0 : Nat) (l1 : Int32) : Option (Int32 × xM) :=
  (gI σ l0 6 16).bind (fun x1 => (if x1 < (300 : Int32) then (gR σ l0 6 15).bind (fun x2 => (gI σ l0 6 16).bind (fun x3 => (wI σ x2 x3 l1).bind (fun σ4 => (gI σ4 l0 6 16).bind (fun x5 => (sI σ4 l0 6 16 (x5 + (1 : Int32))).bind (fun σ6 => some ((1 : Int32), σ6)))))) else some ((0 : Int32), σ)))
set_option maxHeartbeats 4000000 in
set_option maxRecDepth 20000 in
theorem m_X6_pushOperand {G : xG} {π : Nat → Nat} {d C Z : Nat} {Q : xQ} {σ : xM} {l0 : Nat} {l1 : Int32} {x : (Int32 × xM)} (hf : f_X6_pushOperand σ l0 l1 = some x) (hR : ∀ g, x = g → Q (.inl (some (.int g.1))) (g.2) π) : xMach G π J_X6_pushOperand (d + 0) C Z 0 (lv_args 0 [.ref l0, .int l1]) [] σ Q := by
  unfold f_X6_pushOperand at hf
  refine xm_stL (L' := [(0, .ref l0), (1, .int l1)]) rfl ?_
  refine xm_aload_n dX6_pushOperand_0 rfl ?_
  refine xb_getI (a := l0) (c := 6) (k := 16) dX6_pushOperand_1 xcl6 (by decide) xw_349 rfl hf (fun x1 ex1 hf => ?_)
  refine xm_sipush dX6_pushOperand_4 (v := 300) (by decide) ?_
  refine xb_icmp_lt 12 dX6_pushOperand_7 (by decide) hf (fun c hf => ?_) (fun c hf => ?_)
  · refine xm_aload_n dX6_pushOperand_12 rfl ?_
    refine xb_getR (a := l0) (c := 6) (k := 15) dX6_pushOperand_13 xcl6 (by decide) xw_348 rfl hf (fun x2 ex2 hf => ?_)
    refine xm_aload_n dX6_pushOperand_16 rfl ?_
    refine xb_getI (a := l0) (c := 6) (k := 16) dX6_pushOperand_17 xcl6 (by decide) xw_349 rfl hf (fun x3 ex3 hf => ?_)
    refine xm_iload_n dX6_pushOperand_20 rfl ?_
    refine xb_iast dX6_pushOperand_21 hf (fun σ4 eσ4 hf => ?_)
    refine xm_aload_n dX6_pushOperand_22 rfl ?_
    refine xm_dup dX6_pushOperand_23 rfl ?_
    refine xb_getI (a := l0) (c := 6) (k := 16) dX6_pushOperand_24 xcl6 (by decide) xw_349 rfl hf (fun x5 ex5 hf => ?_)
    refine xm_iconst dX6_pushOperand_27 (v := 1) (by decide) ?_
    refine xm_iadd dX6_pushOperand_28 ?_
    refine xb_putI (a := l0) (c := 6) (k := 16) dX6_pushOperand_29 xcl6 (by decide) xw_349 rfl rfl hf (fun σ6 eσ6 hf => ?_)
    refine xm_iconst dX6_pushOperand_32 (v := 1) (by decide) ?_
    cases hf
    exact xm_zret dX6_pushOperand_33 rfl rfl (hR _ rfl)
  · refine xm_iconst dX6_pushOperand_10 (v := 0) (by decide) ?_
    cases hf
    exact xm_zret dX6_pushOperand_11 rfl rfl (hR _ rfl)
-- Rankwise$Reader.addLeaf(II)Z
def f_X6_addLeaf_j32 (σ : xM) (s0 : Int32) : Option (Int32 × xM) :=
  (xz s0).bind (fun b3 => some (b3, σ))
set_option maxHeartbeats 4000000 in
set_option maxRecDepth 20000 in
theorem L_X6_addLeaf_j32 {G : xG} {π : Nat → Nat} {d C Z : Nat} {Q : xQ} (σ : xM) (s0 : Int32) {x : (Int32 × xM)} (hf : f_X6_addLeaf_j32 σ s0 = some x) (hR : ∀ g, x = g → Q (.inl (some (.int g.1))) (g.2) π) : xMach G π J_X6_addLeaf (d + 1) C Z 32 [] [.int s0] σ Q := by
  unfold f_X6_addLeaf_j32 at hf
  obtain ⟨b3, eb3, hf⟩ := xbind hf
  obtain ⟨rfl, hz⟩ := xz_of eb3
  cases hf
  exact xm_zret dX6_addLeaf_32 rfl hz (hR _ rfl)
def f_X6_addLeaf_j31 (σ : xM)  : Option (Int32 × xM) :=
  f_X6_addLeaf_j32 σ (0 : Int32)
set_option maxHeartbeats 4000000 in
set_option maxRecDepth 20000 in
theorem L_X6_addLeaf_j31 {G : xG} {π : Nat → Nat} {d C Z : Nat} {Q : xQ} (σ : xM)  {x : (Int32 × xM)} (hf : f_X6_addLeaf_j31 σ = some x) (hR : ∀ g, x = g → Q (.inl (some (.int g.1))) (g.2) π) : xMach G π J_X6_addLeaf (d + 1) C Z 31 [] [] σ Q := by
  unfold f_X6_addLeaf_j31 at hf
  refine xm_iconst dX6_addLeaf_31 (v := 0) (by decide) ?_
  exact xm_sub [] rfl (L_X6_addLeaf_j32 σ (0 : Int32) hf hR)
def f_X6_addLeaf (σ : xM) (l0 : Nat) (l1 : Int32) (l2 : Int32) : Option (Int32 × xM) :=
  (sZ σ l0 6 8 (0 : Int32)).bind (fun σ1 => (if xk σ1 l0 6 = true then (f_X6_pushOperand σ1 l0 (0 : Int32)).bind (fun p2 => (if p2.1 = (0 : Int32) then f_X6_addLeaf_j31 p2.2 else (gR p2.2 l0 6 17).bind (fun x4 => (if xk p2.2 x4 9 = true then (f_X9_add p2.2 x4 l1 l2 (-1 : Int32) (0 : Int32)).bind (fun p5 => (if p5.1 = (0 : Int32) then f_X6_addLeaf_j31 p5.2 else f_X6_addLeaf_j32 p5.2 (1 : Int32))) else none)))) else none))
set_option maxHeartbeats 4000000 in
set_option maxRecDepth 20000 in
theorem m_X6_addLeaf {G : xG} {π : Nat → Nat} {d C Z : Nat} {Q : xQ} {σ : xM} {l0 : Nat} {l1 : Int32} {l2 : Int32} {x : (Int32 × xM)} (hf : f_X6_addLeaf σ l0 l1 l2 = some x) (hR : ∀ g, x = g → Q (.inl (some (.int g.1))) (g.2) π) : xMach G π J_X6_addLeaf (d + 1) C Z 0 (lv_args 0 [.ref l0, .int l1, .int l2]) [] σ Q := by
  unfold f_X6_addLeaf at hf
  refine xm_stL (L' := [(0, .ref l0), (1, .int l1), (2, .int l2)]) rfl ?_
  refine xm_aload_n dX6_addLeaf_0 rfl ?_
  refine xm_iconst dX6_addLeaf_1 (v := 0) (by decide) ?_
  refine xb_putZ (a := l0) (c := 6) (k := 8) dX6_addLeaf_2 xcl6 (by decide) xw_341 rfl rfl hf (fun σ1 eσ1 hf => ?_)
  refine xm_aload_n dX6_addLeaf_5 rfl ?_
  refine xm_iconst dX6_addLeaf_6 (v := 0) (by decide) ?_
  refine xb_if hf (fun hb hf => ?_) (fun _ q => nomatch q)
  obtain ⟨p2, ep2, hf⟩ := xbind hf
  refine xb_callV (As := [.int (0 : Int32)]) (v0 := (some (.int p2.1))) (τ0 := p2.2) dX6_addLeaf_7 (xc_X6_pushOperand _ _) xcl6 xw_759 xw_761 xs_8 hb rfl (Nat.le_of_ble_eq_true rfl) rfl (Nat.le_of_ble_eq_true rfl) (fun Q1 hq => m_X6_pushOperand (d := d + 0) ep2 (fun g hg => by subst hg; exact hq)) ?_
  refine xb_if_eq 31 dX6_addLeaf_10 (by decide) hf (fun c hf => ?_) (fun c hf => ?_)
  · exact xm_sub [] rfl (L_X6_addLeaf_j31 p2.2 hf hR)
  · refine xm_aload_n dX6_addLeaf_13 rfl ?_
    refine xb_getR (a := l0) (c := 6) (k := 17) dX6_addLeaf_14 xcl6 (by decide) xw_350 rfl hf (fun x4 ex4 hf => ?_)
    refine xm_iload_n dX6_addLeaf_17 rfl ?_
    refine xm_iload_n dX6_addLeaf_18 rfl ?_
    refine xm_iconst dX6_addLeaf_19 (v := -1) (by decide) ?_
    refine xm_iconst dX6_addLeaf_20 (v := 0) (by decide) ?_
    refine xb_if hf (fun hb hf => ?_) (fun _ q => nomatch q)
    obtain ⟨p5, ep5, hf⟩ := xbind hf
    refine xb_callV (As := [.int l1, .int l2, .int (-1 : Int32), .int (0 : Int32)]) (v0 := (some (.int p5.1))) (τ0 := p5.2) dX6_addLeaf_21 (xc_X9_add _ _) xcl9 xw_763 xw_764 xw_765 hb rfl (Nat.le_of_ble_eq_true rfl) rfl (Nat.le_of_ble_eq_true rfl) (fun Q1 hq => m_X9_add (d := d + 0) ep5 (fun g hg => by subst hg; exact hq)) ?_
    refine xb_if_eq 31 dX6_addLeaf_24 (by decide) hf (fun c hf => ?_) (fun c hf => ?_)
    · exact xm_sub [] rfl (L_X6_addLeaf_j31 p5.2 hf hR)
    · refine xm_iconst dX6_addLeaf_27 (v := 1) (by decide) ?_
      refine xm_goto 32 dX6_addLeaf_28 (by decide) ?_
      exact xm_sub [] rfl (L_X6_addLeaf_j32 p5.2 (1 : Int32) hf hR)
-- Rankwise$Reader.kindAt(I)I
def f_X6_kindAt_j23 (σ : xM) (s0 : Int32) : Option Int32 :=
  some s0
set_option maxHeartbeats 4000000 in
set_option maxRecDepth 20000 in
theorem L_X6_kindAt_j23 {G : xG} {π : Nat → Nat} {d C Z : Nat} {Q : xQ} (σ : xM) (s0 : Int32) {x : Int32} (hf : f_X6_kindAt_j23 σ s0 = some x) (hR : ∀ g, x = g → Q (.inl (some (.int g))) (σ) π) : xMach G π J_X6_kindAt (d + 0) C Z 23 [] [.int s0] σ Q := by
  unfold f_X6_kindAt_j23 at hf
  cases hf
  exact xm_iret dX6_kindAt_23 rfl (hR _ rfl)
def f_X6_kindAt_j21 (σ : xM)  : Option Int32 :=
  f_X6_kindAt_j23 σ (9 : Int32)
set_option maxHeartbeats 4000000 in
set_option maxRecDepth 20000 in
theorem L_X6_kindAt_j21 {G : xG} {π : Nat → Nat} {d C Z : Nat} {Q : xQ} (σ : xM)  {x : Int32} (hf : f_X6_kindAt_j21 σ = some x) (hR : ∀ g, x = g → Q (.inl (some (.int g))) (σ) π) : xMach G π J_X6_kindAt (d + 0) C Z 21 [] [] σ Q := by
  unfold f_X6_kindAt_j21 at hf
  refine xm_bipush dX6_kindAt_21 (v := 9) (by decide) ?_
  exact xm_sub [] rfl (L_X6_kindAt_j23 σ (9 : Int32) hf hR)
def f_X6_kindAt (σ : xM) (l0 : Nat) (l1 : Int32) : Option Int32 :=
  (if l1 < (0 : Int32) then f_X6_kindAt_j21 σ else (gI σ l0 6 5).bind (fun x1 => (if x1 ≤ l1 then f_X6_kindAt_j21 σ else (gR σ l0 6 1).bind (fun x2 => (aI σ x2 14 l1).bind (fun x3 => f_X6_kindAt_j23 σ x3)))))
set_option maxHeartbeats 4000000 in
set_option maxRecDepth 20000 in
theorem m_X6_kindAt {G : xG} {π : Nat → Nat} {d C Z : Nat} {Q : xQ} {σ : xM} {l0 : Nat} {l1 : Int32} {x : Int32} (hf : f_X6_kindAt σ l0 l1 = some x) (hR : ∀ g, x = g → Q (.inl (some (.int g))) (σ) π) : xMach G π J_X6_kindAt (d + 0) C Z 0 (lv_args 0 [.ref l0, .int l1]) [] σ Q := by
  unfold f_X6_kindAt at hf
  refine xm_stL (L' := [(0, .ref l0), (1, .int l1)]) rfl ?_
  refine xm_iload_n dX6_kindAt_0 rfl ?_
  refine xb_if_lt 21 dX6_kindAt_1 (by decide) hf (fun c hf => ?_) (fun c hf => ?_)
  · exact xm_sub [] rfl (L_X6_kindAt_j21 σ hf hR)
  · refine xm_iload_n dX6_kindAt_4 rfl ?_
    refine xm_aload_n dX6_kindAt_5 rfl ?_
    refine xb_getI (a := l0) (c := 6) (k := 5) dX6_kindAt_6 xcl6 (by decide) xw_337 rfl hf (fun x1 ex1 hf => ?_)
    refine xb_icmp_ge 21 dX6_kindAt_9 (by decide) hf (fun c hf => ?_) (fun c hf => ?_)
    · exact xm_sub [] rfl (L_X6_kindAt_j21 σ hf hR)
    · refine xm_aload_n dX6_kindAt_12 rfl ?_
      refine xb_getR (a := l0) (c := 6) (k := 1) dX6_kindAt_13 xcl6 (by decide) xw_330 rfl hf (fun x2 ex2 hf => ?_)
      refine xm_iload_n dX6_kindAt_16 rfl ?_
      refine xb_iald dX6_kindAt_17 hf (fun x3 ex3 hf => ?_)
      refine xm_goto 23 dX6_kindAt_18 (by decide) ?_
      exact xm_sub [] rfl (L_X6_kindAt_j23 σ x3 hf hR)
-- Rankwise$Reader.hold(IIIII)Z
def f_X6_hold (σ : xM) (l0 : Nat) (l1 : Int32) (l2 : Int32) (l3 : Int32) (l4 : Int32) (l5 : Int32) : Option (Int32 × xM) :=
  (gI σ l0 6 14).bind (fun x1 => (if x1 < (300 : Int32) then (gR σ l0 6 9).bind (fun x2 => (gI σ l0 6 14).bind (fun x3 => (wI σ x2 x3 l1).bind (fun σ4 => (gR σ4 l0 6 10).bind (fun x5 => (gI σ4 l0 6 14).bind (fun x6 => (wI σ4 x5 x6 l2).bind (fun σ7 => (gR σ7 l0 6 11).bind (fun x8 => (gI σ7 l0 6 14).bind (fun x9 => (wI σ7 x8 x9 l3).bind (fun σ10 => (gR σ10 l0 6 12).bind (fun x11 => (gI σ10 l0 6 14).bind (fun x12 => (wI σ10 x11 x12 l4).bind (fun σ13 => (gR σ13 l0 6 13).bind (fun x14 => (gI σ13 l0 6 14).bind (fun x15 => (wI σ13 x14 x15 l5).bind (fun σ16 => (gI σ16 l0 6 14).bind (fun x17 => (sI σ16 l0 6 14 (x17 + (1 : Int32))).bind (fun σ18 => some ((1 : Int32), σ18)))))))))))))))))) else some ((0 : Int32), σ)))
set_option maxHeartbeats 4000000 in
set_option maxRecDepth 20000 in
theorem m_X6_hold {G : xG} {π : Nat → Nat} {d C Z : Nat} {Q : xQ} {σ : xM} {l0 : Nat} {l1 : Int32} {l2 : Int32} {l3 : Int32} {l4 : Int32} {l5 : Int32} {x : (Int32 × xM)} (hf : f_X6_hold σ l0 l1 l2 l3 l4 l5 = some x) (hR : ∀ g, x = g → Q (.inl (some (.int g.1))) (g.2) π) : xMach G π J_X6_hold (d + 0) C Z 0 (lv_args 0 [.ref l0, .int l1, .int l2, .int l3, .int l4, .int l5]) [] σ Q := by
  unfold f_X6_hold at hf
  refine xm_stL (L' := [(0, .ref l0), (1, .int l1), (2, .int l2), (3, .int l3), (4, .int l4), (5, .int l5)]) rfl ?_
  refine xm_aload_n dX6_hold_0 rfl ?_
  refine xb_getI (a := l0) (c := 6) (k := 14) dX6_hold_1 xcl6 (by decide) xw_347 rfl hf (fun x1 ex1 hf => ?_)
  refine xm_sipush dX6_hold_4 (v := 300) (by decide) ?_
  refine xb_icmp_lt 12 dX6_hold_7 (by decide) hf (fun c hf => ?_) (fun c hf => ?_)
  · refine xm_aload_n dX6_hold_12 rfl ?_
    refine xb_getR (a := l0) (c := 6) (k := 9) dX6_hold_13 xcl6 (by decide) xw_342 rfl hf (fun x2 ex2 hf => ?_)
    refine xm_aload_n dX6_hold_16 rfl ?_
    refine xb_getI (a := l0) (c := 6) (k := 14) dX6_hold_17 xcl6 (by decide) xw_347 rfl hf (fun x3 ex3 hf => ?_)
    refine xm_iload_n dX6_hold_20 rfl ?_
    refine xb_iast dX6_hold_21 hf (fun σ4 eσ4 hf => ?_)
    refine xm_aload_n dX6_hold_22 rfl ?_
    refine xb_getR (a := l0) (c := 6) (k := 10) dX6_hold_23 xcl6 (by decide) xw_343 rfl hf (fun x5 ex5 hf => ?_)
    refine xm_aload_n dX6_hold_26 rfl ?_
    refine xb_getI (a := l0) (c := 6) (k := 14) dX6_hold_27 xcl6 (by decide) xw_347 rfl hf (fun x6 ex6 hf => ?_)
    refine xm_iload_n dX6_hold_30 rfl ?_
    refine xb_iast dX6_hold_31 hf (fun σ7 eσ7 hf => ?_)
    refine xm_aload_n dX6_hold_32 rfl ?_
    refine xb_getR (a := l0) (c := 6) (k := 11) dX6_hold_33 xcl6 (by decide) xw_344 rfl hf (fun x8 ex8 hf => ?_)
    refine xm_aload_n dX6_hold_36 rfl ?_
    refine xb_getI (a := l0) (c := 6) (k := 14) dX6_hold_37 xcl6 (by decide) xw_347 rfl hf (fun x9 ex9 hf => ?_)
    refine xm_iload_n dX6_hold_40 rfl ?_
    refine xb_iast dX6_hold_41 hf (fun σ10 eσ10 hf => ?_)
    refine xm_aload_n dX6_hold_42 rfl ?_
    refine xb_getR (a := l0) (c := 6) (k := 12) dX6_hold_43 xcl6 (by decide) xw_345 rfl hf (fun x11 ex11 hf => ?_)
    refine xm_aload_n dX6_hold_46 rfl ?_
    refine xb_getI (a := l0) (c := 6) (k := 14) dX6_hold_47 xcl6 (by decide) xw_347 rfl hf (fun x12 ex12 hf => ?_)
    refine xm_iload dX6_hold_50 rfl ?_
    refine xb_iast dX6_hold_52 hf (fun σ13 eσ13 hf => ?_)
    refine xm_aload_n dX6_hold_53 rfl ?_
    refine xb_getR (a := l0) (c := 6) (k := 13) dX6_hold_54 xcl6 (by decide) xw_346 rfl hf (fun x14 ex14 hf => ?_)
    refine xm_aload_n dX6_hold_57 rfl ?_
    refine xb_getI (a := l0) (c := 6) (k := 14) dX6_hold_58 xcl6 (by decide) xw_347 rfl hf (fun x15 ex15 hf => ?_)
    refine xm_iload dX6_hold_61 rfl ?_
    refine xb_iast dX6_hold_63 hf (fun σ16 eσ16 hf => ?_)
    refine xm_aload_n dX6_hold_64 rfl ?_
    refine xm_dup dX6_hold_65 rfl ?_
    refine xb_getI (a := l0) (c := 6) (k := 14) dX6_hold_66 xcl6 (by decide) xw_347 rfl hf (fun x17 ex17 hf => ?_)
    refine xm_iconst dX6_hold_69 (v := 1) (by decide) ?_
    refine xm_iadd dX6_hold_70 ?_
    refine xb_putI (a := l0) (c := 6) (k := 14) dX6_hold_71 xcl6 (by decide) xw_347 rfl rfl hf (fun σ18 eσ18 hf => ?_)
    refine xm_iconst dX6_hold_74 (v := 1) (by decide) ?_
    cases hf
    exact xm_zret dX6_hold_75 rfl rfl (hR _ rfl)
  · refine xm_iconst dX6_hold_10 (v := 0) (by decide) ?_
    cases hf
    exact xm_zret dX6_hold_11 rfl rfl (hR _ rfl)
-- Rankwise$Reader.takeOperand(I)Z
def f_X6_takeOperand_j140 (σ : xM)  : Option (Int32 × xM) :=
  some ((0 : Int32), σ)
set_option maxHeartbeats 4000000 in
set_option maxRecDepth 20000 in
theorem L_X6_takeOperand_j140 {G : xG} {π : Nat → Nat} {d C Z : Nat} {Q : xQ} (σ : xM)  {x : (Int32 × xM)} (hf : f_X6_takeOperand_j140 σ = some x) (hR : ∀ g, x = g → Q (.inl (some (.int g.1))) (g.2) π) : xMach G π J_X6_takeOperand (d + 2) C Z 140 [] [] σ Q := by
  unfold f_X6_takeOperand_j140 at hf
  refine xm_iconst dX6_takeOperand_140 (v := 0) (by decide) ?_
  cases hf
  exact xm_zret dX6_takeOperand_141 rfl rfl (hR _ rfl)
def f_X6_takeOperand_j139 (σ : xM) (s0 : Int32) : Option (Int32 × xM) :=
  (xz s0).bind (fun b16 => some (b16, σ))
set_option maxHeartbeats 4000000 in
set_option maxRecDepth 20000 in
theorem L_X6_takeOperand_j139 {G : xG} {π : Nat → Nat} {d C Z : Nat} {Q : xQ} (σ : xM) (s0 : Int32) {x : (Int32 × xM)} (hf : f_X6_takeOperand_j139 σ s0 = some x) (hR : ∀ g, x = g → Q (.inl (some (.int g.1))) (g.2) π) : xMach G π J_X6_takeOperand (d + 2) C Z 139 [] [.int s0] σ Q := by
  unfold f_X6_takeOperand_j139 at hf
  obtain ⟨b16, eb16, hf⟩ := xbind hf
  obtain ⟨rfl, hz⟩ := xz_of eb16
  cases hf
  exact xm_zret dX6_takeOperand_139 rfl hz (hR _ rfl)
def f_X6_takeOperand_j138 (σ : xM)  : Option (Int32 × xM) :=
  f_X6_takeOperand_j139 σ (0 : Int32)
set_option maxHeartbeats 4000000 in
set_option maxRecDepth 20000 in
theorem L_X6_takeOperand_j138 {G : xG} {π : Nat → Nat} {d C Z : Nat} {Q : xQ} (σ : xM)  {x : (Int32 × xM)} (hf : f_X6_takeOperand_j138 σ = some x) (hR : ∀ g, x = g → Q (.inl (some (.int g.1))) (g.2) π) : xMach G π J_X6_takeOperand (d + 2) C Z 138 [] [] σ Q := by
  unfold f_X6_takeOperand_j138 at hf
  refine xm_iconst dX6_takeOperand_138 (v := 0) (by decide) ?_
  exact xm_sub [] rfl (L_X6_takeOperand_j139 σ (0 : Int32) hf hR)
def f_X6_takeOperand (σ : xM) (l0 : Nat) (l1 : Int32) : Option (Int32 × xM) :=
  (gR σ l0 6 2).bind (fun x1 => (aI σ x1 14 l1).bind (fun x2 => (gR σ l0 6 1).bind (fun x3 => (aI σ x3 14 l1).bind (fun x4 => (if x4 = (0 : Int32) then (if xk σ l0 6 = true then (f_X6_addLeaf σ l0 (0 : Int32) x2).bind (fun p5 => (xz p5.1).bind (fun b6 => some (b6, p5.2))) else none) else (if x4 = (1 : Int32) then (if xk σ l0 6 = true then (f_X6_nextWord σ l0).bind (fun p7 => (if xk σ l0 6 = true then (f_X6_kindAt σ l0 p7).bind (fun p8 => (if p8 = (4 : Int32) then (sI σ l0 6 7 (p7 + (1 : Int32))).bind (fun σ9 => (if xk σ9 l0 6 = true then (f_X6_hold σ9 l0 (2 : Int32) x2 (-1 : Int32) (0 : Int32) (1 : Int32)).bind (fun p10 => (xz p10.1).bind (fun b11 => some (b11, p10.2))) else none)) else (if xk σ l0 6 = true then (f_X6_addLeaf σ l0 (1 : Int32) x2).bind (fun p12 => (xz p12.1).bind (fun b13 => some (b13, p12.2))) else none))) else none)) else none) else (if x4 = (2 : Int32) then f_X6_takeOperand_j140 σ else (if x4 = (3 : Int32) then (gR σ l0 6 0).bind (fun x14 => (if xk σ x14 1 = true then (f_X1_rank σ x14 x2 (0 : Int32)).bind (fun p15 => (if p15 ≤ (0 : Int32) then f_X6_takeOperand_j138 σ else (if xk σ l0 6 = true then (f_X6_hold σ l0 (3 : Int32) x2 (0 : Int32) (p15 + (1 : Int32)) (0 : Int32)).bind (fun p17 => (if p17.1 = (0 : Int32) then f_X6_takeOperand_j138 p17.2 else f_X6_takeOperand_j139 p17.2 (1 : Int32))) else none))) else none)) else (if x4 = (4 : Int32) then (if xk σ l0 6 = true then (f_X6_hold σ l0 (4 : Int32) x2 (-1 : Int32) (0 : Int32) (0 : Int32)).bind (fun p18 => (xz p18.1).bind (fun b19 => some (b19, p18.2))) else none) else f_X6_takeOperand_j140 σ)))))))))
set_option maxHeartbeats 4000000 in
set_option maxRecDepth 20000 in
theorem m_X6_takeOperand {G : xG} {π : Nat → Nat} {d C Z : Nat} {Q : xQ} {σ : xM} {l0 : Nat} {l1 : Int32} {x : (Int32 × xM)} (hf : f_X6_takeOperand σ l0 l1 = some x) (hR : ∀ g, x = g → Q (.inl (some (.int g.1))) (g.2) π) : xMach G π J_X6_takeOperand (d + 2) C Z 0 (lv_args 0 [.ref l0, .int l1]) [] σ Q := by
  unfold f_X6_takeOperand at hf
  refine xm_stL (L' := [(0, .ref l0), (1, .int l1)]) rfl ?_
  refine xm_aload_n dX6_takeOperand_0 rfl ?_
  refine xb_getR (a := l0) (c := 6) (k := 2) dX6_takeOperand_1 xcl6 (by decide) xw_332 rfl hf (fun x1 ex1 hf => ?_)
  refine xm_iload_n dX6_takeOperand_4 rfl ?_
  refine xb_iald dX6_takeOperand_5 hf (fun x2 ex2 hf => ?_)
  refine xm_istore_n dX6_takeOperand_6 (by decide) (xm_stL (L' := [(2, .int x2), (0, .ref l0), (1, .int l1)]) rfl ?_)
  refine xm_aload_n dX6_takeOperand_7 rfl ?_
  refine xb_getR (a := l0) (c := 6) (k := 1) dX6_takeOperand_8 xcl6 (by decide) xw_330 rfl hf (fun x3 ex3 hf => ?_)
  refine xm_iload_n dX6_takeOperand_11 rfl ?_
  refine xb_iald dX6_takeOperand_12 hf (fun x4 ex4 hf => ?_)
  refine xb_if hf (fun c hf => ?_) (fun n0 hf => ?_)
  · refine xm_tableIn 48 dX6_takeOperand_13 (by rw [c]; decide) (by rw [c]; decide) (by rw [c]; rfl) (by decide) ?_
    refine xm_aload_n dX6_takeOperand_48 rfl ?_
    refine xm_iconst dX6_takeOperand_49 (v := 0) (by decide) ?_
    refine xm_iload_n dX6_takeOperand_50 rfl ?_
    refine xb_if hf (fun hb hf => ?_) (fun _ q => nomatch q)
    obtain ⟨p5, ep5, hf⟩ := xbind hf
    refine xb_callV (As := [.int (0 : Int32), .int x2]) (v0 := (some (.int p5.1))) (τ0 := p5.2) dX6_takeOperand_51 (xc_X6_addLeaf _ _) xcl6 xw_755 xw_757 xs_7 hb rfl (Nat.le_of_ble_eq_true rfl) rfl (Nat.le_of_ble_eq_true rfl) (fun Q1 hq => m_X6_addLeaf (d := d + 0) ep5 (fun g hg => by subst hg; exact hq)) ?_
    obtain ⟨b6, eb6, hf⟩ := xbind hf
    obtain ⟨rfl, hz⟩ := xz_of eb6
    cases hf
    exact xm_zret dX6_takeOperand_54 rfl hz (hR _ rfl)
  refine xb_if hf (fun c hf => ?_) (fun n1 hf => ?_)
  · refine xm_tableIn 55 dX6_takeOperand_13 (by rw [c]; decide) (by rw [c]; decide) (by rw [c]; rfl) (by decide) ?_
    refine xm_aload_n dX6_takeOperand_55 rfl ?_
    refine xb_if hf (fun hb hf => ?_) (fun _ q => nomatch q)
    obtain ⟨p7, ep7, hf⟩ := xbind hf
    refine xb_callV (As := []) (v0 := (some (.int p7))) (τ0 := σ) dX6_takeOperand_56 (xc_X6_nextWord _ _) xcl6 xw_747 xw_749 xs_5 hb rfl (Nat.le_of_ble_eq_true rfl) rfl (Nat.le_of_ble_eq_true rfl) (fun Q1 hq => m_X6_nextWord (d := d + 1) ep7 (fun g hg => by subst hg; exact hq)) ?_
    refine xm_istore_n dX6_takeOperand_59 (by decide) (xm_stL (L' := [(3, .int p7), (2, .int x2), (0, .ref l0), (1, .int l1)]) rfl ?_)
    refine xm_aload_n dX6_takeOperand_60 rfl ?_
    refine xm_iload_n dX6_takeOperand_61 rfl ?_
    refine xb_if hf (fun hb hf => ?_) (fun _ q => nomatch q)
    obtain ⟨p8, ep8, hf⟩ := xbind hf
    refine xb_callV (As := [.int p7]) (v0 := (some (.int p8))) (τ0 := σ) dX6_takeOperand_62 (xc_X6_kindAt _ _) xcl6 xw_767 xw_769 xs_9 hb rfl (Nat.le_of_ble_eq_true rfl) rfl (Nat.le_of_ble_eq_true rfl) (fun Q1 hq => m_X6_kindAt (d := d + 1) ep8 (fun g hg => by subst hg; exact hq)) ?_
    refine xm_iconst dX6_takeOperand_65 (v := 4) (by decide) ?_
    refine xb_icmp_eq 76 dX6_takeOperand_66 (by decide) hf (fun c hf => ?_) (fun c hf => ?_)
    · refine xm_aload_n dX6_takeOperand_76 rfl ?_
      refine xm_iload_n dX6_takeOperand_77 rfl ?_
      refine xm_iconst dX6_takeOperand_78 (v := 1) (by decide) ?_
      refine xm_iadd dX6_takeOperand_79 ?_
      refine xb_putI (a := l0) (c := 6) (k := 7) dX6_takeOperand_80 xcl6 (by decide) xw_340 rfl rfl hf (fun σ9 eσ9 hf => ?_)
      refine xm_aload_n dX6_takeOperand_83 rfl ?_
      refine xm_iconst dX6_takeOperand_84 (v := 2) (by decide) ?_
      refine xm_iload_n dX6_takeOperand_85 rfl ?_
      refine xm_iconst dX6_takeOperand_86 (v := -1) (by decide) ?_
      refine xm_iconst dX6_takeOperand_87 (v := 0) (by decide) ?_
      refine xm_iconst dX6_takeOperand_88 (v := 1) (by decide) ?_
      refine xb_if hf (fun hb hf => ?_) (fun _ q => nomatch q)
      obtain ⟨p10, ep10, hf⟩ := xbind hf
      refine xb_callV (As := [.int (2 : Int32), .int x2, .int (-1 : Int32), .int (0 : Int32), .int (1 : Int32)]) (v0 := (some (.int p10.1))) (τ0 := p10.2) dX6_takeOperand_89 (xc_X6_hold _ _) xcl6 xw_771 xw_773 xs_10 hb rfl (Nat.le_of_ble_eq_true rfl) rfl (Nat.le_of_ble_eq_true rfl) (fun Q1 hq => m_X6_hold (d := d + 1) ep10 (fun g hg => by subst hg; exact hq)) ?_
      obtain ⟨b11, eb11, hf⟩ := xbind hf
      obtain ⟨rfl, hz⟩ := xz_of eb11
      cases hf
      exact xm_zret dX6_takeOperand_92 rfl hz (hR _ rfl)
    · refine xm_aload_n dX6_takeOperand_69 rfl ?_
      refine xm_iconst dX6_takeOperand_70 (v := 1) (by decide) ?_
      refine xm_iload_n dX6_takeOperand_71 rfl ?_
      refine xb_if hf (fun hb hf => ?_) (fun _ q => nomatch q)
      obtain ⟨p12, ep12, hf⟩ := xbind hf
      refine xb_callV (As := [.int (1 : Int32), .int x2]) (v0 := (some (.int p12.1))) (τ0 := p12.2) dX6_takeOperand_72 (xc_X6_addLeaf _ _) xcl6 xw_755 xw_757 xs_7 hb rfl (Nat.le_of_ble_eq_true rfl) rfl (Nat.le_of_ble_eq_true rfl) (fun Q1 hq => m_X6_addLeaf (d := d + 0) ep12 (fun g hg => by subst hg; exact hq)) ?_
      obtain ⟨b13, eb13, hf⟩ := xbind hf
      obtain ⟨rfl, hz⟩ := xz_of eb13
      cases hf
      exact xm_zret dX6_takeOperand_75 rfl hz (hR _ rfl)
  refine xb_if hf (fun c hf => ?_) (fun n2 hf => ?_)
  · refine xm_tableIn 140 dX6_takeOperand_13 (by rw [c]; decide) (by rw [c]; decide) (by rw [c]; rfl) (by decide) ?_
    exact xm_sub [] rfl (L_X6_takeOperand_j140 σ hf hR)
  refine xb_if hf (fun c hf => ?_) (fun n3 hf => ?_)
  · refine xm_tableIn 103 dX6_takeOperand_13 (by rw [c]; decide) (by rw [c]; decide) (by rw [c]; rfl) (by decide) ?_
    refine xm_aload_n dX6_takeOperand_103 rfl ?_
    refine xb_getR (a := l0) (c := 6) (k := 0) dX6_takeOperand_104 xcl6 (by decide) xw_329 rfl hf (fun x14 ex14 hf => ?_)
    refine xm_iload_n dX6_takeOperand_107 rfl ?_
    refine xm_iconst dX6_takeOperand_108 (v := 0) (by decide) ?_
    refine xb_if hf (fun hb hf => ?_) (fun _ q => nomatch q)
    obtain ⟨p15, ep15, hf⟩ := xbind hf
    refine xb_callV (As := [.int x2, .int (0 : Int32)]) (v0 := (some (.int p15))) (τ0 := σ) dX6_takeOperand_109 (xc_X1_rank _ _) xcl1 xw_775 xw_776 xw_777 hb rfl (Nat.le_of_ble_eq_true rfl) rfl (Nat.le_of_ble_eq_true rfl) (fun Q1 hq => m_X1_rank (d := d + 0) ep15 (fun g hg => by subst hg; exact hq)) ?_
    refine xm_istore dX6_takeOperand_112 (by decide) (xm_stL (L' := [(4, .int p15), (2, .int x2), (0, .ref l0), (1, .int l1)]) rfl ?_)
    refine xm_iload dX6_takeOperand_114 rfl ?_
    refine xb_if_le 138 dX6_takeOperand_116 (by decide) hf (fun c hf => ?_) (fun c hf => ?_)
    · exact xm_sub [] rfl (L_X6_takeOperand_j138 σ hf hR)
    · refine xm_aload_n dX6_takeOperand_119 rfl ?_
      refine xm_iconst dX6_takeOperand_120 (v := 3) (by decide) ?_
      refine xm_iload_n dX6_takeOperand_121 rfl ?_
      refine xm_iconst dX6_takeOperand_122 (v := 0) (by decide) ?_
      refine xm_iload dX6_takeOperand_123 rfl ?_
      refine xm_iconst dX6_takeOperand_125 (v := 1) (by decide) ?_
      refine xm_iadd dX6_takeOperand_126 ?_
      refine xm_iconst dX6_takeOperand_127 (v := 0) (by decide) ?_
      refine xb_if hf (fun hb hf => ?_) (fun _ q => nomatch q)
      obtain ⟨p17, ep17, hf⟩ := xbind hf
      refine xb_callV (As := [.int (3 : Int32), .int x2, .int (0 : Int32), .int (p15 + (1 : Int32)), .int (0 : Int32)]) (v0 := (some (.int p17.1))) (τ0 := p17.2) dX6_takeOperand_128 (xc_X6_hold _ _) xcl6 xw_771 xw_773 xs_10 hb rfl (Nat.le_of_ble_eq_true rfl) rfl (Nat.le_of_ble_eq_true rfl) (fun Q1 hq => m_X6_hold (d := d + 1) ep17 (fun g hg => by subst hg; exact hq)) ?_
      refine xb_if_eq 138 dX6_takeOperand_131 (by decide) hf (fun c hf => ?_) (fun c hf => ?_)
      · exact xm_sub [] rfl (L_X6_takeOperand_j138 p17.2 hf hR)
      · refine xm_iconst dX6_takeOperand_134 (v := 1) (by decide) ?_
        refine xm_goto 139 dX6_takeOperand_135 (by decide) ?_
        exact xm_sub [] rfl (L_X6_takeOperand_j139 p17.2 (1 : Int32) hf hR)
  refine xb_if hf (fun c hf => ?_) (fun n4 hf => ?_)
  · refine xm_tableIn 93 dX6_takeOperand_13 (by rw [c]; decide) (by rw [c]; decide) (by rw [c]; rfl) (by decide) ?_
    refine xm_aload_n dX6_takeOperand_93 rfl ?_
    refine xm_iconst dX6_takeOperand_94 (v := 4) (by decide) ?_
    refine xm_iload_n dX6_takeOperand_95 rfl ?_
    refine xm_iconst dX6_takeOperand_96 (v := -1) (by decide) ?_
    refine xm_iconst dX6_takeOperand_97 (v := 0) (by decide) ?_
    refine xm_iconst dX6_takeOperand_98 (v := 0) (by decide) ?_
    refine xb_if hf (fun hb hf => ?_) (fun _ q => nomatch q)
    obtain ⟨p18, ep18, hf⟩ := xbind hf
    refine xb_callV (As := [.int (4 : Int32), .int x2, .int (-1 : Int32), .int (0 : Int32), .int (0 : Int32)]) (v0 := (some (.int p18.1))) (τ0 := p18.2) dX6_takeOperand_99 (xc_X6_hold _ _) xcl6 xw_771 xw_773 xs_10 hb rfl (Nat.le_of_ble_eq_true rfl) rfl (Nat.le_of_ble_eq_true rfl) (fun Q1 hq => m_X6_hold (d := d + 1) ep18 (fun g hg => by subst hg; exact hq)) ?_
    obtain ⟨b19, eb19, hf⟩ := xbind hf
    obtain ⟨rfl, hz⟩ := xz_of eb19
    cases hf
    exact xm_zret dX6_takeOperand_102 rfl hz (hR _ rfl)
  refine xm_tableOut 140 dX6_takeOperand_13 (by have q0 := lv_neT (a := 0) n0 (by decide); have q1 := lv_neT (a := 1) n1 (by decide); have q2 := lv_neT (a := 2) n2 (by decide); have q3 := lv_neT (a := 3) n3 (by decide); have q4 := lv_neT (a := 4) n4 (by decide); omega) (by decide) ?_
  exact xm_sub [] rfl (L_X6_takeOperand_j140 σ hf hR)
-- Rankwise$Reader.reduce(I)V
def f_X6_reduce_j36 (σ : xM) (l0 : Nat) (l1 : Int32) (l2 : Int32) (s0 : Int32) : Option (xM ⊕ ((xM) ⊕ (Nat × Int32 × Int32 × xM))) :=
  (gR σ l0 6 17).bind (fun x7 => (gR σ l0 6 10).bind (fun x8 => (aI σ x8 14 l2).bind (fun x9 => (gR σ l0 6 11).bind (fun x10 => (aI σ x10 14 l2).bind (fun x11 => (if xk σ x7 9 = true then (f_X9_add σ x7 (3 : Int32) x9 x11 s0).bind (fun p12 => (gI p12.2 l0 6 16).bind (fun x13 => (sI p12.2 l0 6 16 (if (x13 - s0) < (0 : Int32) then (0 : Int32) else (x13 - s0))).bind (fun σ14 => (gR σ14 l0 6 13).bind (fun x15 => (aI σ14 x15 14 l2).bind (fun x16 => (if xk σ14 l0 6 = true then (f_X6_pushOperand σ14 l0 x16).bind (fun p17 => (sI p17.2 l0 6 14 l2).bind (fun σ18 => xlet (l2 + (-1 : Int32)) (fun v19 => some (Sum.inr (Sum.inr (l0, l1, v19, σ18)))))) else none)))))) else none))))))
set_option maxHeartbeats 4000000 in
set_option maxRecDepth 20000 in
theorem L_X6_reduce_j36 {G : xG} {π : Nat → Nat} {d C Z : Nat} {Q : xQ} (σ : xM) (l0 : Nat) (l1 : Int32) (l2 : Int32) (s0 : Int32) {x : (xM ⊕ ((xM) ⊕ (Nat × Int32 × Int32 × xM)))} (hf : f_X6_reduce_j36 σ l0 l1 l2 s0 = some x) (hR : ∀ g, x = Sum.inl (g) → Q (.inl none) (g) π) (hE : ∀ e : (xM), x = Sum.inr (Sum.inl e) → xMach G π J_X6_reduce (d + 1) C Z 95 [] [] e Q) (hC : ∀ e : (Nat × Int32 × Int32 × xM), x = Sum.inr (Sum.inr e) → xMach G π J_X6_reduce (d + 1) C Z 7 [(0, .ref e.1), (1, .int e.2.1), (2, .int e.2.2.1)] [] e.2.2.2 Q) : xMach G π J_X6_reduce (d + 1) C Z 36 [(0, .ref l0), (1, .int l1), (2, .int l2)] [.int s0] σ Q := by
  unfold f_X6_reduce_j36 at hf
  refine xm_istore_n dX6_reduce_36 (by decide) (xm_stL (L' := [(3, .int s0), (0, .ref l0), (1, .int l1), (2, .int l2)]) rfl ?_)
  refine xm_aload_n dX6_reduce_37 rfl ?_
  refine xb_getR (a := l0) (c := 6) (k := 17) dX6_reduce_38 xcl6 (by decide) xw_350 rfl hf (fun x7 ex7 hf => ?_)
  refine xm_iconst dX6_reduce_41 (v := 3) (by decide) ?_
  refine xm_aload_n dX6_reduce_42 rfl ?_
  refine xb_getR (a := l0) (c := 6) (k := 10) dX6_reduce_43 xcl6 (by decide) xw_343 rfl hf (fun x8 ex8 hf => ?_)
  refine xm_iload_n dX6_reduce_46 rfl ?_
  refine xb_iald dX6_reduce_47 hf (fun x9 ex9 hf => ?_)
  refine xm_aload_n dX6_reduce_48 rfl ?_
  refine xb_getR (a := l0) (c := 6) (k := 11) dX6_reduce_49 xcl6 (by decide) xw_344 rfl hf (fun x10 ex10 hf => ?_)
  refine xm_iload_n dX6_reduce_52 rfl ?_
  refine xb_iald dX6_reduce_53 hf (fun x11 ex11 hf => ?_)
  refine xm_iload_n dX6_reduce_54 rfl ?_
  refine xb_if hf (fun hb hf => ?_) (fun _ q => nomatch q)
  obtain ⟨p12, ep12, hf⟩ := xbind hf
  refine xb_callV (As := [.int (3 : Int32), .int x9, .int x11, .int s0]) (v0 := (some (.int p12.1))) (τ0 := p12.2) dX6_reduce_55 (xc_X9_add _ _) xcl9 xw_763 xw_764 xw_765 hb rfl (Nat.le_of_ble_eq_true rfl) rfl (Nat.le_of_ble_eq_true rfl) (fun Q1 hq => m_X9_add (d := d + 0) ep12 (fun g hg => by subst hg; exact hq)) ?_
  refine xm_pop dX6_reduce_58 rfl ?_
  refine xm_aload_n dX6_reduce_59 rfl ?_
  refine xm_aload_n dX6_reduce_60 rfl ?_
  refine xb_getI (a := l0) (c := 6) (k := 16) dX6_reduce_61 xcl6 (by decide) xw_349 rfl hf (fun x13 ex13 hf => ?_)
  refine xm_iload_n dX6_reduce_64 rfl ?_
  refine xm_isub dX6_reduce_65 ?_
  refine xm_iconst dX6_reduce_66 (v := 0) (by decide) ?_
  refine xm_max dX6_reduce_67 xw_787 xw_117 xw_7 xw_118 (Nat.le_of_ble_eq_true rfl) ?_
  refine xb_putI (a := l0) (c := 6) (k := 16) dX6_reduce_70 xcl6 (by decide) xw_349 rfl rfl hf (fun σ14 eσ14 hf => ?_)
  refine xm_aload_n dX6_reduce_73 rfl ?_
  refine xm_aload_n dX6_reduce_74 rfl ?_
  refine xb_getR (a := l0) (c := 6) (k := 13) dX6_reduce_75 xcl6 (by decide) xw_346 rfl hf (fun x15 ex15 hf => ?_)
  refine xm_iload_n dX6_reduce_78 rfl ?_
  refine xb_iald dX6_reduce_79 hf (fun x16 ex16 hf => ?_)
  refine xb_if hf (fun hb hf => ?_) (fun _ q => nomatch q)
  obtain ⟨p17, ep17, hf⟩ := xbind hf
  refine xb_callV (As := [.int x16]) (v0 := (some (.int p17.1))) (τ0 := p17.2) dX6_reduce_80 (xc_X6_pushOperand _ _) xcl6 xw_759 xw_761 xs_8 hb rfl (Nat.le_of_ble_eq_true rfl) rfl (Nat.le_of_ble_eq_true rfl) (fun Q1 hq => m_X6_pushOperand (d := d + 0) ep17 (fun g hg => by subst hg; exact hq)) ?_
  refine xm_pop dX6_reduce_83 rfl ?_
  refine xm_aload_n dX6_reduce_84 rfl ?_
  refine xm_iload_n dX6_reduce_85 rfl ?_
  refine xb_putI (a := l0) (c := 6) (k := 14) dX6_reduce_86 xcl6 (by decide) xw_347 rfl rfl hf (fun σ18 eσ18 hf => ?_)
  refine xb_iinc dX6_reduce_89 rfl (by decide) (by decide) hf (fun v19 ev19 hf => xm_stL (L' := [(2, .int v19), (3, .int s0), (0, .ref l0), (1, .int l1)]) rfl ?_)
  refine xm_goto 7 dX6_reduce_92 (by decide) ?_
  cases hf
  exact xm_sub [2, 3, 0] rfl (hC _ rfl)
def f_X6_reduce_s7 (s : (Nat × Int32 × Int32 × xM)) : Option (xM ⊕ ((xM) ⊕ (Nat × Int32 × Int32 × xM))) :=
  xlet s.1 (fun l0 => xlet s.2.1 (fun l1 => xlet s.2.2.1 (fun l2 => xlet s.2.2.2 (fun σ => (if l2 < (0 : Int32) then some (Sum.inr (Sum.inl σ)) else (gR σ l0 6 12).bind (fun x3 => (aI σ x3 14 l2).bind (fun x4 => (if x4 ≤ l1 then some (Sum.inr (Sum.inl σ)) else (gR σ l0 6 11).bind (fun x5 => (aI σ x5 14 l2).bind (fun x6 => (if x6 = (2 : Int32) then f_X6_reduce_j36 σ l0 l1 l2 (2 : Int32) else f_X6_reduce_j36 σ l0 l1 l2 (1 : Int32))))))))))))
set_option maxHeartbeats 4000000 in
set_option maxRecDepth 20000 in
theorem L_X6_reduce_s7 {G : xG} {π : Nat → Nat} {d C Z : Nat} {Q : xQ} (σ : xM) (l0 : Nat) (l1 : Int32) (l2 : Int32) {x : (xM ⊕ ((xM) ⊕ (Nat × Int32 × Int32 × xM)))} (hf : f_X6_reduce_s7 (l0, l1, l2, σ) = some x) (hR : ∀ g, x = Sum.inl (g) → Q (.inl none) (g) π) (hE : ∀ e : (xM), x = Sum.inr (Sum.inl e) → xMach G π J_X6_reduce (d + 1) C Z 95 [] [] e Q) (hC : ∀ e : (Nat × Int32 × Int32 × xM), x = Sum.inr (Sum.inr e) → xMach G π J_X6_reduce (d + 1) C Z 7 [(0, .ref e.1), (1, .int e.2.1), (2, .int e.2.2.1)] [] e.2.2.2 Q) : xMach G π J_X6_reduce (d + 1) C Z 7 [(0, .ref l0), (1, .int l1), (2, .int l2)] [] σ Q := by
  have hf : (if l2 < (0 : Int32) then some (Sum.inr (Sum.inl σ)) else (gR σ l0 6 12).bind (fun x3 => (aI σ x3 14 l2).bind (fun x4 => (if x4 ≤ l1 then some (Sum.inr (Sum.inl σ)) else (gR σ l0 6 11).bind (fun x5 => (aI σ x5 14 l2).bind (fun x6 => (if x6 = (2 : Int32) then f_X6_reduce_j36 σ l0 l1 l2 (2 : Int32) else f_X6_reduce_j36 σ l0 l1 l2 (1 : Int32)))))))) = some x := hf
  refine xm_iload_n dX6_reduce_7 rfl ?_
  refine xb_if_lt 95 dX6_reduce_8 (by decide) hf (fun c hf => ?_) (fun c hf => ?_)
  · cases hf
    exact xm_sub [] rfl (hE _ rfl)
  · refine xm_aload_n dX6_reduce_11 rfl ?_
    refine xb_getR (a := l0) (c := 6) (k := 12) dX6_reduce_12 xcl6 (by decide) xw_345 rfl hf (fun x3 ex3 hf => ?_)
    refine xm_iload_n dX6_reduce_15 rfl ?_
    refine xb_iald dX6_reduce_16 hf (fun x4 ex4 hf => ?_)
    refine xm_iload_n dX6_reduce_17 rfl ?_
    refine xb_icmp_le 95 dX6_reduce_18 (by decide) hf (fun c hf => ?_) (fun c hf => ?_)
    · cases hf
      exact xm_sub [] rfl (hE _ rfl)
    · refine xm_aload_n dX6_reduce_21 rfl ?_
      refine xb_getR (a := l0) (c := 6) (k := 11) dX6_reduce_22 xcl6 (by decide) xw_344 rfl hf (fun x5 ex5 hf => ?_)
      refine xm_iload_n dX6_reduce_25 rfl ?_
      refine xb_iald dX6_reduce_26 hf (fun x6 ex6 hf => ?_)
      refine xm_iconst dX6_reduce_27 (v := 2) (by decide) ?_
      refine xb_icmp_ne 35 dX6_reduce_28 (by decide) hf (fun c hf => ?_) (fun c hf => ?_)
      · refine xm_iconst dX6_reduce_35 (v := 1) (by decide) ?_
        exact xm_sub [0, 1, 2] rfl (L_X6_reduce_j36 σ l0 l1 l2 (1 : Int32) hf hR hE hC)
      · refine xm_iconst dX6_reduce_31 (v := 2) (by decide) ?_
        refine xm_goto 36 dX6_reduce_32 (by decide) ?_
        exact xm_sub [0, 1, 2] rfl (L_X6_reduce_j36 σ l0 l1 l2 (2 : Int32) hf hR hE hC)
theorem L_X6_reduce_l7 {G : xG} {π : Nat → Nat} {d C Z : Nat} {Q : xQ} {s0 : (Nat × Int32 × Int32 × xM)} {x : (xM ⊕ (xM))} (h1 : xloop (f_X6_reduce_s7) xF s0 = some x) (hR : ∀ g, x = Sum.inl g → Q (.inl none) (g) π) (hE : ∀ e : (xM), x = Sum.inr e → xMach G π J_X6_reduce (d + 1) C Z 95 [] [] e Q) : xMach G π J_X6_reduce (d + 1) C Z 7 [(0, .ref s0.1), (1, .int s0.2.1), (2, .int s0.2.2.1)] [] s0.2.2.2 Q := by
  refine xloop_run (M := (fun s : (Nat × Int32 × Int32 × xM) => xMach G π J_X6_reduce (d + 1) C Z 7 [(0, .ref s.1), (1, .int s.2.1), (2, .int s.2.2.1)] [] s.2.2.2 Q)) (r := x) ?_ xF _ h1
  intro s y hs hx
  exact L_X6_reduce_s7 s.2.2.2 s.1 s.2.1 s.2.2.1 (x := y) hs (fun g hg => by subst hg; exact hR g hx) (fun e he => by subst he; exact hE e hx) (fun e he => by subst he; exact hx)
def f_X6_reduce_j95 (σ : xM)  : Option xM :=
  some σ
set_option maxHeartbeats 4000000 in
set_option maxRecDepth 20000 in
theorem L_X6_reduce_j95 {G : xG} {π : Nat → Nat} {d C Z : Nat} {Q : xQ} (σ : xM)  {x : xM} (hf : f_X6_reduce_j95 σ = some x) (hR : ∀ g, x = g → Q (.inl none) (g) π) : xMach G π J_X6_reduce (d + 1) C Z 95 [] [] σ Q := by
  unfold f_X6_reduce_j95 at hf
  cases hf
  exact xm_vret dX6_reduce_95 rfl (hR _ rfl)
def f_X6_reduce (σ : xM) (l0 : Nat) (l1 : Int32) : Option xM :=
  (gI σ l0 6 14).bind (fun x1 => xlet (x1 - (1 : Int32)) (fun v2 => (xloop (f_X6_reduce_s7 ) xF (l0, l1, v2, σ)).bind (Sum.elim (fun g => some g) (fun e => f_X6_reduce_j95 e))))
set_option maxHeartbeats 4000000 in
set_option maxRecDepth 20000 in
theorem m_X6_reduce {G : xG} {π : Nat → Nat} {d C Z : Nat} {Q : xQ} {σ : xM} {l0 : Nat} {l1 : Int32} {x : xM} (hf : f_X6_reduce σ l0 l1 = some x) (hR : ∀ g, x = g → Q (.inl none) (g) π) : xMach G π J_X6_reduce (d + 1) C Z 0 (lv_args 0 [.ref l0, .int l1]) [] σ Q := by
  unfold f_X6_reduce at hf
  refine xm_stL (L' := [(0, .ref l0), (1, .int l1)]) rfl ?_
  refine xm_aload_n dX6_reduce_0 rfl ?_
  refine xb_getI (a := l0) (c := 6) (k := 14) dX6_reduce_1 xcl6 (by decide) xw_347 rfl hf (fun x1 ex1 hf => ?_)
  refine xm_iconst dX6_reduce_4 (v := 1) (by decide) ?_
  refine xm_isub dX6_reduce_5 ?_
  refine xb_topi hf (fun v2 ev2 hf => ?_)
  refine xm_istore_n dX6_reduce_6 (by decide) (xm_stL (L' := [(2, .int v2), (0, .ref l0), (1, .int l1)]) rfl ?_)
  obtain ⟨o, h1, hf⟩ := xbind hf
  refine xm_sub [1, 2, 0] rfl (L_X6_reduce_l7  h1 (fun g hg => ?_) (fun e he => ?_))
  · subst hg
    cases hf
    exact hR _ rfl
  · subst he
    rw [Sum.elim_inr] at hf
    have hf : f_X6_reduce_j95 e = some _ := hf
    exact xm_sub [] rfl (L_X6_reduce_j95 e hf hR)
-- Rankwise$Reader.takeSign(I)Z
def f_X6_takeSign_j136 (σ : xM) (s0 : Int32) (s1 : Int32) (s2 : Int32) (s3 : Int32) (s4 : Int32) (s5 : Nat) : Option (Int32 × xM) :=
  (if xk σ s5 6 = true then (f_X6_hold σ s5 s4 s3 s2 s1 s0).bind (fun p13 => (xz p13.1).bind (fun b14 => some (b14, p13.2))) else none)
set_option maxHeartbeats 4000000 in
set_option maxRecDepth 20000 in
theorem L_X6_takeSign_j136 {G : xG} {π : Nat → Nat} {d C Z : Nat} {Q : xQ} (σ : xM) (s0 : Int32) (s1 : Int32) (s2 : Int32) (s3 : Int32) (s4 : Int32) (s5 : Nat) {x : (Int32 × xM)} (hf : f_X6_takeSign_j136 σ s0 s1 s2 s3 s4 s5 = some x) (hR : ∀ g, x = g → Q (.inl (some (.int g.1))) (g.2) π) : xMach G π J_X6_takeSign (d + 2) C Z 136 [] [.int s0, .int s1, .int s2, .int s3, .int s4, .ref s5] σ Q := by
  unfold f_X6_takeSign_j136 at hf
  refine xb_if hf (fun hb hf => ?_) (fun _ q => nomatch q)
  obtain ⟨p13, ep13, hf⟩ := xbind hf
  refine xb_callV (As := [.int s4, .int s3, .int s2, .int s1, .int s0]) (v0 := (some (.int p13.1))) (τ0 := p13.2) dX6_takeSign_136 (xc_X6_hold _ _) xcl6 xw_771 xw_773 xs_10 hb rfl (Nat.le_of_ble_eq_true rfl) rfl (Nat.le_of_ble_eq_true rfl) (fun Q1 hq => m_X6_hold (d := d + 1) ep13 (fun g hg => by subst hg; exact hq)) ?_
  obtain ⟨b14, eb14, hf⟩ := xbind hf
  obtain ⟨rfl, hz⟩ := xz_of eb14
  cases hf
  exact xm_zret dX6_takeSign_139 rfl hz (hR _ rfl)
def f_X6_takeSign_j125 (σ : xM) (l3 : Int32) (l5 : Int32) (s0 : Int32) (s1 : Int32) (s2 : Int32) (s3 : Int32) (s4 : Nat) : Option (Int32 × xM) :=
  (if l5 = (2 : Int32) then f_X6_takeSign_j136 σ l3 s0 s1 s2 s3 s4 else f_X6_takeSign_j136 σ (0 : Int32) s0 s1 s2 s3 s4)
set_option maxHeartbeats 4000000 in
set_option maxRecDepth 20000 in
theorem L_X6_takeSign_j125 {G : xG} {π : Nat → Nat} {d C Z : Nat} {Q : xQ} (σ : xM) (l3 : Int32) (l5 : Int32) (s0 : Int32) (s1 : Int32) (s2 : Int32) (s3 : Int32) (s4 : Nat) {x : (Int32 × xM)} (hf : f_X6_takeSign_j125 σ l3 l5 s0 s1 s2 s3 s4 = some x) (hR : ∀ g, x = g → Q (.inl (some (.int g.1))) (g.2) π) : xMach G π J_X6_takeSign (d + 2) C Z 125 [(3, .int l3), (5, .int l5)] [.int s0, .int s1, .int s2, .int s3, .ref s4] σ Q := by
  unfold f_X6_takeSign_j125 at hf
  refine xm_iload dX6_takeSign_125 rfl ?_
  refine xm_iconst dX6_takeSign_127 (v := 2) (by decide) ?_
  refine xb_icmp_ne 135 dX6_takeSign_128 (by decide) hf (fun c hf => ?_) (fun c hf => ?_)
  · refine xm_iconst dX6_takeSign_135 (v := 0) (by decide) ?_
    exact xm_sub [] rfl (L_X6_takeSign_j136 σ (0 : Int32) s0 s1 s2 s3 s4 hf hR)
  · refine xm_iload_n dX6_takeSign_131 rfl ?_
    refine xm_goto 136 dX6_takeSign_132 (by decide) ?_
    exact xm_sub [] rfl (L_X6_takeSign_j136 σ l3 s0 s1 s2 s3 s4 hf hR)
def f_X6_takeSign_j17 (σ : xM) (l0 : Nat) (l1 : Int32) (s0 : Int32) : Option (Int32 × xM) :=
  (gR σ l0 6 0).bind (fun x3 => (if xk σ x3 1 = true then (f_X1_rank σ x3 l1 s0).bind (fun p4 => (if p4 = (0 : Int32) then some ((0 : Int32), σ) else (if xk σ l0 6 = true then (f_X6_reduce σ l0 p4).bind (fun p5 => (gI p5 l0 6 16).bind (fun x6 => xlet (x6 - (1 : Int32)) (fun v7 => (if (0 : Int32) ≤ v7 then (if s0 = (1 : Int32) then (gR p5 l0 6 15).bind (fun x15 => (wI p5 x15 v7 (0 : Int32)).bind (fun σ16 => (gR σ16 l0 6 17).bind (fun x17 => (if xk σ16 x17 9 = true then (f_X9_add σ16 x17 (3 : Int32) l1 (1 : Int32) (1 : Int32)).bind (fun p18 => (xz p18.1).bind (fun b19 => some (b19, p18.2))) else none)))) else (gR p5 l0 6 15).bind (fun x8 => (aI p5 x8 14 v7).bind (fun x9 => (if x9 = p4 then some ((0 : Int32), p5) else (gR p5 l0 6 0).bind (fun x10 => (if xk p5 x10 1 = true then (f_X1_side p5 x10 l1 (2 : Int32)).bind (fun p11 => (sZ p5 l0 6 8 (1 : Int32)).bind (fun σ12 => (if p11 = (1 : Int32) then f_X6_takeSign_j125 σ12 p4 p11 p4 (2 : Int32) l1 (3 : Int32) l0 else f_X6_takeSign_j125 σ12 p4 p11 (p4 + (1 : Int32)) (2 : Int32) l1 (3 : Int32) l0))) else none)))))) else some ((0 : Int32), p5))))) else none))) else none))
set_option maxHeartbeats 4000000 in
set_option maxRecDepth 20000 in
theorem L_X6_takeSign_j17 {G : xG} {π : Nat → Nat} {d C Z : Nat} {Q : xQ} (σ : xM) (l0 : Nat) (l1 : Int32) (s0 : Int32) {x : (Int32 × xM)} (hf : f_X6_takeSign_j17 σ l0 l1 s0 = some x) (hR : ∀ g, x = g → Q (.inl (some (.int g.1))) (g.2) π) : xMach G π J_X6_takeSign (d + 2) C Z 17 [(0, .ref l0), (1, .int l1)] [.int s0] σ Q := by
  unfold f_X6_takeSign_j17 at hf
  refine xm_istore_n dX6_takeSign_17 (by decide) (xm_stL (L' := [(2, .int s0), (0, .ref l0), (1, .int l1)]) rfl ?_)
  refine xm_aload_n dX6_takeSign_18 rfl ?_
  refine xb_getR (a := l0) (c := 6) (k := 0) dX6_takeSign_19 xcl6 (by decide) xw_329 rfl hf (fun x3 ex3 hf => ?_)
  refine xm_iload_n dX6_takeSign_22 rfl ?_
  refine xm_iload_n dX6_takeSign_23 rfl ?_
  refine xb_if hf (fun hb hf => ?_) (fun _ q => nomatch q)
  obtain ⟨p4, ep4, hf⟩ := xbind hf
  refine xb_callV (As := [.int l1, .int s0]) (v0 := (some (.int p4))) (τ0 := σ) dX6_takeSign_24 (xc_X1_rank _ _) xcl1 xw_775 xw_776 xw_777 hb rfl (Nat.le_of_ble_eq_true rfl) rfl (Nat.le_of_ble_eq_true rfl) (fun Q1 hq => m_X1_rank (d := d + 0) ep4 (fun g hg => by subst hg; exact hq)) ?_
  refine xm_istore_n dX6_takeSign_27 (by decide) (xm_stL (L' := [(3, .int p4), (2, .int s0), (0, .ref l0), (1, .int l1)]) rfl ?_)
  refine xm_iload_n dX6_takeSign_28 rfl ?_
  refine xb_if_ne 34 dX6_takeSign_29 (by decide) hf (fun c hf => ?_) (fun c hf => ?_)
  · refine xm_aload_n dX6_takeSign_34 rfl ?_
    refine xm_iload_n dX6_takeSign_35 rfl ?_
    refine xb_if hf (fun hb hf => ?_) (fun _ q => nomatch q)
    obtain ⟨p5, ep5, hf⟩ := xbind hf
    refine xb_callV (As := [.int p4]) (v0 := none) (τ0 := p5) dX6_takeSign_36 (xc_X6_reduce _ _) xcl6 xw_783 xw_785 xs_12 hb rfl (Nat.le_of_ble_eq_true rfl) rfl (Nat.le_of_ble_eq_true rfl) (fun Q1 hq => m_X6_reduce (d := d + 0) ep5 (fun g hg => by subst hg; exact hq)) ?_
    refine xm_aload_n dX6_takeSign_39 rfl ?_
    refine xb_getI (a := l0) (c := 6) (k := 16) dX6_takeSign_40 xcl6 (by decide) xw_349 rfl hf (fun x6 ex6 hf => ?_)
    refine xm_iconst dX6_takeSign_43 (v := 1) (by decide) ?_
    refine xm_isub dX6_takeSign_44 ?_
    refine xb_topi hf (fun v7 ev7 hf => ?_)
    refine xm_istore dX6_takeSign_45 (by decide) (xm_stL (L' := [(4, .int v7), (3, .int p4), (2, .int s0), (0, .ref l0), (1, .int l1)]) rfl ?_)
    refine xm_iload dX6_takeSign_47 rfl ?_
    refine xb_if_ge 54 dX6_takeSign_49 (by decide) hf (fun c hf => ?_) (fun c hf => ?_)
    · refine xm_iload_n dX6_takeSign_54 rfl ?_
      refine xm_iconst dX6_takeSign_55 (v := 1) (by decide) ?_
      refine xb_icmp_ne 79 dX6_takeSign_56 (by decide) hf (fun c hf => ?_) (fun c hf => ?_)
      · refine xm_aload_n dX6_takeSign_79 rfl ?_
        refine xb_getR (a := l0) (c := 6) (k := 15) dX6_takeSign_80 xcl6 (by decide) xw_348 rfl hf (fun x8 ex8 hf => ?_)
        refine xm_iload dX6_takeSign_83 rfl ?_
        refine xb_iald dX6_takeSign_85 hf (fun x9 ex9 hf => ?_)
        refine xm_iload_n dX6_takeSign_86 rfl ?_
        refine xb_icmp_ne 92 dX6_takeSign_87 (by decide) hf (fun c hf => ?_) (fun c hf => ?_)
        · refine xm_aload_n dX6_takeSign_92 rfl ?_
          refine xb_getR (a := l0) (c := 6) (k := 0) dX6_takeSign_93 xcl6 (by decide) xw_329 rfl hf (fun x10 ex10 hf => ?_)
          refine xm_iload_n dX6_takeSign_96 rfl ?_
          refine xm_iconst dX6_takeSign_97 (v := 2) (by decide) ?_
          refine xb_if hf (fun hb hf => ?_) (fun _ q => nomatch q)
          obtain ⟨p11, ep11, hf⟩ := xbind hf
          refine xb_callV (As := [.int l1, .int (2 : Int32)]) (v0 := (some (.int p11))) (τ0 := p5) dX6_takeSign_98 (xc_X1_side _ _) xcl1 xw_788 xw_789 xw_790 hb rfl (Nat.le_of_ble_eq_true rfl) rfl (Nat.le_of_ble_eq_true rfl) (fun Q1 hq => m_X1_side (d := d + 0) ep11 (fun g hg => by subst hg; exact hq)) ?_
          refine xm_istore dX6_takeSign_101 (by decide) (xm_stL (L' := [(5, .int p11), (4, .int v7), (3, .int p4), (2, .int s0), (0, .ref l0), (1, .int l1)]) rfl ?_)
          refine xm_aload_n dX6_takeSign_103 rfl ?_
          refine xm_iconst dX6_takeSign_104 (v := 1) (by decide) ?_
          refine xb_putZ (a := l0) (c := 6) (k := 8) dX6_takeSign_105 xcl6 (by decide) xw_341 rfl rfl hf (fun σ12 eσ12 hf => ?_)
          refine xm_aload_n dX6_takeSign_108 rfl ?_
          refine xm_iconst dX6_takeSign_109 (v := 3) (by decide) ?_
          refine xm_iload_n dX6_takeSign_110 rfl ?_
          refine xm_iconst dX6_takeSign_111 (v := 2) (by decide) ?_
          refine xm_iload dX6_takeSign_112 rfl ?_
          refine xm_iconst dX6_takeSign_114 (v := 1) (by decide) ?_
          refine xb_icmp_ne 122 dX6_takeSign_115 (by decide) hf (fun c hf => ?_) (fun c hf => ?_)
          · refine xm_iload_n dX6_takeSign_122 rfl ?_
            refine xm_iconst dX6_takeSign_123 (v := 1) (by decide) ?_
            refine xm_iadd dX6_takeSign_124 ?_
            exact xm_sub [2, 0] rfl (L_X6_takeSign_j125 σ12 p4 p11 (p4 + (1 : Int32)) (2 : Int32) l1 (3 : Int32) l0 hf hR)
          · refine xm_iload_n dX6_takeSign_118 rfl ?_
            refine xm_goto 125 dX6_takeSign_119 (by decide) ?_
            exact xm_sub [2, 0] rfl (L_X6_takeSign_j125 σ12 p4 p11 p4 (2 : Int32) l1 (3 : Int32) l0 hf hR)
        · refine xm_iconst dX6_takeSign_90 (v := 0) (by decide) ?_
          cases hf
          exact xm_zret dX6_takeSign_91 rfl rfl (hR _ rfl)
      · refine xm_aload_n dX6_takeSign_59 rfl ?_
        refine xb_getR (a := l0) (c := 6) (k := 15) dX6_takeSign_60 xcl6 (by decide) xw_348 rfl hf (fun x15 ex15 hf => ?_)
        refine xm_iload dX6_takeSign_63 rfl ?_
        refine xm_iconst dX6_takeSign_65 (v := 0) (by decide) ?_
        refine xb_iast dX6_takeSign_66 hf (fun σ16 eσ16 hf => ?_)
        refine xm_aload_n dX6_takeSign_67 rfl ?_
        refine xb_getR (a := l0) (c := 6) (k := 17) dX6_takeSign_68 xcl6 (by decide) xw_350 rfl hf (fun x17 ex17 hf => ?_)
        refine xm_iconst dX6_takeSign_71 (v := 3) (by decide) ?_
        refine xm_iload_n dX6_takeSign_72 rfl ?_
        refine xm_iconst dX6_takeSign_73 (v := 1) (by decide) ?_
        refine xm_iconst dX6_takeSign_74 (v := 1) (by decide) ?_
        refine xb_if hf (fun hb hf => ?_) (fun _ q => nomatch q)
        obtain ⟨p18, ep18, hf⟩ := xbind hf
        refine xb_callV (As := [.int (3 : Int32), .int l1, .int (1 : Int32), .int (1 : Int32)]) (v0 := (some (.int p18.1))) (τ0 := p18.2) dX6_takeSign_75 (xc_X9_add _ _) xcl9 xw_763 xw_764 xw_765 hb rfl (Nat.le_of_ble_eq_true rfl) rfl (Nat.le_of_ble_eq_true rfl) (fun Q1 hq => m_X9_add (d := d + 1) ep18 (fun g hg => by subst hg; exact hq)) ?_
        obtain ⟨b19, eb19, hf⟩ := xbind hf
        obtain ⟨rfl, hz⟩ := xz_of eb19
        cases hf
        exact xm_zret dX6_takeSign_78 rfl hz (hR _ rfl)
    · refine xm_iconst dX6_takeSign_52 (v := 0) (by decide) ?_
      cases hf
      exact xm_zret dX6_takeSign_53 rfl rfl (hR _ rfl)
  · refine xm_iconst dX6_takeSign_32 (v := 0) (by decide) ?_
    cases hf
    exact xm_zret dX6_takeSign_33 rfl rfl (hR _ rfl)
def f_X6_takeSign (σ : xM) (l0 : Nat) (l1 : Int32) : Option (Int32 × xM) :=
  (gR σ l0 6 0).bind (fun x1 => (if xk σ x1 1 = true then (f_X1_rank σ x1 l1 (1 : Int32)).bind (fun p2 => (if p2 ≤ (0 : Int32) then f_X6_takeSign_j17 σ l0 l1 (2 : Int32) else f_X6_takeSign_j17 σ l0 l1 (1 : Int32))) else none))
set_option maxHeartbeats 4000000 in
set_option maxRecDepth 20000 in
theorem m_X6_takeSign {G : xG} {π : Nat → Nat} {d C Z : Nat} {Q : xQ} {σ : xM} {l0 : Nat} {l1 : Int32} {x : (Int32 × xM)} (hf : f_X6_takeSign σ l0 l1 = some x) (hR : ∀ g, x = g → Q (.inl (some (.int g.1))) (g.2) π) : xMach G π J_X6_takeSign (d + 2) C Z 0 (lv_args 0 [.ref l0, .int l1]) [] σ Q := by
  unfold f_X6_takeSign at hf
  refine xm_stL (L' := [(0, .ref l0), (1, .int l1)]) rfl ?_
  refine xm_aload_n dX6_takeSign_0 rfl ?_
  refine xb_getR (a := l0) (c := 6) (k := 0) dX6_takeSign_1 xcl6 (by decide) xw_329 rfl hf (fun x1 ex1 hf => ?_)
  refine xm_iload_n dX6_takeSign_4 rfl ?_
  refine xm_iconst dX6_takeSign_5 (v := 1) (by decide) ?_
  refine xb_if hf (fun hb hf => ?_) (fun _ q => nomatch q)
  obtain ⟨p2, ep2, hf⟩ := xbind hf
  refine xb_callV (As := [.int l1, .int (1 : Int32)]) (v0 := (some (.int p2))) (τ0 := σ) dX6_takeSign_6 (xc_X1_rank _ _) xcl1 xw_775 xw_776 xw_777 hb rfl (Nat.le_of_ble_eq_true rfl) rfl (Nat.le_of_ble_eq_true rfl) (fun Q1 hq => m_X1_rank (d := d + 0) ep2 (fun g hg => by subst hg; exact hq)) ?_
  refine xb_if_le 16 dX6_takeSign_9 (by decide) hf (fun c hf => ?_) (fun c hf => ?_)
  · refine xm_iconst dX6_takeSign_16 (v := 2) (by decide) ?_
    exact xm_sub [0, 1] rfl (L_X6_takeSign_j17 σ l0 l1 (2 : Int32) hf hR)
  · refine xm_iconst dX6_takeSign_12 (v := 1) (by decide) ?_
    refine xm_goto 17 dX6_takeSign_13 (by decide) ?_
    exact xm_sub [0, 1] rfl (L_X6_takeSign_j17 σ l0 l1 (1 : Int32) hf hR)
-- Rankwise$Reader.takeClosing(I)Z
def f_X6_takeClosing_j151 (σ : xM) (s0 : Int32) : Option (Int32 × xM) :=
  (xz s0).bind (fun b16 => some (b16, σ))
set_option maxHeartbeats 4000000 in
set_option maxRecDepth 20000 in
theorem L_X6_takeClosing_j151 {G : xG} {π : Nat → Nat} {d C Z : Nat} {Q : xQ} (σ : xM) (s0 : Int32) {x : (Int32 × xM)} (hf : f_X6_takeClosing_j151 σ s0 = some x) (hR : ∀ g, x = g → Q (.inl (some (.int g.1))) (g.2) π) : xMach G π J_X6_takeClosing (d + 2) C Z 151 [] [.int s0] σ Q := by
  unfold f_X6_takeClosing_j151 at hf
  obtain ⟨b16, eb16, hf⟩ := xbind hf
  obtain ⟨rfl, hz⟩ := xz_of eb16
  cases hf
  exact xm_zret dX6_takeClosing_151 rfl hz (hR _ rfl)
def f_X6_takeClosing_j150 (σ : xM)  : Option (Int32 × xM) :=
  f_X6_takeClosing_j151 σ (0 : Int32)
set_option maxHeartbeats 4000000 in
set_option maxRecDepth 20000 in
theorem L_X6_takeClosing_j150 {G : xG} {π : Nat → Nat} {d C Z : Nat} {Q : xQ} (σ : xM)  {x : (Int32 × xM)} (hf : f_X6_takeClosing_j150 σ = some x) (hR : ∀ g, x = g → Q (.inl (some (.int g.1))) (g.2) π) : xMach G π J_X6_takeClosing (d + 2) C Z 150 [] [] σ Q := by
  unfold f_X6_takeClosing_j150 at hf
  refine xm_iconst dX6_takeClosing_150 (v := 0) (by decide) ?_
  exact xm_sub [] rfl (L_X6_takeClosing_j151 σ (0 : Int32) hf hR)
def f_X6_takeClosing_j67 (σ : xM)  : Option (Int32 × xM) :=
  some ((0 : Int32), σ)
set_option maxHeartbeats 4000000 in
set_option maxRecDepth 20000 in
theorem L_X6_takeClosing_j67 {G : xG} {π : Nat → Nat} {d C Z : Nat} {Q : xQ} (σ : xM)  {x : (Int32 × xM)} (hf : f_X6_takeClosing_j67 σ = some x) (hR : ∀ g, x = g → Q (.inl (some (.int g.1))) (g.2) π) : xMach G π J_X6_takeClosing (d + 2) C Z 67 [] [] σ Q := by
  unfold f_X6_takeClosing_j67 at hf
  refine xm_iconst dX6_takeClosing_67 (v := 0) (by decide) ?_
  cases hf
  exact xm_zret dX6_takeClosing_68 rfl rfl (hR _ rfl)
def f_X6_takeClosing_j46 (σ : xM) (l0 : Nat) (l1 : Int32) (l2 : Int32) (s0 : Int32) : Option (Int32 × xM) :=
  (if l1 = (6 : Int32) then (if s0 = (0 : Int32) then f_X6_takeClosing_j67 σ else (gR σ l0 6 13).bind (fun x23 => (aI σ x23 14 l2).bind (fun x24 => (if x24 < (4 : Int32) then (gR σ l0 6 13).bind (fun x25 => (aI σ x25 14 l2).bind (fun x26 => (wI σ x25 l2 (x26 + (1 : Int32))).bind (fun σ27 => (sZ σ27 l0 6 8 (1 : Int32)).bind (fun σ28 => some ((1 : Int32), σ28))))) else f_X6_takeClosing_j67 σ)))) else (sI σ l0 6 14 l2).bind (fun σ6 => (if s0 = (0 : Int32) then (gI σ6 l0 6 16).bind (fun x7 => (sI σ6 l0 6 16 (if (x7 - (1 : Int32)) < (0 : Int32) then (0 : Int32) else (x7 - (1 : Int32)))).bind (fun σ8 => (if xk σ8 l0 6 = true then (f_X6_pushOperand σ8 l0 (0 : Int32)).bind (fun p9 => (xz p9.1).bind (fun b10 => some (b10, p9.2))) else none))) else (gI σ6 l0 6 16).bind (fun x11 => (gR σ6 l0 6 13).bind (fun x12 => (aI σ6 x12 14 l2).bind (fun x13 => (sI σ6 l0 6 16 (if (x11 - x13) < (0 : Int32) then (0 : Int32) else (x11 - x13))).bind (fun σ14 => (if xk σ14 l0 6 = true then (f_X6_pushOperand σ14 l0 (0 : Int32)).bind (fun p15 => (if p15.1 = (0 : Int32) then f_X6_takeClosing_j150 p15.2 else (gR p15.2 l0 6 17).bind (fun x17 => (gR p15.2 l0 6 10).bind (fun x18 => (aI p15.2 x18 14 l2).bind (fun x19 => (gR p15.2 l0 6 13).bind (fun x20 => (aI p15.2 x20 14 l2).bind (fun x21 => (if xk p15.2 x17 9 = true then (f_X9_add p15.2 x17 (2 : Int32) x19 (-1 : Int32) x21).bind (fun p22 => (if p22.1 = (0 : Int32) then f_X6_takeClosing_j150 p22.2 else f_X6_takeClosing_j151 p22.2 (1 : Int32))) else none)))))))) else none))))))))
set_option maxHeartbeats 4000000 in
set_option maxRecDepth 20000 in
theorem L_X6_takeClosing_j46 {G : xG} {π : Nat → Nat} {d C Z : Nat} {Q : xQ} (σ : xM) (l0 : Nat) (l1 : Int32) (l2 : Int32) (s0 : Int32) {x : (Int32 × xM)} (hf : f_X6_takeClosing_j46 σ l0 l1 l2 s0 = some x) (hR : ∀ g, x = g → Q (.inl (some (.int g.1))) (g.2) π) : xMach G π J_X6_takeClosing (d + 2) C Z 46 [(0, .ref l0), (1, .int l1), (2, .int l2)] [.int s0] σ Q := by
  unfold f_X6_takeClosing_j46 at hf
  refine xm_istore_n dX6_takeClosing_46 (by decide) (xm_stL (L' := [(3, .int s0), (0, .ref l0), (1, .int l1), (2, .int l2)]) rfl ?_)
  refine xm_iload_n dX6_takeClosing_47 rfl ?_
  refine xm_bipush dX6_takeClosing_48 (v := 6) (by decide) ?_
  refine xb_icmp_ne 86 dX6_takeClosing_50 (by decide) hf (fun c hf => ?_) (fun c hf => ?_)
  · refine xm_aload_n dX6_takeClosing_86 rfl ?_
    refine xm_iload_n dX6_takeClosing_87 rfl ?_
    refine xb_putI (a := l0) (c := 6) (k := 14) dX6_takeClosing_88 xcl6 (by decide) xw_347 rfl rfl hf (fun σ6 eσ6 hf => ?_)
    refine xm_iload_n dX6_takeClosing_91 rfl ?_
    refine xb_if_eq 152 dX6_takeClosing_92 (by decide) hf (fun c hf => ?_) (fun c hf => ?_)
    · refine xm_aload_n dX6_takeClosing_152 rfl ?_
      refine xm_aload_n dX6_takeClosing_153 rfl ?_
      refine xb_getI (a := l0) (c := 6) (k := 16) dX6_takeClosing_154 xcl6 (by decide) xw_349 rfl hf (fun x7 ex7 hf => ?_)
      refine xm_iconst dX6_takeClosing_157 (v := 1) (by decide) ?_
      refine xm_isub dX6_takeClosing_158 ?_
      refine xm_iconst dX6_takeClosing_159 (v := 0) (by decide) ?_
      refine xm_max dX6_takeClosing_160 xw_787 xw_117 xw_7 xw_118 (Nat.le_of_ble_eq_true rfl) ?_
      refine xb_putI (a := l0) (c := 6) (k := 16) dX6_takeClosing_163 xcl6 (by decide) xw_349 rfl rfl hf (fun σ8 eσ8 hf => ?_)
      refine xm_aload_n dX6_takeClosing_166 rfl ?_
      refine xm_iconst dX6_takeClosing_167 (v := 0) (by decide) ?_
      refine xb_if hf (fun hb hf => ?_) (fun _ q => nomatch q)
      obtain ⟨p9, ep9, hf⟩ := xbind hf
      refine xb_callV (As := [.int (0 : Int32)]) (v0 := (some (.int p9.1))) (τ0 := p9.2) dX6_takeClosing_168 (xc_X6_pushOperand _ _) xcl6 xw_759 xw_761 xs_8 hb rfl (Nat.le_of_ble_eq_true rfl) rfl (Nat.le_of_ble_eq_true rfl) (fun Q1 hq => m_X6_pushOperand (d := d + 1) ep9 (fun g hg => by subst hg; exact hq)) ?_
      obtain ⟨b10, eb10, hf⟩ := xbind hf
      obtain ⟨rfl, hz⟩ := xz_of eb10
      cases hf
      exact xm_zret dX6_takeClosing_171 rfl hz (hR _ rfl)
    · refine xm_aload_n dX6_takeClosing_95 rfl ?_
      refine xm_aload_n dX6_takeClosing_96 rfl ?_
      refine xb_getI (a := l0) (c := 6) (k := 16) dX6_takeClosing_97 xcl6 (by decide) xw_349 rfl hf (fun x11 ex11 hf => ?_)
      refine xm_aload_n dX6_takeClosing_100 rfl ?_
      refine xb_getR (a := l0) (c := 6) (k := 13) dX6_takeClosing_101 xcl6 (by decide) xw_346 rfl hf (fun x12 ex12 hf => ?_)
      refine xm_iload_n dX6_takeClosing_104 rfl ?_
      refine xb_iald dX6_takeClosing_105 hf (fun x13 ex13 hf => ?_)
      refine xm_isub dX6_takeClosing_106 ?_
      refine xm_iconst dX6_takeClosing_107 (v := 0) (by decide) ?_
      refine xm_max dX6_takeClosing_108 xw_787 xw_117 xw_7 xw_118 (Nat.le_of_ble_eq_true rfl) ?_
      refine xb_putI (a := l0) (c := 6) (k := 16) dX6_takeClosing_111 xcl6 (by decide) xw_349 rfl rfl hf (fun σ14 eσ14 hf => ?_)
      refine xm_aload_n dX6_takeClosing_114 rfl ?_
      refine xm_iconst dX6_takeClosing_115 (v := 0) (by decide) ?_
      refine xb_if hf (fun hb hf => ?_) (fun _ q => nomatch q)
      obtain ⟨p15, ep15, hf⟩ := xbind hf
      refine xb_callV (As := [.int (0 : Int32)]) (v0 := (some (.int p15.1))) (τ0 := p15.2) dX6_takeClosing_116 (xc_X6_pushOperand _ _) xcl6 xw_759 xw_761 xs_8 hb rfl (Nat.le_of_ble_eq_true rfl) rfl (Nat.le_of_ble_eq_true rfl) (fun Q1 hq => m_X6_pushOperand (d := d + 1) ep15 (fun g hg => by subst hg; exact hq)) ?_
      refine xb_if_eq 150 dX6_takeClosing_119 (by decide) hf (fun c hf => ?_) (fun c hf => ?_)
      · exact xm_sub [] rfl (L_X6_takeClosing_j150 p15.2 hf hR)
      · refine xm_aload_n dX6_takeClosing_122 rfl ?_
        refine xb_getR (a := l0) (c := 6) (k := 17) dX6_takeClosing_123 xcl6 (by decide) xw_350 rfl hf (fun x17 ex17 hf => ?_)
        refine xm_iconst dX6_takeClosing_126 (v := 2) (by decide) ?_
        refine xm_aload_n dX6_takeClosing_127 rfl ?_
        refine xb_getR (a := l0) (c := 6) (k := 10) dX6_takeClosing_128 xcl6 (by decide) xw_343 rfl hf (fun x18 ex18 hf => ?_)
        refine xm_iload_n dX6_takeClosing_131 rfl ?_
        refine xb_iald dX6_takeClosing_132 hf (fun x19 ex19 hf => ?_)
        refine xm_iconst dX6_takeClosing_133 (v := -1) (by decide) ?_
        refine xm_aload_n dX6_takeClosing_134 rfl ?_
        refine xb_getR (a := l0) (c := 6) (k := 13) dX6_takeClosing_135 xcl6 (by decide) xw_346 rfl hf (fun x20 ex20 hf => ?_)
        refine xm_iload_n dX6_takeClosing_138 rfl ?_
        refine xb_iald dX6_takeClosing_139 hf (fun x21 ex21 hf => ?_)
        refine xb_if hf (fun hb hf => ?_) (fun _ q => nomatch q)
        obtain ⟨p22, ep22, hf⟩ := xbind hf
        refine xb_callV (As := [.int (2 : Int32), .int x19, .int (-1 : Int32), .int x21]) (v0 := (some (.int p22.1))) (τ0 := p22.2) dX6_takeClosing_140 (xc_X9_add _ _) xcl9 xw_763 xw_764 xw_765 hb rfl (Nat.le_of_ble_eq_true rfl) rfl (Nat.le_of_ble_eq_true rfl) (fun Q1 hq => m_X9_add (d := d + 1) ep22 (fun g hg => by subst hg; exact hq)) ?_
        refine xb_if_eq 150 dX6_takeClosing_143 (by decide) hf (fun c hf => ?_) (fun c hf => ?_)
        · exact xm_sub [] rfl (L_X6_takeClosing_j150 p22.2 hf hR)
        · refine xm_iconst dX6_takeClosing_146 (v := 1) (by decide) ?_
          refine xm_goto 151 dX6_takeClosing_147 (by decide) ?_
          exact xm_sub [] rfl (L_X6_takeClosing_j151 p22.2 (1 : Int32) hf hR)
  · refine xm_iload_n dX6_takeClosing_53 rfl ?_
    refine xb_if_eq 67 dX6_takeClosing_54 (by decide) hf (fun c hf => ?_) (fun c hf => ?_)
    · exact xm_sub [] rfl (L_X6_takeClosing_j67 σ hf hR)
    · refine xm_aload_n dX6_takeClosing_57 rfl ?_
      refine xb_getR (a := l0) (c := 6) (k := 13) dX6_takeClosing_58 xcl6 (by decide) xw_346 rfl hf (fun x23 ex23 hf => ?_)
      refine xm_iload_n dX6_takeClosing_61 rfl ?_
      refine xb_iald dX6_takeClosing_62 hf (fun x24 ex24 hf => ?_)
      refine xm_iconst dX6_takeClosing_63 (v := 4) (by decide) ?_
      refine xb_icmp_lt 69 dX6_takeClosing_64 (by decide) hf (fun c hf => ?_) (fun c hf => ?_)
      · refine xm_aload_n dX6_takeClosing_69 rfl ?_
        refine xb_getR (a := l0) (c := 6) (k := 13) dX6_takeClosing_70 xcl6 (by decide) xw_346 rfl hf (fun x25 ex25 hf => ?_)
        refine xm_iload_n dX6_takeClosing_73 rfl ?_
        refine xm_dup2 dX6_takeClosing_74 rfl rfl ?_
        refine xb_iald dX6_takeClosing_75 hf (fun x26 ex26 hf => ?_)
        refine xm_iconst dX6_takeClosing_76 (v := 1) (by decide) ?_
        refine xm_iadd dX6_takeClosing_77 ?_
        refine xb_iast dX6_takeClosing_78 hf (fun σ27 eσ27 hf => ?_)
        refine xm_aload_n dX6_takeClosing_79 rfl ?_
        refine xm_iconst dX6_takeClosing_80 (v := 1) (by decide) ?_
        refine xb_putZ (a := l0) (c := 6) (k := 8) dX6_takeClosing_81 xcl6 (by decide) xw_341 rfl rfl hf (fun σ28 eσ28 hf => ?_)
        refine xm_iconst dX6_takeClosing_84 (v := 1) (by decide) ?_
        cases hf
        exact xm_zret dX6_takeClosing_85 rfl rfl (hR _ rfl)
      · exact xm_sub [] rfl (L_X6_takeClosing_j67 σ hf hR)
def f_X6_takeClosing_j13 (σ : xM) (l0 : Nat) (l1 : Int32) : Option (Int32 × xM) :=
  (if xk σ l0 6 = true then (f_X6_reduce σ l0 (0 : Int32)).bind (fun p1 => (gI p1 l0 6 14).bind (fun x2 => xlet (x2 - (1 : Int32)) (fun v3 => (if (0 : Int32) ≤ v3 then (gR p1 l0 6 9).bind (fun x4 => (aI p1 x4 14 v3).bind (fun x5 => (if x5 = (2 : Int32) then f_X6_takeClosing_j46 p1 l0 l1 v3 (1 : Int32) else f_X6_takeClosing_j46 p1 l0 l1 v3 (0 : Int32)))) else some ((0 : Int32), p1))))) else none)
set_option maxHeartbeats 4000000 in
set_option maxRecDepth 20000 in
theorem L_X6_takeClosing_j13 {G : xG} {π : Nat → Nat} {d C Z : Nat} {Q : xQ} (σ : xM) (l0 : Nat) (l1 : Int32) {x : (Int32 × xM)} (hf : f_X6_takeClosing_j13 σ l0 l1 = some x) (hR : ∀ g, x = g → Q (.inl (some (.int g.1))) (g.2) π) : xMach G π J_X6_takeClosing (d + 2) C Z 13 [(0, .ref l0), (1, .int l1)] [] σ Q := by
  unfold f_X6_takeClosing_j13 at hf
  refine xm_aload_n dX6_takeClosing_13 rfl ?_
  refine xm_iconst dX6_takeClosing_14 (v := 0) (by decide) ?_
  refine xb_if hf (fun hb hf => ?_) (fun _ q => nomatch q)
  obtain ⟨p1, ep1, hf⟩ := xbind hf
  refine xb_callV (As := [.int (0 : Int32)]) (v0 := none) (τ0 := p1) dX6_takeClosing_15 (xc_X6_reduce _ _) xcl6 xw_783 xw_785 xs_12 hb rfl (Nat.le_of_ble_eq_true rfl) rfl (Nat.le_of_ble_eq_true rfl) (fun Q1 hq => m_X6_reduce (d := d + 0) ep1 (fun g hg => by subst hg; exact hq)) ?_
  refine xm_aload_n dX6_takeClosing_18 rfl ?_
  refine xb_getI (a := l0) (c := 6) (k := 14) dX6_takeClosing_19 xcl6 (by decide) xw_347 rfl hf (fun x2 ex2 hf => ?_)
  refine xm_iconst dX6_takeClosing_22 (v := 1) (by decide) ?_
  refine xm_isub dX6_takeClosing_23 ?_
  refine xb_topi hf (fun v3 ev3 hf => ?_)
  refine xm_istore_n dX6_takeClosing_24 (by decide) (xm_stL (L' := [(2, .int v3), (0, .ref l0), (1, .int l1)]) rfl ?_)
  refine xm_iload_n dX6_takeClosing_25 rfl ?_
  refine xb_if_ge 31 dX6_takeClosing_26 (by decide) hf (fun c hf => ?_) (fun c hf => ?_)
  · refine xm_aload_n dX6_takeClosing_31 rfl ?_
    refine xb_getR (a := l0) (c := 6) (k := 9) dX6_takeClosing_32 xcl6 (by decide) xw_342 rfl hf (fun x4 ex4 hf => ?_)
    refine xm_iload_n dX6_takeClosing_35 rfl ?_
    refine xb_iald dX6_takeClosing_36 hf (fun x5 ex5 hf => ?_)
    refine xm_iconst dX6_takeClosing_37 (v := 2) (by decide) ?_
    refine xb_icmp_ne 45 dX6_takeClosing_38 (by decide) hf (fun c hf => ?_) (fun c hf => ?_)
    · refine xm_iconst dX6_takeClosing_45 (v := 0) (by decide) ?_
      exact xm_sub [1, 2, 0] rfl (L_X6_takeClosing_j46 p1 l0 l1 v3 (0 : Int32) hf hR)
    · refine xm_iconst dX6_takeClosing_41 (v := 1) (by decide) ?_
      refine xm_goto 46 dX6_takeClosing_42 (by decide) ?_
      exact xm_sub [1, 2, 0] rfl (L_X6_takeClosing_j46 p1 l0 l1 v3 (1 : Int32) hf hR)
  · refine xm_iconst dX6_takeClosing_29 (v := 0) (by decide) ?_
    cases hf
    exact xm_zret dX6_takeClosing_30 rfl rfl (hR _ rfl)
def f_X6_takeClosing (σ : xM) (l0 : Nat) (l1 : Int32) : Option (Int32 × xM) :=
  (if l1 = (5 : Int32) then f_X6_takeClosing_j13 σ l0 l1 else (if l1 = (6 : Int32) then f_X6_takeClosing_j13 σ l0 l1 else some ((0 : Int32), σ)))
set_option maxHeartbeats 4000000 in
set_option maxRecDepth 20000 in
theorem m_X6_takeClosing {G : xG} {π : Nat → Nat} {d C Z : Nat} {Q : xQ} {σ : xM} {l0 : Nat} {l1 : Int32} {x : (Int32 × xM)} (hf : f_X6_takeClosing σ l0 l1 = some x) (hR : ∀ g, x = g → Q (.inl (some (.int g.1))) (g.2) π) : xMach G π J_X6_takeClosing (d + 2) C Z 0 (lv_args 0 [.ref l0, .int l1]) [] σ Q := by
  unfold f_X6_takeClosing at hf
  refine xm_stL (L' := [(0, .ref l0), (1, .int l1)]) rfl ?_
  refine xm_iload_n dX6_takeClosing_0 rfl ?_
  refine xm_iconst dX6_takeClosing_1 (v := 5) (by decide) ?_
  refine xb_icmp_eq 13 dX6_takeClosing_2 (by decide) hf (fun c hf => ?_) (fun c hf => ?_)
  · exact xm_sub [0, 1] rfl (L_X6_takeClosing_j13 σ l0 l1 hf hR)
  · refine xm_iload_n dX6_takeClosing_5 rfl ?_
    refine xm_bipush dX6_takeClosing_6 (v := 6) (by decide) ?_
    refine xb_icmp_eq 13 dX6_takeClosing_8 (by decide) hf (fun c hf => ?_) (fun c hf => ?_)
    · exact xm_sub [0, 1] rfl (L_X6_takeClosing_j13 σ l0 l1 hf hR)
    · refine xm_iconst dX6_takeClosing_11 (v := 0) (by decide) ?_
      cases hf
      exact xm_zret dX6_takeClosing_12 rfl rfl (hR _ rfl)
-- Rankwise$Reader.byStacks()I
def f_X6_byStacks_j110 (σ : xM) (l0 : Nat) (l1 : Int32) (l2 : Int32) (l3 : Int32) : Option ((Int32 × xM) ⊕ (((Nat × xM) ⊕ ((Nat × Int32 × xM) ⊕ (Nat × xM))) ⊕ (Nat × Int32 × xM))) :=
  (if l3 = (0 : Int32) then some (Sum.inr (Sum.inl (Sum.inr (Sum.inl (l0, l2, σ))))) else xlet (l1 + (1 : Int32)) (fun v18 => some (Sum.inr (Sum.inr (l0, v18, σ)))))
set_option maxHeartbeats 4000000 in
set_option maxRecDepth 20000 in
theorem L_X6_byStacks_j110 {G : xG} {π : Nat → Nat} {d C Z : Nat} {Q : xQ} (σ : xM) (l0 : Nat) (l1 : Int32) (l2 : Int32) (l3 : Int32) {x : ((Int32 × xM) ⊕ (((Nat × xM) ⊕ ((Nat × Int32 × xM) ⊕ (Nat × xM))) ⊕ (Nat × Int32 × xM)))} (hf : f_X6_byStacks_j110 σ l0 l1 l2 l3 = some x) (hR : ∀ g, x = Sum.inl (g) → Q (.inl (some (.int g.1))) (g.2) π) (hE0 : ∀ e : (Nat × xM), x = Sum.inr (Sum.inl (Sum.inl e)) → xMach G π J_X6_byStacks (d + 3) C Z 50 [(0, .ref e.1)] [] e.2 Q) (hE1 : ∀ e : (Nat × Int32 × xM), x = Sum.inr (Sum.inl (Sum.inr (Sum.inl e))) → xMach G π J_X6_byStacks (d + 3) C Z 114 [(0, .ref e.1), (2, .int e.2.1)] [] e.2.2 Q) (hE2 : ∀ e : (Nat × xM), x = Sum.inr (Sum.inl (Sum.inr (Sum.inr e))) → xMach G π J_X6_byStacks (d + 3) C Z 154 [(0, .ref e.1)] [] e.2 Q) (hC : ∀ e : (Nat × Int32 × xM), x = Sum.inr (Sum.inr e) → xMach G π J_X6_byStacks (d + 3) C Z 29 [(0, .ref e.1), (1, .int e.2.1)] [] e.2.2 Q) : xMach G π J_X6_byStacks (d + 3) C Z 110 [(0, .ref l0), (1, .int l1), (2, .int l2), (3, .int l3)] [] σ Q := by
  unfold f_X6_byStacks_j110 at hf
  refine xm_iload_n dX6_byStacks_110 rfl ?_
  refine xb_if_ne 148 dX6_byStacks_111 (by decide) hf (fun c hf => ?_) (fun c hf => ?_)
  · refine xb_iinc dX6_byStacks_148 rfl (by decide) (by decide) hf (fun v18 ev18 hf => xm_stL (L' := [(1, .int v18), (0, .ref l0), (2, .int l2), (3, .int l3)]) rfl ?_)
    refine xm_goto 29 dX6_byStacks_151 (by decide) ?_
    cases hf
    exact xm_sub [1, 0] rfl (hC _ rfl)
  · cases hf
    exact xm_sub [0, 2] rfl (hE1 _ rfl)
def f_X6_byStacks_j109 (σ : xM) (l0 : Nat) (l1 : Int32) (l2 : Int32) (s0 : Int32) : Option ((Int32 × xM) ⊕ (((Nat × xM) ⊕ ((Nat × Int32 × xM) ⊕ (Nat × xM))) ⊕ (Nat × Int32 × xM))) :=
  f_X6_byStacks_j110 σ l0 l1 l2 s0
set_option maxHeartbeats 4000000 in
set_option maxRecDepth 20000 in
theorem L_X6_byStacks_j109 {G : xG} {π : Nat → Nat} {d C Z : Nat} {Q : xQ} (σ : xM) (l0 : Nat) (l1 : Int32) (l2 : Int32) (s0 : Int32) {x : ((Int32 × xM) ⊕ (((Nat × xM) ⊕ ((Nat × Int32 × xM) ⊕ (Nat × xM))) ⊕ (Nat × Int32 × xM)))} (hf : f_X6_byStacks_j109 σ l0 l1 l2 s0 = some x) (hR : ∀ g, x = Sum.inl (g) → Q (.inl (some (.int g.1))) (g.2) π) (hE0 : ∀ e : (Nat × xM), x = Sum.inr (Sum.inl (Sum.inl e)) → xMach G π J_X6_byStacks (d + 3) C Z 50 [(0, .ref e.1)] [] e.2 Q) (hE1 : ∀ e : (Nat × Int32 × xM), x = Sum.inr (Sum.inl (Sum.inr (Sum.inl e))) → xMach G π J_X6_byStacks (d + 3) C Z 114 [(0, .ref e.1), (2, .int e.2.1)] [] e.2.2 Q) (hE2 : ∀ e : (Nat × xM), x = Sum.inr (Sum.inl (Sum.inr (Sum.inr e))) → xMach G π J_X6_byStacks (d + 3) C Z 154 [(0, .ref e.1)] [] e.2 Q) (hC : ∀ e : (Nat × Int32 × xM), x = Sum.inr (Sum.inr e) → xMach G π J_X6_byStacks (d + 3) C Z 29 [(0, .ref e.1), (1, .int e.2.1)] [] e.2.2 Q) : xMach G π J_X6_byStacks (d + 3) C Z 109 [(0, .ref l0), (1, .int l1), (2, .int l2)] [.int s0] σ Q := by
  unfold f_X6_byStacks_j109 at hf
  refine xm_istore_n dX6_byStacks_109 (by decide) (xm_stL (L' := [(3, .int s0), (0, .ref l0), (1, .int l1), (2, .int l2)]) rfl ?_)
  exact xm_sub [1, 2, 3, 0] rfl (L_X6_byStacks_j110 σ l0 l1 l2 s0 hf hR hE0 hE1 hE2 hC)
def f_X6_byStacks_s29 (s : (Nat × Int32 × xM)) : Option ((Int32 × xM) ⊕ (((Nat × xM) ⊕ ((Nat × Int32 × xM) ⊕ (Nat × xM))) ⊕ (Nat × Int32 × xM))) :=
  xlet s.1 (fun l0 => xlet s.2.1 (fun l1 => xlet s.2.2 (fun σ => (gI σ l0 6 5).bind (fun x8 => (if x8 ≤ l1 then some (Sum.inr (Sum.inl (Sum.inr (Sum.inr (l0, σ))))) else (if xk σ l0 6 = true then (f_X6_nextWord σ l0).bind (fun p9 => (gI σ l0 6 5).bind (fun x10 => (if p9 < x10 then (sI σ l0 6 7 (p9 + (1 : Int32))).bind (fun σ11 => (gI σ11 l0 6 8).bind (fun x12 => (if x12 = (0 : Int32) then (gR σ11 l0 6 1).bind (fun x13 => (aI σ11 x13 14 p9).bind (fun x14 => (if x14 = (3 : Int32) then (gR σ11 l0 6 2).bind (fun x19 => (aI σ11 x19 14 p9).bind (fun x20 => (if xk σ11 l0 6 = true then (f_X6_takeSign σ11 l0 x20).bind (fun p21 => f_X6_byStacks_j109 p21.2 l0 l1 p9 p21.1) else none))) else (gR σ11 l0 6 1).bind (fun x15 => (aI σ11 x15 14 p9).bind (fun x16 => (if xk σ11 l0 6 = true then (f_X6_takeClosing σ11 l0 x16).bind (fun p17 => f_X6_byStacks_j109 p17.2 l0 l1 p9 p17.1) else none)))))) else (if xk σ11 l0 6 = true then (f_X6_takeOperand σ11 l0 p9).bind (fun p22 => f_X6_byStacks_j110 p22.2 l0 l1 p9 p22.1) else none)))) else some (Sum.inr (Sum.inl (Sum.inl (l0, σ))))))) else none))))))
set_option maxHeartbeats 4000000 in
set_option maxRecDepth 20000 in
theorem L_X6_byStacks_s29 {G : xG} {π : Nat → Nat} {d C Z : Nat} {Q : xQ} (σ : xM) (l0 : Nat) (l1 : Int32) {x : ((Int32 × xM) ⊕ (((Nat × xM) ⊕ ((Nat × Int32 × xM) ⊕ (Nat × xM))) ⊕ (Nat × Int32 × xM)))} (hf : f_X6_byStacks_s29 (l0, l1, σ) = some x) (hR : ∀ g, x = Sum.inl (g) → Q (.inl (some (.int g.1))) (g.2) π) (hE0 : ∀ e : (Nat × xM), x = Sum.inr (Sum.inl (Sum.inl e)) → xMach G π J_X6_byStacks (d + 3) C Z 50 [(0, .ref e.1)] [] e.2 Q) (hE1 : ∀ e : (Nat × Int32 × xM), x = Sum.inr (Sum.inl (Sum.inr (Sum.inl e))) → xMach G π J_X6_byStacks (d + 3) C Z 114 [(0, .ref e.1), (2, .int e.2.1)] [] e.2.2 Q) (hE2 : ∀ e : (Nat × xM), x = Sum.inr (Sum.inl (Sum.inr (Sum.inr e))) → xMach G π J_X6_byStacks (d + 3) C Z 154 [(0, .ref e.1)] [] e.2 Q) (hC : ∀ e : (Nat × Int32 × xM), x = Sum.inr (Sum.inr e) → xMach G π J_X6_byStacks (d + 3) C Z 29 [(0, .ref e.1), (1, .int e.2.1)] [] e.2.2 Q) : xMach G π J_X6_byStacks (d + 3) C Z 29 [(0, .ref l0), (1, .int l1)] [] σ Q := by
  have hf : (gI σ l0 6 5).bind (fun x8 => (if x8 ≤ l1 then some (Sum.inr (Sum.inl (Sum.inr (Sum.inr (l0, σ))))) else (if xk σ l0 6 = true then (f_X6_nextWord σ l0).bind (fun p9 => (gI σ l0 6 5).bind (fun x10 => (if p9 < x10 then (sI σ l0 6 7 (p9 + (1 : Int32))).bind (fun σ11 => (gI σ11 l0 6 8).bind (fun x12 => (if x12 = (0 : Int32) then (gR σ11 l0 6 1).bind (fun x13 => (aI σ11 x13 14 p9).bind (fun x14 => (if x14 = (3 : Int32) then (gR σ11 l0 6 2).bind (fun x19 => (aI σ11 x19 14 p9).bind (fun x20 => (if xk σ11 l0 6 = true then (f_X6_takeSign σ11 l0 x20).bind (fun p21 => f_X6_byStacks_j109 p21.2 l0 l1 p9 p21.1) else none))) else (gR σ11 l0 6 1).bind (fun x15 => (aI σ11 x15 14 p9).bind (fun x16 => (if xk σ11 l0 6 = true then (f_X6_takeClosing σ11 l0 x16).bind (fun p17 => f_X6_byStacks_j109 p17.2 l0 l1 p9 p17.1) else none)))))) else (if xk σ11 l0 6 = true then (f_X6_takeOperand σ11 l0 p9).bind (fun p22 => f_X6_byStacks_j110 p22.2 l0 l1 p9 p22.1) else none)))) else some (Sum.inr (Sum.inl (Sum.inl (l0, σ))))))) else none))) = some x := hf
  refine xm_iload_n dX6_byStacks_29 rfl ?_
  refine xm_aload_n dX6_byStacks_30 rfl ?_
  refine xb_getI (a := l0) (c := 6) (k := 5) dX6_byStacks_31 xcl6 (by decide) xw_337 rfl hf (fun x8 ex8 hf => ?_)
  refine xb_icmp_ge 154 dX6_byStacks_34 (by decide) hf (fun c hf => ?_) (fun c hf => ?_)
  · cases hf
    exact xm_sub [0] rfl (hE2 _ rfl)
  · refine xm_aload_n dX6_byStacks_37 rfl ?_
    refine xb_if hf (fun hb hf => ?_) (fun _ q => nomatch q)
    obtain ⟨p9, ep9, hf⟩ := xbind hf
    refine xb_callV (As := []) (v0 := (some (.int p9))) (τ0 := σ) dX6_byStacks_38 (xc_X6_nextWord _ _) xcl6 xw_747 xw_749 xs_5 hb rfl (Nat.le_of_ble_eq_true rfl) rfl (Nat.le_of_ble_eq_true rfl) (fun Q1 hq => m_X6_nextWord (d := d + 2) ep9 (fun g hg => by subst hg; exact hq)) ?_
    refine xm_istore_n dX6_byStacks_41 (by decide) (xm_stL (L' := [(2, .int p9), (0, .ref l0), (1, .int l1)]) rfl ?_)
    refine xm_iload_n dX6_byStacks_42 rfl ?_
    refine xm_aload_n dX6_byStacks_43 rfl ?_
    refine xb_getI (a := l0) (c := 6) (k := 5) dX6_byStacks_44 xcl6 (by decide) xw_337 rfl hf (fun x10 ex10 hf => ?_)
    refine xb_icmp_lt 53 dX6_byStacks_47 (by decide) hf (fun c hf => ?_) (fun c hf => ?_)
    · refine xm_aload_n dX6_byStacks_53 rfl ?_
      refine xm_iload_n dX6_byStacks_54 rfl ?_
      refine xm_iconst dX6_byStacks_55 (v := 1) (by decide) ?_
      refine xm_iadd dX6_byStacks_56 ?_
      refine xb_putI (a := l0) (c := 6) (k := 7) dX6_byStacks_57 xcl6 (by decide) xw_340 rfl rfl hf (fun σ11 eσ11 hf => ?_)
      refine xm_aload_n dX6_byStacks_60 rfl ?_
      refine xb_getI (a := l0) (c := 6) (k := 8) dX6_byStacks_61 xcl6 (by decide) xw_341 rfl hf (fun x12 ex12 hf => ?_)
      refine xb_if_eq 76 dX6_byStacks_64 (by decide) hf (fun c hf => ?_) (fun c hf => ?_)
      · refine xm_aload_n dX6_byStacks_76 rfl ?_
        refine xb_getR (a := l0) (c := 6) (k := 1) dX6_byStacks_77 xcl6 (by decide) xw_330 rfl hf (fun x13 ex13 hf => ?_)
        refine xm_iload_n dX6_byStacks_80 rfl ?_
        refine xb_iald dX6_byStacks_81 hf (fun x14 ex14 hf => ?_)
        refine xm_iconst dX6_byStacks_82 (v := 3) (by decide) ?_
        refine xb_icmp_ne 99 dX6_byStacks_83 (by decide) hf (fun c hf => ?_) (fun c hf => ?_)
        · refine xm_aload_n dX6_byStacks_99 rfl ?_
          refine xm_aload_n dX6_byStacks_100 rfl ?_
          refine xb_getR (a := l0) (c := 6) (k := 1) dX6_byStacks_101 xcl6 (by decide) xw_330 rfl hf (fun x15 ex15 hf => ?_)
          refine xm_iload_n dX6_byStacks_104 rfl ?_
          refine xb_iald dX6_byStacks_105 hf (fun x16 ex16 hf => ?_)
          refine xb_if hf (fun hb hf => ?_) (fun _ q => nomatch q)
          obtain ⟨p17, ep17, hf⟩ := xbind hf
          refine xb_callV (As := [.int x16]) (v0 := (some (.int p17.1))) (τ0 := p17.2) dX6_byStacks_106 (xc_X6_takeClosing _ _) xcl6 xw_792 xw_794 xs_13 hb rfl (Nat.le_of_ble_eq_true rfl) rfl (Nat.le_of_ble_eq_true rfl) (fun Q1 hq => m_X6_takeClosing (d := d + 0) ep17 (fun g hg => by subst hg; exact hq)) ?_
          exact xm_sub [1, 2, 0] rfl (L_X6_byStacks_j109 p17.2 l0 l1 p9 p17.1 hf hR hE0 hE1 hE2 hC)
        · refine xm_aload_n dX6_byStacks_86 rfl ?_
          refine xm_aload_n dX6_byStacks_87 rfl ?_
          refine xb_getR (a := l0) (c := 6) (k := 2) dX6_byStacks_88 xcl6 (by decide) xw_332 rfl hf (fun x19 ex19 hf => ?_)
          refine xm_iload_n dX6_byStacks_91 rfl ?_
          refine xb_iald dX6_byStacks_92 hf (fun x20 ex20 hf => ?_)
          refine xb_if hf (fun hb hf => ?_) (fun _ q => nomatch q)
          obtain ⟨p21, ep21, hf⟩ := xbind hf
          refine xb_callV (As := [.int x20]) (v0 := (some (.int p21.1))) (τ0 := p21.2) dX6_byStacks_93 (xc_X6_takeSign _ _) xcl6 xw_779 xw_781 xs_11 hb rfl (Nat.le_of_ble_eq_true rfl) rfl (Nat.le_of_ble_eq_true rfl) (fun Q1 hq => m_X6_takeSign (d := d + 0) ep21 (fun g hg => by subst hg; exact hq)) ?_
          refine xm_goto 109 dX6_byStacks_96 (by decide) ?_
          exact xm_sub [1, 2, 0] rfl (L_X6_byStacks_j109 p21.2 l0 l1 p9 p21.1 hf hR hE0 hE1 hE2 hC)
      · refine xm_aload_n dX6_byStacks_67 rfl ?_
        refine xm_iload_n dX6_byStacks_68 rfl ?_
        refine xb_if hf (fun hb hf => ?_) (fun _ q => nomatch q)
        obtain ⟨p22, ep22, hf⟩ := xbind hf
        refine xb_callV (As := [.int p9]) (v0 := (some (.int p22.1))) (τ0 := p22.2) dX6_byStacks_69 (xc_X6_takeOperand _ _) xcl6 xw_751 xw_753 xs_6 hb rfl (Nat.le_of_ble_eq_true rfl) rfl (Nat.le_of_ble_eq_true rfl) (fun Q1 hq => m_X6_takeOperand (d := d + 0) ep22 (fun g hg => by subst hg; exact hq)) ?_
        refine xm_istore_n dX6_byStacks_72 (by decide) (xm_stL (L' := [(3, .int p22.1), (2, .int p9), (0, .ref l0), (1, .int l1)]) rfl ?_)
        refine xm_goto 110 dX6_byStacks_73 (by decide) ?_
        exact xm_sub [2, 3, 1, 0] rfl (L_X6_byStacks_j110 p22.2 l0 l1 p9 p22.1 hf hR hE0 hE1 hE2 hC)
    · cases hf
      exact xm_sub [1] rfl (hE0 _ rfl)
theorem L_X6_byStacks_l29 {G : xG} {π : Nat → Nat} {d C Z : Nat} {Q : xQ} {s0 : (Nat × Int32 × xM)} {x : ((Int32 × xM) ⊕ ((Nat × xM) ⊕ ((Nat × Int32 × xM) ⊕ (Nat × xM))))} (h1 : xloop (f_X6_byStacks_s29) xF s0 = some x) (hR : ∀ g, x = Sum.inl g → Q (.inl (some (.int g.1))) (g.2) π) (hE0 : ∀ e : (Nat × xM), x = Sum.inr (Sum.inl e) → xMach G π J_X6_byStacks (d + 3) C Z 50 [(0, .ref e.1)] [] e.2 Q) (hE1 : ∀ e : (Nat × Int32 × xM), x = Sum.inr (Sum.inr (Sum.inl e)) → xMach G π J_X6_byStacks (d + 3) C Z 114 [(0, .ref e.1), (2, .int e.2.1)] [] e.2.2 Q) (hE2 : ∀ e : (Nat × xM), x = Sum.inr (Sum.inr (Sum.inr e)) → xMach G π J_X6_byStacks (d + 3) C Z 154 [(0, .ref e.1)] [] e.2 Q) : xMach G π J_X6_byStacks (d + 3) C Z 29 [(0, .ref s0.1), (1, .int s0.2.1)] [] s0.2.2 Q := by
  refine xloop_run (M := (fun s : (Nat × Int32 × xM) => xMach G π J_X6_byStacks (d + 3) C Z 29 [(0, .ref s.1), (1, .int s.2.1)] [] s.2.2 Q)) (r := x) ?_ xF _ h1
  intro s y hs hx
  exact L_X6_byStacks_s29 s.2.2 s.1 s.2.1 (x := y) hs (fun g hg => by subst hg; exact hR g hx) (fun e he => by subst he; exact hE0 e hx) (fun e he => by subst he; exact hE1 e hx) (fun e he => by subst he; exact hE2 e hx) (fun e he => by subst he; exact hx)
def f_X6_byStacks_j181 (σ : xM) (s0 : Int32) : Option (Int32 × xM) :=
  some (s0, σ)
set_option maxHeartbeats 4000000 in
set_option maxRecDepth 20000 in
theorem L_X6_byStacks_j181 {G : xG} {π : Nat → Nat} {d C Z : Nat} {Q : xQ} (σ : xM) (s0 : Int32) {x : (Int32 × xM)} (hf : f_X6_byStacks_j181 σ s0 = some x) (hR : ∀ g, x = g → Q (.inl (some (.int g.1))) (g.2) π) : xMach G π J_X6_byStacks (d + 3) C Z 181 [] [.int s0] σ Q := by
  unfold f_X6_byStacks_j181 at hf
  cases hf
  exact xm_iret dX6_byStacks_181 rfl (hR _ rfl)
def f_X6_byStacks_j173 (σ : xM) (l0 : Nat) : Option (Int32 × xM) :=
  (gI σ l0 6 6).bind (fun x25 => f_X6_byStacks_j181 σ x25)
set_option maxHeartbeats 4000000 in
set_option maxRecDepth 20000 in
theorem L_X6_byStacks_j173 {G : xG} {π : Nat → Nat} {d C Z : Nat} {Q : xQ} (σ : xM) (l0 : Nat) {x : (Int32 × xM)} (hf : f_X6_byStacks_j173 σ l0 = some x) (hR : ∀ g, x = g → Q (.inl (some (.int g.1))) (g.2) π) : xMach G π J_X6_byStacks (d + 3) C Z 173 [(0, .ref l0)] [] σ Q := by
  unfold f_X6_byStacks_j173 at hf
  refine xm_aload_n dX6_byStacks_173 rfl ?_
  refine xb_getI (a := l0) (c := 6) (k := 6) dX6_byStacks_174 xcl6 (by decide) xw_339 rfl hf (fun x25 ex25 hf => ?_)
  refine xm_goto 181 dX6_byStacks_177 (by decide) ?_
  exact xm_sub [] rfl (L_X6_byStacks_j181 σ x25 hf hR)
def f_X6_byStacks_j154 (σ : xM) (l0 : Nat) : Option (Int32 × xM) :=
  (if xk σ l0 6 = true then (f_X6_reduce σ l0 (0 : Int32)).bind (fun p23 => (gI p23 l0 6 8).bind (fun x24 => (if x24 = (0 : Int32) then (gI p23 l0 6 14).bind (fun x26 => (if x26 ≤ (0 : Int32) then f_X6_byStacks_j181 p23 (-1 : Int32) else f_X6_byStacks_j173 p23 l0)) else f_X6_byStacks_j173 p23 l0))) else none)
set_option maxHeartbeats 4000000 in
set_option maxRecDepth 20000 in
theorem L_X6_byStacks_j154 {G : xG} {π : Nat → Nat} {d C Z : Nat} {Q : xQ} (σ : xM) (l0 : Nat) {x : (Int32 × xM)} (hf : f_X6_byStacks_j154 σ l0 = some x) (hR : ∀ g, x = g → Q (.inl (some (.int g.1))) (g.2) π) : xMach G π J_X6_byStacks (d + 3) C Z 154 [(0, .ref l0)] [] σ Q := by
  unfold f_X6_byStacks_j154 at hf
  refine xm_aload_n dX6_byStacks_154 rfl ?_
  refine xm_iconst dX6_byStacks_155 (v := 0) (by decide) ?_
  refine xb_if hf (fun hb hf => ?_) (fun _ q => nomatch q)
  obtain ⟨p23, ep23, hf⟩ := xbind hf
  refine xb_callV (As := [.int (0 : Int32)]) (v0 := none) (τ0 := p23) dX6_byStacks_156 (xc_X6_reduce _ _) xcl6 xw_783 xw_785 xs_12 hb rfl (Nat.le_of_ble_eq_true rfl) rfl (Nat.le_of_ble_eq_true rfl) (fun Q1 hq => m_X6_reduce (d := d + 1) ep23 (fun g hg => by subst hg; exact hq)) ?_
  refine xm_aload_n dX6_byStacks_159 rfl ?_
  refine xb_getI (a := l0) (c := 6) (k := 8) dX6_byStacks_160 xcl6 (by decide) xw_341 rfl hf (fun x24 ex24 hf => ?_)
  refine xb_if_ne 173 dX6_byStacks_163 (by decide) hf (fun c hf => ?_) (fun c hf => ?_)
  · exact xm_sub [0] rfl (L_X6_byStacks_j173 p23 l0 hf hR)
  · refine xm_aload_n dX6_byStacks_166 rfl ?_
    refine xb_getI (a := l0) (c := 6) (k := 14) dX6_byStacks_167 xcl6 (by decide) xw_347 rfl hf (fun x26 ex26 hf => ?_)
    refine xb_if_le 180 dX6_byStacks_170 (by decide) hf (fun c hf => ?_) (fun c hf => ?_)
    · refine xm_iconst dX6_byStacks_180 (v := -1) (by decide) ?_
      exact xm_sub [] rfl (L_X6_byStacks_j181 p23 (-1 : Int32) hf hR)
    · exact xm_sub [0] rfl (L_X6_byStacks_j173 p23 l0 hf hR)
def f_X6_byStacks_j50 (σ : xM) (l0 : Nat) : Option (Int32 × xM) :=
  f_X6_byStacks_j154 σ l0
set_option maxHeartbeats 4000000 in
set_option maxRecDepth 20000 in
theorem L_X6_byStacks_j50 {G : xG} {π : Nat → Nat} {d C Z : Nat} {Q : xQ} (σ : xM) (l0 : Nat) {x : (Int32 × xM)} (hf : f_X6_byStacks_j50 σ l0 = some x) (hR : ∀ g, x = g → Q (.inl (some (.int g.1))) (g.2) π) : xMach G π J_X6_byStacks (d + 3) C Z 50 [(0, .ref l0)] [] σ Q := by
  unfold f_X6_byStacks_j50 at hf
  refine xm_goto 154 dX6_byStacks_50 (by decide) ?_
  exact xm_sub [0] rfl (L_X6_byStacks_j154 σ l0 hf hR)
def f_X6_byStacks_j147 (σ : xM) (s0 : Int32) : Option (Int32 × xM) :=
  some (s0, σ)
set_option maxHeartbeats 4000000 in
set_option maxRecDepth 20000 in
theorem L_X6_byStacks_j147 {G : xG} {π : Nat → Nat} {d C Z : Nat} {Q : xQ} (σ : xM) (s0 : Int32) {x : (Int32 × xM)} (hf : f_X6_byStacks_j147 σ s0 = some x) (hR : ∀ g, x = g → Q (.inl (some (.int g.1))) (g.2) π) : xMach G π J_X6_byStacks (d + 3) C Z 147 [] [.int s0] σ Q := by
  unfold f_X6_byStacks_j147 at hf
  cases hf
  exact xm_iret dX6_byStacks_147 rfl (hR _ rfl)
def f_X6_byStacks_j141 (σ : xM) (l0 : Nat) (l2 : Int32) : Option (Int32 × xM) :=
  (gR σ l0 6 3).bind (fun x28 => (aI σ x28 14 l2).bind (fun x29 => f_X6_byStacks_j147 σ x29))
set_option maxHeartbeats 4000000 in
set_option maxRecDepth 20000 in
theorem L_X6_byStacks_j141 {G : xG} {π : Nat → Nat} {d C Z : Nat} {Q : xQ} (σ : xM) (l0 : Nat) (l2 : Int32) {x : (Int32 × xM)} (hf : f_X6_byStacks_j141 σ l0 l2 = some x) (hR : ∀ g, x = g → Q (.inl (some (.int g.1))) (g.2) π) : xMach G π J_X6_byStacks (d + 3) C Z 141 [(0, .ref l0), (2, .int l2)] [] σ Q := by
  unfold f_X6_byStacks_j141 at hf
  refine xm_aload_n dX6_byStacks_141 rfl ?_
  refine xb_getR (a := l0) (c := 6) (k := 3) dX6_byStacks_142 xcl6 (by decide) xw_334 rfl hf (fun x28 ex28 hf => ?_)
  refine xm_iload_n dX6_byStacks_145 rfl ?_
  refine xb_iald dX6_byStacks_146 hf (fun x29 ex29 hf => ?_)
  exact xm_sub [] rfl (L_X6_byStacks_j147 σ x29 hf hR)
def f_X6_byStacks_j114 (σ : xM) (l0 : Nat) (l2 : Int32) : Option (Int32 × xM) :=
  (gI σ l0 6 8).bind (fun x27 => (if x27 = (0 : Int32) then f_X6_byStacks_j141 σ l0 l2 else (gR σ l0 6 1).bind (fun x30 => (aI σ x30 14 l2).bind (fun x31 => (if x31 = (7 : Int32) then (gR σ l0 6 2).bind (fun x32 => (aI σ x32 14 l2).bind (fun x33 => f_X6_byStacks_j147 σ x33)) else f_X6_byStacks_j141 σ l0 l2)))))
set_option maxHeartbeats 4000000 in
set_option maxRecDepth 20000 in
theorem L_X6_byStacks_j114 {G : xG} {π : Nat → Nat} {d C Z : Nat} {Q : xQ} (σ : xM) (l0 : Nat) (l2 : Int32) {x : (Int32 × xM)} (hf : f_X6_byStacks_j114 σ l0 l2 = some x) (hR : ∀ g, x = g → Q (.inl (some (.int g.1))) (g.2) π) : xMach G π J_X6_byStacks (d + 3) C Z 114 [(0, .ref l0), (2, .int l2)] [] σ Q := by
  unfold f_X6_byStacks_j114 at hf
  refine xm_aload_n dX6_byStacks_114 rfl ?_
  refine xb_getI (a := l0) (c := 6) (k := 8) dX6_byStacks_115 xcl6 (by decide) xw_341 rfl hf (fun x27 ex27 hf => ?_)
  refine xb_if_eq 141 dX6_byStacks_118 (by decide) hf (fun c hf => ?_) (fun c hf => ?_)
  · exact xm_sub [0, 1] rfl (L_X6_byStacks_j141 σ l0 l2 hf hR)
  · refine xm_aload_n dX6_byStacks_121 rfl ?_
    refine xb_getR (a := l0) (c := 6) (k := 1) dX6_byStacks_122 xcl6 (by decide) xw_330 rfl hf (fun x30 ex30 hf => ?_)
    refine xm_iload_n dX6_byStacks_125 rfl ?_
    refine xb_iald dX6_byStacks_126 hf (fun x31 ex31 hf => ?_)
    refine xm_bipush dX6_byStacks_127 (v := 7) (by decide) ?_
    refine xb_icmp_ne 141 dX6_byStacks_129 (by decide) hf (fun c hf => ?_) (fun c hf => ?_)
    · exact xm_sub [0, 1] rfl (L_X6_byStacks_j141 σ l0 l2 hf hR)
    · refine xm_aload_n dX6_byStacks_132 rfl ?_
      refine xb_getR (a := l0) (c := 6) (k := 2) dX6_byStacks_133 xcl6 (by decide) xw_332 rfl hf (fun x32 ex32 hf => ?_)
      refine xm_iload_n dX6_byStacks_136 rfl ?_
      refine xb_iald dX6_byStacks_137 hf (fun x33 ex33 hf => ?_)
      refine xm_goto 147 dX6_byStacks_138 (by decide) ?_
      exact xm_sub [] rfl (L_X6_byStacks_j147 σ x33 hf hR)
def f_X6_byStacks (σ : xM) (l0 : Nat) : Option (Int32 × xM) :=
  (sI σ l0 6 7 (0 : Int32)).bind (fun σ1 => (sI σ1 l0 6 14 (0 : Int32)).bind (fun σ2 => (sI σ2 l0 6 16 (0 : Int32)).bind (fun σ3 => (sZ σ3 l0 6 8 (1 : Int32)).bind (fun σ4 => (gR σ4 l0 6 17).bind (fun x5 => (if xk σ4 x5 9 = true then (f_X9_clear σ4 x5).bind (fun p6 => xlet (0 : Int32) (fun v7 => (xloop (f_X6_byStacks_s29 ) xF (l0, v7, p6)).bind (Sum.elim (fun g => some g) (Sum.elim (fun e => f_X6_byStacks_j50 e.2 e.1) (Sum.elim (fun e => f_X6_byStacks_j114 e.2.2 e.1 e.2.1) (fun e => f_X6_byStacks_j154 e.2 e.1)))))) else none))))))
set_option maxHeartbeats 4000000 in
set_option maxRecDepth 20000 in
theorem m_X6_byStacks {G : xG} {π : Nat → Nat} {d C Z : Nat} {Q : xQ} {σ : xM} {l0 : Nat} {x : (Int32 × xM)} (hf : f_X6_byStacks σ l0 = some x) (hR : ∀ g, x = g → Q (.inl (some (.int g.1))) (g.2) π) : xMach G π J_X6_byStacks (d + 3) C Z 0 (lv_args 0 [.ref l0]) [] σ Q := by
  unfold f_X6_byStacks at hf
  refine xm_stL (L' := [(0, .ref l0)]) rfl ?_
  refine xm_aload_n dX6_byStacks_0 rfl ?_
  refine xm_iconst dX6_byStacks_1 (v := 0) (by decide) ?_
  refine xb_putI (a := l0) (c := 6) (k := 7) dX6_byStacks_2 xcl6 (by decide) xw_340 rfl rfl hf (fun σ1 eσ1 hf => ?_)
  refine xm_aload_n dX6_byStacks_5 rfl ?_
  refine xm_iconst dX6_byStacks_6 (v := 0) (by decide) ?_
  refine xb_putI (a := l0) (c := 6) (k := 14) dX6_byStacks_7 xcl6 (by decide) xw_347 rfl rfl hf (fun σ2 eσ2 hf => ?_)
  refine xm_aload_n dX6_byStacks_10 rfl ?_
  refine xm_iconst dX6_byStacks_11 (v := 0) (by decide) ?_
  refine xb_putI (a := l0) (c := 6) (k := 16) dX6_byStacks_12 xcl6 (by decide) xw_349 rfl rfl hf (fun σ3 eσ3 hf => ?_)
  refine xm_aload_n dX6_byStacks_15 rfl ?_
  refine xm_iconst dX6_byStacks_16 (v := 1) (by decide) ?_
  refine xb_putZ (a := l0) (c := 6) (k := 8) dX6_byStacks_17 xcl6 (by decide) xw_341 rfl rfl hf (fun σ4 eσ4 hf => ?_)
  refine xm_aload_n dX6_byStacks_20 rfl ?_
  refine xb_getR (a := l0) (c := 6) (k := 17) dX6_byStacks_21 xcl6 (by decide) xw_350 rfl hf (fun x5 ex5 hf => ?_)
  refine xb_if hf (fun hb hf => ?_) (fun _ q => nomatch q)
  obtain ⟨p6, ep6, hf⟩ := xbind hf
  refine xb_callV (As := []) (v0 := none) (τ0 := p6) dX6_byStacks_24 (xc_X9_clear _ _) xcl9 xw_743 xw_744 xw_745 hb rfl (Nat.le_of_ble_eq_true rfl) rfl (Nat.le_of_ble_eq_true rfl) (fun Q1 hq => m_X9_clear (d := d + 2) ep6 (fun g hg => by subst hg; exact hq)) ?_
  refine xm_iconst dX6_byStacks_27 (v := 0) (by decide) ?_
  refine xb_topi hf (fun v7 ev7 hf => ?_)
  refine xm_istore_n dX6_byStacks_28 (by decide) (xm_stL (L' := [(1, .int v7), (0, .ref l0)]) rfl ?_)
  obtain ⟨o, h1, hf⟩ := xbind hf
  refine xm_sub [1, 0] rfl (L_X6_byStacks_l29  h1 (fun g hg => ?_) (fun e he => ?_) (fun e he => ?_) (fun e he => ?_))
  · subst hg
    cases hf
    exact hR _ rfl
  · subst he
    rw [Sum.elim_inr, Sum.elim_inl] at hf
    have hf : f_X6_byStacks_j50 e.2 e.1 = some _ := hf
    exact xm_sub [0] rfl (L_X6_byStacks_j50 e.2 e.1 hf hR)
  · subst he
    rw [Sum.elim_inr, Sum.elim_inr, Sum.elim_inl] at hf
    have hf : f_X6_byStacks_j114 e.2.2 e.1 e.2.1 = some _ := hf
    exact xm_sub [0, 1] rfl (L_X6_byStacks_j114 e.2.2 e.1 e.2.1 hf hR)
  · subst he
    rw [Sum.elim_inr, Sum.elim_inr, Sum.elim_inr] at hf
    have hf : f_X6_byStacks_j154 e.2 e.1 = some _ := hf
    exact xm_sub [0] rfl (L_X6_byStacks_j154 e.2 e.1 hf hR)
-- Rankwise$Reader.opensPair(I)Z
def f_X6_opensPair_j25 (σ : xM) (s0 : Int32) : Option Int32 :=
  (xz s0).bind (fun b2 => some b2)
set_option maxHeartbeats 4000000 in
set_option maxRecDepth 20000 in
theorem L_X6_opensPair_j25 {G : xG} {π : Nat → Nat} {d C Z : Nat} {Q : xQ} (σ : xM) (s0 : Int32) {x : Int32} (hf : f_X6_opensPair_j25 σ s0 = some x) (hR : ∀ g, x = g → Q (.inl (some (.int g))) (σ) π) : xMach G π J_X6_opensPair (d + 1) C Z 25 [] [.int s0] σ Q := by
  unfold f_X6_opensPair_j25 at hf
  obtain ⟨b2, eb2, hf⟩ := xbind hf
  obtain ⟨rfl, hz⟩ := xz_of eb2
  cases hf
  exact xm_zret dX6_opensPair_25 rfl hz (hR _ rfl)
def f_X6_opensPair_j24 (σ : xM)  : Option Int32 :=
  f_X6_opensPair_j25 σ (0 : Int32)
set_option maxHeartbeats 4000000 in
set_option maxRecDepth 20000 in
theorem L_X6_opensPair_j24 {G : xG} {π : Nat → Nat} {d C Z : Nat} {Q : xQ} (σ : xM)  {x : Int32} (hf : f_X6_opensPair_j24 σ = some x) (hR : ∀ g, x = g → Q (.inl (some (.int g))) (σ) π) : xMach G π J_X6_opensPair (d + 1) C Z 24 [] [] σ Q := by
  unfold f_X6_opensPair_j24 at hf
  refine xm_iconst dX6_opensPair_24 (v := 0) (by decide) ?_
  exact xm_sub [] rfl (L_X6_opensPair_j25 σ (0 : Int32) hf hR)
def f_X6_opensPair (σ : xM) (l0 : Nat) (l1 : Int32) : Option Int32 :=
  (if xk σ l0 6 = true then (f_X6_kindAt σ l0 l1).bind (fun p1 => (if p1 = (4 : Int32) then (if xk σ l0 6 = true then (f_X6_kindAt σ l0 (l1 - (1 : Int32))).bind (fun p3 => (if p3 = (1 : Int32) then f_X6_opensPair_j24 σ else f_X6_opensPair_j25 σ (1 : Int32))) else none) else f_X6_opensPair_j24 σ)) else none)
set_option maxHeartbeats 4000000 in
set_option maxRecDepth 20000 in
theorem m_X6_opensPair {G : xG} {π : Nat → Nat} {d C Z : Nat} {Q : xQ} {σ : xM} {l0 : Nat} {l1 : Int32} {x : Int32} (hf : f_X6_opensPair σ l0 l1 = some x) (hR : ∀ g, x = g → Q (.inl (some (.int g))) (σ) π) : xMach G π J_X6_opensPair (d + 1) C Z 0 (lv_args 0 [.ref l0, .int l1]) [] σ Q := by
  unfold f_X6_opensPair at hf
  refine xm_stL (L' := [(0, .ref l0), (1, .int l1)]) rfl ?_
  refine xm_aload_n dX6_opensPair_0 rfl ?_
  refine xm_iload_n dX6_opensPair_1 rfl ?_
  refine xb_if hf (fun hb hf => ?_) (fun _ q => nomatch q)
  obtain ⟨p1, ep1, hf⟩ := xbind hf
  refine xb_callV (As := [.int l1]) (v0 := (some (.int p1))) (τ0 := σ) dX6_opensPair_2 (xc_X6_kindAt _ _) xcl6 xw_767 xw_769 xs_9 hb rfl (Nat.le_of_ble_eq_true rfl) rfl (Nat.le_of_ble_eq_true rfl) (fun Q1 hq => m_X6_kindAt (d := d + 0) ep1 (fun g hg => by subst hg; exact hq)) ?_
  refine xm_iconst dX6_opensPair_5 (v := 4) (by decide) ?_
  refine xb_icmp_ne 24 dX6_opensPair_6 (by decide) hf (fun c hf => ?_) (fun c hf => ?_)
  · exact xm_sub [] rfl (L_X6_opensPair_j24 σ hf hR)
  · refine xm_aload_n dX6_opensPair_9 rfl ?_
    refine xm_iload_n dX6_opensPair_10 rfl ?_
    refine xm_iconst dX6_opensPair_11 (v := 1) (by decide) ?_
    refine xm_isub dX6_opensPair_12 ?_
    refine xb_if hf (fun hb hf => ?_) (fun _ q => nomatch q)
    obtain ⟨p3, ep3, hf⟩ := xbind hf
    refine xb_callV (As := [.int (l1 - (1 : Int32))]) (v0 := (some (.int p3))) (τ0 := σ) dX6_opensPair_13 (xc_X6_kindAt _ _) xcl6 xw_767 xw_769 xs_9 hb rfl (Nat.le_of_ble_eq_true rfl) rfl (Nat.le_of_ble_eq_true rfl) (fun Q1 hq => m_X6_kindAt (d := d + 0) ep3 (fun g hg => by subst hg; exact hq)) ?_
    refine xm_iconst dX6_opensPair_16 (v := 1) (by decide) ?_
    refine xb_icmp_eq 24 dX6_opensPair_17 (by decide) hf (fun c hf => ?_) (fun c hf => ?_)
    · exact xm_sub [] rfl (L_X6_opensPair_j24 σ hf hR)
    · refine xm_iconst dX6_opensPair_20 (v := 1) (by decide) ?_
      refine xm_goto 25 dX6_opensPair_21 (by decide) ?_
      exact xm_sub [] rfl (L_X6_opensPair_j25 σ (1 : Int32) hf hR)
-- Rankwise$Reader.partnerOf(I)I
def f_X6_partnerOf_j47 (σ : xM) (l0 : Nat) (l1 : Int32) (l2 : Int32) (l3 : Int32) : Option (Int32 ⊕ (((Int32) ⊕ (Int32)) ⊕ (Nat × Int32 × Int32 × Int32))) :=
  xlet (l3 + (1 : Int32)) (fun v7 => some (Sum.inr (Sum.inr (l0, l1, l2, v7))))
set_option maxHeartbeats 4000000 in
set_option maxRecDepth 20000 in
theorem L_X6_partnerOf_j47 {G : xG} {π : Nat → Nat} {d C Z : Nat} {Q : xQ} (σ : xM) (l0 : Nat) (l1 : Int32) (l2 : Int32) (l3 : Int32) {x : (Int32 ⊕ (((Int32) ⊕ (Int32)) ⊕ (Nat × Int32 × Int32 × Int32)))} (hf : f_X6_partnerOf_j47 σ l0 l1 l2 l3 = some x) (hR : ∀ g, x = Sum.inl (g) → Q (.inl (some (.int g))) (σ) π) (hE0 : ∀ e : (Int32), x = Sum.inr (Sum.inl (Sum.inl e)) → xMach G π J_X6_partnerOf (d + 0) C Z 45 [(3, .int e)] [] σ Q) (hE1 : ∀ e : (Int32), x = Sum.inr (Sum.inl (Sum.inr e)) → xMach G π J_X6_partnerOf (d + 0) C Z 53 [(1, .int e)] [] σ Q) (hC : ∀ e : (Nat × Int32 × Int32 × Int32), x = Sum.inr (Sum.inr e) → xMach G π J_X6_partnerOf (d + 0) C Z 4 [(0, .ref e.1), (1, .int e.2.1), (2, .int e.2.2.1), (3, .int e.2.2.2)] [] σ Q) : xMach G π J_X6_partnerOf (d + 0) C Z 47 [(0, .ref l0), (1, .int l1), (2, .int l2), (3, .int l3)] [] σ Q := by
  unfold f_X6_partnerOf_j47 at hf
  refine xb_iinc dX6_partnerOf_47 rfl (by decide) (by decide) hf (fun v7 ev7 hf => xm_stL (L' := [(3, .int v7), (0, .ref l0), (1, .int l1), (2, .int l2)]) rfl ?_)
  refine xm_goto 4 dX6_partnerOf_50 (by decide) ?_
  cases hf
  exact xm_sub [1, 2, 3, 0] rfl (hC _ rfl)
def f_X6_partnerOf_s4 (σ : xM) (s : (Nat × Int32 × Int32 × Int32)) : Option (Int32 ⊕ (((Int32) ⊕ (Int32)) ⊕ (Nat × Int32 × Int32 × Int32))) :=
  xlet s.1 (fun l0 => xlet s.2.1 (fun l1 => xlet s.2.2.1 (fun l2 => xlet s.2.2.2 (fun l3 => (gI σ l0 6 5).bind (fun x2 => (if x2 ≤ l3 then some (Sum.inr (Sum.inl (Sum.inr l1))) else (gR σ l0 6 1).bind (fun x3 => (aI σ x3 14 l3).bind (fun x4 => (if x4 = (4 : Int32) then xlet (l2 + (1 : Int32)) (fun v9 => f_X6_partnerOf_j47 σ l0 l1 v9 l3) else (gR σ l0 6 1).bind (fun x5 => (aI σ x5 14 l3).bind (fun x6 => (if x6 = (5 : Int32) then xlet (l2 + (-1 : Int32)) (fun v8 => (if v8 = (0 : Int32) then some (Sum.inr (Sum.inl (Sum.inl l3))) else f_X6_partnerOf_j47 σ l0 l1 v8 l3)) else f_X6_partnerOf_j47 σ l0 l1 l2 l3))))))))))))
set_option maxHeartbeats 4000000 in
set_option maxRecDepth 20000 in
theorem L_X6_partnerOf_s4 {G : xG} {π : Nat → Nat} {d C Z : Nat} {Q : xQ} (σ : xM) (l0 : Nat) (l1 : Int32) (l2 : Int32) (l3 : Int32) {x : (Int32 ⊕ (((Int32) ⊕ (Int32)) ⊕ (Nat × Int32 × Int32 × Int32)))} (hf : f_X6_partnerOf_s4 σ (l0, l1, l2, l3) = some x) (hR : ∀ g, x = Sum.inl (g) → Q (.inl (some (.int g))) (σ) π) (hE0 : ∀ e : (Int32), x = Sum.inr (Sum.inl (Sum.inl e)) → xMach G π J_X6_partnerOf (d + 0) C Z 45 [(3, .int e)] [] σ Q) (hE1 : ∀ e : (Int32), x = Sum.inr (Sum.inl (Sum.inr e)) → xMach G π J_X6_partnerOf (d + 0) C Z 53 [(1, .int e)] [] σ Q) (hC : ∀ e : (Nat × Int32 × Int32 × Int32), x = Sum.inr (Sum.inr e) → xMach G π J_X6_partnerOf (d + 0) C Z 4 [(0, .ref e.1), (1, .int e.2.1), (2, .int e.2.2.1), (3, .int e.2.2.2)] [] σ Q) : xMach G π J_X6_partnerOf (d + 0) C Z 4 [(0, .ref l0), (1, .int l1), (2, .int l2), (3, .int l3)] [] σ Q := by
  have hf : (gI σ l0 6 5).bind (fun x2 => (if x2 ≤ l3 then some (Sum.inr (Sum.inl (Sum.inr l1))) else (gR σ l0 6 1).bind (fun x3 => (aI σ x3 14 l3).bind (fun x4 => (if x4 = (4 : Int32) then xlet (l2 + (1 : Int32)) (fun v9 => f_X6_partnerOf_j47 σ l0 l1 v9 l3) else (gR σ l0 6 1).bind (fun x5 => (aI σ x5 14 l3).bind (fun x6 => (if x6 = (5 : Int32) then xlet (l2 + (-1 : Int32)) (fun v8 => (if v8 = (0 : Int32) then some (Sum.inr (Sum.inl (Sum.inl l3))) else f_X6_partnerOf_j47 σ l0 l1 v8 l3)) else f_X6_partnerOf_j47 σ l0 l1 l2 l3)))))))) = some x := hf
  refine xm_iload_n dX6_partnerOf_4 rfl ?_
  refine xm_aload_n dX6_partnerOf_5 rfl ?_
  refine xb_getI (a := l0) (c := 6) (k := 5) dX6_partnerOf_6 xcl6 (by decide) xw_337 rfl hf (fun x2 ex2 hf => ?_)
  refine xb_icmp_ge 53 dX6_partnerOf_9 (by decide) hf (fun c hf => ?_) (fun c hf => ?_)
  · cases hf
    exact xm_sub [1] rfl (hE1 _ rfl)
  · refine xm_aload_n dX6_partnerOf_12 rfl ?_
    refine xb_getR (a := l0) (c := 6) (k := 1) dX6_partnerOf_13 xcl6 (by decide) xw_330 rfl hf (fun x3 ex3 hf => ?_)
    refine xm_iload_n dX6_partnerOf_16 rfl ?_
    refine xb_iald dX6_partnerOf_17 hf (fun x4 ex4 hf => ?_)
    refine xm_iconst dX6_partnerOf_18 (v := 4) (by decide) ?_
    refine xb_icmp_ne 28 dX6_partnerOf_19 (by decide) hf (fun c hf => ?_) (fun c hf => ?_)
    · refine xm_aload_n dX6_partnerOf_28 rfl ?_
      refine xb_getR (a := l0) (c := 6) (k := 1) dX6_partnerOf_29 xcl6 (by decide) xw_330 rfl hf (fun x5 ex5 hf => ?_)
      refine xm_iload_n dX6_partnerOf_32 rfl ?_
      refine xb_iald dX6_partnerOf_33 hf (fun x6 ex6 hf => ?_)
      refine xm_iconst dX6_partnerOf_34 (v := 5) (by decide) ?_
      refine xb_icmp_ne 47 dX6_partnerOf_35 (by decide) hf (fun c hf => ?_) (fun c hf => ?_)
      · exact xm_sub [0, 1, 2, 3] rfl (L_X6_partnerOf_j47 σ l0 l1 l2 l3 hf hR hE0 hE1 hC)
      · refine xb_iinc dX6_partnerOf_38 rfl (by decide) (by decide) hf (fun v8 ev8 hf => xm_stL (L' := [(2, .int v8), (0, .ref l0), (1, .int l1), (3, .int l3)]) rfl ?_)
        refine xm_iload_n dX6_partnerOf_41 rfl ?_
        refine xb_if_ne 47 dX6_partnerOf_42 (by decide) hf (fun c hf => ?_) (fun c hf => ?_)
        · exact xm_sub [1, 2, 0, 3] rfl (L_X6_partnerOf_j47 σ l0 l1 v8 l3 hf hR hE0 hE1 hC)
        · cases hf
          exact xm_sub [3] rfl (hE0 _ rfl)
    · refine xb_iinc dX6_partnerOf_22 rfl (by decide) (by decide) hf (fun v9 ev9 hf => xm_stL (L' := [(2, .int v9), (0, .ref l0), (1, .int l1), (3, .int l3)]) rfl ?_)
      refine xm_goto 47 dX6_partnerOf_25 (by decide) ?_
      exact xm_sub [1, 2, 0, 3] rfl (L_X6_partnerOf_j47 σ l0 l1 v9 l3 hf hR hE0 hE1 hC)
theorem L_X6_partnerOf_l4 {G : xG} {π : Nat → Nat} {d C Z : Nat} {Q : xQ} (σ : xM) {s0 : (Nat × Int32 × Int32 × Int32)} {x : (Int32 ⊕ ((Int32) ⊕ (Int32)))} (h1 : xloop (f_X6_partnerOf_s4 σ) xF s0 = some x) (hR : ∀ g, x = Sum.inl g → Q (.inl (some (.int g))) (σ) π) (hE0 : ∀ e : (Int32), x = Sum.inr (Sum.inl e) → xMach G π J_X6_partnerOf (d + 0) C Z 45 [(3, .int e)] [] σ Q) (hE1 : ∀ e : (Int32), x = Sum.inr (Sum.inr e) → xMach G π J_X6_partnerOf (d + 0) C Z 53 [(1, .int e)] [] σ Q) : xMach G π J_X6_partnerOf (d + 0) C Z 4 [(0, .ref s0.1), (1, .int s0.2.1), (2, .int s0.2.2.1), (3, .int s0.2.2.2)] [] σ Q := by
  refine xloop_run (M := (fun s : (Nat × Int32 × Int32 × Int32) => xMach G π J_X6_partnerOf (d + 0) C Z 4 [(0, .ref s.1), (1, .int s.2.1), (2, .int s.2.2.1), (3, .int s.2.2.2)] [] σ Q)) (r := x) ?_ xF _ h1
  intro s y hs hx
  exact L_X6_partnerOf_s4 σ s.1 s.2.1 s.2.2.1 s.2.2.2 (x := y) hs (fun g hg => by subst hg; exact hR g hx) (fun e he => by subst he; exact hE0 e hx) (fun e he => by subst he; exact hE1 e hx) (fun e he => by subst he; exact hx)
def f_X6_partnerOf_j45 (σ : xM) (l3 : Int32) : Option Int32 :=
  some l3
set_option maxHeartbeats 4000000 in
set_option maxRecDepth 20000 in
theorem L_X6_partnerOf_j45 {G : xG} {π : Nat → Nat} {d C Z : Nat} {Q : xQ} (σ : xM) (l3 : Int32) {x : Int32} (hf : f_X6_partnerOf_j45 σ l3 = some x) (hR : ∀ g, x = g → Q (.inl (some (.int g))) (σ) π) : xMach G π J_X6_partnerOf (d + 0) C Z 45 [(3, .int l3)] [] σ Q := by
  unfold f_X6_partnerOf_j45 at hf
  refine xm_iload_n dX6_partnerOf_45 rfl ?_
  cases hf
  exact xm_iret dX6_partnerOf_46 rfl (hR _ rfl)
def f_X6_partnerOf_j53 (σ : xM) (l1 : Int32) : Option Int32 :=
  some l1
set_option maxHeartbeats 4000000 in
set_option maxRecDepth 20000 in
theorem L_X6_partnerOf_j53 {G : xG} {π : Nat → Nat} {d C Z : Nat} {Q : xQ} (σ : xM) (l1 : Int32) {x : Int32} (hf : f_X6_partnerOf_j53 σ l1 = some x) (hR : ∀ g, x = g → Q (.inl (some (.int g))) (σ) π) : xMach G π J_X6_partnerOf (d + 0) C Z 53 [(1, .int l1)] [] σ Q := by
  unfold f_X6_partnerOf_j53 at hf
  refine xm_iload_n dX6_partnerOf_53 rfl ?_
  cases hf
  exact xm_iret dX6_partnerOf_54 rfl (hR _ rfl)
def f_X6_partnerOf (σ : xM) (l0 : Nat) (l1 : Int32) : Option Int32 :=
  xlet (0 : Int32) (fun v1 => (xloop (f_X6_partnerOf_s4 σ ) xF (l0, l1, v1, l1)).bind (Sum.elim (fun g => some g) (Sum.elim (fun e => f_X6_partnerOf_j45 σ e) (fun e => f_X6_partnerOf_j53 σ e))))
set_option maxHeartbeats 4000000 in
set_option maxRecDepth 20000 in
theorem m_X6_partnerOf {G : xG} {π : Nat → Nat} {d C Z : Nat} {Q : xQ} {σ : xM} {l0 : Nat} {l1 : Int32} {x : Int32} (hf : f_X6_partnerOf σ l0 l1 = some x) (hR : ∀ g, x = g → Q (.inl (some (.int g))) (σ) π) : xMach G π J_X6_partnerOf (d + 0) C Z 0 (lv_args 0 [.ref l0, .int l1]) [] σ Q := by
  unfold f_X6_partnerOf at hf
  refine xm_stL (L' := [(0, .ref l0), (1, .int l1)]) rfl ?_
  refine xm_iconst dX6_partnerOf_0 (v := 0) (by decide) ?_
  refine xb_topi hf (fun v1 ev1 hf => ?_)
  refine xm_istore_n dX6_partnerOf_1 (by decide) (xm_stL (L' := [(2, .int v1), (0, .ref l0), (1, .int l1)]) rfl ?_)
  refine xm_iload_n dX6_partnerOf_2 rfl ?_
  refine xm_istore_n dX6_partnerOf_3 (by decide) (xm_stL (L' := [(3, .int l1), (2, .int v1), (0, .ref l0), (1, .int l1)]) rfl ?_)
  obtain ⟨o, h1, hf⟩ := xbind hf
  refine xm_sub [2, 3, 1, 0] rfl (L_X6_partnerOf_l4 σ h1 (fun g hg => ?_) (fun e he => ?_) (fun e he => ?_))
  · subst hg
    cases hf
    exact hR _ rfl
  · subst he
    rw [Sum.elim_inr, Sum.elim_inl] at hf
    have hf : f_X6_partnerOf_j45 σ e = some _ := hf
    exact xm_sub [0] rfl (L_X6_partnerOf_j45 σ e hf hR)
  · subst he
    rw [Sum.elim_inr, Sum.elim_inr] at hf
    have hf : f_X6_partnerOf_j53 σ e = some _ := hf
    exact xm_sub [0] rfl (L_X6_partnerOf_j53 σ e hf hR)
-- Rankwise$Reader.hide(IIZ)V
def f_X6_hide_j38 (σ : xM)  : Option xM :=
  some σ
set_option maxHeartbeats 4000000 in
set_option maxRecDepth 20000 in
theorem L_X6_hide_j38 {G : xG} {π : Nat → Nat} {d C Z : Nat} {Q : xQ} (σ : xM)  {x : xM} (hf : f_X6_hide_j38 σ = some x) (hR : ∀ g, x = g → Q (.inl none) (g) π) : xMach G π J_X6_hide (d + 0) C Z 38 [] [] σ Q := by
  unfold f_X6_hide_j38 at hf
  cases hf
  exact xm_vret dX6_hide_38 rfl (hR _ rfl)
def f_X6_hide (σ : xM) (l0 : Nat) (l1 : Int32) (l2 : Int32) (l3 : Int32) : Option xM :=
  (if l1 < (0 : Int32) then f_X6_hide_j38 σ else (gI σ l0 6 5).bind (fun x1 => (if x1 ≤ l1 then f_X6_hide_j38 σ else (if l2 < (0 : Int32) then f_X6_hide_j38 σ else (gI σ l0 6 5).bind (fun x2 => (if x2 ≤ l2 then f_X6_hide_j38 σ else (gR σ l0 6 4).bind (fun x3 => (wZ σ x3 l1 l3).bind (fun σ4 => (gR σ4 l0 6 4).bind (fun x5 => (wZ σ4 x5 l2 l3).bind (fun σ6 => f_X6_hide_j38 σ6))))))))))
set_option maxHeartbeats 4000000 in
set_option maxRecDepth 20000 in
theorem m_X6_hide {G : xG} {π : Nat → Nat} {d C Z : Nat} {Q : xQ} {σ : xM} {l0 : Nat} {l1 : Int32} {l2 : Int32} {l3 : Int32} {x : xM} (hf : f_X6_hide σ l0 l1 l2 l3 = some x) (hR : ∀ g, x = g → Q (.inl none) (g) π) : xMach G π J_X6_hide (d + 0) C Z 0 (lv_args 0 [.ref l0, .int l1, .int l2, .int l3]) [] σ Q := by
  unfold f_X6_hide at hf
  refine xm_stL (L' := [(0, .ref l0), (1, .int l1), (2, .int l2), (3, .int l3)]) rfl ?_
  refine xm_iload_n dX6_hide_0 rfl ?_
  refine xb_if_lt 38 dX6_hide_1 (by decide) hf (fun c hf => ?_) (fun c hf => ?_)
  · exact xm_sub [] rfl (L_X6_hide_j38 σ hf hR)
  · refine xm_iload_n dX6_hide_4 rfl ?_
    refine xm_aload_n dX6_hide_5 rfl ?_
    refine xb_getI (a := l0) (c := 6) (k := 5) dX6_hide_6 xcl6 (by decide) xw_337 rfl hf (fun x1 ex1 hf => ?_)
    refine xb_icmp_ge 38 dX6_hide_9 (by decide) hf (fun c hf => ?_) (fun c hf => ?_)
    · exact xm_sub [] rfl (L_X6_hide_j38 σ hf hR)
    · refine xm_iload_n dX6_hide_12 rfl ?_
      refine xb_if_lt 38 dX6_hide_13 (by decide) hf (fun c hf => ?_) (fun c hf => ?_)
      · exact xm_sub [] rfl (L_X6_hide_j38 σ hf hR)
      · refine xm_iload_n dX6_hide_16 rfl ?_
        refine xm_aload_n dX6_hide_17 rfl ?_
        refine xb_getI (a := l0) (c := 6) (k := 5) dX6_hide_18 xcl6 (by decide) xw_337 rfl hf (fun x2 ex2 hf => ?_)
        refine xb_icmp_ge 38 dX6_hide_21 (by decide) hf (fun c hf => ?_) (fun c hf => ?_)
        · exact xm_sub [] rfl (L_X6_hide_j38 σ hf hR)
        · refine xm_aload_n dX6_hide_24 rfl ?_
          refine xb_getR (a := l0) (c := 6) (k := 4) dX6_hide_25 xcl6 (by decide) xw_335 rfl hf (fun x3 ex3 hf => ?_)
          refine xm_iload_n dX6_hide_28 rfl ?_
          refine xm_iload_n dX6_hide_29 rfl ?_
          refine xb_zast dX6_hide_30 hf (fun σ4 eσ4 hf => ?_)
          refine xm_aload_n dX6_hide_31 rfl ?_
          refine xb_getR (a := l0) (c := 6) (k := 4) dX6_hide_32 xcl6 (by decide) xw_335 rfl hf (fun x5 ex5 hf => ?_)
          refine xm_iload_n dX6_hide_35 rfl ?_
          refine xm_iload_n dX6_hide_36 rfl ?_
          refine xb_zast dX6_hide_37 hf (fun σ6 eσ6 hf => ?_)
          exact xm_sub [] rfl (L_X6_hide_j38 σ6 hf hR)
-- Rankwise$Reader.stacksGive(LRankwise$Tree;)Z
def f_X6_stacksGive_j24 (σ : xM) (s0 : Int32) : Option (Int32 × xM) :=
  (xz s0).bind (fun b2 => some (b2, σ))
set_option maxHeartbeats 4000000 in
set_option maxRecDepth 20000 in
theorem L_X6_stacksGive_j24 {G : xG} {π : Nat → Nat} {d C Z : Nat} {Q : xQ} (σ : xM) (s0 : Int32) {x : (Int32 × xM)} (hf : f_X6_stacksGive_j24 σ s0 = some x) (hR : ∀ g, x = g → Q (.inl (some (.int g.1))) (g.2) π) : xMach G π J_X6_stacksGive (d + 4) C Z 24 [] [.int s0] σ Q := by
  unfold f_X6_stacksGive_j24 at hf
  obtain ⟨b2, eb2, hf⟩ := xbind hf
  obtain ⟨rfl, hz⟩ := xz_of eb2
  cases hf
  exact xm_zret dX6_stacksGive_24 rfl hz (hR _ rfl)
def f_X6_stacksGive_j23 (σ : xM)  : Option (Int32 × xM) :=
  f_X6_stacksGive_j24 σ (0 : Int32)
set_option maxHeartbeats 4000000 in
set_option maxRecDepth 20000 in
theorem L_X6_stacksGive_j23 {G : xG} {π : Nat → Nat} {d C Z : Nat} {Q : xQ} (σ : xM)  {x : (Int32 × xM)} (hf : f_X6_stacksGive_j23 σ = some x) (hR : ∀ g, x = g → Q (.inl (some (.int g.1))) (g.2) π) : xMach G π J_X6_stacksGive (d + 4) C Z 23 [] [] σ Q := by
  unfold f_X6_stacksGive_j23 at hf
  refine xm_iconst dX6_stacksGive_23 (v := 0) (by decide) ?_
  exact xm_sub [] rfl (L_X6_stacksGive_j24 σ (0 : Int32) hf hR)
def f_X6_stacksGive (σ : xM) (l0 : Nat) (l1 : Nat) : Option (Int32 × xM) :=
  (if xk σ l0 6 = true then (f_X6_byStacks σ l0).bind (fun p1 => (if p1.1 = (-1 : Int32) then (gR p1.2 l0 6 17).bind (fun x3 => (if xk p1.2 l1 9 = true then (f_X9_hasLine p1.2 l1 x3).bind (fun p4 => (if p4 = (0 : Int32) then f_X6_stacksGive_j23 p1.2 else f_X6_stacksGive_j24 p1.2 (1 : Int32))) else none)) else f_X6_stacksGive_j23 p1.2)) else none)
set_option maxHeartbeats 4000000 in
set_option maxRecDepth 20000 in
theorem m_X6_stacksGive {G : xG} {π : Nat → Nat} {d C Z : Nat} {Q : xQ} {σ : xM} {l0 : Nat} {l1 : Nat} {x : (Int32 × xM)} (hf : f_X6_stacksGive σ l0 l1 = some x) (hR : ∀ g, x = g → Q (.inl (some (.int g.1))) (g.2) π) : xMach G π J_X6_stacksGive (d + 4) C Z 0 (lv_args 0 [.ref l0, .ref l1]) [] σ Q := by
  unfold f_X6_stacksGive at hf
  refine xm_stL (L' := [(0, .ref l0), (1, .ref l1)]) rfl ?_
  refine xm_aload_n dX6_stacksGive_0 rfl ?_
  refine xb_if hf (fun hb hf => ?_) (fun _ q => nomatch q)
  obtain ⟨p1, ep1, hf⟩ := xbind hf
  refine xb_callV (As := []) (v0 := (some (.int p1.1))) (τ0 := p1.2) dX6_stacksGive_1 (xc_X6_byStacks _ _) xcl6 xw_1310 xw_740 xw_741 hb rfl (Nat.le_of_ble_eq_true rfl) rfl (Nat.le_of_ble_eq_true rfl) (fun Q1 hq => m_X6_byStacks (d := d + 0) ep1 (fun g hg => by subst hg; exact hq)) ?_
  refine xm_iconst dX6_stacksGive_4 (v := -1) (by decide) ?_
  refine xb_icmp_ne 23 dX6_stacksGive_5 (by decide) hf (fun c hf => ?_) (fun c hf => ?_)
  · exact xm_sub [] rfl (L_X6_stacksGive_j23 p1.2 hf hR)
  · refine xm_aload_n dX6_stacksGive_8 rfl ?_
    refine xm_aload_n dX6_stacksGive_9 rfl ?_
    refine xb_getR (a := l0) (c := 6) (k := 17) dX6_stacksGive_10 xcl6 (by decide) xw_350 rfl hf (fun x3 ex3 hf => ?_)
    refine xb_if hf (fun hb hf => ?_) (fun _ q => nomatch q)
    obtain ⟨p4, ep4, hf⟩ := xbind hf
    refine xb_callV (As := [.ref x3]) (v0 := (some (.int p4))) (τ0 := p1.2) dX6_stacksGive_13 (xc_X9_hasLine _ _) xcl9 xw_1311 xw_1312 xw_1313 hb rfl (Nat.le_of_ble_eq_true rfl) rfl (Nat.le_of_ble_eq_true rfl) (fun Q1 hq => m_X9_hasLine (d := d + 2) ep4 (fun g hg => by subst hg; exact hq)) ?_
    refine xb_if_eq 23 dX6_stacksGive_16 (by decide) hf (fun c hf => ?_) (fun c hf => ?_)
    · exact xm_sub [] rfl (L_X6_stacksGive_j23 p1.2 hf hR)
    · refine xm_iconst dX6_stacksGive_19 (v := 1) (by decide) ?_
      refine xm_goto 24 dX6_stacksGive_20 (by decide) ?_
      exact xm_sub [] rfl (L_X6_stacksGive_j24 p1.2 (1 : Int32) hf hR)
-- Rankwise$Reader.dropBrackets(LRankwise$Tree;)V
def f_X6_dropBrackets_j42 (σ : xM) (l0 : Nat) (l1 : Nat) (l2 : Int32) : Option (xM ⊕ ((xM) ⊕ (Nat × Nat × Int32 × xM))) :=
  xlet (l2 + (1 : Int32)) (fun v4 => some (Sum.inr (Sum.inr (l0, l1, v4, σ))))
set_option maxHeartbeats 4000000 in
set_option maxRecDepth 20000 in
theorem L_X6_dropBrackets_j42 {G : xG} {π : Nat → Nat} {d C Z : Nat} {Q : xQ} (σ : xM) (l0 : Nat) (l1 : Nat) (l2 : Int32) {x : (xM ⊕ ((xM) ⊕ (Nat × Nat × Int32 × xM)))} (hf : f_X6_dropBrackets_j42 σ l0 l1 l2 = some x) (hR : ∀ g, x = Sum.inl (g) → Q (.inl none) (g) π) (hE : ∀ e : (xM), x = Sum.inr (Sum.inl e) → xMach G π J_X6_dropBrackets (d + 5) C Z 48 [] [] e Q) (hC : ∀ e : (Nat × Nat × Int32 × xM), x = Sum.inr (Sum.inr e) → xMach G π J_X6_dropBrackets (d + 5) C Z 2 [(0, .ref e.1), (1, .ref e.2.1), (2, .int e.2.2.1)] [] e.2.2.2 Q) : xMach G π J_X6_dropBrackets (d + 5) C Z 42 [(0, .ref l0), (1, .ref l1), (2, .int l2)] [] σ Q := by
  unfold f_X6_dropBrackets_j42 at hf
  refine xb_iinc dX6_dropBrackets_42 rfl (by decide) (by decide) hf (fun v4 ev4 hf => xm_stL (L' := [(2, .int v4), (0, .ref l0), (1, .ref l1)]) rfl ?_)
  refine xm_goto 2 dX6_dropBrackets_45 (by decide) ?_
  cases hf
  exact xm_sub [1, 2, 0] rfl (hC _ rfl)
def f_X6_dropBrackets_s2 (s : (Nat × Nat × Int32 × xM)) : Option (xM ⊕ ((xM) ⊕ (Nat × Nat × Int32 × xM))) :=
  xlet s.1 (fun l0 => xlet s.2.1 (fun l1 => xlet s.2.2.1 (fun l2 => xlet s.2.2.2 (fun σ => (gI σ l0 6 5).bind (fun x2 => (if x2 ≤ l2 then some (Sum.inr (Sum.inl σ)) else (if xk σ l0 6 = true then (f_X6_opensPair σ l0 l2).bind (fun p3 => (if p3 = (0 : Int32) then f_X6_dropBrackets_j42 σ l0 l1 l2 else (if xk σ l0 6 = true then (f_X6_partnerOf σ l0 l2).bind (fun p5 => (if xk σ l0 6 = true then (f_X6_hide σ l0 l2 p5 (1 : Int32)).bind (fun p6 => (if xk p6 l0 6 = true then (f_X6_stacksGive p6 l0 l1).bind (fun p7 => (if xk p7.2 l0 6 = true then (f_X6_hide p7.2 l0 l2 p5 p7.1).bind (fun p8 => f_X6_dropBrackets_j42 p8 l0 l1 l2) else none)) else none)) else none)) else none))) else none)))))))
set_option maxHeartbeats 4000000 in
set_option maxRecDepth 20000 in
theorem L_X6_dropBrackets_s2 {G : xG} {π : Nat → Nat} {d C Z : Nat} {Q : xQ} (σ : xM) (l0 : Nat) (l1 : Nat) (l2 : Int32) {x : (xM ⊕ ((xM) ⊕ (Nat × Nat × Int32 × xM)))} (hf : f_X6_dropBrackets_s2 (l0, l1, l2, σ) = some x) (hR : ∀ g, x = Sum.inl (g) → Q (.inl none) (g) π) (hE : ∀ e : (xM), x = Sum.inr (Sum.inl e) → xMach G π J_X6_dropBrackets (d + 5) C Z 48 [] [] e Q) (hC : ∀ e : (Nat × Nat × Int32 × xM), x = Sum.inr (Sum.inr e) → xMach G π J_X6_dropBrackets (d + 5) C Z 2 [(0, .ref e.1), (1, .ref e.2.1), (2, .int e.2.2.1)] [] e.2.2.2 Q) : xMach G π J_X6_dropBrackets (d + 5) C Z 2 [(0, .ref l0), (1, .ref l1), (2, .int l2)] [] σ Q := by
  have hf : (gI σ l0 6 5).bind (fun x2 => (if x2 ≤ l2 then some (Sum.inr (Sum.inl σ)) else (if xk σ l0 6 = true then (f_X6_opensPair σ l0 l2).bind (fun p3 => (if p3 = (0 : Int32) then f_X6_dropBrackets_j42 σ l0 l1 l2 else (if xk σ l0 6 = true then (f_X6_partnerOf σ l0 l2).bind (fun p5 => (if xk σ l0 6 = true then (f_X6_hide σ l0 l2 p5 (1 : Int32)).bind (fun p6 => (if xk p6 l0 6 = true then (f_X6_stacksGive p6 l0 l1).bind (fun p7 => (if xk p7.2 l0 6 = true then (f_X6_hide p7.2 l0 l2 p5 p7.1).bind (fun p8 => f_X6_dropBrackets_j42 p8 l0 l1 l2) else none)) else none)) else none)) else none))) else none))) = some x := hf
  refine xm_iload_n dX6_dropBrackets_2 rfl ?_
  refine xm_aload_n dX6_dropBrackets_3 rfl ?_
  refine xb_getI (a := l0) (c := 6) (k := 5) dX6_dropBrackets_4 xcl6 (by decide) xw_337 rfl hf (fun x2 ex2 hf => ?_)
  refine xb_icmp_ge 48 dX6_dropBrackets_7 (by decide) hf (fun c hf => ?_) (fun c hf => ?_)
  · cases hf
    exact xm_sub [] rfl (hE _ rfl)
  · refine xm_aload_n dX6_dropBrackets_10 rfl ?_
    refine xm_iload_n dX6_dropBrackets_11 rfl ?_
    refine xb_if hf (fun hb hf => ?_) (fun _ q => nomatch q)
    obtain ⟨p3, ep3, hf⟩ := xbind hf
    refine xb_callV (As := [.int l2]) (v0 := (some (.int p3))) (τ0 := σ) dX6_dropBrackets_12 (xc_X6_opensPair _ _) xcl6 xw_1294 xw_1296 xs_45 hb rfl (Nat.le_of_ble_eq_true rfl) rfl (Nat.le_of_ble_eq_true rfl) (fun Q1 hq => m_X6_opensPair (d := d + 3) ep3 (fun g hg => by subst hg; exact hq)) ?_
    refine xb_if_eq 42 dX6_dropBrackets_15 (by decide) hf (fun c hf => ?_) (fun c hf => ?_)
    · exact xm_sub [0, 1, 2] rfl (L_X6_dropBrackets_j42 σ l0 l1 l2 hf hR hE hC)
    · refine xm_aload_n dX6_dropBrackets_18 rfl ?_
      refine xm_iload_n dX6_dropBrackets_19 rfl ?_
      refine xb_if hf (fun hb hf => ?_) (fun _ q => nomatch q)
      obtain ⟨p5, ep5, hf⟩ := xbind hf
      refine xb_callV (As := [.int l2]) (v0 := (some (.int p5))) (τ0 := σ) dX6_dropBrackets_20 (xc_X6_partnerOf _ _) xcl6 xw_1298 xw_1300 xs_46 hb rfl (Nat.le_of_ble_eq_true rfl) rfl (Nat.le_of_ble_eq_true rfl) (fun Q1 hq => m_X6_partnerOf (d := d + 4) ep5 (fun g hg => by subst hg; exact hq)) ?_
      refine xm_istore_n dX6_dropBrackets_23 (by decide) (xm_stL (L' := [(3, .int p5), (0, .ref l0), (1, .ref l1), (2, .int l2)]) rfl ?_)
      refine xm_aload_n dX6_dropBrackets_24 rfl ?_
      refine xm_iload_n dX6_dropBrackets_25 rfl ?_
      refine xm_iload_n dX6_dropBrackets_26 rfl ?_
      refine xm_iconst dX6_dropBrackets_27 (v := 1) (by decide) ?_
      refine xb_if hf (fun hb hf => ?_) (fun _ q => nomatch q)
      obtain ⟨p6, ep6, hf⟩ := xbind hf
      refine xb_callV (As := [.int l2, .int p5, .int (1 : Int32)]) (v0 := none) (τ0 := p6) dX6_dropBrackets_28 (xc_X6_hide _ _) xcl6 xw_1302 xw_1304 xs_47 hb rfl (Nat.le_of_ble_eq_true rfl) rfl (Nat.le_of_ble_eq_true rfl) (fun Q1 hq => m_X6_hide (d := d + 4) ep6 (fun g hg => by subst hg; exact hq)) ?_
      refine xm_aload_n dX6_dropBrackets_31 rfl ?_
      refine xm_iload_n dX6_dropBrackets_32 rfl ?_
      refine xm_iload_n dX6_dropBrackets_33 rfl ?_
      refine xm_aload_n dX6_dropBrackets_34 rfl ?_
      refine xm_aload_n dX6_dropBrackets_35 rfl ?_
      refine xb_if hf (fun hb hf => ?_) (fun _ q => nomatch q)
      obtain ⟨p7, ep7, hf⟩ := xbind hf
      refine xb_callV (As := [.ref l1]) (v0 := (some (.int p7.1))) (τ0 := p7.2) dX6_dropBrackets_36 (xc_X6_stacksGive _ _) xcl6 xw_1306 xw_1307 xw_1308 hb rfl (Nat.le_of_ble_eq_true rfl) rfl (Nat.le_of_ble_eq_true rfl) (fun Q1 hq => m_X6_stacksGive (d := d + 0) ep7 (fun g hg => by subst hg; exact hq)) ?_
      refine xb_if hf (fun hb hf => ?_) (fun _ q => nomatch q)
      obtain ⟨p8, ep8, hf⟩ := xbind hf
      refine xb_callV (As := [.int l2, .int p5, .int p7.1]) (v0 := none) (τ0 := p8) dX6_dropBrackets_39 (xc_X6_hide _ _) xcl6 xw_1302 xw_1304 xs_47 hb rfl (Nat.le_of_ble_eq_true rfl) rfl (Nat.le_of_ble_eq_true rfl) (fun Q1 hq => m_X6_hide (d := d + 4) ep8 (fun g hg => by subst hg; exact hq)) ?_
      exact xm_sub [1, 2, 3] rfl (L_X6_dropBrackets_j42 p8 l0 l1 l2 hf hR hE hC)
theorem L_X6_dropBrackets_l2 {G : xG} {π : Nat → Nat} {d C Z : Nat} {Q : xQ} {s0 : (Nat × Nat × Int32 × xM)} {x : (xM ⊕ (xM))} (h1 : xloop (f_X6_dropBrackets_s2) xF s0 = some x) (hR : ∀ g, x = Sum.inl g → Q (.inl none) (g) π) (hE : ∀ e : (xM), x = Sum.inr e → xMach G π J_X6_dropBrackets (d + 5) C Z 48 [] [] e Q) : xMach G π J_X6_dropBrackets (d + 5) C Z 2 [(0, .ref s0.1), (1, .ref s0.2.1), (2, .int s0.2.2.1)] [] s0.2.2.2 Q := by
  refine xloop_run (M := (fun s : (Nat × Nat × Int32 × xM) => xMach G π J_X6_dropBrackets (d + 5) C Z 2 [(0, .ref s.1), (1, .ref s.2.1), (2, .int s.2.2.1)] [] s.2.2.2 Q)) (r := x) ?_ xF _ h1
  intro s y hs hx
  exact L_X6_dropBrackets_s2 s.2.2.2 s.1 s.2.1 s.2.2.1 (x := y) hs (fun g hg => by subst hg; exact hR g hx) (fun e he => by subst he; exact hE e hx) (fun e he => by subst he; exact hx)
def f_X6_dropBrackets_j48 (σ : xM)  : Option xM :=
  some σ
set_option maxHeartbeats 4000000 in
set_option maxRecDepth 20000 in
theorem L_X6_dropBrackets_j48 {G : xG} {π : Nat → Nat} {d C Z : Nat} {Q : xQ} (σ : xM)  {x : xM} (hf : f_X6_dropBrackets_j48 σ = some x) (hR : ∀ g, x = g → Q (.inl none) (g) π) : xMach G π J_X6_dropBrackets (d + 5) C Z 48 [] [] σ Q := by
  unfold f_X6_dropBrackets_j48 at hf
  cases hf
  exact xm_vret dX6_dropBrackets_48 rfl (hR _ rfl)
def f_X6_dropBrackets (σ : xM) (l0 : Nat) (l1 : Nat) : Option xM :=
  xlet (0 : Int32) (fun v1 => (xloop (f_X6_dropBrackets_s2 ) xF (l0, l1, v1, σ)).bind (Sum.elim (fun g => some g) (fun e => f_X6_dropBrackets_j48 e)))
set_option maxHeartbeats 4000000 in
set_option maxRecDepth 20000 in
theorem m_X6_dropBrackets {G : xG} {π : Nat → Nat} {d C Z : Nat} {Q : xQ} {σ : xM} {l0 : Nat} {l1 : Nat} {x : xM} (hf : f_X6_dropBrackets σ l0 l1 = some x) (hR : ∀ g, x = g → Q (.inl none) (g) π) : xMach G π J_X6_dropBrackets (d + 5) C Z 0 (lv_args 0 [.ref l0, .ref l1]) [] σ Q := by
  unfold f_X6_dropBrackets at hf
  refine xm_stL (L' := [(0, .ref l0), (1, .ref l1)]) rfl ?_
  refine xm_iconst dX6_dropBrackets_0 (v := 0) (by decide) ?_
  refine xb_topi hf (fun v1 ev1 hf => ?_)
  refine xm_istore_n dX6_dropBrackets_1 (by decide) (xm_stL (L' := [(2, .int v1), (0, .ref l0), (1, .ref l1)]) rfl ?_)
  obtain ⟨o, h1, hf⟩ := xbind hf
  refine xm_sub [1, 2, 0] rfl (L_X6_dropBrackets_l2  h1 (fun g hg => ?_) (fun e he => ?_))
  · subst hg
    cases hf
    exact hR _ rfl
  · subst he
    rw [Sum.elim_inr] at hf
    have hf : f_X6_dropBrackets_j48 e = some _ := hf
    exact xm_sub [] rfl (L_X6_dropBrackets_j48 e hf hR)
-- Rankwise$Reader.takeWord()I
def f_X6_takeWord (σ : xM) (l0 : Nat) : Option (Int32 × xM) :=
  (if xk σ l0 6 = true then (f_X6_nextWord σ l0).bind (fun p1 => (sI σ l0 6 7 (p1 + (1 : Int32))).bind (fun σ2 => some (p1, σ2))) else none)
set_option maxHeartbeats 4000000 in
set_option maxRecDepth 20000 in
theorem m_X6_takeWord {G : xG} {π : Nat → Nat} {d C Z : Nat} {Q : xQ} {σ : xM} {l0 : Nat} {x : (Int32 × xM)} (hf : f_X6_takeWord σ l0 = some x) (hR : ∀ g, x = g → Q (.inl (some (.int g.1))) (g.2) π) : xMach G π J_X6_takeWord (d + 1) C Z 0 (lv_args 0 [.ref l0]) [] σ Q := by
  unfold f_X6_takeWord at hf
  refine xm_stL (L' := [(0, .ref l0)]) rfl ?_
  refine xm_aload_n dX6_takeWord_0 rfl ?_
  refine xb_if hf (fun hb hf => ?_) (fun _ q => nomatch q)
  obtain ⟨p1, ep1, hf⟩ := xbind hf
  refine xb_callV (As := []) (v0 := (some (.int p1))) (τ0 := σ) dX6_takeWord_1 (xc_X6_nextWord _ _) xcl6 xw_747 xw_749 xs_5 hb rfl (Nat.le_of_ble_eq_true rfl) rfl (Nat.le_of_ble_eq_true rfl) (fun Q1 hq => m_X6_nextWord (d := d + 0) ep1 (fun g hg => by subst hg; exact hq)) ?_
  refine xm_istore_n dX6_takeWord_4 (by decide) (xm_stL (L' := [(1, .int p1), (0, .ref l0)]) rfl ?_)
  refine xm_aload_n dX6_takeWord_5 rfl ?_
  refine xm_iload_n dX6_takeWord_6 rfl ?_
  refine xm_iconst dX6_takeWord_7 (v := 1) (by decide) ?_
  refine xm_iadd dX6_takeWord_8 ?_
  refine xb_putI (a := l0) (c := 6) (k := 7) dX6_takeWord_9 xcl6 (by decide) xw_340 rfl rfl hf (fun σ2 eσ2 hf => ?_)
  refine xm_iload_n dX6_takeWord_12 rfl ?_
  cases hf
  exact xm_iret dX6_takeWord_13 rfl (hR _ rfl)
-- Rankwise$Reader.climbArguments(II)Z
def f_X6_climbArguments_s7 (R : xM → Nat → Int32 → Int32 → Option (Int32 × xM)) (s : (Nat × Int32 × Int32 × Int32 × xM)) : Option ((Int32 × xM) ⊕ (((xM) ⊕ ((Nat × Int32 × Int32 × xM) ⊕ ((xM) ⊕ (xM)))) ⊕ (Nat × Int32 × Int32 × Int32 × xM))) :=
  xlet s.1 (fun l0 => xlet s.2.1 (fun l1 => xlet s.2.2.1 (fun l2 => xlet s.2.2.2.1 (fun l3 => xlet s.2.2.2.2 (fun σ => (if (4 : Int32) < l3 then some (Sum.inr (Sum.inl (Sum.inr (Sum.inr (Sum.inr σ))))) else (if xk σ l0 6 = true then (R σ l0 (1 : Int32) (l2 + (1 : Int32))).bind (fun p3 => (if p3.1 = (0 : Int32) then some (Sum.inr (Sum.inl (Sum.inl p3.2))) else (if xk p3.2 l0 6 = true then (f_X6_takeWord p3.2 l0).bind (fun p4 => (if xk p4.2 l0 6 = true then (f_X6_kindAt p4.2 l0 p4.1).bind (fun p5 => (if p5 = (5 : Int32) then some (Sum.inr (Sum.inl (Sum.inr (Sum.inl (l0, l1, l3, p4.2))))) else (if p5 = (6 : Int32) then xlet (l3 + (1 : Int32)) (fun v6 => some (Sum.inr (Sum.inr (l0, l1, l2, v6, p4.2)))) else some (Sum.inr (Sum.inl (Sum.inr (Sum.inr (Sum.inl p4.2)))))))) else none)) else none))) else none)))))))
set_option maxHeartbeats 4000000 in
set_option maxRecDepth 20000 in
theorem L_X6_climbArguments_s7 {G : xG} {π : Nat → Nat} {d C Z : Nat} {Q : xQ} {R : xM → Nat → Int32 → Int32 → Option (Int32 × xM)} (hrec : ∀ (e C Z : Nat) (Q : xQ) (σ : xM) (l0 : Nat) (l1 : Int32) (l2 : Int32) (x : (Int32 × xM)), R σ l0 l1 l2 = some x → (∀ g, x = g → Q (.inl (some (.int g.1))) (g.2) π) → xMach G π J_X6_climb ((d + e) + 1) C Z 0 (lv_args 0 [.ref l0, .int l1, .int l2]) [] σ Q) (σ : xM) (l0 : Nat) (l1 : Int32) (l2 : Int32) (l3 : Int32) {x : ((Int32 × xM) ⊕ (((xM) ⊕ ((Nat × Int32 × Int32 × xM) ⊕ ((xM) ⊕ (xM)))) ⊕ (Nat × Int32 × Int32 × Int32 × xM)))} (hf : f_X6_climbArguments_s7 R (l0, l1, l2, l3, σ) = some x) (hR : ∀ g, x = Sum.inl (g) → Q (.inl (some (.int g.1))) (g.2) π) (hE0 : ∀ e : (xM), x = Sum.inr (Sum.inl (Sum.inl e)) → xMach G π J_X6_climbArguments (d + 2) C Z 23 [] [] e Q) (hE1 : ∀ e : (Nat × Int32 × Int32 × xM), x = Sum.inr (Sum.inl (Sum.inr (Sum.inl e))) → xMach G π J_X6_climbArguments (d + 2) C Z 41 [(0, .ref e.1), (1, .int e.2.1), (3, .int e.2.2.1)] [] e.2.2.2 Q) (hE2 : ∀ e : (xM), x = Sum.inr (Sum.inl (Sum.inr (Sum.inr (Sum.inl e)))) → xMach G π J_X6_climbArguments (d + 2) C Z 60 [] [] e Q) (hE3 : ∀ e : (xM), x = Sum.inr (Sum.inl (Sum.inr (Sum.inr (Sum.inr e)))) → xMach G π J_X6_climbArguments (d + 2) C Z 68 [] [] e Q) (hC : ∀ e : (Nat × Int32 × Int32 × Int32 × xM), x = Sum.inr (Sum.inr e) → xMach G π J_X6_climbArguments (d + 2) C Z 7 [(0, .ref e.1), (1, .int e.2.1), (2, .int e.2.2.1), (3, .int e.2.2.2.1)] [] e.2.2.2.2 Q) : xMach G π J_X6_climbArguments (d + 2) C Z 7 [(0, .ref l0), (1, .int l1), (2, .int l2), (3, .int l3)] [] σ Q := by
  have hf : (if (4 : Int32) < l3 then some (Sum.inr (Sum.inl (Sum.inr (Sum.inr (Sum.inr σ))))) else (if xk σ l0 6 = true then (R σ l0 (1 : Int32) (l2 + (1 : Int32))).bind (fun p3 => (if p3.1 = (0 : Int32) then some (Sum.inr (Sum.inl (Sum.inl p3.2))) else (if xk p3.2 l0 6 = true then (f_X6_takeWord p3.2 l0).bind (fun p4 => (if xk p4.2 l0 6 = true then (f_X6_kindAt p4.2 l0 p4.1).bind (fun p5 => (if p5 = (5 : Int32) then some (Sum.inr (Sum.inl (Sum.inr (Sum.inl (l0, l1, l3, p4.2))))) else (if p5 = (6 : Int32) then xlet (l3 + (1 : Int32)) (fun v6 => some (Sum.inr (Sum.inr (l0, l1, l2, v6, p4.2)))) else some (Sum.inr (Sum.inl (Sum.inr (Sum.inr (Sum.inl p4.2)))))))) else none)) else none))) else none)) = some x := hf
  refine xm_iload_n dX6_climbArguments_7 rfl ?_
  refine xm_iconst dX6_climbArguments_8 (v := 4) (by decide) ?_
  refine xb_icmp_gt 68 dX6_climbArguments_9 (by decide) hf (fun c hf => ?_) (fun c hf => ?_)
  · cases hf
    exact xm_sub [] rfl (hE3 _ rfl)
  · refine xm_aload_n dX6_climbArguments_12 rfl ?_
    refine xm_iconst dX6_climbArguments_13 (v := 1) (by decide) ?_
    refine xm_iload_n dX6_climbArguments_14 rfl ?_
    refine xm_iconst dX6_climbArguments_15 (v := 1) (by decide) ?_
    refine xm_iadd dX6_climbArguments_16 ?_
    refine xb_if hf (fun hb hf => ?_) (fun _ q => nomatch q)
    obtain ⟨p3, ep3, hf⟩ := xbind hf
    refine xb_callV (As := [.int (1 : Int32), .int (l2 + (1 : Int32))]) (v0 := (some (.int p3.1))) (τ0 := p3.2) dX6_climbArguments_17 (xc_X6_climb _ _) xcl6 xw_1333 xw_1335 xs_51 hb rfl (Nat.le_of_ble_eq_true rfl) rfl (Nat.le_of_ble_eq_true rfl) (fun Q1 hq => hrec 0 _ _ Q1 _ _ _ _ _ ep3 (fun g hg => by subst hg; exact hq)) ?_
    refine xb_if_ne 25 dX6_climbArguments_20 (by decide) hf (fun c hf => ?_) (fun c hf => ?_)
    · refine xm_aload_n dX6_climbArguments_25 rfl ?_
      refine xm_aload_n dX6_climbArguments_26 rfl ?_
      refine xb_if hf (fun hb hf => ?_) (fun _ q => nomatch q)
      obtain ⟨p4, ep4, hf⟩ := xbind hf
      refine xb_callV (As := []) (v0 := (some (.int p4.1))) (τ0 := p4.2) dX6_climbArguments_27 (xc_X6_takeWord _ _) xcl6 xw_1337 xw_1339 xs_52 hb rfl (Nat.le_of_ble_eq_true rfl) rfl (Nat.le_of_ble_eq_true rfl) (fun Q1 hq => m_X6_takeWord (d := d + 0) ep4 (fun g hg => by subst hg; exact hq)) ?_
      refine xb_if hf (fun hb hf => ?_) (fun _ q => nomatch q)
      obtain ⟨p5, ep5, hf⟩ := xbind hf
      refine xb_callV (As := [.int p4.1]) (v0 := (some (.int p5))) (τ0 := p4.2) dX6_climbArguments_30 (xc_X6_kindAt _ _) xcl6 xw_767 xw_769 xs_9 hb rfl (Nat.le_of_ble_eq_true rfl) rfl (Nat.le_of_ble_eq_true rfl) (fun Q1 hq => m_X6_kindAt (d := d + 1) ep5 (fun g hg => by subst hg; exact hq)) ?_
      refine xm_istore dX6_climbArguments_33 (by decide) (xm_stL (L' := [(4, .int p5), (0, .ref l0), (1, .int l1), (2, .int l2), (3, .int l3)]) rfl ?_)
      refine xm_iload dX6_climbArguments_35 rfl ?_
      refine xm_iconst dX6_climbArguments_37 (v := 5) (by decide) ?_
      refine xb_icmp_ne 53 dX6_climbArguments_38 (by decide) hf (fun c hf => ?_) (fun c hf => ?_)
      · refine xm_iload dX6_climbArguments_53 rfl ?_
        refine xm_bipush dX6_climbArguments_55 (v := 6) (by decide) ?_
        refine xb_icmp_eq 62 dX6_climbArguments_57 (by decide) hf (fun c hf => ?_) (fun c hf => ?_)
        · refine xb_iinc dX6_climbArguments_62 rfl (by decide) (by decide) hf (fun v6 ev6 hf => xm_stL (L' := [(3, .int v6), (4, .int p5), (0, .ref l0), (1, .int l1), (2, .int l2)]) rfl ?_)
          refine xm_goto 7 dX6_climbArguments_65 (by decide) ?_
          cases hf
          exact xm_sub [2, 3, 4, 0] rfl (hC _ rfl)
        · cases hf
          exact xm_sub [] rfl (hE2 _ rfl)
      · cases hf
        exact xm_sub [1, 2, 4] rfl (hE1 _ rfl)
    · cases hf
      exact xm_sub [] rfl (hE0 _ rfl)
theorem L_X6_climbArguments_l7 {G : xG} {π : Nat → Nat} {d C Z : Nat} {Q : xQ} {R : xM → Nat → Int32 → Int32 → Option (Int32 × xM)} (hrec : ∀ (e C Z : Nat) (Q : xQ) (σ : xM) (l0 : Nat) (l1 : Int32) (l2 : Int32) (x : (Int32 × xM)), R σ l0 l1 l2 = some x → (∀ g, x = g → Q (.inl (some (.int g.1))) (g.2) π) → xMach G π J_X6_climb ((d + e) + 1) C Z 0 (lv_args 0 [.ref l0, .int l1, .int l2]) [] σ Q) {s0 : (Nat × Int32 × Int32 × Int32 × xM)} {x : ((Int32 × xM) ⊕ ((xM) ⊕ ((Nat × Int32 × Int32 × xM) ⊕ ((xM) ⊕ (xM)))))} (h1 : xloop (f_X6_climbArguments_s7 R) xF s0 = some x) (hR : ∀ g, x = Sum.inl g → Q (.inl (some (.int g.1))) (g.2) π) (hE0 : ∀ e : (xM), x = Sum.inr (Sum.inl e) → xMach G π J_X6_climbArguments (d + 2) C Z 23 [] [] e Q) (hE1 : ∀ e : (Nat × Int32 × Int32 × xM), x = Sum.inr (Sum.inr (Sum.inl e)) → xMach G π J_X6_climbArguments (d + 2) C Z 41 [(0, .ref e.1), (1, .int e.2.1), (3, .int e.2.2.1)] [] e.2.2.2 Q) (hE2 : ∀ e : (xM), x = Sum.inr (Sum.inr (Sum.inr (Sum.inl e))) → xMach G π J_X6_climbArguments (d + 2) C Z 60 [] [] e Q) (hE3 : ∀ e : (xM), x = Sum.inr (Sum.inr (Sum.inr (Sum.inr e))) → xMach G π J_X6_climbArguments (d + 2) C Z 68 [] [] e Q) : xMach G π J_X6_climbArguments (d + 2) C Z 7 [(0, .ref s0.1), (1, .int s0.2.1), (2, .int s0.2.2.1), (3, .int s0.2.2.2.1)] [] s0.2.2.2.2 Q := by
  refine xloop_run (M := (fun s : (Nat × Int32 × Int32 × Int32 × xM) => xMach G π J_X6_climbArguments (d + 2) C Z 7 [(0, .ref s.1), (1, .int s.2.1), (2, .int s.2.2.1), (3, .int s.2.2.2.1)] [] s.2.2.2.2 Q)) (r := x) ?_ xF _ h1
  intro s y hs hx
  exact L_X6_climbArguments_s7 hrec s.2.2.2.2 s.1 s.2.1 s.2.2.1 s.2.2.2.1 (x := y) hs (fun g hg => by subst hg; exact hR g hx) (fun e he => by subst he; exact hE0 e hx) (fun e he => by subst he; exact hE1 e hx) (fun e he => by subst he; exact hE2 e hx) (fun e he => by subst he; exact hE3 e hx) (fun e he => by subst he; exact hx)
def f_X6_climbArguments_j23 (R : xM → Nat → Int32 → Int32 → Option (Int32 × xM)) (σ : xM)  : Option (Int32 × xM) :=
  some ((0 : Int32), σ)
set_option maxHeartbeats 4000000 in
set_option maxRecDepth 20000 in
theorem L_X6_climbArguments_j23 {G : xG} {π : Nat → Nat} {d C Z : Nat} {Q : xQ} {R : xM → Nat → Int32 → Int32 → Option (Int32 × xM)} (hrec : ∀ (e C Z : Nat) (Q : xQ) (σ : xM) (l0 : Nat) (l1 : Int32) (l2 : Int32) (x : (Int32 × xM)), R σ l0 l1 l2 = some x → (∀ g, x = g → Q (.inl (some (.int g.1))) (g.2) π) → xMach G π J_X6_climb ((d + e) + 1) C Z 0 (lv_args 0 [.ref l0, .int l1, .int l2]) [] σ Q) (σ : xM)  {x : (Int32 × xM)} (hf : f_X6_climbArguments_j23 R σ = some x) (hR : ∀ g, x = g → Q (.inl (some (.int g.1))) (g.2) π) : xMach G π J_X6_climbArguments (d + 2) C Z 23 [] [] σ Q := by
  unfold f_X6_climbArguments_j23 at hf
  refine xm_iconst dX6_climbArguments_23 (v := 0) (by decide) ?_
  cases hf
  exact xm_zret dX6_climbArguments_24 rfl rfl (hR _ rfl)
def f_X6_climbArguments_j41 (R : xM → Nat → Int32 → Int32 → Option (Int32 × xM)) (σ : xM) (l0 : Nat) (l1 : Int32) (l3 : Int32) : Option (Int32 × xM) :=
  (gR σ l0 6 17).bind (fun x7 => (if xk σ x7 9 = true then (f_X9_add σ x7 (2 : Int32) l1 (-1 : Int32) l3).bind (fun p8 => (xz p8.1).bind (fun b9 => some (b9, p8.2))) else none))
set_option maxHeartbeats 4000000 in
set_option maxRecDepth 20000 in
theorem L_X6_climbArguments_j41 {G : xG} {π : Nat → Nat} {d C Z : Nat} {Q : xQ} {R : xM → Nat → Int32 → Int32 → Option (Int32 × xM)} (hrec : ∀ (e C Z : Nat) (Q : xQ) (σ : xM) (l0 : Nat) (l1 : Int32) (l2 : Int32) (x : (Int32 × xM)), R σ l0 l1 l2 = some x → (∀ g, x = g → Q (.inl (some (.int g.1))) (g.2) π) → xMach G π J_X6_climb ((d + e) + 1) C Z 0 (lv_args 0 [.ref l0, .int l1, .int l2]) [] σ Q) (σ : xM) (l0 : Nat) (l1 : Int32) (l3 : Int32) {x : (Int32 × xM)} (hf : f_X6_climbArguments_j41 R σ l0 l1 l3 = some x) (hR : ∀ g, x = g → Q (.inl (some (.int g.1))) (g.2) π) : xMach G π J_X6_climbArguments (d + 2) C Z 41 [(0, .ref l0), (1, .int l1), (3, .int l3)] [] σ Q := by
  unfold f_X6_climbArguments_j41 at hf
  refine xm_aload_n dX6_climbArguments_41 rfl ?_
  refine xb_getR (a := l0) (c := 6) (k := 17) dX6_climbArguments_42 xcl6 (by decide) xw_350 rfl hf (fun x7 ex7 hf => ?_)
  refine xm_iconst dX6_climbArguments_45 (v := 2) (by decide) ?_
  refine xm_iload_n dX6_climbArguments_46 rfl ?_
  refine xm_iconst dX6_climbArguments_47 (v := -1) (by decide) ?_
  refine xm_iload_n dX6_climbArguments_48 rfl ?_
  refine xb_if hf (fun hb hf => ?_) (fun _ q => nomatch q)
  obtain ⟨p8, ep8, hf⟩ := xbind hf
  refine xb_callV (As := [.int (2 : Int32), .int l1, .int (-1 : Int32), .int l3]) (v0 := (some (.int p8.1))) (τ0 := p8.2) dX6_climbArguments_49 (xc_X9_add _ _) xcl9 xw_763 xw_764 xw_765 hb rfl (Nat.le_of_ble_eq_true rfl) rfl (Nat.le_of_ble_eq_true rfl) (fun Q1 hq => m_X9_add (d := d + 1) ep8 (fun g hg => by subst hg; exact hq)) ?_
  obtain ⟨b9, eb9, hf⟩ := xbind hf
  obtain ⟨rfl, hz⟩ := xz_of eb9
  cases hf
  exact xm_zret dX6_climbArguments_52 rfl hz (hR _ rfl)
def f_X6_climbArguments_j60 (R : xM → Nat → Int32 → Int32 → Option (Int32 × xM)) (σ : xM)  : Option (Int32 × xM) :=
  some ((0 : Int32), σ)
set_option maxHeartbeats 4000000 in
set_option maxRecDepth 20000 in
theorem L_X6_climbArguments_j60 {G : xG} {π : Nat → Nat} {d C Z : Nat} {Q : xQ} {R : xM → Nat → Int32 → Int32 → Option (Int32 × xM)} (hrec : ∀ (e C Z : Nat) (Q : xQ) (σ : xM) (l0 : Nat) (l1 : Int32) (l2 : Int32) (x : (Int32 × xM)), R σ l0 l1 l2 = some x → (∀ g, x = g → Q (.inl (some (.int g.1))) (g.2) π) → xMach G π J_X6_climb ((d + e) + 1) C Z 0 (lv_args 0 [.ref l0, .int l1, .int l2]) [] σ Q) (σ : xM)  {x : (Int32 × xM)} (hf : f_X6_climbArguments_j60 R σ = some x) (hR : ∀ g, x = g → Q (.inl (some (.int g.1))) (g.2) π) : xMach G π J_X6_climbArguments (d + 2) C Z 60 [] [] σ Q := by
  unfold f_X6_climbArguments_j60 at hf
  refine xm_iconst dX6_climbArguments_60 (v := 0) (by decide) ?_
  cases hf
  exact xm_zret dX6_climbArguments_61 rfl rfl (hR _ rfl)
def f_X6_climbArguments_j68 (R : xM → Nat → Int32 → Int32 → Option (Int32 × xM)) (σ : xM)  : Option (Int32 × xM) :=
  some ((0 : Int32), σ)
set_option maxHeartbeats 4000000 in
set_option maxRecDepth 20000 in
theorem L_X6_climbArguments_j68 {G : xG} {π : Nat → Nat} {d C Z : Nat} {Q : xQ} {R : xM → Nat → Int32 → Int32 → Option (Int32 × xM)} (hrec : ∀ (e C Z : Nat) (Q : xQ) (σ : xM) (l0 : Nat) (l1 : Int32) (l2 : Int32) (x : (Int32 × xM)), R σ l0 l1 l2 = some x → (∀ g, x = g → Q (.inl (some (.int g.1))) (g.2) π) → xMach G π J_X6_climb ((d + e) + 1) C Z 0 (lv_args 0 [.ref l0, .int l1, .int l2]) [] σ Q) (σ : xM)  {x : (Int32 × xM)} (hf : f_X6_climbArguments_j68 R σ = some x) (hR : ∀ g, x = g → Q (.inl (some (.int g.1))) (g.2) π) : xMach G π J_X6_climbArguments (d + 2) C Z 68 [] [] σ Q := by
  unfold f_X6_climbArguments_j68 at hf
  refine xm_iconst dX6_climbArguments_68 (v := 0) (by decide) ?_
  cases hf
  exact xm_zret dX6_climbArguments_69 rfl rfl (hR _ rfl)
def f_X6_climbArguments (R : xM → Nat → Int32 → Int32 → Option (Int32 × xM)) (σ : xM) (l0 : Nat) (l1 : Int32) (l2 : Int32) : Option (Int32 × xM) :=
  (if xk σ l0 6 = true then (f_X6_takeWord σ l0).bind (fun p1 => xlet (1 : Int32) (fun v2 => (xloop (f_X6_climbArguments_s7 R ) xF (l0, l1, l2, v2, p1.2)).bind (Sum.elim (fun g => some g) (Sum.elim (fun e => f_X6_climbArguments_j23 R e) (Sum.elim (fun e => f_X6_climbArguments_j41 R e.2.2.2 e.1 e.2.1 e.2.2.1) (Sum.elim (fun e => f_X6_climbArguments_j60 R e) (fun e => f_X6_climbArguments_j68 R e))))))) else none)
set_option maxHeartbeats 4000000 in
set_option maxRecDepth 20000 in
theorem m_X6_climbArguments {G : xG} {π : Nat → Nat} {d C Z : Nat} {Q : xQ} {R : xM → Nat → Int32 → Int32 → Option (Int32 × xM)} (hrec : ∀ (e C Z : Nat) (Q : xQ) (σ : xM) (l0 : Nat) (l1 : Int32) (l2 : Int32) (x : (Int32 × xM)), R σ l0 l1 l2 = some x → (∀ g, x = g → Q (.inl (some (.int g.1))) (g.2) π) → xMach G π J_X6_climb ((d + e) + 1) C Z 0 (lv_args 0 [.ref l0, .int l1, .int l2]) [] σ Q) {σ : xM} {l0 : Nat} {l1 : Int32} {l2 : Int32} {x : (Int32 × xM)} (hf : f_X6_climbArguments R σ l0 l1 l2 = some x) (hR : ∀ g, x = g → Q (.inl (some (.int g.1))) (g.2) π) : xMach G π J_X6_climbArguments (d + 2) C Z 0 (lv_args 0 [.ref l0, .int l1, .int l2]) [] σ Q := by
  unfold f_X6_climbArguments at hf
  refine xm_stL (L' := [(0, .ref l0), (1, .int l1), (2, .int l2)]) rfl ?_
  refine xm_aload_n dX6_climbArguments_0 rfl ?_
  refine xb_if hf (fun hb hf => ?_) (fun _ q => nomatch q)
  obtain ⟨p1, ep1, hf⟩ := xbind hf
  refine xb_callV (As := []) (v0 := (some (.int p1.1))) (τ0 := p1.2) dX6_climbArguments_1 (xc_X6_takeWord _ _) xcl6 xw_1337 xw_1339 xs_52 hb rfl (Nat.le_of_ble_eq_true rfl) rfl (Nat.le_of_ble_eq_true rfl) (fun Q1 hq => m_X6_takeWord (d := d + 0) ep1 (fun g hg => by subst hg; exact hq)) ?_
  refine xm_pop dX6_climbArguments_4 rfl ?_
  refine xm_iconst dX6_climbArguments_5 (v := 1) (by decide) ?_
  refine xb_topi hf (fun v2 ev2 hf => ?_)
  refine xm_istore_n dX6_climbArguments_6 (by decide) (xm_stL (L' := [(3, .int v2), (0, .ref l0), (1, .int l1), (2, .int l2)]) rfl ?_)
  obtain ⟨o, h1, hf⟩ := xbind hf
  refine xm_sub [1, 2, 3, 0] rfl (L_X6_climbArguments_l7 hrec  h1 (fun g hg => ?_) (fun e he => ?_) (fun e he => ?_) (fun e he => ?_) (fun e he => ?_))
  · subst hg
    cases hf
    exact hR _ rfl
  · subst he
    rw [Sum.elim_inr, Sum.elim_inl] at hf
    have hf : f_X6_climbArguments_j23 R e = some _ := hf
    exact xm_sub [] rfl (L_X6_climbArguments_j23 hrec e hf hR)
  · subst he
    rw [Sum.elim_inr, Sum.elim_inr, Sum.elim_inl] at hf
    have hf : f_X6_climbArguments_j41 R e.2.2.2 e.1 e.2.1 e.2.2.1 = some _ := hf
    exact xm_sub [0, 1, 2] rfl (L_X6_climbArguments_j41 hrec e.2.2.2 e.1 e.2.1 e.2.2.1 hf hR)
  · subst he
    rw [Sum.elim_inr, Sum.elim_inr, Sum.elim_inr, Sum.elim_inl] at hf
    have hf : f_X6_climbArguments_j60 R e = some _ := hf
    exact xm_sub [] rfl (L_X6_climbArguments_j60 hrec e hf hR)
  · subst he
    rw [Sum.elim_inr, Sum.elim_inr, Sum.elim_inr, Sum.elim_inr] at hf
    have hf : f_X6_climbArguments_j68 R e = some _ := hf
    exact xm_sub [] rfl (L_X6_climbArguments_j68 hrec e hf hR)
-- Rankwise$Reader.climb(II)Z
def f_X6_climb_j27 (R : xM → Nat → Int32 → Int32 → Option (Int32 × xM)) (σ : xM)  : Option (Int32 × xM) :=
  some ((0 : Int32), σ)
set_option maxHeartbeats 4000000 in
set_option maxRecDepth 20000 in
theorem L_X6_climb_j27 {G : xG} {π : Nat → Nat} {d C Z : Nat} {Q : xQ} {R : xM → Nat → Int32 → Int32 → Option (Int32 × xM)} (hrec : ∀ (e C Z : Nat) (Q : xQ) (σ : xM) (l0 : Nat) (l1 : Int32) (l2 : Int32) (x : (Int32 × xM)), R σ l0 l1 l2 = some x → (∀ g, x = g → Q (.inl (some (.int g.1))) (g.2) π) → xMach G π J_X6_climb ((d + e) + 1) C Z 0 (lv_args 0 [.ref l0, .int l1, .int l2]) [] σ Q) (σ : xM)  {x : (Int32 × xM)} (hf : f_X6_climb_j27 R σ = some x) (hR : ∀ g, x = g → Q (.inl (some (.int g.1))) (g.2) π) : xMach G π J_X6_climb (d + 3) C Z 27 [] [] σ Q := by
  unfold f_X6_climb_j27 at hf
  refine xm_iconst dX6_climb_27 (v := 0) (by decide) ?_
  cases hf
  exact xm_zret dX6_climb_28 rfl rfl (hR _ rfl)
def f_X6_climb_j361 (R : xM → Nat → Int32 → Int32 → Option (Int32 × xM)) (σ : xM) (l0 : Nat) (l1 : Int32) (l2 : Int32) (l7 : Int32) (s0 : Int32) : Option ((Int32 × xM) ⊕ (((xM) ⊕ ((xM) ⊕ (xM))) ⊕ (Nat × Int32 × Int32 × Int32 × Int32 × xM))) :=
  xlet (l7 + (1 : Int32)) (fun v25 => some (Sum.inr (Sum.inr (l0, l1, l2, s0, v25, σ))))
set_option maxHeartbeats 4000000 in
set_option maxRecDepth 20000 in
theorem L_X6_climb_j361 {G : xG} {π : Nat → Nat} {d C Z : Nat} {Q : xQ} {R : xM → Nat → Int32 → Int32 → Option (Int32 × xM)} (hrec : ∀ (e C Z : Nat) (Q : xQ) (σ : xM) (l0 : Nat) (l1 : Int32) (l2 : Int32) (x : (Int32 × xM)), R σ l0 l1 l2 = some x → (∀ g, x = g → Q (.inl (some (.int g.1))) (g.2) π) → xMach G π J_X6_climb ((d + e) + 1) C Z 0 (lv_args 0 [.ref l0, .int l1, .int l2]) [] σ Q) (σ : xM) (l0 : Nat) (l1 : Int32) (l2 : Int32) (l7 : Int32) (s0 : Int32) {x : ((Int32 × xM) ⊕ (((xM) ⊕ ((xM) ⊕ (xM))) ⊕ (Nat × Int32 × Int32 × Int32 × Int32 × xM)))} (hf : f_X6_climb_j361 R σ l0 l1 l2 l7 s0 = some x) (hR : ∀ g, x = Sum.inl (g) → Q (.inl (some (.int g.1))) (g.2) π) (hE0 : ∀ e : (xM), x = Sum.inr (Sum.inl (Sum.inl e)) → xMach G π J_X6_climb (d + 3) C Z 259 [] [] e Q) (hE1 : ∀ e : (xM), x = Sum.inr (Sum.inl (Sum.inr (Sum.inl e))) → xMach G π J_X6_climb (d + 3) C Z 317 [] [] e Q) (hE2 : ∀ e : (xM), x = Sum.inr (Sum.inl (Sum.inr (Sum.inr e))) → xMach G π J_X6_climb (d + 3) C Z 369 [] [] e Q) (hC : ∀ e : (Nat × Int32 × Int32 × Int32 × Int32 × xM), x = Sum.inr (Sum.inr e) → xMach G π J_X6_climb (d + 3) C Z 188 [(0, .ref e.1), (1, .int e.2.1), (2, .int e.2.2.1), (6, .int e.2.2.2.1), (7, .int e.2.2.2.2.1)] [] e.2.2.2.2.2 Q) : xMach G π J_X6_climb (d + 3) C Z 361 [(0, .ref l0), (1, .int l1), (2, .int l2), (7, .int l7)] [.int s0] σ Q := by
  unfold f_X6_climb_j361 at hf
  refine xm_istore dX6_climb_361 (by decide) (xm_stL (L' := [(6, .int s0), (0, .ref l0), (1, .int l1), (2, .int l2), (7, .int l7)]) rfl ?_)
  refine xb_iinc dX6_climb_363 rfl (by decide) (by decide) hf (fun v25 ev25 hf => xm_stL (L' := [(7, .int v25), (6, .int s0), (0, .ref l0), (1, .int l1), (2, .int l2)]) rfl ?_)
  refine xm_goto 188 dX6_climb_366 (by decide) ?_
  cases hf
  exact xm_sub [2, 3, 4, 1, 0] rfl (hC _ rfl)
def f_X6_climb_j360 (R : xM → Nat → Int32 → Int32 → Option (Int32 × xM)) (σ : xM) (l0 : Nat) (l1 : Int32) (l2 : Int32) (l7 : Int32) : Option ((Int32 × xM) ⊕ (((xM) ⊕ ((xM) ⊕ (xM))) ⊕ (Nat × Int32 × Int32 × Int32 × Int32 × xM))) :=
  f_X6_climb_j361 R σ l0 l1 l2 l7 (0 : Int32)
set_option maxHeartbeats 4000000 in
set_option maxRecDepth 20000 in
theorem L_X6_climb_j360 {G : xG} {π : Nat → Nat} {d C Z : Nat} {Q : xQ} {R : xM → Nat → Int32 → Int32 → Option (Int32 × xM)} (hrec : ∀ (e C Z : Nat) (Q : xQ) (σ : xM) (l0 : Nat) (l1 : Int32) (l2 : Int32) (x : (Int32 × xM)), R σ l0 l1 l2 = some x → (∀ g, x = g → Q (.inl (some (.int g.1))) (g.2) π) → xMach G π J_X6_climb ((d + e) + 1) C Z 0 (lv_args 0 [.ref l0, .int l1, .int l2]) [] σ Q) (σ : xM) (l0 : Nat) (l1 : Int32) (l2 : Int32) (l7 : Int32) {x : ((Int32 × xM) ⊕ (((xM) ⊕ ((xM) ⊕ (xM))) ⊕ (Nat × Int32 × Int32 × Int32 × Int32 × xM)))} (hf : f_X6_climb_j360 R σ l0 l1 l2 l7 = some x) (hR : ∀ g, x = Sum.inl (g) → Q (.inl (some (.int g.1))) (g.2) π) (hE0 : ∀ e : (xM), x = Sum.inr (Sum.inl (Sum.inl e)) → xMach G π J_X6_climb (d + 3) C Z 259 [] [] e Q) (hE1 : ∀ e : (xM), x = Sum.inr (Sum.inl (Sum.inr (Sum.inl e))) → xMach G π J_X6_climb (d + 3) C Z 317 [] [] e Q) (hE2 : ∀ e : (xM), x = Sum.inr (Sum.inl (Sum.inr (Sum.inr e))) → xMach G π J_X6_climb (d + 3) C Z 369 [] [] e Q) (hC : ∀ e : (Nat × Int32 × Int32 × Int32 × Int32 × xM), x = Sum.inr (Sum.inr e) → xMach G π J_X6_climb (d + 3) C Z 188 [(0, .ref e.1), (1, .int e.2.1), (2, .int e.2.2.1), (6, .int e.2.2.2.1), (7, .int e.2.2.2.2.1)] [] e.2.2.2.2.2 Q) : xMach G π J_X6_climb (d + 3) C Z 360 [(0, .ref l0), (1, .int l1), (2, .int l2), (7, .int l7)] [] σ Q := by
  unfold f_X6_climb_j360 at hf
  refine xm_iconst dX6_climb_360 (v := 0) (by decide) ?_
  exact xm_sub [0, 1, 2, 3] rfl (L_X6_climb_j361 hrec σ l0 l1 l2 l7 (0 : Int32) hf hR hE0 hE1 hE2 hC)
def f_X6_climb_j339 (R : xM → Nat → Int32 → Int32 → Option (Int32 × xM)) (σ : xM) (l0 : Nat) (l1 : Int32) (l2 : Int32) (l7 : Int32) (l9 : Int32) (l10 : Int32) (l11 : Int32) (s0 : Int32) (s1 : Int32) (s2 : Int32) (s3 : Int32) (s4 : Nat) : Option ((Int32 × xM) ⊕ (((xM) ⊕ ((xM) ⊕ (xM))) ⊕ (Nat × Int32 × Int32 × Int32 × Int32 × xM))) :=
  (if xk σ s4 9 = true then (f_X9_add σ s4 s3 s2 s1 s0).bind (fun p24 => (if l9 = (2 : Int32) then (if l11 = (2 : Int32) then f_X6_climb_j361 R p24.2 l0 l1 l2 l7 l10 else f_X6_climb_j360 R p24.2 l0 l1 l2 l7) else f_X6_climb_j360 R p24.2 l0 l1 l2 l7)) else none)
set_option maxHeartbeats 4000000 in
set_option maxRecDepth 20000 in
theorem L_X6_climb_j339 {G : xG} {π : Nat → Nat} {d C Z : Nat} {Q : xQ} {R : xM → Nat → Int32 → Int32 → Option (Int32 × xM)} (hrec : ∀ (e C Z : Nat) (Q : xQ) (σ : xM) (l0 : Nat) (l1 : Int32) (l2 : Int32) (x : (Int32 × xM)), R σ l0 l1 l2 = some x → (∀ g, x = g → Q (.inl (some (.int g.1))) (g.2) π) → xMach G π J_X6_climb ((d + e) + 1) C Z 0 (lv_args 0 [.ref l0, .int l1, .int l2]) [] σ Q) (σ : xM) (l0 : Nat) (l1 : Int32) (l2 : Int32) (l7 : Int32) (l9 : Int32) (l10 : Int32) (l11 : Int32) (s0 : Int32) (s1 : Int32) (s2 : Int32) (s3 : Int32) (s4 : Nat) {x : ((Int32 × xM) ⊕ (((xM) ⊕ ((xM) ⊕ (xM))) ⊕ (Nat × Int32 × Int32 × Int32 × Int32 × xM)))} (hf : f_X6_climb_j339 R σ l0 l1 l2 l7 l9 l10 l11 s0 s1 s2 s3 s4 = some x) (hR : ∀ g, x = Sum.inl (g) → Q (.inl (some (.int g.1))) (g.2) π) (hE0 : ∀ e : (xM), x = Sum.inr (Sum.inl (Sum.inl e)) → xMach G π J_X6_climb (d + 3) C Z 259 [] [] e Q) (hE1 : ∀ e : (xM), x = Sum.inr (Sum.inl (Sum.inr (Sum.inl e))) → xMach G π J_X6_climb (d + 3) C Z 317 [] [] e Q) (hE2 : ∀ e : (xM), x = Sum.inr (Sum.inl (Sum.inr (Sum.inr e))) → xMach G π J_X6_climb (d + 3) C Z 369 [] [] e Q) (hC : ∀ e : (Nat × Int32 × Int32 × Int32 × Int32 × xM), x = Sum.inr (Sum.inr e) → xMach G π J_X6_climb (d + 3) C Z 188 [(0, .ref e.1), (1, .int e.2.1), (2, .int e.2.2.1), (6, .int e.2.2.2.1), (7, .int e.2.2.2.2.1)] [] e.2.2.2.2.2 Q) : xMach G π J_X6_climb (d + 3) C Z 339 [(0, .ref l0), (1, .int l1), (2, .int l2), (7, .int l7), (9, .int l9), (10, .int l10), (11, .int l11)] [.int s0, .int s1, .int s2, .int s3, .ref s4] σ Q := by
  unfold f_X6_climb_j339 at hf
  refine xb_if hf (fun hb hf => ?_) (fun _ q => nomatch q)
  obtain ⟨p24, ep24, hf⟩ := xbind hf
  refine xb_callV (As := [.int s3, .int s2, .int s1, .int s0]) (v0 := (some (.int p24.1))) (τ0 := p24.2) dX6_climb_339 (xc_X9_add _ _) xcl9 xw_763 xw_764 xw_765 hb rfl (Nat.le_of_ble_eq_true rfl) rfl (Nat.le_of_ble_eq_true rfl) (fun Q1 hq => m_X9_add (d := d + 2) ep24 (fun g hg => by subst hg; exact hq)) ?_
  refine xm_pop dX6_climb_342 rfl ?_
  refine xm_iload dX6_climb_343 rfl ?_
  refine xm_iconst dX6_climb_345 (v := 2) (by decide) ?_
  refine xb_icmp_ne 360 dX6_climb_346 (by decide) hf (fun c hf => ?_) (fun c hf => ?_)
  · exact xm_sub [0, 1, 2, 3] rfl (L_X6_climb_j360 hrec p24.2 l0 l1 l2 l7 hf hR hE0 hE1 hE2 hC)
  · refine xm_iload dX6_climb_349 rfl ?_
    refine xm_iconst dX6_climb_351 (v := 2) (by decide) ?_
    refine xb_icmp_ne 360 dX6_climb_352 (by decide) hf (fun c hf => ?_) (fun c hf => ?_)
    · exact xm_sub [0, 1, 2, 3] rfl (L_X6_climb_j360 hrec p24.2 l0 l1 l2 l7 hf hR hE0 hE1 hE2 hC)
    · refine xm_iload dX6_climb_355 rfl ?_
      refine xm_goto 361 dX6_climb_357 (by decide) ?_
      exact xm_sub [0, 1, 2, 3] rfl (L_X6_climb_j361 hrec p24.2 l0 l1 l2 l7 l10 hf hR hE0 hE1 hE2 hC)
def f_X6_climb_j319 (R : xM → Nat → Int32 → Int32 → Option (Int32 × xM)) (σ : xM) (l0 : Nat) (l1 : Int32) (l2 : Int32) (l7 : Int32) (l8 : Int32) (l9 : Int32) (l10 : Int32) (l11 : Int32) : Option ((Int32 × xM) ⊕ (((xM) ⊕ ((xM) ⊕ (xM))) ⊕ (Nat × Int32 × Int32 × Int32 × Int32 × xM))) :=
  (gR σ l0 6 17).bind (fun x23 => (if l9 = (2 : Int32) then f_X6_climb_j339 R σ l0 l1 l2 l7 l9 l10 l11 (2 : Int32) l9 l8 (3 : Int32) x23 else f_X6_climb_j339 R σ l0 l1 l2 l7 l9 l10 l11 (1 : Int32) l9 l8 (3 : Int32) x23))
set_option maxHeartbeats 4000000 in
set_option maxRecDepth 20000 in
theorem L_X6_climb_j319 {G : xG} {π : Nat → Nat} {d C Z : Nat} {Q : xQ} {R : xM → Nat → Int32 → Int32 → Option (Int32 × xM)} (hrec : ∀ (e C Z : Nat) (Q : xQ) (σ : xM) (l0 : Nat) (l1 : Int32) (l2 : Int32) (x : (Int32 × xM)), R σ l0 l1 l2 = some x → (∀ g, x = g → Q (.inl (some (.int g.1))) (g.2) π) → xMach G π J_X6_climb ((d + e) + 1) C Z 0 (lv_args 0 [.ref l0, .int l1, .int l2]) [] σ Q) (σ : xM) (l0 : Nat) (l1 : Int32) (l2 : Int32) (l7 : Int32) (l8 : Int32) (l9 : Int32) (l10 : Int32) (l11 : Int32) {x : ((Int32 × xM) ⊕ (((xM) ⊕ ((xM) ⊕ (xM))) ⊕ (Nat × Int32 × Int32 × Int32 × Int32 × xM)))} (hf : f_X6_climb_j319 R σ l0 l1 l2 l7 l8 l9 l10 l11 = some x) (hR : ∀ g, x = Sum.inl (g) → Q (.inl (some (.int g.1))) (g.2) π) (hE0 : ∀ e : (xM), x = Sum.inr (Sum.inl (Sum.inl e)) → xMach G π J_X6_climb (d + 3) C Z 259 [] [] e Q) (hE1 : ∀ e : (xM), x = Sum.inr (Sum.inl (Sum.inr (Sum.inl e))) → xMach G π J_X6_climb (d + 3) C Z 317 [] [] e Q) (hE2 : ∀ e : (xM), x = Sum.inr (Sum.inl (Sum.inr (Sum.inr e))) → xMach G π J_X6_climb (d + 3) C Z 369 [] [] e Q) (hC : ∀ e : (Nat × Int32 × Int32 × Int32 × Int32 × xM), x = Sum.inr (Sum.inr e) → xMach G π J_X6_climb (d + 3) C Z 188 [(0, .ref e.1), (1, .int e.2.1), (2, .int e.2.2.1), (6, .int e.2.2.2.1), (7, .int e.2.2.2.2.1)] [] e.2.2.2.2.2 Q) : xMach G π J_X6_climb (d + 3) C Z 319 [(0, .ref l0), (1, .int l1), (2, .int l2), (7, .int l7), (8, .int l8), (9, .int l9), (10, .int l10), (11, .int l11)] [] σ Q := by
  unfold f_X6_climb_j319 at hf
  refine xm_aload_n dX6_climb_319 rfl ?_
  refine xb_getR (a := l0) (c := 6) (k := 17) dX6_climb_320 xcl6 (by decide) xw_350 rfl hf (fun x23 ex23 hf => ?_)
  refine xm_iconst dX6_climb_323 (v := 3) (by decide) ?_
  refine xm_iload dX6_climb_324 rfl ?_
  refine xm_iload dX6_climb_326 rfl ?_
  refine xm_iload dX6_climb_328 rfl ?_
  refine xm_iconst dX6_climb_330 (v := 2) (by decide) ?_
  refine xb_icmp_ne 338 dX6_climb_331 (by decide) hf (fun c hf => ?_) (fun c hf => ?_)
  · refine xm_iconst dX6_climb_338 (v := 1) (by decide) ?_
    exact xm_sub [0, 1, 2, 3, 5, 6, 7] rfl (L_X6_climb_j339 hrec σ l0 l1 l2 l7 l9 l10 l11 (1 : Int32) l9 l8 (3 : Int32) x23 hf hR hE0 hE1 hE2 hC)
  · refine xm_iconst dX6_climb_334 (v := 2) (by decide) ?_
    refine xm_goto 339 dX6_climb_335 (by decide) ?_
    exact xm_sub [0, 1, 2, 3, 5, 6, 7] rfl (L_X6_climb_j339 hrec σ l0 l1 l2 l7 l9 l10 l11 (2 : Int32) l9 l8 (3 : Int32) x23 hf hR hE0 hE1 hE2 hC)
def f_X6_climb_j308 (R : xM → Nat → Int32 → Int32 → Option (Int32 × xM)) (σ : xM) (l0 : Nat) (l1 : Int32) (l2 : Int32) (l7 : Int32) (l8 : Int32) (l9 : Int32) (l10 : Int32) (l11 : Int32) (s0 : Int32) (s1 : Nat) : Option ((Int32 × xM) ⊕ (((xM) ⊕ ((xM) ⊕ (xM))) ⊕ (Nat × Int32 × Int32 × Int32 × Int32 × xM))) :=
  (if xk σ s1 6 = true then (R σ s1 s0 (l2 + (1 : Int32))).bind (fun p26 => (if p26.1 = (0 : Int32) then some (Sum.inr (Sum.inl (Sum.inr (Sum.inl p26.2)))) else f_X6_climb_j319 R p26.2 l0 l1 l2 l7 l8 l9 l10 l11)) else none)
set_option maxHeartbeats 4000000 in
set_option maxRecDepth 20000 in
theorem L_X6_climb_j308 {G : xG} {π : Nat → Nat} {d C Z : Nat} {Q : xQ} {R : xM → Nat → Int32 → Int32 → Option (Int32 × xM)} (hrec : ∀ (e C Z : Nat) (Q : xQ) (σ : xM) (l0 : Nat) (l1 : Int32) (l2 : Int32) (x : (Int32 × xM)), R σ l0 l1 l2 = some x → (∀ g, x = g → Q (.inl (some (.int g.1))) (g.2) π) → xMach G π J_X6_climb ((d + e) + 1) C Z 0 (lv_args 0 [.ref l0, .int l1, .int l2]) [] σ Q) (σ : xM) (l0 : Nat) (l1 : Int32) (l2 : Int32) (l7 : Int32) (l8 : Int32) (l9 : Int32) (l10 : Int32) (l11 : Int32) (s0 : Int32) (s1 : Nat) {x : ((Int32 × xM) ⊕ (((xM) ⊕ ((xM) ⊕ (xM))) ⊕ (Nat × Int32 × Int32 × Int32 × Int32 × xM)))} (hf : f_X6_climb_j308 R σ l0 l1 l2 l7 l8 l9 l10 l11 s0 s1 = some x) (hR : ∀ g, x = Sum.inl (g) → Q (.inl (some (.int g.1))) (g.2) π) (hE0 : ∀ e : (xM), x = Sum.inr (Sum.inl (Sum.inl e)) → xMach G π J_X6_climb (d + 3) C Z 259 [] [] e Q) (hE1 : ∀ e : (xM), x = Sum.inr (Sum.inl (Sum.inr (Sum.inl e))) → xMach G π J_X6_climb (d + 3) C Z 317 [] [] e Q) (hE2 : ∀ e : (xM), x = Sum.inr (Sum.inl (Sum.inr (Sum.inr e))) → xMach G π J_X6_climb (d + 3) C Z 369 [] [] e Q) (hC : ∀ e : (Nat × Int32 × Int32 × Int32 × Int32 × xM), x = Sum.inr (Sum.inr e) → xMach G π J_X6_climb (d + 3) C Z 188 [(0, .ref e.1), (1, .int e.2.1), (2, .int e.2.2.1), (6, .int e.2.2.2.1), (7, .int e.2.2.2.2.1)] [] e.2.2.2.2.2 Q) : xMach G π J_X6_climb (d + 3) C Z 308 [(0, .ref l0), (1, .int l1), (2, .int l2), (7, .int l7), (8, .int l8), (9, .int l9), (10, .int l10), (11, .int l11)] [.int s0, .ref s1] σ Q := by
  unfold f_X6_climb_j308 at hf
  refine xm_iload_n dX6_climb_308 rfl ?_
  refine xm_iconst dX6_climb_309 (v := 1) (by decide) ?_
  refine xm_iadd dX6_climb_310 ?_
  refine xb_if hf (fun hb hf => ?_) (fun _ q => nomatch q)
  obtain ⟨p26, ep26, hf⟩ := xbind hf
  refine xb_callV (As := [.int s0, .int (l2 + (1 : Int32))]) (v0 := (some (.int p26.1))) (τ0 := p26.2) dX6_climb_311 (xc_X6_climb _ _) xcl6 xw_1333 xw_1335 xs_51 hb rfl (Nat.le_of_ble_eq_true rfl) rfl (Nat.le_of_ble_eq_true rfl) (fun Q1 hq => hrec 1 _ _ Q1 _ _ _ _ _ ep26 (fun g hg => by subst hg; exact hq)) ?_
  refine xb_if_ne 319 dX6_climb_314 (by decide) hf (fun c hf => ?_) (fun c hf => ?_)
  · exact xm_sub [0, 1, 2, 3, 4, 5, 6, 7] rfl (L_X6_climb_j319 hrec p26.2 l0 l1 l2 l7 l8 l9 l10 l11 hf hR hE0 hE1 hE2 hC)
  · cases hf
    exact xm_sub [] rfl (hE1 _ rfl)
def f_X6_climb_j238 (R : xM → Nat → Int32 → Int32 → Option (Int32 × xM)) (σ : xM) (l0 : Nat) (l1 : Int32) (l2 : Int32) (l6 : Int32) (l7 : Int32) (l8 : Int32) (s0 : Int32) : Option ((Int32 × xM) ⊕ (((xM) ⊕ ((xM) ⊕ (xM))) ⊕ (Nat × Int32 × Int32 × Int32 × Int32 × xM))) :=
  (gR σ l0 6 0).bind (fun x18 => (if xk σ x18 1 = true then (f_X1_rank σ x18 l8 s0).bind (fun p19 => (if l1 ≤ p19 then (if xk σ l0 6 = true then (f_X6_takeWord σ l0).bind (fun p20 => (gR p20.2 l0 6 0).bind (fun x21 => (if xk p20.2 x21 1 = true then (f_X1_side p20.2 x21 l8 s0).bind (fun p22 => (if s0 = (2 : Int32) then (if l6 = p19 then some (Sum.inr (Sum.inl (Sum.inr (Sum.inl p20.2)))) else (if p22 = (1 : Int32) then f_X6_climb_j308 R p20.2 l0 l1 l2 l7 l8 s0 p19 p22 p19 l0 else f_X6_climb_j308 R p20.2 l0 l1 l2 l7 l8 s0 p19 p22 (p19 + (1 : Int32)) l0)) else f_X6_climb_j319 R p20.2 l0 l1 l2 l7 l8 s0 p19 p22)) else none))) else none) else some (Sum.inr (Sum.inl (Sum.inl σ))))) else none))
set_option maxHeartbeats 4000000 in
set_option maxRecDepth 20000 in
theorem L_X6_climb_j238 {G : xG} {π : Nat → Nat} {d C Z : Nat} {Q : xQ} {R : xM → Nat → Int32 → Int32 → Option (Int32 × xM)} (hrec : ∀ (e C Z : Nat) (Q : xQ) (σ : xM) (l0 : Nat) (l1 : Int32) (l2 : Int32) (x : (Int32 × xM)), R σ l0 l1 l2 = some x → (∀ g, x = g → Q (.inl (some (.int g.1))) (g.2) π) → xMach G π J_X6_climb ((d + e) + 1) C Z 0 (lv_args 0 [.ref l0, .int l1, .int l2]) [] σ Q) (σ : xM) (l0 : Nat) (l1 : Int32) (l2 : Int32) (l6 : Int32) (l7 : Int32) (l8 : Int32) (s0 : Int32) {x : ((Int32 × xM) ⊕ (((xM) ⊕ ((xM) ⊕ (xM))) ⊕ (Nat × Int32 × Int32 × Int32 × Int32 × xM)))} (hf : f_X6_climb_j238 R σ l0 l1 l2 l6 l7 l8 s0 = some x) (hR : ∀ g, x = Sum.inl (g) → Q (.inl (some (.int g.1))) (g.2) π) (hE0 : ∀ e : (xM), x = Sum.inr (Sum.inl (Sum.inl e)) → xMach G π J_X6_climb (d + 3) C Z 259 [] [] e Q) (hE1 : ∀ e : (xM), x = Sum.inr (Sum.inl (Sum.inr (Sum.inl e))) → xMach G π J_X6_climb (d + 3) C Z 317 [] [] e Q) (hE2 : ∀ e : (xM), x = Sum.inr (Sum.inl (Sum.inr (Sum.inr e))) → xMach G π J_X6_climb (d + 3) C Z 369 [] [] e Q) (hC : ∀ e : (Nat × Int32 × Int32 × Int32 × Int32 × xM), x = Sum.inr (Sum.inr e) → xMach G π J_X6_climb (d + 3) C Z 188 [(0, .ref e.1), (1, .int e.2.1), (2, .int e.2.2.1), (6, .int e.2.2.2.1), (7, .int e.2.2.2.2.1)] [] e.2.2.2.2.2 Q) : xMach G π J_X6_climb (d + 3) C Z 238 [(0, .ref l0), (1, .int l1), (2, .int l2), (6, .int l6), (7, .int l7), (8, .int l8)] [.int s0] σ Q := by
  unfold f_X6_climb_j238 at hf
  refine xm_istore dX6_climb_238 (by decide) (xm_stL (L' := [(9, .int s0), (0, .ref l0), (1, .int l1), (2, .int l2), (6, .int l6), (7, .int l7), (8, .int l8)]) rfl ?_)
  refine xm_aload_n dX6_climb_240 rfl ?_
  refine xb_getR (a := l0) (c := 6) (k := 0) dX6_climb_241 xcl6 (by decide) xw_329 rfl hf (fun x18 ex18 hf => ?_)
  refine xm_iload dX6_climb_244 rfl ?_
  refine xm_iload dX6_climb_246 rfl ?_
  refine xb_if hf (fun hb hf => ?_) (fun _ q => nomatch q)
  obtain ⟨p19, ep19, hf⟩ := xbind hf
  refine xb_callV (As := [.int l8, .int s0]) (v0 := (some (.int p19))) (τ0 := σ) dX6_climb_248 (xc_X1_rank _ _) xcl1 xw_775 xw_776 xw_777 hb rfl (Nat.le_of_ble_eq_true rfl) rfl (Nat.le_of_ble_eq_true rfl) (fun Q1 hq => m_X1_rank (d := d + 1) ep19 (fun g hg => by subst hg; exact hq)) ?_
  refine xm_istore dX6_climb_251 (by decide) (xm_stL (L' := [(10, .int p19), (9, .int s0), (0, .ref l0), (1, .int l1), (2, .int l2), (6, .int l6), (7, .int l7), (8, .int l8)]) rfl ?_)
  refine xm_iload dX6_climb_253 rfl ?_
  refine xm_iload_n dX6_climb_255 rfl ?_
  refine xb_icmp_ge 261 dX6_climb_256 (by decide) hf (fun c hf => ?_) (fun c hf => ?_)
  · refine xm_aload_n dX6_climb_261 rfl ?_
    refine xb_if hf (fun hb hf => ?_) (fun _ q => nomatch q)
    obtain ⟨p20, ep20, hf⟩ := xbind hf
    refine xb_callV (As := []) (v0 := (some (.int p20.1))) (τ0 := p20.2) dX6_climb_262 (xc_X6_takeWord _ _) xcl6 xw_1337 xw_1339 xs_52 hb rfl (Nat.le_of_ble_eq_true rfl) rfl (Nat.le_of_ble_eq_true rfl) (fun Q1 hq => m_X6_takeWord (d := d + 1) ep20 (fun g hg => by subst hg; exact hq)) ?_
    refine xm_pop dX6_climb_265 rfl ?_
    refine xm_aload_n dX6_climb_266 rfl ?_
    refine xb_getR (a := l0) (c := 6) (k := 0) dX6_climb_267 xcl6 (by decide) xw_329 rfl hf (fun x21 ex21 hf => ?_)
    refine xm_iload dX6_climb_270 rfl ?_
    refine xm_iload dX6_climb_272 rfl ?_
    refine xb_if hf (fun hb hf => ?_) (fun _ q => nomatch q)
    obtain ⟨p22, ep22, hf⟩ := xbind hf
    refine xb_callV (As := [.int l8, .int s0]) (v0 := (some (.int p22))) (τ0 := p20.2) dX6_climb_274 (xc_X1_side _ _) xcl1 xw_788 xw_789 xw_790 hb rfl (Nat.le_of_ble_eq_true rfl) rfl (Nat.le_of_ble_eq_true rfl) (fun Q1 hq => m_X1_side (d := d + 1) ep22 (fun g hg => by subst hg; exact hq)) ?_
    refine xm_istore dX6_climb_277 (by decide) (xm_stL (L' := [(11, .int p22), (10, .int p19), (9, .int s0), (0, .ref l0), (1, .int l1), (2, .int l2), (6, .int l6), (7, .int l7), (8, .int l8)]) rfl ?_)
    refine xm_iload dX6_climb_279 rfl ?_
    refine xm_iconst dX6_climb_281 (v := 2) (by decide) ?_
    refine xb_icmp_ne 319 dX6_climb_282 (by decide) hf (fun c hf => ?_) (fun c hf => ?_)
    · exact xm_sub [3, 4, 5, 7, 8, 2, 1, 0] rfl (L_X6_climb_j319 hrec p20.2 l0 l1 l2 l7 l8 s0 p19 p22 hf hR hE0 hE1 hE2 hC)
    · refine xm_iload dX6_climb_285 rfl ?_
      refine xm_iload dX6_climb_287 rfl ?_
      refine xb_icmp_eq 317 dX6_climb_289 (by decide) hf (fun c hf => ?_) (fun c hf => ?_)
      · cases hf
        exact xm_sub [] rfl (hE1 _ rfl)
      · refine xm_aload_n dX6_climb_292 rfl ?_
        refine xm_iload dX6_climb_293 rfl ?_
        refine xm_iconst dX6_climb_295 (v := 1) (by decide) ?_
        refine xb_icmp_ne 304 dX6_climb_296 (by decide) hf (fun c hf => ?_) (fun c hf => ?_)
        · refine xm_iload dX6_climb_304 rfl ?_
          refine xm_iconst dX6_climb_306 (v := 1) (by decide) ?_
          refine xm_iadd dX6_climb_307 ?_
          exact xm_sub [3, 4, 5, 7, 8, 2, 1, 0] rfl (L_X6_climb_j308 hrec p20.2 l0 l1 l2 l7 l8 s0 p19 p22 (p19 + (1 : Int32)) l0 hf hR hE0 hE1 hE2 hC)
        · refine xm_iload dX6_climb_299 rfl ?_
          refine xm_goto 308 dX6_climb_301 (by decide) ?_
          exact xm_sub [3, 4, 5, 7, 8, 2, 1, 0] rfl (L_X6_climb_j308 hrec p20.2 l0 l1 l2 l7 l8 s0 p19 p22 p19 l0 hf hR hE0 hE1 hE2 hC)
  · cases hf
    exact xm_sub [] rfl (hE0 _ rfl)
def f_X6_climb_s188 (R : xM → Nat → Int32 → Int32 → Option (Int32 × xM)) (s : (Nat × Int32 × Int32 × Int32 × Int32 × xM)) : Option ((Int32 × xM) ⊕ (((xM) ⊕ ((xM) ⊕ (xM))) ⊕ (Nat × Int32 × Int32 × Int32 × Int32 × xM))) :=
  xlet s.1 (fun l0 => xlet s.2.1 (fun l1 => xlet s.2.2.1 (fun l2 => xlet s.2.2.2.1 (fun l6 => xlet s.2.2.2.2.1 (fun l7 => xlet s.2.2.2.2.2 (fun σ => (gI σ l0 6 5).bind (fun x10 => (if x10 ≤ l7 then some (Sum.inr (Sum.inl (Sum.inr (Sum.inr σ)))) else (if xk σ l0 6 = true then (f_X6_nextWord σ l0).bind (fun p11 => (if xk σ l0 6 = true then (f_X6_kindAt σ l0 p11).bind (fun p12 => (if p12 = (3 : Int32) then (gR σ l0 6 2).bind (fun x13 => (if xk σ l0 6 = true then (f_X6_nextWord σ l0).bind (fun p14 => (aI σ x13 14 p14).bind (fun x15 => (gR σ l0 6 0).bind (fun x16 => (if xk σ x16 1 = true then (f_X1_rank σ x16 x15 (1 : Int32)).bind (fun p17 => (if p17 ≤ (0 : Int32) then f_X6_climb_j238 R σ l0 l1 l2 l6 l7 x15 (2 : Int32) else f_X6_climb_j238 R σ l0 l1 l2 l6 l7 x15 (1 : Int32))) else none)))) else none)) else some (Sum.inr (Sum.inl (Sum.inr (Sum.inr σ)))))) else none)) else none)))))))))
set_option maxHeartbeats 4000000 in
set_option maxRecDepth 20000 in
theorem L_X6_climb_s188 {G : xG} {π : Nat → Nat} {d C Z : Nat} {Q : xQ} {R : xM → Nat → Int32 → Int32 → Option (Int32 × xM)} (hrec : ∀ (e C Z : Nat) (Q : xQ) (σ : xM) (l0 : Nat) (l1 : Int32) (l2 : Int32) (x : (Int32 × xM)), R σ l0 l1 l2 = some x → (∀ g, x = g → Q (.inl (some (.int g.1))) (g.2) π) → xMach G π J_X6_climb ((d + e) + 1) C Z 0 (lv_args 0 [.ref l0, .int l1, .int l2]) [] σ Q) (σ : xM) (l0 : Nat) (l1 : Int32) (l2 : Int32) (l6 : Int32) (l7 : Int32) {x : ((Int32 × xM) ⊕ (((xM) ⊕ ((xM) ⊕ (xM))) ⊕ (Nat × Int32 × Int32 × Int32 × Int32 × xM)))} (hf : f_X6_climb_s188 R (l0, l1, l2, l6, l7, σ) = some x) (hR : ∀ g, x = Sum.inl (g) → Q (.inl (some (.int g.1))) (g.2) π) (hE0 : ∀ e : (xM), x = Sum.inr (Sum.inl (Sum.inl e)) → xMach G π J_X6_climb (d + 3) C Z 259 [] [] e Q) (hE1 : ∀ e : (xM), x = Sum.inr (Sum.inl (Sum.inr (Sum.inl e))) → xMach G π J_X6_climb (d + 3) C Z 317 [] [] e Q) (hE2 : ∀ e : (xM), x = Sum.inr (Sum.inl (Sum.inr (Sum.inr e))) → xMach G π J_X6_climb (d + 3) C Z 369 [] [] e Q) (hC : ∀ e : (Nat × Int32 × Int32 × Int32 × Int32 × xM), x = Sum.inr (Sum.inr e) → xMach G π J_X6_climb (d + 3) C Z 188 [(0, .ref e.1), (1, .int e.2.1), (2, .int e.2.2.1), (6, .int e.2.2.2.1), (7, .int e.2.2.2.2.1)] [] e.2.2.2.2.2 Q) : xMach G π J_X6_climb (d + 3) C Z 188 [(0, .ref l0), (1, .int l1), (2, .int l2), (6, .int l6), (7, .int l7)] [] σ Q := by
  have hf : (gI σ l0 6 5).bind (fun x10 => (if x10 ≤ l7 then some (Sum.inr (Sum.inl (Sum.inr (Sum.inr σ)))) else (if xk σ l0 6 = true then (f_X6_nextWord σ l0).bind (fun p11 => (if xk σ l0 6 = true then (f_X6_kindAt σ l0 p11).bind (fun p12 => (if p12 = (3 : Int32) then (gR σ l0 6 2).bind (fun x13 => (if xk σ l0 6 = true then (f_X6_nextWord σ l0).bind (fun p14 => (aI σ x13 14 p14).bind (fun x15 => (gR σ l0 6 0).bind (fun x16 => (if xk σ x16 1 = true then (f_X1_rank σ x16 x15 (1 : Int32)).bind (fun p17 => (if p17 ≤ (0 : Int32) then f_X6_climb_j238 R σ l0 l1 l2 l6 l7 x15 (2 : Int32) else f_X6_climb_j238 R σ l0 l1 l2 l6 l7 x15 (1 : Int32))) else none)))) else none)) else some (Sum.inr (Sum.inl (Sum.inr (Sum.inr σ)))))) else none)) else none))) = some x := hf
  refine xm_iload dX6_climb_188 rfl ?_
  refine xm_aload_n dX6_climb_190 rfl ?_
  refine xb_getI (a := l0) (c := 6) (k := 5) dX6_climb_191 xcl6 (by decide) xw_337 rfl hf (fun x10 ex10 hf => ?_)
  refine xb_icmp_ge 369 dX6_climb_194 (by decide) hf (fun c hf => ?_) (fun c hf => ?_)
  · cases hf
    exact xm_sub [] rfl (hE2 _ rfl)
  · refine xm_aload_n dX6_climb_197 rfl ?_
    refine xm_aload_n dX6_climb_198 rfl ?_
    refine xb_if hf (fun hb hf => ?_) (fun _ q => nomatch q)
    obtain ⟨p11, ep11, hf⟩ := xbind hf
    refine xb_callV (As := []) (v0 := (some (.int p11))) (τ0 := σ) dX6_climb_199 (xc_X6_nextWord _ _) xcl6 xw_747 xw_749 xs_5 hb rfl (Nat.le_of_ble_eq_true rfl) rfl (Nat.le_of_ble_eq_true rfl) (fun Q1 hq => m_X6_nextWord (d := d + 2) ep11 (fun g hg => by subst hg; exact hq)) ?_
    refine xb_if hf (fun hb hf => ?_) (fun _ q => nomatch q)
    obtain ⟨p12, ep12, hf⟩ := xbind hf
    refine xb_callV (As := [.int p11]) (v0 := (some (.int p12))) (τ0 := σ) dX6_climb_202 (xc_X6_kindAt _ _) xcl6 xw_767 xw_769 xs_9 hb rfl (Nat.le_of_ble_eq_true rfl) rfl (Nat.le_of_ble_eq_true rfl) (fun Q1 hq => m_X6_kindAt (d := d + 2) ep12 (fun g hg => by subst hg; exact hq)) ?_
    refine xm_iconst dX6_climb_205 (v := 3) (by decide) ?_
    refine xb_icmp_ne 369 dX6_climb_206 (by decide) hf (fun c hf => ?_) (fun c hf => ?_)
    · cases hf
      exact xm_sub [] rfl (hE2 _ rfl)
    · refine xm_aload_n dX6_climb_209 rfl ?_
      refine xb_getR (a := l0) (c := 6) (k := 2) dX6_climb_210 xcl6 (by decide) xw_332 rfl hf (fun x13 ex13 hf => ?_)
      refine xm_aload_n dX6_climb_213 rfl ?_
      refine xb_if hf (fun hb hf => ?_) (fun _ q => nomatch q)
      obtain ⟨p14, ep14, hf⟩ := xbind hf
      refine xb_callV (As := []) (v0 := (some (.int p14))) (τ0 := σ) dX6_climb_214 (xc_X6_nextWord _ _) xcl6 xw_747 xw_749 xs_5 hb rfl (Nat.le_of_ble_eq_true rfl) rfl (Nat.le_of_ble_eq_true rfl) (fun Q1 hq => m_X6_nextWord (d := d + 2) ep14 (fun g hg => by subst hg; exact hq)) ?_
      refine xb_iald dX6_climb_217 hf (fun x15 ex15 hf => ?_)
      refine xm_istore dX6_climb_218 (by decide) (xm_stL (L' := [(8, .int x15), (0, .ref l0), (1, .int l1), (2, .int l2), (6, .int l6), (7, .int l7)]) rfl ?_)
      refine xm_aload_n dX6_climb_220 rfl ?_
      refine xb_getR (a := l0) (c := 6) (k := 0) dX6_climb_221 xcl6 (by decide) xw_329 rfl hf (fun x16 ex16 hf => ?_)
      refine xm_iload dX6_climb_224 rfl ?_
      refine xm_iconst dX6_climb_226 (v := 1) (by decide) ?_
      refine xb_if hf (fun hb hf => ?_) (fun _ q => nomatch q)
      obtain ⟨p17, ep17, hf⟩ := xbind hf
      refine xb_callV (As := [.int x15, .int (1 : Int32)]) (v0 := (some (.int p17))) (τ0 := σ) dX6_climb_227 (xc_X1_rank _ _) xcl1 xw_775 xw_776 xw_777 hb rfl (Nat.le_of_ble_eq_true rfl) rfl (Nat.le_of_ble_eq_true rfl) (fun Q1 hq => m_X1_rank (d := d + 1) ep17 (fun g hg => by subst hg; exact hq)) ?_
      refine xb_if_le 237 dX6_climb_230 (by decide) hf (fun c hf => ?_) (fun c hf => ?_)
      · refine xm_iconst dX6_climb_237 (v := 2) (by decide) ?_
        exact xm_sub [1, 2, 3, 4, 5, 0] rfl (L_X6_climb_j238 hrec σ l0 l1 l2 l6 l7 x15 (2 : Int32) hf hR hE0 hE1 hE2 hC)
      · refine xm_iconst dX6_climb_233 (v := 1) (by decide) ?_
        refine xm_goto 238 dX6_climb_234 (by decide) ?_
        exact xm_sub [1, 2, 3, 4, 5, 0] rfl (L_X6_climb_j238 hrec σ l0 l1 l2 l6 l7 x15 (1 : Int32) hf hR hE0 hE1 hE2 hC)
theorem L_X6_climb_l188 {G : xG} {π : Nat → Nat} {d C Z : Nat} {Q : xQ} {R : xM → Nat → Int32 → Int32 → Option (Int32 × xM)} (hrec : ∀ (e C Z : Nat) (Q : xQ) (σ : xM) (l0 : Nat) (l1 : Int32) (l2 : Int32) (x : (Int32 × xM)), R σ l0 l1 l2 = some x → (∀ g, x = g → Q (.inl (some (.int g.1))) (g.2) π) → xMach G π J_X6_climb ((d + e) + 1) C Z 0 (lv_args 0 [.ref l0, .int l1, .int l2]) [] σ Q) {s0 : (Nat × Int32 × Int32 × Int32 × Int32 × xM)} {x : ((Int32 × xM) ⊕ ((xM) ⊕ ((xM) ⊕ (xM))))} (h1 : xloop (f_X6_climb_s188 R) xF s0 = some x) (hR : ∀ g, x = Sum.inl g → Q (.inl (some (.int g.1))) (g.2) π) (hE0 : ∀ e : (xM), x = Sum.inr (Sum.inl e) → xMach G π J_X6_climb (d + 3) C Z 259 [] [] e Q) (hE1 : ∀ e : (xM), x = Sum.inr (Sum.inr (Sum.inl e)) → xMach G π J_X6_climb (d + 3) C Z 317 [] [] e Q) (hE2 : ∀ e : (xM), x = Sum.inr (Sum.inr (Sum.inr e)) → xMach G π J_X6_climb (d + 3) C Z 369 [] [] e Q) : xMach G π J_X6_climb (d + 3) C Z 188 [(0, .ref s0.1), (1, .int s0.2.1), (2, .int s0.2.2.1), (6, .int s0.2.2.2.1), (7, .int s0.2.2.2.2.1)] [] s0.2.2.2.2.2 Q := by
  refine xloop_run (M := (fun s : (Nat × Int32 × Int32 × Int32 × Int32 × xM) => xMach G π J_X6_climb (d + 3) C Z 188 [(0, .ref s.1), (1, .int s.2.1), (2, .int s.2.2.1), (6, .int s.2.2.2.1), (7, .int s.2.2.2.2.1)] [] s.2.2.2.2.2 Q)) (r := x) ?_ xF _ h1
  intro s y hs hx
  exact L_X6_climb_s188 hrec s.2.2.2.2.2 s.1 s.2.1 s.2.2.1 s.2.2.2.1 s.2.2.2.2.1 (x := y) hs (fun g hg => by subst hg; exact hR g hx) (fun e he => by subst he; exact hE0 e hx) (fun e he => by subst he; exact hE1 e hx) (fun e he => by subst he; exact hE2 e hx) (fun e he => by subst he; exact hx)
def f_X6_climb_j259 (R : xM → Nat → Int32 → Int32 → Option (Int32 × xM)) (σ : xM)  : Option (Int32 × xM) :=
  some ((1 : Int32), σ)
set_option maxHeartbeats 4000000 in
set_option maxRecDepth 20000 in
theorem L_X6_climb_j259 {G : xG} {π : Nat → Nat} {d C Z : Nat} {Q : xQ} {R : xM → Nat → Int32 → Int32 → Option (Int32 × xM)} (hrec : ∀ (e C Z : Nat) (Q : xQ) (σ : xM) (l0 : Nat) (l1 : Int32) (l2 : Int32) (x : (Int32 × xM)), R σ l0 l1 l2 = some x → (∀ g, x = g → Q (.inl (some (.int g.1))) (g.2) π) → xMach G π J_X6_climb ((d + e) + 1) C Z 0 (lv_args 0 [.ref l0, .int l1, .int l2]) [] σ Q) (σ : xM)  {x : (Int32 × xM)} (hf : f_X6_climb_j259 R σ = some x) (hR : ∀ g, x = g → Q (.inl (some (.int g.1))) (g.2) π) : xMach G π J_X6_climb (d + 3) C Z 259 [] [] σ Q := by
  unfold f_X6_climb_j259 at hf
  refine xm_iconst dX6_climb_259 (v := 1) (by decide) ?_
  cases hf
  exact xm_zret dX6_climb_260 rfl rfl (hR _ rfl)
def f_X6_climb_j317 (R : xM → Nat → Int32 → Int32 → Option (Int32 × xM)) (σ : xM)  : Option (Int32 × xM) :=
  some ((0 : Int32), σ)
set_option maxHeartbeats 4000000 in
set_option maxRecDepth 20000 in
theorem L_X6_climb_j317 {G : xG} {π : Nat → Nat} {d C Z : Nat} {Q : xQ} {R : xM → Nat → Int32 → Int32 → Option (Int32 × xM)} (hrec : ∀ (e C Z : Nat) (Q : xQ) (σ : xM) (l0 : Nat) (l1 : Int32) (l2 : Int32) (x : (Int32 × xM)), R σ l0 l1 l2 = some x → (∀ g, x = g → Q (.inl (some (.int g.1))) (g.2) π) → xMach G π J_X6_climb ((d + e) + 1) C Z 0 (lv_args 0 [.ref l0, .int l1, .int l2]) [] σ Q) (σ : xM)  {x : (Int32 × xM)} (hf : f_X6_climb_j317 R σ = some x) (hR : ∀ g, x = g → Q (.inl (some (.int g.1))) (g.2) π) : xMach G π J_X6_climb (d + 3) C Z 317 [] [] σ Q := by
  unfold f_X6_climb_j317 at hf
  refine xm_iconst dX6_climb_317 (v := 0) (by decide) ?_
  cases hf
  exact xm_zret dX6_climb_318 rfl rfl (hR _ rfl)
def f_X6_climb_j369 (R : xM → Nat → Int32 → Int32 → Option (Int32 × xM)) (σ : xM)  : Option (Int32 × xM) :=
  some ((1 : Int32), σ)
set_option maxHeartbeats 4000000 in
set_option maxRecDepth 20000 in
theorem L_X6_climb_j369 {G : xG} {π : Nat → Nat} {d C Z : Nat} {Q : xQ} {R : xM → Nat → Int32 → Int32 → Option (Int32 × xM)} (hrec : ∀ (e C Z : Nat) (Q : xQ) (σ : xM) (l0 : Nat) (l1 : Int32) (l2 : Int32) (x : (Int32 × xM)), R σ l0 l1 l2 = some x → (∀ g, x = g → Q (.inl (some (.int g.1))) (g.2) π) → xMach G π J_X6_climb ((d + e) + 1) C Z 0 (lv_args 0 [.ref l0, .int l1, .int l2]) [] σ Q) (σ : xM)  {x : (Int32 × xM)} (hf : f_X6_climb_j369 R σ = some x) (hR : ∀ g, x = g → Q (.inl (some (.int g.1))) (g.2) π) : xMach G π J_X6_climb (d + 3) C Z 369 [] [] σ Q := by
  unfold f_X6_climb_j369 at hf
  refine xm_iconst dX6_climb_369 (v := 1) (by decide) ?_
  cases hf
  exact xm_zret dX6_climb_370 rfl rfl (hR _ rfl)
def f_X6_climb_j182 (R : xM → Nat → Int32 → Int32 → Option (Int32 × xM)) (σ : xM) (l0 : Nat) (l1 : Int32) (l2 : Int32) : Option (Int32 × xM) :=
  xlet (0 : Int32) (fun v8 => xlet (0 : Int32) (fun v9 => (xloop (f_X6_climb_s188 R ) xF (l0, l1, l2, v8, v9, σ)).bind (Sum.elim (fun g => some g) (Sum.elim (fun e => f_X6_climb_j259 R e) (Sum.elim (fun e => f_X6_climb_j317 R e) (fun e => f_X6_climb_j369 R e))))))
set_option maxHeartbeats 4000000 in
set_option maxRecDepth 20000 in
theorem L_X6_climb_j182 {G : xG} {π : Nat → Nat} {d C Z : Nat} {Q : xQ} {R : xM → Nat → Int32 → Int32 → Option (Int32 × xM)} (hrec : ∀ (e C Z : Nat) (Q : xQ) (σ : xM) (l0 : Nat) (l1 : Int32) (l2 : Int32) (x : (Int32 × xM)), R σ l0 l1 l2 = some x → (∀ g, x = g → Q (.inl (some (.int g.1))) (g.2) π) → xMach G π J_X6_climb ((d + e) + 1) C Z 0 (lv_args 0 [.ref l0, .int l1, .int l2]) [] σ Q) (σ : xM) (l0 : Nat) (l1 : Int32) (l2 : Int32) {x : (Int32 × xM)} (hf : f_X6_climb_j182 R σ l0 l1 l2 = some x) (hR : ∀ g, x = g → Q (.inl (some (.int g.1))) (g.2) π) : xMach G π J_X6_climb (d + 3) C Z 182 [(0, .ref l0), (1, .int l1), (2, .int l2)] [] σ Q := by
  unfold f_X6_climb_j182 at hf
  refine xm_iconst dX6_climb_182 (v := 0) (by decide) ?_
  refine xb_topi hf (fun v8 ev8 hf => ?_)
  refine xm_istore dX6_climb_183 (by decide) (xm_stL (L' := [(6, .int v8), (0, .ref l0), (1, .int l1), (2, .int l2)]) rfl ?_)
  refine xm_iconst dX6_climb_185 (v := 0) (by decide) ?_
  refine xb_topi hf (fun v9 ev9 hf => ?_)
  refine xm_istore dX6_climb_186 (by decide) (xm_stL (L' := [(7, .int v9), (6, .int v8), (0, .ref l0), (1, .int l1), (2, .int l2)]) rfl ?_)
  obtain ⟨o, h1, hf⟩ := xbind hf
  refine xm_sub [2, 3, 4, 1, 0] rfl (L_X6_climb_l188 hrec  h1 (fun g hg => ?_) (fun e he => ?_) (fun e he => ?_) (fun e he => ?_))
  · subst hg
    cases hf
    exact hR _ rfl
  · subst he
    rw [Sum.elim_inr, Sum.elim_inl] at hf
    have hf : f_X6_climb_j259 R e = some _ := hf
    exact xm_sub [] rfl (L_X6_climb_j259 hrec e hf hR)
  · subst he
    rw [Sum.elim_inr, Sum.elim_inr, Sum.elim_inl] at hf
    have hf : f_X6_climb_j317 R e = some _ := hf
    exact xm_sub [] rfl (L_X6_climb_j317 hrec e hf hR)
  · subst he
    rw [Sum.elim_inr, Sum.elim_inr, Sum.elim_inr] at hf
    have hf : f_X6_climb_j369 R e = some _ := hf
    exact xm_sub [] rfl (L_X6_climb_j369 hrec e hf hR)
def f_X6_climb_j60 (R : xM → Nat → Int32 → Int32 → Option (Int32 × xM)) (σ : xM) (l0 : Nat) (l1 : Int32) (l2 : Int32) (l4 : Int32) (l5 : Int32) : Option (Int32 × xM) :=
  (gR σ l0 6 17).bind (fun x6 => (if xk σ x6 9 = true then (f_X9_add σ x6 l4 l5 (-1 : Int32) (0 : Int32)).bind (fun p7 => f_X6_climb_j182 R p7.2 l0 l1 l2) else none))
set_option maxHeartbeats 4000000 in
set_option maxRecDepth 20000 in
theorem L_X6_climb_j60 {G : xG} {π : Nat → Nat} {d C Z : Nat} {Q : xQ} {R : xM → Nat → Int32 → Int32 → Option (Int32 × xM)} (hrec : ∀ (e C Z : Nat) (Q : xQ) (σ : xM) (l0 : Nat) (l1 : Int32) (l2 : Int32) (x : (Int32 × xM)), R σ l0 l1 l2 = some x → (∀ g, x = g → Q (.inl (some (.int g.1))) (g.2) π) → xMach G π J_X6_climb ((d + e) + 1) C Z 0 (lv_args 0 [.ref l0, .int l1, .int l2]) [] σ Q) (σ : xM) (l0 : Nat) (l1 : Int32) (l2 : Int32) (l4 : Int32) (l5 : Int32) {x : (Int32 × xM)} (hf : f_X6_climb_j60 R σ l0 l1 l2 l4 l5 = some x) (hR : ∀ g, x = g → Q (.inl (some (.int g.1))) (g.2) π) : xMach G π J_X6_climb (d + 3) C Z 60 [(0, .ref l0), (1, .int l1), (2, .int l2), (4, .int l4), (5, .int l5)] [] σ Q := by
  unfold f_X6_climb_j60 at hf
  refine xm_aload_n dX6_climb_60 rfl ?_
  refine xb_getR (a := l0) (c := 6) (k := 17) dX6_climb_61 xcl6 (by decide) xw_350 rfl hf (fun x6 ex6 hf => ?_)
  refine xm_iload dX6_climb_64 rfl ?_
  refine xm_iload dX6_climb_66 rfl ?_
  refine xm_iconst dX6_climb_68 (v := -1) (by decide) ?_
  refine xm_iconst dX6_climb_69 (v := 0) (by decide) ?_
  refine xb_if hf (fun hb hf => ?_) (fun _ q => nomatch q)
  obtain ⟨p7, ep7, hf⟩ := xbind hf
  refine xb_callV (As := [.int l4, .int l5, .int (-1 : Int32), .int (0 : Int32)]) (v0 := (some (.int p7.1))) (τ0 := p7.2) dX6_climb_70 (xc_X9_add _ _) xcl9 xw_763 xw_764 xw_765 hb rfl (Nat.le_of_ble_eq_true rfl) rfl (Nat.le_of_ble_eq_true rfl) (fun Q1 hq => m_X9_add (d := d + 2) ep7 (fun g hg => by subst hg; exact hq)) ?_
  refine xm_pop dX6_climb_73 rfl ?_
  refine xm_goto 182 dX6_climb_74 (by decide) ?_
  exact xm_sub [0, 1, 2] rfl (L_X6_climb_j182 hrec p7.2 l0 l1 l2 hf hR)
def f_X6_climb_j167 (R : xM → Nat → Int32 → Int32 → Option (Int32 × xM)) (σ : xM)  : Option (Int32 × xM) :=
  some ((0 : Int32), σ)
set_option maxHeartbeats 4000000 in
set_option maxRecDepth 20000 in
theorem L_X6_climb_j167 {G : xG} {π : Nat → Nat} {d C Z : Nat} {Q : xQ} {R : xM → Nat → Int32 → Int32 → Option (Int32 × xM)} (hrec : ∀ (e C Z : Nat) (Q : xQ) (σ : xM) (l0 : Nat) (l1 : Int32) (l2 : Int32) (x : (Int32 × xM)), R σ l0 l1 l2 = some x → (∀ g, x = g → Q (.inl (some (.int g.1))) (g.2) π) → xMach G π J_X6_climb ((d + e) + 1) C Z 0 (lv_args 0 [.ref l0, .int l1, .int l2]) [] σ Q) (σ : xM)  {x : (Int32 × xM)} (hf : f_X6_climb_j167 R σ = some x) (hR : ∀ g, x = g → Q (.inl (some (.int g.1))) (g.2) π) : xMach G π J_X6_climb (d + 3) C Z 167 [] [] σ Q := by
  unfold f_X6_climb_j167 at hf
  refine xm_iconst dX6_climb_167 (v := 0) (by decide) ?_
  cases hf
  exact xm_zret dX6_climb_168 rfl rfl (hR _ rfl)
def f_X6_climb_j146 (R : xM → Nat → Int32 → Int32 → Option (Int32 × xM)) (σ : xM) (l0 : Nat) (l1 : Int32) (l2 : Int32) (l5 : Int32) (s0 : Int32) : Option (Int32 × xM) :=
  (if s0 = (0 : Int32) then f_X6_climb_j167 R σ else (if xk σ l0 6 = true then (R σ l0 (s0 + (1 : Int32)) (l2 + (1 : Int32))).bind (fun p27 => (if p27.1 = (0 : Int32) then f_X6_climb_j167 R p27.2 else (gR p27.2 l0 6 17).bind (fun x28 => (if xk p27.2 x28 9 = true then (f_X9_add p27.2 x28 (3 : Int32) l5 (0 : Int32) (1 : Int32)).bind (fun p29 => f_X6_climb_j182 R p29.2 l0 l1 l2) else none)))) else none))
set_option maxHeartbeats 4000000 in
set_option maxRecDepth 20000 in
theorem L_X6_climb_j146 {G : xG} {π : Nat → Nat} {d C Z : Nat} {Q : xQ} {R : xM → Nat → Int32 → Int32 → Option (Int32 × xM)} (hrec : ∀ (e C Z : Nat) (Q : xQ) (σ : xM) (l0 : Nat) (l1 : Int32) (l2 : Int32) (x : (Int32 × xM)), R σ l0 l1 l2 = some x → (∀ g, x = g → Q (.inl (some (.int g.1))) (g.2) π) → xMach G π J_X6_climb ((d + e) + 1) C Z 0 (lv_args 0 [.ref l0, .int l1, .int l2]) [] σ Q) (σ : xM) (l0 : Nat) (l1 : Int32) (l2 : Int32) (l5 : Int32) (s0 : Int32) {x : (Int32 × xM)} (hf : f_X6_climb_j146 R σ l0 l1 l2 l5 s0 = some x) (hR : ∀ g, x = g → Q (.inl (some (.int g.1))) (g.2) π) : xMach G π J_X6_climb (d + 3) C Z 146 [(0, .ref l0), (1, .int l1), (2, .int l2), (5, .int l5)] [.int s0] σ Q := by
  unfold f_X6_climb_j146 at hf
  refine xm_istore dX6_climb_146 (by decide) (xm_stL (L' := [(6, .int s0), (0, .ref l0), (1, .int l1), (2, .int l2), (5, .int l5)]) rfl ?_)
  refine xm_iload dX6_climb_148 rfl ?_
  refine xb_if_eq 167 dX6_climb_150 (by decide) hf (fun c hf => ?_) (fun c hf => ?_)
  · exact xm_sub [] rfl (L_X6_climb_j167 hrec σ hf hR)
  · refine xm_aload_n dX6_climb_153 rfl ?_
    refine xm_iload dX6_climb_154 rfl ?_
    refine xm_iconst dX6_climb_156 (v := 1) (by decide) ?_
    refine xm_iadd dX6_climb_157 ?_
    refine xm_iload_n dX6_climb_158 rfl ?_
    refine xm_iconst dX6_climb_159 (v := 1) (by decide) ?_
    refine xm_iadd dX6_climb_160 ?_
    refine xb_if hf (fun hb hf => ?_) (fun _ q => nomatch q)
    obtain ⟨p27, ep27, hf⟩ := xbind hf
    refine xb_callV (As := [.int (s0 + (1 : Int32)), .int (l2 + (1 : Int32))]) (v0 := (some (.int p27.1))) (τ0 := p27.2) dX6_climb_161 (xc_X6_climb _ _) xcl6 xw_1333 xw_1335 xs_51 hb rfl (Nat.le_of_ble_eq_true rfl) rfl (Nat.le_of_ble_eq_true rfl) (fun Q1 hq => hrec 1 _ _ Q1 _ _ _ _ _ ep27 (fun g hg => by subst hg; exact hq)) ?_
    refine xb_if_ne 169 dX6_climb_164 (by decide) hf (fun c hf => ?_) (fun c hf => ?_)
    · refine xm_aload_n dX6_climb_169 rfl ?_
      refine xb_getR (a := l0) (c := 6) (k := 17) dX6_climb_170 xcl6 (by decide) xw_350 rfl hf (fun x28 ex28 hf => ?_)
      refine xm_iconst dX6_climb_173 (v := 3) (by decide) ?_
      refine xm_iload dX6_climb_174 rfl ?_
      refine xm_iconst dX6_climb_176 (v := 0) (by decide) ?_
      refine xm_iconst dX6_climb_177 (v := 1) (by decide) ?_
      refine xb_if hf (fun hb hf => ?_) (fun _ q => nomatch q)
      obtain ⟨p29, ep29, hf⟩ := xbind hf
      refine xb_callV (As := [.int (3 : Int32), .int l5, .int (0 : Int32), .int (1 : Int32)]) (v0 := (some (.int p29.1))) (τ0 := p29.2) dX6_climb_178 (xc_X9_add _ _) xcl9 xw_763 xw_764 xw_765 hb rfl (Nat.le_of_ble_eq_true rfl) rfl (Nat.le_of_ble_eq_true rfl) (fun Q1 hq => m_X9_add (d := d + 2) ep29 (fun g hg => by subst hg; exact hq)) ?_
      refine xm_pop dX6_climb_181 rfl ?_
      exact xm_sub [1, 2, 3] rfl (L_X6_climb_j182 hrec p29.2 l0 l1 l2 hf hR)
    · exact xm_sub [] rfl (L_X6_climb_j167 hrec p27.2 hf hR)
def f_X6_climb_j124 (R : xM → Nat → Int32 → Int32 → Option (Int32 × xM)) (σ : xM)  : Option (Int32 × xM) :=
  some ((0 : Int32), σ)
set_option maxHeartbeats 4000000 in
set_option maxRecDepth 20000 in
theorem L_X6_climb_j124 {G : xG} {π : Nat → Nat} {d C Z : Nat} {Q : xQ} {R : xM → Nat → Int32 → Int32 → Option (Int32 × xM)} (hrec : ∀ (e C Z : Nat) (Q : xQ) (σ : xM) (l0 : Nat) (l1 : Int32) (l2 : Int32) (x : (Int32 × xM)), R σ l0 l1 l2 = some x → (∀ g, x = g → Q (.inl (some (.int g.1))) (g.2) π) → xMach G π J_X6_climb ((d + e) + 1) C Z 0 (lv_args 0 [.ref l0, .int l1, .int l2]) [] σ Q) (σ : xM)  {x : (Int32 × xM)} (hf : f_X6_climb_j124 R σ = some x) (hR : ∀ g, x = g → Q (.inl (some (.int g.1))) (g.2) π) : xMach G π J_X6_climb (d + 3) C Z 124 [] [] σ Q := by
  unfold f_X6_climb_j124 at hf
  refine xm_iconst dX6_climb_124 (v := 0) (by decide) ?_
  cases hf
  exact xm_zret dX6_climb_125 rfl rfl (hR _ rfl)
def f_X6_climb_j77 (R : xM → Nat → Int32 → Int32 → Option (Int32 × xM)) (σ : xM) (l0 : Nat) (l1 : Int32) (l2 : Int32) (l4 : Int32) (l5 : Int32) : Option (Int32 × xM) :=
  (if l4 = (1 : Int32) then (if xk σ l0 6 = true then (f_X6_climbArguments R σ l0 l5 l2).bind (fun p35 => (if p35.1 = (0 : Int32) then some ((0 : Int32), p35.2) else f_X6_climb_j182 R p35.2 l0 l1 l2)) else none) else (if l4 = (4 : Int32) then (if xk σ l0 6 = true then (R σ l0 (1 : Int32) (l2 + (1 : Int32))).bind (fun p32 => (if p32.1 = (0 : Int32) then f_X6_climb_j124 R p32.2 else (if xk p32.2 l0 6 = true then (f_X6_takeWord p32.2 l0).bind (fun p33 => (if xk p33.2 l0 6 = true then (f_X6_kindAt p33.2 l0 p33.1).bind (fun p34 => (if p34 = (5 : Int32) then f_X6_climb_j182 R p33.2 l0 l1 l2 else f_X6_climb_j124 R p33.2)) else none)) else none))) else none) else (if l4 = (3 : Int32) then (gR σ l0 6 0).bind (fun x30 => (if xk σ x30 1 = true then (f_X1_rank σ x30 l5 (0 : Int32)).bind (fun p31 => f_X6_climb_j146 R σ l0 l1 l2 l5 p31) else none)) else f_X6_climb_j146 R σ l0 l1 l2 l5 (0 : Int32))))
set_option maxHeartbeats 4000000 in
set_option maxRecDepth 20000 in
theorem L_X6_climb_j77 {G : xG} {π : Nat → Nat} {d C Z : Nat} {Q : xQ} {R : xM → Nat → Int32 → Int32 → Option (Int32 × xM)} (hrec : ∀ (e C Z : Nat) (Q : xQ) (σ : xM) (l0 : Nat) (l1 : Int32) (l2 : Int32) (x : (Int32 × xM)), R σ l0 l1 l2 = some x → (∀ g, x = g → Q (.inl (some (.int g.1))) (g.2) π) → xMach G π J_X6_climb ((d + e) + 1) C Z 0 (lv_args 0 [.ref l0, .int l1, .int l2]) [] σ Q) (σ : xM) (l0 : Nat) (l1 : Int32) (l2 : Int32) (l4 : Int32) (l5 : Int32) {x : (Int32 × xM)} (hf : f_X6_climb_j77 R σ l0 l1 l2 l4 l5 = some x) (hR : ∀ g, x = g → Q (.inl (some (.int g.1))) (g.2) π) : xMach G π J_X6_climb (d + 3) C Z 77 [(0, .ref l0), (1, .int l1), (2, .int l2), (4, .int l4), (5, .int l5)] [] σ Q := by
  unfold f_X6_climb_j77 at hf
  refine xm_iload dX6_climb_77 rfl ?_
  refine xm_iconst dX6_climb_79 (v := 1) (by decide) ?_
  refine xb_icmp_ne 95 dX6_climb_80 (by decide) hf (fun c hf => ?_) (fun c hf => ?_)
  · refine xm_iload dX6_climb_95 rfl ?_
    refine xm_iconst dX6_climb_97 (v := 4) (by decide) ?_
    refine xb_icmp_ne 126 dX6_climb_98 (by decide) hf (fun c hf => ?_) (fun c hf => ?_)
    · refine xm_iload dX6_climb_126 rfl ?_
      refine xm_iconst dX6_climb_128 (v := 3) (by decide) ?_
      refine xb_icmp_ne 145 dX6_climb_129 (by decide) hf (fun c hf => ?_) (fun c hf => ?_)
      · refine xm_iconst dX6_climb_145 (v := 0) (by decide) ?_
        exact xm_sub [0, 1, 2, 4] rfl (L_X6_climb_j146 hrec σ l0 l1 l2 l5 (0 : Int32) hf hR)
      · refine xm_aload_n dX6_climb_132 rfl ?_
        refine xb_getR (a := l0) (c := 6) (k := 0) dX6_climb_133 xcl6 (by decide) xw_329 rfl hf (fun x30 ex30 hf => ?_)
        refine xm_iload dX6_climb_136 rfl ?_
        refine xm_iconst dX6_climb_138 (v := 0) (by decide) ?_
        refine xb_if hf (fun hb hf => ?_) (fun _ q => nomatch q)
        obtain ⟨p31, ep31, hf⟩ := xbind hf
        refine xb_callV (As := [.int l5, .int (0 : Int32)]) (v0 := (some (.int p31))) (τ0 := σ) dX6_climb_139 (xc_X1_rank _ _) xcl1 xw_775 xw_776 xw_777 hb rfl (Nat.le_of_ble_eq_true rfl) rfl (Nat.le_of_ble_eq_true rfl) (fun Q1 hq => m_X1_rank (d := d + 1) ep31 (fun g hg => by subst hg; exact hq)) ?_
        refine xm_goto 146 dX6_climb_142 (by decide) ?_
        exact xm_sub [0, 1, 2, 4] rfl (L_X6_climb_j146 hrec σ l0 l1 l2 l5 p31 hf hR)
    · refine xm_aload_n dX6_climb_101 rfl ?_
      refine xm_iconst dX6_climb_102 (v := 1) (by decide) ?_
      refine xm_iload_n dX6_climb_103 rfl ?_
      refine xm_iconst dX6_climb_104 (v := 1) (by decide) ?_
      refine xm_iadd dX6_climb_105 ?_
      refine xb_if hf (fun hb hf => ?_) (fun _ q => nomatch q)
      obtain ⟨p32, ep32, hf⟩ := xbind hf
      refine xb_callV (As := [.int (1 : Int32), .int (l2 + (1 : Int32))]) (v0 := (some (.int p32.1))) (τ0 := p32.2) dX6_climb_106 (xc_X6_climb _ _) xcl6 xw_1333 xw_1335 xs_51 hb rfl (Nat.le_of_ble_eq_true rfl) rfl (Nat.le_of_ble_eq_true rfl) (fun Q1 hq => hrec 1 _ _ Q1 _ _ _ _ _ ep32 (fun g hg => by subst hg; exact hq)) ?_
      refine xb_if_eq 124 dX6_climb_109 (by decide) hf (fun c hf => ?_) (fun c hf => ?_)
      · exact xm_sub [] rfl (L_X6_climb_j124 hrec p32.2 hf hR)
      · refine xm_aload_n dX6_climb_112 rfl ?_
        refine xm_aload_n dX6_climb_113 rfl ?_
        refine xb_if hf (fun hb hf => ?_) (fun _ q => nomatch q)
        obtain ⟨p33, ep33, hf⟩ := xbind hf
        refine xb_callV (As := []) (v0 := (some (.int p33.1))) (τ0 := p33.2) dX6_climb_114 (xc_X6_takeWord _ _) xcl6 xw_1337 xw_1339 xs_52 hb rfl (Nat.le_of_ble_eq_true rfl) rfl (Nat.le_of_ble_eq_true rfl) (fun Q1 hq => m_X6_takeWord (d := d + 1) ep33 (fun g hg => by subst hg; exact hq)) ?_
        refine xb_if hf (fun hb hf => ?_) (fun _ q => nomatch q)
        obtain ⟨p34, ep34, hf⟩ := xbind hf
        refine xb_callV (As := [.int p33.1]) (v0 := (some (.int p34))) (τ0 := p33.2) dX6_climb_117 (xc_X6_kindAt _ _) xcl6 xw_767 xw_769 xs_9 hb rfl (Nat.le_of_ble_eq_true rfl) rfl (Nat.le_of_ble_eq_true rfl) (fun Q1 hq => m_X6_kindAt (d := d + 2) ep34 (fun g hg => by subst hg; exact hq)) ?_
        refine xm_iconst dX6_climb_120 (v := 5) (by decide) ?_
        refine xb_icmp_eq 182 dX6_climb_121 (by decide) hf (fun c hf => ?_) (fun c hf => ?_)
        · exact xm_sub [0, 1, 2] rfl (L_X6_climb_j182 hrec p33.2 l0 l1 l2 hf hR)
        · exact xm_sub [] rfl (L_X6_climb_j124 hrec p33.2 hf hR)
  · refine xm_aload_n dX6_climb_83 rfl ?_
    refine xm_iload dX6_climb_84 rfl ?_
    refine xm_iload_n dX6_climb_86 rfl ?_
    refine xb_if hf (fun hb hf => ?_) (fun _ q => nomatch q)
    obtain ⟨p35, ep35, hf⟩ := xbind hf
    refine xb_callV (As := [.int l5, .int l2]) (v0 := (some (.int p35.1))) (τ0 := p35.2) dX6_climb_87 (xc_X6_climbArguments _ _) xcl6 xw_1341 xw_1343 xs_53 hb rfl (Nat.le_of_ble_eq_true rfl) rfl (Nat.le_of_ble_eq_true rfl) (fun Q1 hq => m_X6_climbArguments (d := d + 0) hrec ep35 (fun g hg => by subst hg; exact hq)) ?_
    refine xb_if_ne 182 dX6_climb_90 (by decide) hf (fun c hf => ?_) (fun c hf => ?_)
    · exact xm_sub [0, 1, 2] rfl (L_X6_climb_j182 hrec p35.2 l0 l1 l2 hf hR)
    · refine xm_iconst dX6_climb_93 (v := 0) (by decide) ?_
      cases hf
      exact xm_zret dX6_climb_94 rfl rfl (hR _ rfl)
def f_X6_climb_b (R : xM → Nat → Int32 → Int32 → Option (Int32 × xM)) (σ : xM) (l0 : Nat) (l1 : Int32) (l2 : Int32) : Option (Int32 × xM) :=
  (if xk σ l0 6 = true then (f_X6_takeWord σ l0).bind (fun p1 => (if xk p1.2 l0 6 = true then (f_X6_kindAt p1.2 l0 p1.1).bind (fun p2 => (if (140 : Int32) < l2 then f_X6_climb_j27 R p1.2 else (gI p1.2 l0 6 5).bind (fun x3 => (if p1.1 < x3 then (gR p1.2 l0 6 2).bind (fun x4 => (aI p1.2 x4 14 p1.1).bind (fun x5 => (if p2 = (0 : Int32) then f_X6_climb_j60 R p1.2 l0 l1 l2 p2 x5 else (if p2 = (1 : Int32) then (if xk p1.2 l0 6 = true then (f_X6_nextWord p1.2 l0).bind (fun p36 => (if xk p1.2 l0 6 = true then (f_X6_kindAt p1.2 l0 p36).bind (fun p37 => (if p37 = (4 : Int32) then f_X6_climb_j77 R p1.2 l0 l1 l2 p2 x5 else f_X6_climb_j60 R p1.2 l0 l1 l2 p2 x5)) else none)) else none) else f_X6_climb_j77 R p1.2 l0 l1 l2 p2 x5)))) else f_X6_climb_j27 R p1.2)))) else none)) else none)
set_option maxHeartbeats 4000000 in
set_option maxRecDepth 20000 in
theorem m_X6_climb_b {G : xG} {π : Nat → Nat} {d C Z : Nat} {Q : xQ} {R : xM → Nat → Int32 → Int32 → Option (Int32 × xM)} (hrec : ∀ (e C Z : Nat) (Q : xQ) (σ : xM) (l0 : Nat) (l1 : Int32) (l2 : Int32) (x : (Int32 × xM)), R σ l0 l1 l2 = some x → (∀ g, x = g → Q (.inl (some (.int g.1))) (g.2) π) → xMach G π J_X6_climb ((d + e) + 1) C Z 0 (lv_args 0 [.ref l0, .int l1, .int l2]) [] σ Q) {σ : xM} {l0 : Nat} {l1 : Int32} {l2 : Int32} {x : (Int32 × xM)} (hf : f_X6_climb_b R σ l0 l1 l2 = some x) (hR : ∀ g, x = g → Q (.inl (some (.int g.1))) (g.2) π) : xMach G π J_X6_climb (d + 3) C Z 0 (lv_args 0 [.ref l0, .int l1, .int l2]) [] σ Q := by
  unfold f_X6_climb_b at hf
  refine xm_stL (L' := [(0, .ref l0), (1, .int l1), (2, .int l2)]) rfl ?_
  refine xm_aload_n dX6_climb_0 rfl ?_
  refine xb_if hf (fun hb hf => ?_) (fun _ q => nomatch q)
  obtain ⟨p1, ep1, hf⟩ := xbind hf
  refine xb_callV (As := []) (v0 := (some (.int p1.1))) (τ0 := p1.2) dX6_climb_1 (xc_X6_takeWord _ _) xcl6 xw_1337 xw_1339 xs_52 hb rfl (Nat.le_of_ble_eq_true rfl) rfl (Nat.le_of_ble_eq_true rfl) (fun Q1 hq => m_X6_takeWord (d := d + 1) ep1 (fun g hg => by subst hg; exact hq)) ?_
  refine xm_istore_n dX6_climb_4 (by decide) (xm_stL (L' := [(3, .int p1.1), (0, .ref l0), (1, .int l1), (2, .int l2)]) rfl ?_)
  refine xm_aload_n dX6_climb_5 rfl ?_
  refine xm_iload_n dX6_climb_6 rfl ?_
  refine xb_if hf (fun hb hf => ?_) (fun _ q => nomatch q)
  obtain ⟨p2, ep2, hf⟩ := xbind hf
  refine xb_callV (As := [.int p1.1]) (v0 := (some (.int p2))) (τ0 := p1.2) dX6_climb_7 (xc_X6_kindAt _ _) xcl6 xw_767 xw_769 xs_9 hb rfl (Nat.le_of_ble_eq_true rfl) rfl (Nat.le_of_ble_eq_true rfl) (fun Q1 hq => m_X6_kindAt (d := d + 2) ep2 (fun g hg => by subst hg; exact hq)) ?_
  refine xm_istore dX6_climb_10 (by decide) (xm_stL (L' := [(4, .int p2), (3, .int p1.1), (0, .ref l0), (1, .int l1), (2, .int l2)]) rfl ?_)
  refine xm_iload_n dX6_climb_12 rfl ?_
  refine xm_sipush dX6_climb_13 (v := 140) (by decide) ?_
  refine xb_icmp_gt 27 dX6_climb_16 (by decide) hf (fun c hf => ?_) (fun c hf => ?_)
  · exact xm_sub [] rfl (L_X6_climb_j27 hrec p1.2 hf hR)
  · refine xm_iload_n dX6_climb_19 rfl ?_
    refine xm_aload_n dX6_climb_20 rfl ?_
    refine xb_getI (a := l0) (c := 6) (k := 5) dX6_climb_21 xcl6 (by decide) xw_337 rfl hf (fun x3 ex3 hf => ?_)
    refine xb_icmp_lt 29 dX6_climb_24 (by decide) hf (fun c hf => ?_) (fun c hf => ?_)
    · refine xm_aload_n dX6_climb_29 rfl ?_
      refine xb_getR (a := l0) (c := 6) (k := 2) dX6_climb_30 xcl6 (by decide) xw_332 rfl hf (fun x4 ex4 hf => ?_)
      refine xm_iload_n dX6_climb_33 rfl ?_
      refine xb_iald dX6_climb_34 hf (fun x5 ex5 hf => ?_)
      refine xm_istore dX6_climb_35 (by decide) (xm_stL (L' := [(5, .int x5), (4, .int p2), (3, .int p1.1), (0, .ref l0), (1, .int l1), (2, .int l2)]) rfl ?_)
      refine xm_iload dX6_climb_37 rfl ?_
      refine xb_if_eq 60 dX6_climb_39 (by decide) hf (fun c hf => ?_) (fun c hf => ?_)
      · exact xm_sub [3, 4, 5, 1, 0] rfl (L_X6_climb_j60 hrec p1.2 l0 l1 l2 p2 x5 hf hR)
      · refine xm_iload dX6_climb_42 rfl ?_
        refine xm_iconst dX6_climb_44 (v := 1) (by decide) ?_
        refine xb_icmp_ne 77 dX6_climb_45 (by decide) hf (fun c hf => ?_) (fun c hf => ?_)
        · exact xm_sub [3, 4, 5, 1, 0] rfl (L_X6_climb_j77 hrec p1.2 l0 l1 l2 p2 x5 hf hR)
        · refine xm_aload_n dX6_climb_48 rfl ?_
          refine xm_aload_n dX6_climb_49 rfl ?_
          refine xb_if hf (fun hb hf => ?_) (fun _ q => nomatch q)
          obtain ⟨p36, ep36, hf⟩ := xbind hf
          refine xb_callV (As := []) (v0 := (some (.int p36))) (τ0 := p1.2) dX6_climb_50 (xc_X6_nextWord _ _) xcl6 xw_747 xw_749 xs_5 hb rfl (Nat.le_of_ble_eq_true rfl) rfl (Nat.le_of_ble_eq_true rfl) (fun Q1 hq => m_X6_nextWord (d := d + 2) ep36 (fun g hg => by subst hg; exact hq)) ?_
          refine xb_if hf (fun hb hf => ?_) (fun _ q => nomatch q)
          obtain ⟨p37, ep37, hf⟩ := xbind hf
          refine xb_callV (As := [.int p36]) (v0 := (some (.int p37))) (τ0 := p1.2) dX6_climb_53 (xc_X6_kindAt _ _) xcl6 xw_767 xw_769 xs_9 hb rfl (Nat.le_of_ble_eq_true rfl) rfl (Nat.le_of_ble_eq_true rfl) (fun Q1 hq => m_X6_kindAt (d := d + 2) ep37 (fun g hg => by subst hg; exact hq)) ?_
          refine xm_iconst dX6_climb_56 (v := 4) (by decide) ?_
          refine xb_icmp_eq 77 dX6_climb_57 (by decide) hf (fun c hf => ?_) (fun c hf => ?_)
          · exact xm_sub [3, 4, 5, 1, 0] rfl (L_X6_climb_j77 hrec p1.2 l0 l1 l2 p2 x5 hf hR)
          · exact xm_sub [3, 4, 5, 1, 0] rfl (L_X6_climb_j60 hrec p1.2 l0 l1 l2 p2 x5 hf hR)
    · exact xm_sub [] rfl (L_X6_climb_j27 hrec p1.2 hf hR)
def fr_X6_climb (n : Nat) : xM → Nat → Int32 → Int32 → Option (Int32 × xM) := Nat.rec (motive := fun _ => xM → Nat → Int32 → Int32 → Option (Int32 × xM)) (fun _ _ _ _ => none) (fun _ R => f_X6_climb_b R) n
def f_X6_climb : xM → Nat → Int32 → Int32 → Option (Int32 × xM) := fr_X6_climb 200
theorem mr_X6_climb {G : xG} {π : Nat → Nat} : ∀ (n d C Z : Nat) (Q : xQ) (σ : xM) (l0 : Nat) (l1 : Int32) (l2 : Int32) (x : (Int32 × xM)), fr_X6_climb n σ l0 l1 l2 = some x → (∀ g, x = g → Q (.inl (some (.int g.1))) (g.2) π) → xMach G π J_X6_climb ((d + 2 * n) + 1) C Z 0 (lv_args 0 [.ref l0, .int l1, .int l2]) [] σ Q := by
  intro n
  induction n with
  | zero => intro d C Z Q σ l0 l1 l2 x hf; cases hf
  | succ n ih =>
    intro d C Z Q σ l0 l1 l2 x hf hR
    rw [show (d + 2 * (n + 1)) + 1 = (d + 2 * n) + 3 from by omega]
    exact m_X6_climb_b (R := fr_X6_climb n) (fun e C Z Q σ l0 l1 l2 x h1 h2 => by
      have h := ih (d + e) C Z Q σ l0 l1 l2 x h1 h2
      rwa [show (d + e) + 2 * n + 1 = (d + 2 * n) + e + 1 from by omega] at h) hf hR
theorem m_X6_climb {G : xG} {π : Nat → Nat} {d C Z : Nat} {Q : xQ} {σ : xM} {l0 : Nat} {l1 : Int32} {l2 : Int32} {x : (Int32 × xM)} (hf : f_X6_climb σ l0 l1 l2 = some x) (hR : ∀ g, x = g → Q (.inl (some (.int g.1))) (g.2) π) : xMach G π J_X6_climb (d + 401) C Z 0 (lv_args 0 [.ref l0, .int l1, .int l2]) [] σ Q := mr_X6_climb 200 d C Z Q σ l0 l1 l2 x hf hR
-- Rankwise$Reader.climbingGives(LRankwise$Tree;)Z
def f_X6_climbingGives_j48 (σ : xM) (s0 : Int32) : Option (Int32 × xM) :=
  (xz s0).bind (fun b5 => some (b5, σ))
set_option maxHeartbeats 4000000 in
set_option maxRecDepth 20000 in
theorem L_X6_climbingGives_j48 {G : xG} {π : Nat → Nat} {d C Z : Nat} {Q : xQ} (σ : xM) (s0 : Int32) {x : (Int32 × xM)} (hf : f_X6_climbingGives_j48 σ s0 = some x) (hR : ∀ g, x = g → Q (.inl (some (.int g.1))) (g.2) π) : xMach G π J_X6_climbingGives (d + 402) C Z 48 [] [.int s0] σ Q := by
  unfold f_X6_climbingGives_j48 at hf
  obtain ⟨b5, eb5, hf⟩ := xbind hf
  obtain ⟨rfl, hz⟩ := xz_of eb5
  cases hf
  exact xm_zret dX6_climbingGives_48 rfl hz (hR _ rfl)
def f_X6_climbingGives_j47 (σ : xM)  : Option (Int32 × xM) :=
  f_X6_climbingGives_j48 σ (0 : Int32)
set_option maxHeartbeats 4000000 in
set_option maxRecDepth 20000 in
theorem L_X6_climbingGives_j47 {G : xG} {π : Nat → Nat} {d C Z : Nat} {Q : xQ} (σ : xM)  {x : (Int32 × xM)} (hf : f_X6_climbingGives_j47 σ = some x) (hR : ∀ g, x = g → Q (.inl (some (.int g.1))) (g.2) π) : xMach G π J_X6_climbingGives (d + 402) C Z 47 [] [] σ Q := by
  unfold f_X6_climbingGives_j47 at hf
  refine xm_iconst dX6_climbingGives_47 (v := 0) (by decide) ?_
  exact xm_sub [] rfl (L_X6_climbingGives_j48 σ (0 : Int32) hf hR)
def f_X6_climbingGives (σ : xM) (l0 : Nat) (l1 : Nat) : Option (Int32 × xM) :=
  (sI σ l0 6 7 (0 : Int32)).bind (fun σ1 => (gR σ1 l0 6 17).bind (fun x2 => (if xk σ1 x2 9 = true then (f_X9_clear σ1 x2).bind (fun p3 => (if xk p3 l0 6 = true then (f_X6_climb p3 l0 (1 : Int32) (0 : Int32)).bind (fun p4 => (if p4.1 = (0 : Int32) then f_X6_climbingGives_j47 p4.2 else (if xk p4.2 l0 6 = true then (f_X6_nextWord p4.2 l0).bind (fun p6 => (gI p4.2 l0 6 5).bind (fun x7 => (if p6 < x7 then f_X6_climbingGives_j47 p4.2 else (gR p4.2 l0 6 17).bind (fun x8 => (if xk p4.2 l1 9 = true then (f_X9_hasLine p4.2 l1 x8).bind (fun p9 => (if p9 = (0 : Int32) then f_X6_climbingGives_j47 p4.2 else f_X6_climbingGives_j48 p4.2 (1 : Int32))) else none))))) else none))) else none)) else none)))
set_option maxHeartbeats 4000000 in
set_option maxRecDepth 20000 in
theorem m_X6_climbingGives {G : xG} {π : Nat → Nat} {d C Z : Nat} {Q : xQ} {σ : xM} {l0 : Nat} {l1 : Nat} {x : (Int32 × xM)} (hf : f_X6_climbingGives σ l0 l1 = some x) (hR : ∀ g, x = g → Q (.inl (some (.int g.1))) (g.2) π) : xMach G π J_X6_climbingGives (d + 402) C Z 0 (lv_args 0 [.ref l0, .ref l1]) [] σ Q := by
  unfold f_X6_climbingGives at hf
  refine xm_stL (L' := [(0, .ref l0), (1, .ref l1)]) rfl ?_
  refine xm_aload_n dX6_climbingGives_0 rfl ?_
  refine xm_iconst dX6_climbingGives_1 (v := 0) (by decide) ?_
  refine xb_putI (a := l0) (c := 6) (k := 7) dX6_climbingGives_2 xcl6 (by decide) xw_340 rfl rfl hf (fun σ1 eσ1 hf => ?_)
  refine xm_aload_n dX6_climbingGives_5 rfl ?_
  refine xb_getR (a := l0) (c := 6) (k := 17) dX6_climbingGives_6 xcl6 (by decide) xw_350 rfl hf (fun x2 ex2 hf => ?_)
  refine xb_if hf (fun hb hf => ?_) (fun _ q => nomatch q)
  obtain ⟨p3, ep3, hf⟩ := xbind hf
  refine xb_callV (As := []) (v0 := none) (τ0 := p3) dX6_climbingGives_9 (xc_X9_clear _ _) xcl9 xw_743 xw_744 xw_745 hb rfl (Nat.le_of_ble_eq_true rfl) rfl (Nat.le_of_ble_eq_true rfl) (fun Q1 hq => m_X9_clear (d := d + 401) ep3 (fun g hg => by subst hg; exact hq)) ?_
  refine xm_aload_n dX6_climbingGives_12 rfl ?_
  refine xm_iconst dX6_climbingGives_13 (v := 1) (by decide) ?_
  refine xm_iconst dX6_climbingGives_14 (v := 0) (by decide) ?_
  refine xb_if hf (fun hb hf => ?_) (fun _ q => nomatch q)
  obtain ⟨p4, ep4, hf⟩ := xbind hf
  refine xb_callV (As := [.int (1 : Int32), .int (0 : Int32)]) (v0 := (some (.int p4.1))) (τ0 := p4.2) dX6_climbingGives_15 (xc_X6_climb _ _) xcl6 xw_1333 xw_1335 xs_51 hb rfl (Nat.le_of_ble_eq_true rfl) rfl (Nat.le_of_ble_eq_true rfl) (fun Q1 hq => m_X6_climb (d := d + 0) ep4 (fun g hg => by subst hg; exact hq)) ?_
  refine xb_if_eq 47 dX6_climbingGives_18 (by decide) hf (fun c hf => ?_) (fun c hf => ?_)
  · exact xm_sub [] rfl (L_X6_climbingGives_j47 p4.2 hf hR)
  · refine xm_aload_n dX6_climbingGives_21 rfl ?_
    refine xb_if hf (fun hb hf => ?_) (fun _ q => nomatch q)
    obtain ⟨p6, ep6, hf⟩ := xbind hf
    refine xb_callV (As := []) (v0 := (some (.int p6))) (τ0 := p4.2) dX6_climbingGives_22 (xc_X6_nextWord _ _) xcl6 xw_747 xw_749 xs_5 hb rfl (Nat.le_of_ble_eq_true rfl) rfl (Nat.le_of_ble_eq_true rfl) (fun Q1 hq => m_X6_nextWord (d := d + 401) ep6 (fun g hg => by subst hg; exact hq)) ?_
    refine xm_aload_n dX6_climbingGives_25 rfl ?_
    refine xb_getI (a := l0) (c := 6) (k := 5) dX6_climbingGives_26 xcl6 (by decide) xw_337 rfl hf (fun x7 ex7 hf => ?_)
    refine xb_icmp_lt 47 dX6_climbingGives_29 (by decide) hf (fun c hf => ?_) (fun c hf => ?_)
    · exact xm_sub [] rfl (L_X6_climbingGives_j47 p4.2 hf hR)
    · refine xm_aload_n dX6_climbingGives_32 rfl ?_
      refine xm_aload_n dX6_climbingGives_33 rfl ?_
      refine xb_getR (a := l0) (c := 6) (k := 17) dX6_climbingGives_34 xcl6 (by decide) xw_350 rfl hf (fun x8 ex8 hf => ?_)
      refine xb_if hf (fun hb hf => ?_) (fun _ q => nomatch q)
      obtain ⟨p9, ep9, hf⟩ := xbind hf
      refine xb_callV (As := [.ref x8]) (v0 := (some (.int p9))) (τ0 := p4.2) dX6_climbingGives_37 (xc_X9_hasLine _ _) xcl9 xw_1311 xw_1312 xw_1313 hb rfl (Nat.le_of_ble_eq_true rfl) rfl (Nat.le_of_ble_eq_true rfl) (fun Q1 hq => m_X9_hasLine (d := d + 400) ep9 (fun g hg => by subst hg; exact hq)) ?_
      refine xb_if_eq 47 dX6_climbingGives_40 (by decide) hf (fun c hf => ?_) (fun c hf => ?_)
      · exact xm_sub [] rfl (L_X6_climbingGives_j47 p4.2 hf hR)
      · refine xm_iconst dX6_climbingGives_43 (v := 1) (by decide) ?_
        refine xm_goto 48 dX6_climbingGives_44 (by decide) ?_
        exact xm_sub [] rfl (L_X6_climbingGives_j48 p4.2 (1 : Int32) hf hR)
-- Rankwise$Reader.needsAllBrackets(LRankwise$Tree;)Z
def f_X6_needsAllBrackets_j61 (σ : xM) (l0 : Nat) (l1 : Nat) (l2 : Int32) (l3 : Int32) : Option ((Int32 × xM) ⊕ ((Int32 × xM) ⊕ (Nat × Nat × Int32 × Int32 × xM))) :=
  xlet (l3 + (1 : Int32)) (fun v5 => some (Sum.inr (Sum.inr (l0, l1, l2, v5, σ))))
set_option maxHeartbeats 4000000 in
set_option maxRecDepth 20000 in
theorem L_X6_needsAllBrackets_j61 {G : xG} {π : Nat → Nat} {d C Z : Nat} {Q : xQ} (σ : xM) (l0 : Nat) (l1 : Nat) (l2 : Int32) (l3 : Int32) {x : ((Int32 × xM) ⊕ ((Int32 × xM) ⊕ (Nat × Nat × Int32 × Int32 × xM)))} (hf : f_X6_needsAllBrackets_j61 σ l0 l1 l2 l3 = some x) (hR : ∀ g, x = Sum.inl (g) → Q (.inl (some (.int g.1))) (g.2) π) (hE : ∀ e : (Int32 × xM), x = Sum.inr (Sum.inl e) → xMach G π J_X6_needsAllBrackets (d + 5) C Z 67 [(2, .int e.1)] [] e.2 Q) (hC : ∀ e : (Nat × Nat × Int32 × Int32 × xM), x = Sum.inr (Sum.inr e) → xMach G π J_X6_needsAllBrackets (d + 5) C Z 4 [(0, .ref e.1), (1, .ref e.2.1), (2, .int e.2.2.1), (3, .int e.2.2.2.1)] [] e.2.2.2.2 Q) : xMach G π J_X6_needsAllBrackets (d + 5) C Z 61 [(0, .ref l0), (1, .ref l1), (2, .int l2), (3, .int l3)] [] σ Q := by
  unfold f_X6_needsAllBrackets_j61 at hf
  refine xb_iinc dX6_needsAllBrackets_61 rfl (by decide) (by decide) hf (fun v5 ev5 hf => xm_stL (L' := [(3, .int v5), (0, .ref l0), (1, .ref l1), (2, .int l2)]) rfl ?_)
  refine xm_goto 4 dX6_needsAllBrackets_64 (by decide) ?_
  cases hf
  exact xm_sub [1, 2, 3, 0] rfl (hC _ rfl)
def f_X6_needsAllBrackets_j52 (σ : xM) (l0 : Nat) (l1 : Nat) (l3 : Int32) (l4 : Int32) (s0 : Int32) : Option ((Int32 × xM) ⊕ ((Int32 × xM) ⊕ (Nat × Nat × Int32 × Int32 × xM))) :=
  (if xk σ l0 6 = true then (f_X6_hide σ l0 l3 l4 (0 : Int32)).bind (fun p9 => f_X6_needsAllBrackets_j61 p9 l0 l1 s0 l3) else none)
set_option maxHeartbeats 4000000 in
set_option maxRecDepth 20000 in
theorem L_X6_needsAllBrackets_j52 {G : xG} {π : Nat → Nat} {d C Z : Nat} {Q : xQ} (σ : xM) (l0 : Nat) (l1 : Nat) (l3 : Int32) (l4 : Int32) (s0 : Int32) {x : ((Int32 × xM) ⊕ ((Int32 × xM) ⊕ (Nat × Nat × Int32 × Int32 × xM)))} (hf : f_X6_needsAllBrackets_j52 σ l0 l1 l3 l4 s0 = some x) (hR : ∀ g, x = Sum.inl (g) → Q (.inl (some (.int g.1))) (g.2) π) (hE : ∀ e : (Int32 × xM), x = Sum.inr (Sum.inl e) → xMach G π J_X6_needsAllBrackets (d + 5) C Z 67 [(2, .int e.1)] [] e.2 Q) (hC : ∀ e : (Nat × Nat × Int32 × Int32 × xM), x = Sum.inr (Sum.inr e) → xMach G π J_X6_needsAllBrackets (d + 5) C Z 4 [(0, .ref e.1), (1, .ref e.2.1), (2, .int e.2.2.1), (3, .int e.2.2.2.1)] [] e.2.2.2.2 Q) : xMach G π J_X6_needsAllBrackets (d + 5) C Z 52 [(0, .ref l0), (1, .ref l1), (3, .int l3), (4, .int l4)] [.int s0] σ Q := by
  unfold f_X6_needsAllBrackets_j52 at hf
  refine xm_istore_n dX6_needsAllBrackets_52 (by decide) (xm_stL (L' := [(2, .int s0), (0, .ref l0), (1, .ref l1), (3, .int l3), (4, .int l4)]) rfl ?_)
  refine xm_aload_n dX6_needsAllBrackets_53 rfl ?_
  refine xm_iload_n dX6_needsAllBrackets_54 rfl ?_
  refine xm_iload dX6_needsAllBrackets_55 rfl ?_
  refine xm_iconst dX6_needsAllBrackets_57 (v := 0) (by decide) ?_
  refine xb_if hf (fun hb hf => ?_) (fun _ q => nomatch q)
  obtain ⟨p9, ep9, hf⟩ := xbind hf
  refine xb_callV (As := [.int l3, .int l4, .int (0 : Int32)]) (v0 := none) (τ0 := p9) dX6_needsAllBrackets_58 (xc_X6_hide _ _) xcl6 xw_1302 xw_1304 xs_47 hb rfl (Nat.le_of_ble_eq_true rfl) rfl (Nat.le_of_ble_eq_true rfl) (fun Q1 hq => m_X6_hide (d := d + 4) ep9 (fun g hg => by subst hg; exact hq)) ?_
  exact xm_sub [1, 2, 0, 3] rfl (L_X6_needsAllBrackets_j61 p9 l0 l1 s0 l3 hf hR hE hC)
def f_X6_needsAllBrackets_s4 (s : (Nat × Nat × Int32 × Int32 × xM)) : Option ((Int32 × xM) ⊕ ((Int32 × xM) ⊕ (Nat × Nat × Int32 × Int32 × xM))) :=
  xlet s.1 (fun l0 => xlet s.2.1 (fun l1 => xlet s.2.2.1 (fun l2 => xlet s.2.2.2.1 (fun l3 => xlet s.2.2.2.2 (fun σ => (gI σ l0 6 5).bind (fun x3 => (if x3 ≤ l3 then some (Sum.inr (Sum.inl (l2, σ))) else (if l2 = (0 : Int32) then some (Sum.inr (Sum.inl (l2, σ))) else (if xk σ l0 6 = true then (f_X6_opensPair σ l0 l3).bind (fun p4 => (if p4 = (0 : Int32) then f_X6_needsAllBrackets_j61 σ l0 l1 l2 l3 else (if xk σ l0 6 = true then (f_X6_partnerOf σ l0 l3).bind (fun p6 => (if xk σ l0 6 = true then (f_X6_hide σ l0 l3 p6 (1 : Int32)).bind (fun p7 => (if xk p7 l0 6 = true then (f_X6_stacksGive p7 l0 l1).bind (fun p8 => (if p8.1 = (0 : Int32) then f_X6_needsAllBrackets_j52 p8.2 l0 l1 l3 p6 (1 : Int32) else f_X6_needsAllBrackets_j52 p8.2 l0 l1 l3 p6 (0 : Int32))) else none)) else none)) else none))) else none)))))))))
set_option maxHeartbeats 4000000 in
set_option maxRecDepth 20000 in
theorem L_X6_needsAllBrackets_s4 {G : xG} {π : Nat → Nat} {d C Z : Nat} {Q : xQ} (σ : xM) (l0 : Nat) (l1 : Nat) (l2 : Int32) (l3 : Int32) {x : ((Int32 × xM) ⊕ ((Int32 × xM) ⊕ (Nat × Nat × Int32 × Int32 × xM)))} (hf : f_X6_needsAllBrackets_s4 (l0, l1, l2, l3, σ) = some x) (hR : ∀ g, x = Sum.inl (g) → Q (.inl (some (.int g.1))) (g.2) π) (hE : ∀ e : (Int32 × xM), x = Sum.inr (Sum.inl e) → xMach G π J_X6_needsAllBrackets (d + 5) C Z 67 [(2, .int e.1)] [] e.2 Q) (hC : ∀ e : (Nat × Nat × Int32 × Int32 × xM), x = Sum.inr (Sum.inr e) → xMach G π J_X6_needsAllBrackets (d + 5) C Z 4 [(0, .ref e.1), (1, .ref e.2.1), (2, .int e.2.2.1), (3, .int e.2.2.2.1)] [] e.2.2.2.2 Q) : xMach G π J_X6_needsAllBrackets (d + 5) C Z 4 [(0, .ref l0), (1, .ref l1), (2, .int l2), (3, .int l3)] [] σ Q := by
  have hf : (gI σ l0 6 5).bind (fun x3 => (if x3 ≤ l3 then some (Sum.inr (Sum.inl (l2, σ))) else (if l2 = (0 : Int32) then some (Sum.inr (Sum.inl (l2, σ))) else (if xk σ l0 6 = true then (f_X6_opensPair σ l0 l3).bind (fun p4 => (if p4 = (0 : Int32) then f_X6_needsAllBrackets_j61 σ l0 l1 l2 l3 else (if xk σ l0 6 = true then (f_X6_partnerOf σ l0 l3).bind (fun p6 => (if xk σ l0 6 = true then (f_X6_hide σ l0 l3 p6 (1 : Int32)).bind (fun p7 => (if xk p7 l0 6 = true then (f_X6_stacksGive p7 l0 l1).bind (fun p8 => (if p8.1 = (0 : Int32) then f_X6_needsAllBrackets_j52 p8.2 l0 l1 l3 p6 (1 : Int32) else f_X6_needsAllBrackets_j52 p8.2 l0 l1 l3 p6 (0 : Int32))) else none)) else none)) else none))) else none)))) = some x := hf
  refine xm_iload_n dX6_needsAllBrackets_4 rfl ?_
  refine xm_aload_n dX6_needsAllBrackets_5 rfl ?_
  refine xb_getI (a := l0) (c := 6) (k := 5) dX6_needsAllBrackets_6 xcl6 (by decide) xw_337 rfl hf (fun x3 ex3 hf => ?_)
  refine xb_icmp_ge 67 dX6_needsAllBrackets_9 (by decide) hf (fun c hf => ?_) (fun c hf => ?_)
  · cases hf
    exact xm_sub [2] rfl (hE _ rfl)
  · refine xm_iload_n dX6_needsAllBrackets_12 rfl ?_
    refine xb_if_eq 67 dX6_needsAllBrackets_13 (by decide) hf (fun c hf => ?_) (fun c hf => ?_)
    · cases hf
      exact xm_sub [2] rfl (hE _ rfl)
    · refine xm_aload_n dX6_needsAllBrackets_16 rfl ?_
      refine xm_iload_n dX6_needsAllBrackets_17 rfl ?_
      refine xb_if hf (fun hb hf => ?_) (fun _ q => nomatch q)
      obtain ⟨p4, ep4, hf⟩ := xbind hf
      refine xb_callV (As := [.int l3]) (v0 := (some (.int p4))) (τ0 := σ) dX6_needsAllBrackets_18 (xc_X6_opensPair _ _) xcl6 xw_1294 xw_1296 xs_45 hb rfl (Nat.le_of_ble_eq_true rfl) rfl (Nat.le_of_ble_eq_true rfl) (fun Q1 hq => m_X6_opensPair (d := d + 3) ep4 (fun g hg => by subst hg; exact hq)) ?_
      refine xb_if_eq 61 dX6_needsAllBrackets_21 (by decide) hf (fun c hf => ?_) (fun c hf => ?_)
      · exact xm_sub [0, 1, 2, 3] rfl (L_X6_needsAllBrackets_j61 σ l0 l1 l2 l3 hf hR hE hC)
      · refine xm_aload_n dX6_needsAllBrackets_24 rfl ?_
        refine xm_iload_n dX6_needsAllBrackets_25 rfl ?_
        refine xb_if hf (fun hb hf => ?_) (fun _ q => nomatch q)
        obtain ⟨p6, ep6, hf⟩ := xbind hf
        refine xb_callV (As := [.int l3]) (v0 := (some (.int p6))) (τ0 := σ) dX6_needsAllBrackets_26 (xc_X6_partnerOf _ _) xcl6 xw_1298 xw_1300 xs_46 hb rfl (Nat.le_of_ble_eq_true rfl) rfl (Nat.le_of_ble_eq_true rfl) (fun Q1 hq => m_X6_partnerOf (d := d + 4) ep6 (fun g hg => by subst hg; exact hq)) ?_
        refine xm_istore dX6_needsAllBrackets_29 (by decide) (xm_stL (L' := [(4, .int p6), (0, .ref l0), (1, .ref l1), (2, .int l2), (3, .int l3)]) rfl ?_)
        refine xm_aload_n dX6_needsAllBrackets_31 rfl ?_
        refine xm_iload_n dX6_needsAllBrackets_32 rfl ?_
        refine xm_iload dX6_needsAllBrackets_33 rfl ?_
        refine xm_iconst dX6_needsAllBrackets_35 (v := 1) (by decide) ?_
        refine xb_if hf (fun hb hf => ?_) (fun _ q => nomatch q)
        obtain ⟨p7, ep7, hf⟩ := xbind hf
        refine xb_callV (As := [.int l3, .int p6, .int (1 : Int32)]) (v0 := none) (τ0 := p7) dX6_needsAllBrackets_36 (xc_X6_hide _ _) xcl6 xw_1302 xw_1304 xs_47 hb rfl (Nat.le_of_ble_eq_true rfl) rfl (Nat.le_of_ble_eq_true rfl) (fun Q1 hq => m_X6_hide (d := d + 4) ep7 (fun g hg => by subst hg; exact hq)) ?_
        refine xm_aload_n dX6_needsAllBrackets_39 rfl ?_
        refine xm_aload_n dX6_needsAllBrackets_40 rfl ?_
        refine xb_if hf (fun hb hf => ?_) (fun _ q => nomatch q)
        obtain ⟨p8, ep8, hf⟩ := xbind hf
        refine xb_callV (As := [.ref l1]) (v0 := (some (.int p8.1))) (τ0 := p8.2) dX6_needsAllBrackets_41 (xc_X6_stacksGive _ _) xcl6 xw_1306 xw_1307 xw_1308 hb rfl (Nat.le_of_ble_eq_true rfl) rfl (Nat.le_of_ble_eq_true rfl) (fun Q1 hq => m_X6_stacksGive (d := d + 0) ep8 (fun g hg => by subst hg; exact hq)) ?_
        refine xb_if_ne 51 dX6_needsAllBrackets_44 (by decide) hf (fun c hf => ?_) (fun c hf => ?_)
        · refine xm_iconst dX6_needsAllBrackets_51 (v := 0) (by decide) ?_
          exact xm_sub [1, 2, 4, 0] rfl (L_X6_needsAllBrackets_j52 p8.2 l0 l1 l3 p6 (0 : Int32) hf hR hE hC)
        · refine xm_iconst dX6_needsAllBrackets_47 (v := 1) (by decide) ?_
          refine xm_goto 52 dX6_needsAllBrackets_48 (by decide) ?_
          exact xm_sub [1, 2, 4, 0] rfl (L_X6_needsAllBrackets_j52 p8.2 l0 l1 l3 p6 (1 : Int32) hf hR hE hC)
theorem L_X6_needsAllBrackets_l4 {G : xG} {π : Nat → Nat} {d C Z : Nat} {Q : xQ} {s0 : (Nat × Nat × Int32 × Int32 × xM)} {x : ((Int32 × xM) ⊕ (Int32 × xM))} (h1 : xloop (f_X6_needsAllBrackets_s4) xF s0 = some x) (hR : ∀ g, x = Sum.inl g → Q (.inl (some (.int g.1))) (g.2) π) (hE : ∀ e : (Int32 × xM), x = Sum.inr e → xMach G π J_X6_needsAllBrackets (d + 5) C Z 67 [(2, .int e.1)] [] e.2 Q) : xMach G π J_X6_needsAllBrackets (d + 5) C Z 4 [(0, .ref s0.1), (1, .ref s0.2.1), (2, .int s0.2.2.1), (3, .int s0.2.2.2.1)] [] s0.2.2.2.2 Q := by
  refine xloop_run (M := (fun s : (Nat × Nat × Int32 × Int32 × xM) => xMach G π J_X6_needsAllBrackets (d + 5) C Z 4 [(0, .ref s.1), (1, .ref s.2.1), (2, .int s.2.2.1), (3, .int s.2.2.2.1)] [] s.2.2.2.2 Q)) (r := x) ?_ xF _ h1
  intro s y hs hx
  exact L_X6_needsAllBrackets_s4 s.2.2.2.2 s.1 s.2.1 s.2.2.1 s.2.2.2.1 (x := y) hs (fun g hg => by subst hg; exact hR g hx) (fun e he => by subst he; exact hE e hx) (fun e he => by subst he; exact hx)
def f_X6_needsAllBrackets_j67 (σ : xM) (l2 : Int32) : Option (Int32 × xM) :=
  (xz l2).bind (fun b10 => some (b10, σ))
set_option maxHeartbeats 4000000 in
set_option maxRecDepth 20000 in
theorem L_X6_needsAllBrackets_j67 {G : xG} {π : Nat → Nat} {d C Z : Nat} {Q : xQ} (σ : xM) (l2 : Int32) {x : (Int32 × xM)} (hf : f_X6_needsAllBrackets_j67 σ l2 = some x) (hR : ∀ g, x = g → Q (.inl (some (.int g.1))) (g.2) π) : xMach G π J_X6_needsAllBrackets (d + 5) C Z 67 [(2, .int l2)] [] σ Q := by
  unfold f_X6_needsAllBrackets_j67 at hf
  refine xm_iload_n dX6_needsAllBrackets_67 rfl ?_
  obtain ⟨b10, eb10, hf⟩ := xbind hf
  obtain ⟨rfl, hz⟩ := xz_of eb10
  cases hf
  exact xm_zret dX6_needsAllBrackets_68 rfl hz (hR _ rfl)
def f_X6_needsAllBrackets (σ : xM) (l0 : Nat) (l1 : Nat) : Option (Int32 × xM) :=
  xlet (1 : Int32) (fun v1 => xlet (0 : Int32) (fun v2 => (xloop (f_X6_needsAllBrackets_s4 ) xF (l0, l1, v1, v2, σ)).bind (Sum.elim (fun g => some g) (fun e => f_X6_needsAllBrackets_j67 e.2 e.1))))
set_option maxHeartbeats 4000000 in
set_option maxRecDepth 20000 in
theorem m_X6_needsAllBrackets {G : xG} {π : Nat → Nat} {d C Z : Nat} {Q : xQ} {σ : xM} {l0 : Nat} {l1 : Nat} {x : (Int32 × xM)} (hf : f_X6_needsAllBrackets σ l0 l1 = some x) (hR : ∀ g, x = g → Q (.inl (some (.int g.1))) (g.2) π) : xMach G π J_X6_needsAllBrackets (d + 5) C Z 0 (lv_args 0 [.ref l0, .ref l1]) [] σ Q := by
  unfold f_X6_needsAllBrackets at hf
  refine xm_stL (L' := [(0, .ref l0), (1, .ref l1)]) rfl ?_
  refine xm_iconst dX6_needsAllBrackets_0 (v := 1) (by decide) ?_
  refine xb_topi hf (fun v1 ev1 hf => ?_)
  refine xm_istore_n dX6_needsAllBrackets_1 (by decide) (xm_stL (L' := [(2, .int v1), (0, .ref l0), (1, .ref l1)]) rfl ?_)
  refine xm_iconst dX6_needsAllBrackets_2 (v := 0) (by decide) ?_
  refine xb_topi hf (fun v2 ev2 hf => ?_)
  refine xm_istore_n dX6_needsAllBrackets_3 (by decide) (xm_stL (L' := [(3, .int v2), (2, .int v1), (0, .ref l0), (1, .ref l1)]) rfl ?_)
  obtain ⟨o, h1, hf⟩ := xbind hf
  refine xm_sub [2, 3, 1, 0] rfl (L_X6_needsAllBrackets_l4  h1 (fun g hg => ?_) (fun e he => ?_))
  · subst hg
    cases hf
    exact hR _ rfl
  · subst he
    rw [Sum.elim_inr] at hf
    have hf : f_X6_needsAllBrackets_j67 e.2 e.1 = some _ := hf
    exact xm_sub [0] rfl (L_X6_needsAllBrackets_j67 e.2 e.1 hf hR)
