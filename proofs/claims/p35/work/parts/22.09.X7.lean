-- Rankwise$Rewriter.meaningOf(LRankwise$Tree;I)I
def f_X7_meaningOf_j33 (σ : xM) (s0 : Int32) : Option Int32 :=
  some s0
set_option maxHeartbeats 4000000 in
set_option maxRecDepth 20000 in
theorem L_X7_meaningOf_j33 {G : xG} {π : Nat → Nat} {d C Z : Nat} {Q : xQ} (σ : xM) (s0 : Int32) {x : Int32} (hf : f_X7_meaningOf_j33 σ s0 = some x) (hR : ∀ g, x = g → Q (.inl (some (.int g))) (σ) π) : xMach G π J_X7_meaningOf (d + 2) C Z 33 [] [.int s0] σ Q := by
  unfold f_X7_meaningOf_j33 at hf
  cases hf
  exact xm_iret dX7_meaningOf_33 rfl (hR _ rfl)
def f_X7_meaningOf (σ : xM) (l0 : Nat) (l1 : Nat) (l2 : Int32) : Option Int32 :=
  (gR σ l1 9 0).bind (fun x1 => (aI σ x1 14 l2).bind (fun x2 => (if x2 = (3 : Int32) then (gR σ l0 7 0).bind (fun x3 => (gR σ l1 9 1).bind (fun x4 => (aI σ x4 14 l2).bind (fun x5 => (gR σ l1 9 2).bind (fun x6 => (aI σ x6 14 l2).bind (fun x7 => (if xk σ x3 1 = true then (f_X1_meaning σ x3 x5 x7).bind (fun p8 => f_X7_meaningOf_j33 σ p8) else none)))))) else f_X7_meaningOf_j33 σ (-1 : Int32))))
set_option maxHeartbeats 4000000 in
set_option maxRecDepth 20000 in
theorem m_X7_meaningOf {G : xG} {π : Nat → Nat} {d C Z : Nat} {Q : xQ} {σ : xM} {l0 : Nat} {l1 : Nat} {l2 : Int32} {x : Int32} (hf : f_X7_meaningOf σ l0 l1 l2 = some x) (hR : ∀ g, x = g → Q (.inl (some (.int g))) (σ) π) : xMach G π J_X7_meaningOf (d + 2) C Z 0 (lv_args 0 [.ref l0, .ref l1, .int l2]) [] σ Q := by
  unfold f_X7_meaningOf at hf
  refine xm_stL (L' := [(0, .ref l0), (1, .ref l1), (2, .int l2)]) rfl ?_
  refine xm_aload_n dX7_meaningOf_0 rfl ?_
  refine xb_getR (a := l1) (c := 9) (k := 0) dX7_meaningOf_1 xcl9 (by decide) xw_192 rfl hf (fun x1 ex1 hf => ?_)
  refine xm_iload_n dX7_meaningOf_4 rfl ?_
  refine xb_iald dX7_meaningOf_5 hf (fun x2 ex2 hf => ?_)
  refine xm_iconst dX7_meaningOf_6 (v := 3) (by decide) ?_
  refine xb_icmp_ne 32 dX7_meaningOf_7 (by decide) hf (fun c hf => ?_) (fun c hf => ?_)
  · refine xm_iconst dX7_meaningOf_32 (v := -1) (by decide) ?_
    exact xm_sub [] rfl (L_X7_meaningOf_j33 σ (-1 : Int32) hf hR)
  · refine xm_aload_n dX7_meaningOf_10 rfl ?_
    refine xb_getR (a := l0) (c := 7) (k := 0) dX7_meaningOf_11 xcl7 (by decide) xw_520 rfl hf (fun x3 ex3 hf => ?_)
    refine xm_aload_n dX7_meaningOf_14 rfl ?_
    refine xb_getR (a := l1) (c := 9) (k := 1) dX7_meaningOf_15 xcl9 (by decide) xw_198 rfl hf (fun x4 ex4 hf => ?_)
    refine xm_iload_n dX7_meaningOf_18 rfl ?_
    refine xb_iald dX7_meaningOf_19 hf (fun x5 ex5 hf => ?_)
    refine xm_aload_n dX7_meaningOf_20 rfl ?_
    refine xb_getR (a := l1) (c := 9) (k := 2) dX7_meaningOf_21 xcl9 (by decide) xw_204 rfl hf (fun x6 ex6 hf => ?_)
    refine xm_iload_n dX7_meaningOf_24 rfl ?_
    refine xb_iald dX7_meaningOf_25 hf (fun x7 ex7 hf => ?_)
    refine xb_if hf (fun hb hf => ?_) (fun _ q => nomatch q)
    obtain ⟨p8, ep8, hf⟩ := xbind hf
    refine xb_callV (As := [.int x5, .int x7]) (v0 := (some (.int p8))) (τ0 := σ) dX7_meaningOf_26 (xc_X1_meaning _ _) xcl1 xw_1377 xw_891 xw_892 hb rfl (Nat.le_of_ble_eq_true rfl) rfl (Nat.le_of_ble_eq_true rfl) (fun Q1 hq => m_X1_meaning (d := d + 0) ep8 (fun g hg => by subst hg; exact hq)) ?_
    refine xm_goto 33 dX7_meaningOf_29 (by decide) ?_
    exact xm_sub [] rfl (L_X7_meaningOf_j33 σ p8 hf hR)
-- Rankwise$Rewriter.powerOf(JJ)J
def f_X7_powerOf_s6 (σ : xM) (s : (Int64 × Int64 × Int64 × Int64)) : Option (Int64 ⊕ ((Int64) ⊕ (Int64 × Int64 × Int64 × Int64))) :=
  xlet s.1 (fun l0 => xlet s.2.1 (fun l2 => xlet s.2.2.1 (fun l4 => xlet s.2.2.2 (fun l6 => (if (0 : Int32) ≤ (lg_cmp l6 l2) then some (Sum.inr (Sum.inl l4)) else (if (0 : Int32) < (lg_cmp l4 (999999999 : Int64)) then some (Sum.inr (Sum.inl l4)) else xlet (l4 * l0) (fun v3 => xlet (l6 + (1 : Int64)) (fun v4 => some (Sum.inr (Sum.inr (l0, l2, v3, v4)))))))))))
set_option maxHeartbeats 4000000 in
set_option maxRecDepth 20000 in
theorem L_X7_powerOf_s6 {G : xG} {π : Nat → Nat} {d C Z : Nat} {Q : xQ} (σ : xM) (l0 : Int64) (l2 : Int64) (l4 : Int64) (l6 : Int64) {x : (Int64 ⊕ ((Int64) ⊕ (Int64 × Int64 × Int64 × Int64)))} (hf : f_X7_powerOf_s6 σ (l0, l2, l4, l6) = some x) (hR : ∀ g, x = Sum.inl (g) → Q (.inl (some (.long g))) (σ) π) (hE : ∀ e : (Int64), x = Sum.inr (Sum.inl e) → xMach G π J_X7_powerOf (d + 0) C Z 37 [(4, .long e)] [] σ Q) (hC : ∀ e : (Int64 × Int64 × Int64 × Int64), x = Sum.inr (Sum.inr e) → xMach G π J_X7_powerOf (d + 0) C Z 6 [(0, .long e.1), (2, .long e.2.1), (4, .long e.2.2.1), (6, .long e.2.2.2)] [] σ Q) : xMach G π J_X7_powerOf (d + 0) C Z 6 [(0, .long l0), (2, .long l2), (4, .long l4), (6, .long l6)] [] σ Q := by
  have hf : (if (0 : Int32) ≤ (lg_cmp l6 l2) then some (Sum.inr (Sum.inl l4)) else (if (0 : Int32) < (lg_cmp l4 (999999999 : Int64)) then some (Sum.inr (Sum.inl l4)) else xlet (l4 * l0) (fun v3 => xlet (l6 + (1 : Int64)) (fun v4 => some (Sum.inr (Sum.inr (l0, l2, v3, v4))))))) = some x := hf
  refine xm_lload dX7_powerOf_6 rfl ?_
  refine xm_lload_n dX7_powerOf_8 rfl ?_
  refine xm_lcmp dX7_powerOf_9 ?_
  refine xb_if_ge 37 dX7_powerOf_10 (by decide) hf (fun c hf => ?_) (fun c hf => ?_)
  · cases hf
    exact xm_sub [2] rfl (hE _ rfl)
  · refine xm_lload dX7_powerOf_13 rfl ?_
    refine xm_ldc2 dX7_powerOf_15 (xws_in xw_1399) ?_
    refine xm_lcmp dX7_powerOf_18 ?_
    refine xb_if_gt 37 dX7_powerOf_19 (by decide) hf (fun c hf => ?_) (fun c hf => ?_)
    · cases hf
      exact xm_sub [2] rfl (hE _ rfl)
    · refine xm_lload dX7_powerOf_22 rfl ?_
      refine xm_lload_n dX7_powerOf_24 rfl ?_
      refine xm_lmul dX7_powerOf_25 ?_
      refine xb_topl hf (fun v3 ev3 hf => ?_)
      refine xm_lstore dX7_powerOf_26 (by decide) (xm_stL (L' := [(4, .long v3), (0, .long l0), (2, .long l2), (6, .long l6)]) rfl ?_)
      refine xm_lload dX7_powerOf_28 rfl ?_
      refine xm_lconst dX7_powerOf_30 (v := 1) (by decide) ?_
      refine xm_ladd dX7_powerOf_31 ?_
      refine xb_topl hf (fun v4 ev4 hf => ?_)
      refine xm_lstore dX7_powerOf_32 (by decide) (xm_stL (L' := [(6, .long v4), (4, .long v3), (0, .long l0), (2, .long l2)]) rfl ?_)
      refine xm_goto 6 dX7_powerOf_34 (by decide) ?_
      cases hf
      exact xm_sub [2, 3, 1, 0] rfl (hC _ rfl)
theorem L_X7_powerOf_l6 {G : xG} {π : Nat → Nat} {d C Z : Nat} {Q : xQ} (σ : xM) {s0 : (Int64 × Int64 × Int64 × Int64)} {x : (Int64 ⊕ (Int64))} (h1 : xloop (f_X7_powerOf_s6 σ) xF s0 = some x) (hR : ∀ g, x = Sum.inl g → Q (.inl (some (.long g))) (σ) π) (hE : ∀ e : (Int64), x = Sum.inr e → xMach G π J_X7_powerOf (d + 0) C Z 37 [(4, .long e)] [] σ Q) : xMach G π J_X7_powerOf (d + 0) C Z 6 [(0, .long s0.1), (2, .long s0.2.1), (4, .long s0.2.2.1), (6, .long s0.2.2.2)] [] σ Q := by
  refine xloop_run (M := (fun s : (Int64 × Int64 × Int64 × Int64) => xMach G π J_X7_powerOf (d + 0) C Z 6 [(0, .long s.1), (2, .long s.2.1), (4, .long s.2.2.1), (6, .long s.2.2.2)] [] σ Q)) (r := x) ?_ xF _ h1
  intro s y hs hx
  exact L_X7_powerOf_s6 σ s.1 s.2.1 s.2.2.1 s.2.2.2 (x := y) hs (fun g hg => by subst hg; exact hR g hx) (fun e he => by subst he; exact hE e hx) (fun e he => by subst he; exact hx)
def f_X7_powerOf_j37 (σ : xM) (l4 : Int64) : Option Int64 :=
  some l4
set_option maxHeartbeats 4000000 in
set_option maxRecDepth 20000 in
theorem L_X7_powerOf_j37 {G : xG} {π : Nat → Nat} {d C Z : Nat} {Q : xQ} (σ : xM) (l4 : Int64) {x : Int64} (hf : f_X7_powerOf_j37 σ l4 = some x) (hR : ∀ g, x = g → Q (.inl (some (.long g))) (σ) π) : xMach G π J_X7_powerOf (d + 0) C Z 37 [(4, .long l4)] [] σ Q := by
  unfold f_X7_powerOf_j37 at hf
  refine xm_lload dX7_powerOf_37 rfl ?_
  cases hf
  exact xm_lret dX7_powerOf_39 rfl (hR _ rfl)
def f_X7_powerOf (σ : xM) (l0 : Int64) (l2 : Int64) : Option Int64 :=
  xlet (1 : Int64) (fun v1 => xlet (0 : Int64) (fun v2 => (xloop (f_X7_powerOf_s6 σ ) xF (l0, l2, v1, v2)).bind (Sum.elim (fun g => some g) (fun e => f_X7_powerOf_j37 σ e))))
set_option maxHeartbeats 4000000 in
set_option maxRecDepth 20000 in
theorem m_X7_powerOf {G : xG} {π : Nat → Nat} {d C Z : Nat} {Q : xQ} {σ : xM} {l0 : Int64} {l2 : Int64} {x : Int64} (hf : f_X7_powerOf σ l0 l2 = some x) (hR : ∀ g, x = g → Q (.inl (some (.long g))) (σ) π) : xMach G π J_X7_powerOf (d + 0) C Z 0 (lv_args 0 [.long l0, .long l2]) [] σ Q := by
  unfold f_X7_powerOf at hf
  refine xm_stL (L' := [(0, .long l0), (2, .long l2)]) rfl ?_
  refine xm_lconst dX7_powerOf_0 (v := 1) (by decide) ?_
  refine xb_topl hf (fun v1 ev1 hf => ?_)
  refine xm_lstore dX7_powerOf_1 (by decide) (xm_stL (L' := [(4, .long v1), (0, .long l0), (2, .long l2)]) rfl ?_)
  refine xm_lconst dX7_powerOf_3 (v := 0) (by decide) ?_
  refine xb_topl hf (fun v2 ev2 hf => ?_)
  refine xm_lstore dX7_powerOf_4 (by decide) (xm_stL (L' := [(6, .long v2), (4, .long v1), (0, .long l0), (2, .long l2)]) rfl ?_)
  obtain ⟨o, h1, hf⟩ := xbind hf
  refine xm_sub [2, 3, 1, 0] rfl (L_X7_powerOf_l6 σ h1 (fun g hg => ?_) (fun e he => ?_))
  · subst hg
    cases hf
    exact hR _ rfl
  · subst he
    rw [Sum.elim_inr] at hf
    have hf : f_X7_powerOf_j37 σ e = some _ := hf
    exact xm_sub [0] rfl (L_X7_powerOf_j37 σ e hf hR)
-- Rankwise$Rewriter.wholeOf(LRankwise$Tree;III)I
def f_X7_wholeOf_j18 (σ : xM)  : Option Int32 :=
  some (-1 : Int32)
set_option maxHeartbeats 4000000 in
set_option maxRecDepth 20000 in
theorem L_X7_wholeOf_j18 {G : xG} {π : Nat → Nat} {d C Z : Nat} {Q : xQ} (σ : xM)  {x : Int32} (hf : f_X7_wholeOf_j18 σ = some x) (hR : ∀ g, x = g → Q (.inl (some (.int g))) (σ) π) : xMach G π J_X7_wholeOf (d + 1) C Z 18 [] [] σ Q := by
  unfold f_X7_wholeOf_j18 at hf
  refine xm_iconst dX7_wholeOf_18 (v := -1) (by decide) ?_
  cases hf
  exact xm_iret dX7_wholeOf_19 rfl (hR _ rfl)
def f_X7_wholeOf_j194 (σ : xM) (s0 : Int32) : Option Int32 :=
  some s0
set_option maxHeartbeats 4000000 in
set_option maxRecDepth 20000 in
theorem L_X7_wholeOf_j194 {G : xG} {π : Nat → Nat} {d C Z : Nat} {Q : xQ} (σ : xM) (s0 : Int32) {x : Int32} (hf : f_X7_wholeOf_j194 σ s0 = some x) (hR : ∀ g, x = g → Q (.inl (some (.int g))) (σ) π) : xMach G π J_X7_wholeOf (d + 1) C Z 194 [] [.int s0] σ Q := by
  unfold f_X7_wholeOf_j194 at hf
  cases hf
  exact xm_iret dX7_wholeOf_194 rfl (hR _ rfl)
def f_X7_wholeOf_j193 (σ : xM)  : Option Int32 :=
  f_X7_wholeOf_j194 σ (-1 : Int32)
set_option maxHeartbeats 4000000 in
set_option maxRecDepth 20000 in
theorem L_X7_wholeOf_j193 {G : xG} {π : Nat → Nat} {d C Z : Nat} {Q : xQ} (σ : xM)  {x : Int32} (hf : f_X7_wholeOf_j193 σ = some x) (hR : ∀ g, x = g → Q (.inl (some (.int g))) (σ) π) : xMach G π J_X7_wholeOf (d + 1) C Z 193 [] [] σ Q := by
  unfold f_X7_wholeOf_j193 at hf
  refine xm_iconst dX7_wholeOf_193 (v := -1) (by decide) ?_
  exact xm_sub [] rfl (L_X7_wholeOf_j194 σ (-1 : Int32) hf hR)
def f_X7_wholeOf_j171 (σ : xM) (l8 : Int64) : Option Int32 :=
  (if (lg_cmp l8 (0 : Int64)) < (0 : Int32) then f_X7_wholeOf_j193 σ else (if (0 : Int32) < (lg_cmp l8 (999999999 : Int64)) then f_X7_wholeOf_j193 σ else f_X7_wholeOf_j194 σ ((l8).toInt32)))
set_option maxHeartbeats 4000000 in
set_option maxRecDepth 20000 in
theorem L_X7_wholeOf_j171 {G : xG} {π : Nat → Nat} {d C Z : Nat} {Q : xQ} (σ : xM) (l8 : Int64) {x : Int32} (hf : f_X7_wholeOf_j171 σ l8 = some x) (hR : ∀ g, x = g → Q (.inl (some (.int g))) (σ) π) : xMach G π J_X7_wholeOf (d + 1) C Z 171 [(8, .long l8)] [] σ Q := by
  unfold f_X7_wholeOf_j171 at hf
  refine xm_lload dX7_wholeOf_171 rfl ?_
  refine xm_lconst dX7_wholeOf_173 (v := 0) (by decide) ?_
  refine xm_lcmp dX7_wholeOf_174 ?_
  refine xb_if_lt 193 dX7_wholeOf_175 (by decide) hf (fun c hf => ?_) (fun c hf => ?_)
  · exact xm_sub [] rfl (L_X7_wholeOf_j193 σ hf hR)
  · refine xm_lload dX7_wholeOf_178 rfl ?_
    refine xm_ldc2 dX7_wholeOf_180 (xws_in xw_1399) ?_
    refine xm_lcmp dX7_wholeOf_183 ?_
    refine xb_if_gt 193 dX7_wholeOf_184 (by decide) hf (fun c hf => ?_) (fun c hf => ?_)
    · exact xm_sub [] rfl (L_X7_wholeOf_j193 σ hf hR)
    · refine xm_lload dX7_wholeOf_187 rfl ?_
      refine xm_l2i dX7_wholeOf_189 rfl ?_
      refine xm_goto 194 dX7_wholeOf_190 (by decide) ?_
      exact xm_sub [] rfl (L_X7_wholeOf_j194 σ ((l8).toInt32) hf hR)
def f_X7_wholeOf_j166 (σ : xM)  : Option Int32 :=
  xlet (-1 : Int64) (fun v11 => f_X7_wholeOf_j171 σ v11)
set_option maxHeartbeats 4000000 in
set_option maxRecDepth 20000 in
theorem L_X7_wholeOf_j166 {G : xG} {π : Nat → Nat} {d C Z : Nat} {Q : xQ} (σ : xM)  {x : Int32} (hf : f_X7_wholeOf_j166 σ = some x) (hR : ∀ g, x = g → Q (.inl (some (.int g))) (σ) π) : xMach G π J_X7_wholeOf (d + 1) C Z 166 [] [] σ Q := by
  unfold f_X7_wholeOf_j166 at hf
  refine xm_ldc2 dX7_wholeOf_166 (xws_in xw_1394) ?_
  refine xb_topl hf (fun v11 ev11 hf => ?_)
  refine xm_lstore dX7_wholeOf_169 (by decide) (xm_stL (L' := [(8, .long v11)]) rfl ?_)
  exact xm_sub [0] rfl (L_X7_wholeOf_j171 σ v11 hf hR)
def f_X7_wholeOf_j134 (σ : xM) (s0 : Int64) : Option Int32 :=
  f_X7_wholeOf_j171 σ s0
set_option maxHeartbeats 4000000 in
set_option maxRecDepth 20000 in
theorem L_X7_wholeOf_j134 {G : xG} {π : Nat → Nat} {d C Z : Nat} {Q : xQ} (σ : xM) (s0 : Int64) {x : Int32} (hf : f_X7_wholeOf_j134 σ s0 = some x) (hR : ∀ g, x = g → Q (.inl (some (.int g))) (σ) π) : xMach G π J_X7_wholeOf (d + 1) C Z 134 [] [.long s0] σ Q := by
  unfold f_X7_wholeOf_j134 at hf
  refine xm_lstore dX7_wholeOf_134 (by decide) (xm_stL (L' := [(8, .long s0)]) rfl ?_)
  refine xm_goto 171 dX7_wholeOf_136 (by decide) ?_
  exact xm_sub [0] rfl (L_X7_wholeOf_j171 σ s0 hf hR)
def f_X7_wholeOf_j131 (σ : xM)  : Option Int32 :=
  f_X7_wholeOf_j134 σ (-1 : Int64)
set_option maxHeartbeats 4000000 in
set_option maxRecDepth 20000 in
theorem L_X7_wholeOf_j131 {G : xG} {π : Nat → Nat} {d C Z : Nat} {Q : xQ} (σ : xM)  {x : Int32} (hf : f_X7_wholeOf_j131 σ = some x) (hR : ∀ g, x = g → Q (.inl (some (.int g))) (σ) π) : xMach G π J_X7_wholeOf (d + 1) C Z 131 [] [] σ Q := by
  unfold f_X7_wholeOf_j131 at hf
  refine xm_ldc2 dX7_wholeOf_131 (xws_in xw_1394) ?_
  exact xm_sub [] rfl (L_X7_wholeOf_j134 σ (-1 : Int64) hf hR)
def f_X7_wholeOf_j161 (σ : xM) (s0 : Int64) : Option Int32 :=
  f_X7_wholeOf_j171 σ s0
set_option maxHeartbeats 4000000 in
set_option maxRecDepth 20000 in
theorem L_X7_wholeOf_j161 {G : xG} {π : Nat → Nat} {d C Z : Nat} {Q : xQ} (σ : xM) (s0 : Int64) {x : Int32} (hf : f_X7_wholeOf_j161 σ s0 = some x) (hR : ∀ g, x = g → Q (.inl (some (.int g))) (σ) π) : xMach G π J_X7_wholeOf (d + 1) C Z 161 [] [.long s0] σ Q := by
  unfold f_X7_wholeOf_j161 at hf
  refine xm_lstore dX7_wholeOf_161 (by decide) (xm_stL (L' := [(8, .long s0)]) rfl ?_)
  refine xm_goto 171 dX7_wholeOf_163 (by decide) ?_
  exact xm_sub [0] rfl (L_X7_wholeOf_j171 σ s0 hf hR)
def f_X7_wholeOf (σ : xM) (l0 : Nat) (l1 : Int32) (l2 : Int32) (l3 : Int32) : Option Int32 :=
  (gR σ l0 9 0).bind (fun x1 => (aI σ x1 14 l2).bind (fun x2 => (if x2 = (0 : Int32) then (gR σ l0 9 0).bind (fun x3 => (aI σ x3 14 l3).bind (fun x4 => (if x4 = (0 : Int32) then (gR σ l0 9 1).bind (fun x5 => (aI σ x5 14 l2).bind (fun x6 => xlet ((x6).toInt64) (fun v7 => (gR σ l0 9 1).bind (fun x8 => (aI σ x8 14 l3).bind (fun x9 => xlet ((x9).toInt64) (fun v10 => (if l1 = (0 : Int32) then xlet (v7 + v10) (fun v12 => f_X7_wholeOf_j171 σ v12) else (if l1 = (1 : Int32) then xlet (v7 - v10) (fun v13 => f_X7_wholeOf_j171 σ v13) else (if l1 = (2 : Int32) then xlet (v7 * v10) (fun v14 => f_X7_wholeOf_j171 σ v14) else (if l1 = (3 : Int32) then (if (lg_cmp v10 (0 : Int64)) ≤ (0 : Int32) then f_X7_wholeOf_j131 σ else (if v10 = 0 then none else (if (lg_cmp (v7 - v7 / v10 * v10) (0 : Int64)) = (0 : Int32) then (if v10 = 0 then none else f_X7_wholeOf_j134 σ (v7 / v10)) else f_X7_wholeOf_j131 σ))) else (if l1 = (4 : Int32) then f_X7_wholeOf_j166 σ else (if l1 = (5 : Int32) then (if (0 : Int32) < (lg_cmp v10 (64 : Int64)) then f_X7_wholeOf_j161 σ (-1 : Int64) else (f_X7_powerOf σ v7 v10).bind (fun p15 => f_X7_wholeOf_j161 σ p15)) else f_X7_wholeOf_j166 σ)))))))))))) else f_X7_wholeOf_j18 σ))) else f_X7_wholeOf_j18 σ)))
set_option maxHeartbeats 4000000 in
set_option maxRecDepth 20000 in
theorem m_X7_wholeOf {G : xG} {π : Nat → Nat} {d C Z : Nat} {Q : xQ} {σ : xM} {l0 : Nat} {l1 : Int32} {l2 : Int32} {l3 : Int32} {x : Int32} (hf : f_X7_wholeOf σ l0 l1 l2 l3 = some x) (hR : ∀ g, x = g → Q (.inl (some (.int g))) (σ) π) : xMach G π J_X7_wholeOf (d + 1) C Z 0 (lv_args 0 [.ref l0, .int l1, .int l2, .int l3]) [] σ Q := by
  unfold f_X7_wholeOf at hf
  refine xm_stL (L' := [(0, .ref l0), (1, .int l1), (2, .int l2), (3, .int l3)]) rfl ?_
  refine xm_aload_n dX7_wholeOf_0 rfl ?_
  refine xb_getR (a := l0) (c := 9) (k := 0) dX7_wholeOf_1 xcl9 (by decide) xw_192 rfl hf (fun x1 ex1 hf => ?_)
  refine xm_iload_n dX7_wholeOf_4 rfl ?_
  refine xb_iald dX7_wholeOf_5 hf (fun x2 ex2 hf => ?_)
  refine xb_if_ne 18 dX7_wholeOf_6 (by decide) hf (fun c hf => ?_) (fun c hf => ?_)
  · exact xm_sub [] rfl (L_X7_wholeOf_j18 σ hf hR)
  · refine xm_aload_n dX7_wholeOf_9 rfl ?_
    refine xb_getR (a := l0) (c := 9) (k := 0) dX7_wholeOf_10 xcl9 (by decide) xw_192 rfl hf (fun x3 ex3 hf => ?_)
    refine xm_iload_n dX7_wholeOf_13 rfl ?_
    refine xb_iald dX7_wholeOf_14 hf (fun x4 ex4 hf => ?_)
    refine xb_if_eq 20 dX7_wholeOf_15 (by decide) hf (fun c hf => ?_) (fun c hf => ?_)
    · refine xm_aload_n dX7_wholeOf_20 rfl ?_
      refine xb_getR (a := l0) (c := 9) (k := 1) dX7_wholeOf_21 xcl9 (by decide) xw_198 rfl hf (fun x5 ex5 hf => ?_)
      refine xm_iload_n dX7_wholeOf_24 rfl ?_
      refine xb_iald dX7_wholeOf_25 hf (fun x6 ex6 hf => ?_)
      refine xm_i2l dX7_wholeOf_26 rfl ?_
      refine xb_topl hf (fun v7 ev7 hf => ?_)
      refine xm_lstore dX7_wholeOf_27 (by decide) (xm_stL (L' := [(4, .long v7), (0, .ref l0), (1, .int l1), (2, .int l2), (3, .int l3)]) rfl ?_)
      refine xm_aload_n dX7_wholeOf_29 rfl ?_
      refine xb_getR (a := l0) (c := 9) (k := 1) dX7_wholeOf_30 xcl9 (by decide) xw_198 rfl hf (fun x8 ex8 hf => ?_)
      refine xm_iload_n dX7_wholeOf_33 rfl ?_
      refine xb_iald dX7_wholeOf_34 hf (fun x9 ex9 hf => ?_)
      refine xm_i2l dX7_wholeOf_35 rfl ?_
      refine xb_topl hf (fun v10 ev10 hf => ?_)
      refine xm_lstore dX7_wholeOf_36 (by decide) (xm_stL (L' := [(6, .long v10), (4, .long v7), (0, .ref l0), (1, .int l1), (2, .int l2), (3, .int l3)]) rfl ?_)
      refine xm_iload_n dX7_wholeOf_38 rfl ?_
      refine xb_if hf (fun c hf => ?_) (fun n0 hf => ?_)
      · refine xm_tableIn 76 dX7_wholeOf_39 (by rw [c]; decide) (by rw [c]; decide) (by rw [c]; rfl) (by decide) ?_
        refine xm_lload dX7_wholeOf_76 rfl ?_
        refine xm_lload dX7_wholeOf_78 rfl ?_
        refine xm_ladd dX7_wholeOf_80 ?_
        refine xb_topl hf (fun v12 ev12 hf => ?_)
        refine xm_lstore dX7_wholeOf_81 (by decide) (xm_stL (L' := [(8, .long v12), (6, .long v10), (4, .long v7), (0, .ref l0), (1, .int l1), (2, .int l2), (3, .int l3)]) rfl ?_)
        refine xm_goto 171 dX7_wholeOf_83 (by decide) ?_
        exact xm_sub [0] rfl (L_X7_wholeOf_j171 σ v12 hf hR)
      refine xb_if hf (fun c hf => ?_) (fun n1 hf => ?_)
      · refine xm_tableIn 86 dX7_wholeOf_39 (by rw [c]; decide) (by rw [c]; decide) (by rw [c]; rfl) (by decide) ?_
        refine xm_lload dX7_wholeOf_86 rfl ?_
        refine xm_lload dX7_wholeOf_88 rfl ?_
        refine xm_lsub dX7_wholeOf_90 ?_
        refine xb_topl hf (fun v13 ev13 hf => ?_)
        refine xm_lstore dX7_wholeOf_91 (by decide) (xm_stL (L' := [(8, .long v13), (6, .long v10), (4, .long v7), (0, .ref l0), (1, .int l1), (2, .int l2), (3, .int l3)]) rfl ?_)
        refine xm_goto 171 dX7_wholeOf_93 (by decide) ?_
        exact xm_sub [0] rfl (L_X7_wholeOf_j171 σ v13 hf hR)
      refine xb_if hf (fun c hf => ?_) (fun n2 hf => ?_)
      · refine xm_tableIn 96 dX7_wholeOf_39 (by rw [c]; decide) (by rw [c]; decide) (by rw [c]; rfl) (by decide) ?_
        refine xm_lload dX7_wholeOf_96 rfl ?_
        refine xm_lload dX7_wholeOf_98 rfl ?_
        refine xm_lmul dX7_wholeOf_100 ?_
        refine xb_topl hf (fun v14 ev14 hf => ?_)
        refine xm_lstore dX7_wholeOf_101 (by decide) (xm_stL (L' := [(8, .long v14), (6, .long v10), (4, .long v7), (0, .ref l0), (1, .int l1), (2, .int l2), (3, .int l3)]) rfl ?_)
        refine xm_goto 171 dX7_wholeOf_103 (by decide) ?_
        exact xm_sub [0] rfl (L_X7_wholeOf_j171 σ v14 hf hR)
      refine xb_if hf (fun c hf => ?_) (fun n3 hf => ?_)
      · refine xm_tableIn 106 dX7_wholeOf_39 (by rw [c]; decide) (by rw [c]; decide) (by rw [c]; rfl) (by decide) ?_
        refine xm_lload dX7_wholeOf_106 rfl ?_
        refine xm_lconst dX7_wholeOf_108 (v := 0) (by decide) ?_
        refine xm_lcmp dX7_wholeOf_109 ?_
        refine xb_if_le 131 dX7_wholeOf_110 (by decide) hf (fun c hf => ?_) (fun c hf => ?_)
        · exact xm_sub [] rfl (L_X7_wholeOf_j131 σ hf hR)
        · refine xm_lload dX7_wholeOf_113 rfl ?_
          refine xm_lload dX7_wholeOf_115 rfl ?_
          refine xb_lrem dX7_wholeOf_117 hf (fun c hf => ?_)
          refine xm_lconst dX7_wholeOf_118 (v := 0) (by decide) ?_
          refine xm_lcmp dX7_wholeOf_119 ?_
          refine xb_if_ne 131 dX7_wholeOf_120 (by decide) hf (fun c hf => ?_) (fun c hf => ?_)
          · exact xm_sub [] rfl (L_X7_wholeOf_j131 σ hf hR)
          · refine xm_lload dX7_wholeOf_123 rfl ?_
            refine xm_lload dX7_wholeOf_125 rfl ?_
            refine xb_ldiv dX7_wholeOf_127 hf (fun c hf => ?_)
            refine xm_goto 134 dX7_wholeOf_128 (by decide) ?_
            exact xm_sub [] rfl (L_X7_wholeOf_j134 σ (v7 / v10) hf hR)
      refine xb_if hf (fun c hf => ?_) (fun n4 hf => ?_)
      · refine xm_tableIn 166 dX7_wholeOf_39 (by rw [c]; decide) (by rw [c]; decide) (by rw [c]; rfl) (by decide) ?_
        exact xm_sub [] rfl (L_X7_wholeOf_j166 σ hf hR)
      refine xb_if hf (fun c hf => ?_) (fun n5 hf => ?_)
      · refine xm_tableIn 139 dX7_wholeOf_39 (by rw [c]; decide) (by rw [c]; decide) (by rw [c]; rfl) (by decide) ?_
        refine xm_lload dX7_wholeOf_139 rfl ?_
        refine xm_ldc2 dX7_wholeOf_141 (xws_in xw_1395) ?_
        refine xm_lcmp dX7_wholeOf_144 ?_
        refine xb_if_gt 158 dX7_wholeOf_145 (by decide) hf (fun c hf => ?_) (fun c hf => ?_)
        · refine xm_ldc2 dX7_wholeOf_158 (xws_in xw_1394) ?_
          exact xm_sub [] rfl (L_X7_wholeOf_j161 σ (-1 : Int64) hf hR)
        · refine xm_lload dX7_wholeOf_148 rfl ?_
          refine xm_lload dX7_wholeOf_150 rfl ?_
          obtain ⟨p15, ep15, hf⟩ := xbind hf
          refine xb_callS (As := [.long v7, .long v10]) (v0 := (some (.long p15))) (τ0 := σ) dX7_wholeOf_152 (xc_X7_powerOf _ _) xw_1396 xw_1397 rfl (Nat.le_of_ble_eq_true rfl) rfl (Nat.le_of_ble_eq_true rfl) (fun Q1 hq => m_X7_powerOf (d := d + 0) ep15 (fun g hg => by subst hg; exact hq)) ?_
          refine xm_goto 161 dX7_wholeOf_155 (by decide) ?_
          exact xm_sub [] rfl (L_X7_wholeOf_j161 σ p15 hf hR)
      refine xm_tableOut 166 dX7_wholeOf_39 (by have q0 := lv_neT (a := 0) n0 (by decide); have q1 := lv_neT (a := 1) n1 (by decide); have q2 := lv_neT (a := 2) n2 (by decide); have q3 := lv_neT (a := 3) n3 (by decide); have q4 := lv_neT (a := 4) n4 (by decide); have q5 := lv_neT (a := 5) n5 (by decide); omega) (by decide) ?_
      exact xm_sub [] rfl (L_X7_wholeOf_j166 σ hf hR)
    · exact xm_sub [] rfl (L_X7_wholeOf_j18 σ hf hR)
-- Rankwise$Rewriter.applyNeutral(LRankwise$Tree;II)I
def f_X7_applyNeutral_j126 (σ : xM) (s0 : Int32) : Option (Int32 × xM) :=
  some (s0, σ)
set_option maxHeartbeats 4000000 in
set_option maxRecDepth 20000 in
theorem L_X7_applyNeutral_j126 {G : xG} {π : Nat → Nat} {d C Z : Nat} {Q : xQ} (σ : xM) (s0 : Int32) {x : (Int32 × xM)} (hf : f_X7_applyNeutral_j126 σ s0 = some x) (hR : ∀ g, x = g → Q (.inl (some (.int g.1))) (g.2) π) : xMach G π J_X7_applyNeutral (d + 2) C Z 126 [] [.int s0] σ Q := by
  unfold f_X7_applyNeutral_j126 at hf
  cases hf
  exact xm_iret dX7_applyNeutral_126 rfl (hR _ rfl)
def f_X7_applyNeutral_j116 (σ : xM) (l5 : Int32) : Option (Int32 × xM) :=
  (if l5 = (0 : Int32) then f_X7_applyNeutral_j126 σ (3 : Int32) else f_X7_applyNeutral_j126 σ (2 : Int32))
set_option maxHeartbeats 4000000 in
set_option maxRecDepth 20000 in
theorem L_X7_applyNeutral_j116 {G : xG} {π : Nat → Nat} {d C Z : Nat} {Q : xQ} (σ : xM) (l5 : Int32) {x : (Int32 × xM)} (hf : f_X7_applyNeutral_j116 σ l5 = some x) (hR : ∀ g, x = g → Q (.inl (some (.int g.1))) (g.2) π) : xMach G π J_X7_applyNeutral (d + 2) C Z 116 [(5, .int l5)] [] σ Q := by
  unfold f_X7_applyNeutral_j116 at hf
  refine xm_iload dX7_applyNeutral_116 rfl ?_
  refine xb_if_eq 125 dX7_applyNeutral_118 (by decide) hf (fun c hf => ?_) (fun c hf => ?_)
  · refine xm_iconst dX7_applyNeutral_125 (v := 3) (by decide) ?_
    exact xm_sub [] rfl (L_X7_applyNeutral_j126 σ (3 : Int32) hf hR)
  · refine xm_iconst dX7_applyNeutral_121 (v := 2) (by decide) ?_
    refine xm_goto 126 dX7_applyNeutral_122 (by decide) ?_
    exact xm_sub [] rfl (L_X7_applyNeutral_j126 σ (2 : Int32) hf hR)
def f_X7_applyNeutral_j94 (σ : xM) (l0 : Nat) (l1 : Int32) (l3 : Int32) (l4 : Int32) (l5 : Int32) (l6 : Int32) : Option (Int32 × xM) :=
  (if xk σ l0 9 = true then (f_X9_isNumber σ l0 l4 l6).bind (fun p4 => (if p4 = (0 : Int32) then some ((0 : Int32), σ) else (if xk σ l0 9 = true then (f_X9_keepOnly σ l0 l1 l3).bind (fun p5 => f_X7_applyNeutral_j116 p5 l5) else none))) else none)
set_option maxHeartbeats 4000000 in
set_option maxRecDepth 20000 in
theorem L_X7_applyNeutral_j94 {G : xG} {π : Nat → Nat} {d C Z : Nat} {Q : xQ} (σ : xM) (l0 : Nat) (l1 : Int32) (l3 : Int32) (l4 : Int32) (l5 : Int32) (l6 : Int32) {x : (Int32 × xM)} (hf : f_X7_applyNeutral_j94 σ l0 l1 l3 l4 l5 l6 = some x) (hR : ∀ g, x = g → Q (.inl (some (.int g.1))) (g.2) π) : xMach G π J_X7_applyNeutral (d + 2) C Z 94 [(0, .ref l0), (1, .int l1), (3, .int l3), (4, .int l4), (5, .int l5), (6, .int l6)] [] σ Q := by
  unfold f_X7_applyNeutral_j94 at hf
  refine xm_aload_n dX7_applyNeutral_94 rfl ?_
  refine xm_iload dX7_applyNeutral_95 rfl ?_
  refine xm_iload dX7_applyNeutral_97 rfl ?_
  refine xb_if hf (fun hb hf => ?_) (fun _ q => nomatch q)
  obtain ⟨p4, ep4, hf⟩ := xbind hf
  refine xb_callV (As := [.int l4, .int l6]) (v0 := (some (.int p4))) (τ0 := σ) dX7_applyNeutral_99 (xc_X9_isNumber _ _) xcl9 xw_1407 xw_1408 xw_1409 hb rfl (Nat.le_of_ble_eq_true rfl) rfl (Nat.le_of_ble_eq_true rfl) (fun Q1 hq => m_X9_isNumber (d := d + 1) ep4 (fun g hg => by subst hg; exact hq)) ?_
  refine xb_if_eq 114 dX7_applyNeutral_102 (by decide) hf (fun c hf => ?_) (fun c hf => ?_)
  · refine xm_iconst dX7_applyNeutral_114 (v := 0) (by decide) ?_
    cases hf
    exact xm_iret dX7_applyNeutral_115 rfl (hR _ rfl)
  · refine xm_aload_n dX7_applyNeutral_105 rfl ?_
    refine xm_iload_n dX7_applyNeutral_106 rfl ?_
    refine xm_iload_n dX7_applyNeutral_107 rfl ?_
    refine xb_if hf (fun hb hf => ?_) (fun _ q => nomatch q)
    obtain ⟨p5, ep5, hf⟩ := xbind hf
    refine xb_callV (As := [.int l1, .int l3]) (v0 := none) (τ0 := p5) dX7_applyNeutral_108 (xc_X9_keepOnly _ _) xcl9 xw_1379 xw_1380 xw_1381 hb rfl (Nat.le_of_ble_eq_true rfl) rfl (Nat.le_of_ble_eq_true rfl) (fun Q1 hq => m_X9_keepOnly (d := d + 0) ep5 (fun g hg => by subst hg; exact hq)) ?_
    refine xm_goto 116 dX7_applyNeutral_111 (by decide) ?_
    exact xm_sub [4] rfl (L_X7_applyNeutral_j116 p5 l5 hf hR)
def f_X7_applyNeutral_j74 (σ : xM) (l0 : Nat) (l1 : Int32) (l3 : Int32) (l4 : Int32) (l5 : Int32) (l6 : Int32) : Option (Int32 × xM) :=
  (if xk σ l0 9 = true then (f_X9_isNumber σ l0 l3 l6).bind (fun p3 => (if p3 = (0 : Int32) then f_X7_applyNeutral_j94 σ l0 l1 l3 l4 l5 l6 else (if xk σ l0 9 = true then (f_X9_keepOnly σ l0 l1 l4).bind (fun p6 => f_X7_applyNeutral_j116 p6 l5) else none))) else none)
set_option maxHeartbeats 4000000 in
set_option maxRecDepth 20000 in
theorem L_X7_applyNeutral_j74 {G : xG} {π : Nat → Nat} {d C Z : Nat} {Q : xQ} (σ : xM) (l0 : Nat) (l1 : Int32) (l3 : Int32) (l4 : Int32) (l5 : Int32) (l6 : Int32) {x : (Int32 × xM)} (hf : f_X7_applyNeutral_j74 σ l0 l1 l3 l4 l5 l6 = some x) (hR : ∀ g, x = g → Q (.inl (some (.int g.1))) (g.2) π) : xMach G π J_X7_applyNeutral (d + 2) C Z 74 [(0, .ref l0), (1, .int l1), (3, .int l3), (4, .int l4), (5, .int l5), (6, .int l6)] [] σ Q := by
  unfold f_X7_applyNeutral_j74 at hf
  refine xm_aload_n dX7_applyNeutral_74 rfl ?_
  refine xm_iload_n dX7_applyNeutral_75 rfl ?_
  refine xm_iload dX7_applyNeutral_76 rfl ?_
  refine xb_if hf (fun hb hf => ?_) (fun _ q => nomatch q)
  obtain ⟨p3, ep3, hf⟩ := xbind hf
  refine xb_callV (As := [.int l3, .int l6]) (v0 := (some (.int p3))) (τ0 := σ) dX7_applyNeutral_78 (xc_X9_isNumber _ _) xcl9 xw_1407 xw_1408 xw_1409 hb rfl (Nat.le_of_ble_eq_true rfl) rfl (Nat.le_of_ble_eq_true rfl) (fun Q1 hq => m_X9_isNumber (d := d + 1) ep3 (fun g hg => by subst hg; exact hq)) ?_
  refine xb_if_eq 94 dX7_applyNeutral_81 (by decide) hf (fun c hf => ?_) (fun c hf => ?_)
  · exact xm_sub [0, 1, 2, 3, 4, 5] rfl (L_X7_applyNeutral_j94 σ l0 l1 l3 l4 l5 l6 hf hR)
  · refine xm_aload_n dX7_applyNeutral_84 rfl ?_
    refine xm_iload_n dX7_applyNeutral_85 rfl ?_
    refine xm_iload dX7_applyNeutral_86 rfl ?_
    refine xb_if hf (fun hb hf => ?_) (fun _ q => nomatch q)
    obtain ⟨p6, ep6, hf⟩ := xbind hf
    refine xb_callV (As := [.int l1, .int l4]) (v0 := none) (τ0 := p6) dX7_applyNeutral_88 (xc_X9_keepOnly _ _) xcl9 xw_1379 xw_1380 xw_1381 hb rfl (Nat.le_of_ble_eq_true rfl) rfl (Nat.le_of_ble_eq_true rfl) (fun Q1 hq => m_X9_keepOnly (d := d + 0) ep6 (fun g hg => by subst hg; exact hq)) ?_
    refine xm_goto 116 dX7_applyNeutral_91 (by decide) ?_
    exact xm_sub [4] rfl (L_X7_applyNeutral_j116 p6 l5 hf hR)
def f_X7_applyNeutral_j63 (σ : xM) (l0 : Nat) (l1 : Int32) (l2 : Int32) (l3 : Int32) (l4 : Int32) (l5 : Int32) (s0 : Int32) : Option (Int32 × xM) :=
  (if l2 = (0 : Int32) then f_X7_applyNeutral_j74 σ l0 l1 l3 l4 l5 s0 else (if l2 = (2 : Int32) then f_X7_applyNeutral_j74 σ l0 l1 l3 l4 l5 s0 else f_X7_applyNeutral_j94 σ l0 l1 l3 l4 l5 s0))
set_option maxHeartbeats 4000000 in
set_option maxRecDepth 20000 in
theorem L_X7_applyNeutral_j63 {G : xG} {π : Nat → Nat} {d C Z : Nat} {Q : xQ} (σ : xM) (l0 : Nat) (l1 : Int32) (l2 : Int32) (l3 : Int32) (l4 : Int32) (l5 : Int32) (s0 : Int32) {x : (Int32 × xM)} (hf : f_X7_applyNeutral_j63 σ l0 l1 l2 l3 l4 l5 s0 = some x) (hR : ∀ g, x = g → Q (.inl (some (.int g.1))) (g.2) π) : xMach G π J_X7_applyNeutral (d + 2) C Z 63 [(0, .ref l0), (1, .int l1), (2, .int l2), (3, .int l3), (4, .int l4), (5, .int l5)] [.int s0] σ Q := by
  unfold f_X7_applyNeutral_j63 at hf
  refine xm_istore dX7_applyNeutral_63 (by decide) (xm_stL (L' := [(6, .int s0), (0, .ref l0), (1, .int l1), (2, .int l2), (3, .int l3), (4, .int l4), (5, .int l5)]) rfl ?_)
  refine xm_iload_n dX7_applyNeutral_65 rfl ?_
  refine xb_if_eq 74 dX7_applyNeutral_66 (by decide) hf (fun c hf => ?_) (fun c hf => ?_)
  · exact xm_sub [1, 2, 4, 5, 6, 0] rfl (L_X7_applyNeutral_j74 σ l0 l1 l3 l4 l5 s0 hf hR)
  · refine xm_iload_n dX7_applyNeutral_69 rfl ?_
    refine xm_iconst dX7_applyNeutral_70 (v := 2) (by decide) ?_
    refine xb_icmp_ne 94 dX7_applyNeutral_71 (by decide) hf (fun c hf => ?_) (fun c hf => ?_)
    · exact xm_sub [1, 2, 4, 5, 6, 0] rfl (L_X7_applyNeutral_j94 σ l0 l1 l3 l4 l5 s0 hf hR)
    · exact xm_sub [1, 2, 4, 5, 6, 0] rfl (L_X7_applyNeutral_j74 σ l0 l1 l3 l4 l5 s0 hf hR)
def f_X7_applyNeutral_j53 (σ : xM) (l0 : Nat) (l1 : Int32) (l2 : Int32) (l3 : Int32) (l4 : Int32) (l5 : Int32) : Option (Int32 × xM) :=
  (if l5 = (0 : Int32) then f_X7_applyNeutral_j63 σ l0 l1 l2 l3 l4 l5 (1 : Int32) else f_X7_applyNeutral_j63 σ l0 l1 l2 l3 l4 l5 (0 : Int32))
set_option maxHeartbeats 4000000 in
set_option maxRecDepth 20000 in
theorem L_X7_applyNeutral_j53 {G : xG} {π : Nat → Nat} {d C Z : Nat} {Q : xQ} (σ : xM) (l0 : Nat) (l1 : Int32) (l2 : Int32) (l3 : Int32) (l4 : Int32) (l5 : Int32) {x : (Int32 × xM)} (hf : f_X7_applyNeutral_j53 σ l0 l1 l2 l3 l4 l5 = some x) (hR : ∀ g, x = g → Q (.inl (some (.int g.1))) (g.2) π) : xMach G π J_X7_applyNeutral (d + 2) C Z 53 [(0, .ref l0), (1, .int l1), (2, .int l2), (3, .int l3), (4, .int l4), (5, .int l5)] [] σ Q := by
  unfold f_X7_applyNeutral_j53 at hf
  refine xm_iload dX7_applyNeutral_53 rfl ?_
  refine xb_if_eq 62 dX7_applyNeutral_55 (by decide) hf (fun c hf => ?_) (fun c hf => ?_)
  · refine xm_iconst dX7_applyNeutral_62 (v := 1) (by decide) ?_
    exact xm_sub [0, 1, 2, 3, 4, 5] rfl (L_X7_applyNeutral_j63 σ l0 l1 l2 l3 l4 l5 (1 : Int32) hf hR)
  · refine xm_iconst dX7_applyNeutral_58 (v := 0) (by decide) ?_
    refine xm_goto 63 dX7_applyNeutral_59 (by decide) ?_
    exact xm_sub [0, 1, 2, 3, 4, 5] rfl (L_X7_applyNeutral_j63 σ l0 l1 l2 l3 l4 l5 (0 : Int32) hf hR)
def f_X7_applyNeutral_j29 (σ : xM) (l0 : Nat) (l1 : Int32) (l2 : Int32) (l3 : Int32) (l4 : Int32) (s0 : Int32) : Option (Int32 × xM) :=
  (if s0 = (0 : Int32) then (if l2 = (2 : Int32) then f_X7_applyNeutral_j53 σ l0 l1 l2 l3 l4 s0 else (if l2 = (3 : Int32) then f_X7_applyNeutral_j53 σ l0 l1 l2 l3 l4 s0 else (if l2 = (5 : Int32) then f_X7_applyNeutral_j53 σ l0 l1 l2 l3 l4 s0 else some ((0 : Int32), σ)))) else f_X7_applyNeutral_j53 σ l0 l1 l2 l3 l4 s0)
set_option maxHeartbeats 4000000 in
set_option maxRecDepth 20000 in
theorem L_X7_applyNeutral_j29 {G : xG} {π : Nat → Nat} {d C Z : Nat} {Q : xQ} (σ : xM) (l0 : Nat) (l1 : Int32) (l2 : Int32) (l3 : Int32) (l4 : Int32) (s0 : Int32) {x : (Int32 × xM)} (hf : f_X7_applyNeutral_j29 σ l0 l1 l2 l3 l4 s0 = some x) (hR : ∀ g, x = g → Q (.inl (some (.int g.1))) (g.2) π) : xMach G π J_X7_applyNeutral (d + 2) C Z 29 [(0, .ref l0), (1, .int l1), (2, .int l2), (3, .int l3), (4, .int l4)] [.int s0] σ Q := by
  unfold f_X7_applyNeutral_j29 at hf
  refine xm_istore dX7_applyNeutral_29 (by decide) (xm_stL (L' := [(5, .int s0), (0, .ref l0), (1, .int l1), (2, .int l2), (3, .int l3), (4, .int l4)]) rfl ?_)
  refine xm_iload dX7_applyNeutral_31 rfl ?_
  refine xb_if_ne 53 dX7_applyNeutral_33 (by decide) hf (fun c hf => ?_) (fun c hf => ?_)
  · exact xm_sub [1, 2, 3, 4, 5, 0] rfl (L_X7_applyNeutral_j53 σ l0 l1 l2 l3 l4 s0 hf hR)
  · refine xm_iload_n dX7_applyNeutral_36 rfl ?_
    refine xm_iconst dX7_applyNeutral_37 (v := 2) (by decide) ?_
    refine xb_icmp_eq 53 dX7_applyNeutral_38 (by decide) hf (fun c hf => ?_) (fun c hf => ?_)
    · exact xm_sub [1, 2, 3, 4, 5, 0] rfl (L_X7_applyNeutral_j53 σ l0 l1 l2 l3 l4 s0 hf hR)
    · refine xm_iload_n dX7_applyNeutral_41 rfl ?_
      refine xm_iconst dX7_applyNeutral_42 (v := 3) (by decide) ?_
      refine xb_icmp_eq 53 dX7_applyNeutral_43 (by decide) hf (fun c hf => ?_) (fun c hf => ?_)
      · exact xm_sub [1, 2, 3, 4, 5, 0] rfl (L_X7_applyNeutral_j53 σ l0 l1 l2 l3 l4 s0 hf hR)
      · refine xm_iload_n dX7_applyNeutral_46 rfl ?_
        refine xm_iconst dX7_applyNeutral_47 (v := 5) (by decide) ?_
        refine xb_icmp_eq 53 dX7_applyNeutral_48 (by decide) hf (fun c hf => ?_) (fun c hf => ?_)
        · exact xm_sub [1, 2, 3, 4, 5, 0] rfl (L_X7_applyNeutral_j53 σ l0 l1 l2 l3 l4 s0 hf hR)
        · refine xm_iconst dX7_applyNeutral_51 (v := 0) (by decide) ?_
          cases hf
          exact xm_iret dX7_applyNeutral_52 rfl (hR _ rfl)
def f_X7_applyNeutral_j24 (σ : xM) (l0 : Nat) (l1 : Int32) (l2 : Int32) (l3 : Int32) (l4 : Int32) : Option (Int32 × xM) :=
  f_X7_applyNeutral_j29 σ l0 l1 l2 l3 l4 (1 : Int32)
set_option maxHeartbeats 4000000 in
set_option maxRecDepth 20000 in
theorem L_X7_applyNeutral_j24 {G : xG} {π : Nat → Nat} {d C Z : Nat} {Q : xQ} (σ : xM) (l0 : Nat) (l1 : Int32) (l2 : Int32) (l3 : Int32) (l4 : Int32) {x : (Int32 × xM)} (hf : f_X7_applyNeutral_j24 σ l0 l1 l2 l3 l4 = some x) (hR : ∀ g, x = g → Q (.inl (some (.int g.1))) (g.2) π) : xMach G π J_X7_applyNeutral (d + 2) C Z 24 [(0, .ref l0), (1, .int l1), (2, .int l2), (3, .int l3), (4, .int l4)] [] σ Q := by
  unfold f_X7_applyNeutral_j24 at hf
  refine xm_iconst dX7_applyNeutral_24 (v := 1) (by decide) ?_
  refine xm_goto 29 dX7_applyNeutral_25 (by decide) ?_
  exact xm_sub [0, 1, 2, 3, 4] rfl (L_X7_applyNeutral_j29 σ l0 l1 l2 l3 l4 (1 : Int32) hf hR)
def f_X7_applyNeutral (σ : xM) (l0 : Nat) (l1 : Int32) (l2 : Int32) : Option (Int32 × xM) :=
  (if xk σ l0 9 = true then (f_X9_child σ l0 l1 (0 : Int32)).bind (fun p1 => (if xk σ l0 9 = true then (f_X9_child σ l0 l1 (1 : Int32)).bind (fun p2 => (if l2 = (0 : Int32) then f_X7_applyNeutral_j24 σ l0 l1 l2 p1 p2 else (if l2 = (1 : Int32) then f_X7_applyNeutral_j24 σ l0 l1 l2 p1 p2 else f_X7_applyNeutral_j29 σ l0 l1 l2 p1 p2 (0 : Int32)))) else none)) else none)
set_option maxHeartbeats 4000000 in
set_option maxRecDepth 20000 in
theorem m_X7_applyNeutral {G : xG} {π : Nat → Nat} {d C Z : Nat} {Q : xQ} {σ : xM} {l0 : Nat} {l1 : Int32} {l2 : Int32} {x : (Int32 × xM)} (hf : f_X7_applyNeutral σ l0 l1 l2 = some x) (hR : ∀ g, x = g → Q (.inl (some (.int g.1))) (g.2) π) : xMach G π J_X7_applyNeutral (d + 2) C Z 0 (lv_args 0 [.ref l0, .int l1, .int l2]) [] σ Q := by
  unfold f_X7_applyNeutral at hf
  refine xm_stL (L' := [(0, .ref l0), (1, .int l1), (2, .int l2)]) rfl ?_
  refine xm_aload_n dX7_applyNeutral_0 rfl ?_
  refine xm_iload_n dX7_applyNeutral_1 rfl ?_
  refine xm_iconst dX7_applyNeutral_2 (v := 0) (by decide) ?_
  refine xb_if hf (fun hb hf => ?_) (fun _ q => nomatch q)
  obtain ⟨p1, ep1, hf⟩ := xbind hf
  refine xb_callV (As := [.int l1, .int (0 : Int32)]) (v0 := (some (.int p1))) (τ0 := σ) dX7_applyNeutral_3 (xc_X9_child _ _) xcl9 xw_1378 xw_1018 xw_1019 hb rfl (Nat.le_of_ble_eq_true rfl) rfl (Nat.le_of_ble_eq_true rfl) (fun Q1 hq => m_X9_child (d := d + 0) ep1 (fun g hg => by subst hg; exact hq)) ?_
  refine xm_istore_n dX7_applyNeutral_6 (by decide) (xm_stL (L' := [(3, .int p1), (0, .ref l0), (1, .int l1), (2, .int l2)]) rfl ?_)
  refine xm_aload_n dX7_applyNeutral_7 rfl ?_
  refine xm_iload_n dX7_applyNeutral_8 rfl ?_
  refine xm_iconst dX7_applyNeutral_9 (v := 1) (by decide) ?_
  refine xb_if hf (fun hb hf => ?_) (fun _ q => nomatch q)
  obtain ⟨p2, ep2, hf⟩ := xbind hf
  refine xb_callV (As := [.int l1, .int (1 : Int32)]) (v0 := (some (.int p2))) (τ0 := σ) dX7_applyNeutral_10 (xc_X9_child _ _) xcl9 xw_1378 xw_1018 xw_1019 hb rfl (Nat.le_of_ble_eq_true rfl) rfl (Nat.le_of_ble_eq_true rfl) (fun Q1 hq => m_X9_child (d := d + 0) ep2 (fun g hg => by subst hg; exact hq)) ?_
  refine xm_istore dX7_applyNeutral_13 (by decide) (xm_stL (L' := [(4, .int p2), (3, .int p1), (0, .ref l0), (1, .int l1), (2, .int l2)]) rfl ?_)
  refine xm_iload_n dX7_applyNeutral_15 rfl ?_
  refine xb_if_eq 24 dX7_applyNeutral_16 (by decide) hf (fun c hf => ?_) (fun c hf => ?_)
  · exact xm_sub [2, 3, 4, 1, 0] rfl (L_X7_applyNeutral_j24 σ l0 l1 l2 p1 p2 hf hR)
  · refine xm_iload_n dX7_applyNeutral_19 rfl ?_
    refine xm_iconst dX7_applyNeutral_20 (v := 1) (by decide) ?_
    refine xb_icmp_ne 28 dX7_applyNeutral_21 (by decide) hf (fun c hf => ?_) (fun c hf => ?_)
    · refine xm_iconst dX7_applyNeutral_28 (v := 0) (by decide) ?_
      exact xm_sub [2, 3, 4, 1, 0] rfl (L_X7_applyNeutral_j29 σ l0 l1 l2 p1 p2 (0 : Int32) hf hR)
    · exact xm_sub [2, 3, 4, 1, 0] rfl (L_X7_applyNeutral_j24 σ l0 l1 l2 p1 p2 hf hR)
-- Rankwise$Rewriter.addAlike(LRankwise$Tree;III)Z
def f_X7_addAlike_j21 (σ : xM)  : Option (Int32 × xM) :=
  some ((0 : Int32), σ)
set_option maxHeartbeats 4000000 in
set_option maxRecDepth 20000 in
theorem L_X7_addAlike_j21 {G : xG} {π : Nat → Nat} {d C Z : Nat} {Q : xQ} (σ : xM)  {x : (Int32 × xM)} (hf : f_X7_addAlike_j21 σ = some x) (hR : ∀ g, x = g → Q (.inl (some (.int g.1))) (g.2) π) : xMach G π J_X7_addAlike (d + 3) C Z 21 [] [] σ Q := by
  unfold f_X7_addAlike_j21 at hf
  refine xm_iconst dX7_addAlike_21 (v := 0) (by decide) ?_
  cases hf
  exact xm_zret dX7_addAlike_22 rfl rfl (hR _ rfl)
def f_X7_addAlike_j80 (σ : xM)  : Option (Int32 × xM) :=
  some ((0 : Int32), σ)
set_option maxHeartbeats 4000000 in
set_option maxRecDepth 20000 in
theorem L_X7_addAlike_j80 {G : xG} {π : Nat → Nat} {d C Z : Nat} {Q : xQ} (σ : xM)  {x : (Int32 × xM)} (hf : f_X7_addAlike_j80 σ = some x) (hR : ∀ g, x = g → Q (.inl (some (.int g.1))) (g.2) π) : xMach G π J_X7_addAlike (d + 3) C Z 80 [] [] σ Q := by
  unfold f_X7_addAlike_j80 at hf
  refine xm_iconst dX7_addAlike_80 (v := 0) (by decide) ?_
  cases hf
  exact xm_zret dX7_addAlike_81 rfl rfl (hR _ rfl)
def f_X7_addAlike (σ : xM) (l0 : Nat) (l1 : Nat) (l2 : Int32) (l3 : Int32) (l4 : Int32) : Option (Int32 × xM) :=
  (if xk σ l0 7 = true then (f_X7_meaningOf σ l0 l1 l3).bind (fun p1 => (if p1 = (2 : Int32) then (if xk σ l0 7 = true then (f_X7_meaningOf σ l0 l1 l4).bind (fun p2 => (if p2 = (2 : Int32) then (if xk σ l1 9 = true then (f_X9_child σ l1 l3 (0 : Int32)).bind (fun p3 => (if xk σ l1 9 = true then (f_X9_child σ l1 l4 (0 : Int32)).bind (fun p4 => (gR σ l1 9 0).bind (fun x5 => (aI σ x5 14 p3).bind (fun x6 => (if x6 = (0 : Int32) then (gR σ l1 9 0).bind (fun x7 => (aI σ x7 14 p4).bind (fun x8 => (if x8 = (0 : Int32) then (if xk σ l1 9 = true then (f_X9_child σ l1 l3 (1 : Int32)).bind (fun p9 => (if xk σ l1 9 = true then (f_X9_child σ l1 l4 (1 : Int32)).bind (fun p10 => (if xk σ l1 9 = true then (f_X9_sameParts σ l1 p9 p10).bind (fun p11 => (if p11 = (0 : Int32) then f_X7_addAlike_j80 σ else (gR σ l1 9 1).bind (fun x12 => (aI σ x12 14 p3).bind (fun x13 => (gR σ l1 9 1).bind (fun x14 => (aI σ x14 14 p4).bind (fun x15 => xlet (x13 + x15) (fun v16 => (if v16 ≤ (999999999 : Int32) then (gR σ l1 9 1).bind (fun x17 => (wI σ x17 p3 v16).bind (fun σ18 => (if xk σ18 l1 9 = true then (f_X9_keepOnly σ18 l1 l2 l3).bind (fun p19 => some ((1 : Int32), p19)) else none))) else some ((0 : Int32), σ))))))))) else none)) else none)) else none) else f_X7_addAlike_j80 σ))) else f_X7_addAlike_j80 σ)))) else none)) else none) else f_X7_addAlike_j21 σ)) else none) else f_X7_addAlike_j21 σ)) else none)
set_option maxHeartbeats 4000000 in
set_option maxRecDepth 20000 in
theorem m_X7_addAlike {G : xG} {π : Nat → Nat} {d C Z : Nat} {Q : xQ} {σ : xM} {l0 : Nat} {l1 : Nat} {l2 : Int32} {l3 : Int32} {l4 : Int32} {x : (Int32 × xM)} (hf : f_X7_addAlike σ l0 l1 l2 l3 l4 = some x) (hR : ∀ g, x = g → Q (.inl (some (.int g.1))) (g.2) π) : xMach G π J_X7_addAlike (d + 3) C Z 0 (lv_args 0 [.ref l0, .ref l1, .int l2, .int l3, .int l4]) [] σ Q := by
  unfold f_X7_addAlike at hf
  refine xm_stL (L' := [(0, .ref l0), (1, .ref l1), (2, .int l2), (3, .int l3), (4, .int l4)]) rfl ?_
  refine xm_aload_n dX7_addAlike_0 rfl ?_
  refine xm_aload_n dX7_addAlike_1 rfl ?_
  refine xm_iload_n dX7_addAlike_2 rfl ?_
  refine xb_if hf (fun hb hf => ?_) (fun _ q => nomatch q)
  obtain ⟨p1, ep1, hf⟩ := xbind hf
  refine xb_callV (As := [.ref l1, .int l3]) (v0 := (some (.int p1))) (τ0 := σ) dX7_addAlike_3 (xc_X7_meaningOf _ _) xcl7 xw_1373 xw_1375 xs_56 hb rfl (Nat.le_of_ble_eq_true rfl) rfl (Nat.le_of_ble_eq_true rfl) (fun Q1 hq => m_X7_meaningOf (d := d + 0) ep1 (fun g hg => by subst hg; exact hq)) ?_
  refine xm_iconst dX7_addAlike_6 (v := 2) (by decide) ?_
  refine xb_icmp_ne 21 dX7_addAlike_7 (by decide) hf (fun c hf => ?_) (fun c hf => ?_)
  · exact xm_sub [] rfl (L_X7_addAlike_j21 σ hf hR)
  · refine xm_aload_n dX7_addAlike_10 rfl ?_
    refine xm_aload_n dX7_addAlike_11 rfl ?_
    refine xm_iload dX7_addAlike_12 rfl ?_
    refine xb_if hf (fun hb hf => ?_) (fun _ q => nomatch q)
    obtain ⟨p2, ep2, hf⟩ := xbind hf
    refine xb_callV (As := [.ref l1, .int l4]) (v0 := (some (.int p2))) (τ0 := σ) dX7_addAlike_14 (xc_X7_meaningOf _ _) xcl7 xw_1373 xw_1375 xs_56 hb rfl (Nat.le_of_ble_eq_true rfl) rfl (Nat.le_of_ble_eq_true rfl) (fun Q1 hq => m_X7_meaningOf (d := d + 0) ep2 (fun g hg => by subst hg; exact hq)) ?_
    refine xm_iconst dX7_addAlike_17 (v := 2) (by decide) ?_
    refine xb_icmp_eq 23 dX7_addAlike_18 (by decide) hf (fun c hf => ?_) (fun c hf => ?_)
    · refine xm_aload_n dX7_addAlike_23 rfl ?_
      refine xm_iload_n dX7_addAlike_24 rfl ?_
      refine xm_iconst dX7_addAlike_25 (v := 0) (by decide) ?_
      refine xb_if hf (fun hb hf => ?_) (fun _ q => nomatch q)
      obtain ⟨p3, ep3, hf⟩ := xbind hf
      refine xb_callV (As := [.int l3, .int (0 : Int32)]) (v0 := (some (.int p3))) (τ0 := σ) dX7_addAlike_26 (xc_X9_child _ _) xcl9 xw_1378 xw_1018 xw_1019 hb rfl (Nat.le_of_ble_eq_true rfl) rfl (Nat.le_of_ble_eq_true rfl) (fun Q1 hq => m_X9_child (d := d + 1) ep3 (fun g hg => by subst hg; exact hq)) ?_
      refine xm_istore dX7_addAlike_29 (by decide) (xm_stL (L' := [(5, .int p3), (0, .ref l0), (1, .ref l1), (2, .int l2), (3, .int l3), (4, .int l4)]) rfl ?_)
      refine xm_aload_n dX7_addAlike_31 rfl ?_
      refine xm_iload dX7_addAlike_32 rfl ?_
      refine xm_iconst dX7_addAlike_34 (v := 0) (by decide) ?_
      refine xb_if hf (fun hb hf => ?_) (fun _ q => nomatch q)
      obtain ⟨p4, ep4, hf⟩ := xbind hf
      refine xb_callV (As := [.int l4, .int (0 : Int32)]) (v0 := (some (.int p4))) (τ0 := σ) dX7_addAlike_35 (xc_X9_child _ _) xcl9 xw_1378 xw_1018 xw_1019 hb rfl (Nat.le_of_ble_eq_true rfl) rfl (Nat.le_of_ble_eq_true rfl) (fun Q1 hq => m_X9_child (d := d + 1) ep4 (fun g hg => by subst hg; exact hq)) ?_
      refine xm_istore dX7_addAlike_38 (by decide) (xm_stL (L' := [(6, .int p4), (5, .int p3), (0, .ref l0), (1, .ref l1), (2, .int l2), (3, .int l3), (4, .int l4)]) rfl ?_)
      refine xm_aload_n dX7_addAlike_40 rfl ?_
      refine xb_getR (a := l1) (c := 9) (k := 0) dX7_addAlike_41 xcl9 (by decide) xw_192 rfl hf (fun x5 ex5 hf => ?_)
      refine xm_iload dX7_addAlike_44 rfl ?_
      refine xb_iald dX7_addAlike_46 hf (fun x6 ex6 hf => ?_)
      refine xb_if_ne 80 dX7_addAlike_47 (by decide) hf (fun c hf => ?_) (fun c hf => ?_)
      · exact xm_sub [] rfl (L_X7_addAlike_j80 σ hf hR)
      · refine xm_aload_n dX7_addAlike_50 rfl ?_
        refine xb_getR (a := l1) (c := 9) (k := 0) dX7_addAlike_51 xcl9 (by decide) xw_192 rfl hf (fun x7 ex7 hf => ?_)
        refine xm_iload dX7_addAlike_54 rfl ?_
        refine xb_iald dX7_addAlike_56 hf (fun x8 ex8 hf => ?_)
        refine xb_if_ne 80 dX7_addAlike_57 (by decide) hf (fun c hf => ?_) (fun c hf => ?_)
        · exact xm_sub [] rfl (L_X7_addAlike_j80 σ hf hR)
        · refine xm_aload_n dX7_addAlike_60 rfl ?_
          refine xm_aload_n dX7_addAlike_61 rfl ?_
          refine xm_iload_n dX7_addAlike_62 rfl ?_
          refine xm_iconst dX7_addAlike_63 (v := 1) (by decide) ?_
          refine xb_if hf (fun hb hf => ?_) (fun _ q => nomatch q)
          obtain ⟨p9, ep9, hf⟩ := xbind hf
          refine xb_callV (As := [.int l3, .int (1 : Int32)]) (v0 := (some (.int p9))) (τ0 := σ) dX7_addAlike_64 (xc_X9_child _ _) xcl9 xw_1378 xw_1018 xw_1019 hb rfl (Nat.le_of_ble_eq_true rfl) rfl (Nat.le_of_ble_eq_true rfl) (fun Q1 hq => m_X9_child (d := d + 1) ep9 (fun g hg => by subst hg; exact hq)) ?_
          refine xm_aload_n dX7_addAlike_67 rfl ?_
          refine xm_iload dX7_addAlike_68 rfl ?_
          refine xm_iconst dX7_addAlike_70 (v := 1) (by decide) ?_
          refine xb_if hf (fun hb hf => ?_) (fun _ q => nomatch q)
          obtain ⟨p10, ep10, hf⟩ := xbind hf
          refine xb_callV (As := [.int l4, .int (1 : Int32)]) (v0 := (some (.int p10))) (τ0 := σ) dX7_addAlike_71 (xc_X9_child _ _) xcl9 xw_1378 xw_1018 xw_1019 hb rfl (Nat.le_of_ble_eq_true rfl) rfl (Nat.le_of_ble_eq_true rfl) (fun Q1 hq => m_X9_child (d := d + 1) ep10 (fun g hg => by subst hg; exact hq)) ?_
          refine xb_if hf (fun hb hf => ?_) (fun _ q => nomatch q)
          obtain ⟨p11, ep11, hf⟩ := xbind hf
          refine xb_callV (As := [.int p9, .int p10]) (v0 := (some (.int p11))) (τ0 := σ) dX7_addAlike_74 (xc_X9_sameParts _ _) xcl9 xw_1411 xw_1412 xw_1413 hb rfl (Nat.le_of_ble_eq_true rfl) rfl (Nat.le_of_ble_eq_true rfl) (fun Q1 hq => m_X9_sameParts (d := d + 1) ep11 (fun g hg => by subst hg; exact hq)) ?_
          refine xb_if_ne 82 dX7_addAlike_77 (by decide) hf (fun c hf => ?_) (fun c hf => ?_)
          · refine xm_aload_n dX7_addAlike_82 rfl ?_
            refine xb_getR (a := l1) (c := 9) (k := 1) dX7_addAlike_83 xcl9 (by decide) xw_198 rfl hf (fun x12 ex12 hf => ?_)
            refine xm_iload dX7_addAlike_86 rfl ?_
            refine xb_iald dX7_addAlike_88 hf (fun x13 ex13 hf => ?_)
            refine xm_aload_n dX7_addAlike_89 rfl ?_
            refine xb_getR (a := l1) (c := 9) (k := 1) dX7_addAlike_90 xcl9 (by decide) xw_198 rfl hf (fun x14 ex14 hf => ?_)
            refine xm_iload dX7_addAlike_93 rfl ?_
            refine xb_iald dX7_addAlike_95 hf (fun x15 ex15 hf => ?_)
            refine xm_iadd dX7_addAlike_96 ?_
            refine xb_topi hf (fun v16 ev16 hf => ?_)
            refine xm_istore dX7_addAlike_97 (by decide) (xm_stL (L' := [(7, .int v16), (6, .int p4), (5, .int p3), (0, .ref l0), (1, .ref l1), (2, .int l2), (3, .int l3), (4, .int l4)]) rfl ?_)
            refine xm_iload dX7_addAlike_99 rfl ?_
            refine xm_ldc dX7_addAlike_101 (xws_in xw_1419) ?_
            refine xb_icmp_le 108 dX7_addAlike_103 (by decide) hf (fun c hf => ?_) (fun c hf => ?_)
            · refine xm_aload_n dX7_addAlike_108 rfl ?_
              refine xb_getR (a := l1) (c := 9) (k := 1) dX7_addAlike_109 xcl9 (by decide) xw_198 rfl hf (fun x17 ex17 hf => ?_)
              refine xm_iload dX7_addAlike_112 rfl ?_
              refine xm_iload dX7_addAlike_114 rfl ?_
              refine xb_iast dX7_addAlike_116 hf (fun σ18 eσ18 hf => ?_)
              refine xm_aload_n dX7_addAlike_117 rfl ?_
              refine xm_iload_n dX7_addAlike_118 rfl ?_
              refine xm_iload_n dX7_addAlike_119 rfl ?_
              refine xb_if hf (fun hb hf => ?_) (fun _ q => nomatch q)
              obtain ⟨p19, ep19, hf⟩ := xbind hf
              refine xb_callV (As := [.int l2, .int l3]) (v0 := none) (τ0 := p19) dX7_addAlike_120 (xc_X9_keepOnly _ _) xcl9 xw_1379 xw_1380 xw_1381 hb rfl (Nat.le_of_ble_eq_true rfl) rfl (Nat.le_of_ble_eq_true rfl) (fun Q1 hq => m_X9_keepOnly (d := d + 1) ep19 (fun g hg => by subst hg; exact hq)) ?_
              refine xm_iconst dX7_addAlike_123 (v := 1) (by decide) ?_
              cases hf
              exact xm_zret dX7_addAlike_124 rfl rfl (hR _ rfl)
            · refine xm_iconst dX7_addAlike_106 (v := 0) (by decide) ?_
              cases hf
              exact xm_zret dX7_addAlike_107 rfl rfl (hR _ rfl)
          · exact xm_sub [] rfl (L_X7_addAlike_j80 σ hf hR)
    · exact xm_sub [] rfl (L_X7_addAlike_j21 σ hf hR)
-- Rankwise$Rewriter.applyToTwo(LRankwise$Tree;II)I
def f_X7_applyToTwo_j151 (σ : xM) (s0 : Int32) : Option (Int32 × xM) :=
  some (s0, σ)
set_option maxHeartbeats 4000000 in
set_option maxRecDepth 20000 in
theorem L_X7_applyToTwo_j151 {G : xG} {π : Nat → Nat} {d C Z : Nat} {Q : xQ} (σ : xM) (s0 : Int32) {x : (Int32 × xM)} (hf : f_X7_applyToTwo_j151 σ s0 = some x) (hR : ∀ g, x = g → Q (.inl (some (.int g.1))) (g.2) π) : xMach G π J_X7_applyToTwo (d + 4) C Z 151 [] [.int s0] σ Q := by
  unfold f_X7_applyToTwo_j151 at hf
  cases hf
  exact xm_iret dX7_applyToTwo_151 rfl (hR _ rfl)
def f_X7_applyToTwo_j150 (σ : xM)  : Option (Int32 × xM) :=
  f_X7_applyToTwo_j151 σ (0 : Int32)
set_option maxHeartbeats 4000000 in
set_option maxRecDepth 20000 in
theorem L_X7_applyToTwo_j150 {G : xG} {π : Nat → Nat} {d C Z : Nat} {Q : xQ} (σ : xM)  {x : (Int32 × xM)} (hf : f_X7_applyToTwo_j150 σ = some x) (hR : ∀ g, x = g → Q (.inl (some (.int g.1))) (g.2) π) : xMach G π J_X7_applyToTwo (d + 4) C Z 150 [] [] σ Q := by
  unfold f_X7_applyToTwo_j150 at hf
  refine xm_iconst dX7_applyToTwo_150 (v := 0) (by decide) ?_
  exact xm_sub [] rfl (L_X7_applyToTwo_j151 σ (0 : Int32) hf hR)
def f_X7_applyToTwo_j128 (σ : xM) (l0 : Nat) (l1 : Nat) (l2 : Int32) (l3 : Int32) (l4 : Int32) (l5 : Int32) : Option (Int32 × xM) :=
  (if l3 = (0 : Int32) then (if xk σ l0 7 = true then (f_X7_addAlike σ l0 l1 l2 l4 l5).bind (fun p6 => (if p6.1 = (0 : Int32) then f_X7_applyToTwo_j150 p6.2 else f_X7_applyToTwo_j151 p6.2 (7 : Int32))) else none) else f_X7_applyToTwo_j150 σ)
set_option maxHeartbeats 4000000 in
set_option maxRecDepth 20000 in
theorem L_X7_applyToTwo_j128 {G : xG} {π : Nat → Nat} {d C Z : Nat} {Q : xQ} (σ : xM) (l0 : Nat) (l1 : Nat) (l2 : Int32) (l3 : Int32) (l4 : Int32) (l5 : Int32) {x : (Int32 × xM)} (hf : f_X7_applyToTwo_j128 σ l0 l1 l2 l3 l4 l5 = some x) (hR : ∀ g, x = g → Q (.inl (some (.int g.1))) (g.2) π) : xMach G π J_X7_applyToTwo (d + 4) C Z 128 [(0, .ref l0), (1, .ref l1), (2, .int l2), (3, .int l3), (4, .int l4), (5, .int l5)] [] σ Q := by
  unfold f_X7_applyToTwo_j128 at hf
  refine xm_iload_n dX7_applyToTwo_128 rfl ?_
  refine xb_if_ne 150 dX7_applyToTwo_129 (by decide) hf (fun c hf => ?_) (fun c hf => ?_)
  · exact xm_sub [] rfl (L_X7_applyToTwo_j150 σ hf hR)
  · refine xm_aload_n dX7_applyToTwo_132 rfl ?_
    refine xm_aload_n dX7_applyToTwo_133 rfl ?_
    refine xm_iload_n dX7_applyToTwo_134 rfl ?_
    refine xm_iload dX7_applyToTwo_135 rfl ?_
    refine xm_iload dX7_applyToTwo_137 rfl ?_
    refine xb_if hf (fun hb hf => ?_) (fun _ q => nomatch q)
    obtain ⟨p6, ep6, hf⟩ := xbind hf
    refine xb_callV (As := [.ref l1, .int l2, .int l4, .int l5]) (v0 := (some (.int p6.1))) (τ0 := p6.2) dX7_applyToTwo_139 (xc_X7_addAlike _ _) xcl7 xw_1415 xw_1417 xs_59 hb rfl (Nat.le_of_ble_eq_true rfl) rfl (Nat.le_of_ble_eq_true rfl) (fun Q1 hq => m_X7_addAlike (d := d + 0) ep6 (fun g hg => by subst hg; exact hq)) ?_
    refine xb_if_eq 150 dX7_applyToTwo_142 (by decide) hf (fun c hf => ?_) (fun c hf => ?_)
    · exact xm_sub [] rfl (L_X7_applyToTwo_j150 p6.2 hf hR)
    · refine xm_bipush dX7_applyToTwo_145 (v := 7) (by decide) ?_
      refine xm_goto 151 dX7_applyToTwo_147 (by decide) ?_
      exact xm_sub [] rfl (L_X7_applyToTwo_j151 p6.2 (7 : Int32) hf hR)
def f_X7_applyToTwo_j123 (σ : xM) (s0 : Int32) (s1 : Int32) (s2 : Nat) : Option (Int32 × xM) :=
  (if xk σ s2 9 = true then (f_X9_makeNumber σ s2 s1 s0).bind (fun p7 => some ((5 : Int32), p7)) else none)
set_option maxHeartbeats 4000000 in
set_option maxRecDepth 20000 in
theorem L_X7_applyToTwo_j123 {G : xG} {π : Nat → Nat} {d C Z : Nat} {Q : xQ} (σ : xM) (s0 : Int32) (s1 : Int32) (s2 : Nat) {x : (Int32 × xM)} (hf : f_X7_applyToTwo_j123 σ s0 s1 s2 = some x) (hR : ∀ g, x = g → Q (.inl (some (.int g.1))) (g.2) π) : xMach G π J_X7_applyToTwo (d + 4) C Z 123 [] [.int s0, .int s1, .ref s2] σ Q := by
  unfold f_X7_applyToTwo_j123 at hf
  refine xb_if hf (fun hb hf => ?_) (fun _ q => nomatch q)
  obtain ⟨p7, ep7, hf⟩ := xbind hf
  refine xb_callV (As := [.int s1, .int s0]) (v0 := none) (τ0 := p7) dX7_applyToTwo_123 (xc_X9_makeNumber _ _) xcl9 xw_1400 xw_1401 xw_1402 hb rfl (Nat.le_of_ble_eq_true rfl) rfl (Nat.le_of_ble_eq_true rfl) (fun Q1 hq => m_X9_makeNumber (d := d + 2) ep7 (fun g hg => by subst hg; exact hq)) ?_
  refine xm_iconst dX7_applyToTwo_126 (v := 5) (by decide) ?_
  cases hf
  exact xm_iret dX7_applyToTwo_127 rfl (hR _ rfl)
def f_X7_applyToTwo_j100 (σ : xM) (l0 : Nat) (l1 : Nat) (l2 : Int32) (l3 : Int32) (l4 : Int32) (l5 : Int32) : Option (Int32 × xM) :=
  (if xk σ l1 9 = true then (f_X9_sameParts σ l1 l4 l5).bind (fun p5 => (if p5 = (0 : Int32) then f_X7_applyToTwo_j128 σ l0 l1 l2 l3 l4 l5 else (if l3 = (1 : Int32) then f_X7_applyToTwo_j123 σ (0 : Int32) l2 l1 else f_X7_applyToTwo_j123 σ (1 : Int32) l2 l1))) else none)
set_option maxHeartbeats 4000000 in
set_option maxRecDepth 20000 in
theorem L_X7_applyToTwo_j100 {G : xG} {π : Nat → Nat} {d C Z : Nat} {Q : xQ} (σ : xM) (l0 : Nat) (l1 : Nat) (l2 : Int32) (l3 : Int32) (l4 : Int32) (l5 : Int32) {x : (Int32 × xM)} (hf : f_X7_applyToTwo_j100 σ l0 l1 l2 l3 l4 l5 = some x) (hR : ∀ g, x = g → Q (.inl (some (.int g.1))) (g.2) π) : xMach G π J_X7_applyToTwo (d + 4) C Z 100 [(0, .ref l0), (1, .ref l1), (2, .int l2), (3, .int l3), (4, .int l4), (5, .int l5)] [] σ Q := by
  unfold f_X7_applyToTwo_j100 at hf
  refine xm_aload_n dX7_applyToTwo_100 rfl ?_
  refine xm_iload dX7_applyToTwo_101 rfl ?_
  refine xm_iload dX7_applyToTwo_103 rfl ?_
  refine xb_if hf (fun hb hf => ?_) (fun _ q => nomatch q)
  obtain ⟨p5, ep5, hf⟩ := xbind hf
  refine xb_callV (As := [.int l4, .int l5]) (v0 := (some (.int p5))) (τ0 := σ) dX7_applyToTwo_105 (xc_X9_sameParts _ _) xcl9 xw_1411 xw_1412 xw_1413 hb rfl (Nat.le_of_ble_eq_true rfl) rfl (Nat.le_of_ble_eq_true rfl) (fun Q1 hq => m_X9_sameParts (d := d + 2) ep5 (fun g hg => by subst hg; exact hq)) ?_
  refine xb_if_eq 128 dX7_applyToTwo_108 (by decide) hf (fun c hf => ?_) (fun c hf => ?_)
  · exact xm_sub [0, 1, 2, 3, 4, 5] rfl (L_X7_applyToTwo_j128 σ l0 l1 l2 l3 l4 l5 hf hR)
  · refine xm_aload_n dX7_applyToTwo_111 rfl ?_
    refine xm_iload_n dX7_applyToTwo_112 rfl ?_
    refine xm_iload_n dX7_applyToTwo_113 rfl ?_
    refine xm_iconst dX7_applyToTwo_114 (v := 1) (by decide) ?_
    refine xb_icmp_ne 122 dX7_applyToTwo_115 (by decide) hf (fun c hf => ?_) (fun c hf => ?_)
    · refine xm_iconst dX7_applyToTwo_122 (v := 1) (by decide) ?_
      exact xm_sub [] rfl (L_X7_applyToTwo_j123 σ (1 : Int32) l2 l1 hf hR)
    · refine xm_iconst dX7_applyToTwo_118 (v := 0) (by decide) ?_
      refine xm_goto 123 dX7_applyToTwo_119 (by decide) ?_
      exact xm_sub [] rfl (L_X7_applyToTwo_j123 σ (0 : Int32) l2 l1 hf hR)
def f_X7_applyToTwo_j90 (σ : xM) (l0 : Nat) (l1 : Nat) (l2 : Int32) (l3 : Int32) (l4 : Int32) (l5 : Int32) : Option (Int32 × xM) :=
  (if l3 = (1 : Int32) then f_X7_applyToTwo_j100 σ l0 l1 l2 l3 l4 l5 else (if l3 = (3 : Int32) then f_X7_applyToTwo_j100 σ l0 l1 l2 l3 l4 l5 else f_X7_applyToTwo_j128 σ l0 l1 l2 l3 l4 l5))
set_option maxHeartbeats 4000000 in
set_option maxRecDepth 20000 in
theorem L_X7_applyToTwo_j90 {G : xG} {π : Nat → Nat} {d C Z : Nat} {Q : xQ} (σ : xM) (l0 : Nat) (l1 : Nat) (l2 : Int32) (l3 : Int32) (l4 : Int32) (l5 : Int32) {x : (Int32 × xM)} (hf : f_X7_applyToTwo_j90 σ l0 l1 l2 l3 l4 l5 = some x) (hR : ∀ g, x = g → Q (.inl (some (.int g.1))) (g.2) π) : xMach G π J_X7_applyToTwo (d + 4) C Z 90 [(0, .ref l0), (1, .ref l1), (2, .int l2), (3, .int l3), (4, .int l4), (5, .int l5)] [] σ Q := by
  unfold f_X7_applyToTwo_j90 at hf
  refine xm_iload_n dX7_applyToTwo_90 rfl ?_
  refine xm_iconst dX7_applyToTwo_91 (v := 1) (by decide) ?_
  refine xb_icmp_eq 100 dX7_applyToTwo_92 (by decide) hf (fun c hf => ?_) (fun c hf => ?_)
  · exact xm_sub [0, 1, 2, 3, 4, 5] rfl (L_X7_applyToTwo_j100 σ l0 l1 l2 l3 l4 l5 hf hR)
  · refine xm_iload_n dX7_applyToTwo_95 rfl ?_
    refine xm_iconst dX7_applyToTwo_96 (v := 3) (by decide) ?_
    refine xb_icmp_ne 128 dX7_applyToTwo_97 (by decide) hf (fun c hf => ?_) (fun c hf => ?_)
    · exact xm_sub [0, 1, 2, 3, 4, 5] rfl (L_X7_applyToTwo_j128 σ l0 l1 l2 l3 l4 l5 hf hR)
    · exact xm_sub [0, 1, 2, 3, 4, 5] rfl (L_X7_applyToTwo_j100 σ l0 l1 l2 l3 l4 l5 hf hR)
def f_X7_applyToTwo_j82 (σ : xM) (l1 : Nat) (l2 : Int32) : Option (Int32 × xM) :=
  (if xk σ l1 9 = true then (f_X9_makeNumber σ l1 l2 (0 : Int32)).bind (fun p9 => some ((4 : Int32), p9)) else none)
set_option maxHeartbeats 4000000 in
set_option maxRecDepth 20000 in
theorem L_X7_applyToTwo_j82 {G : xG} {π : Nat → Nat} {d C Z : Nat} {Q : xQ} (σ : xM) (l1 : Nat) (l2 : Int32) {x : (Int32 × xM)} (hf : f_X7_applyToTwo_j82 σ l1 l2 = some x) (hR : ∀ g, x = g → Q (.inl (some (.int g.1))) (g.2) π) : xMach G π J_X7_applyToTwo (d + 4) C Z 82 [(1, .ref l1), (2, .int l2)] [] σ Q := by
  unfold f_X7_applyToTwo_j82 at hf
  refine xm_aload_n dX7_applyToTwo_82 rfl ?_
  refine xm_iload_n dX7_applyToTwo_83 rfl ?_
  refine xm_iconst dX7_applyToTwo_84 (v := 0) (by decide) ?_
  refine xb_if hf (fun hb hf => ?_) (fun _ q => nomatch q)
  obtain ⟨p9, ep9, hf⟩ := xbind hf
  refine xb_callV (As := [.int l2, .int (0 : Int32)]) (v0 := none) (τ0 := p9) dX7_applyToTwo_85 (xc_X9_makeNumber _ _) xcl9 xw_1400 xw_1401 xw_1402 hb rfl (Nat.le_of_ble_eq_true rfl) rfl (Nat.le_of_ble_eq_true rfl) (fun Q1 hq => m_X9_makeNumber (d := d + 2) ep9 (fun g hg => by subst hg; exact hq)) ?_
  refine xm_iconst dX7_applyToTwo_88 (v := 4) (by decide) ?_
  cases hf
  exact xm_iret dX7_applyToTwo_89 rfl (hR _ rfl)
def f_X7_applyToTwo (σ : xM) (l0 : Nat) (l1 : Nat) (l2 : Int32) (l3 : Int32) : Option (Int32 × xM) :=
  (if xk σ l1 9 = true then (f_X9_child σ l1 l2 (0 : Int32)).bind (fun p1 => (if xk σ l1 9 = true then (f_X9_child σ l1 l2 (1 : Int32)).bind (fun p2 => (f_X7_wholeOf σ l1 l3 p1 p2).bind (fun p3 => (if p3 < (0 : Int32) then (f_X7_applyNeutral σ l1 l2 l3).bind (fun p4 => (if p4.1 = (0 : Int32) then (if l3 = (2 : Int32) then (if xk p4.2 l1 9 = true then (f_X9_isNumber p4.2 l1 p1 (0 : Int32)).bind (fun p8 => (if p8 = (0 : Int32) then (if xk p4.2 l1 9 = true then (f_X9_isNumber p4.2 l1 p2 (0 : Int32)).bind (fun p10 => (if p10 = (0 : Int32) then f_X7_applyToTwo_j90 p4.2 l0 l1 l2 l3 p1 p2 else f_X7_applyToTwo_j82 p4.2 l1 l2)) else none) else f_X7_applyToTwo_j82 p4.2 l1 l2)) else none) else f_X7_applyToTwo_j90 p4.2 l0 l1 l2 l3 p1 p2) else some (p4.1, p4.2))) else (if xk σ l1 9 = true then (f_X9_makeNumber σ l1 l2 p3).bind (fun p11 => some ((1 : Int32), p11)) else none)))) else none)) else none)
set_option maxHeartbeats 4000000 in
set_option maxRecDepth 20000 in
theorem m_X7_applyToTwo {G : xG} {π : Nat → Nat} {d C Z : Nat} {Q : xQ} {σ : xM} {l0 : Nat} {l1 : Nat} {l2 : Int32} {l3 : Int32} {x : (Int32 × xM)} (hf : f_X7_applyToTwo σ l0 l1 l2 l3 = some x) (hR : ∀ g, x = g → Q (.inl (some (.int g.1))) (g.2) π) : xMach G π J_X7_applyToTwo (d + 4) C Z 0 (lv_args 0 [.ref l0, .ref l1, .int l2, .int l3]) [] σ Q := by
  unfold f_X7_applyToTwo at hf
  refine xm_stL (L' := [(0, .ref l0), (1, .ref l1), (2, .int l2), (3, .int l3)]) rfl ?_
  refine xm_aload_n dX7_applyToTwo_0 rfl ?_
  refine xm_iload_n dX7_applyToTwo_1 rfl ?_
  refine xm_iconst dX7_applyToTwo_2 (v := 0) (by decide) ?_
  refine xb_if hf (fun hb hf => ?_) (fun _ q => nomatch q)
  obtain ⟨p1, ep1, hf⟩ := xbind hf
  refine xb_callV (As := [.int l2, .int (0 : Int32)]) (v0 := (some (.int p1))) (τ0 := σ) dX7_applyToTwo_3 (xc_X9_child _ _) xcl9 xw_1378 xw_1018 xw_1019 hb rfl (Nat.le_of_ble_eq_true rfl) rfl (Nat.le_of_ble_eq_true rfl) (fun Q1 hq => m_X9_child (d := d + 2) ep1 (fun g hg => by subst hg; exact hq)) ?_
  refine xm_istore dX7_applyToTwo_6 (by decide) (xm_stL (L' := [(4, .int p1), (0, .ref l0), (1, .ref l1), (2, .int l2), (3, .int l3)]) rfl ?_)
  refine xm_aload_n dX7_applyToTwo_8 rfl ?_
  refine xm_iload_n dX7_applyToTwo_9 rfl ?_
  refine xm_iconst dX7_applyToTwo_10 (v := 1) (by decide) ?_
  refine xb_if hf (fun hb hf => ?_) (fun _ q => nomatch q)
  obtain ⟨p2, ep2, hf⟩ := xbind hf
  refine xb_callV (As := [.int l2, .int (1 : Int32)]) (v0 := (some (.int p2))) (τ0 := σ) dX7_applyToTwo_11 (xc_X9_child _ _) xcl9 xw_1378 xw_1018 xw_1019 hb rfl (Nat.le_of_ble_eq_true rfl) rfl (Nat.le_of_ble_eq_true rfl) (fun Q1 hq => m_X9_child (d := d + 2) ep2 (fun g hg => by subst hg; exact hq)) ?_
  refine xm_istore dX7_applyToTwo_14 (by decide) (xm_stL (L' := [(5, .int p2), (4, .int p1), (0, .ref l0), (1, .ref l1), (2, .int l2), (3, .int l3)]) rfl ?_)
  refine xm_aload_n dX7_applyToTwo_16 rfl ?_
  refine xm_iload_n dX7_applyToTwo_17 rfl ?_
  refine xm_iload dX7_applyToTwo_18 rfl ?_
  refine xm_iload dX7_applyToTwo_20 rfl ?_
  obtain ⟨p3, ep3, hf⟩ := xbind hf
  refine xb_callS (As := [.ref l1, .int l3, .int p1, .int p2]) (v0 := (some (.int p3))) (τ0 := σ) dX7_applyToTwo_22 (xc_X7_wholeOf _ _) xw_1391 xw_1392 rfl (Nat.le_of_ble_eq_true rfl) rfl (Nat.le_of_ble_eq_true rfl) (fun Q1 hq => m_X7_wholeOf (d := d + 2) ep3 (fun g hg => by subst hg; exact hq)) ?_
  refine xm_istore dX7_applyToTwo_25 (by decide) (xm_stL (L' := [(6, .int p3), (5, .int p2), (4, .int p1), (0, .ref l0), (1, .ref l1), (2, .int l2), (3, .int l3)]) rfl ?_)
  refine xm_iload dX7_applyToTwo_27 rfl ?_
  refine xb_if_lt 41 dX7_applyToTwo_29 (by decide) hf (fun c hf => ?_) (fun c hf => ?_)
  · refine xm_aload_n dX7_applyToTwo_41 rfl ?_
    refine xm_iload_n dX7_applyToTwo_42 rfl ?_
    refine xm_iload_n dX7_applyToTwo_43 rfl ?_
    obtain ⟨p4, ep4, hf⟩ := xbind hf
    refine xb_callS (As := [.ref l1, .int l2, .int l3]) (v0 := (some (.int p4.1))) (τ0 := p4.2) dX7_applyToTwo_44 (xc_X7_applyNeutral _ _) xw_1404 xw_1405 rfl (Nat.le_of_ble_eq_true rfl) rfl (Nat.le_of_ble_eq_true rfl) (fun Q1 hq => m_X7_applyNeutral (d := d + 1) ep4 (fun g hg => by subst hg; exact hq)) ?_
    refine xm_istore dX7_applyToTwo_47 (by decide) (xm_stL (L' := [(7, .int p4.1), (6, .int p3), (5, .int p2), (4, .int p1), (0, .ref l0), (1, .ref l1), (2, .int l2), (3, .int l3)]) rfl ?_)
    refine xm_iload dX7_applyToTwo_49 rfl ?_
    refine xb_if_eq 57 dX7_applyToTwo_51 (by decide) hf (fun c hf => ?_) (fun c hf => ?_)
    · refine xm_iload_n dX7_applyToTwo_57 rfl ?_
      refine xm_iconst dX7_applyToTwo_58 (v := 2) (by decide) ?_
      refine xb_icmp_ne 90 dX7_applyToTwo_59 (by decide) hf (fun c hf => ?_) (fun c hf => ?_)
      · exact xm_sub [4, 5, 6, 7, 3, 2] rfl (L_X7_applyToTwo_j90 p4.2 l0 l1 l2 l3 p1 p2 hf hR)
      · refine xm_aload_n dX7_applyToTwo_62 rfl ?_
        refine xm_iload dX7_applyToTwo_63 rfl ?_
        refine xm_iconst dX7_applyToTwo_65 (v := 0) (by decide) ?_
        refine xb_if hf (fun hb hf => ?_) (fun _ q => nomatch q)
        obtain ⟨p8, ep8, hf⟩ := xbind hf
        refine xb_callV (As := [.int p1, .int (0 : Int32)]) (v0 := (some (.int p8))) (τ0 := p4.2) dX7_applyToTwo_66 (xc_X9_isNumber _ _) xcl9 xw_1407 xw_1408 xw_1409 hb rfl (Nat.le_of_ble_eq_true rfl) rfl (Nat.le_of_ble_eq_true rfl) (fun Q1 hq => m_X9_isNumber (d := d + 3) ep8 (fun g hg => by subst hg; exact hq)) ?_
        refine xb_if_ne 82 dX7_applyToTwo_69 (by decide) hf (fun c hf => ?_) (fun c hf => ?_)
        · exact xm_sub [5, 6] rfl (L_X7_applyToTwo_j82 p4.2 l1 l2 hf hR)
        · refine xm_aload_n dX7_applyToTwo_72 rfl ?_
          refine xm_iload dX7_applyToTwo_73 rfl ?_
          refine xm_iconst dX7_applyToTwo_75 (v := 0) (by decide) ?_
          refine xb_if hf (fun hb hf => ?_) (fun _ q => nomatch q)
          obtain ⟨p10, ep10, hf⟩ := xbind hf
          refine xb_callV (As := [.int p2, .int (0 : Int32)]) (v0 := (some (.int p10))) (τ0 := p4.2) dX7_applyToTwo_76 (xc_X9_isNumber _ _) xcl9 xw_1407 xw_1408 xw_1409 hb rfl (Nat.le_of_ble_eq_true rfl) rfl (Nat.le_of_ble_eq_true rfl) (fun Q1 hq => m_X9_isNumber (d := d + 3) ep10 (fun g hg => by subst hg; exact hq)) ?_
          refine xb_if_eq 90 dX7_applyToTwo_79 (by decide) hf (fun c hf => ?_) (fun c hf => ?_)
          · exact xm_sub [4, 5, 6, 7, 3, 2] rfl (L_X7_applyToTwo_j90 p4.2 l0 l1 l2 l3 p1 p2 hf hR)
          · exact xm_sub [5, 6] rfl (L_X7_applyToTwo_j82 p4.2 l1 l2 hf hR)
    · refine xm_iload dX7_applyToTwo_54 rfl ?_
      cases hf
      exact xm_iret dX7_applyToTwo_56 rfl (hR _ rfl)
  · refine xm_aload_n dX7_applyToTwo_32 rfl ?_
    refine xm_iload_n dX7_applyToTwo_33 rfl ?_
    refine xm_iload dX7_applyToTwo_34 rfl ?_
    refine xb_if hf (fun hb hf => ?_) (fun _ q => nomatch q)
    obtain ⟨p11, ep11, hf⟩ := xbind hf
    refine xb_callV (As := [.int l2, .int p3]) (v0 := none) (τ0 := p11) dX7_applyToTwo_36 (xc_X9_makeNumber _ _) xcl9 xw_1400 xw_1401 xw_1402 hb rfl (Nat.le_of_ble_eq_true rfl) rfl (Nat.le_of_ble_eq_true rfl) (fun Q1 hq => m_X9_makeNumber (d := d + 2) ep11 (fun g hg => by subst hg; exact hq)) ?_
    refine xm_iconst dX7_applyToTwo_39 (v := 1) (by decide) ?_
    cases hf
    exact xm_iret dX7_applyToTwo_40 rfl (hR _ rfl)
-- Rankwise$Rewriter.applyRule(LRankwise$Tree;)I
def f_X7_applyRule_j91 (σ : xM) (l0 : Nat) (l1 : Nat) (l2 : Int32) (l3 : Int32) (l5 : Int32) : Option ((Int32 × xM) ⊕ (((Nat × Int32 × Int32 × xM) ⊕ (xM)) ⊕ (Nat × Nat × Int32 × xM))) :=
  (if l5 = (0 : Int32) then xlet (l2 + (1 : Int32)) (fun v6 => some (Sum.inr (Sum.inr (l0, l1, v6, σ)))) else some (Sum.inr (Sum.inl (Sum.inl (l0, l3, l5, σ)))))
set_option maxHeartbeats 4000000 in
set_option maxRecDepth 20000 in
theorem L_X7_applyRule_j91 {G : xG} {π : Nat → Nat} {d C Z : Nat} {Q : xQ} (σ : xM) (l0 : Nat) (l1 : Nat) (l2 : Int32) (l3 : Int32) (l5 : Int32) {x : ((Int32 × xM) ⊕ (((Nat × Int32 × Int32 × xM) ⊕ (xM)) ⊕ (Nat × Nat × Int32 × xM)))} (hf : f_X7_applyRule_j91 σ l0 l1 l2 l3 l5 = some x) (hR : ∀ g, x = Sum.inl (g) → Q (.inl (some (.int g.1))) (g.2) π) (hE0 : ∀ e : (Nat × Int32 × Int32 × xM), x = Sum.inr (Sum.inl (Sum.inl e)) → xMach G π J_X7_applyRule (d + 5) C Z 96 [(0, .ref e.1), (3, .int e.2.1), (5, .int e.2.2.1)] [] e.2.2.2 Q) (hE1 : ∀ e : (xM), x = Sum.inr (Sum.inl (Sum.inr e)) → xMach G π J_X7_applyRule (d + 5) C Z 110 [] [] e Q) (hC : ∀ e : (Nat × Nat × Int32 × xM), x = Sum.inr (Sum.inr e) → xMach G π J_X7_applyRule (d + 5) C Z 2 [(0, .ref e.1), (1, .ref e.2.1), (2, .int e.2.2.1)] [] e.2.2.2 Q) : xMach G π J_X7_applyRule (d + 5) C Z 91 [(0, .ref l0), (1, .ref l1), (2, .int l2), (3, .int l3), (5, .int l5)] [] σ Q := by
  unfold f_X7_applyRule_j91 at hf
  refine xm_iload dX7_applyRule_91 rfl ?_
  refine xb_if_eq 104 dX7_applyRule_93 (by decide) hf (fun c hf => ?_) (fun c hf => ?_)
  · refine xb_iinc dX7_applyRule_104 rfl (by decide) (by decide) hf (fun v6 ev6 hf => xm_stL (L' := [(2, .int v6), (0, .ref l0), (1, .ref l1), (3, .int l3), (5, .int l5)]) rfl ?_)
    refine xm_goto 2 dX7_applyRule_107 (by decide) ?_
    cases hf
    exact xm_sub [1, 2, 0] rfl (hC _ rfl)
  · cases hf
    exact xm_sub [0, 3, 4] rfl (hE0 _ rfl)
def f_X7_applyRule_j70 (σ : xM) (l0 : Nat) (l1 : Nat) (l2 : Int32) (l3 : Int32) (l4 : Int32) (l5 : Int32) : Option ((Int32 × xM) ⊕ (((Nat × Int32 × Int32 × xM) ⊕ (xM)) ⊕ (Nat × Nat × Int32 × xM))) :=
  (if l4 < (0 : Int32) then f_X7_applyRule_j91 σ l0 l1 l2 l3 l5 else (if (5 : Int32) < l4 then f_X7_applyRule_j91 σ l0 l1 l2 l3 l5 else (if xk σ l0 7 = true then (f_X7_applyToTwo σ l0 l1 l3 l4).bind (fun p7 => f_X7_applyRule_j91 p7.2 l0 l1 l2 l3 p7.1) else none)))
set_option maxHeartbeats 4000000 in
set_option maxRecDepth 20000 in
theorem L_X7_applyRule_j70 {G : xG} {π : Nat → Nat} {d C Z : Nat} {Q : xQ} (σ : xM) (l0 : Nat) (l1 : Nat) (l2 : Int32) (l3 : Int32) (l4 : Int32) (l5 : Int32) {x : ((Int32 × xM) ⊕ (((Nat × Int32 × Int32 × xM) ⊕ (xM)) ⊕ (Nat × Nat × Int32 × xM)))} (hf : f_X7_applyRule_j70 σ l0 l1 l2 l3 l4 l5 = some x) (hR : ∀ g, x = Sum.inl (g) → Q (.inl (some (.int g.1))) (g.2) π) (hE0 : ∀ e : (Nat × Int32 × Int32 × xM), x = Sum.inr (Sum.inl (Sum.inl e)) → xMach G π J_X7_applyRule (d + 5) C Z 96 [(0, .ref e.1), (3, .int e.2.1), (5, .int e.2.2.1)] [] e.2.2.2 Q) (hE1 : ∀ e : (xM), x = Sum.inr (Sum.inl (Sum.inr e)) → xMach G π J_X7_applyRule (d + 5) C Z 110 [] [] e Q) (hC : ∀ e : (Nat × Nat × Int32 × xM), x = Sum.inr (Sum.inr e) → xMach G π J_X7_applyRule (d + 5) C Z 2 [(0, .ref e.1), (1, .ref e.2.1), (2, .int e.2.2.1)] [] e.2.2.2 Q) : xMach G π J_X7_applyRule (d + 5) C Z 70 [(0, .ref l0), (1, .ref l1), (2, .int l2), (3, .int l3), (4, .int l4), (5, .int l5)] [] σ Q := by
  unfold f_X7_applyRule_j70 at hf
  refine xm_iload dX7_applyRule_70 rfl ?_
  refine xb_if_lt 91 dX7_applyRule_72 (by decide) hf (fun c hf => ?_) (fun c hf => ?_)
  · exact xm_sub [0, 1, 2, 3, 5] rfl (L_X7_applyRule_j91 σ l0 l1 l2 l3 l5 hf hR hE0 hE1 hC)
  · refine xm_iload dX7_applyRule_75 rfl ?_
    refine xm_iconst dX7_applyRule_77 (v := 5) (by decide) ?_
    refine xb_icmp_gt 91 dX7_applyRule_78 (by decide) hf (fun c hf => ?_) (fun c hf => ?_)
    · exact xm_sub [0, 1, 2, 3, 5] rfl (L_X7_applyRule_j91 σ l0 l1 l2 l3 l5 hf hR hE0 hE1 hC)
    · refine xm_aload_n dX7_applyRule_81 rfl ?_
      refine xm_aload_n dX7_applyRule_82 rfl ?_
      refine xm_iload_n dX7_applyRule_83 rfl ?_
      refine xm_iload dX7_applyRule_84 rfl ?_
      refine xb_if hf (fun hb hf => ?_) (fun _ q => nomatch q)
      obtain ⟨p7, ep7, hf⟩ := xbind hf
      refine xb_callV (As := [.ref l1, .int l3, .int l4]) (v0 := (some (.int p7.1))) (τ0 := p7.2) dX7_applyRule_86 (xc_X7_applyToTwo _ _) xcl7 xw_1387 xw_1389 xs_58 hb rfl (Nat.le_of_ble_eq_true rfl) rfl (Nat.le_of_ble_eq_true rfl) (fun Q1 hq => m_X7_applyToTwo (d := d + 0) ep7 (fun g hg => by subst hg; exact hq)) ?_
      refine xm_istore dX7_applyRule_89 (by decide) (xm_stL (L' := [(5, .int p7.1), (0, .ref l0), (1, .ref l1), (2, .int l2), (3, .int l3), (4, .int l4)]) rfl ?_)
      exact xm_sub [1, 2, 3, 4, 0] rfl (L_X7_applyRule_j91 p7.2 l0 l1 l2 l3 p7.1 hf hR hE0 hE1 hC)
def f_X7_applyRule_s2 (s : (Nat × Nat × Int32 × xM)) : Option ((Int32 × xM) ⊕ (((Nat × Int32 × Int32 × xM) ⊕ (xM)) ⊕ (Nat × Nat × Int32 × xM))) :=
  xlet s.1 (fun l0 => xlet s.2.1 (fun l1 => xlet s.2.2.1 (fun l2 => xlet s.2.2.2 (fun σ => (gI σ l1 9 7).bind (fun x2 => (if x2 ≤ l2 then some (Sum.inr (Sum.inl (Sum.inr σ))) else (if xk σ l1 9 = true then (f_X9_nodeAt σ l1 l2).bind (fun p3 => (if xk σ l0 7 = true then (f_X7_meaningOf σ l0 l1 p3).bind (fun p4 => xlet (0 : Int32) (fun v5 => (if p4 = (11 : Int32) then (if xk σ l1 9 = true then (f_X9_child σ l1 p3 (0 : Int32)).bind (fun p8 => (if xk σ l0 7 = true then (f_X7_meaningOf σ l0 l1 p8).bind (fun p9 => (if p9 = (11 : Int32) then (if xk σ l1 9 = true then (f_X9_child σ l1 p3 (0 : Int32)).bind (fun p10 => (if xk σ l1 9 = true then (f_X9_keepOnly σ l1 p3 (p10 + (1 : Int32))).bind (fun p11 => xlet (6 : Int32) (fun v12 => f_X7_applyRule_j91 p11 l0 l1 l2 p3 v12)) else none)) else none) else f_X7_applyRule_j70 σ l0 l1 l2 p3 p4 v5)) else none)) else none) else f_X7_applyRule_j70 σ l0 l1 l2 p3 p4 v5))) else none)) else none)))))))
set_option maxHeartbeats 4000000 in
set_option maxRecDepth 20000 in
theorem L_X7_applyRule_s2 {G : xG} {π : Nat → Nat} {d C Z : Nat} {Q : xQ} (σ : xM) (l0 : Nat) (l1 : Nat) (l2 : Int32) {x : ((Int32 × xM) ⊕ (((Nat × Int32 × Int32 × xM) ⊕ (xM)) ⊕ (Nat × Nat × Int32 × xM)))} (hf : f_X7_applyRule_s2 (l0, l1, l2, σ) = some x) (hR : ∀ g, x = Sum.inl (g) → Q (.inl (some (.int g.1))) (g.2) π) (hE0 : ∀ e : (Nat × Int32 × Int32 × xM), x = Sum.inr (Sum.inl (Sum.inl e)) → xMach G π J_X7_applyRule (d + 5) C Z 96 [(0, .ref e.1), (3, .int e.2.1), (5, .int e.2.2.1)] [] e.2.2.2 Q) (hE1 : ∀ e : (xM), x = Sum.inr (Sum.inl (Sum.inr e)) → xMach G π J_X7_applyRule (d + 5) C Z 110 [] [] e Q) (hC : ∀ e : (Nat × Nat × Int32 × xM), x = Sum.inr (Sum.inr e) → xMach G π J_X7_applyRule (d + 5) C Z 2 [(0, .ref e.1), (1, .ref e.2.1), (2, .int e.2.2.1)] [] e.2.2.2 Q) : xMach G π J_X7_applyRule (d + 5) C Z 2 [(0, .ref l0), (1, .ref l1), (2, .int l2)] [] σ Q := by
  have hf : (gI σ l1 9 7).bind (fun x2 => (if x2 ≤ l2 then some (Sum.inr (Sum.inl (Sum.inr σ))) else (if xk σ l1 9 = true then (f_X9_nodeAt σ l1 l2).bind (fun p3 => (if xk σ l0 7 = true then (f_X7_meaningOf σ l0 l1 p3).bind (fun p4 => xlet (0 : Int32) (fun v5 => (if p4 = (11 : Int32) then (if xk σ l1 9 = true then (f_X9_child σ l1 p3 (0 : Int32)).bind (fun p8 => (if xk σ l0 7 = true then (f_X7_meaningOf σ l0 l1 p8).bind (fun p9 => (if p9 = (11 : Int32) then (if xk σ l1 9 = true then (f_X9_child σ l1 p3 (0 : Int32)).bind (fun p10 => (if xk σ l1 9 = true then (f_X9_keepOnly σ l1 p3 (p10 + (1 : Int32))).bind (fun p11 => xlet (6 : Int32) (fun v12 => f_X7_applyRule_j91 p11 l0 l1 l2 p3 v12)) else none)) else none) else f_X7_applyRule_j70 σ l0 l1 l2 p3 p4 v5)) else none)) else none) else f_X7_applyRule_j70 σ l0 l1 l2 p3 p4 v5))) else none)) else none))) = some x := hf
  refine xm_iload_n dX7_applyRule_2 rfl ?_
  refine xm_aload_n dX7_applyRule_3 rfl ?_
  refine xb_getI (a := l1) (c := 9) (k := 7) dX7_applyRule_4 xcl9 (by decide) xw_219 rfl hf (fun x2 ex2 hf => ?_)
  refine xb_icmp_ge 110 dX7_applyRule_7 (by decide) hf (fun c hf => ?_) (fun c hf => ?_)
  · cases hf
    exact xm_sub [] rfl (hE1 _ rfl)
  · refine xm_aload_n dX7_applyRule_10 rfl ?_
    refine xm_iload_n dX7_applyRule_11 rfl ?_
    refine xb_if hf (fun hb hf => ?_) (fun _ q => nomatch q)
    obtain ⟨p3, ep3, hf⟩ := xbind hf
    refine xb_callV (As := [.int l2]) (v0 := (some (.int p3))) (τ0 := σ) dX7_applyRule_12 (xc_X9_nodeAt _ _) xcl9 xw_1372 xw_1132 xw_1133 hb rfl (Nat.le_of_ble_eq_true rfl) rfl (Nat.le_of_ble_eq_true rfl) (fun Q1 hq => m_X9_nodeAt (d := d + 4) ep3 (fun g hg => by subst hg; exact hq)) ?_
    refine xm_istore_n dX7_applyRule_15 (by decide) (xm_stL (L' := [(3, .int p3), (0, .ref l0), (1, .ref l1), (2, .int l2)]) rfl ?_)
    refine xm_aload_n dX7_applyRule_16 rfl ?_
    refine xm_aload_n dX7_applyRule_17 rfl ?_
    refine xm_iload_n dX7_applyRule_18 rfl ?_
    refine xb_if hf (fun hb hf => ?_) (fun _ q => nomatch q)
    obtain ⟨p4, ep4, hf⟩ := xbind hf
    refine xb_callV (As := [.ref l1, .int p3]) (v0 := (some (.int p4))) (τ0 := σ) dX7_applyRule_19 (xc_X7_meaningOf _ _) xcl7 xw_1373 xw_1375 xs_56 hb rfl (Nat.le_of_ble_eq_true rfl) rfl (Nat.le_of_ble_eq_true rfl) (fun Q1 hq => m_X7_meaningOf (d := d + 2) ep4 (fun g hg => by subst hg; exact hq)) ?_
    refine xm_istore dX7_applyRule_22 (by decide) (xm_stL (L' := [(4, .int p4), (3, .int p3), (0, .ref l0), (1, .ref l1), (2, .int l2)]) rfl ?_)
    refine xm_iconst dX7_applyRule_24 (v := 0) (by decide) ?_
    refine xb_topi hf (fun v5 ev5 hf => ?_)
    refine xm_istore dX7_applyRule_25 (by decide) (xm_stL (L' := [(5, .int v5), (4, .int p4), (3, .int p3), (0, .ref l0), (1, .ref l1), (2, .int l2)]) rfl ?_)
    refine xm_iload dX7_applyRule_27 rfl ?_
    refine xm_bipush dX7_applyRule_29 (v := 11) (by decide) ?_
    refine xb_icmp_ne 70 dX7_applyRule_31 (by decide) hf (fun c hf => ?_) (fun c hf => ?_)
    · exact xm_sub [3, 4, 5, 2, 1, 0] rfl (L_X7_applyRule_j70 σ l0 l1 l2 p3 p4 v5 hf hR hE0 hE1 hC)
    · refine xm_aload_n dX7_applyRule_34 rfl ?_
      refine xm_aload_n dX7_applyRule_35 rfl ?_
      refine xm_aload_n dX7_applyRule_36 rfl ?_
      refine xm_iload_n dX7_applyRule_37 rfl ?_
      refine xm_iconst dX7_applyRule_38 (v := 0) (by decide) ?_
      refine xb_if hf (fun hb hf => ?_) (fun _ q => nomatch q)
      obtain ⟨p8, ep8, hf⟩ := xbind hf
      refine xb_callV (As := [.int p3, .int (0 : Int32)]) (v0 := (some (.int p8))) (τ0 := σ) dX7_applyRule_39 (xc_X9_child _ _) xcl9 xw_1378 xw_1018 xw_1019 hb rfl (Nat.le_of_ble_eq_true rfl) rfl (Nat.le_of_ble_eq_true rfl) (fun Q1 hq => m_X9_child (d := d + 3) ep8 (fun g hg => by subst hg; exact hq)) ?_
      refine xb_if hf (fun hb hf => ?_) (fun _ q => nomatch q)
      obtain ⟨p9, ep9, hf⟩ := xbind hf
      refine xb_callV (As := [.ref l1, .int p8]) (v0 := (some (.int p9))) (τ0 := σ) dX7_applyRule_42 (xc_X7_meaningOf _ _) xcl7 xw_1373 xw_1375 xs_56 hb rfl (Nat.le_of_ble_eq_true rfl) rfl (Nat.le_of_ble_eq_true rfl) (fun Q1 hq => m_X7_meaningOf (d := d + 2) ep9 (fun g hg => by subst hg; exact hq)) ?_
      refine xm_bipush dX7_applyRule_45 (v := 11) (by decide) ?_
      refine xb_icmp_ne 70 dX7_applyRule_47 (by decide) hf (fun c hf => ?_) (fun c hf => ?_)
      · exact xm_sub [3, 4, 5, 2, 1, 0] rfl (L_X7_applyRule_j70 σ l0 l1 l2 p3 p4 v5 hf hR hE0 hE1 hC)
      · refine xm_aload_n dX7_applyRule_50 rfl ?_
        refine xm_iload_n dX7_applyRule_51 rfl ?_
        refine xm_aload_n dX7_applyRule_52 rfl ?_
        refine xm_iload_n dX7_applyRule_53 rfl ?_
        refine xm_iconst dX7_applyRule_54 (v := 0) (by decide) ?_
        refine xb_if hf (fun hb hf => ?_) (fun _ q => nomatch q)
        obtain ⟨p10, ep10, hf⟩ := xbind hf
        refine xb_callV (As := [.int p3, .int (0 : Int32)]) (v0 := (some (.int p10))) (τ0 := σ) dX7_applyRule_55 (xc_X9_child _ _) xcl9 xw_1378 xw_1018 xw_1019 hb rfl (Nat.le_of_ble_eq_true rfl) rfl (Nat.le_of_ble_eq_true rfl) (fun Q1 hq => m_X9_child (d := d + 3) ep10 (fun g hg => by subst hg; exact hq)) ?_
        refine xm_iconst dX7_applyRule_58 (v := 1) (by decide) ?_
        refine xm_iadd dX7_applyRule_59 ?_
        refine xb_if hf (fun hb hf => ?_) (fun _ q => nomatch q)
        obtain ⟨p11, ep11, hf⟩ := xbind hf
        refine xb_callV (As := [.int p3, .int (p10 + (1 : Int32))]) (v0 := none) (τ0 := p11) dX7_applyRule_60 (xc_X9_keepOnly _ _) xcl9 xw_1379 xw_1380 xw_1381 hb rfl (Nat.le_of_ble_eq_true rfl) rfl (Nat.le_of_ble_eq_true rfl) (fun Q1 hq => m_X9_keepOnly (d := d + 3) ep11 (fun g hg => by subst hg; exact hq)) ?_
        refine xm_bipush dX7_applyRule_63 (v := 6) (by decide) ?_
        refine xb_topi hf (fun v12 ev12 hf => ?_)
        refine xm_istore dX7_applyRule_65 (by decide) (xm_stL (L' := [(5, .int v12), (4, .int p4), (3, .int p3), (0, .ref l0), (1, .ref l1), (2, .int l2)]) rfl ?_)
        refine xm_goto 91 dX7_applyRule_67 (by decide) ?_
        exact xm_sub [3, 4, 5, 2, 0] rfl (L_X7_applyRule_j91 p11 l0 l1 l2 p3 v12 hf hR hE0 hE1 hC)
theorem L_X7_applyRule_l2 {G : xG} {π : Nat → Nat} {d C Z : Nat} {Q : xQ} {s0 : (Nat × Nat × Int32 × xM)} {x : ((Int32 × xM) ⊕ ((Nat × Int32 × Int32 × xM) ⊕ (xM)))} (h1 : xloop (f_X7_applyRule_s2) xF s0 = some x) (hR : ∀ g, x = Sum.inl g → Q (.inl (some (.int g.1))) (g.2) π) (hE0 : ∀ e : (Nat × Int32 × Int32 × xM), x = Sum.inr (Sum.inl e) → xMach G π J_X7_applyRule (d + 5) C Z 96 [(0, .ref e.1), (3, .int e.2.1), (5, .int e.2.2.1)] [] e.2.2.2 Q) (hE1 : ∀ e : (xM), x = Sum.inr (Sum.inr e) → xMach G π J_X7_applyRule (d + 5) C Z 110 [] [] e Q) : xMach G π J_X7_applyRule (d + 5) C Z 2 [(0, .ref s0.1), (1, .ref s0.2.1), (2, .int s0.2.2.1)] [] s0.2.2.2 Q := by
  refine xloop_run (M := (fun s : (Nat × Nat × Int32 × xM) => xMach G π J_X7_applyRule (d + 5) C Z 2 [(0, .ref s.1), (1, .ref s.2.1), (2, .int s.2.2.1)] [] s.2.2.2 Q)) (r := x) ?_ xF _ h1
  intro s y hs hx
  exact L_X7_applyRule_s2 s.2.2.2 s.1 s.2.1 s.2.2.1 (x := y) hs (fun g hg => by subst hg; exact hR g hx) (fun e he => by subst he; exact hE0 e hx) (fun e he => by subst he; exact hE1 e hx) (fun e he => by subst he; exact hx)
def f_X7_applyRule_j96 (σ : xM) (l0 : Nat) (l3 : Int32) (l5 : Int32) : Option (Int32 × xM) :=
  (sI σ l0 7 1 l3).bind (fun σ13 => some (l5, σ13))
set_option maxHeartbeats 4000000 in
set_option maxRecDepth 20000 in
theorem L_X7_applyRule_j96 {G : xG} {π : Nat → Nat} {d C Z : Nat} {Q : xQ} (σ : xM) (l0 : Nat) (l3 : Int32) (l5 : Int32) {x : (Int32 × xM)} (hf : f_X7_applyRule_j96 σ l0 l3 l5 = some x) (hR : ∀ g, x = g → Q (.inl (some (.int g.1))) (g.2) π) : xMach G π J_X7_applyRule (d + 5) C Z 96 [(0, .ref l0), (3, .int l3), (5, .int l5)] [] σ Q := by
  unfold f_X7_applyRule_j96 at hf
  refine xm_aload_n dX7_applyRule_96 rfl ?_
  refine xm_iload_n dX7_applyRule_97 rfl ?_
  refine xb_putI (a := l0) (c := 7) (k := 1) dX7_applyRule_98 xcl7 (by decide) xw_521 rfl rfl hf (fun σ13 eσ13 hf => ?_)
  refine xm_iload dX7_applyRule_101 rfl ?_
  cases hf
  exact xm_iret dX7_applyRule_103 rfl (hR _ rfl)
def f_X7_applyRule_j110 (σ : xM)  : Option (Int32 × xM) :=
  some ((0 : Int32), σ)
set_option maxHeartbeats 4000000 in
set_option maxRecDepth 20000 in
theorem L_X7_applyRule_j110 {G : xG} {π : Nat → Nat} {d C Z : Nat} {Q : xQ} (σ : xM)  {x : (Int32 × xM)} (hf : f_X7_applyRule_j110 σ = some x) (hR : ∀ g, x = g → Q (.inl (some (.int g.1))) (g.2) π) : xMach G π J_X7_applyRule (d + 5) C Z 110 [] [] σ Q := by
  unfold f_X7_applyRule_j110 at hf
  refine xm_iconst dX7_applyRule_110 (v := 0) (by decide) ?_
  cases hf
  exact xm_iret dX7_applyRule_111 rfl (hR _ rfl)
def f_X7_applyRule (σ : xM) (l0 : Nat) (l1 : Nat) : Option (Int32 × xM) :=
  xlet (0 : Int32) (fun v1 => (xloop (f_X7_applyRule_s2 ) xF (l0, l1, v1, σ)).bind (Sum.elim (fun g => some g) (Sum.elim (fun e => f_X7_applyRule_j96 e.2.2.2 e.1 e.2.1 e.2.2.1) (fun e => f_X7_applyRule_j110 e))))
set_option maxHeartbeats 4000000 in
set_option maxRecDepth 20000 in
theorem m_X7_applyRule {G : xG} {π : Nat → Nat} {d C Z : Nat} {Q : xQ} {σ : xM} {l0 : Nat} {l1 : Nat} {x : (Int32 × xM)} (hf : f_X7_applyRule σ l0 l1 = some x) (hR : ∀ g, x = g → Q (.inl (some (.int g.1))) (g.2) π) : xMach G π J_X7_applyRule (d + 5) C Z 0 (lv_args 0 [.ref l0, .ref l1]) [] σ Q := by
  unfold f_X7_applyRule at hf
  refine xm_stL (L' := [(0, .ref l0), (1, .ref l1)]) rfl ?_
  refine xm_iconst dX7_applyRule_0 (v := 0) (by decide) ?_
  refine xb_topi hf (fun v1 ev1 hf => ?_)
  refine xm_istore_n dX7_applyRule_1 (by decide) (xm_stL (L' := [(2, .int v1), (0, .ref l0), (1, .ref l1)]) rfl ?_)
  obtain ⟨o, h1, hf⟩ := xbind hf
  refine xm_sub [1, 2, 0] rfl (L_X7_applyRule_l2  h1 (fun g hg => ?_) (fun e he => ?_) (fun e he => ?_))
  · subst hg
    cases hf
    exact hR _ rfl
  · subst he
    rw [Sum.elim_inr, Sum.elim_inl] at hf
    have hf : f_X7_applyRule_j96 e.2.2.2 e.1 e.2.1 e.2.2.1 = some _ := hf
    exact xm_sub [0, 1, 2] rfl (L_X7_applyRule_j96 e.2.2.2 e.1 e.2.1 e.2.2.1 hf hR)
  · subst he
    rw [Sum.elim_inr, Sum.elim_inr] at hf
    have hf : f_X7_applyRule_j110 e = some _ := hf
    exact xm_sub [] rfl (L_X7_applyRule_j110 e hf hR)
-- Rankwise$Rewriter.hasRules(LRankwise$Tree;)Z
def f_X7_hasRules_j75 (σ : xM) (l0 : Nat) (l1 : Nat) (l2 : Int32) (s0 : Int32) : Option (Int32 ⊕ ((Unit ⊕ Unit) ⊕ (Nat × Nat × Int32))) :=
  (if s0 = (0 : Int32) then some (Sum.inr (Sum.inl (Sum.inl ()))) else xlet (l2 + (1 : Int32)) (fun v6 => some (Sum.inr (Sum.inr (l0, l1, v6)))))
set_option maxHeartbeats 4000000 in
set_option maxRecDepth 20000 in
theorem L_X7_hasRules_j75 {G : xG} {π : Nat → Nat} {d C Z : Nat} {Q : xQ} (σ : xM) (l0 : Nat) (l1 : Nat) (l2 : Int32) (s0 : Int32) {x : (Int32 ⊕ ((Unit ⊕ Unit) ⊕ (Nat × Nat × Int32)))} (hf : f_X7_hasRules_j75 σ l0 l1 l2 s0 = some x) (hR : ∀ g, x = Sum.inl (g) → Q (.inl (some (.int g))) (σ) π) (hE0 : ∀ e : Unit, x = Sum.inr (Sum.inl (Sum.inl e)) → xMach G π J_X7_hasRules (d + 3) C Z 82 [] [] σ Q) (hE1 : ∀ e : Unit, x = Sum.inr (Sum.inl (Sum.inr e)) → xMach G π J_X7_hasRules (d + 3) C Z 90 [] [] σ Q) (hC : ∀ e : (Nat × Nat × Int32), x = Sum.inr (Sum.inr e) → xMach G π J_X7_hasRules (d + 3) C Z 2 [(0, .ref e.1), (1, .ref e.2.1), (2, .int e.2.2)] [] σ Q) : xMach G π J_X7_hasRules (d + 3) C Z 75 [(0, .ref l0), (1, .ref l1), (2, .int l2)] [.int s0] σ Q := by
  unfold f_X7_hasRules_j75 at hf
  refine xm_istore dX7_hasRules_75 (by decide) (xm_stL (L' := [(4, .int s0), (0, .ref l0), (1, .ref l1), (2, .int l2)]) rfl ?_)
  refine xm_iload dX7_hasRules_77 rfl ?_
  refine xb_if_ne 84 dX7_hasRules_79 (by decide) hf (fun c hf => ?_) (fun c hf => ?_)
  · refine xb_iinc dX7_hasRules_84 rfl (by decide) (by decide) hf (fun v6 ev6 hf => xm_stL (L' := [(2, .int v6), (4, .int s0), (0, .ref l0), (1, .ref l1)]) rfl ?_)
    refine xm_goto 2 dX7_hasRules_87 (by decide) ?_
    cases hf
    exact xm_sub [2, 3, 0] rfl (hC _ rfl)
  · cases hf
    exact xm_sub [] rfl (hE0 _ rfl)
def f_X7_hasRules_j70 (σ : xM) (l0 : Nat) (l1 : Nat) (l2 : Int32) : Option (Int32 ⊕ ((Unit ⊕ Unit) ⊕ (Nat × Nat × Int32))) :=
  f_X7_hasRules_j75 σ l0 l1 l2 (1 : Int32)
set_option maxHeartbeats 4000000 in
set_option maxRecDepth 20000 in
theorem L_X7_hasRules_j70 {G : xG} {π : Nat → Nat} {d C Z : Nat} {Q : xQ} (σ : xM) (l0 : Nat) (l1 : Nat) (l2 : Int32) {x : (Int32 ⊕ ((Unit ⊕ Unit) ⊕ (Nat × Nat × Int32)))} (hf : f_X7_hasRules_j70 σ l0 l1 l2 = some x) (hR : ∀ g, x = Sum.inl (g) → Q (.inl (some (.int g))) (σ) π) (hE0 : ∀ e : Unit, x = Sum.inr (Sum.inl (Sum.inl e)) → xMach G π J_X7_hasRules (d + 3) C Z 82 [] [] σ Q) (hE1 : ∀ e : Unit, x = Sum.inr (Sum.inl (Sum.inr e)) → xMach G π J_X7_hasRules (d + 3) C Z 90 [] [] σ Q) (hC : ∀ e : (Nat × Nat × Int32), x = Sum.inr (Sum.inr e) → xMach G π J_X7_hasRules (d + 3) C Z 2 [(0, .ref e.1), (1, .ref e.2.1), (2, .int e.2.2)] [] σ Q) : xMach G π J_X7_hasRules (d + 3) C Z 70 [(0, .ref l0), (1, .ref l1), (2, .int l2)] [] σ Q := by
  unfold f_X7_hasRules_j70 at hf
  refine xm_iconst dX7_hasRules_70 (v := 1) (by decide) ?_
  refine xm_goto 75 dX7_hasRules_71 (by decide) ?_
  exact xm_sub [0, 1, 2] rfl (L_X7_hasRules_j75 σ l0 l1 l2 (1 : Int32) hf hR hE0 hE1 hC)
def f_X7_hasRules_j74 (σ : xM) (l0 : Nat) (l1 : Nat) (l2 : Int32) : Option (Int32 ⊕ ((Unit ⊕ Unit) ⊕ (Nat × Nat × Int32))) :=
  f_X7_hasRules_j75 σ l0 l1 l2 (0 : Int32)
set_option maxHeartbeats 4000000 in
set_option maxRecDepth 20000 in
theorem L_X7_hasRules_j74 {G : xG} {π : Nat → Nat} {d C Z : Nat} {Q : xQ} (σ : xM) (l0 : Nat) (l1 : Nat) (l2 : Int32) {x : (Int32 ⊕ ((Unit ⊕ Unit) ⊕ (Nat × Nat × Int32)))} (hf : f_X7_hasRules_j74 σ l0 l1 l2 = some x) (hR : ∀ g, x = Sum.inl (g) → Q (.inl (some (.int g))) (σ) π) (hE0 : ∀ e : Unit, x = Sum.inr (Sum.inl (Sum.inl e)) → xMach G π J_X7_hasRules (d + 3) C Z 82 [] [] σ Q) (hE1 : ∀ e : Unit, x = Sum.inr (Sum.inl (Sum.inr e)) → xMach G π J_X7_hasRules (d + 3) C Z 90 [] [] σ Q) (hC : ∀ e : (Nat × Nat × Int32), x = Sum.inr (Sum.inr e) → xMach G π J_X7_hasRules (d + 3) C Z 2 [(0, .ref e.1), (1, .ref e.2.1), (2, .int e.2.2)] [] σ Q) : xMach G π J_X7_hasRules (d + 3) C Z 74 [(0, .ref l0), (1, .ref l1), (2, .int l2)] [] σ Q := by
  unfold f_X7_hasRules_j74 at hf
  refine xm_iconst dX7_hasRules_74 (v := 0) (by decide) ?_
  exact xm_sub [0, 1, 2] rfl (L_X7_hasRules_j75 σ l0 l1 l2 (0 : Int32) hf hR hE0 hE1 hC)
def f_X7_hasRules_j51 (σ : xM) (l0 : Nat) (l1 : Nat) (l2 : Int32) (l3 : Int32) : Option (Int32 ⊕ ((Unit ⊕ Unit) ⊕ (Nat × Nat × Int32))) :=
  (if l3 = (5 : Int32) then (gR σ l1 9 0).bind (fun x9 => (if xk σ l1 9 = true then (f_X9_child σ l1 l2 (1 : Int32)).bind (fun p10 => (aI σ x9 14 p10).bind (fun x11 => (if x11 = (0 : Int32) then f_X7_hasRules_j70 σ l0 l1 l2 else f_X7_hasRules_j74 σ l0 l1 l2))) else none)) else f_X7_hasRules_j74 σ l0 l1 l2)
set_option maxHeartbeats 4000000 in
set_option maxRecDepth 20000 in
theorem L_X7_hasRules_j51 {G : xG} {π : Nat → Nat} {d C Z : Nat} {Q : xQ} (σ : xM) (l0 : Nat) (l1 : Nat) (l2 : Int32) (l3 : Int32) {x : (Int32 ⊕ ((Unit ⊕ Unit) ⊕ (Nat × Nat × Int32)))} (hf : f_X7_hasRules_j51 σ l0 l1 l2 l3 = some x) (hR : ∀ g, x = Sum.inl (g) → Q (.inl (some (.int g))) (σ) π) (hE0 : ∀ e : Unit, x = Sum.inr (Sum.inl (Sum.inl e)) → xMach G π J_X7_hasRules (d + 3) C Z 82 [] [] σ Q) (hE1 : ∀ e : Unit, x = Sum.inr (Sum.inl (Sum.inr e)) → xMach G π J_X7_hasRules (d + 3) C Z 90 [] [] σ Q) (hC : ∀ e : (Nat × Nat × Int32), x = Sum.inr (Sum.inr e) → xMach G π J_X7_hasRules (d + 3) C Z 2 [(0, .ref e.1), (1, .ref e.2.1), (2, .int e.2.2)] [] σ Q) : xMach G π J_X7_hasRules (d + 3) C Z 51 [(0, .ref l0), (1, .ref l1), (2, .int l2), (3, .int l3)] [] σ Q := by
  unfold f_X7_hasRules_j51 at hf
  refine xm_iload_n dX7_hasRules_51 rfl ?_
  refine xm_iconst dX7_hasRules_52 (v := 5) (by decide) ?_
  refine xb_icmp_ne 74 dX7_hasRules_53 (by decide) hf (fun c hf => ?_) (fun c hf => ?_)
  · exact xm_sub [0, 1, 2] rfl (L_X7_hasRules_j74 σ l0 l1 l2 hf hR hE0 hE1 hC)
  · refine xm_aload_n dX7_hasRules_56 rfl ?_
    refine xb_getR (a := l1) (c := 9) (k := 0) dX7_hasRules_57 xcl9 (by decide) xw_192 rfl hf (fun x9 ex9 hf => ?_)
    refine xm_aload_n dX7_hasRules_60 rfl ?_
    refine xm_iload_n dX7_hasRules_61 rfl ?_
    refine xm_iconst dX7_hasRules_62 (v := 1) (by decide) ?_
    refine xb_if hf (fun hb hf => ?_) (fun _ q => nomatch q)
    obtain ⟨p10, ep10, hf⟩ := xbind hf
    refine xb_callV (As := [.int l2, .int (1 : Int32)]) (v0 := (some (.int p10))) (τ0 := σ) dX7_hasRules_63 (xc_X9_child _ _) xcl9 xw_1378 xw_1018 xw_1019 hb rfl (Nat.le_of_ble_eq_true rfl) rfl (Nat.le_of_ble_eq_true rfl) (fun Q1 hq => m_X9_child (d := d + 1) ep10 (fun g hg => by subst hg; exact hq)) ?_
    refine xb_iald dX7_hasRules_66 hf (fun x11 ex11 hf => ?_)
    refine xb_if_ne 74 dX7_hasRules_67 (by decide) hf (fun c hf => ?_) (fun c hf => ?_)
    · exact xm_sub [0, 1, 2] rfl (L_X7_hasRules_j74 σ l0 l1 l2 hf hR hE0 hE1 hC)
    · exact xm_sub [0, 1, 2] rfl (L_X7_hasRules_j70 σ l0 l1 l2 hf hR hE0 hE1 hC)
def f_X7_hasRules_s2 (σ : xM) (s : (Nat × Nat × Int32)) : Option (Int32 ⊕ ((Unit ⊕ Unit) ⊕ (Nat × Nat × Int32))) :=
  xlet s.1 (fun l0 => xlet s.2.1 (fun l1 => xlet s.2.2 (fun l2 => (gI σ l1 9 7).bind (fun x2 => (if x2 ≤ l2 then some (Sum.inr (Sum.inl (Sum.inr ()))) else (if xk σ l0 7 = true then (f_X7_meaningOf σ l0 l1 l2).bind (fun p3 => (gR σ l1 9 0).bind (fun x4 => (aI σ x4 14 l2).bind (fun x5 => (if x5 = (0 : Int32) then f_X7_hasRules_j70 σ l0 l1 l2 else (gR σ l1 9 0).bind (fun x7 => (aI σ x7 14 l2).bind (fun x8 => (if x8 = (1 : Int32) then f_X7_hasRules_j70 σ l0 l1 l2 else (if p3 = (11 : Int32) then f_X7_hasRules_j70 σ l0 l1 l2 else (if p3 < (0 : Int32) then f_X7_hasRules_j51 σ l0 l1 l2 p3 else (if p3 ≤ (3 : Int32) then f_X7_hasRules_j70 σ l0 l1 l2 else f_X7_hasRules_j51 σ l0 l1 l2 p3)))))))))) else none))))))
set_option maxHeartbeats 4000000 in
set_option maxRecDepth 20000 in
theorem L_X7_hasRules_s2 {G : xG} {π : Nat → Nat} {d C Z : Nat} {Q : xQ} (σ : xM) (l0 : Nat) (l1 : Nat) (l2 : Int32) {x : (Int32 ⊕ ((Unit ⊕ Unit) ⊕ (Nat × Nat × Int32)))} (hf : f_X7_hasRules_s2 σ (l0, l1, l2) = some x) (hR : ∀ g, x = Sum.inl (g) → Q (.inl (some (.int g))) (σ) π) (hE0 : ∀ e : Unit, x = Sum.inr (Sum.inl (Sum.inl e)) → xMach G π J_X7_hasRules (d + 3) C Z 82 [] [] σ Q) (hE1 : ∀ e : Unit, x = Sum.inr (Sum.inl (Sum.inr e)) → xMach G π J_X7_hasRules (d + 3) C Z 90 [] [] σ Q) (hC : ∀ e : (Nat × Nat × Int32), x = Sum.inr (Sum.inr e) → xMach G π J_X7_hasRules (d + 3) C Z 2 [(0, .ref e.1), (1, .ref e.2.1), (2, .int e.2.2)] [] σ Q) : xMach G π J_X7_hasRules (d + 3) C Z 2 [(0, .ref l0), (1, .ref l1), (2, .int l2)] [] σ Q := by
  have hf : (gI σ l1 9 7).bind (fun x2 => (if x2 ≤ l2 then some (Sum.inr (Sum.inl (Sum.inr ()))) else (if xk σ l0 7 = true then (f_X7_meaningOf σ l0 l1 l2).bind (fun p3 => (gR σ l1 9 0).bind (fun x4 => (aI σ x4 14 l2).bind (fun x5 => (if x5 = (0 : Int32) then f_X7_hasRules_j70 σ l0 l1 l2 else (gR σ l1 9 0).bind (fun x7 => (aI σ x7 14 l2).bind (fun x8 => (if x8 = (1 : Int32) then f_X7_hasRules_j70 σ l0 l1 l2 else (if p3 = (11 : Int32) then f_X7_hasRules_j70 σ l0 l1 l2 else (if p3 < (0 : Int32) then f_X7_hasRules_j51 σ l0 l1 l2 p3 else (if p3 ≤ (3 : Int32) then f_X7_hasRules_j70 σ l0 l1 l2 else f_X7_hasRules_j51 σ l0 l1 l2 p3)))))))))) else none))) = some x := hf
  refine xm_iload_n dX7_hasRules_2 rfl ?_
  refine xm_aload_n dX7_hasRules_3 rfl ?_
  refine xb_getI (a := l1) (c := 9) (k := 7) dX7_hasRules_4 xcl9 (by decide) xw_219 rfl hf (fun x2 ex2 hf => ?_)
  refine xb_icmp_ge 90 dX7_hasRules_7 (by decide) hf (fun c hf => ?_) (fun c hf => ?_)
  · cases hf
    exact xm_sub [] rfl (hE1 _ rfl)
  · refine xm_aload_n dX7_hasRules_10 rfl ?_
    refine xm_aload_n dX7_hasRules_11 rfl ?_
    refine xm_iload_n dX7_hasRules_12 rfl ?_
    refine xb_if hf (fun hb hf => ?_) (fun _ q => nomatch q)
    obtain ⟨p3, ep3, hf⟩ := xbind hf
    refine xb_callV (As := [.ref l1, .int l2]) (v0 := (some (.int p3))) (τ0 := σ) dX7_hasRules_13 (xc_X7_meaningOf _ _) xcl7 xw_1373 xw_1375 xs_56 hb rfl (Nat.le_of_ble_eq_true rfl) rfl (Nat.le_of_ble_eq_true rfl) (fun Q1 hq => m_X7_meaningOf (d := d + 0) ep3 (fun g hg => by subst hg; exact hq)) ?_
    refine xm_istore_n dX7_hasRules_16 (by decide) (xm_stL (L' := [(3, .int p3), (0, .ref l0), (1, .ref l1), (2, .int l2)]) rfl ?_)
    refine xm_aload_n dX7_hasRules_17 rfl ?_
    refine xb_getR (a := l1) (c := 9) (k := 0) dX7_hasRules_18 xcl9 (by decide) xw_192 rfl hf (fun x4 ex4 hf => ?_)
    refine xm_iload_n dX7_hasRules_21 rfl ?_
    refine xb_iald dX7_hasRules_22 hf (fun x5 ex5 hf => ?_)
    refine xb_if_eq 70 dX7_hasRules_23 (by decide) hf (fun c hf => ?_) (fun c hf => ?_)
    · exact xm_sub [1, 2, 3] rfl (L_X7_hasRules_j70 σ l0 l1 l2 hf hR hE0 hE1 hC)
    · refine xm_aload_n dX7_hasRules_26 rfl ?_
      refine xb_getR (a := l1) (c := 9) (k := 0) dX7_hasRules_27 xcl9 (by decide) xw_192 rfl hf (fun x7 ex7 hf => ?_)
      refine xm_iload_n dX7_hasRules_30 rfl ?_
      refine xb_iald dX7_hasRules_31 hf (fun x8 ex8 hf => ?_)
      refine xm_iconst dX7_hasRules_32 (v := 1) (by decide) ?_
      refine xb_icmp_eq 70 dX7_hasRules_33 (by decide) hf (fun c hf => ?_) (fun c hf => ?_)
      · exact xm_sub [1, 2, 3] rfl (L_X7_hasRules_j70 σ l0 l1 l2 hf hR hE0 hE1 hC)
      · refine xm_iload_n dX7_hasRules_36 rfl ?_
        refine xm_bipush dX7_hasRules_37 (v := 11) (by decide) ?_
        refine xb_icmp_eq 70 dX7_hasRules_39 (by decide) hf (fun c hf => ?_) (fun c hf => ?_)
        · exact xm_sub [1, 2, 3] rfl (L_X7_hasRules_j70 σ l0 l1 l2 hf hR hE0 hE1 hC)
        · refine xm_iload_n dX7_hasRules_42 rfl ?_
          refine xb_if_lt 51 dX7_hasRules_43 (by decide) hf (fun c hf => ?_) (fun c hf => ?_)
          · exact xm_sub [1, 2, 3, 0] rfl (L_X7_hasRules_j51 σ l0 l1 l2 p3 hf hR hE0 hE1 hC)
          · refine xm_iload_n dX7_hasRules_46 rfl ?_
            refine xm_iconst dX7_hasRules_47 (v := 3) (by decide) ?_
            refine xb_icmp_le 70 dX7_hasRules_48 (by decide) hf (fun c hf => ?_) (fun c hf => ?_)
            · exact xm_sub [1, 2, 3] rfl (L_X7_hasRules_j70 σ l0 l1 l2 hf hR hE0 hE1 hC)
            · exact xm_sub [1, 2, 3, 0] rfl (L_X7_hasRules_j51 σ l0 l1 l2 p3 hf hR hE0 hE1 hC)
theorem L_X7_hasRules_l2 {G : xG} {π : Nat → Nat} {d C Z : Nat} {Q : xQ} (σ : xM) {s0 : (Nat × Nat × Int32)} {x : (Int32 ⊕ (Unit ⊕ Unit))} (h1 : xloop (f_X7_hasRules_s2 σ) xF s0 = some x) (hR : ∀ g, x = Sum.inl g → Q (.inl (some (.int g))) (σ) π) (hE0 : ∀ e : Unit, x = Sum.inr (Sum.inl e) → xMach G π J_X7_hasRules (d + 3) C Z 82 [] [] σ Q) (hE1 : ∀ e : Unit, x = Sum.inr (Sum.inr e) → xMach G π J_X7_hasRules (d + 3) C Z 90 [] [] σ Q) : xMach G π J_X7_hasRules (d + 3) C Z 2 [(0, .ref s0.1), (1, .ref s0.2.1), (2, .int s0.2.2)] [] σ Q := by
  refine xloop_run (M := (fun s : (Nat × Nat × Int32) => xMach G π J_X7_hasRules (d + 3) C Z 2 [(0, .ref s.1), (1, .ref s.2.1), (2, .int s.2.2)] [] σ Q)) (r := x) ?_ xF _ h1
  intro s y hs hx
  exact L_X7_hasRules_s2 σ s.1 s.2.1 s.2.2 (x := y) hs (fun g hg => by subst hg; exact hR g hx) (fun e he => by subst he; exact hE0 e hx) (fun e he => by subst he; exact hE1 e hx) (fun e he => by subst he; exact hx)
def f_X7_hasRules_j82 (σ : xM)  : Option Int32 :=
  some (0 : Int32)
set_option maxHeartbeats 4000000 in
set_option maxRecDepth 20000 in
theorem L_X7_hasRules_j82 {G : xG} {π : Nat → Nat} {d C Z : Nat} {Q : xQ} (σ : xM)  {x : Int32} (hf : f_X7_hasRules_j82 σ = some x) (hR : ∀ g, x = g → Q (.inl (some (.int g))) (σ) π) : xMach G π J_X7_hasRules (d + 3) C Z 82 [] [] σ Q := by
  unfold f_X7_hasRules_j82 at hf
  refine xm_iconst dX7_hasRules_82 (v := 0) (by decide) ?_
  cases hf
  exact xm_zret dX7_hasRules_83 rfl rfl (hR _ rfl)
def f_X7_hasRules_j90 (σ : xM)  : Option Int32 :=
  some (1 : Int32)
set_option maxHeartbeats 4000000 in
set_option maxRecDepth 20000 in
theorem L_X7_hasRules_j90 {G : xG} {π : Nat → Nat} {d C Z : Nat} {Q : xQ} (σ : xM)  {x : Int32} (hf : f_X7_hasRules_j90 σ = some x) (hR : ∀ g, x = g → Q (.inl (some (.int g))) (σ) π) : xMach G π J_X7_hasRules (d + 3) C Z 90 [] [] σ Q := by
  unfold f_X7_hasRules_j90 at hf
  refine xm_iconst dX7_hasRules_90 (v := 1) (by decide) ?_
  cases hf
  exact xm_zret dX7_hasRules_91 rfl rfl (hR _ rfl)
def f_X7_hasRules (σ : xM) (l0 : Nat) (l1 : Nat) : Option Int32 :=
  xlet (0 : Int32) (fun v1 => (xloop (f_X7_hasRules_s2 σ ) xF (l0, l1, v1)).bind (Sum.elim (fun g => some g) (Sum.elim (fun e => f_X7_hasRules_j82 σ) (fun e => f_X7_hasRules_j90 σ))))
set_option maxHeartbeats 4000000 in
set_option maxRecDepth 20000 in
theorem m_X7_hasRules {G : xG} {π : Nat → Nat} {d C Z : Nat} {Q : xQ} {σ : xM} {l0 : Nat} {l1 : Nat} {x : Int32} (hf : f_X7_hasRules σ l0 l1 = some x) (hR : ∀ g, x = g → Q (.inl (some (.int g))) (σ) π) : xMach G π J_X7_hasRules (d + 3) C Z 0 (lv_args 0 [.ref l0, .ref l1]) [] σ Q := by
  unfold f_X7_hasRules at hf
  refine xm_stL (L' := [(0, .ref l0), (1, .ref l1)]) rfl ?_
  refine xm_iconst dX7_hasRules_0 (v := 0) (by decide) ?_
  refine xb_topi hf (fun v1 ev1 hf => ?_)
  refine xm_istore_n dX7_hasRules_1 (by decide) (xm_stL (L' := [(2, .int v1), (0, .ref l0), (1, .ref l1)]) rfl ?_)
  obtain ⟨o, h1, hf⟩ := xbind hf
  refine xm_sub [1, 2, 0] rfl (L_X7_hasRules_l2 σ h1 (fun g hg => ?_) (fun e he => ?_) (fun e he => ?_))
  · subst hg
    cases hf
    exact hR _ rfl
  · subst he
    rw [Sum.elim_inr, Sum.elim_inl] at hf
    have hf : f_X7_hasRules_j82 σ = some _ := hf
    exact xm_sub [] rfl (L_X7_hasRules_j82 σ hf hR)
  · subst he
    rw [Sum.elim_inr, Sum.elim_inr] at hf
    have hf : f_X7_hasRules_j90 σ = some _ := hf
    exact xm_sub [] rfl (L_X7_hasRules_j90 σ hf hR)
-- Rankwise$Rewriter.addNumber(I)Z
def f_X7_addNumber (σ : xM) (l0 : Nat) (l1 : Int32) : Option (Int32 × xM) :=
  (gR σ l0 7 2).bind (fun x1 => (if xk σ x1 9 = true then (f_X9_add σ x1 (0 : Int32) l1 (-1 : Int32) (0 : Int32)).bind (fun p2 => (xz p2.1).bind (fun b3 => some (b3, p2.2))) else none))
set_option maxHeartbeats 4000000 in
set_option maxRecDepth 20000 in
theorem m_X7_addNumber {G : xG} {π : Nat → Nat} {d C Z : Nat} {Q : xQ} {σ : xM} {l0 : Nat} {l1 : Int32} {x : (Int32 × xM)} (hf : f_X7_addNumber σ l0 l1 = some x) (hR : ∀ g, x = g → Q (.inl (some (.int g.1))) (g.2) π) : xMach G π J_X7_addNumber (d + 1) C Z 0 (lv_args 0 [.ref l0, .int l1]) [] σ Q := by
  unfold f_X7_addNumber at hf
  refine xm_stL (L' := [(0, .ref l0), (1, .int l1)]) rfl ?_
  refine xm_aload_n dX7_addNumber_0 rfl ?_
  refine xb_getR (a := l0) (c := 7) (k := 2) dX7_addNumber_1 xcl7 (by decide) xw_523 rfl hf (fun x1 ex1 hf => ?_)
  refine xm_iconst dX7_addNumber_4 (v := 0) (by decide) ?_
  refine xm_iload_n dX7_addNumber_5 rfl ?_
  refine xm_iconst dX7_addNumber_6 (v := -1) (by decide) ?_
  refine xm_iconst dX7_addNumber_7 (v := 0) (by decide) ?_
  refine xb_if hf (fun hb hf => ?_) (fun _ q => nomatch q)
  obtain ⟨p2, ep2, hf⟩ := xbind hf
  refine xb_callV (As := [.int (0 : Int32), .int l1, .int (-1 : Int32), .int (0 : Int32)]) (v0 := (some (.int p2.1))) (τ0 := p2.2) dX7_addNumber_8 (xc_X9_add _ _) xcl9 xw_1441 xw_764 xw_765 hb rfl (Nat.le_of_ble_eq_true rfl) rfl (Nat.le_of_ble_eq_true rfl) (fun Q1 hq => m_X9_add (d := d + 0) ep2 (fun g hg => by subst hg; exact hq)) ?_
  obtain ⟨b3, eb3, hf⟩ := xbind hf
  obtain ⟨rfl, hz⟩ := xz_of eb3
  cases hf
  exact xm_zret dX7_addNumber_11 rfl hz (hR _ rfl)
-- Rankwise$Rewriter.addWanted(ILRankwise$Tree;I)Z
def f_X7_addWanted_j56 (σ : xM) (s0 : Int32) : Option (Int32 × xM) :=
  (xz s0).bind (fun b4 => some (b4, σ))
set_option maxHeartbeats 4000000 in
set_option maxRecDepth 20000 in
theorem L_X7_addWanted_j56 {G : xG} {π : Nat → Nat} {d C Z : Nat} {Q : xQ} (σ : xM) (s0 : Int32) {x : (Int32 × xM)} (hf : f_X7_addWanted_j56 σ s0 = some x) (hR : ∀ g, x = g → Q (.inl (some (.int g.1))) (g.2) π) : xMach G π J_X7_addWanted (d + 5) C Z 56 [] [.int s0] σ Q := by
  unfold f_X7_addWanted_j56 at hf
  obtain ⟨b4, eb4, hf⟩ := xbind hf
  obtain ⟨rfl, hz⟩ := xz_of eb4
  cases hf
  exact xm_zret dX7_addWanted_56 rfl hz (hR _ rfl)
def f_X7_addWanted_j55 (σ : xM)  : Option (Int32 × xM) :=
  f_X7_addWanted_j56 σ (0 : Int32)
set_option maxHeartbeats 4000000 in
set_option maxRecDepth 20000 in
theorem L_X7_addWanted_j55 {G : xG} {π : Nat → Nat} {d C Z : Nat} {Q : xQ} (σ : xM)  {x : (Int32 × xM)} (hf : f_X7_addWanted_j55 σ = some x) (hR : ∀ g, x = g → Q (.inl (some (.int g.1))) (g.2) π) : xMach G π J_X7_addWanted (d + 5) C Z 55 [] [] σ Q := by
  unfold f_X7_addWanted_j55 at hf
  refine xm_iconst dX7_addWanted_55 (v := 0) (by decide) ?_
  exact xm_sub [] rfl (L_X7_addWanted_j56 σ (0 : Int32) hf hR)
def f_X7_addWanted (σ : xM) (l0 : Nat) (l1 : Int32) (l2 : Nat) (l3 : Int32) : Option (Int32 × xM) :=
  (if xk σ l0 7 = true then (f_X7_meaningOf σ l0 l2 l3).bind (fun p1 => (if p1 = l1 then (gR σ l0 7 2).bind (fun x7 => (if xk σ x7 9 = true then (f_X9_addNode σ x7 l2 l3).bind (fun p8 => (xz p8.1).bind (fun b9 => some (b9, p8.2))) else none)) else (gR σ l0 7 0).bind (fun x2 => (if xk σ x2 1 = true then (f_X1_leastWith σ x2 l1).bind (fun p3 => (if p3 = (-1 : Int32) then f_X7_addWanted_j55 σ else (gR σ l0 7 2).bind (fun x5 => (if xk σ x5 9 = true then (f_X9_add σ x5 (3 : Int32) p3 (2 : Int32) (2 : Int32)).bind (fun p6 => (if p6.1 = (0 : Int32) then f_X7_addWanted_j55 p6.2 else f_X7_addWanted_j56 p6.2 (1 : Int32))) else none)))) else none)))) else none)
set_option maxHeartbeats 4000000 in
set_option maxRecDepth 20000 in
theorem m_X7_addWanted {G : xG} {π : Nat → Nat} {d C Z : Nat} {Q : xQ} {σ : xM} {l0 : Nat} {l1 : Int32} {l2 : Nat} {l3 : Int32} {x : (Int32 × xM)} (hf : f_X7_addWanted σ l0 l1 l2 l3 = some x) (hR : ∀ g, x = g → Q (.inl (some (.int g.1))) (g.2) π) : xMach G π J_X7_addWanted (d + 5) C Z 0 (lv_args 0 [.ref l0, .int l1, .ref l2, .int l3]) [] σ Q := by
  unfold f_X7_addWanted at hf
  refine xm_stL (L' := [(0, .ref l0), (1, .int l1), (2, .ref l2), (3, .int l3)]) rfl ?_
  refine xm_aload_n dX7_addWanted_0 rfl ?_
  refine xm_aload_n dX7_addWanted_1 rfl ?_
  refine xm_iload_n dX7_addWanted_2 rfl ?_
  refine xb_if hf (fun hb hf => ?_) (fun _ q => nomatch q)
  obtain ⟨p1, ep1, hf⟩ := xbind hf
  refine xb_callV (As := [.ref l2, .int l3]) (v0 := (some (.int p1))) (τ0 := σ) dX7_addWanted_3 (xc_X7_meaningOf _ _) xcl7 xw_1373 xw_1375 xs_56 hb rfl (Nat.le_of_ble_eq_true rfl) rfl (Nat.le_of_ble_eq_true rfl) (fun Q1 hq => m_X7_meaningOf (d := d + 2) ep1 (fun g hg => by subst hg; exact hq)) ?_
  refine xm_iload_n dX7_addWanted_6 rfl ?_
  refine xb_icmp_ne 20 dX7_addWanted_7 (by decide) hf (fun c hf => ?_) (fun c hf => ?_)
  · refine xm_aload_n dX7_addWanted_20 rfl ?_
    refine xb_getR (a := l0) (c := 7) (k := 0) dX7_addWanted_21 xcl7 (by decide) xw_520 rfl hf (fun x2 ex2 hf => ?_)
    refine xm_iload_n dX7_addWanted_24 rfl ?_
    refine xb_if hf (fun hb hf => ?_) (fun _ q => nomatch q)
    obtain ⟨p3, ep3, hf⟩ := xbind hf
    refine xb_callV (As := [.int l1]) (v0 := (some (.int p3))) (τ0 := σ) dX7_addWanted_25 (xc_X1_leastWith _ _) xcl1 xw_1447 xw_1448 xw_1449 hb rfl (Nat.le_of_ble_eq_true rfl) rfl (Nat.le_of_ble_eq_true rfl) (fun Q1 hq => m_X1_leastWith (d := d + 0) ep3 (fun g hg => by subst hg; exact hq)) ?_
    refine xm_istore dX7_addWanted_28 (by decide) (xm_stL (L' := [(4, .int p3), (0, .ref l0), (1, .int l1), (2, .ref l2), (3, .int l3)]) rfl ?_)
    refine xm_iload dX7_addWanted_30 rfl ?_
    refine xm_iconst dX7_addWanted_32 (v := -1) (by decide) ?_
    refine xb_icmp_eq 55 dX7_addWanted_33 (by decide) hf (fun c hf => ?_) (fun c hf => ?_)
    · exact xm_sub [] rfl (L_X7_addWanted_j55 σ hf hR)
    · refine xm_aload_n dX7_addWanted_36 rfl ?_
      refine xb_getR (a := l0) (c := 7) (k := 2) dX7_addWanted_37 xcl7 (by decide) xw_523 rfl hf (fun x5 ex5 hf => ?_)
      refine xm_iconst dX7_addWanted_40 (v := 3) (by decide) ?_
      refine xm_iload dX7_addWanted_41 rfl ?_
      refine xm_iconst dX7_addWanted_43 (v := 2) (by decide) ?_
      refine xm_iconst dX7_addWanted_44 (v := 2) (by decide) ?_
      refine xb_if hf (fun hb hf => ?_) (fun _ q => nomatch q)
      obtain ⟨p6, ep6, hf⟩ := xbind hf
      refine xb_callV (As := [.int (3 : Int32), .int p3, .int (2 : Int32), .int (2 : Int32)]) (v0 := (some (.int p6.1))) (τ0 := p6.2) dX7_addWanted_45 (xc_X9_add _ _) xcl9 xw_1441 xw_764 xw_765 hb rfl (Nat.le_of_ble_eq_true rfl) rfl (Nat.le_of_ble_eq_true rfl) (fun Q1 hq => m_X9_add (d := d + 4) ep6 (fun g hg => by subst hg; exact hq)) ?_
      refine xb_if_eq 55 dX7_addWanted_48 (by decide) hf (fun c hf => ?_) (fun c hf => ?_)
      · exact xm_sub [] rfl (L_X7_addWanted_j55 p6.2 hf hR)
      · refine xm_iconst dX7_addWanted_51 (v := 1) (by decide) ?_
        refine xm_goto 56 dX7_addWanted_52 (by decide) ?_
        exact xm_sub [] rfl (L_X7_addWanted_j56 p6.2 (1 : Int32) hf hR)
  · refine xm_aload_n dX7_addWanted_10 rfl ?_
    refine xb_getR (a := l0) (c := 7) (k := 2) dX7_addWanted_11 xcl7 (by decide) xw_523 rfl hf (fun x7 ex7 hf => ?_)
    refine xm_aload_n dX7_addWanted_14 rfl ?_
    refine xm_iload_n dX7_addWanted_15 rfl ?_
    refine xb_if hf (fun hb hf => ?_) (fun _ q => nomatch q)
    obtain ⟨p8, ep8, hf⟩ := xbind hf
    refine xb_callV (As := [.ref l2, .int l3]) (v0 := (some (.int p8.1))) (τ0 := p8.2) dX7_addWanted_16 (xc_X9_addNode _ _) xcl9 xw_1442 xw_834 xw_835 hb rfl (Nat.le_of_ble_eq_true rfl) rfl (Nat.le_of_ble_eq_true rfl) (fun Q1 hq => m_X9_addNode (d := d + 3) ep8 (fun g hg => by subst hg; exact hq)) ?_
    obtain ⟨b9, eb9, hf⟩ := xbind hf
    obtain ⟨rfl, hz⟩ := xz_of eb9
    cases hf
    exact xm_zret dX7_addWanted_19 rfl hz (hR _ rfl)
-- Rankwise$Rewriter.addDerivative(LRankwise$Tree;III)Z
def f_X7_addDerivative_j50 (R : xM → Nat → Nat → Int32 → Int32 → Int32 → Option (Int32 × xM)) (σ : xM) (s0 : Int32) (s1 : Nat) : Option (Int32 × xM) :=
  (if xk σ s1 7 = true then (f_X7_addNumber σ s1 s0).bind (fun p3 => (xz p3.1).bind (fun b4 => some (b4, p3.2))) else none)
set_option maxHeartbeats 4000000 in
set_option maxRecDepth 20000 in
theorem L_X7_addDerivative_j50 {G : xG} {π : Nat → Nat} {d C Z : Nat} {Q : xQ} {R : xM → Nat → Nat → Int32 → Int32 → Int32 → Option (Int32 × xM)} (hrec : ∀ (e C Z : Nat) (Q : xQ) (σ : xM) (l0 : Nat) (l1 : Nat) (l2 : Int32) (l3 : Int32) (l4 : Int32) (x : (Int32 × xM)), R σ l0 l1 l2 l3 l4 = some x → (∀ g, x = g → Q (.inl (some (.int g.1))) (g.2) π) → xMach G π J_X7_addDerivative ((d + e) + 5) C Z 0 (lv_args 0 [.ref l0, .ref l1, .int l2, .int l3, .int l4]) [] σ Q) (σ : xM) (s0 : Int32) (s1 : Nat) {x : (Int32 × xM)} (hf : f_X7_addDerivative_j50 R σ s0 s1 = some x) (hR : ∀ g, x = g → Q (.inl (some (.int g.1))) (g.2) π) : xMach G π J_X7_addDerivative (d + 6) C Z 50 [] [.int s0, .ref s1] σ Q := by
  unfold f_X7_addDerivative_j50 at hf
  refine xb_if hf (fun hb hf => ?_) (fun _ q => nomatch q)
  obtain ⟨p3, ep3, hf⟩ := xbind hf
  refine xb_callV (As := [.int s0]) (v0 := (some (.int p3.1))) (τ0 := p3.2) dX7_addDerivative_50 (xc_X7_addNumber _ _) xcl7 xw_1437 xw_1439 xs_62 hb rfl (Nat.le_of_ble_eq_true rfl) rfl (Nat.le_of_ble_eq_true rfl) (fun Q1 hq => m_X7_addNumber (d := d + 4) ep3 (fun g hg => by subst hg; exact hq)) ?_
  obtain ⟨b4, eb4, hf⟩ := xbind hf
  obtain ⟨rfl, hz⟩ := xz_of eb4
  cases hf
  exact xm_zret dX7_addDerivative_53 rfl hz (hR _ rfl)
def f_X7_addDerivative_j49 (R : xM → Nat → Nat → Int32 → Int32 → Int32 → Option (Int32 × xM)) (σ : xM) (s0 : Nat) : Option (Int32 × xM) :=
  f_X7_addDerivative_j50 R σ (0 : Int32) s0
set_option maxHeartbeats 4000000 in
set_option maxRecDepth 20000 in
theorem L_X7_addDerivative_j49 {G : xG} {π : Nat → Nat} {d C Z : Nat} {Q : xQ} {R : xM → Nat → Nat → Int32 → Int32 → Int32 → Option (Int32 × xM)} (hrec : ∀ (e C Z : Nat) (Q : xQ) (σ : xM) (l0 : Nat) (l1 : Nat) (l2 : Int32) (l3 : Int32) (l4 : Int32) (x : (Int32 × xM)), R σ l0 l1 l2 l3 l4 = some x → (∀ g, x = g → Q (.inl (some (.int g.1))) (g.2) π) → xMach G π J_X7_addDerivative ((d + e) + 5) C Z 0 (lv_args 0 [.ref l0, .ref l1, .int l2, .int l3, .int l4]) [] σ Q) (σ : xM) (s0 : Nat) {x : (Int32 × xM)} (hf : f_X7_addDerivative_j49 R σ s0 = some x) (hR : ∀ g, x = g → Q (.inl (some (.int g.1))) (g.2) π) : xMach G π J_X7_addDerivative (d + 6) C Z 49 [] [.ref s0] σ Q := by
  unfold f_X7_addDerivative_j49 at hf
  refine xm_iconst dX7_addDerivative_49 (v := 0) (by decide) ?_
  exact xm_sub [] rfl (L_X7_addDerivative_j50 hrec σ (0 : Int32) s0 hf hR)
def f_X7_addDerivative_j28 (R : xM → Nat → Nat → Int32 → Int32 → Int32 → Option (Int32 × xM)) (σ : xM) (l0 : Nat) (l1 : Nat) (l2 : Int32) (l3 : Int32) (l5 : Int32) : Option (Int32 × xM) :=
  (if l5 = (1 : Int32) then (gR σ l1 9 1).bind (fun x5 => (aI σ x5 14 l2).bind (fun x6 => (if x6 = l3 then f_X7_addDerivative_j50 R σ (1 : Int32) l0 else f_X7_addDerivative_j49 R σ l0))) else f_X7_addDerivative_j49 R σ l0)
set_option maxHeartbeats 4000000 in
set_option maxRecDepth 20000 in
theorem L_X7_addDerivative_j28 {G : xG} {π : Nat → Nat} {d C Z : Nat} {Q : xQ} {R : xM → Nat → Nat → Int32 → Int32 → Int32 → Option (Int32 × xM)} (hrec : ∀ (e C Z : Nat) (Q : xQ) (σ : xM) (l0 : Nat) (l1 : Nat) (l2 : Int32) (l3 : Int32) (l4 : Int32) (x : (Int32 × xM)), R σ l0 l1 l2 l3 l4 = some x → (∀ g, x = g → Q (.inl (some (.int g.1))) (g.2) π) → xMach G π J_X7_addDerivative ((d + e) + 5) C Z 0 (lv_args 0 [.ref l0, .ref l1, .int l2, .int l3, .int l4]) [] σ Q) (σ : xM) (l0 : Nat) (l1 : Nat) (l2 : Int32) (l3 : Int32) (l5 : Int32) {x : (Int32 × xM)} (hf : f_X7_addDerivative_j28 R σ l0 l1 l2 l3 l5 = some x) (hR : ∀ g, x = g → Q (.inl (some (.int g.1))) (g.2) π) : xMach G π J_X7_addDerivative (d + 6) C Z 28 [(0, .ref l0), (1, .ref l1), (2, .int l2), (3, .int l3), (5, .int l5)] [] σ Q := by
  unfold f_X7_addDerivative_j28 at hf
  refine xm_aload_n dX7_addDerivative_28 rfl ?_
  refine xm_iload dX7_addDerivative_29 rfl ?_
  refine xm_iconst dX7_addDerivative_31 (v := 1) (by decide) ?_
  refine xb_icmp_ne 49 dX7_addDerivative_32 (by decide) hf (fun c hf => ?_) (fun c hf => ?_)
  · exact xm_sub [] rfl (L_X7_addDerivative_j49 hrec σ l0 hf hR)
  · refine xm_aload_n dX7_addDerivative_35 rfl ?_
    refine xb_getR (a := l1) (c := 9) (k := 1) dX7_addDerivative_36 xcl9 (by decide) xw_198 rfl hf (fun x5 ex5 hf => ?_)
    refine xm_iload_n dX7_addDerivative_39 rfl ?_
    refine xb_iald dX7_addDerivative_40 hf (fun x6 ex6 hf => ?_)
    refine xm_iload_n dX7_addDerivative_41 rfl ?_
    refine xb_icmp_ne 49 dX7_addDerivative_42 (by decide) hf (fun c hf => ?_) (fun c hf => ?_)
    · exact xm_sub [] rfl (L_X7_addDerivative_j49 hrec σ l0 hf hR)
    · refine xm_iconst dX7_addDerivative_45 (v := 1) (by decide) ?_
      refine xm_goto 50 dX7_addDerivative_46 (by decide) ?_
      exact xm_sub [] rfl (L_X7_addDerivative_j50 hrec σ (1 : Int32) l0 hf hR)
def f_X7_addDerivative_j497 (R : xM → Nat → Nat → Int32 → Int32 → Int32 → Option (Int32 × xM)) (σ : xM) (s0 : Int32) : Option (Int32 × xM) :=
  (xz s0).bind (fun b13 => some (b13, σ))
set_option maxHeartbeats 4000000 in
set_option maxRecDepth 20000 in
theorem L_X7_addDerivative_j497 {G : xG} {π : Nat → Nat} {d C Z : Nat} {Q : xQ} {R : xM → Nat → Nat → Int32 → Int32 → Int32 → Option (Int32 × xM)} (hrec : ∀ (e C Z : Nat) (Q : xQ) (σ : xM) (l0 : Nat) (l1 : Nat) (l2 : Int32) (l3 : Int32) (l4 : Int32) (x : (Int32 × xM)), R σ l0 l1 l2 l3 l4 = some x → (∀ g, x = g → Q (.inl (some (.int g.1))) (g.2) π) → xMach G π J_X7_addDerivative ((d + e) + 5) C Z 0 (lv_args 0 [.ref l0, .ref l1, .int l2, .int l3, .int l4]) [] σ Q) (σ : xM) (s0 : Int32) {x : (Int32 × xM)} (hf : f_X7_addDerivative_j497 R σ s0 = some x) (hR : ∀ g, x = g → Q (.inl (some (.int g.1))) (g.2) π) : xMach G π J_X7_addDerivative (d + 6) C Z 497 [] [.int s0] σ Q := by
  unfold f_X7_addDerivative_j497 at hf
  obtain ⟨b13, eb13, hf⟩ := xbind hf
  obtain ⟨rfl, hz⟩ := xz_of eb13
  cases hf
  exact xm_zret dX7_addDerivative_497 rfl hz (hR _ rfl)
def f_X7_addDerivative_j496 (R : xM → Nat → Nat → Int32 → Int32 → Int32 → Option (Int32 × xM)) (σ : xM)  : Option (Int32 × xM) :=
  f_X7_addDerivative_j497 R σ (0 : Int32)
set_option maxHeartbeats 4000000 in
set_option maxRecDepth 20000 in
theorem L_X7_addDerivative_j496 {G : xG} {π : Nat → Nat} {d C Z : Nat} {Q : xQ} {R : xM → Nat → Nat → Int32 → Int32 → Int32 → Option (Int32 × xM)} (hrec : ∀ (e C Z : Nat) (Q : xQ) (σ : xM) (l0 : Nat) (l1 : Nat) (l2 : Int32) (l3 : Int32) (l4 : Int32) (x : (Int32 × xM)), R σ l0 l1 l2 l3 l4 = some x → (∀ g, x = g → Q (.inl (some (.int g.1))) (g.2) π) → xMach G π J_X7_addDerivative ((d + e) + 5) C Z 0 (lv_args 0 [.ref l0, .ref l1, .int l2, .int l3, .int l4]) [] σ Q) (σ : xM)  {x : (Int32 × xM)} (hf : f_X7_addDerivative_j496 R σ = some x) (hR : ∀ g, x = g → Q (.inl (some (.int g.1))) (g.2) π) : xMach G π J_X7_addDerivative (d + 6) C Z 496 [] [] σ Q := by
  unfold f_X7_addDerivative_j496 at hf
  refine xm_iconst dX7_addDerivative_496 (v := 0) (by decide) ?_
  exact xm_sub [] rfl (L_X7_addDerivative_j497 hrec σ (0 : Int32) hf hR)
def f_X7_addDerivative_j392 (R : xM → Nat → Nat → Int32 → Int32 → Int32 → Option (Int32 × xM)) (σ : xM) (l0 : Nat) (l1 : Nat) (l2 : Int32) (l3 : Int32) (l4 : Int32) (l6 : Int32) (l7 : Int32) : Option (Int32 × xM) :=
  (gR σ l1 9 1).bind (fun x10 => (aI σ x10 14 l7).bind (fun x11 => (if x11 = (0 : Int32) then (if xk σ l0 7 = true then (f_X7_addNumber σ l0 (0 : Int32)).bind (fun p22 => (xz p22.1).bind (fun b23 => some (b23, p22.2))) else none) else (if xk σ l0 7 = true then (f_X7_addWanted σ l0 (2 : Int32) l1 l2).bind (fun p12 => (if p12.1 = (0 : Int32) then f_X7_addDerivative_j496 R p12.2 else (if xk p12.2 l0 7 = true then (f_X7_addWanted p12.2 l0 (2 : Int32) l1 l2).bind (fun p14 => (if p14.1 = (0 : Int32) then f_X7_addDerivative_j496 R p14.2 else (if xk p14.2 l0 7 = true then (f_X7_addNumber p14.2 l0 x11).bind (fun p15 => (if p15.1 = (0 : Int32) then f_X7_addDerivative_j496 R p15.2 else (gR p15.2 l0 7 2).bind (fun x16 => (if xk p15.2 x16 9 = true then (f_X9_addNode p15.2 x16 l1 l2).bind (fun p17 => (if p17.1 = (0 : Int32) then f_X7_addDerivative_j496 R p17.2 else (gR p17.2 l0 7 2).bind (fun x18 => (if xk p17.2 x18 9 = true then (f_X9_addPart p17.2 x18 l1 l6).bind (fun p19 => (if p19.1 = (0 : Int32) then f_X7_addDerivative_j496 R p19.2 else (if xk p19.2 l0 7 = true then (f_X7_addNumber p19.2 l0 (x11 - (1 : Int32))).bind (fun p20 => (if p20.1 = (0 : Int32) then f_X7_addDerivative_j496 R p20.2 else (if xk p20.2 l0 7 = true then (R p20.2 l0 l1 l6 l3 (l4 + (1 : Int32))).bind (fun p21 => (if p21.1 = (0 : Int32) then f_X7_addDerivative_j496 R p21.2 else f_X7_addDerivative_j497 R p21.2 (1 : Int32))) else none))) else none))) else none)))) else none)))) else none))) else none))) else none))))
set_option maxHeartbeats 4000000 in
set_option maxRecDepth 20000 in
theorem L_X7_addDerivative_j392 {G : xG} {π : Nat → Nat} {d C Z : Nat} {Q : xQ} {R : xM → Nat → Nat → Int32 → Int32 → Int32 → Option (Int32 × xM)} (hrec : ∀ (e C Z : Nat) (Q : xQ) (σ : xM) (l0 : Nat) (l1 : Nat) (l2 : Int32) (l3 : Int32) (l4 : Int32) (x : (Int32 × xM)), R σ l0 l1 l2 l3 l4 = some x → (∀ g, x = g → Q (.inl (some (.int g.1))) (g.2) π) → xMach G π J_X7_addDerivative ((d + e) + 5) C Z 0 (lv_args 0 [.ref l0, .ref l1, .int l2, .int l3, .int l4]) [] σ Q) (σ : xM) (l0 : Nat) (l1 : Nat) (l2 : Int32) (l3 : Int32) (l4 : Int32) (l6 : Int32) (l7 : Int32) {x : (Int32 × xM)} (hf : f_X7_addDerivative_j392 R σ l0 l1 l2 l3 l4 l6 l7 = some x) (hR : ∀ g, x = g → Q (.inl (some (.int g.1))) (g.2) π) : xMach G π J_X7_addDerivative (d + 6) C Z 392 [(0, .ref l0), (1, .ref l1), (2, .int l2), (3, .int l3), (4, .int l4), (6, .int l6), (7, .int l7)] [] σ Q := by
  unfold f_X7_addDerivative_j392 at hf
  refine xm_aload_n dX7_addDerivative_392 rfl ?_
  refine xb_getR (a := l1) (c := 9) (k := 1) dX7_addDerivative_393 xcl9 (by decide) xw_198 rfl hf (fun x10 ex10 hf => ?_)
  refine xm_iload dX7_addDerivative_396 rfl ?_
  refine xb_iald dX7_addDerivative_398 hf (fun x11 ex11 hf => ?_)
  refine xm_istore dX7_addDerivative_399 (by decide) (xm_stL (L' := [(10, .int x11), (0, .ref l0), (1, .ref l1), (2, .int l2), (3, .int l3), (4, .int l4), (6, .int l6), (7, .int l7)]) rfl ?_)
  refine xm_iload dX7_addDerivative_401 rfl ?_
  refine xb_if_ne 412 dX7_addDerivative_403 (by decide) hf (fun c hf => ?_) (fun c hf => ?_)
  · refine xm_aload_n dX7_addDerivative_412 rfl ?_
    refine xm_iconst dX7_addDerivative_413 (v := 2) (by decide) ?_
    refine xm_aload_n dX7_addDerivative_414 rfl ?_
    refine xm_iload_n dX7_addDerivative_415 rfl ?_
    refine xb_if hf (fun hb hf => ?_) (fun _ q => nomatch q)
    obtain ⟨p12, ep12, hf⟩ := xbind hf
    refine xb_callV (As := [.int (2 : Int32), .ref l1, .int l2]) (v0 := (some (.int p12.1))) (τ0 := p12.2) dX7_addDerivative_416 (xc_X7_addWanted _ _) xcl7 xw_1443 xw_1445 xs_63 hb rfl (Nat.le_of_ble_eq_true rfl) rfl (Nat.le_of_ble_eq_true rfl) (fun Q1 hq => m_X7_addWanted (d := d + 0) ep12 (fun g hg => by subst hg; exact hq)) ?_
    refine xb_if_eq 496 dX7_addDerivative_419 (by decide) hf (fun c hf => ?_) (fun c hf => ?_)
    · exact xm_sub [] rfl (L_X7_addDerivative_j496 hrec p12.2 hf hR)
    · refine xm_aload_n dX7_addDerivative_422 rfl ?_
      refine xm_iconst dX7_addDerivative_423 (v := 2) (by decide) ?_
      refine xm_aload_n dX7_addDerivative_424 rfl ?_
      refine xm_iload_n dX7_addDerivative_425 rfl ?_
      refine xb_if hf (fun hb hf => ?_) (fun _ q => nomatch q)
      obtain ⟨p14, ep14, hf⟩ := xbind hf
      refine xb_callV (As := [.int (2 : Int32), .ref l1, .int l2]) (v0 := (some (.int p14.1))) (τ0 := p14.2) dX7_addDerivative_426 (xc_X7_addWanted _ _) xcl7 xw_1443 xw_1445 xs_63 hb rfl (Nat.le_of_ble_eq_true rfl) rfl (Nat.le_of_ble_eq_true rfl) (fun Q1 hq => m_X7_addWanted (d := d + 0) ep14 (fun g hg => by subst hg; exact hq)) ?_
      refine xb_if_eq 496 dX7_addDerivative_429 (by decide) hf (fun c hf => ?_) (fun c hf => ?_)
      · exact xm_sub [] rfl (L_X7_addDerivative_j496 hrec p14.2 hf hR)
      · refine xm_aload_n dX7_addDerivative_432 rfl ?_
        refine xm_iload dX7_addDerivative_433 rfl ?_
        refine xb_if hf (fun hb hf => ?_) (fun _ q => nomatch q)
        obtain ⟨p15, ep15, hf⟩ := xbind hf
        refine xb_callV (As := [.int x11]) (v0 := (some (.int p15.1))) (τ0 := p15.2) dX7_addDerivative_435 (xc_X7_addNumber _ _) xcl7 xw_1437 xw_1439 xs_62 hb rfl (Nat.le_of_ble_eq_true rfl) rfl (Nat.le_of_ble_eq_true rfl) (fun Q1 hq => m_X7_addNumber (d := d + 4) ep15 (fun g hg => by subst hg; exact hq)) ?_
        refine xb_if_eq 496 dX7_addDerivative_438 (by decide) hf (fun c hf => ?_) (fun c hf => ?_)
        · exact xm_sub [] rfl (L_X7_addDerivative_j496 hrec p15.2 hf hR)
        · refine xm_aload_n dX7_addDerivative_441 rfl ?_
          refine xb_getR (a := l0) (c := 7) (k := 2) dX7_addDerivative_442 xcl7 (by decide) xw_523 rfl hf (fun x16 ex16 hf => ?_)
          refine xm_aload_n dX7_addDerivative_445 rfl ?_
          refine xm_iload_n dX7_addDerivative_446 rfl ?_
          refine xb_if hf (fun hb hf => ?_) (fun _ q => nomatch q)
          obtain ⟨p17, ep17, hf⟩ := xbind hf
          refine xb_callV (As := [.ref l1, .int l2]) (v0 := (some (.int p17.1))) (τ0 := p17.2) dX7_addDerivative_447 (xc_X9_addNode _ _) xcl9 xw_1442 xw_834 xw_835 hb rfl (Nat.le_of_ble_eq_true rfl) rfl (Nat.le_of_ble_eq_true rfl) (fun Q1 hq => m_X9_addNode (d := d + 4) ep17 (fun g hg => by subst hg; exact hq)) ?_
          refine xb_if_eq 496 dX7_addDerivative_450 (by decide) hf (fun c hf => ?_) (fun c hf => ?_)
          · exact xm_sub [] rfl (L_X7_addDerivative_j496 hrec p17.2 hf hR)
          · refine xm_aload_n dX7_addDerivative_453 rfl ?_
            refine xb_getR (a := l0) (c := 7) (k := 2) dX7_addDerivative_454 xcl7 (by decide) xw_523 rfl hf (fun x18 ex18 hf => ?_)
            refine xm_aload_n dX7_addDerivative_457 rfl ?_
            refine xm_iload dX7_addDerivative_458 rfl ?_
            refine xb_if hf (fun hb hf => ?_) (fun _ q => nomatch q)
            obtain ⟨p19, ep19, hf⟩ := xbind hf
            refine xb_callV (As := [.ref l1, .int l6]) (v0 := (some (.int p19.1))) (τ0 := p19.2) dX7_addDerivative_460 (xc_X9_addPart _ _) xcl9 xw_1471 xw_829 xw_830 hb rfl (Nat.le_of_ble_eq_true rfl) rfl (Nat.le_of_ble_eq_true rfl) (fun Q1 hq => m_X9_addPart (d := d + 3) ep19 (fun g hg => by subst hg; exact hq)) ?_
            refine xb_if_eq 496 dX7_addDerivative_463 (by decide) hf (fun c hf => ?_) (fun c hf => ?_)
            · exact xm_sub [] rfl (L_X7_addDerivative_j496 hrec p19.2 hf hR)
            · refine xm_aload_n dX7_addDerivative_466 rfl ?_
              refine xm_iload dX7_addDerivative_467 rfl ?_
              refine xm_iconst dX7_addDerivative_469 (v := 1) (by decide) ?_
              refine xm_isub dX7_addDerivative_470 ?_
              refine xb_if hf (fun hb hf => ?_) (fun _ q => nomatch q)
              obtain ⟨p20, ep20, hf⟩ := xbind hf
              refine xb_callV (As := [.int (x11 - (1 : Int32))]) (v0 := (some (.int p20.1))) (τ0 := p20.2) dX7_addDerivative_471 (xc_X7_addNumber _ _) xcl7 xw_1437 xw_1439 xs_62 hb rfl (Nat.le_of_ble_eq_true rfl) rfl (Nat.le_of_ble_eq_true rfl) (fun Q1 hq => m_X7_addNumber (d := d + 4) ep20 (fun g hg => by subst hg; exact hq)) ?_
              refine xb_if_eq 496 dX7_addDerivative_474 (by decide) hf (fun c hf => ?_) (fun c hf => ?_)
              · exact xm_sub [] rfl (L_X7_addDerivative_j496 hrec p20.2 hf hR)
              · refine xm_aload_n dX7_addDerivative_477 rfl ?_
                refine xm_aload_n dX7_addDerivative_478 rfl ?_
                refine xm_iload dX7_addDerivative_479 rfl ?_
                refine xm_iload_n dX7_addDerivative_481 rfl ?_
                refine xm_iload dX7_addDerivative_482 rfl ?_
                refine xm_iconst dX7_addDerivative_484 (v := 1) (by decide) ?_
                refine xm_iadd dX7_addDerivative_485 ?_
                refine xb_if hf (fun hb hf => ?_) (fun _ q => nomatch q)
                obtain ⟨p21, ep21, hf⟩ := xbind hf
                refine xb_callV (As := [.ref l1, .int l6, .int l3, .int (l4 + (1 : Int32))]) (v0 := (some (.int p21.1))) (τ0 := p21.2) dX7_addDerivative_486 (xc_X7_addDerivative _ _) xcl7 xw_1433 xw_1435 xs_61 hb rfl (Nat.le_of_ble_eq_true rfl) rfl (Nat.le_of_ble_eq_true rfl) (fun Q1 hq => hrec 0 _ _ Q1 _ _ _ _ _ _ _ ep21 (fun g hg => by subst hg; exact hq)) ?_
                refine xb_if_eq 496 dX7_addDerivative_489 (by decide) hf (fun c hf => ?_) (fun c hf => ?_)
                · exact xm_sub [] rfl (L_X7_addDerivative_j496 hrec p21.2 hf hR)
                · refine xm_iconst dX7_addDerivative_492 (v := 1) (by decide) ?_
                  refine xm_goto 497 dX7_addDerivative_493 (by decide) ?_
                  exact xm_sub [] rfl (L_X7_addDerivative_j497 hrec p21.2 (1 : Int32) hf hR)
  · refine xm_aload_n dX7_addDerivative_406 rfl ?_
    refine xm_iconst dX7_addDerivative_407 (v := 0) (by decide) ?_
    refine xb_if hf (fun hb hf => ?_) (fun _ q => nomatch q)
    obtain ⟨p22, ep22, hf⟩ := xbind hf
    refine xb_callV (As := [.int (0 : Int32)]) (v0 := (some (.int p22.1))) (τ0 := p22.2) dX7_addDerivative_408 (xc_X7_addNumber _ _) xcl7 xw_1437 xw_1439 xs_62 hb rfl (Nat.le_of_ble_eq_true rfl) rfl (Nat.le_of_ble_eq_true rfl) (fun Q1 hq => m_X7_addNumber (d := d + 4) ep22 (fun g hg => by subst hg; exact hq)) ?_
    obtain ⟨b23, eb23, hf⟩ := xbind hf
    obtain ⟨rfl, hz⟩ := xz_of eb23
    cases hf
    exact xm_zret dX7_addDerivative_411 rfl hz (hR _ rfl)
def f_X7_addDerivative_j224 (R : xM → Nat → Nat → Int32 → Int32 → Int32 → Option (Int32 × xM)) (σ : xM) (s0 : Int32) : Option (Int32 × xM) :=
  (xz s0).bind (fun b26 => some (b26, σ))
set_option maxHeartbeats 4000000 in
set_option maxRecDepth 20000 in
theorem L_X7_addDerivative_j224 {G : xG} {π : Nat → Nat} {d C Z : Nat} {Q : xQ} {R : xM → Nat → Nat → Int32 → Int32 → Int32 → Option (Int32 × xM)} (hrec : ∀ (e C Z : Nat) (Q : xQ) (σ : xM) (l0 : Nat) (l1 : Nat) (l2 : Int32) (l3 : Int32) (l4 : Int32) (x : (Int32 × xM)), R σ l0 l1 l2 l3 l4 = some x → (∀ g, x = g → Q (.inl (some (.int g.1))) (g.2) π) → xMach G π J_X7_addDerivative ((d + e) + 5) C Z 0 (lv_args 0 [.ref l0, .ref l1, .int l2, .int l3, .int l4]) [] σ Q) (σ : xM) (s0 : Int32) {x : (Int32 × xM)} (hf : f_X7_addDerivative_j224 R σ s0 = some x) (hR : ∀ g, x = g → Q (.inl (some (.int g.1))) (g.2) π) : xMach G π J_X7_addDerivative (d + 6) C Z 224 [] [.int s0] σ Q := by
  unfold f_X7_addDerivative_j224 at hf
  obtain ⟨b26, eb26, hf⟩ := xbind hf
  obtain ⟨rfl, hz⟩ := xz_of eb26
  cases hf
  exact xm_zret dX7_addDerivative_224 rfl hz (hR _ rfl)
def f_X7_addDerivative_j223 (R : xM → Nat → Nat → Int32 → Int32 → Int32 → Option (Int32 × xM)) (σ : xM)  : Option (Int32 × xM) :=
  f_X7_addDerivative_j224 R σ (0 : Int32)
set_option maxHeartbeats 4000000 in
set_option maxRecDepth 20000 in
theorem L_X7_addDerivative_j223 {G : xG} {π : Nat → Nat} {d C Z : Nat} {Q : xQ} {R : xM → Nat → Nat → Int32 → Int32 → Int32 → Option (Int32 × xM)} (hrec : ∀ (e C Z : Nat) (Q : xQ) (σ : xM) (l0 : Nat) (l1 : Nat) (l2 : Int32) (l3 : Int32) (l4 : Int32) (x : (Int32 × xM)), R σ l0 l1 l2 l3 l4 = some x → (∀ g, x = g → Q (.inl (some (.int g.1))) (g.2) π) → xMach G π J_X7_addDerivative ((d + e) + 5) C Z 0 (lv_args 0 [.ref l0, .ref l1, .int l2, .int l3, .int l4]) [] σ Q) (σ : xM)  {x : (Int32 × xM)} (hf : f_X7_addDerivative_j223 R σ = some x) (hR : ∀ g, x = g → Q (.inl (some (.int g.1))) (g.2) π) : xMach G π J_X7_addDerivative (d + 6) C Z 223 [] [] σ Q := by
  unfold f_X7_addDerivative_j223 at hf
  refine xm_iconst dX7_addDerivative_223 (v := 0) (by decide) ?_
  exact xm_sub [] rfl (L_X7_addDerivative_j224 hrec σ (0 : Int32) hf hR)
def f_X7_addDerivative_j177 (R : xM → Nat → Nat → Int32 → Int32 → Int32 → Option (Int32 × xM)) (σ : xM) (l0 : Nat) (l1 : Nat) (l2 : Int32) (l3 : Int32) (l4 : Int32) (l6 : Int32) (l7 : Int32) : Option (Int32 × xM) :=
  (gR σ l0 7 2).bind (fun x24 => (if xk σ x24 9 = true then (f_X9_addNode σ x24 l1 l2).bind (fun p25 => (if p25.1 = (0 : Int32) then f_X7_addDerivative_j223 R p25.2 else (if xk p25.2 l0 7 = true then (R p25.2 l0 l1 l6 l3 (l4 + (1 : Int32))).bind (fun p27 => (if p27.1 = (0 : Int32) then f_X7_addDerivative_j223 R p27.2 else (if xk p27.2 l0 7 = true then (R p27.2 l0 l1 l7 l3 (l4 + (1 : Int32))).bind (fun p28 => (if p28.1 = (0 : Int32) then f_X7_addDerivative_j223 R p28.2 else f_X7_addDerivative_j224 R p28.2 (1 : Int32))) else none))) else none))) else none))
set_option maxHeartbeats 4000000 in
set_option maxRecDepth 20000 in
theorem L_X7_addDerivative_j177 {G : xG} {π : Nat → Nat} {d C Z : Nat} {Q : xQ} {R : xM → Nat → Nat → Int32 → Int32 → Int32 → Option (Int32 × xM)} (hrec : ∀ (e C Z : Nat) (Q : xQ) (σ : xM) (l0 : Nat) (l1 : Nat) (l2 : Int32) (l3 : Int32) (l4 : Int32) (x : (Int32 × xM)), R σ l0 l1 l2 l3 l4 = some x → (∀ g, x = g → Q (.inl (some (.int g.1))) (g.2) π) → xMach G π J_X7_addDerivative ((d + e) + 5) C Z 0 (lv_args 0 [.ref l0, .ref l1, .int l2, .int l3, .int l4]) [] σ Q) (σ : xM) (l0 : Nat) (l1 : Nat) (l2 : Int32) (l3 : Int32) (l4 : Int32) (l6 : Int32) (l7 : Int32) {x : (Int32 × xM)} (hf : f_X7_addDerivative_j177 R σ l0 l1 l2 l3 l4 l6 l7 = some x) (hR : ∀ g, x = g → Q (.inl (some (.int g.1))) (g.2) π) : xMach G π J_X7_addDerivative (d + 6) C Z 177 [(0, .ref l0), (1, .ref l1), (2, .int l2), (3, .int l3), (4, .int l4), (6, .int l6), (7, .int l7)] [] σ Q := by
  unfold f_X7_addDerivative_j177 at hf
  refine xm_aload_n dX7_addDerivative_177 rfl ?_
  refine xb_getR (a := l0) (c := 7) (k := 2) dX7_addDerivative_178 xcl7 (by decide) xw_523 rfl hf (fun x24 ex24 hf => ?_)
  refine xm_aload_n dX7_addDerivative_181 rfl ?_
  refine xm_iload_n dX7_addDerivative_182 rfl ?_
  refine xb_if hf (fun hb hf => ?_) (fun _ q => nomatch q)
  obtain ⟨p25, ep25, hf⟩ := xbind hf
  refine xb_callV (As := [.ref l1, .int l2]) (v0 := (some (.int p25.1))) (τ0 := p25.2) dX7_addDerivative_183 (xc_X9_addNode _ _) xcl9 xw_1442 xw_834 xw_835 hb rfl (Nat.le_of_ble_eq_true rfl) rfl (Nat.le_of_ble_eq_true rfl) (fun Q1 hq => m_X9_addNode (d := d + 4) ep25 (fun g hg => by subst hg; exact hq)) ?_
  refine xb_if_eq 223 dX7_addDerivative_186 (by decide) hf (fun c hf => ?_) (fun c hf => ?_)
  · exact xm_sub [] rfl (L_X7_addDerivative_j223 hrec p25.2 hf hR)
  · refine xm_aload_n dX7_addDerivative_189 rfl ?_
    refine xm_aload_n dX7_addDerivative_190 rfl ?_
    refine xm_iload dX7_addDerivative_191 rfl ?_
    refine xm_iload_n dX7_addDerivative_193 rfl ?_
    refine xm_iload dX7_addDerivative_194 rfl ?_
    refine xm_iconst dX7_addDerivative_196 (v := 1) (by decide) ?_
    refine xm_iadd dX7_addDerivative_197 ?_
    refine xb_if hf (fun hb hf => ?_) (fun _ q => nomatch q)
    obtain ⟨p27, ep27, hf⟩ := xbind hf
    refine xb_callV (As := [.ref l1, .int l6, .int l3, .int (l4 + (1 : Int32))]) (v0 := (some (.int p27.1))) (τ0 := p27.2) dX7_addDerivative_198 (xc_X7_addDerivative _ _) xcl7 xw_1433 xw_1435 xs_61 hb rfl (Nat.le_of_ble_eq_true rfl) rfl (Nat.le_of_ble_eq_true rfl) (fun Q1 hq => hrec 0 _ _ Q1 _ _ _ _ _ _ _ ep27 (fun g hg => by subst hg; exact hq)) ?_
    refine xb_if_eq 223 dX7_addDerivative_201 (by decide) hf (fun c hf => ?_) (fun c hf => ?_)
    · exact xm_sub [] rfl (L_X7_addDerivative_j223 hrec p27.2 hf hR)
    · refine xm_aload_n dX7_addDerivative_204 rfl ?_
      refine xm_aload_n dX7_addDerivative_205 rfl ?_
      refine xm_iload dX7_addDerivative_206 rfl ?_
      refine xm_iload_n dX7_addDerivative_208 rfl ?_
      refine xm_iload dX7_addDerivative_209 rfl ?_
      refine xm_iconst dX7_addDerivative_211 (v := 1) (by decide) ?_
      refine xm_iadd dX7_addDerivative_212 ?_
      refine xb_if hf (fun hb hf => ?_) (fun _ q => nomatch q)
      obtain ⟨p28, ep28, hf⟩ := xbind hf
      refine xb_callV (As := [.ref l1, .int l7, .int l3, .int (l4 + (1 : Int32))]) (v0 := (some (.int p28.1))) (τ0 := p28.2) dX7_addDerivative_213 (xc_X7_addDerivative _ _) xcl7 xw_1433 xw_1435 xs_61 hb rfl (Nat.le_of_ble_eq_true rfl) rfl (Nat.le_of_ble_eq_true rfl) (fun Q1 hq => hrec 0 _ _ Q1 _ _ _ _ _ _ _ ep28 (fun g hg => by subst hg; exact hq)) ?_
      refine xb_if_eq 223 dX7_addDerivative_216 (by decide) hf (fun c hf => ?_) (fun c hf => ?_)
      · exact xm_sub [] rfl (L_X7_addDerivative_j223 hrec p28.2 hf hR)
      · refine xm_iconst dX7_addDerivative_219 (v := 1) (by decide) ?_
        refine xm_goto 224 dX7_addDerivative_220 (by decide) ?_
        exact xm_sub [] rfl (L_X7_addDerivative_j224 hrec p28.2 (1 : Int32) hf hR)
def f_X7_addDerivative_j391 (R : xM → Nat → Nat → Int32 → Int32 → Int32 → Option (Int32 × xM)) (σ : xM) (s0 : Int32) : Option (Int32 × xM) :=
  (xz s0).bind (fun b30 => some (b30, σ))
set_option maxHeartbeats 4000000 in
set_option maxRecDepth 20000 in
theorem L_X7_addDerivative_j391 {G : xG} {π : Nat → Nat} {d C Z : Nat} {Q : xQ} {R : xM → Nat → Nat → Int32 → Int32 → Int32 → Option (Int32 × xM)} (hrec : ∀ (e C Z : Nat) (Q : xQ) (σ : xM) (l0 : Nat) (l1 : Nat) (l2 : Int32) (l3 : Int32) (l4 : Int32) (x : (Int32 × xM)), R σ l0 l1 l2 l3 l4 = some x → (∀ g, x = g → Q (.inl (some (.int g.1))) (g.2) π) → xMach G π J_X7_addDerivative ((d + e) + 5) C Z 0 (lv_args 0 [.ref l0, .ref l1, .int l2, .int l3, .int l4]) [] σ Q) (σ : xM) (s0 : Int32) {x : (Int32 × xM)} (hf : f_X7_addDerivative_j391 R σ s0 = some x) (hR : ∀ g, x = g → Q (.inl (some (.int g.1))) (g.2) π) : xMach G π J_X7_addDerivative (d + 6) C Z 391 [] [.int s0] σ Q := by
  unfold f_X7_addDerivative_j391 at hf
  obtain ⟨b30, eb30, hf⟩ := xbind hf
  obtain ⟨rfl, hz⟩ := xz_of eb30
  cases hf
  exact xm_zret dX7_addDerivative_391 rfl hz (hR _ rfl)
def f_X7_addDerivative_j390 (R : xM → Nat → Nat → Int32 → Int32 → Int32 → Option (Int32 × xM)) (σ : xM)  : Option (Int32 × xM) :=
  f_X7_addDerivative_j391 R σ (0 : Int32)
set_option maxHeartbeats 4000000 in
set_option maxRecDepth 20000 in
theorem L_X7_addDerivative_j390 {G : xG} {π : Nat → Nat} {d C Z : Nat} {Q : xQ} {R : xM → Nat → Nat → Int32 → Int32 → Int32 → Option (Int32 × xM)} (hrec : ∀ (e C Z : Nat) (Q : xQ) (σ : xM) (l0 : Nat) (l1 : Nat) (l2 : Int32) (l3 : Int32) (l4 : Int32) (x : (Int32 × xM)), R σ l0 l1 l2 l3 l4 = some x → (∀ g, x = g → Q (.inl (some (.int g.1))) (g.2) π) → xMach G π J_X7_addDerivative ((d + e) + 5) C Z 0 (lv_args 0 [.ref l0, .ref l1, .int l2, .int l3, .int l4]) [] σ Q) (σ : xM)  {x : (Int32 × xM)} (hf : f_X7_addDerivative_j390 R σ = some x) (hR : ∀ g, x = g → Q (.inl (some (.int g.1))) (g.2) π) : xMach G π J_X7_addDerivative (d + 6) C Z 390 [] [] σ Q := by
  unfold f_X7_addDerivative_j390 at hf
  refine xm_iconst dX7_addDerivative_390 (v := 0) (by decide) ?_
  exact xm_sub [] rfl (L_X7_addDerivative_j391 hrec σ (0 : Int32) hf hR)
def f_X7_addDerivative_j386 (R : xM → Nat → Nat → Int32 → Int32 → Int32 → Option (Int32 × xM)) (σ : xM)  : Option (Int32 × xM) :=
  f_X7_addDerivative_j391 R σ (1 : Int32)
set_option maxHeartbeats 4000000 in
set_option maxRecDepth 20000 in
theorem L_X7_addDerivative_j386 {G : xG} {π : Nat → Nat} {d C Z : Nat} {Q : xQ} {R : xM → Nat → Nat → Int32 → Int32 → Int32 → Option (Int32 × xM)} (hrec : ∀ (e C Z : Nat) (Q : xQ) (σ : xM) (l0 : Nat) (l1 : Nat) (l2 : Int32) (l3 : Int32) (l4 : Int32) (x : (Int32 × xM)), R σ l0 l1 l2 l3 l4 = some x → (∀ g, x = g → Q (.inl (some (.int g.1))) (g.2) π) → xMach G π J_X7_addDerivative ((d + e) + 5) C Z 0 (lv_args 0 [.ref l0, .ref l1, .int l2, .int l3, .int l4]) [] σ Q) (σ : xM)  {x : (Int32 × xM)} (hf : f_X7_addDerivative_j386 R σ = some x) (hR : ∀ g, x = g → Q (.inl (some (.int g.1))) (g.2) π) : xMach G π J_X7_addDerivative (d + 6) C Z 386 [] [] σ Q := by
  unfold f_X7_addDerivative_j386 at hf
  refine xm_iconst dX7_addDerivative_386 (v := 1) (by decide) ?_
  refine xm_goto 391 dX7_addDerivative_387 (by decide) ?_
  exact xm_sub [] rfl (L_X7_addDerivative_j391 hrec σ (1 : Int32) hf hR)
def f_X7_addDerivative_j266 (R : xM → Nat → Nat → Int32 → Int32 → Int32 → Option (Int32 × xM)) (σ : xM) (l0 : Nat) (l1 : Nat) (l2 : Int32) (l3 : Int32) (l4 : Int32) (l6 : Int32) (l7 : Int32) (l9 : Int32) (s0 : Int32) (s1 : Nat) : Option (Int32 × xM) :=
  (if xk σ s1 7 = true then (f_X7_addWanted σ s1 s0 l1 l2).bind (fun p29 => (if p29.1 = (0 : Int32) then f_X7_addDerivative_j390 R p29.2 else (if xk p29.2 l0 7 = true then (f_X7_addWanted p29.2 l0 (2 : Int32) l1 l2).bind (fun p31 => (if p31.1 = (0 : Int32) then f_X7_addDerivative_j390 R p31.2 else (if xk p31.2 l0 7 = true then (R p31.2 l0 l1 l6 l3 (l4 + (1 : Int32))).bind (fun p32 => (if p32.1 = (0 : Int32) then f_X7_addDerivative_j390 R p32.2 else (gR p32.2 l0 7 2).bind (fun x33 => (if xk p32.2 x33 9 = true then (f_X9_addPart p32.2 x33 l1 l7).bind (fun p34 => (if p34.1 = (0 : Int32) then f_X7_addDerivative_j390 R p34.2 else (if xk p34.2 l0 7 = true then (f_X7_addWanted p34.2 l0 (2 : Int32) l1 l2).bind (fun p35 => (if p35.1 = (0 : Int32) then f_X7_addDerivative_j390 R p35.2 else (gR p35.2 l0 7 2).bind (fun x36 => (if xk p35.2 x36 9 = true then (f_X9_addPart p35.2 x36 l1 l6).bind (fun p37 => (if p37.1 = (0 : Int32) then f_X7_addDerivative_j390 R p37.2 else (if xk p37.2 l0 7 = true then (R p37.2 l0 l1 l7 l3 (l4 + (1 : Int32))).bind (fun p38 => (if p38.1 = (0 : Int32) then f_X7_addDerivative_j390 R p38.2 else (if l9 = (0 : Int32) then f_X7_addDerivative_j386 R p38.2 else (if xk p38.2 l0 7 = true then (f_X7_addWanted p38.2 l0 (5 : Int32) l1 l2).bind (fun p39 => (if p39.1 = (0 : Int32) then f_X7_addDerivative_j390 R p39.2 else (gR p39.2 l0 7 2).bind (fun x40 => (if xk p39.2 x40 9 = true then (f_X9_addPart p39.2 x40 l1 l7).bind (fun p41 => (if p41.1 = (0 : Int32) then f_X7_addDerivative_j390 R p41.2 else (if xk p41.2 l0 7 = true then (f_X7_addNumber p41.2 l0 (2 : Int32)).bind (fun p42 => (if p42.1 = (0 : Int32) then f_X7_addDerivative_j390 R p42.2 else f_X7_addDerivative_j386 R p42.2)) else none))) else none)))) else none)))) else none))) else none)))) else none))) else none)))) else none))) else none))) else none)
set_option maxHeartbeats 4000000 in
set_option maxRecDepth 20000 in
theorem L_X7_addDerivative_j266 {G : xG} {π : Nat → Nat} {d C Z : Nat} {Q : xQ} {R : xM → Nat → Nat → Int32 → Int32 → Int32 → Option (Int32 × xM)} (hrec : ∀ (e C Z : Nat) (Q : xQ) (σ : xM) (l0 : Nat) (l1 : Nat) (l2 : Int32) (l3 : Int32) (l4 : Int32) (x : (Int32 × xM)), R σ l0 l1 l2 l3 l4 = some x → (∀ g, x = g → Q (.inl (some (.int g.1))) (g.2) π) → xMach G π J_X7_addDerivative ((d + e) + 5) C Z 0 (lv_args 0 [.ref l0, .ref l1, .int l2, .int l3, .int l4]) [] σ Q) (σ : xM) (l0 : Nat) (l1 : Nat) (l2 : Int32) (l3 : Int32) (l4 : Int32) (l6 : Int32) (l7 : Int32) (l9 : Int32) (s0 : Int32) (s1 : Nat) {x : (Int32 × xM)} (hf : f_X7_addDerivative_j266 R σ l0 l1 l2 l3 l4 l6 l7 l9 s0 s1 = some x) (hR : ∀ g, x = g → Q (.inl (some (.int g.1))) (g.2) π) : xMach G π J_X7_addDerivative (d + 6) C Z 266 [(0, .ref l0), (1, .ref l1), (2, .int l2), (3, .int l3), (4, .int l4), (6, .int l6), (7, .int l7), (9, .int l9)] [.int s0, .ref s1] σ Q := by
  unfold f_X7_addDerivative_j266 at hf
  refine xm_aload_n dX7_addDerivative_266 rfl ?_
  refine xm_iload_n dX7_addDerivative_267 rfl ?_
  refine xb_if hf (fun hb hf => ?_) (fun _ q => nomatch q)
  obtain ⟨p29, ep29, hf⟩ := xbind hf
  refine xb_callV (As := [.int s0, .ref l1, .int l2]) (v0 := (some (.int p29.1))) (τ0 := p29.2) dX7_addDerivative_268 (xc_X7_addWanted _ _) xcl7 xw_1443 xw_1445 xs_63 hb rfl (Nat.le_of_ble_eq_true rfl) rfl (Nat.le_of_ble_eq_true rfl) (fun Q1 hq => m_X7_addWanted (d := d + 0) ep29 (fun g hg => by subst hg; exact hq)) ?_
  refine xb_if_eq 390 dX7_addDerivative_271 (by decide) hf (fun c hf => ?_) (fun c hf => ?_)
  · exact xm_sub [] rfl (L_X7_addDerivative_j390 hrec p29.2 hf hR)
  · refine xm_aload_n dX7_addDerivative_274 rfl ?_
    refine xm_iconst dX7_addDerivative_275 (v := 2) (by decide) ?_
    refine xm_aload_n dX7_addDerivative_276 rfl ?_
    refine xm_iload_n dX7_addDerivative_277 rfl ?_
    refine xb_if hf (fun hb hf => ?_) (fun _ q => nomatch q)
    obtain ⟨p31, ep31, hf⟩ := xbind hf
    refine xb_callV (As := [.int (2 : Int32), .ref l1, .int l2]) (v0 := (some (.int p31.1))) (τ0 := p31.2) dX7_addDerivative_278 (xc_X7_addWanted _ _) xcl7 xw_1443 xw_1445 xs_63 hb rfl (Nat.le_of_ble_eq_true rfl) rfl (Nat.le_of_ble_eq_true rfl) (fun Q1 hq => m_X7_addWanted (d := d + 0) ep31 (fun g hg => by subst hg; exact hq)) ?_
    refine xb_if_eq 390 dX7_addDerivative_281 (by decide) hf (fun c hf => ?_) (fun c hf => ?_)
    · exact xm_sub [] rfl (L_X7_addDerivative_j390 hrec p31.2 hf hR)
    · refine xm_aload_n dX7_addDerivative_284 rfl ?_
      refine xm_aload_n dX7_addDerivative_285 rfl ?_
      refine xm_iload dX7_addDerivative_286 rfl ?_
      refine xm_iload_n dX7_addDerivative_288 rfl ?_
      refine xm_iload dX7_addDerivative_289 rfl ?_
      refine xm_iconst dX7_addDerivative_291 (v := 1) (by decide) ?_
      refine xm_iadd dX7_addDerivative_292 ?_
      refine xb_if hf (fun hb hf => ?_) (fun _ q => nomatch q)
      obtain ⟨p32, ep32, hf⟩ := xbind hf
      refine xb_callV (As := [.ref l1, .int l6, .int l3, .int (l4 + (1 : Int32))]) (v0 := (some (.int p32.1))) (τ0 := p32.2) dX7_addDerivative_293 (xc_X7_addDerivative _ _) xcl7 xw_1433 xw_1435 xs_61 hb rfl (Nat.le_of_ble_eq_true rfl) rfl (Nat.le_of_ble_eq_true rfl) (fun Q1 hq => hrec 0 _ _ Q1 _ _ _ _ _ _ _ ep32 (fun g hg => by subst hg; exact hq)) ?_
      refine xb_if_eq 390 dX7_addDerivative_296 (by decide) hf (fun c hf => ?_) (fun c hf => ?_)
      · exact xm_sub [] rfl (L_X7_addDerivative_j390 hrec p32.2 hf hR)
      · refine xm_aload_n dX7_addDerivative_299 rfl ?_
        refine xb_getR (a := l0) (c := 7) (k := 2) dX7_addDerivative_300 xcl7 (by decide) xw_523 rfl hf (fun x33 ex33 hf => ?_)
        refine xm_aload_n dX7_addDerivative_303 rfl ?_
        refine xm_iload dX7_addDerivative_304 rfl ?_
        refine xb_if hf (fun hb hf => ?_) (fun _ q => nomatch q)
        obtain ⟨p34, ep34, hf⟩ := xbind hf
        refine xb_callV (As := [.ref l1, .int l7]) (v0 := (some (.int p34.1))) (τ0 := p34.2) dX7_addDerivative_306 (xc_X9_addPart _ _) xcl9 xw_1471 xw_829 xw_830 hb rfl (Nat.le_of_ble_eq_true rfl) rfl (Nat.le_of_ble_eq_true rfl) (fun Q1 hq => m_X9_addPart (d := d + 3) ep34 (fun g hg => by subst hg; exact hq)) ?_
        refine xb_if_eq 390 dX7_addDerivative_309 (by decide) hf (fun c hf => ?_) (fun c hf => ?_)
        · exact xm_sub [] rfl (L_X7_addDerivative_j390 hrec p34.2 hf hR)
        · refine xm_aload_n dX7_addDerivative_312 rfl ?_
          refine xm_iconst dX7_addDerivative_313 (v := 2) (by decide) ?_
          refine xm_aload_n dX7_addDerivative_314 rfl ?_
          refine xm_iload_n dX7_addDerivative_315 rfl ?_
          refine xb_if hf (fun hb hf => ?_) (fun _ q => nomatch q)
          obtain ⟨p35, ep35, hf⟩ := xbind hf
          refine xb_callV (As := [.int (2 : Int32), .ref l1, .int l2]) (v0 := (some (.int p35.1))) (τ0 := p35.2) dX7_addDerivative_316 (xc_X7_addWanted _ _) xcl7 xw_1443 xw_1445 xs_63 hb rfl (Nat.le_of_ble_eq_true rfl) rfl (Nat.le_of_ble_eq_true rfl) (fun Q1 hq => m_X7_addWanted (d := d + 0) ep35 (fun g hg => by subst hg; exact hq)) ?_
          refine xb_if_eq 390 dX7_addDerivative_319 (by decide) hf (fun c hf => ?_) (fun c hf => ?_)
          · exact xm_sub [] rfl (L_X7_addDerivative_j390 hrec p35.2 hf hR)
          · refine xm_aload_n dX7_addDerivative_322 rfl ?_
            refine xb_getR (a := l0) (c := 7) (k := 2) dX7_addDerivative_323 xcl7 (by decide) xw_523 rfl hf (fun x36 ex36 hf => ?_)
            refine xm_aload_n dX7_addDerivative_326 rfl ?_
            refine xm_iload dX7_addDerivative_327 rfl ?_
            refine xb_if hf (fun hb hf => ?_) (fun _ q => nomatch q)
            obtain ⟨p37, ep37, hf⟩ := xbind hf
            refine xb_callV (As := [.ref l1, .int l6]) (v0 := (some (.int p37.1))) (τ0 := p37.2) dX7_addDerivative_329 (xc_X9_addPart _ _) xcl9 xw_1471 xw_829 xw_830 hb rfl (Nat.le_of_ble_eq_true rfl) rfl (Nat.le_of_ble_eq_true rfl) (fun Q1 hq => m_X9_addPart (d := d + 3) ep37 (fun g hg => by subst hg; exact hq)) ?_
            refine xb_if_eq 390 dX7_addDerivative_332 (by decide) hf (fun c hf => ?_) (fun c hf => ?_)
            · exact xm_sub [] rfl (L_X7_addDerivative_j390 hrec p37.2 hf hR)
            · refine xm_aload_n dX7_addDerivative_335 rfl ?_
              refine xm_aload_n dX7_addDerivative_336 rfl ?_
              refine xm_iload dX7_addDerivative_337 rfl ?_
              refine xm_iload_n dX7_addDerivative_339 rfl ?_
              refine xm_iload dX7_addDerivative_340 rfl ?_
              refine xm_iconst dX7_addDerivative_342 (v := 1) (by decide) ?_
              refine xm_iadd dX7_addDerivative_343 ?_
              refine xb_if hf (fun hb hf => ?_) (fun _ q => nomatch q)
              obtain ⟨p38, ep38, hf⟩ := xbind hf
              refine xb_callV (As := [.ref l1, .int l7, .int l3, .int (l4 + (1 : Int32))]) (v0 := (some (.int p38.1))) (τ0 := p38.2) dX7_addDerivative_344 (xc_X7_addDerivative _ _) xcl7 xw_1433 xw_1435 xs_61 hb rfl (Nat.le_of_ble_eq_true rfl) rfl (Nat.le_of_ble_eq_true rfl) (fun Q1 hq => hrec 0 _ _ Q1 _ _ _ _ _ _ _ ep38 (fun g hg => by subst hg; exact hq)) ?_
              refine xb_if_eq 390 dX7_addDerivative_347 (by decide) hf (fun c hf => ?_) (fun c hf => ?_)
              · exact xm_sub [] rfl (L_X7_addDerivative_j390 hrec p38.2 hf hR)
              · refine xm_iload dX7_addDerivative_350 rfl ?_
                refine xb_if_eq 386 dX7_addDerivative_352 (by decide) hf (fun c hf => ?_) (fun c hf => ?_)
                · exact xm_sub [] rfl (L_X7_addDerivative_j386 hrec p38.2 hf hR)
                · refine xm_aload_n dX7_addDerivative_355 rfl ?_
                  refine xm_iconst dX7_addDerivative_356 (v := 5) (by decide) ?_
                  refine xm_aload_n dX7_addDerivative_357 rfl ?_
                  refine xm_iload_n dX7_addDerivative_358 rfl ?_
                  refine xb_if hf (fun hb hf => ?_) (fun _ q => nomatch q)
                  obtain ⟨p39, ep39, hf⟩ := xbind hf
                  refine xb_callV (As := [.int (5 : Int32), .ref l1, .int l2]) (v0 := (some (.int p39.1))) (τ0 := p39.2) dX7_addDerivative_359 (xc_X7_addWanted _ _) xcl7 xw_1443 xw_1445 xs_63 hb rfl (Nat.le_of_ble_eq_true rfl) rfl (Nat.le_of_ble_eq_true rfl) (fun Q1 hq => m_X7_addWanted (d := d + 0) ep39 (fun g hg => by subst hg; exact hq)) ?_
                  refine xb_if_eq 390 dX7_addDerivative_362 (by decide) hf (fun c hf => ?_) (fun c hf => ?_)
                  · exact xm_sub [] rfl (L_X7_addDerivative_j390 hrec p39.2 hf hR)
                  · refine xm_aload_n dX7_addDerivative_365 rfl ?_
                    refine xb_getR (a := l0) (c := 7) (k := 2) dX7_addDerivative_366 xcl7 (by decide) xw_523 rfl hf (fun x40 ex40 hf => ?_)
                    refine xm_aload_n dX7_addDerivative_369 rfl ?_
                    refine xm_iload dX7_addDerivative_370 rfl ?_
                    refine xb_if hf (fun hb hf => ?_) (fun _ q => nomatch q)
                    obtain ⟨p41, ep41, hf⟩ := xbind hf
                    refine xb_callV (As := [.ref l1, .int l7]) (v0 := (some (.int p41.1))) (τ0 := p41.2) dX7_addDerivative_372 (xc_X9_addPart _ _) xcl9 xw_1471 xw_829 xw_830 hb rfl (Nat.le_of_ble_eq_true rfl) rfl (Nat.le_of_ble_eq_true rfl) (fun Q1 hq => m_X9_addPart (d := d + 3) ep41 (fun g hg => by subst hg; exact hq)) ?_
                    refine xb_if_eq 390 dX7_addDerivative_375 (by decide) hf (fun c hf => ?_) (fun c hf => ?_)
                    · exact xm_sub [] rfl (L_X7_addDerivative_j390 hrec p41.2 hf hR)
                    · refine xm_aload_n dX7_addDerivative_378 rfl ?_
                      refine xm_iconst dX7_addDerivative_379 (v := 2) (by decide) ?_
                      refine xb_if hf (fun hb hf => ?_) (fun _ q => nomatch q)
                      obtain ⟨p42, ep42, hf⟩ := xbind hf
                      refine xb_callV (As := [.int (2 : Int32)]) (v0 := (some (.int p42.1))) (τ0 := p42.2) dX7_addDerivative_380 (xc_X7_addNumber _ _) xcl7 xw_1437 xw_1439 xs_62 hb rfl (Nat.le_of_ble_eq_true rfl) rfl (Nat.le_of_ble_eq_true rfl) (fun Q1 hq => m_X7_addNumber (d := d + 4) ep42 (fun g hg => by subst hg; exact hq)) ?_
                      refine xb_if_eq 390 dX7_addDerivative_383 (by decide) hf (fun c hf => ?_) (fun c hf => ?_)
                      · exact xm_sub [] rfl (L_X7_addDerivative_j390 hrec p42.2 hf hR)
                      · exact xm_sub [] rfl (L_X7_addDerivative_j386 hrec p42.2 hf hR)
def f_X7_addDerivative_j255 (R : xM → Nat → Nat → Int32 → Int32 → Int32 → Option (Int32 × xM)) (σ : xM) (l0 : Nat) (l1 : Nat) (l2 : Int32) (l3 : Int32) (l4 : Int32) (l6 : Int32) (l7 : Int32) (l9 : Int32) : Option (Int32 × xM) :=
  (if l9 = (0 : Int32) then f_X7_addDerivative_j266 R σ l0 l1 l2 l3 l4 l6 l7 l9 (0 : Int32) l0 else f_X7_addDerivative_j266 R σ l0 l1 l2 l3 l4 l6 l7 l9 (1 : Int32) l0)
set_option maxHeartbeats 4000000 in
set_option maxRecDepth 20000 in
theorem L_X7_addDerivative_j255 {G : xG} {π : Nat → Nat} {d C Z : Nat} {Q : xQ} {R : xM → Nat → Nat → Int32 → Int32 → Int32 → Option (Int32 × xM)} (hrec : ∀ (e C Z : Nat) (Q : xQ) (σ : xM) (l0 : Nat) (l1 : Nat) (l2 : Int32) (l3 : Int32) (l4 : Int32) (x : (Int32 × xM)), R σ l0 l1 l2 l3 l4 = some x → (∀ g, x = g → Q (.inl (some (.int g.1))) (g.2) π) → xMach G π J_X7_addDerivative ((d + e) + 5) C Z 0 (lv_args 0 [.ref l0, .ref l1, .int l2, .int l3, .int l4]) [] σ Q) (σ : xM) (l0 : Nat) (l1 : Nat) (l2 : Int32) (l3 : Int32) (l4 : Int32) (l6 : Int32) (l7 : Int32) (l9 : Int32) {x : (Int32 × xM)} (hf : f_X7_addDerivative_j255 R σ l0 l1 l2 l3 l4 l6 l7 l9 = some x) (hR : ∀ g, x = g → Q (.inl (some (.int g.1))) (g.2) π) : xMach G π J_X7_addDerivative (d + 6) C Z 255 [(0, .ref l0), (1, .ref l1), (2, .int l2), (3, .int l3), (4, .int l4), (6, .int l6), (7, .int l7), (9, .int l9)] [] σ Q := by
  unfold f_X7_addDerivative_j255 at hf
  refine xm_aload_n dX7_addDerivative_255 rfl ?_
  refine xm_iload dX7_addDerivative_256 rfl ?_
  refine xb_if_eq 265 dX7_addDerivative_258 (by decide) hf (fun c hf => ?_) (fun c hf => ?_)
  · refine xm_iconst dX7_addDerivative_265 (v := 0) (by decide) ?_
    exact xm_sub [0, 1, 2, 3, 4, 5, 6, 7] rfl (L_X7_addDerivative_j266 hrec σ l0 l1 l2 l3 l4 l6 l7 l9 (0 : Int32) l0 hf hR)
  · refine xm_iconst dX7_addDerivative_261 (v := 1) (by decide) ?_
    refine xm_goto 266 dX7_addDerivative_262 (by decide) ?_
    exact xm_sub [0, 1, 2, 3, 4, 5, 6, 7] rfl (L_X7_addDerivative_j266 hrec σ l0 l1 l2 l3 l4 l6 l7 l9 (1 : Int32) l0 hf hR)
def f_X7_addDerivative_j236 (R : xM → Nat → Nat → Int32 → Int32 → Int32 → Option (Int32 × xM)) (σ : xM) (l0 : Nat) (l1 : Nat) (l2 : Int32) (l3 : Int32) (l4 : Int32) (l6 : Int32) (l7 : Int32) (s0 : Int32) : Option (Int32 × xM) :=
  (if s0 = (0 : Int32) then f_X7_addDerivative_j255 R σ l0 l1 l2 l3 l4 l6 l7 s0 else (gR σ l0 7 2).bind (fun x43 => (if xk σ x43 9 = true then (f_X9_addNode σ x43 l1 l2).bind (fun p44 => (if p44.1 = (0 : Int32) then f_X7_addDerivative_j390 R p44.2 else f_X7_addDerivative_j255 R p44.2 l0 l1 l2 l3 l4 l6 l7 s0)) else none)))
set_option maxHeartbeats 4000000 in
set_option maxRecDepth 20000 in
theorem L_X7_addDerivative_j236 {G : xG} {π : Nat → Nat} {d C Z : Nat} {Q : xQ} {R : xM → Nat → Nat → Int32 → Int32 → Int32 → Option (Int32 × xM)} (hrec : ∀ (e C Z : Nat) (Q : xQ) (σ : xM) (l0 : Nat) (l1 : Nat) (l2 : Int32) (l3 : Int32) (l4 : Int32) (x : (Int32 × xM)), R σ l0 l1 l2 l3 l4 = some x → (∀ g, x = g → Q (.inl (some (.int g.1))) (g.2) π) → xMach G π J_X7_addDerivative ((d + e) + 5) C Z 0 (lv_args 0 [.ref l0, .ref l1, .int l2, .int l3, .int l4]) [] σ Q) (σ : xM) (l0 : Nat) (l1 : Nat) (l2 : Int32) (l3 : Int32) (l4 : Int32) (l6 : Int32) (l7 : Int32) (s0 : Int32) {x : (Int32 × xM)} (hf : f_X7_addDerivative_j236 R σ l0 l1 l2 l3 l4 l6 l7 s0 = some x) (hR : ∀ g, x = g → Q (.inl (some (.int g.1))) (g.2) π) : xMach G π J_X7_addDerivative (d + 6) C Z 236 [(0, .ref l0), (1, .ref l1), (2, .int l2), (3, .int l3), (4, .int l4), (6, .int l6), (7, .int l7)] [.int s0] σ Q := by
  unfold f_X7_addDerivative_j236 at hf
  refine xm_istore dX7_addDerivative_236 (by decide) (xm_stL (L' := [(9, .int s0), (0, .ref l0), (1, .ref l1), (2, .int l2), (3, .int l3), (4, .int l4), (6, .int l6), (7, .int l7)]) rfl ?_)
  refine xm_iload dX7_addDerivative_238 rfl ?_
  refine xb_if_eq 255 dX7_addDerivative_240 (by decide) hf (fun c hf => ?_) (fun c hf => ?_)
  · exact xm_sub [1, 2, 3, 4, 5, 6, 7, 0] rfl (L_X7_addDerivative_j255 hrec σ l0 l1 l2 l3 l4 l6 l7 s0 hf hR)
  · refine xm_aload_n dX7_addDerivative_243 rfl ?_
    refine xb_getR (a := l0) (c := 7) (k := 2) dX7_addDerivative_244 xcl7 (by decide) xw_523 rfl hf (fun x43 ex43 hf => ?_)
    refine xm_aload_n dX7_addDerivative_247 rfl ?_
    refine xm_iload_n dX7_addDerivative_248 rfl ?_
    refine xb_if hf (fun hb hf => ?_) (fun _ q => nomatch q)
    obtain ⟨p44, ep44, hf⟩ := xbind hf
    refine xb_callV (As := [.ref l1, .int l2]) (v0 := (some (.int p44.1))) (τ0 := p44.2) dX7_addDerivative_249 (xc_X9_addNode _ _) xcl9 xw_1442 xw_834 xw_835 hb rfl (Nat.le_of_ble_eq_true rfl) rfl (Nat.le_of_ble_eq_true rfl) (fun Q1 hq => m_X9_addNode (d := d + 4) ep44 (fun g hg => by subst hg; exact hq)) ?_
    refine xb_if_eq 390 dX7_addDerivative_252 (by decide) hf (fun c hf => ?_) (fun c hf => ?_)
    · exact xm_sub [] rfl (L_X7_addDerivative_j390 hrec p44.2 hf hR)
    · exact xm_sub [1, 2, 3, 4, 5, 6, 7, 0] rfl (L_X7_addDerivative_j255 hrec p44.2 l0 l1 l2 l3 l4 l6 l7 s0 hf hR)
def f_X7_addDerivative_j225 (R : xM → Nat → Nat → Int32 → Int32 → Int32 → Option (Int32 × xM)) (σ : xM) (l0 : Nat) (l1 : Nat) (l2 : Int32) (l3 : Int32) (l4 : Int32) (l6 : Int32) (l7 : Int32) (l8 : Int32) : Option (Int32 × xM) :=
  (if l8 = (3 : Int32) then f_X7_addDerivative_j236 R σ l0 l1 l2 l3 l4 l6 l7 (1 : Int32) else f_X7_addDerivative_j236 R σ l0 l1 l2 l3 l4 l6 l7 (0 : Int32))
set_option maxHeartbeats 4000000 in
set_option maxRecDepth 20000 in
theorem L_X7_addDerivative_j225 {G : xG} {π : Nat → Nat} {d C Z : Nat} {Q : xQ} {R : xM → Nat → Nat → Int32 → Int32 → Int32 → Option (Int32 × xM)} (hrec : ∀ (e C Z : Nat) (Q : xQ) (σ : xM) (l0 : Nat) (l1 : Nat) (l2 : Int32) (l3 : Int32) (l4 : Int32) (x : (Int32 × xM)), R σ l0 l1 l2 l3 l4 = some x → (∀ g, x = g → Q (.inl (some (.int g.1))) (g.2) π) → xMach G π J_X7_addDerivative ((d + e) + 5) C Z 0 (lv_args 0 [.ref l0, .ref l1, .int l2, .int l3, .int l4]) [] σ Q) (σ : xM) (l0 : Nat) (l1 : Nat) (l2 : Int32) (l3 : Int32) (l4 : Int32) (l6 : Int32) (l7 : Int32) (l8 : Int32) {x : (Int32 × xM)} (hf : f_X7_addDerivative_j225 R σ l0 l1 l2 l3 l4 l6 l7 l8 = some x) (hR : ∀ g, x = g → Q (.inl (some (.int g.1))) (g.2) π) : xMach G π J_X7_addDerivative (d + 6) C Z 225 [(0, .ref l0), (1, .ref l1), (2, .int l2), (3, .int l3), (4, .int l4), (6, .int l6), (7, .int l7), (8, .int l8)] [] σ Q := by
  unfold f_X7_addDerivative_j225 at hf
  refine xm_iload dX7_addDerivative_225 rfl ?_
  refine xm_iconst dX7_addDerivative_227 (v := 3) (by decide) ?_
  refine xb_icmp_ne 235 dX7_addDerivative_228 (by decide) hf (fun c hf => ?_) (fun c hf => ?_)
  · refine xm_iconst dX7_addDerivative_235 (v := 0) (by decide) ?_
    exact xm_sub [0, 1, 2, 3, 4, 5, 6] rfl (L_X7_addDerivative_j236 hrec σ l0 l1 l2 l3 l4 l6 l7 (0 : Int32) hf hR)
  · refine xm_iconst dX7_addDerivative_231 (v := 1) (by decide) ?_
    refine xm_goto 236 dX7_addDerivative_232 (by decide) ?_
    exact xm_sub [0, 1, 2, 3, 4, 5, 6] rfl (L_X7_addDerivative_j236 hrec σ l0 l1 l2 l3 l4 l6 l7 (1 : Int32) hf hR)
def f_X7_addDerivative_j176 (R : xM → Nat → Nat → Int32 → Int32 → Int32 → Option (Int32 × xM)) (σ : xM) (s0 : Int32) : Option (Int32 × xM) :=
  (xz s0).bind (fun b47 => some (b47, σ))
set_option maxHeartbeats 4000000 in
set_option maxRecDepth 20000 in
theorem L_X7_addDerivative_j176 {G : xG} {π : Nat → Nat} {d C Z : Nat} {Q : xQ} {R : xM → Nat → Nat → Int32 → Int32 → Int32 → Option (Int32 × xM)} (hrec : ∀ (e C Z : Nat) (Q : xQ) (σ : xM) (l0 : Nat) (l1 : Nat) (l2 : Int32) (l3 : Int32) (l4 : Int32) (x : (Int32 × xM)), R σ l0 l1 l2 l3 l4 = some x → (∀ g, x = g → Q (.inl (some (.int g.1))) (g.2) π) → xMach G π J_X7_addDerivative ((d + e) + 5) C Z 0 (lv_args 0 [.ref l0, .ref l1, .int l2, .int l3, .int l4]) [] σ Q) (σ : xM) (s0 : Int32) {x : (Int32 × xM)} (hf : f_X7_addDerivative_j176 R σ s0 = some x) (hR : ∀ g, x = g → Q (.inl (some (.int g.1))) (g.2) π) : xMach G π J_X7_addDerivative (d + 6) C Z 176 [] [.int s0] σ Q := by
  unfold f_X7_addDerivative_j176 at hf
  obtain ⟨b47, eb47, hf⟩ := xbind hf
  obtain ⟨rfl, hz⟩ := xz_of eb47
  cases hf
  exact xm_zret dX7_addDerivative_176 rfl hz (hR _ rfl)
def f_X7_addDerivative_j175 (R : xM → Nat → Nat → Int32 → Int32 → Int32 → Option (Int32 × xM)) (σ : xM)  : Option (Int32 × xM) :=
  f_X7_addDerivative_j176 R σ (0 : Int32)
set_option maxHeartbeats 4000000 in
set_option maxRecDepth 20000 in
theorem L_X7_addDerivative_j175 {G : xG} {π : Nat → Nat} {d C Z : Nat} {Q : xQ} {R : xM → Nat → Nat → Int32 → Int32 → Int32 → Option (Int32 × xM)} (hrec : ∀ (e C Z : Nat) (Q : xQ) (σ : xM) (l0 : Nat) (l1 : Nat) (l2 : Int32) (l3 : Int32) (l4 : Int32) (x : (Int32 × xM)), R σ l0 l1 l2 l3 l4 = some x → (∀ g, x = g → Q (.inl (some (.int g.1))) (g.2) π) → xMach G π J_X7_addDerivative ((d + e) + 5) C Z 0 (lv_args 0 [.ref l0, .ref l1, .int l2, .int l3, .int l4]) [] σ Q) (σ : xM)  {x : (Int32 × xM)} (hf : f_X7_addDerivative_j175 R σ = some x) (hR : ∀ g, x = g → Q (.inl (some (.int g.1))) (g.2) π) : xMach G π J_X7_addDerivative (d + 6) C Z 175 [] [] σ Q := by
  unfold f_X7_addDerivative_j175 at hf
  refine xm_iconst dX7_addDerivative_175 (v := 0) (by decide) ?_
  exact xm_sub [] rfl (L_X7_addDerivative_j176 hrec σ (0 : Int32) hf hR)
def f_X7_addDerivative_b (R : xM → Nat → Nat → Int32 → Int32 → Int32 → Option (Int32 × xM)) (σ : xM) (l0 : Nat) (l1 : Nat) (l2 : Int32) (l3 : Int32) (l4 : Int32) : Option (Int32 × xM) :=
  (gR σ l1 9 0).bind (fun x1 => (aI σ x1 14 l2).bind (fun x2 => (if l4 ≤ (80 : Int32) then (if x2 = (0 : Int32) then f_X7_addDerivative_j28 R σ l0 l1 l2 l3 x2 else (if x2 = (1 : Int32) then f_X7_addDerivative_j28 R σ l0 l1 l2 l3 x2 else (if xk σ l1 9 = true then (f_X9_child σ l1 l2 (0 : Int32)).bind (fun p7 => (if xk σ l1 9 = true then (f_X9_child σ l1 l2 (1 : Int32)).bind (fun p8 => (if xk σ l0 7 = true then (f_X7_meaningOf σ l0 l1 l2).bind (fun p9 => (if p9 = (0 : Int32) then f_X7_addDerivative_j177 R σ l0 l1 l2 l3 l4 p7 p8 else (if p9 = (1 : Int32) then f_X7_addDerivative_j177 R σ l0 l1 l2 l3 l4 p7 p8 else (if p9 = (2 : Int32) then f_X7_addDerivative_j225 R σ l0 l1 l2 l3 l4 p7 p8 p9 else (if p9 = (3 : Int32) then f_X7_addDerivative_j225 R σ l0 l1 l2 l3 l4 p7 p8 p9 else (if p9 = (4 : Int32) then f_X7_addDerivative_j392 R σ l0 l1 l2 l3 l4 p7 p8 else (if p9 = (5 : Int32) then f_X7_addDerivative_j392 R σ l0 l1 l2 l3 l4 p7 p8 else (if p9 = (6 : Int32) then f_X7_addDerivative_j392 R σ l0 l1 l2 l3 l4 p7 p8 else (if p9 = (7 : Int32) then f_X7_addDerivative_j392 R σ l0 l1 l2 l3 l4 p7 p8 else (if p9 = (8 : Int32) then f_X7_addDerivative_j392 R σ l0 l1 l2 l3 l4 p7 p8 else (if p9 = (9 : Int32) then f_X7_addDerivative_j392 R σ l0 l1 l2 l3 l4 p7 p8 else (if p9 = (10 : Int32) then f_X7_addDerivative_j392 R σ l0 l1 l2 l3 l4 p7 p8 else (if p9 = (11 : Int32) then (gR σ l0 7 2).bind (fun x45 => (if xk σ x45 9 = true then (f_X9_addNode σ x45 l1 l2).bind (fun p46 => (if p46.1 = (0 : Int32) then f_X7_addDerivative_j175 R p46.2 else (if xk p46.2 l0 7 = true then (R p46.2 l0 l1 p7 l3 (l4 + (1 : Int32))).bind (fun p48 => (if p48.1 = (0 : Int32) then f_X7_addDerivative_j175 R p48.2 else f_X7_addDerivative_j176 R p48.2 (1 : Int32))) else none))) else none)) else f_X7_addDerivative_j392 R σ l0 l1 l2 l3 l4 p7 p8))))))))))))) else none)) else none)) else none))) else some ((0 : Int32), σ))))
set_option maxHeartbeats 4000000 in
set_option maxRecDepth 20000 in
theorem m_X7_addDerivative_b {G : xG} {π : Nat → Nat} {d C Z : Nat} {Q : xQ} {R : xM → Nat → Nat → Int32 → Int32 → Int32 → Option (Int32 × xM)} (hrec : ∀ (e C Z : Nat) (Q : xQ) (σ : xM) (l0 : Nat) (l1 : Nat) (l2 : Int32) (l3 : Int32) (l4 : Int32) (x : (Int32 × xM)), R σ l0 l1 l2 l3 l4 = some x → (∀ g, x = g → Q (.inl (some (.int g.1))) (g.2) π) → xMach G π J_X7_addDerivative ((d + e) + 5) C Z 0 (lv_args 0 [.ref l0, .ref l1, .int l2, .int l3, .int l4]) [] σ Q) {σ : xM} {l0 : Nat} {l1 : Nat} {l2 : Int32} {l3 : Int32} {l4 : Int32} {x : (Int32 × xM)} (hf : f_X7_addDerivative_b R σ l0 l1 l2 l3 l4 = some x) (hR : ∀ g, x = g → Q (.inl (some (.int g.1))) (g.2) π) : xMach G π J_X7_addDerivative (d + 6) C Z 0 (lv_args 0 [.ref l0, .ref l1, .int l2, .int l3, .int l4]) [] σ Q := by
  unfold f_X7_addDerivative_b at hf
  refine xm_stL (L' := [(0, .ref l0), (1, .ref l1), (2, .int l2), (3, .int l3), (4, .int l4)]) rfl ?_
  refine xm_aload_n dX7_addDerivative_0 rfl ?_
  refine xb_getR (a := l1) (c := 9) (k := 0) dX7_addDerivative_1 xcl9 (by decide) xw_192 rfl hf (fun x1 ex1 hf => ?_)
  refine xm_iload_n dX7_addDerivative_4 rfl ?_
  refine xb_iald dX7_addDerivative_5 hf (fun x2 ex2 hf => ?_)
  refine xm_istore dX7_addDerivative_6 (by decide) (xm_stL (L' := [(5, .int x2), (0, .ref l0), (1, .ref l1), (2, .int l2), (3, .int l3), (4, .int l4)]) rfl ?_)
  refine xm_iload dX7_addDerivative_8 rfl ?_
  refine xm_bipush dX7_addDerivative_10 (v := 80) (by decide) ?_
  refine xb_icmp_le 17 dX7_addDerivative_12 (by decide) hf (fun c hf => ?_) (fun c hf => ?_)
  · refine xm_iload dX7_addDerivative_17 rfl ?_
    refine xb_if_eq 28 dX7_addDerivative_19 (by decide) hf (fun c hf => ?_) (fun c hf => ?_)
    · exact xm_sub [1, 2, 3, 4, 0] rfl (L_X7_addDerivative_j28 hrec σ l0 l1 l2 l3 x2 hf hR)
    · refine xm_iload dX7_addDerivative_22 rfl ?_
      refine xm_iconst dX7_addDerivative_24 (v := 1) (by decide) ?_
      refine xb_icmp_ne 54 dX7_addDerivative_25 (by decide) hf (fun c hf => ?_) (fun c hf => ?_)
      · refine xm_aload_n dX7_addDerivative_54 rfl ?_
        refine xm_iload_n dX7_addDerivative_55 rfl ?_
        refine xm_iconst dX7_addDerivative_56 (v := 0) (by decide) ?_
        refine xb_if hf (fun hb hf => ?_) (fun _ q => nomatch q)
        obtain ⟨p7, ep7, hf⟩ := xbind hf
        refine xb_callV (As := [.int l2, .int (0 : Int32)]) (v0 := (some (.int p7))) (τ0 := σ) dX7_addDerivative_57 (xc_X9_child _ _) xcl9 xw_1378 xw_1018 xw_1019 hb rfl (Nat.le_of_ble_eq_true rfl) rfl (Nat.le_of_ble_eq_true rfl) (fun Q1 hq => m_X9_child (d := d + 4) ep7 (fun g hg => by subst hg; exact hq)) ?_
        refine xm_istore dX7_addDerivative_60 (by decide) (xm_stL (L' := [(6, .int p7), (5, .int x2), (0, .ref l0), (1, .ref l1), (2, .int l2), (3, .int l3), (4, .int l4)]) rfl ?_)
        refine xm_aload_n dX7_addDerivative_62 rfl ?_
        refine xm_iload_n dX7_addDerivative_63 rfl ?_
        refine xm_iconst dX7_addDerivative_64 (v := 1) (by decide) ?_
        refine xb_if hf (fun hb hf => ?_) (fun _ q => nomatch q)
        obtain ⟨p8, ep8, hf⟩ := xbind hf
        refine xb_callV (As := [.int l2, .int (1 : Int32)]) (v0 := (some (.int p8))) (τ0 := σ) dX7_addDerivative_65 (xc_X9_child _ _) xcl9 xw_1378 xw_1018 xw_1019 hb rfl (Nat.le_of_ble_eq_true rfl) rfl (Nat.le_of_ble_eq_true rfl) (fun Q1 hq => m_X9_child (d := d + 4) ep8 (fun g hg => by subst hg; exact hq)) ?_
        refine xm_istore dX7_addDerivative_68 (by decide) (xm_stL (L' := [(7, .int p8), (6, .int p7), (5, .int x2), (0, .ref l0), (1, .ref l1), (2, .int l2), (3, .int l3), (4, .int l4)]) rfl ?_)
        refine xm_aload_n dX7_addDerivative_70 rfl ?_
        refine xm_aload_n dX7_addDerivative_71 rfl ?_
        refine xm_iload_n dX7_addDerivative_72 rfl ?_
        refine xb_if hf (fun hb hf => ?_) (fun _ q => nomatch q)
        obtain ⟨p9, ep9, hf⟩ := xbind hf
        refine xb_callV (As := [.ref l1, .int l2]) (v0 := (some (.int p9))) (τ0 := σ) dX7_addDerivative_73 (xc_X7_meaningOf _ _) xcl7 xw_1373 xw_1375 xs_56 hb rfl (Nat.le_of_ble_eq_true rfl) rfl (Nat.le_of_ble_eq_true rfl) (fun Q1 hq => m_X7_meaningOf (d := d + 3) ep9 (fun g hg => by subst hg; exact hq)) ?_
        refine xm_istore dX7_addDerivative_76 (by decide) (xm_stL (L' := [(8, .int p9), (7, .int p8), (6, .int p7), (5, .int x2), (0, .ref l0), (1, .ref l1), (2, .int l2), (3, .int l3), (4, .int l4)]) rfl ?_)
        refine xm_iload dX7_addDerivative_78 rfl ?_
        refine xb_if hf (fun c hf => ?_) (fun n0 hf => ?_)
        · refine xm_tableIn 177 dX7_addDerivative_80 (by rw [c]; decide) (by rw [c]; decide) (by rw [c]; rfl) (by decide) ?_
          exact xm_sub [4, 5, 6, 7, 8, 2, 1] rfl (L_X7_addDerivative_j177 hrec σ l0 l1 l2 l3 l4 p7 p8 hf hR)
        refine xb_if hf (fun c hf => ?_) (fun n1 hf => ?_)
        · refine xm_tableIn 177 dX7_addDerivative_80 (by rw [c]; decide) (by rw [c]; decide) (by rw [c]; rfl) (by decide) ?_
          exact xm_sub [4, 5, 6, 7, 8, 2, 1] rfl (L_X7_addDerivative_j177 hrec σ l0 l1 l2 l3 l4 p7 p8 hf hR)
        refine xb_if hf (fun c hf => ?_) (fun n2 hf => ?_)
        · refine xm_tableIn 225 dX7_addDerivative_80 (by rw [c]; decide) (by rw [c]; decide) (by rw [c]; rfl) (by decide) ?_
          exact xm_sub [4, 5, 6, 7, 8, 2, 1, 0] rfl (L_X7_addDerivative_j225 hrec σ l0 l1 l2 l3 l4 p7 p8 p9 hf hR)
        refine xb_if hf (fun c hf => ?_) (fun n3 hf => ?_)
        · refine xm_tableIn 225 dX7_addDerivative_80 (by rw [c]; decide) (by rw [c]; decide) (by rw [c]; rfl) (by decide) ?_
          exact xm_sub [4, 5, 6, 7, 8, 2, 1, 0] rfl (L_X7_addDerivative_j225 hrec σ l0 l1 l2 l3 l4 p7 p8 p9 hf hR)
        refine xb_if hf (fun c hf => ?_) (fun n4 hf => ?_)
        · refine xm_tableIn 392 dX7_addDerivative_80 (by rw [c]; decide) (by rw [c]; decide) (by rw [c]; rfl) (by decide) ?_
          exact xm_sub [4, 5, 6, 7, 8, 2, 1] rfl (L_X7_addDerivative_j392 hrec σ l0 l1 l2 l3 l4 p7 p8 hf hR)
        refine xb_if hf (fun c hf => ?_) (fun n5 hf => ?_)
        · refine xm_tableIn 392 dX7_addDerivative_80 (by rw [c]; decide) (by rw [c]; decide) (by rw [c]; rfl) (by decide) ?_
          exact xm_sub [4, 5, 6, 7, 8, 2, 1] rfl (L_X7_addDerivative_j392 hrec σ l0 l1 l2 l3 l4 p7 p8 hf hR)
        refine xb_if hf (fun c hf => ?_) (fun n6 hf => ?_)
        · refine xm_tableIn 392 dX7_addDerivative_80 (by rw [c]; decide) (by rw [c]; decide) (by rw [c]; rfl) (by decide) ?_
          exact xm_sub [4, 5, 6, 7, 8, 2, 1] rfl (L_X7_addDerivative_j392 hrec σ l0 l1 l2 l3 l4 p7 p8 hf hR)
        refine xb_if hf (fun c hf => ?_) (fun n7 hf => ?_)
        · refine xm_tableIn 392 dX7_addDerivative_80 (by rw [c]; decide) (by rw [c]; decide) (by rw [c]; rfl) (by decide) ?_
          exact xm_sub [4, 5, 6, 7, 8, 2, 1] rfl (L_X7_addDerivative_j392 hrec σ l0 l1 l2 l3 l4 p7 p8 hf hR)
        refine xb_if hf (fun c hf => ?_) (fun n8 hf => ?_)
        · refine xm_tableIn 392 dX7_addDerivative_80 (by rw [c]; decide) (by rw [c]; decide) (by rw [c]; rfl) (by decide) ?_
          exact xm_sub [4, 5, 6, 7, 8, 2, 1] rfl (L_X7_addDerivative_j392 hrec σ l0 l1 l2 l3 l4 p7 p8 hf hR)
        refine xb_if hf (fun c hf => ?_) (fun n9 hf => ?_)
        · refine xm_tableIn 392 dX7_addDerivative_80 (by rw [c]; decide) (by rw [c]; decide) (by rw [c]; rfl) (by decide) ?_
          exact xm_sub [4, 5, 6, 7, 8, 2, 1] rfl (L_X7_addDerivative_j392 hrec σ l0 l1 l2 l3 l4 p7 p8 hf hR)
        refine xb_if hf (fun c hf => ?_) (fun n10 hf => ?_)
        · refine xm_tableIn 392 dX7_addDerivative_80 (by rw [c]; decide) (by rw [c]; decide) (by rw [c]; rfl) (by decide) ?_
          exact xm_sub [4, 5, 6, 7, 8, 2, 1] rfl (L_X7_addDerivative_j392 hrec σ l0 l1 l2 l3 l4 p7 p8 hf hR)
        refine xb_if hf (fun c hf => ?_) (fun n11 hf => ?_)
        · refine xm_tableIn 144 dX7_addDerivative_80 (by rw [c]; decide) (by rw [c]; decide) (by rw [c]; rfl) (by decide) ?_
          refine xm_aload_n dX7_addDerivative_144 rfl ?_
          refine xb_getR (a := l0) (c := 7) (k := 2) dX7_addDerivative_145 xcl7 (by decide) xw_523 rfl hf (fun x45 ex45 hf => ?_)
          refine xm_aload_n dX7_addDerivative_148 rfl ?_
          refine xm_iload_n dX7_addDerivative_149 rfl ?_
          refine xb_if hf (fun hb hf => ?_) (fun _ q => nomatch q)
          obtain ⟨p46, ep46, hf⟩ := xbind hf
          refine xb_callV (As := [.ref l1, .int l2]) (v0 := (some (.int p46.1))) (τ0 := p46.2) dX7_addDerivative_150 (xc_X9_addNode _ _) xcl9 xw_1442 xw_834 xw_835 hb rfl (Nat.le_of_ble_eq_true rfl) rfl (Nat.le_of_ble_eq_true rfl) (fun Q1 hq => m_X9_addNode (d := d + 4) ep46 (fun g hg => by subst hg; exact hq)) ?_
          refine xb_if_eq 175 dX7_addDerivative_153 (by decide) hf (fun c hf => ?_) (fun c hf => ?_)
          · exact xm_sub [] rfl (L_X7_addDerivative_j175 hrec p46.2 hf hR)
          · refine xm_aload_n dX7_addDerivative_156 rfl ?_
            refine xm_aload_n dX7_addDerivative_157 rfl ?_
            refine xm_iload dX7_addDerivative_158 rfl ?_
            refine xm_iload_n dX7_addDerivative_160 rfl ?_
            refine xm_iload dX7_addDerivative_161 rfl ?_
            refine xm_iconst dX7_addDerivative_163 (v := 1) (by decide) ?_
            refine xm_iadd dX7_addDerivative_164 ?_
            refine xb_if hf (fun hb hf => ?_) (fun _ q => nomatch q)
            obtain ⟨p48, ep48, hf⟩ := xbind hf
            refine xb_callV (As := [.ref l1, .int p7, .int l3, .int (l4 + (1 : Int32))]) (v0 := (some (.int p48.1))) (τ0 := p48.2) dX7_addDerivative_165 (xc_X7_addDerivative _ _) xcl7 xw_1433 xw_1435 xs_61 hb rfl (Nat.le_of_ble_eq_true rfl) rfl (Nat.le_of_ble_eq_true rfl) (fun Q1 hq => hrec 0 _ _ Q1 _ _ _ _ _ _ _ ep48 (fun g hg => by subst hg; exact hq)) ?_
            refine xb_if_eq 175 dX7_addDerivative_168 (by decide) hf (fun c hf => ?_) (fun c hf => ?_)
            · exact xm_sub [] rfl (L_X7_addDerivative_j175 hrec p48.2 hf hR)
            · refine xm_iconst dX7_addDerivative_171 (v := 1) (by decide) ?_
              refine xm_goto 176 dX7_addDerivative_172 (by decide) ?_
              exact xm_sub [] rfl (L_X7_addDerivative_j176 hrec p48.2 (1 : Int32) hf hR)
        refine xm_tableOut 392 dX7_addDerivative_80 (by have q0 := lv_neT (a := 0) n0 (by decide); have q1 := lv_neT (a := 1) n1 (by decide); have q2 := lv_neT (a := 2) n2 (by decide); have q3 := lv_neT (a := 3) n3 (by decide); have q4 := lv_neT (a := 4) n4 (by decide); have q5 := lv_neT (a := 5) n5 (by decide); have q6 := lv_neT (a := 6) n6 (by decide); have q7 := lv_neT (a := 7) n7 (by decide); have q8 := lv_neT (a := 8) n8 (by decide); have q9 := lv_neT (a := 9) n9 (by decide); have q10 := lv_neT (a := 10) n10 (by decide); have q11 := lv_neT (a := 11) n11 (by decide); omega) (by decide) ?_
        exact xm_sub [4, 5, 6, 7, 8, 2, 1] rfl (L_X7_addDerivative_j392 hrec σ l0 l1 l2 l3 l4 p7 p8 hf hR)
      · exact xm_sub [1, 2, 3, 4, 0] rfl (L_X7_addDerivative_j28 hrec σ l0 l1 l2 l3 x2 hf hR)
  · refine xm_iconst dX7_addDerivative_15 (v := 0) (by decide) ?_
    cases hf
    exact xm_zret dX7_addDerivative_16 rfl rfl (hR _ rfl)
def fr_X7_addDerivative (n : Nat) : xM → Nat → Nat → Int32 → Int32 → Int32 → Option (Int32 × xM) := Nat.rec (motive := fun _ => xM → Nat → Nat → Int32 → Int32 → Int32 → Option (Int32 × xM)) (fun _ _ _ _ _ _ => none) (fun _ R => f_X7_addDerivative_b R) n
def f_X7_addDerivative : xM → Nat → Nat → Int32 → Int32 → Int32 → Option (Int32 × xM) := fr_X7_addDerivative 200
theorem mr_X7_addDerivative {G : xG} {π : Nat → Nat} : ∀ (n d C Z : Nat) (Q : xQ) (σ : xM) (l0 : Nat) (l1 : Nat) (l2 : Int32) (l3 : Int32) (l4 : Int32) (x : (Int32 × xM)), fr_X7_addDerivative n σ l0 l1 l2 l3 l4 = some x → (∀ g, x = g → Q (.inl (some (.int g.1))) (g.2) π) → xMach G π J_X7_addDerivative ((d + 2 * n) + 5) C Z 0 (lv_args 0 [.ref l0, .ref l1, .int l2, .int l3, .int l4]) [] σ Q := by
  intro n
  induction n with
  | zero => intro d C Z Q σ l0 l1 l2 l3 l4 x hf; cases hf
  | succ n ih =>
    intro d C Z Q σ l0 l1 l2 l3 l4 x hf hR
    rw [show (d + 2 * (n + 1)) + 5 = ((d + 1) + 2 * n) + 6 from by omega]
    exact m_X7_addDerivative_b (R := fr_X7_addDerivative n) (fun e C Z Q σ l0 l1 l2 l3 l4 x h1 h2 => by
      have h := ih (d + 1 + e) C Z Q σ l0 l1 l2 l3 l4 x h1 h2
      rwa [show (d + 1 + e) + 2 * n + 5 = ((d + 1) + 2 * n) + e + 5 from by omega] at h) hf hR
theorem m_X7_addDerivative {G : xG} {π : Nat → Nat} {d C Z : Nat} {Q : xQ} {σ : xM} {l0 : Nat} {l1 : Nat} {l2 : Int32} {l3 : Int32} {l4 : Int32} {x : (Int32 × xM)} (hf : f_X7_addDerivative σ l0 l1 l2 l3 l4 = some x) (hR : ∀ g, x = g → Q (.inl (some (.int g.1))) (g.2) π) : xMach G π J_X7_addDerivative (d + 405) C Z 0 (lv_args 0 [.ref l0, .ref l1, .int l2, .int l3, .int l4]) [] σ Q := mr_X7_addDerivative 200 d C Z Q σ l0 l1 l2 l3 l4 x hf hR
-- Rankwise$Rewriter.differentiate(LRankwise$Tree;I)Z
def f_X7_differentiate_j26 (σ : xM)  : Option (Int32 × xM) :=
  some ((0 : Int32), σ)
set_option maxHeartbeats 4000000 in
set_option maxRecDepth 20000 in
theorem L_X7_differentiate_j26 {G : xG} {π : Nat → Nat} {d C Z : Nat} {Q : xQ} (σ : xM)  {x : (Int32 × xM)} (hf : f_X7_differentiate_j26 σ = some x) (hR : ∀ g, x = g → Q (.inl (some (.int g.1))) (g.2) π) : xMach G π J_X7_differentiate (d + 406) C Z 26 [] [] σ Q := by
  unfold f_X7_differentiate_j26 at hf
  refine xm_iconst dX7_differentiate_26 (v := 0) (by decide) ?_
  cases hf
  exact xm_zret dX7_differentiate_27 rfl rfl (hR _ rfl)
def f_X7_differentiate (σ : xM) (l0 : Nat) (l1 : Nat) (l2 : Int32) : Option (Int32 × xM) :=
  (gR σ l0 7 2).bind (fun x1 => (if xk σ x1 9 = true then (f_X9_clear σ x1).bind (fun p2 => (if xk p2 l0 7 = true then (f_X7_hasRules p2 l0 l1).bind (fun p3 => (if p3 = (0 : Int32) then f_X7_differentiate_j26 p2 else (if xk p2 l0 7 = true then (f_X7_addDerivative p2 l0 l1 (0 : Int32) l2 (0 : Int32)).bind (fun p4 => (if p4.1 = (0 : Int32) then f_X7_differentiate_j26 p4.2 else (gR p4.2 l0 7 2).bind (fun x5 => (if xk p4.2 x5 9 = true then (f_X9_measure p4.2 x5).bind (fun p6 => some ((1 : Int32), p6)) else none)))) else none))) else none)) else none))
set_option maxHeartbeats 4000000 in
set_option maxRecDepth 20000 in
theorem m_X7_differentiate {G : xG} {π : Nat → Nat} {d C Z : Nat} {Q : xQ} {σ : xM} {l0 : Nat} {l1 : Nat} {l2 : Int32} {x : (Int32 × xM)} (hf : f_X7_differentiate σ l0 l1 l2 = some x) (hR : ∀ g, x = g → Q (.inl (some (.int g.1))) (g.2) π) : xMach G π J_X7_differentiate (d + 406) C Z 0 (lv_args 0 [.ref l0, .ref l1, .int l2]) [] σ Q := by
  unfold f_X7_differentiate at hf
  refine xm_stL (L' := [(0, .ref l0), (1, .ref l1), (2, .int l2)]) rfl ?_
  refine xm_aload_n dX7_differentiate_0 rfl ?_
  refine xb_getR (a := l0) (c := 7) (k := 2) dX7_differentiate_1 xcl7 (by decide) xw_523 rfl hf (fun x1 ex1 hf => ?_)
  refine xb_if hf (fun hb hf => ?_) (fun _ q => nomatch q)
  obtain ⟨p2, ep2, hf⟩ := xbind hf
  refine xb_callV (As := []) (v0 := none) (τ0 := p2) dX7_differentiate_4 (xc_X9_clear _ _) xcl9 xw_1428 xw_744 xw_745 hb rfl (Nat.le_of_ble_eq_true rfl) rfl (Nat.le_of_ble_eq_true rfl) (fun Q1 hq => m_X9_clear (d := d + 405) ep2 (fun g hg => by subst hg; exact hq)) ?_
  refine xm_aload_n dX7_differentiate_7 rfl ?_
  refine xm_aload_n dX7_differentiate_8 rfl ?_
  refine xb_if hf (fun hb hf => ?_) (fun _ q => nomatch q)
  obtain ⟨p3, ep3, hf⟩ := xbind hf
  refine xb_callV (As := [.ref l1]) (v0 := (some (.int p3))) (τ0 := p2) dX7_differentiate_9 (xc_X7_hasRules _ _) xcl7 xw_1429 xw_1430 xw_1431 hb rfl (Nat.le_of_ble_eq_true rfl) rfl (Nat.le_of_ble_eq_true rfl) (fun Q1 hq => m_X7_hasRules (d := d + 402) ep3 (fun g hg => by subst hg; exact hq)) ?_
  refine xb_if_eq 26 dX7_differentiate_12 (by decide) hf (fun c hf => ?_) (fun c hf => ?_)
  · exact xm_sub [] rfl (L_X7_differentiate_j26 p2 hf hR)
  · refine xm_aload_n dX7_differentiate_15 rfl ?_
    refine xm_aload_n dX7_differentiate_16 rfl ?_
    refine xm_iconst dX7_differentiate_17 (v := 0) (by decide) ?_
    refine xm_iload_n dX7_differentiate_18 rfl ?_
    refine xm_iconst dX7_differentiate_19 (v := 0) (by decide) ?_
    refine xb_if hf (fun hb hf => ?_) (fun _ q => nomatch q)
    obtain ⟨p4, ep4, hf⟩ := xbind hf
    refine xb_callV (As := [.ref l1, .int (0 : Int32), .int l2, .int (0 : Int32)]) (v0 := (some (.int p4.1))) (τ0 := p4.2) dX7_differentiate_20 (xc_X7_addDerivative _ _) xcl7 xw_1433 xw_1435 xs_61 hb rfl (Nat.le_of_ble_eq_true rfl) rfl (Nat.le_of_ble_eq_true rfl) (fun Q1 hq => m_X7_addDerivative (d := d + 0) ep4 (fun g hg => by subst hg; exact hq)) ?_
    refine xb_if_ne 28 dX7_differentiate_23 (by decide) hf (fun c hf => ?_) (fun c hf => ?_)
    · refine xm_aload_n dX7_differentiate_28 rfl ?_
      refine xb_getR (a := l0) (c := 7) (k := 2) dX7_differentiate_29 xcl7 (by decide) xw_523 rfl hf (fun x5 ex5 hf => ?_)
      refine xb_if hf (fun hb hf => ?_) (fun _ q => nomatch q)
      obtain ⟨p6, ep6, hf⟩ := xbind hf
      refine xb_callV (As := []) (v0 := none) (τ0 := p6) dX7_differentiate_32 (xc_X9_measure _ _) xcl9 xw_1472 xw_816 xw_817 hb rfl (Nat.le_of_ble_eq_true rfl) rfl (Nat.le_of_ble_eq_true rfl) (fun Q1 hq => m_X9_measure (d := d + 405) ep6 (fun g hg => by subst hg; exact hq)) ?_
      refine xm_iconst dX7_differentiate_35 (v := 1) (by decide) ?_
      cases hf
      exact xm_zret dX7_differentiate_36 rfl rfl (hR _ rfl)
    · exact xm_sub [] rfl (L_X7_differentiate_j26 p4.2 hf hR)
