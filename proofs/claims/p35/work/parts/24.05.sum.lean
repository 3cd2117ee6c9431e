def f_L_sum_s21 (σ : xM) (s : (Nat × Int32 × Int32 × Int32 × Int32)) : Option ((Int32 × xM) ⊕ ((Nat × Int32 × Int32) ⊕ (Nat × Int32 × Int32 × Int32 × Int32))) :=
  xlet s.1 (fun l0 => xlet s.2.1 (fun l1 => xlet s.2.2.1 (fun l2 => xlet s.2.2.2.1 (fun l3 => xlet s.2.2.2.2 (fun l4 => (if l3 ≤ l4 then some (Sum.inr (Sum.inl (l0, l1, l2))) else (if xk σ l0 11 = true then (f_X11_out σ l0 l4).bind (fun p7 => Sum.elim (fun w8 => xlet (((31 : Int32) * l1) + w8) (fun v9 => xlet (l4 + (1 : Int32)) (fun v10 => some (Sum.inr (Sum.inr (l0, v9, l2, l3, v10)))))) (fun _ => none) p7) else none)))))))
set_option maxHeartbeats 4000000 in
set_option maxRecDepth 20000 in
theorem L_L_sum_s21 {G : xG} {π : Nat → Nat} {d C Z : Nat} {Q : xQ} (σ : xM) (l0 : Nat) (l1 : Int32) (l2 : Int32) (l3 : Int32) (l4 : Int32) {x : ((Int32 × xM) ⊕ ((Nat × Int32 × Int32) ⊕ (Nat × Int32 × Int32 × Int32 × Int32)))} (hf : f_L_sum_s21 σ (l0, l1, l2, l3, l4) = some x) (hR : ∀ g, x = Sum.inl (g) → Q (.inl (some (.int g.1))) (g.2) π) (hE : ∀ e : (Nat × Int32 × Int32), x = Sum.inr (Sum.inl e) → xMach G π J_L_sum (d + 8) C Z 45 [(0, .ref e.1), (1, .int e.2.1), (2, .int e.2.2)] [] σ Q) (hC : ∀ e : (Nat × Int32 × Int32 × Int32 × Int32), x = Sum.inr (Sum.inr e) → xMach G π J_L_sum (d + 8) C Z 21 [(0, .ref e.1), (1, .int e.2.1), (2, .int e.2.2.1), (3, .int e.2.2.2.1), (4, .int e.2.2.2.2)] [] σ Q) : xMach G π J_L_sum (d + 8) C Z 21 [(0, .ref l0), (1, .int l1), (2, .int l2), (3, .int l3), (4, .int l4)] [] σ Q := by
  have hf : (if l3 ≤ l4 then some (Sum.inr (Sum.inl (l0, l1, l2))) else (if xk σ l0 11 = true then (f_X11_out σ l0 l4).bind (fun p7 => Sum.elim (fun w8 => xlet (((31 : Int32) * l1) + w8) (fun v9 => xlet (l4 + (1 : Int32)) (fun v10 => some (Sum.inr (Sum.inr (l0, v9, l2, l3, v10)))))) (fun _ => none) p7) else none)) = some x := hf
  refine xm_iload dL_sum_21 rfl ?_
  refine xm_iload_n dL_sum_23 rfl ?_
  refine xb_icmp_ge 45 dL_sum_24 (by decide) hf (fun c hf => ?_) (fun c hf => ?_)
  · cases hf
    exact xm_sub [0, 1, 2] rfl (hE _ rfl)
  · refine xm_bipush dL_sum_27 (v := 31) (by decide) ?_
    refine xm_iload_n dL_sum_29 rfl ?_
    refine xm_imul dL_sum_30 ?_
    refine xm_aload_n dL_sum_31 rfl ?_
    refine xm_iload dL_sum_32 rfl ?_
    refine xb_if hf (fun hb hf => ?_) (fun _ q => nomatch q)
    obtain ⟨p7, ep7, hf⟩ := xbind hf
    rcases p7 with w8 | E
    · rw [Sum.elim_inl] at hf
      have hf : xlet (((31 : Int32) * l1) + w8) (fun v9 => xlet (l4 + (1 : Int32)) (fun v10 => some (Sum.inr (Sum.inr (l0, v9, l2, l3, v10))))) = some _ := hf
      refine xb_callV (As := [.int l4]) (v0 := (some (.int w8))) (τ0 := σ) dL_sum_34 (xc_X11_out _ _) xcl11 xw_1525 xw_1526 xw_1527 hb rfl (Nat.le_of_ble_eq_true rfl) rfl (Nat.le_of_ble_eq_true rfl) (fun Q1 hq => m_X11_out (d := d + 0) ep7 (fun g hg => by subst hg; exact hq)) ?_
      refine xm_iadd dL_sum_37 ?_
      refine xb_topi hf (fun v9 ev9 hf => ?_)
      refine xm_istore_n dL_sum_38 (by decide) (xm_stL (L' := [(1, .int v9), (0, .ref l0), (2, .int l2), (3, .int l3), (4, .int l4)]) rfl ?_)
      refine xb_iinc dL_sum_39 rfl (by decide) (by decide) hf (fun v10 ev10 hf => xm_stL (L' := [(4, .int v10), (1, .int v9), (0, .ref l0), (2, .int l2), (3, .int l3)]) rfl ?_)
      refine xm_goto 21 dL_sum_42 (by decide) ?_
      cases hf
      exact xm_sub [2, 1, 3, 4, 0] rfl (hC _ rfl)
    · cases hf
theorem L_L_sum_l21 {G : xG} {π : Nat → Nat} {d C Z : Nat} {Q : xQ} (σ : xM) {s0 : (Nat × Int32 × Int32 × Int32 × Int32)} {x : ((Int32 × xM) ⊕ (Nat × Int32 × Int32))} (h1 : xloop (f_L_sum_s21 σ) xF s0 = some x) (hR : ∀ g, x = Sum.inl g → Q (.inl (some (.int g.1))) (g.2) π) (hE : ∀ e : (Nat × Int32 × Int32), x = Sum.inr e → xMach G π J_L_sum (d + 8) C Z 45 [(0, .ref e.1), (1, .int e.2.1), (2, .int e.2.2)] [] σ Q) : xMach G π J_L_sum (d + 8) C Z 21 [(0, .ref s0.1), (1, .int s0.2.1), (2, .int s0.2.2.1), (3, .int s0.2.2.2.1), (4, .int s0.2.2.2.2)] [] σ Q := by
  refine xloop_run (M := (fun s : (Nat × Int32 × Int32 × Int32 × Int32) => xMach G π J_L_sum (d + 8) C Z 21 [(0, .ref s.1), (1, .int s.2.1), (2, .int s.2.2.1), (3, .int s.2.2.2.1), (4, .int s.2.2.2.2)] [] σ Q)) (r := x) ?_ xF _ h1
  intro s y hs hx
  exact L_L_sum_s21 σ s.1 s.2.1 s.2.2.1 s.2.2.2.1 s.2.2.2.2 (x := y) hs (fun g hg => by subst hg; exact hR g hx) (fun e he => by subst he; exact hE e hx) (fun e he => by subst he; exact hx)
def f_L_sum_j45 (σ : xM) (l0 : Nat) (l1 : Int32) (l2 : Int32) : Option ((Int32 × xM) ⊕ ((Int32 × xM) ⊕ (Nat × Int32 × Int32 × xM))) :=
  xlet (l2 + (1 : Int32)) (fun v11 => some (Sum.inr (Sum.inr (l0, l1, v11, σ))))
set_option maxHeartbeats 4000000 in
set_option maxRecDepth 20000 in
theorem L_L_sum_j45 {G : xG} {π : Nat → Nat} {d C Z : Nat} {Q : xQ} (σ : xM) (l0 : Nat) (l1 : Int32) (l2 : Int32) {x : ((Int32 × xM) ⊕ ((Int32 × xM) ⊕ (Nat × Int32 × Int32 × xM)))} (hf : f_L_sum_j45 σ l0 l1 l2 = some x) (hR : ∀ g, x = Sum.inl (g) → Q (.inl (some (.int g.1))) (g.2) π) (hE : ∀ e : (Int32 × xM), x = Sum.inr (Sum.inl e) → xMach G π J_L_sum (d + 8) C Z 51 [(1, .int e.1)] [] e.2 Q) (hC : ∀ e : (Nat × Int32 × Int32 × xM), x = Sum.inr (Sum.inr e) → xMach G π J_L_sum (d + 8) C Z 5 [(0, .ref e.1), (1, .int e.2.1), (2, .int e.2.2.1)] [] e.2.2.2 Q) : xMach G π J_L_sum (d + 8) C Z 45 [(0, .ref l0), (1, .int l1), (2, .int l2)] [] σ Q := by
  unfold f_L_sum_j45 at hf
  refine xb_iinc dL_sum_45 rfl (by decide) (by decide) hf (fun v11 ev11 hf => xm_stL (L' := [(2, .int v11), (0, .ref l0), (1, .int l1)]) rfl ?_)
  refine xm_goto 5 dL_sum_48 (by decide) ?_
  cases hf
  exact xm_sub [1, 2, 0] rfl (hC _ rfl)
def f_L_sum_s5 (s : (Nat × Int32 × Int32 × xM)) : Option ((Int32 × xM) ⊕ ((Int32 × xM) ⊕ (Nat × Int32 × Int32 × xM))) :=
  xlet s.1 (fun l0 => xlet s.2.1 (fun l1 => xlet s.2.2.1 (fun l2 => xlet s.2.2.2 (fun σ => (if (2 : Int32) ≤ l2 then some (Sum.inr (Sum.inl (l1, σ))) else (if xk σ l0 11 = true then (f_X11_answer σ l0 l2 (16 : Int32)).bind (fun p3 => xlet p3.2 (fun σ5 => Sum.elim (fun w4 => xlet (0 : Int32) (fun v6 => (xloop (f_L_sum_s21 σ5 ) xF (l0, l1, l2, w4, v6)).bind (Sum.elim (fun g => some (Sum.inl g)) (fun e => f_L_sum_j45 σ5 e.1 e.2.1 e.2.2)))) (fun _ => none) p3.1)) else none))))))
set_option maxHeartbeats 4000000 in
set_option maxRecDepth 20000 in
theorem L_L_sum_s5 {G : xG} {π : Nat → Nat} {d C Z : Nat} {Q : xQ} (σ : xM) (l0 : Nat) (l1 : Int32) (l2 : Int32) {x : ((Int32 × xM) ⊕ ((Int32 × xM) ⊕ (Nat × Int32 × Int32 × xM)))} (hf : f_L_sum_s5 (l0, l1, l2, σ) = some x) (hR : ∀ g, x = Sum.inl (g) → Q (.inl (some (.int g.1))) (g.2) π) (hE : ∀ e : (Int32 × xM), x = Sum.inr (Sum.inl e) → xMach G π J_L_sum (d + 8) C Z 51 [(1, .int e.1)] [] e.2 Q) (hC : ∀ e : (Nat × Int32 × Int32 × xM), x = Sum.inr (Sum.inr e) → xMach G π J_L_sum (d + 8) C Z 5 [(0, .ref e.1), (1, .int e.2.1), (2, .int e.2.2.1)] [] e.2.2.2 Q) : xMach G π J_L_sum (d + 8) C Z 5 [(0, .ref l0), (1, .int l1), (2, .int l2)] [] σ Q := by
  have hf : (if (2 : Int32) ≤ l2 then some (Sum.inr (Sum.inl (l1, σ))) else (if xk σ l0 11 = true then (f_X11_answer σ l0 l2 (16 : Int32)).bind (fun p3 => xlet p3.2 (fun σ5 => Sum.elim (fun w4 => xlet (0 : Int32) (fun v6 => (xloop (f_L_sum_s21 σ5 ) xF (l0, l1, l2, w4, v6)).bind (Sum.elim (fun g => some (Sum.inl g)) (fun e => f_L_sum_j45 σ5 e.1 e.2.1 e.2.2)))) (fun _ => none) p3.1)) else none)) = some x := hf
  refine xm_iload_n dL_sum_5 rfl ?_
  refine xm_iconst dL_sum_6 (v := 2) (by decide) ?_
  refine xb_icmp_ge 51 dL_sum_7 (by decide) hf (fun c hf => ?_) (fun c hf => ?_)
  · cases hf
    exact xm_sub [1] rfl (hE _ rfl)
  · refine xm_aload_n dL_sum_10 rfl ?_
    refine xm_iload_n dL_sum_11 rfl ?_
    refine xm_bipush dL_sum_12 (v := 16) (by decide) ?_
    refine xb_if hf (fun hb hf => ?_) (fun _ q => nomatch q)
    obtain ⟨p3, ep3, hf⟩ := xbind hf
    rcases p3 with ⟨w4 | E, σ5⟩
    · have hf : xlet (0 : Int32) (fun v6 => (xloop (f_L_sum_s21 σ5 ) xF (l0, l1, l2, w4, v6)).bind (Sum.elim (fun g => some (Sum.inl g)) (fun e => f_L_sum_j45 σ5 e.1 e.2.1 e.2.2))) = some _ := hf
      refine xb_callV (As := [.int l2, .int (16 : Int32)]) (v0 := (some (.int w4))) (τ0 := σ5) dL_sum_14 (xc_X11_answer _ _) xcl11 xw_1544 xw_1545 xw_1546 hb rfl (Nat.le_of_ble_eq_true rfl) rfl (Nat.le_of_ble_eq_true rfl) (fun Q1 hq => m_X11_answer (d := d + 0) ep3 (fun g hg => by subst hg; exact hq)) ?_
      refine xm_istore_n dL_sum_17 (by decide) (xm_stL (L' := [(3, .int w4), (0, .ref l0), (1, .int l1), (2, .int l2)]) rfl ?_)
      refine xm_iconst dL_sum_18 (v := 0) (by decide) ?_
      refine xb_topi hf (fun v6 ev6 hf => ?_)
      refine xm_istore dL_sum_19 (by decide) (xm_stL (L' := [(4, .int v6), (3, .int w4), (0, .ref l0), (1, .int l1), (2, .int l2)]) rfl ?_)
      obtain ⟨o, h1, hf⟩ := xbind hf
      refine xm_sub [2, 3, 4, 1, 0] rfl (L_L_sum_l21 σ5 h1 (fun g hg => ?_) (fun e he => ?_))
      · subst hg
        cases hf
        exact hR _ rfl
      · subst he
        rw [Sum.elim_inr] at hf
        have hf : f_L_sum_j45 σ5 e.1 e.2.1 e.2.2 = some _ := hf
        exact xm_sub [0, 1, 2] rfl (L_L_sum_j45 σ5 e.1 e.2.1 e.2.2 hf hR hE hC)
    · cases hf
theorem L_L_sum_l5 {G : xG} {π : Nat → Nat} {d C Z : Nat} {Q : xQ} {s0 : (Nat × Int32 × Int32 × xM)} {x : ((Int32 × xM) ⊕ (Int32 × xM))} (h1 : xloop (f_L_sum_s5) xF s0 = some x) (hR : ∀ g, x = Sum.inl g → Q (.inl (some (.int g.1))) (g.2) π) (hE : ∀ e : (Int32 × xM), x = Sum.inr e → xMach G π J_L_sum (d + 8) C Z 51 [(1, .int e.1)] [] e.2 Q) : xMach G π J_L_sum (d + 8) C Z 5 [(0, .ref s0.1), (1, .int s0.2.1), (2, .int s0.2.2.1)] [] s0.2.2.2 Q := by
  refine xloop_run (M := (fun s : (Nat × Int32 × Int32 × xM) => xMach G π J_L_sum (d + 8) C Z 5 [(0, .ref s.1), (1, .int s.2.1), (2, .int s.2.2.1)] [] s.2.2.2 Q)) (r := x) ?_ xF _ h1
  intro s y hs hx
  exact L_L_sum_s5 s.2.2.2 s.1 s.2.1 s.2.2.1 (x := y) hs (fun g hg => by subst hg; exact hR g hx) (fun e he => by subst he; exact hE e hx) (fun e he => by subst he; exact hx)
def f_L_sum_j51 (σ : xM) (l1 : Int32) : Option (Int32 × xM) :=
  some (l1, σ)
set_option maxHeartbeats 4000000 in
set_option maxRecDepth 20000 in
theorem L_L_sum_j51 {G : xG} {π : Nat → Nat} {d C Z : Nat} {Q : xQ} (σ : xM) (l1 : Int32) {x : (Int32 × xM)} (hf : f_L_sum_j51 σ l1 = some x) (hR : ∀ g, x = g → Q (.inl (some (.int g.1))) (g.2) π) : xMach G π J_L_sum (d + 8) C Z 51 [(1, .int l1)] [] σ Q := by
  unfold f_L_sum_j51 at hf
  refine xm_iload_n dL_sum_51 rfl ?_
  cases hf
  exact xm_iret dL_sum_52 rfl (hR _ rfl)
def f_L_sum (σ : xM) (l0 : Nat) : Option (Int32 × xM) :=
  xlet (7 : Int32) (fun v1 => xlet (0 : Int32) (fun v2 => (xloop (f_L_sum_s5 ) xF (l0, v1, v2, σ)).bind (Sum.elim (fun g => some g) (fun e => f_L_sum_j51 e.2 e.1))))
set_option maxHeartbeats 4000000 in
set_option maxRecDepth 20000 in
theorem m_L_sum {G : xG} {π : Nat → Nat} {d C Z : Nat} {Q : xQ} {σ : xM} {l0 : Nat} {x : (Int32 × xM)} (hf : f_L_sum σ l0 = some x) (hR : ∀ g, x = g → Q (.inl (some (.int g.1))) (g.2) π) : xMach G π J_L_sum (d + 8) C Z 0 (lv_args 0 [.ref l0]) [] σ Q := by
  unfold f_L_sum at hf
  refine xm_stL (L' := [(0, .ref l0)]) rfl ?_
  refine xm_bipush dL_sum_0 (v := 7) (by decide) ?_
  refine xb_topi hf (fun v1 ev1 hf => ?_)
  refine xm_istore_n dL_sum_2 (by decide) (xm_stL (L' := [(1, .int v1), (0, .ref l0)]) rfl ?_)
  refine xm_iconst dL_sum_3 (v := 0) (by decide) ?_
  refine xb_topi hf (fun v2 ev2 hf => ?_)
  refine xm_istore_n dL_sum_4 (by decide) (xm_stL (L' := [(2, .int v2), (1, .int v1), (0, .ref l0)]) rfl ?_)
  obtain ⟨o, h1, hf⟩ := xbind hf
  refine xm_sub [2, 1, 0] rfl (L_L_sum_l5  h1 (fun g hg => ?_) (fun e he => ?_))
  · subst hg
    cases hf
    exact hR _ rfl
  · subst he
    rw [Sum.elim_inr] at hf
    have hf : f_L_sum_j51 e.2 e.1 = some _ := hf
    exact xm_sub [0] rfl (L_L_sum_j51 e.2 e.1 hf hR)
-- law: types
