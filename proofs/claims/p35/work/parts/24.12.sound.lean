def f_L_sound_j93 (σ : xM) (l0 : Nat) (l1 : Int32) (l3 : Int32) (l4 : Int32) (l5 : Int32) (s0 : Int32) : Option ((Int32 × xM) ⊕ ((Nat × Int32 × Int32 × Int32 × Int32) ⊕ (Nat × Int32 × Int32 × Int32 × Int32 × Int32))) :=
  xlet (l5 + (1 : Int32)) (fun v12 => some (Sum.inr (Sum.inr (l0, l1, s0, l3, l4, v12))))
set_option maxHeartbeats 4000000 in
set_option maxRecDepth 20000 in
theorem L_L_sound_j93 {G : xG} {π : Nat → Nat} {d C Z : Nat} {Q : xQ} (σ : xM) (l0 : Nat) (l1 : Int32) (l3 : Int32) (l4 : Int32) (l5 : Int32) (s0 : Int32) {x : ((Int32 × xM) ⊕ ((Nat × Int32 × Int32 × Int32 × Int32) ⊕ (Nat × Int32 × Int32 × Int32 × Int32 × Int32)))} (hf : f_L_sound_j93 σ l0 l1 l3 l4 l5 s0 = some x) (hR : ∀ g, x = Sum.inl (g) → ∀ π', xag 4562 π π' → Q (.inl (some (.int g.1))) (g.2) π') (hE : ∀ e : (Nat × Int32 × Int32 × Int32 × Int32), x = Sum.inr (Sum.inl e) → xMach G π J_L_sound (d + 409) C Z 100 [(0, .ref e.1), (1, .int e.2.1), (2, .int e.2.2.1), (3, .int e.2.2.2.1), (4, .int e.2.2.2.2)] [] σ Q) (hC : ∀ e : (Nat × Int32 × Int32 × Int32 × Int32 × Int32), x = Sum.inr (Sum.inr e) → xMach G π J_L_sound (d + 409) C Z 40 [(0, .ref e.1), (1, .int e.2.1), (2, .int e.2.2.1), (3, .int e.2.2.2.1), (4, .int e.2.2.2.2.1), (5, .int e.2.2.2.2.2)] [] σ Q) : xMach G π J_L_sound (d + 409) C Z 93 [(0, .ref l0), (1, .int l1), (3, .int l3), (4, .int l4), (5, .int l5)] [.int s0] σ Q := by
  unfold f_L_sound_j93 at hf
  refine xm_istore_n dL_sound_93 (by decide) (xm_stL (L' := [(2, .int s0), (0, .ref l0), (1, .int l1), (3, .int l3), (4, .int l4), (5, .int l5)]) rfl ?_)
  refine xb_iinc dL_sound_94 rfl (by decide) (by decide) hf (fun v12 ev12 hf => xm_stL (L' := [(5, .int v12), (2, .int s0), (0, .ref l0), (1, .int l1), (3, .int l3), (4, .int l4)]) rfl ?_)
  refine xm_goto 40 dL_sound_97 (by decide) ?_
  cases hf
  exact xm_sub [2, 3, 1, 4, 5, 0] rfl (hC _ rfl)
def f_L_sound_j92 (σ : xM) (l0 : Nat) (l1 : Int32) (l3 : Int32) (l4 : Int32) (l5 : Int32) : Option ((Int32 × xM) ⊕ ((Nat × Int32 × Int32 × Int32 × Int32) ⊕ (Nat × Int32 × Int32 × Int32 × Int32 × Int32))) :=
  f_L_sound_j93 σ l0 l1 l3 l4 l5 (0 : Int32)
set_option maxHeartbeats 4000000 in
set_option maxRecDepth 20000 in
theorem L_L_sound_j92 {G : xG} {π : Nat → Nat} {d C Z : Nat} {Q : xQ} (σ : xM) (l0 : Nat) (l1 : Int32) (l3 : Int32) (l4 : Int32) (l5 : Int32) {x : ((Int32 × xM) ⊕ ((Nat × Int32 × Int32 × Int32 × Int32) ⊕ (Nat × Int32 × Int32 × Int32 × Int32 × Int32)))} (hf : f_L_sound_j92 σ l0 l1 l3 l4 l5 = some x) (hR : ∀ g, x = Sum.inl (g) → ∀ π', xag 4562 π π' → Q (.inl (some (.int g.1))) (g.2) π') (hE : ∀ e : (Nat × Int32 × Int32 × Int32 × Int32), x = Sum.inr (Sum.inl e) → xMach G π J_L_sound (d + 409) C Z 100 [(0, .ref e.1), (1, .int e.2.1), (2, .int e.2.2.1), (3, .int e.2.2.2.1), (4, .int e.2.2.2.2)] [] σ Q) (hC : ∀ e : (Nat × Int32 × Int32 × Int32 × Int32 × Int32), x = Sum.inr (Sum.inr e) → xMach G π J_L_sound (d + 409) C Z 40 [(0, .ref e.1), (1, .int e.2.1), (2, .int e.2.2.1), (3, .int e.2.2.2.1), (4, .int e.2.2.2.2.1), (5, .int e.2.2.2.2.2)] [] σ Q) : xMach G π J_L_sound (d + 409) C Z 92 [(0, .ref l0), (1, .int l1), (3, .int l3), (4, .int l4), (5, .int l5)] [] σ Q := by
  unfold f_L_sound_j92 at hf
  refine xm_iconst dL_sound_92 (v := 0) (by decide) ?_
  exact xm_sub [0, 1, 2, 3, 4] rfl (L_L_sound_j93 σ l0 l1 l3 l4 l5 (0 : Int32) hf hR hE hC)
def f_L_sound_s40 (σ : xM) (s : (Nat × Int32 × Int32 × Int32 × Int32 × Int32)) : Option ((Int32 × xM) ⊕ ((Nat × Int32 × Int32 × Int32 × Int32) ⊕ (Nat × Int32 × Int32 × Int32 × Int32 × Int32))) :=
  xlet s.1 (fun l0 => xlet s.2.1 (fun l1 => xlet s.2.2.1 (fun l2 => xlet s.2.2.2.1 (fun l3 => xlet s.2.2.2.2.1 (fun l4 => xlet s.2.2.2.2.2 (fun l5 => (if l3 ≤ l5 then some (Sum.inr (Sum.inl (l0, l1, l2, l3, l4))) else (if l2 = (0 : Int32) then some (Sum.inr (Sum.inl (l0, l1, l2, l3, l4))) else (if xk σ l0 11 = true then (f_X11_node σ l0 l1 l5 (3 : Int32)).bind (fun p7 => Sum.elim (fun w8 => xlet (l4 + w8) (fun v9 => (if xk σ l0 11 = true then (f_X11_node σ l0 l1 l5 (4 : Int32)).bind (fun p10 => Sum.elim (fun w11 => (if l5 ≤ w11 then f_L_sound_j92 σ l0 l1 l3 v9 l5 else (if xk σ l0 11 = true then (f_X11_node σ l0 l1 l5 (5 : Int32)).bind (fun p13 => Sum.elim (fun w14 => (if w14 < (1 : Int32) then f_L_sound_j92 σ l0 l1 l3 v9 l5 else f_L_sound_j93 σ l0 l1 l3 v9 l5 (1 : Int32))) (fun _ => none) p13) else none))) (fun _ => none) p10) else none))) (fun _ => none) p7) else none)))))))))
set_option maxHeartbeats 4000000 in
set_option maxRecDepth 20000 in
theorem L_L_sound_s40 {G : xG} {π : Nat → Nat} {d C Z : Nat} {Q : xQ} (σ : xM) (l0 : Nat) (l1 : Int32) (l2 : Int32) (l3 : Int32) (l4 : Int32) (l5 : Int32) {x : ((Int32 × xM) ⊕ ((Nat × Int32 × Int32 × Int32 × Int32) ⊕ (Nat × Int32 × Int32 × Int32 × Int32 × Int32)))} (hf : f_L_sound_s40 σ (l0, l1, l2, l3, l4, l5) = some x) (hR : ∀ g, x = Sum.inl (g) → ∀ π', xag 4562 π π' → Q (.inl (some (.int g.1))) (g.2) π') (hE : ∀ e : (Nat × Int32 × Int32 × Int32 × Int32), x = Sum.inr (Sum.inl e) → xMach G π J_L_sound (d + 409) C Z 100 [(0, .ref e.1), (1, .int e.2.1), (2, .int e.2.2.1), (3, .int e.2.2.2.1), (4, .int e.2.2.2.2)] [] σ Q) (hC : ∀ e : (Nat × Int32 × Int32 × Int32 × Int32 × Int32), x = Sum.inr (Sum.inr e) → xMach G π J_L_sound (d + 409) C Z 40 [(0, .ref e.1), (1, .int e.2.1), (2, .int e.2.2.1), (3, .int e.2.2.2.1), (4, .int e.2.2.2.2.1), (5, .int e.2.2.2.2.2)] [] σ Q) : xMach G π J_L_sound (d + 409) C Z 40 [(0, .ref l0), (1, .int l1), (2, .int l2), (3, .int l3), (4, .int l4), (5, .int l5)] [] σ Q := by
  have hf : (if l3 ≤ l5 then some (Sum.inr (Sum.inl (l0, l1, l2, l3, l4))) else (if l2 = (0 : Int32) then some (Sum.inr (Sum.inl (l0, l1, l2, l3, l4))) else (if xk σ l0 11 = true then (f_X11_node σ l0 l1 l5 (3 : Int32)).bind (fun p7 => Sum.elim (fun w8 => xlet (l4 + w8) (fun v9 => (if xk σ l0 11 = true then (f_X11_node σ l0 l1 l5 (4 : Int32)).bind (fun p10 => Sum.elim (fun w11 => (if l5 ≤ w11 then f_L_sound_j92 σ l0 l1 l3 v9 l5 else (if xk σ l0 11 = true then (f_X11_node σ l0 l1 l5 (5 : Int32)).bind (fun p13 => Sum.elim (fun w14 => (if w14 < (1 : Int32) then f_L_sound_j92 σ l0 l1 l3 v9 l5 else f_L_sound_j93 σ l0 l1 l3 v9 l5 (1 : Int32))) (fun _ => none) p13) else none))) (fun _ => none) p10) else none))) (fun _ => none) p7) else none))) = some x := hf
  refine xm_iload dL_sound_40 rfl ?_
  refine xm_iload_n dL_sound_42 rfl ?_
  refine xb_icmp_ge 100 dL_sound_43 (by decide) hf (fun c hf => ?_) (fun c hf => ?_)
  · cases hf
    exact xm_sub [0, 1, 2, 3, 4] rfl (hE _ rfl)
  · refine xm_iload_n dL_sound_46 rfl ?_
    refine xb_if_eq 100 dL_sound_47 (by decide) hf (fun c hf => ?_) (fun c hf => ?_)
    · cases hf
      exact xm_sub [0, 1, 2, 3, 4] rfl (hE _ rfl)
    · refine xm_iload dL_sound_50 rfl ?_
      refine xm_aload_n dL_sound_52 rfl ?_
      refine xm_iload_n dL_sound_53 rfl ?_
      refine xm_iload dL_sound_54 rfl ?_
      refine xm_iconst dL_sound_56 (v := 3) (by decide) ?_
      refine xb_if hf (fun hb hf => ?_) (fun _ q => nomatch q)
      obtain ⟨p7, ep7, hf⟩ := xbind hf
      rcases p7 with w8 | E
      · rw [Sum.elim_inl] at hf
        have hf : xlet (l4 + w8) (fun v9 => (if xk σ l0 11 = true then (f_X11_node σ l0 l1 l5 (4 : Int32)).bind (fun p10 => Sum.elim (fun w11 => (if l5 ≤ w11 then f_L_sound_j92 σ l0 l1 l3 v9 l5 else (if xk σ l0 11 = true then (f_X11_node σ l0 l1 l5 (5 : Int32)).bind (fun p13 => Sum.elim (fun w14 => (if w14 < (1 : Int32) then f_L_sound_j92 σ l0 l1 l3 v9 l5 else f_L_sound_j93 σ l0 l1 l3 v9 l5 (1 : Int32))) (fun _ => none) p13) else none))) (fun _ => none) p10) else none)) = some _ := hf
        refine xb_callV (As := [.int l1, .int l5, .int (3 : Int32)]) (v0 := (some (.int w8))) (τ0 := σ) dL_sound_57 (xc_X11_node _ _) xcl11 xw_1249 xw_1250 xw_1251 hb rfl (Nat.le_of_ble_eq_true rfl) rfl (Nat.le_of_ble_eq_true rfl) (fun Q1 hq => m_X11_node (d := d + 400) ep7 (fun g hg => by subst hg; exact hq)) ?_
        refine xm_iadd dL_sound_60 ?_
        refine xb_topi hf (fun v9 ev9 hf => ?_)
        refine xm_istore dL_sound_61 (by decide) (xm_stL (L' := [(4, .int v9), (0, .ref l0), (1, .int l1), (2, .int l2), (3, .int l3), (5, .int l5)]) rfl ?_)
        refine xm_aload_n dL_sound_63 rfl ?_
        refine xm_iload_n dL_sound_64 rfl ?_
        refine xm_iload dL_sound_65 rfl ?_
        refine xm_iconst dL_sound_67 (v := 4) (by decide) ?_
        refine xb_if hf (fun hb hf => ?_) (fun _ q => nomatch q)
        obtain ⟨p10, ep10, hf⟩ := xbind hf
        rcases p10 with w11 | E
        · rw [Sum.elim_inl] at hf
          have hf : (if l5 ≤ w11 then f_L_sound_j92 σ l0 l1 l3 v9 l5 else (if xk σ l0 11 = true then (f_X11_node σ l0 l1 l5 (5 : Int32)).bind (fun p13 => Sum.elim (fun w14 => (if w14 < (1 : Int32) then f_L_sound_j92 σ l0 l1 l3 v9 l5 else f_L_sound_j93 σ l0 l1 l3 v9 l5 (1 : Int32))) (fun _ => none) p13) else none)) = some _ := hf
          refine xb_callV (As := [.int l1, .int l5, .int (4 : Int32)]) (v0 := (some (.int w11))) (τ0 := σ) dL_sound_68 (xc_X11_node _ _) xcl11 xw_1249 xw_1250 xw_1251 hb rfl (Nat.le_of_ble_eq_true rfl) rfl (Nat.le_of_ble_eq_true rfl) (fun Q1 hq => m_X11_node (d := d + 400) ep10 (fun g hg => by subst hg; exact hq)) ?_
          refine xm_iload dL_sound_71 rfl ?_
          refine xb_icmp_ge 92 dL_sound_73 (by decide) hf (fun c hf => ?_) (fun c hf => ?_)
          · exact xm_sub [1, 2, 4, 0, 5] rfl (L_L_sound_j92 σ l0 l1 l3 v9 l5 hf hR hE hC)
          · refine xm_aload_n dL_sound_76 rfl ?_
            refine xm_iload_n dL_sound_77 rfl ?_
            refine xm_iload dL_sound_78 rfl ?_
            refine xm_iconst dL_sound_80 (v := 5) (by decide) ?_
            refine xb_if hf (fun hb hf => ?_) (fun _ q => nomatch q)
            obtain ⟨p13, ep13, hf⟩ := xbind hf
            rcases p13 with w14 | E
            · rw [Sum.elim_inl] at hf
              have hf : (if w14 < (1 : Int32) then f_L_sound_j92 σ l0 l1 l3 v9 l5 else f_L_sound_j93 σ l0 l1 l3 v9 l5 (1 : Int32)) = some _ := hf
              refine xb_callV (As := [.int l1, .int l5, .int (5 : Int32)]) (v0 := (some (.int w14))) (τ0 := σ) dL_sound_81 (xc_X11_node _ _) xcl11 xw_1249 xw_1250 xw_1251 hb rfl (Nat.le_of_ble_eq_true rfl) rfl (Nat.le_of_ble_eq_true rfl) (fun Q1 hq => m_X11_node (d := d + 400) ep13 (fun g hg => by subst hg; exact hq)) ?_
              refine xm_iconst dL_sound_84 (v := 1) (by decide) ?_
              refine xb_icmp_lt 92 dL_sound_85 (by decide) hf (fun c hf => ?_) (fun c hf => ?_)
              · exact xm_sub [1, 2, 4, 0, 5] rfl (L_L_sound_j92 σ l0 l1 l3 v9 l5 hf hR hE hC)
              · refine xm_iconst dL_sound_88 (v := 1) (by decide) ?_
                refine xm_goto 93 dL_sound_89 (by decide) ?_
                exact xm_sub [1, 2, 4, 0, 5] rfl (L_L_sound_j93 σ l0 l1 l3 v9 l5 (1 : Int32) hf hR hE hC)
            · cases hf
        · cases hf
      · cases hf
theorem L_L_sound_l40 {G : xG} {π : Nat → Nat} {d C Z : Nat} {Q : xQ} (σ : xM) {s0 : (Nat × Int32 × Int32 × Int32 × Int32 × Int32)} {x : ((Int32 × xM) ⊕ (Nat × Int32 × Int32 × Int32 × Int32))} (h1 : xloop (f_L_sound_s40 σ) xF s0 = some x) (hR : ∀ g, x = Sum.inl g → ∀ π', xag 4562 π π' → Q (.inl (some (.int g.1))) (g.2) π') (hE : ∀ e : (Nat × Int32 × Int32 × Int32 × Int32), x = Sum.inr e → xMach G π J_L_sound (d + 409) C Z 100 [(0, .ref e.1), (1, .int e.2.1), (2, .int e.2.2.1), (3, .int e.2.2.2.1), (4, .int e.2.2.2.2)] [] σ Q) : xMach G π J_L_sound (d + 409) C Z 40 [(0, .ref s0.1), (1, .int s0.2.1), (2, .int s0.2.2.1), (3, .int s0.2.2.2.1), (4, .int s0.2.2.2.2.1), (5, .int s0.2.2.2.2.2)] [] σ Q := by
  refine xloop_run (M := (fun s : (Nat × Int32 × Int32 × Int32 × Int32 × Int32) => xMach G π J_L_sound (d + 409) C Z 40 [(0, .ref s.1), (1, .int s.2.1), (2, .int s.2.2.1), (3, .int s.2.2.2.1), (4, .int s.2.2.2.2.1), (5, .int s.2.2.2.2.2)] [] σ Q)) (r := x) ?_ xF _ h1
  intro s y hs hx
  exact L_L_sound_s40 σ s.1 s.2.1 s.2.2.1 s.2.2.2.1 s.2.2.2.2.1 s.2.2.2.2.2 (x := y) hs (fun g hg => by subst hg; exact hR g hx) (fun e he => by subst he; exact hE e hx) (fun e he => by subst he; exact hx)
def f_L_sound_s121 (s : (Nat × Int32 × Int32 × Int32 × xM)) : Option ((Int32 × xM) ⊕ ((Nat × Int32 × Int32 × xM) ⊕ (Nat × Int32 × Int32 × Int32 × xM))) :=
  xlet s.1 (fun l0 => xlet s.2.1 (fun l1 => xlet s.2.2.1 (fun l2 => xlet s.2.2.2.1 (fun l5 => xlet s.2.2.2.2 (fun σ => (if (4 : Int32) ≤ l5 then some (Sum.inr (Sum.inl (l0, l1, l2, σ))) else (if l2 = (0 : Int32) then some (Sum.inr (Sum.inl (l0, l1, l2, σ))) else (if xk σ l0 11 = true then (f_X11_audit σ l0 l5 l1).bind (fun p16 => xlet p16.2 (fun σ18 => Sum.elim (fun w17 => xlet (l5 + (1 : Int32)) (fun v19 => some (Sum.inr (Sum.inr (l0, l1, w17, v19, σ18))))) (fun _ => none) p16.1)) else none))))))))
set_option maxHeartbeats 4000000 in
set_option maxRecDepth 20000 in
theorem L_L_sound_s121 {G : xG} {π : Nat → Nat} {d C Z : Nat} {Q : xQ} (σ : xM) (l0 : Nat) (l1 : Int32) (l2 : Int32) (l5 : Int32) {x : ((Int32 × xM) ⊕ ((Nat × Int32 × Int32 × xM) ⊕ (Nat × Int32 × Int32 × Int32 × xM)))} (hf : f_L_sound_s121 (l0, l1, l2, l5, σ) = some x) (hR : ∀ g, x = Sum.inl (g) → ∀ π', xag 4562 π π' → Q (.inl (some (.int g.1))) (g.2) π') (hE : ∀ e : (Nat × Int32 × Int32 × xM), x = Sum.inr (Sum.inl e) → xMach G π J_L_sound (d + 409) C Z 145 [(0, .ref e.1), (1, .int e.2.1), (2, .int e.2.2.1)] [] e.2.2.2 Q) (hC : ∀ e : (Nat × Int32 × Int32 × Int32 × xM), x = Sum.inr (Sum.inr e) → xMach G π J_L_sound (d + 409) C Z 121 [(0, .ref e.1), (1, .int e.2.1), (2, .int e.2.2.1), (5, .int e.2.2.2.1)] [] e.2.2.2.2 Q) : xMach G π J_L_sound (d + 409) C Z 121 [(0, .ref l0), (1, .int l1), (2, .int l2), (5, .int l5)] [] σ Q := by
  have hf : (if (4 : Int32) ≤ l5 then some (Sum.inr (Sum.inl (l0, l1, l2, σ))) else (if l2 = (0 : Int32) then some (Sum.inr (Sum.inl (l0, l1, l2, σ))) else (if xk σ l0 11 = true then (f_X11_audit σ l0 l5 l1).bind (fun p16 => xlet p16.2 (fun σ18 => Sum.elim (fun w17 => xlet (l5 + (1 : Int32)) (fun v19 => some (Sum.inr (Sum.inr (l0, l1, w17, v19, σ18))))) (fun _ => none) p16.1)) else none))) = some x := hf
  refine xm_iload dL_sound_121 rfl ?_
  refine xm_iconst dL_sound_123 (v := 4) (by decide) ?_
  refine xb_icmp_ge 145 dL_sound_124 (by decide) hf (fun c hf => ?_) (fun c hf => ?_)
  · cases hf
    exact xm_sub [0, 1, 2] rfl (hE _ rfl)
  · refine xm_iload_n dL_sound_127 rfl ?_
    refine xb_if_eq 145 dL_sound_128 (by decide) hf (fun c hf => ?_) (fun c hf => ?_)
    · cases hf
      exact xm_sub [0, 1, 2] rfl (hE _ rfl)
    · refine xm_aload_n dL_sound_131 rfl ?_
      refine xm_iload dL_sound_132 rfl ?_
      refine xm_iload_n dL_sound_134 rfl ?_
      refine xb_if hf (fun hb hf => ?_) (fun _ q => nomatch q)
      obtain ⟨p16, ep16, hf⟩ := xbind hf
      rcases p16 with ⟨w17 | E, σ18⟩
      · have hf : xlet (l5 + (1 : Int32)) (fun v19 => some (Sum.inr (Sum.inr (l0, l1, w17, v19, σ18)))) = some _ := hf
        refine xb_callV (As := [.int l5, .int l1]) (v0 := (some (.int w17))) (τ0 := σ18) dL_sound_135 (xc_X11_audit _ _) xcl11 xw_1275 xw_1276 xw_1277 hb rfl (Nat.le_of_ble_eq_true rfl) rfl (Nat.le_of_ble_eq_true rfl) (fun Q1 hq => m_X11_audit (d := d + 0) ep16 (fun g hg => by subst hg; exact hq)) ?_
        refine xm_istore_n dL_sound_138 (by decide) (xm_stL (L' := [(2, .int w17), (0, .ref l0), (1, .int l1), (5, .int l5)]) rfl ?_)
        refine xb_iinc dL_sound_139 rfl (by decide) (by decide) hf (fun v19 ev19 hf => xm_stL (L' := [(5, .int v19), (2, .int w17), (0, .ref l0), (1, .int l1)]) rfl ?_)
        refine xm_goto 121 dL_sound_142 (by decide) ?_
        cases hf
        exact xm_sub [2, 3, 1, 0] rfl (hC _ rfl)
      · cases hf
theorem L_L_sound_l121 {G : xG} {π : Nat → Nat} {d C Z : Nat} {Q : xQ} {s0 : (Nat × Int32 × Int32 × Int32 × xM)} {x : ((Int32 × xM) ⊕ (Nat × Int32 × Int32 × xM))} (h1 : xloop (f_L_sound_s121) xF s0 = some x) (hR : ∀ g, x = Sum.inl g → ∀ π', xag 4562 π π' → Q (.inl (some (.int g.1))) (g.2) π') (hE : ∀ e : (Nat × Int32 × Int32 × xM), x = Sum.inr e → xMach G π J_L_sound (d + 409) C Z 145 [(0, .ref e.1), (1, .int e.2.1), (2, .int e.2.2.1)] [] e.2.2.2 Q) : xMach G π J_L_sound (d + 409) C Z 121 [(0, .ref s0.1), (1, .int s0.2.1), (2, .int s0.2.2.1), (5, .int s0.2.2.2.1)] [] s0.2.2.2.2 Q := by
  refine xloop_run (M := (fun s : (Nat × Int32 × Int32 × Int32 × xM) => xMach G π J_L_sound (d + 409) C Z 121 [(0, .ref s.1), (1, .int s.2.1), (2, .int s.2.2.1), (5, .int s.2.2.2.1)] [] s.2.2.2.2 Q)) (r := x) ?_ xF _ h1
  intro s y hs hx
  exact L_L_sound_s121 s.2.2.2.2 s.1 s.2.1 s.2.2.1 s.2.2.2.1 (x := y) hs (fun g hg => by subst hg; exact hR g hx) (fun e he => by subst he; exact hE e hx) (fun e he => by subst he; exact hx)
def f_L_sound_j178 (σ : xM) (s0 : Int32) : Option (Int32 × xM) :=
  (xz s0).bind (fun b20 => some (b20, σ))
set_option maxHeartbeats 4000000 in
set_option maxRecDepth 20000 in
theorem L_L_sound_j178 {G : xG} {π : Nat → Nat} {d C Z : Nat} {Q : xQ} (σ : xM) (s0 : Int32) {x : (Int32 × xM)} (hf : f_L_sound_j178 σ s0 = some x) (hR : ∀ g, x = g → ∀ π', xag 4562 π π' → Q (.inl (some (.int g.1))) (g.2) π') : xMach G π J_L_sound (d + 409) C Z 178 [] [.int s0] σ Q := by
  unfold f_L_sound_j178 at hf
  obtain ⟨b20, eb20, hf⟩ := xbind hf
  obtain ⟨rfl, hz⟩ := xz_of eb20
  cases hf
  exact xm_zret dL_sound_178 rfl hz (hR _ rfl _ xag_rf)
def f_L_sound_j177 (σ : xM)  : Option (Int32 × xM) :=
  f_L_sound_j178 σ (0 : Int32)
set_option maxHeartbeats 4000000 in
set_option maxRecDepth 20000 in
theorem L_L_sound_j177 {G : xG} {π : Nat → Nat} {d C Z : Nat} {Q : xQ} (σ : xM)  {x : (Int32 × xM)} (hf : f_L_sound_j177 σ = some x) (hR : ∀ g, x = g → ∀ π', xag 4562 π π' → Q (.inl (some (.int g.1))) (g.2) π') : xMach G π J_L_sound (d + 409) C Z 177 [] [] σ Q := by
  unfold f_L_sound_j177 at hf
  refine xm_iconst dL_sound_177 (v := 0) (by decide) ?_
  exact xm_sub [] rfl (L_L_sound_j178 σ (0 : Int32) hf hR)
def f_L_sound_j145 (σ : xM) (l0 : Nat) (l1 : Int32) (l2 : Int32) : Option (Int32 × xM) :=
  (if l2 = (0 : Int32) then f_L_sound_j177 σ else (f_L_printed σ l0 l1).bind (fun p21 => (if xR2 [l0] = true then (if p21.1 = (0 : Int32) then f_L_sound_j177 p21.2 else (f_L_reckoned p21.2 l0 l1).bind (fun p22 => (if p22.1 = (0 : Int32) then f_L_sound_j177 p22.2 else (f_L_simpler p22.2 l0 l1).bind (fun p23 => (if p23.1 = (0 : Int32) then f_L_sound_j177 p23.2 else f_L_sound_j178 p23.2 (1 : Int32)))))) else none)))
set_option maxHeartbeats 4000000 in
set_option maxRecDepth 20000 in
theorem L_L_sound_j145 {G : xG} {π : Nat → Nat} {d C Z : Nat} {Q : xQ} (σ : xM) (l0 : Nat) (l1 : Int32) (l2 : Int32) {x : (Int32 × xM)} (hf : f_L_sound_j145 σ l0 l1 l2 = some x) (hR : ∀ g, x = g → ∀ π', xag 4562 π π' → Q (.inl (some (.int g.1))) (g.2) π') : xMach G π J_L_sound (d + 409) (C + 1) (Z + 60) 145 [(0, .ref l0), (1, .int l1), (2, .int l2)] [] σ Q := by
  unfold f_L_sound_j145 at hf
  refine xm_iload_n dL_sound_145 rfl ?_
  refine xb_if_eq 177 dL_sound_146 (by decide) hf (fun c hf => ?_) (fun c hf => ?_)
  · refine xm_wk (C9 := C) (Z9 := Z) (Nat.le_add_right _ _) (Nat.le_add_right _ _) ?_
    exact xm_sub [] rfl (L_L_sound_j177 σ hf hR)
  · refine xm_aload_n dL_sound_149 rfl ?_
    refine xm_iload_n dL_sound_150 rfl ?_
    obtain ⟨p21, ep21, hf⟩ := xbind hf
    refine xb_callSL (As := [.ref l0, .int l1]) (v0 := (some (.int p21.1))) (τ0 := p21.2) (C1 := 0 + 1) (Z1 := 0 + 60) (C9 := C) (Z9 := Z) dL_sound_151 (xc_L_printed _ _) xw_1518 xw_1519 rfl (Nat.le_of_ble_eq_true rfl) rfl (Nat.le_of_ble_eq_true rfl) (fun Q1 hq => m_L_printed (d := d + 5) (C := 0) (Z := 0) ep21 (fun g hg π' hp => by subst hg; exact hq π' hp)) rfl rfl rfl hf (fun π hag hf => ?_)
    have hR := fun g hg π' hp => hR g hg π' (xag_t hag hp)
    refine xb_if_eq 177 dL_sound_154 (by decide) hf (fun c hf => ?_) (fun c hf => ?_)
    · exact xm_sub [] rfl (L_L_sound_j177 p21.2 hf hR)
    · refine xm_aload_n dL_sound_157 rfl ?_
      refine xm_iload_n dL_sound_158 rfl ?_
      obtain ⟨p22, ep22, hf⟩ := xbind hf
      refine xb_callS (As := [.ref l0, .int l1]) (v0 := (some (.int p22.1))) (τ0 := p22.2) dL_sound_159 (xc_L_reckoned _ _) xw_1530 xw_1531 rfl (Nat.le_of_ble_eq_true rfl) rfl (Nat.le_of_ble_eq_true rfl) (fun Q1 hq => m_L_reckoned (d := d + 399) (C := 0) (Z := 0) ep22 (fun g hg => by subst hg; exact hq)) ?_
      refine xb_if_eq 177 dL_sound_162 (by decide) hf (fun c hf => ?_) (fun c hf => ?_)
      · exact xm_sub [] rfl (L_L_sound_j177 p22.2 hf hR)
      · refine xm_aload_n dL_sound_165 rfl ?_
        refine xm_iload_n dL_sound_166 rfl ?_
        obtain ⟨p23, ep23, hf⟩ := xbind hf
        refine xb_callS (As := [.ref l0, .int l1]) (v0 := (some (.int p23.1))) (τ0 := p23.2) dL_sound_167 (xc_L_simpler _ _) xw_1574 xw_1575 rfl (Nat.le_of_ble_eq_true rfl) rfl (Nat.le_of_ble_eq_true rfl) (fun Q1 hq => m_L_simpler (d := d + 399) (C := 0) (Z := 0) ep23 (fun g hg => by subst hg; exact hq)) ?_
        refine xb_if_eq 177 dL_sound_170 (by decide) hf (fun c hf => ?_) (fun c hf => ?_)
        · exact xm_sub [] rfl (L_L_sound_j177 p23.2 hf hR)
        · refine xm_iconst dL_sound_173 (v := 1) (by decide) ?_
          refine xm_goto 178 dL_sound_174 (by decide) ?_
          exact xm_sub [] rfl (L_L_sound_j178 p23.2 (1 : Int32) hf hR)
def f_L_sound_j117 (σ : xM) (l0 : Nat) (l1 : Int32) (s0 : Int32) : Option (Int32 × xM) :=
  xlet (0 : Int32) (fun v15 => (xloop (f_L_sound_s121 ) xF (l0, l1, s0, v15, σ)).bind (Sum.elim (fun g => some g) (fun e => f_L_sound_j145 e.2.2.2 e.1 e.2.1 e.2.2.1)))
set_option maxHeartbeats 4000000 in
set_option maxRecDepth 20000 in
theorem L_L_sound_j117 {G : xG} {π : Nat → Nat} {d C Z : Nat} {Q : xQ} (σ : xM) (l0 : Nat) (l1 : Int32) (s0 : Int32) {x : (Int32 × xM)} (hf : f_L_sound_j117 σ l0 l1 s0 = some x) (hR : ∀ g, x = g → ∀ π', xag 4562 π π' → Q (.inl (some (.int g.1))) (g.2) π') : xMach G π J_L_sound (d + 409) (C + 1) (Z + 60) 117 [(0, .ref l0), (1, .int l1)] [.int s0] σ Q := by
  unfold f_L_sound_j117 at hf
  refine xm_istore_n dL_sound_117 (by decide) (xm_stL (L' := [(2, .int s0), (0, .ref l0), (1, .int l1)]) rfl ?_)
  refine xm_iconst dL_sound_118 (v := 0) (by decide) ?_
  refine xb_topi hf (fun v15 ev15 hf => ?_)
  refine xm_istore dL_sound_119 (by decide) (xm_stL (L' := [(5, .int v15), (2, .int s0), (0, .ref l0), (1, .int l1)]) rfl ?_)
  obtain ⟨o, h1, hf⟩ := xbind hf
  refine xm_sub [2, 3, 1, 0] rfl (L_L_sound_l121  h1 (fun g hg => ?_) (fun e he => ?_))
  · subst hg
    cases hf
    exact hR _ rfl
  · subst he
    rw [Sum.elim_inr] at hf
    have hf : f_L_sound_j145 e.2.2.2 e.1 e.2.1 e.2.2.1 = some _ := hf
    exact xm_sub [0, 1, 2] rfl (L_L_sound_j145 e.2.2.2 e.1 e.2.1 e.2.2.1 hf hR)
def f_L_sound_j116 (σ : xM) (l0 : Nat) (l1 : Int32) : Option (Int32 × xM) :=
  f_L_sound_j117 σ l0 l1 (0 : Int32)
set_option maxHeartbeats 4000000 in
set_option maxRecDepth 20000 in
theorem L_L_sound_j116 {G : xG} {π : Nat → Nat} {d C Z : Nat} {Q : xQ} (σ : xM) (l0 : Nat) (l1 : Int32) {x : (Int32 × xM)} (hf : f_L_sound_j116 σ l0 l1 = some x) (hR : ∀ g, x = g → ∀ π', xag 4562 π π' → Q (.inl (some (.int g.1))) (g.2) π') : xMach G π J_L_sound (d + 409) (C + 1) (Z + 60) 116 [(0, .ref l0), (1, .int l1)] [] σ Q := by
  unfold f_L_sound_j116 at hf
  refine xm_iconst dL_sound_116 (v := 0) (by decide) ?_
  exact xm_sub [0, 1] rfl (L_L_sound_j117 σ l0 l1 (0 : Int32) hf hR)
def f_L_sound_j100 (σ : xM) (l0 : Nat) (l1 : Int32) (l2 : Int32) (l3 : Int32) (l4 : Int32) : Option (Int32 × xM) :=
  (if l2 = (0 : Int32) then f_L_sound_j116 σ l0 l1 else (if l4 = (l3 - (1 : Int32)) then f_L_sound_j117 σ l0 l1 (1 : Int32) else f_L_sound_j116 σ l0 l1))
set_option maxHeartbeats 4000000 in
set_option maxRecDepth 20000 in
theorem L_L_sound_j100 {G : xG} {π : Nat → Nat} {d C Z : Nat} {Q : xQ} (σ : xM) (l0 : Nat) (l1 : Int32) (l2 : Int32) (l3 : Int32) (l4 : Int32) {x : (Int32 × xM)} (hf : f_L_sound_j100 σ l0 l1 l2 l3 l4 = some x) (hR : ∀ g, x = g → ∀ π', xag 4562 π π' → Q (.inl (some (.int g.1))) (g.2) π') : xMach G π J_L_sound (d + 409) (C + 1) (Z + 60) 100 [(0, .ref l0), (1, .int l1), (2, .int l2), (3, .int l3), (4, .int l4)] [] σ Q := by
  unfold f_L_sound_j100 at hf
  refine xm_iload_n dL_sound_100 rfl ?_
  refine xb_if_eq 116 dL_sound_101 (by decide) hf (fun c hf => ?_) (fun c hf => ?_)
  · exact xm_sub [0, 1] rfl (L_L_sound_j116 σ l0 l1 hf hR)
  · refine xm_iload dL_sound_104 rfl ?_
    refine xm_iload_n dL_sound_106 rfl ?_
    refine xm_iconst dL_sound_107 (v := 1) (by decide) ?_
    refine xm_isub dL_sound_108 ?_
    refine xb_icmp_ne 116 dL_sound_109 (by decide) hf (fun c hf => ?_) (fun c hf => ?_)
    · exact xm_sub [0, 1] rfl (L_L_sound_j116 σ l0 l1 hf hR)
    · refine xm_iconst dL_sound_112 (v := 1) (by decide) ?_
      refine xm_goto 117 dL_sound_113 (by decide) ?_
      exact xm_sub [0, 1] rfl (L_L_sound_j117 σ l0 l1 (1 : Int32) hf hR)
def f_L_sound_j25 (σ : xM) (l0 : Nat) (l1 : Int32) (s0 : Int32) : Option (Int32 × xM) :=
  (if xk σ l0 11 = true then (f_X11_node σ l0 l1 (0 : Int32) (5 : Int32)).bind (fun p3 => Sum.elim (fun w4 => xlet (0 : Int32) (fun v5 => xlet (0 : Int32) (fun v6 => (xloop (f_L_sound_s40 σ ) xF (l0, l1, s0, w4, v5, v6)).bind (Sum.elim (fun g => some g) (fun e => f_L_sound_j100 σ e.1 e.2.1 e.2.2.1 e.2.2.2.1 e.2.2.2.2))))) (fun _ => none) p3) else none)
set_option maxHeartbeats 4000000 in
set_option maxRecDepth 20000 in
theorem L_L_sound_j25 {G : xG} {π : Nat → Nat} {d C Z : Nat} {Q : xQ} (σ : xM) (l0 : Nat) (l1 : Int32) (s0 : Int32) {x : (Int32 × xM)} (hf : f_L_sound_j25 σ l0 l1 s0 = some x) (hR : ∀ g, x = g → ∀ π', xag 4562 π π' → Q (.inl (some (.int g.1))) (g.2) π') : xMach G π J_L_sound (d + 409) (C + 1) (Z + 60) 25 [(0, .ref l0), (1, .int l1)] [.int s0] σ Q := by
  unfold f_L_sound_j25 at hf
  refine xm_istore_n dL_sound_25 (by decide) (xm_stL (L' := [(2, .int s0), (0, .ref l0), (1, .int l1)]) rfl ?_)
  refine xm_aload_n dL_sound_26 rfl ?_
  refine xm_iload_n dL_sound_27 rfl ?_
  refine xm_iconst dL_sound_28 (v := 0) (by decide) ?_
  refine xm_iconst dL_sound_29 (v := 5) (by decide) ?_
  refine xb_if hf (fun hb hf => ?_) (fun _ q => nomatch q)
  obtain ⟨p3, ep3, hf⟩ := xbind hf
  rcases p3 with w4 | E
  · rw [Sum.elim_inl] at hf
    have hf : xlet (0 : Int32) (fun v5 => xlet (0 : Int32) (fun v6 => (xloop (f_L_sound_s40 σ ) xF (l0, l1, s0, w4, v5, v6)).bind (Sum.elim (fun g => some g) (fun e => f_L_sound_j100 σ e.1 e.2.1 e.2.2.1 e.2.2.2.1 e.2.2.2.2)))) = some _ := hf
    refine xb_callV (As := [.int l1, .int (0 : Int32), .int (5 : Int32)]) (v0 := (some (.int w4))) (τ0 := σ) dL_sound_30 (xc_X11_node _ _) xcl11 xw_1249 xw_1250 xw_1251 hb rfl (Nat.le_of_ble_eq_true rfl) rfl (Nat.le_of_ble_eq_true rfl) (fun Q1 hq => m_X11_node (d := d + 400) ep3 (fun g hg => by subst hg; exact hq)) ?_
    refine xm_istore_n dL_sound_33 (by decide) (xm_stL (L' := [(3, .int w4), (2, .int s0), (0, .ref l0), (1, .int l1)]) rfl ?_)
    refine xm_iconst dL_sound_34 (v := 0) (by decide) ?_
    refine xb_topi hf (fun v5 ev5 hf => ?_)
    refine xm_istore dL_sound_35 (by decide) (xm_stL (L' := [(4, .int v5), (3, .int w4), (2, .int s0), (0, .ref l0), (1, .int l1)]) rfl ?_)
    refine xm_iconst dL_sound_37 (v := 0) (by decide) ?_
    refine xb_topi hf (fun v6 ev6 hf => ?_)
    refine xm_istore dL_sound_38 (by decide) (xm_stL (L' := [(5, .int v6), (4, .int v5), (3, .int w4), (2, .int s0), (0, .ref l0), (1, .int l1)]) rfl ?_)
    obtain ⟨o, h1, hf⟩ := xbind hf
    refine xm_sub [4, 5, 3, 2, 1, 0] rfl (L_L_sound_l40 σ h1 (fun g hg => ?_) (fun e he => ?_))
    · subst hg
      cases hf
      exact hR _ rfl
    · subst he
      rw [Sum.elim_inr] at hf
      have hf : f_L_sound_j100 σ e.1 e.2.1 e.2.2.1 e.2.2.2.1 e.2.2.2.2 = some _ := hf
      exact xm_sub [0, 1, 2, 3, 4] rfl (L_L_sound_j100 σ e.1 e.2.1 e.2.2.1 e.2.2.2.1 e.2.2.2.2 hf hR)
  · cases hf
def f_L_sound_j24 (σ : xM) (l0 : Nat) (l1 : Int32) : Option (Int32 × xM) :=
  f_L_sound_j25 σ l0 l1 (0 : Int32)
set_option maxHeartbeats 4000000 in
set_option maxRecDepth 20000 in
theorem L_L_sound_j24 {G : xG} {π : Nat → Nat} {d C Z : Nat} {Q : xQ} (σ : xM) (l0 : Nat) (l1 : Int32) {x : (Int32 × xM)} (hf : f_L_sound_j24 σ l0 l1 = some x) (hR : ∀ g, x = g → ∀ π', xag 4562 π π' → Q (.inl (some (.int g.1))) (g.2) π') : xMach G π J_L_sound (d + 409) (C + 1) (Z + 60) 24 [(0, .ref l0), (1, .int l1)] [] σ Q := by
  unfold f_L_sound_j24 at hf
  refine xm_iconst dL_sound_24 (v := 0) (by decide) ?_
  exact xm_sub [0, 1] rfl (L_L_sound_j25 σ l0 l1 (0 : Int32) hf hR)
def f_L_sound (σ : xM) (l0 : Nat) (l1 : Int32) : Option (Int32 × xM) :=
  (if xk σ l0 11 = true then (f_X11_node σ l0 l1 (0 : Int32) (4 : Int32)).bind (fun p1 => Sum.elim (fun w2 => (if w2 = (-1 : Int32) then (if xk σ l0 11 = true then (f_X11_isSame σ l0 l1 l1).bind (fun p24 => Sum.elim (fun w25 => (if w25 = (0 : Int32) then f_L_sound_j24 σ l0 l1 else f_L_sound_j25 σ l0 l1 (1 : Int32))) (fun _ => none) p24) else none) else f_L_sound_j24 σ l0 l1)) (fun _ => none) p1) else none)
set_option maxHeartbeats 4000000 in
set_option maxRecDepth 20000 in
theorem m_L_sound {G : xG} {π : Nat → Nat} {d C Z : Nat} {Q : xQ} {σ : xM} {l0 : Nat} {l1 : Int32} {x : (Int32 × xM)} (hf : f_L_sound σ l0 l1 = some x) (hR : ∀ g, x = g → ∀ π', xag 4562 π π' → Q (.inl (some (.int g.1))) (g.2) π') : xMach G π J_L_sound (d + 409) (C + 1) (Z + 60) 0 (lv_args 0 [.ref l0, .int l1]) [] σ Q := by
  unfold f_L_sound at hf
  refine xm_stL (L' := [(0, .ref l0), (1, .int l1)]) rfl ?_
  refine xm_aload_n dL_sound_0 rfl ?_
  refine xm_iload_n dL_sound_1 rfl ?_
  refine xm_iconst dL_sound_2 (v := 0) (by decide) ?_
  refine xm_iconst dL_sound_3 (v := 4) (by decide) ?_
  refine xb_if hf (fun hb hf => ?_) (fun _ q => nomatch q)
  obtain ⟨p1, ep1, hf⟩ := xbind hf
  rcases p1 with w2 | E
  · rw [Sum.elim_inl] at hf
    have hf : (if w2 = (-1 : Int32) then (if xk σ l0 11 = true then (f_X11_isSame σ l0 l1 l1).bind (fun p24 => Sum.elim (fun w25 => (if w25 = (0 : Int32) then f_L_sound_j24 σ l0 l1 else f_L_sound_j25 σ l0 l1 (1 : Int32))) (fun _ => none) p24) else none) else f_L_sound_j24 σ l0 l1) = some _ := hf
    refine xb_callV (As := [.int l1, .int (0 : Int32), .int (4 : Int32)]) (v0 := (some (.int w2))) (τ0 := σ) dL_sound_4 (xc_X11_node _ _) xcl11 xw_1249 xw_1250 xw_1251 hb rfl (Nat.le_of_ble_eq_true rfl) rfl (Nat.le_of_ble_eq_true rfl) (fun Q1 hq => m_X11_node (d := d + 400) ep1 (fun g hg => by subst hg; exact hq)) ?_
    refine xm_iconst dL_sound_7 (v := -1) (by decide) ?_
    refine xb_icmp_ne 24 dL_sound_8 (by decide) hf (fun c hf => ?_) (fun c hf => ?_)
    · exact xm_sub [0, 1] rfl (L_L_sound_j24 σ l0 l1 hf hR)
    · refine xm_aload_n dL_sound_11 rfl ?_
      refine xm_iload_n dL_sound_12 rfl ?_
      refine xm_iload_n dL_sound_13 rfl ?_
      refine xb_if hf (fun hb hf => ?_) (fun _ q => nomatch q)
      obtain ⟨p24, ep24, hf⟩ := xbind hf
      rcases p24 with w25 | E
      · rw [Sum.elim_inl] at hf
        have hf : (if w25 = (0 : Int32) then f_L_sound_j24 σ l0 l1 else f_L_sound_j25 σ l0 l1 (1 : Int32)) = some _ := hf
        refine xb_callV (As := [.int l1, .int l1]) (v0 := (some (.int w25))) (τ0 := σ) dL_sound_14 (xc_X11_isSame _ _) xcl11 xw_1263 xw_1264 xw_1265 hb rfl (Nat.le_of_ble_eq_true rfl) rfl (Nat.le_of_ble_eq_true rfl) (fun Q1 hq => m_X11_isSame (d := d + 400) ep24 (fun g hg => by subst hg; exact hq)) ?_
        refine xb_if_eq 24 dL_sound_17 (by decide) hf (fun c hf => ?_) (fun c hf => ?_)
        · exact xm_sub [0, 1] rfl (L_L_sound_j24 σ l0 l1 hf hR)
        · refine xm_iconst dL_sound_20 (v := 1) (by decide) ?_
          refine xm_goto 25 dL_sound_21 (by decide) ?_
          exact xm_sub [0, 1] rfl (L_L_sound_j25 σ l0 l1 (1 : Int32) hf hR)
      · cases hf
  · cases hf
-- law: law
