def f_L_faulty_j94 (σ : xM) (l0 : Nat) (l1 : Nat) (l2 : Int32) (l3 : Int32) (l5 : Int32) (s0 : Int32) : Option ((Int32 × xM) ⊕ ((Int32 × xM) ⊕ (Nat × Nat × Int32 × Int32 × Int32 × Int32 × xM))) :=
  xlet (l5 + (1 : Int32)) (fun v4 => some (Sum.inr (Sum.inr (l0, l1, l2, l3, s0, v4, σ))))
set_option maxHeartbeats 4000000 in
set_option maxRecDepth 20000 in
theorem L_L_faulty_j94 {G : xG} {π : Nat → Nat} {d C Z : Nat} {Q : xQ} (σ : xM) (l0 : Nat) (l1 : Nat) (l2 : Int32) (l3 : Int32) (l5 : Int32) (s0 : Int32) {x : ((Int32 × xM) ⊕ ((Int32 × xM) ⊕ (Nat × Nat × Int32 × Int32 × Int32 × Int32 × xM)))} (hf : f_L_faulty_j94 σ l0 l1 l2 l3 l5 s0 = some x) (hR : ∀ g, x = Sum.inl (g) → Q (.inl (some (.int g.1))) (g.2) π) (hE : ∀ e : (Int32 × xM), x = Sum.inr (Sum.inl e) → xMach G π J_L_faulty (d + 9) C Z 102 [(4, .int e.1)] [] e.2 Q) (hC : ∀ e : (Nat × Nat × Int32 × Int32 × Int32 × Int32 × xM), x = Sum.inr (Sum.inr e) → xMach G π J_L_faulty (d + 9) C Z 27 [(0, .ref e.1), (1, .ref e.2.1), (2, .int e.2.2.1), (3, .int e.2.2.2.1), (4, .int e.2.2.2.2.1), (5, .int e.2.2.2.2.2.1)] [] e.2.2.2.2.2.2 Q) : xMach G π J_L_faulty (d + 9) C Z 94 [(0, .ref l0), (1, .ref l1), (2, .int l2), (3, .int l3), (5, .int l5)] [.int s0] σ Q := by
  unfold f_L_faulty_j94 at hf
  refine xm_istore dL_faulty_94 (by decide) (xm_stL (L' := [(4, .int s0), (0, .ref l0), (1, .ref l1), (2, .int l2), (3, .int l3), (5, .int l5)]) rfl ?_)
  refine xb_iinc dL_faulty_96 rfl (by decide) (by decide) hf (fun v4 ev4 hf => xm_stL (L' := [(5, .int v4), (4, .int s0), (0, .ref l0), (1, .ref l1), (2, .int l2), (3, .int l3)]) rfl ?_)
  refine xm_goto 27 dL_faulty_99 (by decide) ?_
  cases hf
  exact xm_sub [2, 3, 4, 5, 1, 0] rfl (hC _ rfl)
def f_L_faulty_j93 (σ : xM) (l0 : Nat) (l1 : Nat) (l2 : Int32) (l3 : Int32) (l5 : Int32) : Option ((Int32 × xM) ⊕ ((Int32 × xM) ⊕ (Nat × Nat × Int32 × Int32 × Int32 × Int32 × xM))) :=
  f_L_faulty_j94 σ l0 l1 l2 l3 l5 (0 : Int32)
set_option maxHeartbeats 4000000 in
set_option maxRecDepth 20000 in
theorem L_L_faulty_j93 {G : xG} {π : Nat → Nat} {d C Z : Nat} {Q : xQ} (σ : xM) (l0 : Nat) (l1 : Nat) (l2 : Int32) (l3 : Int32) (l5 : Int32) {x : ((Int32 × xM) ⊕ ((Int32 × xM) ⊕ (Nat × Nat × Int32 × Int32 × Int32 × Int32 × xM)))} (hf : f_L_faulty_j93 σ l0 l1 l2 l3 l5 = some x) (hR : ∀ g, x = Sum.inl (g) → Q (.inl (some (.int g.1))) (g.2) π) (hE : ∀ e : (Int32 × xM), x = Sum.inr (Sum.inl e) → xMach G π J_L_faulty (d + 9) C Z 102 [(4, .int e.1)] [] e.2 Q) (hC : ∀ e : (Nat × Nat × Int32 × Int32 × Int32 × Int32 × xM), x = Sum.inr (Sum.inr e) → xMach G π J_L_faulty (d + 9) C Z 27 [(0, .ref e.1), (1, .ref e.2.1), (2, .int e.2.2.1), (3, .int e.2.2.2.1), (4, .int e.2.2.2.2.1), (5, .int e.2.2.2.2.2.1)] [] e.2.2.2.2.2.2 Q) : xMach G π J_L_faulty (d + 9) C Z 93 [(0, .ref l0), (1, .ref l1), (2, .int l2), (3, .int l3), (5, .int l5)] [] σ Q := by
  unfold f_L_faulty_j93 at hf
  refine xm_iconst dL_faulty_93 (v := 0) (by decide) ?_
  exact xm_sub [0, 1, 2, 3, 4] rfl (L_L_faulty_j94 σ l0 l1 l2 l3 l5 (0 : Int32) hf hR hE hC)
def f_L_faulty_j80 (σ : xM) (l0 : Nat) (l1 : Nat) (l2 : Int32) (l3 : Int32) (l5 : Int32) : Option ((Int32 × xM) ⊕ ((Int32 × xM) ⊕ (Nat × Nat × Int32 × Int32 × Int32 × Int32 × xM))) :=
  (if xk σ l0 11 = true then (f_X11_drop σ l0).bind (fun p5 => (if p5.1 = l5 then f_L_faulty_j94 p5.2 l0 l1 l2 l3 l5 (1 : Int32) else f_L_faulty_j93 p5.2 l0 l1 l2 l3 l5)) else none)
set_option maxHeartbeats 4000000 in
set_option maxRecDepth 20000 in
theorem L_L_faulty_j80 {G : xG} {π : Nat → Nat} {d C Z : Nat} {Q : xQ} (σ : xM) (l0 : Nat) (l1 : Nat) (l2 : Int32) (l3 : Int32) (l5 : Int32) {x : ((Int32 × xM) ⊕ ((Int32 × xM) ⊕ (Nat × Nat × Int32 × Int32 × Int32 × Int32 × xM)))} (hf : f_L_faulty_j80 σ l0 l1 l2 l3 l5 = some x) (hR : ∀ g, x = Sum.inl (g) → Q (.inl (some (.int g.1))) (g.2) π) (hE : ∀ e : (Int32 × xM), x = Sum.inr (Sum.inl e) → xMach G π J_L_faulty (d + 9) C Z 102 [(4, .int e.1)] [] e.2 Q) (hC : ∀ e : (Nat × Nat × Int32 × Int32 × Int32 × Int32 × xM), x = Sum.inr (Sum.inr e) → xMach G π J_L_faulty (d + 9) C Z 27 [(0, .ref e.1), (1, .ref e.2.1), (2, .int e.2.2.1), (3, .int e.2.2.2.1), (4, .int e.2.2.2.2.1), (5, .int e.2.2.2.2.2.1)] [] e.2.2.2.2.2.2 Q) : xMach G π J_L_faulty (d + 9) C Z 80 [(0, .ref l0), (1, .ref l1), (2, .int l2), (3, .int l3), (5, .int l5)] [] σ Q := by
  unfold f_L_faulty_j80 at hf
  refine xm_aload_n dL_faulty_80 rfl ?_
  refine xb_if hf (fun hb hf => ?_) (fun _ q => nomatch q)
  obtain ⟨p5, ep5, hf⟩ := xbind hf
  refine xb_callV (As := []) (v0 := (some (.int p5.1))) (τ0 := p5.2) dL_faulty_81 (xc_X11_drop _ _) xcl11 xw_703 xw_704 xw_705 hb rfl (Nat.le_of_ble_eq_true rfl) rfl (Nat.le_of_ble_eq_true rfl) (fun Q1 hq => m_X11_drop (d := d + 8) ep5 (fun g hg => by subst hg; exact hq)) ?_
  refine xm_iload dL_faulty_84 rfl ?_
  refine xb_icmp_ne 93 dL_faulty_86 (by decide) hf (fun c hf => ?_) (fun c hf => ?_)
  · exact xm_sub [0, 1, 2, 3, 4] rfl (L_L_faulty_j93 p5.2 l0 l1 l2 l3 l5 hf hR hE hC)
  · refine xm_iconst dL_faulty_89 (v := 1) (by decide) ?_
    refine xm_goto 94 dL_faulty_90 (by decide) ?_
    exact xm_sub [0, 1, 2, 3, 4] rfl (L_L_faulty_j94 p5.2 l0 l1 l2 l3 l5 (1 : Int32) hf hR hE hC)
def f_L_faulty_s27 (s : (Nat × Nat × Int32 × Int32 × Int32 × Int32 × xM)) : Option ((Int32 × xM) ⊕ ((Int32 × xM) ⊕ (Nat × Nat × Int32 × Int32 × Int32 × Int32 × xM))) :=
  xlet s.1 (fun l0 => xlet s.2.1 (fun l1 => xlet s.2.2.1 (fun l2 => xlet s.2.2.2.1 (fun l3 => xlet s.2.2.2.2.1 (fun l4 => xlet s.2.2.2.2.2.1 (fun l5 => xlet s.2.2.2.2.2.2 (fun σ => (if l2 < l5 then some (Sum.inr (Sum.inl (l4, σ))) else (if l4 = (0 : Int32) then some (Sum.inr (Sum.inl (l4, σ))) else (f_L_types σ l0 l1 (0 : Int32) l5).bind (fun p2 => (if xk p2 l0 11 = true then (f_X11_fault p2 l0).bind (fun p3 => (if l3 < l5 then (if p3.1 = l3 then f_L_faulty_j80 p3.2 l0 l1 l2 l3 l5 else f_L_faulty_j93 p3.2 l0 l1 l2 l3 l5) else (if p3.1 = l5 then f_L_faulty_j80 p3.2 l0 l1 l2 l3 l5 else (if p3.1 = (-1 : Int32) then f_L_faulty_j80 p3.2 l0 l1 l2 l3 l5 else f_L_faulty_j93 p3.2 l0 l1 l2 l3 l5)))) else none)))))))))))
set_option maxHeartbeats 4000000 in
set_option maxRecDepth 20000 in
theorem L_L_faulty_s27 {G : xG} {π : Nat → Nat} {d C Z : Nat} {Q : xQ} (σ : xM) (l0 : Nat) (l1 : Nat) (l2 : Int32) (l3 : Int32) (l4 : Int32) (l5 : Int32) {x : ((Int32 × xM) ⊕ ((Int32 × xM) ⊕ (Nat × Nat × Int32 × Int32 × Int32 × Int32 × xM)))} (hf : f_L_faulty_s27 (l0, l1, l2, l3, l4, l5, σ) = some x) (hR : ∀ g, x = Sum.inl (g) → Q (.inl (some (.int g.1))) (g.2) π) (hE : ∀ e : (Int32 × xM), x = Sum.inr (Sum.inl e) → xMach G π J_L_faulty (d + 9) C Z 102 [(4, .int e.1)] [] e.2 Q) (hC : ∀ e : (Nat × Nat × Int32 × Int32 × Int32 × Int32 × xM), x = Sum.inr (Sum.inr e) → xMach G π J_L_faulty (d + 9) C Z 27 [(0, .ref e.1), (1, .ref e.2.1), (2, .int e.2.2.1), (3, .int e.2.2.2.1), (4, .int e.2.2.2.2.1), (5, .int e.2.2.2.2.2.1)] [] e.2.2.2.2.2.2 Q) : xMach G π J_L_faulty (d + 9) C Z 27 [(0, .ref l0), (1, .ref l1), (2, .int l2), (3, .int l3), (4, .int l4), (5, .int l5)] [] σ Q := by
  have hf : (if l2 < l5 then some (Sum.inr (Sum.inl (l4, σ))) else (if l4 = (0 : Int32) then some (Sum.inr (Sum.inl (l4, σ))) else (f_L_types σ l0 l1 (0 : Int32) l5).bind (fun p2 => (if xk p2 l0 11 = true then (f_X11_fault p2 l0).bind (fun p3 => (if l3 < l5 then (if p3.1 = l3 then f_L_faulty_j80 p3.2 l0 l1 l2 l3 l5 else f_L_faulty_j93 p3.2 l0 l1 l2 l3 l5) else (if p3.1 = l5 then f_L_faulty_j80 p3.2 l0 l1 l2 l3 l5 else (if p3.1 = (-1 : Int32) then f_L_faulty_j80 p3.2 l0 l1 l2 l3 l5 else f_L_faulty_j93 p3.2 l0 l1 l2 l3 l5)))) else none)))) = some x := hf
  refine xm_iload dL_faulty_27 rfl ?_
  refine xm_iload_n dL_faulty_29 rfl ?_
  refine xb_icmp_gt 102 dL_faulty_30 (by decide) hf (fun c hf => ?_) (fun c hf => ?_)
  · cases hf
    exact xm_sub [4] rfl (hE _ rfl)
  · refine xm_iload dL_faulty_33 rfl ?_
    refine xb_if_eq 102 dL_faulty_35 (by decide) hf (fun c hf => ?_) (fun c hf => ?_)
    · cases hf
      exact xm_sub [4] rfl (hE _ rfl)
    · refine xm_aload_n dL_faulty_38 rfl ?_
      refine xm_aload_n dL_faulty_39 rfl ?_
      refine xm_iconst dL_faulty_40 (v := 0) (by decide) ?_
      refine xm_iload dL_faulty_41 rfl ?_
      obtain ⟨p2, ep2, hf⟩ := xbind hf
      refine xb_callS (As := [.ref l0, .ref l1, .int (0 : Int32), .int l5]) (v0 := none) (τ0 := p2) dL_faulty_43 (xc_L_types _ _) xw_1237 xw_1238 rfl (Nat.le_of_ble_eq_true rfl) rfl (Nat.le_of_ble_eq_true rfl) (fun Q1 hq => m_L_types (d := d + 0) (C := 0) (Z := 0) ep2 (fun g hg => by subst hg; exact hq)) ?_
      refine xm_aload_n dL_faulty_46 rfl ?_
      refine xb_if hf (fun hb hf => ?_) (fun _ q => nomatch q)
      obtain ⟨p3, ep3, hf⟩ := xbind hf
      refine xb_callV (As := []) (v0 := (some (.int p3.1))) (τ0 := p3.2) dL_faulty_47 (xc_X11_fault _ _) xcl11 xw_707 xw_708 xw_709 hb rfl (Nat.le_of_ble_eq_true rfl) rfl (Nat.le_of_ble_eq_true rfl) (fun Q1 hq => m_X11_fault (d := d + 4) ep3 (fun g hg => by subst hg; exact hq)) ?_
      refine xm_istore dL_faulty_50 (by decide) (xm_stL (L' := [(6, .int p3.1), (0, .ref l0), (1, .ref l1), (2, .int l2), (3, .int l3), (4, .int l4), (5, .int l5)]) rfl ?_)
      refine xm_iload dL_faulty_52 rfl ?_
      refine xm_iload_n dL_faulty_54 rfl ?_
      refine xb_icmp_gt 74 dL_faulty_55 (by decide) hf (fun c hf => ?_) (fun c hf => ?_)
      · refine xm_iload dL_faulty_74 rfl ?_
        refine xm_iload_n dL_faulty_76 rfl ?_
        refine xb_icmp_ne 93 dL_faulty_77 (by decide) hf (fun c hf => ?_) (fun c hf => ?_)
        · exact xm_sub [1, 2, 3, 4, 6] rfl (L_L_faulty_j93 p3.2 l0 l1 l2 l3 l5 hf hR hE hC)
        · exact xm_sub [1, 2, 3, 4, 6] rfl (L_L_faulty_j80 p3.2 l0 l1 l2 l3 l5 hf hR hE hC)
      · refine xm_iload dL_faulty_58 rfl ?_
        refine xm_iload dL_faulty_60 rfl ?_
        refine xb_icmp_eq 80 dL_faulty_62 (by decide) hf (fun c hf => ?_) (fun c hf => ?_)
        · exact xm_sub [1, 2, 3, 4, 6] rfl (L_L_faulty_j80 p3.2 l0 l1 l2 l3 l5 hf hR hE hC)
        · refine xm_iload dL_faulty_65 rfl ?_
          refine xm_iconst dL_faulty_67 (v := -1) (by decide) ?_
          refine xb_icmp_ne 93 dL_faulty_68 (by decide) hf (fun c hf => ?_) (fun c hf => ?_)
          · exact xm_sub [1, 2, 3, 4, 6] rfl (L_L_faulty_j93 p3.2 l0 l1 l2 l3 l5 hf hR hE hC)
          · refine xm_goto 80 dL_faulty_71 (by decide) ?_
            exact xm_sub [1, 2, 3, 4, 6] rfl (L_L_faulty_j80 p3.2 l0 l1 l2 l3 l5 hf hR hE hC)
theorem L_L_faulty_l27 {G : xG} {π : Nat → Nat} {d C Z : Nat} {Q : xQ} {s0 : (Nat × Nat × Int32 × Int32 × Int32 × Int32 × xM)} {x : ((Int32 × xM) ⊕ (Int32 × xM))} (h1 : xloop (f_L_faulty_s27) xF s0 = some x) (hR : ∀ g, x = Sum.inl g → Q (.inl (some (.int g.1))) (g.2) π) (hE : ∀ e : (Int32 × xM), x = Sum.inr e → xMach G π J_L_faulty (d + 9) C Z 102 [(4, .int e.1)] [] e.2 Q) : xMach G π J_L_faulty (d + 9) C Z 27 [(0, .ref s0.1), (1, .ref s0.2.1), (2, .int s0.2.2.1), (3, .int s0.2.2.2.1), (4, .int s0.2.2.2.2.1), (5, .int s0.2.2.2.2.2.1)] [] s0.2.2.2.2.2.2 Q := by
  refine xloop_run (M := (fun s : (Nat × Nat × Int32 × Int32 × Int32 × Int32 × xM) => xMach G π J_L_faulty (d + 9) C Z 27 [(0, .ref s.1), (1, .ref s.2.1), (2, .int s.2.2.1), (3, .int s.2.2.2.1), (4, .int s.2.2.2.2.1), (5, .int s.2.2.2.2.2.1)] [] s.2.2.2.2.2.2 Q)) (r := x) ?_ xF _ h1
  intro s y hs hx
  exact L_L_faulty_s27 s.2.2.2.2.2.2 s.1 s.2.1 s.2.2.1 s.2.2.2.1 s.2.2.2.2.1 s.2.2.2.2.2.1 (x := y) hs (fun g hg => by subst hg; exact hR g hx) (fun e he => by subst he; exact hE e hx) (fun e he => by subst he; exact hx)
def f_L_faulty_j102 (σ : xM) (l4 : Int32) : Option (Int32 × xM) :=
  (xz l4).bind (fun b6 => some (b6, σ))
set_option maxHeartbeats 4000000 in
set_option maxRecDepth 20000 in
theorem L_L_faulty_j102 {G : xG} {π : Nat → Nat} {d C Z : Nat} {Q : xQ} (σ : xM) (l4 : Int32) {x : (Int32 × xM)} (hf : f_L_faulty_j102 σ l4 = some x) (hR : ∀ g, x = g → Q (.inl (some (.int g.1))) (g.2) π) : xMach G π J_L_faulty (d + 9) C Z 102 [(4, .int l4)] [] σ Q := by
  unfold f_L_faulty_j102 at hf
  refine xm_iload dL_faulty_102 rfl ?_
  obtain ⟨b6, eb6, hf⟩ := xbind hf
  obtain ⟨rfl, hz⟩ := xz_of eb6
  cases hf
  exact xm_zret dL_faulty_104 rfl hz (hR _ rfl)
def f_L_faulty_j22 (σ : xM) (l0 : Nat) (l1 : Nat) (l2 : Int32) (l3 : Int32) (s0 : Int32) : Option (Int32 × xM) :=
  xlet (0 : Int32) (fun v1 => (xloop (f_L_faulty_s27 ) xF (l0, l1, l2, l3, s0, v1, σ)).bind (Sum.elim (fun g => some g) (fun e => f_L_faulty_j102 e.2 e.1)))
set_option maxHeartbeats 4000000 in
set_option maxRecDepth 20000 in
theorem L_L_faulty_j22 {G : xG} {π : Nat → Nat} {d C Z : Nat} {Q : xQ} (σ : xM) (l0 : Nat) (l1 : Nat) (l2 : Int32) (l3 : Int32) (s0 : Int32) {x : (Int32 × xM)} (hf : f_L_faulty_j22 σ l0 l1 l2 l3 s0 = some x) (hR : ∀ g, x = g → Q (.inl (some (.int g.1))) (g.2) π) : xMach G π J_L_faulty (d + 9) C Z 22 [(0, .ref l0), (1, .ref l1), (2, .int l2), (3, .int l3)] [.int s0] σ Q := by
  unfold f_L_faulty_j22 at hf
  refine xm_istore dL_faulty_22 (by decide) (xm_stL (L' := [(4, .int s0), (0, .ref l0), (1, .ref l1), (2, .int l2), (3, .int l3)]) rfl ?_)
  refine xm_iconst dL_faulty_24 (v := 0) (by decide) ?_
  refine xb_topi hf (fun v1 ev1 hf => ?_)
  refine xm_istore dL_faulty_25 (by decide) (xm_stL (L' := [(5, .int v1), (4, .int s0), (0, .ref l0), (1, .ref l1), (2, .int l2), (3, .int l3)]) rfl ?_)
  obtain ⟨o, h1, hf⟩ := xbind hf
  refine xm_sub [2, 3, 4, 5, 1, 0] rfl (L_L_faulty_l27  h1 (fun g hg => ?_) (fun e he => ?_))
  · subst hg
    cases hf
    exact hR _ rfl
  · subst he
    rw [Sum.elim_inr] at hf
    have hf : f_L_faulty_j102 e.2 e.1 = some _ := hf
    exact xm_sub [0] rfl (L_L_faulty_j102 e.2 e.1 hf hR)
def f_L_faulty_j21 (σ : xM) (l0 : Nat) (l1 : Nat) (l2 : Int32) (l3 : Int32) : Option (Int32 × xM) :=
  f_L_faulty_j22 σ l0 l1 l2 l3 (0 : Int32)
set_option maxHeartbeats 4000000 in
set_option maxRecDepth 20000 in
theorem L_L_faulty_j21 {G : xG} {π : Nat → Nat} {d C Z : Nat} {Q : xQ} (σ : xM) (l0 : Nat) (l1 : Nat) (l2 : Int32) (l3 : Int32) {x : (Int32 × xM)} (hf : f_L_faulty_j21 σ l0 l1 l2 l3 = some x) (hR : ∀ g, x = g → Q (.inl (some (.int g.1))) (g.2) π) : xMach G π J_L_faulty (d + 9) C Z 21 [(0, .ref l0), (1, .ref l1), (2, .int l2), (3, .int l3)] [] σ Q := by
  unfold f_L_faulty_j21 at hf
  refine xm_iconst dL_faulty_21 (v := 0) (by decide) ?_
  exact xm_sub [0, 1, 2, 3] rfl (L_L_faulty_j22 σ l0 l1 l2 l3 (0 : Int32) hf hR)
def f_L_faulty (σ : xM) (l0 : Nat) (l1 : Nat) (l2 : Int32) (l3 : Int32) : Option (Int32 × xM) :=
  (if l3 < (0 : Int32) then f_L_faulty_j21 σ l0 l1 l2 l3 else (if l2 < l3 then f_L_faulty_j21 σ l0 l1 l2 l3 else (if xk σ l0 11 = true then (f_X11_drop σ l0).bind (fun p7 => (if p7.1 = l2 then f_L_faulty_j22 p7.2 l0 l1 l2 l3 (1 : Int32) else f_L_faulty_j21 p7.2 l0 l1 l2 l3)) else none)))
set_option maxHeartbeats 4000000 in
set_option maxRecDepth 20000 in
theorem m_L_faulty {G : xG} {π : Nat → Nat} {d C Z : Nat} {Q : xQ} {σ : xM} {l0 : Nat} {l1 : Nat} {l2 : Int32} {l3 : Int32} {x : (Int32 × xM)} (hf : f_L_faulty σ l0 l1 l2 l3 = some x) (hR : ∀ g, x = g → Q (.inl (some (.int g.1))) (g.2) π) : xMach G π J_L_faulty (d + 9) C Z 0 (lv_args 0 [.ref l0, .ref l1, .int l2, .int l3]) [] σ Q := by
  unfold f_L_faulty at hf
  refine xm_stL (L' := [(0, .ref l0), (1, .ref l1), (2, .int l2), (3, .int l3)]) rfl ?_
  refine xm_iload_n dL_faulty_0 rfl ?_
  refine xb_if_lt 21 dL_faulty_1 (by decide) hf (fun c hf => ?_) (fun c hf => ?_)
  · exact xm_sub [0, 1, 2, 3] rfl (L_L_faulty_j21 σ l0 l1 l2 l3 hf hR)
  · refine xm_iload_n dL_faulty_4 rfl ?_
    refine xm_iload_n dL_faulty_5 rfl ?_
    refine xb_icmp_gt 21 dL_faulty_6 (by decide) hf (fun c hf => ?_) (fun c hf => ?_)
    · exact xm_sub [0, 1, 2, 3] rfl (L_L_faulty_j21 σ l0 l1 l2 l3 hf hR)
    · refine xm_aload_n dL_faulty_9 rfl ?_
      refine xb_if hf (fun hb hf => ?_) (fun _ q => nomatch q)
      obtain ⟨p7, ep7, hf⟩ := xbind hf
      refine xb_callV (As := []) (v0 := (some (.int p7.1))) (τ0 := p7.2) dL_faulty_10 (xc_X11_drop _ _) xcl11 xw_703 xw_704 xw_705 hb rfl (Nat.le_of_ble_eq_true rfl) rfl (Nat.le_of_ble_eq_true rfl) (fun Q1 hq => m_X11_drop (d := d + 8) ep7 (fun g hg => by subst hg; exact hq)) ?_
      refine xm_iload_n dL_faulty_13 rfl ?_
      refine xb_icmp_ne 21 dL_faulty_14 (by decide) hf (fun c hf => ?_) (fun c hf => ?_)
      · exact xm_sub [0, 1, 2, 3] rfl (L_L_faulty_j21 p7.2 l0 l1 l2 l3 hf hR)
      · refine xm_iconst dL_faulty_17 (v := 1) (by decide) ?_
        refine xm_goto 22 dL_faulty_18 (by decide) ?_
        exact xm_sub [0, 1, 2, 3] rfl (L_L_faulty_j22 p7.2 l0 l1 l2 l3 (1 : Int32) hf hR)
-- law: printed
