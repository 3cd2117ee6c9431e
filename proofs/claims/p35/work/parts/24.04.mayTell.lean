def f_L_mayTell_j94 (σ : xM) (l0 : Nat) (l1 : Int32) (l2 : Int32) (l3 : Int32) (l4 : Int32) (l6 : Int32) (s0 : Int32) : Option (Int32 ⊕ ((Int32) ⊕ (Nat × Int32 × Int32 × Int32 × Int32 × Int32 × Int32))) :=
  xlet (l6 + (1 : Int32)) (fun v3 => some (Sum.inr (Sum.inr (l0, l1, l2, l3, l4, s0, v3))))
set_option maxHeartbeats 4000000 in
set_option maxRecDepth 20000 in
theorem L_L_mayTell_j94 {G : xG} {π : Nat → Nat} {d C Z : Nat} {Q : xQ} (σ : xM) (l0 : Nat) (l1 : Int32) (l2 : Int32) (l3 : Int32) (l4 : Int32) (l6 : Int32) (s0 : Int32) {x : (Int32 ⊕ ((Int32) ⊕ (Nat × Int32 × Int32 × Int32 × Int32 × Int32 × Int32)))} (hf : f_L_mayTell_j94 σ l0 l1 l2 l3 l4 l6 s0 = some x) (hR : ∀ g, x = Sum.inl (g) → Q (.inl (some (.int g))) (σ) π) (hE : ∀ e : (Int32), x = Sum.inr (Sum.inl e) → xMach G π J_L_mayTell (d + 8) C Z 102 [(5, .int e)] [] σ Q) (hC : ∀ e : (Nat × Int32 × Int32 × Int32 × Int32 × Int32 × Int32), x = Sum.inr (Sum.inr e) → xMach G π J_L_mayTell (d + 8) C Z 34 [(0, .ref e.1), (1, .int e.2.1), (2, .int e.2.2.1), (3, .int e.2.2.2.1), (4, .int e.2.2.2.2.1), (5, .int e.2.2.2.2.2.1), (6, .int e.2.2.2.2.2.2)] [] σ Q) : xMach G π J_L_mayTell (d + 8) C Z 94 [(0, .ref l0), (1, .int l1), (2, .int l2), (3, .int l3), (4, .int l4), (6, .int l6)] [.int s0] σ Q := by
  unfold f_L_mayTell_j94 at hf
  refine xm_istore dL_mayTell_94 (by decide) (xm_stL (L' := [(5, .int s0), (0, .ref l0), (1, .int l1), (2, .int l2), (3, .int l3), (4, .int l4), (6, .int l6)]) rfl ?_)
  refine xb_iinc dL_mayTell_96 rfl (by decide) (by decide) hf (fun v3 ev3 hf => xm_stL (L' := [(6, .int v3), (5, .int s0), (0, .ref l0), (1, .int l1), (2, .int l2), (3, .int l3), (4, .int l4)]) rfl ?_)
  refine xm_goto 34 dL_mayTell_99 (by decide) ?_
  cases hf
  exact xm_sub [2, 3, 4, 5, 6, 1, 0] rfl (hC _ rfl)
def f_L_mayTell_j93 (σ : xM) (l0 : Nat) (l1 : Int32) (l2 : Int32) (l3 : Int32) (l4 : Int32) (l6 : Int32) : Option (Int32 ⊕ ((Int32) ⊕ (Nat × Int32 × Int32 × Int32 × Int32 × Int32 × Int32))) :=
  f_L_mayTell_j94 σ l0 l1 l2 l3 l4 l6 (0 : Int32)
set_option maxHeartbeats 4000000 in
set_option maxRecDepth 20000 in
theorem L_L_mayTell_j93 {G : xG} {π : Nat → Nat} {d C Z : Nat} {Q : xQ} (σ : xM) (l0 : Nat) (l1 : Int32) (l2 : Int32) (l3 : Int32) (l4 : Int32) (l6 : Int32) {x : (Int32 ⊕ ((Int32) ⊕ (Nat × Int32 × Int32 × Int32 × Int32 × Int32 × Int32)))} (hf : f_L_mayTell_j93 σ l0 l1 l2 l3 l4 l6 = some x) (hR : ∀ g, x = Sum.inl (g) → Q (.inl (some (.int g))) (σ) π) (hE : ∀ e : (Int32), x = Sum.inr (Sum.inl e) → xMach G π J_L_mayTell (d + 8) C Z 102 [(5, .int e)] [] σ Q) (hC : ∀ e : (Nat × Int32 × Int32 × Int32 × Int32 × Int32 × Int32), x = Sum.inr (Sum.inr e) → xMach G π J_L_mayTell (d + 8) C Z 34 [(0, .ref e.1), (1, .int e.2.1), (2, .int e.2.2.1), (3, .int e.2.2.2.1), (4, .int e.2.2.2.2.1), (5, .int e.2.2.2.2.2.1), (6, .int e.2.2.2.2.2.2)] [] σ Q) : xMach G π J_L_mayTell (d + 8) C Z 93 [(0, .ref l0), (1, .int l1), (2, .int l2), (3, .int l3), (4, .int l4), (6, .int l6)] [] σ Q := by
  unfold f_L_mayTell_j93 at hf
  refine xm_iconst dL_mayTell_93 (v := 0) (by decide) ?_
  exact xm_sub [0, 1, 2, 3, 4, 5] rfl (L_L_mayTell_j94 σ l0 l1 l2 l3 l4 l6 (0 : Int32) hf hR hE hC)
def f_L_mayTell_j89 (σ : xM) (l0 : Nat) (l1 : Int32) (l2 : Int32) (l3 : Int32) (l4 : Int32) (l6 : Int32) : Option (Int32 ⊕ ((Int32) ⊕ (Nat × Int32 × Int32 × Int32 × Int32 × Int32 × Int32))) :=
  f_L_mayTell_j94 σ l0 l1 l2 l3 l4 l6 (1 : Int32)
set_option maxHeartbeats 4000000 in
set_option maxRecDepth 20000 in
theorem L_L_mayTell_j89 {G : xG} {π : Nat → Nat} {d C Z : Nat} {Q : xQ} (σ : xM) (l0 : Nat) (l1 : Int32) (l2 : Int32) (l3 : Int32) (l4 : Int32) (l6 : Int32) {x : (Int32 ⊕ ((Int32) ⊕ (Nat × Int32 × Int32 × Int32 × Int32 × Int32 × Int32)))} (hf : f_L_mayTell_j89 σ l0 l1 l2 l3 l4 l6 = some x) (hR : ∀ g, x = Sum.inl (g) → Q (.inl (some (.int g))) (σ) π) (hE : ∀ e : (Int32), x = Sum.inr (Sum.inl e) → xMach G π J_L_mayTell (d + 8) C Z 102 [(5, .int e)] [] σ Q) (hC : ∀ e : (Nat × Int32 × Int32 × Int32 × Int32 × Int32 × Int32), x = Sum.inr (Sum.inr e) → xMach G π J_L_mayTell (d + 8) C Z 34 [(0, .ref e.1), (1, .int e.2.1), (2, .int e.2.2.1), (3, .int e.2.2.2.1), (4, .int e.2.2.2.2.1), (5, .int e.2.2.2.2.2.1), (6, .int e.2.2.2.2.2.2)] [] σ Q) : xMach G π J_L_mayTell (d + 8) C Z 89 [(0, .ref l0), (1, .int l1), (2, .int l2), (3, .int l3), (4, .int l4), (6, .int l6)] [] σ Q := by
  unfold f_L_mayTell_j89 at hf
  refine xm_iconst dL_mayTell_89 (v := 1) (by decide) ?_
  refine xm_goto 94 dL_mayTell_90 (by decide) ?_
  exact xm_sub [0, 1, 2, 3, 4, 5] rfl (L_L_mayTell_j94 σ l0 l1 l2 l3 l4 l6 (1 : Int32) hf hR hE hC)
def f_L_mayTell_s34 (σ : xM) (s : (Nat × Int32 × Int32 × Int32 × Int32 × Int32 × Int32)) : Option (Int32 ⊕ ((Int32) ⊕ (Nat × Int32 × Int32 × Int32 × Int32 × Int32 × Int32))) :=
  xlet s.1 (fun l0 => xlet s.2.1 (fun l1 => xlet s.2.2.1 (fun l2 => xlet s.2.2.2.1 (fun l3 => xlet s.2.2.2.2.1 (fun l4 => xlet s.2.2.2.2.2.1 (fun l5 => xlet s.2.2.2.2.2.2 (fun l6 => (if (16 : Int32) ≤ l6 then some (Sum.inr (Sum.inl l5)) else (f_L_sign σ l6).bind (fun p2 => (if l5 = (0 : Int32) then f_L_mayTell_j93 σ l0 l1 l2 l3 l4 l6 else (if l2 = (2 : Int32) then (if p2 = l1 then f_L_mayTell_j89 σ l0 l1 l2 l3 l4 l6 else (if xk σ l0 11 = true then (f_X11_told σ l0 p2 (2 : Int32) (0 : Int32)).bind (fun p4 => Sum.elim (fun w5 => (if w5 = l3 then (if xk σ l0 11 = true then (f_X11_told σ l0 p2 (2 : Int32) (1 : Int32)).bind (fun p6 => Sum.elim (fun w7 => (if w7 = l4 then f_L_mayTell_j89 σ l0 l1 l2 l3 l4 l6 else f_L_mayTell_j93 σ l0 l1 l2 l3 l4 l6)) (fun _ => none) p6) else none) else f_L_mayTell_j89 σ l0 l1 l2 l3 l4 l6)) (fun _ => none) p4) else none)) else f_L_mayTell_j89 σ l0 l1 l2 l3 l4 l6)))))))))))
set_option maxHeartbeats 4000000 in
set_option maxRecDepth 20000 in
theorem L_L_mayTell_s34 {G : xG} {π : Nat → Nat} {d C Z : Nat} {Q : xQ} (σ : xM) (l0 : Nat) (l1 : Int32) (l2 : Int32) (l3 : Int32) (l4 : Int32) (l5 : Int32) (l6 : Int32) {x : (Int32 ⊕ ((Int32) ⊕ (Nat × Int32 × Int32 × Int32 × Int32 × Int32 × Int32)))} (hf : f_L_mayTell_s34 σ (l0, l1, l2, l3, l4, l5, l6) = some x) (hR : ∀ g, x = Sum.inl (g) → Q (.inl (some (.int g))) (σ) π) (hE : ∀ e : (Int32), x = Sum.inr (Sum.inl e) → xMach G π J_L_mayTell (d + 8) C Z 102 [(5, .int e)] [] σ Q) (hC : ∀ e : (Nat × Int32 × Int32 × Int32 × Int32 × Int32 × Int32), x = Sum.inr (Sum.inr e) → xMach G π J_L_mayTell (d + 8) C Z 34 [(0, .ref e.1), (1, .int e.2.1), (2, .int e.2.2.1), (3, .int e.2.2.2.1), (4, .int e.2.2.2.2.1), (5, .int e.2.2.2.2.2.1), (6, .int e.2.2.2.2.2.2)] [] σ Q) : xMach G π J_L_mayTell (d + 8) C Z 34 [(0, .ref l0), (1, .int l1), (2, .int l2), (3, .int l3), (4, .int l4), (5, .int l5), (6, .int l6)] [] σ Q := by
  have hf : (if (16 : Int32) ≤ l6 then some (Sum.inr (Sum.inl l5)) else (f_L_sign σ l6).bind (fun p2 => (if l5 = (0 : Int32) then f_L_mayTell_j93 σ l0 l1 l2 l3 l4 l6 else (if l2 = (2 : Int32) then (if p2 = l1 then f_L_mayTell_j89 σ l0 l1 l2 l3 l4 l6 else (if xk σ l0 11 = true then (f_X11_told σ l0 p2 (2 : Int32) (0 : Int32)).bind (fun p4 => Sum.elim (fun w5 => (if w5 = l3 then (if xk σ l0 11 = true then (f_X11_told σ l0 p2 (2 : Int32) (1 : Int32)).bind (fun p6 => Sum.elim (fun w7 => (if w7 = l4 then f_L_mayTell_j89 σ l0 l1 l2 l3 l4 l6 else f_L_mayTell_j93 σ l0 l1 l2 l3 l4 l6)) (fun _ => none) p6) else none) else f_L_mayTell_j89 σ l0 l1 l2 l3 l4 l6)) (fun _ => none) p4) else none)) else f_L_mayTell_j89 σ l0 l1 l2 l3 l4 l6)))) = some x := hf
  refine xm_iload dL_mayTell_34 rfl ?_
  refine xm_bipush dL_mayTell_36 (v := 16) (by decide) ?_
  refine xb_icmp_ge 102 dL_mayTell_38 (by decide) hf (fun c hf => ?_) (fun c hf => ?_)
  · cases hf
    exact xm_sub [5] rfl (hE _ rfl)
  · refine xm_iload dL_mayTell_41 rfl ?_
    obtain ⟨p2, ep2, hf⟩ := xbind hf
    refine xb_callS (As := [.int l6]) (v0 := (some (.int p2))) (τ0 := σ) dL_mayTell_43 (xc_L_sign _ _) xw_1231 xw_1232 rfl (Nat.le_of_ble_eq_true rfl) rfl (Nat.le_of_ble_eq_true rfl) (fun Q1 hq => m_L_sign (d := d + 7) (C := 0) (Z := 0) ep2 (fun g hg => by subst hg; exact hq)) ?_
    refine xm_istore dL_mayTell_46 (by decide) (xm_stL (L' := [(7, .int p2), (0, .ref l0), (1, .int l1), (2, .int l2), (3, .int l3), (4, .int l4), (5, .int l5), (6, .int l6)]) rfl ?_)
    refine xm_iload dL_mayTell_48 rfl ?_
    refine xb_if_eq 93 dL_mayTell_50 (by decide) hf (fun c hf => ?_) (fun c hf => ?_)
    · exact xm_sub [1, 2, 3, 4, 5, 7] rfl (L_L_mayTell_j93 σ l0 l1 l2 l3 l4 l6 hf hR hE hC)
    · refine xm_iload_n dL_mayTell_53 rfl ?_
      refine xm_iconst dL_mayTell_54 (v := 2) (by decide) ?_
      refine xb_icmp_ne 89 dL_mayTell_55 (by decide) hf (fun c hf => ?_) (fun c hf => ?_)
      · exact xm_sub [1, 2, 3, 4, 5, 7] rfl (L_L_mayTell_j89 σ l0 l1 l2 l3 l4 l6 hf hR hE hC)
      · refine xm_iload dL_mayTell_58 rfl ?_
        refine xm_iload_n dL_mayTell_60 rfl ?_
        refine xb_icmp_eq 89 dL_mayTell_61 (by decide) hf (fun c hf => ?_) (fun c hf => ?_)
        · exact xm_sub [1, 2, 3, 4, 5, 7] rfl (L_L_mayTell_j89 σ l0 l1 l2 l3 l4 l6 hf hR hE hC)
        · refine xm_aload_n dL_mayTell_64 rfl ?_
          refine xm_iload dL_mayTell_65 rfl ?_
          refine xm_iconst dL_mayTell_67 (v := 2) (by decide) ?_
          refine xm_iconst dL_mayTell_68 (v := 0) (by decide) ?_
          refine xb_if hf (fun hb hf => ?_) (fun _ q => nomatch q)
          obtain ⟨p4, ep4, hf⟩ := xbind hf
          rcases p4 with w5 | E
          · rw [Sum.elim_inl] at hf
            have hf : (if w5 = l3 then (if xk σ l0 11 = true then (f_X11_told σ l0 p2 (2 : Int32) (1 : Int32)).bind (fun p6 => Sum.elim (fun w7 => (if w7 = l4 then f_L_mayTell_j89 σ l0 l1 l2 l3 l4 l6 else f_L_mayTell_j93 σ l0 l1 l2 l3 l4 l6)) (fun _ => none) p6) else none) else f_L_mayTell_j89 σ l0 l1 l2 l3 l4 l6) = some _ := hf
            refine xb_callV (As := [.int p2, .int (2 : Int32), .int (0 : Int32)]) (v0 := (some (.int w5))) (τ0 := σ) dL_mayTell_69 (xc_X11_told _ _) xcl11 xw_884 xw_885 xw_886 hb rfl (Nat.le_of_ble_eq_true rfl) rfl (Nat.le_of_ble_eq_true rfl) (fun Q1 hq => m_X11_told (d := d + 0) ep4 (fun g hg => by subst hg; exact hq)) ?_
            refine xm_iload_n dL_mayTell_72 rfl ?_
            refine xb_icmp_ne 89 dL_mayTell_73 (by decide) hf (fun c hf => ?_) (fun c hf => ?_)
            · exact xm_sub [1, 2, 3, 4, 5, 7] rfl (L_L_mayTell_j89 σ l0 l1 l2 l3 l4 l6 hf hR hE hC)
            · refine xm_aload_n dL_mayTell_76 rfl ?_
              refine xm_iload dL_mayTell_77 rfl ?_
              refine xm_iconst dL_mayTell_79 (v := 2) (by decide) ?_
              refine xm_iconst dL_mayTell_80 (v := 1) (by decide) ?_
              refine xb_if hf (fun hb hf => ?_) (fun _ q => nomatch q)
              obtain ⟨p6, ep6, hf⟩ := xbind hf
              rcases p6 with w7 | E
              · rw [Sum.elim_inl] at hf
                have hf : (if w7 = l4 then f_L_mayTell_j89 σ l0 l1 l2 l3 l4 l6 else f_L_mayTell_j93 σ l0 l1 l2 l3 l4 l6) = some _ := hf
                refine xb_callV (As := [.int p2, .int (2 : Int32), .int (1 : Int32)]) (v0 := (some (.int w7))) (τ0 := σ) dL_mayTell_81 (xc_X11_told _ _) xcl11 xw_884 xw_885 xw_886 hb rfl (Nat.le_of_ble_eq_true rfl) rfl (Nat.le_of_ble_eq_true rfl) (fun Q1 hq => m_X11_told (d := d + 0) ep6 (fun g hg => by subst hg; exact hq)) ?_
                refine xm_iload dL_mayTell_84 rfl ?_
                refine xb_icmp_ne 93 dL_mayTell_86 (by decide) hf (fun c hf => ?_) (fun c hf => ?_)
                · exact xm_sub [1, 2, 3, 4, 5, 7] rfl (L_L_mayTell_j93 σ l0 l1 l2 l3 l4 l6 hf hR hE hC)
                · exact xm_sub [1, 2, 3, 4, 5, 7] rfl (L_L_mayTell_j89 σ l0 l1 l2 l3 l4 l6 hf hR hE hC)
              · cases hf
          · cases hf
theorem L_L_mayTell_l34 {G : xG} {π : Nat → Nat} {d C Z : Nat} {Q : xQ} (σ : xM) {s0 : (Nat × Int32 × Int32 × Int32 × Int32 × Int32 × Int32)} {x : (Int32 ⊕ (Int32))} (h1 : xloop (f_L_mayTell_s34 σ) xF s0 = some x) (hR : ∀ g, x = Sum.inl g → Q (.inl (some (.int g))) (σ) π) (hE : ∀ e : (Int32), x = Sum.inr e → xMach G π J_L_mayTell (d + 8) C Z 102 [(5, .int e)] [] σ Q) : xMach G π J_L_mayTell (d + 8) C Z 34 [(0, .ref s0.1), (1, .int s0.2.1), (2, .int s0.2.2.1), (3, .int s0.2.2.2.1), (4, .int s0.2.2.2.2.1), (5, .int s0.2.2.2.2.2.1), (6, .int s0.2.2.2.2.2.2)] [] σ Q := by
  refine xloop_run (M := (fun s : (Nat × Int32 × Int32 × Int32 × Int32 × Int32 × Int32) => xMach G π J_L_mayTell (d + 8) C Z 34 [(0, .ref s.1), (1, .int s.2.1), (2, .int s.2.2.1), (3, .int s.2.2.2.1), (4, .int s.2.2.2.2.1), (5, .int s.2.2.2.2.2.1), (6, .int s.2.2.2.2.2.2)] [] σ Q)) (r := x) ?_ xF _ h1
  intro s y hs hx
  exact L_L_mayTell_s34 σ s.1 s.2.1 s.2.2.1 s.2.2.2.1 s.2.2.2.2.1 s.2.2.2.2.2.1 s.2.2.2.2.2.2 (x := y) hs (fun g hg => by subst hg; exact hR g hx) (fun e he => by subst he; exact hE e hx) (fun e he => by subst he; exact hx)
def f_L_mayTell_j102 (σ : xM) (l5 : Int32) : Option Int32 :=
  (xz l5).bind (fun b8 => some b8)
set_option maxHeartbeats 4000000 in
set_option maxRecDepth 20000 in
theorem L_L_mayTell_j102 {G : xG} {π : Nat → Nat} {d C Z : Nat} {Q : xQ} (σ : xM) (l5 : Int32) {x : Int32} (hf : f_L_mayTell_j102 σ l5 = some x) (hR : ∀ g, x = g → Q (.inl (some (.int g))) (σ) π) : xMach G π J_L_mayTell (d + 8) C Z 102 [(5, .int l5)] [] σ Q := by
  unfold f_L_mayTell_j102 at hf
  refine xm_iload dL_mayTell_102 rfl ?_
  obtain ⟨b8, eb8, hf⟩ := xbind hf
  obtain ⟨rfl, hz⟩ := xz_of eb8
  cases hf
  exact xm_zret dL_mayTell_104 rfl hz (hR _ rfl)
def f_L_mayTell_j29 (σ : xM) (l0 : Nat) (l1 : Int32) (l2 : Int32) (l3 : Int32) (l4 : Int32) (s0 : Int32) : Option Int32 :=
  xlet (0 : Int32) (fun v1 => (xloop (f_L_mayTell_s34 σ ) xF (l0, l1, l2, l3, l4, s0, v1)).bind (Sum.elim (fun g => some g) (fun e => f_L_mayTell_j102 σ e)))
set_option maxHeartbeats 4000000 in
set_option maxRecDepth 20000 in
theorem L_L_mayTell_j29 {G : xG} {π : Nat → Nat} {d C Z : Nat} {Q : xQ} (σ : xM) (l0 : Nat) (l1 : Int32) (l2 : Int32) (l3 : Int32) (l4 : Int32) (s0 : Int32) {x : Int32} (hf : f_L_mayTell_j29 σ l0 l1 l2 l3 l4 s0 = some x) (hR : ∀ g, x = g → Q (.inl (some (.int g))) (σ) π) : xMach G π J_L_mayTell (d + 8) C Z 29 [(0, .ref l0), (1, .int l1), (2, .int l2), (3, .int l3), (4, .int l4)] [.int s0] σ Q := by
  unfold f_L_mayTell_j29 at hf
  refine xm_istore dL_mayTell_29 (by decide) (xm_stL (L' := [(5, .int s0), (0, .ref l0), (1, .int l1), (2, .int l2), (3, .int l3), (4, .int l4)]) rfl ?_)
  refine xm_iconst dL_mayTell_31 (v := 0) (by decide) ?_
  refine xb_topi hf (fun v1 ev1 hf => ?_)
  refine xm_istore dL_mayTell_32 (by decide) (xm_stL (L' := [(6, .int v1), (5, .int s0), (0, .ref l0), (1, .int l1), (2, .int l2), (3, .int l3), (4, .int l4)]) rfl ?_)
  obtain ⟨o, h1, hf⟩ := xbind hf
  refine xm_sub [2, 3, 4, 5, 6, 1, 0] rfl (L_L_mayTell_l34 σ h1 (fun g hg => ?_) (fun e he => ?_))
  · subst hg
    cases hf
    exact hR _ rfl
  · subst he
    rw [Sum.elim_inr] at hf
    have hf : f_L_mayTell_j102 σ e = some _ := hf
    exact xm_sub [0] rfl (L_L_mayTell_j102 σ e hf hR)
def f_L_mayTell_j24 (σ : xM) (l0 : Nat) (l1 : Int32) (l2 : Int32) (l3 : Int32) (l4 : Int32) : Option Int32 :=
  f_L_mayTell_j29 σ l0 l1 l2 l3 l4 (1 : Int32)
set_option maxHeartbeats 4000000 in
set_option maxRecDepth 20000 in
theorem L_L_mayTell_j24 {G : xG} {π : Nat → Nat} {d C Z : Nat} {Q : xQ} (σ : xM) (l0 : Nat) (l1 : Int32) (l2 : Int32) (l3 : Int32) (l4 : Int32) {x : Int32} (hf : f_L_mayTell_j24 σ l0 l1 l2 l3 l4 = some x) (hR : ∀ g, x = g → Q (.inl (some (.int g))) (σ) π) : xMach G π J_L_mayTell (d + 8) C Z 24 [(0, .ref l0), (1, .int l1), (2, .int l2), (3, .int l3), (4, .int l4)] [] σ Q := by
  unfold f_L_mayTell_j24 at hf
  refine xm_iconst dL_mayTell_24 (v := 1) (by decide) ?_
  refine xm_goto 29 dL_mayTell_25 (by decide) ?_
  exact xm_sub [0, 1, 2, 3, 4] rfl (L_L_mayTell_j29 σ l0 l1 l2 l3 l4 (1 : Int32) hf hR)
def f_L_mayTell_j16 (σ : xM) (l0 : Nat) (l1 : Int32) (l2 : Int32) (l3 : Int32) (l4 : Int32) (s0 : Int32) (s1 : Int32) (s2 : Nat) : Option Int32 :=
  (if xk σ s2 11 = true then (f_X11_told σ s2 s1 s0 (0 : Int32)).bind (fun p9 => Sum.elim (fun w10 => (if w10 = (-1 : Int32) then f_L_mayTell_j24 σ l0 l1 l2 l3 l4 else f_L_mayTell_j29 σ l0 l1 l2 l3 l4 (0 : Int32))) (fun _ => none) p9) else none)
set_option maxHeartbeats 4000000 in
set_option maxRecDepth 20000 in
theorem L_L_mayTell_j16 {G : xG} {π : Nat → Nat} {d C Z : Nat} {Q : xQ} (σ : xM) (l0 : Nat) (l1 : Int32) (l2 : Int32) (l3 : Int32) (l4 : Int32) (s0 : Int32) (s1 : Int32) (s2 : Nat) {x : Int32} (hf : f_L_mayTell_j16 σ l0 l1 l2 l3 l4 s0 s1 s2 = some x) (hR : ∀ g, x = g → Q (.inl (some (.int g))) (σ) π) : xMach G π J_L_mayTell (d + 8) C Z 16 [(0, .ref l0), (1, .int l1), (2, .int l2), (3, .int l3), (4, .int l4)] [.int s0, .int s1, .ref s2] σ Q := by
  unfold f_L_mayTell_j16 at hf
  refine xm_iconst dL_mayTell_16 (v := 0) (by decide) ?_
  refine xb_if hf (fun hb hf => ?_) (fun _ q => nomatch q)
  obtain ⟨p9, ep9, hf⟩ := xbind hf
  rcases p9 with w10 | E
  · rw [Sum.elim_inl] at hf
    have hf : (if w10 = (-1 : Int32) then f_L_mayTell_j24 σ l0 l1 l2 l3 l4 else f_L_mayTell_j29 σ l0 l1 l2 l3 l4 (0 : Int32)) = some _ := hf
    refine xb_callV (As := [.int s1, .int s0, .int (0 : Int32)]) (v0 := (some (.int w10))) (τ0 := σ) dL_mayTell_17 (xc_X11_told _ _) xcl11 xw_884 xw_885 xw_886 hb rfl (Nat.le_of_ble_eq_true rfl) rfl (Nat.le_of_ble_eq_true rfl) (fun Q1 hq => m_X11_told (d := d + 0) ep9 (fun g hg => by subst hg; exact hq)) ?_
    refine xm_iconst dL_mayTell_20 (v := -1) (by decide) ?_
    refine xb_icmp_ne 28 dL_mayTell_21 (by decide) hf (fun c hf => ?_) (fun c hf => ?_)
    · refine xm_iconst dL_mayTell_28 (v := 0) (by decide) ?_
      exact xm_sub [0, 1, 2, 3, 4] rfl (L_L_mayTell_j29 σ l0 l1 l2 l3 l4 (0 : Int32) hf hR)
    · exact xm_sub [0, 1, 2, 3, 4] rfl (L_L_mayTell_j24 σ l0 l1 l2 l3 l4 hf hR)
  · cases hf
def f_L_mayTell (σ : xM) (l0 : Nat) (l1 : Int32) (l2 : Int32) (l3 : Int32) (l4 : Int32) : Option Int32 :=
  (if l2 = (0 : Int32) then f_L_mayTell_j24 σ l0 l1 l2 l3 l4 else (if l2 = (2 : Int32) then f_L_mayTell_j16 σ l0 l1 l2 l3 l4 (1 : Int32) l1 l0 else f_L_mayTell_j16 σ l0 l1 l2 l3 l4 (2 : Int32) l1 l0))
set_option maxHeartbeats 4000000 in
set_option maxRecDepth 20000 in
theorem m_L_mayTell {G : xG} {π : Nat → Nat} {d C Z : Nat} {Q : xQ} {σ : xM} {l0 : Nat} {l1 : Int32} {l2 : Int32} {l3 : Int32} {l4 : Int32} {x : Int32} (hf : f_L_mayTell σ l0 l1 l2 l3 l4 = some x) (hR : ∀ g, x = g → Q (.inl (some (.int g))) (σ) π) : xMach G π J_L_mayTell (d + 8) C Z 0 (lv_args 0 [.ref l0, .int l1, .int l2, .int l3, .int l4]) [] σ Q := by
  unfold f_L_mayTell at hf
  refine xm_stL (L' := [(0, .ref l0), (1, .int l1), (2, .int l2), (3, .int l3), (4, .int l4)]) rfl ?_
  refine xm_iload_n dL_mayTell_0 rfl ?_
  refine xb_if_eq 24 dL_mayTell_1 (by decide) hf (fun c hf => ?_) (fun c hf => ?_)
  · exact xm_sub [0, 1, 2, 3, 4] rfl (L_L_mayTell_j24 σ l0 l1 l2 l3 l4 hf hR)
  · refine xm_aload_n dL_mayTell_4 rfl ?_
    refine xm_iload_n dL_mayTell_5 rfl ?_
    refine xm_iload_n dL_mayTell_6 rfl ?_
    refine xm_iconst dL_mayTell_7 (v := 2) (by decide) ?_
    refine xb_icmp_ne 15 dL_mayTell_8 (by decide) hf (fun c hf => ?_) (fun c hf => ?_)
    · refine xm_iconst dL_mayTell_15 (v := 2) (by decide) ?_
      exact xm_sub [0, 1, 2, 3, 4] rfl (L_L_mayTell_j16 σ l0 l1 l2 l3 l4 (2 : Int32) l1 l0 hf hR)
    · refine xm_iconst dL_mayTell_11 (v := 1) (by decide) ?_
      refine xm_goto 16 dL_mayTell_12 (by decide) ?_
      exact xm_sub [0, 1, 2, 3, 4] rfl (L_L_mayTell_j16 σ l0 l1 l2 l3 l4 (1 : Int32) l1 l0 hf hR)
-- law: sum
