def f_L_reckoned_j51 (σ : xM) (l0 : Nat) (l1 : Int32) (l2 : Int32) (l3 : Int32) : Option ((Int32 × xM) ⊕ ((Unit ⊕ (Nat × Int32 × Int32)) ⊕ (Nat × Int32 × Int32 × Int32))) :=
  xlet (l3 + (1 : Int32)) (fun v8 => some (Sum.inr (Sum.inr (l0, l1, l2, v8))))
set_option maxHeartbeats 4000000 in
set_option maxRecDepth 20000 in
theorem L_L_reckoned_j51 {G : xG} {π : Nat → Nat} {d C Z : Nat} {Q : xQ} (σ : xM) (l0 : Nat) (l1 : Int32) (l2 : Int32) (l3 : Int32) {x : ((Int32 × xM) ⊕ ((Unit ⊕ (Nat × Int32 × Int32)) ⊕ (Nat × Int32 × Int32 × Int32)))} (hf : f_L_reckoned_j51 σ l0 l1 l2 l3 = some x) (hR : ∀ g, x = Sum.inl (g) → Q (.inl (some (.int g.1))) (g.2) π) (hE0 : ∀ e : Unit, x = Sum.inr (Sum.inl (Sum.inl e)) → xMach G π J_L_reckoned (d + 9) C Z 49 [] [] σ Q) (hE1 : ∀ e : (Nat × Int32 × Int32), x = Sum.inr (Sum.inl (Sum.inr e)) → xMach G π J_L_reckoned (d + 9) C Z 57 [(0, .ref e.1), (1, .int e.2.1), (2, .int e.2.2)] [] σ Q) (hC : ∀ e : (Nat × Int32 × Int32 × Int32), x = Sum.inr (Sum.inr e) → xMach G π J_L_reckoned (d + 9) C Z 10 [(0, .ref e.1), (1, .int e.2.1), (2, .int e.2.2.1), (3, .int e.2.2.2)] [] σ Q) : xMach G π J_L_reckoned (d + 9) C Z 51 [(0, .ref l0), (1, .int l1), (2, .int l2), (3, .int l3)] [] σ Q := by
  unfold f_L_reckoned_j51 at hf
  refine xb_iinc dL_reckoned_51 rfl (by decide) (by decide) hf (fun v8 ev8 hf => xm_stL (L' := [(3, .int v8), (0, .ref l0), (1, .int l1), (2, .int l2)]) rfl ?_)
  refine xm_goto 10 dL_reckoned_54 (by decide) ?_
  cases hf
  exact xm_sub [1, 2, 3, 0] rfl (hC _ rfl)
def f_L_reckoned_s10 (σ : xM) (s : (Nat × Int32 × Int32 × Int32)) : Option ((Int32 × xM) ⊕ ((Unit ⊕ (Nat × Int32 × Int32)) ⊕ (Nat × Int32 × Int32 × Int32))) :=
  xlet s.1 (fun l0 => xlet s.2.1 (fun l1 => xlet s.2.2.1 (fun l2 => xlet s.2.2.2 (fun l3 => (if l2 ≤ l3 then some (Sum.inr (Sum.inl (Sum.inr (l0, l1, l2)))) else (if xk σ l0 11 = true then (f_X11_node σ l0 l1 l3 (1 : Int32)).bind (fun p4 => Sum.elim (fun w5 => (if xk σ l0 11 = true then (f_X11_node σ l0 l1 l3 (0 : Int32)).bind (fun p6 => Sum.elim (fun w7 => (if w7 = (2 : Int32) then (if w5 = (105 : Int32) then some (Sum.inr (Sum.inl (Sum.inl ()))) else (if w5 = (115 : Int32) then some (Sum.inr (Sum.inl (Sum.inl ()))) else f_L_reckoned_j51 σ l0 l1 l2 l3)) else f_L_reckoned_j51 σ l0 l1 l2 l3)) (fun _ => none) p6) else none)) (fun _ => none) p4) else none))))))
set_option maxHeartbeats 4000000 in
set_option maxRecDepth 20000 in
theorem L_L_reckoned_s10 {G : xG} {π : Nat → Nat} {d C Z : Nat} {Q : xQ} (σ : xM) (l0 : Nat) (l1 : Int32) (l2 : Int32) (l3 : Int32) {x : ((Int32 × xM) ⊕ ((Unit ⊕ (Nat × Int32 × Int32)) ⊕ (Nat × Int32 × Int32 × Int32)))} (hf : f_L_reckoned_s10 σ (l0, l1, l2, l3) = some x) (hR : ∀ g, x = Sum.inl (g) → Q (.inl (some (.int g.1))) (g.2) π) (hE0 : ∀ e : Unit, x = Sum.inr (Sum.inl (Sum.inl e)) → xMach G π J_L_reckoned (d + 9) C Z 49 [] [] σ Q) (hE1 : ∀ e : (Nat × Int32 × Int32), x = Sum.inr (Sum.inl (Sum.inr e)) → xMach G π J_L_reckoned (d + 9) C Z 57 [(0, .ref e.1), (1, .int e.2.1), (2, .int e.2.2)] [] σ Q) (hC : ∀ e : (Nat × Int32 × Int32 × Int32), x = Sum.inr (Sum.inr e) → xMach G π J_L_reckoned (d + 9) C Z 10 [(0, .ref e.1), (1, .int e.2.1), (2, .int e.2.2.1), (3, .int e.2.2.2)] [] σ Q) : xMach G π J_L_reckoned (d + 9) C Z 10 [(0, .ref l0), (1, .int l1), (2, .int l2), (3, .int l3)] [] σ Q := by
  have hf : (if l2 ≤ l3 then some (Sum.inr (Sum.inl (Sum.inr (l0, l1, l2)))) else (if xk σ l0 11 = true then (f_X11_node σ l0 l1 l3 (1 : Int32)).bind (fun p4 => Sum.elim (fun w5 => (if xk σ l0 11 = true then (f_X11_node σ l0 l1 l3 (0 : Int32)).bind (fun p6 => Sum.elim (fun w7 => (if w7 = (2 : Int32) then (if w5 = (105 : Int32) then some (Sum.inr (Sum.inl (Sum.inl ()))) else (if w5 = (115 : Int32) then some (Sum.inr (Sum.inl (Sum.inl ()))) else f_L_reckoned_j51 σ l0 l1 l2 l3)) else f_L_reckoned_j51 σ l0 l1 l2 l3)) (fun _ => none) p6) else none)) (fun _ => none) p4) else none)) = some x := hf
  refine xm_iload_n dL_reckoned_10 rfl ?_
  refine xm_iload_n dL_reckoned_11 rfl ?_
  refine xb_icmp_ge 57 dL_reckoned_12 (by decide) hf (fun c hf => ?_) (fun c hf => ?_)
  · cases hf
    exact xm_sub [0, 1, 2] rfl (hE1 _ rfl)
  · refine xm_aload_n dL_reckoned_15 rfl ?_
    refine xm_iload_n dL_reckoned_16 rfl ?_
    refine xm_iload_n dL_reckoned_17 rfl ?_
    refine xm_iconst dL_reckoned_18 (v := 1) (by decide) ?_
    refine xb_if hf (fun hb hf => ?_) (fun _ q => nomatch q)
    obtain ⟨p4, ep4, hf⟩ := xbind hf
    rcases p4 with w5 | E
    · rw [Sum.elim_inl] at hf
      have hf : (if xk σ l0 11 = true then (f_X11_node σ l0 l1 l3 (0 : Int32)).bind (fun p6 => Sum.elim (fun w7 => (if w7 = (2 : Int32) then (if w5 = (105 : Int32) then some (Sum.inr (Sum.inl (Sum.inl ()))) else (if w5 = (115 : Int32) then some (Sum.inr (Sum.inl (Sum.inl ()))) else f_L_reckoned_j51 σ l0 l1 l2 l3)) else f_L_reckoned_j51 σ l0 l1 l2 l3)) (fun _ => none) p6) else none) = some _ := hf
      refine xb_callV (As := [.int l1, .int l3, .int (1 : Int32)]) (v0 := (some (.int w5))) (τ0 := σ) dL_reckoned_19 (xc_X11_node _ _) xcl11 xw_1249 xw_1250 xw_1251 hb rfl (Nat.le_of_ble_eq_true rfl) rfl (Nat.le_of_ble_eq_true rfl) (fun Q1 hq => m_X11_node (d := d + 0) ep4 (fun g hg => by subst hg; exact hq)) ?_
      refine xm_istore dL_reckoned_22 (by decide) (xm_stL (L' := [(4, .int w5), (0, .ref l0), (1, .int l1), (2, .int l2), (3, .int l3)]) rfl ?_)
      refine xm_aload_n dL_reckoned_24 rfl ?_
      refine xm_iload_n dL_reckoned_25 rfl ?_
      refine xm_iload_n dL_reckoned_26 rfl ?_
      refine xm_iconst dL_reckoned_27 (v := 0) (by decide) ?_
      refine xb_if hf (fun hb hf => ?_) (fun _ q => nomatch q)
      obtain ⟨p6, ep6, hf⟩ := xbind hf
      rcases p6 with w7 | E
      · rw [Sum.elim_inl] at hf
        have hf : (if w7 = (2 : Int32) then (if w5 = (105 : Int32) then some (Sum.inr (Sum.inl (Sum.inl ()))) else (if w5 = (115 : Int32) then some (Sum.inr (Sum.inl (Sum.inl ()))) else f_L_reckoned_j51 σ l0 l1 l2 l3)) else f_L_reckoned_j51 σ l0 l1 l2 l3) = some _ := hf
        refine xb_callV (As := [.int l1, .int l3, .int (0 : Int32)]) (v0 := (some (.int w7))) (τ0 := σ) dL_reckoned_28 (xc_X11_node _ _) xcl11 xw_1249 xw_1250 xw_1251 hb rfl (Nat.le_of_ble_eq_true rfl) rfl (Nat.le_of_ble_eq_true rfl) (fun Q1 hq => m_X11_node (d := d + 0) ep6 (fun g hg => by subst hg; exact hq)) ?_
        refine xm_iconst dL_reckoned_31 (v := 2) (by decide) ?_
        refine xb_icmp_ne 51 dL_reckoned_32 (by decide) hf (fun c hf => ?_) (fun c hf => ?_)
        · exact xm_sub [1, 2, 3, 4] rfl (L_L_reckoned_j51 σ l0 l1 l2 l3 hf hR hE0 hE1 hC)
        · refine xm_iload dL_reckoned_35 rfl ?_
          refine xm_bipush dL_reckoned_37 (v := 105) (by decide) ?_
          refine xb_icmp_eq 49 dL_reckoned_39 (by decide) hf (fun c hf => ?_) (fun c hf => ?_)
          · cases hf
            exact xm_sub [] rfl (hE0 _ rfl)
          · refine xm_iload dL_reckoned_42 rfl ?_
            refine xm_bipush dL_reckoned_44 (v := 115) (by decide) ?_
            refine xb_icmp_ne 51 dL_reckoned_46 (by decide) hf (fun c hf => ?_) (fun c hf => ?_)
            · exact xm_sub [1, 2, 3, 4] rfl (L_L_reckoned_j51 σ l0 l1 l2 l3 hf hR hE0 hE1 hC)
            · cases hf
              exact xm_sub [] rfl (hE0 _ rfl)
      · cases hf
    · cases hf
theorem L_L_reckoned_l10 {G : xG} {π : Nat → Nat} {d C Z : Nat} {Q : xQ} (σ : xM) {s0 : (Nat × Int32 × Int32 × Int32)} {x : ((Int32 × xM) ⊕ (Unit ⊕ (Nat × Int32 × Int32)))} (h1 : xloop (f_L_reckoned_s10 σ) xF s0 = some x) (hR : ∀ g, x = Sum.inl g → Q (.inl (some (.int g.1))) (g.2) π) (hE0 : ∀ e : Unit, x = Sum.inr (Sum.inl e) → xMach G π J_L_reckoned (d + 9) C Z 49 [] [] σ Q) (hE1 : ∀ e : (Nat × Int32 × Int32), x = Sum.inr (Sum.inr e) → xMach G π J_L_reckoned (d + 9) C Z 57 [(0, .ref e.1), (1, .int e.2.1), (2, .int e.2.2)] [] σ Q) : xMach G π J_L_reckoned (d + 9) C Z 10 [(0, .ref s0.1), (1, .int s0.2.1), (2, .int s0.2.2.1), (3, .int s0.2.2.2)] [] σ Q := by
  refine xloop_run (M := (fun s : (Nat × Int32 × Int32 × Int32) => xMach G π J_L_reckoned (d + 9) C Z 10 [(0, .ref s.1), (1, .int s.2.1), (2, .int s.2.2.1), (3, .int s.2.2.2)] [] σ Q)) (r := x) ?_ xF _ h1
  intro s y hs hx
  exact L_L_reckoned_s10 σ s.1 s.2.1 s.2.2.1 s.2.2.2 (x := y) hs (fun g hg => by subst hg; exact hR g hx) (fun e he => by subst he; exact hE0 e hx) (fun e he => by subst he; exact hE1 e hx) (fun e he => by subst he; exact hx)
def f_L_reckoned_j49 (σ : xM)  : Option (Int32 × xM) :=
  some ((1 : Int32), σ)
set_option maxHeartbeats 4000000 in
set_option maxRecDepth 20000 in
theorem L_L_reckoned_j49 {G : xG} {π : Nat → Nat} {d C Z : Nat} {Q : xQ} (σ : xM)  {x : (Int32 × xM)} (hf : f_L_reckoned_j49 σ = some x) (hR : ∀ g, x = g → Q (.inl (some (.int g.1))) (g.2) π) : xMach G π J_L_reckoned (d + 9) C Z 49 [] [] σ Q := by
  unfold f_L_reckoned_j49 at hf
  refine xm_iconst dL_reckoned_49 (v := 1) (by decide) ?_
  cases hf
  exact xm_zret dL_reckoned_50 rfl rfl (hR _ rfl)
def f_L_reckoned_j105 (σ : xM) (s0 : Int32) : Option (Int32 × xM) :=
  (xz s0).bind (fun b16 => some (b16, σ))
set_option maxHeartbeats 4000000 in
set_option maxRecDepth 20000 in
theorem L_L_reckoned_j105 {G : xG} {π : Nat → Nat} {d C Z : Nat} {Q : xQ} (σ : xM) (s0 : Int32) {x : (Int32 × xM)} (hf : f_L_reckoned_j105 σ s0 = some x) (hR : ∀ g, x = g → Q (.inl (some (.int g.1))) (g.2) π) : xMach G π J_L_reckoned (d + 9) C Z 105 [] [.int s0] σ Q := by
  unfold f_L_reckoned_j105 at hf
  obtain ⟨b16, eb16, hf⟩ := xbind hf
  obtain ⟨rfl, hz⟩ := xz_of eb16
  cases hf
  exact xm_zret dL_reckoned_105 rfl hz (hR _ rfl)
def f_L_reckoned_j104 (σ : xM)  : Option (Int32 × xM) :=
  f_L_reckoned_j105 σ (0 : Int32)
set_option maxHeartbeats 4000000 in
set_option maxRecDepth 20000 in
theorem L_L_reckoned_j104 {G : xG} {π : Nat → Nat} {d C Z : Nat} {Q : xQ} (σ : xM)  {x : (Int32 × xM)} (hf : f_L_reckoned_j104 σ = some x) (hR : ∀ g, x = g → Q (.inl (some (.int g.1))) (g.2) π) : xMach G π J_L_reckoned (d + 9) C Z 104 [] [] σ Q := by
  unfold f_L_reckoned_j104 at hf
  refine xm_iconst dL_reckoned_104 (v := 0) (by decide) ?_
  exact xm_sub [] rfl (L_L_reckoned_j105 σ (0 : Int32) hf hR)
def f_L_reckoned_j57 (σ : xM) (l0 : Nat) (l1 : Int32) (l2 : Int32) : Option (Int32 × xM) :=
  (if xk σ l0 11 = true then (f_X11_evaluate σ l0 l1).bind (fun p9 => xlet p9.2 (fun σ11 => Sum.elim (fun w10 => (f_L_sum σ11 l0).bind (fun p12 => (if xk p12.2 l0 11 = true then (f_X11_reckon p12.2 l0 l1).bind (fun p13 => xlet p13.2 (fun σ15 => Sum.elim (fun w14 => (if w14 = w10 then (f_L_sum σ15 l0).bind (fun p17 => (if p17.1 = p12.1 then (if xk p17.2 l0 11 = true then (f_X11_postfix p17.2 l0 l1).bind (fun p18 => xlet p18.2 (fun σ20 => Sum.elim (fun w19 => (if w19 < (((2 : Int32) * l2) - (1 : Int32)) then f_L_reckoned_j104 σ20 else f_L_reckoned_j105 σ20 (1 : Int32))) (fun _ => none) p18.1)) else none) else f_L_reckoned_j104 p17.2)) else f_L_reckoned_j104 σ15)) (fun _ => none) p13.1)) else none))) (fun _ => none) p9.1)) else none)
set_option maxHeartbeats 4000000 in
set_option maxRecDepth 20000 in
theorem L_L_reckoned_j57 {G : xG} {π : Nat → Nat} {d C Z : Nat} {Q : xQ} (σ : xM) (l0 : Nat) (l1 : Int32) (l2 : Int32) {x : (Int32 × xM)} (hf : f_L_reckoned_j57 σ l0 l1 l2 = some x) (hR : ∀ g, x = g → Q (.inl (some (.int g.1))) (g.2) π) : xMach G π J_L_reckoned (d + 9) C Z 57 [(0, .ref l0), (1, .int l1), (2, .int l2)] [] σ Q := by
  unfold f_L_reckoned_j57 at hf
  refine xm_aload_n dL_reckoned_57 rfl ?_
  refine xm_iload_n dL_reckoned_58 rfl ?_
  refine xb_if hf (fun hb hf => ?_) (fun _ q => nomatch q)
  obtain ⟨p9, ep9, hf⟩ := xbind hf
  rcases p9 with ⟨w10 | E, σ11⟩
  · have hf : (f_L_sum σ11 l0).bind (fun p12 => (if xk p12.2 l0 11 = true then (f_X11_reckon p12.2 l0 l1).bind (fun p13 => xlet p13.2 (fun σ15 => Sum.elim (fun w14 => (if w14 = w10 then (f_L_sum σ15 l0).bind (fun p17 => (if p17.1 = p12.1 then (if xk p17.2 l0 11 = true then (f_X11_postfix p17.2 l0 l1).bind (fun p18 => xlet p18.2 (fun σ20 => Sum.elim (fun w19 => (if w19 < (((2 : Int32) * l2) - (1 : Int32)) then f_L_reckoned_j104 σ20 else f_L_reckoned_j105 σ20 (1 : Int32))) (fun _ => none) p18.1)) else none) else f_L_reckoned_j104 p17.2)) else f_L_reckoned_j104 σ15)) (fun _ => none) p13.1)) else none)) = some _ := hf
    refine xb_callV (As := [.int l1]) (v0 := (some (.int w10))) (τ0 := σ11) dL_reckoned_59 (xc_X11_evaluate _ _) xcl11 xw_1533 xw_1534 xw_1535 hb rfl (Nat.le_of_ble_eq_true rfl) rfl (Nat.le_of_ble_eq_true rfl) (fun Q1 hq => m_X11_evaluate (d := d + 0) ep9 (fun g hg => by subst hg; exact hq)) ?_
    refine xm_istore_n dL_reckoned_62 (by decide) (xm_stL (L' := [(3, .int w10), (0, .ref l0), (1, .int l1), (2, .int l2)]) rfl ?_)
    refine xm_aload_n dL_reckoned_63 rfl ?_
    obtain ⟨p12, ep12, hf⟩ := xbind hf
    refine xb_callS (As := [.ref l0]) (v0 := (some (.int p12.1))) (τ0 := p12.2) dL_reckoned_64 (xc_L_sum _ _) xw_1541 xw_1542 rfl (Nat.le_of_ble_eq_true rfl) rfl (Nat.le_of_ble_eq_true rfl) (fun Q1 hq => m_L_sum (d := d + 0) (C := 0) (Z := 0) ep12 (fun g hg => by subst hg; exact hq)) ?_
    refine xm_istore dL_reckoned_67 (by decide) (xm_stL (L' := [(4, .int p12.1), (3, .int w10), (0, .ref l0), (1, .int l1), (2, .int l2)]) rfl ?_)
    refine xm_aload_n dL_reckoned_69 rfl ?_
    refine xm_iload_n dL_reckoned_70 rfl ?_
    refine xb_if hf (fun hb hf => ?_) (fun _ q => nomatch q)
    obtain ⟨p13, ep13, hf⟩ := xbind hf
    rcases p13 with ⟨w14 | E, σ15⟩
    · have hf : (if w14 = w10 then (f_L_sum σ15 l0).bind (fun p17 => (if p17.1 = p12.1 then (if xk p17.2 l0 11 = true then (f_X11_postfix p17.2 l0 l1).bind (fun p18 => xlet p18.2 (fun σ20 => Sum.elim (fun w19 => (if w19 < (((2 : Int32) * l2) - (1 : Int32)) then f_L_reckoned_j104 σ20 else f_L_reckoned_j105 σ20 (1 : Int32))) (fun _ => none) p18.1)) else none) else f_L_reckoned_j104 p17.2)) else f_L_reckoned_j104 σ15) = some _ := hf
      refine xb_callV (As := [.int l1]) (v0 := (some (.int w14))) (τ0 := σ15) dL_reckoned_71 (xc_X11_reckon _ _) xcl11 xw_1556 xw_1557 xw_1558 hb rfl (Nat.le_of_ble_eq_true rfl) rfl (Nat.le_of_ble_eq_true rfl) (fun Q1 hq => m_X11_reckon (d := d + 0) ep13 (fun g hg => by subst hg; exact hq)) ?_
      refine xm_iload_n dL_reckoned_74 rfl ?_
      refine xb_icmp_ne 104 dL_reckoned_75 (by decide) hf (fun c hf => ?_) (fun c hf => ?_)
      · exact xm_sub [] rfl (L_L_reckoned_j104 σ15 hf hR)
      · refine xm_aload_n dL_reckoned_78 rfl ?_
        obtain ⟨p17, ep17, hf⟩ := xbind hf
        refine xb_callS (As := [.ref l0]) (v0 := (some (.int p17.1))) (τ0 := p17.2) dL_reckoned_79 (xc_L_sum _ _) xw_1541 xw_1542 rfl (Nat.le_of_ble_eq_true rfl) rfl (Nat.le_of_ble_eq_true rfl) (fun Q1 hq => m_L_sum (d := d + 0) (C := 0) (Z := 0) ep17 (fun g hg => by subst hg; exact hq)) ?_
        refine xm_iload dL_reckoned_82 rfl ?_
        refine xb_icmp_ne 104 dL_reckoned_84 (by decide) hf (fun c hf => ?_) (fun c hf => ?_)
        · exact xm_sub [] rfl (L_L_reckoned_j104 p17.2 hf hR)
        · refine xm_aload_n dL_reckoned_87 rfl ?_
          refine xm_iload_n dL_reckoned_88 rfl ?_
          refine xb_if hf (fun hb hf => ?_) (fun _ q => nomatch q)
          obtain ⟨p18, ep18, hf⟩ := xbind hf
          rcases p18 with ⟨w19 | E, σ20⟩
          · have hf : (if w19 < (((2 : Int32) * l2) - (1 : Int32)) then f_L_reckoned_j104 σ20 else f_L_reckoned_j105 σ20 (1 : Int32)) = some _ := hf
            refine xb_callV (As := [.int l1]) (v0 := (some (.int w19))) (τ0 := σ20) dL_reckoned_89 (xc_X11_postfix _ _) xcl11 xw_1565 xw_1566 xw_1567 hb rfl (Nat.le_of_ble_eq_true rfl) rfl (Nat.le_of_ble_eq_true rfl) (fun Q1 hq => m_X11_postfix (d := d + 0) ep18 (fun g hg => by subst hg; exact hq)) ?_
            refine xm_iconst dL_reckoned_92 (v := 2) (by decide) ?_
            refine xm_iload_n dL_reckoned_93 rfl ?_
            refine xm_imul dL_reckoned_94 ?_
            refine xm_iconst dL_reckoned_95 (v := 1) (by decide) ?_
            refine xm_isub dL_reckoned_96 ?_
            refine xb_icmp_lt 104 dL_reckoned_97 (by decide) hf (fun c hf => ?_) (fun c hf => ?_)
            · exact xm_sub [] rfl (L_L_reckoned_j104 σ20 hf hR)
            · refine xm_iconst dL_reckoned_100 (v := 1) (by decide) ?_
              refine xm_goto 105 dL_reckoned_101 (by decide) ?_
              exact xm_sub [] rfl (L_L_reckoned_j105 σ20 (1 : Int32) hf hR)
          · cases hf
    · cases hf
  · cases hf
def f_L_reckoned (σ : xM) (l0 : Nat) (l1 : Int32) : Option (Int32 × xM) :=
  (if xk σ l0 11 = true then (f_X11_node σ l0 l1 (0 : Int32) (5 : Int32)).bind (fun p1 => Sum.elim (fun w2 => xlet (0 : Int32) (fun v3 => (xloop (f_L_reckoned_s10 σ ) xF (l0, l1, w2, v3)).bind (Sum.elim (fun g => some g) (Sum.elim (fun e => f_L_reckoned_j49 σ) (fun e => f_L_reckoned_j57 σ e.1 e.2.1 e.2.2))))) (fun _ => none) p1) else none)
set_option maxHeartbeats 4000000 in
set_option maxRecDepth 20000 in
theorem m_L_reckoned {G : xG} {π : Nat → Nat} {d C Z : Nat} {Q : xQ} {σ : xM} {l0 : Nat} {l1 : Int32} {x : (Int32 × xM)} (hf : f_L_reckoned σ l0 l1 = some x) (hR : ∀ g, x = g → Q (.inl (some (.int g.1))) (g.2) π) : xMach G π J_L_reckoned (d + 9) C Z 0 (lv_args 0 [.ref l0, .int l1]) [] σ Q := by
  unfold f_L_reckoned at hf
  refine xm_stL (L' := [(0, .ref l0), (1, .int l1)]) rfl ?_
  refine xm_aload_n dL_reckoned_0 rfl ?_
  refine xm_iload_n dL_reckoned_1 rfl ?_
  refine xm_iconst dL_reckoned_2 (v := 0) (by decide) ?_
  refine xm_iconst dL_reckoned_3 (v := 5) (by decide) ?_
  refine xb_if hf (fun hb hf => ?_) (fun _ q => nomatch q)
  obtain ⟨p1, ep1, hf⟩ := xbind hf
  rcases p1 with w2 | E
  · rw [Sum.elim_inl] at hf
    have hf : xlet (0 : Int32) (fun v3 => (xloop (f_L_reckoned_s10 σ ) xF (l0, l1, w2, v3)).bind (Sum.elim (fun g => some g) (Sum.elim (fun e => f_L_reckoned_j49 σ) (fun e => f_L_reckoned_j57 σ e.1 e.2.1 e.2.2)))) = some _ := hf
    refine xb_callV (As := [.int l1, .int (0 : Int32), .int (5 : Int32)]) (v0 := (some (.int w2))) (τ0 := σ) dL_reckoned_4 (xc_X11_node _ _) xcl11 xw_1249 xw_1250 xw_1251 hb rfl (Nat.le_of_ble_eq_true rfl) rfl (Nat.le_of_ble_eq_true rfl) (fun Q1 hq => m_X11_node (d := d + 0) ep1 (fun g hg => by subst hg; exact hq)) ?_
    refine xm_istore_n dL_reckoned_7 (by decide) (xm_stL (L' := [(2, .int w2), (0, .ref l0), (1, .int l1)]) rfl ?_)
    refine xm_iconst dL_reckoned_8 (v := 0) (by decide) ?_
    refine xb_topi hf (fun v3 ev3 hf => ?_)
    refine xm_istore_n dL_reckoned_9 (by decide) (xm_stL (L' := [(3, .int v3), (2, .int w2), (0, .ref l0), (1, .int l1)]) rfl ?_)
    obtain ⟨o, h1, hf⟩ := xbind hf
    refine xm_sub [2, 3, 1, 0] rfl (L_L_reckoned_l10 σ h1 (fun g hg => ?_) (fun e he => ?_) (fun e he => ?_))
    · subst hg
      cases hf
      exact hR _ rfl
    · subst he
      rw [Sum.elim_inr, Sum.elim_inl] at hf
      have hf : f_L_reckoned_j49 σ = some _ := hf
      exact xm_sub [] rfl (L_L_reckoned_j49 σ hf hR)
    · subst he
      rw [Sum.elim_inr, Sum.elim_inr] at hf
      have hf : f_L_reckoned_j57 σ e.1 e.2.1 e.2.2 = some _ := hf
      exact xm_sub [0, 1, 2] rfl (L_L_reckoned_j57 σ e.1 e.2.1 e.2.2 hf hR)
  · cases hf
-- law: simpler
