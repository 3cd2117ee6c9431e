-- RankwiseModel.outPostfix(I)V
def f_X12_outPostfix_j126 (σ : xM) (l0 : Nat) (l2 : Int32) (l3 : Int32) : Option (xM ⊕ ((xM) ⊕ (Nat × Int32 × Int32 × xM))) :=
  xlet (l3 + (1 : Int32)) (fun v15 => some (Sum.inr (Sum.inr (l0, l2, v15, σ))))
set_option maxHeartbeats 4000000 in
set_option maxRecDepth 20000 in
theorem L_X12_outPostfix_j126 {G : xG} {π : Nat → Nat} {d C Z : Nat} {Q : xQ} (σ : xM) (l0 : Nat) (l2 : Int32) (l3 : Int32) {x : (xM ⊕ ((xM) ⊕ (Nat × Int32 × Int32 × xM)))} (hf : f_X12_outPostfix_j126 σ l0 l2 l3 = some x) (hR : ∀ g, x = Sum.inl (g) → Q (.inl none) (g) π) (hE : ∀ e : (xM), x = Sum.inr (Sum.inl e) → xMach G π J_X12_outPostfix (d + 2) C Z 132 [] [] e Q) (hC : ∀ e : (Nat × Int32 × Int32 × xM), x = Sum.inr (Sum.inr e) → xMach G π J_X12_outPostfix (d + 2) C Z 13 [(0, .ref e.1), (2, .int e.2.1), (3, .int e.2.2.1)] [] e.2.2.2 Q) : xMach G π J_X12_outPostfix (d + 2) C Z 126 [(0, .ref l0), (2, .int l2), (3, .int l3)] [] σ Q := by
  unfold f_X12_outPostfix_j126 at hf
  refine xb_iinc dX12_outPostfix_126 rfl (by decide) (by decide) hf (fun v15 ev15 hf => xm_stL (L' := [(3, .int v15), (0, .ref l0), (2, .int l2)]) rfl ?_)
  refine xm_goto 13 dX12_outPostfix_129 (by decide) ?_
  cases hf
  exact xm_sub [1, 2, 0] rfl (hC _ rfl)
def f_X12_outPostfix_j71 (σ : xM) (l0 : Nat) (l2 : Int32) (l3 : Int32) (l4 : Int32) : Option (xM ⊕ ((xM) ⊕ (Nat × Int32 × Int32 × xM))) :=
  (gR σ l0 12 4).bind (fun x11 => (aI σ x11 14 l4).bind (fun x12 => (if x12 = (2 : Int32) then (gR σ l0 12 7).bind (fun x19 => (aI σ x19 14 l4).bind (fun x20 => (if xk σ l0 12 = true then (f_X12_prints σ l0 ((48 : Int32) + x20)).bind (fun p21 => f_X12_outPostfix_j126 p21 l0 l2 l3) else none))) else (gR σ l0 12 4).bind (fun x13 => (aI σ x13 14 l4).bind (fun x14 => (if x14 = (3 : Int32) then (gR σ l0 12 6).bind (fun x16 => (aI σ x16 14 l4).bind (fun x17 => (if x17 = (0 : Int32) then (if xk σ l0 12 = true then (f_X12_prints σ l0 (39 : Int32)).bind (fun p18 => f_X12_outPostfix_j126 p18 l0 l2 l3) else none) else f_X12_outPostfix_j126 σ l0 l2 l3))) else f_X12_outPostfix_j126 σ l0 l2 l3))))))
set_option maxHeartbeats 4000000 in
set_option maxRecDepth 20000 in
theorem L_X12_outPostfix_j71 {G : xG} {π : Nat → Nat} {d C Z : Nat} {Q : xQ} (σ : xM) (l0 : Nat) (l2 : Int32) (l3 : Int32) (l4 : Int32) {x : (xM ⊕ ((xM) ⊕ (Nat × Int32 × Int32 × xM)))} (hf : f_X12_outPostfix_j71 σ l0 l2 l3 l4 = some x) (hR : ∀ g, x = Sum.inl (g) → Q (.inl none) (g) π) (hE : ∀ e : (xM), x = Sum.inr (Sum.inl e) → xMach G π J_X12_outPostfix (d + 2) C Z 132 [] [] e Q) (hC : ∀ e : (Nat × Int32 × Int32 × xM), x = Sum.inr (Sum.inr e) → xMach G π J_X12_outPostfix (d + 2) C Z 13 [(0, .ref e.1), (2, .int e.2.1), (3, .int e.2.2.1)] [] e.2.2.2 Q) : xMach G π J_X12_outPostfix (d + 2) C Z 71 [(0, .ref l0), (2, .int l2), (3, .int l3), (4, .int l4)] [] σ Q := by
  unfold f_X12_outPostfix_j71 at hf
  refine xm_aload_n dX12_outPostfix_71 rfl ?_
  refine xb_getR (a := l0) (c := 12) (k := 4) dX12_outPostfix_72 xcl12 (by decide) xw_1841 rfl hf (fun x11 ex11 hf => ?_)
  refine xm_iload dX12_outPostfix_75 rfl ?_
  refine xb_iald dX12_outPostfix_77 hf (fun x12 ex12 hf => ?_)
  refine xm_iconst dX12_outPostfix_78 (v := 2) (by decide) ?_
  refine xb_icmp_ne 99 dX12_outPostfix_79 (by decide) hf (fun c hf => ?_) (fun c hf => ?_)
  · refine xm_aload_n dX12_outPostfix_99 rfl ?_
    refine xb_getR (a := l0) (c := 12) (k := 4) dX12_outPostfix_100 xcl12 (by decide) xw_1841 rfl hf (fun x13 ex13 hf => ?_)
    refine xm_iload dX12_outPostfix_103 rfl ?_
    refine xb_iald dX12_outPostfix_105 hf (fun x14 ex14 hf => ?_)
    refine xm_iconst dX12_outPostfix_106 (v := 3) (by decide) ?_
    refine xb_icmp_ne 126 dX12_outPostfix_107 (by decide) hf (fun c hf => ?_) (fun c hf => ?_)
    · exact xm_sub [0, 1, 2] rfl (L_X12_outPostfix_j126 σ l0 l2 l3 hf hR hE hC)
    · refine xm_aload_n dX12_outPostfix_110 rfl ?_
      refine xb_getR (a := l0) (c := 12) (k := 6) dX12_outPostfix_111 xcl12 (by decide) xw_1843 rfl hf (fun x16 ex16 hf => ?_)
      refine xm_iload dX12_outPostfix_114 rfl ?_
      refine xb_iald dX12_outPostfix_116 hf (fun x17 ex17 hf => ?_)
      refine xb_if_ne 126 dX12_outPostfix_117 (by decide) hf (fun c hf => ?_) (fun c hf => ?_)
      · exact xm_sub [0, 1, 2] rfl (L_X12_outPostfix_j126 σ l0 l2 l3 hf hR hE hC)
      · refine xm_aload_n dX12_outPostfix_120 rfl ?_
        refine xm_bipush dX12_outPostfix_121 (v := 39) (by decide) ?_
        refine xb_if hf (fun hb hf => ?_) (fun _ q => nomatch q)
        obtain ⟨p18, ep18, hf⟩ := xbind hf
        refine xb_callV (As := [.int (39 : Int32)]) (v0 := none) (τ0 := p18) dX12_outPostfix_123 (xc_X12_prints _ _) xcl12 xw_2327 xw_2329 xs_129 hb rfl (Nat.le_of_ble_eq_true rfl) rfl (Nat.le_of_ble_eq_true rfl) (fun Q1 hq => m_X12_prints (d := d + 1) ep18 (fun g hg => by subst hg; exact hq)) ?_
        exact xm_sub [0, 1, 2] rfl (L_X12_outPostfix_j126 p18 l0 l2 l3 hf hR hE hC)
  · refine xm_aload_n dX12_outPostfix_82 rfl ?_
    refine xm_bipush dX12_outPostfix_83 (v := 48) (by decide) ?_
    refine xm_aload_n dX12_outPostfix_85 rfl ?_
    refine xb_getR (a := l0) (c := 12) (k := 7) dX12_outPostfix_86 xcl12 (by decide) xw_1844 rfl hf (fun x19 ex19 hf => ?_)
    refine xm_iload dX12_outPostfix_89 rfl ?_
    refine xb_iald dX12_outPostfix_91 hf (fun x20 ex20 hf => ?_)
    refine xm_iadd dX12_outPostfix_92 ?_
    refine xb_if hf (fun hb hf => ?_) (fun _ q => nomatch q)
    obtain ⟨p21, ep21, hf⟩ := xbind hf
    refine xb_callV (As := [.int ((48 : Int32) + x20)]) (v0 := none) (τ0 := p21) dX12_outPostfix_93 (xc_X12_prints _ _) xcl12 xw_2327 xw_2329 xs_129 hb rfl (Nat.le_of_ble_eq_true rfl) rfl (Nat.le_of_ble_eq_true rfl) (fun Q1 hq => m_X12_prints (d := d + 1) ep21 (fun g hg => by subst hg; exact hq)) ?_
    refine xm_goto 126 dX12_outPostfix_96 (by decide) ?_
    exact xm_sub [0, 1, 2] rfl (L_X12_outPostfix_j126 p21 l0 l2 l3 hf hR hE hC)
def f_X12_outPostfix_j36 (σ : xM) (l0 : Nat) (l2 : Int32) (l3 : Int32) (l4 : Int32) : Option (xM ⊕ ((xM) ⊕ (Nat × Int32 × Int32 × xM))) :=
  (gR σ l0 12 4).bind (fun x6 => (aI σ x6 14 l4).bind (fun x7 => (if x7 = (0 : Int32) then (gR σ l0 12 5).bind (fun x22 => (aI σ x22 14 l4).bind (fun x23 => (if xk σ l0 12 = true then (f_X12_outNumber σ l0 x23).bind (fun p24 => f_X12_outPostfix_j71 p24 l0 l2 l3 l4) else none))) else (gR σ l0 12 5).bind (fun x8 => (aI σ x8 14 l4).bind (fun x9 => (if xk σ l0 12 = true then (f_X12_prints σ l0 x9).bind (fun p10 => f_X12_outPostfix_j71 p10 l0 l2 l3 l4) else none))))))
set_option maxHeartbeats 4000000 in
set_option maxRecDepth 20000 in
theorem L_X12_outPostfix_j36 {G : xG} {π : Nat → Nat} {d C Z : Nat} {Q : xQ} (σ : xM) (l0 : Nat) (l2 : Int32) (l3 : Int32) (l4 : Int32) {x : (xM ⊕ ((xM) ⊕ (Nat × Int32 × Int32 × xM)))} (hf : f_X12_outPostfix_j36 σ l0 l2 l3 l4 = some x) (hR : ∀ g, x = Sum.inl (g) → Q (.inl none) (g) π) (hE : ∀ e : (xM), x = Sum.inr (Sum.inl e) → xMach G π J_X12_outPostfix (d + 2) C Z 132 [] [] e Q) (hC : ∀ e : (Nat × Int32 × Int32 × xM), x = Sum.inr (Sum.inr e) → xMach G π J_X12_outPostfix (d + 2) C Z 13 [(0, .ref e.1), (2, .int e.2.1), (3, .int e.2.2.1)] [] e.2.2.2 Q) : xMach G π J_X12_outPostfix (d + 2) C Z 36 [(0, .ref l0), (2, .int l2), (3, .int l3), (4, .int l4)] [] σ Q := by
  unfold f_X12_outPostfix_j36 at hf
  refine xm_aload_n dX12_outPostfix_36 rfl ?_
  refine xb_getR (a := l0) (c := 12) (k := 4) dX12_outPostfix_37 xcl12 (by decide) xw_1841 rfl hf (fun x6 ex6 hf => ?_)
  refine xm_iload dX12_outPostfix_40 rfl ?_
  refine xb_iald dX12_outPostfix_42 hf (fun x7 ex7 hf => ?_)
  refine xb_if_ne 60 dX12_outPostfix_43 (by decide) hf (fun c hf => ?_) (fun c hf => ?_)
  · refine xm_aload_n dX12_outPostfix_60 rfl ?_
    refine xm_aload_n dX12_outPostfix_61 rfl ?_
    refine xb_getR (a := l0) (c := 12) (k := 5) dX12_outPostfix_62 xcl12 (by decide) xw_1842 rfl hf (fun x8 ex8 hf => ?_)
    refine xm_iload dX12_outPostfix_65 rfl ?_
    refine xb_iald dX12_outPostfix_67 hf (fun x9 ex9 hf => ?_)
    refine xb_if hf (fun hb hf => ?_) (fun _ q => nomatch q)
    obtain ⟨p10, ep10, hf⟩ := xbind hf
    refine xb_callV (As := [.int x9]) (v0 := none) (τ0 := p10) dX12_outPostfix_68 (xc_X12_prints _ _) xcl12 xw_2327 xw_2329 xs_129 hb rfl (Nat.le_of_ble_eq_true rfl) rfl (Nat.le_of_ble_eq_true rfl) (fun Q1 hq => m_X12_prints (d := d + 1) ep10 (fun g hg => by subst hg; exact hq)) ?_
    exact xm_sub [0, 1, 2, 3] rfl (L_X12_outPostfix_j71 p10 l0 l2 l3 l4 hf hR hE hC)
  · refine xm_aload_n dX12_outPostfix_46 rfl ?_
    refine xm_aload_n dX12_outPostfix_47 rfl ?_
    refine xb_getR (a := l0) (c := 12) (k := 5) dX12_outPostfix_48 xcl12 (by decide) xw_1842 rfl hf (fun x22 ex22 hf => ?_)
    refine xm_iload dX12_outPostfix_51 rfl ?_
    refine xb_iald dX12_outPostfix_53 hf (fun x23 ex23 hf => ?_)
    refine xb_if hf (fun hb hf => ?_) (fun _ q => nomatch q)
    obtain ⟨p24, ep24, hf⟩ := xbind hf
    refine xb_callV (As := [.int x23]) (v0 := none) (τ0 := p24) dX12_outPostfix_54 (xc_X12_outNumber _ _) xcl12 xw_2323 xw_2325 xs_128 hb rfl (Nat.le_of_ble_eq_true rfl) rfl (Nat.le_of_ble_eq_true rfl) (fun Q1 hq => m_X12_outNumber (d := d + 0) ep24 (fun g hg => by subst hg; exact hq)) ?_
    refine xm_goto 71 dX12_outPostfix_57 (by decide) ?_
    exact xm_sub [0, 1, 2, 3] rfl (L_X12_outPostfix_j71 p24 l0 l2 l3 l4 hf hR hE hC)
def f_X12_outPostfix_s13 (s : (Nat × Int32 × Int32 × xM)) : Option (xM ⊕ ((xM) ⊕ (Nat × Int32 × Int32 × xM))) :=
  xlet s.1 (fun l0 => xlet s.2.1 (fun l2 => xlet s.2.2.1 (fun l3 => xlet s.2.2.2 (fun σ => (if l2 ≤ l3 then some (Sum.inr (Sum.inl σ)) else (gR σ l0 12 14).bind (fun x4 => (aI σ x4 14 l3).bind (fun x5 => (if l3 ≤ (0 : Int32) then f_X12_outPostfix_j36 σ l0 l2 l3 x5 else (if xk σ l0 12 = true then (f_X12_prints σ l0 (32 : Int32)).bind (fun p25 => f_X12_outPostfix_j36 p25 l0 l2 l3 x5) else none)))))))))
set_option maxHeartbeats 4000000 in
set_option maxRecDepth 20000 in
theorem L_X12_outPostfix_s13 {G : xG} {π : Nat → Nat} {d C Z : Nat} {Q : xQ} (σ : xM) (l0 : Nat) (l2 : Int32) (l3 : Int32) {x : (xM ⊕ ((xM) ⊕ (Nat × Int32 × Int32 × xM)))} (hf : f_X12_outPostfix_s13 (l0, l2, l3, σ) = some x) (hR : ∀ g, x = Sum.inl (g) → Q (.inl none) (g) π) (hE : ∀ e : (xM), x = Sum.inr (Sum.inl e) → xMach G π J_X12_outPostfix (d + 2) C Z 132 [] [] e Q) (hC : ∀ e : (Nat × Int32 × Int32 × xM), x = Sum.inr (Sum.inr e) → xMach G π J_X12_outPostfix (d + 2) C Z 13 [(0, .ref e.1), (2, .int e.2.1), (3, .int e.2.2.1)] [] e.2.2.2 Q) : xMach G π J_X12_outPostfix (d + 2) C Z 13 [(0, .ref l0), (2, .int l2), (3, .int l3)] [] σ Q := by
  have hf : (if l2 ≤ l3 then some (Sum.inr (Sum.inl σ)) else (gR σ l0 12 14).bind (fun x4 => (aI σ x4 14 l3).bind (fun x5 => (if l3 ≤ (0 : Int32) then f_X12_outPostfix_j36 σ l0 l2 l3 x5 else (if xk σ l0 12 = true then (f_X12_prints σ l0 (32 : Int32)).bind (fun p25 => f_X12_outPostfix_j36 p25 l0 l2 l3 x5) else none))))) = some x := hf
  refine xm_iload_n dX12_outPostfix_13 rfl ?_
  refine xm_iload_n dX12_outPostfix_14 rfl ?_
  refine xb_icmp_ge 132 dX12_outPostfix_15 (by decide) hf (fun c hf => ?_) (fun c hf => ?_)
  · cases hf
    exact xm_sub [] rfl (hE _ rfl)
  · refine xm_aload_n dX12_outPostfix_18 rfl ?_
    refine xb_getR (a := l0) (c := 12) (k := 14) dX12_outPostfix_19 xcl12 (by decide) xw_1851 rfl hf (fun x4 ex4 hf => ?_)
    refine xm_iload_n dX12_outPostfix_22 rfl ?_
    refine xb_iald dX12_outPostfix_23 hf (fun x5 ex5 hf => ?_)
    refine xm_istore dX12_outPostfix_24 (by decide) (xm_stL (L' := [(4, .int x5), (0, .ref l0), (2, .int l2), (3, .int l3)]) rfl ?_)
    refine xm_iload_n dX12_outPostfix_26 rfl ?_
    refine xb_if_le 36 dX12_outPostfix_27 (by decide) hf (fun c hf => ?_) (fun c hf => ?_)
    · exact xm_sub [1, 2, 3, 0] rfl (L_X12_outPostfix_j36 σ l0 l2 l3 x5 hf hR hE hC)
    · refine xm_aload_n dX12_outPostfix_30 rfl ?_
      refine xm_bipush dX12_outPostfix_31 (v := 32) (by decide) ?_
      refine xb_if hf (fun hb hf => ?_) (fun _ q => nomatch q)
      obtain ⟨p25, ep25, hf⟩ := xbind hf
      refine xb_callV (As := [.int (32 : Int32)]) (v0 := none) (τ0 := p25) dX12_outPostfix_33 (xc_X12_prints _ _) xcl12 xw_2327 xw_2329 xs_129 hb rfl (Nat.le_of_ble_eq_true rfl) rfl (Nat.le_of_ble_eq_true rfl) (fun Q1 hq => m_X12_prints (d := d + 1) ep25 (fun g hg => by subst hg; exact hq)) ?_
      exact xm_sub [1, 2, 3, 0] rfl (L_X12_outPostfix_j36 p25 l0 l2 l3 x5 hf hR hE hC)
theorem L_X12_outPostfix_l13 {G : xG} {π : Nat → Nat} {d C Z : Nat} {Q : xQ} {s0 : (Nat × Int32 × Int32 × xM)} {x : (xM ⊕ (xM))} (h1 : xloop (f_X12_outPostfix_s13) xF s0 = some x) (hR : ∀ g, x = Sum.inl g → Q (.inl none) (g) π) (hE : ∀ e : (xM), x = Sum.inr e → xMach G π J_X12_outPostfix (d + 2) C Z 132 [] [] e Q) : xMach G π J_X12_outPostfix (d + 2) C Z 13 [(0, .ref s0.1), (2, .int s0.2.1), (3, .int s0.2.2.1)] [] s0.2.2.2 Q := by
  refine xloop_run (M := (fun s : (Nat × Int32 × Int32 × xM) => xMach G π J_X12_outPostfix (d + 2) C Z 13 [(0, .ref s.1), (2, .int s.2.1), (3, .int s.2.2.1)] [] s.2.2.2 Q)) (r := x) ?_ xF _ h1
  intro s y hs hx
  exact L_X12_outPostfix_s13 s.2.2.2 s.1 s.2.1 s.2.2.1 (x := y) hs (fun g hg => by subst hg; exact hR g hx) (fun e he => by subst he; exact hE e hx) (fun e he => by subst he; exact hx)
def f_X12_outPostfix_j132 (σ : xM)  : Option xM :=
  some σ
set_option maxHeartbeats 4000000 in
set_option maxRecDepth 20000 in
theorem L_X12_outPostfix_j132 {G : xG} {π : Nat → Nat} {d C Z : Nat} {Q : xQ} (σ : xM)  {x : xM} (hf : f_X12_outPostfix_j132 σ = some x) (hR : ∀ g, x = g → Q (.inl none) (g) π) : xMach G π J_X12_outPostfix (d + 2) C Z 132 [] [] σ Q := by
  unfold f_X12_outPostfix_j132 at hf
  cases hf
  exact xm_vret dX12_outPostfix_132 rfl (hR _ rfl)
def f_X12_outPostfix (σ : xM) (l0 : Nat) (l1 : Int32) : Option xM :=
  (sI σ l0 12 42 (0 : Int32)).bind (fun σ1 => (if xk σ1 l0 12 = true then (f_X12_inOrder σ1 l0 l1).bind (fun p2 => xlet (0 : Int32) (fun v3 => (xloop (f_X12_outPostfix_s13 ) xF (l0, p2.1, v3, p2.2)).bind (Sum.elim (fun g => some g) (fun e => f_X12_outPostfix_j132 e)))) else none))
set_option maxHeartbeats 4000000 in
set_option maxRecDepth 20000 in
theorem m_X12_outPostfix {G : xG} {π : Nat → Nat} {d C Z : Nat} {Q : xQ} {σ : xM} {l0 : Nat} {l1 : Int32} {x : xM} (hf : f_X12_outPostfix σ l0 l1 = some x) (hR : ∀ g, x = g → Q (.inl none) (g) π) : xMach G π J_X12_outPostfix (d + 2) C Z 0 (lv_args 0 [.ref l0, .int l1]) [] σ Q := by
  unfold f_X12_outPostfix at hf
  refine xm_stL (L' := [(0, .ref l0), (1, .int l1)]) rfl ?_
  refine xm_aload_n dX12_outPostfix_0 rfl ?_
  refine xm_iconst dX12_outPostfix_1 (v := 0) (by decide) ?_
  refine xb_putI (a := l0) (c := 12) (k := 42) dX12_outPostfix_2 xcl12 (by decide) xw_1879 rfl rfl hf (fun σ1 eσ1 hf => ?_)
  refine xm_aload_n dX12_outPostfix_5 rfl ?_
  refine xm_iload_n dX12_outPostfix_6 rfl ?_
  refine xb_if hf (fun hb hf => ?_) (fun _ q => nomatch q)
  obtain ⟨p2, ep2, hf⟩ := xbind hf
  refine xb_callV (As := [.int l1]) (v0 := (some (.int p2.1))) (τ0 := p2.2) dX12_outPostfix_7 (xc_X12_inOrder _ _) xcl12 xw_2343 xw_2345 xs_132 hb rfl (Nat.le_of_ble_eq_true rfl) rfl (Nat.le_of_ble_eq_true rfl) (fun Q1 hq => m_X12_inOrder (d := d + 1) ep2 (fun g hg => by subst hg; exact hq)) ?_
  refine xm_istore_n dX12_outPostfix_10 (by decide) (xm_stL (L' := [(2, .int p2.1), (0, .ref l0), (1, .int l1)]) rfl ?_)
  refine xm_iconst dX12_outPostfix_11 (v := 0) (by decide) ?_
  refine xb_topi hf (fun v3 ev3 hf => ?_)
  refine xm_istore_n dX12_outPostfix_12 (by decide) (xm_stL (L' := [(3, .int v3), (2, .int p2.1), (0, .ref l0), (1, .int l1)]) rfl ?_)
  obtain ⟨o, h1, hf⟩ := xbind hf
  refine xm_sub [2, 1, 0] rfl (L_X12_outPostfix_l13  h1 (fun g hg => ?_) (fun e he => ?_))
  · subst hg
    cases hf
    exact hR _ rfl
  · subst he
    rw [Sum.elim_inr] at hf
    have hf : f_X12_outPostfix_j132 e = some _ := hf
    exact xm_sub [] rfl (L_X12_outPostfix_j132 e hf hR)
-- RankwiseModel.enter(II)V
def f_X12_enter (σ : xM) (l0 : Nat) (l1 : Int32) (l2 : Int32) : Option xM :=
  (gR σ l0 12 48).bind (fun x1 => (gI σ l0 12 56).bind (fun x2 => (wI σ x1 x2 l1).bind (fun σ3 => (gR σ3 l0 12 49).bind (fun x4 => (gI σ3 l0 12 56).bind (fun x5 => (wI σ3 x4 x5 (0 : Int32)).bind (fun σ6 => (gR σ6 l0 12 50).bind (fun x7 => (gI σ6 l0 12 56).bind (fun x8 => (wI σ6 x7 x8 l2).bind (fun σ9 => (gI σ9 l0 12 56).bind (fun x10 => (sI σ9 l0 12 56 (x10 + (1 : Int32))).bind (fun σ11 => some σ11)))))))))))
set_option maxHeartbeats 4000000 in
set_option maxRecDepth 20000 in
theorem m_X12_enter {G : xG} {π : Nat → Nat} {d C Z : Nat} {Q : xQ} {σ : xM} {l0 : Nat} {l1 : Int32} {l2 : Int32} {x : xM} (hf : f_X12_enter σ l0 l1 l2 = some x) (hR : ∀ g, x = g → Q (.inl none) (g) π) : xMach G π J_X12_enter (d + 0) C Z 0 (lv_args 0 [.ref l0, .int l1, .int l2]) [] σ Q := by
  unfold f_X12_enter at hf
  refine xm_stL (L' := [(0, .ref l0), (1, .int l1), (2, .int l2)]) rfl ?_
  refine xm_aload_n dX12_enter_0 rfl ?_
  refine xb_getR (a := l0) (c := 12) (k := 48) dX12_enter_1 xcl12 (by decide) xw_1885 rfl hf (fun x1 ex1 hf => ?_)
  refine xm_aload_n dX12_enter_4 rfl ?_
  refine xb_getI (a := l0) (c := 12) (k := 56) dX12_enter_5 xcl12 (by decide) xw_1893 rfl hf (fun x2 ex2 hf => ?_)
  refine xm_iload_n dX12_enter_8 rfl ?_
  refine xb_iast dX12_enter_9 hf (fun σ3 eσ3 hf => ?_)
  refine xm_aload_n dX12_enter_10 rfl ?_
  refine xb_getR (a := l0) (c := 12) (k := 49) dX12_enter_11 xcl12 (by decide) xw_1886 rfl hf (fun x4 ex4 hf => ?_)
  refine xm_aload_n dX12_enter_14 rfl ?_
  refine xb_getI (a := l0) (c := 12) (k := 56) dX12_enter_15 xcl12 (by decide) xw_1893 rfl hf (fun x5 ex5 hf => ?_)
  refine xm_iconst dX12_enter_18 (v := 0) (by decide) ?_
  refine xb_iast dX12_enter_19 hf (fun σ6 eσ6 hf => ?_)
  refine xm_aload_n dX12_enter_20 rfl ?_
  refine xb_getR (a := l0) (c := 12) (k := 50) dX12_enter_21 xcl12 (by decide) xw_1887 rfl hf (fun x7 ex7 hf => ?_)
  refine xm_aload_n dX12_enter_24 rfl ?_
  refine xb_getI (a := l0) (c := 12) (k := 56) dX12_enter_25 xcl12 (by decide) xw_1893 rfl hf (fun x8 ex8 hf => ?_)
  refine xm_iload_n dX12_enter_28 rfl ?_
  refine xb_iast dX12_enter_29 hf (fun σ9 eσ9 hf => ?_)
  refine xm_aload_n dX12_enter_30 rfl ?_
  refine xm_dup dX12_enter_31 rfl ?_
  refine xb_getI (a := l0) (c := 12) (k := 56) dX12_enter_32 xcl12 (by decide) xw_1893 rfl hf (fun x10 ex10 hf => ?_)
  refine xm_iconst dX12_enter_35 (v := 1) (by decide) ?_
  refine xm_iadd dX12_enter_36 ?_
  refine xb_putI (a := l0) (c := 12) (k := 56) dX12_enter_37 xcl12 (by decide) xw_1893 rfl rfl hf (fun σ11 eσ11 hf => ?_)
  cases hf
  exact xm_vret dX12_enter_40 rfl (hR _ rfl)
-- RankwiseModel.top()I
def f_X12_top (σ : xM) (l0 : Nat) : Option Int32 :=
  (gI σ l0 12 61).bind (fun x1 => some (((60 : Int32) + x1) - (1 : Int32)))
set_option maxHeartbeats 4000000 in
set_option maxRecDepth 20000 in
theorem m_X12_top {G : xG} {π : Nat → Nat} {d C Z : Nat} {Q : xQ} {σ : xM} {l0 : Nat} {x : Int32} (hf : f_X12_top σ l0 = some x) (hR : ∀ g, x = g → Q (.inl (some (.int g))) (σ) π) : xMach G π J_X12_top (d + 0) C Z 0 (lv_args 0 [.ref l0]) [] σ Q := by
  unfold f_X12_top at hf
  refine xm_stL (L' := [(0, .ref l0)]) rfl ?_
  refine xm_bipush dX12_top_0 (v := 60) (by decide) ?_
  refine xm_aload_n dX12_top_2 rfl ?_
  refine xb_getI (a := l0) (c := 12) (k := 61) dX12_top_3 xcl12 (by decide) xw_1898 rfl hf (fun x1 ex1 hf => ?_)
  refine xm_iadd dX12_top_6 ?_
  refine xm_iconst dX12_top_7 (v := 1) (by decide) ?_
  refine xm_isub dX12_top_8 ?_
  cases hf
  exact xm_iret dX12_top_9 rfl (hR _ rfl)
-- RankwiseModel.count()I
def f_X12_count (σ : xM) (l0 : Nat) : Option (Int32 × xM) :=
  (gI σ l0 12 62).bind (fun x1 => (if x1 = (200 : Int32) then some ((9 : Int32), σ) else (gI σ l0 12 62).bind (fun x2 => (sI σ l0 12 62 (x2 + (1 : Int32))).bind (fun σ3 => some ((0 : Int32), σ3)))))
set_option maxHeartbeats 4000000 in
set_option maxRecDepth 20000 in
theorem m_X12_count {G : xG} {π : Nat → Nat} {d C Z : Nat} {Q : xQ} {σ : xM} {l0 : Nat} {x : (Int32 × xM)} (hf : f_X12_count σ l0 = some x) (hR : ∀ g, x = g → Q (.inl (some (.int g.1))) (g.2) π) : xMach G π J_X12_count (d + 0) C Z 0 (lv_args 0 [.ref l0]) [] σ Q := by
  unfold f_X12_count at hf
  refine xm_stL (L' := [(0, .ref l0)]) rfl ?_
  refine xm_aload_n dX12_count_0 rfl ?_
  refine xb_getI (a := l0) (c := 12) (k := 62) dX12_count_1 xcl12 (by decide) xw_1899 rfl hf (fun x1 ex1 hf => ?_)
  refine xm_sipush dX12_count_4 (v := 200) (by decide) ?_
  refine xb_icmp_ne 13 dX12_count_7 (by decide) hf (fun c hf => ?_) (fun c hf => ?_)
  · refine xm_aload_n dX12_count_13 rfl ?_
    refine xm_dup dX12_count_14 rfl ?_
    refine xb_getI (a := l0) (c := 12) (k := 62) dX12_count_15 xcl12 (by decide) xw_1899 rfl hf (fun x2 ex2 hf => ?_)
    refine xm_iconst dX12_count_18 (v := 1) (by decide) ?_
    refine xm_iadd dX12_count_19 ?_
    refine xb_putI (a := l0) (c := 12) (k := 62) dX12_count_20 xcl12 (by decide) xw_1899 rfl rfl hf (fun σ3 eσ3 hf => ?_)
    refine xm_iconst dX12_count_23 (v := 0) (by decide) ?_
    cases hf
    exact xm_iret dX12_count_24 rfl (hR _ rfl)
  · refine xm_bipush dX12_count_10 (v := 9) (by decide) ?_
    cases hf
    exact xm_iret dX12_count_12 rfl (hR _ rfl)
-- RankwiseModel.look(II)I
def f_X12_look_s2 (σ : xM) (s : (Nat × Int32 × Int32)) : Option (Int32 ⊕ ((Nat × Int32 × Int32) ⊕ (Nat × Int32 × Int32))) :=
  xlet s.1 (fun l0 => xlet s.2.1 (fun l1 => xlet s.2.2 (fun l3 => (if l3 < (0 : Int32) then some (Sum.inr (Sum.inl (l0, l1, l3))) else (gR σ l0 12 58).bind (fun x1 => (aI σ x1 14 l3).bind (fun x2 => (if x2 = (0 : Int32) then (gR σ l0 12 57).bind (fun x3 => (aI σ x3 14 l3).bind (fun x4 => (if x4 = l1 then some (Sum.inr (Sum.inl (l0, l1, l3))) else (gR σ l0 12 59).bind (fun x5 => (aI σ x5 14 l3).bind (fun x6 => some (Sum.inr (Sum.inr (l0, l1, x6)))))))) else some (Sum.inr (Sum.inl (l0, l1, l3))))))))))
set_option maxHeartbeats 4000000 in
set_option maxRecDepth 20000 in
theorem L_X12_look_s2 {G : xG} {π : Nat → Nat} {d C Z : Nat} {Q : xQ} (σ : xM) (l0 : Nat) (l1 : Int32) (l3 : Int32) {x : (Int32 ⊕ ((Nat × Int32 × Int32) ⊕ (Nat × Int32 × Int32)))} (hf : f_X12_look_s2 σ (l0, l1, l3) = some x) (hR : ∀ g, x = Sum.inl (g) → Q (.inl (some (.int g))) (σ) π) (hE : ∀ e : (Nat × Int32 × Int32), x = Sum.inr (Sum.inl e) → xMach G π J_X12_look (d + 1) C Z 35 [(0, .ref e.1), (1, .int e.2.1), (3, .int e.2.2)] [] σ Q) (hC : ∀ e : (Nat × Int32 × Int32), x = Sum.inr (Sum.inr e) → xMach G π J_X12_look (d + 1) C Z 2 [(0, .ref e.1), (1, .int e.2.1), (3, .int e.2.2)] [] σ Q) : xMach G π J_X12_look (d + 1) C Z 2 [(0, .ref l0), (1, .int l1), (3, .int l3)] [] σ Q := by
  have hf : (if l3 < (0 : Int32) then some (Sum.inr (Sum.inl (l0, l1, l3))) else (gR σ l0 12 58).bind (fun x1 => (aI σ x1 14 l3).bind (fun x2 => (if x2 = (0 : Int32) then (gR σ l0 12 57).bind (fun x3 => (aI σ x3 14 l3).bind (fun x4 => (if x4 = l1 then some (Sum.inr (Sum.inl (l0, l1, l3))) else (gR σ l0 12 59).bind (fun x5 => (aI σ x5 14 l3).bind (fun x6 => some (Sum.inr (Sum.inr (l0, l1, x6)))))))) else some (Sum.inr (Sum.inl (l0, l1, l3))))))) = some x := hf
  refine xm_iload_n dX12_look_2 rfl ?_
  refine xb_if_lt 35 dX12_look_3 (by decide) hf (fun c hf => ?_) (fun c hf => ?_)
  · cases hf
    exact xm_sub [0, 1, 2] rfl (hE _ rfl)
  · refine xm_aload_n dX12_look_6 rfl ?_
    refine xb_getR (a := l0) (c := 12) (k := 58) dX12_look_7 xcl12 (by decide) xw_1895 rfl hf (fun x1 ex1 hf => ?_)
    refine xm_iload_n dX12_look_10 rfl ?_
    refine xb_iald dX12_look_11 hf (fun x2 ex2 hf => ?_)
    refine xb_if_ne 35 dX12_look_12 (by decide) hf (fun c hf => ?_) (fun c hf => ?_)
    · cases hf
      exact xm_sub [0, 1, 2] rfl (hE _ rfl)
    · refine xm_aload_n dX12_look_15 rfl ?_
      refine xb_getR (a := l0) (c := 12) (k := 57) dX12_look_16 xcl12 (by decide) xw_1894 rfl hf (fun x3 ex3 hf => ?_)
      refine xm_iload_n dX12_look_19 rfl ?_
      refine xb_iald dX12_look_20 hf (fun x4 ex4 hf => ?_)
      refine xm_iload_n dX12_look_21 rfl ?_
      refine xb_icmp_eq 35 dX12_look_22 (by decide) hf (fun c hf => ?_) (fun c hf => ?_)
      · cases hf
        exact xm_sub [0, 1, 2] rfl (hE _ rfl)
      · refine xm_aload_n dX12_look_25 rfl ?_
        refine xb_getR (a := l0) (c := 12) (k := 59) dX12_look_26 xcl12 (by decide) xw_1896 rfl hf (fun x5 ex5 hf => ?_)
        refine xm_iload_n dX12_look_29 rfl ?_
        refine xb_iald dX12_look_30 hf (fun x6 ex6 hf => ?_)
        refine xm_istore_n dX12_look_31 (by decide) (xm_stL (L' := [(3, .int x6), (0, .ref l0), (1, .int l1)]) rfl ?_)
        refine xm_goto 2 dX12_look_32 (by decide) ?_
        cases hf
        exact xm_sub [1, 2, 0] rfl (hC _ rfl)
theorem L_X12_look_l2 {G : xG} {π : Nat → Nat} {d C Z : Nat} {Q : xQ} (σ : xM) {s0 : (Nat × Int32 × Int32)} {x : (Int32 ⊕ (Nat × Int32 × Int32))} (h1 : xloop (f_X12_look_s2 σ) xF s0 = some x) (hR : ∀ g, x = Sum.inl g → Q (.inl (some (.int g))) (σ) π) (hE : ∀ e : (Nat × Int32 × Int32), x = Sum.inr e → xMach G π J_X12_look (d + 1) C Z 35 [(0, .ref e.1), (1, .int e.2.1), (3, .int e.2.2)] [] σ Q) : xMach G π J_X12_look (d + 1) C Z 2 [(0, .ref s0.1), (1, .int s0.2.1), (3, .int s0.2.2)] [] σ Q := by
  refine xloop_run (M := (fun s : (Nat × Int32 × Int32) => xMach G π J_X12_look (d + 1) C Z 2 [(0, .ref s.1), (1, .int s.2.1), (3, .int s.2.2)] [] σ Q)) (r := x) ?_ xF _ h1
  intro s y hs hx
  exact L_X12_look_s2 σ s.1 s.2.1 s.2.2 (x := y) hs (fun g hg => by subst hg; exact hR g hx) (fun e he => by subst he; exact hE e hx) (fun e he => by subst he; exact hx)
def f_X12_look_j117 (σ : xM) (s0 : Int32) : Option Int32 :=
  some s0
set_option maxHeartbeats 4000000 in
set_option maxRecDepth 20000 in
theorem L_X12_look_j117 {G : xG} {π : Nat → Nat} {d C Z : Nat} {Q : xQ} (σ : xM) (s0 : Int32) {x : Int32} (hf : f_X12_look_j117 σ s0 = some x) (hR : ∀ g, x = g → Q (.inl (some (.int g))) (σ) π) : xMach G π J_X12_look (d + 1) C Z 117 [] [.int s0] σ Q := by
  unfold f_X12_look_j117 at hf
  cases hf
  exact xm_iret dX12_look_117 rfl (hR _ rfl)
def f_X12_look_j97 (σ : xM) (l0 : Nat) (l1 : Int32) : Option Int32 :=
  (gR σ l0 12 47).bind (fun x7 => (aI σ x7 15 (l1 - (97 : Int32))).bind (fun x8 => (if x8 = (0 : Int32) then f_X12_look_j117 σ (-1 : Int32) else f_X12_look_j117 σ (l1 - (97 : Int32)))))
set_option maxHeartbeats 4000000 in
set_option maxRecDepth 20000 in
theorem L_X12_look_j97 {G : xG} {π : Nat → Nat} {d C Z : Nat} {Q : xQ} (σ : xM) (l0 : Nat) (l1 : Int32) {x : Int32} (hf : f_X12_look_j97 σ l0 l1 = some x) (hR : ∀ g, x = g → Q (.inl (some (.int g))) (σ) π) : xMach G π J_X12_look (d + 1) C Z 97 [(0, .ref l0), (1, .int l1)] [] σ Q := by
  unfold f_X12_look_j97 at hf
  refine xm_aload_n dX12_look_97 rfl ?_
  refine xb_getR (a := l0) (c := 12) (k := 47) dX12_look_98 xcl12 (by decide) xw_1884 rfl hf (fun x7 ex7 hf => ?_)
  refine xm_iload_n dX12_look_101 rfl ?_
  refine xm_bipush dX12_look_102 (v := 97) (by decide) ?_
  refine xm_isub dX12_look_104 ?_
  refine xb_zald dX12_look_105 hf (fun x8 ex8 hf => ?_)
  refine xb_if_eq 116 dX12_look_106 (by decide) hf (fun c hf => ?_) (fun c hf => ?_)
  · refine xm_iconst dX12_look_116 (v := -1) (by decide) ?_
    exact xm_sub [] rfl (L_X12_look_j117 σ (-1 : Int32) hf hR)
  · refine xm_iload_n dX12_look_109 rfl ?_
    refine xm_bipush dX12_look_110 (v := 97) (by decide) ?_
    refine xm_isub dX12_look_112 ?_
    refine xm_goto 117 dX12_look_113 (by decide) ?_
    exact xm_sub [] rfl (L_X12_look_j117 σ (l1 - (97 : Int32)) hf hR)
def f_X12_look_j56 (σ : xM) (l0 : Nat) (l1 : Int32) (l3 : Int32) : Option Int32 :=
  (if l3 < (0 : Int32) then f_X12_look_j97 σ l0 l1 else (f_X12_in σ l1 (120 : Int32) (122 : Int32)).bind (fun p9 => (if p9 = (0 : Int32) then f_X12_look_j97 σ l0 l1 else (gR σ l0 12 58).bind (fun x10 => (aI σ x10 14 l3).bind (fun x11 => (if x11 ≤ (l1 - (120 : Int32)) then f_X12_look_j97 σ l0 l1 else some ((((1000 : Int32) + ((3 : Int32) * l3)) + l1) - (120 : Int32))))))))
set_option maxHeartbeats 4000000 in
set_option maxRecDepth 20000 in
theorem L_X12_look_j56 {G : xG} {π : Nat → Nat} {d C Z : Nat} {Q : xQ} (σ : xM) (l0 : Nat) (l1 : Int32) (l3 : Int32) {x : Int32} (hf : f_X12_look_j56 σ l0 l1 l3 = some x) (hR : ∀ g, x = g → Q (.inl (some (.int g))) (σ) π) : xMach G π J_X12_look (d + 1) C Z 56 [(0, .ref l0), (1, .int l1), (3, .int l3)] [] σ Q := by
  unfold f_X12_look_j56 at hf
  refine xm_iload_n dX12_look_56 rfl ?_
  refine xb_if_lt 97 dX12_look_57 (by decide) hf (fun c hf => ?_) (fun c hf => ?_)
  · exact xm_sub [0, 1] rfl (L_X12_look_j97 σ l0 l1 hf hR)
  · refine xm_iload_n dX12_look_60 rfl ?_
    refine xm_bipush dX12_look_61 (v := 120) (by decide) ?_
    refine xm_bipush dX12_look_63 (v := 122) (by decide) ?_
    obtain ⟨p9, ep9, hf⟩ := xbind hf
    refine xb_callS (As := [.int l1, .int (120 : Int32), .int (122 : Int32)]) (v0 := (some (.int p9))) (τ0 := σ) dX12_look_65 (xc_X12_in _ _) xw_2132 xw_2133 rfl (Nat.le_of_ble_eq_true rfl) rfl (Nat.le_of_ble_eq_true rfl) (fun Q1 hq => m_X12_in (d := d + 0) ep9 (fun g hg => by subst hg; exact hq)) ?_
    refine xb_if_eq 97 dX12_look_68 (by decide) hf (fun c hf => ?_) (fun c hf => ?_)
    · exact xm_sub [0, 1] rfl (L_X12_look_j97 σ l0 l1 hf hR)
    · refine xm_iload_n dX12_look_71 rfl ?_
      refine xm_bipush dX12_look_72 (v := 120) (by decide) ?_
      refine xm_isub dX12_look_74 ?_
      refine xm_aload_n dX12_look_75 rfl ?_
      refine xb_getR (a := l0) (c := 12) (k := 58) dX12_look_76 xcl12 (by decide) xw_1895 rfl hf (fun x10 ex10 hf => ?_)
      refine xm_iload_n dX12_look_79 rfl ?_
      refine xb_iald dX12_look_80 hf (fun x11 ex11 hf => ?_)
      refine xb_icmp_ge 97 dX12_look_81 (by decide) hf (fun c hf => ?_) (fun c hf => ?_)
      · exact xm_sub [0, 1] rfl (L_X12_look_j97 σ l0 l1 hf hR)
      · refine xm_sipush dX12_look_84 (v := 1000) (by decide) ?_
        refine xm_iconst dX12_look_87 (v := 3) (by decide) ?_
        refine xm_iload_n dX12_look_88 rfl ?_
        refine xm_imul dX12_look_89 ?_
        refine xm_iadd dX12_look_90 ?_
        refine xm_iload_n dX12_look_91 rfl ?_
        refine xm_iadd dX12_look_92 ?_
        refine xm_bipush dX12_look_93 (v := 120) (by decide) ?_
        refine xm_isub dX12_look_95 ?_
        cases hf
        exact xm_iret dX12_look_96 rfl (hR _ rfl)
def f_X12_look_j35 (σ : xM) (l0 : Nat) (l1 : Int32) (l3 : Int32) : Option Int32 :=
  (if l3 < (0 : Int32) then f_X12_look_j56 σ l0 l1 l3 else (gR σ l0 12 58).bind (fun x12 => (aI σ x12 14 l3).bind (fun x13 => (if x13 = (0 : Int32) then some ((1000 : Int32) + ((3 : Int32) * l3)) else f_X12_look_j56 σ l0 l1 l3))))
set_option maxHeartbeats 4000000 in
set_option maxRecDepth 20000 in
theorem L_X12_look_j35 {G : xG} {π : Nat → Nat} {d C Z : Nat} {Q : xQ} (σ : xM) (l0 : Nat) (l1 : Int32) (l3 : Int32) {x : Int32} (hf : f_X12_look_j35 σ l0 l1 l3 = some x) (hR : ∀ g, x = g → Q (.inl (some (.int g))) (σ) π) : xMach G π J_X12_look (d + 1) C Z 35 [(0, .ref l0), (1, .int l1), (3, .int l3)] [] σ Q := by
  unfold f_X12_look_j35 at hf
  refine xm_iload_n dX12_look_35 rfl ?_
  refine xb_if_lt 56 dX12_look_36 (by decide) hf (fun c hf => ?_) (fun c hf => ?_)
  · exact xm_sub [0, 1, 2] rfl (L_X12_look_j56 σ l0 l1 l3 hf hR)
  · refine xm_aload_n dX12_look_39 rfl ?_
    refine xb_getR (a := l0) (c := 12) (k := 58) dX12_look_40 xcl12 (by decide) xw_1895 rfl hf (fun x12 ex12 hf => ?_)
    refine xm_iload_n dX12_look_43 rfl ?_
    refine xb_iald dX12_look_44 hf (fun x13 ex13 hf => ?_)
    refine xb_if_ne 56 dX12_look_45 (by decide) hf (fun c hf => ?_) (fun c hf => ?_)
    · exact xm_sub [0, 1, 2] rfl (L_X12_look_j56 σ l0 l1 l3 hf hR)
    · refine xm_sipush dX12_look_48 (v := 1000) (by decide) ?_
      refine xm_iconst dX12_look_51 (v := 3) (by decide) ?_
      refine xm_iload_n dX12_look_52 rfl ?_
      refine xm_imul dX12_look_53 ?_
      refine xm_iadd dX12_look_54 ?_
      cases hf
      exact xm_iret dX12_look_55 rfl (hR _ rfl)
def f_X12_look (σ : xM) (l0 : Nat) (l1 : Int32) (l2 : Int32) : Option Int32 :=
  (xloop (f_X12_look_s2 σ ) xF (l0, l1, l2)).bind (Sum.elim (fun g => some g) (fun e => f_X12_look_j35 σ e.1 e.2.1 e.2.2))
set_option maxHeartbeats 4000000 in
set_option maxRecDepth 20000 in
theorem m_X12_look {G : xG} {π : Nat → Nat} {d C Z : Nat} {Q : xQ} {σ : xM} {l0 : Nat} {l1 : Int32} {l2 : Int32} {x : Int32} (hf : f_X12_look σ l0 l1 l2 = some x) (hR : ∀ g, x = g → Q (.inl (some (.int g))) (σ) π) : xMach G π J_X12_look (d + 1) C Z 0 (lv_args 0 [.ref l0, .int l1, .int l2]) [] σ Q := by
  unfold f_X12_look at hf
  refine xm_stL (L' := [(0, .ref l0), (1, .int l1), (2, .int l2)]) rfl ?_
  refine xm_iload_n dX12_look_0 rfl ?_
  refine xm_istore_n dX12_look_1 (by decide) (xm_stL (L' := [(3, .int l2), (0, .ref l0), (1, .int l1), (2, .int l2)]) rfl ?_)
  obtain ⟨o, h1, hf⟩ := xbind hf
  refine xm_sub [1, 2, 0] rfl (L_X12_look_l2 σ h1 (fun g hg => ?_) (fun e he => ?_))
  · subst hg
    cases hf
    exact hR _ rfl
  · subst he
    rw [Sum.elim_inr] at hf
    have hf : f_X12_look_j35 σ e.1 e.2.1 e.2.2 = some _ := hf
    exact xm_sub [0, 1, 2] rfl (L_X12_look_j35 σ e.1 e.2.1 e.2.2 hf hR)
-- RankwiseModel.leaf(II)I
def f_X12_leaf_j84 (σ : xM) (l0 : Nat) : Option (Int32 × xM) :=
  (gI σ l0 12 61).bind (fun x11 => (sI σ l0 12 61 (x11 + (1 : Int32))).bind (fun σ12 => some ((0 : Int32), σ12)))
set_option maxHeartbeats 4000000 in
set_option maxRecDepth 20000 in
theorem L_X12_leaf_j84 {G : xG} {π : Nat → Nat} {d C Z : Nat} {Q : xQ} (σ : xM) (l0 : Nat) {x : (Int32 × xM)} (hf : f_X12_leaf_j84 σ l0 = some x) (hR : ∀ g, x = g → Q (.inl (some (.int g.1))) (g.2) π) : xMach G π J_X12_leaf (d + 3) C Z 84 [(0, .ref l0)] [] σ Q := by
  unfold f_X12_leaf_j84 at hf
  refine xm_aload_n dX12_leaf_84 rfl ?_
  refine xm_dup dX12_leaf_85 rfl ?_
  refine xb_getI (a := l0) (c := 12) (k := 61) dX12_leaf_86 xcl12 (by decide) xw_1898 rfl hf (fun x11 ex11 hf => ?_)
  refine xm_iconst dX12_leaf_89 (v := 1) (by decide) ?_
  refine xm_iadd dX12_leaf_90 ?_
  refine xb_putI (a := l0) (c := 12) (k := 61) dX12_leaf_91 xcl12 (by decide) xw_1898 rfl rfl hf (fun σ12 eσ12 hf => ?_)
  refine xm_iconst dX12_leaf_94 (v := 0) (by decide) ?_
  cases hf
  exact xm_iret dX12_leaf_95 rfl (hR _ rfl)
def f_X12_leaf (σ : xM) (l0 : Nat) (l1 : Int32) (l2 : Int32) : Option (Int32 × xM) :=
  (if xk σ l0 12 = true then (f_X12_count σ l0).bind (fun p1 => (if p1.1 ≤ (0 : Int32) then (gI p1.2 l0 12 56).bind (fun x2 => (sI p1.2 l0 12 56 (x2 - (1 : Int32))).bind (fun σ3 => (gR σ3 l0 12 4).bind (fun x4 => (aI σ3 x4 14 l1).bind (fun x5 => (if x5 = (0 : Int32) then (gI σ3 l0 12 61).bind (fun x13 => (gR σ3 l0 12 5).bind (fun x14 => (aI σ3 x14 14 l1).bind (fun x15 => (if xk σ3 l0 12 = true then (f_X12_setInt σ3 l0 ((60 : Int32) + x13) x15).bind (fun p16 => f_X12_leaf_j84 p16 l0) else none)))) else (gR σ3 l0 12 5).bind (fun x6 => (aI σ3 x6 14 l1).bind (fun x7 => (if xk σ3 l0 12 = true then (f_X12_look σ3 l0 x7 l2).bind (fun p8 => (if p8 = (-1 : Int32) then some ((4 : Int32), σ3) else (gI σ3 l0 12 61).bind (fun x9 => (if xk σ3 l0 12 = true then (f_X12_copyValue σ3 l0 ((60 : Int32) + x9) p8).bind (fun p10 => f_X12_leaf_j84 p10 l0) else none)))) else none)))))))) else some (p1.1, p1.2))) else none)
set_option maxHeartbeats 4000000 in
set_option maxRecDepth 20000 in
theorem m_X12_leaf {G : xG} {π : Nat → Nat} {d C Z : Nat} {Q : xQ} {σ : xM} {l0 : Nat} {l1 : Int32} {l2 : Int32} {x : (Int32 × xM)} (hf : f_X12_leaf σ l0 l1 l2 = some x) (hR : ∀ g, x = g → Q (.inl (some (.int g.1))) (g.2) π) : xMach G π J_X12_leaf (d + 3) C Z 0 (lv_args 0 [.ref l0, .int l1, .int l2]) [] σ Q := by
  unfold f_X12_leaf at hf
  refine xm_stL (L' := [(0, .ref l0), (1, .int l1), (2, .int l2)]) rfl ?_
  refine xm_aload_n dX12_leaf_0 rfl ?_
  refine xb_if hf (fun hb hf => ?_) (fun _ q => nomatch q)
  obtain ⟨p1, ep1, hf⟩ := xbind hf
  refine xb_callV (As := []) (v0 := (some (.int p1.1))) (τ0 := p1.2) dX12_leaf_1 (xc_X12_count _ _) xcl12 xw_2371 xw_2373 xs_137 hb rfl (Nat.le_of_ble_eq_true rfl) rfl (Nat.le_of_ble_eq_true rfl) (fun Q1 hq => m_X12_count (d := d + 2) ep1 (fun g hg => by subst hg; exact hq)) ?_
  refine xm_istore_n dX12_leaf_4 (by decide) (xm_stL (L' := [(3, .int p1.1), (0, .ref l0), (1, .int l1), (2, .int l2)]) rfl ?_)
  refine xm_iload_n dX12_leaf_5 rfl ?_
  refine xb_if_le 11 dX12_leaf_6 (by decide) hf (fun c hf => ?_) (fun c hf => ?_)
  · refine xm_aload_n dX12_leaf_11 rfl ?_
    refine xm_dup dX12_leaf_12 rfl ?_
    refine xb_getI (a := l0) (c := 12) (k := 56) dX12_leaf_13 xcl12 (by decide) xw_1893 rfl hf (fun x2 ex2 hf => ?_)
    refine xm_iconst dX12_leaf_16 (v := 1) (by decide) ?_
    refine xm_isub dX12_leaf_17 ?_
    refine xb_putI (a := l0) (c := 12) (k := 56) dX12_leaf_18 xcl12 (by decide) xw_1893 rfl rfl hf (fun σ3 eσ3 hf => ?_)
    refine xm_aload_n dX12_leaf_21 rfl ?_
    refine xb_getR (a := l0) (c := 12) (k := 4) dX12_leaf_22 xcl12 (by decide) xw_1841 rfl hf (fun x4 ex4 hf => ?_)
    refine xm_iload_n dX12_leaf_25 rfl ?_
    refine xb_iald dX12_leaf_26 hf (fun x5 ex5 hf => ?_)
    refine xb_if_ne 50 dX12_leaf_27 (by decide) hf (fun c hf => ?_) (fun c hf => ?_)
    · refine xm_aload_n dX12_leaf_50 rfl ?_
      refine xm_aload_n dX12_leaf_51 rfl ?_
      refine xb_getR (a := l0) (c := 12) (k := 5) dX12_leaf_52 xcl12 (by decide) xw_1842 rfl hf (fun x6 ex6 hf => ?_)
      refine xm_iload_n dX12_leaf_55 rfl ?_
      refine xb_iald dX12_leaf_56 hf (fun x7 ex7 hf => ?_)
      refine xm_iload_n dX12_leaf_57 rfl ?_
      refine xb_if hf (fun hb hf => ?_) (fun _ q => nomatch q)
      obtain ⟨p8, ep8, hf⟩ := xbind hf
      refine xb_callV (As := [.int x7, .int l2]) (v0 := (some (.int p8))) (τ0 := σ3) dX12_leaf_58 (xc_X12_look _ _) xcl12 xw_2375 xw_2377 xs_138 hb rfl (Nat.le_of_ble_eq_true rfl) rfl (Nat.le_of_ble_eq_true rfl) (fun Q1 hq => m_X12_look (d := d + 1) ep8 (fun g hg => by subst hg; exact hq)) ?_
      refine xm_istore dX12_leaf_61 (by decide) (xm_stL (L' := [(4, .int p8), (3, .int p1.1), (0, .ref l0), (1, .int l1), (2, .int l2)]) rfl ?_)
      refine xm_iload dX12_leaf_63 rfl ?_
      refine xm_iconst dX12_leaf_65 (v := -1) (by decide) ?_
      refine xb_icmp_ne 71 dX12_leaf_66 (by decide) hf (fun c hf => ?_) (fun c hf => ?_)
      · refine xm_aload_n dX12_leaf_71 rfl ?_
        refine xm_bipush dX12_leaf_72 (v := 60) (by decide) ?_
        refine xm_aload_n dX12_leaf_74 rfl ?_
        refine xb_getI (a := l0) (c := 12) (k := 61) dX12_leaf_75 xcl12 (by decide) xw_1898 rfl hf (fun x9 ex9 hf => ?_)
        refine xm_iadd dX12_leaf_78 ?_
        refine xm_iload dX12_leaf_79 rfl ?_
        refine xb_if hf (fun hb hf => ?_) (fun _ q => nomatch q)
        obtain ⟨p10, ep10, hf⟩ := xbind hf
        refine xb_callV (As := [.int ((60 : Int32) + x9), .int p8]) (v0 := none) (τ0 := p10) dX12_leaf_81 (xc_X12_copyValue _ _) xcl12 xw_2100 xw_2102 xs_88 hb rfl (Nat.le_of_ble_eq_true rfl) rfl (Nat.le_of_ble_eq_true rfl) (fun Q1 hq => m_X12_copyValue (d := d + 2) ep10 (fun g hg => by subst hg; exact hq)) ?_
        exact xm_sub [2] rfl (L_X12_leaf_j84 p10 l0 hf hR)
      · refine xm_iconst dX12_leaf_69 (v := 4) (by decide) ?_
        cases hf
        exact xm_iret dX12_leaf_70 rfl (hR _ rfl)
    · refine xm_aload_n dX12_leaf_30 rfl ?_
      refine xm_bipush dX12_leaf_31 (v := 60) (by decide) ?_
      refine xm_aload_n dX12_leaf_33 rfl ?_
      refine xb_getI (a := l0) (c := 12) (k := 61) dX12_leaf_34 xcl12 (by decide) xw_1898 rfl hf (fun x13 ex13 hf => ?_)
      refine xm_iadd dX12_leaf_37 ?_
      refine xm_aload_n dX12_leaf_38 rfl ?_
      refine xb_getR (a := l0) (c := 12) (k := 5) dX12_leaf_39 xcl12 (by decide) xw_1842 rfl hf (fun x14 ex14 hf => ?_)
      refine xm_iload_n dX12_leaf_42 rfl ?_
      refine xb_iald dX12_leaf_43 hf (fun x15 ex15 hf => ?_)
      refine xb_if hf (fun hb hf => ?_) (fun _ q => nomatch q)
      obtain ⟨p16, ep16, hf⟩ := xbind hf
      refine xb_callV (As := [.int ((60 : Int32) + x13), .int x15]) (v0 := none) (τ0 := p16) dX12_leaf_44 (xc_X12_setInt _ _) xcl12 xw_1820 xw_1822 xs_84 hb rfl (Nat.le_of_ble_eq_true rfl) rfl (Nat.le_of_ble_eq_true rfl) (fun Q1 hq => m_X12_setInt (d := d + 0) ep16 (fun g hg => by subst hg; exact hq)) ?_
      refine xm_goto 84 dX12_leaf_47 (by decide) ?_
      exact xm_sub [1] rfl (L_X12_leaf_j84 p16 l0 hf hR)
  · refine xm_iload_n dX12_leaf_9 rfl ?_
    cases hf
    exact xm_iret dX12_leaf_10 rfl (hR _ rfl)
-- RankwiseModel.choose(II)I
def f_X12_choose_j109 (σ : xM) (l0 : Nat) (l1 : Int32) (s0 : Int32) (s1 : Int32) (s2 : Nat) (s3 : Nat) : Option (Int32 × xM) :=
  (if xk σ s2 12 = true then (f_X12_child σ s2 s1 s0).bind (fun p9 => (gR σ l0 12 50).bind (fun x10 => (aI σ x10 14 l1).bind (fun x11 => (if xk σ s3 12 = true then (f_X12_enter σ s3 p9 x11).bind (fun p12 => some ((0 : Int32), p12)) else none)))) else none)
set_option maxHeartbeats 4000000 in
set_option maxRecDepth 20000 in
theorem L_X12_choose_j109 {G : xG} {π : Nat → Nat} {d C Z : Nat} {Q : xQ} (σ : xM) (l0 : Nat) (l1 : Int32) (s0 : Int32) (s1 : Int32) (s2 : Nat) (s3 : Nat) {x : (Int32 × xM)} (hf : f_X12_choose_j109 σ l0 l1 s0 s1 s2 s3 = some x) (hR : ∀ g, x = g → Q (.inl (some (.int g.1))) (g.2) π) : xMach G π J_X12_choose (d + 1) C Z 109 [(0, .ref l0), (1, .int l1)] [.int s0, .int s1, .ref s2, .ref s3] σ Q := by
  unfold f_X12_choose_j109 at hf
  refine xb_if hf (fun hb hf => ?_) (fun _ q => nomatch q)
  obtain ⟨p9, ep9, hf⟩ := xbind hf
  refine xb_callV (As := [.int s1, .int s0]) (v0 := (some (.int p9))) (τ0 := σ) dX12_choose_109 (xc_X12_child _ _) xcl12 xw_2303 xw_2305 xs_123 hb rfl (Nat.le_of_ble_eq_true rfl) rfl (Nat.le_of_ble_eq_true rfl) (fun Q1 hq => m_X12_child (d := d + 0) ep9 (fun g hg => by subst hg; exact hq)) ?_
  refine xm_aload_n dX12_choose_112 rfl ?_
  refine xb_getR (a := l0) (c := 12) (k := 50) dX12_choose_113 xcl12 (by decide) xw_1887 rfl hf (fun x10 ex10 hf => ?_)
  refine xm_iload_n dX12_choose_116 rfl ?_
  refine xb_iald dX12_choose_117 hf (fun x11 ex11 hf => ?_)
  refine xb_if hf (fun hb hf => ?_) (fun _ q => nomatch q)
  obtain ⟨p12, ep12, hf⟩ := xbind hf
  refine xb_callV (As := [.int p9, .int x11]) (v0 := none) (τ0 := p12) dX12_choose_118 (xc_X12_enter _ _) xcl12 xw_2363 xw_2365 xs_135 hb rfl (Nat.le_of_ble_eq_true rfl) rfl (Nat.le_of_ble_eq_true rfl) (fun Q1 hq => m_X12_enter (d := d + 0) ep12 (fun g hg => by subst hg; exact hq)) ?_
  refine xm_iconst dX12_choose_121 (v := 0) (by decide) ?_
  cases hf
  exact xm_iret dX12_choose_122 rfl (hR _ rfl)
def f_X12_choose_j76 (σ : xM) (l0 : Nat) (l1 : Int32) (l2 : Int32) (s0 : Int32) : Option (Int32 × xM) :=
  (gI σ l0 12 61).bind (fun x5 => (sI σ l0 12 61 (x5 - (1 : Int32))).bind (fun σ6 => (gI σ6 l0 12 56).bind (fun x7 => (sI σ6 l0 12 56 (x7 - (1 : Int32))).bind (fun σ8 => (if s0 = (0 : Int32) then f_X12_choose_j109 σ8 l0 l1 (2 : Int32) l2 l0 l0 else f_X12_choose_j109 σ8 l0 l1 (1 : Int32) l2 l0 l0)))))
set_option maxHeartbeats 4000000 in
set_option maxRecDepth 20000 in
theorem L_X12_choose_j76 {G : xG} {π : Nat → Nat} {d C Z : Nat} {Q : xQ} (σ : xM) (l0 : Nat) (l1 : Int32) (l2 : Int32) (s0 : Int32) {x : (Int32 × xM)} (hf : f_X12_choose_j76 σ l0 l1 l2 s0 = some x) (hR : ∀ g, x = g → Q (.inl (some (.int g.1))) (g.2) π) : xMach G π J_X12_choose (d + 1) C Z 76 [(0, .ref l0), (1, .int l1), (2, .int l2)] [.int s0] σ Q := by
  unfold f_X12_choose_j76 at hf
  refine xm_istore_n dX12_choose_76 (by decide) (xm_stL (L' := [(3, .int s0), (0, .ref l0), (1, .int l1), (2, .int l2)]) rfl ?_)
  refine xm_aload_n dX12_choose_77 rfl ?_
  refine xm_dup dX12_choose_78 rfl ?_
  refine xb_getI (a := l0) (c := 12) (k := 61) dX12_choose_79 xcl12 (by decide) xw_1898 rfl hf (fun x5 ex5 hf => ?_)
  refine xm_iconst dX12_choose_82 (v := 1) (by decide) ?_
  refine xm_isub dX12_choose_83 ?_
  refine xb_putI (a := l0) (c := 12) (k := 61) dX12_choose_84 xcl12 (by decide) xw_1898 rfl rfl hf (fun σ6 eσ6 hf => ?_)
  refine xm_aload_n dX12_choose_87 rfl ?_
  refine xm_dup dX12_choose_88 rfl ?_
  refine xb_getI (a := l0) (c := 12) (k := 56) dX12_choose_89 xcl12 (by decide) xw_1893 rfl hf (fun x7 ex7 hf => ?_)
  refine xm_iconst dX12_choose_92 (v := 1) (by decide) ?_
  refine xm_isub dX12_choose_93 ?_
  refine xb_putI (a := l0) (c := 12) (k := 56) dX12_choose_94 xcl12 (by decide) xw_1893 rfl rfl hf (fun σ8 eσ8 hf => ?_)
  refine xm_aload_n dX12_choose_97 rfl ?_
  refine xm_aload_n dX12_choose_98 rfl ?_
  refine xm_iload_n dX12_choose_99 rfl ?_
  refine xm_iload_n dX12_choose_100 rfl ?_
  refine xb_if_eq 108 dX12_choose_101 (by decide) hf (fun c hf => ?_) (fun c hf => ?_)
  · refine xm_iconst dX12_choose_108 (v := 2) (by decide) ?_
    exact xm_sub [1, 2] rfl (L_X12_choose_j109 σ8 l0 l1 (2 : Int32) l2 l0 l0 hf hR)
  · refine xm_iconst dX12_choose_104 (v := 1) (by decide) ?_
    refine xm_goto 109 dX12_choose_105 (by decide) ?_
    exact xm_sub [1, 2] rfl (L_X12_choose_j109 σ8 l0 l1 (1 : Int32) l2 l0 l0 hf hR)
def f_X12_choose_j37 (σ : xM) (s0 : Int32) : Option (Int32 × xM) :=
  some (s0, σ)
set_option maxHeartbeats 4000000 in
set_option maxRecDepth 20000 in
theorem L_X12_choose_j37 {G : xG} {π : Nat → Nat} {d C Z : Nat} {Q : xQ} (σ : xM) (s0 : Int32) {x : (Int32 × xM)} (hf : f_X12_choose_j37 σ s0 = some x) (hR : ∀ g, x = g → Q (.inl (some (.int g.1))) (g.2) π) : xMach G π J_X12_choose (d + 1) C Z 37 [] [.int s0] σ Q := by
  unfold f_X12_choose_j37 at hf
  cases hf
  exact xm_iret dX12_choose_37 rfl (hR _ rfl)
def f_X12_choose_j28 (σ : xM) (l3 : Int32) : Option (Int32 × xM) :=
  (if l3 ≤ (0 : Int32) then f_X12_choose_j37 σ (5 : Int32) else f_X12_choose_j37 σ l3)
set_option maxHeartbeats 4000000 in
set_option maxRecDepth 20000 in
theorem L_X12_choose_j28 {G : xG} {π : Nat → Nat} {d C Z : Nat} {Q : xQ} (σ : xM) (l3 : Int32) {x : (Int32 × xM)} (hf : f_X12_choose_j28 σ l3 = some x) (hR : ∀ g, x = g → Q (.inl (some (.int g.1))) (g.2) π) : xMach G π J_X12_choose (d + 1) C Z 28 [(3, .int l3)] [] σ Q := by
  unfold f_X12_choose_j28 at hf
  refine xm_iload_n dX12_choose_28 rfl ?_
  refine xb_if_le 36 dX12_choose_29 (by decide) hf (fun c hf => ?_) (fun c hf => ?_)
  · refine xm_iconst dX12_choose_36 (v := 5) (by decide) ?_
    exact xm_sub [] rfl (L_X12_choose_j37 σ (5 : Int32) hf hR)
  · refine xm_iload_n dX12_choose_32 rfl ?_
    refine xm_goto 37 dX12_choose_33 (by decide) ?_
    exact xm_sub [] rfl (L_X12_choose_j37 σ l3 hf hR)
def f_X12_choose (σ : xM) (l0 : Nat) (l1 : Int32) (l2 : Int32) : Option (Int32 × xM) :=
  (gR σ l0 12 49).bind (fun x1 => (aI σ x1 14 l1).bind (fun x2 => (if x2 = (0 : Int32) then (if xk σ l0 12 = true then (f_X12_count σ l0).bind (fun p13 => (if (0 : Int32) < p13.1 then f_X12_choose_j28 p13.2 p13.1 else (gR p13.2 l0 12 7).bind (fun x14 => (aI p13.2 x14 14 l2).bind (fun x15 => (if x15 = (3 : Int32) then (gR p13.2 l0 12 49).bind (fun x16 => (wI p13.2 x16 l1 (1 : Int32)).bind (fun σ17 => (gR σ17 l0 12 50).bind (fun x18 => (aI σ17 x18 14 l1).bind (fun x19 => (if xk σ17 l0 12 = true then (f_X12_enter σ17 l0 (l2 + (1 : Int32)) x19).bind (fun p20 => some ((0 : Int32), p20)) else none))))) else f_X12_choose_j28 p13.2 p13.1))))) else none) else (if xk σ l0 12 = true then (f_X12_top σ l0).bind (fun p3 => (if xk σ l0 12 = true then (f_X12_sign σ l0 p3).bind (fun p4 => (if p4 = (0 : Int32) then f_X12_choose_j76 σ l0 l1 l2 (0 : Int32) else f_X12_choose_j76 σ l0 l1 l2 (1 : Int32))) else none)) else none))))
set_option maxHeartbeats 4000000 in
set_option maxRecDepth 20000 in
theorem m_X12_choose {G : xG} {π : Nat → Nat} {d C Z : Nat} {Q : xQ} {σ : xM} {l0 : Nat} {l1 : Int32} {l2 : Int32} {x : (Int32 × xM)} (hf : f_X12_choose σ l0 l1 l2 = some x) (hR : ∀ g, x = g → Q (.inl (some (.int g.1))) (g.2) π) : xMach G π J_X12_choose (d + 1) C Z 0 (lv_args 0 [.ref l0, .int l1, .int l2]) [] σ Q := by
  unfold f_X12_choose at hf
  refine xm_stL (L' := [(0, .ref l0), (1, .int l1), (2, .int l2)]) rfl ?_
  refine xm_aload_n dX12_choose_0 rfl ?_
  refine xb_getR (a := l0) (c := 12) (k := 49) dX12_choose_1 xcl12 (by decide) xw_1886 rfl hf (fun x1 ex1 hf => ?_)
  refine xm_iload_n dX12_choose_4 rfl ?_
  refine xb_iald dX12_choose_5 hf (fun x2 ex2 hf => ?_)
  refine xb_if_ne 60 dX12_choose_6 (by decide) hf (fun c hf => ?_) (fun c hf => ?_)
  · refine xm_aload_n dX12_choose_60 rfl ?_
    refine xm_aload_n dX12_choose_61 rfl ?_
    refine xb_if hf (fun hb hf => ?_) (fun _ q => nomatch q)
    obtain ⟨p3, ep3, hf⟩ := xbind hf
    refine xb_callV (As := []) (v0 := (some (.int p3))) (τ0 := σ) dX12_choose_62 (xc_X12_top _ _) xcl12 xw_2383 xw_2385 xs_140 hb rfl (Nat.le_of_ble_eq_true rfl) rfl (Nat.le_of_ble_eq_true rfl) (fun Q1 hq => m_X12_top (d := d + 0) ep3 (fun g hg => by subst hg; exact hq)) ?_
    refine xb_if hf (fun hb hf => ?_) (fun _ q => nomatch q)
    obtain ⟨p4, ep4, hf⟩ := xbind hf
    refine xb_callV (As := [.int p3]) (v0 := (some (.int p4))) (τ0 := σ) dX12_choose_65 (xc_X12_sign _ _) xcl12 xw_2387 xw_2389 xs_141 hb rfl (Nat.le_of_ble_eq_true rfl) rfl (Nat.le_of_ble_eq_true rfl) (fun Q1 hq => m_X12_sign (d := d + 0) ep4 (fun g hg => by subst hg; exact hq)) ?_
    refine xb_if_eq 75 dX12_choose_68 (by decide) hf (fun c hf => ?_) (fun c hf => ?_)
    · refine xm_iconst dX12_choose_75 (v := 0) (by decide) ?_
      exact xm_sub [0, 1, 2] rfl (L_X12_choose_j76 σ l0 l1 l2 (0 : Int32) hf hR)
    · refine xm_iconst dX12_choose_71 (v := 1) (by decide) ?_
      refine xm_goto 76 dX12_choose_72 (by decide) ?_
      exact xm_sub [0, 1, 2] rfl (L_X12_choose_j76 σ l0 l1 l2 (1 : Int32) hf hR)
  · refine xm_aload_n dX12_choose_9 rfl ?_
    refine xb_if hf (fun hb hf => ?_) (fun _ q => nomatch q)
    obtain ⟨p13, ep13, hf⟩ := xbind hf
    refine xb_callV (As := []) (v0 := (some (.int p13.1))) (τ0 := p13.2) dX12_choose_10 (xc_X12_count _ _) xcl12 xw_2371 xw_2373 xs_137 hb rfl (Nat.le_of_ble_eq_true rfl) rfl (Nat.le_of_ble_eq_true rfl) (fun Q1 hq => m_X12_count (d := d + 0) ep13 (fun g hg => by subst hg; exact hq)) ?_
    refine xm_istore_n dX12_choose_13 (by decide) (xm_stL (L' := [(3, .int p13.1), (0, .ref l0), (1, .int l1), (2, .int l2)]) rfl ?_)
    refine xm_iload_n dX12_choose_14 rfl ?_
    refine xb_if_gt 28 dX12_choose_15 (by decide) hf (fun c hf => ?_) (fun c hf => ?_)
    · exact xm_sub [0] rfl (L_X12_choose_j28 p13.2 p13.1 hf hR)
    · refine xm_aload_n dX12_choose_18 rfl ?_
      refine xb_getR (a := l0) (c := 12) (k := 7) dX12_choose_19 xcl12 (by decide) xw_1844 rfl hf (fun x14 ex14 hf => ?_)
      refine xm_iload_n dX12_choose_22 rfl ?_
      refine xb_iald dX12_choose_23 hf (fun x15 ex15 hf => ?_)
      refine xm_iconst dX12_choose_24 (v := 3) (by decide) ?_
      refine xb_icmp_eq 38 dX12_choose_25 (by decide) hf (fun c hf => ?_) (fun c hf => ?_)
      · refine xm_aload_n dX12_choose_38 rfl ?_
        refine xb_getR (a := l0) (c := 12) (k := 49) dX12_choose_39 xcl12 (by decide) xw_1886 rfl hf (fun x16 ex16 hf => ?_)
        refine xm_iload_n dX12_choose_42 rfl ?_
        refine xm_iconst dX12_choose_43 (v := 1) (by decide) ?_
        refine xb_iast dX12_choose_44 hf (fun σ17 eσ17 hf => ?_)
        refine xm_aload_n dX12_choose_45 rfl ?_
        refine xm_iload_n dX12_choose_46 rfl ?_
        refine xm_iconst dX12_choose_47 (v := 1) (by decide) ?_
        refine xm_iadd dX12_choose_48 ?_
        refine xm_aload_n dX12_choose_49 rfl ?_
        refine xb_getR (a := l0) (c := 12) (k := 50) dX12_choose_50 xcl12 (by decide) xw_1887 rfl hf (fun x18 ex18 hf => ?_)
        refine xm_iload_n dX12_choose_53 rfl ?_
        refine xb_iald dX12_choose_54 hf (fun x19 ex19 hf => ?_)
        refine xb_if hf (fun hb hf => ?_) (fun _ q => nomatch q)
        obtain ⟨p20, ep20, hf⟩ := xbind hf
        refine xb_callV (As := [.int (l2 + (1 : Int32)), .int x19]) (v0 := none) (τ0 := p20) dX12_choose_55 (xc_X12_enter _ _) xcl12 xw_2363 xw_2365 xs_135 hb rfl (Nat.le_of_ble_eq_true rfl) rfl (Nat.le_of_ble_eq_true rfl) (fun Q1 hq => m_X12_enter (d := d + 0) ep20 (fun g hg => by subst hg; exact hq)) ?_
        refine xm_iconst dX12_choose_58 (v := 0) (by decide) ?_
        cases hf
        exact xm_iret dX12_choose_59 rfl (hR _ rfl)
      · exact xm_sub [0] rfl (L_X12_choose_j28 p13.2 p13.1 hf hR)
-- RankwiseModel.beginSum(II)I
def f_X12_beginSum_j30 (σ : xM)  : Option (Int32 × xM) :=
  some ((2 : Int32), σ)
set_option maxHeartbeats 4000000 in
set_option maxRecDepth 20000 in
theorem L_X12_beginSum_j30 {G : xG} {π : Nat → Nat} {d C Z : Nat} {Q : xQ} (σ : xM)  {x : (Int32 × xM)} (hf : f_X12_beginSum_j30 σ = some x) (hR : ∀ g, x = g → Q (.inl (some (.int g.1))) (g.2) π) : xMach G π J_X12_beginSum (d + 6) C Z 30 [] [] σ Q := by
  unfold f_X12_beginSum_j30 at hf
  refine xm_iconst dX12_beginSum_30 (v := 2) (by decide) ?_
  cases hf
  exact xm_iret dX12_beginSum_31 rfl (hR _ rfl)
def f_X12_beginSum_j105 (σ : xM) (l0 : Nat) (l1 : Int32) (l2 : Int32) (l3 : Int32) (s0 : Int32) : Option (Int32 × xM) :=
  (if s0 ≤ (30 : Int32) then (gR σ l0 12 51).bind (fun x8 => (gI σ l0 12 60).bind (fun x9 => (wI σ x8 l1 x9).bind (fun σ10 => (gR σ10 l0 12 57).bind (fun x11 => (gI σ10 l0 12 60).bind (fun x12 => (gR σ10 l0 12 5).bind (fun x13 => (aI σ10 x13 14 (l2 + (1 : Int32))).bind (fun x14 => (wI σ10 x11 x12 x14).bind (fun σ15 => (gR σ15 l0 12 58).bind (fun x16 => (gI σ15 l0 12 60).bind (fun x17 => (wI σ15 x16 x17 (0 : Int32)).bind (fun σ18 => (gR σ18 l0 12 59).bind (fun x19 => (gI σ18 l0 12 60).bind (fun x20 => (gR σ18 l0 12 50).bind (fun x21 => (aI σ18 x21 14 l1).bind (fun x22 => (wI σ18 x19 x20 x22).bind (fun σ23 => (gI σ23 l0 12 60).bind (fun x24 => (if xk σ23 l0 12 = true then (f_X12_copyValue σ23 l0 ((1000 : Int32) + ((3 : Int32) * x24)) l3).bind (fun p25 => (gI p25 l0 12 60).bind (fun x26 => (sI p25 l0 12 60 (x26 + (1 : Int32))).bind (fun σ27 => (gI σ27 l0 12 61).bind (fun x28 => (sI σ27 l0 12 61 (x28 - (1 : Int32))).bind (fun σ29 => (if xk σ29 l0 12 = true then (f_X12_top σ29 l0).bind (fun p30 => (if xk σ29 l0 12 = true then (f_X12_setInt σ29 l0 p30 (0 : Int32)).bind (fun p31 => (gR p31 l0 12 55).bind (fun x32 => (wI p31 x32 l1 s0).bind (fun σ33 => (gR σ33 l0 12 49).bind (fun x34 => (wI σ33 x34 l1 (3 : Int32)).bind (fun σ35 => (if xk σ35 l0 12 = true then (f_X12_child σ35 l0 l2 (3 : Int32)).bind (fun p36 => (gR σ35 l0 12 51).bind (fun x37 => (aI σ35 x37 14 l1).bind (fun x38 => (if xk σ35 l0 12 = true then (f_X12_enter σ35 l0 p36 x38).bind (fun p39 => some ((0 : Int32), p39)) else none)))) else none)))))) else none)) else none)))))) else none)))))))))))))))))) else some ((3 : Int32), σ))
set_option maxHeartbeats 4000000 in
set_option maxRecDepth 20000 in
theorem L_X12_beginSum_j105 {G : xG} {π : Nat → Nat} {d C Z : Nat} {Q : xQ} (σ : xM) (l0 : Nat) (l1 : Int32) (l2 : Int32) (l3 : Int32) (s0 : Int32) {x : (Int32 × xM)} (hf : f_X12_beginSum_j105 σ l0 l1 l2 l3 s0 = some x) (hR : ∀ g, x = g → Q (.inl (some (.int g.1))) (g.2) π) : xMach G π J_X12_beginSum (d + 6) C Z 105 [(0, .ref l0), (1, .int l1), (2, .int l2), (3, .int l3)] [.int s0] σ Q := by
  unfold f_X12_beginSum_j105 at hf
  refine xm_istore dX12_beginSum_105 (by decide) (xm_stL (L' := [(6, .int s0), (0, .ref l0), (1, .int l1), (2, .int l2), (3, .int l3)]) rfl ?_)
  refine xm_iload dX12_beginSum_107 rfl ?_
  refine xm_bipush dX12_beginSum_109 (v := 30) (by decide) ?_
  refine xb_icmp_le 116 dX12_beginSum_111 (by decide) hf (fun c hf => ?_) (fun c hf => ?_)
  · refine xm_aload_n dX12_beginSum_116 rfl ?_
    refine xb_getR (a := l0) (c := 12) (k := 51) dX12_beginSum_117 xcl12 (by decide) xw_1888 rfl hf (fun x8 ex8 hf => ?_)
    refine xm_iload_n dX12_beginSum_120 rfl ?_
    refine xm_aload_n dX12_beginSum_121 rfl ?_
    refine xb_getI (a := l0) (c := 12) (k := 60) dX12_beginSum_122 xcl12 (by decide) xw_1897 rfl hf (fun x9 ex9 hf => ?_)
    refine xb_iast dX12_beginSum_125 hf (fun σ10 eσ10 hf => ?_)
    refine xm_aload_n dX12_beginSum_126 rfl ?_
    refine xb_getR (a := l0) (c := 12) (k := 57) dX12_beginSum_127 xcl12 (by decide) xw_1894 rfl hf (fun x11 ex11 hf => ?_)
    refine xm_aload_n dX12_beginSum_130 rfl ?_
    refine xb_getI (a := l0) (c := 12) (k := 60) dX12_beginSum_131 xcl12 (by decide) xw_1897 rfl hf (fun x12 ex12 hf => ?_)
    refine xm_aload_n dX12_beginSum_134 rfl ?_
    refine xb_getR (a := l0) (c := 12) (k := 5) dX12_beginSum_135 xcl12 (by decide) xw_1842 rfl hf (fun x13 ex13 hf => ?_)
    refine xm_iload_n dX12_beginSum_138 rfl ?_
    refine xm_iconst dX12_beginSum_139 (v := 1) (by decide) ?_
    refine xm_iadd dX12_beginSum_140 ?_
    refine xb_iald dX12_beginSum_141 hf (fun x14 ex14 hf => ?_)
    refine xb_iast dX12_beginSum_142 hf (fun σ15 eσ15 hf => ?_)
    refine xm_aload_n dX12_beginSum_143 rfl ?_
    refine xb_getR (a := l0) (c := 12) (k := 58) dX12_beginSum_144 xcl12 (by decide) xw_1895 rfl hf (fun x16 ex16 hf => ?_)
    refine xm_aload_n dX12_beginSum_147 rfl ?_
    refine xb_getI (a := l0) (c := 12) (k := 60) dX12_beginSum_148 xcl12 (by decide) xw_1897 rfl hf (fun x17 ex17 hf => ?_)
    refine xm_iconst dX12_beginSum_151 (v := 0) (by decide) ?_
    refine xb_iast dX12_beginSum_152 hf (fun σ18 eσ18 hf => ?_)
    refine xm_aload_n dX12_beginSum_153 rfl ?_
    refine xb_getR (a := l0) (c := 12) (k := 59) dX12_beginSum_154 xcl12 (by decide) xw_1896 rfl hf (fun x19 ex19 hf => ?_)
    refine xm_aload_n dX12_beginSum_157 rfl ?_
    refine xb_getI (a := l0) (c := 12) (k := 60) dX12_beginSum_158 xcl12 (by decide) xw_1897 rfl hf (fun x20 ex20 hf => ?_)
    refine xm_aload_n dX12_beginSum_161 rfl ?_
    refine xb_getR (a := l0) (c := 12) (k := 50) dX12_beginSum_162 xcl12 (by decide) xw_1887 rfl hf (fun x21 ex21 hf => ?_)
    refine xm_iload_n dX12_beginSum_165 rfl ?_
    refine xb_iald dX12_beginSum_166 hf (fun x22 ex22 hf => ?_)
    refine xb_iast dX12_beginSum_167 hf (fun σ23 eσ23 hf => ?_)
    refine xm_aload_n dX12_beginSum_168 rfl ?_
    refine xm_sipush dX12_beginSum_169 (v := 1000) (by decide) ?_
    refine xm_iconst dX12_beginSum_172 (v := 3) (by decide) ?_
    refine xm_aload_n dX12_beginSum_173 rfl ?_
    refine xb_getI (a := l0) (c := 12) (k := 60) dX12_beginSum_174 xcl12 (by decide) xw_1897 rfl hf (fun x24 ex24 hf => ?_)
    refine xm_imul dX12_beginSum_177 ?_
    refine xm_iadd dX12_beginSum_178 ?_
    refine xm_iload_n dX12_beginSum_179 rfl ?_
    refine xb_if hf (fun hb hf => ?_) (fun _ q => nomatch q)
    obtain ⟨p25, ep25, hf⟩ := xbind hf
    refine xb_callV (As := [.int ((1000 : Int32) + ((3 : Int32) * x24)), .int l3]) (v0 := none) (τ0 := p25) dX12_beginSum_180 (xc_X12_copyValue _ _) xcl12 xw_2100 xw_2102 xs_88 hb rfl (Nat.le_of_ble_eq_true rfl) rfl (Nat.le_of_ble_eq_true rfl) (fun Q1 hq => m_X12_copyValue (d := d + 5) ep25 (fun g hg => by subst hg; exact hq)) ?_
    refine xm_aload_n dX12_beginSum_183 rfl ?_
    refine xm_dup dX12_beginSum_184 rfl ?_
    refine xb_getI (a := l0) (c := 12) (k := 60) dX12_beginSum_185 xcl12 (by decide) xw_1897 rfl hf (fun x26 ex26 hf => ?_)
    refine xm_iconst dX12_beginSum_188 (v := 1) (by decide) ?_
    refine xm_iadd dX12_beginSum_189 ?_
    refine xb_putI (a := l0) (c := 12) (k := 60) dX12_beginSum_190 xcl12 (by decide) xw_1897 rfl rfl hf (fun σ27 eσ27 hf => ?_)
    refine xm_aload_n dX12_beginSum_193 rfl ?_
    refine xm_dup dX12_beginSum_194 rfl ?_
    refine xb_getI (a := l0) (c := 12) (k := 61) dX12_beginSum_195 xcl12 (by decide) xw_1898 rfl hf (fun x28 ex28 hf => ?_)
    refine xm_iconst dX12_beginSum_198 (v := 1) (by decide) ?_
    refine xm_isub dX12_beginSum_199 ?_
    refine xb_putI (a := l0) (c := 12) (k := 61) dX12_beginSum_200 xcl12 (by decide) xw_1898 rfl rfl hf (fun σ29 eσ29 hf => ?_)
    refine xm_aload_n dX12_beginSum_203 rfl ?_
    refine xm_aload_n dX12_beginSum_204 rfl ?_
    refine xb_if hf (fun hb hf => ?_) (fun _ q => nomatch q)
    obtain ⟨p30, ep30, hf⟩ := xbind hf
    refine xb_callV (As := []) (v0 := (some (.int p30))) (τ0 := σ29) dX12_beginSum_205 (xc_X12_top _ _) xcl12 xw_2383 xw_2385 xs_140 hb rfl (Nat.le_of_ble_eq_true rfl) rfl (Nat.le_of_ble_eq_true rfl) (fun Q1 hq => m_X12_top (d := d + 5) ep30 (fun g hg => by subst hg; exact hq)) ?_
    refine xm_iconst dX12_beginSum_208 (v := 0) (by decide) ?_
    refine xb_if hf (fun hb hf => ?_) (fun _ q => nomatch q)
    obtain ⟨p31, ep31, hf⟩ := xbind hf
    refine xb_callV (As := [.int p30, .int (0 : Int32)]) (v0 := none) (τ0 := p31) dX12_beginSum_209 (xc_X12_setInt _ _) xcl12 xw_1820 xw_1822 xs_84 hb rfl (Nat.le_of_ble_eq_true rfl) rfl (Nat.le_of_ble_eq_true rfl) (fun Q1 hq => m_X12_setInt (d := d + 3) ep31 (fun g hg => by subst hg; exact hq)) ?_
    refine xm_aload_n dX12_beginSum_212 rfl ?_
    refine xb_getR (a := l0) (c := 12) (k := 55) dX12_beginSum_213 xcl12 (by decide) xw_1892 rfl hf (fun x32 ex32 hf => ?_)
    refine xm_iload_n dX12_beginSum_216 rfl ?_
    refine xm_iload dX12_beginSum_217 rfl ?_
    refine xb_iast dX12_beginSum_219 hf (fun σ33 eσ33 hf => ?_)
    refine xm_aload_n dX12_beginSum_220 rfl ?_
    refine xb_getR (a := l0) (c := 12) (k := 49) dX12_beginSum_221 xcl12 (by decide) xw_1886 rfl hf (fun x34 ex34 hf => ?_)
    refine xm_iload_n dX12_beginSum_224 rfl ?_
    refine xm_iconst dX12_beginSum_225 (v := 3) (by decide) ?_
    refine xb_iast dX12_beginSum_226 hf (fun σ35 eσ35 hf => ?_)
    refine xm_aload_n dX12_beginSum_227 rfl ?_
    refine xm_aload_n dX12_beginSum_228 rfl ?_
    refine xm_iload_n dX12_beginSum_229 rfl ?_
    refine xm_iconst dX12_beginSum_230 (v := 3) (by decide) ?_
    refine xb_if hf (fun hb hf => ?_) (fun _ q => nomatch q)
    obtain ⟨p36, ep36, hf⟩ := xbind hf
    refine xb_callV (As := [.int l2, .int (3 : Int32)]) (v0 := (some (.int p36))) (τ0 := σ35) dX12_beginSum_231 (xc_X12_child _ _) xcl12 xw_2303 xw_2305 xs_123 hb rfl (Nat.le_of_ble_eq_true rfl) rfl (Nat.le_of_ble_eq_true rfl) (fun Q1 hq => m_X12_child (d := d + 5) ep36 (fun g hg => by subst hg; exact hq)) ?_
    refine xm_aload_n dX12_beginSum_234 rfl ?_
    refine xb_getR (a := l0) (c := 12) (k := 51) dX12_beginSum_235 xcl12 (by decide) xw_1888 rfl hf (fun x37 ex37 hf => ?_)
    refine xm_iload_n dX12_beginSum_238 rfl ?_
    refine xb_iald dX12_beginSum_239 hf (fun x38 ex38 hf => ?_)
    refine xb_if hf (fun hb hf => ?_) (fun _ q => nomatch q)
    obtain ⟨p39, ep39, hf⟩ := xbind hf
    refine xb_callV (As := [.int p36, .int x38]) (v0 := none) (τ0 := p39) dX12_beginSum_240 (xc_X12_enter _ _) xcl12 xw_2363 xw_2365 xs_135 hb rfl (Nat.le_of_ble_eq_true rfl) rfl (Nat.le_of_ble_eq_true rfl) (fun Q1 hq => m_X12_enter (d := d + 5) ep39 (fun g hg => by subst hg; exact hq)) ?_
    refine xm_iconst dX12_beginSum_243 (v := 0) (by decide) ?_
    cases hf
    exact xm_iret dX12_beginSum_244 rfl (hR _ rfl)
  · refine xm_iconst dX12_beginSum_114 (v := 3) (by decide) ?_
    cases hf
    exact xm_iret dX12_beginSum_115 rfl (hR _ rfl)
def f_X12_beginSum (σ : xM) (l0 : Nat) (l1 : Int32) (l2 : Int32) : Option (Int32 × xM) :=
  (if xk σ l0 12 = true then (f_X12_top σ l0).bind (fun p1 => xlet (p1 - (1 : Int32)) (fun v2 => (if xk σ l0 12 = true then (f_X12_top σ l0).bind (fun p3 => (if xk σ l0 12 = true then (f_X12_isWhole σ l0 v2).bind (fun p4 => (if p4 = (0 : Int32) then f_X12_beginSum_j30 σ else (if xk σ l0 12 = true then (f_X12_isWhole σ l0 p3).bind (fun p5 => (if p5 = (0 : Int32) then f_X12_beginSum_j30 σ else (if xk σ l0 12 = true then (f_X12_compareValues σ l0 v2 p3).bind (fun p6 => (if p6.1 ≤ (0 : Int32) then (if xk p6.2 l0 12 = true then (f_X12_addValues p6.2 l0 (3600 : Int32) p3 v2 (-1 : Int32)).bind (fun p7 => (if p7.1 = (0 : Int32) then f_X12_beginSum_j105 p7.2 l0 l1 l2 v2 (31 : Int32) else (if xk p7.2 l0 12 = true then (f_X12_small p7.2 l0 (3600 : Int32)).bind (fun p40 => f_X12_beginSum_j105 p40.2 l0 l1 l2 v2 (p40.1 + (1 : Int32))) else none))) else none) else (gI p6.2 l0 12 61).bind (fun x41 => (sI p6.2 l0 12 61 (x41 - (1 : Int32))).bind (fun σ42 => (if xk σ42 l0 12 = true then (f_X12_top σ42 l0).bind (fun p43 => (if xk σ42 l0 12 = true then (f_X12_setInt σ42 l0 p43 (0 : Int32)).bind (fun p44 => (gI p44 l0 12 56).bind (fun x45 => (sI p44 l0 12 56 (x45 - (1 : Int32))).bind (fun σ46 => some ((0 : Int32), σ46)))) else none)) else none))))) else none))) else none))) else none)) else none))) else none)
set_option maxHeartbeats 4000000 in
set_option maxRecDepth 20000 in
theorem m_X12_beginSum {G : xG} {π : Nat → Nat} {d C Z : Nat} {Q : xQ} {σ : xM} {l0 : Nat} {l1 : Int32} {l2 : Int32} {x : (Int32 × xM)} (hf : f_X12_beginSum σ l0 l1 l2 = some x) (hR : ∀ g, x = g → Q (.inl (some (.int g.1))) (g.2) π) : xMach G π J_X12_beginSum (d + 6) C Z 0 (lv_args 0 [.ref l0, .int l1, .int l2]) [] σ Q := by
  unfold f_X12_beginSum at hf
  refine xm_stL (L' := [(0, .ref l0), (1, .int l1), (2, .int l2)]) rfl ?_
  refine xm_aload_n dX12_beginSum_0 rfl ?_
  refine xb_if hf (fun hb hf => ?_) (fun _ q => nomatch q)
  obtain ⟨p1, ep1, hf⟩ := xbind hf
  refine xb_callV (As := []) (v0 := (some (.int p1))) (τ0 := σ) dX12_beginSum_1 (xc_X12_top _ _) xcl12 xw_2383 xw_2385 xs_140 hb rfl (Nat.le_of_ble_eq_true rfl) rfl (Nat.le_of_ble_eq_true rfl) (fun Q1 hq => m_X12_top (d := d + 5) ep1 (fun g hg => by subst hg; exact hq)) ?_
  refine xm_iconst dX12_beginSum_4 (v := 1) (by decide) ?_
  refine xm_isub dX12_beginSum_5 ?_
  refine xb_topi hf (fun v2 ev2 hf => ?_)
  refine xm_istore_n dX12_beginSum_6 (by decide) (xm_stL (L' := [(3, .int v2), (0, .ref l0), (1, .int l1), (2, .int l2)]) rfl ?_)
  refine xm_aload_n dX12_beginSum_7 rfl ?_
  refine xb_if hf (fun hb hf => ?_) (fun _ q => nomatch q)
  obtain ⟨p3, ep3, hf⟩ := xbind hf
  refine xb_callV (As := []) (v0 := (some (.int p3))) (τ0 := σ) dX12_beginSum_8 (xc_X12_top _ _) xcl12 xw_2383 xw_2385 xs_140 hb rfl (Nat.le_of_ble_eq_true rfl) rfl (Nat.le_of_ble_eq_true rfl) (fun Q1 hq => m_X12_top (d := d + 5) ep3 (fun g hg => by subst hg; exact hq)) ?_
  refine xm_istore dX12_beginSum_11 (by decide) (xm_stL (L' := [(4, .int p3), (3, .int v2), (0, .ref l0), (1, .int l1), (2, .int l2)]) rfl ?_)
  refine xm_aload_n dX12_beginSum_13 rfl ?_
  refine xm_iload_n dX12_beginSum_14 rfl ?_
  refine xb_if hf (fun hb hf => ?_) (fun _ q => nomatch q)
  obtain ⟨p4, ep4, hf⟩ := xbind hf
  refine xb_callV (As := [.int v2]) (v0 := (some (.int p4))) (τ0 := σ) dX12_beginSum_15 (xc_X12_isWhole _ _) xcl12 xw_2476 xw_2478 xs_163 hb rfl (Nat.le_of_ble_eq_true rfl) rfl (Nat.le_of_ble_eq_true rfl) (fun Q1 hq => m_X12_isWhole (d := d + 5) ep4 (fun g hg => by subst hg; exact hq)) ?_
  refine xb_if_eq 30 dX12_beginSum_18 (by decide) hf (fun c hf => ?_) (fun c hf => ?_)
  · exact xm_sub [] rfl (L_X12_beginSum_j30 σ hf hR)
  · refine xm_aload_n dX12_beginSum_21 rfl ?_
    refine xm_iload dX12_beginSum_22 rfl ?_
    refine xb_if hf (fun hb hf => ?_) (fun _ q => nomatch q)
    obtain ⟨p5, ep5, hf⟩ := xbind hf
    refine xb_callV (As := [.int p3]) (v0 := (some (.int p5))) (τ0 := σ) dX12_beginSum_24 (xc_X12_isWhole _ _) xcl12 xw_2476 xw_2478 xs_163 hb rfl (Nat.le_of_ble_eq_true rfl) rfl (Nat.le_of_ble_eq_true rfl) (fun Q1 hq => m_X12_isWhole (d := d + 5) ep5 (fun g hg => by subst hg; exact hq)) ?_
    refine xb_if_ne 32 dX12_beginSum_27 (by decide) hf (fun c hf => ?_) (fun c hf => ?_)
    · refine xm_aload_n dX12_beginSum_32 rfl ?_
      refine xm_iload_n dX12_beginSum_33 rfl ?_
      refine xm_iload dX12_beginSum_34 rfl ?_
      refine xb_if hf (fun hb hf => ?_) (fun _ q => nomatch q)
      obtain ⟨p6, ep6, hf⟩ := xbind hf
      refine xb_callV (As := [.int v2, .int p3]) (v0 := (some (.int p6.1))) (τ0 := p6.2) dX12_beginSum_36 (xc_X12_compareValues _ _) xcl12 xw_2480 xw_2482 xs_164 hb rfl (Nat.le_of_ble_eq_true rfl) rfl (Nat.le_of_ble_eq_true rfl) (fun Q1 hq => m_X12_compareValues (d := d + 2) ep6 (fun g hg => by subst hg; exact hq)) ?_
      refine xb_if_le 73 dX12_beginSum_39 (by decide) hf (fun c hf => ?_) (fun c hf => ?_)
      · refine xm_aload_n dX12_beginSum_73 rfl ?_
        refine xm_sipush dX12_beginSum_74 (v := 3600) (by decide) ?_
        refine xm_iload dX12_beginSum_77 rfl ?_
        refine xm_iload_n dX12_beginSum_79 rfl ?_
        refine xm_iconst dX12_beginSum_80 (v := -1) (by decide) ?_
        refine xb_if hf (fun hb hf => ?_) (fun _ q => nomatch q)
        obtain ⟨p7, ep7, hf⟩ := xbind hf
        refine xb_callV (As := [.int (3600 : Int32), .int p3, .int v2, .int (-1 : Int32)]) (v0 := (some (.int p7.1))) (τ0 := p7.2) dX12_beginSum_81 (xc_X12_addValues _ _) xcl12 xw_2399 xw_2401 xs_144 hb rfl (Nat.le_of_ble_eq_true rfl) rfl (Nat.le_of_ble_eq_true rfl) (fun Q1 hq => m_X12_addValues (d := d + 0) ep7 (fun g hg => by subst hg; exact hq)) ?_
        refine xm_istore dX12_beginSum_84 (by decide) (xm_stL (L' := [(5, .int p7.1), (4, .int p3), (3, .int v2), (0, .ref l0), (1, .int l1), (2, .int l2)]) rfl ?_)
        refine xm_iload dX12_beginSum_86 rfl ?_
        refine xb_if_eq 103 dX12_beginSum_88 (by decide) hf (fun c hf => ?_) (fun c hf => ?_)
        · refine xm_bipush dX12_beginSum_103 (v := 31) (by decide) ?_
          exact xm_sub [3, 4, 5, 2] rfl (L_X12_beginSum_j105 p7.2 l0 l1 l2 v2 (31 : Int32) hf hR)
        · refine xm_aload_n dX12_beginSum_91 rfl ?_
          refine xm_sipush dX12_beginSum_92 (v := 3600) (by decide) ?_
          refine xb_if hf (fun hb hf => ?_) (fun _ q => nomatch q)
          obtain ⟨p40, ep40, hf⟩ := xbind hf
          refine xb_callV (As := [.int (3600 : Int32)]) (v0 := (some (.int p40.1))) (τ0 := p40.2) dX12_beginSum_95 (xc_X12_small _ _) xcl12 xw_2484 xw_2486 xs_165 hb rfl (Nat.le_of_ble_eq_true rfl) rfl (Nat.le_of_ble_eq_true rfl) (fun Q1 hq => m_X12_small (d := d + 2) ep40 (fun g hg => by subst hg; exact hq)) ?_
          refine xm_iconst dX12_beginSum_98 (v := 1) (by decide) ?_
          refine xm_iadd dX12_beginSum_99 ?_
          refine xm_goto 105 dX12_beginSum_100 (by decide) ?_
          exact xm_sub [3, 4, 5, 2] rfl (L_X12_beginSum_j105 p40.2 l0 l1 l2 v2 (p40.1 + (1 : Int32)) hf hR)
      · refine xm_aload_n dX12_beginSum_42 rfl ?_
        refine xm_dup dX12_beginSum_43 rfl ?_
        refine xb_getI (a := l0) (c := 12) (k := 61) dX12_beginSum_44 xcl12 (by decide) xw_1898 rfl hf (fun x41 ex41 hf => ?_)
        refine xm_iconst dX12_beginSum_47 (v := 1) (by decide) ?_
        refine xm_isub dX12_beginSum_48 ?_
        refine xb_putI (a := l0) (c := 12) (k := 61) dX12_beginSum_49 xcl12 (by decide) xw_1898 rfl rfl hf (fun σ42 eσ42 hf => ?_)
        refine xm_aload_n dX12_beginSum_52 rfl ?_
        refine xm_aload_n dX12_beginSum_53 rfl ?_
        refine xb_if hf (fun hb hf => ?_) (fun _ q => nomatch q)
        obtain ⟨p43, ep43, hf⟩ := xbind hf
        refine xb_callV (As := []) (v0 := (some (.int p43))) (τ0 := σ42) dX12_beginSum_54 (xc_X12_top _ _) xcl12 xw_2383 xw_2385 xs_140 hb rfl (Nat.le_of_ble_eq_true rfl) rfl (Nat.le_of_ble_eq_true rfl) (fun Q1 hq => m_X12_top (d := d + 5) ep43 (fun g hg => by subst hg; exact hq)) ?_
        refine xm_iconst dX12_beginSum_57 (v := 0) (by decide) ?_
        refine xb_if hf (fun hb hf => ?_) (fun _ q => nomatch q)
        obtain ⟨p44, ep44, hf⟩ := xbind hf
        refine xb_callV (As := [.int p43, .int (0 : Int32)]) (v0 := none) (τ0 := p44) dX12_beginSum_58 (xc_X12_setInt _ _) xcl12 xw_1820 xw_1822 xs_84 hb rfl (Nat.le_of_ble_eq_true rfl) rfl (Nat.le_of_ble_eq_true rfl) (fun Q1 hq => m_X12_setInt (d := d + 3) ep44 (fun g hg => by subst hg; exact hq)) ?_
        refine xm_aload_n dX12_beginSum_61 rfl ?_
        refine xm_dup dX12_beginSum_62 rfl ?_
        refine xb_getI (a := l0) (c := 12) (k := 56) dX12_beginSum_63 xcl12 (by decide) xw_1893 rfl hf (fun x45 ex45 hf => ?_)
        refine xm_iconst dX12_beginSum_66 (v := 1) (by decide) ?_
        refine xm_isub dX12_beginSum_67 ?_
        refine xb_putI (a := l0) (c := 12) (k := 56) dX12_beginSum_68 xcl12 (by decide) xw_1893 rfl rfl hf (fun σ46 eσ46 hf => ?_)
        refine xm_iconst dX12_beginSum_71 (v := 0) (by decide) ?_
        cases hf
        exact xm_iret dX12_beginSum_72 rfl (hR _ rfl)
    · exact xm_sub [] rfl (L_X12_beginSum_j30 σ hf hR)
-- RankwiseModel.goOnSum(II)I
def f_X12_goOnSum (σ : xM) (l0 : Nat) (l1 : Int32) (l2 : Int32) : Option (Int32 × xM) :=
  (if xk σ l0 12 = true then (f_X12_top σ l0).bind (fun p1 => (if xk σ l0 12 = true then (f_X12_top σ l0).bind (fun p2 => (if xk σ l0 12 = true then (f_X12_top σ l0).bind (fun p3 => (if xk σ l0 12 = true then (f_X12_addValues σ l0 (p1 - (1 : Int32)) (p2 - (1 : Int32)) p3 (1 : Int32)).bind (fun p4 => (gI p4.2 l0 12 61).bind (fun x5 => (sI p4.2 l0 12 61 (x5 - (1 : Int32))).bind (fun σ6 => (if p4.1 = (0 : Int32) then some ((3 : Int32), σ6) else (gR σ6 l0 12 55).bind (fun x7 => (aI σ6 x7 14 l1).bind (fun x8 => (wI σ6 x7 l1 (x8 - (1 : Int32))).bind (fun σ9 => (gR σ9 l0 12 55).bind (fun x10 => (aI σ9 x10 14 l1).bind (fun x11 => (if x11 = (0 : Int32) then (gR σ9 l0 12 51).bind (fun x21 => (aI σ9 x21 14 l1).bind (fun x22 => (sI σ9 l0 12 60 x22).bind (fun σ23 => (gI σ23 l0 12 56).bind (fun x24 => (sI σ23 l0 12 56 (x24 - (1 : Int32))).bind (fun σ25 => some ((0 : Int32), σ25)))))) else (if xk σ9 l0 12 = true then (f_X12_setInt σ9 l0 (3600 : Int32) (1 : Int32)).bind (fun p12 => (gR p12 l0 12 51).bind (fun x13 => (aI p12 x13 14 l1).bind (fun x14 => xlet ((1000 : Int32) + ((3 : Int32) * x14)) (fun v15 => (if xk p12 l0 12 = true then (f_X12_addValues p12 l0 v15 v15 (3600 : Int32) (1 : Int32)).bind (fun p16 => (if xk p16.2 l0 12 = true then (f_X12_child p16.2 l0 l2 (3 : Int32)).bind (fun p17 => (gR p16.2 l0 12 51).bind (fun x18 => (aI p16.2 x18 14 l1).bind (fun x19 => (if xk p16.2 l0 12 = true then (f_X12_enter p16.2 l0 p17 x19).bind (fun p20 => some ((0 : Int32), p20)) else none)))) else none)) else none))))) else none))))))))))) else none)) else none)) else none)) else none)
set_option maxHeartbeats 4000000 in
set_option maxRecDepth 20000 in
theorem m_X12_goOnSum {G : xG} {π : Nat → Nat} {d C Z : Nat} {Q : xQ} {σ : xM} {l0 : Nat} {l1 : Int32} {l2 : Int32} {x : (Int32 × xM)} (hf : f_X12_goOnSum σ l0 l1 l2 = some x) (hR : ∀ g, x = g → Q (.inl (some (.int g.1))) (g.2) π) : xMach G π J_X12_goOnSum (d + 6) C Z 0 (lv_args 0 [.ref l0, .int l1, .int l2]) [] σ Q := by
  unfold f_X12_goOnSum at hf
  refine xm_stL (L' := [(0, .ref l0), (1, .int l1), (2, .int l2)]) rfl ?_
  refine xm_aload_n dX12_goOnSum_0 rfl ?_
  refine xm_aload_n dX12_goOnSum_1 rfl ?_
  refine xb_if hf (fun hb hf => ?_) (fun _ q => nomatch q)
  obtain ⟨p1, ep1, hf⟩ := xbind hf
  refine xb_callV (As := []) (v0 := (some (.int p1))) (τ0 := σ) dX12_goOnSum_2 (xc_X12_top _ _) xcl12 xw_2383 xw_2385 xs_140 hb rfl (Nat.le_of_ble_eq_true rfl) rfl (Nat.le_of_ble_eq_true rfl) (fun Q1 hq => m_X12_top (d := d + 5) ep1 (fun g hg => by subst hg; exact hq)) ?_
  refine xm_iconst dX12_goOnSum_5 (v := 1) (by decide) ?_
  refine xm_isub dX12_goOnSum_6 ?_
  refine xm_aload_n dX12_goOnSum_7 rfl ?_
  refine xb_if hf (fun hb hf => ?_) (fun _ q => nomatch q)
  obtain ⟨p2, ep2, hf⟩ := xbind hf
  refine xb_callV (As := []) (v0 := (some (.int p2))) (τ0 := σ) dX12_goOnSum_8 (xc_X12_top _ _) xcl12 xw_2383 xw_2385 xs_140 hb rfl (Nat.le_of_ble_eq_true rfl) rfl (Nat.le_of_ble_eq_true rfl) (fun Q1 hq => m_X12_top (d := d + 5) ep2 (fun g hg => by subst hg; exact hq)) ?_
  refine xm_iconst dX12_goOnSum_11 (v := 1) (by decide) ?_
  refine xm_isub dX12_goOnSum_12 ?_
  refine xm_aload_n dX12_goOnSum_13 rfl ?_
  refine xb_if hf (fun hb hf => ?_) (fun _ q => nomatch q)
  obtain ⟨p3, ep3, hf⟩ := xbind hf
  refine xb_callV (As := []) (v0 := (some (.int p3))) (τ0 := σ) dX12_goOnSum_14 (xc_X12_top _ _) xcl12 xw_2383 xw_2385 xs_140 hb rfl (Nat.le_of_ble_eq_true rfl) rfl (Nat.le_of_ble_eq_true rfl) (fun Q1 hq => m_X12_top (d := d + 5) ep3 (fun g hg => by subst hg; exact hq)) ?_
  refine xm_iconst dX12_goOnSum_17 (v := 1) (by decide) ?_
  refine xb_if hf (fun hb hf => ?_) (fun _ q => nomatch q)
  obtain ⟨p4, ep4, hf⟩ := xbind hf
  refine xb_callV (As := [.int (p1 - (1 : Int32)), .int (p2 - (1 : Int32)), .int p3, .int (1 : Int32)]) (v0 := (some (.int p4.1))) (τ0 := p4.2) dX12_goOnSum_18 (xc_X12_addValues _ _) xcl12 xw_2399 xw_2401 xs_144 hb rfl (Nat.le_of_ble_eq_true rfl) rfl (Nat.le_of_ble_eq_true rfl) (fun Q1 hq => m_X12_addValues (d := d + 0) ep4 (fun g hg => by subst hg; exact hq)) ?_
  refine xm_istore_n dX12_goOnSum_21 (by decide) (xm_stL (L' := [(3, .int p4.1), (0, .ref l0), (1, .int l1), (2, .int l2)]) rfl ?_)
  refine xm_aload_n dX12_goOnSum_22 rfl ?_
  refine xm_dup dX12_goOnSum_23 rfl ?_
  refine xb_getI (a := l0) (c := 12) (k := 61) dX12_goOnSum_24 xcl12 (by decide) xw_1898 rfl hf (fun x5 ex5 hf => ?_)
  refine xm_iconst dX12_goOnSum_27 (v := 1) (by decide) ?_
  refine xm_isub dX12_goOnSum_28 ?_
  refine xb_putI (a := l0) (c := 12) (k := 61) dX12_goOnSum_29 xcl12 (by decide) xw_1898 rfl rfl hf (fun σ6 eσ6 hf => ?_)
  refine xm_iload_n dX12_goOnSum_32 rfl ?_
  refine xb_if_ne 38 dX12_goOnSum_33 (by decide) hf (fun c hf => ?_) (fun c hf => ?_)
  · refine xm_aload_n dX12_goOnSum_38 rfl ?_
    refine xb_getR (a := l0) (c := 12) (k := 55) dX12_goOnSum_39 xcl12 (by decide) xw_1892 rfl hf (fun x7 ex7 hf => ?_)
    refine xm_iload_n dX12_goOnSum_42 rfl ?_
    refine xm_dup2 dX12_goOnSum_43 rfl rfl ?_
    refine xb_iald dX12_goOnSum_44 hf (fun x8 ex8 hf => ?_)
    refine xm_iconst dX12_goOnSum_45 (v := 1) (by decide) ?_
    refine xm_isub dX12_goOnSum_46 ?_
    refine xb_iast dX12_goOnSum_47 hf (fun σ9 eσ9 hf => ?_)
    refine xm_aload_n dX12_goOnSum_48 rfl ?_
    refine xb_getR (a := l0) (c := 12) (k := 55) dX12_goOnSum_49 xcl12 (by decide) xw_1892 rfl hf (fun x10 ex10 hf => ?_)
    refine xm_iload_n dX12_goOnSum_52 rfl ?_
    refine xb_iald dX12_goOnSum_53 hf (fun x11 ex11 hf => ?_)
    refine xb_if_ne 79 dX12_goOnSum_54 (by decide) hf (fun c hf => ?_) (fun c hf => ?_)
    · refine xm_aload_n dX12_goOnSum_79 rfl ?_
      refine xm_sipush dX12_goOnSum_80 (v := 3600) (by decide) ?_
      refine xm_iconst dX12_goOnSum_83 (v := 1) (by decide) ?_
      refine xb_if hf (fun hb hf => ?_) (fun _ q => nomatch q)
      obtain ⟨p12, ep12, hf⟩ := xbind hf
      refine xb_callV (As := [.int (3600 : Int32), .int (1 : Int32)]) (v0 := none) (τ0 := p12) dX12_goOnSum_84 (xc_X12_setInt _ _) xcl12 xw_1820 xw_1822 xs_84 hb rfl (Nat.le_of_ble_eq_true rfl) rfl (Nat.le_of_ble_eq_true rfl) (fun Q1 hq => m_X12_setInt (d := d + 3) ep12 (fun g hg => by subst hg; exact hq)) ?_
      refine xm_sipush dX12_goOnSum_87 (v := 1000) (by decide) ?_
      refine xm_iconst dX12_goOnSum_90 (v := 3) (by decide) ?_
      refine xm_aload_n dX12_goOnSum_91 rfl ?_
      refine xb_getR (a := l0) (c := 12) (k := 51) dX12_goOnSum_92 xcl12 (by decide) xw_1888 rfl hf (fun x13 ex13 hf => ?_)
      refine xm_iload_n dX12_goOnSum_95 rfl ?_
      refine xb_iald dX12_goOnSum_96 hf (fun x14 ex14 hf => ?_)
      refine xm_imul dX12_goOnSum_97 ?_
      refine xm_iadd dX12_goOnSum_98 ?_
      refine xb_topi hf (fun v15 ev15 hf => ?_)
      refine xm_istore dX12_goOnSum_99 (by decide) (xm_stL (L' := [(4, .int v15), (3, .int p4.1), (0, .ref l0), (1, .int l1), (2, .int l2)]) rfl ?_)
      refine xm_aload_n dX12_goOnSum_101 rfl ?_
      refine xm_iload dX12_goOnSum_102 rfl ?_
      refine xm_iload dX12_goOnSum_104 rfl ?_
      refine xm_sipush dX12_goOnSum_106 (v := 3600) (by decide) ?_
      refine xm_iconst dX12_goOnSum_109 (v := 1) (by decide) ?_
      refine xb_if hf (fun hb hf => ?_) (fun _ q => nomatch q)
      obtain ⟨p16, ep16, hf⟩ := xbind hf
      refine xb_callV (As := [.int v15, .int v15, .int (3600 : Int32), .int (1 : Int32)]) (v0 := (some (.int p16.1))) (τ0 := p16.2) dX12_goOnSum_110 (xc_X12_addValues _ _) xcl12 xw_2399 xw_2401 xs_144 hb rfl (Nat.le_of_ble_eq_true rfl) rfl (Nat.le_of_ble_eq_true rfl) (fun Q1 hq => m_X12_addValues (d := d + 0) ep16 (fun g hg => by subst hg; exact hq)) ?_
      refine xm_pop dX12_goOnSum_113 rfl ?_
      refine xm_aload_n dX12_goOnSum_114 rfl ?_
      refine xm_aload_n dX12_goOnSum_115 rfl ?_
      refine xm_iload_n dX12_goOnSum_116 rfl ?_
      refine xm_iconst dX12_goOnSum_117 (v := 3) (by decide) ?_
      refine xb_if hf (fun hb hf => ?_) (fun _ q => nomatch q)
      obtain ⟨p17, ep17, hf⟩ := xbind hf
      refine xb_callV (As := [.int l2, .int (3 : Int32)]) (v0 := (some (.int p17))) (τ0 := p16.2) dX12_goOnSum_118 (xc_X12_child _ _) xcl12 xw_2303 xw_2305 xs_123 hb rfl (Nat.le_of_ble_eq_true rfl) rfl (Nat.le_of_ble_eq_true rfl) (fun Q1 hq => m_X12_child (d := d + 5) ep17 (fun g hg => by subst hg; exact hq)) ?_
      refine xm_aload_n dX12_goOnSum_121 rfl ?_
      refine xb_getR (a := l0) (c := 12) (k := 51) dX12_goOnSum_122 xcl12 (by decide) xw_1888 rfl hf (fun x18 ex18 hf => ?_)
      refine xm_iload_n dX12_goOnSum_125 rfl ?_
      refine xb_iald dX12_goOnSum_126 hf (fun x19 ex19 hf => ?_)
      refine xb_if hf (fun hb hf => ?_) (fun _ q => nomatch q)
      obtain ⟨p20, ep20, hf⟩ := xbind hf
      refine xb_callV (As := [.int p17, .int x19]) (v0 := none) (τ0 := p20) dX12_goOnSum_127 (xc_X12_enter _ _) xcl12 xw_2363 xw_2365 xs_135 hb rfl (Nat.le_of_ble_eq_true rfl) rfl (Nat.le_of_ble_eq_true rfl) (fun Q1 hq => m_X12_enter (d := d + 5) ep20 (fun g hg => by subst hg; exact hq)) ?_
      refine xm_iconst dX12_goOnSum_130 (v := 0) (by decide) ?_
      cases hf
      exact xm_iret dX12_goOnSum_131 rfl (hR _ rfl)
    · refine xm_aload_n dX12_goOnSum_57 rfl ?_
      refine xm_aload_n dX12_goOnSum_58 rfl ?_
      refine xb_getR (a := l0) (c := 12) (k := 51) dX12_goOnSum_59 xcl12 (by decide) xw_1888 rfl hf (fun x21 ex21 hf => ?_)
      refine xm_iload_n dX12_goOnSum_62 rfl ?_
      refine xb_iald dX12_goOnSum_63 hf (fun x22 ex22 hf => ?_)
      refine xb_putI (a := l0) (c := 12) (k := 60) dX12_goOnSum_64 xcl12 (by decide) xw_1897 rfl rfl hf (fun σ23 eσ23 hf => ?_)
      refine xm_aload_n dX12_goOnSum_67 rfl ?_
      refine xm_dup dX12_goOnSum_68 rfl ?_
      refine xb_getI (a := l0) (c := 12) (k := 56) dX12_goOnSum_69 xcl12 (by decide) xw_1893 rfl hf (fun x24 ex24 hf => ?_)
      refine xm_iconst dX12_goOnSum_72 (v := 1) (by decide) ?_
      refine xm_isub dX12_goOnSum_73 ?_
      refine xb_putI (a := l0) (c := 12) (k := 56) dX12_goOnSum_74 xcl12 (by decide) xw_1893 rfl rfl hf (fun σ25 eσ25 hf => ?_)
      refine xm_iconst dX12_goOnSum_77 (v := 0) (by decide) ?_
      cases hf
      exact xm_iret dX12_goOnSum_78 rfl (hR _ rfl)
  · refine xm_iconst dX12_goOnSum_36 (v := 3) (by decide) ?_
    cases hf
    exact xm_iret dX12_goOnSum_37 rfl (hR _ rfl)
-- RankwiseModel.sums(II)I
def f_X12_sums_j103 (σ : xM) (l0 : Nat) (l1 : Int32) (l2 : Int32) : Option (Int32 × xM) :=
  (gR σ l0 12 49).bind (fun x11 => (aI σ x11 14 l1).bind (fun x12 => (wI σ x11 l1 (x12 + (1 : Int32))).bind (fun σ13 => (gR σ13 l0 12 49).bind (fun x14 => (aI σ13 x14 14 l1).bind (fun x15 => (if xk σ13 l0 12 = true then (f_X12_child σ13 l0 l2 x15).bind (fun p16 => (gR σ13 l0 12 50).bind (fun x17 => (aI σ13 x17 14 l1).bind (fun x18 => (if xk σ13 l0 12 = true then (f_X12_enter σ13 l0 p16 x18).bind (fun p19 => some ((0 : Int32), p19)) else none)))) else none))))))
set_option maxHeartbeats 4000000 in
set_option maxRecDepth 20000 in
theorem L_X12_sums_j103 {G : xG} {π : Nat → Nat} {d C Z : Nat} {Q : xQ} (σ : xM) (l0 : Nat) (l1 : Int32) (l2 : Int32) {x : (Int32 × xM)} (hf : f_X12_sums_j103 σ l0 l1 l2 = some x) (hR : ∀ g, x = g → Q (.inl (some (.int g.1))) (g.2) π) : xMach G π J_X12_sums (d + 7) C Z 103 [(0, .ref l0), (1, .int l1), (2, .int l2)] [] σ Q := by
  unfold f_X12_sums_j103 at hf
  refine xm_aload_n dX12_sums_103 rfl ?_
  refine xb_getR (a := l0) (c := 12) (k := 49) dX12_sums_104 xcl12 (by decide) xw_1886 rfl hf (fun x11 ex11 hf => ?_)
  refine xm_iload_n dX12_sums_107 rfl ?_
  refine xm_dup2 dX12_sums_108 rfl rfl ?_
  refine xb_iald dX12_sums_109 hf (fun x12 ex12 hf => ?_)
  refine xm_iconst dX12_sums_110 (v := 1) (by decide) ?_
  refine xm_iadd dX12_sums_111 ?_
  refine xb_iast dX12_sums_112 hf (fun σ13 eσ13 hf => ?_)
  refine xm_aload_n dX12_sums_113 rfl ?_
  refine xm_aload_n dX12_sums_114 rfl ?_
  refine xm_iload_n dX12_sums_115 rfl ?_
  refine xm_aload_n dX12_sums_116 rfl ?_
  refine xb_getR (a := l0) (c := 12) (k := 49) dX12_sums_117 xcl12 (by decide) xw_1886 rfl hf (fun x14 ex14 hf => ?_)
  refine xm_iload_n dX12_sums_120 rfl ?_
  refine xb_iald dX12_sums_121 hf (fun x15 ex15 hf => ?_)
  refine xb_if hf (fun hb hf => ?_) (fun _ q => nomatch q)
  obtain ⟨p16, ep16, hf⟩ := xbind hf
  refine xb_callV (As := [.int l2, .int x15]) (v0 := (some (.int p16))) (τ0 := σ13) dX12_sums_122 (xc_X12_child _ _) xcl12 xw_2303 xw_2305 xs_123 hb rfl (Nat.le_of_ble_eq_true rfl) rfl (Nat.le_of_ble_eq_true rfl) (fun Q1 hq => m_X12_child (d := d + 6) ep16 (fun g hg => by subst hg; exact hq)) ?_
  refine xm_aload_n dX12_sums_125 rfl ?_
  refine xb_getR (a := l0) (c := 12) (k := 50) dX12_sums_126 xcl12 (by decide) xw_1887 rfl hf (fun x17 ex17 hf => ?_)
  refine xm_iload_n dX12_sums_129 rfl ?_
  refine xb_iald dX12_sums_130 hf (fun x18 ex18 hf => ?_)
  refine xb_if hf (fun hb hf => ?_) (fun _ q => nomatch q)
  obtain ⟨p19, ep19, hf⟩ := xbind hf
  refine xb_callV (As := [.int p16, .int x18]) (v0 := none) (τ0 := p19) dX12_sums_131 (xc_X12_enter _ _) xcl12 xw_2363 xw_2365 xs_135 hb rfl (Nat.le_of_ble_eq_true rfl) rfl (Nat.le_of_ble_eq_true rfl) (fun Q1 hq => m_X12_enter (d := d + 6) ep19 (fun g hg => by subst hg; exact hq)) ?_
  refine xm_iconst dX12_sums_134 (v := 0) (by decide) ?_
  cases hf
  exact xm_iret dX12_sums_135 rfl (hR _ rfl)
def f_X12_sums_j79 (σ : xM) (l0 : Nat) (l1 : Int32) (l2 : Int32) : Option (Int32 × xM) :=
  (gR σ l0 12 49).bind (fun x9 => (aI σ x9 14 l1).bind (fun x10 => (if x10 = (0 : Int32) then (gR σ l0 12 4).bind (fun x20 => (aI σ x20 14 (l2 + (1 : Int32))).bind (fun x21 => (if x21 = (1 : Int32) then f_X12_sums_j103 σ l0 l1 l2 else some ((10 : Int32), σ)))) else f_X12_sums_j103 σ l0 l1 l2)))
set_option maxHeartbeats 4000000 in
set_option maxRecDepth 20000 in
theorem L_X12_sums_j79 {G : xG} {π : Nat → Nat} {d C Z : Nat} {Q : xQ} (σ : xM) (l0 : Nat) (l1 : Int32) (l2 : Int32) {x : (Int32 × xM)} (hf : f_X12_sums_j79 σ l0 l1 l2 = some x) (hR : ∀ g, x = g → Q (.inl (some (.int g.1))) (g.2) π) : xMach G π J_X12_sums (d + 7) C Z 79 [(0, .ref l0), (1, .int l1), (2, .int l2)] [] σ Q := by
  unfold f_X12_sums_j79 at hf
  refine xm_aload_n dX12_sums_79 rfl ?_
  refine xb_getR (a := l0) (c := 12) (k := 49) dX12_sums_80 xcl12 (by decide) xw_1886 rfl hf (fun x9 ex9 hf => ?_)
  refine xm_iload_n dX12_sums_83 rfl ?_
  refine xb_iald dX12_sums_84 hf (fun x10 ex10 hf => ?_)
  refine xb_if_ne 103 dX12_sums_85 (by decide) hf (fun c hf => ?_) (fun c hf => ?_)
  · exact xm_sub [0, 1, 2] rfl (L_X12_sums_j103 σ l0 l1 l2 hf hR)
  · refine xm_aload_n dX12_sums_88 rfl ?_
    refine xb_getR (a := l0) (c := 12) (k := 4) dX12_sums_89 xcl12 (by decide) xw_1841 rfl hf (fun x20 ex20 hf => ?_)
    refine xm_iload_n dX12_sums_92 rfl ?_
    refine xm_iconst dX12_sums_93 (v := 1) (by decide) ?_
    refine xm_iadd dX12_sums_94 ?_
    refine xb_iald dX12_sums_95 hf (fun x21 ex21 hf => ?_)
    refine xm_iconst dX12_sums_96 (v := 1) (by decide) ?_
    refine xb_icmp_eq 103 dX12_sums_97 (by decide) hf (fun c hf => ?_) (fun c hf => ?_)
    · exact xm_sub [0, 1, 2] rfl (L_X12_sums_j103 σ l0 l1 l2 hf hR)
    · refine xm_bipush dX12_sums_100 (v := 10) (by decide) ?_
      cases hf
      exact xm_iret dX12_sums_102 rfl (hR _ rfl)
def f_X12_sums_j51 (σ : xM) (l0 : Nat) (l1 : Int32) (l2 : Int32) (s0 : Int32) : Option (Int32 × xM) :=
  (if s0 ≤ (0 : Int32) then (gR σ l0 12 49).bind (fun x7 => (aI σ x7 14 l1).bind (fun x8 => (if x8 = (0 : Int32) then (gR σ l0 12 7).bind (fun x22 => (aI σ x22 14 l2).bind (fun x23 => (if x23 = (4 : Int32) then f_X12_sums_j79 σ l0 l1 l2 else some ((5 : Int32), σ)))) else f_X12_sums_j79 σ l0 l1 l2))) else some (s0, σ))
set_option maxHeartbeats 4000000 in
set_option maxRecDepth 20000 in
theorem L_X12_sums_j51 {G : xG} {π : Nat → Nat} {d C Z : Nat} {Q : xQ} (σ : xM) (l0 : Nat) (l1 : Int32) (l2 : Int32) (s0 : Int32) {x : (Int32 × xM)} (hf : f_X12_sums_j51 σ l0 l1 l2 s0 = some x) (hR : ∀ g, x = g → Q (.inl (some (.int g.1))) (g.2) π) : xMach G π J_X12_sums (d + 7) C Z 51 [(0, .ref l0), (1, .int l1), (2, .int l2)] [.int s0] σ Q := by
  unfold f_X12_sums_j51 at hf
  refine xm_istore_n dX12_sums_51 (by decide) (xm_stL (L' := [(3, .int s0), (0, .ref l0), (1, .int l1), (2, .int l2)]) rfl ?_)
  refine xm_iload_n dX12_sums_52 rfl ?_
  refine xb_if_le 58 dX12_sums_53 (by decide) hf (fun c hf => ?_) (fun c hf => ?_)
  · refine xm_aload_n dX12_sums_58 rfl ?_
    refine xb_getR (a := l0) (c := 12) (k := 49) dX12_sums_59 xcl12 (by decide) xw_1886 rfl hf (fun x7 ex7 hf => ?_)
    refine xm_iload_n dX12_sums_62 rfl ?_
    refine xb_iald dX12_sums_63 hf (fun x8 ex8 hf => ?_)
    refine xb_if_ne 79 dX12_sums_64 (by decide) hf (fun c hf => ?_) (fun c hf => ?_)
    · exact xm_sub [1, 2, 3] rfl (L_X12_sums_j79 σ l0 l1 l2 hf hR)
    · refine xm_aload_n dX12_sums_67 rfl ?_
      refine xb_getR (a := l0) (c := 12) (k := 7) dX12_sums_68 xcl12 (by decide) xw_1844 rfl hf (fun x22 ex22 hf => ?_)
      refine xm_iload_n dX12_sums_71 rfl ?_
      refine xb_iald dX12_sums_72 hf (fun x23 ex23 hf => ?_)
      refine xm_iconst dX12_sums_73 (v := 4) (by decide) ?_
      refine xb_icmp_eq 79 dX12_sums_74 (by decide) hf (fun c hf => ?_) (fun c hf => ?_)
      · exact xm_sub [1, 2, 3] rfl (L_X12_sums_j79 σ l0 l1 l2 hf hR)
      · refine xm_iconst dX12_sums_77 (v := 5) (by decide) ?_
        cases hf
        exact xm_iret dX12_sums_78 rfl (hR _ rfl)
  · refine xm_iload_n dX12_sums_56 rfl ?_
    cases hf
    exact xm_iret dX12_sums_57 rfl (hR _ rfl)
def f_X12_sums (σ : xM) (l0 : Nat) (l1 : Int32) (l2 : Int32) : Option (Int32 × xM) :=
  (gR σ l0 12 49).bind (fun x1 => (aI σ x1 14 l1).bind (fun x2 => (if x2 = (3 : Int32) then (if xk σ l0 12 = true then (f_X12_goOnSum σ l0 l1 l2).bind (fun p26 => some (p26.1, p26.2)) else none) else (gR σ l0 12 49).bind (fun x3 => (aI σ x3 14 l1).bind (fun x4 => (if x4 = (2 : Int32) then (if xk σ l0 12 = true then (f_X12_beginSum σ l0 l1 l2).bind (fun p25 => some (p25.1, p25.2)) else none) else (gR σ l0 12 49).bind (fun x5 => (aI σ x5 14 l1).bind (fun x6 => (if x6 = (0 : Int32) then (if xk σ l0 12 = true then (f_X12_count σ l0).bind (fun p24 => f_X12_sums_j51 p24.2 l0 l1 l2 p24.1) else none) else f_X12_sums_j51 σ l0 l1 l2 (0 : Int32))))))))))
set_option maxHeartbeats 4000000 in
set_option maxRecDepth 20000 in
theorem m_X12_sums {G : xG} {π : Nat → Nat} {d C Z : Nat} {Q : xQ} {σ : xM} {l0 : Nat} {l1 : Int32} {l2 : Int32} {x : (Int32 × xM)} (hf : f_X12_sums σ l0 l1 l2 = some x) (hR : ∀ g, x = g → Q (.inl (some (.int g.1))) (g.2) π) : xMach G π J_X12_sums (d + 7) C Z 0 (lv_args 0 [.ref l0, .int l1, .int l2]) [] σ Q := by
  unfold f_X12_sums at hf
  refine xm_stL (L' := [(0, .ref l0), (1, .int l1), (2, .int l2)]) rfl ?_
  refine xm_aload_n dX12_sums_0 rfl ?_
  refine xb_getR (a := l0) (c := 12) (k := 49) dX12_sums_1 xcl12 (by decide) xw_1886 rfl hf (fun x1 ex1 hf => ?_)
  refine xm_iload_n dX12_sums_4 rfl ?_
  refine xb_iald dX12_sums_5 hf (fun x2 ex2 hf => ?_)
  refine xm_iconst dX12_sums_6 (v := 3) (by decide) ?_
  refine xb_icmp_ne 17 dX12_sums_7 (by decide) hf (fun c hf => ?_) (fun c hf => ?_)
  · refine xm_aload_n dX12_sums_17 rfl ?_
    refine xb_getR (a := l0) (c := 12) (k := 49) dX12_sums_18 xcl12 (by decide) xw_1886 rfl hf (fun x3 ex3 hf => ?_)
    refine xm_iload_n dX12_sums_21 rfl ?_
    refine xb_iald dX12_sums_22 hf (fun x4 ex4 hf => ?_)
    refine xm_iconst dX12_sums_23 (v := 2) (by decide) ?_
    refine xb_icmp_ne 34 dX12_sums_24 (by decide) hf (fun c hf => ?_) (fun c hf => ?_)
    · refine xm_aload_n dX12_sums_34 rfl ?_
      refine xb_getR (a := l0) (c := 12) (k := 49) dX12_sums_35 xcl12 (by decide) xw_1886 rfl hf (fun x5 ex5 hf => ?_)
      refine xm_iload_n dX12_sums_38 rfl ?_
      refine xb_iald dX12_sums_39 hf (fun x6 ex6 hf => ?_)
      refine xb_if_ne 50 dX12_sums_40 (by decide) hf (fun c hf => ?_) (fun c hf => ?_)
      · refine xm_iconst dX12_sums_50 (v := 0) (by decide) ?_
        exact xm_sub [0, 1, 2] rfl (L_X12_sums_j51 σ l0 l1 l2 (0 : Int32) hf hR)
      · refine xm_aload_n dX12_sums_43 rfl ?_
        refine xb_if hf (fun hb hf => ?_) (fun _ q => nomatch q)
        obtain ⟨p24, ep24, hf⟩ := xbind hf
        refine xb_callV (As := []) (v0 := (some (.int p24.1))) (τ0 := p24.2) dX12_sums_44 (xc_X12_count _ _) xcl12 xw_2371 xw_2373 xs_137 hb rfl (Nat.le_of_ble_eq_true rfl) rfl (Nat.le_of_ble_eq_true rfl) (fun Q1 hq => m_X12_count (d := d + 6) ep24 (fun g hg => by subst hg; exact hq)) ?_
        refine xm_goto 51 dX12_sums_47 (by decide) ?_
        exact xm_sub [0, 1, 2] rfl (L_X12_sums_j51 p24.2 l0 l1 l2 p24.1 hf hR)
    · refine xm_aload_n dX12_sums_27 rfl ?_
      refine xm_iload_n dX12_sums_28 rfl ?_
      refine xm_iload_n dX12_sums_29 rfl ?_
      refine xb_if hf (fun hb hf => ?_) (fun _ q => nomatch q)
      obtain ⟨p25, ep25, hf⟩ := xbind hf
      refine xb_callV (As := [.int l1, .int l2]) (v0 := (some (.int p25.1))) (τ0 := p25.2) dX12_sums_30 (xc_X12_beginSum _ _) xcl12 xw_2472 xw_2474 xs_162 hb rfl (Nat.le_of_ble_eq_true rfl) rfl (Nat.le_of_ble_eq_true rfl) (fun Q1 hq => m_X12_beginSum (d := d + 0) ep25 (fun g hg => by subst hg; exact hq)) ?_
      cases hf
      exact xm_iret dX12_sums_33 rfl (hR _ rfl)
  · refine xm_aload_n dX12_sums_10 rfl ?_
    refine xm_iload_n dX12_sums_11 rfl ?_
    refine xm_iload_n dX12_sums_12 rfl ?_
    refine xb_if hf (fun hb hf => ?_) (fun _ q => nomatch q)
    obtain ⟨p26, ep26, hf⟩ := xbind hf
    refine xb_callV (As := [.int l1, .int l2]) (v0 := (some (.int p26.1))) (τ0 := p26.2) dX12_sums_13 (xc_X12_goOnSum _ _) xcl12 xw_2395 xw_2397 xs_143 hb rfl (Nat.le_of_ble_eq_true rfl) rfl (Nat.le_of_ble_eq_true rfl) (fun Q1 hq => m_X12_goOnSum (d := d + 0) ep26 (fun g hg => by subst hg; exact hq)) ?_
    cases hf
    exact xm_iret dX12_sums_16 rfl (hR _ rfl)
-- RankwiseModel.caseAt(III)I
def f_X12_caseAt (σ : xM) (l0 : Int32) (l1 : Int32) (l2 : Int32) : Option Int32 :=
  some ((2400 : Int32) + ((30 : Int32) * ((((8 : Int32) * l0) + ((2 : Int32) * l1)) + l2)))
set_option maxHeartbeats 4000000 in
set_option maxRecDepth 20000 in
theorem m_X12_caseAt {G : xG} {π : Nat → Nat} {d C Z : Nat} {Q : xQ} {σ : xM} {l0 : Int32} {l1 : Int32} {l2 : Int32} {x : Int32} (hf : f_X12_caseAt σ l0 l1 l2 = some x) (hR : ∀ g, x = g → Q (.inl (some (.int g))) (σ) π) : xMach G π J_X12_caseAt (d + 0) C Z 0 (lv_args 0 [.int l0, .int l1, .int l2]) [] σ Q := by
  unfold f_X12_caseAt at hf
  refine xm_stL (L' := [(0, .int l0), (1, .int l1), (2, .int l2)]) rfl ?_
  refine xm_sipush dX12_caseAt_0 (v := 2400) (by decide) ?_
  refine xm_bipush dX12_caseAt_3 (v := 30) (by decide) ?_
  refine xm_bipush dX12_caseAt_5 (v := 8) (by decide) ?_
  refine xm_iload_n dX12_caseAt_7 rfl ?_
  refine xm_imul dX12_caseAt_8 ?_
  refine xm_iconst dX12_caseAt_9 (v := 2) (by decide) ?_
  refine xm_iload_n dX12_caseAt_10 rfl ?_
  refine xm_imul dX12_caseAt_11 ?_
  refine xm_iadd dX12_caseAt_12 ?_
  refine xm_iload_n dX12_caseAt_13 rfl ?_
  refine xm_iadd dX12_caseAt_14 ?_
  refine xm_imul dX12_caseAt_15 ?_
  refine xm_iadd dX12_caseAt_16 ?_
  cases hf
  exact xm_iret dX12_caseAt_17 rfl (hR _ rfl)
-- RankwiseModel.callFunction(III)I
def f_X12_callFunction_j24 (σ : xM)  : Option (Int32 × xM) :=
  some ((5 : Int32), σ)
set_option maxHeartbeats 4000000 in
set_option maxRecDepth 20000 in
theorem L_X12_callFunction_j24 {G : xG} {π : Nat → Nat} {d C Z : Nat} {Q : xQ} (σ : xM)  {x : (Int32 × xM)} (hf : f_X12_callFunction_j24 σ = some x) (hR : ∀ g, x = g → Q (.inl (some (.int g.1))) (g.2) π) : xMach G π J_X12_callFunction (d + 1) C Z 24 [] [] σ Q := by
  unfold f_X12_callFunction_j24 at hf
  refine xm_iconst dX12_callFunction_24 (v := 5) (by decide) ?_
  cases hf
  exact xm_iret dX12_callFunction_25 rfl (hR _ rfl)
def f_X12_callFunction_s103 (s : (Nat × Int32 × Int32 × Int32 × Int32 × xM)) : Option ((Int32 × xM) ⊕ ((Nat × Int32 × Int32 × Int32 × xM) ⊕ (Nat × Int32 × Int32 × Int32 × Int32 × xM))) :=
  xlet s.1 (fun l0 => xlet s.2.1 (fun l1 => xlet s.2.2.1 (fun l3 => xlet s.2.2.2.1 (fun l4 => xlet s.2.2.2.2.1 (fun l5 => xlet s.2.2.2.2.2 (fun σ => (if l4 ≤ l5 then some (Sum.inr (Sum.inl (l0, l1, l3, l4, σ))) else (gI σ l0 12 60).bind (fun x23 => (gI σ l0 12 61).bind (fun x24 => (if xk σ l0 12 = true then (f_X12_copyValue σ l0 (((1000 : Int32) + ((3 : Int32) * x23)) + l5) (((60 : Int32) + x24) + l5)).bind (fun p25 => xlet (l5 + (1 : Int32)) (fun v26 => some (Sum.inr (Sum.inr (l0, l1, l3, l4, v26, p25))))) else none))))))))))
set_option maxHeartbeats 4000000 in
set_option maxRecDepth 20000 in
theorem L_X12_callFunction_s103 {G : xG} {π : Nat → Nat} {d C Z : Nat} {Q : xQ} (σ : xM) (l0 : Nat) (l1 : Int32) (l3 : Int32) (l4 : Int32) (l5 : Int32) {x : ((Int32 × xM) ⊕ ((Nat × Int32 × Int32 × Int32 × xM) ⊕ (Nat × Int32 × Int32 × Int32 × Int32 × xM)))} (hf : f_X12_callFunction_s103 (l0, l1, l3, l4, l5, σ) = some x) (hR : ∀ g, x = Sum.inl (g) → Q (.inl (some (.int g.1))) (g.2) π) (hE : ∀ e : (Nat × Int32 × Int32 × Int32 × xM), x = Sum.inr (Sum.inl e) → xMach G π J_X12_callFunction (d + 1) C Z 143 [(0, .ref e.1), (1, .int e.2.1), (3, .int e.2.2.1), (4, .int e.2.2.2.1)] [] e.2.2.2.2 Q) (hC : ∀ e : (Nat × Int32 × Int32 × Int32 × Int32 × xM), x = Sum.inr (Sum.inr e) → xMach G π J_X12_callFunction (d + 1) C Z 103 [(0, .ref e.1), (1, .int e.2.1), (3, .int e.2.2.1), (4, .int e.2.2.2.1), (5, .int e.2.2.2.2.1)] [] e.2.2.2.2.2 Q) : xMach G π J_X12_callFunction (d + 1) C Z 103 [(0, .ref l0), (1, .int l1), (3, .int l3), (4, .int l4), (5, .int l5)] [] σ Q := by
  have hf : (if l4 ≤ l5 then some (Sum.inr (Sum.inl (l0, l1, l3, l4, σ))) else (gI σ l0 12 60).bind (fun x23 => (gI σ l0 12 61).bind (fun x24 => (if xk σ l0 12 = true then (f_X12_copyValue σ l0 (((1000 : Int32) + ((3 : Int32) * x23)) + l5) (((60 : Int32) + x24) + l5)).bind (fun p25 => xlet (l5 + (1 : Int32)) (fun v26 => some (Sum.inr (Sum.inr (l0, l1, l3, l4, v26, p25))))) else none)))) = some x := hf
  refine xm_iload dX12_callFunction_103 rfl ?_
  refine xm_iload dX12_callFunction_105 rfl ?_
  refine xb_icmp_ge 143 dX12_callFunction_107 (by decide) hf (fun c hf => ?_) (fun c hf => ?_)
  · cases hf
    exact xm_sub [0, 1, 2, 3] rfl (hE _ rfl)
  · refine xm_aload_n dX12_callFunction_110 rfl ?_
    refine xm_sipush dX12_callFunction_111 (v := 1000) (by decide) ?_
    refine xm_iconst dX12_callFunction_114 (v := 3) (by decide) ?_
    refine xm_aload_n dX12_callFunction_115 rfl ?_
    refine xb_getI (a := l0) (c := 12) (k := 60) dX12_callFunction_116 xcl12 (by decide) xw_1897 rfl hf (fun x23 ex23 hf => ?_)
    refine xm_imul dX12_callFunction_119 ?_
    refine xm_iadd dX12_callFunction_120 ?_
    refine xm_iload dX12_callFunction_121 rfl ?_
    refine xm_iadd dX12_callFunction_123 ?_
    refine xm_bipush dX12_callFunction_124 (v := 60) (by decide) ?_
    refine xm_aload_n dX12_callFunction_126 rfl ?_
    refine xb_getI (a := l0) (c := 12) (k := 61) dX12_callFunction_127 xcl12 (by decide) xw_1898 rfl hf (fun x24 ex24 hf => ?_)
    refine xm_iadd dX12_callFunction_130 ?_
    refine xm_iload dX12_callFunction_131 rfl ?_
    refine xm_iadd dX12_callFunction_133 ?_
    refine xb_if hf (fun hb hf => ?_) (fun _ q => nomatch q)
    obtain ⟨p25, ep25, hf⟩ := xbind hf
    refine xb_callV (As := [.int (((1000 : Int32) + ((3 : Int32) * x23)) + l5), .int (((60 : Int32) + x24) + l5)]) (v0 := none) (τ0 := p25) dX12_callFunction_134 (xc_X12_copyValue _ _) xcl12 xw_2100 xw_2102 xs_88 hb rfl (Nat.le_of_ble_eq_true rfl) rfl (Nat.le_of_ble_eq_true rfl) (fun Q1 hq => m_X12_copyValue (d := d + 0) ep25 (fun g hg => by subst hg; exact hq)) ?_
    refine xb_iinc dX12_callFunction_137 rfl (by decide) (by decide) hf (fun v26 ev26 hf => xm_stL (L' := [(5, .int v26), (0, .ref l0), (1, .int l1), (3, .int l3), (4, .int l4)]) rfl ?_)
    refine xm_goto 103 dX12_callFunction_140 (by decide) ?_
    cases hf
    exact xm_sub [1, 2, 3, 4, 0] rfl (hC _ rfl)
theorem L_X12_callFunction_l103 {G : xG} {π : Nat → Nat} {d C Z : Nat} {Q : xQ} {s0 : (Nat × Int32 × Int32 × Int32 × Int32 × xM)} {x : ((Int32 × xM) ⊕ (Nat × Int32 × Int32 × Int32 × xM))} (h1 : xloop (f_X12_callFunction_s103) xF s0 = some x) (hR : ∀ g, x = Sum.inl g → Q (.inl (some (.int g.1))) (g.2) π) (hE : ∀ e : (Nat × Int32 × Int32 × Int32 × xM), x = Sum.inr e → xMach G π J_X12_callFunction (d + 1) C Z 143 [(0, .ref e.1), (1, .int e.2.1), (3, .int e.2.2.1), (4, .int e.2.2.2.1)] [] e.2.2.2.2 Q) : xMach G π J_X12_callFunction (d + 1) C Z 103 [(0, .ref s0.1), (1, .int s0.2.1), (3, .int s0.2.2.1), (4, .int s0.2.2.2.1), (5, .int s0.2.2.2.2.1)] [] s0.2.2.2.2.2 Q := by
  refine xloop_run (M := (fun s : (Nat × Int32 × Int32 × Int32 × Int32 × xM) => xMach G π J_X12_callFunction (d + 1) C Z 103 [(0, .ref s.1), (1, .int s.2.1), (3, .int s.2.2.1), (4, .int s.2.2.2.1), (5, .int s.2.2.2.2.1)] [] s.2.2.2.2.2 Q)) (r := x) ?_ xF _ h1
  intro s y hs hx
  exact L_X12_callFunction_s103 s.2.2.2.2.2 s.1 s.2.1 s.2.2.1 s.2.2.2.1 s.2.2.2.2.1 (x := y) hs (fun g hg => by subst hg; exact hR g hx) (fun e he => by subst he; exact hE e hx) (fun e he => by subst he; exact hx)
def f_X12_callFunction_j143 (σ : xM) (l0 : Nat) (l1 : Int32) (l3 : Int32) (l4 : Int32) : Option (Int32 × xM) :=
  (gI σ l0 12 60).bind (fun x27 => (sI σ l0 12 60 (x27 + (1 : Int32))).bind (fun σ28 => (gR σ28 l0 12 52).bind (fun x29 => (wI σ28 x29 l1 l3).bind (fun σ30 => (gR σ30 l0 12 53).bind (fun x31 => (wI σ30 x31 l1 (0 : Int32)).bind (fun σ32 => (gR σ32 l0 12 54).bind (fun x33 => (wI σ32 x33 l1 (-1 : Int32)).bind (fun σ34 => (gR σ34 l0 12 55).bind (fun x35 => (wI σ34 x35 l1 (0 : Int32)).bind (fun σ36 => (gR σ36 l0 12 49).bind (fun x37 => (wI σ36 x37 l1 (l4 + (1 : Int32))).bind (fun σ38 => some ((0 : Int32), σ38)))))))))))))
set_option maxHeartbeats 4000000 in
set_option maxRecDepth 20000 in
theorem L_X12_callFunction_j143 {G : xG} {π : Nat → Nat} {d C Z : Nat} {Q : xQ} (σ : xM) (l0 : Nat) (l1 : Int32) (l3 : Int32) (l4 : Int32) {x : (Int32 × xM)} (hf : f_X12_callFunction_j143 σ l0 l1 l3 l4 = some x) (hR : ∀ g, x = g → Q (.inl (some (.int g.1))) (g.2) π) : xMach G π J_X12_callFunction (d + 1) C Z 143 [(0, .ref l0), (1, .int l1), (3, .int l3), (4, .int l4)] [] σ Q := by
  unfold f_X12_callFunction_j143 at hf
  refine xm_aload_n dX12_callFunction_143 rfl ?_
  refine xm_dup dX12_callFunction_144 rfl ?_
  refine xb_getI (a := l0) (c := 12) (k := 60) dX12_callFunction_145 xcl12 (by decide) xw_1897 rfl hf (fun x27 ex27 hf => ?_)
  refine xm_iconst dX12_callFunction_148 (v := 1) (by decide) ?_
  refine xm_iadd dX12_callFunction_149 ?_
  refine xb_putI (a := l0) (c := 12) (k := 60) dX12_callFunction_150 xcl12 (by decide) xw_1897 rfl rfl hf (fun σ28 eσ28 hf => ?_)
  refine xm_aload_n dX12_callFunction_153 rfl ?_
  refine xb_getR (a := l0) (c := 12) (k := 52) dX12_callFunction_154 xcl12 (by decide) xw_1889 rfl hf (fun x29 ex29 hf => ?_)
  refine xm_iload_n dX12_callFunction_157 rfl ?_
  refine xm_iload_n dX12_callFunction_158 rfl ?_
  refine xb_iast dX12_callFunction_159 hf (fun σ30 eσ30 hf => ?_)
  refine xm_aload_n dX12_callFunction_160 rfl ?_
  refine xb_getR (a := l0) (c := 12) (k := 53) dX12_callFunction_161 xcl12 (by decide) xw_1890 rfl hf (fun x31 ex31 hf => ?_)
  refine xm_iload_n dX12_callFunction_164 rfl ?_
  refine xm_iconst dX12_callFunction_165 (v := 0) (by decide) ?_
  refine xb_iast dX12_callFunction_166 hf (fun σ32 eσ32 hf => ?_)
  refine xm_aload_n dX12_callFunction_167 rfl ?_
  refine xb_getR (a := l0) (c := 12) (k := 54) dX12_callFunction_168 xcl12 (by decide) xw_1891 rfl hf (fun x33 ex33 hf => ?_)
  refine xm_iload_n dX12_callFunction_171 rfl ?_
  refine xm_iconst dX12_callFunction_172 (v := -1) (by decide) ?_
  refine xb_iast dX12_callFunction_173 hf (fun σ34 eσ34 hf => ?_)
  refine xm_aload_n dX12_callFunction_174 rfl ?_
  refine xb_getR (a := l0) (c := 12) (k := 55) dX12_callFunction_175 xcl12 (by decide) xw_1892 rfl hf (fun x35 ex35 hf => ?_)
  refine xm_iload_n dX12_callFunction_178 rfl ?_
  refine xm_iconst dX12_callFunction_179 (v := 0) (by decide) ?_
  refine xb_iast dX12_callFunction_180 hf (fun σ36 eσ36 hf => ?_)
  refine xm_aload_n dX12_callFunction_181 rfl ?_
  refine xb_getR (a := l0) (c := 12) (k := 49) dX12_callFunction_182 xcl12 (by decide) xw_1886 rfl hf (fun x37 ex37 hf => ?_)
  refine xm_iload_n dX12_callFunction_185 rfl ?_
  refine xm_iload dX12_callFunction_186 rfl ?_
  refine xm_iconst dX12_callFunction_188 (v := 1) (by decide) ?_
  refine xm_iadd dX12_callFunction_189 ?_
  refine xb_iast dX12_callFunction_190 hf (fun σ38 eσ38 hf => ?_)
  refine xm_iconst dX12_callFunction_191 (v := 0) (by decide) ?_
  cases hf
  exact xm_iret dX12_callFunction_192 rfl (hR _ rfl)
def f_X12_callFunction (σ : xM) (l0 : Nat) (l1 : Int32) (l2 : Int32) (l3 : Int32) : Option (Int32 × xM) :=
  (gR σ l0 12 7).bind (fun x1 => (aI σ x1 14 l2).bind (fun x2 => (gR σ l0 12 11).bind (fun x3 => (aI σ x3 14 l3).bind (fun x4 => (if x4 = x2 then (if x2 = (0 : Int32) then f_X12_callFunction_j24 σ else (gI σ l0 12 63).bind (fun x5 => (if x5 = (12 : Int32) then some ((8 : Int32), σ) else (gI σ l0 12 63).bind (fun x6 => (sI σ l0 12 63 (x6 + (1 : Int32))).bind (fun σ7 => (gR σ7 l0 12 51).bind (fun x8 => (gI σ7 l0 12 60).bind (fun x9 => (wI σ7 x8 l1 x9).bind (fun σ10 => (gR σ10 l0 12 58).bind (fun x11 => (gI σ10 l0 12 60).bind (fun x12 => (wI σ10 x11 x12 x2).bind (fun σ13 => (gR σ13 l0 12 57).bind (fun x14 => (gI σ13 l0 12 60).bind (fun x15 => (wI σ13 x14 x15 (0 : Int32)).bind (fun σ16 => (gR σ16 l0 12 59).bind (fun x17 => (gI σ16 l0 12 60).bind (fun x18 => (wI σ16 x17 x18 (-1 : Int32)).bind (fun σ19 => (gI σ19 l0 12 61).bind (fun x20 => (sI σ19 l0 12 61 (x20 - x2)).bind (fun σ21 => xlet (0 : Int32) (fun v22 => (xloop (f_X12_callFunction_s103 ) xF (l0, l1, l3, x2, v22, σ21)).bind (Sum.elim (fun g => some g) (fun e => f_X12_callFunction_j143 e.2.2.2.2 e.1 e.2.1 e.2.2.1 e.2.2.2.1)))))))))))))))))))))) else f_X12_callFunction_j24 σ)))))
set_option maxHeartbeats 4000000 in
set_option maxRecDepth 20000 in
theorem m_X12_callFunction {G : xG} {π : Nat → Nat} {d C Z : Nat} {Q : xQ} {σ : xM} {l0 : Nat} {l1 : Int32} {l2 : Int32} {l3 : Int32} {x : (Int32 × xM)} (hf : f_X12_callFunction σ l0 l1 l2 l3 = some x) (hR : ∀ g, x = g → Q (.inl (some (.int g.1))) (g.2) π) : xMach G π J_X12_callFunction (d + 1) C Z 0 (lv_args 0 [.ref l0, .int l1, .int l2, .int l3]) [] σ Q := by
  unfold f_X12_callFunction at hf
  refine xm_stL (L' := [(0, .ref l0), (1, .int l1), (2, .int l2), (3, .int l3)]) rfl ?_
  refine xm_aload_n dX12_callFunction_0 rfl ?_
  refine xb_getR (a := l0) (c := 12) (k := 7) dX12_callFunction_1 xcl12 (by decide) xw_1844 rfl hf (fun x1 ex1 hf => ?_)
  refine xm_iload_n dX12_callFunction_4 rfl ?_
  refine xb_iald dX12_callFunction_5 hf (fun x2 ex2 hf => ?_)
  refine xm_istore dX12_callFunction_6 (by decide) (xm_stL (L' := [(4, .int x2), (0, .ref l0), (1, .int l1), (2, .int l2), (3, .int l3)]) rfl ?_)
  refine xm_aload_n dX12_callFunction_8 rfl ?_
  refine xb_getR (a := l0) (c := 12) (k := 11) dX12_callFunction_9 xcl12 (by decide) xw_1848 rfl hf (fun x3 ex3 hf => ?_)
  refine xm_iload_n dX12_callFunction_12 rfl ?_
  refine xb_iald dX12_callFunction_13 hf (fun x4 ex4 hf => ?_)
  refine xm_iload dX12_callFunction_14 rfl ?_
  refine xb_icmp_ne 24 dX12_callFunction_16 (by decide) hf (fun c hf => ?_) (fun c hf => ?_)
  · exact xm_sub [] rfl (L_X12_callFunction_j24 σ hf hR)
  · refine xm_iload dX12_callFunction_19 rfl ?_
    refine xb_if_ne 26 dX12_callFunction_21 (by decide) hf (fun c hf => ?_) (fun c hf => ?_)
    · refine xm_aload_n dX12_callFunction_26 rfl ?_
      refine xb_getI (a := l0) (c := 12) (k := 63) dX12_callFunction_27 xcl12 (by decide) xw_1900 rfl hf (fun x5 ex5 hf => ?_)
      refine xm_bipush dX12_callFunction_30 (v := 12) (by decide) ?_
      refine xb_icmp_ne 38 dX12_callFunction_32 (by decide) hf (fun c hf => ?_) (fun c hf => ?_)
      · refine xm_aload_n dX12_callFunction_38 rfl ?_
        refine xm_dup dX12_callFunction_39 rfl ?_
        refine xb_getI (a := l0) (c := 12) (k := 63) dX12_callFunction_40 xcl12 (by decide) xw_1900 rfl hf (fun x6 ex6 hf => ?_)
        refine xm_iconst dX12_callFunction_43 (v := 1) (by decide) ?_
        refine xm_iadd dX12_callFunction_44 ?_
        refine xb_putI (a := l0) (c := 12) (k := 63) dX12_callFunction_45 xcl12 (by decide) xw_1900 rfl rfl hf (fun σ7 eσ7 hf => ?_)
        refine xm_aload_n dX12_callFunction_48 rfl ?_
        refine xb_getR (a := l0) (c := 12) (k := 51) dX12_callFunction_49 xcl12 (by decide) xw_1888 rfl hf (fun x8 ex8 hf => ?_)
        refine xm_iload_n dX12_callFunction_52 rfl ?_
        refine xm_aload_n dX12_callFunction_53 rfl ?_
        refine xb_getI (a := l0) (c := 12) (k := 60) dX12_callFunction_54 xcl12 (by decide) xw_1897 rfl hf (fun x9 ex9 hf => ?_)
        refine xb_iast dX12_callFunction_57 hf (fun σ10 eσ10 hf => ?_)
        refine xm_aload_n dX12_callFunction_58 rfl ?_
        refine xb_getR (a := l0) (c := 12) (k := 58) dX12_callFunction_59 xcl12 (by decide) xw_1895 rfl hf (fun x11 ex11 hf => ?_)
        refine xm_aload_n dX12_callFunction_62 rfl ?_
        refine xb_getI (a := l0) (c := 12) (k := 60) dX12_callFunction_63 xcl12 (by decide) xw_1897 rfl hf (fun x12 ex12 hf => ?_)
        refine xm_iload dX12_callFunction_66 rfl ?_
        refine xb_iast dX12_callFunction_68 hf (fun σ13 eσ13 hf => ?_)
        refine xm_aload_n dX12_callFunction_69 rfl ?_
        refine xb_getR (a := l0) (c := 12) (k := 57) dX12_callFunction_70 xcl12 (by decide) xw_1894 rfl hf (fun x14 ex14 hf => ?_)
        refine xm_aload_n dX12_callFunction_73 rfl ?_
        refine xb_getI (a := l0) (c := 12) (k := 60) dX12_callFunction_74 xcl12 (by decide) xw_1897 rfl hf (fun x15 ex15 hf => ?_)
        refine xm_iconst dX12_callFunction_77 (v := 0) (by decide) ?_
        refine xb_iast dX12_callFunction_78 hf (fun σ16 eσ16 hf => ?_)
        refine xm_aload_n dX12_callFunction_79 rfl ?_
        refine xb_getR (a := l0) (c := 12) (k := 59) dX12_callFunction_80 xcl12 (by decide) xw_1896 rfl hf (fun x17 ex17 hf => ?_)
        refine xm_aload_n dX12_callFunction_83 rfl ?_
        refine xb_getI (a := l0) (c := 12) (k := 60) dX12_callFunction_84 xcl12 (by decide) xw_1897 rfl hf (fun x18 ex18 hf => ?_)
        refine xm_iconst dX12_callFunction_87 (v := -1) (by decide) ?_
        refine xb_iast dX12_callFunction_88 hf (fun σ19 eσ19 hf => ?_)
        refine xm_aload_n dX12_callFunction_89 rfl ?_
        refine xm_dup dX12_callFunction_90 rfl ?_
        refine xb_getI (a := l0) (c := 12) (k := 61) dX12_callFunction_91 xcl12 (by decide) xw_1898 rfl hf (fun x20 ex20 hf => ?_)
        refine xm_iload dX12_callFunction_94 rfl ?_
        refine xm_isub dX12_callFunction_96 ?_
        refine xb_putI (a := l0) (c := 12) (k := 61) dX12_callFunction_97 xcl12 (by decide) xw_1898 rfl rfl hf (fun σ21 eσ21 hf => ?_)
        refine xm_iconst dX12_callFunction_100 (v := 0) (by decide) ?_
        refine xb_topi hf (fun v22 ev22 hf => ?_)
        refine xm_istore dX12_callFunction_101 (by decide) (xm_stL (L' := [(5, .int v22), (4, .int x2), (0, .ref l0), (1, .int l1), (2, .int l2), (3, .int l3)]) rfl ?_)
        obtain ⟨o, h1, hf⟩ := xbind hf
        refine xm_sub [2, 3, 5, 1, 0] rfl (L_X12_callFunction_l103  h1 (fun g hg => ?_) (fun e he => ?_))
        · subst hg
          cases hf
          exact hR _ rfl
        · subst he
          rw [Sum.elim_inr] at hf
          have hf : f_X12_callFunction_j143 e.2.2.2.2 e.1 e.2.1 e.2.2.1 e.2.2.2.1 = some _ := hf
          exact xm_sub [0, 1, 2, 3] rfl (L_X12_callFunction_j143 e.2.2.2.2 e.1 e.2.1 e.2.2.1 e.2.2.2.1 hf hR)
      · refine xm_bipush dX12_callFunction_35 (v := 8) (by decide) ?_
        cases hf
        exact xm_iret dX12_callFunction_37 rfl (hR _ rfl)
    · exact xm_sub [] rfl (L_X12_callFunction_j24 σ hf hR)
-- RankwiseModel.holds(IZ)V
def f_X12_holds_j42 (σ : xM) (l0 : Nat) (l1 : Int32) (s0 : Int32) (s1 : Int32) (s2 : Nat) : Option xM :=
  (wI σ s2 s1 s0).bind (fun σ7 => (gR σ7 l0 12 53).bind (fun x8 => (aI σ7 x8 14 l1).bind (fun x9 => (wI σ7 x8 l1 (x9 + (1 : Int32))).bind (fun σ10 => some σ10))))
set_option maxHeartbeats 4000000 in
set_option maxRecDepth 20000 in
theorem L_X12_holds_j42 {G : xG} {π : Nat → Nat} {d C Z : Nat} {Q : xQ} (σ : xM) (l0 : Nat) (l1 : Int32) (s0 : Int32) (s1 : Int32) (s2 : Nat) {x : xM} (hf : f_X12_holds_j42 σ l0 l1 s0 s1 s2 = some x) (hR : ∀ g, x = g → Q (.inl none) (g) π) : xMach G π J_X12_holds (d + 0) C Z 42 [(0, .ref l0), (1, .int l1)] [.int s0, .int s1, .ref s2] σ Q := by
  unfold f_X12_holds_j42 at hf
  refine xb_iast dX12_holds_42 hf (fun σ7 eσ7 hf => ?_)
  refine xm_aload_n dX12_holds_43 rfl ?_
  refine xb_getR (a := l0) (c := 12) (k := 53) dX12_holds_44 xcl12 (by decide) xw_1890 rfl hf (fun x8 ex8 hf => ?_)
  refine xm_iload_n dX12_holds_47 rfl ?_
  refine xm_dup2 dX12_holds_48 rfl rfl ?_
  refine xb_iald dX12_holds_49 hf (fun x9 ex9 hf => ?_)
  refine xm_iconst dX12_holds_50 (v := 1) (by decide) ?_
  refine xm_iadd dX12_holds_51 ?_
  refine xb_iast dX12_holds_52 hf (fun σ10 eσ10 hf => ?_)
  cases hf
  exact xm_vret dX12_holds_53 rfl (hR _ rfl)
def f_X12_holds_j16 (σ : xM) (l0 : Nat) (l1 : Int32) (l2 : Int32) (s0 : Int32) (s1 : Int32) (s2 : Int32) (s3 : Nat) : Option xM :=
  (wI σ s3 s2 (s1 + s0)).bind (fun σ3 => (gR σ3 l0 12 54).bind (fun x4 => (if l2 = (0 : Int32) then (gR σ3 l0 12 54).bind (fun x5 => (aI σ3 x5 14 l1).bind (fun x6 => f_X12_holds_j42 σ3 l0 l1 x6 l1 x4)) else (gR σ3 l0 12 53).bind (fun x11 => (aI σ3 x11 14 l1).bind (fun x12 => f_X12_holds_j42 σ3 l0 l1 x12 l1 x4)))))
set_option maxHeartbeats 4000000 in
set_option maxRecDepth 20000 in
theorem L_X12_holds_j16 {G : xG} {π : Nat → Nat} {d C Z : Nat} {Q : xQ} (σ : xM) (l0 : Nat) (l1 : Int32) (l2 : Int32) (s0 : Int32) (s1 : Int32) (s2 : Int32) (s3 : Nat) {x : xM} (hf : f_X12_holds_j16 σ l0 l1 l2 s0 s1 s2 s3 = some x) (hR : ∀ g, x = g → Q (.inl none) (g) π) : xMach G π J_X12_holds (d + 0) C Z 16 [(0, .ref l0), (1, .int l1), (2, .int l2)] [.int s0, .int s1, .int s2, .ref s3] σ Q := by
  unfold f_X12_holds_j16 at hf
  refine xm_iadd dX12_holds_16 ?_
  refine xb_iast dX12_holds_17 hf (fun σ3 eσ3 hf => ?_)
  refine xm_aload_n dX12_holds_18 rfl ?_
  refine xb_getR (a := l0) (c := 12) (k := 54) dX12_holds_19 xcl12 (by decide) xw_1891 rfl hf (fun x4 ex4 hf => ?_)
  refine xm_iload_n dX12_holds_22 rfl ?_
  refine xm_iload_n dX12_holds_23 rfl ?_
  refine xb_if_eq 36 dX12_holds_24 (by decide) hf (fun c hf => ?_) (fun c hf => ?_)
  · refine xm_aload_n dX12_holds_36 rfl ?_
    refine xb_getR (a := l0) (c := 12) (k := 54) dX12_holds_37 xcl12 (by decide) xw_1891 rfl hf (fun x5 ex5 hf => ?_)
    refine xm_iload_n dX12_holds_40 rfl ?_
    refine xb_iald dX12_holds_41 hf (fun x6 ex6 hf => ?_)
    exact xm_sub [0, 1] rfl (L_X12_holds_j42 σ3 l0 l1 x6 l1 x4 hf hR)
  · refine xm_aload_n dX12_holds_27 rfl ?_
    refine xb_getR (a := l0) (c := 12) (k := 53) dX12_holds_28 xcl12 (by decide) xw_1890 rfl hf (fun x11 ex11 hf => ?_)
    refine xm_iload_n dX12_holds_31 rfl ?_
    refine xb_iald dX12_holds_32 hf (fun x12 ex12 hf => ?_)
    refine xm_goto 42 dX12_holds_33 (by decide) ?_
    exact xm_sub [0, 1] rfl (L_X12_holds_j42 σ3 l0 l1 x12 l1 x4 hf hR)
def f_X12_holds (σ : xM) (l0 : Nat) (l1 : Int32) (l2 : Int32) : Option xM :=
  (gR σ l0 12 55).bind (fun x1 => (aI σ x1 14 l1).bind (fun x2 => (if l2 = (0 : Int32) then f_X12_holds_j16 σ l0 l1 l2 (0 : Int32) x2 l1 x1 else f_X12_holds_j16 σ l0 l1 l2 (1 : Int32) x2 l1 x1)))
set_option maxHeartbeats 4000000 in
set_option maxRecDepth 20000 in
theorem m_X12_holds {G : xG} {π : Nat → Nat} {d C Z : Nat} {Q : xQ} {σ : xM} {l0 : Nat} {l1 : Int32} {l2 : Int32} {x : xM} (hf : f_X12_holds σ l0 l1 l2 = some x) (hR : ∀ g, x = g → Q (.inl none) (g) π) : xMach G π J_X12_holds (d + 0) C Z 0 (lv_args 0 [.ref l0, .int l1, .int l2]) [] σ Q := by
  unfold f_X12_holds at hf
  refine xm_stL (L' := [(0, .ref l0), (1, .int l1), (2, .int l2)]) rfl ?_
  refine xm_aload_n dX12_holds_0 rfl ?_
  refine xb_getR (a := l0) (c := 12) (k := 55) dX12_holds_1 xcl12 (by decide) xw_1892 rfl hf (fun x1 ex1 hf => ?_)
  refine xm_iload_n dX12_holds_4 rfl ?_
  refine xm_dup2 dX12_holds_5 rfl rfl ?_
  refine xb_iald dX12_holds_6 hf (fun x2 ex2 hf => ?_)
  refine xm_iload_n dX12_holds_7 rfl ?_
  refine xb_if_eq 15 dX12_holds_8 (by decide) hf (fun c hf => ?_) (fun c hf => ?_)
  · refine xm_iconst dX12_holds_15 (v := 0) (by decide) ?_
    exact xm_sub [0, 1, 2] rfl (L_X12_holds_j16 σ l0 l1 l2 (0 : Int32) x2 l1 x1 hf hR)
  · refine xm_iconst dX12_holds_11 (v := 1) (by decide) ?_
    refine xm_goto 16 dX12_holds_12 (by decide) ?_
    exact xm_sub [0, 1, 2] rfl (L_X12_holds_j16 σ l0 l1 l2 (1 : Int32) x2 l1 x1 hf hR)
-- RankwiseModel.cases(II)I
def f_X12_cases_j229 (σ : xM)  : Option (Int32 × xM) :=
  some ((0 : Int32), σ)
set_option maxHeartbeats 4000000 in
set_option maxRecDepth 20000 in
theorem L_X12_cases_j229 {G : xG} {π : Nat → Nat} {d C Z : Nat} {Q : xQ} (σ : xM)  {x : (Int32 × xM)} (hf : f_X12_cases_j229 σ = some x) (hR : ∀ g, x = g → Q (.inl (some (.int g.1))) (g.2) π) : xMach G π J_X12_cases (d + 1) C Z 229 [] [] σ Q := by
  unfold f_X12_cases_j229 at hf
  refine xm_iconst dX12_cases_229 (v := 0) (by decide) ?_
  cases hf
  exact xm_iret dX12_cases_230 rfl (hR _ rfl)
def f_X12_cases_j141 (σ : xM) (s0 : Int32) : Option (Int32 × xM) :=
  some (s0, σ)
set_option maxHeartbeats 4000000 in
set_option maxRecDepth 20000 in
theorem L_X12_cases_j141 {G : xG} {π : Nat → Nat} {d C Z : Nat} {Q : xQ} (σ : xM) (s0 : Int32) {x : (Int32 × xM)} (hf : f_X12_cases_j141 σ s0 = some x) (hR : ∀ g, x = g → Q (.inl (some (.int g.1))) (g.2) π) : xMach G π J_X12_cases (d + 1) C Z 141 [] [.int s0] σ Q := by
  unfold f_X12_cases_j141 at hf
  cases hf
  exact xm_iret dX12_cases_141 rfl (hR _ rfl)
def f_X12_cases_j65 (σ : xM) (l0 : Nat) (l1 : Int32) (s0 : Int32) : Option (Int32 × xM) :=
  (gI σ l0 12 61).bind (fun x32 => (sI σ l0 12 61 (x32 - (1 : Int32))).bind (fun σ33 => (gR σ33 l0 12 49).bind (fun x34 => (aI σ33 x34 14 l1).bind (fun x35 => (wI σ33 x34 l1 (x35 - (1 : Int32))).bind (fun σ36 => (if xk σ36 l0 12 = true then (f_X12_holds σ36 l0 l1 s0).bind (fun p37 => some ((0 : Int32), p37)) else none))))))
set_option maxHeartbeats 4000000 in
set_option maxRecDepth 20000 in
theorem L_X12_cases_j65 {G : xG} {π : Nat → Nat} {d C Z : Nat} {Q : xQ} (σ : xM) (l0 : Nat) (l1 : Int32) (s0 : Int32) {x : (Int32 × xM)} (hf : f_X12_cases_j65 σ l0 l1 s0 = some x) (hR : ∀ g, x = g → Q (.inl (some (.int g.1))) (g.2) π) : xMach G π J_X12_cases (d + 1) C Z 65 [(0, .ref l0), (1, .int l1)] [.int s0] σ Q := by
  unfold f_X12_cases_j65 at hf
  refine xm_istore dX12_cases_65 (by decide) (xm_stL (L' := [(4, .int s0), (0, .ref l0), (1, .int l1)]) rfl ?_)
  refine xm_aload_n dX12_cases_67 rfl ?_
  refine xm_dup dX12_cases_68 rfl ?_
  refine xb_getI (a := l0) (c := 12) (k := 61) dX12_cases_69 xcl12 (by decide) xw_1898 rfl hf (fun x32 ex32 hf => ?_)
  refine xm_iconst dX12_cases_72 (v := 1) (by decide) ?_
  refine xm_isub dX12_cases_73 ?_
  refine xb_putI (a := l0) (c := 12) (k := 61) dX12_cases_74 xcl12 (by decide) xw_1898 rfl rfl hf (fun σ33 eσ33 hf => ?_)
  refine xm_aload_n dX12_cases_77 rfl ?_
  refine xb_getR (a := l0) (c := 12) (k := 49) dX12_cases_78 xcl12 (by decide) xw_1886 rfl hf (fun x34 ex34 hf => ?_)
  refine xm_iload_n dX12_cases_81 rfl ?_
  refine xm_dup2 dX12_cases_82 rfl rfl ?_
  refine xb_iald dX12_cases_83 hf (fun x35 ex35 hf => ?_)
  refine xm_iconst dX12_cases_84 (v := 1) (by decide) ?_
  refine xm_isub dX12_cases_85 ?_
  refine xb_iast dX12_cases_86 hf (fun σ36 eσ36 hf => ?_)
  refine xm_aload_n dX12_cases_87 rfl ?_
  refine xm_iload_n dX12_cases_88 rfl ?_
  refine xm_iload dX12_cases_89 rfl ?_
  refine xb_if hf (fun hb hf => ?_) (fun _ q => nomatch q)
  obtain ⟨p37, ep37, hf⟩ := xbind hf
  refine xb_callV (As := [.int l1, .int s0]) (v0 := none) (τ0 := p37) dX12_cases_91 (xc_X12_holds _ _) xcl12 xw_2497 xw_2499 xs_168 hb rfl (Nat.le_of_ble_eq_true rfl) rfl (Nat.le_of_ble_eq_true rfl) (fun Q1 hq => m_X12_holds (d := d + 0) ep37 (fun g hg => by subst hg; exact hq)) ?_
  refine xm_iconst dX12_cases_94 (v := 0) (by decide) ?_
  cases hf
  exact xm_iret dX12_cases_95 rfl (hR _ rfl)
def f_X12_cases (σ : xM) (l0 : Nat) (l1 : Int32) (l2 : Int32) : Option (Int32 × xM) :=
  (gR σ l0 12 52).bind (fun x1 => (aI σ x1 14 l1).bind (fun x2 => (if l2 = (3 : Int32) then (gI σ l0 12 63).bind (fun x38 => (sI σ l0 12 63 (x38 - (1 : Int32))).bind (fun σ39 => (gR σ39 l0 12 51).bind (fun x40 => (aI σ39 x40 14 l1).bind (fun x41 => (sI σ39 l0 12 60 x41).bind (fun σ42 => (gI σ42 l0 12 56).bind (fun x43 => (sI σ42 l0 12 56 (x43 - (1 : Int32))).bind (fun σ44 => some ((0 : Int32), σ44)))))))) else (if l2 = (2 : Int32) then (if xk σ l0 12 = true then (f_X12_top σ l0).bind (fun p30 => (if xk σ l0 12 = true then (f_X12_sign σ l0 p30).bind (fun p31 => (if p31 = (0 : Int32) then f_X12_cases_j65 σ l0 l1 (0 : Int32) else f_X12_cases_j65 σ l0 l1 (1 : Int32))) else none)) else none) else (gR σ l0 12 53).bind (fun x3 => (aI σ x3 14 l1).bind (fun x4 => (gR σ l0 12 12).bind (fun x5 => (aI σ x5 14 x2).bind (fun x6 => (if x4 = x6 then (gR σ l0 12 55).bind (fun x17 => (aI σ x17 14 l1).bind (fun x18 => (if x18 = (1 : Int32) then (gR σ l0 12 49).bind (fun x19 => (aI σ x19 14 l1).bind (fun x20 => (wI σ x19 l1 (x20 + (2 : Int32))).bind (fun σ21 => (gR σ21 l0 12 54).bind (fun x22 => (aI σ21 x22 14 l1).bind (fun x23 => (f_X12_caseAt σ21 x2 x23 (1 : Int32)).bind (fun p24 => (gR σ21 l0 12 51).bind (fun x25 => (aI σ21 x25 14 l1).bind (fun x26 => (if xk σ21 l0 12 = true then (f_X12_enter σ21 l0 p24 x26).bind (fun p27 => f_X12_cases_j229 p27) else none))))))))) else (gR σ l0 12 55).bind (fun x28 => (aI σ x28 14 l1).bind (fun x29 => (if x29 = (0 : Int32) then f_X12_cases_j141 σ (6 : Int32) else f_X12_cases_j141 σ (7 : Int32))))))) else (gR σ l0 12 13).bind (fun x7 => (aI σ x7 14 (((8 : Int32) * x2) + ((2 : Int32) * x4))).bind (fun x8 => (if x8 = (0 : Int32) then (if xk σ l0 12 = true then (f_X12_holds σ l0 l1 (1 : Int32)).bind (fun p16 => f_X12_cases_j229 p16) else none) else (gR σ l0 12 49).bind (fun x9 => (aI σ x9 14 l1).bind (fun x10 => (wI σ x9 l1 (x10 + (1 : Int32))).bind (fun σ11 => (f_X12_caseAt σ11 x2 x4 (0 : Int32)).bind (fun p12 => (gR σ11 l0 12 51).bind (fun x13 => (aI σ11 x13 14 l1).bind (fun x14 => (if xk σ11 l0 12 = true then (f_X12_enter σ11 l0 p12 x14).bind (fun p15 => f_X12_cases_j229 p15) else none)))))))))))))))))))
set_option maxHeartbeats 4000000 in
set_option maxRecDepth 20000 in
theorem m_X12_cases {G : xG} {π : Nat → Nat} {d C Z : Nat} {Q : xQ} {σ : xM} {l0 : Nat} {l1 : Int32} {l2 : Int32} {x : (Int32 × xM)} (hf : f_X12_cases σ l0 l1 l2 = some x) (hR : ∀ g, x = g → Q (.inl (some (.int g.1))) (g.2) π) : xMach G π J_X12_cases (d + 1) C Z 0 (lv_args 0 [.ref l0, .int l1, .int l2]) [] σ Q := by
  unfold f_X12_cases at hf
  refine xm_stL (L' := [(0, .ref l0), (1, .int l1), (2, .int l2)]) rfl ?_
  refine xm_aload_n dX12_cases_0 rfl ?_
  refine xb_getR (a := l0) (c := 12) (k := 52) dX12_cases_1 xcl12 (by decide) xw_1889 rfl hf (fun x1 ex1 hf => ?_)
  refine xm_iload_n dX12_cases_4 rfl ?_
  refine xb_iald dX12_cases_5 hf (fun x2 ex2 hf => ?_)
  refine xm_istore_n dX12_cases_6 (by decide) (xm_stL (L' := [(3, .int x2), (0, .ref l0), (1, .int l1), (2, .int l2)]) rfl ?_)
  refine xm_iload_n dX12_cases_7 rfl ?_
  refine xm_iconst dX12_cases_8 (v := 3) (by decide) ?_
  refine xb_icmp_ne 44 dX12_cases_9 (by decide) hf (fun c hf => ?_) (fun c hf => ?_)
  · refine xm_iload_n dX12_cases_44 rfl ?_
    refine xm_iconst dX12_cases_45 (v := 2) (by decide) ?_
    refine xb_icmp_ne 96 dX12_cases_46 (by decide) hf (fun c hf => ?_) (fun c hf => ?_)
    · refine xm_aload_n dX12_cases_96 rfl ?_
      refine xb_getR (a := l0) (c := 12) (k := 53) dX12_cases_97 xcl12 (by decide) xw_1890 rfl hf (fun x3 ex3 hf => ?_)
      refine xm_iload_n dX12_cases_100 rfl ?_
      refine xb_iald dX12_cases_101 hf (fun x4 ex4 hf => ?_)
      refine xm_istore dX12_cases_102 (by decide) (xm_stL (L' := [(4, .int x4), (3, .int x2), (0, .ref l0), (1, .int l1), (2, .int l2)]) rfl ?_)
      refine xm_iload dX12_cases_104 rfl ?_
      refine xm_aload_n dX12_cases_106 rfl ?_
      refine xb_getR (a := l0) (c := 12) (k := 12) dX12_cases_107 xcl12 (by decide) xw_1849 rfl hf (fun x5 ex5 hf => ?_)
      refine xm_iload_n dX12_cases_110 rfl ?_
      refine xb_iald dX12_cases_111 hf (fun x6 ex6 hf => ?_)
      refine xb_icmp_ne 176 dX12_cases_112 (by decide) hf (fun c hf => ?_) (fun c hf => ?_)
      · refine xm_aload_n dX12_cases_176 rfl ?_
        refine xb_getR (a := l0) (c := 12) (k := 13) dX12_cases_177 xcl12 (by decide) xw_1850 rfl hf (fun x7 ex7 hf => ?_)
        refine xm_bipush dX12_cases_180 (v := 8) (by decide) ?_
        refine xm_iload_n dX12_cases_182 rfl ?_
        refine xm_imul dX12_cases_183 ?_
        refine xm_iconst dX12_cases_184 (v := 2) (by decide) ?_
        refine xm_iload dX12_cases_185 rfl ?_
        refine xm_imul dX12_cases_187 ?_
        refine xm_iadd dX12_cases_188 ?_
        refine xb_iald dX12_cases_189 hf (fun x8 ex8 hf => ?_)
        refine xb_if_ne 202 dX12_cases_190 (by decide) hf (fun c hf => ?_) (fun c hf => ?_)
        · refine xm_aload_n dX12_cases_202 rfl ?_
          refine xb_getR (a := l0) (c := 12) (k := 49) dX12_cases_203 xcl12 (by decide) xw_1886 rfl hf (fun x9 ex9 hf => ?_)
          refine xm_iload_n dX12_cases_206 rfl ?_
          refine xm_dup2 dX12_cases_207 rfl rfl ?_
          refine xb_iald dX12_cases_208 hf (fun x10 ex10 hf => ?_)
          refine xm_iconst dX12_cases_209 (v := 1) (by decide) ?_
          refine xm_iadd dX12_cases_210 ?_
          refine xb_iast dX12_cases_211 hf (fun σ11 eσ11 hf => ?_)
          refine xm_aload_n dX12_cases_212 rfl ?_
          refine xm_iload_n dX12_cases_213 rfl ?_
          refine xm_iload dX12_cases_214 rfl ?_
          refine xm_iconst dX12_cases_216 (v := 0) (by decide) ?_
          obtain ⟨p12, ep12, hf⟩ := xbind hf
          refine xb_callS (As := [.int x2, .int x4, .int (0 : Int32)]) (v0 := (some (.int p12))) (τ0 := σ11) dX12_cases_217 (xc_X12_caseAt _ _) xw_2501 xw_2502 rfl (Nat.le_of_ble_eq_true rfl) rfl (Nat.le_of_ble_eq_true rfl) (fun Q1 hq => m_X12_caseAt (d := d + 0) ep12 (fun g hg => by subst hg; exact hq)) ?_
          refine xm_aload_n dX12_cases_220 rfl ?_
          refine xb_getR (a := l0) (c := 12) (k := 51) dX12_cases_221 xcl12 (by decide) xw_1888 rfl hf (fun x13 ex13 hf => ?_)
          refine xm_iload_n dX12_cases_224 rfl ?_
          refine xb_iald dX12_cases_225 hf (fun x14 ex14 hf => ?_)
          refine xb_if hf (fun hb hf => ?_) (fun _ q => nomatch q)
          obtain ⟨p15, ep15, hf⟩ := xbind hf
          refine xb_callV (As := [.int p12, .int x14]) (v0 := none) (τ0 := p15) dX12_cases_226 (xc_X12_enter _ _) xcl12 xw_2363 xw_2365 xs_135 hb rfl (Nat.le_of_ble_eq_true rfl) rfl (Nat.le_of_ble_eq_true rfl) (fun Q1 hq => m_X12_enter (d := d + 0) ep15 (fun g hg => by subst hg; exact hq)) ?_
          exact xm_sub [] rfl (L_X12_cases_j229 p15 hf hR)
        · refine xm_aload_n dX12_cases_193 rfl ?_
          refine xm_iload_n dX12_cases_194 rfl ?_
          refine xm_iconst dX12_cases_195 (v := 1) (by decide) ?_
          refine xb_if hf (fun hb hf => ?_) (fun _ q => nomatch q)
          obtain ⟨p16, ep16, hf⟩ := xbind hf
          refine xb_callV (As := [.int l1, .int (1 : Int32)]) (v0 := none) (τ0 := p16) dX12_cases_196 (xc_X12_holds _ _) xcl12 xw_2497 xw_2499 xs_168 hb rfl (Nat.le_of_ble_eq_true rfl) rfl (Nat.le_of_ble_eq_true rfl) (fun Q1 hq => m_X12_holds (d := d + 0) ep16 (fun g hg => by subst hg; exact hq)) ?_
          refine xm_goto 229 dX12_cases_199 (by decide) ?_
          exact xm_sub [] rfl (L_X12_cases_j229 p16 hf hR)
      · refine xm_aload_n dX12_cases_115 rfl ?_
        refine xb_getR (a := l0) (c := 12) (k := 55) dX12_cases_116 xcl12 (by decide) xw_1892 rfl hf (fun x17 ex17 hf => ?_)
        refine xm_iload_n dX12_cases_119 rfl ?_
        refine xb_iald dX12_cases_120 hf (fun x18 ex18 hf => ?_)
        refine xm_iconst dX12_cases_121 (v := 1) (by decide) ?_
        refine xb_icmp_eq 142 dX12_cases_122 (by decide) hf (fun c hf => ?_) (fun c hf => ?_)
        · refine xm_aload_n dX12_cases_142 rfl ?_
          refine xb_getR (a := l0) (c := 12) (k := 49) dX12_cases_143 xcl12 (by decide) xw_1886 rfl hf (fun x19 ex19 hf => ?_)
          refine xm_iload_n dX12_cases_146 rfl ?_
          refine xm_dup2 dX12_cases_147 rfl rfl ?_
          refine xb_iald dX12_cases_148 hf (fun x20 ex20 hf => ?_)
          refine xm_iconst dX12_cases_149 (v := 2) (by decide) ?_
          refine xm_iadd dX12_cases_150 ?_
          refine xb_iast dX12_cases_151 hf (fun σ21 eσ21 hf => ?_)
          refine xm_aload_n dX12_cases_152 rfl ?_
          refine xm_iload_n dX12_cases_153 rfl ?_
          refine xm_aload_n dX12_cases_154 rfl ?_
          refine xb_getR (a := l0) (c := 12) (k := 54) dX12_cases_155 xcl12 (by decide) xw_1891 rfl hf (fun x22 ex22 hf => ?_)
          refine xm_iload_n dX12_cases_158 rfl ?_
          refine xb_iald dX12_cases_159 hf (fun x23 ex23 hf => ?_)
          refine xm_iconst dX12_cases_160 (v := 1) (by decide) ?_
          obtain ⟨p24, ep24, hf⟩ := xbind hf
          refine xb_callS (As := [.int x2, .int x23, .int (1 : Int32)]) (v0 := (some (.int p24))) (τ0 := σ21) dX12_cases_161 (xc_X12_caseAt _ _) xw_2501 xw_2502 rfl (Nat.le_of_ble_eq_true rfl) rfl (Nat.le_of_ble_eq_true rfl) (fun Q1 hq => m_X12_caseAt (d := d + 0) ep24 (fun g hg => by subst hg; exact hq)) ?_
          refine xm_aload_n dX12_cases_164 rfl ?_
          refine xb_getR (a := l0) (c := 12) (k := 51) dX12_cases_165 xcl12 (by decide) xw_1888 rfl hf (fun x25 ex25 hf => ?_)
          refine xm_iload_n dX12_cases_168 rfl ?_
          refine xb_iald dX12_cases_169 hf (fun x26 ex26 hf => ?_)
          refine xb_if hf (fun hb hf => ?_) (fun _ q => nomatch q)
          obtain ⟨p27, ep27, hf⟩ := xbind hf
          refine xb_callV (As := [.int p24, .int x26]) (v0 := none) (τ0 := p27) dX12_cases_170 (xc_X12_enter _ _) xcl12 xw_2363 xw_2365 xs_135 hb rfl (Nat.le_of_ble_eq_true rfl) rfl (Nat.le_of_ble_eq_true rfl) (fun Q1 hq => m_X12_enter (d := d + 0) ep27 (fun g hg => by subst hg; exact hq)) ?_
          refine xm_goto 229 dX12_cases_173 (by decide) ?_
          exact xm_sub [] rfl (L_X12_cases_j229 p27 hf hR)
        · refine xm_aload_n dX12_cases_125 rfl ?_
          refine xb_getR (a := l0) (c := 12) (k := 55) dX12_cases_126 xcl12 (by decide) xw_1892 rfl hf (fun x28 ex28 hf => ?_)
          refine xm_iload_n dX12_cases_129 rfl ?_
          refine xb_iald dX12_cases_130 hf (fun x29 ex29 hf => ?_)
          refine xb_if_ne 139 dX12_cases_131 (by decide) hf (fun c hf => ?_) (fun c hf => ?_)
          · refine xm_bipush dX12_cases_139 (v := 7) (by decide) ?_
            exact xm_sub [] rfl (L_X12_cases_j141 σ (7 : Int32) hf hR)
          · refine xm_bipush dX12_cases_134 (v := 6) (by decide) ?_
            refine xm_goto 141 dX12_cases_136 (by decide) ?_
            exact xm_sub [] rfl (L_X12_cases_j141 σ (6 : Int32) hf hR)
    · refine xm_aload_n dX12_cases_49 rfl ?_
      refine xm_aload_n dX12_cases_50 rfl ?_
      refine xb_if hf (fun hb hf => ?_) (fun _ q => nomatch q)
      obtain ⟨p30, ep30, hf⟩ := xbind hf
      refine xb_callV (As := []) (v0 := (some (.int p30))) (τ0 := σ) dX12_cases_51 (xc_X12_top _ _) xcl12 xw_2383 xw_2385 xs_140 hb rfl (Nat.le_of_ble_eq_true rfl) rfl (Nat.le_of_ble_eq_true rfl) (fun Q1 hq => m_X12_top (d := d + 0) ep30 (fun g hg => by subst hg; exact hq)) ?_
      refine xb_if hf (fun hb hf => ?_) (fun _ q => nomatch q)
      obtain ⟨p31, ep31, hf⟩ := xbind hf
      refine xb_callV (As := [.int p30]) (v0 := (some (.int p31))) (τ0 := σ) dX12_cases_54 (xc_X12_sign _ _) xcl12 xw_2387 xw_2389 xs_141 hb rfl (Nat.le_of_ble_eq_true rfl) rfl (Nat.le_of_ble_eq_true rfl) (fun Q1 hq => m_X12_sign (d := d + 0) ep31 (fun g hg => by subst hg; exact hq)) ?_
      refine xb_if_eq 64 dX12_cases_57 (by decide) hf (fun c hf => ?_) (fun c hf => ?_)
      · refine xm_iconst dX12_cases_64 (v := 0) (by decide) ?_
        exact xm_sub [1, 2] rfl (L_X12_cases_j65 σ l0 l1 (0 : Int32) hf hR)
      · refine xm_iconst dX12_cases_60 (v := 1) (by decide) ?_
        refine xm_goto 65 dX12_cases_61 (by decide) ?_
        exact xm_sub [1, 2] rfl (L_X12_cases_j65 σ l0 l1 (1 : Int32) hf hR)
  · refine xm_aload_n dX12_cases_12 rfl ?_
    refine xm_dup dX12_cases_13 rfl ?_
    refine xb_getI (a := l0) (c := 12) (k := 63) dX12_cases_14 xcl12 (by decide) xw_1900 rfl hf (fun x38 ex38 hf => ?_)
    refine xm_iconst dX12_cases_17 (v := 1) (by decide) ?_
    refine xm_isub dX12_cases_18 ?_
    refine xb_putI (a := l0) (c := 12) (k := 63) dX12_cases_19 xcl12 (by decide) xw_1900 rfl rfl hf (fun σ39 eσ39 hf => ?_)
    refine xm_aload_n dX12_cases_22 rfl ?_
    refine xm_aload_n dX12_cases_23 rfl ?_
    refine xb_getR (a := l0) (c := 12) (k := 51) dX12_cases_24 xcl12 (by decide) xw_1888 rfl hf (fun x40 ex40 hf => ?_)
    refine xm_iload_n dX12_cases_27 rfl ?_
    refine xb_iald dX12_cases_28 hf (fun x41 ex41 hf => ?_)
    refine xb_putI (a := l0) (c := 12) (k := 60) dX12_cases_29 xcl12 (by decide) xw_1897 rfl rfl hf (fun σ42 eσ42 hf => ?_)
    refine xm_aload_n dX12_cases_32 rfl ?_
    refine xm_dup dX12_cases_33 rfl ?_
    refine xb_getI (a := l0) (c := 12) (k := 56) dX12_cases_34 xcl12 (by decide) xw_1893 rfl hf (fun x43 ex43 hf => ?_)
    refine xm_iconst dX12_cases_37 (v := 1) (by decide) ?_
    refine xm_isub dX12_cases_38 ?_
    refine xb_putI (a := l0) (c := 12) (k := 56) dX12_cases_39 xcl12 (by decide) xw_1893 rfl rfl hf (fun σ44 eσ44 hf => ?_)
    refine xm_iconst dX12_cases_42 (v := 0) (by decide) ?_
    cases hf
    exact xm_iret dX12_cases_43 rfl (hR _ rfl)
-- RankwiseModel.applies(II)I
def f_X12_applies_j112 (σ : xM) (l0 : Nat) (l1 : Int32) (l2 : Int32) (l3 : Int32) (l4 : Int32) (s0 : Int32) : Option (Int32 × xM) :=
  (if l4 ≤ (0 : Int32) then (if s0 < (100 : Int32) then (gI σ l0 12 56).bind (fun x11 => (sI σ l0 12 56 (x11 - (1 : Int32))).bind (fun σ12 => (if l3 = (1 : Int32) then (if xk σ12 l0 12 = true then (f_X12_top σ12 l0).bind (fun p18 => (if xk σ12 l0 12 = true then (f_X12_one σ12 l0 s0 p18).bind (fun p19 => some (p19.1, p19.2)) else none)) else none) else (gI σ12 l0 12 61).bind (fun x13 => (sI σ12 l0 12 61 (x13 - (1 : Int32))).bind (fun σ14 => (if xk σ14 l0 12 = true then (f_X12_top σ14 l0).bind (fun p15 => (if xk σ14 l0 12 = true then (f_X12_top σ14 l0).bind (fun p16 => (if xk σ14 l0 12 = true then (f_X12_two σ14 l0 s0 p15 (p16 + (1 : Int32))).bind (fun p17 => some (p17.1, p17.2)) else none)) else none)) else none)))))) else (if xk σ l0 12 = true then (f_X12_callFunction σ l0 l1 l2 (s0 - (100 : Int32))).bind (fun p20 => some (p20.1, p20.2)) else none)) else some (l4, σ))
set_option maxHeartbeats 4000000 in
set_option maxRecDepth 20000 in
theorem L_X12_applies_j112 {G : xG} {π : Nat → Nat} {d C Z : Nat} {Q : xQ} (σ : xM) (l0 : Nat) (l1 : Int32) (l2 : Int32) (l3 : Int32) (l4 : Int32) (s0 : Int32) {x : (Int32 × xM)} (hf : f_X12_applies_j112 σ l0 l1 l2 l3 l4 s0 = some x) (hR : ∀ g, x = g → Q (.inl (some (.int g.1))) (g.2) π) : xMach G π J_X12_applies (d + 9) C Z 112 [(0, .ref l0), (1, .int l1), (2, .int l2), (3, .int l3), (4, .int l4)] [.int s0] σ Q := by
  unfold f_X12_applies_j112 at hf
  refine xm_istore dX12_applies_112 (by decide) (xm_stL (L' := [(5, .int s0), (0, .ref l0), (1, .int l1), (2, .int l2), (3, .int l3), (4, .int l4)]) rfl ?_)
  refine xm_iload dX12_applies_114 rfl ?_
  refine xb_if_le 122 dX12_applies_116 (by decide) hf (fun c hf => ?_) (fun c hf => ?_)
  · refine xm_iload dX12_applies_122 rfl ?_
    refine xm_bipush dX12_applies_124 (v := 100) (by decide) ?_
    refine xb_icmp_lt 141 dX12_applies_126 (by decide) hf (fun c hf => ?_) (fun c hf => ?_)
    · refine xm_aload_n dX12_applies_141 rfl ?_
      refine xm_dup dX12_applies_142 rfl ?_
      refine xb_getI (a := l0) (c := 12) (k := 56) dX12_applies_143 xcl12 (by decide) xw_1893 rfl hf (fun x11 ex11 hf => ?_)
      refine xm_iconst dX12_applies_146 (v := 1) (by decide) ?_
      refine xm_isub dX12_applies_147 ?_
      refine xb_putI (a := l0) (c := 12) (k := 56) dX12_applies_148 xcl12 (by decide) xw_1893 rfl rfl hf (fun σ12 eσ12 hf => ?_)
      refine xm_iload_n dX12_applies_151 rfl ?_
      refine xm_iconst dX12_applies_152 (v := 1) (by decide) ?_
      refine xb_icmp_ne 167 dX12_applies_153 (by decide) hf (fun c hf => ?_) (fun c hf => ?_)
      · refine xm_aload_n dX12_applies_167 rfl ?_
        refine xm_dup dX12_applies_168 rfl ?_
        refine xb_getI (a := l0) (c := 12) (k := 61) dX12_applies_169 xcl12 (by decide) xw_1898 rfl hf (fun x13 ex13 hf => ?_)
        refine xm_iconst dX12_applies_172 (v := 1) (by decide) ?_
        refine xm_isub dX12_applies_173 ?_
        refine xb_putI (a := l0) (c := 12) (k := 61) dX12_applies_174 xcl12 (by decide) xw_1898 rfl rfl hf (fun σ14 eσ14 hf => ?_)
        refine xm_aload_n dX12_applies_177 rfl ?_
        refine xm_iload dX12_applies_178 rfl ?_
        refine xm_aload_n dX12_applies_180 rfl ?_
        refine xb_if hf (fun hb hf => ?_) (fun _ q => nomatch q)
        obtain ⟨p15, ep15, hf⟩ := xbind hf
        refine xb_callV (As := []) (v0 := (some (.int p15))) (τ0 := σ14) dX12_applies_181 (xc_X12_top _ _) xcl12 xw_2383 xw_2385 xs_140 hb rfl (Nat.le_of_ble_eq_true rfl) rfl (Nat.le_of_ble_eq_true rfl) (fun Q1 hq => m_X12_top (d := d + 8) ep15 (fun g hg => by subst hg; exact hq)) ?_
        refine xm_aload_n dX12_applies_184 rfl ?_
        refine xb_if hf (fun hb hf => ?_) (fun _ q => nomatch q)
        obtain ⟨p16, ep16, hf⟩ := xbind hf
        refine xb_callV (As := []) (v0 := (some (.int p16))) (τ0 := σ14) dX12_applies_185 (xc_X12_top _ _) xcl12 xw_2383 xw_2385 xs_140 hb rfl (Nat.le_of_ble_eq_true rfl) rfl (Nat.le_of_ble_eq_true rfl) (fun Q1 hq => m_X12_top (d := d + 8) ep16 (fun g hg => by subst hg; exact hq)) ?_
        refine xm_iconst dX12_applies_188 (v := 1) (by decide) ?_
        refine xm_iadd dX12_applies_189 ?_
        refine xb_if hf (fun hb hf => ?_) (fun _ q => nomatch q)
        obtain ⟨p17, ep17, hf⟩ := xbind hf
        refine xb_callV (As := [.int s0, .int p15, .int (p16 + (1 : Int32))]) (v0 := (some (.int p17.1))) (τ0 := p17.2) dX12_applies_190 (xc_X12_two _ _) xcl12 xw_2524 xw_2526 xs_174 hb rfl (Nat.le_of_ble_eq_true rfl) rfl (Nat.le_of_ble_eq_true rfl) (fun Q1 hq => m_X12_two (d := d + 0) ep17 (fun g hg => by subst hg; exact hq)) ?_
        cases hf
        exact xm_iret dX12_applies_193 rfl (hR _ rfl)
      · refine xm_aload_n dX12_applies_156 rfl ?_
        refine xm_iload dX12_applies_157 rfl ?_
        refine xm_aload_n dX12_applies_159 rfl ?_
        refine xb_if hf (fun hb hf => ?_) (fun _ q => nomatch q)
        obtain ⟨p18, ep18, hf⟩ := xbind hf
        refine xb_callV (As := []) (v0 := (some (.int p18))) (τ0 := σ12) dX12_applies_160 (xc_X12_top _ _) xcl12 xw_2383 xw_2385 xs_140 hb rfl (Nat.le_of_ble_eq_true rfl) rfl (Nat.le_of_ble_eq_true rfl) (fun Q1 hq => m_X12_top (d := d + 8) ep18 (fun g hg => by subst hg; exact hq)) ?_
        refine xb_if hf (fun hb hf => ?_) (fun _ q => nomatch q)
        obtain ⟨p19, ep19, hf⟩ := xbind hf
        refine xb_callV (As := [.int s0, .int p18]) (v0 := (some (.int p19.1))) (τ0 := p19.2) dX12_applies_163 (xc_X12_one _ _) xcl12 xw_2512 xw_2514 xs_171 hb rfl (Nat.le_of_ble_eq_true rfl) rfl (Nat.le_of_ble_eq_true rfl) (fun Q1 hq => m_X12_one (d := d + 1) ep19 (fun g hg => by subst hg; exact hq)) ?_
        cases hf
        exact xm_iret dX12_applies_166 rfl (hR _ rfl)
    · refine xm_aload_n dX12_applies_129 rfl ?_
      refine xm_iload_n dX12_applies_130 rfl ?_
      refine xm_iload_n dX12_applies_131 rfl ?_
      refine xm_iload dX12_applies_132 rfl ?_
      refine xm_bipush dX12_applies_134 (v := 100) (by decide) ?_
      refine xm_isub dX12_applies_136 ?_
      refine xb_if hf (fun hb hf => ?_) (fun _ q => nomatch q)
      obtain ⟨p20, ep20, hf⟩ := xbind hf
      refine xb_callV (As := [.int l1, .int l2, .int (s0 - (100 : Int32))]) (v0 := (some (.int p20.1))) (τ0 := p20.2) dX12_applies_137 (xc_X12_callFunction _ _) xcl12 xw_2508 xw_2510 xs_170 hb rfl (Nat.le_of_ble_eq_true rfl) rfl (Nat.le_of_ble_eq_true rfl) (fun Q1 hq => m_X12_callFunction (d := d + 7) ep20 (fun g hg => by subst hg; exact hq)) ?_
      cases hf
      exact xm_iret dX12_applies_140 rfl (hR _ rfl)
  · refine xm_iload dX12_applies_119 rfl ?_
    cases hf
    exact xm_iret dX12_applies_121 rfl (hR _ rfl)
def f_X12_applies (σ : xM) (l0 : Nat) (l1 : Int32) (l2 : Int32) : Option (Int32 × xM) :=
  (gR σ l0 12 7).bind (fun x1 => (aI σ x1 14 l2).bind (fun x2 => (gR σ l0 12 49).bind (fun x3 => (aI σ x3 14 l1).bind (fun x4 => (if x2 ≤ x4 then (gR σ l0 12 49).bind (fun x5 => (aI σ x5 14 l1).bind (fun x6 => (if x6 ≤ x2 then (if xk σ l0 12 = true then (f_X12_count σ l0).bind (fun p7 => (gR p7.2 l0 12 4).bind (fun x8 => (aI p7.2 x8 14 l2).bind (fun x9 => (if x9 = (2 : Int32) then (gR p7.2 l0 12 5).bind (fun x21 => (aI p7.2 x21 14 l2).bind (fun x22 => f_X12_applies_j112 p7.2 l0 l1 l2 x2 p7.1 (((100 : Int32) + x22) - (97 : Int32)))) else (if xk p7.2 l0 12 = true then (f_X12_meaningAt p7.2 l0 l2).bind (fun p10 => f_X12_applies_j112 p7.2 l0 l1 l2 x2 p7.1 p10) else none))))) else none) else (gR σ l0 12 49).bind (fun x23 => (aI σ x23 14 l1).bind (fun x24 => (if xk σ l0 12 = true then (f_X12_cases σ l0 l1 (x24 - x2)).bind (fun p25 => some (p25.1, p25.2)) else none)))))) else (gR σ l0 12 49).bind (fun x26 => (aI σ x26 14 l1).bind (fun x27 => (wI σ x26 l1 (x27 + (1 : Int32))).bind (fun σ28 => (gR σ28 l0 12 49).bind (fun x29 => (aI σ28 x29 14 l1).bind (fun x30 => (if xk σ28 l0 12 = true then (f_X12_child σ28 l0 l2 (x30 - (1 : Int32))).bind (fun p31 => (gR σ28 l0 12 50).bind (fun x32 => (aI σ28 x32 14 l1).bind (fun x33 => (if xk σ28 l0 12 = true then (f_X12_enter σ28 l0 p31 x33).bind (fun p34 => some ((0 : Int32), p34)) else none)))) else none)))))))))))
set_option maxHeartbeats 4000000 in
set_option maxRecDepth 20000 in
theorem m_X12_applies {G : xG} {π : Nat → Nat} {d C Z : Nat} {Q : xQ} {σ : xM} {l0 : Nat} {l1 : Int32} {l2 : Int32} {x : (Int32 × xM)} (hf : f_X12_applies σ l0 l1 l2 = some x) (hR : ∀ g, x = g → Q (.inl (some (.int g.1))) (g.2) π) : xMach G π J_X12_applies (d + 9) C Z 0 (lv_args 0 [.ref l0, .int l1, .int l2]) [] σ Q := by
  unfold f_X12_applies at hf
  refine xm_stL (L' := [(0, .ref l0), (1, .int l1), (2, .int l2)]) rfl ?_
  refine xm_aload_n dX12_applies_0 rfl ?_
  refine xb_getR (a := l0) (c := 12) (k := 7) dX12_applies_1 xcl12 (by decide) xw_1844 rfl hf (fun x1 ex1 hf => ?_)
  refine xm_iload_n dX12_applies_4 rfl ?_
  refine xb_iald dX12_applies_5 hf (fun x2 ex2 hf => ?_)
  refine xm_istore_n dX12_applies_6 (by decide) (xm_stL (L' := [(3, .int x2), (0, .ref l0), (1, .int l1), (2, .int l2)]) rfl ?_)
  refine xm_aload_n dX12_applies_7 rfl ?_
  refine xb_getR (a := l0) (c := 12) (k := 49) dX12_applies_8 xcl12 (by decide) xw_1886 rfl hf (fun x3 ex3 hf => ?_)
  refine xm_iload_n dX12_applies_11 rfl ?_
  refine xb_iald dX12_applies_12 hf (fun x4 ex4 hf => ?_)
  refine xm_iload_n dX12_applies_13 rfl ?_
  refine xb_icmp_ge 52 dX12_applies_14 (by decide) hf (fun c hf => ?_) (fun c hf => ?_)
  · refine xm_aload_n dX12_applies_52 rfl ?_
    refine xb_getR (a := l0) (c := 12) (k := 49) dX12_applies_53 xcl12 (by decide) xw_1886 rfl hf (fun x5 ex5 hf => ?_)
    refine xm_iload_n dX12_applies_56 rfl ?_
    refine xb_iald dX12_applies_57 hf (fun x6 ex6 hf => ?_)
    refine xm_iload_n dX12_applies_58 rfl ?_
    refine xb_icmp_le 76 dX12_applies_59 (by decide) hf (fun c hf => ?_) (fun c hf => ?_)
    · refine xm_aload_n dX12_applies_76 rfl ?_
      refine xb_if hf (fun hb hf => ?_) (fun _ q => nomatch q)
      obtain ⟨p7, ep7, hf⟩ := xbind hf
      refine xb_callV (As := []) (v0 := (some (.int p7.1))) (τ0 := p7.2) dX12_applies_77 (xc_X12_count _ _) xcl12 xw_2371 xw_2373 xs_137 hb rfl (Nat.le_of_ble_eq_true rfl) rfl (Nat.le_of_ble_eq_true rfl) (fun Q1 hq => m_X12_count (d := d + 8) ep7 (fun g hg => by subst hg; exact hq)) ?_
      refine xm_istore dX12_applies_80 (by decide) (xm_stL (L' := [(4, .int p7.1), (3, .int x2), (0, .ref l0), (1, .int l1), (2, .int l2)]) rfl ?_)
      refine xm_aload_n dX12_applies_82 rfl ?_
      refine xb_getR (a := l0) (c := 12) (k := 4) dX12_applies_83 xcl12 (by decide) xw_1841 rfl hf (fun x8 ex8 hf => ?_)
      refine xm_iload_n dX12_applies_86 rfl ?_
      refine xb_iald dX12_applies_87 hf (fun x9 ex9 hf => ?_)
      refine xm_iconst dX12_applies_88 (v := 2) (by decide) ?_
      refine xb_icmp_ne 107 dX12_applies_89 (by decide) hf (fun c hf => ?_) (fun c hf => ?_)
      · refine xm_aload_n dX12_applies_107 rfl ?_
        refine xm_iload_n dX12_applies_108 rfl ?_
        refine xb_if hf (fun hb hf => ?_) (fun _ q => nomatch q)
        obtain ⟨p10, ep10, hf⟩ := xbind hf
        refine xb_callV (As := [.int l2]) (v0 := (some (.int p10))) (τ0 := p7.2) dX12_applies_109 (xc_X12_meaningAt _ _) xcl12 xw_2504 xw_2506 xs_169 hb rfl (Nat.le_of_ble_eq_true rfl) rfl (Nat.le_of_ble_eq_true rfl) (fun Q1 hq => m_X12_meaningAt (d := d + 7) ep10 (fun g hg => by subst hg; exact hq)) ?_
        exact xm_sub [2, 3, 4, 1, 0] rfl (L_X12_applies_j112 p7.2 l0 l1 l2 x2 p7.1 p10 hf hR)
      · refine xm_bipush dX12_applies_92 (v := 100) (by decide) ?_
        refine xm_aload_n dX12_applies_94 rfl ?_
        refine xb_getR (a := l0) (c := 12) (k := 5) dX12_applies_95 xcl12 (by decide) xw_1842 rfl hf (fun x21 ex21 hf => ?_)
        refine xm_iload_n dX12_applies_98 rfl ?_
        refine xb_iald dX12_applies_99 hf (fun x22 ex22 hf => ?_)
        refine xm_iadd dX12_applies_100 ?_
        refine xm_bipush dX12_applies_101 (v := 97) (by decide) ?_
        refine xm_isub dX12_applies_103 ?_
        refine xm_goto 112 dX12_applies_104 (by decide) ?_
        exact xm_sub [2, 3, 4, 1, 0] rfl (L_X12_applies_j112 p7.2 l0 l1 l2 x2 p7.1 (((100 : Int32) + x22) - (97 : Int32)) hf hR)
    · refine xm_aload_n dX12_applies_62 rfl ?_
      refine xm_iload_n dX12_applies_63 rfl ?_
      refine xm_aload_n dX12_applies_64 rfl ?_
      refine xb_getR (a := l0) (c := 12) (k := 49) dX12_applies_65 xcl12 (by decide) xw_1886 rfl hf (fun x23 ex23 hf => ?_)
      refine xm_iload_n dX12_applies_68 rfl ?_
      refine xb_iald dX12_applies_69 hf (fun x24 ex24 hf => ?_)
      refine xm_iload_n dX12_applies_70 rfl ?_
      refine xm_isub dX12_applies_71 ?_
      refine xb_if hf (fun hb hf => ?_) (fun _ q => nomatch q)
      obtain ⟨p25, ep25, hf⟩ := xbind hf
      refine xb_callV (As := [.int l1, .int (x24 - x2)]) (v0 := (some (.int p25.1))) (τ0 := p25.2) dX12_applies_72 (xc_X12_cases _ _) xcl12 xw_2493 xw_2495 xs_167 hb rfl (Nat.le_of_ble_eq_true rfl) rfl (Nat.le_of_ble_eq_true rfl) (fun Q1 hq => m_X12_cases (d := d + 7) ep25 (fun g hg => by subst hg; exact hq)) ?_
      cases hf
      exact xm_iret dX12_applies_75 rfl (hR _ rfl)
  · refine xm_aload_n dX12_applies_17 rfl ?_
    refine xb_getR (a := l0) (c := 12) (k := 49) dX12_applies_18 xcl12 (by decide) xw_1886 rfl hf (fun x26 ex26 hf => ?_)
    refine xm_iload_n dX12_applies_21 rfl ?_
    refine xm_dup2 dX12_applies_22 rfl rfl ?_
    refine xb_iald dX12_applies_23 hf (fun x27 ex27 hf => ?_)
    refine xm_iconst dX12_applies_24 (v := 1) (by decide) ?_
    refine xm_iadd dX12_applies_25 ?_
    refine xb_iast dX12_applies_26 hf (fun σ28 eσ28 hf => ?_)
    refine xm_aload_n dX12_applies_27 rfl ?_
    refine xm_aload_n dX12_applies_28 rfl ?_
    refine xm_iload_n dX12_applies_29 rfl ?_
    refine xm_aload_n dX12_applies_30 rfl ?_
    refine xb_getR (a := l0) (c := 12) (k := 49) dX12_applies_31 xcl12 (by decide) xw_1886 rfl hf (fun x29 ex29 hf => ?_)
    refine xm_iload_n dX12_applies_34 rfl ?_
    refine xb_iald dX12_applies_35 hf (fun x30 ex30 hf => ?_)
    refine xm_iconst dX12_applies_36 (v := 1) (by decide) ?_
    refine xm_isub dX12_applies_37 ?_
    refine xb_if hf (fun hb hf => ?_) (fun _ q => nomatch q)
    obtain ⟨p31, ep31, hf⟩ := xbind hf
    refine xb_callV (As := [.int l2, .int (x30 - (1 : Int32))]) (v0 := (some (.int p31))) (τ0 := σ28) dX12_applies_38 (xc_X12_child _ _) xcl12 xw_2303 xw_2305 xs_123 hb rfl (Nat.le_of_ble_eq_true rfl) rfl (Nat.le_of_ble_eq_true rfl) (fun Q1 hq => m_X12_child (d := d + 8) ep31 (fun g hg => by subst hg; exact hq)) ?_
    refine xm_aload_n dX12_applies_41 rfl ?_
    refine xb_getR (a := l0) (c := 12) (k := 50) dX12_applies_42 xcl12 (by decide) xw_1887 rfl hf (fun x32 ex32 hf => ?_)
    refine xm_iload_n dX12_applies_45 rfl ?_
    refine xb_iald dX12_applies_46 hf (fun x33 ex33 hf => ?_)
    refine xb_if hf (fun hb hf => ?_) (fun _ q => nomatch q)
    obtain ⟨p34, ep34, hf⟩ := xbind hf
    refine xb_callV (As := [.int p31, .int x33]) (v0 := none) (τ0 := p34) dX12_applies_47 (xc_X12_enter _ _) xcl12 xw_2363 xw_2365 xs_135 hb rfl (Nat.le_of_ble_eq_true rfl) rfl (Nat.le_of_ble_eq_true rfl) (fun Q1 hq => m_X12_enter (d := d + 8) ep34 (fun g hg => by subst hg; exact hq)) ?_
    refine xm_iconst dX12_applies_50 (v := 0) (by decide) ?_
    cases hf
    exact xm_iret dX12_applies_51 rfl (hR _ rfl)
-- RankwiseModel.run(I)I
def f_X12_run_j174 (σ : xM) (l0 : Nat) (s0 : Int32) : Option ((Int32 × xM) ⊕ ((Int32 × xM) ⊕ (Nat × Int32 × xM))) :=
  some (Sum.inr (Sum.inr (l0, s0, σ)))
set_option maxHeartbeats 4000000 in
set_option maxRecDepth 20000 in
theorem L_X12_run_j174 {G : xG} {π : Nat → Nat} {d C Z : Nat} {Q : xQ} (σ : xM) (l0 : Nat) (s0 : Int32) {x : ((Int32 × xM) ⊕ ((Int32 × xM) ⊕ (Nat × Int32 × xM)))} (hf : f_X12_run_j174 σ l0 s0 = some x) (hR : ∀ g, x = Sum.inl (g) → Q (.inl (some (.int g.1))) (g.2) π) (hE : ∀ e : (Int32 × xM), x = Sum.inr (Sum.inl e) → xMach G π J_X12_run (d + 10) C Z 178 [(2, .int e.1)] [] e.2 Q) (hC : ∀ e : (Nat × Int32 × xM), x = Sum.inr (Sum.inr e) → xMach G π J_X12_run (d + 10) C Z 33 [(0, .ref e.1), (2, .int e.2.1)] [] e.2.2 Q) : xMach G π J_X12_run (d + 10) C Z 174 [(0, .ref l0)] [.int s0] σ Q := by
  unfold f_X12_run_j174 at hf
  refine xm_istore_n dX12_run_174 (by decide) (xm_stL (L' := [(2, .int s0), (0, .ref l0)]) rfl ?_)
  refine xm_goto 33 dX12_run_175 (by decide) ?_
  cases hf
  exact xm_sub [1, 0] rfl (hC _ rfl)
def f_X12_run_j98 (σ : xM) (l0 : Nat) (l3 : Int32) (l4 : Int32) : Option ((Int32 × xM) ⊕ ((Int32 × xM) ⊕ (Nat × Int32 × xM))) :=
  (gR σ l0 12 50).bind (fun x17 => (aI σ x17 14 l3).bind (fun x18 => (if xk σ l0 12 = true then (f_X12_leaf σ l0 l4 x18).bind (fun p19 => f_X12_run_j174 p19.2 l0 p19.1) else none)))
set_option maxHeartbeats 4000000 in
set_option maxRecDepth 20000 in
theorem L_X12_run_j98 {G : xG} {π : Nat → Nat} {d C Z : Nat} {Q : xQ} (σ : xM) (l0 : Nat) (l3 : Int32) (l4 : Int32) {x : ((Int32 × xM) ⊕ ((Int32 × xM) ⊕ (Nat × Int32 × xM)))} (hf : f_X12_run_j98 σ l0 l3 l4 = some x) (hR : ∀ g, x = Sum.inl (g) → Q (.inl (some (.int g.1))) (g.2) π) (hE : ∀ e : (Int32 × xM), x = Sum.inr (Sum.inl e) → xMach G π J_X12_run (d + 10) C Z 178 [(2, .int e.1)] [] e.2 Q) (hC : ∀ e : (Nat × Int32 × xM), x = Sum.inr (Sum.inr e) → xMach G π J_X12_run (d + 10) C Z 33 [(0, .ref e.1), (2, .int e.2.1)] [] e.2.2 Q) : xMach G π J_X12_run (d + 10) C Z 98 [(0, .ref l0), (3, .int l3), (4, .int l4)] [] σ Q := by
  unfold f_X12_run_j98 at hf
  refine xm_aload_n dX12_run_98 rfl ?_
  refine xm_iload dX12_run_99 rfl ?_
  refine xm_aload_n dX12_run_101 rfl ?_
  refine xb_getR (a := l0) (c := 12) (k := 50) dX12_run_102 xcl12 (by decide) xw_1887 rfl hf (fun x17 ex17 hf => ?_)
  refine xm_iload_n dX12_run_105 rfl ?_
  refine xb_iald dX12_run_106 hf (fun x18 ex18 hf => ?_)
  refine xb_if hf (fun hb hf => ?_) (fun _ q => nomatch q)
  obtain ⟨p19, ep19, hf⟩ := xbind hf
  refine xb_callV (As := [.int l4, .int x18]) (v0 := (some (.int p19.1))) (τ0 := p19.2) dX12_run_107 (xc_X12_leaf _ _) xcl12 xw_2367 xw_2369 xs_136 hb rfl (Nat.le_of_ble_eq_true rfl) rfl (Nat.le_of_ble_eq_true rfl) (fun Q1 hq => m_X12_leaf (d := d + 6) ep19 (fun g hg => by subst hg; exact hq)) ?_
  refine xm_goto 174 dX12_run_110 (by decide) ?_
  exact xm_sub [0] rfl (L_X12_run_j174 p19.2 l0 p19.1 hf hR hE hC)
def f_X12_run_j167 (σ : xM) (l0 : Nat) (l3 : Int32) (l4 : Int32) : Option ((Int32 × xM) ⊕ ((Int32 × xM) ⊕ (Nat × Int32 × xM))) :=
  (if xk σ l0 12 = true then (f_X12_applies σ l0 l3 l4).bind (fun p22 => f_X12_run_j174 p22.2 l0 p22.1) else none)
set_option maxHeartbeats 4000000 in
set_option maxRecDepth 20000 in
theorem L_X12_run_j167 {G : xG} {π : Nat → Nat} {d C Z : Nat} {Q : xQ} (σ : xM) (l0 : Nat) (l3 : Int32) (l4 : Int32) {x : ((Int32 × xM) ⊕ ((Int32 × xM) ⊕ (Nat × Int32 × xM)))} (hf : f_X12_run_j167 σ l0 l3 l4 = some x) (hR : ∀ g, x = Sum.inl (g) → Q (.inl (some (.int g.1))) (g.2) π) (hE : ∀ e : (Int32 × xM), x = Sum.inr (Sum.inl e) → xMach G π J_X12_run (d + 10) C Z 178 [(2, .int e.1)] [] e.2 Q) (hC : ∀ e : (Nat × Int32 × xM), x = Sum.inr (Sum.inr e) → xMach G π J_X12_run (d + 10) C Z 33 [(0, .ref e.1), (2, .int e.2.1)] [] e.2.2 Q) : xMach G π J_X12_run (d + 10) C Z 167 [(0, .ref l0), (3, .int l3), (4, .int l4)] [] σ Q := by
  unfold f_X12_run_j167 at hf
  refine xm_aload_n dX12_run_167 rfl ?_
  refine xm_iload_n dX12_run_168 rfl ?_
  refine xm_iload dX12_run_169 rfl ?_
  refine xb_if hf (fun hb hf => ?_) (fun _ q => nomatch q)
  obtain ⟨p22, ep22, hf⟩ := xbind hf
  refine xb_callV (As := [.int l3, .int l4]) (v0 := (some (.int p22.1))) (τ0 := p22.2) dX12_run_171 (xc_X12_applies _ _) xcl12 xw_2489 xw_2491 xs_166 hb rfl (Nat.le_of_ble_eq_true rfl) rfl (Nat.le_of_ble_eq_true rfl) (fun Q1 hq => m_X12_applies (d := d + 0) ep22 (fun g hg => by subst hg; exact hq)) ?_
  exact xm_sub [0] rfl (L_X12_run_j174 p22.2 l0 p22.1 hf hR hE hC)
def f_X12_run_j140 (σ : xM) (l0 : Nat) (l3 : Int32) (l4 : Int32) (l5 : Int32) : Option ((Int32 × xM) ⊕ ((Int32 × xM) ⊕ (Nat × Int32 × xM))) :=
  (if l5 = (0 : Int32) then f_X12_run_j167 σ l0 l3 l4 else (gR σ l0 12 5).bind (fun x23 => (aI σ x23 14 l4).bind (fun x24 => (if x24 = (115 : Int32) then (if xk σ l0 12 = true then (f_X12_sums σ l0 l3 l4).bind (fun p25 => f_X12_run_j174 p25.2 l0 p25.1) else none) else f_X12_run_j167 σ l0 l3 l4))))
set_option maxHeartbeats 4000000 in
set_option maxRecDepth 20000 in
theorem L_X12_run_j140 {G : xG} {π : Nat → Nat} {d C Z : Nat} {Q : xQ} (σ : xM) (l0 : Nat) (l3 : Int32) (l4 : Int32) (l5 : Int32) {x : ((Int32 × xM) ⊕ ((Int32 × xM) ⊕ (Nat × Int32 × xM)))} (hf : f_X12_run_j140 σ l0 l3 l4 l5 = some x) (hR : ∀ g, x = Sum.inl (g) → Q (.inl (some (.int g.1))) (g.2) π) (hE : ∀ e : (Int32 × xM), x = Sum.inr (Sum.inl e) → xMach G π J_X12_run (d + 10) C Z 178 [(2, .int e.1)] [] e.2 Q) (hC : ∀ e : (Nat × Int32 × xM), x = Sum.inr (Sum.inr e) → xMach G π J_X12_run (d + 10) C Z 33 [(0, .ref e.1), (2, .int e.2.1)] [] e.2.2 Q) : xMach G π J_X12_run (d + 10) C Z 140 [(0, .ref l0), (3, .int l3), (4, .int l4), (5, .int l5)] [] σ Q := by
  unfold f_X12_run_j140 at hf
  refine xm_iload dX12_run_140 rfl ?_
  refine xb_if_eq 167 dX12_run_142 (by decide) hf (fun c hf => ?_) (fun c hf => ?_)
  · exact xm_sub [0, 1, 2] rfl (L_X12_run_j167 σ l0 l3 l4 hf hR hE hC)
  · refine xm_aload_n dX12_run_145 rfl ?_
    refine xb_getR (a := l0) (c := 12) (k := 5) dX12_run_146 xcl12 (by decide) xw_1842 rfl hf (fun x23 ex23 hf => ?_)
    refine xm_iload dX12_run_149 rfl ?_
    refine xb_iald dX12_run_151 hf (fun x24 ex24 hf => ?_)
    refine xm_bipush dX12_run_152 (v := 115) (by decide) ?_
    refine xb_icmp_ne 167 dX12_run_154 (by decide) hf (fun c hf => ?_) (fun c hf => ?_)
    · exact xm_sub [0, 1, 2] rfl (L_X12_run_j167 σ l0 l3 l4 hf hR hE hC)
    · refine xm_aload_n dX12_run_157 rfl ?_
      refine xm_iload_n dX12_run_158 rfl ?_
      refine xm_iload dX12_run_159 rfl ?_
      refine xb_if hf (fun hb hf => ?_) (fun _ q => nomatch q)
      obtain ⟨p25, ep25, hf⟩ := xbind hf
      refine xb_callV (As := [.int l3, .int l4]) (v0 := (some (.int p25.1))) (τ0 := p25.2) dX12_run_161 (xc_X12_sums _ _) xcl12 xw_2391 xw_2393 xs_142 hb rfl (Nat.le_of_ble_eq_true rfl) rfl (Nat.le_of_ble_eq_true rfl) (fun Q1 hq => m_X12_sums (d := d + 2) ep25 (fun g hg => by subst hg; exact hq)) ?_
      refine xm_goto 174 dX12_run_164 (by decide) ?_
      exact xm_sub [0] rfl (L_X12_run_j174 p25.2 l0 p25.1 hf hR hE hC)
def f_X12_run_j75 (σ : xM) (l0 : Nat) (l3 : Int32) (l4 : Int32) (s0 : Int32) : Option ((Int32 × xM) ⊕ ((Int32 × xM) ⊕ (Nat × Int32 × xM))) :=
  (gR σ l0 12 4).bind (fun x15 => (aI σ x15 14 l4).bind (fun x16 => (if x16 = (0 : Int32) then f_X12_run_j98 σ l0 l3 l4 else (gR σ l0 12 4).bind (fun x20 => (aI σ x20 14 l4).bind (fun x21 => (if x21 = (1 : Int32) then f_X12_run_j98 σ l0 l3 l4 else (if s0 = (0 : Int32) then f_X12_run_j140 σ l0 l3 l4 s0 else (gR σ l0 12 5).bind (fun x26 => (aI σ x26 14 l4).bind (fun x27 => (if x27 = (105 : Int32) then (if xk σ l0 12 = true then (f_X12_choose σ l0 l3 l4).bind (fun p28 => f_X12_run_j174 p28.2 l0 p28.1) else none) else f_X12_run_j140 σ l0 l3 l4 s0))))))))))
set_option maxHeartbeats 4000000 in
set_option maxRecDepth 20000 in
theorem L_X12_run_j75 {G : xG} {π : Nat → Nat} {d C Z : Nat} {Q : xQ} (σ : xM) (l0 : Nat) (l3 : Int32) (l4 : Int32) (s0 : Int32) {x : ((Int32 × xM) ⊕ ((Int32 × xM) ⊕ (Nat × Int32 × xM)))} (hf : f_X12_run_j75 σ l0 l3 l4 s0 = some x) (hR : ∀ g, x = Sum.inl (g) → Q (.inl (some (.int g.1))) (g.2) π) (hE : ∀ e : (Int32 × xM), x = Sum.inr (Sum.inl e) → xMach G π J_X12_run (d + 10) C Z 178 [(2, .int e.1)] [] e.2 Q) (hC : ∀ e : (Nat × Int32 × xM), x = Sum.inr (Sum.inr e) → xMach G π J_X12_run (d + 10) C Z 33 [(0, .ref e.1), (2, .int e.2.1)] [] e.2.2 Q) : xMach G π J_X12_run (d + 10) C Z 75 [(0, .ref l0), (3, .int l3), (4, .int l4)] [.int s0] σ Q := by
  unfold f_X12_run_j75 at hf
  refine xm_istore dX12_run_75 (by decide) (xm_stL (L' := [(5, .int s0), (0, .ref l0), (3, .int l3), (4, .int l4)]) rfl ?_)
  refine xm_aload_n dX12_run_77 rfl ?_
  refine xb_getR (a := l0) (c := 12) (k := 4) dX12_run_78 xcl12 (by decide) xw_1841 rfl hf (fun x15 ex15 hf => ?_)
  refine xm_iload dX12_run_81 rfl ?_
  refine xb_iald dX12_run_83 hf (fun x16 ex16 hf => ?_)
  refine xb_if_eq 98 dX12_run_84 (by decide) hf (fun c hf => ?_) (fun c hf => ?_)
  · exact xm_sub [1, 2, 3] rfl (L_X12_run_j98 σ l0 l3 l4 hf hR hE hC)
  · refine xm_aload_n dX12_run_87 rfl ?_
    refine xb_getR (a := l0) (c := 12) (k := 4) dX12_run_88 xcl12 (by decide) xw_1841 rfl hf (fun x20 ex20 hf => ?_)
    refine xm_iload dX12_run_91 rfl ?_
    refine xb_iald dX12_run_93 hf (fun x21 ex21 hf => ?_)
    refine xm_iconst dX12_run_94 (v := 1) (by decide) ?_
    refine xb_icmp_ne 113 dX12_run_95 (by decide) hf (fun c hf => ?_) (fun c hf => ?_)
    · refine xm_iload dX12_run_113 rfl ?_
      refine xb_if_eq 140 dX12_run_115 (by decide) hf (fun c hf => ?_) (fun c hf => ?_)
      · exact xm_sub [1, 2, 3, 0] rfl (L_X12_run_j140 σ l0 l3 l4 s0 hf hR hE hC)
      · refine xm_aload_n dX12_run_118 rfl ?_
        refine xb_getR (a := l0) (c := 12) (k := 5) dX12_run_119 xcl12 (by decide) xw_1842 rfl hf (fun x26 ex26 hf => ?_)
        refine xm_iload dX12_run_122 rfl ?_
        refine xb_iald dX12_run_124 hf (fun x27 ex27 hf => ?_)
        refine xm_bipush dX12_run_125 (v := 105) (by decide) ?_
        refine xb_icmp_ne 140 dX12_run_127 (by decide) hf (fun c hf => ?_) (fun c hf => ?_)
        · exact xm_sub [1, 2, 3, 0] rfl (L_X12_run_j140 σ l0 l3 l4 s0 hf hR hE hC)
        · refine xm_aload_n dX12_run_130 rfl ?_
          refine xm_iload_n dX12_run_131 rfl ?_
          refine xm_iload dX12_run_132 rfl ?_
          refine xb_if hf (fun hb hf => ?_) (fun _ q => nomatch q)
          obtain ⟨p28, ep28, hf⟩ := xbind hf
          refine xb_callV (As := [.int l3, .int l4]) (v0 := (some (.int p28.1))) (τ0 := p28.2) dX12_run_134 (xc_X12_choose _ _) xcl12 xw_2379 xw_2381 xs_139 hb rfl (Nat.le_of_ble_eq_true rfl) rfl (Nat.le_of_ble_eq_true rfl) (fun Q1 hq => m_X12_choose (d := d + 8) ep28 (fun g hg => by subst hg; exact hq)) ?_
          refine xm_goto 174 dX12_run_137 (by decide) ?_
          exact xm_sub [1] rfl (L_X12_run_j174 p28.2 l0 p28.1 hf hR hE hC)
    · exact xm_sub [1, 2, 3] rfl (L_X12_run_j98 σ l0 l3 l4 hf hR hE hC)
def f_X12_run_s33 (s : (Nat × Int32 × xM)) : Option ((Int32 × xM) ⊕ ((Int32 × xM) ⊕ (Nat × Int32 × xM))) :=
  xlet s.1 (fun l0 => xlet s.2.1 (fun l2 => xlet s.2.2 (fun σ => (gI σ l0 12 56).bind (fun x8 => (if x8 ≤ (0 : Int32) then some (Sum.inr (Sum.inl (l2, σ))) else (if l2 = (0 : Int32) then (gI σ l0 12 56).bind (fun x9 => xlet (x9 - (1 : Int32)) (fun v10 => (gR σ l0 12 48).bind (fun x11 => (aI σ x11 14 v10).bind (fun x12 => (gR σ l0 12 4).bind (fun x13 => (aI σ x13 14 x12).bind (fun x14 => (if x14 = (2 : Int32) then f_X12_run_j75 σ l0 v10 x12 (1 : Int32) else f_X12_run_j75 σ l0 v10 x12 (0 : Int32)))))))) else some (Sum.inr (Sum.inl (l2, σ)))))))))
set_option maxHeartbeats 4000000 in
set_option maxRecDepth 20000 in
theorem L_X12_run_s33 {G : xG} {π : Nat → Nat} {d C Z : Nat} {Q : xQ} (σ : xM) (l0 : Nat) (l2 : Int32) {x : ((Int32 × xM) ⊕ ((Int32 × xM) ⊕ (Nat × Int32 × xM)))} (hf : f_X12_run_s33 (l0, l2, σ) = some x) (hR : ∀ g, x = Sum.inl (g) → Q (.inl (some (.int g.1))) (g.2) π) (hE : ∀ e : (Int32 × xM), x = Sum.inr (Sum.inl e) → xMach G π J_X12_run (d + 10) C Z 178 [(2, .int e.1)] [] e.2 Q) (hC : ∀ e : (Nat × Int32 × xM), x = Sum.inr (Sum.inr e) → xMach G π J_X12_run (d + 10) C Z 33 [(0, .ref e.1), (2, .int e.2.1)] [] e.2.2 Q) : xMach G π J_X12_run (d + 10) C Z 33 [(0, .ref l0), (2, .int l2)] [] σ Q := by
  have hf : (gI σ l0 12 56).bind (fun x8 => (if x8 ≤ (0 : Int32) then some (Sum.inr (Sum.inl (l2, σ))) else (if l2 = (0 : Int32) then (gI σ l0 12 56).bind (fun x9 => xlet (x9 - (1 : Int32)) (fun v10 => (gR σ l0 12 48).bind (fun x11 => (aI σ x11 14 v10).bind (fun x12 => (gR σ l0 12 4).bind (fun x13 => (aI σ x13 14 x12).bind (fun x14 => (if x14 = (2 : Int32) then f_X12_run_j75 σ l0 v10 x12 (1 : Int32) else f_X12_run_j75 σ l0 v10 x12 (0 : Int32)))))))) else some (Sum.inr (Sum.inl (l2, σ)))))) = some x := hf
  refine xm_aload_n dX12_run_33 rfl ?_
  refine xb_getI (a := l0) (c := 12) (k := 56) dX12_run_34 xcl12 (by decide) xw_1893 rfl hf (fun x8 ex8 hf => ?_)
  refine xb_if_le 178 dX12_run_37 (by decide) hf (fun c hf => ?_) (fun c hf => ?_)
  · cases hf
    exact xm_sub [1] rfl (hE _ rfl)
  · refine xm_iload_n dX12_run_40 rfl ?_
    refine xb_if_ne 178 dX12_run_41 (by decide) hf (fun c hf => ?_) (fun c hf => ?_)
    · cases hf
      exact xm_sub [1] rfl (hE _ rfl)
    · refine xm_aload_n dX12_run_44 rfl ?_
      refine xb_getI (a := l0) (c := 12) (k := 56) dX12_run_45 xcl12 (by decide) xw_1893 rfl hf (fun x9 ex9 hf => ?_)
      refine xm_iconst dX12_run_48 (v := 1) (by decide) ?_
      refine xm_isub dX12_run_49 ?_
      refine xb_topi hf (fun v10 ev10 hf => ?_)
      refine xm_istore_n dX12_run_50 (by decide) (xm_stL (L' := [(3, .int v10), (0, .ref l0), (2, .int l2)]) rfl ?_)
      refine xm_aload_n dX12_run_51 rfl ?_
      refine xb_getR (a := l0) (c := 12) (k := 48) dX12_run_52 xcl12 (by decide) xw_1885 rfl hf (fun x11 ex11 hf => ?_)
      refine xm_iload_n dX12_run_55 rfl ?_
      refine xb_iald dX12_run_56 hf (fun x12 ex12 hf => ?_)
      refine xm_istore dX12_run_57 (by decide) (xm_stL (L' := [(4, .int x12), (3, .int v10), (0, .ref l0), (2, .int l2)]) rfl ?_)
      refine xm_aload_n dX12_run_59 rfl ?_
      refine xb_getR (a := l0) (c := 12) (k := 4) dX12_run_60 xcl12 (by decide) xw_1841 rfl hf (fun x13 ex13 hf => ?_)
      refine xm_iload dX12_run_63 rfl ?_
      refine xb_iald dX12_run_65 hf (fun x14 ex14 hf => ?_)
      refine xm_iconst dX12_run_66 (v := 2) (by decide) ?_
      refine xb_icmp_ne 74 dX12_run_67 (by decide) hf (fun c hf => ?_) (fun c hf => ?_)
      · refine xm_iconst dX12_run_74 (v := 0) (by decide) ?_
        exact xm_sub [2, 1, 0] rfl (L_X12_run_j75 σ l0 v10 x12 (0 : Int32) hf hR hE hC)
      · refine xm_iconst dX12_run_70 (v := 1) (by decide) ?_
        refine xm_goto 75 dX12_run_71 (by decide) ?_
        exact xm_sub [2, 1, 0] rfl (L_X12_run_j75 σ l0 v10 x12 (1 : Int32) hf hR hE hC)
theorem L_X12_run_l33 {G : xG} {π : Nat → Nat} {d C Z : Nat} {Q : xQ} {s0 : (Nat × Int32 × xM)} {x : ((Int32 × xM) ⊕ (Int32 × xM))} (h1 : xloop (f_X12_run_s33) xF s0 = some x) (hR : ∀ g, x = Sum.inl g → Q (.inl (some (.int g.1))) (g.2) π) (hE : ∀ e : (Int32 × xM), x = Sum.inr e → xMach G π J_X12_run (d + 10) C Z 178 [(2, .int e.1)] [] e.2 Q) : xMach G π J_X12_run (d + 10) C Z 33 [(0, .ref s0.1), (2, .int s0.2.1)] [] s0.2.2 Q := by
  refine xloop_run (M := (fun s : (Nat × Int32 × xM) => xMach G π J_X12_run (d + 10) C Z 33 [(0, .ref s.1), (2, .int s.2.1)] [] s.2.2 Q)) (r := x) ?_ xF _ h1
  intro s y hs hx
  exact L_X12_run_s33 s.2.2 s.1 s.2.1 (x := y) hs (fun g hg => by subst hg; exact hR g hx) (fun e he => by subst he; exact hE e hx) (fun e he => by subst he; exact hx)
def f_X12_run_j178 (σ : xM) (l2 : Int32) : Option (Int32 × xM) :=
  some (l2, σ)
set_option maxHeartbeats 4000000 in
set_option maxRecDepth 20000 in
theorem L_X12_run_j178 {G : xG} {π : Nat → Nat} {d C Z : Nat} {Q : xQ} (σ : xM) (l2 : Int32) {x : (Int32 × xM)} (hf : f_X12_run_j178 σ l2 = some x) (hR : ∀ g, x = g → Q (.inl (some (.int g.1))) (g.2) π) : xMach G π J_X12_run (d + 10) C Z 178 [(2, .int l2)] [] σ Q := by
  unfold f_X12_run_j178 at hf
  refine xm_iload_n dX12_run_178 rfl ?_
  cases hf
  exact xm_iret dX12_run_179 rfl (hR _ rfl)
def f_X12_run (σ : xM) (l0 : Nat) (l1 : Int32) : Option (Int32 × xM) :=
  (sI σ l0 12 61 (0 : Int32)).bind (fun σ1 => (sI σ1 l0 12 62 (0 : Int32)).bind (fun σ2 => (sI σ2 l0 12 63 (0 : Int32)).bind (fun σ3 => (sI σ3 l0 12 60 (0 : Int32)).bind (fun σ4 => (sI σ4 l0 12 56 (0 : Int32)).bind (fun σ5 => (if xk σ5 l0 12 = true then (f_X12_enter σ5 l0 l1 (-1 : Int32)).bind (fun p6 => xlet (0 : Int32) (fun v7 => (xloop (f_X12_run_s33 ) xF (l0, v7, p6)).bind (Sum.elim (fun g => some g) (fun e => f_X12_run_j178 e.2 e.1)))) else none))))))
set_option maxHeartbeats 4000000 in
set_option maxRecDepth 20000 in
theorem m_X12_run {G : xG} {π : Nat → Nat} {d C Z : Nat} {Q : xQ} {σ : xM} {l0 : Nat} {l1 : Int32} {x : (Int32 × xM)} (hf : f_X12_run σ l0 l1 = some x) (hR : ∀ g, x = g → Q (.inl (some (.int g.1))) (g.2) π) : xMach G π J_X12_run (d + 10) C Z 0 (lv_args 0 [.ref l0, .int l1]) [] σ Q := by
  unfold f_X12_run at hf
  refine xm_stL (L' := [(0, .ref l0), (1, .int l1)]) rfl ?_
  refine xm_aload_n dX12_run_0 rfl ?_
  refine xm_iconst dX12_run_1 (v := 0) (by decide) ?_
  refine xb_putI (a := l0) (c := 12) (k := 61) dX12_run_2 xcl12 (by decide) xw_1898 rfl rfl hf (fun σ1 eσ1 hf => ?_)
  refine xm_aload_n dX12_run_5 rfl ?_
  refine xm_iconst dX12_run_6 (v := 0) (by decide) ?_
  refine xb_putI (a := l0) (c := 12) (k := 62) dX12_run_7 xcl12 (by decide) xw_1899 rfl rfl hf (fun σ2 eσ2 hf => ?_)
  refine xm_aload_n dX12_run_10 rfl ?_
  refine xm_iconst dX12_run_11 (v := 0) (by decide) ?_
  refine xb_putI (a := l0) (c := 12) (k := 63) dX12_run_12 xcl12 (by decide) xw_1900 rfl rfl hf (fun σ3 eσ3 hf => ?_)
  refine xm_aload_n dX12_run_15 rfl ?_
  refine xm_iconst dX12_run_16 (v := 0) (by decide) ?_
  refine xb_putI (a := l0) (c := 12) (k := 60) dX12_run_17 xcl12 (by decide) xw_1897 rfl rfl hf (fun σ4 eσ4 hf => ?_)
  refine xm_aload_n dX12_run_20 rfl ?_
  refine xm_iconst dX12_run_21 (v := 0) (by decide) ?_
  refine xb_putI (a := l0) (c := 12) (k := 56) dX12_run_22 xcl12 (by decide) xw_1893 rfl rfl hf (fun σ5 eσ5 hf => ?_)
  refine xm_aload_n dX12_run_25 rfl ?_
  refine xm_iload_n dX12_run_26 rfl ?_
  refine xm_iconst dX12_run_27 (v := -1) (by decide) ?_
  refine xb_if hf (fun hb hf => ?_) (fun _ q => nomatch q)
  obtain ⟨p6, ep6, hf⟩ := xbind hf
  refine xb_callV (As := [.int l1, .int (-1 : Int32)]) (v0 := none) (τ0 := p6) dX12_run_28 (xc_X12_enter _ _) xcl12 xw_2363 xw_2365 xs_135 hb rfl (Nat.le_of_ble_eq_true rfl) rfl (Nat.le_of_ble_eq_true rfl) (fun Q1 hq => m_X12_enter (d := d + 9) ep6 (fun g hg => by subst hg; exact hq)) ?_
  refine xm_iconst dX12_run_31 (v := 0) (by decide) ?_
  refine xb_topi hf (fun v7 ev7 hf => ?_)
  refine xm_istore_n dX12_run_32 (by decide) (xm_stL (L' := [(2, .int v7), (0, .ref l0), (1, .int l1)]) rfl ?_)
  obtain ⟨o, h1, hf⟩ := xbind hf
  refine xm_sub [1, 0] rfl (L_X12_run_l33  h1 (fun g hg => ?_) (fun e he => ?_))
  · subst hg
    cases hf
    exact hR _ rfl
  · subst he
    rw [Sum.elim_inr] at hf
    have hf : f_X12_run_j178 e.2 e.1 = some _ := hf
    exact xm_sub [0] rfl (L_X12_run_j178 e.2 e.1 hf hR)
-- RankwiseModel.isNumber(II)Z
def f_X12_isNumber_j24 (σ : xM) (s0 : Int32) : Option Int32 :=
  (xz s0).bind (fun b3 => some b3)
set_option maxHeartbeats 4000000 in
set_option maxRecDepth 20000 in
theorem L_X12_isNumber_j24 {G : xG} {π : Nat → Nat} {d C Z : Nat} {Q : xQ} (σ : xM) (s0 : Int32) {x : Int32} (hf : f_X12_isNumber_j24 σ s0 = some x) (hR : ∀ g, x = g → Q (.inl (some (.int g))) (σ) π) : xMach G π J_X12_isNumber (d + 0) C Z 24 [] [.int s0] σ Q := by
  unfold f_X12_isNumber_j24 at hf
  obtain ⟨b3, eb3, hf⟩ := xbind hf
  obtain ⟨rfl, hz⟩ := xz_of eb3
  cases hf
  exact xm_zret dX12_isNumber_24 rfl hz (hR _ rfl)
def f_X12_isNumber_j23 (σ : xM)  : Option Int32 :=
  f_X12_isNumber_j24 σ (0 : Int32)
set_option maxHeartbeats 4000000 in
set_option maxRecDepth 20000 in
theorem L_X12_isNumber_j23 {G : xG} {π : Nat → Nat} {d C Z : Nat} {Q : xQ} (σ : xM)  {x : Int32} (hf : f_X12_isNumber_j23 σ = some x) (hR : ∀ g, x = g → Q (.inl (some (.int g))) (σ) π) : xMach G π J_X12_isNumber (d + 0) C Z 23 [] [] σ Q := by
  unfold f_X12_isNumber_j23 at hf
  refine xm_iconst dX12_isNumber_23 (v := 0) (by decide) ?_
  exact xm_sub [] rfl (L_X12_isNumber_j24 σ (0 : Int32) hf hR)
def f_X12_isNumber (σ : xM) (l0 : Nat) (l1 : Int32) (l2 : Int32) : Option Int32 :=
  (gR σ l0 12 4).bind (fun x1 => (aI σ x1 14 l1).bind (fun x2 => (if x2 = (0 : Int32) then (gR σ l0 12 5).bind (fun x4 => (aI σ x4 14 l1).bind (fun x5 => (if x5 = l2 then f_X12_isNumber_j24 σ (1 : Int32) else f_X12_isNumber_j23 σ))) else f_X12_isNumber_j23 σ)))
set_option maxHeartbeats 4000000 in
set_option maxRecDepth 20000 in
theorem m_X12_isNumber {G : xG} {π : Nat → Nat} {d C Z : Nat} {Q : xQ} {σ : xM} {l0 : Nat} {l1 : Int32} {l2 : Int32} {x : Int32} (hf : f_X12_isNumber σ l0 l1 l2 = some x) (hR : ∀ g, x = g → Q (.inl (some (.int g))) (σ) π) : xMach G π J_X12_isNumber (d + 0) C Z 0 (lv_args 0 [.ref l0, .int l1, .int l2]) [] σ Q := by
  unfold f_X12_isNumber at hf
  refine xm_stL (L' := [(0, .ref l0), (1, .int l1), (2, .int l2)]) rfl ?_
  refine xm_aload_n dX12_isNumber_0 rfl ?_
  refine xb_getR (a := l0) (c := 12) (k := 4) dX12_isNumber_1 xcl12 (by decide) xw_1841 rfl hf (fun x1 ex1 hf => ?_)
  refine xm_iload_n dX12_isNumber_4 rfl ?_
  refine xb_iald dX12_isNumber_5 hf (fun x2 ex2 hf => ?_)
  refine xb_if_ne 23 dX12_isNumber_6 (by decide) hf (fun c hf => ?_) (fun c hf => ?_)
  · exact xm_sub [] rfl (L_X12_isNumber_j23 σ hf hR)
  · refine xm_aload_n dX12_isNumber_9 rfl ?_
    refine xb_getR (a := l0) (c := 12) (k := 5) dX12_isNumber_10 xcl12 (by decide) xw_1842 rfl hf (fun x4 ex4 hf => ?_)
    refine xm_iload_n dX12_isNumber_13 rfl ?_
    refine xb_iald dX12_isNumber_14 hf (fun x5 ex5 hf => ?_)
    refine xm_iload_n dX12_isNumber_15 rfl ?_
    refine xb_icmp_ne 23 dX12_isNumber_16 (by decide) hf (fun c hf => ?_) (fun c hf => ?_)
    · exact xm_sub [] rfl (L_X12_isNumber_j23 σ hf hR)
    · refine xm_iconst dX12_isNumber_19 (v := 1) (by decide) ?_
      refine xm_goto 24 dX12_isNumber_20 (by decide) ?_
      exact xm_sub [] rfl (L_X12_isNumber_j24 σ (1 : Int32) hf hR)
-- RankwiseModel.whole(III)I
def f_X12_whole_j147 (σ : xM) (s0 : Int32) : Option Int32 :=
  some s0
set_option maxHeartbeats 4000000 in
set_option maxRecDepth 20000 in
theorem L_X12_whole_j147 {G : xG} {π : Nat → Nat} {d C Z : Nat} {Q : xQ} (σ : xM) (s0 : Int32) {x : Int32} (hf : f_X12_whole_j147 σ s0 = some x) (hR : ∀ g, x = g → Q (.inl (some (.int g))) (σ) π) : xMach G π J_X12_whole (d + 0) C Z 147 [] [.int s0] σ Q := by
  unfold f_X12_whole_j147 at hf
  cases hf
  exact xm_iret dX12_whole_147 rfl (hR _ rfl)
def f_X12_whole_j146 (σ : xM)  : Option Int32 :=
  f_X12_whole_j147 σ (-1 : Int32)
set_option maxHeartbeats 4000000 in
set_option maxRecDepth 20000 in
theorem L_X12_whole_j146 {G : xG} {π : Nat → Nat} {d C Z : Nat} {Q : xQ} (σ : xM)  {x : Int32} (hf : f_X12_whole_j146 σ = some x) (hR : ∀ g, x = g → Q (.inl (some (.int g))) (σ) π) : xMach G π J_X12_whole (d + 0) C Z 146 [] [] σ Q := by
  unfold f_X12_whole_j146 at hf
  refine xm_iconst dX12_whole_146 (v := -1) (by decide) ?_
  exact xm_sub [] rfl (L_X12_whole_j147 σ (-1 : Int32) hf hR)
def f_X12_whole_j124 (σ : xM) (l4 : Int64) : Option Int32 :=
  (if (lg_cmp l4 (0 : Int64)) < (0 : Int32) then f_X12_whole_j146 σ else (if (0 : Int32) < (lg_cmp l4 (999999999 : Int64)) then f_X12_whole_j146 σ else f_X12_whole_j147 σ ((l4).toInt32)))
set_option maxHeartbeats 4000000 in
set_option maxRecDepth 20000 in
theorem L_X12_whole_j124 {G : xG} {π : Nat → Nat} {d C Z : Nat} {Q : xQ} (σ : xM) (l4 : Int64) {x : Int32} (hf : f_X12_whole_j124 σ l4 = some x) (hR : ∀ g, x = g → Q (.inl (some (.int g))) (σ) π) : xMach G π J_X12_whole (d + 0) C Z 124 [(4, .long l4)] [] σ Q := by
  unfold f_X12_whole_j124 at hf
  refine xm_lload dX12_whole_124 rfl ?_
  refine xm_lconst dX12_whole_126 (v := 0) (by decide) ?_
  refine xm_lcmp dX12_whole_127 ?_
  refine xb_if_lt 146 dX12_whole_128 (by decide) hf (fun c hf => ?_) (fun c hf => ?_)
  · exact xm_sub [] rfl (L_X12_whole_j146 σ hf hR)
  · refine xm_lload dX12_whole_131 rfl ?_
    refine xm_ldc2 dX12_whole_133 (xws_in xw_2613) ?_
    refine xm_lcmp dX12_whole_136 ?_
    refine xb_if_gt 146 dX12_whole_137 (by decide) hf (fun c hf => ?_) (fun c hf => ?_)
    · exact xm_sub [] rfl (L_X12_whole_j146 σ hf hR)
    · refine xm_lload dX12_whole_140 rfl ?_
      refine xm_l2i dX12_whole_142 rfl ?_
      refine xm_goto 147 dX12_whole_143 (by decide) ?_
      exact xm_sub [] rfl (L_X12_whole_j147 σ ((l4).toInt32) hf hR)
def f_X12_whole_s96 (σ : xM) (s : (Int32 × Int32 × Int64 × Int32)) : Option (Int32 ⊕ ((Int64) ⊕ (Int32 × Int32 × Int64 × Int32))) :=
  xlet s.1 (fun l2 => xlet s.2.1 (fun l3 => xlet s.2.2.1 (fun l4 => xlet s.2.2.2 (fun l6 => (if l3 ≤ l6 then some (Sum.inr (Sum.inl l4)) else (if (0 : Int32) < (lg_cmp l4 (999999999 : Int64)) then some (Sum.inr (Sum.inl l4)) else xlet (l4 * ((l2).toInt64)) (fun v4 => xlet (l6 + (1 : Int32)) (fun v5 => some (Sum.inr (Sum.inr (l2, l3, v4, v5)))))))))))
set_option maxHeartbeats 4000000 in
set_option maxRecDepth 20000 in
theorem L_X12_whole_s96 {G : xG} {π : Nat → Nat} {d C Z : Nat} {Q : xQ} (σ : xM) (l2 : Int32) (l3 : Int32) (l4 : Int64) (l6 : Int32) {x : (Int32 ⊕ ((Int64) ⊕ (Int32 × Int32 × Int64 × Int32)))} (hf : f_X12_whole_s96 σ (l2, l3, l4, l6) = some x) (hR : ∀ g, x = Sum.inl (g) → Q (.inl (some (.int g))) (σ) π) (hE : ∀ e : (Int64), x = Sum.inr (Sum.inl e) → xMach G π J_X12_whole (d + 0) C Z 124 [(4, .long e)] [] σ Q) (hC : ∀ e : (Int32 × Int32 × Int64 × Int32), x = Sum.inr (Sum.inr e) → xMach G π J_X12_whole (d + 0) C Z 96 [(2, .int e.1), (3, .int e.2.1), (4, .long e.2.2.1), (6, .int e.2.2.2)] [] σ Q) : xMach G π J_X12_whole (d + 0) C Z 96 [(2, .int l2), (3, .int l3), (4, .long l4), (6, .int l6)] [] σ Q := by
  have hf : (if l3 ≤ l6 then some (Sum.inr (Sum.inl l4)) else (if (0 : Int32) < (lg_cmp l4 (999999999 : Int64)) then some (Sum.inr (Sum.inl l4)) else xlet (l4 * ((l2).toInt64)) (fun v4 => xlet (l6 + (1 : Int32)) (fun v5 => some (Sum.inr (Sum.inr (l2, l3, v4, v5))))))) = some x := hf
  refine xm_iload dX12_whole_96 rfl ?_
  refine xm_iload_n dX12_whole_98 rfl ?_
  refine xb_icmp_ge 124 dX12_whole_99 (by decide) hf (fun c hf => ?_) (fun c hf => ?_)
  · cases hf
    exact xm_sub [2] rfl (hE _ rfl)
  · refine xm_lload dX12_whole_102 rfl ?_
    refine xm_ldc2 dX12_whole_104 (xws_in xw_2613) ?_
    refine xm_lcmp dX12_whole_107 ?_
    refine xb_if_gt 124 dX12_whole_108 (by decide) hf (fun c hf => ?_) (fun c hf => ?_)
    · cases hf
      exact xm_sub [2] rfl (hE _ rfl)
    · refine xm_lload dX12_whole_111 rfl ?_
      refine xm_iload_n dX12_whole_113 rfl ?_
      refine xm_i2l dX12_whole_114 rfl ?_
      refine xm_lmul dX12_whole_115 ?_
      refine xb_topl hf (fun v4 ev4 hf => ?_)
      refine xm_lstore dX12_whole_116 (by decide) (xm_stL (L' := [(4, .long v4), (2, .int l2), (3, .int l3), (6, .int l6)]) rfl ?_)
      refine xb_iinc dX12_whole_118 rfl (by decide) (by decide) hf (fun v5 ev5 hf => xm_stL (L' := [(6, .int v5), (4, .long v4), (2, .int l2), (3, .int l3)]) rfl ?_)
      refine xm_goto 96 dX12_whole_121 (by decide) ?_
      cases hf
      exact xm_sub [2, 3, 1, 0] rfl (hC _ rfl)
theorem L_X12_whole_l96 {G : xG} {π : Nat → Nat} {d C Z : Nat} {Q : xQ} (σ : xM) {s0 : (Int32 × Int32 × Int64 × Int32)} {x : (Int32 ⊕ (Int64))} (h1 : xloop (f_X12_whole_s96 σ) xF s0 = some x) (hR : ∀ g, x = Sum.inl g → Q (.inl (some (.int g))) (σ) π) (hE : ∀ e : (Int64), x = Sum.inr e → xMach G π J_X12_whole (d + 0) C Z 124 [(4, .long e)] [] σ Q) : xMach G π J_X12_whole (d + 0) C Z 96 [(2, .int s0.1), (3, .int s0.2.1), (4, .long s0.2.2.1), (6, .int s0.2.2.2)] [] σ Q := by
  refine xloop_run (M := (fun s : (Int32 × Int32 × Int64 × Int32) => xMach G π J_X12_whole (d + 0) C Z 96 [(2, .int s.1), (3, .int s.2.1), (4, .long s.2.2.1), (6, .int s.2.2.2)] [] σ Q)) (r := x) ?_ xF _ h1
  intro s y hs hx
  exact L_X12_whole_s96 σ s.1 s.2.1 s.2.2.1 s.2.2.2 (x := y) hs (fun g hg => by subst hg; exact hR g hx) (fun e he => by subst he; exact hE e hx) (fun e he => by subst he; exact hx)
def f_X12_whole_j74 (σ : xM) (s0 : Int64) : Option Int32 :=
  f_X12_whole_j124 σ s0
set_option maxHeartbeats 4000000 in
set_option maxRecDepth 20000 in
theorem L_X12_whole_j74 {G : xG} {π : Nat → Nat} {d C Z : Nat} {Q : xQ} (σ : xM) (s0 : Int64) {x : Int32} (hf : f_X12_whole_j74 σ s0 = some x) (hR : ∀ g, x = g → Q (.inl (some (.int g))) (σ) π) : xMach G π J_X12_whole (d + 0) C Z 74 [] [.long s0] σ Q := by
  unfold f_X12_whole_j74 at hf
  refine xm_lstore dX12_whole_74 (by decide) (xm_stL (L' := [(4, .long s0)]) rfl ?_)
  refine xm_goto 124 dX12_whole_76 (by decide) ?_
  exact xm_sub [0] rfl (L_X12_whole_j124 σ s0 hf hR)
def f_X12_whole_j71 (σ : xM)  : Option Int32 :=
  f_X12_whole_j74 σ (-1 : Int64)
set_option maxHeartbeats 4000000 in
set_option maxRecDepth 20000 in
theorem L_X12_whole_j71 {G : xG} {π : Nat → Nat} {d C Z : Nat} {Q : xQ} (σ : xM)  {x : Int32} (hf : f_X12_whole_j71 σ = some x) (hR : ∀ g, x = g → Q (.inl (some (.int g))) (σ) π) : xMach G π J_X12_whole (d + 0) C Z 71 [] [] σ Q := by
  unfold f_X12_whole_j71 at hf
  refine xm_ldc2 dX12_whole_71 (xws_in xw_2612) ?_
  exact xm_sub [] rfl (L_X12_whole_j74 σ (-1 : Int64) hf hR)
def f_X12_whole (σ : xM) (l0 : Nat) (l1 : Int32) (l2 : Int32) (l3 : Int32) : Option Int32 :=
  xlet (-1 : Int64) (fun v1 => (if l1 = (0 : Int32) then xlet (((l2).toInt64) + ((l3).toInt64)) (fun v8 => f_X12_whole_j124 σ v8) else (if l1 = (1 : Int32) then xlet (((l2).toInt64) - ((l3).toInt64)) (fun v7 => f_X12_whole_j124 σ v7) else (if l1 = (2 : Int32) then xlet (((l2).toInt64) * ((l3).toInt64)) (fun v6 => f_X12_whole_j124 σ v6) else (if l1 = (3 : Int32) then (if l3 = (0 : Int32) then f_X12_whole_j71 σ else (if l3 = 0 then none else (if (l2 - l2 / l3 * l3) = (0 : Int32) then (if l3 = 0 then none else f_X12_whole_j74 σ (((l2 / l3)).toInt64)) else f_X12_whole_j71 σ))) else (if l1 = (5 : Int32) then (if (64 : Int32) < l3 then f_X12_whole_j124 σ v1 else xlet (1 : Int64) (fun v2 => xlet (0 : Int32) (fun v3 => (xloop (f_X12_whole_s96 σ ) xF (l2, l3, v2, v3)).bind (Sum.elim (fun g => some g) (fun e => f_X12_whole_j124 σ e))))) else f_X12_whole_j124 σ v1))))))
set_option maxHeartbeats 4000000 in
set_option maxRecDepth 20000 in
theorem m_X12_whole {G : xG} {π : Nat → Nat} {d C Z : Nat} {Q : xQ} {σ : xM} {l0 : Nat} {l1 : Int32} {l2 : Int32} {l3 : Int32} {x : Int32} (hf : f_X12_whole σ l0 l1 l2 l3 = some x) (hR : ∀ g, x = g → Q (.inl (some (.int g))) (σ) π) : xMach G π J_X12_whole (d + 0) C Z 0 (lv_args 0 [.ref l0, .int l1, .int l2, .int l3]) [] σ Q := by
  unfold f_X12_whole at hf
  refine xm_stL (L' := [(0, .ref l0), (1, .int l1), (2, .int l2), (3, .int l3)]) rfl ?_
  refine xm_ldc2 dX12_whole_0 (xws_in xw_2612) ?_
  refine xb_topl hf (fun v1 ev1 hf => ?_)
  refine xm_lstore dX12_whole_3 (by decide) (xm_stL (L' := [(4, .long v1), (0, .ref l0), (1, .int l1), (2, .int l2), (3, .int l3)]) rfl ?_)
  refine xm_iload_n dX12_whole_5 rfl ?_
  refine xb_if_ne 19 dX12_whole_6 (by decide) hf (fun c hf => ?_) (fun c hf => ?_)
  · refine xm_iload_n dX12_whole_19 rfl ?_
    refine xm_iconst dX12_whole_20 (v := 1) (by decide) ?_
    refine xb_icmp_ne 34 dX12_whole_21 (by decide) hf (fun c hf => ?_) (fun c hf => ?_)
    · refine xm_iload_n dX12_whole_34 rfl ?_
      refine xm_iconst dX12_whole_35 (v := 2) (by decide) ?_
      refine xb_icmp_ne 49 dX12_whole_36 (by decide) hf (fun c hf => ?_) (fun c hf => ?_)
      · refine xm_iload_n dX12_whole_49 rfl ?_
        refine xm_iconst dX12_whole_50 (v := 3) (by decide) ?_
        refine xb_icmp_ne 79 dX12_whole_51 (by decide) hf (fun c hf => ?_) (fun c hf => ?_)
        · refine xm_iload_n dX12_whole_79 rfl ?_
          refine xm_iconst dX12_whole_80 (v := 5) (by decide) ?_
          refine xb_icmp_ne 124 dX12_whole_81 (by decide) hf (fun c hf => ?_) (fun c hf => ?_)
          · exact xm_sub [0] rfl (L_X12_whole_j124 σ v1 hf hR)
          · refine xm_iload_n dX12_whole_84 rfl ?_
            refine xm_bipush dX12_whole_85 (v := 64) (by decide) ?_
            refine xb_icmp_gt 124 dX12_whole_87 (by decide) hf (fun c hf => ?_) (fun c hf => ?_)
            · exact xm_sub [0] rfl (L_X12_whole_j124 σ v1 hf hR)
            · refine xm_lconst dX12_whole_90 (v := 1) (by decide) ?_
              refine xb_topl hf (fun v2 ev2 hf => ?_)
              refine xm_lstore dX12_whole_91 (by decide) (xm_stL (L' := [(4, .long v2), (0, .ref l0), (1, .int l1), (2, .int l2), (3, .int l3)]) rfl ?_)
              refine xm_iconst dX12_whole_93 (v := 0) (by decide) ?_
              refine xb_topi hf (fun v3 ev3 hf => ?_)
              refine xm_istore dX12_whole_94 (by decide) (xm_stL (L' := [(6, .int v3), (4, .long v2), (0, .ref l0), (1, .int l1), (2, .int l2), (3, .int l3)]) rfl ?_)
              obtain ⟨o, h1, hf⟩ := xbind hf
              refine xm_sub [4, 5, 1, 0] rfl (L_X12_whole_l96 σ h1 (fun g hg => ?_) (fun e he => ?_))
              · subst hg
                cases hf
                exact hR _ rfl
              · subst he
                rw [Sum.elim_inr] at hf
                have hf : f_X12_whole_j124 σ e = some _ := hf
                exact xm_sub [0] rfl (L_X12_whole_j124 σ e hf hR)
        · refine xm_iload_n dX12_whole_54 rfl ?_
          refine xb_if_eq 71 dX12_whole_55 (by decide) hf (fun c hf => ?_) (fun c hf => ?_)
          · exact xm_sub [] rfl (L_X12_whole_j71 σ hf hR)
          · refine xm_iload_n dX12_whole_58 rfl ?_
            refine xm_iload_n dX12_whole_59 rfl ?_
            refine xb_irem dX12_whole_60 hf (fun c hf => ?_)
            refine xb_if_ne 71 dX12_whole_61 (by decide) hf (fun c hf => ?_) (fun c hf => ?_)
            · exact xm_sub [] rfl (L_X12_whole_j71 σ hf hR)
            · refine xm_iload_n dX12_whole_64 rfl ?_
              refine xm_iload_n dX12_whole_65 rfl ?_
              refine xb_idiv dX12_whole_66 hf (fun c hf => ?_)
              refine xm_i2l dX12_whole_67 rfl ?_
              refine xm_goto 74 dX12_whole_68 (by decide) ?_
              exact xm_sub [] rfl (L_X12_whole_j74 σ (((l2 / l3)).toInt64) hf hR)
      · refine xm_iload_n dX12_whole_39 rfl ?_
        refine xm_i2l dX12_whole_40 rfl ?_
        refine xm_iload_n dX12_whole_41 rfl ?_
        refine xm_i2l dX12_whole_42 rfl ?_
        refine xm_lmul dX12_whole_43 ?_
        refine xb_topl hf (fun v6 ev6 hf => ?_)
        refine xm_lstore dX12_whole_44 (by decide) (xm_stL (L' := [(4, .long v6), (0, .ref l0), (1, .int l1), (2, .int l2), (3, .int l3)]) rfl ?_)
        refine xm_goto 124 dX12_whole_46 (by decide) ?_
        exact xm_sub [0] rfl (L_X12_whole_j124 σ v6 hf hR)
    · refine xm_iload_n dX12_whole_24 rfl ?_
      refine xm_i2l dX12_whole_25 rfl ?_
      refine xm_iload_n dX12_whole_26 rfl ?_
      refine xm_i2l dX12_whole_27 rfl ?_
      refine xm_lsub dX12_whole_28 ?_
      refine xb_topl hf (fun v7 ev7 hf => ?_)
      refine xm_lstore dX12_whole_29 (by decide) (xm_stL (L' := [(4, .long v7), (0, .ref l0), (1, .int l1), (2, .int l2), (3, .int l3)]) rfl ?_)
      refine xm_goto 124 dX12_whole_31 (by decide) ?_
      exact xm_sub [0] rfl (L_X12_whole_j124 σ v7 hf hR)
  · refine xm_iload_n dX12_whole_9 rfl ?_
    refine xm_i2l dX12_whole_10 rfl ?_
    refine xm_iload_n dX12_whole_11 rfl ?_
    refine xm_i2l dX12_whole_12 rfl ?_
    refine xm_ladd dX12_whole_13 ?_
    refine xb_topl hf (fun v8 ev8 hf => ?_)
    refine xm_lstore dX12_whole_14 (by decide) (xm_stL (L' := [(4, .long v8), (0, .ref l0), (1, .int l1), (2, .int l2), (3, .int l3)]) rfl ?_)
    refine xm_goto 124 dX12_whole_16 (by decide) ?_
    exact xm_sub [0] rfl (L_X12_whole_j124 σ v8 hf hR)
-- RankwiseModel.becomes(II)V
def f_X12_becomes_s21 (s : (Nat × Int32 × Int32 × xM)) : Option (xM ⊕ ((Nat × Int32 × xM) ⊕ (Nat × Int32 × Int32 × xM))) :=
  xlet s.1 (fun l0 => xlet s.2.1 (fun l3 => xlet s.2.2.1 (fun l4 => xlet s.2.2.2 (fun σ => (gI σ l0 12 64).bind (fun x5 => (if ((13540 : Int32) + x5) ≤ ((l4 + l3) - (1 : Int32)) then some (Sum.inr (Sum.inl (l0, l3, σ))) else (if xk σ l0 12 = true then (f_X12_copyNodes σ l0 l4 ((l4 + l3) - (1 : Int32)) (1 : Int32)).bind (fun p6 => xlet (l4 + (1 : Int32)) (fun v7 => some (Sum.inr (Sum.inr (l0, l3, v7, p6))))) else none)))))))
set_option maxHeartbeats 4000000 in
set_option maxRecDepth 20000 in
theorem L_X12_becomes_s21 {G : xG} {π : Nat → Nat} {d C Z : Nat} {Q : xQ} (σ : xM) (l0 : Nat) (l3 : Int32) (l4 : Int32) {x : (xM ⊕ ((Nat × Int32 × xM) ⊕ (Nat × Int32 × Int32 × xM)))} (hf : f_X12_becomes_s21 (l0, l3, l4, σ) = some x) (hR : ∀ g, x = Sum.inl (g) → Q (.inl none) (g) π) (hE : ∀ e : (Nat × Int32 × xM), x = Sum.inr (Sum.inl e) → xMach G π J_X12_becomes (d + 1) C Z 57 [(0, .ref e.1), (3, .int e.2.1)] [] e.2.2 Q) (hC : ∀ e : (Nat × Int32 × Int32 × xM), x = Sum.inr (Sum.inr e) → xMach G π J_X12_becomes (d + 1) C Z 21 [(0, .ref e.1), (3, .int e.2.1), (4, .int e.2.2.1)] [] e.2.2.2 Q) : xMach G π J_X12_becomes (d + 1) C Z 21 [(0, .ref l0), (3, .int l3), (4, .int l4)] [] σ Q := by
  have hf : (gI σ l0 12 64).bind (fun x5 => (if ((13540 : Int32) + x5) ≤ ((l4 + l3) - (1 : Int32)) then some (Sum.inr (Sum.inl (l0, l3, σ))) else (if xk σ l0 12 = true then (f_X12_copyNodes σ l0 l4 ((l4 + l3) - (1 : Int32)) (1 : Int32)).bind (fun p6 => xlet (l4 + (1 : Int32)) (fun v7 => some (Sum.inr (Sum.inr (l0, l3, v7, p6))))) else none))) = some x := hf
  refine xm_iload dX12_becomes_21 rfl ?_
  refine xm_iload_n dX12_becomes_23 rfl ?_
  refine xm_iadd dX12_becomes_24 ?_
  refine xm_iconst dX12_becomes_25 (v := 1) (by decide) ?_
  refine xm_isub dX12_becomes_26 ?_
  refine xm_sipush dX12_becomes_27 (v := 13540) (by decide) ?_
  refine xm_aload_n dX12_becomes_30 rfl ?_
  refine xb_getI (a := l0) (c := 12) (k := 64) dX12_becomes_31 xcl12 (by decide) xw_1901 rfl hf (fun x5 ex5 hf => ?_)
  refine xm_iadd dX12_becomes_34 ?_
  refine xb_icmp_ge 57 dX12_becomes_35 (by decide) hf (fun c hf => ?_) (fun c hf => ?_)
  · cases hf
    exact xm_sub [0, 1] rfl (hE _ rfl)
  · refine xm_aload_n dX12_becomes_38 rfl ?_
    refine xm_iload dX12_becomes_39 rfl ?_
    refine xm_iload dX12_becomes_41 rfl ?_
    refine xm_iload_n dX12_becomes_43 rfl ?_
    refine xm_iadd dX12_becomes_44 ?_
    refine xm_iconst dX12_becomes_45 (v := 1) (by decide) ?_
    refine xm_isub dX12_becomes_46 ?_
    refine xm_iconst dX12_becomes_47 (v := 1) (by decide) ?_
    refine xb_if hf (fun hb hf => ?_) (fun _ q => nomatch q)
    obtain ⟨p6, ep6, hf⟩ := xbind hf
    refine xb_callV (As := [.int l4, .int ((l4 + l3) - (1 : Int32)), .int (1 : Int32)]) (v0 := none) (τ0 := p6) dX12_becomes_48 (xc_X12_copyNodes _ _) xcl12 xw_2104 xw_2106 xs_89 hb rfl (Nat.le_of_ble_eq_true rfl) rfl (Nat.le_of_ble_eq_true rfl) (fun Q1 hq => m_X12_copyNodes (d := d + 0) ep6 (fun g hg => by subst hg; exact hq)) ?_
    refine xb_iinc dX12_becomes_51 rfl (by decide) (by decide) hf (fun v7 ev7 hf => xm_stL (L' := [(4, .int v7), (0, .ref l0), (3, .int l3)]) rfl ?_)
    refine xm_goto 21 dX12_becomes_54 (by decide) ?_
    cases hf
    exact xm_sub [1, 2, 0] rfl (hC _ rfl)
theorem L_X12_becomes_l21 {G : xG} {π : Nat → Nat} {d C Z : Nat} {Q : xQ} {s0 : (Nat × Int32 × Int32 × xM)} {x : (xM ⊕ (Nat × Int32 × xM))} (h1 : xloop (f_X12_becomes_s21) xF s0 = some x) (hR : ∀ g, x = Sum.inl g → Q (.inl none) (g) π) (hE : ∀ e : (Nat × Int32 × xM), x = Sum.inr e → xMach G π J_X12_becomes (d + 1) C Z 57 [(0, .ref e.1), (3, .int e.2.1)] [] e.2.2 Q) : xMach G π J_X12_becomes (d + 1) C Z 21 [(0, .ref s0.1), (3, .int s0.2.1), (4, .int s0.2.2.1)] [] s0.2.2.2 Q := by
  refine xloop_run (M := (fun s : (Nat × Int32 × Int32 × xM) => xMach G π J_X12_becomes (d + 1) C Z 21 [(0, .ref s.1), (3, .int s.2.1), (4, .int s.2.2.1)] [] s.2.2.2 Q)) (r := x) ?_ xF _ h1
  intro s y hs hx
  exact L_X12_becomes_s21 s.2.2.2 s.1 s.2.1 s.2.2.1 (x := y) hs (fun g hg => by subst hg; exact hR g hx) (fun e he => by subst he; exact hE e hx) (fun e he => by subst he; exact hx)
def f_X12_becomes_j57 (σ : xM) (l0 : Nat) (l3 : Int32) : Option xM :=
  (gI σ l0 12 64).bind (fun x8 => (sI σ l0 12 64 (x8 - (l3 - (1 : Int32)))).bind (fun σ9 => (gI σ9 l0 12 64).bind (fun x10 => (if xk σ9 l0 12 = true then (f_X12_span σ9 l0 (13540 : Int32) x10).bind (fun p11 => some p11) else none))))
set_option maxHeartbeats 4000000 in
set_option maxRecDepth 20000 in
theorem L_X12_becomes_j57 {G : xG} {π : Nat → Nat} {d C Z : Nat} {Q : xQ} (σ : xM) (l0 : Nat) (l3 : Int32) {x : xM} (hf : f_X12_becomes_j57 σ l0 l3 = some x) (hR : ∀ g, x = g → Q (.inl none) (g) π) : xMach G π J_X12_becomes (d + 1) C Z 57 [(0, .ref l0), (3, .int l3)] [] σ Q := by
  unfold f_X12_becomes_j57 at hf
  refine xm_aload_n dX12_becomes_57 rfl ?_
  refine xm_dup dX12_becomes_58 rfl ?_
  refine xb_getI (a := l0) (c := 12) (k := 64) dX12_becomes_59 xcl12 (by decide) xw_1901 rfl hf (fun x8 ex8 hf => ?_)
  refine xm_iload_n dX12_becomes_62 rfl ?_
  refine xm_iconst dX12_becomes_63 (v := 1) (by decide) ?_
  refine xm_isub dX12_becomes_64 ?_
  refine xm_isub dX12_becomes_65 ?_
  refine xb_putI (a := l0) (c := 12) (k := 64) dX12_becomes_66 xcl12 (by decide) xw_1901 rfl rfl hf (fun σ9 eσ9 hf => ?_)
  refine xm_aload_n dX12_becomes_69 rfl ?_
  refine xm_sipush dX12_becomes_70 (v := 13540) (by decide) ?_
  refine xm_aload_n dX12_becomes_73 rfl ?_
  refine xb_getI (a := l0) (c := 12) (k := 64) dX12_becomes_74 xcl12 (by decide) xw_1901 rfl hf (fun x10 ex10 hf => ?_)
  refine xb_if hf (fun hb hf => ?_) (fun _ q => nomatch q)
  obtain ⟨p11, ep11, hf⟩ := xbind hf
  refine xb_callV (As := [.int (13540 : Int32), .int x10]) (v0 := none) (τ0 := p11) dX12_becomes_77 (xc_X12_span _ _) xcl12 xw_2206 xw_2208 xs_109 hb rfl (Nat.le_of_ble_eq_true rfl) rfl (Nat.le_of_ble_eq_true rfl) (fun Q1 hq => m_X12_span (d := d + 0) ep11 (fun g hg => by subst hg; exact hq)) ?_
  cases hf
  exact xm_vret dX12_becomes_80 rfl (hR _ rfl)
def f_X12_becomes (σ : xM) (l0 : Nat) (l1 : Int32) (l2 : Int32) : Option xM :=
  (gR σ l0 12 8).bind (fun x1 => (aI σ x1 14 l1).bind (fun x2 => (if xk σ l0 12 = true then (f_X12_node σ l0 l1 (0 : Int32) l2 (-1 : Int32) (0 : Int32)).bind (fun p3 => xlet (l1 + (1 : Int32)) (fun v4 => (xloop (f_X12_becomes_s21 ) xF (l0, x2, v4, p3)).bind (Sum.elim (fun g => some g) (fun e => f_X12_becomes_j57 e.2.2 e.1 e.2.1)))) else none)))
set_option maxHeartbeats 4000000 in
set_option maxRecDepth 20000 in
theorem m_X12_becomes {G : xG} {π : Nat → Nat} {d C Z : Nat} {Q : xQ} {σ : xM} {l0 : Nat} {l1 : Int32} {l2 : Int32} {x : xM} (hf : f_X12_becomes σ l0 l1 l2 = some x) (hR : ∀ g, x = g → Q (.inl none) (g) π) : xMach G π J_X12_becomes (d + 1) C Z 0 (lv_args 0 [.ref l0, .int l1, .int l2]) [] σ Q := by
  unfold f_X12_becomes at hf
  refine xm_stL (L' := [(0, .ref l0), (1, .int l1), (2, .int l2)]) rfl ?_
  refine xm_aload_n dX12_becomes_0 rfl ?_
  refine xb_getR (a := l0) (c := 12) (k := 8) dX12_becomes_1 xcl12 (by decide) xw_1845 rfl hf (fun x1 ex1 hf => ?_)
  refine xm_iload_n dX12_becomes_4 rfl ?_
  refine xb_iald dX12_becomes_5 hf (fun x2 ex2 hf => ?_)
  refine xm_istore_n dX12_becomes_6 (by decide) (xm_stL (L' := [(3, .int x2), (0, .ref l0), (1, .int l1), (2, .int l2)]) rfl ?_)
  refine xm_aload_n dX12_becomes_7 rfl ?_
  refine xm_iload_n dX12_becomes_8 rfl ?_
  refine xm_iconst dX12_becomes_9 (v := 0) (by decide) ?_
  refine xm_iload_n dX12_becomes_10 rfl ?_
  refine xm_iconst dX12_becomes_11 (v := -1) (by decide) ?_
  refine xm_iconst dX12_becomes_12 (v := 0) (by decide) ?_
  refine xb_if hf (fun hb hf => ?_) (fun _ q => nomatch q)
  obtain ⟨p3, ep3, hf⟩ := xbind hf
  refine xb_callV (As := [.int l1, .int (0 : Int32), .int l2, .int (-1 : Int32), .int (0 : Int32)]) (v0 := none) (τ0 := p3) dX12_becomes_13 (xc_X12_node _ _) xcl12 xw_2202 xw_2204 xs_108 hb rfl (Nat.le_of_ble_eq_true rfl) rfl (Nat.le_of_ble_eq_true rfl) (fun Q1 hq => m_X12_node (d := d + 0) ep3 (fun g hg => by subst hg; exact hq)) ?_
  refine xm_iload_n dX12_becomes_16 rfl ?_
  refine xm_iconst dX12_becomes_17 (v := 1) (by decide) ?_
  refine xm_iadd dX12_becomes_18 ?_
  refine xb_topi hf (fun v4 ev4 hf => ?_)
  refine xm_istore dX12_becomes_19 (by decide) (xm_stL (L' := [(4, .int v4), (3, .int x2), (0, .ref l0), (1, .int l1), (2, .int l2)]) rfl ?_)
  obtain ⟨o, h1, hf⟩ := xbind hf
  refine xm_sub [2, 1, 0] rfl (L_X12_becomes_l21  h1 (fun g hg => ?_) (fun e he => ?_))
  · subst hg
    cases hf
    exact hR _ rfl
  · subst he
    rw [Sum.elim_inr] at hf
    have hf : f_X12_becomes_j57 e.2.2 e.1 e.2.1 = some _ := hf
    exact xm_sub [0, 1] rfl (L_X12_becomes_j57 e.2.2 e.1 e.2.1 hf hR)
-- RankwiseModel.becomesInner(II)V
def f_X12_becomesInner_s29 (s : (Nat × Int32 × Int32 × Int32 × xM)) : Option (xM ⊕ ((Nat × Int32 × Int32 × xM) ⊕ (Nat × Int32 × Int32 × Int32 × xM))) :=
  xlet s.1 (fun l0 => xlet s.2.1 (fun l3 => xlet s.2.2.1 (fun l4 => xlet s.2.2.2.1 (fun l5 => xlet s.2.2.2.2 (fun σ => (gI σ l0 12 64).bind (fun x7 => (if ((13540 : Int32) + x7) ≤ ((l5 + l3) - l4) then some (Sum.inr (Sum.inl (l0, l3, l4, σ))) else (if xk σ l0 12 = true then (f_X12_copyNodes σ l0 l5 ((l5 + l3) - l4) (1 : Int32)).bind (fun p8 => xlet (l5 + (1 : Int32)) (fun v9 => some (Sum.inr (Sum.inr (l0, l3, l4, v9, p8))))) else none))))))))
set_option maxHeartbeats 4000000 in
set_option maxRecDepth 20000 in
theorem L_X12_becomesInner_s29 {G : xG} {π : Nat → Nat} {d C Z : Nat} {Q : xQ} (σ : xM) (l0 : Nat) (l3 : Int32) (l4 : Int32) (l5 : Int32) {x : (xM ⊕ ((Nat × Int32 × Int32 × xM) ⊕ (Nat × Int32 × Int32 × Int32 × xM)))} (hf : f_X12_becomesInner_s29 (l0, l3, l4, l5, σ) = some x) (hR : ∀ g, x = Sum.inl (g) → Q (.inl none) (g) π) (hE : ∀ e : (Nat × Int32 × Int32 × xM), x = Sum.inr (Sum.inl e) → xMach G π J_X12_becomesInner (d + 1) C Z 67 [(0, .ref e.1), (3, .int e.2.1), (4, .int e.2.2.1)] [] e.2.2.2 Q) (hC : ∀ e : (Nat × Int32 × Int32 × Int32 × xM), x = Sum.inr (Sum.inr e) → xMach G π J_X12_becomesInner (d + 1) C Z 29 [(0, .ref e.1), (3, .int e.2.1), (4, .int e.2.2.1), (5, .int e.2.2.2.1)] [] e.2.2.2.2 Q) : xMach G π J_X12_becomesInner (d + 1) C Z 29 [(0, .ref l0), (3, .int l3), (4, .int l4), (5, .int l5)] [] σ Q := by
  have hf : (gI σ l0 12 64).bind (fun x7 => (if ((13540 : Int32) + x7) ≤ ((l5 + l3) - l4) then some (Sum.inr (Sum.inl (l0, l3, l4, σ))) else (if xk σ l0 12 = true then (f_X12_copyNodes σ l0 l5 ((l5 + l3) - l4) (1 : Int32)).bind (fun p8 => xlet (l5 + (1 : Int32)) (fun v9 => some (Sum.inr (Sum.inr (l0, l3, l4, v9, p8))))) else none))) = some x := hf
  refine xm_iload dX12_becomesInner_29 rfl ?_
  refine xm_iload_n dX12_becomesInner_31 rfl ?_
  refine xm_iadd dX12_becomesInner_32 ?_
  refine xm_iload dX12_becomesInner_33 rfl ?_
  refine xm_isub dX12_becomesInner_35 ?_
  refine xm_sipush dX12_becomesInner_36 (v := 13540) (by decide) ?_
  refine xm_aload_n dX12_becomesInner_39 rfl ?_
  refine xb_getI (a := l0) (c := 12) (k := 64) dX12_becomesInner_40 xcl12 (by decide) xw_1901 rfl hf (fun x7 ex7 hf => ?_)
  refine xm_iadd dX12_becomesInner_43 ?_
  refine xb_icmp_ge 67 dX12_becomesInner_44 (by decide) hf (fun c hf => ?_) (fun c hf => ?_)
  · cases hf
    exact xm_sub [0, 1, 2] rfl (hE _ rfl)
  · refine xm_aload_n dX12_becomesInner_47 rfl ?_
    refine xm_iload dX12_becomesInner_48 rfl ?_
    refine xm_iload dX12_becomesInner_50 rfl ?_
    refine xm_iload_n dX12_becomesInner_52 rfl ?_
    refine xm_iadd dX12_becomesInner_53 ?_
    refine xm_iload dX12_becomesInner_54 rfl ?_
    refine xm_isub dX12_becomesInner_56 ?_
    refine xm_iconst dX12_becomesInner_57 (v := 1) (by decide) ?_
    refine xb_if hf (fun hb hf => ?_) (fun _ q => nomatch q)
    obtain ⟨p8, ep8, hf⟩ := xbind hf
    refine xb_callV (As := [.int l5, .int ((l5 + l3) - l4), .int (1 : Int32)]) (v0 := none) (τ0 := p8) dX12_becomesInner_58 (xc_X12_copyNodes _ _) xcl12 xw_2104 xw_2106 xs_89 hb rfl (Nat.le_of_ble_eq_true rfl) rfl (Nat.le_of_ble_eq_true rfl) (fun Q1 hq => m_X12_copyNodes (d := d + 0) ep8 (fun g hg => by subst hg; exact hq)) ?_
    refine xb_iinc dX12_becomesInner_61 rfl (by decide) (by decide) hf (fun v9 ev9 hf => xm_stL (L' := [(5, .int v9), (0, .ref l0), (3, .int l3), (4, .int l4)]) rfl ?_)
    refine xm_goto 29 dX12_becomesInner_64 (by decide) ?_
    cases hf
    exact xm_sub [1, 2, 3, 0] rfl (hC _ rfl)
theorem L_X12_becomesInner_l29 {G : xG} {π : Nat → Nat} {d C Z : Nat} {Q : xQ} {s0 : (Nat × Int32 × Int32 × Int32 × xM)} {x : (xM ⊕ (Nat × Int32 × Int32 × xM))} (h1 : xloop (f_X12_becomesInner_s29) xF s0 = some x) (hR : ∀ g, x = Sum.inl g → Q (.inl none) (g) π) (hE : ∀ e : (Nat × Int32 × Int32 × xM), x = Sum.inr e → xMach G π J_X12_becomesInner (d + 1) C Z 67 [(0, .ref e.1), (3, .int e.2.1), (4, .int e.2.2.1)] [] e.2.2.2 Q) : xMach G π J_X12_becomesInner (d + 1) C Z 29 [(0, .ref s0.1), (3, .int s0.2.1), (4, .int s0.2.2.1), (5, .int s0.2.2.2.1)] [] s0.2.2.2.2 Q := by
  refine xloop_run (M := (fun s : (Nat × Int32 × Int32 × Int32 × xM) => xMach G π J_X12_becomesInner (d + 1) C Z 29 [(0, .ref s.1), (3, .int s.2.1), (4, .int s.2.2.1), (5, .int s.2.2.2.1)] [] s.2.2.2.2 Q)) (r := x) ?_ xF _ h1
  intro s y hs hx
  exact L_X12_becomesInner_s29 s.2.2.2.2 s.1 s.2.1 s.2.2.1 s.2.2.2.1 (x := y) hs (fun g hg => by subst hg; exact hR g hx) (fun e he => by subst he; exact hE e hx) (fun e he => by subst he; exact hx)
def f_X12_becomesInner_j67 (σ : xM) (l0 : Nat) (l3 : Int32) (l4 : Int32) : Option xM :=
  (gI σ l0 12 64).bind (fun x10 => (sI σ l0 12 64 (x10 - (l3 - l4))).bind (fun σ11 => (gI σ11 l0 12 64).bind (fun x12 => (if xk σ11 l0 12 = true then (f_X12_span σ11 l0 (13540 : Int32) x12).bind (fun p13 => some p13) else none))))
set_option maxHeartbeats 4000000 in
set_option maxRecDepth 20000 in
theorem L_X12_becomesInner_j67 {G : xG} {π : Nat → Nat} {d C Z : Nat} {Q : xQ} (σ : xM) (l0 : Nat) (l3 : Int32) (l4 : Int32) {x : xM} (hf : f_X12_becomesInner_j67 σ l0 l3 l4 = some x) (hR : ∀ g, x = g → Q (.inl none) (g) π) : xMach G π J_X12_becomesInner (d + 1) C Z 67 [(0, .ref l0), (3, .int l3), (4, .int l4)] [] σ Q := by
  unfold f_X12_becomesInner_j67 at hf
  refine xm_aload_n dX12_becomesInner_67 rfl ?_
  refine xm_dup dX12_becomesInner_68 rfl ?_
  refine xb_getI (a := l0) (c := 12) (k := 64) dX12_becomesInner_69 xcl12 (by decide) xw_1901 rfl hf (fun x10 ex10 hf => ?_)
  refine xm_iload_n dX12_becomesInner_72 rfl ?_
  refine xm_iload dX12_becomesInner_73 rfl ?_
  refine xm_isub dX12_becomesInner_75 ?_
  refine xm_isub dX12_becomesInner_76 ?_
  refine xb_putI (a := l0) (c := 12) (k := 64) dX12_becomesInner_77 xcl12 (by decide) xw_1901 rfl rfl hf (fun σ11 eσ11 hf => ?_)
  refine xm_aload_n dX12_becomesInner_80 rfl ?_
  refine xm_sipush dX12_becomesInner_81 (v := 13540) (by decide) ?_
  refine xm_aload_n dX12_becomesInner_84 rfl ?_
  refine xb_getI (a := l0) (c := 12) (k := 64) dX12_becomesInner_85 xcl12 (by decide) xw_1901 rfl hf (fun x12 ex12 hf => ?_)
  refine xb_if hf (fun hb hf => ?_) (fun _ q => nomatch q)
  obtain ⟨p13, ep13, hf⟩ := xbind hf
  refine xb_callV (As := [.int (13540 : Int32), .int x12]) (v0 := none) (τ0 := p13) dX12_becomesInner_88 (xc_X12_span _ _) xcl12 xw_2206 xw_2208 xs_109 hb rfl (Nat.le_of_ble_eq_true rfl) rfl (Nat.le_of_ble_eq_true rfl) (fun Q1 hq => m_X12_span (d := d + 0) ep13 (fun g hg => by subst hg; exact hq)) ?_
  cases hf
  exact xm_vret dX12_becomesInner_91 rfl (hR _ rfl)
def f_X12_becomesInner (σ : xM) (l0 : Nat) (l1 : Int32) (l2 : Int32) : Option xM :=
  (gR σ l0 12 8).bind (fun x1 => (aI σ x1 14 l1).bind (fun x2 => (gR σ l0 12 8).bind (fun x3 => (aI σ x3 14 l2).bind (fun x4 => (if xk σ l0 12 = true then (f_X12_copyNodes σ l0 l1 l2 x4).bind (fun p5 => xlet (l1 + x4) (fun v6 => (xloop (f_X12_becomesInner_s29 ) xF (l0, x2, x4, v6, p5)).bind (Sum.elim (fun g => some g) (fun e => f_X12_becomesInner_j67 e.2.2.2 e.1 e.2.1 e.2.2.1)))) else none)))))
set_option maxHeartbeats 4000000 in
set_option maxRecDepth 20000 in
theorem m_X12_becomesInner {G : xG} {π : Nat → Nat} {d C Z : Nat} {Q : xQ} {σ : xM} {l0 : Nat} {l1 : Int32} {l2 : Int32} {x : xM} (hf : f_X12_becomesInner σ l0 l1 l2 = some x) (hR : ∀ g, x = g → Q (.inl none) (g) π) : xMach G π J_X12_becomesInner (d + 1) C Z 0 (lv_args 0 [.ref l0, .int l1, .int l2]) [] σ Q := by
  unfold f_X12_becomesInner at hf
  refine xm_stL (L' := [(0, .ref l0), (1, .int l1), (2, .int l2)]) rfl ?_
  refine xm_aload_n dX12_becomesInner_0 rfl ?_
  refine xb_getR (a := l0) (c := 12) (k := 8) dX12_becomesInner_1 xcl12 (by decide) xw_1845 rfl hf (fun x1 ex1 hf => ?_)
  refine xm_iload_n dX12_becomesInner_4 rfl ?_
  refine xb_iald dX12_becomesInner_5 hf (fun x2 ex2 hf => ?_)
  refine xm_istore_n dX12_becomesInner_6 (by decide) (xm_stL (L' := [(3, .int x2), (0, .ref l0), (1, .int l1), (2, .int l2)]) rfl ?_)
  refine xm_aload_n dX12_becomesInner_7 rfl ?_
  refine xb_getR (a := l0) (c := 12) (k := 8) dX12_becomesInner_8 xcl12 (by decide) xw_1845 rfl hf (fun x3 ex3 hf => ?_)
  refine xm_iload_n dX12_becomesInner_11 rfl ?_
  refine xb_iald dX12_becomesInner_12 hf (fun x4 ex4 hf => ?_)
  refine xm_istore dX12_becomesInner_13 (by decide) (xm_stL (L' := [(4, .int x4), (3, .int x2), (0, .ref l0), (1, .int l1), (2, .int l2)]) rfl ?_)
  refine xm_aload_n dX12_becomesInner_15 rfl ?_
  refine xm_iload_n dX12_becomesInner_16 rfl ?_
  refine xm_iload_n dX12_becomesInner_17 rfl ?_
  refine xm_iload dX12_becomesInner_18 rfl ?_
  refine xb_if hf (fun hb hf => ?_) (fun _ q => nomatch q)
  obtain ⟨p5, ep5, hf⟩ := xbind hf
  refine xb_callV (As := [.int l1, .int l2, .int x4]) (v0 := none) (τ0 := p5) dX12_becomesInner_20 (xc_X12_copyNodes _ _) xcl12 xw_2104 xw_2106 xs_89 hb rfl (Nat.le_of_ble_eq_true rfl) rfl (Nat.le_of_ble_eq_true rfl) (fun Q1 hq => m_X12_copyNodes (d := d + 0) ep5 (fun g hg => by subst hg; exact hq)) ?_
  refine xm_iload_n dX12_becomesInner_23 rfl ?_
  refine xm_iload dX12_becomesInner_24 rfl ?_
  refine xm_iadd dX12_becomesInner_26 ?_
  refine xb_topi hf (fun v6 ev6 hf => ?_)
  refine xm_istore dX12_becomesInner_27 (by decide) (xm_stL (L' := [(5, .int v6), (4, .int x4), (3, .int x2), (0, .ref l0), (1, .int l1), (2, .int l2)]) rfl ?_)
  obtain ⟨o, h1, hf⟩ := xbind hf
  refine xm_sub [3, 2, 1, 0] rfl (L_X12_becomesInner_l29  h1 (fun g hg => ?_) (fun e he => ?_))
  · subst hg
    cases hf
    exact hR _ rfl
  · subst he
    rw [Sum.elim_inr] at hf
    have hf : f_X12_becomesInner_j67 e.2.2.2 e.1 e.2.1 e.2.2.1 = some _ := hf
    exact xm_sub [0, 1, 2] rfl (L_X12_becomesInner_j67 e.2.2.2 e.1 e.2.1 e.2.2.1 hf hR)
-- RankwiseModel.isProduct(I)Z
def f_X12_isProduct_j25 (σ : xM) (s0 : Int32) : Option Int32 :=
  (xz s0).bind (fun b2 => some b2)
set_option maxHeartbeats 4000000 in
set_option maxRecDepth 20000 in
theorem L_X12_isProduct_j25 {G : xG} {π : Nat → Nat} {d C Z : Nat} {Q : xQ} (σ : xM) (s0 : Int32) {x : Int32} (hf : f_X12_isProduct_j25 σ s0 = some x) (hR : ∀ g, x = g → Q (.inl (some (.int g))) (σ) π) : xMach G π J_X12_isProduct (d + 2) C Z 25 [] [.int s0] σ Q := by
  unfold f_X12_isProduct_j25 at hf
  obtain ⟨b2, eb2, hf⟩ := xbind hf
  obtain ⟨rfl, hz⟩ := xz_of eb2
  cases hf
  exact xm_zret dX12_isProduct_25 rfl hz (hR _ rfl)
def f_X12_isProduct_j24 (σ : xM)  : Option Int32 :=
  f_X12_isProduct_j25 σ (0 : Int32)
set_option maxHeartbeats 4000000 in
set_option maxRecDepth 20000 in
theorem L_X12_isProduct_j24 {G : xG} {π : Nat → Nat} {d C Z : Nat} {Q : xQ} (σ : xM)  {x : Int32} (hf : f_X12_isProduct_j24 σ = some x) (hR : ∀ g, x = g → Q (.inl (some (.int g))) (σ) π) : xMach G π J_X12_isProduct (d + 2) C Z 24 [] [] σ Q := by
  unfold f_X12_isProduct_j24 at hf
  refine xm_iconst dX12_isProduct_24 (v := 0) (by decide) ?_
  exact xm_sub [] rfl (L_X12_isProduct_j25 σ (0 : Int32) hf hR)
def f_X12_isProduct (σ : xM) (l0 : Nat) (l1 : Int32) : Option Int32 :=
  (if xk σ l0 12 = true then (f_X12_meaningAt σ l0 l1).bind (fun p1 => (if p1 = (2 : Int32) then (gR σ l0 12 4).bind (fun x3 => (aI σ x3 14 (l1 + (1 : Int32))).bind (fun x4 => (if x4 = (0 : Int32) then f_X12_isProduct_j25 σ (1 : Int32) else f_X12_isProduct_j24 σ))) else f_X12_isProduct_j24 σ)) else none)
set_option maxHeartbeats 4000000 in
set_option maxRecDepth 20000 in
theorem m_X12_isProduct {G : xG} {π : Nat → Nat} {d C Z : Nat} {Q : xQ} {σ : xM} {l0 : Nat} {l1 : Int32} {x : Int32} (hf : f_X12_isProduct σ l0 l1 = some x) (hR : ∀ g, x = g → Q (.inl (some (.int g))) (σ) π) : xMach G π J_X12_isProduct (d + 2) C Z 0 (lv_args 0 [.ref l0, .int l1]) [] σ Q := by
  unfold f_X12_isProduct at hf
  refine xm_stL (L' := [(0, .ref l0), (1, .int l1)]) rfl ?_
  refine xm_aload_n dX12_isProduct_0 rfl ?_
  refine xm_iload_n dX12_isProduct_1 rfl ?_
  refine xb_if hf (fun hb hf => ?_) (fun _ q => nomatch q)
  obtain ⟨p1, ep1, hf⟩ := xbind hf
  refine xb_callV (As := [.int l1]) (v0 := (some (.int p1))) (τ0 := σ) dX12_isProduct_2 (xc_X12_meaningAt _ _) xcl12 xw_2504 xw_2506 xs_169 hb rfl (Nat.le_of_ble_eq_true rfl) rfl (Nat.le_of_ble_eq_true rfl) (fun Q1 hq => m_X12_meaningAt (d := d + 0) ep1 (fun g hg => by subst hg; exact hq)) ?_
  refine xm_iconst dX12_isProduct_5 (v := 2) (by decide) ?_
  refine xb_icmp_ne 24 dX12_isProduct_6 (by decide) hf (fun c hf => ?_) (fun c hf => ?_)
  · exact xm_sub [] rfl (L_X12_isProduct_j24 σ hf hR)
  · refine xm_aload_n dX12_isProduct_9 rfl ?_
    refine xb_getR (a := l0) (c := 12) (k := 4) dX12_isProduct_10 xcl12 (by decide) xw_1841 rfl hf (fun x3 ex3 hf => ?_)
    refine xm_iload_n dX12_isProduct_13 rfl ?_
    refine xm_iconst dX12_isProduct_14 (v := 1) (by decide) ?_
    refine xm_iadd dX12_isProduct_15 ?_
    refine xb_iald dX12_isProduct_16 hf (fun x4 ex4 hf => ?_)
    refine xb_if_ne 24 dX12_isProduct_17 (by decide) hf (fun c hf => ?_) (fun c hf => ?_)
    · exact xm_sub [] rfl (L_X12_isProduct_j24 σ hf hR)
    · refine xm_iconst dX12_isProduct_20 (v := 1) (by decide) ?_
      refine xm_goto 25 dX12_isProduct_21 (by decide) ?_
      exact xm_sub [] rfl (L_X12_isProduct_j25 σ (1 : Int32) hf hR)
-- RankwiseModel.gathered(II)I
def f_X12_gathered_j29 (σ : xM)  : Option Int32 :=
  some (-1 : Int32)
set_option maxHeartbeats 4000000 in
set_option maxRecDepth 20000 in
theorem L_X12_gathered_j29 {G : xG} {π : Nat → Nat} {d C Z : Nat} {Q : xQ} (σ : xM)  {x : Int32} (hf : f_X12_gathered_j29 σ = some x) (hR : ∀ g, x = g → Q (.inl (some (.int g))) (σ) π) : xMach G π J_X12_gathered (d + 3) C Z 29 [] [] σ Q := by
  unfold f_X12_gathered_j29 at hf
  refine xm_iconst dX12_gathered_29 (v := -1) (by decide) ?_
  cases hf
  exact xm_iret dX12_gathered_30 rfl (hR _ rfl)
def f_X12_gathered_j61 (σ : xM) (s0 : Int32) : Option Int32 :=
  some s0
set_option maxHeartbeats 4000000 in
set_option maxRecDepth 20000 in
theorem L_X12_gathered_j61 {G : xG} {π : Nat → Nat} {d C Z : Nat} {Q : xQ} (σ : xM) (s0 : Int32) {x : Int32} (hf : f_X12_gathered_j61 σ s0 = some x) (hR : ∀ g, x = g → Q (.inl (some (.int g))) (σ) π) : xMach G π J_X12_gathered (d + 3) C Z 61 [] [.int s0] σ Q := by
  unfold f_X12_gathered_j61 at hf
  cases hf
  exact xm_iret dX12_gathered_61 rfl (hR _ rfl)
def f_X12_gathered (σ : xM) (l0 : Nat) (l1 : Int32) (l2 : Int32) : Option Int32 :=
  (if xk σ l0 12 = true then (f_X12_isProduct σ l0 l1).bind (fun p1 => (if p1 = (0 : Int32) then f_X12_gathered_j29 σ else (if xk σ l0 12 = true then (f_X12_isProduct σ l0 l2).bind (fun p2 => (if p2 = (0 : Int32) then f_X12_gathered_j29 σ else (if xk σ l0 12 = true then (f_X12_areSame σ l0 (l1 + (2 : Int32)) (l2 + (2 : Int32))).bind (fun p3 => (if p3 = (0 : Int32) then f_X12_gathered_j29 σ else (gR σ l0 12 5).bind (fun x4 => (aI σ x4 14 (l1 + (1 : Int32))).bind (fun x5 => (gR σ l0 12 5).bind (fun x6 => (aI σ x6 14 (l2 + (1 : Int32))).bind (fun x7 => xlet (x5 + x7) (fun v8 => (if (999999999 : Int32) < v8 then f_X12_gathered_j61 σ (-1 : Int32) else f_X12_gathered_j61 σ v8)))))))) else none))) else none))) else none)
set_option maxHeartbeats 4000000 in
set_option maxRecDepth 20000 in
theorem m_X12_gathered {G : xG} {π : Nat → Nat} {d C Z : Nat} {Q : xQ} {σ : xM} {l0 : Nat} {l1 : Int32} {l2 : Int32} {x : Int32} (hf : f_X12_gathered σ l0 l1 l2 = some x) (hR : ∀ g, x = g → Q (.inl (some (.int g))) (σ) π) : xMach G π J_X12_gathered (d + 3) C Z 0 (lv_args 0 [.ref l0, .int l1, .int l2]) [] σ Q := by
  unfold f_X12_gathered at hf
  refine xm_stL (L' := [(0, .ref l0), (1, .int l1), (2, .int l2)]) rfl ?_
  refine xm_aload_n dX12_gathered_0 rfl ?_
  refine xm_iload_n dX12_gathered_1 rfl ?_
  refine xb_if hf (fun hb hf => ?_) (fun _ q => nomatch q)
  obtain ⟨p1, ep1, hf⟩ := xbind hf
  refine xb_callV (As := [.int l1]) (v0 := (some (.int p1))) (τ0 := σ) dX12_gathered_2 (xc_X12_isProduct _ _) xcl12 xw_2626 xw_2628 xs_191 hb rfl (Nat.le_of_ble_eq_true rfl) rfl (Nat.le_of_ble_eq_true rfl) (fun Q1 hq => m_X12_isProduct (d := d + 0) ep1 (fun g hg => by subst hg; exact hq)) ?_
  refine xb_if_eq 29 dX12_gathered_5 (by decide) hf (fun c hf => ?_) (fun c hf => ?_)
  · exact xm_sub [] rfl (L_X12_gathered_j29 σ hf hR)
  · refine xm_aload_n dX12_gathered_8 rfl ?_
    refine xm_iload_n dX12_gathered_9 rfl ?_
    refine xb_if hf (fun hb hf => ?_) (fun _ q => nomatch q)
    obtain ⟨p2, ep2, hf⟩ := xbind hf
    refine xb_callV (As := [.int l2]) (v0 := (some (.int p2))) (τ0 := σ) dX12_gathered_10 (xc_X12_isProduct _ _) xcl12 xw_2626 xw_2628 xs_191 hb rfl (Nat.le_of_ble_eq_true rfl) rfl (Nat.le_of_ble_eq_true rfl) (fun Q1 hq => m_X12_isProduct (d := d + 0) ep2 (fun g hg => by subst hg; exact hq)) ?_
    refine xb_if_eq 29 dX12_gathered_13 (by decide) hf (fun c hf => ?_) (fun c hf => ?_)
    · exact xm_sub [] rfl (L_X12_gathered_j29 σ hf hR)
    · refine xm_aload_n dX12_gathered_16 rfl ?_
      refine xm_iload_n dX12_gathered_17 rfl ?_
      refine xm_iconst dX12_gathered_18 (v := 2) (by decide) ?_
      refine xm_iadd dX12_gathered_19 ?_
      refine xm_iload_n dX12_gathered_20 rfl ?_
      refine xm_iconst dX12_gathered_21 (v := 2) (by decide) ?_
      refine xm_iadd dX12_gathered_22 ?_
      refine xb_if hf (fun hb hf => ?_) (fun _ q => nomatch q)
      obtain ⟨p3, ep3, hf⟩ := xbind hf
      refine xb_callV (As := [.int (l1 + (2 : Int32)), .int (l2 + (2 : Int32))]) (v0 := (some (.int p3))) (τ0 := σ) dX12_gathered_23 (xc_X12_areSame _ _) xcl12 xw_2245 xw_2247 xs_115 hb rfl (Nat.le_of_ble_eq_true rfl) rfl (Nat.le_of_ble_eq_true rfl) (fun Q1 hq => m_X12_areSame (d := d + 2) ep3 (fun g hg => by subst hg; exact hq)) ?_
      refine xb_if_ne 31 dX12_gathered_26 (by decide) hf (fun c hf => ?_) (fun c hf => ?_)
      · refine xm_aload_n dX12_gathered_31 rfl ?_
        refine xb_getR (a := l0) (c := 12) (k := 5) dX12_gathered_32 xcl12 (by decide) xw_1842 rfl hf (fun x4 ex4 hf => ?_)
        refine xm_iload_n dX12_gathered_35 rfl ?_
        refine xm_iconst dX12_gathered_36 (v := 1) (by decide) ?_
        refine xm_iadd dX12_gathered_37 ?_
        refine xb_iald dX12_gathered_38 hf (fun x5 ex5 hf => ?_)
        refine xm_aload_n dX12_gathered_39 rfl ?_
        refine xb_getR (a := l0) (c := 12) (k := 5) dX12_gathered_40 xcl12 (by decide) xw_1842 rfl hf (fun x6 ex6 hf => ?_)
        refine xm_iload_n dX12_gathered_43 rfl ?_
        refine xm_iconst dX12_gathered_44 (v := 1) (by decide) ?_
        refine xm_iadd dX12_gathered_45 ?_
        refine xb_iald dX12_gathered_46 hf (fun x7 ex7 hf => ?_)
        refine xm_iadd dX12_gathered_47 ?_
        refine xb_topi hf (fun v8 ev8 hf => ?_)
        refine xm_istore_n dX12_gathered_48 (by decide) (xm_stL (L' := [(3, .int v8), (0, .ref l0), (1, .int l1), (2, .int l2)]) rfl ?_)
        refine xm_iload_n dX12_gathered_49 rfl ?_
        refine xm_ldcw dX12_gathered_50 (xws_in xw_2630) ?_
        refine xb_icmp_gt 60 dX12_gathered_53 (by decide) hf (fun c hf => ?_) (fun c hf => ?_)
        · refine xm_iconst dX12_gathered_60 (v := -1) (by decide) ?_
          exact xm_sub [] rfl (L_X12_gathered_j61 σ (-1 : Int32) hf hR)
        · refine xm_iload_n dX12_gathered_56 rfl ?_
          refine xm_goto 61 dX12_gathered_57 (by decide) ?_
          exact xm_sub [] rfl (L_X12_gathered_j61 σ v8 hf hR)
      · exact xm_sub [] rfl (L_X12_gathered_j29 σ hf hR)
-- RankwiseModel.ruleOfTwo(II)I
def f_X12_ruleOfTwo_j258 (σ : xM) (l0 : Nat) (l1 : Int32) (l3 : Int32) (s0 : Int32) : Option (Int32 × xM) :=
  (if s0 < (0 : Int32) then some ((0 : Int32), σ) else (gR σ l0 12 5).bind (fun x8 => (wI σ x8 (l3 + (1 : Int32)) s0).bind (fun σ9 => (if xk σ9 l0 12 = true then (f_X12_becomesInner σ9 l0 l1 l3).bind (fun p10 => some ((7 : Int32), p10)) else none))))
set_option maxHeartbeats 4000000 in
set_option maxRecDepth 20000 in
theorem L_X12_ruleOfTwo_j258 {G : xG} {π : Nat → Nat} {d C Z : Nat} {Q : xQ} (σ : xM) (l0 : Nat) (l1 : Int32) (l3 : Int32) (s0 : Int32) {x : (Int32 × xM)} (hf : f_X12_ruleOfTwo_j258 σ l0 l1 l3 s0 = some x) (hR : ∀ g, x = g → Q (.inl (some (.int g.1))) (g.2) π) : xMach G π J_X12_ruleOfTwo (d + 4) C Z 258 [(0, .ref l0), (1, .int l1), (3, .int l3)] [.int s0] σ Q := by
  unfold f_X12_ruleOfTwo_j258 at hf
  refine xm_istore dX12_ruleOfTwo_258 (by decide) (xm_stL (L' := [(6, .int s0), (0, .ref l0), (1, .int l1), (3, .int l3)]) rfl ?_)
  refine xm_iload dX12_ruleOfTwo_260 rfl ?_
  refine xb_if_lt 284 dX12_ruleOfTwo_262 (by decide) hf (fun c hf => ?_) (fun c hf => ?_)
  · refine xm_iconst dX12_ruleOfTwo_284 (v := 0) (by decide) ?_
    cases hf
    exact xm_iret dX12_ruleOfTwo_285 rfl (hR _ rfl)
  · refine xm_aload_n dX12_ruleOfTwo_265 rfl ?_
    refine xb_getR (a := l0) (c := 12) (k := 5) dX12_ruleOfTwo_266 xcl12 (by decide) xw_1842 rfl hf (fun x8 ex8 hf => ?_)
    refine xm_iload_n dX12_ruleOfTwo_269 rfl ?_
    refine xm_iconst dX12_ruleOfTwo_270 (v := 1) (by decide) ?_
    refine xm_iadd dX12_ruleOfTwo_271 ?_
    refine xm_iload dX12_ruleOfTwo_272 rfl ?_
    refine xb_iast dX12_ruleOfTwo_274 hf (fun σ9 eσ9 hf => ?_)
    refine xm_aload_n dX12_ruleOfTwo_275 rfl ?_
    refine xm_iload_n dX12_ruleOfTwo_276 rfl ?_
    refine xm_iload_n dX12_ruleOfTwo_277 rfl ?_
    refine xb_if hf (fun hb hf => ?_) (fun _ q => nomatch q)
    obtain ⟨p10, ep10, hf⟩ := xbind hf
    refine xb_callV (As := [.int l1, .int l3]) (v0 := none) (τ0 := p10) dX12_ruleOfTwo_278 (xc_X12_becomesInner _ _) xcl12 xw_2600 xw_2602 xs_185 hb rfl (Nat.le_of_ble_eq_true rfl) rfl (Nat.le_of_ble_eq_true rfl) (fun Q1 hq => m_X12_becomesInner (d := d + 2) ep10 (fun g hg => by subst hg; exact hq)) ?_
    refine xm_bipush dX12_ruleOfTwo_281 (v := 7) (by decide) ?_
    cases hf
    exact xm_iret dX12_ruleOfTwo_283 rfl (hR _ rfl)
def f_X12_ruleOfTwo_j243 (σ : xM) (l0 : Nat) (l1 : Int32) (l2 : Int32) (l3 : Int32) (l4 : Int32) : Option (Int32 × xM) :=
  (if l2 = (0 : Int32) then (if xk σ l0 12 = true then (f_X12_gathered σ l0 l3 l4).bind (fun p11 => f_X12_ruleOfTwo_j258 σ l0 l1 l3 p11) else none) else f_X12_ruleOfTwo_j258 σ l0 l1 l3 (-1 : Int32))
set_option maxHeartbeats 4000000 in
set_option maxRecDepth 20000 in
theorem L_X12_ruleOfTwo_j243 {G : xG} {π : Nat → Nat} {d C Z : Nat} {Q : xQ} (σ : xM) (l0 : Nat) (l1 : Int32) (l2 : Int32) (l3 : Int32) (l4 : Int32) {x : (Int32 × xM)} (hf : f_X12_ruleOfTwo_j243 σ l0 l1 l2 l3 l4 = some x) (hR : ∀ g, x = g → Q (.inl (some (.int g.1))) (g.2) π) : xMach G π J_X12_ruleOfTwo (d + 4) C Z 243 [(0, .ref l0), (1, .int l1), (2, .int l2), (3, .int l3), (4, .int l4)] [] σ Q := by
  unfold f_X12_ruleOfTwo_j243 at hf
  refine xm_iload_n dX12_ruleOfTwo_243 rfl ?_
  refine xb_if_ne 257 dX12_ruleOfTwo_244 (by decide) hf (fun c hf => ?_) (fun c hf => ?_)
  · refine xm_iconst dX12_ruleOfTwo_257 (v := -1) (by decide) ?_
    exact xm_sub [0, 1, 3] rfl (L_X12_ruleOfTwo_j258 σ l0 l1 l3 (-1 : Int32) hf hR)
  · refine xm_aload_n dX12_ruleOfTwo_247 rfl ?_
    refine xm_iload_n dX12_ruleOfTwo_248 rfl ?_
    refine xm_iload dX12_ruleOfTwo_249 rfl ?_
    refine xb_if hf (fun hb hf => ?_) (fun _ q => nomatch q)
    obtain ⟨p11, ep11, hf⟩ := xbind hf
    refine xb_callV (As := [.int l3, .int l4]) (v0 := (some (.int p11))) (τ0 := σ) dX12_ruleOfTwo_251 (xc_X12_gathered _ _) xcl12 xw_2622 xw_2624 xs_190 hb rfl (Nat.le_of_ble_eq_true rfl) rfl (Nat.le_of_ble_eq_true rfl) (fun Q1 hq => m_X12_gathered (d := d + 0) ep11 (fun g hg => by subst hg; exact hq)) ?_
    refine xm_goto 258 dX12_ruleOfTwo_254 (by decide) ?_
    exact xm_sub [0, 1, 3] rfl (L_X12_ruleOfTwo_j258 σ l0 l1 l3 p11 hf hR)
def f_X12_ruleOfTwo_j238 (σ : xM) (s0 : Int32) (s1 : Int32) (s2 : Nat) : Option (Int32 × xM) :=
  (if xk σ s2 12 = true then (f_X12_becomes σ s2 s1 s0).bind (fun p12 => some ((5 : Int32), p12)) else none)
set_option maxHeartbeats 4000000 in
set_option maxRecDepth 20000 in
theorem L_X12_ruleOfTwo_j238 {G : xG} {π : Nat → Nat} {d C Z : Nat} {Q : xQ} (σ : xM) (s0 : Int32) (s1 : Int32) (s2 : Nat) {x : (Int32 × xM)} (hf : f_X12_ruleOfTwo_j238 σ s0 s1 s2 = some x) (hR : ∀ g, x = g → Q (.inl (some (.int g.1))) (g.2) π) : xMach G π J_X12_ruleOfTwo (d + 4) C Z 238 [] [.int s0, .int s1, .ref s2] σ Q := by
  unfold f_X12_ruleOfTwo_j238 at hf
  refine xb_if hf (fun hb hf => ?_) (fun _ q => nomatch q)
  obtain ⟨p12, ep12, hf⟩ := xbind hf
  refine xb_callV (As := [.int s1, .int s0]) (v0 := none) (τ0 := p12) dX12_ruleOfTwo_238 (xc_X12_becomes _ _) xcl12 xw_2614 xw_2616 xs_188 hb rfl (Nat.le_of_ble_eq_true rfl) rfl (Nat.le_of_ble_eq_true rfl) (fun Q1 hq => m_X12_becomes (d := d + 2) ep12 (fun g hg => by subst hg; exact hq)) ?_
  refine xm_iconst dX12_ruleOfTwo_241 (v := 5) (by decide) ?_
  cases hf
  exact xm_iret dX12_ruleOfTwo_242 rfl (hR _ rfl)
def f_X12_ruleOfTwo_j216 (σ : xM) (l0 : Nat) (l1 : Int32) (l2 : Int32) (l3 : Int32) (l4 : Int32) : Option (Int32 × xM) :=
  (if xk σ l0 12 = true then (f_X12_areSame σ l0 l3 l4).bind (fun p7 => (if p7 = (0 : Int32) then f_X12_ruleOfTwo_j243 σ l0 l1 l2 l3 l4 else (if l2 = (3 : Int32) then f_X12_ruleOfTwo_j238 σ (1 : Int32) l1 l0 else f_X12_ruleOfTwo_j238 σ (0 : Int32) l1 l0))) else none)
set_option maxHeartbeats 4000000 in
set_option maxRecDepth 20000 in
theorem L_X12_ruleOfTwo_j216 {G : xG} {π : Nat → Nat} {d C Z : Nat} {Q : xQ} (σ : xM) (l0 : Nat) (l1 : Int32) (l2 : Int32) (l3 : Int32) (l4 : Int32) {x : (Int32 × xM)} (hf : f_X12_ruleOfTwo_j216 σ l0 l1 l2 l3 l4 = some x) (hR : ∀ g, x = g → Q (.inl (some (.int g.1))) (g.2) π) : xMach G π J_X12_ruleOfTwo (d + 4) C Z 216 [(0, .ref l0), (1, .int l1), (2, .int l2), (3, .int l3), (4, .int l4)] [] σ Q := by
  unfold f_X12_ruleOfTwo_j216 at hf
  refine xm_aload_n dX12_ruleOfTwo_216 rfl ?_
  refine xm_iload_n dX12_ruleOfTwo_217 rfl ?_
  refine xm_iload dX12_ruleOfTwo_218 rfl ?_
  refine xb_if hf (fun hb hf => ?_) (fun _ q => nomatch q)
  obtain ⟨p7, ep7, hf⟩ := xbind hf
  refine xb_callV (As := [.int l3, .int l4]) (v0 := (some (.int p7))) (τ0 := σ) dX12_ruleOfTwo_220 (xc_X12_areSame _ _) xcl12 xw_2245 xw_2247 xs_115 hb rfl (Nat.le_of_ble_eq_true rfl) rfl (Nat.le_of_ble_eq_true rfl) (fun Q1 hq => m_X12_areSame (d := d + 3) ep7 (fun g hg => by subst hg; exact hq)) ?_
  refine xb_if_eq 243 dX12_ruleOfTwo_223 (by decide) hf (fun c hf => ?_) (fun c hf => ?_)
  · exact xm_sub [0, 1, 2, 3, 4] rfl (L_X12_ruleOfTwo_j243 σ l0 l1 l2 l3 l4 hf hR)
  · refine xm_aload_n dX12_ruleOfTwo_226 rfl ?_
    refine xm_iload_n dX12_ruleOfTwo_227 rfl ?_
    refine xm_iload_n dX12_ruleOfTwo_228 rfl ?_
    refine xm_iconst dX12_ruleOfTwo_229 (v := 3) (by decide) ?_
    refine xb_icmp_ne 237 dX12_ruleOfTwo_230 (by decide) hf (fun c hf => ?_) (fun c hf => ?_)
    · refine xm_iconst dX12_ruleOfTwo_237 (v := 0) (by decide) ?_
      exact xm_sub [] rfl (L_X12_ruleOfTwo_j238 σ (0 : Int32) l1 l0 hf hR)
    · refine xm_iconst dX12_ruleOfTwo_233 (v := 1) (by decide) ?_
      refine xm_goto 238 dX12_ruleOfTwo_234 (by decide) ?_
      exact xm_sub [] rfl (L_X12_ruleOfTwo_j238 σ (1 : Int32) l1 l0 hf hR)
def f_X12_ruleOfTwo_j206 (σ : xM) (l0 : Nat) (l1 : Int32) (l2 : Int32) (l3 : Int32) (l4 : Int32) : Option (Int32 × xM) :=
  (if l2 = (1 : Int32) then f_X12_ruleOfTwo_j216 σ l0 l1 l2 l3 l4 else (if l2 = (3 : Int32) then f_X12_ruleOfTwo_j216 σ l0 l1 l2 l3 l4 else f_X12_ruleOfTwo_j243 σ l0 l1 l2 l3 l4))
set_option maxHeartbeats 4000000 in
set_option maxRecDepth 20000 in
theorem L_X12_ruleOfTwo_j206 {G : xG} {π : Nat → Nat} {d C Z : Nat} {Q : xQ} (σ : xM) (l0 : Nat) (l1 : Int32) (l2 : Int32) (l3 : Int32) (l4 : Int32) {x : (Int32 × xM)} (hf : f_X12_ruleOfTwo_j206 σ l0 l1 l2 l3 l4 = some x) (hR : ∀ g, x = g → Q (.inl (some (.int g.1))) (g.2) π) : xMach G π J_X12_ruleOfTwo (d + 4) C Z 206 [(0, .ref l0), (1, .int l1), (2, .int l2), (3, .int l3), (4, .int l4)] [] σ Q := by
  unfold f_X12_ruleOfTwo_j206 at hf
  refine xm_iload_n dX12_ruleOfTwo_206 rfl ?_
  refine xm_iconst dX12_ruleOfTwo_207 (v := 1) (by decide) ?_
  refine xb_icmp_eq 216 dX12_ruleOfTwo_208 (by decide) hf (fun c hf => ?_) (fun c hf => ?_)
  · exact xm_sub [0, 1, 2, 3, 4] rfl (L_X12_ruleOfTwo_j216 σ l0 l1 l2 l3 l4 hf hR)
  · refine xm_iload_n dX12_ruleOfTwo_211 rfl ?_
    refine xm_iconst dX12_ruleOfTwo_212 (v := 3) (by decide) ?_
    refine xb_icmp_ne 243 dX12_ruleOfTwo_213 (by decide) hf (fun c hf => ?_) (fun c hf => ?_)
    · exact xm_sub [0, 1, 2, 3, 4] rfl (L_X12_ruleOfTwo_j243 σ l0 l1 l2 l3 l4 hf hR)
    · exact xm_sub [0, 1, 2, 3, 4] rfl (L_X12_ruleOfTwo_j216 σ l0 l1 l2 l3 l4 hf hR)
def f_X12_ruleOfTwo_j198 (σ : xM) (l0 : Nat) (l1 : Int32) : Option (Int32 × xM) :=
  (if xk σ l0 12 = true then (f_X12_becomes σ l0 l1 (0 : Int32)).bind (fun p14 => some ((4 : Int32), p14)) else none)
set_option maxHeartbeats 4000000 in
set_option maxRecDepth 20000 in
theorem L_X12_ruleOfTwo_j198 {G : xG} {π : Nat → Nat} {d C Z : Nat} {Q : xQ} (σ : xM) (l0 : Nat) (l1 : Int32) {x : (Int32 × xM)} (hf : f_X12_ruleOfTwo_j198 σ l0 l1 = some x) (hR : ∀ g, x = g → Q (.inl (some (.int g.1))) (g.2) π) : xMach G π J_X12_ruleOfTwo (d + 4) C Z 198 [(0, .ref l0), (1, .int l1)] [] σ Q := by
  unfold f_X12_ruleOfTwo_j198 at hf
  refine xm_aload_n dX12_ruleOfTwo_198 rfl ?_
  refine xm_iload_n dX12_ruleOfTwo_199 rfl ?_
  refine xm_iconst dX12_ruleOfTwo_200 (v := 0) (by decide) ?_
  refine xb_if hf (fun hb hf => ?_) (fun _ q => nomatch q)
  obtain ⟨p14, ep14, hf⟩ := xbind hf
  refine xb_callV (As := [.int l1, .int (0 : Int32)]) (v0 := none) (τ0 := p14) dX12_ruleOfTwo_201 (xc_X12_becomes _ _) xcl12 xw_2614 xw_2616 xs_188 hb rfl (Nat.le_of_ble_eq_true rfl) rfl (Nat.le_of_ble_eq_true rfl) (fun Q1 hq => m_X12_becomes (d := d + 2) ep14 (fun g hg => by subst hg; exact hq)) ?_
  refine xm_iconst dX12_ruleOfTwo_204 (v := 4) (by decide) ?_
  cases hf
  exact xm_iret dX12_ruleOfTwo_205 rfl (hR _ rfl)
def f_X12_ruleOfTwo_j174 (σ : xM) (l0 : Nat) (l1 : Int32) (l2 : Int32) (l3 : Int32) (l4 : Int32) : Option (Int32 × xM) :=
  (if l2 = (2 : Int32) then (if xk σ l0 12 = true then (f_X12_isNumber σ l0 l3 (0 : Int32)).bind (fun p13 => (if p13 = (0 : Int32) then (if xk σ l0 12 = true then (f_X12_isNumber σ l0 l4 (0 : Int32)).bind (fun p15 => (if p15 = (0 : Int32) then f_X12_ruleOfTwo_j206 σ l0 l1 l2 l3 l4 else f_X12_ruleOfTwo_j198 σ l0 l1)) else none) else f_X12_ruleOfTwo_j198 σ l0 l1)) else none) else f_X12_ruleOfTwo_j206 σ l0 l1 l2 l3 l4)
set_option maxHeartbeats 4000000 in
set_option maxRecDepth 20000 in
theorem L_X12_ruleOfTwo_j174 {G : xG} {π : Nat → Nat} {d C Z : Nat} {Q : xQ} (σ : xM) (l0 : Nat) (l1 : Int32) (l2 : Int32) (l3 : Int32) (l4 : Int32) {x : (Int32 × xM)} (hf : f_X12_ruleOfTwo_j174 σ l0 l1 l2 l3 l4 = some x) (hR : ∀ g, x = g → Q (.inl (some (.int g.1))) (g.2) π) : xMach G π J_X12_ruleOfTwo (d + 4) C Z 174 [(0, .ref l0), (1, .int l1), (2, .int l2), (3, .int l3), (4, .int l4)] [] σ Q := by
  unfold f_X12_ruleOfTwo_j174 at hf
  refine xm_iload_n dX12_ruleOfTwo_174 rfl ?_
  refine xm_iconst dX12_ruleOfTwo_175 (v := 2) (by decide) ?_
  refine xb_icmp_ne 206 dX12_ruleOfTwo_176 (by decide) hf (fun c hf => ?_) (fun c hf => ?_)
  · exact xm_sub [0, 1, 2, 3, 4] rfl (L_X12_ruleOfTwo_j206 σ l0 l1 l2 l3 l4 hf hR)
  · refine xm_aload_n dX12_ruleOfTwo_179 rfl ?_
    refine xm_iload_n dX12_ruleOfTwo_180 rfl ?_
    refine xm_iconst dX12_ruleOfTwo_181 (v := 0) (by decide) ?_
    refine xb_if hf (fun hb hf => ?_) (fun _ q => nomatch q)
    obtain ⟨p13, ep13, hf⟩ := xbind hf
    refine xb_callV (As := [.int l3, .int (0 : Int32)]) (v0 := (some (.int p13))) (τ0 := σ) dX12_ruleOfTwo_182 (xc_X12_isNumber _ _) xcl12 xw_2618 xw_2620 xs_189 hb rfl (Nat.le_of_ble_eq_true rfl) rfl (Nat.le_of_ble_eq_true rfl) (fun Q1 hq => m_X12_isNumber (d := d + 3) ep13 (fun g hg => by subst hg; exact hq)) ?_
    refine xb_if_ne 198 dX12_ruleOfTwo_185 (by decide) hf (fun c hf => ?_) (fun c hf => ?_)
    · exact xm_sub [0, 1] rfl (L_X12_ruleOfTwo_j198 σ l0 l1 hf hR)
    · refine xm_aload_n dX12_ruleOfTwo_188 rfl ?_
      refine xm_iload dX12_ruleOfTwo_189 rfl ?_
      refine xm_iconst dX12_ruleOfTwo_191 (v := 0) (by decide) ?_
      refine xb_if hf (fun hb hf => ?_) (fun _ q => nomatch q)
      obtain ⟨p15, ep15, hf⟩ := xbind hf
      refine xb_callV (As := [.int l4, .int (0 : Int32)]) (v0 := (some (.int p15))) (τ0 := σ) dX12_ruleOfTwo_192 (xc_X12_isNumber _ _) xcl12 xw_2618 xw_2620 xs_189 hb rfl (Nat.le_of_ble_eq_true rfl) rfl (Nat.le_of_ble_eq_true rfl) (fun Q1 hq => m_X12_isNumber (d := d + 3) ep15 (fun g hg => by subst hg; exact hq)) ?_
      refine xb_if_eq 206 dX12_ruleOfTwo_195 (by decide) hf (fun c hf => ?_) (fun c hf => ?_)
      · exact xm_sub [0, 1, 2, 3, 4] rfl (L_X12_ruleOfTwo_j206 σ l0 l1 l2 l3 l4 hf hR)
      · exact xm_sub [0, 1] rfl (L_X12_ruleOfTwo_j198 σ l0 l1 hf hR)
def f_X12_ruleOfTwo_j156 (σ : xM) (l0 : Nat) (l1 : Int32) (l2 : Int32) (l3 : Int32) (l4 : Int32) : Option (Int32 × xM) :=
  (if xk σ l0 12 = true then (f_X12_isNumber σ l0 l4 (1 : Int32)).bind (fun p6 => (if p6 = (0 : Int32) then f_X12_ruleOfTwo_j174 σ l0 l1 l2 l3 l4 else (if xk σ l0 12 = true then (f_X12_becomesInner σ l0 l1 l3).bind (fun p16 => some ((3 : Int32), p16)) else none))) else none)
set_option maxHeartbeats 4000000 in
set_option maxRecDepth 20000 in
theorem L_X12_ruleOfTwo_j156 {G : xG} {π : Nat → Nat} {d C Z : Nat} {Q : xQ} (σ : xM) (l0 : Nat) (l1 : Int32) (l2 : Int32) (l3 : Int32) (l4 : Int32) {x : (Int32 × xM)} (hf : f_X12_ruleOfTwo_j156 σ l0 l1 l2 l3 l4 = some x) (hR : ∀ g, x = g → Q (.inl (some (.int g.1))) (g.2) π) : xMach G π J_X12_ruleOfTwo (d + 4) C Z 156 [(0, .ref l0), (1, .int l1), (2, .int l2), (3, .int l3), (4, .int l4)] [] σ Q := by
  unfold f_X12_ruleOfTwo_j156 at hf
  refine xm_aload_n dX12_ruleOfTwo_156 rfl ?_
  refine xm_iload dX12_ruleOfTwo_157 rfl ?_
  refine xm_iconst dX12_ruleOfTwo_159 (v := 1) (by decide) ?_
  refine xb_if hf (fun hb hf => ?_) (fun _ q => nomatch q)
  obtain ⟨p6, ep6, hf⟩ := xbind hf
  refine xb_callV (As := [.int l4, .int (1 : Int32)]) (v0 := (some (.int p6))) (τ0 := σ) dX12_ruleOfTwo_160 (xc_X12_isNumber _ _) xcl12 xw_2618 xw_2620 xs_189 hb rfl (Nat.le_of_ble_eq_true rfl) rfl (Nat.le_of_ble_eq_true rfl) (fun Q1 hq => m_X12_isNumber (d := d + 3) ep6 (fun g hg => by subst hg; exact hq)) ?_
  refine xb_if_eq 174 dX12_ruleOfTwo_163 (by decide) hf (fun c hf => ?_) (fun c hf => ?_)
  · exact xm_sub [0, 1, 2, 3, 4] rfl (L_X12_ruleOfTwo_j174 σ l0 l1 l2 l3 l4 hf hR)
  · refine xm_aload_n dX12_ruleOfTwo_166 rfl ?_
    refine xm_iload_n dX12_ruleOfTwo_167 rfl ?_
    refine xm_iload_n dX12_ruleOfTwo_168 rfl ?_
    refine xb_if hf (fun hb hf => ?_) (fun _ q => nomatch q)
    obtain ⟨p16, ep16, hf⟩ := xbind hf
    refine xb_callV (As := [.int l1, .int l3]) (v0 := none) (τ0 := p16) dX12_ruleOfTwo_169 (xc_X12_becomesInner _ _) xcl12 xw_2600 xw_2602 xs_185 hb rfl (Nat.le_of_ble_eq_true rfl) rfl (Nat.le_of_ble_eq_true rfl) (fun Q1 hq => m_X12_becomesInner (d := d + 2) ep16 (fun g hg => by subst hg; exact hq)) ?_
    refine xm_iconst dX12_ruleOfTwo_172 (v := 3) (by decide) ?_
    cases hf
    exact xm_iret dX12_ruleOfTwo_173 rfl (hR _ rfl)
def f_X12_ruleOfTwo_j141 (σ : xM) (l0 : Nat) (l1 : Int32) (l2 : Int32) (l3 : Int32) (l4 : Int32) : Option (Int32 × xM) :=
  (if l2 = (2 : Int32) then f_X12_ruleOfTwo_j156 σ l0 l1 l2 l3 l4 else (if l2 = (3 : Int32) then f_X12_ruleOfTwo_j156 σ l0 l1 l2 l3 l4 else (if l2 = (5 : Int32) then f_X12_ruleOfTwo_j156 σ l0 l1 l2 l3 l4 else f_X12_ruleOfTwo_j174 σ l0 l1 l2 l3 l4)))
set_option maxHeartbeats 4000000 in
set_option maxRecDepth 20000 in
theorem L_X12_ruleOfTwo_j141 {G : xG} {π : Nat → Nat} {d C Z : Nat} {Q : xQ} (σ : xM) (l0 : Nat) (l1 : Int32) (l2 : Int32) (l3 : Int32) (l4 : Int32) {x : (Int32 × xM)} (hf : f_X12_ruleOfTwo_j141 σ l0 l1 l2 l3 l4 = some x) (hR : ∀ g, x = g → Q (.inl (some (.int g.1))) (g.2) π) : xMach G π J_X12_ruleOfTwo (d + 4) C Z 141 [(0, .ref l0), (1, .int l1), (2, .int l2), (3, .int l3), (4, .int l4)] [] σ Q := by
  unfold f_X12_ruleOfTwo_j141 at hf
  refine xm_iload_n dX12_ruleOfTwo_141 rfl ?_
  refine xm_iconst dX12_ruleOfTwo_142 (v := 2) (by decide) ?_
  refine xb_icmp_eq 156 dX12_ruleOfTwo_143 (by decide) hf (fun c hf => ?_) (fun c hf => ?_)
  · exact xm_sub [0, 1, 2, 3, 4] rfl (L_X12_ruleOfTwo_j156 σ l0 l1 l2 l3 l4 hf hR)
  · refine xm_iload_n dX12_ruleOfTwo_146 rfl ?_
    refine xm_iconst dX12_ruleOfTwo_147 (v := 3) (by decide) ?_
    refine xb_icmp_eq 156 dX12_ruleOfTwo_148 (by decide) hf (fun c hf => ?_) (fun c hf => ?_)
    · exact xm_sub [0, 1, 2, 3, 4] rfl (L_X12_ruleOfTwo_j156 σ l0 l1 l2 l3 l4 hf hR)
    · refine xm_iload_n dX12_ruleOfTwo_151 rfl ?_
      refine xm_iconst dX12_ruleOfTwo_152 (v := 5) (by decide) ?_
      refine xb_icmp_ne 174 dX12_ruleOfTwo_153 (by decide) hf (fun c hf => ?_) (fun c hf => ?_)
      · exact xm_sub [0, 1, 2, 3, 4] rfl (L_X12_ruleOfTwo_j174 σ l0 l1 l2 l3 l4 hf hR)
      · exact xm_sub [0, 1, 2, 3, 4] rfl (L_X12_ruleOfTwo_j156 σ l0 l1 l2 l3 l4 hf hR)
def f_X12_ruleOfTwo_j118 (σ : xM) (l0 : Nat) (l1 : Int32) (l2 : Int32) (l3 : Int32) (l4 : Int32) : Option (Int32 × xM) :=
  (if l2 = (2 : Int32) then (if xk σ l0 12 = true then (f_X12_isNumber σ l0 l3 (1 : Int32)).bind (fun p17 => (if p17 = (0 : Int32) then f_X12_ruleOfTwo_j141 σ l0 l1 l2 l3 l4 else (if xk σ l0 12 = true then (f_X12_becomesInner σ l0 l1 l4).bind (fun p18 => some ((3 : Int32), p18)) else none))) else none) else f_X12_ruleOfTwo_j141 σ l0 l1 l2 l3 l4)
set_option maxHeartbeats 4000000 in
set_option maxRecDepth 20000 in
theorem L_X12_ruleOfTwo_j118 {G : xG} {π : Nat → Nat} {d C Z : Nat} {Q : xQ} (σ : xM) (l0 : Nat) (l1 : Int32) (l2 : Int32) (l3 : Int32) (l4 : Int32) {x : (Int32 × xM)} (hf : f_X12_ruleOfTwo_j118 σ l0 l1 l2 l3 l4 = some x) (hR : ∀ g, x = g → Q (.inl (some (.int g.1))) (g.2) π) : xMach G π J_X12_ruleOfTwo (d + 4) C Z 118 [(0, .ref l0), (1, .int l1), (2, .int l2), (3, .int l3), (4, .int l4)] [] σ Q := by
  unfold f_X12_ruleOfTwo_j118 at hf
  refine xm_iload_n dX12_ruleOfTwo_118 rfl ?_
  refine xm_iconst dX12_ruleOfTwo_119 (v := 2) (by decide) ?_
  refine xb_icmp_ne 141 dX12_ruleOfTwo_120 (by decide) hf (fun c hf => ?_) (fun c hf => ?_)
  · exact xm_sub [0, 1, 2, 3, 4] rfl (L_X12_ruleOfTwo_j141 σ l0 l1 l2 l3 l4 hf hR)
  · refine xm_aload_n dX12_ruleOfTwo_123 rfl ?_
    refine xm_iload_n dX12_ruleOfTwo_124 rfl ?_
    refine xm_iconst dX12_ruleOfTwo_125 (v := 1) (by decide) ?_
    refine xb_if hf (fun hb hf => ?_) (fun _ q => nomatch q)
    obtain ⟨p17, ep17, hf⟩ := xbind hf
    refine xb_callV (As := [.int l3, .int (1 : Int32)]) (v0 := (some (.int p17))) (τ0 := σ) dX12_ruleOfTwo_126 (xc_X12_isNumber _ _) xcl12 xw_2618 xw_2620 xs_189 hb rfl (Nat.le_of_ble_eq_true rfl) rfl (Nat.le_of_ble_eq_true rfl) (fun Q1 hq => m_X12_isNumber (d := d + 3) ep17 (fun g hg => by subst hg; exact hq)) ?_
    refine xb_if_eq 141 dX12_ruleOfTwo_129 (by decide) hf (fun c hf => ?_) (fun c hf => ?_)
    · exact xm_sub [0, 1, 2, 3, 4] rfl (L_X12_ruleOfTwo_j141 σ l0 l1 l2 l3 l4 hf hR)
    · refine xm_aload_n dX12_ruleOfTwo_132 rfl ?_
      refine xm_iload_n dX12_ruleOfTwo_133 rfl ?_
      refine xm_iload dX12_ruleOfTwo_134 rfl ?_
      refine xb_if hf (fun hb hf => ?_) (fun _ q => nomatch q)
      obtain ⟨p18, ep18, hf⟩ := xbind hf
      refine xb_callV (As := [.int l1, .int l4]) (v0 := none) (τ0 := p18) dX12_ruleOfTwo_136 (xc_X12_becomesInner _ _) xcl12 xw_2600 xw_2602 xs_185 hb rfl (Nat.le_of_ble_eq_true rfl) rfl (Nat.le_of_ble_eq_true rfl) (fun Q1 hq => m_X12_becomesInner (d := d + 2) ep18 (fun g hg => by subst hg; exact hq)) ?_
      refine xm_iconst dX12_ruleOfTwo_139 (v := 3) (by decide) ?_
      cases hf
      exact xm_iret dX12_ruleOfTwo_140 rfl (hR _ rfl)
def f_X12_ruleOfTwo_j100 (σ : xM) (l0 : Nat) (l1 : Int32) (l2 : Int32) (l3 : Int32) (l4 : Int32) : Option (Int32 × xM) :=
  (if xk σ l0 12 = true then (f_X12_isNumber σ l0 l4 (0 : Int32)).bind (fun p5 => (if p5 = (0 : Int32) then f_X12_ruleOfTwo_j118 σ l0 l1 l2 l3 l4 else (if xk σ l0 12 = true then (f_X12_becomesInner σ l0 l1 l3).bind (fun p19 => some ((2 : Int32), p19)) else none))) else none)
set_option maxHeartbeats 4000000 in
set_option maxRecDepth 20000 in
theorem L_X12_ruleOfTwo_j100 {G : xG} {π : Nat → Nat} {d C Z : Nat} {Q : xQ} (σ : xM) (l0 : Nat) (l1 : Int32) (l2 : Int32) (l3 : Int32) (l4 : Int32) {x : (Int32 × xM)} (hf : f_X12_ruleOfTwo_j100 σ l0 l1 l2 l3 l4 = some x) (hR : ∀ g, x = g → Q (.inl (some (.int g.1))) (g.2) π) : xMach G π J_X12_ruleOfTwo (d + 4) C Z 100 [(0, .ref l0), (1, .int l1), (2, .int l2), (3, .int l3), (4, .int l4)] [] σ Q := by
  unfold f_X12_ruleOfTwo_j100 at hf
  refine xm_aload_n dX12_ruleOfTwo_100 rfl ?_
  refine xm_iload dX12_ruleOfTwo_101 rfl ?_
  refine xm_iconst dX12_ruleOfTwo_103 (v := 0) (by decide) ?_
  refine xb_if hf (fun hb hf => ?_) (fun _ q => nomatch q)
  obtain ⟨p5, ep5, hf⟩ := xbind hf
  refine xb_callV (As := [.int l4, .int (0 : Int32)]) (v0 := (some (.int p5))) (τ0 := σ) dX12_ruleOfTwo_104 (xc_X12_isNumber _ _) xcl12 xw_2618 xw_2620 xs_189 hb rfl (Nat.le_of_ble_eq_true rfl) rfl (Nat.le_of_ble_eq_true rfl) (fun Q1 hq => m_X12_isNumber (d := d + 3) ep5 (fun g hg => by subst hg; exact hq)) ?_
  refine xb_if_eq 118 dX12_ruleOfTwo_107 (by decide) hf (fun c hf => ?_) (fun c hf => ?_)
  · exact xm_sub [0, 1, 2, 3, 4] rfl (L_X12_ruleOfTwo_j118 σ l0 l1 l2 l3 l4 hf hR)
  · refine xm_aload_n dX12_ruleOfTwo_110 rfl ?_
    refine xm_iload_n dX12_ruleOfTwo_111 rfl ?_
    refine xm_iload_n dX12_ruleOfTwo_112 rfl ?_
    refine xb_if hf (fun hb hf => ?_) (fun _ q => nomatch q)
    obtain ⟨p19, ep19, hf⟩ := xbind hf
    refine xb_callV (As := [.int l1, .int l3]) (v0 := none) (τ0 := p19) dX12_ruleOfTwo_113 (xc_X12_becomesInner _ _) xcl12 xw_2600 xw_2602 xs_185 hb rfl (Nat.le_of_ble_eq_true rfl) rfl (Nat.le_of_ble_eq_true rfl) (fun Q1 hq => m_X12_becomesInner (d := d + 2) ep19 (fun g hg => by subst hg; exact hq)) ?_
    refine xm_iconst dX12_ruleOfTwo_116 (v := 2) (by decide) ?_
    cases hf
    exact xm_iret dX12_ruleOfTwo_117 rfl (hR _ rfl)
def f_X12_ruleOfTwo_j91 (σ : xM) (l0 : Nat) (l1 : Int32) (l2 : Int32) (l3 : Int32) (l4 : Int32) : Option (Int32 × xM) :=
  (if l2 = (0 : Int32) then f_X12_ruleOfTwo_j100 σ l0 l1 l2 l3 l4 else (if l2 = (1 : Int32) then f_X12_ruleOfTwo_j100 σ l0 l1 l2 l3 l4 else f_X12_ruleOfTwo_j118 σ l0 l1 l2 l3 l4))
set_option maxHeartbeats 4000000 in
set_option maxRecDepth 20000 in
theorem L_X12_ruleOfTwo_j91 {G : xG} {π : Nat → Nat} {d C Z : Nat} {Q : xQ} (σ : xM) (l0 : Nat) (l1 : Int32) (l2 : Int32) (l3 : Int32) (l4 : Int32) {x : (Int32 × xM)} (hf : f_X12_ruleOfTwo_j91 σ l0 l1 l2 l3 l4 = some x) (hR : ∀ g, x = g → Q (.inl (some (.int g.1))) (g.2) π) : xMach G π J_X12_ruleOfTwo (d + 4) C Z 91 [(0, .ref l0), (1, .int l1), (2, .int l2), (3, .int l3), (4, .int l4)] [] σ Q := by
  unfold f_X12_ruleOfTwo_j91 at hf
  refine xm_iload_n dX12_ruleOfTwo_91 rfl ?_
  refine xb_if_eq 100 dX12_ruleOfTwo_92 (by decide) hf (fun c hf => ?_) (fun c hf => ?_)
  · exact xm_sub [0, 1, 2, 3, 4] rfl (L_X12_ruleOfTwo_j100 σ l0 l1 l2 l3 l4 hf hR)
  · refine xm_iload_n dX12_ruleOfTwo_95 rfl ?_
    refine xm_iconst dX12_ruleOfTwo_96 (v := 1) (by decide) ?_
    refine xb_icmp_ne 118 dX12_ruleOfTwo_97 (by decide) hf (fun c hf => ?_) (fun c hf => ?_)
    · exact xm_sub [0, 1, 2, 3, 4] rfl (L_X12_ruleOfTwo_j118 σ l0 l1 l2 l3 l4 hf hR)
    · exact xm_sub [0, 1, 2, 3, 4] rfl (L_X12_ruleOfTwo_j100 σ l0 l1 l2 l3 l4 hf hR)
def f_X12_ruleOfTwo_j53 (σ : xM) (l0 : Nat) (l1 : Int32) (l2 : Int32) (l3 : Int32) (l4 : Int32) (s0 : Int32) : Option (Int32 × xM) :=
  (if s0 < (0 : Int32) then (if l2 = (0 : Int32) then (if xk σ l0 12 = true then (f_X12_isNumber σ l0 l3 (0 : Int32)).bind (fun p20 => (if p20 = (0 : Int32) then f_X12_ruleOfTwo_j91 σ l0 l1 l2 l3 l4 else (if xk σ l0 12 = true then (f_X12_becomesInner σ l0 l1 l4).bind (fun p21 => some ((2 : Int32), p21)) else none))) else none) else f_X12_ruleOfTwo_j91 σ l0 l1 l2 l3 l4) else (if xk σ l0 12 = true then (f_X12_becomes σ l0 l1 s0).bind (fun p22 => some ((1 : Int32), p22)) else none))
set_option maxHeartbeats 4000000 in
set_option maxRecDepth 20000 in
theorem L_X12_ruleOfTwo_j53 {G : xG} {π : Nat → Nat} {d C Z : Nat} {Q : xQ} (σ : xM) (l0 : Nat) (l1 : Int32) (l2 : Int32) (l3 : Int32) (l4 : Int32) (s0 : Int32) {x : (Int32 × xM)} (hf : f_X12_ruleOfTwo_j53 σ l0 l1 l2 l3 l4 s0 = some x) (hR : ∀ g, x = g → Q (.inl (some (.int g.1))) (g.2) π) : xMach G π J_X12_ruleOfTwo (d + 4) C Z 53 [(0, .ref l0), (1, .int l1), (2, .int l2), (3, .int l3), (4, .int l4)] [.int s0] σ Q := by
  unfold f_X12_ruleOfTwo_j53 at hf
  refine xm_istore dX12_ruleOfTwo_53 (by decide) (xm_stL (L' := [(5, .int s0), (0, .ref l0), (1, .int l1), (2, .int l2), (3, .int l3), (4, .int l4)]) rfl ?_)
  refine xm_iload dX12_ruleOfTwo_55 rfl ?_
  refine xb_if_lt 69 dX12_ruleOfTwo_57 (by decide) hf (fun c hf => ?_) (fun c hf => ?_)
  · refine xm_iload_n dX12_ruleOfTwo_69 rfl ?_
    refine xb_if_ne 91 dX12_ruleOfTwo_70 (by decide) hf (fun c hf => ?_) (fun c hf => ?_)
    · exact xm_sub [1, 2, 3, 4, 5] rfl (L_X12_ruleOfTwo_j91 σ l0 l1 l2 l3 l4 hf hR)
    · refine xm_aload_n dX12_ruleOfTwo_73 rfl ?_
      refine xm_iload_n dX12_ruleOfTwo_74 rfl ?_
      refine xm_iconst dX12_ruleOfTwo_75 (v := 0) (by decide) ?_
      refine xb_if hf (fun hb hf => ?_) (fun _ q => nomatch q)
      obtain ⟨p20, ep20, hf⟩ := xbind hf
      refine xb_callV (As := [.int l3, .int (0 : Int32)]) (v0 := (some (.int p20))) (τ0 := σ) dX12_ruleOfTwo_76 (xc_X12_isNumber _ _) xcl12 xw_2618 xw_2620 xs_189 hb rfl (Nat.le_of_ble_eq_true rfl) rfl (Nat.le_of_ble_eq_true rfl) (fun Q1 hq => m_X12_isNumber (d := d + 3) ep20 (fun g hg => by subst hg; exact hq)) ?_
      refine xb_if_eq 91 dX12_ruleOfTwo_79 (by decide) hf (fun c hf => ?_) (fun c hf => ?_)
      · exact xm_sub [1, 2, 3, 4, 5] rfl (L_X12_ruleOfTwo_j91 σ l0 l1 l2 l3 l4 hf hR)
      · refine xm_aload_n dX12_ruleOfTwo_82 rfl ?_
        refine xm_iload_n dX12_ruleOfTwo_83 rfl ?_
        refine xm_iload dX12_ruleOfTwo_84 rfl ?_
        refine xb_if hf (fun hb hf => ?_) (fun _ q => nomatch q)
        obtain ⟨p21, ep21, hf⟩ := xbind hf
        refine xb_callV (As := [.int l1, .int l4]) (v0 := none) (τ0 := p21) dX12_ruleOfTwo_86 (xc_X12_becomesInner _ _) xcl12 xw_2600 xw_2602 xs_185 hb rfl (Nat.le_of_ble_eq_true rfl) rfl (Nat.le_of_ble_eq_true rfl) (fun Q1 hq => m_X12_becomesInner (d := d + 2) ep21 (fun g hg => by subst hg; exact hq)) ?_
        refine xm_iconst dX12_ruleOfTwo_89 (v := 2) (by decide) ?_
        cases hf
        exact xm_iret dX12_ruleOfTwo_90 rfl (hR _ rfl)
  · refine xm_aload_n dX12_ruleOfTwo_60 rfl ?_
    refine xm_iload_n dX12_ruleOfTwo_61 rfl ?_
    refine xm_iload dX12_ruleOfTwo_62 rfl ?_
    refine xb_if hf (fun hb hf => ?_) (fun _ q => nomatch q)
    obtain ⟨p22, ep22, hf⟩ := xbind hf
    refine xb_callV (As := [.int l1, .int s0]) (v0 := none) (τ0 := p22) dX12_ruleOfTwo_64 (xc_X12_becomes _ _) xcl12 xw_2614 xw_2616 xs_188 hb rfl (Nat.le_of_ble_eq_true rfl) rfl (Nat.le_of_ble_eq_true rfl) (fun Q1 hq => m_X12_becomes (d := d + 2) ep22 (fun g hg => by subst hg; exact hq)) ?_
    refine xm_iconst dX12_ruleOfTwo_67 (v := 1) (by decide) ?_
    cases hf
    exact xm_iret dX12_ruleOfTwo_68 rfl (hR _ rfl)
def f_X12_ruleOfTwo_j52 (σ : xM) (l0 : Nat) (l1 : Int32) (l2 : Int32) (l3 : Int32) (l4 : Int32) : Option (Int32 × xM) :=
  f_X12_ruleOfTwo_j53 σ l0 l1 l2 l3 l4 (-1 : Int32)
set_option maxHeartbeats 4000000 in
set_option maxRecDepth 20000 in
theorem L_X12_ruleOfTwo_j52 {G : xG} {π : Nat → Nat} {d C Z : Nat} {Q : xQ} (σ : xM) (l0 : Nat) (l1 : Int32) (l2 : Int32) (l3 : Int32) (l4 : Int32) {x : (Int32 × xM)} (hf : f_X12_ruleOfTwo_j52 σ l0 l1 l2 l3 l4 = some x) (hR : ∀ g, x = g → Q (.inl (some (.int g.1))) (g.2) π) : xMach G π J_X12_ruleOfTwo (d + 4) C Z 52 [(0, .ref l0), (1, .int l1), (2, .int l2), (3, .int l3), (4, .int l4)] [] σ Q := by
  unfold f_X12_ruleOfTwo_j52 at hf
  refine xm_iconst dX12_ruleOfTwo_52 (v := -1) (by decide) ?_
  exact xm_sub [0, 1, 2, 3, 4] rfl (L_X12_ruleOfTwo_j53 σ l0 l1 l2 l3 l4 (-1 : Int32) hf hR)
def f_X12_ruleOfTwo (σ : xM) (l0 : Nat) (l1 : Int32) (l2 : Int32) : Option (Int32 × xM) :=
  xlet (l1 + (1 : Int32)) (fun v1 => (if xk σ l0 12 = true then (f_X12_child σ l0 l1 (1 : Int32)).bind (fun p2 => (gR σ l0 12 4).bind (fun x3 => (aI σ x3 14 v1).bind (fun x4 => (if x4 = (0 : Int32) then (gR σ l0 12 4).bind (fun x23 => (aI σ x23 14 p2).bind (fun x24 => (if x24 = (0 : Int32) then (gR σ l0 12 5).bind (fun x25 => (aI σ x25 14 v1).bind (fun x26 => (gR σ l0 12 5).bind (fun x27 => (aI σ x27 14 p2).bind (fun x28 => (if xk σ l0 12 = true then (f_X12_whole σ l0 l2 x26 x28).bind (fun p29 => f_X12_ruleOfTwo_j53 σ l0 l1 l2 v1 p2 p29) else none))))) else f_X12_ruleOfTwo_j52 σ l0 l1 l2 v1 p2))) else f_X12_ruleOfTwo_j52 σ l0 l1 l2 v1 p2)))) else none))
set_option maxHeartbeats 4000000 in
set_option maxRecDepth 20000 in
theorem m_X12_ruleOfTwo {G : xG} {π : Nat → Nat} {d C Z : Nat} {Q : xQ} {σ : xM} {l0 : Nat} {l1 : Int32} {l2 : Int32} {x : (Int32 × xM)} (hf : f_X12_ruleOfTwo σ l0 l1 l2 = some x) (hR : ∀ g, x = g → Q (.inl (some (.int g.1))) (g.2) π) : xMach G π J_X12_ruleOfTwo (d + 4) C Z 0 (lv_args 0 [.ref l0, .int l1, .int l2]) [] σ Q := by
  unfold f_X12_ruleOfTwo at hf
  refine xm_stL (L' := [(0, .ref l0), (1, .int l1), (2, .int l2)]) rfl ?_
  refine xm_iload_n dX12_ruleOfTwo_0 rfl ?_
  refine xm_iconst dX12_ruleOfTwo_1 (v := 1) (by decide) ?_
  refine xm_iadd dX12_ruleOfTwo_2 ?_
  refine xb_topi hf (fun v1 ev1 hf => ?_)
  refine xm_istore_n dX12_ruleOfTwo_3 (by decide) (xm_stL (L' := [(3, .int v1), (0, .ref l0), (1, .int l1), (2, .int l2)]) rfl ?_)
  refine xm_aload_n dX12_ruleOfTwo_4 rfl ?_
  refine xm_iload_n dX12_ruleOfTwo_5 rfl ?_
  refine xm_iconst dX12_ruleOfTwo_6 (v := 1) (by decide) ?_
  refine xb_if hf (fun hb hf => ?_) (fun _ q => nomatch q)
  obtain ⟨p2, ep2, hf⟩ := xbind hf
  refine xb_callV (As := [.int l1, .int (1 : Int32)]) (v0 := (some (.int p2))) (τ0 := σ) dX12_ruleOfTwo_7 (xc_X12_child _ _) xcl12 xw_2303 xw_2305 xs_123 hb rfl (Nat.le_of_ble_eq_true rfl) rfl (Nat.le_of_ble_eq_true rfl) (fun Q1 hq => m_X12_child (d := d + 3) ep2 (fun g hg => by subst hg; exact hq)) ?_
  refine xm_istore dX12_ruleOfTwo_10 (by decide) (xm_stL (L' := [(4, .int p2), (3, .int v1), (0, .ref l0), (1, .int l1), (2, .int l2)]) rfl ?_)
  refine xm_aload_n dX12_ruleOfTwo_12 rfl ?_
  refine xb_getR (a := l0) (c := 12) (k := 4) dX12_ruleOfTwo_13 xcl12 (by decide) xw_1841 rfl hf (fun x3 ex3 hf => ?_)
  refine xm_iload_n dX12_ruleOfTwo_16 rfl ?_
  refine xb_iald dX12_ruleOfTwo_17 hf (fun x4 ex4 hf => ?_)
  refine xb_if_ne 52 dX12_ruleOfTwo_18 (by decide) hf (fun c hf => ?_) (fun c hf => ?_)
  · exact xm_sub [2, 3, 4, 1, 0] rfl (L_X12_ruleOfTwo_j52 σ l0 l1 l2 v1 p2 hf hR)
  · refine xm_aload_n dX12_ruleOfTwo_21 rfl ?_
    refine xb_getR (a := l0) (c := 12) (k := 4) dX12_ruleOfTwo_22 xcl12 (by decide) xw_1841 rfl hf (fun x23 ex23 hf => ?_)
    refine xm_iload dX12_ruleOfTwo_25 rfl ?_
    refine xb_iald dX12_ruleOfTwo_27 hf (fun x24 ex24 hf => ?_)
    refine xb_if_ne 52 dX12_ruleOfTwo_28 (by decide) hf (fun c hf => ?_) (fun c hf => ?_)
    · exact xm_sub [2, 3, 4, 1, 0] rfl (L_X12_ruleOfTwo_j52 σ l0 l1 l2 v1 p2 hf hR)
    · refine xm_aload_n dX12_ruleOfTwo_31 rfl ?_
      refine xm_iload_n dX12_ruleOfTwo_32 rfl ?_
      refine xm_aload_n dX12_ruleOfTwo_33 rfl ?_
      refine xb_getR (a := l0) (c := 12) (k := 5) dX12_ruleOfTwo_34 xcl12 (by decide) xw_1842 rfl hf (fun x25 ex25 hf => ?_)
      refine xm_iload_n dX12_ruleOfTwo_37 rfl ?_
      refine xb_iald dX12_ruleOfTwo_38 hf (fun x26 ex26 hf => ?_)
      refine xm_aload_n dX12_ruleOfTwo_39 rfl ?_
      refine xb_getR (a := l0) (c := 12) (k := 5) dX12_ruleOfTwo_40 xcl12 (by decide) xw_1842 rfl hf (fun x27 ex27 hf => ?_)
      refine xm_iload dX12_ruleOfTwo_43 rfl ?_
      refine xb_iald dX12_ruleOfTwo_45 hf (fun x28 ex28 hf => ?_)
      refine xb_if hf (fun hb hf => ?_) (fun _ q => nomatch q)
      obtain ⟨p29, ep29, hf⟩ := xbind hf
      refine xb_callV (As := [.int l2, .int x26, .int x28]) (v0 := (some (.int p29))) (τ0 := σ) dX12_ruleOfTwo_46 (xc_X12_whole _ _) xcl12 xw_2608 xw_2610 xs_187 hb rfl (Nat.le_of_ble_eq_true rfl) rfl (Nat.le_of_ble_eq_true rfl) (fun Q1 hq => m_X12_whole (d := d + 3) ep29 (fun g hg => by subst hg; exact hq)) ?_
      refine xm_goto 53 dX12_ruleOfTwo_49 (by decide) ?_
      exact xm_sub [2, 3, 4, 1, 0] rfl (L_X12_ruleOfTwo_j53 σ l0 l1 l2 v1 p2 p29 hf hR)

