-- RankwiseModel.gathers(II)Z
def f_X12_gathers_s12 (s : (Nat × Int32 × Int32 × Int32 × Int32 × xM)) : Option ((Int32 × xM) ⊕ ((Int32 × xM) ⊕ (Nat × Int32 × Int32 × Int32 × Int32 × xM))) :=
  xlet s.1 (fun l0 => xlet s.2.1 (fun l2 => xlet s.2.2.1 (fun l3 => xlet s.2.2.2.1 (fun l4 => xlet s.2.2.2.2.1 (fun l5 => xlet s.2.2.2.2.2 (fun σ => (if l3 ≤ l5 then some (Sum.inr (Sum.inl (l4, σ))) else (if l4 = (0 : Int32) then some (Sum.inr (Sum.inl (l4, σ))) else (gR σ l0 12 14).bind (fun x4 => (aI σ x4 14 l5).bind (fun x5 => (if xk σ l0 12 = true then (f_X12_gatherNode σ l0 x5 l2).bind (fun p6 => xlet (l5 + (1 : Int32)) (fun v7 => some (Sum.inr (Sum.inr (l0, l2, l3, p6.1, v7, p6.2))))) else none)))))))))))
set_option maxHeartbeats 4000000 in
set_option maxRecDepth 20000 in
theorem L_X12_gathers_s12 {G : xG} {π : Nat → Nat} {d C Z : Nat} {Q : xQ} (σ : xM) (l0 : Nat) (l2 : Int32) (l3 : Int32) (l4 : Int32) (l5 : Int32) {x : ((Int32 × xM) ⊕ ((Int32 × xM) ⊕ (Nat × Int32 × Int32 × Int32 × Int32 × xM)))} (hf : f_X12_gathers_s12 (l0, l2, l3, l4, l5, σ) = some x) (hR : ∀ g, x = Sum.inl (g) → Q (.inl (some (.int g.1))) (g.2) π) (hE : ∀ e : (Int32 × xM), x = Sum.inr (Sum.inl e) → xMach G π J_X12_gathers (d + 9) C Z 43 [(4, .int e.1)] [] e.2 Q) (hC : ∀ e : (Nat × Int32 × Int32 × Int32 × Int32 × xM), x = Sum.inr (Sum.inr e) → xMach G π J_X12_gathers (d + 9) C Z 12 [(0, .ref e.1), (2, .int e.2.1), (3, .int e.2.2.1), (4, .int e.2.2.2.1), (5, .int e.2.2.2.2.1)] [] e.2.2.2.2.2 Q) : xMach G π J_X12_gathers (d + 9) C Z 12 [(0, .ref l0), (2, .int l2), (3, .int l3), (4, .int l4), (5, .int l5)] [] σ Q := by
  have hf : (if l3 ≤ l5 then some (Sum.inr (Sum.inl (l4, σ))) else (if l4 = (0 : Int32) then some (Sum.inr (Sum.inl (l4, σ))) else (gR σ l0 12 14).bind (fun x4 => (aI σ x4 14 l5).bind (fun x5 => (if xk σ l0 12 = true then (f_X12_gatherNode σ l0 x5 l2).bind (fun p6 => xlet (l5 + (1 : Int32)) (fun v7 => some (Sum.inr (Sum.inr (l0, l2, l3, p6.1, v7, p6.2))))) else none))))) = some x := hf
  refine xm_iload dX12_gathers_12 rfl ?_
  refine xm_iload_n dX12_gathers_14 rfl ?_
  refine xb_icmp_ge 43 dX12_gathers_15 (by decide) hf (fun c hf => ?_) (fun c hf => ?_)
  · cases hf
    exact xm_sub [3] rfl (hE _ rfl)
  · refine xm_iload dX12_gathers_18 rfl ?_
    refine xb_if_eq 43 dX12_gathers_20 (by decide) hf (fun c hf => ?_) (fun c hf => ?_)
    · cases hf
      exact xm_sub [3] rfl (hE _ rfl)
    · refine xm_aload_n dX12_gathers_23 rfl ?_
      refine xm_aload_n dX12_gathers_24 rfl ?_
      refine xb_getR (a := l0) (c := 12) (k := 14) dX12_gathers_25 xcl12 (by decide) xw_1851 rfl hf (fun x4 ex4 hf => ?_)
      refine xm_iload dX12_gathers_28 rfl ?_
      refine xb_iald dX12_gathers_30 hf (fun x5 ex5 hf => ?_)
      refine xm_iload_n dX12_gathers_31 rfl ?_
      refine xb_if hf (fun hb hf => ?_) (fun _ q => nomatch q)
      obtain ⟨p6, ep6, hf⟩ := xbind hf
      refine xb_callV (As := [.int x5, .int l2]) (v0 := (some (.int p6.1))) (τ0 := p6.2) dX12_gathers_32 (xc_X12_gatherNode _ _) xcl12 xw_2647 xw_2649 xs_193 hb rfl (Nat.le_of_ble_eq_true rfl) rfl (Nat.le_of_ble_eq_true rfl) (fun Q1 hq => m_X12_gatherNode (d := d + 0) ep6 (fun g hg => by subst hg; exact hq)) ?_
      refine xm_istore dX12_gathers_35 (by decide) (xm_stL (L' := [(4, .int p6.1), (0, .ref l0), (2, .int l2), (3, .int l3), (5, .int l5)]) rfl ?_)
      refine xb_iinc dX12_gathers_37 rfl (by decide) (by decide) hf (fun v7 ev7 hf => xm_stL (L' := [(5, .int v7), (4, .int p6.1), (0, .ref l0), (2, .int l2), (3, .int l3)]) rfl ?_)
      refine xm_goto 12 dX12_gathers_40 (by decide) ?_
      cases hf
      exact xm_sub [2, 3, 4, 1, 0] rfl (hC _ rfl)
theorem L_X12_gathers_l12 {G : xG} {π : Nat → Nat} {d C Z : Nat} {Q : xQ} {s0 : (Nat × Int32 × Int32 × Int32 × Int32 × xM)} {x : ((Int32 × xM) ⊕ (Int32 × xM))} (h1 : xloop (f_X12_gathers_s12) xF s0 = some x) (hR : ∀ g, x = Sum.inl g → Q (.inl (some (.int g.1))) (g.2) π) (hE : ∀ e : (Int32 × xM), x = Sum.inr e → xMach G π J_X12_gathers (d + 9) C Z 43 [(4, .int e.1)] [] e.2 Q) : xMach G π J_X12_gathers (d + 9) C Z 12 [(0, .ref s0.1), (2, .int s0.2.1), (3, .int s0.2.2.1), (4, .int s0.2.2.2.1), (5, .int s0.2.2.2.2.1)] [] s0.2.2.2.2.2 Q := by
  refine xloop_run (M := (fun s : (Nat × Int32 × Int32 × Int32 × Int32 × xM) => xMach G π J_X12_gathers (d + 9) C Z 12 [(0, .ref s.1), (2, .int s.2.1), (3, .int s.2.2.1), (4, .int s.2.2.2.1), (5, .int s.2.2.2.2.1)] [] s.2.2.2.2.2 Q)) (r := x) ?_ xF _ h1
  intro s y hs hx
  exact L_X12_gathers_s12 s.2.2.2.2.2 s.1 s.2.1 s.2.2.1 s.2.2.2.1 s.2.2.2.2.1 (x := y) hs (fun g hg => by subst hg; exact hR g hx) (fun e he => by subst he; exact hE e hx) (fun e he => by subst he; exact hx)
def f_X12_gathers_j43 (σ : xM) (l4 : Int32) : Option (Int32 × xM) :=
  (xz l4).bind (fun b8 => some (b8, σ))
set_option maxHeartbeats 4000000 in
set_option maxRecDepth 20000 in
theorem L_X12_gathers_j43 {G : xG} {π : Nat → Nat} {d C Z : Nat} {Q : xQ} (σ : xM) (l4 : Int32) {x : (Int32 × xM)} (hf : f_X12_gathers_j43 σ l4 = some x) (hR : ∀ g, x = g → Q (.inl (some (.int g.1))) (g.2) π) : xMach G π J_X12_gathers (d + 9) C Z 43 [(4, .int l4)] [] σ Q := by
  unfold f_X12_gathers_j43 at hf
  refine xm_iload dX12_gathers_43 rfl ?_
  obtain ⟨b8, eb8, hf⟩ := xbind hf
  obtain ⟨rfl, hz⟩ := xz_of eb8
  cases hf
  exact xm_zret dX12_gathers_45 rfl hz (hR _ rfl)
def f_X12_gathers (σ : xM) (l0 : Nat) (l1 : Int32) (l2 : Int32) : Option (Int32 × xM) :=
  (if xk σ l0 12 = true then (f_X12_inOrder σ l0 l1).bind (fun p1 => xlet (1 : Int32) (fun v2 => xlet (0 : Int32) (fun v3 => (xloop (f_X12_gathers_s12 ) xF (l0, l2, p1.1, v2, v3, p1.2)).bind (Sum.elim (fun g => some g) (fun e => f_X12_gathers_j43 e.2 e.1))))) else none)
set_option maxHeartbeats 4000000 in
set_option maxRecDepth 20000 in
theorem m_X12_gathers {G : xG} {π : Nat → Nat} {d C Z : Nat} {Q : xQ} {σ : xM} {l0 : Nat} {l1 : Int32} {l2 : Int32} {x : (Int32 × xM)} (hf : f_X12_gathers σ l0 l1 l2 = some x) (hR : ∀ g, x = g → Q (.inl (some (.int g.1))) (g.2) π) : xMach G π J_X12_gathers (d + 9) C Z 0 (lv_args 0 [.ref l0, .int l1, .int l2]) [] σ Q := by
  unfold f_X12_gathers at hf
  refine xm_stL (L' := [(0, .ref l0), (1, .int l1), (2, .int l2)]) rfl ?_
  refine xm_aload_n dX12_gathers_0 rfl ?_
  refine xm_iload_n dX12_gathers_1 rfl ?_
  refine xb_if hf (fun hb hf => ?_) (fun _ q => nomatch q)
  obtain ⟨p1, ep1, hf⟩ := xbind hf
  refine xb_callV (As := [.int l1]) (v0 := (some (.int p1.1))) (τ0 := p1.2) dX12_gathers_2 (xc_X12_inOrder _ _) xcl12 xw_2343 xw_2345 xs_132 hb rfl (Nat.le_of_ble_eq_true rfl) rfl (Nat.le_of_ble_eq_true rfl) (fun Q1 hq => m_X12_inOrder (d := d + 8) ep1 (fun g hg => by subst hg; exact hq)) ?_
  refine xm_istore_n dX12_gathers_5 (by decide) (xm_stL (L' := [(3, .int p1.1), (0, .ref l0), (1, .int l1), (2, .int l2)]) rfl ?_)
  refine xm_iconst dX12_gathers_6 (v := 1) (by decide) ?_
  refine xb_topi hf (fun v2 ev2 hf => ?_)
  refine xm_istore dX12_gathers_7 (by decide) (xm_stL (L' := [(4, .int v2), (3, .int p1.1), (0, .ref l0), (1, .int l1), (2, .int l2)]) rfl ?_)
  refine xm_iconst dX12_gathers_9 (v := 0) (by decide) ?_
  refine xb_topi hf (fun v3 ev3 hf => ?_)
  refine xm_istore dX12_gathers_10 (by decide) (xm_stL (L' := [(5, .int v3), (4, .int v2), (3, .int p1.1), (0, .ref l0), (1, .int l1), (2, .int l2)]) rfl ?_)
  obtain ⟨o, h1, hf⟩ := xbind hf
  refine xm_sub [3, 5, 2, 1, 0] rfl (L_X12_gathers_l12  h1 (fun g hg => ?_) (fun e he => ?_))
  · subst hg
    cases hf
    exact hR _ rfl
  · subst he
    rw [Sum.elim_inr] at hf
    have hf : f_X12_gathers_j43 e.2 e.1 = some _ := hf
    exact xm_sub [0] rfl (L_X12_gathers_j43 e.2 e.1 hf hR)
-- RankwiseModel.isTold(I)Z
def f_X12_isTold_j74 (σ : xM) (s0 : Int32) : Option Int32 :=
  (xz s0).bind (fun b4 => some b4)
set_option maxHeartbeats 4000000 in
set_option maxRecDepth 20000 in
theorem L_X12_isTold_j74 {G : xG} {π : Nat → Nat} {d C Z : Nat} {Q : xQ} (σ : xM) (s0 : Int32) {x : Int32} (hf : f_X12_isTold_j74 σ s0 = some x) (hR : ∀ g, x = g → Q (.inl (some (.int g))) (σ) π) : xMach G π J_X12_isTold (d + 2) C Z 74 [] [.int s0] σ Q := by
  unfold f_X12_isTold_j74 at hf
  obtain ⟨b4, eb4, hf⟩ := xbind hf
  obtain ⟨rfl, hz⟩ := xz_of eb4
  cases hf
  exact xm_zret dX12_isTold_74 rfl hz (hR _ rfl)
def f_X12_isTold_j69 (σ : xM)  : Option Int32 :=
  f_X12_isTold_j74 σ (1 : Int32)
set_option maxHeartbeats 4000000 in
set_option maxRecDepth 20000 in
theorem L_X12_isTold_j69 {G : xG} {π : Nat → Nat} {d C Z : Nat} {Q : xQ} (σ : xM)  {x : Int32} (hf : f_X12_isTold_j69 σ = some x) (hR : ∀ g, x = g → Q (.inl (some (.int g))) (σ) π) : xMach G π J_X12_isTold (d + 2) C Z 69 [] [] σ Q := by
  unfold f_X12_isTold_j69 at hf
  refine xm_iconst dX12_isTold_69 (v := 1) (by decide) ?_
  refine xm_goto 74 dX12_isTold_70 (by decide) ?_
  exact xm_sub [] rfl (L_X12_isTold_j74 σ (1 : Int32) hf hR)
def f_X12_isTold_j73 (σ : xM)  : Option Int32 :=
  f_X12_isTold_j74 σ (0 : Int32)
set_option maxHeartbeats 4000000 in
set_option maxRecDepth 20000 in
theorem L_X12_isTold_j73 {G : xG} {π : Nat → Nat} {d C Z : Nat} {Q : xQ} (σ : xM)  {x : Int32} (hf : f_X12_isTold_j73 σ = some x) (hR : ∀ g, x = g → Q (.inl (some (.int g))) (σ) π) : xMach G π J_X12_isTold (d + 2) C Z 73 [] [] σ Q := by
  unfold f_X12_isTold_j73 at hf
  refine xm_iconst dX12_isTold_73 (v := 0) (by decide) ?_
  exact xm_sub [] rfl (L_X12_isTold_j74 σ (0 : Int32) hf hR)
def f_X12_isTold (σ : xM) (l0 : Nat) (l1 : Int32) : Option Int32 :=
  (if xk σ l0 12 = true then (f_X12_meaningAt σ l0 l1).bind (fun p1 => (gR σ l0 12 4).bind (fun x2 => (aI σ x2 14 l1).bind (fun x3 => (if x3 = (0 : Int32) then f_X12_isTold_j69 σ else (gR σ l0 12 4).bind (fun x5 => (aI σ x5 14 l1).bind (fun x6 => (if x6 = (1 : Int32) then f_X12_isTold_j69 σ else (gR σ l0 12 4).bind (fun x7 => (aI σ x7 14 l1).bind (fun x8 => (if x8 = (3 : Int32) then (f_X12_in σ p1 (0 : Int32) (3 : Int32)).bind (fun p9 => (if p9 = (0 : Int32) then (if p1 = (11 : Int32) then f_X12_isTold_j69 σ else (if p1 = (5 : Int32) then (gR σ l0 12 4).bind (fun x10 => (if xk σ l0 12 = true then (f_X12_child σ l0 l1 (1 : Int32)).bind (fun p11 => (aI σ x10 14 p11).bind (fun x12 => (if x12 = (0 : Int32) then f_X12_isTold_j69 σ else f_X12_isTold_j73 σ))) else none)) else f_X12_isTold_j73 σ)) else f_X12_isTold_j69 σ)) else f_X12_isTold_j73 σ)))))))))) else none)
set_option maxHeartbeats 4000000 in
set_option maxRecDepth 20000 in
theorem m_X12_isTold {G : xG} {π : Nat → Nat} {d C Z : Nat} {Q : xQ} {σ : xM} {l0 : Nat} {l1 : Int32} {x : Int32} (hf : f_X12_isTold σ l0 l1 = some x) (hR : ∀ g, x = g → Q (.inl (some (.int g))) (σ) π) : xMach G π J_X12_isTold (d + 2) C Z 0 (lv_args 0 [.ref l0, .int l1]) [] σ Q := by
  unfold f_X12_isTold at hf
  refine xm_stL (L' := [(0, .ref l0), (1, .int l1)]) rfl ?_
  refine xm_aload_n dX12_isTold_0 rfl ?_
  refine xm_iload_n dX12_isTold_1 rfl ?_
  refine xb_if hf (fun hb hf => ?_) (fun _ q => nomatch q)
  obtain ⟨p1, ep1, hf⟩ := xbind hf
  refine xb_callV (As := [.int l1]) (v0 := (some (.int p1))) (τ0 := σ) dX12_isTold_2 (xc_X12_meaningAt _ _) xcl12 xw_2504 xw_2506 xs_169 hb rfl (Nat.le_of_ble_eq_true rfl) rfl (Nat.le_of_ble_eq_true rfl) (fun Q1 hq => m_X12_meaningAt (d := d + 0) ep1 (fun g hg => by subst hg; exact hq)) ?_
  refine xm_istore_n dX12_isTold_5 (by decide) (xm_stL (L' := [(2, .int p1), (0, .ref l0), (1, .int l1)]) rfl ?_)
  refine xm_aload_n dX12_isTold_6 rfl ?_
  refine xb_getR (a := l0) (c := 12) (k := 4) dX12_isTold_7 xcl12 (by decide) xw_1841 rfl hf (fun x2 ex2 hf => ?_)
  refine xm_iload_n dX12_isTold_10 rfl ?_
  refine xb_iald dX12_isTold_11 hf (fun x3 ex3 hf => ?_)
  refine xb_if_eq 69 dX12_isTold_12 (by decide) hf (fun c hf => ?_) (fun c hf => ?_)
  · exact xm_sub [] rfl (L_X12_isTold_j69 σ hf hR)
  · refine xm_aload_n dX12_isTold_15 rfl ?_
    refine xb_getR (a := l0) (c := 12) (k := 4) dX12_isTold_16 xcl12 (by decide) xw_1841 rfl hf (fun x5 ex5 hf => ?_)
    refine xm_iload_n dX12_isTold_19 rfl ?_
    refine xb_iald dX12_isTold_20 hf (fun x6 ex6 hf => ?_)
    refine xm_iconst dX12_isTold_21 (v := 1) (by decide) ?_
    refine xb_icmp_eq 69 dX12_isTold_22 (by decide) hf (fun c hf => ?_) (fun c hf => ?_)
    · exact xm_sub [] rfl (L_X12_isTold_j69 σ hf hR)
    · refine xm_aload_n dX12_isTold_25 rfl ?_
      refine xb_getR (a := l0) (c := 12) (k := 4) dX12_isTold_26 xcl12 (by decide) xw_1841 rfl hf (fun x7 ex7 hf => ?_)
      refine xm_iload_n dX12_isTold_29 rfl ?_
      refine xb_iald dX12_isTold_30 hf (fun x8 ex8 hf => ?_)
      refine xm_iconst dX12_isTold_31 (v := 3) (by decide) ?_
      refine xb_icmp_ne 73 dX12_isTold_32 (by decide) hf (fun c hf => ?_) (fun c hf => ?_)
      · exact xm_sub [] rfl (L_X12_isTold_j73 σ hf hR)
      · refine xm_iload_n dX12_isTold_35 rfl ?_
        refine xm_iconst dX12_isTold_36 (v := 0) (by decide) ?_
        refine xm_iconst dX12_isTold_37 (v := 3) (by decide) ?_
        obtain ⟨p9, ep9, hf⟩ := xbind hf
        refine xb_callS (As := [.int p1, .int (0 : Int32), .int (3 : Int32)]) (v0 := (some (.int p9))) (τ0 := σ) dX12_isTold_38 (xc_X12_in _ _) xw_2132 xw_2133 rfl (Nat.le_of_ble_eq_true rfl) rfl (Nat.le_of_ble_eq_true rfl) (fun Q1 hq => m_X12_in (d := d + 1) ep9 (fun g hg => by subst hg; exact hq)) ?_
        refine xb_if_ne 69 dX12_isTold_41 (by decide) hf (fun c hf => ?_) (fun c hf => ?_)
        · exact xm_sub [] rfl (L_X12_isTold_j69 σ hf hR)
        · refine xm_iload_n dX12_isTold_44 rfl ?_
          refine xm_bipush dX12_isTold_45 (v := 11) (by decide) ?_
          refine xb_icmp_eq 69 dX12_isTold_47 (by decide) hf (fun c hf => ?_) (fun c hf => ?_)
          · exact xm_sub [] rfl (L_X12_isTold_j69 σ hf hR)
          · refine xm_iload_n dX12_isTold_50 rfl ?_
            refine xm_iconst dX12_isTold_51 (v := 5) (by decide) ?_
            refine xb_icmp_ne 73 dX12_isTold_52 (by decide) hf (fun c hf => ?_) (fun c hf => ?_)
            · exact xm_sub [] rfl (L_X12_isTold_j73 σ hf hR)
            · refine xm_aload_n dX12_isTold_55 rfl ?_
              refine xb_getR (a := l0) (c := 12) (k := 4) dX12_isTold_56 xcl12 (by decide) xw_1841 rfl hf (fun x10 ex10 hf => ?_)
              refine xm_aload_n dX12_isTold_59 rfl ?_
              refine xm_iload_n dX12_isTold_60 rfl ?_
              refine xm_iconst dX12_isTold_61 (v := 1) (by decide) ?_
              refine xb_if hf (fun hb hf => ?_) (fun _ q => nomatch q)
              obtain ⟨p11, ep11, hf⟩ := xbind hf
              refine xb_callV (As := [.int l1, .int (1 : Int32)]) (v0 := (some (.int p11))) (τ0 := σ) dX12_isTold_62 (xc_X12_child _ _) xcl12 xw_2303 xw_2305 xs_123 hb rfl (Nat.le_of_ble_eq_true rfl) rfl (Nat.le_of_ble_eq_true rfl) (fun Q1 hq => m_X12_child (d := d + 1) ep11 (fun g hg => by subst hg; exact hq)) ?_
              refine xb_iald dX12_isTold_65 hf (fun x12 ex12 hf => ?_)
              refine xb_if_ne 73 dX12_isTold_66 (by decide) hf (fun c hf => ?_) (fun c hf => ?_)
              · exact xm_sub [] rfl (L_X12_isTold_j73 σ hf hR)
              · exact xm_sub [] rfl (L_X12_isTold_j69 σ hf hR)
-- RankwiseModel.areTold(I)Z
def f_X12_areTold_j33 (σ : xM) (l0 : Nat) (l1 : Int32) (l3 : Int32) (s0 : Int32) : Option (Int32 ⊕ ((Int32) ⊕ (Nat × Int32 × Int32 × Int32))) :=
  xlet (l3 + (1 : Int32)) (fun v4 => some (Sum.inr (Sum.inr (l0, l1, s0, v4))))
set_option maxHeartbeats 4000000 in
set_option maxRecDepth 20000 in
theorem L_X12_areTold_j33 {G : xG} {π : Nat → Nat} {d C Z : Nat} {Q : xQ} (σ : xM) (l0 : Nat) (l1 : Int32) (l3 : Int32) (s0 : Int32) {x : (Int32 ⊕ ((Int32) ⊕ (Nat × Int32 × Int32 × Int32)))} (hf : f_X12_areTold_j33 σ l0 l1 l3 s0 = some x) (hR : ∀ g, x = Sum.inl (g) → Q (.inl (some (.int g))) (σ) π) (hE : ∀ e : (Int32), x = Sum.inr (Sum.inl e) → xMach G π J_X12_areTold (d + 3) C Z 40 [(2, .int e)] [] σ Q) (hC : ∀ e : (Nat × Int32 × Int32 × Int32), x = Sum.inr (Sum.inr e) → xMach G π J_X12_areTold (d + 3) C Z 4 [(0, .ref e.1), (1, .int e.2.1), (2, .int e.2.2.1), (3, .int e.2.2.2)] [] σ Q) : xMach G π J_X12_areTold (d + 3) C Z 33 [(0, .ref l0), (1, .int l1), (3, .int l3)] [.int s0] σ Q := by
  unfold f_X12_areTold_j33 at hf
  refine xm_istore_n dX12_areTold_33 (by decide) (xm_stL (L' := [(2, .int s0), (0, .ref l0), (1, .int l1), (3, .int l3)]) rfl ?_)
  refine xb_iinc dX12_areTold_34 rfl (by decide) (by decide) hf (fun v4 ev4 hf => xm_stL (L' := [(3, .int v4), (2, .int s0), (0, .ref l0), (1, .int l1)]) rfl ?_)
  refine xm_goto 4 dX12_areTold_37 (by decide) ?_
  cases hf
  exact xm_sub [2, 3, 1, 0] rfl (hC _ rfl)
def f_X12_areTold_j32 (σ : xM) (l0 : Nat) (l1 : Int32) (l3 : Int32) : Option (Int32 ⊕ ((Int32) ⊕ (Nat × Int32 × Int32 × Int32))) :=
  f_X12_areTold_j33 σ l0 l1 l3 (0 : Int32)
set_option maxHeartbeats 4000000 in
set_option maxRecDepth 20000 in
theorem L_X12_areTold_j32 {G : xG} {π : Nat → Nat} {d C Z : Nat} {Q : xQ} (σ : xM) (l0 : Nat) (l1 : Int32) (l3 : Int32) {x : (Int32 ⊕ ((Int32) ⊕ (Nat × Int32 × Int32 × Int32)))} (hf : f_X12_areTold_j32 σ l0 l1 l3 = some x) (hR : ∀ g, x = Sum.inl (g) → Q (.inl (some (.int g))) (σ) π) (hE : ∀ e : (Int32), x = Sum.inr (Sum.inl e) → xMach G π J_X12_areTold (d + 3) C Z 40 [(2, .int e)] [] σ Q) (hC : ∀ e : (Nat × Int32 × Int32 × Int32), x = Sum.inr (Sum.inr e) → xMach G π J_X12_areTold (d + 3) C Z 4 [(0, .ref e.1), (1, .int e.2.1), (2, .int e.2.2.1), (3, .int e.2.2.2)] [] σ Q) : xMach G π J_X12_areTold (d + 3) C Z 32 [(0, .ref l0), (1, .int l1), (3, .int l3)] [] σ Q := by
  unfold f_X12_areTold_j32 at hf
  refine xm_iconst dX12_areTold_32 (v := 0) (by decide) ?_
  exact xm_sub [0, 1, 2] rfl (L_X12_areTold_j33 σ l0 l1 l3 (0 : Int32) hf hR hE hC)
def f_X12_areTold_s4 (σ : xM) (s : (Nat × Int32 × Int32 × Int32)) : Option (Int32 ⊕ ((Int32) ⊕ (Nat × Int32 × Int32 × Int32))) :=
  xlet s.1 (fun l0 => xlet s.2.1 (fun l1 => xlet s.2.2.1 (fun l2 => xlet s.2.2.2 (fun l3 => (gR σ l0 12 8).bind (fun x2 => (aI σ x2 14 l1).bind (fun x3 => (if (l1 + x3) ≤ l3 then some (Sum.inr (Sum.inl l2)) else (if l2 = (0 : Int32) then f_X12_areTold_j32 σ l0 l1 l3 else (if xk σ l0 12 = true then (f_X12_isTold σ l0 l3).bind (fun p5 => (if p5 = (0 : Int32) then f_X12_areTold_j32 σ l0 l1 l3 else f_X12_areTold_j33 σ l0 l1 l3 (1 : Int32))) else none)))))))))
set_option maxHeartbeats 4000000 in
set_option maxRecDepth 20000 in
theorem L_X12_areTold_s4 {G : xG} {π : Nat → Nat} {d C Z : Nat} {Q : xQ} (σ : xM) (l0 : Nat) (l1 : Int32) (l2 : Int32) (l3 : Int32) {x : (Int32 ⊕ ((Int32) ⊕ (Nat × Int32 × Int32 × Int32)))} (hf : f_X12_areTold_s4 σ (l0, l1, l2, l3) = some x) (hR : ∀ g, x = Sum.inl (g) → Q (.inl (some (.int g))) (σ) π) (hE : ∀ e : (Int32), x = Sum.inr (Sum.inl e) → xMach G π J_X12_areTold (d + 3) C Z 40 [(2, .int e)] [] σ Q) (hC : ∀ e : (Nat × Int32 × Int32 × Int32), x = Sum.inr (Sum.inr e) → xMach G π J_X12_areTold (d + 3) C Z 4 [(0, .ref e.1), (1, .int e.2.1), (2, .int e.2.2.1), (3, .int e.2.2.2)] [] σ Q) : xMach G π J_X12_areTold (d + 3) C Z 4 [(0, .ref l0), (1, .int l1), (2, .int l2), (3, .int l3)] [] σ Q := by
  have hf : (gR σ l0 12 8).bind (fun x2 => (aI σ x2 14 l1).bind (fun x3 => (if (l1 + x3) ≤ l3 then some (Sum.inr (Sum.inl l2)) else (if l2 = (0 : Int32) then f_X12_areTold_j32 σ l0 l1 l3 else (if xk σ l0 12 = true then (f_X12_isTold σ l0 l3).bind (fun p5 => (if p5 = (0 : Int32) then f_X12_areTold_j32 σ l0 l1 l3 else f_X12_areTold_j33 σ l0 l1 l3 (1 : Int32))) else none))))) = some x := hf
  refine xm_iload_n dX12_areTold_4 rfl ?_
  refine xm_iload_n dX12_areTold_5 rfl ?_
  refine xm_aload_n dX12_areTold_6 rfl ?_
  refine xb_getR (a := l0) (c := 12) (k := 8) dX12_areTold_7 xcl12 (by decide) xw_1845 rfl hf (fun x2 ex2 hf => ?_)
  refine xm_iload_n dX12_areTold_10 rfl ?_
  refine xb_iald dX12_areTold_11 hf (fun x3 ex3 hf => ?_)
  refine xm_iadd dX12_areTold_12 ?_
  refine xb_icmp_ge 40 dX12_areTold_13 (by decide) hf (fun c hf => ?_) (fun c hf => ?_)
  · cases hf
    exact xm_sub [2] rfl (hE _ rfl)
  · refine xm_iload_n dX12_areTold_16 rfl ?_
    refine xb_if_eq 32 dX12_areTold_17 (by decide) hf (fun c hf => ?_) (fun c hf => ?_)
    · exact xm_sub [0, 1, 3] rfl (L_X12_areTold_j32 σ l0 l1 l3 hf hR hE hC)
    · refine xm_aload_n dX12_areTold_20 rfl ?_
      refine xm_iload_n dX12_areTold_21 rfl ?_
      refine xb_if hf (fun hb hf => ?_) (fun _ q => nomatch q)
      obtain ⟨p5, ep5, hf⟩ := xbind hf
      refine xb_callV (As := [.int l3]) (v0 := (some (.int p5))) (τ0 := σ) dX12_areTold_22 (xc_X12_isTold _ _) xcl12 xw_2726 xw_2728 xs_210 hb rfl (Nat.le_of_ble_eq_true rfl) rfl (Nat.le_of_ble_eq_true rfl) (fun Q1 hq => m_X12_isTold (d := d + 0) ep5 (fun g hg => by subst hg; exact hq)) ?_
      refine xb_if_eq 32 dX12_areTold_25 (by decide) hf (fun c hf => ?_) (fun c hf => ?_)
      · exact xm_sub [0, 1, 3] rfl (L_X12_areTold_j32 σ l0 l1 l3 hf hR hE hC)
      · refine xm_iconst dX12_areTold_28 (v := 1) (by decide) ?_
        refine xm_goto 33 dX12_areTold_29 (by decide) ?_
        exact xm_sub [0, 1, 3] rfl (L_X12_areTold_j33 σ l0 l1 l3 (1 : Int32) hf hR hE hC)
theorem L_X12_areTold_l4 {G : xG} {π : Nat → Nat} {d C Z : Nat} {Q : xQ} (σ : xM) {s0 : (Nat × Int32 × Int32 × Int32)} {x : (Int32 ⊕ (Int32))} (h1 : xloop (f_X12_areTold_s4 σ) xF s0 = some x) (hR : ∀ g, x = Sum.inl g → Q (.inl (some (.int g))) (σ) π) (hE : ∀ e : (Int32), x = Sum.inr e → xMach G π J_X12_areTold (d + 3) C Z 40 [(2, .int e)] [] σ Q) : xMach G π J_X12_areTold (d + 3) C Z 4 [(0, .ref s0.1), (1, .int s0.2.1), (2, .int s0.2.2.1), (3, .int s0.2.2.2)] [] σ Q := by
  refine xloop_run (M := (fun s : (Nat × Int32 × Int32 × Int32) => xMach G π J_X12_areTold (d + 3) C Z 4 [(0, .ref s.1), (1, .int s.2.1), (2, .int s.2.2.1), (3, .int s.2.2.2)] [] σ Q)) (r := x) ?_ xF _ h1
  intro s y hs hx
  exact L_X12_areTold_s4 σ s.1 s.2.1 s.2.2.1 s.2.2.2 (x := y) hs (fun g hg => by subst hg; exact hR g hx) (fun e he => by subst he; exact hE e hx) (fun e he => by subst he; exact hx)
def f_X12_areTold_j40 (σ : xM) (l2 : Int32) : Option Int32 :=
  (xz l2).bind (fun b6 => some b6)
set_option maxHeartbeats 4000000 in
set_option maxRecDepth 20000 in
theorem L_X12_areTold_j40 {G : xG} {π : Nat → Nat} {d C Z : Nat} {Q : xQ} (σ : xM) (l2 : Int32) {x : Int32} (hf : f_X12_areTold_j40 σ l2 = some x) (hR : ∀ g, x = g → Q (.inl (some (.int g))) (σ) π) : xMach G π J_X12_areTold (d + 3) C Z 40 [(2, .int l2)] [] σ Q := by
  unfold f_X12_areTold_j40 at hf
  refine xm_iload_n dX12_areTold_40 rfl ?_
  obtain ⟨b6, eb6, hf⟩ := xbind hf
  obtain ⟨rfl, hz⟩ := xz_of eb6
  cases hf
  exact xm_zret dX12_areTold_41 rfl hz (hR _ rfl)
def f_X12_areTold (σ : xM) (l0 : Nat) (l1 : Int32) : Option Int32 :=
  xlet (1 : Int32) (fun v1 => (xloop (f_X12_areTold_s4 σ ) xF (l0, l1, v1, l1)).bind (Sum.elim (fun g => some g) (fun e => f_X12_areTold_j40 σ e)))
set_option maxHeartbeats 4000000 in
set_option maxRecDepth 20000 in
theorem m_X12_areTold {G : xG} {π : Nat → Nat} {d C Z : Nat} {Q : xQ} {σ : xM} {l0 : Nat} {l1 : Int32} {x : Int32} (hf : f_X12_areTold σ l0 l1 = some x) (hR : ∀ g, x = g → Q (.inl (some (.int g))) (σ) π) : xMach G π J_X12_areTold (d + 3) C Z 0 (lv_args 0 [.ref l0, .int l1]) [] σ Q := by
  unfold f_X12_areTold at hf
  refine xm_stL (L' := [(0, .ref l0), (1, .int l1)]) rfl ?_
  refine xm_iconst dX12_areTold_0 (v := 1) (by decide) ?_
  refine xb_topi hf (fun v1 ev1 hf => ?_)
  refine xm_istore_n dX12_areTold_1 (by decide) (xm_stL (L' := [(2, .int v1), (0, .ref l0), (1, .int l1)]) rfl ?_)
  refine xm_iload_n dX12_areTold_2 rfl ?_
  refine xm_istore_n dX12_areTold_3 (by decide) (xm_stL (L' := [(3, .int l1), (2, .int v1), (0, .ref l0), (1, .int l1)]) rfl ?_)
  obtain ⟨o, h1, hf⟩ := xbind hf
  refine xm_sub [2, 3, 1, 0] rfl (L_X12_areTold_l4 σ h1 (fun g hg => ?_) (fun e he => ?_))
  · subst hg
    cases hf
    exact hR _ rfl
  · subst he
    rw [Sum.elim_inr] at hf
    have hf : f_X12_areTold_j40 σ e = some _ := hf
    exact xm_sub [0] rfl (L_X12_areTold_j40 σ e hf hR)
-- RankwiseModel.signBetween(I)I
def f_X12_signBetween_j57 (σ : xM) (l0 : Nat) (l1 : Int32) (l3 : Int32) (s0 : Int32) : Option (Int32 ⊕ ((Int32) ⊕ (Nat × Int32 × Int32 × Int32))) :=
  xlet (l3 + (-1 : Int32)) (fun v4 => some (Sum.inr (Sum.inr (l0, l1, s0, v4))))
set_option maxHeartbeats 4000000 in
set_option maxRecDepth 20000 in
theorem L_X12_signBetween_j57 {G : xG} {π : Nat → Nat} {d C Z : Nat} {Q : xQ} (σ : xM) (l0 : Nat) (l1 : Int32) (l3 : Int32) (s0 : Int32) {x : (Int32 ⊕ ((Int32) ⊕ (Nat × Int32 × Int32 × Int32)))} (hf : f_X12_signBetween_j57 σ l0 l1 l3 s0 = some x) (hR : ∀ g, x = Sum.inl (g) → Q (.inl (some (.int g))) (σ) π) (hE : ∀ e : (Int32), x = Sum.inr (Sum.inl e) → xMach G π J_X12_signBetween (d + 1) C Z 64 [(2, .int e)] [] σ Q) (hC : ∀ e : (Nat × Int32 × Int32 × Int32), x = Sum.inr (Sum.inr e) → xMach G π J_X12_signBetween (d + 1) C Z 5 [(0, .ref e.1), (1, .int e.2.1), (2, .int e.2.2.1), (3, .int e.2.2.2)] [] σ Q) : xMach G π J_X12_signBetween (d + 1) C Z 57 [(0, .ref l0), (1, .int l1), (3, .int l3)] [.int s0] σ Q := by
  unfold f_X12_signBetween_j57 at hf
  refine xm_istore_n dX12_signBetween_57 (by decide) (xm_stL (L' := [(2, .int s0), (0, .ref l0), (1, .int l1), (3, .int l3)]) rfl ?_)
  refine xb_iinc dX12_signBetween_58 rfl (by decide) (by decide) hf (fun v4 ev4 hf => xm_stL (L' := [(3, .int v4), (2, .int s0), (0, .ref l0), (1, .int l1)]) rfl ?_)
  refine xm_goto 5 dX12_signBetween_61 (by decide) ?_
  cases hf
  exact xm_sub [2, 3, 1, 0] rfl (hC _ rfl)
def f_X12_signBetween_j56 (σ : xM) (l0 : Nat) (l1 : Int32) (l2 : Int32) (l3 : Int32) : Option (Int32 ⊕ ((Int32) ⊕ (Nat × Int32 × Int32 × Int32))) :=
  f_X12_signBetween_j57 σ l0 l1 l3 l2
set_option maxHeartbeats 4000000 in
set_option maxRecDepth 20000 in
theorem L_X12_signBetween_j56 {G : xG} {π : Nat → Nat} {d C Z : Nat} {Q : xQ} (σ : xM) (l0 : Nat) (l1 : Int32) (l2 : Int32) (l3 : Int32) {x : (Int32 ⊕ ((Int32) ⊕ (Nat × Int32 × Int32 × Int32)))} (hf : f_X12_signBetween_j56 σ l0 l1 l2 l3 = some x) (hR : ∀ g, x = Sum.inl (g) → Q (.inl (some (.int g))) (σ) π) (hE : ∀ e : (Int32), x = Sum.inr (Sum.inl e) → xMach G π J_X12_signBetween (d + 1) C Z 64 [(2, .int e)] [] σ Q) (hC : ∀ e : (Nat × Int32 × Int32 × Int32), x = Sum.inr (Sum.inr e) → xMach G π J_X12_signBetween (d + 1) C Z 5 [(0, .ref e.1), (1, .int e.2.1), (2, .int e.2.2.1), (3, .int e.2.2.2)] [] σ Q) : xMach G π J_X12_signBetween (d + 1) C Z 56 [(0, .ref l0), (1, .int l1), (2, .int l2), (3, .int l3)] [] σ Q := by
  unfold f_X12_signBetween_j56 at hf
  refine xm_iload_n dX12_signBetween_56 rfl ?_
  exact xm_sub [0, 1, 3] rfl (L_X12_signBetween_j57 σ l0 l1 l3 l2 hf hR hE hC)
def f_X12_signBetween_s5 (σ : xM) (s : (Nat × Int32 × Int32 × Int32)) : Option (Int32 ⊕ ((Int32) ⊕ (Nat × Int32 × Int32 × Int32))) :=
  xlet s.1 (fun l0 => xlet s.2.1 (fun l1 => xlet s.2.2.1 (fun l2 => xlet s.2.2.2 (fun l3 => (if l3 ≤ (32 : Int32) then some (Sum.inr (Sum.inl l2)) else (f_X12_signOf σ l3).bind (fun p3 => (if p3 = (-1 : Int32) then f_X12_signBetween_j56 σ l0 l1 l2 l3 else (gR σ l0 12 15).bind (fun x5 => (aI σ x5 14 (((3 : Int32) * p3) + (2 : Int32))).bind (fun x6 => (if x6 ≤ (0 : Int32) then f_X12_signBetween_j56 σ l0 l1 l2 l3 else (gR σ l0 12 17).bind (fun x7 => (aI σ x7 14 (((3 : Int32) * p3) + (2 : Int32))).bind (fun x8 => (if x8 = l1 then f_X12_signBetween_j57 σ l0 l1 l3 l3 else f_X12_signBetween_j56 σ l0 l1 l2 l3)))))))))))))
set_option maxHeartbeats 4000000 in
set_option maxRecDepth 20000 in
theorem L_X12_signBetween_s5 {G : xG} {π : Nat → Nat} {d C Z : Nat} {Q : xQ} (σ : xM) (l0 : Nat) (l1 : Int32) (l2 : Int32) (l3 : Int32) {x : (Int32 ⊕ ((Int32) ⊕ (Nat × Int32 × Int32 × Int32)))} (hf : f_X12_signBetween_s5 σ (l0, l1, l2, l3) = some x) (hR : ∀ g, x = Sum.inl (g) → Q (.inl (some (.int g))) (σ) π) (hE : ∀ e : (Int32), x = Sum.inr (Sum.inl e) → xMach G π J_X12_signBetween (d + 1) C Z 64 [(2, .int e)] [] σ Q) (hC : ∀ e : (Nat × Int32 × Int32 × Int32), x = Sum.inr (Sum.inr e) → xMach G π J_X12_signBetween (d + 1) C Z 5 [(0, .ref e.1), (1, .int e.2.1), (2, .int e.2.2.1), (3, .int e.2.2.2)] [] σ Q) : xMach G π J_X12_signBetween (d + 1) C Z 5 [(0, .ref l0), (1, .int l1), (2, .int l2), (3, .int l3)] [] σ Q := by
  have hf : (if l3 ≤ (32 : Int32) then some (Sum.inr (Sum.inl l2)) else (f_X12_signOf σ l3).bind (fun p3 => (if p3 = (-1 : Int32) then f_X12_signBetween_j56 σ l0 l1 l2 l3 else (gR σ l0 12 15).bind (fun x5 => (aI σ x5 14 (((3 : Int32) * p3) + (2 : Int32))).bind (fun x6 => (if x6 ≤ (0 : Int32) then f_X12_signBetween_j56 σ l0 l1 l2 l3 else (gR σ l0 12 17).bind (fun x7 => (aI σ x7 14 (((3 : Int32) * p3) + (2 : Int32))).bind (fun x8 => (if x8 = l1 then f_X12_signBetween_j57 σ l0 l1 l3 l3 else f_X12_signBetween_j56 σ l0 l1 l2 l3))))))))) = some x := hf
  refine xm_iload_n dX12_signBetween_5 rfl ?_
  refine xm_bipush dX12_signBetween_6 (v := 32) (by decide) ?_
  refine xb_icmp_le 64 dX12_signBetween_8 (by decide) hf (fun c hf => ?_) (fun c hf => ?_)
  · cases hf
    exact xm_sub [2] rfl (hE _ rfl)
  · refine xm_iload_n dX12_signBetween_11 rfl ?_
    obtain ⟨p3, ep3, hf⟩ := xbind hf
    refine xb_callS (As := [.int l3]) (v0 := (some (.int p3))) (τ0 := σ) dX12_signBetween_12 (xc_X12_signOf _ _) xw_1817 xw_1818 rfl (Nat.le_of_ble_eq_true rfl) rfl (Nat.le_of_ble_eq_true rfl) (fun Q1 hq => m_X12_signOf (d := d + 0) ep3 (fun g hg => by subst hg; exact hq)) ?_
    refine xm_istore dX12_signBetween_15 (by decide) (xm_stL (L' := [(4, .int p3), (0, .ref l0), (1, .int l1), (2, .int l2), (3, .int l3)]) rfl ?_)
    refine xm_iload dX12_signBetween_17 rfl ?_
    refine xm_iconst dX12_signBetween_19 (v := -1) (by decide) ?_
    refine xb_icmp_eq 56 dX12_signBetween_20 (by decide) hf (fun c hf => ?_) (fun c hf => ?_)
    · exact xm_sub [1, 2, 3, 4] rfl (L_X12_signBetween_j56 σ l0 l1 l2 l3 hf hR hE hC)
    · refine xm_aload_n dX12_signBetween_23 rfl ?_
      refine xb_getR (a := l0) (c := 12) (k := 15) dX12_signBetween_24 xcl12 (by decide) xw_1852 rfl hf (fun x5 ex5 hf => ?_)
      refine xm_iconst dX12_signBetween_27 (v := 3) (by decide) ?_
      refine xm_iload dX12_signBetween_28 rfl ?_
      refine xm_imul dX12_signBetween_30 ?_
      refine xm_iconst dX12_signBetween_31 (v := 2) (by decide) ?_
      refine xm_iadd dX12_signBetween_32 ?_
      refine xb_iald dX12_signBetween_33 hf (fun x6 ex6 hf => ?_)
      refine xb_if_le 56 dX12_signBetween_34 (by decide) hf (fun c hf => ?_) (fun c hf => ?_)
      · exact xm_sub [1, 2, 3, 4] rfl (L_X12_signBetween_j56 σ l0 l1 l2 l3 hf hR hE hC)
      · refine xm_aload_n dX12_signBetween_37 rfl ?_
        refine xb_getR (a := l0) (c := 12) (k := 17) dX12_signBetween_38 xcl12 (by decide) xw_1854 rfl hf (fun x7 ex7 hf => ?_)
        refine xm_iconst dX12_signBetween_41 (v := 3) (by decide) ?_
        refine xm_iload dX12_signBetween_42 rfl ?_
        refine xm_imul dX12_signBetween_44 ?_
        refine xm_iconst dX12_signBetween_45 (v := 2) (by decide) ?_
        refine xm_iadd dX12_signBetween_46 ?_
        refine xb_iald dX12_signBetween_47 hf (fun x8 ex8 hf => ?_)
        refine xm_iload_n dX12_signBetween_48 rfl ?_
        refine xb_icmp_ne 56 dX12_signBetween_49 (by decide) hf (fun c hf => ?_) (fun c hf => ?_)
        · exact xm_sub [1, 2, 3, 4] rfl (L_X12_signBetween_j56 σ l0 l1 l2 l3 hf hR hE hC)
        · refine xm_iload_n dX12_signBetween_52 rfl ?_
          refine xm_goto 57 dX12_signBetween_53 (by decide) ?_
          exact xm_sub [1, 2, 4] rfl (L_X12_signBetween_j57 σ l0 l1 l3 l3 hf hR hE hC)
theorem L_X12_signBetween_l5 {G : xG} {π : Nat → Nat} {d C Z : Nat} {Q : xQ} (σ : xM) {s0 : (Nat × Int32 × Int32 × Int32)} {x : (Int32 ⊕ (Int32))} (h1 : xloop (f_X12_signBetween_s5 σ) xF s0 = some x) (hR : ∀ g, x = Sum.inl g → Q (.inl (some (.int g))) (σ) π) (hE : ∀ e : (Int32), x = Sum.inr e → xMach G π J_X12_signBetween (d + 1) C Z 64 [(2, .int e)] [] σ Q) : xMach G π J_X12_signBetween (d + 1) C Z 5 [(0, .ref s0.1), (1, .int s0.2.1), (2, .int s0.2.2.1), (3, .int s0.2.2.2)] [] σ Q := by
  refine xloop_run (M := (fun s : (Nat × Int32 × Int32 × Int32) => xMach G π J_X12_signBetween (d + 1) C Z 5 [(0, .ref s.1), (1, .int s.2.1), (2, .int s.2.2.1), (3, .int s.2.2.2)] [] σ Q)) (r := x) ?_ xF _ h1
  intro s y hs hx
  exact L_X12_signBetween_s5 σ s.1 s.2.1 s.2.2.1 s.2.2.2 (x := y) hs (fun g hg => by subst hg; exact hR g hx) (fun e he => by subst he; exact hE e hx) (fun e he => by subst he; exact hx)
def f_X12_signBetween_j64 (σ : xM) (l2 : Int32) : Option Int32 :=
  some l2
set_option maxHeartbeats 4000000 in
set_option maxRecDepth 20000 in
theorem L_X12_signBetween_j64 {G : xG} {π : Nat → Nat} {d C Z : Nat} {Q : xQ} (σ : xM) (l2 : Int32) {x : Int32} (hf : f_X12_signBetween_j64 σ l2 = some x) (hR : ∀ g, x = g → Q (.inl (some (.int g))) (σ) π) : xMach G π J_X12_signBetween (d + 1) C Z 64 [(2, .int l2)] [] σ Q := by
  unfold f_X12_signBetween_j64 at hf
  refine xm_iload_n dX12_signBetween_64 rfl ?_
  cases hf
  exact xm_iret dX12_signBetween_65 rfl (hR _ rfl)
def f_X12_signBetween (σ : xM) (l0 : Nat) (l1 : Int32) : Option Int32 :=
  xlet (-1 : Int32) (fun v1 => xlet (126 : Int32) (fun v2 => (xloop (f_X12_signBetween_s5 σ ) xF (l0, l1, v1, v2)).bind (Sum.elim (fun g => some g) (fun e => f_X12_signBetween_j64 σ e))))
set_option maxHeartbeats 4000000 in
set_option maxRecDepth 20000 in
theorem m_X12_signBetween {G : xG} {π : Nat → Nat} {d C Z : Nat} {Q : xQ} {σ : xM} {l0 : Nat} {l1 : Int32} {x : Int32} (hf : f_X12_signBetween σ l0 l1 = some x) (hR : ∀ g, x = g → Q (.inl (some (.int g))) (σ) π) : xMach G π J_X12_signBetween (d + 1) C Z 0 (lv_args 0 [.ref l0, .int l1]) [] σ Q := by
  unfold f_X12_signBetween at hf
  refine xm_stL (L' := [(0, .ref l0), (1, .int l1)]) rfl ?_
  refine xm_iconst dX12_signBetween_0 (v := -1) (by decide) ?_
  refine xb_topi hf (fun v1 ev1 hf => ?_)
  refine xm_istore_n dX12_signBetween_1 (by decide) (xm_stL (L' := [(2, .int v1), (0, .ref l0), (1, .int l1)]) rfl ?_)
  refine xm_bipush dX12_signBetween_2 (v := 126) (by decide) ?_
  refine xb_topi hf (fun v2 ev2 hf => ?_)
  refine xm_istore_n dX12_signBetween_4 (by decide) (xm_stL (L' := [(3, .int v2), (2, .int v1), (0, .ref l0), (1, .int l1)]) rfl ?_)
  obtain ⟨o, h1, hf⟩ := xbind hf
  refine xm_sub [2, 3, 1, 0] rfl (L_X12_signBetween_l5 σ h1 (fun g hg => ?_) (fun e he => ?_))
  · subst hg
    cases hf
    exact hR _ rfl
  · subst he
    rw [Sum.elim_inr] at hf
    have hf : f_X12_signBetween_j64 σ e = some _ := hf
    exact xm_sub [0] rfl (L_X12_signBetween_j64 σ e hf hR)
-- RankwiseModel.add(IIII)V
def f_X12_add_j59 (σ : xM)  : Option xM :=
  some σ
set_option maxHeartbeats 4000000 in
set_option maxRecDepth 20000 in
theorem L_X12_add_j59 {G : xG} {π : Nat → Nat} {d C Z : Nat} {Q : xQ} (σ : xM)  {x : xM} (hf : f_X12_add_j59 σ = some x) (hR : ∀ g, x = g → Q (.inl none) (g) π) : xMach G π J_X12_add (d + 1) C Z 59 [] [] σ Q := by
  unfold f_X12_add_j59 at hf
  cases hf
  exact xm_vret dX12_add_59 rfl (hR _ rfl)
def f_X12_add_j24 (σ : xM) (l0 : Nat) (l1 : Int32) (l2 : Int32) (l3 : Int32) (l4 : Int32) : Option xM :=
  (gI σ l0 12 75).bind (fun x3 => (if x3 < (0 : Int32) then f_X12_add_j59 σ else (gI σ l0 12 74).bind (fun x4 => (gI σ l0 12 75).bind (fun x5 => (if xk σ l0 12 = true then (f_X12_node σ l0 (x4 + x5) l1 l2 l3 l4).bind (fun p6 => (gI p6 l0 12 75).bind (fun x7 => (sI p6 l0 12 75 (x7 + (1 : Int32))).bind (fun σ8 => f_X12_add_j59 σ8))) else none)))))
set_option maxHeartbeats 4000000 in
set_option maxRecDepth 20000 in
theorem L_X12_add_j24 {G : xG} {π : Nat → Nat} {d C Z : Nat} {Q : xQ} (σ : xM) (l0 : Nat) (l1 : Int32) (l2 : Int32) (l3 : Int32) (l4 : Int32) {x : xM} (hf : f_X12_add_j24 σ l0 l1 l2 l3 l4 = some x) (hR : ∀ g, x = g → Q (.inl none) (g) π) : xMach G π J_X12_add (d + 1) C Z 24 [(0, .ref l0), (1, .int l1), (2, .int l2), (3, .int l3), (4, .int l4)] [] σ Q := by
  unfold f_X12_add_j24 at hf
  refine xm_aload_n dX12_add_24 rfl ?_
  refine xb_getI (a := l0) (c := 12) (k := 75) dX12_add_25 xcl12 (by decide) xw_1912 rfl hf (fun x3 ex3 hf => ?_)
  refine xb_if_lt 59 dX12_add_28 (by decide) hf (fun c hf => ?_) (fun c hf => ?_)
  · exact xm_sub [] rfl (L_X12_add_j59 σ hf hR)
  · refine xm_aload_n dX12_add_31 rfl ?_
    refine xm_aload_n dX12_add_32 rfl ?_
    refine xb_getI (a := l0) (c := 12) (k := 74) dX12_add_33 xcl12 (by decide) xw_1911 rfl hf (fun x4 ex4 hf => ?_)
    refine xm_aload_n dX12_add_36 rfl ?_
    refine xb_getI (a := l0) (c := 12) (k := 75) dX12_add_37 xcl12 (by decide) xw_1912 rfl hf (fun x5 ex5 hf => ?_)
    refine xm_iadd dX12_add_40 ?_
    refine xm_iload_n dX12_add_41 rfl ?_
    refine xm_iload_n dX12_add_42 rfl ?_
    refine xm_iload_n dX12_add_43 rfl ?_
    refine xm_iload dX12_add_44 rfl ?_
    refine xb_if hf (fun hb hf => ?_) (fun _ q => nomatch q)
    obtain ⟨p6, ep6, hf⟩ := xbind hf
    refine xb_callV (As := [.int (x4 + x5), .int l1, .int l2, .int l3, .int l4]) (v0 := none) (τ0 := p6) dX12_add_46 (xc_X12_node _ _) xcl12 xw_2202 xw_2204 xs_108 hb rfl (Nat.le_of_ble_eq_true rfl) rfl (Nat.le_of_ble_eq_true rfl) (fun Q1 hq => m_X12_node (d := d + 0) ep6 (fun g hg => by subst hg; exact hq)) ?_
    refine xm_aload_n dX12_add_49 rfl ?_
    refine xm_dup dX12_add_50 rfl ?_
    refine xb_getI (a := l0) (c := 12) (k := 75) dX12_add_51 xcl12 (by decide) xw_1912 rfl hf (fun x7 ex7 hf => ?_)
    refine xm_iconst dX12_add_54 (v := 1) (by decide) ?_
    refine xm_iadd dX12_add_55 ?_
    refine xb_putI (a := l0) (c := 12) (k := 75) dX12_add_56 xcl12 (by decide) xw_1912 rfl rfl hf (fun σ8 eσ8 hf => ?_)
    exact xm_sub [] rfl (L_X12_add_j59 σ8 hf hR)
def f_X12_add_j19 (σ : xM) (l0 : Nat) (l1 : Int32) (l2 : Int32) (l3 : Int32) (l4 : Int32) : Option xM :=
  (sI σ l0 12 75 (-1 : Int32)).bind (fun σ2 => f_X12_add_j24 σ2 l0 l1 l2 l3 l4)
set_option maxHeartbeats 4000000 in
set_option maxRecDepth 20000 in
theorem L_X12_add_j19 {G : xG} {π : Nat → Nat} {d C Z : Nat} {Q : xQ} (σ : xM) (l0 : Nat) (l1 : Int32) (l2 : Int32) (l3 : Int32) (l4 : Int32) {x : xM} (hf : f_X12_add_j19 σ l0 l1 l2 l3 l4 = some x) (hR : ∀ g, x = g → Q (.inl none) (g) π) : xMach G π J_X12_add (d + 1) C Z 19 [(0, .ref l0), (1, .int l1), (2, .int l2), (3, .int l3), (4, .int l4)] [] σ Q := by
  unfold f_X12_add_j19 at hf
  refine xm_aload_n dX12_add_19 rfl ?_
  refine xm_iconst dX12_add_20 (v := -1) (by decide) ?_
  refine xb_putI (a := l0) (c := 12) (k := 75) dX12_add_21 xcl12 (by decide) xw_1912 rfl rfl hf (fun σ2 eσ2 hf => ?_)
  exact xm_sub [0, 1, 2, 3, 4] rfl (L_X12_add_j24 σ2 l0 l1 l2 l3 l4 hf hR)
def f_X12_add (σ : xM) (l0 : Nat) (l1 : Int32) (l2 : Int32) (l3 : Int32) (l4 : Int32) : Option xM :=
  (gI σ l0 12 75).bind (fun x1 => (if x1 = (80 : Int32) then f_X12_add_j19 σ l0 l1 l2 l3 l4 else (if l1 = (3 : Int32) then (if l2 = (-1 : Int32) then f_X12_add_j19 σ l0 l1 l2 l3 l4 else f_X12_add_j24 σ l0 l1 l2 l3 l4) else f_X12_add_j24 σ l0 l1 l2 l3 l4)))
set_option maxHeartbeats 4000000 in
set_option maxRecDepth 20000 in
theorem m_X12_add {G : xG} {π : Nat → Nat} {d C Z : Nat} {Q : xQ} {σ : xM} {l0 : Nat} {l1 : Int32} {l2 : Int32} {l3 : Int32} {l4 : Int32} {x : xM} (hf : f_X12_add σ l0 l1 l2 l3 l4 = some x) (hR : ∀ g, x = g → Q (.inl none) (g) π) : xMach G π J_X12_add (d + 1) C Z 0 (lv_args 0 [.ref l0, .int l1, .int l2, .int l3, .int l4]) [] σ Q := by
  unfold f_X12_add at hf
  refine xm_stL (L' := [(0, .ref l0), (1, .int l1), (2, .int l2), (3, .int l3), (4, .int l4)]) rfl ?_
  refine xm_aload_n dX12_add_0 rfl ?_
  refine xb_getI (a := l0) (c := 12) (k := 75) dX12_add_1 xcl12 (by decide) xw_1912 rfl hf (fun x1 ex1 hf => ?_)
  refine xm_bipush dX12_add_4 (v := 80) (by decide) ?_
  refine xb_icmp_eq 19 dX12_add_6 (by decide) hf (fun c hf => ?_) (fun c hf => ?_)
  · exact xm_sub [0, 1, 2, 3, 4] rfl (L_X12_add_j19 σ l0 l1 l2 l3 l4 hf hR)
  · refine xm_iload_n dX12_add_9 rfl ?_
    refine xm_iconst dX12_add_10 (v := 3) (by decide) ?_
    refine xb_icmp_ne 24 dX12_add_11 (by decide) hf (fun c hf => ?_) (fun c hf => ?_)
    · exact xm_sub [0, 1, 2, 3, 4] rfl (L_X12_add_j24 σ l0 l1 l2 l3 l4 hf hR)
    · refine xm_iload_n dX12_add_14 rfl ?_
      refine xm_iconst dX12_add_15 (v := -1) (by decide) ?_
      refine xb_icmp_ne 24 dX12_add_16 (by decide) hf (fun c hf => ?_) (fun c hf => ?_)
      · exact xm_sub [0, 1, 2, 3, 4] rfl (L_X12_add_j24 σ l0 l1 l2 l3 l4 hf hR)
      · exact xm_sub [0, 1, 2, 3, 4] rfl (L_X12_add_j19 σ l0 l1 l2 l3 l4 hf hR)
-- RankwiseModel.addNodes(II)V
def f_X12_addNodes_j52 (σ : xM)  : Option xM :=
  some σ
set_option maxHeartbeats 4000000 in
set_option maxRecDepth 20000 in
theorem L_X12_addNodes_j52 {G : xG} {π : Nat → Nat} {d C Z : Nat} {Q : xQ} (σ : xM)  {x : xM} (hf : f_X12_addNodes_j52 σ = some x) (hR : ∀ g, x = g → Q (.inl none) (g) π) : xMach G π J_X12_addNodes (d + 1) C Z 52 [] [] σ Q := by
  unfold f_X12_addNodes_j52 at hf
  cases hf
  exact xm_vret dX12_addNodes_52 rfl (hR _ rfl)
def f_X12_addNodes_j20 (σ : xM) (l0 : Nat) (l1 : Int32) (l2 : Int32) : Option xM :=
  (gI σ l0 12 75).bind (fun x2 => (if x2 < (0 : Int32) then f_X12_addNodes_j52 σ else (gI σ l0 12 74).bind (fun x3 => (gI σ l0 12 75).bind (fun x4 => (if xk σ l0 12 = true then (f_X12_copyNodes σ l0 (x3 + x4) l1 l2).bind (fun p5 => (gI p5 l0 12 75).bind (fun x6 => (sI p5 l0 12 75 (x6 + l2)).bind (fun σ7 => f_X12_addNodes_j52 σ7))) else none)))))
set_option maxHeartbeats 4000000 in
set_option maxRecDepth 20000 in
theorem L_X12_addNodes_j20 {G : xG} {π : Nat → Nat} {d C Z : Nat} {Q : xQ} (σ : xM) (l0 : Nat) (l1 : Int32) (l2 : Int32) {x : xM} (hf : f_X12_addNodes_j20 σ l0 l1 l2 = some x) (hR : ∀ g, x = g → Q (.inl none) (g) π) : xMach G π J_X12_addNodes (d + 1) C Z 20 [(0, .ref l0), (1, .int l1), (2, .int l2)] [] σ Q := by
  unfold f_X12_addNodes_j20 at hf
  refine xm_aload_n dX12_addNodes_20 rfl ?_
  refine xb_getI (a := l0) (c := 12) (k := 75) dX12_addNodes_21 xcl12 (by decide) xw_1912 rfl hf (fun x2 ex2 hf => ?_)
  refine xb_if_lt 52 dX12_addNodes_24 (by decide) hf (fun c hf => ?_) (fun c hf => ?_)
  · exact xm_sub [] rfl (L_X12_addNodes_j52 σ hf hR)
  · refine xm_aload_n dX12_addNodes_27 rfl ?_
    refine xm_aload_n dX12_addNodes_28 rfl ?_
    refine xb_getI (a := l0) (c := 12) (k := 74) dX12_addNodes_29 xcl12 (by decide) xw_1911 rfl hf (fun x3 ex3 hf => ?_)
    refine xm_aload_n dX12_addNodes_32 rfl ?_
    refine xb_getI (a := l0) (c := 12) (k := 75) dX12_addNodes_33 xcl12 (by decide) xw_1912 rfl hf (fun x4 ex4 hf => ?_)
    refine xm_iadd dX12_addNodes_36 ?_
    refine xm_iload_n dX12_addNodes_37 rfl ?_
    refine xm_iload_n dX12_addNodes_38 rfl ?_
    refine xb_if hf (fun hb hf => ?_) (fun _ q => nomatch q)
    obtain ⟨p5, ep5, hf⟩ := xbind hf
    refine xb_callV (As := [.int (x3 + x4), .int l1, .int l2]) (v0 := none) (τ0 := p5) dX12_addNodes_39 (xc_X12_copyNodes _ _) xcl12 xw_2104 xw_2106 xs_89 hb rfl (Nat.le_of_ble_eq_true rfl) rfl (Nat.le_of_ble_eq_true rfl) (fun Q1 hq => m_X12_copyNodes (d := d + 0) ep5 (fun g hg => by subst hg; exact hq)) ?_
    refine xm_aload_n dX12_addNodes_42 rfl ?_
    refine xm_dup dX12_addNodes_43 rfl ?_
    refine xb_getI (a := l0) (c := 12) (k := 75) dX12_addNodes_44 xcl12 (by decide) xw_1912 rfl hf (fun x6 ex6 hf => ?_)
    refine xm_iload_n dX12_addNodes_47 rfl ?_
    refine xm_iadd dX12_addNodes_48 ?_
    refine xb_putI (a := l0) (c := 12) (k := 75) dX12_addNodes_49 xcl12 (by decide) xw_1912 rfl rfl hf (fun σ7 eσ7 hf => ?_)
    exact xm_sub [] rfl (L_X12_addNodes_j52 σ7 hf hR)
def f_X12_addNodes_j15 (σ : xM) (l0 : Nat) (l1 : Int32) (l2 : Int32) : Option xM :=
  (sI σ l0 12 75 (-1 : Int32)).bind (fun σ1 => f_X12_addNodes_j20 σ1 l0 l1 l2)
set_option maxHeartbeats 4000000 in
set_option maxRecDepth 20000 in
theorem L_X12_addNodes_j15 {G : xG} {π : Nat → Nat} {d C Z : Nat} {Q : xQ} (σ : xM) (l0 : Nat) (l1 : Int32) (l2 : Int32) {x : xM} (hf : f_X12_addNodes_j15 σ l0 l1 l2 = some x) (hR : ∀ g, x = g → Q (.inl none) (g) π) : xMach G π J_X12_addNodes (d + 1) C Z 15 [(0, .ref l0), (1, .int l1), (2, .int l2)] [] σ Q := by
  unfold f_X12_addNodes_j15 at hf
  refine xm_aload_n dX12_addNodes_15 rfl ?_
  refine xm_iconst dX12_addNodes_16 (v := -1) (by decide) ?_
  refine xb_putI (a := l0) (c := 12) (k := 75) dX12_addNodes_17 xcl12 (by decide) xw_1912 rfl rfl hf (fun σ1 eσ1 hf => ?_)
  exact xm_sub [0, 1, 2] rfl (L_X12_addNodes_j20 σ1 l0 l1 l2 hf hR)
def f_X12_addNodes (σ : xM) (l0 : Nat) (l1 : Int32) (l2 : Int32) : Option xM :=
  (if l2 < (0 : Int32) then f_X12_addNodes_j15 σ l0 l1 l2 else (gI σ l0 12 75).bind (fun x8 => (if (x8 + l2) ≤ (80 : Int32) then f_X12_addNodes_j20 σ l0 l1 l2 else f_X12_addNodes_j15 σ l0 l1 l2)))
set_option maxHeartbeats 4000000 in
set_option maxRecDepth 20000 in
theorem m_X12_addNodes {G : xG} {π : Nat → Nat} {d C Z : Nat} {Q : xQ} {σ : xM} {l0 : Nat} {l1 : Int32} {l2 : Int32} {x : xM} (hf : f_X12_addNodes σ l0 l1 l2 = some x) (hR : ∀ g, x = g → Q (.inl none) (g) π) : xMach G π J_X12_addNodes (d + 1) C Z 0 (lv_args 0 [.ref l0, .int l1, .int l2]) [] σ Q := by
  unfold f_X12_addNodes at hf
  refine xm_stL (L' := [(0, .ref l0), (1, .int l1), (2, .int l2)]) rfl ?_
  refine xm_iload_n dX12_addNodes_0 rfl ?_
  refine xb_if_lt 15 dX12_addNodes_1 (by decide) hf (fun c hf => ?_) (fun c hf => ?_)
  · exact xm_sub [0, 1, 2] rfl (L_X12_addNodes_j15 σ l0 l1 l2 hf hR)
  · refine xm_aload_n dX12_addNodes_4 rfl ?_
    refine xb_getI (a := l0) (c := 12) (k := 75) dX12_addNodes_5 xcl12 (by decide) xw_1912 rfl hf (fun x8 ex8 hf => ?_)
    refine xm_iload_n dX12_addNodes_8 rfl ?_
    refine xm_iadd dX12_addNodes_9 ?_
    refine xm_bipush dX12_addNodes_10 (v := 80) (by decide) ?_
    refine xb_icmp_le 20 dX12_addNodes_12 (by decide) hf (fun c hf => ?_) (fun c hf => ?_)
    · exact xm_sub [0, 1, 2] rfl (L_X12_addNodes_j20 σ l0 l1 l2 hf hR)
    · exact xm_sub [0, 1, 2] rfl (L_X12_addNodes_j15 σ l0 l1 l2 hf hR)
-- RankwiseModel.addTree(I)V
def f_X12_addTree (σ : xM) (l0 : Nat) (l1 : Int32) : Option xM :=
  (gR σ l0 12 8).bind (fun x1 => (aI σ x1 14 l1).bind (fun x2 => (if xk σ l0 12 = true then (f_X12_addNodes σ l0 l1 x2).bind (fun p3 => some p3) else none)))
set_option maxHeartbeats 4000000 in
set_option maxRecDepth 20000 in
theorem m_X12_addTree {G : xG} {π : Nat → Nat} {d C Z : Nat} {Q : xQ} {σ : xM} {l0 : Nat} {l1 : Int32} {x : xM} (hf : f_X12_addTree σ l0 l1 = some x) (hR : ∀ g, x = g → Q (.inl none) (g) π) : xMach G π J_X12_addTree (d + 2) C Z 0 (lv_args 0 [.ref l0, .int l1]) [] σ Q := by
  unfold f_X12_addTree at hf
  refine xm_stL (L' := [(0, .ref l0), (1, .int l1)]) rfl ?_
  refine xm_aload_n dX12_addTree_0 rfl ?_
  refine xm_iload_n dX12_addTree_1 rfl ?_
  refine xm_aload_n dX12_addTree_2 rfl ?_
  refine xb_getR (a := l0) (c := 12) (k := 8) dX12_addTree_3 xcl12 (by decide) xw_1845 rfl hf (fun x1 ex1 hf => ?_)
  refine xm_iload_n dX12_addTree_6 rfl ?_
  refine xb_iald dX12_addTree_7 hf (fun x2 ex2 hf => ?_)
  refine xb_if hf (fun hb hf => ?_) (fun _ q => nomatch q)
  obtain ⟨p3, ep3, hf⟩ := xbind hf
  refine xb_callV (As := [.int l1, .int x2]) (v0 := none) (τ0 := p3) dX12_addTree_8 (xc_X12_addNodes _ _) xcl12 xw_2738 xw_2740 xs_213 hb rfl (Nat.le_of_ble_eq_true rfl) rfl (Nat.le_of_ble_eq_true rfl) (fun Q1 hq => m_X12_addNodes (d := d + 0) ep3 (fun g hg => by subst hg; exact hq)) ?_
  cases hf
  exact xm_vret dX12_addTree_11 rfl (hR _ rfl)
-- RankwiseModel.addDerived(II)V
def f_X12_addDerived (σ : xM) (l0 : Nat) (l1 : Int32) (l2 : Int32) : Option xM :=
  (gR σ l0 12 73).bind (fun x1 => (aI σ x1 14 (l1 - l2)).bind (fun x2 => (if xk σ l0 12 = true then (f_X12_addNodes σ l0 ((13740 : Int32) + ((80 : Int32) * (l1 - l2))) x2).bind (fun p3 => some p3) else none)))
set_option maxHeartbeats 4000000 in
set_option maxRecDepth 20000 in
theorem m_X12_addDerived {G : xG} {π : Nat → Nat} {d C Z : Nat} {Q : xQ} {σ : xM} {l0 : Nat} {l1 : Int32} {l2 : Int32} {x : xM} (hf : f_X12_addDerived σ l0 l1 l2 = some x) (hR : ∀ g, x = g → Q (.inl none) (g) π) : xMach G π J_X12_addDerived (d + 2) C Z 0 (lv_args 0 [.ref l0, .int l1, .int l2]) [] σ Q := by
  unfold f_X12_addDerived at hf
  refine xm_stL (L' := [(0, .ref l0), (1, .int l1), (2, .int l2)]) rfl ?_
  refine xm_aload_n dX12_addDerived_0 rfl ?_
  refine xm_sipush dX12_addDerived_1 (v := 13740) (by decide) ?_
  refine xm_bipush dX12_addDerived_4 (v := 80) (by decide) ?_
  refine xm_iload_n dX12_addDerived_6 rfl ?_
  refine xm_iload_n dX12_addDerived_7 rfl ?_
  refine xm_isub dX12_addDerived_8 ?_
  refine xm_imul dX12_addDerived_9 ?_
  refine xm_iadd dX12_addDerived_10 ?_
  refine xm_aload_n dX12_addDerived_11 rfl ?_
  refine xb_getR (a := l0) (c := 12) (k := 73) dX12_addDerived_12 xcl12 (by decide) xw_1910 rfl hf (fun x1 ex1 hf => ?_)
  refine xm_iload_n dX12_addDerived_15 rfl ?_
  refine xm_iload_n dX12_addDerived_16 rfl ?_
  refine xm_isub dX12_addDerived_17 ?_
  refine xb_iald dX12_addDerived_18 hf (fun x2 ex2 hf => ?_)
  refine xb_if hf (fun hb hf => ?_) (fun _ q => nomatch q)
  obtain ⟨p3, ep3, hf⟩ := xbind hf
  refine xb_callV (As := [.int ((13740 : Int32) + ((80 : Int32) * (l1 - l2))), .int x2]) (v0 := none) (τ0 := p3) dX12_addDerived_19 (xc_X12_addNodes _ _) xcl12 xw_2738 xw_2740 xs_213 hb rfl (Nat.le_of_ble_eq_true rfl) rfl (Nat.le_of_ble_eq_true rfl) (fun Q1 hq => m_X12_addNodes (d := d + 0) ep3 (fun g hg => by subst hg; exact hq)) ?_
  cases hf
  exact xm_vret dX12_addDerived_22 rfl (hR _ rfl)
-- RankwiseModel.deriveTwo(III)V
def f_X12_deriveTwo_j334 (σ : xM)  : Option xM :=
  some σ
set_option maxHeartbeats 4000000 in
set_option maxRecDepth 20000 in
theorem L_X12_deriveTwo_j334 {G : xG} {π : Nat → Nat} {d C Z : Nat} {Q : xQ} (σ : xM)  {x : xM} (hf : f_X12_deriveTwo_j334 σ = some x) (hR : ∀ g, x = g → Q (.inl none) (g) π) : xMach G π J_X12_deriveTwo (d + 3) C Z 334 [] [] σ Q := by
  unfold f_X12_deriveTwo_j334 at hf
  cases hf
  exact xm_vret dX12_deriveTwo_334 rfl (hR _ rfl)
def f_X12_deriveTwo_j311 (σ : xM) (l0 : Nat) (l2 : Int32) (l4 : Int32) (l5 : Int32) (l6 : Int32) : Option xM :=
  (if xk σ l0 12 = true then (f_X12_add σ l0 (3 : Int32) l6 (2 : Int32) (2 : Int32)).bind (fun p5 => (if xk p5 l0 12 = true then (f_X12_addDerived p5 l0 l4 l2).bind (fun p6 => (if xk p6 l0 12 = true then (f_X12_addDerived p6 l0 l5 l2).bind (fun p7 => f_X12_deriveTwo_j334 p7) else none)) else none)) else none)
set_option maxHeartbeats 4000000 in
set_option maxRecDepth 20000 in
theorem L_X12_deriveTwo_j311 {G : xG} {π : Nat → Nat} {d C Z : Nat} {Q : xQ} (σ : xM) (l0 : Nat) (l2 : Int32) (l4 : Int32) (l5 : Int32) (l6 : Int32) {x : xM} (hf : f_X12_deriveTwo_j311 σ l0 l2 l4 l5 l6 = some x) (hR : ∀ g, x = g → Q (.inl none) (g) π) : xMach G π J_X12_deriveTwo (d + 3) C Z 311 [(0, .ref l0), (2, .int l2), (4, .int l4), (5, .int l5), (6, .int l6)] [] σ Q := by
  unfold f_X12_deriveTwo_j311 at hf
  refine xm_aload_n dX12_deriveTwo_311 rfl ?_
  refine xm_iconst dX12_deriveTwo_312 (v := 3) (by decide) ?_
  refine xm_iload dX12_deriveTwo_313 rfl ?_
  refine xm_iconst dX12_deriveTwo_315 (v := 2) (by decide) ?_
  refine xm_iconst dX12_deriveTwo_316 (v := 2) (by decide) ?_
  refine xb_if hf (fun hb hf => ?_) (fun _ q => nomatch q)
  obtain ⟨p5, ep5, hf⟩ := xbind hf
  refine xb_callV (As := [.int (3 : Int32), .int l6, .int (2 : Int32), .int (2 : Int32)]) (v0 := none) (τ0 := p5) dX12_deriveTwo_317 (xc_X12_add _ _) xcl12 xw_2730 xw_2732 xs_211 hb rfl (Nat.le_of_ble_eq_true rfl) rfl (Nat.le_of_ble_eq_true rfl) (fun Q1 hq => m_X12_add (d := d + 1) ep5 (fun g hg => by subst hg; exact hq)) ?_
  refine xm_aload_n dX12_deriveTwo_320 rfl ?_
  refine xm_iload dX12_deriveTwo_321 rfl ?_
  refine xm_iload_n dX12_deriveTwo_323 rfl ?_
  refine xb_if hf (fun hb hf => ?_) (fun _ q => nomatch q)
  obtain ⟨p6, ep6, hf⟩ := xbind hf
  refine xb_callV (As := [.int l4, .int l2]) (v0 := none) (τ0 := p6) dX12_deriveTwo_324 (xc_X12_addDerived _ _) xcl12 xw_2734 xw_2736 xs_212 hb rfl (Nat.le_of_ble_eq_true rfl) rfl (Nat.le_of_ble_eq_true rfl) (fun Q1 hq => m_X12_addDerived (d := d + 0) ep6 (fun g hg => by subst hg; exact hq)) ?_
  refine xm_aload_n dX12_deriveTwo_327 rfl ?_
  refine xm_iload dX12_deriveTwo_328 rfl ?_
  refine xm_iload_n dX12_deriveTwo_330 rfl ?_
  refine xb_if hf (fun hb hf => ?_) (fun _ q => nomatch q)
  obtain ⟨p7, ep7, hf⟩ := xbind hf
  refine xb_callV (As := [.int l5, .int l2]) (v0 := none) (τ0 := p7) dX12_deriveTwo_331 (xc_X12_addDerived _ _) xcl12 xw_2734 xw_2736 xs_212 hb rfl (Nat.le_of_ble_eq_true rfl) rfl (Nat.le_of_ble_eq_true rfl) (fun Q1 hq => m_X12_addDerived (d := d + 0) ep7 (fun g hg => by subst hg; exact hq)) ?_
  exact xm_sub [] rfl (L_X12_deriveTwo_j334 p7 hf hR)
def f_X12_deriveTwo (σ : xM) (l0 : Nat) (l1 : Int32) (l2 : Int32) (l3 : Int32) : Option xM :=
  xlet (l1 + (1 : Int32)) (fun v1 => (if xk σ l0 12 = true then (f_X12_child σ l0 l1 (1 : Int32)).bind (fun p2 => (gR σ l0 12 5).bind (fun x3 => (aI σ x3 14 l1).bind (fun x4 => (if l3 = (2 : Int32) then (if xk σ l0 12 = true then (f_X12_signBetween σ l0 (0 : Int32)).bind (fun p8 => (if xk σ l0 12 = true then (f_X12_add σ l0 (3 : Int32) p8 (2 : Int32) (2 : Int32)).bind (fun p9 => (if xk p9 l0 12 = true then (f_X12_add p9 l0 (3 : Int32) x4 (2 : Int32) (2 : Int32)).bind (fun p10 => (if xk p10 l0 12 = true then (f_X12_addDerived p10 l0 v1 l2).bind (fun p11 => (if xk p11 l0 12 = true then (f_X12_addTree p11 l0 p2).bind (fun p12 => (if xk p12 l0 12 = true then (f_X12_add p12 l0 (3 : Int32) x4 (2 : Int32) (2 : Int32)).bind (fun p13 => (if xk p13 l0 12 = true then (f_X12_addTree p13 l0 v1).bind (fun p14 => (if xk p14 l0 12 = true then (f_X12_addDerived p14 l0 p2 l2).bind (fun p15 => f_X12_deriveTwo_j334 p15) else none)) else none)) else none)) else none)) else none)) else none)) else none)) else none) else (if l3 = (3 : Int32) then (if xk σ l0 12 = true then (f_X12_add σ l0 (3 : Int32) x4 (2 : Int32) (2 : Int32)).bind (fun p16 => (if xk p16 l0 12 = true then (f_X12_signBetween p16 l0 (1 : Int32)).bind (fun p17 => (if xk p16 l0 12 = true then (f_X12_add p16 l0 (3 : Int32) p17 (2 : Int32) (2 : Int32)).bind (fun p18 => (if xk p18 l0 12 = true then (f_X12_signBetween p18 l0 (2 : Int32)).bind (fun p19 => (if xk p18 l0 12 = true then (f_X12_add p18 l0 (3 : Int32) p19 (2 : Int32) (2 : Int32)).bind (fun p20 => (if xk p20 l0 12 = true then (f_X12_addDerived p20 l0 v1 l2).bind (fun p21 => (if xk p21 l0 12 = true then (f_X12_addTree p21 l0 p2).bind (fun p22 => (if xk p22 l0 12 = true then (f_X12_signBetween p22 l0 (2 : Int32)).bind (fun p23 => (if xk p22 l0 12 = true then (f_X12_add p22 l0 (3 : Int32) p23 (2 : Int32) (2 : Int32)).bind (fun p24 => (if xk p24 l0 12 = true then (f_X12_addTree p24 l0 v1).bind (fun p25 => (if xk p25 l0 12 = true then (f_X12_addDerived p25 l0 p2 l2).bind (fun p26 => (if xk p26 l0 12 = true then (f_X12_signBetween p26 l0 (5 : Int32)).bind (fun p27 => (if xk p26 l0 12 = true then (f_X12_add p26 l0 (3 : Int32) p27 (2 : Int32) (2 : Int32)).bind (fun p28 => (if xk p28 l0 12 = true then (f_X12_addTree p28 l0 p2).bind (fun p29 => (if xk p29 l0 12 = true then (f_X12_add p29 l0 (0 : Int32) (2 : Int32) (-1 : Int32) (0 : Int32)).bind (fun p30 => f_X12_deriveTwo_j334 p30) else none)) else none)) else none)) else none)) else none)) else none)) else none)) else none)) else none)) else none)) else none)) else none)) else none)) else none)) else none) else (if l3 = (4 : Int32) then f_X12_deriveTwo_j311 σ l0 l2 v1 p2 x4 else (if l3 = (5 : Int32) then (gR σ l0 12 5).bind (fun x31 => (aI σ x31 14 p2).bind (fun x32 => (if x32 = (0 : Int32) then (if xk σ l0 12 = true then (f_X12_add σ l0 (0 : Int32) (0 : Int32) (-1 : Int32) (0 : Int32)).bind (fun p46 => f_X12_deriveTwo_j334 p46) else none) else (if xk σ l0 12 = true then (f_X12_signBetween σ l0 (2 : Int32)).bind (fun p33 => (if xk σ l0 12 = true then (f_X12_add σ l0 (3 : Int32) p33 (2 : Int32) (2 : Int32)).bind (fun p34 => (if xk p34 l0 12 = true then (f_X12_signBetween p34 l0 (2 : Int32)).bind (fun p35 => (if xk p34 l0 12 = true then (f_X12_add p34 l0 (3 : Int32) p35 (2 : Int32) (2 : Int32)).bind (fun p36 => (gR p36 l0 12 5).bind (fun x37 => (aI p36 x37 14 p2).bind (fun x38 => (if xk p36 l0 12 = true then (f_X12_add p36 l0 (0 : Int32) x38 (-1 : Int32) (0 : Int32)).bind (fun p39 => (if xk p39 l0 12 = true then (f_X12_add p39 l0 (3 : Int32) x4 (2 : Int32) (2 : Int32)).bind (fun p40 => (if xk p40 l0 12 = true then (f_X12_addTree p40 l0 v1).bind (fun p41 => (gR p41 l0 12 5).bind (fun x42 => (aI p41 x42 14 p2).bind (fun x43 => (if xk p41 l0 12 = true then (f_X12_add p41 l0 (0 : Int32) (x43 - (1 : Int32)) (-1 : Int32) (0 : Int32)).bind (fun p44 => (if xk p44 l0 12 = true then (f_X12_addDerived p44 l0 v1 l2).bind (fun p45 => f_X12_deriveTwo_j334 p45) else none)) else none)))) else none)) else none)) else none)))) else none)) else none)) else none)) else none)))) else f_X12_deriveTwo_j311 σ l0 l2 v1 p2 x4))))))) else none))
set_option maxHeartbeats 4000000 in
set_option maxRecDepth 20000 in
theorem m_X12_deriveTwo {G : xG} {π : Nat → Nat} {d C Z : Nat} {Q : xQ} {σ : xM} {l0 : Nat} {l1 : Int32} {l2 : Int32} {l3 : Int32} {x : xM} (hf : f_X12_deriveTwo σ l0 l1 l2 l3 = some x) (hR : ∀ g, x = g → Q (.inl none) (g) π) : xMach G π J_X12_deriveTwo (d + 3) C Z 0 (lv_args 0 [.ref l0, .int l1, .int l2, .int l3]) [] σ Q := by
  unfold f_X12_deriveTwo at hf
  refine xm_stL (L' := [(0, .ref l0), (1, .int l1), (2, .int l2), (3, .int l3)]) rfl ?_
  refine xm_iload_n dX12_deriveTwo_0 rfl ?_
  refine xm_iconst dX12_deriveTwo_1 (v := 1) (by decide) ?_
  refine xm_iadd dX12_deriveTwo_2 ?_
  refine xb_topi hf (fun v1 ev1 hf => ?_)
  refine xm_istore dX12_deriveTwo_3 (by decide) (xm_stL (L' := [(4, .int v1), (0, .ref l0), (1, .int l1), (2, .int l2), (3, .int l3)]) rfl ?_)
  refine xm_aload_n dX12_deriveTwo_5 rfl ?_
  refine xm_iload_n dX12_deriveTwo_6 rfl ?_
  refine xm_iconst dX12_deriveTwo_7 (v := 1) (by decide) ?_
  refine xb_if hf (fun hb hf => ?_) (fun _ q => nomatch q)
  obtain ⟨p2, ep2, hf⟩ := xbind hf
  refine xb_callV (As := [.int l1, .int (1 : Int32)]) (v0 := (some (.int p2))) (τ0 := σ) dX12_deriveTwo_8 (xc_X12_child _ _) xcl12 xw_2303 xw_2305 xs_123 hb rfl (Nat.le_of_ble_eq_true rfl) rfl (Nat.le_of_ble_eq_true rfl) (fun Q1 hq => m_X12_child (d := d + 2) ep2 (fun g hg => by subst hg; exact hq)) ?_
  refine xm_istore dX12_deriveTwo_11 (by decide) (xm_stL (L' := [(5, .int p2), (4, .int v1), (0, .ref l0), (1, .int l1), (2, .int l2), (3, .int l3)]) rfl ?_)
  refine xm_aload_n dX12_deriveTwo_13 rfl ?_
  refine xb_getR (a := l0) (c := 12) (k := 5) dX12_deriveTwo_14 xcl12 (by decide) xw_1842 rfl hf (fun x3 ex3 hf => ?_)
  refine xm_iload_n dX12_deriveTwo_17 rfl ?_
  refine xb_iald dX12_deriveTwo_18 hf (fun x4 ex4 hf => ?_)
  refine xm_istore dX12_deriveTwo_19 (by decide) (xm_stL (L' := [(6, .int x4), (5, .int p2), (4, .int v1), (0, .ref l0), (1, .int l1), (2, .int l2), (3, .int l3)]) rfl ?_)
  refine xm_iload_n dX12_deriveTwo_21 rfl ?_
  refine xb_if hf (fun c hf => ?_) (fun n0 hf => ?_)
  · refine xm_tableIn 52 dX12_deriveTwo_22 (by rw [c]; decide) (by rw [c]; decide) (by rw [c]; rfl) (by decide) ?_
    refine xm_aload_n dX12_deriveTwo_52 rfl ?_
    refine xm_iconst dX12_deriveTwo_53 (v := 3) (by decide) ?_
    refine xm_aload_n dX12_deriveTwo_54 rfl ?_
    refine xm_iconst dX12_deriveTwo_55 (v := 0) (by decide) ?_
    refine xb_if hf (fun hb hf => ?_) (fun _ q => nomatch q)
    obtain ⟨p8, ep8, hf⟩ := xbind hf
    refine xb_callV (As := [.int (0 : Int32)]) (v0 := (some (.int p8))) (τ0 := σ) dX12_deriveTwo_56 (xc_X12_signBetween _ _) xcl12 xw_2746 xw_2748 xs_215 hb rfl (Nat.le_of_ble_eq_true rfl) rfl (Nat.le_of_ble_eq_true rfl) (fun Q1 hq => m_X12_signBetween (d := d + 1) ep8 (fun g hg => by subst hg; exact hq)) ?_
    refine xm_iconst dX12_deriveTwo_59 (v := 2) (by decide) ?_
    refine xm_iconst dX12_deriveTwo_60 (v := 2) (by decide) ?_
    refine xb_if hf (fun hb hf => ?_) (fun _ q => nomatch q)
    obtain ⟨p9, ep9, hf⟩ := xbind hf
    refine xb_callV (As := [.int (3 : Int32), .int p8, .int (2 : Int32), .int (2 : Int32)]) (v0 := none) (τ0 := p9) dX12_deriveTwo_61 (xc_X12_add _ _) xcl12 xw_2730 xw_2732 xs_211 hb rfl (Nat.le_of_ble_eq_true rfl) rfl (Nat.le_of_ble_eq_true rfl) (fun Q1 hq => m_X12_add (d := d + 1) ep9 (fun g hg => by subst hg; exact hq)) ?_
    refine xm_aload_n dX12_deriveTwo_64 rfl ?_
    refine xm_iconst dX12_deriveTwo_65 (v := 3) (by decide) ?_
    refine xm_iload dX12_deriveTwo_66 rfl ?_
    refine xm_iconst dX12_deriveTwo_68 (v := 2) (by decide) ?_
    refine xm_iconst dX12_deriveTwo_69 (v := 2) (by decide) ?_
    refine xb_if hf (fun hb hf => ?_) (fun _ q => nomatch q)
    obtain ⟨p10, ep10, hf⟩ := xbind hf
    refine xb_callV (As := [.int (3 : Int32), .int x4, .int (2 : Int32), .int (2 : Int32)]) (v0 := none) (τ0 := p10) dX12_deriveTwo_70 (xc_X12_add _ _) xcl12 xw_2730 xw_2732 xs_211 hb rfl (Nat.le_of_ble_eq_true rfl) rfl (Nat.le_of_ble_eq_true rfl) (fun Q1 hq => m_X12_add (d := d + 1) ep10 (fun g hg => by subst hg; exact hq)) ?_
    refine xm_aload_n dX12_deriveTwo_73 rfl ?_
    refine xm_iload dX12_deriveTwo_74 rfl ?_
    refine xm_iload_n dX12_deriveTwo_76 rfl ?_
    refine xb_if hf (fun hb hf => ?_) (fun _ q => nomatch q)
    obtain ⟨p11, ep11, hf⟩ := xbind hf
    refine xb_callV (As := [.int v1, .int l2]) (v0 := none) (τ0 := p11) dX12_deriveTwo_77 (xc_X12_addDerived _ _) xcl12 xw_2734 xw_2736 xs_212 hb rfl (Nat.le_of_ble_eq_true rfl) rfl (Nat.le_of_ble_eq_true rfl) (fun Q1 hq => m_X12_addDerived (d := d + 0) ep11 (fun g hg => by subst hg; exact hq)) ?_
    refine xm_aload_n dX12_deriveTwo_80 rfl ?_
    refine xm_iload dX12_deriveTwo_81 rfl ?_
    refine xb_if hf (fun hb hf => ?_) (fun _ q => nomatch q)
    obtain ⟨p12, ep12, hf⟩ := xbind hf
    refine xb_callV (As := [.int p2]) (v0 := none) (τ0 := p12) dX12_deriveTwo_83 (xc_X12_addTree _ _) xcl12 xw_2750 xw_2752 xs_216 hb rfl (Nat.le_of_ble_eq_true rfl) rfl (Nat.le_of_ble_eq_true rfl) (fun Q1 hq => m_X12_addTree (d := d + 0) ep12 (fun g hg => by subst hg; exact hq)) ?_
    refine xm_aload_n dX12_deriveTwo_86 rfl ?_
    refine xm_iconst dX12_deriveTwo_87 (v := 3) (by decide) ?_
    refine xm_iload dX12_deriveTwo_88 rfl ?_
    refine xm_iconst dX12_deriveTwo_90 (v := 2) (by decide) ?_
    refine xm_iconst dX12_deriveTwo_91 (v := 2) (by decide) ?_
    refine xb_if hf (fun hb hf => ?_) (fun _ q => nomatch q)
    obtain ⟨p13, ep13, hf⟩ := xbind hf
    refine xb_callV (As := [.int (3 : Int32), .int x4, .int (2 : Int32), .int (2 : Int32)]) (v0 := none) (τ0 := p13) dX12_deriveTwo_92 (xc_X12_add _ _) xcl12 xw_2730 xw_2732 xs_211 hb rfl (Nat.le_of_ble_eq_true rfl) rfl (Nat.le_of_ble_eq_true rfl) (fun Q1 hq => m_X12_add (d := d + 1) ep13 (fun g hg => by subst hg; exact hq)) ?_
    refine xm_aload_n dX12_deriveTwo_95 rfl ?_
    refine xm_iload dX12_deriveTwo_96 rfl ?_
    refine xb_if hf (fun hb hf => ?_) (fun _ q => nomatch q)
    obtain ⟨p14, ep14, hf⟩ := xbind hf
    refine xb_callV (As := [.int v1]) (v0 := none) (τ0 := p14) dX12_deriveTwo_98 (xc_X12_addTree _ _) xcl12 xw_2750 xw_2752 xs_216 hb rfl (Nat.le_of_ble_eq_true rfl) rfl (Nat.le_of_ble_eq_true rfl) (fun Q1 hq => m_X12_addTree (d := d + 0) ep14 (fun g hg => by subst hg; exact hq)) ?_
    refine xm_aload_n dX12_deriveTwo_101 rfl ?_
    refine xm_iload dX12_deriveTwo_102 rfl ?_
    refine xm_iload_n dX12_deriveTwo_104 rfl ?_
    refine xb_if hf (fun hb hf => ?_) (fun _ q => nomatch q)
    obtain ⟨p15, ep15, hf⟩ := xbind hf
    refine xb_callV (As := [.int p2, .int l2]) (v0 := none) (τ0 := p15) dX12_deriveTwo_105 (xc_X12_addDerived _ _) xcl12 xw_2734 xw_2736 xs_212 hb rfl (Nat.le_of_ble_eq_true rfl) rfl (Nat.le_of_ble_eq_true rfl) (fun Q1 hq => m_X12_addDerived (d := d + 0) ep15 (fun g hg => by subst hg; exact hq)) ?_
    refine xm_goto 334 dX12_deriveTwo_108 (by decide) ?_
    exact xm_sub [] rfl (L_X12_deriveTwo_j334 p15 hf hR)
  refine xb_if hf (fun c hf => ?_) (fun n1 hf => ?_)
  · refine xm_tableIn 111 dX12_deriveTwo_22 (by rw [c]; decide) (by rw [c]; decide) (by rw [c]; rfl) (by decide) ?_
    refine xm_aload_n dX12_deriveTwo_111 rfl ?_
    refine xm_iconst dX12_deriveTwo_112 (v := 3) (by decide) ?_
    refine xm_iload dX12_deriveTwo_113 rfl ?_
    refine xm_iconst dX12_deriveTwo_115 (v := 2) (by decide) ?_
    refine xm_iconst dX12_deriveTwo_116 (v := 2) (by decide) ?_
    refine xb_if hf (fun hb hf => ?_) (fun _ q => nomatch q)
    obtain ⟨p16, ep16, hf⟩ := xbind hf
    refine xb_callV (As := [.int (3 : Int32), .int x4, .int (2 : Int32), .int (2 : Int32)]) (v0 := none) (τ0 := p16) dX12_deriveTwo_117 (xc_X12_add _ _) xcl12 xw_2730 xw_2732 xs_211 hb rfl (Nat.le_of_ble_eq_true rfl) rfl (Nat.le_of_ble_eq_true rfl) (fun Q1 hq => m_X12_add (d := d + 1) ep16 (fun g hg => by subst hg; exact hq)) ?_
    refine xm_aload_n dX12_deriveTwo_120 rfl ?_
    refine xm_iconst dX12_deriveTwo_121 (v := 3) (by decide) ?_
    refine xm_aload_n dX12_deriveTwo_122 rfl ?_
    refine xm_iconst dX12_deriveTwo_123 (v := 1) (by decide) ?_
    refine xb_if hf (fun hb hf => ?_) (fun _ q => nomatch q)
    obtain ⟨p17, ep17, hf⟩ := xbind hf
    refine xb_callV (As := [.int (1 : Int32)]) (v0 := (some (.int p17))) (τ0 := p16) dX12_deriveTwo_124 (xc_X12_signBetween _ _) xcl12 xw_2746 xw_2748 xs_215 hb rfl (Nat.le_of_ble_eq_true rfl) rfl (Nat.le_of_ble_eq_true rfl) (fun Q1 hq => m_X12_signBetween (d := d + 1) ep17 (fun g hg => by subst hg; exact hq)) ?_
    refine xm_iconst dX12_deriveTwo_127 (v := 2) (by decide) ?_
    refine xm_iconst dX12_deriveTwo_128 (v := 2) (by decide) ?_
    refine xb_if hf (fun hb hf => ?_) (fun _ q => nomatch q)
    obtain ⟨p18, ep18, hf⟩ := xbind hf
    refine xb_callV (As := [.int (3 : Int32), .int p17, .int (2 : Int32), .int (2 : Int32)]) (v0 := none) (τ0 := p18) dX12_deriveTwo_129 (xc_X12_add _ _) xcl12 xw_2730 xw_2732 xs_211 hb rfl (Nat.le_of_ble_eq_true rfl) rfl (Nat.le_of_ble_eq_true rfl) (fun Q1 hq => m_X12_add (d := d + 1) ep18 (fun g hg => by subst hg; exact hq)) ?_
    refine xm_aload_n dX12_deriveTwo_132 rfl ?_
    refine xm_iconst dX12_deriveTwo_133 (v := 3) (by decide) ?_
    refine xm_aload_n dX12_deriveTwo_134 rfl ?_
    refine xm_iconst dX12_deriveTwo_135 (v := 2) (by decide) ?_
    refine xb_if hf (fun hb hf => ?_) (fun _ q => nomatch q)
    obtain ⟨p19, ep19, hf⟩ := xbind hf
    refine xb_callV (As := [.int (2 : Int32)]) (v0 := (some (.int p19))) (τ0 := p18) dX12_deriveTwo_136 (xc_X12_signBetween _ _) xcl12 xw_2746 xw_2748 xs_215 hb rfl (Nat.le_of_ble_eq_true rfl) rfl (Nat.le_of_ble_eq_true rfl) (fun Q1 hq => m_X12_signBetween (d := d + 1) ep19 (fun g hg => by subst hg; exact hq)) ?_
    refine xm_iconst dX12_deriveTwo_139 (v := 2) (by decide) ?_
    refine xm_iconst dX12_deriveTwo_140 (v := 2) (by decide) ?_
    refine xb_if hf (fun hb hf => ?_) (fun _ q => nomatch q)
    obtain ⟨p20, ep20, hf⟩ := xbind hf
    refine xb_callV (As := [.int (3 : Int32), .int p19, .int (2 : Int32), .int (2 : Int32)]) (v0 := none) (τ0 := p20) dX12_deriveTwo_141 (xc_X12_add _ _) xcl12 xw_2730 xw_2732 xs_211 hb rfl (Nat.le_of_ble_eq_true rfl) rfl (Nat.le_of_ble_eq_true rfl) (fun Q1 hq => m_X12_add (d := d + 1) ep20 (fun g hg => by subst hg; exact hq)) ?_
    refine xm_aload_n dX12_deriveTwo_144 rfl ?_
    refine xm_iload dX12_deriveTwo_145 rfl ?_
    refine xm_iload_n dX12_deriveTwo_147 rfl ?_
    refine xb_if hf (fun hb hf => ?_) (fun _ q => nomatch q)
    obtain ⟨p21, ep21, hf⟩ := xbind hf
    refine xb_callV (As := [.int v1, .int l2]) (v0 := none) (τ0 := p21) dX12_deriveTwo_148 (xc_X12_addDerived _ _) xcl12 xw_2734 xw_2736 xs_212 hb rfl (Nat.le_of_ble_eq_true rfl) rfl (Nat.le_of_ble_eq_true rfl) (fun Q1 hq => m_X12_addDerived (d := d + 0) ep21 (fun g hg => by subst hg; exact hq)) ?_
    refine xm_aload_n dX12_deriveTwo_151 rfl ?_
    refine xm_iload dX12_deriveTwo_152 rfl ?_
    refine xb_if hf (fun hb hf => ?_) (fun _ q => nomatch q)
    obtain ⟨p22, ep22, hf⟩ := xbind hf
    refine xb_callV (As := [.int p2]) (v0 := none) (τ0 := p22) dX12_deriveTwo_154 (xc_X12_addTree _ _) xcl12 xw_2750 xw_2752 xs_216 hb rfl (Nat.le_of_ble_eq_true rfl) rfl (Nat.le_of_ble_eq_true rfl) (fun Q1 hq => m_X12_addTree (d := d + 0) ep22 (fun g hg => by subst hg; exact hq)) ?_
    refine xm_aload_n dX12_deriveTwo_157 rfl ?_
    refine xm_iconst dX12_deriveTwo_158 (v := 3) (by decide) ?_
    refine xm_aload_n dX12_deriveTwo_159 rfl ?_
    refine xm_iconst dX12_deriveTwo_160 (v := 2) (by decide) ?_
    refine xb_if hf (fun hb hf => ?_) (fun _ q => nomatch q)
    obtain ⟨p23, ep23, hf⟩ := xbind hf
    refine xb_callV (As := [.int (2 : Int32)]) (v0 := (some (.int p23))) (τ0 := p22) dX12_deriveTwo_161 (xc_X12_signBetween _ _) xcl12 xw_2746 xw_2748 xs_215 hb rfl (Nat.le_of_ble_eq_true rfl) rfl (Nat.le_of_ble_eq_true rfl) (fun Q1 hq => m_X12_signBetween (d := d + 1) ep23 (fun g hg => by subst hg; exact hq)) ?_
    refine xm_iconst dX12_deriveTwo_164 (v := 2) (by decide) ?_
    refine xm_iconst dX12_deriveTwo_165 (v := 2) (by decide) ?_
    refine xb_if hf (fun hb hf => ?_) (fun _ q => nomatch q)
    obtain ⟨p24, ep24, hf⟩ := xbind hf
    refine xb_callV (As := [.int (3 : Int32), .int p23, .int (2 : Int32), .int (2 : Int32)]) (v0 := none) (τ0 := p24) dX12_deriveTwo_166 (xc_X12_add _ _) xcl12 xw_2730 xw_2732 xs_211 hb rfl (Nat.le_of_ble_eq_true rfl) rfl (Nat.le_of_ble_eq_true rfl) (fun Q1 hq => m_X12_add (d := d + 1) ep24 (fun g hg => by subst hg; exact hq)) ?_
    refine xm_aload_n dX12_deriveTwo_169 rfl ?_
    refine xm_iload dX12_deriveTwo_170 rfl ?_
    refine xb_if hf (fun hb hf => ?_) (fun _ q => nomatch q)
    obtain ⟨p25, ep25, hf⟩ := xbind hf
    refine xb_callV (As := [.int v1]) (v0 := none) (τ0 := p25) dX12_deriveTwo_172 (xc_X12_addTree _ _) xcl12 xw_2750 xw_2752 xs_216 hb rfl (Nat.le_of_ble_eq_true rfl) rfl (Nat.le_of_ble_eq_true rfl) (fun Q1 hq => m_X12_addTree (d := d + 0) ep25 (fun g hg => by subst hg; exact hq)) ?_
    refine xm_aload_n dX12_deriveTwo_175 rfl ?_
    refine xm_iload dX12_deriveTwo_176 rfl ?_
    refine xm_iload_n dX12_deriveTwo_178 rfl ?_
    refine xb_if hf (fun hb hf => ?_) (fun _ q => nomatch q)
    obtain ⟨p26, ep26, hf⟩ := xbind hf
    refine xb_callV (As := [.int p2, .int l2]) (v0 := none) (τ0 := p26) dX12_deriveTwo_179 (xc_X12_addDerived _ _) xcl12 xw_2734 xw_2736 xs_212 hb rfl (Nat.le_of_ble_eq_true rfl) rfl (Nat.le_of_ble_eq_true rfl) (fun Q1 hq => m_X12_addDerived (d := d + 0) ep26 (fun g hg => by subst hg; exact hq)) ?_
    refine xm_aload_n dX12_deriveTwo_182 rfl ?_
    refine xm_iconst dX12_deriveTwo_183 (v := 3) (by decide) ?_
    refine xm_aload_n dX12_deriveTwo_184 rfl ?_
    refine xm_iconst dX12_deriveTwo_185 (v := 5) (by decide) ?_
    refine xb_if hf (fun hb hf => ?_) (fun _ q => nomatch q)
    obtain ⟨p27, ep27, hf⟩ := xbind hf
    refine xb_callV (As := [.int (5 : Int32)]) (v0 := (some (.int p27))) (τ0 := p26) dX12_deriveTwo_186 (xc_X12_signBetween _ _) xcl12 xw_2746 xw_2748 xs_215 hb rfl (Nat.le_of_ble_eq_true rfl) rfl (Nat.le_of_ble_eq_true rfl) (fun Q1 hq => m_X12_signBetween (d := d + 1) ep27 (fun g hg => by subst hg; exact hq)) ?_
    refine xm_iconst dX12_deriveTwo_189 (v := 2) (by decide) ?_
    refine xm_iconst dX12_deriveTwo_190 (v := 2) (by decide) ?_
    refine xb_if hf (fun hb hf => ?_) (fun _ q => nomatch q)
    obtain ⟨p28, ep28, hf⟩ := xbind hf
    refine xb_callV (As := [.int (3 : Int32), .int p27, .int (2 : Int32), .int (2 : Int32)]) (v0 := none) (τ0 := p28) dX12_deriveTwo_191 (xc_X12_add _ _) xcl12 xw_2730 xw_2732 xs_211 hb rfl (Nat.le_of_ble_eq_true rfl) rfl (Nat.le_of_ble_eq_true rfl) (fun Q1 hq => m_X12_add (d := d + 1) ep28 (fun g hg => by subst hg; exact hq)) ?_
    refine xm_aload_n dX12_deriveTwo_194 rfl ?_
    refine xm_iload dX12_deriveTwo_195 rfl ?_
    refine xb_if hf (fun hb hf => ?_) (fun _ q => nomatch q)
    obtain ⟨p29, ep29, hf⟩ := xbind hf
    refine xb_callV (As := [.int p2]) (v0 := none) (τ0 := p29) dX12_deriveTwo_197 (xc_X12_addTree _ _) xcl12 xw_2750 xw_2752 xs_216 hb rfl (Nat.le_of_ble_eq_true rfl) rfl (Nat.le_of_ble_eq_true rfl) (fun Q1 hq => m_X12_addTree (d := d + 0) ep29 (fun g hg => by subst hg; exact hq)) ?_
    refine xm_aload_n dX12_deriveTwo_200 rfl ?_
    refine xm_iconst dX12_deriveTwo_201 (v := 0) (by decide) ?_
    refine xm_iconst dX12_deriveTwo_202 (v := 2) (by decide) ?_
    refine xm_iconst dX12_deriveTwo_203 (v := -1) (by decide) ?_
    refine xm_iconst dX12_deriveTwo_204 (v := 0) (by decide) ?_
    refine xb_if hf (fun hb hf => ?_) (fun _ q => nomatch q)
    obtain ⟨p30, ep30, hf⟩ := xbind hf
    refine xb_callV (As := [.int (0 : Int32), .int (2 : Int32), .int (-1 : Int32), .int (0 : Int32)]) (v0 := none) (τ0 := p30) dX12_deriveTwo_205 (xc_X12_add _ _) xcl12 xw_2730 xw_2732 xs_211 hb rfl (Nat.le_of_ble_eq_true rfl) rfl (Nat.le_of_ble_eq_true rfl) (fun Q1 hq => m_X12_add (d := d + 1) ep30 (fun g hg => by subst hg; exact hq)) ?_
    refine xm_goto 334 dX12_deriveTwo_208 (by decide) ?_
    exact xm_sub [] rfl (L_X12_deriveTwo_j334 p30 hf hR)
  refine xb_if hf (fun c hf => ?_) (fun n2 hf => ?_)
  · refine xm_tableIn 311 dX12_deriveTwo_22 (by rw [c]; decide) (by rw [c]; decide) (by rw [c]; rfl) (by decide) ?_
    exact xm_sub [3, 5, 2, 1, 0] rfl (L_X12_deriveTwo_j311 σ l0 l2 v1 p2 x4 hf hR)
  refine xb_if hf (fun c hf => ?_) (fun n3 hf => ?_)
  · refine xm_tableIn 211 dX12_deriveTwo_22 (by rw [c]; decide) (by rw [c]; decide) (by rw [c]; rfl) (by decide) ?_
    refine xm_aload_n dX12_deriveTwo_211 rfl ?_
    refine xb_getR (a := l0) (c := 12) (k := 5) dX12_deriveTwo_212 xcl12 (by decide) xw_1842 rfl hf (fun x31 ex31 hf => ?_)
    refine xm_iload dX12_deriveTwo_215 rfl ?_
    refine xb_iald dX12_deriveTwo_217 hf (fun x32 ex32 hf => ?_)
    refine xb_if_ne 232 dX12_deriveTwo_218 (by decide) hf (fun c hf => ?_) (fun c hf => ?_)
    · refine xm_aload_n dX12_deriveTwo_232 rfl ?_
      refine xm_iconst dX12_deriveTwo_233 (v := 3) (by decide) ?_
      refine xm_aload_n dX12_deriveTwo_234 rfl ?_
      refine xm_iconst dX12_deriveTwo_235 (v := 2) (by decide) ?_
      refine xb_if hf (fun hb hf => ?_) (fun _ q => nomatch q)
      obtain ⟨p33, ep33, hf⟩ := xbind hf
      refine xb_callV (As := [.int (2 : Int32)]) (v0 := (some (.int p33))) (τ0 := σ) dX12_deriveTwo_236 (xc_X12_signBetween _ _) xcl12 xw_2746 xw_2748 xs_215 hb rfl (Nat.le_of_ble_eq_true rfl) rfl (Nat.le_of_ble_eq_true rfl) (fun Q1 hq => m_X12_signBetween (d := d + 1) ep33 (fun g hg => by subst hg; exact hq)) ?_
      refine xm_iconst dX12_deriveTwo_239 (v := 2) (by decide) ?_
      refine xm_iconst dX12_deriveTwo_240 (v := 2) (by decide) ?_
      refine xb_if hf (fun hb hf => ?_) (fun _ q => nomatch q)
      obtain ⟨p34, ep34, hf⟩ := xbind hf
      refine xb_callV (As := [.int (3 : Int32), .int p33, .int (2 : Int32), .int (2 : Int32)]) (v0 := none) (τ0 := p34) dX12_deriveTwo_241 (xc_X12_add _ _) xcl12 xw_2730 xw_2732 xs_211 hb rfl (Nat.le_of_ble_eq_true rfl) rfl (Nat.le_of_ble_eq_true rfl) (fun Q1 hq => m_X12_add (d := d + 1) ep34 (fun g hg => by subst hg; exact hq)) ?_
      refine xm_aload_n dX12_deriveTwo_244 rfl ?_
      refine xm_iconst dX12_deriveTwo_245 (v := 3) (by decide) ?_
      refine xm_aload_n dX12_deriveTwo_246 rfl ?_
      refine xm_iconst dX12_deriveTwo_247 (v := 2) (by decide) ?_
      refine xb_if hf (fun hb hf => ?_) (fun _ q => nomatch q)
      obtain ⟨p35, ep35, hf⟩ := xbind hf
      refine xb_callV (As := [.int (2 : Int32)]) (v0 := (some (.int p35))) (τ0 := p34) dX12_deriveTwo_248 (xc_X12_signBetween _ _) xcl12 xw_2746 xw_2748 xs_215 hb rfl (Nat.le_of_ble_eq_true rfl) rfl (Nat.le_of_ble_eq_true rfl) (fun Q1 hq => m_X12_signBetween (d := d + 1) ep35 (fun g hg => by subst hg; exact hq)) ?_
      refine xm_iconst dX12_deriveTwo_251 (v := 2) (by decide) ?_
      refine xm_iconst dX12_deriveTwo_252 (v := 2) (by decide) ?_
      refine xb_if hf (fun hb hf => ?_) (fun _ q => nomatch q)
      obtain ⟨p36, ep36, hf⟩ := xbind hf
      refine xb_callV (As := [.int (3 : Int32), .int p35, .int (2 : Int32), .int (2 : Int32)]) (v0 := none) (τ0 := p36) dX12_deriveTwo_253 (xc_X12_add _ _) xcl12 xw_2730 xw_2732 xs_211 hb rfl (Nat.le_of_ble_eq_true rfl) rfl (Nat.le_of_ble_eq_true rfl) (fun Q1 hq => m_X12_add (d := d + 1) ep36 (fun g hg => by subst hg; exact hq)) ?_
      refine xm_aload_n dX12_deriveTwo_256 rfl ?_
      refine xm_iconst dX12_deriveTwo_257 (v := 0) (by decide) ?_
      refine xm_aload_n dX12_deriveTwo_258 rfl ?_
      refine xb_getR (a := l0) (c := 12) (k := 5) dX12_deriveTwo_259 xcl12 (by decide) xw_1842 rfl hf (fun x37 ex37 hf => ?_)
      refine xm_iload dX12_deriveTwo_262 rfl ?_
      refine xb_iald dX12_deriveTwo_264 hf (fun x38 ex38 hf => ?_)
      refine xm_iconst dX12_deriveTwo_265 (v := -1) (by decide) ?_
      refine xm_iconst dX12_deriveTwo_266 (v := 0) (by decide) ?_
      refine xb_if hf (fun hb hf => ?_) (fun _ q => nomatch q)
      obtain ⟨p39, ep39, hf⟩ := xbind hf
      refine xb_callV (As := [.int (0 : Int32), .int x38, .int (-1 : Int32), .int (0 : Int32)]) (v0 := none) (τ0 := p39) dX12_deriveTwo_267 (xc_X12_add _ _) xcl12 xw_2730 xw_2732 xs_211 hb rfl (Nat.le_of_ble_eq_true rfl) rfl (Nat.le_of_ble_eq_true rfl) (fun Q1 hq => m_X12_add (d := d + 1) ep39 (fun g hg => by subst hg; exact hq)) ?_
      refine xm_aload_n dX12_deriveTwo_270 rfl ?_
      refine xm_iconst dX12_deriveTwo_271 (v := 3) (by decide) ?_
      refine xm_iload dX12_deriveTwo_272 rfl ?_
      refine xm_iconst dX12_deriveTwo_274 (v := 2) (by decide) ?_
      refine xm_iconst dX12_deriveTwo_275 (v := 2) (by decide) ?_
      refine xb_if hf (fun hb hf => ?_) (fun _ q => nomatch q)
      obtain ⟨p40, ep40, hf⟩ := xbind hf
      refine xb_callV (As := [.int (3 : Int32), .int x4, .int (2 : Int32), .int (2 : Int32)]) (v0 := none) (τ0 := p40) dX12_deriveTwo_276 (xc_X12_add _ _) xcl12 xw_2730 xw_2732 xs_211 hb rfl (Nat.le_of_ble_eq_true rfl) rfl (Nat.le_of_ble_eq_true rfl) (fun Q1 hq => m_X12_add (d := d + 1) ep40 (fun g hg => by subst hg; exact hq)) ?_
      refine xm_aload_n dX12_deriveTwo_279 rfl ?_
      refine xm_iload dX12_deriveTwo_280 rfl ?_
      refine xb_if hf (fun hb hf => ?_) (fun _ q => nomatch q)
      obtain ⟨p41, ep41, hf⟩ := xbind hf
      refine xb_callV (As := [.int v1]) (v0 := none) (τ0 := p41) dX12_deriveTwo_282 (xc_X12_addTree _ _) xcl12 xw_2750 xw_2752 xs_216 hb rfl (Nat.le_of_ble_eq_true rfl) rfl (Nat.le_of_ble_eq_true rfl) (fun Q1 hq => m_X12_addTree (d := d + 0) ep41 (fun g hg => by subst hg; exact hq)) ?_
      refine xm_aload_n dX12_deriveTwo_285 rfl ?_
      refine xm_iconst dX12_deriveTwo_286 (v := 0) (by decide) ?_
      refine xm_aload_n dX12_deriveTwo_287 rfl ?_
      refine xb_getR (a := l0) (c := 12) (k := 5) dX12_deriveTwo_288 xcl12 (by decide) xw_1842 rfl hf (fun x42 ex42 hf => ?_)
      refine xm_iload dX12_deriveTwo_291 rfl ?_
      refine xb_iald dX12_deriveTwo_293 hf (fun x43 ex43 hf => ?_)
      refine xm_iconst dX12_deriveTwo_294 (v := 1) (by decide) ?_
      refine xm_isub dX12_deriveTwo_295 ?_
      refine xm_iconst dX12_deriveTwo_296 (v := -1) (by decide) ?_
      refine xm_iconst dX12_deriveTwo_297 (v := 0) (by decide) ?_
      refine xb_if hf (fun hb hf => ?_) (fun _ q => nomatch q)
      obtain ⟨p44, ep44, hf⟩ := xbind hf
      refine xb_callV (As := [.int (0 : Int32), .int (x43 - (1 : Int32)), .int (-1 : Int32), .int (0 : Int32)]) (v0 := none) (τ0 := p44) dX12_deriveTwo_298 (xc_X12_add _ _) xcl12 xw_2730 xw_2732 xs_211 hb rfl (Nat.le_of_ble_eq_true rfl) rfl (Nat.le_of_ble_eq_true rfl) (fun Q1 hq => m_X12_add (d := d + 1) ep44 (fun g hg => by subst hg; exact hq)) ?_
      refine xm_aload_n dX12_deriveTwo_301 rfl ?_
      refine xm_iload dX12_deriveTwo_302 rfl ?_
      refine xm_iload_n dX12_deriveTwo_304 rfl ?_
      refine xb_if hf (fun hb hf => ?_) (fun _ q => nomatch q)
      obtain ⟨p45, ep45, hf⟩ := xbind hf
      refine xb_callV (As := [.int v1, .int l2]) (v0 := none) (τ0 := p45) dX12_deriveTwo_305 (xc_X12_addDerived _ _) xcl12 xw_2734 xw_2736 xs_212 hb rfl (Nat.le_of_ble_eq_true rfl) rfl (Nat.le_of_ble_eq_true rfl) (fun Q1 hq => m_X12_addDerived (d := d + 0) ep45 (fun g hg => by subst hg; exact hq)) ?_
      refine xm_goto 334 dX12_deriveTwo_308 (by decide) ?_
      exact xm_sub [] rfl (L_X12_deriveTwo_j334 p45 hf hR)
    · refine xm_aload_n dX12_deriveTwo_221 rfl ?_
      refine xm_iconst dX12_deriveTwo_222 (v := 0) (by decide) ?_
      refine xm_iconst dX12_deriveTwo_223 (v := 0) (by decide) ?_
      refine xm_iconst dX12_deriveTwo_224 (v := -1) (by decide) ?_
      refine xm_iconst dX12_deriveTwo_225 (v := 0) (by decide) ?_
      refine xb_if hf (fun hb hf => ?_) (fun _ q => nomatch q)
      obtain ⟨p46, ep46, hf⟩ := xbind hf
      refine xb_callV (As := [.int (0 : Int32), .int (0 : Int32), .int (-1 : Int32), .int (0 : Int32)]) (v0 := none) (τ0 := p46) dX12_deriveTwo_226 (xc_X12_add _ _) xcl12 xw_2730 xw_2732 xs_211 hb rfl (Nat.le_of_ble_eq_true rfl) rfl (Nat.le_of_ble_eq_true rfl) (fun Q1 hq => m_X12_add (d := d + 1) ep46 (fun g hg => by subst hg; exact hq)) ?_
      refine xm_goto 334 dX12_deriveTwo_229 (by decide) ?_
      exact xm_sub [] rfl (L_X12_deriveTwo_j334 p46 hf hR)
  refine xm_tableOut 311 dX12_deriveTwo_22 (by have q0 := lv_neT (a := 2) n0 (by decide); have q1 := lv_neT (a := 3) n1 (by decide); have q2 := lv_neT (a := 4) n2 (by decide); have q3 := lv_neT (a := 5) n3 (by decide); omega) (by decide) ?_
  exact xm_sub [3, 5, 2, 1, 0] rfl (L_X12_deriveTwo_j311 σ l0 l2 v1 p2 x4 hf hR)
-- RankwiseModel.derives(II)I
def f_X12_derives_j190 (σ : xM) (l0 : Nat) (l1 : Int32) (l2 : Int32) (l3 : Int32) (l4 : Int32) : Option ((Int32 × xM) ⊕ ((Nat × xM) ⊕ (Nat × Int32 × Int32 × Int32 × Int32 × xM))) :=
  xlet (l4 + (1 : Int32)) (fun v18 => some (Sum.inr (Sum.inr (l0, l1, l2, l3, v18, σ))))
set_option maxHeartbeats 4000000 in
set_option maxRecDepth 20000 in
theorem L_X12_derives_j190 {G : xG} {π : Nat → Nat} {d C Z : Nat} {Q : xQ} (σ : xM) (l0 : Nat) (l1 : Int32) (l2 : Int32) (l3 : Int32) (l4 : Int32) {x : ((Int32 × xM) ⊕ ((Nat × xM) ⊕ (Nat × Int32 × Int32 × Int32 × Int32 × xM)))} (hf : f_X12_derives_j190 σ l0 l1 l2 l3 l4 = some x) (hR : ∀ g, x = Sum.inl (g) → Q (.inl (some (.int g.1))) (g.2) π) (hE : ∀ e : (Nat × xM), x = Sum.inr (Sum.inl e) → xMach G π J_X12_derives (d + 4) C Z 196 [(0, .ref e.1)] [] e.2 Q) (hC : ∀ e : (Nat × Int32 × Int32 × Int32 × Int32 × xM), x = Sum.inr (Sum.inr e) → xMach G π J_X12_derives (d + 4) C Z 19 [(0, .ref e.1), (1, .int e.2.1), (2, .int e.2.2.1), (3, .int e.2.2.2.1), (4, .int e.2.2.2.2.1)] [] e.2.2.2.2.2 Q) : xMach G π J_X12_derives (d + 4) C Z 190 [(0, .ref l0), (1, .int l1), (2, .int l2), (3, .int l3), (4, .int l4)] [] σ Q := by
  unfold f_X12_derives_j190 at hf
  refine xb_iinc dX12_derives_190 rfl (by decide) (by decide) hf (fun v18 ev18 hf => xm_stL (L' := [(4, .int v18), (0, .ref l0), (1, .int l1), (2, .int l2), (3, .int l3)]) rfl ?_)
  refine xm_goto 19 dX12_derives_193 (by decide) ?_
  cases hf
  exact xm_sub [1, 2, 3, 4, 0] rfl (hC _ rfl)
def f_X12_derives_j158 (σ : xM) (l0 : Nat) (l1 : Int32) (l2 : Int32) (l3 : Int32) (l4 : Int32) (l5 : Int32) : Option ((Int32 × xM) ⊕ ((Nat × xM) ⊕ (Nat × Int32 × Int32 × Int32 × Int32 × xM))) :=
  (gR σ l0 12 73).bind (fun x14 => (gI σ l0 12 75).bind (fun x15 => (wI σ x14 (l5 - l1) x15).bind (fun σ16 => (gI σ16 l0 12 75).bind (fun x17 => (if x17 ≤ (0 : Int32) then f_X12_derives_j190 σ16 l0 l1 l2 l3 l4 else (gI σ16 l0 12 74).bind (fun x19 => (gI σ16 l0 12 75).bind (fun x20 => (if xk σ16 l0 12 = true then (f_X12_span σ16 l0 x19 x20).bind (fun p21 => f_X12_derives_j190 p21 l0 l1 l2 l3 l4) else none))))))))
set_option maxHeartbeats 4000000 in
set_option maxRecDepth 20000 in
theorem L_X12_derives_j158 {G : xG} {π : Nat → Nat} {d C Z : Nat} {Q : xQ} (σ : xM) (l0 : Nat) (l1 : Int32) (l2 : Int32) (l3 : Int32) (l4 : Int32) (l5 : Int32) {x : ((Int32 × xM) ⊕ ((Nat × xM) ⊕ (Nat × Int32 × Int32 × Int32 × Int32 × xM)))} (hf : f_X12_derives_j158 σ l0 l1 l2 l3 l4 l5 = some x) (hR : ∀ g, x = Sum.inl (g) → Q (.inl (some (.int g.1))) (g.2) π) (hE : ∀ e : (Nat × xM), x = Sum.inr (Sum.inl e) → xMach G π J_X12_derives (d + 4) C Z 196 [(0, .ref e.1)] [] e.2 Q) (hC : ∀ e : (Nat × Int32 × Int32 × Int32 × Int32 × xM), x = Sum.inr (Sum.inr e) → xMach G π J_X12_derives (d + 4) C Z 19 [(0, .ref e.1), (1, .int e.2.1), (2, .int e.2.2.1), (3, .int e.2.2.2.1), (4, .int e.2.2.2.2.1)] [] e.2.2.2.2.2 Q) : xMach G π J_X12_derives (d + 4) C Z 158 [(0, .ref l0), (1, .int l1), (2, .int l2), (3, .int l3), (4, .int l4), (5, .int l5)] [] σ Q := by
  unfold f_X12_derives_j158 at hf
  refine xm_aload_n dX12_derives_158 rfl ?_
  refine xb_getR (a := l0) (c := 12) (k := 73) dX12_derives_159 xcl12 (by decide) xw_1910 rfl hf (fun x14 ex14 hf => ?_)
  refine xm_iload dX12_derives_162 rfl ?_
  refine xm_iload_n dX12_derives_164 rfl ?_
  refine xm_isub dX12_derives_165 ?_
  refine xm_aload_n dX12_derives_166 rfl ?_
  refine xb_getI (a := l0) (c := 12) (k := 75) dX12_derives_167 xcl12 (by decide) xw_1912 rfl hf (fun x15 ex15 hf => ?_)
  refine xb_iast dX12_derives_170 hf (fun σ16 eσ16 hf => ?_)
  refine xm_aload_n dX12_derives_171 rfl ?_
  refine xb_getI (a := l0) (c := 12) (k := 75) dX12_derives_172 xcl12 (by decide) xw_1912 rfl hf (fun x17 ex17 hf => ?_)
  refine xb_if_le 190 dX12_derives_175 (by decide) hf (fun c hf => ?_) (fun c hf => ?_)
  · exact xm_sub [0, 1, 2, 3, 4] rfl (L_X12_derives_j190 σ16 l0 l1 l2 l3 l4 hf hR hE hC)
  · refine xm_aload_n dX12_derives_178 rfl ?_
    refine xm_aload_n dX12_derives_179 rfl ?_
    refine xb_getI (a := l0) (c := 12) (k := 74) dX12_derives_180 xcl12 (by decide) xw_1911 rfl hf (fun x19 ex19 hf => ?_)
    refine xm_aload_n dX12_derives_183 rfl ?_
    refine xb_getI (a := l0) (c := 12) (k := 75) dX12_derives_184 xcl12 (by decide) xw_1912 rfl hf (fun x20 ex20 hf => ?_)
    refine xb_if hf (fun hb hf => ?_) (fun _ q => nomatch q)
    obtain ⟨p21, ep21, hf⟩ := xbind hf
    refine xb_callV (As := [.int x19, .int x20]) (v0 := none) (τ0 := p21) dX12_derives_187 (xc_X12_span _ _) xcl12 xw_2206 xw_2208 xs_109 hb rfl (Nat.le_of_ble_eq_true rfl) rfl (Nat.le_of_ble_eq_true rfl) (fun Q1 hq => m_X12_span (d := d + 3) ep21 (fun g hg => by subst hg; exact hq)) ?_
    exact xm_sub [0, 1, 2, 3, 4] rfl (L_X12_derives_j190 p21 l0 l1 l2 l3 l4 hf hR hE hC)
def f_X12_derives_j94 (σ : xM) (l0 : Nat) (l1 : Int32) (l2 : Int32) (l3 : Int32) (l4 : Int32) (l5 : Int32) (s0 : Int32) (s1 : Int32) (s2 : Nat) : Option ((Int32 × xM) ⊕ ((Nat × xM) ⊕ (Nat × Int32 × Int32 × Int32 × Int32 × xM))) :=
  (if xk σ s2 12 = true then (f_X12_add σ s2 s1 s0 (-1 : Int32) (0 : Int32)).bind (fun p30 => f_X12_derives_j158 p30 l0 l1 l2 l3 l4 l5) else none)
set_option maxHeartbeats 4000000 in
set_option maxRecDepth 20000 in
theorem L_X12_derives_j94 {G : xG} {π : Nat → Nat} {d C Z : Nat} {Q : xQ} (σ : xM) (l0 : Nat) (l1 : Int32) (l2 : Int32) (l3 : Int32) (l4 : Int32) (l5 : Int32) (s0 : Int32) (s1 : Int32) (s2 : Nat) {x : ((Int32 × xM) ⊕ ((Nat × xM) ⊕ (Nat × Int32 × Int32 × Int32 × Int32 × xM)))} (hf : f_X12_derives_j94 σ l0 l1 l2 l3 l4 l5 s0 s1 s2 = some x) (hR : ∀ g, x = Sum.inl (g) → Q (.inl (some (.int g.1))) (g.2) π) (hE : ∀ e : (Nat × xM), x = Sum.inr (Sum.inl e) → xMach G π J_X12_derives (d + 4) C Z 196 [(0, .ref e.1)] [] e.2 Q) (hC : ∀ e : (Nat × Int32 × Int32 × Int32 × Int32 × xM), x = Sum.inr (Sum.inr e) → xMach G π J_X12_derives (d + 4) C Z 19 [(0, .ref e.1), (1, .int e.2.1), (2, .int e.2.2.1), (3, .int e.2.2.2.1), (4, .int e.2.2.2.2.1)] [] e.2.2.2.2.2 Q) : xMach G π J_X12_derives (d + 4) C Z 94 [(0, .ref l0), (1, .int l1), (2, .int l2), (3, .int l3), (4, .int l4), (5, .int l5)] [.int s0, .int s1, .ref s2] σ Q := by
  unfold f_X12_derives_j94 at hf
  refine xm_iconst dX12_derives_94 (v := -1) (by decide) ?_
  refine xm_iconst dX12_derives_95 (v := 0) (by decide) ?_
  refine xb_if hf (fun hb hf => ?_) (fun _ q => nomatch q)
  obtain ⟨p30, ep30, hf⟩ := xbind hf
  refine xb_callV (As := [.int s1, .int s0, .int (-1 : Int32), .int (0 : Int32)]) (v0 := none) (τ0 := p30) dX12_derives_96 (xc_X12_add _ _) xcl12 xw_2730 xw_2732 xs_211 hb rfl (Nat.le_of_ble_eq_true rfl) rfl (Nat.le_of_ble_eq_true rfl) (fun Q1 hq => m_X12_add (d := d + 2) ep30 (fun g hg => by subst hg; exact hq)) ?_
  refine xm_goto 158 dX12_derives_99 (by decide) ?_
  exact xm_sub [0, 1, 2, 3, 4, 5] rfl (L_X12_derives_j158 p30 l0 l1 l2 l3 l4 l5 hf hR hE hC)
def f_X12_derives_j93 (σ : xM) (l0 : Nat) (l1 : Int32) (l2 : Int32) (l3 : Int32) (l4 : Int32) (l5 : Int32) (s0 : Int32) (s1 : Nat) : Option ((Int32 × xM) ⊕ ((Nat × xM) ⊕ (Nat × Int32 × Int32 × Int32 × Int32 × xM))) :=
  f_X12_derives_j94 σ l0 l1 l2 l3 l4 l5 (0 : Int32) s0 s1
set_option maxHeartbeats 4000000 in
set_option maxRecDepth 20000 in
theorem L_X12_derives_j93 {G : xG} {π : Nat → Nat} {d C Z : Nat} {Q : xQ} (σ : xM) (l0 : Nat) (l1 : Int32) (l2 : Int32) (l3 : Int32) (l4 : Int32) (l5 : Int32) (s0 : Int32) (s1 : Nat) {x : ((Int32 × xM) ⊕ ((Nat × xM) ⊕ (Nat × Int32 × Int32 × Int32 × Int32 × xM)))} (hf : f_X12_derives_j93 σ l0 l1 l2 l3 l4 l5 s0 s1 = some x) (hR : ∀ g, x = Sum.inl (g) → Q (.inl (some (.int g.1))) (g.2) π) (hE : ∀ e : (Nat × xM), x = Sum.inr (Sum.inl e) → xMach G π J_X12_derives (d + 4) C Z 196 [(0, .ref e.1)] [] e.2 Q) (hC : ∀ e : (Nat × Int32 × Int32 × Int32 × Int32 × xM), x = Sum.inr (Sum.inr e) → xMach G π J_X12_derives (d + 4) C Z 19 [(0, .ref e.1), (1, .int e.2.1), (2, .int e.2.2.1), (3, .int e.2.2.2.1), (4, .int e.2.2.2.2.1)] [] e.2.2.2.2.2 Q) : xMach G π J_X12_derives (d + 4) C Z 93 [(0, .ref l0), (1, .int l1), (2, .int l2), (3, .int l3), (4, .int l4), (5, .int l5)] [.int s0, .ref s1] σ Q := by
  unfold f_X12_derives_j93 at hf
  refine xm_iconst dX12_derives_93 (v := 0) (by decide) ?_
  exact xm_sub [0, 1, 2, 3, 4, 5] rfl (L_X12_derives_j94 σ l0 l1 l2 l3 l4 l5 (0 : Int32) s0 s1 hf hR hE hC)
def f_X12_derives_s19 (s : (Nat × Int32 × Int32 × Int32 × Int32 × xM)) : Option ((Int32 × xM) ⊕ ((Nat × xM) ⊕ (Nat × Int32 × Int32 × Int32 × Int32 × xM))) :=
  xlet s.1 (fun l0 => xlet s.2.1 (fun l1 => xlet s.2.2.1 (fun l2 => xlet s.2.2.2.1 (fun l3 => xlet s.2.2.2.2.1 (fun l4 => xlet s.2.2.2.2.2 (fun σ => (if l3 ≤ l4 then some (Sum.inr (Sum.inl (l0, σ))) else (gR σ l0 12 14).bind (fun x4 => (aI σ x4 14 l4).bind (fun x5 => (sI σ l0 12 74 ((13740 : Int32) + ((80 : Int32) * (x5 - l1)))).bind (fun σ6 => (sI σ6 l0 12 75 (0 : Int32)).bind (fun σ7 => (gR σ7 l0 12 4).bind (fun x8 => (aI σ7 x8 14 x5).bind (fun x9 => (if x9 = (3 : Int32) then (gR σ7 l0 12 7).bind (fun x10 => (aI σ7 x10 14 x5).bind (fun x11 => (if x11 = (1 : Int32) then (gR σ7 l0 12 5).bind (fun x22 => (aI σ7 x22 14 x5).bind (fun x23 => (gR σ7 l0 12 6).bind (fun x24 => (aI σ7 x24 14 x5).bind (fun x25 => (if xk σ7 l0 12 = true then (f_X12_add σ7 l0 (3 : Int32) x23 x25 (1 : Int32)).bind (fun p26 => (if xk p26 l0 12 = true then (f_X12_addDerived p26 l0 (x5 + (1 : Int32)) l1).bind (fun p27 => f_X12_derives_j158 p27 l0 l1 l2 l3 l4 x5) else none)) else none))))) else (if xk σ7 l0 12 = true then (f_X12_meaningAt σ7 l0 x5).bind (fun p12 => (if xk σ7 l0 12 = true then (f_X12_deriveTwo σ7 l0 x5 l1 p12).bind (fun p13 => f_X12_derives_j158 p13 l0 l1 l2 l3 l4 x5) else none)) else none)))) else (gR σ7 l0 12 4).bind (fun x28 => (aI σ7 x28 14 x5).bind (fun x29 => (if x29 = (1 : Int32) then (gR σ7 l0 12 5).bind (fun x31 => (aI σ7 x31 14 x5).bind (fun x32 => (if x32 = l2 then f_X12_derives_j94 σ7 l0 l1 l2 l3 l4 x5 (1 : Int32) (0 : Int32) l0 else f_X12_derives_j93 σ7 l0 l1 l2 l3 l4 x5 (0 : Int32) l0))) else f_X12_derives_j93 σ7 l0 l1 l2 l3 l4 x5 (0 : Int32) l0)))))))))))))))))
set_option maxHeartbeats 4000000 in
set_option maxRecDepth 20000 in
theorem L_X12_derives_s19 {G : xG} {π : Nat → Nat} {d C Z : Nat} {Q : xQ} (σ : xM) (l0 : Nat) (l1 : Int32) (l2 : Int32) (l3 : Int32) (l4 : Int32) {x : ((Int32 × xM) ⊕ ((Nat × xM) ⊕ (Nat × Int32 × Int32 × Int32 × Int32 × xM)))} (hf : f_X12_derives_s19 (l0, l1, l2, l3, l4, σ) = some x) (hR : ∀ g, x = Sum.inl (g) → Q (.inl (some (.int g.1))) (g.2) π) (hE : ∀ e : (Nat × xM), x = Sum.inr (Sum.inl e) → xMach G π J_X12_derives (d + 4) C Z 196 [(0, .ref e.1)] [] e.2 Q) (hC : ∀ e : (Nat × Int32 × Int32 × Int32 × Int32 × xM), x = Sum.inr (Sum.inr e) → xMach G π J_X12_derives (d + 4) C Z 19 [(0, .ref e.1), (1, .int e.2.1), (2, .int e.2.2.1), (3, .int e.2.2.2.1), (4, .int e.2.2.2.2.1)] [] e.2.2.2.2.2 Q) : xMach G π J_X12_derives (d + 4) C Z 19 [(0, .ref l0), (1, .int l1), (2, .int l2), (3, .int l3), (4, .int l4)] [] σ Q := by
  have hf : (if l3 ≤ l4 then some (Sum.inr (Sum.inl (l0, σ))) else (gR σ l0 12 14).bind (fun x4 => (aI σ x4 14 l4).bind (fun x5 => (sI σ l0 12 74 ((13740 : Int32) + ((80 : Int32) * (x5 - l1)))).bind (fun σ6 => (sI σ6 l0 12 75 (0 : Int32)).bind (fun σ7 => (gR σ7 l0 12 4).bind (fun x8 => (aI σ7 x8 14 x5).bind (fun x9 => (if x9 = (3 : Int32) then (gR σ7 l0 12 7).bind (fun x10 => (aI σ7 x10 14 x5).bind (fun x11 => (if x11 = (1 : Int32) then (gR σ7 l0 12 5).bind (fun x22 => (aI σ7 x22 14 x5).bind (fun x23 => (gR σ7 l0 12 6).bind (fun x24 => (aI σ7 x24 14 x5).bind (fun x25 => (if xk σ7 l0 12 = true then (f_X12_add σ7 l0 (3 : Int32) x23 x25 (1 : Int32)).bind (fun p26 => (if xk p26 l0 12 = true then (f_X12_addDerived p26 l0 (x5 + (1 : Int32)) l1).bind (fun p27 => f_X12_derives_j158 p27 l0 l1 l2 l3 l4 x5) else none)) else none))))) else (if xk σ7 l0 12 = true then (f_X12_meaningAt σ7 l0 x5).bind (fun p12 => (if xk σ7 l0 12 = true then (f_X12_deriveTwo σ7 l0 x5 l1 p12).bind (fun p13 => f_X12_derives_j158 p13 l0 l1 l2 l3 l4 x5) else none)) else none)))) else (gR σ7 l0 12 4).bind (fun x28 => (aI σ7 x28 14 x5).bind (fun x29 => (if x29 = (1 : Int32) then (gR σ7 l0 12 5).bind (fun x31 => (aI σ7 x31 14 x5).bind (fun x32 => (if x32 = l2 then f_X12_derives_j94 σ7 l0 l1 l2 l3 l4 x5 (1 : Int32) (0 : Int32) l0 else f_X12_derives_j93 σ7 l0 l1 l2 l3 l4 x5 (0 : Int32) l0))) else f_X12_derives_j93 σ7 l0 l1 l2 l3 l4 x5 (0 : Int32) l0))))))))))) = some x := hf
  refine xm_iload dX12_derives_19 rfl ?_
  refine xm_iload_n dX12_derives_21 rfl ?_
  refine xb_icmp_ge 196 dX12_derives_22 (by decide) hf (fun c hf => ?_) (fun c hf => ?_)
  · cases hf
    exact xm_sub [0] rfl (hE _ rfl)
  · refine xm_aload_n dX12_derives_25 rfl ?_
    refine xb_getR (a := l0) (c := 12) (k := 14) dX12_derives_26 xcl12 (by decide) xw_1851 rfl hf (fun x4 ex4 hf => ?_)
    refine xm_iload dX12_derives_29 rfl ?_
    refine xb_iald dX12_derives_31 hf (fun x5 ex5 hf => ?_)
    refine xm_istore dX12_derives_32 (by decide) (xm_stL (L' := [(5, .int x5), (0, .ref l0), (1, .int l1), (2, .int l2), (3, .int l3), (4, .int l4)]) rfl ?_)
    refine xm_aload_n dX12_derives_34 rfl ?_
    refine xm_sipush dX12_derives_35 (v := 13740) (by decide) ?_
    refine xm_bipush dX12_derives_38 (v := 80) (by decide) ?_
    refine xm_iload dX12_derives_40 rfl ?_
    refine xm_iload_n dX12_derives_42 rfl ?_
    refine xm_isub dX12_derives_43 ?_
    refine xm_imul dX12_derives_44 ?_
    refine xm_iadd dX12_derives_45 ?_
    refine xb_putI (a := l0) (c := 12) (k := 74) dX12_derives_46 xcl12 (by decide) xw_1911 rfl rfl hf (fun σ6 eσ6 hf => ?_)
    refine xm_aload_n dX12_derives_49 rfl ?_
    refine xm_iconst dX12_derives_50 (v := 0) (by decide) ?_
    refine xb_putI (a := l0) (c := 12) (k := 75) dX12_derives_51 xcl12 (by decide) xw_1912 rfl rfl hf (fun σ7 eσ7 hf => ?_)
    refine xm_aload_n dX12_derives_54 rfl ?_
    refine xb_getR (a := l0) (c := 12) (k := 4) dX12_derives_55 xcl12 (by decide) xw_1841 rfl hf (fun x8 ex8 hf => ?_)
    refine xm_iload dX12_derives_58 rfl ?_
    refine xb_iald dX12_derives_60 hf (fun x9 ex9 hf => ?_)
    refine xm_iconst dX12_derives_61 (v := 3) (by decide) ?_
    refine xb_icmp_eq 102 dX12_derives_62 (by decide) hf (fun c hf => ?_) (fun c hf => ?_)
    · refine xm_aload_n dX12_derives_102 rfl ?_
      refine xb_getR (a := l0) (c := 12) (k := 7) dX12_derives_103 xcl12 (by decide) xw_1844 rfl hf (fun x10 ex10 hf => ?_)
      refine xm_iload dX12_derives_106 rfl ?_
      refine xb_iald dX12_derives_108 hf (fun x11 ex11 hf => ?_)
      refine xm_iconst dX12_derives_109 (v := 1) (by decide) ?_
      refine xb_icmp_ne 145 dX12_derives_110 (by decide) hf (fun c hf => ?_) (fun c hf => ?_)
      · refine xm_aload_n dX12_derives_145 rfl ?_
        refine xm_iload dX12_derives_146 rfl ?_
        refine xm_iload_n dX12_derives_148 rfl ?_
        refine xm_aload_n dX12_derives_149 rfl ?_
        refine xm_iload dX12_derives_150 rfl ?_
        refine xb_if hf (fun hb hf => ?_) (fun _ q => nomatch q)
        obtain ⟨p12, ep12, hf⟩ := xbind hf
        refine xb_callV (As := [.int x5]) (v0 := (some (.int p12))) (τ0 := σ7) dX12_derives_152 (xc_X12_meaningAt _ _) xcl12 xw_2504 xw_2506 xs_169 hb rfl (Nat.le_of_ble_eq_true rfl) rfl (Nat.le_of_ble_eq_true rfl) (fun Q1 hq => m_X12_meaningAt (d := d + 2) ep12 (fun g hg => by subst hg; exact hq)) ?_
        refine xb_if hf (fun hb hf => ?_) (fun _ q => nomatch q)
        obtain ⟨p13, ep13, hf⟩ := xbind hf
        refine xb_callV (As := [.int x5, .int l1, .int p12]) (v0 := none) (τ0 := p13) dX12_derives_155 (xc_X12_deriveTwo _ _) xcl12 xw_2742 xw_2744 xs_214 hb rfl (Nat.le_of_ble_eq_true rfl) rfl (Nat.le_of_ble_eq_true rfl) (fun Q1 hq => m_X12_deriveTwo (d := d + 0) ep13 (fun g hg => by subst hg; exact hq)) ?_
        exact xm_sub [1, 2, 3, 4, 5, 0] rfl (L_X12_derives_j158 p13 l0 l1 l2 l3 l4 x5 hf hR hE hC)
      · refine xm_aload_n dX12_derives_113 rfl ?_
        refine xm_iconst dX12_derives_114 (v := 3) (by decide) ?_
        refine xm_aload_n dX12_derives_115 rfl ?_
        refine xb_getR (a := l0) (c := 12) (k := 5) dX12_derives_116 xcl12 (by decide) xw_1842 rfl hf (fun x22 ex22 hf => ?_)
        refine xm_iload dX12_derives_119 rfl ?_
        refine xb_iald dX12_derives_121 hf (fun x23 ex23 hf => ?_)
        refine xm_aload_n dX12_derives_122 rfl ?_
        refine xb_getR (a := l0) (c := 12) (k := 6) dX12_derives_123 xcl12 (by decide) xw_1843 rfl hf (fun x24 ex24 hf => ?_)
        refine xm_iload dX12_derives_126 rfl ?_
        refine xb_iald dX12_derives_128 hf (fun x25 ex25 hf => ?_)
        refine xm_iconst dX12_derives_129 (v := 1) (by decide) ?_
        refine xb_if hf (fun hb hf => ?_) (fun _ q => nomatch q)
        obtain ⟨p26, ep26, hf⟩ := xbind hf
        refine xb_callV (As := [.int (3 : Int32), .int x23, .int x25, .int (1 : Int32)]) (v0 := none) (τ0 := p26) dX12_derives_130 (xc_X12_add _ _) xcl12 xw_2730 xw_2732 xs_211 hb rfl (Nat.le_of_ble_eq_true rfl) rfl (Nat.le_of_ble_eq_true rfl) (fun Q1 hq => m_X12_add (d := d + 2) ep26 (fun g hg => by subst hg; exact hq)) ?_
        refine xm_aload_n dX12_derives_133 rfl ?_
        refine xm_iload dX12_derives_134 rfl ?_
        refine xm_iconst dX12_derives_136 (v := 1) (by decide) ?_
        refine xm_iadd dX12_derives_137 ?_
        refine xm_iload_n dX12_derives_138 rfl ?_
        refine xb_if hf (fun hb hf => ?_) (fun _ q => nomatch q)
        obtain ⟨p27, ep27, hf⟩ := xbind hf
        refine xb_callV (As := [.int (x5 + (1 : Int32)), .int l1]) (v0 := none) (τ0 := p27) dX12_derives_139 (xc_X12_addDerived _ _) xcl12 xw_2734 xw_2736 xs_212 hb rfl (Nat.le_of_ble_eq_true rfl) rfl (Nat.le_of_ble_eq_true rfl) (fun Q1 hq => m_X12_addDerived (d := d + 1) ep27 (fun g hg => by subst hg; exact hq)) ?_
        refine xm_goto 158 dX12_derives_142 (by decide) ?_
        exact xm_sub [1, 2, 3, 4, 5, 0] rfl (L_X12_derives_j158 p27 l0 l1 l2 l3 l4 x5 hf hR hE hC)
    · refine xm_aload_n dX12_derives_65 rfl ?_
      refine xm_iconst dX12_derives_66 (v := 0) (by decide) ?_
      refine xm_aload_n dX12_derives_67 rfl ?_
      refine xb_getR (a := l0) (c := 12) (k := 4) dX12_derives_68 xcl12 (by decide) xw_1841 rfl hf (fun x28 ex28 hf => ?_)
      refine xm_iload dX12_derives_71 rfl ?_
      refine xb_iald dX12_derives_73 hf (fun x29 ex29 hf => ?_)
      refine xm_iconst dX12_derives_74 (v := 1) (by decide) ?_
      refine xb_icmp_ne 93 dX12_derives_75 (by decide) hf (fun c hf => ?_) (fun c hf => ?_)
      · exact xm_sub [1, 2, 3, 4, 5, 0] rfl (L_X12_derives_j93 σ7 l0 l1 l2 l3 l4 x5 (0 : Int32) l0 hf hR hE hC)
      · refine xm_aload_n dX12_derives_78 rfl ?_
        refine xb_getR (a := l0) (c := 12) (k := 5) dX12_derives_79 xcl12 (by decide) xw_1842 rfl hf (fun x31 ex31 hf => ?_)
        refine xm_iload dX12_derives_82 rfl ?_
        refine xb_iald dX12_derives_84 hf (fun x32 ex32 hf => ?_)
        refine xm_iload_n dX12_derives_85 rfl ?_
        refine xb_icmp_ne 93 dX12_derives_86 (by decide) hf (fun c hf => ?_) (fun c hf => ?_)
        · exact xm_sub [1, 2, 3, 4, 5, 0] rfl (L_X12_derives_j93 σ7 l0 l1 l2 l3 l4 x5 (0 : Int32) l0 hf hR hE hC)
        · refine xm_iconst dX12_derives_89 (v := 1) (by decide) ?_
          refine xm_goto 94 dX12_derives_90 (by decide) ?_
          exact xm_sub [1, 2, 3, 4, 5, 0] rfl (L_X12_derives_j94 σ7 l0 l1 l2 l3 l4 x5 (1 : Int32) (0 : Int32) l0 hf hR hE hC)
theorem L_X12_derives_l19 {G : xG} {π : Nat → Nat} {d C Z : Nat} {Q : xQ} {s0 : (Nat × Int32 × Int32 × Int32 × Int32 × xM)} {x : ((Int32 × xM) ⊕ (Nat × xM))} (h1 : xloop (f_X12_derives_s19) xF s0 = some x) (hR : ∀ g, x = Sum.inl g → Q (.inl (some (.int g.1))) (g.2) π) (hE : ∀ e : (Nat × xM), x = Sum.inr e → xMach G π J_X12_derives (d + 4) C Z 196 [(0, .ref e.1)] [] e.2 Q) : xMach G π J_X12_derives (d + 4) C Z 19 [(0, .ref s0.1), (1, .int s0.2.1), (2, .int s0.2.2.1), (3, .int s0.2.2.2.1), (4, .int s0.2.2.2.2.1)] [] s0.2.2.2.2.2 Q := by
  refine xloop_run (M := (fun s : (Nat × Int32 × Int32 × Int32 × Int32 × xM) => xMach G π J_X12_derives (d + 4) C Z 19 [(0, .ref s.1), (1, .int s.2.1), (2, .int s.2.2.1), (3, .int s.2.2.2.1), (4, .int s.2.2.2.2.1)] [] s.2.2.2.2.2 Q)) (r := x) ?_ xF _ h1
  intro s y hs hx
  exact L_X12_derives_s19 s.2.2.2.2.2 s.1 s.2.1 s.2.2.1 s.2.2.2.1 s.2.2.2.2.1 (x := y) hs (fun g hg => by subst hg; exact hR g hx) (fun e he => by subst he; exact hE e hx) (fun e he => by subst he; exact hx)
def f_X12_derives_j196 (σ : xM) (l0 : Nat) : Option (Int32 × xM) :=
  (gR σ l0 12 73).bind (fun x33 => (aI σ x33 14 (0 : Int32)).bind (fun x34 => some (x34, σ)))
set_option maxHeartbeats 4000000 in
set_option maxRecDepth 20000 in
theorem L_X12_derives_j196 {G : xG} {π : Nat → Nat} {d C Z : Nat} {Q : xQ} (σ : xM) (l0 : Nat) {x : (Int32 × xM)} (hf : f_X12_derives_j196 σ l0 = some x) (hR : ∀ g, x = g → Q (.inl (some (.int g.1))) (g.2) π) : xMach G π J_X12_derives (d + 4) C Z 196 [(0, .ref l0)] [] σ Q := by
  unfold f_X12_derives_j196 at hf
  refine xm_aload_n dX12_derives_196 rfl ?_
  refine xb_getR (a := l0) (c := 12) (k := 73) dX12_derives_197 xcl12 (by decide) xw_1910 rfl hf (fun x33 ex33 hf => ?_)
  refine xm_iconst dX12_derives_200 (v := 0) (by decide) ?_
  refine xb_iald dX12_derives_201 hf (fun x34 ex34 hf => ?_)
  cases hf
  exact xm_iret dX12_derives_202 rfl (hR _ rfl)
def f_X12_derives (σ : xM) (l0 : Nat) (l1 : Int32) (l2 : Int32) : Option (Int32 × xM) :=
  (if xk σ l0 12 = true then (f_X12_areTold σ l0 l1).bind (fun p1 => (if p1 = (0 : Int32) then some ((-1 : Int32), σ) else (if xk σ l0 12 = true then (f_X12_inOrder σ l0 l1).bind (fun p2 => xlet (0 : Int32) (fun v3 => (xloop (f_X12_derives_s19 ) xF (l0, l1, l2, p2.1, v3, p2.2)).bind (Sum.elim (fun g => some g) (fun e => f_X12_derives_j196 e.2 e.1)))) else none))) else none)
set_option maxHeartbeats 4000000 in
set_option maxRecDepth 20000 in
theorem m_X12_derives {G : xG} {π : Nat → Nat} {d C Z : Nat} {Q : xQ} {σ : xM} {l0 : Nat} {l1 : Int32} {l2 : Int32} {x : (Int32 × xM)} (hf : f_X12_derives σ l0 l1 l2 = some x) (hR : ∀ g, x = g → Q (.inl (some (.int g.1))) (g.2) π) : xMach G π J_X12_derives (d + 4) C Z 0 (lv_args 0 [.ref l0, .int l1, .int l2]) [] σ Q := by
  unfold f_X12_derives at hf
  refine xm_stL (L' := [(0, .ref l0), (1, .int l1), (2, .int l2)]) rfl ?_
  refine xm_aload_n dX12_derives_0 rfl ?_
  refine xm_iload_n dX12_derives_1 rfl ?_
  refine xb_if hf (fun hb hf => ?_) (fun _ q => nomatch q)
  obtain ⟨p1, ep1, hf⟩ := xbind hf
  refine xb_callV (As := [.int l1]) (v0 := (some (.int p1))) (τ0 := σ) dX12_derives_2 (xc_X12_areTold _ _) xcl12 xw_2722 xw_2724 xs_209 hb rfl (Nat.le_of_ble_eq_true rfl) rfl (Nat.le_of_ble_eq_true rfl) (fun Q1 hq => m_X12_areTold (d := d + 0) ep1 (fun g hg => by subst hg; exact hq)) ?_
  refine xb_if_ne 10 dX12_derives_5 (by decide) hf (fun c hf => ?_) (fun c hf => ?_)
  · refine xm_aload_n dX12_derives_10 rfl ?_
    refine xm_iload_n dX12_derives_11 rfl ?_
    refine xb_if hf (fun hb hf => ?_) (fun _ q => nomatch q)
    obtain ⟨p2, ep2, hf⟩ := xbind hf
    refine xb_callV (As := [.int l1]) (v0 := (some (.int p2.1))) (τ0 := p2.2) dX12_derives_12 (xc_X12_inOrder _ _) xcl12 xw_2343 xw_2345 xs_132 hb rfl (Nat.le_of_ble_eq_true rfl) rfl (Nat.le_of_ble_eq_true rfl) (fun Q1 hq => m_X12_inOrder (d := d + 3) ep2 (fun g hg => by subst hg; exact hq)) ?_
    refine xm_istore_n dX12_derives_15 (by decide) (xm_stL (L' := [(3, .int p2.1), (0, .ref l0), (1, .int l1), (2, .int l2)]) rfl ?_)
    refine xm_iconst dX12_derives_16 (v := 0) (by decide) ?_
    refine xb_topi hf (fun v3 ev3 hf => ?_)
    refine xm_istore dX12_derives_17 (by decide) (xm_stL (L' := [(4, .int v3), (3, .int p2.1), (0, .ref l0), (1, .int l1), (2, .int l2)]) rfl ?_)
    obtain ⟨o, h1, hf⟩ := xbind hf
    refine xm_sub [2, 3, 4, 1, 0] rfl (L_X12_derives_l19  h1 (fun g hg => ?_) (fun e he => ?_))
    · subst hg
      cases hf
      exact hR _ rfl
    · subst he
      rw [Sum.elim_inr] at hf
      have hf : f_X12_derives_j196 e.2 e.1 = some _ := hf
      exact xm_sub [0] rfl (L_X12_derives_j196 e.2 e.1 hf hR)
  · refine xm_iconst dX12_derives_8 (v := -1) (by decide) ?_
    cases hf
    exact xm_iret dX12_derives_9 rfl (hR _ rfl)
-- RankwiseModel.valueAt(I)I
def f_X12_valueAt (σ : xM) (l0 : Int32) : Option Int32 :=
  some ((2500 : Int32) + ((2 : Int32) * l0))
set_option maxHeartbeats 4000000 in
set_option maxRecDepth 20000 in
theorem m_X12_valueAt {G : xG} {π : Nat → Nat} {d C Z : Nat} {Q : xQ} {σ : xM} {l0 : Int32} {x : Int32} (hf : f_X12_valueAt σ l0 = some x) (hR : ∀ g, x = g → Q (.inl (some (.int g))) (σ) π) : xMach G π J_X12_valueAt (d + 0) C Z 0 (lv_args 0 [.int l0]) [] σ Q := by
  unfold f_X12_valueAt at hf
  refine xm_stL (L' := [(0, .int l0)]) rfl ?_
  refine xm_sipush dX12_valueAt_0 (v := 2500) (by decide) ?_
  refine xm_iconst dX12_valueAt_3 (v := 2) (by decide) ?_
  refine xm_iload_n dX12_valueAt_4 rfl ?_
  refine xm_imul dX12_valueAt_5 ?_
  refine xm_iadd dX12_valueAt_6 ?_
  cases hf
  exact xm_iret dX12_valueAt_7 rfl (hR _ rfl)
-- RankwiseModel.partAt(I)I
def f_X12_partAt (σ : xM) (l0 : Int32) : Option Int32 :=
  some (((2500 : Int32) + ((2 : Int32) * l0)) + (1 : Int32))
set_option maxHeartbeats 4000000 in
set_option maxRecDepth 20000 in
theorem m_X12_partAt {G : xG} {π : Nat → Nat} {d C Z : Nat} {Q : xQ} {σ : xM} {l0 : Int32} {x : Int32} (hf : f_X12_partAt σ l0 = some x) (hR : ∀ g, x = g → Q (.inl (some (.int g))) (σ) π) : xMach G π J_X12_partAt (d + 0) C Z 0 (lv_args 0 [.int l0]) [] σ Q := by
  unfold f_X12_partAt at hf
  refine xm_stL (L' := [(0, .int l0)]) rfl ?_
  refine xm_sipush dX12_partAt_0 (v := 2500) (by decide) ?_
  refine xm_iconst dX12_partAt_3 (v := 2) (by decide) ?_
  refine xm_iload_n dX12_partAt_4 rfl ?_
  refine xm_imul dX12_partAt_5 ?_
  refine xm_iadd dX12_partAt_6 ?_
  refine xm_iconst dX12_partAt_7 (v := 1) (by decide) ?_
  refine xm_iadd dX12_partAt_8 ?_
  cases hf
  exact xm_iret dX12_partAt_9 rfl (hR _ rfl)
-- RankwiseModel.partOfPower(II)Z
def f_X12_partOfPower (σ : xM) (l0 : Nat) (l1 : Int32) (l2 : Int32) : Option (Int32 × xM) :=
  xlet (3602 : Int32) (fun v1 => (if xk σ l0 12 = true then (f_X12_raise σ l0 v1 l1 (l2 - (1 : Int32))).bind (fun p2 => (if xk p2.2 l0 12 = true then (f_X12_setInt p2.2 l0 (3603 : Int32) l2).bind (fun p3 => (if xk p3 l0 12 = true then (f_X12_loadNumerator p3 l0 (2 : Int32) v1).bind (fun p4 => (if xk p4 l0 12 = true then (f_X12_loadNumerator p4 l0 (3 : Int32) (3603 : Int32)).bind (fun p5 => (if xk p5 l0 12 = true then (f_X12_times p5 l0 (4 : Int32) (2 : Int32) (3 : Int32)).bind (fun p6 => (if xk p6 l0 12 = true then (f_X12_loadNumerator p6 l0 (2 : Int32) (l1 + (1 : Int32))).bind (fun p7 => (if xk p7 l0 12 = true then (f_X12_times p7 l0 (0 : Int32) (4 : Int32) (2 : Int32)).bind (fun p8 => (if xk p8 l0 12 = true then (f_X12_loadDenominator p8 l0 (2 : Int32) v1).bind (fun p9 => (if xk p9 l0 12 = true then (f_X12_loadDenominator p9 l0 (3 : Int32) (l1 + (1 : Int32))).bind (fun p10 => (if xk p10 l0 12 = true then (f_X12_times p10 l0 (1 : Int32) (2 : Int32) (3 : Int32)).bind (fun p11 => (if xk p11 l0 12 = true then (f_X12_sign p11 l0 v1).bind (fun p12 => (if xk p11 l0 12 = true then (f_X12_sign p11 l0 (l1 + (1 : Int32))).bind (fun p13 => (if xk p11 l0 12 = true then (f_X12_store p11 l0 (l1 + (1 : Int32)) (p12 * p13)).bind (fun p14 => (xz p14.1).bind (fun b15 => some (b15, p14.2))) else none)) else none)) else none)) else none)) else none)) else none)) else none)) else none)) else none)) else none)) else none)) else none)) else none))
set_option maxHeartbeats 4000000 in
set_option maxRecDepth 20000 in
theorem m_X12_partOfPower {G : xG} {π : Nat → Nat} {d C Z : Nat} {Q : xQ} {σ : xM} {l0 : Nat} {l1 : Int32} {l2 : Int32} {x : (Int32 × xM)} (hf : f_X12_partOfPower σ l0 l1 l2 = some x) (hR : ∀ g, x = g → Q (.inl (some (.int g.1))) (g.2) π) : xMach G π J_X12_partOfPower (d + 7) C Z 0 (lv_args 0 [.ref l0, .int l1, .int l2]) [] σ Q := by
  unfold f_X12_partOfPower at hf
  refine xm_stL (L' := [(0, .ref l0), (1, .int l1), (2, .int l2)]) rfl ?_
  refine xm_sipush dX12_partOfPower_0 (v := 3602) (by decide) ?_
  refine xb_topi hf (fun v1 ev1 hf => ?_)
  refine xm_istore_n dX12_partOfPower_3 (by decide) (xm_stL (L' := [(3, .int v1), (0, .ref l0), (1, .int l1), (2, .int l2)]) rfl ?_)
  refine xm_aload_n dX12_partOfPower_4 rfl ?_
  refine xm_iload_n dX12_partOfPower_5 rfl ?_
  refine xm_iload_n dX12_partOfPower_6 rfl ?_
  refine xm_iload_n dX12_partOfPower_7 rfl ?_
  refine xm_iconst dX12_partOfPower_8 (v := 1) (by decide) ?_
  refine xm_isub dX12_partOfPower_9 ?_
  refine xb_if hf (fun hb hf => ?_) (fun _ q => nomatch q)
  obtain ⟨p2, ep2, hf⟩ := xbind hf
  refine xb_callV (As := [.int v1, .int l1, .int (l2 - (1 : Int32))]) (v0 := (some (.int p2.1))) (τ0 := p2.2) dX12_partOfPower_10 (xc_X12_raise _ _) xcl12 xw_2540 xw_2542 xs_178 hb rfl (Nat.le_of_ble_eq_true rfl) rfl (Nat.le_of_ble_eq_true rfl) (fun Q1 hq => m_X12_raise (d := d + 0) ep2 (fun g hg => by subst hg; exact hq)) ?_
  refine xm_pop dX12_partOfPower_13 rfl ?_
  refine xm_aload_n dX12_partOfPower_14 rfl ?_
  refine xm_sipush dX12_partOfPower_15 (v := 3603) (by decide) ?_
  refine xm_iload_n dX12_partOfPower_18 rfl ?_
  refine xb_if hf (fun hb hf => ?_) (fun _ q => nomatch q)
  obtain ⟨p3, ep3, hf⟩ := xbind hf
  refine xb_callV (As := [.int (3603 : Int32), .int l2]) (v0 := none) (τ0 := p3) dX12_partOfPower_19 (xc_X12_setInt _ _) xcl12 xw_1820 xw_1822 xs_84 hb rfl (Nat.le_of_ble_eq_true rfl) rfl (Nat.le_of_ble_eq_true rfl) (fun Q1 hq => m_X12_setInt (d := d + 4) ep3 (fun g hg => by subst hg; exact hq)) ?_
  refine xm_aload_n dX12_partOfPower_22 rfl ?_
  refine xm_iconst dX12_partOfPower_23 (v := 2) (by decide) ?_
  refine xm_iload_n dX12_partOfPower_24 rfl ?_
  refine xb_if hf (fun hb hf => ?_) (fun _ q => nomatch q)
  obtain ⟨p4, ep4, hf⟩ := xbind hf
  refine xb_callV (As := [.int (2 : Int32), .int v1]) (v0 := none) (τ0 := p4) dX12_partOfPower_25 (xc_X12_loadNumerator _ _) xcl12 xw_2403 xw_2405 xs_145 hb rfl (Nat.le_of_ble_eq_true rfl) rfl (Nat.le_of_ble_eq_true rfl) (fun Q1 hq => m_X12_loadNumerator (d := d + 4) ep4 (fun g hg => by subst hg; exact hq)) ?_
  refine xm_aload_n dX12_partOfPower_28 rfl ?_
  refine xm_iconst dX12_partOfPower_29 (v := 3) (by decide) ?_
  refine xm_sipush dX12_partOfPower_30 (v := 3603) (by decide) ?_
  refine xb_if hf (fun hb hf => ?_) (fun _ q => nomatch q)
  obtain ⟨p5, ep5, hf⟩ := xbind hf
  refine xb_callV (As := [.int (3 : Int32), .int (3603 : Int32)]) (v0 := none) (τ0 := p5) dX12_partOfPower_33 (xc_X12_loadNumerator _ _) xcl12 xw_2403 xw_2405 xs_145 hb rfl (Nat.le_of_ble_eq_true rfl) rfl (Nat.le_of_ble_eq_true rfl) (fun Q1 hq => m_X12_loadNumerator (d := d + 4) ep5 (fun g hg => by subst hg; exact hq)) ?_
  refine xm_aload_n dX12_partOfPower_36 rfl ?_
  refine xm_iconst dX12_partOfPower_37 (v := 4) (by decide) ?_
  refine xm_iconst dX12_partOfPower_38 (v := 2) (by decide) ?_
  refine xm_iconst dX12_partOfPower_39 (v := 3) (by decide) ?_
  refine xb_if hf (fun hb hf => ?_) (fun _ q => nomatch q)
  obtain ⟨p6, ep6, hf⟩ := xbind hf
  refine xb_callV (As := [.int (4 : Int32), .int (2 : Int32), .int (3 : Int32)]) (v0 := none) (τ0 := p6) dX12_partOfPower_40 (xc_X12_times _ _) xcl12 xw_2415 xw_2417 xs_148 hb rfl (Nat.le_of_ble_eq_true rfl) rfl (Nat.le_of_ble_eq_true rfl) (fun Q1 hq => m_X12_times (d := d + 5) ep6 (fun g hg => by subst hg; exact hq)) ?_
  refine xm_aload_n dX12_partOfPower_43 rfl ?_
  refine xm_iconst dX12_partOfPower_44 (v := 2) (by decide) ?_
  refine xm_iload_n dX12_partOfPower_45 rfl ?_
  refine xm_iconst dX12_partOfPower_46 (v := 1) (by decide) ?_
  refine xm_iadd dX12_partOfPower_47 ?_
  refine xb_if hf (fun hb hf => ?_) (fun _ q => nomatch q)
  obtain ⟨p7, ep7, hf⟩ := xbind hf
  refine xb_callV (As := [.int (2 : Int32), .int (l1 + (1 : Int32))]) (v0 := none) (τ0 := p7) dX12_partOfPower_48 (xc_X12_loadNumerator _ _) xcl12 xw_2403 xw_2405 xs_145 hb rfl (Nat.le_of_ble_eq_true rfl) rfl (Nat.le_of_ble_eq_true rfl) (fun Q1 hq => m_X12_loadNumerator (d := d + 4) ep7 (fun g hg => by subst hg; exact hq)) ?_
  refine xm_aload_n dX12_partOfPower_51 rfl ?_
  refine xm_iconst dX12_partOfPower_52 (v := 0) (by decide) ?_
  refine xm_iconst dX12_partOfPower_53 (v := 4) (by decide) ?_
  refine xm_iconst dX12_partOfPower_54 (v := 2) (by decide) ?_
  refine xb_if hf (fun hb hf => ?_) (fun _ q => nomatch q)
  obtain ⟨p8, ep8, hf⟩ := xbind hf
  refine xb_callV (As := [.int (0 : Int32), .int (4 : Int32), .int (2 : Int32)]) (v0 := none) (τ0 := p8) dX12_partOfPower_55 (xc_X12_times _ _) xcl12 xw_2415 xw_2417 xs_148 hb rfl (Nat.le_of_ble_eq_true rfl) rfl (Nat.le_of_ble_eq_true rfl) (fun Q1 hq => m_X12_times (d := d + 5) ep8 (fun g hg => by subst hg; exact hq)) ?_
  refine xm_aload_n dX12_partOfPower_58 rfl ?_
  refine xm_iconst dX12_partOfPower_59 (v := 2) (by decide) ?_
  refine xm_iload_n dX12_partOfPower_60 rfl ?_
  refine xb_if hf (fun hb hf => ?_) (fun _ q => nomatch q)
  obtain ⟨p9, ep9, hf⟩ := xbind hf
  refine xb_callV (As := [.int (2 : Int32), .int v1]) (v0 := none) (τ0 := p9) dX12_partOfPower_61 (xc_X12_loadDenominator _ _) xcl12 xw_2411 xw_2413 xs_147 hb rfl (Nat.le_of_ble_eq_true rfl) rfl (Nat.le_of_ble_eq_true rfl) (fun Q1 hq => m_X12_loadDenominator (d := d + 4) ep9 (fun g hg => by subst hg; exact hq)) ?_
  refine xm_aload_n dX12_partOfPower_64 rfl ?_
  refine xm_iconst dX12_partOfPower_65 (v := 3) (by decide) ?_
  refine xm_iload_n dX12_partOfPower_66 rfl ?_
  refine xm_iconst dX12_partOfPower_67 (v := 1) (by decide) ?_
  refine xm_iadd dX12_partOfPower_68 ?_
  refine xb_if hf (fun hb hf => ?_) (fun _ q => nomatch q)
  obtain ⟨p10, ep10, hf⟩ := xbind hf
  refine xb_callV (As := [.int (3 : Int32), .int (l1 + (1 : Int32))]) (v0 := none) (τ0 := p10) dX12_partOfPower_69 (xc_X12_loadDenominator _ _) xcl12 xw_2411 xw_2413 xs_147 hb rfl (Nat.le_of_ble_eq_true rfl) rfl (Nat.le_of_ble_eq_true rfl) (fun Q1 hq => m_X12_loadDenominator (d := d + 4) ep10 (fun g hg => by subst hg; exact hq)) ?_
  refine xm_aload_n dX12_partOfPower_72 rfl ?_
  refine xm_iconst dX12_partOfPower_73 (v := 1) (by decide) ?_
  refine xm_iconst dX12_partOfPower_74 (v := 2) (by decide) ?_
  refine xm_iconst dX12_partOfPower_75 (v := 3) (by decide) ?_
  refine xb_if hf (fun hb hf => ?_) (fun _ q => nomatch q)
  obtain ⟨p11, ep11, hf⟩ := xbind hf
  refine xb_callV (As := [.int (1 : Int32), .int (2 : Int32), .int (3 : Int32)]) (v0 := none) (τ0 := p11) dX12_partOfPower_76 (xc_X12_times _ _) xcl12 xw_2415 xw_2417 xs_148 hb rfl (Nat.le_of_ble_eq_true rfl) rfl (Nat.le_of_ble_eq_true rfl) (fun Q1 hq => m_X12_times (d := d + 5) ep11 (fun g hg => by subst hg; exact hq)) ?_
  refine xm_aload_n dX12_partOfPower_79 rfl ?_
  refine xm_iload_n dX12_partOfPower_80 rfl ?_
  refine xm_iconst dX12_partOfPower_81 (v := 1) (by decide) ?_
  refine xm_iadd dX12_partOfPower_82 ?_
  refine xm_aload_n dX12_partOfPower_83 rfl ?_
  refine xm_iload_n dX12_partOfPower_84 rfl ?_
  refine xb_if hf (fun hb hf => ?_) (fun _ q => nomatch q)
  obtain ⟨p12, ep12, hf⟩ := xbind hf
  refine xb_callV (As := [.int v1]) (v0 := (some (.int p12))) (τ0 := p11) dX12_partOfPower_85 (xc_X12_sign _ _) xcl12 xw_2387 xw_2389 xs_141 hb rfl (Nat.le_of_ble_eq_true rfl) rfl (Nat.le_of_ble_eq_true rfl) (fun Q1 hq => m_X12_sign (d := d + 6) ep12 (fun g hg => by subst hg; exact hq)) ?_
  refine xm_aload_n dX12_partOfPower_88 rfl ?_
  refine xm_iload_n dX12_partOfPower_89 rfl ?_
  refine xm_iconst dX12_partOfPower_90 (v := 1) (by decide) ?_
  refine xm_iadd dX12_partOfPower_91 ?_
  refine xb_if hf (fun hb hf => ?_) (fun _ q => nomatch q)
  obtain ⟨p13, ep13, hf⟩ := xbind hf
  refine xb_callV (As := [.int (l1 + (1 : Int32))]) (v0 := (some (.int p13))) (τ0 := p11) dX12_partOfPower_92 (xc_X12_sign _ _) xcl12 xw_2387 xw_2389 xs_141 hb rfl (Nat.le_of_ble_eq_true rfl) rfl (Nat.le_of_ble_eq_true rfl) (fun Q1 hq => m_X12_sign (d := d + 6) ep13 (fun g hg => by subst hg; exact hq)) ?_
  refine xm_imul dX12_partOfPower_95 ?_
  refine xb_if hf (fun hb hf => ?_) (fun _ q => nomatch q)
  obtain ⟨p14, ep14, hf⟩ := xbind hf
  refine xb_callV (As := [.int (l1 + (1 : Int32)), .int (p12 * p13)]) (v0 := (some (.int p14.1))) (τ0 := p14.2) dX12_partOfPower_96 (xc_X12_store _ _) xcl12 xw_2440 xw_2442 xs_154 hb rfl (Nat.le_of_ble_eq_true rfl) rfl (Nat.le_of_ble_eq_true rfl) (fun Q1 hq => m_X12_store (d := d + 2) ep14 (fun g hg => by subst hg; exact hq)) ?_
  obtain ⟨b15, eb15, hf⟩ := xbind hf
  obtain ⟨rfl, hz⟩ := xz_of eb15
  cases hf
  exact xm_zret dX12_partOfPower_99 rfl hz (hR _ rfl)
-- RankwiseModel.partOfQuotient(II)Z
def f_X12_partOfQuotient (σ : xM) (l0 : Nat) (l1 : Int32) (l2 : Int32) : Option (Int32 × xM) :=
  (if xk σ l0 12 = true then (f_X12_clearWide σ l0).bind (fun p1 => (if xk p1 l0 12 = true then (f_X12_addProduct p1 l0 (l1 + (1 : Int32)) l2 (1 : Int32)).bind (fun p2 => (if xk p2 l0 12 = true then (f_X12_addProduct p2 l0 l1 (l2 + (1 : Int32)) (-1 : Int32)).bind (fun p3 => (if xk p3 l0 12 = true then (f_X12_loadNumerator p3 l0 (2 : Int32) l2).bind (fun p4 => (if xk p4 l0 12 = true then (f_X12_times p4 l0 (3 : Int32) (2 : Int32) (2 : Int32)).bind (fun p5 => (if xk p5 l0 12 = true then (f_X12_times p5 l0 (1 : Int32) (9 : Int32) (3 : Int32)).bind (fun p6 => (if xk p6 l0 12 = true then (f_X12_loadDenominator p6 l0 (2 : Int32) l2).bind (fun p7 => (if xk p7 l0 12 = true then (f_X12_times p7 l0 (3 : Int32) (2 : Int32) (2 : Int32)).bind (fun p8 => (if xk p8 l0 12 = true then (f_X12_times p8 l0 (0 : Int32) (8 : Int32) (3 : Int32)).bind (fun p9 => (gI p9 l0 12 69).bind (fun x10 => (if xk p9 l0 12 = true then (f_X12_store p9 l0 (3604 : Int32) x10).bind (fun p11 => (xz p11.1).bind (fun b12 => some (b12, p11.2))) else none))) else none)) else none)) else none)) else none)) else none)) else none)) else none)) else none)) else none)
set_option maxHeartbeats 4000000 in
set_option maxRecDepth 20000 in
theorem m_X12_partOfQuotient {G : xG} {π : Nat → Nat} {d C Z : Nat} {Q : xQ} {σ : xM} {l0 : Nat} {l1 : Int32} {l2 : Int32} {x : (Int32 × xM)} (hf : f_X12_partOfQuotient σ l0 l1 l2 = some x) (hR : ∀ g, x = g → Q (.inl (some (.int g.1))) (g.2) π) : xMach G π J_X12_partOfQuotient (d + 5) C Z 0 (lv_args 0 [.ref l0, .int l1, .int l2]) [] σ Q := by
  unfold f_X12_partOfQuotient at hf
  refine xm_stL (L' := [(0, .ref l0), (1, .int l1), (2, .int l2)]) rfl ?_
  refine xm_aload_n dX12_partOfQuotient_0 rfl ?_
  refine xb_if hf (fun hb hf => ?_) (fun _ q => nomatch q)
  obtain ⟨p1, ep1, hf⟩ := xbind hf
  refine xb_callV (As := []) (v0 := none) (τ0 := p1) dX12_partOfQuotient_1 (xc_X12_clearWide _ _) xcl12 xw_2670 xw_2672 xs_198 hb rfl (Nat.le_of_ble_eq_true rfl) rfl (Nat.le_of_ble_eq_true rfl) (fun Q1 hq => m_X12_clearWide (d := d + 2) ep1 (fun g hg => by subst hg; exact hq)) ?_
  refine xm_aload_n dX12_partOfQuotient_4 rfl ?_
  refine xm_iload_n dX12_partOfQuotient_5 rfl ?_
  refine xm_iconst dX12_partOfQuotient_6 (v := 1) (by decide) ?_
  refine xm_iadd dX12_partOfQuotient_7 ?_
  refine xm_iload_n dX12_partOfQuotient_8 rfl ?_
  refine xm_iconst dX12_partOfQuotient_9 (v := 1) (by decide) ?_
  refine xb_if hf (fun hb hf => ?_) (fun _ q => nomatch q)
  obtain ⟨p2, ep2, hf⟩ := xbind hf
  refine xb_callV (As := [.int (l1 + (1 : Int32)), .int l2, .int (1 : Int32)]) (v0 := none) (τ0 := p2) dX12_partOfQuotient_10 (xc_X12_addProduct _ _) xcl12 xw_2674 xw_2676 xs_199 hb rfl (Nat.le_of_ble_eq_true rfl) rfl (Nat.le_of_ble_eq_true rfl) (fun Q1 hq => m_X12_addProduct (d := d + 0) ep2 (fun g hg => by subst hg; exact hq)) ?_
  refine xm_aload_n dX12_partOfQuotient_13 rfl ?_
  refine xm_iload_n dX12_partOfQuotient_14 rfl ?_
  refine xm_iload_n dX12_partOfQuotient_15 rfl ?_
  refine xm_iconst dX12_partOfQuotient_16 (v := 1) (by decide) ?_
  refine xm_iadd dX12_partOfQuotient_17 ?_
  refine xm_iconst dX12_partOfQuotient_18 (v := -1) (by decide) ?_
  refine xb_if hf (fun hb hf => ?_) (fun _ q => nomatch q)
  obtain ⟨p3, ep3, hf⟩ := xbind hf
  refine xb_callV (As := [.int l1, .int (l2 + (1 : Int32)), .int (-1 : Int32)]) (v0 := none) (τ0 := p3) dX12_partOfQuotient_19 (xc_X12_addProduct _ _) xcl12 xw_2674 xw_2676 xs_199 hb rfl (Nat.le_of_ble_eq_true rfl) rfl (Nat.le_of_ble_eq_true rfl) (fun Q1 hq => m_X12_addProduct (d := d + 0) ep3 (fun g hg => by subst hg; exact hq)) ?_
  refine xm_aload_n dX12_partOfQuotient_22 rfl ?_
  refine xm_iconst dX12_partOfQuotient_23 (v := 2) (by decide) ?_
  refine xm_iload_n dX12_partOfQuotient_24 rfl ?_
  refine xb_if hf (fun hb hf => ?_) (fun _ q => nomatch q)
  obtain ⟨p4, ep4, hf⟩ := xbind hf
  refine xb_callV (As := [.int (2 : Int32), .int l2]) (v0 := none) (τ0 := p4) dX12_partOfQuotient_25 (xc_X12_loadNumerator _ _) xcl12 xw_2403 xw_2405 xs_145 hb rfl (Nat.le_of_ble_eq_true rfl) rfl (Nat.le_of_ble_eq_true rfl) (fun Q1 hq => m_X12_loadNumerator (d := d + 2) ep4 (fun g hg => by subst hg; exact hq)) ?_
  refine xm_aload_n dX12_partOfQuotient_28 rfl ?_
  refine xm_iconst dX12_partOfQuotient_29 (v := 3) (by decide) ?_
  refine xm_iconst dX12_partOfQuotient_30 (v := 2) (by decide) ?_
  refine xm_iconst dX12_partOfQuotient_31 (v := 2) (by decide) ?_
  refine xb_if hf (fun hb hf => ?_) (fun _ q => nomatch q)
  obtain ⟨p5, ep5, hf⟩ := xbind hf
  refine xb_callV (As := [.int (3 : Int32), .int (2 : Int32), .int (2 : Int32)]) (v0 := none) (τ0 := p5) dX12_partOfQuotient_32 (xc_X12_times _ _) xcl12 xw_2415 xw_2417 xs_148 hb rfl (Nat.le_of_ble_eq_true rfl) rfl (Nat.le_of_ble_eq_true rfl) (fun Q1 hq => m_X12_times (d := d + 3) ep5 (fun g hg => by subst hg; exact hq)) ?_
  refine xm_aload_n dX12_partOfQuotient_35 rfl ?_
  refine xm_iconst dX12_partOfQuotient_36 (v := 1) (by decide) ?_
  refine xm_bipush dX12_partOfQuotient_37 (v := 9) (by decide) ?_
  refine xm_iconst dX12_partOfQuotient_39 (v := 3) (by decide) ?_
  refine xb_if hf (fun hb hf => ?_) (fun _ q => nomatch q)
  obtain ⟨p6, ep6, hf⟩ := xbind hf
  refine xb_callV (As := [.int (1 : Int32), .int (9 : Int32), .int (3 : Int32)]) (v0 := none) (τ0 := p6) dX12_partOfQuotient_40 (xc_X12_times _ _) xcl12 xw_2415 xw_2417 xs_148 hb rfl (Nat.le_of_ble_eq_true rfl) rfl (Nat.le_of_ble_eq_true rfl) (fun Q1 hq => m_X12_times (d := d + 3) ep6 (fun g hg => by subst hg; exact hq)) ?_
  refine xm_aload_n dX12_partOfQuotient_43 rfl ?_
  refine xm_iconst dX12_partOfQuotient_44 (v := 2) (by decide) ?_
  refine xm_iload_n dX12_partOfQuotient_45 rfl ?_
  refine xb_if hf (fun hb hf => ?_) (fun _ q => nomatch q)
  obtain ⟨p7, ep7, hf⟩ := xbind hf
  refine xb_callV (As := [.int (2 : Int32), .int l2]) (v0 := none) (τ0 := p7) dX12_partOfQuotient_46 (xc_X12_loadDenominator _ _) xcl12 xw_2411 xw_2413 xs_147 hb rfl (Nat.le_of_ble_eq_true rfl) rfl (Nat.le_of_ble_eq_true rfl) (fun Q1 hq => m_X12_loadDenominator (d := d + 2) ep7 (fun g hg => by subst hg; exact hq)) ?_
  refine xm_aload_n dX12_partOfQuotient_49 rfl ?_
  refine xm_iconst dX12_partOfQuotient_50 (v := 3) (by decide) ?_
  refine xm_iconst dX12_partOfQuotient_51 (v := 2) (by decide) ?_
  refine xm_iconst dX12_partOfQuotient_52 (v := 2) (by decide) ?_
  refine xb_if hf (fun hb hf => ?_) (fun _ q => nomatch q)
  obtain ⟨p8, ep8, hf⟩ := xbind hf
  refine xb_callV (As := [.int (3 : Int32), .int (2 : Int32), .int (2 : Int32)]) (v0 := none) (τ0 := p8) dX12_partOfQuotient_53 (xc_X12_times _ _) xcl12 xw_2415 xw_2417 xs_148 hb rfl (Nat.le_of_ble_eq_true rfl) rfl (Nat.le_of_ble_eq_true rfl) (fun Q1 hq => m_X12_times (d := d + 3) ep8 (fun g hg => by subst hg; exact hq)) ?_
  refine xm_aload_n dX12_partOfQuotient_56 rfl ?_
  refine xm_iconst dX12_partOfQuotient_57 (v := 0) (by decide) ?_
  refine xm_bipush dX12_partOfQuotient_58 (v := 8) (by decide) ?_
  refine xm_iconst dX12_partOfQuotient_60 (v := 3) (by decide) ?_
  refine xb_if hf (fun hb hf => ?_) (fun _ q => nomatch q)
  obtain ⟨p9, ep9, hf⟩ := xbind hf
  refine xb_callV (As := [.int (0 : Int32), .int (8 : Int32), .int (3 : Int32)]) (v0 := none) (τ0 := p9) dX12_partOfQuotient_61 (xc_X12_times _ _) xcl12 xw_2415 xw_2417 xs_148 hb rfl (Nat.le_of_ble_eq_true rfl) rfl (Nat.le_of_ble_eq_true rfl) (fun Q1 hq => m_X12_times (d := d + 3) ep9 (fun g hg => by subst hg; exact hq)) ?_
  refine xm_aload_n dX12_partOfQuotient_64 rfl ?_
  refine xm_sipush dX12_partOfQuotient_65 (v := 3604) (by decide) ?_
  refine xm_aload_n dX12_partOfQuotient_68 rfl ?_
  refine xb_getI (a := l0) (c := 12) (k := 69) dX12_partOfQuotient_69 xcl12 (by decide) xw_1906 rfl hf (fun x10 ex10 hf => ?_)
  refine xb_if hf (fun hb hf => ?_) (fun _ q => nomatch q)
  obtain ⟨p11, ep11, hf⟩ := xbind hf
  refine xb_callV (As := [.int (3604 : Int32), .int x10]) (v0 := (some (.int p11.1))) (τ0 := p11.2) dX12_partOfQuotient_72 (xc_X12_store _ _) xcl12 xw_2440 xw_2442 xs_154 hb rfl (Nat.le_of_ble_eq_true rfl) rfl (Nat.le_of_ble_eq_true rfl) (fun Q1 hq => m_X12_store (d := d + 0) ep11 (fun g hg => by subst hg; exact hq)) ?_
  obtain ⟨b12, eb12, hf⟩ := xbind hf
  obtain ⟨rfl, hz⟩ := xz_of eb12
  cases hf
  exact xm_zret dX12_partOfQuotient_75 rfl hz (hR _ rfl)
-- RankwiseModel.pairTwo(II)I
def f_X12_pairTwo_j258 (σ : xM) (s0 : Int32) : Option (Int32 × xM) :=
  some (s0, σ)
set_option maxHeartbeats 4000000 in
set_option maxRecDepth 20000 in
theorem L_X12_pairTwo_j258 {G : xG} {π : Nat → Nat} {d C Z : Nat} {Q : xQ} (σ : xM) (s0 : Int32) {x : (Int32 × xM)} (hf : f_X12_pairTwo_j258 σ s0 = some x) (hR : ∀ g, x = g → Q (.inl (some (.int g.1))) (g.2) π) : xMach G π J_X12_pairTwo (d + 9) C Z 258 [] [.int s0] σ Q := by
  unfold f_X12_pairTwo_j258 at hf
  cases hf
  exact xm_iret dX12_pairTwo_258 rfl (hR _ rfl)
def f_X12_pairTwo_j240 (σ : xM) (l0 : Nat) (l3 : Int32) (l5 : Int32) : Option (Int32 × xM) :=
  (if xk σ l0 12 = true then (f_X12_copyValue σ l0 l3 (3605 : Int32)).bind (fun p12 => (if l5 = (0 : Int32) then f_X12_pairTwo_j258 p12 (3 : Int32) else f_X12_pairTwo_j258 p12 (0 : Int32))) else none)
set_option maxHeartbeats 4000000 in
set_option maxRecDepth 20000 in
theorem L_X12_pairTwo_j240 {G : xG} {π : Nat → Nat} {d C Z : Nat} {Q : xQ} (σ : xM) (l0 : Nat) (l3 : Int32) (l5 : Int32) {x : (Int32 × xM)} (hf : f_X12_pairTwo_j240 σ l0 l3 l5 = some x) (hR : ∀ g, x = g → Q (.inl (some (.int g.1))) (g.2) π) : xMach G π J_X12_pairTwo (d + 9) C Z 240 [(0, .ref l0), (3, .int l3), (5, .int l5)] [] σ Q := by
  unfold f_X12_pairTwo_j240 at hf
  refine xm_aload_n dX12_pairTwo_240 rfl ?_
  refine xm_iload_n dX12_pairTwo_241 rfl ?_
  refine xm_sipush dX12_pairTwo_242 (v := 3605) (by decide) ?_
  refine xb_if hf (fun hb hf => ?_) (fun _ q => nomatch q)
  obtain ⟨p12, ep12, hf⟩ := xbind hf
  refine xb_callV (As := [.int l3, .int (3605 : Int32)]) (v0 := none) (τ0 := p12) dX12_pairTwo_245 (xc_X12_copyValue _ _) xcl12 xw_2100 xw_2102 xs_88 hb rfl (Nat.le_of_ble_eq_true rfl) rfl (Nat.le_of_ble_eq_true rfl) (fun Q1 hq => m_X12_copyValue (d := d + 8) ep12 (fun g hg => by subst hg; exact hq)) ?_
  refine xm_iload dX12_pairTwo_248 rfl ?_
  refine xb_if_eq 257 dX12_pairTwo_250 (by decide) hf (fun c hf => ?_) (fun c hf => ?_)
  · refine xm_iconst dX12_pairTwo_257 (v := 3) (by decide) ?_
    exact xm_sub [] rfl (L_X12_pairTwo_j258 p12 (3 : Int32) hf hR)
  · refine xm_iconst dX12_pairTwo_253 (v := 0) (by decide) ?_
    refine xm_goto 258 dX12_pairTwo_254 (by decide) ?_
    exact xm_sub [] rfl (L_X12_pairTwo_j258 p12 (0 : Int32) hf hR)
def f_X12_pairTwo_j235 (σ : xM) (l0 : Nat) (l3 : Int32) (s0 : Int32) (s1 : Int32) (s2 : Int32) (s3 : Int32) (s4 : Nat) : Option (Int32 × xM) :=
  (if xk σ s4 12 = true then (f_X12_addValues σ s4 s3 s2 s1 s0).bind (fun p11 => f_X12_pairTwo_j240 p11.2 l0 l3 p11.1) else none)
set_option maxHeartbeats 4000000 in
set_option maxRecDepth 20000 in
theorem L_X12_pairTwo_j235 {G : xG} {π : Nat → Nat} {d C Z : Nat} {Q : xQ} (σ : xM) (l0 : Nat) (l3 : Int32) (s0 : Int32) (s1 : Int32) (s2 : Int32) (s3 : Int32) (s4 : Nat) {x : (Int32 × xM)} (hf : f_X12_pairTwo_j235 σ l0 l3 s0 s1 s2 s3 s4 = some x) (hR : ∀ g, x = g → Q (.inl (some (.int g.1))) (g.2) π) : xMach G π J_X12_pairTwo (d + 9) C Z 235 [(0, .ref l0), (3, .int l3)] [.int s0, .int s1, .int s2, .int s3, .ref s4] σ Q := by
  unfold f_X12_pairTwo_j235 at hf
  refine xb_if hf (fun hb hf => ?_) (fun _ q => nomatch q)
  obtain ⟨p11, ep11, hf⟩ := xbind hf
  refine xb_callV (As := [.int s3, .int s2, .int s1, .int s0]) (v0 := (some (.int p11.1))) (τ0 := p11.2) dX12_pairTwo_235 (xc_X12_addValues _ _) xcl12 xw_2399 xw_2401 xs_144 hb rfl (Nat.le_of_ble_eq_true rfl) rfl (Nat.le_of_ble_eq_true rfl) (fun Q1 hq => m_X12_addValues (d := d + 3) ep11 (fun g hg => by subst hg; exact hq)) ?_
  refine xm_istore dX12_pairTwo_238 (by decide) (xm_stL (L' := [(5, .int p11.1), (0, .ref l0), (3, .int l3)]) rfl ?_)
  exact xm_sub [1, 2, 0] rfl (L_X12_pairTwo_j240 p11.2 l0 l3 p11.1 hf hR)
def f_X12_pairTwo_j118 (σ : xM) (s0 : Int32) : Option (Int32 × xM) :=
  some (s0, σ)
set_option maxHeartbeats 4000000 in
set_option maxRecDepth 20000 in
theorem L_X12_pairTwo_j118 {G : xG} {π : Nat → Nat} {d C Z : Nat} {Q : xQ} (σ : xM) (s0 : Int32) {x : (Int32 × xM)} (hf : f_X12_pairTwo_j118 σ s0 = some x) (hR : ∀ g, x = g → Q (.inl (some (.int g.1))) (g.2) π) : xMach G π J_X12_pairTwo (d + 9) C Z 118 [] [.int s0] σ Q := by
  unfold f_X12_pairTwo_j118 at hf
  cases hf
  exact xm_iret dX12_pairTwo_118 rfl (hR _ rfl)
def f_X12_pairTwo_j100 (σ : xM) (l0 : Nat) (l3 : Int32) (l5 : Int32) : Option (Int32 × xM) :=
  (if xk σ l0 12 = true then (f_X12_copyValue σ l0 l3 (3605 : Int32)).bind (fun p25 => (if l5 = (0 : Int32) then f_X12_pairTwo_j118 p25 (3 : Int32) else f_X12_pairTwo_j118 p25 (0 : Int32))) else none)
set_option maxHeartbeats 4000000 in
set_option maxRecDepth 20000 in
theorem L_X12_pairTwo_j100 {G : xG} {π : Nat → Nat} {d C Z : Nat} {Q : xQ} (σ : xM) (l0 : Nat) (l3 : Int32) (l5 : Int32) {x : (Int32 × xM)} (hf : f_X12_pairTwo_j100 σ l0 l3 l5 = some x) (hR : ∀ g, x = g → Q (.inl (some (.int g.1))) (g.2) π) : xMach G π J_X12_pairTwo (d + 9) C Z 100 [(0, .ref l0), (3, .int l3), (5, .int l5)] [] σ Q := by
  unfold f_X12_pairTwo_j100 at hf
  refine xm_aload_n dX12_pairTwo_100 rfl ?_
  refine xm_iload_n dX12_pairTwo_101 rfl ?_
  refine xm_sipush dX12_pairTwo_102 (v := 3605) (by decide) ?_
  refine xb_if hf (fun hb hf => ?_) (fun _ q => nomatch q)
  obtain ⟨p25, ep25, hf⟩ := xbind hf
  refine xb_callV (As := [.int l3, .int (3605 : Int32)]) (v0 := none) (τ0 := p25) dX12_pairTwo_105 (xc_X12_copyValue _ _) xcl12 xw_2100 xw_2102 xs_88 hb rfl (Nat.le_of_ble_eq_true rfl) rfl (Nat.le_of_ble_eq_true rfl) (fun Q1 hq => m_X12_copyValue (d := d + 8) ep25 (fun g hg => by subst hg; exact hq)) ?_
  refine xm_iload dX12_pairTwo_108 rfl ?_
  refine xb_if_eq 117 dX12_pairTwo_110 (by decide) hf (fun c hf => ?_) (fun c hf => ?_)
  · refine xm_iconst dX12_pairTwo_117 (v := 3) (by decide) ?_
    exact xm_sub [] rfl (L_X12_pairTwo_j118 p25 (3 : Int32) hf hR)
  · refine xm_iconst dX12_pairTwo_113 (v := 0) (by decide) ?_
    refine xm_goto 118 dX12_pairTwo_114 (by decide) ?_
    exact xm_sub [] rfl (L_X12_pairTwo_j118 p25 (0 : Int32) hf hR)
def f_X12_pairTwo (σ : xM) (l0 : Nat) (l1 : Int32) (l2 : Int32) : Option (Int32 × xM) :=
  (gI σ l0 12 76).bind (fun x1 => (sI σ l0 12 76 (x1 - (1 : Int32))).bind (fun σ2 => (gI σ2 l0 12 76).bind (fun x3 => (f_X12_valueAt σ2 (x3 - (1 : Int32))).bind (fun p4 => (gI σ2 l0 12 76).bind (fun x5 => (f_X12_valueAt σ2 x5).bind (fun p6 => xlet (1 : Int32) (fun v7 => (if xk σ2 l0 12 = true then (f_X12_child σ2 l0 l1 (1 : Int32)).bind (fun p8 => (if l2 = (5 : Int32) then (if xk σ2 l0 12 = true then (f_X12_power σ2 l0 (3605 : Int32) p4 p6).bind (fun p19 => (if p19.1 ≤ (0 : Int32) then (gR p19.2 l0 12 5).bind (fun x20 => (aI p19.2 x20 14 p8).bind (fun x21 => (if x21 = (0 : Int32) then (if xk p19.2 l0 12 = true then (f_X12_setInt p19.2 l0 (p4 + (1 : Int32)) (0 : Int32)).bind (fun p26 => f_X12_pairTwo_j100 p26 l0 p4 v7) else none) else (gR p19.2 l0 12 5).bind (fun x22 => (aI p19.2 x22 14 p8).bind (fun x23 => (if xk p19.2 l0 12 = true then (f_X12_partOfPower p19.2 l0 p4 x23).bind (fun p24 => f_X12_pairTwo_j100 p24.2 l0 p4 p24.1) else none)))))) else some (p19.1, p19.2))) else none) else (if xk σ2 l0 12 = true then (f_X12_copyValue σ2 l0 (3605 : Int32) p4).bind (fun p9 => (if xk p9 l0 12 = true then (f_X12_two p9 l0 l2 (3605 : Int32) p6).bind (fun p10 => (if p10.1 ≤ (0 : Int32) then (if l2 = (3 : Int32) then (if xk p10.2 l0 12 = true then (f_X12_partOfQuotient p10.2 l0 p4 p6).bind (fun p17 => (if xk p17.2 l0 12 = true then (f_X12_copyValue p17.2 l0 (p4 + (1 : Int32)) (3604 : Int32)).bind (fun p18 => f_X12_pairTwo_j240 p18 l0 p4 p17.1) else none)) else none) else (if l2 = (2 : Int32) then (if xk p10.2 l0 12 = true then (f_X12_clearWide p10.2 l0).bind (fun p13 => (if xk p13 l0 12 = true then (f_X12_addProduct p13 l0 (p4 + (1 : Int32)) p6 (1 : Int32)).bind (fun p14 => (if xk p14 l0 12 = true then (f_X12_addProduct p14 l0 p4 (p6 + (1 : Int32)) (1 : Int32)).bind (fun p15 => (if xk p15 l0 12 = true then (f_X12_storeWide p15 l0 (p4 + (1 : Int32))).bind (fun p16 => f_X12_pairTwo_j240 p16.2 l0 p4 p16.1) else none)) else none)) else none)) else none) else (if l2 = (0 : Int32) then f_X12_pairTwo_j235 p10.2 l0 p4 (1 : Int32) (p6 + (1 : Int32)) (p4 + (1 : Int32)) (p4 + (1 : Int32)) l0 else f_X12_pairTwo_j235 p10.2 l0 p4 (-1 : Int32) (p6 + (1 : Int32)) (p4 + (1 : Int32)) (p4 + (1 : Int32)) l0))) else some (p10.1, p10.2))) else none)) else none))) else none))))))))
set_option maxHeartbeats 4000000 in
set_option maxRecDepth 20000 in
theorem m_X12_pairTwo {G : xG} {π : Nat → Nat} {d C Z : Nat} {Q : xQ} {σ : xM} {l0 : Nat} {l1 : Int32} {l2 : Int32} {x : (Int32 × xM)} (hf : f_X12_pairTwo σ l0 l1 l2 = some x) (hR : ∀ g, x = g → Q (.inl (some (.int g.1))) (g.2) π) : xMach G π J_X12_pairTwo (d + 9) C Z 0 (lv_args 0 [.ref l0, .int l1, .int l2]) [] σ Q := by
  unfold f_X12_pairTwo at hf
  refine xm_stL (L' := [(0, .ref l0), (1, .int l1), (2, .int l2)]) rfl ?_
  refine xm_aload_n dX12_pairTwo_0 rfl ?_
  refine xm_dup dX12_pairTwo_1 rfl ?_
  refine xb_getI (a := l0) (c := 12) (k := 76) dX12_pairTwo_2 xcl12 (by decide) xw_1913 rfl hf (fun x1 ex1 hf => ?_)
  refine xm_iconst dX12_pairTwo_5 (v := 1) (by decide) ?_
  refine xm_isub dX12_pairTwo_6 ?_
  refine xb_putI (a := l0) (c := 12) (k := 76) dX12_pairTwo_7 xcl12 (by decide) xw_1913 rfl rfl hf (fun σ2 eσ2 hf => ?_)
  refine xm_aload_n dX12_pairTwo_10 rfl ?_
  refine xb_getI (a := l0) (c := 12) (k := 76) dX12_pairTwo_11 xcl12 (by decide) xw_1913 rfl hf (fun x3 ex3 hf => ?_)
  refine xm_iconst dX12_pairTwo_14 (v := 1) (by decide) ?_
  refine xm_isub dX12_pairTwo_15 ?_
  obtain ⟨p4, ep4, hf⟩ := xbind hf
  refine xb_callS (As := [.int (x3 - (1 : Int32))]) (v0 := (some (.int p4))) (τ0 := σ2) dX12_pairTwo_16 (xc_X12_valueAt _ _) xw_2770 xw_2771 rfl (Nat.le_of_ble_eq_true rfl) rfl (Nat.le_of_ble_eq_true rfl) (fun Q1 hq => m_X12_valueAt (d := d + 8) ep4 (fun g hg => by subst hg; exact hq)) ?_
  refine xm_istore_n dX12_pairTwo_19 (by decide) (xm_stL (L' := [(3, .int p4), (0, .ref l0), (1, .int l1), (2, .int l2)]) rfl ?_)
  refine xm_aload_n dX12_pairTwo_20 rfl ?_
  refine xb_getI (a := l0) (c := 12) (k := 76) dX12_pairTwo_21 xcl12 (by decide) xw_1913 rfl hf (fun x5 ex5 hf => ?_)
  obtain ⟨p6, ep6, hf⟩ := xbind hf
  refine xb_callS (As := [.int x5]) (v0 := (some (.int p6))) (τ0 := σ2) dX12_pairTwo_24 (xc_X12_valueAt _ _) xw_2770 xw_2771 rfl (Nat.le_of_ble_eq_true rfl) rfl (Nat.le_of_ble_eq_true rfl) (fun Q1 hq => m_X12_valueAt (d := d + 8) ep6 (fun g hg => by subst hg; exact hq)) ?_
  refine xm_istore dX12_pairTwo_27 (by decide) (xm_stL (L' := [(4, .int p6), (3, .int p4), (0, .ref l0), (1, .int l1), (2, .int l2)]) rfl ?_)
  refine xm_iconst dX12_pairTwo_29 (v := 1) (by decide) ?_
  refine xb_topi hf (fun v7 ev7 hf => ?_)
  refine xm_istore dX12_pairTwo_30 (by decide) (xm_stL (L' := [(5, .int v7), (4, .int p6), (3, .int p4), (0, .ref l0), (1, .int l1), (2, .int l2)]) rfl ?_)
  refine xm_aload_n dX12_pairTwo_32 rfl ?_
  refine xm_iload_n dX12_pairTwo_33 rfl ?_
  refine xm_iconst dX12_pairTwo_34 (v := 1) (by decide) ?_
  refine xb_if hf (fun hb hf => ?_) (fun _ q => nomatch q)
  obtain ⟨p8, ep8, hf⟩ := xbind hf
  refine xb_callV (As := [.int l1, .int (1 : Int32)]) (v0 := (some (.int p8))) (τ0 := σ2) dX12_pairTwo_35 (xc_X12_child _ _) xcl12 xw_2303 xw_2305 xs_123 hb rfl (Nat.le_of_ble_eq_true rfl) rfl (Nat.le_of_ble_eq_true rfl) (fun Q1 hq => m_X12_child (d := d + 8) ep8 (fun g hg => by subst hg; exact hq)) ?_
  refine xm_istore dX12_pairTwo_38 (by decide) (xm_stL (L' := [(6, .int p8), (5, .int v7), (4, .int p6), (3, .int p4), (0, .ref l0), (1, .int l1), (2, .int l2)]) rfl ?_)
  refine xm_iload_n dX12_pairTwo_40 rfl ?_
  refine xm_iconst dX12_pairTwo_41 (v := 5) (by decide) ?_
  refine xb_icmp_ne 119 dX12_pairTwo_42 (by decide) hf (fun c hf => ?_) (fun c hf => ?_)
  · refine xm_aload_n dX12_pairTwo_119 rfl ?_
    refine xm_sipush dX12_pairTwo_120 (v := 3605) (by decide) ?_
    refine xm_iload_n dX12_pairTwo_123 rfl ?_
    refine xb_if hf (fun hb hf => ?_) (fun _ q => nomatch q)
    obtain ⟨p9, ep9, hf⟩ := xbind hf
    refine xb_callV (As := [.int (3605 : Int32), .int p4]) (v0 := none) (τ0 := p9) dX12_pairTwo_124 (xc_X12_copyValue _ _) xcl12 xw_2100 xw_2102 xs_88 hb rfl (Nat.le_of_ble_eq_true rfl) rfl (Nat.le_of_ble_eq_true rfl) (fun Q1 hq => m_X12_copyValue (d := d + 8) ep9 (fun g hg => by subst hg; exact hq)) ?_
    refine xm_aload_n dX12_pairTwo_127 rfl ?_
    refine xm_iload_n dX12_pairTwo_128 rfl ?_
    refine xm_sipush dX12_pairTwo_129 (v := 3605) (by decide) ?_
    refine xm_iload dX12_pairTwo_132 rfl ?_
    refine xb_if hf (fun hb hf => ?_) (fun _ q => nomatch q)
    obtain ⟨p10, ep10, hf⟩ := xbind hf
    refine xb_callV (As := [.int l2, .int (3605 : Int32), .int p6]) (v0 := (some (.int p10.1))) (τ0 := p10.2) dX12_pairTwo_134 (xc_X12_two _ _) xcl12 xw_2524 xw_2526 xs_174 hb rfl (Nat.le_of_ble_eq_true rfl) rfl (Nat.le_of_ble_eq_true rfl) (fun Q1 hq => m_X12_two (d := d + 0) ep10 (fun g hg => by subst hg; exact hq)) ?_
    refine xm_istore dX12_pairTwo_137 (by decide) (xm_stL (L' := [(7, .int p10.1), (6, .int p8), (5, .int v7), (4, .int p6), (3, .int p4), (0, .ref l0), (1, .int l1), (2, .int l2)]) rfl ?_)
    refine xm_iload dX12_pairTwo_139 rfl ?_
    refine xb_if_le 147 dX12_pairTwo_141 (by decide) hf (fun c hf => ?_) (fun c hf => ?_)
    · refine xm_iload_n dX12_pairTwo_147 rfl ?_
      refine xm_iconst dX12_pairTwo_148 (v := 3) (by decide) ?_
      refine xb_icmp_ne 174 dX12_pairTwo_149 (by decide) hf (fun c hf => ?_) (fun c hf => ?_)
      · refine xm_iload_n dX12_pairTwo_174 rfl ?_
        refine xm_iconst dX12_pairTwo_175 (v := 2) (by decide) ?_
        refine xb_icmp_ne 215 dX12_pairTwo_176 (by decide) hf (fun c hf => ?_) (fun c hf => ?_)
        · refine xm_aload_n dX12_pairTwo_215 rfl ?_
          refine xm_iload_n dX12_pairTwo_216 rfl ?_
          refine xm_iconst dX12_pairTwo_217 (v := 1) (by decide) ?_
          refine xm_iadd dX12_pairTwo_218 ?_
          refine xm_iload_n dX12_pairTwo_219 rfl ?_
          refine xm_iconst dX12_pairTwo_220 (v := 1) (by decide) ?_
          refine xm_iadd dX12_pairTwo_221 ?_
          refine xm_iload dX12_pairTwo_222 rfl ?_
          refine xm_iconst dX12_pairTwo_224 (v := 1) (by decide) ?_
          refine xm_iadd dX12_pairTwo_225 ?_
          refine xm_iload_n dX12_pairTwo_226 rfl ?_
          refine xb_if_ne 234 dX12_pairTwo_227 (by decide) hf (fun c hf => ?_) (fun c hf => ?_)
          · refine xm_iconst dX12_pairTwo_234 (v := -1) (by decide) ?_
            exact xm_sub [5, 4] rfl (L_X12_pairTwo_j235 p10.2 l0 p4 (-1 : Int32) (p6 + (1 : Int32)) (p4 + (1 : Int32)) (p4 + (1 : Int32)) l0 hf hR)
          · refine xm_iconst dX12_pairTwo_230 (v := 1) (by decide) ?_
            refine xm_goto 235 dX12_pairTwo_231 (by decide) ?_
            exact xm_sub [5, 4] rfl (L_X12_pairTwo_j235 p10.2 l0 p4 (1 : Int32) (p6 + (1 : Int32)) (p4 + (1 : Int32)) (p4 + (1 : Int32)) l0 hf hR)
        · refine xm_aload_n dX12_pairTwo_179 rfl ?_
          refine xb_if hf (fun hb hf => ?_) (fun _ q => nomatch q)
          obtain ⟨p13, ep13, hf⟩ := xbind hf
          refine xb_callV (As := []) (v0 := none) (τ0 := p13) dX12_pairTwo_180 (xc_X12_clearWide _ _) xcl12 xw_2670 xw_2672 xs_198 hb rfl (Nat.le_of_ble_eq_true rfl) rfl (Nat.le_of_ble_eq_true rfl) (fun Q1 hq => m_X12_clearWide (d := d + 6) ep13 (fun g hg => by subst hg; exact hq)) ?_
          refine xm_aload_n dX12_pairTwo_183 rfl ?_
          refine xm_iload_n dX12_pairTwo_184 rfl ?_
          refine xm_iconst dX12_pairTwo_185 (v := 1) (by decide) ?_
          refine xm_iadd dX12_pairTwo_186 ?_
          refine xm_iload dX12_pairTwo_187 rfl ?_
          refine xm_iconst dX12_pairTwo_189 (v := 1) (by decide) ?_
          refine xb_if hf (fun hb hf => ?_) (fun _ q => nomatch q)
          obtain ⟨p14, ep14, hf⟩ := xbind hf
          refine xb_callV (As := [.int (p4 + (1 : Int32)), .int p6, .int (1 : Int32)]) (v0 := none) (τ0 := p14) dX12_pairTwo_190 (xc_X12_addProduct _ _) xcl12 xw_2674 xw_2676 xs_199 hb rfl (Nat.le_of_ble_eq_true rfl) rfl (Nat.le_of_ble_eq_true rfl) (fun Q1 hq => m_X12_addProduct (d := d + 4) ep14 (fun g hg => by subst hg; exact hq)) ?_
          refine xm_aload_n dX12_pairTwo_193 rfl ?_
          refine xm_iload_n dX12_pairTwo_194 rfl ?_
          refine xm_iload dX12_pairTwo_195 rfl ?_
          refine xm_iconst dX12_pairTwo_197 (v := 1) (by decide) ?_
          refine xm_iadd dX12_pairTwo_198 ?_
          refine xm_iconst dX12_pairTwo_199 (v := 1) (by decide) ?_
          refine xb_if hf (fun hb hf => ?_) (fun _ q => nomatch q)
          obtain ⟨p15, ep15, hf⟩ := xbind hf
          refine xb_callV (As := [.int p4, .int (p6 + (1 : Int32)), .int (1 : Int32)]) (v0 := none) (τ0 := p15) dX12_pairTwo_200 (xc_X12_addProduct _ _) xcl12 xw_2674 xw_2676 xs_199 hb rfl (Nat.le_of_ble_eq_true rfl) rfl (Nat.le_of_ble_eq_true rfl) (fun Q1 hq => m_X12_addProduct (d := d + 4) ep15 (fun g hg => by subst hg; exact hq)) ?_
          refine xm_aload_n dX12_pairTwo_203 rfl ?_
          refine xm_iload_n dX12_pairTwo_204 rfl ?_
          refine xm_iconst dX12_pairTwo_205 (v := 1) (by decide) ?_
          refine xm_iadd dX12_pairTwo_206 ?_
          refine xb_if hf (fun hb hf => ?_) (fun _ q => nomatch q)
          obtain ⟨p16, ep16, hf⟩ := xbind hf
          refine xb_callV (As := [.int (p4 + (1 : Int32))]) (v0 := (some (.int p16.1))) (τ0 := p16.2) dX12_pairTwo_207 (xc_X12_storeWide _ _) xcl12 xw_2678 xw_2680 xs_200 hb rfl (Nat.le_of_ble_eq_true rfl) rfl (Nat.le_of_ble_eq_true rfl) (fun Q1 hq => m_X12_storeWide (d := d + 3) ep16 (fun g hg => by subst hg; exact hq)) ?_
          refine xm_istore dX12_pairTwo_210 (by decide) (xm_stL (L' := [(5, .int p16.1), (7, .int p10.1), (6, .int p8), (4, .int p6), (3, .int p4), (0, .ref l0), (1, .int l1), (2, .int l2)]) rfl ?_)
          refine xm_goto 240 dX12_pairTwo_212 (by decide) ?_
          exact xm_sub [5, 4, 0] rfl (L_X12_pairTwo_j240 p16.2 l0 p4 p16.1 hf hR)
      · refine xm_aload_n dX12_pairTwo_152 rfl ?_
        refine xm_iload_n dX12_pairTwo_153 rfl ?_
        refine xm_iload dX12_pairTwo_154 rfl ?_
        refine xb_if hf (fun hb hf => ?_) (fun _ q => nomatch q)
        obtain ⟨p17, ep17, hf⟩ := xbind hf
        refine xb_callV (As := [.int p4, .int p6]) (v0 := (some (.int p17.1))) (τ0 := p17.2) dX12_pairTwo_156 (xc_X12_partOfQuotient _ _) xcl12 xw_2777 xw_2779 xs_221 hb rfl (Nat.le_of_ble_eq_true rfl) rfl (Nat.le_of_ble_eq_true rfl) (fun Q1 hq => m_X12_partOfQuotient (d := d + 3) ep17 (fun g hg => by subst hg; exact hq)) ?_
        refine xm_istore dX12_pairTwo_159 (by decide) (xm_stL (L' := [(5, .int p17.1), (7, .int p10.1), (6, .int p8), (4, .int p6), (3, .int p4), (0, .ref l0), (1, .int l1), (2, .int l2)]) rfl ?_)
        refine xm_aload_n dX12_pairTwo_161 rfl ?_
        refine xm_iload_n dX12_pairTwo_162 rfl ?_
        refine xm_iconst dX12_pairTwo_163 (v := 1) (by decide) ?_
        refine xm_iadd dX12_pairTwo_164 ?_
        refine xm_sipush dX12_pairTwo_165 (v := 3604) (by decide) ?_
        refine xb_if hf (fun hb hf => ?_) (fun _ q => nomatch q)
        obtain ⟨p18, ep18, hf⟩ := xbind hf
        refine xb_callV (As := [.int (p4 + (1 : Int32)), .int (3604 : Int32)]) (v0 := none) (τ0 := p18) dX12_pairTwo_168 (xc_X12_copyValue _ _) xcl12 xw_2100 xw_2102 xs_88 hb rfl (Nat.le_of_ble_eq_true rfl) rfl (Nat.le_of_ble_eq_true rfl) (fun Q1 hq => m_X12_copyValue (d := d + 8) ep18 (fun g hg => by subst hg; exact hq)) ?_
        refine xm_goto 240 dX12_pairTwo_171 (by decide) ?_
        exact xm_sub [5, 4, 0] rfl (L_X12_pairTwo_j240 p18 l0 p4 p17.1 hf hR)
    · refine xm_iload dX12_pairTwo_144 rfl ?_
      cases hf
      exact xm_iret dX12_pairTwo_146 rfl (hR _ rfl)
  · refine xm_aload_n dX12_pairTwo_45 rfl ?_
    refine xm_sipush dX12_pairTwo_46 (v := 3605) (by decide) ?_
    refine xm_iload_n dX12_pairTwo_49 rfl ?_
    refine xm_iload dX12_pairTwo_50 rfl ?_
    refine xb_if hf (fun hb hf => ?_) (fun _ q => nomatch q)
    obtain ⟨p19, ep19, hf⟩ := xbind hf
    refine xb_callV (As := [.int (3605 : Int32), .int p4, .int p6]) (v0 := (some (.int p19.1))) (τ0 := p19.2) dX12_pairTwo_52 (xc_X12_power _ _) xcl12 xw_2536 xw_2538 xs_177 hb rfl (Nat.le_of_ble_eq_true rfl) rfl (Nat.le_of_ble_eq_true rfl) (fun Q1 hq => m_X12_power (d := d + 1) ep19 (fun g hg => by subst hg; exact hq)) ?_
    refine xm_istore dX12_pairTwo_55 (by decide) (xm_stL (L' := [(7, .int p19.1), (6, .int p8), (5, .int v7), (4, .int p6), (3, .int p4), (0, .ref l0), (1, .int l1), (2, .int l2)]) rfl ?_)
    refine xm_iload dX12_pairTwo_57 rfl ?_
    refine xb_if_le 65 dX12_pairTwo_59 (by decide) hf (fun c hf => ?_) (fun c hf => ?_)
    · refine xm_aload_n dX12_pairTwo_65 rfl ?_
      refine xb_getR (a := l0) (c := 12) (k := 5) dX12_pairTwo_66 xcl12 (by decide) xw_1842 rfl hf (fun x20 ex20 hf => ?_)
      refine xm_iload dX12_pairTwo_69 rfl ?_
      refine xb_iald dX12_pairTwo_71 hf (fun x21 ex21 hf => ?_)
      refine xb_if_ne 86 dX12_pairTwo_72 (by decide) hf (fun c hf => ?_) (fun c hf => ?_)
      · refine xm_aload_n dX12_pairTwo_86 rfl ?_
        refine xm_iload_n dX12_pairTwo_87 rfl ?_
        refine xm_aload_n dX12_pairTwo_88 rfl ?_
        refine xb_getR (a := l0) (c := 12) (k := 5) dX12_pairTwo_89 xcl12 (by decide) xw_1842 rfl hf (fun x22 ex22 hf => ?_)
        refine xm_iload dX12_pairTwo_92 rfl ?_
        refine xb_iald dX12_pairTwo_94 hf (fun x23 ex23 hf => ?_)
        refine xb_if hf (fun hb hf => ?_) (fun _ q => nomatch q)
        obtain ⟨p24, ep24, hf⟩ := xbind hf
        refine xb_callV (As := [.int p4, .int x23]) (v0 := (some (.int p24.1))) (τ0 := p24.2) dX12_pairTwo_95 (xc_X12_partOfPower _ _) xcl12 xw_2773 xw_2775 xs_220 hb rfl (Nat.le_of_ble_eq_true rfl) rfl (Nat.le_of_ble_eq_true rfl) (fun Q1 hq => m_X12_partOfPower (d := d + 1) ep24 (fun g hg => by subst hg; exact hq)) ?_
        refine xm_istore dX12_pairTwo_98 (by decide) (xm_stL (L' := [(5, .int p24.1), (7, .int p19.1), (6, .int p8), (4, .int p6), (3, .int p4), (0, .ref l0), (1, .int l1), (2, .int l2)]) rfl ?_)
        exact xm_sub [5, 4, 0] rfl (L_X12_pairTwo_j100 p24.2 l0 p4 p24.1 hf hR)
      · refine xm_aload_n dX12_pairTwo_75 rfl ?_
        refine xm_iload_n dX12_pairTwo_76 rfl ?_
        refine xm_iconst dX12_pairTwo_77 (v := 1) (by decide) ?_
        refine xm_iadd dX12_pairTwo_78 ?_
        refine xm_iconst dX12_pairTwo_79 (v := 0) (by decide) ?_
        refine xb_if hf (fun hb hf => ?_) (fun _ q => nomatch q)
        obtain ⟨p26, ep26, hf⟩ := xbind hf
        refine xb_callV (As := [.int (p4 + (1 : Int32)), .int (0 : Int32)]) (v0 := none) (τ0 := p26) dX12_pairTwo_80 (xc_X12_setInt _ _) xcl12 xw_1820 xw_1822 xs_84 hb rfl (Nat.le_of_ble_eq_true rfl) rfl (Nat.le_of_ble_eq_true rfl) (fun Q1 hq => m_X12_setInt (d := d + 6) ep26 (fun g hg => by subst hg; exact hq)) ?_
        refine xm_goto 100 dX12_pairTwo_83 (by decide) ?_
        exact xm_sub [5, 4, 2] rfl (L_X12_pairTwo_j100 p26 l0 p4 v7 hf hR)
    · refine xm_iload dX12_pairTwo_62 rfl ?_
      cases hf
      exact xm_iret dX12_pairTwo_64 rfl (hR _ rfl)
-- RankwiseModel.pairNode(II)I
def f_X12_pairNode_j215 (σ : xM) (l0 : Nat) (s0 : Int32) (s1 : Int32) (s2 : Nat) : Option (Int32 × xM) :=
  (if xk σ s2 12 = true then (f_X12_setInt σ s2 s1 s0).bind (fun p14 => (gI p14 l0 12 76).bind (fun x15 => (sI p14 l0 12 76 (x15 + (1 : Int32))).bind (fun σ16 => some ((0 : Int32), σ16)))) else none)
set_option maxHeartbeats 4000000 in
set_option maxRecDepth 20000 in
theorem L_X12_pairNode_j215 {G : xG} {π : Nat → Nat} {d C Z : Nat} {Q : xQ} (σ : xM) (l0 : Nat) (s0 : Int32) (s1 : Int32) (s2 : Nat) {x : (Int32 × xM)} (hf : f_X12_pairNode_j215 σ l0 s0 s1 s2 = some x) (hR : ∀ g, x = g → Q (.inl (some (.int g.1))) (g.2) π) : xMach G π J_X12_pairNode (d + 10) C Z 215 [(0, .ref l0)] [.int s0, .int s1, .ref s2] σ Q := by
  unfold f_X12_pairNode_j215 at hf
  refine xb_if hf (fun hb hf => ?_) (fun _ q => nomatch q)
  obtain ⟨p14, ep14, hf⟩ := xbind hf
  refine xb_callV (As := [.int s1, .int s0]) (v0 := none) (τ0 := p14) dX12_pairNode_215 (xc_X12_setInt _ _) xcl12 xw_1820 xw_1822 xs_84 hb rfl (Nat.le_of_ble_eq_true rfl) rfl (Nat.le_of_ble_eq_true rfl) (fun Q1 hq => m_X12_setInt (d := d + 7) ep14 (fun g hg => by subst hg; exact hq)) ?_
  refine xm_aload_n dX12_pairNode_218 rfl ?_
  refine xm_dup dX12_pairNode_219 rfl ?_
  refine xb_getI (a := l0) (c := 12) (k := 76) dX12_pairNode_220 xcl12 (by decide) xw_1913 rfl hf (fun x15 ex15 hf => ?_)
  refine xm_iconst dX12_pairNode_223 (v := 1) (by decide) ?_
  refine xm_iadd dX12_pairNode_224 ?_
  refine xb_putI (a := l0) (c := 12) (k := 76) dX12_pairNode_225 xcl12 (by decide) xw_1913 rfl rfl hf (fun σ16 eσ16 hf => ?_)
  refine xm_iconst dX12_pairNode_228 (v := 0) (by decide) ?_
  cases hf
  exact xm_iret dX12_pairNode_229 rfl (hR _ rfl)
def f_X12_pairNode_j214 (σ : xM) (l0 : Nat) (s0 : Int32) (s1 : Nat) : Option (Int32 × xM) :=
  f_X12_pairNode_j215 σ l0 (0 : Int32) s0 s1
set_option maxHeartbeats 4000000 in
set_option maxRecDepth 20000 in
theorem L_X12_pairNode_j214 {G : xG} {π : Nat → Nat} {d C Z : Nat} {Q : xQ} (σ : xM) (l0 : Nat) (s0 : Int32) (s1 : Nat) {x : (Int32 × xM)} (hf : f_X12_pairNode_j214 σ l0 s0 s1 = some x) (hR : ∀ g, x = g → Q (.inl (some (.int g.1))) (g.2) π) : xMach G π J_X12_pairNode (d + 10) C Z 214 [(0, .ref l0)] [.int s0, .ref s1] σ Q := by
  unfold f_X12_pairNode_j214 at hf
  refine xm_iconst dX12_pairNode_214 (v := 0) (by decide) ?_
  exact xm_sub [0] rfl (L_X12_pairNode_j215 σ l0 (0 : Int32) s0 s1 hf hR)
def f_X12_pairNode_j188 (σ : xM) (l0 : Nat) (l1 : Int32) (l2 : Int32) (l3 : Int32) : Option (Int32 × xM) :=
  (gI σ l0 12 76).bind (fun x12 => (f_X12_partAt σ x12).bind (fun p13 => (if l3 = (0 : Int32) then f_X12_pairNode_j214 σ l0 p13 l0 else (gR σ l0 12 5).bind (fun x17 => (aI σ x17 14 l1).bind (fun x18 => (if x18 = l2 then f_X12_pairNode_j215 σ l0 (1 : Int32) p13 l0 else f_X12_pairNode_j214 σ l0 p13 l0))))))
set_option maxHeartbeats 4000000 in
set_option maxRecDepth 20000 in
theorem L_X12_pairNode_j188 {G : xG} {π : Nat → Nat} {d C Z : Nat} {Q : xQ} (σ : xM) (l0 : Nat) (l1 : Int32) (l2 : Int32) (l3 : Int32) {x : (Int32 × xM)} (hf : f_X12_pairNode_j188 σ l0 l1 l2 l3 = some x) (hR : ∀ g, x = g → Q (.inl (some (.int g.1))) (g.2) π) : xMach G π J_X12_pairNode (d + 10) C Z 188 [(0, .ref l0), (1, .int l1), (2, .int l2), (3, .int l3)] [] σ Q := by
  unfold f_X12_pairNode_j188 at hf
  refine xm_aload_n dX12_pairNode_188 rfl ?_
  refine xm_aload_n dX12_pairNode_189 rfl ?_
  refine xb_getI (a := l0) (c := 12) (k := 76) dX12_pairNode_190 xcl12 (by decide) xw_1913 rfl hf (fun x12 ex12 hf => ?_)
  obtain ⟨p13, ep13, hf⟩ := xbind hf
  refine xb_callS (As := [.int x12]) (v0 := (some (.int p13))) (τ0 := σ) dX12_pairNode_193 (xc_X12_partAt _ _) xw_2781 xw_2782 rfl (Nat.le_of_ble_eq_true rfl) rfl (Nat.le_of_ble_eq_true rfl) (fun Q1 hq => m_X12_partAt (d := d + 9) ep13 (fun g hg => by subst hg; exact hq)) ?_
  refine xm_iload_n dX12_pairNode_196 rfl ?_
  refine xb_if_eq 214 dX12_pairNode_197 (by decide) hf (fun c hf => ?_) (fun c hf => ?_)
  · exact xm_sub [0] rfl (L_X12_pairNode_j214 σ l0 p13 l0 hf hR)
  · refine xm_aload_n dX12_pairNode_200 rfl ?_
    refine xb_getR (a := l0) (c := 12) (k := 5) dX12_pairNode_201 xcl12 (by decide) xw_1842 rfl hf (fun x17 ex17 hf => ?_)
    refine xm_iload_n dX12_pairNode_204 rfl ?_
    refine xb_iald dX12_pairNode_205 hf (fun x18 ex18 hf => ?_)
    refine xm_iload_n dX12_pairNode_206 rfl ?_
    refine xb_icmp_ne 214 dX12_pairNode_207 (by decide) hf (fun c hf => ?_) (fun c hf => ?_)
    · exact xm_sub [0] rfl (L_X12_pairNode_j214 σ l0 p13 l0 hf hR)
    · refine xm_iconst dX12_pairNode_210 (v := 1) (by decide) ?_
      refine xm_goto 215 dX12_pairNode_211 (by decide) ?_
      exact xm_sub [0] rfl (L_X12_pairNode_j215 σ l0 (1 : Int32) p13 l0 hf hR)
def f_X12_pairNode_j144 (σ : xM) (l0 : Nat) (l1 : Int32) (l2 : Int32) (l3 : Int32) : Option (Int32 × xM) :=
  (if l3 = (0 : Int32) then (gI σ l0 12 76).bind (fun x7 => (f_X12_valueAt σ x7).bind (fun p8 => (gR σ l0 12 5).bind (fun x9 => (aI σ x9 14 l1).bind (fun x10 => (if xk σ l0 12 = true then (f_X12_setInt σ l0 p8 x10).bind (fun p11 => f_X12_pairNode_j188 p11 l0 l1 l2 l3) else none))))) else (gI σ l0 12 76).bind (fun x19 => (f_X12_valueAt σ x19).bind (fun p20 => (gR σ l0 12 5).bind (fun x21 => (aI σ x21 14 l1).bind (fun x22 => (if xk σ l0 12 = true then (f_X12_copyValue σ l0 p20 (x22 - (97 : Int32))).bind (fun p23 => f_X12_pairNode_j188 p23 l0 l1 l2 l3) else none))))))
set_option maxHeartbeats 4000000 in
set_option maxRecDepth 20000 in
theorem L_X12_pairNode_j144 {G : xG} {π : Nat → Nat} {d C Z : Nat} {Q : xQ} (σ : xM) (l0 : Nat) (l1 : Int32) (l2 : Int32) (l3 : Int32) {x : (Int32 × xM)} (hf : f_X12_pairNode_j144 σ l0 l1 l2 l3 = some x) (hR : ∀ g, x = g → Q (.inl (some (.int g.1))) (g.2) π) : xMach G π J_X12_pairNode (d + 10) C Z 144 [(0, .ref l0), (1, .int l1), (2, .int l2), (3, .int l3)] [] σ Q := by
  unfold f_X12_pairNode_j144 at hf
  refine xm_iload_n dX12_pairNode_144 rfl ?_
  refine xb_if_eq 171 dX12_pairNode_145 (by decide) hf (fun c hf => ?_) (fun c hf => ?_)
  · refine xm_aload_n dX12_pairNode_171 rfl ?_
    refine xm_aload_n dX12_pairNode_172 rfl ?_
    refine xb_getI (a := l0) (c := 12) (k := 76) dX12_pairNode_173 xcl12 (by decide) xw_1913 rfl hf (fun x7 ex7 hf => ?_)
    obtain ⟨p8, ep8, hf⟩ := xbind hf
    refine xb_callS (As := [.int x7]) (v0 := (some (.int p8))) (τ0 := σ) dX12_pairNode_176 (xc_X12_valueAt _ _) xw_2770 xw_2771 rfl (Nat.le_of_ble_eq_true rfl) rfl (Nat.le_of_ble_eq_true rfl) (fun Q1 hq => m_X12_valueAt (d := d + 9) ep8 (fun g hg => by subst hg; exact hq)) ?_
    refine xm_aload_n dX12_pairNode_179 rfl ?_
    refine xb_getR (a := l0) (c := 12) (k := 5) dX12_pairNode_180 xcl12 (by decide) xw_1842 rfl hf (fun x9 ex9 hf => ?_)
    refine xm_iload_n dX12_pairNode_183 rfl ?_
    refine xb_iald dX12_pairNode_184 hf (fun x10 ex10 hf => ?_)
    refine xb_if hf (fun hb hf => ?_) (fun _ q => nomatch q)
    obtain ⟨p11, ep11, hf⟩ := xbind hf
    refine xb_callV (As := [.int p8, .int x10]) (v0 := none) (τ0 := p11) dX12_pairNode_185 (xc_X12_setInt _ _) xcl12 xw_1820 xw_1822 xs_84 hb rfl (Nat.le_of_ble_eq_true rfl) rfl (Nat.le_of_ble_eq_true rfl) (fun Q1 hq => m_X12_setInt (d := d + 7) ep11 (fun g hg => by subst hg; exact hq)) ?_
    exact xm_sub [0, 1, 2, 3] rfl (L_X12_pairNode_j188 p11 l0 l1 l2 l3 hf hR)
  · refine xm_aload_n dX12_pairNode_148 rfl ?_
    refine xm_aload_n dX12_pairNode_149 rfl ?_
    refine xb_getI (a := l0) (c := 12) (k := 76) dX12_pairNode_150 xcl12 (by decide) xw_1913 rfl hf (fun x19 ex19 hf => ?_)
    obtain ⟨p20, ep20, hf⟩ := xbind hf
    refine xb_callS (As := [.int x19]) (v0 := (some (.int p20))) (τ0 := σ) dX12_pairNode_153 (xc_X12_valueAt _ _) xw_2770 xw_2771 rfl (Nat.le_of_ble_eq_true rfl) rfl (Nat.le_of_ble_eq_true rfl) (fun Q1 hq => m_X12_valueAt (d := d + 9) ep20 (fun g hg => by subst hg; exact hq)) ?_
    refine xm_aload_n dX12_pairNode_156 rfl ?_
    refine xb_getR (a := l0) (c := 12) (k := 5) dX12_pairNode_157 xcl12 (by decide) xw_1842 rfl hf (fun x21 ex21 hf => ?_)
    refine xm_iload_n dX12_pairNode_160 rfl ?_
    refine xb_iald dX12_pairNode_161 hf (fun x22 ex22 hf => ?_)
    refine xm_bipush dX12_pairNode_162 (v := 97) (by decide) ?_
    refine xm_isub dX12_pairNode_164 ?_
    refine xb_if hf (fun hb hf => ?_) (fun _ q => nomatch q)
    obtain ⟨p23, ep23, hf⟩ := xbind hf
    refine xb_callV (As := [.int p20, .int (x22 - (97 : Int32))]) (v0 := none) (τ0 := p23) dX12_pairNode_165 (xc_X12_copyValue _ _) xcl12 xw_2100 xw_2102 xs_88 hb rfl (Nat.le_of_ble_eq_true rfl) rfl (Nat.le_of_ble_eq_true rfl) (fun Q1 hq => m_X12_copyValue (d := d + 9) ep23 (fun g hg => by subst hg; exact hq)) ?_
    refine xm_goto 188 dX12_pairNode_168 (by decide) ?_
    exact xm_sub [0, 1, 2, 3] rfl (L_X12_pairNode_j188 p23 l0 l1 l2 l3 hf hR)
def f_X12_pairNode_j120 (σ : xM) (l0 : Nat) (l1 : Int32) (l2 : Int32) (s0 : Int32) : Option (Int32 × xM) :=
  (if s0 = (0 : Int32) then f_X12_pairNode_j144 σ l0 l1 l2 s0 else (gR σ l0 12 47).bind (fun x24 => (gR σ l0 12 5).bind (fun x25 => (aI σ x25 14 l1).bind (fun x26 => (aI σ x24 15 (x26 - (97 : Int32))).bind (fun x27 => (if x27 = (0 : Int32) then some ((4 : Int32), σ) else f_X12_pairNode_j144 σ l0 l1 l2 s0))))))
set_option maxHeartbeats 4000000 in
set_option maxRecDepth 20000 in
theorem L_X12_pairNode_j120 {G : xG} {π : Nat → Nat} {d C Z : Nat} {Q : xQ} (σ : xM) (l0 : Nat) (l1 : Int32) (l2 : Int32) (s0 : Int32) {x : (Int32 × xM)} (hf : f_X12_pairNode_j120 σ l0 l1 l2 s0 = some x) (hR : ∀ g, x = g → Q (.inl (some (.int g.1))) (g.2) π) : xMach G π J_X12_pairNode (d + 10) C Z 120 [(0, .ref l0), (1, .int l1), (2, .int l2)] [.int s0] σ Q := by
  unfold f_X12_pairNode_j120 at hf
  refine xm_istore_n dX12_pairNode_120 (by decide) (xm_stL (L' := [(3, .int s0), (0, .ref l0), (1, .int l1), (2, .int l2)]) rfl ?_)
  refine xm_iload_n dX12_pairNode_121 rfl ?_
  refine xb_if_eq 144 dX12_pairNode_122 (by decide) hf (fun c hf => ?_) (fun c hf => ?_)
  · exact xm_sub [1, 2, 3, 0] rfl (L_X12_pairNode_j144 σ l0 l1 l2 s0 hf hR)
  · refine xm_aload_n dX12_pairNode_125 rfl ?_
    refine xb_getR (a := l0) (c := 12) (k := 47) dX12_pairNode_126 xcl12 (by decide) xw_1884 rfl hf (fun x24 ex24 hf => ?_)
    refine xm_aload_n dX12_pairNode_129 rfl ?_
    refine xb_getR (a := l0) (c := 12) (k := 5) dX12_pairNode_130 xcl12 (by decide) xw_1842 rfl hf (fun x25 ex25 hf => ?_)
    refine xm_iload_n dX12_pairNode_133 rfl ?_
    refine xb_iald dX12_pairNode_134 hf (fun x26 ex26 hf => ?_)
    refine xm_bipush dX12_pairNode_135 (v := 97) (by decide) ?_
    refine xm_isub dX12_pairNode_137 ?_
    refine xb_zald dX12_pairNode_138 hf (fun x27 ex27 hf => ?_)
    refine xb_if_ne 144 dX12_pairNode_139 (by decide) hf (fun c hf => ?_) (fun c hf => ?_)
    · exact xm_sub [1, 2, 3, 0] rfl (L_X12_pairNode_j144 σ l0 l1 l2 s0 hf hR)
    · refine xm_iconst dX12_pairNode_142 (v := 4) (by decide) ?_
      cases hf
      exact xm_iret dX12_pairNode_143 rfl (hR _ rfl)
def f_X12_pairNode_j31 (σ : xM) (l0 : Nat) (l1 : Int32) (l2 : Int32) : Option (Int32 × xM) :=
  (gR σ l0 12 4).bind (fun x3 => (aI σ x3 14 l1).bind (fun x4 => (if x4 = (3 : Int32) then (gR σ l0 12 3).bind (fun x28 => (gI σ l0 12 76).bind (fun x29 => (f_X12_valueAt σ (x29 - (1 : Int32))).bind (fun p30 => (gI σ l0 12 76).bind (fun x31 => (f_X12_valueAt σ (x31 - (1 : Int32))).bind (fun p32 => (if xk σ l0 12 = true then (f_X12_sign σ l0 p32).bind (fun p33 => (wI σ x28 ((28 : Int32) * p30) (-p33)).bind (fun σ34 => (gR σ34 l0 12 3).bind (fun x35 => (gI σ34 l0 12 76).bind (fun x36 => (f_X12_partAt σ34 (x36 - (1 : Int32))).bind (fun p37 => (gI σ34 l0 12 76).bind (fun x38 => (f_X12_partAt σ34 (x38 - (1 : Int32))).bind (fun p39 => (if xk σ34 l0 12 = true then (f_X12_sign σ34 l0 p39).bind (fun p40 => (wI σ34 x35 ((28 : Int32) * p37) (-p40)).bind (fun σ41 => some ((0 : Int32), σ41))) else none)))))))) else none)))))) else (gR σ l0 12 4).bind (fun x5 => (aI σ x5 14 l1).bind (fun x6 => (if x6 = (1 : Int32) then f_X12_pairNode_j120 σ l0 l1 l2 (1 : Int32) else f_X12_pairNode_j120 σ l0 l1 l2 (0 : Int32)))))))
set_option maxHeartbeats 4000000 in
set_option maxRecDepth 20000 in
theorem L_X12_pairNode_j31 {G : xG} {π : Nat → Nat} {d C Z : Nat} {Q : xQ} (σ : xM) (l0 : Nat) (l1 : Int32) (l2 : Int32) {x : (Int32 × xM)} (hf : f_X12_pairNode_j31 σ l0 l1 l2 = some x) (hR : ∀ g, x = g → Q (.inl (some (.int g.1))) (g.2) π) : xMach G π J_X12_pairNode (d + 10) C Z 31 [(0, .ref l0), (1, .int l1), (2, .int l2)] [] σ Q := by
  unfold f_X12_pairNode_j31 at hf
  refine xm_aload_n dX12_pairNode_31 rfl ?_
  refine xb_getR (a := l0) (c := 12) (k := 4) dX12_pairNode_32 xcl12 (by decide) xw_1841 rfl hf (fun x3 ex3 hf => ?_)
  refine xm_iload_n dX12_pairNode_35 rfl ?_
  refine xb_iald dX12_pairNode_36 hf (fun x4 ex4 hf => ?_)
  refine xm_iconst dX12_pairNode_37 (v := 3) (by decide) ?_
  refine xb_icmp_ne 105 dX12_pairNode_38 (by decide) hf (fun c hf => ?_) (fun c hf => ?_)
  · refine xm_aload_n dX12_pairNode_105 rfl ?_
    refine xb_getR (a := l0) (c := 12) (k := 4) dX12_pairNode_106 xcl12 (by decide) xw_1841 rfl hf (fun x5 ex5 hf => ?_)
    refine xm_iload_n dX12_pairNode_109 rfl ?_
    refine xb_iald dX12_pairNode_110 hf (fun x6 ex6 hf => ?_)
    refine xm_iconst dX12_pairNode_111 (v := 1) (by decide) ?_
    refine xb_icmp_ne 119 dX12_pairNode_112 (by decide) hf (fun c hf => ?_) (fun c hf => ?_)
    · refine xm_iconst dX12_pairNode_119 (v := 0) (by decide) ?_
      exact xm_sub [0, 1, 2] rfl (L_X12_pairNode_j120 σ l0 l1 l2 (0 : Int32) hf hR)
    · refine xm_iconst dX12_pairNode_115 (v := 1) (by decide) ?_
      refine xm_goto 120 dX12_pairNode_116 (by decide) ?_
      exact xm_sub [0, 1, 2] rfl (L_X12_pairNode_j120 σ l0 l1 l2 (1 : Int32) hf hR)
  · refine xm_aload_n dX12_pairNode_41 rfl ?_
    refine xb_getR (a := l0) (c := 12) (k := 3) dX12_pairNode_42 xcl12 (by decide) xw_1840 rfl hf (fun x28 ex28 hf => ?_)
    refine xm_bipush dX12_pairNode_45 (v := 28) (by decide) ?_
    refine xm_aload_n dX12_pairNode_47 rfl ?_
    refine xb_getI (a := l0) (c := 12) (k := 76) dX12_pairNode_48 xcl12 (by decide) xw_1913 rfl hf (fun x29 ex29 hf => ?_)
    refine xm_iconst dX12_pairNode_51 (v := 1) (by decide) ?_
    refine xm_isub dX12_pairNode_52 ?_
    obtain ⟨p30, ep30, hf⟩ := xbind hf
    refine xb_callS (As := [.int (x29 - (1 : Int32))]) (v0 := (some (.int p30))) (τ0 := σ) dX12_pairNode_53 (xc_X12_valueAt _ _) xw_2770 xw_2771 rfl (Nat.le_of_ble_eq_true rfl) rfl (Nat.le_of_ble_eq_true rfl) (fun Q1 hq => m_X12_valueAt (d := d + 9) ep30 (fun g hg => by subst hg; exact hq)) ?_
    refine xm_imul dX12_pairNode_56 ?_
    refine xm_aload_n dX12_pairNode_57 rfl ?_
    refine xm_aload_n dX12_pairNode_58 rfl ?_
    refine xb_getI (a := l0) (c := 12) (k := 76) dX12_pairNode_59 xcl12 (by decide) xw_1913 rfl hf (fun x31 ex31 hf => ?_)
    refine xm_iconst dX12_pairNode_62 (v := 1) (by decide) ?_
    refine xm_isub dX12_pairNode_63 ?_
    obtain ⟨p32, ep32, hf⟩ := xbind hf
    refine xb_callS (As := [.int (x31 - (1 : Int32))]) (v0 := (some (.int p32))) (τ0 := σ) dX12_pairNode_64 (xc_X12_valueAt _ _) xw_2770 xw_2771 rfl (Nat.le_of_ble_eq_true rfl) rfl (Nat.le_of_ble_eq_true rfl) (fun Q1 hq => m_X12_valueAt (d := d + 9) ep32 (fun g hg => by subst hg; exact hq)) ?_
    refine xb_if hf (fun hb hf => ?_) (fun _ q => nomatch q)
    obtain ⟨p33, ep33, hf⟩ := xbind hf
    refine xb_callV (As := [.int p32]) (v0 := (some (.int p33))) (τ0 := σ) dX12_pairNode_67 (xc_X12_sign _ _) xcl12 xw_2387 xw_2389 xs_141 hb rfl (Nat.le_of_ble_eq_true rfl) rfl (Nat.le_of_ble_eq_true rfl) (fun Q1 hq => m_X12_sign (d := d + 9) ep33 (fun g hg => by subst hg; exact hq)) ?_
    refine xm_ineg dX12_pairNode_70 ?_
    refine xb_iast dX12_pairNode_71 hf (fun σ34 eσ34 hf => ?_)
    refine xm_aload_n dX12_pairNode_72 rfl ?_
    refine xb_getR (a := l0) (c := 12) (k := 3) dX12_pairNode_73 xcl12 (by decide) xw_1840 rfl hf (fun x35 ex35 hf => ?_)
    refine xm_bipush dX12_pairNode_76 (v := 28) (by decide) ?_
    refine xm_aload_n dX12_pairNode_78 rfl ?_
    refine xb_getI (a := l0) (c := 12) (k := 76) dX12_pairNode_79 xcl12 (by decide) xw_1913 rfl hf (fun x36 ex36 hf => ?_)
    refine xm_iconst dX12_pairNode_82 (v := 1) (by decide) ?_
    refine xm_isub dX12_pairNode_83 ?_
    obtain ⟨p37, ep37, hf⟩ := xbind hf
    refine xb_callS (As := [.int (x36 - (1 : Int32))]) (v0 := (some (.int p37))) (τ0 := σ34) dX12_pairNode_84 (xc_X12_partAt _ _) xw_2781 xw_2782 rfl (Nat.le_of_ble_eq_true rfl) rfl (Nat.le_of_ble_eq_true rfl) (fun Q1 hq => m_X12_partAt (d := d + 9) ep37 (fun g hg => by subst hg; exact hq)) ?_
    refine xm_imul dX12_pairNode_87 ?_
    refine xm_aload_n dX12_pairNode_88 rfl ?_
    refine xm_aload_n dX12_pairNode_89 rfl ?_
    refine xb_getI (a := l0) (c := 12) (k := 76) dX12_pairNode_90 xcl12 (by decide) xw_1913 rfl hf (fun x38 ex38 hf => ?_)
    refine xm_iconst dX12_pairNode_93 (v := 1) (by decide) ?_
    refine xm_isub dX12_pairNode_94 ?_
    obtain ⟨p39, ep39, hf⟩ := xbind hf
    refine xb_callS (As := [.int (x38 - (1 : Int32))]) (v0 := (some (.int p39))) (τ0 := σ34) dX12_pairNode_95 (xc_X12_partAt _ _) xw_2781 xw_2782 rfl (Nat.le_of_ble_eq_true rfl) rfl (Nat.le_of_ble_eq_true rfl) (fun Q1 hq => m_X12_partAt (d := d + 9) ep39 (fun g hg => by subst hg; exact hq)) ?_
    refine xb_if hf (fun hb hf => ?_) (fun _ q => nomatch q)
    obtain ⟨p40, ep40, hf⟩ := xbind hf
    refine xb_callV (As := [.int p39]) (v0 := (some (.int p40))) (τ0 := σ34) dX12_pairNode_98 (xc_X12_sign _ _) xcl12 xw_2387 xw_2389 xs_141 hb rfl (Nat.le_of_ble_eq_true rfl) rfl (Nat.le_of_ble_eq_true rfl) (fun Q1 hq => m_X12_sign (d := d + 9) ep40 (fun g hg => by subst hg; exact hq)) ?_
    refine xm_ineg dX12_pairNode_101 ?_
    refine xb_iast dX12_pairNode_102 hf (fun σ41 eσ41 hf => ?_)
    refine xm_iconst dX12_pairNode_103 (v := 0) (by decide) ?_
    cases hf
    exact xm_iret dX12_pairNode_104 rfl (hR _ rfl)
def f_X12_pairNode (σ : xM) (l0 : Nat) (l1 : Int32) (l2 : Int32) : Option (Int32 × xM) :=
  (gR σ l0 12 4).bind (fun x1 => (aI σ x1 14 l1).bind (fun x2 => (if x2 = (3 : Int32) then (gR σ l0 12 7).bind (fun x42 => (aI σ x42 14 l1).bind (fun x43 => (if x43 = (2 : Int32) then (if xk σ l0 12 = true then (f_X12_meaningAt σ l0 l1).bind (fun p44 => (if xk σ l0 12 = true then (f_X12_pairTwo σ l0 l1 p44).bind (fun p45 => some (p45.1, p45.2)) else none)) else none) else f_X12_pairNode_j31 σ l0 l1 l2))) else f_X12_pairNode_j31 σ l0 l1 l2)))
set_option maxHeartbeats 4000000 in
set_option maxRecDepth 20000 in
theorem m_X12_pairNode {G : xG} {π : Nat → Nat} {d C Z : Nat} {Q : xQ} {σ : xM} {l0 : Nat} {l1 : Int32} {l2 : Int32} {x : (Int32 × xM)} (hf : f_X12_pairNode σ l0 l1 l2 = some x) (hR : ∀ g, x = g → Q (.inl (some (.int g.1))) (g.2) π) : xMach G π J_X12_pairNode (d + 10) C Z 0 (lv_args 0 [.ref l0, .int l1, .int l2]) [] σ Q := by
  unfold f_X12_pairNode at hf
  refine xm_stL (L' := [(0, .ref l0), (1, .int l1), (2, .int l2)]) rfl ?_
  refine xm_aload_n dX12_pairNode_0 rfl ?_
  refine xb_getR (a := l0) (c := 12) (k := 4) dX12_pairNode_1 xcl12 (by decide) xw_1841 rfl hf (fun x1 ex1 hf => ?_)
  refine xm_iload_n dX12_pairNode_4 rfl ?_
  refine xb_iald dX12_pairNode_5 hf (fun x2 ex2 hf => ?_)
  refine xm_iconst dX12_pairNode_6 (v := 3) (by decide) ?_
  refine xb_icmp_ne 31 dX12_pairNode_7 (by decide) hf (fun c hf => ?_) (fun c hf => ?_)
  · exact xm_sub [0, 1, 2] rfl (L_X12_pairNode_j31 σ l0 l1 l2 hf hR)
  · refine xm_aload_n dX12_pairNode_10 rfl ?_
    refine xb_getR (a := l0) (c := 12) (k := 7) dX12_pairNode_11 xcl12 (by decide) xw_1844 rfl hf (fun x42 ex42 hf => ?_)
    refine xm_iload_n dX12_pairNode_14 rfl ?_
    refine xb_iald dX12_pairNode_15 hf (fun x43 ex43 hf => ?_)
    refine xm_iconst dX12_pairNode_16 (v := 2) (by decide) ?_
    refine xb_icmp_ne 31 dX12_pairNode_17 (by decide) hf (fun c hf => ?_) (fun c hf => ?_)
    · exact xm_sub [0, 1, 2] rfl (L_X12_pairNode_j31 σ l0 l1 l2 hf hR)
    · refine xm_aload_n dX12_pairNode_20 rfl ?_
      refine xm_iload_n dX12_pairNode_21 rfl ?_
      refine xm_aload_n dX12_pairNode_22 rfl ?_
      refine xm_iload_n dX12_pairNode_23 rfl ?_
      refine xb_if hf (fun hb hf => ?_) (fun _ q => nomatch q)
      obtain ⟨p44, ep44, hf⟩ := xbind hf
      refine xb_callV (As := [.int l1]) (v0 := (some (.int p44))) (τ0 := σ) dX12_pairNode_24 (xc_X12_meaningAt _ _) xcl12 xw_2504 xw_2506 xs_169 hb rfl (Nat.le_of_ble_eq_true rfl) rfl (Nat.le_of_ble_eq_true rfl) (fun Q1 hq => m_X12_meaningAt (d := d + 8) ep44 (fun g hg => by subst hg; exact hq)) ?_
      refine xb_if hf (fun hb hf => ?_) (fun _ q => nomatch q)
      obtain ⟨p45, ep45, hf⟩ := xbind hf
      refine xb_callV (As := [.int l1, .int p44]) (v0 := (some (.int p45.1))) (τ0 := p45.2) dX12_pairNode_27 (xc_X12_pairTwo _ _) xcl12 xw_2766 xw_2768 xs_219 hb rfl (Nat.le_of_ble_eq_true rfl) rfl (Nat.le_of_ble_eq_true rfl) (fun Q1 hq => m_X12_pairTwo (d := d + 0) ep45 (fun g hg => by subst hg; exact hq)) ?_
      cases hf
      exact xm_iret dX12_pairNode_30 rfl (hR _ rfl)
-- RankwiseModel.slopes(II)I
def f_X12_slopes_s17 (s : (Nat × Int32 × Int32 × Int32 × Int32 × xM)) : Option ((Int32 × xM) ⊕ ((Int32 × xM) ⊕ (Nat × Int32 × Int32 × Int32 × Int32 × xM))) :=
  xlet s.1 (fun l0 => xlet s.2.1 (fun l2 => xlet s.2.2.1 (fun l3 => xlet s.2.2.2.1 (fun l4 => xlet s.2.2.2.2.1 (fun l5 => xlet s.2.2.2.2.2 (fun σ => (if l3 ≤ l5 then some (Sum.inr (Sum.inl (l4, σ))) else (if l4 = (0 : Int32) then (gR σ l0 12 14).bind (fun x5 => (aI σ x5 14 l5).bind (fun x6 => (if xk σ l0 12 = true then (f_X12_pairNode σ l0 x6 l2).bind (fun p7 => xlet (l5 + (1 : Int32)) (fun v8 => some (Sum.inr (Sum.inr (l0, l2, l3, p7.1, v8, p7.2))))) else none))) else some (Sum.inr (Sum.inl (l4, σ)))))))))))
set_option maxHeartbeats 4000000 in
set_option maxRecDepth 20000 in
theorem L_X12_slopes_s17 {G : xG} {π : Nat → Nat} {d C Z : Nat} {Q : xQ} (σ : xM) (l0 : Nat) (l2 : Int32) (l3 : Int32) (l4 : Int32) (l5 : Int32) {x : ((Int32 × xM) ⊕ ((Int32 × xM) ⊕ (Nat × Int32 × Int32 × Int32 × Int32 × xM)))} (hf : f_X12_slopes_s17 (l0, l2, l3, l4, l5, σ) = some x) (hR : ∀ g, x = Sum.inl (g) → Q (.inl (some (.int g.1))) (g.2) π) (hE : ∀ e : (Int32 × xM), x = Sum.inr (Sum.inl e) → xMach G π J_X12_slopes (d + 11) C Z 48 [(4, .int e.1)] [] e.2 Q) (hC : ∀ e : (Nat × Int32 × Int32 × Int32 × Int32 × xM), x = Sum.inr (Sum.inr e) → xMach G π J_X12_slopes (d + 11) C Z 17 [(0, .ref e.1), (2, .int e.2.1), (3, .int e.2.2.1), (4, .int e.2.2.2.1), (5, .int e.2.2.2.2.1)] [] e.2.2.2.2.2 Q) : xMach G π J_X12_slopes (d + 11) C Z 17 [(0, .ref l0), (2, .int l2), (3, .int l3), (4, .int l4), (5, .int l5)] [] σ Q := by
  have hf : (if l3 ≤ l5 then some (Sum.inr (Sum.inl (l4, σ))) else (if l4 = (0 : Int32) then (gR σ l0 12 14).bind (fun x5 => (aI σ x5 14 l5).bind (fun x6 => (if xk σ l0 12 = true then (f_X12_pairNode σ l0 x6 l2).bind (fun p7 => xlet (l5 + (1 : Int32)) (fun v8 => some (Sum.inr (Sum.inr (l0, l2, l3, p7.1, v8, p7.2))))) else none))) else some (Sum.inr (Sum.inl (l4, σ))))) = some x := hf
  refine xm_iload dX12_slopes_17 rfl ?_
  refine xm_iload_n dX12_slopes_19 rfl ?_
  refine xb_icmp_ge 48 dX12_slopes_20 (by decide) hf (fun c hf => ?_) (fun c hf => ?_)
  · cases hf
    exact xm_sub [3] rfl (hE _ rfl)
  · refine xm_iload dX12_slopes_23 rfl ?_
    refine xb_if_ne 48 dX12_slopes_25 (by decide) hf (fun c hf => ?_) (fun c hf => ?_)
    · cases hf
      exact xm_sub [3] rfl (hE _ rfl)
    · refine xm_aload_n dX12_slopes_28 rfl ?_
      refine xm_aload_n dX12_slopes_29 rfl ?_
      refine xb_getR (a := l0) (c := 12) (k := 14) dX12_slopes_30 xcl12 (by decide) xw_1851 rfl hf (fun x5 ex5 hf => ?_)
      refine xm_iload dX12_slopes_33 rfl ?_
      refine xb_iald dX12_slopes_35 hf (fun x6 ex6 hf => ?_)
      refine xm_iload_n dX12_slopes_36 rfl ?_
      refine xb_if hf (fun hb hf => ?_) (fun _ q => nomatch q)
      obtain ⟨p7, ep7, hf⟩ := xbind hf
      refine xb_callV (As := [.int x6, .int l2]) (v0 := (some (.int p7.1))) (τ0 := p7.2) dX12_slopes_37 (xc_X12_pairNode _ _) xcl12 xw_2762 xw_2764 xs_218 hb rfl (Nat.le_of_ble_eq_true rfl) rfl (Nat.le_of_ble_eq_true rfl) (fun Q1 hq => m_X12_pairNode (d := d + 0) ep7 (fun g hg => by subst hg; exact hq)) ?_
      refine xm_istore dX12_slopes_40 (by decide) (xm_stL (L' := [(4, .int p7.1), (0, .ref l0), (2, .int l2), (3, .int l3), (5, .int l5)]) rfl ?_)
      refine xb_iinc dX12_slopes_42 rfl (by decide) (by decide) hf (fun v8 ev8 hf => xm_stL (L' := [(5, .int v8), (4, .int p7.1), (0, .ref l0), (2, .int l2), (3, .int l3)]) rfl ?_)
      refine xm_goto 17 dX12_slopes_45 (by decide) ?_
      cases hf
      exact xm_sub [2, 3, 4, 1, 0] rfl (hC _ rfl)
theorem L_X12_slopes_l17 {G : xG} {π : Nat → Nat} {d C Z : Nat} {Q : xQ} {s0 : (Nat × Int32 × Int32 × Int32 × Int32 × xM)} {x : ((Int32 × xM) ⊕ (Int32 × xM))} (h1 : xloop (f_X12_slopes_s17) xF s0 = some x) (hR : ∀ g, x = Sum.inl g → Q (.inl (some (.int g.1))) (g.2) π) (hE : ∀ e : (Int32 × xM), x = Sum.inr e → xMach G π J_X12_slopes (d + 11) C Z 48 [(4, .int e.1)] [] e.2 Q) : xMach G π J_X12_slopes (d + 11) C Z 17 [(0, .ref s0.1), (2, .int s0.2.1), (3, .int s0.2.2.1), (4, .int s0.2.2.2.1), (5, .int s0.2.2.2.2.1)] [] s0.2.2.2.2.2 Q := by
  refine xloop_run (M := (fun s : (Nat × Int32 × Int32 × Int32 × Int32 × xM) => xMach G π J_X12_slopes (d + 11) C Z 17 [(0, .ref s.1), (2, .int s.2.1), (3, .int s.2.2.1), (4, .int s.2.2.2.1), (5, .int s.2.2.2.2.1)] [] s.2.2.2.2.2 Q)) (r := x) ?_ xF _ h1
  intro s y hs hx
  exact L_X12_slopes_s17 s.2.2.2.2.2 s.1 s.2.1 s.2.2.1 s.2.2.2.1 s.2.2.2.2.1 (x := y) hs (fun g hg => by subst hg; exact hR g hx) (fun e he => by subst he; exact hE e hx) (fun e he => by subst he; exact hx)
def f_X12_slopes_j48 (σ : xM) (l4 : Int32) : Option (Int32 × xM) :=
  some (l4, σ)
set_option maxHeartbeats 4000000 in
set_option maxRecDepth 20000 in
theorem L_X12_slopes_j48 {G : xG} {π : Nat → Nat} {d C Z : Nat} {Q : xQ} (σ : xM) (l4 : Int32) {x : (Int32 × xM)} (hf : f_X12_slopes_j48 σ l4 = some x) (hR : ∀ g, x = g → Q (.inl (some (.int g.1))) (g.2) π) : xMach G π J_X12_slopes (d + 11) C Z 48 [(4, .int l4)] [] σ Q := by
  unfold f_X12_slopes_j48 at hf
  refine xm_iload dX12_slopes_48 rfl ?_
  cases hf
  exact xm_iret dX12_slopes_50 rfl (hR _ rfl)
def f_X12_slopes (σ : xM) (l0 : Nat) (l1 : Int32) (l2 : Int32) : Option (Int32 × xM) :=
  (sI σ l0 12 76 (0 : Int32)).bind (fun σ1 => (if xk σ1 l0 12 = true then (f_X12_inOrder σ1 l0 l1).bind (fun p2 => xlet (0 : Int32) (fun v3 => xlet (0 : Int32) (fun v4 => (xloop (f_X12_slopes_s17 ) xF (l0, l2, p2.1, v3, v4, p2.2)).bind (Sum.elim (fun g => some g) (fun e => f_X12_slopes_j48 e.2 e.1))))) else none))
set_option maxHeartbeats 4000000 in
set_option maxRecDepth 20000 in
theorem m_X12_slopes {G : xG} {π : Nat → Nat} {d C Z : Nat} {Q : xQ} {σ : xM} {l0 : Nat} {l1 : Int32} {l2 : Int32} {x : (Int32 × xM)} (hf : f_X12_slopes σ l0 l1 l2 = some x) (hR : ∀ g, x = g → Q (.inl (some (.int g.1))) (g.2) π) : xMach G π J_X12_slopes (d + 11) C Z 0 (lv_args 0 [.ref l0, .int l1, .int l2]) [] σ Q := by
  unfold f_X12_slopes at hf
  refine xm_stL (L' := [(0, .ref l0), (1, .int l1), (2, .int l2)]) rfl ?_
  refine xm_aload_n dX12_slopes_0 rfl ?_
  refine xm_iconst dX12_slopes_1 (v := 0) (by decide) ?_
  refine xb_putI (a := l0) (c := 12) (k := 76) dX12_slopes_2 xcl12 (by decide) xw_1913 rfl rfl hf (fun σ1 eσ1 hf => ?_)
  refine xm_aload_n dX12_slopes_5 rfl ?_
  refine xm_iload_n dX12_slopes_6 rfl ?_
  refine xb_if hf (fun hb hf => ?_) (fun _ q => nomatch q)
  obtain ⟨p2, ep2, hf⟩ := xbind hf
  refine xb_callV (As := [.int l1]) (v0 := (some (.int p2.1))) (τ0 := p2.2) dX12_slopes_7 (xc_X12_inOrder _ _) xcl12 xw_2343 xw_2345 xs_132 hb rfl (Nat.le_of_ble_eq_true rfl) rfl (Nat.le_of_ble_eq_true rfl) (fun Q1 hq => m_X12_inOrder (d := d + 10) ep2 (fun g hg => by subst hg; exact hq)) ?_
  refine xm_istore_n dX12_slopes_10 (by decide) (xm_stL (L' := [(3, .int p2.1), (0, .ref l0), (1, .int l1), (2, .int l2)]) rfl ?_)
  refine xm_iconst dX12_slopes_11 (v := 0) (by decide) ?_
  refine xb_topi hf (fun v3 ev3 hf => ?_)
  refine xm_istore dX12_slopes_12 (by decide) (xm_stL (L' := [(4, .int v3), (3, .int p2.1), (0, .ref l0), (1, .int l1), (2, .int l2)]) rfl ?_)
  refine xm_iconst dX12_slopes_14 (v := 0) (by decide) ?_
  refine xb_topi hf (fun v4 ev4 hf => ?_)
  refine xm_istore dX12_slopes_15 (by decide) (xm_stL (L' := [(5, .int v4), (4, .int v3), (3, .int p2.1), (0, .ref l0), (1, .int l1), (2, .int l2)]) rfl ?_)
  obtain ⟨o, h1, hf⟩ := xbind hf
  refine xm_sub [3, 5, 2, 1, 0] rfl (L_X12_slopes_l17  h1 (fun g hg => ?_) (fun e he => ?_))
  · subst hg
    cases hf
    exact hR _ rfl
  · subst he
    rw [Sum.elim_inr] at hf
    have hf : f_X12_slopes_j48 e.2 e.1 = some _ := hf
    exact xm_sub [0] rfl (L_X12_slopes_j48 e.2 e.1 hf hR)
-- RankwiseModel.note(IIIII)I
def f_X12_note_j32 (σ : xM) (l0 : Nat) (l1 : Int32) (l2 : Int32) (l3 : Int32) (l4 : Int32) (l5 : Int32) : Option (Int32 × xM) :=
  (gI σ l0 12 83).bind (fun x2 => (gI σ l0 12 84).bind (fun x3 => xlet ((x2 + x3) - (x2 + x3) / (20 : Int32) * (20 : Int32)) (fun v4 => (gR σ l0 12 77).bind (fun x5 => (wI σ x5 v4 l1).bind (fun σ6 => (gR σ6 l0 12 78).bind (fun x7 => (wI σ6 x7 v4 l2).bind (fun σ8 => (gR σ8 l0 12 79).bind (fun x9 => (wI σ8 x9 v4 l3).bind (fun σ10 => (gR σ10 l0 12 80).bind (fun x11 => (wI σ10 x11 v4 l4).bind (fun σ12 => (gR σ12 l0 12 81).bind (fun x13 => (wI σ12 x13 v4 l5).bind (fun σ14 => (gI σ14 l0 12 84).bind (fun x15 => (sI σ14 l0 12 84 (x15 + (1 : Int32))).bind (fun σ16 => some (v4, σ16))))))))))))))))
set_option maxHeartbeats 4000000 in
set_option maxRecDepth 20000 in
theorem L_X12_note_j32 {G : xG} {π : Nat → Nat} {d C Z : Nat} {Q : xQ} (σ : xM) (l0 : Nat) (l1 : Int32) (l2 : Int32) (l3 : Int32) (l4 : Int32) (l5 : Int32) {x : (Int32 × xM)} (hf : f_X12_note_j32 σ l0 l1 l2 l3 l4 l5 = some x) (hR : ∀ g, x = g → Q (.inl (some (.int g.1))) (g.2) π) : xMach G π J_X12_note (d + 0) C Z 32 [(0, .ref l0), (1, .int l1), (2, .int l2), (3, .int l3), (4, .int l4), (5, .int l5)] [] σ Q := by
  unfold f_X12_note_j32 at hf
  refine xm_aload_n dX12_note_32 rfl ?_
  refine xb_getI (a := l0) (c := 12) (k := 83) dX12_note_33 xcl12 (by decide) xw_1920 rfl hf (fun x2 ex2 hf => ?_)
  refine xm_aload_n dX12_note_36 rfl ?_
  refine xb_getI (a := l0) (c := 12) (k := 84) dX12_note_37 xcl12 (by decide) xw_1921 rfl hf (fun x3 ex3 hf => ?_)
  refine xm_iadd dX12_note_40 ?_
  refine xm_bipush dX12_note_41 (v := 20) (by decide) ?_
  refine xm_irem dX12_note_43 (by decide) ?_
  refine xb_topi hf (fun v4 ev4 hf => ?_)
  refine xm_istore dX12_note_44 (by decide) (xm_stL (L' := [(6, .int v4), (0, .ref l0), (1, .int l1), (2, .int l2), (3, .int l3), (4, .int l4), (5, .int l5)]) rfl ?_)
  refine xm_aload_n dX12_note_46 rfl ?_
  refine xb_getR (a := l0) (c := 12) (k := 77) dX12_note_47 xcl12 (by decide) xw_1914 rfl hf (fun x5 ex5 hf => ?_)
  refine xm_iload dX12_note_50 rfl ?_
  refine xm_iload_n dX12_note_52 rfl ?_
  refine xb_iast dX12_note_53 hf (fun σ6 eσ6 hf => ?_)
  refine xm_aload_n dX12_note_54 rfl ?_
  refine xb_getR (a := l0) (c := 12) (k := 78) dX12_note_55 xcl12 (by decide) xw_1915 rfl hf (fun x7 ex7 hf => ?_)
  refine xm_iload dX12_note_58 rfl ?_
  refine xm_iload_n dX12_note_60 rfl ?_
  refine xb_iast dX12_note_61 hf (fun σ8 eσ8 hf => ?_)
  refine xm_aload_n dX12_note_62 rfl ?_
  refine xb_getR (a := l0) (c := 12) (k := 79) dX12_note_63 xcl12 (by decide) xw_1916 rfl hf (fun x9 ex9 hf => ?_)
  refine xm_iload dX12_note_66 rfl ?_
  refine xm_iload_n dX12_note_68 rfl ?_
  refine xb_iast dX12_note_69 hf (fun σ10 eσ10 hf => ?_)
  refine xm_aload_n dX12_note_70 rfl ?_
  refine xb_getR (a := l0) (c := 12) (k := 80) dX12_note_71 xcl12 (by decide) xw_1917 rfl hf (fun x11 ex11 hf => ?_)
  refine xm_iload dX12_note_74 rfl ?_
  refine xm_iload dX12_note_76 rfl ?_
  refine xb_iast dX12_note_78 hf (fun σ12 eσ12 hf => ?_)
  refine xm_aload_n dX12_note_79 rfl ?_
  refine xb_getR (a := l0) (c := 12) (k := 81) dX12_note_80 xcl12 (by decide) xw_1918 rfl hf (fun x13 ex13 hf => ?_)
  refine xm_iload dX12_note_83 rfl ?_
  refine xm_iload dX12_note_85 rfl ?_
  refine xb_iast dX12_note_87 hf (fun σ14 eσ14 hf => ?_)
  refine xm_aload_n dX12_note_88 rfl ?_
  refine xm_dup dX12_note_89 rfl ?_
  refine xb_getI (a := l0) (c := 12) (k := 84) dX12_note_90 xcl12 (by decide) xw_1921 rfl hf (fun x15 ex15 hf => ?_)
  refine xm_iconst dX12_note_93 (v := 1) (by decide) ?_
  refine xm_iadd dX12_note_94 ?_
  refine xb_putI (a := l0) (c := 12) (k := 84) dX12_note_95 xcl12 (by decide) xw_1921 rfl rfl hf (fun σ16 eσ16 hf => ?_)
  refine xm_iload dX12_note_98 rfl ?_
  cases hf
  exact xm_iret dX12_note_100 rfl (hR _ rfl)
def f_X12_note (σ : xM) (l0 : Nat) (l1 : Int32) (l2 : Int32) (l3 : Int32) (l4 : Int32) (l5 : Int32) : Option (Int32 × xM) :=
  (gI σ l0 12 84).bind (fun x1 => (if x1 = (20 : Int32) then (gI σ l0 12 83).bind (fun x17 => (sI σ l0 12 83 ((x17 + (1 : Int32)) - (x17 + (1 : Int32)) / (20 : Int32) * (20 : Int32))).bind (fun σ18 => (gI σ18 l0 12 84).bind (fun x19 => (sI σ18 l0 12 84 (x19 - (1 : Int32))).bind (fun σ20 => f_X12_note_j32 σ20 l0 l1 l2 l3 l4 l5)))) else f_X12_note_j32 σ l0 l1 l2 l3 l4 l5))
set_option maxHeartbeats 4000000 in
set_option maxRecDepth 20000 in
theorem m_X12_note {G : xG} {π : Nat → Nat} {d C Z : Nat} {Q : xQ} {σ : xM} {l0 : Nat} {l1 : Int32} {l2 : Int32} {l3 : Int32} {l4 : Int32} {l5 : Int32} {x : (Int32 × xM)} (hf : f_X12_note σ l0 l1 l2 l3 l4 l5 = some x) (hR : ∀ g, x = g → Q (.inl (some (.int g.1))) (g.2) π) : xMach G π J_X12_note (d + 0) C Z 0 (lv_args 0 [.ref l0, .int l1, .int l2, .int l3, .int l4, .int l5]) [] σ Q := by
  unfold f_X12_note at hf
  refine xm_stL (L' := [(0, .ref l0), (1, .int l1), (2, .int l2), (3, .int l3), (4, .int l4), (5, .int l5)]) rfl ?_
  refine xm_aload_n dX12_note_0 rfl ?_
  refine xb_getI (a := l0) (c := 12) (k := 84) dX12_note_1 xcl12 (by decide) xw_1921 rfl hf (fun x1 ex1 hf => ?_)
  refine xm_bipush dX12_note_4 (v := 20) (by decide) ?_
  refine xb_icmp_ne 32 dX12_note_6 (by decide) hf (fun c hf => ?_) (fun c hf => ?_)
  · exact xm_sub [0, 1, 2, 3, 4, 5] rfl (L_X12_note_j32 σ l0 l1 l2 l3 l4 l5 hf hR)
  · refine xm_aload_n dX12_note_9 rfl ?_
    refine xm_aload_n dX12_note_10 rfl ?_
    refine xb_getI (a := l0) (c := 12) (k := 83) dX12_note_11 xcl12 (by decide) xw_1920 rfl hf (fun x17 ex17 hf => ?_)
    refine xm_iconst dX12_note_14 (v := 1) (by decide) ?_
    refine xm_iadd dX12_note_15 ?_
    refine xm_bipush dX12_note_16 (v := 20) (by decide) ?_
    refine xm_irem dX12_note_18 (by decide) ?_
    refine xb_putI (a := l0) (c := 12) (k := 83) dX12_note_19 xcl12 (by decide) xw_1920 rfl rfl hf (fun σ18 eσ18 hf => ?_)
    refine xm_aload_n dX12_note_22 rfl ?_
    refine xm_dup dX12_note_23 rfl ?_
    refine xb_getI (a := l0) (c := 12) (k := 84) dX12_note_24 xcl12 (by decide) xw_1921 rfl hf (fun x19 ex19 hf => ?_)
    refine xm_iconst dX12_note_27 (v := 1) (by decide) ?_
    refine xm_isub dX12_note_28 ?_
    refine xb_putI (a := l0) (c := 12) (k := 84) dX12_note_29 xcl12 (by decide) xw_1921 rfl rfl hf (fun σ20 eσ20 hf => ?_)
    exact xm_sub [0, 1, 2, 3, 4, 5] rfl (L_X12_note_j32 σ20 l0 l1 l2 l3 l4 l5 hf hR)
-- RankwiseModel.noteValue(I)V
def f_X12_noteValue_j17 (σ : xM) (l0 : Nat) (l1 : Int32) (s0 : Int32) (s1 : Int32) (s2 : Int32) (s3 : Nat) : Option xM :=
  (if xk σ s3 12 = true then (f_X12_note σ s3 s2 s1 s0 (0 : Int32) (0 : Int32)).bind (fun p3 => (if xk p3.2 l0 12 = true then (f_X12_copyValue p3.2 l0 ((27 : Int32) + p3.1) l1).bind (fun p4 => some p4) else none)) else none)
set_option maxHeartbeats 4000000 in
set_option maxRecDepth 20000 in
theorem L_X12_noteValue_j17 {G : xG} {π : Nat → Nat} {d C Z : Nat} {Q : xQ} (σ : xM) (l0 : Nat) (l1 : Int32) (s0 : Int32) (s1 : Int32) (s2 : Int32) (s3 : Nat) {x : xM} (hf : f_X12_noteValue_j17 σ l0 l1 s0 s1 s2 s3 = some x) (hR : ∀ g, x = g → Q (.inl none) (g) π) : xMach G π J_X12_noteValue (d + 1) C Z 17 [(0, .ref l0), (1, .int l1)] [.int s0, .int s1, .int s2, .ref s3] σ Q := by
  unfold f_X12_noteValue_j17 at hf
  refine xm_iconst dX12_noteValue_17 (v := 0) (by decide) ?_
  refine xm_iconst dX12_noteValue_18 (v := 0) (by decide) ?_
  refine xb_if hf (fun hb hf => ?_) (fun _ q => nomatch q)
  obtain ⟨p3, ep3, hf⟩ := xbind hf
  refine xb_callV (As := [.int s2, .int s1, .int s0, .int (0 : Int32), .int (0 : Int32)]) (v0 := (some (.int p3.1))) (τ0 := p3.2) dX12_noteValue_19 (xc_X12_note _ _) xcl12 xw_2217 xw_2219 xs_111 hb rfl (Nat.le_of_ble_eq_true rfl) rfl (Nat.le_of_ble_eq_true rfl) (fun Q1 hq => m_X12_note (d := d + 0) ep3 (fun g hg => by subst hg; exact hq)) ?_
  refine xm_istore_n dX12_noteValue_22 (by decide) (xm_stL (L' := [(2, .int p3.1), (0, .ref l0), (1, .int l1)]) rfl ?_)
  refine xm_aload_n dX12_noteValue_23 rfl ?_
  refine xm_bipush dX12_noteValue_24 (v := 27) (by decide) ?_
  refine xm_iload_n dX12_noteValue_26 rfl ?_
  refine xm_iadd dX12_noteValue_27 ?_
  refine xm_iload_n dX12_noteValue_28 rfl ?_
  refine xb_if hf (fun hb hf => ?_) (fun _ q => nomatch q)
  obtain ⟨p4, ep4, hf⟩ := xbind hf
  refine xb_callV (As := [.int ((27 : Int32) + p3.1), .int l1]) (v0 := none) (τ0 := p4) dX12_noteValue_29 (xc_X12_copyValue _ _) xcl12 xw_2100 xw_2102 xs_88 hb rfl (Nat.le_of_ble_eq_true rfl) rfl (Nat.le_of_ble_eq_true rfl) (fun Q1 hq => m_X12_copyValue (d := d + 0) ep4 (fun g hg => by subst hg; exact hq)) ?_
  cases hf
  exact xm_vret dX12_noteValue_32 rfl (hR _ rfl)
def f_X12_noteValue (σ : xM) (l0 : Nat) (l1 : Int32) : Option xM :=
  (gR σ l0 12 47).bind (fun x1 => (aI σ x1 15 l1).bind (fun x2 => (if x2 = (0 : Int32) then f_X12_noteValue_j17 σ l0 l1 (0 : Int32) l1 (2 : Int32) l0 else f_X12_noteValue_j17 σ l0 l1 (1 : Int32) l1 (2 : Int32) l0)))
set_option maxHeartbeats 4000000 in
set_option maxRecDepth 20000 in
theorem m_X12_noteValue {G : xG} {π : Nat → Nat} {d C Z : Nat} {Q : xQ} {σ : xM} {l0 : Nat} {l1 : Int32} {x : xM} (hf : f_X12_noteValue σ l0 l1 = some x) (hR : ∀ g, x = g → Q (.inl none) (g) π) : xMach G π J_X12_noteValue (d + 1) C Z 0 (lv_args 0 [.ref l0, .int l1]) [] σ Q := by
  unfold f_X12_noteValue at hf
  refine xm_stL (L' := [(0, .ref l0), (1, .int l1)]) rfl ?_
  refine xm_aload_n dX12_noteValue_0 rfl ?_
  refine xm_iconst dX12_noteValue_1 (v := 2) (by decide) ?_
  refine xm_iload_n dX12_noteValue_2 rfl ?_
  refine xm_aload_n dX12_noteValue_3 rfl ?_
  refine xb_getR (a := l0) (c := 12) (k := 47) dX12_noteValue_4 xcl12 (by decide) xw_1884 rfl hf (fun x1 ex1 hf => ?_)
  refine xm_iload_n dX12_noteValue_7 rfl ?_
  refine xb_zald dX12_noteValue_8 hf (fun x2 ex2 hf => ?_)
  refine xb_if_eq 16 dX12_noteValue_9 (by decide) hf (fun c hf => ?_) (fun c hf => ?_)
  · refine xm_iconst dX12_noteValue_16 (v := 0) (by decide) ?_
    exact xm_sub [0, 1] rfl (L_X12_noteValue_j17 σ l0 l1 (0 : Int32) l1 (2 : Int32) l0 hf hR)
  · refine xm_iconst dX12_noteValue_12 (v := 1) (by decide) ?_
    refine xm_goto 17 dX12_noteValue_13 (by decide) ?_
    exact xm_sub [0, 1] rfl (L_X12_noteValue_j17 σ l0 l1 (1 : Int32) l1 (2 : Int32) l0 hf hR)
-- RankwiseModel.noteFunction(I)V
def f_X12_noteFunction_s22 (s : (Nat × Int32 × Int32 × Int32 × xM)) : Option (xM ⊕ ((xM) ⊕ (Nat × Int32 × Int32 × Int32 × xM))) :=
  xlet s.1 (fun l0 => xlet s.2.1 (fun l1 => xlet s.2.2.1 (fun l2 => xlet s.2.2.2.1 (fun l3 => xlet s.2.2.2.2 (fun σ => (if (8 : Int32) ≤ l3 then some (Sum.inr (Sum.inl σ)) else (gR σ l0 12 82).bind (fun x7 => (gR σ l0 12 13).bind (fun x8 => (aI σ x8 14 (((8 : Int32) * l1) + l3)).bind (fun x9 => (wI σ x7 (((8 : Int32) * l2) + l3) x9).bind (fun σ10 => (gR σ10 l0 12 13).bind (fun x11 => (aI σ10 x11 14 (((8 : Int32) * l1) + l3)).bind (fun x12 => (if xk σ10 l0 12 = true then (f_X12_copyNodes σ10 l0 ((8640 : Int32) + ((30 : Int32) * (((8 : Int32) * l2) + l3))) ((2400 : Int32) + ((30 : Int32) * (((8 : Int32) * l1) + l3))) x12).bind (fun p13 => xlet (l3 + (1 : Int32)) (fun v14 => some (Sum.inr (Sum.inr (l0, l1, l2, v14, p13))))) else none)))))))))))))
set_option maxHeartbeats 4000000 in
set_option maxRecDepth 20000 in
theorem L_X12_noteFunction_s22 {G : xG} {π : Nat → Nat} {d C Z : Nat} {Q : xQ} (σ : xM) (l0 : Nat) (l1 : Int32) (l2 : Int32) (l3 : Int32) {x : (xM ⊕ ((xM) ⊕ (Nat × Int32 × Int32 × Int32 × xM)))} (hf : f_X12_noteFunction_s22 (l0, l1, l2, l3, σ) = some x) (hR : ∀ g, x = Sum.inl (g) → Q (.inl none) (g) π) (hE : ∀ e : (xM), x = Sum.inr (Sum.inl e) → xMach G π J_X12_noteFunction (d + 1) C Z 97 [] [] e Q) (hC : ∀ e : (Nat × Int32 × Int32 × Int32 × xM), x = Sum.inr (Sum.inr e) → xMach G π J_X12_noteFunction (d + 1) C Z 22 [(0, .ref e.1), (1, .int e.2.1), (2, .int e.2.2.1), (3, .int e.2.2.2.1)] [] e.2.2.2.2 Q) : xMach G π J_X12_noteFunction (d + 1) C Z 22 [(0, .ref l0), (1, .int l1), (2, .int l2), (3, .int l3)] [] σ Q := by
  have hf : (if (8 : Int32) ≤ l3 then some (Sum.inr (Sum.inl σ)) else (gR σ l0 12 82).bind (fun x7 => (gR σ l0 12 13).bind (fun x8 => (aI σ x8 14 (((8 : Int32) * l1) + l3)).bind (fun x9 => (wI σ x7 (((8 : Int32) * l2) + l3) x9).bind (fun σ10 => (gR σ10 l0 12 13).bind (fun x11 => (aI σ10 x11 14 (((8 : Int32) * l1) + l3)).bind (fun x12 => (if xk σ10 l0 12 = true then (f_X12_copyNodes σ10 l0 ((8640 : Int32) + ((30 : Int32) * (((8 : Int32) * l2) + l3))) ((2400 : Int32) + ((30 : Int32) * (((8 : Int32) * l1) + l3))) x12).bind (fun p13 => xlet (l3 + (1 : Int32)) (fun v14 => some (Sum.inr (Sum.inr (l0, l1, l2, v14, p13))))) else none)))))))) = some x := hf
  refine xm_iload_n dX12_noteFunction_22 rfl ?_
  refine xm_bipush dX12_noteFunction_23 (v := 8) (by decide) ?_
  refine xb_icmp_ge 97 dX12_noteFunction_25 (by decide) hf (fun c hf => ?_) (fun c hf => ?_)
  · cases hf
    exact xm_sub [] rfl (hE _ rfl)
  · refine xm_aload_n dX12_noteFunction_28 rfl ?_
    refine xb_getR (a := l0) (c := 12) (k := 82) dX12_noteFunction_29 xcl12 (by decide) xw_1919 rfl hf (fun x7 ex7 hf => ?_)
    refine xm_bipush dX12_noteFunction_32 (v := 8) (by decide) ?_
    refine xm_iload_n dX12_noteFunction_34 rfl ?_
    refine xm_imul dX12_noteFunction_35 ?_
    refine xm_iload_n dX12_noteFunction_36 rfl ?_
    refine xm_iadd dX12_noteFunction_37 ?_
    refine xm_aload_n dX12_noteFunction_38 rfl ?_
    refine xb_getR (a := l0) (c := 12) (k := 13) dX12_noteFunction_39 xcl12 (by decide) xw_1850 rfl hf (fun x8 ex8 hf => ?_)
    refine xm_bipush dX12_noteFunction_42 (v := 8) (by decide) ?_
    refine xm_iload_n dX12_noteFunction_44 rfl ?_
    refine xm_imul dX12_noteFunction_45 ?_
    refine xm_iload_n dX12_noteFunction_46 rfl ?_
    refine xm_iadd dX12_noteFunction_47 ?_
    refine xb_iald dX12_noteFunction_48 hf (fun x9 ex9 hf => ?_)
    refine xb_iast dX12_noteFunction_49 hf (fun σ10 eσ10 hf => ?_)
    refine xm_aload_n dX12_noteFunction_50 rfl ?_
    refine xm_sipush dX12_noteFunction_51 (v := 8640) (by decide) ?_
    refine xm_bipush dX12_noteFunction_54 (v := 30) (by decide) ?_
    refine xm_bipush dX12_noteFunction_56 (v := 8) (by decide) ?_
    refine xm_iload_n dX12_noteFunction_58 rfl ?_
    refine xm_imul dX12_noteFunction_59 ?_
    refine xm_iload_n dX12_noteFunction_60 rfl ?_
    refine xm_iadd dX12_noteFunction_61 ?_
    refine xm_imul dX12_noteFunction_62 ?_
    refine xm_iadd dX12_noteFunction_63 ?_
    refine xm_sipush dX12_noteFunction_64 (v := 2400) (by decide) ?_
    refine xm_bipush dX12_noteFunction_67 (v := 30) (by decide) ?_
    refine xm_bipush dX12_noteFunction_69 (v := 8) (by decide) ?_
    refine xm_iload_n dX12_noteFunction_71 rfl ?_
    refine xm_imul dX12_noteFunction_72 ?_
    refine xm_iload_n dX12_noteFunction_73 rfl ?_
    refine xm_iadd dX12_noteFunction_74 ?_
    refine xm_imul dX12_noteFunction_75 ?_
    refine xm_iadd dX12_noteFunction_76 ?_
    refine xm_aload_n dX12_noteFunction_77 rfl ?_
    refine xb_getR (a := l0) (c := 12) (k := 13) dX12_noteFunction_78 xcl12 (by decide) xw_1850 rfl hf (fun x11 ex11 hf => ?_)
    refine xm_bipush dX12_noteFunction_81 (v := 8) (by decide) ?_
    refine xm_iload_n dX12_noteFunction_83 rfl ?_
    refine xm_imul dX12_noteFunction_84 ?_
    refine xm_iload_n dX12_noteFunction_85 rfl ?_
    refine xm_iadd dX12_noteFunction_86 ?_
    refine xb_iald dX12_noteFunction_87 hf (fun x12 ex12 hf => ?_)
    refine xb_if hf (fun hb hf => ?_) (fun _ q => nomatch q)
    obtain ⟨p13, ep13, hf⟩ := xbind hf
    refine xb_callV (As := [.int ((8640 : Int32) + ((30 : Int32) * (((8 : Int32) * l2) + l3))), .int ((2400 : Int32) + ((30 : Int32) * (((8 : Int32) * l1) + l3))), .int x12]) (v0 := none) (τ0 := p13) dX12_noteFunction_88 (xc_X12_copyNodes _ _) xcl12 xw_2104 xw_2106 xs_89 hb rfl (Nat.le_of_ble_eq_true rfl) rfl (Nat.le_of_ble_eq_true rfl) (fun Q1 hq => m_X12_copyNodes (d := d + 0) ep13 (fun g hg => by subst hg; exact hq)) ?_
    refine xb_iinc dX12_noteFunction_91 rfl (by decide) (by decide) hf (fun v14 ev14 hf => xm_stL (L' := [(3, .int v14), (0, .ref l0), (1, .int l1), (2, .int l2)]) rfl ?_)
    refine xm_goto 22 dX12_noteFunction_94 (by decide) ?_
    cases hf
    exact xm_sub [1, 2, 3, 0] rfl (hC _ rfl)
theorem L_X12_noteFunction_l22 {G : xG} {π : Nat → Nat} {d C Z : Nat} {Q : xQ} {s0 : (Nat × Int32 × Int32 × Int32 × xM)} {x : (xM ⊕ (xM))} (h1 : xloop (f_X12_noteFunction_s22) xF s0 = some x) (hR : ∀ g, x = Sum.inl g → Q (.inl none) (g) π) (hE : ∀ e : (xM), x = Sum.inr e → xMach G π J_X12_noteFunction (d + 1) C Z 97 [] [] e Q) : xMach G π J_X12_noteFunction (d + 1) C Z 22 [(0, .ref s0.1), (1, .int s0.2.1), (2, .int s0.2.2.1), (3, .int s0.2.2.2.1)] [] s0.2.2.2.2 Q := by
  refine xloop_run (M := (fun s : (Nat × Int32 × Int32 × Int32 × xM) => xMach G π J_X12_noteFunction (d + 1) C Z 22 [(0, .ref s.1), (1, .int s.2.1), (2, .int s.2.2.1), (3, .int s.2.2.2.1)] [] s.2.2.2.2 Q)) (r := x) ?_ xF _ h1
  intro s y hs hx
  exact L_X12_noteFunction_s22 s.2.2.2.2 s.1 s.2.1 s.2.2.1 s.2.2.2.1 (x := y) hs (fun g hg => by subst hg; exact hR g hx) (fun e he => by subst he; exact hE e hx) (fun e he => by subst he; exact hx)
def f_X12_noteFunction_j97 (σ : xM)  : Option xM :=
  some σ
set_option maxHeartbeats 4000000 in
set_option maxRecDepth 20000 in
theorem L_X12_noteFunction_j97 {G : xG} {π : Nat → Nat} {d C Z : Nat} {Q : xQ} (σ : xM)  {x : xM} (hf : f_X12_noteFunction_j97 σ = some x) (hR : ∀ g, x = g → Q (.inl none) (g) π) : xMach G π J_X12_noteFunction (d + 1) C Z 97 [] [] σ Q := by
  unfold f_X12_noteFunction_j97 at hf
  cases hf
  exact xm_vret dX12_noteFunction_97 rfl (hR _ rfl)
def f_X12_noteFunction (σ : xM) (l0 : Nat) (l1 : Int32) : Option xM :=
  (gR σ l0 12 11).bind (fun x1 => (aI σ x1 14 l1).bind (fun x2 => (gR σ l0 12 12).bind (fun x3 => (aI σ x3 14 l1).bind (fun x4 => (if xk σ l0 12 = true then (f_X12_note σ l0 (3 : Int32) l1 x2 x4 (0 : Int32)).bind (fun p5 => xlet (0 : Int32) (fun v6 => (xloop (f_X12_noteFunction_s22 ) xF (l0, l1, p5.1, v6, p5.2)).bind (Sum.elim (fun g => some g) (fun e => f_X12_noteFunction_j97 e)))) else none)))))
set_option maxHeartbeats 4000000 in
set_option maxRecDepth 20000 in
theorem m_X12_noteFunction {G : xG} {π : Nat → Nat} {d C Z : Nat} {Q : xQ} {σ : xM} {l0 : Nat} {l1 : Int32} {x : xM} (hf : f_X12_noteFunction σ l0 l1 = some x) (hR : ∀ g, x = g → Q (.inl none) (g) π) : xMach G π J_X12_noteFunction (d + 1) C Z 0 (lv_args 0 [.ref l0, .int l1]) [] σ Q := by
  unfold f_X12_noteFunction at hf
  refine xm_stL (L' := [(0, .ref l0), (1, .int l1)]) rfl ?_
  refine xm_aload_n dX12_noteFunction_0 rfl ?_
  refine xm_iconst dX12_noteFunction_1 (v := 3) (by decide) ?_
  refine xm_iload_n dX12_noteFunction_2 rfl ?_
  refine xm_aload_n dX12_noteFunction_3 rfl ?_
  refine xb_getR (a := l0) (c := 12) (k := 11) dX12_noteFunction_4 xcl12 (by decide) xw_1848 rfl hf (fun x1 ex1 hf => ?_)
  refine xm_iload_n dX12_noteFunction_7 rfl ?_
  refine xb_iald dX12_noteFunction_8 hf (fun x2 ex2 hf => ?_)
  refine xm_aload_n dX12_noteFunction_9 rfl ?_
  refine xb_getR (a := l0) (c := 12) (k := 12) dX12_noteFunction_10 xcl12 (by decide) xw_1849 rfl hf (fun x3 ex3 hf => ?_)
  refine xm_iload_n dX12_noteFunction_13 rfl ?_
  refine xb_iald dX12_noteFunction_14 hf (fun x4 ex4 hf => ?_)
  refine xm_iconst dX12_noteFunction_15 (v := 0) (by decide) ?_
  refine xb_if hf (fun hb hf => ?_) (fun _ q => nomatch q)
  obtain ⟨p5, ep5, hf⟩ := xbind hf
  refine xb_callV (As := [.int (3 : Int32), .int l1, .int x2, .int x4, .int (0 : Int32)]) (v0 := (some (.int p5.1))) (τ0 := p5.2) dX12_noteFunction_16 (xc_X12_note _ _) xcl12 xw_2217 xw_2219 xs_111 hb rfl (Nat.le_of_ble_eq_true rfl) rfl (Nat.le_of_ble_eq_true rfl) (fun Q1 hq => m_X12_note (d := d + 0) ep5 (fun g hg => by subst hg; exact hq)) ?_
  refine xm_istore_n dX12_noteFunction_19 (by decide) (xm_stL (L' := [(2, .int p5.1), (0, .ref l0), (1, .int l1)]) rfl ?_)
  refine xm_iconst dX12_noteFunction_20 (v := 0) (by decide) ?_
  refine xb_topi hf (fun v6 ev6 hf => ?_)
  refine xm_istore_n dX12_noteFunction_21 (by decide) (xm_stL (L' := [(3, .int v6), (2, .int p5.1), (0, .ref l0), (1, .int l1)]) rfl ?_)
  obtain ⟨o, h1, hf⟩ := xbind hf
  refine xm_sub [2, 3, 1, 0] rfl (L_X12_noteFunction_l22  h1 (fun g hg => ?_) (fun e he => ?_))
  · subst hg
    cases hf
    exact hR _ rfl
  · subst he
    rw [Sum.elim_inr] at hf
    have hf : f_X12_noteFunction_j97 e = some _ := hf
    exact xm_sub [] rfl (L_X12_noteFunction_j97 e hf hR)
-- RankwiseModel.undo()I
def f_X12_undo_s187 (s : (Nat × Int32 × Int32 × Int32 × xM)) : Option ((Int32 × xM) ⊕ ((Nat × Int32 × xM) ⊕ (Nat × Int32 × Int32 × Int32 × xM))) :=
  xlet s.1 (fun l0 => xlet s.2.1 (fun l1 => xlet s.2.2.1 (fun l2 => xlet s.2.2.2.1 (fun l3 => xlet s.2.2.2.2 (fun σ => (if (8 : Int32) ≤ l3 then some (Sum.inr (Sum.inl (l0, l1, σ))) else (gR σ l0 12 13).bind (fun x21 => (gR σ l0 12 82).bind (fun x22 => (aI σ x22 14 (((8 : Int32) * l1) + l3)).bind (fun x23 => (wI σ x21 (((8 : Int32) * l2) + l3) x23).bind (fun σ24 => (gR σ24 l0 12 13).bind (fun x25 => (aI σ24 x25 14 (((8 : Int32) * l2) + l3)).bind (fun x26 => (if xk σ24 l0 12 = true then (f_X12_copyNodes σ24 l0 ((2400 : Int32) + ((30 : Int32) * (((8 : Int32) * l2) + l3))) ((8640 : Int32) + ((30 : Int32) * (((8 : Int32) * l1) + l3))) x26).bind (fun p27 => xlet (l3 + (1 : Int32)) (fun v28 => some (Sum.inr (Sum.inr (l0, l1, l2, v28, p27))))) else none)))))))))))))
set_option maxHeartbeats 4000000 in
set_option maxRecDepth 20000 in
theorem L_X12_undo_s187 {G : xG} {π : Nat → Nat} {d C Z : Nat} {Q : xQ} (σ : xM) (l0 : Nat) (l1 : Int32) (l2 : Int32) (l3 : Int32) {x : ((Int32 × xM) ⊕ ((Nat × Int32 × xM) ⊕ (Nat × Int32 × Int32 × Int32 × xM)))} (hf : f_X12_undo_s187 (l0, l1, l2, l3, σ) = some x) (hR : ∀ g, x = Sum.inl (g) → Q (.inl (some (.int g.1))) (g.2) π) (hE : ∀ e : (Nat × Int32 × xM), x = Sum.inr (Sum.inl e) → xMach G π J_X12_undo (d + 1) C Z 262 [(0, .ref e.1), (1, .int e.2.1)] [] e.2.2 Q) (hC : ∀ e : (Nat × Int32 × Int32 × Int32 × xM), x = Sum.inr (Sum.inr e) → xMach G π J_X12_undo (d + 1) C Z 187 [(0, .ref e.1), (1, .int e.2.1), (2, .int e.2.2.1), (3, .int e.2.2.2.1)] [] e.2.2.2.2 Q) : xMach G π J_X12_undo (d + 1) C Z 187 [(0, .ref l0), (1, .int l1), (2, .int l2), (3, .int l3)] [] σ Q := by
  have hf : (if (8 : Int32) ≤ l3 then some (Sum.inr (Sum.inl (l0, l1, σ))) else (gR σ l0 12 13).bind (fun x21 => (gR σ l0 12 82).bind (fun x22 => (aI σ x22 14 (((8 : Int32) * l1) + l3)).bind (fun x23 => (wI σ x21 (((8 : Int32) * l2) + l3) x23).bind (fun σ24 => (gR σ24 l0 12 13).bind (fun x25 => (aI σ24 x25 14 (((8 : Int32) * l2) + l3)).bind (fun x26 => (if xk σ24 l0 12 = true then (f_X12_copyNodes σ24 l0 ((2400 : Int32) + ((30 : Int32) * (((8 : Int32) * l2) + l3))) ((8640 : Int32) + ((30 : Int32) * (((8 : Int32) * l1) + l3))) x26).bind (fun p27 => xlet (l3 + (1 : Int32)) (fun v28 => some (Sum.inr (Sum.inr (l0, l1, l2, v28, p27))))) else none)))))))) = some x := hf
  refine xm_iload_n dX12_undo_187 rfl ?_
  refine xm_bipush dX12_undo_188 (v := 8) (by decide) ?_
  refine xb_icmp_ge 262 dX12_undo_190 (by decide) hf (fun c hf => ?_) (fun c hf => ?_)
  · cases hf
    exact xm_sub [0, 1] rfl (hE _ rfl)
  · refine xm_aload_n dX12_undo_193 rfl ?_
    refine xb_getR (a := l0) (c := 12) (k := 13) dX12_undo_194 xcl12 (by decide) xw_1850 rfl hf (fun x21 ex21 hf => ?_)
    refine xm_bipush dX12_undo_197 (v := 8) (by decide) ?_
    refine xm_iload_n dX12_undo_199 rfl ?_
    refine xm_imul dX12_undo_200 ?_
    refine xm_iload_n dX12_undo_201 rfl ?_
    refine xm_iadd dX12_undo_202 ?_
    refine xm_aload_n dX12_undo_203 rfl ?_
    refine xb_getR (a := l0) (c := 12) (k := 82) dX12_undo_204 xcl12 (by decide) xw_1919 rfl hf (fun x22 ex22 hf => ?_)
    refine xm_bipush dX12_undo_207 (v := 8) (by decide) ?_
    refine xm_iload_n dX12_undo_209 rfl ?_
    refine xm_imul dX12_undo_210 ?_
    refine xm_iload_n dX12_undo_211 rfl ?_
    refine xm_iadd dX12_undo_212 ?_
    refine xb_iald dX12_undo_213 hf (fun x23 ex23 hf => ?_)
    refine xb_iast dX12_undo_214 hf (fun σ24 eσ24 hf => ?_)
    refine xm_aload_n dX12_undo_215 rfl ?_
    refine xm_sipush dX12_undo_216 (v := 2400) (by decide) ?_
    refine xm_bipush dX12_undo_219 (v := 30) (by decide) ?_
    refine xm_bipush dX12_undo_221 (v := 8) (by decide) ?_
    refine xm_iload_n dX12_undo_223 rfl ?_
    refine xm_imul dX12_undo_224 ?_
    refine xm_iload_n dX12_undo_225 rfl ?_
    refine xm_iadd dX12_undo_226 ?_
    refine xm_imul dX12_undo_227 ?_
    refine xm_iadd dX12_undo_228 ?_
    refine xm_sipush dX12_undo_229 (v := 8640) (by decide) ?_
    refine xm_bipush dX12_undo_232 (v := 30) (by decide) ?_
    refine xm_bipush dX12_undo_234 (v := 8) (by decide) ?_
    refine xm_iload_n dX12_undo_236 rfl ?_
    refine xm_imul dX12_undo_237 ?_
    refine xm_iload_n dX12_undo_238 rfl ?_
    refine xm_iadd dX12_undo_239 ?_
    refine xm_imul dX12_undo_240 ?_
    refine xm_iadd dX12_undo_241 ?_
    refine xm_aload_n dX12_undo_242 rfl ?_
    refine xb_getR (a := l0) (c := 12) (k := 13) dX12_undo_243 xcl12 (by decide) xw_1850 rfl hf (fun x25 ex25 hf => ?_)
    refine xm_bipush dX12_undo_246 (v := 8) (by decide) ?_
    refine xm_iload_n dX12_undo_248 rfl ?_
    refine xm_imul dX12_undo_249 ?_
    refine xm_iload_n dX12_undo_250 rfl ?_
    refine xm_iadd dX12_undo_251 ?_
    refine xb_iald dX12_undo_252 hf (fun x26 ex26 hf => ?_)
    refine xb_if hf (fun hb hf => ?_) (fun _ q => nomatch q)
    obtain ⟨p27, ep27, hf⟩ := xbind hf
    refine xb_callV (As := [.int ((2400 : Int32) + ((30 : Int32) * (((8 : Int32) * l2) + l3))), .int ((8640 : Int32) + ((30 : Int32) * (((8 : Int32) * l1) + l3))), .int x26]) (v0 := none) (τ0 := p27) dX12_undo_253 (xc_X12_copyNodes _ _) xcl12 xw_2104 xw_2106 xs_89 hb rfl (Nat.le_of_ble_eq_true rfl) rfl (Nat.le_of_ble_eq_true rfl) (fun Q1 hq => m_X12_copyNodes (d := d + 0) ep27 (fun g hg => by subst hg; exact hq)) ?_
    refine xb_iinc dX12_undo_256 rfl (by decide) (by decide) hf (fun v28 ev28 hf => xm_stL (L' := [(3, .int v28), (0, .ref l0), (1, .int l1), (2, .int l2)]) rfl ?_)
    refine xm_goto 187 dX12_undo_259 (by decide) ?_
    cases hf
    exact xm_sub [1, 2, 3, 0] rfl (hC _ rfl)
theorem L_X12_undo_l187 {G : xG} {π : Nat → Nat} {d C Z : Nat} {Q : xQ} {s0 : (Nat × Int32 × Int32 × Int32 × xM)} {x : ((Int32 × xM) ⊕ (Nat × Int32 × xM))} (h1 : xloop (f_X12_undo_s187) xF s0 = some x) (hR : ∀ g, x = Sum.inl g → Q (.inl (some (.int g.1))) (g.2) π) (hE : ∀ e : (Nat × Int32 × xM), x = Sum.inr e → xMach G π J_X12_undo (d + 1) C Z 262 [(0, .ref e.1), (1, .int e.2.1)] [] e.2.2 Q) : xMach G π J_X12_undo (d + 1) C Z 187 [(0, .ref s0.1), (1, .int s0.2.1), (2, .int s0.2.2.1), (3, .int s0.2.2.2.1)] [] s0.2.2.2.2 Q := by
  refine xloop_run (M := (fun s : (Nat × Int32 × Int32 × Int32 × xM) => xMach G π J_X12_undo (d + 1) C Z 187 [(0, .ref s.1), (1, .int s.2.1), (2, .int s.2.2.1), (3, .int s.2.2.2.1)] [] s.2.2.2.2 Q)) (r := x) ?_ xF _ h1
  intro s y hs hx
  exact L_X12_undo_s187 s.2.2.2.2 s.1 s.2.1 s.2.2.1 s.2.2.2.1 (x := y) hs (fun g hg => by subst hg; exact hR g hx) (fun e he => by subst he; exact hE e hx) (fun e he => by subst he; exact hx)
def f_X12_undo_j262 (σ : xM) (l0 : Nat) (l1 : Int32) : Option (Int32 × xM) :=
  (gR σ l0 12 77).bind (fun x29 => (aI σ x29 14 l1).bind (fun x30 => some (x30, σ)))
set_option maxHeartbeats 4000000 in
set_option maxRecDepth 20000 in
theorem L_X12_undo_j262 {G : xG} {π : Nat → Nat} {d C Z : Nat} {Q : xQ} (σ : xM) (l0 : Nat) (l1 : Int32) {x : (Int32 × xM)} (hf : f_X12_undo_j262 σ l0 l1 = some x) (hR : ∀ g, x = g → Q (.inl (some (.int g.1))) (g.2) π) : xMach G π J_X12_undo (d + 1) C Z 262 [(0, .ref l0), (1, .int l1)] [] σ Q := by
  unfold f_X12_undo_j262 at hf
  refine xm_aload_n dX12_undo_262 rfl ?_
  refine xb_getR (a := l0) (c := 12) (k := 77) dX12_undo_263 xcl12 (by decide) xw_1914 rfl hf (fun x29 ex29 hf => ?_)
  refine xm_iload_n dX12_undo_266 rfl ?_
  refine xb_iald dX12_undo_267 hf (fun x30 ex30 hf => ?_)
  cases hf
  exact xm_iret dX12_undo_268 rfl (hR _ rfl)
def f_X12_undo_j148 (σ : xM) (l0 : Nat) (l1 : Int32) (l2 : Int32) (s0 : Int32) (s1 : Int32) (s2 : Nat) : Option (Int32 × xM) :=
  (wZ σ s2 s1 s0).bind (fun σ48 => (if xk σ48 l0 12 = true then (f_X12_copyValue σ48 l0 l2 ((27 : Int32) + l1)).bind (fun p49 => f_X12_undo_j262 p49 l0 l1) else none))
set_option maxHeartbeats 4000000 in
set_option maxRecDepth 20000 in
theorem L_X12_undo_j148 {G : xG} {π : Nat → Nat} {d C Z : Nat} {Q : xQ} (σ : xM) (l0 : Nat) (l1 : Int32) (l2 : Int32) (s0 : Int32) (s1 : Int32) (s2 : Nat) {x : (Int32 × xM)} (hf : f_X12_undo_j148 σ l0 l1 l2 s0 s1 s2 = some x) (hR : ∀ g, x = g → Q (.inl (some (.int g.1))) (g.2) π) : xMach G π J_X12_undo (d + 1) C Z 148 [(0, .ref l0), (1, .int l1), (2, .int l2)] [.int s0, .int s1, .ref s2] σ Q := by
  unfold f_X12_undo_j148 at hf
  refine xb_zast dX12_undo_148 hf (fun σ48 eσ48 hf => ?_)
  refine xm_aload_n dX12_undo_149 rfl ?_
  refine xm_iload_n dX12_undo_150 rfl ?_
  refine xm_bipush dX12_undo_151 (v := 27) (by decide) ?_
  refine xm_iload_n dX12_undo_153 rfl ?_
  refine xm_iadd dX12_undo_154 ?_
  refine xb_if hf (fun hb hf => ?_) (fun _ q => nomatch q)
  obtain ⟨p49, ep49, hf⟩ := xbind hf
  refine xb_callV (As := [.int l2, .int ((27 : Int32) + l1)]) (v0 := none) (τ0 := p49) dX12_undo_155 (xc_X12_copyValue _ _) xcl12 xw_2100 xw_2102 xs_88 hb rfl (Nat.le_of_ble_eq_true rfl) rfl (Nat.le_of_ble_eq_true rfl) (fun Q1 hq => m_X12_copyValue (d := d + 0) ep49 (fun g hg => by subst hg; exact hq)) ?_
  refine xm_goto 262 dX12_undo_158 (by decide) ?_
  exact xm_sub [0, 1] rfl (L_X12_undo_j262 p49 l0 l1 hf hR)
def f_X12_undo (σ : xM) (l0 : Nat) : Option (Int32 × xM) :=
  (sI σ l0 12 0 (0 : Int32)).bind (fun σ1 => (gI σ1 l0 12 84).bind (fun x2 => (if x2 = (0 : Int32) then some ((-1 : Int32), σ1) else (gI σ1 l0 12 84).bind (fun x3 => (sI σ1 l0 12 84 (x3 - (1 : Int32))).bind (fun σ4 => (gI σ4 l0 12 83).bind (fun x5 => (gI σ4 l0 12 84).bind (fun x6 => xlet ((x5 + x6) - (x5 + x6) / (20 : Int32) * (20 : Int32)) (fun v7 => (gR σ4 l0 12 78).bind (fun x8 => (aI σ4 x8 14 v7).bind (fun x9 => (gR σ4 l0 12 77).bind (fun x10 => (aI σ4 x10 14 v7).bind (fun x11 => (if x11 = (0 : Int32) then (gI σ4 l0 12 10).bind (fun x31 => (sI σ4 l0 12 10 (x31 - (1 : Int32))).bind (fun σ32 => f_X12_undo_j262 σ32 l0 v7)) else (if x11 = (1 : Int32) then (gR σ4 l0 12 15).bind (fun x33 => (gR σ4 l0 12 79).bind (fun x34 => (aI σ4 x34 14 v7).bind (fun x35 => (wI σ4 x33 x9 x35).bind (fun σ36 => (gR σ36 l0 12 16).bind (fun x37 => (gR σ36 l0 12 80).bind (fun x38 => (aI σ36 x38 14 v7).bind (fun x39 => (wI σ36 x37 x9 x39).bind (fun σ40 => (gR σ40 l0 12 17).bind (fun x41 => (gR σ40 l0 12 81).bind (fun x42 => (aI σ40 x42 14 v7).bind (fun x43 => (wI σ40 x41 x9 x43).bind (fun σ44 => f_X12_undo_j262 σ44 l0 v7)))))))))))) else (if x11 = (2 : Int32) then (gR σ4 l0 12 47).bind (fun x45 => (gR σ4 l0 12 79).bind (fun x46 => (aI σ4 x46 14 v7).bind (fun x47 => (if x47 = (1 : Int32) then f_X12_undo_j148 σ4 l0 v7 x9 (1 : Int32) x9 x45 else f_X12_undo_j148 σ4 l0 v7 x9 (0 : Int32) x9 x45)))) else (gR σ4 l0 12 11).bind (fun x12 => (gR σ4 l0 12 79).bind (fun x13 => (aI σ4 x13 14 v7).bind (fun x14 => (wI σ4 x12 x9 x14).bind (fun σ15 => (gR σ15 l0 12 12).bind (fun x16 => (gR σ15 l0 12 80).bind (fun x17 => (aI σ15 x17 14 v7).bind (fun x18 => (wI σ15 x16 x9 x18).bind (fun σ19 => xlet (0 : Int32) (fun v20 => (xloop (f_X12_undo_s187 ) xF (l0, v7, x9, v20, σ19)).bind (Sum.elim (fun g => some g) (fun e => f_X12_undo_j262 e.2.2 e.1 e.2.1))))))))))))))))))))))))))
set_option maxHeartbeats 4000000 in
set_option maxRecDepth 20000 in
theorem m_X12_undo {G : xG} {π : Nat → Nat} {d C Z : Nat} {Q : xQ} {σ : xM} {l0 : Nat} {x : (Int32 × xM)} (hf : f_X12_undo σ l0 = some x) (hR : ∀ g, x = g → Q (.inl (some (.int g.1))) (g.2) π) : xMach G π J_X12_undo (d + 1) C Z 0 (lv_args 0 [.ref l0]) [] σ Q := by
  unfold f_X12_undo at hf
  refine xm_stL (L' := [(0, .ref l0)]) rfl ?_
  refine xm_aload_n dX12_undo_0 rfl ?_
  refine xm_iconst dX12_undo_1 (v := 0) (by decide) ?_
  refine xb_putI (a := l0) (c := 12) (k := 0) dX12_undo_2 xcl12 (by decide) xw_1837 rfl rfl hf (fun σ1 eσ1 hf => ?_)
  refine xm_aload_n dX12_undo_5 rfl ?_
  refine xb_getI (a := l0) (c := 12) (k := 84) dX12_undo_6 xcl12 (by decide) xw_1921 rfl hf (fun x2 ex2 hf => ?_)
  refine xb_if_ne 14 dX12_undo_9 (by decide) hf (fun c hf => ?_) (fun c hf => ?_)
  · refine xm_aload_n dX12_undo_14 rfl ?_
    refine xm_dup dX12_undo_15 rfl ?_
    refine xb_getI (a := l0) (c := 12) (k := 84) dX12_undo_16 xcl12 (by decide) xw_1921 rfl hf (fun x3 ex3 hf => ?_)
    refine xm_iconst dX12_undo_19 (v := 1) (by decide) ?_
    refine xm_isub dX12_undo_20 ?_
    refine xb_putI (a := l0) (c := 12) (k := 84) dX12_undo_21 xcl12 (by decide) xw_1921 rfl rfl hf (fun σ4 eσ4 hf => ?_)
    refine xm_aload_n dX12_undo_24 rfl ?_
    refine xb_getI (a := l0) (c := 12) (k := 83) dX12_undo_25 xcl12 (by decide) xw_1920 rfl hf (fun x5 ex5 hf => ?_)
    refine xm_aload_n dX12_undo_28 rfl ?_
    refine xb_getI (a := l0) (c := 12) (k := 84) dX12_undo_29 xcl12 (by decide) xw_1921 rfl hf (fun x6 ex6 hf => ?_)
    refine xm_iadd dX12_undo_32 ?_
    refine xm_bipush dX12_undo_33 (v := 20) (by decide) ?_
    refine xm_irem dX12_undo_35 (by decide) ?_
    refine xb_topi hf (fun v7 ev7 hf => ?_)
    refine xm_istore_n dX12_undo_36 (by decide) (xm_stL (L' := [(1, .int v7), (0, .ref l0)]) rfl ?_)
    refine xm_aload_n dX12_undo_37 rfl ?_
    refine xb_getR (a := l0) (c := 12) (k := 78) dX12_undo_38 xcl12 (by decide) xw_1915 rfl hf (fun x8 ex8 hf => ?_)
    refine xm_iload_n dX12_undo_41 rfl ?_
    refine xb_iald dX12_undo_42 hf (fun x9 ex9 hf => ?_)
    refine xm_istore_n dX12_undo_43 (by decide) (xm_stL (L' := [(2, .int x9), (1, .int v7), (0, .ref l0)]) rfl ?_)
    refine xm_aload_n dX12_undo_44 rfl ?_
    refine xb_getR (a := l0) (c := 12) (k := 77) dX12_undo_45 xcl12 (by decide) xw_1914 rfl hf (fun x10 ex10 hf => ?_)
    refine xm_iload_n dX12_undo_48 rfl ?_
    refine xb_iald dX12_undo_49 hf (fun x11 ex11 hf => ?_)
    refine xb_if hf (fun c hf => ?_) (fun n0 hf => ?_)
    · refine xm_tableIn 76 dX12_undo_50 (by rw [c]; decide) (by rw [c]; decide) (by rw [c]; rfl) (by decide) ?_
      refine xm_aload_n dX12_undo_76 rfl ?_
      refine xm_dup dX12_undo_77 rfl ?_
      refine xb_getI (a := l0) (c := 12) (k := 10) dX12_undo_78 xcl12 (by decide) xw_1847 rfl hf (fun x31 ex31 hf => ?_)
      refine xm_iconst dX12_undo_81 (v := 1) (by decide) ?_
      refine xm_isub dX12_undo_82 ?_
      refine xb_putI (a := l0) (c := 12) (k := 10) dX12_undo_83 xcl12 (by decide) xw_1847 rfl rfl hf (fun σ32 eσ32 hf => ?_)
      refine xm_goto 262 dX12_undo_86 (by decide) ?_
      exact xm_sub [2, 1] rfl (L_X12_undo_j262 σ32 l0 v7 hf hR)
    refine xb_if hf (fun c hf => ?_) (fun n1 hf => ?_)
    · refine xm_tableIn 89 dX12_undo_50 (by rw [c]; decide) (by rw [c]; decide) (by rw [c]; rfl) (by decide) ?_
      refine xm_aload_n dX12_undo_89 rfl ?_
      refine xb_getR (a := l0) (c := 12) (k := 15) dX12_undo_90 xcl12 (by decide) xw_1852 rfl hf (fun x33 ex33 hf => ?_)
      refine xm_iload_n dX12_undo_93 rfl ?_
      refine xm_aload_n dX12_undo_94 rfl ?_
      refine xb_getR (a := l0) (c := 12) (k := 79) dX12_undo_95 xcl12 (by decide) xw_1916 rfl hf (fun x34 ex34 hf => ?_)
      refine xm_iload_n dX12_undo_98 rfl ?_
      refine xb_iald dX12_undo_99 hf (fun x35 ex35 hf => ?_)
      refine xb_iast dX12_undo_100 hf (fun σ36 eσ36 hf => ?_)
      refine xm_aload_n dX12_undo_101 rfl ?_
      refine xb_getR (a := l0) (c := 12) (k := 16) dX12_undo_102 xcl12 (by decide) xw_1853 rfl hf (fun x37 ex37 hf => ?_)
      refine xm_iload_n dX12_undo_105 rfl ?_
      refine xm_aload_n dX12_undo_106 rfl ?_
      refine xb_getR (a := l0) (c := 12) (k := 80) dX12_undo_107 xcl12 (by decide) xw_1917 rfl hf (fun x38 ex38 hf => ?_)
      refine xm_iload_n dX12_undo_110 rfl ?_
      refine xb_iald dX12_undo_111 hf (fun x39 ex39 hf => ?_)
      refine xb_iast dX12_undo_112 hf (fun σ40 eσ40 hf => ?_)
      refine xm_aload_n dX12_undo_113 rfl ?_
      refine xb_getR (a := l0) (c := 12) (k := 17) dX12_undo_114 xcl12 (by decide) xw_1854 rfl hf (fun x41 ex41 hf => ?_)
      refine xm_iload_n dX12_undo_117 rfl ?_
      refine xm_aload_n dX12_undo_118 rfl ?_
      refine xb_getR (a := l0) (c := 12) (k := 81) dX12_undo_119 xcl12 (by decide) xw_1918 rfl hf (fun x42 ex42 hf => ?_)
      refine xm_iload_n dX12_undo_122 rfl ?_
      refine xb_iald dX12_undo_123 hf (fun x43 ex43 hf => ?_)
      refine xb_iast dX12_undo_124 hf (fun σ44 eσ44 hf => ?_)
      refine xm_goto 262 dX12_undo_125 (by decide) ?_
      exact xm_sub [2, 1] rfl (L_X12_undo_j262 σ44 l0 v7 hf hR)
    refine xb_if hf (fun c hf => ?_) (fun n2 hf => ?_)
    · refine xm_tableIn 128 dX12_undo_50 (by rw [c]; decide) (by rw [c]; decide) (by rw [c]; rfl) (by decide) ?_
      refine xm_aload_n dX12_undo_128 rfl ?_
      refine xb_getR (a := l0) (c := 12) (k := 47) dX12_undo_129 xcl12 (by decide) xw_1884 rfl hf (fun x45 ex45 hf => ?_)
      refine xm_iload_n dX12_undo_132 rfl ?_
      refine xm_aload_n dX12_undo_133 rfl ?_
      refine xb_getR (a := l0) (c := 12) (k := 79) dX12_undo_134 xcl12 (by decide) xw_1916 rfl hf (fun x46 ex46 hf => ?_)
      refine xm_iload_n dX12_undo_137 rfl ?_
      refine xb_iald dX12_undo_138 hf (fun x47 ex47 hf => ?_)
      refine xm_iconst dX12_undo_139 (v := 1) (by decide) ?_
      refine xb_icmp_ne 147 dX12_undo_140 (by decide) hf (fun c hf => ?_) (fun c hf => ?_)
      · refine xm_iconst dX12_undo_147 (v := 0) (by decide) ?_
        exact xm_sub [2, 1, 0] rfl (L_X12_undo_j148 σ4 l0 v7 x9 (0 : Int32) x9 x45 hf hR)
      · refine xm_iconst dX12_undo_143 (v := 1) (by decide) ?_
        refine xm_goto 148 dX12_undo_144 (by decide) ?_
        exact xm_sub [2, 1, 0] rfl (L_X12_undo_j148 σ4 l0 v7 x9 (1 : Int32) x9 x45 hf hR)
    refine xm_tableOut 161 dX12_undo_50 (by have q0 := lv_neT (a := 0) n0 (by decide); have q1 := lv_neT (a := 1) n1 (by decide); have q2 := lv_neT (a := 2) n2 (by decide); omega) (by decide) ?_
    refine xm_aload_n dX12_undo_161 rfl ?_
    refine xb_getR (a := l0) (c := 12) (k := 11) dX12_undo_162 xcl12 (by decide) xw_1848 rfl hf (fun x12 ex12 hf => ?_)
    refine xm_iload_n dX12_undo_165 rfl ?_
    refine xm_aload_n dX12_undo_166 rfl ?_
    refine xb_getR (a := l0) (c := 12) (k := 79) dX12_undo_167 xcl12 (by decide) xw_1916 rfl hf (fun x13 ex13 hf => ?_)
    refine xm_iload_n dX12_undo_170 rfl ?_
    refine xb_iald dX12_undo_171 hf (fun x14 ex14 hf => ?_)
    refine xb_iast dX12_undo_172 hf (fun σ15 eσ15 hf => ?_)
    refine xm_aload_n dX12_undo_173 rfl ?_
    refine xb_getR (a := l0) (c := 12) (k := 12) dX12_undo_174 xcl12 (by decide) xw_1849 rfl hf (fun x16 ex16 hf => ?_)
    refine xm_iload_n dX12_undo_177 rfl ?_
    refine xm_aload_n dX12_undo_178 rfl ?_
    refine xb_getR (a := l0) (c := 12) (k := 80) dX12_undo_179 xcl12 (by decide) xw_1917 rfl hf (fun x17 ex17 hf => ?_)
    refine xm_iload_n dX12_undo_182 rfl ?_
    refine xb_iald dX12_undo_183 hf (fun x18 ex18 hf => ?_)
    refine xb_iast dX12_undo_184 hf (fun σ19 eσ19 hf => ?_)
    refine xm_iconst dX12_undo_185 (v := 0) (by decide) ?_
    refine xb_topi hf (fun v20 ev20 hf => ?_)
    refine xm_istore_n dX12_undo_186 (by decide) (xm_stL (L' := [(3, .int v20), (2, .int x9), (1, .int v7), (0, .ref l0)]) rfl ?_)
    obtain ⟨o, h1, hf⟩ := xbind hf
    refine xm_sub [3, 2, 1, 0] rfl (L_X12_undo_l187  h1 (fun g hg => ?_) (fun e he => ?_))
    · subst hg
      cases hf
      exact hR _ rfl
    · subst he
      rw [Sum.elim_inr] at hf
      have hf : f_X12_undo_j262 e.2.2 e.1 e.2.1 = some _ := hf
      exact xm_sub [0, 1] rfl (L_X12_undo_j262 e.2.2 e.1 e.2.1 hf hR)
  · refine xm_iconst dX12_undo_12 (v := -1) (by decide) ?_
    cases hf
    exact xm_iret dX12_undo_13 rfl (hR _ rfl)
-- RankwiseModel.shelf(I)I
def f_X12_shelf (σ : xM) (l0 : Int32) : Option Int32 :=
  some ((80 : Int32) * l0)
set_option maxHeartbeats 4000000 in
set_option maxRecDepth 20000 in
theorem m_X12_shelf {G : xG} {π : Nat → Nat} {d C Z : Nat} {Q : xQ} {σ : xM} {l0 : Int32} {x : Int32} (hf : f_X12_shelf σ l0 = some x) (hR : ∀ g, x = g → Q (.inl (some (.int g))) (σ) π) : xMach G π J_X12_shelf (d + 0) C Z 0 (lv_args 0 [.int l0]) [] σ Q := by
  unfold f_X12_shelf at hf
  refine xm_stL (L' := [(0, .int l0)]) rfl ?_
  refine xm_bipush dX12_shelf_0 (v := 80) (by decide) ?_
  refine xm_iload_n dX12_shelf_2 rfl ?_
  refine xm_imul dX12_shelf_3 ?_
  cases hf
  exact xm_iret dX12_shelf_4 rfl (hR _ rfl)
-- RankwiseModel.isTree(I)Z
def f_X12_isTree (σ : xM) (l0 : Nat) (l1 : Int32) : Option Int32 :=
  (gI σ l0 12 10).bind (fun x1 => (f_X12_in σ l1 (0 : Int32) (x1 - (1 : Int32))).bind (fun p2 => (xz p2).bind (fun b3 => some b3)))
set_option maxHeartbeats 4000000 in
set_option maxRecDepth 20000 in
theorem m_X12_isTree {G : xG} {π : Nat → Nat} {d C Z : Nat} {Q : xQ} {σ : xM} {l0 : Nat} {l1 : Int32} {x : Int32} (hf : f_X12_isTree σ l0 l1 = some x) (hR : ∀ g, x = g → Q (.inl (some (.int g))) (σ) π) : xMach G π J_X12_isTree (d + 1) C Z 0 (lv_args 0 [.ref l0, .int l1]) [] σ Q := by
  unfold f_X12_isTree at hf
  refine xm_stL (L' := [(0, .ref l0), (1, .int l1)]) rfl ?_
  refine xm_iload_n dX12_isTree_0 rfl ?_
  refine xm_iconst dX12_isTree_1 (v := 0) (by decide) ?_
  refine xm_aload_n dX12_isTree_2 rfl ?_
  refine xb_getI (a := l0) (c := 12) (k := 10) dX12_isTree_3 xcl12 (by decide) xw_1847 rfl hf (fun x1 ex1 hf => ?_)
  refine xm_iconst dX12_isTree_6 (v := 1) (by decide) ?_
  refine xm_isub dX12_isTree_7 ?_
  obtain ⟨p2, ep2, hf⟩ := xbind hf
  refine xb_callS (As := [.int l1, .int (0 : Int32), .int (x1 - (1 : Int32))]) (v0 := (some (.int p2))) (τ0 := σ) dX12_isTree_8 (xc_X12_in _ _) xw_2132 xw_2133 rfl (Nat.le_of_ble_eq_true rfl) rfl (Nat.le_of_ble_eq_true rfl) (fun Q1 hq => m_X12_in (d := d + 0) ep2 (fun g hg => by subst hg; exact hq)) ?_
  obtain ⟨b3, eb3, hf⟩ := xbind hf
  obtain ⟨rfl, hz⟩ := xz_of eb3
  cases hf
  exact xm_zret dX12_isTree_11 rfl hz (hR _ rfl)
-- RankwiseModel.isNode(II)Z
def f_X12_isNode_j29 (σ : xM) (s0 : Int32) : Option Int32 :=
  (xz s0).bind (fun b2 => some b2)
set_option maxHeartbeats 4000000 in
set_option maxRecDepth 20000 in
theorem L_X12_isNode_j29 {G : xG} {π : Nat → Nat} {d C Z : Nat} {Q : xQ} (σ : xM) (s0 : Int32) {x : Int32} (hf : f_X12_isNode_j29 σ s0 = some x) (hR : ∀ g, x = g → Q (.inl (some (.int g))) (σ) π) : xMach G π J_X12_isNode (d + 2) C Z 29 [] [.int s0] σ Q := by
  unfold f_X12_isNode_j29 at hf
  obtain ⟨b2, eb2, hf⟩ := xbind hf
  obtain ⟨rfl, hz⟩ := xz_of eb2
  cases hf
  exact xm_zret dX12_isNode_29 rfl hz (hR _ rfl)
def f_X12_isNode_j28 (σ : xM)  : Option Int32 :=
  f_X12_isNode_j29 σ (0 : Int32)
set_option maxHeartbeats 4000000 in
set_option maxRecDepth 20000 in
theorem L_X12_isNode_j28 {G : xG} {π : Nat → Nat} {d C Z : Nat} {Q : xQ} (σ : xM)  {x : Int32} (hf : f_X12_isNode_j28 σ = some x) (hR : ∀ g, x = g → Q (.inl (some (.int g))) (σ) π) : xMach G π J_X12_isNode (d + 2) C Z 28 [] [] σ Q := by
  unfold f_X12_isNode_j28 at hf
  refine xm_iconst dX12_isNode_28 (v := 0) (by decide) ?_
  exact xm_sub [] rfl (L_X12_isNode_j29 σ (0 : Int32) hf hR)
def f_X12_isNode (σ : xM) (l0 : Nat) (l1 : Int32) (l2 : Int32) : Option Int32 :=
  (if xk σ l0 12 = true then (f_X12_isTree σ l0 l1).bind (fun p1 => (if p1 = (0 : Int32) then f_X12_isNode_j28 σ else (gR σ l0 12 9).bind (fun x3 => (aI σ x3 14 l1).bind (fun x4 => (f_X12_in σ l2 (0 : Int32) (x4 - (1 : Int32))).bind (fun p5 => (if p5 = (0 : Int32) then f_X12_isNode_j28 σ else f_X12_isNode_j29 σ (1 : Int32))))))) else none)
set_option maxHeartbeats 4000000 in
set_option maxRecDepth 20000 in
theorem m_X12_isNode {G : xG} {π : Nat → Nat} {d C Z : Nat} {Q : xQ} {σ : xM} {l0 : Nat} {l1 : Int32} {l2 : Int32} {x : Int32} (hf : f_X12_isNode σ l0 l1 l2 = some x) (hR : ∀ g, x = g → Q (.inl (some (.int g))) (σ) π) : xMach G π J_X12_isNode (d + 2) C Z 0 (lv_args 0 [.ref l0, .int l1, .int l2]) [] σ Q := by
  unfold f_X12_isNode at hf
  refine xm_stL (L' := [(0, .ref l0), (1, .int l1), (2, .int l2)]) rfl ?_
  refine xm_aload_n dX12_isNode_0 rfl ?_
  refine xm_iload_n dX12_isNode_1 rfl ?_
  refine xb_if hf (fun hb hf => ?_) (fun _ q => nomatch q)
  obtain ⟨p1, ep1, hf⟩ := xbind hf
  refine xb_callV (As := [.int l1]) (v0 := (some (.int p1))) (τ0 := σ) dX12_isNode_2 (xc_X12_isTree _ _) xcl12 xw_2233 xw_2235 xs_113 hb rfl (Nat.le_of_ble_eq_true rfl) rfl (Nat.le_of_ble_eq_true rfl) (fun Q1 hq => m_X12_isTree (d := d + 0) ep1 (fun g hg => by subst hg; exact hq)) ?_
  refine xb_if_eq 28 dX12_isNode_5 (by decide) hf (fun c hf => ?_) (fun c hf => ?_)
  · exact xm_sub [] rfl (L_X12_isNode_j28 σ hf hR)
  · refine xm_iload_n dX12_isNode_8 rfl ?_
    refine xm_iconst dX12_isNode_9 (v := 0) (by decide) ?_
    refine xm_aload_n dX12_isNode_10 rfl ?_
    refine xb_getR (a := l0) (c := 12) (k := 9) dX12_isNode_11 xcl12 (by decide) xw_1846 rfl hf (fun x3 ex3 hf => ?_)
    refine xm_iload_n dX12_isNode_14 rfl ?_
    refine xb_iald dX12_isNode_15 hf (fun x4 ex4 hf => ?_)
    refine xm_iconst dX12_isNode_16 (v := 1) (by decide) ?_
    refine xm_isub dX12_isNode_17 ?_
    obtain ⟨p5, ep5, hf⟩ := xbind hf
    refine xb_callS (As := [.int l2, .int (0 : Int32), .int (x4 - (1 : Int32))]) (v0 := (some (.int p5))) (τ0 := σ) dX12_isNode_18 (xc_X12_in _ _) xw_2132 xw_2133 rfl (Nat.le_of_ble_eq_true rfl) rfl (Nat.le_of_ble_eq_true rfl) (fun Q1 hq => m_X12_in (d := d + 1) ep5 (fun g hg => by subst hg; exact hq)) ?_
    refine xb_if_eq 28 dX12_isNode_21 (by decide) hf (fun c hf => ?_) (fun c hf => ?_)
    · exact xm_sub [] rfl (L_X12_isNode_j28 σ hf hR)
    · refine xm_iconst dX12_isNode_24 (v := 1) (by decide) ?_
      refine xm_goto 29 dX12_isNode_25 (by decide) ?_
      exact xm_sub [] rfl (L_X12_isNode_j29 σ (1 : Int32) hf hR)
-- RankwiseModel.isName(I)Z
def f_X12_isName (σ : xM) (l0 : Int32) : Option Int32 :=
  (f_X12_in σ l0 (97 : Int32) (122 : Int32)).bind (fun p1 => (xz p1).bind (fun b2 => some b2))
set_option maxHeartbeats 4000000 in
set_option maxRecDepth 20000 in
theorem m_X12_isName {G : xG} {π : Nat → Nat} {d C Z : Nat} {Q : xQ} {σ : xM} {l0 : Int32} {x : Int32} (hf : f_X12_isName σ l0 = some x) (hR : ∀ g, x = g → Q (.inl (some (.int g))) (σ) π) : xMach G π J_X12_isName (d + 1) C Z 0 (lv_args 0 [.int l0]) [] σ Q := by
  unfold f_X12_isName at hf
  refine xm_stL (L' := [(0, .int l0)]) rfl ?_
  refine xm_iload_n dX12_isName_0 rfl ?_
  refine xm_bipush dX12_isName_1 (v := 97) (by decide) ?_
  refine xm_bipush dX12_isName_3 (v := 122) (by decide) ?_
  obtain ⟨p1, ep1, hf⟩ := xbind hf
  refine xb_callS (As := [.int l0, .int (97 : Int32), .int (122 : Int32)]) (v0 := (some (.int p1))) (τ0 := σ) dX12_isName_5 (xc_X12_in _ _) xw_2132 xw_2133 rfl (Nat.le_of_ble_eq_true rfl) rfl (Nat.le_of_ble_eq_true rfl) (fun Q1 hq => m_X12_in (d := d + 0) ep1 (fun g hg => by subst hg; exact hq)) ?_
  obtain ⟨b2, eb2, hf⟩ := xbind hf
  obtain ⟨rfl, hz⟩ := xz_of eb2
  cases hf
  exact xm_zret dX12_isName_8 rfl hz (hR _ rfl)
-- RankwiseModel.shelve(II)I
def f_X12_shelve (σ : xM) (l0 : Nat) (l1 : Int32) (l2 : Int32) : Option (Int32 × xM) :=
  (gI σ l0 12 10).bind (fun x1 => (f_X12_shelf σ x1).bind (fun p2 => (if xk σ l0 12 = true then (f_X12_copyNodes σ l0 p2 l1 l2).bind (fun p3 => (gR p3 l0 12 9).bind (fun x4 => (gI p3 l0 12 10).bind (fun x5 => (wI p3 x4 x5 l2).bind (fun σ6 => (gI σ6 l0 12 10).bind (fun x7 => (f_X12_shelf σ6 x7).bind (fun p8 => (if xk σ6 l0 12 = true then (f_X12_span σ6 l0 p8 l2).bind (fun p9 => (gI p9 l0 12 10).bind (fun x10 => (sI p9 l0 12 10 (x10 + (1 : Int32))).bind (fun σ11 => (if xk σ11 l0 12 = true then (f_X12_note σ11 l0 (0 : Int32) (0 : Int32) (0 : Int32) (0 : Int32) (0 : Int32)).bind (fun p12 => (gI p12.2 l0 12 10).bind (fun x13 => some ((x13 - (1 : Int32)), p12.2))) else none)))) else none))))))) else none)))
set_option maxHeartbeats 4000000 in
set_option maxRecDepth 20000 in
theorem m_X12_shelve {G : xG} {π : Nat → Nat} {d C Z : Nat} {Q : xQ} {σ : xM} {l0 : Nat} {l1 : Int32} {l2 : Int32} {x : (Int32 × xM)} (hf : f_X12_shelve σ l0 l1 l2 = some x) (hR : ∀ g, x = g → Q (.inl (some (.int g.1))) (g.2) π) : xMach G π J_X12_shelve (d + 1) C Z 0 (lv_args 0 [.ref l0, .int l1, .int l2]) [] σ Q := by
  unfold f_X12_shelve at hf
  refine xm_stL (L' := [(0, .ref l0), (1, .int l1), (2, .int l2)]) rfl ?_
  refine xm_aload_n dX12_shelve_0 rfl ?_
  refine xm_aload_n dX12_shelve_1 rfl ?_
  refine xb_getI (a := l0) (c := 12) (k := 10) dX12_shelve_2 xcl12 (by decide) xw_1847 rfl hf (fun x1 ex1 hf => ?_)
  obtain ⟨p2, ep2, hf⟩ := xbind hf
  refine xb_callS (As := [.int x1]) (v0 := (some (.int p2))) (τ0 := σ) dX12_shelve_5 (xc_X12_shelf _ _) xw_2214 xw_2215 rfl (Nat.le_of_ble_eq_true rfl) rfl (Nat.le_of_ble_eq_true rfl) (fun Q1 hq => m_X12_shelf (d := d + 0) ep2 (fun g hg => by subst hg; exact hq)) ?_
  refine xm_iload_n dX12_shelve_8 rfl ?_
  refine xm_iload_n dX12_shelve_9 rfl ?_
  refine xb_if hf (fun hb hf => ?_) (fun _ q => nomatch q)
  obtain ⟨p3, ep3, hf⟩ := xbind hf
  refine xb_callV (As := [.int p2, .int l1, .int l2]) (v0 := none) (τ0 := p3) dX12_shelve_10 (xc_X12_copyNodes _ _) xcl12 xw_2104 xw_2106 xs_89 hb rfl (Nat.le_of_ble_eq_true rfl) rfl (Nat.le_of_ble_eq_true rfl) (fun Q1 hq => m_X12_copyNodes (d := d + 0) ep3 (fun g hg => by subst hg; exact hq)) ?_
  refine xm_aload_n dX12_shelve_13 rfl ?_
  refine xb_getR (a := l0) (c := 12) (k := 9) dX12_shelve_14 xcl12 (by decide) xw_1846 rfl hf (fun x4 ex4 hf => ?_)
  refine xm_aload_n dX12_shelve_17 rfl ?_
  refine xb_getI (a := l0) (c := 12) (k := 10) dX12_shelve_18 xcl12 (by decide) xw_1847 rfl hf (fun x5 ex5 hf => ?_)
  refine xm_iload_n dX12_shelve_21 rfl ?_
  refine xb_iast dX12_shelve_22 hf (fun σ6 eσ6 hf => ?_)
  refine xm_aload_n dX12_shelve_23 rfl ?_
  refine xm_aload_n dX12_shelve_24 rfl ?_
  refine xb_getI (a := l0) (c := 12) (k := 10) dX12_shelve_25 xcl12 (by decide) xw_1847 rfl hf (fun x7 ex7 hf => ?_)
  obtain ⟨p8, ep8, hf⟩ := xbind hf
  refine xb_callS (As := [.int x7]) (v0 := (some (.int p8))) (τ0 := σ6) dX12_shelve_28 (xc_X12_shelf _ _) xw_2214 xw_2215 rfl (Nat.le_of_ble_eq_true rfl) rfl (Nat.le_of_ble_eq_true rfl) (fun Q1 hq => m_X12_shelf (d := d + 0) ep8 (fun g hg => by subst hg; exact hq)) ?_
  refine xm_iload_n dX12_shelve_31 rfl ?_
  refine xb_if hf (fun hb hf => ?_) (fun _ q => nomatch q)
  obtain ⟨p9, ep9, hf⟩ := xbind hf
  refine xb_callV (As := [.int p8, .int l2]) (v0 := none) (τ0 := p9) dX12_shelve_32 (xc_X12_span _ _) xcl12 xw_2206 xw_2208 xs_109 hb rfl (Nat.le_of_ble_eq_true rfl) rfl (Nat.le_of_ble_eq_true rfl) (fun Q1 hq => m_X12_span (d := d + 0) ep9 (fun g hg => by subst hg; exact hq)) ?_
  refine xm_aload_n dX12_shelve_35 rfl ?_
  refine xm_dup dX12_shelve_36 rfl ?_
  refine xb_getI (a := l0) (c := 12) (k := 10) dX12_shelve_37 xcl12 (by decide) xw_1847 rfl hf (fun x10 ex10 hf => ?_)
  refine xm_iconst dX12_shelve_40 (v := 1) (by decide) ?_
  refine xm_iadd dX12_shelve_41 ?_
  refine xb_putI (a := l0) (c := 12) (k := 10) dX12_shelve_42 xcl12 (by decide) xw_1847 rfl rfl hf (fun σ11 eσ11 hf => ?_)
  refine xm_aload_n dX12_shelve_45 rfl ?_
  refine xm_iconst dX12_shelve_46 (v := 0) (by decide) ?_
  refine xm_iconst dX12_shelve_47 (v := 0) (by decide) ?_
  refine xm_iconst dX12_shelve_48 (v := 0) (by decide) ?_
  refine xm_iconst dX12_shelve_49 (v := 0) (by decide) ?_
  refine xm_iconst dX12_shelve_50 (v := 0) (by decide) ?_
  refine xb_if hf (fun hb hf => ?_) (fun _ q => nomatch q)
  obtain ⟨p12, ep12, hf⟩ := xbind hf
  refine xb_callV (As := [.int (0 : Int32), .int (0 : Int32), .int (0 : Int32), .int (0 : Int32), .int (0 : Int32)]) (v0 := (some (.int p12.1))) (τ0 := p12.2) dX12_shelve_51 (xc_X12_note _ _) xcl12 xw_2217 xw_2219 xs_111 hb rfl (Nat.le_of_ble_eq_true rfl) rfl (Nat.le_of_ble_eq_true rfl) (fun Q1 hq => m_X12_note (d := d + 0) ep12 (fun g hg => by subst hg; exact hq)) ?_
  refine xm_pop dX12_shelve_54 rfl ?_
  refine xm_aload_n dX12_shelve_55 rfl ?_
  refine xb_getI (a := l0) (c := 12) (k := 10) dX12_shelve_56 xcl12 (by decide) xw_1847 rfl hf (fun x13 ex13 hf => ?_)
  refine xm_iconst dX12_shelve_59 (v := 1) (by decide) ?_
  refine xm_isub dX12_shelve_60 ?_
  cases hf
  exact xm_iret dX12_shelve_61 rfl (hR _ rfl)

