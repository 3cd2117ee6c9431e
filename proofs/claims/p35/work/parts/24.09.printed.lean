def f_L_printed_s22 (s : (Nat × Int32 × Int32 × Nat × Int32 × xM)) : Option ((Int32 × xM) ⊕ ((Nat × Int32 × Int32 × Nat × xM) ⊕ (Nat × Int32 × Int32 × Nat × Int32 × xM))) :=
  xlet s.1 (fun l0 => xlet s.2.1 (fun l1 => xlet s.2.2.1 (fun l2 => xlet s.2.2.2.1 (fun l3 => xlet s.2.2.2.2.1 (fun l4 => xlet s.2.2.2.2.2 (fun σ => (if l2 ≤ l4 then some (Sum.inr (Sum.inl (l0, l1, l2, l3, σ))) else (if xk σ l0 11 = true then (f_X11_out σ l0 l4).bind (fun p6 => Sum.elim (fun w7 => (wI σ l3 l4 w7).bind (fun σ8 => xlet (l4 + (1 : Int32)) (fun v9 => some (Sum.inr (Sum.inr (l0, l1, l2, l3, v9, σ8)))))) (fun _ => none) p6) else none))))))))
set_option maxHeartbeats 4000000 in
set_option maxRecDepth 20000 in
theorem L_L_printed_s22 {G : xG} {π : Nat → Nat} {d C Z : Nat} {Q : xQ} (σ : xM) (l0 : Nat) (l1 : Int32) (l2 : Int32) (l3 : Nat) (l4 : Int32) {x : ((Int32 × xM) ⊕ ((Nat × Int32 × Int32 × Nat × xM) ⊕ (Nat × Int32 × Int32 × Nat × Int32 × xM)))} (hf : f_L_printed_s22 (l0, l1, l2, l3, l4, σ) = some x) (hR : ∀ g, x = Sum.inl (g) → ∀ π', xag 4562 π π' → Q (.inl (some (.int g.1))) (g.2) π') (hE : ∀ e : (Nat × Int32 × Int32 × Nat × xM), x = Sum.inr (Sum.inl e) → xMach G π J_L_printed (d + 403) C Z 44 [(0, .ref e.1), (1, .int e.2.1), (2, .int e.2.2.1), (3, .ref e.2.2.2.1)] [] e.2.2.2.2 Q) (hC : ∀ e : (Nat × Int32 × Int32 × Nat × Int32 × xM), x = Sum.inr (Sum.inr e) → xMach G π J_L_printed (d + 403) C Z 22 [(0, .ref e.1), (1, .int e.2.1), (2, .int e.2.2.1), (3, .ref e.2.2.2.1), (4, .int e.2.2.2.2.1)] [] e.2.2.2.2.2 Q) : xMach G π J_L_printed (d + 403) C Z 22 [(0, .ref l0), (1, .int l1), (2, .int l2), (3, .ref l3), (4, .int l4)] [] σ Q := by
  have hf : (if l2 ≤ l4 then some (Sum.inr (Sum.inl (l0, l1, l2, l3, σ))) else (if xk σ l0 11 = true then (f_X11_out σ l0 l4).bind (fun p6 => Sum.elim (fun w7 => (wI σ l3 l4 w7).bind (fun σ8 => xlet (l4 + (1 : Int32)) (fun v9 => some (Sum.inr (Sum.inr (l0, l1, l2, l3, v9, σ8)))))) (fun _ => none) p6) else none)) = some x := hf
  refine xm_iload dL_printed_22 rfl ?_
  refine xm_iload_n dL_printed_24 rfl ?_
  refine xb_icmp_ge 44 dL_printed_25 (by decide) hf (fun c hf => ?_) (fun c hf => ?_)
  · cases hf
    exact xm_sub [0, 1, 2, 3] rfl (hE _ rfl)
  · refine xm_aload_n dL_printed_28 rfl ?_
    refine xm_iload dL_printed_29 rfl ?_
    refine xm_aload_n dL_printed_31 rfl ?_
    refine xm_iload dL_printed_32 rfl ?_
    refine xb_if hf (fun hb hf => ?_) (fun _ q => nomatch q)
    obtain ⟨p6, ep6, hf⟩ := xbind hf
    rcases p6 with w7 | E
    · rw [Sum.elim_inl] at hf
      have hf : (wI σ l3 l4 w7).bind (fun σ8 => xlet (l4 + (1 : Int32)) (fun v9 => some (Sum.inr (Sum.inr (l0, l1, l2, l3, v9, σ8))))) = some _ := hf
      refine xb_callV (As := [.int l4]) (v0 := (some (.int w7))) (τ0 := σ) dL_printed_34 (xc_X11_out _ _) xcl11 xw_1525 xw_1526 xw_1527 hb rfl (Nat.le_of_ble_eq_true rfl) rfl (Nat.le_of_ble_eq_true rfl) (fun Q1 hq => m_X11_out (d := d + 395) ep6 (fun g hg => by subst hg; exact hq)) ?_
      refine xb_iast dL_printed_37 hf (fun σ8 eσ8 hf => ?_)
      refine xb_iinc dL_printed_38 rfl (by decide) (by decide) hf (fun v9 ev9 hf => xm_stL (L' := [(4, .int v9), (0, .ref l0), (1, .int l1), (2, .int l2), (3, .ref l3)]) rfl ?_)
      refine xm_goto 22 dL_printed_41 (by decide) ?_
      cases hf
      exact xm_sub [1, 2, 3, 4, 0] rfl (hC _ rfl)
    · cases hf
theorem L_L_printed_l22 {G : xG} {π : Nat → Nat} {d C Z : Nat} {Q : xQ} {s0 : (Nat × Int32 × Int32 × Nat × Int32 × xM)} {x : ((Int32 × xM) ⊕ (Nat × Int32 × Int32 × Nat × xM))} (h1 : xloop (f_L_printed_s22) xF s0 = some x) (hR : ∀ g, x = Sum.inl g → ∀ π', xag 4562 π π' → Q (.inl (some (.int g.1))) (g.2) π') (hE : ∀ e : (Nat × Int32 × Int32 × Nat × xM), x = Sum.inr e → xMach G π J_L_printed (d + 403) C Z 44 [(0, .ref e.1), (1, .int e.2.1), (2, .int e.2.2.1), (3, .ref e.2.2.2.1)] [] e.2.2.2.2 Q) : xMach G π J_L_printed (d + 403) C Z 22 [(0, .ref s0.1), (1, .int s0.2.1), (2, .int s0.2.2.1), (3, .ref s0.2.2.2.1), (4, .int s0.2.2.2.2.1)] [] s0.2.2.2.2.2 Q := by
  refine xloop_run (M := (fun s : (Nat × Int32 × Int32 × Nat × Int32 × xM) => xMach G π J_L_printed (d + 403) C Z 22 [(0, .ref s.1), (1, .int s.2.1), (2, .int s.2.2.1), (3, .ref s.2.2.2.1), (4, .int s.2.2.2.2.1)] [] s.2.2.2.2.2 Q)) (r := x) ?_ xF _ h1
  intro s y hs hx
  exact L_L_printed_s22 s.2.2.2.2.2 s.1 s.2.1 s.2.2.1 s.2.2.2.1 s.2.2.2.2.1 (x := y) hs (fun g hg => by subst hg; exact hR g hx) (fun e he => by subst he; exact hE e hx) (fun e he => by subst he; exact hx)
def f_L_printed_j89 (σ : xM) (s0 : Int32) : Option (Int32 × xM) :=
  (xz s0).bind (fun b16 => some (b16, σ))
set_option maxHeartbeats 4000000 in
set_option maxRecDepth 20000 in
theorem L_L_printed_j89 {G : xG} {π : Nat → Nat} {d C Z : Nat} {Q : xQ} (σ : xM) (s0 : Int32) {x : (Int32 × xM)} (hf : f_L_printed_j89 σ s0 = some x) (hR : ∀ g, x = g → ∀ π', xag 4562 π π' → Q (.inl (some (.int g.1))) (g.2) π') : xMach G π J_L_printed (d + 403) C Z 89 [] [.int s0] σ Q := by
  unfold f_L_printed_j89 at hf
  obtain ⟨b16, eb16, hf⟩ := xbind hf
  obtain ⟨rfl, hz⟩ := xz_of eb16
  cases hf
  exact xm_zret dL_printed_89 rfl hz (hR _ rfl _ xag_rf)
def f_L_printed_j88 (σ : xM)  : Option (Int32 × xM) :=
  f_L_printed_j89 σ (0 : Int32)
set_option maxHeartbeats 4000000 in
set_option maxRecDepth 20000 in
theorem L_L_printed_j88 {G : xG} {π : Nat → Nat} {d C Z : Nat} {Q : xQ} (σ : xM)  {x : (Int32 × xM)} (hf : f_L_printed_j88 σ = some x) (hR : ∀ g, x = g → ∀ π', xag 4562 π π' → Q (.inl (some (.int g.1))) (g.2) π') : xMach G π J_L_printed (d + 403) C Z 88 [] [] σ Q := by
  unfold f_L_printed_j88 at hf
  refine xm_iconst dL_printed_88 (v := 0) (by decide) ?_
  exact xm_sub [] rfl (L_L_printed_j89 σ (0 : Int32) hf hR)
def f_L_printed_j44 (σ : xM) (l0 : Nat) (l1 : Int32) (l2 : Int32) (l3 : Nat) : Option (Int32 × xM) :=
  (f_L_types σ l0 l3 (0 : Int32) l2).bind (fun p10 => (if xk p10 l0 11 = true then (f_X11_read p10 l0).bind (fun p11 => xlet p11.2 (fun σ13 => Sum.elim (fun w12 => (if xk σ13 l0 11 = true then (f_X11_isSame σ13 l0 l1 w12).bind (fun p14 => Sum.elim (fun w15 => (if w15 = (0 : Int32) then f_L_printed_j88 σ13 else (if xk σ13 l0 11 = true then (f_X11_print σ13 l0 w12).bind (fun p17 => xlet p17.2 (fun σ19 => Sum.elim (fun w18 => (if w18 = l2 then (if xk σ19 l0 11 = true then (f_X11_undo σ19 l0).bind (fun p20 => (if p20.1 = (0 : Int32) then f_L_printed_j89 p20.2 (1 : Int32) else f_L_printed_j88 p20.2)) else none) else f_L_printed_j88 σ19)) (fun _ => none) p17.1)) else none))) (fun _ => none) p14) else none)) (fun _ => none) p11.1)) else none))
set_option maxHeartbeats 4000000 in
set_option maxRecDepth 20000 in
theorem L_L_printed_j44 {G : xG} {π : Nat → Nat} {d C Z : Nat} {Q : xQ} (σ : xM) (l0 : Nat) (l1 : Int32) (l2 : Int32) (l3 : Nat) {x : (Int32 × xM)} (hf : f_L_printed_j44 σ l0 l1 l2 l3 = some x) (hR : ∀ g, x = g → ∀ π', xag 4562 π π' → Q (.inl (some (.int g.1))) (g.2) π') : xMach G π J_L_printed (d + 403) C Z 44 [(0, .ref l0), (1, .int l1), (2, .int l2), (3, .ref l3)] [] σ Q := by
  unfold f_L_printed_j44 at hf
  refine xm_aload_n dL_printed_44 rfl ?_
  refine xm_aload_n dL_printed_45 rfl ?_
  refine xm_iconst dL_printed_46 (v := 0) (by decide) ?_
  refine xm_iload_n dL_printed_47 rfl ?_
  obtain ⟨p10, ep10, hf⟩ := xbind hf
  refine xb_callS (As := [.ref l0, .ref l3, .int (0 : Int32), .int l2]) (v0 := none) (τ0 := p10) dL_printed_48 (xc_L_types _ _) xw_1237 xw_1238 rfl (Nat.le_of_ble_eq_true rfl) rfl (Nat.le_of_ble_eq_true rfl) (fun Q1 hq => m_L_types (d := d + 394) (C := 0) (Z := 0) ep10 (fun g hg => by subst hg; exact hq)) ?_
  refine xm_aload_n dL_printed_51 rfl ?_
  refine xb_if hf (fun hb hf => ?_) (fun _ q => nomatch q)
  obtain ⟨p11, ep11, hf⟩ := xbind hf
  rcases p11 with ⟨w12 | E, σ13⟩
  · have hf : (if xk σ13 l0 11 = true then (f_X11_isSame σ13 l0 l1 w12).bind (fun p14 => Sum.elim (fun w15 => (if w15 = (0 : Int32) then f_L_printed_j88 σ13 else (if xk σ13 l0 11 = true then (f_X11_print σ13 l0 w12).bind (fun p17 => xlet p17.2 (fun σ19 => Sum.elim (fun w18 => (if w18 = l2 then (if xk σ19 l0 11 = true then (f_X11_undo σ19 l0).bind (fun p20 => (if p20.1 = (0 : Int32) then f_L_printed_j89 p20.2 (1 : Int32) else f_L_printed_j88 p20.2)) else none) else f_L_printed_j88 σ19)) (fun _ => none) p17.1)) else none))) (fun _ => none) p14) else none) = some _ := hf
    refine xb_callV (As := []) (v0 := (some (.int w12))) (τ0 := σ13) dL_printed_52 (xc_X11_read _ _) xcl11 xw_796 xw_797 xw_798 hb rfl (Nat.le_of_ble_eq_true rfl) rfl (Nat.le_of_ble_eq_true rfl) (fun Q1 hq => m_X11_read (d := d + 394) ep11 (fun g hg => by subst hg; exact hq)) ?_
    refine xm_istore dL_printed_55 (by decide) (xm_stL (L' := [(4, .int w12), (0, .ref l0), (1, .int l1), (2, .int l2), (3, .ref l3)]) rfl ?_)
    refine xm_aload_n dL_printed_57 rfl ?_
    refine xm_iload_n dL_printed_58 rfl ?_
    refine xm_iload dL_printed_59 rfl ?_
    refine xb_if hf (fun hb hf => ?_) (fun _ q => nomatch q)
    obtain ⟨p14, ep14, hf⟩ := xbind hf
    rcases p14 with w15 | E
    · rw [Sum.elim_inl] at hf
      have hf : (if w15 = (0 : Int32) then f_L_printed_j88 σ13 else (if xk σ13 l0 11 = true then (f_X11_print σ13 l0 w12).bind (fun p17 => xlet p17.2 (fun σ19 => Sum.elim (fun w18 => (if w18 = l2 then (if xk σ19 l0 11 = true then (f_X11_undo σ19 l0).bind (fun p20 => (if p20.1 = (0 : Int32) then f_L_printed_j89 p20.2 (1 : Int32) else f_L_printed_j88 p20.2)) else none) else f_L_printed_j88 σ19)) (fun _ => none) p17.1)) else none)) = some _ := hf
      refine xb_callV (As := [.int l1, .int w12]) (v0 := (some (.int w15))) (τ0 := σ13) dL_printed_61 (xc_X11_isSame _ _) xcl11 xw_1263 xw_1264 xw_1265 hb rfl (Nat.le_of_ble_eq_true rfl) rfl (Nat.le_of_ble_eq_true rfl) (fun Q1 hq => m_X11_isSame (d := d + 394) ep14 (fun g hg => by subst hg; exact hq)) ?_
      refine xb_if_eq 88 dL_printed_64 (by decide) hf (fun c hf => ?_) (fun c hf => ?_)
      · exact xm_sub [] rfl (L_L_printed_j88 σ13 hf hR)
      · refine xm_aload_n dL_printed_67 rfl ?_
        refine xm_iload dL_printed_68 rfl ?_
        refine xb_if hf (fun hb hf => ?_) (fun _ q => nomatch q)
        obtain ⟨p17, ep17, hf⟩ := xbind hf
        rcases p17 with ⟨w18 | E, σ19⟩
        · have hf : (if w18 = l2 then (if xk σ19 l0 11 = true then (f_X11_undo σ19 l0).bind (fun p20 => (if p20.1 = (0 : Int32) then f_L_printed_j89 p20.2 (1 : Int32) else f_L_printed_j88 p20.2)) else none) else f_L_printed_j88 σ19) = some _ := hf
          refine xb_callV (As := [.int w12]) (v0 := (some (.int w18))) (τ0 := σ19) dL_printed_70 (xc_X11_print _ _) xcl11 xw_1521 xw_1522 xw_1523 hb rfl (Nat.le_of_ble_eq_true rfl) rfl (Nat.le_of_ble_eq_true rfl) (fun Q1 hq => m_X11_print (d := d + 0) ep17 (fun g hg => by subst hg; exact hq)) ?_
          refine xm_iload_n dL_printed_73 rfl ?_
          refine xb_icmp_ne 88 dL_printed_74 (by decide) hf (fun c hf => ?_) (fun c hf => ?_)
          · exact xm_sub [] rfl (L_L_printed_j88 σ19 hf hR)
          · refine xm_aload_n dL_printed_77 rfl ?_
            refine xb_if hf (fun hb hf => ?_) (fun _ q => nomatch q)
            obtain ⟨p20, ep20, hf⟩ := xbind hf
            refine xb_callV (As := []) (v0 := (some (.int p20.1))) (τ0 := p20.2) dL_printed_78 (xc_X11_undo _ _) xcl11 xw_1211 xw_1212 xw_1213 hb rfl (Nat.le_of_ble_eq_true rfl) rfl (Nat.le_of_ble_eq_true rfl) (fun Q1 hq => m_X11_undo (d := d + 398) ep20 (fun g hg => by subst hg; exact hq)) ?_
            refine xb_if_ne 88 dL_printed_81 (by decide) hf (fun c hf => ?_) (fun c hf => ?_)
            · exact xm_sub [] rfl (L_L_printed_j88 p20.2 hf hR)
            · refine xm_iconst dL_printed_84 (v := 1) (by decide) ?_
              refine xm_goto 89 dL_printed_85 (by decide) ?_
              exact xm_sub [] rfl (L_L_printed_j89 p20.2 (1 : Int32) hf hR)
        · cases hf
    · cases hf
  · cases hf
def f_L_printed (σ : xM) (l0 : Nat) (l1 : Int32) : Option (Int32 × xM) :=
  (if xk σ l0 11 = true then (f_X11_print σ l0 l1).bind (fun p1 => xlet p1.2 (fun σ3 => Sum.elim (fun w2 => (if w2 ≤ (60 : Int32) then (nwP σ3 (60 : Int32) [l0]).bind (fun σ4 => xlet (0 : Int32) (fun v5 => (xloop (f_L_printed_s22 ) xF (l0, l1, w2, σ3.1, v5, σ4)).bind (Sum.elim (fun g => some g) (fun e => f_L_printed_j44 e.2.2.2.2 e.1 e.2.1 e.2.2.1 e.2.2.2.1)))) else some ((1 : Int32), σ3))) (fun _ => none) p1.1)) else none)
set_option maxHeartbeats 4000000 in
set_option maxRecDepth 20000 in
theorem m_L_printed {G : xG} {π : Nat → Nat} {d C Z : Nat} {Q : xQ} {σ : xM} {l0 : Nat} {l1 : Int32} {x : (Int32 × xM)} (hf : f_L_printed σ l0 l1 = some x) (hR : ∀ g, x = g → ∀ π', xag 4562 π π' → Q (.inl (some (.int g.1))) (g.2) π') : xMach G π J_L_printed (d + 403) (C + 1) (Z + 60) 0 (lv_args 0 [.ref l0, .int l1]) [] σ Q := by
  unfold f_L_printed at hf
  refine xm_stL (L' := [(0, .ref l0), (1, .int l1)]) rfl ?_
  refine xm_aload_n dL_printed_0 rfl ?_
  refine xm_iload_n dL_printed_1 rfl ?_
  refine xb_if hf (fun hb hf => ?_) (fun _ q => nomatch q)
  obtain ⟨p1, ep1, hf⟩ := xbind hf
  rcases p1 with ⟨w2 | E, σ3⟩
  · have hf : (if w2 ≤ (60 : Int32) then (nwP σ3 (60 : Int32) [l0]).bind (fun σ4 => xlet (0 : Int32) (fun v5 => (xloop (f_L_printed_s22 ) xF (l0, l1, w2, σ3.1, v5, σ4)).bind (Sum.elim (fun g => some g) (fun e => f_L_printed_j44 e.2.2.2.2 e.1 e.2.1 e.2.2.1 e.2.2.2.1)))) else some ((1 : Int32), σ3)) = some _ := hf
    refine xb_callV (As := [.int l1]) (v0 := (some (.int w2))) (τ0 := σ3) dL_printed_2 (xc_X11_print _ _) xcl11 xw_1521 xw_1522 xw_1523 hb rfl (Nat.le_of_ble_eq_true rfl) rfl (Nat.le_of_ble_eq_true rfl) (fun Q1 hq => m_X11_print (d := d + 0) ep1 (fun g hg => by subst hg; exact hq)) ?_
    refine xm_istore_n dL_printed_5 (by decide) (xm_stL (L' := [(2, .int w2), (0, .ref l0), (1, .int l1)]) rfl ?_)
    refine xm_iload_n dL_printed_6 rfl ?_
    refine xm_bipush dL_printed_7 (v := 60) (by decide) ?_
    refine xb_icmp_le 14 dL_printed_9 (by decide) hf (fun c hf => ?_) (fun c hf => ?_)
    · refine xm_bipush dL_printed_14 (v := 60) (by decide) ?_
      refine xb_newaIP (N := 60) (C9 := C) (Z9 := Z) dL_printed_16 xw_57 (by decide) rfl rfl rfl hf (fun σ4 π hag hf => ?_)
      have hR := fun g hg π' hp => hR g hg π' (xag_t hag hp)
      refine xm_astore_n dL_printed_18 (by decide) (xm_stL (L' := [(3, .ref σ3.1), (2, .int w2), (0, .ref l0), (1, .int l1)]) rfl ?_)
      refine xm_iconst dL_printed_19 (v := 0) (by decide) ?_
      refine xb_topi hf (fun v5 ev5 hf => ?_)
      refine xm_istore dL_printed_20 (by decide) (xm_stL (L' := [(4, .int v5), (3, .ref σ3.1), (2, .int w2), (0, .ref l0), (1, .int l1)]) rfl ?_)
      obtain ⟨o, h1, hf⟩ := xbind hf
      refine xm_sub [3, 4, 2, 1, 0] rfl (L_L_printed_l22  h1 (fun g hg => ?_) (fun e he => ?_))
      · subst hg
        cases hf
        exact hR _ rfl
      · subst he
        rw [Sum.elim_inr] at hf
        have hf : f_L_printed_j44 e.2.2.2.2 e.1 e.2.1 e.2.2.1 e.2.2.2.1 = some _ := hf
        exact xm_sub [0, 1, 2, 3] rfl (L_L_printed_j44 e.2.2.2.2 e.1 e.2.1 e.2.2.1 e.2.2.2.1 hf hR)
    · refine xm_iconst dL_printed_12 (v := 1) (by decide) ?_
      cases hf
      exact xm_zret dL_printed_13 rfl rfl (hR _ rfl _ xag_rf)
  · cases hf
-- law: reckoned
