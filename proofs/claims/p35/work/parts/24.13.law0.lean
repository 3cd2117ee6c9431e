def f_L_law_j132 (aC : Nat → ClassId) (σ : xM) (l0 : Nat) (l1 : Nat) (l2 : Int32) (l3 : Nat) (l4 : Int32) : Option ((Int32 × xM) ⊕ ((Nat × Nat × Int32 × Nat × xM) ⊕ (Nat × Nat × Int32 × Nat × Int32 × xM))) :=
  xlet (l4 + (1 : Int32)) (fun v4 => some (Sum.inr (Sum.inr (l0, l1, l2, l3, v4, σ))))
set_option maxHeartbeats 4000000 in
set_option maxRecDepth 20000 in
theorem L_L_law_j132 {G : xG} {π : Nat → Nat} {d C Z : Nat} {Q : xQ} (σ : xM) (l0 : Nat) (l1 : Nat) (l2 : Int32) (l3 : Nat) (l4 : Int32) {x : ((Int32 × xM) ⊕ ((Nat × Nat × Int32 × Nat × xM) ⊕ (Nat × Nat × Int32 × Nat × Int32 × xM)))} (hf : f_L_law_j132 (G.2.2.1) σ l0 l1 l2 l3 l4 = some x) (hR : ∀ g, x = Sum.inl (g) → ∀ π', xag 4562 π π' → Q (.inl (some (.int g.1))) (g.2) π') (hE : ∀ e : (Nat × Nat × Int32 × Nat × xM), x = Sum.inr (Sum.inl e) → xMach G π J_L_law (d + 410) C Z 138 [(0, .ref e.1), (1, .ref e.2.1), (2, .int e.2.2.1), (3, .ref e.2.2.2.1)] [] e.2.2.2.2 Q) (hC : ∀ e : (Nat × Nat × Int32 × Nat × Int32 × xM), x = Sum.inr (Sum.inr e) → xMach G π J_L_law (d + 410) C Z 18 [(0, .ref e.1), (1, .ref e.2.1), (2, .int e.2.2.1), (3, .ref e.2.2.2.1), (4, .int e.2.2.2.2.1)] [] e.2.2.2.2.2 Q) : xMach G π J_L_law (d + 410) C Z 132 [(0, .ref l0), (1, .ref l1), (2, .int l2), (3, .ref l3), (4, .int l4)] [] σ Q := by
  unfold f_L_law_j132 at hf
  refine xb_iinc dL_law_132 rfl (by decide) (by decide) hf (fun v4 ev4 hf => xm_stL (L' := [(4, .int v4), (0, .ref l0), (1, .ref l1), (2, .int l2), (3, .ref l3)]) rfl ?_)
  refine xm_goto 18 dL_law_135 (by decide) ?_
  cases hf
  exact xm_sub [1, 2, 3, 4, 0] rfl (hC _ rfl)
def f_L_law_j131 (aC : Nat → ClassId) (σ : xM) (l0 : Nat) (l1 : Nat) (l3 : Nat) (l4 : Int32) (s0 : Int32) : Option ((Int32 × xM) ⊕ ((Nat × Nat × Int32 × Nat × xM) ⊕ (Nat × Nat × Int32 × Nat × Int32 × xM))) :=
  f_L_law_j132 aC σ l0 l1 s0 l3 l4
set_option maxHeartbeats 4000000 in
set_option maxRecDepth 20000 in
theorem L_L_law_j131 {G : xG} {π : Nat → Nat} {d C Z : Nat} {Q : xQ} (σ : xM) (l0 : Nat) (l1 : Nat) (l3 : Nat) (l4 : Int32) (s0 : Int32) {x : ((Int32 × xM) ⊕ ((Nat × Nat × Int32 × Nat × xM) ⊕ (Nat × Nat × Int32 × Nat × Int32 × xM)))} (hf : f_L_law_j131 (G.2.2.1) σ l0 l1 l3 l4 s0 = some x) (hR : ∀ g, x = Sum.inl (g) → ∀ π', xag 4562 π π' → Q (.inl (some (.int g.1))) (g.2) π') (hE : ∀ e : (Nat × Nat × Int32 × Nat × xM), x = Sum.inr (Sum.inl e) → xMach G π J_L_law (d + 410) C Z 138 [(0, .ref e.1), (1, .ref e.2.1), (2, .int e.2.2.1), (3, .ref e.2.2.2.1)] [] e.2.2.2.2 Q) (hC : ∀ e : (Nat × Nat × Int32 × Nat × Int32 × xM), x = Sum.inr (Sum.inr e) → xMach G π J_L_law (d + 410) C Z 18 [(0, .ref e.1), (1, .ref e.2.1), (2, .int e.2.2.1), (3, .ref e.2.2.2.1), (4, .int e.2.2.2.2.1)] [] e.2.2.2.2.2 Q) : xMach G π J_L_law (d + 410) C Z 131 [(0, .ref l0), (1, .ref l1), (3, .ref l3), (4, .int l4)] [.int s0] σ Q := by
  unfold f_L_law_j131 at hf
  refine xm_istore_n dL_law_131 (by decide) (xm_stL (L' := [(2, .int s0), (0, .ref l0), (1, .ref l1), (3, .ref l3), (4, .int l4)]) rfl ?_)
  exact xm_sub [1, 2, 0, 3, 4] rfl (L_L_law_j132 σ l0 l1 s0 l3 l4 hf hR hE hC)
def f_L_law_j130 (aC : Nat → ClassId) (σ : xM) (l0 : Nat) (l1 : Nat) (l3 : Nat) (l4 : Int32) : Option ((Int32 × xM) ⊕ ((Nat × Nat × Int32 × Nat × xM) ⊕ (Nat × Nat × Int32 × Nat × Int32 × xM))) :=
  f_L_law_j131 aC σ l0 l1 l3 l4 (0 : Int32)
set_option maxHeartbeats 4000000 in
set_option maxRecDepth 20000 in
theorem L_L_law_j130 {G : xG} {π : Nat → Nat} {d C Z : Nat} {Q : xQ} (σ : xM) (l0 : Nat) (l1 : Nat) (l3 : Nat) (l4 : Int32) {x : ((Int32 × xM) ⊕ ((Nat × Nat × Int32 × Nat × xM) ⊕ (Nat × Nat × Int32 × Nat × Int32 × xM)))} (hf : f_L_law_j130 (G.2.2.1) σ l0 l1 l3 l4 = some x) (hR : ∀ g, x = Sum.inl (g) → ∀ π', xag 4562 π π' → Q (.inl (some (.int g.1))) (g.2) π') (hE : ∀ e : (Nat × Nat × Int32 × Nat × xM), x = Sum.inr (Sum.inl e) → xMach G π J_L_law (d + 410) C Z 138 [(0, .ref e.1), (1, .ref e.2.1), (2, .int e.2.2.1), (3, .ref e.2.2.2.1)] [] e.2.2.2.2 Q) (hC : ∀ e : (Nat × Nat × Int32 × Nat × Int32 × xM), x = Sum.inr (Sum.inr e) → xMach G π J_L_law (d + 410) C Z 18 [(0, .ref e.1), (1, .ref e.2.1), (2, .int e.2.2.1), (3, .ref e.2.2.2.1), (4, .int e.2.2.2.2.1)] [] e.2.2.2.2.2 Q) : xMach G π J_L_law (d + 410) C Z 130 [(0, .ref l0), (1, .ref l1), (3, .ref l3), (4, .int l4)] [] σ Q := by
  unfold f_L_law_j130 at hf
  refine xm_iconst dL_law_130 (v := 0) (by decide) ?_
  exact xm_sub [0, 1, 2, 3] rfl (L_L_law_j131 σ l0 l1 l3 l4 (0 : Int32) hf hR hE hC)
def f_L_law_s18 (aC : Nat → ClassId) (s : (Nat × Nat × Int32 × Nat × Int32 × xM)) : Option ((Int32 × xM) ⊕ ((Nat × Nat × Int32 × Nat × xM) ⊕ (Nat × Nat × Int32 × Nat × Int32 × xM))) :=
  xlet s.1 (fun l0 => xlet s.2.1 (fun l1 => xlet s.2.2.1 (fun l2 => xlet s.2.2.2.1 (fun l3 => xlet s.2.2.2.2.1 (fun l4 => xlet s.2.2.2.2.2 (fun σ => (if (3 : Int32) ≤ l4 then some (Sum.inr (Sum.inl (l0, l1, l2, l3, σ))) else (f_L_cell aC σ l0 l4).bind (fun p2 => (f_L_low σ p2 (3 : Int32)).bind (fun p3 => (if p3 ≤ (0 : Int32) then f_L_law_j132 aC σ l0 l1 l2 l3 l4 else (f_L_low σ (p2 >>> ((2 : Int32) &&& 31)) (10 : Int32)).bind (fun p5 => (if xk σ l1 11 = true then (f_X11_type σ l1 (((((48 : Int32) + p5)).toUInt32 % 65536).toInt32)).bind (fun p6 => xlet p6.2 (fun σ8 => Sum.elim (fun w7 => (if xk σ8 l1 11 = true then (f_X11_type σ8 l1 (47 : Int32)).bind (fun p9 => xlet p9.2 (fun σ11 => Sum.elim (fun w10 => (f_L_low σ11 (p2 >>> ((6 : Int32) &&& 31)) (9 : Int32)).bind (fun p12 => (if xk σ11 l1 11 = true then (f_X11_type σ11 l1 (((((49 : Int32) + p12)).toUInt32 % 65536).toInt32)).bind (fun p13 => xlet p13.2 (fun σ15 => Sum.elim (fun w14 => (if l2 = (0 : Int32) then f_L_law_j130 aC σ15 l0 l1 l3 l4 else (if xk σ15 l1 11 = true then (f_X11_read σ15 l1).bind (fun p16 => xlet p16.2 (fun σ18 => Sum.elim (fun w17 => (if xk σ18 l1 11 = true then (f_X11_let σ18 l1 (((((120 : Int32) + l4)).toUInt32 % 65536).toInt32) w17).bind (fun p19 => xlet p19.2 (fun σ21 => Sum.elim (fun w20 => (if w20 = (0 : Int32) then (if xk σ21 l1 11 = true then (f_X11_recall σ21 l1 (((((120 : Int32) + l4)).toUInt32 % 65536).toInt32)).bind (fun p22 => xlet p22.2 (fun σ24 => Sum.elim (fun w23 => (if w23 = (0 : Int32) then f_L_law_j130 aC σ24 l0 l1 l3 l4 else (if xk σ24 l1 11 = true then (f_X11_trees σ24 l1).bind (fun p25 => (if p25 ≤ (0 : Int32) then f_L_law_j130 aC σ24 l0 l1 l3 l4 else f_L_law_j131 aC σ24 l0 l1 l3 l4 (1 : Int32))) else none))) (fun _ => none) p22.1)) else none) else f_L_law_j130 aC σ21 l0 l1 l3 l4)) (fun _ => none) p19.1)) else none)) (fun _ => none) p16.1)) else none))) (fun _ => none) p13.1)) else none))) (fun _ => none) p9.1)) else none)) (fun _ => none) p6.1)) else none))))))))))))
set_option maxHeartbeats 4000000 in
set_option maxRecDepth 20000 in
theorem L_L_law_s18 {G : xG} {π : Nat → Nat} {d C Z : Nat} {Q : xQ} (σ : xM) (l0 : Nat) (l1 : Nat) (l2 : Int32) (l3 : Nat) (l4 : Int32) {x : ((Int32 × xM) ⊕ ((Nat × Nat × Int32 × Nat × xM) ⊕ (Nat × Nat × Int32 × Nat × Int32 × xM)))} (hf : f_L_law_s18 (G.2.2.1) (l0, l1, l2, l3, l4, σ) = some x) (hR : ∀ g, x = Sum.inl (g) → ∀ π', xag 4562 π π' → Q (.inl (some (.int g.1))) (g.2) π') (hE : ∀ e : (Nat × Nat × Int32 × Nat × xM), x = Sum.inr (Sum.inl e) → xMach G π J_L_law (d + 410) C Z 138 [(0, .ref e.1), (1, .ref e.2.1), (2, .int e.2.2.1), (3, .ref e.2.2.2.1)] [] e.2.2.2.2 Q) (hC : ∀ e : (Nat × Nat × Int32 × Nat × Int32 × xM), x = Sum.inr (Sum.inr e) → xMach G π J_L_law (d + 410) C Z 18 [(0, .ref e.1), (1, .ref e.2.1), (2, .int e.2.2.1), (3, .ref e.2.2.2.1), (4, .int e.2.2.2.2.1)] [] e.2.2.2.2.2 Q) : xMach G π J_L_law (d + 410) C Z 18 [(0, .ref l0), (1, .ref l1), (2, .int l2), (3, .ref l3), (4, .int l4)] [] σ Q := by
  have hf : (if (3 : Int32) ≤ l4 then some (Sum.inr (Sum.inl (l0, l1, l2, l3, σ))) else (f_L_cell (G.2.2.1) σ l0 l4).bind (fun p2 => (f_L_low σ p2 (3 : Int32)).bind (fun p3 => (if p3 ≤ (0 : Int32) then f_L_law_j132 (G.2.2.1) σ l0 l1 l2 l3 l4 else (f_L_low σ (p2 >>> ((2 : Int32) &&& 31)) (10 : Int32)).bind (fun p5 => (if xk σ l1 11 = true then (f_X11_type σ l1 (((((48 : Int32) + p5)).toUInt32 % 65536).toInt32)).bind (fun p6 => xlet p6.2 (fun σ8 => Sum.elim (fun w7 => (if xk σ8 l1 11 = true then (f_X11_type σ8 l1 (47 : Int32)).bind (fun p9 => xlet p9.2 (fun σ11 => Sum.elim (fun w10 => (f_L_low σ11 (p2 >>> ((6 : Int32) &&& 31)) (9 : Int32)).bind (fun p12 => (if xk σ11 l1 11 = true then (f_X11_type σ11 l1 (((((49 : Int32) + p12)).toUInt32 % 65536).toInt32)).bind (fun p13 => xlet p13.2 (fun σ15 => Sum.elim (fun w14 => (if l2 = (0 : Int32) then f_L_law_j130 (G.2.2.1) σ15 l0 l1 l3 l4 else (if xk σ15 l1 11 = true then (f_X11_read σ15 l1).bind (fun p16 => xlet p16.2 (fun σ18 => Sum.elim (fun w17 => (if xk σ18 l1 11 = true then (f_X11_let σ18 l1 (((((120 : Int32) + l4)).toUInt32 % 65536).toInt32) w17).bind (fun p19 => xlet p19.2 (fun σ21 => Sum.elim (fun w20 => (if w20 = (0 : Int32) then (if xk σ21 l1 11 = true then (f_X11_recall σ21 l1 (((((120 : Int32) + l4)).toUInt32 % 65536).toInt32)).bind (fun p22 => xlet p22.2 (fun σ24 => Sum.elim (fun w23 => (if w23 = (0 : Int32) then f_L_law_j130 (G.2.2.1) σ24 l0 l1 l3 l4 else (if xk σ24 l1 11 = true then (f_X11_trees σ24 l1).bind (fun p25 => (if p25 ≤ (0 : Int32) then f_L_law_j130 (G.2.2.1) σ24 l0 l1 l3 l4 else f_L_law_j131 (G.2.2.1) σ24 l0 l1 l3 l4 (1 : Int32))) else none))) (fun _ => none) p22.1)) else none) else f_L_law_j130 (G.2.2.1) σ21 l0 l1 l3 l4)) (fun _ => none) p19.1)) else none)) (fun _ => none) p16.1)) else none))) (fun _ => none) p13.1)) else none))) (fun _ => none) p9.1)) else none)) (fun _ => none) p6.1)) else none)))))) = some x := hf
  refine xm_iload dL_law_18 rfl ?_
  refine xm_iconst dL_law_20 (v := 3) (by decide) ?_
  refine xb_icmp_ge 138 dL_law_21 (by decide) hf (fun c hf => ?_) (fun c hf => ?_)
  · cases hf
    exact xm_sub [0, 1, 2, 3] rfl (hE _ rfl)
  · refine xm_aload_n dL_law_24 rfl ?_
    refine xm_iload dL_law_25 rfl ?_
    obtain ⟨p2, ep2, hf⟩ := xbind hf
    refine xb_callS (As := [.ref l0, .int l4]) (v0 := (some (.int p2))) (τ0 := σ) dL_law_27 (xc_L_cell _ _) xw_1222 xw_1223 rfl (Nat.le_of_ble_eq_true rfl) rfl (Nat.le_of_ble_eq_true rfl) (fun Q1 hq => m_L_cell (d := d + 409) (C := 0) (Z := 0) ep2 (fun g hg => by subst hg; exact hq)) ?_
    refine xm_istore dL_law_30 (by decide) (xm_stL (L' := [(5, .int p2), (0, .ref l0), (1, .ref l1), (2, .int l2), (3, .ref l3), (4, .int l4)]) rfl ?_)
    refine xm_iload dL_law_32 rfl ?_
    refine xm_iconst dL_law_34 (v := 3) (by decide) ?_
    obtain ⟨p3, ep3, hf⟩ := xbind hf
    refine xb_callS (As := [.int p2, .int (3 : Int32)]) (v0 := (some (.int p3))) (τ0 := σ) dL_law_35 (xc_L_low _ _) xw_1227 xw_1228 rfl (Nat.le_of_ble_eq_true rfl) rfl (Nat.le_of_ble_eq_true rfl) (fun Q1 hq => m_L_low (d := d + 409) (C := 0) (Z := 0) ep3 (fun g hg => by subst hg; exact hq)) ?_
    refine xb_if_le 132 dL_law_38 (by decide) hf (fun c hf => ?_) (fun c hf => ?_)
    · exact xm_sub [1, 2, 3, 4, 5] rfl (L_L_law_j132 σ l0 l1 l2 l3 l4 hf hR hE hC)
    · refine xm_aload_n dL_law_41 rfl ?_
      refine xm_bipush dL_law_42 (v := 48) (by decide) ?_
      refine xm_iload dL_law_44 rfl ?_
      refine xm_iconst dL_law_46 (v := 2) (by decide) ?_
      refine xm_ishr dL_law_47 ?_
      refine xm_bipush dL_law_48 (v := 10) (by decide) ?_
      obtain ⟨p5, ep5, hf⟩ := xbind hf
      refine xb_callS (As := [.int (p2 >>> ((2 : Int32) &&& 31)), .int (10 : Int32)]) (v0 := (some (.int p5))) (τ0 := σ) dL_law_50 (xc_L_low _ _) xw_1227 xw_1228 rfl (Nat.le_of_ble_eq_true rfl) rfl (Nat.le_of_ble_eq_true rfl) (fun Q1 hq => m_L_low (d := d + 409) (C := 0) (Z := 0) ep5 (fun g hg => by subst hg; exact hq)) ?_
      refine xm_iadd dL_law_53 ?_
      refine xm_i2c dL_law_54 rfl ?_
      refine xb_if hf (fun hb hf => ?_) (fun _ q => nomatch q)
      obtain ⟨p6, ep6, hf⟩ := xbind hf
      rcases p6 with ⟨w7 | E, σ8⟩
      · have hf : (if xk σ8 l1 11 = true then (f_X11_type σ8 l1 (47 : Int32)).bind (fun p9 => xlet p9.2 (fun σ11 => Sum.elim (fun w10 => (f_L_low σ11 (p2 >>> ((6 : Int32) &&& 31)) (9 : Int32)).bind (fun p12 => (if xk σ11 l1 11 = true then (f_X11_type σ11 l1 (((((49 : Int32) + p12)).toUInt32 % 65536).toInt32)).bind (fun p13 => xlet p13.2 (fun σ15 => Sum.elim (fun w14 => (if l2 = (0 : Int32) then f_L_law_j130 (G.2.2.1) σ15 l0 l1 l3 l4 else (if xk σ15 l1 11 = true then (f_X11_read σ15 l1).bind (fun p16 => xlet p16.2 (fun σ18 => Sum.elim (fun w17 => (if xk σ18 l1 11 = true then (f_X11_let σ18 l1 (((((120 : Int32) + l4)).toUInt32 % 65536).toInt32) w17).bind (fun p19 => xlet p19.2 (fun σ21 => Sum.elim (fun w20 => (if w20 = (0 : Int32) then (if xk σ21 l1 11 = true then (f_X11_recall σ21 l1 (((((120 : Int32) + l4)).toUInt32 % 65536).toInt32)).bind (fun p22 => xlet p22.2 (fun σ24 => Sum.elim (fun w23 => (if w23 = (0 : Int32) then f_L_law_j130 (G.2.2.1) σ24 l0 l1 l3 l4 else (if xk σ24 l1 11 = true then (f_X11_trees σ24 l1).bind (fun p25 => (if p25 ≤ (0 : Int32) then f_L_law_j130 (G.2.2.1) σ24 l0 l1 l3 l4 else f_L_law_j131 (G.2.2.1) σ24 l0 l1 l3 l4 (1 : Int32))) else none))) (fun _ => none) p22.1)) else none) else f_L_law_j130 (G.2.2.1) σ21 l0 l1 l3 l4)) (fun _ => none) p19.1)) else none)) (fun _ => none) p16.1)) else none))) (fun _ => none) p13.1)) else none))) (fun _ => none) p9.1)) else none) = some _ := hf
        refine xb_callV (As := [.int (((((48 : Int32) + p5)).toUInt32 % 65536).toInt32)]) (v0 := (some (.int w7))) (τ0 := σ8) dL_law_55 (xc_X11_type _ _) xcl11 xw_632 xw_633 xw_634 hb rfl (Nat.le_of_ble_eq_true rfl) rfl (Nat.le_of_ble_eq_true rfl) (fun Q1 hq => m_X11_type (d := d + 402) ep6 (fun g hg => by subst hg; exact hq)) ?_
        refine xm_pop dL_law_58 rfl ?_
        refine xm_aload_n dL_law_59 rfl ?_
        refine xm_bipush dL_law_60 (v := 47) (by decide) ?_
        refine xb_if hf (fun hb hf => ?_) (fun _ q => nomatch q)
        obtain ⟨p9, ep9, hf⟩ := xbind hf
        rcases p9 with ⟨w10 | E, σ11⟩
        · have hf : (f_L_low σ11 (p2 >>> ((6 : Int32) &&& 31)) (9 : Int32)).bind (fun p12 => (if xk σ11 l1 11 = true then (f_X11_type σ11 l1 (((((49 : Int32) + p12)).toUInt32 % 65536).toInt32)).bind (fun p13 => xlet p13.2 (fun σ15 => Sum.elim (fun w14 => (if l2 = (0 : Int32) then f_L_law_j130 (G.2.2.1) σ15 l0 l1 l3 l4 else (if xk σ15 l1 11 = true then (f_X11_read σ15 l1).bind (fun p16 => xlet p16.2 (fun σ18 => Sum.elim (fun w17 => (if xk σ18 l1 11 = true then (f_X11_let σ18 l1 (((((120 : Int32) + l4)).toUInt32 % 65536).toInt32) w17).bind (fun p19 => xlet p19.2 (fun σ21 => Sum.elim (fun w20 => (if w20 = (0 : Int32) then (if xk σ21 l1 11 = true then (f_X11_recall σ21 l1 (((((120 : Int32) + l4)).toUInt32 % 65536).toInt32)).bind (fun p22 => xlet p22.2 (fun σ24 => Sum.elim (fun w23 => (if w23 = (0 : Int32) then f_L_law_j130 (G.2.2.1) σ24 l0 l1 l3 l4 else (if xk σ24 l1 11 = true then (f_X11_trees σ24 l1).bind (fun p25 => (if p25 ≤ (0 : Int32) then f_L_law_j130 (G.2.2.1) σ24 l0 l1 l3 l4 else f_L_law_j131 (G.2.2.1) σ24 l0 l1 l3 l4 (1 : Int32))) else none))) (fun _ => none) p22.1)) else none) else f_L_law_j130 (G.2.2.1) σ21 l0 l1 l3 l4)) (fun _ => none) p19.1)) else none)) (fun _ => none) p16.1)) else none))) (fun _ => none) p13.1)) else none)) = some _ := hf
          refine xb_callV (As := [.int (47 : Int32)]) (v0 := (some (.int w10))) (τ0 := σ11) dL_law_62 (xc_X11_type _ _) xcl11 xw_632 xw_633 xw_634 hb rfl (Nat.le_of_ble_eq_true rfl) rfl (Nat.le_of_ble_eq_true rfl) (fun Q1 hq => m_X11_type (d := d + 402) ep9 (fun g hg => by subst hg; exact hq)) ?_
          refine xm_pop dL_law_65 rfl ?_
          refine xm_aload_n dL_law_66 rfl ?_
          refine xm_bipush dL_law_67 (v := 49) (by decide) ?_
          refine xm_iload dL_law_69 rfl ?_
          refine xm_bipush dL_law_71 (v := 6) (by decide) ?_
          refine xm_ishr dL_law_73 ?_
          refine xm_bipush dL_law_74 (v := 9) (by decide) ?_
          obtain ⟨p12, ep12, hf⟩ := xbind hf
          refine xb_callS (As := [.int (p2 >>> ((6 : Int32) &&& 31)), .int (9 : Int32)]) (v0 := (some (.int p12))) (τ0 := σ11) dL_law_76 (xc_L_low _ _) xw_1227 xw_1228 rfl (Nat.le_of_ble_eq_true rfl) rfl (Nat.le_of_ble_eq_true rfl) (fun Q1 hq => m_L_low (d := d + 409) (C := 0) (Z := 0) ep12 (fun g hg => by subst hg; exact hq)) ?_
          refine xm_iadd dL_law_79 ?_
          refine xm_i2c dL_law_80 rfl ?_
          refine xb_if hf (fun hb hf => ?_) (fun _ q => nomatch q)
          obtain ⟨p13, ep13, hf⟩ := xbind hf
          rcases p13 with ⟨w14 | E, σ15⟩
          · have hf : (if l2 = (0 : Int32) then f_L_law_j130 (G.2.2.1) σ15 l0 l1 l3 l4 else (if xk σ15 l1 11 = true then (f_X11_read σ15 l1).bind (fun p16 => xlet p16.2 (fun σ18 => Sum.elim (fun w17 => (if xk σ18 l1 11 = true then (f_X11_let σ18 l1 (((((120 : Int32) + l4)).toUInt32 % 65536).toInt32) w17).bind (fun p19 => xlet p19.2 (fun σ21 => Sum.elim (fun w20 => (if w20 = (0 : Int32) then (if xk σ21 l1 11 = true then (f_X11_recall σ21 l1 (((((120 : Int32) + l4)).toUInt32 % 65536).toInt32)).bind (fun p22 => xlet p22.2 (fun σ24 => Sum.elim (fun w23 => (if w23 = (0 : Int32) then f_L_law_j130 (G.2.2.1) σ24 l0 l1 l3 l4 else (if xk σ24 l1 11 = true then (f_X11_trees σ24 l1).bind (fun p25 => (if p25 ≤ (0 : Int32) then f_L_law_j130 (G.2.2.1) σ24 l0 l1 l3 l4 else f_L_law_j131 (G.2.2.1) σ24 l0 l1 l3 l4 (1 : Int32))) else none))) (fun _ => none) p22.1)) else none) else f_L_law_j130 (G.2.2.1) σ21 l0 l1 l3 l4)) (fun _ => none) p19.1)) else none)) (fun _ => none) p16.1)) else none)) = some _ := hf
            refine xb_callV (As := [.int (((((49 : Int32) + p12)).toUInt32 % 65536).toInt32)]) (v0 := (some (.int w14))) (τ0 := σ15) dL_law_81 (xc_X11_type _ _) xcl11 xw_632 xw_633 xw_634 hb rfl (Nat.le_of_ble_eq_true rfl) rfl (Nat.le_of_ble_eq_true rfl) (fun Q1 hq => m_X11_type (d := d + 402) ep13 (fun g hg => by subst hg; exact hq)) ?_
            refine xm_pop dL_law_84 rfl ?_
            refine xm_iload_n dL_law_85 rfl ?_
            refine xb_if_eq 130 dL_law_86 (by decide) hf (fun c hf => ?_) (fun c hf => ?_)
            · exact xm_sub [1, 2, 4, 5] rfl (L_L_law_j130 σ15 l0 l1 l3 l4 hf hR hE hC)
            · refine xm_aload_n dL_law_89 rfl ?_
              refine xm_bipush dL_law_90 (v := 120) (by decide) ?_
              refine xm_iload dL_law_92 rfl ?_
              refine xm_iadd dL_law_94 ?_
              refine xm_i2c dL_law_95 rfl ?_
              refine xm_aload_n dL_law_96 rfl ?_
              refine xb_if hf (fun hb hf => ?_) (fun _ q => nomatch q)
              obtain ⟨p16, ep16, hf⟩ := xbind hf
              rcases p16 with ⟨w17 | E, σ18⟩
              · have hf : (if xk σ18 l1 11 = true then (f_X11_let σ18 l1 (((((120 : Int32) + l4)).toUInt32 % 65536).toInt32) w17).bind (fun p19 => xlet p19.2 (fun σ21 => Sum.elim (fun w20 => (if w20 = (0 : Int32) then (if xk σ21 l1 11 = true then (f_X11_recall σ21 l1 (((((120 : Int32) + l4)).toUInt32 % 65536).toInt32)).bind (fun p22 => xlet p22.2 (fun σ24 => Sum.elim (fun w23 => (if w23 = (0 : Int32) then f_L_law_j130 (G.2.2.1) σ24 l0 l1 l3 l4 else (if xk σ24 l1 11 = true then (f_X11_trees σ24 l1).bind (fun p25 => (if p25 ≤ (0 : Int32) then f_L_law_j130 (G.2.2.1) σ24 l0 l1 l3 l4 else f_L_law_j131 (G.2.2.1) σ24 l0 l1 l3 l4 (1 : Int32))) else none))) (fun _ => none) p22.1)) else none) else f_L_law_j130 (G.2.2.1) σ21 l0 l1 l3 l4)) (fun _ => none) p19.1)) else none) = some _ := hf
                refine xb_callV (As := []) (v0 := (some (.int w17))) (τ0 := σ18) dL_law_97 (xc_X11_read _ _) xcl11 xw_796 xw_797 xw_798 hb rfl (Nat.le_of_ble_eq_true rfl) rfl (Nat.le_of_ble_eq_true rfl) (fun Q1 hq => m_X11_read (d := d + 401) ep16 (fun g hg => by subst hg; exact hq)) ?_
                refine xb_if hf (fun hb hf => ?_) (fun _ q => nomatch q)
                obtain ⟨p19, ep19, hf⟩ := xbind hf
                rcases p19 with ⟨w20 | E, σ21⟩
                · have hf : (if w20 = (0 : Int32) then (if xk σ21 l1 11 = true then (f_X11_recall σ21 l1 (((((120 : Int32) + l4)).toUInt32 % 65536).toInt32)).bind (fun p22 => xlet p22.2 (fun σ24 => Sum.elim (fun w23 => (if w23 = (0 : Int32) then f_L_law_j130 (G.2.2.1) σ24 l0 l1 l3 l4 else (if xk σ24 l1 11 = true then (f_X11_trees σ24 l1).bind (fun p25 => (if p25 ≤ (0 : Int32) then f_L_law_j130 (G.2.2.1) σ24 l0 l1 l3 l4 else f_L_law_j131 (G.2.2.1) σ24 l0 l1 l3 l4 (1 : Int32))) else none))) (fun _ => none) p22.1)) else none) else f_L_law_j130 (G.2.2.1) σ21 l0 l1 l3 l4) = some _ := hf
                  refine xb_callV (As := [.int (((((120 : Int32) + l4)).toUInt32 % 65536).toInt32), .int w17]) (v0 := (some (.int w20))) (τ0 := σ21) dL_law_100 (xc_X11_let _ _) xcl11 xw_894 xw_895 xw_896 hb rfl (Nat.le_of_ble_eq_true rfl) rfl (Nat.le_of_ble_eq_true rfl) (fun Q1 hq => m_X11_let (d := d + 400) ep19 (fun g hg => by subst hg; exact hq)) ?_
                  refine xb_if_ne 130 dL_law_103 (by decide) hf (fun c hf => ?_) (fun c hf => ?_)
                  · exact xm_sub [1, 2, 4, 5] rfl (L_L_law_j130 σ21 l0 l1 l3 l4 hf hR hE hC)
                  · refine xm_aload_n dL_law_106 rfl ?_
                    refine xm_bipush dL_law_107 (v := 120) (by decide) ?_
                    refine xm_iload dL_law_109 rfl ?_
                    refine xm_iadd dL_law_111 ?_
                    refine xm_i2c dL_law_112 rfl ?_
                    refine xb_if hf (fun hb hf => ?_) (fun _ q => nomatch q)
                    obtain ⟨p22, ep22, hf⟩ := xbind hf
                    rcases p22 with ⟨w23 | E, σ24⟩
                    · have hf : (if w23 = (0 : Int32) then f_L_law_j130 (G.2.2.1) σ24 l0 l1 l3 l4 else (if xk σ24 l1 11 = true then (f_X11_trees σ24 l1).bind (fun p25 => (if p25 ≤ (0 : Int32) then f_L_law_j130 (G.2.2.1) σ24 l0 l1 l3 l4 else f_L_law_j131 (G.2.2.1) σ24 l0 l1 l3 l4 (1 : Int32))) else none)) = some _ := hf
                      refine xb_callV (As := [.int (((((120 : Int32) + l4)).toUInt32 % 65536).toInt32)]) (v0 := (some (.int w23))) (τ0 := σ24) dL_law_113 (xc_X11_recall _ _) xcl11 xw_1206 xw_1207 xw_1208 hb rfl (Nat.le_of_ble_eq_true rfl) rfl (Nat.le_of_ble_eq_true rfl) (fun Q1 hq => m_X11_recall (d := d + 400) ep22 (fun g hg => by subst hg; exact hq)) ?_
                      refine xb_if_eq 130 dL_law_116 (by decide) hf (fun c hf => ?_) (fun c hf => ?_)
                      · exact xm_sub [1, 2, 4, 5] rfl (L_L_law_j130 σ24 l0 l1 l3 l4 hf hR hE hC)
                      · refine xm_aload_n dL_law_119 rfl ?_
                        refine xb_if hf (fun hb hf => ?_) (fun _ q => nomatch q)
                        obtain ⟨p25, ep25, hf⟩ := xbind hf
                        refine xb_callV (As := []) (v0 := (some (.int p25))) (τ0 := σ24) dL_law_120 (xc_X11_trees _ _) xcl11 xw_842 xw_843 xw_844 hb rfl (Nat.le_of_ble_eq_true rfl) rfl (Nat.le_of_ble_eq_true rfl) (fun Q1 hq => m_X11_trees (d := d + 409) ep25 (fun g hg => by subst hg; exact hq)) ?_
                        refine xb_if_le 130 dL_law_123 (by decide) hf (fun c hf => ?_) (fun c hf => ?_)
                        · exact xm_sub [1, 2, 4, 5] rfl (L_L_law_j130 σ24 l0 l1 l3 l4 hf hR hE hC)
                        · refine xm_iconst dL_law_126 (v := 1) (by decide) ?_
                          refine xm_goto 131 dL_law_127 (by decide) ?_
                          exact xm_sub [1, 2, 4, 5] rfl (L_L_law_j131 σ24 l0 l1 l3 l4 (1 : Int32) hf hR hE hC)
                    · cases hf
                · cases hf
              · cases hf
          · cases hf
        · cases hf
      · cases hf
theorem L_L_law_l18 {G : xG} {π : Nat → Nat} {d C Z : Nat} {Q : xQ} {s0 : (Nat × Nat × Int32 × Nat × Int32 × xM)} {x : ((Int32 × xM) ⊕ (Nat × Nat × Int32 × Nat × xM))} (h1 : xloop (f_L_law_s18 (G.2.2.1)) xF s0 = some x) (hR : ∀ g, x = Sum.inl g → ∀ π', xag 4562 π π' → Q (.inl (some (.int g.1))) (g.2) π') (hE : ∀ e : (Nat × Nat × Int32 × Nat × xM), x = Sum.inr e → xMach G π J_L_law (d + 410) C Z 138 [(0, .ref e.1), (1, .ref e.2.1), (2, .int e.2.2.1), (3, .ref e.2.2.2.1)] [] e.2.2.2.2 Q) : xMach G π J_L_law (d + 410) C Z 18 [(0, .ref s0.1), (1, .ref s0.2.1), (2, .int s0.2.2.1), (3, .ref s0.2.2.2.1), (4, .int s0.2.2.2.2.1)] [] s0.2.2.2.2.2 Q := by
  refine xloop_run (M := (fun s : (Nat × Nat × Int32 × Nat × Int32 × xM) => xMach G π J_L_law (d + 410) C Z 18 [(0, .ref s.1), (1, .ref s.2.1), (2, .int s.2.2.1), (3, .ref s.2.2.2.1), (4, .int s.2.2.2.2.1)] [] s.2.2.2.2.2 Q)) (r := x) ?_ xF _ h1
  intro s y hs hx
  exact L_L_law_s18 s.2.2.2.2.2 s.1 s.2.1 s.2.2.1 s.2.2.2.1 s.2.2.2.2.1 (x := y) hs (fun g hg => by subst hg; exact hR g hx) (fun e he => by subst he; exact hE e hx) (fun e he => by subst he; exact hx)
def f_L_law_j358 (aC : Nat → ClassId) (σ : xM) (l0 : Nat) (l1 : Nat) (l2 : Int32) (l3 : Nat) (l4 : Int32) : Option ((Int32 × xM) ⊕ ((Nat × Nat × Int32 × Nat × xM) ⊕ (Nat × Nat × Int32 × Nat × Int32 × xM))) :=
  xlet (l4 + (1 : Int32)) (fun v37 => some (Sum.inr (Sum.inr (l0, l1, l2, l3, v37, σ))))
set_option maxHeartbeats 4000000 in
set_option maxRecDepth 20000 in
theorem L_L_law_j358 {G : xG} {π : Nat → Nat} {d C Z : Nat} {Q : xQ} (σ : xM) (l0 : Nat) (l1 : Nat) (l2 : Int32) (l3 : Nat) (l4 : Int32) {x : ((Int32 × xM) ⊕ ((Nat × Nat × Int32 × Nat × xM) ⊕ (Nat × Nat × Int32 × Nat × Int32 × xM)))} (hf : f_L_law_j358 (G.2.2.1) σ l0 l1 l2 l3 l4 = some x) (hR : ∀ g, x = Sum.inl (g) → ∀ π', xag 4562 π π' → Q (.inl (some (.int g.1))) (g.2) π') (hE : ∀ e : (Nat × Nat × Int32 × Nat × xM), x = Sum.inr (Sum.inl e) → xMach G π J_L_law (d + 410) C Z 364 [(0, .ref e.1), (1, .ref e.2.1), (2, .int e.2.2.1), (3, .ref e.2.2.2.1)] [] e.2.2.2.2 Q) (hC : ∀ e : (Nat × Nat × Int32 × Nat × Int32 × xM), x = Sum.inr (Sum.inr e) → xMach G π J_L_law (d + 410) C Z 141 [(0, .ref e.1), (1, .ref e.2.1), (2, .int e.2.2.1), (3, .ref e.2.2.2.1), (4, .int e.2.2.2.2.1)] [] e.2.2.2.2.2 Q) : xMach G π J_L_law (d + 410) C Z 358 [(0, .ref l0), (1, .ref l1), (2, .int l2), (3, .ref l3), (4, .int l4)] [] σ Q := by
  unfold f_L_law_j358 at hf
  refine xb_iinc dL_law_358 rfl (by decide) (by decide) hf (fun v37 ev37 hf => xm_stL (L' := [(4, .int v37), (0, .ref l0), (1, .ref l1), (2, .int l2), (3, .ref l3)]) rfl ?_)
  refine xm_goto 141 dL_law_361 (by decide) ?_
  cases hf
  exact xm_sub [1, 2, 3, 4, 0] rfl (hC _ rfl)
def f_L_law_j357 (aC : Nat → ClassId) (σ : xM) (l0 : Nat) (l1 : Nat) (l3 : Nat) (l4 : Int32) (s0 : Int32) : Option ((Int32 × xM) ⊕ ((Nat × Nat × Int32 × Nat × xM) ⊕ (Nat × Nat × Int32 × Nat × Int32 × xM))) :=
  f_L_law_j358 aC σ l0 l1 s0 l3 l4
set_option maxHeartbeats 4000000 in
set_option maxRecDepth 20000 in
theorem L_L_law_j357 {G : xG} {π : Nat → Nat} {d C Z : Nat} {Q : xQ} (σ : xM) (l0 : Nat) (l1 : Nat) (l3 : Nat) (l4 : Int32) (s0 : Int32) {x : ((Int32 × xM) ⊕ ((Nat × Nat × Int32 × Nat × xM) ⊕ (Nat × Nat × Int32 × Nat × Int32 × xM)))} (hf : f_L_law_j357 (G.2.2.1) σ l0 l1 l3 l4 s0 = some x) (hR : ∀ g, x = Sum.inl (g) → ∀ π', xag 4562 π π' → Q (.inl (some (.int g.1))) (g.2) π') (hE : ∀ e : (Nat × Nat × Int32 × Nat × xM), x = Sum.inr (Sum.inl e) → xMach G π J_L_law (d + 410) C Z 364 [(0, .ref e.1), (1, .ref e.2.1), (2, .int e.2.2.1), (3, .ref e.2.2.2.1)] [] e.2.2.2.2 Q) (hC : ∀ e : (Nat × Nat × Int32 × Nat × Int32 × xM), x = Sum.inr (Sum.inr e) → xMach G π J_L_law (d + 410) C Z 141 [(0, .ref e.1), (1, .ref e.2.1), (2, .int e.2.2.1), (3, .ref e.2.2.2.1), (4, .int e.2.2.2.2.1)] [] e.2.2.2.2.2 Q) : xMach G π J_L_law (d + 410) C Z 357 [(0, .ref l0), (1, .ref l1), (3, .ref l3), (4, .int l4)] [.int s0] σ Q := by
  unfold f_L_law_j357 at hf
  refine xm_istore_n dL_law_357 (by decide) (xm_stL (L' := [(2, .int s0), (0, .ref l0), (1, .ref l1), (3, .ref l3), (4, .int l4)]) rfl ?_)
  exact xm_sub [1, 2, 0, 3, 4] rfl (L_L_law_j358 σ l0 l1 s0 l3 l4 hf hR hE hC)
def f_L_law_j356 (aC : Nat → ClassId) (σ : xM) (l0 : Nat) (l1 : Nat) (l3 : Nat) (l4 : Int32) : Option ((Int32 × xM) ⊕ ((Nat × Nat × Int32 × Nat × xM) ⊕ (Nat × Nat × Int32 × Nat × Int32 × xM))) :=
  f_L_law_j357 aC σ l0 l1 l3 l4 (0 : Int32)
set_option maxHeartbeats 4000000 in
set_option maxRecDepth 20000 in
theorem L_L_law_j356 {G : xG} {π : Nat → Nat} {d C Z : Nat} {Q : xQ} (σ : xM) (l0 : Nat) (l1 : Nat) (l3 : Nat) (l4 : Int32) {x : ((Int32 × xM) ⊕ ((Nat × Nat × Int32 × Nat × xM) ⊕ (Nat × Nat × Int32 × Nat × Int32 × xM)))} (hf : f_L_law_j356 (G.2.2.1) σ l0 l1 l3 l4 = some x) (hR : ∀ g, x = Sum.inl (g) → ∀ π', xag 4562 π π' → Q (.inl (some (.int g.1))) (g.2) π') (hE : ∀ e : (Nat × Nat × Int32 × Nat × xM), x = Sum.inr (Sum.inl e) → xMach G π J_L_law (d + 410) C Z 364 [(0, .ref e.1), (1, .ref e.2.1), (2, .int e.2.2.1), (3, .ref e.2.2.2.1)] [] e.2.2.2.2 Q) (hC : ∀ e : (Nat × Nat × Int32 × Nat × Int32 × xM), x = Sum.inr (Sum.inr e) → xMach G π J_L_law (d + 410) C Z 141 [(0, .ref e.1), (1, .ref e.2.1), (2, .int e.2.2.1), (3, .ref e.2.2.2.1), (4, .int e.2.2.2.2.1)] [] e.2.2.2.2.2 Q) : xMach G π J_L_law (d + 410) C Z 356 [(0, .ref l0), (1, .ref l1), (3, .ref l3), (4, .int l4)] [] σ Q := by
  unfold f_L_law_j356 at hf
  refine xm_iconst dL_law_356 (v := 0) (by decide) ?_
  exact xm_sub [0, 1, 2, 3] rfl (L_L_law_j357 σ l0 l1 l3 l4 (0 : Int32) hf hR hE hC)
def f_L_law_j307 (aC : Nat → ClassId) (σ : xM) (l0 : Nat) (l1 : Nat) (l3 : Nat) (l4 : Int32) (l6 : Int32) (l7 : Int32) (l8 : Int32) (l9 : Int32) (l10 : Int32) (s0 : Int32) (s1 : Int32) : Option ((Int32 × xM) ⊕ ((Nat × Nat × Int32 × Nat × xM) ⊕ (Nat × Nat × Int32 × Nat × Int32 × xM))) :=
  (if s1 = s0 then (if xk σ l1 11 = true then (f_X11_told σ l1 l7 l6 (0 : Int32)).bind (fun p41 => Sum.elim (fun w42 => (if w42 = l8 then (if xk σ l1 11 = true then (f_X11_told σ l1 l7 l6 (1 : Int32)).bind (fun p43 => Sum.elim (fun w44 => (if w44 = l9 then (if xk σ l1 11 = true then (f_X11_told σ l1 l7 l6 (2 : Int32)).bind (fun p45 => Sum.elim (fun w46 => (if w46 = l10 then f_L_law_j357 aC σ l0 l1 l3 l4 (1 : Int32) else f_L_law_j356 aC σ l0 l1 l3 l4)) (fun _ => none) p45) else none) else f_L_law_j356 aC σ l0 l1 l3 l4)) (fun _ => none) p43) else none) else f_L_law_j356 aC σ l0 l1 l3 l4)) (fun _ => none) p41) else none) else f_L_law_j356 aC σ l0 l1 l3 l4)
set_option maxHeartbeats 4000000 in
set_option maxRecDepth 20000 in
theorem L_L_law_j307 {G : xG} {π : Nat → Nat} {d C Z : Nat} {Q : xQ} (σ : xM) (l0 : Nat) (l1 : Nat) (l3 : Nat) (l4 : Int32) (l6 : Int32) (l7 : Int32) (l8 : Int32) (l9 : Int32) (l10 : Int32) (s0 : Int32) (s1 : Int32) {x : ((Int32 × xM) ⊕ ((Nat × Nat × Int32 × Nat × xM) ⊕ (Nat × Nat × Int32 × Nat × Int32 × xM)))} (hf : f_L_law_j307 (G.2.2.1) σ l0 l1 l3 l4 l6 l7 l8 l9 l10 s0 s1 = some x) (hR : ∀ g, x = Sum.inl (g) → ∀ π', xag 4562 π π' → Q (.inl (some (.int g.1))) (g.2) π') (hE : ∀ e : (Nat × Nat × Int32 × Nat × xM), x = Sum.inr (Sum.inl e) → xMach G π J_L_law (d + 410) C Z 364 [(0, .ref e.1), (1, .ref e.2.1), (2, .int e.2.2.1), (3, .ref e.2.2.2.1)] [] e.2.2.2.2 Q) (hC : ∀ e : (Nat × Nat × Int32 × Nat × Int32 × xM), x = Sum.inr (Sum.inr e) → xMach G π J_L_law (d + 410) C Z 141 [(0, .ref e.1), (1, .ref e.2.1), (2, .int e.2.2.1), (3, .ref e.2.2.2.1), (4, .int e.2.2.2.2.1)] [] e.2.2.2.2.2 Q) : xMach G π J_L_law (d + 410) C Z 307 [(0, .ref l0), (1, .ref l1), (3, .ref l3), (4, .int l4), (6, .int l6), (7, .int l7), (8, .int l8), (9, .int l9), (10, .int l10)] [.int s0, .int s1] σ Q := by
  unfold f_L_law_j307 at hf
  refine xb_icmp_ne 356 dL_law_307 (by decide) hf (fun c hf => ?_) (fun c hf => ?_)
  · exact xm_sub [0, 1, 2, 3] rfl (L_L_law_j356 σ l0 l1 l3 l4 hf hR hE hC)
  · refine xm_aload_n dL_law_310 rfl ?_
    refine xm_iload dL_law_311 rfl ?_
    refine xm_iload dL_law_313 rfl ?_
    refine xm_iconst dL_law_315 (v := 0) (by decide) ?_
    refine xb_if hf (fun hb hf => ?_) (fun _ q => nomatch q)
    obtain ⟨p41, ep41, hf⟩ := xbind hf
    rcases p41 with w42 | E
    · rw [Sum.elim_inl] at hf
      have hf : (if w42 = l8 then (if xk σ l1 11 = true then (f_X11_told σ l1 l7 l6 (1 : Int32)).bind (fun p43 => Sum.elim (fun w44 => (if w44 = l9 then (if xk σ l1 11 = true then (f_X11_told σ l1 l7 l6 (2 : Int32)).bind (fun p45 => Sum.elim (fun w46 => (if w46 = l10 then f_L_law_j357 (G.2.2.1) σ l0 l1 l3 l4 (1 : Int32) else f_L_law_j356 (G.2.2.1) σ l0 l1 l3 l4)) (fun _ => none) p45) else none) else f_L_law_j356 (G.2.2.1) σ l0 l1 l3 l4)) (fun _ => none) p43) else none) else f_L_law_j356 (G.2.2.1) σ l0 l1 l3 l4) = some _ := hf
      refine xb_callV (As := [.int l7, .int l6, .int (0 : Int32)]) (v0 := (some (.int w42))) (τ0 := σ) dL_law_316 (xc_X11_told _ _) xcl11 xw_884 xw_885 xw_886 hb rfl (Nat.le_of_ble_eq_true rfl) rfl (Nat.le_of_ble_eq_true rfl) (fun Q1 hq => m_X11_told (d := d + 402) ep41 (fun g hg => by subst hg; exact hq)) ?_
      refine xm_iload dL_law_319 rfl ?_
      refine xb_icmp_ne 356 dL_law_321 (by decide) hf (fun c hf => ?_) (fun c hf => ?_)
      · exact xm_sub [0, 1, 2, 3] rfl (L_L_law_j356 σ l0 l1 l3 l4 hf hR hE hC)
      · refine xm_aload_n dL_law_324 rfl ?_
        refine xm_iload dL_law_325 rfl ?_
        refine xm_iload dL_law_327 rfl ?_
        refine xm_iconst dL_law_329 (v := 1) (by decide) ?_
        refine xb_if hf (fun hb hf => ?_) (fun _ q => nomatch q)
        obtain ⟨p43, ep43, hf⟩ := xbind hf
        rcases p43 with w44 | E
        · rw [Sum.elim_inl] at hf
          have hf : (if w44 = l9 then (if xk σ l1 11 = true then (f_X11_told σ l1 l7 l6 (2 : Int32)).bind (fun p45 => Sum.elim (fun w46 => (if w46 = l10 then f_L_law_j357 (G.2.2.1) σ l0 l1 l3 l4 (1 : Int32) else f_L_law_j356 (G.2.2.1) σ l0 l1 l3 l4)) (fun _ => none) p45) else none) else f_L_law_j356 (G.2.2.1) σ l0 l1 l3 l4) = some _ := hf
          refine xb_callV (As := [.int l7, .int l6, .int (1 : Int32)]) (v0 := (some (.int w44))) (τ0 := σ) dL_law_330 (xc_X11_told _ _) xcl11 xw_884 xw_885 xw_886 hb rfl (Nat.le_of_ble_eq_true rfl) rfl (Nat.le_of_ble_eq_true rfl) (fun Q1 hq => m_X11_told (d := d + 402) ep43 (fun g hg => by subst hg; exact hq)) ?_
          refine xm_iload dL_law_333 rfl ?_
          refine xb_icmp_ne 356 dL_law_335 (by decide) hf (fun c hf => ?_) (fun c hf => ?_)
          · exact xm_sub [0, 1, 2, 3] rfl (L_L_law_j356 σ l0 l1 l3 l4 hf hR hE hC)
          · refine xm_aload_n dL_law_338 rfl ?_
            refine xm_iload dL_law_339 rfl ?_
            refine xm_iload dL_law_341 rfl ?_
            refine xm_iconst dL_law_343 (v := 2) (by decide) ?_
            refine xb_if hf (fun hb hf => ?_) (fun _ q => nomatch q)
            obtain ⟨p45, ep45, hf⟩ := xbind hf
            rcases p45 with w46 | E
            · rw [Sum.elim_inl] at hf
              have hf : (if w46 = l10 then f_L_law_j357 (G.2.2.1) σ l0 l1 l3 l4 (1 : Int32) else f_L_law_j356 (G.2.2.1) σ l0 l1 l3 l4) = some _ := hf
              refine xb_callV (As := [.int l7, .int l6, .int (2 : Int32)]) (v0 := (some (.int w46))) (τ0 := σ) dL_law_344 (xc_X11_told _ _) xcl11 xw_884 xw_885 xw_886 hb rfl (Nat.le_of_ble_eq_true rfl) rfl (Nat.le_of_ble_eq_true rfl) (fun Q1 hq => m_X11_told (d := d + 402) ep45 (fun g hg => by subst hg; exact hq)) ?_
              refine xm_iload dL_law_347 rfl ?_
              refine xb_icmp_ne 356 dL_law_349 (by decide) hf (fun c hf => ?_) (fun c hf => ?_)
              · exact xm_sub [0, 1, 2, 3] rfl (L_L_law_j356 σ l0 l1 l3 l4 hf hR hE hC)
              · refine xm_iconst dL_law_352 (v := 1) (by decide) ?_
                refine xm_goto 357 dL_law_353 (by decide) ?_
                exact xm_sub [0, 1, 2, 3] rfl (L_L_law_j357 σ l0 l1 l3 l4 (1 : Int32) hf hR hE hC)
            · cases hf
        · cases hf
    · cases hf
def f_L_law_j245 (aC : Nat → ClassId) (σ : xM) (l0 : Nat) (l1 : Nat) (l2 : Int32) (l3 : Nat) (l4 : Int32) (l6 : Int32) (l7 : Int32) (l8 : Int32) (l9 : Int32) (s0 : Int32) : Option ((Int32 × xM) ⊕ ((Nat × Nat × Int32 × Nat × xM) ⊕ (Nat × Nat × Int32 × Nat × Int32 × xM))) :=
  (if xk σ l1 11 = true then (f_X11_told σ l1 l7 l6 (0 : Int32)).bind (fun p34 => Sum.elim (fun w35 => (f_L_mayTell σ l1 l7 l6 l8 l9).bind (fun p36 => (if p36 = (0 : Int32) then f_L_law_j358 aC σ l0 l1 l2 l3 l4 else (if xk σ l1 11 = true then (f_X11_tell σ l1 l7 l6 l8 l9 s0).bind (fun p38 => xlet p38.2 (fun σ40 => Sum.elim (fun w39 => (if l2 = (0 : Int32) then f_L_law_j356 aC σ40 l0 l1 l3 l4 else (if w35 = (-1 : Int32) then f_L_law_j307 aC σ40 l0 l1 l3 l4 l6 l7 l8 l9 s0 (0 : Int32) w39 else f_L_law_j307 aC σ40 l0 l1 l3 l4 l6 l7 l8 l9 s0 w35 w39))) (fun _ => none) p38.1)) else none)))) (fun _ => none) p34) else none)
set_option maxHeartbeats 4000000 in
set_option maxRecDepth 20000 in
theorem L_L_law_j245 {G : xG} {π : Nat → Nat} {d C Z : Nat} {Q : xQ} (σ : xM) (l0 : Nat) (l1 : Nat) (l2 : Int32) (l3 : Nat) (l4 : Int32) (l6 : Int32) (l7 : Int32) (l8 : Int32) (l9 : Int32) (s0 : Int32) {x : ((Int32 × xM) ⊕ ((Nat × Nat × Int32 × Nat × xM) ⊕ (Nat × Nat × Int32 × Nat × Int32 × xM)))} (hf : f_L_law_j245 (G.2.2.1) σ l0 l1 l2 l3 l4 l6 l7 l8 l9 s0 = some x) (hR : ∀ g, x = Sum.inl (g) → ∀ π', xag 4562 π π' → Q (.inl (some (.int g.1))) (g.2) π') (hE : ∀ e : (Nat × Nat × Int32 × Nat × xM), x = Sum.inr (Sum.inl e) → xMach G π J_L_law (d + 410) C Z 364 [(0, .ref e.1), (1, .ref e.2.1), (2, .int e.2.2.1), (3, .ref e.2.2.2.1)] [] e.2.2.2.2 Q) (hC : ∀ e : (Nat × Nat × Int32 × Nat × Int32 × xM), x = Sum.inr (Sum.inr e) → xMach G π J_L_law (d + 410) C Z 141 [(0, .ref e.1), (1, .ref e.2.1), (2, .int e.2.2.1), (3, .ref e.2.2.2.1), (4, .int e.2.2.2.2.1)] [] e.2.2.2.2.2 Q) : xMach G π J_L_law (d + 410) C Z 245 [(0, .ref l0), (1, .ref l1), (2, .int l2), (3, .ref l3), (4, .int l4), (6, .int l6), (7, .int l7), (8, .int l8), (9, .int l9)] [.int s0] σ Q := by
  unfold f_L_law_j245 at hf
  refine xm_istore dL_law_245 (by decide) (xm_stL (L' := [(10, .int s0), (0, .ref l0), (1, .ref l1), (2, .int l2), (3, .ref l3), (4, .int l4), (6, .int l6), (7, .int l7), (8, .int l8), (9, .int l9)]) rfl ?_)
  refine xm_aload_n dL_law_247 rfl ?_
  refine xm_iload dL_law_248 rfl ?_
  refine xm_iload dL_law_250 rfl ?_
  refine xm_iconst dL_law_252 (v := 0) (by decide) ?_
  refine xb_if hf (fun hb hf => ?_) (fun _ q => nomatch q)
  obtain ⟨p34, ep34, hf⟩ := xbind hf
  rcases p34 with w35 | E
  · rw [Sum.elim_inl] at hf
    have hf : (f_L_mayTell σ l1 l7 l6 l8 l9).bind (fun p36 => (if p36 = (0 : Int32) then f_L_law_j358 (G.2.2.1) σ l0 l1 l2 l3 l4 else (if xk σ l1 11 = true then (f_X11_tell σ l1 l7 l6 l8 l9 s0).bind (fun p38 => xlet p38.2 (fun σ40 => Sum.elim (fun w39 => (if l2 = (0 : Int32) then f_L_law_j356 (G.2.2.1) σ40 l0 l1 l3 l4 else (if w35 = (-1 : Int32) then f_L_law_j307 (G.2.2.1) σ40 l0 l1 l3 l4 l6 l7 l8 l9 s0 (0 : Int32) w39 else f_L_law_j307 (G.2.2.1) σ40 l0 l1 l3 l4 l6 l7 l8 l9 s0 w35 w39))) (fun _ => none) p38.1)) else none))) = some _ := hf
    refine xb_callV (As := [.int l7, .int l6, .int (0 : Int32)]) (v0 := (some (.int w35))) (τ0 := σ) dL_law_253 (xc_X11_told _ _) xcl11 xw_884 xw_885 xw_886 hb rfl (Nat.le_of_ble_eq_true rfl) rfl (Nat.le_of_ble_eq_true rfl) (fun Q1 hq => m_X11_told (d := d + 402) ep34 (fun g hg => by subst hg; exact hq)) ?_
    refine xm_istore dL_law_256 (by decide) (xm_stL (L' := [(11, .int w35), (10, .int s0), (0, .ref l0), (1, .ref l1), (2, .int l2), (3, .ref l3), (4, .int l4), (6, .int l6), (7, .int l7), (8, .int l8), (9, .int l9)]) rfl ?_)
    refine xm_aload_n dL_law_258 rfl ?_
    refine xm_iload dL_law_259 rfl ?_
    refine xm_iload dL_law_261 rfl ?_
    refine xm_iload dL_law_263 rfl ?_
    refine xm_iload dL_law_265 rfl ?_
    obtain ⟨p36, ep36, hf⟩ := xbind hf
    refine xb_callS (As := [.ref l1, .int l7, .int l6, .int l8, .int l9]) (v0 := (some (.int p36))) (τ0 := σ) dL_law_267 (xc_L_mayTell _ _) xw_1234 xw_1235 rfl (Nat.le_of_ble_eq_true rfl) rfl (Nat.le_of_ble_eq_true rfl) (fun Q1 hq => m_L_mayTell (d := d + 401) (C := 0) (Z := 0) ep36 (fun g hg => by subst hg; exact hq)) ?_
    refine xb_if_eq 358 dL_law_270 (by decide) hf (fun c hf => ?_) (fun c hf => ?_)
    · exact xm_sub [2, 3, 4, 5, 6] rfl (L_L_law_j358 σ l0 l1 l2 l3 l4 hf hR hE hC)
    · refine xm_aload_n dL_law_273 rfl ?_
      refine xm_iload dL_law_274 rfl ?_
      refine xm_iload dL_law_276 rfl ?_
      refine xm_iload dL_law_278 rfl ?_
      refine xm_iload dL_law_280 rfl ?_
      refine xm_iload dL_law_282 rfl ?_
      refine xb_if hf (fun hb hf => ?_) (fun _ q => nomatch q)
      obtain ⟨p38, ep38, hf⟩ := xbind hf
      rcases p38 with ⟨w39 | E, σ40⟩
      · have hf : (if l2 = (0 : Int32) then f_L_law_j356 (G.2.2.1) σ40 l0 l1 l3 l4 else (if w35 = (-1 : Int32) then f_L_law_j307 (G.2.2.1) σ40 l0 l1 l3 l4 l6 l7 l8 l9 s0 (0 : Int32) w39 else f_L_law_j307 (G.2.2.1) σ40 l0 l1 l3 l4 l6 l7 l8 l9 s0 w35 w39)) = some _ := hf
        refine xb_callV (As := [.int l7, .int l6, .int l8, .int l9, .int s0]) (v0 := (some (.int w39))) (τ0 := σ40) dL_law_284 (xc_X11_tell _ _) xcl11 xw_846 xw_847 xw_848 hb rfl (Nat.le_of_ble_eq_true rfl) rfl (Nat.le_of_ble_eq_true rfl) (fun Q1 hq => m_X11_tell (d := d + 402) ep38 (fun g hg => by subst hg; exact hq)) ?_
        refine xm_istore dL_law_287 (by decide) (xm_stL (L' := [(12, .int w39), (11, .int w35), (10, .int s0), (0, .ref l0), (1, .ref l1), (2, .int l2), (3, .ref l3), (4, .int l4), (6, .int l6), (7, .int l7), (8, .int l8), (9, .int l9)]) rfl ?_)
        refine xm_iload_n dL_law_289 rfl ?_
        refine xb_if_eq 356 dL_law_290 (by decide) hf (fun c hf => ?_) (fun c hf => ?_)
        · exact xm_sub [3, 4, 6, 7] rfl (L_L_law_j356 σ40 l0 l1 l3 l4 hf hR hE hC)
        · refine xm_iload dL_law_293 rfl ?_
          refine xm_iload dL_law_295 rfl ?_
          refine xm_iconst dL_law_297 (v := -1) (by decide) ?_
          refine xb_icmp_ne 305 dL_law_298 (by decide) hf (fun c hf => ?_) (fun c hf => ?_)
          · refine xm_iload dL_law_305 rfl ?_
            exact xm_sub [3, 4, 6, 7, 8, 9, 10, 11, 2] rfl (L_L_law_j307 σ40 l0 l1 l3 l4 l6 l7 l8 l9 s0 w35 w39 hf hR hE hC)
          · refine xm_iconst dL_law_301 (v := 0) (by decide) ?_
            refine xm_goto 307 dL_law_302 (by decide) ?_
            exact xm_sub [3, 4, 6, 7, 8, 9, 10, 11, 2] rfl (L_L_law_j307 σ40 l0 l1 l3 l4 l6 l7 l8 l9 s0 (0 : Int32) w39 hf hR hE hC)
      · cases hf
  · cases hf
def f_L_law_j212 (aC : Nat → ClassId) (σ : xM) (l0 : Nat) (l1 : Nat) (l2 : Int32) (l3 : Nat) (l4 : Int32) (l5 : Int32) (l6 : Int32) (l7 : Int32) (l8 : Int32) (s0 : Int32) : Option ((Int32 × xM) ⊕ ((Nat × Nat × Int32 × Nat × xM) ⊕ (Nat × Nat × Int32 × Nat × Int32 × xM))) :=
  (if l6 = (2 : Int32) then (f_L_low σ (l5 >>> ((12 : Int32) &&& 31)) (11 : Int32)).bind (fun p47 => f_L_law_j245 aC σ l0 l1 l2 l3 l4 l6 l7 l8 s0 p47) else (f_L_low σ (l5 >>> ((12 : Int32) &&& 31)) (3 : Int32)).bind (fun p33 => f_L_law_j245 aC σ l0 l1 l2 l3 l4 l6 l7 l8 s0 ((11 : Int32) + p33)))
set_option maxHeartbeats 4000000 in
set_option maxRecDepth 20000 in
theorem L_L_law_j212 {G : xG} {π : Nat → Nat} {d C Z : Nat} {Q : xQ} (σ : xM) (l0 : Nat) (l1 : Nat) (l2 : Int32) (l3 : Nat) (l4 : Int32) (l5 : Int32) (l6 : Int32) (l7 : Int32) (l8 : Int32) (s0 : Int32) {x : ((Int32 × xM) ⊕ ((Nat × Nat × Int32 × Nat × xM) ⊕ (Nat × Nat × Int32 × Nat × Int32 × xM)))} (hf : f_L_law_j212 (G.2.2.1) σ l0 l1 l2 l3 l4 l5 l6 l7 l8 s0 = some x) (hR : ∀ g, x = Sum.inl (g) → ∀ π', xag 4562 π π' → Q (.inl (some (.int g.1))) (g.2) π') (hE : ∀ e : (Nat × Nat × Int32 × Nat × xM), x = Sum.inr (Sum.inl e) → xMach G π J_L_law (d + 410) C Z 364 [(0, .ref e.1), (1, .ref e.2.1), (2, .int e.2.2.1), (3, .ref e.2.2.2.1)] [] e.2.2.2.2 Q) (hC : ∀ e : (Nat × Nat × Int32 × Nat × Int32 × xM), x = Sum.inr (Sum.inr e) → xMach G π J_L_law (d + 410) C Z 141 [(0, .ref e.1), (1, .ref e.2.1), (2, .int e.2.2.1), (3, .ref e.2.2.2.1), (4, .int e.2.2.2.2.1)] [] e.2.2.2.2.2 Q) : xMach G π J_L_law (d + 410) C Z 212 [(0, .ref l0), (1, .ref l1), (2, .int l2), (3, .ref l3), (4, .int l4), (5, .int l5), (6, .int l6), (7, .int l7), (8, .int l8)] [.int s0] σ Q := by
  unfold f_L_law_j212 at hf
  refine xm_istore dL_law_212 (by decide) (xm_stL (L' := [(9, .int s0), (0, .ref l0), (1, .ref l1), (2, .int l2), (3, .ref l3), (4, .int l4), (5, .int l5), (6, .int l6), (7, .int l7), (8, .int l8)]) rfl ?_)
  refine xm_iload dL_law_214 rfl ?_
  refine xm_iconst dL_law_216 (v := 2) (by decide) ?_
  refine xb_icmp_ne 233 dL_law_217 (by decide) hf (fun c hf => ?_) (fun c hf => ?_)
  · refine xm_bipush dL_law_233 (v := 11) (by decide) ?_
    refine xm_iload dL_law_235 rfl ?_
    refine xm_bipush dL_law_237 (v := 12) (by decide) ?_
    refine xm_ishr dL_law_239 ?_
    refine xm_iconst dL_law_240 (v := 3) (by decide) ?_
    obtain ⟨p33, ep33, hf⟩ := xbind hf
    refine xb_callS (As := [.int (l5 >>> ((12 : Int32) &&& 31)), .int (3 : Int32)]) (v0 := (some (.int p33))) (τ0 := σ) dL_law_241 (xc_L_low _ _) xw_1227 xw_1228 rfl (Nat.le_of_ble_eq_true rfl) rfl (Nat.le_of_ble_eq_true rfl) (fun Q1 hq => m_L_low (d := d + 409) (C := 0) (Z := 0) ep33 (fun g hg => by subst hg; exact hq)) ?_
    refine xm_iadd dL_law_244 ?_
    exact xm_sub [1, 2, 3, 4, 5, 7, 8, 9, 0] rfl (L_L_law_j245 σ l0 l1 l2 l3 l4 l6 l7 l8 s0 ((11 : Int32) + p33) hf hR hE hC)
  · refine xm_iload dL_law_220 rfl ?_
    refine xm_bipush dL_law_222 (v := 12) (by decide) ?_
    refine xm_ishr dL_law_224 ?_
    refine xm_bipush dL_law_225 (v := 11) (by decide) ?_
    obtain ⟨p47, ep47, hf⟩ := xbind hf
    refine xb_callS (As := [.int (l5 >>> ((12 : Int32) &&& 31)), .int (11 : Int32)]) (v0 := (some (.int p47))) (τ0 := σ) dL_law_227 (xc_L_low _ _) xw_1227 xw_1228 rfl (Nat.le_of_ble_eq_true rfl) rfl (Nat.le_of_ble_eq_true rfl) (fun Q1 hq => m_L_low (d := d + 409) (C := 0) (Z := 0) ep47 (fun g hg => by subst hg; exact hq)) ?_
    refine xm_goto 245 dL_law_230 (by decide) ?_
    exact xm_sub [1, 2, 3, 4, 5, 7, 8, 9, 0] rfl (L_L_law_j245 σ l0 l1 l2 l3 l4 l6 l7 l8 s0 p47 hf hR hE hC)
def f_L_law_s141 (aC : Nat → ClassId) (s : (Nat × Nat × Int32 × Nat × Int32 × xM)) : Option ((Int32 × xM) ⊕ ((Nat × Nat × Int32 × Nat × xM) ⊕ (Nat × Nat × Int32 × Nat × Int32 × xM))) :=
  xlet s.1 (fun l0 => xlet s.2.1 (fun l1 => xlet s.2.2.1 (fun l2 => xlet s.2.2.2.1 (fun l3 => xlet s.2.2.2.2.1 (fun l4 => xlet s.2.2.2.2.2 (fun σ => (if (3 : Int32) ≤ l4 then some (Sum.inr (Sum.inl (l0, l1, l2, l3, σ))) else (f_L_cell aC σ l0 ((4 : Int32) + l4)).bind (fun p27 => (f_L_low σ p27 (3 : Int32)).bind (fun p28 => (f_L_low σ (p27 >>> ((2 : Int32) &&& 31)) (16 : Int32)).bind (fun p29 => (f_L_sign σ p29).bind (fun p30 => (f_L_low σ (p27 >>> ((6 : Int32) &&& 31)) (9 : Int32)).bind (fun p31 => xlet ((1 : Int32) + p31) (fun v32 => (if p28 = (2 : Int32) then (f_L_low σ (p27 >>> ((10 : Int32) &&& 31)) (3 : Int32)).bind (fun p48 => f_L_law_j212 aC σ l0 l1 l2 l3 l4 p27 p28 p30 v32 p48) else f_L_law_j212 aC σ l0 l1 l2 l3 l4 p27 p28 p30 v32 (0 : Int32)))))))))))))))
set_option maxHeartbeats 4000000 in
set_option maxRecDepth 20000 in
theorem L_L_law_s141 {G : xG} {π : Nat → Nat} {d C Z : Nat} {Q : xQ} (σ : xM) (l0 : Nat) (l1 : Nat) (l2 : Int32) (l3 : Nat) (l4 : Int32) {x : ((Int32 × xM) ⊕ ((Nat × Nat × Int32 × Nat × xM) ⊕ (Nat × Nat × Int32 × Nat × Int32 × xM)))} (hf : f_L_law_s141 (G.2.2.1) (l0, l1, l2, l3, l4, σ) = some x) (hR : ∀ g, x = Sum.inl (g) → ∀ π', xag 4562 π π' → Q (.inl (some (.int g.1))) (g.2) π') (hE : ∀ e : (Nat × Nat × Int32 × Nat × xM), x = Sum.inr (Sum.inl e) → xMach G π J_L_law (d + 410) C Z 364 [(0, .ref e.1), (1, .ref e.2.1), (2, .int e.2.2.1), (3, .ref e.2.2.2.1)] [] e.2.2.2.2 Q) (hC : ∀ e : (Nat × Nat × Int32 × Nat × Int32 × xM), x = Sum.inr (Sum.inr e) → xMach G π J_L_law (d + 410) C Z 141 [(0, .ref e.1), (1, .ref e.2.1), (2, .int e.2.2.1), (3, .ref e.2.2.2.1), (4, .int e.2.2.2.2.1)] [] e.2.2.2.2.2 Q) : xMach G π J_L_law (d + 410) C Z 141 [(0, .ref l0), (1, .ref l1), (2, .int l2), (3, .ref l3), (4, .int l4)] [] σ Q := by
  have hf : (if (3 : Int32) ≤ l4 then some (Sum.inr (Sum.inl (l0, l1, l2, l3, σ))) else (f_L_cell (G.2.2.1) σ l0 ((4 : Int32) + l4)).bind (fun p27 => (f_L_low σ p27 (3 : Int32)).bind (fun p28 => (f_L_low σ (p27 >>> ((2 : Int32) &&& 31)) (16 : Int32)).bind (fun p29 => (f_L_sign σ p29).bind (fun p30 => (f_L_low σ (p27 >>> ((6 : Int32) &&& 31)) (9 : Int32)).bind (fun p31 => xlet ((1 : Int32) + p31) (fun v32 => (if p28 = (2 : Int32) then (f_L_low σ (p27 >>> ((10 : Int32) &&& 31)) (3 : Int32)).bind (fun p48 => f_L_law_j212 (G.2.2.1) σ l0 l1 l2 l3 l4 p27 p28 p30 v32 p48) else f_L_law_j212 (G.2.2.1) σ l0 l1 l2 l3 l4 p27 p28 p30 v32 (0 : Int32))))))))) = some x := hf
  refine xm_iload dL_law_141 rfl ?_
  refine xm_iconst dL_law_143 (v := 3) (by decide) ?_
  refine xb_icmp_ge 364 dL_law_144 (by decide) hf (fun c hf => ?_) (fun c hf => ?_)
  · cases hf
    exact xm_sub [0, 1, 2, 3] rfl (hE _ rfl)
  · refine xm_aload_n dL_law_147 rfl ?_
    refine xm_iconst dL_law_148 (v := 4) (by decide) ?_
    refine xm_iload dL_law_149 rfl ?_
    refine xm_iadd dL_law_151 ?_
    obtain ⟨p27, ep27, hf⟩ := xbind hf
    refine xb_callS (As := [.ref l0, .int ((4 : Int32) + l4)]) (v0 := (some (.int p27))) (τ0 := σ) dL_law_152 (xc_L_cell _ _) xw_1222 xw_1223 rfl (Nat.le_of_ble_eq_true rfl) rfl (Nat.le_of_ble_eq_true rfl) (fun Q1 hq => m_L_cell (d := d + 409) (C := 0) (Z := 0) ep27 (fun g hg => by subst hg; exact hq)) ?_
    refine xm_istore dL_law_155 (by decide) (xm_stL (L' := [(5, .int p27), (0, .ref l0), (1, .ref l1), (2, .int l2), (3, .ref l3), (4, .int l4)]) rfl ?_)
    refine xm_iload dL_law_157 rfl ?_
    refine xm_iconst dL_law_159 (v := 3) (by decide) ?_
    obtain ⟨p28, ep28, hf⟩ := xbind hf
    refine xb_callS (As := [.int p27, .int (3 : Int32)]) (v0 := (some (.int p28))) (τ0 := σ) dL_law_160 (xc_L_low _ _) xw_1227 xw_1228 rfl (Nat.le_of_ble_eq_true rfl) rfl (Nat.le_of_ble_eq_true rfl) (fun Q1 hq => m_L_low (d := d + 409) (C := 0) (Z := 0) ep28 (fun g hg => by subst hg; exact hq)) ?_
    refine xm_istore dL_law_163 (by decide) (xm_stL (L' := [(6, .int p28), (5, .int p27), (0, .ref l0), (1, .ref l1), (2, .int l2), (3, .ref l3), (4, .int l4)]) rfl ?_)
    refine xm_iload dL_law_165 rfl ?_
    refine xm_iconst dL_law_167 (v := 2) (by decide) ?_
    refine xm_ishr dL_law_168 ?_
    refine xm_bipush dL_law_169 (v := 16) (by decide) ?_
    obtain ⟨p29, ep29, hf⟩ := xbind hf
    refine xb_callS (As := [.int (p27 >>> ((2 : Int32) &&& 31)), .int (16 : Int32)]) (v0 := (some (.int p29))) (τ0 := σ) dL_law_171 (xc_L_low _ _) xw_1227 xw_1228 rfl (Nat.le_of_ble_eq_true rfl) rfl (Nat.le_of_ble_eq_true rfl) (fun Q1 hq => m_L_low (d := d + 409) (C := 0) (Z := 0) ep29 (fun g hg => by subst hg; exact hq)) ?_
    obtain ⟨p30, ep30, hf⟩ := xbind hf
    refine xb_callS (As := [.int p29]) (v0 := (some (.int p30))) (τ0 := σ) dL_law_174 (xc_L_sign _ _) xw_1231 xw_1232 rfl (Nat.le_of_ble_eq_true rfl) rfl (Nat.le_of_ble_eq_true rfl) (fun Q1 hq => m_L_sign (d := d + 409) (C := 0) (Z := 0) ep30 (fun g hg => by subst hg; exact hq)) ?_
    refine xm_istore dL_law_177 (by decide) (xm_stL (L' := [(7, .int p30), (6, .int p28), (5, .int p27), (0, .ref l0), (1, .ref l1), (2, .int l2), (3, .ref l3), (4, .int l4)]) rfl ?_)
    refine xm_iconst dL_law_179 (v := 1) (by decide) ?_
    refine xm_iload dL_law_180 rfl ?_
    refine xm_bipush dL_law_182 (v := 6) (by decide) ?_
    refine xm_ishr dL_law_184 ?_
    refine xm_bipush dL_law_185 (v := 9) (by decide) ?_
    obtain ⟨p31, ep31, hf⟩ := xbind hf
    refine xb_callS (As := [.int (p27 >>> ((6 : Int32) &&& 31)), .int (9 : Int32)]) (v0 := (some (.int p31))) (τ0 := σ) dL_law_187 (xc_L_low _ _) xw_1227 xw_1228 rfl (Nat.le_of_ble_eq_true rfl) rfl (Nat.le_of_ble_eq_true rfl) (fun Q1 hq => m_L_low (d := d + 409) (C := 0) (Z := 0) ep31 (fun g hg => by subst hg; exact hq)) ?_
    refine xm_iadd dL_law_190 ?_
    refine xb_topi hf (fun v32 ev32 hf => ?_)
    refine xm_istore dL_law_191 (by decide) (xm_stL (L' := [(8, .int v32), (7, .int p30), (6, .int p28), (5, .int p27), (0, .ref l0), (1, .ref l1), (2, .int l2), (3, .ref l3), (4, .int l4)]) rfl ?_)
    refine xm_iload dL_law_193 rfl ?_
    refine xm_iconst dL_law_195 (v := 2) (by decide) ?_
    refine xb_icmp_ne 211 dL_law_196 (by decide) hf (fun c hf => ?_) (fun c hf => ?_)
    · refine xm_iconst dL_law_211 (v := 0) (by decide) ?_
      exact xm_sub [4, 5, 6, 7, 8, 3, 2, 1, 0] rfl (L_L_law_j212 σ l0 l1 l2 l3 l4 p27 p28 p30 v32 (0 : Int32) hf hR hE hC)
    · refine xm_iload dL_law_199 rfl ?_
      refine xm_bipush dL_law_201 (v := 10) (by decide) ?_
      refine xm_ishr dL_law_203 ?_
      refine xm_iconst dL_law_204 (v := 3) (by decide) ?_
      obtain ⟨p48, ep48, hf⟩ := xbind hf
      refine xb_callS (As := [.int (p27 >>> ((10 : Int32) &&& 31)), .int (3 : Int32)]) (v0 := (some (.int p48))) (τ0 := σ) dL_law_205 (xc_L_low _ _) xw_1227 xw_1228 rfl (Nat.le_of_ble_eq_true rfl) rfl (Nat.le_of_ble_eq_true rfl) (fun Q1 hq => m_L_low (d := d + 409) (C := 0) (Z := 0) ep48 (fun g hg => by subst hg; exact hq)) ?_
      refine xm_goto 212 dL_law_208 (by decide) ?_
      exact xm_sub [4, 5, 6, 7, 8, 3, 2, 1, 0] rfl (L_L_law_j212 σ l0 l1 l2 l3 l4 p27 p28 p30 v32 p48 hf hR hE hC)
theorem L_L_law_l141 {G : xG} {π : Nat → Nat} {d C Z : Nat} {Q : xQ} {s0 : (Nat × Nat × Int32 × Nat × Int32 × xM)} {x : ((Int32 × xM) ⊕ (Nat × Nat × Int32 × Nat × xM))} (h1 : xloop (f_L_law_s141 (G.2.2.1)) xF s0 = some x) (hR : ∀ g, x = Sum.inl g → ∀ π', xag 4562 π π' → Q (.inl (some (.int g.1))) (g.2) π') (hE : ∀ e : (Nat × Nat × Int32 × Nat × xM), x = Sum.inr e → xMach G π J_L_law (d + 410) C Z 364 [(0, .ref e.1), (1, .ref e.2.1), (2, .int e.2.2.1), (3, .ref e.2.2.2.1)] [] e.2.2.2.2 Q) : xMach G π J_L_law (d + 410) C Z 141 [(0, .ref s0.1), (1, .ref s0.2.1), (2, .int s0.2.2.1), (3, .ref s0.2.2.2.1), (4, .int s0.2.2.2.2.1)] [] s0.2.2.2.2.2 Q := by
  refine xloop_run (M := (fun s : (Nat × Nat × Int32 × Nat × Int32 × xM) => xMach G π J_L_law (d + 410) C Z 141 [(0, .ref s.1), (1, .ref s.2.1), (2, .int s.2.2.1), (3, .ref s.2.2.2.1), (4, .int s.2.2.2.2.1)] [] s.2.2.2.2.2 Q)) (r := x) ?_ xF _ h1
  intro s y hs hx
  exact L_L_law_s141 s.2.2.2.2.2 s.1 s.2.1 s.2.2.1 s.2.2.2.1 s.2.2.2.2.1 (x := y) hs (fun g hg => by subst hg; exact hR g hx) (fun e he => by subst he; exact hE e hx) (fun e he => by subst he; exact hx)
def f_L_law_j481 (aC : Nat → ClassId) (σ : xM) (l0 : Nat) (l1 : Nat) (l2 : Int32) (l3 : Nat) (l4 : Int32) (l5 : Int32) : Option ((Int32 × xM) ⊕ ((Nat × Int32 × Int32 × xM) ⊕ (Nat × Nat × Int32 × Nat × Int32 × Int32 × xM))) :=
  xlet (l5 + (1 : Int32)) (fun v57 => some (Sum.inr (Sum.inr (l0, l1, l2, l3, l4, v57, σ))))
set_option maxHeartbeats 4000000 in
set_option maxRecDepth 20000 in
theorem L_L_law_j481 {G : xG} {π : Nat → Nat} {d C Z : Nat} {Q : xQ} (σ : xM) (l0 : Nat) (l1 : Nat) (l2 : Int32) (l3 : Nat) (l4 : Int32) (l5 : Int32) {x : ((Int32 × xM) ⊕ ((Nat × Int32 × Int32 × xM) ⊕ (Nat × Nat × Int32 × Nat × Int32 × Int32 × xM)))} (hf : f_L_law_j481 (G.2.2.1) σ l0 l1 l2 l3 l4 l5 = some x) (hR : ∀ g, x = Sum.inl (g) → ∀ π', xag 4562 π π' → Q (.inl (some (.int g.1))) (g.2) π') (hE : ∀ e : (Nat × Int32 × Int32 × xM), x = Sum.inr (Sum.inl e) → ∀ π', xag 4562 π π' → xMach G π' J_L_law (d + 410) C Z 487 [(1, .ref e.1), (2, .int e.2.1), (4, .int e.2.2.1)] [] e.2.2.2 Q) (hC : ∀ e : (Nat × Nat × Int32 × Nat × Int32 × Int32 × xM), x = Sum.inr (Sum.inr e) → ∀ π', xag 4562 π π' → xMach G π' J_L_law (d + 410) C Z 373 [(0, .ref e.1), (1, .ref e.2.1), (2, .int e.2.2.1), (3, .ref e.2.2.2.1), (4, .int e.2.2.2.2.1), (5, .int e.2.2.2.2.2.1)] [] e.2.2.2.2.2.2 Q) : xMach G π J_L_law (d + 410) C Z 481 [(0, .ref l0), (1, .ref l1), (2, .int l2), (3, .ref l3), (4, .int l4), (5, .int l5)] [] σ Q := by
  unfold f_L_law_j481 at hf
  refine xb_iinc dL_law_481 rfl (by decide) (by decide) hf (fun v57 ev57 hf => xm_stL (L' := [(5, .int v57), (0, .ref l0), (1, .ref l1), (2, .int l2), (3, .ref l3), (4, .int l4)]) rfl ?_)
  refine xm_goto 373 dL_law_484 (by decide) ?_
  cases hf
  exact xm_sub [1, 2, 3, 4, 5, 0] rfl (hC _ rfl _ xag_rf)
def f_L_law_j480 (aC : Nat → ClassId) (σ : xM) (l0 : Nat) (l1 : Nat) (l3 : Nat) (l4 : Int32) (l5 : Int32) (s0 : Int32) : Option ((Int32 × xM) ⊕ ((Nat × Int32 × Int32 × xM) ⊕ (Nat × Nat × Int32 × Nat × Int32 × Int32 × xM))) :=
  f_L_law_j481 aC σ l0 l1 s0 l3 l4 l5
set_option maxHeartbeats 4000000 in
set_option maxRecDepth 20000 in
theorem L_L_law_j480 {G : xG} {π : Nat → Nat} {d C Z : Nat} {Q : xQ} (σ : xM) (l0 : Nat) (l1 : Nat) (l3 : Nat) (l4 : Int32) (l5 : Int32) (s0 : Int32) {x : ((Int32 × xM) ⊕ ((Nat × Int32 × Int32 × xM) ⊕ (Nat × Nat × Int32 × Nat × Int32 × Int32 × xM)))} (hf : f_L_law_j480 (G.2.2.1) σ l0 l1 l3 l4 l5 s0 = some x) (hR : ∀ g, x = Sum.inl (g) → ∀ π', xag 4562 π π' → Q (.inl (some (.int g.1))) (g.2) π') (hE : ∀ e : (Nat × Int32 × Int32 × xM), x = Sum.inr (Sum.inl e) → ∀ π', xag 4562 π π' → xMach G π' J_L_law (d + 410) C Z 487 [(1, .ref e.1), (2, .int e.2.1), (4, .int e.2.2.1)] [] e.2.2.2 Q) (hC : ∀ e : (Nat × Nat × Int32 × Nat × Int32 × Int32 × xM), x = Sum.inr (Sum.inr e) → ∀ π', xag 4562 π π' → xMach G π' J_L_law (d + 410) C Z 373 [(0, .ref e.1), (1, .ref e.2.1), (2, .int e.2.2.1), (3, .ref e.2.2.2.1), (4, .int e.2.2.2.2.1), (5, .int e.2.2.2.2.2.1)] [] e.2.2.2.2.2.2 Q) : xMach G π J_L_law (d + 410) C Z 480 [(0, .ref l0), (1, .ref l1), (3, .ref l3), (4, .int l4), (5, .int l5)] [.int s0] σ Q := by
  unfold f_L_law_j480 at hf
  refine xm_istore_n dL_law_480 (by decide) (xm_stL (L' := [(2, .int s0), (0, .ref l0), (1, .ref l1), (3, .ref l3), (4, .int l4), (5, .int l5)]) rfl ?_)
  exact xm_sub [1, 2, 0, 3, 4, 5] rfl (L_L_law_j481 σ l0 l1 s0 l3 l4 l5 hf hR hE hC)
def f_L_law_j479 (aC : Nat → ClassId) (σ : xM) (l0 : Nat) (l1 : Nat) (l3 : Nat) (l4 : Int32) (l5 : Int32) : Option ((Int32 × xM) ⊕ ((Nat × Int32 × Int32 × xM) ⊕ (Nat × Nat × Int32 × Nat × Int32 × Int32 × xM))) :=
  f_L_law_j480 aC σ l0 l1 l3 l4 l5 (0 : Int32)
set_option maxHeartbeats 4000000 in
set_option maxRecDepth 20000 in
theorem L_L_law_j479 {G : xG} {π : Nat → Nat} {d C Z : Nat} {Q : xQ} (σ : xM) (l0 : Nat) (l1 : Nat) (l3 : Nat) (l4 : Int32) (l5 : Int32) {x : ((Int32 × xM) ⊕ ((Nat × Int32 × Int32 × xM) ⊕ (Nat × Nat × Int32 × Nat × Int32 × Int32 × xM)))} (hf : f_L_law_j479 (G.2.2.1) σ l0 l1 l3 l4 l5 = some x) (hR : ∀ g, x = Sum.inl (g) → ∀ π', xag 4562 π π' → Q (.inl (some (.int g.1))) (g.2) π') (hE : ∀ e : (Nat × Int32 × Int32 × xM), x = Sum.inr (Sum.inl e) → ∀ π', xag 4562 π π' → xMach G π' J_L_law (d + 410) C Z 487 [(1, .ref e.1), (2, .int e.2.1), (4, .int e.2.2.1)] [] e.2.2.2 Q) (hC : ∀ e : (Nat × Nat × Int32 × Nat × Int32 × Int32 × xM), x = Sum.inr (Sum.inr e) → ∀ π', xag 4562 π π' → xMach G π' J_L_law (d + 410) C Z 373 [(0, .ref e.1), (1, .ref e.2.1), (2, .int e.2.2.1), (3, .ref e.2.2.2.1), (4, .int e.2.2.2.2.1), (5, .int e.2.2.2.2.2.1)] [] e.2.2.2.2.2.2 Q) : xMach G π J_L_law (d + 410) C Z 479 [(0, .ref l0), (1, .ref l1), (3, .ref l3), (4, .int l4), (5, .int l5)] [] σ Q := by
  unfold f_L_law_j479 at hf
  refine xm_iconst dL_law_479 (v := 0) (by decide) ?_
  exact xm_sub [0, 1, 2, 3, 4] rfl (L_L_law_j480 σ l0 l1 l3 l4 l5 (0 : Int32) hf hR hE hC)
def f_L_law_s373 (aC : Nat → ClassId) (s : (Nat × Nat × Int32 × Nat × Int32 × Int32 × xM)) : Option ((Int32 × xM) ⊕ ((Nat × Int32 × Int32 × xM) ⊕ (Nat × Nat × Int32 × Nat × Int32 × Int32 × xM))) :=
  xlet s.1 (fun l0 => xlet s.2.1 (fun l1 => xlet s.2.2.1 (fun l2 => xlet s.2.2.2.1 (fun l3 => xlet s.2.2.2.2.1 (fun l4 => xlet s.2.2.2.2.2.1 (fun l5 => xlet s.2.2.2.2.2.2 (fun σ => (if (10 : Int32) ≤ l5 then some (Sum.inr (Sum.inl (l1, l2, l4, σ))) else (if l2 = (0 : Int32) then some (Sum.inr (Sum.inl (l1, l2, l4, σ))) else (f_L_fill aC σ l0 ((8 : Int32) + ((20 : Int32) * l5)) l3).bind (fun p51 => (f_L_types p51.2 l1 l3 (0 : Int32) p51.1).bind (fun p52 => (if xk p52 l1 11 = true then (f_X11_fault p52 l1).bind (fun p53 => (if p53.1 = (-1 : Int32) then (if xk p53.2 l1 11 = true then (f_X11_read p53.2 l1).bind (fun p54 => xlet p54.2 (fun σ56 => Sum.elim (fun w55 => (if w55 = l4 then (if xk σ56 l1 11 = true then (f_X11_drop σ56 l1).bind (fun p58 => (if p58.1 = (0 : Int32) then (f_L_sound p58.2 l1 l4).bind (fun p59 => (if xR2 [l0, l1, l3] = true then (if p59.1 = (0 : Int32) then f_L_law_j479 aC p59.2 l0 l1 l3 l4 l5 else (if xk p59.2 l1 11 = true then (f_X11_trees p59.2 l1).bind (fun p60 => (if p60 = (l4 + (1 : Int32)) then (if xk p59.2 l1 11 = true then (f_X11_undo p59.2 l1).bind (fun p61 => (if p61.1 = (0 : Int32) then f_L_law_j480 aC p61.2 l0 l1 l3 l4 l5 (1 : Int32) else f_L_law_j479 aC p61.2 l0 l1 l3 l4 l5)) else none) else f_L_law_j479 aC p59.2 l0 l1 l3 l4 l5)) else none)) else none)) else f_L_law_j479 aC p58.2 l0 l1 l3 l4 l5)) else none) else f_L_law_j479 aC σ56 l0 l1 l3 l4 l5)) (fun _ => none) p54.1)) else none) else (f_L_faulty p53.2 l1 l3 p51.1 p53.1).bind (fun p62 => f_L_law_j481 aC p62.2 l0 l1 p62.1 l3 l4 l5))) else none))))))))))))
set_option maxHeartbeats 4000000 in
set_option maxRecDepth 20000 in
theorem L_L_law_s373 {G : xG} {π : Nat → Nat} {d C Z : Nat} {Q : xQ} (σ : xM) (l0 : Nat) (l1 : Nat) (l2 : Int32) (l3 : Nat) (l4 : Int32) (l5 : Int32) {x : ((Int32 × xM) ⊕ ((Nat × Int32 × Int32 × xM) ⊕ (Nat × Nat × Int32 × Nat × Int32 × Int32 × xM)))} (hf : f_L_law_s373 (G.2.2.1) (l0, l1, l2, l3, l4, l5, σ) = some x) (hR : ∀ g, x = Sum.inl (g) → ∀ π', xag 4562 π π' → Q (.inl (some (.int g.1))) (g.2) π') (hE : ∀ e : (Nat × Int32 × Int32 × xM), x = Sum.inr (Sum.inl e) → ∀ π', xag 4562 π π' → xMach G π' J_L_law (d + 410) C Z 487 [(1, .ref e.1), (2, .int e.2.1), (4, .int e.2.2.1)] [] e.2.2.2 Q) (hC : ∀ e : (Nat × Nat × Int32 × Nat × Int32 × Int32 × xM), x = Sum.inr (Sum.inr e) → ∀ π', xag 4562 π π' → xMach G π' J_L_law (d + 410) C Z 373 [(0, .ref e.1), (1, .ref e.2.1), (2, .int e.2.2.1), (3, .ref e.2.2.2.1), (4, .int e.2.2.2.2.1), (5, .int e.2.2.2.2.2.1)] [] e.2.2.2.2.2.2 Q) : xMach G π J_L_law (d + 410) (C + 1) (Z + 60) 373 [(0, .ref l0), (1, .ref l1), (2, .int l2), (3, .ref l3), (4, .int l4), (5, .int l5)] [] σ Q := by
  have hf : (if (10 : Int32) ≤ l5 then some (Sum.inr (Sum.inl (l1, l2, l4, σ))) else (if l2 = (0 : Int32) then some (Sum.inr (Sum.inl (l1, l2, l4, σ))) else (f_L_fill (G.2.2.1) σ l0 ((8 : Int32) + ((20 : Int32) * l5)) l3).bind (fun p51 => (f_L_types p51.2 l1 l3 (0 : Int32) p51.1).bind (fun p52 => (if xk p52 l1 11 = true then (f_X11_fault p52 l1).bind (fun p53 => (if p53.1 = (-1 : Int32) then (if xk p53.2 l1 11 = true then (f_X11_read p53.2 l1).bind (fun p54 => xlet p54.2 (fun σ56 => Sum.elim (fun w55 => (if w55 = l4 then (if xk σ56 l1 11 = true then (f_X11_drop σ56 l1).bind (fun p58 => (if p58.1 = (0 : Int32) then (f_L_sound p58.2 l1 l4).bind (fun p59 => (if xR2 [l0, l1, l3] = true then (if p59.1 = (0 : Int32) then f_L_law_j479 (G.2.2.1) p59.2 l0 l1 l3 l4 l5 else (if xk p59.2 l1 11 = true then (f_X11_trees p59.2 l1).bind (fun p60 => (if p60 = (l4 + (1 : Int32)) then (if xk p59.2 l1 11 = true then (f_X11_undo p59.2 l1).bind (fun p61 => (if p61.1 = (0 : Int32) then f_L_law_j480 (G.2.2.1) p61.2 l0 l1 l3 l4 l5 (1 : Int32) else f_L_law_j479 (G.2.2.1) p61.2 l0 l1 l3 l4 l5)) else none) else f_L_law_j479 (G.2.2.1) p59.2 l0 l1 l3 l4 l5)) else none)) else none)) else f_L_law_j479 (G.2.2.1) p58.2 l0 l1 l3 l4 l5)) else none) else f_L_law_j479 (G.2.2.1) σ56 l0 l1 l3 l4 l5)) (fun _ => none) p54.1)) else none) else (f_L_faulty p53.2 l1 l3 p51.1 p53.1).bind (fun p62 => f_L_law_j481 (G.2.2.1) p62.2 l0 l1 p62.1 l3 l4 l5))) else none))))) = some x := hf
  refine xm_iload dL_law_373 rfl ?_
  refine xm_bipush dL_law_375 (v := 10) (by decide) ?_
  refine xb_icmp_ge 487 dL_law_377 (by decide) hf (fun c hf => ?_) (fun c hf => ?_)
  · refine xm_wk (C9 := C) (Z9 := Z) (Nat.le_add_right _ _) (Nat.le_add_right _ _) ?_
    cases hf
    exact xm_sub [1, 2, 4] rfl (hE _ rfl _ xag_rf)
  · refine xm_iload_n dL_law_380 rfl ?_
    refine xb_if_eq 487 dL_law_381 (by decide) hf (fun c hf => ?_) (fun c hf => ?_)
    · refine xm_wk (C9 := C) (Z9 := Z) (Nat.le_add_right _ _) (Nat.le_add_right _ _) ?_
      cases hf
      exact xm_sub [1, 2, 4] rfl (hE _ rfl _ xag_rf)
    · refine xm_aload_n dL_law_384 rfl ?_
      refine xm_bipush dL_law_385 (v := 8) (by decide) ?_
      refine xm_bipush dL_law_387 (v := 20) (by decide) ?_
      refine xm_iload dL_law_389 rfl ?_
      refine xm_imul dL_law_391 ?_
      refine xm_iadd dL_law_392 ?_
      refine xm_aload_n dL_law_393 rfl ?_
      obtain ⟨p51, ep51, hf⟩ := xbind hf
      refine xb_callS (As := [.ref l0, .int ((8 : Int32) + ((20 : Int32) * l5)), .ref l3]) (v0 := (some (.int p51.1))) (τ0 := p51.2) dL_law_394 (xc_L_fill _ _) xw_1240 xw_1241 rfl (Nat.le_of_ble_eq_true rfl) rfl (Nat.le_of_ble_eq_true rfl) (fun Q1 hq => m_L_fill (d := d + 408) (C := 0) (Z := 0) ep51 (fun g hg => by subst hg; exact hq)) ?_
      refine xm_istore dL_law_397 (by decide) (xm_stL (L' := [(6, .int p51.1), (0, .ref l0), (1, .ref l1), (2, .int l2), (3, .ref l3), (4, .int l4), (5, .int l5)]) rfl ?_)
      refine xm_aload_n dL_law_399 rfl ?_
      refine xm_aload_n dL_law_400 rfl ?_
      refine xm_iconst dL_law_401 (v := 0) (by decide) ?_
      refine xm_iload dL_law_402 rfl ?_
      obtain ⟨p52, ep52, hf⟩ := xbind hf
      refine xb_callS (As := [.ref l1, .ref l3, .int (0 : Int32), .int p51.1]) (v0 := none) (τ0 := p52) dL_law_404 (xc_L_types _ _) xw_1237 xw_1238 rfl (Nat.le_of_ble_eq_true rfl) rfl (Nat.le_of_ble_eq_true rfl) (fun Q1 hq => m_L_types (d := d + 401) (C := 0) (Z := 0) ep52 (fun g hg => by subst hg; exact hq)) ?_
      refine xm_aload_n dL_law_407 rfl ?_
      refine xb_if hf (fun hb hf => ?_) (fun _ q => nomatch q)
      obtain ⟨p53, ep53, hf⟩ := xbind hf
      refine xb_callV (As := []) (v0 := (some (.int p53.1))) (τ0 := p53.2) dL_law_408 (xc_X11_fault _ _) xcl11 xw_707 xw_708 xw_709 hb rfl (Nat.le_of_ble_eq_true rfl) rfl (Nat.le_of_ble_eq_true rfl) (fun Q1 hq => m_X11_fault (d := d + 405) ep53 (fun g hg => by subst hg; exact hq)) ?_
      refine xm_istore dL_law_411 (by decide) (xm_stL (L' := [(7, .int p53.1), (6, .int p51.1), (0, .ref l0), (1, .ref l1), (2, .int l2), (3, .ref l3), (4, .int l4), (5, .int l5)]) rfl ?_)
      refine xm_iload dL_law_413 rfl ?_
      refine xm_iconst dL_law_415 (v := -1) (by decide) ?_
      refine xb_icmp_eq 432 dL_law_416 (by decide) hf (fun c hf => ?_) (fun c hf => ?_)
      · refine xm_aload_n dL_law_432 rfl ?_
        refine xb_if hf (fun hb hf => ?_) (fun _ q => nomatch q)
        obtain ⟨p54, ep54, hf⟩ := xbind hf
        rcases p54 with ⟨w55 | E, σ56⟩
        · have hf : (if w55 = l4 then (if xk σ56 l1 11 = true then (f_X11_drop σ56 l1).bind (fun p58 => (if p58.1 = (0 : Int32) then (f_L_sound p58.2 l1 l4).bind (fun p59 => (if xR2 [l0, l1, l3] = true then (if p59.1 = (0 : Int32) then f_L_law_j479 (G.2.2.1) p59.2 l0 l1 l3 l4 l5 else (if xk p59.2 l1 11 = true then (f_X11_trees p59.2 l1).bind (fun p60 => (if p60 = (l4 + (1 : Int32)) then (if xk p59.2 l1 11 = true then (f_X11_undo p59.2 l1).bind (fun p61 => (if p61.1 = (0 : Int32) then f_L_law_j480 (G.2.2.1) p61.2 l0 l1 l3 l4 l5 (1 : Int32) else f_L_law_j479 (G.2.2.1) p61.2 l0 l1 l3 l4 l5)) else none) else f_L_law_j479 (G.2.2.1) p59.2 l0 l1 l3 l4 l5)) else none)) else none)) else f_L_law_j479 (G.2.2.1) p58.2 l0 l1 l3 l4 l5)) else none) else f_L_law_j479 (G.2.2.1) σ56 l0 l1 l3 l4 l5) = some _ := hf
          refine xb_callV (As := []) (v0 := (some (.int w55))) (τ0 := σ56) dL_law_433 (xc_X11_read _ _) xcl11 xw_796 xw_797 xw_798 hb rfl (Nat.le_of_ble_eq_true rfl) rfl (Nat.le_of_ble_eq_true rfl) (fun Q1 hq => m_X11_read (d := d + 401) ep54 (fun g hg => by subst hg; exact hq)) ?_
          refine xm_iload dL_law_436 rfl ?_
          refine xb_icmp_ne 479 dL_law_438 (by decide) hf (fun c hf => ?_) (fun c hf => ?_)
          · refine xm_wk (C9 := C) (Z9 := Z) (Nat.le_add_right _ _) (Nat.le_add_right _ _) ?_
            exact xm_sub [2, 3, 5, 6, 7] rfl (L_L_law_j479 σ56 l0 l1 l3 l4 l5 hf hR hE hC)
          · refine xm_aload_n dL_law_441 rfl ?_
            refine xb_if hf (fun hb hf => ?_) (fun _ q => nomatch q)
            obtain ⟨p58, ep58, hf⟩ := xbind hf
            refine xb_callV (As := []) (v0 := (some (.int p58.1))) (τ0 := p58.2) dL_law_442 (xc_X11_drop _ _) xcl11 xw_703 xw_704 xw_705 hb rfl (Nat.le_of_ble_eq_true rfl) rfl (Nat.le_of_ble_eq_true rfl) (fun Q1 hq => m_X11_drop (d := d + 409) ep58 (fun g hg => by subst hg; exact hq)) ?_
            refine xb_if_ne 479 dL_law_445 (by decide) hf (fun c hf => ?_) (fun c hf => ?_)
            · refine xm_wk (C9 := C) (Z9 := Z) (Nat.le_add_right _ _) (Nat.le_add_right _ _) ?_
              exact xm_sub [2, 3, 5, 6, 7] rfl (L_L_law_j479 p58.2 l0 l1 l3 l4 l5 hf hR hE hC)
            · refine xm_aload_n dL_law_448 rfl ?_
              refine xm_iload dL_law_449 rfl ?_
              obtain ⟨p59, ep59, hf⟩ := xbind hf
              refine xb_callSL (As := [.ref l1, .int l4]) (v0 := (some (.int p59.1))) (τ0 := p59.2) (C1 := 0 + 1) (Z1 := 0 + 60) (C9 := C) (Z9 := Z) dL_law_451 (xc_L_sound _ _) xw_1246 xw_1247 rfl (Nat.le_of_ble_eq_true rfl) rfl (Nat.le_of_ble_eq_true rfl) (fun Q1 hq => m_L_sound (d := d + 0) (C := 0) (Z := 0) ep59 (fun g hg π' hp => by subst hg; exact hq π' hp)) rfl rfl rfl hf (fun π hag hf => ?_)
              have hR := fun g hg π' hp => hR g hg π' (xag_t hag hp)
              have hE := fun e he π' hp => hE e he π' (xag_t hag hp)
              have hC := fun e he π' hp => hC e he π' (xag_t hag hp)
              refine xb_if_eq 479 dL_law_454 (by decide) hf (fun c hf => ?_) (fun c hf => ?_)
              · exact xm_sub [2, 3, 5, 6, 7] rfl (L_L_law_j479 p59.2 l0 l1 l3 l4 l5 hf hR hE hC)
              · refine xm_aload_n dL_law_457 rfl ?_
                refine xb_if hf (fun hb hf => ?_) (fun _ q => nomatch q)
                obtain ⟨p60, ep60, hf⟩ := xbind hf
                refine xb_callV (As := []) (v0 := (some (.int p60))) (τ0 := p59.2) dL_law_458 (xc_X11_trees _ _) xcl11 xw_842 xw_843 xw_844 hb rfl (Nat.le_of_ble_eq_true rfl) rfl (Nat.le_of_ble_eq_true rfl) (fun Q1 hq => m_X11_trees (d := d + 409) ep60 (fun g hg => by subst hg; exact hq)) ?_
                refine xm_iload dL_law_461 rfl ?_
                refine xm_iconst dL_law_463 (v := 1) (by decide) ?_
                refine xm_iadd dL_law_464 ?_
                refine xb_icmp_ne 479 dL_law_465 (by decide) hf (fun c hf => ?_) (fun c hf => ?_)
                · exact xm_sub [2, 3, 5, 6, 7] rfl (L_L_law_j479 p59.2 l0 l1 l3 l4 l5 hf hR hE hC)
                · refine xm_aload_n dL_law_468 rfl ?_
                  refine xb_if hf (fun hb hf => ?_) (fun _ q => nomatch q)
                  obtain ⟨p61, ep61, hf⟩ := xbind hf
                  refine xb_callV (As := []) (v0 := (some (.int p61.1))) (τ0 := p61.2) dL_law_469 (xc_X11_undo _ _) xcl11 xw_1211 xw_1212 xw_1213 hb rfl (Nat.le_of_ble_eq_true rfl) rfl (Nat.le_of_ble_eq_true rfl) (fun Q1 hq => m_X11_undo (d := d + 405) ep61 (fun g hg => by subst hg; exact hq)) ?_
                  refine xb_if_ne 479 dL_law_472 (by decide) hf (fun c hf => ?_) (fun c hf => ?_)
                  · exact xm_sub [2, 3, 5, 6, 7] rfl (L_L_law_j479 p61.2 l0 l1 l3 l4 l5 hf hR hE hC)
                  · refine xm_iconst dL_law_475 (v := 1) (by decide) ?_
                    refine xm_goto 480 dL_law_476 (by decide) ?_
                    exact xm_sub [2, 3, 5, 6, 7] rfl (L_L_law_j480 p61.2 l0 l1 l3 l4 l5 (1 : Int32) hf hR hE hC)
        · cases hf
      · refine xm_aload_n dL_law_419 rfl ?_
        refine xm_aload_n dL_law_420 rfl ?_
        refine xm_iload dL_law_421 rfl ?_
        refine xm_iload dL_law_423 rfl ?_
        obtain ⟨p62, ep62, hf⟩ := xbind hf
        refine xb_callS (As := [.ref l1, .ref l3, .int p51.1, .int p53.1]) (v0 := (some (.int p62.1))) (τ0 := p62.2) dL_law_425 (xc_L_faulty _ _) xw_1243 xw_1244 rfl (Nat.le_of_ble_eq_true rfl) rfl (Nat.le_of_ble_eq_true rfl) (fun Q1 hq => m_L_faulty (d := d + 400) (C := 0) (Z := 0) ep62 (fun g hg => by subst hg; exact hq)) ?_
        refine xm_istore_n dL_law_428 (by decide) (xm_stL (L' := [(2, .int p62.1), (7, .int p53.1), (6, .int p51.1), (0, .ref l0), (1, .ref l1), (3, .ref l3), (4, .int l4), (5, .int l5)]) rfl ?_)
        refine xm_goto 481 dL_law_429 (by decide) ?_
        refine xm_wk (C9 := C) (Z9 := Z) (Nat.le_add_right _ _) (Nat.le_add_right _ _) ?_
        exact xm_sub [3, 4, 0, 5, 6, 7] rfl (L_L_law_j481 p62.2 l0 l1 p62.1 l3 l4 l5 hf hR hE hC)
theorem L_L_law_l373 {G : xG} {d C Z : Nat} {Q : xQ} : ∀ (n : Nat) {π : Nat → Nat} {s0 : (Nat × Nat × Int32 × Nat × Int32 × Int32 × xM)} {x : ((Int32 × xM) ⊕ (Nat × Int32 × Int32 × xM))} (_ : xloop (f_L_law_s373 (G.2.2.1)) n s0 = some x) (_ : ∀ g, x = Sum.inl g → ∀ π', xag 4562 π π' → Q (.inl (some (.int g.1))) (g.2) π') (_ : ∀ e : (Nat × Int32 × Int32 × xM), x = Sum.inr e → ∀ π', xag 4562 π π' → xMach G π' J_L_law (d + 410) C Z 487 [(1, .ref e.1), (2, .int e.2.1), (4, .int e.2.2.1)] [] e.2.2.2 Q), xMach G π J_L_law (d + 410) (C + n) (Z + 60 * n) 373 [(0, .ref s0.1), (1, .ref s0.2.1), (2, .int s0.2.2.1), (3, .ref s0.2.2.2.1), (4, .int s0.2.2.2.2.1), (5, .int s0.2.2.2.2.2.1)] [] s0.2.2.2.2.2.2 Q := by
  intro n
  induction n with
  | zero => intro π s0 x h1; cases h1
  | succ n ih =>
    intro π s0 x h1 hR hE
    unfold xloop at h1
    obtain ⟨l0, l1, l2, l3, l4, l5, σ⟩ := s0
    have e2 : Z + 60 * (n + 1) = (Z + 60 * n) + 60 := by omega
    rw [e2]
    cases hy : f_L_law_s373 (G.2.2.1) (l0, l1, l2, l3, l4, l5, σ) with
    | none => rw [hy] at h1; cases h1
    | some y =>
      rw [hy] at h1
      refine L_L_law_s373 (C := C + n) (Z := Z + 60 * n) σ l0 l1 l2 l3 l4 l5 hy (fun g hg => ?_) (fun e he π' hp => ?_) (fun e he π' hp => ?_)
      · subst hg
        cases h1
        exact hR _ rfl
      · subst he
        cases h1
        exact xm_wk (C9 := C) (Z9 := Z) (by omega) (by omega) (hE _ rfl π' hp)
      · subst he
        exact ih h1 (fun g hg π2 h2 => hR g hg π2 (xag_t hp h2)) (fun e he π2 h2 => hE e he π2 (xag_t hp h2))
def f_L_law_j505 (aC : Nat → ClassId) (σ : xM) (s0 : Int32) : Option (Int32 × xM) :=
  (xz s0).bind (fun b63 => some (b63, σ))
set_option maxHeartbeats 4000000 in
set_option maxRecDepth 20000 in
theorem L_L_law_j505 {G : xG} {π : Nat → Nat} {d C Z : Nat} {Q : xQ} (σ : xM) (s0 : Int32) {x : (Int32 × xM)} (hf : f_L_law_j505 (G.2.2.1) σ s0 = some x) (hR : ∀ g, x = g → ∀ π', xag 4562 π π' → Q (.inl (some (.int g.1))) (g.2) π') : xMach G π J_L_law (d + 410) C Z 505 [] [.int s0] σ Q := by
  unfold f_L_law_j505 at hf
  obtain ⟨b63, eb63, hf⟩ := xbind hf
  obtain ⟨rfl, hz⟩ := xz_of eb63
  cases hf
  exact xm_zret dL_law_505 rfl hz (hR _ rfl _ xag_rf)
def f_L_law_j504 (aC : Nat → ClassId) (σ : xM)  : Option (Int32 × xM) :=
  f_L_law_j505 aC σ (0 : Int32)
set_option maxHeartbeats 4000000 in
set_option maxRecDepth 20000 in
theorem L_L_law_j504 {G : xG} {π : Nat → Nat} {d C Z : Nat} {Q : xQ} (σ : xM)  {x : (Int32 × xM)} (hf : f_L_law_j504 (G.2.2.1) σ = some x) (hR : ∀ g, x = g → ∀ π', xag 4562 π π' → Q (.inl (some (.int g.1))) (g.2) π') : xMach G π J_L_law (d + 410) C Z 504 [] [] σ Q := by
  unfold f_L_law_j504 at hf
  refine xm_iconst dL_law_504 (v := 0) (by decide) ?_
  exact xm_sub [] rfl (L_L_law_j505 σ (0 : Int32) hf hR)
def f_L_law_j487 (aC : Nat → ClassId) (σ : xM) (l1 : Nat) (l2 : Int32) (l4 : Int32) : Option (Int32 × xM) :=
  (if l2 = (0 : Int32) then f_L_law_j504 aC σ else (if xk σ l1 11 = true then (f_X11_trees σ l1).bind (fun p64 => (if p64 = l4 then f_L_law_j505 aC σ (1 : Int32) else f_L_law_j504 aC σ)) else none))
set_option maxHeartbeats 4000000 in
set_option maxRecDepth 20000 in
theorem L_L_law_j487 {G : xG} {π : Nat → Nat} {d C Z : Nat} {Q : xQ} (σ : xM) (l1 : Nat) (l2 : Int32) (l4 : Int32) {x : (Int32 × xM)} (hf : f_L_law_j487 (G.2.2.1) σ l1 l2 l4 = some x) (hR : ∀ g, x = g → ∀ π', xag 4562 π π' → Q (.inl (some (.int g.1))) (g.2) π') : xMach G π J_L_law (d + 410) C Z 487 [(1, .ref l1), (2, .int l2), (4, .int l4)] [] σ Q := by
  unfold f_L_law_j487 at hf
  refine xm_iload_n dL_law_487 rfl ?_
  refine xb_if_eq 504 dL_law_488 (by decide) hf (fun c hf => ?_) (fun c hf => ?_)
  · exact xm_sub [] rfl (L_L_law_j504 σ hf hR)
  · refine xm_aload_n dL_law_491 rfl ?_
    refine xb_if hf (fun hb hf => ?_) (fun _ q => nomatch q)
    obtain ⟨p64, ep64, hf⟩ := xbind hf
    refine xb_callV (As := []) (v0 := (some (.int p64))) (τ0 := σ) dL_law_492 (xc_X11_trees _ _) xcl11 xw_842 xw_843 xw_844 hb rfl (Nat.le_of_ble_eq_true rfl) rfl (Nat.le_of_ble_eq_true rfl) (fun Q1 hq => m_X11_trees (d := d + 409) ep64 (fun g hg => by subst hg; exact hq)) ?_
    refine xm_iload dL_law_495 rfl ?_
    refine xb_icmp_ne 504 dL_law_497 (by decide) hf (fun c hf => ?_) (fun c hf => ?_)
    · exact xm_sub [] rfl (L_L_law_j504 σ hf hR)
    · refine xm_iconst dL_law_500 (v := 1) (by decide) ?_
      refine xm_goto 505 dL_law_501 (by decide) ?_
      exact xm_sub [] rfl (L_L_law_j505 σ (1 : Int32) hf hR)
def f_L_law_j364 (aC : Nat → ClassId) (σ : xM) (l0 : Nat) (l1 : Nat) (l2 : Int32) (l3 : Nat) : Option (Int32 × xM) :=
  (if xk σ l1 11 = true then (f_X11_trees σ l1).bind (fun p49 => xlet (0 : Int32) (fun v50 => (xloop (f_L_law_s373 aC) 11 (l0, l1, l2, l3, p49, v50, σ)).bind (Sum.elim (fun g => some g) (fun e => f_L_law_j487 aC e.2.2.2 e.1 e.2.1 e.2.2.1)))) else none)
set_option maxHeartbeats 4000000 in
set_option maxRecDepth 20000 in
theorem L_L_law_j364 {G : xG} {π : Nat → Nat} {d C Z : Nat} {Q : xQ} (σ : xM) (l0 : Nat) (l1 : Nat) (l2 : Int32) (l3 : Nat) {x : (Int32 × xM)} (hf : f_L_law_j364 (G.2.2.1) σ l0 l1 l2 l3 = some x) (hR : ∀ g, x = g → ∀ π', xag 4562 π π' → Q (.inl (some (.int g.1))) (g.2) π') : xMach G π J_L_law (d + 410) (C + 11) (Z + 660) 364 [(0, .ref l0), (1, .ref l1), (2, .int l2), (3, .ref l3)] [] σ Q := by
  unfold f_L_law_j364 at hf
  refine xm_aload_n dL_law_364 rfl ?_
  refine xb_if hf (fun hb hf => ?_) (fun _ q => nomatch q)
  obtain ⟨p49, ep49, hf⟩ := xbind hf
  refine xb_callV (As := []) (v0 := (some (.int p49))) (τ0 := σ) dL_law_365 (xc_X11_trees _ _) xcl11 xw_842 xw_843 xw_844 hb rfl (Nat.le_of_ble_eq_true rfl) rfl (Nat.le_of_ble_eq_true rfl) (fun Q1 hq => m_X11_trees (d := d + 409) ep49 (fun g hg => by subst hg; exact hq)) ?_
  refine xm_istore dL_law_368 (by decide) (xm_stL (L' := [(4, .int p49), (0, .ref l0), (1, .ref l1), (2, .int l2), (3, .ref l3)]) rfl ?_)
  refine xm_iconst dL_law_370 (v := 0) (by decide) ?_
  refine xb_topi hf (fun v50 ev50 hf => ?_)
  refine xm_istore dL_law_371 (by decide) (xm_stL (L' := [(5, .int v50), (4, .int p49), (0, .ref l0), (1, .ref l1), (2, .int l2), (3, .ref l3)]) rfl ?_)
  obtain ⟨o, h1, hf⟩ := xbind hf
  refine xm_sub [2, 3, 4, 5, 1, 0] rfl (L_L_law_l373 11 (C := C) (Z := Z) h1 (fun g hg => ?_) (fun e he π hag => ?_))
  · subst hg
    cases hf
    exact hR _ rfl
  · subst he
    rw [Sum.elim_inr] at hf
    have hf : f_L_law_j487 (G.2.2.1) e.2.2.2 e.1 e.2.1 e.2.2.1 = some _ := hf
    have hR := fun g hg π' hp => hR g hg π' (xag_t hag hp)
    exact xm_sub [0, 1, 2] rfl (L_L_law_j487 e.2.2.2 e.1 e.2.1 e.2.2.1 hf hR)
def f_L_law_j138 (aC : Nat → ClassId) (σ : xM) (l0 : Nat) (l1 : Nat) (l2 : Int32) (l3 : Nat) : Option (Int32 × xM) :=
  xlet (0 : Int32) (fun v26 => (xloop (f_L_law_s141 aC ) xF (l0, l1, l2, l3, v26, σ)).bind (Sum.elim (fun g => some g) (fun e => f_L_law_j364 aC e.2.2.2.2 e.1 e.2.1 e.2.2.1 e.2.2.2.1)))
set_option maxHeartbeats 4000000 in
set_option maxRecDepth 20000 in
theorem L_L_law_j138 {G : xG} {π : Nat → Nat} {d C Z : Nat} {Q : xQ} (σ : xM) (l0 : Nat) (l1 : Nat) (l2 : Int32) (l3 : Nat) {x : (Int32 × xM)} (hf : f_L_law_j138 (G.2.2.1) σ l0 l1 l2 l3 = some x) (hR : ∀ g, x = g → ∀ π', xag 4562 π π' → Q (.inl (some (.int g.1))) (g.2) π') : xMach G π J_L_law (d + 410) (C + 11) (Z + 660) 138 [(0, .ref l0), (1, .ref l1), (2, .int l2), (3, .ref l3)] [] σ Q := by
  unfold f_L_law_j138 at hf
  refine xm_iconst dL_law_138 (v := 0) (by decide) ?_
  refine xb_topi hf (fun v26 ev26 hf => ?_)
  refine xm_istore dL_law_139 (by decide) (xm_stL (L' := [(4, .int v26), (0, .ref l0), (1, .ref l1), (2, .int l2), (3, .ref l3)]) rfl ?_)
  obtain ⟨o, h1, hf⟩ := xbind hf
  refine xm_sub [1, 2, 3, 4, 0] rfl (L_L_law_l141  h1 (fun g hg => ?_) (fun e he => ?_))
  · subst hg
    cases hf
    exact hR _ rfl
  · subst he
    rw [Sum.elim_inr] at hf
    have hf : f_L_law_j364 (G.2.2.1) e.2.2.2.2 e.1 e.2.1 e.2.2.1 e.2.2.2.1 = some _ := hf
    exact xm_sub [0, 1, 2, 3] rfl (L_L_law_j364 e.2.2.2.2 e.1 e.2.1 e.2.2.1 e.2.2.2.1 hf hR)
