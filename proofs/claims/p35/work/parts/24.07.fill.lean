def f_L_fill_j302 (aC : Nat → ClassId) (σ : xM) (l0 : Nat) (l1 : Int32) (l2 : Nat) (l3 : Int32) (l4 : Int32) (l5 : Int32) (l6 : Int32) (l7 : Int32) : Option ((Int32 × xM) ⊕ ((Nat × Int32 × Nat × Int32 × Int32 × xM) ⊕ (Nat × Int32 × Nat × Int32 × Int32 × Int32 × Int32 × Int32 × xM))) :=
  xlet (l3 + (1 : Int32)) (fun v13 => xlet (l7 + (1 : Int32)) (fun v14 => some (Sum.inr (Sum.inr (l0, l1, l2, v13, l4, l5, l6, v14, σ)))))
set_option maxHeartbeats 4000000 in
set_option maxRecDepth 20000 in
theorem L_L_fill_j302 {G : xG} {π : Nat → Nat} {d C Z : Nat} {Q : xQ} (σ : xM) (l0 : Nat) (l1 : Int32) (l2 : Nat) (l3 : Int32) (l4 : Int32) (l5 : Int32) (l6 : Int32) (l7 : Int32) {x : ((Int32 × xM) ⊕ ((Nat × Int32 × Nat × Int32 × Int32 × xM) ⊕ (Nat × Int32 × Nat × Int32 × Int32 × Int32 × Int32 × Int32 × xM)))} (hf : f_L_fill_j302 (G.2.2.1) σ l0 l1 l2 l3 l4 l5 l6 l7 = some x) (hR : ∀ g, x = Sum.inl (g) → Q (.inl (some (.int g.1))) (g.2) π) (hE : ∀ e : (Nat × Int32 × Nat × Int32 × Int32 × xM), x = Sum.inr (Sum.inl e) → xMach G π J_L_fill (d + 1) C Z 311 [(0, .ref e.1), (1, .int e.2.1), (2, .ref e.2.2.1), (3, .int e.2.2.2.1), (4, .int e.2.2.2.2.1)] [] e.2.2.2.2.2 Q) (hC : ∀ e : (Nat × Int32 × Nat × Int32 × Int32 × Int32 × Int32 × Int32 × xM), x = Sum.inr (Sum.inr e) → xMach G π J_L_fill (d + 1) C Z 25 [(0, .ref e.1), (1, .int e.2.1), (2, .ref e.2.2.1), (3, .int e.2.2.2.1), (4, .int e.2.2.2.2.1), (5, .int e.2.2.2.2.2.1), (6, .int e.2.2.2.2.2.2.1), (7, .int e.2.2.2.2.2.2.2.1)] [] e.2.2.2.2.2.2.2.2 Q) : xMach G π J_L_fill (d + 1) C Z 302 [(0, .ref l0), (1, .int l1), (2, .ref l2), (3, .int l3), (4, .int l4), (5, .int l5), (6, .int l6), (7, .int l7)] [] σ Q := by
  unfold f_L_fill_j302 at hf
  refine xb_iinc dL_fill_302 rfl (by decide) (by decide) hf (fun v13 ev13 hf => xm_stL (L' := [(3, .int v13), (0, .ref l0), (1, .int l1), (2, .ref l2), (4, .int l4), (5, .int l5), (6, .int l6), (7, .int l7)]) rfl ?_)
  refine xb_iinc dL_fill_305 rfl (by decide) (by decide) hf (fun v14 ev14 hf => xm_stL (L' := [(7, .int v14), (3, .int v13), (0, .ref l0), (1, .int l1), (2, .ref l2), (4, .int l4), (5, .int l5), (6, .int l6)]) rfl ?_)
  refine xm_goto 25 dL_fill_308 (by decide) ?_
  cases hf
  exact xm_sub [2, 3, 4, 1, 5, 6, 7, 0] rfl (hC _ rfl)
def f_L_fill_j270 (aC : Nat → ClassId) (σ : xM) (l0 : Nat) (l1 : Int32) (l2 : Nat) (l3 : Int32) (l4 : Int32) (l6 : Int32) (l7 : Int32) (l9 : Int32) (s0 : Int32) (s1 : Int32) (s2 : Nat) : Option ((Int32 × xM) ⊕ ((Nat × Int32 × Nat × Int32 × Int32 × xM) ⊕ (Nat × Int32 × Nat × Int32 × Int32 × Int32 × Int32 × Int32 × xM))) :=
  (wI σ s2 s1 s0).bind (fun σ11 => xlet (0 : Int32) (fun v12 => (if l9 = (15 : Int32) then (if l6 ≤ l7 then f_L_fill_j302 aC σ11 l0 l1 l2 l3 l4 v12 l6 l7 else xlet (l3 + (1 : Int32)) (fun v15 => (wI σ11 l2 v15 (40 : Int32)).bind (fun σ16 => xlet (l4 + (1 : Int32)) (fun v17 => xlet (1 : Int32) (fun v18 => f_L_fill_j302 aC σ16 l0 l1 l2 v15 v17 v18 l6 l7))))) else f_L_fill_j302 aC σ11 l0 l1 l2 l3 l4 v12 l6 l7)))
set_option maxHeartbeats 4000000 in
set_option maxRecDepth 20000 in
theorem L_L_fill_j270 {G : xG} {π : Nat → Nat} {d C Z : Nat} {Q : xQ} (σ : xM) (l0 : Nat) (l1 : Int32) (l2 : Nat) (l3 : Int32) (l4 : Int32) (l6 : Int32) (l7 : Int32) (l9 : Int32) (s0 : Int32) (s1 : Int32) (s2 : Nat) {x : ((Int32 × xM) ⊕ ((Nat × Int32 × Nat × Int32 × Int32 × xM) ⊕ (Nat × Int32 × Nat × Int32 × Int32 × Int32 × Int32 × Int32 × xM)))} (hf : f_L_fill_j270 (G.2.2.1) σ l0 l1 l2 l3 l4 l6 l7 l9 s0 s1 s2 = some x) (hR : ∀ g, x = Sum.inl (g) → Q (.inl (some (.int g.1))) (g.2) π) (hE : ∀ e : (Nat × Int32 × Nat × Int32 × Int32 × xM), x = Sum.inr (Sum.inl e) → xMach G π J_L_fill (d + 1) C Z 311 [(0, .ref e.1), (1, .int e.2.1), (2, .ref e.2.2.1), (3, .int e.2.2.2.1), (4, .int e.2.2.2.2.1)] [] e.2.2.2.2.2 Q) (hC : ∀ e : (Nat × Int32 × Nat × Int32 × Int32 × Int32 × Int32 × Int32 × xM), x = Sum.inr (Sum.inr e) → xMach G π J_L_fill (d + 1) C Z 25 [(0, .ref e.1), (1, .int e.2.1), (2, .ref e.2.2.1), (3, .int e.2.2.2.1), (4, .int e.2.2.2.2.1), (5, .int e.2.2.2.2.2.1), (6, .int e.2.2.2.2.2.2.1), (7, .int e.2.2.2.2.2.2.2.1)] [] e.2.2.2.2.2.2.2.2 Q) : xMach G π J_L_fill (d + 1) C Z 270 [(0, .ref l0), (1, .int l1), (2, .ref l2), (3, .int l3), (4, .int l4), (6, .int l6), (7, .int l7), (9, .int l9)] [.int s0, .int s1, .ref s2] σ Q := by
  unfold f_L_fill_j270 at hf
  refine xb_iast dL_fill_270 hf (fun σ11 eσ11 hf => ?_)
  refine xm_iconst dL_fill_271 (v := 0) (by decide) ?_
  refine xb_topi hf (fun v12 ev12 hf => ?_)
  refine xm_istore dL_fill_272 (by decide) (xm_stL (L' := [(5, .int v12), (0, .ref l0), (1, .int l1), (2, .ref l2), (3, .int l3), (4, .int l4), (6, .int l6), (7, .int l7), (9, .int l9)]) rfl ?_)
  refine xm_iload dL_fill_274 rfl ?_
  refine xm_bipush dL_fill_276 (v := 15) (by decide) ?_
  refine xb_icmp_ne 302 dL_fill_278 (by decide) hf (fun c hf => ?_) (fun c hf => ?_)
  · exact xm_sub [1, 2, 3, 4, 5, 0, 6, 7] rfl (L_L_fill_j302 σ11 l0 l1 l2 l3 l4 v12 l6 l7 hf hR hE hC)
  · refine xm_iload dL_fill_281 rfl ?_
    refine xm_iload dL_fill_283 rfl ?_
    refine xb_icmp_ge 302 dL_fill_285 (by decide) hf (fun c hf => ?_) (fun c hf => ?_)
    · exact xm_sub [1, 2, 3, 4, 5, 0, 6, 7] rfl (L_L_fill_j302 σ11 l0 l1 l2 l3 l4 v12 l6 l7 hf hR hE hC)
    · refine xb_iinc dL_fill_288 rfl (by decide) (by decide) hf (fun v15 ev15 hf => xm_stL (L' := [(3, .int v15), (5, .int v12), (0, .ref l0), (1, .int l1), (2, .ref l2), (4, .int l4), (6, .int l6), (7, .int l7), (9, .int l9)]) rfl ?_)
      refine xm_aload_n dL_fill_291 rfl ?_
      refine xm_iload_n dL_fill_292 rfl ?_
      refine xm_bipush dL_fill_293 (v := 40) (by decide) ?_
      refine xb_iast dL_fill_295 hf (fun σ16 eσ16 hf => ?_)
      refine xb_iinc dL_fill_296 rfl (by decide) (by decide) hf (fun v17 ev17 hf => xm_stL (L' := [(4, .int v17), (3, .int v15), (5, .int v12), (0, .ref l0), (1, .int l1), (2, .ref l2), (6, .int l6), (7, .int l7), (9, .int l9)]) rfl ?_)
      refine xm_iconst dL_fill_299 (v := 1) (by decide) ?_
      refine xb_topi hf (fun v18 ev18 hf => ?_)
      refine xm_istore dL_fill_300 (by decide) (xm_stL (L' := [(5, .int v18), (4, .int v17), (3, .int v15), (0, .ref l0), (1, .int l1), (2, .ref l2), (6, .int l6), (7, .int l7), (9, .int l9)]) rfl ?_)
      exact xm_sub [3, 4, 5, 2, 1, 0, 6, 7] rfl (L_L_fill_j302 σ16 l0 l1 l2 v15 v17 v18 l6 l7 hf hR hE hC)
def f_L_fill_j237 (aC : Nat → ClassId) (σ : xM) (l0 : Nat) (l1 : Int32) (l2 : Nat) (l3 : Int32) (l4 : Int32) (l6 : Int32) (l7 : Int32) (l8 : Int32) (l9 : Int32) : Option ((Int32 × xM) ⊕ ((Nat × Int32 × Nat × Int32 × Int32 × xM) ⊕ (Nat × Int32 × Nat × Int32 × Int32 × Int32 × Int32 × Int32 × xM))) :=
  (f_L_low σ (l8 >>> ((4 : Int32) &&& 31)) (10 : Int32)).bind (fun p10 => (if (9 : Int32) ≤ l9 then f_L_fill_j270 aC σ l0 l1 l2 l3 l4 l6 l7 l9 ((113 : Int32) + p10) l3 l2 else f_L_fill_j270 aC σ l0 l1 l2 l3 l4 l6 l7 l9 ((48 : Int32) + p10) l3 l2))
set_option maxHeartbeats 4000000 in
set_option maxRecDepth 20000 in
theorem L_L_fill_j237 {G : xG} {π : Nat → Nat} {d C Z : Nat} {Q : xQ} (σ : xM) (l0 : Nat) (l1 : Int32) (l2 : Nat) (l3 : Int32) (l4 : Int32) (l6 : Int32) (l7 : Int32) (l8 : Int32) (l9 : Int32) {x : ((Int32 × xM) ⊕ ((Nat × Int32 × Nat × Int32 × Int32 × xM) ⊕ (Nat × Int32 × Nat × Int32 × Int32 × Int32 × Int32 × Int32 × xM)))} (hf : f_L_fill_j237 (G.2.2.1) σ l0 l1 l2 l3 l4 l6 l7 l8 l9 = some x) (hR : ∀ g, x = Sum.inl (g) → Q (.inl (some (.int g.1))) (g.2) π) (hE : ∀ e : (Nat × Int32 × Nat × Int32 × Int32 × xM), x = Sum.inr (Sum.inl e) → xMach G π J_L_fill (d + 1) C Z 311 [(0, .ref e.1), (1, .int e.2.1), (2, .ref e.2.2.1), (3, .int e.2.2.2.1), (4, .int e.2.2.2.2.1)] [] e.2.2.2.2.2 Q) (hC : ∀ e : (Nat × Int32 × Nat × Int32 × Int32 × Int32 × Int32 × Int32 × xM), x = Sum.inr (Sum.inr e) → xMach G π J_L_fill (d + 1) C Z 25 [(0, .ref e.1), (1, .int e.2.1), (2, .ref e.2.2.1), (3, .int e.2.2.2.1), (4, .int e.2.2.2.2.1), (5, .int e.2.2.2.2.2.1), (6, .int e.2.2.2.2.2.2.1), (7, .int e.2.2.2.2.2.2.2.1)] [] e.2.2.2.2.2.2.2.2 Q) : xMach G π J_L_fill (d + 1) C Z 237 [(0, .ref l0), (1, .int l1), (2, .ref l2), (3, .int l3), (4, .int l4), (6, .int l6), (7, .int l7), (8, .int l8), (9, .int l9)] [] σ Q := by
  unfold f_L_fill_j237 at hf
  refine xm_iload dL_fill_237 rfl ?_
  refine xm_iconst dL_fill_239 (v := 4) (by decide) ?_
  refine xm_ishr dL_fill_240 ?_
  refine xm_bipush dL_fill_241 (v := 10) (by decide) ?_
  obtain ⟨p10, ep10, hf⟩ := xbind hf
  refine xb_callS (As := [.int (l8 >>> ((4 : Int32) &&& 31)), .int (10 : Int32)]) (v0 := (some (.int p10))) (τ0 := σ) dL_fill_243 (xc_L_low _ _) xw_1227 xw_1228 rfl (Nat.le_of_ble_eq_true rfl) rfl (Nat.le_of_ble_eq_true rfl) (fun Q1 hq => m_L_low (d := d + 0) (C := 0) (Z := 0) ep10 (fun g hg => by subst hg; exact hq)) ?_
  refine xm_istore dL_fill_246 (by decide) (xm_stL (L' := [(10, .int p10), (0, .ref l0), (1, .int l1), (2, .ref l2), (3, .int l3), (4, .int l4), (6, .int l6), (7, .int l7), (8, .int l8), (9, .int l9)]) rfl ?_)
  refine xm_aload_n dL_fill_248 rfl ?_
  refine xm_iload_n dL_fill_249 rfl ?_
  refine xm_iload dL_fill_250 rfl ?_
  refine xm_bipush dL_fill_252 (v := 9) (by decide) ?_
  refine xb_icmp_ge 265 dL_fill_254 (by decide) hf (fun c hf => ?_) (fun c hf => ?_)
  · refine xm_bipush dL_fill_265 (v := 113) (by decide) ?_
    refine xm_iload dL_fill_267 rfl ?_
    refine xm_iadd dL_fill_269 ?_
    exact xm_sub [1, 2, 3, 4, 5, 6, 7, 9] rfl (L_L_fill_j270 σ l0 l1 l2 l3 l4 l6 l7 l9 ((113 : Int32) + p10) l3 l2 hf hR hE hC)
  · refine xm_bipush dL_fill_257 (v := 48) (by decide) ?_
    refine xm_iload dL_fill_259 rfl ?_
    refine xm_iadd dL_fill_261 ?_
    refine xm_goto 270 dL_fill_262 (by decide) ?_
    exact xm_sub [1, 2, 3, 4, 5, 6, 7, 9] rfl (L_L_fill_j270 σ l0 l1 l2 l3 l4 l6 l7 l9 ((48 : Int32) + p10) l3 l2 hf hR hE hC)
def f_L_fill_j231 (aC : Nat → ClassId) (σ : xM) (l0 : Nat) (l1 : Int32) (l2 : Nat) (l3 : Int32) (l5 : Int32) (l6 : Int32) (l7 : Int32) (s0 : Int32) (s1 : Int32) : Option ((Int32 × xM) ⊕ ((Nat × Int32 × Nat × Int32 × Int32 × xM) ⊕ (Nat × Int32 × Nat × Int32 × Int32 × Int32 × Int32 × Int32 × xM))) :=
  xlet (s1 + s0) (fun v22 => f_L_fill_j302 aC σ l0 l1 l2 l3 v22 l5 l6 l7)
set_option maxHeartbeats 4000000 in
set_option maxRecDepth 20000 in
theorem L_L_fill_j231 {G : xG} {π : Nat → Nat} {d C Z : Nat} {Q : xQ} (σ : xM) (l0 : Nat) (l1 : Int32) (l2 : Nat) (l3 : Int32) (l5 : Int32) (l6 : Int32) (l7 : Int32) (s0 : Int32) (s1 : Int32) {x : ((Int32 × xM) ⊕ ((Nat × Int32 × Nat × Int32 × Int32 × xM) ⊕ (Nat × Int32 × Nat × Int32 × Int32 × Int32 × Int32 × Int32 × xM)))} (hf : f_L_fill_j231 (G.2.2.1) σ l0 l1 l2 l3 l5 l6 l7 s0 s1 = some x) (hR : ∀ g, x = Sum.inl (g) → Q (.inl (some (.int g.1))) (g.2) π) (hE : ∀ e : (Nat × Int32 × Nat × Int32 × Int32 × xM), x = Sum.inr (Sum.inl e) → xMach G π J_L_fill (d + 1) C Z 311 [(0, .ref e.1), (1, .int e.2.1), (2, .ref e.2.2.1), (3, .int e.2.2.2.1), (4, .int e.2.2.2.2.1)] [] e.2.2.2.2.2 Q) (hC : ∀ e : (Nat × Int32 × Nat × Int32 × Int32 × Int32 × Int32 × Int32 × xM), x = Sum.inr (Sum.inr e) → xMach G π J_L_fill (d + 1) C Z 25 [(0, .ref e.1), (1, .int e.2.1), (2, .ref e.2.2.1), (3, .int e.2.2.2.1), (4, .int e.2.2.2.2.1), (5, .int e.2.2.2.2.2.1), (6, .int e.2.2.2.2.2.2.1), (7, .int e.2.2.2.2.2.2.2.1)] [] e.2.2.2.2.2.2.2.2 Q) : xMach G π J_L_fill (d + 1) C Z 231 [(0, .ref l0), (1, .int l1), (2, .ref l2), (3, .int l3), (5, .int l5), (6, .int l6), (7, .int l7)] [.int s0, .int s1] σ Q := by
  unfold f_L_fill_j231 at hf
  refine xm_iadd dL_fill_231 ?_
  refine xb_topi hf (fun v22 ev22 hf => ?_)
  refine xm_istore dL_fill_232 (by decide) (xm_stL (L' := [(4, .int v22), (0, .ref l0), (1, .int l1), (2, .ref l2), (3, .int l3), (5, .int l5), (6, .int l6), (7, .int l7)]) rfl ?_)
  refine xm_goto 302 dL_fill_234 (by decide) ?_
  exact xm_sub [1, 2, 3, 4, 0, 5, 6, 7] rfl (L_L_fill_j302 σ l0 l1 l2 l3 v22 l5 l6 l7 hf hR hE hC)
def f_L_fill_j218 (aC : Nat → ClassId) (σ : xM) (l0 : Nat) (l1 : Int32) (l2 : Nat) (l3 : Int32) (l4 : Int32) (l5 : Int32) (l6 : Int32) (l7 : Int32) (l9 : Int32) (s0 : Int32) (s1 : Int32) (s2 : Nat) : Option ((Int32 × xM) ⊕ ((Nat × Int32 × Nat × Int32 × Int32 × xM) ⊕ (Nat × Int32 × Nat × Int32 × Int32 × Int32 × Int32 × Int32 × xM))) :=
  (wI σ s2 s1 s0).bind (fun σ21 => (if l9 = (0 : Int32) then f_L_fill_j231 aC σ21 l0 l1 l2 l3 l5 l6 l7 (1 : Int32) l4 else f_L_fill_j231 aC σ21 l0 l1 l2 l3 l5 l6 l7 (0 : Int32) l4))
set_option maxHeartbeats 4000000 in
set_option maxRecDepth 20000 in
theorem L_L_fill_j218 {G : xG} {π : Nat → Nat} {d C Z : Nat} {Q : xQ} (σ : xM) (l0 : Nat) (l1 : Int32) (l2 : Nat) (l3 : Int32) (l4 : Int32) (l5 : Int32) (l6 : Int32) (l7 : Int32) (l9 : Int32) (s0 : Int32) (s1 : Int32) (s2 : Nat) {x : ((Int32 × xM) ⊕ ((Nat × Int32 × Nat × Int32 × Int32 × xM) ⊕ (Nat × Int32 × Nat × Int32 × Int32 × Int32 × Int32 × Int32 × xM)))} (hf : f_L_fill_j218 (G.2.2.1) σ l0 l1 l2 l3 l4 l5 l6 l7 l9 s0 s1 s2 = some x) (hR : ∀ g, x = Sum.inl (g) → Q (.inl (some (.int g.1))) (g.2) π) (hE : ∀ e : (Nat × Int32 × Nat × Int32 × Int32 × xM), x = Sum.inr (Sum.inl e) → xMach G π J_L_fill (d + 1) C Z 311 [(0, .ref e.1), (1, .int e.2.1), (2, .ref e.2.2.1), (3, .int e.2.2.2.1), (4, .int e.2.2.2.2.1)] [] e.2.2.2.2.2 Q) (hC : ∀ e : (Nat × Int32 × Nat × Int32 × Int32 × Int32 × Int32 × Int32 × xM), x = Sum.inr (Sum.inr e) → xMach G π J_L_fill (d + 1) C Z 25 [(0, .ref e.1), (1, .int e.2.1), (2, .ref e.2.2.1), (3, .int e.2.2.2.1), (4, .int e.2.2.2.2.1), (5, .int e.2.2.2.2.2.1), (6, .int e.2.2.2.2.2.2.1), (7, .int e.2.2.2.2.2.2.2.1)] [] e.2.2.2.2.2.2.2.2 Q) : xMach G π J_L_fill (d + 1) C Z 218 [(0, .ref l0), (1, .int l1), (2, .ref l2), (3, .int l3), (4, .int l4), (5, .int l5), (6, .int l6), (7, .int l7), (9, .int l9)] [.int s0, .int s1, .ref s2] σ Q := by
  unfold f_L_fill_j218 at hf
  refine xb_iast dL_fill_218 hf (fun σ21 eσ21 hf => ?_)
  refine xm_iload dL_fill_219 rfl ?_
  refine xm_iload dL_fill_221 rfl ?_
  refine xb_if_ne 230 dL_fill_223 (by decide) hf (fun c hf => ?_) (fun c hf => ?_)
  · refine xm_iconst dL_fill_230 (v := 0) (by decide) ?_
    exact xm_sub [0, 1, 2, 3, 5, 6, 7] rfl (L_L_fill_j231 σ21 l0 l1 l2 l3 l5 l6 l7 (0 : Int32) l4 hf hR hE hC)
  · refine xm_iconst dL_fill_226 (v := 1) (by decide) ?_
    refine xm_goto 231 dL_fill_227 (by decide) ?_
    exact xm_sub [0, 1, 2, 3, 5, 6, 7] rfl (L_L_fill_j231 σ21 l0 l1 l2 l3 l5 l6 l7 (1 : Int32) l4 hf hR hE hC)
def f_L_fill_j163 (aC : Nat → ClassId) (σ : xM) (l0 : Nat) (l1 : Int32) (l2 : Nat) (l3 : Int32) (l4 : Int32) (l6 : Int32) (l7 : Int32) (s0 : Int32) : Option ((Int32 × xM) ⊕ ((Nat × Int32 × Nat × Int32 × Int32 × xM) ⊕ (Nat × Int32 × Nat × Int32 × Int32 × Int32 × Int32 × Int32 × xM))) :=
  f_L_fill_j302 aC σ l0 l1 l2 l3 l4 s0 l6 l7
set_option maxHeartbeats 4000000 in
set_option maxRecDepth 20000 in
theorem L_L_fill_j163 {G : xG} {π : Nat → Nat} {d C Z : Nat} {Q : xQ} (σ : xM) (l0 : Nat) (l1 : Int32) (l2 : Nat) (l3 : Int32) (l4 : Int32) (l6 : Int32) (l7 : Int32) (s0 : Int32) {x : ((Int32 × xM) ⊕ ((Nat × Int32 × Nat × Int32 × Int32 × xM) ⊕ (Nat × Int32 × Nat × Int32 × Int32 × Int32 × Int32 × Int32 × xM)))} (hf : f_L_fill_j163 (G.2.2.1) σ l0 l1 l2 l3 l4 l6 l7 s0 = some x) (hR : ∀ g, x = Sum.inl (g) → Q (.inl (some (.int g.1))) (g.2) π) (hE : ∀ e : (Nat × Int32 × Nat × Int32 × Int32 × xM), x = Sum.inr (Sum.inl e) → xMach G π J_L_fill (d + 1) C Z 311 [(0, .ref e.1), (1, .int e.2.1), (2, .ref e.2.2.1), (3, .int e.2.2.2.1), (4, .int e.2.2.2.2.1)] [] e.2.2.2.2.2 Q) (hC : ∀ e : (Nat × Int32 × Nat × Int32 × Int32 × Int32 × Int32 × Int32 × xM), x = Sum.inr (Sum.inr e) → xMach G π J_L_fill (d + 1) C Z 25 [(0, .ref e.1), (1, .int e.2.1), (2, .ref e.2.2.1), (3, .int e.2.2.2.1), (4, .int e.2.2.2.2.1), (5, .int e.2.2.2.2.2.1), (6, .int e.2.2.2.2.2.2.1), (7, .int e.2.2.2.2.2.2.2.1)] [] e.2.2.2.2.2.2.2.2 Q) : xMach G π J_L_fill (d + 1) C Z 163 [(0, .ref l0), (1, .int l1), (2, .ref l2), (3, .int l3), (4, .int l4), (6, .int l6), (7, .int l7)] [.int s0] σ Q := by
  unfold f_L_fill_j163 at hf
  refine xm_istore dL_fill_163 (by decide) (xm_stL (L' := [(5, .int s0), (0, .ref l0), (1, .int l1), (2, .ref l2), (3, .int l3), (4, .int l4), (6, .int l6), (7, .int l7)]) rfl ?_)
  refine xm_goto 302 dL_fill_165 (by decide) ?_
  exact xm_sub [1, 2, 3, 4, 5, 0, 6, 7] rfl (L_L_fill_j302 σ l0 l1 l2 l3 l4 s0 l6 l7 hf hR hE hC)
def f_L_fill_j162 (aC : Nat → ClassId) (σ : xM) (l0 : Nat) (l1 : Int32) (l2 : Nat) (l3 : Int32) (l4 : Int32) (l6 : Int32) (l7 : Int32) : Option ((Int32 × xM) ⊕ ((Nat × Int32 × Nat × Int32 × Int32 × xM) ⊕ (Nat × Int32 × Nat × Int32 × Int32 × Int32 × Int32 × Int32 × xM))) :=
  f_L_fill_j163 aC σ l0 l1 l2 l3 l4 l6 l7 (0 : Int32)
set_option maxHeartbeats 4000000 in
set_option maxRecDepth 20000 in
theorem L_L_fill_j162 {G : xG} {π : Nat → Nat} {d C Z : Nat} {Q : xQ} (σ : xM) (l0 : Nat) (l1 : Int32) (l2 : Nat) (l3 : Int32) (l4 : Int32) (l6 : Int32) (l7 : Int32) {x : ((Int32 × xM) ⊕ ((Nat × Int32 × Nat × Int32 × Int32 × xM) ⊕ (Nat × Int32 × Nat × Int32 × Int32 × Int32 × Int32 × Int32 × xM)))} (hf : f_L_fill_j162 (G.2.2.1) σ l0 l1 l2 l3 l4 l6 l7 = some x) (hR : ∀ g, x = Sum.inl (g) → Q (.inl (some (.int g.1))) (g.2) π) (hE : ∀ e : (Nat × Int32 × Nat × Int32 × Int32 × xM), x = Sum.inr (Sum.inl e) → xMach G π J_L_fill (d + 1) C Z 311 [(0, .ref e.1), (1, .int e.2.1), (2, .ref e.2.2.1), (3, .int e.2.2.2.1), (4, .int e.2.2.2.2.1)] [] e.2.2.2.2.2 Q) (hC : ∀ e : (Nat × Int32 × Nat × Int32 × Int32 × Int32 × Int32 × Int32 × xM), x = Sum.inr (Sum.inr e) → xMach G π J_L_fill (d + 1) C Z 25 [(0, .ref e.1), (1, .int e.2.1), (2, .ref e.2.2.1), (3, .int e.2.2.2.1), (4, .int e.2.2.2.2.1), (5, .int e.2.2.2.2.2.1), (6, .int e.2.2.2.2.2.2.1), (7, .int e.2.2.2.2.2.2.2.1)] [] e.2.2.2.2.2.2.2.2 Q) : xMach G π J_L_fill (d + 1) C Z 162 [(0, .ref l0), (1, .int l1), (2, .ref l2), (3, .int l3), (4, .int l4), (6, .int l6), (7, .int l7)] [] σ Q := by
  unfold f_L_fill_j162 at hf
  refine xm_iconst dL_fill_162 (v := 0) (by decide) ?_
  exact xm_sub [0, 1, 2, 3, 4, 5, 6] rfl (L_L_fill_j163 σ l0 l1 l2 l3 l4 l6 l7 (0 : Int32) hf hR hE hC)
def f_L_fill_j142 (aC : Nat → ClassId) (σ : xM) (l0 : Nat) (l1 : Int32) (l2 : Nat) (l3 : Int32) (l6 : Int32) (l7 : Int32) (l10 : Int32) (s0 : Int32) (s1 : Int32) : Option ((Int32 × xM) ⊕ ((Nat × Int32 × Nat × Int32 × Int32 × xM) ⊕ (Nat × Int32 × Nat × Int32 × Int32 × Int32 × Int32 × Int32 × xM))) :=
  xlet (s1 - s0) (fun v26 => (if l10 = (0 : Int32) then (aI σ l2 14 l3).bind (fun x27 => (if x27 = (33 : Int32) then f_L_fill_j162 aC σ l0 l1 l2 l3 v26 l6 l7 else f_L_fill_j163 aC σ l0 l1 l2 l3 v26 l6 l7 (1 : Int32))) else f_L_fill_j162 aC σ l0 l1 l2 l3 v26 l6 l7))
set_option maxHeartbeats 4000000 in
set_option maxRecDepth 20000 in
theorem L_L_fill_j142 {G : xG} {π : Nat → Nat} {d C Z : Nat} {Q : xQ} (σ : xM) (l0 : Nat) (l1 : Int32) (l2 : Nat) (l3 : Int32) (l6 : Int32) (l7 : Int32) (l10 : Int32) (s0 : Int32) (s1 : Int32) {x : ((Int32 × xM) ⊕ ((Nat × Int32 × Nat × Int32 × Int32 × xM) ⊕ (Nat × Int32 × Nat × Int32 × Int32 × Int32 × Int32 × Int32 × xM)))} (hf : f_L_fill_j142 (G.2.2.1) σ l0 l1 l2 l3 l6 l7 l10 s0 s1 = some x) (hR : ∀ g, x = Sum.inl (g) → Q (.inl (some (.int g.1))) (g.2) π) (hE : ∀ e : (Nat × Int32 × Nat × Int32 × Int32 × xM), x = Sum.inr (Sum.inl e) → xMach G π J_L_fill (d + 1) C Z 311 [(0, .ref e.1), (1, .int e.2.1), (2, .ref e.2.2.1), (3, .int e.2.2.2.1), (4, .int e.2.2.2.2.1)] [] e.2.2.2.2.2 Q) (hC : ∀ e : (Nat × Int32 × Nat × Int32 × Int32 × Int32 × Int32 × Int32 × xM), x = Sum.inr (Sum.inr e) → xMach G π J_L_fill (d + 1) C Z 25 [(0, .ref e.1), (1, .int e.2.1), (2, .ref e.2.2.1), (3, .int e.2.2.2.1), (4, .int e.2.2.2.2.1), (5, .int e.2.2.2.2.2.1), (6, .int e.2.2.2.2.2.2.1), (7, .int e.2.2.2.2.2.2.2.1)] [] e.2.2.2.2.2.2.2.2 Q) : xMach G π J_L_fill (d + 1) C Z 142 [(0, .ref l0), (1, .int l1), (2, .ref l2), (3, .int l3), (6, .int l6), (7, .int l7), (10, .int l10)] [.int s0, .int s1] σ Q := by
  unfold f_L_fill_j142 at hf
  refine xm_isub dL_fill_142 ?_
  refine xb_topi hf (fun v26 ev26 hf => ?_)
  refine xm_istore dL_fill_143 (by decide) (xm_stL (L' := [(4, .int v26), (0, .ref l0), (1, .int l1), (2, .ref l2), (3, .int l3), (6, .int l6), (7, .int l7), (10, .int l10)]) rfl ?_)
  refine xm_iload dL_fill_145 rfl ?_
  refine xb_if_ne 162 dL_fill_147 (by decide) hf (fun c hf => ?_) (fun c hf => ?_)
  · exact xm_sub [1, 2, 3, 4, 0, 5, 6] rfl (L_L_fill_j162 σ l0 l1 l2 l3 v26 l6 l7 hf hR hE hC)
  · refine xm_aload_n dL_fill_150 rfl ?_
    refine xm_iload_n dL_fill_151 rfl ?_
    refine xb_iald dL_fill_152 hf (fun x27 ex27 hf => ?_)
    refine xm_bipush dL_fill_153 (v := 33) (by decide) ?_
    refine xb_icmp_eq 162 dL_fill_155 (by decide) hf (fun c hf => ?_) (fun c hf => ?_)
    · exact xm_sub [1, 2, 3, 4, 0, 5, 6] rfl (L_L_fill_j162 σ l0 l1 l2 l3 v26 l6 l7 hf hR hE hC)
    · refine xm_iconst dL_fill_158 (v := 1) (by decide) ?_
      refine xm_goto 163 dL_fill_159 (by decide) ?_
      exact xm_sub [1, 2, 3, 4, 0, 5, 6] rfl (L_L_fill_j163 σ l0 l1 l2 l3 v26 l6 l7 (1 : Int32) hf hR hE hC)
def f_L_fill_j129 (aC : Nat → ClassId) (σ : xM) (l0 : Nat) (l1 : Int32) (l2 : Nat) (l3 : Int32) (l4 : Int32) (l6 : Int32) (l7 : Int32) (l10 : Int32) (s0 : Int32) (s1 : Int32) (s2 : Nat) : Option ((Int32 × xM) ⊕ ((Nat × Int32 × Nat × Int32 × Int32 × xM) ⊕ (Nat × Int32 × Nat × Int32 × Int32 × Int32 × Int32 × Int32 × xM))) :=
  (wI σ s2 s1 s0).bind (fun σ25 => (if l10 = (0 : Int32) then f_L_fill_j142 aC σ25 l0 l1 l2 l3 l6 l7 l10 (0 : Int32) l4 else f_L_fill_j142 aC σ25 l0 l1 l2 l3 l6 l7 l10 (1 : Int32) l4))
set_option maxHeartbeats 4000000 in
set_option maxRecDepth 20000 in
theorem L_L_fill_j129 {G : xG} {π : Nat → Nat} {d C Z : Nat} {Q : xQ} (σ : xM) (l0 : Nat) (l1 : Int32) (l2 : Nat) (l3 : Int32) (l4 : Int32) (l6 : Int32) (l7 : Int32) (l10 : Int32) (s0 : Int32) (s1 : Int32) (s2 : Nat) {x : ((Int32 × xM) ⊕ ((Nat × Int32 × Nat × Int32 × Int32 × xM) ⊕ (Nat × Int32 × Nat × Int32 × Int32 × Int32 × Int32 × Int32 × xM)))} (hf : f_L_fill_j129 (G.2.2.1) σ l0 l1 l2 l3 l4 l6 l7 l10 s0 s1 s2 = some x) (hR : ∀ g, x = Sum.inl (g) → Q (.inl (some (.int g.1))) (g.2) π) (hE : ∀ e : (Nat × Int32 × Nat × Int32 × Int32 × xM), x = Sum.inr (Sum.inl e) → xMach G π J_L_fill (d + 1) C Z 311 [(0, .ref e.1), (1, .int e.2.1), (2, .ref e.2.2.1), (3, .int e.2.2.2.1), (4, .int e.2.2.2.2.1)] [] e.2.2.2.2.2 Q) (hC : ∀ e : (Nat × Int32 × Nat × Int32 × Int32 × Int32 × Int32 × Int32 × xM), x = Sum.inr (Sum.inr e) → xMach G π J_L_fill (d + 1) C Z 25 [(0, .ref e.1), (1, .int e.2.1), (2, .ref e.2.2.1), (3, .int e.2.2.2.1), (4, .int e.2.2.2.2.1), (5, .int e.2.2.2.2.2.1), (6, .int e.2.2.2.2.2.2.1), (7, .int e.2.2.2.2.2.2.2.1)] [] e.2.2.2.2.2.2.2.2 Q) : xMach G π J_L_fill (d + 1) C Z 129 [(0, .ref l0), (1, .int l1), (2, .ref l2), (3, .int l3), (4, .int l4), (6, .int l6), (7, .int l7), (10, .int l10)] [.int s0, .int s1, .ref s2] σ Q := by
  unfold f_L_fill_j129 at hf
  refine xb_iast dL_fill_129 hf (fun σ25 eσ25 hf => ?_)
  refine xm_iload dL_fill_130 rfl ?_
  refine xm_iload dL_fill_132 rfl ?_
  refine xb_if_eq 141 dL_fill_134 (by decide) hf (fun c hf => ?_) (fun c hf => ?_)
  · refine xm_iconst dL_fill_141 (v := 0) (by decide) ?_
    exact xm_sub [0, 1, 2, 3, 5, 6, 7] rfl (L_L_fill_j142 σ25 l0 l1 l2 l3 l6 l7 l10 (0 : Int32) l4 hf hR hE hC)
  · refine xm_iconst dL_fill_137 (v := 1) (by decide) ?_
    refine xm_goto 142 dL_fill_138 (by decide) ?_
    exact xm_sub [0, 1, 2, 3, 5, 6, 7] rfl (L_L_fill_j142 σ25 l0 l1 l2 l3 l6 l7 l10 (1 : Int32) l4 hf hR hE hC)
def f_L_fill_j123 (aC : Nat → ClassId) (σ : xM) (l0 : Nat) (l1 : Int32) (l2 : Nat) (l3 : Int32) (l4 : Int32) (l6 : Int32) (l7 : Int32) (l10 : Int32) (s0 : Int32) (s1 : Int32) (s2 : Int32) (s3 : Nat) : Option ((Int32 × xM) ⊕ ((Nat × Int32 × Nat × Int32 × Int32 × xM) ⊕ (Nat × Int32 × Nat × Int32 × Int32 × Int32 × Int32 × Int32 × xM))) :=
  (f_L_low σ s1 s0).bind (fun p23 => (f_L_sign σ p23).bind (fun p24 => f_L_fill_j129 aC σ l0 l1 l2 l3 l4 l6 l7 l10 p24 s2 s3))
set_option maxHeartbeats 4000000 in
set_option maxRecDepth 20000 in
theorem L_L_fill_j123 {G : xG} {π : Nat → Nat} {d C Z : Nat} {Q : xQ} (σ : xM) (l0 : Nat) (l1 : Int32) (l2 : Nat) (l3 : Int32) (l4 : Int32) (l6 : Int32) (l7 : Int32) (l10 : Int32) (s0 : Int32) (s1 : Int32) (s2 : Int32) (s3 : Nat) {x : ((Int32 × xM) ⊕ ((Nat × Int32 × Nat × Int32 × Int32 × xM) ⊕ (Nat × Int32 × Nat × Int32 × Int32 × Int32 × Int32 × Int32 × xM)))} (hf : f_L_fill_j123 (G.2.2.1) σ l0 l1 l2 l3 l4 l6 l7 l10 s0 s1 s2 s3 = some x) (hR : ∀ g, x = Sum.inl (g) → Q (.inl (some (.int g.1))) (g.2) π) (hE : ∀ e : (Nat × Int32 × Nat × Int32 × Int32 × xM), x = Sum.inr (Sum.inl e) → xMach G π J_L_fill (d + 1) C Z 311 [(0, .ref e.1), (1, .int e.2.1), (2, .ref e.2.2.1), (3, .int e.2.2.2.1), (4, .int e.2.2.2.2.1)] [] e.2.2.2.2.2 Q) (hC : ∀ e : (Nat × Int32 × Nat × Int32 × Int32 × Int32 × Int32 × Int32 × xM), x = Sum.inr (Sum.inr e) → xMach G π J_L_fill (d + 1) C Z 25 [(0, .ref e.1), (1, .int e.2.1), (2, .ref e.2.2.1), (3, .int e.2.2.2.1), (4, .int e.2.2.2.2.1), (5, .int e.2.2.2.2.2.1), (6, .int e.2.2.2.2.2.2.1), (7, .int e.2.2.2.2.2.2.2.1)] [] e.2.2.2.2.2.2.2.2 Q) : xMach G π J_L_fill (d + 1) C Z 123 [(0, .ref l0), (1, .int l1), (2, .ref l2), (3, .int l3), (4, .int l4), (6, .int l6), (7, .int l7), (10, .int l10)] [.int s0, .int s1, .int s2, .ref s3] σ Q := by
  unfold f_L_fill_j123 at hf
  obtain ⟨p23, ep23, hf⟩ := xbind hf
  refine xb_callS (As := [.int s1, .int s0]) (v0 := (some (.int p23))) (τ0 := σ) dL_fill_123 (xc_L_low _ _) xw_1227 xw_1228 rfl (Nat.le_of_ble_eq_true rfl) rfl (Nat.le_of_ble_eq_true rfl) (fun Q1 hq => m_L_low (d := d + 0) (C := 0) (Z := 0) ep23 (fun g hg => by subst hg; exact hq)) ?_
  obtain ⟨p24, ep24, hf⟩ := xbind hf
  refine xb_callS (As := [.int p23]) (v0 := (some (.int p24))) (τ0 := σ) dL_fill_126 (xc_L_sign _ _) xw_1231 xw_1232 rfl (Nat.le_of_ble_eq_true rfl) rfl (Nat.le_of_ble_eq_true rfl) (fun Q1 hq => m_L_sign (d := d + 0) (C := 0) (Z := 0) ep24 (fun g hg => by subst hg; exact hq)) ?_
  exact xm_sub [0, 1, 2, 3, 4, 5, 6, 7] rfl (L_L_fill_j129 σ l0 l1 l2 l3 l4 l6 l7 l10 p24 s2 s3 hf hR hE hC)
def f_L_fill_j79 (aC : Nat → ClassId) (σ : xM) (l0 : Nat) (l1 : Int32) (l2 : Nat) (l3 : Int32) (l4 : Int32) (l6 : Int32) (l7 : Int32) (l8 : Int32) (l9 : Int32) (s0 : Int32) : Option ((Int32 × xM) ⊕ ((Nat × Int32 × Nat × Int32 × Int32 × xM) ⊕ (Nat × Int32 × Nat × Int32 × Int32 × Int32 × Int32 × Int32 × xM))) :=
  (if s0 = (0 : Int32) then (if l9 = (15 : Int32) then f_L_fill_j129 aC σ l0 l1 l2 l3 l4 l6 l7 s0 (44 : Int32) l3 l2 else (if (12 : Int32) ≤ l9 then f_L_fill_j123 aC σ l0 l1 l2 l3 l4 l6 l7 s0 (16 : Int32) (l8 >>> ((4 : Int32) &&& 31)) l3 l2 else f_L_fill_j123 aC σ l0 l1 l2 l3 l4 l6 l7 s0 (12 : Int32) (l8 >>> ((4 : Int32) &&& 31)) l3 l2)) else f_L_fill_j129 aC σ l0 l1 l2 l3 l4 l6 l7 s0 (41 : Int32) l3 l2)
set_option maxHeartbeats 4000000 in
set_option maxRecDepth 20000 in
theorem L_L_fill_j79 {G : xG} {π : Nat → Nat} {d C Z : Nat} {Q : xQ} (σ : xM) (l0 : Nat) (l1 : Int32) (l2 : Nat) (l3 : Int32) (l4 : Int32) (l6 : Int32) (l7 : Int32) (l8 : Int32) (l9 : Int32) (s0 : Int32) {x : ((Int32 × xM) ⊕ ((Nat × Int32 × Nat × Int32 × Int32 × xM) ⊕ (Nat × Int32 × Nat × Int32 × Int32 × Int32 × Int32 × Int32 × xM)))} (hf : f_L_fill_j79 (G.2.2.1) σ l0 l1 l2 l3 l4 l6 l7 l8 l9 s0 = some x) (hR : ∀ g, x = Sum.inl (g) → Q (.inl (some (.int g.1))) (g.2) π) (hE : ∀ e : (Nat × Int32 × Nat × Int32 × Int32 × xM), x = Sum.inr (Sum.inl e) → xMach G π J_L_fill (d + 1) C Z 311 [(0, .ref e.1), (1, .int e.2.1), (2, .ref e.2.2.1), (3, .int e.2.2.2.1), (4, .int e.2.2.2.2.1)] [] e.2.2.2.2.2 Q) (hC : ∀ e : (Nat × Int32 × Nat × Int32 × Int32 × Int32 × Int32 × Int32 × xM), x = Sum.inr (Sum.inr e) → xMach G π J_L_fill (d + 1) C Z 25 [(0, .ref e.1), (1, .int e.2.1), (2, .ref e.2.2.1), (3, .int e.2.2.2.1), (4, .int e.2.2.2.2.1), (5, .int e.2.2.2.2.2.1), (6, .int e.2.2.2.2.2.2.1), (7, .int e.2.2.2.2.2.2.2.1)] [] e.2.2.2.2.2.2.2.2 Q) : xMach G π J_L_fill (d + 1) C Z 79 [(0, .ref l0), (1, .int l1), (2, .ref l2), (3, .int l3), (4, .int l4), (6, .int l6), (7, .int l7), (8, .int l8), (9, .int l9)] [.int s0] σ Q := by
  unfold f_L_fill_j79 at hf
  refine xm_istore dL_fill_79 (by decide) (xm_stL (L' := [(10, .int s0), (0, .ref l0), (1, .int l1), (2, .ref l2), (3, .int l3), (4, .int l4), (6, .int l6), (7, .int l7), (8, .int l8), (9, .int l9)]) rfl ?_)
  refine xm_aload_n dL_fill_81 rfl ?_
  refine xm_iload_n dL_fill_82 rfl ?_
  refine xm_iload dL_fill_83 rfl ?_
  refine xb_if_eq 93 dL_fill_85 (by decide) hf (fun c hf => ?_) (fun c hf => ?_)
  · refine xm_iload dL_fill_93 rfl ?_
    refine xm_bipush dL_fill_95 (v := 15) (by decide) ?_
    refine xb_icmp_ne 105 dL_fill_97 (by decide) hf (fun c hf => ?_) (fun c hf => ?_)
    · refine xm_iload dL_fill_105 rfl ?_
      refine xm_iconst dL_fill_107 (v := 4) (by decide) ?_
      refine xm_ishr dL_fill_108 ?_
      refine xm_iload dL_fill_109 rfl ?_
      refine xm_bipush dL_fill_111 (v := 12) (by decide) ?_
      refine xb_icmp_ge 121 dL_fill_113 (by decide) hf (fun c hf => ?_) (fun c hf => ?_)
      · refine xm_bipush dL_fill_121 (v := 16) (by decide) ?_
        exact xm_sub [1, 2, 3, 4, 5, 6, 7, 0] rfl (L_L_fill_j123 σ l0 l1 l2 l3 l4 l6 l7 s0 (16 : Int32) (l8 >>> ((4 : Int32) &&& 31)) l3 l2 hf hR hE hC)
      · refine xm_bipush dL_fill_116 (v := 12) (by decide) ?_
        refine xm_goto 123 dL_fill_118 (by decide) ?_
        exact xm_sub [1, 2, 3, 4, 5, 6, 7, 0] rfl (L_L_fill_j123 σ l0 l1 l2 l3 l4 l6 l7 s0 (12 : Int32) (l8 >>> ((4 : Int32) &&& 31)) l3 l2 hf hR hE hC)
    · refine xm_bipush dL_fill_100 (v := 44) (by decide) ?_
      refine xm_goto 129 dL_fill_102 (by decide) ?_
      exact xm_sub [1, 2, 3, 4, 5, 6, 7, 0] rfl (L_L_fill_j129 σ l0 l1 l2 l3 l4 l6 l7 s0 (44 : Int32) l3 l2 hf hR hE hC)
  · refine xm_bipush dL_fill_88 (v := 41) (by decide) ?_
    refine xm_goto 129 dL_fill_90 (by decide) ?_
    exact xm_sub [1, 2, 3, 4, 5, 6, 7, 0] rfl (L_L_fill_j129 σ l0 l1 l2 l3 l4 l6 l7 s0 (41 : Int32) l3 l2 hf hR hE hC)
def f_L_fill_j78 (aC : Nat → ClassId) (σ : xM) (l0 : Nat) (l1 : Int32) (l2 : Nat) (l3 : Int32) (l4 : Int32) (l6 : Int32) (l7 : Int32) (l8 : Int32) (l9 : Int32) : Option ((Int32 × xM) ⊕ ((Nat × Int32 × Nat × Int32 × Int32 × xM) ⊕ (Nat × Int32 × Nat × Int32 × Int32 × Int32 × Int32 × Int32 × xM))) :=
  f_L_fill_j79 aC σ l0 l1 l2 l3 l4 l6 l7 l8 l9 (0 : Int32)
set_option maxHeartbeats 4000000 in
set_option maxRecDepth 20000 in
theorem L_L_fill_j78 {G : xG} {π : Nat → Nat} {d C Z : Nat} {Q : xQ} (σ : xM) (l0 : Nat) (l1 : Int32) (l2 : Nat) (l3 : Int32) (l4 : Int32) (l6 : Int32) (l7 : Int32) (l8 : Int32) (l9 : Int32) {x : ((Int32 × xM) ⊕ ((Nat × Int32 × Nat × Int32 × Int32 × xM) ⊕ (Nat × Int32 × Nat × Int32 × Int32 × Int32 × Int32 × Int32 × xM)))} (hf : f_L_fill_j78 (G.2.2.1) σ l0 l1 l2 l3 l4 l6 l7 l8 l9 = some x) (hR : ∀ g, x = Sum.inl (g) → Q (.inl (some (.int g.1))) (g.2) π) (hE : ∀ e : (Nat × Int32 × Nat × Int32 × Int32 × xM), x = Sum.inr (Sum.inl e) → xMach G π J_L_fill (d + 1) C Z 311 [(0, .ref e.1), (1, .int e.2.1), (2, .ref e.2.2.1), (3, .int e.2.2.2.1), (4, .int e.2.2.2.2.1)] [] e.2.2.2.2.2 Q) (hC : ∀ e : (Nat × Int32 × Nat × Int32 × Int32 × Int32 × Int32 × Int32 × xM), x = Sum.inr (Sum.inr e) → xMach G π J_L_fill (d + 1) C Z 25 [(0, .ref e.1), (1, .int e.2.1), (2, .ref e.2.2.1), (3, .int e.2.2.2.1), (4, .int e.2.2.2.2.1), (5, .int e.2.2.2.2.2.1), (6, .int e.2.2.2.2.2.2.1), (7, .int e.2.2.2.2.2.2.2.1)] [] e.2.2.2.2.2.2.2.2 Q) : xMach G π J_L_fill (d + 1) C Z 78 [(0, .ref l0), (1, .int l1), (2, .ref l2), (3, .int l3), (4, .int l4), (6, .int l6), (7, .int l7), (8, .int l8), (9, .int l9)] [] σ Q := by
  unfold f_L_fill_j78 at hf
  refine xm_iconst dL_fill_78 (v := 0) (by decide) ?_
  exact xm_sub [0, 1, 2, 3, 4, 5, 6, 7, 8] rfl (L_L_fill_j79 σ l0 l1 l2 l3 l4 l6 l7 l8 l9 (0 : Int32) hf hR hE hC)
def f_L_fill_j37 (aC : Nat → ClassId) (σ : xM) (l0 : Nat) (l1 : Int32) (l2 : Nat) (l3 : Int32) (l4 : Int32) (l5 : Int32) (l6 : Int32) (l7 : Int32) : Option ((Int32 × xM) ⊕ ((Nat × Int32 × Nat × Int32 × Int32 × xM) ⊕ (Nat × Int32 × Nat × Int32 × Int32 × Int32 × Int32 × Int32 × xM))) :=
  (f_L_cell aC σ l0 ((l1 + (1 : Int32)) + l7)).bind (fun p8 => (f_L_low σ p8 (16 : Int32)).bind (fun p9 => (if l5 = (0 : Int32) then (if l4 ≤ (0 : Int32) then f_L_fill_j78 aC σ l0 l1 l2 l3 l4 l6 l7 p8 p9 else (if (4 : Int32) ≤ p9 then f_L_fill_j78 aC σ l0 l1 l2 l3 l4 l6 l7 p8 p9 else f_L_fill_j79 aC σ l0 l1 l2 l3 l4 l6 l7 p8 p9 (1 : Int32))) else (if l6 ≤ l7 then f_L_fill_j237 aC σ l0 l1 l2 l3 l4 l6 l7 p8 p9 else (if (3 : Int32) ≤ p9 then f_L_fill_j237 aC σ l0 l1 l2 l3 l4 l6 l7 p8 p9 else (if p9 = (0 : Int32) then f_L_fill_j218 aC σ l0 l1 l2 l3 l4 l5 l6 l7 p9 (40 : Int32) l3 l2 else (if p9 = (1 : Int32) then f_L_fill_j218 aC σ l0 l1 l2 l3 l4 l5 l6 l7 p9 (45 : Int32) l3 l2 else (f_L_low σ (p8 >>> ((4 : Int32) &&& 31)) (4 : Int32)).bind (fun p19 => (f_L_sign σ ((12 : Int32) + p19)).bind (fun p20 => f_L_fill_j218 aC σ l0 l1 l2 l3 l4 l5 l6 l7 p9 p20 l3 l2)))))))))
set_option maxHeartbeats 4000000 in
set_option maxRecDepth 20000 in
theorem L_L_fill_j37 {G : xG} {π : Nat → Nat} {d C Z : Nat} {Q : xQ} (σ : xM) (l0 : Nat) (l1 : Int32) (l2 : Nat) (l3 : Int32) (l4 : Int32) (l5 : Int32) (l6 : Int32) (l7 : Int32) {x : ((Int32 × xM) ⊕ ((Nat × Int32 × Nat × Int32 × Int32 × xM) ⊕ (Nat × Int32 × Nat × Int32 × Int32 × Int32 × Int32 × Int32 × xM)))} (hf : f_L_fill_j37 (G.2.2.1) σ l0 l1 l2 l3 l4 l5 l6 l7 = some x) (hR : ∀ g, x = Sum.inl (g) → Q (.inl (some (.int g.1))) (g.2) π) (hE : ∀ e : (Nat × Int32 × Nat × Int32 × Int32 × xM), x = Sum.inr (Sum.inl e) → xMach G π J_L_fill (d + 1) C Z 311 [(0, .ref e.1), (1, .int e.2.1), (2, .ref e.2.2.1), (3, .int e.2.2.2.1), (4, .int e.2.2.2.2.1)] [] e.2.2.2.2.2 Q) (hC : ∀ e : (Nat × Int32 × Nat × Int32 × Int32 × Int32 × Int32 × Int32 × xM), x = Sum.inr (Sum.inr e) → xMach G π J_L_fill (d + 1) C Z 25 [(0, .ref e.1), (1, .int e.2.1), (2, .ref e.2.2.1), (3, .int e.2.2.2.1), (4, .int e.2.2.2.2.1), (5, .int e.2.2.2.2.2.1), (6, .int e.2.2.2.2.2.2.1), (7, .int e.2.2.2.2.2.2.2.1)] [] e.2.2.2.2.2.2.2.2 Q) : xMach G π J_L_fill (d + 1) C Z 37 [(0, .ref l0), (1, .int l1), (2, .ref l2), (3, .int l3), (4, .int l4), (5, .int l5), (6, .int l6), (7, .int l7)] [] σ Q := by
  unfold f_L_fill_j37 at hf
  refine xm_aload_n dL_fill_37 rfl ?_
  refine xm_iload_n dL_fill_38 rfl ?_
  refine xm_iconst dL_fill_39 (v := 1) (by decide) ?_
  refine xm_iadd dL_fill_40 ?_
  refine xm_iload dL_fill_41 rfl ?_
  refine xm_iadd dL_fill_43 ?_
  obtain ⟨p8, ep8, hf⟩ := xbind hf
  refine xb_callS (As := [.ref l0, .int ((l1 + (1 : Int32)) + l7)]) (v0 := (some (.int p8))) (τ0 := σ) dL_fill_44 (xc_L_cell _ _) xw_1222 xw_1223 rfl (Nat.le_of_ble_eq_true rfl) rfl (Nat.le_of_ble_eq_true rfl) (fun Q1 hq => m_L_cell (d := d + 0) (C := 0) (Z := 0) ep8 (fun g hg => by subst hg; exact hq)) ?_
  refine xm_istore dL_fill_47 (by decide) (xm_stL (L' := [(8, .int p8), (0, .ref l0), (1, .int l1), (2, .ref l2), (3, .int l3), (4, .int l4), (5, .int l5), (6, .int l6), (7, .int l7)]) rfl ?_)
  refine xm_iload dL_fill_49 rfl ?_
  refine xm_bipush dL_fill_51 (v := 16) (by decide) ?_
  obtain ⟨p9, ep9, hf⟩ := xbind hf
  refine xb_callS (As := [.int p8, .int (16 : Int32)]) (v0 := (some (.int p9))) (τ0 := σ) dL_fill_53 (xc_L_low _ _) xw_1227 xw_1228 rfl (Nat.le_of_ble_eq_true rfl) rfl (Nat.le_of_ble_eq_true rfl) (fun Q1 hq => m_L_low (d := d + 0) (C := 0) (Z := 0) ep9 (fun g hg => by subst hg; exact hq)) ?_
  refine xm_istore dL_fill_56 (by decide) (xm_stL (L' := [(9, .int p9), (8, .int p8), (0, .ref l0), (1, .int l1), (2, .ref l2), (3, .int l3), (4, .int l4), (5, .int l5), (6, .int l6), (7, .int l7)]) rfl ?_)
  refine xm_iload dL_fill_58 rfl ?_
  refine xb_if_ne 168 dL_fill_60 (by decide) hf (fun c hf => ?_) (fun c hf => ?_)
  · refine xm_iload dL_fill_168 rfl ?_
    refine xm_iload dL_fill_170 rfl ?_
    refine xb_icmp_ge 237 dL_fill_172 (by decide) hf (fun c hf => ?_) (fun c hf => ?_)
    · exact xm_sub [2, 3, 4, 5, 6, 8, 9, 1, 0] rfl (L_L_fill_j237 σ l0 l1 l2 l3 l4 l6 l7 p8 p9 hf hR hE hC)
    · refine xm_iload dL_fill_175 rfl ?_
      refine xm_iconst dL_fill_177 (v := 3) (by decide) ?_
      refine xb_icmp_ge 237 dL_fill_178 (by decide) hf (fun c hf => ?_) (fun c hf => ?_)
      · exact xm_sub [2, 3, 4, 5, 6, 8, 9, 1, 0] rfl (L_L_fill_j237 σ l0 l1 l2 l3 l4 l6 l7 p8 p9 hf hR hE hC)
      · refine xm_aload_n dL_fill_181 rfl ?_
        refine xm_iload_n dL_fill_182 rfl ?_
        refine xm_iload dL_fill_183 rfl ?_
        refine xb_if_ne 193 dL_fill_185 (by decide) hf (fun c hf => ?_) (fun c hf => ?_)
        · refine xm_iload dL_fill_193 rfl ?_
          refine xm_iconst dL_fill_195 (v := 1) (by decide) ?_
          refine xb_icmp_ne 204 dL_fill_196 (by decide) hf (fun c hf => ?_) (fun c hf => ?_)
          · refine xm_bipush dL_fill_204 (v := 12) (by decide) ?_
            refine xm_iload dL_fill_206 rfl ?_
            refine xm_iconst dL_fill_208 (v := 4) (by decide) ?_
            refine xm_ishr dL_fill_209 ?_
            refine xm_iconst dL_fill_210 (v := 4) (by decide) ?_
            obtain ⟨p19, ep19, hf⟩ := xbind hf
            refine xb_callS (As := [.int (p8 >>> ((4 : Int32) &&& 31)), .int (4 : Int32)]) (v0 := (some (.int p19))) (τ0 := σ) dL_fill_211 (xc_L_low _ _) xw_1227 xw_1228 rfl (Nat.le_of_ble_eq_true rfl) rfl (Nat.le_of_ble_eq_true rfl) (fun Q1 hq => m_L_low (d := d + 0) (C := 0) (Z := 0) ep19 (fun g hg => by subst hg; exact hq)) ?_
            refine xm_iadd dL_fill_214 ?_
            obtain ⟨p20, ep20, hf⟩ := xbind hf
            refine xb_callS (As := [.int ((12 : Int32) + p19)]) (v0 := (some (.int p20))) (τ0 := σ) dL_fill_215 (xc_L_sign _ _) xw_1231 xw_1232 rfl (Nat.le_of_ble_eq_true rfl) rfl (Nat.le_of_ble_eq_true rfl) (fun Q1 hq => m_L_sign (d := d + 0) (C := 0) (Z := 0) ep20 (fun g hg => by subst hg; exact hq)) ?_
            exact xm_sub [2, 3, 4, 5, 6, 7, 8, 9, 0] rfl (L_L_fill_j218 σ l0 l1 l2 l3 l4 l5 l6 l7 p9 p20 l3 l2 hf hR hE hC)
          · refine xm_bipush dL_fill_199 (v := 45) (by decide) ?_
            refine xm_goto 218 dL_fill_201 (by decide) ?_
            exact xm_sub [2, 3, 4, 5, 6, 7, 8, 9, 0] rfl (L_L_fill_j218 σ l0 l1 l2 l3 l4 l5 l6 l7 p9 (45 : Int32) l3 l2 hf hR hE hC)
        · refine xm_bipush dL_fill_188 (v := 40) (by decide) ?_
          refine xm_goto 218 dL_fill_190 (by decide) ?_
          exact xm_sub [2, 3, 4, 5, 6, 7, 8, 9, 0] rfl (L_L_fill_j218 σ l0 l1 l2 l3 l4 l5 l6 l7 p9 (40 : Int32) l3 l2 hf hR hE hC)
  · refine xm_iload dL_fill_63 rfl ?_
    refine xb_if_le 78 dL_fill_65 (by decide) hf (fun c hf => ?_) (fun c hf => ?_)
    · exact xm_sub [2, 3, 4, 5, 6, 8, 9, 1, 0] rfl (L_L_fill_j78 σ l0 l1 l2 l3 l4 l6 l7 p8 p9 hf hR hE hC)
    · refine xm_iload dL_fill_68 rfl ?_
      refine xm_iconst dL_fill_70 (v := 4) (by decide) ?_
      refine xb_icmp_ge 78 dL_fill_71 (by decide) hf (fun c hf => ?_) (fun c hf => ?_)
      · exact xm_sub [2, 3, 4, 5, 6, 8, 9, 1, 0] rfl (L_L_fill_j78 σ l0 l1 l2 l3 l4 l6 l7 p8 p9 hf hR hE hC)
      · refine xm_iconst dL_fill_74 (v := 1) (by decide) ?_
        refine xm_goto 79 dL_fill_75 (by decide) ?_
        exact xm_sub [2, 3, 4, 5, 6, 8, 9, 1, 0] rfl (L_L_fill_j79 σ l0 l1 l2 l3 l4 l6 l7 p8 p9 (1 : Int32) hf hR hE hC)
def f_L_fill_s25 (aC : Nat → ClassId) (s : (Nat × Int32 × Nat × Int32 × Int32 × Int32 × Int32 × Int32 × xM)) : Option ((Int32 × xM) ⊕ ((Nat × Int32 × Nat × Int32 × Int32 × xM) ⊕ (Nat × Int32 × Nat × Int32 × Int32 × Int32 × Int32 × Int32 × xM))) :=
  xlet s.1 (fun l0 => xlet s.2.1 (fun l1 => xlet s.2.2.1 (fun l2 => xlet s.2.2.2.1 (fun l3 => xlet s.2.2.2.2.1 (fun l4 => xlet s.2.2.2.2.2.1 (fun l5 => xlet s.2.2.2.2.2.2.1 (fun l6 => xlet s.2.2.2.2.2.2.2.1 (fun l7 => xlet s.2.2.2.2.2.2.2.2 (fun σ => (if l7 < l6 then f_L_fill_j37 aC σ l0 l1 l2 l3 l4 l5 l6 l7 else (if l5 = (0 : Int32) then some (Sum.inr (Sum.inl (l0, l1, l2, l3, l4, σ))) else f_L_fill_j37 aC σ l0 l1 l2 l3 l4 l5 l6 l7)))))))))))
set_option maxHeartbeats 4000000 in
set_option maxRecDepth 20000 in
theorem L_L_fill_s25 {G : xG} {π : Nat → Nat} {d C Z : Nat} {Q : xQ} (σ : xM) (l0 : Nat) (l1 : Int32) (l2 : Nat) (l3 : Int32) (l4 : Int32) (l5 : Int32) (l6 : Int32) (l7 : Int32) {x : ((Int32 × xM) ⊕ ((Nat × Int32 × Nat × Int32 × Int32 × xM) ⊕ (Nat × Int32 × Nat × Int32 × Int32 × Int32 × Int32 × Int32 × xM)))} (hf : f_L_fill_s25 (G.2.2.1) (l0, l1, l2, l3, l4, l5, l6, l7, σ) = some x) (hR : ∀ g, x = Sum.inl (g) → Q (.inl (some (.int g.1))) (g.2) π) (hE : ∀ e : (Nat × Int32 × Nat × Int32 × Int32 × xM), x = Sum.inr (Sum.inl e) → xMach G π J_L_fill (d + 1) C Z 311 [(0, .ref e.1), (1, .int e.2.1), (2, .ref e.2.2.1), (3, .int e.2.2.2.1), (4, .int e.2.2.2.2.1)] [] e.2.2.2.2.2 Q) (hC : ∀ e : (Nat × Int32 × Nat × Int32 × Int32 × Int32 × Int32 × Int32 × xM), x = Sum.inr (Sum.inr e) → xMach G π J_L_fill (d + 1) C Z 25 [(0, .ref e.1), (1, .int e.2.1), (2, .ref e.2.2.1), (3, .int e.2.2.2.1), (4, .int e.2.2.2.2.1), (5, .int e.2.2.2.2.2.1), (6, .int e.2.2.2.2.2.2.1), (7, .int e.2.2.2.2.2.2.2.1)] [] e.2.2.2.2.2.2.2.2 Q) : xMach G π J_L_fill (d + 1) C Z 25 [(0, .ref l0), (1, .int l1), (2, .ref l2), (3, .int l3), (4, .int l4), (5, .int l5), (6, .int l6), (7, .int l7)] [] σ Q := by
  have hf : (if l7 < l6 then f_L_fill_j37 (G.2.2.1) σ l0 l1 l2 l3 l4 l5 l6 l7 else (if l5 = (0 : Int32) then some (Sum.inr (Sum.inl (l0, l1, l2, l3, l4, σ))) else f_L_fill_j37 (G.2.2.1) σ l0 l1 l2 l3 l4 l5 l6 l7)) = some x := hf
  refine xm_iload dL_fill_25 rfl ?_
  refine xm_iload dL_fill_27 rfl ?_
  refine xb_icmp_lt 37 dL_fill_29 (by decide) hf (fun c hf => ?_) (fun c hf => ?_)
  · exact xm_sub [0, 1, 2, 3, 4, 5, 6, 7] rfl (L_L_fill_j37 σ l0 l1 l2 l3 l4 l5 l6 l7 hf hR hE hC)
  · refine xm_iload dL_fill_32 rfl ?_
    refine xb_if_eq 311 dL_fill_34 (by decide) hf (fun c hf => ?_) (fun c hf => ?_)
    · cases hf
      exact xm_sub [0, 1, 2, 3, 4] rfl (hE _ rfl)
    · exact xm_sub [0, 1, 2, 3, 4, 5, 6, 7] rfl (L_L_fill_j37 σ l0 l1 l2 l3 l4 l5 l6 l7 hf hR hE hC)
theorem L_L_fill_l25 {G : xG} {π : Nat → Nat} {d C Z : Nat} {Q : xQ} {s0 : (Nat × Int32 × Nat × Int32 × Int32 × Int32 × Int32 × Int32 × xM)} {x : ((Int32 × xM) ⊕ (Nat × Int32 × Nat × Int32 × Int32 × xM))} (h1 : xloop (f_L_fill_s25 (G.2.2.1)) xF s0 = some x) (hR : ∀ g, x = Sum.inl g → Q (.inl (some (.int g.1))) (g.2) π) (hE : ∀ e : (Nat × Int32 × Nat × Int32 × Int32 × xM), x = Sum.inr e → xMach G π J_L_fill (d + 1) C Z 311 [(0, .ref e.1), (1, .int e.2.1), (2, .ref e.2.2.1), (3, .int e.2.2.2.1), (4, .int e.2.2.2.2.1)] [] e.2.2.2.2.2 Q) : xMach G π J_L_fill (d + 1) C Z 25 [(0, .ref s0.1), (1, .int s0.2.1), (2, .ref s0.2.2.1), (3, .int s0.2.2.2.1), (4, .int s0.2.2.2.2.1), (5, .int s0.2.2.2.2.2.1), (6, .int s0.2.2.2.2.2.2.1), (7, .int s0.2.2.2.2.2.2.2.1)] [] s0.2.2.2.2.2.2.2.2 Q := by
  refine xloop_run (M := (fun s : (Nat × Int32 × Nat × Int32 × Int32 × Int32 × Int32 × Int32 × xM) => xMach G π J_L_fill (d + 1) C Z 25 [(0, .ref s.1), (1, .int s.2.1), (2, .ref s.2.2.1), (3, .int s.2.2.2.1), (4, .int s.2.2.2.2.1), (5, .int s.2.2.2.2.2.1), (6, .int s.2.2.2.2.2.2.1), (7, .int s.2.2.2.2.2.2.2.1)] [] s.2.2.2.2.2.2.2.2 Q)) (r := x) ?_ xF _ h1
  intro s y hs hx
  exact L_L_fill_s25 s.2.2.2.2.2.2.2.2 s.1 s.2.1 s.2.2.1 s.2.2.2.1 s.2.2.2.2.1 s.2.2.2.2.2.1 s.2.2.2.2.2.2.1 s.2.2.2.2.2.2.2.1 (x := y) hs (fun g hg => by subst hg; exact hR g hx) (fun e he => by subst he; exact hE e hx) (fun e he => by subst he; exact hx)
def f_L_fill_s314 (aC : Nat → ClassId) (s : (Nat × Int32 × Nat × Int32 × Int32 × Int32 × xM)) : Option ((Int32 × xM) ⊕ ((Nat × Int32 × Nat × Int32 × xM) ⊕ (Nat × Int32 × Nat × Int32 × Int32 × Int32 × xM))) :=
  xlet s.1 (fun l0 => xlet s.2.1 (fun l1 => xlet s.2.2.1 (fun l2 => xlet s.2.2.2.1 (fun l3 => xlet s.2.2.2.2.1 (fun l4 => xlet s.2.2.2.2.2.1 (fun l7 => xlet s.2.2.2.2.2.2 (fun σ => (if l4 ≤ l7 then some (Sum.inr (Sum.inl (l0, l1, l2, l3, σ))) else (wI σ l2 l3 (41 : Int32)).bind (fun σ29 => xlet (l3 + (1 : Int32)) (fun v30 => xlet (l7 + (1 : Int32)) (fun v31 => some (Sum.inr (Sum.inr (l0, l1, l2, v30, l4, v31, σ29))))))))))))))
set_option maxHeartbeats 4000000 in
set_option maxRecDepth 20000 in
theorem L_L_fill_s314 {G : xG} {π : Nat → Nat} {d C Z : Nat} {Q : xQ} (σ : xM) (l0 : Nat) (l1 : Int32) (l2 : Nat) (l3 : Int32) (l4 : Int32) (l7 : Int32) {x : ((Int32 × xM) ⊕ ((Nat × Int32 × Nat × Int32 × xM) ⊕ (Nat × Int32 × Nat × Int32 × Int32 × Int32 × xM)))} (hf : f_L_fill_s314 (G.2.2.1) (l0, l1, l2, l3, l4, l7, σ) = some x) (hR : ∀ g, x = Sum.inl (g) → Q (.inl (some (.int g.1))) (g.2) π) (hE : ∀ e : (Nat × Int32 × Nat × Int32 × xM), x = Sum.inr (Sum.inl e) → xMach G π J_L_fill (d + 1) C Z 335 [(0, .ref e.1), (1, .int e.2.1), (2, .ref e.2.2.1), (3, .int e.2.2.2.1)] [] e.2.2.2.2 Q) (hC : ∀ e : (Nat × Int32 × Nat × Int32 × Int32 × Int32 × xM), x = Sum.inr (Sum.inr e) → xMach G π J_L_fill (d + 1) C Z 314 [(0, .ref e.1), (1, .int e.2.1), (2, .ref e.2.2.1), (3, .int e.2.2.2.1), (4, .int e.2.2.2.2.1), (7, .int e.2.2.2.2.2.1)] [] e.2.2.2.2.2.2 Q) : xMach G π J_L_fill (d + 1) C Z 314 [(0, .ref l0), (1, .int l1), (2, .ref l2), (3, .int l3), (4, .int l4), (7, .int l7)] [] σ Q := by
  have hf : (if l4 ≤ l7 then some (Sum.inr (Sum.inl (l0, l1, l2, l3, σ))) else (wI σ l2 l3 (41 : Int32)).bind (fun σ29 => xlet (l3 + (1 : Int32)) (fun v30 => xlet (l7 + (1 : Int32)) (fun v31 => some (Sum.inr (Sum.inr (l0, l1, l2, v30, l4, v31, σ29))))))) = some x := hf
  refine xm_iload dL_fill_314 rfl ?_
  refine xm_iload dL_fill_316 rfl ?_
  refine xb_icmp_ge 335 dL_fill_318 (by decide) hf (fun c hf => ?_) (fun c hf => ?_)
  · cases hf
    exact xm_sub [0, 1, 2, 3] rfl (hE _ rfl)
  · refine xm_aload_n dL_fill_321 rfl ?_
    refine xm_iload_n dL_fill_322 rfl ?_
    refine xm_bipush dL_fill_323 (v := 41) (by decide) ?_
    refine xb_iast dL_fill_325 hf (fun σ29 eσ29 hf => ?_)
    refine xb_iinc dL_fill_326 rfl (by decide) (by decide) hf (fun v30 ev30 hf => xm_stL (L' := [(3, .int v30), (0, .ref l0), (1, .int l1), (2, .ref l2), (4, .int l4), (7, .int l7)]) rfl ?_)
    refine xb_iinc dL_fill_329 rfl (by decide) (by decide) hf (fun v31 ev31 hf => xm_stL (L' := [(7, .int v31), (3, .int v30), (0, .ref l0), (1, .int l1), (2, .ref l2), (4, .int l4)]) rfl ?_)
    refine xm_goto 314 dL_fill_332 (by decide) ?_
    cases hf
    exact xm_sub [2, 3, 4, 1, 5, 0] rfl (hC _ rfl)
theorem L_L_fill_l314 {G : xG} {π : Nat → Nat} {d C Z : Nat} {Q : xQ} {s0 : (Nat × Int32 × Nat × Int32 × Int32 × Int32 × xM)} {x : ((Int32 × xM) ⊕ (Nat × Int32 × Nat × Int32 × xM))} (h1 : xloop (f_L_fill_s314 (G.2.2.1)) xF s0 = some x) (hR : ∀ g, x = Sum.inl g → Q (.inl (some (.int g.1))) (g.2) π) (hE : ∀ e : (Nat × Int32 × Nat × Int32 × xM), x = Sum.inr e → xMach G π J_L_fill (d + 1) C Z 335 [(0, .ref e.1), (1, .int e.2.1), (2, .ref e.2.2.1), (3, .int e.2.2.2.1)] [] e.2.2.2.2 Q) : xMach G π J_L_fill (d + 1) C Z 314 [(0, .ref s0.1), (1, .int s0.2.1), (2, .ref s0.2.2.1), (3, .int s0.2.2.2.1), (4, .int s0.2.2.2.2.1), (7, .int s0.2.2.2.2.2.1)] [] s0.2.2.2.2.2.2 Q := by
  refine xloop_run (M := (fun s : (Nat × Int32 × Nat × Int32 × Int32 × Int32 × xM) => xMach G π J_L_fill (d + 1) C Z 314 [(0, .ref s.1), (1, .int s.2.1), (2, .ref s.2.2.1), (3, .int s.2.2.2.1), (4, .int s.2.2.2.2.1), (7, .int s.2.2.2.2.2.1)] [] s.2.2.2.2.2.2 Q)) (r := x) ?_ xF _ h1
  intro s y hs hx
  exact L_L_fill_s314 s.2.2.2.2.2.2 s.1 s.2.1 s.2.2.1 s.2.2.2.1 s.2.2.2.2.1 s.2.2.2.2.2.1 (x := y) hs (fun g hg => by subst hg; exact hR g hx) (fun e he => by subst he; exact hE e hx) (fun e he => by subst he; exact hx)
def f_L_fill_j380 (aC : Nat → ClassId) (σ : xM) (l3 : Int32) : Option (Int32 × xM) :=
  some (l3, σ)
set_option maxHeartbeats 4000000 in
set_option maxRecDepth 20000 in
theorem L_L_fill_j380 {G : xG} {π : Nat → Nat} {d C Z : Nat} {Q : xQ} (σ : xM) (l3 : Int32) {x : (Int32 × xM)} (hf : f_L_fill_j380 (G.2.2.1) σ l3 = some x) (hR : ∀ g, x = g → Q (.inl (some (.int g.1))) (g.2) π) : xMach G π J_L_fill (d + 1) C Z 380 [(3, .int l3)] [] σ Q := by
  unfold f_L_fill_j380 at hf
  refine xm_iload_n dL_fill_380 rfl ?_
  cases hf
  exact xm_iret dL_fill_381 rfl (hR _ rfl)
def f_L_fill_j335 (aC : Nat → ClassId) (σ : xM) (l0 : Nat) (l1 : Int32) (l2 : Nat) (l3 : Int32) : Option (Int32 × xM) :=
  (f_L_cell aC σ l0 (l1 + (15 : Int32))).bind (fun p32 => (f_L_low σ p32 (4 : Int32)).bind (fun p33 => (if p33 = (0 : Int32) then (f_L_cell aC σ l0 (l1 + (16 : Int32))).bind (fun p34 => (f_L_low σ p34 l3).bind (fun p35 => (f_L_cell aC σ l0 (l1 + (17 : Int32))).bind (fun p36 => (f_L_low σ p36 (95 : Int32)).bind (fun p37 => (wI σ l2 p35 ((32 : Int32) + p37)).bind (fun σ38 => f_L_fill_j380 aC σ38 l3))))) else f_L_fill_j380 aC σ l3)))
set_option maxHeartbeats 4000000 in
set_option maxRecDepth 20000 in
theorem L_L_fill_j335 {G : xG} {π : Nat → Nat} {d C Z : Nat} {Q : xQ} (σ : xM) (l0 : Nat) (l1 : Int32) (l2 : Nat) (l3 : Int32) {x : (Int32 × xM)} (hf : f_L_fill_j335 (G.2.2.1) σ l0 l1 l2 l3 = some x) (hR : ∀ g, x = g → Q (.inl (some (.int g.1))) (g.2) π) : xMach G π J_L_fill (d + 1) C Z 335 [(0, .ref l0), (1, .int l1), (2, .ref l2), (3, .int l3)] [] σ Q := by
  unfold f_L_fill_j335 at hf
  refine xm_aload_n dL_fill_335 rfl ?_
  refine xm_iload_n dL_fill_336 rfl ?_
  refine xm_bipush dL_fill_337 (v := 15) (by decide) ?_
  refine xm_iadd dL_fill_339 ?_
  obtain ⟨p32, ep32, hf⟩ := xbind hf
  refine xb_callS (As := [.ref l0, .int (l1 + (15 : Int32))]) (v0 := (some (.int p32))) (τ0 := σ) dL_fill_340 (xc_L_cell _ _) xw_1222 xw_1223 rfl (Nat.le_of_ble_eq_true rfl) rfl (Nat.le_of_ble_eq_true rfl) (fun Q1 hq => m_L_cell (d := d + 0) (C := 0) (Z := 0) ep32 (fun g hg => by subst hg; exact hq)) ?_
  refine xm_iconst dL_fill_343 (v := 4) (by decide) ?_
  obtain ⟨p33, ep33, hf⟩ := xbind hf
  refine xb_callS (As := [.int p32, .int (4 : Int32)]) (v0 := (some (.int p33))) (τ0 := σ) dL_fill_344 (xc_L_low _ _) xw_1227 xw_1228 rfl (Nat.le_of_ble_eq_true rfl) rfl (Nat.le_of_ble_eq_true rfl) (fun Q1 hq => m_L_low (d := d + 0) (C := 0) (Z := 0) ep33 (fun g hg => by subst hg; exact hq)) ?_
  refine xb_if_ne 380 dL_fill_347 (by decide) hf (fun c hf => ?_) (fun c hf => ?_)
  · exact xm_sub [3] rfl (L_L_fill_j380 σ l3 hf hR)
  · refine xm_aload_n dL_fill_350 rfl ?_
    refine xm_aload_n dL_fill_351 rfl ?_
    refine xm_iload_n dL_fill_352 rfl ?_
    refine xm_bipush dL_fill_353 (v := 16) (by decide) ?_
    refine xm_iadd dL_fill_355 ?_
    obtain ⟨p34, ep34, hf⟩ := xbind hf
    refine xb_callS (As := [.ref l0, .int (l1 + (16 : Int32))]) (v0 := (some (.int p34))) (τ0 := σ) dL_fill_356 (xc_L_cell _ _) xw_1222 xw_1223 rfl (Nat.le_of_ble_eq_true rfl) rfl (Nat.le_of_ble_eq_true rfl) (fun Q1 hq => m_L_cell (d := d + 0) (C := 0) (Z := 0) ep34 (fun g hg => by subst hg; exact hq)) ?_
    refine xm_iload_n dL_fill_359 rfl ?_
    obtain ⟨p35, ep35, hf⟩ := xbind hf
    refine xb_callS (As := [.int p34, .int l3]) (v0 := (some (.int p35))) (τ0 := σ) dL_fill_360 (xc_L_low _ _) xw_1227 xw_1228 rfl (Nat.le_of_ble_eq_true rfl) rfl (Nat.le_of_ble_eq_true rfl) (fun Q1 hq => m_L_low (d := d + 0) (C := 0) (Z := 0) ep35 (fun g hg => by subst hg; exact hq)) ?_
    refine xm_bipush dL_fill_363 (v := 32) (by decide) ?_
    refine xm_aload_n dL_fill_365 rfl ?_
    refine xm_iload_n dL_fill_366 rfl ?_
    refine xm_bipush dL_fill_367 (v := 17) (by decide) ?_
    refine xm_iadd dL_fill_369 ?_
    obtain ⟨p36, ep36, hf⟩ := xbind hf
    refine xb_callS (As := [.ref l0, .int (l1 + (17 : Int32))]) (v0 := (some (.int p36))) (τ0 := σ) dL_fill_370 (xc_L_cell _ _) xw_1222 xw_1223 rfl (Nat.le_of_ble_eq_true rfl) rfl (Nat.le_of_ble_eq_true rfl) (fun Q1 hq => m_L_cell (d := d + 0) (C := 0) (Z := 0) ep36 (fun g hg => by subst hg; exact hq)) ?_
    refine xm_bipush dL_fill_373 (v := 95) (by decide) ?_
    obtain ⟨p37, ep37, hf⟩ := xbind hf
    refine xb_callS (As := [.int p36, .int (95 : Int32)]) (v0 := (some (.int p37))) (τ0 := σ) dL_fill_375 (xc_L_low _ _) xw_1227 xw_1228 rfl (Nat.le_of_ble_eq_true rfl) rfl (Nat.le_of_ble_eq_true rfl) (fun Q1 hq => m_L_low (d := d + 0) (C := 0) (Z := 0) ep37 (fun g hg => by subst hg; exact hq)) ?_
    refine xm_iadd dL_fill_378 ?_
    refine xb_iast dL_fill_379 hf (fun σ38 eσ38 hf => ?_)
    exact xm_sub [3] rfl (L_L_fill_j380 σ38 l3 hf hR)
def f_L_fill_j311 (aC : Nat → ClassId) (σ : xM) (l0 : Nat) (l1 : Int32) (l2 : Nat) (l3 : Int32) (l4 : Int32) : Option (Int32 × xM) :=
  xlet (0 : Int32) (fun v28 => (xloop (f_L_fill_s314 aC ) xF (l0, l1, l2, l3, l4, v28, σ)).bind (Sum.elim (fun g => some g) (fun e => f_L_fill_j335 aC e.2.2.2.2 e.1 e.2.1 e.2.2.1 e.2.2.2.1)))
set_option maxHeartbeats 4000000 in
set_option maxRecDepth 20000 in
theorem L_L_fill_j311 {G : xG} {π : Nat → Nat} {d C Z : Nat} {Q : xQ} (σ : xM) (l0 : Nat) (l1 : Int32) (l2 : Nat) (l3 : Int32) (l4 : Int32) {x : (Int32 × xM)} (hf : f_L_fill_j311 (G.2.2.1) σ l0 l1 l2 l3 l4 = some x) (hR : ∀ g, x = g → Q (.inl (some (.int g.1))) (g.2) π) : xMach G π J_L_fill (d + 1) C Z 311 [(0, .ref l0), (1, .int l1), (2, .ref l2), (3, .int l3), (4, .int l4)] [] σ Q := by
  unfold f_L_fill_j311 at hf
  refine xm_iconst dL_fill_311 (v := 0) (by decide) ?_
  refine xb_topi hf (fun v28 ev28 hf => ?_)
  refine xm_istore dL_fill_312 (by decide) (xm_stL (L' := [(7, .int v28), (0, .ref l0), (1, .int l1), (2, .ref l2), (3, .int l3), (4, .int l4)]) rfl ?_)
  obtain ⟨o, h1, hf⟩ := xbind hf
  refine xm_sub [1, 2, 3, 4, 5, 0] rfl (L_L_fill_l314  h1 (fun g hg => ?_) (fun e he => ?_))
  · subst hg
    cases hf
    exact hR _ rfl
  · subst he
    rw [Sum.elim_inr] at hf
    have hf : f_L_fill_j335 (G.2.2.1) e.2.2.2.2 e.1 e.2.1 e.2.2.1 e.2.2.2.1 = some _ := hf
    exact xm_sub [0, 1, 2, 3] rfl (L_L_fill_j335 e.2.2.2.2 e.1 e.2.1 e.2.2.1 e.2.2.2.1 hf hR)
def f_L_fill (aC : Nat → ClassId) (σ : xM) (l0 : Nat) (l1 : Int32) (l2 : Nat) : Option (Int32 × xM) :=
  xlet (0 : Int32) (fun v1 => xlet (0 : Int32) (fun v2 => xlet (1 : Int32) (fun v3 => (f_L_cell aC σ l0 l1).bind (fun p4 => (f_L_low σ p4 (9 : Int32)).bind (fun p5 => xlet ((1 : Int32) + p5) (fun v6 => xlet (0 : Int32) (fun v7 => (xloop (f_L_fill_s25 aC ) xF (l0, l1, l2, v1, v2, v3, v6, v7, σ)).bind (Sum.elim (fun g => some g) (fun e => f_L_fill_j311 aC e.2.2.2.2.2 e.1 e.2.1 e.2.2.1 e.2.2.2.1 e.2.2.2.2.1)))))))))
set_option maxHeartbeats 4000000 in
set_option maxRecDepth 20000 in
theorem m_L_fill {G : xG} {π : Nat → Nat} {d C Z : Nat} {Q : xQ} {σ : xM} {l0 : Nat} {l1 : Int32} {l2 : Nat} {x : (Int32 × xM)} (hf : f_L_fill (G.2.2.1) σ l0 l1 l2 = some x) (hR : ∀ g, x = g → Q (.inl (some (.int g.1))) (g.2) π) : xMach G π J_L_fill (d + 1) C Z 0 (lv_args 0 [.ref l0, .int l1, .ref l2]) [] σ Q := by
  unfold f_L_fill at hf
  refine xm_stL (L' := [(0, .ref l0), (1, .int l1), (2, .ref l2)]) rfl ?_
  refine xm_iconst dL_fill_0 (v := 0) (by decide) ?_
  refine xb_topi hf (fun v1 ev1 hf => ?_)
  refine xm_istore_n dL_fill_1 (by decide) (xm_stL (L' := [(3, .int v1), (0, .ref l0), (1, .int l1), (2, .ref l2)]) rfl ?_)
  refine xm_iconst dL_fill_2 (v := 0) (by decide) ?_
  refine xb_topi hf (fun v2 ev2 hf => ?_)
  refine xm_istore dL_fill_3 (by decide) (xm_stL (L' := [(4, .int v2), (3, .int v1), (0, .ref l0), (1, .int l1), (2, .ref l2)]) rfl ?_)
  refine xm_iconst dL_fill_5 (v := 1) (by decide) ?_
  refine xb_topi hf (fun v3 ev3 hf => ?_)
  refine xm_istore dL_fill_6 (by decide) (xm_stL (L' := [(5, .int v3), (4, .int v2), (3, .int v1), (0, .ref l0), (1, .int l1), (2, .ref l2)]) rfl ?_)
  refine xm_iconst dL_fill_8 (v := 1) (by decide) ?_
  refine xm_aload_n dL_fill_9 rfl ?_
  refine xm_iload_n dL_fill_10 rfl ?_
  obtain ⟨p4, ep4, hf⟩ := xbind hf
  refine xb_callS (As := [.ref l0, .int l1]) (v0 := (some (.int p4))) (τ0 := σ) dL_fill_11 (xc_L_cell _ _) xw_1222 xw_1223 rfl (Nat.le_of_ble_eq_true rfl) rfl (Nat.le_of_ble_eq_true rfl) (fun Q1 hq => m_L_cell (d := d + 0) (C := 0) (Z := 0) ep4 (fun g hg => by subst hg; exact hq)) ?_
  refine xm_bipush dL_fill_14 (v := 9) (by decide) ?_
  obtain ⟨p5, ep5, hf⟩ := xbind hf
  refine xb_callS (As := [.int p4, .int (9 : Int32)]) (v0 := (some (.int p5))) (τ0 := σ) dL_fill_16 (xc_L_low _ _) xw_1227 xw_1228 rfl (Nat.le_of_ble_eq_true rfl) rfl (Nat.le_of_ble_eq_true rfl) (fun Q1 hq => m_L_low (d := d + 0) (C := 0) (Z := 0) ep5 (fun g hg => by subst hg; exact hq)) ?_
  refine xm_iadd dL_fill_19 ?_
  refine xb_topi hf (fun v6 ev6 hf => ?_)
  refine xm_istore dL_fill_20 (by decide) (xm_stL (L' := [(6, .int v6), (5, .int v3), (4, .int v2), (3, .int v1), (0, .ref l0), (1, .int l1), (2, .ref l2)]) rfl ?_)
  refine xm_iconst dL_fill_22 (v := 0) (by decide) ?_
  refine xb_topi hf (fun v7 ev7 hf => ?_)
  refine xm_istore dL_fill_23 (by decide) (xm_stL (L' := [(7, .int v7), (6, .int v6), (5, .int v3), (4, .int v2), (3, .int v1), (0, .ref l0), (1, .int l1), (2, .ref l2)]) rfl ?_)
  obtain ⟨o, h1, hf⟩ := xbind hf
  refine xm_sub [5, 6, 7, 4, 3, 2, 1, 0] rfl (L_L_fill_l25  h1 (fun g hg => ?_) (fun e he => ?_))
  · subst hg
    cases hf
    exact hR _ rfl
  · subst he
    rw [Sum.elim_inr] at hf
    have hf : f_L_fill_j311 (G.2.2.1) e.2.2.2.2.2 e.1 e.2.1 e.2.2.1 e.2.2.2.1 e.2.2.2.2.1 = some _ := hf
    exact xm_sub [0, 1, 2, 3, 4] rfl (L_L_fill_j311 e.2.2.2.2.2 e.1 e.2.1 e.2.2.1 e.2.2.2.1 e.2.2.2.2.1 hf hR)
-- law: faulty
