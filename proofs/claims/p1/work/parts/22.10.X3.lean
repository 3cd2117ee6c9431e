-- Rankwise$Gatherer.addLeaf(LRankwise$Tree;II)Z
def f_X3_addLeaf_j131 (σ : xM)  : Option (Int32 × xM) :=
  some ((0 : Int32), σ)
set_option maxHeartbeats 4000000 in
set_option maxRecDepth 20000 in
theorem L_X3_addLeaf_j131 {G : xG} {π : Nat → Nat} {d C Z : Nat} {Q : xQ} (σ : xM)  {x : (Int32 × xM)} (hf : f_X3_addLeaf_j131 σ = some x) (hR : ∀ g, x = g → Q (.inl (some (.int g.1))) (g.2) π) : xMach G π J_X3_addLeaf (d + 3) C Z 131 [] [] σ Q := by
  unfold f_X3_addLeaf_j131 at hf
  refine xm_iconst dX3_addLeaf_131 (v := 0) (by decide) ?_
  cases hf
  exact xm_zret dX3_addLeaf_132 rfl rfl (hR _ rfl)
def f_X3_addLeaf_j178 (σ : xM) (l0 : Nat) (l1 : Nat) (l2 : Int32) (l4 : Int32) (l5 : Int32) (l7 : Int32) (l8 : Int32) (l9 : Int32) (s0 : Int64) (s1 : Nat) : Option ((Int32 × xM) ⊕ ((Nat × Nat × Int32 × Int32 × Int32 × Int32 × Int32 × xM) ⊕ (Nat × Nat × Int32 × Int32 × Int32 × Int32 × Int32 × Int32 × xM))) :=
  (if xk σ s1 2 = true then (f_X2_set σ s1 s0).bind (fun p16 => xlet (l9 + (1 : Int32)) (fun v17 => some (Sum.inr (Sum.inr (l0, l1, l2, l4, l5, l7, l8, v17, p16))))) else none)
set_option maxHeartbeats 4000000 in
set_option maxRecDepth 20000 in
theorem L_X3_addLeaf_j178 {G : xG} {π : Nat → Nat} {d C Z : Nat} {Q : xQ} (σ : xM) (l0 : Nat) (l1 : Nat) (l2 : Int32) (l4 : Int32) (l5 : Int32) (l7 : Int32) (l8 : Int32) (l9 : Int32) (s0 : Int64) (s1 : Nat) {x : ((Int32 × xM) ⊕ ((Nat × Nat × Int32 × Int32 × Int32 × Int32 × Int32 × xM) ⊕ (Nat × Nat × Int32 × Int32 × Int32 × Int32 × Int32 × Int32 × xM)))} (hf : f_X3_addLeaf_j178 σ l0 l1 l2 l4 l5 l7 l8 l9 s0 s1 = some x) (hR : ∀ g, x = Sum.inl (g) → Q (.inl (some (.int g.1))) (g.2) π) (hE : ∀ e : (Nat × Nat × Int32 × Int32 × Int32 × Int32 × Int32 × xM), x = Sum.inr (Sum.inl e) → xMach G π J_X3_addLeaf (d + 3) C Z 187 [(0, .ref e.1), (1, .ref e.2.1), (2, .int e.2.2.1), (4, .int e.2.2.2.1), (5, .int e.2.2.2.2.1), (7, .int e.2.2.2.2.2.1), (8, .int e.2.2.2.2.2.2.1)] [] e.2.2.2.2.2.2.2 Q) (hC : ∀ e : (Nat × Nat × Int32 × Int32 × Int32 × Int32 × Int32 × Int32 × xM), x = Sum.inr (Sum.inr e) → xMach G π J_X3_addLeaf (d + 3) C Z 145 [(0, .ref e.1), (1, .ref e.2.1), (2, .int e.2.2.1), (4, .int e.2.2.2.1), (5, .int e.2.2.2.2.1), (7, .int e.2.2.2.2.2.1), (8, .int e.2.2.2.2.2.2.1), (9, .int e.2.2.2.2.2.2.2.1)] [] e.2.2.2.2.2.2.2.2 Q) : xMach G π J_X3_addLeaf (d + 3) C Z 178 [(0, .ref l0), (1, .ref l1), (2, .int l2), (4, .int l4), (5, .int l5), (7, .int l7), (8, .int l8), (9, .int l9)] [.long s0, .ref s1] σ Q := by
  unfold f_X3_addLeaf_j178 at hf
  refine xb_if hf (fun hb hf => ?_) (fun _ q => nomatch q)
  obtain ⟨p16, ep16, hf⟩ := xbind hf
  refine xb_callV (As := [.long s0]) (v0 := none) (τ0 := p16) dX3_addLeaf_178 (xc_X2_set _ _) xcl2 xw_1572 xw_1250 xw_1251 hb rfl (Nat.le_of_ble_eq_true rfl) rfl (Nat.le_of_ble_eq_true rfl) (fun Q1 hq => m_X2_set (d := d + 1) ep16 (fun g hg => by subst hg; exact hq)) ?_
  refine xb_iinc dX3_addLeaf_181 rfl (by decide) (by decide) hf (fun v17 ev17 hf => xm_stL (L' := [(9, .int v17), (0, .ref l0), (1, .ref l1), (2, .int l2), (4, .int l4), (5, .int l5), (7, .int l7), (8, .int l8)]) rfl ?_)
  refine xm_goto 145 dX3_addLeaf_184 (by decide) ?_
  cases hf
  exact xm_sub [1, 2, 3, 4, 5, 6, 7, 0] rfl (hC _ rfl)
def f_X3_addLeaf_j177 (σ : xM) (l0 : Nat) (l1 : Nat) (l2 : Int32) (l4 : Int32) (l5 : Int32) (l7 : Int32) (l8 : Int32) (l9 : Int32) (s0 : Nat) : Option ((Int32 × xM) ⊕ ((Nat × Nat × Int32 × Int32 × Int32 × Int32 × Int32 × xM) ⊕ (Nat × Nat × Int32 × Int32 × Int32 × Int32 × Int32 × Int32 × xM))) :=
  f_X3_addLeaf_j178 σ l0 l1 l2 l4 l5 l7 l8 l9 (0 : Int64) s0
set_option maxHeartbeats 4000000 in
set_option maxRecDepth 20000 in
theorem L_X3_addLeaf_j177 {G : xG} {π : Nat → Nat} {d C Z : Nat} {Q : xQ} (σ : xM) (l0 : Nat) (l1 : Nat) (l2 : Int32) (l4 : Int32) (l5 : Int32) (l7 : Int32) (l8 : Int32) (l9 : Int32) (s0 : Nat) {x : ((Int32 × xM) ⊕ ((Nat × Nat × Int32 × Int32 × Int32 × Int32 × Int32 × xM) ⊕ (Nat × Nat × Int32 × Int32 × Int32 × Int32 × Int32 × Int32 × xM)))} (hf : f_X3_addLeaf_j177 σ l0 l1 l2 l4 l5 l7 l8 l9 s0 = some x) (hR : ∀ g, x = Sum.inl (g) → Q (.inl (some (.int g.1))) (g.2) π) (hE : ∀ e : (Nat × Nat × Int32 × Int32 × Int32 × Int32 × Int32 × xM), x = Sum.inr (Sum.inl e) → xMach G π J_X3_addLeaf (d + 3) C Z 187 [(0, .ref e.1), (1, .ref e.2.1), (2, .int e.2.2.1), (4, .int e.2.2.2.1), (5, .int e.2.2.2.2.1), (7, .int e.2.2.2.2.2.1), (8, .int e.2.2.2.2.2.2.1)] [] e.2.2.2.2.2.2.2 Q) (hC : ∀ e : (Nat × Nat × Int32 × Int32 × Int32 × Int32 × Int32 × Int32 × xM), x = Sum.inr (Sum.inr e) → xMach G π J_X3_addLeaf (d + 3) C Z 145 [(0, .ref e.1), (1, .ref e.2.1), (2, .int e.2.2.1), (4, .int e.2.2.2.1), (5, .int e.2.2.2.2.1), (7, .int e.2.2.2.2.2.1), (8, .int e.2.2.2.2.2.2.1), (9, .int e.2.2.2.2.2.2.2.1)] [] e.2.2.2.2.2.2.2.2 Q) : xMach G π J_X3_addLeaf (d + 3) C Z 177 [(0, .ref l0), (1, .ref l1), (2, .int l2), (4, .int l4), (5, .int l5), (7, .int l7), (8, .int l8), (9, .int l9)] [.ref s0] σ Q := by
  unfold f_X3_addLeaf_j177 at hf
  refine xm_lconst dX3_addLeaf_177 (v := 0) (by decide) ?_
  exact xm_sub [0, 1, 2, 3, 4, 5, 6, 7] rfl (L_X3_addLeaf_j178 σ l0 l1 l2 l4 l5 l7 l8 l9 (0 : Int64) s0 hf hR hE hC)
def f_X3_addLeaf_s145 (s : (Nat × Nat × Int32 × Int32 × Int32 × Int32 × Int32 × Int32 × xM)) : Option ((Int32 × xM) ⊕ ((Nat × Nat × Int32 × Int32 × Int32 × Int32 × Int32 × xM) ⊕ (Nat × Nat × Int32 × Int32 × Int32 × Int32 × Int32 × Int32 × xM))) :=
  xlet s.1 (fun l0 => xlet s.2.1 (fun l1 => xlet s.2.2.1 (fun l2 => xlet s.2.2.2.1 (fun l4 => xlet s.2.2.2.2.1 (fun l5 => xlet s.2.2.2.2.2.1 (fun l7 => xlet s.2.2.2.2.2.2.1 (fun l8 => xlet s.2.2.2.2.2.2.2.1 (fun l9 => xlet s.2.2.2.2.2.2.2.2 (fun σ => (if (9 : Int32) ≤ l9 then some (Sum.inr (Sum.inl (l0, l1, l2, l4, l5, l7, l8, σ))) else (gR σ l0 3 2).bind (fun x14 => ((aR σ x14 16 (l8 + l9)).bind id).bind (fun x15 => (if l5 = (0 : Int32) then f_X3_addLeaf_j177 σ l0 l1 l2 l4 l5 l7 l8 l9 x15 else (if l9 = (1 : Int32) then f_X3_addLeaf_j178 σ l0 l1 l2 l4 l5 l7 l8 l9 (1 : Int64) x15 else f_X3_addLeaf_j177 σ l0 l1 l2 l4 l5 l7 l8 l9 x15))))))))))))))
set_option maxHeartbeats 4000000 in
set_option maxRecDepth 20000 in
theorem L_X3_addLeaf_s145 {G : xG} {π : Nat → Nat} {d C Z : Nat} {Q : xQ} (σ : xM) (l0 : Nat) (l1 : Nat) (l2 : Int32) (l4 : Int32) (l5 : Int32) (l7 : Int32) (l8 : Int32) (l9 : Int32) {x : ((Int32 × xM) ⊕ ((Nat × Nat × Int32 × Int32 × Int32 × Int32 × Int32 × xM) ⊕ (Nat × Nat × Int32 × Int32 × Int32 × Int32 × Int32 × Int32 × xM)))} (hf : f_X3_addLeaf_s145 (l0, l1, l2, l4, l5, l7, l8, l9, σ) = some x) (hR : ∀ g, x = Sum.inl (g) → Q (.inl (some (.int g.1))) (g.2) π) (hE : ∀ e : (Nat × Nat × Int32 × Int32 × Int32 × Int32 × Int32 × xM), x = Sum.inr (Sum.inl e) → xMach G π J_X3_addLeaf (d + 3) C Z 187 [(0, .ref e.1), (1, .ref e.2.1), (2, .int e.2.2.1), (4, .int e.2.2.2.1), (5, .int e.2.2.2.2.1), (7, .int e.2.2.2.2.2.1), (8, .int e.2.2.2.2.2.2.1)] [] e.2.2.2.2.2.2.2 Q) (hC : ∀ e : (Nat × Nat × Int32 × Int32 × Int32 × Int32 × Int32 × Int32 × xM), x = Sum.inr (Sum.inr e) → xMach G π J_X3_addLeaf (d + 3) C Z 145 [(0, .ref e.1), (1, .ref e.2.1), (2, .int e.2.2.1), (4, .int e.2.2.2.1), (5, .int e.2.2.2.2.1), (7, .int e.2.2.2.2.2.1), (8, .int e.2.2.2.2.2.2.1), (9, .int e.2.2.2.2.2.2.2.1)] [] e.2.2.2.2.2.2.2.2 Q) : xMach G π J_X3_addLeaf (d + 3) C Z 145 [(0, .ref l0), (1, .ref l1), (2, .int l2), (4, .int l4), (5, .int l5), (7, .int l7), (8, .int l8), (9, .int l9)] [] σ Q := by
  have hf : (if (9 : Int32) ≤ l9 then some (Sum.inr (Sum.inl (l0, l1, l2, l4, l5, l7, l8, σ))) else (gR σ l0 3 2).bind (fun x14 => ((aR σ x14 16 (l8 + l9)).bind id).bind (fun x15 => (if l5 = (0 : Int32) then f_X3_addLeaf_j177 σ l0 l1 l2 l4 l5 l7 l8 l9 x15 else (if l9 = (1 : Int32) then f_X3_addLeaf_j178 σ l0 l1 l2 l4 l5 l7 l8 l9 (1 : Int64) x15 else f_X3_addLeaf_j177 σ l0 l1 l2 l4 l5 l7 l8 l9 x15))))) = some x := hf
  refine xm_iload dX3_addLeaf_145 rfl ?_
  refine xm_bipush dX3_addLeaf_147 (v := 9) (by decide) ?_
  refine xb_icmp_ge 187 dX3_addLeaf_149 (by decide) hf (fun c hf => ?_) (fun c hf => ?_)
  · cases hf
    exact xm_sub [0, 1, 2, 3, 4, 5, 6] rfl (hE _ rfl)
  · refine xm_aload_n dX3_addLeaf_152 rfl ?_
    refine xb_getR (a := l0) (c := 3) (k := 2) dX3_addLeaf_153 xcl3 (by decide) xw_551 rfl hf (fun x14 ex14 hf => ?_)
    refine xm_iload dX3_addLeaf_156 rfl ?_
    refine xm_iload dX3_addLeaf_158 rfl ?_
    refine xm_iadd dX3_addLeaf_160 ?_
    refine xb_aaldS dX3_addLeaf_161 (by decide) hf (fun x15 ex15 hf => ?_)
    refine xm_iload dX3_addLeaf_162 rfl ?_
    refine xb_if_eq 177 dX3_addLeaf_164 (by decide) hf (fun c hf => ?_) (fun c hf => ?_)
    · exact xm_sub [0, 1, 2, 3, 4, 5, 6, 7] rfl (L_X3_addLeaf_j177 σ l0 l1 l2 l4 l5 l7 l8 l9 x15 hf hR hE hC)
    · refine xm_iload dX3_addLeaf_167 rfl ?_
      refine xm_iconst dX3_addLeaf_169 (v := 1) (by decide) ?_
      refine xb_icmp_ne 177 dX3_addLeaf_170 (by decide) hf (fun c hf => ?_) (fun c hf => ?_)
      · exact xm_sub [0, 1, 2, 3, 4, 5, 6, 7] rfl (L_X3_addLeaf_j177 σ l0 l1 l2 l4 l5 l7 l8 l9 x15 hf hR hE hC)
      · refine xm_lconst dX3_addLeaf_173 (v := 1) (by decide) ?_
        refine xm_goto 178 dX3_addLeaf_174 (by decide) ?_
        exact xm_sub [0, 1, 2, 3, 4, 5, 6, 7] rfl (L_X3_addLeaf_j178 σ l0 l1 l2 l4 l5 l7 l8 l9 (1 : Int64) x15 hf hR hE hC)
theorem L_X3_addLeaf_l145 {G : xG} {π : Nat → Nat} {d C Z : Nat} {Q : xQ} {s0 : (Nat × Nat × Int32 × Int32 × Int32 × Int32 × Int32 × Int32 × xM)} {x : ((Int32 × xM) ⊕ (Nat × Nat × Int32 × Int32 × Int32 × Int32 × Int32 × xM))} (h1 : xloop (f_X3_addLeaf_s145) xF s0 = some x) (hR : ∀ g, x = Sum.inl g → Q (.inl (some (.int g.1))) (g.2) π) (hE : ∀ e : (Nat × Nat × Int32 × Int32 × Int32 × Int32 × Int32 × xM), x = Sum.inr e → xMach G π J_X3_addLeaf (d + 3) C Z 187 [(0, .ref e.1), (1, .ref e.2.1), (2, .int e.2.2.1), (4, .int e.2.2.2.1), (5, .int e.2.2.2.2.1), (7, .int e.2.2.2.2.2.1), (8, .int e.2.2.2.2.2.2.1)] [] e.2.2.2.2.2.2.2 Q) : xMach G π J_X3_addLeaf (d + 3) C Z 145 [(0, .ref s0.1), (1, .ref s0.2.1), (2, .int s0.2.2.1), (4, .int s0.2.2.2.1), (5, .int s0.2.2.2.2.1), (7, .int s0.2.2.2.2.2.1), (8, .int s0.2.2.2.2.2.2.1), (9, .int s0.2.2.2.2.2.2.2.1)] [] s0.2.2.2.2.2.2.2.2 Q := by
  refine xloop_run (M := (fun s : (Nat × Nat × Int32 × Int32 × Int32 × Int32 × Int32 × Int32 × xM) => xMach G π J_X3_addLeaf (d + 3) C Z 145 [(0, .ref s.1), (1, .ref s.2.1), (2, .int s.2.2.1), (4, .int s.2.2.2.1), (5, .int s.2.2.2.2.1), (7, .int s.2.2.2.2.2.1), (8, .int s.2.2.2.2.2.2.1), (9, .int s.2.2.2.2.2.2.2.1)] [] s.2.2.2.2.2.2.2.2 Q)) (r := x) ?_ xF _ h1
  intro s y hs hx
  exact L_X3_addLeaf_s145 s.2.2.2.2.2.2.2.2 s.1 s.2.1 s.2.2.1 s.2.2.2.1 s.2.2.2.2.1 s.2.2.2.2.2.1 s.2.2.2.2.2.2.1 s.2.2.2.2.2.2.2.1 (x := y) hs (fun g hg => by subst hg; exact hR g hx) (fun e he => by subst he; exact hE e hx) (fun e he => by subst he; exact hx)
def f_X3_addLeaf_j255 (σ : xM) (l0 : Nat) (s0 : Int32) (s1 : Int32) (s2 : Nat) : Option (Int32 × xM) :=
  (wI σ s2 s1 s0).bind (fun σ20 => (gI σ20 l0 3 4).bind (fun x21 => (sI σ20 l0 3 4 (x21 + (1 : Int32))).bind (fun σ22 => some ((1 : Int32), σ22))))
set_option maxHeartbeats 4000000 in
set_option maxRecDepth 20000 in
theorem L_X3_addLeaf_j255 {G : xG} {π : Nat → Nat} {d C Z : Nat} {Q : xQ} (σ : xM) (l0 : Nat) (s0 : Int32) (s1 : Int32) (s2 : Nat) {x : (Int32 × xM)} (hf : f_X3_addLeaf_j255 σ l0 s0 s1 s2 = some x) (hR : ∀ g, x = g → Q (.inl (some (.int g.1))) (g.2) π) : xMach G π J_X3_addLeaf (d + 3) C Z 255 [(0, .ref l0)] [.int s0, .int s1, .ref s2] σ Q := by
  unfold f_X3_addLeaf_j255 at hf
  refine xb_iast dX3_addLeaf_255 hf (fun σ20 eσ20 hf => ?_)
  refine xm_aload_n dX3_addLeaf_256 rfl ?_
  refine xm_dup dX3_addLeaf_257 rfl ?_
  refine xb_getI (a := l0) (c := 3) (k := 4) dX3_addLeaf_258 xcl3 (by decide) xw_553 rfl hf (fun x21 ex21 hf => ?_)
  refine xm_iconst dX3_addLeaf_261 (v := 1) (by decide) ?_
  refine xm_iadd dX3_addLeaf_262 ?_
  refine xb_putI (a := l0) (c := 3) (k := 4) dX3_addLeaf_263 xcl3 (by decide) xw_553 rfl rfl hf (fun σ22 eσ22 hf => ?_)
  refine xm_iconst dX3_addLeaf_266 (v := 1) (by decide) ?_
  cases hf
  exact xm_zret dX3_addLeaf_267 rfl rfl (hR _ rfl)
def f_X3_addLeaf_j237 (σ : xM) (l0 : Nat) (l5 : Int32) : Option (Int32 × xM) :=
  (gR σ l0 3 3).bind (fun x18 => (gI σ l0 3 4).bind (fun x19 => (if l5 = (0 : Int32) then f_X3_addLeaf_j255 σ l0 (0 : Int32) x19 x18 else f_X3_addLeaf_j255 σ l0 (1 : Int32) x19 x18)))
set_option maxHeartbeats 4000000 in
set_option maxRecDepth 20000 in
theorem L_X3_addLeaf_j237 {G : xG} {π : Nat → Nat} {d C Z : Nat} {Q : xQ} (σ : xM) (l0 : Nat) (l5 : Int32) {x : (Int32 × xM)} (hf : f_X3_addLeaf_j237 σ l0 l5 = some x) (hR : ∀ g, x = g → Q (.inl (some (.int g.1))) (g.2) π) : xMach G π J_X3_addLeaf (d + 3) C Z 237 [(0, .ref l0), (5, .int l5)] [] σ Q := by
  unfold f_X3_addLeaf_j237 at hf
  refine xm_aload_n dX3_addLeaf_237 rfl ?_
  refine xb_getR (a := l0) (c := 3) (k := 3) dX3_addLeaf_238 xcl3 (by decide) xw_552 rfl hf (fun x18 ex18 hf => ?_)
  refine xm_aload_n dX3_addLeaf_241 rfl ?_
  refine xb_getI (a := l0) (c := 3) (k := 4) dX3_addLeaf_242 xcl3 (by decide) xw_553 rfl hf (fun x19 ex19 hf => ?_)
  refine xm_iload dX3_addLeaf_245 rfl ?_
  refine xb_if_eq 254 dX3_addLeaf_247 (by decide) hf (fun c hf => ?_) (fun c hf => ?_)
  · refine xm_iconst dX3_addLeaf_254 (v := 0) (by decide) ?_
    exact xm_sub [0] rfl (L_X3_addLeaf_j255 σ l0 (0 : Int32) x19 x18 hf hR)
  · refine xm_iconst dX3_addLeaf_250 (v := 1) (by decide) ?_
    refine xm_goto 255 dX3_addLeaf_251 (by decide) ?_
    exact xm_sub [0] rfl (L_X3_addLeaf_j255 σ l0 (1 : Int32) x19 x18 hf hR)
def f_X3_addLeaf_j187 (σ : xM) (l0 : Nat) (l1 : Nat) (l2 : Int32) (l4 : Int32) (l5 : Int32) (l7 : Int32) (l8 : Int32) : Option (Int32 × xM) :=
  (if l7 = (0 : Int32) then (if l5 = (0 : Int32) then (gR σ l0 3 2).bind (fun x23 => ((aR σ x23 16 l8).bind id).bind (fun x24 => (gR σ l1 9 1).bind (fun x25 => (aI σ x25 14 l2).bind (fun x26 => (if xk σ x24 2 = true then (f_X2_set σ x24 ((x26).toInt64)).bind (fun p27 => f_X3_addLeaf_j237 p27 l0 l5) else none))))) else f_X3_addLeaf_j237 σ l0 l5) else (gR σ l0 3 2).bind (fun x28 => ((aR σ x28 16 l8).bind id).bind (fun x29 => (gR σ l0 3 0).bind (fun x30 => (gR σ x30 1 6).bind (fun x31 => ((aR σ x31 16 l4).bind id).bind (fun x32 => (if xk σ x29 2 = true then (f_X2_copy σ x29 x32).bind (fun p33 => f_X3_addLeaf_j237 p33 l0 l5) else none)))))))
set_option maxHeartbeats 4000000 in
set_option maxRecDepth 20000 in
theorem L_X3_addLeaf_j187 {G : xG} {π : Nat → Nat} {d C Z : Nat} {Q : xQ} (σ : xM) (l0 : Nat) (l1 : Nat) (l2 : Int32) (l4 : Int32) (l5 : Int32) (l7 : Int32) (l8 : Int32) {x : (Int32 × xM)} (hf : f_X3_addLeaf_j187 σ l0 l1 l2 l4 l5 l7 l8 = some x) (hR : ∀ g, x = g → Q (.inl (some (.int g.1))) (g.2) π) : xMach G π J_X3_addLeaf (d + 3) C Z 187 [(0, .ref l0), (1, .ref l1), (2, .int l2), (4, .int l4), (5, .int l5), (7, .int l7), (8, .int l8)] [] σ Q := by
  unfold f_X3_addLeaf_j187 at hf
  refine xm_iload dX3_addLeaf_187 rfl ?_
  refine xb_if_eq 215 dX3_addLeaf_189 (by decide) hf (fun c hf => ?_) (fun c hf => ?_)
  · refine xm_iload dX3_addLeaf_215 rfl ?_
    refine xb_if_ne 237 dX3_addLeaf_217 (by decide) hf (fun c hf => ?_) (fun c hf => ?_)
    · exact xm_sub [0, 4] rfl (L_X3_addLeaf_j237 σ l0 l5 hf hR)
    · refine xm_aload_n dX3_addLeaf_220 rfl ?_
      refine xb_getR (a := l0) (c := 3) (k := 2) dX3_addLeaf_221 xcl3 (by decide) xw_551 rfl hf (fun x23 ex23 hf => ?_)
      refine xm_iload dX3_addLeaf_224 rfl ?_
      refine xb_aaldS dX3_addLeaf_226 (by decide) hf (fun x24 ex24 hf => ?_)
      refine xm_aload_n dX3_addLeaf_227 rfl ?_
      refine xb_getR (a := l1) (c := 9) (k := 1) dX3_addLeaf_228 xcl9 (by decide) xw_201 rfl hf (fun x25 ex25 hf => ?_)
      refine xm_iload_n dX3_addLeaf_231 rfl ?_
      refine xb_iald dX3_addLeaf_232 hf (fun x26 ex26 hf => ?_)
      refine xm_i2l dX3_addLeaf_233 rfl ?_
      refine xb_if hf (fun hb hf => ?_) (fun _ q => nomatch q)
      obtain ⟨p27, ep27, hf⟩ := xbind hf
      refine xb_callV (As := [.long ((x26).toInt64)]) (v0 := none) (τ0 := p27) dX3_addLeaf_234 (xc_X2_set _ _) xcl2 xw_1572 xw_1250 xw_1251 hb rfl (Nat.le_of_ble_eq_true rfl) rfl (Nat.le_of_ble_eq_true rfl) (fun Q1 hq => m_X2_set (d := d + 1) ep27 (fun g hg => by subst hg; exact hq)) ?_
      exact xm_sub [0, 4] rfl (L_X3_addLeaf_j237 p27 l0 l5 hf hR)
  · refine xm_aload_n dX3_addLeaf_192 rfl ?_
    refine xb_getR (a := l0) (c := 3) (k := 2) dX3_addLeaf_193 xcl3 (by decide) xw_551 rfl hf (fun x28 ex28 hf => ?_)
    refine xm_iload dX3_addLeaf_196 rfl ?_
    refine xb_aaldS dX3_addLeaf_198 (by decide) hf (fun x29 ex29 hf => ?_)
    refine xm_aload_n dX3_addLeaf_199 rfl ?_
    refine xb_getR (a := l0) (c := 3) (k := 0) dX3_addLeaf_200 xcl3 (by decide) xw_549 rfl hf (fun x30 ex30 hf => ?_)
    refine xb_getR (a := x30) (c := 1) (k := 6) dX3_addLeaf_203 xcl1 (by decide) xw_285 rfl hf (fun x31 ex31 hf => ?_)
    refine xm_iload dX3_addLeaf_206 rfl ?_
    refine xb_aaldS dX3_addLeaf_208 (by decide) hf (fun x32 ex32 hf => ?_)
    refine xb_if hf (fun hb hf => ?_) (fun _ q => nomatch q)
    obtain ⟨p33, ep33, hf⟩ := xbind hf
    refine xb_callV (As := [.ref x32]) (v0 := none) (τ0 := p33) dX3_addLeaf_209 (xc_X2_copy _ _) xcl2 xw_1573 xw_750 xw_751 hb rfl (Nat.le_of_ble_eq_true rfl) rfl (Nat.le_of_ble_eq_true rfl) (fun Q1 hq => m_X2_copy (d := d + 0) ep33 (fun g hg => by subst hg; exact hq)) ?_
    refine xm_goto 237 dX3_addLeaf_212 (by decide) ?_
    exact xm_sub [0, 4] rfl (L_X3_addLeaf_j237 p33 l0 l5 hf hR)
def f_X3_addLeaf_j133 (σ : xM) (l0 : Nat) (l1 : Nat) (l2 : Int32) (l4 : Int32) (l5 : Int32) (l7 : Int32) : Option (Int32 × xM) :=
  (gI σ l0 3 4).bind (fun x11 => xlet (x11 * (9 : Int32)) (fun v12 => xlet (0 : Int32) (fun v13 => (xloop (f_X3_addLeaf_s145 ) xF (l0, l1, l2, l4, l5, l7, v12, v13, σ)).bind (Sum.elim (fun g => some g) (fun e => f_X3_addLeaf_j187 e.2.2.2.2.2.2.2 e.1 e.2.1 e.2.2.1 e.2.2.2.1 e.2.2.2.2.1 e.2.2.2.2.2.1 e.2.2.2.2.2.2.1)))))
set_option maxHeartbeats 4000000 in
set_option maxRecDepth 20000 in
theorem L_X3_addLeaf_j133 {G : xG} {π : Nat → Nat} {d C Z : Nat} {Q : xQ} (σ : xM) (l0 : Nat) (l1 : Nat) (l2 : Int32) (l4 : Int32) (l5 : Int32) (l7 : Int32) {x : (Int32 × xM)} (hf : f_X3_addLeaf_j133 σ l0 l1 l2 l4 l5 l7 = some x) (hR : ∀ g, x = g → Q (.inl (some (.int g.1))) (g.2) π) : xMach G π J_X3_addLeaf (d + 3) C Z 133 [(0, .ref l0), (1, .ref l1), (2, .int l2), (4, .int l4), (5, .int l5), (7, .int l7)] [] σ Q := by
  unfold f_X3_addLeaf_j133 at hf
  refine xm_aload_n dX3_addLeaf_133 rfl ?_
  refine xb_getI (a := l0) (c := 3) (k := 4) dX3_addLeaf_134 xcl3 (by decide) xw_553 rfl hf (fun x11 ex11 hf => ?_)
  refine xm_bipush dX3_addLeaf_137 (v := 9) (by decide) ?_
  refine xm_imul dX3_addLeaf_139 ?_
  refine xb_topi hf (fun v12 ev12 hf => ?_)
  refine xm_istore dX3_addLeaf_140 (by decide) (xm_stL (L' := [(8, .int v12), (0, .ref l0), (1, .ref l1), (2, .int l2), (4, .int l4), (5, .int l5), (7, .int l7)]) rfl ?_)
  refine xm_iconst dX3_addLeaf_142 (v := 0) (by decide) ?_
  refine xb_topi hf (fun v13 ev13 hf => ?_)
  refine xm_istore dX3_addLeaf_143 (by decide) (xm_stL (L' := [(9, .int v13), (8, .int v12), (0, .ref l0), (1, .ref l1), (2, .int l2), (4, .int l4), (5, .int l5), (7, .int l7)]) rfl ?_)
  obtain ⟨o, h1, hf⟩ := xbind hf
  refine xm_sub [2, 3, 4, 5, 6, 7, 1, 0] rfl (L_X3_addLeaf_l145  h1 (fun g hg => ?_) (fun e he => ?_))
  · subst hg
    cases hf
    exact hR _ rfl
  · subst he
    rw [Sum.elim_inr] at hf
    have hf : f_X3_addLeaf_j187 e.2.2.2.2.2.2.2 e.1 e.2.1 e.2.2.1 e.2.2.2.1 e.2.2.2.2.1 e.2.2.2.2.2.1 e.2.2.2.2.2.2.1 = some _ := hf
    exact xm_sub [0, 1, 2, 3, 4, 5, 6] rfl (L_X3_addLeaf_j187 e.2.2.2.2.2.2.2 e.1 e.2.1 e.2.2.1 e.2.2.2.1 e.2.2.2.2.1 e.2.2.2.2.2.1 e.2.2.2.2.2.2.1 hf hR)
def f_X3_addLeaf_j101 (σ : xM) (l0 : Nat) (l1 : Nat) (l2 : Int32) (l4 : Int32) (l5 : Int32) (s0 : Int32) : Option (Int32 × xM) :=
  (gI σ l0 3 4).bind (fun x8 => (if (48 : Int32) ≤ x8 then f_X3_addLeaf_j131 σ else (gR σ l1 9 0).bind (fun x9 => (aI σ x9 14 l2).bind (fun x10 => (if x10 = (0 : Int32) then f_X3_addLeaf_j133 σ l0 l1 l2 l4 l5 s0 else (if l5 = (0 : Int32) then (if s0 = (0 : Int32) then f_X3_addLeaf_j131 σ else f_X3_addLeaf_j133 σ l0 l1 l2 l4 l5 s0) else f_X3_addLeaf_j133 σ l0 l1 l2 l4 l5 s0))))))
set_option maxHeartbeats 4000000 in
set_option maxRecDepth 20000 in
theorem L_X3_addLeaf_j101 {G : xG} {π : Nat → Nat} {d C Z : Nat} {Q : xQ} (σ : xM) (l0 : Nat) (l1 : Nat) (l2 : Int32) (l4 : Int32) (l5 : Int32) (s0 : Int32) {x : (Int32 × xM)} (hf : f_X3_addLeaf_j101 σ l0 l1 l2 l4 l5 s0 = some x) (hR : ∀ g, x = g → Q (.inl (some (.int g.1))) (g.2) π) : xMach G π J_X3_addLeaf (d + 3) C Z 101 [(0, .ref l0), (1, .ref l1), (2, .int l2), (4, .int l4), (5, .int l5)] [.int s0] σ Q := by
  unfold f_X3_addLeaf_j101 at hf
  refine xm_istore dX3_addLeaf_101 (by decide) (xm_stL (L' := [(7, .int s0), (0, .ref l0), (1, .ref l1), (2, .int l2), (4, .int l4), (5, .int l5)]) rfl ?_)
  refine xm_aload_n dX3_addLeaf_103 rfl ?_
  refine xb_getI (a := l0) (c := 3) (k := 4) dX3_addLeaf_104 xcl3 (by decide) xw_553 rfl hf (fun x8 ex8 hf => ?_)
  refine xm_bipush dX3_addLeaf_107 (v := 48) (by decide) ?_
  refine xb_icmp_ge 131 dX3_addLeaf_109 (by decide) hf (fun c hf => ?_) (fun c hf => ?_)
  · exact xm_sub [] rfl (L_X3_addLeaf_j131 σ hf hR)
  · refine xm_aload_n dX3_addLeaf_112 rfl ?_
    refine xb_getR (a := l1) (c := 9) (k := 0) dX3_addLeaf_113 xcl9 (by decide) xw_195 rfl hf (fun x9 ex9 hf => ?_)
    refine xm_iload_n dX3_addLeaf_116 rfl ?_
    refine xb_iald dX3_addLeaf_117 hf (fun x10 ex10 hf => ?_)
    refine xb_if_eq 133 dX3_addLeaf_118 (by decide) hf (fun c hf => ?_) (fun c hf => ?_)
    · exact xm_sub [1, 2, 3, 4, 5, 0] rfl (L_X3_addLeaf_j133 σ l0 l1 l2 l4 l5 s0 hf hR)
    · refine xm_iload dX3_addLeaf_121 rfl ?_
      refine xb_if_ne 133 dX3_addLeaf_123 (by decide) hf (fun c hf => ?_) (fun c hf => ?_)
      · exact xm_sub [1, 2, 3, 4, 5, 0] rfl (L_X3_addLeaf_j133 σ l0 l1 l2 l4 l5 s0 hf hR)
      · refine xm_iload dX3_addLeaf_126 rfl ?_
        refine xb_if_ne 133 dX3_addLeaf_128 (by decide) hf (fun c hf => ?_) (fun c hf => ?_)
        · exact xm_sub [1, 2, 3, 4, 5, 0] rfl (L_X3_addLeaf_j133 σ l0 l1 l2 l4 l5 s0 hf hR)
        · exact xm_sub [] rfl (L_X3_addLeaf_j131 σ hf hR)
def f_X3_addLeaf_j100 (σ : xM) (l0 : Nat) (l1 : Nat) (l2 : Int32) (l4 : Int32) (l5 : Int32) : Option (Int32 × xM) :=
  f_X3_addLeaf_j101 σ l0 l1 l2 l4 l5 (0 : Int32)
set_option maxHeartbeats 4000000 in
set_option maxRecDepth 20000 in
theorem L_X3_addLeaf_j100 {G : xG} {π : Nat → Nat} {d C Z : Nat} {Q : xQ} (σ : xM) (l0 : Nat) (l1 : Nat) (l2 : Int32) (l4 : Int32) (l5 : Int32) {x : (Int32 × xM)} (hf : f_X3_addLeaf_j100 σ l0 l1 l2 l4 l5 = some x) (hR : ∀ g, x = g → Q (.inl (some (.int g.1))) (g.2) π) : xMach G π J_X3_addLeaf (d + 3) C Z 100 [(0, .ref l0), (1, .ref l1), (2, .int l2), (4, .int l4), (5, .int l5)] [] σ Q := by
  unfold f_X3_addLeaf_j100 at hf
  refine xm_iconst dX3_addLeaf_100 (v := 0) (by decide) ?_
  exact xm_sub [0, 1, 2, 3, 4] rfl (L_X3_addLeaf_j101 σ l0 l1 l2 l4 l5 (0 : Int32) hf hR)
def f_X3_addLeaf_j74 (σ : xM) (l0 : Nat) (l1 : Nat) (l2 : Int32) (l4 : Int32) (l5 : Int32) (s0 : Int32) : Option (Int32 × xM) :=
  (gR σ l1 9 0).bind (fun x6 => (aI σ x6 14 l2).bind (fun x7 => (if x7 = (1 : Int32) then (if l5 = (0 : Int32) then (if s0 = (0 : Int32) then f_X3_addLeaf_j100 σ l0 l1 l2 l4 l5 else f_X3_addLeaf_j101 σ l0 l1 l2 l4 l5 (1 : Int32)) else f_X3_addLeaf_j100 σ l0 l1 l2 l4 l5) else f_X3_addLeaf_j100 σ l0 l1 l2 l4 l5)))
set_option maxHeartbeats 4000000 in
set_option maxRecDepth 20000 in
theorem L_X3_addLeaf_j74 {G : xG} {π : Nat → Nat} {d C Z : Nat} {Q : xQ} (σ : xM) (l0 : Nat) (l1 : Nat) (l2 : Int32) (l4 : Int32) (l5 : Int32) (s0 : Int32) {x : (Int32 × xM)} (hf : f_X3_addLeaf_j74 σ l0 l1 l2 l4 l5 s0 = some x) (hR : ∀ g, x = g → Q (.inl (some (.int g.1))) (g.2) π) : xMach G π J_X3_addLeaf (d + 3) C Z 74 [(0, .ref l0), (1, .ref l1), (2, .int l2), (4, .int l4), (5, .int l5)] [.int s0] σ Q := by
  unfold f_X3_addLeaf_j74 at hf
  refine xm_istore dX3_addLeaf_74 (by decide) (xm_stL (L' := [(6, .int s0), (0, .ref l0), (1, .ref l1), (2, .int l2), (4, .int l4), (5, .int l5)]) rfl ?_)
  refine xm_aload_n dX3_addLeaf_76 rfl ?_
  refine xb_getR (a := l1) (c := 9) (k := 0) dX3_addLeaf_77 xcl9 (by decide) xw_195 rfl hf (fun x6 ex6 hf => ?_)
  refine xm_iload_n dX3_addLeaf_80 rfl ?_
  refine xb_iald dX3_addLeaf_81 hf (fun x7 ex7 hf => ?_)
  refine xm_iconst dX3_addLeaf_82 (v := 1) (by decide) ?_
  refine xb_icmp_ne 100 dX3_addLeaf_83 (by decide) hf (fun c hf => ?_) (fun c hf => ?_)
  · exact xm_sub [1, 2, 3, 4, 5] rfl (L_X3_addLeaf_j100 σ l0 l1 l2 l4 l5 hf hR)
  · refine xm_iload dX3_addLeaf_86 rfl ?_
    refine xb_if_ne 100 dX3_addLeaf_88 (by decide) hf (fun c hf => ?_) (fun c hf => ?_)
    · exact xm_sub [1, 2, 3, 4, 5] rfl (L_X3_addLeaf_j100 σ l0 l1 l2 l4 l5 hf hR)
    · refine xm_iload dX3_addLeaf_91 rfl ?_
      refine xb_if_eq 100 dX3_addLeaf_93 (by decide) hf (fun c hf => ?_) (fun c hf => ?_)
      · exact xm_sub [1, 2, 3, 4, 5] rfl (L_X3_addLeaf_j100 σ l0 l1 l2 l4 l5 hf hR)
      · refine xm_iconst dX3_addLeaf_96 (v := 1) (by decide) ?_
        refine xm_goto 101 dX3_addLeaf_97 (by decide) ?_
        exact xm_sub [1, 2, 3, 4, 5] rfl (L_X3_addLeaf_j101 σ l0 l1 l2 l4 l5 (1 : Int32) hf hR)
def f_X3_addLeaf_j73 (σ : xM) (l0 : Nat) (l1 : Nat) (l2 : Int32) (l4 : Int32) (l5 : Int32) : Option (Int32 × xM) :=
  f_X3_addLeaf_j74 σ l0 l1 l2 l4 l5 (0 : Int32)
set_option maxHeartbeats 4000000 in
set_option maxRecDepth 20000 in
theorem L_X3_addLeaf_j73 {G : xG} {π : Nat → Nat} {d C Z : Nat} {Q : xQ} (σ : xM) (l0 : Nat) (l1 : Nat) (l2 : Int32) (l4 : Int32) (l5 : Int32) {x : (Int32 × xM)} (hf : f_X3_addLeaf_j73 σ l0 l1 l2 l4 l5 = some x) (hR : ∀ g, x = g → Q (.inl (some (.int g.1))) (g.2) π) : xMach G π J_X3_addLeaf (d + 3) C Z 73 [(0, .ref l0), (1, .ref l1), (2, .int l2), (4, .int l4), (5, .int l5)] [] σ Q := by
  unfold f_X3_addLeaf_j73 at hf
  refine xm_iconst dX3_addLeaf_73 (v := 0) (by decide) ?_
  exact xm_sub [0, 1, 2, 3, 4] rfl (L_X3_addLeaf_j74 σ l0 l1 l2 l4 l5 (0 : Int32) hf hR)
def f_X3_addLeaf_j36 (σ : xM) (l0 : Nat) (l1 : Nat) (l2 : Int32) (l4 : Int32) (s0 : Int32) : Option (Int32 × xM) :=
  (if l4 < (0 : Int32) then f_X3_addLeaf_j73 σ l0 l1 l2 l4 s0 else (gR σ l0 3 0).bind (fun x34 => (gR σ x34 1 7).bind (fun x35 => (gL σ x35 15).bind (fun x36 => (if x36 ≤ l4 then f_X3_addLeaf_j73 σ l0 l1 l2 l4 s0 else (gR σ l0 3 0).bind (fun x37 => (gR σ x37 1 7).bind (fun x38 => (aI σ x38 15 l4).bind (fun x39 => (if x39 = (0 : Int32) then f_X3_addLeaf_j73 σ l0 l1 l2 l4 s0 else f_X3_addLeaf_j74 σ l0 l1 l2 l4 s0 (1 : Int32))))))))))
set_option maxHeartbeats 4000000 in
set_option maxRecDepth 20000 in
theorem L_X3_addLeaf_j36 {G : xG} {π : Nat → Nat} {d C Z : Nat} {Q : xQ} (σ : xM) (l0 : Nat) (l1 : Nat) (l2 : Int32) (l4 : Int32) (s0 : Int32) {x : (Int32 × xM)} (hf : f_X3_addLeaf_j36 σ l0 l1 l2 l4 s0 = some x) (hR : ∀ g, x = g → Q (.inl (some (.int g.1))) (g.2) π) : xMach G π J_X3_addLeaf (d + 3) C Z 36 [(0, .ref l0), (1, .ref l1), (2, .int l2), (4, .int l4)] [.int s0] σ Q := by
  unfold f_X3_addLeaf_j36 at hf
  refine xm_istore dX3_addLeaf_36 (by decide) (xm_stL (L' := [(5, .int s0), (0, .ref l0), (1, .ref l1), (2, .int l2), (4, .int l4)]) rfl ?_)
  refine xm_iload dX3_addLeaf_38 rfl ?_
  refine xb_if_lt 73 dX3_addLeaf_40 (by decide) hf (fun c hf => ?_) (fun c hf => ?_)
  · exact xm_sub [1, 2, 3, 4, 0] rfl (L_X3_addLeaf_j73 σ l0 l1 l2 l4 s0 hf hR)
  · refine xm_iload dX3_addLeaf_43 rfl ?_
    refine xm_aload_n dX3_addLeaf_45 rfl ?_
    refine xb_getR (a := l0) (c := 3) (k := 0) dX3_addLeaf_46 xcl3 (by decide) xw_549 rfl hf (fun x34 ex34 hf => ?_)
    refine xb_getR (a := x34) (c := 1) (k := 7) dX3_addLeaf_49 xcl1 (by decide) xw_289 rfl hf (fun x35 ex35 hf => ?_)
    refine xb_alen dX3_addLeaf_52 (by decide) (by decide) hf (fun x36 ex36 hf => ?_)
    refine xb_icmp_ge 73 dX3_addLeaf_53 (by decide) hf (fun c hf => ?_) (fun c hf => ?_)
    · exact xm_sub [1, 2, 3, 4, 0] rfl (L_X3_addLeaf_j73 σ l0 l1 l2 l4 s0 hf hR)
    · refine xm_aload_n dX3_addLeaf_56 rfl ?_
      refine xb_getR (a := l0) (c := 3) (k := 0) dX3_addLeaf_57 xcl3 (by decide) xw_549 rfl hf (fun x37 ex37 hf => ?_)
      refine xb_getR (a := x37) (c := 1) (k := 7) dX3_addLeaf_60 xcl1 (by decide) xw_289 rfl hf (fun x38 ex38 hf => ?_)
      refine xm_iload dX3_addLeaf_63 rfl ?_
      refine xb_zald dX3_addLeaf_65 hf (fun x39 ex39 hf => ?_)
      refine xb_if_eq 73 dX3_addLeaf_66 (by decide) hf (fun c hf => ?_) (fun c hf => ?_)
      · exact xm_sub [1, 2, 3, 4, 0] rfl (L_X3_addLeaf_j73 σ l0 l1 l2 l4 s0 hf hR)
      · refine xm_iconst dX3_addLeaf_69 (v := 1) (by decide) ?_
        refine xm_goto 74 dX3_addLeaf_70 (by decide) ?_
        exact xm_sub [1, 2, 3, 4, 0] rfl (L_X3_addLeaf_j74 σ l0 l1 l2 l4 s0 (1 : Int32) hf hR)
def f_X3_addLeaf_j35 (σ : xM) (l0 : Nat) (l1 : Nat) (l2 : Int32) (l4 : Int32) : Option (Int32 × xM) :=
  f_X3_addLeaf_j36 σ l0 l1 l2 l4 (0 : Int32)
set_option maxHeartbeats 4000000 in
set_option maxRecDepth 20000 in
theorem L_X3_addLeaf_j35 {G : xG} {π : Nat → Nat} {d C Z : Nat} {Q : xQ} (σ : xM) (l0 : Nat) (l1 : Nat) (l2 : Int32) (l4 : Int32) {x : (Int32 × xM)} (hf : f_X3_addLeaf_j35 σ l0 l1 l2 l4 = some x) (hR : ∀ g, x = g → Q (.inl (some (.int g.1))) (g.2) π) : xMach G π J_X3_addLeaf (d + 3) C Z 35 [(0, .ref l0), (1, .ref l1), (2, .int l2), (4, .int l4)] [] σ Q := by
  unfold f_X3_addLeaf_j35 at hf
  refine xm_iconst dX3_addLeaf_35 (v := 0) (by decide) ?_
  exact xm_sub [0, 1, 2, 3] rfl (L_X3_addLeaf_j36 σ l0 l1 l2 l4 (0 : Int32) hf hR)
def f_X3_addLeaf (σ : xM) (l0 : Nat) (l1 : Nat) (l2 : Int32) (l3 : Int32) : Option (Int32 × xM) :=
  (gR σ l1 9 1).bind (fun x1 => (aI σ x1 14 l2).bind (fun x2 => xlet (x2 - (97 : Int32)) (fun v3 => (gR σ l1 9 0).bind (fun x4 => (aI σ x4 14 l2).bind (fun x5 => (if x5 = (1 : Int32) then (gR σ l1 9 1).bind (fun x40 => (aI σ x40 14 l2).bind (fun x41 => (if x41 = l3 then f_X3_addLeaf_j36 σ l0 l1 l2 v3 (1 : Int32) else f_X3_addLeaf_j35 σ l0 l1 l2 v3))) else f_X3_addLeaf_j35 σ l0 l1 l2 v3))))))
set_option maxHeartbeats 4000000 in
set_option maxRecDepth 20000 in
theorem m_X3_addLeaf {G : xG} {π : Nat → Nat} {d C Z : Nat} {Q : xQ} {σ : xM} {l0 : Nat} {l1 : Nat} {l2 : Int32} {l3 : Int32} {x : (Int32 × xM)} (hf : f_X3_addLeaf σ l0 l1 l2 l3 = some x) (hR : ∀ g, x = g → Q (.inl (some (.int g.1))) (g.2) π) : xMach G π J_X3_addLeaf (d + 3) C Z 0 (lv_args 0 [.ref l0, .ref l1, .int l2, .int l3]) [] σ Q := by
  unfold f_X3_addLeaf at hf
  refine xm_stL (L' := [(0, .ref l0), (1, .ref l1), (2, .int l2), (3, .int l3)]) rfl ?_
  refine xm_aload_n dX3_addLeaf_0 rfl ?_
  refine xb_getR (a := l1) (c := 9) (k := 1) dX3_addLeaf_1 xcl9 (by decide) xw_201 rfl hf (fun x1 ex1 hf => ?_)
  refine xm_iload_n dX3_addLeaf_4 rfl ?_
  refine xb_iald dX3_addLeaf_5 hf (fun x2 ex2 hf => ?_)
  refine xm_bipush dX3_addLeaf_6 (v := 97) (by decide) ?_
  refine xm_isub dX3_addLeaf_8 ?_
  refine xb_topi hf (fun v3 ev3 hf => ?_)
  refine xm_istore dX3_addLeaf_9 (by decide) (xm_stL (L' := [(4, .int v3), (0, .ref l0), (1, .ref l1), (2, .int l2), (3, .int l3)]) rfl ?_)
  refine xm_aload_n dX3_addLeaf_11 rfl ?_
  refine xb_getR (a := l1) (c := 9) (k := 0) dX3_addLeaf_12 xcl9 (by decide) xw_195 rfl hf (fun x4 ex4 hf => ?_)
  refine xm_iload_n dX3_addLeaf_15 rfl ?_
  refine xb_iald dX3_addLeaf_16 hf (fun x5 ex5 hf => ?_)
  refine xm_iconst dX3_addLeaf_17 (v := 1) (by decide) ?_
  refine xb_icmp_ne 35 dX3_addLeaf_18 (by decide) hf (fun c hf => ?_) (fun c hf => ?_)
  · exact xm_sub [1, 2, 3, 0] rfl (L_X3_addLeaf_j35 σ l0 l1 l2 v3 hf hR)
  · refine xm_aload_n dX3_addLeaf_21 rfl ?_
    refine xb_getR (a := l1) (c := 9) (k := 1) dX3_addLeaf_22 xcl9 (by decide) xw_201 rfl hf (fun x40 ex40 hf => ?_)
    refine xm_iload_n dX3_addLeaf_25 rfl ?_
    refine xb_iald dX3_addLeaf_26 hf (fun x41 ex41 hf => ?_)
    refine xm_iload_n dX3_addLeaf_27 rfl ?_
    refine xb_icmp_ne 35 dX3_addLeaf_28 (by decide) hf (fun c hf => ?_) (fun c hf => ?_)
    · exact xm_sub [1, 2, 3, 0] rfl (L_X3_addLeaf_j35 σ l0 l1 l2 v3 hf hR)
    · refine xm_iconst dX3_addLeaf_31 (v := 1) (by decide) ?_
      refine xm_goto 36 dX3_addLeaf_32 (by decide) ?_
      exact xm_sub [1, 2, 3, 0] rfl (L_X3_addLeaf_j36 σ l0 l1 l2 v3 (1 : Int32) hf hR)
-- Rankwise$Gatherer.negate(I)Z
def f_X3_negate_s8 (s : (Nat × Int32 × Int32 × xM)) : Option ((Int32 × xM) ⊕ ((xM) ⊕ (Nat × Int32 × Int32 × xM))) :=
  xlet s.1 (fun l0 => xlet s.2.1 (fun l1 => xlet s.2.2.1 (fun l2 => xlet s.2.2.2 (fun σ => (if (9 : Int32) ≤ l2 then some (Sum.inr (Sum.inl σ)) else (gR σ l0 3 2).bind (fun x2 => ((aR σ x2 16 ((l1 * (9 : Int32)) + l2)).bind id).bind (fun x3 => (gR σ x3 2 0).bind (fun x4 => (if xk σ x4 10 = true then (f_X10_flip σ x4).bind (fun p5 => xlet (l2 + (1 : Int32)) (fun v6 => some (Sum.inr (Sum.inr (l0, l1, v6, p5))))) else none)))))))))
set_option maxHeartbeats 4000000 in
set_option maxRecDepth 20000 in
theorem L_X3_negate_s8 {G : xG} {π : Nat → Nat} {d C Z : Nat} {Q : xQ} (σ : xM) (l0 : Nat) (l1 : Int32) (l2 : Int32) {x : ((Int32 × xM) ⊕ ((xM) ⊕ (Nat × Int32 × Int32 × xM)))} (hf : f_X3_negate_s8 (l0, l1, l2, σ) = some x) (hR : ∀ g, x = Sum.inl (g) → Q (.inl (some (.int g.1))) (g.2) π) (hE : ∀ e : (xM), x = Sum.inr (Sum.inl e) → xMach G π J_X3_negate (d + 1) C Z 37 [] [] e Q) (hC : ∀ e : (Nat × Int32 × Int32 × xM), x = Sum.inr (Sum.inr e) → xMach G π J_X3_negate (d + 1) C Z 8 [(0, .ref e.1), (1, .int e.2.1), (2, .int e.2.2.1)] [] e.2.2.2 Q) : xMach G π J_X3_negate (d + 1) C Z 8 [(0, .ref l0), (1, .int l1), (2, .int l2)] [] σ Q := by
  have hf : (if (9 : Int32) ≤ l2 then some (Sum.inr (Sum.inl σ)) else (gR σ l0 3 2).bind (fun x2 => ((aR σ x2 16 ((l1 * (9 : Int32)) + l2)).bind id).bind (fun x3 => (gR σ x3 2 0).bind (fun x4 => (if xk σ x4 10 = true then (f_X10_flip σ x4).bind (fun p5 => xlet (l2 + (1 : Int32)) (fun v6 => some (Sum.inr (Sum.inr (l0, l1, v6, p5))))) else none))))) = some x := hf
  refine xm_iload_n dX3_negate_8 rfl ?_
  refine xm_bipush dX3_negate_9 (v := 9) (by decide) ?_
  refine xb_icmp_ge 37 dX3_negate_11 (by decide) hf (fun c hf => ?_) (fun c hf => ?_)
  · cases hf
    exact xm_sub [] rfl (hE _ rfl)
  · refine xm_aload_n dX3_negate_14 rfl ?_
    refine xb_getR (a := l0) (c := 3) (k := 2) dX3_negate_15 xcl3 (by decide) xw_551 rfl hf (fun x2 ex2 hf => ?_)
    refine xm_iload_n dX3_negate_18 rfl ?_
    refine xm_bipush dX3_negate_19 (v := 9) (by decide) ?_
    refine xm_imul dX3_negate_21 ?_
    refine xm_iload_n dX3_negate_22 rfl ?_
    refine xm_iadd dX3_negate_23 ?_
    refine xb_aaldS dX3_negate_24 (by decide) hf (fun x3 ex3 hf => ?_)
    refine xb_getR (a := x3) (c := 2) (k := 0) dX3_negate_25 xcl2 (by decide) xw_265 rfl hf (fun x4 ex4 hf => ?_)
    refine xb_if hf (fun hb hf => ?_) (fun _ q => nomatch q)
    obtain ⟨p5, ep5, hf⟩ := xbind hf
    refine xb_callV (As := []) (v0 := none) (τ0 := p5) dX3_negate_28 (xc_X10_flip _ _) xcl10 xw_1579 xw_1266 xw_1267 hb rfl (Nat.le_of_ble_eq_true rfl) rfl (Nat.le_of_ble_eq_true rfl) (fun Q1 hq => m_X10_flip (d := d + 0) ep5 (fun g hg => by subst hg; exact hq)) ?_
    refine xb_iinc dX3_negate_31 rfl (by decide) (by decide) hf (fun v6 ev6 hf => xm_stL (L' := [(2, .int v6), (0, .ref l0), (1, .int l1)]) rfl ?_)
    refine xm_goto 8 dX3_negate_34 (by decide) ?_
    cases hf
    exact xm_sub [1, 2, 0] rfl (hC _ rfl)
theorem L_X3_negate_l8 {G : xG} {π : Nat → Nat} {d C Z : Nat} {Q : xQ} {s0 : (Nat × Int32 × Int32 × xM)} {x : ((Int32 × xM) ⊕ (xM))} (h1 : xloop (f_X3_negate_s8) xF s0 = some x) (hR : ∀ g, x = Sum.inl g → Q (.inl (some (.int g.1))) (g.2) π) (hE : ∀ e : (xM), x = Sum.inr e → xMach G π J_X3_negate (d + 1) C Z 37 [] [] e Q) : xMach G π J_X3_negate (d + 1) C Z 8 [(0, .ref s0.1), (1, .int s0.2.1), (2, .int s0.2.2.1)] [] s0.2.2.2 Q := by
  refine xloop_run (M := (fun s : (Nat × Int32 × Int32 × xM) => xMach G π J_X3_negate (d + 1) C Z 8 [(0, .ref s.1), (1, .int s.2.1), (2, .int s.2.2.1)] [] s.2.2.2 Q)) (r := x) ?_ xF _ h1
  intro s y hs hx
  exact L_X3_negate_s8 s.2.2.2 s.1 s.2.1 s.2.2.1 (x := y) hs (fun g hg => by subst hg; exact hR g hx) (fun e he => by subst he; exact hE e hx) (fun e he => by subst he; exact hx)
def f_X3_negate_j37 (σ : xM)  : Option (Int32 × xM) :=
  some ((1 : Int32), σ)
set_option maxHeartbeats 4000000 in
set_option maxRecDepth 20000 in
theorem L_X3_negate_j37 {G : xG} {π : Nat → Nat} {d C Z : Nat} {Q : xQ} (σ : xM)  {x : (Int32 × xM)} (hf : f_X3_negate_j37 σ = some x) (hR : ∀ g, x = g → Q (.inl (some (.int g.1))) (g.2) π) : xMach G π J_X3_negate (d + 1) C Z 37 [] [] σ Q := by
  unfold f_X3_negate_j37 at hf
  refine xm_iconst dX3_negate_37 (v := 1) (by decide) ?_
  cases hf
  exact xm_zret dX3_negate_38 rfl rfl (hR _ rfl)
def f_X3_negate (σ : xM) (l0 : Nat) (l1 : Int32) : Option (Int32 × xM) :=
  (if (0 : Int32) ≤ l1 then xlet (0 : Int32) (fun v1 => (xloop (f_X3_negate_s8 ) xF (l0, l1, v1, σ)).bind (Sum.elim (fun g => some g) (fun e => f_X3_negate_j37 e))) else some ((0 : Int32), σ))
set_option maxHeartbeats 4000000 in
set_option maxRecDepth 20000 in
theorem m_X3_negate {G : xG} {π : Nat → Nat} {d C Z : Nat} {Q : xQ} {σ : xM} {l0 : Nat} {l1 : Int32} {x : (Int32 × xM)} (hf : f_X3_negate σ l0 l1 = some x) (hR : ∀ g, x = g → Q (.inl (some (.int g.1))) (g.2) π) : xMach G π J_X3_negate (d + 1) C Z 0 (lv_args 0 [.ref l0, .int l1]) [] σ Q := by
  unfold f_X3_negate at hf
  refine xm_stL (L' := [(0, .ref l0), (1, .int l1)]) rfl ?_
  refine xm_iload_n dX3_negate_0 rfl ?_
  refine xb_if_ge 6 dX3_negate_1 (by decide) hf (fun c hf => ?_) (fun c hf => ?_)
  · refine xm_iconst dX3_negate_6 (v := 0) (by decide) ?_
    refine xb_topi hf (fun v1 ev1 hf => ?_)
    refine xm_istore_n dX3_negate_7 (by decide) (xm_stL (L' := [(2, .int v1), (0, .ref l0), (1, .int l1)]) rfl ?_)
    obtain ⟨o, h1, hf⟩ := xbind hf
    refine xm_sub [1, 2, 0] rfl (L_X3_negate_l8  h1 (fun g hg => ?_) (fun e he => ?_))
    · subst hg
      cases hf
      exact hR _ rfl
    · subst he
      rw [Sum.elim_inr] at hf
      have hf : f_X3_negate_j37 e = some _ := hf
      exact xm_sub [] rfl (L_X3_negate_j37 e hf hR)
  · refine xm_iconst dX3_negate_4 (v := 0) (by decide) ?_
    cases hf
    exact xm_zret dX3_negate_5 rfl rfl (hR _ rfl)
-- Rankwise$Gatherer.degreeFrom(II)I
def f_X3_degreeFrom_s5 (σ : xM) (s : (Nat × Int32 × Int32 × Int32)) : Option (Int32 ⊕ ((Int32) ⊕ (Nat × Int32 × Int32 × Int32))) :=
  xlet s.1 (fun l0 => xlet s.2.1 (fun l1 => xlet s.2.2.1 (fun l3 => xlet s.2.2.2 (fun l4 => (if l4 ≤ (0 : Int32) then some (Sum.inr (Sum.inl l3)) else (gR σ l0 3 2).bind (fun x1 => ((aR σ x1 16 ((l1 * (9 : Int32)) + l4)).bind id).bind (fun x2 => (if xk σ x2 2 = true then (f_X2_isZero σ x2).bind (fun p3 => (if p3 = (0 : Int32) then some (Sum.inr (Sum.inl l3)) else xlet (l4 - (1 : Int32)) (fun v4 => xlet (l4 + (-1 : Int32)) (fun v5 => some (Sum.inr (Sum.inr (l0, l1, v4, v5))))))) else none))))))))
set_option maxHeartbeats 4000000 in
set_option maxRecDepth 20000 in
theorem L_X3_degreeFrom_s5 {G : xG} {π : Nat → Nat} {d C Z : Nat} {Q : xQ} (σ : xM) (l0 : Nat) (l1 : Int32) (l3 : Int32) (l4 : Int32) {x : (Int32 ⊕ ((Int32) ⊕ (Nat × Int32 × Int32 × Int32)))} (hf : f_X3_degreeFrom_s5 σ (l0, l1, l3, l4) = some x) (hR : ∀ g, x = Sum.inl (g) → Q (.inl (some (.int g))) (σ) π) (hE : ∀ e : (Int32), x = Sum.inr (Sum.inl e) → xMach G π J_X3_degreeFrom (d + 2) C Z 39 [(3, .int e)] [] σ Q) (hC : ∀ e : (Nat × Int32 × Int32 × Int32), x = Sum.inr (Sum.inr e) → xMach G π J_X3_degreeFrom (d + 2) C Z 5 [(0, .ref e.1), (1, .int e.2.1), (3, .int e.2.2.1), (4, .int e.2.2.2)] [] σ Q) : xMach G π J_X3_degreeFrom (d + 2) C Z 5 [(0, .ref l0), (1, .int l1), (3, .int l3), (4, .int l4)] [] σ Q := by
  have hf : (if l4 ≤ (0 : Int32) then some (Sum.inr (Sum.inl l3)) else (gR σ l0 3 2).bind (fun x1 => ((aR σ x1 16 ((l1 * (9 : Int32)) + l4)).bind id).bind (fun x2 => (if xk σ x2 2 = true then (f_X2_isZero σ x2).bind (fun p3 => (if p3 = (0 : Int32) then some (Sum.inr (Sum.inl l3)) else xlet (l4 - (1 : Int32)) (fun v4 => xlet (l4 + (-1 : Int32)) (fun v5 => some (Sum.inr (Sum.inr (l0, l1, v4, v5))))))) else none)))) = some x := hf
  refine xm_iload dX3_degreeFrom_5 rfl ?_
  refine xb_if_le 39 dX3_degreeFrom_7 (by decide) hf (fun c hf => ?_) (fun c hf => ?_)
  · cases hf
    exact xm_sub [2] rfl (hE _ rfl)
  · refine xm_aload_n dX3_degreeFrom_10 rfl ?_
    refine xb_getR (a := l0) (c := 3) (k := 2) dX3_degreeFrom_11 xcl3 (by decide) xw_551 rfl hf (fun x1 ex1 hf => ?_)
    refine xm_iload_n dX3_degreeFrom_14 rfl ?_
    refine xm_bipush dX3_degreeFrom_15 (v := 9) (by decide) ?_
    refine xm_imul dX3_degreeFrom_17 ?_
    refine xm_iload dX3_degreeFrom_18 rfl ?_
    refine xm_iadd dX3_degreeFrom_20 ?_
    refine xb_aaldS dX3_degreeFrom_21 (by decide) hf (fun x2 ex2 hf => ?_)
    refine xb_if hf (fun hb hf => ?_) (fun _ q => nomatch q)
    obtain ⟨p3, ep3, hf⟩ := xbind hf
    refine xb_callV (As := []) (v0 := (some (.int p3))) (τ0 := σ) dX3_degreeFrom_22 (xc_X2_isZero _ _) xcl2 xw_1592 xw_1170 xw_1171 hb rfl (Nat.le_of_ble_eq_true rfl) rfl (Nat.le_of_ble_eq_true rfl) (fun Q1 hq => m_X2_isZero (d := d + 0) ep3 (fun g hg => by subst hg; exact hq)) ?_
    refine xb_if_eq 39 dX3_degreeFrom_25 (by decide) hf (fun c hf => ?_) (fun c hf => ?_)
    · cases hf
      exact xm_sub [2] rfl (hE _ rfl)
    · refine xm_iload dX3_degreeFrom_28 rfl ?_
      refine xm_iconst dX3_degreeFrom_30 (v := 1) (by decide) ?_
      refine xm_isub dX3_degreeFrom_31 ?_
      refine xb_topi hf (fun v4 ev4 hf => ?_)
      refine xm_istore_n dX3_degreeFrom_32 (by decide) (xm_stL (L' := [(3, .int v4), (0, .ref l0), (1, .int l1), (4, .int l4)]) rfl ?_)
      refine xb_iinc dX3_degreeFrom_33 rfl (by decide) (by decide) hf (fun v5 ev5 hf => xm_stL (L' := [(4, .int v5), (3, .int v4), (0, .ref l0), (1, .int l1)]) rfl ?_)
      refine xm_goto 5 dX3_degreeFrom_36 (by decide) ?_
      cases hf
      exact xm_sub [2, 3, 1, 0] rfl (hC _ rfl)
theorem L_X3_degreeFrom_l5 {G : xG} {π : Nat → Nat} {d C Z : Nat} {Q : xQ} (σ : xM) {s0 : (Nat × Int32 × Int32 × Int32)} {x : (Int32 ⊕ (Int32))} (h1 : xloop (f_X3_degreeFrom_s5 σ) xF s0 = some x) (hR : ∀ g, x = Sum.inl g → Q (.inl (some (.int g))) (σ) π) (hE : ∀ e : (Int32), x = Sum.inr e → xMach G π J_X3_degreeFrom (d + 2) C Z 39 [(3, .int e)] [] σ Q) : xMach G π J_X3_degreeFrom (d + 2) C Z 5 [(0, .ref s0.1), (1, .int s0.2.1), (3, .int s0.2.2.1), (4, .int s0.2.2.2)] [] σ Q := by
  refine xloop_run (M := (fun s : (Nat × Int32 × Int32 × Int32) => xMach G π J_X3_degreeFrom (d + 2) C Z 5 [(0, .ref s.1), (1, .int s.2.1), (3, .int s.2.2.1), (4, .int s.2.2.2)] [] σ Q)) (r := x) ?_ xF _ h1
  intro s y hs hx
  exact L_X3_degreeFrom_s5 σ s.1 s.2.1 s.2.2.1 s.2.2.2 (x := y) hs (fun g hg => by subst hg; exact hR g hx) (fun e he => by subst he; exact hE e hx) (fun e he => by subst he; exact hx)
def f_X3_degreeFrom_j39 (σ : xM) (l3 : Int32) : Option Int32 :=
  some l3
set_option maxHeartbeats 4000000 in
set_option maxRecDepth 20000 in
theorem L_X3_degreeFrom_j39 {G : xG} {π : Nat → Nat} {d C Z : Nat} {Q : xQ} (σ : xM) (l3 : Int32) {x : Int32} (hf : f_X3_degreeFrom_j39 σ l3 = some x) (hR : ∀ g, x = g → Q (.inl (some (.int g))) (σ) π) : xMach G π J_X3_degreeFrom (d + 2) C Z 39 [(3, .int l3)] [] σ Q := by
  unfold f_X3_degreeFrom_j39 at hf
  refine xm_iload_n dX3_degreeFrom_39 rfl ?_
  cases hf
  exact xm_iret dX3_degreeFrom_40 rfl (hR _ rfl)
def f_X3_degreeFrom (σ : xM) (l0 : Nat) (l1 : Int32) (l2 : Int32) : Option Int32 :=
  (xloop (f_X3_degreeFrom_s5 σ ) xF (l0, l1, l2, l2)).bind (Sum.elim (fun g => some g) (fun e => f_X3_degreeFrom_j39 σ e))
set_option maxHeartbeats 4000000 in
set_option maxRecDepth 20000 in
theorem m_X3_degreeFrom {G : xG} {π : Nat → Nat} {d C Z : Nat} {Q : xQ} {σ : xM} {l0 : Nat} {l1 : Int32} {l2 : Int32} {x : Int32} (hf : f_X3_degreeFrom σ l0 l1 l2 = some x) (hR : ∀ g, x = g → Q (.inl (some (.int g))) (σ) π) : xMach G π J_X3_degreeFrom (d + 2) C Z 0 (lv_args 0 [.ref l0, .int l1, .int l2]) [] σ Q := by
  unfold f_X3_degreeFrom at hf
  refine xm_stL (L' := [(0, .ref l0), (1, .int l1), (2, .int l2)]) rfl ?_
  refine xm_iload_n dX3_degreeFrom_0 rfl ?_
  refine xm_istore_n dX3_degreeFrom_1 (by decide) (xm_stL (L' := [(3, .int l2), (0, .ref l0), (1, .int l1), (2, .int l2)]) rfl ?_)
  refine xm_iload_n dX3_degreeFrom_2 rfl ?_
  refine xm_istore dX3_degreeFrom_3 (by decide) (xm_stL (L' := [(4, .int l2), (3, .int l2), (0, .ref l0), (1, .int l1), (2, .int l2)]) rfl ?_)
  obtain ⟨o, h1, hf⟩ := xbind hf
  refine xm_sub [2, 3, 1, 0] rfl (L_X3_degreeFrom_l5 σ h1 (fun g hg => ?_) (fun e he => ?_))
  · subst hg
    cases hf
    exact hR _ rfl
  · subst he
    rw [Sum.elim_inr] at hf
    have hf : f_X3_degreeFrom_j39 σ e = some _ := hf
    exact xm_sub [0] rfl (L_X3_degreeFrom_j39 σ e hf hR)
-- Rankwise$Gatherer.addRows(IZ)Z
def f_X3_addRows_s27 (s : (Nat × Int32 × Int32 × Int32 × Int32 × Int32 × xM)) : Option ((Int32 × xM) ⊕ (((xM) ⊕ (Nat × Int32 × Int32 × xM)) ⊕ (Nat × Int32 × Int32 × Int32 × Int32 × Int32 × xM))) :=
  xlet s.1 (fun l0 => xlet s.2.1 (fun l1 => xlet s.2.2.1 (fun l2 => xlet s.2.2.2.1 (fun l3 => xlet s.2.2.2.2.1 (fun l4 => xlet s.2.2.2.2.2.1 (fun l5 => xlet s.2.2.2.2.2.2 (fun σ => (if l4 < l5 then some (Sum.inr (Sum.inl (Sum.inr (l0, l1, l4, σ)))) else (if (9 : Int32) ≤ l5 then some (Sum.inr (Sum.inl (Sum.inr (l0, l1, l4, σ)))) else (gR σ l0 3 1).bind (fun x8 => (gR σ l0 3 7).bind (fun x9 => (gR σ l0 3 2).bind (fun x10 => ((aR σ x10 16 (l3 + l5)).bind id).bind (fun x11 => (gR σ l0 3 2).bind (fun x12 => ((aR σ x12 16 ((l3 + (9 : Int32)) + l5)).bind id).bind (fun x13 => (if xk σ x8 0 = true then (f_X0_sum σ x8 x9 x11 x13 l2).bind (fun p14 => (gR p14 l0 3 1).bind (fun x15 => (gR p14 l0 3 7).bind (fun x16 => (if xk p14 x15 0 = true then (f_X0_settle p14 x15 x16).bind (fun p17 => (gR p17 l0 3 7).bind (fun x18 => (if xk p17 x18 2 = true then (f_X2_fits p17 x18).bind (fun p19 => (if p19 = (0 : Int32) then some (Sum.inr (Sum.inl (Sum.inl p17))) else (gR p17 l0 3 2).bind (fun x20 => ((aR p17 x20 16 (l3 + l5)).bind id).bind (fun x21 => (gR p17 l0 3 7).bind (fun x22 => (if xk p17 x21 2 = true then (f_X2_copy p17 x21 x22).bind (fun p23 => xlet (l5 + (1 : Int32)) (fun v24 => some (Sum.inr (Sum.inr (l0, l1, l2, l3, l4, v24, p23))))) else none)))))) else none))) else none)))) else none))))))))))))))))
set_option maxHeartbeats 4000000 in
set_option maxRecDepth 20000 in
theorem L_X3_addRows_s27 {G : xG} {π : Nat → Nat} {d C Z : Nat} {Q : xQ} (σ : xM) (l0 : Nat) (l1 : Int32) (l2 : Int32) (l3 : Int32) (l4 : Int32) (l5 : Int32) {x : ((Int32 × xM) ⊕ (((xM) ⊕ (Nat × Int32 × Int32 × xM)) ⊕ (Nat × Int32 × Int32 × Int32 × Int32 × Int32 × xM)))} (hf : f_X3_addRows_s27 (l0, l1, l2, l3, l4, l5, σ) = some x) (hR : ∀ g, x = Sum.inl (g) → Q (.inl (some (.int g.1))) (g.2) π) (hE0 : ∀ e : (xM), x = Sum.inr (Sum.inl (Sum.inl e)) → xMach G π J_X3_addRows (d + 3) C Z 95 [] [] e Q) (hE1 : ∀ e : (Nat × Int32 × Int32 × xM), x = Sum.inr (Sum.inl (Sum.inr e)) → xMach G π J_X3_addRows (d + 3) C Z 119 [(0, .ref e.1), (1, .int e.2.1), (4, .int e.2.2.1)] [] e.2.2.2 Q) (hC : ∀ e : (Nat × Int32 × Int32 × Int32 × Int32 × Int32 × xM), x = Sum.inr (Sum.inr e) → xMach G π J_X3_addRows (d + 3) C Z 27 [(0, .ref e.1), (1, .int e.2.1), (2, .int e.2.2.1), (3, .int e.2.2.2.1), (4, .int e.2.2.2.2.1), (5, .int e.2.2.2.2.2.1)] [] e.2.2.2.2.2.2 Q) : xMach G π J_X3_addRows (d + 3) C Z 27 [(0, .ref l0), (1, .int l1), (2, .int l2), (3, .int l3), (4, .int l4), (5, .int l5)] [] σ Q := by
  have hf : (if l4 < l5 then some (Sum.inr (Sum.inl (Sum.inr (l0, l1, l4, σ)))) else (if (9 : Int32) ≤ l5 then some (Sum.inr (Sum.inl (Sum.inr (l0, l1, l4, σ)))) else (gR σ l0 3 1).bind (fun x8 => (gR σ l0 3 7).bind (fun x9 => (gR σ l0 3 2).bind (fun x10 => ((aR σ x10 16 (l3 + l5)).bind id).bind (fun x11 => (gR σ l0 3 2).bind (fun x12 => ((aR σ x12 16 ((l3 + (9 : Int32)) + l5)).bind id).bind (fun x13 => (if xk σ x8 0 = true then (f_X0_sum σ x8 x9 x11 x13 l2).bind (fun p14 => (gR p14 l0 3 1).bind (fun x15 => (gR p14 l0 3 7).bind (fun x16 => (if xk p14 x15 0 = true then (f_X0_settle p14 x15 x16).bind (fun p17 => (gR p17 l0 3 7).bind (fun x18 => (if xk p17 x18 2 = true then (f_X2_fits p17 x18).bind (fun p19 => (if p19 = (0 : Int32) then some (Sum.inr (Sum.inl (Sum.inl p17))) else (gR p17 l0 3 2).bind (fun x20 => ((aR p17 x20 16 (l3 + l5)).bind id).bind (fun x21 => (gR p17 l0 3 7).bind (fun x22 => (if xk p17 x21 2 = true then (f_X2_copy p17 x21 x22).bind (fun p23 => xlet (l5 + (1 : Int32)) (fun v24 => some (Sum.inr (Sum.inr (l0, l1, l2, l3, l4, v24, p23))))) else none)))))) else none))) else none)))) else none))))))))) = some x := hf
  refine xm_iload dX3_addRows_27 rfl ?_
  refine xm_iload dX3_addRows_29 rfl ?_
  refine xb_icmp_gt 119 dX3_addRows_31 (by decide) hf (fun c hf => ?_) (fun c hf => ?_)
  · cases hf
    exact xm_sub [0, 1, 4] rfl (hE1 _ rfl)
  · refine xm_iload dX3_addRows_34 rfl ?_
    refine xm_bipush dX3_addRows_36 (v := 9) (by decide) ?_
    refine xb_icmp_ge 119 dX3_addRows_38 (by decide) hf (fun c hf => ?_) (fun c hf => ?_)
    · cases hf
      exact xm_sub [0, 1, 4] rfl (hE1 _ rfl)
    · refine xm_aload_n dX3_addRows_41 rfl ?_
      refine xb_getR (a := l0) (c := 3) (k := 1) dX3_addRows_42 xcl3 (by decide) xw_550 rfl hf (fun x8 ex8 hf => ?_)
      refine xm_aload_n dX3_addRows_45 rfl ?_
      refine xb_getR (a := l0) (c := 3) (k := 7) dX3_addRows_46 xcl3 (by decide) xw_556 rfl hf (fun x9 ex9 hf => ?_)
      refine xm_aload_n dX3_addRows_49 rfl ?_
      refine xb_getR (a := l0) (c := 3) (k := 2) dX3_addRows_50 xcl3 (by decide) xw_551 rfl hf (fun x10 ex10 hf => ?_)
      refine xm_iload_n dX3_addRows_53 rfl ?_
      refine xm_iload dX3_addRows_54 rfl ?_
      refine xm_iadd dX3_addRows_56 ?_
      refine xb_aaldS dX3_addRows_57 (by decide) hf (fun x11 ex11 hf => ?_)
      refine xm_aload_n dX3_addRows_58 rfl ?_
      refine xb_getR (a := l0) (c := 3) (k := 2) dX3_addRows_59 xcl3 (by decide) xw_551 rfl hf (fun x12 ex12 hf => ?_)
      refine xm_iload_n dX3_addRows_62 rfl ?_
      refine xm_bipush dX3_addRows_63 (v := 9) (by decide) ?_
      refine xm_iadd dX3_addRows_65 ?_
      refine xm_iload dX3_addRows_66 rfl ?_
      refine xm_iadd dX3_addRows_68 ?_
      refine xb_aaldS dX3_addRows_69 (by decide) hf (fun x13 ex13 hf => ?_)
      refine xm_iload_n dX3_addRows_70 rfl ?_
      refine xb_if hf (fun hb hf => ?_) (fun _ q => nomatch q)
      obtain ⟨p14, ep14, hf⟩ := xbind hf
      refine xb_callV (As := [.ref x9, .ref x11, .ref x13, .int l2]) (v0 := none) (τ0 := p14) dX3_addRows_71 (xc_X0_sum _ _) xcl0 xw_1585 xw_1218 xw_1219 hb rfl (Nat.le_of_ble_eq_true rfl) rfl (Nat.le_of_ble_eq_true rfl) (fun Q1 hq => m_X0_sum (d := d + 0) ep14 (fun g hg => by subst hg; exact hq)) ?_
      refine xm_aload_n dX3_addRows_74 rfl ?_
      refine xb_getR (a := l0) (c := 3) (k := 1) dX3_addRows_75 xcl3 (by decide) xw_550 rfl hf (fun x15 ex15 hf => ?_)
      refine xm_aload_n dX3_addRows_78 rfl ?_
      refine xb_getR (a := l0) (c := 3) (k := 7) dX3_addRows_79 xcl3 (by decide) xw_556 rfl hf (fun x16 ex16 hf => ?_)
      refine xb_if hf (fun hb hf => ?_) (fun _ q => nomatch q)
      obtain ⟨p17, ep17, hf⟩ := xbind hf
      refine xb_callV (As := [.ref x16]) (v0 := none) (τ0 := p17) dX3_addRows_82 (xc_X0_settle _ _) xcl0 xw_1586 xw_1262 xw_1263 hb rfl (Nat.le_of_ble_eq_true rfl) rfl (Nat.le_of_ble_eq_true rfl) (fun Q1 hq => m_X0_settle (d := d + 0) ep17 (fun g hg => by subst hg; exact hq)) ?_
      refine xm_aload_n dX3_addRows_85 rfl ?_
      refine xb_getR (a := l0) (c := 3) (k := 7) dX3_addRows_86 xcl3 (by decide) xw_556 rfl hf (fun x18 ex18 hf => ?_)
      refine xb_if hf (fun hb hf => ?_) (fun _ q => nomatch q)
      obtain ⟨p19, ep19, hf⟩ := xbind hf
      refine xb_callV (As := []) (v0 := (some (.int p19))) (τ0 := p17) dX3_addRows_89 (xc_X2_fits _ _) xcl2 xw_1587 xw_1304 xw_1305 hb rfl (Nat.le_of_ble_eq_true rfl) rfl (Nat.le_of_ble_eq_true rfl) (fun Q1 hq => m_X2_fits (d := d + 1) ep19 (fun g hg => by subst hg; exact hq)) ?_
      refine xb_if_ne 97 dX3_addRows_92 (by decide) hf (fun c hf => ?_) (fun c hf => ?_)
      · refine xm_aload_n dX3_addRows_97 rfl ?_
        refine xb_getR (a := l0) (c := 3) (k := 2) dX3_addRows_98 xcl3 (by decide) xw_551 rfl hf (fun x20 ex20 hf => ?_)
        refine xm_iload_n dX3_addRows_101 rfl ?_
        refine xm_iload dX3_addRows_102 rfl ?_
        refine xm_iadd dX3_addRows_104 ?_
        refine xb_aaldS dX3_addRows_105 (by decide) hf (fun x21 ex21 hf => ?_)
        refine xm_aload_n dX3_addRows_106 rfl ?_
        refine xb_getR (a := l0) (c := 3) (k := 7) dX3_addRows_107 xcl3 (by decide) xw_556 rfl hf (fun x22 ex22 hf => ?_)
        refine xb_if hf (fun hb hf => ?_) (fun _ q => nomatch q)
        obtain ⟨p23, ep23, hf⟩ := xbind hf
        refine xb_callV (As := [.ref x22]) (v0 := none) (τ0 := p23) dX3_addRows_110 (xc_X2_copy _ _) xcl2 xw_1573 xw_750 xw_751 hb rfl (Nat.le_of_ble_eq_true rfl) rfl (Nat.le_of_ble_eq_true rfl) (fun Q1 hq => m_X2_copy (d := d + 0) ep23 (fun g hg => by subst hg; exact hq)) ?_
        refine xb_iinc dX3_addRows_113 rfl (by decide) (by decide) hf (fun v24 ev24 hf => xm_stL (L' := [(5, .int v24), (0, .ref l0), (1, .int l1), (2, .int l2), (3, .int l3), (4, .int l4)]) rfl ?_)
        refine xm_goto 27 dX3_addRows_116 (by decide) ?_
        cases hf
        exact xm_sub [1, 2, 3, 4, 5, 0] rfl (hC _ rfl)
      · cases hf
        exact xm_sub [] rfl (hE0 _ rfl)
theorem L_X3_addRows_l27 {G : xG} {π : Nat → Nat} {d C Z : Nat} {Q : xQ} {s0 : (Nat × Int32 × Int32 × Int32 × Int32 × Int32 × xM)} {x : ((Int32 × xM) ⊕ ((xM) ⊕ (Nat × Int32 × Int32 × xM)))} (h1 : xloop (f_X3_addRows_s27) xF s0 = some x) (hR : ∀ g, x = Sum.inl g → Q (.inl (some (.int g.1))) (g.2) π) (hE0 : ∀ e : (xM), x = Sum.inr (Sum.inl e) → xMach G π J_X3_addRows (d + 3) C Z 95 [] [] e Q) (hE1 : ∀ e : (Nat × Int32 × Int32 × xM), x = Sum.inr (Sum.inr e) → xMach G π J_X3_addRows (d + 3) C Z 119 [(0, .ref e.1), (1, .int e.2.1), (4, .int e.2.2.1)] [] e.2.2.2 Q) : xMach G π J_X3_addRows (d + 3) C Z 27 [(0, .ref s0.1), (1, .int s0.2.1), (2, .int s0.2.2.1), (3, .int s0.2.2.2.1), (4, .int s0.2.2.2.2.1), (5, .int s0.2.2.2.2.2.1)] [] s0.2.2.2.2.2.2 Q := by
  refine xloop_run (M := (fun s : (Nat × Int32 × Int32 × Int32 × Int32 × Int32 × xM) => xMach G π J_X3_addRows (d + 3) C Z 27 [(0, .ref s.1), (1, .int s.2.1), (2, .int s.2.2.1), (3, .int s.2.2.2.1), (4, .int s.2.2.2.2.1), (5, .int s.2.2.2.2.2.1)] [] s.2.2.2.2.2.2 Q)) (r := x) ?_ xF _ h1
  intro s y hs hx
  exact L_X3_addRows_s27 s.2.2.2.2.2.2 s.1 s.2.1 s.2.2.1 s.2.2.2.1 s.2.2.2.2.1 s.2.2.2.2.2.1 (x := y) hs (fun g hg => by subst hg; exact hR g hx) (fun e he => by subst he; exact hE0 e hx) (fun e he => by subst he; exact hE1 e hx) (fun e he => by subst he; exact hx)
def f_X3_addRows_j95 (σ : xM)  : Option (Int32 × xM) :=
  some ((0 : Int32), σ)
set_option maxHeartbeats 4000000 in
set_option maxRecDepth 20000 in
theorem L_X3_addRows_j95 {G : xG} {π : Nat → Nat} {d C Z : Nat} {Q : xQ} (σ : xM)  {x : (Int32 × xM)} (hf : f_X3_addRows_j95 σ = some x) (hR : ∀ g, x = g → Q (.inl (some (.int g.1))) (g.2) π) : xMach G π J_X3_addRows (d + 3) C Z 95 [] [] σ Q := by
  unfold f_X3_addRows_j95 at hf
  refine xm_iconst dX3_addRows_95 (v := 0) (by decide) ?_
  cases hf
  exact xm_zret dX3_addRows_96 rfl rfl (hR _ rfl)
def f_X3_addRows_j119 (σ : xM) (l0 : Nat) (l1 : Int32) (l4 : Int32) : Option (Int32 × xM) :=
  (gR σ l0 3 3).bind (fun x25 => (if xk σ l0 3 = true then (f_X3_degreeFrom σ l0 l1 l4).bind (fun p26 => (wI σ x25 l1 p26).bind (fun σ27 => some ((1 : Int32), σ27))) else none))
set_option maxHeartbeats 4000000 in
set_option maxRecDepth 20000 in
theorem L_X3_addRows_j119 {G : xG} {π : Nat → Nat} {d C Z : Nat} {Q : xQ} (σ : xM) (l0 : Nat) (l1 : Int32) (l4 : Int32) {x : (Int32 × xM)} (hf : f_X3_addRows_j119 σ l0 l1 l4 = some x) (hR : ∀ g, x = g → Q (.inl (some (.int g.1))) (g.2) π) : xMach G π J_X3_addRows (d + 3) C Z 119 [(0, .ref l0), (1, .int l1), (4, .int l4)] [] σ Q := by
  unfold f_X3_addRows_j119 at hf
  refine xm_aload_n dX3_addRows_119 rfl ?_
  refine xb_getR (a := l0) (c := 3) (k := 3) dX3_addRows_120 xcl3 (by decide) xw_552 rfl hf (fun x25 ex25 hf => ?_)
  refine xm_iload_n dX3_addRows_123 rfl ?_
  refine xm_aload_n dX3_addRows_124 rfl ?_
  refine xm_iload_n dX3_addRows_125 rfl ?_
  refine xm_iload dX3_addRows_126 rfl ?_
  refine xb_if hf (fun hb hf => ?_) (fun _ q => nomatch q)
  obtain ⟨p26, ep26, hf⟩ := xbind hf
  refine xb_callV (As := [.int l1, .int l4]) (v0 := (some (.int p26))) (τ0 := σ) dX3_addRows_128 (xc_X3_degreeFrom _ _) xcl3 xw_1588 xw_1590 xs_63 hb rfl (Nat.le_of_ble_eq_true rfl) rfl (Nat.le_of_ble_eq_true rfl) (fun Q1 hq => m_X3_degreeFrom (d := d + 0) ep26 (fun g hg => by subst hg; exact hq)) ?_
  refine xb_iast dX3_addRows_131 hf (fun σ27 eσ27 hf => ?_)
  refine xm_iconst dX3_addRows_132 (v := 1) (by decide) ?_
  cases hf
  exact xm_zret dX3_addRows_133 rfl rfl (hR _ rfl)
def f_X3_addRows (σ : xM) (l0 : Nat) (l1 : Int32) (l2 : Int32) : Option (Int32 × xM) :=
  xlet (l1 * (9 : Int32)) (fun v1 => (gR σ l0 3 3).bind (fun x2 => (aI σ x2 14 l1).bind (fun x3 => (gR σ l0 3 3).bind (fun x4 => (aI σ x4 14 (l1 + (1 : Int32))).bind (fun x5 => xlet (if x3 < x5 then x5 else x3) (fun v6 => xlet (0 : Int32) (fun v7 => (xloop (f_X3_addRows_s27 ) xF (l0, l1, l2, v1, v6, v7, σ)).bind (Sum.elim (fun g => some g) (Sum.elim (fun e => f_X3_addRows_j95 e) (fun e => f_X3_addRows_j119 e.2.2.2 e.1 e.2.1 e.2.2.1))))))))))
set_option maxHeartbeats 4000000 in
set_option maxRecDepth 20000 in
theorem m_X3_addRows {G : xG} {π : Nat → Nat} {d C Z : Nat} {Q : xQ} {σ : xM} {l0 : Nat} {l1 : Int32} {l2 : Int32} {x : (Int32 × xM)} (hf : f_X3_addRows σ l0 l1 l2 = some x) (hR : ∀ g, x = g → Q (.inl (some (.int g.1))) (g.2) π) : xMach G π J_X3_addRows (d + 3) C Z 0 (lv_args 0 [.ref l0, .int l1, .int l2]) [] σ Q := by
  unfold f_X3_addRows at hf
  refine xm_stL (L' := [(0, .ref l0), (1, .int l1), (2, .int l2)]) rfl ?_
  refine xm_iload_n dX3_addRows_0 rfl ?_
  refine xm_bipush dX3_addRows_1 (v := 9) (by decide) ?_
  refine xm_imul dX3_addRows_3 ?_
  refine xb_topi hf (fun v1 ev1 hf => ?_)
  refine xm_istore_n dX3_addRows_4 (by decide) (xm_stL (L' := [(3, .int v1), (0, .ref l0), (1, .int l1), (2, .int l2)]) rfl ?_)
  refine xm_aload_n dX3_addRows_5 rfl ?_
  refine xb_getR (a := l0) (c := 3) (k := 3) dX3_addRows_6 xcl3 (by decide) xw_552 rfl hf (fun x2 ex2 hf => ?_)
  refine xm_iload_n dX3_addRows_9 rfl ?_
  refine xb_iald dX3_addRows_10 hf (fun x3 ex3 hf => ?_)
  refine xm_aload_n dX3_addRows_11 rfl ?_
  refine xb_getR (a := l0) (c := 3) (k := 3) dX3_addRows_12 xcl3 (by decide) xw_552 rfl hf (fun x4 ex4 hf => ?_)
  refine xm_iload_n dX3_addRows_15 rfl ?_
  refine xm_iconst dX3_addRows_16 (v := 1) (by decide) ?_
  refine xm_iadd dX3_addRows_17 ?_
  refine xb_iald dX3_addRows_18 hf (fun x5 ex5 hf => ?_)
  refine xm_max dX3_addRows_19 xw_1584 xw_118 xw_7 xw_119 (Nat.le_of_ble_eq_true rfl) ?_
  refine xb_topi hf (fun v6 ev6 hf => ?_)
  refine xm_istore dX3_addRows_22 (by decide) (xm_stL (L' := [(4, .int v6), (3, .int v1), (0, .ref l0), (1, .int l1), (2, .int l2)]) rfl ?_)
  refine xm_iconst dX3_addRows_24 (v := 0) (by decide) ?_
  refine xb_topi hf (fun v7 ev7 hf => ?_)
  refine xm_istore dX3_addRows_25 (by decide) (xm_stL (L' := [(5, .int v7), (4, .int v6), (3, .int v1), (0, .ref l0), (1, .int l1), (2, .int l2)]) rfl ?_)
  obtain ⟨o, h1, hf⟩ := xbind hf
  refine xm_sub [3, 4, 5, 2, 1, 0] rfl (L_X3_addRows_l27  h1 (fun g hg => ?_) (fun e he => ?_) (fun e he => ?_))
  · subst hg
    cases hf
    exact hR _ rfl
  · subst he
    rw [Sum.elim_inr, Sum.elim_inl] at hf
    have hf : f_X3_addRows_j95 e = some _ := hf
    exact xm_sub [] rfl (L_X3_addRows_j95 e hf hR)
  · subst he
    rw [Sum.elim_inr, Sum.elim_inr] at hf
    have hf : f_X3_addRows_j119 e.2.2.2 e.1 e.2.1 e.2.2.1 = some _ := hf
    exact xm_sub [0, 1, 2] rfl (L_X3_addRows_j119 e.2.2.2 e.1 e.2.1 e.2.2.1 hf hR)
-- Rankwise$Gatherer.timesRow(II)V
def f_X3_timesRow_j155 (σ : xM) (l0 : Nat) (l1 : Int32) (l2 : Int32) (l3 : Int32) (l4 : Int32) (l5 : Int32) : Option (xM ⊕ ((Nat × Int32 × Int32 × Int32 × Int32 × xM) ⊕ (Nat × Int32 × Int32 × Int32 × Int32 × Int32 × xM))) :=
  xlet (l5 + (1 : Int32)) (fun v12 => some (Sum.inr (Sum.inr (l0, l1, l2, l3, l4, v12, σ))))
set_option maxHeartbeats 4000000 in
set_option maxRecDepth 20000 in
theorem L_X3_timesRow_j155 {G : xG} {π : Nat → Nat} {d C Z : Nat} {Q : xQ} (σ : xM) (l0 : Nat) (l1 : Int32) (l2 : Int32) (l3 : Int32) (l4 : Int32) (l5 : Int32) {x : (xM ⊕ ((Nat × Int32 × Int32 × Int32 × Int32 × xM) ⊕ (Nat × Int32 × Int32 × Int32 × Int32 × Int32 × xM)))} (hf : f_X3_timesRow_j155 σ l0 l1 l2 l3 l4 l5 = some x) (hR : ∀ g, x = Sum.inl (g) → Q (.inl none) (g) π) (hE : ∀ e : (Nat × Int32 × Int32 × Int32 × Int32 × xM), x = Sum.inr (Sum.inl e) → xMach G π J_X3_timesRow (d + 3) C Z 161 [(0, .ref e.1), (1, .int e.2.1), (2, .int e.2.2.1), (3, .int e.2.2.2.1), (4, .int e.2.2.2.2.1)] [] e.2.2.2.2.2 Q) (hC : ∀ e : (Nat × Int32 × Int32 × Int32 × Int32 × Int32 × xM), x = Sum.inr (Sum.inr e) → xMach G π J_X3_timesRow (d + 3) C Z 41 [(0, .ref e.1), (1, .int e.2.1), (2, .int e.2.2.1), (3, .int e.2.2.2.1), (4, .int e.2.2.2.2.1), (5, .int e.2.2.2.2.2.1)] [] e.2.2.2.2.2.2 Q) : xMach G π J_X3_timesRow (d + 3) C Z 155 [(0, .ref l0), (1, .int l1), (2, .int l2), (3, .int l3), (4, .int l4), (5, .int l5)] [] σ Q := by
  unfold f_X3_timesRow_j155 at hf
  refine xb_iinc dX3_timesRow_155 rfl (by decide) (by decide) hf (fun v12 ev12 hf => xm_stL (L' := [(5, .int v12), (0, .ref l0), (1, .int l1), (2, .int l2), (3, .int l3), (4, .int l4)]) rfl ?_)
  refine xm_goto 41 dX3_timesRow_158 (by decide) ?_
  cases hf
  exact xm_sub [1, 2, 3, 4, 5, 0] rfl (hC _ rfl)
def f_X3_timesRow_s41 (s : (Nat × Int32 × Int32 × Int32 × Int32 × Int32 × xM)) : Option (xM ⊕ ((Nat × Int32 × Int32 × Int32 × Int32 × xM) ⊕ (Nat × Int32 × Int32 × Int32 × Int32 × Int32 × xM))) :=
  xlet s.1 (fun l0 => xlet s.2.1 (fun l1 => xlet s.2.2.1 (fun l2 => xlet s.2.2.2.1 (fun l3 => xlet s.2.2.2.2.1 (fun l4 => xlet s.2.2.2.2.2.1 (fun l5 => xlet s.2.2.2.2.2.2 (fun σ => (if l4 < l5 then some (Sum.inr (Sum.inl (l0, l1, l2, l3, l4, σ))) else (if l2 < l5 then some (Sum.inr (Sum.inl (l0, l1, l2, l3, l4, σ))) else (gR σ l0 3 6).bind (fun x9 => ((aR σ x9 16 l5).bind id).bind (fun x10 => (if xk σ x10 2 = true then (f_X2_isZero σ x10).bind (fun p11 => (if p11 = (0 : Int32) then (gR σ l0 3 2).bind (fun x13 => ((aR σ x13 16 ((l3 + l4) - l5)).bind id).bind (fun x14 => (if xk σ x14 2 = true then (f_X2_isZero σ x14).bind (fun p15 => (if p15 = (0 : Int32) then (gR σ l0 3 1).bind (fun x16 => (gR σ l0 3 7).bind (fun x17 => (gR σ l0 3 6).bind (fun x18 => ((aR σ x18 16 l5).bind id).bind (fun x19 => (gR σ l0 3 2).bind (fun x20 => ((aR σ x20 16 ((l3 + l4) - l5)).bind id).bind (fun x21 => (if xk σ x16 0 = true then (f_X0_times σ x16 x17 x19 x21).bind (fun p22 => (gR p22 l0 3 1).bind (fun x23 => (gR p22 l0 3 5).bind (fun x24 => ((aR p22 x24 16 l4).bind id).bind (fun x25 => (gR p22 l0 3 5).bind (fun x26 => ((aR p22 x26 16 l4).bind id).bind (fun x27 => (gR p22 l0 3 7).bind (fun x28 => (if xk p22 x23 0 = true then (f_X0_sum p22 x23 x25 x27 x28 (0 : Int32)).bind (fun p29 => (gR p29 l0 3 1).bind (fun x30 => (gR p29 l0 3 5).bind (fun x31 => ((aR p29 x31 16 l4).bind id).bind (fun x32 => (if xk p29 x30 0 = true then (f_X0_settle p29 x30 x32).bind (fun p33 => f_X3_timesRow_j155 p33 l0 l1 l2 l3 l4 l5) else none))))) else none)))))))) else none))))))) else f_X3_timesRow_j155 σ l0 l1 l2 l3 l4 l5)) else none))) else f_X3_timesRow_j155 σ l0 l1 l2 l3 l4 l5)) else none))))))))))))
set_option maxHeartbeats 4000000 in
set_option maxRecDepth 20000 in
theorem L_X3_timesRow_s41 {G : xG} {π : Nat → Nat} {d C Z : Nat} {Q : xQ} (σ : xM) (l0 : Nat) (l1 : Int32) (l2 : Int32) (l3 : Int32) (l4 : Int32) (l5 : Int32) {x : (xM ⊕ ((Nat × Int32 × Int32 × Int32 × Int32 × xM) ⊕ (Nat × Int32 × Int32 × Int32 × Int32 × Int32 × xM)))} (hf : f_X3_timesRow_s41 (l0, l1, l2, l3, l4, l5, σ) = some x) (hR : ∀ g, x = Sum.inl (g) → Q (.inl none) (g) π) (hE : ∀ e : (Nat × Int32 × Int32 × Int32 × Int32 × xM), x = Sum.inr (Sum.inl e) → xMach G π J_X3_timesRow (d + 3) C Z 161 [(0, .ref e.1), (1, .int e.2.1), (2, .int e.2.2.1), (3, .int e.2.2.2.1), (4, .int e.2.2.2.2.1)] [] e.2.2.2.2.2 Q) (hC : ∀ e : (Nat × Int32 × Int32 × Int32 × Int32 × Int32 × xM), x = Sum.inr (Sum.inr e) → xMach G π J_X3_timesRow (d + 3) C Z 41 [(0, .ref e.1), (1, .int e.2.1), (2, .int e.2.2.1), (3, .int e.2.2.2.1), (4, .int e.2.2.2.2.1), (5, .int e.2.2.2.2.2.1)] [] e.2.2.2.2.2.2 Q) : xMach G π J_X3_timesRow (d + 3) C Z 41 [(0, .ref l0), (1, .int l1), (2, .int l2), (3, .int l3), (4, .int l4), (5, .int l5)] [] σ Q := by
  have hf : (if l4 < l5 then some (Sum.inr (Sum.inl (l0, l1, l2, l3, l4, σ))) else (if l2 < l5 then some (Sum.inr (Sum.inl (l0, l1, l2, l3, l4, σ))) else (gR σ l0 3 6).bind (fun x9 => ((aR σ x9 16 l5).bind id).bind (fun x10 => (if xk σ x10 2 = true then (f_X2_isZero σ x10).bind (fun p11 => (if p11 = (0 : Int32) then (gR σ l0 3 2).bind (fun x13 => ((aR σ x13 16 ((l3 + l4) - l5)).bind id).bind (fun x14 => (if xk σ x14 2 = true then (f_X2_isZero σ x14).bind (fun p15 => (if p15 = (0 : Int32) then (gR σ l0 3 1).bind (fun x16 => (gR σ l0 3 7).bind (fun x17 => (gR σ l0 3 6).bind (fun x18 => ((aR σ x18 16 l5).bind id).bind (fun x19 => (gR σ l0 3 2).bind (fun x20 => ((aR σ x20 16 ((l3 + l4) - l5)).bind id).bind (fun x21 => (if xk σ x16 0 = true then (f_X0_times σ x16 x17 x19 x21).bind (fun p22 => (gR p22 l0 3 1).bind (fun x23 => (gR p22 l0 3 5).bind (fun x24 => ((aR p22 x24 16 l4).bind id).bind (fun x25 => (gR p22 l0 3 5).bind (fun x26 => ((aR p22 x26 16 l4).bind id).bind (fun x27 => (gR p22 l0 3 7).bind (fun x28 => (if xk p22 x23 0 = true then (f_X0_sum p22 x23 x25 x27 x28 (0 : Int32)).bind (fun p29 => (gR p29 l0 3 1).bind (fun x30 => (gR p29 l0 3 5).bind (fun x31 => ((aR p29 x31 16 l4).bind id).bind (fun x32 => (if xk p29 x30 0 = true then (f_X0_settle p29 x30 x32).bind (fun p33 => f_X3_timesRow_j155 p33 l0 l1 l2 l3 l4 l5) else none))))) else none)))))))) else none))))))) else f_X3_timesRow_j155 σ l0 l1 l2 l3 l4 l5)) else none))) else f_X3_timesRow_j155 σ l0 l1 l2 l3 l4 l5)) else none))))) = some x := hf
  refine xm_iload dX3_timesRow_41 rfl ?_
  refine xm_iload dX3_timesRow_43 rfl ?_
  refine xb_icmp_gt 161 dX3_timesRow_45 (by decide) hf (fun c hf => ?_) (fun c hf => ?_)
  · cases hf
    exact xm_sub [0, 1, 2, 3, 4] rfl (hE _ rfl)
  · refine xm_iload dX3_timesRow_48 rfl ?_
    refine xm_iload_n dX3_timesRow_50 rfl ?_
    refine xb_icmp_gt 161 dX3_timesRow_51 (by decide) hf (fun c hf => ?_) (fun c hf => ?_)
    · cases hf
      exact xm_sub [0, 1, 2, 3, 4] rfl (hE _ rfl)
    · refine xm_aload_n dX3_timesRow_54 rfl ?_
      refine xb_getR (a := l0) (c := 3) (k := 6) dX3_timesRow_55 xcl3 (by decide) xw_555 rfl hf (fun x9 ex9 hf => ?_)
      refine xm_iload dX3_timesRow_58 rfl ?_
      refine xb_aaldS dX3_timesRow_60 (by decide) hf (fun x10 ex10 hf => ?_)
      refine xb_if hf (fun hb hf => ?_) (fun _ q => nomatch q)
      obtain ⟨p11, ep11, hf⟩ := xbind hf
      refine xb_callV (As := []) (v0 := (some (.int p11))) (τ0 := σ) dX3_timesRow_61 (xc_X2_isZero _ _) xcl2 xw_1592 xw_1170 xw_1171 hb rfl (Nat.le_of_ble_eq_true rfl) rfl (Nat.le_of_ble_eq_true rfl) (fun Q1 hq => m_X2_isZero (d := d + 1) ep11 (fun g hg => by subst hg; exact hq)) ?_
      refine xb_if_ne 155 dX3_timesRow_64 (by decide) hf (fun c hf => ?_) (fun c hf => ?_)
      · exact xm_sub [0, 1, 2, 3, 4, 5] rfl (L_X3_timesRow_j155 σ l0 l1 l2 l3 l4 l5 hf hR hE hC)
      · refine xm_aload_n dX3_timesRow_67 rfl ?_
        refine xb_getR (a := l0) (c := 3) (k := 2) dX3_timesRow_68 xcl3 (by decide) xw_551 rfl hf (fun x13 ex13 hf => ?_)
        refine xm_iload_n dX3_timesRow_71 rfl ?_
        refine xm_iload dX3_timesRow_72 rfl ?_
        refine xm_iadd dX3_timesRow_74 ?_
        refine xm_iload dX3_timesRow_75 rfl ?_
        refine xm_isub dX3_timesRow_77 ?_
        refine xb_aaldS dX3_timesRow_78 (by decide) hf (fun x14 ex14 hf => ?_)
        refine xb_if hf (fun hb hf => ?_) (fun _ q => nomatch q)
        obtain ⟨p15, ep15, hf⟩ := xbind hf
        refine xb_callV (As := []) (v0 := (some (.int p15))) (τ0 := σ) dX3_timesRow_79 (xc_X2_isZero _ _) xcl2 xw_1592 xw_1170 xw_1171 hb rfl (Nat.le_of_ble_eq_true rfl) rfl (Nat.le_of_ble_eq_true rfl) (fun Q1 hq => m_X2_isZero (d := d + 1) ep15 (fun g hg => by subst hg; exact hq)) ?_
        refine xb_if_ne 155 dX3_timesRow_82 (by decide) hf (fun c hf => ?_) (fun c hf => ?_)
        · exact xm_sub [0, 1, 2, 3, 4, 5] rfl (L_X3_timesRow_j155 σ l0 l1 l2 l3 l4 l5 hf hR hE hC)
        · refine xm_aload_n dX3_timesRow_85 rfl ?_
          refine xb_getR (a := l0) (c := 3) (k := 1) dX3_timesRow_86 xcl3 (by decide) xw_550 rfl hf (fun x16 ex16 hf => ?_)
          refine xm_aload_n dX3_timesRow_89 rfl ?_
          refine xb_getR (a := l0) (c := 3) (k := 7) dX3_timesRow_90 xcl3 (by decide) xw_556 rfl hf (fun x17 ex17 hf => ?_)
          refine xm_aload_n dX3_timesRow_93 rfl ?_
          refine xb_getR (a := l0) (c := 3) (k := 6) dX3_timesRow_94 xcl3 (by decide) xw_555 rfl hf (fun x18 ex18 hf => ?_)
          refine xm_iload dX3_timesRow_97 rfl ?_
          refine xb_aaldS dX3_timesRow_99 (by decide) hf (fun x19 ex19 hf => ?_)
          refine xm_aload_n dX3_timesRow_100 rfl ?_
          refine xb_getR (a := l0) (c := 3) (k := 2) dX3_timesRow_101 xcl3 (by decide) xw_551 rfl hf (fun x20 ex20 hf => ?_)
          refine xm_iload_n dX3_timesRow_104 rfl ?_
          refine xm_iload dX3_timesRow_105 rfl ?_
          refine xm_iadd dX3_timesRow_107 ?_
          refine xm_iload dX3_timesRow_108 rfl ?_
          refine xm_isub dX3_timesRow_110 ?_
          refine xb_aaldS dX3_timesRow_111 (by decide) hf (fun x21 ex21 hf => ?_)
          refine xb_if hf (fun hb hf => ?_) (fun _ q => nomatch q)
          obtain ⟨p22, ep22, hf⟩ := xbind hf
          refine xb_callV (As := [.ref x17, .ref x19, .ref x21]) (v0 := none) (τ0 := p22) dX3_timesRow_112 (xc_X0_times _ _) xcl0 xw_1601 xw_1337 xw_1338 hb rfl (Nat.le_of_ble_eq_true rfl) rfl (Nat.le_of_ble_eq_true rfl) (fun Q1 hq => m_X0_times (d := d + 0) ep22 (fun g hg => by subst hg; exact hq)) ?_
          refine xm_aload_n dX3_timesRow_115 rfl ?_
          refine xb_getR (a := l0) (c := 3) (k := 1) dX3_timesRow_116 xcl3 (by decide) xw_550 rfl hf (fun x23 ex23 hf => ?_)
          refine xm_aload_n dX3_timesRow_119 rfl ?_
          refine xb_getR (a := l0) (c := 3) (k := 5) dX3_timesRow_120 xcl3 (by decide) xw_554 rfl hf (fun x24 ex24 hf => ?_)
          refine xm_iload dX3_timesRow_123 rfl ?_
          refine xb_aaldS dX3_timesRow_125 (by decide) hf (fun x25 ex25 hf => ?_)
          refine xm_aload_n dX3_timesRow_126 rfl ?_
          refine xb_getR (a := l0) (c := 3) (k := 5) dX3_timesRow_127 xcl3 (by decide) xw_554 rfl hf (fun x26 ex26 hf => ?_)
          refine xm_iload dX3_timesRow_130 rfl ?_
          refine xb_aaldS dX3_timesRow_132 (by decide) hf (fun x27 ex27 hf => ?_)
          refine xm_aload_n dX3_timesRow_133 rfl ?_
          refine xb_getR (a := l0) (c := 3) (k := 7) dX3_timesRow_134 xcl3 (by decide) xw_556 rfl hf (fun x28 ex28 hf => ?_)
          refine xm_iconst dX3_timesRow_137 (v := 0) (by decide) ?_
          refine xb_if hf (fun hb hf => ?_) (fun _ q => nomatch q)
          obtain ⟨p29, ep29, hf⟩ := xbind hf
          refine xb_callV (As := [.ref x25, .ref x27, .ref x28, .int (0 : Int32)]) (v0 := none) (τ0 := p29) dX3_timesRow_138 (xc_X0_sum _ _) xcl0 xw_1585 xw_1218 xw_1219 hb rfl (Nat.le_of_ble_eq_true rfl) rfl (Nat.le_of_ble_eq_true rfl) (fun Q1 hq => m_X0_sum (d := d + 0) ep29 (fun g hg => by subst hg; exact hq)) ?_
          refine xm_aload_n dX3_timesRow_141 rfl ?_
          refine xb_getR (a := l0) (c := 3) (k := 1) dX3_timesRow_142 xcl3 (by decide) xw_550 rfl hf (fun x30 ex30 hf => ?_)
          refine xm_aload_n dX3_timesRow_145 rfl ?_
          refine xb_getR (a := l0) (c := 3) (k := 5) dX3_timesRow_146 xcl3 (by decide) xw_554 rfl hf (fun x31 ex31 hf => ?_)
          refine xm_iload dX3_timesRow_149 rfl ?_
          refine xb_aaldS dX3_timesRow_151 (by decide) hf (fun x32 ex32 hf => ?_)
          refine xb_if hf (fun hb hf => ?_) (fun _ q => nomatch q)
          obtain ⟨p33, ep33, hf⟩ := xbind hf
          refine xb_callV (As := [.ref x32]) (v0 := none) (τ0 := p33) dX3_timesRow_152 (xc_X0_settle _ _) xcl0 xw_1586 xw_1262 xw_1263 hb rfl (Nat.le_of_ble_eq_true rfl) rfl (Nat.le_of_ble_eq_true rfl) (fun Q1 hq => m_X0_settle (d := d + 0) ep33 (fun g hg => by subst hg; exact hq)) ?_
          exact xm_sub [0, 1, 2, 3, 4, 5] rfl (L_X3_timesRow_j155 p33 l0 l1 l2 l3 l4 l5 hf hR hE hC)
theorem L_X3_timesRow_l41 {G : xG} {π : Nat → Nat} {d C Z : Nat} {Q : xQ} {s0 : (Nat × Int32 × Int32 × Int32 × Int32 × Int32 × xM)} {x : (xM ⊕ (Nat × Int32 × Int32 × Int32 × Int32 × xM))} (h1 : xloop (f_X3_timesRow_s41) xF s0 = some x) (hR : ∀ g, x = Sum.inl g → Q (.inl none) (g) π) (hE : ∀ e : (Nat × Int32 × Int32 × Int32 × Int32 × xM), x = Sum.inr e → xMach G π J_X3_timesRow (d + 3) C Z 161 [(0, .ref e.1), (1, .int e.2.1), (2, .int e.2.2.1), (3, .int e.2.2.2.1), (4, .int e.2.2.2.2.1)] [] e.2.2.2.2.2 Q) : xMach G π J_X3_timesRow (d + 3) C Z 41 [(0, .ref s0.1), (1, .int s0.2.1), (2, .int s0.2.2.1), (3, .int s0.2.2.2.1), (4, .int s0.2.2.2.2.1), (5, .int s0.2.2.2.2.2.1)] [] s0.2.2.2.2.2.2 Q := by
  refine xloop_run (M := (fun s : (Nat × Int32 × Int32 × Int32 × Int32 × Int32 × xM) => xMach G π J_X3_timesRow (d + 3) C Z 41 [(0, .ref s.1), (1, .int s.2.1), (2, .int s.2.2.1), (3, .int s.2.2.2.1), (4, .int s.2.2.2.2.1), (5, .int s.2.2.2.2.2.1)] [] s.2.2.2.2.2.2 Q)) (r := x) ?_ xF _ h1
  intro s y hs hx
  exact L_X3_timesRow_s41 s.2.2.2.2.2.2 s.1 s.2.1 s.2.2.1 s.2.2.2.1 s.2.2.2.2.1 s.2.2.2.2.2.1 (x := y) hs (fun g hg => by subst hg; exact hR g hx) (fun e he => by subst he; exact hE e hx) (fun e he => by subst he; exact hx)
def f_X3_timesRow_j161 (σ : xM) (l0 : Nat) (l1 : Int32) (l2 : Int32) (l3 : Int32) (l4 : Int32) : Option (xM ⊕ ((xM) ⊕ (Nat × Int32 × Int32 × Int32 × Int32 × xM))) :=
  xlet (l4 + (1 : Int32)) (fun v34 => some (Sum.inr (Sum.inr (l0, l1, l2, l3, v34, σ))))
set_option maxHeartbeats 4000000 in
set_option maxRecDepth 20000 in
theorem L_X3_timesRow_j161 {G : xG} {π : Nat → Nat} {d C Z : Nat} {Q : xQ} (σ : xM) (l0 : Nat) (l1 : Int32) (l2 : Int32) (l3 : Int32) (l4 : Int32) {x : (xM ⊕ ((xM) ⊕ (Nat × Int32 × Int32 × Int32 × Int32 × xM)))} (hf : f_X3_timesRow_j161 σ l0 l1 l2 l3 l4 = some x) (hR : ∀ g, x = Sum.inl (g) → Q (.inl none) (g) π) (hE : ∀ e : (xM), x = Sum.inr (Sum.inl e) → xMach G π J_X3_timesRow (d + 3) C Z 167 [] [] e Q) (hC : ∀ e : (Nat × Int32 × Int32 × Int32 × Int32 × xM), x = Sum.inr (Sum.inr e) → xMach G π J_X3_timesRow (d + 3) C Z 8 [(0, .ref e.1), (1, .int e.2.1), (2, .int e.2.2.1), (3, .int e.2.2.2.1), (4, .int e.2.2.2.2.1)] [] e.2.2.2.2.2 Q) : xMach G π J_X3_timesRow (d + 3) C Z 161 [(0, .ref l0), (1, .int l1), (2, .int l2), (3, .int l3), (4, .int l4)] [] σ Q := by
  unfold f_X3_timesRow_j161 at hf
  refine xb_iinc dX3_timesRow_161 rfl (by decide) (by decide) hf (fun v34 ev34 hf => xm_stL (L' := [(4, .int v34), (0, .ref l0), (1, .int l1), (2, .int l2), (3, .int l3)]) rfl ?_)
  refine xm_goto 8 dX3_timesRow_164 (by decide) ?_
  cases hf
  exact xm_sub [1, 2, 3, 4, 0] rfl (hC _ rfl)
def f_X3_timesRow_s8 (s : (Nat × Int32 × Int32 × Int32 × Int32 × xM)) : Option (xM ⊕ ((xM) ⊕ (Nat × Int32 × Int32 × Int32 × Int32 × xM))) :=
  xlet s.1 (fun l0 => xlet s.2.1 (fun l1 => xlet s.2.2.1 (fun l2 => xlet s.2.2.2.1 (fun l3 => xlet s.2.2.2.2.1 (fun l4 => xlet s.2.2.2.2.2 (fun σ => (if (9 : Int32) ≤ l4 then some (Sum.inr (Sum.inl σ)) else (gR σ l0 3 5).bind (fun x3 => ((aR σ x3 16 l4).bind id).bind (fun x4 => (if xk σ x4 2 = true then (f_X2_set σ x4 (0 : Int64)).bind (fun p5 => (gR p5 l0 3 3).bind (fun x6 => (aI p5 x6 14 l1).bind (fun x7 => xlet (if (l4 - x7) < (0 : Int32) then (0 : Int32) else (l4 - x7)) (fun v8 => (xloop (f_X3_timesRow_s41 ) xF (l0, l1, l2, l3, l4, v8, p5)).bind (Sum.elim (fun g => some (Sum.inl g)) (fun e => f_X3_timesRow_j161 e.2.2.2.2.2 e.1 e.2.1 e.2.2.1 e.2.2.2.1 e.2.2.2.2.1)))))) else none))))))))))
set_option maxHeartbeats 4000000 in
set_option maxRecDepth 20000 in
theorem L_X3_timesRow_s8 {G : xG} {π : Nat → Nat} {d C Z : Nat} {Q : xQ} (σ : xM) (l0 : Nat) (l1 : Int32) (l2 : Int32) (l3 : Int32) (l4 : Int32) {x : (xM ⊕ ((xM) ⊕ (Nat × Int32 × Int32 × Int32 × Int32 × xM)))} (hf : f_X3_timesRow_s8 (l0, l1, l2, l3, l4, σ) = some x) (hR : ∀ g, x = Sum.inl (g) → Q (.inl none) (g) π) (hE : ∀ e : (xM), x = Sum.inr (Sum.inl e) → xMach G π J_X3_timesRow (d + 3) C Z 167 [] [] e Q) (hC : ∀ e : (Nat × Int32 × Int32 × Int32 × Int32 × xM), x = Sum.inr (Sum.inr e) → xMach G π J_X3_timesRow (d + 3) C Z 8 [(0, .ref e.1), (1, .int e.2.1), (2, .int e.2.2.1), (3, .int e.2.2.2.1), (4, .int e.2.2.2.2.1)] [] e.2.2.2.2.2 Q) : xMach G π J_X3_timesRow (d + 3) C Z 8 [(0, .ref l0), (1, .int l1), (2, .int l2), (3, .int l3), (4, .int l4)] [] σ Q := by
  have hf : (if (9 : Int32) ≤ l4 then some (Sum.inr (Sum.inl σ)) else (gR σ l0 3 5).bind (fun x3 => ((aR σ x3 16 l4).bind id).bind (fun x4 => (if xk σ x4 2 = true then (f_X2_set σ x4 (0 : Int64)).bind (fun p5 => (gR p5 l0 3 3).bind (fun x6 => (aI p5 x6 14 l1).bind (fun x7 => xlet (if (l4 - x7) < (0 : Int32) then (0 : Int32) else (l4 - x7)) (fun v8 => (xloop (f_X3_timesRow_s41 ) xF (l0, l1, l2, l3, l4, v8, p5)).bind (Sum.elim (fun g => some (Sum.inl g)) (fun e => f_X3_timesRow_j161 e.2.2.2.2.2 e.1 e.2.1 e.2.2.1 e.2.2.2.1 e.2.2.2.2.1)))))) else none)))) = some x := hf
  refine xm_iload dX3_timesRow_8 rfl ?_
  refine xm_bipush dX3_timesRow_10 (v := 9) (by decide) ?_
  refine xb_icmp_ge 167 dX3_timesRow_12 (by decide) hf (fun c hf => ?_) (fun c hf => ?_)
  · cases hf
    exact xm_sub [] rfl (hE _ rfl)
  · refine xm_aload_n dX3_timesRow_15 rfl ?_
    refine xb_getR (a := l0) (c := 3) (k := 5) dX3_timesRow_16 xcl3 (by decide) xw_554 rfl hf (fun x3 ex3 hf => ?_)
    refine xm_iload dX3_timesRow_19 rfl ?_
    refine xb_aaldS dX3_timesRow_21 (by decide) hf (fun x4 ex4 hf => ?_)
    refine xm_lconst dX3_timesRow_22 (v := 0) (by decide) ?_
    refine xb_if hf (fun hb hf => ?_) (fun _ q => nomatch q)
    obtain ⟨p5, ep5, hf⟩ := xbind hf
    refine xb_callV (As := [.long (0 : Int64)]) (v0 := none) (τ0 := p5) dX3_timesRow_23 (xc_X2_set _ _) xcl2 xw_1572 xw_1250 xw_1251 hb rfl (Nat.le_of_ble_eq_true rfl) rfl (Nat.le_of_ble_eq_true rfl) (fun Q1 hq => m_X2_set (d := d + 1) ep5 (fun g hg => by subst hg; exact hq)) ?_
    refine xm_iload dX3_timesRow_26 rfl ?_
    refine xm_aload_n dX3_timesRow_28 rfl ?_
    refine xb_getR (a := l0) (c := 3) (k := 3) dX3_timesRow_29 xcl3 (by decide) xw_552 rfl hf (fun x6 ex6 hf => ?_)
    refine xm_iload_n dX3_timesRow_32 rfl ?_
    refine xb_iald dX3_timesRow_33 hf (fun x7 ex7 hf => ?_)
    refine xm_isub dX3_timesRow_34 ?_
    refine xm_iconst dX3_timesRow_35 (v := 0) (by decide) ?_
    refine xm_max dX3_timesRow_36 xw_1584 xw_118 xw_7 xw_119 (Nat.le_of_ble_eq_true rfl) ?_
    refine xb_topi hf (fun v8 ev8 hf => ?_)
    refine xm_istore dX3_timesRow_39 (by decide) (xm_stL (L' := [(5, .int v8), (0, .ref l0), (1, .int l1), (2, .int l2), (3, .int l3), (4, .int l4)]) rfl ?_)
    obtain ⟨o, h1, hf⟩ := xbind hf
    refine xm_sub [1, 2, 3, 4, 5, 0] rfl (L_X3_timesRow_l41  h1 (fun g hg => ?_) (fun e he => ?_))
    · subst hg
      cases hf
      exact hR _ rfl
    · subst he
      rw [Sum.elim_inr] at hf
      have hf : f_X3_timesRow_j161 e.2.2.2.2.2 e.1 e.2.1 e.2.2.1 e.2.2.2.1 e.2.2.2.2.1 = some _ := hf
      exact xm_sub [0, 1, 2, 3, 4] rfl (L_X3_timesRow_j161 e.2.2.2.2.2 e.1 e.2.1 e.2.2.1 e.2.2.2.1 e.2.2.2.2.1 hf hR hE hC)
theorem L_X3_timesRow_l8 {G : xG} {π : Nat → Nat} {d C Z : Nat} {Q : xQ} {s0 : (Nat × Int32 × Int32 × Int32 × Int32 × xM)} {x : (xM ⊕ (xM))} (h1 : xloop (f_X3_timesRow_s8) xF s0 = some x) (hR : ∀ g, x = Sum.inl g → Q (.inl none) (g) π) (hE : ∀ e : (xM), x = Sum.inr e → xMach G π J_X3_timesRow (d + 3) C Z 167 [] [] e Q) : xMach G π J_X3_timesRow (d + 3) C Z 8 [(0, .ref s0.1), (1, .int s0.2.1), (2, .int s0.2.2.1), (3, .int s0.2.2.2.1), (4, .int s0.2.2.2.2.1)] [] s0.2.2.2.2.2 Q := by
  refine xloop_run (M := (fun s : (Nat × Int32 × Int32 × Int32 × Int32 × xM) => xMach G π J_X3_timesRow (d + 3) C Z 8 [(0, .ref s.1), (1, .int s.2.1), (2, .int s.2.2.1), (3, .int s.2.2.2.1), (4, .int s.2.2.2.2.1)] [] s.2.2.2.2.2 Q)) (r := x) ?_ xF _ h1
  intro s y hs hx
  exact L_X3_timesRow_s8 s.2.2.2.2.2 s.1 s.2.1 s.2.2.1 s.2.2.2.1 s.2.2.2.2.1 (x := y) hs (fun g hg => by subst hg; exact hR g hx) (fun e he => by subst he; exact hE e hx) (fun e he => by subst he; exact hx)
def f_X3_timesRow_j167 (σ : xM)  : Option xM :=
  some σ
set_option maxHeartbeats 4000000 in
set_option maxRecDepth 20000 in
theorem L_X3_timesRow_j167 {G : xG} {π : Nat → Nat} {d C Z : Nat} {Q : xQ} (σ : xM)  {x : xM} (hf : f_X3_timesRow_j167 σ = some x) (hR : ∀ g, x = g → Q (.inl none) (g) π) : xMach G π J_X3_timesRow (d + 3) C Z 167 [] [] σ Q := by
  unfold f_X3_timesRow_j167 at hf
  cases hf
  exact xm_vret dX3_timesRow_167 rfl (hR _ rfl)
def f_X3_timesRow (σ : xM) (l0 : Nat) (l1 : Int32) (l2 : Int32) : Option xM :=
  xlet (l1 * (9 : Int32)) (fun v1 => xlet (0 : Int32) (fun v2 => (xloop (f_X3_timesRow_s8 ) xF (l0, l1, l2, v1, v2, σ)).bind (Sum.elim (fun g => some g) (fun e => f_X3_timesRow_j167 e))))
set_option maxHeartbeats 4000000 in
set_option maxRecDepth 20000 in
theorem m_X3_timesRow {G : xG} {π : Nat → Nat} {d C Z : Nat} {Q : xQ} {σ : xM} {l0 : Nat} {l1 : Int32} {l2 : Int32} {x : xM} (hf : f_X3_timesRow σ l0 l1 l2 = some x) (hR : ∀ g, x = g → Q (.inl none) (g) π) : xMach G π J_X3_timesRow (d + 3) C Z 0 (lv_args 0 [.ref l0, .int l1, .int l2]) [] σ Q := by
  unfold f_X3_timesRow at hf
  refine xm_stL (L' := [(0, .ref l0), (1, .int l1), (2, .int l2)]) rfl ?_
  refine xm_iload_n dX3_timesRow_0 rfl ?_
  refine xm_bipush dX3_timesRow_1 (v := 9) (by decide) ?_
  refine xm_imul dX3_timesRow_3 ?_
  refine xb_topi hf (fun v1 ev1 hf => ?_)
  refine xm_istore_n dX3_timesRow_4 (by decide) (xm_stL (L' := [(3, .int v1), (0, .ref l0), (1, .int l1), (2, .int l2)]) rfl ?_)
  refine xm_iconst dX3_timesRow_5 (v := 0) (by decide) ?_
  refine xb_topi hf (fun v2 ev2 hf => ?_)
  refine xm_istore dX3_timesRow_6 (by decide) (xm_stL (L' := [(4, .int v2), (3, .int v1), (0, .ref l0), (1, .int l1), (2, .int l2)]) rfl ?_)
  obtain ⟨o, h1, hf⟩ := xbind hf
  refine xm_sub [2, 3, 4, 1, 0] rfl (L_X3_timesRow_l8  h1 (fun g hg => ?_) (fun e he => ?_))
  · subst hg
    cases hf
    exact hR _ rfl
  · subst he
    rw [Sum.elim_inr] at hf
    have hf : f_X3_timesRow_j167 e = some _ := hf
    exact xm_sub [] rfl (L_X3_timesRow_j167 e hf hR)
-- Rankwise$Gatherer.takeProduct(II)Z
def f_X3_takeProduct_s2 (σ : xM) (s : (Nat × Int32 × Int32 × Int32)) : Option ((Int32 × xM) ⊕ ((Unit ⊕ (Nat × Int32 × Int32)) ⊕ (Nat × Int32 × Int32 × Int32))) :=
  xlet s.1 (fun l0 => xlet s.2.1 (fun l1 => xlet s.2.2.1 (fun l2 => xlet s.2.2.2 (fun l3 => (if (9 : Int32) ≤ l3 then some (Sum.inr (Sum.inl (Sum.inr (l0, l1, l2)))) else (gR σ l0 3 5).bind (fun x2 => ((aR σ x2 16 l3).bind id).bind (fun x3 => (if xk σ x3 2 = true then (f_X2_fits σ x3).bind (fun p4 => (if p4 = (0 : Int32) then some (Sum.inr (Sum.inl (Sum.inl ()))) else xlet (l3 + (1 : Int32)) (fun v5 => some (Sum.inr (Sum.inr (l0, l1, l2, v5)))))) else none))))))))
set_option maxHeartbeats 4000000 in
set_option maxRecDepth 20000 in
theorem L_X3_takeProduct_s2 {G : xG} {π : Nat → Nat} {d C Z : Nat} {Q : xQ} (σ : xM) (l0 : Nat) (l1 : Int32) (l2 : Int32) (l3 : Int32) {x : ((Int32 × xM) ⊕ ((Unit ⊕ (Nat × Int32 × Int32)) ⊕ (Nat × Int32 × Int32 × Int32)))} (hf : f_X3_takeProduct_s2 σ (l0, l1, l2, l3) = some x) (hR : ∀ g, x = Sum.inl (g) → Q (.inl (some (.int g.1))) (g.2) π) (hE0 : ∀ e : Unit, x = Sum.inr (Sum.inl (Sum.inl e)) → xMach G π J_X3_takeProduct (d + 3) C Z 20 [] [] σ Q) (hE1 : ∀ e : (Nat × Int32 × Int32), x = Sum.inr (Sum.inl (Sum.inr e)) → xMach G π J_X3_takeProduct (d + 3) C Z 28 [(0, .ref e.1), (1, .int e.2.1), (2, .int e.2.2)] [] σ Q) (hC : ∀ e : (Nat × Int32 × Int32 × Int32), x = Sum.inr (Sum.inr e) → xMach G π J_X3_takeProduct (d + 3) C Z 2 [(0, .ref e.1), (1, .int e.2.1), (2, .int e.2.2.1), (3, .int e.2.2.2)] [] σ Q) : xMach G π J_X3_takeProduct (d + 3) C Z 2 [(0, .ref l0), (1, .int l1), (2, .int l2), (3, .int l3)] [] σ Q := by
  have hf : (if (9 : Int32) ≤ l3 then some (Sum.inr (Sum.inl (Sum.inr (l0, l1, l2)))) else (gR σ l0 3 5).bind (fun x2 => ((aR σ x2 16 l3).bind id).bind (fun x3 => (if xk σ x3 2 = true then (f_X2_fits σ x3).bind (fun p4 => (if p4 = (0 : Int32) then some (Sum.inr (Sum.inl (Sum.inl ()))) else xlet (l3 + (1 : Int32)) (fun v5 => some (Sum.inr (Sum.inr (l0, l1, l2, v5)))))) else none)))) = some x := hf
  refine xm_iload_n dX3_takeProduct_2 rfl ?_
  refine xm_bipush dX3_takeProduct_3 (v := 9) (by decide) ?_
  refine xb_icmp_ge 28 dX3_takeProduct_5 (by decide) hf (fun c hf => ?_) (fun c hf => ?_)
  · cases hf
    exact xm_sub [0, 1, 2] rfl (hE1 _ rfl)
  · refine xm_aload_n dX3_takeProduct_8 rfl ?_
    refine xb_getR (a := l0) (c := 3) (k := 5) dX3_takeProduct_9 xcl3 (by decide) xw_554 rfl hf (fun x2 ex2 hf => ?_)
    refine xm_iload_n dX3_takeProduct_12 rfl ?_
    refine xb_aaldS dX3_takeProduct_13 (by decide) hf (fun x3 ex3 hf => ?_)
    refine xb_if hf (fun hb hf => ?_) (fun _ q => nomatch q)
    obtain ⟨p4, ep4, hf⟩ := xbind hf
    refine xb_callV (As := []) (v0 := (some (.int p4))) (τ0 := σ) dX3_takeProduct_14 (xc_X2_fits _ _) xcl2 xw_1587 xw_1304 xw_1305 hb rfl (Nat.le_of_ble_eq_true rfl) rfl (Nat.le_of_ble_eq_true rfl) (fun Q1 hq => m_X2_fits (d := d + 1) ep4 (fun g hg => by subst hg; exact hq)) ?_
    refine xb_if_ne 22 dX3_takeProduct_17 (by decide) hf (fun c hf => ?_) (fun c hf => ?_)
    · refine xb_iinc dX3_takeProduct_22 rfl (by decide) (by decide) hf (fun v5 ev5 hf => xm_stL (L' := [(3, .int v5), (0, .ref l0), (1, .int l1), (2, .int l2)]) rfl ?_)
      refine xm_goto 2 dX3_takeProduct_25 (by decide) ?_
      cases hf
      exact xm_sub [1, 2, 3, 0] rfl (hC _ rfl)
    · cases hf
      exact xm_sub [] rfl (hE0 _ rfl)
theorem L_X3_takeProduct_l2 {G : xG} {π : Nat → Nat} {d C Z : Nat} {Q : xQ} (σ : xM) {s0 : (Nat × Int32 × Int32 × Int32)} {x : ((Int32 × xM) ⊕ (Unit ⊕ (Nat × Int32 × Int32)))} (h1 : xloop (f_X3_takeProduct_s2 σ) xF s0 = some x) (hR : ∀ g, x = Sum.inl g → Q (.inl (some (.int g.1))) (g.2) π) (hE0 : ∀ e : Unit, x = Sum.inr (Sum.inl e) → xMach G π J_X3_takeProduct (d + 3) C Z 20 [] [] σ Q) (hE1 : ∀ e : (Nat × Int32 × Int32), x = Sum.inr (Sum.inr e) → xMach G π J_X3_takeProduct (d + 3) C Z 28 [(0, .ref e.1), (1, .int e.2.1), (2, .int e.2.2)] [] σ Q) : xMach G π J_X3_takeProduct (d + 3) C Z 2 [(0, .ref s0.1), (1, .int s0.2.1), (2, .int s0.2.2.1), (3, .int s0.2.2.2)] [] σ Q := by
  refine xloop_run (M := (fun s : (Nat × Int32 × Int32 × Int32) => xMach G π J_X3_takeProduct (d + 3) C Z 2 [(0, .ref s.1), (1, .int s.2.1), (2, .int s.2.2.1), (3, .int s.2.2.2)] [] σ Q)) (r := x) ?_ xF _ h1
  intro s y hs hx
  exact L_X3_takeProduct_s2 σ s.1 s.2.1 s.2.2.1 s.2.2.2 (x := y) hs (fun g hg => by subst hg; exact hR g hx) (fun e he => by subst he; exact hE0 e hx) (fun e he => by subst he; exact hE1 e hx) (fun e he => by subst he; exact hx)
def f_X3_takeProduct_j20 (σ : xM)  : Option (Int32 × xM) :=
  some ((0 : Int32), σ)
set_option maxHeartbeats 4000000 in
set_option maxRecDepth 20000 in
theorem L_X3_takeProduct_j20 {G : xG} {π : Nat → Nat} {d C Z : Nat} {Q : xQ} (σ : xM)  {x : (Int32 × xM)} (hf : f_X3_takeProduct_j20 σ = some x) (hR : ∀ g, x = g → Q (.inl (some (.int g.1))) (g.2) π) : xMach G π J_X3_takeProduct (d + 3) C Z 20 [] [] σ Q := by
  unfold f_X3_takeProduct_j20 at hf
  refine xm_iconst dX3_takeProduct_20 (v := 0) (by decide) ?_
  cases hf
  exact xm_zret dX3_takeProduct_21 rfl rfl (hR _ rfl)
def f_X3_takeProduct_s30 (s : (Nat × Int32 × Int32 × Int32 × xM)) : Option ((Int32 × xM) ⊕ ((Nat × Int32 × Int32 × xM) ⊕ (Nat × Int32 × Int32 × Int32 × xM))) :=
  xlet s.1 (fun l0 => xlet s.2.1 (fun l1 => xlet s.2.2.1 (fun l2 => xlet s.2.2.2.1 (fun l3 => xlet s.2.2.2.2 (fun σ => (if (9 : Int32) ≤ l3 then some (Sum.inr (Sum.inl (l0, l1, l2, σ))) else (gR σ l0 3 2).bind (fun x7 => ((aR σ x7 16 ((l1 * (9 : Int32)) + l3)).bind id).bind (fun x8 => (gR σ l0 3 5).bind (fun x9 => ((aR σ x9 16 l3).bind id).bind (fun x10 => (if xk σ x8 2 = true then (f_X2_copy σ x8 x10).bind (fun p11 => xlet (l3 + (1 : Int32)) (fun v12 => some (Sum.inr (Sum.inr (l0, l1, l2, v12, p11))))) else none)))))))))))
set_option maxHeartbeats 4000000 in
set_option maxRecDepth 20000 in
theorem L_X3_takeProduct_s30 {G : xG} {π : Nat → Nat} {d C Z : Nat} {Q : xQ} (σ : xM) (l0 : Nat) (l1 : Int32) (l2 : Int32) (l3 : Int32) {x : ((Int32 × xM) ⊕ ((Nat × Int32 × Int32 × xM) ⊕ (Nat × Int32 × Int32 × Int32 × xM)))} (hf : f_X3_takeProduct_s30 (l0, l1, l2, l3, σ) = some x) (hR : ∀ g, x = Sum.inl (g) → Q (.inl (some (.int g.1))) (g.2) π) (hE : ∀ e : (Nat × Int32 × Int32 × xM), x = Sum.inr (Sum.inl e) → xMach G π J_X3_takeProduct (d + 3) C Z 62 [(0, .ref e.1), (1, .int e.2.1), (2, .int e.2.2.1)] [] e.2.2.2 Q) (hC : ∀ e : (Nat × Int32 × Int32 × Int32 × xM), x = Sum.inr (Sum.inr e) → xMach G π J_X3_takeProduct (d + 3) C Z 30 [(0, .ref e.1), (1, .int e.2.1), (2, .int e.2.2.1), (3, .int e.2.2.2.1)] [] e.2.2.2.2 Q) : xMach G π J_X3_takeProduct (d + 3) C Z 30 [(0, .ref l0), (1, .int l1), (2, .int l2), (3, .int l3)] [] σ Q := by
  have hf : (if (9 : Int32) ≤ l3 then some (Sum.inr (Sum.inl (l0, l1, l2, σ))) else (gR σ l0 3 2).bind (fun x7 => ((aR σ x7 16 ((l1 * (9 : Int32)) + l3)).bind id).bind (fun x8 => (gR σ l0 3 5).bind (fun x9 => ((aR σ x9 16 l3).bind id).bind (fun x10 => (if xk σ x8 2 = true then (f_X2_copy σ x8 x10).bind (fun p11 => xlet (l3 + (1 : Int32)) (fun v12 => some (Sum.inr (Sum.inr (l0, l1, l2, v12, p11))))) else none)))))) = some x := hf
  refine xm_iload_n dX3_takeProduct_30 rfl ?_
  refine xm_bipush dX3_takeProduct_31 (v := 9) (by decide) ?_
  refine xb_icmp_ge 62 dX3_takeProduct_33 (by decide) hf (fun c hf => ?_) (fun c hf => ?_)
  · cases hf
    exact xm_sub [0, 1, 2] rfl (hE _ rfl)
  · refine xm_aload_n dX3_takeProduct_36 rfl ?_
    refine xb_getR (a := l0) (c := 3) (k := 2) dX3_takeProduct_37 xcl3 (by decide) xw_551 rfl hf (fun x7 ex7 hf => ?_)
    refine xm_iload_n dX3_takeProduct_40 rfl ?_
    refine xm_bipush dX3_takeProduct_41 (v := 9) (by decide) ?_
    refine xm_imul dX3_takeProduct_43 ?_
    refine xm_iload_n dX3_takeProduct_44 rfl ?_
    refine xm_iadd dX3_takeProduct_45 ?_
    refine xb_aaldS dX3_takeProduct_46 (by decide) hf (fun x8 ex8 hf => ?_)
    refine xm_aload_n dX3_takeProduct_47 rfl ?_
    refine xb_getR (a := l0) (c := 3) (k := 5) dX3_takeProduct_48 xcl3 (by decide) xw_554 rfl hf (fun x9 ex9 hf => ?_)
    refine xm_iload_n dX3_takeProduct_51 rfl ?_
    refine xb_aaldS dX3_takeProduct_52 (by decide) hf (fun x10 ex10 hf => ?_)
    refine xb_if hf (fun hb hf => ?_) (fun _ q => nomatch q)
    obtain ⟨p11, ep11, hf⟩ := xbind hf
    refine xb_callV (As := [.ref x10]) (v0 := none) (τ0 := p11) dX3_takeProduct_53 (xc_X2_copy _ _) xcl2 xw_1573 xw_750 xw_751 hb rfl (Nat.le_of_ble_eq_true rfl) rfl (Nat.le_of_ble_eq_true rfl) (fun Q1 hq => m_X2_copy (d := d + 0) ep11 (fun g hg => by subst hg; exact hq)) ?_
    refine xb_iinc dX3_takeProduct_56 rfl (by decide) (by decide) hf (fun v12 ev12 hf => xm_stL (L' := [(3, .int v12), (0, .ref l0), (1, .int l1), (2, .int l2)]) rfl ?_)
    refine xm_goto 30 dX3_takeProduct_59 (by decide) ?_
    cases hf
    exact xm_sub [1, 2, 3, 0] rfl (hC _ rfl)
theorem L_X3_takeProduct_l30 {G : xG} {π : Nat → Nat} {d C Z : Nat} {Q : xQ} {s0 : (Nat × Int32 × Int32 × Int32 × xM)} {x : ((Int32 × xM) ⊕ (Nat × Int32 × Int32 × xM))} (h1 : xloop (f_X3_takeProduct_s30) xF s0 = some x) (hR : ∀ g, x = Sum.inl g → Q (.inl (some (.int g.1))) (g.2) π) (hE : ∀ e : (Nat × Int32 × Int32 × xM), x = Sum.inr e → xMach G π J_X3_takeProduct (d + 3) C Z 62 [(0, .ref e.1), (1, .int e.2.1), (2, .int e.2.2.1)] [] e.2.2.2 Q) : xMach G π J_X3_takeProduct (d + 3) C Z 30 [(0, .ref s0.1), (1, .int s0.2.1), (2, .int s0.2.2.1), (3, .int s0.2.2.2.1)] [] s0.2.2.2.2 Q := by
  refine xloop_run (M := (fun s : (Nat × Int32 × Int32 × Int32 × xM) => xMach G π J_X3_takeProduct (d + 3) C Z 30 [(0, .ref s.1), (1, .int s.2.1), (2, .int s.2.2.1), (3, .int s.2.2.2.1)] [] s.2.2.2.2 Q)) (r := x) ?_ xF _ h1
  intro s y hs hx
  exact L_X3_takeProduct_s30 s.2.2.2.2 s.1 s.2.1 s.2.2.1 s.2.2.2.1 (x := y) hs (fun g hg => by subst hg; exact hR g hx) (fun e he => by subst he; exact hE e hx) (fun e he => by subst he; exact hx)
def f_X3_takeProduct_j62 (σ : xM) (l0 : Nat) (l1 : Int32) (l2 : Int32) : Option (Int32 × xM) :=
  (gR σ l0 3 3).bind (fun x13 => (if xk σ l0 3 = true then (f_X3_degreeFrom σ l0 l1 l2).bind (fun p14 => (wI σ x13 l1 p14).bind (fun σ15 => some ((1 : Int32), σ15))) else none))
set_option maxHeartbeats 4000000 in
set_option maxRecDepth 20000 in
theorem L_X3_takeProduct_j62 {G : xG} {π : Nat → Nat} {d C Z : Nat} {Q : xQ} (σ : xM) (l0 : Nat) (l1 : Int32) (l2 : Int32) {x : (Int32 × xM)} (hf : f_X3_takeProduct_j62 σ l0 l1 l2 = some x) (hR : ∀ g, x = g → Q (.inl (some (.int g.1))) (g.2) π) : xMach G π J_X3_takeProduct (d + 3) C Z 62 [(0, .ref l0), (1, .int l1), (2, .int l2)] [] σ Q := by
  unfold f_X3_takeProduct_j62 at hf
  refine xm_aload_n dX3_takeProduct_62 rfl ?_
  refine xb_getR (a := l0) (c := 3) (k := 3) dX3_takeProduct_63 xcl3 (by decide) xw_552 rfl hf (fun x13 ex13 hf => ?_)
  refine xm_iload_n dX3_takeProduct_66 rfl ?_
  refine xm_aload_n dX3_takeProduct_67 rfl ?_
  refine xm_iload_n dX3_takeProduct_68 rfl ?_
  refine xm_iload_n dX3_takeProduct_69 rfl ?_
  refine xb_if hf (fun hb hf => ?_) (fun _ q => nomatch q)
  obtain ⟨p14, ep14, hf⟩ := xbind hf
  refine xb_callV (As := [.int l1, .int l2]) (v0 := (some (.int p14))) (τ0 := σ) dX3_takeProduct_70 (xc_X3_degreeFrom _ _) xcl3 xw_1588 xw_1590 xs_63 hb rfl (Nat.le_of_ble_eq_true rfl) rfl (Nat.le_of_ble_eq_true rfl) (fun Q1 hq => m_X3_degreeFrom (d := d + 0) ep14 (fun g hg => by subst hg; exact hq)) ?_
  refine xb_iast dX3_takeProduct_73 hf (fun σ15 eσ15 hf => ?_)
  refine xm_iconst dX3_takeProduct_74 (v := 1) (by decide) ?_
  cases hf
  exact xm_zret dX3_takeProduct_75 rfl rfl (hR _ rfl)
def f_X3_takeProduct_j28 (σ : xM) (l0 : Nat) (l1 : Int32) (l2 : Int32) : Option (Int32 × xM) :=
  xlet (0 : Int32) (fun v6 => (xloop (f_X3_takeProduct_s30 ) xF (l0, l1, l2, v6, σ)).bind (Sum.elim (fun g => some g) (fun e => f_X3_takeProduct_j62 e.2.2.2 e.1 e.2.1 e.2.2.1)))
set_option maxHeartbeats 4000000 in
set_option maxRecDepth 20000 in
theorem L_X3_takeProduct_j28 {G : xG} {π : Nat → Nat} {d C Z : Nat} {Q : xQ} (σ : xM) (l0 : Nat) (l1 : Int32) (l2 : Int32) {x : (Int32 × xM)} (hf : f_X3_takeProduct_j28 σ l0 l1 l2 = some x) (hR : ∀ g, x = g → Q (.inl (some (.int g.1))) (g.2) π) : xMach G π J_X3_takeProduct (d + 3) C Z 28 [(0, .ref l0), (1, .int l1), (2, .int l2)] [] σ Q := by
  unfold f_X3_takeProduct_j28 at hf
  refine xm_iconst dX3_takeProduct_28 (v := 0) (by decide) ?_
  refine xb_topi hf (fun v6 ev6 hf => ?_)
  refine xm_istore_n dX3_takeProduct_29 (by decide) (xm_stL (L' := [(3, .int v6), (0, .ref l0), (1, .int l1), (2, .int l2)]) rfl ?_)
  obtain ⟨o, h1, hf⟩ := xbind hf
  refine xm_sub [1, 2, 3, 0] rfl (L_X3_takeProduct_l30  h1 (fun g hg => ?_) (fun e he => ?_))
  · subst hg
    cases hf
    exact hR _ rfl
  · subst he
    rw [Sum.elim_inr] at hf
    have hf : f_X3_takeProduct_j62 e.2.2.2 e.1 e.2.1 e.2.2.1 = some _ := hf
    exact xm_sub [0, 1, 2] rfl (L_X3_takeProduct_j62 e.2.2.2 e.1 e.2.1 e.2.2.1 hf hR)
def f_X3_takeProduct (σ : xM) (l0 : Nat) (l1 : Int32) (l2 : Int32) : Option (Int32 × xM) :=
  xlet (0 : Int32) (fun v1 => (xloop (f_X3_takeProduct_s2 σ ) xF (l0, l1, l2, v1)).bind (Sum.elim (fun g => some g) (Sum.elim (fun e => f_X3_takeProduct_j20 σ) (fun e => f_X3_takeProduct_j28 σ e.1 e.2.1 e.2.2))))
set_option maxHeartbeats 4000000 in
set_option maxRecDepth 20000 in
theorem m_X3_takeProduct {G : xG} {π : Nat → Nat} {d C Z : Nat} {Q : xQ} {σ : xM} {l0 : Nat} {l1 : Int32} {l2 : Int32} {x : (Int32 × xM)} (hf : f_X3_takeProduct σ l0 l1 l2 = some x) (hR : ∀ g, x = g → Q (.inl (some (.int g.1))) (g.2) π) : xMach G π J_X3_takeProduct (d + 3) C Z 0 (lv_args 0 [.ref l0, .int l1, .int l2]) [] σ Q := by
  unfold f_X3_takeProduct at hf
  refine xm_stL (L' := [(0, .ref l0), (1, .int l1), (2, .int l2)]) rfl ?_
  refine xm_iconst dX3_takeProduct_0 (v := 0) (by decide) ?_
  refine xb_topi hf (fun v1 ev1 hf => ?_)
  refine xm_istore_n dX3_takeProduct_1 (by decide) (xm_stL (L' := [(3, .int v1), (0, .ref l0), (1, .int l1), (2, .int l2)]) rfl ?_)
  obtain ⟨o, h1, hf⟩ := xbind hf
  refine xm_sub [1, 2, 3, 0] rfl (L_X3_takeProduct_l2 σ h1 (fun g hg => ?_) (fun e he => ?_) (fun e he => ?_))
  · subst hg
    cases hf
    exact hR _ rfl
  · subst he
    rw [Sum.elim_inr, Sum.elim_inl] at hf
    have hf : f_X3_takeProduct_j20 σ = some _ := hf
    exact xm_sub [] rfl (L_X3_takeProduct_j20 σ hf hR)
  · subst he
    rw [Sum.elim_inr, Sum.elim_inr] at hf
    have hf : f_X3_takeProduct_j28 σ e.1 e.2.1 e.2.2 = some _ := hf
    exact xm_sub [0, 1, 2] rfl (L_X3_takeProduct_j28 σ e.1 e.2.1 e.2.2 hf hR)
-- Rankwise$Gatherer.multiplyRows(I)Z
def f_X3_multiplyRows_s26 (s : (Nat × Int32 × Int32 × Int32 × xM)) : Option ((Int32 × xM) ⊕ ((Nat × Int32 × Int32 × xM) ⊕ (Nat × Int32 × Int32 × Int32 × xM))) :=
  xlet s.1 (fun l0 => xlet s.2.1 (fun l1 => xlet s.2.2.1 (fun l2 => xlet s.2.2.2.1 (fun l3 => xlet s.2.2.2.2 (fun σ => (if (9 : Int32) ≤ l3 then some (Sum.inr (Sum.inl (l0, l1, l2, σ))) else (gR σ l0 3 6).bind (fun x7 => ((aR σ x7 16 l3).bind id).bind (fun x8 => (gR σ l0 3 2).bind (fun x9 => ((aR σ x9 16 (((l1 + (1 : Int32)) * (9 : Int32)) + l3)).bind id).bind (fun x10 => (if xk σ x8 2 = true then (f_X2_copy σ x8 x10).bind (fun p11 => xlet (l3 + (1 : Int32)) (fun v12 => some (Sum.inr (Sum.inr (l0, l1, l2, v12, p11))))) else none)))))))))))
set_option maxHeartbeats 4000000 in
set_option maxRecDepth 20000 in
theorem L_X3_multiplyRows_s26 {G : xG} {π : Nat → Nat} {d C Z : Nat} {Q : xQ} (σ : xM) (l0 : Nat) (l1 : Int32) (l2 : Int32) (l3 : Int32) {x : ((Int32 × xM) ⊕ ((Nat × Int32 × Int32 × xM) ⊕ (Nat × Int32 × Int32 × Int32 × xM)))} (hf : f_X3_multiplyRows_s26 (l0, l1, l2, l3, σ) = some x) (hR : ∀ g, x = Sum.inl (g) → Q (.inl (some (.int g.1))) (g.2) π) (hE : ∀ e : (Nat × Int32 × Int32 × xM), x = Sum.inr (Sum.inl e) → xMach G π J_X3_multiplyRows (d + 4) C Z 60 [(0, .ref e.1), (1, .int e.2.1), (2, .int e.2.2.1)] [] e.2.2.2 Q) (hC : ∀ e : (Nat × Int32 × Int32 × Int32 × xM), x = Sum.inr (Sum.inr e) → xMach G π J_X3_multiplyRows (d + 4) C Z 26 [(0, .ref e.1), (1, .int e.2.1), (2, .int e.2.2.1), (3, .int e.2.2.2.1)] [] e.2.2.2.2 Q) : xMach G π J_X3_multiplyRows (d + 4) C Z 26 [(0, .ref l0), (1, .int l1), (2, .int l2), (3, .int l3)] [] σ Q := by
  have hf : (if (9 : Int32) ≤ l3 then some (Sum.inr (Sum.inl (l0, l1, l2, σ))) else (gR σ l0 3 6).bind (fun x7 => ((aR σ x7 16 l3).bind id).bind (fun x8 => (gR σ l0 3 2).bind (fun x9 => ((aR σ x9 16 (((l1 + (1 : Int32)) * (9 : Int32)) + l3)).bind id).bind (fun x10 => (if xk σ x8 2 = true then (f_X2_copy σ x8 x10).bind (fun p11 => xlet (l3 + (1 : Int32)) (fun v12 => some (Sum.inr (Sum.inr (l0, l1, l2, v12, p11))))) else none)))))) = some x := hf
  refine xm_iload_n dX3_multiplyRows_26 rfl ?_
  refine xm_bipush dX3_multiplyRows_27 (v := 9) (by decide) ?_
  refine xb_icmp_ge 60 dX3_multiplyRows_29 (by decide) hf (fun c hf => ?_) (fun c hf => ?_)
  · cases hf
    exact xm_sub [0, 1, 2] rfl (hE _ rfl)
  · refine xm_aload_n dX3_multiplyRows_32 rfl ?_
    refine xb_getR (a := l0) (c := 3) (k := 6) dX3_multiplyRows_33 xcl3 (by decide) xw_555 rfl hf (fun x7 ex7 hf => ?_)
    refine xm_iload_n dX3_multiplyRows_36 rfl ?_
    refine xb_aaldS dX3_multiplyRows_37 (by decide) hf (fun x8 ex8 hf => ?_)
    refine xm_aload_n dX3_multiplyRows_38 rfl ?_
    refine xb_getR (a := l0) (c := 3) (k := 2) dX3_multiplyRows_39 xcl3 (by decide) xw_551 rfl hf (fun x9 ex9 hf => ?_)
    refine xm_iload_n dX3_multiplyRows_42 rfl ?_
    refine xm_iconst dX3_multiplyRows_43 (v := 1) (by decide) ?_
    refine xm_iadd dX3_multiplyRows_44 ?_
    refine xm_bipush dX3_multiplyRows_45 (v := 9) (by decide) ?_
    refine xm_imul dX3_multiplyRows_47 ?_
    refine xm_iload_n dX3_multiplyRows_48 rfl ?_
    refine xm_iadd dX3_multiplyRows_49 ?_
    refine xb_aaldS dX3_multiplyRows_50 (by decide) hf (fun x10 ex10 hf => ?_)
    refine xb_if hf (fun hb hf => ?_) (fun _ q => nomatch q)
    obtain ⟨p11, ep11, hf⟩ := xbind hf
    refine xb_callV (As := [.ref x10]) (v0 := none) (τ0 := p11) dX3_multiplyRows_51 (xc_X2_copy _ _) xcl2 xw_1573 xw_750 xw_751 hb rfl (Nat.le_of_ble_eq_true rfl) rfl (Nat.le_of_ble_eq_true rfl) (fun Q1 hq => m_X2_copy (d := d + 1) ep11 (fun g hg => by subst hg; exact hq)) ?_
    refine xb_iinc dX3_multiplyRows_54 rfl (by decide) (by decide) hf (fun v12 ev12 hf => xm_stL (L' := [(3, .int v12), (0, .ref l0), (1, .int l1), (2, .int l2)]) rfl ?_)
    refine xm_goto 26 dX3_multiplyRows_57 (by decide) ?_
    cases hf
    exact xm_sub [1, 2, 3, 0] rfl (hC _ rfl)
theorem L_X3_multiplyRows_l26 {G : xG} {π : Nat → Nat} {d C Z : Nat} {Q : xQ} {s0 : (Nat × Int32 × Int32 × Int32 × xM)} {x : ((Int32 × xM) ⊕ (Nat × Int32 × Int32 × xM))} (h1 : xloop (f_X3_multiplyRows_s26) xF s0 = some x) (hR : ∀ g, x = Sum.inl g → Q (.inl (some (.int g.1))) (g.2) π) (hE : ∀ e : (Nat × Int32 × Int32 × xM), x = Sum.inr e → xMach G π J_X3_multiplyRows (d + 4) C Z 60 [(0, .ref e.1), (1, .int e.2.1), (2, .int e.2.2.1)] [] e.2.2.2 Q) : xMach G π J_X3_multiplyRows (d + 4) C Z 26 [(0, .ref s0.1), (1, .int s0.2.1), (2, .int s0.2.2.1), (3, .int s0.2.2.2.1)] [] s0.2.2.2.2 Q := by
  refine xloop_run (M := (fun s : (Nat × Int32 × Int32 × Int32 × xM) => xMach G π J_X3_multiplyRows (d + 4) C Z 26 [(0, .ref s.1), (1, .int s.2.1), (2, .int s.2.2.1), (3, .int s.2.2.2.1)] [] s.2.2.2.2 Q)) (r := x) ?_ xF _ h1
  intro s y hs hx
  exact L_X3_multiplyRows_s26 s.2.2.2.2 s.1 s.2.1 s.2.2.1 s.2.2.2.1 (x := y) hs (fun g hg => by subst hg; exact hR g hx) (fun e he => by subst he; exact hE e hx) (fun e he => by subst he; exact hx)
def f_X3_multiplyRows_j60 (σ : xM) (l0 : Nat) (l1 : Int32) (l2 : Int32) : Option (Int32 × xM) :=
  (gR σ l0 3 3).bind (fun x13 => (aI σ x13 14 (l1 + (1 : Int32))).bind (fun x14 => (if xk σ l0 3 = true then (f_X3_timesRow σ l0 l1 x14).bind (fun p15 => (if xk p15 l0 3 = true then (f_X3_takeProduct p15 l0 l1 l2).bind (fun p16 => (xz p16.1).bind (fun b17 => some (b17, p16.2))) else none)) else none)))
set_option maxHeartbeats 4000000 in
set_option maxRecDepth 20000 in
theorem L_X3_multiplyRows_j60 {G : xG} {π : Nat → Nat} {d C Z : Nat} {Q : xQ} (σ : xM) (l0 : Nat) (l1 : Int32) (l2 : Int32) {x : (Int32 × xM)} (hf : f_X3_multiplyRows_j60 σ l0 l1 l2 = some x) (hR : ∀ g, x = g → Q (.inl (some (.int g.1))) (g.2) π) : xMach G π J_X3_multiplyRows (d + 4) C Z 60 [(0, .ref l0), (1, .int l1), (2, .int l2)] [] σ Q := by
  unfold f_X3_multiplyRows_j60 at hf
  refine xm_aload_n dX3_multiplyRows_60 rfl ?_
  refine xm_iload_n dX3_multiplyRows_61 rfl ?_
  refine xm_aload_n dX3_multiplyRows_62 rfl ?_
  refine xb_getR (a := l0) (c := 3) (k := 3) dX3_multiplyRows_63 xcl3 (by decide) xw_552 rfl hf (fun x13 ex13 hf => ?_)
  refine xm_iload_n dX3_multiplyRows_66 rfl ?_
  refine xm_iconst dX3_multiplyRows_67 (v := 1) (by decide) ?_
  refine xm_iadd dX3_multiplyRows_68 ?_
  refine xb_iald dX3_multiplyRows_69 hf (fun x14 ex14 hf => ?_)
  refine xb_if hf (fun hb hf => ?_) (fun _ q => nomatch q)
  obtain ⟨p15, ep15, hf⟩ := xbind hf
  refine xb_callV (As := [.int l1, .int x14]) (v0 := none) (τ0 := p15) dX3_multiplyRows_70 (xc_X3_timesRow _ _) xcl3 xw_1597 xw_1599 xs_65 hb rfl (Nat.le_of_ble_eq_true rfl) rfl (Nat.le_of_ble_eq_true rfl) (fun Q1 hq => m_X3_timesRow (d := d + 0) ep15 (fun g hg => by subst hg; exact hq)) ?_
  refine xm_aload_n dX3_multiplyRows_73 rfl ?_
  refine xm_iload_n dX3_multiplyRows_74 rfl ?_
  refine xm_iload_n dX3_multiplyRows_75 rfl ?_
  refine xb_if hf (fun hb hf => ?_) (fun _ q => nomatch q)
  obtain ⟨p16, ep16, hf⟩ := xbind hf
  refine xb_callV (As := [.int l1, .int l2]) (v0 := (some (.int p16.1))) (τ0 := p16.2) dX3_multiplyRows_76 (xc_X3_takeProduct _ _) xcl3 xw_1602 xw_1604 xs_66 hb rfl (Nat.le_of_ble_eq_true rfl) rfl (Nat.le_of_ble_eq_true rfl) (fun Q1 hq => m_X3_takeProduct (d := d + 0) ep16 (fun g hg => by subst hg; exact hq)) ?_
  obtain ⟨b17, eb17, hf⟩ := xbind hf
  obtain ⟨rfl, hz⟩ := xz_of eb17
  cases hf
  exact xm_zret dX3_multiplyRows_79 rfl hz (hR _ rfl)
def f_X3_multiplyRows (σ : xM) (l0 : Nat) (l1 : Int32) : Option (Int32 × xM) :=
  (gR σ l0 3 3).bind (fun x1 => (aI σ x1 14 l1).bind (fun x2 => (gR σ l0 3 3).bind (fun x3 => (aI σ x3 14 (l1 + (1 : Int32))).bind (fun x4 => xlet (x2 + x4) (fun v5 => (if v5 < (9 : Int32) then xlet (0 : Int32) (fun v6 => (xloop (f_X3_multiplyRows_s26 ) xF (l0, l1, v5, v6, σ)).bind (Sum.elim (fun g => some g) (fun e => f_X3_multiplyRows_j60 e.2.2.2 e.1 e.2.1 e.2.2.1))) else some ((0 : Int32), σ)))))))
set_option maxHeartbeats 4000000 in
set_option maxRecDepth 20000 in
theorem m_X3_multiplyRows {G : xG} {π : Nat → Nat} {d C Z : Nat} {Q : xQ} {σ : xM} {l0 : Nat} {l1 : Int32} {x : (Int32 × xM)} (hf : f_X3_multiplyRows σ l0 l1 = some x) (hR : ∀ g, x = g → Q (.inl (some (.int g.1))) (g.2) π) : xMach G π J_X3_multiplyRows (d + 4) C Z 0 (lv_args 0 [.ref l0, .int l1]) [] σ Q := by
  unfold f_X3_multiplyRows at hf
  refine xm_stL (L' := [(0, .ref l0), (1, .int l1)]) rfl ?_
  refine xm_aload_n dX3_multiplyRows_0 rfl ?_
  refine xb_getR (a := l0) (c := 3) (k := 3) dX3_multiplyRows_1 xcl3 (by decide) xw_552 rfl hf (fun x1 ex1 hf => ?_)
  refine xm_iload_n dX3_multiplyRows_4 rfl ?_
  refine xb_iald dX3_multiplyRows_5 hf (fun x2 ex2 hf => ?_)
  refine xm_aload_n dX3_multiplyRows_6 rfl ?_
  refine xb_getR (a := l0) (c := 3) (k := 3) dX3_multiplyRows_7 xcl3 (by decide) xw_552 rfl hf (fun x3 ex3 hf => ?_)
  refine xm_iload_n dX3_multiplyRows_10 rfl ?_
  refine xm_iconst dX3_multiplyRows_11 (v := 1) (by decide) ?_
  refine xm_iadd dX3_multiplyRows_12 ?_
  refine xb_iald dX3_multiplyRows_13 hf (fun x4 ex4 hf => ?_)
  refine xm_iadd dX3_multiplyRows_14 ?_
  refine xb_topi hf (fun v5 ev5 hf => ?_)
  refine xm_istore_n dX3_multiplyRows_15 (by decide) (xm_stL (L' := [(2, .int v5), (0, .ref l0), (1, .int l1)]) rfl ?_)
  refine xm_iload_n dX3_multiplyRows_16 rfl ?_
  refine xm_bipush dX3_multiplyRows_17 (v := 9) (by decide) ?_
  refine xb_icmp_lt 24 dX3_multiplyRows_19 (by decide) hf (fun c hf => ?_) (fun c hf => ?_)
  · refine xm_iconst dX3_multiplyRows_24 (v := 0) (by decide) ?_
    refine xb_topi hf (fun v6 ev6 hf => ?_)
    refine xm_istore_n dX3_multiplyRows_25 (by decide) (xm_stL (L' := [(3, .int v6), (2, .int v5), (0, .ref l0), (1, .int l1)]) rfl ?_)
    obtain ⟨o, h1, hf⟩ := xbind hf
    refine xm_sub [2, 3, 1, 0] rfl (L_X3_multiplyRows_l26  h1 (fun g hg => ?_) (fun e he => ?_))
    · subst hg
      cases hf
      exact hR _ rfl
    · subst he
      rw [Sum.elim_inr] at hf
      have hf : f_X3_multiplyRows_j60 e.2.2.2 e.1 e.2.1 e.2.2.1 = some _ := hf
      exact xm_sub [0, 1, 2] rfl (L_X3_multiplyRows_j60 e.2.2.2 e.1 e.2.1 e.2.2.1 hf hR)
  · refine xm_iconst dX3_multiplyRows_22 (v := 0) (by decide) ?_
    cases hf
    exact xm_zret dX3_multiplyRows_23 rfl rfl (hR _ rfl)
-- Rankwise$Gatherer.divideRow(I)Z
def f_X3_divideRow_j30 (σ : xM)  : Option (Int32 × xM) :=
  some ((0 : Int32), σ)
set_option maxHeartbeats 4000000 in
set_option maxRecDepth 20000 in
theorem L_X3_divideRow_j30 {G : xG} {π : Nat → Nat} {d C Z : Nat} {Q : xQ} (σ : xM)  {x : (Int32 × xM)} (hf : f_X3_divideRow_j30 σ = some x) (hR : ∀ g, x = g → Q (.inl (some (.int g.1))) (g.2) π) : xMach G π J_X3_divideRow (d + 3) C Z 30 [] [] σ Q := by
  unfold f_X3_divideRow_j30 at hf
  refine xm_iconst dX3_divideRow_30 (v := 0) (by decide) ?_
  cases hf
  exact xm_zret dX3_divideRow_31 rfl rfl (hR _ rfl)
def f_X3_divideRow_s37 (s : (Nat × Int32 × Nat × Int32 × xM)) : Option ((Int32 × xM) ⊕ (((xM) ⊕ (xM)) ⊕ (Nat × Int32 × Nat × Int32 × xM))) :=
  xlet s.1 (fun l0 => xlet s.2.1 (fun l1 => xlet s.2.2.1 (fun l2 => xlet s.2.2.2.1 (fun l3 => xlet s.2.2.2.2 (fun σ => (gR σ l0 3 3).bind (fun x7 => (aI σ x7 14 l1).bind (fun x8 => (if ((l1 * (9 : Int32)) + x8) < l3 then some (Sum.inr (Sum.inl (Sum.inr σ))) else (gR σ l0 3 1).bind (fun x9 => (gR σ l0 3 7).bind (fun x10 => (gR σ l0 3 2).bind (fun x11 => ((aR σ x11 16 l3).bind id).bind (fun x12 => (if xk σ x9 0 = true then (f_X0_over σ x9 x10 x12 l2).bind (fun p13 => (gR p13 l0 3 1).bind (fun x14 => (gR p13 l0 3 7).bind (fun x15 => (if xk p13 x14 0 = true then (f_X0_settle p13 x14 x15).bind (fun p16 => (gR p16 l0 3 7).bind (fun x17 => (if xk p16 x17 2 = true then (f_X2_fits p16 x17).bind (fun p18 => (if p18 = (0 : Int32) then some (Sum.inr (Sum.inl (Sum.inl p16))) else (gR p16 l0 3 2).bind (fun x19 => ((aR p16 x19 16 l3).bind id).bind (fun x20 => (gR p16 l0 3 7).bind (fun x21 => (if xk p16 x20 2 = true then (f_X2_copy p16 x20 x21).bind (fun p22 => xlet (l3 + (1 : Int32)) (fun v23 => some (Sum.inr (Sum.inr (l0, l1, l2, v23, p22))))) else none)))))) else none))) else none)))) else none)))))))))))))
set_option maxHeartbeats 4000000 in
set_option maxRecDepth 20000 in
theorem L_X3_divideRow_s37 {G : xG} {π : Nat → Nat} {d C Z : Nat} {Q : xQ} (σ : xM) (l0 : Nat) (l1 : Int32) (l2 : Nat) (l3 : Int32) {x : ((Int32 × xM) ⊕ (((xM) ⊕ (xM)) ⊕ (Nat × Int32 × Nat × Int32 × xM)))} (hf : f_X3_divideRow_s37 (l0, l1, l2, l3, σ) = some x) (hR : ∀ g, x = Sum.inl (g) → Q (.inl (some (.int g.1))) (g.2) π) (hE0 : ∀ e : (xM), x = Sum.inr (Sum.inl (Sum.inl e)) → xMach G π J_X3_divideRow (d + 3) C Z 91 [] [] e Q) (hE1 : ∀ e : (xM), x = Sum.inr (Sum.inl (Sum.inr e)) → xMach G π J_X3_divideRow (d + 3) C Z 112 [] [] e Q) (hC : ∀ e : (Nat × Int32 × Nat × Int32 × xM), x = Sum.inr (Sum.inr e) → xMach G π J_X3_divideRow (d + 3) C Z 37 [(0, .ref e.1), (1, .int e.2.1), (2, .ref e.2.2.1), (3, .int e.2.2.2.1)] [] e.2.2.2.2 Q) : xMach G π J_X3_divideRow (d + 3) C Z 37 [(0, .ref l0), (1, .int l1), (2, .ref l2), (3, .int l3)] [] σ Q := by
  have hf : (gR σ l0 3 3).bind (fun x7 => (aI σ x7 14 l1).bind (fun x8 => (if ((l1 * (9 : Int32)) + x8) < l3 then some (Sum.inr (Sum.inl (Sum.inr σ))) else (gR σ l0 3 1).bind (fun x9 => (gR σ l0 3 7).bind (fun x10 => (gR σ l0 3 2).bind (fun x11 => ((aR σ x11 16 l3).bind id).bind (fun x12 => (if xk σ x9 0 = true then (f_X0_over σ x9 x10 x12 l2).bind (fun p13 => (gR p13 l0 3 1).bind (fun x14 => (gR p13 l0 3 7).bind (fun x15 => (if xk p13 x14 0 = true then (f_X0_settle p13 x14 x15).bind (fun p16 => (gR p16 l0 3 7).bind (fun x17 => (if xk p16 x17 2 = true then (f_X2_fits p16 x17).bind (fun p18 => (if p18 = (0 : Int32) then some (Sum.inr (Sum.inl (Sum.inl p16))) else (gR p16 l0 3 2).bind (fun x19 => ((aR p16 x19 16 l3).bind id).bind (fun x20 => (gR p16 l0 3 7).bind (fun x21 => (if xk p16 x20 2 = true then (f_X2_copy p16 x20 x21).bind (fun p22 => xlet (l3 + (1 : Int32)) (fun v23 => some (Sum.inr (Sum.inr (l0, l1, l2, v23, p22))))) else none)))))) else none))) else none)))) else none)))))))) = some x := hf
  refine xm_iload_n dX3_divideRow_37 rfl ?_
  refine xm_iload_n dX3_divideRow_38 rfl ?_
  refine xm_bipush dX3_divideRow_39 (v := 9) (by decide) ?_
  refine xm_imul dX3_divideRow_41 ?_
  refine xm_aload_n dX3_divideRow_42 rfl ?_
  refine xb_getR (a := l0) (c := 3) (k := 3) dX3_divideRow_43 xcl3 (by decide) xw_552 rfl hf (fun x7 ex7 hf => ?_)
  refine xm_iload_n dX3_divideRow_46 rfl ?_
  refine xb_iald dX3_divideRow_47 hf (fun x8 ex8 hf => ?_)
  refine xm_iadd dX3_divideRow_48 ?_
  refine xb_icmp_gt 112 dX3_divideRow_49 (by decide) hf (fun c hf => ?_) (fun c hf => ?_)
  · cases hf
    exact xm_sub [] rfl (hE1 _ rfl)
  · refine xm_aload_n dX3_divideRow_52 rfl ?_
    refine xb_getR (a := l0) (c := 3) (k := 1) dX3_divideRow_53 xcl3 (by decide) xw_550 rfl hf (fun x9 ex9 hf => ?_)
    refine xm_aload_n dX3_divideRow_56 rfl ?_
    refine xb_getR (a := l0) (c := 3) (k := 7) dX3_divideRow_57 xcl3 (by decide) xw_556 rfl hf (fun x10 ex10 hf => ?_)
    refine xm_aload_n dX3_divideRow_60 rfl ?_
    refine xb_getR (a := l0) (c := 3) (k := 2) dX3_divideRow_61 xcl3 (by decide) xw_551 rfl hf (fun x11 ex11 hf => ?_)
    refine xm_iload_n dX3_divideRow_64 rfl ?_
    refine xb_aaldS dX3_divideRow_65 (by decide) hf (fun x12 ex12 hf => ?_)
    refine xm_aload_n dX3_divideRow_66 rfl ?_
    refine xb_if hf (fun hb hf => ?_) (fun _ q => nomatch q)
    obtain ⟨p13, ep13, hf⟩ := xbind hf
    refine xb_callV (As := [.ref x10, .ref x12, .ref l2]) (v0 := none) (τ0 := p13) dX3_divideRow_67 (xc_X0_over _ _) xcl0 xw_1610 xw_1341 xw_1342 hb rfl (Nat.le_of_ble_eq_true rfl) rfl (Nat.le_of_ble_eq_true rfl) (fun Q1 hq => m_X0_over (d := d + 0) ep13 (fun g hg => by subst hg; exact hq)) ?_
    refine xm_aload_n dX3_divideRow_70 rfl ?_
    refine xb_getR (a := l0) (c := 3) (k := 1) dX3_divideRow_71 xcl3 (by decide) xw_550 rfl hf (fun x14 ex14 hf => ?_)
    refine xm_aload_n dX3_divideRow_74 rfl ?_
    refine xb_getR (a := l0) (c := 3) (k := 7) dX3_divideRow_75 xcl3 (by decide) xw_556 rfl hf (fun x15 ex15 hf => ?_)
    refine xb_if hf (fun hb hf => ?_) (fun _ q => nomatch q)
    obtain ⟨p16, ep16, hf⟩ := xbind hf
    refine xb_callV (As := [.ref x15]) (v0 := none) (τ0 := p16) dX3_divideRow_78 (xc_X0_settle _ _) xcl0 xw_1586 xw_1262 xw_1263 hb rfl (Nat.le_of_ble_eq_true rfl) rfl (Nat.le_of_ble_eq_true rfl) (fun Q1 hq => m_X0_settle (d := d + 0) ep16 (fun g hg => by subst hg; exact hq)) ?_
    refine xm_aload_n dX3_divideRow_81 rfl ?_
    refine xb_getR (a := l0) (c := 3) (k := 7) dX3_divideRow_82 xcl3 (by decide) xw_556 rfl hf (fun x17 ex17 hf => ?_)
    refine xb_if hf (fun hb hf => ?_) (fun _ q => nomatch q)
    obtain ⟨p18, ep18, hf⟩ := xbind hf
    refine xb_callV (As := []) (v0 := (some (.int p18))) (τ0 := p16) dX3_divideRow_85 (xc_X2_fits _ _) xcl2 xw_1587 xw_1304 xw_1305 hb rfl (Nat.le_of_ble_eq_true rfl) rfl (Nat.le_of_ble_eq_true rfl) (fun Q1 hq => m_X2_fits (d := d + 1) ep18 (fun g hg => by subst hg; exact hq)) ?_
    refine xb_if_ne 93 dX3_divideRow_88 (by decide) hf (fun c hf => ?_) (fun c hf => ?_)
    · refine xm_aload_n dX3_divideRow_93 rfl ?_
      refine xb_getR (a := l0) (c := 3) (k := 2) dX3_divideRow_94 xcl3 (by decide) xw_551 rfl hf (fun x19 ex19 hf => ?_)
      refine xm_iload_n dX3_divideRow_97 rfl ?_
      refine xb_aaldS dX3_divideRow_98 (by decide) hf (fun x20 ex20 hf => ?_)
      refine xm_aload_n dX3_divideRow_99 rfl ?_
      refine xb_getR (a := l0) (c := 3) (k := 7) dX3_divideRow_100 xcl3 (by decide) xw_556 rfl hf (fun x21 ex21 hf => ?_)
      refine xb_if hf (fun hb hf => ?_) (fun _ q => nomatch q)
      obtain ⟨p22, ep22, hf⟩ := xbind hf
      refine xb_callV (As := [.ref x21]) (v0 := none) (τ0 := p22) dX3_divideRow_103 (xc_X2_copy _ _) xcl2 xw_1573 xw_750 xw_751 hb rfl (Nat.le_of_ble_eq_true rfl) rfl (Nat.le_of_ble_eq_true rfl) (fun Q1 hq => m_X2_copy (d := d + 0) ep22 (fun g hg => by subst hg; exact hq)) ?_
      refine xb_iinc dX3_divideRow_106 rfl (by decide) (by decide) hf (fun v23 ev23 hf => xm_stL (L' := [(3, .int v23), (0, .ref l0), (1, .int l1), (2, .ref l2)]) rfl ?_)
      refine xm_goto 37 dX3_divideRow_109 (by decide) ?_
      cases hf
      exact xm_sub [1, 2, 3, 0] rfl (hC _ rfl)
    · cases hf
      exact xm_sub [] rfl (hE0 _ rfl)
theorem L_X3_divideRow_l37 {G : xG} {π : Nat → Nat} {d C Z : Nat} {Q : xQ} {s0 : (Nat × Int32 × Nat × Int32 × xM)} {x : ((Int32 × xM) ⊕ ((xM) ⊕ (xM)))} (h1 : xloop (f_X3_divideRow_s37) xF s0 = some x) (hR : ∀ g, x = Sum.inl g → Q (.inl (some (.int g.1))) (g.2) π) (hE0 : ∀ e : (xM), x = Sum.inr (Sum.inl e) → xMach G π J_X3_divideRow (d + 3) C Z 91 [] [] e Q) (hE1 : ∀ e : (xM), x = Sum.inr (Sum.inr e) → xMach G π J_X3_divideRow (d + 3) C Z 112 [] [] e Q) : xMach G π J_X3_divideRow (d + 3) C Z 37 [(0, .ref s0.1), (1, .int s0.2.1), (2, .ref s0.2.2.1), (3, .int s0.2.2.2.1)] [] s0.2.2.2.2 Q := by
  refine xloop_run (M := (fun s : (Nat × Int32 × Nat × Int32 × xM) => xMach G π J_X3_divideRow (d + 3) C Z 37 [(0, .ref s.1), (1, .int s.2.1), (2, .ref s.2.2.1), (3, .int s.2.2.2.1)] [] s.2.2.2.2 Q)) (r := x) ?_ xF _ h1
  intro s y hs hx
  exact L_X3_divideRow_s37 s.2.2.2.2 s.1 s.2.1 s.2.2.1 s.2.2.2.1 (x := y) hs (fun g hg => by subst hg; exact hR g hx) (fun e he => by subst he; exact hE0 e hx) (fun e he => by subst he; exact hE1 e hx) (fun e he => by subst he; exact hx)
def f_X3_divideRow_j91 (σ : xM)  : Option (Int32 × xM) :=
  some ((0 : Int32), σ)
set_option maxHeartbeats 4000000 in
set_option maxRecDepth 20000 in
theorem L_X3_divideRow_j91 {G : xG} {π : Nat → Nat} {d C Z : Nat} {Q : xQ} (σ : xM)  {x : (Int32 × xM)} (hf : f_X3_divideRow_j91 σ = some x) (hR : ∀ g, x = g → Q (.inl (some (.int g.1))) (g.2) π) : xMach G π J_X3_divideRow (d + 3) C Z 91 [] [] σ Q := by
  unfold f_X3_divideRow_j91 at hf
  refine xm_iconst dX3_divideRow_91 (v := 0) (by decide) ?_
  cases hf
  exact xm_zret dX3_divideRow_92 rfl rfl (hR _ rfl)
def f_X3_divideRow_j112 (σ : xM)  : Option (Int32 × xM) :=
  some ((1 : Int32), σ)
set_option maxHeartbeats 4000000 in
set_option maxRecDepth 20000 in
theorem L_X3_divideRow_j112 {G : xG} {π : Nat → Nat} {d C Z : Nat} {Q : xQ} (σ : xM)  {x : (Int32 × xM)} (hf : f_X3_divideRow_j112 σ = some x) (hR : ∀ g, x = g → Q (.inl (some (.int g.1))) (g.2) π) : xMach G π J_X3_divideRow (d + 3) C Z 112 [] [] σ Q := by
  unfold f_X3_divideRow_j112 at hf
  refine xm_iconst dX3_divideRow_112 (v := 1) (by decide) ?_
  cases hf
  exact xm_zret dX3_divideRow_113 rfl rfl (hR _ rfl)
def f_X3_divideRow (σ : xM) (l0 : Nat) (l1 : Int32) : Option (Int32 × xM) :=
  (gR σ l0 3 2).bind (fun x1 => ((aR σ x1 16 ((l1 + (1 : Int32)) * (9 : Int32))).bind id).bind (fun x2 => (gR σ l0 3 3).bind (fun x3 => (aI σ x3 14 (l1 + (1 : Int32))).bind (fun x4 => (if x4 = (0 : Int32) then (if xk σ x2 2 = true then (f_X2_isZero σ x2).bind (fun p5 => (if p5 = (0 : Int32) then xlet (l1 * (9 : Int32)) (fun v6 => (xloop (f_X3_divideRow_s37 ) xF (l0, l1, x2, v6, σ)).bind (Sum.elim (fun g => some g) (Sum.elim (fun e => f_X3_divideRow_j91 e) (fun e => f_X3_divideRow_j112 e)))) else f_X3_divideRow_j30 σ)) else none) else f_X3_divideRow_j30 σ)))))
set_option maxHeartbeats 4000000 in
set_option maxRecDepth 20000 in
theorem m_X3_divideRow {G : xG} {π : Nat → Nat} {d C Z : Nat} {Q : xQ} {σ : xM} {l0 : Nat} {l1 : Int32} {x : (Int32 × xM)} (hf : f_X3_divideRow σ l0 l1 = some x) (hR : ∀ g, x = g → Q (.inl (some (.int g.1))) (g.2) π) : xMach G π J_X3_divideRow (d + 3) C Z 0 (lv_args 0 [.ref l0, .int l1]) [] σ Q := by
  unfold f_X3_divideRow at hf
  refine xm_stL (L' := [(0, .ref l0), (1, .int l1)]) rfl ?_
  refine xm_aload_n dX3_divideRow_0 rfl ?_
  refine xb_getR (a := l0) (c := 3) (k := 2) dX3_divideRow_1 xcl3 (by decide) xw_551 rfl hf (fun x1 ex1 hf => ?_)
  refine xm_iload_n dX3_divideRow_4 rfl ?_
  refine xm_iconst dX3_divideRow_5 (v := 1) (by decide) ?_
  refine xm_iadd dX3_divideRow_6 ?_
  refine xm_bipush dX3_divideRow_7 (v := 9) (by decide) ?_
  refine xm_imul dX3_divideRow_9 ?_
  refine xb_aaldS dX3_divideRow_10 (by decide) hf (fun x2 ex2 hf => ?_)
  refine xm_astore_n dX3_divideRow_11 (by decide) (xm_stL (L' := [(2, .ref x2), (0, .ref l0), (1, .int l1)]) rfl ?_)
  refine xm_aload_n dX3_divideRow_12 rfl ?_
  refine xb_getR (a := l0) (c := 3) (k := 3) dX3_divideRow_13 xcl3 (by decide) xw_552 rfl hf (fun x3 ex3 hf => ?_)
  refine xm_iload_n dX3_divideRow_16 rfl ?_
  refine xm_iconst dX3_divideRow_17 (v := 1) (by decide) ?_
  refine xm_iadd dX3_divideRow_18 ?_
  refine xb_iald dX3_divideRow_19 hf (fun x4 ex4 hf => ?_)
  refine xb_if_ne 30 dX3_divideRow_20 (by decide) hf (fun c hf => ?_) (fun c hf => ?_)
  · exact xm_sub [] rfl (L_X3_divideRow_j30 σ hf hR)
  · refine xm_aload_n dX3_divideRow_23 rfl ?_
    refine xb_if hf (fun hb hf => ?_) (fun _ q => nomatch q)
    obtain ⟨p5, ep5, hf⟩ := xbind hf
    refine xb_callV (As := []) (v0 := (some (.int p5))) (τ0 := σ) dX3_divideRow_24 (xc_X2_isZero _ _) xcl2 xw_1592 xw_1170 xw_1171 hb rfl (Nat.le_of_ble_eq_true rfl) rfl (Nat.le_of_ble_eq_true rfl) (fun Q1 hq => m_X2_isZero (d := d + 1) ep5 (fun g hg => by subst hg; exact hq)) ?_
    refine xb_if_eq 32 dX3_divideRow_27 (by decide) hf (fun c hf => ?_) (fun c hf => ?_)
    · refine xm_iload_n dX3_divideRow_32 rfl ?_
      refine xm_bipush dX3_divideRow_33 (v := 9) (by decide) ?_
      refine xm_imul dX3_divideRow_35 ?_
      refine xb_topi hf (fun v6 ev6 hf => ?_)
      refine xm_istore_n dX3_divideRow_36 (by decide) (xm_stL (L' := [(3, .int v6), (2, .ref x2), (0, .ref l0), (1, .int l1)]) rfl ?_)
      obtain ⟨o, h1, hf⟩ := xbind hf
      refine xm_sub [2, 3, 1, 0] rfl (L_X3_divideRow_l37  h1 (fun g hg => ?_) (fun e he => ?_) (fun e he => ?_))
      · subst hg
        cases hf
        exact hR _ rfl
      · subst he
        rw [Sum.elim_inr, Sum.elim_inl] at hf
        have hf : f_X3_divideRow_j91 e = some _ := hf
        exact xm_sub [] rfl (L_X3_divideRow_j91 e hf hR)
      · subst he
        rw [Sum.elim_inr, Sum.elim_inr] at hf
        have hf : f_X3_divideRow_j112 e = some _ := hf
        exact xm_sub [] rfl (L_X3_divideRow_j112 e hf hR)
    · exact xm_sub [] rfl (L_X3_divideRow_j30 σ hf hR)
-- Rankwise$Gatherer.lowestFits()Z
def f_X3_lowestFits_s2 (σ : xM) (s : (Nat × Int32)) : Option (Int32 ⊕ (((Nat × Int32) ⊕ Unit) ⊕ (Nat × Int32))) :=
  xlet s.1 (fun l0 => xlet s.2 (fun l1 => (if (9 : Int32) ≤ l1 then some (Sum.inr (Sum.inl (Sum.inr ()))) else (gR σ l0 3 5).bind (fun x2 => ((aR σ x2 16 l1).bind id).bind (fun x3 => (if xk σ x3 2 = true then (f_X2_isZero σ x3).bind (fun p4 => (if p4 = (0 : Int32) then some (Sum.inr (Sum.inl (Sum.inl (l0, l1)))) else xlet (l1 + (1 : Int32)) (fun v5 => some (Sum.inr (Sum.inr (l0, v5)))))) else none))))))
set_option maxHeartbeats 4000000 in
set_option maxRecDepth 20000 in
theorem L_X3_lowestFits_s2 {G : xG} {π : Nat → Nat} {d C Z : Nat} {Q : xQ} (σ : xM) (l0 : Nat) (l1 : Int32) {x : (Int32 ⊕ (((Nat × Int32) ⊕ Unit) ⊕ (Nat × Int32)))} (hf : f_X3_lowestFits_s2 σ (l0, l1) = some x) (hR : ∀ g, x = Sum.inl (g) → Q (.inl (some (.int g))) (σ) π) (hE0 : ∀ e : (Nat × Int32), x = Sum.inr (Sum.inl (Sum.inl e)) → xMach G π J_X3_lowestFits (d + 2) C Z 20 [(0, .ref e.1), (1, .int e.2)] [] σ Q) (hE1 : ∀ e : Unit, x = Sum.inr (Sum.inl (Sum.inr e)) → xMach G π J_X3_lowestFits (d + 2) C Z 36 [] [] σ Q) (hC : ∀ e : (Nat × Int32), x = Sum.inr (Sum.inr e) → xMach G π J_X3_lowestFits (d + 2) C Z 2 [(0, .ref e.1), (1, .int e.2)] [] σ Q) : xMach G π J_X3_lowestFits (d + 2) C Z 2 [(0, .ref l0), (1, .int l1)] [] σ Q := by
  have hf : (if (9 : Int32) ≤ l1 then some (Sum.inr (Sum.inl (Sum.inr ()))) else (gR σ l0 3 5).bind (fun x2 => ((aR σ x2 16 l1).bind id).bind (fun x3 => (if xk σ x3 2 = true then (f_X2_isZero σ x3).bind (fun p4 => (if p4 = (0 : Int32) then some (Sum.inr (Sum.inl (Sum.inl (l0, l1)))) else xlet (l1 + (1 : Int32)) (fun v5 => some (Sum.inr (Sum.inr (l0, v5)))))) else none)))) = some x := hf
  refine xm_iload_n dX3_lowestFits_2 rfl ?_
  refine xm_bipush dX3_lowestFits_3 (v := 9) (by decide) ?_
  refine xb_icmp_ge 36 dX3_lowestFits_5 (by decide) hf (fun c hf => ?_) (fun c hf => ?_)
  · cases hf
    exact xm_sub [] rfl (hE1 _ rfl)
  · refine xm_aload_n dX3_lowestFits_8 rfl ?_
    refine xb_getR (a := l0) (c := 3) (k := 5) dX3_lowestFits_9 xcl3 (by decide) xw_554 rfl hf (fun x2 ex2 hf => ?_)
    refine xm_iload_n dX3_lowestFits_12 rfl ?_
    refine xb_aaldS dX3_lowestFits_13 (by decide) hf (fun x3 ex3 hf => ?_)
    refine xb_if hf (fun hb hf => ?_) (fun _ q => nomatch q)
    obtain ⟨p4, ep4, hf⟩ := xbind hf
    refine xb_callV (As := []) (v0 := (some (.int p4))) (τ0 := σ) dX3_lowestFits_14 (xc_X2_isZero _ _) xcl2 xw_1592 xw_1170 xw_1171 hb rfl (Nat.le_of_ble_eq_true rfl) rfl (Nat.le_of_ble_eq_true rfl) (fun Q1 hq => m_X2_isZero (d := d + 0) ep4 (fun g hg => by subst hg; exact hq)) ?_
    refine xb_if_ne 30 dX3_lowestFits_17 (by decide) hf (fun c hf => ?_) (fun c hf => ?_)
    · refine xb_iinc dX3_lowestFits_30 rfl (by decide) (by decide) hf (fun v5 ev5 hf => xm_stL (L' := [(1, .int v5), (0, .ref l0)]) rfl ?_)
      refine xm_goto 2 dX3_lowestFits_33 (by decide) ?_
      cases hf
      exact xm_sub [1, 0] rfl (hC _ rfl)
    · cases hf
      exact xm_sub [0, 1] rfl (hE0 _ rfl)
theorem L_X3_lowestFits_l2 {G : xG} {π : Nat → Nat} {d C Z : Nat} {Q : xQ} (σ : xM) {s0 : (Nat × Int32)} {x : (Int32 ⊕ ((Nat × Int32) ⊕ Unit))} (h1 : xloop (f_X3_lowestFits_s2 σ) xF s0 = some x) (hR : ∀ g, x = Sum.inl g → Q (.inl (some (.int g))) (σ) π) (hE0 : ∀ e : (Nat × Int32), x = Sum.inr (Sum.inl e) → xMach G π J_X3_lowestFits (d + 2) C Z 20 [(0, .ref e.1), (1, .int e.2)] [] σ Q) (hE1 : ∀ e : Unit, x = Sum.inr (Sum.inr e) → xMach G π J_X3_lowestFits (d + 2) C Z 36 [] [] σ Q) : xMach G π J_X3_lowestFits (d + 2) C Z 2 [(0, .ref s0.1), (1, .int s0.2)] [] σ Q := by
  refine xloop_run (M := (fun s : (Nat × Int32) => xMach G π J_X3_lowestFits (d + 2) C Z 2 [(0, .ref s.1), (1, .int s.2)] [] σ Q)) (r := x) ?_ xF _ h1
  intro s y hs hx
  exact L_X3_lowestFits_s2 σ s.1 s.2 (x := y) hs (fun g hg => by subst hg; exact hR g hx) (fun e he => by subst he; exact hE0 e hx) (fun e he => by subst he; exact hE1 e hx) (fun e he => by subst he; exact hx)
def f_X3_lowestFits_j20 (σ : xM) (l0 : Nat) (l1 : Int32) : Option Int32 :=
  (gR σ l0 3 5).bind (fun x6 => ((aR σ x6 16 l1).bind id).bind (fun x7 => (if xk σ x7 2 = true then (f_X2_fits σ x7).bind (fun p8 => (xz p8).bind (fun b9 => some b9)) else none)))
set_option maxHeartbeats 4000000 in
set_option maxRecDepth 20000 in
theorem L_X3_lowestFits_j20 {G : xG} {π : Nat → Nat} {d C Z : Nat} {Q : xQ} (σ : xM) (l0 : Nat) (l1 : Int32) {x : Int32} (hf : f_X3_lowestFits_j20 σ l0 l1 = some x) (hR : ∀ g, x = g → Q (.inl (some (.int g))) (σ) π) : xMach G π J_X3_lowestFits (d + 2) C Z 20 [(0, .ref l0), (1, .int l1)] [] σ Q := by
  unfold f_X3_lowestFits_j20 at hf
  refine xm_aload_n dX3_lowestFits_20 rfl ?_
  refine xb_getR (a := l0) (c := 3) (k := 5) dX3_lowestFits_21 xcl3 (by decide) xw_554 rfl hf (fun x6 ex6 hf => ?_)
  refine xm_iload_n dX3_lowestFits_24 rfl ?_
  refine xb_aaldS dX3_lowestFits_25 (by decide) hf (fun x7 ex7 hf => ?_)
  refine xb_if hf (fun hb hf => ?_) (fun _ q => nomatch q)
  obtain ⟨p8, ep8, hf⟩ := xbind hf
  refine xb_callV (As := []) (v0 := (some (.int p8))) (τ0 := σ) dX3_lowestFits_26 (xc_X2_fits _ _) xcl2 xw_1587 xw_1304 xw_1305 hb rfl (Nat.le_of_ble_eq_true rfl) rfl (Nat.le_of_ble_eq_true rfl) (fun Q1 hq => m_X2_fits (d := d + 0) ep8 (fun g hg => by subst hg; exact hq)) ?_
  obtain ⟨b9, eb9, hf⟩ := xbind hf
  obtain ⟨rfl, hz⟩ := xz_of eb9
  cases hf
  exact xm_zret dX3_lowestFits_29 rfl hz (hR _ rfl)
def f_X3_lowestFits_j36 (σ : xM)  : Option Int32 :=
  some (1 : Int32)
set_option maxHeartbeats 4000000 in
set_option maxRecDepth 20000 in
theorem L_X3_lowestFits_j36 {G : xG} {π : Nat → Nat} {d C Z : Nat} {Q : xQ} (σ : xM)  {x : Int32} (hf : f_X3_lowestFits_j36 σ = some x) (hR : ∀ g, x = g → Q (.inl (some (.int g))) (σ) π) : xMach G π J_X3_lowestFits (d + 2) C Z 36 [] [] σ Q := by
  unfold f_X3_lowestFits_j36 at hf
  refine xm_iconst dX3_lowestFits_36 (v := 1) (by decide) ?_
  cases hf
  exact xm_zret dX3_lowestFits_37 rfl rfl (hR _ rfl)
def f_X3_lowestFits (σ : xM) (l0 : Nat) : Option Int32 :=
  xlet (0 : Int32) (fun v1 => (xloop (f_X3_lowestFits_s2 σ ) xF (l0, v1)).bind (Sum.elim (fun g => some g) (Sum.elim (fun e => f_X3_lowestFits_j20 σ e.1 e.2) (fun e => f_X3_lowestFits_j36 σ))))
set_option maxHeartbeats 4000000 in
set_option maxRecDepth 20000 in
theorem m_X3_lowestFits {G : xG} {π : Nat → Nat} {d C Z : Nat} {Q : xQ} {σ : xM} {l0 : Nat} {x : Int32} (hf : f_X3_lowestFits σ l0 = some x) (hR : ∀ g, x = g → Q (.inl (some (.int g))) (σ) π) : xMach G π J_X3_lowestFits (d + 2) C Z 0 (lv_args 0 [.ref l0]) [] σ Q := by
  unfold f_X3_lowestFits at hf
  refine xm_stL (L' := [(0, .ref l0)]) rfl ?_
  refine xm_iconst dX3_lowestFits_0 (v := 0) (by decide) ?_
  refine xb_topi hf (fun v1 ev1 hf => ?_)
  refine xm_istore_n dX3_lowestFits_1 (by decide) (xm_stL (L' := [(1, .int v1), (0, .ref l0)]) rfl ?_)
  obtain ⟨o, h1, hf⟩ := xbind hf
  refine xm_sub [1, 0] rfl (L_X3_lowestFits_l2 σ h1 (fun g hg => ?_) (fun e he => ?_) (fun e he => ?_))
  · subst hg
    cases hf
    exact hR _ rfl
  · subst he
    rw [Sum.elim_inr, Sum.elim_inl] at hf
    have hf : f_X3_lowestFits_j20 σ e.1 e.2 = some _ := hf
    exact xm_sub [0, 1] rfl (L_X3_lowestFits_j20 σ e.1 e.2 hf hR)
  · subst he
    rw [Sum.elim_inr, Sum.elim_inr] at hf
    have hf : f_X3_lowestFits_j36 σ = some _ := hf
    exact xm_sub [] rfl (L_X3_lowestFits_j36 σ hf hR)
-- Rankwise$Gatherer.raiseRow(II)Z
def f_X3_raiseRow_j44 (σ : xM) (l0 : Nat) (l1 : Int32) (l2 : Int32) (l3 : Int32) (l4 : Int32) (s0 : Int64) (s1 : Nat) : Option ((Int32 × xM) ⊕ ((Nat × Int32 × Int32 × Int32 × xM) ⊕ (Nat × Int32 × Int32 × Int32 × Int32 × xM))) :=
  (if xk σ s1 2 = true then (f_X2_set σ s1 s0).bind (fun p6 => xlet (l4 + (1 : Int32)) (fun v7 => some (Sum.inr (Sum.inr (l0, l1, l2, l3, v7, p6))))) else none)
set_option maxHeartbeats 4000000 in
set_option maxRecDepth 20000 in
theorem L_X3_raiseRow_j44 {G : xG} {π : Nat → Nat} {d C Z : Nat} {Q : xQ} (σ : xM) (l0 : Nat) (l1 : Int32) (l2 : Int32) (l3 : Int32) (l4 : Int32) (s0 : Int64) (s1 : Nat) {x : ((Int32 × xM) ⊕ ((Nat × Int32 × Int32 × Int32 × xM) ⊕ (Nat × Int32 × Int32 × Int32 × Int32 × xM)))} (hf : f_X3_raiseRow_j44 σ l0 l1 l2 l3 l4 s0 s1 = some x) (hR : ∀ g, x = Sum.inl (g) → Q (.inl (some (.int g.1))) (g.2) π) (hE : ∀ e : (Nat × Int32 × Int32 × Int32 × xM), x = Sum.inr (Sum.inl e) → xMach G π J_X3_raiseRow (d + 4) C Z 53 [(0, .ref e.1), (1, .int e.2.1), (2, .int e.2.2.1), (3, .int e.2.2.2.1)] [] e.2.2.2.2 Q) (hC : ∀ e : (Nat × Int32 × Int32 × Int32 × Int32 × xM), x = Sum.inr (Sum.inr e) → xMach G π J_X3_raiseRow (d + 4) C Z 20 [(0, .ref e.1), (1, .int e.2.1), (2, .int e.2.2.1), (3, .int e.2.2.2.1), (4, .int e.2.2.2.2.1)] [] e.2.2.2.2.2 Q) : xMach G π J_X3_raiseRow (d + 4) C Z 44 [(0, .ref l0), (1, .int l1), (2, .int l2), (3, .int l3), (4, .int l4)] [.long s0, .ref s1] σ Q := by
  unfold f_X3_raiseRow_j44 at hf
  refine xb_if hf (fun hb hf => ?_) (fun _ q => nomatch q)
  obtain ⟨p6, ep6, hf⟩ := xbind hf
  refine xb_callV (As := [.long s0]) (v0 := none) (τ0 := p6) dX3_raiseRow_44 (xc_X2_set _ _) xcl2 xw_1572 xw_1250 xw_1251 hb rfl (Nat.le_of_ble_eq_true rfl) rfl (Nat.le_of_ble_eq_true rfl) (fun Q1 hq => m_X2_set (d := d + 2) ep6 (fun g hg => by subst hg; exact hq)) ?_
  refine xb_iinc dX3_raiseRow_47 rfl (by decide) (by decide) hf (fun v7 ev7 hf => xm_stL (L' := [(4, .int v7), (0, .ref l0), (1, .int l1), (2, .int l2), (3, .int l3)]) rfl ?_)
  refine xm_goto 20 dX3_raiseRow_50 (by decide) ?_
  cases hf
  exact xm_sub [1, 2, 3, 4, 0] rfl (hC _ rfl)
def f_X3_raiseRow_s20 (s : (Nat × Int32 × Int32 × Int32 × Int32 × xM)) : Option ((Int32 × xM) ⊕ ((Nat × Int32 × Int32 × Int32 × xM) ⊕ (Nat × Int32 × Int32 × Int32 × Int32 × xM))) :=
  xlet s.1 (fun l0 => xlet s.2.1 (fun l1 => xlet s.2.2.1 (fun l2 => xlet s.2.2.2.1 (fun l3 => xlet s.2.2.2.2.1 (fun l4 => xlet s.2.2.2.2.2 (fun σ => (if (9 : Int32) ≤ l4 then some (Sum.inr (Sum.inl (l0, l1, l2, l3, σ))) else (gR σ l0 3 5).bind (fun x4 => ((aR σ x4 16 l4).bind id).bind (fun x5 => (if l4 = (0 : Int32) then f_X3_raiseRow_j44 σ l0 l1 l2 l3 l4 (1 : Int64) x5 else f_X3_raiseRow_j44 σ l0 l1 l2 l3 l4 (0 : Int64) x5))))))))))
set_option maxHeartbeats 4000000 in
set_option maxRecDepth 20000 in
theorem L_X3_raiseRow_s20 {G : xG} {π : Nat → Nat} {d C Z : Nat} {Q : xQ} (σ : xM) (l0 : Nat) (l1 : Int32) (l2 : Int32) (l3 : Int32) (l4 : Int32) {x : ((Int32 × xM) ⊕ ((Nat × Int32 × Int32 × Int32 × xM) ⊕ (Nat × Int32 × Int32 × Int32 × Int32 × xM)))} (hf : f_X3_raiseRow_s20 (l0, l1, l2, l3, l4, σ) = some x) (hR : ∀ g, x = Sum.inl (g) → Q (.inl (some (.int g.1))) (g.2) π) (hE : ∀ e : (Nat × Int32 × Int32 × Int32 × xM), x = Sum.inr (Sum.inl e) → xMach G π J_X3_raiseRow (d + 4) C Z 53 [(0, .ref e.1), (1, .int e.2.1), (2, .int e.2.2.1), (3, .int e.2.2.2.1)] [] e.2.2.2.2 Q) (hC : ∀ e : (Nat × Int32 × Int32 × Int32 × Int32 × xM), x = Sum.inr (Sum.inr e) → xMach G π J_X3_raiseRow (d + 4) C Z 20 [(0, .ref e.1), (1, .int e.2.1), (2, .int e.2.2.1), (3, .int e.2.2.2.1), (4, .int e.2.2.2.2.1)] [] e.2.2.2.2.2 Q) : xMach G π J_X3_raiseRow (d + 4) C Z 20 [(0, .ref l0), (1, .int l1), (2, .int l2), (3, .int l3), (4, .int l4)] [] σ Q := by
  have hf : (if (9 : Int32) ≤ l4 then some (Sum.inr (Sum.inl (l0, l1, l2, l3, σ))) else (gR σ l0 3 5).bind (fun x4 => ((aR σ x4 16 l4).bind id).bind (fun x5 => (if l4 = (0 : Int32) then f_X3_raiseRow_j44 σ l0 l1 l2 l3 l4 (1 : Int64) x5 else f_X3_raiseRow_j44 σ l0 l1 l2 l3 l4 (0 : Int64) x5)))) = some x := hf
  refine xm_iload dX3_raiseRow_20 rfl ?_
  refine xm_bipush dX3_raiseRow_22 (v := 9) (by decide) ?_
  refine xb_icmp_ge 53 dX3_raiseRow_24 (by decide) hf (fun c hf => ?_) (fun c hf => ?_)
  · cases hf
    exact xm_sub [0, 1, 2, 3] rfl (hE _ rfl)
  · refine xm_aload_n dX3_raiseRow_27 rfl ?_
    refine xb_getR (a := l0) (c := 3) (k := 5) dX3_raiseRow_28 xcl3 (by decide) xw_554 rfl hf (fun x4 ex4 hf => ?_)
    refine xm_iload dX3_raiseRow_31 rfl ?_
    refine xb_aaldS dX3_raiseRow_33 (by decide) hf (fun x5 ex5 hf => ?_)
    refine xm_iload dX3_raiseRow_34 rfl ?_
    refine xb_if_ne 43 dX3_raiseRow_36 (by decide) hf (fun c hf => ?_) (fun c hf => ?_)
    · refine xm_lconst dX3_raiseRow_43 (v := 0) (by decide) ?_
      exact xm_sub [0, 1, 2, 3, 4] rfl (L_X3_raiseRow_j44 σ l0 l1 l2 l3 l4 (0 : Int64) x5 hf hR hE hC)
    · refine xm_lconst dX3_raiseRow_39 (v := 1) (by decide) ?_
      refine xm_goto 44 dX3_raiseRow_40 (by decide) ?_
      exact xm_sub [0, 1, 2, 3, 4] rfl (L_X3_raiseRow_j44 σ l0 l1 l2 l3 l4 (1 : Int64) x5 hf hR hE hC)
theorem L_X3_raiseRow_l20 {G : xG} {π : Nat → Nat} {d C Z : Nat} {Q : xQ} {s0 : (Nat × Int32 × Int32 × Int32 × Int32 × xM)} {x : ((Int32 × xM) ⊕ (Nat × Int32 × Int32 × Int32 × xM))} (h1 : xloop (f_X3_raiseRow_s20) xF s0 = some x) (hR : ∀ g, x = Sum.inl g → Q (.inl (some (.int g.1))) (g.2) π) (hE : ∀ e : (Nat × Int32 × Int32 × Int32 × xM), x = Sum.inr e → xMach G π J_X3_raiseRow (d + 4) C Z 53 [(0, .ref e.1), (1, .int e.2.1), (2, .int e.2.2.1), (3, .int e.2.2.2.1)] [] e.2.2.2.2 Q) : xMach G π J_X3_raiseRow (d + 4) C Z 20 [(0, .ref s0.1), (1, .int s0.2.1), (2, .int s0.2.2.1), (3, .int s0.2.2.2.1), (4, .int s0.2.2.2.2.1)] [] s0.2.2.2.2.2 Q := by
  refine xloop_run (M := (fun s : (Nat × Int32 × Int32 × Int32 × Int32 × xM) => xMach G π J_X3_raiseRow (d + 4) C Z 20 [(0, .ref s.1), (1, .int s.2.1), (2, .int s.2.2.1), (3, .int s.2.2.2.1), (4, .int s.2.2.2.2.1)] [] s.2.2.2.2.2 Q)) (r := x) ?_ xF _ h1
  intro s y hs hx
  exact L_X3_raiseRow_s20 s.2.2.2.2.2 s.1 s.2.1 s.2.2.1 s.2.2.2.1 s.2.2.2.2.1 (x := y) hs (fun g hg => by subst hg; exact hR g hx) (fun e he => by subst he; exact hE e hx) (fun e he => by subst he; exact hx)
def f_X3_raiseRow_s65 (s : (Nat × Int32 × Int32 × Int32 × Int32 × Int32 × xM)) : Option ((Int32 × xM) ⊕ ((Nat × Int32 × Int32 × Int32 × Int32 × xM) ⊕ (Nat × Int32 × Int32 × Int32 × Int32 × Int32 × xM))) :=
  xlet s.1 (fun l0 => xlet s.2.1 (fun l1 => xlet s.2.2.1 (fun l2 => xlet s.2.2.2.1 (fun l3 => xlet s.2.2.2.2.1 (fun l4 => xlet s.2.2.2.2.2.1 (fun l5 => xlet s.2.2.2.2.2.2 (fun σ => (if (9 : Int32) ≤ l5 then some (Sum.inr (Sum.inl (l0, l1, l2, l3, l4, σ))) else (gR σ l0 3 6).bind (fun x10 => ((aR σ x10 16 l5).bind id).bind (fun x11 => (gR σ l0 3 5).bind (fun x12 => ((aR σ x12 16 l5).bind id).bind (fun x13 => (if xk σ x11 2 = true then (f_X2_copy σ x11 x13).bind (fun p14 => xlet (l5 + (1 : Int32)) (fun v15 => some (Sum.inr (Sum.inr (l0, l1, l2, l3, l4, v15, p14))))) else none)))))))))))))
set_option maxHeartbeats 4000000 in
set_option maxRecDepth 20000 in
theorem L_X3_raiseRow_s65 {G : xG} {π : Nat → Nat} {d C Z : Nat} {Q : xQ} (σ : xM) (l0 : Nat) (l1 : Int32) (l2 : Int32) (l3 : Int32) (l4 : Int32) (l5 : Int32) {x : ((Int32 × xM) ⊕ ((Nat × Int32 × Int32 × Int32 × Int32 × xM) ⊕ (Nat × Int32 × Int32 × Int32 × Int32 × Int32 × xM)))} (hf : f_X3_raiseRow_s65 (l0, l1, l2, l3, l4, l5, σ) = some x) (hR : ∀ g, x = Sum.inl (g) → Q (.inl (some (.int g.1))) (g.2) π) (hE : ∀ e : (Nat × Int32 × Int32 × Int32 × Int32 × xM), x = Sum.inr (Sum.inl e) → xMach G π J_X3_raiseRow (d + 4) C Z 95 [(0, .ref e.1), (1, .int e.2.1), (2, .int e.2.2.1), (3, .int e.2.2.2.1), (4, .int e.2.2.2.2.1)] [] e.2.2.2.2.2 Q) (hC : ∀ e : (Nat × Int32 × Int32 × Int32 × Int32 × Int32 × xM), x = Sum.inr (Sum.inr e) → xMach G π J_X3_raiseRow (d + 4) C Z 65 [(0, .ref e.1), (1, .int e.2.1), (2, .int e.2.2.1), (3, .int e.2.2.2.1), (4, .int e.2.2.2.2.1), (5, .int e.2.2.2.2.2.1)] [] e.2.2.2.2.2.2 Q) : xMach G π J_X3_raiseRow (d + 4) C Z 65 [(0, .ref l0), (1, .int l1), (2, .int l2), (3, .int l3), (4, .int l4), (5, .int l5)] [] σ Q := by
  have hf : (if (9 : Int32) ≤ l5 then some (Sum.inr (Sum.inl (l0, l1, l2, l3, l4, σ))) else (gR σ l0 3 6).bind (fun x10 => ((aR σ x10 16 l5).bind id).bind (fun x11 => (gR σ l0 3 5).bind (fun x12 => ((aR σ x12 16 l5).bind id).bind (fun x13 => (if xk σ x11 2 = true then (f_X2_copy σ x11 x13).bind (fun p14 => xlet (l5 + (1 : Int32)) (fun v15 => some (Sum.inr (Sum.inr (l0, l1, l2, l3, l4, v15, p14))))) else none)))))) = some x := hf
  refine xm_iload dX3_raiseRow_65 rfl ?_
  refine xm_bipush dX3_raiseRow_67 (v := 9) (by decide) ?_
  refine xb_icmp_ge 95 dX3_raiseRow_69 (by decide) hf (fun c hf => ?_) (fun c hf => ?_)
  · cases hf
    exact xm_sub [0, 1, 2, 3, 4] rfl (hE _ rfl)
  · refine xm_aload_n dX3_raiseRow_72 rfl ?_
    refine xb_getR (a := l0) (c := 3) (k := 6) dX3_raiseRow_73 xcl3 (by decide) xw_555 rfl hf (fun x10 ex10 hf => ?_)
    refine xm_iload dX3_raiseRow_76 rfl ?_
    refine xb_aaldS dX3_raiseRow_78 (by decide) hf (fun x11 ex11 hf => ?_)
    refine xm_aload_n dX3_raiseRow_79 rfl ?_
    refine xb_getR (a := l0) (c := 3) (k := 5) dX3_raiseRow_80 xcl3 (by decide) xw_554 rfl hf (fun x12 ex12 hf => ?_)
    refine xm_iload dX3_raiseRow_83 rfl ?_
    refine xb_aaldS dX3_raiseRow_85 (by decide) hf (fun x13 ex13 hf => ?_)
    refine xb_if hf (fun hb hf => ?_) (fun _ q => nomatch q)
    obtain ⟨p14, ep14, hf⟩ := xbind hf
    refine xb_callV (As := [.ref x13]) (v0 := none) (τ0 := p14) dX3_raiseRow_86 (xc_X2_copy _ _) xcl2 xw_1573 xw_750 xw_751 hb rfl (Nat.le_of_ble_eq_true rfl) rfl (Nat.le_of_ble_eq_true rfl) (fun Q1 hq => m_X2_copy (d := d + 1) ep14 (fun g hg => by subst hg; exact hq)) ?_
    refine xb_iinc dX3_raiseRow_89 rfl (by decide) (by decide) hf (fun v15 ev15 hf => xm_stL (L' := [(5, .int v15), (0, .ref l0), (1, .int l1), (2, .int l2), (3, .int l3), (4, .int l4)]) rfl ?_)
    refine xm_goto 65 dX3_raiseRow_92 (by decide) ?_
    cases hf
    exact xm_sub [1, 2, 3, 4, 5, 0] rfl (hC _ rfl)
theorem L_X3_raiseRow_l65 {G : xG} {π : Nat → Nat} {d C Z : Nat} {Q : xQ} {s0 : (Nat × Int32 × Int32 × Int32 × Int32 × Int32 × xM)} {x : ((Int32 × xM) ⊕ (Nat × Int32 × Int32 × Int32 × Int32 × xM))} (h1 : xloop (f_X3_raiseRow_s65) xF s0 = some x) (hR : ∀ g, x = Sum.inl g → Q (.inl (some (.int g.1))) (g.2) π) (hE : ∀ e : (Nat × Int32 × Int32 × Int32 × Int32 × xM), x = Sum.inr e → xMach G π J_X3_raiseRow (d + 4) C Z 95 [(0, .ref e.1), (1, .int e.2.1), (2, .int e.2.2.1), (3, .int e.2.2.2.1), (4, .int e.2.2.2.2.1)] [] e.2.2.2.2.2 Q) : xMach G π J_X3_raiseRow (d + 4) C Z 65 [(0, .ref s0.1), (1, .int s0.2.1), (2, .int s0.2.2.1), (3, .int s0.2.2.2.1), (4, .int s0.2.2.2.2.1), (5, .int s0.2.2.2.2.2.1)] [] s0.2.2.2.2.2.2 Q := by
  refine xloop_run (M := (fun s : (Nat × Int32 × Int32 × Int32 × Int32 × Int32 × xM) => xMach G π J_X3_raiseRow (d + 4) C Z 65 [(0, .ref s.1), (1, .int s.2.1), (2, .int s.2.2.1), (3, .int s.2.2.2.1), (4, .int s.2.2.2.2.1), (5, .int s.2.2.2.2.2.1)] [] s.2.2.2.2.2.2 Q)) (r := x) ?_ xF _ h1
  intro s y hs hx
  exact L_X3_raiseRow_s65 s.2.2.2.2.2.2 s.1 s.2.1 s.2.2.1 s.2.2.2.1 s.2.2.2.2.1 s.2.2.2.2.2.1 (x := y) hs (fun g hg => by subst hg; exact hR g hx) (fun e he => by subst he; exact hE e hx) (fun e he => by subst he; exact hx)
def f_X3_raiseRow_j95 (σ : xM) (l0 : Nat) (l1 : Int32) (l2 : Int32) (l3 : Int32) (l4 : Int32) : Option ((Int32 × xM) ⊕ (((xM) ⊕ (Nat × Int32 × Int32 × Int32 × xM)) ⊕ (Nat × Int32 × Int32 × Int32 × Int32 × xM))) :=
  (if xk σ l0 3 = true then (f_X3_timesRow σ l0 l1 (l3 * (l4 - (1 : Int32)))).bind (fun p16 => (gR p16 l0 3 5).bind (fun x17 => ((aR p16 x17 16 (l3 * l4)).bind id).bind (fun x18 => (if xk p16 x18 2 = true then (f_X2_fits p16 x18).bind (fun p19 => (if p19 = (0 : Int32) then some (Sum.inr (Sum.inl (Sum.inl p16))) else (if xk p16 l0 3 = true then (f_X3_lowestFits p16 l0).bind (fun p20 => (if p20 = (0 : Int32) then some (Sum.inr (Sum.inl (Sum.inl p16))) else xlet (l4 + (1 : Int32)) (fun v21 => some (Sum.inr (Sum.inr (l0, l1, l2, l3, v21, p16)))))) else none))) else none)))) else none)
set_option maxHeartbeats 4000000 in
set_option maxRecDepth 20000 in
theorem L_X3_raiseRow_j95 {G : xG} {π : Nat → Nat} {d C Z : Nat} {Q : xQ} (σ : xM) (l0 : Nat) (l1 : Int32) (l2 : Int32) (l3 : Int32) (l4 : Int32) {x : ((Int32 × xM) ⊕ (((xM) ⊕ (Nat × Int32 × Int32 × Int32 × xM)) ⊕ (Nat × Int32 × Int32 × Int32 × Int32 × xM)))} (hf : f_X3_raiseRow_j95 σ l0 l1 l2 l3 l4 = some x) (hR : ∀ g, x = Sum.inl (g) → Q (.inl (some (.int g.1))) (g.2) π) (hE0 : ∀ e : (xM), x = Sum.inr (Sum.inl (Sum.inl e)) → xMach G π J_X3_raiseRow (d + 4) C Z 128 [] [] e Q) (hE1 : ∀ e : (Nat × Int32 × Int32 × Int32 × xM), x = Sum.inr (Sum.inl (Sum.inr e)) → xMach G π J_X3_raiseRow (d + 4) C Z 136 [(0, .ref e.1), (1, .int e.2.1), (2, .int e.2.2.1), (3, .int e.2.2.2.1)] [] e.2.2.2.2 Q) (hC : ∀ e : (Nat × Int32 × Int32 × Int32 × Int32 × xM), x = Sum.inr (Sum.inr e) → xMach G π J_X3_raiseRow (d + 4) C Z 56 [(0, .ref e.1), (1, .int e.2.1), (2, .int e.2.2.1), (3, .int e.2.2.2.1), (4, .int e.2.2.2.2.1)] [] e.2.2.2.2.2 Q) : xMach G π J_X3_raiseRow (d + 4) C Z 95 [(0, .ref l0), (1, .int l1), (2, .int l2), (3, .int l3), (4, .int l4)] [] σ Q := by
  unfold f_X3_raiseRow_j95 at hf
  refine xm_aload_n dX3_raiseRow_95 rfl ?_
  refine xm_iload_n dX3_raiseRow_96 rfl ?_
  refine xm_iload_n dX3_raiseRow_97 rfl ?_
  refine xm_iload dX3_raiseRow_98 rfl ?_
  refine xm_iconst dX3_raiseRow_100 (v := 1) (by decide) ?_
  refine xm_isub dX3_raiseRow_101 ?_
  refine xm_imul dX3_raiseRow_102 ?_
  refine xb_if hf (fun hb hf => ?_) (fun _ q => nomatch q)
  obtain ⟨p16, ep16, hf⟩ := xbind hf
  refine xb_callV (As := [.int l1, .int (l3 * (l4 - (1 : Int32)))]) (v0 := none) (τ0 := p16) dX3_raiseRow_103 (xc_X3_timesRow _ _) xcl3 xw_1597 xw_1599 xs_65 hb rfl (Nat.le_of_ble_eq_true rfl) rfl (Nat.le_of_ble_eq_true rfl) (fun Q1 hq => m_X3_timesRow (d := d + 0) ep16 (fun g hg => by subst hg; exact hq)) ?_
  refine xm_aload_n dX3_raiseRow_106 rfl ?_
  refine xb_getR (a := l0) (c := 3) (k := 5) dX3_raiseRow_107 xcl3 (by decide) xw_554 rfl hf (fun x17 ex17 hf => ?_)
  refine xm_iload_n dX3_raiseRow_110 rfl ?_
  refine xm_iload dX3_raiseRow_111 rfl ?_
  refine xm_imul dX3_raiseRow_113 ?_
  refine xb_aaldS dX3_raiseRow_114 (by decide) hf (fun x18 ex18 hf => ?_)
  refine xb_if hf (fun hb hf => ?_) (fun _ q => nomatch q)
  obtain ⟨p19, ep19, hf⟩ := xbind hf
  refine xb_callV (As := []) (v0 := (some (.int p19))) (τ0 := p16) dX3_raiseRow_115 (xc_X2_fits _ _) xcl2 xw_1587 xw_1304 xw_1305 hb rfl (Nat.le_of_ble_eq_true rfl) rfl (Nat.le_of_ble_eq_true rfl) (fun Q1 hq => m_X2_fits (d := d + 2) ep19 (fun g hg => by subst hg; exact hq)) ?_
  refine xb_if_eq 128 dX3_raiseRow_118 (by decide) hf (fun c hf => ?_) (fun c hf => ?_)
  · cases hf
    exact xm_sub [] rfl (hE0 _ rfl)
  · refine xm_aload_n dX3_raiseRow_121 rfl ?_
    refine xb_if hf (fun hb hf => ?_) (fun _ q => nomatch q)
    obtain ⟨p20, ep20, hf⟩ := xbind hf
    refine xb_callV (As := []) (v0 := (some (.int p20))) (τ0 := p16) dX3_raiseRow_122 (xc_X3_lowestFits _ _) xcl3 xw_1616 xw_1618 xs_69 hb rfl (Nat.le_of_ble_eq_true rfl) rfl (Nat.le_of_ble_eq_true rfl) (fun Q1 hq => m_X3_lowestFits (d := d + 1) ep20 (fun g hg => by subst hg; exact hq)) ?_
    refine xb_if_ne 130 dX3_raiseRow_125 (by decide) hf (fun c hf => ?_) (fun c hf => ?_)
    · refine xb_iinc dX3_raiseRow_130 rfl (by decide) (by decide) hf (fun v21 ev21 hf => xm_stL (L' := [(4, .int v21), (0, .ref l0), (1, .int l1), (2, .int l2), (3, .int l3)]) rfl ?_)
      refine xm_goto 56 dX3_raiseRow_133 (by decide) ?_
      cases hf
      exact xm_sub [1, 2, 3, 4, 0] rfl (hC _ rfl)
    · cases hf
      exact xm_sub [] rfl (hE0 _ rfl)
def f_X3_raiseRow_s56 (s : (Nat × Int32 × Int32 × Int32 × Int32 × xM)) : Option ((Int32 × xM) ⊕ (((xM) ⊕ (Nat × Int32 × Int32 × Int32 × xM)) ⊕ (Nat × Int32 × Int32 × Int32 × Int32 × xM))) :=
  xlet s.1 (fun l0 => xlet s.2.1 (fun l1 => xlet s.2.2.1 (fun l2 => xlet s.2.2.2.1 (fun l3 => xlet s.2.2.2.2.1 (fun l4 => xlet s.2.2.2.2.2 (fun σ => (if l2 < l4 then some (Sum.inr (Sum.inl (Sum.inr (l0, l1, l2, l3, σ)))) else xlet (0 : Int32) (fun v9 => (xloop (f_X3_raiseRow_s65 ) xF (l0, l1, l2, l3, l4, v9, σ)).bind (Sum.elim (fun g => some (Sum.inl g)) (fun e => f_X3_raiseRow_j95 e.2.2.2.2.2 e.1 e.2.1 e.2.2.1 e.2.2.2.1 e.2.2.2.2.1))))))))))
set_option maxHeartbeats 4000000 in
set_option maxRecDepth 20000 in
theorem L_X3_raiseRow_s56 {G : xG} {π : Nat → Nat} {d C Z : Nat} {Q : xQ} (σ : xM) (l0 : Nat) (l1 : Int32) (l2 : Int32) (l3 : Int32) (l4 : Int32) {x : ((Int32 × xM) ⊕ (((xM) ⊕ (Nat × Int32 × Int32 × Int32 × xM)) ⊕ (Nat × Int32 × Int32 × Int32 × Int32 × xM)))} (hf : f_X3_raiseRow_s56 (l0, l1, l2, l3, l4, σ) = some x) (hR : ∀ g, x = Sum.inl (g) → Q (.inl (some (.int g.1))) (g.2) π) (hE0 : ∀ e : (xM), x = Sum.inr (Sum.inl (Sum.inl e)) → xMach G π J_X3_raiseRow (d + 4) C Z 128 [] [] e Q) (hE1 : ∀ e : (Nat × Int32 × Int32 × Int32 × xM), x = Sum.inr (Sum.inl (Sum.inr e)) → xMach G π J_X3_raiseRow (d + 4) C Z 136 [(0, .ref e.1), (1, .int e.2.1), (2, .int e.2.2.1), (3, .int e.2.2.2.1)] [] e.2.2.2.2 Q) (hC : ∀ e : (Nat × Int32 × Int32 × Int32 × Int32 × xM), x = Sum.inr (Sum.inr e) → xMach G π J_X3_raiseRow (d + 4) C Z 56 [(0, .ref e.1), (1, .int e.2.1), (2, .int e.2.2.1), (3, .int e.2.2.2.1), (4, .int e.2.2.2.2.1)] [] e.2.2.2.2.2 Q) : xMach G π J_X3_raiseRow (d + 4) C Z 56 [(0, .ref l0), (1, .int l1), (2, .int l2), (3, .int l3), (4, .int l4)] [] σ Q := by
  have hf : (if l2 < l4 then some (Sum.inr (Sum.inl (Sum.inr (l0, l1, l2, l3, σ)))) else xlet (0 : Int32) (fun v9 => (xloop (f_X3_raiseRow_s65 ) xF (l0, l1, l2, l3, l4, v9, σ)).bind (Sum.elim (fun g => some (Sum.inl g)) (fun e => f_X3_raiseRow_j95 e.2.2.2.2.2 e.1 e.2.1 e.2.2.1 e.2.2.2.1 e.2.2.2.2.1)))) = some x := hf
  refine xm_iload dX3_raiseRow_56 rfl ?_
  refine xm_iload_n dX3_raiseRow_58 rfl ?_
  refine xb_icmp_gt 136 dX3_raiseRow_59 (by decide) hf (fun c hf => ?_) (fun c hf => ?_)
  · cases hf
    exact xm_sub [0, 1, 2, 3] rfl (hE1 _ rfl)
  · refine xm_iconst dX3_raiseRow_62 (v := 0) (by decide) ?_
    refine xb_topi hf (fun v9 ev9 hf => ?_)
    refine xm_istore dX3_raiseRow_63 (by decide) (xm_stL (L' := [(5, .int v9), (0, .ref l0), (1, .int l1), (2, .int l2), (3, .int l3), (4, .int l4)]) rfl ?_)
    obtain ⟨o, h1, hf⟩ := xbind hf
    refine xm_sub [1, 2, 3, 4, 5, 0] rfl (L_X3_raiseRow_l65  h1 (fun g hg => ?_) (fun e he => ?_))
    · subst hg
      cases hf
      exact hR _ rfl
    · subst he
      rw [Sum.elim_inr] at hf
      have hf : f_X3_raiseRow_j95 e.2.2.2.2.2 e.1 e.2.1 e.2.2.1 e.2.2.2.1 e.2.2.2.2.1 = some _ := hf
      exact xm_sub [0, 1, 2, 3, 4] rfl (L_X3_raiseRow_j95 e.2.2.2.2.2 e.1 e.2.1 e.2.2.1 e.2.2.2.1 e.2.2.2.2.1 hf hR hE0 hE1 hC)
theorem L_X3_raiseRow_l56 {G : xG} {π : Nat → Nat} {d C Z : Nat} {Q : xQ} {s0 : (Nat × Int32 × Int32 × Int32 × Int32 × xM)} {x : ((Int32 × xM) ⊕ ((xM) ⊕ (Nat × Int32 × Int32 × Int32 × xM)))} (h1 : xloop (f_X3_raiseRow_s56) xF s0 = some x) (hR : ∀ g, x = Sum.inl g → Q (.inl (some (.int g.1))) (g.2) π) (hE0 : ∀ e : (xM), x = Sum.inr (Sum.inl e) → xMach G π J_X3_raiseRow (d + 4) C Z 128 [] [] e Q) (hE1 : ∀ e : (Nat × Int32 × Int32 × Int32 × xM), x = Sum.inr (Sum.inr e) → xMach G π J_X3_raiseRow (d + 4) C Z 136 [(0, .ref e.1), (1, .int e.2.1), (2, .int e.2.2.1), (3, .int e.2.2.2.1)] [] e.2.2.2.2 Q) : xMach G π J_X3_raiseRow (d + 4) C Z 56 [(0, .ref s0.1), (1, .int s0.2.1), (2, .int s0.2.2.1), (3, .int s0.2.2.2.1), (4, .int s0.2.2.2.2.1)] [] s0.2.2.2.2.2 Q := by
  refine xloop_run (M := (fun s : (Nat × Int32 × Int32 × Int32 × Int32 × xM) => xMach G π J_X3_raiseRow (d + 4) C Z 56 [(0, .ref s.1), (1, .int s.2.1), (2, .int s.2.2.1), (3, .int s.2.2.2.1), (4, .int s.2.2.2.2.1)] [] s.2.2.2.2.2 Q)) (r := x) ?_ xF _ h1
  intro s y hs hx
  exact L_X3_raiseRow_s56 s.2.2.2.2.2 s.1 s.2.1 s.2.2.1 s.2.2.2.1 s.2.2.2.2.1 (x := y) hs (fun g hg => by subst hg; exact hR g hx) (fun e he => by subst he; exact hE0 e hx) (fun e he => by subst he; exact hE1 e hx) (fun e he => by subst he; exact hx)
def f_X3_raiseRow_j128 (σ : xM)  : Option (Int32 × xM) :=
  some ((0 : Int32), σ)
set_option maxHeartbeats 4000000 in
set_option maxRecDepth 20000 in
theorem L_X3_raiseRow_j128 {G : xG} {π : Nat → Nat} {d C Z : Nat} {Q : xQ} (σ : xM)  {x : (Int32 × xM)} (hf : f_X3_raiseRow_j128 σ = some x) (hR : ∀ g, x = g → Q (.inl (some (.int g.1))) (g.2) π) : xMach G π J_X3_raiseRow (d + 4) C Z 128 [] [] σ Q := by
  unfold f_X3_raiseRow_j128 at hf
  refine xm_iconst dX3_raiseRow_128 (v := 0) (by decide) ?_
  cases hf
  exact xm_zret dX3_raiseRow_129 rfl rfl (hR _ rfl)
def f_X3_raiseRow_j136 (σ : xM) (l0 : Nat) (l1 : Int32) (l2 : Int32) (l3 : Int32) : Option (Int32 × xM) :=
  (if xk σ l0 3 = true then (f_X3_takeProduct σ l0 l1 (l3 * l2)).bind (fun p22 => (xz p22.1).bind (fun b23 => some (b23, p22.2))) else none)
set_option maxHeartbeats 4000000 in
set_option maxRecDepth 20000 in
theorem L_X3_raiseRow_j136 {G : xG} {π : Nat → Nat} {d C Z : Nat} {Q : xQ} (σ : xM) (l0 : Nat) (l1 : Int32) (l2 : Int32) (l3 : Int32) {x : (Int32 × xM)} (hf : f_X3_raiseRow_j136 σ l0 l1 l2 l3 = some x) (hR : ∀ g, x = g → Q (.inl (some (.int g.1))) (g.2) π) : xMach G π J_X3_raiseRow (d + 4) C Z 136 [(0, .ref l0), (1, .int l1), (2, .int l2), (3, .int l3)] [] σ Q := by
  unfold f_X3_raiseRow_j136 at hf
  refine xm_aload_n dX3_raiseRow_136 rfl ?_
  refine xm_iload_n dX3_raiseRow_137 rfl ?_
  refine xm_iload_n dX3_raiseRow_138 rfl ?_
  refine xm_iload_n dX3_raiseRow_139 rfl ?_
  refine xm_imul dX3_raiseRow_140 ?_
  refine xb_if hf (fun hb hf => ?_) (fun _ q => nomatch q)
  obtain ⟨p22, ep22, hf⟩ := xbind hf
  refine xb_callV (As := [.int l1, .int (l3 * l2)]) (v0 := (some (.int p22.1))) (τ0 := p22.2) dX3_raiseRow_141 (xc_X3_takeProduct _ _) xcl3 xw_1602 xw_1604 xs_66 hb rfl (Nat.le_of_ble_eq_true rfl) rfl (Nat.le_of_ble_eq_true rfl) (fun Q1 hq => m_X3_takeProduct (d := d + 0) ep22 (fun g hg => by subst hg; exact hq)) ?_
  obtain ⟨b23, eb23, hf⟩ := xbind hf
  obtain ⟨rfl, hz⟩ := xz_of eb23
  cases hf
  exact xm_zret dX3_raiseRow_144 rfl hz (hR _ rfl)
def f_X3_raiseRow_j53 (σ : xM) (l0 : Nat) (l1 : Int32) (l2 : Int32) (l3 : Int32) : Option (Int32 × xM) :=
  xlet (1 : Int32) (fun v8 => (xloop (f_X3_raiseRow_s56 ) xF (l0, l1, l2, l3, v8, σ)).bind (Sum.elim (fun g => some g) (Sum.elim (fun e => f_X3_raiseRow_j128 e) (fun e => f_X3_raiseRow_j136 e.2.2.2.2 e.1 e.2.1 e.2.2.1 e.2.2.2.1))))
set_option maxHeartbeats 4000000 in
set_option maxRecDepth 20000 in
theorem L_X3_raiseRow_j53 {G : xG} {π : Nat → Nat} {d C Z : Nat} {Q : xQ} (σ : xM) (l0 : Nat) (l1 : Int32) (l2 : Int32) (l3 : Int32) {x : (Int32 × xM)} (hf : f_X3_raiseRow_j53 σ l0 l1 l2 l3 = some x) (hR : ∀ g, x = g → Q (.inl (some (.int g.1))) (g.2) π) : xMach G π J_X3_raiseRow (d + 4) C Z 53 [(0, .ref l0), (1, .int l1), (2, .int l2), (3, .int l3)] [] σ Q := by
  unfold f_X3_raiseRow_j53 at hf
  refine xm_iconst dX3_raiseRow_53 (v := 1) (by decide) ?_
  refine xb_topi hf (fun v8 ev8 hf => ?_)
  refine xm_istore dX3_raiseRow_54 (by decide) (xm_stL (L' := [(4, .int v8), (0, .ref l0), (1, .int l1), (2, .int l2), (3, .int l3)]) rfl ?_)
  obtain ⟨o, h1, hf⟩ := xbind hf
  refine xm_sub [1, 2, 3, 4, 0] rfl (L_X3_raiseRow_l56  h1 (fun g hg => ?_) (fun e he => ?_) (fun e he => ?_))
  · subst hg
    cases hf
    exact hR _ rfl
  · subst he
    rw [Sum.elim_inr, Sum.elim_inl] at hf
    have hf : f_X3_raiseRow_j128 e = some _ := hf
    exact xm_sub [] rfl (L_X3_raiseRow_j128 e hf hR)
  · subst he
    rw [Sum.elim_inr, Sum.elim_inr] at hf
    have hf : f_X3_raiseRow_j136 e.2.2.2.2 e.1 e.2.1 e.2.2.1 e.2.2.2.1 = some _ := hf
    exact xm_sub [0, 1, 2, 3] rfl (L_X3_raiseRow_j136 e.2.2.2.2 e.1 e.2.1 e.2.2.1 e.2.2.2.1 hf hR)
def f_X3_raiseRow (σ : xM) (l0 : Nat) (l1 : Int32) (l2 : Int32) : Option (Int32 × xM) :=
  (gR σ l0 3 3).bind (fun x1 => (aI σ x1 14 l1).bind (fun x2 => (if (x2 * l2) < (9 : Int32) then xlet (0 : Int32) (fun v3 => (xloop (f_X3_raiseRow_s20 ) xF (l0, l1, l2, x2, v3, σ)).bind (Sum.elim (fun g => some g) (fun e => f_X3_raiseRow_j53 e.2.2.2.2 e.1 e.2.1 e.2.2.1 e.2.2.2.1))) else some ((0 : Int32), σ))))
set_option maxHeartbeats 4000000 in
set_option maxRecDepth 20000 in
theorem m_X3_raiseRow {G : xG} {π : Nat → Nat} {d C Z : Nat} {Q : xQ} {σ : xM} {l0 : Nat} {l1 : Int32} {l2 : Int32} {x : (Int32 × xM)} (hf : f_X3_raiseRow σ l0 l1 l2 = some x) (hR : ∀ g, x = g → Q (.inl (some (.int g.1))) (g.2) π) : xMach G π J_X3_raiseRow (d + 4) C Z 0 (lv_args 0 [.ref l0, .int l1, .int l2]) [] σ Q := by
  unfold f_X3_raiseRow at hf
  refine xm_stL (L' := [(0, .ref l0), (1, .int l1), (2, .int l2)]) rfl ?_
  refine xm_aload_n dX3_raiseRow_0 rfl ?_
  refine xb_getR (a := l0) (c := 3) (k := 3) dX3_raiseRow_1 xcl3 (by decide) xw_552 rfl hf (fun x1 ex1 hf => ?_)
  refine xm_iload_n dX3_raiseRow_4 rfl ?_
  refine xb_iald dX3_raiseRow_5 hf (fun x2 ex2 hf => ?_)
  refine xm_istore_n dX3_raiseRow_6 (by decide) (xm_stL (L' := [(3, .int x2), (0, .ref l0), (1, .int l1), (2, .int l2)]) rfl ?_)
  refine xm_iload_n dX3_raiseRow_7 rfl ?_
  refine xm_iload_n dX3_raiseRow_8 rfl ?_
  refine xm_imul dX3_raiseRow_9 ?_
  refine xm_bipush dX3_raiseRow_10 (v := 9) (by decide) ?_
  refine xb_icmp_lt 17 dX3_raiseRow_12 (by decide) hf (fun c hf => ?_) (fun c hf => ?_)
  · refine xm_iconst dX3_raiseRow_17 (v := 0) (by decide) ?_
    refine xb_topi hf (fun v3 ev3 hf => ?_)
    refine xm_istore dX3_raiseRow_18 (by decide) (xm_stL (L' := [(4, .int v3), (3, .int x2), (0, .ref l0), (1, .int l1), (2, .int l2)]) rfl ?_)
    obtain ⟨o, h1, hf⟩ := xbind hf
    refine xm_sub [2, 3, 4, 1, 0] rfl (L_X3_raiseRow_l20  h1 (fun g hg => ?_) (fun e he => ?_))
    · subst hg
      cases hf
      exact hR _ rfl
    · subst he
      rw [Sum.elim_inr] at hf
      have hf : f_X3_raiseRow_j53 e.2.2.2.2 e.1 e.2.1 e.2.2.1 e.2.2.2.1 = some _ := hf
      exact xm_sub [0, 1, 2, 3] rfl (L_X3_raiseRow_j53 e.2.2.2.2 e.1 e.2.1 e.2.2.1 e.2.2.2.1 hf hR)
  · refine xm_iconst dX3_raiseRow_15 (v := 0) (by decide) ?_
    cases hf
    exact xm_zret dX3_raiseRow_16 rfl rfl (hR _ rfl)
-- Rankwise$Gatherer.addNode(LRankwise$Tree;II)Z
def f_X3_addNode_j87 (σ : xM)  : Option (Int32 × xM) :=
  some ((0 : Int32), σ)
set_option maxHeartbeats 4000000 in
set_option maxRecDepth 20000 in
theorem L_X3_addNode_j87 {G : xG} {π : Nat → Nat} {d C Z : Nat} {Q : xQ} (σ : xM)  {x : (Int32 × xM)} (hf : f_X3_addNode_j87 σ = some x) (hR : ∀ g, x = g → Q (.inl (some (.int g.1))) (g.2) π) : xMach G π J_X3_addNode (d + 5) C Z 87 [] [] σ Q := by
  unfold f_X3_addNode_j87 at hf
  refine xm_iconst dX3_addNode_87 (v := 0) (by decide) ?_
  cases hf
  exact xm_zret dX3_addNode_88 rfl rfl (hR _ rfl)
def f_X3_addNode_j225 (σ : xM) (s0 : Int32) : Option (Int32 × xM) :=
  (xz s0).bind (fun b16 => some (b16, σ))
set_option maxHeartbeats 4000000 in
set_option maxRecDepth 20000 in
theorem L_X3_addNode_j225 {G : xG} {π : Nat → Nat} {d C Z : Nat} {Q : xQ} (σ : xM) (s0 : Int32) {x : (Int32 × xM)} (hf : f_X3_addNode_j225 σ s0 = some x) (hR : ∀ g, x = g → Q (.inl (some (.int g.1))) (g.2) π) : xMach G π J_X3_addNode (d + 5) C Z 225 [] [.int s0] σ Q := by
  unfold f_X3_addNode_j225 at hf
  obtain ⟨b16, eb16, hf⟩ := xbind hf
  obtain ⟨rfl, hz⟩ := xz_of eb16
  cases hf
  exact xm_zret dX3_addNode_225 rfl hz (hR _ rfl)
def f_X3_addNode_j224 (σ : xM)  : Option (Int32 × xM) :=
  f_X3_addNode_j225 σ (0 : Int32)
set_option maxHeartbeats 4000000 in
set_option maxRecDepth 20000 in
theorem L_X3_addNode_j224 {G : xG} {π : Nat → Nat} {d C Z : Nat} {Q : xQ} (σ : xM)  {x : (Int32 × xM)} (hf : f_X3_addNode_j224 σ = some x) (hR : ∀ g, x = g → Q (.inl (some (.int g.1))) (g.2) π) : xMach G π J_X3_addNode (d + 5) C Z 224 [] [] σ Q := by
  unfold f_X3_addNode_j224 at hf
  refine xm_iconst dX3_addNode_224 (v := 0) (by decide) ?_
  exact xm_sub [] rfl (L_X3_addNode_j225 σ (0 : Int32) hf hR)
def f_X3_addNode_j197 (σ : xM) (l0 : Nat) (l1 : Nat) (l5 : Int32) (l6 : Int32) (s0 : Int32) : Option (Int32 × xM) :=
  (if s0 = (0 : Int32) then f_X3_addNode_j224 σ else (gR σ l1 9 1).bind (fun x17 => (aI σ x17 14 l6).bind (fun x18 => (if xk σ l0 3 = true then (f_X3_raiseRow σ l0 l5 x18).bind (fun p19 => (if p19.1 = (0 : Int32) then f_X3_addNode_j224 p19.2 else f_X3_addNode_j225 p19.2 (1 : Int32))) else none))))
set_option maxHeartbeats 4000000 in
set_option maxRecDepth 20000 in
theorem L_X3_addNode_j197 {G : xG} {π : Nat → Nat} {d C Z : Nat} {Q : xQ} (σ : xM) (l0 : Nat) (l1 : Nat) (l5 : Int32) (l6 : Int32) (s0 : Int32) {x : (Int32 × xM)} (hf : f_X3_addNode_j197 σ l0 l1 l5 l6 s0 = some x) (hR : ∀ g, x = g → Q (.inl (some (.int g.1))) (g.2) π) : xMach G π J_X3_addNode (d + 5) C Z 197 [(0, .ref l0), (1, .ref l1), (5, .int l5), (6, .int l6)] [.int s0] σ Q := by
  unfold f_X3_addNode_j197 at hf
  refine xm_istore dX3_addNode_197 (by decide) (xm_stL (L' := [(7, .int s0), (0, .ref l0), (1, .ref l1), (5, .int l5), (6, .int l6)]) rfl ?_)
  refine xm_iload dX3_addNode_199 rfl ?_
  refine xb_if_eq 224 dX3_addNode_201 (by decide) hf (fun c hf => ?_) (fun c hf => ?_)
  · exact xm_sub [] rfl (L_X3_addNode_j224 σ hf hR)
  · refine xm_aload_n dX3_addNode_204 rfl ?_
    refine xm_iload dX3_addNode_205 rfl ?_
    refine xm_aload_n dX3_addNode_207 rfl ?_
    refine xb_getR (a := l1) (c := 9) (k := 1) dX3_addNode_208 xcl9 (by decide) xw_201 rfl hf (fun x17 ex17 hf => ?_)
    refine xm_iload dX3_addNode_211 rfl ?_
    refine xb_iald dX3_addNode_213 hf (fun x18 ex18 hf => ?_)
    refine xb_if hf (fun hb hf => ?_) (fun _ q => nomatch q)
    obtain ⟨p19, ep19, hf⟩ := xbind hf
    refine xb_callV (As := [.int l5, .int x18]) (v0 := (some (.int p19.1))) (τ0 := p19.2) dX3_addNode_214 (xc_X3_raiseRow _ _) xcl3 xw_1612 xw_1614 xs_68 hb rfl (Nat.le_of_ble_eq_true rfl) rfl (Nat.le_of_ble_eq_true rfl) (fun Q1 hq => m_X3_raiseRow (d := d + 0) ep19 (fun g hg => by subst hg; exact hq)) ?_
    refine xb_if_eq 224 dX3_addNode_217 (by decide) hf (fun c hf => ?_) (fun c hf => ?_)
    · exact xm_sub [] rfl (L_X3_addNode_j224 p19.2 hf hR)
    · refine xm_iconst dX3_addNode_220 (v := 1) (by decide) ?_
      refine xm_goto 225 dX3_addNode_221 (by decide) ?_
      exact xm_sub [] rfl (L_X3_addNode_j225 p19.2 (1 : Int32) hf hR)
def f_X3_addNode_j196 (σ : xM) (l0 : Nat) (l1 : Nat) (l5 : Int32) (l6 : Int32) : Option (Int32 × xM) :=
  f_X3_addNode_j197 σ l0 l1 l5 l6 (0 : Int32)
set_option maxHeartbeats 4000000 in
set_option maxRecDepth 20000 in
theorem L_X3_addNode_j196 {G : xG} {π : Nat → Nat} {d C Z : Nat} {Q : xQ} (σ : xM) (l0 : Nat) (l1 : Nat) (l5 : Int32) (l6 : Int32) {x : (Int32 × xM)} (hf : f_X3_addNode_j196 σ l0 l1 l5 l6 = some x) (hR : ∀ g, x = g → Q (.inl (some (.int g.1))) (g.2) π) : xMach G π J_X3_addNode (d + 5) C Z 196 [(0, .ref l0), (1, .ref l1), (5, .int l5), (6, .int l6)] [] σ Q := by
  unfold f_X3_addNode_j196 at hf
  refine xm_iconst dX3_addNode_196 (v := 0) (by decide) ?_
  exact xm_sub [0, 1, 2, 3] rfl (L_X3_addNode_j197 σ l0 l1 l5 l6 (0 : Int32) hf hR)
def f_X3_addNode (σ : xM) (l0 : Nat) (l1 : Nat) (l2 : Int32) (l3 : Int32) : Option (Int32 × xM) :=
  (gR σ l1 9 0).bind (fun x1 => (aI σ x1 14 l2).bind (fun x2 => (if x2 = (3 : Int32) then (gR σ l0 3 0).bind (fun x3 => (gR σ l1 9 1).bind (fun x4 => (aI σ x4 14 l2).bind (fun x5 => (gR σ l1 9 2).bind (fun x6 => (aI σ x6 14 l2).bind (fun x7 => (if xk σ x3 1 = true then (f_X1_meaning σ x3 x5 x7).bind (fun p8 => (if p8 = (11 : Int32) then (gI σ l0 3 4).bind (fun x30 => (if xk σ l0 3 = true then (f_X3_negate σ l0 (x30 - (1 : Int32))).bind (fun p31 => (xz p31.1).bind (fun b32 => some (b32, p31.2))) else none)) else (gI σ l0 3 4).bind (fun x9 => xlet (x9 - (2 : Int32)) (fun v10 => (if v10 < (0 : Int32) then f_X3_addNode_j87 σ else (if p8 < (0 : Int32) then f_X3_addNode_j87 σ else (if (5 : Int32) < p8 then f_X3_addNode_j87 σ else (if p8 = (4 : Int32) then f_X3_addNode_j87 σ else (gI σ l0 3 4).bind (fun x11 => (sI σ l0 3 4 (x11 - (1 : Int32))).bind (fun σ12 => (if p8 = (0 : Int32) then (if xk σ12 l0 3 = true then (f_X3_addRows σ12 l0 v10 (0 : Int32)).bind (fun p22 => (xz p22.1).bind (fun b23 => some (b23, p22.2))) else none) else (if p8 = (1 : Int32) then (if xk σ12 l0 3 = true then (f_X3_addRows σ12 l0 v10 (1 : Int32)).bind (fun p24 => (xz p24.1).bind (fun b25 => some (b25, p24.2))) else none) else (if p8 = (2 : Int32) then (if xk σ12 l0 3 = true then (f_X3_multiplyRows σ12 l0 v10).bind (fun p26 => (xz p26.1).bind (fun b27 => some (b27, p26.2))) else none) else (if p8 = (3 : Int32) then (if xk σ12 l0 3 = true then (f_X3_divideRow σ12 l0 v10).bind (fun p28 => (xz p28.1).bind (fun b29 => some (b29, p28.2))) else none) else (if xk σ12 l1 9 = true then (f_X9_child σ12 l1 l2 (1 : Int32)).bind (fun p13 => (gR σ12 l1 9 0).bind (fun x14 => (aI σ12 x14 14 p13).bind (fun x15 => (if x15 = (0 : Int32) then (gR σ12 l1 9 1).bind (fun x20 => (aI σ12 x20 14 p13).bind (fun x21 => (if (8 : Int32) < x21 then f_X3_addNode_j196 σ12 l0 l1 v10 p13 else f_X3_addNode_j197 σ12 l0 l1 v10 p13 (1 : Int32)))) else f_X3_addNode_j196 σ12 l0 l1 v10 p13)))) else none))))))))))))))) else none)))))) else (if xk σ l0 3 = true then (f_X3_addLeaf σ l0 l1 l2 l3).bind (fun p33 => (xz p33.1).bind (fun b34 => some (b34, p33.2))) else none))))
set_option maxHeartbeats 4000000 in
set_option maxRecDepth 20000 in
theorem m_X3_addNode {G : xG} {π : Nat → Nat} {d C Z : Nat} {Q : xQ} {σ : xM} {l0 : Nat} {l1 : Nat} {l2 : Int32} {l3 : Int32} {x : (Int32 × xM)} (hf : f_X3_addNode σ l0 l1 l2 l3 = some x) (hR : ∀ g, x = g → Q (.inl (some (.int g.1))) (g.2) π) : xMach G π J_X3_addNode (d + 5) C Z 0 (lv_args 0 [.ref l0, .ref l1, .int l2, .int l3]) [] σ Q := by
  unfold f_X3_addNode at hf
  refine xm_stL (L' := [(0, .ref l0), (1, .ref l1), (2, .int l2), (3, .int l3)]) rfl ?_
  refine xm_aload_n dX3_addNode_0 rfl ?_
  refine xb_getR (a := l1) (c := 9) (k := 0) dX3_addNode_1 xcl9 (by decide) xw_195 rfl hf (fun x1 ex1 hf => ?_)
  refine xm_iload_n dX3_addNode_4 rfl ?_
  refine xb_iald dX3_addNode_5 hf (fun x2 ex2 hf => ?_)
  refine xm_iconst dX3_addNode_6 (v := 3) (by decide) ?_
  refine xb_icmp_eq 18 dX3_addNode_7 (by decide) hf (fun c hf => ?_) (fun c hf => ?_)
  · refine xm_aload_n dX3_addNode_18 rfl ?_
    refine xb_getR (a := l0) (c := 3) (k := 0) dX3_addNode_19 xcl3 (by decide) xw_549 rfl hf (fun x3 ex3 hf => ?_)
    refine xm_aload_n dX3_addNode_22 rfl ?_
    refine xb_getR (a := l1) (c := 9) (k := 1) dX3_addNode_23 xcl9 (by decide) xw_201 rfl hf (fun x4 ex4 hf => ?_)
    refine xm_iload_n dX3_addNode_26 rfl ?_
    refine xb_iald dX3_addNode_27 hf (fun x5 ex5 hf => ?_)
    refine xm_aload_n dX3_addNode_28 rfl ?_
    refine xb_getR (a := l1) (c := 9) (k := 2) dX3_addNode_29 xcl9 (by decide) xw_208 rfl hf (fun x6 ex6 hf => ?_)
    refine xm_iload_n dX3_addNode_32 rfl ?_
    refine xb_iald dX3_addNode_33 hf (fun x7 ex7 hf => ?_)
    refine xb_if hf (fun hb hf => ?_) (fun _ q => nomatch q)
    obtain ⟨p8, ep8, hf⟩ := xbind hf
    refine xb_callV (As := [.int x5, .int x7]) (v0 := (some (.int p8))) (τ0 := σ) dX3_addNode_34 (xc_X1_meaning _ _) xcl1 xw_1574 xw_1024 xw_1025 hb rfl (Nat.le_of_ble_eq_true rfl) rfl (Nat.le_of_ble_eq_true rfl) (fun Q1 hq => m_X1_meaning (d := d + 3) ep8 (fun g hg => by subst hg; exact hq)) ?_
    refine xm_istore dX3_addNode_37 (by decide) (xm_stL (L' := [(4, .int p8), (0, .ref l0), (1, .ref l1), (2, .int l2), (3, .int l3)]) rfl ?_)
    refine xm_iload dX3_addNode_39 rfl ?_
    refine xm_bipush dX3_addNode_41 (v := 11) (by decide) ?_
    refine xb_icmp_ne 57 dX3_addNode_43 (by decide) hf (fun c hf => ?_) (fun c hf => ?_)
    · refine xm_aload_n dX3_addNode_57 rfl ?_
      refine xb_getI (a := l0) (c := 3) (k := 4) dX3_addNode_58 xcl3 (by decide) xw_553 rfl hf (fun x9 ex9 hf => ?_)
      refine xm_iconst dX3_addNode_61 (v := 2) (by decide) ?_
      refine xm_isub dX3_addNode_62 ?_
      refine xb_topi hf (fun v10 ev10 hf => ?_)
      refine xm_istore dX3_addNode_63 (by decide) (xm_stL (L' := [(5, .int v10), (4, .int p8), (0, .ref l0), (1, .ref l1), (2, .int l2), (3, .int l3)]) rfl ?_)
      refine xm_iload dX3_addNode_65 rfl ?_
      refine xb_if_lt 87 dX3_addNode_67 (by decide) hf (fun c hf => ?_) (fun c hf => ?_)
      · exact xm_sub [] rfl (L_X3_addNode_j87 σ hf hR)
      · refine xm_iload dX3_addNode_70 rfl ?_
        refine xb_if_lt 87 dX3_addNode_72 (by decide) hf (fun c hf => ?_) (fun c hf => ?_)
        · exact xm_sub [] rfl (L_X3_addNode_j87 σ hf hR)
        · refine xm_iload dX3_addNode_75 rfl ?_
          refine xm_iconst dX3_addNode_77 (v := 5) (by decide) ?_
          refine xb_icmp_gt 87 dX3_addNode_78 (by decide) hf (fun c hf => ?_) (fun c hf => ?_)
          · exact xm_sub [] rfl (L_X3_addNode_j87 σ hf hR)
          · refine xm_iload dX3_addNode_81 rfl ?_
            refine xm_iconst dX3_addNode_83 (v := 4) (by decide) ?_
            refine xb_icmp_ne 89 dX3_addNode_84 (by decide) hf (fun c hf => ?_) (fun c hf => ?_)
            · refine xm_aload_n dX3_addNode_89 rfl ?_
              refine xm_dup dX3_addNode_90 rfl ?_
              refine xb_getI (a := l0) (c := 3) (k := 4) dX3_addNode_91 xcl3 (by decide) xw_553 rfl hf (fun x11 ex11 hf => ?_)
              refine xm_iconst dX3_addNode_94 (v := 1) (by decide) ?_
              refine xm_isub dX3_addNode_95 ?_
              refine xb_putI (a := l0) (c := 3) (k := 4) dX3_addNode_96 xcl3 (by decide) xw_553 rfl rfl hf (fun σ12 eσ12 hf => ?_)
              refine xm_iload dX3_addNode_99 rfl ?_
              refine xb_if hf (fun c hf => ?_) (fun n0 hf => ?_)
              · refine xm_tableIn 132 dX3_addNode_101 (by rw [c]; decide) (by rw [c]; decide) (by rw [c]; rfl) (by decide) ?_
                refine xm_aload_n dX3_addNode_132 rfl ?_
                refine xm_iload dX3_addNode_133 rfl ?_
                refine xm_iconst dX3_addNode_135 (v := 0) (by decide) ?_
                refine xb_if hf (fun hb hf => ?_) (fun _ q => nomatch q)
                obtain ⟨p22, ep22, hf⟩ := xbind hf
                refine xb_callV (As := [.int v10, .int (0 : Int32)]) (v0 := (some (.int p22.1))) (τ0 := p22.2) dX3_addNode_136 (xc_X3_addRows _ _) xcl3 xw_1580 xw_1582 xs_62 hb rfl (Nat.le_of_ble_eq_true rfl) rfl (Nat.le_of_ble_eq_true rfl) (fun Q1 hq => m_X3_addRows (d := d + 1) ep22 (fun g hg => by subst hg; exact hq)) ?_
                obtain ⟨b23, eb23, hf⟩ := xbind hf
                obtain ⟨rfl, hz⟩ := xz_of eb23
                cases hf
                exact xm_zret dX3_addNode_139 rfl hz (hR _ rfl)
              refine xb_if hf (fun c hf => ?_) (fun n1 hf => ?_)
              · refine xm_tableIn 140 dX3_addNode_101 (by rw [c]; decide) (by rw [c]; decide) (by rw [c]; rfl) (by decide) ?_
                refine xm_aload_n dX3_addNode_140 rfl ?_
                refine xm_iload dX3_addNode_141 rfl ?_
                refine xm_iconst dX3_addNode_143 (v := 1) (by decide) ?_
                refine xb_if hf (fun hb hf => ?_) (fun _ q => nomatch q)
                obtain ⟨p24, ep24, hf⟩ := xbind hf
                refine xb_callV (As := [.int v10, .int (1 : Int32)]) (v0 := (some (.int p24.1))) (τ0 := p24.2) dX3_addNode_144 (xc_X3_addRows _ _) xcl3 xw_1580 xw_1582 xs_62 hb rfl (Nat.le_of_ble_eq_true rfl) rfl (Nat.le_of_ble_eq_true rfl) (fun Q1 hq => m_X3_addRows (d := d + 1) ep24 (fun g hg => by subst hg; exact hq)) ?_
                obtain ⟨b25, eb25, hf⟩ := xbind hf
                obtain ⟨rfl, hz⟩ := xz_of eb25
                cases hf
                exact xm_zret dX3_addNode_147 rfl hz (hR _ rfl)
              refine xb_if hf (fun c hf => ?_) (fun n2 hf => ?_)
              · refine xm_tableIn 148 dX3_addNode_101 (by rw [c]; decide) (by rw [c]; decide) (by rw [c]; rfl) (by decide) ?_
                refine xm_aload_n dX3_addNode_148 rfl ?_
                refine xm_iload dX3_addNode_149 rfl ?_
                refine xb_if hf (fun hb hf => ?_) (fun _ q => nomatch q)
                obtain ⟨p26, ep26, hf⟩ := xbind hf
                refine xb_callV (As := [.int v10]) (v0 := (some (.int p26.1))) (τ0 := p26.2) dX3_addNode_151 (xc_X3_multiplyRows _ _) xcl3 xw_1593 xw_1595 xs_64 hb rfl (Nat.le_of_ble_eq_true rfl) rfl (Nat.le_of_ble_eq_true rfl) (fun Q1 hq => m_X3_multiplyRows (d := d + 0) ep26 (fun g hg => by subst hg; exact hq)) ?_
                obtain ⟨b27, eb27, hf⟩ := xbind hf
                obtain ⟨rfl, hz⟩ := xz_of eb27
                cases hf
                exact xm_zret dX3_addNode_154 rfl hz (hR _ rfl)
              refine xb_if hf (fun c hf => ?_) (fun n3 hf => ?_)
              · refine xm_tableIn 155 dX3_addNode_101 (by rw [c]; decide) (by rw [c]; decide) (by rw [c]; rfl) (by decide) ?_
                refine xm_aload_n dX3_addNode_155 rfl ?_
                refine xm_iload dX3_addNode_156 rfl ?_
                refine xb_if hf (fun hb hf => ?_) (fun _ q => nomatch q)
                obtain ⟨p28, ep28, hf⟩ := xbind hf
                refine xb_callV (As := [.int v10]) (v0 := (some (.int p28.1))) (τ0 := p28.2) dX3_addNode_158 (xc_X3_divideRow _ _) xcl3 xw_1606 xw_1608 xs_67 hb rfl (Nat.le_of_ble_eq_true rfl) rfl (Nat.le_of_ble_eq_true rfl) (fun Q1 hq => m_X3_divideRow (d := d + 1) ep28 (fun g hg => by subst hg; exact hq)) ?_
                obtain ⟨b29, eb29, hf⟩ := xbind hf
                obtain ⟨rfl, hz⟩ := xz_of eb29
                cases hf
                exact xm_zret dX3_addNode_161 rfl hz (hR _ rfl)
              refine xm_tableOut 162 dX3_addNode_101 (by have q0 := lv_neT (a := 0) n0 (by decide); have q1 := lv_neT (a := 1) n1 (by decide); have q2 := lv_neT (a := 2) n2 (by decide); have q3 := lv_neT (a := 3) n3 (by decide); omega) (by decide) ?_
              refine xm_aload_n dX3_addNode_162 rfl ?_
              refine xm_iload_n dX3_addNode_163 rfl ?_
              refine xm_iconst dX3_addNode_164 (v := 1) (by decide) ?_
              refine xb_if hf (fun hb hf => ?_) (fun _ q => nomatch q)
              obtain ⟨p13, ep13, hf⟩ := xbind hf
              refine xb_callV (As := [.int l2, .int (1 : Int32)]) (v0 := (some (.int p13))) (τ0 := σ12) dX3_addNode_165 (xc_X9_child _ _) xcl9 xw_1611 xw_1198 xw_1199 hb rfl (Nat.le_of_ble_eq_true rfl) rfl (Nat.le_of_ble_eq_true rfl) (fun Q1 hq => m_X9_child (d := d + 3) ep13 (fun g hg => by subst hg; exact hq)) ?_
              refine xm_istore dX3_addNode_168 (by decide) (xm_stL (L' := [(6, .int p13), (5, .int v10), (4, .int p8), (0, .ref l0), (1, .ref l1), (2, .int l2), (3, .int l3)]) rfl ?_)
              refine xm_aload_n dX3_addNode_170 rfl ?_
              refine xb_getR (a := l1) (c := 9) (k := 0) dX3_addNode_171 xcl9 (by decide) xw_195 rfl hf (fun x14 ex14 hf => ?_)
              refine xm_iload dX3_addNode_174 rfl ?_
              refine xb_iald dX3_addNode_176 hf (fun x15 ex15 hf => ?_)
              refine xb_if_ne 196 dX3_addNode_177 (by decide) hf (fun c hf => ?_) (fun c hf => ?_)
              · exact xm_sub [3, 4, 1, 0] rfl (L_X3_addNode_j196 σ12 l0 l1 v10 p13 hf hR)
              · refine xm_aload_n dX3_addNode_180 rfl ?_
                refine xb_getR (a := l1) (c := 9) (k := 1) dX3_addNode_181 xcl9 (by decide) xw_201 rfl hf (fun x20 ex20 hf => ?_)
                refine xm_iload dX3_addNode_184 rfl ?_
                refine xb_iald dX3_addNode_186 hf (fun x21 ex21 hf => ?_)
                refine xm_bipush dX3_addNode_187 (v := 8) (by decide) ?_
                refine xb_icmp_gt 196 dX3_addNode_189 (by decide) hf (fun c hf => ?_) (fun c hf => ?_)
                · exact xm_sub [3, 4, 1, 0] rfl (L_X3_addNode_j196 σ12 l0 l1 v10 p13 hf hR)
                · refine xm_iconst dX3_addNode_192 (v := 1) (by decide) ?_
                  refine xm_goto 197 dX3_addNode_193 (by decide) ?_
                  exact xm_sub [3, 4, 1, 0] rfl (L_X3_addNode_j197 σ12 l0 l1 v10 p13 (1 : Int32) hf hR)
            · exact xm_sub [] rfl (L_X3_addNode_j87 σ hf hR)
    · refine xm_aload_n dX3_addNode_46 rfl ?_
      refine xm_aload_n dX3_addNode_47 rfl ?_
      refine xb_getI (a := l0) (c := 3) (k := 4) dX3_addNode_48 xcl3 (by decide) xw_553 rfl hf (fun x30 ex30 hf => ?_)
      refine xm_iconst dX3_addNode_51 (v := 1) (by decide) ?_
      refine xm_isub dX3_addNode_52 ?_
      refine xb_if hf (fun hb hf => ?_) (fun _ q => nomatch q)
      obtain ⟨p31, ep31, hf⟩ := xbind hf
      refine xb_callV (As := [.int (x30 - (1 : Int32))]) (v0 := (some (.int p31.1))) (τ0 := p31.2) dX3_addNode_53 (xc_X3_negate _ _) xcl3 xw_1575 xw_1577 xs_61 hb rfl (Nat.le_of_ble_eq_true rfl) rfl (Nat.le_of_ble_eq_true rfl) (fun Q1 hq => m_X3_negate (d := d + 3) ep31 (fun g hg => by subst hg; exact hq)) ?_
      obtain ⟨b32, eb32, hf⟩ := xbind hf
      obtain ⟨rfl, hz⟩ := xz_of eb32
      cases hf
      exact xm_zret dX3_addNode_56 rfl hz (hR _ rfl)
  · refine xm_aload_n dX3_addNode_10 rfl ?_
    refine xm_aload_n dX3_addNode_11 rfl ?_
    refine xm_iload_n dX3_addNode_12 rfl ?_
    refine xm_iload_n dX3_addNode_13 rfl ?_
    refine xb_if hf (fun hb hf => ?_) (fun _ q => nomatch q)
    obtain ⟨p33, ep33, hf⟩ := xbind hf
    refine xb_callV (As := [.ref l1, .int l2, .int l3]) (v0 := (some (.int p33.1))) (τ0 := p33.2) dX3_addNode_14 (xc_X3_addLeaf _ _) xcl3 xw_1568 xw_1570 xs_60 hb rfl (Nat.le_of_ble_eq_true rfl) rfl (Nat.le_of_ble_eq_true rfl) (fun Q1 hq => m_X3_addLeaf (d := d + 1) ep33 (fun g hg => by subst hg; exact hq)) ?_
    obtain ⟨b34, eb34, hf⟩ := xbind hf
    obtain ⟨rfl, hz⟩ := xz_of eb34
    cases hf
    exact xm_zret dX3_addNode_17 rfl hz (hR _ rfl)
-- Rankwise$Gatherer.collect(LRankwise$Tree;II)I
def f_X3_collect_s26 (s : (Nat × Nat × Int32 × Int32 × Int32 × xM)) : Option ((Int32 × xM) ⊕ (((xM) ⊕ (Nat × xM)) ⊕ (Nat × Nat × Int32 × Int32 × Int32 × xM))) :=
  xlet s.1 (fun l0 => xlet s.2.1 (fun l1 => xlet s.2.2.1 (fun l3 => xlet s.2.2.2.1 (fun l4 => xlet s.2.2.2.2.1 (fun l5 => xlet s.2.2.2.2.2 (fun σ => (if l4 < l5 then some (Sum.inr (Sum.inl (Sum.inr (l0, σ)))) else (if xk σ l1 9 = true then (f_X9_nodeAt σ l1 l5).bind (fun p7 => (if xk σ l0 3 = true then (f_X3_addNode σ l0 l1 p7 l3).bind (fun p8 => (if p8.1 = (0 : Int32) then some (Sum.inr (Sum.inl (Sum.inl p8.2))) else xlet (l5 + (1 : Int32)) (fun v9 => some (Sum.inr (Sum.inr (l0, l1, l3, l4, v9, p8.2)))))) else none)) else none))))))))
set_option maxHeartbeats 4000000 in
set_option maxRecDepth 20000 in
theorem L_X3_collect_s26 {G : xG} {π : Nat → Nat} {d C Z : Nat} {Q : xQ} (σ : xM) (l0 : Nat) (l1 : Nat) (l3 : Int32) (l4 : Int32) (l5 : Int32) {x : ((Int32 × xM) ⊕ (((xM) ⊕ (Nat × xM)) ⊕ (Nat × Nat × Int32 × Int32 × Int32 × xM)))} (hf : f_X3_collect_s26 (l0, l1, l3, l4, l5, σ) = some x) (hR : ∀ g, x = Sum.inl (g) → Q (.inl (some (.int g.1))) (g.2) π) (hE0 : ∀ e : (xM), x = Sum.inr (Sum.inl (Sum.inl e)) → xMach G π J_X3_collect (d + 6) C Z 48 [] [] e Q) (hE1 : ∀ e : (Nat × xM), x = Sum.inr (Sum.inl (Sum.inr e)) → xMach G π J_X3_collect (d + 6) C Z 56 [(0, .ref e.1)] [] e.2 Q) (hC : ∀ e : (Nat × Nat × Int32 × Int32 × Int32 × xM), x = Sum.inr (Sum.inr e) → xMach G π J_X3_collect (d + 6) C Z 26 [(0, .ref e.1), (1, .ref e.2.1), (3, .int e.2.2.1), (4, .int e.2.2.2.1), (5, .int e.2.2.2.2.1)] [] e.2.2.2.2.2 Q) : xMach G π J_X3_collect (d + 6) C Z 26 [(0, .ref l0), (1, .ref l1), (3, .int l3), (4, .int l4), (5, .int l5)] [] σ Q := by
  have hf : (if l4 < l5 then some (Sum.inr (Sum.inl (Sum.inr (l0, σ)))) else (if xk σ l1 9 = true then (f_X9_nodeAt σ l1 l5).bind (fun p7 => (if xk σ l0 3 = true then (f_X3_addNode σ l0 l1 p7 l3).bind (fun p8 => (if p8.1 = (0 : Int32) then some (Sum.inr (Sum.inl (Sum.inl p8.2))) else xlet (l5 + (1 : Int32)) (fun v9 => some (Sum.inr (Sum.inr (l0, l1, l3, l4, v9, p8.2)))))) else none)) else none)) = some x := hf
  refine xm_iload dX3_collect_26 rfl ?_
  refine xm_iload dX3_collect_28 rfl ?_
  refine xb_icmp_gt 56 dX3_collect_30 (by decide) hf (fun c hf => ?_) (fun c hf => ?_)
  · cases hf
    exact xm_sub [0] rfl (hE1 _ rfl)
  · refine xm_aload_n dX3_collect_33 rfl ?_
    refine xm_aload_n dX3_collect_34 rfl ?_
    refine xm_aload_n dX3_collect_35 rfl ?_
    refine xm_iload dX3_collect_36 rfl ?_
    refine xb_if hf (fun hb hf => ?_) (fun _ q => nomatch q)
    obtain ⟨p7, ep7, hf⟩ := xbind hf
    refine xb_callV (As := [.int l5]) (v0 := (some (.int p7))) (τ0 := σ) dX3_collect_38 (xc_X9_nodeAt _ _) xcl9 xw_1563 xw_1070 xw_1071 hb rfl (Nat.le_of_ble_eq_true rfl) rfl (Nat.le_of_ble_eq_true rfl) (fun Q1 hq => m_X9_nodeAt (d := d + 5) ep7 (fun g hg => by subst hg; exact hq)) ?_
    refine xm_iload_n dX3_collect_41 rfl ?_
    refine xb_if hf (fun hb hf => ?_) (fun _ q => nomatch q)
    obtain ⟨p8, ep8, hf⟩ := xbind hf
    refine xb_callV (As := [.ref l1, .int p7, .int l3]) (v0 := (some (.int p8.1))) (τ0 := p8.2) dX3_collect_42 (xc_X3_addNode _ _) xcl3 xw_1564 xw_1566 xs_59 hb rfl (Nat.le_of_ble_eq_true rfl) rfl (Nat.le_of_ble_eq_true rfl) (fun Q1 hq => m_X3_addNode (d := d + 0) ep8 (fun g hg => by subst hg; exact hq)) ?_
    refine xb_if_ne 50 dX3_collect_45 (by decide) hf (fun c hf => ?_) (fun c hf => ?_)
    · refine xb_iinc dX3_collect_50 rfl (by decide) (by decide) hf (fun v9 ev9 hf => xm_stL (L' := [(5, .int v9), (0, .ref l0), (1, .ref l1), (3, .int l3), (4, .int l4)]) rfl ?_)
      refine xm_goto 26 dX3_collect_53 (by decide) ?_
      cases hf
      exact xm_sub [1, 2, 3, 4, 0] rfl (hC _ rfl)
    · cases hf
      exact xm_sub [] rfl (hE0 _ rfl)
theorem L_X3_collect_l26 {G : xG} {π : Nat → Nat} {d C Z : Nat} {Q : xQ} {s0 : (Nat × Nat × Int32 × Int32 × Int32 × xM)} {x : ((Int32 × xM) ⊕ ((xM) ⊕ (Nat × xM)))} (h1 : xloop (f_X3_collect_s26) xF s0 = some x) (hR : ∀ g, x = Sum.inl g → Q (.inl (some (.int g.1))) (g.2) π) (hE0 : ∀ e : (xM), x = Sum.inr (Sum.inl e) → xMach G π J_X3_collect (d + 6) C Z 48 [] [] e Q) (hE1 : ∀ e : (Nat × xM), x = Sum.inr (Sum.inr e) → xMach G π J_X3_collect (d + 6) C Z 56 [(0, .ref e.1)] [] e.2 Q) : xMach G π J_X3_collect (d + 6) C Z 26 [(0, .ref s0.1), (1, .ref s0.2.1), (3, .int s0.2.2.1), (4, .int s0.2.2.2.1), (5, .int s0.2.2.2.2.1)] [] s0.2.2.2.2.2 Q := by
  refine xloop_run (M := (fun s : (Nat × Nat × Int32 × Int32 × Int32 × xM) => xMach G π J_X3_collect (d + 6) C Z 26 [(0, .ref s.1), (1, .ref s.2.1), (3, .int s.2.2.1), (4, .int s.2.2.2.1), (5, .int s.2.2.2.2.1)] [] s.2.2.2.2.2 Q)) (r := x) ?_ xF _ h1
  intro s y hs hx
  exact L_X3_collect_s26 s.2.2.2.2.2 s.1 s.2.1 s.2.2.1 s.2.2.2.1 s.2.2.2.2.1 (x := y) hs (fun g hg => by subst hg; exact hR g hx) (fun e he => by subst he; exact hE0 e hx) (fun e he => by subst he; exact hE1 e hx) (fun e he => by subst he; exact hx)
def f_X3_collect_j48 (σ : xM)  : Option (Int32 × xM) :=
  some ((-1 : Int32), σ)
set_option maxHeartbeats 4000000 in
set_option maxRecDepth 20000 in
theorem L_X3_collect_j48 {G : xG} {π : Nat → Nat} {d C Z : Nat} {Q : xQ} (σ : xM)  {x : (Int32 × xM)} (hf : f_X3_collect_j48 σ = some x) (hR : ∀ g, x = g → Q (.inl (some (.int g.1))) (g.2) π) : xMach G π J_X3_collect (d + 6) C Z 48 [] [] σ Q := by
  unfold f_X3_collect_j48 at hf
  refine xm_iconst dX3_collect_48 (v := -1) (by decide) ?_
  cases hf
  exact xm_iret dX3_collect_49 rfl (hR _ rfl)
def f_X3_collect_j74 (σ : xM) (s0 : Int32) : Option (Int32 × xM) :=
  some (s0, σ)
set_option maxHeartbeats 4000000 in
set_option maxRecDepth 20000 in
theorem L_X3_collect_j74 {G : xG} {π : Nat → Nat} {d C Z : Nat} {Q : xQ} (σ : xM) (s0 : Int32) {x : (Int32 × xM)} (hf : f_X3_collect_j74 σ s0 = some x) (hR : ∀ g, x = g → Q (.inl (some (.int g.1))) (g.2) π) : xMach G π J_X3_collect (d + 6) C Z 74 [] [.int s0] σ Q := by
  unfold f_X3_collect_j74 at hf
  cases hf
  exact xm_iret dX3_collect_74 rfl (hR _ rfl)
def f_X3_collect_j56 (σ : xM) (l0 : Nat) : Option (Int32 × xM) :=
  (gI σ l0 3 4).bind (fun x10 => (if x10 = (1 : Int32) then (gR σ l0 3 3).bind (fun x11 => (aI σ x11 14 (0 : Int32)).bind (fun x12 => f_X3_collect_j74 σ x12)) else f_X3_collect_j74 σ (-1 : Int32)))
set_option maxHeartbeats 4000000 in
set_option maxRecDepth 20000 in
theorem L_X3_collect_j56 {G : xG} {π : Nat → Nat} {d C Z : Nat} {Q : xQ} (σ : xM) (l0 : Nat) {x : (Int32 × xM)} (hf : f_X3_collect_j56 σ l0 = some x) (hR : ∀ g, x = g → Q (.inl (some (.int g.1))) (g.2) π) : xMach G π J_X3_collect (d + 6) C Z 56 [(0, .ref l0)] [] σ Q := by
  unfold f_X3_collect_j56 at hf
  refine xm_aload_n dX3_collect_56 rfl ?_
  refine xb_getI (a := l0) (c := 3) (k := 4) dX3_collect_57 xcl3 (by decide) xw_553 rfl hf (fun x10 ex10 hf => ?_)
  refine xm_iconst dX3_collect_60 (v := 1) (by decide) ?_
  refine xb_icmp_ne 73 dX3_collect_61 (by decide) hf (fun c hf => ?_) (fun c hf => ?_)
  · refine xm_iconst dX3_collect_73 (v := -1) (by decide) ?_
    exact xm_sub [] rfl (L_X3_collect_j74 σ (-1 : Int32) hf hR)
  · refine xm_aload_n dX3_collect_64 rfl ?_
    refine xb_getR (a := l0) (c := 3) (k := 3) dX3_collect_65 xcl3 (by decide) xw_552 rfl hf (fun x11 ex11 hf => ?_)
    refine xm_iconst dX3_collect_68 (v := 0) (by decide) ?_
    refine xb_iald dX3_collect_69 hf (fun x12 ex12 hf => ?_)
    refine xm_goto 74 dX3_collect_70 (by decide) ?_
    exact xm_sub [] rfl (L_X3_collect_j74 σ x12 hf hR)
def f_X3_collect (σ : xM) (l0 : Nat) (l1 : Nat) (l2 : Int32) (l3 : Int32) : Option (Int32 × xM) :=
  (sI σ l0 3 4 (0 : Int32)).bind (fun σ1 => (gR σ1 l1 9 5).bind (fun x2 => (aI σ1 x2 14 l2).bind (fun x3 => (gR σ1 l1 9 4).bind (fun x4 => (aI σ1 x4 14 l2).bind (fun x5 => xlet ((x3 - x5) + (1 : Int32)) (fun v6 => (xloop (f_X3_collect_s26 ) xF (l0, l1, l3, x3, v6, σ1)).bind (Sum.elim (fun g => some g) (Sum.elim (fun e => f_X3_collect_j48 e) (fun e => f_X3_collect_j56 e.2 e.1)))))))))
set_option maxHeartbeats 4000000 in
set_option maxRecDepth 20000 in
theorem m_X3_collect {G : xG} {π : Nat → Nat} {d C Z : Nat} {Q : xQ} {σ : xM} {l0 : Nat} {l1 : Nat} {l2 : Int32} {l3 : Int32} {x : (Int32 × xM)} (hf : f_X3_collect σ l0 l1 l2 l3 = some x) (hR : ∀ g, x = g → Q (.inl (some (.int g.1))) (g.2) π) : xMach G π J_X3_collect (d + 6) C Z 0 (lv_args 0 [.ref l0, .ref l1, .int l2, .int l3]) [] σ Q := by
  unfold f_X3_collect at hf
  refine xm_stL (L' := [(0, .ref l0), (1, .ref l1), (2, .int l2), (3, .int l3)]) rfl ?_
  refine xm_aload_n dX3_collect_0 rfl ?_
  refine xm_iconst dX3_collect_1 (v := 0) (by decide) ?_
  refine xb_putI (a := l0) (c := 3) (k := 4) dX3_collect_2 xcl3 (by decide) xw_553 rfl rfl hf (fun σ1 eσ1 hf => ?_)
  refine xm_aload_n dX3_collect_5 rfl ?_
  refine xb_getR (a := l1) (c := 9) (k := 5) dX3_collect_6 xcl9 (by decide) xw_222 rfl hf (fun x2 ex2 hf => ?_)
  refine xm_iload_n dX3_collect_9 rfl ?_
  refine xb_iald dX3_collect_10 hf (fun x3 ex3 hf => ?_)
  refine xm_istore dX3_collect_11 (by decide) (xm_stL (L' := [(4, .int x3), (0, .ref l0), (1, .ref l1), (2, .int l2), (3, .int l3)]) rfl ?_)
  refine xm_iload dX3_collect_13 rfl ?_
  refine xm_aload_n dX3_collect_15 rfl ?_
  refine xb_getR (a := l1) (c := 9) (k := 4) dX3_collect_16 xcl9 (by decide) xw_218 rfl hf (fun x4 ex4 hf => ?_)
  refine xm_iload_n dX3_collect_19 rfl ?_
  refine xb_iald dX3_collect_20 hf (fun x5 ex5 hf => ?_)
  refine xm_isub dX3_collect_21 ?_
  refine xm_iconst dX3_collect_22 (v := 1) (by decide) ?_
  refine xm_iadd dX3_collect_23 ?_
  refine xb_topi hf (fun v6 ev6 hf => ?_)
  refine xm_istore dX3_collect_24 (by decide) (xm_stL (L' := [(5, .int v6), (4, .int x3), (0, .ref l0), (1, .ref l1), (2, .int l2), (3, .int l3)]) rfl ?_)
  obtain ⟨o, h1, hf⟩ := xbind hf
  refine xm_sub [2, 3, 5, 1, 0] rfl (L_X3_collect_l26  h1 (fun g hg => ?_) (fun e he => ?_) (fun e he => ?_))
  · subst hg
    cases hf
    exact hR _ rfl
  · subst he
    rw [Sum.elim_inr, Sum.elim_inl] at hf
    have hf : f_X3_collect_j48 e = some _ := hf
    exact xm_sub [] rfl (L_X3_collect_j48 e hf hR)
  · subst he
    rw [Sum.elim_inr, Sum.elim_inr] at hf
    have hf : f_X3_collect_j56 e.2 e.1 = some _ := hf
    exact xm_sub [0] rfl (L_X3_collect_j56 e.2 e.1 hf hR)
-- Rankwise$Gatherer.keep()V
def f_X3_keep_s2 (s : (Nat × Int32 × xM)) : Option (xM ⊕ ((xM) ⊕ (Nat × Int32 × xM))) :=
  xlet s.1 (fun l0 => xlet s.2.1 (fun l1 => xlet s.2.2 (fun σ => (if (9 : Int32) ≤ l1 then some (Sum.inr (Sum.inl σ)) else (gR σ l0 3 9).bind (fun x2 => ((aR σ x2 16 l1).bind id).bind (fun x3 => (gR σ l0 3 2).bind (fun x4 => ((aR σ x4 16 l1).bind id).bind (fun x5 => (if xk σ x3 2 = true then (f_X2_copy σ x3 x5).bind (fun p6 => xlet (l1 + (1 : Int32)) (fun v7 => some (Sum.inr (Sum.inr (l0, v7, p6))))) else none)))))))))
set_option maxHeartbeats 4000000 in
set_option maxRecDepth 20000 in
theorem L_X3_keep_s2 {G : xG} {π : Nat → Nat} {d C Z : Nat} {Q : xQ} (σ : xM) (l0 : Nat) (l1 : Int32) {x : (xM ⊕ ((xM) ⊕ (Nat × Int32 × xM)))} (hf : f_X3_keep_s2 (l0, l1, σ) = some x) (hR : ∀ g, x = Sum.inl (g) → Q (.inl none) (g) π) (hE : ∀ e : (xM), x = Sum.inr (Sum.inl e) → xMach G π J_X3_keep (d + 3) C Z 29 [] [] e Q) (hC : ∀ e : (Nat × Int32 × xM), x = Sum.inr (Sum.inr e) → xMach G π J_X3_keep (d + 3) C Z 2 [(0, .ref e.1), (1, .int e.2.1)] [] e.2.2 Q) : xMach G π J_X3_keep (d + 3) C Z 2 [(0, .ref l0), (1, .int l1)] [] σ Q := by
  have hf : (if (9 : Int32) ≤ l1 then some (Sum.inr (Sum.inl σ)) else (gR σ l0 3 9).bind (fun x2 => ((aR σ x2 16 l1).bind id).bind (fun x3 => (gR σ l0 3 2).bind (fun x4 => ((aR σ x4 16 l1).bind id).bind (fun x5 => (if xk σ x3 2 = true then (f_X2_copy σ x3 x5).bind (fun p6 => xlet (l1 + (1 : Int32)) (fun v7 => some (Sum.inr (Sum.inr (l0, v7, p6))))) else none)))))) = some x := hf
  refine xm_iload_n dX3_keep_2 rfl ?_
  refine xm_bipush dX3_keep_3 (v := 9) (by decide) ?_
  refine xb_icmp_ge 29 dX3_keep_5 (by decide) hf (fun c hf => ?_) (fun c hf => ?_)
  · cases hf
    exact xm_sub [] rfl (hE _ rfl)
  · refine xm_aload_n dX3_keep_8 rfl ?_
    refine xb_getR (a := l0) (c := 3) (k := 9) dX3_keep_9 xcl3 (by decide) xw_558 rfl hf (fun x2 ex2 hf => ?_)
    refine xm_iload_n dX3_keep_12 rfl ?_
    refine xb_aaldS dX3_keep_13 (by decide) hf (fun x3 ex3 hf => ?_)
    refine xm_aload_n dX3_keep_14 rfl ?_
    refine xb_getR (a := l0) (c := 3) (k := 2) dX3_keep_15 xcl3 (by decide) xw_551 rfl hf (fun x4 ex4 hf => ?_)
    refine xm_iload_n dX3_keep_18 rfl ?_
    refine xb_aaldS dX3_keep_19 (by decide) hf (fun x5 ex5 hf => ?_)
    refine xb_if hf (fun hb hf => ?_) (fun _ q => nomatch q)
    obtain ⟨p6, ep6, hf⟩ := xbind hf
    refine xb_callV (As := [.ref x5]) (v0 := none) (τ0 := p6) dX3_keep_20 (xc_X2_copy _ _) xcl2 xw_1573 xw_750 xw_751 hb rfl (Nat.le_of_ble_eq_true rfl) rfl (Nat.le_of_ble_eq_true rfl) (fun Q1 hq => m_X2_copy (d := d + 0) ep6 (fun g hg => by subst hg; exact hq)) ?_
    refine xb_iinc dX3_keep_23 rfl (by decide) (by decide) hf (fun v7 ev7 hf => xm_stL (L' := [(1, .int v7), (0, .ref l0)]) rfl ?_)
    refine xm_goto 2 dX3_keep_26 (by decide) ?_
    cases hf
    exact xm_sub [1, 0] rfl (hC _ rfl)
theorem L_X3_keep_l2 {G : xG} {π : Nat → Nat} {d C Z : Nat} {Q : xQ} {s0 : (Nat × Int32 × xM)} {x : (xM ⊕ (xM))} (h1 : xloop (f_X3_keep_s2) xF s0 = some x) (hR : ∀ g, x = Sum.inl g → Q (.inl none) (g) π) (hE : ∀ e : (xM), x = Sum.inr e → xMach G π J_X3_keep (d + 3) C Z 29 [] [] e Q) : xMach G π J_X3_keep (d + 3) C Z 2 [(0, .ref s0.1), (1, .int s0.2.1)] [] s0.2.2 Q := by
  refine xloop_run (M := (fun s : (Nat × Int32 × xM) => xMach G π J_X3_keep (d + 3) C Z 2 [(0, .ref s.1), (1, .int s.2.1)] [] s.2.2 Q)) (r := x) ?_ xF _ h1
  intro s y hs hx
  exact L_X3_keep_s2 s.2.2 s.1 s.2.1 (x := y) hs (fun g hg => by subst hg; exact hR g hx) (fun e he => by subst he; exact hE e hx) (fun e he => by subst he; exact hx)
def f_X3_keep_j29 (σ : xM)  : Option xM :=
  some σ
set_option maxHeartbeats 4000000 in
set_option maxRecDepth 20000 in
theorem L_X3_keep_j29 {G : xG} {π : Nat → Nat} {d C Z : Nat} {Q : xQ} (σ : xM)  {x : xM} (hf : f_X3_keep_j29 σ = some x) (hR : ∀ g, x = g → Q (.inl none) (g) π) : xMach G π J_X3_keep (d + 3) C Z 29 [] [] σ Q := by
  unfold f_X3_keep_j29 at hf
  cases hf
  exact xm_vret dX3_keep_29 rfl (hR _ rfl)
def f_X3_keep (σ : xM) (l0 : Nat) : Option xM :=
  xlet (0 : Int32) (fun v1 => (xloop (f_X3_keep_s2 ) xF (l0, v1, σ)).bind (Sum.elim (fun g => some g) (fun e => f_X3_keep_j29 e)))
set_option maxHeartbeats 4000000 in
set_option maxRecDepth 20000 in
theorem m_X3_keep {G : xG} {π : Nat → Nat} {d C Z : Nat} {Q : xQ} {σ : xM} {l0 : Nat} {x : xM} (hf : f_X3_keep σ l0 = some x) (hR : ∀ g, x = g → Q (.inl none) (g) π) : xMach G π J_X3_keep (d + 3) C Z 0 (lv_args 0 [.ref l0]) [] σ Q := by
  unfold f_X3_keep at hf
  refine xm_stL (L' := [(0, .ref l0)]) rfl ?_
  refine xm_iconst dX3_keep_0 (v := 0) (by decide) ?_
  refine xb_topi hf (fun v1 ev1 hf => ?_)
  refine xm_istore_n dX3_keep_1 (by decide) (xm_stL (L' := [(1, .int v1), (0, .ref l0)]) rfl ?_)
  obtain ⟨o, h1, hf⟩ := xbind hf
  refine xm_sub [1, 0] rfl (L_X3_keep_l2  h1 (fun g hg => ?_) (fun e he => ?_))
  · subst hg
    cases hf
    exact hR _ rfl
  · subst he
    rw [Sum.elim_inr] at hf
    have hf : f_X3_keep_j29 e = some _ := hf
    exact xm_sub [] rfl (L_X3_keep_j29 e hf hR)
-- Rankwise$Gatherer.setAside()V
def f_X3_setAside (σ : xM) (l0 : Nat) : Option xM :=
  (gR σ l0 3 10).bind (fun x1 => (gR σ l0 3 2).bind (fun x2 => ((aR σ x2 16 (0 : Int32)).bind id).bind (fun x3 => (if xk σ x1 2 = true then (f_X2_copy σ x1 x3).bind (fun p4 => (gR p4 l0 3 11).bind (fun x5 => (gR p4 l0 3 2).bind (fun x6 => ((aR p4 x6 16 (1 : Int32)).bind id).bind (fun x7 => (if xk p4 x5 2 = true then (f_X2_copy p4 x5 x7).bind (fun p8 => some p8) else none))))) else none))))
set_option maxHeartbeats 4000000 in
set_option maxRecDepth 20000 in
theorem m_X3_setAside {G : xG} {π : Nat → Nat} {d C Z : Nat} {Q : xQ} {σ : xM} {l0 : Nat} {x : xM} (hf : f_X3_setAside σ l0 = some x) (hR : ∀ g, x = g → Q (.inl none) (g) π) : xMach G π J_X3_setAside (d + 3) C Z 0 (lv_args 0 [.ref l0]) [] σ Q := by
  unfold f_X3_setAside at hf
  refine xm_stL (L' := [(0, .ref l0)]) rfl ?_
  refine xm_aload_n dX3_setAside_0 rfl ?_
  refine xb_getR (a := l0) (c := 3) (k := 10) dX3_setAside_1 xcl3 (by decide) xw_560 rfl hf (fun x1 ex1 hf => ?_)
  refine xm_aload_n dX3_setAside_4 rfl ?_
  refine xb_getR (a := l0) (c := 3) (k := 2) dX3_setAside_5 xcl3 (by decide) xw_551 rfl hf (fun x2 ex2 hf => ?_)
  refine xm_iconst dX3_setAside_8 (v := 0) (by decide) ?_
  refine xb_aaldS dX3_setAside_9 (by decide) hf (fun x3 ex3 hf => ?_)
  refine xb_if hf (fun hb hf => ?_) (fun _ q => nomatch q)
  obtain ⟨p4, ep4, hf⟩ := xbind hf
  refine xb_callV (As := [.ref x3]) (v0 := none) (τ0 := p4) dX3_setAside_10 (xc_X2_copy _ _) xcl2 xw_1573 xw_750 xw_751 hb rfl (Nat.le_of_ble_eq_true rfl) rfl (Nat.le_of_ble_eq_true rfl) (fun Q1 hq => m_X2_copy (d := d + 0) ep4 (fun g hg => by subst hg; exact hq)) ?_
  refine xm_aload_n dX3_setAside_13 rfl ?_
  refine xb_getR (a := l0) (c := 3) (k := 11) dX3_setAside_14 xcl3 (by decide) xw_561 rfl hf (fun x5 ex5 hf => ?_)
  refine xm_aload_n dX3_setAside_17 rfl ?_
  refine xb_getR (a := l0) (c := 3) (k := 2) dX3_setAside_18 xcl3 (by decide) xw_551 rfl hf (fun x6 ex6 hf => ?_)
  refine xm_iconst dX3_setAside_21 (v := 1) (by decide) ?_
  refine xb_aaldS dX3_setAside_22 (by decide) hf (fun x7 ex7 hf => ?_)
  refine xb_if hf (fun hb hf => ?_) (fun _ q => nomatch q)
  obtain ⟨p8, ep8, hf⟩ := xbind hf
  refine xb_callV (As := [.ref x7]) (v0 := none) (τ0 := p8) dX3_setAside_23 (xc_X2_copy _ _) xcl2 xw_1573 xw_750 xw_751 hb rfl (Nat.le_of_ble_eq_true rfl) rfl (Nat.le_of_ble_eq_true rfl) (fun Q1 hq => m_X2_copy (d := d + 0) ep8 (fun g hg => by subst hg; exact hq)) ?_
  cases hf
  exact xm_vret dX3_setAside_26 rfl (hR _ rfl)
-- Rankwise$Gatherer.compareSides()I
def f_X3_compareSides_j69 (σ : xM) (s0 : Int32) : Option (Int32 × xM) :=
  some (s0, σ)
set_option maxHeartbeats 4000000 in
set_option maxRecDepth 20000 in
theorem L_X3_compareSides_j69 {G : xG} {π : Nat → Nat} {d C Z : Nat} {Q : xQ} (σ : xM) (s0 : Int32) {x : (Int32 × xM)} (hf : f_X3_compareSides_j69 σ s0 = some x) (hR : ∀ g, x = g → Q (.inl (some (.int g.1))) (g.2) π) : xMach G π J_X3_compareSides (d + 3) C Z 69 [] [.int s0] σ Q := by
  unfold f_X3_compareSides_j69 at hf
  cases hf
  exact xm_iret dX3_compareSides_69 rfl (hR _ rfl)
def f_X3_compareSides (σ : xM) (l0 : Nat) : Option (Int32 × xM) :=
  (gR σ l0 3 1).bind (fun x1 => (gR σ l0 3 7).bind (fun x2 => (gR σ l0 3 11).bind (fun x3 => (gR σ l0 3 2).bind (fun x4 => ((aR σ x4 16 (1 : Int32)).bind id).bind (fun x5 => (if xk σ x1 0 = true then (f_X0_sum σ x1 x2 x3 x5 (1 : Int32)).bind (fun p6 => (gR p6 l0 3 1).bind (fun x7 => (gR p6 l0 3 8).bind (fun x8 => (gR p6 l0 3 2).bind (fun x9 => ((aR p6 x9 16 (0 : Int32)).bind id).bind (fun x10 => (gR p6 l0 3 10).bind (fun x11 => (if xk p6 x7 0 = true then (f_X0_sum p6 x7 x8 x10 x11 (1 : Int32)).bind (fun p12 => (gR p12 l0 3 7).bind (fun x13 => (if xk p12 x13 2 = true then (f_X2_isZero p12 x13).bind (fun p14 => (if p14 = (0 : Int32) then (gR p12 l0 3 1).bind (fun x15 => (gR p12 l0 3 7).bind (fun x16 => (gR p12 l0 3 8).bind (fun x17 => (gR p12 l0 3 7).bind (fun x18 => (if xk p12 x15 0 = true then (f_X0_over p12 x15 x16 x17 x18).bind (fun p19 => (gR p19 l0 3 1).bind (fun x20 => (gR p19 l0 3 7).bind (fun x21 => (if xk p19 x20 0 = true then (f_X0_settle p19 x20 x21).bind (fun p22 => (gR p22 l0 3 7).bind (fun x23 => (if xk p22 x23 2 = true then (f_X2_fits p22 x23).bind (fun p24 => (if p24 = (0 : Int32) then some ((-1 : Int32), p22) else (gR p22 l0 3 12).bind (fun x25 => (gR p22 l0 3 7).bind (fun x26 => (if xk p22 x25 2 = true then (f_X2_copy p22 x25 x26).bind (fun p27 => some ((1 : Int32), p27)) else none))))) else none))) else none)))) else none))))) else (gR p12 l0 3 8).bind (fun x28 => (if xk p12 x28 2 = true then (f_X2_isZero p12 x28).bind (fun p29 => (if p29 = (0 : Int32) then f_X3_compareSides_j69 p12 (0 : Int32) else f_X3_compareSides_j69 p12 (2 : Int32))) else none)))) else none))) else none))))))) else none))))))
set_option maxHeartbeats 4000000 in
set_option maxRecDepth 20000 in
theorem m_X3_compareSides {G : xG} {π : Nat → Nat} {d C Z : Nat} {Q : xQ} {σ : xM} {l0 : Nat} {x : (Int32 × xM)} (hf : f_X3_compareSides σ l0 = some x) (hR : ∀ g, x = g → Q (.inl (some (.int g.1))) (g.2) π) : xMach G π J_X3_compareSides (d + 3) C Z 0 (lv_args 0 [.ref l0]) [] σ Q := by
  unfold f_X3_compareSides at hf
  refine xm_stL (L' := [(0, .ref l0)]) rfl ?_
  refine xm_aload_n dX3_compareSides_0 rfl ?_
  refine xb_getR (a := l0) (c := 3) (k := 1) dX3_compareSides_1 xcl3 (by decide) xw_550 rfl hf (fun x1 ex1 hf => ?_)
  refine xm_aload_n dX3_compareSides_4 rfl ?_
  refine xb_getR (a := l0) (c := 3) (k := 7) dX3_compareSides_5 xcl3 (by decide) xw_556 rfl hf (fun x2 ex2 hf => ?_)
  refine xm_aload_n dX3_compareSides_8 rfl ?_
  refine xb_getR (a := l0) (c := 3) (k := 11) dX3_compareSides_9 xcl3 (by decide) xw_561 rfl hf (fun x3 ex3 hf => ?_)
  refine xm_aload_n dX3_compareSides_12 rfl ?_
  refine xb_getR (a := l0) (c := 3) (k := 2) dX3_compareSides_13 xcl3 (by decide) xw_551 rfl hf (fun x4 ex4 hf => ?_)
  refine xm_iconst dX3_compareSides_16 (v := 1) (by decide) ?_
  refine xb_aaldS dX3_compareSides_17 (by decide) hf (fun x5 ex5 hf => ?_)
  refine xm_iconst dX3_compareSides_18 (v := 1) (by decide) ?_
  refine xb_if hf (fun hb hf => ?_) (fun _ q => nomatch q)
  obtain ⟨p6, ep6, hf⟩ := xbind hf
  refine xb_callV (As := [.ref x2, .ref x3, .ref x5, .int (1 : Int32)]) (v0 := none) (τ0 := p6) dX3_compareSides_19 (xc_X0_sum _ _) xcl0 xw_1585 xw_1218 xw_1219 hb rfl (Nat.le_of_ble_eq_true rfl) rfl (Nat.le_of_ble_eq_true rfl) (fun Q1 hq => m_X0_sum (d := d + 0) ep6 (fun g hg => by subst hg; exact hq)) ?_
  refine xm_aload_n dX3_compareSides_22 rfl ?_
  refine xb_getR (a := l0) (c := 3) (k := 1) dX3_compareSides_23 xcl3 (by decide) xw_550 rfl hf (fun x7 ex7 hf => ?_)
  refine xm_aload_n dX3_compareSides_26 rfl ?_
  refine xb_getR (a := l0) (c := 3) (k := 8) dX3_compareSides_27 xcl3 (by decide) xw_557 rfl hf (fun x8 ex8 hf => ?_)
  refine xm_aload_n dX3_compareSides_30 rfl ?_
  refine xb_getR (a := l0) (c := 3) (k := 2) dX3_compareSides_31 xcl3 (by decide) xw_551 rfl hf (fun x9 ex9 hf => ?_)
  refine xm_iconst dX3_compareSides_34 (v := 0) (by decide) ?_
  refine xb_aaldS dX3_compareSides_35 (by decide) hf (fun x10 ex10 hf => ?_)
  refine xm_aload_n dX3_compareSides_36 rfl ?_
  refine xb_getR (a := l0) (c := 3) (k := 10) dX3_compareSides_37 xcl3 (by decide) xw_560 rfl hf (fun x11 ex11 hf => ?_)
  refine xm_iconst dX3_compareSides_40 (v := 1) (by decide) ?_
  refine xb_if hf (fun hb hf => ?_) (fun _ q => nomatch q)
  obtain ⟨p12, ep12, hf⟩ := xbind hf
  refine xb_callV (As := [.ref x8, .ref x10, .ref x11, .int (1 : Int32)]) (v0 := none) (τ0 := p12) dX3_compareSides_41 (xc_X0_sum _ _) xcl0 xw_1585 xw_1218 xw_1219 hb rfl (Nat.le_of_ble_eq_true rfl) rfl (Nat.le_of_ble_eq_true rfl) (fun Q1 hq => m_X0_sum (d := d + 0) ep12 (fun g hg => by subst hg; exact hq)) ?_
  refine xm_aload_n dX3_compareSides_44 rfl ?_
  refine xb_getR (a := l0) (c := 3) (k := 7) dX3_compareSides_45 xcl3 (by decide) xw_556 rfl hf (fun x13 ex13 hf => ?_)
  refine xb_if hf (fun hb hf => ?_) (fun _ q => nomatch q)
  obtain ⟨p14, ep14, hf⟩ := xbind hf
  refine xb_callV (As := []) (v0 := (some (.int p14))) (τ0 := p12) dX3_compareSides_48 (xc_X2_isZero _ _) xcl2 xw_1592 xw_1170 xw_1171 hb rfl (Nat.le_of_ble_eq_true rfl) rfl (Nat.le_of_ble_eq_true rfl) (fun Q1 hq => m_X2_isZero (d := d + 1) ep14 (fun g hg => by subst hg; exact hq)) ?_
  refine xb_if_eq 70 dX3_compareSides_51 (by decide) hf (fun c hf => ?_) (fun c hf => ?_)
  · refine xm_aload_n dX3_compareSides_70 rfl ?_
    refine xb_getR (a := l0) (c := 3) (k := 1) dX3_compareSides_71 xcl3 (by decide) xw_550 rfl hf (fun x15 ex15 hf => ?_)
    refine xm_aload_n dX3_compareSides_74 rfl ?_
    refine xb_getR (a := l0) (c := 3) (k := 7) dX3_compareSides_75 xcl3 (by decide) xw_556 rfl hf (fun x16 ex16 hf => ?_)
    refine xm_aload_n dX3_compareSides_78 rfl ?_
    refine xb_getR (a := l0) (c := 3) (k := 8) dX3_compareSides_79 xcl3 (by decide) xw_557 rfl hf (fun x17 ex17 hf => ?_)
    refine xm_aload_n dX3_compareSides_82 rfl ?_
    refine xb_getR (a := l0) (c := 3) (k := 7) dX3_compareSides_83 xcl3 (by decide) xw_556 rfl hf (fun x18 ex18 hf => ?_)
    refine xb_if hf (fun hb hf => ?_) (fun _ q => nomatch q)
    obtain ⟨p19, ep19, hf⟩ := xbind hf
    refine xb_callV (As := [.ref x16, .ref x17, .ref x18]) (v0 := none) (τ0 := p19) dX3_compareSides_86 (xc_X0_over _ _) xcl0 xw_1610 xw_1341 xw_1342 hb rfl (Nat.le_of_ble_eq_true rfl) rfl (Nat.le_of_ble_eq_true rfl) (fun Q1 hq => m_X0_over (d := d + 0) ep19 (fun g hg => by subst hg; exact hq)) ?_
    refine xm_aload_n dX3_compareSides_89 rfl ?_
    refine xb_getR (a := l0) (c := 3) (k := 1) dX3_compareSides_90 xcl3 (by decide) xw_550 rfl hf (fun x20 ex20 hf => ?_)
    refine xm_aload_n dX3_compareSides_93 rfl ?_
    refine xb_getR (a := l0) (c := 3) (k := 7) dX3_compareSides_94 xcl3 (by decide) xw_556 rfl hf (fun x21 ex21 hf => ?_)
    refine xb_if hf (fun hb hf => ?_) (fun _ q => nomatch q)
    obtain ⟨p22, ep22, hf⟩ := xbind hf
    refine xb_callV (As := [.ref x21]) (v0 := none) (τ0 := p22) dX3_compareSides_97 (xc_X0_settle _ _) xcl0 xw_1586 xw_1262 xw_1263 hb rfl (Nat.le_of_ble_eq_true rfl) rfl (Nat.le_of_ble_eq_true rfl) (fun Q1 hq => m_X0_settle (d := d + 0) ep22 (fun g hg => by subst hg; exact hq)) ?_
    refine xm_aload_n dX3_compareSides_100 rfl ?_
    refine xb_getR (a := l0) (c := 3) (k := 7) dX3_compareSides_101 xcl3 (by decide) xw_556 rfl hf (fun x23 ex23 hf => ?_)
    refine xb_if hf (fun hb hf => ?_) (fun _ q => nomatch q)
    obtain ⟨p24, ep24, hf⟩ := xbind hf
    refine xb_callV (As := []) (v0 := (some (.int p24))) (τ0 := p22) dX3_compareSides_104 (xc_X2_fits _ _) xcl2 xw_1587 xw_1304 xw_1305 hb rfl (Nat.le_of_ble_eq_true rfl) rfl (Nat.le_of_ble_eq_true rfl) (fun Q1 hq => m_X2_fits (d := d + 1) ep24 (fun g hg => by subst hg; exact hq)) ?_
    refine xb_if_ne 112 dX3_compareSides_107 (by decide) hf (fun c hf => ?_) (fun c hf => ?_)
    · refine xm_aload_n dX3_compareSides_112 rfl ?_
      refine xb_getR (a := l0) (c := 3) (k := 12) dX3_compareSides_113 xcl3 (by decide) xw_562 rfl hf (fun x25 ex25 hf => ?_)
      refine xm_aload_n dX3_compareSides_116 rfl ?_
      refine xb_getR (a := l0) (c := 3) (k := 7) dX3_compareSides_117 xcl3 (by decide) xw_556 rfl hf (fun x26 ex26 hf => ?_)
      refine xb_if hf (fun hb hf => ?_) (fun _ q => nomatch q)
      obtain ⟨p27, ep27, hf⟩ := xbind hf
      refine xb_callV (As := [.ref x26]) (v0 := none) (τ0 := p27) dX3_compareSides_120 (xc_X2_copy _ _) xcl2 xw_1573 xw_750 xw_751 hb rfl (Nat.le_of_ble_eq_true rfl) rfl (Nat.le_of_ble_eq_true rfl) (fun Q1 hq => m_X2_copy (d := d + 0) ep27 (fun g hg => by subst hg; exact hq)) ?_
      refine xm_iconst dX3_compareSides_123 (v := 1) (by decide) ?_
      cases hf
      exact xm_iret dX3_compareSides_124 rfl (hR _ rfl)
    · refine xm_iconst dX3_compareSides_110 (v := -1) (by decide) ?_
      cases hf
      exact xm_iret dX3_compareSides_111 rfl (hR _ rfl)
  · refine xm_aload_n dX3_compareSides_54 rfl ?_
    refine xb_getR (a := l0) (c := 3) (k := 8) dX3_compareSides_55 xcl3 (by decide) xw_557 rfl hf (fun x28 ex28 hf => ?_)
    refine xb_if hf (fun hb hf => ?_) (fun _ q => nomatch q)
    obtain ⟨p29, ep29, hf⟩ := xbind hf
    refine xb_callV (As := []) (v0 := (some (.int p29))) (τ0 := p12) dX3_compareSides_58 (xc_X2_isZero _ _) xcl2 xw_1592 xw_1170 xw_1171 hb rfl (Nat.le_of_ble_eq_true rfl) rfl (Nat.le_of_ble_eq_true rfl) (fun Q1 hq => m_X2_isZero (d := d + 1) ep29 (fun g hg => by subst hg; exact hq)) ?_
    refine xb_if_eq 68 dX3_compareSides_61 (by decide) hf (fun c hf => ?_) (fun c hf => ?_)
    · refine xm_iconst dX3_compareSides_68 (v := 0) (by decide) ?_
      exact xm_sub [] rfl (L_X3_compareSides_j69 p12 (0 : Int32) hf hR)
    · refine xm_iconst dX3_compareSides_64 (v := 2) (by decide) ?_
      refine xm_goto 69 dX3_compareSides_65 (by decide) ?_
      exact xm_sub [] rfl (L_X3_compareSides_j69 p12 (2 : Int32) hf hR)
