-- Rankwise$Printer.spell(LRankwise$Tree;II)V
def f_X5_spell_j218 (R : xM → Nat → Nat → Int32 → Int32 → Option xM) (σ : xM) (l0 : Nat) (l1 : Nat) (l2 : Int32) (l3 : Int32) (l4 : Int32) (l5 : Int32) (l6 : Int32) (l7 : Int32) (l8 : Int32) : Option (xM ⊕ ((Nat × Nat × Int32 × Int32 × Int32 × Int32 × xM) ⊕ (Nat × Nat × Int32 × Int32 × Int32 × Int32 × Int32 × Int32 × Int32 × xM))) :=
  (gR σ l1 9 4).bind (fun x13 => (aI σ x13 14 l7).bind (fun x14 => xlet (l7 + x14) (fun v15 => xlet (l8 + (1 : Int32)) (fun v16 => some (Sum.inr (Sum.inr (l0, l1, l2, l3, l4, l5, l6, v15, v16, σ)))))))
set_option maxHeartbeats 4000000 in
set_option maxRecDepth 20000 in
theorem L_X5_spell_j218 {G : xG} {π : Nat → Nat} {d C Z : Nat} {Q : xQ} {R : xM → Nat → Nat → Int32 → Int32 → Option xM} (hrec : ∀ (e C Z : Nat) (Q : xQ) (σ : xM) (l0 : Nat) (l1 : Nat) (l2 : Int32) (l3 : Int32) (x : xM), R σ l0 l1 l2 l3 = some x → (∀ g, x = g → Q (.inl none) (g) π) → xMach G π J_X5_spell ((d + e) + 0) C Z 0 (lv_args 0 [.ref l0, .ref l1, .int l2, .int l3]) [] σ Q) (σ : xM) (l0 : Nat) (l1 : Nat) (l2 : Int32) (l3 : Int32) (l4 : Int32) (l5 : Int32) (l6 : Int32) (l7 : Int32) (l8 : Int32) {x : (xM ⊕ ((Nat × Nat × Int32 × Int32 × Int32 × Int32 × xM) ⊕ (Nat × Nat × Int32 × Int32 × Int32 × Int32 × Int32 × Int32 × Int32 × xM)))} (hf : f_X5_spell_j218 R σ l0 l1 l2 l3 l4 l5 l6 l7 l8 = some x) (hR : ∀ g, x = Sum.inl (g) → Q (.inl none) (g) π) (hE : ∀ e : (Nat × Nat × Int32 × Int32 × Int32 × Int32 × xM), x = Sum.inr (Sum.inl e) → xMach G π J_X5_spell (d + 1) C Z 236 [(0, .ref e.1), (1, .ref e.2.1), (2, .int e.2.2.1), (4, .int e.2.2.2.1), (5, .int e.2.2.2.2.1), (6, .int e.2.2.2.2.2.1)] [] e.2.2.2.2.2.2 Q) (hC : ∀ e : (Nat × Nat × Int32 × Int32 × Int32 × Int32 × Int32 × Int32 × Int32 × xM), x = Sum.inr (Sum.inr e) → xMach G π J_X5_spell (d + 1) C Z 96 [(0, .ref e.1), (1, .ref e.2.1), (2, .int e.2.2.1), (3, .int e.2.2.2.1), (4, .int e.2.2.2.2.1), (5, .int e.2.2.2.2.2.1), (6, .int e.2.2.2.2.2.2.1), (7, .int e.2.2.2.2.2.2.2.1), (8, .int e.2.2.2.2.2.2.2.2.1)] [] e.2.2.2.2.2.2.2.2.2 Q) : xMach G π J_X5_spell (d + 1) C Z 218 [(0, .ref l0), (1, .ref l1), (2, .int l2), (3, .int l3), (4, .int l4), (5, .int l5), (6, .int l6), (7, .int l7), (8, .int l8)] [] σ Q := by
  unfold f_X5_spell_j218 at hf
  refine xm_iload dX5_spell_218 rfl ?_
  refine xm_aload_n dX5_spell_220 rfl ?_
  refine xb_getR (a := l1) (c := 9) (k := 4) dX5_spell_221 xcl9 (by decide) xw_214 rfl hf (fun x13 ex13 hf => ?_)
  refine xm_iload dX5_spell_224 rfl ?_
  refine xb_iald dX5_spell_226 hf (fun x14 ex14 hf => ?_)
  refine xm_iadd dX5_spell_227 ?_
  refine xb_topi hf (fun v15 ev15 hf => ?_)
  refine xm_istore dX5_spell_228 (by decide) (xm_stL (L' := [(7, .int v15), (0, .ref l0), (1, .ref l1), (2, .int l2), (3, .int l3), (4, .int l4), (5, .int l5), (6, .int l6), (8, .int l8)]) rfl ?_)
  refine xb_iinc dX5_spell_230 rfl (by decide) (by decide) hf (fun v16 ev16 hf => xm_stL (L' := [(8, .int v16), (7, .int v15), (0, .ref l0), (1, .ref l1), (2, .int l2), (3, .int l3), (4, .int l4), (5, .int l5), (6, .int l6)]) rfl ?_)
  refine xm_goto 96 dX5_spell_233 (by decide) ?_
  cases hf
  exact xm_sub [2, 3, 4, 5, 6, 7, 8, 1, 0] rfl (hC _ rfl)
def f_X5_spell_j192 (R : xM → Nat → Nat → Int32 → Int32 → Option xM) (σ : xM) (l0 : Nat) (l1 : Nat) (l2 : Int32) (l3 : Int32) (l4 : Int32) (l5 : Int32) (l6 : Int32) (l7 : Int32) (l8 : Int32) (l9 : Int32) : Option (xM ⊕ ((Nat × Nat × Int32 × Int32 × Int32 × Int32 × xM) ⊕ (Nat × Nat × Int32 × Int32 × Int32 × Int32 × Int32 × Int32 × Int32 × xM))) :=
  (if xk σ l0 5 = true then (R σ l0 l1 l7 (l3 + (1 : Int32))).bind (fun p12 => (if l9 = (0 : Int32) then f_X5_spell_j218 R p12 l0 l1 l2 l3 l4 l5 l6 l7 l8 else (gR p12 l0 5 0).bind (fun x17 => (if xk p12 x17 6 = true then (f_X6_addWord p12 x17 (5 : Int32) (41 : Int32) (0 : Int32)).bind (fun p18 => f_X5_spell_j218 R p18 l0 l1 l2 l3 l4 l5 l6 l7 l8) else none)))) else none)
set_option maxHeartbeats 4000000 in
set_option maxRecDepth 20000 in
theorem L_X5_spell_j192 {G : xG} {π : Nat → Nat} {d C Z : Nat} {Q : xQ} {R : xM → Nat → Nat → Int32 → Int32 → Option xM} (hrec : ∀ (e C Z : Nat) (Q : xQ) (σ : xM) (l0 : Nat) (l1 : Nat) (l2 : Int32) (l3 : Int32) (x : xM), R σ l0 l1 l2 l3 = some x → (∀ g, x = g → Q (.inl none) (g) π) → xMach G π J_X5_spell ((d + e) + 0) C Z 0 (lv_args 0 [.ref l0, .ref l1, .int l2, .int l3]) [] σ Q) (σ : xM) (l0 : Nat) (l1 : Nat) (l2 : Int32) (l3 : Int32) (l4 : Int32) (l5 : Int32) (l6 : Int32) (l7 : Int32) (l8 : Int32) (l9 : Int32) {x : (xM ⊕ ((Nat × Nat × Int32 × Int32 × Int32 × Int32 × xM) ⊕ (Nat × Nat × Int32 × Int32 × Int32 × Int32 × Int32 × Int32 × Int32 × xM)))} (hf : f_X5_spell_j192 R σ l0 l1 l2 l3 l4 l5 l6 l7 l8 l9 = some x) (hR : ∀ g, x = Sum.inl (g) → Q (.inl none) (g) π) (hE : ∀ e : (Nat × Nat × Int32 × Int32 × Int32 × Int32 × xM), x = Sum.inr (Sum.inl e) → xMach G π J_X5_spell (d + 1) C Z 236 [(0, .ref e.1), (1, .ref e.2.1), (2, .int e.2.2.1), (4, .int e.2.2.2.1), (5, .int e.2.2.2.2.1), (6, .int e.2.2.2.2.2.1)] [] e.2.2.2.2.2.2 Q) (hC : ∀ e : (Nat × Nat × Int32 × Int32 × Int32 × Int32 × Int32 × Int32 × Int32 × xM), x = Sum.inr (Sum.inr e) → xMach G π J_X5_spell (d + 1) C Z 96 [(0, .ref e.1), (1, .ref e.2.1), (2, .int e.2.2.1), (3, .int e.2.2.2.1), (4, .int e.2.2.2.2.1), (5, .int e.2.2.2.2.2.1), (6, .int e.2.2.2.2.2.2.1), (7, .int e.2.2.2.2.2.2.2.1), (8, .int e.2.2.2.2.2.2.2.2.1)] [] e.2.2.2.2.2.2.2.2.2 Q) : xMach G π J_X5_spell (d + 1) C Z 192 [(0, .ref l0), (1, .ref l1), (2, .int l2), (3, .int l3), (4, .int l4), (5, .int l5), (6, .int l6), (7, .int l7), (8, .int l8), (9, .int l9)] [] σ Q := by
  unfold f_X5_spell_j192 at hf
  refine xm_aload_n dX5_spell_192 rfl ?_
  refine xm_aload_n dX5_spell_193 rfl ?_
  refine xm_iload dX5_spell_194 rfl ?_
  refine xm_iload_n dX5_spell_196 rfl ?_
  refine xm_iconst dX5_spell_197 (v := 1) (by decide) ?_
  refine xm_iadd dX5_spell_198 ?_
  refine xb_if hf (fun hb hf => ?_) (fun _ q => nomatch q)
  obtain ⟨p12, ep12, hf⟩ := xbind hf
  refine xb_callV (As := [.ref l1, .int l7, .int (l3 + (1 : Int32))]) (v0 := none) (τ0 := p12) dX5_spell_199 (xc_X5_spell _ _) xcl5 xw_1285 xw_1287 xs_44 hb rfl (Nat.le_of_ble_eq_true rfl) rfl (Nat.le_of_ble_eq_true rfl) (fun Q1 hq => hrec 0 _ _ Q1 _ _ _ _ _ _ ep12 (fun g hg => by subst hg; exact hq)) ?_
  refine xm_iload dX5_spell_202 rfl ?_
  refine xb_if_eq 218 dX5_spell_204 (by decide) hf (fun c hf => ?_) (fun c hf => ?_)
  · exact xm_sub [0, 1, 2, 3, 4, 5, 6, 7, 8] rfl (L_X5_spell_j218 hrec p12 l0 l1 l2 l3 l4 l5 l6 l7 l8 hf hR hE hC)
  · refine xm_aload_n dX5_spell_207 rfl ?_
    refine xb_getR (a := l0) (c := 5) (k := 0) dX5_spell_208 xcl5 (by decide) xw_397 rfl hf (fun x17 ex17 hf => ?_)
    refine xm_iconst dX5_spell_211 (v := 5) (by decide) ?_
    refine xm_bipush dX5_spell_212 (v := 41) (by decide) ?_
    refine xm_iconst dX5_spell_214 (v := 0) (by decide) ?_
    refine xb_if hf (fun hb hf => ?_) (fun _ q => nomatch q)
    obtain ⟨p18, ep18, hf⟩ := xbind hf
    refine xb_callV (As := [.int (5 : Int32), .int (41 : Int32), .int (0 : Int32)]) (v0 := none) (τ0 := p18) dX5_spell_215 (xc_X6_addWord _ _) xcl6 xw_1289 xw_728 xw_729 hb rfl (Nat.le_of_ble_eq_true rfl) rfl (Nat.le_of_ble_eq_true rfl) (fun Q1 hq => m_X6_addWord (d := d + 0) ep18 (fun g hg => by subst hg; exact hq)) ?_
    exact xm_sub [0, 1, 2, 3, 4, 5, 6, 7, 8] rfl (L_X5_spell_j218 hrec p18 l0 l1 l2 l3 l4 l5 l6 l7 l8 hf hR hE hC)
def f_X5_spell_j174 (R : xM → Nat → Nat → Int32 → Int32 → Option xM) (σ : xM) (l0 : Nat) (l1 : Nat) (l2 : Int32) (l3 : Int32) (l4 : Int32) (l5 : Int32) (l6 : Int32) (l7 : Int32) (l8 : Int32) (s0 : Int32) : Option (xM ⊕ ((Nat × Nat × Int32 × Int32 × Int32 × Int32 × xM) ⊕ (Nat × Nat × Int32 × Int32 × Int32 × Int32 × Int32 × Int32 × Int32 × xM))) :=
  (if s0 = (0 : Int32) then f_X5_spell_j192 R σ l0 l1 l2 l3 l4 l5 l6 l7 l8 s0 else (gR σ l0 5 0).bind (fun x19 => (if xk σ x19 6 = true then (f_X6_addWord σ x19 (4 : Int32) (40 : Int32) (0 : Int32)).bind (fun p20 => f_X5_spell_j192 R p20 l0 l1 l2 l3 l4 l5 l6 l7 l8 s0) else none)))
set_option maxHeartbeats 4000000 in
set_option maxRecDepth 20000 in
theorem L_X5_spell_j174 {G : xG} {π : Nat → Nat} {d C Z : Nat} {Q : xQ} {R : xM → Nat → Nat → Int32 → Int32 → Option xM} (hrec : ∀ (e C Z : Nat) (Q : xQ) (σ : xM) (l0 : Nat) (l1 : Nat) (l2 : Int32) (l3 : Int32) (x : xM), R σ l0 l1 l2 l3 = some x → (∀ g, x = g → Q (.inl none) (g) π) → xMach G π J_X5_spell ((d + e) + 0) C Z 0 (lv_args 0 [.ref l0, .ref l1, .int l2, .int l3]) [] σ Q) (σ : xM) (l0 : Nat) (l1 : Nat) (l2 : Int32) (l3 : Int32) (l4 : Int32) (l5 : Int32) (l6 : Int32) (l7 : Int32) (l8 : Int32) (s0 : Int32) {x : (xM ⊕ ((Nat × Nat × Int32 × Int32 × Int32 × Int32 × xM) ⊕ (Nat × Nat × Int32 × Int32 × Int32 × Int32 × Int32 × Int32 × Int32 × xM)))} (hf : f_X5_spell_j174 R σ l0 l1 l2 l3 l4 l5 l6 l7 l8 s0 = some x) (hR : ∀ g, x = Sum.inl (g) → Q (.inl none) (g) π) (hE : ∀ e : (Nat × Nat × Int32 × Int32 × Int32 × Int32 × xM), x = Sum.inr (Sum.inl e) → xMach G π J_X5_spell (d + 1) C Z 236 [(0, .ref e.1), (1, .ref e.2.1), (2, .int e.2.2.1), (4, .int e.2.2.2.1), (5, .int e.2.2.2.2.1), (6, .int e.2.2.2.2.2.1)] [] e.2.2.2.2.2.2 Q) (hC : ∀ e : (Nat × Nat × Int32 × Int32 × Int32 × Int32 × Int32 × Int32 × Int32 × xM), x = Sum.inr (Sum.inr e) → xMach G π J_X5_spell (d + 1) C Z 96 [(0, .ref e.1), (1, .ref e.2.1), (2, .int e.2.2.1), (3, .int e.2.2.2.1), (4, .int e.2.2.2.2.1), (5, .int e.2.2.2.2.2.1), (6, .int e.2.2.2.2.2.2.1), (7, .int e.2.2.2.2.2.2.2.1), (8, .int e.2.2.2.2.2.2.2.2.1)] [] e.2.2.2.2.2.2.2.2.2 Q) : xMach G π J_X5_spell (d + 1) C Z 174 [(0, .ref l0), (1, .ref l1), (2, .int l2), (3, .int l3), (4, .int l4), (5, .int l5), (6, .int l6), (7, .int l7), (8, .int l8)] [.int s0] σ Q := by
  unfold f_X5_spell_j174 at hf
  refine xm_istore dX5_spell_174 (by decide) (xm_stL (L' := [(9, .int s0), (0, .ref l0), (1, .ref l1), (2, .int l2), (3, .int l3), (4, .int l4), (5, .int l5), (6, .int l6), (7, .int l7), (8, .int l8)]) rfl ?_)
  refine xm_iload dX5_spell_176 rfl ?_
  refine xb_if_eq 192 dX5_spell_178 (by decide) hf (fun c hf => ?_) (fun c hf => ?_)
  · exact xm_sub [1, 2, 3, 4, 5, 6, 7, 8, 9, 0] rfl (L_X5_spell_j192 hrec σ l0 l1 l2 l3 l4 l5 l6 l7 l8 s0 hf hR hE hC)
  · refine xm_aload_n dX5_spell_181 rfl ?_
    refine xb_getR (a := l0) (c := 5) (k := 0) dX5_spell_182 xcl5 (by decide) xw_397 rfl hf (fun x19 ex19 hf => ?_)
    refine xm_iconst dX5_spell_185 (v := 4) (by decide) ?_
    refine xm_bipush dX5_spell_186 (v := 40) (by decide) ?_
    refine xm_iconst dX5_spell_188 (v := 0) (by decide) ?_
    refine xb_if hf (fun hb hf => ?_) (fun _ q => nomatch q)
    obtain ⟨p20, ep20, hf⟩ := xbind hf
    refine xb_callV (As := [.int (4 : Int32), .int (40 : Int32), .int (0 : Int32)]) (v0 := none) (τ0 := p20) dX5_spell_189 (xc_X6_addWord _ _) xcl6 xw_1289 xw_728 xw_729 hb rfl (Nat.le_of_ble_eq_true rfl) rfl (Nat.le_of_ble_eq_true rfl) (fun Q1 hq => m_X6_addWord (d := d + 0) ep20 (fun g hg => by subst hg; exact hq)) ?_
    exact xm_sub [1, 2, 3, 4, 5, 6, 7, 8, 9, 0] rfl (L_X5_spell_j192 hrec p20 l0 l1 l2 l3 l4 l5 l6 l7 l8 s0 hf hR hE hC)
def f_X5_spell_j173 (R : xM → Nat → Nat → Int32 → Int32 → Option xM) (σ : xM) (l0 : Nat) (l1 : Nat) (l2 : Int32) (l3 : Int32) (l4 : Int32) (l5 : Int32) (l6 : Int32) (l7 : Int32) (l8 : Int32) : Option (xM ⊕ ((Nat × Nat × Int32 × Int32 × Int32 × Int32 × xM) ⊕ (Nat × Nat × Int32 × Int32 × Int32 × Int32 × Int32 × Int32 × Int32 × xM))) :=
  f_X5_spell_j174 R σ l0 l1 l2 l3 l4 l5 l6 l7 l8 (0 : Int32)
set_option maxHeartbeats 4000000 in
set_option maxRecDepth 20000 in
theorem L_X5_spell_j173 {G : xG} {π : Nat → Nat} {d C Z : Nat} {Q : xQ} {R : xM → Nat → Nat → Int32 → Int32 → Option xM} (hrec : ∀ (e C Z : Nat) (Q : xQ) (σ : xM) (l0 : Nat) (l1 : Nat) (l2 : Int32) (l3 : Int32) (x : xM), R σ l0 l1 l2 l3 = some x → (∀ g, x = g → Q (.inl none) (g) π) → xMach G π J_X5_spell ((d + e) + 0) C Z 0 (lv_args 0 [.ref l0, .ref l1, .int l2, .int l3]) [] σ Q) (σ : xM) (l0 : Nat) (l1 : Nat) (l2 : Int32) (l3 : Int32) (l4 : Int32) (l5 : Int32) (l6 : Int32) (l7 : Int32) (l8 : Int32) {x : (xM ⊕ ((Nat × Nat × Int32 × Int32 × Int32 × Int32 × xM) ⊕ (Nat × Nat × Int32 × Int32 × Int32 × Int32 × Int32 × Int32 × Int32 × xM)))} (hf : f_X5_spell_j173 R σ l0 l1 l2 l3 l4 l5 l6 l7 l8 = some x) (hR : ∀ g, x = Sum.inl (g) → Q (.inl none) (g) π) (hE : ∀ e : (Nat × Nat × Int32 × Int32 × Int32 × Int32 × xM), x = Sum.inr (Sum.inl e) → xMach G π J_X5_spell (d + 1) C Z 236 [(0, .ref e.1), (1, .ref e.2.1), (2, .int e.2.2.1), (4, .int e.2.2.2.1), (5, .int e.2.2.2.2.1), (6, .int e.2.2.2.2.2.1)] [] e.2.2.2.2.2.2 Q) (hC : ∀ e : (Nat × Nat × Int32 × Int32 × Int32 × Int32 × Int32 × Int32 × Int32 × xM), x = Sum.inr (Sum.inr e) → xMach G π J_X5_spell (d + 1) C Z 96 [(0, .ref e.1), (1, .ref e.2.1), (2, .int e.2.2.1), (3, .int e.2.2.2.1), (4, .int e.2.2.2.2.1), (5, .int e.2.2.2.2.2.1), (6, .int e.2.2.2.2.2.2.1), (7, .int e.2.2.2.2.2.2.2.1), (8, .int e.2.2.2.2.2.2.2.2.1)] [] e.2.2.2.2.2.2.2.2.2 Q) : xMach G π J_X5_spell (d + 1) C Z 173 [(0, .ref l0), (1, .ref l1), (2, .int l2), (3, .int l3), (4, .int l4), (5, .int l5), (6, .int l6), (7, .int l7), (8, .int l8)] [] σ Q := by
  unfold f_X5_spell_j173 at hf
  refine xm_iconst dX5_spell_173 (v := 0) (by decide) ?_
  exact xm_sub [0, 1, 2, 3, 4, 5, 6, 7, 8] rfl (L_X5_spell_j174 hrec σ l0 l1 l2 l3 l4 l5 l6 l7 l8 (0 : Int32) hf hR hE hC)
def f_X5_spell_j152 (R : xM → Nat → Nat → Int32 → Int32 → Option xM) (σ : xM) (l0 : Nat) (l1 : Nat) (l2 : Int32) (l3 : Int32) (l4 : Int32) (l5 : Int32) (l6 : Int32) (l7 : Int32) (l8 : Int32) : Option (xM ⊕ ((Nat × Nat × Int32 × Int32 × Int32 × Int32 × xM) ⊕ (Nat × Nat × Int32 × Int32 × Int32 × Int32 × Int32 × Int32 × Int32 × xM))) :=
  (if l4 = (3 : Int32) then (gR σ l1 9 0).bind (fun x21 => (aI σ x21 14 l7).bind (fun x22 => (if x22 = (3 : Int32) then f_X5_spell_j174 R σ l0 l1 l2 l3 l4 l5 l6 l7 l8 (1 : Int32) else f_X5_spell_j173 R σ l0 l1 l2 l3 l4 l5 l6 l7 l8))) else f_X5_spell_j173 R σ l0 l1 l2 l3 l4 l5 l6 l7 l8)
set_option maxHeartbeats 4000000 in
set_option maxRecDepth 20000 in
theorem L_X5_spell_j152 {G : xG} {π : Nat → Nat} {d C Z : Nat} {Q : xQ} {R : xM → Nat → Nat → Int32 → Int32 → Option xM} (hrec : ∀ (e C Z : Nat) (Q : xQ) (σ : xM) (l0 : Nat) (l1 : Nat) (l2 : Int32) (l3 : Int32) (x : xM), R σ l0 l1 l2 l3 = some x → (∀ g, x = g → Q (.inl none) (g) π) → xMach G π J_X5_spell ((d + e) + 0) C Z 0 (lv_args 0 [.ref l0, .ref l1, .int l2, .int l3]) [] σ Q) (σ : xM) (l0 : Nat) (l1 : Nat) (l2 : Int32) (l3 : Int32) (l4 : Int32) (l5 : Int32) (l6 : Int32) (l7 : Int32) (l8 : Int32) {x : (xM ⊕ ((Nat × Nat × Int32 × Int32 × Int32 × Int32 × xM) ⊕ (Nat × Nat × Int32 × Int32 × Int32 × Int32 × Int32 × Int32 × Int32 × xM)))} (hf : f_X5_spell_j152 R σ l0 l1 l2 l3 l4 l5 l6 l7 l8 = some x) (hR : ∀ g, x = Sum.inl (g) → Q (.inl none) (g) π) (hE : ∀ e : (Nat × Nat × Int32 × Int32 × Int32 × Int32 × xM), x = Sum.inr (Sum.inl e) → xMach G π J_X5_spell (d + 1) C Z 236 [(0, .ref e.1), (1, .ref e.2.1), (2, .int e.2.2.1), (4, .int e.2.2.2.1), (5, .int e.2.2.2.2.1), (6, .int e.2.2.2.2.2.1)] [] e.2.2.2.2.2.2 Q) (hC : ∀ e : (Nat × Nat × Int32 × Int32 × Int32 × Int32 × Int32 × Int32 × Int32 × xM), x = Sum.inr (Sum.inr e) → xMach G π J_X5_spell (d + 1) C Z 96 [(0, .ref e.1), (1, .ref e.2.1), (2, .int e.2.2.1), (3, .int e.2.2.2.1), (4, .int e.2.2.2.2.1), (5, .int e.2.2.2.2.2.1), (6, .int e.2.2.2.2.2.2.1), (7, .int e.2.2.2.2.2.2.2.1), (8, .int e.2.2.2.2.2.2.2.2.1)] [] e.2.2.2.2.2.2.2.2.2 Q) : xMach G π J_X5_spell (d + 1) C Z 152 [(0, .ref l0), (1, .ref l1), (2, .int l2), (3, .int l3), (4, .int l4), (5, .int l5), (6, .int l6), (7, .int l7), (8, .int l8)] [] σ Q := by
  unfold f_X5_spell_j152 at hf
  refine xm_iload dX5_spell_152 rfl ?_
  refine xm_iconst dX5_spell_154 (v := 3) (by decide) ?_
  refine xb_icmp_ne 173 dX5_spell_155 (by decide) hf (fun c hf => ?_) (fun c hf => ?_)
  · exact xm_sub [0, 1, 2, 3, 4, 5, 6, 7, 8] rfl (L_X5_spell_j173 hrec σ l0 l1 l2 l3 l4 l5 l6 l7 l8 hf hR hE hC)
  · refine xm_aload_n dX5_spell_158 rfl ?_
    refine xb_getR (a := l1) (c := 9) (k := 0) dX5_spell_159 xcl9 (by decide) xw_194 rfl hf (fun x21 ex21 hf => ?_)
    refine xm_iload dX5_spell_162 rfl ?_
    refine xb_iald dX5_spell_164 hf (fun x22 ex22 hf => ?_)
    refine xm_iconst dX5_spell_165 (v := 3) (by decide) ?_
    refine xb_icmp_ne 173 dX5_spell_166 (by decide) hf (fun c hf => ?_) (fun c hf => ?_)
    · exact xm_sub [0, 1, 2, 3, 4, 5, 6, 7, 8] rfl (L_X5_spell_j173 hrec σ l0 l1 l2 l3 l4 l5 l6 l7 l8 hf hR hE hC)
    · refine xm_iconst dX5_spell_169 (v := 1) (by decide) ?_
      refine xm_goto 174 dX5_spell_170 (by decide) ?_
      exact xm_sub [0, 1, 2, 3, 4, 5, 6, 7, 8] rfl (L_X5_spell_j174 hrec σ l0 l1 l2 l3 l4 l5 l6 l7 l8 (1 : Int32) hf hR hE hC)
def f_X5_spell_j148 (R : xM → Nat → Nat → Int32 → Int32 → Option xM) (σ : xM) (l0 : Nat) (l1 : Nat) (l2 : Int32) (l3 : Int32) (l4 : Int32) (l5 : Int32) (l6 : Int32) (l7 : Int32) (l8 : Int32) (s0 : Int32) (s1 : Int32) (s2 : Nat) : Option (xM ⊕ ((Nat × Nat × Int32 × Int32 × Int32 × Int32 × xM) ⊕ (Nat × Nat × Int32 × Int32 × Int32 × Int32 × Int32 × Int32 × Int32 × xM))) :=
  (if xk σ s2 6 = true then (f_X6_addWord σ s2 s1 s0 (0 : Int32)).bind (fun p24 => f_X5_spell_j152 R p24 l0 l1 l2 l3 l4 l5 l6 l7 l8) else none)
set_option maxHeartbeats 4000000 in
set_option maxRecDepth 20000 in
theorem L_X5_spell_j148 {G : xG} {π : Nat → Nat} {d C Z : Nat} {Q : xQ} {R : xM → Nat → Nat → Int32 → Int32 → Option xM} (hrec : ∀ (e C Z : Nat) (Q : xQ) (σ : xM) (l0 : Nat) (l1 : Nat) (l2 : Int32) (l3 : Int32) (x : xM), R σ l0 l1 l2 l3 = some x → (∀ g, x = g → Q (.inl none) (g) π) → xMach G π J_X5_spell ((d + e) + 0) C Z 0 (lv_args 0 [.ref l0, .ref l1, .int l2, .int l3]) [] σ Q) (σ : xM) (l0 : Nat) (l1 : Nat) (l2 : Int32) (l3 : Int32) (l4 : Int32) (l5 : Int32) (l6 : Int32) (l7 : Int32) (l8 : Int32) (s0 : Int32) (s1 : Int32) (s2 : Nat) {x : (xM ⊕ ((Nat × Nat × Int32 × Int32 × Int32 × Int32 × xM) ⊕ (Nat × Nat × Int32 × Int32 × Int32 × Int32 × Int32 × Int32 × Int32 × xM)))} (hf : f_X5_spell_j148 R σ l0 l1 l2 l3 l4 l5 l6 l7 l8 s0 s1 s2 = some x) (hR : ∀ g, x = Sum.inl (g) → Q (.inl none) (g) π) (hE : ∀ e : (Nat × Nat × Int32 × Int32 × Int32 × Int32 × xM), x = Sum.inr (Sum.inl e) → xMach G π J_X5_spell (d + 1) C Z 236 [(0, .ref e.1), (1, .ref e.2.1), (2, .int e.2.2.1), (4, .int e.2.2.2.1), (5, .int e.2.2.2.2.1), (6, .int e.2.2.2.2.2.1)] [] e.2.2.2.2.2.2 Q) (hC : ∀ e : (Nat × Nat × Int32 × Int32 × Int32 × Int32 × Int32 × Int32 × Int32 × xM), x = Sum.inr (Sum.inr e) → xMach G π J_X5_spell (d + 1) C Z 96 [(0, .ref e.1), (1, .ref e.2.1), (2, .int e.2.2.1), (3, .int e.2.2.2.1), (4, .int e.2.2.2.2.1), (5, .int e.2.2.2.2.2.1), (6, .int e.2.2.2.2.2.2.1), (7, .int e.2.2.2.2.2.2.2.1), (8, .int e.2.2.2.2.2.2.2.2.1)] [] e.2.2.2.2.2.2.2.2.2 Q) : xMach G π J_X5_spell (d + 1) C Z 148 [(0, .ref l0), (1, .ref l1), (2, .int l2), (3, .int l3), (4, .int l4), (5, .int l5), (6, .int l6), (7, .int l7), (8, .int l8)] [.int s0, .int s1, .ref s2] σ Q := by
  unfold f_X5_spell_j148 at hf
  refine xm_iconst dX5_spell_148 (v := 0) (by decide) ?_
  refine xb_if hf (fun hb hf => ?_) (fun _ q => nomatch q)
  obtain ⟨p24, ep24, hf⟩ := xbind hf
  refine xb_callV (As := [.int s1, .int s0, .int (0 : Int32)]) (v0 := none) (τ0 := p24) dX5_spell_149 (xc_X6_addWord _ _) xcl6 xw_1289 xw_728 xw_729 hb rfl (Nat.le_of_ble_eq_true rfl) rfl (Nat.le_of_ble_eq_true rfl) (fun Q1 hq => m_X6_addWord (d := d + 0) ep24 (fun g hg => by subst hg; exact hq)) ?_
  exact xm_sub [0, 1, 2, 3, 4, 5, 6, 7, 8] rfl (L_X5_spell_j152 hrec p24 l0 l1 l2 l3 l4 l5 l6 l7 l8 hf hR hE hC)
def f_X5_spell_j136 (R : xM → Nat → Nat → Int32 → Int32 → Option xM) (σ : xM) (l0 : Nat) (l1 : Nat) (l2 : Int32) (l3 : Int32) (l4 : Int32) (l5 : Int32) (l6 : Int32) (l7 : Int32) (l8 : Int32) (s0 : Int32) (s1 : Nat) : Option (xM ⊕ ((Nat × Nat × Int32 × Int32 × Int32 × Int32 × xM) ⊕ (Nat × Nat × Int32 × Int32 × Int32 × Int32 × Int32 × Int32 × Int32 × xM))) :=
  (if l6 = (0 : Int32) then f_X5_spell_j148 R σ l0 l1 l2 l3 l4 l5 l6 l7 l8 l5 s0 s1 else f_X5_spell_j148 R σ l0 l1 l2 l3 l4 l5 l6 l7 l8 (44 : Int32) s0 s1)
set_option maxHeartbeats 4000000 in
set_option maxRecDepth 20000 in
theorem L_X5_spell_j136 {G : xG} {π : Nat → Nat} {d C Z : Nat} {Q : xQ} {R : xM → Nat → Nat → Int32 → Int32 → Option xM} (hrec : ∀ (e C Z : Nat) (Q : xQ) (σ : xM) (l0 : Nat) (l1 : Nat) (l2 : Int32) (l3 : Int32) (x : xM), R σ l0 l1 l2 l3 = some x → (∀ g, x = g → Q (.inl none) (g) π) → xMach G π J_X5_spell ((d + e) + 0) C Z 0 (lv_args 0 [.ref l0, .ref l1, .int l2, .int l3]) [] σ Q) (σ : xM) (l0 : Nat) (l1 : Nat) (l2 : Int32) (l3 : Int32) (l4 : Int32) (l5 : Int32) (l6 : Int32) (l7 : Int32) (l8 : Int32) (s0 : Int32) (s1 : Nat) {x : (xM ⊕ ((Nat × Nat × Int32 × Int32 × Int32 × Int32 × xM) ⊕ (Nat × Nat × Int32 × Int32 × Int32 × Int32 × Int32 × Int32 × Int32 × xM)))} (hf : f_X5_spell_j136 R σ l0 l1 l2 l3 l4 l5 l6 l7 l8 s0 s1 = some x) (hR : ∀ g, x = Sum.inl (g) → Q (.inl none) (g) π) (hE : ∀ e : (Nat × Nat × Int32 × Int32 × Int32 × Int32 × xM), x = Sum.inr (Sum.inl e) → xMach G π J_X5_spell (d + 1) C Z 236 [(0, .ref e.1), (1, .ref e.2.1), (2, .int e.2.2.1), (4, .int e.2.2.2.1), (5, .int e.2.2.2.2.1), (6, .int e.2.2.2.2.2.1)] [] e.2.2.2.2.2.2 Q) (hC : ∀ e : (Nat × Nat × Int32 × Int32 × Int32 × Int32 × Int32 × Int32 × Int32 × xM), x = Sum.inr (Sum.inr e) → xMach G π J_X5_spell (d + 1) C Z 96 [(0, .ref e.1), (1, .ref e.2.1), (2, .int e.2.2.1), (3, .int e.2.2.2.1), (4, .int e.2.2.2.2.1), (5, .int e.2.2.2.2.2.1), (6, .int e.2.2.2.2.2.2.1), (7, .int e.2.2.2.2.2.2.2.1), (8, .int e.2.2.2.2.2.2.2.2.1)] [] e.2.2.2.2.2.2.2.2.2 Q) : xMach G π J_X5_spell (d + 1) C Z 136 [(0, .ref l0), (1, .ref l1), (2, .int l2), (3, .int l3), (4, .int l4), (5, .int l5), (6, .int l6), (7, .int l7), (8, .int l8)] [.int s0, .ref s1] σ Q := by
  unfold f_X5_spell_j136 at hf
  refine xm_iload dX5_spell_136 rfl ?_
  refine xb_if_eq 146 dX5_spell_138 (by decide) hf (fun c hf => ?_) (fun c hf => ?_)
  · refine xm_iload dX5_spell_146 rfl ?_
    exact xm_sub [0, 1, 2, 3, 4, 5, 6, 7, 8] rfl (L_X5_spell_j148 hrec σ l0 l1 l2 l3 l4 l5 l6 l7 l8 l5 s0 s1 hf hR hE hC)
  · refine xm_bipush dX5_spell_141 (v := 44) (by decide) ?_
    refine xm_goto 148 dX5_spell_143 (by decide) ?_
    exact xm_sub [0, 1, 2, 3, 4, 5, 6, 7, 8] rfl (L_X5_spell_j148 hrec σ l0 l1 l2 l3 l4 l5 l6 l7 l8 (44 : Int32) s0 s1 hf hR hE hC)
def f_X5_spell_s96 (R : xM → Nat → Nat → Int32 → Int32 → Option xM) (s : (Nat × Nat × Int32 × Int32 × Int32 × Int32 × Int32 × Int32 × Int32 × xM)) : Option (xM ⊕ ((Nat × Nat × Int32 × Int32 × Int32 × Int32 × xM) ⊕ (Nat × Nat × Int32 × Int32 × Int32 × Int32 × Int32 × Int32 × Int32 × xM))) :=
  xlet s.1 (fun l0 => xlet s.2.1 (fun l1 => xlet s.2.2.1 (fun l2 => xlet s.2.2.2.1 (fun l3 => xlet s.2.2.2.2.1 (fun l4 => xlet s.2.2.2.2.2.1 (fun l5 => xlet s.2.2.2.2.2.2.1 (fun l6 => xlet s.2.2.2.2.2.2.2.1 (fun l7 => xlet s.2.2.2.2.2.2.2.2.1 (fun l8 => xlet s.2.2.2.2.2.2.2.2.2 (fun σ => (gR σ l1 9 3).bind (fun x9 => (aI σ x9 14 l2).bind (fun x10 => (if x10 ≤ l8 then some (Sum.inr (Sum.inl (l0, l1, l2, l4, l5, l6, σ))) else (gI σ l1 9 7).bind (fun x11 => (if x11 ≤ l7 then some (Sum.inr (Sum.inl (l0, l1, l2, l4, l5, l6, σ))) else (if l8 ≤ (0 : Int32) then f_X5_spell_j152 R σ l0 l1 l2 l3 l4 l5 l6 l7 l8 else (gR σ l0 5 0).bind (fun x23 => (if l6 = (0 : Int32) then f_X5_spell_j136 R σ l0 l1 l2 l3 l4 l5 l6 l7 l8 (3 : Int32) x23 else f_X5_spell_j136 R σ l0 l1 l2 l3 l4 l5 l6 l7 l8 (6 : Int32) x23))))))))))))))))))
set_option maxHeartbeats 4000000 in
set_option maxRecDepth 20000 in
theorem L_X5_spell_s96 {G : xG} {π : Nat → Nat} {d C Z : Nat} {Q : xQ} {R : xM → Nat → Nat → Int32 → Int32 → Option xM} (hrec : ∀ (e C Z : Nat) (Q : xQ) (σ : xM) (l0 : Nat) (l1 : Nat) (l2 : Int32) (l3 : Int32) (x : xM), R σ l0 l1 l2 l3 = some x → (∀ g, x = g → Q (.inl none) (g) π) → xMach G π J_X5_spell ((d + e) + 0) C Z 0 (lv_args 0 [.ref l0, .ref l1, .int l2, .int l3]) [] σ Q) (σ : xM) (l0 : Nat) (l1 : Nat) (l2 : Int32) (l3 : Int32) (l4 : Int32) (l5 : Int32) (l6 : Int32) (l7 : Int32) (l8 : Int32) {x : (xM ⊕ ((Nat × Nat × Int32 × Int32 × Int32 × Int32 × xM) ⊕ (Nat × Nat × Int32 × Int32 × Int32 × Int32 × Int32 × Int32 × Int32 × xM)))} (hf : f_X5_spell_s96 R (l0, l1, l2, l3, l4, l5, l6, l7, l8, σ) = some x) (hR : ∀ g, x = Sum.inl (g) → Q (.inl none) (g) π) (hE : ∀ e : (Nat × Nat × Int32 × Int32 × Int32 × Int32 × xM), x = Sum.inr (Sum.inl e) → xMach G π J_X5_spell (d + 1) C Z 236 [(0, .ref e.1), (1, .ref e.2.1), (2, .int e.2.2.1), (4, .int e.2.2.2.1), (5, .int e.2.2.2.2.1), (6, .int e.2.2.2.2.2.1)] [] e.2.2.2.2.2.2 Q) (hC : ∀ e : (Nat × Nat × Int32 × Int32 × Int32 × Int32 × Int32 × Int32 × Int32 × xM), x = Sum.inr (Sum.inr e) → xMach G π J_X5_spell (d + 1) C Z 96 [(0, .ref e.1), (1, .ref e.2.1), (2, .int e.2.2.1), (3, .int e.2.2.2.1), (4, .int e.2.2.2.2.1), (5, .int e.2.2.2.2.2.1), (6, .int e.2.2.2.2.2.2.1), (7, .int e.2.2.2.2.2.2.2.1), (8, .int e.2.2.2.2.2.2.2.2.1)] [] e.2.2.2.2.2.2.2.2.2 Q) : xMach G π J_X5_spell (d + 1) C Z 96 [(0, .ref l0), (1, .ref l1), (2, .int l2), (3, .int l3), (4, .int l4), (5, .int l5), (6, .int l6), (7, .int l7), (8, .int l8)] [] σ Q := by
  have hf : (gR σ l1 9 3).bind (fun x9 => (aI σ x9 14 l2).bind (fun x10 => (if x10 ≤ l8 then some (Sum.inr (Sum.inl (l0, l1, l2, l4, l5, l6, σ))) else (gI σ l1 9 7).bind (fun x11 => (if x11 ≤ l7 then some (Sum.inr (Sum.inl (l0, l1, l2, l4, l5, l6, σ))) else (if l8 ≤ (0 : Int32) then f_X5_spell_j152 R σ l0 l1 l2 l3 l4 l5 l6 l7 l8 else (gR σ l0 5 0).bind (fun x23 => (if l6 = (0 : Int32) then f_X5_spell_j136 R σ l0 l1 l2 l3 l4 l5 l6 l7 l8 (3 : Int32) x23 else f_X5_spell_j136 R σ l0 l1 l2 l3 l4 l5 l6 l7 l8 (6 : Int32) x23)))))))) = some x := hf
  refine xm_iload dX5_spell_96 rfl ?_
  refine xm_aload_n dX5_spell_98 rfl ?_
  refine xb_getR (a := l1) (c := 9) (k := 3) dX5_spell_99 xcl9 (by decide) xw_210 rfl hf (fun x9 ex9 hf => ?_)
  refine xm_iload_n dX5_spell_102 rfl ?_
  refine xb_iald dX5_spell_103 hf (fun x10 ex10 hf => ?_)
  refine xb_icmp_ge 236 dX5_spell_104 (by decide) hf (fun c hf => ?_) (fun c hf => ?_)
  · cases hf
    exact xm_sub [0, 1, 2, 4, 5, 6] rfl (hE _ rfl)
  · refine xm_iload dX5_spell_107 rfl ?_
    refine xm_aload_n dX5_spell_109 rfl ?_
    refine xb_getI (a := l1) (c := 9) (k := 7) dX5_spell_110 xcl9 (by decide) xw_221 rfl hf (fun x11 ex11 hf => ?_)
    refine xb_icmp_ge 236 dX5_spell_113 (by decide) hf (fun c hf => ?_) (fun c hf => ?_)
    · cases hf
      exact xm_sub [0, 1, 2, 4, 5, 6] rfl (hE _ rfl)
    · refine xm_iload dX5_spell_116 rfl ?_
      refine xb_if_le 152 dX5_spell_118 (by decide) hf (fun c hf => ?_) (fun c hf => ?_)
      · exact xm_sub [0, 1, 2, 3, 4, 5, 6, 7, 8] rfl (L_X5_spell_j152 hrec σ l0 l1 l2 l3 l4 l5 l6 l7 l8 hf hR hE hC)
      · refine xm_aload_n dX5_spell_121 rfl ?_
        refine xb_getR (a := l0) (c := 5) (k := 0) dX5_spell_122 xcl5 (by decide) xw_397 rfl hf (fun x23 ex23 hf => ?_)
        refine xm_iload dX5_spell_125 rfl ?_
        refine xb_if_eq 135 dX5_spell_127 (by decide) hf (fun c hf => ?_) (fun c hf => ?_)
        · refine xm_iconst dX5_spell_135 (v := 3) (by decide) ?_
          exact xm_sub [0, 1, 2, 3, 4, 5, 6, 7, 8] rfl (L_X5_spell_j136 hrec σ l0 l1 l2 l3 l4 l5 l6 l7 l8 (3 : Int32) x23 hf hR hE hC)
        · refine xm_bipush dX5_spell_130 (v := 6) (by decide) ?_
          refine xm_goto 136 dX5_spell_132 (by decide) ?_
          exact xm_sub [0, 1, 2, 3, 4, 5, 6, 7, 8] rfl (L_X5_spell_j136 hrec σ l0 l1 l2 l3 l4 l5 l6 l7 l8 (6 : Int32) x23 hf hR hE hC)
theorem L_X5_spell_l96 {G : xG} {π : Nat → Nat} {d C Z : Nat} {Q : xQ} {R : xM → Nat → Nat → Int32 → Int32 → Option xM} (hrec : ∀ (e C Z : Nat) (Q : xQ) (σ : xM) (l0 : Nat) (l1 : Nat) (l2 : Int32) (l3 : Int32) (x : xM), R σ l0 l1 l2 l3 = some x → (∀ g, x = g → Q (.inl none) (g) π) → xMach G π J_X5_spell ((d + e) + 0) C Z 0 (lv_args 0 [.ref l0, .ref l1, .int l2, .int l3]) [] σ Q) {s0 : (Nat × Nat × Int32 × Int32 × Int32 × Int32 × Int32 × Int32 × Int32 × xM)} {x : (xM ⊕ (Nat × Nat × Int32 × Int32 × Int32 × Int32 × xM))} (h1 : xloop (f_X5_spell_s96 R) xF s0 = some x) (hR : ∀ g, x = Sum.inl g → Q (.inl none) (g) π) (hE : ∀ e : (Nat × Nat × Int32 × Int32 × Int32 × Int32 × xM), x = Sum.inr e → xMach G π J_X5_spell (d + 1) C Z 236 [(0, .ref e.1), (1, .ref e.2.1), (2, .int e.2.2.1), (4, .int e.2.2.2.1), (5, .int e.2.2.2.2.1), (6, .int e.2.2.2.2.2.1)] [] e.2.2.2.2.2.2 Q) : xMach G π J_X5_spell (d + 1) C Z 96 [(0, .ref s0.1), (1, .ref s0.2.1), (2, .int s0.2.2.1), (3, .int s0.2.2.2.1), (4, .int s0.2.2.2.2.1), (5, .int s0.2.2.2.2.2.1), (6, .int s0.2.2.2.2.2.2.1), (7, .int s0.2.2.2.2.2.2.2.1), (8, .int s0.2.2.2.2.2.2.2.2.1)] [] s0.2.2.2.2.2.2.2.2.2 Q := by
  refine xloop_run (M := (fun s : (Nat × Nat × Int32 × Int32 × Int32 × Int32 × Int32 × Int32 × Int32 × xM) => xMach G π J_X5_spell (d + 1) C Z 96 [(0, .ref s.1), (1, .ref s.2.1), (2, .int s.2.2.1), (3, .int s.2.2.2.1), (4, .int s.2.2.2.2.1), (5, .int s.2.2.2.2.2.1), (6, .int s.2.2.2.2.2.2.1), (7, .int s.2.2.2.2.2.2.2.1), (8, .int s.2.2.2.2.2.2.2.2.1)] [] s.2.2.2.2.2.2.2.2.2 Q)) (r := x) ?_ xF _ h1
  intro s y hs hx
  exact L_X5_spell_s96 hrec s.2.2.2.2.2.2.2.2.2 s.1 s.2.1 s.2.2.1 s.2.2.2.1 s.2.2.2.2.1 s.2.2.2.2.2.1 s.2.2.2.2.2.2.1 s.2.2.2.2.2.2.2.1 s.2.2.2.2.2.2.2.2.1 (x := y) hs (fun g hg => by subst hg; exact hR g hx) (fun e he => by subst he; exact hE e hx) (fun e he => by subst he; exact hx)
def f_X5_spell_j279 (R : xM → Nat → Nat → Int32 → Int32 → Option xM) (σ : xM)  : Option xM :=
  some σ
set_option maxHeartbeats 4000000 in
set_option maxRecDepth 20000 in
theorem L_X5_spell_j279 {G : xG} {π : Nat → Nat} {d C Z : Nat} {Q : xQ} {R : xM → Nat → Nat → Int32 → Int32 → Option xM} (hrec : ∀ (e C Z : Nat) (Q : xQ) (σ : xM) (l0 : Nat) (l1 : Nat) (l2 : Int32) (l3 : Int32) (x : xM), R σ l0 l1 l2 l3 = some x → (∀ g, x = g → Q (.inl none) (g) π) → xMach G π J_X5_spell ((d + e) + 0) C Z 0 (lv_args 0 [.ref l0, .ref l1, .int l2, .int l3]) [] σ Q) (σ : xM)  {x : xM} (hf : f_X5_spell_j279 R σ = some x) (hR : ∀ g, x = g → Q (.inl none) (g) π) : xMach G π J_X5_spell (d + 1) C Z 279 [] [] σ Q := by
  unfold f_X5_spell_j279 at hf
  cases hf
  exact xm_vret dX5_spell_279 rfl (hR _ rfl)
def f_X5_spell_j252 (R : xM → Nat → Nat → Int32 → Int32 → Option xM) (σ : xM) (l0 : Nat) (l1 : Nat) (l2 : Int32) (l4 : Int32) (l5 : Int32) : Option xM :=
  (if l4 = (3 : Int32) then (gR σ l1 9 2).bind (fun x25 => (aI σ x25 14 l2).bind (fun x26 => (if x26 = (1 : Int32) then (gR σ l0 5 0).bind (fun x27 => (if xk σ x27 6 = true then (f_X6_addWord σ x27 (3 : Int32) l5 (0 : Int32)).bind (fun p28 => f_X5_spell_j279 R p28) else none)) else f_X5_spell_j279 R σ))) else f_X5_spell_j279 R σ)
set_option maxHeartbeats 4000000 in
set_option maxRecDepth 20000 in
theorem L_X5_spell_j252 {G : xG} {π : Nat → Nat} {d C Z : Nat} {Q : xQ} {R : xM → Nat → Nat → Int32 → Int32 → Option xM} (hrec : ∀ (e C Z : Nat) (Q : xQ) (σ : xM) (l0 : Nat) (l1 : Nat) (l2 : Int32) (l3 : Int32) (x : xM), R σ l0 l1 l2 l3 = some x → (∀ g, x = g → Q (.inl none) (g) π) → xMach G π J_X5_spell ((d + e) + 0) C Z 0 (lv_args 0 [.ref l0, .ref l1, .int l2, .int l3]) [] σ Q) (σ : xM) (l0 : Nat) (l1 : Nat) (l2 : Int32) (l4 : Int32) (l5 : Int32) {x : xM} (hf : f_X5_spell_j252 R σ l0 l1 l2 l4 l5 = some x) (hR : ∀ g, x = g → Q (.inl none) (g) π) : xMach G π J_X5_spell (d + 1) C Z 252 [(0, .ref l0), (1, .ref l1), (2, .int l2), (4, .int l4), (5, .int l5)] [] σ Q := by
  unfold f_X5_spell_j252 at hf
  refine xm_iload dX5_spell_252 rfl ?_
  refine xm_iconst dX5_spell_254 (v := 3) (by decide) ?_
  refine xb_icmp_ne 279 dX5_spell_255 (by decide) hf (fun c hf => ?_) (fun c hf => ?_)
  · exact xm_sub [] rfl (L_X5_spell_j279 hrec σ hf hR)
  · refine xm_aload_n dX5_spell_258 rfl ?_
    refine xb_getR (a := l1) (c := 9) (k := 2) dX5_spell_259 xcl9 (by decide) xw_205 rfl hf (fun x25 ex25 hf => ?_)
    refine xm_iload_n dX5_spell_262 rfl ?_
    refine xb_iald dX5_spell_263 hf (fun x26 ex26 hf => ?_)
    refine xm_iconst dX5_spell_264 (v := 1) (by decide) ?_
    refine xb_icmp_ne 279 dX5_spell_265 (by decide) hf (fun c hf => ?_) (fun c hf => ?_)
    · exact xm_sub [] rfl (L_X5_spell_j279 hrec σ hf hR)
    · refine xm_aload_n dX5_spell_268 rfl ?_
      refine xb_getR (a := l0) (c := 5) (k := 0) dX5_spell_269 xcl5 (by decide) xw_397 rfl hf (fun x27 ex27 hf => ?_)
      refine xm_iconst dX5_spell_272 (v := 3) (by decide) ?_
      refine xm_iload dX5_spell_273 rfl ?_
      refine xm_iconst dX5_spell_275 (v := 0) (by decide) ?_
      refine xb_if hf (fun hb hf => ?_) (fun _ q => nomatch q)
      obtain ⟨p28, ep28, hf⟩ := xbind hf
      refine xb_callV (As := [.int (3 : Int32), .int l5, .int (0 : Int32)]) (v0 := none) (τ0 := p28) dX5_spell_276 (xc_X6_addWord _ _) xcl6 xw_1289 xw_728 xw_729 hb rfl (Nat.le_of_ble_eq_true rfl) rfl (Nat.le_of_ble_eq_true rfl) (fun Q1 hq => m_X6_addWord (d := d + 0) ep28 (fun g hg => by subst hg; exact hq)) ?_
      exact xm_sub [] rfl (L_X5_spell_j279 hrec p28 hf hR)
def f_X5_spell_j236 (R : xM → Nat → Nat → Int32 → Int32 → Option xM) (σ : xM) (l0 : Nat) (l1 : Nat) (l2 : Int32) (l4 : Int32) (l5 : Int32) (l6 : Int32) : Option xM :=
  (if l6 = (0 : Int32) then f_X5_spell_j252 R σ l0 l1 l2 l4 l5 else (gR σ l0 5 0).bind (fun x29 => (if xk σ x29 6 = true then (f_X6_addWord σ x29 (5 : Int32) (41 : Int32) (0 : Int32)).bind (fun p30 => f_X5_spell_j252 R p30 l0 l1 l2 l4 l5) else none)))
set_option maxHeartbeats 4000000 in
set_option maxRecDepth 20000 in
theorem L_X5_spell_j236 {G : xG} {π : Nat → Nat} {d C Z : Nat} {Q : xQ} {R : xM → Nat → Nat → Int32 → Int32 → Option xM} (hrec : ∀ (e C Z : Nat) (Q : xQ) (σ : xM) (l0 : Nat) (l1 : Nat) (l2 : Int32) (l3 : Int32) (x : xM), R σ l0 l1 l2 l3 = some x → (∀ g, x = g → Q (.inl none) (g) π) → xMach G π J_X5_spell ((d + e) + 0) C Z 0 (lv_args 0 [.ref l0, .ref l1, .int l2, .int l3]) [] σ Q) (σ : xM) (l0 : Nat) (l1 : Nat) (l2 : Int32) (l4 : Int32) (l5 : Int32) (l6 : Int32) {x : xM} (hf : f_X5_spell_j236 R σ l0 l1 l2 l4 l5 l6 = some x) (hR : ∀ g, x = g → Q (.inl none) (g) π) : xMach G π J_X5_spell (d + 1) C Z 236 [(0, .ref l0), (1, .ref l1), (2, .int l2), (4, .int l4), (5, .int l5), (6, .int l6)] [] σ Q := by
  unfold f_X5_spell_j236 at hf
  refine xm_iload dX5_spell_236 rfl ?_
  refine xb_if_eq 252 dX5_spell_238 (by decide) hf (fun c hf => ?_) (fun c hf => ?_)
  · exact xm_sub [0, 1, 2, 3, 4] rfl (L_X5_spell_j252 hrec σ l0 l1 l2 l4 l5 hf hR)
  · refine xm_aload_n dX5_spell_241 rfl ?_
    refine xb_getR (a := l0) (c := 5) (k := 0) dX5_spell_242 xcl5 (by decide) xw_397 rfl hf (fun x29 ex29 hf => ?_)
    refine xm_iconst dX5_spell_245 (v := 5) (by decide) ?_
    refine xm_bipush dX5_spell_246 (v := 41) (by decide) ?_
    refine xm_iconst dX5_spell_248 (v := 0) (by decide) ?_
    refine xb_if hf (fun hb hf => ?_) (fun _ q => nomatch q)
    obtain ⟨p30, ep30, hf⟩ := xbind hf
    refine xb_callV (As := [.int (5 : Int32), .int (41 : Int32), .int (0 : Int32)]) (v0 := none) (τ0 := p30) dX5_spell_249 (xc_X6_addWord _ _) xcl6 xw_1289 xw_728 xw_729 hb rfl (Nat.le_of_ble_eq_true rfl) rfl (Nat.le_of_ble_eq_true rfl) (fun Q1 hq => m_X6_addWord (d := d + 0) ep30 (fun g hg => by subst hg; exact hq)) ?_
    exact xm_sub [0, 1, 2, 3, 4] rfl (L_X5_spell_j252 hrec p30 l0 l1 l2 l4 l5 hf hR)
def f_X5_spell_j88 (R : xM → Nat → Nat → Int32 → Int32 → Option xM) (σ : xM) (l0 : Nat) (l1 : Nat) (l2 : Int32) (l3 : Int32) (l4 : Int32) (l5 : Int32) (l6 : Int32) : Option xM :=
  xlet (l2 + (1 : Int32)) (fun v7 => xlet (0 : Int32) (fun v8 => (xloop (f_X5_spell_s96 R ) xF (l0, l1, l2, l3, l4, l5, l6, v7, v8, σ)).bind (Sum.elim (fun g => some g) (fun e => f_X5_spell_j236 R e.2.2.2.2.2.2 e.1 e.2.1 e.2.2.1 e.2.2.2.1 e.2.2.2.2.1 e.2.2.2.2.2.1))))
set_option maxHeartbeats 4000000 in
set_option maxRecDepth 20000 in
theorem L_X5_spell_j88 {G : xG} {π : Nat → Nat} {d C Z : Nat} {Q : xQ} {R : xM → Nat → Nat → Int32 → Int32 → Option xM} (hrec : ∀ (e C Z : Nat) (Q : xQ) (σ : xM) (l0 : Nat) (l1 : Nat) (l2 : Int32) (l3 : Int32) (x : xM), R σ l0 l1 l2 l3 = some x → (∀ g, x = g → Q (.inl none) (g) π) → xMach G π J_X5_spell ((d + e) + 0) C Z 0 (lv_args 0 [.ref l0, .ref l1, .int l2, .int l3]) [] σ Q) (σ : xM) (l0 : Nat) (l1 : Nat) (l2 : Int32) (l3 : Int32) (l4 : Int32) (l5 : Int32) (l6 : Int32) {x : xM} (hf : f_X5_spell_j88 R σ l0 l1 l2 l3 l4 l5 l6 = some x) (hR : ∀ g, x = g → Q (.inl none) (g) π) : xMach G π J_X5_spell (d + 1) C Z 88 [(0, .ref l0), (1, .ref l1), (2, .int l2), (3, .int l3), (4, .int l4), (5, .int l5), (6, .int l6)] [] σ Q := by
  unfold f_X5_spell_j88 at hf
  refine xm_iload_n dX5_spell_88 rfl ?_
  refine xm_iconst dX5_spell_89 (v := 1) (by decide) ?_
  refine xm_iadd dX5_spell_90 ?_
  refine xb_topi hf (fun v7 ev7 hf => ?_)
  refine xm_istore dX5_spell_91 (by decide) (xm_stL (L' := [(7, .int v7), (0, .ref l0), (1, .ref l1), (2, .int l2), (3, .int l3), (4, .int l4), (5, .int l5), (6, .int l6)]) rfl ?_)
  refine xm_iconst dX5_spell_93 (v := 0) (by decide) ?_
  refine xb_topi hf (fun v8 ev8 hf => ?_)
  refine xm_istore dX5_spell_94 (by decide) (xm_stL (L' := [(8, .int v8), (7, .int v7), (0, .ref l0), (1, .ref l1), (2, .int l2), (3, .int l3), (4, .int l4), (5, .int l5), (6, .int l6)]) rfl ?_)
  obtain ⟨o, h1, hf⟩ := xbind hf
  refine xm_sub [2, 3, 4, 5, 6, 7, 8, 1, 0] rfl (L_X5_spell_l96 hrec  h1 (fun g hg => ?_) (fun e he => ?_))
  · subst hg
    cases hf
    exact hR _ rfl
  · subst he
    rw [Sum.elim_inr] at hf
    have hf : f_X5_spell_j236 R e.2.2.2.2.2.2 e.1 e.2.1 e.2.2.1 e.2.2.2.1 e.2.2.2.2.1 e.2.2.2.2.2.1 = some _ := hf
    exact xm_sub [0, 1, 2, 3, 4, 5] rfl (L_X5_spell_j236 hrec e.2.2.2.2.2.2 e.1 e.2.1 e.2.2.1 e.2.2.2.1 e.2.2.2.2.1 e.2.2.2.2.2.1 hf hR)
def f_X5_spell_j72 (R : xM → Nat → Nat → Int32 → Int32 → Option xM) (σ : xM) (l0 : Nat) (l1 : Nat) (l2 : Int32) (l3 : Int32) (l4 : Int32) (l5 : Int32) (l6 : Int32) : Option xM :=
  (if l6 = (0 : Int32) then f_X5_spell_j88 R σ l0 l1 l2 l3 l4 l5 l6 else (gR σ l0 5 0).bind (fun x31 => (if xk σ x31 6 = true then (f_X6_addWord σ x31 (4 : Int32) (40 : Int32) (0 : Int32)).bind (fun p32 => f_X5_spell_j88 R p32 l0 l1 l2 l3 l4 l5 l6) else none)))
set_option maxHeartbeats 4000000 in
set_option maxRecDepth 20000 in
theorem L_X5_spell_j72 {G : xG} {π : Nat → Nat} {d C Z : Nat} {Q : xQ} {R : xM → Nat → Nat → Int32 → Int32 → Option xM} (hrec : ∀ (e C Z : Nat) (Q : xQ) (σ : xM) (l0 : Nat) (l1 : Nat) (l2 : Int32) (l3 : Int32) (x : xM), R σ l0 l1 l2 l3 = some x → (∀ g, x = g → Q (.inl none) (g) π) → xMach G π J_X5_spell ((d + e) + 0) C Z 0 (lv_args 0 [.ref l0, .ref l1, .int l2, .int l3]) [] σ Q) (σ : xM) (l0 : Nat) (l1 : Nat) (l2 : Int32) (l3 : Int32) (l4 : Int32) (l5 : Int32) (l6 : Int32) {x : xM} (hf : f_X5_spell_j72 R σ l0 l1 l2 l3 l4 l5 l6 = some x) (hR : ∀ g, x = g → Q (.inl none) (g) π) : xMach G π J_X5_spell (d + 1) C Z 72 [(0, .ref l0), (1, .ref l1), (2, .int l2), (3, .int l3), (4, .int l4), (5, .int l5), (6, .int l6)] [] σ Q := by
  unfold f_X5_spell_j72 at hf
  refine xm_iload dX5_spell_72 rfl ?_
  refine xb_if_eq 88 dX5_spell_74 (by decide) hf (fun c hf => ?_) (fun c hf => ?_)
  · exact xm_sub [0, 1, 2, 3, 4, 5, 6] rfl (L_X5_spell_j88 hrec σ l0 l1 l2 l3 l4 l5 l6 hf hR)
  · refine xm_aload_n dX5_spell_77 rfl ?_
    refine xb_getR (a := l0) (c := 5) (k := 0) dX5_spell_78 xcl5 (by decide) xw_397 rfl hf (fun x31 ex31 hf => ?_)
    refine xm_iconst dX5_spell_81 (v := 4) (by decide) ?_
    refine xm_bipush dX5_spell_82 (v := 40) (by decide) ?_
    refine xm_iconst dX5_spell_84 (v := 0) (by decide) ?_
    refine xb_if hf (fun hb hf => ?_) (fun _ q => nomatch q)
    obtain ⟨p32, ep32, hf⟩ := xbind hf
    refine xb_callV (As := [.int (4 : Int32), .int (40 : Int32), .int (0 : Int32)]) (v0 := none) (τ0 := p32) dX5_spell_85 (xc_X6_addWord _ _) xcl6 xw_1289 xw_728 xw_729 hb rfl (Nat.le_of_ble_eq_true rfl) rfl (Nat.le_of_ble_eq_true rfl) (fun Q1 hq => m_X6_addWord (d := d + 0) ep32 (fun g hg => by subst hg; exact hq)) ?_
    exact xm_sub [0, 1, 2, 3, 4, 5, 6] rfl (L_X5_spell_j88 hrec p32 l0 l1 l2 l3 l4 l5 l6 hf hR)
def f_X5_spell_j66 (R : xM → Nat → Nat → Int32 → Int32 → Option xM) (σ : xM) (l0 : Nat) (l1 : Nat) (l2 : Int32) (l3 : Int32) (l4 : Int32) (l5 : Int32) (l6 : Int32) (s0 : Int32) (s1 : Nat) : Option xM :=
  (if xk σ s1 6 = true then (f_X6_addWord σ s1 s0 l5 (0 : Int32)).bind (fun p6 => f_X5_spell_j72 R p6 l0 l1 l2 l3 l4 l5 l6) else none)
set_option maxHeartbeats 4000000 in
set_option maxRecDepth 20000 in
theorem L_X5_spell_j66 {G : xG} {π : Nat → Nat} {d C Z : Nat} {Q : xQ} {R : xM → Nat → Nat → Int32 → Int32 → Option xM} (hrec : ∀ (e C Z : Nat) (Q : xQ) (σ : xM) (l0 : Nat) (l1 : Nat) (l2 : Int32) (l3 : Int32) (x : xM), R σ l0 l1 l2 l3 = some x → (∀ g, x = g → Q (.inl none) (g) π) → xMach G π J_X5_spell ((d + e) + 0) C Z 0 (lv_args 0 [.ref l0, .ref l1, .int l2, .int l3]) [] σ Q) (σ : xM) (l0 : Nat) (l1 : Nat) (l2 : Int32) (l3 : Int32) (l4 : Int32) (l5 : Int32) (l6 : Int32) (s0 : Int32) (s1 : Nat) {x : xM} (hf : f_X5_spell_j66 R σ l0 l1 l2 l3 l4 l5 l6 s0 s1 = some x) (hR : ∀ g, x = g → Q (.inl none) (g) π) : xMach G π J_X5_spell (d + 1) C Z 66 [(0, .ref l0), (1, .ref l1), (2, .int l2), (3, .int l3), (4, .int l4), (5, .int l5), (6, .int l6)] [.int s0, .ref s1] σ Q := by
  unfold f_X5_spell_j66 at hf
  refine xm_iload dX5_spell_66 rfl ?_
  refine xm_iconst dX5_spell_68 (v := 0) (by decide) ?_
  refine xb_if hf (fun hb hf => ?_) (fun _ q => nomatch q)
  obtain ⟨p6, ep6, hf⟩ := xbind hf
  refine xb_callV (As := [.int s0, .int l5, .int (0 : Int32)]) (v0 := none) (τ0 := p6) dX5_spell_69 (xc_X6_addWord _ _) xcl6 xw_1289 xw_728 xw_729 hb rfl (Nat.le_of_ble_eq_true rfl) rfl (Nat.le_of_ble_eq_true rfl) (fun Q1 hq => m_X6_addWord (d := d + 0) ep6 (fun g hg => by subst hg; exact hq)) ?_
  exact xm_sub [0, 1, 2, 3, 4, 5, 6] rfl (L_X5_spell_j72 hrec p6 l0 l1 l2 l3 l4 l5 l6 hf hR)
def f_X5_spell_j51 (R : xM → Nat → Nat → Int32 → Int32 → Option xM) (σ : xM) (l0 : Nat) (l1 : Nat) (l2 : Int32) (l3 : Int32) (l4 : Int32) (l5 : Int32) (l6 : Int32) : Option xM :=
  (gR σ l0 5 0).bind (fun x5 => (if l6 = (0 : Int32) then f_X5_spell_j66 R σ l0 l1 l2 l3 l4 l5 l6 l4 x5 else f_X5_spell_j66 R σ l0 l1 l2 l3 l4 l5 l6 (1 : Int32) x5))
set_option maxHeartbeats 4000000 in
set_option maxRecDepth 20000 in
theorem L_X5_spell_j51 {G : xG} {π : Nat → Nat} {d C Z : Nat} {Q : xQ} {R : xM → Nat → Nat → Int32 → Int32 → Option xM} (hrec : ∀ (e C Z : Nat) (Q : xQ) (σ : xM) (l0 : Nat) (l1 : Nat) (l2 : Int32) (l3 : Int32) (x : xM), R σ l0 l1 l2 l3 = some x → (∀ g, x = g → Q (.inl none) (g) π) → xMach G π J_X5_spell ((d + e) + 0) C Z 0 (lv_args 0 [.ref l0, .ref l1, .int l2, .int l3]) [] σ Q) (σ : xM) (l0 : Nat) (l1 : Nat) (l2 : Int32) (l3 : Int32) (l4 : Int32) (l5 : Int32) (l6 : Int32) {x : xM} (hf : f_X5_spell_j51 R σ l0 l1 l2 l3 l4 l5 l6 = some x) (hR : ∀ g, x = g → Q (.inl none) (g) π) : xMach G π J_X5_spell (d + 1) C Z 51 [(0, .ref l0), (1, .ref l1), (2, .int l2), (3, .int l3), (4, .int l4), (5, .int l5), (6, .int l6)] [] σ Q := by
  unfold f_X5_spell_j51 at hf
  refine xm_aload_n dX5_spell_51 rfl ?_
  refine xb_getR (a := l0) (c := 5) (k := 0) dX5_spell_52 xcl5 (by decide) xw_397 rfl hf (fun x5 ex5 hf => ?_)
  refine xm_iload dX5_spell_55 rfl ?_
  refine xb_if_eq 64 dX5_spell_57 (by decide) hf (fun c hf => ?_) (fun c hf => ?_)
  · refine xm_iload dX5_spell_64 rfl ?_
    exact xm_sub [0, 1, 2, 3, 4, 5, 6] rfl (L_X5_spell_j66 hrec σ l0 l1 l2 l3 l4 l5 l6 l4 x5 hf hR)
  · refine xm_iconst dX5_spell_60 (v := 1) (by decide) ?_
    refine xm_goto 66 dX5_spell_61 (by decide) ?_
    exact xm_sub [0, 1, 2, 3, 4, 5, 6] rfl (L_X5_spell_j66 hrec σ l0 l1 l2 l3 l4 l5 l6 (1 : Int32) x5 hf hR)
def f_X5_spell_j34 (R : xM → Nat → Nat → Int32 → Int32 → Option xM) (σ : xM) (l0 : Nat) (l1 : Nat) (l2 : Int32) (l3 : Int32) (l4 : Int32) (l5 : Int32) (s0 : Int32) : Option xM :=
  (if l4 = (3 : Int32) then (gR σ l1 9 2).bind (fun x33 => (aI σ x33 14 l2).bind (fun x34 => (if x34 = (0 : Int32) then f_X5_spell_j51 R σ l0 l1 l2 l3 l4 l5 s0 else f_X5_spell_j72 R σ l0 l1 l2 l3 l4 l5 s0))) else f_X5_spell_j51 R σ l0 l1 l2 l3 l4 l5 s0)
set_option maxHeartbeats 4000000 in
set_option maxRecDepth 20000 in
theorem L_X5_spell_j34 {G : xG} {π : Nat → Nat} {d C Z : Nat} {Q : xQ} {R : xM → Nat → Nat → Int32 → Int32 → Option xM} (hrec : ∀ (e C Z : Nat) (Q : xQ) (σ : xM) (l0 : Nat) (l1 : Nat) (l2 : Int32) (l3 : Int32) (x : xM), R σ l0 l1 l2 l3 = some x → (∀ g, x = g → Q (.inl none) (g) π) → xMach G π J_X5_spell ((d + e) + 0) C Z 0 (lv_args 0 [.ref l0, .ref l1, .int l2, .int l3]) [] σ Q) (σ : xM) (l0 : Nat) (l1 : Nat) (l2 : Int32) (l3 : Int32) (l4 : Int32) (l5 : Int32) (s0 : Int32) {x : xM} (hf : f_X5_spell_j34 R σ l0 l1 l2 l3 l4 l5 s0 = some x) (hR : ∀ g, x = g → Q (.inl none) (g) π) : xMach G π J_X5_spell (d + 1) C Z 34 [(0, .ref l0), (1, .ref l1), (2, .int l2), (3, .int l3), (4, .int l4), (5, .int l5)] [.int s0] σ Q := by
  unfold f_X5_spell_j34 at hf
  refine xm_istore dX5_spell_34 (by decide) (xm_stL (L' := [(6, .int s0), (0, .ref l0), (1, .ref l1), (2, .int l2), (3, .int l3), (4, .int l4), (5, .int l5)]) rfl ?_)
  refine xm_iload dX5_spell_36 rfl ?_
  refine xm_iconst dX5_spell_38 (v := 3) (by decide) ?_
  refine xb_icmp_ne 51 dX5_spell_39 (by decide) hf (fun c hf => ?_) (fun c hf => ?_)
  · exact xm_sub [1, 2, 3, 4, 5, 6, 0] rfl (L_X5_spell_j51 hrec σ l0 l1 l2 l3 l4 l5 s0 hf hR)
  · refine xm_aload_n dX5_spell_42 rfl ?_
    refine xb_getR (a := l1) (c := 9) (k := 2) dX5_spell_43 xcl9 (by decide) xw_205 rfl hf (fun x33 ex33 hf => ?_)
    refine xm_iload_n dX5_spell_46 rfl ?_
    refine xb_iald dX5_spell_47 hf (fun x34 ex34 hf => ?_)
    refine xb_if_ne 72 dX5_spell_48 (by decide) hf (fun c hf => ?_) (fun c hf => ?_)
    · exact xm_sub [1, 2, 3, 4, 5, 6, 0] rfl (L_X5_spell_j72 hrec σ l0 l1 l2 l3 l4 l5 s0 hf hR)
    · exact xm_sub [1, 2, 3, 4, 5, 6, 0] rfl (L_X5_spell_j51 hrec σ l0 l1 l2 l3 l4 l5 s0 hf hR)
def f_X5_spell_b (R : xM → Nat → Nat → Int32 → Int32 → Option xM) (σ : xM) (l0 : Nat) (l1 : Nat) (l2 : Int32) (l3 : Int32) : Option xM :=
  (if l3 ≤ (80 : Int32) then (gR σ l1 9 0).bind (fun x1 => (aI σ x1 14 l2).bind (fun x2 => (gR σ l1 9 1).bind (fun x3 => (aI σ x3 14 l2).bind (fun x4 => (if x2 = (2 : Int32) then f_X5_spell_j34 R σ l0 l1 l2 l3 x2 x4 (1 : Int32) else f_X5_spell_j34 R σ l0 l1 l2 l3 x2 x4 (0 : Int32)))))) else some σ)
set_option maxHeartbeats 4000000 in
set_option maxRecDepth 20000 in
theorem m_X5_spell_b {G : xG} {π : Nat → Nat} {d C Z : Nat} {Q : xQ} {R : xM → Nat → Nat → Int32 → Int32 → Option xM} (hrec : ∀ (e C Z : Nat) (Q : xQ) (σ : xM) (l0 : Nat) (l1 : Nat) (l2 : Int32) (l3 : Int32) (x : xM), R σ l0 l1 l2 l3 = some x → (∀ g, x = g → Q (.inl none) (g) π) → xMach G π J_X5_spell ((d + e) + 0) C Z 0 (lv_args 0 [.ref l0, .ref l1, .int l2, .int l3]) [] σ Q) {σ : xM} {l0 : Nat} {l1 : Nat} {l2 : Int32} {l3 : Int32} {x : xM} (hf : f_X5_spell_b R σ l0 l1 l2 l3 = some x) (hR : ∀ g, x = g → Q (.inl none) (g) π) : xMach G π J_X5_spell (d + 1) C Z 0 (lv_args 0 [.ref l0, .ref l1, .int l2, .int l3]) [] σ Q := by
  unfold f_X5_spell_b at hf
  refine xm_stL (L' := [(0, .ref l0), (1, .ref l1), (2, .int l2), (3, .int l3)]) rfl ?_
  refine xm_iload_n dX5_spell_0 rfl ?_
  refine xm_bipush dX5_spell_1 (v := 80) (by decide) ?_
  refine xb_icmp_le 7 dX5_spell_3 (by decide) hf (fun c hf => ?_) (fun c hf => ?_)
  · refine xm_aload_n dX5_spell_7 rfl ?_
    refine xb_getR (a := l1) (c := 9) (k := 0) dX5_spell_8 xcl9 (by decide) xw_194 rfl hf (fun x1 ex1 hf => ?_)
    refine xm_iload_n dX5_spell_11 rfl ?_
    refine xb_iald dX5_spell_12 hf (fun x2 ex2 hf => ?_)
    refine xm_istore dX5_spell_13 (by decide) (xm_stL (L' := [(4, .int x2), (0, .ref l0), (1, .ref l1), (2, .int l2), (3, .int l3)]) rfl ?_)
    refine xm_aload_n dX5_spell_15 rfl ?_
    refine xb_getR (a := l1) (c := 9) (k := 1) dX5_spell_16 xcl9 (by decide) xw_200 rfl hf (fun x3 ex3 hf => ?_)
    refine xm_iload_n dX5_spell_19 rfl ?_
    refine xb_iald dX5_spell_20 hf (fun x4 ex4 hf => ?_)
    refine xm_istore dX5_spell_21 (by decide) (xm_stL (L' := [(5, .int x4), (4, .int x2), (0, .ref l0), (1, .ref l1), (2, .int l2), (3, .int l3)]) rfl ?_)
    refine xm_iload dX5_spell_23 rfl ?_
    refine xm_iconst dX5_spell_25 (v := 2) (by decide) ?_
    refine xb_icmp_ne 33 dX5_spell_26 (by decide) hf (fun c hf => ?_) (fun c hf => ?_)
    · refine xm_iconst dX5_spell_33 (v := 0) (by decide) ?_
      exact xm_sub [2, 3, 4, 5, 1, 0] rfl (L_X5_spell_j34 hrec σ l0 l1 l2 l3 x2 x4 (0 : Int32) hf hR)
    · refine xm_iconst dX5_spell_29 (v := 1) (by decide) ?_
      refine xm_goto 34 dX5_spell_30 (by decide) ?_
      exact xm_sub [2, 3, 4, 5, 1, 0] rfl (L_X5_spell_j34 hrec σ l0 l1 l2 l3 x2 x4 (1 : Int32) hf hR)
  · cases hf
    exact xm_vret dX5_spell_6 rfl (hR _ rfl)
def fr_X5_spell (n : Nat) : xM → Nat → Nat → Int32 → Int32 → Option xM := Nat.rec (motive := fun _ => xM → Nat → Nat → Int32 → Int32 → Option xM) (fun _ _ _ _ _ => none) (fun _ R => f_X5_spell_b R) n
def f_X5_spell : xM → Nat → Nat → Int32 → Int32 → Option xM := fr_X5_spell 200
theorem mr_X5_spell {G : xG} {π : Nat → Nat} : ∀ (n d C Z : Nat) (Q : xQ) (σ : xM) (l0 : Nat) (l1 : Nat) (l2 : Int32) (l3 : Int32) (x : xM), fr_X5_spell n σ l0 l1 l2 l3 = some x → (∀ g, x = g → Q (.inl none) (g) π) → xMach G π J_X5_spell ((d + 2 * n) + 0) C Z 0 (lv_args 0 [.ref l0, .ref l1, .int l2, .int l3]) [] σ Q := by
  intro n
  induction n with
  | zero => intro d C Z Q σ l0 l1 l2 l3 x hf; cases hf
  | succ n ih =>
    intro d C Z Q σ l0 l1 l2 l3 x hf hR
    rw [show (d + 2 * (n + 1)) + 0 = ((d + 1) + 2 * n) + 1 from by omega]
    exact m_X5_spell_b (R := fr_X5_spell n) (fun e C Z Q σ l0 l1 l2 l3 x h1 h2 => by
      have h := ih (d + 1 + e) C Z Q σ l0 l1 l2 l3 x h1 h2
      rwa [show (d + 1 + e) + 2 * n + 0 = ((d + 1) + 2 * n) + e + 0 from by omega] at h) hf hR
theorem m_X5_spell {G : xG} {π : Nat → Nat} {d C Z : Nat} {Q : xQ} {σ : xM} {l0 : Nat} {l1 : Nat} {l2 : Int32} {l3 : Int32} {x : xM} (hf : f_X5_spell σ l0 l1 l2 l3 = some x) (hR : ∀ g, x = g → Q (.inl none) (g) π) : xMach G π J_X5_spell (d + 400) C Z 0 (lv_args 0 [.ref l0, .ref l1, .int l2, .int l3]) [] σ Q := mr_X5_spell 200 d C Z Q σ l0 l1 l2 l3 x hf hR
-- Rankwise$Printer.put(I)V
def f_X5_put_j31 (σ : xM)  : Option xM :=
  some σ
set_option maxHeartbeats 4000000 in
set_option maxRecDepth 20000 in
theorem L_X5_put_j31 {G : xG} {π : Nat → Nat} {d C Z : Nat} {Q : xQ} (σ : xM)  {x : xM} (hf : f_X5_put_j31 σ = some x) (hR : ∀ g, x = g → Q (.inl none) (g) π) : xMach G π J_X5_put (d + 0) C Z 31 [] [] σ Q := by
  unfold f_X5_put_j31 at hf
  cases hf
  exact xm_vret dX5_put_31 rfl (hR _ rfl)
def f_X5_put (σ : xM) (l0 : Nat) (l1 : Int32) : Option xM :=
  (gI σ l0 5 3).bind (fun x1 => (if (1000 : Int32) ≤ x1 then f_X5_put_j31 σ else (gR σ l0 5 2).bind (fun x2 => (gI σ l0 5 3).bind (fun x3 => (wC σ x2 x3 (((l1).toUInt32 % 65536).toInt32)).bind (fun σ4 => (gI σ4 l0 5 3).bind (fun x5 => (sI σ4 l0 5 3 (x5 + (1 : Int32))).bind (fun σ6 => f_X5_put_j31 σ6)))))))
set_option maxHeartbeats 4000000 in
set_option maxRecDepth 20000 in
theorem m_X5_put {G : xG} {π : Nat → Nat} {d C Z : Nat} {Q : xQ} {σ : xM} {l0 : Nat} {l1 : Int32} {x : xM} (hf : f_X5_put σ l0 l1 = some x) (hR : ∀ g, x = g → Q (.inl none) (g) π) : xMach G π J_X5_put (d + 0) C Z 0 (lv_args 0 [.ref l0, .int l1]) [] σ Q := by
  unfold f_X5_put at hf
  refine xm_stL (L' := [(0, .ref l0), (1, .int l1)]) rfl ?_
  refine xm_aload_n dX5_put_0 rfl ?_
  refine xb_getI (a := l0) (c := 5) (k := 3) dX5_put_1 xcl5 (by decide) xw_401 rfl hf (fun x1 ex1 hf => ?_)
  refine xm_sipush dX5_put_4 (v := 1000) (by decide) ?_
  refine xb_icmp_ge 31 dX5_put_7 (by decide) hf (fun c hf => ?_) (fun c hf => ?_)
  · exact xm_sub [] rfl (L_X5_put_j31 σ hf hR)
  · refine xm_aload_n dX5_put_10 rfl ?_
    refine xb_getR (a := l0) (c := 5) (k := 2) dX5_put_11 xcl5 (by decide) xw_399 rfl hf (fun x2 ex2 hf => ?_)
    refine xm_aload_n dX5_put_14 rfl ?_
    refine xb_getI (a := l0) (c := 5) (k := 3) dX5_put_15 xcl5 (by decide) xw_401 rfl hf (fun x3 ex3 hf => ?_)
    refine xm_iload_n dX5_put_18 rfl ?_
    refine xm_i2c dX5_put_19 rfl ?_
    refine xb_cast dX5_put_20 hf (fun σ4 eσ4 hf => ?_)
    refine xm_aload_n dX5_put_21 rfl ?_
    refine xm_dup dX5_put_22 rfl ?_
    refine xb_getI (a := l0) (c := 5) (k := 3) dX5_put_23 xcl5 (by decide) xw_401 rfl hf (fun x5 ex5 hf => ?_)
    refine xm_iconst dX5_put_26 (v := 1) (by decide) ?_
    refine xm_iadd dX5_put_27 ?_
    refine xb_putI (a := l0) (c := 5) (k := 3) dX5_put_28 xcl5 (by decide) xw_401 rfl rfl hf (fun σ6 eσ6 hf => ?_)
    exact xm_sub [] rfl (L_X5_put_j31 σ6 hf hR)
-- Rankwise$Printer.putNumber(I)V
def f_X5_putNumber_s4 (σ : xM) (s : (Nat × Int32 × Int32 × Int32)) : Option (xM ⊕ ((Nat × Int32 × Int32) ⊕ (Nat × Int32 × Int32 × Int32))) :=
  xlet s.1 (fun l0 => xlet s.2.1 (fun l1 => xlet s.2.2.1 (fun l2 => xlet s.2.2.2 (fun l3 => (if (8 : Int32) ≤ l3 then some (Sum.inr (Sum.inl (l0, l1, l2))) else (if l2 = 0 then none else (if (l1 / l2) ≤ (9 : Int32) then some (Sum.inr (Sum.inl (l0, l1, l2))) else xlet (l2 * (10 : Int32)) (fun v3 => xlet (l3 + (1 : Int32)) (fun v4 => some (Sum.inr (Sum.inr (l0, l1, v3, v4))))))))))))
set_option maxHeartbeats 4000000 in
set_option maxRecDepth 20000 in
theorem L_X5_putNumber_s4 {G : xG} {π : Nat → Nat} {d C Z : Nat} {Q : xQ} (σ : xM) (l0 : Nat) (l1 : Int32) (l2 : Int32) (l3 : Int32) {x : (xM ⊕ ((Nat × Int32 × Int32) ⊕ (Nat × Int32 × Int32 × Int32)))} (hf : f_X5_putNumber_s4 σ (l0, l1, l2, l3) = some x) (hR : ∀ g, x = Sum.inl (g) → Q (.inl none) (g) π) (hE : ∀ e : (Nat × Int32 × Int32), x = Sum.inr (Sum.inl e) → xMach G π J_X5_putNumber (d + 1) C Z 29 [(0, .ref e.1), (1, .int e.2.1), (2, .int e.2.2)] [] σ Q) (hC : ∀ e : (Nat × Int32 × Int32 × Int32), x = Sum.inr (Sum.inr e) → xMach G π J_X5_putNumber (d + 1) C Z 4 [(0, .ref e.1), (1, .int e.2.1), (2, .int e.2.2.1), (3, .int e.2.2.2)] [] σ Q) : xMach G π J_X5_putNumber (d + 1) C Z 4 [(0, .ref l0), (1, .int l1), (2, .int l2), (3, .int l3)] [] σ Q := by
  have hf : (if (8 : Int32) ≤ l3 then some (Sum.inr (Sum.inl (l0, l1, l2))) else (if l2 = 0 then none else (if (l1 / l2) ≤ (9 : Int32) then some (Sum.inr (Sum.inl (l0, l1, l2))) else xlet (l2 * (10 : Int32)) (fun v3 => xlet (l3 + (1 : Int32)) (fun v4 => some (Sum.inr (Sum.inr (l0, l1, v3, v4)))))))) = some x := hf
  refine xm_iload_n dX5_putNumber_4 rfl ?_
  refine xm_bipush dX5_putNumber_5 (v := 8) (by decide) ?_
  refine xb_icmp_ge 29 dX5_putNumber_7 (by decide) hf (fun c hf => ?_) (fun c hf => ?_)
  · cases hf
    exact xm_sub [0, 1, 2] rfl (hE _ rfl)
  · refine xm_iload_n dX5_putNumber_10 rfl ?_
    refine xm_iload_n dX5_putNumber_11 rfl ?_
    refine xb_idiv dX5_putNumber_12 hf (fun c hf => ?_)
    refine xm_bipush dX5_putNumber_13 (v := 9) (by decide) ?_
    refine xb_icmp_le 29 dX5_putNumber_15 (by decide) hf (fun c hf => ?_) (fun c hf => ?_)
    · cases hf
      exact xm_sub [0, 1, 2] rfl (hE _ rfl)
    · refine xm_iload_n dX5_putNumber_18 rfl ?_
      refine xm_bipush dX5_putNumber_19 (v := 10) (by decide) ?_
      refine xm_imul dX5_putNumber_21 ?_
      refine xb_topi hf (fun v3 ev3 hf => ?_)
      refine xm_istore_n dX5_putNumber_22 (by decide) (xm_stL (L' := [(2, .int v3), (0, .ref l0), (1, .int l1), (3, .int l3)]) rfl ?_)
      refine xb_iinc dX5_putNumber_23 rfl (by decide) (by decide) hf (fun v4 ev4 hf => xm_stL (L' := [(3, .int v4), (2, .int v3), (0, .ref l0), (1, .int l1)]) rfl ?_)
      refine xm_goto 4 dX5_putNumber_26 (by decide) ?_
      cases hf
      exact xm_sub [2, 3, 1, 0] rfl (hC _ rfl)
theorem L_X5_putNumber_l4 {G : xG} {π : Nat → Nat} {d C Z : Nat} {Q : xQ} (σ : xM) {s0 : (Nat × Int32 × Int32 × Int32)} {x : (xM ⊕ (Nat × Int32 × Int32))} (h1 : xloop (f_X5_putNumber_s4 σ) xF s0 = some x) (hR : ∀ g, x = Sum.inl g → Q (.inl none) (g) π) (hE : ∀ e : (Nat × Int32 × Int32), x = Sum.inr e → xMach G π J_X5_putNumber (d + 1) C Z 29 [(0, .ref e.1), (1, .int e.2.1), (2, .int e.2.2)] [] σ Q) : xMach G π J_X5_putNumber (d + 1) C Z 4 [(0, .ref s0.1), (1, .int s0.2.1), (2, .int s0.2.2.1), (3, .int s0.2.2.2)] [] σ Q := by
  refine xloop_run (M := (fun s : (Nat × Int32 × Int32 × Int32) => xMach G π J_X5_putNumber (d + 1) C Z 4 [(0, .ref s.1), (1, .int s.2.1), (2, .int s.2.2.1), (3, .int s.2.2.2)] [] σ Q)) (r := x) ?_ xF _ h1
  intro s y hs hx
  exact L_X5_putNumber_s4 σ s.1 s.2.1 s.2.2.1 s.2.2.2 (x := y) hs (fun g hg => by subst hg; exact hR g hx) (fun e he => by subst he; exact hE e hx) (fun e he => by subst he; exact hx)
def f_X5_putNumber_s29 (s : (Nat × Int32 × Int32 × xM)) : Option (xM ⊕ ((xM) ⊕ (Nat × Int32 × Int32 × xM))) :=
  xlet s.1 (fun l0 => xlet s.2.1 (fun l1 => xlet s.2.2.1 (fun l2 => xlet s.2.2.2 (fun σ => (if l2 ≤ (0 : Int32) then some (Sum.inr (Sum.inl σ)) else (if l2 = 0 then none else (if xk σ l0 5 = true then (f_X5_put σ l0 ((48 : Int32) + ((l1 / l2) - (l1 / l2) / (10 : Int32) * (10 : Int32)))).bind (fun p5 => xlet (l2 / (10 : Int32)) (fun v6 => some (Sum.inr (Sum.inr (l0, l1, v6, p5))))) else none)))))))
set_option maxHeartbeats 4000000 in
set_option maxRecDepth 20000 in
theorem L_X5_putNumber_s29 {G : xG} {π : Nat → Nat} {d C Z : Nat} {Q : xQ} (σ : xM) (l0 : Nat) (l1 : Int32) (l2 : Int32) {x : (xM ⊕ ((xM) ⊕ (Nat × Int32 × Int32 × xM)))} (hf : f_X5_putNumber_s29 (l0, l1, l2, σ) = some x) (hR : ∀ g, x = Sum.inl (g) → Q (.inl none) (g) π) (hE : ∀ e : (xM), x = Sum.inr (Sum.inl e) → xMach G π J_X5_putNumber (d + 1) C Z 54 [] [] e Q) (hC : ∀ e : (Nat × Int32 × Int32 × xM), x = Sum.inr (Sum.inr e) → xMach G π J_X5_putNumber (d + 1) C Z 29 [(0, .ref e.1), (1, .int e.2.1), (2, .int e.2.2.1)] [] e.2.2.2 Q) : xMach G π J_X5_putNumber (d + 1) C Z 29 [(0, .ref l0), (1, .int l1), (2, .int l2)] [] σ Q := by
  have hf : (if l2 ≤ (0 : Int32) then some (Sum.inr (Sum.inl σ)) else (if l2 = 0 then none else (if xk σ l0 5 = true then (f_X5_put σ l0 ((48 : Int32) + ((l1 / l2) - (l1 / l2) / (10 : Int32) * (10 : Int32)))).bind (fun p5 => xlet (l2 / (10 : Int32)) (fun v6 => some (Sum.inr (Sum.inr (l0, l1, v6, p5))))) else none))) = some x := hf
  refine xm_iload_n dX5_putNumber_29 rfl ?_
  refine xb_if_le 54 dX5_putNumber_30 (by decide) hf (fun c hf => ?_) (fun c hf => ?_)
  · cases hf
    exact xm_sub [] rfl (hE _ rfl)
  · refine xm_aload_n dX5_putNumber_33 rfl ?_
    refine xm_bipush dX5_putNumber_34 (v := 48) (by decide) ?_
    refine xm_iload_n dX5_putNumber_36 rfl ?_
    refine xm_iload_n dX5_putNumber_37 rfl ?_
    refine xb_idiv dX5_putNumber_38 hf (fun c hf => ?_)
    refine xm_bipush dX5_putNumber_39 (v := 10) (by decide) ?_
    refine xm_irem dX5_putNumber_41 (by decide) ?_
    refine xm_iadd dX5_putNumber_42 ?_
    refine xb_if hf (fun hb hf => ?_) (fun _ q => nomatch q)
    obtain ⟨p5, ep5, hf⟩ := xbind hf
    refine xb_callV (As := [.int ((48 : Int32) + ((l1 / l2) - (l1 / l2) / (10 : Int32) * (10 : Int32)))]) (v0 := none) (τ0 := p5) dX5_putNumber_43 (xc_X5_put _ _) xcl5 xw_1324 xw_1326 xs_50 hb rfl (Nat.le_of_ble_eq_true rfl) rfl (Nat.le_of_ble_eq_true rfl) (fun Q1 hq => m_X5_put (d := d + 0) ep5 (fun g hg => by subst hg; exact hq)) ?_
    refine xm_iload_n dX5_putNumber_46 rfl ?_
    refine xm_bipush dX5_putNumber_47 (v := 10) (by decide) ?_
    refine xm_idiv dX5_putNumber_49 (by decide) ?_
    refine xb_topi hf (fun v6 ev6 hf => ?_)
    refine xm_istore_n dX5_putNumber_50 (by decide) (xm_stL (L' := [(2, .int v6), (0, .ref l0), (1, .int l1)]) rfl ?_)
    refine xm_goto 29 dX5_putNumber_51 (by decide) ?_
    cases hf
    exact xm_sub [1, 2, 0] rfl (hC _ rfl)
theorem L_X5_putNumber_l29 {G : xG} {π : Nat → Nat} {d C Z : Nat} {Q : xQ} {s0 : (Nat × Int32 × Int32 × xM)} {x : (xM ⊕ (xM))} (h1 : xloop (f_X5_putNumber_s29) xF s0 = some x) (hR : ∀ g, x = Sum.inl g → Q (.inl none) (g) π) (hE : ∀ e : (xM), x = Sum.inr e → xMach G π J_X5_putNumber (d + 1) C Z 54 [] [] e Q) : xMach G π J_X5_putNumber (d + 1) C Z 29 [(0, .ref s0.1), (1, .int s0.2.1), (2, .int s0.2.2.1)] [] s0.2.2.2 Q := by
  refine xloop_run (M := (fun s : (Nat × Int32 × Int32 × xM) => xMach G π J_X5_putNumber (d + 1) C Z 29 [(0, .ref s.1), (1, .int s.2.1), (2, .int s.2.2.1)] [] s.2.2.2 Q)) (r := x) ?_ xF _ h1
  intro s y hs hx
  exact L_X5_putNumber_s29 s.2.2.2 s.1 s.2.1 s.2.2.1 (x := y) hs (fun g hg => by subst hg; exact hR g hx) (fun e he => by subst he; exact hE e hx) (fun e he => by subst he; exact hx)
def f_X5_putNumber_j54 (σ : xM)  : Option xM :=
  some σ
set_option maxHeartbeats 4000000 in
set_option maxRecDepth 20000 in
theorem L_X5_putNumber_j54 {G : xG} {π : Nat → Nat} {d C Z : Nat} {Q : xQ} (σ : xM)  {x : xM} (hf : f_X5_putNumber_j54 σ = some x) (hR : ∀ g, x = g → Q (.inl none) (g) π) : xMach G π J_X5_putNumber (d + 1) C Z 54 [] [] σ Q := by
  unfold f_X5_putNumber_j54 at hf
  cases hf
  exact xm_vret dX5_putNumber_54 rfl (hR _ rfl)
def f_X5_putNumber (σ : xM) (l0 : Nat) (l1 : Int32) : Option xM :=
  xlet (1 : Int32) (fun v1 => xlet (0 : Int32) (fun v2 => (xloop (f_X5_putNumber_s4 σ ) xF (l0, l1, v1, v2)).bind (Sum.elim (fun g => some g) (fun e => (xloop (f_X5_putNumber_s29 ) xF (e.1, e.2.1, e.2.2, σ)).bind (Sum.elim (fun g => some g) (fun e => f_X5_putNumber_j54 e))))))
set_option maxHeartbeats 4000000 in
set_option maxRecDepth 20000 in
theorem m_X5_putNumber {G : xG} {π : Nat → Nat} {d C Z : Nat} {Q : xQ} {σ : xM} {l0 : Nat} {l1 : Int32} {x : xM} (hf : f_X5_putNumber σ l0 l1 = some x) (hR : ∀ g, x = g → Q (.inl none) (g) π) : xMach G π J_X5_putNumber (d + 1) C Z 0 (lv_args 0 [.ref l0, .int l1]) [] σ Q := by
  unfold f_X5_putNumber at hf
  refine xm_stL (L' := [(0, .ref l0), (1, .int l1)]) rfl ?_
  refine xm_iconst dX5_putNumber_0 (v := 1) (by decide) ?_
  refine xb_topi hf (fun v1 ev1 hf => ?_)
  refine xm_istore_n dX5_putNumber_1 (by decide) (xm_stL (L' := [(2, .int v1), (0, .ref l0), (1, .int l1)]) rfl ?_)
  refine xm_iconst dX5_putNumber_2 (v := 0) (by decide) ?_
  refine xb_topi hf (fun v2 ev2 hf => ?_)
  refine xm_istore_n dX5_putNumber_3 (by decide) (xm_stL (L' := [(3, .int v2), (2, .int v1), (0, .ref l0), (1, .int l1)]) rfl ?_)
  obtain ⟨o, h1, hf⟩ := xbind hf
  refine xm_sub [2, 3, 1, 0] rfl (L_X5_putNumber_l4 σ h1 (fun g hg => ?_) (fun e he => ?_))
  · subst hg
    cases hf
    exact hR _ rfl
  · subst he
    rw [Sum.elim_inr] at hf
    have hf : (xloop (f_X5_putNumber_s29 ) xF (e.1, e.2.1, e.2.2, σ)).bind (Sum.elim (fun g => some g) (fun e => f_X5_putNumber_j54 e)) = some _ := hf
    obtain ⟨o, h1, hf⟩ := xbind hf
    refine xm_sub [0, 1, 2] rfl (L_X5_putNumber_l29  h1 (fun g hg => ?_) (fun e he => ?_))
    · subst hg
      cases hf
      exact hR _ rfl
    · subst he
      rw [Sum.elim_inr] at hf
      have hf : f_X5_putNumber_j54 e = some _ := hf
      exact xm_sub [] rfl (L_X5_putNumber_j54 e hf hR)
-- Rankwise$Printer.putValue(II)V
def f_X5_putValue_j17 (σ : xM)  : Option xM :=
  some σ
set_option maxHeartbeats 4000000 in
set_option maxRecDepth 20000 in
theorem L_X5_putValue_j17 {G : xG} {π : Nat → Nat} {d C Z : Nat} {Q : xQ} (σ : xM)  {x : xM} (hf : f_X5_putValue_j17 σ = some x) (hR : ∀ g, x = g → Q (.inl none) (g) π) : xMach G π J_X5_putValue (d + 2) C Z 17 [] [] σ Q := by
  unfold f_X5_putValue_j17 at hf
  cases hf
  exact xm_vret dX5_putValue_17 rfl (hR _ rfl)
def f_X5_putValue (σ : xM) (l0 : Nat) (l1 : Int32) (l2 : Int32) : Option xM :=
  (if l1 = (0 : Int32) then (if xk σ l0 5 = true then (f_X5_putNumber σ l0 l2).bind (fun p2 => f_X5_putValue_j17 p2) else none) else (if xk σ l0 5 = true then (f_X5_put σ l0 l2).bind (fun p1 => f_X5_putValue_j17 p1) else none))
set_option maxHeartbeats 4000000 in
set_option maxRecDepth 20000 in
theorem m_X5_putValue {G : xG} {π : Nat → Nat} {d C Z : Nat} {Q : xQ} {σ : xM} {l0 : Nat} {l1 : Int32} {l2 : Int32} {x : xM} (hf : f_X5_putValue σ l0 l1 l2 = some x) (hR : ∀ g, x = g → Q (.inl none) (g) π) : xMach G π J_X5_putValue (d + 2) C Z 0 (lv_args 0 [.ref l0, .int l1, .int l2]) [] σ Q := by
  unfold f_X5_putValue at hf
  refine xm_stL (L' := [(0, .ref l0), (1, .int l1), (2, .int l2)]) rfl ?_
  refine xm_iload_n dX5_putValue_0 rfl ?_
  refine xb_if_ne 12 dX5_putValue_1 (by decide) hf (fun c hf => ?_) (fun c hf => ?_)
  · refine xm_aload_n dX5_putValue_12 rfl ?_
    refine xm_iload_n dX5_putValue_13 rfl ?_
    refine xb_if hf (fun hb hf => ?_) (fun _ q => nomatch q)
    obtain ⟨p1, ep1, hf⟩ := xbind hf
    refine xb_callV (As := [.int l2]) (v0 := none) (τ0 := p1) dX5_putValue_14 (xc_X5_put _ _) xcl5 xw_1324 xw_1326 xs_50 hb rfl (Nat.le_of_ble_eq_true rfl) rfl (Nat.le_of_ble_eq_true rfl) (fun Q1 hq => m_X5_put (d := d + 1) ep1 (fun g hg => by subst hg; exact hq)) ?_
    exact xm_sub [] rfl (L_X5_putValue_j17 p1 hf hR)
  · refine xm_aload_n dX5_putValue_4 rfl ?_
    refine xm_iload_n dX5_putValue_5 rfl ?_
    refine xb_if hf (fun hb hf => ?_) (fun _ q => nomatch q)
    obtain ⟨p2, ep2, hf⟩ := xbind hf
    refine xb_callV (As := [.int l2]) (v0 := none) (τ0 := p2) dX5_putValue_6 (xc_X5_putNumber _ _) xcl5 xw_1320 xw_1322 xs_49 hb rfl (Nat.le_of_ble_eq_true rfl) rfl (Nat.le_of_ble_eq_true rfl) (fun Q1 hq => m_X5_putNumber (d := d + 0) ep2 (fun g hg => by subst hg; exact hq)) ?_
    refine xm_goto 17 dX5_putValue_9 (by decide) ?_
    exact xm_sub [] rfl (L_X5_putValue_j17 p2 hf hR)
-- Rankwise$Printer.fewest(LRankwise$Tree;)V
def f_X5_fewest_j74 (σ : xM) (l0 : Nat) (l2 : Int32) : Option (xM ⊕ ((xM) ⊕ (Nat × Int32 × xM))) :=
  xlet (l2 + (1 : Int32)) (fun v13 => some (Sum.inr (Sum.inr (l0, v13, σ))))
set_option maxHeartbeats 4000000 in
set_option maxRecDepth 20000 in
theorem L_X5_fewest_j74 {G : xG} {π : Nat → Nat} {d C Z : Nat} {Q : xQ} (σ : xM) (l0 : Nat) (l2 : Int32) {x : (xM ⊕ ((xM) ⊕ (Nat × Int32 × xM)))} (hf : f_X5_fewest_j74 σ l0 l2 = some x) (hR : ∀ g, x = Sum.inl (g) → Q (.inl none) (g) π) (hE : ∀ e : (xM), x = Sum.inr (Sum.inl e) → xMach G π J_X5_fewest (d + 401) C Z 80 [] [] e Q) (hC : ∀ e : (Nat × Int32 × xM), x = Sum.inr (Sum.inr e) → xMach G π J_X5_fewest (d + 401) C Z 29 [(0, .ref e.1), (2, .int e.2.1)] [] e.2.2 Q) : xMach G π J_X5_fewest (d + 401) C Z 74 [(0, .ref l0), (2, .int l2)] [] σ Q := by
  unfold f_X5_fewest_j74 at hf
  refine xb_iinc dX5_fewest_74 rfl (by decide) (by decide) hf (fun v13 ev13 hf => xm_stL (L' := [(2, .int v13), (0, .ref l0)]) rfl ?_)
  refine xm_goto 29 dX5_fewest_77 (by decide) ?_
  cases hf
  exact xm_sub [1, 0] rfl (hC _ rfl)
def f_X5_fewest_s29 (s : (Nat × Int32 × xM)) : Option (xM ⊕ ((xM) ⊕ (Nat × Int32 × xM))) :=
  xlet s.1 (fun l0 => xlet s.2.1 (fun l2 => xlet s.2.2 (fun σ => (gR σ l0 5 0).bind (fun x8 => (gI σ x8 6 5).bind (fun x9 => (if x9 ≤ l2 then some (Sum.inr (Sum.inl σ)) else (gR σ l0 5 0).bind (fun x10 => (gR σ x10 6 4).bind (fun x11 => (aI σ x11 15 l2).bind (fun x12 => (if x12 = (0 : Int32) then (gR σ l0 5 0).bind (fun x14 => (gR σ x14 6 1).bind (fun x15 => (aI σ x15 14 l2).bind (fun x16 => (gR σ l0 5 0).bind (fun x17 => (gR σ x17 6 2).bind (fun x18 => (aI σ x18 14 l2).bind (fun x19 => (if xk σ l0 5 = true then (f_X5_putValue σ l0 x16 x19).bind (fun p20 => f_X5_fewest_j74 p20 l0 l2) else none))))))) else f_X5_fewest_j74 σ l0 l2))))))))))
set_option maxHeartbeats 4000000 in
set_option maxRecDepth 20000 in
theorem L_X5_fewest_s29 {G : xG} {π : Nat → Nat} {d C Z : Nat} {Q : xQ} (σ : xM) (l0 : Nat) (l2 : Int32) {x : (xM ⊕ ((xM) ⊕ (Nat × Int32 × xM)))} (hf : f_X5_fewest_s29 (l0, l2, σ) = some x) (hR : ∀ g, x = Sum.inl (g) → Q (.inl none) (g) π) (hE : ∀ e : (xM), x = Sum.inr (Sum.inl e) → xMach G π J_X5_fewest (d + 401) C Z 80 [] [] e Q) (hC : ∀ e : (Nat × Int32 × xM), x = Sum.inr (Sum.inr e) → xMach G π J_X5_fewest (d + 401) C Z 29 [(0, .ref e.1), (2, .int e.2.1)] [] e.2.2 Q) : xMach G π J_X5_fewest (d + 401) C Z 29 [(0, .ref l0), (2, .int l2)] [] σ Q := by
  have hf : (gR σ l0 5 0).bind (fun x8 => (gI σ x8 6 5).bind (fun x9 => (if x9 ≤ l2 then some (Sum.inr (Sum.inl σ)) else (gR σ l0 5 0).bind (fun x10 => (gR σ x10 6 4).bind (fun x11 => (aI σ x11 15 l2).bind (fun x12 => (if x12 = (0 : Int32) then (gR σ l0 5 0).bind (fun x14 => (gR σ x14 6 1).bind (fun x15 => (aI σ x15 14 l2).bind (fun x16 => (gR σ l0 5 0).bind (fun x17 => (gR σ x17 6 2).bind (fun x18 => (aI σ x18 14 l2).bind (fun x19 => (if xk σ l0 5 = true then (f_X5_putValue σ l0 x16 x19).bind (fun p20 => f_X5_fewest_j74 p20 l0 l2) else none))))))) else f_X5_fewest_j74 σ l0 l2))))))) = some x := hf
  refine xm_iload_n dX5_fewest_29 rfl ?_
  refine xm_aload_n dX5_fewest_30 rfl ?_
  refine xb_getR (a := l0) (c := 5) (k := 0) dX5_fewest_31 xcl5 (by decide) xw_397 rfl hf (fun x8 ex8 hf => ?_)
  refine xb_getIN (host := "Rankwise") (a := x8) (c := 6) (k := 5) dX5_fewest_34 xcl6 (by decide) (by decide +kernel) rfl hf (fun x9 ex9 hf => ?_)
  refine xb_icmp_ge 80 dX5_fewest_37 (by decide) hf (fun c hf => ?_) (fun c hf => ?_)
  · cases hf
    exact xm_sub [] rfl (hE _ rfl)
  · refine xm_aload_n dX5_fewest_40 rfl ?_
    refine xb_getR (a := l0) (c := 5) (k := 0) dX5_fewest_41 xcl5 (by decide) xw_397 rfl hf (fun x10 ex10 hf => ?_)
    refine xb_getRN (host := "Rankwise") (a := x10) (c := 6) (k := 4) dX5_fewest_44 xcl6 (by decide) (by decide +kernel) rfl hf (fun x11 ex11 hf => ?_)
    refine xm_iload_n dX5_fewest_47 rfl ?_
    refine xb_zald dX5_fewest_48 hf (fun x12 ex12 hf => ?_)
    refine xb_if_ne 74 dX5_fewest_49 (by decide) hf (fun c hf => ?_) (fun c hf => ?_)
    · exact xm_sub [0, 1] rfl (L_X5_fewest_j74 σ l0 l2 hf hR hE hC)
    · refine xm_aload_n dX5_fewest_52 rfl ?_
      refine xm_aload_n dX5_fewest_53 rfl ?_
      refine xb_getR (a := l0) (c := 5) (k := 0) dX5_fewest_54 xcl5 (by decide) xw_397 rfl hf (fun x14 ex14 hf => ?_)
      refine xb_getRN (host := "Rankwise") (a := x14) (c := 6) (k := 1) dX5_fewest_57 xcl6 (by decide) (by decide +kernel) rfl hf (fun x15 ex15 hf => ?_)
      refine xm_iload_n dX5_fewest_60 rfl ?_
      refine xb_iald dX5_fewest_61 hf (fun x16 ex16 hf => ?_)
      refine xm_aload_n dX5_fewest_62 rfl ?_
      refine xb_getR (a := l0) (c := 5) (k := 0) dX5_fewest_63 xcl5 (by decide) xw_397 rfl hf (fun x17 ex17 hf => ?_)
      refine xb_getRN (host := "Rankwise") (a := x17) (c := 6) (k := 2) dX5_fewest_66 xcl6 (by decide) (by decide +kernel) rfl hf (fun x18 ex18 hf => ?_)
      refine xm_iload_n dX5_fewest_69 rfl ?_
      refine xb_iald dX5_fewest_70 hf (fun x19 ex19 hf => ?_)
      refine xb_if hf (fun hb hf => ?_) (fun _ q => nomatch q)
      obtain ⟨p20, ep20, hf⟩ := xbind hf
      refine xb_callV (As := [.int x16, .int x19]) (v0 := none) (τ0 := p20) dX5_fewest_71 (xc_X5_putValue _ _) xcl5 xw_1316 xw_1318 xs_48 hb rfl (Nat.le_of_ble_eq_true rfl) rfl (Nat.le_of_ble_eq_true rfl) (fun Q1 hq => m_X5_putValue (d := d + 398) ep20 (fun g hg => by subst hg; exact hq)) ?_
      exact xm_sub [0, 1] rfl (L_X5_fewest_j74 p20 l0 l2 hf hR hE hC)
theorem L_X5_fewest_l29 {G : xG} {π : Nat → Nat} {d C Z : Nat} {Q : xQ} {s0 : (Nat × Int32 × xM)} {x : (xM ⊕ (xM))} (h1 : xloop (f_X5_fewest_s29) xF s0 = some x) (hR : ∀ g, x = Sum.inl g → Q (.inl none) (g) π) (hE : ∀ e : (xM), x = Sum.inr e → xMach G π J_X5_fewest (d + 401) C Z 80 [] [] e Q) : xMach G π J_X5_fewest (d + 401) C Z 29 [(0, .ref s0.1), (2, .int s0.2.1)] [] s0.2.2 Q := by
  refine xloop_run (M := (fun s : (Nat × Int32 × xM) => xMach G π J_X5_fewest (d + 401) C Z 29 [(0, .ref s.1), (2, .int s.2.1)] [] s.2.2 Q)) (r := x) ?_ xF _ h1
  intro s y hs hx
  exact L_X5_fewest_s29 s.2.2 s.1 s.2.1 (x := y) hs (fun g hg => by subst hg; exact hR g hx) (fun e he => by subst he; exact hE e hx) (fun e he => by subst he; exact hx)
def f_X5_fewest_j80 (σ : xM)  : Option xM :=
  some σ
set_option maxHeartbeats 4000000 in
set_option maxRecDepth 20000 in
theorem L_X5_fewest_j80 {G : xG} {π : Nat → Nat} {d C Z : Nat} {Q : xQ} (σ : xM)  {x : xM} (hf : f_X5_fewest_j80 σ = some x) (hR : ∀ g, x = g → Q (.inl none) (g) π) : xMach G π J_X5_fewest (d + 401) C Z 80 [] [] σ Q := by
  unfold f_X5_fewest_j80 at hf
  cases hf
  exact xm_vret dX5_fewest_80 rfl (hR _ rfl)
def f_X5_fewest (σ : xM) (l0 : Nat) (l1 : Nat) : Option xM :=
  (gR σ l0 5 0).bind (fun x1 => (if xk σ x1 6 = true then (f_X6_startWords σ x1).bind (fun p2 => (if xk p2 l0 5 = true then (f_X5_spell p2 l0 l1 (0 : Int32) (0 : Int32)).bind (fun p3 => (gR p3 l0 5 0).bind (fun x4 => (if xk p3 x4 6 = true then (f_X6_dropBrackets p3 x4 l1).bind (fun p5 => (sI p5 l0 5 3 (0 : Int32)).bind (fun σ6 => xlet (0 : Int32) (fun v7 => (xloop (f_X5_fewest_s29 ) xF (l0, v7, σ6)).bind (Sum.elim (fun g => some g) (fun e => f_X5_fewest_j80 e))))) else none))) else none)) else none))
set_option maxHeartbeats 4000000 in
set_option maxRecDepth 20000 in
theorem m_X5_fewest {G : xG} {π : Nat → Nat} {d C Z : Nat} {Q : xQ} {σ : xM} {l0 : Nat} {l1 : Nat} {x : xM} (hf : f_X5_fewest σ l0 l1 = some x) (hR : ∀ g, x = g → Q (.inl none) (g) π) : xMach G π J_X5_fewest (d + 401) C Z 0 (lv_args 0 [.ref l0, .ref l1]) [] σ Q := by
  unfold f_X5_fewest at hf
  refine xm_stL (L' := [(0, .ref l0), (1, .ref l1)]) rfl ?_
  refine xm_aload_n dX5_fewest_0 rfl ?_
  refine xb_getR (a := l0) (c := 5) (k := 0) dX5_fewest_1 xcl5 (by decide) xw_397 rfl hf (fun x1 ex1 hf => ?_)
  refine xb_if hf (fun hb hf => ?_) (fun _ q => nomatch q)
  obtain ⟨p2, ep2, hf⟩ := xbind hf
  refine xb_callV (As := []) (v0 := none) (τ0 := p2) dX5_fewest_4 (xc_X6_startWords _ _) xcl6 xw_1284 xw_716 xw_717 hb rfl (Nat.le_of_ble_eq_true rfl) rfl (Nat.le_of_ble_eq_true rfl) (fun Q1 hq => m_X6_startWords (d := d + 400) ep2 (fun g hg => by subst hg; exact hq)) ?_
  refine xm_aload_n dX5_fewest_7 rfl ?_
  refine xm_aload_n dX5_fewest_8 rfl ?_
  refine xm_iconst dX5_fewest_9 (v := 0) (by decide) ?_
  refine xm_iconst dX5_fewest_10 (v := 0) (by decide) ?_
  refine xb_if hf (fun hb hf => ?_) (fun _ q => nomatch q)
  obtain ⟨p3, ep3, hf⟩ := xbind hf
  refine xb_callV (As := [.ref l1, .int (0 : Int32), .int (0 : Int32)]) (v0 := none) (τ0 := p3) dX5_fewest_11 (xc_X5_spell _ _) xcl5 xw_1285 xw_1287 xs_44 hb rfl (Nat.le_of_ble_eq_true rfl) rfl (Nat.le_of_ble_eq_true rfl) (fun Q1 hq => m_X5_spell (d := d + 0) ep3 (fun g hg => by subst hg; exact hq)) ?_
  refine xm_aload_n dX5_fewest_14 rfl ?_
  refine xb_getR (a := l0) (c := 5) (k := 0) dX5_fewest_15 xcl5 (by decide) xw_397 rfl hf (fun x4 ex4 hf => ?_)
  refine xm_aload_n dX5_fewest_18 rfl ?_
  refine xb_if hf (fun hb hf => ?_) (fun _ q => nomatch q)
  obtain ⟨p5, ep5, hf⟩ := xbind hf
  refine xb_callV (As := [.ref l1]) (v0 := none) (τ0 := p5) dX5_fewest_19 (xc_X6_dropBrackets _ _) xcl6 xw_1290 xw_1291 xw_1292 hb rfl (Nat.le_of_ble_eq_true rfl) rfl (Nat.le_of_ble_eq_true rfl) (fun Q1 hq => m_X6_dropBrackets (d := d + 395) ep5 (fun g hg => by subst hg; exact hq)) ?_
  refine xm_aload_n dX5_fewest_22 rfl ?_
  refine xm_iconst dX5_fewest_23 (v := 0) (by decide) ?_
  refine xb_putI (a := l0) (c := 5) (k := 3) dX5_fewest_24 xcl5 (by decide) xw_401 rfl rfl hf (fun σ6 eσ6 hf => ?_)
  refine xm_iconst dX5_fewest_27 (v := 0) (by decide) ?_
  refine xb_topi hf (fun v7 ev7 hf => ?_)
  refine xm_istore_n dX5_fewest_28 (by decide) (xm_stL (L' := [(2, .int v7), (0, .ref l0), (1, .ref l1)]) rfl ?_)
  obtain ⟨o, h1, hf⟩ := xbind hf
  refine xm_sub [1, 0] rfl (L_X5_fewest_l29  h1 (fun g hg => ?_) (fun e he => ?_))
  · subst hg
    cases hf
    exact hR _ rfl
  · subst he
    rw [Sum.elim_inr] at hf
    have hf : f_X5_fewest_j80 e = some _ := hf
    exact xm_sub [] rfl (L_X5_fewest_j80 e hf hR)
-- Rankwise$Printer.line(LRankwise$Tree;)V
def f_X5_line_j85 (σ : xM) (l0 : Nat) (l1 : Nat) (l2 : Int32) : Option (xM ⊕ ((xM) ⊕ (Nat × Nat × Int32 × xM))) :=
  xlet (l2 + (1 : Int32)) (fun v14 => some (Sum.inr (Sum.inr (l0, l1, v14, σ))))
set_option maxHeartbeats 4000000 in
set_option maxRecDepth 20000 in
theorem L_X5_line_j85 {G : xG} {π : Nat → Nat} {d C Z : Nat} {Q : xQ} (σ : xM) (l0 : Nat) (l1 : Nat) (l2 : Int32) {x : (xM ⊕ ((xM) ⊕ (Nat × Nat × Int32 × xM)))} (hf : f_X5_line_j85 σ l0 l1 l2 = some x) (hR : ∀ g, x = Sum.inl (g) → Q (.inl none) (g) π) (hE : ∀ e : (xM), x = Sum.inr (Sum.inl e) → xMach G π J_X5_line (d + 3) C Z 91 [] [] e Q) (hC : ∀ e : (Nat × Nat × Int32 × xM), x = Sum.inr (Sum.inr e) → xMach G π J_X5_line (d + 3) C Z 7 [(0, .ref e.1), (1, .ref e.2.1), (2, .int e.2.2.1)] [] e.2.2.2 Q) : xMach G π J_X5_line (d + 3) C Z 85 [(0, .ref l0), (1, .ref l1), (2, .int l2)] [] σ Q := by
  unfold f_X5_line_j85 at hf
  refine xb_iinc dX5_line_85 rfl (by decide) (by decide) hf (fun v14 ev14 hf => xm_stL (L' := [(2, .int v14), (0, .ref l0), (1, .ref l1)]) rfl ?_)
  refine xm_goto 7 dX5_line_88 (by decide) ?_
  cases hf
  exact xm_sub [1, 2, 0] rfl (hC _ rfl)
def f_X5_line_j31 (σ : xM) (l0 : Nat) (l1 : Nat) (l2 : Int32) (l3 : Int32) : Option (xM ⊕ ((xM) ⊕ (Nat × Nat × Int32 × xM))) :=
  (gR σ l1 9 0).bind (fun x5 => (aI σ x5 14 l3).bind (fun x6 => (gR σ l1 9 1).bind (fun x7 => (aI σ x7 14 l3).bind (fun x8 => (if xk σ l0 5 = true then (f_X5_putValue σ l0 x6 x8).bind (fun p9 => (gR p9 l1 9 0).bind (fun x10 => (aI p9 x10 14 l3).bind (fun x11 => (if x11 = (2 : Int32) then (gR p9 l1 9 3).bind (fun x16 => (aI p9 x16 14 l3).bind (fun x17 => (if xk p9 l0 5 = true then (f_X5_putNumber p9 l0 x17).bind (fun p18 => f_X5_line_j85 p18 l0 l1 l2) else none))) else (gR p9 l1 9 2).bind (fun x12 => (aI p9 x12 14 l3).bind (fun x13 => (if x13 = (0 : Int32) then (if xk p9 l0 5 = true then (f_X5_put p9 l0 (39 : Int32)).bind (fun p15 => f_X5_line_j85 p15 l0 l1 l2) else none) else f_X5_line_j85 p9 l0 l1 l2))))))) else none)))))
set_option maxHeartbeats 4000000 in
set_option maxRecDepth 20000 in
theorem L_X5_line_j31 {G : xG} {π : Nat → Nat} {d C Z : Nat} {Q : xQ} (σ : xM) (l0 : Nat) (l1 : Nat) (l2 : Int32) (l3 : Int32) {x : (xM ⊕ ((xM) ⊕ (Nat × Nat × Int32 × xM)))} (hf : f_X5_line_j31 σ l0 l1 l2 l3 = some x) (hR : ∀ g, x = Sum.inl (g) → Q (.inl none) (g) π) (hE : ∀ e : (xM), x = Sum.inr (Sum.inl e) → xMach G π J_X5_line (d + 3) C Z 91 [] [] e Q) (hC : ∀ e : (Nat × Nat × Int32 × xM), x = Sum.inr (Sum.inr e) → xMach G π J_X5_line (d + 3) C Z 7 [(0, .ref e.1), (1, .ref e.2.1), (2, .int e.2.2.1)] [] e.2.2.2 Q) : xMach G π J_X5_line (d + 3) C Z 31 [(0, .ref l0), (1, .ref l1), (2, .int l2), (3, .int l3)] [] σ Q := by
  unfold f_X5_line_j31 at hf
  refine xm_aload_n dX5_line_31 rfl ?_
  refine xm_aload_n dX5_line_32 rfl ?_
  refine xb_getR (a := l1) (c := 9) (k := 0) dX5_line_33 xcl9 (by decide) xw_194 rfl hf (fun x5 ex5 hf => ?_)
  refine xm_iload_n dX5_line_36 rfl ?_
  refine xb_iald dX5_line_37 hf (fun x6 ex6 hf => ?_)
  refine xm_aload_n dX5_line_38 rfl ?_
  refine xb_getR (a := l1) (c := 9) (k := 1) dX5_line_39 xcl9 (by decide) xw_200 rfl hf (fun x7 ex7 hf => ?_)
  refine xm_iload_n dX5_line_42 rfl ?_
  refine xb_iald dX5_line_43 hf (fun x8 ex8 hf => ?_)
  refine xb_if hf (fun hb hf => ?_) (fun _ q => nomatch q)
  obtain ⟨p9, ep9, hf⟩ := xbind hf
  refine xb_callV (As := [.int x6, .int x8]) (v0 := none) (τ0 := p9) dX5_line_44 (xc_X5_putValue _ _) xcl5 xw_1316 xw_1318 xs_48 hb rfl (Nat.le_of_ble_eq_true rfl) rfl (Nat.le_of_ble_eq_true rfl) (fun Q1 hq => m_X5_putValue (d := d + 0) ep9 (fun g hg => by subst hg; exact hq)) ?_
  refine xm_aload_n dX5_line_47 rfl ?_
  refine xb_getR (a := l1) (c := 9) (k := 0) dX5_line_48 xcl9 (by decide) xw_194 rfl hf (fun x10 ex10 hf => ?_)
  refine xm_iload_n dX5_line_51 rfl ?_
  refine xb_iald dX5_line_52 hf (fun x11 ex11 hf => ?_)
  refine xm_iconst dX5_line_53 (v := 2) (by decide) ?_
  refine xb_icmp_ne 70 dX5_line_54 (by decide) hf (fun c hf => ?_) (fun c hf => ?_)
  · refine xm_aload_n dX5_line_70 rfl ?_
    refine xb_getR (a := l1) (c := 9) (k := 2) dX5_line_71 xcl9 (by decide) xw_205 rfl hf (fun x12 ex12 hf => ?_)
    refine xm_iload_n dX5_line_74 rfl ?_
    refine xb_iald dX5_line_75 hf (fun x13 ex13 hf => ?_)
    refine xb_if_ne 85 dX5_line_76 (by decide) hf (fun c hf => ?_) (fun c hf => ?_)
    · exact xm_sub [0, 1, 2] rfl (L_X5_line_j85 p9 l0 l1 l2 hf hR hE hC)
    · refine xm_aload_n dX5_line_79 rfl ?_
      refine xm_bipush dX5_line_80 (v := 39) (by decide) ?_
      refine xb_if hf (fun hb hf => ?_) (fun _ q => nomatch q)
      obtain ⟨p15, ep15, hf⟩ := xbind hf
      refine xb_callV (As := [.int (39 : Int32)]) (v0 := none) (τ0 := p15) dX5_line_82 (xc_X5_put _ _) xcl5 xw_1324 xw_1326 xs_50 hb rfl (Nat.le_of_ble_eq_true rfl) rfl (Nat.le_of_ble_eq_true rfl) (fun Q1 hq => m_X5_put (d := d + 2) ep15 (fun g hg => by subst hg; exact hq)) ?_
      exact xm_sub [0, 1, 2] rfl (L_X5_line_j85 p15 l0 l1 l2 hf hR hE hC)
  · refine xm_aload_n dX5_line_57 rfl ?_
    refine xm_aload_n dX5_line_58 rfl ?_
    refine xb_getR (a := l1) (c := 9) (k := 3) dX5_line_59 xcl9 (by decide) xw_210 rfl hf (fun x16 ex16 hf => ?_)
    refine xm_iload_n dX5_line_62 rfl ?_
    refine xb_iald dX5_line_63 hf (fun x17 ex17 hf => ?_)
    refine xb_if hf (fun hb hf => ?_) (fun _ q => nomatch q)
    obtain ⟨p18, ep18, hf⟩ := xbind hf
    refine xb_callV (As := [.int x17]) (v0 := none) (τ0 := p18) dX5_line_64 (xc_X5_putNumber _ _) xcl5 xw_1320 xw_1322 xs_49 hb rfl (Nat.le_of_ble_eq_true rfl) rfl (Nat.le_of_ble_eq_true rfl) (fun Q1 hq => m_X5_putNumber (d := d + 1) ep18 (fun g hg => by subst hg; exact hq)) ?_
    refine xm_goto 85 dX5_line_67 (by decide) ?_
    exact xm_sub [0, 1, 2] rfl (L_X5_line_j85 p18 l0 l1 l2 hf hR hE hC)
def f_X5_line_s7 (s : (Nat × Nat × Int32 × xM)) : Option (xM ⊕ ((xM) ⊕ (Nat × Nat × Int32 × xM))) :=
  xlet s.1 (fun l0 => xlet s.2.1 (fun l1 => xlet s.2.2.1 (fun l2 => xlet s.2.2.2 (fun σ => (gI σ l1 9 7).bind (fun x3 => (if x3 ≤ l2 then some (Sum.inr (Sum.inl σ)) else (if xk σ l1 9 = true then (f_X9_nodeAt σ l1 l2).bind (fun p4 => (if l2 ≤ (0 : Int32) then f_X5_line_j31 σ l0 l1 l2 p4 else (if xk σ l0 5 = true then (f_X5_put σ l0 (32 : Int32)).bind (fun p19 => f_X5_line_j31 p19 l0 l1 l2 p4) else none))) else none)))))))
set_option maxHeartbeats 4000000 in
set_option maxRecDepth 20000 in
theorem L_X5_line_s7 {G : xG} {π : Nat → Nat} {d C Z : Nat} {Q : xQ} (σ : xM) (l0 : Nat) (l1 : Nat) (l2 : Int32) {x : (xM ⊕ ((xM) ⊕ (Nat × Nat × Int32 × xM)))} (hf : f_X5_line_s7 (l0, l1, l2, σ) = some x) (hR : ∀ g, x = Sum.inl (g) → Q (.inl none) (g) π) (hE : ∀ e : (xM), x = Sum.inr (Sum.inl e) → xMach G π J_X5_line (d + 3) C Z 91 [] [] e Q) (hC : ∀ e : (Nat × Nat × Int32 × xM), x = Sum.inr (Sum.inr e) → xMach G π J_X5_line (d + 3) C Z 7 [(0, .ref e.1), (1, .ref e.2.1), (2, .int e.2.2.1)] [] e.2.2.2 Q) : xMach G π J_X5_line (d + 3) C Z 7 [(0, .ref l0), (1, .ref l1), (2, .int l2)] [] σ Q := by
  have hf : (gI σ l1 9 7).bind (fun x3 => (if x3 ≤ l2 then some (Sum.inr (Sum.inl σ)) else (if xk σ l1 9 = true then (f_X9_nodeAt σ l1 l2).bind (fun p4 => (if l2 ≤ (0 : Int32) then f_X5_line_j31 σ l0 l1 l2 p4 else (if xk σ l0 5 = true then (f_X5_put σ l0 (32 : Int32)).bind (fun p19 => f_X5_line_j31 p19 l0 l1 l2 p4) else none))) else none))) = some x := hf
  refine xm_iload_n dX5_line_7 rfl ?_
  refine xm_aload_n dX5_line_8 rfl ?_
  refine xb_getI (a := l1) (c := 9) (k := 7) dX5_line_9 xcl9 (by decide) xw_221 rfl hf (fun x3 ex3 hf => ?_)
  refine xb_icmp_ge 91 dX5_line_12 (by decide) hf (fun c hf => ?_) (fun c hf => ?_)
  · cases hf
    exact xm_sub [] rfl (hE _ rfl)
  · refine xm_aload_n dX5_line_15 rfl ?_
    refine xm_iload_n dX5_line_16 rfl ?_
    refine xb_if hf (fun hb hf => ?_) (fun _ q => nomatch q)
    obtain ⟨p4, ep4, hf⟩ := xbind hf
    refine xb_callV (As := [.int l2]) (v0 := (some (.int p4))) (τ0 := σ) dX5_line_17 (xc_X9_nodeAt _ _) xcl9 xw_1573 xw_1132 xw_1133 hb rfl (Nat.le_of_ble_eq_true rfl) rfl (Nat.le_of_ble_eq_true rfl) (fun Q1 hq => m_X9_nodeAt (d := d + 2) ep4 (fun g hg => by subst hg; exact hq)) ?_
    refine xm_istore_n dX5_line_20 (by decide) (xm_stL (L' := [(3, .int p4), (0, .ref l0), (1, .ref l1), (2, .int l2)]) rfl ?_)
    refine xm_iload_n dX5_line_21 rfl ?_
    refine xb_if_le 31 dX5_line_22 (by decide) hf (fun c hf => ?_) (fun c hf => ?_)
    · exact xm_sub [1, 2, 3, 0] rfl (L_X5_line_j31 σ l0 l1 l2 p4 hf hR hE hC)
    · refine xm_aload_n dX5_line_25 rfl ?_
      refine xm_bipush dX5_line_26 (v := 32) (by decide) ?_
      refine xb_if hf (fun hb hf => ?_) (fun _ q => nomatch q)
      obtain ⟨p19, ep19, hf⟩ := xbind hf
      refine xb_callV (As := [.int (32 : Int32)]) (v0 := none) (τ0 := p19) dX5_line_28 (xc_X5_put _ _) xcl5 xw_1324 xw_1326 xs_50 hb rfl (Nat.le_of_ble_eq_true rfl) rfl (Nat.le_of_ble_eq_true rfl) (fun Q1 hq => m_X5_put (d := d + 2) ep19 (fun g hg => by subst hg; exact hq)) ?_
      exact xm_sub [1, 2, 3, 0] rfl (L_X5_line_j31 p19 l0 l1 l2 p4 hf hR hE hC)
theorem L_X5_line_l7 {G : xG} {π : Nat → Nat} {d C Z : Nat} {Q : xQ} {s0 : (Nat × Nat × Int32 × xM)} {x : (xM ⊕ (xM))} (h1 : xloop (f_X5_line_s7) xF s0 = some x) (hR : ∀ g, x = Sum.inl g → Q (.inl none) (g) π) (hE : ∀ e : (xM), x = Sum.inr e → xMach G π J_X5_line (d + 3) C Z 91 [] [] e Q) : xMach G π J_X5_line (d + 3) C Z 7 [(0, .ref s0.1), (1, .ref s0.2.1), (2, .int s0.2.2.1)] [] s0.2.2.2 Q := by
  refine xloop_run (M := (fun s : (Nat × Nat × Int32 × xM) => xMach G π J_X5_line (d + 3) C Z 7 [(0, .ref s.1), (1, .ref s.2.1), (2, .int s.2.2.1)] [] s.2.2.2 Q)) (r := x) ?_ xF _ h1
  intro s y hs hx
  exact L_X5_line_s7 s.2.2.2 s.1 s.2.1 s.2.2.1 (x := y) hs (fun g hg => by subst hg; exact hR g hx) (fun e he => by subst he; exact hE e hx) (fun e he => by subst he; exact hx)
def f_X5_line_j91 (σ : xM)  : Option xM :=
  some σ
set_option maxHeartbeats 4000000 in
set_option maxRecDepth 20000 in
theorem L_X5_line_j91 {G : xG} {π : Nat → Nat} {d C Z : Nat} {Q : xQ} (σ : xM)  {x : xM} (hf : f_X5_line_j91 σ = some x) (hR : ∀ g, x = g → Q (.inl none) (g) π) : xMach G π J_X5_line (d + 3) C Z 91 [] [] σ Q := by
  unfold f_X5_line_j91 at hf
  cases hf
  exact xm_vret dX5_line_91 rfl (hR _ rfl)
def f_X5_line (σ : xM) (l0 : Nat) (l1 : Nat) : Option xM :=
  (sI σ l0 5 3 (0 : Int32)).bind (fun σ1 => xlet (0 : Int32) (fun v2 => (xloop (f_X5_line_s7 ) xF (l0, l1, v2, σ1)).bind (Sum.elim (fun g => some g) (fun e => f_X5_line_j91 e))))
set_option maxHeartbeats 4000000 in
set_option maxRecDepth 20000 in
theorem m_X5_line {G : xG} {π : Nat → Nat} {d C Z : Nat} {Q : xQ} {σ : xM} {l0 : Nat} {l1 : Nat} {x : xM} (hf : f_X5_line σ l0 l1 = some x) (hR : ∀ g, x = g → Q (.inl none) (g) π) : xMach G π J_X5_line (d + 3) C Z 0 (lv_args 0 [.ref l0, .ref l1]) [] σ Q := by
  unfold f_X5_line at hf
  refine xm_stL (L' := [(0, .ref l0), (1, .ref l1)]) rfl ?_
  refine xm_aload_n dX5_line_0 rfl ?_
  refine xm_iconst dX5_line_1 (v := 0) (by decide) ?_
  refine xb_putI (a := l0) (c := 5) (k := 3) dX5_line_2 xcl5 (by decide) xw_401 rfl rfl hf (fun σ1 eσ1 hf => ?_)
  refine xm_iconst dX5_line_5 (v := 0) (by decide) ?_
  refine xb_topi hf (fun v2 ev2 hf => ?_)
  refine xm_istore_n dX5_line_6 (by decide) (xm_stL (L' := [(2, .int v2), (0, .ref l0), (1, .ref l1)]) rfl ?_)
  obtain ⟨o, h1, hf⟩ := xbind hf
  refine xm_sub [1, 2, 0] rfl (L_X5_line_l7  h1 (fun g hg => ?_) (fun e he => ?_))
  · subst hg
    cases hf
    exact hR _ rfl
  · subst he
    rw [Sum.elim_inr] at hf
    have hf : f_X5_line_j91 e = some _ := hf
    exact xm_sub [] rfl (L_X5_line_j91 e hf hR)
-- Rankwise$Printer.digits(LRankwise$Whole;I)V
def f_X5_digits_j91 (σ : xM) (l0 : Nat) (l2 : Int32) (l3 : Int32) (l4 : Int32) (s0 : Int32) (s1 : Nat) : Option (xM ⊕ ((Nat × Int32 × xM) ⊕ (Nat × Int32 × Int32 × Int32 × xM))) :=
  (if xk σ s1 5 = true then (f_X5_put σ s1 s0).bind (fun p9 => xlet (l4 + (1 : Int32)) (fun v10 => some (Sum.inr (Sum.inr (l0, l2, l3, v10, p9))))) else none)
set_option maxHeartbeats 4000000 in
set_option maxRecDepth 20000 in
theorem L_X5_digits_j91 {G : xG} {π : Nat → Nat} {d C Z : Nat} {Q : xQ} (σ : xM) (l0 : Nat) (l2 : Int32) (l3 : Int32) (l4 : Int32) (s0 : Int32) (s1 : Nat) {x : (xM ⊕ ((Nat × Int32 × xM) ⊕ (Nat × Int32 × Int32 × Int32 × xM)))} (hf : f_X5_digits_j91 σ l0 l2 l3 l4 s0 s1 = some x) (hR : ∀ g, x = Sum.inl (g) → Q (.inl none) (g) π) (hE : ∀ e : (Nat × Int32 × xM), x = Sum.inr (Sum.inl e) → xMach G π J_X5_digits (d + 2) C Z 100 [(0, .ref e.1), (3, .int e.2.1)] [] e.2.2 Q) (hC : ∀ e : (Nat × Int32 × Int32 × Int32 × xM), x = Sum.inr (Sum.inr e) → xMach G π J_X5_digits (d + 2) C Z 34 [(0, .ref e.1), (2, .int e.2.1), (3, .int e.2.2.1), (4, .int e.2.2.2.1)] [] e.2.2.2.2 Q) : xMach G π J_X5_digits (d + 2) C Z 91 [(0, .ref l0), (2, .int l2), (3, .int l3), (4, .int l4)] [.int s0, .ref s1] σ Q := by
  unfold f_X5_digits_j91 at hf
  refine xb_if hf (fun hb hf => ?_) (fun _ q => nomatch q)
  obtain ⟨p9, ep9, hf⟩ := xbind hf
  refine xb_callV (As := [.int s0]) (v0 := none) (τ0 := p9) dX5_digits_91 (xc_X5_put _ _) xcl5 xw_1324 xw_1326 xs_50 hb rfl (Nat.le_of_ble_eq_true rfl) rfl (Nat.le_of_ble_eq_true rfl) (fun Q1 hq => m_X5_put (d := d + 1) ep9 (fun g hg => by subst hg; exact hq)) ?_
  refine xb_iinc dX5_digits_94 rfl (by decide) (by decide) hf (fun v10 ev10 hf => xm_stL (L' := [(4, .int v10), (0, .ref l0), (2, .int l2), (3, .int l3)]) rfl ?_)
  refine xm_goto 34 dX5_digits_97 (by decide) ?_
  cases hf
  exact xm_sub [1, 2, 3, 0] rfl (hC _ rfl)
def f_X5_digits_j57 (σ : xM) (l0 : Nat) (l2 : Int32) (l3 : Int32) (l4 : Int32) : Option (xM ⊕ ((Nat × Int32 × xM) ⊕ (Nat × Int32 × Int32 × Int32 × xM))) :=
  (gR σ l0 5 1).bind (fun x7 => (if xk σ x7 10 = true then (f_X10_shrink σ x7 l2).bind (fun p8 => (if (10 : Int32) ≤ p8.1 then f_X5_digits_j91 p8.2 l0 l2 l3 l4 (((97 : Int32) + p8.1) - (10 : Int32)) l0 else f_X5_digits_j91 p8.2 l0 l2 l3 l4 ((48 : Int32) + p8.1) l0)) else none))
set_option maxHeartbeats 4000000 in
set_option maxRecDepth 20000 in
theorem L_X5_digits_j57 {G : xG} {π : Nat → Nat} {d C Z : Nat} {Q : xQ} (σ : xM) (l0 : Nat) (l2 : Int32) (l3 : Int32) (l4 : Int32) {x : (xM ⊕ ((Nat × Int32 × xM) ⊕ (Nat × Int32 × Int32 × Int32 × xM)))} (hf : f_X5_digits_j57 σ l0 l2 l3 l4 = some x) (hR : ∀ g, x = Sum.inl (g) → Q (.inl none) (g) π) (hE : ∀ e : (Nat × Int32 × xM), x = Sum.inr (Sum.inl e) → xMach G π J_X5_digits (d + 2) C Z 100 [(0, .ref e.1), (3, .int e.2.1)] [] e.2.2 Q) (hC : ∀ e : (Nat × Int32 × Int32 × Int32 × xM), x = Sum.inr (Sum.inr e) → xMach G π J_X5_digits (d + 2) C Z 34 [(0, .ref e.1), (2, .int e.2.1), (3, .int e.2.2.1), (4, .int e.2.2.2.1)] [] e.2.2.2.2 Q) : xMach G π J_X5_digits (d + 2) C Z 57 [(0, .ref l0), (2, .int l2), (3, .int l3), (4, .int l4)] [] σ Q := by
  unfold f_X5_digits_j57 at hf
  refine xm_aload_n dX5_digits_57 rfl ?_
  refine xb_getR (a := l0) (c := 5) (k := 1) dX5_digits_58 xcl5 (by decide) xw_398 rfl hf (fun x7 ex7 hf => ?_)
  refine xm_iload_n dX5_digits_61 rfl ?_
  refine xb_if hf (fun hb hf => ?_) (fun _ q => nomatch q)
  obtain ⟨p8, ep8, hf⟩ := xbind hf
  refine xb_callV (As := [.int l2]) (v0 := (some (.int p8.1))) (τ0 := p8.2) dX5_digits_62 (xc_X10_shrink _ _) xcl10 xw_1555 xw_1103 xw_1104 hb rfl (Nat.le_of_ble_eq_true rfl) rfl (Nat.le_of_ble_eq_true rfl) (fun Q1 hq => m_X10_shrink (d := d + 1) ep8 (fun g hg => by subst hg; exact hq)) ?_
  refine xm_istore dX5_digits_65 (by decide) (xm_stL (L' := [(5, .int p8.1), (0, .ref l0), (2, .int l2), (3, .int l3), (4, .int l4)]) rfl ?_)
  refine xm_aload_n dX5_digits_67 rfl ?_
  refine xm_iload dX5_digits_68 rfl ?_
  refine xm_bipush dX5_digits_70 (v := 10) (by decide) ?_
  refine xb_icmp_ge 83 dX5_digits_72 (by decide) hf (fun c hf => ?_) (fun c hf => ?_)
  · refine xm_bipush dX5_digits_83 (v := 97) (by decide) ?_
    refine xm_iload dX5_digits_85 rfl ?_
    refine xm_iadd dX5_digits_87 ?_
    refine xm_bipush dX5_digits_88 (v := 10) (by decide) ?_
    refine xm_isub dX5_digits_90 ?_
    exact xm_sub [1, 2, 3, 4] rfl (L_X5_digits_j91 p8.2 l0 l2 l3 l4 (((97 : Int32) + p8.1) - (10 : Int32)) l0 hf hR hE hC)
  · refine xm_bipush dX5_digits_75 (v := 48) (by decide) ?_
    refine xm_iload dX5_digits_77 rfl ?_
    refine xm_iadd dX5_digits_79 ?_
    refine xm_goto 91 dX5_digits_80 (by decide) ?_
    exact xm_sub [1, 2, 3, 4] rfl (L_X5_digits_j91 p8.2 l0 l2 l3 l4 ((48 : Int32) + p8.1) l0 hf hR hE hC)
def f_X5_digits_s34 (s : (Nat × Int32 × Int32 × Int32 × xM)) : Option (xM ⊕ ((Nat × Int32 × xM) ⊕ (Nat × Int32 × Int32 × Int32 × xM))) :=
  xlet s.1 (fun l0 => xlet s.2.1 (fun l2 => xlet s.2.2.1 (fun l3 => xlet s.2.2.2.1 (fun l4 => xlet s.2.2.2.2 (fun σ => (if (1000 : Int32) ≤ l4 then some (Sum.inr (Sum.inl (l0, l3, σ))) else (if l4 = (0 : Int32) then f_X5_digits_j57 σ l0 l2 l3 l4 else (gR σ l0 5 1).bind (fun x11 => (if xk σ x11 10 = true then (f_X10_isZero σ x11).bind (fun p12 => (if p12 = (0 : Int32) then f_X5_digits_j57 σ l0 l2 l3 l4 else some (Sum.inr (Sum.inl (l0, l3, σ))))) else none)))))))))
set_option maxHeartbeats 4000000 in
set_option maxRecDepth 20000 in
theorem L_X5_digits_s34 {G : xG} {π : Nat → Nat} {d C Z : Nat} {Q : xQ} (σ : xM) (l0 : Nat) (l2 : Int32) (l3 : Int32) (l4 : Int32) {x : (xM ⊕ ((Nat × Int32 × xM) ⊕ (Nat × Int32 × Int32 × Int32 × xM)))} (hf : f_X5_digits_s34 (l0, l2, l3, l4, σ) = some x) (hR : ∀ g, x = Sum.inl (g) → Q (.inl none) (g) π) (hE : ∀ e : (Nat × Int32 × xM), x = Sum.inr (Sum.inl e) → xMach G π J_X5_digits (d + 2) C Z 100 [(0, .ref e.1), (3, .int e.2.1)] [] e.2.2 Q) (hC : ∀ e : (Nat × Int32 × Int32 × Int32 × xM), x = Sum.inr (Sum.inr e) → xMach G π J_X5_digits (d + 2) C Z 34 [(0, .ref e.1), (2, .int e.2.1), (3, .int e.2.2.1), (4, .int e.2.2.2.1)] [] e.2.2.2.2 Q) : xMach G π J_X5_digits (d + 2) C Z 34 [(0, .ref l0), (2, .int l2), (3, .int l3), (4, .int l4)] [] σ Q := by
  have hf : (if (1000 : Int32) ≤ l4 then some (Sum.inr (Sum.inl (l0, l3, σ))) else (if l4 = (0 : Int32) then f_X5_digits_j57 σ l0 l2 l3 l4 else (gR σ l0 5 1).bind (fun x11 => (if xk σ x11 10 = true then (f_X10_isZero σ x11).bind (fun p12 => (if p12 = (0 : Int32) then f_X5_digits_j57 σ l0 l2 l3 l4 else some (Sum.inr (Sum.inl (l0, l3, σ))))) else none)))) = some x := hf
  refine xm_iload dX5_digits_34 rfl ?_
  refine xm_sipush dX5_digits_36 (v := 1000) (by decide) ?_
  refine xb_icmp_ge 100 dX5_digits_39 (by decide) hf (fun c hf => ?_) (fun c hf => ?_)
  · cases hf
    exact xm_sub [0, 2] rfl (hE _ rfl)
  · refine xm_iload dX5_digits_42 rfl ?_
    refine xb_if_eq 57 dX5_digits_44 (by decide) hf (fun c hf => ?_) (fun c hf => ?_)
    · exact xm_sub [0, 1, 2, 3] rfl (L_X5_digits_j57 σ l0 l2 l3 l4 hf hR hE hC)
    · refine xm_aload_n dX5_digits_47 rfl ?_
      refine xb_getR (a := l0) (c := 5) (k := 1) dX5_digits_48 xcl5 (by decide) xw_398 rfl hf (fun x11 ex11 hf => ?_)
      refine xb_if hf (fun hb hf => ?_) (fun _ q => nomatch q)
      obtain ⟨p12, ep12, hf⟩ := xbind hf
      refine xb_callV (As := []) (v0 := (some (.int p12))) (τ0 := σ) dX5_digits_51 (xc_X10_isZero _ _) xcl10 xw_1554 xw_994 xw_995 hb rfl (Nat.le_of_ble_eq_true rfl) rfl (Nat.le_of_ble_eq_true rfl) (fun Q1 hq => m_X10_isZero (d := d + 1) ep12 (fun g hg => by subst hg; exact hq)) ?_
      refine xb_if_ne 100 dX5_digits_54 (by decide) hf (fun c hf => ?_) (fun c hf => ?_)
      · cases hf
        exact xm_sub [0, 2] rfl (hE _ rfl)
      · exact xm_sub [0, 1, 2, 3] rfl (L_X5_digits_j57 σ l0 l2 l3 l4 hf hR hE hC)
theorem L_X5_digits_l34 {G : xG} {π : Nat → Nat} {d C Z : Nat} {Q : xQ} {s0 : (Nat × Int32 × Int32 × Int32 × xM)} {x : (xM ⊕ (Nat × Int32 × xM))} (h1 : xloop (f_X5_digits_s34) xF s0 = some x) (hR : ∀ g, x = Sum.inl g → Q (.inl none) (g) π) (hE : ∀ e : (Nat × Int32 × xM), x = Sum.inr e → xMach G π J_X5_digits (d + 2) C Z 100 [(0, .ref e.1), (3, .int e.2.1)] [] e.2.2 Q) : xMach G π J_X5_digits (d + 2) C Z 34 [(0, .ref s0.1), (2, .int s0.2.1), (3, .int s0.2.2.1), (4, .int s0.2.2.2.1)] [] s0.2.2.2.2 Q := by
  refine xloop_run (M := (fun s : (Nat × Int32 × Int32 × Int32 × xM) => xMach G π J_X5_digits (d + 2) C Z 34 [(0, .ref s.1), (2, .int s.2.1), (3, .int s.2.2.1), (4, .int s.2.2.2.1)] [] s.2.2.2.2 Q)) (r := x) ?_ xF _ h1
  intro s y hs hx
  exact L_X5_digits_s34 s.2.2.2.2 s.1 s.2.1 s.2.2.1 s.2.2.2.1 (x := y) hs (fun g hg => by subst hg; exact hR g hx) (fun e he => by subst he; exact hE e hx) (fun e he => by subst he; exact hx)
def f_X5_digits_s111 (s : (Nat × Int32 × Int32 × xM)) : Option (xM ⊕ ((xM) ⊕ (Nat × Int32 × Int32 × xM))) :=
  xlet s.1 (fun l0 => xlet s.2.1 (fun l4 => xlet s.2.2.1 (fun l5 => xlet s.2.2.2 (fun σ => (if l5 ≤ l4 then some (Sum.inr (Sum.inl σ)) else (gR σ l0 5 2).bind (fun x15 => (aI σ x15 13 l4).bind (fun x16 => (gR σ l0 5 2).bind (fun x17 => (gR σ l0 5 2).bind (fun x18 => (aI σ x18 13 l5).bind (fun x19 => (wC σ x17 l4 x19).bind (fun σ20 => (gR σ20 l0 5 2).bind (fun x21 => (wC σ20 x21 l5 x16).bind (fun σ22 => xlet (l4 + (1 : Int32)) (fun v23 => xlet (l5 + (-1 : Int32)) (fun v24 => some (Sum.inr (Sum.inr (l0, v23, v24, σ22))))))))))))))))))
set_option maxHeartbeats 4000000 in
set_option maxRecDepth 20000 in
theorem L_X5_digits_s111 {G : xG} {π : Nat → Nat} {d C Z : Nat} {Q : xQ} (σ : xM) (l0 : Nat) (l4 : Int32) (l5 : Int32) {x : (xM ⊕ ((xM) ⊕ (Nat × Int32 × Int32 × xM)))} (hf : f_X5_digits_s111 (l0, l4, l5, σ) = some x) (hR : ∀ g, x = Sum.inl (g) → Q (.inl none) (g) π) (hE : ∀ e : (xM), x = Sum.inr (Sum.inl e) → xMach G π J_X5_digits (d + 2) C Z 159 [] [] e Q) (hC : ∀ e : (Nat × Int32 × Int32 × xM), x = Sum.inr (Sum.inr e) → xMach G π J_X5_digits (d + 2) C Z 111 [(0, .ref e.1), (4, .int e.2.1), (5, .int e.2.2.1)] [] e.2.2.2 Q) : xMach G π J_X5_digits (d + 2) C Z 111 [(0, .ref l0), (4, .int l4), (5, .int l5)] [] σ Q := by
  have hf : (if l5 ≤ l4 then some (Sum.inr (Sum.inl σ)) else (gR σ l0 5 2).bind (fun x15 => (aI σ x15 13 l4).bind (fun x16 => (gR σ l0 5 2).bind (fun x17 => (gR σ l0 5 2).bind (fun x18 => (aI σ x18 13 l5).bind (fun x19 => (wC σ x17 l4 x19).bind (fun σ20 => (gR σ20 l0 5 2).bind (fun x21 => (wC σ20 x21 l5 x16).bind (fun σ22 => xlet (l4 + (1 : Int32)) (fun v23 => xlet (l5 + (-1 : Int32)) (fun v24 => some (Sum.inr (Sum.inr (l0, v23, v24, σ22)))))))))))))) = some x := hf
  refine xm_iload dX5_digits_111 rfl ?_
  refine xm_iload dX5_digits_113 rfl ?_
  refine xb_icmp_ge 159 dX5_digits_115 (by decide) hf (fun c hf => ?_) (fun c hf => ?_)
  · cases hf
    exact xm_sub [] rfl (hE _ rfl)
  · refine xm_aload_n dX5_digits_118 rfl ?_
    refine xb_getR (a := l0) (c := 5) (k := 2) dX5_digits_119 xcl5 (by decide) xw_399 rfl hf (fun x15 ex15 hf => ?_)
    refine xm_iload dX5_digits_122 rfl ?_
    refine xb_cald dX5_digits_124 hf (fun x16 ex16 hf => ?_)
    refine xm_istore dX5_digits_125 (by decide) (xm_stL (L' := [(6, .int x16), (0, .ref l0), (4, .int l4), (5, .int l5)]) rfl ?_)
    refine xm_aload_n dX5_digits_127 rfl ?_
    refine xb_getR (a := l0) (c := 5) (k := 2) dX5_digits_128 xcl5 (by decide) xw_399 rfl hf (fun x17 ex17 hf => ?_)
    refine xm_iload dX5_digits_131 rfl ?_
    refine xm_aload_n dX5_digits_133 rfl ?_
    refine xb_getR (a := l0) (c := 5) (k := 2) dX5_digits_134 xcl5 (by decide) xw_399 rfl hf (fun x18 ex18 hf => ?_)
    refine xm_iload dX5_digits_137 rfl ?_
    refine xb_cald dX5_digits_139 hf (fun x19 ex19 hf => ?_)
    refine xb_cast dX5_digits_140 hf (fun σ20 eσ20 hf => ?_)
    refine xm_aload_n dX5_digits_141 rfl ?_
    refine xb_getR (a := l0) (c := 5) (k := 2) dX5_digits_142 xcl5 (by decide) xw_399 rfl hf (fun x21 ex21 hf => ?_)
    refine xm_iload dX5_digits_145 rfl ?_
    refine xm_iload dX5_digits_147 rfl ?_
    refine xb_cast dX5_digits_149 hf (fun σ22 eσ22 hf => ?_)
    refine xb_iinc dX5_digits_150 rfl (by decide) (by decide) hf (fun v23 ev23 hf => xm_stL (L' := [(4, .int v23), (6, .int x16), (0, .ref l0), (5, .int l5)]) rfl ?_)
    refine xb_iinc dX5_digits_153 rfl (by decide) (by decide) hf (fun v24 ev24 hf => xm_stL (L' := [(5, .int v24), (4, .int v23), (6, .int x16), (0, .ref l0)]) rfl ?_)
    refine xm_goto 111 dX5_digits_156 (by decide) ?_
    cases hf
    exact xm_sub [3, 1, 0] rfl (hC _ rfl)
theorem L_X5_digits_l111 {G : xG} {π : Nat → Nat} {d C Z : Nat} {Q : xQ} {s0 : (Nat × Int32 × Int32 × xM)} {x : (xM ⊕ (xM))} (h1 : xloop (f_X5_digits_s111) xF s0 = some x) (hR : ∀ g, x = Sum.inl g → Q (.inl none) (g) π) (hE : ∀ e : (xM), x = Sum.inr e → xMach G π J_X5_digits (d + 2) C Z 159 [] [] e Q) : xMach G π J_X5_digits (d + 2) C Z 111 [(0, .ref s0.1), (4, .int s0.2.1), (5, .int s0.2.2.1)] [] s0.2.2.2 Q := by
  refine xloop_run (M := (fun s : (Nat × Int32 × Int32 × xM) => xMach G π J_X5_digits (d + 2) C Z 111 [(0, .ref s.1), (4, .int s.2.1), (5, .int s.2.2.1)] [] s.2.2.2 Q)) (r := x) ?_ xF _ h1
  intro s y hs hx
  exact L_X5_digits_s111 s.2.2.2 s.1 s.2.1 s.2.2.1 (x := y) hs (fun g hg => by subst hg; exact hR g hx) (fun e he => by subst he; exact hE e hx) (fun e he => by subst he; exact hx)
def f_X5_digits_j159 (σ : xM)  : Option xM :=
  some σ
set_option maxHeartbeats 4000000 in
set_option maxRecDepth 20000 in
theorem L_X5_digits_j159 {G : xG} {π : Nat → Nat} {d C Z : Nat} {Q : xQ} (σ : xM)  {x : xM} (hf : f_X5_digits_j159 σ = some x) (hR : ∀ g, x = g → Q (.inl none) (g) π) : xMach G π J_X5_digits (d + 2) C Z 159 [] [] σ Q := by
  unfold f_X5_digits_j159 at hf
  cases hf
  exact xm_vret dX5_digits_159 rfl (hR _ rfl)
def f_X5_digits_j100 (σ : xM) (l0 : Nat) (l3 : Int32) : Option xM :=
  (gI σ l0 5 3).bind (fun x13 => xlet (x13 - (1 : Int32)) (fun v14 => (xloop (f_X5_digits_s111 ) xF (l0, l3, v14, σ)).bind (Sum.elim (fun g => some g) (fun e => f_X5_digits_j159 e))))
set_option maxHeartbeats 4000000 in
set_option maxRecDepth 20000 in
theorem L_X5_digits_j100 {G : xG} {π : Nat → Nat} {d C Z : Nat} {Q : xQ} (σ : xM) (l0 : Nat) (l3 : Int32) {x : xM} (hf : f_X5_digits_j100 σ l0 l3 = some x) (hR : ∀ g, x = g → Q (.inl none) (g) π) : xMach G π J_X5_digits (d + 2) C Z 100 [(0, .ref l0), (3, .int l3)] [] σ Q := by
  unfold f_X5_digits_j100 at hf
  refine xm_iload_n dX5_digits_100 rfl ?_
  refine xm_istore dX5_digits_101 (by decide) (xm_stL (L' := [(4, .int l3), (0, .ref l0), (3, .int l3)]) rfl ?_)
  refine xm_aload_n dX5_digits_103 rfl ?_
  refine xb_getI (a := l0) (c := 5) (k := 3) dX5_digits_104 xcl5 (by decide) xw_401 rfl hf (fun x13 ex13 hf => ?_)
  refine xm_iconst dX5_digits_107 (v := 1) (by decide) ?_
  refine xm_isub dX5_digits_108 ?_
  refine xb_topi hf (fun v14 ev14 hf => ?_)
  refine xm_istore dX5_digits_109 (by decide) (xm_stL (L' := [(5, .int v14), (4, .int l3), (0, .ref l0), (3, .int l3)]) rfl ?_)
  obtain ⟨o, h1, hf⟩ := xbind hf
  refine xm_sub [2, 1, 0] rfl (L_X5_digits_l111  h1 (fun g hg => ?_) (fun e he => ?_))
  · subst hg
    cases hf
    exact hR _ rfl
  · subst he
    rw [Sum.elim_inr] at hf
    have hf : f_X5_digits_j159 e = some _ := hf
    exact xm_sub [] rfl (L_X5_digits_j159 e hf hR)
def f_X5_digits_j18 (σ : xM) (l0 : Nat) (l1 : Nat) (l2 : Int32) : Option xM :=
  (gI σ l0 5 3).bind (fun x3 => (gR σ l0 5 1).bind (fun x4 => (if xk σ x4 10 = true then (f_X10_copy σ x4 l1).bind (fun p5 => xlet (0 : Int32) (fun v6 => (xloop (f_X5_digits_s34 ) xF (l0, l2, x3, v6, p5)).bind (Sum.elim (fun g => some g) (fun e => f_X5_digits_j100 e.2.2 e.1 e.2.1)))) else none)))
set_option maxHeartbeats 4000000 in
set_option maxRecDepth 20000 in
theorem L_X5_digits_j18 {G : xG} {π : Nat → Nat} {d C Z : Nat} {Q : xQ} (σ : xM) (l0 : Nat) (l1 : Nat) (l2 : Int32) {x : xM} (hf : f_X5_digits_j18 σ l0 l1 l2 = some x) (hR : ∀ g, x = g → Q (.inl none) (g) π) : xMach G π J_X5_digits (d + 2) C Z 18 [(0, .ref l0), (1, .ref l1), (2, .int l2)] [] σ Q := by
  unfold f_X5_digits_j18 at hf
  refine xm_aload_n dX5_digits_18 rfl ?_
  refine xb_getI (a := l0) (c := 5) (k := 3) dX5_digits_19 xcl5 (by decide) xw_401 rfl hf (fun x3 ex3 hf => ?_)
  refine xm_istore_n dX5_digits_22 (by decide) (xm_stL (L' := [(3, .int x3), (0, .ref l0), (1, .ref l1), (2, .int l2)]) rfl ?_)
  refine xm_aload_n dX5_digits_23 rfl ?_
  refine xb_getR (a := l0) (c := 5) (k := 1) dX5_digits_24 xcl5 (by decide) xw_398 rfl hf (fun x4 ex4 hf => ?_)
  refine xm_aload_n dX5_digits_27 rfl ?_
  refine xb_if hf (fun hb hf => ?_) (fun _ q => nomatch q)
  obtain ⟨p5, ep5, hf⟩ := xbind hf
  refine xb_callV (As := [.ref l1]) (v0 := none) (τ0 := p5) dX5_digits_28 (xc_X10_copy _ _) xcl10 xw_1553 xw_969 xw_970 hb rfl (Nat.le_of_ble_eq_true rfl) rfl (Nat.le_of_ble_eq_true rfl) (fun Q1 hq => m_X10_copy (d := d + 0) ep5 (fun g hg => by subst hg; exact hq)) ?_
  refine xm_iconst dX5_digits_31 (v := 0) (by decide) ?_
  refine xb_topi hf (fun v6 ev6 hf => ?_)
  refine xm_istore dX5_digits_32 (by decide) (xm_stL (L' := [(4, .int v6), (3, .int x3), (0, .ref l0), (1, .ref l1), (2, .int l2)]) rfl ?_)
  obtain ⟨o, h1, hf⟩ := xbind hf
  refine xm_sub [2, 4, 1, 0] rfl (L_X5_digits_l34  h1 (fun g hg => ?_) (fun e he => ?_))
  · subst hg
    cases hf
    exact hR _ rfl
  · subst he
    rw [Sum.elim_inr] at hf
    have hf : f_X5_digits_j100 e.2.2 e.1 e.2.1 = some _ := hf
    exact xm_sub [0, 1] rfl (L_X5_digits_j100 e.2.2 e.1 e.2.1 hf hR)
def f_X5_digits (σ : xM) (l0 : Nat) (l1 : Nat) (l2 : Int32) : Option xM :=
  (sI σ l0 5 3 (0 : Int32)).bind (fun σ1 => (gI σ1 l1 10 2).bind (fun x2 => (if x2 = (0 : Int32) then f_X5_digits_j18 σ1 l0 l1 l2 else (if xk σ1 l0 5 = true then (f_X5_put σ1 l0 (45 : Int32)).bind (fun p25 => f_X5_digits_j18 p25 l0 l1 l2) else none))))
set_option maxHeartbeats 4000000 in
set_option maxRecDepth 20000 in
theorem m_X5_digits {G : xG} {π : Nat → Nat} {d C Z : Nat} {Q : xQ} {σ : xM} {l0 : Nat} {l1 : Nat} {l2 : Int32} {x : xM} (hf : f_X5_digits σ l0 l1 l2 = some x) (hR : ∀ g, x = g → Q (.inl none) (g) π) : xMach G π J_X5_digits (d + 2) C Z 0 (lv_args 0 [.ref l0, .ref l1, .int l2]) [] σ Q := by
  unfold f_X5_digits at hf
  refine xm_stL (L' := [(0, .ref l0), (1, .ref l1), (2, .int l2)]) rfl ?_
  refine xm_aload_n dX5_digits_0 rfl ?_
  refine xm_iconst dX5_digits_1 (v := 0) (by decide) ?_
  refine xb_putI (a := l0) (c := 5) (k := 3) dX5_digits_2 xcl5 (by decide) xw_401 rfl rfl hf (fun σ1 eσ1 hf => ?_)
  refine xm_aload_n dX5_digits_5 rfl ?_
  refine xb_getIN (host := "Rankwise") (a := l1) (c := 10) (k := 2) dX5_digits_6 xcl10 (by decide) (by decide +kernel) rfl hf (fun x2 ex2 hf => ?_)
  refine xb_if_eq 18 dX5_digits_9 (by decide) hf (fun c hf => ?_) (fun c hf => ?_)
  · exact xm_sub [0, 1, 2] rfl (L_X5_digits_j18 σ1 l0 l1 l2 hf hR)
  · refine xm_aload_n dX5_digits_12 rfl ?_
    refine xm_bipush dX5_digits_13 (v := 45) (by decide) ?_
    refine xb_if hf (fun hb hf => ?_) (fun _ q => nomatch q)
    obtain ⟨p25, ep25, hf⟩ := xbind hf
    refine xb_callV (As := [.int (45 : Int32)]) (v0 := none) (τ0 := p25) dX5_digits_15 (xc_X5_put _ _) xcl5 xw_1324 xw_1326 xs_50 hb rfl (Nat.le_of_ble_eq_true rfl) rfl (Nat.le_of_ble_eq_true rfl) (fun Q1 hq => m_X5_put (d := d + 1) ep25 (fun g hg => by subst hg; exact hq)) ?_
    exact xm_sub [0, 1, 2] rfl (L_X5_digits_j18 p25 l0 l1 l2 hf hR)
