def f_L_types_s3 (s : (Nat × Nat × Int32 × Int32 × xM)) : Option (xM ⊕ ((xM) ⊕ (Nat × Nat × Int32 × Int32 × xM))) :=
  xlet s.1 (fun l0 => xlet s.2.1 (fun l1 => xlet s.2.2.1 (fun l3 => xlet s.2.2.2.1 (fun l4 => xlet s.2.2.2.2 (fun σ => (if l3 ≤ l4 then some (Sum.inr (Sum.inl σ)) else (aI σ l1 14 l4).bind (fun x1 => (if xk σ l0 11 = true then (f_X11_type σ l0 (((x1).toUInt32 % 65536).toInt32)).bind (fun p2 => xlet p2.2 (fun σ4 => Sum.elim (fun w3 => xlet (l4 + (1 : Int32)) (fun v5 => some (Sum.inr (Sum.inr (l0, l1, l3, v5, σ4))))) (fun _ => none) p2.1)) else none))))))))
set_option maxHeartbeats 4000000 in
set_option maxRecDepth 20000 in
theorem L_L_types_s3 {G : xG} {π : Nat → Nat} {d C Z : Nat} {Q : xQ} (σ : xM) (l0 : Nat) (l1 : Nat) (l3 : Int32) (l4 : Int32) {x : (xM ⊕ ((xM) ⊕ (Nat × Nat × Int32 × Int32 × xM)))} (hf : f_L_types_s3 (l0, l1, l3, l4, σ) = some x) (hR : ∀ g, x = Sum.inl (g) → Q (.inl none) (g) π) (hE : ∀ e : (xM), x = Sum.inr (Sum.inl e) → xMach G π J_L_types (d + 8) C Z 25 [] [] e Q) (hC : ∀ e : (Nat × Nat × Int32 × Int32 × xM), x = Sum.inr (Sum.inr e) → xMach G π J_L_types (d + 8) C Z 3 [(0, .ref e.1), (1, .ref e.2.1), (3, .int e.2.2.1), (4, .int e.2.2.2.1)] [] e.2.2.2.2 Q) : xMach G π J_L_types (d + 8) C Z 3 [(0, .ref l0), (1, .ref l1), (3, .int l3), (4, .int l4)] [] σ Q := by
  have hf : (if l3 ≤ l4 then some (Sum.inr (Sum.inl σ)) else (aI σ l1 14 l4).bind (fun x1 => (if xk σ l0 11 = true then (f_X11_type σ l0 (((x1).toUInt32 % 65536).toInt32)).bind (fun p2 => xlet p2.2 (fun σ4 => Sum.elim (fun w3 => xlet (l4 + (1 : Int32)) (fun v5 => some (Sum.inr (Sum.inr (l0, l1, l3, v5, σ4))))) (fun _ => none) p2.1)) else none))) = some x := hf
  refine xm_iload dL_types_3 rfl ?_
  refine xm_iload_n dL_types_5 rfl ?_
  refine xb_icmp_ge 25 dL_types_6 (by decide) hf (fun c hf => ?_) (fun c hf => ?_)
  · cases hf
    exact xm_sub [] rfl (hE _ rfl)
  · refine xm_aload_n dL_types_9 rfl ?_
    refine xm_aload_n dL_types_10 rfl ?_
    refine xm_iload dL_types_11 rfl ?_
    refine xb_iald dL_types_13 hf (fun x1 ex1 hf => ?_)
    refine xm_i2c dL_types_14 rfl ?_
    refine xb_if hf (fun hb hf => ?_) (fun _ q => nomatch q)
    obtain ⟨p2, ep2, hf⟩ := xbind hf
    rcases p2 with ⟨w3 | E, σ4⟩
    · have hf : xlet (l4 + (1 : Int32)) (fun v5 => some (Sum.inr (Sum.inr (l0, l1, l3, v5, σ4)))) = some _ := hf
      refine xb_callV (As := [.int (((x1).toUInt32 % 65536).toInt32)]) (v0 := (some (.int w3))) (τ0 := σ4) dL_types_15 (xc_X11_type _ _) xcl11 xw_632 xw_633 xw_634 hb rfl (Nat.le_of_ble_eq_true rfl) rfl (Nat.le_of_ble_eq_true rfl) (fun Q1 hq => m_X11_type (d := d + 0) ep2 (fun g hg => by subst hg; exact hq)) ?_
      refine xm_pop dL_types_18 rfl ?_
      refine xb_iinc dL_types_19 rfl (by decide) (by decide) hf (fun v5 ev5 hf => xm_stL (L' := [(4, .int v5), (0, .ref l0), (1, .ref l1), (3, .int l3)]) rfl ?_)
      refine xm_goto 3 dL_types_22 (by decide) ?_
      cases hf
      exact xm_sub [1, 2, 3, 0] rfl (hC _ rfl)
    · cases hf
theorem L_L_types_l3 {G : xG} {π : Nat → Nat} {d C Z : Nat} {Q : xQ} {s0 : (Nat × Nat × Int32 × Int32 × xM)} {x : (xM ⊕ (xM))} (h1 : xloop (f_L_types_s3) xF s0 = some x) (hR : ∀ g, x = Sum.inl g → Q (.inl none) (g) π) (hE : ∀ e : (xM), x = Sum.inr e → xMach G π J_L_types (d + 8) C Z 25 [] [] e Q) : xMach G π J_L_types (d + 8) C Z 3 [(0, .ref s0.1), (1, .ref s0.2.1), (3, .int s0.2.2.1), (4, .int s0.2.2.2.1)] [] s0.2.2.2.2 Q := by
  refine xloop_run (M := (fun s : (Nat × Nat × Int32 × Int32 × xM) => xMach G π J_L_types (d + 8) C Z 3 [(0, .ref s.1), (1, .ref s.2.1), (3, .int s.2.2.1), (4, .int s.2.2.2.1)] [] s.2.2.2.2 Q)) (r := x) ?_ xF _ h1
  intro s y hs hx
  exact L_L_types_s3 s.2.2.2.2 s.1 s.2.1 s.2.2.1 s.2.2.2.1 (x := y) hs (fun g hg => by subst hg; exact hR g hx) (fun e he => by subst he; exact hE e hx) (fun e he => by subst he; exact hx)
def f_L_types_j25 (σ : xM)  : Option xM :=
  some σ
set_option maxHeartbeats 4000000 in
set_option maxRecDepth 20000 in
theorem L_L_types_j25 {G : xG} {π : Nat → Nat} {d C Z : Nat} {Q : xQ} (σ : xM)  {x : xM} (hf : f_L_types_j25 σ = some x) (hR : ∀ g, x = g → Q (.inl none) (g) π) : xMach G π J_L_types (d + 8) C Z 25 [] [] σ Q := by
  unfold f_L_types_j25 at hf
  cases hf
  exact xm_vret dL_types_25 rfl (hR _ rfl)
def f_L_types (σ : xM) (l0 : Nat) (l1 : Nat) (l2 : Int32) (l3 : Int32) : Option xM :=
  (xloop (f_L_types_s3 ) xF (l0, l1, l3, l2, σ)).bind (Sum.elim (fun g => some g) (fun e => f_L_types_j25 e))
set_option maxHeartbeats 4000000 in
set_option maxRecDepth 20000 in
theorem m_L_types {G : xG} {π : Nat → Nat} {d C Z : Nat} {Q : xQ} {σ : xM} {l0 : Nat} {l1 : Nat} {l2 : Int32} {l3 : Int32} {x : xM} (hf : f_L_types σ l0 l1 l2 l3 = some x) (hR : ∀ g, x = g → Q (.inl none) (g) π) : xMach G π J_L_types (d + 8) C Z 0 (lv_args 0 [.ref l0, .ref l1, .int l2, .int l3]) [] σ Q := by
  unfold f_L_types at hf
  refine xm_stL (L' := [(0, .ref l0), (1, .ref l1), (2, .int l2), (3, .int l3)]) rfl ?_
  refine xm_iload_n dL_types_0 rfl ?_
  refine xm_istore dL_types_1 (by decide) (xm_stL (L' := [(4, .int l2), (0, .ref l0), (1, .ref l1), (2, .int l2), (3, .int l3)]) rfl ?_)
  obtain ⟨o, h1, hf⟩ := xbind hf
  refine xm_sub [1, 2, 4, 0] rfl (L_L_types_l3  h1 (fun g hg => ?_) (fun e he => ?_))
  · subst hg
    cases hf
    exact hR _ rfl
  · subst he
    rw [Sum.elim_inr] at hf
    have hf : f_L_types_j25 e = some _ := hf
    exact xm_sub [] rfl (L_L_types_j25 e hf hR)
-- law: fill
