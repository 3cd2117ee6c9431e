def f_L_cell_j19 (aC : Nat → ClassId) (σ : xM) (s0 : Int32) : Option Int32 :=
  some s0
set_option maxHeartbeats 4000000 in
set_option maxRecDepth 20000 in
theorem L_L_cell_j19 {G : xG} {π : Nat → Nat} {d C Z : Nat} {Q : xQ} (σ : xM) (s0 : Int32) {x : Int32} (hf : f_L_cell_j19 (G.2.2.1) σ s0 = some x) (hR : ∀ g, x = g → Q (.inl (some (.int g))) (σ) π) : xMach G π J_L_cell (d + 0) C Z 19 [] [.int s0] σ Q := by
  unfold f_L_cell_j19 at hf
  cases hf
  exact xm_iret dL_cell_19 rfl (hR _ rfl)
def f_L_cell (aC : Nat → ClassId) (σ : xM) (l0 : Nat) (l1 : Int32) : Option Int32 :=
  (if l0 = xkX then (if (Int32.ofNat (aC 104)) ≤ l1 then f_L_cell_j19 aC σ (((67867967 : Int32) * l1) + (32452867 : Int32)) else (if l0 = xkX then (xLd aC l1).bind (fun x1 => f_L_cell_j19 aC σ x1) else none)) else none)
set_option maxHeartbeats 4000000 in
set_option maxRecDepth 20000 in
theorem m_L_cell {G : xG} {π : Nat → Nat} {d C Z : Nat} {Q : xQ} {σ : xM} {l0 : Nat} {l1 : Int32} {x : Int32} (hf : f_L_cell (G.2.2.1) σ l0 l1 = some x) (hR : ∀ g, x = g → Q (.inl (some (.int g))) (σ) π) : xMach G π J_L_cell (d + 0) C Z 0 (lv_args 0 [.ref l0, .int l1]) [] σ Q := by
  unfold f_L_cell at hf
  refine xm_stL (L' := [(0, .ref l0), (1, .int l1)]) rfl ?_
  refine xm_iload_n dL_cell_0 rfl ?_
  refine xm_aload_n dL_cell_1 rfl ?_
  refine xb_if hf (fun hs hf => ?_) (fun _ q => nomatch q)
  refine xm_xLen2 hs dL_cell_2 ?_
  refine xb_icmp_ge 12 dL_cell_3 (by decide) hf (fun c hf => ?_) (fun c hf => ?_)
  · refine xm_ldc dL_cell_12 (xws_in xw_1225) ?_
    refine xm_iload_n dL_cell_14 rfl ?_
    refine xm_imul dL_cell_15 ?_
    refine xm_ldc dL_cell_16 (xws_in xw_1226) ?_
    refine xm_iadd dL_cell_18 ?_
    exact xm_sub [] rfl (L_L_cell_j19 σ (((67867967 : Int32) * l1) + (32452867 : Int32)) hf hR)
  · refine xm_aload_n dL_cell_6 rfl ?_
    refine xm_iload_n dL_cell_7 rfl ?_
    refine xb_if hf (fun hs hf => ?_) (fun _ q => nomatch q)
    refine xb_xLd hs dL_cell_8 hf (fun x1 ex1 hf => ?_)
    refine xm_goto 19 dL_cell_9 (by decide) ?_
    exact xm_sub [] rfl (L_L_cell_j19 σ x1 hf hR)
-- law: low
