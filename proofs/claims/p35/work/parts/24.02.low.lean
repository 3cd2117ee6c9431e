def f_L_low (σ : xM) (l0 : Int32) (l1 : Int32) : Option Int32 :=
  (if l1 = 0 then none else some ((l0 &&& (2147483647 : Int32)) - (l0 &&& (2147483647 : Int32)) / l1 * l1))
set_option maxHeartbeats 4000000 in
set_option maxRecDepth 20000 in
theorem m_L_low {G : xG} {π : Nat → Nat} {d C Z : Nat} {Q : xQ} {σ : xM} {l0 : Int32} {l1 : Int32} {x : Int32} (hf : f_L_low σ l0 l1 = some x) (hR : ∀ g, x = g → Q (.inl (some (.int g))) (σ) π) : xMach G π J_L_low (d + 0) C Z 0 (lv_args 0 [.int l0, .int l1]) [] σ Q := by
  unfold f_L_low at hf
  refine xm_stL (L' := [(0, .int l0), (1, .int l1)]) rfl ?_
  refine xm_iload_n dL_low_0 rfl ?_
  refine xm_ldc dL_low_1 (xws_in xw_1230) ?_
  refine xm_iand dL_low_3 ?_
  refine xm_iload_n dL_low_4 rfl ?_
  refine xb_irem dL_low_5 hf (fun c hf => ?_)
  cases hf
  exact xm_iret dL_low_6 rfl (hR _ rfl)
-- law: sign
