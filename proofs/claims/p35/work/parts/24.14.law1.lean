theorem xdf11 : ∀ j, j < 16 → defaultValue (xtyp 11 j) = if xisr (xtyp 11 j) = true then .null else .int 0 := fun j hj => match j, hj with | 0, _ => rfl | 1, _ => rfl | 2, _ => rfl | 3, _ => rfl | 4, _ => rfl | 5, _ => rfl | 6, _ => rfl | 7, _ => rfl | 8, _ => rfl | 9, _ => rfl | 10, _ => rfl | 11, _ => rfl | 12, _ => rfl | 13, _ => rfl | 14, _ => rfl | 15, _ => rfl | (j + 16), h => absurd h (by omega)
def f_L_law (aC : Nat → ClassId) (σ : xM) : Option (Int32 × xM) :=
  (nwO σ 11 [xkX]).bind (fun σ1 => (f_X11_init σ1 σ.1).bind (fun τ1 => (cdo σ1 τ1 [σ.1, xkX]).bind (fun σ2 => (nwA σ2 14 (60 : Int32) (componentBytes .int) [σ.1, xkX]).bind (fun σ3 => xlet (0 : Int32) (fun v1 => (xloop (f_L_law_s18 aC ) xF (xkX, σ.1, (1 : Int32), σ2.1, v1, σ3)).bind (Sum.elim (fun g => some g) (fun e => f_L_law_j138 aC e.2.2.2.2 e.1 e.2.1 e.2.2.1 e.2.2.2.1)))))))
set_option maxHeartbeats 4000000 in
set_option maxRecDepth 20000 in
theorem m_L_law {G : xG} {π : Nat → Nat} {d C Z : Nat} {Q : xQ} {σ : xM} {x : Int32 × xM} (hf : f_L_law G.2.2.1 σ = some x) (hR : ∀ τ π', Q (.inl (some (.int x.1))) τ π') : xMach G π J_L_law (d + 410) (C + 4573) (Z + 53499) 0 (lv_args 0 [.ref xkX]) [] σ Q := by
  unfold f_L_law at hf
  refine xm_stL (L' := [(0, .ref xkX)]) rfl ?_
  refine xb_newL (N := 16) (C9 := C + 4572) (Z9 := Z + 53483) dL_law_0 xcl11 xw_25 xw_26 xw_1 xdf11 rfl rfl rfl hf (fun σ1 π hf => ?_)
  refine xm_dup dL_law_3 rfl ?_
  obtain ⟨τ1, eτ1, hf⟩ := xbind hf
  refine xb_ctorL (J' := J_X11_init) (τ1 := τ1) (C1 := 4560) (Z1 := 52763) (C9 := C + 12) (Z9 := Z + 720) (As := []) dL_law_4 (xc_X11_init _ _) rfl rfl xw_27 xw_28 rfl (Nat.le_of_ble_eq_true rfl) rfl (Nat.le_of_ble_eq_true rfl) (fun Q1 hq => m_X11_init (d := d + 403) eτ1 hq) rfl rfl rfl hf (fun σ2 π hf => ?_)
  refine xm_astore_n dL_law_7 (by decide) (xm_stL (L' := [(1, .ref σ.1), (0, .ref xkX)]) rfl ?_)
  refine xm_iconst dL_law_8 (v := 1) (by decide) ?_
  refine xm_istore_n dL_law_9 (by decide) (xm_stL (L' := [(2, .int 1), (1, .ref σ.1), (0, .ref xkX)]) rfl ?_)
  refine xm_bipush dL_law_10 (v := 60) (by decide) ?_
  refine xb_newaIL (N := 60) (C9 := C + 11) (Z9 := Z + 660) dL_law_12 xw_57 (by decide) rfl rfl rfl hf (fun σ3 π hf => ?_)
  refine xm_astore_n dL_law_14 (by decide) (xm_stL (L' := [(3, .ref σ2.1), (2, .int 1), (1, .ref σ.1), (0, .ref xkX)]) rfl ?_)
  have hR : ∀ g, x = g → ∀ π', xag 4562 π π' → Q (.inl (some (.int g.1))) g.2 π' := fun g hg π' _ => by subst hg; exact hR _ _
  refine xm_iconst dL_law_15 (v := 0) (by decide) ?_
  refine xb_topi hf (fun v1 ev1 hf => ?_)
  refine xm_istore dL_law_16 (by decide) (xm_stL (L' := [(4, .int v1), (3, .ref σ2.1), (2, .int 1), (1, .ref σ.1), (0, .ref xkX)]) rfl ?_)
  obtain ⟨o, h1, hf⟩ := xbind hf
  refine xm_sub [4, 3, 2, 1, 0] rfl (L_L_law_l18  h1 (fun g hg => ?_) (fun e he => ?_))
  · subst hg
    cases hf
    exact hR _ rfl
  · subst he
    rw [Sum.elim_inr] at hf
    have hf : f_L_law_j138 (G.2.2.1) e.2.2.2.2 e.1 e.2.1 e.2.2.1 e.2.2.2.1 = some _ := hf
    exact xm_sub [0, 1, 2, 3] rfl (L_L_law_j138 e.2.2.2.2 e.1 e.2.1 e.2.2.1 e.2.2.2.1 hf hR)
