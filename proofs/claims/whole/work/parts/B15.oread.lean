/-! call: read -/
section OR
variable {I : Nat → Nat → Int32} {J : Nat → Nat → Int64} {R : Nat → Nat → Option Nat} {t : GT} {s : GS} {b : GB} {n : GN} {f : GF} {v : GV} {q : Nat → GV} {p : GT} {r : GR} {h : GH} {β : Type}
theorem l_read1 {w : Int32} {I1 : Nat → Nat → Int32} (h : f_X11_read (mg 4625 I J R) 0 = some (.inl w, mg 4625 I1 J R)) : f_L_read (mg 4625 I J R) 0 4624 = some (0, mg 4625 I1 (oJ J w.toInt64) R) := by
  unfold f_L_read
  rw [if_pos ok_0, h, Option.bind_some, q_let, Sum.elim_inl, owJ0]
  rfl
theorem l_read0 {I1 : Nat → Nat → Int32} (h : f_X11_read (mg 4625 I J R) 0 = some (.inr "java/lang/IllegalStateException", mg 4625 I1 J R)) : f_L_read (mg 4625 I J R) 0 4624 = some (1, mg 4625 I1 J R) := by
  unfold f_L_read
  rw [if_pos ok_0, h, Option.bind_some, q_let, Sum.elim_inr, if_pos rfl]
theorem resC_1 {P : Nat → Nat} {len : Nat} {x : Wi × PS ⊕ PS} (h : (acc x).isSome = true) : resC P len x = -1 := by
  cases x with
  | inl y => cases h
  | inr y => exact if_pos h
theorem resC_n {P : Nat → Nat} {len : Nat} {x : Wi × PS ⊕ PS} (hl : len < 1000) (hP : ∀ w s, x = .inl (w, s) → flt P w s < 100000) (h : ¬ (acc x).isSome = true) : ∃ k, k < 2147483648 ∧ resC P len x = (Int32.ofNat (k)) := by
  cases x with
  | inl y =>
    obtain ⟨w, s⟩ := y
    exact ⟨_, by have := hP w s rfl; omega, rfl⟩
  | inr y => exact ⟨len, by omega, if_neg h⟩
theorem i32_m1 {k : Nat} (hk : k < 2147483648) : ¬ (Int32.ofNat (k)) = (-1 : Int32) := fun y => by
  have := i32_0le hk
  rw [y] at this
  exact absurd this (by decide)
theorem o_read (hR : RA R) (H : Inv I) : op_read Pinv (mg 4625 I J R) := by
  obtain ⟨t, s, b, n, f, v, q, p, r, h, hC, hM, hO⟩ := H
  have hT := (OKH_top hO).1
  have h30 := hC.2.1.1
  have h20 := hC.2.2.2.2.2.2.2.2.2.1
  have hf := hC.2.2.2.2.2.2.2.2.2.2.1
  obtain ⟨c, hc⟩ := chr_t hC.1
  obtain ⟨I1, I2, e1, e2, g2, gA⟩ := C_typed (J := J) hR hC hT hc
  have c60 := hC.1.1
  have len := lexS_len (c := c) (n := t.1) t.1 0 [] (Nat.zero_le _)
  rw [show ([] : List Wp).length = 0 from rfl, Nat.zero_add, Nat.sub_zero] at len
  have no7 := lexS_no7 (c := c) (n := t.1) (fun k hk => (hc k hk).2.1) t.1 0 [] (fun x hx => by cases hx)
  obtain ⟨eq, el⟩ := fault_eq (b := b) (n := t.1) (Rs := lexS c t.1 t.1 0 []) no7
  have hW : CWl I1 (lexS c t.1 t.1 0 []) := by
    obtain ⟨_, e1', I1', rfl, -, -, hW1⟩ := C_split (J := J) (A := 10) (len := 60) (n := t.1) (c := c) hR hC.2.2.1 ⟨by decide, rfl⟩ (Or.inl (by decide)) (by decide) (fun k hk => ⟨(hc k hk).1, (hc k hk).2.1⟩) c60 (by omega)
    rw [e1] at e1'
    have : I1' = I1 := by
      have := Option.some.inj e1'
      exact (congrArg (fun σ : xM => σ.2.2.1) this).symm
    rw [this] at hW1
    exact hW1
  have wok : ∀ w, w ∈ visl (lexS c t.1 t.1 0 []) → WOK w.2 := fun w hw => by
    have wm := vis_mem _ _ _ hw
    rw [wm.2.2]
    exact (hW.2.2 w.1 (by omega)).2.2.2.2.1
  have fltb : ∀ w sx, run b (visl (lexS c t.1 t.1 0 [])) st0 = .inl (w, sx) → flt (pF (lexS c t.1 t.1 0 [])) w sx < 100000 := fun w sx hr => by
    have w1 := run_mem (visl (lexS c t.1 t.1 0 [])).length _ _ _ _ (Nat.le_refl _) hr
    have wm := vis_mem _ _ _ w1
    have w5 := (hW.2.2 w.1 (by omega)).2.2.2.2.2
    unfold flt
    split
    · next z =>
      rcases wok w w1 with y | y | y | y <;> omega
    · omega
  have n8 : nws (visl (lexS c t.1 t.1 0 [])) ≤ 80 := by
    have a1 := nws_len (visl (lexS c t.1 t.1 0 []))
    have a2 := vis_len (W := wF (lexS c t.1 t.1 0 [])) (g := fun _ => false) (lexS c t.1 t.1 0 []).length 0
    have : (visl (lexS c t.1 t.1 0 [])).length ≤ (lexS c t.1 t.1 0 []).length := a2
    omega
  generalize hRs : lexS c t.1 t.1 0 [] = Rs at *
  have hC2 : InvC I2 t s b n f v q p r h := InvC_rd hC (fun x hx _ => g2 x hx)
  have hM2 : InvM I2 t s b n f v q p r h := InvM_C hM hC.2.1 (fun x k hx _ => by rw [g2 x (by omega)])
  -- what the class does up to its reading
  have cls : ∀ (F : Int32 × xM → Option ((Int32 ⊕ String) × xM)), (∀ p6, F p6 = (if p6.1 = (-1 : Int32) then (if xk p6.2 0 11 = true then (f_X11_needRoom p6.2 0).bind (fun p7 => Sum.elim (fun w8 => (sI p6.2 0 11 1 (0 : Int32)).bind (fun σ9 => (gR σ9 0 11 12).bind (fun x10 => (gR σ9 0 11 3).bind (fun x11 => (gR σ9 x11 6 17).bind (fun x12 => (if xk σ9 x10 9 = true then (f_X9_turn σ9 x10 x12).bind (fun p13 => (gR p13 0 11 2).bind (fun x14 => (gR p13 0 11 12).bind (fun x15 => (if xk p13 x14 1 = true then (f_X1_shelve p13 x14 x15).bind (fun p16 => some ((Sum.inl p16.1), p16.2)) else none)))) else none)))))) (fun E => some ((Sum.inr E), p6.2)) p7) else none) else some ((Sum.inr "java/lang/IllegalStateException"), p6.2))) → f_X11_read (mg 4625 I J R) 0 = F (resC (pF Rs) t.1 (run b (visl Rs) st0), mg 4625 I2 J R) := by
    intro F hF
    unfold f_X11_read
    rw [gr_0_3 hR, gr_0_0 hR, gi_0, hC.1.2.1, if_pos ok_540, e1, Option.bind_some, gr_0_3 hR, if_pos ok_540, e2, Option.bind_some, hF]
  -- a refusal of the reference
  have bad : f_X11_read (mg 4625 I J R) 0 = some (.inr "java/lang/IllegalStateException", mg 4625 I2 J R) → QK (f_X12_read (mg 4625 I2 J R) 4561) (fun x => ∃ I3, x = (0, mg 4625 (thI I3 1) J R) ∧ FrK (fun a k => Swm a k ∨ SMp a k) I2 I3) → opW Pinv (f_L_read (mg 4625 I J R) 0 4624) (fun σ => f_X12_read σ 4561) := by
    rintro b1 ⟨_, b2, I3, rfl, g3⟩
    refine op_ex (l_read0 b1) b2 thI_0 (by decide) (Pinv_mk (t := t) (n := n) (v := v) (q := q) (p := p) (r := r) hR ?_ ?_ hO)
    · refine InvC_keep hC2 (fun x hx => funext (fun k => ?_))
      rw [thI_n (by unfold DC at hx; omega), g3 x k (by unfold DC at hx; unfold Swm SMp; omega)]
    · exact InvM_keep hM2 hC.2.1.1 (CSh_80 hC.2.1) (fun a k g => by rw [thI_n (by unfold DM at g; omega), g3 a k (by unfold DM at g; unfold Swm SMp; omega)])
  have j18 : ∀ I3, f_X12_read_j18 (mg 4625 I3 J R) 4561 4561 = some (0, mg 4625 (thI I3 1) J R) := fun I3 => by
    unfold f_X12_read_j18 f_X12_read_j23
    rw [if_pos ok_4561, m_refX]
  obtain ⟨_, e3, I3, rfl, g3, gB⟩ := M_faultOf (I := I2) (J := J) (c := c) hR hM2.2.2.1 hT hM2.1.1 (Tx_M hM2.1 hc) hC.1.1
  rw [hRs, ← eq] at e3
  by_cases ok : (acc (run b (visl Rs) st0)).isSome = true
  · rw [resC_1 ok] at e3
    by_cases z : s.1 < 30
    · obtain ⟨ln, hln⟩ := Option.isSome_iff_exists.mp ok
      obtain ⟨nd, sp, hw, hx, h80⟩ := acc_tree wok n8 hln
      have key : QK (f_X11_read (mg 4625 I J R) 0) (fun x => ∃ I4, x = (.inl (Int32.ofNat (s.1)), mg 4625 I4 J R) ∧ InvC I4 (0, t.2) (sPush s ln.length nd sp) b n f v q p r (hShelf h) ∧ ∀ x, 4561 ≤ x → I4 x = I2 x) := by
        rw [cls _ (fun _ => rfl), resC_1 ok]
        dsimp only
        rw [if_pos rfl, if_pos ok_0, C_room1 hR hC2.2.1 z, Sum.elim_inl, gs_0, gr_0_12 hR, gr_0_3 hR, gr_540_17 hR, if_pos (bT_xk isTr_4551)]
        have hN : CN (up I2 0 1 0) 551 ln.length (lnF ln) := CN_keep (gA ln hln).2 (fun x h1 h2 => up_r (by omega))
        refine q_bind (T_turn hR isTr_4551 hN hw (fun x hx' => (hx x hx').1) (by decide)) ?_
        rintro _ ⟨I4, rfl, hF4, hT4⟩
        have fr : ∀ x, ¬ (4551 ≤ x ∧ x < 4559) → x ≠ 556 → x ≠ 557 → I4 x = up I2 0 1 0 x := fun x y1 y2 y3 => hF4 x (fun w => by
          unfold St at w
          omega)
        have hC4 : InvC I4 (0, t.2) s b n f v q p r h := by
          obtain ⟨h1, h2, h3, h4, h5, h6, h7, h8, h9, h10⟩ := hC2
          have go : ∀ x, ¬ (4551 ≤ x ∧ x < 4559) → x ≠ 556 → x ≠ 557 → x ≠ 0 → I4 x = I2 x := fun x y1 y2 y3 y4 => by rw [fr x y1 y2 y3, up_r y4]
          refine ⟨⟨Nat.zero_le _, ?_, fun k hk => absurd hk (Nat.not_lt_zero k)⟩, CSh_keep h2 (fun x g => go x (by omega) (by omega) (by omega) (by omega)), CTb_keep h3 (fun x g => go x (by omega) (by omega) (by omega) (by omega)), CNm_keep h4 (fun x g => go x (by omega) (by omega) (by omega) (by omega)), CFn_keep h5 (fun x g => go x (by omega) (by omega) (by omega) (by omega)), CV_keep h6 (fun x g g' => go x (by omega) (by omega) (by omega) (by omega)), CKp_keep h7 (fun x g => go x (by omega) (by omega) (by omega) (by omega)), CPr_keep h8 (fun x g => go x (by omega) (by omega) (by omega) (by omega)), ⟨h9.1, ?_, ?_⟩, CHs_keep h10 (fun x g => go x (by omega) (by omega) (by omega) (by omega))⟩
          · rw [fr 0 (by omega) (by omega) (by omega), up_s]
            rfl
          · rw [fr 0 (by omega) (by omega) (by omega), up_n (by omega)]
            exact h9.2.1
          · intro k hk
            rw [go 4559 (by omega) (by omega) (by omega) (by omega), go 4560 (by omega) (by omega) (by omega) (by omega)]
            exact h9.2.2 k hk
        rw [gr_0_2 hR, gr_0_12 hR, if_pos ok_11]
        refine q_bind (C_shelve hR hC4 hT4 z (by omega)) ?_
        rintro _ ⟨I5, rfl, hC5, hF5⟩
        refine q_ok ⟨I5, rfl, hC5, fun x hx' => ?_⟩
        rw [hF5 x (by omega), fr x (by omega) (by omega) (by omega), up_r (by omega)]
      obtain ⟨_, e4, I4, rfl, hC4, g4⟩ := key
      have hM4 : InvM I4 t s b n f v q p r h := InvM_C hM2 hC.2.1 (fun x k hx' _ => by rw [g4 x hx'])
      have ref : ∀ J, QK (f_X12_read (mg 4625 I4 J R) 4561) (fun x => ∃ I5, x = ((Int32.ofNat (s.1)), mg 4625 I5 J R) ∧ InvM I5 (0, t.2) (sPush s ln.length nd sp) b n f v q p r (hShelf h) ∧ (∀ a k, a < 4561 → I5 a k = I4 a k) ∧ I5 4561 0 = 0) := by
        intro J
        obtain ⟨_, e5, I5, rfl, g5, gB5⟩ := M_faultOf (I := I4) (J := J) (c := c) hR hM4.2.2.1 hT hM4.1.1 (Tx_M hM4.1 hc) hC.1.1
        rw [hRs, ← eq, resC_1 ok] at e5
        obtain ⟨bs, b1, b2⟩ := gB5 ln (by rw [hRs, el ok]; exact hln)
        unfold f_X12_read
        rw [gi_4561, hM4.2.1.1, if_neg (show ¬ _ = (30 : Int32) from i32_ne (b := 30) (by omega) (by omega) (by omega)), if_pos ok_4561, e5, Option.bind_some, if_pos rfl]
        unfold f_X12_read_j23
        rw [if_pos ok_4561, m_refO, if_pos ok_4561]
        obtain ⟨d1, d2, d3⟩ := b2.2.2.2.2
        have dI : ∀ a k, (a ≠ 4561 ∨ k ≠ 0) → thI I5 0 a k = I5 a k := fun a k y => thI_n (by omega)
        have hd : ∀ x, x < ln.length → thI I5 0 4584 (pl sp x) = (nd x).1 ∧ thI I5 0 4585 (pl sp x) = (nd x).2.1 ∧ thI I5 0 4586 (pl sp x) = (nd x).2.2.1 ∧ thI I5 0 4587 (pl sp x) = (Int32.ofNat (aro nd x)) ∧ aro nd x ≤ 4 ∧ thI I5 0 4588 (pl sp x) = (Int32.ofNat (sp x)) := fun x hx' => by
          obtain ⟨y1, y2, y3, y4, y5, y6⟩ := d3 (pl sp x) (pl_lt hw hx')
          obtain ⟨z1, z2, -⟩ := hx x hx'
          rw [z1] at y1 y2 y3 y4 y5
          rw [z2] at y6
          rw [dI 4584 _ (by omega), dI 4585 _ (by omega), dI 4586 _ (by omega), dI 4587 _ (by omega), dI 4588 _ (by omega)]
          exact ⟨y1, y2, y3, y4, y5, y6⟩
        refine q_bind (M_lay (I := thI I5 0) (a := 13440) hR ((dI _ _ (by omega)).trans d2) hw h80 (by omega) hd) ?_
        rintro _ ⟨I6, rfl, g6, hT6⟩
        rw [gs_4561, if_pos ok_4561]
        have go : ∀ a k, ¬ (Swm a k ∨ SMp a k) → ¬ MLy 13440 ln.length a k → (a = 4561 → k ≠ 0 ∧ k ≠ 19) → up I6 4561 19 0 a k = I4 a k := fun a k y1 y2 y3 => by
          rw [up_n (by omega), g6 a k y2, thI_n (by omega), g5 a k y1]
        have hM6 : InvM (up I6 4561 19 0) (0, t.2) s b n f v q p r h := by
          obtain ⟨h1, h2, h3, h4, h5, h6, h7, h8, h9, h10⟩ := hM4
          have g : ∀ a k, DM a k → (a = 4561 → k ≠ 19) → a ≠ 4578 ∨ True → up I6 4561 19 0 a k = I4 a k := fun a k y1 y2 _ => go a k (by unfold DM at y1; unfold Swm SMp; omega) (by unfold DM at y1; unfold MLy; omega) (by unfold DM at y1; omega)
          refine ⟨⟨by rw [up_s]; rfl, fun k hk => absurd hk (Nat.not_lt_zero k)⟩, MSh_keep h2 h30 (fun a k y => g a k (by unfold DM; omega) (by omega) (Or.inr trivial)) (CSh_80 hC.2.1), MTb_keep h3 (fun a k y => g a k (by unfold DM; omega) (by omega) (Or.inr trivial)), MNm_keep h4 (fun a k y => g a k (by unfold DM; omega) (by omega) (Or.inr trivial)), MFn_keep h5 (fun a k y => g a k (by unfold DM; omega) (by omega) (Or.inr trivial)), MV_keep h6 (fun k y y' => g _ k (by unfold DM; omega) (by omega) (Or.inr trivial)), MKp_keep h7 (fun a k y => g a k (by unfold DM; omega) (by omega) (Or.inr trivial)), MPr_keep h8 (fun a k y => g a k (by unfold DM; omega) (by omega) (Or.inr trivial)), MTr_keep h9 (fun a k y => g a k (by unfold DM; omega) (by omega) (Or.inr trivial)), MHs_keep h10 (fun a k y => g a k (by unfold DM; omega) (by omega) (Or.inr trivial))⟩
        have hT6' : MT (up I6 4561 19 0) 13440 ln.length nd sp := MT_keep hT6 (fun a k y1 y2 y3 y4 => up_n (by omega))
        refine q_bind (M_shelve (fr := 13440) (m := ln.length) hR hM6 hO h20 hf hT6'.1 hw z (CSh_80 hC.2.1) (by omega) (by omega)) ?_
        rintro _ ⟨I7, rfl, hM7, k1, k2⟩
        refine q_ok ⟨I7, rfl, hM7, fun a x ha => ?_, ?_⟩
        · rw [k1 a x ha, go a x (by unfold Swm SMp; omega) (by unfold MLy; omega) (by omega)]
        · rw [k2, up_n (by omega), g6 _ _ (by unfold MLy; omega)]
          exact thI_0
      obtain ⟨_, e6, I6, rfl, hM6, k1, k2⟩ := ref (oJ J ((Int32.ofNat (s.1))).toInt64)
      exact op_ok (l_read1 e4) e6 k2 (Pinv_sh hR hC4 hM6 k1 hO h20 hf (fun j hj => (hx j hj).2.2))
    · refine bad ?_ ?_
      · rw [cls _ (fun _ => rfl), resC_1 ok]
        dsimp only
        rw [if_pos rfl, if_pos ok_0, C_room0 hR hC2.2.1 (by omega), Sum.elim_inr]
      · unfold f_X12_read
        rw [gi_4561, hM2.2.1.1, if_pos (show (Int32.ofNat (s.1)) = (30 : Int32) by rw [show s.1 = 30 by omega]; rfl), j18]
        exact q_ok ⟨I2, rfl, FrK_rfl⟩
  · obtain ⟨k, hk, ek⟩ := resC_n (P := pF Rs) (len := t.1) (by omega) fltb ok
    refine bad ?_ ?_
    · rw [cls _ (fun _ => rfl), ek]
      dsimp only
      rw [if_neg (i32_m1 hk)]
    · unfold f_X12_read
      rw [gi_4561, hM2.2.1.1]
      by_cases z : s.1 = 30
      · rw [if_pos (show (Int32.ofNat (s.1)) = (30 : Int32) by rw [z]; rfl), j18]
        exact q_ok ⟨I2, rfl, FrK_rfl⟩
      · rw [if_neg (show ¬ _ = (30 : Int32) from i32_ne (b := 30) (by omega) (by omega) z), if_pos ok_4561, e3, ek, Option.bind_some, if_neg (i32_m1 hk), j18]
        exact q_ok ⟨I3, rfl, g3⟩
end OR
