/-! calls: addCase on any state -/
section ON
variable {I : Nat → Nat → Int32} {J : Nat → Nat → Int64} {R : Nat → Nat → Option Nat} {t : GT} {s : GS} {b : GB} {n : GN} {f : GF} {v w : GV} {q : Nat → GV} {p : GT} {r : GR} {h : GH} {β : Type}
theorem neg1_ne {k : Nat} (h : k < 2147483648) : ¬ (Int32.ofNat (k)) = (-1 : Int32) := fun z => by
  have := i32_0le h
  rw [z] at this
  exact absurd this (by decide)
theorem o_addCase (hR : RA R) (H : Inv I) : op_addCase Pinv (mg 4625 I J R) := by
  obtain ⟨t, s, b, n, f, v, q, p, r, h, hC, hM, hO⟩ := H
  intro y0 x z
  show opW Pinv (f_L_addCase (mg 4625 I J R) 0 (ch y0) x z 4624) (fun σ => f_X12_addCase σ 4561 (ch y0) x z)
  generalize ch y0 = y
  have h30 := hC.2.1.1
  have h20 := hC.2.2.2.2.2.2.2.2.2.1
  have hf := hC.2.2.2.2.2.2.2.2.2.2.1
  by_cases hy : (97 : Int32) ≤ y ∧ y ≤ (122 : Int32)
  · obtain ⟨l, hl, ey, el⟩ := nm_dom hy.1 hy.2
    have bad2 : f_X11_addCase (mg 4625 I J R) 0 y x z = some (.inr "java/lang/IndexOutOfBoundsException", mg 4625 I J R) → f_X12_addCase (mg 4625 I J R) 4561 y x z = f_X12_addCase_j25 (mg 4625 I J R) 4561 y x z → opW Pinv (f_L_addCase (mg 4625 I J R) 0 y x z 4624) (fun σ => f_X12_addCase σ 4561 y x z) := by
      intro e1 e2
      have e3 : f_L_addCase (mg 4625 I J R) 0 y x z 4624 = some (2, mg 4625 I J R) := by
        unfold f_L_addCase
        rw [if_pos ok_0, e1, Option.bind_some, q_let, Sum.elim_inr, if_neg (by decide), if_pos rfl]
      have e4 : f_X12_addCase_j25 (mg 4625 I J R) 4561 y x z = some (0, mg 4625 (thI I 2) J R) := by
        unfold f_X12_addCase_j25 f_X12_addCase_j26 f_X12_addCase_j41 f_X12_addCase_j51
        rw [m_isName1 hy.1 hy.2, Option.bind_some, if_neg (by decide), if_pos rfl, if_pos ok_4561, m_refY]
      exact op_ex e3 (e2.trans e4) thI_0 (by decide) (Pinv_th hR hC hM hO (fun x _ => rfl))
    rcases i32_two s.1 (by omega) z with ⟨j, hj, rfl⟩ | hz
    · have cj := hC.2.1.2.2 j hj
      have nj := CT_n cj
      -- how many nodes the larger one has, on both sides
      have main : ∀ (M : Nat), M ≤ 80 → f_X11_addCase (mg 4625 I J R) 0 y x (Int32.ofNat (j)) = f_X11_addCase_j37 (mg 4625 I J R) 0 x (Int32.ofNat (j)) (Int32.ofNat (l)) (Int32.ofNat (M)) → (M ≤ 30 → cdS s x ∧ s.2.1 j ≤ 30) → (∀ (J : Nat → Nat → Int64) (I2 : Nat → Nat → Int32), (∀ x, 4561 ≤ x → I2 x = I x) → f_X12_addCase (mg 4625 I2 J R) 4561 y x (Int32.ofNat (j)) = f_X12_addCase_j98 (mg 4625 (thI I2 0) J R) 4561 x (Int32.ofNat (j)) (Int32.ofNat (l)) (if M ≤ 30 then 0 else 1)) → opW Pinv (f_L_addCase (mg 4625 I J R) 0 y x (Int32.ofNat (j)) 4624) (fun σ => f_X12_addCase σ 4561 y x (Int32.ofNat (j))) := by
        intro M hM80 ec hs er
        obtain ⟨⟨pr, hpr, ep⟩, c, hc4, e1c, -⟩ := (OKH_top hO).2.2 l hl
        have fm := hM.2.2.2.2.1 l hl
        by_cases good : pr ≠ 0 ∧ c < 4 ∧ M ≤ 30
        · obtain ⟨g1, g2, g3⟩ := good
          obtain ⟨s1, s2⟩ := hs g3
          have p0 : ¬ f l 0 = 0 := by
            rw [ep]
            exact i32_neq (m := 0) (by omega) (by omega) g1
          have key : QK (f_X11_addCase (mg 4625 I J R) 0 y x (Int32.ofNat (j))) (fun u => ∃ I', u = (.inl (Int32.ofNat (c + 1)), mg 4625 I' J R) ∧ InvC I' t s b n (upF f l (rCase (f l) c x (Int32.ofNat (j)))) v q p r (hFun h f l) ∧ ∀ x, 4561 ≤ x → I' x = I x) := by
            rw [ec]
            unfold f_X11_addCase_j37
            rw [gr_0_2 hR, if_pos ok_11, c_params hR hC.2.2.2.2.1 hl, if_neg p0, gr_0_2 hR, if_pos ok_11, c_cases hR hC.2.2.2.2.1 hl, e1c, if_neg (show ¬ (4 : Int32) ≤ (Int32.ofNat (c)) from fun w => absurd ((i32_le (k := 4) (by omega) (by omega)).mp w) (by omega)), if_pos (show (Int32.ofNat (M)) ≤ (30 : Int32) from (i32_le (m := 30) (by omega) (by omega)).mpr g3), gr_0_2 hR, if_pos ok_11]
            refine q_bind (C_addOK hR hC hl e1c g2) ?_
            rintro _ ⟨I', rfl, hC', hF'⟩
            rw [gr_0_2 hR, if_pos ok_11, c_cases hR hC'.2.2.2.2.1 hl, show upF f l (rCase (f l) c x (Int32.ofNat (j))) l 1 = (Int32.ofNat (c + 1)) from by unfold upF; rw [if_pos rfl, rc_1]]
            exact q_ok ⟨I', rfl, hC', hF'⟩
          obtain ⟨_, e1, I2, rfl, hC2, hF2⟩ := key
          have hM2 : InvM I2 t s b n f v q p r h := InvM_C hM hC.2.1 (fun x k hx _ => by rw [hF2 x hx])
          have ref : ∀ J, QK (f_X12_addCase (mg 4625 I2 J R) 4561 y x (Int32.ofNat (j))) (fun u => ∃ I', u = ((Int32.ofNat (c + 1)), mg 4625 I' J R) ∧ InvM I' t s b n (upF f l (rCase (f l) c x (Int32.ofNat (j)))) v q p r (hFun h f l) ∧ (∀ a k, a < 4561 → I' a k = (thI (thI I2 0) 0) a k) ∧ I' 4561 0 = 0) := by
            intro J
            have hM3 : InvM (thI I2 0) t s b n f v q p r h := InvM_C hM2 hC.2.1 (fun x k hx hk => thI_n hk)
            have hM4 : InvM (thI (thI I2 0) 0) t s b n f v q p r h := InvM_C hM3 hC.2.1 (fun x k hx hk => thI_n hk)
            have fm3 := hM3.2.2.2.2.1 l hl
            rw [er J I2 hF2, if_pos g3]
            unfold f_X12_addCase_j98 f_X12_addCase_j134
            rw [gr_4561_11 hR, ga_4571 hl, fm3.1, if_neg p0, gr_4561_12 hR, ga_4572 hl, fm3.2.1, e1c, if_neg (show ¬ (Int32.ofNat (c)) = (4 : Int32) from i32_neq (m := 4) (by omega) (by omega) (by omega)), if_pos rfl, if_pos ok_4561, m_refO, if_pos ok_4561]
            exact M_addOK hR hM4 (CSh_th (CSh_th hC2.2.1)) h20 hf hl e1c g2 s1 ⟨hj, s2⟩ thI_0
          obtain ⟨_, e2, I3, rfl, hM4, k1, k2⟩ := ref (oJ J ((Int32.ofNat (c + 1))).toInt64)
          have hFd : FnOK s.1 s.2.1 (rCase (f l) c x (Int32.ofNat (j))) := FnOK_case ((OKH_top hO).2.2 l hl) e1c g2 s1 ⟨hj, s2⟩
          exact op_ok (l_addCase e1) e2 k2 (Pinv_mk hR (InvC_M hC2 (fun a k ha => by rw [k1 a k ha, thI_n (by omega), thI_n (by omega)])) hM4 (OKH_fun hO h20 hf hl hFd))
        · have e3 : f_L_addCase (mg 4625 I J R) 0 y x (Int32.ofNat (j)) 4624 = some (3, mg 4625 I J R) := by
            have e0 : f_X11_addCase (mg 4625 I J R) 0 y x (Int32.ofNat (j)) = some (.inr "java/lang/IllegalStateException", mg 4625 I J R) := by
              rw [ec]
              unfold f_X11_addCase_j37 f_X11_addCase_j69
              rw [gr_0_2 hR, if_pos ok_11, c_params hR hC.2.2.2.2.1 hl]
              by_cases g1 : pr = 0
              · rw [if_pos (by rw [ep, g1]; rfl)]
              · rw [if_neg (by rw [ep]; exact i32_neq (m := 0) (by omega) (by omega) g1), gr_0_2 hR, if_pos ok_11, c_cases hR hC.2.2.2.2.1 hl, e1c]
                by_cases g2 : c = 4
                · rw [if_pos (by rw [g2]; decide)]
                · rw [if_neg (show ¬ (4 : Int32) ≤ (Int32.ofNat (c)) from fun w => absurd ((i32_le (k := 4) (by omega) (by omega)).mp w) (by omega)), if_neg (show ¬ (Int32.ofNat (M)) ≤ (30 : Int32) from fun w => good ⟨g1, by omega, (i32_le (m := 30) (by omega) (by omega)).mp w⟩)]
            unfold f_L_addCase
            rw [if_pos ok_0, e0, Option.bind_some, q_let, Sum.elim_inr, if_neg (by decide), if_neg (by decide), if_pos rfl]
          have e2 : f_X12_addCase (mg 4625 I J R) 4561 y x (Int32.ofNat (j)) = some (0, mg 4625 (thI (thI I 0) 3) J R) := by
            have f1 : thI I 0 4571 l = f l 0 := by rw [thI_n (by omega)]; exact fm.1
            have f2 : thI I 0 4572 l = f l 1 := by rw [thI_n (by omega)]; exact fm.2.1
            rw [er J I (fun _ _ => rfl)]
            unfold f_X12_addCase_j98 f_X12_addCase_j129 f_X12_addCase_j134
            rw [gr_4561_11 hR, ga_4571 hl, f1]
            by_cases g1 : pr = 0
            · rw [if_pos (by rw [ep, g1]; rfl), if_pos ok_4561, m_refZ]
            · rw [if_neg (by rw [ep]; exact i32_neq (m := 0) (by omega) (by omega) g1), gr_4561_12 hR, ga_4572 hl, f2, e1c]
              by_cases g2 : c = 4
              · rw [if_pos (by rw [g2]; rfl), if_pos ok_4561, m_refZ]
              · rw [if_neg (show ¬ (Int32.ofNat (c)) = (4 : Int32) from i32_neq (m := 4) (by omega) (by omega) g2), if_neg (show ¬ M ≤ 30 from fun w => good ⟨g1, by omega, w⟩), if_neg (by decide), if_pos ok_4561, m_refZ]
          refine op_ex e3 e2 thI_0 (by decide) (Pinv_mk hR (InvC_M hC (fun a k ha => by rw [thI_n (by omega), thI_n (by omega)])) (InvM_C hM hC.2.1 (fun a k _ hk => by rw [thI_n hk, thI_n hk])) hO)
      have refT : ∀ (J : Nat → Nat → Int64) (I2 : Nat → Nat → Int32), (∀ x, 4561 ≤ x → I2 x = I x) → MSh I2 s ∧ MSh (thI I2 0) s := fun J I2 hI => ⟨(InvM_C (I' := I2) hM hC.2.1 (fun x k hx _ => by rw [hI x hx])).2.1, (InvM_C (I' := thI I2 0) hM hC.2.1 (fun x k hx hk => by rw [thI_n hk, hI x hx])).2.1⟩
      by_cases hx1 : x = -1
      · refine main (s.2.1 j) nj.2 ?_ (fun g => ⟨Or.inl hx1, g⟩) (fun J I2 hI => ?_)
        · unfold f_X11_addCase
          rw [if_pos ok_0, c_letterOf1 hy.1 hy.2, Option.bind_some, Sum.elim_inl, if_pos ok_0, C_treeAt1 hR hC.2.1 hj, Sum.elim_inl, bT_gI cj.1.1, cj.1.2.1, if_pos hx1, el]
        · obtain ⟨t1, t2⟩ := refT J I2 hI
          unfold f_X12_addCase f_X12_addCase_j21 f_X12_addCase_j26 f_X12_addCase_j41 f_X12_addCase_j51 f_X12_addCase_j93 f_X12_addCase_j97
          rw [if_pos ok_4561, M_isTree1 t1 h30 hj, if_neg (by decide), if_pos hx1, m_isName1 hy.1 hy.2, Option.bind_some, if_neg (by decide), if_neg (by decide), if_pos ok_4561, m_refO, q_let, gr_4561_9 hR, ga_4570 (by omega), (t2.2 j hj).1, el, if_pos hx1]
          by_cases g : s.2.1 j ≤ 30
          · rw [if_neg (show ¬ (30 : Int32) < (Int32.ofNat (s.2.1 j)) from fun w => absurd ((i32_lt (k := 30) (by omega) (by omega)).mp w) (by omega)), if_pos g]
          · rw [if_pos (show (30 : Int32) < (Int32.ofNat (s.2.1 j)) from (i32_lt (k := 30) (by omega) (by omega)).mpr (by omega)), if_neg g]
      · rcases i32_two s.1 (by omega) x with ⟨k, hk, rfl⟩ | hx
        · have ck := hC.2.1.2.2 k hk
          have nk := CT_n ck
          refine main (if s.2.1 j < s.2.1 k then s.2.1 k else s.2.1 j) (by split <;> omega) ?_ (fun g => ⟨Or.inr ⟨k, hk, rfl, by split at g <;> omega⟩, by split at g <;> omega⟩) (fun J I2 hI => ?_)
          · unfold f_X11_addCase
            rw [if_pos ok_0, c_letterOf1 hy.1 hy.2, Option.bind_some, Sum.elim_inl, if_pos ok_0, C_treeAt1 hR hC.2.1 hj, Sum.elim_inl, bT_gI cj.1.1, cj.1.2.1, if_neg hx1, if_pos ok_0, C_treeAt1 hR hC.2.1 hk, Sum.elim_inl, bT_gI ck.1.1, ck.1.2.1, q_let, el]
            by_cases g : s.2.1 j < s.2.1 k
            · rw [if_pos ((i32_lt (by omega) (by omega)).mpr g), if_pos g]
            · rw [if_neg (fun w => g ((i32_lt (by omega) (by omega)).mp w)), if_neg g]
          · obtain ⟨t1, t2⟩ := refT J I2 hI
            unfold f_X12_addCase f_X12_addCase_j21 f_X12_addCase_j26 f_X12_addCase_j41 f_X12_addCase_j51 f_X12_addCase_j93 f_X12_addCase_j97
            rw [if_pos ok_4561, M_isTree1 t1 h30 hj, if_neg (by decide), if_neg hx1, if_pos ok_4561, M_isTree1 t1 h30 hk, if_neg (by decide), m_isName1 hy.1 hy.2, Option.bind_some, if_neg (by decide), if_neg (by decide), if_pos ok_4561, m_refO, q_let, gr_4561_9 hR, ga_4570 (by omega), (t2.2 j hj).1, el, if_neg hx1, gr_4561_9 hR, ga_4570 (by omega), (t2.2 k hk).1]
            by_cases g : s.2.1 j ≤ 30
            · rw [if_neg (show ¬ (30 : Int32) < (Int32.ofNat (s.2.1 j)) from fun w => absurd ((i32_lt (k := 30) (by omega) (by omega)).mp w) (by omega))]
              by_cases g2 : s.2.1 k ≤ 30
              · rw [if_pos (show (Int32.ofNat (s.2.1 k)) ≤ (30 : Int32) from (i32_le (m := 30) (by omega) (by omega)).mpr g2), if_pos (by split <;> omega)]
              · rw [if_neg (show ¬ (Int32.ofNat (s.2.1 k)) ≤ (30 : Int32) from fun w => g2 ((i32_le (m := 30) (by omega) (by omega)).mp w)), if_neg (by split <;> omega)]
            · rw [if_pos (show (30 : Int32) < (Int32.ofNat (s.2.1 j)) from (i32_lt (k := 30) (by omega) (by omega)).mpr (by omega)), if_neg (by split <;> omega)]
        · refine bad2 ?_ ?_
          · unfold f_X11_addCase
            rw [if_pos ok_0, c_letterOf1 hy.1 hy.2, Option.bind_some, Sum.elim_inl, if_pos ok_0, C_treeAt1 hR hC.2.1 hj, Sum.elim_inl, bT_gI cj.1.1, if_neg hx1, if_pos ok_0, C_treeAt0 hR hC.2.1 hx, Sum.elim_inr]
          · unfold f_X12_addCase
            rw [if_pos ok_4561, M_isTree1 hM.2.1 h30 hj, if_neg (by decide), if_neg hx1, if_pos ok_4561, M_isTree0 hM.2.1 h30 hx, if_pos rfl]
    · refine bad2 ?_ ?_
      · unfold f_X11_addCase
        rw [if_pos ok_0, c_letterOf1 hy.1 hy.2, Option.bind_some, Sum.elim_inl, if_pos ok_0, C_treeAt0 hR hC.2.1 hz, Sum.elim_inr]
      · unfold f_X12_addCase
        rw [if_pos ok_4561, M_isTree0 hM.2.1 h30 hz, if_pos rfl]
  · have e3 : f_L_addCase (mg 4625 I J R) 0 y x z 4624 = some (1, mg 4625 I J R) := by
      unfold f_L_addCase f_X11_addCase
      rw [if_pos ok_0, if_pos ok_0, c_letterOf0 hy, Option.bind_some, Sum.elim_inr, Option.bind_some, q_let, Sum.elim_inr, if_pos rfl]
    have j26 : ∀ u, f_X12_addCase_j26 (mg 4625 I J R) 4561 y x z u = some (0, mg 4625 (thI I 1) J R) := by
      intro u
      unfold f_X12_addCase_j26 f_X12_addCase_j41 f_X12_addCase_j51
      rw [m_isName0 hy, Option.bind_some, if_pos rfl]
      split <;> rw [if_pos ok_4561, m_refX]
    have e2 : f_X12_addCase (mg 4625 I J R) 4561 y x z = some (0, mg 4625 (thI I 1) J R) := by
      unfold f_X12_addCase f_X12_addCase_j25 f_X12_addCase_j21
      rw [if_pos ok_4561]
      rcases i32_two s.1 (by omega) z with ⟨j, hj, rfl⟩ | hz
      · rw [M_isTree1 hM.2.1 h30 hj, if_neg (by decide)]
        by_cases hx1 : x = -1
        · rw [if_pos hx1]
          exact j26 _
        · rw [if_neg hx1, if_pos ok_4561]
          rcases i32_two s.1 (by omega) x with ⟨k, hk, rfl⟩ | hx
          · rw [M_isTree1 hM.2.1 h30 hk, if_neg (by decide)]
            exact j26 _
          · rw [M_isTree0 hM.2.1 h30 hx, if_pos rfl]
            exact j26 _
      · rw [M_isTree0 hM.2.1 h30 hz, if_pos rfl]
        exact j26 _
    exact op_ex e3 e2 thI_0 (by decide) (Pinv_th hR hC hM hO (fun x _ => rfl))
end ON
