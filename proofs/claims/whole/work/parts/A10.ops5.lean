/-! calls: graft -/
section OE
variable {I : Nat → Nat → Int32} {J : Nat → Nat → Int64} {R : Nat → Nat → Option Nat} {t : GT} {s : GS} {b : GB} {n : GN} {f : GF} {v : GV} {q : Nat → GV} {p : GT} {r : GR} {h : GH} {β : Type}
theorem l_graft {w x y z : Int32} {I1 : Nat → Nat → Int32} (h : f_X11_graft (mg 4625 I J R) 0 x y z = some (.inl w, mg 4625 I1 J R)) : f_L_graft (mg 4625 I J R) 0 x y z 4624 = some (0, mg 4625 I1 (oJ J w.toInt64) R) := by
  unfold f_L_graft
  rw [if_pos ok_0, h, Option.bind_some, q_let, Sum.elim_inl, owJ0]
  rfl
theorem o_graft (hR : RA R) (H : Inv I) : op_graft Pinv (mg 4625 I J R) := by
  obtain ⟨t, s, b, n, f, v, q, p, r, h, hC, hM, hO⟩ := H
  intro x y0 z
  have h30 := hC.2.1.1
  have h20 := hC.2.2.2.2.2.2.2.2.2.1
  have hf := hC.2.2.2.2.2.2.2.2.2.2.1
  show opW Pinv (f_L_graft (mg 4625 I J R) 0 x (ch y0) z 4624) (fun σ => f_X12_graft σ 4561 x (ch y0) z)
  generalize ch y0 = y
  have bad1 : f_X11_graft (mg 4625 I J R) 0 x y z = some (.inr "java/lang/IndexOutOfBoundsException", mg 4625 I J R) → f_X12_graft (mg 4625 I J R) 4561 x y z = some (0, mg 4625 (thI I 1) J R) → opW Pinv (f_L_graft (mg 4625 I J R) 0 x y z 4624) (fun σ => f_X12_graft σ 4561 x y z) := by
    intro e1 e2
    have e3 : f_L_graft (mg 4625 I J R) 0 x y z 4624 = some (1, mg 4625 I J R) := by
      unfold f_L_graft
      rw [if_pos ok_0, e1, Option.bind_some, q_let, Sum.elim_inr, if_pos rfl]
    exact op_ex e3 e2 thI_0 (by decide) (Pinv_th hR hC hM hO (fun x _ => rfl))
  have j17 : ∀ x z, f_X12_graft_j17 (mg 4625 I J R) 4561 x y z 4561 = some (0, mg 4625 (thI I 1) J R) := by
    intro x z
    unfold f_X12_graft_j17 f_X12_graft_j22 f_X12_graft_j34
    by_cases hy : (97 : Int32) ≤ y ∧ y ≤ (122 : Int32)
    · rw [m_isName1 hy.1 hy.2, Option.bind_some, if_neg (by decide), if_pos ok_4561, m_refX]
    · rw [m_isName0 hy, Option.bind_some, if_pos rfl, if_pos ok_4561, m_refX]
  rcases i32_two s.1 (by omega) x with ⟨k, hk, rfl⟩ | hx
  · rcases i32_two s.1 (by omega) z with ⟨j, hj, rfl⟩ | hz
    · have c1 := hC.2.1.2.2 k hk
      have c2 := hC.2.1.2.2 j hj
      have n1 := CT_n c1
      have n2 := CT_n c2
      have top := OKH_top hO
      have hz0 : ∀ x, x < s.2.1 k → (s.2.2.1 k x).1 = 1 → (s.2.2.1 k x).2.2.2 = 0 := fun x hx h1 => by
        rcases top.2.1 k x hk hx with g | g | g | g
        · rw [g.1] at h1; exact absurd h1 (by decide)
        · exact g.2.2.2
        · rw [g.1] at h1; exact absurd h1 (by decide)
        · rw [g.1] at h1; exact absurd h1 (by decide)
      have hv0 : ∀ x, x < s.2.1 k → (s.2.2.1 k x).1 = 2 → 1 ≤ (s.2.2.1 k x).2.2.2 := fun x hx h1 => by
        rcases top.2.1 k x hk hx with g | g | g | g
        · rw [g.1] at h1; exact absurd h1 (by decide)
        · rw [g.1] at h1; exact absurd h1 (by decide)
        · exact g.2.2.2.1
        · rw [g.1] at h1; exact absurd h1 (by decide)
      by_cases hy : (97 : Int32) ≤ y ∧ y ≤ (122 : Int32)
      · have ref0 : ∀ (J : Nat → Nat → Int64) (I2 : Nat → Nat → Int32) (Q : Int32 × xM → Prop), (∀ x, DC x ∨ 4561 ≤ x → I2 x = I x) → QK ((f_X12_grafted (mg 4625 (thI I2 0) J R) 4561 (Int32.ofNat (80 * k)) y (Int32.ofNat (80 * j))).bind (fun p6 => (gI p6.2 4561 12 10).bind (fun x7 => (if x7 = (30 : Int32) then f_X12_graft_j77 p6.2 4561 p6.1 (0 : Int32) (0 : Int32) 4561 else (if p6.1 ≤ (80 : Int32) then f_X12_graft_j82 p6.2 4561 p6.1 (0 : Int32) (0 : Int32) (0 : Int32) 4561 else f_X12_graft_j77 p6.2 4561 p6.1 (0 : Int32) (0 : Int32) 4561))))) Q → QK (f_X12_graft (mg 4625 I2 J R) 4561 (Int32.ofNat (k)) y (Int32.ofNat (j))) Q := by
          intro J I2 Q hI hq
          have hM2 : MSh I2 s := (InvM_C (I' := I2) hM hC.2.1 (fun x k hx _ => by rw [hI x (Or.inr hx)])).2.1
          unfold f_X12_graft f_X12_graft_j22 f_X12_graft_j34
          rw [if_pos ok_4561, M_isTree1 hM2 h30 hk, if_neg (by decide), if_pos ok_4561, M_isTree1 hM2 h30 hj, if_neg (by decide), m_isName1 hy.1 hy.2, Option.bind_some, if_neg (by decide), if_pos ok_4561, m_refO, M_shelf, M_shelf, if_pos ok_4561]
          exact hq
        have hMt : ∀ I2 : Nat → Nat → Int32, (∀ x, DC x ∨ 4561 ≤ x → I2 x = I x) → InvM (thI I2 0) t s b n f v q p r h := fun I2 hI => InvM_C hM hC.2.1 (fun x k hx hk => by rw [thI_n hk, hI x (Or.inr hx)])
        have mx : ∀ I2 : Nat → Nat → Int32, InvM I2 t s b n f v q p r h → 80 * k + s.2.1 k ≤ 13540 ∧ 80 * j + s.2.1 j ≤ 13540 := fun _ _ => ⟨by omega, by omega⟩
        by_cases z : s.1 < 30
        · have key : QK (f_X11_graft (mg 4625 I J R) 0 (Int32.ofNat (k)) y (Int32.ofNat (j))) (fun x => (gc (s.2.2.1 k) y (s.2.1 j) (s.2.1 k) ≤ 80 ∧ ∃ I2 sp, x = (.inl (Int32.ofNat (s.1)), mg 4625 I2 J R) ∧ WT (gc (s.2.2.1 k) y (s.2.1 j) (s.2.1 k)) (aro (gb (s.2.2.1 k) y (s.2.1 j) (s.2.2.1 j) (s.2.1 k))) sp ∧ InvC I2 t (sPush s (gc (s.2.2.1 k) y (s.2.1 j) (s.2.1 k)) (gb (s.2.2.1 k) y (s.2.1 j) (s.2.2.1 j) (s.2.1 k)) sp) b n f v q p r (hShelf h) ∧ ∀ x, 4561 ≤ x → I2 x = I x) ∨ (80 < gc (s.2.2.1 k) y (s.2.1 j) (s.2.1 k) ∧ ∃ I2, x = (.inr "java/lang/IllegalStateException", mg 4625 I2 J R) ∧ ∀ x, DC x ∨ 4561 ≤ x → I2 x = I x)) := by
            unfold f_X11_graft
            rw [if_pos ok_0, C_treeAt1 hR hC.2.1 hk, Sum.elim_inl, if_pos ok_0, C_treeAt1 hR hC.2.1 hj, Sum.elim_inl, if_pos ok_0, c_needName1 hy.1 hy.2, Option.bind_some, Sum.elim_inl, if_pos ok_0, C_room1 hR hC.2.1 z, Sum.elim_inl, gr_0_12 hR, if_pos (bT_xk isTr_4551)]
            refine q_bind (T_graft hR isTr_4551 c1 c2 hz0 (by omega) (by omega)) ?_
            rintro _ (⟨l1, I1, sp, rfl, hF1, hT1⟩ | ⟨l1, I1, rfl, hF1⟩)
            · rw [if_neg (show ¬ (1 : Int32) = 0 by decide), gr_0_2 hR, gr_0_12 hR, if_pos ok_11]
              have fr : ∀ x, ¬ (4551 ≤ x ∧ x < 4559) → I1 x = I x := fun x g => hF1 x (fun w => g (by unfold St at w; omega))
              refine q_bind (C_shelve hR (InvC_keep hC (fun x hx => fr x (by unfold DC at hx; omega))) hT1 z (by omega)) ?_
              rintro _ ⟨I4, rfl, hC4, hF4⟩
              refine q_ok (Or.inl ⟨l1, I4, sp, rfl, hT1.2.1, hC4, fun x hx => ?_⟩)
              rw [hF4 x (by omega), fr x (by omega)]
            · rw [if_pos rfl]
              refine q_ok (Or.inr ⟨l1, I1, rfl, fun x hx => hF1 x (fun w => by unfold St at w; unfold DC at hx; omega)⟩)
          obtain ⟨_, e1, ⟨l1, I2, sp, rfl, hW, hC2, hF2⟩ | ⟨l1, I2, rfl, hI2⟩⟩ := key
          · have ref : ∀ J, QK (f_X12_graft (mg 4625 I2 J R) 4561 (Int32.ofNat (k)) y (Int32.ofNat (j))) (fun x => ∃ I3, x = ((Int32.ofNat (s.1)), mg 4625 I3 J R) ∧ InvM I3 t (sPush s (gc (s.2.2.1 k) y (s.2.1 j) (s.2.1 k)) (gb (s.2.2.1 k) y (s.2.1 j) (s.2.2.1 j) (s.2.1 k)) sp) b n f v q p r (hShelf h) ∧ (∀ a k, a < 4561 → I3 a k = I2 a k) ∧ I3 4561 0 = 0) := by
              intro J
              have hM2 : InvM I2 t s b n f v q p r h := InvM_C hM hC.2.1 (fun x k hx _ => by rw [hF2 x hx])
              have hM3 : InvM (thI I2 0) t s b n f v q p r h := InvM_C hM2 hC.2.1 (fun x k hx hk => thI_n hk)
              unfold f_X12_graft f_X12_graft_j22 f_X12_graft_j34
              rw [if_pos ok_4561, M_isTree1 hM2.2.1 h30 hk, if_neg (by decide), if_pos ok_4561, M_isTree1 hM2.2.1 h30 hj, if_neg (by decide), m_isName1 hy.1 hy.2, Option.bind_some, if_neg (by decide), if_pos ok_4561, m_refO, M_shelf, M_shelf, if_pos ok_4561]
              refine q_bind (M_grafted hR (hM3.2.1.2 k hk).2 (hM3.2.1.2 j hj).2 hv0 (by omega) (by omega)) ?_
              rintro _ (⟨-, I4, rfl, hF4, hN4⟩ | ⟨l2, -⟩)
              · have hM4 : InvM I4 t s b n f v q p r h := InvM_keep hM3 h30 (CSh_80 hC.2.1) (fun a x hx => hF4 a x (fun w => by unfold Sm at w; unfold DM at hx; omega))
                rw [gi_4561, hM4.2.1.1, if_neg (show ¬ (Int32.ofNat (s.1)) = (30 : Int32) from fun y => absurd ((i32_eq (m := 30) (by omega) (by omega)).mp y) (by omega)), if_pos (show (Int32.ofNat (gc (s.2.2.1 k) y (s.2.1 j) (s.2.1 k))) ≤ (80 : Int32) from (i32_le (m := 80) (by omega) (by omega)).mpr l1)]
                unfold f_X12_graft_j82
                rw [if_pos ok_4561, m_refO, if_pos ok_4561]
                have hM5 : InvM (thI I4 0) t s b n f v q p r h := InvM_C hM4 hC.2.1 (fun x k hx hk => thI_n hk)
                have hN5 : MN (thI I4 0) 13540 (gc (s.2.2.1 k) y (s.2.1 j) (s.2.1 k)) (gb (s.2.2.1 k) y (s.2.1 j) (s.2.2.1 j) (s.2.1 k)) := MN_keep hN4 (fun a x g1 g2 g3 g4 => thI_n (by omega))
                refine q_bind (M_shelve (fr := 13540) hR hM5 hO h20 hf hN5 hW z (CSh_80 hC.2.1) l1 (by omega)) ?_
                rintro _ ⟨I5, rfl, hM6, g1, g2⟩
                exact q_ok ⟨I5, rfl, hM6, fun a x ha => by rw [g1 a x ha, thI_n (by omega), hF4 a x (fun w => by unfold Sm at w; omega), thI_n (by omega)], by rw [g2]; exact thI_0⟩
              · omega
            obtain ⟨_, e2, I3, rfl, hM4, g1, g2⟩ := ref (oJ J ((Int32.ofNat (s.1))).toInt64)
            exact op_ok (l_graft e1) e2 g2 (Pinv_sh hR hC2 hM4 g1 hO h20 hf (gb_all (fun x hx => top.2.1 j x hj hx) _ (fun x hx => top.2.1 k x hk hx)))
          · have e3 : f_L_graft (mg 4625 I J R) 0 (Int32.ofNat (k)) y (Int32.ofNat (j)) 4624 = some (3, mg 4625 I2 J R) := by
              unfold f_L_graft
              rw [if_pos ok_0, e1, Option.bind_some, q_let, Sum.elim_inr, if_neg (by decide), if_neg (by decide), if_pos rfl]
            have ref : QK (f_X12_graft (mg 4625 I2 J R) 4561 (Int32.ofNat (k)) y (Int32.ofNat (j))) (fun x => ∃ I3, x = (0, mg 4625 I3 J R) ∧ (∀ a k, a < 4561 → I3 a k = I2 a k) ∧ (∀ a k, DM a k → I3 a k = I2 a k) ∧ I3 4561 0 = 3) := by
              refine ref0 J I2 _ hI2 ?_
              have hM3 := hMt I2 hI2
              refine q_bind (M_grafted hR (hM3.2.1.2 k hk).2 (hM3.2.1.2 j hj).2 hv0 (by omega) (by omega)) ?_
              rintro _ (⟨l2, -⟩ | ⟨-, I4, rfl, hF4⟩)
              · omega
              · rw [gi_4561, hF4 4561 10 (fun w => by unfold Sm at w; omega), hM3.2.1.1, if_neg (show ¬ (Int32.ofNat (s.1)) = (30 : Int32) from fun y => absurd ((i32_eq (m := 30) (by omega) (by omega)).mp y) (by omega)), if_neg (show ¬ (81 : Int32) ≤ 80 by decide)]
                unfold f_X12_graft_j77 f_X12_graft_j82
                rw [if_pos ok_4561, m_refZ]
                exact q_ok ⟨_, rfl, fun a x ha => by rw [thI_n (by omega), hF4 a x (fun w => by unfold Sm at w; omega), thI_n (by omega)], fun a x hx => by rw [thI_n (by unfold DM at hx; omega), hF4 a x (fun w => by unfold Sm at w; unfold DM at hx; omega), thI_n (by unfold DM at hx; omega)], thI_0⟩
            obtain ⟨_, e2, I3, rfl, g1, g2, g3⟩ := ref
            refine op_ex e3 e2 g3 (by decide) (Pinv_mk hR (InvC_M (InvC_keep hC (fun x hx => hI2 x (Or.inl hx))) g1) (InvM_keep hM h30 (CSh_80 hC.2.1) (fun a x hx => ?_)) hO)
            rw [g2 a x hx, hI2 a (Or.inr (by unfold DM at hx; omega))]
        · have e3 : f_L_graft (mg 4625 I J R) 0 (Int32.ofNat (k)) y (Int32.ofNat (j)) 4624 = some (3, mg 4625 I J R) := by
            unfold f_L_graft f_X11_graft
            rw [if_pos ok_0, if_pos ok_0, C_treeAt1 hR hC.2.1 hk, Sum.elim_inl, if_pos ok_0, C_treeAt1 hR hC.2.1 hj, Sum.elim_inl, if_pos ok_0, c_needName1 hy.1 hy.2, Option.bind_some, Sum.elim_inl, if_pos ok_0, C_room0 hR hC.2.1 (by omega), Sum.elim_inr, Option.bind_some, q_let, Sum.elim_inr, if_neg (by decide), if_neg (by decide), if_pos rfl]
          have ref : QK (f_X12_graft (mg 4625 I J R) 4561 (Int32.ofNat (k)) y (Int32.ofNat (j))) (fun x => ∃ I3, x = (0, mg 4625 I3 J R) ∧ (∀ a k, a < 4561 → I3 a k = I a k) ∧ (∀ a k, DM a k → I3 a k = I a k) ∧ I3 4561 0 = 3) := by
            refine ref0 J I _ (fun _ _ => rfl) ?_
            have hM3 := hMt I (fun _ _ => rfl)
            have fin : ∀ (I4 : Nat → Nat → Int32) (w : Int32), FrK (Sm 13540 13640) (thI I 0) I4 → QK ((gI (mg 4625 I4 J R) 4561 12 10).bind (fun x7 => (if x7 = (30 : Int32) then f_X12_graft_j77 (mg 4625 I4 J R) 4561 w (0 : Int32) (0 : Int32) 4561 else (if w ≤ (80 : Int32) then f_X12_graft_j82 (mg 4625 I4 J R) 4561 w (0 : Int32) (0 : Int32) (0 : Int32) 4561 else f_X12_graft_j77 (mg 4625 I4 J R) 4561 w (0 : Int32) (0 : Int32) 4561)))) (fun x => ∃ I3, x = (0, mg 4625 I3 J R) ∧ (∀ a k, a < 4561 → I3 a k = I a k) ∧ (∀ a k, DM a k → I3 a k = I a k) ∧ I3 4561 0 = 3) := by
              intro I4 w hF4
              rw [gi_4561, hF4 4561 10 (fun w => by unfold Sm at w; omega), hM3.2.1.1, if_pos (show (Int32.ofNat (s.1)) = (30 : Int32) by rw [show s.1 = 30 by omega]; rfl)]
              unfold f_X12_graft_j77 f_X12_graft_j82
              rw [if_pos ok_4561, m_refZ]
              exact q_ok ⟨_, rfl, fun a x ha => by rw [thI_n (by omega), hF4 a x (fun w => by unfold Sm at w; omega), thI_n (by omega)], fun a x hx => by rw [thI_n (by unfold DM at hx; omega), hF4 a x (fun w => by unfold Sm at w; unfold DM at hx; omega), thI_n (by unfold DM at hx; omega)], thI_0⟩
            refine q_bind (M_grafted hR (hM3.2.1.2 k hk).2 (hM3.2.1.2 j hj).2 hv0 (by omega) (by omega)) ?_
            rintro _ (⟨-, I4, rfl, hF4, -⟩ | ⟨-, I4, rfl, hF4⟩)
            · exact fin I4 _ hF4
            · exact fin I4 _ hF4
          obtain ⟨_, e2, I3, rfl, g1, g2, g3⟩ := ref
          exact op_ex e3 e2 g3 (by decide) (Pinv_mk hR (InvC_M hC g1) (InvM_keep hM h30 (CSh_80 hC.2.1) g2) hO)
      · have e3 : f_L_graft (mg 4625 I J R) 0 (Int32.ofNat (k)) y (Int32.ofNat (j)) 4624 = some (2, mg 4625 I J R) := by
          unfold f_L_graft f_X11_graft
          rw [if_pos ok_0, if_pos ok_0, C_treeAt1 hR hC.2.1 hk, Sum.elim_inl, if_pos ok_0, C_treeAt1 hR hC.2.1 hj, Sum.elim_inl, if_pos ok_0, c_needName0 hy, Option.bind_some, Sum.elim_inr, Option.bind_some, q_let, Sum.elim_inr, if_neg (by decide), if_pos rfl]
        have e2 : f_X12_graft (mg 4625 I J R) 4561 (Int32.ofNat (k)) y (Int32.ofNat (j)) = some (0, mg 4625 (thI I 2) J R) := by
          unfold f_X12_graft f_X12_graft_j22 f_X12_graft_j34
          rw [if_pos ok_4561, M_isTree1 hM.2.1 h30 hk, if_neg (by decide), if_pos ok_4561, M_isTree1 hM.2.1 h30 hj, if_neg (by decide), m_isName0 hy, Option.bind_some, if_pos rfl, if_pos ok_4561, m_refY]
        exact op_ex e3 e2 thI_0 (by decide) (Pinv_th hR hC hM hO (fun x _ => rfl))
    · refine bad1 ?_ ?_
      · unfold f_X11_graft
        rw [if_pos ok_0, C_treeAt1 hR hC.2.1 hk, Sum.elim_inl, if_pos ok_0, C_treeAt0 hR hC.2.1 hz, Sum.elim_inr]
      · unfold f_X12_graft
        rw [if_pos ok_4561, M_isTree1 hM.2.1 h30 hk, if_neg (by decide), if_pos ok_4561, M_isTree0 hM.2.1 h30 hz, if_pos rfl]
        exact j17 _ _
  · refine bad1 ?_ ?_
    · unfold f_X11_graft
      rw [if_pos ok_0, C_treeAt0 hR hC.2.1 hx, Sum.elim_inr]
    · unfold f_X12_graft
      rw [if_pos ok_4561, M_isTree0 hM.2.1 h30 hx, if_pos rfl]
      exact j17 _ _
end OE
