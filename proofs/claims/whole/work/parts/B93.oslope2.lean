/-! calls: slope -/
section OSL
variable {I : Nat → Nat → Int32} {J : Nat → Nat → Int64} {R : Nat → Nat → Option Nat} {t : GT} {s : GS} {b : GB} {n : GN} {f : GF} {v : GV} {q : Nat → GV} {p : GT} {r : GR} {h : GH} {β : Type}
theorem l_slope {w x y : Int32} {I1 : Nat → Nat → Int32} (h : f_X11_slope (mg 4625 I J R) 0 x y = some (.inl w, mg 4625 I1 J R)) : f_L_slope (mg 4625 I J R) 0 x y 4624 = some (0, mg 4625 I1 (oJ J w.toInt64) R) := by
  unfold f_L_slope
  rw [if_pos ok_0, h, Option.bind_some, q_let, Sum.elim_inl, owJ0]
  rfl
theorem C_result8 {F : Nat → Option β} (hR : RA R) : (f_X8_result (mg 4625 I J R) 1784).bind F = F 1806 := by
  unfold f_X8_result
  rw [gr_1784_2 hR, show ((aR (mg 4625 I J R) 1785 16 0).bind id).bind (fun x2 => some x2) = some 1806 from C_prt (k := 0) hR (by omega)]
  rfl
theorem o_slope (hR : RA R) (H : Inv I) : op_slope Pinv (mg 4625 I J R) := by
  obtain ⟨t, s, b, n, f, v, q, p, r, h, hC, hM, hO⟩ := H
  intro x y0
  have h30 := hC.2.1.1
  have hOb := (OKH_top hO).1
  show opW Pinv (f_L_slope (mg 4625 I J R) 0 x (ch y0) 4624) (fun σ => f_X12_slope σ 4561 x (ch y0))
  generalize ch y0 = y
  rcases i32_two s.1 (by omega) x with ⟨k, hk, rfl⟩ | hx
  rotate_left
  · have e3 : f_L_slope (mg 4625 I J R) 0 x y 4624 = some (1, mg 4625 I J R) := by
      unfold f_L_slope f_X11_slope
      rw [if_pos ok_0, if_pos ok_0, C_treeAt0 hR hC.2.1 hx, Sum.elim_inr, Option.bind_some, q_let, Sum.elim_inr, if_pos rfl]
    have e2 : f_X12_slope (mg 4625 I J R) 4561 x y = some (0, mg 4625 (thI I 1) J R) := by
      unfold f_X12_slope f_X12_slope_j14 f_X12_slope_j26 f_X12_slope_j49 f_X12_slope_j50
      rw [if_pos ok_4561, M_isTree0 hM.2.1 h30 hx, if_pos rfl]
      rcases m_isNameE (σ := mg 4625 I J R) (c := y) with e | e
      · rw [e, Option.bind_some, if_pos rfl, if_pos ok_4561, M_isTree0 hM.2.1 h30 hx, if_pos rfl, if_pos ok_4561, m_refX]
      · rw [e, Option.bind_some, if_neg (by decide), if_pos ok_4561, M_isTree0 hM.2.1 h30 hx, if_pos rfl, if_pos ok_4561, m_refX]
    exact op_ex e3 e2 thI_0 (by decide) (Pinv_th hR hC hM hO (fun x _ => rfl))
  have ct := hC.2.1.2.2 k hk
  have mt := (hM.2.1.2 k hk).2
  have n80 := (CT_n ct).2
  have hT : TtO b (shT s k) := tro_of hC hO hk
  have mtold := fun (J : Nat → Nat → Int64) => M_areTold (J := J) (a := 80 * k) (T := shT s k) hR mt hM.2.2.1 hOb hT
  by_cases hy : (97 : Int32) ≤ y ∧ y ≤ (122 : Int32)
  rotate_left
  · have e3 : f_L_slope (mg 4625 I J R) 0 (Int32.ofNat (k)) y 4624 = some (2, mg 4625 I J R) := by
      unfold f_L_slope f_X11_slope
      rw [if_pos ok_0, if_pos ok_0, C_treeAt1 hR hC.2.1 hk, Sum.elim_inl, if_pos ok_0, c_needName0 hy, Option.bind_some, Sum.elim_inr, Option.bind_some, q_let, Sum.elim_inr, if_neg (by decide), if_pos rfl]
    have e2 : f_X12_slope (mg 4625 I J R) 4561 (Int32.ofNat (k)) y = some (0, mg 4625 (thI I 2) J R) := by
      unfold f_X12_slope f_X12_slope_j14 f_X12_slope_j26 f_X12_slope_j49 f_X12_slope_j50
      rw [if_pos ok_4561, M_isTree1 hM.2.1 h30 hk, if_neg (by decide), m_isName0 hy, Option.bind_some, if_pos rfl, if_pos ok_4561, M_isTree1 hM.2.1 h30 hk, if_neg (by decide), M_shelf, if_pos ok_4561]
      rcases mtold J with ⟨e, -⟩ | ⟨e, -⟩
      · rw [e, Option.bind_some, if_neg (by decide), if_pos ok_4561, m_refY]
      · rw [e, Option.bind_some, if_pos rfl, if_pos ok_4561, m_refY]
    exact op_ex e3 e2 thI_0 (by decide) (Pinv_th hR hC hM hO (fun x _ => rfl))
  obtain ⟨nm, h1, rfl⟩ : ∃ nm, nm < 123 ∧ y = (Int32.ofNat (nm)) := by
    rcases i32_two 123 (by omega) y with ⟨m, hm, rfl⟩ | z | z
    · exact ⟨m, hm, rfl⟩
    · exact absurd (Int32.lt_of_le_of_lt hy.1 z) (by decide)
    · exact absurd (Int32.le_trans z hy.2) (by decide)
  obtain ⟨u, eu, hu⟩ := C_hasRules (J := J) (a := 70 + 8 * k) (T := shT s k) hR hC.2.2.1 hOb ct hT
  rcases hu with ⟨rfl, ht⟩ | ⟨rfl, nt⟩
  rotate_left
  · have e3 : f_L_slope (mg 4625 I J R) 0 (Int32.ofNat (k)) (Int32.ofNat (nm)) 4624 = some (3, mg 4625 I J R) := by
      unfold f_L_slope f_X11_slope
      rw [if_pos ok_0, if_pos ok_0, C_treeAt1 hR hC.2.1 hk, Sum.elim_inl, if_pos ok_0, c_needName1 hy.1 hy.2, Option.bind_some, Sum.elim_inl, gr_0_8 hR, if_pos ok_2206, eu, Option.bind_some, if_pos rfl, Option.bind_some, q_let, Sum.elim_inr, if_neg (by decide), if_neg (by decide), if_pos rfl]
    have e2 : f_X12_slope (mg 4625 I J R) 4561 (Int32.ofNat (k)) (Int32.ofNat (nm)) = some (0, mg 4625 (thI I 3) J R) := by
      unfold f_X12_slope f_X12_slope_j14 f_X12_slope_j26 f_X12_slope_j49 f_X12_slope_j50
      rw [if_pos ok_4561, M_isTree1 hM.2.1 h30 hk, if_neg (by decide), m_isName1 hy.1 hy.2, Option.bind_some, if_neg (by decide), if_pos ok_4561, M_isTree1 hM.2.1 h30 hk, if_neg (by decide), M_shelf, if_pos ok_4561]
      rcases mtold J with ⟨e, z⟩ | ⟨e, -⟩
      · exact absurd z nt
      · rw [e, Option.bind_some, if_pos rfl, if_pos ok_4561, m_refZ]
    exact op_ex e3 e2 thI_0 (by decide) (Pinv_th hR hC hM hO (fun x _ => rfl))
  have hE := env_of hC hM hO
  have hg : ∀ l, l < 26 → Gd (n.2 l) := hE.2.2.2.1
  have hN : CNm I n := hC.2.2.2.1
  obtain ⟨_, e1, I1, f1, hy1⟩ := C_reckonPart (J := J) (a := 70 + 8 * k) (T := shT s k) (nm := nm) hR hOb hg (by omega) hT n80 ht (by omega) hC.2.2.1 hN ct
  have hC1 : InvC I1 t s b n f v q p r h := InvC_keep hC (fun x hx => funext (fun j => f1 x j (by unfold DC at hx; unfold Fcs Fm; omega)))
  have k1 : ∀ x j, 4561 ≤ x → I1 x j = I x j := fun x j hx => f1 x j (by unfold Fcs Fm; omega)
  have ref : ∀ (J : Nat → Nat → Int64) (I2 : Nat → Nat → Int32), (∀ x j, 4561 ≤ x → I2 x j = I x j) → CSh I2 s → QK (f_X12_slope (mg 4625 I2 J R) 4561 (Int32.ofNat (k)) (Int32.ofNat (nm))) (fun z => ∃ I3, (∀ x j, x < 4561 → I3 x j = I2 x j) ∧ I3 4561 0 = 0 ∧ match slF b n nm (shT s k) 100 0 with
      | .inl e => z = ((Int32.ofNat (e)), mg 4625 I3 J R) ∧ InvM I3 t s b n f v q p r h
      | .inr (_, w) => z = (0, mg 4625 I3 J R) ∧ InvM I3 t s b n f w q p r h) := by
    intro J I2 k2 hc2
    have hM2 : InvM I2 t s b n f v q p r h := InvM_C hM hC.2.1 (fun x k hx _ => k2 x k hx)
    have hM3 : InvM (thI I2 0) t s b n f v q p r h := InvM_C hM2 hC.2.1 (fun x k hx hk => thI_n hk)
    have mt2 := (hM2.2.1.2 k hk).2
    unfold f_X12_slope f_X12_slope_j14 f_X12_slope_j26 f_X12_slope_j49 f_X12_slope_j50
    rw [if_pos ok_4561, M_isTree1 hM2.2.1 h30 hk, if_neg (by decide), m_isName1 hy.1 hy.2, Option.bind_some, if_neg (by decide), if_pos ok_4561, M_isTree1 hM2.2.1 h30 hk, if_neg (by decide), M_shelf, if_pos ok_4561]
    rcases M_areTold (J := J) (a := 80 * k) (T := shT s k) hR mt2 hM2.2.2.1 hOb hT with ⟨e, -⟩ | ⟨-, z⟩
    rotate_left
    · exact absurd ht z
    rw [e, Option.bind_some, if_neg (by decide), if_pos ok_4561, m_refO, M_shelf, if_pos ok_4561]
    refine q_bind (M_slopes (T := shT s k) (nm := nm) hR hOb hg hT n80 ht (by omega) hM3.2.2.1 hM3.2.2.2.1 (hM3.2.1.2 k hk).2) ?_
    rintro z ⟨I3, f3, hz⟩
    have hM4 : InvM I3 t s b n f v q p r h := InvM_keep hM3 h30 (CSh_80 hC.2.1) (fun a x hx => f3 a x (fun w => by unfold Frp at w; unfold DM at hx; omega))
    have c3 : ∀ x j, x < 4561 → I3 x j = I2 x j := fun x j hx => by rw [f3 x j (by unfold Frp; omega), thI_n (by omega)]
    have z3 : I3 4561 0 = 0 := by rw [f3 4561 0 (by unfold Frp; omega)]; exact thI_0
    unfold f_X12_slope_j82
    rcases hz with ⟨w0, w, e, rfl, g4⟩ | ⟨er, e, e1, e2, rfl⟩
    · rw [e]
      dsimp only
      rw [if_pos rfl, show (0 : Int32) = (Int32.ofNat (0)) from rfl, pAt, Option.bind_some, if_pos ok_4561]
      have hC3 : CSh I3 s := CSh_keep hc2 (fun x hx => funext (fun j => c3 x j (by omega)))
      refine q_bind (M_lat (i := 2501 + 2 * 0) hR hM4 hC3 g4 (by omega) (by omega)) ?_
      rintro _ ⟨I4, rfl, hM5, -, c4, z4⟩
      exact q_ok ⟨I4, fun x j hx => by rw [c4 x j hx, c3 x j hx], by rw [z4]; exact z3, rfl, hM5⟩
    · rw [e]
      dsimp only
      rw [if_neg (show ¬ (Int32.ofNat (er)) = (0 : Int32) from i32_ne (b := 0) (by omega) (by omega) (by omega))]
      exact q_ok ⟨I3, c3, z3, rfl, hM4⟩
  rcases hy1 with ⟨w0, w, e, rfl, g4⟩ | ⟨er, e, e1', e2', rfl⟩
  · have gw : Gd w := by
      have := slF_O (nm := nm) hOb hT ht hg 100 0 hT.1.1
      rw [e] at this
      exact this.2.1
    obtain ⟨_, e4, I2, rfl, hC2, -, f2⟩ := C_lat (J := J) hR hC1 g4 (g7 gw) (by omega)
    have k2 : ∀ x j, 4561 ≤ x → I2 x j = I x j := fun x j hx => by
      rw [f2 x (fun z => by unfold Sf at z; omega)]
      exact k1 x j hx
    have e3 : f_X11_slope (mg 4625 I J R) 0 (Int32.ofNat (k)) (Int32.ofNat (nm)) = some (.inl 0, mg 4625 I2 J R) := by
      unfold f_X11_slope f_X11_slope_j63
      rw [if_pos ok_0, C_treeAt1 hR hC.2.1 hk, Sum.elim_inl, if_pos ok_0, c_needName1 hy.1 hy.2, Option.bind_some, Sum.elim_inl, gr_0_8 hR, if_pos ok_2206, eu, Option.bind_some, if_neg (by decide), gr_0_7 hR, if_pos ok_1784, e1, Option.bind_some, if_pos rfl, gr_0_10 hR, gr_0_7 hR, if_pos ok_1784, C_result8 hR, if_pos (bF_xk isF_4541), e4, Option.bind_some]
    obtain ⟨z, e2, I3, c3, z3, hz⟩ := ref (oJ J (0 : Int32).toInt64) I2 k2 hC2.2.1
    rw [e] at hz
    obtain ⟨rfl, hM3⟩ := hz
    exact op_ok (l_slope e3) e2 z3 (Pinv_mk hR (InvC_M hC2 c3) hM3 hO)
  · have e3 : f_X11_slope (mg 4625 I J R) 0 (Int32.ofNat (k)) (Int32.ofNat (nm)) = some (.inl (Int32.ofNat (er)), mg 4625 I1 J R) := by
      unfold f_X11_slope f_X11_slope_j63
      rw [if_pos ok_0, C_treeAt1 hR hC.2.1 hk, Sum.elim_inl, if_pos ok_0, c_needName1 hy.1 hy.2, Option.bind_some, Sum.elim_inl, gr_0_8 hR, if_pos ok_2206, eu, Option.bind_some, if_neg (by decide), gr_0_7 hR, if_pos ok_1784, e1, Option.bind_some, if_neg (show ¬ (Int32.ofNat (er)) = (0 : Int32) from i32_ne (b := 0) (by omega) (by omega) (by omega))]
    obtain ⟨z, e2, I3, c3, z3, hz⟩ := ref (oJ J ((Int32.ofNat (er))).toInt64) I1 k1 hC1.2.1
    rw [e] at hz
    obtain ⟨rfl, hM3⟩ := hz
    exact op_ok (l_slope e3) e2 z3 (Pinv_mk hR (InvC_M hC1 c3) hM3 hO)
end OSL
