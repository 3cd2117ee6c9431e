/-! calls: gather -/
section OGA
variable {I : Nat → Nat → Int32} {J : Nat → Nat → Int64} {R : Nat → Nat → Option Nat} {t : GT} {s : GS} {b : GB} {n : GN} {f : GF} {v : GV} {q q' : Nat → GV} {p : GT} {r : GR} {h : GH} {β : Type}
theorem C_kept {I' : Nat → Nat → Int32} (H : InvC I t s b n f v q p r h) (e : ∀ x, DC x → ¬ (4416 ≤ x ∧ x < 4541 ∧ (x - 4416) % 15 < 5) → I' x = I x) (hk : CKp I' q') : InvC I' t s b n f v q' p r h := by
  obtain ⟨h1, h2, h3, h4, h5, h6, h7, h8, h9, h10⟩ := H
  refine ⟨CTy_keep h1 ?_, CSh_keep h2 ?_, CTb_keep h3 ?_, CNm_keep h4 ?_, CFn_keep h5 ?_, CV_keep h6 ?_, hk, CPr_keep h8 ?_, CTr_keep h9 ?_, CHs_keep h10 ?_⟩
  case refine_6 => intro x g1 g2; exact e x (by unfold DC; omega) (by omega)
  all_goals (intro x g; exact e x (by unfold DC; omega) (by omega))
theorem M_kept {I' : Nat → Nat → Int32} (H : InvM I t s b n f v q p r h) (hC : CSh I s) (e : ∀ a k, DM a k → ¬ (a = 4564 ∧ 1316 ≤ k ∧ k < 1568) → I' a k = I a k) (hk : MKp I' q') : InvM I' t s b n f v q' p r h := by
  obtain ⟨h1, h2, h3, h4, h5, h6, h7, h8, h9, h10⟩ := H
  refine ⟨MTy_keep h1 ?_, MSh_keep h2 hC.1 ?_ (CSh_80 hC), MTb_keep h3 ?_, MNm_keep h4 ?_, MFn_keep h5 ?_, MV_keep h6 ?_, hk, MPr_keep h8 ?_, MTr_keep h9 ?_, MHs_keep h10 ?_⟩
  case refine_6 => intro k g1 g2; exact e _ k (by unfold DM; omega) (by omega)
  all_goals (intro a k g; exact e a k (by unfold DM; omega) (by omega))
theorem l_gather {w x y : Int32} {I1 : Nat → Nat → Int32} (h : f_X11_gather (mg 4625 I J R) 0 x y = some (.inl w, mg 4625 I1 J R)) : f_L_gather (mg 4625 I J R) 0 x y 4624 = some (0, mg 4625 I1 (oJ J w.toInt64) R) := by
  unfold f_L_gather
  rw [if_pos ok_0, h, Option.bind_some, q_let, Sum.elim_inl, owJ0]
  rfl
theorem M_gaTail {P : Po} (hR : RA R) (hP : MRow I 0 P) (kp : PoK P) : QK ((xloop f_X12_gather_s56 xF (4561, 0, mg 4625 I J R)).bind (Sum.elim (fun g => some g) (fun e => f_X12_gather_j81 e.2 e.1))) (fun z => ∃ I', z = ((Int32.ofNat (dgP P)), mg 4625 I' J R) ∧ R3 I I' ∧ Kvs (fun x => 47 ≤ x ∧ x < 56) (I 4564) (I' 4564) ∧ MKp I' (fun k => gv (P k))) := by
  refine q_bind (P := fun x => ∃ I', x = .inr (4561, mg 4625 I' J R) ∧ R3 I I' ∧ Kvs (fun x => 47 ≤ x ∧ x < 56) (I 4564) (I' 4564) ∧ MKp I' (fun k => gv (P k))) ?_ ?_
  · refine q_for 9 (fun i s => ∃ I', s = (4561, (Int32.ofNat (i)), mg 4625 I' J R) ∧ R3 I I' ∧ Kvs (fun x => 47 ≤ x ∧ x < 56) (I 4564) (I' 4564) ∧ ∀ j, j < i → Vv (I' 4564) (47 + j) (P j).num (P j).den) ?_ ?_ (i := 0) ⟨I, rfl, R3_rfl, Kvs_rfl, fun j hj => absurd hj (Nat.not_lt_zero _)⟩ (by omega) (by unfold xF; omega)
    · rintro i s hi ⟨I1, rfl, r1, k1, g1⟩
      have V1 : Vv (I1 4564) (2700 + 9 * 0 + i) (P i).num (P i).den := Vv_ks (hP i hi) k1 (by omega)
      unfold f_X12_gather_s56
      dsimp only
      rw [q_let, q_let, q_let, if_neg (show ¬ (9 : Int32) ≤ (Int32.ofNat (i)) from fun y => absurd ((i32_le (k := 9) (by omega) (by omega)).mp y) (by omega)), show f_X12_coefficientAt (mg 4625 I1 J R) 0 (Int32.ofNat (i)) = some (Int32.ofNat (2700 + 9 * 0 + i)) from cAt (r := 0), Option.bind_some, if_pos ok_4561, show (47 : Int32) + (Int32.ofNat (i)) = (Int32.ofNat (47 + i)) from n_add 47 i]
      refine q_bind (M_copy (a := 47 + i) (b := 2700 + 9 * 0 + i) hR (by omega) (by omega) (by omega) V1) ?_
      rintro _ ⟨I2, rfl, r2, -, -, kv, V2⟩
      rw [q_let, show (Int32.ofNat (i)) + (1 : Int32) = (Int32.ofNat (i + 1)) from n_add i 1]
      refine q_go ⟨I2, rfl, R3_tr r1 r2, Kvs_tr k1 (Kv_s kv ⟨by omega, by omega⟩), fun j hj => ?_⟩
      by_cases z : j = i
      · subst z
        exact V2
      · exact (g1 j (by omega)).keep kv (by omega)
    · rintro s ⟨I1, rfl, r1, k1, g1⟩
      unfold f_X12_gather_s56
      dsimp only
      rw [q_let, q_let, q_let, if_pos (by decide)]
      exact q_ex ⟨I1, rfl, r1, k1, fun j hj => g1 j hj⟩
  · rintro _ ⟨I1, rfl, r1, k1, g1⟩
    simp only [Sum.elim_inr]
    unfold f_X12_gather_j81
    have P1 : MRow I1 0 P := MRow_ks hP k1 (fun j hj => by omega)
    rw [if_pos ok_4561, show f_X12_degreeOf (mg 4625 I1 J R) 4561 0 = some (Int32.ofNat (dgP P)) from M_degreeOf (r := 0) hR (by omega) P1]
    exact q_ok ⟨I1, rfl, r1, k1, g1⟩
theorem o_gather (hR : RA R) (H : Inv I) : op_gather Pinv (mg 4625 I J R) := by
  obtain ⟨t, s, b, n, f, v, q, p, r, h, hC, hM, hO⟩ := H
  intro x y0
  have h30 := hC.2.1.1
  have hOb := (OKH_top hO).1
  show opW Pinv (f_L_gather (mg 4625 I J R) 0 x (ch y0) 4624) (fun σ => f_X12_gather σ 4561 x (ch y0))
  generalize ch y0 = y
  rcases i32_two s.1 (by omega) x with ⟨k, hk, rfl⟩ | hx
  rotate_left
  · have e3 : f_L_gather (mg 4625 I J R) 0 x y 4624 = some (1, mg 4625 I J R) := by
      unfold f_L_gather f_X11_gather
      rw [if_pos ok_0, if_pos ok_0, C_treeAt0 hR hC.2.1 hx, Sum.elim_inr, Option.bind_some, q_let, Sum.elim_inr, if_pos rfl]
    have e2 : f_X12_gather (mg 4625 I J R) 4561 x y = some (0, mg 4625 (thI I 1) J R) := by
      unfold f_X12_gather f_X12_gather_j14 f_X12_gather_j26
      rw [if_pos ok_4561, M_isTree0 hM.2.1 h30 hx, if_pos rfl]
      rcases m_isNameE (σ := mg 4625 I J R) (c := y) with e | e
      · rw [e, Option.bind_some, if_pos rfl, if_pos ok_4561, m_refX]
      · rw [e, Option.bind_some, if_neg (by decide), if_pos ok_4561, m_refX]
    exact op_ex e3 e2 thI_0 (by decide) (Pinv_th hR hC hM hO (fun x _ => rfl))
  have ct := hC.2.1.2.2 k hk
  have mt := (hM.2.1.2 k hk).2
  have n80 := (CT_n ct).2
  have hT : TtO b (shT s k) := tro_of hC hO hk
  by_cases hy : (97 : Int32) ≤ y ∧ y ≤ (122 : Int32)
  rotate_left
  · have e3 : f_L_gather (mg 4625 I J R) 0 (Int32.ofNat (k)) y 4624 = some (2, mg 4625 I J R) := by
      unfold f_L_gather f_X11_gather
      rw [if_pos ok_0, if_pos ok_0, C_treeAt1 hR hC.2.1 hk, Sum.elim_inl, if_pos ok_0, c_needName0 hy, Option.bind_some, Sum.elim_inr, Option.bind_some, q_let, Sum.elim_inr, if_neg (by decide), if_pos rfl]
    have e2 : f_X12_gather (mg 4625 I J R) 4561 (Int32.ofNat (k)) y = some (0, mg 4625 (thI I 2) J R) := by
      unfold f_X12_gather f_X12_gather_j14 f_X12_gather_j26
      rw [if_pos ok_4561, M_isTree1 hM.2.1 h30 hk, if_neg (by decide), m_isName0 hy, Option.bind_some, if_pos rfl, if_pos ok_4561, m_refY]
    exact op_ex e3 e2 thI_0 (by decide) (Pinv_th hR hC hM hO (fun x _ => rfl))
  obtain ⟨nm, h1, rfl⟩ : ∃ nm, nm < 123 ∧ y = (Int32.ofNat (nm)) := by
    rcases i32_two 123 (by omega) y with ⟨m, hm, rfl⟩ | z | z
    · exact ⟨m, hm, rfl⟩
    · exact absurd (Int32.lt_of_le_of_lt hy.1 z) (by decide)
    · exact absurd (Int32.le_trans z hy.2) (by decide)
  have hE := env_of hC hM hO
  have hg : ∀ l, l < 26 → Gd (n.2 l) := hE.2.2.2.1
  have hN : CNm I n := hC.2.2.2.1
  have t0 : 0 < (shT s k).1 := hT.1.1
  obtain ⟨_, e1, I1, f1, hy1⟩ := C_collect (J := J) (a := 70 + 8 * k) (T := shT s k) (nm := nm) (i := 0) hR hOb hg (by omega) hT n80 (by omega) t0 hC.2.2.1 hN ct
  have hC1 : InvC I1 t s b n f v q p r h := InvC_keep hC (fun x hx => funext (fun j => f1 x j (by unfold DC at hx; unfold Fgc Fga; omega)))
  have k1 : ∀ x j, 4561 ≤ x → I1 x j = I x j := fun x j hx => f1 x j (by unfold Fgc Fga; omega)
  have ref : ∀ (J : Nat → Nat → Int64) (I2 : Nat → Nat → Int32), (∀ x j, 4561 ≤ x → I2 x j = I x j) → CSh I2 s → QK (f_X12_gather (mg 4625 I2 J R) 4561 (Int32.ofNat (k)) (Int32.ofNat (nm))) (fun z => ∃ I3, (∀ x j, x < 4561 → I3 x j = I2 x j) ∧ I3 4561 0 = 0 ∧ match gaF b n nm (shT s k) 100 0 with
      | none => z = (-1, mg 4625 I3 J R) ∧ InvM I3 t s b n f v q p r h
      | some P => z = ((Int32.ofNat (dgP P)), mg 4625 I3 J R) ∧ InvM I3 t s b n f v (fun j => gv (P j)) p r h) := by
    intro J I2 k2 hc2
    have hM2 : InvM I2 t s b n f v q p r h := InvM_C hM hC.2.1 (fun x k hx _ => k2 x k hx)
    have hM3 : InvM (thI I2 0) t s b n f v q p r h := InvM_C hM2 hC.2.1 (fun x k hx hk => thI_n hk)
    unfold f_X12_gather f_X12_gather_j14 f_X12_gather_j26
    rw [if_pos ok_4561, M_isTree1 hM2.2.1 h30 hk, if_neg (by decide), m_isName1 hy.1 hy.2, Option.bind_some, if_neg (by decide), if_pos ok_4561, m_refO, gs_4561, M_shelf, if_pos ok_4561]
    have c3 : ∀ x j, x < 4561 → up (thI I2 0) 4561 68 0 x j = I2 x j := fun x j hx => by rw [up_n (by omega), thI_n (by omega)]
    have z3 : up (thI I2 0) 4561 68 0 4561 0 = 0 := by rw [up_n (by omega)]; exact thI_0
    have t3 : up (thI I2 0) 4561 68 0 4561 68 = (Int32.ofNat (0)) := up_s
    have hM4 : InvM (up (thI I2 0) 4561 68 0) t s b n f v q p r h := InvM_keep hM3 h30 (CSh_80 hC.2.1) (fun a x hx => up_n (by unfold DM at hx; omega))
    generalize up (thI I2 0) 4561 68 0 = I3 at *
    refine q_bind (M_gathers (T := shT s k) (nm := nm) (h0 := 0) hR hOb hg hT n80 (by omega) (by omega) hM4.2.2.1 hM4.2.2.2.1 (hM4.2.1.2 k hk).2 t3) ?_
    rintro z ⟨I4, f4, hz⟩
    have hM5 : InvM I4 t s b n f v q p r h := InvM_keep hM4 h30 (CSh_80 hC.2.1) (fun a x hx => f4 a x (fun w => by unfold Fgm at w; unfold DM at hx; omega))
    have c4 : ∀ x j, x < 4561 → I4 x j = I2 x j := fun x j hx => by rw [f4 x j (by unfold Fgm; omega), c3 x j hx]
    have z4 : I4 4561 0 = 0 := by rw [f4 4561 0 (by unfold Fgm; omega)]; exact z3
    rcases hz with ⟨P, e, rfl, M4, -⟩ | ⟨e, rfl⟩
    · have kp : PoK P := gaF_K (nm := nm) hT hOb hg 100 0 P t0 e
      rw [e]
      dsimp only
      rw [if_neg (by decide), q_let]
      refine q_mono (M_gaTail hR M4 kp) ?_
      rintro _ ⟨I5, rfl, r5, k5, g5⟩
      refine ⟨I5, fun x j hx => by rw [r5.1 x (by omega)]; exact c4 x j hx, by rw [r5.1 4561 (by omega)]; exact z4, rfl, ?_⟩
      refine M_kept hM5 (CSh_keep hc2 (fun x hx => funext (fun j => c4 x j (by omega)))) (fun a x hx hn => ?_) g5
      by_cases w : a = 4564
      · subst w
        exact k5 x (by omega)
      · rw [r5.1 a (by unfold DM at hx; omega)]
    · rw [e]
      dsimp only
      rw [if_pos rfl]
      exact q_ok ⟨I4, c4, z4, rfl, hM5⟩
  rcases hy1 with ⟨P, e, rfl, g4⟩ | ⟨e, rfl⟩
  · have kp : PoK P := gaF_K (nm := nm) hT hOb hg 100 0 P t0 e
    have d8 : dgP P ≤ 8 := dgF_le P 8
    obtain ⟨_, e4, I2, rfl, f2, g2⟩ := C_keep (J := J) hR kp g4
    have hC2 : InvC I2 t s b n f v (fun j => gv (P j)) p r h := C_kept hC1 (fun x _ hn => f2 x hn) g2
    have k2 : ∀ x j, 4561 ≤ x → I2 x j = I x j := fun x j hx => by
      rw [f2 x (by omega)]
      exact k1 x j hx
    have e3 : f_X11_gather (mg 4625 I J R) 0 (Int32.ofNat (k)) (Int32.ofNat (nm)) = some (.inl (Int32.ofNat (dgP P)), mg 4625 I2 J R) := by
      unfold f_X11_gather f_X11_gather_j36
      rw [if_pos ok_0, C_treeAt1 hR hC.2.1 hk, Sum.elim_inl, if_pos ok_0, c_needName1 hy.1 hy.2, Option.bind_some, Sum.elim_inl, gr_0_9 hR, if_pos ok_2215, show f_X3_collect (mg 4625 I J R) 2215 (70 + 8 * k) 0 (Int32.ofNat (nm)) = _ from e1, Option.bind_some, if_neg (show ¬ (Int32.ofNat (dgP P)) = (-1 : Int32) from fun y => absurd (congrArg (fun z => z < (0 : Int32)) y) (by
        intro w
        have : (Int32.ofNat (dgP P)) < (0 : Int32) := by
          have w : ((Int32.ofNat (dgP P)) < (0 : Int32)) = ((-1 : Int32) < 0) := w
          rw [w]
          decide
        exact absurd this (i32_nlt0 (by omega)))), gr_0_9 hR, if_pos ok_2215, e4, Option.bind_some]
    obtain ⟨z, e2, I3, c3, z3, hz⟩ := ref (oJ J ((Int32.ofNat (dgP P))).toInt64) I2 k2 hC2.2.1
    rw [e] at hz
    obtain ⟨rfl, hM3⟩ := hz
    exact op_ok (l_gather e3) e2 z3 (Pinv_mk hR (InvC_M hC2 c3) hM3 hO)
  · have e3 : f_X11_gather (mg 4625 I J R) 0 (Int32.ofNat (k)) (Int32.ofNat (nm)) = some (.inl (-1), mg 4625 I1 J R) := by
      unfold f_X11_gather f_X11_gather_j36
      rw [if_pos ok_0, C_treeAt1 hR hC.2.1 hk, Sum.elim_inl, if_pos ok_0, c_needName1 hy.1 hy.2, Option.bind_some, Sum.elim_inl, gr_0_9 hR, if_pos ok_2215, show f_X3_collect (mg 4625 I J R) 2215 (70 + 8 * k) 0 (Int32.ofNat (nm)) = _ from e1, Option.bind_some, if_pos rfl]
    obtain ⟨z, e2, I3, c3, z3, hz⟩ := ref (oJ J (-1 : Int32).toInt64) I1 k1 hC1.2.1
    rw [e] at hz
    obtain ⟨rfl, hM3⟩ := hz
    exact op_ok (l_gather e3) e2 z3 (Pinv_mk hR (InvC_M hC1 c3) hM3 hO)
end OGA
