/-! calls: let -/
section OLE
variable {I : Nat → Nat → Int32} {J : Nat → Nat → Int64} {R : Nat → Nat → Option Nat} {t : GT} {s : GS} {b : GB} {n : GN} {f : GF} {v w : GV} {q : Nat → GV} {p : GT} {r : GR} {h : GH} {β : Type}
theorem M_noteValue2 {l : Nat} (hR : RA R) (H : InvM I t s b n f v q p r h) (hC : CSh I s) (h20 : h.1 ≤ 20) (hf : h.2.1 < 20) (hl : l < 26) (hv : n.1 l = 0 ∨ n.1 l = 1) : QK (f_X12_noteValue (mg 4625 I J R) 4561 (Int32.ofNat (l))) (fun x => ∃ I', x = mg 4625 I' J R ∧ InvM I' t s b n f v q p r (hName h n l) ∧ (∀ a k, a < 4561 → I' a k = I a k) ∧ I' 4561 0 = I 4561 0 ∧ ∀ k, 1680 ≤ k → I' 4564 k = I 4564 k) := by
  obtain ⟨h1, h2, h3, h4, h5, h6, h7, h8, h9, h10⟩ := H
  have ul := nu_lt h
  obtain ⟨m1, m2⟩ := h4 l hl
  have j17 : ∀ u : Int32, u = n.1 l → QK (f_X12_noteValue_j17 (mg 4625 I J R) 4561 (Int32.ofNat (l)) u (Int32.ofNat (l)) 2 4561) (fun x => ∃ I', x = mg 4625 I' J R ∧ InvM I' t s b n f v q p r (hName h n l) ∧ (∀ a k, a < 4561 → I' a k = I a k) ∧ I' 4561 0 = I 4561 0 ∧ ∀ k, 1680 ≤ k → I' 4564 k = I 4564 k) := by
    intro u hu
    unfold f_X12_noteValue_j17
    rw [if_pos ok_4561]
    refine q_bind (M_note (h := h) hR h10.1 h10.2.1 h20 hf) ?_
    rintro _ ⟨I1, rfl, hF1, e83, e84, e17, e18, e19, e20, e21⟩
    have m3 : MV I1 l (n.2 l) := MV_keep m2 (fun k a c => hF1 _ k (fun y => by unfold Snt at y; omega))
    rw [if_pos ok_4561, show (27 : Int32) + (Int32.ofNat (nu h)) = (Int32.ofNat (27 + nu h)) from n_add 27 _]
    refine q_bind (M_copy hR (by omega) (by omega) (by omega) m3) ?_
    rintro _ ⟨I2, rfl, hr3, -, -, hK, hT⟩
    have go : ∀ a k, a ≠ 4562 → a ≠ 4563 → (a = 4564 → k / 28 ≠ 27 + nu h) → ¬ (a = 4561 ∧ (k = 83 ∨ k = 84)) → ¬ (4617 ≤ a ∧ a ≤ 4621 ∧ k = nu h) → I2 a k = I a k := fun a k g1 g2 g3 g4 g5 => by
      by_cases z : a = 4564
      · subst z
        rw [hK k (by have := g3 rfl; omega)]
        exact hF1 _ k (fun y => by unfold Snt at y; omega)
      · rw [hr3.1 a (fun y => y.elim g1 (fun y => y.elim g2 z))]
        exact hF1 _ k (fun y => by unfold Snt at y; omega)
    have g1 : ∀ a k, a ≠ 4562 → a ≠ 4563 → a ≠ 4564 → I2 a k = I1 a k := fun a k x y z => by
      rw [hr3.1 a (fun w => w.elim x (fun w => w.elim y z))]
    refine q_ok ⟨I2, rfl, ⟨MTy_keep h1 ?_, MSh_keep h2 hC.1 ?_ (CSh_80 hC), MTb_keep h3 ?_, MNm_keep h4 ?_, MFn_keep h5 ?_, MV_keep h6 ?_, MKp_keep h7 ?_, MPr_keep h8 ?_, MTr_keep h9 ?_, ?_⟩, ?_, ?_, ?_⟩
    case refine_10 =>
      refine MHs_push h10 h20 hf ?_ ?_ (fun a u y1 y2 y3 => go a u (by omega) (by omega) (by omega) (by omega) (by omega)) (fun k y => go _ _ (by omega) (by omega) (by omega) (by omega) (by omega)) (fun k y1 y2 y3 => go _ _ (by omega) (by omega) (by omega) (by omega) (by omega)) (fun a k y1 y2 y3 y4 y5 => go _ _ (by omega) (by omega) (by omega) (by omega) (by omega)) ?_ (fun z => absurd z (by omega)) (fun _ => ⟨?_, ?_, hT⟩) (fun z => absurd z (by omega))
      · rw [g1 _ _ (by omega) (by omega) (by omega), e83]
      · rw [g1 _ _ (by omega) (by omega) (by omega), e84]
      · rw [g1 _ _ (by omega) (by omega) (by omega), e17]
        rfl
      · rw [g1 _ _ (by omega) (by omega) (by omega), e18]
      · rw [g1 _ _ (by omega) (by omega) (by omega), e19]
        exact hu
    case refine_11 =>
      intro a k y
      exact go a k (by omega) (by omega) (by omega) (by omega) (by omega)
    case refine_12 => exact go _ _ (by omega) (by omega) (by omega) (by omega) (by omega)
    case refine_13 =>
      intro k y
      exact go _ k (by omega) (by omega) (by omega) (by omega) (by omega)
    case refine_6 =>
      intro k y1 y2
      exact go _ k (by omega) (by omega) (by omega) (by omega) (by omega)
    all_goals
      intro a k y
      exact go a k (by omega) (by omega) (by omega) (by omega) (by omega)
  unfold f_X12_noteValue
  rw [gr_4561_47 hR, ga_4599 hl, m1]
  by_cases z : n.1 l = 0
  · rw [if_pos z]
    exact j17 0 z.symm
  · rw [if_neg z]
    exact j17 1 (hv.resolve_left z).symm
/-- a name gets a value, on the class's side -/
theorem C_giveValue {l g : Nat} (hR : RA R) (hC : InvC I t s b n f v q p r h) (hl : l < 26) (hb : (n.2 l).1.natAbs < Bw 7 ∧ ((n.2 l).2 : Int).natAbs < Bw 7) (hg : CV I g w) (hg1 : 567 ≤ g) (hg2 : g < 4400) (hw : Gd w) : QK (f_X1_giveValue (mg 4625 I J R) 11 (Int32.ofNat (l)) g) (fun x => ∃ I', x = mg 4625 I' J R ∧ InvC I' t s b (upN n.1 l 1, upN n.2 l w) f v q p r (hName h n l) ∧ ∀ a k, 4561 ≤ a → I' a k = I a k) := by
  unfold f_X1_giveValue
  rw [if_pos ok_11]
  refine q_bind (C_noteName hR hC hl hb) ?_
  rintro _ ⟨I1, rfl, hC1, hF1⟩
  have hg' : CV I1 g w := CV_keep hg (fun x y1 y2 => hF1 x (by omega))
  rw [gr_11_6 hR, g_name hR hl, if_pos (bF_xk (isF_310 hl))]
  refine q_bind (F_copy hR (isF_310 hl) hg' (b200 hw.1) (b200 (by rw [Int.natAbs_natCast]; exact hw.2.2.1)) (by omega)) ?_
  rintro _ ⟨I2, rfl, hF2, hV2⟩
  rw [gr_11_7 hR, gz_18 hl rfl]
  refine q_ok ⟨_, rfl, C_known hC1 hl (Or.inr rfl) (fun y a _ c => ?_) (fun k hk => ?_) up_s (CV_keep hV2 (fun x a c => up_r (by omega))), fun a k ha => ?_⟩
  · rw [up_r a, hF2 y (fun z => by unfold Sf at z; omega)]
  · rw [up_n (Or.inr hk), hF2 18 (fun z => by unfold Sf at z; omega)]
  · rw [up_n (by omega), hF2 a (fun z => by unfold Sf at z; omega), hF1 a (by omega)]
theorem l_let {x y w : Int32} {I1 : Nat → Nat → Int32} {R1 : Nat → Nat → Option Nat} (h : f_X11_let (mg 4625 I J R) 0 y x = some (.inl w, mg 4625 I1 J R1)) : f_L_let (mg 4625 I J R) 0 y x 4624 = some (0, mg 4625 I1 (oJ J w.toInt64) R1) := by
  unfold f_L_let
  rw [if_pos ok_0, h, Option.bind_some, q_let, Sum.elim_inl, owJ0]
  rfl
theorem o_let (hR : RA R) (H : Inv I) : op_let Pinv (mg 4625 I J R) := by
  obtain ⟨t, s, b, n, f, v, q, p, r, h, hC, hM, hO⟩ := H
  intro y0 x
  show opW Pinv (f_L_let (mg 4625 I J R) 0 (ch y0) x 4624) (fun σ => f_X12_let σ 4561 (ch y0) x)
  generalize ch y0 = y
  have h30 := hC.2.1.1
  have hE := env_of hC hM hO
  have h20 := hC.2.2.2.2.2.2.2.2.2.1
  have hf := hC.2.2.2.2.2.2.2.2.2.2.1
  by_cases hy : (97 : Int32) ≤ y ∧ y ≤ (122 : Int32)
  rotate_left
  · have e1 : f_L_let (mg 4625 I J R) 0 y x 4624 = some (1, mg 4625 I J R) := by
      unfold f_L_let f_X11_let
      rw [if_pos ok_0, if_pos ok_0, c_letterOf0 hy, Option.bind_some, Sum.elim_inr, Option.bind_some, q_let, Sum.elim_inr, if_pos rfl]
    have e2 : f_X12_let (mg 4625 I J R) 4561 y x = some (0, mg 4625 (thI I 1) J R) := by
      unfold f_X12_let f_X12_let_j13 f_X12_let_j26
      rw [m_isName0 hy, Option.bind_some, if_pos rfl, if_pos ok_4561]
      rcases i32_two s.1 (by omega) x with ⟨k, hk, rfl⟩ | hx
      · rw [M_isTree1 hM.2.1 h30 hk, if_neg (by decide), if_pos ok_4561, m_refX]
      · rw [M_isTree0 hM.2.1 h30 hx, if_pos rfl, if_pos ok_4561, m_refX]
    exact op_ex e1 e2 thI_0 (by decide) (Pinv_th hR hC hM hO (fun x _ => rfl))
  obtain ⟨l, hl, ey, el⟩ := nm_dom hy.1 hy.2
  obtain ⟨c1, c2, c3⟩ := hC.2.2.2.1 l hl
  obtain ⟨m1, m2⟩ := hM.2.2.2.1 l hl
  rcases i32_two s.1 (by omega) x with ⟨k, hk, rfl⟩ | hx
  rotate_left
  · have e3 : f_L_let (mg 4625 I J R) 0 y x 4624 = some (2, mg 4625 I J R) := by
      unfold f_L_let f_X11_let
      rw [if_pos ok_0, if_pos ok_0, c_letterOf1 hy.1 hy.2, Option.bind_some, Sum.elim_inl, if_pos ok_0, C_treeAt0 hR hC.2.1 hx, Sum.elim_inr, Option.bind_some, q_let, Sum.elim_inr, if_neg (by decide), if_pos rfl]
    have e2 : f_X12_let (mg 4625 I J R) 4561 y x = some (0, mg 4625 (thI I 2) J R) := by
      unfold f_X12_let f_X12_let_j13 f_X12_let_j26
      rw [m_isName1 hy.1 hy.2, Option.bind_some, if_neg (by decide), if_pos ok_4561, M_isTree0 hM.2.1 h30 hx, if_pos rfl, if_pos ok_4561, m_refY]
    exact op_ex e3 e2 thI_0 (by decide) (Pinv_th hR hC hM hO (fun x _ => rfl))
  have ct := hC.2.1.2.2 k hk
  have n1 := CT_n ct
  have hT := tro_of hC hO hk
  have ro := evT_RO hE hT n1.2
  -- the class
  have key : QK (f_X11_let (mg 4625 I J R) 0 y (Int32.ofNat (k))) (fun y => ∃ I' R', RA R' ∧ (∀ a k, 4561 ≤ a → I' a k = I a k) ∧ match evT b n f s (s.2.2.1 k) (s.2.2.2 k) with
      | .inl e => y = (.inl (Int32.ofNat (e)), mg 4625 I' J R') ∧ InvC I' t s b n f v q p r h
      | .inr (w, _) => y = (.inl 0, mg 4625 I' J R') ∧ InvC I' t s b (upN n.1 l 1, upN n.2 l w) f v q p r (hName h n l)) := by
    unfold f_X11_let f_X11_let_j51
    rw [if_pos ok_0, c_letterOf1 hy.1 hy.2, Option.bind_some, Sum.elim_inl, el, if_pos ok_0, C_treeAt1 hR hC.2.1 hk, Sum.elim_inl, gr_0_6 hR, if_pos ok_567]
    refine q_bind (C_reckonTree hR (CEnv_of hC hE) ct (by omega) hT n1.2) ?_
    rintro _ ⟨I1, R1, rfl, hR1, f1, hw⟩
    have hC1 := InvC_Fm hC f1
    rw [gr_0_6 hR1, if_pos ok_567]
    refine q_bind hw ?_
    intro y hy
    obtain ⟨I2, R2, hR2, f2, hyy⟩ := hy
    have hC2 := InvC_Fm hC1 f2
    have k2 : ∀ a k, 4561 ≤ a → I2 a k = I a k := fun a k ha => by rw [f2 a k (by unfold Fm; omega), f1 a k (by unfold Fm; omega)]
    generalize evT b n f s (s.2.2.1 k) (s.2.2.2 k) = r' at *
    cases r' with
    | inl e1 =>
      have hyy : y = ((Int32.ofNat (e1)), mg 4625 I2 J R2) := hyy
      have ro : 1 ≤ e1 ∧ e1 ≤ 10 := ro
      rw [hyy]
      dsimp only
      rw [if_neg (show ¬ (Int32.ofNat (e1)) = (0 : Int32) from i32_ne (b := 0) (by omega) (by omega) (by omega))]
      exact q_ok ⟨I2, R2, hR2, k2, rfl, hC2⟩
    | inr r2 =>
      obtain ⟨w, c⟩ := r2
      obtain ⟨hyy, hV⟩ := hyy
      have ro : 0 < c ∧ c ≤ 200 ∧ Gd w := ro
      rw [hyy]
      dsimp only
      rw [if_pos rfl, gr_0_2 hR2, gr_0_6 hR2, if_pos ok_567, C_result hR2, if_pos ok_11]
      refine q_bind (C_giveValue hR2 hC2 hl (MV_b m2) hV (by omega) (by omega) ro.2.2) ?_
      rintro _ ⟨I3, rfl, hC3, k3⟩
      exact q_ok ⟨I3, R2, hR2, fun a k ha => by rw [k3 a k ha, k2 a k ha], rfl, hC3⟩
  obtain ⟨yc, e1, I2, R2, hR2, k2, hyc⟩ := key
  have hM2 : InvM I2 t s b n f v q p r h := InvM_C hM hC.2.1 (fun x k hx _ => k2 x k hx)
  have hC2 : CSh I2 s := by
    cases e : evT b n f s (s.2.2.1 k) (s.2.2.2 k) with
    | inl e1 => rw [e] at hyc; exact hyc.2.2.1
    | inr r2 => rw [e] at hyc; exact hyc.2.2.1
  have ref : ∀ J, QK (f_X12_let (mg 4625 I2 J R2) 4561 y (Int32.ofNat (k))) (fun y => ∃ I', (∀ a k, a < 4561 → I' a k = I2 a k) ∧ I' 4561 0 = 0 ∧ match evT b n f s (s.2.2.1 k) (s.2.2.2 k) with
      | .inl e => y = ((Int32.ofNat (e)), mg 4625 I' J R2) ∧ InvM I' t s b n f v q p r h
      | .inr (w, _) => y = (0, mg 4625 I' J R2) ∧ InvM I' t s b (upN n.1 l 1, upN n.2 l w) f v q p r (hName h n l)) := by
    intro J
    have hM3 : InvM (thI I2 0) t s b n f v q p r h := InvM_C hM2 hC.2.1 (fun x k hx hk => thI_n hk)
    unfold f_X12_let f_X12_let_j13 f_X12_let_j26 f_X12_let_j76
    rw [m_isName1 hy.1 hy.2, Option.bind_some, if_neg (by decide), if_pos ok_4561, M_isTree1 hM2.2.1 h30 hk, if_neg (by decide), if_pos ok_4561, m_refO, M_shelf, if_pos ok_4561, el]
    refine q_bind (M_run hR2 (MEnv_of hM3 hE) (hM3.2.1.2 k hk).2 hT n1.2) ?_
    rintro z ⟨I4, f4, hz⟩
    have hM4 := InvM_Fx hM3 (CSh_th (τ := 0) hC2) f4
    have hC4 : CSh I4 s := CSh_keep (CSh_th (τ := 0) hC2) (fun x hx => funext (fun k => f4 x k (by unfold Fx; omega)))
    have k4 : ∀ a x, a < 4561 → I4 a x = I2 a x := fun a x ha => by rw [f4 a x (by unfold Fx; omega), thI_n (by omega)]
    have k40 : I4 4561 0 = 0 := by
      rw [f4 4561 0 (by unfold Fx; omega)]
      exact thI_0
    generalize evT b n f s (s.2.2.1 k) (s.2.2.2 k) = r' at *
    cases r' with
    | inl e1 =>
      have hz : z = ((Int32.ofNat (e1)), mg 4625 I4 J R2) := hz
      have ro : 1 ≤ e1 ∧ e1 ≤ 10 := ro
      rw [hz]
      dsimp only
      rw [if_neg (show ¬ (Int32.ofNat (e1)) = (0 : Int32) from i32_ne (b := 0) (by omega) (by omega) (by omega))]
      exact q_ok ⟨I4, k4, k40, rfl, hM4⟩
    | inr r2 =>
      obtain ⟨w, c⟩ := r2
      obtain ⟨hz, hV⟩ := hz
      rw [hz]
      dsimp only
      rw [if_pos rfl, if_pos ok_4561]
      refine q_bind (M_noteValue2 hR2 hM4 hC4 h20 hf hl c2) ?_
      rintro _ ⟨I5, rfl, hM5, k5, k50, kv5⟩
      have hC5 : CSh I5 s := CSh_keep hC4 (fun x hx => funext (fun k => k5 x k (by omega)))
      have hV5 : MV I5 60 w := MV_keep hV (fun k _ _ => kv5 k (by omega))
      rw [gr_4561_47 hR2, gz_4599 hl rfl, if_pos ok_4561]
      have hV6 : MV (up I5 4599 l 1) 60 w := MV_keep hV5 (fun k _ _ => up_n (by omega))
      refine q_bind (M_copy (a := l) (b := 60) hR2 (by omega) (by omega) (by omega) (MV_Vv hV6)) ?_
      rintro _ ⟨I7, rfl, r7, -, -, kv7, vv7⟩
      have go : ∀ a k, a ≠ 4562 → a ≠ 4563 → ¬ (a = 4599 ∧ k = l) → ¬ (a = 4564 ∧ k / 28 = l) → I7 a k = I5 a k := fun a k g1 g2 g3 g4 => by
        by_cases z : a = 4564
        · subst z
          rw [kv7 k (by omega), up_n (by omega)]
        · rw [r7.1 a (fun y => y.elim g1 (fun y => y.elim g2 z)), up_n (by omega)]
      refine q_ok ⟨I7, fun a x ha => ?_, ?_, rfl, M_known hM5 hC5 hl (fun a k g1 g2 g3 => go a k (by unfold DM at g1; omega) (by unfold DM at g1; omega) g2 g3) ?_ vv7⟩
      · rw [go a x (by omega) (by omega) (by omega) (by omega), k5 a x ha, k4 a x ha]
      · rw [go _ _ (by omega) (by omega) (by omega) (by omega), k50, k40]
      · rw [r7.1 4599 (by omega), up_s]
  cases e : evT b n f s (s.2.2.1 k) (s.2.2.2 k) with
  | inl e' =>
    rw [e] at hyc
    obtain ⟨g1, g2⟩ := hyc
    rw [g1] at e1
    obtain ⟨yr, e2, I3, k3, k0, hyr⟩ := ref (oJ J ((Int32.ofNat (e'))).toInt64)
    rw [e] at hyr
    obtain ⟨g3, g4⟩ := hyr
    rw [g3] at e2
    exact op_ok (l_let e1) e2 k0 (Pinv_mk hR2 (InvC_M g2 k3) g4 hO)
  | inr r2 =>
    obtain ⟨w, c⟩ := r2
    rw [e] at hyc
    obtain ⟨g1, g2⟩ := hyc
    rw [g1] at e1
    obtain ⟨yr, e2, I3, k3, k0, hyr⟩ := ref (oJ J (0 : Int32).toInt64)
    rw [e] at hyr
    obtain ⟨g3, g4⟩ := hyr
    rw [g3] at e2
    exact op_ok (l_let e1) e2 k0 (Pinv_mk hR2 (InvC_M g2 k3) g4 (OKH_name hO h20 hf hl c2))
end OLE
