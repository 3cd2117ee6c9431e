/-! calls: define -/
section OK
variable {I : Nat → Nat → Int32} {J : Nat → Nat → Int64} {R : Nat → Nat → Option Nat} {t : GT} {s : GS} {b : GB} {n : GN} {f : GF} {v w : GV} {q : Nat → GV} {p : GT} {r : GR} {h : GH} {β : Type}
theorem C_fnSet {l : Nat} {row : Nat → Int32} {I' : Nat → Nat → Int32} (H : InvC I t s b n f v q p r h) (hl : l < 26) (e : ∀ x, x ≠ 20 + l → I' x = I x) (e1 : ∀ k, k < 10 → I' (20 + l) k = row k) : InvC I' t s b n (upF f l row) v q p r h := by
  obtain ⟨h1, h2, h3, h4, h5, h6, h7, h8, h9, h10⟩ := H
  refine ⟨CTy_keep h1 ?_, CSh_keep h2 ?_, CTb_keep h3 ?_, CNm_keep h4 ?_, fun j k hj hk => ?_, CV_keep h6 ?_, CKp_keep h7 ?_, CPr_keep h8 ?_, CTr_keep h9 ?_, CHs_keep h10 ?_⟩
  case refine_5 =>
    show I' (20 + j) k = (if j = l then row else f j) k
    by_cases z : j = l
    · rw [if_pos z, z]
      exact e1 k hk
    · rw [if_neg z, e _ (by omega)]
      exact h5 j k hj hk
  case refine_6 =>
    intro y g1 g2
    exact e y (by omega)
  all_goals
    intro y g
    exact e y (by omega)
theorem M_fnSet {l : Nat} {row : Nat → Int32} {I' : Nat → Nat → Int32} (H : InvM I t s b n f v q p r h) (hC : CSh I s) (hl : l < 26) (e : ∀ a k, DM a k → ¬ ((a = 4571 ∨ a = 4572) ∧ k = l) → ¬ (a = 4573 ∧ k / 8 = l) → ¬ (4565 ≤ a ∧ a ≤ 4569 ∧ 2400 + 240 * l ≤ k ∧ k < 2640 + 240 * l) → I' a k = I a k) (e1 : FM I' s row (I' 4571 l) (I' 4572 l) (fun k => I' 4573 (8 * l + k)) (2400 + 240 * l)) : InvM I' t s b n (upF f l row) v q p r h := by
  obtain ⟨h1, h2, h3, h4, h5, h6, h7, h8, h9, h10⟩ := H
  refine ⟨MTy_keep h1 ?_, MSh_keep h2 hC.1 ?_ (CSh_80 hC), MTb_keep h3 ?_, MNm_keep h4 ?_, fun j hj => ?_, MV_keep h6 ?_, MKp_keep h7 ?_, MPr_keep h8 ?_, MTr_keep h9 ?_, MHs_keep h10 ?_⟩
  case refine_5 =>
    show FM I' s (if j = l then row else f j) _ _ _ _
    by_cases z : j = l
    · subst z
      rw [if_pos rfl]
      exact e1
    · rw [if_neg z, e 4571 j (by unfold DM; omega) (by omega) (by omega) (by omega), e 4572 j (by unfold DM; omega) (by omega) (by omega) (by omega)]
      exact FM_keep (h5 j hj) (fun a k a1 a2 a3 a4 => e a k (by unfold DM; omega) (by omega) (by omega) (by omega)) (fun k hk => e _ _ (by unfold DM; omega) (by omega) (by omega) (by omega))
  case refine_6 =>
    intro y g1 g2
    exact e _ y (by unfold DM; omega) (by omega) (by omega) (by omega)
  all_goals
    intro a k g
    exact e a k (by unfold DM; omega) (by omega) (by omega) (by omega)
theorem upF_back {l : Nat} {row : Nat → Int32} : f = upF (upF f l row) l (f l) := by
  funext x
  unfold upF
  by_cases z : x = l
  · rw [if_pos z, z]
  · rw [if_neg z, if_neg z]
theorem OKH_fun {l : Nat} {row : Nat → Int32} (H : OKH s b f h) (hm : h.1 ≤ 20) (hf : h.2.1 < 20) (hl : l < 26) (hn : FnOK s.1 s.2.1 row) : OKH s b (upF f l row) (hFun h f l) := by
  have top := OKH_top H
  refine OKH_push H hm hf (Ext_rfl (Nat.le_refl _)) ⟨top.1, top.2.1, fun j hj => ?_⟩ (Or.inr (Or.inr (Or.inr ⟨rfl, rfl, rfl, hl, upF_back⟩)))
  unfold upF
  by_cases z : j = l
  · rw [if_pos z]; exact hn
  · rw [if_neg z]; exact top.2.2 j hj
def rDef (f : GF) (l pr : Nat) : Nat → Int32 := fun k => if k = 0 then (Int32.ofNat (pr)) else if k = 1 then (Int32.ofNat (0)) else f l k
theorem c_params {l : Nat} {F : Int32 → Option β} (hR : RA R) (H : CFn I f) (hl : l < 26) : (f_X1_parametersOf (mg 4625 I J R) 11 (Int32.ofNat (l))).bind F = F (f l 0) := by
  unfold f_X1_parametersOf f_X1_parametersOf_j22
  rw [if_neg (i32_nlt0 (by omega)), if_pos (show (Int32.ofNat (l)) < (26 : Int32) from (i32_lt (m := 26) (by omega) (by omega)).mpr hl), gr_11_8 hR, g_fun hR hl, show (0 : Int32) = (Int32.ofNat (0)) from rfl, ga_fn ⟨hl, by omega⟩, H l 0 hl (by omega)]
  rfl
theorem c_cases {l : Nat} {F : Int32 → Option β} (hR : RA R) (H : CFn I f) (hl : l < 26) : (f_X1_casesOf (mg 4625 I J R) 11 (Int32.ofNat (l))).bind F = F (f l 1) := by
  unfold f_X1_casesOf f_X1_casesOf_j22
  rw [if_neg (i32_nlt0 (by omega)), if_pos (show (Int32.ofNat (l)) < (26 : Int32) from (i32_lt (m := 26) (by omega) (by omega)).mpr hl), gr_11_8 hR, g_fun hR hl, show (1 : Int32) = (Int32.ofNat (1)) from rfl, ga_fn ⟨hl, by omega⟩, H l 1 hl (by omega)]
  rfl
theorem o_define (hR : RA R) (H : Inv I) : op_define Pinv (mg 4625 I J R) := by
  obtain ⟨t, s, b, n, f, v, q, p, r, h, hC, hM, hO⟩ := H
  intro y0 z
  show opW Pinv (f_L_define (mg 4625 I J R) 0 (ch y0) z 4624) (fun σ => f_X12_define σ 4561 (ch y0) z)
  generalize ch y0 = y
  have h20 := hC.2.2.2.2.2.2.2.2.2.1
  have hf := hC.2.2.2.2.2.2.2.2.2.2.1
  have bad : f_X11_define (mg 4625 I J R) 0 y z = some (.inr "java/lang/IllegalArgumentException", mg 4625 I J R) → f_X12_define (mg 4625 I J R) 4561 y z = some (0, mg 4625 (thI I 1) J R) → opW Pinv (f_L_define (mg 4625 I J R) 0 y z 4624) (fun σ => f_X12_define σ 4561 y z) := by
    intro e1 e2
    have e3 : f_L_define (mg 4625 I J R) 0 y z 4624 = some (1, mg 4625 I J R) := by
      unfold f_L_define
      rw [if_pos ok_0, e1, Option.bind_some, q_let, Sum.elim_inr, if_pos rfl]
    exact op_ex e3 e2 thI_0 (by decide) (Pinv_th hR hC hM hO (fun x _ => rfl))
  have j29 : f_X12_define_j29 (mg 4625 I J R) 4561 y z 4561 = some (0, mg 4625 (thI I 1) J R) := by
    unfold f_X12_define_j29 f_X12_define_j34
    rw [if_pos ok_4561, m_refX]
  by_cases hy : (97 : Int32) ≤ y ∧ y ≤ (122 : Int32)
  · obtain ⟨l, hl, ey, el⟩ := nm_dom hy.1 hy.2
    by_cases yi : y = 105
    · refine bad ?_ ?_
      · unfold f_X11_define f_X11_define_j28
        rw [if_pos ok_0, c_letterOf1 hy.1 hy.2, Option.bind_some, Sum.elim_inl, if_pos yi]
      · unfold f_X12_define
        rw [m_isName1 hy.1 hy.2, Option.bind_some, if_neg (by decide), if_pos yi]
        exact j29
    · by_cases ys : y = 115
      · refine bad ?_ ?_
        · unfold f_X11_define f_X11_define_j28
          rw [if_pos ok_0, c_letterOf1 hy.1 hy.2, Option.bind_some, Sum.elim_inl, if_neg yi, if_pos ys]
        · unfold f_X12_define
          rw [m_isName1 hy.1 hy.2, Option.bind_some, if_neg (by decide), if_neg yi, if_pos ys]
          exact j29
      · by_cases hz : (1 : Int32) ≤ z ∧ z ≤ 3
        · obtain ⟨pr, hpr, rfl⟩ := rng_dom (m := 3) (by decide) (Int32.le_trans (by decide) hz.1) hz.2
          have hFd : FnOK s.1 s.2.1 (rDef f l pr) := ⟨⟨pr, hpr, rfl⟩, 0, by omega, rfl, fun k hk => absurd hk (Nat.not_lt_zero k)⟩
          have key : QK (f_X11_define (mg 4625 I J R) 0 y (Int32.ofNat (pr))) (fun x => ∃ I', x = (.inl (if f l 0 = 0 then -1 else f l 1), mg 4625 I' J R) ∧ InvC I' t s b n (upF f l (rDef f l pr)) v q p r (hFun h f l) ∧ ∀ x, 4561 ≤ x → I' x = I x) := by
            have j62 : ∀ u, QK (f_X11_define_j62 (mg 4625 I J R) 0 (Int32.ofNat (pr)) (Int32.ofNat (l)) u) (fun x => ∃ I', x = (.inl u, mg 4625 I' J R) ∧ InvC I' t s b n (upF f l (rDef f l pr)) v q p r (hFun h f l) ∧ ∀ x, 4561 ≤ x → I' x = I x) := by
              intro u
              unfold f_X11_define_j62 f_X1_makeFunction
              rw [gr_0_2 hR, if_pos ok_11, if_pos ok_11]
              obtain ⟨_, e0, I1, rfl, hC1, hF1⟩ := C_noteFunction (J := J) hR hC hl
              rw [e0, Option.bind_some, gr_11_8 hR, g_fun hR hl, show (0 : Int32) = (Int32.ofNat (0)) from rfl, gw_fn ⟨hl, by omega⟩, gr_11_8 hR, g_fun hR hl, show (1 : Int32) = (Int32.ofNat (1)) from rfl, gw_fn ⟨hl, by omega⟩]
              refine q_ok ⟨_, rfl, C_fnSet hC1 hl (fun x hx => by rw [up_r hx, up_r hx]) (fun k hk => ?_), fun x hx => by rw [up_r (by omega), up_r (by omega), hF1 x (by omega)]⟩
              unfold rDef
              by_cases k1 : k = 1
              · rw [k1, up_s]; rfl
              · rw [up_n (by omega)]
                by_cases k0 : k = 0
                · rw [k0, up_s]; rfl
                · rw [up_n (by omega), if_neg k0, if_neg k1]
                  exact hC1.2.2.2.2.1 l k hl hk
            unfold f_X11_define
            rw [if_pos ok_0, c_letterOf1 hy.1 hy.2, Option.bind_some, Sum.elim_inl, if_neg yi, if_neg ys, if_neg (Int32.not_lt.mpr hz.1), if_pos hz.2, el, gr_0_2 hR, if_pos ok_11, c_params hR hC.2.2.2.2.1 hl]
            by_cases k0 : f l 0 = 0
            · rw [if_pos k0, if_pos k0]
              exact j62 _
            · rw [if_neg k0, if_neg k0, gr_0_2 hR, if_pos ok_11, c_cases hR hC.2.2.2.2.1 hl]
              exact j62 _
          obtain ⟨_, e1, I2, rfl, hC2, hF2⟩ := key
          have hM2 : InvM I2 t s b n f v q p r h := InvM_C hM hC.2.1 (fun x k hx _ => by rw [hF2 x hx])
          have ref : ∀ J, QK (f_X12_define (mg 4625 I2 J R) 4561 y (Int32.ofNat (pr))) (fun x => ∃ I', x = ((if f l 0 = 0 then -1 else f l 1), mg 4625 I' J R) ∧ InvM I' t s b n (upF f l (rDef f l pr)) v q p r (hFun h f l) ∧ (∀ a k, a < 4561 → I' a k = I2 a k) ∧ I' 4561 0 = 0) := by
            intro J
            have hM3 : InvM (thI I2 0) t s b n f v q p r h := InvM_C hM2 hC.2.1 (fun x k hx hk => thI_n hk)
            obtain ⟨p1, p2, -⟩ := hM3.2.2.2.2.1 l hl
            have j68 : ∀ u, QK (f_X12_define_j68 (mg 4625 (thI I2 0) J R) 4561 (Int32.ofNat (pr)) (Int32.ofNat (l)) u) (fun x => ∃ I', x = (u, mg 4625 I' J R) ∧ InvM I' t s b n (upF f l (rDef f l pr)) v q p r (hFun h f l) ∧ (∀ a k, a < 4561 → I' a k = I2 a k) ∧ I' 4561 0 = 0) := by
              intro u
              unfold f_X12_define_j68
              rw [if_pos ok_4561]
              refine q_bind (M_noteFunction hR hM3 (CSh_th hC2.2.1) h20 hf hl) ?_
              rintro _ ⟨I4, rfl, hM4, k1, k2⟩
              have hC4 : CSh I4 s := CSh_keep hC2.2.1 (fun x hx => funext (fun k => by rw [k1 x k (by omega), thI_n (by omega)]))
              rw [gr_4561_11 hR, gw_4571 hl, gr_4561_12 hR, gw_4572 hl, q_let]
              refine q_bind (P := fun x => ∃ I', x = .inr (u, mg 4625 I' J R) ∧ FrK (fun a k => a = 4573 ∧ k / 8 = l) (up (up I4 4571 l (Int32.ofNat (pr))) 4572 l 0) I' ∧ ∀ k, k < 8 → I' 4573 (8 * l + k) = 0) ?_ ?_
              · refine q_for 8 (fun k st => ∃ I', st = (4561, (Int32.ofNat (l)), u, (Int32.ofNat (k)), mg 4625 I' J R) ∧ FrK (fun a k => a = 4573 ∧ k / 8 = l) (up (up I4 4571 l (Int32.ofNat (pr))) 4572 l 0) I' ∧ ∀ j, j < k → I' 4573 (8 * l + j) = 0) ?_ ?_ (i := 0) ⟨_, rfl, FrK_rfl, fun j hj => absurd hj (Nat.not_lt_zero j)⟩ (by omega) (by unfold xF; omega)
                · rintro k st hk ⟨I', rfl, hF, hh⟩
                  unfold f_X12_define_s92
                  dsimp only
                  rw [q_let, q_let, q_let, q_let, q_let, if_neg (show ¬ (8 : Int32) ≤ (Int32.ofNat (k)) from fun y => absurd ((i32_le (k := 8) (by omega) (by omega)).mp y) (by omega)), gr_4561_13 hR, show (8 : Int32) * (Int32.ofNat (l)) = (Int32.ofNat (8 * l)) from n_mul 8 l, n_add, gw_4573 (by omega), q_let, show (Int32.ofNat (k)) + 1 = (Int32.ofNat (k + 1)) from n_add k 1]
                  refine q_go ⟨_, rfl, FrK_up hF ⟨rfl, by omega⟩, fun j hj => ?_⟩
                  by_cases y : j = k
                  · rw [y, up_s]
                  · rw [up_n (by omega)]
                    exact hh j (by omega)
                · rintro st ⟨I', rfl, hF, hh⟩
                  unfold f_X12_define_s92
                  dsimp only
                  rw [q_let, q_let, q_let, q_let, q_let, if_pos (show (8 : Int32) ≤ (Int32.ofNat (8)) by decide)]
                  exact q_ex ⟨I', rfl, hF, hh⟩
              · rintro _ ⟨I5, rfl, hF5, hh⟩
                simp only [Sum.elim_inr]
                unfold f_X12_define_j118
                have go : ∀ a k, ¬ (a = 4573 ∧ k / 8 = l) → I5 a k = (up (up I4 4571 l (Int32.ofNat (pr))) 4572 l 0) a k := fun a k y => hF5 a k y
                refine q_ok ⟨I5, rfl, M_fnSet hM4 hC4 hl (fun a k _ y1 y2 y3 => ?_) ⟨?_, ?_, 0, by omega, rfl, fun w k hw hk => ⟨fun hc => absurd hc (Nat.not_lt_zero k), fun _ => hh _ (by omega)⟩⟩, fun a x ha => ?_, ?_⟩
                · rw [go a k y2, up_n (by omega), up_n (by omega)]
                · rw [go _ _ (by omega), up_n (by omega), up_s]
                  rfl
                · rw [go _ _ (by omega), up_s]
                  rfl
                · rw [go _ _ (by omega), up_n (by omega), up_n (by omega), k1 a x ha, thI_n (by omega)]
                · rw [go _ _ (by omega), up_n (by omega), up_n (by omega), k2]
                  exact thI_0
            unfold f_X12_define f_X12_define_j34
            rw [m_isName1 hy.1 hy.2, Option.bind_some, if_neg (by decide), if_neg yi, if_neg ys, m_in1 hz.1 hz.2, Option.bind_some, if_neg (by decide), if_pos ok_4561, m_refO, q_let, el, gr_4561_11 hR, ga_4571 hl, p1]
            by_cases k0 : f l 0 = 0
            · rw [if_pos k0, if_pos k0]
              exact j68 _
            · rw [if_neg k0, if_neg k0, gr_4561_12 hR, ga_4572 hl, p2]
              exact j68 _
          obtain ⟨_, e2, I3, rfl, hM4, g1, g2⟩ := ref (oJ J (if f l 0 = 0 then -1 else f l 1).toInt64)
          exact op_ok (l_define e1) e2 g2 (Pinv_mk hR (InvC_M hC2 g1) hM4 (OKH_fun hO h20 hf hl hFd))
        · refine bad ?_ ?_
          · unfold f_X11_define f_X11_define_j28
            rw [if_pos ok_0, c_letterOf1 hy.1 hy.2, Option.bind_some, Sum.elim_inl, if_neg yi, if_neg ys]
            by_cases z1 : z < 1
            · rw [if_pos z1]
            · rw [if_neg z1, if_neg (fun w => hz ⟨Int32.not_lt.mp z1, w⟩)]
          · unfold f_X12_define
            rw [m_isName1 hy.1 hy.2, Option.bind_some, if_neg (by decide), if_neg yi, if_neg ys, m_in0 hz, Option.bind_some, if_pos rfl]
            exact j29
  · refine bad ?_ ?_
    · unfold f_X11_define
      rw [if_pos ok_0, c_letterOf0 hy, Option.bind_some, Sum.elim_inr]
    · unfold f_X12_define
      rw [m_isName0 hy, Option.bind_some, if_pos rfl]
      exact j29
end OK
