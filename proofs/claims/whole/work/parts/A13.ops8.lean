/-! calls: unlet -/
section OH
variable {I : Nat → Nat → Int32} {J : Nat → Nat → Int64} {R : Nat → Nat → Option Nat} {t : GT} {s : GS} {b : GB} {n : GN} {f : GF} {v w : GV} {q : Nat → GV} {p : GT} {r : GR} {h : GH} {β : Type}
theorem CSh_th {τ : Int32} (H : CSh I s) : CSh (thI I τ) s := CSh_keep H (fun x _ => funext (fun k => thI_n (by omega)))
/-- whether a name has a value is told anew, and its value -/
theorem C_known {l : Nat} {x : Int32} {I' : Nat → Nat → Int32} (H : InvC I t s b n f v q p r h) (hl : l < 26) (hx : x = 0 ∨ x = 1) (e : ∀ y, y ≠ 18 → DC y → ¬ (310 + 5 * l ≤ y ∧ y < 310 + 5 * l + 5) → I' y = I y) (e1 : ∀ k, k ≠ l → I' 18 k = I 18 k) (e2 : I' 18 l = x) (e3 : CV I' (310 + 5 * l) w) : InvC I' t s b (upN n.1 l x, upN n.2 l w) f v q p r h := by
  obtain ⟨h1, h2, h3, h4, h5, h6, h7, h8, h9, h10⟩ := H
  refine ⟨CTy_keep h1 ?_, CSh_keep h2 ?_, CTb_keep h3 ?_, fun k hk => ?_, CFn_keep h5 ?_, CV_keep h6 ?_, CKp_keep h7 ?_, CPr_keep h8 ?_, CTr_keep h9 ?_, CHs_keep h10 ?_⟩
  case refine_4 =>
    show I' 18 k = upN n.1 l x k ∧ (upN n.1 l x k = 0 ∨ upN n.1 l x k = 1) ∧ CV I' (310 + 5 * k) (upN n.2 l w k)
    by_cases z : k = l
    · subst z
      rw [upN_s, upN_s]
      exact ⟨e2, hx, e3⟩
    · rw [upN_n z, upN_n z, e1 k z]
      obtain ⟨a1, a2, a3⟩ := h4 k hk
      exact ⟨a1, a2, CV_keep a3 (fun y g1 g2 => e y (by omega) (by unfold DC; omega) (by omega))⟩
  case refine_6 =>
    intro y g1 g2
    exact e y (by omega) (by unfold DC; omega) (by omega)
  all_goals
    intro y g
    exact e y (by omega) (by unfold DC; omega) (by omega)
theorem M_known {l : Nat} {x : Int32} {I' : Nat → Nat → Int32} (H : InvM I t s b n f v q p r h) (hC : CSh I s) (hl : l < 26) (e : ∀ a k, DM a k → ¬ (a = 4599 ∧ k = l) → ¬ (a = 4564 ∧ k / 28 = l) → I' a k = I a k) (e2 : I' 4599 l = x) (e3 : MV I' l w) : InvM I' t s b (upN n.1 l x, upN n.2 l w) f v q p r h := by
  obtain ⟨h1, h2, h3, h4, h5, h6, h7, h8, h9, h10⟩ := H
  refine ⟨MTy_keep h1 ?_, MSh_keep h2 hC.1 ?_ (CSh_80 hC), MTb_keep h3 ?_, fun k hk => ?_, MFn_keep h5 ?_, MV_keep h6 ?_, MKp_keep h7 ?_, MPr_keep h8 ?_, MTr_keep h9 ?_, MHs_keep h10 ?_⟩
  case refine_4 =>
    show I' 4599 k = upN n.1 l x k ∧ MV I' k (upN n.2 l w k)
    by_cases z : k = l
    · subst z
      rw [upN_s, upN_s]
      exact ⟨e2, e3⟩
    · rw [upN_n z, upN_n z]
      obtain ⟨a1, a2⟩ := h4 k hk
      exact ⟨(e _ _ (by unfold DM; omega) (by omega) (by omega)).trans a1, MV_keep a2 (fun y g1 g2 => e _ y (by unfold DM; omega) (by omega) (by omega))⟩
  case refine_6 =>
    intro y g1 g2
    exact e _ y (by unfold DM; omega) (by omega) (by omega)
  all_goals
    intro a k g
    exact e a k (by unfold DM; omega) (by omega) (by omega)
theorem l_unlet {x w : Int32} {I1 : Nat → Nat → Int32} (hw : w = 0 ∨ w = 1) (h : f_X11_unlet (mg 4625 I J R) 0 x = some (.inl w, mg 4625 I1 J R)) : f_L_unlet (mg 4625 I J R) 0 x 4624 = some (0, mg 4625 I1 (oJ J (if w = 0 then 0 else 1)) R) := by
  unfold f_L_unlet f_L_unlet_j15
  rw [if_pos ok_0, h, Option.bind_some, q_let, Sum.elim_inl]
  rcases hw with rfl | rfl
  · rw [if_pos rfl, if_pos rfl]
    exact xb_eq owJ0 rfl
  · rw [if_neg (by decide), if_neg (by decide)]
    exact xb_eq owJ0 rfl
theorem o_unlet (hR : RA R) (H : Inv I) : op_unlet Pinv (mg 4625 I J R) := by
  obtain ⟨t, s, b, n, f, v, q, p, r, h, hC, hM, hO⟩ := H
  intro y0
  show opB Pinv (f_L_unlet (mg 4625 I J R) 0 (ch y0) 4624) (fun σ => f_X12_unlet σ 4561 (ch y0))
  generalize ch y0 = y
  have h20 := hC.2.2.2.2.2.2.2.2.2.1
  have hf := hC.2.2.2.2.2.2.2.2.2.2.1
  by_cases hy : (97 : Int32) ≤ y ∧ y ≤ (122 : Int32)
  · obtain ⟨l, hl, ey, el⟩ := nm_dom hy.1 hy.2
    obtain ⟨c1, c2, c3⟩ := hC.2.2.2.1 l hl
    obtain ⟨m1, m2⟩ := hM.2.2.2.1 l hl
    by_cases z : n.1 l = 0
    · have e1 : f_X11_unlet (mg 4625 I J R) 0 y = some (.inl 0, mg 4625 I J R) := by
        unfold f_X11_unlet f_X1_takeValue
        rw [gr_0_2 hR, if_pos ok_0, c_letterOf1 hy.1 hy.2, Option.bind_some, Sum.elim_inl, el, if_pos ok_11, gr_11_7 hR, ga_18 hl, c1, if_pos z]
        rfl
      have e2 : ∀ J, f_X12_unlet (mg 4625 I J R) 4561 y = some (0, mg 4625 (thI I 0) J R) := by
        intro J
        unfold f_X12_unlet f_X12_unlet_j13 f_X12_unlet_j33
        rw [m_isName1 hy.1 hy.2, Option.bind_some, if_neg (by decide), if_pos ok_4561, m_refO, el, gr_4561_47 hR, ga_4599 hl, thI_n (by omega), m1, if_pos z]
      exact op_okB (l_unlet (Or.inl rfl) e1) (e2 _) thI_0 (Pinv_th hR hC hM hO (fun x _ => rfl))
    · have key : QK (f_X11_unlet (mg 4625 I J R) 0 y) (fun x => ∃ I', x = (.inl 1, mg 4625 I' J R) ∧ InvC I' t s b (upN n.1 l 0, upN n.2 l (n.2 l)) f v q p r (hName h n l) ∧ ∀ x, 4561 ≤ x → I' x = I x) := by
        unfold f_X11_unlet f_X1_takeValue
        rw [gr_0_2 hR, if_pos ok_0, c_letterOf1 hy.1 hy.2, Option.bind_some, Sum.elim_inl, el, if_pos ok_11, gr_11_7 hR, ga_18 hl, c1, if_neg z, if_pos ok_11]
        obtain ⟨_, e0, I1, rfl, hC1, hF1⟩ := C_noteName (J := J) hR hC hl (MV_b m2)
        rw [e0, Option.bind_some, gr_11_7 hR, gz_18 hl rfl]
        refine q_ok ⟨_, rfl, C_known hC1 hl (Or.inl rfl) (fun y a _ _ => up_r a) (fun k hk => up_n (Or.inr hk)) up_s (CV_keep (hC1.2.2.2.1 l hl).2.2 (fun x a c => up_r (by omega))), fun x hx => ?_⟩
        rw [up_r (by omega), hF1 x (by omega)]
      obtain ⟨_, e1, I2, rfl, hC2, hF2⟩ := key
      have hM2 : InvM I2 t s b n f v q p r h := InvM_C hM hC.2.1 (fun x k hx _ => by rw [hF2 x hx])
      have ref : ∀ J, QK (f_X12_unlet (mg 4625 I2 J R) 4561 y) (fun x => ∃ I', x = (1, mg 4625 I' J R) ∧ InvM I' t s b (upN n.1 l 0, upN n.2 l (n.2 l)) f v q p r (hName h n l) ∧ (∀ a k, a < 4561 → I' a k = I2 a k) ∧ I' 4561 0 = 0) := by
        intro J
        have hM3 : InvM (thI I2 0) t s b n f v q p r h := InvM_C hM2 hC.2.1 (fun x k hx hk => thI_n hk)
        obtain ⟨g1, g2⟩ := hM3.2.2.2.1 l hl
        unfold f_X12_unlet f_X12_unlet_j13
        rw [m_isName1 hy.1 hy.2, Option.bind_some, if_neg (by decide), if_pos ok_4561, m_refO, el, gr_4561_47 hR, ga_4599 hl, g1, if_neg z, if_pos ok_4561]
        refine q_bind (M_noteValue hR hM3 (CSh_th hC2.2.1) h20 hf hl c2) ?_
        rintro _ ⟨I4, rfl, hM4, k1, k2⟩
        have hC4 : CSh I4 s := CSh_keep hC2.2.1 (fun x hx => funext (fun k => by rw [k1 x k (by omega), thI_n (by omega)]))
        rw [gr_4561_47 hR, gz_4599 hl rfl]
        refine q_ok ⟨_, rfl, M_known hM4 hC4 hl (fun a k _ g _ => up_n (by omega)) up_s (MV_keep (hM4.2.2.2.1 l hl).2 (fun k _ _ => up_n (by omega))), fun a x ha => ?_, ?_⟩
        · rw [up_n (by omega), k1 a x ha, thI_n (by omega)]
        · rw [up_n (by omega), k2]
          exact thI_0
      obtain ⟨_, e2, I3, rfl, hM4, g1, g2⟩ := ref (oJ J (if (1 : Int32) = 0 then 0 else 1))
      exact op_okB (l_unlet (Or.inr rfl) e1) e2 g2 (Pinv_mk hR (InvC_M hC2 g1) hM4 (OKH_name hO h20 hf hl c2))
  · have e1 : f_L_unlet (mg 4625 I J R) 0 y 4624 = some (1, mg 4625 I J R) := by
      unfold f_L_unlet f_X11_unlet
      rw [if_pos ok_0, gr_0_2 hR, if_pos ok_0, c_letterOf0 hy, Option.bind_some, Sum.elim_inr, Option.bind_some, q_let, Sum.elim_inr, if_pos rfl]
    have e2 : f_X12_unlet (mg 4625 I J R) 4561 y = some (0, mg 4625 (thI I 1) J R) := by
      unfold f_X12_unlet f_X12_unlet_j13 f_X12_unlet_j33
      rw [m_isName0 hy, Option.bind_some, if_pos rfl, if_pos ok_4561, m_refX]
    exact op_exB e1 e2 thI_0 (by decide) (Pinv_th hR hC hM hO (fun x _ => rfl))
end OH
