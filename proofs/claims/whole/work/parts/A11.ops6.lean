/-! calls: told, recall, coefficient -/
theorem v200 {x : Nat} (h : x < 2 ^ 200) : x < Bw 7 := by
  rw [Bw_two]
  exact Nat.lt_of_lt_of_le h (Nat.pow_le_pow_right (by decide) (by decide))
section OF
variable {I : Nat → Nat → Int32} {J : Nat → Nat → Int64} {R : Nat → Nat → Option Nat} {t : GT} {s : GS} {b : GB} {n : GN} {f : GF} {v w : GV} {q : Nat → GV} {p : GT} {r : GR} {h : GH} {β : Type}
theorem MV_b {i : Nat} (H : MV I i w) : w.1.natAbs < Bw 7 ∧ (w.2 : Int).natAbs < Bw 7 := by
  obtain ⟨-, -, -, h1, -, h2, -⟩ := H
  exact ⟨v200 h1, by rw [Int.natAbs_natCast]; exact v200 h2⟩
theorem C_lat {g : Nat} (hR : RA R) (H : InvC I t s b n f v q p r h) (hg : CV I g w) (hb : w.1.natAbs < Bw 7 ∧ (w.2 : Int).natAbs < Bw 7) (hn : 4541 ≠ g) : QK (f_X2_copy (mg 4625 I J R) 4541 g) (fun x => ∃ I', x = mg 4625 I' J R ∧ InvC I' t s b n f w q p r h ∧ CV I' 4541 w ∧ FrS (Sf 4541) I I') := by
  refine q_mono (F_copy hR isF_4541 hg hb.1 hb.2 hn) ?_
  rintro _ ⟨I', rfl, hF, hT⟩
  obtain ⟨h1, h2, h3, h4, h5, h6, h7, h8, h9, h10⟩ := H
  have go : ∀ x, ¬ (4541 ≤ x ∧ x < 4546) → I' x = I x := fun x g => hF x (fun y => g (by unfold Sf at y; omega))
  exact ⟨I', rfl, ⟨CTy_keep h1 (fun x g => go x (by omega)), CSh_keep h2 (fun x g => go x (by omega)), CTb_keep h3 (fun x g => go x (by omega)), CNm_keep h4 (fun x g => go x (by omega)), CFn_keep h5 (fun x g => go x (by omega)), hT, CKp_keep h7 (fun x g => go x (by omega)), CPr_keep h8 (fun x g => go x (by omega)), CTr_keep h9 (fun x g => go x (by omega)), CHs_keep h10 (fun x g => go x (by omega))⟩, hT, hF⟩
theorem M_lat {i : Nat} (hR : RA R) (H : InvM I t s b n f v q p r h) (hC : CSh I s) (hg : MV I i w) (hi : i < 3700) (hn : 26 ≠ i) : QK (f_X12_copyValue (mg 4625 I J R) 4561 26 (Int32.ofNat (i))) (fun x => ∃ I', x = mg 4625 I' J R ∧ InvM I' t s b n f w q p r h ∧ MV I' 26 w ∧ (∀ a k, a < 4561 → I' a k = I a k) ∧ I' 4561 0 = I 4561 0) := by
  refine q_mono (M_copy (a := 26) hR (by omega) hi hn hg) ?_
  rintro _ ⟨I', rfl, h3, e2, e3, hK, hv⟩
  obtain ⟨h1, h2, h3', h4, h5, h6, h7, h8, h9, h10⟩ := H
  have go : ∀ a k, a ≠ 4562 → a ≠ 4563 → (a = 4564 → k / 28 ≠ 26) → I' a k = I a k := fun a k g1 g2 g3 => by
    by_cases z : a = 4564
    · subst z
      exact hK k (by have := g3 rfl; omega)
    · rw [h3.1 a (fun y => y.elim g1 (fun y => y.elim g2 z))]
  exact ⟨I', rfl, ⟨MTy_keep h1 (fun a k g => go a k (by omega) (by omega) (by omega)), MSh_keep h2 hC.1 (fun a k g => go a k (by omega) (by omega) (by omega)) (CSh_80 hC), MTb_keep h3' (fun a k g => go a k (by omega) (by omega) (by omega)), MNm_keep h4 (fun a k g => go a k (by omega) (by omega) (by omega)), MFn_keep h5 (fun a k g => go a k (by omega) (by omega) (by omega)), hv, MKp_keep h7 (fun a k g => go a k (by omega) (by omega) (by omega)), MPr_keep h8 (fun a k g => go a k (by omega) (by omega) (by omega)), MTr_keep h9 (fun a k g => go a k (by omega) (by omega) (by omega)), MHs_keep h10 (fun a k g => go a k (by omega) (by omega) (by omega))⟩, hv, fun a k g => go a k (by omega) (by omega) (by omega), go _ _ (by omega) (by omega) (by omega)⟩
theorem Inv_tab (h1 : CTb I b) (h2 : MTb I b) : TabRel I := by
  intro p fx hp hf
  have a := h1.2 (fx * 16 + p) (by omega)
  have c := h2 p fx hp hf
  rw [← a] at c
  have c1 := congrArg Prod.fst c
  have c2 := congrArg (fun x => x.2.1) c
  have c3 := congrArg (fun x => x.2.2) c
  exact ⟨c1.symm, c2.symm, c3.symm⟩
theorem o_told (hR : RA R) (H : Inv I) : op_told Pinv (mg 4625 I J R) := by
  obtain ⟨t, s, b, n, f, v, q, p, r, h, hC, hM, hO⟩ := H
  exact p1_told (fun J => Pinv_th hR hC hM hO (fun x _ => rfl)) (fun J => Pinv_th hR hC hM hO (fun x _ => rfl)) hR hC.2.2.1.1 (Inv_tab hC.2.2.1 hM.2.2.1)
theorem l_recall {x w : Int32} {I1 : Nat → Nat → Int32} (hw : w = 0 ∨ w = 1) (h : f_X11_recall (mg 4625 I J R) 0 x = some (.inl w, mg 4625 I1 J R)) : f_L_recall (mg 4625 I J R) 0 x 4624 = some (0, mg 4625 I1 (oJ J (if w = 0 then 0 else 1)) R) := by
  unfold f_L_recall f_L_recall_j15
  rw [if_pos ok_0, h, Option.bind_some, q_let, Sum.elim_inl]
  rcases hw with rfl | rfl
  · rw [if_pos rfl, if_pos rfl]
    exact xb_eq owJ0 rfl
  · rw [if_neg (by decide), if_neg (by decide)]
    exact xb_eq owJ0 rfl
theorem o_recall (hR : RA R) (H : Inv I) : op_recall Pinv (mg 4625 I J R) := by
  obtain ⟨t, s, b, n, f, v, q, p, r, h, hC, hM, hO⟩ := H
  intro y0
  show opB Pinv (f_L_recall (mg 4625 I J R) 0 (ch y0) 4624) (fun σ => f_X12_recall σ 4561 (ch y0))
  generalize ch y0 = y
  by_cases hy : (97 : Int32) ≤ y ∧ y ≤ (122 : Int32)
  · obtain ⟨l, hl, ey, el⟩ := nm_dom hy.1 hy.2
    obtain ⟨c1, c2, c3⟩ := hC.2.2.2.1 l hl
    obtain ⟨m1, m2⟩ := hM.2.2.2.1 l hl
    by_cases z : n.1 l = 0
    · have e1 : f_X11_recall (mg 4625 I J R) 0 y = some (.inl 0, mg 4625 I J R) := by
        unfold f_X11_recall
        rw [if_pos ok_0, c_letterOf1 hy.1 hy.2, Option.bind_some, Sum.elim_inl, el, gr_0_2 hR, gr_11_7 hR, ga_18 hl, c1, if_pos z]
      have e2 : ∀ J, f_X12_recall (mg 4625 I J R) 4561 y = some (0, mg 4625 (thI I 0) J R) := by
        intro J
        unfold f_X12_recall f_X12_recall_j13 f_X12_recall_j33
        rw [m_isName1 hy.1 hy.2, Option.bind_some, if_neg (by decide), if_pos ok_4561, m_refO, el, gr_4561_47 hR, ga_4599 hl, thI_n (by omega), m1, if_pos z]
      exact op_okB (l_recall (Or.inl rfl) e1) (e2 _) thI_0 (Pinv_th hR hC hM hO (fun x _ => rfl))
    · have key : QK (f_X11_recall (mg 4625 I J R) 0 y) (fun x => ∃ I', x = (.inl 1, mg 4625 I' J R) ∧ InvC I' t s b n f (n.2 l) q p r h ∧ FrS (Sf 4541) I I') := by
        unfold f_X11_recall
        rw [if_pos ok_0, c_letterOf1 hy.1 hy.2, Option.bind_some, Sum.elim_inl, el, gr_0_2 hR, gr_11_7 hR, ga_18 hl, c1, if_neg z, gr_0_10 hR, gr_0_2 hR, gr_11_6 hR, g_name hR hl, if_pos (bF_xk isF_4541)]
        refine q_bind (C_lat hR hC c3 (MV_b m2) (by omega)) ?_
        rintro _ ⟨I', rfl, hC', -, hF⟩
        exact q_ok ⟨I', rfl, hC', hF⟩
      obtain ⟨_, e1, I2, rfl, hC2, hF2⟩ := key
      have hM2 : InvM I2 t s b n f v q p r h := InvM_C hM hC.2.1 (fun x k hx _ => by rw [hF2 x (fun w => by unfold Sf at w; omega)])
      have ref : ∀ J, QK (f_X12_recall (mg 4625 I2 J R) 4561 y) (fun x => ∃ I', x = (1, mg 4625 I' J R) ∧ InvM I' t s b n f (n.2 l) q p r h ∧ (∀ a k, a < 4561 → I' a k = I2 a k) ∧ I' 4561 0 = 0) := by
        intro J
        have hM3 : InvM (thI I2 0) t s b n f v q p r h := InvM_C hM2 hC.2.1 (fun x k hx hk => thI_n hk)
        obtain ⟨g1, g2⟩ := hM3.2.2.2.1 l hl
        unfold f_X12_recall f_X12_recall_j13
        rw [m_isName1 hy.1 hy.2, Option.bind_some, if_neg (by decide), if_pos ok_4561, m_refO, el, gr_4561_47 hR, ga_4599 hl, g1, if_neg z, if_pos ok_4561]
        have hC3 : CSh (thI I2 0) s := CSh_keep hC2.2.1 (fun x _ => by
          by_cases y : x = 4561
          · omega
          · exact funext (fun k => thI_n (fun e => absurd e y)))
        refine q_bind (M_lat hR hM3 hC3 g2 (by omega) (by omega)) ?_
        rintro _ ⟨I4, rfl, hM4, -, k1, k2⟩
        exact q_ok ⟨I4, rfl, hM4, fun a x ha => by rw [k1 a x ha, thI_n (by omega)], by rw [k2]; exact thI_0⟩
      obtain ⟨_, e2, I3, rfl, hM4, g1, g2⟩ := ref (oJ J (if (1 : Int32) = 0 then 0 else 1))
      exact op_okB (l_recall (Or.inr rfl) e1) e2 g2 (Pinv_mk hR (InvC_M hC2 g1) hM4 hO)
  · have e1 : f_L_recall (mg 4625 I J R) 0 y 4624 = some (1, mg 4625 I J R) := by
      unfold f_L_recall f_X11_recall
      rw [if_pos ok_0, if_pos ok_0, c_letterOf0 hy, Option.bind_some, Sum.elim_inr, Option.bind_some, q_let, Sum.elim_inr, if_pos rfl]
    have e2 : f_X12_recall (mg 4625 I J R) 4561 y = some (0, mg 4625 (thI I 1) J R) := by
      unfold f_X12_recall f_X12_recall_j13 f_X12_recall_j33
      rw [m_isName0 hy, Option.bind_some, if_pos rfl, if_pos ok_4561, m_refX]
    exact op_exB e1 e2 thI_0 (by decide) (Pinv_th hR hC hM hO (fun x _ => rfl))
theorem l_coefficient {x w : Int32} {I1 : Nat → Nat → Int32} (hw : w = 0 ∨ w = 1) (h : f_X11_coefficient (mg 4625 I J R) 0 x = some (.inl w, mg 4625 I1 J R)) : f_L_coefficient (mg 4625 I J R) 0 x 4624 = some (0, mg 4625 I1 (oJ J (if w = 0 then 0 else 1)) R) := by
  unfold f_L_coefficient f_L_coefficient_j15
  rw [if_pos ok_0, h, Option.bind_some, q_let, Sum.elim_inl]
  rcases hw with rfl | rfl
  · rw [if_pos rfl, if_pos rfl]
    exact xb_eq owJ0 rfl
  · rw [if_neg (by decide), if_neg (by decide)]
    exact xb_eq owJ0 rfl
theorem ofInt_sign0 {z : Int} : Int32.ofInt z.sign = 0 ↔ z = 0 := by
  rcases Int.lt_trichotomy z 0 with g | g | g
  · rw [Int.sign_eq_neg_one_of_neg g]
    exact ⟨fun e => absurd e (by decide), fun e => by omega⟩
  · rw [g]
    exact ⟨fun _ => rfl, fun _ => rfl⟩
  · rw [Int.sign_eq_one_of_pos g]
    exact ⟨fun e => absurd e (by decide), fun e => by omega⟩
theorem o_coefficient (hR : RA R) (H : Inv I) : op_coefficient Pinv (mg 4625 I J R) := by
  obtain ⟨t, s, b, n, f, v, q, p, r, h, hC, hM, hO⟩ := H
  intro y
  show opB Pinv (f_L_coefficient (mg 4625 I J R) 0 y 4624) (fun σ => f_X12_coefficient σ 4561 y)
  rcases i32_two 9 (by omega) y with ⟨k, hk, rfl⟩ | hy
  · have c3 := hC.2.2.2.2.2.2.1 k hk
    have m2 := hM.2.2.2.2.2.2.1 k hk
    have key : QK (f_X11_coefficient (mg 4625 I J R) 0 (Int32.ofNat (k))) (fun x => ∃ I', x = (.inl (if (q k).1 = 0 then 0 else 1), mg 4625 I' J R) ∧ InvC I' t s b n f (q k) q p r h ∧ FrS (Sf 4541) I I') := by
      unfold f_X11_coefficient f_X11_coefficient_j52
      rw [if_neg (i32_nlt0 (by omega)), if_pos (show (Int32.ofNat (k)) ≤ (8 : Int32) from (i32_le (m := 8) (by omega) (by omega)).mpr (by omega)), gr_0_10 hR, gr_0_9 hR, gr_2215_9 hR, g_kept hR hk, if_pos (bF_xk isF_4541)]
      refine q_bind (C_lat hR hC c3 (MV_b m2) (by omega)) ?_
      rintro _ ⟨I', rfl, hC', hT, hF⟩
      rw [gr_0_10 hR, if_pos (bF_xk isF_4541), F_isZero hR hT, Option.bind_some]
      by_cases z : (q k).1 = 0
      · rw [if_pos z, if_neg (by decide), if_pos z]
        exact q_ok ⟨I', rfl, hC', hF⟩
      · rw [if_neg z, if_pos rfl, if_neg z]
        exact q_ok ⟨I', rfl, hC', hF⟩
    obtain ⟨_, e1, I2, rfl, hC2, hF2⟩ := key
    have hM2 : InvM I2 t s b n f v q p r h := InvM_C hM hC.2.1 (fun x k hx _ => by rw [hF2 x (fun w => by unfold Sf at w; omega)])
    have ref : ∀ J, QK (f_X12_coefficient (mg 4625 I2 J R) 4561 (Int32.ofNat (k))) (fun x => ∃ I', x = ((if (q k).1 = 0 then 0 else 1), mg 4625 I' J R) ∧ InvM I' t s b n f (q k) q p r h ∧ (∀ a k, a < 4561 → I' a k = I2 a k) ∧ I' 4561 0 = 0) := by
      intro J
      have hM3 : InvM (thI I2 0) t s b n f v q p r h := InvM_C hM2 hC.2.1 (fun x k hx hk => thI_n hk)
      have g2 := hM3.2.2.2.2.2.2.1 k hk
      have hC3 : CSh (thI I2 0) s := CSh_keep hC2.2.1 (fun x _ => by
        by_cases y : x = 4561
        · omega
        · exact funext (fun k => thI_n (fun e => absurd e y)))
      unfold f_X12_coefficient f_X12_coefficient_j16 f_X12_coefficient_j50
      rw [m_in1 (lo := 0) (hi := 8) (i32_0le (by omega)) ((i32_le (m := 8) (by omega) (by omega)).mpr (by omega)), Option.bind_some, if_neg (by decide), if_pos ok_4561, m_refO, if_pos ok_4561, show (47 : Int32) + (Int32.ofNat (k)) = (Int32.ofNat (47 + k)) from n_add 47 k]
      refine q_bind (M_lat hR hM3 hC3 g2 (by omega) (by omega)) ?_
      rintro _ ⟨I4, rfl, hM4, hv, k1, k2⟩
      rw [if_pos ok_4561, show (26 : Int32) = (Int32.ofNat (26)) from rfl, M_sign hR (by omega) hv, Option.bind_some]
      by_cases z : (q k).1 = 0
      · rw [if_pos (ofInt_sign0.mpr z), if_pos z]
        exact q_ok ⟨I4, rfl, hM4, fun a x ha => by rw [k1 a x ha, thI_n (by omega)], by rw [k2]; exact thI_0⟩
      · rw [if_neg (fun e => z (ofInt_sign0.mp e)), if_neg z]
        exact q_ok ⟨I4, rfl, hM4, fun a x ha => by rw [k1 a x ha, thI_n (by omega)], by rw [k2]; exact thI_0⟩
    have hv : ((if (q k).1 = 0 then 0 else 1) : Int32) = 0 ∨ ((if (q k).1 = 0 then 0 else 1) : Int32) = 1 := by split <;> simp
    obtain ⟨_, e2, I3, rfl, hM4, g1, g2⟩ := ref (oJ J (if ((if (q k).1 = 0 then 0 else 1) : Int32) = 0 then 0 else 1))
    exact op_okB (l_coefficient hv e1) e2 g2 (Pinv_mk hR (InvC_M hC2 g1) hM4 hO)
  · have e1 : f_L_coefficient (mg 4625 I J R) 0 y 4624 = some (1, mg 4625 I J R) := by
      unfold f_L_coefficient f_X11_coefficient f_X11_coefficient_j10
      rw [if_pos ok_0]
      by_cases z : y < 0
      · rw [if_pos z]
        rfl
      · rw [if_neg z, if_neg (fun w => absurd (Int32.le_trans (hy.resolve_left z) w) (by decide))]
        rfl
    have e2 : f_X12_coefficient (mg 4625 I J R) 4561 y = some (0, mg 4625 (thI I 1) J R) := by
      unfold f_X12_coefficient f_X12_coefficient_j16
      rw [m_in0 (x := y) (lo := 0) (hi := 8) (i32_out (T := 9) (by omega) hy), Option.bind_some, if_pos rfl, if_pos ok_4561, m_refX]
    exact op_exB e1 e2 thI_0 (by decide) (Pinv_th hR hC hM hO (fun x _ => rfl))
end OF
