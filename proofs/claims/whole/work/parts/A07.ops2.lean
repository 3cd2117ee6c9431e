/-! calls: drop, trees, node, isSame, out, trace -/
section OB
variable {I : Nat → Nat → Int32} {J : Nat → Nat → Int64} {R : Nat → Nat → Option Nat} {t : GT} {s : GS} {b : GB} {n : GN} {f : GF} {v : GV} {q : Nat → GV} {p : GT} {r : GR} {h : GH} {β : Type}
theorem o_drop (hR : RA R) (H : Inv I) : op_drop Pinv (mg 4625 I J R) := by
  obtain ⟨t, s, b, n, f, v, q, p, r, h, hC, hM, hO⟩ := H
  have c1 := hC.1.2.1
  have m1 := hM.1.1
  refine ⟨(Int32.ofNat (t.1)), mg 4625 (up I 0 1 0) J R, mg 4625 (up (thI (up I 0 1 0) 0) 4561 19 0) J R, ?_, ok_4561, ?_, Pinv_mk (t := (0, t.2)) (s := s) (b := b) (n := n) (f := f) (v := v) (q := q) (p := p) (r := r) (h := h) hR ?_ ?_ hO⟩
  · unfold f_X11_drop
    rw [gi_0, c1, gs_0]
  · show f_X12_drop _ 4561 = _
    unfold f_X12_drop
    rw [gs_4561, gi_4561, show up (up I 0 1 0) 4561 0 0 = thI (up I 0 1 0) 0 from rfl, thI_n (by omega), up_n (by omega), m1, gs_4561]
  · have go : ∀ x, x ≠ 0 → x < 4561 → (up (thI (up I 0 1 0) 0) 4561 19 0) x = I x := fun x a d => funext (fun k => by
      rw [up_n (by omega), thI_n (by omega), up_n (by omega)])
    obtain ⟨h1, h2, h3, h4, h5, h6, h7, h8, h9, h10⟩ := hC
    refine ⟨⟨Nat.zero_le _, ?_, fun k hk => absurd hk (Nat.not_lt_zero k)⟩, CSh_keep h2 (fun x g => go x (by omega) (by omega)), CTb_keep h3 (fun x g => go x (by omega) (by omega)), CNm_keep h4 (fun x g => go x (by omega) (by omega)), CFn_keep h5 (fun x g => go x (by omega) (by omega)), CV_keep h6 (fun x g g' => go x (by omega) (by omega)), CKp_keep h7 (fun x g => go x (by omega) (by omega)), CPr_keep h8 (fun x g => go x (by omega) (by omega)), ⟨h9.1, ?_, ?_⟩, CHs_keep h10 (fun x g => go x (by omega) (by omega))⟩
    · rw [up_n (by omega), thI_n (by omega), up_s]
      rfl
    · rw [up_n (by omega), thI_n (by omega), up_n (by omega)]
      exact h9.2.1
    · intro k hk
      rw [go 4559 (by omega) (by omega), go 4560 (by omega) (by omega)]
      exact h9.2.2 k hk
  · have go : ∀ x k, 4561 ≤ x → (x = 4561 → k ≠ 0 ∧ k ≠ 19) → (up (thI (up I 0 1 0) 0) 4561 19 0) x k = I x k := fun x k a d => by
      rw [up_n (by omega), thI_n (by omega), up_n (by omega)]
    obtain ⟨h1, h2, h3, h4, h5, h6, h7, h8, h9, h10⟩ := hM
    exact ⟨⟨up_s, fun k hk => absurd hk (Nat.not_lt_zero k)⟩, MSh_keep h2 hC.2.1.1 (fun a k g => go a k (by omega) (by omega)) (CSh_80 hC.2.1), MTb_keep h3 (fun a k g => go a k (by omega) (by omega)), MNm_keep h4 (fun a k g => go a k (by omega) (by omega)), MFn_keep h5 (fun a k g => go a k (by omega) (by omega)), MV_keep h6 (fun k g g' => go _ k (by omega) (by omega)), MKp_keep h7 (fun a k g => go a k (by omega) (by omega)), MPr_keep h8 (fun a k g => go a k (by omega) (by omega)), MTr_keep h9 (fun a k g => go a k (by omega) (by omega)), MHs_keep h10 (fun a k g => go a k (by omega) (by omega))⟩
theorem o_trees (hR : RA R) (H : Inv I) : op_trees Pinv (mg 4625 I J R) := by
  obtain ⟨t, s, b, n, f, v, q, p, r, h, hC, hM, hO⟩ := H
  refine ⟨(Int32.ofNat (s.1)), mg 4625 (thI I 0) J R, ?_, ok_4561, ?_, Pinv_th hR hC hM hO (fun x _ => rfl)⟩
  · unfold f_X11_trees
    rw [gr_0_2 hR, gi_11, hC.2.1.2.1]
  · unfold f_X12_trees
    rw [gs_4561, gi_4561, show up I 4561 0 0 = thI I 0 from rfl, thI_n (by omega), hM.2.1.1]
theorem l_out {w x : Int32} (h : f_X11_out (mg 4625 I J R) 0 x = some (.inl w)) : f_L_out (mg 4625 I J R) 0 x 4624 = some (0, mg 4625 I (oJ J w.toInt64) R) := by
  unfold f_L_out
  rw [if_pos ok_0, h, Option.bind_some, Sum.elim_inl, owJ0]
  rfl
theorem o_out (hR : RA R) (H : Inv I) : op_out Pinv (mg 4625 I J R) := by
  obtain ⟨t, s, b, n, f, v, q, p, r, h, hC, hM, hO⟩ := H
  intro x
  obtain ⟨p1, p2, p3⟩ := hC.2.2.2.2.2.2.2.1
  obtain ⟨m1, m2⟩ := hM.2.2.2.2.2.2.2.1
  rcases i32_two p.1 (by omega) x with ⟨k, hk, rfl⟩ | hx
  · have e1 : f_X11_out (mg 4625 I J R) 0 (Int32.ofNat (k)) = some (.inl (p.2 k)) := by
      unfold f_X11_out
      rw [if_neg (i32_nlt0 (by omega)), gr_0_4 hR, gi_559, p2, if_pos ((i32_lt (by omega) (by omega)).mpr hk), gr_0_4 hR, gr_559_2 hR, ga_562 (by omega), p3 k hk]
    have e2 : ∀ J, f_X12_out (mg 4625 I J R) 4561 (Int32.ofNat (k)) = some (p.2 k, mg 4625 (thI I 0) J R) := by
      intro J
      unfold f_X12_out f_X12_out_j20 f_X12_out_j38
      rw [gi_4561, m1, i32_tm _ (by omega), m_in1 (i32_0le (by omega)) ((i32_le (by omega) (by omega)).mpr (by omega)), Option.bind_some, if_neg (by decide), if_pos ok_4561, m_refO, gr_4561_41 hR, ga_4595 (by omega), thI_n (by omega), m2 k hk]
    exact op_ok (l_out e1) (e2 _) thI_0 (Pinv_th hR hC hM hO (fun x _ => rfl))
  · have e1 : f_L_out (mg 4625 I J R) 0 x 4624 = some (1, mg 4625 I J R) := by
      unfold f_L_out f_X11_out f_X11_out_j15
      rw [if_pos ok_0]
      by_cases z : x < 0
      · rw [if_pos z]
        rfl
      · rw [if_neg z, gr_0_4 hR, gi_559, p2, if_neg (Int32.not_lt.mpr (hx.resolve_left z))]
        rfl
    have e2 : f_X12_out (mg 4625 I J R) 4561 x = some (0, mg 4625 (thI I 1) J R) := by
      unfold f_X12_out f_X12_out_j20 f_X12_out_j38
      rw [gi_4561, m1, m_in0 (i32_out (by omega) hx), Option.bind_some, if_pos rfl, if_pos ok_4561, m_refX]
    exact op_ex e1 e2 thI_0 (by decide) (Pinv_th hR hC hM hO (fun x _ => rfl))
theorem l_trace {w x y : Int32} (h : f_X11_trace (mg 4625 I J R) 0 x y = some (.inl w)) : f_L_trace (mg 4625 I J R) 0 x y 4624 = some (0, mg 4625 I (oJ J w.toInt64) R) := by
  unfold f_L_trace
  rw [if_pos ok_0, h, Option.bind_some, Sum.elim_inl, owJ0]
  rfl
theorem o_trace (hR : RA R) (H : Inv I) : op_trace Pinv (mg 4625 I J R) := by
  obtain ⟨t, s, b, n, f, v, q, p, r, h, hC, hM, hO⟩ := H
  intro x y
  obtain ⟨p1, p2, p3⟩ := hC.2.2.2.2.2.2.2.2.1
  obtain ⟨m1, m2⟩ := hM.2.2.2.2.2.2.2.2.1
  rcases i32_two 2 (by omega) y with ⟨w, hw, rfl⟩ | hy
  · have y0 : ¬ (Int32.ofNat (w)) < (0 : Int32) := i32_nlt0 (by omega)
    have y1 : (Int32.ofNat (w)) ≤ (1 : Int32) := (i32_le (m := 1) (by omega) (by omega)).mpr (by omega)
    have y2 : (0 : Int32) ≤ (Int32.ofNat (w)) := i32_0le (by omega)
    have key : ∃ u, f_X11_trace (mg 4625 I J R) 0 x (Int32.ofNat (w)) = some (.inl u) ∧ ∀ J, f_X12_trace (mg 4625 I J R) 4561 x (Int32.ofNat (w)) = some (u, mg 4625 (thI I 0) J R) := by
      rcases i32_two r.1 (by omega) x with ⟨k, hk, rfl⟩ | hx
      · rcases (by omega : w = 0 ∨ w = 1) with rfl | rfl
        · refine ⟨r.2.1 k, ?_, fun J => ?_⟩
          · unfold f_X11_trace f_X11_trace_j53
            rw [if_neg y0, if_pos y1, if_neg (i32_nlt0 (by omega)), gi_0, p2, if_pos ((i32_lt (by omega) (by omega)).mpr hk), if_pos (show (Int32.ofNat (0)) = 0 from rfl), gr_0_13 hR, ga_4559 (by omega), (p3 k hk).1]
          · unfold f_X12_trace f_X12_trace_j15 f_X12_trace_j62
            rw [m_in1 y2 y1, Option.bind_some, if_neg (by decide), if_pos ok_4561, m_refO, gi_4561, thI_n (by omega), m1, i32_tm _ (by omega), m_in1 (i32_0le (by omega)) ((i32_le (by omega) (by omega)).mpr (by omega)), Option.bind_some, if_neg (by decide), if_pos (show (Int32.ofNat (0)) = 0 from rfl), gr_4561_65 hR, ga_4611 (by omega), thI_n (by omega), (m2 k hk).1]
        · refine ⟨r.2.2 k, ?_, fun J => ?_⟩
          · unfold f_X11_trace f_X11_trace_j53
            rw [if_neg y0, if_pos y1, if_neg (i32_nlt0 (by omega)), gi_0, p2, if_pos ((i32_lt (by omega) (by omega)).mpr hk), if_neg (show ¬ (Int32.ofNat (1)) = 0 by decide), gr_0_14 hR, ga_4560 (by omega), (p3 k hk).2]
          · unfold f_X12_trace f_X12_trace_j15 f_X12_trace_j62
            rw [m_in1 y2 y1, Option.bind_some, if_neg (by decide), if_pos ok_4561, m_refO, gi_4561, thI_n (by omega), m1, i32_tm _ (by omega), m_in1 (i32_0le (by omega)) ((i32_le (by omega) (by omega)).mpr (by omega)), Option.bind_some, if_neg (by decide), if_neg (show ¬ (Int32.ofNat (1)) = 0 by decide), gr_4561_66 hR, ga_4612 (by omega), thI_n (by omega), (m2 k hk).2]
      · refine ⟨-1, ?_, fun J => ?_⟩
        · unfold f_X11_trace f_X11_trace_j32
          rw [if_neg y0, if_pos y1]
          by_cases z : x < 0
          · rw [if_pos z]
          · rw [if_neg z, gi_0, p2, if_neg (Int32.not_lt.mpr (hx.resolve_left z))]
        · unfold f_X12_trace f_X12_trace_j15 f_X12_trace_j62
          rw [m_in1 y2 y1, Option.bind_some, if_neg (by decide), if_pos ok_4561, m_refO, gi_4561, thI_n (by omega), m1, m_in0 (i32_out (by omega) hx), Option.bind_some, if_pos rfl]
    obtain ⟨u, e1, e2⟩ := key
    exact op_ok (l_trace e1) (e2 _) thI_0 (Pinv_th hR hC hM hO (fun x _ => rfl))
  · have e1 : f_L_trace (mg 4625 I J R) 0 x y 4624 = some (1, mg 4625 I J R) := by
      unfold f_L_trace f_X11_trace f_X11_trace_j9
      rw [if_pos ok_0]
      by_cases z : y < 0
      · rw [if_pos z]
        rfl
      · rw [if_neg z, if_neg (fun w => absurd (Int32.le_trans (hy.resolve_left z) w) (by decide))]
        rfl
    have e2 : f_X12_trace (mg 4625 I J R) 4561 x y = some (0, mg 4625 (thI I 1) J R) := by
      unfold f_X12_trace f_X12_trace_j15
      rw [m_in0 (x := y) (lo := 0) (hi := 1) (i32_out (T := 2) (by omega) hy), Option.bind_some, if_pos rfl, if_pos ok_4561, m_refX]
    exact op_ex e1 e2 thI_0 (by decide) (Pinv_th hR hC hM hO (fun x _ => rfl))
theorem l_isSame {w x y : Int32} (hw : w = 0 ∨ w = 1) (h : f_X11_isSame (mg 4625 I J R) 0 x y = some (.inl w)) : f_L_isSame (mg 4625 I J R) 0 x y 4624 = some (0, mg 4625 I (oJ J (if w = 0 then 0 else 1)) R) := by
  unfold f_L_isSame f_L_isSame_j16
  rw [if_pos ok_0, h, Option.bind_some, Sum.elim_inl]
  rcases hw with rfl | rfl
  · rw [if_pos rfl, if_pos rfl, show (0 : Int32) = (Int32.ofNat (0)) from rfl]
    exact xb_eq owJ0 rfl
  · rw [if_neg (by decide), if_neg (by decide)]
    exact xb_eq owJ0 rfl
theorem o_isSame (hR : RA R) (H : Inv I) : op_isSame Pinv (mg 4625 I J R) := by
  obtain ⟨t, s, b, n, f, v, q, p, r, h, hC, hM, hO⟩ := H
  intro x y
  have h30 := hC.2.1.1
  have bad : f_X11_isSame (mg 4625 I J R) 0 x y = some (.inr "java/lang/IndexOutOfBoundsException") → f_X12_isSame (mg 4625 I J R) 4561 x y = some (0, mg 4625 (thI I 1) J R) → opB Pinv (f_L_isSame (mg 4625 I J R) 0 x y 4624) (fun σ => f_X12_isSame σ 4561 x y) := by
    intro e1 e2
    have e3 : f_L_isSame (mg 4625 I J R) 0 x y 4624 = some (1, mg 4625 I J R) := by
      unfold f_L_isSame
      rw [if_pos ok_0, e1, Option.bind_some, Sum.elim_inr, if_pos rfl]
    exact op_exB e3 e2 thI_0 (by decide) (Pinv_th hR hC hM hO (fun x _ => rfl))
  rcases i32_two s.1 (by omega) x with ⟨k, hk, rfl⟩ | hx
  · rcases i32_two s.1 (by omega) y with ⟨j, hj, rfl⟩ | hy
    · have c1 := hC.2.1.2.2 k hk
      have c2 := hC.2.1.2.2 j hj
      have n1 := CT_n c1
      have n2 := CT_n c2
      obtain ⟨w, ew, hw⟩ := T_sameAs (J := J) hR c1.1 c2.1
      have hv : w = 0 ∨ w = 1 := by rcases hw with ⟨rfl, -⟩ | ⟨rfl, -⟩ <;> simp
      have e1 : f_X11_isSame (mg 4625 I J R) 0 (Int32.ofNat (k)) (Int32.ofNat (j)) = some (.inl w) := by
        unfold f_X11_isSame
        rw [if_pos ok_0, C_treeAt1 hR hC.2.1 hk, Sum.elim_inl, if_pos ok_0, C_treeAt1 hR hC.2.1 hj, Sum.elim_inl, if_pos (bT_xk c1.1.1), ew]
        rcases hv with rfl | rfl <;> rfl
      have e2 : ∀ J, f_X12_isSame (mg 4625 I J R) 4561 (Int32.ofNat (k)) (Int32.ofNat (j)) = some (w, mg 4625 (thI I 0) J R) := by
        intro J
        have m1 : MT (thI I 0) (80 * k) (s.2.1 k) (s.2.2.1 k) (s.2.2.2 k) := MT_keep (hM.2.1.2 k hk).2 (fun a x _ _ _ _ => thI_n (by omega))
        have m2 : MT (thI I 0) (80 * j) (s.2.1 j) (s.2.2.1 j) (s.2.2.2 j) := MT_keep (hM.2.1.2 j hj).2 (fun a x _ _ _ _ => thI_n (by omega))
        have as := M_areSame (J := J) (i := 0) (j := 0) hR m1 m2 m1.2.1.1 m2.2.1.1
        rw [Nat.add_zero, Nat.add_zero] at as
        have ec : (if s.2.2.2 k 0 = s.2.2.2 j 0 ∧ ∀ i, i < s.2.2.2 k 0 → s.2.2.1 k (0 + i) = s.2.2.1 j (0 + i) then (1 : Int32) else 0) = w := by
          rw [m1.2.1.2.2.1, m2.2.1.2.2.1]
          simp only [Nat.zero_add]
          rcases hw with ⟨rfl, g⟩ | ⟨rfl, g⟩
          · exact if_pos g
          · exact if_neg g
        rw [ec] at as
        unfold f_X12_isSame f_X12_isSame_j22 f_X12_isSame_j49 f_X12_isSame_j50
        rw [if_pos ok_4561, M_isTree1 hM.2.1 h30 hk, if_neg (by decide), if_pos ok_4561, M_isTree1 hM.2.1 h30 hj, if_neg (by decide), if_pos ok_4561, m_refO, M_shelf, M_shelf, if_pos ok_4561, as, Option.bind_some]
        rcases hv with rfl | rfl <;> rfl
      exact op_okB (l_isSame hv e1) (e2 _) thI_0 (Pinv_th hR hC hM hO (fun x _ => rfl))
    · refine bad ?_ ?_
      · unfold f_X11_isSame
        rw [if_pos ok_0, C_treeAt1 hR hC.2.1 hk, Sum.elim_inl, if_pos ok_0, C_treeAt0 hR hC.2.1 hy, Sum.elim_inr]
      · unfold f_X12_isSame f_X12_isSame_j17 f_X12_isSame_j22 f_X12_isSame_j49 f_X12_isSame_j50
        rw [if_pos ok_4561, M_isTree1 hM.2.1 h30 hk, if_neg (by decide), if_pos ok_4561, M_isTree0 hM.2.1 h30 hy, if_pos rfl, if_pos ok_4561, m_refX]
        rfl
  · refine bad ?_ ?_
    · unfold f_X11_isSame
      rw [if_pos ok_0, C_treeAt0 hR hC.2.1 hx, Sum.elim_inr]
    · unfold f_X12_isSame f_X12_isSame_j17 f_X12_isSame_j22 f_X12_isSame_j49 f_X12_isSame_j50
      rw [if_pos ok_4561, M_isTree0 hM.2.1 h30 hx, if_pos rfl, if_pos ok_4561, m_refX]
      rfl
end OB
