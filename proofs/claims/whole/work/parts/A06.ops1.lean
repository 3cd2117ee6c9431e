/-! calls: typing, trees asked -/
def Pinv (σ : xM) : Prop := ∃ (I : Nat → Nat → Int32) (J : Nat → Nat → Int64) (R : Nat → Nat → Option Nat), σ = mg 4625 I J R ∧ RA R ∧ Inv I
theorem nar_ch {c : Nat} (h : c < 65536) : vp_nar .char (Int32.ofNat (c)) = (Int32.ofNat (c)) := by
  have e : vp_nar .char (Int32.ofNat (c)) = ((Int32.ofNat (c)).toUInt32 % 65536).toInt32 := rfl
  rw [e, u32_nat]
  congr 1
  rw [UInt32.toNat_mod]
  show (BitVec.ofNat 32 c).toNat % 65536 = c
  rw [BitVec.toNat_ofNat]
  omega
theorem i32_two (T : Nat) (hT : T < 2147483648) (x : Int32) : (∃ t, t < T ∧ x = (Int32.ofNat (t))) ∨ (x < 0 ∨ (Int32.ofNat (T)) ≤ x) := by
  by_cases h : x < 0
  · exact Or.inr (Or.inl h)
  · by_cases h2 : (Int32.ofNat (T)) ≤ x
    · exact Or.inr (Or.inr h2)
    · left
      by_cases z : T = 0
      · subst z
        exact absurd (Int32.not_lt.mp h) h2
      · obtain ⟨j, a, b⟩ := rng_dom (m := T) hT (Int32.not_lt.mp h) (Int32.le_of_lt (Int32.not_le.mp h2))
        refine ⟨j, ?_, b⟩
        rw [b] at h2
        by_cases y : j < T
        · exact y
        · exact absurd ((i32_le hT (by omega)).mpr (by omega)) h2
theorem i32_tm (T : Nat) (h0 : 0 < T) : (Int32.ofNat (T)) - 1 = (Int32.ofNat (T - 1)) := n_sub (a := T) (b := 1) (by omega)
section OA
variable {I : Nat → Nat → Int32} {J : Nat → Nat → Int64} {R : Nat → Nat → Option Nat} {t : GT} {s : GS} {b : GB} {n : GN} {f : GF} {v : GV} {q : Nat → GV} {p : GT} {r : GR} {h : GH} {β : Type}
theorem Pinv_mk (hR : RA R) (h1 : InvC I t s b n f v q p r h) (h2 : InvM I t s b n f v q p r h) (h3 : OKH s b f h) : Pinv (mg 4625 I J R) := ⟨I, J, R, rfl, hR, t, s, b, n, f, v, q, p, r, h, h1, h2, h3⟩
theorem InvC_M (H : InvC I t s b n f v q p r h) {I' : Nat → Nat → Int32} (e : ∀ x k, x < 4561 → I' x k = I x k) : InvC I' t s b n f v q p r h := InvC_keep H (fun x hx => funext (fun k => e x k (by unfold DC at hx; omega)))
theorem InvM_C {I0 : Nat → Nat → Int32} (H : InvM I t s b n f v q p r h) (hC : CSh I0 s) {I' : Nat → Nat → Int32} (e : ∀ x k, 4561 ≤ x → (x = 4561 → k ≠ 0) → I' x k = I x k) : InvM I' t s b n f v q p r h := InvM_keep H hC.1 (CSh_80 hC) (fun x k hx => e x k (by unfold DM at hx; omega) (by unfold DM at hx; omega))
theorem thI_n {τ : Int32} {x k : Nat} (h : x = 4561 → k ≠ 0) : thI I τ x k = I x k := up_n (by omega)
/-- the reference has only told what was thrown -/
theorem Pinv_th {τ : Int32} {I1 : Nat → Nat → Int32} (hR : RA R) (h1 : InvC I t s b n f v q p r h) (h2 : InvM I t s b n f v q p r h) (h3 : OKH s b f h) (hd : ∀ x, (DC x ∨ 4561 ≤ x) → I1 x = I x) : Pinv (mg 4625 (thI I1 τ) J R) := by
  refine Pinv_mk hR (InvC_keep h1 (fun x hx => funext (fun k => ?_))) (InvM_C h2 h1.2.1 (fun x k hx hk => ?_)) h3
  · rw [thI_n (by unfold DC at hx; omega), hd x (Or.inl hx)]
  · rw [thI_n hk, hd x (Or.inr hx)]
theorem C_treeAt1 {k : Nat} {F : Nat ⊕ String → Option β} (hR : RA R) (H : CSh I s) (hk : k < s.1) : (f_X11_treeAt (mg 4625 I J R) 0 (Int32.ofNat (k))).bind F = F (.inl (70 + 8 * k)) := by
  have h30 := H.1
  unfold f_X11_treeAt
  rw [if_neg (i32_nlt0 (by omega)), gr_0_2 hR, gi_11, H.2.1, if_neg (fun z => absurd ((i32_le (by omega) (by omega)).mp z) (by omega)), gr_0_2 hR, gr_11_4 hR, ogL_16, Option.bind_some, if_pos (show (Int32.ofNat (k)) < (30 : Int32) from (i32_lt (m := 30) (by omega) (by omega)).mpr (by omega)), gr_0_2 hR, gr_11_4 hR, g_shelf hR (by omega)]
  rfl
theorem C_treeAt0 {x : Int32} {F : Nat ⊕ String → Option β} (hR : RA R) (H : CSh I s) (hk : x < 0 ∨ (Int32.ofNat (s.1)) ≤ x) : (f_X11_treeAt (mg 4625 I J R) 0 x).bind F = F (.inr "java/lang/IndexOutOfBoundsException") := by
  unfold f_X11_treeAt f_X11_treeAt_j27
  by_cases z : x < 0
  · rw [if_pos z]; rfl
  · rw [if_neg z, gr_0_2 hR, gi_11, H.2.1, if_pos (hk.resolve_left z)]
    rfl
theorem M_isTree1 {k : Nat} {F : Int32 → Option β} (H : MSh I s) (h30 : s.1 ≤ 30) (hk : k < s.1) : (f_X12_isTree (mg 4625 I J R) 4561 (Int32.ofNat (k))).bind F = F 1 := by
  unfold f_X12_isTree
  rw [gi_4561, H.1, i32_tm _ (by omega), m_in1 (i32_0le (by omega)) ((i32_le (by omega) (by omega)).mpr (by omega))]
  rfl
theorem i32_out {T : Nat} (hT : T ≤ 2000) {x : Int32} (hk : x < 0 ∨ (Int32.ofNat (T)) ≤ x) : ¬ ((0 : Int32) ≤ x ∧ x ≤ (Int32.ofNat (T)) - 1) := by
  rintro ⟨a, z⟩
  rcases hk with hk | hk
  · exact absurd hk (Int32.not_lt.mpr a)
  · by_cases w : T = 0
    · subst w
      exact absurd (Int32.le_trans a z) (by decide)
    · rw [i32_tm _ (by omega)] at z
      exact absurd ((i32_le (by omega) (by omega)).mp (Int32.le_trans hk z)) (by omega)
theorem M_isTree0 {x : Int32} {F : Int32 → Option β} (H : MSh I s) (h30 : s.1 ≤ 30) (hk : x < 0 ∨ (Int32.ofNat (s.1)) ≤ x) : (f_X12_isTree (mg 4625 I J R) 4561 x).bind F = F 0 := by
  unfold f_X12_isTree
  rw [gi_4561, H.1, m_in0 (i32_out (by omega) hk)]
  rfl
theorem C_needNode1 {a k m : Nat} {nd : Nat → Nd} {F : Unit ⊕ String → Option β} (H : CN I a m nd) (hk : k < m) : (f_X11_needNode (mg 4625 I J R) 0 a (Int32.ofNat (k))).bind F = F (.inl ()) := by
  have := H.2.2.1
  unfold f_X11_needNode
  rw [if_neg (i32_nlt0 (by omega)), bT_gI H.1, H.2.1, if_pos ((i32_lt (by omega) (by omega)).mpr hk)]
  rfl
theorem C_needNode0 {a m : Nat} {x : Int32} {nd : Nat → Nd} {F : Unit ⊕ String → Option β} (H : CN I a m nd) (hk : x < 0 ∨ (Int32.ofNat (m)) ≤ x) : (f_X11_needNode (mg 4625 I J R) 0 a x).bind F = F (.inr "java/lang/IndexOutOfBoundsException") := by
  unfold f_X11_needNode f_X11_needNode_j12
  by_cases z : x < 0
  · rw [if_pos z]; rfl
  · rw [if_neg z, bT_gI H.1, H.2.1, if_neg (Int32.not_lt.mpr (hk.resolve_left z))]
    rfl
theorem M_isNode1 {k i : Nat} {F : Int32 → Option β} (hR : RA R) (H : MSh I s) (h30 : s.1 ≤ 30) (hk : k < s.1) (hi : i < s.2.1 k) (h80 : s.2.1 k ≤ 80) : (f_X12_isNode (mg 4625 I J R) 4561 (Int32.ofNat (k)) (Int32.ofNat (i))).bind F = F 1 := by
  unfold f_X12_isNode f_X12_isNode_j28 f_X12_isNode_j29
  rw [if_pos ok_4561, M_isTree1 H h30 hk, if_neg (by decide), gr_4561_9 hR, ga_4570 (by omega), (H.2 k hk).1, i32_tm _ (by omega), m_in1 (i32_0le (by omega)) ((i32_le (by omega) (by omega)).mpr (by omega))]
  rfl
theorem M_isNode0 {k : Nat} {x : Int32} {F : Int32 → Option β} (hR : RA R) (H : MSh I s) (h30 : s.1 ≤ 30) (hk : k < s.1) (hi : x < 0 ∨ (Int32.ofNat (s.2.1 k)) ≤ x) (h80 : s.2.1 k ≤ 80) : (f_X12_isNode (mg 4625 I J R) 4561 (Int32.ofNat (k)) x).bind F = F 0 := by
  unfold f_X12_isNode f_X12_isNode_j28 f_X12_isNode_j29
  rw [if_pos ok_4561, M_isTree1 H h30 hk, if_neg (by decide), gr_4561_9 hR, ga_4570 (by omega), (H.2 k hk).1, m_in0 (i32_out (by omega) hi)]
  rfl
theorem M_isNodeT {x y : Int32} {F : Int32 → Option β} (H : MSh I s) (h30 : s.1 ≤ 30) (hk : x < 0 ∨ (Int32.ofNat (s.1)) ≤ x) : (f_X12_isNode (mg 4625 I J R) 4561 x y).bind F = F 0 := by
  unfold f_X12_isNode f_X12_isNode_j28 f_X12_isNode_j29
  rw [if_pos ok_4561, M_isTree0 H h30 hk, if_pos rfl]
  rfl
theorem o_type (hR : RA R) (H : Inv I) : op_type Pinv (mg 4625 I J R) := by
  obtain ⟨t, s, b, n, f, v, q, p, r, h, hC, hM, hO⟩ := H
  intro x1
  obtain ⟨c, hc, ec⟩ := ch_dom x1
  rw [ec]
  have l60 := hC.1.1
  have c1 := hC.1.2.1
  have m1 := hM.1.1
  by_cases z : t.1 < 60
  · have e1 : f_X11_type (mg 4625 I J R) 0 (Int32.ofNat (c)) = some (.inl (Int32.ofNat (t.1 + 1)), mg 4625 (up (up I 10 t.1 (Int32.ofNat (c))) 0 1 (Int32.ofNat (t.1 + 1))) J R) := by
      unfold f_X11_type
      rw [gi_0, c1, gr_0_0 hR, ogL_10, Option.bind_some, if_pos (show (Int32.ofNat (t.1)) < (60 : Int32) from (i32_lt (m := 60) (by omega) (by omega)).mpr z), gr_0_0 hR, gi_0, c1, gcw_10 z, nar_ch hc, gi_0, up_n (by omega), c1, show (Int32.ofNat (t.1)) + 1 = (Int32.ofNat (t.1 + 1)) from n_add t.1 1, gs_0, gi_0, up_s]
    have e2 : ∀ J, f_X12_type (mg 4625 (up (up I 10 t.1 (Int32.ofNat (c))) 0 1 (Int32.ofNat (t.1 + 1))) J R) 4561 (Int32.ofNat (c)) = some ((Int32.ofNat (t.1 + 1)), mg 4625 (up (up (thI (up (up I 10 t.1 (Int32.ofNat (c))) 0 1 (Int32.ofNat (t.1 + 1))) 0) 4578 t.1 (Int32.ofNat (c))) 4561 19 (Int32.ofNat (t.1 + 1))) J R) := by
      intro J
      unfold f_X12_type
      rw [gi_4561, up_n (by omega), up_n (by omega), m1, if_neg (show ¬ (Int32.ofNat (t.1)) = (60 : Int32) from fun y => absurd ((i32_eq (m := 60) (by omega) (by omega)).mp y) (by omega))]
      unfold f_X12_type_j15
      rw [if_pos ok_4561, m_refO, gr_4561_18 hR, gi_4561, thI_n (by omega), up_n (by omega), up_n (by omega), m1, gw_4578 z, gi_4561, up_n (by omega), thI_n (by omega), up_n (by omega), up_n (by omega), m1, show (Int32.ofNat (t.1)) + 1 = (Int32.ofNat (t.1 + 1)) from n_add t.1 1, gs_4561, gi_4561, up_s]
    refine op_ok (l_type e1) (e2 _) ?_ (Pinv_mk (t := (t.1 + 1, upN t.2 t.1 (Int32.ofNat (c)))) (s := s) (b := b) (n := n) (f := f) (v := v) (q := q) (p := p) (r := r) (h := h) hR ?_ ?_ hO)
    · rw [up_n (by omega), up_n (by omega)]
      exact thI_0
    · obtain ⟨h1, h2, h3, h4, h5, h6, h7, h8, h9, h10⟩ := hC
      have go : ∀ x, x ≠ 0 → x ≠ 10 → x < 4561 → (up (up (thI (up (up I 10 t.1 (Int32.ofNat (c))) 0 1 (Int32.ofNat (t.1 + 1))) 0) 4578 t.1 (Int32.ofNat (c))) 4561 19 (Int32.ofNat (t.1 + 1))) x = I x := fun x a b d => funext (fun k => by
        rw [up_n (by omega), up_n (by omega), thI_n (by omega), up_n (by omega), up_n (by omega)])
      refine ⟨⟨by show t.1 + 1 ≤ 60; omega, ?_, fun k hk => ?_⟩, CSh_keep h2 (fun x g => go x (by omega) (by omega) (by omega)), CTb_keep h3 (fun x g => go x (by omega) (by omega) (by omega)), CNm_keep h4 (fun x g => go x (by omega) (by omega) (by omega)), CFn_keep h5 (fun x g => go x (by omega) (by omega) (by omega)), CV_keep h6 (fun x g g' => go x (by omega) (by omega) (by omega)), CKp_keep h7 (fun x g => go x (by omega) (by omega) (by omega)), CPr_keep h8 (fun x g => go x (by omega) (by omega) (by omega)), ⟨h9.1, ?_, ?_⟩, CHs_keep h10 (fun x g => go x (by omega) (by omega) (by omega))⟩
      · rw [up_n (by omega), up_n (by omega), thI_n (by omega), up_s]
      · have hk' : k < t.1 + 1 := hk
        rw [up_n (by omega), up_n (by omega), thI_n (by omega), up_n (by omega)]
        show up I 10 t.1 (Int32.ofNat (c)) 10 k = upN t.2 t.1 (Int32.ofNat (c)) k ∧ ∃ d, d < 65536 ∧ upN t.2 t.1 (Int32.ofNat (c)) k = (Int32.ofNat (d))
        by_cases y : k = t.1
        · rw [y, up_s, upN_s]
          exact ⟨rfl, c, hc, rfl⟩
        · rw [up_n (by omega), upN_n y]
          exact h1.2.2 k (by omega)
      · rw [up_n (by omega), up_n (by omega), thI_n (by omega), up_n (by omega), up_n (by omega)]
        exact h9.2.1
      · intro k hk
        rw [go 4559 (by omega) (by omega) (by omega), go 4560 (by omega) (by omega) (by omega)]
        exact h9.2.2 k hk
    · have go : ∀ x k, 4561 ≤ x → x ≠ 4578 → (x = 4561 → k ≠ 0 ∧ k ≠ 19) → (up (up (thI (up (up I 10 t.1 (Int32.ofNat (c))) 0 1 (Int32.ofNat (t.1 + 1))) 0) 4578 t.1 (Int32.ofNat (c))) 4561 19 (Int32.ofNat (t.1 + 1))) x k = I x k := fun x k a b d => by
        rw [up_n (by omega), up_n (by omega), thI_n (by omega), up_n (by omega), up_n (by omega)]
      obtain ⟨h1, h2, h3, h4, h5, h6, h7, h8, h9, h10⟩ := hM
      refine ⟨⟨up_s, fun k hk => ?_⟩, MSh_keep h2 hC.2.1.1 (fun a k g => go a k (by omega) (by omega) (by omega)) (CSh_80 hC.2.1), MTb_keep h3 (fun a k g => go a k (by omega) (by omega) (by omega)), MNm_keep h4 (fun a k g => go a k (by omega) (by omega) (by omega)), MFn_keep h5 (fun a k g => go a k (by omega) (by omega) (by omega)), MV_keep h6 (fun k g g' => go _ k (by omega) (by omega) (by omega)), MKp_keep h7 (fun a k g => go a k (by omega) (by omega) (by omega)), MPr_keep h8 (fun a k g => go a k (by omega) (by omega) (by omega)), MTr_keep h9 (fun a k g => go a k (by omega) (by omega) (by omega)), MHs_keep h10 (fun a k g => go a k (by omega) (by omega) (by omega))⟩
      have hk' : k < t.1 + 1 := hk
      show _ = upN t.2 t.1 (Int32.ofNat (c)) k
      rw [up_n (by omega)]
      by_cases y : k = t.1
      · rw [y, up_s, upN_s]
      · rw [up_n (by omega), thI_n (by omega), up_n (by omega), up_n (by omega), upN_n y]
        exact h1.2 k (by omega)
  · have e1 : f_L_type (mg 4625 I J R) 0 (Int32.ofNat (c)) 4624 = some (1, mg 4625 I J R) := by
      unfold f_L_type f_X11_type
      rw [if_pos ok_0, gi_0, c1, gr_0_0 hR, ogL_10, Option.bind_some, if_neg (show ¬ (Int32.ofNat (t.1)) < (60 : Int32) from fun y => z ((i32_lt (m := 60) (by omega) (by omega)).mp y))]
      rfl
    have e2 : f_X12_type (mg 4625 I J R) 4561 (Int32.ofNat (c)) = some (0, mg 4625 (thI I 1) J R) := by
      unfold f_X12_type f_X12_type_j15
      rw [gi_4561, m1, if_pos (show (Int32.ofNat (t.1)) = (60 : Int32) by rw [show t.1 = 60 by omega]; rfl), if_pos ok_4561, m_refX]
    exact op_ex e1 e2 thI_0 (by decide) (Pinv_th hR hC hM hO (fun x _ => rfl))
end OA
