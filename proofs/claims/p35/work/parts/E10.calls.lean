/-! the class's calls alone, with what they answer -/
/-- what lies beyond the class is as it was -/
def KpT (I I' : Nat → Nat → Int32) : Prop := ∀ a k, 4561 ≤ a → I' a k = I a k
theorem KpT_r {I : Nat → Nat → Int32} : KpT I I := fun _ _ _ => rfl
theorem KpT_t {I I1 I2 : Nat → Nat → Int32} (h : KpT I I1) (h' : KpT I1 I2) : KpT I I2 := fun a k ha => (h' a k ha).trans (h a k ha)
theorem b7 {v : GV} (h : Gd v) : v.1.natAbs < Bw 7 ∧ (v.2 : Int).natAbs < Bw 7 := ⟨b200 h.1, b200 (by rw [Int.natAbs_natCast]; exact h.2.2.1)⟩
section KC
variable {I : Nat → Nat → Int32} {J : Nat → Nat → Int64} {R : Nat → Nat → Option Nat} {t : GT} {s : GS} {b : GB} {n : GN} {f : GF} {v : GV} {q : Nat → GV} {p : GT} {r : GR} {h : GH} {β : Type}
/-- what reckoning asks of the desk -/
theorem envC (hC : InvC I t s b n f v q p r h) (hO : OKH s b f h) (hG : ∀ l, l < 26 → Gd (n.2 l)) : EnvOK b n f s :=
  ⟨(OKH_top hO).1, fun k hk => ⟨(hC.2.1.2.2 k hk).2.1, fun i hi => (OKH_top hO).2.1 k i hk hi⟩, (OKH_top hO).2.2, hG, hC.2.1.1⟩
theorem k_type {c : Nat} (hR : RA R) (hC : InvC I t s b n f v q p r h) (z : t.1 < 60) (hc : c < 65536) : ∃ I', f_X11_type (mg (4562 + zn J) I  J R) 0 (Int32.ofNat (c)) = some (.inl (Int32.ofNat (t.1 + 1)), (mg (4562 + zn J) I'  J R)) ∧ InvC I' (t.1 + 1, upN t.2 t.1 (Int32.ofNat (c))) s b n f v q p r h ∧ KpT I I' := by
  have c1 := hC.1.2.1
  refine ⟨up (up I 10 t.1 (Int32.ofNat (c))) 0 1 (Int32.ofNat (t.1 + 1)), ?_, ?_, ?_⟩
  · unfold f_X11_type
    rw [gi_0, c1, gr_0_0 hR, ogL_10, Option.bind_some, if_pos (show (Int32.ofNat (t.1)) < (60 : Int32) from (i32_lt (m := 60) (by omega) (by omega)).mpr z), gr_0_0 hR, gi_0, c1, gcw_10 z, nar_ch hc, gi_0, up_n (by omega), c1, show (Int32.ofNat (t.1)) + 1 = (Int32.ofNat (t.1 + 1)) from n_add t.1 1, gs_0, gi_0, up_s]
  · obtain ⟨h1, h2, h3, h4, h5, h6, h7, h8, h9, h10⟩ := hC
    have go : ∀ x, x ≠ 0 → x ≠ 10 → (up (up I 10 t.1 (Int32.ofNat (c))) 0 1 (Int32.ofNat (t.1 + 1))) x = I x := fun x a b => funext (fun k => by
      rw [up_n (by omega), up_n (by omega)])
    refine ⟨⟨by show t.1 + 1 ≤ 60; omega, up_s, fun k hk => ?_⟩, CSh_keep h2 (fun x g => go x (by omega) (by omega)), CTb_keep h3 (fun x g => go x (by omega) (by omega)), CNm_keep h4 (fun x g => go x (by omega) (by omega)), CFn_keep h5 (fun x g => go x (by omega) (by omega)), CV_keep h6 (fun x g g' => go x (by omega) (by omega)), CKp_keep h7 (fun x g => go x (by omega) (by omega)), CPr_keep h8 (fun x g => go x (by omega) (by omega)), ⟨h9.1, ?_, ?_⟩, CHs_keep h10 (fun x g => go x (by omega) (by omega))⟩
    · have hk' : k < t.1 + 1 := hk
      rw [up_n (by omega)]
      show up I 10 t.1 (Int32.ofNat (c)) 10 k = upN t.2 t.1 (Int32.ofNat (c)) k ∧ ∃ d, d < 65536 ∧ upN t.2 t.1 (Int32.ofNat (c)) k = (Int32.ofNat (d))
      by_cases y : k = t.1
      · rw [y, up_s, upN_s]
        exact ⟨rfl, c, hc, rfl⟩
      · rw [up_n (by omega), upN_n y]
        exact h1.2.2 k (by omega)
    · rw [up_n (by omega), up_n (by omega)]
      exact h9.2.1
    · intro k hk
      rw [go 4559 (by omega) (by omega), go 4560 (by omega) (by omega)]
      exact h9.2.2 k hk
  · intro a k ha
    rw [up_n (by omega), up_n (by omega)]
theorem k_drop (hC : InvC I t s b n f v q p r h) : ∃ I', f_X11_drop (mg (4562 + zn J) I  J R) 0 = some ((Int32.ofNat (t.1)), (mg (4562 + zn J) I'  J R)) ∧ InvC I' (0, t.2) s b n f v q p r h ∧ KpT I I' := by
  have c1 := hC.1.2.1
  refine ⟨up I 0 1 0, ?_, ?_, ?_⟩
  · unfold f_X11_drop
    rw [gi_0, c1, gs_0]
  · obtain ⟨h1, h2, h3, h4, h5, h6, h7, h8, h9, h10⟩ := hC
    have go : ∀ x, x ≠ 0 → (up I 0 1 0) x = I x := fun x a => funext (fun k => by rw [up_n (by omega)])
    refine ⟨⟨Nat.zero_le _, ?_, fun k hk => absurd hk (Nat.not_lt_zero k)⟩, CSh_keep h2 (fun x g => go x (by omega)), CTb_keep h3 (fun x g => go x (by omega)), CNm_keep h4 (fun x g => go x (by omega)), CFn_keep h5 (fun x g => go x (by omega)), CV_keep h6 (fun x g g' => go x (by omega)), CKp_keep h7 (fun x g => go x (by omega)), CPr_keep h8 (fun x g => go x (by omega)), ⟨h9.1, ?_, ?_⟩, CHs_keep h10 (fun x g => go x (by omega))⟩
    · rw [up_s]
      rfl
    · rw [up_n (by omega)]
      exact h9.2.1
    · intro k hk
      rw [go 4559 (by omega), go 4560 (by omega)]
      exact h9.2.2 k hk
  · intro a k ha
    rw [up_n (by omega)]
theorem k_trees (hR : RA R) (hC : InvC I t s b n f v q p r h) : f_X11_trees (mg (4562 + zn J) I  J R) 0 = some (Int32.ofNat (s.1)) := by
  unfold f_X11_trees
  rw [gr_0_2 hR, gi_11, hC.2.1.2.1]
theorem k_out {k : Nat} (hR : RA R) (hC : InvC I t s b n f v q p r h) (hk : k < p.1) : f_X11_out (mg (4562 + zn J) I  J R) 0 (Int32.ofNat (k)) = some (.inl (p.2 k)) := by
  obtain ⟨p1, p2, p3⟩ := hC.2.2.2.2.2.2.2.1
  unfold f_X11_out
  rw [if_neg (i32_nlt0 (by omega)), gr_0_4 hR, gi_559, p2, if_pos ((i32_lt (by omega) (by omega)).mpr hk), gr_0_4 hR, gr_559_2 hR, ga_562 (by omega), p3 k hk]
theorem k_trace {k w : Nat} (hR : RA R) (hC : InvC I t s b n f v q p r h) (hw : w < 2) (hk : k < 2000) : f_X11_trace (mg (4562 + zn J) I  J R) 0 (Int32.ofNat (k)) (Int32.ofNat (w)) = some (.inl (if k < r.1 then (if w = 0 then r.2.1 k else r.2.2 k) else -1)) := by
  obtain ⟨p1, p2, p3⟩ := hC.2.2.2.2.2.2.2.2.1
  have y0 : ¬ (Int32.ofNat (w)) < (0 : Int32) := i32_nlt0 (by omega)
  have y1 : (Int32.ofNat (w)) ≤ (1 : Int32) := (i32_le (m := 1) (by omega) (by omega)).mpr (by omega)
  by_cases z : k < r.1
  · rw [if_pos z]
    unfold f_X11_trace f_X11_trace_j53
    rcases (by omega : w = 0 ∨ w = 1) with rfl | rfl
    · rw [if_neg y0, if_pos y1, if_neg (i32_nlt0 (by omega)), gi_0, p2, if_pos ((i32_lt (by omega) (by omega)).mpr z), if_pos (show (Int32.ofNat (0)) = 0 from rfl), gr_0_13 hR, ga_4559 (by omega), (p3 k z).1, if_pos rfl]
    · rw [if_neg y0, if_pos y1, if_neg (i32_nlt0 (by omega)), gi_0, p2, if_pos ((i32_lt (by omega) (by omega)).mpr z), if_neg (show ¬ (Int32.ofNat (1)) = 0 by decide), gr_0_14 hR, ga_4560 (by omega), (p3 k z).2, if_neg (by decide)]
  · rw [if_neg z]
    unfold f_X11_trace f_X11_trace_j32
    rw [if_neg y0, if_pos y1, if_neg (i32_nlt0 (by omega)), gi_0, p2, if_neg (fun y => z ((i32_lt (by omega) (by omega)).mp y))]
theorem k_isSame {k j : Nat} (hR : RA R) (hC : InvC I t s b n f v q p r h) (hk : k < s.1) (hj : j < s.1) (e : s.2.1 k = s.2.1 j ∧ ∀ i, i < s.2.1 k → s.2.2.1 k i = s.2.2.1 j i) : f_X11_isSame (mg (4562 + zn J) I  J R) 0 (Int32.ofNat (k)) (Int32.ofNat (j)) = some (.inl 1) := by
  have c1 := hC.2.1.2.2 k hk
  have c2 := hC.2.1.2.2 j hj
  obtain ⟨w, ew, hw⟩ := T_sameAs (J := J) hR c1.1 c2.1
  have hv : w = 1 := by
    rcases hw with ⟨z, -⟩ | ⟨-, z⟩
    · exact z
    · exact absurd e z
  unfold f_X11_isSame
  rw [if_pos ok_0, C_treeAt1 hR hC.2.1 hk, Sum.elim_inl, if_pos ok_0, C_treeAt1 hR hC.2.1 hj, Sum.elim_inl, if_pos (bT_xk c1.1.1), ew, hv]
  rfl
theorem k_node {k i w : Nat} (hR : RA R) (hC : InvC I t s b n f v q p r h) (hk : k < s.1) (hi : i < s.2.1 k) (hw : w < 6) : f_X11_node (mg (4562 + zn J) I  J R) 0 (Int32.ofNat (k)) (Int32.ofNat (i)) (Int32.ofNat (w)) = (if (Int32.ofNat (w)) = (0 : Int32) then some (.inl (s.2.2.1 k i).1) else if (Int32.ofNat (w)) = (1 : Int32) then some (.inl (s.2.2.1 k i).2.1) else if (Int32.ofNat (w)) = (2 : Int32) then some (.inl (s.2.2.1 k i).2.2.1) else if (Int32.ofNat (w)) = (3 : Int32) then some (.inl (Int32.ofNat ((s.2.2.1 k i).2.2.2))) else if (Int32.ofNat (w)) = (4 : Int32) then (f_X9_parentOf (mg (4562 + zn J) I  J R) (70 + 8 * k) (Int32.ofNat (i))).bind (fun p13 => some (.inl p13)) else if (Int32.ofNat (w)) = (5 : Int32) then some (.inl (Int32.ofNat (s.2.2.2 k i))) else some (.inr "java/lang/IllegalArgumentException")) := by
  have h30 := hC.2.1.1
  have c1 := hC.2.1.2.2 k hk
  have n1 := CT_n c1
  have ci := c1.1.2.2.2 i hi
  unfold f_X11_node
  rw [if_pos ok_0, C_treeAt1 hR hC.2.1 hk, Sum.elim_inl, if_pos ok_0, C_needNode1 c1.1 hi, Sum.elim_inl, bT_g0 c1.1.1 hR, bT_aI c1.1.1 (by omega), bT_g1 c1.1.1 hR, bT_aI c1.1.1 (by omega), bT_g2 c1.1.1 hR, bT_aI c1.1.1 (by omega), bT_g3 c1.1.1 hR, bT_aI c1.1.1 (by omega), bT_g4 c1.1.1 hR, bT_aI c1.1.1 (by omega), if_pos (bT_xk c1.1.1), ci.1, ci.2.1, ci.2.2.1, ci.2.2.2.1, (c1.2.2 i hi).1]
theorem k_told {k pl fx w : Nat} (hR : RA R) (hC : InvC I t s b n f v q p r h) (hk : k < 128) (hp : plc k = (Int32.ofNat (pl))) (hp2 : pl < 16) (hf : fx ≤ 2) (hw : w ≤ 2) : f_X11_told (mg (4562 + zn J) I  J R) 0 (Int32.ofNat (k)) (Int32.ofNat (fx)) (Int32.ofNat (w)) = some (.inl (if (b (fx * 16 + pl)).1 = 0 then -1 else if w = 0 then (b (fx * 16 + pl)).1 else if w = 1 then (b (fx * 16 + pl)).2.1 else (b (fx * 16 + pl)).2.2)) := by
  have hs := c_slot1 (J := J) hR hC.2.2.1.1 hk hp hp2 hf
  have hsl : fx * 16 + pl < 48 := by omega
  have eb := hC.2.2.1.2 (fx * 16 + pl) hsl
  have e1 : (b (fx * 16 + pl)).1 = I 13 (fx * 16 + pl) := by rw [← eb]
  have e2 : (b (fx * 16 + pl)).2.1 = I 14 (fx * 16 + pl) := by rw [← eb]
  have e3 : (b (fx * 16 + pl)).2.2 = I 15 (fx * 16 + pl) := by rw [← eb]
  rw [e1, e2, e3]
  have f0 : (0 : Int32) ≤ (Int32.ofNat (fx)) := i32_0le (by omega)
  have f2 : (Int32.ofNat (fx)) ≤ (2 : Int32) := (i32_le (m := 2) (by omega) (by omega)).mpr hf
  have w2 : (Int32.ofNat (w)) ≤ (2 : Int32) := (i32_le (m := 2) (by omega) (by omega)).mpr hw
  unfold f_X11_told
  refine xb_eq (c_isFix1 f0 f2) ?_
  rw [if_neg (by decide), if_neg (i32_nlt0 (by omega)), if_pos w2]
  refine xb_eq (ogR_0_2 hR) (xb_iq ok_11 (xb_eq (c_rank1 hR hsl hs) ?_))
  by_cases hr : I 13 (fx * 16 + pl) = 0
  · rw [if_pos hr, if_pos hr]
  · rw [if_neg hr, if_neg hr]
    rcases (by omega : w = 0 ∨ w = 1 ∨ w = 2) with rfl | rfl | rfl
    · rw [if_pos (show (Int32.ofNat (0)) = (0 : Int32) from rfl), if_pos rfl]
      exact xb_eq (ogR_0_2 hR) (xb_iq ok_11 (xb_eq (c_rank1 hR hsl hs) rfl))
    · rw [if_neg (show ¬ (Int32.ofNat (1)) = (0 : Int32) by decide), if_pos (show (Int32.ofNat (1)) = (1 : Int32) from rfl), if_neg (by decide), if_pos rfl]
      exact xb_eq (ogR_0_2 hR) (xb_iq ok_11 (xb_eq (c_side1 hR hsl hs) rfl))
    · rw [if_neg (show ¬ (Int32.ofNat (2)) = (0 : Int32) by decide), if_neg (show ¬ (Int32.ofNat (2)) = (1 : Int32) by decide), if_neg (by decide), if_neg (by decide)]
      refine xb_eq (ogR_0_2 hR) (xb_iq ok_11 (xb_eq (c_meaning1 hR hsl hs) ?_))
      rw [if_neg hr]
      rfl
theorem k_tell {k pl fx : Nat} {rk sd mn : Int32} (hR : RA R) (hC : InvC I t s b n f v q p r h) (hO : OKH s b f h) (hk : k < 128) (hp : plc k = (Int32.ofNat (pl))) (hp2 : pl < 16) (hf : fx ≤ 2) (hop : OpOK fx rk sd mn) (hh : ¬ Hind I fx pl rk sd) : ∃ I', f_X11_tell (mg (4562 + zn J) I  J R) 0 (Int32.ofNat (k)) (Int32.ofNat (fx)) rk sd mn = some (.inl (b (fx * 16 + pl)).1, (mg (4562 + zn J) I'  J R)) ∧ InvC I' t s (upB b (fx * 16 + pl) (rk, sd, mn)) n f v q p r (hTab h (fx * 16 + pl) (b (fx * 16 + pl))) ∧ OKH s (upB b (fx * 16 + pl) (rk, sd, mn)) f (hTab h (fx * 16 + pl) (b (fx * 16 + pl))) ∧ KpT I I' := by
  have h20 := hC.2.2.2.2.2.2.2.2.2.1
  have hf' := hC.2.2.2.2.2.2.2.2.2.2.1
  have h12 := hC.2.2.1.1
  have hsl : fx * 16 + pl < 48 := by omega
  have hs := c_slot1 (I := I) (J := J) hR h12 hk hp hp2 hf
  obtain ⟨_, e1, I2, rfl, hC2, hF2⟩ := C_tell (c := k) (fx := (Int32.ofNat (fx))) (rk := rk) (sd := sd) (mn := mn) hR hC hsl (fun I' hI' => c_slot1 (I := I') (J := J) hR hI' hk hp hp2 hf)
  have eb : (b (fx * 16 + pl)).1 = I 13 (fx * 16 + pl) := by rw [← hC.2.2.1.2 (fx * 16 + pl) hsl]
  have rk0 : rk ≠ 0 := fun z => by
    have := hop.1.1
    rw [z] at this
    exact absurd this (by decide)
  have top := OKH_top hO
  refine ⟨I2, ?_, hC2, ?_, ?_⟩
  · unfold f_X11_tell
    refine xb_eq (ogR_0_2 hR) (xb_iq ok_11 (xb_eq (c_isSign1 hR h12 hk hp hp2) ?_))
    rw [if_neg (by decide)]
    refine xb_eq (c_isFix1 (i32_0le (by omega)) ((i32_le (m := 2) (by omega) (by omega)).mpr hf)) ?_
    rw [if_neg (by decide)]
    refine xb_eq ((c_isOp hf).1 hop) ?_
    rw [if_neg (by decide)]
    refine xb_eq (ogR_0_2 hR) (xb_iq ok_11 (xb_eq ((c_clashes (I := I) (J := J) (rk := rk) (sd := sd) hR h12 hk hp hp2 hf).2 hh) ?_))
    rw [if_pos rfl]
    refine xb_eq (ogR_0_2 hR) (xb_iq ok_11 (xb_eq (c_rank1 hR hsl hs) (xb_eq (ogR_0_2 hR) (xb_iq ok_11 (xb_eq e1 ?_)))))
    rw [eb]
  · refine OKH_push hO h20 hf' (fun t ht => ⟨ht, rfl, rfl, rfl⟩) ⟨TbOK_up top.1 hC.2.2.1 hp2 hf hop hh, fun t i ht hi => NV_up (top.2.1 t i ht hi) rk0, top.2.2⟩ (Or.inr (Or.inl ⟨rfl, rfl, rfl, hsl, ?_⟩))
    funext y
    unfold upB bRow
    by_cases z : y = fx * 16 + pl
    · rw [if_pos z, z]
      rfl
    · rw [if_neg z, if_neg z]
  · intro a x ha
    exact hF2 a x (by
      have := nu_lt h
      unfold STl
      omega)
/-- a part of the history: a tree more -/
theorem OKH_sh {m : Nat} {nd : Nat → Nd} {sp : Nat → Nat} (hC : InvC I t s b n f v q p r h) (hO : OKH s b f h) (hn : ∀ i, i < m → NV b (nd i)) : OKH (sPush s m nd sp) b f (hShelf h) := by
  have h20 := hC.2.2.2.2.2.2.2.2.2.1
  have hf' := hC.2.2.2.2.2.2.2.2.2.2.1
  have top := OKH_top hO
  refine OKH_push hO h20 hf' Ext_push ⟨top.1, fun t i ht hi => ?_, fun l hl => ?_⟩ (Or.inl ⟨rfl, rfl, rfl, rfl⟩)
  · have ht : t < s.1 + 1 := ht
    by_cases z : t = s.1
    · subst z
      have e1 : (sPush s m nd sp).2.1 s.1 = m := upN_s
      have e2 : (sPush s m nd sp).2.2.1 s.1 = nd := upN_s
      rw [e2]
      rw [e1] at hi
      exact hn i hi
    · have e1 : (sPush s m nd sp).2.1 t = s.2.1 t := upN_n z
      have e2 : (sPush s m nd sp).2.2.1 t = s.2.2.1 t := upN_n z
      rw [e2]
      rw [e1] at hi
      exact top.2.1 t i (by omega) hi
  · obtain ⟨g1, c, g2, g3, g4⟩ := top.2.2 l hl
    refine ⟨g1, c, g2, g3, fun k hk => ?_⟩
    obtain ⟨w1, u, u1, u2, u3⟩ := g4 k hk
    refine ⟨?_, u, by show u < s.1 + 1; omega, u2, ?_⟩
    · rcases w1 with w1 | ⟨x, x1, x2, x3⟩
      · exact Or.inl w1
      · refine Or.inr ⟨x, by show x < s.1 + 1; omega, x2, ?_⟩
        rw [show (sPush s m nd sp).2.1 x = s.2.1 x from upN_n (by omega)]
        exact x3
    · rw [show (sPush s m nd sp).2.1 u = s.2.1 u from upN_n (by omega)]
      exact u3
theorem k_undo (hR : RA R) (hC : InvC I t s b n f v q p r h) (hO : OKH s b f h) (h0 : 0 < h.1) (hz : h.2.2.1 (lu h) = 0) : ∃ I', f_X11_undo (mg (4562 + zn J) I  J R) 0 = some (0, (mg (4562 + zn J) I'  J R)) ∧ InvC I' t (s.1 - 1, s.2) b n f v q p r (popH h) ∧ OKH (s.1 - 1, s.2) b f (popH h) ∧ KpT I I' := by
  rcases OKH_pop hO h0 with ⟨z, T, z1, z2⟩ | ⟨z, -⟩ | ⟨z, -⟩ | ⟨z, -⟩
  rotate_left
  · rw [hz] at z; cases z
  · rw [hz] at z; cases z
  · rw [hz] at z; cases z
  have hU : Und s b n f h (s.1 - 1, s.2) b n f := Or.inl ⟨z, by omega, rfl, rfl, rfl, rfl⟩
  obtain ⟨_, e1, I2, rfl, hC2, hF2⟩ := C_takeBack (J := J) hR hC h0 hU (fun y => by rw [hz] at y; cases y)
  refine ⟨I2, ?_, hC2, ?_, fun a k ha => by rw [hF2 a (by omega)]⟩
  · unfold f_X11_undo
    rw [gr_0_2 hR, if_pos ok_11, e1, hz]
    rfl
  · rw [show s.1 - 1 = T by omega]
    exact z2
end KC
