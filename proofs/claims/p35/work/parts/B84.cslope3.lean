/-! slopes: the class's walk -/
def RX {α β γ : Type} (step : α → Option (γ ⊕ (β ⊕ α))) (k : Nat) (s s' : α) : Prop := ∀ F, xloop step (F + k) s = xloop step F s'
theorem RX_0 {α β γ : Type} {step : α → Option (γ ⊕ (β ⊕ α))} (s : α) : RX step 0 s s := fun _ => rfl
theorem RX_tr {α β γ : Type} {step : α → Option (γ ⊕ (β ⊕ α))} {k k' : Nat} {s s' s'' : α} (h : RX step k s s') (h' : RX step k' s' s'') : RX step (k + k') s s'' := fun F => by
  rw [show F + (k + k') = (F + k') + k by omega, h, h']
theorem RX_1 {α β γ : Type} {step : α → Option (γ ⊕ (β ⊕ α))} {s s' : α} (h : step s = some (.inr (.inr s'))) : RX step 1 s s' := fun F => by
  rw [xl_s (by omega) h, Nat.add_sub_cancel]
def Fcs (h : Nat) : Nat → Nat → Prop := fun x k => Fm h 0 0 x k ∨ (x = 1784 ∧ k = 3) ∨ (1786 ≤ x ∧ x < 1806) ∨ (1806 + 5 * h ≤ x ∧ x < 2206)
theorem Fcs_mono {h h' : Nat} {I I' : Nat → Nat → Int32} (H : FrK (Fcs h) I I') (hh : h' ≤ h) : FrK (Fcs h') I I' := FrK_mono H (fun x k y => by unfold Fcs Fm at y ⊢; omega)
section CSW
variable {I : Nat → Nat → Int32} {J : Nat → Nat → Int64} {R : Nat → Nat → Option Nat} {β : Type} {a h c nm i : Nat} {b : GB} {n : GN} {T : Tt}
theorem C_meaningOf4 {G : Int32 → Option β} (hR : RA R) (hA : CTT I a T) (hi : i < T.1) (hn : NV b (T.2.1 i)) (hB : CTb I b) (hO : TbOK b) : (f_X4_meaningOf (mg (4562 + zn J) I J R) 567 a (Int32.ofNat (i))).bind G = G (mi (mz b (T.2.1 i))) := by
  have ta := hA.1.1
  have nn80 := (CT_n hA).2
  obtain ⟨y1, y2, y3, y4, y5⟩ := hA.1.2.2.2 i hi
  unfold f_X4_meaningOf f_X4_meaningOf_j33 mz
  rw [bT_g0 ta hR, bT_aI ta (by omega), y1]
  by_cases q : (T.2.1 i).1 = 3
  · obtain ⟨p, fx, p1, p2, p3, p4, p5, p6, p7, p8⟩ := mg_i hO hn q
    rw [if_pos q, if_pos q, gr_567_0 hR, bT_g1 ta hR, bT_aI ta (by omega), y2, bT_g2 ta hR, bT_aI ta (by omega), y3, if_pos ok_11, p3, p4, C_meaning hR hB p1 (by omega) p6 p7, mi_s (by omega)]
    rfl
  · rw [if_neg q, if_neg q]
    rfl
/-- what give leaves -/
def GiQ (I : Nat → Nat → Int32) (J : Nat → Nat → Int64) (R : Nat → Nat → Option Nat) (j c : Nat) (o : Nat ⊕ GV) (r : Int32 × xM) : Prop := ∃ I', FrK (Fm j 0 0) I I' ∧ ((∃ v, o = .inr v ∧ r = (0, mg (4562 + zn J) I' J R) ∧ MSt I' (j + 1) 0 (c + 1) 0 0 ∧ CV I' (584 + 5 * j) v) ∨ ∃ e, o = .inl e ∧ 0 < e ∧ e ≤ 10 ∧ r = ((Int32.ofNat (e)), mg (4562 + zn J) I' J R))
theorem C_slGive {o : Nat ⊕ GV} {m : Nat} (hR : RA R) (hB : CTb I b) (hO : TbOK b) (hN : CNm I n) (hg : ∀ l, l < 26 → Gd (n.2 l)) (hA : CTT I a T) (ha : a + 8 ≤ 2 ∨ (10 ≤ a ∧ a + 8 ≤ 567) ∨ 1784 ≤ a) (hT : TtO b T) (hi : i < T.1) (hS : MSt I (h + m) 0 c 0 0) (hc : c < 200) (hh : h + m < 240)
    (hk : ((T.2.1 i).1 = 0 ∧ m = 0 ∧ o = .inr ((vN (T.2.1 i) : Int), 1)) ∨ ((T.2.1 i).1 = 1 ∧ m = 0 ∧ o = (if n.1 (vN (T.2.1 i) - 97) = 0 then .inl 4 else .inr (n.2 (vN (T.2.1 i) - 97)))) ∨ (mz b (T.2.1 i) = 11 ∧ m = 1 ∧ ∃ v, CV I (584 + 5 * h) v ∧ Gd v ∧ o = .inr (-v.1, v.2)) ∨ (mz b (T.2.1 i) ≤ 10 ∧ m = 2 ∧ ∃ v w, CV I (584 + 5 * h) v ∧ CV I (584 + 5 * (h + 1)) w ∧ Gd v ∧ Gd w ∧ o = q2 (mz b (T.2.1 i)) v w)) : QK (f_X4_give (mg (4562 + zn J) I J R) 567 a (Int32.ofNat (i)) (-1)) (GiQ I J R h c o) := by
  have ta := hA.1.1
  have nn80 := (CT_n hA).2
  have nv := hT.2 i hi
  obtain ⟨x1, x2, x3, x4, x5, x6, x7⟩ := NV_v nv
  obtain ⟨s1, s2, s3, s4, s5⟩ := hS
  unfold f_X4_give f_X4_give_j20 f_X4_give_j171
  rw [gi_567, s3, if_neg (show ¬ (200 : Int32) ≤ (Int32.ofNat (c)) from fun y => absurd ((i32_le (k := 200) (by omega) (by omega)).mp y) (by omega)), gi_567, s1, if_pos (show (Int32.ofNat (h + m)) < (240 : Int32) from (i32_lt (m := 240) (by omega) (by omega)).mpr (by omega)), gi_567, s3, gs_567, show (Int32.ofNat (c)) + (1 : Int32) = (Int32.ofNat (c + 1)) from n_add c 1]
  have f1 : FrK (Fm h 0 0) I (up I 567 4 (Int32.ofNat (c + 1))) := fun x j y => by
    unfold Fm at y
    rw [up_n (by omega)]
  have S1 : MSt (up I 567 4 (Int32.ofNat (c + 1))) (h + m) 0 (c + 1) 0 0 := ⟨by rw [up_n (by omega)]; exact s1, by rw [up_n (by omega)]; exact s2, up_s, by rw [up_n (by omega)]; exact s4, by rw [up_n (by omega)]; exact s5⟩
  have o1 : ∀ x, x ≠ 567 → up I 567 4 (Int32.ofNat (c + 1)) x = I x := fun x hx => up_r hx
  generalize up I 567 4 (Int32.ofNat (c + 1)) = I1 at *
  have A1 : CTT I1 a T := CT_keep hA (fun x g1 g2 => o1 x (by omega))
  have B1 : CTb I1 b := CTb_keep hB (fun x g => o1 x (by omega))
  have N1 : CNm I1 n := CNm_keep hN (fun x g => o1 x (by omega))
  obtain ⟨w1, w2, w3, w4, w5⟩ := A1.1.2.2.2 i hi
  rw [bT_g1 ta hR, bT_aI ta (by omega), w2, bT_g0 ta hR, bT_aI ta (by omega), w1]
  rcases hk with ⟨q0, rfl, rfl⟩ | ⟨q1, rfl, rfl⟩ | ⟨q11, rfl, v, hv, gv, rfl⟩ | ⟨q2', rfl, v, w, hv, hw, gv, gw, rfl⟩
  · rw [if_pos q0, gr_567_2 hR, gi_567, S1.1, C_stk hR (by omega), if_pos (bF_xk (isF_584 (by omega))), x1, j_of32 (by omega)]
    refine q_bind (F_set (n := vN (T.2.1 i)) hR (isF_584 (t := h) (by omega)) (by omega)) ?_
    rintro _ ⟨I2, rfl, f2, V2⟩
    have k567 : ∀ k, I2 567 k = I1 567 k := fun k => by rw [f2 567 (fun y => by unfold Sf at y; omega)]
    obtain ⟨a1, a2, a3, a4, a5⟩ := S1
    rw [gi_567, k567, a1, gs_567, show (Int32.ofNat (h + 0)) + (1 : Int32) = (Int32.ofNat (h + 1)) from n_add h 1]
    refine q_ok ⟨_, ?_, Or.inl ⟨_, rfl, rfl, ⟨up_s, ?_, ?_, ?_, ?_⟩, CV_keep V2 (fun x g1 g2 => up_r (by omega))⟩⟩
    · intro x j y
      have y2 := y
      unfold Fm at y
      rw [up_n (by omega), f2 x (fun w => by unfold Sf at w; omega)]
      exact f1 x j y2
    · rw [up_n (by omega), k567]; exact a2
    · rw [up_n (by omega), k567]; exact a3
    · rw [up_n (by omega), k567]; exact a4
    · rw [up_n (by omega), k567]; exact a5
  · obtain ⟨l, l1, l2⟩ : ∃ l, l < 26 ∧ vN (T.2.1 i) = 97 + l := by
      rcases nv with y | y | y | y
      · exact absurd (q1.symm.trans y.1) (by first | decide | omega)
      · obtain ⟨-, ⟨l, l1, l2⟩, -⟩ := y
        have := x3 (by rw [q1]; decide)
        exact ⟨l, l1, (i32_eq (by omega) (by omega)).mp (x1.symm.trans l2)⟩
      · exact absurd (q1.symm.trans y.1) (by first | decide | omega)
      · exact absurd (q1.symm.trans y.1) (by first | decide | omega)
    rw [if_neg (by rw [q1]; decide), if_pos q1, if_pos ok_567, x1]
    refine q_bind (C_giveName (x := vN (T.2.1 i)) (ch := []) (z := -1) hR S1 N1 hg (fun e he => by cases he) ⟨by omega, by omega⟩ (by omega) (by omega) rfl) ?_
    intro r hr
    have el : lkN n [] (vN (T.2.1 i)) = if n.1 (vN (T.2.1 i) - 97) = 0 then none else some (n.2 (vN (T.2.1 i) - 97)) := rfl
    rw [el] at hr
    by_cases z : n.1 (vN (T.2.1 i) - 97) = 0
    · rw [if_pos z] at hr ⊢
      have hr : r = (4, mg (4562 + zn J) I1 J R) := hr
      rw [hr]
      exact q_ok ⟨I1, f1, Or.inr ⟨4, rfl, by decide, by decide, rfl⟩⟩
    · rw [if_neg z] at hr ⊢
      obtain ⟨I2, rfl, f2, S2, V2⟩ := hr
      exact q_ok ⟨I2, FrK_tr f1 f2, Or.inl ⟨_, rfl, rfl, S2, V2⟩⟩
  · have k3 : (T.2.1 i).1 = 3 := (mz_one hO nv (by omega) (by omega)).1
    obtain ⟨p, fx, p1, p2, p3, p4, p5, p6, p7, p8⟩ := mg_i hO nv k3
    have em : mgN b (T.2.1 i) = 11 := by
      unfold mz at q11
      rw [if_pos k3] at q11
      exact q11
    rw [if_neg (by rw [k3]; decide), if_neg (by rw [k3]; decide), if_neg (by rw [k3]; decide), gr_567_0 hR, bT_g2 ta hR, bT_aI ta (by omega), w3, if_pos ok_11, p3, p4, C_meaning hR B1 p1 (by omega) p6 p7, em, if_pos (show (Int32.ofNat (11)) < (100 : Int32) by decide), if_pos ok_567]
    have V1 : FU I1 (584 + 5 * h) 7 v.1 v.2 := CV_keep hv (fun x g1 g2 => o1 x (by omega))
    refine q_bind (C_operate1 (m := 11) hR (by first | decide | omega) (by omega) S1.1 V1 gv) ?_
    rintro r ⟨I2, f2, ⟨y, e1, rfl, e3, e4⟩ | ⟨e, e1, -⟩⟩
    · have e1 : y = (-v.1, v.2) := (Sum.inr.inj e1).symm
      rw [e1] at e4
      have fo : ∀ x k, ¬ Fop h x k → I2 x k = I1 x k := f2
      obtain ⟨a1, a2, a3, a4, a5⟩ := S1
      refine q_ok ⟨I2, FrK_tr f1 (FrK_mono f2 (fun x k y => by unfold Fop at y; unfold Fm; omega)), Or.inl ⟨_, rfl, rfl, ⟨e3, ?_, ?_, ?_, ?_⟩, e4⟩⟩
      · rw [fo _ _ (by unfold Fop; omega)]; exact a2
      · rw [fo _ _ (by unfold Fop; omega)]; exact a3
      · rw [fo _ _ (by unfold Fop; omega)]; exact a4
      · rw [fo _ _ (by unfold Fop; omega)]; exact a5
    · cases e1
  · have k3 : (T.2.1 i).1 = 3 := (mz_two hO nv q2').1
    obtain ⟨p, fx, p1, p2, p3, p4, p5, p6, p7, p8⟩ := mg_i hO nv k3
    have em : mgN b (T.2.1 i) = mz b (T.2.1 i) := by
      unfold mz
      rw [if_pos k3]
    rw [if_neg (by rw [k3]; decide), if_neg (by rw [k3]; decide), if_neg (by rw [k3]; decide), gr_567_0 hR, bT_g2 ta hR, bT_aI ta (by omega), w3, if_pos ok_11, p3, p4, C_meaning hR B1 p1 (by omega) p6 p7, em, if_pos (show (Int32.ofNat (mz b (T.2.1 i))) < (100 : Int32) from (i32_lt (m := 100) (by omega) (by omega)).mpr (by omega)), if_pos ok_567]
    have V1 : FU I1 (584 + 5 * h) 7 v.1 v.2 := CV_keep hv (fun x g1 g2 => o1 x (by omega))
    have W1 : FU I1 (584 + 5 * (h + 1)) 7 w.1 w.2 := CV_keep hw (fun x g1 g2 => o1 x (by omega))
    refine q_bind (C_operate2 (m := mz b (T.2.1 i)) hR q2' (by omega) S1.1 V1 W1 gv gw) ?_
    rintro r ⟨I2, f2, ⟨y, e1, rfl, e3, e4⟩ | ⟨e, e1, e2, e3, rfl⟩⟩
    · have fo : ∀ x k, ¬ Fop h x k → I2 x k = I1 x k := f2
      obtain ⟨a1, a2, a3, a4, a5⟩ := S1
      refine q_ok ⟨I2, FrK_tr f1 (FrK_mono f2 (fun x k y => by unfold Fop at y; unfold Fm; omega)), Or.inl ⟨y, e1, rfl, ⟨e3, ?_, ?_, ?_, ?_⟩, e4⟩⟩
      · rw [fo _ _ (by unfold Fop; omega)]; exact a2
      · rw [fo _ _ (by unfold Fop; omega)]; exact a3
      · rw [fo _ _ (by unfold Fop; omega)]; exact a4
      · rw [fo _ _ (by unfold Fop; omega)]; exact a5
    · exact q_ok ⟨I2, FrK_tr f1 (FrK_mono f2 (fun x k y => by unfold Fop at y; unfold Fm; omega)), Or.inr ⟨e, e1, e2, e3, rfl⟩⟩
theorem C_leafPart (hR : RA R) (hA : CTT I a T) (ha : a + 8 ≤ 1784 ∨ 2206 ≤ a) (hT : TtO b T) (hi : i < T.1) (h3 : I 1784 3 = (Int32.ofNat (h))) (hh : h < 80) (h01 : (T.2.1 i).1 = 0 ∨ (T.2.1 i).1 = 1) (hnm : nm < 1000) : QK (f_X8_leafPart (mg (4562 + zn J) I J R) 1784 a (Int32.ofNat (i)) (Int32.ofNat (nm))) (fun r => ∃ I', r = (0, mg (4562 + zn J) I' J R) ∧ FrK (fun x k => (1806 + 5 * h ≤ x ∧ x < 1811 + 5 * h) ∨ (x = 1784 ∧ k = 3)) I I' ∧ I' 1784 3 = (Int32.ofNat (h + 1)) ∧ FU I' (1806 + 5 * h) 7 (if (T.2.1 i).1 = 1 ∧ vN (T.2.1 i) = nm then 1 else 0) 1) := by
  have ta := hA.1.1
  have nn80 := (CT_n hA).2
  have nv := hT.2 i hi
  obtain ⟨x1, x2, x3, -⟩ := NV_v nv
  obtain ⟨w1, w2, w3, w4, w5⟩ := hA.1.2.2.2 i hi
  have j46 : ∀ v : Nat, v ≤ 1 → QK (f_X8_leafPart_j46 (mg (4562 + zn J) I J R) 1784 (Int64.ofNat v) (1806 + 5 * h)) (fun r => ∃ I', r = (0, mg (4562 + zn J) I' J R) ∧ FrK (fun x k => (1806 + 5 * h ≤ x ∧ x < 1811 + 5 * h) ∨ (x = 1784 ∧ k = 3)) I I' ∧ I' 1784 3 = (Int32.ofNat (h + 1)) ∧ FU I' (1806 + 5 * h) 7 v 1) := fun v hv => by
    unfold f_X8_leafPart_j46
    rw [if_pos (bF_xk (isF_sl hh))]
    refine q_bind (F_set hR (isF_sl hh) (by omega)) ?_
    rintro _ ⟨I1, rfl, f1, V1⟩
    have e3 : I1 1784 3 = (Int32.ofNat (h)) := by rw [f1 1784 (fun y => by unfold Sf at y; omega)]; exact h3
    rw [gi_1784, e3, gs_1784, show (Int32.ofNat (h)) + (1 : Int32) = (Int32.ofNat (h + 1)) from n_add h 1]
    refine q_ok ⟨_, rfl, fun x k y => ?_, up_s, FU_keep V1 (fun x g1 g2 => up_r (by omega))⟩
    rw [up_n (by omega), f1 x (fun z => by unfold Sf at z; omega)]
  unfold f_X8_leafPart f_X8_leafPart_j45
  rw [gi_1784, h3, if_pos (show (Int32.ofNat (h)) < (80 : Int32) from (i32_lt (m := 80) (by omega) (by omega)).mpr hh), gr_1784_2 hR, gi_1784, h3, C_prt hR hh, bT_g0 ta hR, bT_aI ta (by omega), w1]
  by_cases q1 : (T.2.1 i).1 = 1
  · have := x3 (by rw [q1]; decide)
    rw [if_pos q1, bT_g1 ta hR, bT_aI ta (by omega), w2, x1]
    by_cases q2 : vN (T.2.1 i) = nm
    · rw [if_pos (show (Int32.ofNat (vN (T.2.1 i))) = (Int32.ofNat (nm)) by rw [q2]), if_pos ⟨q1, q2⟩]
      exact j46 1 (by first | decide | omega)
    · rw [if_neg (show ¬ (Int32.ofNat (vN (T.2.1 i))) = (Int32.ofNat (nm)) from i32_ne (by omega) (by omega) q2), if_neg (fun y => q2 y.2)]
      exact j46 0 (by first | decide | omega)
  · rw [if_neg q1, if_neg (fun y => q1 y.1)]
    exact j46 0 (by first | decide | omega)
end CSW
