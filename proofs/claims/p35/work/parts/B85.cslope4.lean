/-! slopes: the class's walk, all of it -/
section CSX
variable {I : Nat → Nat → Int32} {J : Nat → Nat → Int64} {R : Nat → Nat → Option Nat} {β : Type} {a h c nm i q : Nat} {b : GB} {n : GN} {T : Tt}
theorem C_fromTop {d : Nat} {F : Nat → Option β} (hR : RA R) (h3 : I 567 3 = (Int32.ofNat (h))) (hd : d < h) (hh : h ≤ 240) : (f_X4_fromTop (mg (4562 + zn J) I J R) 567 (Int32.ofNat (d))).bind F = F (584 + 5 * (h - 1 - d)) := by
  unfold f_X4_fromTop f_X4_fromTop_j29
  rw [gi_567, h3, show (Int32.ofNat (h)) - (1 : Int32) = (Int32.ofNat (h - 1)) from n_sub (b := 1) (by omega), n_sub (by omega), q_let, gr_567_2 hR, if_neg (i32_nlt0 (by omega)), if_neg (show ¬ (240 : Int32) ≤ (Int32.ofNat (h - 1 - d)) from fun y => absurd ((i32_le (k := 240) (by omega) (by omega)).mp y) (by omega)), C_stk hR (by omega)]
  rfl
def SlS (I : Nat → Nat → Int32) (J : Nat → Nat → Int64) (R : Nat → Nat → Option Nat) (a nm h q : Nat) (o : Nat ⊕ (GV × GV)) (r : (Int32 × xM) ⊕ ((Int32 × xM) ⊕ (Nat × Nat × Int32 × Int32 × Int32 × xM))) : Prop := ∃ I', FrK (Fcs h) I I' ∧ ((∃ v p, o = .inr (v, p) ∧ r = .inr (.inr (1784, a, (Int32.ofNat (nm)), 0, (Int32.ofNat (q + 1)), mg (4562 + zn J) I' J R)) ∧ MSt I' (h + 1) 0 (q + 1) 0 0 ∧ I' 1784 3 = (Int32.ofNat (h + 1)) ∧ CV I' (584 + 5 * h) v ∧ CV I' (1806 + 5 * h) p) ∨ ∃ e, o = .inl e ∧ 0 < e ∧ e ≤ 10 ∧ r = .inr (.inr (1784, a, (Int32.ofNat (nm)), (Int32.ofNat (e)), (Int32.ofNat (q + 1)), mg (4562 + zn J) I' J R)))
theorem C_slNode {o : Nat ⊕ (GV × GV)} {m : Nat} (hR : RA R) (hB : CTb I b) (hO : TbOK b) (hN : CNm I n) (hg : ∀ l, l < 26 → Gd (n.2 l)) (hA : CTT I a T) (ha : 10 ≤ a ∧ a + 8 ≤ 567) (hT : TtO b T) (hi : i < T.1) (hq : q = pl T.2.2 i) (hnm : nm < 1000) (hS : MSt I (h + m) 0 q 0 0) (h3 : I 1784 3 = (Int32.ofNat (h + m))) (hh : h + m < 80)
    (hk : ((T.2.1 i).1 = 0 ∧ m = 0 ∧ o = .inr (((vN (T.2.1 i) : Int), 1), (0, 1))) ∨ ((T.2.1 i).1 = 1 ∧ m = 0 ∧ o = (if n.1 (vN (T.2.1 i) - 97) = 0 then .inl 4 else .inr (n.2 (vN (T.2.1 i) - 97), ((if vN (T.2.1 i) = nm then 1 else 0 : Int), 1)))) ∨ (mz b (T.2.1 i) = 11 ∧ m = 1 ∧ ∃ v p, CV I (584 + 5 * h) v ∧ CV I (1806 + 5 * h) p ∧ Gd v ∧ Gd p ∧ o = .inr ((-v.1, v.2), (-p.1, p.2))) ∨ ((mz b (T.2.1 i) ≤ 3 ∨ mz b (T.2.1 i) = 5) ∧ m = 2 ∧ ∃ v p w r, CV I (584 + 5 * h) v ∧ CV I (1806 + 5 * h) p ∧ CV I (584 + 5 * (h + 1)) w ∧ CV I (1806 + 5 * (h + 1)) r ∧ Gd v ∧ Gd p ∧ Gd w ∧ Gd r ∧ (mz b (T.2.1 i) = 5 → ∃ k : Nat, w = ((k : Int), 1)) ∧ o = slT (mz b (T.2.1 i)) (v, p) (w, r))) : QK (f_X8_reckonPart_s17 (1784, a, (Int32.ofNat (nm)), 0, (Int32.ofNat (q)), mg (4562 + zn J) I J R)) (SlS I J R a nm h q o) := by
  have ta := hA.1.1
  have nn80 := (CT_n hA).2
  have nv := hT.2 i hi
  have mb := mz_b hO nv
  have pn : q < T.1 := by rw [hq]; exact pl_lt hT.1 hi
  obtain ⟨w1, w2, w3, w4, w5⟩ := hA.1.2.2.2 i hi
  have pre : ∀ Q, QK (if (T.2.1 i).1 = (3 : Int32) then (gR (mg (4562 + zn J) I J R) 1784 8 4).bind (fun x17 => (gR (mg (4562 + zn J) I J R) 1784 8 0).bind (fun x18 => (gR (mg (4562 + zn J) I J R) a 9 3).bind (fun x19 => (aI (mg (4562 + zn J) I J R) x19 14 (Int32.ofNat (i))).bind (fun x20 => (if xk (mg (4562 + zn J) I J R) x18 4 = true then (f_X4_fromTop (mg (4562 + zn J) I J R) x18 (x20 - (1 : Int32))).bind (fun p21 => (if xk (mg (4562 + zn J) I J R) x17 2 = true then (f_X2_copy (mg (4562 + zn J) I J R) x17 p21).bind (fun p22 => (gR p22 1784 8 5).bind (fun x23 => (gR p22 1784 8 0).bind (fun x24 => (if xk p22 x24 4 = true then (f_X4_fromTop p22 x24 (0 : Int32)).bind (fun p25 => (if xk p22 x23 2 = true then (f_X2_copy p22 x23 p25).bind (fun p26 => f_X8_reckonPart_j87 p26 1784 a (Int32.ofNat (nm)) (Int32.ofNat (q)) (Int32.ofNat (i))) else none)) else none)))) else none)) else none))))) else f_X8_reckonPart_j87 (mg (4562 + zn J) I J R) 1784 a (Int32.ofNat (nm)) (Int32.ofNat (q)) (Int32.ofNat (i))) Q → QK (f_X8_reckonPart_s17 (1784, a, (Int32.ofNat (nm)), 0, (Int32.ofNat (q)), mg (4562 + zn J) I J R)) Q := fun Q hQ => by
    unfold f_X8_reckonPart_s17
    dsimp only
    rw [q_let, q_let, q_let, q_let, q_let, q_let, bT_gI ta, hA.1.2.1, if_neg (show ¬ (Int32.ofNat (T.1)) ≤ (Int32.ofNat (q)) from fun y => absurd ((i32_le (by omega) (by omega)).mp y) (by omega)), if_pos rfl, if_pos (bT_xk ta), T_nodeAt hR hA hi hq, Option.bind_some, bT_g0 ta hR, bT_aI ta (by omega), w1]
    exact hQ
  have nx : ∀ (I1 : Nat → Nat → Int32) (e : Int32), f_X8_reckonPart_j139 (mg (4562 + zn J) I1 J R) 1784 a (Int32.ofNat (nm)) e (Int32.ofNat (q)) = some (.inr (.inr (1784, a, (Int32.ofNat (nm)), e, (Int32.ofNat (q + 1)), mg (4562 + zn J) I1 J R))) := fun I1 e => by
    unfold f_X8_reckonPart_j139
    rw [q_let, show (Int32.ofNat (q)) + (1 : Int32) = (Int32.ofNat (q + 1)) from n_add q 1]
  refine pre _ ?_
  rcases hk with hk | hk | ⟨q11, rfl, v, p, hv, hp, gv, gp, rfl⟩ | ⟨q5, rfl, v, p, w, r, hv, hp, hw, hr, gv, gp, gw, gr, h5, rfl⟩
  rotate_left
  rotate_left
  · have k3 : (T.2.1 i).1 = 3 := (mz_one hO nv (by omega) (by omega)).1
    have h1 : aro T.2.1 i = 1 := (mz_one hO nv (by omega) (by omega)).2
    have c0 := hS.1
    rw [if_pos k3, gr_1784_4 hR, gr_1784_0 hR, bT_g3 ta hR, bT_aI ta (by omega), w4, show (T.2.1 i).2.2.2 = 1 from h1, if_pos ok_567, show (Int32.ofNat (1)) - (1 : Int32) = (Int32.ofNat (0)) from rfl, C_fromTop hR c0 (by omega) (by omega), if_pos (bF_xk isF_1786)]
    refine q_bind (F_copy hR isF_1786 (g := 584 + 5 * (h + 1 - 1 - 0)) hv (g7 gv).1 (g7 gv).2 (by omega)) ?_
    rintro _ ⟨I1, rfl, f1, V1⟩
    rw [gr_1784_5 hR, gr_1784_0 hR, if_pos ok_567, show (0 : Int32) = (Int32.ofNat (0)) from rfl, C_fromTop hR (show I1 567 3 = (Int32.ofNat (h + 1)) by rw [f1 567 (fun y => by unfold Sf at y; omega)]; exact c0) (by omega) (by omega), if_pos (bF_xk isF_1791)]
    have hv1 : CV I1 (584 + 5 * h) v := CV_keep hv (fun x g1 g2 => f1 x (fun y => by unfold Sf at y; omega))
    refine q_bind (F_copy hR isF_1791 (g := 584 + 5 * (h + 1 - 1 - 0)) hv1 (g7 gv).1 (g7 gv).2 (by omega)) ?_
    rintro _ ⟨I2, rfl, f2, V2⟩
    have f12 : FrS (fun x => 1786 ≤ x ∧ x < 1796) I I2 := fun x y => by
      rw [f2 x (fun z => by unfold Sf at z; omega), f1 x (fun z => by unfold Sf at z; omega)]
    have A2 : CTT I2 a T := CT_keep hA (fun x g1 g2 => f12 x (by omega))
    have B2 : CTb I2 b := CTb_keep hB (fun x g => f12 x (by omega))
    have N2 : CNm I2 n := CNm_keep hN (fun x g => f12 x (by omega))
    have S2 : MSt I2 (h + 1) 0 q 0 0 := by
      unfold MSt
      rw [f12 567 (by omega)]
      exact hS
    unfold f_X8_reckonPart_j87
    rw [gr_1784_0 hR, if_pos ok_567, C_meaningOf4 hR A2 hi nv B2 hO, gr_1784_0 hR, if_pos ok_567]
    refine q_bind (C_slGive (h := h) (m := 1) (o := .inr (-v.1, v.2)) hR B2 hO N2 hg A2 (by omega) hT hi S2 (by omega) (by omega) (Or.inr (Or.inr (Or.inl ⟨q11, rfl, v, CV_keep hv (fun x g1 g2 => f12 x (by omega)), gv, rfl⟩)))) ?_
    rintro r ⟨I3, f3, ⟨y, e1, rfl, S3, V3⟩ | ⟨e, e1, -⟩⟩
    rotate_left
    · cases e1
    rw [show ((0 : Int32), mg (4562 + zn J) I3 J R).1 = 0 from rfl, if_pos rfl, if_neg (show ¬ mi (mz b (T.2.1 i)) = (-1 : Int32) by rw [q11]; decide), if_pos ok_1784, q11, mi_s (by first | decide | omega)]
    have hp3 : CV I3 (1806 + 5 * h) p := CV_keep hp (fun x g1 g2 => by
      funext k
      rw [f3 x k (by unfold Fm; omega), f12 x (by omega)])
    have h33 : I3 1784 3 = (Int32.ofNat (h + 1)) := by rw [f3 1784 3 (by unfold Fm; omega), f12 1784 (by omega)]; exact h3
    refine q_bind (C_negPart hR gp (by omega) h33 hp3) ?_
    rintro r ⟨I4, f4, ⟨z, e2, rfl, h34, V4⟩ | ⟨e2, -⟩⟩
    rotate_left
    · cases e2
    unfold f_X8_reckonPart_j138
    rw [nx]
    have e1 : y = (-v.1, v.2) := (Sum.inr.inj e1).symm
    have e2 : z = (-p.1, p.2) := (Sum.inr.inj e2).symm
    rw [e1] at V3
    rw [e2] at V4
    refine q_ok ⟨I4, fun x k g => ?_, Or.inl ⟨_, _, rfl, rfl, ?_, h34, ?_, V4⟩⟩
    · unfold Fcs Fm at g
      rw [f4 x k (by unfold Fsl; omega), f3 x k (by unfold Fm; omega), f12 x (by omega)]
    · unfold MSt
      rw [f4 567 3 (by unfold Fsl; omega), f4 567 12 (by unfold Fsl; omega), f4 567 4 (by unfold Fsl; omega), f4 567 13 (by unfold Fsl; omega), f4 567 18 (by unfold Fsl; omega)]
      exact S3
    · exact CV_keep V3 (fun x g1 g2 => by funext k; rw [f4 x k (by unfold Fsl; omega)])
  · obtain ⟨k3, h2⟩ := mz_two hO nv (show mz b (T.2.1 i) ≤ 10 by omega)
    have c0 := hS.1
    rw [if_pos k3, gr_1784_4 hR, gr_1784_0 hR, bT_g3 ta hR, bT_aI ta (by omega), w4, h2, if_pos ok_567, show (Int32.ofNat (2)) - (1 : Int32) = (Int32.ofNat (1)) from rfl, C_fromTop hR c0 (by omega) (by omega), if_pos (bF_xk isF_1786), show h + 2 - 1 - 1 = h by omega]
    refine q_bind (F_copy hR isF_1786 hv (g7 gv).1 (g7 gv).2 (by omega)) ?_
    rintro _ ⟨I1, rfl, f1, V1⟩
    rw [gr_1784_5 hR, gr_1784_0 hR, if_pos ok_567, show (0 : Int32) = (Int32.ofNat (0)) from rfl, C_fromTop hR (show I1 567 3 = (Int32.ofNat (h + 2)) by rw [f1 567 (fun y => by unfold Sf at y; omega)]; exact c0) (by omega) (by omega), if_pos (bF_xk isF_1791), show h + 2 - 1 - 0 = h + 1 by omega]
    have hw1 : CV I1 (584 + 5 * (h + 1)) w := CV_keep hw (fun x g1 g2 => f1 x (fun y => by unfold Sf at y; omega))
    refine q_bind (F_copy hR isF_1791 hw1 (g7 gw).1 (g7 gw).2 (by omega)) ?_
    rintro _ ⟨I2, rfl, f2, V2⟩
    have f12 : FrS (fun x => 1786 ≤ x ∧ x < 1796) I I2 := fun x y => by
      rw [f2 x (fun z => by unfold Sf at z; omega), f1 x (fun z => by unfold Sf at z; omega)]
    have V12 : FU I2 1786 7 v.1 v.2 := FU_keep V1 (fun x g1 g2 => f2 x (fun z => by unfold Sf at z; omega))
    have A2 : CTT I2 a T := CT_keep hA (fun x g1 g2 => f12 x (by omega))
    have B2 : CTb I2 b := CTb_keep hB (fun x g => f12 x (by omega))
    have N2 : CNm I2 n := CNm_keep hN (fun x g => f12 x (by omega))
    have S2 : MSt I2 (h + 2) 0 q 0 0 := by
      unfold MSt
      rw [f12 567 (by omega)]
      exact hS
    unfold f_X8_reckonPart_j87
    rw [gr_1784_0 hR, if_pos ok_567, C_meaningOf4 hR A2 hi nv B2 hO, gr_1784_0 hR, if_pos ok_567]
    refine q_bind (C_slGive (h := h) (m := 2) (o := q2 (mz b (T.2.1 i)) v w) hR B2 hO N2 hg A2 (by omega) hT hi S2 (by omega) (by omega) (Or.inr (Or.inr (Or.inr ⟨by omega, rfl, v, w, CV_keep hv (fun x g1 g2 => f12 x (by omega)), CV_keep hw (fun x g1 g2 => f12 x (by omega)), gv, gw, rfl⟩)))) ?_
    rintro r' ⟨I3, f3, ⟨y, e1, rfl, S3, V3⟩ | ⟨e, e1, e2, e3, rfl⟩⟩
    · rw [show ((0 : Int32), mg (4562 + zn J) I3 J R).1 = 0 from rfl, if_pos rfl, mi_s (by omega), if_neg (show ¬ (Int32.ofNat (mz b (T.2.1 i))) = (-1 : Int32) from fun z => absurd (show (0 : Int32) ≤ (Int32.ofNat (mz b (T.2.1 i))) from i32_0le (by omega)) (by rw [z]; decide)), if_pos ok_1784]
      have k3' : ∀ x, 1784 ≤ x → (x < 1786 ∨ 1796 ≤ x) → I3 x = I x := fun x g1 g2 => by
        funext k
        rw [f3 x k (by unfold Fm; omega), f12 x (by omega)]
      have hp3 : CV I3 (1806 + 5 * h) p := CV_keep hp (fun x g1 g2 => k3' x (by omega) (by omega))
      have hr3 : CV I3 (1806 + 5 * (h + 1)) r := CV_keep hr (fun x g1 g2 => k3' x (by omega) (by omega))
      have V13 : FU I3 1786 7 v.1 v.2 := FU_keep V12 (fun x g1 g2 => by funext k; rw [f3 x k (by unfold Fm; omega)])
      have V23 : FU I3 1791 7 w.1 w.2 := FU_keep V2 (fun x g1 g2 => by funext k; rw [f3 x k (by unfold Fm; omega)])
      have h33 : I3 1784 3 = (Int32.ofNat (h + 2)) := by rw [k3' 1784 (by omega) (by omega)]; exact h3
      refine q_bind (C_operatorPart hR q5 gv gp gw gr e1 h5 (by omega) h33 V13 V23 hp3 hr3) ?_
      rintro r' ⟨I4, f4, ⟨z, e2, rfl, h34, V4⟩ | ⟨e2, rfl⟩⟩
      · unfold f_X8_reckonPart_j138
        rw [nx]
        refine q_ok ⟨I4, fun x k g => ?_, Or.inl ⟨y, z, ?_, rfl, ?_, h34, ?_, V4⟩⟩
        · unfold Fcs Fm at g
          rw [f4 x k (by unfold Fsl; omega), f3 x k (by unfold Fm; omega), f12 x (by omega)]
        · unfold slT
          dsimp only
          rw [e1]
          dsimp only
          rw [e2]
        · unfold MSt
          rw [f4 567 3 (by unfold Fsl; omega), f4 567 12 (by unfold Fsl; omega), f4 567 4 (by unfold Fsl; omega), f4 567 13 (by unfold Fsl; omega), f4 567 18 (by unfold Fsl; omega)]
          exact S3
        · exact CV_keep V3 (fun x g1 g2 => by funext k; rw [f4 x k (by unfold Fsl; omega)])
      · unfold f_X8_reckonPart_j138
        rw [nx]
        refine q_ok ⟨I4, fun x k g => ?_, Or.inr ⟨3, ?_, by decide, by decide, rfl⟩⟩
        · unfold Fcs Fm at g
          rw [f4 x k (by unfold Fsl; omega), f3 x k (by unfold Fm; omega), f12 x (by omega)]
        · unfold slT
          dsimp only
          rw [e1]
          dsimp only
          rw [e2]
    · dsimp only
      rw [if_neg (show ¬ (Int32.ofNat (e)) = (0 : Int32) from i32_ne (b := 0) (by omega) (by omega) (by omega)), nx]
      refine q_ok ⟨I3, fun x k g => ?_, Or.inr ⟨e, ?_, e2, e3, rfl⟩⟩
      · unfold Fcs Fm at g
        rw [f3 x k (by unfold Fm; omega), f12 x (by omega)]
      · unfold slT
        dsimp only
        rw [e1]
  all_goals
    have h01 : (T.2.1 i).1 = 0 ∨ (T.2.1 i).1 = 1 := by
      rcases hk with ⟨z, -⟩
      first | exact Or.inl z | exact Or.inr z
    have k3 : ¬ (T.2.1 i).1 = 3 := fun y => by
      rw [y] at h01
      exact absurd h01 (by first | decide | omega)
    have m9 : mz b (T.2.1 i) = 999 := if_neg k3
    have m0 : m = 0 := hk.2.1
    subst m0
    rw [if_neg k3]
    unfold f_X8_reckonPart_j87
    rw [gr_1784_0 hR, if_pos ok_567, C_meaningOf4 hR hA hi nv hB hO, gr_1784_0 hR, if_pos ok_567, m9, show mi 999 = -1 from rfl]
    have leaf : ∀ (I3 : Nat → Nat → Int32), FrK (Fm h 0 0) I I3 → MSt I3 (h + 1) 0 (q + 1) 0 0 → ∀ v, CV I3 (584 + 5 * h) v → o = .inr (v, ((if (T.2.1 i).1 = 1 ∧ vN (T.2.1 i) = nm then 1 else 0 : Int), 1)) → QK ((f_X8_leafPart (mg (4562 + zn J) I3 J R) 1784 a (Int32.ofNat (i)) (Int32.ofNat (nm))).bind (fun p16 => f_X8_reckonPart_j138 p16.2 1784 a (Int32.ofNat (nm)) (Int32.ofNat (q)) p16.1)) (SlS I J R a nm h q o) := fun I3 f3 S3 v V3 eo => by
      refine q_bind (C_leafPart (h := h) hR (CT_keep hA (fun x g1 g2 => by funext k; rw [f3 x k (by unfold Fm; omega)])) (by omega) hT hi (by rw [f3 1784 3 (by unfold Fm; omega)]; exact h3) (by omega) h01 hnm) ?_
      rintro _ ⟨I4, rfl, f4, h34, V4⟩
      unfold f_X8_reckonPart_j138
      rw [nx]
      refine q_ok ⟨I4, fun x k g => ?_, Or.inl ⟨v, _, eo, rfl, ?_, h34, CV_keep V3 (fun x g1 g2 => by funext k; rw [f4 x k (by omega)]), V4⟩⟩
      · unfold Fcs Fm at g
        rw [f4 x k (by omega), f3 x k (by unfold Fm; omega)]
      · unfold MSt
        rw [f4 567 3 (by omega), f4 567 12 (by omega), f4 567 4 (by omega), f4 567 13 (by omega), f4 567 18 (by omega)]
        exact S3
  · obtain ⟨q0, -, eo⟩ := hk
    refine q_bind (C_slGive (h := h) (m := 0) (o := .inr ((vN (T.2.1 i) : Int), 1)) hR hB hO hN hg hA (by omega) hT hi hS (by omega) (by omega) (Or.inl ⟨q0, rfl, rfl⟩)) ?_
    rintro r ⟨I3, f3, ⟨y, e1, rfl, S3, V3⟩ | ⟨e, e1, -⟩⟩
    rotate_left
    · cases e1
    rw [show ((0 : Int32), mg (4562 + zn J) I3 J R).1 = 0 from rfl, if_pos rfl, if_pos rfl, if_pos ok_1784]
    refine leaf I3 f3 S3 y V3 ?_
    rw [eo, if_neg (fun z => by rw [q0] at z; exact absurd z.1 (by first | decide | omega)), Sum.inr.inj e1]
  · obtain ⟨q1, -, eo⟩ := hk
    refine q_bind (C_slGive (h := h) (m := 0) (o := if n.1 (vN (T.2.1 i) - 97) = 0 then .inl 4 else .inr (n.2 (vN (T.2.1 i) - 97))) hR hB hO hN hg hA (by omega) hT hi hS (by omega) (by omega) (Or.inr (Or.inl ⟨q1, rfl, rfl⟩))) ?_
    rintro r ⟨I3, f3, ⟨y, e1, rfl, S3, V3⟩ | ⟨e, e1, e2, e3, rfl⟩⟩
    · rw [show ((0 : Int32), mg (4562 + zn J) I3 J R).1 = 0 from rfl, if_pos rfl, if_pos rfl, if_pos ok_1784]
      refine leaf I3 f3 S3 y V3 ?_
      by_cases z : n.1 (vN (T.2.1 i) - 97) = 0
      · rw [if_pos z] at e1
        cases e1
      · rw [if_neg z] at e1
        rw [eo, if_neg z, Sum.inr.inj e1]
        by_cases z2 : vN (T.2.1 i) = nm
        · rw [if_pos z2, if_pos ⟨q1, z2⟩]
        · rw [if_neg z2, if_neg (fun z3 => z2 z3.2)]
    · rw [show ((Int32.ofNat (e)), mg (4562 + zn J) I3 J R).1 = (Int32.ofNat (e)) from rfl, if_neg (show ¬ (Int32.ofNat (e)) = (0 : Int32) from i32_ne (b := 0) (by omega) (by omega) (by omega)), nx]
      refine q_ok ⟨I3, fun x k g => ?_, Or.inr ⟨e, ?_, e2, e3, rfl⟩⟩
      · unfold Fcs at g
        rw [f3 x k (fun z => g (Or.inl z))]
      · by_cases z : n.1 (vN (T.2.1 i) - 97) = 0
        · rw [if_pos z] at e1
          rw [eo, if_pos z, Sum.inl.inj e1]
        · rw [if_neg z] at e1
          cases e1
end CSX
