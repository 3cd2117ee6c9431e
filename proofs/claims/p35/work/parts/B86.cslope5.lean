/-! slopes: the class reckons a tree with its part of e -/
section CSY
variable {I : Nat → Nat → Int32} {J : Nat → Nat → Int64} {R : Nat → Nat → Option Nat} {β : Type} {a nm : Nat} {b : GB} {n : GN} {T : Tt}
theorem leaf_sp {i : Nat} (hT : TtO b T) (hi : i < T.1) (h : aro T.2.1 i = 0) : T.2.2 i = 1 := by
  have := (hT.1.2.2.2 i hi).2.2.1
  rw [h] at this
  have : i + 1 = i + T.2.2 i := this
  omega
def SimCl (J : Nat → Nat → Int64) (R : Nat → Nat → Option Nat) (I : Nat → Nat → Int32) (T : Tt) (a nm h i : Nat) (o : Nat ⊕ (GV × GV)) : Prop := ∃ I', FrK (Fcs h) I I' ∧ match o with
  | .inl e => 0 < e ∧ e ≤ 10 ∧ ∃ k q', k ≤ T.2.2 i ∧ q' ≤ T.1 ∧ RX f_X8_reckonPart_s17 k (1784, a, (Int32.ofNat (nm)), 0, (Int32.ofNat (pl T.2.2 i + 1 - T.2.2 i)), mg (4562 + zn J) I J R) (1784, a, (Int32.ofNat (nm)), (Int32.ofNat (e)), (Int32.ofNat (q')), mg (4562 + zn J) I' J R)
  | .inr (v, p) => RX f_X8_reckonPart_s17 (T.2.2 i) (1784, a, (Int32.ofNat (nm)), 0, (Int32.ofNat (pl T.2.2 i + 1 - T.2.2 i)), mg (4562 + zn J) I J R) (1784, a, (Int32.ofNat (nm)), 0, (Int32.ofNat (pl T.2.2 i + 1)), mg (4562 + zn J) I' J R) ∧ MSt I' (h + 1) 0 (pl T.2.2 i + 1) 0 0 ∧ I' 1784 3 = (Int32.ofNat (h + 1)) ∧ CV I' (584 + 5 * h) v ∧ CV I' (1806 + 5 * h) p
theorem SlS_sim {h i : Nat} {o : Nat ⊕ (GV × GV)} {I1 : Nat → Nat → Int32} {k : Nat} (hk : k + 1 = T.2.2 i) (hl : pl T.2.2 i < T.1) (hf : FrK (Fcs h) I I1) (h0 : RX f_X8_reckonPart_s17 k (1784, a, (Int32.ofNat (nm)), 0, (Int32.ofNat (pl T.2.2 i + 1 - T.2.2 i)), mg (4562 + zn J) I J R) (1784, a, (Int32.ofNat (nm)), 0, (Int32.ofNat (pl T.2.2 i)), mg (4562 + zn J) I1 J R)) (hs : QK (f_X8_reckonPart_s17 (1784, a, (Int32.ofNat (nm)), 0, (Int32.ofNat (pl T.2.2 i)), mg (4562 + zn J) I1 J R)) (SlS I1 J R a nm h (pl T.2.2 i) o)) : SimCl J R I T a nm h i o := by
  obtain ⟨r, er, I2, f2, ⟨v, p, eo, rfl, g1, g2, g3, g4⟩ | ⟨e, eo, e1, e2, rfl⟩⟩ := hs
  · rw [eo]
    refine ⟨I2, FrK_tr hf f2, ?_, g1, g2, g3, g4⟩
    have := RX_tr h0 (RX_1 er)
    rw [hk] at this
    exact this
  · rw [eo]
    exact ⟨I2, FrK_tr hf f2, e1, e2, k + 1, pl T.2.2 i + 1, by omega, by omega, RX_tr h0 (RX_1 er)⟩
theorem C_slW (hR : RA R) (hO : TbOK b) (hg : ∀ l, l < 26 → Gd (n.2 l)) (ha : 10 ≤ a ∧ a + 8 ≤ 567) (hT : TtO b T) (h80 : T.1 ≤ 80) (ht : ∀ i, i < T.1 → told b T i) (hnm : nm < 1000) : ∀ (F i h : Nat) (I : Nat → Nat → Int32), i < T.1 → T.2.2 i ≤ F → CTb I b → CNm I n → CTT I a T → MSt I h 0 (pl T.2.2 i + 1 - T.2.2 i) 0 0 → I 1784 3 = (Int32.ofNat (h)) → h ≤ pl T.2.2 i + 1 - T.2.2 i → SimCl J R I T a nm h i (slF b n nm T F i) := by
  intro F
  induction F with
  | zero =>
    intro i h I hi hF
    have := (hT.1.2.2.2 i hi).1
    omega
  | succ F ih =>
    intro i h I hi hF hB hN hA hS h3 hh
    have s1 := (hT.1.2.2.2 i hi).1
    have nv := hT.2 i hi
    obtain ⟨v1, v2, v3, v4, -⟩ := NV_v nv
    have lt := pl_lt hT.1 hi
    have plg := pl_ge hT.1 hi
    show SimCl J R I T a nm h i (slN b n nm T (slF b n nm T F) i)
    unfold slN
    have leaf : aro T.2.1 i = 0 → ∀ o, QK (f_X8_reckonPart_s17 (1784, a, (Int32.ofNat (nm)), 0, (Int32.ofNat (pl T.2.2 i)), mg (4562 + zn J) I J R)) (SlS I J R a nm h (pl T.2.2 i) o) → SimCl J R I T a nm h i o := fun e o hs => by
      have l1 := leaf_sp hT hi e
      refine SlS_sim (k := 0) (by omega) lt FrK_rfl ?_ hs
      rw [show pl T.2.2 i + 1 - T.2.2 i = pl T.2.2 i by omega]
      exact RX_0 _
    by_cases q0 : (T.2.1 i).1 = 0
    · have e0 : aro T.2.1 i = 0 := by
        rcases nv with y | y | y | y
        · exact y.2.2.2
        · exact absurd (q0.symm.trans y.1) (by first | decide | omega)
        · exact absurd (q0.symm.trans y.1) (by first | decide | omega)
        · exact absurd (q0.symm.trans y.1) (by first | decide | omega)
      have l1 := leaf_sp hT hi e0
      rw [show pl T.2.2 i + 1 - T.2.2 i = pl T.2.2 i by omega] at hS hh
      rw [if_pos q0]
      exact leaf e0 _ (C_slNode (m := 0) hR hB hO hN hg hA ha hT hi rfl hnm hS h3 (by omega) (Or.inl ⟨q0, rfl, rfl⟩))
    rw [if_neg q0]
    by_cases q1 : (T.2.1 i).1 = 1
    · have e0 : aro T.2.1 i = 0 := by
        rcases nv with y | y | y | y
        · exact y.2.2.2
        · exact y.2.2.2
        · exact absurd (q1.symm.trans y.1) (by first | decide | omega)
        · exact absurd (q1.symm.trans y.1) (by first | decide | omega)
      have l1 := leaf_sp hT hi e0
      rw [show pl T.2.2 i + 1 - T.2.2 i = pl T.2.2 i by omega] at hS hh
      rw [if_pos q1]
      exact leaf e0 _ (C_slNode (m := 0) hR hB hO hN hg hA ha hT hi rfl hnm hS h3 (by omega) (Or.inr (Or.inl ⟨q1, rfl, rfl⟩)))
    rw [if_neg q1]
    have one : mz b (T.2.1 i) = 11 ∨ mz b (T.2.1 i) ≤ 10 := by
      rcases ht i hi with y | y | y | y | y
      · exact absurd y q0
      · exact absurd y q1
      · exact Or.inl y
      · exact Or.inr (by omega)
      · exact Or.inr (by omega)
    have m5 : mz b (T.2.1 i) = 11 ∨ mz b (T.2.1 i) ≤ 3 ∨ (mz b (T.2.1 i) = 5 ∧ (T.2.1 (kid T.2.2 i 1)).1 = 0) := by
      rcases ht i hi with y | y | y | y | y
      · exact absurd y q0
      · exact absurd y q1
      · exact Or.inl y
      · exact Or.inr (Or.inl y)
      · exact Or.inr (Or.inr y)
    obtain ⟨z1, z2⟩ := mz_ar hO nv (fun y => y.elim q0 q1) one
    have keep : ∀ {I1 : Nat → Nat → Int32}, FrK (Fcs h) I I1 → CTb I1 b ∧ CNm I1 n ∧ CTT I1 a T := fun f => ⟨CTb_keep hB (fun x g => by funext k; rw [f x k (by unfold Fcs Fm; omega)]), CNm_keep hN (fun x g => by funext k; rw [f x k (by unfold Fcs Fm; omega)]), CT_keep hA (fun x g1 g2 => by funext k; rw [f x k (by unfold Fcs Fm; omega)])⟩
    by_cases q11 : mz b (T.2.1 i) = 11
    · rw [if_pos q11]
      have h1 : aro T.2.1 i = 1 := z1 q11
      obtain ⟨a1, a2, a3⟩ := kid_sp hT.1 hi (show 0 < aro T.2.1 i by omega)
      have pc := pl_child hT.1 hi (show 0 < aro T.2.1 i by omega)
      have ke := (hT.1.2.2.2 i hi).2.2.1
      rw [h1] at ke
      have ke : i + 1 + T.2.2 (i + 1) = i + T.2.2 i := ke
      have a1 : i + 1 < T.1 := a1
      have a2 : 1 ≤ T.2.2 (i + 1) := a2
      have pc : pl T.2.2 (i + 1) + 1 = (pl T.2.2 i + 1 - T.2.2 i) + (i + 1 - i - 1) + T.2.2 (i + 1) := pc
      have e1 : pl T.2.2 (i + 1) + 1 - T.2.2 (i + 1) = pl T.2.2 i + 1 - T.2.2 i := by omega
      have e2 : pl T.2.2 (i + 1) + 1 = pl T.2.2 i := by omega
      have g := ih (i + 1) h I a1 (by omega) hB hN hA (by rw [e1]; exact hS) h3 (by rw [e1]; exact hh)
      have ok := slF_O (nm := nm) hO hT ht hg F (i + 1) a1
      obtain ⟨I1, f1, g⟩ := g
      cases e : slF b n nm T F (i + 1) with
      | inl er =>
        rw [e] at g
        obtain ⟨g1, g2, k, q', g3, g4, g5⟩ := g
        rw [e1] at g5
        exact ⟨I1, f1, g1, g2, k, q', by omega, g4, g5⟩
      | inr r =>
        obtain ⟨v, p⟩ := r
        rw [e] at g ok
        obtain ⟨g1, g2, g3, g4, g5⟩ := g
        rw [e1, e2] at g1
        rw [e2] at g2
        obtain ⟨k1, k2, k3⟩ := keep f1
        refine SlS_sim (k := T.2.2 (i + 1)) (by omega) lt f1 g1 ?_
        exact C_slNode (m := 1) hR k1 hO k2 hg k3 ha hT hi rfl hnm g2 g3 (by omega) (Or.inr (Or.inr (Or.inl ⟨q11, rfl, v, p, g4, g5, ok.1, ok.2.1, rfl⟩)))
    rw [if_neg q11]
    have h2 : aro T.2.1 i = 2 := z2 (by omega)
    obtain ⟨f0, a1, c1, c2, c3, c4, c5, c6⟩ := two_kids hT hi h2
    have pc := pl_child hT.1 hi (show 0 < aro T.2.1 i by omega)
    have pc2 := pl_child hT.1 hi (show 1 < aro T.2.1 i by omega)
    have pc : pl T.2.2 (i + 1) + 1 = (pl T.2.2 i + 1 - T.2.2 i) + (i + 1 - i - 1) + T.2.2 (i + 1) := pc
    have kd : kid T.2.2 i 1 = i + 1 + T.2.2 (i + 1) := rfl
    have s2 := (hT.1.2.2.2 _ c1).1
    have s3 := (hT.1.2.2.2 _ a1).1
    have e1 : pl T.2.2 (i + 1) + 1 - T.2.2 (i + 1) = pl T.2.2 i + 1 - T.2.2 i := by omega
    have e2 : pl T.2.2 (kid T.2.2 i 1) + 1 - T.2.2 (kid T.2.2 i 1) = pl T.2.2 (i + 1) + 1 := by omega
    have e3 : pl T.2.2 (kid T.2.2 i 1) + 1 = pl T.2.2 i := by omega
    have g := ih (i + 1) h I a1 (by omega) hB hN hA (by rw [e1]; exact hS) h3 (by rw [e1]; exact hh)
    have ok := slF_O (nm := nm) hO hT ht hg F (i + 1) a1
    obtain ⟨I1, f1, g⟩ := g
    cases e : slF b n nm T F (i + 1) with
    | inl er =>
      rw [e] at g
      obtain ⟨g1, g2, k, q', g3, g4, g5⟩ := g
      rw [e1] at g5
      exact ⟨I1, f1, g1, g2, k, q', by omega, g4, g5⟩
    | inr r =>
      obtain ⟨v, p⟩ := r
      rw [e] at g ok
      obtain ⟨g1, g2, g3, g4, g5⟩ := g
      rw [e1] at g1
      obtain ⟨k1, k2, k3⟩ := keep f1
      have gg := ih (kid T.2.2 i 1) (h + 1) I1 c1 (by omega) k1 k2 k3 (by rw [e2]; exact g2) g3 (by rw [e2]; omega)
      have ok2 := slF_O (nm := nm) hO hT ht hg F (kid T.2.2 i 1) c1
      obtain ⟨I2, f2, gg⟩ := gg
      dsimp only
      cases ee : slF b n nm T F (kid T.2.2 i 1) with
      | inl er =>
        rw [ee] at gg
        obtain ⟨b1, b2, k, q', b3, b4, b5⟩ := gg
        rw [e2] at b5
        exact ⟨I2, FrK_tr f1 (Fcs_mono f2 (by omega)), b1, b2, T.2.2 (i + 1) + k, q', by omega, b4, RX_tr g1 b5⟩
      | inr r =>
        obtain ⟨w, r⟩ := r
        rw [ee] at gg ok2
        obtain ⟨b1, b2, b3, b4, b5⟩ := gg
        rw [e2, e3] at b1
        rw [e3] at b2
        have f12 := FrK_tr f1 (Fcs_mono f2 (show h ≤ h + 1 by omega))
        obtain ⟨l1, l2, l3⟩ := keep f12
        refine SlS_sim (k := T.2.2 (i + 1) + T.2.2 (kid T.2.2 i 1)) (by omega) lt f12 (RX_tr g1 b1) ?_
        have kv : ∀ x, 584 ≤ x → x < 589 + 5 * h → I2 x = I1 x ∨ ¬ (x < 584 + 5 * (h + 1)) := fun x g1 g2 => by
          left
          funext k
          rw [f2 x k (by unfold Fcs Fm; omega)]
        refine C_slNode (m := 2) hR l1 hO l2 hg l3 ha hT hi rfl hnm b2 b3 (by omega) (Or.inr (Or.inr (Or.inr ⟨by omega, rfl, v, p, w, r, CV_keep g4 (fun x g1 g2 => by funext k; rw [f2 x k (by unfold Fcs Fm; omega)]), CV_keep g5 (fun x g1 g2 => by funext k; rw [f2 x k (by unfold Fcs Fm; omega)]), b4, b5, ok.1, ok.2.1, ok2.1, ok2.2.1, fun m5' => ?_, rfl⟩)))
        have : (T.2.1 (kid T.2.2 i 1)).1 = 0 := by
          rcases m5 with y | y | y
          · omega
          · omega
          · exact y.2
        exact ⟨_, ok2.2.2 this⟩
theorem C_reckonPart (hR : RA R) (hO : TbOK b) (hg : ∀ l, l < 26 → Gd (n.2 l)) (ha : 10 ≤ a ∧ a + 8 ≤ 567) (hT : TtO b T) (h80 : T.1 ≤ 80) (ht : ∀ i, i < T.1 → told b T i) (hnm : nm < 1000) (hB : CTb I b) (hN : CNm I n) (hA : CTT I a T) : QK (f_X8_reckonPart (mg (4562 + zn J) I J R) 1784 a (Int32.ofNat (nm))) (fun r => ∃ I', FrK (Fcs 0) I I' ∧ ((∃ v p, slF b n nm T 100 0 = .inr (v, p) ∧ r = (0, mg (4562 + zn J) I' J R) ∧ CV I' 1806 p) ∨ ∃ e, slF b n nm T 100 0 = .inl e ∧ 0 < e ∧ e ≤ 10 ∧ r = ((Int32.ofNat (e)), mg (4562 + zn J) I' J R))) := by
  have n0 := hT.1.1
  have s0 := hT.1.2.2.1
  have ta := hA.1.1
  unfold f_X8_reckonPart
  rw [gr_1784_0 hR, if_pos ok_567]
  refine q_bind C_restart ?_
  rintro _ ⟨I1, rfl, f1, S1⟩
  rw [gs_1784, q_let, q_let]
  have f2 : FrK (Fcs 0) I (up I1 1784 3 0) := fun x k y => by
    unfold Fcs at y
    rw [up_n (by omega)]
    exact f1 x k (fun z => y (Or.inl z))
  have S2 : MSt (up I1 1784 3 0) 0 0 0 0 0 := by
    unfold MSt
    rw [up_n (by omega), up_n (by omega), up_n (by omega), up_n (by omega), up_n (by omega)]
    exact S1
  have h3 : up I1 1784 3 0 1784 3 = (Int32.ofNat (0)) := up_s
  generalize up I1 1784 3 0 = I2 at *
  have p0 := pl_0 hT.1
  have q0 : pl T.2.2 0 + 1 - T.2.2 0 = 0 := by omega
  have hA2 : CTT I2 a T := CT_keep hA (fun x g1 g2 => by funext k; rw [f2 x k (by unfold Fcs Fm; omega)])
  have g := C_slW (J := J) (nm := nm) hR hO hg ha hT h80 ht hnm 100 0 0 I2 n0 (by omega) (CTb_keep hB (fun x g => by funext k; rw [f2 x k (by unfold Fcs Fm; omega)])) (CNm_keep hN (fun x g => by funext k; rw [f2 x k (by unfold Fcs Fm; omega)])) hA2 (by rw [q0]; exact S2) h3 (Nat.zero_le _)
  obtain ⟨I3, f3, g⟩ := g
  rw [q0] at g
  have f23 := FrK_tr f2 f3
  have hA3 : CTT I3 a T := CT_keep hA2 (fun x g1 g2 => by funext k; rw [f3 x k (by unfold Fcs Fm; omega)])
  cases e : slF b n nm T 100 0 with
  | inl er =>
    rw [e] at g
    obtain ⟨g1, g2, k, q', g3, g4, g5⟩ := g
    have en : f_X8_reckonPart_s17 (1784, a, (Int32.ofNat (nm)), (Int32.ofNat (er)), (Int32.ofNat (q')), mg (4562 + zn J) I3 J R) = some (.inr (.inl ((Int32.ofNat (er)), mg (4562 + zn J) I3 J R))) := by
      unfold f_X8_reckonPart_s17
      dsimp only
      rw [q_let, q_let, q_let, q_let, q_let, q_let, bT_gI ta, hA3.1.2.1]
      by_cases z : (Int32.ofNat (T.1)) ≤ (Int32.ofNat (q'))
      · rw [if_pos z]
      · rw [if_neg z, if_neg (show ¬ (Int32.ofNat (er)) = (0 : Int32) from i32_ne (b := 0) (by omega) (by omega) (by omega))]
    have r1 := g5 (xF - k)
    rw [show xF - k + k = xF by unfold xF; omega, xl_e (by unfold xF; omega) en] at r1
    rw [show xloop f_X8_reckonPart_s17 xF (1784, a, (Int32.ofNat (nm)), 0, 0, mg (4562 + zn J) I2 J R) = _ from r1, Option.bind_some]
    exact q_ok ⟨I3, f23, Or.inr ⟨er, rfl, g1, g2, rfl⟩⟩
  | inr r =>
    obtain ⟨v, p⟩ := r
    rw [e] at g
    obtain ⟨g1, g2, g3, g4, g5⟩ := g
    have en : f_X8_reckonPart_s17 (1784, a, (Int32.ofNat (nm)), 0, (Int32.ofNat (pl T.2.2 0 + 1)), mg (4562 + zn J) I3 J R) = some (.inr (.inl (0, mg (4562 + zn J) I3 J R))) := by
      unfold f_X8_reckonPart_s17
      dsimp only
      rw [q_let, q_let, q_let, q_let, q_let, q_let, bT_gI ta, hA3.1.2.1, if_pos ((i32_le (by omega) (by omega)).mpr (by omega))]
    have r1 := g1 (xF - T.2.2 0)
    rw [show xF - T.2.2 0 + T.2.2 0 = xF by unfold xF; omega, xl_e (by unfold xF; omega) en] at r1
    rw [show xloop f_X8_reckonPart_s17 xF (1784, a, (Int32.ofNat (nm)), 0, 0, mg (4562 + zn J) I2 J R) = _ from r1, Option.bind_some]
    exact q_ok ⟨I3, f23, Or.inl ⟨v, p, rfl, rfl, g5⟩⟩
end CSY
