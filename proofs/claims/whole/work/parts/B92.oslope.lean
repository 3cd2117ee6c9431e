/-! slopes: the reference's walk; the call slope -/
section MSW
variable {I : Nat → Nat → Int32} {J : Nat → Nat → Int64} {R : Nat → Nat → Option Nat} {β : Type} {a nm : Nat} {b : GB} {n : GN} {T : Tt}
def SimMs (J : Nat → Nat → Int64) (R : Nat → Nat → Option Nat) (I : Nat → Nat → Int32) (T : Tt) (nm h i : Nat) (o : Nat ⊕ (GV × GV)) : Prop := ∃ I', FrK (Frp h) I I' ∧ match o with
  | .inl e => 0 < e ∧ e ≤ 10 ∧ ∃ k q', k ≤ T.2.2 i ∧ q' ≤ T.1 ∧ RX f_X12_slopes_s17 k (4561, (Int32.ofNat (nm)), (Int32.ofNat (T.1)), 0, (Int32.ofNat (pl T.2.2 i + 1 - T.2.2 i)), mg 4625 I J R) (4561, (Int32.ofNat (nm)), (Int32.ofNat (T.1)), (Int32.ofNat (e)), (Int32.ofNat (q')), mg 4625 I' J R)
  | .inr (v, p) => RX f_X12_slopes_s17 (T.2.2 i) (4561, (Int32.ofNat (nm)), (Int32.ofNat (T.1)), 0, (Int32.ofNat (pl T.2.2 i + 1 - T.2.2 i)), mg 4625 I J R) (4561, (Int32.ofNat (nm)), (Int32.ofNat (T.1)), 0, (Int32.ofNat (pl T.2.2 i + 1)), mg 4625 I' J R) ∧ I' 4561 76 = (Int32.ofNat (h + 1)) ∧ Vv (I' 4564) (2500 + 2 * h) v.1 v.2 ∧ Vv (I' 4564) (2501 + 2 * h) p.1 p.2
theorem PaQ_sim {h i k : Nat} {o : Nat ⊕ (GV × GV)} {I1 : Nat → Nat → Int32} (hR : RA R) (h80 : T.1 ≤ 80) (hi : i < T.1) (hod : Od I1 a T.1 T.2.2) (hk : k + 1 = T.2.2 i) (hl : pl T.2.2 i < T.1) (hf : FrK (Frp h) I I1) (h0 : RX f_X12_slopes_s17 k (4561, (Int32.ofNat (nm)), (Int32.ofNat (T.1)), 0, (Int32.ofNat (pl T.2.2 i + 1 - T.2.2 i)), mg 4625 I J R) (4561, (Int32.ofNat (nm)), (Int32.ofNat (T.1)), 0, (Int32.ofNat (pl T.2.2 i)), mg 4625 I1 J R)) (hs : QK (f_X12_pairNode (mg 4625 I1 J R) 4561 (Int32.ofNat (a + i)) (Int32.ofNat (nm))) (PaQ J R I1 h o)) : SimMs J R I T nm h i o := by
  obtain ⟨r, er, I2, f2, hr⟩ := hs
  have stp : f_X12_slopes_s17 (4561, (Int32.ofNat (nm)), (Int32.ofNat (T.1)), 0, (Int32.ofNat (pl T.2.2 i)), mg 4625 I1 J R) = some (.inr (.inr (4561, (Int32.ofNat (nm)), (Int32.ofNat (T.1)), r.1, (Int32.ofNat (pl T.2.2 i + 1)), r.2))) := by
    unfold f_X12_slopes_s17
    dsimp only
    rw [q_let, q_let, q_let, q_let, q_let, q_let, if_neg (show ¬ (Int32.ofNat (T.1)) ≤ (Int32.ofNat (pl T.2.2 i)) from fun y => absurd ((i32_le (by omega) (by omega)).mp y) (by omega)), if_pos rfl, gr_4561_14 hR, ga_4574 (by omega), hod i hi, if_pos ok_4561, er, Option.bind_some, q_let, show (Int32.ofNat (pl T.2.2 i)) + (1 : Int32) = (Int32.ofNat (pl T.2.2 i + 1)) from n_add _ 1]
  have h1 := RX_tr h0 (RX_1 stp)
  rcases hr with ⟨v, p, rfl, rfl, g2, g3, g4⟩ | ⟨e, rfl, e1, e2, rfl⟩
  · refine ⟨I2, FrK_tr hf f2, ?_, g2, g3, g4⟩
    rw [hk] at h1
    exact h1
  · exact ⟨I2, FrK_tr hf f2, e1, e2, k + 1, pl T.2.2 i + 1, by omega, by omega, h1⟩
theorem M_slW (hR : RA R) (hO : TbOK b) (hg : ∀ l, l < 26 → Gd (n.2 l)) (hT : TtO b T) (h80 : T.1 ≤ 80) (ht : ∀ i, i < T.1 → told b T i) (hnm : nm < 1000) : ∀ (F i h : Nat) (I : Nat → Nat → Int32), i < T.1 → T.2.2 i ≤ F → MTb I b → MNm I n → MT I a T.1 T.2.1 T.2.2 → Od I a T.1 T.2.2 → I 4561 76 = (Int32.ofNat (h)) → h ≤ pl T.2.2 i + 1 - T.2.2 i → SimMs J R I T nm h i (slF b n nm T F i) := by
  intro F
  induction F with
  | zero =>
    intro i h I hi hF
    have := (hT.1.2.2.2 i hi).1
    omega
  | succ F ih =>
    intro i h I hi hF hB hN hA hod h3 hh
    have s1 := (hT.1.2.2.2 i hi).1
    have nv := hT.2 i hi
    obtain ⟨v1, v2, v3, v4, -⟩ := NV_v nv
    have lt := pl_lt hT.1 hi
    have plg := pl_ge hT.1 hi
    show SimMs J R I T nm h i (slN b n nm T (slF b n nm T F) i)
    unfold slN
    have leaf : aro T.2.1 i = 0 → ∀ o, QK (f_X12_pairNode (mg 4625 I J R) 4561 (Int32.ofNat (a + i)) (Int32.ofNat (nm))) (PaQ J R I h o) → SimMs J R I T nm h i o := fun e o hs => by
      have l1 := leaf_sp hT hi e
      refine PaQ_sim (k := 0) hR h80 hi hod (by omega) lt FrK_rfl ?_ hs
      rw [show pl T.2.2 i + 1 - T.2.2 i = pl T.2.2 i by omega]
      exact RX_0 _
    by_cases q0 : (T.2.1 i).1 = 0
    · have e0 : aro T.2.1 i = 0 := by
        rcases nv with y | y | y | y
        · exact y.2.2.2
        · exact absurd (q0.symm.trans y.1) (by decide)
        · exact absurd (q0.symm.trans y.1) (by decide)
        · exact absurd (q0.symm.trans y.1) (by decide)
      rw [if_pos q0]
      exact leaf e0 _ (M_pairNode (m := 0) hR hB hO hN hA hT hi hnm (by omega) h3 (Or.inl ⟨q0, rfl, rfl⟩))
    rw [if_neg q0]
    by_cases q1 : (T.2.1 i).1 = 1
    · have e0 : aro T.2.1 i = 0 := by
        rcases nv with y | y | y | y
        · exact y.2.2.2
        · exact y.2.2.2
        · exact absurd (q1.symm.trans y.1) (by decide)
        · exact absurd (q1.symm.trans y.1) (by decide)
      rw [if_pos q1]
      exact leaf e0 _ (M_pairNode (m := 0) hR hB hO hN hA hT hi hnm (by omega) h3 (Or.inr (Or.inl ⟨q1, rfl, rfl⟩)))
    rw [if_neg q1]
    have one : mz b (T.2.1 i) = 11 ∨ mz b (T.2.1 i) ≤ 10 := by
      rcases ht i hi with y | y | y | y | y
      · exact absurd y q0
      · exact absurd y q1
      · exact Or.inl y
      · exact Or.inr (by omega)
      · exact Or.inr (by omega)
    have m5 : mz b (T.2.1 i) = 11 ∨ mz b (T.2.1 i) ≤ 3 ∨ (mz b (T.2.1 i) = 5 ∧ (T.2.1 (kid T.2.2 i 1)).1 = 0) := by
      rcases ht i hi with y | y | y | y | y
      · exact absurd y q0
      · exact absurd y q1
      · exact Or.inl y
      · exact Or.inr (Or.inl y)
      · exact Or.inr (Or.inr y)
    obtain ⟨z1, z2⟩ := mz_ar hO nv (fun y => y.elim q0 q1) one
    have keep : ∀ {I1 : Nat → Nat → Int32}, FrK (Frp h) I I1 → MTb I1 b ∧ MNm I1 n ∧ MT I1 a T.1 T.2.1 T.2.2 ∧ Od I1 a T.1 T.2.2 := fun f => ⟨MTb_keep hB (fun x k g => f x k (by unfold Frp; omega)), MNm_keep hN (fun x k g => f x k (by unfold Frp; omega)), MT_keep hA (fun x k g1 g2 g3 g4 => f x k (by unfold Frp; omega)), fun j hj => (f 4574 _ (by unfold Frp; omega)).trans (hod j hj)⟩
    by_cases q11 : mz b (T.2.1 i) = 11
    · rw [if_pos q11]
      have h1 : aro T.2.1 i = 1 := z1 q11
      obtain ⟨a1, a2, a3⟩ := kid_sp hT.1 hi (show 0 < aro T.2.1 i by omega)
      have pc := pl_child hT.1 hi (show 0 < aro T.2.1 i by omega)
      have ke := (hT.1.2.2.2 i hi).2.2.1
      rw [h1] at ke
      have ke : i + 1 + T.2.2 (i + 1) = i + T.2.2 i := ke
      have a1 : i + 1 < T.1 := a1
      have a2 : 1 ≤ T.2.2 (i + 1) := a2
      have pc : pl T.2.2 (i + 1) + 1 = (pl T.2.2 i + 1 - T.2.2 i) + (i + 1 - i - 1) + T.2.2 (i + 1) := pc
      have e1 : pl T.2.2 (i + 1) + 1 - T.2.2 (i + 1) = pl T.2.2 i + 1 - T.2.2 i := by omega
      have e2 : pl T.2.2 (i + 1) + 1 = pl T.2.2 i := by omega
      have g := ih (i + 1) h I a1 (by omega) hB hN hA hod h3 (by rw [e1]; exact hh)
      obtain ⟨I1, f1, g⟩ := g
      cases e : slF b n nm T F (i + 1) with
      | inl er =>
        rw [e] at g
        obtain ⟨g1, g2, k, q', g3, g4, g5⟩ := g
        rw [e1] at g5
        exact ⟨I1, f1, g1, g2, k, q', by omega, g4, g5⟩
      | inr r =>
        obtain ⟨v, p⟩ := r
        rw [e] at g
        obtain ⟨g1, g3, g4, g5⟩ := g
        rw [e1, e2] at g1
        obtain ⟨k1, k2, k3, k4⟩ := keep f1
        refine PaQ_sim (k := T.2.2 (i + 1)) hR h80 hi k4 (by omega) lt f1 g1 ?_
        exact M_pairNode (m := 1) hR k1 hO k2 k3 hT hi hnm (by omega) g3 (Or.inr (Or.inr (Or.inl ⟨q11, rfl, v, p, g4, g5, rfl⟩)))
    rw [if_neg q11]
    have h2 : aro T.2.1 i = 2 := z2 (by omega)
    obtain ⟨f0, a1, c1, c2, c3, c4, c5, c6⟩ := two_kids hT hi h2
    have pc := pl_child hT.1 hi (show 0 < aro T.2.1 i by omega)
    have pc2 := pl_child hT.1 hi (show 1 < aro T.2.1 i by omega)
    have pc : pl T.2.2 (i + 1) + 1 = (pl T.2.2 i + 1 - T.2.2 i) + (i + 1 - i - 1) + T.2.2 (i + 1) := pc
    have kd : kid T.2.2 i 1 = i + 1 + T.2.2 (i + 1) := rfl
    have s2 := (hT.1.2.2.2 _ c1).1
    have s3 := (hT.1.2.2.2 _ a1).1
    have e1 : pl T.2.2 (i + 1) + 1 - T.2.2 (i + 1) = pl T.2.2 i + 1 - T.2.2 i := by omega
    have e2 : pl T.2.2 (kid T.2.2 i 1) + 1 - T.2.2 (kid T.2.2 i 1) = pl T.2.2 (i + 1) + 1 := by omega
    have e3 : pl T.2.2 (kid T.2.2 i 1) + 1 = pl T.2.2 i := by omega
    have g := ih (i + 1) h I a1 (by omega) hB hN hA hod h3 (by rw [e1]; exact hh)
    obtain ⟨I1, f1, g⟩ := g
    cases e : slF b n nm T F (i + 1) with
    | inl er =>
      rw [e] at g
      obtain ⟨g1, g2, k, q', g3, g4, g5⟩ := g
      rw [e1] at g5
      exact ⟨I1, f1, g1, g2, k, q', by omega, g4, g5⟩
    | inr r =>
      obtain ⟨v, p⟩ := r
      rw [e] at g
      obtain ⟨g1, g3, g4, g5⟩ := g
      rw [e1] at g1
      obtain ⟨k1, k2, k3, k4⟩ := keep f1
      have gg := ih (kid T.2.2 i 1) (h + 1) I1 c1 (by omega) k1 k2 k3 k4 g3 (by rw [e2]; omega)
      have ok2 := slF_O (nm := nm) hO hT ht hg F (kid T.2.2 i 1) c1
      obtain ⟨I2, f2, gg⟩ := gg
      dsimp only
      cases ee : slF b n nm T F (kid T.2.2 i 1) with
      | inl er =>
        rw [ee] at gg
        obtain ⟨b1, b2, k, q', b3, b4, b5⟩ := gg
        rw [e2] at b5
        exact ⟨I2, FrK_tr f1 (Frp_mono f2 (by omega)), b1, b2, T.2.2 (i + 1) + k, q', by omega, b4, RX_tr g1 b5⟩
      | inr r =>
        obtain ⟨w, r⟩ := r
        rw [ee] at gg ok2
        obtain ⟨b1, b3, b4, b5⟩ := gg
        rw [e2, e3] at b1
        have f12 := FrK_tr f1 (Frp_mono f2 (show h ≤ h + 1 by omega))
        obtain ⟨l1, l2, l3, l4⟩ := keep f12
        refine PaQ_sim (k := T.2.2 (i + 1) + T.2.2 (kid T.2.2 i 1)) hR h80 hi l4 (by omega) lt f12 (RX_tr g1 b1) ?_
        have kv : ∀ {j d : Nat} {z : Int}, Vv (I1 4564) j z d → j < 2500 + 2 * (h + 1) → Vv (I2 4564) j z d := fun hv hj => Vv_ks (S := fun x => 2500 + 2 * (h + 1) ≤ x) hv (fun x hx => f2 4564 x (by unfold Frp; omega)) (by omega)
        have b4 : Vv (I2 4564) (2502 + 2 * h) w.1 w.2 := by
          rw [show 2502 + 2 * h = 2500 + 2 * (h + 1) by omega]
          exact b4
        have b5 : Vv (I2 4564) (2503 + 2 * h) r.1 r.2 := by
          rw [show 2503 + 2 * h = 2501 + 2 * (h + 1) by omega]
          exact b5
        refine M_pairNode (m := 2) hR l1 hO l2 l3 hT hi hnm (by omega) b3 (Or.inr (Or.inr (Or.inr ⟨by omega, rfl, v, p, w, r, kv g4 (by omega), kv g5 (by omega), b4, b5, fun m5' => ?_, rfl⟩)))
        have : (T.2.1 (kid T.2.2 i 1)).1 = 0 := by
          rcases m5 with y | y | y
          · omega
          · omega
          · exact y.2
        exact ok2.2.2 this
theorem M_slopes (hR : RA R) (hO : TbOK b) (hg : ∀ l, l < 26 → Gd (n.2 l)) (hT : TtO b T) (h80 : T.1 ≤ 80) (ht : ∀ i, i < T.1 → told b T i) (hnm : nm < 1000) (hB : MTb I b) (hN : MNm I n) (hA : MT I a T.1 T.2.1 T.2.2) : QK (f_X12_slopes (mg 4625 I J R) 4561 (Int32.ofNat (a)) (Int32.ofNat (nm))) (fun r => ∃ I', FrK (fun x k => Frp 0 x k ∨ x = 4574) I I' ∧ ((∃ v p, slF b n nm T 100 0 = .inr (v, p) ∧ r = (0, mg 4625 I' J R) ∧ Vv (I' 4564) 2501 p.1 p.2) ∨ ∃ e, slF b n nm T 100 0 = .inl e ∧ 0 < e ∧ e ≤ 10 ∧ r = ((Int32.ofNat (e)), mg 4625 I' J R))) := by
  have n0 := hT.1.1
  have s0 := hT.1.2.2.1
  have p0 := pl_0 hT.1
  have q0 : pl T.2.2 0 + 1 - T.2.2 0 = 0 := by omega
  unfold f_X12_slopes
  rw [gs_4561, if_pos ok_4561]
  have f1 : FrK (fun x k => Frp 0 x k ∨ x = 4574) I (up I 4561 76 0) := FrK_up FrK_rfl (by unfold Frp; omega)
  have t1 : up I 4561 76 0 4561 76 = (Int32.ofNat (0)) := up_s
  have A1 : MT (up I 4561 76 0) a T.1 T.2.1 T.2.2 := MT_keep hA (fun x k g1 g2 g3 g4 => up_n (by omega))
  generalize up I 4561 76 0 = I1 at *
  refine q_bind (M_inOrder hR A1 (by omega)) ?_
  rintro _ ⟨I2, rfl, f2, od⟩
  rw [q_let, q_let]
  have f12 : FrK (fun x k => Frp 0 x k ∨ x = 4574) I I2 := fun x k y => by
    rw [f2 x (fun z => y (Or.inr z))]
    exact f1 x k y
  have t2 : I2 4561 76 = (Int32.ofNat (0)) := by rw [f2 4561 (by decide)]; exact t1
  have g := M_slW (J := J) (nm := nm) (a := a) hR hO hg hT h80 ht hnm 100 0 0 I2 n0 (by omega) (MTb_keep hB (fun x k g => f12 x k (by unfold Frp; omega))) (MNm_keep hN (fun x k g => f12 x k (by unfold Frp; omega))) (MT_keep hA (fun x k g1 g2 g3 g4 => f12 x k (by unfold Frp; omega))) od t2 (Nat.zero_le _)
  obtain ⟨I3, f3, g⟩ := g
  rw [q0] at g
  have f23 : FrK (fun x k => Frp 0 x k ∨ x = 4574) I I3 := FrK_tr f12 (FrK_mono f3 (fun x k y => Or.inl y))
  cases e : slF b n nm T 100 0 with
  | inl er =>
    rw [e] at g
    obtain ⟨g1, g2, k, q', g3, g4, g5⟩ := g
    have en : f_X12_slopes_s17 (4561, (Int32.ofNat (nm)), (Int32.ofNat (T.1)), (Int32.ofNat (er)), (Int32.ofNat (q')), mg 4625 I3 J R) = some (.inr (.inl ((Int32.ofNat (er)), mg 4625 I3 J R))) := by
      unfold f_X12_slopes_s17
      dsimp only
      rw [q_let, q_let, q_let, q_let, q_let, q_let]
      by_cases z : (Int32.ofNat (T.1)) ≤ (Int32.ofNat (q'))
      · rw [if_pos z]
      · rw [if_neg z, if_neg (show ¬ (Int32.ofNat (er)) = (0 : Int32) from i32_ne (b := 0) (by omega) (by omega) (by omega))]
    have r1 := g5 (xF - k)
    rw [show xF - k + k = xF by unfold xF; omega, xl_e (by unfold xF; omega) en] at r1
    rw [show xloop f_X12_slopes_s17 xF (4561, (Int32.ofNat (nm)), (Int32.ofNat (T.1)), 0, 0, mg 4625 I2 J R) = _ from r1, Option.bind_some]
    exact q_ok ⟨I3, f23, Or.inr ⟨er, rfl, g1, g2, rfl⟩⟩
  | inr r =>
    obtain ⟨v, p⟩ := r
    rw [e] at g
    obtain ⟨g1, g3, g4, g5⟩ := g
    have en : f_X12_slopes_s17 (4561, (Int32.ofNat (nm)), (Int32.ofNat (T.1)), 0, (Int32.ofNat (pl T.2.2 0 + 1)), mg 4625 I3 J R) = some (.inr (.inl (0, mg 4625 I3 J R))) := by
      unfold f_X12_slopes_s17
      dsimp only
      rw [q_let, q_let, q_let, q_let, q_let, q_let, if_pos ((i32_le (by omega) (by omega)).mpr (by omega))]
    have r1 := g1 (xF - T.2.2 0)
    rw [show xF - T.2.2 0 + T.2.2 0 = xF by unfold xF; omega, xl_e (by unfold xF; omega) en] at r1
    rw [show xloop f_X12_slopes_s17 xF (4561, (Int32.ofNat (nm)), (Int32.ofNat (T.1)), 0, 0, mg 4625 I2 J R) = _ from r1, Option.bind_some]
    exact q_ok ⟨I3, f23, Or.inl ⟨v, p, rfl, rfl, g5⟩⟩
end MSW
