/-! a name's value noted; unlet -/
section OG
variable {I : Nat → Nat → Int32} {J : Nat → Nat → Int64} {R : Nat → Nat → Option Nat} {t : GT} {s : GS} {b : GB} {n : GN} {f : GF} {v w : GV} {q : Nat → GV} {p : GT} {r : GR} {h : GH} {β : Type}
theorem gw_row {u k : Nat} {x : Int32} {F : xM → Option β} (h : u < 20 ∧ k < 10) : (wI (mg 4625 I J R) (49 + u) (Int32.ofNat (k)) x).bind F = F (mg 4625 (up I (49 + u) k x) J R) := by
  rw [e_wI (len := 10) (by omega) (KK_49 u h.1) h.2 (by decide)]
  rfl
theorem ga_row {u k : Nat} {F : Int32 → Option β} (h : u < 20 ∧ k < 10) : (aI (mg 4625 I J R) (49 + u) 14 (Int32.ofNat (k))).bind F = F (I (49 + u) k) := by
  rw [e_aI (len := 10) (by omega) (KK_49 u h.1) h.2 (by decide)]
  rfl
theorem gw_fn {u k : Nat} {x : Int32} {F : xM → Option β} (h : u < 26 ∧ k < 10) : (wI (mg 4625 I J R) (20 + u) (Int32.ofNat (k)) x).bind F = F (mg 4625 (up I (20 + u) k x) J R) := by
  rw [e_wI (len := 10) (by omega) (KK_20 u h.1) h.2 (by decide)]
  rfl
theorem ga_fn {u k : Nat} {F : Int32 → Option β} (h : u < 26 ∧ k < 10) : (aI (mg 4625 I J R) (20 + u) 14 (Int32.ofNat (k))).bind F = F (I (20 + u) k) := by
  rw [e_aI (len := 10) (by omega) (KK_20 u h.1) h.2 (by decide)]
  rfl
def hName (h : GH) (n : GN) (l : Nat) : GH := pushH h 2 l (fun _ => n.1 l) (n.2 l)
theorem C_noteName {l : Nat} (hR : RA R) (H : InvC I t s b n f v q p r h) (hl : l < 26) (hb : (n.2 l).1.natAbs < Bw 7 ∧ ((n.2 l).2 : Int).natAbs < Bw 7) : QK (f_X1_noteName (mg 4625 I J R) 11 (Int32.ofNat (l))) (fun x => ∃ I', x = mg 4625 I' J R ∧ InvC I' t s b n f v q p r (hName h n l) ∧ FrS (fun x => x = 11 ∨ (46 ≤ x ∧ x < 69) ∨ (440 ≤ x ∧ x < 540)) I I') := by
  obtain ⟨h1, h2, h3, h4, h5, h6, h7, h8, h9, h10⟩ := H
  have ul := nu_lt h
  obtain ⟨c1, c2, c3⟩ := h4 l hl
  unfold f_X1_noteName
  rw [if_pos ok_11]
  refine q_bind (C_note (kd := 2) (ky := l) (h := h) hR h10.1 h10.2.1 h10.2.2.1 h10.2.2.2.1) ?_
  rintro _ ⟨I1, rfl, hF1, e13, e14, e46, e47⟩
  have f1 : ∀ x, x ≠ 11 → x ≠ 46 → x ≠ 47 → I1 x = I x := fun x a c d => funext (fun k => hF1 x k (by omega))
  have j28 : ∀ u : Int32, u = n.1 l → QK (f_X1_noteName_j28 (mg 4625 I1 J R) 11 (Int32.ofNat (l)) (Int32.ofNat (nu h)) u 0 (49 + nu h)) (fun x => ∃ I', x = mg 4625 I' J R ∧ InvC I' t s b n f v q p r (hName h n l) ∧ FrS (fun x => x = 11 ∨ (46 ≤ x ∧ x < 69) ∨ (440 ≤ x ∧ x < 540)) I I') := by
    intro u hu
    unfold f_X1_noteName_j28
    rw [show (0 : Int32) = (Int32.ofNat (0)) from rfl, gw_row ⟨ul, by omega⟩, gr_11_12 hR, g_cval hR ul, gr_11_6 hR, g_name hR hl, if_pos (bF_xk (isF_440 ul))]
    have c3' : CV (up I1 (49 + nu h) 0 u) (310 + 5 * l) (n.2 l) := CV_keep c3 (fun x a c => by rw [up_r (by omega), f1 x (by omega) (by omega) (by omega)])
    refine q_bind (F_copy hR (isF_440 ul) c3' hb.1 hb.2 (by omega)) ?_
    rintro _ ⟨I2, rfl, hF2, hT2⟩
    have g2 : ∀ x, ¬ (440 + 5 * nu h ≤ x ∧ x < 440 + 5 * nu h + 5) → I2 x = up I1 (49 + nu h) 0 u x := fun x y => hF2 x (fun z => y (by unfold Sf at z; omega))
    have go : ∀ x, x ≠ 11 → x ≠ 46 → x ≠ 47 → x ≠ 49 + nu h → ¬ (440 + 5 * nu h ≤ x ∧ x < 440 + 5 * nu h + 5) → I2 x = I x := fun x a c d e y => by
      rw [g2 x y, up_r e, f1 x a c d]
    have g5 : ∀ k, k ≠ 13 → k ≠ 14 → I2 11 k = I 11 k := fun k a c => by
      rw [g2 11 (by omega), up_n (by omega), hF1 11 k (by omega)]
    refine q_ok ⟨I2, rfl, ⟨CTy_keep h1 ?_, ⟨h2.1, (g5 5 (by decide) (by decide)).trans h2.2.1, fun k hk => CT_keep (h2.2.2 k hk) ?_⟩, CTb_keep h3 ?_, CNm_keep h4 ?_, CFn_keep h5 ?_, CV_keep h6 ?_, CKp_keep h7 ?_, CPr_keep h8 ?_, CTr_keep h9 ?_, ?_⟩, ?_⟩
    case refine_2 =>
      intro x a c
      have := h2.1
      exact go x (by omega) (by omega) (by omega) (by omega) (by omega)
    case refine_6 =>
      intro x a c
      exact go x (by omega) (by omega) (by omega) (by omega) (by omega)
    case refine_10 =>
      refine CHs_push h10 ?_ ?_ (fun u hu => ?_) ?_ (fun u hu => ?_) ?_ (fun u hu hu' => ?_) (fun x a c d => ?_) (fun z => absurd z (by omega)) (fun _ => ⟨?_, hT2⟩) (fun z => absurd z (by omega))
      · rw [g2 11 (by omega), up_n (by omega), e13]
      · rw [g2 11 (by omega), up_n (by omega), e14]
      · rw [g2 46 (by omega), up_n (by omega), hF1 46 u (by omega)]
      · rw [g2 46 (by omega), up_n (by omega), e46]
      · rw [g2 47 (by omega), up_n (by omega), hF1 47 u (by omega)]
      · rw [g2 47 (by omega), up_n (by omega), e47]
      · exact go _ (by omega) (by omega) (by omega) (by omega) (by omega)
      · exact go _ (by omega) (by omega) (by omega) (by omega) (by omega)
      · rw [g2 _ (by omega), up_s]
        exact hu
    case refine_11 =>
      intro x hx
      exact go x (by omega) (by omega) (by omega) (by omega) (by omega)
    all_goals
      intro x hx
      exact go x (by omega) (by omega) (by omega) (by omega) (by omega)
  rw [gr_11_11 hR, g_crow hR ul, gr_11_7 hR, ga_18 hl, f1 18 (by omega) (by omega) (by omega), c1]
  by_cases z : n.1 l = 0
  · rw [if_pos z]
    exact j28 0 z.symm
  · rw [if_neg z]
    exact j28 1 (c2.resolve_left z).symm
theorem M_noteValue {l : Nat} (hR : RA R) (H : InvM I t s b n f v q p r h) (hC : CSh I s) (h20 : h.1 ≤ 20) (hf : h.2.1 < 20) (hl : l < 26) (hv : n.1 l = 0 ∨ n.1 l = 1) : QK (f_X12_noteValue (mg 4625 I J R) 4561 (Int32.ofNat (l))) (fun x => ∃ I', x = mg 4625 I' J R ∧ InvM I' t s b n f v q p r (hName h n l) ∧ (∀ a k, a < 4561 → I' a k = I a k) ∧ I' 4561 0 = I 4561 0) := by
  obtain ⟨h1, h2, h3, h4, h5, h6, h7, h8, h9, h10⟩ := H
  have ul := nu_lt h
  obtain ⟨m1, m2⟩ := h4 l hl
  have j17 : ∀ u : Int32, u = n.1 l → QK (f_X12_noteValue_j17 (mg 4625 I J R) 4561 (Int32.ofNat (l)) u (Int32.ofNat (l)) 2 4561) (fun x => ∃ I', x = mg 4625 I' J R ∧ InvM I' t s b n f v q p r (hName h n l) ∧ (∀ a k, a < 4561 → I' a k = I a k) ∧ I' 4561 0 = I 4561 0) := by
    intro u hu
    unfold f_X12_noteValue_j17
    rw [if_pos ok_4561]
    refine q_bind (M_note (h := h) hR h10.1 h10.2.1 h20 hf) ?_
    rintro _ ⟨I1, rfl, hF1, e83, e84, e17, e18, e19, e20, e21⟩
    have m3 : MV I1 l (n.2 l) := MV_keep m2 (fun k a c => hF1 _ k (fun y => by unfold Snt at y; omega))
    rw [if_pos ok_4561, show (27 : Int32) + (Int32.ofNat (nu h)) = (Int32.ofNat (27 + nu h)) from n_add 27 _]
    refine q_bind (M_copy hR (by omega) (by omega) (by omega) m3) ?_
    rintro _ ⟨I2, rfl, hr3, -, -, hK, hT⟩
    have go : ∀ a k, a ≠ 4562 → a ≠ 4563 → (a = 4564 → k / 28 ≠ 27 + nu h) → ¬ (a = 4561 ∧ (k = 83 ∨ k = 84)) → ¬ (4617 ≤ a ∧ a ≤ 4621 ∧ k = nu h) → I2 a k = I a k := fun a k g1 g2 g3 g4 g5 => by
      by_cases z : a = 4564
      · subst z
        rw [hK k (by have := g3 rfl; omega)]
        exact hF1 _ k (fun y => by unfold Snt at y; omega)
      · rw [hr3.1 a (fun y => y.elim g1 (fun y => y.elim g2 z))]
        exact hF1 _ k (fun y => by unfold Snt at y; omega)
    have g1 : ∀ a k, a ≠ 4562 → a ≠ 4563 → a ≠ 4564 → I2 a k = I1 a k := fun a k x y z => by
      rw [hr3.1 a (fun w => w.elim x (fun w => w.elim y z))]
    refine q_ok ⟨I2, rfl, ⟨MTy_keep h1 ?_, MSh_keep h2 hC.1 ?_ (CSh_80 hC), MTb_keep h3 ?_, MNm_keep h4 ?_, MFn_keep h5 ?_, MV_keep h6 ?_, MKp_keep h7 ?_, MPr_keep h8 ?_, MTr_keep h9 ?_, ?_⟩, ?_, ?_⟩
    case refine_10 =>
      refine MHs_push h10 h20 hf ?_ ?_ (fun a u y1 y2 y3 => go a u (by omega) (by omega) (by omega) (by omega) (by omega)) (fun k y => go _ _ (by omega) (by omega) (by omega) (by omega) (by omega)) (fun k y1 y2 y3 => go _ _ (by omega) (by omega) (by omega) (by omega) (by omega)) (fun a k y1 y2 y3 y4 y5 => go _ _ (by omega) (by omega) (by omega) (by omega) (by omega)) ?_ (fun z => absurd z (by omega)) (fun _ => ⟨?_, ?_, hT⟩) (fun z => absurd z (by omega))
      · rw [g1 _ _ (by omega) (by omega) (by omega), e83]
      · rw [g1 _ _ (by omega) (by omega) (by omega), e84]
      · rw [g1 _ _ (by omega) (by omega) (by omega), e17]
        rfl
      · rw [g1 _ _ (by omega) (by omega) (by omega), e18]
      · rw [g1 _ _ (by omega) (by omega) (by omega), e19]
        exact hu
    case refine_11 =>
      intro a k y
      exact go a k (by omega) (by omega) (by omega) (by omega) (by omega)
    case refine_12 => exact go _ _ (by omega) (by omega) (by omega) (by omega) (by omega)
    case refine_6 =>
      intro k y1 y2
      exact go _ k (by omega) (by omega) (by omega) (by omega) (by omega)
    all_goals
      intro a k y
      exact go a k (by omega) (by omega) (by omega) (by omega) (by omega)
  unfold f_X12_noteValue
  rw [gr_4561_47 hR, ga_4599 hl, m1]
  by_cases z : n.1 l = 0
  · rw [if_pos z]
    exact j17 0 z.symm
  · rw [if_neg z]
    exact j17 1 (hv.resolve_left z).symm
theorem Ext_rfl {T : Nat} (h : T ≤ s.1) : Ext T s s := fun t ht => ⟨by omega, rfl, rfl, rfl⟩
theorem OKH_name {l : Nat} (H : OKH s b f h) (hm : h.1 ≤ 20) (hf : h.2.1 < 20) (hl : l < 26) (hv : n.1 l = 0 ∨ n.1 l = 1) : OKH s b f (hName h n l) :=
  OKH_push H hm hf (Ext_rfl (Nat.le_refl _)) (OKH_top H) (Or.inr (Or.inr (Or.inl ⟨rfl, rfl, rfl, rfl, hl, hv⟩)))
end OG
