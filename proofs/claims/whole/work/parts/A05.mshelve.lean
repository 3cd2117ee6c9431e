/-! the reference shelves -/
section SM
variable {I : Nat → Nat → Int32} {J : Nat → Nat → Int64} {R : Nat → Nat → Option Nat} {t : GT} {s : GS} {b : GB} {n : GN} {f : GF} {v : GV} {q : Nat → GV} {p : GT} {r : GR} {h : GH} {β : Type}
theorem OKH_top (HO : OKH s b f h) : StOK s s.1 b f := by
  obtain ⟨hT, hB, hF, h1, h2, h3, h4, -⟩ := HO
  have := h4 h.1 (Nat.le_refl _)
  rw [h1, h2, h3] at this
  exact this
theorem M_shelf {k : Nat} {F : Int32 → Option β} {σ : xM} : (f_X12_shelf σ (Int32.ofNat (k))).bind F = F (Int32.ofNat (80 * k)) := by
  unfold f_X12_shelf
  rw [show (80 : Int32) * (Int32.ofNat (k)) = (Int32.ofNat (80 * k)) from n_mul 80 k]
  rfl
theorem M_shelve {fr m : Nat} {nd : Nat → Nd} {sp : Nat → Nat} (hR : RA R) (H : InvM I t s b n f v q p r h) (HO : OKH s b f h) (h20 : h.1 ≤ 20) (hf : h.2.1 < 20) (hN : MN I fr m nd) (hW : WT m (aro nd) sp) (h30 : s.1 < 30) (h80 : ∀ t, t < s.1 → s.2.1 t ≤ 80) (hm : m ≤ 80) (hd : 2400 ≤ fr ∨ fr + m ≤ 80 * s.1) : QK (f_X12_shelve (mg 4625 I J R) 4561 (Int32.ofNat (fr)) (Int32.ofNat (m))) (fun x => ∃ I', x = ((Int32.ofNat (s.1)), mg 4625 I' J R) ∧ InvM I' t (sPush s m nd sp) b n f v q p r (hShelf h) ∧ (∀ a k, a < 4561 → I' a k = I a k) ∧ I' 4561 0 = I 4561 0) := by
  obtain ⟨h1, h2, h3, h4, h5, h6, h7, h8, h9, h10⟩ := H
  have e10 := h2.1
  have ul := nu_lt h
  unfold f_X12_shelve
  rw [gi_4561, e10, M_shelf, if_pos ok_4561]
  refine q_bind (M_copyNodes hR (by omega) hN.1 (by omega)) ?_
  rintro x ⟨I1, rfl, hF1, hC1⟩
  have f1 : ∀ a k, ¬ (4565 ≤ a ∧ a ≤ 4569) → I1 a k = I a k := fun a k z => hF1 a k (fun y => by unfold Sm at y; omega)
  rw [gr_4561_9 hR, gi_4561, f1 4561 10 (by omega), e10, gw_4570 (by omega), gi_4561, up_n (by omega), f1 4561 10 (by omega), e10, M_shelf, if_pos ok_4561]
  have hM2 : MN (up I1 4570 s.1 (Int32.ofNat (m))) (80 * s.1) m nd := by
    refine ⟨by omega, fun i hi => ?_⟩
    rw [up_n (by omega), up_n (by omega), up_n (by omega), up_n (by omega), hC1 4565 i (by omega) (by omega) hi, hC1 4566 i (by omega) (by omega) hi, hC1 4567 i (by omega) (by omega) hi, hC1 4568 i (by omega) (by omega) hi]
    exact hN.2 i hi
  refine q_bind (M_span hR hM2 hW) ?_
  rintro x ⟨I3, rfl, hF3, hC3⟩
  have f3 : ∀ a k, ¬ (4565 ≤ a ∧ a ≤ 4569) → ¬ (a = 4570 ∧ k = s.1) → I3 a k = I a k := fun a k z y => by
    rw [hF3 a k (fun w => by omega), up_n (by omega), f1 a k z]
  rw [gi_4561, f3 4561 10 (by omega) (by omega), e10, show (Int32.ofNat (s.1)) + 1 = (Int32.ofNat (s.1 + 1)) from n_add s.1 1, gs_4561, if_pos ok_4561]
  refine q_bind (M_note (h := h) hR (by rw [up_n (by omega), f3 _ _ (by omega) (by omega)]; exact h10.1) (by rw [up_n (by omega), f3 _ _ (by omega) (by omega)]; exact h10.2.1) h20 hf) ?_
  rintro x ⟨I5, rfl, hF5, e83, e84, e17, e18, e19, e20, e21⟩
  have go : ∀ a k, ¬ (4565 ≤ a ∧ a ≤ 4569 ∧ 80 * s.1 ≤ k ∧ k < 80 * s.1 + m) → ¬ (a = 4570 ∧ k = s.1) → ¬ (a = 4561 ∧ (k = 10 ∨ k = 83 ∨ k = 84)) → ¬ (4617 ≤ a ∧ a ≤ 4621 ∧ k = nu h) → I5 a k = I a k := fun a k z1 z2 z3 z4 => by
    rw [hF5 a k (fun w => by unfold Snt at w; omega), up_n (by omega), hF3 a k (fun w => by omega), up_n (by omega), hF1 a k (fun w => by unfold Sm at w; omega)]
  have g10 : I5 4561 10 = (Int32.ofNat (s.1 + 1)) := by rw [hF5 4561 10 (fun w => by unfold Snt at w; omega), up_s]
  rw [gi_4561, g10, show (Int32.ofNat (s.1 + 1)) - 1 = (Int32.ofNat (s.1)) from n_sub (a := s.1 + 1) (b := 1) (by omega)]
  refine q_ok ⟨I5, rfl, ⟨MTy_keep h1 ?_, ?_, MTb_keep h3 ?_, MNm_keep h4 ?_, ?_, MV_keep h6 ?_, MKp_keep h7 ?_, MPr_keep h8 ?_, MTr_keep h9 ?_, ?_⟩, ?_, ?_⟩
  case refine_2 =>
    refine ⟨g10, fun k hk => ?_⟩
    have hk' : k < s.1 + 1 := hk
    show I5 4570 k = (Int32.ofNat (upN s.2.1 s.1 m k)) ∧ MT I5 (80 * k) (upN s.2.1 s.1 m k) (upN s.2.2.1 s.1 nd k) (upN s.2.2.2 s.1 sp k)
    by_cases z : k = s.1
    · subst z
      rw [upN_s, upN_s, upN_s]
      refine ⟨?_, MT_keep hC3 (fun a k g1 g2 g3 g4 => ?_)⟩
      · rw [hF5 4570 _ (fun w => by unfold Snt at w; omega), up_n (by omega), hF3 4570 _ (fun w => by omega), up_s]
      · rw [hF5 a k (fun w => by unfold Snt at w; omega), up_n (by omega)]
    · rw [upN_n z, upN_n z, upN_n z]
      have := h80 k (by omega)
      refine ⟨(go _ _ (by omega) (by omega) (by omega) (by omega)).trans (h2.2 k (by omega)).1, MT_keep (h2.2 k (by omega)).2 (fun a x g1 g2 g3 g4 => go a x (by omega) (by omega) (by omega) (by omega))⟩
  case refine_5 =>
    have K := MFn_keep h5 (I' := I5) (fun a k g => go a k (by omega) (by omega) (by omega) (by omega))
    intro l hl
    exact FM_ext (K l hl) Ext_push (by omega) ((OKH_top HO).2.2 l hl) (Nat.le_refl _)
  case refine_10 =>
    refine MHs_push (MHs_ext h10 HO Ext_push (by omega)) h20 hf e83 e84 (fun a u g1 g2 g3 => go a u (by omega) (by omega) (by omega) (by omega)) (fun k g => go _ _ (by omega) (by omega) (by omega) (by omega)) (fun k g1 g2 g3 => go _ _ (by omega) (by omega) (by omega) (by omega)) (fun a k g1 g2 g3 g4 g5 => go _ _ (by omega) (by omega) (by omega) (by omega)) e17 (fun z => absurd z (by omega)) (fun z => absurd z (by omega)) (fun z => absurd z (by omega))
  case refine_11 =>
    intro a k g
    exact go a k (by omega) (by omega) (by omega) (by omega)
  case refine_12 => exact go _ _ (by omega) (by omega) (by omega) (by omega)
  case refine_6 =>
    intro k g1 g2
    exact go _ k (by omega) (by omega) (by omega) (by omega)
  all_goals
    intro a k g
    exact go a k (by omega) (by omega) (by omega) (by omega)
end SM
