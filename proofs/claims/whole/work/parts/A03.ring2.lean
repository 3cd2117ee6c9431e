/-! the ring of changes: the reference's, and a note -/
theorem MHs_row {s : GS} {b : GB} {f : GF} {h : GH} (H : OKH s b f h) {j : Nat} (hj : j < h.1) (hk : h.2.2.1 (ru h j) = 3) : ∃ T, T ≤ s.1 ∧ FnOK T s.2.1 (h.2.2.2.2.1 (ru h j)) := by
  obtain ⟨hT, hB, hF, h0, h1, h2, h3, h4, h5⟩ := hT_mono H
  refine ⟨hT j, h0 j (by omega), ?_⟩
  rcases h5 j hj with z | z | z | ⟨-, -, -, z1, z2⟩
  · omega
  · omega
  · omega
  · have := (h4 j (by omega)).2.2 _ z1
    rw [z2] at this
    unfold upF at this
    rw [if_pos rfl] at this
    exact this
theorem MHs_ext {I : Nat → Nat → Int32} {s s' : GS} {b : GB} {f : GF} {h : GH} (H : MHs I s h) (HO : OKH s b f h) (hs : Ext s.1 s s') (h30 : s.1 ≤ 30) : MHs I s' h := by
  refine ⟨H.1, H.2.1, fun j hj => ?_⟩
  obtain ⟨a1, a2, a3, a4⟩ := H.2.2 j hj
  refine ⟨a1, a2, a3, fun z => ⟨(a4 z).1, ?_⟩⟩
  obtain ⟨T, t1, t2⟩ := MHs_row HO hj z
  exact FM_ext (a4 z).2 (fun t ht => hs t (by omega)) h30 t2 t1
theorem MHs_push {I I' : Nat → Nat → Int32} {s : GS} {h : GH} {kd ky : Nat} {row : Nat → Int32} {v : GV} (H : MHs I s h) (hm : h.1 ≤ 20) (hf : h.2.1 < 20) (e1 : I' 4561 83 = (Int32.ofNat (nf h))) (e2 : I' 4561 84 = (Int32.ofNat (nm h + 1))) (e3 : ∀ a u, 4617 ≤ a → a ≤ 4621 → u ≠ nu h → I' a u = I a u) (e4 : ∀ k, k / 8 ≠ nu h → I' 4622 k = I 4622 k) (e5 : ∀ k, 756 ≤ k → k < 1316 → k / 28 ≠ 27 + nu h → I' 4564 k = I 4564 k) (e6 : ∀ a k, 4565 ≤ a → a ≤ 4569 → 8640 ≤ k → k < 13440 → (k - 8640) / 240 ≠ nu h → I' a k = I a k) (n0 : I' 4617 (nu h) = (Int32.ofNat (kd))) (n1 : kd = 1 → (∃ p fx, p < 16 ∧ fx < 3 ∧ ky = fx * 16 + p ∧ I' 4618 (nu h) = (Int32.ofNat (3 * sgp p + fx))) ∧ I' 4619 (nu h) = row 0 ∧ I' 4620 (nu h) = row 1 ∧ I' 4621 (nu h) = row 2) (n2 : kd = 2 → I' 4618 (nu h) = (Int32.ofNat (ky)) ∧ I' 4619 (nu h) = row 0 ∧ MV I' (27 + nu h) v) (n3 : kd = 3 → I' 4618 (nu h) = (Int32.ofNat (ky)) ∧ FM I' s row (I' 4619 (nu h)) (I' 4620 (nu h)) (fun k => I' 4622 (8 * nu h + k)) (8640 + 240 * nu h)) : MHs I' s (pushH h kd ky row v) := by
  refine ⟨e1, e2, fun j hj => ?_⟩
  by_cases q : j < nm h
  · obtain ⟨r1, r2, r3⟩ := ru_old (kd := kd) (ky := ky) (row := row) (v := v) hm hf q
    have l := ru_lt h (j + so h)
    obtain ⟨a1, a2, a3, a4⟩ := H.2.2 _ r2
    have b3 : h.2.2.1 (ru h (j + so h)) = 2 → I 4618 (ru h (j + so h)) = (Int32.ofNat (h.2.2.2.1 (ru h (j + so h)))) ∧ I 4619 (ru h (j + so h)) = h.2.2.2.2.1 (ru h (j + so h)) 0 ∧ MV I' (27 + ru h (j + so h)) (h.2.2.2.2.2 (ru h (j + so h))) := by
      intro z
      obtain ⟨c1, c2, c3⟩ := a3 z
      refine ⟨c1, c2, MV_keep c3 ?_⟩
      intro k h1 h2
      clear n0 n1 n2 n3 e1 e2 e3 e4 e6 a1 a2 a3 a4 c1 c2 c3 z r1 H
      exact e5 k (by omega) (by omega) (by omega)
    have b4 : h.2.2.1 (ru h (j + so h)) = 3 → I 4618 (ru h (j + so h)) = (Int32.ofNat (h.2.2.2.1 (ru h (j + so h)))) ∧ FM I' s (h.2.2.2.2.1 (ru h (j + so h))) (I 4619 (ru h (j + so h))) (I 4620 (ru h (j + so h))) (fun k => I' 4622 (8 * ru h (j + so h) + k)) (8640 + 240 * ru h (j + so h)) := by
      intro z
      obtain ⟨c1, c2⟩ := a4 z
      refine ⟨c1, FM_keep c2 ?_ ?_⟩
      · intro a k h1 h2 h3 h4
        clear n0 n1 n2 n3 e1 e2 e3 e4 e5 a1 a2 a3 a4 c1 c2 z r1 H b3
        exact e6 a k h1 h2 (by omega) (by omega) (by omega)
      · intro k hk
        clear n0 n1 n2 n3 e1 e2 e3 e5 e6 a1 a2 a3 a4 c1 c2 z r1 H b3
        exact e4 _ (by omega)
    rw [r1]
    show I' 4617 _ = (Int32.ofNat (upN h.2.2.1 (nu h) kd _)) ∧ (upN h.2.2.1 (nu h) kd _ = 1 → (∃ p fx, p < 16 ∧ fx < 3 ∧ upN h.2.2.2.1 (nu h) ky _ = fx * 16 + p ∧ I' 4618 _ = (Int32.ofNat (3 * sgp p + fx))) ∧ I' 4619 _ = upN h.2.2.2.2.1 (nu h) row _ 0 ∧ I' 4620 _ = upN h.2.2.2.2.1 (nu h) row _ 1 ∧ I' 4621 _ = upN h.2.2.2.2.1 (nu h) row _ 2) ∧ (upN h.2.2.1 (nu h) kd _ = 2 → I' 4618 _ = (Int32.ofNat (upN h.2.2.2.1 (nu h) ky _)) ∧ I' 4619 _ = upN h.2.2.2.2.1 (nu h) row _ 0 ∧ MV I' _ (upN h.2.2.2.2.2 (nu h) v _)) ∧ (upN h.2.2.1 (nu h) kd _ = 3 → I' 4618 _ = (Int32.ofNat (upN h.2.2.2.1 (nu h) ky _)) ∧ FM I' s (upN h.2.2.2.2.1 (nu h) row _) _ _ _ _)
    rw [upN_n r3, upN_n r3, upN_n r3, upN_n r3, e3 4617 _ (by omega) (by omega) r3, e3 4618 _ (by omega) (by omega) r3, e3 4619 _ (by omega) (by omega) r3, e3 4620 _ (by omega) (by omega) r3, e3 4621 _ (by omega) (by omega) r3]
    exact ⟨a1, a2, b3, b4⟩
  · obtain rfl : j = nm h := by
      have : j < nm h + 1 := hj
      omega
    rw [ru_new]
    show I' 4617 _ = (Int32.ofNat (upN h.2.2.1 (nu h) kd _)) ∧ (upN h.2.2.1 (nu h) kd _ = 1 → (∃ p fx, p < 16 ∧ fx < 3 ∧ upN h.2.2.2.1 (nu h) ky _ = fx * 16 + p ∧ I' 4618 _ = (Int32.ofNat (3 * sgp p + fx))) ∧ I' 4619 _ = upN h.2.2.2.2.1 (nu h) row _ 0 ∧ I' 4620 _ = upN h.2.2.2.2.1 (nu h) row _ 1 ∧ I' 4621 _ = upN h.2.2.2.2.1 (nu h) row _ 2) ∧ (upN h.2.2.1 (nu h) kd _ = 2 → I' 4618 _ = (Int32.ofNat (upN h.2.2.2.1 (nu h) ky _)) ∧ I' 4619 _ = upN h.2.2.2.2.1 (nu h) row _ 0 ∧ MV I' _ (upN h.2.2.2.2.2 (nu h) v _)) ∧ (upN h.2.2.1 (nu h) kd _ = 3 → I' 4618 _ = (Int32.ofNat (upN h.2.2.2.1 (nu h) ky _)) ∧ FM I' s (upN h.2.2.2.2.1 (nu h) row _) _ _ _ _)
    rw [upN_s, upN_s, upN_s, upN_s]
    exact ⟨n0, n1, n2, n3⟩
theorem n_mod20 {a : Nat} (h : a < 40) : (Int32.ofNat (a)) - (Int32.ofNat (a)) / 20 * 20 = (Int32.ofNat (a % 20)) := i32_mod20 a h
section NT
variable {I : Nat → Nat → Int32} {J : Nat → Nat → Int64} {R : Nat → Nat → Option Nat} {h : GH} {s : GS} {β : Type}
theorem C_note {kd ky : Nat} (hR : RA R) (h20 : h.1 ≤ 20) (hf : h.2.1 < 20) (e13 : I 11 13 = (Int32.ofNat (h.2.1))) (e14 : I 11 14 = (Int32.ofNat (h.1))) : QK (f_X1_note (mg 4625 I J R) 11 (Int32.ofNat (kd)) (Int32.ofNat (ky))) (fun r => ∃ I', r = ((Int32.ofNat (nu h)), mg 4625 I' J R) ∧ FrK (fun a k => (a = 11 ∧ (k = 13 ∨ k = 14)) ∨ ((a = 46 ∨ a = 47) ∧ k = nu h)) I I' ∧ I' 11 13 = (Int32.ofNat (nf h)) ∧ I' 11 14 = (Int32.ofNat (nm h + 1)) ∧ I' 46 (nu h) = (Int32.ofNat (kd)) ∧ I' 47 (nu h) = (Int32.ofNat (ky))) := by
  have fl := nf_lt hf
  have ml := nm_lt20 h
  have ul := nu_lt h
  have j32 : ∀ I1 : Nat → Nat → Int32, FrK (fun a k => (a = 11 ∧ (k = 13 ∨ k = 14)) ∨ ((a = 46 ∨ a = 47) ∧ k = nu h)) I I1 → I1 11 13 = (Int32.ofNat (nf h)) → I1 11 14 = (Int32.ofNat (nm h)) → QK (f_X1_note_j32 (mg 4625 I1 J R) 11 (Int32.ofNat (kd)) (Int32.ofNat (ky))) (fun r => ∃ I', r = ((Int32.ofNat (nu h)), mg 4625 I' J R) ∧ FrK (fun a k => (a = 11 ∧ (k = 13 ∨ k = 14)) ∨ ((a = 46 ∨ a = 47) ∧ k = nu h)) I I' ∧ I' 11 13 = (Int32.ofNat (nf h)) ∧ I' 11 14 = (Int32.ofNat (nm h + 1)) ∧ I' 46 (nu h) = (Int32.ofNat (kd)) ∧ I' 47 (nu h) = (Int32.ofNat (ky))) := by
    intro I1 hF g1 g2
    unfold f_X1_note_j32
    rw [gi_11, gi_11, g1, g2, n_add, n_mod20 (by omega), q_let, show (nf h + nm h) % 20 = nu h from rfl, gr_11_9 hR, gw_46 (by omega), gr_11_10 hR, gw_47 (by omega), gi_11, up_n (by omega), up_n (by omega), g2, gs_11]
    refine q_ok ⟨_, rfl, FrK_up (FrK_up (FrK_up hF (Or.inr ⟨Or.inl rfl, rfl⟩)) (Or.inr ⟨Or.inr rfl, rfl⟩)) (Or.inl ⟨rfl, Or.inr rfl⟩), ?_, ?_, ?_, ?_⟩
    · rw [up_n (by omega), up_n (by omega), up_n (by omega), g1]
    · rw [up_s]
      exact n_add (nm h) 1
    · rw [up_n (by omega), up_n (by omega), up_s]
    · rw [up_n (by omega), up_s]
  unfold f_X1_note
  rw [gi_11, e14]
  by_cases q : h.1 < 20
  · rw [if_pos (show (Int32.ofNat (h.1)) < (20 : Int32) from (i32_lt (m := 20) (by omega) (by omega)).mpr q)]
    refine j32 I FrK_rfl ?_ ?_
    · rw [e13]
      unfold nf
      rw [if_pos q]
    · rw [e14]
      unfold nm
      rw [if_pos q]
  · rw [if_neg (show ¬ (Int32.ofNat (h.1)) < (20 : Int32) from fun z => q ((i32_lt (m := 20) (by omega) (by omega)).mp z)), gi_11, e13, show (Int32.ofNat (h.2.1)) + 1 = (Int32.ofNat (h.2.1 + 1)) from n_add h.2.1 1, n_mod20 (by omega), gs_11, gi_11, up_n (by omega), e14, gs_11]
    refine j32 _ (FrK_up (FrK_up FrK_rfl (Or.inl ⟨rfl, Or.inl rfl⟩)) (Or.inl ⟨rfl, Or.inr rfl⟩)) ?_ ?_
    · rw [up_n (by omega), up_s]
      unfold nf
      rw [if_neg q]
    · rw [up_s, show (Int32.ofNat (h.1)) - 1 = (Int32.ofNat (h.1 - 1)) from n_sub (a := h.1) (b := 1) (by omega)]
      unfold nm
      rw [if_neg q, show h.1 - 1 = 19 by omega]
def Snt (h : GH) : Nat → Nat → Prop := fun a k => (a = 4561 ∧ (k = 83 ∨ k = 84)) ∨ ((4617 ≤ a ∧ a ≤ 4621) ∧ k = nu h)
theorem M_note {a1 a2 a3 a4 a5 : Int32} (hR : RA R) (e13 : I 4561 83 = (Int32.ofNat (h.2.1))) (e14 : I 4561 84 = (Int32.ofNat (h.1))) (h20 : h.1 ≤ 20) (hf : h.2.1 < 20) : QK (f_X12_note (mg 4625 I J R) 4561 a1 a2 a3 a4 a5) (fun r => ∃ I', r = ((Int32.ofNat (nu h)), mg 4625 I' J R) ∧ FrK (Snt h) I I' ∧ I' 4561 83 = (Int32.ofNat (nf h)) ∧ I' 4561 84 = (Int32.ofNat (nm h + 1)) ∧ I' 4617 (nu h) = a1 ∧ I' 4618 (nu h) = a2 ∧ I' 4619 (nu h) = a3 ∧ I' 4620 (nu h) = a4 ∧ I' 4621 (nu h) = a5) := by
  have fl := nf_lt hf
  have ml := nm_lt20 h
  have ul := nu_lt h
  have j32 : ∀ I1 : Nat → Nat → Int32, FrK (Snt h) I I1 → I1 4561 83 = (Int32.ofNat (nf h)) → I1 4561 84 = (Int32.ofNat (nm h)) → QK (f_X12_note_j32 (mg 4625 I1 J R) 4561 a1 a2 a3 a4 a5) (fun r => ∃ I', r = ((Int32.ofNat (nu h)), mg 4625 I' J R) ∧ FrK (Snt h) I I' ∧ I' 4561 83 = (Int32.ofNat (nf h)) ∧ I' 4561 84 = (Int32.ofNat (nm h + 1)) ∧ I' 4617 (nu h) = a1 ∧ I' 4618 (nu h) = a2 ∧ I' 4619 (nu h) = a3 ∧ I' 4620 (nu h) = a4 ∧ I' 4621 (nu h) = a5) := by
    intro I1 hF g1 g2
    unfold f_X12_note_j32
    rw [gi_4561, gi_4561, g1, g2, n_add, n_mod20 (by omega), q_let, show (nf h + nm h) % 20 = nu h from rfl, gr_4561_77 hR, gw_4617 (by omega), gr_4561_78 hR, gw_4618 (by omega), gr_4561_79 hR, gw_4619 (by omega), gr_4561_80 hR, gw_4620 (by omega), gr_4561_81 hR, gw_4621 (by omega), gi_4561, up_n (by omega), up_n (by omega), up_n (by omega), up_n (by omega), up_n (by omega), g2, gs_4561]
    refine q_ok ⟨_, rfl, ?_, ?_, ?_, ?_, ?_, ?_, ?_, ?_⟩
    · refine FrK_up (FrK_up (FrK_up (FrK_up (FrK_up (FrK_up hF ?_) ?_) ?_) ?_) ?_) ?_ <;> (unfold Snt; omega)
    · rw [up_n (by omega), up_n (by omega), up_n (by omega), up_n (by omega), up_n (by omega), up_n (by omega), g1]
    · rw [up_s]
      exact n_add (nm h) 1
    · rw [up_n (by omega), up_n (by omega), up_n (by omega), up_n (by omega), up_n (by omega), up_s]
    · rw [up_n (by omega), up_n (by omega), up_n (by omega), up_n (by omega), up_s]
    · rw [up_n (by omega), up_n (by omega), up_n (by omega), up_s]
    · rw [up_n (by omega), up_n (by omega), up_s]
    · rw [up_n (by omega), up_s]
  unfold f_X12_note
  rw [gi_4561, e14]
  by_cases q : h.1 < 20
  · rw [if_neg (show ¬ (Int32.ofNat (h.1)) = (20 : Int32) from fun z => absurd ((i32_eq (m := 20) (by omega) (by omega)).mp z) (by omega))]
    refine j32 I FrK_rfl ?_ ?_
    · rw [e13]
      unfold nf
      rw [if_pos q]
    · rw [e14]
      unfold nm
      rw [if_pos q]
  · rw [if_pos (show (Int32.ofNat (h.1)) = (20 : Int32) from by rw [show h.1 = 20 by omega]; rfl), gi_4561, e13, show (Int32.ofNat (h.2.1)) + 1 = (Int32.ofNat (h.2.1 + 1)) from n_add h.2.1 1, n_mod20 (by omega), gs_4561, gi_4561, up_n (by omega), e14, gs_4561]
    refine j32 _ (FrK_up (FrK_up FrK_rfl ?_) ?_) ?_ ?_
    · unfold Snt; omega
    · unfold Snt; omega
    · rw [up_n (by omega), up_s]
      unfold nf
      rw [if_neg q]
    · rw [up_s, show (Int32.ofNat (h.1)) - 1 = (Int32.ofNat (h.1 - 1)) from n_sub (a := h.1) (b := 1) (by omega)]
      unfold nm
      rw [if_neg q, show h.1 - 1 = 19 by omega]
end NT
