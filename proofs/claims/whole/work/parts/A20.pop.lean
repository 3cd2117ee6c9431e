/-! the ring of changes with one less -/
def popH (h : GH) : GH := (h.1 - 1, h.2)
def lu (h : GH) : Nat := ru h (h.1 - 1)
theorem OKH_pop {s : GS} {b : GB} {f : GF} {h : GH} (H : OKH s b f h) (h0 : 0 < h.1) : (h.2.2.1 (lu h) = 0 ∧ ∃ T, s.1 = T + 1 ∧ OKH (T, s.2) b f (popH h)) ∨ (h.2.2.1 (lu h) = 1 ∧ h.2.2.2.1 (lu h) < 48 ∧ OKH s (upB b (h.2.2.2.1 (lu h)) (h.2.2.2.2.1 (lu h) 0, h.2.2.2.2.1 (lu h) 1, h.2.2.2.2.1 (lu h) 2)) f (popH h)) ∨ (h.2.2.1 (lu h) = 2 ∧ h.2.2.2.1 (lu h) < 26 ∧ (h.2.2.2.2.1 (lu h) 0 = 0 ∨ h.2.2.2.2.1 (lu h) 0 = 1) ∧ OKH s b f (popH h)) ∨ (h.2.2.1 (lu h) = 3 ∧ h.2.2.2.1 (lu h) < 26 ∧ OKH s b (upF f (h.2.2.2.1 (lu h)) (h.2.2.2.2.1 (lu h))) (popH h)) := by
  obtain ⟨hT, hB, hF, h1, h2, h3, h4, h5⟩ := H
  obtain ⟨k, hk⟩ : ∃ k, h.1 = k + 1 := ⟨h.1 - 1, by omega⟩
  have el : lu h = ru h k := by
    unfold lu
    rw [hk]
    rfl
  have ep : (popH h).1 = k := by
    show h.1 - 1 = k
    omega
  rw [hk] at h1 h2 h3
  rw [el]
  have rest : ∀ (s' : GS) (b' : GB) (f' : GF), s'.2 = s.2 → hT k = s'.1 → hB k = b' → hF k = f' → OKH s' b' f' (popH h) := by
    intro s' b' f' es e1 e2 e3
    refine ⟨hT, hB, hF, by rw [ep]; exact e1, by rw [ep]; exact e2, by rw [ep]; exact e3, fun j hj => ?_, fun j hj => h5 j (by rw [ep] at hj; omega)⟩
    have := h4 j (by rw [ep] at hj; omega)
    unfold StOK at this ⊢
    rw [es]
    exact this
  rcases h5 k (by omega) with ⟨z, z1, z2, z3⟩ | ⟨z, z1, z2, z3, z4⟩ | ⟨z, z1, z2, z3, z4, z5⟩ | ⟨z, z1, z2, z3, z4⟩
  · exact Or.inl ⟨z, hT k, by omega, rest (hT k, s.2) b f rfl rfl (z2.symm.trans h2) (z3.symm.trans h3)⟩
  · exact Or.inr (Or.inl ⟨z, z3, rest s _ f rfl (by omega) (by rw [z4, h2]) (z2.symm.trans h3)⟩)
  · exact Or.inr (Or.inr (Or.inl ⟨z, z4, z5, rest s b f rfl (by omega) (z2.symm.trans h2) (z3.symm.trans h3)⟩))
  · exact Or.inr (Or.inr (Or.inr ⟨z, z3, rest s b _ rfl (by omega) (z2.symm.trans h2) (by rw [z4, h3])⟩))
theorem CHs_pop {I I' : Nat → Nat → Int32} {h : GH} (H : CHs I h) (e1 : I' 11 13 = (Int32.ofNat (h.2.1))) (e2 : I' 11 14 = (Int32.ofNat (h.1 - 1))) (e : ∀ x, (46 ≤ x ∧ x < 69) ∨ (440 ≤ x ∧ x < 540) → I' x = I x) : CHs I' (popH h) := by
  refine ⟨by have := H.1; show h.1 - 1 ≤ 20; omega, H.2.1, e1, e2, fun j hj => ?_⟩
  have hj' : j < h.1 - 1 := hj
  have l := ru_lt h j
  show I' 46 (ru h j) = (Int32.ofNat (h.2.2.1 (ru h j))) ∧ I' 47 (ru h j) = (Int32.ofNat (h.2.2.2.1 (ru h j))) ∧ (h.2.2.1 (ru h j) = 1 → ∀ k, k < 3 → I' (49 + ru h j) k = h.2.2.2.2.1 (ru h j) k) ∧ (h.2.2.1 (ru h j) = 2 → I' (49 + ru h j) 0 = h.2.2.2.2.1 (ru h j) 0 ∧ CV I' (440 + 5 * ru h j) (h.2.2.2.2.2 (ru h j))) ∧ (h.2.2.1 (ru h j) = 3 → ∀ k, k < 10 → I' (49 + ru h j) k = h.2.2.2.2.1 (ru h j) k)
  rw [e 46 (by omega), e 47 (by omega), e (49 + ru h j) (by omega)]
  obtain ⟨a1, a2, a3, a4, a5⟩ := H.2.2.2.2 j (by omega)
  exact ⟨a1, a2, a3, fun z => ⟨(a4 z).1, CV_keep (a4 z).2 (fun x h1 h2 => e x (by omega))⟩, a5⟩
theorem MHs_pop {I : Nat → Nat → Int32} {s : GS} {h : GH} (H : MHs I s h) {I' : Nat → Nat → Int32} (e1 : I' 4561 83 = (Int32.ofNat (h.2.1))) (e2 : I' 4561 84 = (Int32.ofNat (h.1 - 1))) (e : ∀ a k, (4617 ≤ a ∧ a ≤ 4622) ∨ (a = 4564 ∧ 756 ≤ k ∧ k < 1316) ∨ (4565 ≤ a ∧ a ≤ 4569 ∧ 8640 ≤ k ∧ k < 13440) → I' a k = I a k) : MHs I' s (popH h) := by
  have K := MHs_keep (I' := fun a k => if a = 4561 ∧ (k = 83 ∨ k = 84) then I a k else I' a k) H (fun a k g => by
    by_cases z : a = 4561 ∧ (k = 83 ∨ k = 84)
    · exact if_pos z
    · exact (if_neg z).trans (e a k (by omega)))
  have K2 : ∀ a, a ≠ 4561 → (fun k => if a = 4561 ∧ (k = 83 ∨ k = 84) then I a k else I' a k) = I' a := fun a ha => funext (fun k => if_neg (fun z => ha z.1))
  refine ⟨e1, e2, fun j hj => ?_⟩
  have hj' : j < h.1 - 1 := hj
  have l := ru_lt h j
  have a := H.2.2 j (by omega)
  rw [show ru (popH h) j = ru h j from rfl]
  rw [e 4617 _ (by omega), e 4618 _ (by omega), e 4619 _ (by omega), e 4620 _ (by omega), e 4621 _ (by omega)]
  obtain ⟨a1, a2, a3, a4⟩ := a
  refine ⟨a1, a2, fun z => ⟨(a3 z).1, (a3 z).2.1, ?_⟩, fun z => ⟨(a4 z).1, ?_⟩⟩
  · have c := (a3 z).2.2
    clear a3 a4 K K2
    exact MV_keep c (fun k h1 h2 => e _ _ (by omega))
  · have c := (a4 z).2
    clear a3 a4 K K2
    exact FM_keep c (fun a k h1 h2 h3 h4 => e a k (by omega)) (fun k hk => e _ _ (by omega))
