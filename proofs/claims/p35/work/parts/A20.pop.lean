/-! the ring of changes with one less -/
def popH (h : GH) : GH := (h.1 - 1, h.2)
def lu (h : GH) : Nat := ru h (h.1 - 1)
theorem OKH_pop {s : GS} {b : GB} {f : GF} {h : GH} (H : OKH s b f h) (h0 : 0 < h.1) : (h.2.2.1 (lu h) = 0 ∧ ∃ T, s.1 = T + 1 ∧ OKH (T, s.2) b f (popH h)) ∨ (h.2.2.1 (lu h) = 1 ∧ h.2.2.2.1 (lu h) < 48 ∧ OKH s (upB b (h.2.2.2.1 (lu h)) (h.2.2.2.2.1 (lu h) 0, h.2.2.2.2.1 (lu h) 1, h.2.2.2.2.1 (lu h) 2)) f (popH h)) ∨ (h.2.2.1 (lu h) = 2 ∧ h.2.2.2.1 (lu h) < 26 ∧ (h.2.2.2.2.1 (lu h) 0 = 0 ∨ h.2.2.2.2.1 (lu h) 0 = 1) ∧ OKH s b f (popH h)) ∨ (h.2.2.1 (lu h) = 3 ∧ h.2.2.2.1 (lu h) < 26 ∧ OKH s b (upF f (h.2.2.2.1 (lu h)) (h.2.2.2.2.1 (lu h))) (popH h)) := by
  obtain ⟨hT, hB, hF, h1, h2, h3, h4, h5⟩ := H
  obtain ⟨k, hk⟩ : ∃ k, h.1 = k + 1 := ⟨h.1 - 1, by omega⟩
  have el : lu h = ru h k := by
    unfold lu
    rw [hk]
    rfl
  have ep : (popH h).1 = k := by
    show h.1 - 1 = k
    omega
  rw [hk] at h1 h2 h3
  rw [el]
  have rest : ∀ (s' : GS) (b' : GB) (f' : GF), s'.2 = s.2 → hT k = s'.1 → hB k = b' → hF k = f' → OKH s' b' f' (popH h) := by
    intro s' b' f' es e1 e2 e3
    refine ⟨hT, hB, hF, by rw [ep]; exact e1, by rw [ep]; exact e2, by rw [ep]; exact e3, fun j hj => ?_, fun j hj => h5 j (by rw [ep] at hj; omega)⟩
    have := h4 j (by rw [ep] at hj; omega)
    unfold StOK at this ⊢
    rw [es]
    exact this
  rcases h5 k (by omega) with ⟨z, z1, z2, z3⟩ | ⟨z, z1, z2, z3, z4⟩ | ⟨z, z1, z2, z3, z4, z5⟩ | ⟨z, z1, z2, z3, z4⟩
  · exact Or.inl ⟨z, hT k, by omega, rest (hT k, s.2) b f rfl rfl (z2.symm.trans h2) (z3.symm.trans h3)⟩
  · exact Or.inr (Or.inl ⟨z, z3, rest s _ f rfl (by omega) (by rw [z4, h2]) (z2.symm.trans h3)⟩)
  · exact Or.inr (Or.inr (Or.inl ⟨z, z4, z5, rest s b f rfl (by omega) (z2.symm.trans h2) (z3.symm.trans h3)⟩))
  · exact Or.inr (Or.inr (Or.inr ⟨z, z3, rest s b _ rfl (by omega) (z2.symm.trans h2) (by rw [z4, h3])⟩))
theorem CHs_pop {I I' : Nat → Nat → Int32} {h : GH} (H : CHs I h) (e1 : I' 11 13 = (Int32.ofNat (h.2.1))) (e2 : I' 11 14 = (Int32.ofNat (h.1 - 1))) (e : ∀ x, (46 ≤ x ∧ x < 69) ∨ (440 ≤ x ∧ x < 540) → I' x = I x) : CHs I' (popH h) := by
  refine ⟨by have := H.1; show h.1 - 1 ≤ 20; omega, H.2.1, e1, e2, fun j hj => ?_⟩
  have hj' : j < h.1 - 1 := hj
  have l := ru_lt h j
  show I' 46 (ru h j) = (Int32.ofNat (h.2.2.1 (ru h j))) ∧ I' 47 (ru h j) = (Int32.ofNat (h.2.2.2.1 (ru h j))) ∧ (h.2.2.1 (ru h j) = 1 → ∀ k, k < 3 → I' (49 + ru h j) k = h.2.2.2.2.1 (ru h j) k) ∧ (h.2.2.1 (ru h j) = 2 → I' (49 + ru h j) 0 = h.2.2.2.2.1 (ru h j) 0 ∧ CV I' (440 + 5 * ru h j) (h.2.2.2.2.2 (ru h j))) ∧ (h.2.2.1 (ru h j) = 3 → ∀ k, k < 10 → I' (49 + ru h j) k = h.2.2.2.2.1 (ru h j) k)
  rw [e 46 (by omega), e 47 (by omega), e (49 + ru h j) (by omega)]
  obtain ⟨a1, a2, a3, a4, a5⟩ := H.2.2.2.2 j (by omega)
  exact ⟨a1, a2, a3, fun z => ⟨(a4 z).1, CV_keep (a4 z).2 (fun x h1 h2 => e x (by omega))⟩, a5⟩
