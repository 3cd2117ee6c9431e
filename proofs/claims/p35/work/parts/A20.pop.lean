/-! the ring of changes with one less -/
def popH (h : GH) : GH := (h.1 - 1, h.2)
def lu (h : GH) : Nat := ru h (h.1 - 1)
theorem CHs_pop {I I' : Nat → Nat → Int32} {h : GH} (H : CHs I h) (e1 : I' 11 13 = (Int32.ofNat (h.2.1))) (e2 : I' 11 14 = (Int32.ofNat (h.1 - 1))) (e : ∀ x, (46 ≤ x ∧ x < 69) ∨ (440 ≤ x ∧ x < 540) → I' x = I x) : CHs I' (popH h) := by
  refine ⟨by have := H.1; show h.1 - 1 ≤ 20; omega, H.2.1, e1, e2, fun j hj => ?_⟩
  have hj' : j < h.1 - 1 := hj
  have l := ru_lt h j
  show I' 46 (ru h j) = (Int32.ofNat (h.2.2.1 (ru h j))) ∧ I' 47 (ru h j) = (Int32.ofNat (h.2.2.2.1 (ru h j))) ∧ (h.2.2.1 (ru h j) = 1 → ∀ k, k < 3 → I' (49 + ru h j) k = h.2.2.2.2.1 (ru h j) k) ∧ (h.2.2.1 (ru h j) = 2 → I' (49 + ru h j) 0 = h.2.2.2.2.1 (ru h j) 0 ∧ CV I' (440 + 5 * ru h j) (h.2.2.2.2.2 (ru h j))) ∧ (h.2.2.1 (ru h j) = 3 → ∀ k, k < 10 → I' (49 + ru h j) k = h.2.2.2.2.1 (ru h j) k)
  rw [e 46 (by omega), e 47 (by omega), e (49 + ru h j) (by omega)]
  obtain ⟨a1, a2, a3, a4, a5⟩ := H.2.2.2.2 j (by omega)
  exact ⟨a1, a2, a3, fun z => ⟨(a4 z).1, CV_keep (a4 z).2 (fun x h1 h2 => e x (by omega))⟩, a5⟩
