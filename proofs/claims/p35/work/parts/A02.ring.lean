/-! the ring of changes -/
def nf (h : GH) : Nat := if h.1 < 20 then h.2.1 else (h.2.1 + 1) % 20
def nm (h : GH) : Nat := if h.1 < 20 then h.1 else 19
def nu (h : GH) : Nat := (nf h + nm h) % 20
def so (h : GH) : Nat := if h.1 < 20 then 0 else 1
def upN {α : Type} (f : Nat → α) (x : Nat) (v : α) : Nat → α := fun y => if y = x then v else f y
theorem upN_s {α : Type} {f : Nat → α} {x : Nat} {v : α} : upN f x v x = v := if_pos rfl
theorem upN_n {α : Type} {f : Nat → α} {x y : Nat} {v : α} (h : y ≠ x) : upN f x v y = f y := if_neg h
def pushH (h : GH) (kd ky : Nat) (row : Nat → Int32) (v : GV) : GH := (nm h + 1, nf h, upN h.2.2.1 (nu h) kd, upN h.2.2.2.1 (nu h) ky, upN h.2.2.2.2.1 (nu h) row, upN h.2.2.2.2.2 (nu h) v)
theorem nu_lt (h : GH) : nu h < 20 := Nat.mod_lt _ (by first | decide | omega)
theorem nf_lt {h : GH} (hf : h.2.1 < 20) : nf h < 20 := by
  unfold nf
  split
  · exact hf
  · exact Nat.mod_lt _ (by first | decide | omega)
theorem nm_lt20 (h : GH) : nm h < 20 := by
  unfold nm
  split <;> omega
theorem ru_old {h : GH} {kd ky : Nat} {row : Nat → Int32} {v : GV} (hm : h.1 ≤ 20) (hf : h.2.1 < 20) {j : Nat} (hj : j < nm h) : ru (pushH h kd ky row v) j = ru h (j + so h) ∧ j + so h < h.1 ∧ ru h (j + so h) ≠ nu h := by
  show (nf h + j) % 20 = _ ∧ _ ∧ _
  unfold ru nu nf nm so at *
  by_cases q : h.1 < 20
  · rw [if_pos q] at hj ⊢
    rw [if_pos q, if_pos q]
    refine ⟨by omega, by omega, by omega⟩
  · rw [if_neg q] at hj ⊢
    rw [if_neg q, if_neg q]
    refine ⟨by omega, by omega, by omega⟩
theorem ru_new {h : GH} {kd ky : Nat} {row : Nat → Int32} {v : GV} : ru (pushH h kd ky row v) (nm h) = nu h := rfl
theorem CHs_push {I I' : Nat → Nat → Int32} {h : GH} {kd ky : Nat} {row : Nat → Int32} {v : GV} (H : CHs I h) (e1 : I' 11 13 = (Int32.ofNat (nf h))) (e2 : I' 11 14 = (Int32.ofNat (nm h + 1))) (e3 : ∀ u, u ≠ nu h → I' 46 u = I 46 u) (e3' : I' 46 (nu h) = (Int32.ofNat (kd))) (e4 : ∀ u, u ≠ nu h → I' 47 u = I 47 u) (e4' : I' 47 (nu h) = (Int32.ofNat (ky))) (e5 : ∀ u, u < 20 → u ≠ nu h → I' (49 + u) = I (49 + u)) (e6 : ∀ x, 440 ≤ x → x < 540 → (x - 440) / 5 ≠ nu h → I' x = I x) (n1 : kd = 1 → ∀ k, k < 3 → I' (49 + nu h) k = row k) (n2 : kd = 2 → I' (49 + nu h) 0 = row 0 ∧ CV I' (440 + 5 * nu h) v) (n3 : kd = 3 → ∀ k, k < 10 → I' (49 + nu h) k = row k) : CHs I' (pushH h kd ky row v) := by
  refine ⟨by have := nm_lt20 h; show nm h + 1 ≤ 20; omega, nf_lt H.2.1, e1, e2, fun j hj => ?_⟩
  by_cases q : j < nm h
  · obtain ⟨r1, r2, r3⟩ := ru_old (kd := kd) (ky := ky) (row := row) (v := v) H.1 H.2.1 q
    have l := ru_lt h (j + so h)
    rw [r1]
    show I' 46 _ = (Int32.ofNat (upN h.2.2.1 (nu h) kd _)) ∧ I' 47 _ = (Int32.ofNat (upN h.2.2.2.1 (nu h) ky _)) ∧ (upN h.2.2.1 (nu h) kd _ = 1 → ∀ k, k < 3 → I' _ k = upN h.2.2.2.2.1 (nu h) row _ k) ∧ (upN h.2.2.1 (nu h) kd _ = 2 → I' _ 0 = upN h.2.2.2.2.1 (nu h) row _ 0 ∧ CV I' _ (upN h.2.2.2.2.2 (nu h) v _)) ∧ (upN h.2.2.1 (nu h) kd _ = 3 → ∀ k, k < 10 → I' _ k = upN h.2.2.2.2.1 (nu h) row _ k)
    rw [upN_n r3, upN_n r3, upN_n r3, upN_n r3, e3 _ r3, e4 _ r3, e5 _ l r3]
    obtain ⟨a1, a2, a3, a4, a5⟩ := H.2.2.2.2 _ r2
    exact ⟨a1, a2, a3, fun z => ⟨(a4 z).1, CV_keep (a4 z).2 (fun x h1 h2 => e6 x (by omega) (by omega) (by omega))⟩, a5⟩
  · obtain rfl : j = nm h := by
      have : j < nm h + 1 := hj
      omega
    rw [ru_new]
    show I' 46 _ = (Int32.ofNat (upN h.2.2.1 (nu h) kd _)) ∧ I' 47 _ = (Int32.ofNat (upN h.2.2.2.1 (nu h) ky _)) ∧ (upN h.2.2.1 (nu h) kd _ = 1 → ∀ k, k < 3 → I' _ k = upN h.2.2.2.2.1 (nu h) row _ k) ∧ (upN h.2.2.1 (nu h) kd _ = 2 → I' _ 0 = upN h.2.2.2.2.1 (nu h) row _ 0 ∧ CV I' _ (upN h.2.2.2.2.2 (nu h) v _)) ∧ (upN h.2.2.1 (nu h) kd _ = 3 → ∀ k, k < 10 → I' _ k = upN h.2.2.2.2.1 (nu h) row _ k)
    rw [upN_s, upN_s, upN_s, upN_s]
    exact ⟨e3', e4', n1, n2, n3⟩
