/-! the ring of changes -/
def nf (h : GH) : Nat := if h.1 < 20 then h.2.1 else (h.2.1 + 1) % 20
def nm (h : GH) : Nat := if h.1 < 20 then h.1 else 19
def nu (h : GH) : Nat := (nf h + nm h) % 20
def so (h : GH) : Nat := if h.1 < 20 then 0 else 1
def upN {α : Type} (f : Nat → α) (x : Nat) (v : α) : Nat → α := fun y => if y = x then v else f y
theorem upN_s {α : Type} {f : Nat → α} {x : Nat} {v : α} : upN f x v x = v := if_pos rfl
theorem upN_n {α : Type} {f : Nat → α} {x y : Nat} {v : α} (h : y ≠ x) : upN f x v y = f y := if_neg h
def pushH (h : GH) (kd ky : Nat) (row : Nat → Int32) (v : GV) : GH := (nm h + 1, nf h, upN h.2.2.1 (nu h) kd, upN h.2.2.2.1 (nu h) ky, upN h.2.2.2.2.1 (nu h) row, upN h.2.2.2.2.2 (nu h) v)
theorem nu_lt (h : GH) : nu h < 20 := Nat.mod_lt _ (by first | decide | omega)
theorem nf_lt {h : GH} (hf : h.2.1 < 20) : nf h < 20 := by
  unfold nf
  split
  · exact hf
  · exact Nat.mod_lt _ (by first | decide | omega)
theorem nm_lt20 (h : GH) : nm h < 20 := by
  unfold nm
  split <;> omega
theorem ru_old {h : GH} {kd ky : Nat} {row : Nat → Int32} {v : GV} (hm : h.1 ≤ 20) (hf : h.2.1 < 20) {j : Nat} (hj : j < nm h) : ru (pushH h kd ky row v) j = ru h (j + so h) ∧ j + so h < h.1 ∧ ru h (j + so h) ≠ nu h := by
  show (nf h + j) % 20 = _ ∧ _ ∧ _
  unfold ru nu nf nm so at *
  by_cases q : h.1 < 20
  · rw [if_pos q] at hj ⊢
    rw [if_pos q, if_pos q]
    refine ⟨by omega, by omega, by omega⟩
  · rw [if_neg q] at hj ⊢
    rw [if_neg q, if_neg q]
    refine ⟨by omega, by omega, by omega⟩
theorem ru_new {h : GH} {kd ky : Nat} {row : Nat → Int32} {v : GV} : ru (pushH h kd ky row v) (nm h) = nu h := rfl
theorem CHs_push {I I' : Nat → Nat → Int32} {h : GH} {kd ky : Nat} {row : Nat → Int32} {v : GV} (H : CHs I h) (e1 : I' 11 13 = (Int32.ofNat (nf h))) (e2 : I' 11 14 = (Int32.ofNat (nm h + 1))) (e3 : ∀ u, u ≠ nu h → I' 46 u = I 46 u) (e3' : I' 46 (nu h) = (Int32.ofNat (kd))) (e4 : ∀ u, u ≠ nu h → I' 47 u = I 47 u) (e4' : I' 47 (nu h) = (Int32.ofNat (ky))) (e5 : ∀ u, u < 20 → u ≠ nu h → I' (49 + u) = I (49 + u)) (e6 : ∀ x, 440 ≤ x → x < 540 → (x - 440) / 5 ≠ nu h → I' x = I x) (n1 : kd = 1 → ∀ k, k < 3 → I' (49 + nu h) k = row k) (n2 : kd = 2 → I' (49 + nu h) 0 = row 0 ∧ CV I' (440 + 5 * nu h) v) (n3 : kd = 3 → ∀ k, k < 10 → I' (49 + nu h) k = row k) : CHs I' (pushH h kd ky row v) := by
  refine ⟨by have := nm_lt20 h; show nm h + 1 ≤ 20; omega, nf_lt H.2.1, e1, e2, fun j hj => ?_⟩
  by_cases q : j < nm h
  · obtain ⟨r1, r2, r3⟩ := ru_old (kd := kd) (ky := ky) (row := row) (v := v) H.1 H.2.1 q
    have l := ru_lt h (j + so h)
    rw [r1]
    show I' 46 _ = (Int32.ofNat (upN h.2.2.1 (nu h) kd _)) ∧ I' 47 _ = (Int32.ofNat (upN h.2.2.2.1 (nu h) ky _)) ∧ (upN h.2.2.1 (nu h) kd _ = 1 → ∀ k, k < 3 → I' _ k = upN h.2.2.2.2.1 (nu h) row _ k) ∧ (upN h.2.2.1 (nu h) kd _ = 2 → I' _ 0 = upN h.2.2.2.2.1 (nu h) row _ 0 ∧ CV I' _ (upN h.2.2.2.2.2 (nu h) v _)) ∧ (upN h.2.2.1 (nu h) kd _ = 3 → ∀ k, k < 10 → I' _ k = upN h.2.2.2.2.1 (nu h) row _ k)
    rw [upN_n r3, upN_n r3, upN_n r3, upN_n r3, e3 _ r3, e4 _ r3, e5 _ l r3]
    obtain ⟨a1, a2, a3, a4, a5⟩ := H.2.2.2.2 _ r2
    exact ⟨a1, a2, a3, fun z => ⟨(a4 z).1, CV_keep (a4 z).2 (fun x h1 h2 => e6 x (by omega) (by omega) (by omega))⟩, a5⟩
  · obtain rfl : j = nm h := by
      have : j < nm h + 1 := hj
      omega
    rw [ru_new]
    show I' 46 _ = (Int32.ofNat (upN h.2.2.1 (nu h) kd _)) ∧ I' 47 _ = (Int32.ofNat (upN h.2.2.2.1 (nu h) ky _)) ∧ (upN h.2.2.1 (nu h) kd _ = 1 → ∀ k, k < 3 → I' _ k = upN h.2.2.2.2.1 (nu h) row _ k) ∧ (upN h.2.2.1 (nu h) kd _ = 2 → I' _ 0 = upN h.2.2.2.2.1 (nu h) row _ 0 ∧ CV I' _ (upN h.2.2.2.2.2 (nu h) v _)) ∧ (upN h.2.2.1 (nu h) kd _ = 3 → ∀ k, k < 10 → I' _ k = upN h.2.2.2.2.1 (nu h) row _ k)
    rw [upN_s, upN_s, upN_s, upN_s]
    exact ⟨e3', e4', n1, n2, n3⟩
/-- the trees of one shelf are there in another -/
def Ext (T : Nat) (s s' : GS) : Prop := ∀ t, t < T → t < s'.1 ∧ s'.2.1 t = s.2.1 t ∧ s'.2.2.1 t = s.2.2.1 t ∧ s'.2.2.2 t = s.2.2.2 t
theorem FnOK_ext {s s' : GS} {T : Nat} {row : Nat → Int32} (H : FnOK T s.2.1 row) (hs : Ext T s s') : FnOK T s'.2.1 row := by
  obtain ⟨h0, c, h1, h2, h3⟩ := H
  refine ⟨h0, c, h1, h2, fun k hk => ⟨?_, ?_⟩⟩
  · rcases (h3 k hk).1 with h | ⟨t, a, b, d⟩
    · exact Or.inl h
    · exact Or.inr ⟨t, a, b, by rw [(hs t a).2.1]; exact d⟩
  · obtain ⟨t, a, b, d⟩ := (h3 k hk).2
    exact ⟨t, a, b, by rw [(hs t a).2.1]; exact d⟩
theorem StOK_ext {s s' : GS} {T : Nat} {b : GB} {f : GF} (H : StOK s T b f) (hs : Ext T s s') : StOK s' T b f := by
  refine ⟨H.1, fun t i ht hi => ?_, fun l hl => FnOK_ext (H.2.2 l hl) hs⟩
  rw [(hs t ht).2.1] at hi
  rw [(hs t ht).2.2.1]
  exact H.2.1 t i ht hi
theorem hT_mono {s : GS} {b : GB} {f : GF} {h : GH} (H : OKH s b f h) : ∃ (hT : Nat → Nat) (hB : Nat → GB) (hF : Nat → GF), (∀ j, j ≤ h.1 → hT j ≤ s.1) ∧ hT h.1 = s.1 ∧ hB h.1 = b ∧ hF h.1 = f ∧ (∀ j, j ≤ h.1 → StOK s (hT j) (hB j) (hF j)) ∧ ∀ j, j < h.1 → (h.2.2.1 (ru h j) = 0 ∧ hT (j + 1) = hT j + 1 ∧ hB (j + 1) = hB j ∧ hF (j + 1) = hF j) ∨ (h.2.2.1 (ru h j) = 1 ∧ hT (j + 1) = hT j ∧ hF (j + 1) = hF j ∧ h.2.2.2.1 (ru h j) < 48 ∧ hB j = upB (hB (j + 1)) (h.2.2.2.1 (ru h j)) (h.2.2.2.2.1 (ru h j) 0, h.2.2.2.2.1 (ru h j) 1, h.2.2.2.2.1 (ru h j) 2)) ∨ (h.2.2.1 (ru h j) = 2 ∧ hT (j + 1) = hT j ∧ hB (j + 1) = hB j ∧ hF (j + 1) = hF j ∧ h.2.2.2.1 (ru h j) < 26 ∧ (h.2.2.2.2.1 (ru h j) 0 = 0 ∨ h.2.2.2.2.1 (ru h j) 0 = 1)) ∨ (h.2.2.1 (ru h j) = 3 ∧ hT (j + 1) = hT j ∧ hB (j + 1) = hB j ∧ h.2.2.2.1 (ru h j) < 26 ∧ hF j = upF (hF (j + 1)) (h.2.2.2.1 (ru h j)) (h.2.2.2.2.1 (ru h j))) := by
  obtain ⟨hT, hB, hF, h1, h2, h3, h4, h5⟩ := H
  refine ⟨hT, hB, hF, ?_, h1, h2, h3, h4, h5⟩
  have key : ∀ d j, j + d = h.1 → hT j ≤ s.1 := by
    intro d
    induction d with
    | zero =>
      intro j hj
      rw [show j = h.1 by omega, h1]
      exact Nat.le_refl _
    | succ d ih =>
      intro j hj
      have := ih (j + 1) (by omega)
      rcases h5 j (by omega) with z | z | z | z <;> omega
  exact fun j hj => key (h.1 - j) j (by omega)
/-- one change more -/
theorem OKH_push {s s' : GS} {b b' : GB} {f f' : GF} {h : GH} {kd ky : Nat} {row : Nat → Int32} {v : GV} (H : OKH s b f h) (hm : h.1 ≤ 20) (hf : h.2.1 < 20) (hs : Ext s.1 s s') (hn : StOK s' s'.1 b' f') (st : (kd = 0 ∧ s'.1 = s.1 + 1 ∧ b' = b ∧ f' = f) ∨ (kd = 1 ∧ s'.1 = s.1 ∧ f' = f ∧ ky < 48 ∧ b = upB b' ky (row 0, row 1, row 2)) ∨ (kd = 2 ∧ s'.1 = s.1 ∧ b' = b ∧ f' = f ∧ ky < 26 ∧ (row 0 = 0 ∨ row 0 = 1)) ∨ (kd = 3 ∧ s'.1 = s.1 ∧ b' = b ∧ ky < 26 ∧ f = upF f' ky row)) : OKH s' b' f' (pushH h kd ky row v) := by
  obtain ⟨hT, hB, hF, h0, h1, h2, h3, h4, h5⟩ := hT_mono H
  have em : nm h + so h = h.1 := by
    unfold nm so
    split <;> omega
  refine ⟨fun j => if j ≤ nm h then hT (j + so h) else s'.1, fun j => if j ≤ nm h then hB (j + so h) else b', fun j => if j ≤ nm h then hF (j + so h) else f', if_neg (show ¬ nm h + 1 ≤ nm h by omega), if_neg (show ¬ nm h + 1 ≤ nm h by omega), if_neg (show ¬ nm h + 1 ≤ nm h by omega), fun j hj => ?_, fun j hj => ?_⟩
  · have hj' : j ≤ nm h + 1 := hj
    by_cases q : j ≤ nm h
    · simp only [if_pos q]
      have hj2 : j + so h ≤ h.1 := by omega
      exact StOK_ext (h4 _ hj2) (fun t ht => hs t (by have := h0 _ hj2; omega))
    · simp only [if_neg q]
      exact hn
  · have hj' : j < nm h + 1 := hj
    by_cases q : j < nm h
    · obtain ⟨r1, r2, r3⟩ := ru_old (kd := kd) (ky := ky) (row := row) (v := v) hm hf q
      rw [r1]
      simp only [if_pos (show j ≤ nm h by omega), if_pos (show j + 1 ≤ nm h by omega), show j + 1 + so h = j + so h + 1 by omega]
      show (upN h.2.2.1 (nu h) kd _ = 0 ∧ _) ∨ (upN h.2.2.1 (nu h) kd _ = 1 ∧ _ ∧ _ ∧ upN h.2.2.2.1 (nu h) ky _ < 48 ∧ _ = upB _ (upN h.2.2.2.1 (nu h) ky _) (upN h.2.2.2.2.1 (nu h) row _ 0, upN h.2.2.2.2.1 (nu h) row _ 1, upN h.2.2.2.2.1 (nu h) row _ 2)) ∨ (upN h.2.2.1 (nu h) kd _ = 2 ∧ _ ∧ _ ∧ _ ∧ upN h.2.2.2.1 (nu h) ky _ < 26 ∧ (upN h.2.2.2.2.1 (nu h) row _ 0 = 0 ∨ upN h.2.2.2.2.1 (nu h) row _ 0 = 1)) ∨ (upN h.2.2.1 (nu h) kd _ = 3 ∧ _ ∧ _ ∧ upN h.2.2.2.1 (nu h) ky _ < 26 ∧ _ = upF _ (upN h.2.2.2.1 (nu h) ky _) (upN h.2.2.2.2.1 (nu h) row _))
      rw [upN_n r3, upN_n r3, upN_n r3]
      exact h5 _ r2
    · obtain rfl : j = nm h := by omega
      rw [ru_new]
      simp only [if_pos (Nat.le_refl (nm h)), if_neg (show ¬ nm h + 1 ≤ nm h by omega), em]
      show (upN h.2.2.1 (nu h) kd _ = 0 ∧ _) ∨ (upN h.2.2.1 (nu h) kd _ = 1 ∧ _ ∧ _ ∧ upN h.2.2.2.1 (nu h) ky _ < 48 ∧ _ = upB _ (upN h.2.2.2.1 (nu h) ky _) (upN h.2.2.2.2.1 (nu h) row _ 0, upN h.2.2.2.2.1 (nu h) row _ 1, upN h.2.2.2.2.1 (nu h) row _ 2)) ∨ (upN h.2.2.1 (nu h) kd _ = 2 ∧ _ ∧ _ ∧ _ ∧ upN h.2.2.2.1 (nu h) ky _ < 26 ∧ (upN h.2.2.2.2.1 (nu h) row _ 0 = 0 ∨ upN h.2.2.2.2.1 (nu h) row _ 0 = 1)) ∨ (upN h.2.2.1 (nu h) kd _ = 3 ∧ _ ∧ _ ∧ upN h.2.2.2.1 (nu h) ky _ < 26 ∧ _ = upF _ (upN h.2.2.2.1 (nu h) ky _) (upN h.2.2.2.2.1 (nu h) row _))
      rw [upN_s, upN_s, upN_s, h1, h2, h3]
      exact st
