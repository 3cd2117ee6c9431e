/-! a tree with another one in place of a node -/
def rpn {α : Type} (f : Nat → α) (p s : Nat) (g : Nat → α) (m : Nat) : Nat → α := fun i => if i < p then f i else if i < p + m then g (i - p) else f (i - m + s)
def rps (sp : Nat → Nat) (p s : Nat) (sp' : Nat → Nat) (m : Nat) : Nat → Nat := fun i => if i < p then (if p < i + sp i then sp i - s + m else sp i) else if i < p + m then sp' (i - p) else sp (i - m + s)
section RP
variable {n m p : Nat} {ar sp ar' sp' : Nat → Nat}
theorem rps_lo {i : Nat} (h : i < p) (h' : ¬ p < i + sp i) : rps sp p (sp p) sp' m i = sp i := by
  unfold rps
  rw [if_pos h, if_neg h']
theorem rps_an {i : Nat} (h : i < p) (h' : p < i + sp i) : rps sp p (sp p) sp' m i = sp i - sp p + m := by
  unfold rps
  rw [if_pos h, if_pos h']
theorem rps_in {j : Nat} (h : j < m) : rps sp p (sp p) sp' m (p + j) = sp' j := by
  unfold rps
  rw [if_neg (by omega), if_pos (by omega), show p + j - p = j by omega]
theorem rps_hi {o : Nat} (h : p + sp p ≤ o) : rps sp p (sp p) sp' m (o - sp p + m) = sp o := by
  unfold rps
  rw [if_neg (by omega), if_neg (by omega), show o - sp p + m - m + sp p = o by omega]
/-- where a child stands then -/
def shp (sp : Nat → Nat) (p m c : Nat) : Nat := if c ≤ p then c else c - sp p + m
theorem rep_lo (h : WT n ar sp) (hp : p < n) {i : Nat} (hi : i < p) (hq : ¬ p < i + sp i) : ∀ k, k ≤ ar i → kid (rps sp p (sp p) sp' m) i k = kid sp i k := by
  intro k
  induction k with
  | zero => intro _; rfl
  | succ k ih =>
    intro hk
    obtain ⟨g1, g2, g3⟩ := kid_in h (show i < n by omega) (show k < ar i by omega)
    show kid (rps sp p (sp p) sp' m) i k + rps sp p (sp p) sp' m (kid (rps sp p (sp p) sp' m) i k) = kid sp i k + sp (kid sp i k)
    rw [ih (by omega), rps_lo (by have := (h.2.2.2 _ g2).1; omega) (by omega)]
theorem rep_an (h : WT n ar sp) (hp : p < n) (h' : WT m ar' sp') {i : Nat} (hi : i < p) (hq : p < i + sp i) : ∀ k, k ≤ ar i → kid (rps sp p (sp p) sp' m) i k = shp sp p m (kid sp i k) ∧ (p < kid sp i k → p + sp p ≤ kid sp i k) := by
  intro k
  induction k with
  | zero =>
    intro _
    have e : kid sp i 0 = i + 1 := rfl
    have e' : kid (rps sp p (sp p) sp' m) i 0 = i + 1 := rfl
    unfold shp
    rw [e, e', if_pos (by omega)]
    exact ⟨rfl, fun q => by omega⟩
  | succ k ih =>
    intro hk
    obtain ⟨i1, i2⟩ := ih (by omega)
    obtain ⟨g1, g2, g3⟩ := kid_in h (show i < n by omega) (show k < ar i by omega)
    have gs := (h.2.2.2 _ g2).1
    have ps := (h.2.2.2 p hp).1
    have e : kid sp i (k + 1) = kid sp i k + sp (kid sp i k) := rfl
    have e' : kid (rps sp p (sp p) sp' m) i (k + 1) = kid (rps sp p (sp p) sp' m) i k + rps sp p (sp p) sp' m (kid (rps sp p (sp p) sp' m) i k) := rfl
    rw [e', i1, e]
    generalize hc : kid sp i k = c at *
    unfold shp
    by_cases q1 : c ≤ p
    · rw [if_pos q1]
      by_cases q2 : c = p
      · subst q2
        have := rps_in (sp := sp) (sp' := sp') (p := c) (m := m) (j := 0) h'.1
        rw [Nat.add_zero] at this
        rw [this, h'.2.2.1, if_neg (by omega)]
        exact ⟨by omega, fun _ => by omega⟩
      · by_cases q3 : p < c + sp c
        · have l := lam' h g2 (show c < p by omega) q3
          rw [rps_an (by omega) q3, if_neg (by omega)]
          exact ⟨by omega, fun _ => l⟩
        · rw [rps_lo (by omega) q3, if_pos (by omega)]
          exact ⟨rfl, fun q => by omega⟩
    · have := i2 (by omega)
      rw [if_neg q1, rps_hi this, if_neg (by omega)]
      exact ⟨by omega, fun _ => by omega⟩
theorem rep_in (hp : p < n) (h' : WT m ar' sp') {j : Nat} (hj : j < m) : ∀ k, k ≤ ar' j → kid (rps sp p (sp p) sp' m) (p + j) k = p + kid sp' j k := by
  intro k
  induction k with
  | zero => intro _; rfl
  | succ k ih =>
    intro hk
    obtain ⟨g1, g2, g3⟩ := kid_in h' hj (show k < ar' j by omega)
    show kid (rps sp p (sp p) sp' m) (p + j) k + rps sp p (sp p) sp' m (kid (rps sp p (sp p) sp' m) (p + j) k) = p + (kid sp' j k + sp' (kid sp' j k))
    rw [ih (by omega), rps_in g2]
    omega
theorem rep_hi (h : WT n ar sp) (hp : p < n) {o : Nat} (ho : p + sp p ≤ o) (hn : o < n) : ∀ k, k ≤ ar o → kid (rps sp p (sp p) sp' m) (o - sp p + m) k = kid sp o k - sp p + m := by
  intro k
  induction k with
  | zero =>
    intro _
    show o - sp p + m + 1 = o + 1 - sp p + m
    omega
  | succ k ih =>
    intro hk
    obtain ⟨g1, g2, g3⟩ := kid_in h hn (show k < ar o by omega)
    show kid (rps sp p (sp p) sp' m) (o - sp p + m) k + rps sp p (sp p) sp' m (kid (rps sp p (sp p) sp' m) (o - sp p + m) k) = kid sp o k + sp (kid sp o k) - sp p + m
    rw [ih (by omega), rps_hi (by omega)]
    omega
theorem WT_rep (h : WT n ar sp) (hp : p < n) (h' : WT m ar' sp') (hb : n - sp p + m ≤ 6400) : WT (n - sp p + m) (rpn ar p (sp p) ar' m) (rps sp p (sp p) sp' m) := by
  have wp := h.2.2.2 p hp
  have m0 := h'.1
  refine ⟨by omega, hb, ?_, fun i hi => ?_⟩
  · by_cases q : p = 0
    · subst q
      have := rps_in (sp := sp) (sp' := sp') (p := 0) (m := m) (j := 0) m0
      rw [Nat.zero_add] at this
      rw [this, h'.2.2.1, h.2.2.1]
      omega
    · rw [rps_an (by omega) (by rw [h.2.2.1]; omega), h.2.2.1]
  · by_cases q1 : i < p
    · have wi := h.2.2.2 i (by omega)
      have ea : rpn ar p (sp p) ar' m i = ar i := if_pos q1
      rw [ea]
      by_cases q2 : p < i + sp i
      · have l := lam' h (show i < n by omega) q1 q2
        rw [rps_an q1 q2]
        refine ⟨by omega, by omega, ?_, fun k hk => ?_⟩
        · rw [(rep_an h hp h' q1 q2 _ (Nat.le_refl _)).1, wi.2.2.1]
          unfold shp
          rw [if_neg (by omega)]
          omega
        · obtain ⟨g1, g2, g3⟩ := kid_in h (show i < n by omega) hk
          have := rep_an h hp h' q1 q2 k (by omega)
          have w2 := h.2.2.2 _ g2
          rw [this.1]
          unfold shp
          split
          · omega
          · have := this.2 (by omega)
            omega
      · rw [rps_lo q1 q2]
        refine ⟨wi.1, by omega, ?_, fun k hk => ?_⟩
        · rw [rep_lo h hp q1 q2 _ (Nat.le_refl _), wi.2.2.1]
        · obtain ⟨g1, g2, g3⟩ := kid_in h (show i < n by omega) hk
          have w2 := h.2.2.2 _ g2
          rw [rep_lo h hp q1 q2 k (by omega)]
          omega
    · by_cases q2 : i < p + m
      · obtain ⟨j, rfl⟩ : ∃ j, i = p + j := ⟨i - p, by omega⟩
        have hj : j < m := by omega
        have wj := h'.2.2.2 j hj
        have ea : rpn ar p (sp p) ar' m (p + j) = ar' j := by
          unfold rpn
          rw [if_neg q1, if_pos q2, show p + j - p = j by omega]
        rw [ea, rps_in hj]
        refine ⟨wj.1, by omega, ?_, fun k hk => ?_⟩
        · rw [rep_in (n := n) hp h' hj _ (Nat.le_refl _), wj.2.2.1]
          omega
        · rw [rep_in (n := n) hp h' hj k (by omega)]
          have := wj.2.2.2 k hk
          omega
      · obtain ⟨o, ho, rfl⟩ : ∃ o, p + sp p ≤ o ∧ i = o - sp p + m := ⟨i - m + sp p, by omega, by omega⟩
        have hn : o < n := by omega
        have wo := h.2.2.2 o hn
        have ea : rpn ar p (sp p) ar' m (o - sp p + m) = ar o := by
          unfold rpn
          rw [if_neg q1, if_neg q2, show o - sp p + m - m + sp p = o by omega]
        rw [ea, rps_hi ho]
        refine ⟨wo.1, by omega, ?_, fun k hk => ?_⟩
        · rw [rep_hi h hp ho hn _ (Nat.le_refl _), wo.2.2.1]
          omega
        · rw [rep_hi h hp ho hn k (by omega)]
          obtain ⟨g1, g2, g3⟩ := kid_in h hn hk
          omega
end RP
