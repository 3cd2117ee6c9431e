/-! trees in rows: arities, spans, places -/
def kid (sp : Nat → Nat) (i : Nat) : Nat → Nat
  | 0 => i + 1
  | k + 1 => kid sp i k + sp (kid sp i k)
def WT (n : Nat) (ar sp : Nat → Nat) : Prop := 0 < n ∧ n ≤ 6400 ∧ sp 0 = n ∧ ∀ i, i < n → 1 ≤ sp i ∧ i + sp i ≤ n ∧ kid sp i (ar i) = i + sp i ∧ ∀ k, k < ar i → kid sp i k < n
def cnt (sp : Nat → Nat) (e : Nat) : Nat → Nat
  | 0 => 0
  | m + 1 => cnt sp e m + (if m + sp m ≤ e then 1 else 0)
/-- where a node stands with operands ahead -/
def pl (sp : Nat → Nat) (i : Nat) : Nat := cnt sp i i + sp i - 1
section TT
variable {n : Nat} {ar sp : Nat → Nat}
theorem kid_mono (h : WT n ar sp) {i : Nat} (hi : i < n) : ∀ {k m : Nat}, k ≤ m → m ≤ ar i → kid sp i k ≤ kid sp i m ∧ (k < m → kid sp i k < kid sp i m) := by
  intro k m hkm hm
  induction m with
  | zero =>
    obtain rfl : k = 0 := by omega
    exact ⟨Nat.le_refl _, fun q => absurd q (by omega)⟩
  | succ m ih =>
    have h1 := (h.2.2.2 i hi).2.2.2 m (by omega)
    have h2 := (h.2.2.2 _ h1).1
    have e : kid sp i (m + 1) = kid sp i m + sp (kid sp i m) := rfl
    by_cases q : k = m + 1
    · rw [q]
      exact ⟨Nat.le_refl _, fun z => absurd z (by omega)⟩
    · have := (ih (by omega) (by omega)).1
      exact ⟨by omega, fun _ => by omega⟩
theorem kid_in (h : WT n ar sp) {i k : Nat} (hi : i < n) (hk : k < ar i) : i < kid sp i k ∧ kid sp i k < n ∧ kid sp i k + sp (kid sp i k) ≤ i + sp i := by
  have h1 := (kid_mono h hi (show 0 ≤ k by omega) (by omega)).1
  have h2 := (kid_mono h hi (show k + 1 ≤ ar i by omega) (Nat.le_refl _)).1
  have e0 : kid sp i 0 = i + 1 := rfl
  have e1 : kid sp i (k + 1) = kid sp i k + sp (kid sp i k) := rfl
  have h3 := (h.2.2.2 i hi).2.2
  exact ⟨by omega, h3.2 k hk, by rw [← e1, ← h3.1]; exact h2⟩
theorem kid_find {i : Nat} : ∀ (m j : Nat), i < j → j < kid sp i m → ∃ k, k < m ∧ kid sp i k ≤ j ∧ j < kid sp i (k + 1) := by
  intro m
  induction m with
  | zero =>
    intro j h1 h2
    have e0 : kid sp i 0 = i + 1 := rfl
    omega
  | succ m ih =>
    intro j h1 h2
    by_cases q : j < kid sp i m
    · obtain ⟨k, a, b, c⟩ := ih j h1 q
      exact ⟨k, by omega, b, c⟩
    · exact ⟨m, by omega, by omega, h2⟩
theorem kid_desc (h : WT n ar sp) {i j : Nat} (hi : i < n) (h1 : i < j) (h2 : j < i + sp i) : ∃ k, k < ar i ∧ kid sp i k ≤ j ∧ j < kid sp i k + sp (kid sp i k) := by
  rw [← (h.2.2.2 i hi).2.2.1] at h2
  exact kid_find _ _ h1 h2
theorem lam (h : WT n ar sp) : ∀ {m i j : Nat}, sp i ≤ m → i < n → i < j → j < i + sp i → j + sp j ≤ i + sp i := by
  intro m
  induction m with
  | zero =>
    intro i j hm hi _ _
    have := (h.2.2.2 i hi).1
    omega
  | succ m ih =>
    intro i j hm hi h1 h2
    obtain ⟨k, a, b, c⟩ := kid_desc h hi h1 h2
    obtain ⟨g1, g2, g3⟩ := kid_in h hi a
    by_cases q : j = kid sp i k
    · rw [q]; exact g3
    · have := ih (i := kid sp i k) (j := j) (by omega) g2 (by omega) c
      omega
theorem lam' (h : WT n ar sp) {i j : Nat} (hi : i < n) (h1 : i < j) (h2 : j < i + sp i) : j + sp j ≤ i + sp i := lam h (Nat.le_refl _) hi h1 h2
/-- each node but the first is beneath one -/
theorem par (h : WT n ar sp) {j : Nat} (hj : j < n) (h0 : 0 < j) : ∃ i k, i < j ∧ i < n ∧ k < ar i ∧ j = kid sp i k := by
  have key : ∀ m i, sp i ≤ m → i < n → i < j → j < i + sp i → ∃ i k, i < j ∧ i < n ∧ k < ar i ∧ j = kid sp i k := by
    intro m
    induction m with
    | zero =>
      intro i hm hi _ _
      have := (h.2.2.2 i hi).1
      omega
    | succ m ih =>
      intro i hm hi h1 h2
      obtain ⟨k, a, b, c⟩ := kid_desc h hi h1 h2
      obtain ⟨g1, g2, g3⟩ := kid_in h hi a
      by_cases q : j = kid sp i k
      · exact ⟨i, k, h1, hi, a, q⟩
      · exact ih (kid sp i k) (by omega) g2 (by omega) c
  exact key _ 0 (Nat.le_refl _) h.1 h0 (by rw [h.2.2.1]; omega)
theorem cnt_le (sp : Nat → Nat) (e : Nat) : ∀ m, cnt sp e m ≤ m := by
  intro m
  induction m with
  | zero => exact Nat.le_refl _
  | succ m ih =>
    unfold cnt
    split <;> omega
theorem cnt_mono {e m m' : Nat} (hm : m ≤ m') : cnt sp e m ≤ cnt sp e m' := by
  induction m' with
  | zero =>
    obtain rfl : m = 0 := by omega
    exact Nat.le_refl _
  | succ m' ih =>
    by_cases q : m = m' + 1
    · rw [q]; exact Nat.le_refl _
    · have := ih (by omega)
      show cnt sp e m ≤ cnt sp e m' + _
      omega
theorem cnt_congr {e e' : Nat} : ∀ m, (∀ j, j < m → (j + sp j ≤ e ↔ j + sp j ≤ e')) → cnt sp e m = cnt sp e' m := by
  intro m
  induction m with
  | zero => intro _; rfl
  | succ m ih =>
    intro hh
    show cnt sp e m + _ = cnt sp e' m + _
    rw [ih (fun j hj => hh j (by omega))]
    have := hh m (by omega)
    by_cases q : m + sp m ≤ e
    · rw [if_pos q, if_pos (this.mp q)]
    · rw [if_neg q, if_neg (fun z => q (this.mpr z))]
theorem cnt_all {e i : Nat} : ∀ d, (∀ j, i ≤ j → j < i + d → j + sp j ≤ e) → cnt sp e (i + d) = cnt sp e i + d := by
  intro d
  induction d with
  | zero => intro _; rfl
  | succ d ih =>
    intro hh
    show cnt sp e (i + d) + (if i + d + sp (i + d) ≤ e then 1 else 0) = _
    rw [ih (fun j h1 h2 => hh j h1 (by omega)), if_pos (hh (i + d) (by omega) (by omega))]
    omega
theorem cnt_child (h : WT n ar sp) {i k : Nat} (hi : i < n) (hk : k < ar i) : cnt sp (kid sp i k) (kid sp i k) = cnt sp i i + (kid sp i k - i - 1) := by
  obtain ⟨g1, g2, g3⟩ := kid_in h hi hk
  have e1 : cnt sp (kid sp i k) i = cnt sp i i := cnt_congr i (fun j hj => ⟨fun q => by
    by_cases z : j + sp j ≤ i
    · exact z
    · have := lam' h (show j < n by omega) hj (by omega)
      have := (h.2.2.2 _ g2).1
      omega, fun q => by omega⟩)
  have e2 : cnt sp (kid sp i k) (i + 1) = cnt sp (kid sp i k) i := by
    have := (h.2.2.2 _ g2).1
    show cnt sp (kid sp i k) i + (if i + sp i ≤ kid sp i k then 1 else 0) = _
    rw [if_neg (by omega)]
    rfl
  have e3 := cnt_all (sp := sp) (e := kid sp i k) (i := i + 1) (kid sp i k - i - 1) (fun j h1 h2 => by
    obtain ⟨k', a, b, c⟩ := kid_find (sp := sp) (i := i) k j (by omega) (by omega)
    have m1 := (kid_mono h hi (show k' + 1 ≤ k by omega) (by omega)).1
    have e : kid sp i (k' + 1) = kid sp i k' + sp (kid sp i k') := rfl
    by_cases q : j = kid sp i k'
    · rw [q]; omega
    · have := lam' h ((h.2.2.2 i hi).2.2.2 k' (by omega)) (show kid sp i k' < j by omega) (by omega)
      omega)
  rw [show i + 1 + (kid sp i k - i - 1) = kid sp i k by omega] at e3
  omega
theorem pl_0 (h : WT n ar sp) : pl sp 0 = n - 1 := by
  unfold pl
  rw [h.2.2.1]
  show 0 + n - 1 = n - 1
  omega
theorem pl_ge (h : WT n ar sp) {i : Nat} (hi : i < n) : pl sp i + 1 = cnt sp i i + sp i := by
  have := (h.2.2.2 i hi).1
  unfold pl
  omega
theorem pl_lt (h : WT n ar sp) {i : Nat} (hi : i < n) : pl sp i < n := by
  have h1 := cnt_le sp i i
  have h2 := (h.2.2.2 i hi).2.1
  have h3 := (h.2.2.2 i hi).1
  unfold pl
  omega
theorem pl_child (h : WT n ar sp) {i k : Nat} (hi : i < n) (hk : k < ar i) : pl sp (kid sp i k) + 1 = (pl sp i + 1 - sp i) + (kid sp i k - i - 1) + sp (kid sp i k) := by
  have e := cnt_child h hi hk
  have g := kid_in h hi hk
  rw [pl_ge h g.2.1, pl_ge h hi, e]
  omega
theorem pl_left (h : WT n ar sp) {i j : Nat} (hj : j < n) (h1 : i + sp i ≤ j) (hi : i < n) : pl sp i < pl sp j := by
  have a : cnt sp j (i + sp i) = cnt sp j i + sp i := cnt_all _ (fun x g1 g2 => by
    by_cases q : x = i
    · rw [q]; exact h1
    · have := lam' h hi (show i < x by omega) (by omega)
      omega)
  have b : cnt sp i i ≤ cnt sp j i := by
    have key : ∀ m, cnt sp i m ≤ cnt sp j m := by
      intro m
      induction m with
      | zero => exact Nat.le_refl _
      | succ m ih =>
        have := (h.2.2.2 i hi).1
        show cnt sp i m + _ ≤ cnt sp j m + _
        by_cases q : m + sp m ≤ i
        · rw [if_pos q, if_pos (by omega)]; omega
        · rw [if_neg q]; omega
    exact key i
  have c := cnt_mono (sp := sp) (e := j) h1
  have d1 := pl_ge h hi
  have d2 := pl_ge h hj
  have d3 := (h.2.2.2 j hj).1
  omega
theorem pl_inner (h : WT n ar sp) {i j : Nat} (hi : i < n) (h1 : i < j) (h2 : j < i + sp i) : pl sp j < pl sp i ∧ pl sp i < pl sp j + sp i := by
  have hj : j < n := by have := (h.2.2.2 i hi).2.1; omega
  have l := lam' h hi h1 h2
  have a : cnt sp j i = cnt sp i i := cnt_congr i (fun x hx => ⟨fun q => by
    by_cases z : x + sp x ≤ i
    · exact z
    · have := lam' h (show x < n by omega) hx (by omega)
      have := (h.2.2.2 j hj).1
      omega, fun q => by omega⟩)
  have b : cnt sp j j ≤ cnt sp j i + (j - i - 1) := by
    have e2 : cnt sp j (i + 1) = cnt sp j i := by
      show cnt sp j i + (if i + sp i ≤ j then 1 else 0) = _
      rw [if_neg (by omega)]
      rfl
    have key : ∀ d, cnt sp j (i + 1 + d) ≤ cnt sp j (i + 1) + d := by
      intro d
      induction d with
      | zero => exact Nat.le_refl _
      | succ d ih =>
        show cnt sp j (i + 1 + d) + (if i + 1 + d + sp (i + 1 + d) ≤ j then 1 else 0) ≤ _
        split <;> omega
    have := key (j - i - 1)
    rw [show i + 1 + (j - i - 1) = j by omega] at this
    omega
  have b' := cnt_mono (sp := sp) (e := j) (show i ≤ j by omega)
  have d1 := pl_ge h hi
  have d2 := pl_ge h hj
  have d3 := (h.2.2.2 j hj).1
  omega
theorem pl_inj (h : WT n ar sp) {i j : Nat} (hi : i < n) (hj : j < n) (e : pl sp i = pl sp j) : i = j := by
  have key : ∀ {i j : Nat}, i < n → j < n → i < j → pl sp i ≠ pl sp j := by
    intro i j hi hj hl
    by_cases q : i + sp i ≤ j
    · have := pl_left h hj q hi
      omega
    · have := (pl_inner h hi hl (by omega)).1
      omega
  rcases Nat.lt_trichotomy i j with q | q | q
  · exact absurd e (key hi hj q)
  · exact q
  · exact absurd e.symm (key hj hi q)
end TT
