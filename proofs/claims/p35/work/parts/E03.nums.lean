/-! a rule keeps the value -/
def NR (k : Nat) : Rat := mkRat (k : Int) 1
theorem NR_c (k : Nat) : NR k = ((k : Int) : Rat) := Rat.mkRat_one _
theorem NR_add (a c : Nat) : NR a + NR c = NR (a + c) := by
  rw [NR_c, NR_c, NR_c, ← Rat.intCast_add, Int.natCast_add]
theorem NR_mul (a c : Nat) : NR a * NR c = NR (a * c) := by
  rw [NR_c, NR_c, NR_c, ← Rat.intCast_mul, Int.natCast_mul]
theorem NR_0 : NR 0 = 0 := rfl
theorem NR_1 : NR 1 = 1 := rfl
theorem NR_num (k : Nat) : (NR k).num = k ∧ (NR k).den = 1 := by
  rw [NR_c]
  exact ⟨rfl, rfl⟩
theorem NR_z {k : Nat} (h : k ≠ 0) : NR k ≠ 0 := fun z => h (by
  have := (NR_num k).1
  rw [z] at this
  have : (0 : Int) = k := this
  omega)
theorem pwN_pow (a : Nat) : ∀ k, pwN a k ≤ 999999999 → pwN a k = a ^ k := by
  intro k
  induction k with
  | zero => intro _; rfl
  | succ k ih =>
    intro h
    have e : pwN a (k + 1) = if pwN a k ≤ 999999999 then pwN a k * a else pwN a k := rfl
    by_cases z : pwN a k ≤ 999999999
    · rw [e, if_pos z, ih z, Nat.pow_succ]
    · rw [e, if_neg z] at h
      exact absurd h z
theorem Gd_N {k : Nat} (h : k ≤ 999999999) : Gd ((k : Int), 1) := Gd_in (by
  have : (999999999 : Nat) < 2 ^ 200 := by decide
  rw [Int.natAbs_natCast]
  exact Nat.lt_of_le_of_lt h this)
theorem tR_N (k : Nat) : tR ((k : Int), 1) = NR k := rfl
theorem NR_pow {a : Nat} (ha : a ≤ 999999999) (k : Nat) : NR a ^ k = NR (a ^ k) := by
  rw [← tR_N, ← pow_tR (Gd_N ha)]
  show mkRat ((a : Int) ^ k) (1 ^ k) = mkRat ((a ^ k : Nat) : Int) 1
  rw [Nat.one_pow, Int.natCast_pow]
theorem d1_neg (x : Rat) : d1 11 x = some (-x) := by
  show some (tR (-x.num, x.den)) = _
  unfold tR
  rw [← Rat.neg_mkRat, Rat.mkRat_self]
/-- a number between numbers -/
theorem d2_whole {m va vc w : Nat} {v : Rat} (hm : m ≤ 5) (ha : va ≤ 999999999) (h : whN m va vc = some w) (e : d2 m (NR va) (NR vc) = some v) : v = NR w := by
  have h9 := capN_le h
  have hw : whRw m va vc = some w := by
    unfold whN capN at h
    split at h
    · cases h
    · next u hu =>
      split at h
      · rw [hu]; exact h
      · cases h
  unfold whRw at hw
  unfold d2 at e
  by_cases m0 : m = 0
  · rw [if_pos m0] at hw e
    rw [← Option.some.inj e, ← Option.some.inj hw, NR_add]
  rw [if_neg m0] at hw e
  by_cases m1 : m = 1
  · rw [if_pos m1] at hw e
    split at hw
    · next z =>
      rw [← Option.some.inj e, ← Option.some.inj hw]
      have := NR_add (va - vc) vc
      rw [Nat.sub_add_cancel z] at this
      rw [← this]
      grind
    · cases hw
  rw [if_neg m1] at hw e
  by_cases m2 : m = 2
  · rw [if_pos m2] at hw e
    rw [← Option.some.inj e, ← Option.some.inj hw, NR_mul]
  rw [if_neg m2] at hw e
  by_cases m3 : m = 3
  · rw [if_pos m3] at hw e
    split at hw
    · next z =>
      have n0 := NR_z z.1
      rw [if_neg n0] at e
      rw [← Option.some.inj e, ← Option.some.inj hw]
      have := NR_mul (va / vc) vc
      rw [Nat.div_mul_cancel (Nat.dvd_of_mod_eq_zero z.2)] at this
      rw [← this]
      grind
    · cases hw
  rw [if_neg m3] at hw e
  by_cases m5 : m = 5
  · rw [if_pos m5] at hw e
    split at hw
    · next z =>
      have ew := Option.some.inj hw
      obtain ⟨n1, n2⟩ := NR_num vc
      rw [n1, n2, if_neg (by decide)] at e
      split at e
      · cases e
      split at e
      · cases e
      rw [if_pos (Int.natCast_nonneg vc), Int.natAbs_natCast] at e
      rw [← Option.some.inj e, NR_pow ha, ← ew, pwN_pow va vc (by omega)]
    · cases hw
  · rw [if_neg m5] at hw
    cases hw
/-- nodes alike in the same order: alike in their extents -/
theorem sp_same {n : Nat} {nd : Nat → Nd} {sp : Nat → Nat} (h : WT n (aro nd) sp) {p q : Nat} (hp : p < n) (hq : q < n) (hs : sp p = sp q) (he : ∀ k, k < sp p → nd (p + k) = nd (q + k)) : ∀ d k, k + d = sp p → 0 < d → sp (p + k) = sp (q + k) := by
  intro d
  induction d using Nat.strongRecOn with
  | ind d ih =>
    intro k hk hd
    have wp := h.2.2.2 p hp
    have wq := h.2.2.2 q hq
    have hp' : p + k < n := by omega
    have hq' : q + k < n := by omega
    have ea : aro nd (p + k) = aro nd (q + k) := by unfold aro; rw [he k (by omega)]
    have lp : p + k + sp (p + k) ≤ p + sp p := by
      by_cases z : k = 0
      · subst z
        rw [Nat.add_zero]
        exact Nat.le_refl _
      · exact lam' h hp (show p < p + k by omega) (by omega)
    have key : ∀ j, j ≤ aro nd (p + k) → kid sp (p + k) j + q = kid sp (q + k) j + p := by
      intro j
      induction j with
      | zero => intro _; show p + k + 1 + q = q + k + 1 + p; omega
      | succ j ihj =>
        intro hj
        have e1 := ihj (by omega)
        obtain ⟨g1, g2, g3⟩ := kid_in h hp' (show j < aro nd (p + k) by omega)
        have g4 := (h.2.2.2 _ g2).1
        have e2 := ih (sp p - (kid sp (p + k) j - p)) (by omega) (kid sp (p + k) j - p) (by omega) (by omega)
        rw [show p + (kid sp (p + k) j - p) = kid sp (p + k) j by omega, show q + (kid sp (p + k) j - p) = kid sp (q + k) j by omega] at e2
        show kid sp (p + k) j + sp (kid sp (p + k) j) + q = kid sp (q + k) j + sp (kid sp (q + k) j) + p
        omega
    have e3 := key _ (Nat.le_refl _)
    have a1 := (h.2.2.2 _ hp').2.2.1
    have a2 := (h.2.2.2 _ hq').2.2.1
    rw [← ea] at a2
    omega
