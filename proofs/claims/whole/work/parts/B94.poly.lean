/-! polynomials, for both sides -/
theorem rat_rz {z : Int} {D : Nat} (hD : 0 < D) : (mkRat z D).num = rz z D ∧ (mkRat z D).den = rd z D := by
  have q0 : (mkRat z D).den ≠ 0 := (mkRat z D).den_nz
  have e := (Rat.mkRat_eq_iff (n₁ := (mkRat z D).num) (n₂ := z) q0 (by omega : D ≠ 0)).mp (Rat.mkRat_self _)
  obtain ⟨a1, a2, -⟩ := rz_cop1 (z := (mkRat z D).num) (D := (mkRat z D).den) (mkRat z D).reduced
  obtain ⟨b1, b2⟩ := rz_eqv (by omega : 0 < (mkRat z D).den) hD e
  exact ⟨a1.symm.trans b1, a2.symm.trans b2⟩
abbrev Fit (q : Rat) : Prop := q.num.natAbs < 2 ^ 200 ∧ q.den < 2 ^ 200
def gv (q : Rat) : GV := (q.num, q.den)
def qf (q : Rat) : Nat ⊕ GV := if Fit q then .inr (gv q) else .inl 3
theorem qfin_qf {z : Int} {D : Nat} (hD : 0 < D) : qfin z D = qf (mkRat z D) := by
  obtain ⟨a1, a2⟩ := rat_rz (z := z) hD
  rw [qfin_rz]
  unfold qf Fit gv
  rw [a1, a2]
theorem gv_Gd {q : Rat} (h : Fit q) : Gd (gv q) := ⟨h.1, Nat.pos_of_ne_zero q.den_nz, h.2, q.reduced⟩
theorem gv_rat (q : Rat) : mkRat (gv q).1 (gv q).2 = q := Rat.mkRat_self q
theorem Gd_gv {v : GV} (h : Gd v) : gv (mkRat v.1 v.2) = v ∧ Fit (mkRat v.1 v.2) := by
  obtain ⟨a1, a2⟩ := rat_rz (z := v.1) h.2.1
  obtain ⟨b1, b2, -⟩ := rz_cop1 h.2.2.2
  have c1 := a1.trans b1
  have c2 := a2.trans b2
  exact ⟨Prod.ext c1 c2, by unfold Fit; rw [c1, c2]; exact ⟨h.1, h.2.2.1⟩⟩
theorem gv_0 {q : Rat} : (gv q).1 = 0 ↔ q = 0 := by
  constructor
  · intro h
    rw [← gv_rat q, h]
    exact Rat.zero_mkRat _
  · intro h
    rw [h]
    rfl
abbrev Po : Type := Nat → Rat
abbrev FitA (p : Po) : Prop := ∀ i, i < 9 → Fit (p i)
def chk (p : Po) : Option Po := if FitA p then some p else none
/-- the degree: the greatest place of a coefficient that is not zero -/
def dgF (p : Po) : Nat → Nat
  | 0 => 0
  | k + 1 => if p (k + 1) = 0 then dgF p k else k + 1
def dgP (p : Po) : Nat := dgF p 8
theorem dgF_le (p : Po) : ∀ k, dgF p k ≤ k := by
  intro k
  induction k with
  | zero => exact Nat.le_refl _
  | succ k ih =>
    unfold dgF
    split <;> omega
theorem dgF_0 (p : Po) : ∀ k j, dgF p k < j → j ≤ k → p j = 0 := by
  intro k
  induction k with
  | zero => intro j h1 h2; unfold dgF at h1; omega
  | succ k ih =>
    intro j h1 h2
    unfold dgF at h1
    split at h1
    · next z =>
      by_cases e : j = k + 1
      · rw [e]; exact z
      · exact ih j h1 (by omega)
    · omega
theorem dgF_n (p : Po) : ∀ k, 0 < dgF p k → p (dgF p k) ≠ 0 := by
  intro k
  induction k with
  | zero => intro h; unfold dgF at h; omega
  | succ k ih =>
    intro h
    unfold dgF at h ⊢
    split at h
    · next z => rw [if_pos z]; exact ih h
    · next z => rw [if_neg z]; exact z
/-- nothing above: the scan may begin higher -/
theorem dgF_up (p : Po) {k : Nat} : ∀ m, k ≤ m → (∀ j, k < j → j ≤ m → p j = 0) → dgF p m = dgF p k := by
  intro m
  induction m with
  | zero => intro h _; rw [show k = 0 by omega]
  | succ m ih =>
    intro h hz
    by_cases e : k = m + 1
    · rw [e]
    · show (if p (m + 1) = 0 then dgF p m else m + 1) = _
      rw [if_pos (hz (m + 1) (by omega) (Nat.le_refl _))]
      exact ih (by omega) (fun j h1 h2 => hz j h1 (by omega))
def suR (f : Nat → Rat) : Nat → Rat
  | 0 => 0
  | n + 1 => suR f n + f n
theorem suR_cg {f g : Nat → Rat} : ∀ n, (∀ j, j < n → f j = g j) → suR f n = suR g n := by
  intro n
  induction n with
  | zero => intro _; rfl
  | succ n ih => intro h; unfold suR; rw [ih (fun j hj => h j (by omega)), h n (by omega)]
theorem suR_0 {f : Nat → Rat} : ∀ n, (∀ j, j < n → f j = 0) → suR f n = 0 := by
  intro n
  induction n with
  | zero => intro _; rfl
  | succ n ih => intro h; unfold suR; rw [ih (fun j hj => h j (by omega)), h n (by omega), Rat.add_zero]
theorem suR_1 {f : Nat → Rat} {k : Nat} : ∀ n, k < n → (∀ j, j < n → j ≠ k → f j = 0) → suR f n = f k := by
  intro n
  induction n with
  | zero => intro h; omega
  | succ n ih =>
    intro h hz
    unfold suR
    by_cases e : k = n
    · rw [suR_0 n (fun j hj => hz j (by omega) (by omega)), Rat.zero_add, e]
    · rw [ih (by omega) (fun j hj hk => hz j (by omega) hk), hz n (by omega) (by omega), Rat.add_zero]
theorem suR_rev {f : Nat → Rat} : ∀ n, suR (fun j => f (n - 1 - j)) n = suR f n := by
  have sh : ∀ (g : Nat → Rat) n, suR g (n + 1) = g 0 + suR (fun j => g (j + 1)) n := by
    intro g n
    induction n with
    | zero => show 0 + g 0 = g 0 + 0; rw [Rat.zero_add, Rat.add_zero]
    | succ n ih =>
      show suR g (n + 1) + g (n + 1) = g 0 + (suR (fun j => g (j + 1)) n + g (n + 1))
      rw [ih, Rat.add_assoc]
  intro n
  induction n with
  | zero => rfl
  | succ n ih =>
    rw [sh]
    show f (n + 1 - 1 - 0) + suR (fun j => f (n + 1 - 1 - (j + 1))) n = suR f n + f n
    rw [show n + 1 - 1 - 0 = n by omega, suR_cg (g := fun j => f (n - 1 - j)) n (fun j hj => by show f _ = f _; congr 1; omega), ih, Rat.add_comm]
def addP (p q : Po) : Po := fun i => p i + q i
def subP (p q : Po) : Po := fun i => p i - q i
def negP (p : Po) : Po := fun i => - p i
def sclP (p : Po) (c : Rat) : Po := fun i => mkRat ((p i).num * c.den * c.num.sign) ((p i).den * c.num.natAbs)
def mulP (p q : Po) : Po := fun i => suR (fun j => p j * q (i - j)) (i + 1)
def conP (c : Rat) : Po := fun i => if i = 0 then c else 0
def idP : Po := fun i => if i = 1 then 1 else 0
def powP (p : Po) : Nat → Po
  | 0 => conP 1
  | n + 1 => mulP (powP p n) p
theorem mulP_comm {p q : Po} {i : Nat} : mulP p q i = mulP q p i := by
  unfold mulP
  rw [← suR_rev]
  refine suR_cg _ (fun j hj => ?_)
  show p (i + 1 - 1 - j) * q (i - (i + 1 - 1 - j)) = q j * p (i - j)
  rw [show i + 1 - 1 - j = i - j by omega, show i - (i - j) = j by omega, Rat.mul_comm]
/-- coefficients of a product by degrees: nothing above, and the leading one -/
theorem mulP_hi {p q : Po} {a b : Nat} (hp : ∀ j, a < j → p j = 0) (hq : ∀ j, b < j → q j = 0) : (∀ i, a + b < i → mulP p q i = 0) ∧ mulP p q (a + b) = p a * q b := by
  constructor
  · intro i hi
    refine suR_0 _ (fun j hj => ?_)
    by_cases z : a < j
    · rw [hp j z, Rat.zero_mul]
    · rw [hq (i - j) (by omega), Rat.mul_zero]
  · unfold mulP
    have := suR_1 (f := fun j => p j * q (a + b - j)) (k := a) (a + b + 1) (by omega) (fun j hj hk => by
      show p j * q (a + b - j) = 0
      by_cases z : a < j
      · rw [hp j z, Rat.zero_mul]
      · rw [hq (a + b - j) (by omega), Rat.mul_zero])
    rw [this]
    show p a * q (a + b - a) = p a * q b
    rw [Nat.add_sub_cancel_left]
/-- and the lowest one -/
theorem mulP_lo {p q : Po} {a b : Nat} (hp : ∀ j, j < a → p j = 0) (hq : ∀ j, j < b → q j = 0) : (∀ i, i < a + b → mulP p q i = 0) ∧ mulP p q (a + b) = p a * q b := by
  constructor
  · intro i hi
    refine suR_0 _ (fun j hj => ?_)
    by_cases z : j < a
    · rw [hp j z, Rat.zero_mul]
    · rw [hq (i - j) (by omega), Rat.mul_zero]
  · unfold mulP
    have := suR_1 (f := fun j => p j * q (a + b - j)) (k := a) (a + b + 1) (by omega) (fun j hj hk => by
      show p j * q (a + b - j) = 0
      by_cases z : j < a
      · rw [hp j z, Rat.zero_mul]
      · rw [hq (a + b - j) (by omega), Rat.mul_zero])
    rw [this]
    show p a * q (a + b - a) = p a * q b
    rw [Nat.add_sub_cancel_left]
theorem powP_hi {p : Po} {a : Nat} (hp : ∀ j, a < j → p j = 0) : ∀ n, (∀ i, a * n < i → powP p n i = 0) ∧ powP p n (a * n) = (p a) ^ n := by
  intro n
  induction n with
  | zero =>
    refine ⟨fun i hi => if_neg (by omega), ?_⟩
    rw [Nat.mul_zero, Rat.pow_zero]
    rfl
  | succ n ih =>
    have := mulP_hi ih.1 hp
    rw [ih.2] at this
    rw [Nat.mul_succ, Rat.pow_succ]
    exact this
theorem powP_lo {p : Po} {a : Nat} (hp : ∀ j, j < a → p j = 0) : ∀ n, (∀ i, i < a * n → powP p n i = 0) ∧ powP p n (a * n) = (p a) ^ n := by
  intro n
  induction n with
  | zero =>
    refine ⟨fun i hi => by omega, ?_⟩
    rw [Nat.mul_zero, Rat.pow_zero]
    rfl
  | succ n ih =>
    have := mulP_lo ih.1 hp
    rw [ih.2] at this
    rw [Nat.mul_succ, Rat.pow_succ]
    exact this
/-- powers only grow -/
theorem Fit_pow {x : Rat} {t e : Nat} (h : Fit (x ^ e)) (ht : t ≤ e) : Fit (x ^ t) := by
  unfold Fit at h ⊢
  rw [Rat.num_pow, Rat.den_pow, Int.natAbs_pow] at h ⊢
  have d0 : 0 < x.den := Nat.pos_of_ne_zero x.den_nz
  refine ⟨?_, Nat.lt_of_le_of_lt (Nat.pow_le_pow_right d0 ht) h.2⟩
  by_cases z : x.num.natAbs = 0
  · rw [z]
    rcases Nat.eq_zero_or_pos t with e | e
    · rw [e]; decide
    · rw [Nat.zero_pow e]; decide
  · exact Nat.lt_of_le_of_lt (Nat.pow_le_pow_right (by omega) ht) h.1
