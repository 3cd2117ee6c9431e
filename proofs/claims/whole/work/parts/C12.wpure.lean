/-! polynomials: powers by whole numbers -/
def dnF (p : Po) : Nat → Nat
  | 0 => 1
  | m + 1 => dnF p m / Nat.gcd (dnF p m) (p m).den * (p m).den
def whW (p : Po) (D : Nat) (i : Nat) : Int := (p i).num * ((D / (p i).den : Nat) : Int)
theorem dnF_pos (p : Po) : ∀ m, 0 < dnF p m := by
  intro m
  induction m with
  | zero => exact Nat.one_pos
  | succ m ih =>
    have d0 := Nat.pos_of_ne_zero (p m).den_nz
    have g0 : 0 < Nat.gcd (dnF p m) (p m).den := Nat.gcd_pos_of_pos_left _ ih
    exact Nat.mul_pos (Nat.div_pos (Nat.le_of_dvd ih (Nat.gcd_dvd_left _ _)) g0) d0
theorem dnF_eq (p : Po) (m : Nat) : dnF p (m + 1) = dnF p m * ((p m).den / Nat.gcd (dnF p m) (p m).den) := by
  show dnF p m / _ * (p m).den = _
  have h1 := Nat.gcd_dvd_left (dnF p m) (p m).den
  have h2 := Nat.gcd_dvd_right (dnF p m) (p m).den
  rw [← Nat.mul_div_assoc _ h2, Nat.div_mul_right_comm h1]
theorem dnF_dvd (p : Po) : ∀ m i, i < m → (p i).den ∣ dnF p m := by
  intro m
  induction m with
  | zero => intro i h; omega
  | succ m ih =>
    intro i hi
    by_cases z : i = m
    · subst z
      exact Nat.dvd_mul_left _ _
    · rw [dnF_eq]
      exact Nat.dvd_trans (ih i (by omega)) (Nat.dvd_mul_right _ _)
theorem dnF_le (p : Po) : ∀ m, dnF p m ≤ prM p m ∧ ∀ i, i < m → (whW p (dnF p m) i).natAbs ≤ prM p m := by
  intro m
  induction m with
  | zero => exact ⟨Nat.le_refl _, fun i h => absurd h (Nat.not_lt_zero _)⟩
  | succ m ih =>
    have g0 : 0 < Nat.gcd (dnF p m) (p m).den := Nat.gcd_pos_of_pos_left _ (dnF_pos p m)
    have l1 : dnF p m / Nat.gcd (dnF p m) (p m).den ≤ prM p m := Nat.le_trans (Nat.div_le_self _ _) ih.1
    refine ⟨Nat.mul_le_mul l1 (Nat.le_max_right _ _), fun i hi => ?_⟩
    unfold whW
    rw [Int.natAbs_mul, Int.natAbs_natCast]
    by_cases z : i = m
    · subst z
      show _ * (dnF p i / Nat.gcd (dnF p i) (p i).den * (p i).den / (p i).den) ≤ _
      rw [Nat.mul_div_cancel _ (Nat.pos_of_ne_zero (p i).den_nz), Nat.mul_comm]
      exact Nat.mul_le_mul l1 (Nat.le_max_left _ _)
    · have h := ih.2 i (by omega)
      unfold whW at h
      rw [Int.natAbs_mul, Int.natAbs_natCast] at h
      have e : dnF p (m + 1) / (p i).den = dnF p m / (p i).den * ((p m).den / Nat.gcd (dnF p m) (p m).den) := by
        rw [dnF_eq, Nat.mul_comm, Nat.mul_div_assoc _ (dnF_dvd p m i (by omega)), Nat.mul_comm]
      rw [e, ← Nat.mul_assoc]
      exact Nat.mul_le_mul h (Nat.le_trans (Nat.div_le_self _ _) (Nat.le_max_right _ _))
theorem whW_mk (p : Po) {m i : Nat} (hi : i < m) : p i = mkRat (whW p (dnF p m) i) (dnF p m) := by
  obtain ⟨c, hc⟩ := dnF_dvd p m i hi
  have d0 := Nat.pos_of_ne_zero (p i).den_nz
  have c0 : c ≠ 0 := fun z => by
    have := dnF_pos p m
    rw [hc, z, Nat.mul_zero] at this
    exact absurd this (by decide)
  unfold whW
  rw [hc, Nat.mul_div_cancel_left _ d0]
  have := Rat.mkRat_mul_right (n := (p i).num) (d := (p i).den) c0
  rw [Rat.mkRat_self] at this
  exact this.symm
def suZ (f : Nat → Int) : Nat → Int
  | 0 => 0
  | n + 1 => suZ f n + f n
def qZ (W : Nat → Int) : Nat → Nat → Int
  | 0 => fun i => if i = 0 then 1 else 0
  | n + 1 => fun i => suZ (fun j => qZ W n j * W (i - j)) (i + 1)
theorem suZ_bd {f : Nat → Int} {B : Nat} (h : ∀ j, j < 9 → (f j).natAbs ≤ B) : ∀ m, m ≤ 9 → (suZ f m).natAbs ≤ m * B := by
  intro m
  induction m with
  | zero => intro _; show 0 ≤ _; omega
  | succ m ih =>
    intro hm
    have h1 := ih (by omega)
    have h2 := h m (by omega)
    have := Int.natAbs_add_le (suZ f m) (f m)
    show (suZ f m + f m).natAbs ≤ _
    rw [Nat.succ_mul]
    omega
theorem qZ_bd {W : Nat → Int} {M : Nat} (hW : ∀ j, j < 9 → (W j).natAbs ≤ M) : ∀ n i, i < 9 → (qZ W n i).natAbs ≤ 9 ^ n * M ^ n ∧ ∀ m, m ≤ i + 1 → (suZ (fun j => qZ W n j * W (i - j)) m).natAbs ≤ 9 ^ (n + 1) * M ^ (n + 1) := by
  have step : ∀ n, (∀ i, i < 9 → (qZ W n i).natAbs ≤ 9 ^ n * M ^ n) → ∀ i, i < 9 → ∀ m, m ≤ i + 1 → (suZ (fun j => qZ W n j * W (i - j)) m).natAbs ≤ 9 ^ (n + 1) * M ^ (n + 1) := fun n h i hi m hm => by
    have hb := suZ_bd (f := fun j => qZ W n j * W (i - j)) (B := 9 ^ n * M ^ n * M) (fun j hj => by
      show (qZ W n j * W (i - j)).natAbs ≤ _
      rw [Int.natAbs_mul]
      exact Nat.mul_le_mul (h j hj) (hW (i - j) (by omega))) m (by omega)
    refine Nat.le_trans hb ?_
    rw [Nat.pow_succ, Nat.pow_succ]
    refine Nat.le_trans (Nat.mul_le_mul_right _ (show m ≤ 9 by omega)) (Nat.le_of_eq ?_)
    ac_rfl
  intro n
  induction n with
  | zero =>
    have h0 : ∀ i, i < 9 → (qZ W 0 i).natAbs ≤ 9 ^ 0 * M ^ 0 := fun i hi => by
      show (if i = 0 then (1 : Int) else 0).natAbs ≤ _
      rw [Nat.pow_zero, Nat.pow_zero]
      split <;> decide
    exact fun i hi => ⟨h0 i hi, step 0 h0 i hi⟩
  | succ n ih =>
    have h1 : ∀ i, i < 9 → (qZ W (n + 1) i).natAbs ≤ 9 ^ (n + 1) * M ^ (n + 1) := fun i hi => (ih i hi).2 (i + 1) (Nat.le_refl _)
    exact fun i hi => ⟨h1 i hi, step (n + 1) h1 i hi⟩
theorem qZ_pow {p : Po} {W : Nat → Int} {D : Nat} (hD : 0 < D) (h : ∀ j, j < 9 → p j = mkRat (W j) D) : ∀ n i, i < 9 → powP p n i = mkRat (qZ W n i) (D ^ n) := by
  intro n
  induction n with
  | zero =>
    intro i hi
    show (if i = 0 then (1 : Rat) else 0) = mkRat (if i = 0 then (1 : Int) else 0) (D ^ 0)
    rw [Nat.pow_zero]
    split <;> rfl
  | succ n ih =>
    intro i hi
    have key : ∀ m, m ≤ i + 1 → suR (fun j => powP p n j * p (i - j)) m = mkRat (suZ (fun j => qZ W n j * W (i - j)) m) (D ^ (n + 1)) := by
      intro m
      induction m with
      | zero => intro _; exact (Rat.zero_mkRat _).symm
      | succ m ihm =>
        intro hm
        show suR (fun j => powP p n j * p (i - j)) m + powP p n m * p (i - m) = mkRat (suZ (fun j => qZ W n j * W (i - j)) m + qZ W n m * W (i - m)) _
        rw [ihm (by omega), ih m (by omega), h (i - m) (by omega), Rat.mkRat_mul_mkRat, ← Nat.pow_succ, mk_add (Nat.pos_iff_ne_zero.mp (Nat.pow_pos hD))]
    exact key (i + 1) (Nat.le_refl _)
/-- bits enough -/
theorem prM_9 {p : Po} (kp : PoK p) : prM p 9 = prM p (dgP p + 1) := by
  have key : ∀ m, prM p (dgP p + 1 + m) = prM p (dgP p + 1) := by
    intro m
    induction m with
    | zero => rfl
    | succ m ih =>
      show prM p (dgP p + 1 + m) * mM (p (dgP p + 1 + m)) = _
      rw [PoK_hi kp _ (by omega), ih]
      exact Nat.mul_one _
  have d8 : dgP p ≤ 8 := dgF_le p 8
  rw [← key (9 - (dgP p + 1))]
  congr 1
  omega
theorem whole_bits {p : Po} {n e : Nat} (kp : PoK p) (he : dgP p * e ≤ 8) (he8 : e ≤ 8) (hn : n ≤ e) : 9 ^ n * prM p 9 ^ n < Bp 203 := by
  have d8 : dgP p ≤ 8 := dgF_le p 8
  have q1 : prM p (dgP p + 1) ≤ 2 ^ (200 * (dgP p + 1)) := prM_le kp.1 _ (by omega)
  have q2 : prM p (dgP p + 1) ^ n ≤ 2 ^ (200 * (dgP p + 1) * n) := by
    rw [Nat.pow_mul 2]
    exact Nat.pow_le_pow_left q1 _
  have dn : dgP p * n ≤ 8 := Nat.le_trans (Nat.mul_le_mul_left _ hn) he
  have le : 200 * (dgP p + 1) * n ≤ 3200 := by
    rw [Nat.mul_assoc, Nat.add_mul]
    omega
  have n9 := nine n (by omega)
  rw [prM_9 kp, Bp_two]
  refine Nat.lt_of_le_of_lt (Nat.mul_le_mul n9 q2) ?_
  rw [← Nat.pow_add]
  exact Nat.pow_lt_pow_right (by decide) (by omega)
theorem whole_one {p : Po} (kp : PoK p) : prM p 9 < Bp 113 := by
  have d8 : dgP p ≤ 8 := dgF_le p 8
  have q1 : prM p 9 ≤ 2 ^ (200 * 9) := prM_le kp.1 _ (by omega)
  rw [Bp_two]
  exact Nat.lt_of_le_of_lt q1 (Nat.pow_lt_pow_right (by decide) (by decide))
