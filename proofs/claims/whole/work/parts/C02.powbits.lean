/-! polynomials: how many bits powers have -/
def mM (x : Rat) : Nat := max x.num.natAbs x.den
def prM (p : Po) : Nat → Nat
  | 0 => 1
  | k + 1 => prM p k * mM (p k)
def prE (p : Po) : Nat → Nat
  | 0 => 1
  | k + 1 => prE p k * (p k).den
theorem mM_pos (x : Rat) : 0 < mM x := by
  have := x.den_nz
  unfold mM
  omega
theorem prE_pos (p : Po) : ∀ k, 0 < prE p k := by
  intro k
  induction k with
  | zero => exact Nat.one_pos
  | succ k ih => exact Nat.mul_pos ih (Nat.pos_of_ne_zero (p k).den_nz)
theorem prE_le (p : Po) : ∀ k, prE p k ≤ prM p k := by
  intro k
  induction k with
  | zero => exact Nat.le_refl _
  | succ k ih => exact Nat.mul_le_mul ih (Nat.le_max_right _ _)
/-- one denominator for all coefficients -/
theorem one_den (p : Po) : ∀ k i, i < k → ∃ G : Int, p i = mkRat G (prE p k) ∧ G.natAbs ≤ prM p k := by
  intro k
  induction k with
  | zero => intro i hi; omega
  | succ k ih =>
    intro i hi
    by_cases z : i < k
    · obtain ⟨G, g1, g2⟩ := ih i z
      refine ⟨G * (p k).den, ?_, ?_⟩
      · rw [g1]
        exact (Rat.mkRat_mul_right (p k).den_nz).symm
      · rw [Int.natAbs_mul, Int.natAbs_natCast]
        exact Nat.mul_le_mul g2 (Nat.le_max_right _ _)
    · have e : i = k := by omega
      subst e
      refine ⟨(p i).num * prE p i, ?_, ?_⟩
      · have h := Rat.mkRat_mul_right (n := (p i).num) (d := (p i).den) (Nat.pos_iff_ne_zero.mp (prE_pos p i))
        rw [Rat.mkRat_self] at h
        show p i = mkRat _ (prE p i * (p i).den)
        rw [Nat.mul_comm (prE p i)]
        exact h.symm
      · rw [Int.natAbs_mul, Int.natAbs_natCast, Nat.mul_comm]
        exact Nat.mul_le_mul (prE_le p i) (Nat.le_max_left _ _)
theorem mk_add {a b : Int} {D : Nat} (hD : D ≠ 0) : mkRat a D + mkRat b D = mkRat (a + b) D := by
  rw [Rat.mkRat_add_mkRat a b hD hD, ← Int.add_mul]
  exact Rat.mkRat_mul_right hD
/-- partial sums of a coefficient of the next power -/
theorem part_bd {p f : Po} {k E B : Nat} (hE : E ≠ 0) (hf : ∀ i, i < 9 → ∃ G : Int, f i = mkRat G E ∧ G.natAbs ≤ B) (hp : ∀ i, k ≤ i → p i = 0) {i : Nat} (hi : i < 9) : ∀ m, m ≤ i + 1 → ∃ G : Int, suR (fun j => f j * p (i - j)) m = mkRat G (E * prE p k) ∧ G.natAbs ≤ m * (B * prM p k) := by
  have hD : E * prE p k ≠ 0 := Nat.mul_ne_zero hE (Nat.pos_iff_ne_zero.mp (prE_pos p k))
  intro m
  induction m with
  | zero => intro _; exact ⟨0, (Rat.zero_mkRat _).symm, by show 0 ≤ _; omega⟩
  | succ m ih =>
    intro hm
    obtain ⟨G, g1, g2⟩ := ih (by omega)
    obtain ⟨H, h1, h2⟩ := hf m (by omega)
    have hx : ∃ K : Int, p (i - m) = mkRat K (prE p k) ∧ K.natAbs ≤ prM p k := by
      by_cases z : i - m < k
      · exact one_den p k (i - m) z
      · exact ⟨0, by rw [hp _ (by omega)]; exact (Rat.zero_mkRat _).symm, Nat.zero_le _⟩
    obtain ⟨K, k1, k2⟩ := hx
    refine ⟨G + H * K, ?_, ?_⟩
    · show suR (fun j => f j * p (i - j)) m + f m * p (i - m) = _
      rw [g1, h1, k1, Rat.mkRat_mul_mkRat, mk_add hD]
    · have b1 : (H * K).natAbs ≤ B * prM p k := by
        rw [Int.natAbs_mul]
        exact Nat.mul_le_mul h2 k2
      have := Int.natAbs_add_le G (H * K)
      rw [Nat.succ_mul]
      omega
theorem pow_bd {p : Po} {k : Nat} (hp : ∀ i, k ≤ i → p i = 0) : ∀ n i, i < 9 → ∃ G : Int, powP p n i = mkRat G (prE p k ^ n) ∧ G.natAbs ≤ 9 ^ n * prM p k ^ n := by
  intro n
  induction n with
  | zero =>
    intro i hi
    rw [Nat.pow_zero, Nat.pow_zero, Nat.pow_zero]
    by_cases z : i = 0
    · exact ⟨1, by show (if i = 0 then (1 : Rat) else 0) = _; rw [if_pos z]; rfl, by decide⟩
    · exact ⟨0, by show (if i = 0 then (1 : Rat) else 0) = _; rw [if_neg z]; rfl, by decide⟩
  | succ n ih =>
    intro i hi
    obtain ⟨G, g1, g2⟩ := part_bd (k := k) (Nat.pos_iff_ne_zero.mp (Nat.pow_pos (prE_pos p k))) ih hp hi (i + 1) (Nat.le_refl _)
    refine ⟨G, by rw [Nat.pow_succ]; exact g1, Nat.le_trans g2 ?_⟩
    rw [Nat.pow_succ, Nat.pow_succ]
    have : (i + 1) * (9 ^ n * prM p k ^ n * prM p k) ≤ 9 * (9 ^ n * prM p k ^ n * prM p k) := Nat.mul_le_mul_right _ (by omega)
    refine Nat.le_trans this (Nat.le_of_eq ?_)
    ac_rfl
theorem mk_le {G : Int} {D : Nat} (hD : 0 < D) : (mkRat G D).num.natAbs ≤ G.natAbs ∧ (mkRat G D).den ≤ D := by
  obtain ⟨e1, e2⟩ := rat_rz (z := G) hD
  rw [e1, e2, rz_abs]
  exact ⟨Nat.div_le_self _ _, Nat.div_le_self _ _⟩
/-- a power, and the partial sums of the next one -/
theorem pow_bits {p : Po} {k n : Nat} (hp : ∀ i, k ≤ i → p i = 0) {i : Nat} (hi : i < 9) : ((powP p n i).num.natAbs ≤ 9 ^ n * prM p k ^ n ∧ (powP p n i).den ≤ 9 ^ n * prM p k ^ n) ∧ ∀ m, m ≤ i + 1 → (suR (fun j => powP p n j * p (i - j)) m).num.natAbs ≤ 9 ^ (n + 1) * prM p k ^ (n + 1) ∧ (suR (fun j => powP p n j * p (i - j)) m).den ≤ 9 ^ (n + 1) * prM p k ^ (n + 1) := by
  have le : ∀ n, prE p k ^ n ≤ 9 ^ n * prM p k ^ n := fun n => Nat.le_trans (Nat.pow_le_pow_left (prE_le p k) n) (Nat.le_mul_of_pos_left _ (Nat.pow_pos (by decide)))
  obtain ⟨G, g1, g2⟩ := pow_bd hp n i hi
  obtain ⟨m1, m2⟩ := mk_le (G := G) (D := prE p k ^ n) (Nat.pow_pos (prE_pos p k))
  refine ⟨⟨by rw [g1]; exact Nat.le_trans m1 g2, by rw [g1]; exact Nat.le_trans m2 (le n)⟩, fun m hm => ?_⟩
  obtain ⟨H, h1, h2⟩ := part_bd (k := k) (Nat.pos_iff_ne_zero.mp (Nat.pow_pos (prE_pos p k))) (fun i hi => pow_bd hp n i hi) hp hi m hm
  rw [← Nat.pow_succ] at h1
  obtain ⟨m3, m4⟩ := mk_le (G := H) (D := prE p k ^ (n + 1)) (Nat.pow_pos (prE_pos p k))
  have h2' : H.natAbs ≤ 9 ^ (n + 1) * prM p k ^ (n + 1) := by
    refine Nat.le_trans h2 ?_
    rw [Nat.pow_succ, Nat.pow_succ]
    have : m * (9 ^ n * prM p k ^ n * prM p k) ≤ 9 * (9 ^ n * prM p k ^ n * prM p k) := Nat.mul_le_mul_right _ (by omega)
    refine Nat.le_trans this (Nat.le_of_eq ?_)
    ac_rfl
  exact ⟨by rw [h1]; exact Nat.le_trans m3 h2', by rw [h1]; exact Nat.le_trans m4 (le (n + 1))⟩
theorem mM_fit {x : Rat} (h : Fit x) : mM x ≤ 2 ^ 200 := by
  unfold mM
  have := h.1
  have := h.2
  omega
theorem mM_pow {x : Rat} {n : Nat} (h : Fit (x ^ n)) : mM x ^ n ≤ 2 ^ 200 := by
  unfold Fit at h
  rw [Rat.num_pow, Rat.den_pow, Int.natAbs_pow] at h
  unfold mM
  by_cases z : x.num.natAbs ≤ x.den
  · rw [Nat.max_eq_right z]
    exact Nat.le_of_lt h.2
  · rw [Nat.max_eq_left (by omega)]
    exact Nat.le_of_lt h.1
theorem prM_le {p : Po} (fp : FitA p) : ∀ k, k ≤ 9 → prM p k ≤ 2 ^ (200 * k) := by
  intro k
  induction k with
  | zero => intro _; exact Nat.le_refl _
  | succ k ih =>
    intro hk
    rw [Nat.mul_succ, Nat.pow_add]
    exact Nat.mul_le_mul (ih (by omega)) (mM_fit (fp k (by omega)))
theorem nine : ∀ n, n ≤ 8 → 9 ^ n ≤ 2 ^ (4 * n) := by decide
/-- bits enough, for what is left once the tests on the way held -/
theorem raise_bits {p : Po} {n : Nat} (kp : PoK p) (hn : dgP p * (n + 1) ≤ 8) (hn8 : n ≤ 7) (h0 : 1 ≤ n → p 0 = 0 ∨ Fit (p 0 ^ n)) (h1 : 1 ≤ n → Fit (p (dgP p) ^ n)) : ∃ P Q, P + Q + 8 ≤ 100 ∧ (∀ j, j < 9 → (powP p n j).num.natAbs < Bw Q ∧ (powP p n j).den < Bw Q) ∧ ∀ i, i < 9 → ∀ m, m ≤ i + 1 → (suR (fun j => powP p n j * p (i - j)) m).num.natAbs < Bw P ∧ (suR (fun j => powP p n j * p (i - j)) m).den < Bw P := by
  have d8 : dgP p ≤ 8 := dgF_le p 8
  have hp : ∀ i, dgP p + 1 ≤ i → p i = 0 := fun i hi => PoK_hi kp i (by omega)
  have pb := fun i hi => pow_bits (n := n) hp (i := i) hi
  have p9 := nine n (by omega)
  have p91 := nine (n + 1) (by omega)
  have big : ∀ {x a b k : Nat}, x ≤ 9 ^ a * b → 9 ^ a ≤ 2 ^ (4 * a) → ∀ c, b ≤ 2 ^ c → 4 * a + c < 30 * k → x < Bw k := fun {x a b k} hx h9 c hb hk => by
    have e : 9 ^ a * b ≤ 2 ^ (4 * a + c) := by rw [Nat.pow_add]; exact Nat.mul_le_mul h9 hb
    rw [Bw_two]
    exact Nat.lt_of_le_of_lt (Nat.le_trans hx e) (Nat.pow_lt_pow_right (by decide) hk)
  by_cases z : n ≤ 1
  · have q1 : prM p (dgP p + 1) ≤ 2 ^ (200 * (dgP p + 1)) := prM_le kp.1 _ (by omega)
    have q2 : prM p (dgP p + 1) ^ (n + 1) ≤ 2 ^ (200 * (dgP p + 1) * (n + 1)) := by
      rw [Nat.pow_mul 2]
      exact Nat.pow_le_pow_left q1 _
    have le : 200 * (dgP p + 1) * (n + 1) ≤ 2000 := by
      rcases (by omega : n = 0 ∨ n = 1) with e | e
      · rw [e]; omega
      · rw [e] at hn ⊢; omega
    refine ⟨67, 7, by decide, fun j hj => ?_, fun i hi m hm => ?_⟩
    · have : Fit (powP p n j) := by
        rcases (by omega : n = 0 ∨ n = 1) with e | e
        · rw [e]
          exact (con_PoK (c := 1) ⟨by decide, by decide⟩).1 j hj
        · rw [e]
          have : powP p 1 j = p j := by
            show mulP (conP 1) p j = p j
            unfold mulP
            rw [suR_1 (k := 0) (j + 1) (by omega) (fun x hx hk => by
              show conP 1 x * p (j - x) = 0
              rw [show conP 1 x = 0 from if_neg hk, Rat.zero_mul])]
            show conP 1 0 * p (j - 0) = p j
            rw [show conP (1 : Rat) 0 = 1 from if_pos rfl, Rat.one_mul]
            rfl
          rw [this]
          exact kp.1 j hj
      exact Fit_f7 this
    · obtain ⟨b1, b2⟩ := (pb i hi).2 m hm
      exact ⟨big b1 p91 _ q2 (by omega), big b2 p91 _ q2 (by omega)⟩
  · have d2 : dgP p ≤ 2 := by
      have : dgP p * 3 ≤ dgP p * (n + 1) := Nat.mul_le_mul_left _ (by omega)
      omega
    have l1 := mM_pow (h1 (by omega))
    have l0 : mM (p 0) ^ n ≤ 2 ^ 200 := by
      rcases h0 (by omega) with y | y
      · rw [y, show mM 0 = 1 from rfl, Nat.one_pow]
        decide
      · exact mM_pow y
    have lm : ∀ j, j < 9 → mM (p j) ≤ 2 ^ 200 := fun j hj => mM_fit (kp.1 j hj)
    have qn : prM p (dgP p + 1) ^ n ≤ 2 ^ 1000 := by
      rcases (by omega : dgP p = 0 ∨ dgP p = 1 ∨ dgP p = 2) with e | e | e
      · rw [e]
        show (1 * mM (p 0)) ^ n ≤ _
        rw [Nat.one_mul]
        exact Nat.le_trans l0 (Nat.pow_le_pow_right (by decide) (by decide))
      · rw [e] at l1 ⊢
        show (1 * mM (p 0) * mM (p 1)) ^ n ≤ _
        rw [Nat.one_mul, Nat.mul_pow]
        exact Nat.le_trans (Nat.mul_le_mul l0 l1) (by rw [← Nat.pow_add]; exact Nat.pow_le_pow_right (by decide) (by decide))
      · have n3 : n ≤ 3 := by rw [e] at hn; omega
        rw [e] at l1 ⊢
        show (1 * mM (p 0) * mM (p 1) * mM (p 2)) ^ n ≤ _
        rw [Nat.one_mul, Nat.mul_pow, Nat.mul_pow]
        have lmid : mM (p 1) ^ n ≤ 2 ^ 600 := by
          refine Nat.le_trans (Nat.pow_le_pow_left (lm 1 (by decide)) n) ?_
          rw [← Nat.pow_mul]
          exact Nat.pow_le_pow_right (by decide) (by omega)
        exact Nat.le_trans (Nat.mul_le_mul (Nat.mul_le_mul l0 lmid) l1) (by rw [← Nat.pow_add, ← Nat.pow_add]; exact Nat.pow_le_pow_right (by decide) (by decide))
    have q1 : prM p (dgP p + 1) ≤ 2 ^ 600 := Nat.le_trans (prM_le kp.1 _ (by omega)) (Nat.pow_le_pow_right (by decide) (by omega))
    have qs : prM p (dgP p + 1) ^ (n + 1) ≤ 2 ^ 1600 := by
      rw [Nat.pow_succ]
      exact Nat.le_trans (Nat.mul_le_mul qn q1) (by rw [← Nat.pow_add]; exact Nat.le_refl _)
    by_cases w : dgP p = 2
    · have n3 : n ≤ 3 := by rw [w] at hn; omega
      refine ⟨54, 34, by decide, fun j hj => ?_, fun i hi m hm => ?_⟩
      · obtain ⟨b1, b2⟩ := (pb j hj).1
        exact ⟨big b1 p9 _ qn (by omega), big b2 p9 _ qn (by omega)⟩
      · obtain ⟨b1, b2⟩ := (pb i hi).2 m hm
        exact ⟨big b1 p91 _ qs (by omega), big b2 p91 _ qs (by omega)⟩
    · have q1' : prM p (dgP p + 1) ≤ 2 ^ 400 := Nat.le_trans (prM_le kp.1 _ (by omega)) (Nat.pow_le_pow_right (by decide) (by omega))
      have qn' : prM p (dgP p + 1) ^ n ≤ 2 ^ 400 := by
        rcases (by omega : dgP p = 0 ∨ dgP p = 1) with e | e
        · rw [e]
          show (1 * mM (p 0)) ^ n ≤ _
          rw [Nat.one_mul]
          exact Nat.le_trans l0 (Nat.pow_le_pow_right (by decide) (by decide))
        · rw [e] at l1 ⊢
          show (1 * mM (p 0) * mM (p 1)) ^ n ≤ _
          rw [Nat.one_mul, Nat.mul_pow]
          exact Nat.le_trans (Nat.mul_le_mul l0 l1) (by rw [← Nat.pow_add]; exact Nat.le_refl _)
      have qs' : prM p (dgP p + 1) ^ (n + 1) ≤ 2 ^ 800 := by
        rw [Nat.pow_succ]
        exact Nat.le_trans (Nat.mul_le_mul qn' q1') (by rw [← Nat.pow_add]; exact Nat.le_refl _)
      refine ⟨30, 20, by decide, fun j hj => ?_, fun i hi m hm => ?_⟩
      · obtain ⟨b1, b2⟩ := (pb j hj).1
        exact ⟨big b1 p9 _ qn' (by omega), big b2 p9 _ qn' (by omega)⟩
      · obtain ⟨b1, b2⟩ := (pb i hi).2 m hm
        exact ⟨big b1 p91 _ qs' (by omega), big b2 p91 _ qs' (by omega)⟩
