/-! bits of small numbers (the first rows are of the kit's families on bits and numbers) -/
def bt (x : Int32) (i : Nat) : Bool := x.toBitVec.getLsbD i
theorem b_ext {x y : Int32} (h : ∀ i, i < 32 → bt x i = bt y i) : x = y := Int32.toBitVec_inj.mp (BitVec.eq_of_getLsbD_eq (fun i hi => h i hi))
theorem s_l : ∀ n, n < 32 → ((nI n &&& 31).toBitVec.smod 32).toNat = n := by decide +kernel
theorem b_sshr (n : Nat) (hn : n < 32) (x : Int32) {i : Nat} (hi : i < 32) : bt (x >>> (nI n &&& 31)) i = if n + i < 32 then bt x (n + i) else bt x 31 := by
  unfold bt
  rw [Int32.toBitVec_shiftRight]
  show (x.toBitVec.sshiftRight ((nI n &&& 31).toBitVec.smod 32).toNat).getLsbD i = _
  rw [s_l n hn, BitVec.getLsbD_sshiftRight, BitVec.msb_eq_getLsbD_last]
  simp [hi]
theorem fa_and (a b : Nat) : nI a &&& nI b = nI (a &&& b) := by
  apply Int32.toBitVec_inj.1
  show BitVec.ofNat 32 a &&& BitVec.ofNat 32 b = BitVec.ofNat 32 (a &&& b)
  apply BitVec.eq_of_getLsbD_eq
  intro i hi
  simp [hi]
theorem fa_or (a b : Nat) : nI a ||| nI b = nI (a ||| b) := by
  apply Int32.toBitVec_inj.1
  show BitVec.ofNat 32 a ||| BitVec.ofNat 32 b = BitVec.ofNat 32 (a ||| b)
  apply BitVec.eq_of_getLsbD_eq
  intro i hi
  simp [hi]
theorem fa_mask (n k : Nat) : nI n &&& nI (2 ^ k - 1) = nI (n % 2 ^ k) := by rw [fa_and, Nat.and_two_pow_sub_one_eq_mod]
theorem fa_or_sum {a k : Nat} (b : Nat) (h : a < 2 ^ k) : nI (2 ^ k * b) ||| nI a = nI (2 ^ k * b + a) := by rw [fa_or, Nat.two_pow_add_eq_or_of_lt h]
theorem bt_nI {m i : Nat} (hi : i < 32) : bt (nI m) i = m.testBit i := by
  unfold bt
  show (BitVec.ofNat 32 m).getLsbD i = _
  rw [BitVec.getLsbD_ofNat]
  simp [hi]
theorem i32_sar {v n : Nat} (hv : v < 2147483648) (hn : n < 32) : Int32.ofNat v >>> (Int32.ofNat n &&& 31) = Int32.ofNat (v / 2 ^ n) := by
  have big : ∀ j, 31 ≤ j → v.testBit j = false := fun j hj => Nat.testBit_lt_two_pow (Nat.lt_of_lt_of_le hv (show (2 : Nat) ^ 31 ≤ 2 ^ j from Nat.pow_le_pow_right (by decide) hj))
  refine b_ext (fun i hi => ?_)
  show bt (nI v >>> (nI n &&& 31)) i = bt (nI (v / 2 ^ n)) i
  rw [b_sshr n hn _ hi, bt_nI (m := v / 2 ^ n) hi, Nat.testBit_div_two_pow]
  by_cases h : n + i < 32
  · rw [if_pos h, bt_nI h]
    first | rfl | rw [Nat.add_comm]
  · rw [if_neg h, bt_nI (by decide), big 31 (by omega)]
    first | rw [big (n + i) (by omega)] | rw [big (i + n) (by omega)]
theorem i32_mask16 (v : Nat) : Int32.ofNat v &&& 65535 = Int32.ofNat (v % 65536) := fa_mask v 16
theorem i32_sar16 {v : Nat} (hv : v < 2147483648) : Int32.ofNat v >>> ((16 : Int32) &&& 31) = Int32.ofNat (v / 65536) := i32_sar (n := 16) hv (by decide)
theorem i32_sar1 {v : Nat} (hv : v < 2147483648) : Int32.ofNat v >>> ((1 : Int32) &&& 31) = Int32.ofNat (v / 2) := i32_sar (n := 1) hv (by decide)
theorem i32_sar4 {v : Nat} (hv : v < 2147483648) : Int32.ofNat v >>> ((4 : Int32) &&& 31) = Int32.ofNat (v / 16) := i32_sar (n := 4) hv (by decide)
theorem i32_mask4 (v : Nat) : Int32.ofNat v &&& 15 = Int32.ofNat (v % 16) := fa_mask v 4
theorem i32_mask1 (v : Nat) : Int32.ofNat v &&& 1 = Int32.ofNat (v % 2) := fa_mask v 1
/-! numbers by digits of 16 bits -/
def Bp (i : Nat) : Nat := 65536 ^ i
theorem Bp_s (i : Nat) : Bp (i + 1) = Bp i * 65536 := Nat.pow_succ 65536 i
theorem Bp_pos (i : Nat) : 0 < Bp i := by
  induction i with
  | zero => decide
  | succ i ih => rw [Bp_s]; omega
theorem Bp_le {i j : Nat} (h : i ≤ j) : Bp i ≤ Bp j := Nat.pow_le_pow_right (by decide) h
theorem Bp_lt {i j : Nat} (h : Bp i < Bp j) : i < j := by
  by_cases q : i < j
  · exact q
  · exact absurd (Bp_le (Nat.not_lt.mp q)) (Nat.not_le.mpr h)
def dg (n i : Nat) : Nat := n / Bp i % 65536
theorem dg_lt (n i : Nat) : dg n i < 65536 := Nat.mod_lt _ (by decide)
theorem dg_big {n k i : Nat} (h : n < Bp k) (hk : k ≤ i) : dg n i = 0 := by
  unfold dg
  rw [Nat.div_eq_of_lt (Nat.lt_of_lt_of_le h (Bp_le hk))]
theorem mod_s (n i : Nat) : n % Bp (i + 1) = n % Bp i + Bp i * dg n i := by
  rw [Bp_s]
  exact Nat.mod_mul
theorem div_s (n i : Nat) : n / Bp (i + 1) = n / Bp i / 65536 := by
  rw [Bp_s, Nat.div_div_eq_div_mul]
def ca (a b i : Nat) : Nat := (a % Bp i + b % Bp i) / Bp i
theorem ca_0 (a b : Nat) : ca a b 0 = 0 := by
  unfold ca
  rw [show Bp 0 = 1 from rfl, Nat.mod_one, Nat.mod_one]
theorem ca_le (a b i : Nat) : ca a b i ≤ 1 := by
  have h1 := Nat.mod_lt a (Bp_pos i)
  have h2 := Nat.mod_lt b (Bp_pos i)
  have : ca a b i < 2 := Nat.div_lt_of_lt_mul (by omega)
  omega
theorem ca_s (a b i : Nat) : (ca a b i + dg a i + dg b i) % 65536 = dg (a + b) i ∧ (ca a b i + dg a i + dg b i) / 65536 = ca a b (i + 1) := by
  have hP := Bp_pos i
  constructor
  · have e : a + b = (a % Bp i + b % Bp i) + Bp i * (a / Bp i + b / Bp i) := by
      have h1 := Nat.mod_add_div a (Bp i)
      have h2 := Nat.mod_add_div b (Bp i)
      rw [Nat.mul_add]
      omega
    have e2 : (a + b) / Bp i = ca a b i + (a / Bp i + b / Bp i) := by
      rw [e, Nat.add_mul_div_left _ _ hP]
      rfl
    unfold dg
    rw [e2]
    omega
  · have e : a % Bp (i + 1) + b % Bp (i + 1) = (a % Bp i + b % Bp i) + Bp i * (dg a i + dg b i) := by
      rw [mod_s, mod_s, Nat.mul_add]
      omega
    unfold ca
    rw [e, Bp_s i, ← Nat.div_div_eq_div_mul, Nat.add_mul_div_left _ _ hP, Nat.add_assoc]
theorem ca_n {a b k : Nat} (ha : a < Bp k) (hb : b < Bp k) : ca a b k = (a + b) / Bp k := by
  unfold ca
  rw [Nat.mod_eq_of_lt ha, Nat.mod_eq_of_lt hb]
/-! a row of limbs holds a number -/
def Rg (l s : Nat → Int32) (r k n : Nat) : Prop := s r = Int32.ofNat k ∧ k ≤ 440 ∧ n < Bp k ∧ (k = 0 ∨ Bp (k - 1) ≤ n) ∧ ∀ j, j < k → l (440 * r + j) = Int32.ofNat (dg n j)
def Kp (l s l' s' : Nat → Int32) (r : Nat) : Prop := (∀ x, x ≠ r → s' x = s x) ∧ ∀ x, ¬ (440 * r ≤ x ∧ x < 440 * r + 440) → l' x = l x
theorem Kp_trans {l s l' s' l'' s'' : Nat → Int32} {r : Nat} (h : Kp l s l' s' r) (h' : Kp l' s' l'' s'' r) : Kp l s l'' s'' r := ⟨fun x hx => (h'.1 x hx).trans (h.1 x hx), fun x hx => (h'.2 x hx).trans (h.2 x hx)⟩
theorem Rg.keep {l s l' s' : Nat → Int32} {r t k n : Nat} (h : Rg l s t k n) (hk : Kp l s l' s' r) (hr : t ≠ r) : Rg l' s' t k n := by
  obtain ⟨h1, h2, h3, h4, h5⟩ := h
  exact ⟨(hk.1 t hr).trans h1, h2, h3, h4, fun j hj => (hk.2 _ (by omega)).trans (h5 j hj)⟩
theorem Rg_size {k k' n : Nat} (h : n < Bp k) (h' : k' = 0 ∨ Bp (k' - 1) ≤ n) : k' ≤ k := by
  rcases h' with h' | h'
  · omega
  · have := Bp_lt (Nat.lt_of_le_of_lt h' h)
    omega
def wrl (l : Nat → Int32) (r n i : Nat) : Nat → Int32 := fun x => if 440 * r ≤ x ∧ x < 440 * r + i then Int32.ofNat (dg n (x - 440 * r)) else l x
theorem wrl_0 {l : Nat → Int32} {r n : Nat} : wrl l r n 0 = l := by
  funext x
  unfold wrl
  rw [if_neg (by omega)]
theorem wrl_s {l : Nat → Int32} {r n i : Nat} : va_up (wrl l r n i) (440 * r + i) (Int32.ofNat (dg n i)) = wrl l r n (i + 1) := by
  funext x
  unfold wrl va_up
  by_cases h : x = 440 * r + i
  · rw [if_pos h, h, if_pos (by omega), show 440 * r + i - 440 * r = i by omega]
  · rw [if_neg h]
    dsimp only
    by_cases h2 : 440 * r ≤ x ∧ x < 440 * r + i
    · rw [if_pos h2, if_pos (by omega)]
    · rw [if_neg h2, if_neg (by omega)]
theorem wrl_ge {l : Nat → Int32} {r n i j : Nat} (h : i ≤ j) : wrl l r n i (440 * r + j) = l (440 * r + j) := by
  unfold wrl
  rw [if_neg (by omega)]
theorem wrl_lt {l : Nat → Int32} {r n i j : Nat} (h : j < i) : wrl l r n i (440 * r + j) = Int32.ofNat (dg n j) := by
  unfold wrl
  rw [if_pos (by omega), show 440 * r + j - 440 * r = j by omega]
theorem wrl_ne {l : Nat → Int32} {r n i t j : Nat} (h : t ≠ r) (hj : j < 440) (hi : i ≤ 440) : wrl l r n i (440 * t + j) = l (440 * t + j) := by
  unfold wrl
  rw [if_neg (by omega)]
theorem wrl_Kp {l s : Nat → Int32} {r n i : Nat} {y : Int32} (hi : i ≤ 440) : Kp l s (wrl l r n i) (va_up s r y) r := ⟨fun x hx => va_up_ne _ _ hx, fun x hx => by
  unfold wrl
  rw [if_neg (by omega)]⟩
theorem wrl_Rg {l s : Nat → Int32} {r n k : Nat} (hk : k ≤ 440) (h : n < Bp k) (h' : k = 0 ∨ Bp (k - 1) ≤ n) : Rg (wrl l r n k) (va_up s r (Int32.ofNat k)) r k n := ⟨va_up_self _ _ _, hk, h, h', fun j hj => wrl_lt hj⟩
