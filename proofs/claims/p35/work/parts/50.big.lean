/-! bits of small numbers (the first rows are of the kit's families on bits and numbers) -/
def bt (x : Int32) (i : Nat) : Bool := x.toBitVec.getLsbD i
theorem b_ext {x y : Int32} (h : ∀ i, i < 32 → bt x i = bt y i) : x = y := Int32.toBitVec_inj.mp (BitVec.eq_of_getLsbD_eq (fun i hi => h i hi))
theorem s_l : ∀ n, n < 32 → ((nI n &&& 31).toBitVec.smod 32).toNat = n := by decide +kernel
theorem b_sshr (n : Nat) (hn : n < 32) (x : Int32) {i : Nat} (hi : i < 32) : bt (x >>> (nI n &&& 31)) i = if n + i < 32 then bt x (n + i) else bt x 31 := by
  unfold bt
  rw [Int32.toBitVec_shiftRight]
  show (x.toBitVec.sshiftRight ((nI n &&& 31).toBitVec.smod 32).toNat).getLsbD i = _
  rw [s_l n hn, BitVec.getLsbD_sshiftRight, BitVec.msb_eq_getLsbD_last]
  simp [hi]
theorem bt_nI {m i : Nat} (hi : i < 32) : bt (nI m) i = m.testBit i := by
  unfold bt
  show (BitVec.ofNat 32 m).getLsbD i = _
  rw [BitVec.getLsbD_ofNat]
  simp [hi]
theorem i32_sar {v n : Nat} (hv : v < 2147483648) (hn : n < 32) : Int32.ofNat v >>> (Int32.ofNat n &&& 31) = Int32.ofNat (v / 2 ^ n) := by
  have big : ∀ j, 31 ≤ j → v.testBit j = false := fun j hj => Nat.testBit_lt_two_pow (Nat.lt_of_lt_of_le hv (show (2 : Nat) ^ 31 ≤ 2 ^ j from Nat.pow_le_pow_right (by first | decide | omega) hj))
  refine b_ext (fun i hi => ?_)
  show bt (nI v >>> (nI n &&& 31)) i = bt (nI (v / 2 ^ n)) i
  rw [b_sshr n hn _ hi, bt_nI (m := v / 2 ^ n) hi, Nat.testBit_div_two_pow]
  by_cases h : n + i < 32
  · rw [if_pos h, bt_nI h]
    first | rfl | rw [Nat.add_comm]
  · rw [if_neg h, bt_nI (by first | decide | omega), big 31 (by omega)]
    first | rw [big (n + i) (by omega)] | rw [big (i + n) (by omega)]
theorem i32_sar1 {v : Nat} (hv : v < 2147483648) : Int32.ofNat v >>> ((1 : Int32) &&& 31) = Int32.ofNat (v / 2) := i32_sar (n := 1) hv (by first | decide | omega)
/-! numbers by digits of 16 bits -/
def Bp (i : Nat) : Nat := 65536 ^ i
def dg (n i : Nat) : Nat := n / Bp i % 65536
def ca (a b i : Nat) : Nat := (a % Bp i + b % Bp i) / Bp i
/-! a row of limbs holds a number -/
