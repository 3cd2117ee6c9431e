/-! the reference's values: loaded, held, put -/
theorem s_u : ∀ n, n < 32 → (((nI n).toUInt32 &&& Int32.toUInt32 31).toBitVec % 32).toNat = n := by decide +kernel
theorem b_ushr (n : Nat) (hn : n < 32) (x : Int32) (i : Nat) : bt ((x.toUInt32 >>> ((nI n).toUInt32 &&& Int32.toUInt32 31)).toInt32) i = bt x (n + i) := by
  show (x.toUInt32 >>> ((nI n).toUInt32 &&& Int32.toUInt32 31)).toBitVec.getLsbD i = x.toUInt32.toBitVec.getLsbD (n + i)
  rw [UInt32.toBitVec_shiftRight]
  show (x.toUInt32.toBitVec >>> (((nI n).toUInt32 &&& Int32.toUInt32 31).toBitVec % 32).toNat).getLsbD i = _
  rw [s_u n hn, BitVec.getLsbD_ushiftRight]
theorem i32_ushr16 {x : Nat} (h : x < 2147483648) : ((Int32.ofNat x).toUInt32 >>> ((16 : Int32).toUInt32 &&& Int32.toUInt32 31)).toInt32 = Int32.ofNat (x / 65536) := by
  refine b_ext (fun i hi => ?_)
  show bt (((nI x).toUInt32 >>> ((nI 16).toUInt32 &&& Int32.toUInt32 31)).toInt32) i = bt (nI (x / 2 ^ 16)) i
  rw [b_ushr 16 (by decide), bt_nI (m := x / 2 ^ 16) hi, Nat.testBit_div_two_pow]
  by_cases q : 16 + i < 32
  · rw [bt_nI q]
    first | rfl | rw [Nat.add_comm]
  · have big : ∀ j, 31 ≤ j → x.testBit j = false := fun j hj => Nat.testBit_lt_two_pow (Nat.lt_of_lt_of_le h (show (2 : Nat) ^ 31 ≤ 2 ^ j from Nat.pow_le_pow_right (by decide) hj))
    have : bt (nI x) (16 + i) = false := by
      unfold bt
      exact BitVec.getLsbD_of_ge _ _ (by omega)
    rw [this]
    first | rw [big (16 + i) (by omega)] | rw [big (i + 16) (by omega)]
def Kv (v v' : Nat → Int32) (i : Nat) : Prop := ∀ x, ¬ (28 * i ≤ x ∧ x < 28 * i + 28) → v' x = v x
def Vv (v : Nat → Int32) (i : Nat) (z : Int) (d : Nat) : Prop := v (28 * i) = Int32.ofInt z.sign ∧ (∀ j, j < 13 → v (28 * i + 1 + j) = Int32.ofNat (dg z.natAbs j)) ∧ (∀ j, j < 13 → v (28 * i + 14 + j) = Int32.ofNat (dg d j)) ∧ z.natAbs < 2 ^ 200 ∧ 0 < d ∧ d < 2 ^ 200 ∧ Nat.gcd z.natAbs d = 1
theorem Vv.keep {v v' : Nat → Int32} {i k : Nat} {z : Int} {d : Nat} (h : Vv v k z d) (hk : Kv v v' i) (hi : k ≠ i) : Vv v' k z d := by
  obtain ⟨h1, h2, h3, h4⟩ := h
  exact ⟨(hk _ (by omega)).trans h1, fun j hj => (hk _ (by omega)).trans (h2 j hj), fun j hj => (hk _ (by omega)).trans (h3 j hj), h4⟩
theorem p200 {n : Nat} (h : n < 2 ^ 200) : n < Bp 13 := Nat.lt_of_lt_of_le h (by rw [Bp_two]; exact Nat.pow_le_pow_right (by decide) (by decide))
section GI
variable {I : Nat → Nat → Int32} {J : Nat → Nat → Int64} {R : Nat → Nat → Option Nat} {l s v : Nat → Int32}
theorem m_loadR {r i f n : Nat} (hR : RA R) (hr : r < 16) (hb : 28 * i + f + 13 ≤ 104160) (hd : ∀ j, j < 13 → v (28 * i + f + j) = Int32.ofNat (dg n j)) (hn : n < Bp 13) : ∃ l' s' k, f_X12_load (bM I l s v J R) 4561 (Int32.ofNat r) (Int32.ofNat i) (Int32.ofNat f) = some (bM I l' s' v J R) ∧ Rg l' s' r k n ∧ k ≤ 13 ∧ Kp l s l' s' r := by
  have h := m_load (I := I) (J := J) (l := l) (s := s) (v := v) (r := r) (i := i) (f := f) hR hr hb
  have e : ldv l v r (28 * i + f) 13 = wrl l r n 13 := by
    funext x
    unfold ldv wrl
    by_cases q : 440 * r ≤ x ∧ x < 440 * r + 13
    · rw [if_pos q, if_pos q, hd _ (by omega)]
    · rw [if_neg q, if_neg q]
  have t := tsz_dg hn (show 13 ≤ 440 by decide)
  rw [e, tsz_congr (d' := fun j => Int32.ofNat (dg n j)) (fun j hj => hd j hj)] at h
  refine ⟨_, _, _, h, ⟨va_up_self _ _ _, by omega, t.2.1, t.2.2, fun j hj => wrl_lt (by omega)⟩, t.1, wrl_Kp (by decide)⟩
theorem m_loadN {r i d : Nat} {z : Int} (hR : RA R) (hr : r < 16) (hi : i < 3700) (V : Vv v i z d) : ∃ l' s' k, f_X12_loadNumerator (bM I l s v J R) 4561 (Int32.ofNat r) (Int32.ofNat i) = some (bM I l' s' v J R) ∧ Rg l' s' r k z.natAbs ∧ k ≤ 13 ∧ Kp l s l' s' r := by
  obtain ⟨l', s', k, h1, h2⟩ := m_loadR (I := I) (J := J) (l := l) (s := s) (v := v) (r := r) (i := i) (f := 1) hR hr (by omega) V.2.1 (p200 V.2.2.2.1)
  refine ⟨l', s', k, ?_, h2⟩
  unfold f_X12_loadNumerator
  exact xb_iq ok_4561 (xb_eq h1 rfl)
theorem m_loadD {r i d : Nat} {z : Int} (hR : RA R) (hr : r < 16) (hi : i < 3700) (V : Vv v i z d) : ∃ l' s' k, f_X12_loadDenominator (bM I l s v J R) 4561 (Int32.ofNat r) (Int32.ofNat i) = some (bM I l' s' v J R) ∧ Rg l' s' r k d ∧ k ≤ 13 ∧ Kp l s l' s' r := by
  obtain ⟨l', s', k, h1, h2⟩ := m_loadR (I := I) (J := J) (l := l) (s := s) (v := v) (r := r) (i := i) (f := 14) hR hr (by omega) V.2.2.1 (p200 V.2.2.2.2.2.1)
  refine ⟨l', s', k, ?_, h2⟩
  unfold f_X12_loadDenominator
  exact xb_iq ok_4561 (xb_eq h1 rfl)
theorem m_holdR {r i f k n : Nat} (hR : RA R) (hr : r < 16) (hb : 28 * i + f + 13 ≤ 104160) (A : Rg l s r k n) : ∃ v', f_X12_hold (bM I l s v J R) 4561 (Int32.ofNat i) (Int32.ofNat r) (Int32.ofNat f) = some (bM I l s v' J R) ∧ (∀ j, j < 13 → v' (28 * i + f + j) = Int32.ofNat (dg n j)) ∧ ∀ x, ¬ (28 * i + f ≤ x ∧ x < 28 * i + f + 13) → v' x = v x := by
  refine ⟨_, m_hold (n := 4625) (by decide) hR hr hb A.1 A.2.1, fun j hj => ?_, fun x hx => ?_⟩
  · unfold holdv
    rw [if_pos (by omega), show 28 * i + f + j - (28 * i + f) = j by omega]
    by_cases q : j < k
    · rw [if_pos q]
      exact A.2.2.2.2 j q
    · rw [if_neg q, dg_big A.2.2.1 (by omega)]
      rfl
  · unfold holdv
    rw [if_neg hx]
theorem m_putR {r x : Nat} (hR : RA R) (hr : r < 16) (hx : x < 2147483648) : ∃ l' s' k, f_X12_put (bM I l s v J R) 4561 (Int32.ofNat r) (Int32.ofNat x) = some (bM I l' s' v J R) ∧ Rg l' s' r k x ∧ k ≤ 2 ∧ Kp l s l' s' r := by
  have d0 : dg x 0 = x % 65536 := by
    unfold dg
    rw [show Bp 0 = 1 from rfl, Nat.div_one]
  have d1 : dg x 1 = x / 65536 := by
    unfold dg
    rw [show Bp 1 = 65536 from rfl]
    omega
  have w0 := wrl_s (l := l) (r := r) (n := x) (i := 0)
  have w1 := wrl_s (l := l) (r := r) (n := x) (i := 1)
  rw [wrl_0, d0, Nat.add_zero] at w0
  rw [d1, ← w0] at w1
  obtain ⟨k', t1, t2, t3⟩ := m_trimD (I := I) (J := J) (l := l) (v := v) (s := va_up s r (Int32.ofNat 2)) (n := x) hR hr (show 2 ≤ 440 by decide) (by rw [show Bp 2 = 4294967296 from rfl]; omega) (va_up_self _ _ _)
  rw [up_up] at t1 t3
  refine ⟨_, _, k', ?_, t3, t2, wrl_Kp (by decide)⟩
  unfold f_X12_put
  rw [show (440 : Int32) * Int32.ofNat r = Int32.ofNat (440 * r) from (Int32.ofNat_mul 440 r).symm, i32_mask16, i32_ushr16 hx, i32_ofs]
  refine xb_eq (m_g1 (by decide) hR) (xb_eq (m_wl (by decide) (by omega)) (xb_eq (m_g1 (by decide) hR) (xb_eq (m_wl (by decide) (by omega)) ?_)))
  rw [w1]
  exact xb_eq (m_g2 (by decide) hR) (xb_eq (m_ws (by decide) hr) (xb_iq ok_4561 (xb_eq t1 rfl)))
end GI
