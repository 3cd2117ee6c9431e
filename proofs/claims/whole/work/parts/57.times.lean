/-! the reference's whole numbers: times -/
theorem i64_nat {x : Nat} (h : x < 2147483648) : (Int32.ofNat x).toInt64 = Int64.ofNat x := by
  apply Int64.toInt_inj.mp
  rw [Int32.toInt_toInt64, i32_toInt h, Int64.toInt_ofNat_of_lt (by omega)]
theorem i64_and16 {x : Nat} : Int64.ofNat x &&& 65535 = Int64.ofNat (x % 65536) := by
  apply Int64.toBitVec_inj.mp
  show BitVec.ofNat 64 x &&& BitVec.ofNat 64 65535 = BitVec.ofNat 64 (x % 65536)
  apply BitVec.eq_of_getLsbD_eq
  intro i hi
  rw [BitVec.getLsbD_and, BitVec.getLsbD_ofNat, BitVec.getLsbD_ofNat, BitVec.getLsbD_ofNat, show (65535 : Nat) = 2 ^ 16 - 1 from rfl, show (65536 : Nat) = 2 ^ 16 from rfl, Nat.testBit_mod_two_pow, Nat.testBit_two_pow_sub_one]
  simp [hi, Bool.and_comm]
theorem i64_32 {x : Nat} (h : x < 2147483648) : (Int64.ofNat x).toInt32 = Int32.ofNat x := by
  rw [← i64_nat h]
  exact Int32.toInt32_toInt64 _
theorem i64_sar16 {x : Nat} (h : x < 9223372036854775808) : Int64.ofNat x >>> ((16 : Int32).toInt64 &&& 63) = Int64.ofNat (x / 65536) := by
  apply Int64.toBitVec_inj.mp
  rw [Int64.toBitVec_shiftRight]
  show (Int64.ofNat x).toBitVec.sshiftRight (((16 : Int32).toInt64 &&& 63).toBitVec.smod 64).toNat = BitVec.ofNat 64 (x / 65536)
  rw [show (((16 : Int32).toInt64 &&& 63).toBitVec.smod 64).toNat = 16 by decide]
  show (BitVec.ofNat 64 x).sshiftRight 16 = _
  have hm : (BitVec.ofNat 64 x).msb = false := by
    rw [BitVec.msb_eq_decide, BitVec.toNat_ofNat]
    exact decide_eq_false (by omega)
  rw [BitVec.sshiftRight_eq_of_msb_false hm]
  apply BitVec.eq_of_toNat_eq
  rw [BitVec.toNat_ushiftRight, BitVec.toNat_ofNat, BitVec.toNat_ofNat, Nat.shiftRight_eq_div_pow]
  omega
theorem i64_add (x y : Nat) : Int64.ofNat x + Int64.ofNat y = Int64.ofNat (x + y) := (Int64.ofNat_add x y).symm
theorem i64_mul (x y : Nat) : Int64.ofNat x * Int64.ofNat y = Int64.ofNat (x * y) := (Int64.ofNat_mul x y).symm
def cm (u d b k : Nat) : Nat := (u % Bp k + d * (b % Bp k)) / Bp k
theorem cm_0 {u d b : Nat} : cm u d b 0 = 0 := by
  unfold cm
  rw [show Bp 0 = 1 from rfl, Nat.mod_one, Nat.mod_one]
  omega
theorem cm_le {u d b k : Nat} (hd : d < 65536) : cm u d b k < 65536 := by
  have hP := Bp_pos k
  have h1 := Nat.mod_lt u hP
  have h2 := Nat.mod_lt b hP
  have h3 := Nat.mul_le_mul (show d ≤ 65535 by omega) (show b % Bp k ≤ Bp k - 1 by omega)
  refine Nat.div_lt_of_lt_mul ?_
  omega
theorem cm_s (u d b k : Nat) : (dg u k + d * dg b k + cm u d b k) % 65536 = dg (u + d * b) k ∧ (dg u k + d * dg b k + cm u d b k) / 65536 = cm u d b (k + 1) := by
  have hP := Bp_pos k
  have h1 := Nat.mod_add_div u (Bp k)
  have h2 := Nat.mod_add_div b (Bp k)
  constructor
  · have e : u + d * b = (u % Bp k + d * (b % Bp k)) + Bp k * (u / Bp k + d * (b / Bp k)) := by
      have : d * b = d * (b % Bp k) + Bp k * (d * (b / Bp k)) := by
        rw [Nat.mul_left_comm, ← Nat.mul_add, h2]
      rw [Nat.mul_add]
      omega
    have e2 : (u + d * b) / Bp k = cm u d b k + (u / Bp k + d * (b / Bp k)) := by
      rw [e, Nat.add_mul_div_left _ _ hP]
      rfl
    have e3 : d * (b / Bp k) = 65536 * (d * (b / Bp k / 65536)) + d * dg b k := by
      rw [Nat.mul_left_comm, ← Nat.mul_add]
      congr 1
      unfold dg
      omega
    unfold dg at e3 ⊢
    rw [e2, e3]
    omega
  · have e : u % Bp (k + 1) + d * (b % Bp (k + 1)) = (u % Bp k + d * (b % Bp k)) + Bp k * (dg u k + d * dg b k) := by
      rw [mod_s, mod_s, Nat.mul_add, Nat.mul_add, Nat.mul_left_comm d]
      omega
    have e3 : cm u d b (k + 1) = (u % Bp (k + 1) + d * (b % Bp (k + 1))) / (Bp k * 65536) := by
      unfold cm
      rw [Bp_s k]
    rw [e3, e, ← Nat.div_div_eq_div_mul, Nat.add_mul_div_left _ _ hP]
    congr 1
    unfold cm
    omega
def mx (l : Nat → Int32) (t T T' z m : Nat) : Nat → Int32 := fun x => if 440 * t ≤ x ∧ x < 440 * t + z then Int32.ofNat (dg (if x - 440 * t < m then T' else T) (x - 440 * t)) else l x
theorem mx_s {l : Nat → Int32} {t T T' z m : Nat} (h : m < z) : va_up (mx l t T T' z m) (440 * t + m) (Int32.ofNat (dg T' m)) = mx l t T T' z (m + 1) := by
  funext x
  unfold mx va_up
  by_cases e : x = 440 * t + m
  · rw [if_pos e, e, if_pos (by omega), show 440 * t + m - 440 * t = m by omega, if_pos (by omega)]
  · rw [if_neg e]
    dsimp only
    by_cases h2 : 440 * t ≤ x ∧ x < 440 * t + z
    · rw [if_pos h2, if_pos h2]
      by_cases h3 : x - 440 * t < m
      · rw [if_pos h3, if_pos (by omega)]
      · rw [if_neg h3, if_neg (by omega)]
    · rw [if_neg h2, if_neg h2]
theorem mx_ge {l : Nat → Int32} {t T T' z m j : Nat} (h : m ≤ j) (hz : j < z) : mx l t T T' z m (440 * t + j) = Int32.ofNat (dg T j) := by
  unfold mx
  rw [if_pos (by omega), show 440 * t + j - 440 * t = j by omega, if_neg (by omega)]
theorem mx_ne {l : Nat → Int32} {t T T' z m r j : Nat} (h : r ≠ t) (hj : j < 440) (hz : z ≤ 440) : mx l t T T' z m (440 * r + j) = l (440 * r + j) := by
  unfold mx
  rw [if_neg (by omega)]
theorem mx_lo {l : Nat → Int32} {t T T' z m : Nat} (h : ∀ j, j < m → dg T' j = dg T j) : mx l t T T' z m = wrl l t T z := by
  funext x
  unfold mx wrl
  by_cases h2 : 440 * t ≤ x ∧ x < 440 * t + z
  · rw [if_pos h2, if_pos h2]
    by_cases h3 : x - 440 * t < m
    · rw [if_pos h3, h _ h3]
    · rw [if_neg h3]
  · rw [if_neg h2, if_neg h2]
theorem mx_hi {l : Nat → Int32} {t T T' z m : Nat} (h : ∀ j, m ≤ j → dg T' j = dg T j) : mx l t T T' z m = wrl l t T' z := by
  funext x
  unfold mx wrl
  by_cases h2 : 440 * t ≤ x ∧ x < 440 * t + z
  · rw [if_pos h2, if_pos h2]
    by_cases h3 : x - 440 * t < m
    · rw [if_pos h3]
    · rw [if_neg h3, h _ (by omega)]
  · rw [if_neg h2, if_neg h2]
theorem Bp_add (i k : Nat) : Bp (i + k) = Bp i * Bp k := Nat.pow_add 65536 i k
theorem dg_shift (n i k : Nat) : dg n (i + k) = dg (n / Bp i) k := by
  unfold dg
  rw [Bp_add, Nat.div_div_eq_div_mul]
theorem tm_s (a b i : Nat) : a % Bp (i + 1) * b = a % Bp i * b + Bp i * (dg a i * b) := by
  rw [mod_s, Nat.add_mul, Nat.mul_assoc]
theorem tm_div (a b i : Nat) : a % Bp (i + 1) * b / Bp i = a % Bp i * b / Bp i + dg a i * b := by
  rw [tm_s, Nat.add_mul_div_left _ _ (Bp_pos i)]
theorem tm_low (a b i : Nat) {j : Nat} (h : j < i) : dg (a % Bp (i + 1) * b) j = dg (a % Bp i * b) j := by
  obtain ⟨e, rfl⟩ : ∃ e, i = j + (e + 1) := ⟨i - j - 1, by omega⟩
  unfold dg
  rw [tm_s, Bp_add j (e + 1), Nat.mul_assoc, Nat.add_mul_div_left _ _ (Bp_pos j), Bp_s e, Nat.mul_right_comm, Nat.add_mul_mod_self_right]
theorem tm_lt {a b i k : Nat} (hb : b < Bp k) : a % Bp i * b < Bp (i + k) := by
  rw [Bp_add]
  exact Nat.mul_lt_mul_of_lt_of_lt (Nat.mod_lt _ (Bp_pos i)) hb
section GH
variable {I : Nat → Nat → Int32} {J : Nat → Nat → Int64} {R : Nat → Nat → Option Nat} {l s v : Nat → Int32}
theorem m_times_in {t r w ka kb a b i k : Nat} (hR : RA R) (ht : t < 16) (hw : w < 16) (hwt : w ≠ t) (B : Rg l s w kb b) (hz : ka + kb ≤ 440) (hi : i < ka) (hk : k < kb) : f_X12_times_s81 (4561, Int32.ofNat t, Int32.ofNat r, Int32.ofNat w, Int32.ofNat (ka + kb), Int32.ofNat i, Int64.ofNat (cm (a % Bp i * b / Bp i) (dg a i) b k), Int64.ofNat (dg a i), Int32.ofNat k, bM I (mx l t (a % Bp i * b) (a % Bp (i + 1) * b) (ka + kb) (i + k)) s v J R) = some (.inr (.inr (4561, Int32.ofNat t, Int32.ofNat r, Int32.ofNat w, Int32.ofNat (ka + kb), Int32.ofNat i, Int64.ofNat (cm (a % Bp i * b / Bp i) (dg a i) b (k + 1)), Int64.ofNat (dg a i), Int32.ofNat (k + 1), bM I (mx l t (a % Bp i * b) (a % Bp (i + 1) * b) (ka + kb) (i + (k + 1))) s v J R))) := by
  have d1 := dg_lt a i
  have d2 := dg_lt b k
  have d3 := dg_lt (a % Bp i * b / Bp i) k
  have d4 := cm_le (u := a % Bp i * b / Bp i) (b := b) (k := k) d1
  have d5 : dg a i * dg b k ≤ 65535 * 65535 := Nat.mul_le_mul (by omega) (by omega)
  have e1 : (440 : Int32) * Int32.ofNat t + Int32.ofNat i + Int32.ofNat k = Int32.ofNat (440 * t + (i + k)) := by
    rw [show (440 : Int32) * Int32.ofNat t + Int32.ofNat i = Int32.ofNat (440 * t + i) from i32_ma 440 t i, ← Int32.ofNat_add, Nat.add_assoc]
  have e2 : (440 : Int32) * Int32.ofNat w + Int32.ofNat k = Int32.ofNat (440 * w + k) := i32_ma 440 w k
  have c := cm_s (a % Bp i * b / Bp i) (dg a i) b k
  unfold f_X12_times_s81 xlet
  dsimp only
  refine xb_eq (m_g2 (by decide) hR) (xg_eq _ (m_as (by decide) hw) B.1 ?_)
  rw [if_neg (i32_nle (by omega) (by omega) hk), e1, e2]
  refine xb_eq (m_g1 (by decide) hR) (xg_eq (Int32.ofNat (dg (a % Bp i * b / Bp i) k)) (m_al (by decide) (by omega)) ((mx_ge (Nat.le_refl _) (by omega)).trans (by rw [dg_shift])) (xb_eq (m_g1 (by decide) hR) (xg_eq _ (m_al (by decide) (by omega)) ((mx_ne hwt (by omega) hz).trans (B.2.2.2.2 k hk)) (xb_eq (m_g1 (by decide) hR) ?_))))
  rw [i64_nat (by omega), i64_nat (by omega), i64_mul, i64_add, i64_add, i64_and16, i64_sar16 (by omega), c.1, c.2, i64_32 (by have := dg_lt (a % Bp i * b / Bp i + dg a i * b) k; omega), ← tm_div, ← dg_shift, i32_ofs]
  refine xb_eq (m_wl (by decide) (by omega)) ?_
  rw [mx_s (by omega)]
  rfl
theorem m_times_out {t r w ka kb a b i : Nat} (hR : RA R) (ht : t < 16) (hr : r < 16) (hw : w < 16) (hrt : r ≠ t) (hwt : w ≠ t) (A : Rg l s r ka a) (B : Rg l s w kb b) (hz : ka + kb ≤ 440) (hi : i < ka) : f_X12_times_s48 (4561, Int32.ofNat t, Int32.ofNat r, Int32.ofNat w, Int32.ofNat (ka + kb), Int32.ofNat i, bM I (wrl l t (a % Bp i * b) (ka + kb)) s v J R) = some (.inr (.inr (4561, Int32.ofNat t, Int32.ofNat r, Int32.ofNat w, Int32.ofNat (ka + kb), Int32.ofNat (i + 1), bM I (wrl l t (a % Bp (i + 1) * b) (ka + kb)) s v J R))) := by
  have d1 := dg_lt a i
  have q := xl_seq (step := f_X12_times_s81) (s := fun k => (4561, Int32.ofNat t, Int32.ofNat r, Int32.ofNat w, Int32.ofNat (ka + kb), Int32.ofNat i, Int64.ofNat (cm (a % Bp i * b / Bp i) (dg a i) b k), Int64.ofNat (dg a i), Int32.ofNat k, bM I (mx l t (a % Bp i * b) (a % Bp (i + 1) * b) (ka + kb) (i + k)) s v J R)) (N := kb) (e := .inr (4561, Int32.ofNat t, Int32.ofNat r, Int32.ofNat w, Int32.ofNat (ka + kb), Int32.ofNat i, Int64.ofNat (cm (a % Bp i * b / Bp i) (dg a i) b kb), bM I (mx l t (a % Bp i * b) (a % Bp (i + 1) * b) (ka + kb) (i + kb)) s v J R)) (fun k hk => m_times_in hR ht hw hwt B hz hi hk) (by
    unfold f_X12_times_s81 xlet
    dsimp only
    refine xb_eq (m_g2 (by decide) hR) (xg_eq _ (m_as (by decide) hw) B.1 ?_)
    rw [if_pos ((i32_le (by omega) (by omega)).mpr (Nat.le_refl _))]) (f := xF) (by unfold xF; omega)
  rw [cm_0, show i + 0 = i from rfl, mx_lo (fun j hj => tm_low a b i hj)] at q
  have c4 := cm_le (u := a % Bp i * b / Bp i) (b := b) (k := kb) d1
  have ec : cm (a % Bp i * b / Bp i) (dg a i) b kb = dg (a % Bp (i + 1) * b) (i + kb) := by
    have hT : a % Bp i * b < Bp (i + kb) := tm_lt B.2.2.1
    have hU : a % Bp i * b / Bp i < Bp kb := by
      refine Nat.div_lt_of_lt_mul ?_
      rw [← Bp_add]
      exact hT
    have hE : cm (a % Bp i * b / Bp i) (dg a i) b kb = (a % Bp i * b / Bp i + dg a i * b) / Bp kb := by
      unfold cm
      rw [Nat.mod_eq_of_lt hU, Nat.mod_eq_of_lt B.2.2.1]
    have hL : (a % Bp i * b / Bp i + dg a i * b) / Bp kb < 65536 := by
      rw [← hE]
      exact c4
    rw [dg_shift, tm_div, hE]
    exact (Nat.mod_eq_of_lt hL).symm
  unfold f_X12_times_s48 xlet
  dsimp only
  refine xb_eq (m_g2 (by decide) hR) (xg_eq _ (m_as (by decide) hr) A.1 ?_)
  rw [if_neg (i32_nle (by omega) (by omega) hi), show (440 : Int32) * Int32.ofNat r + Int32.ofNat i = Int32.ofNat (440 * r + i) from i32_ma 440 r i]
  refine xb_eq (m_g1 (by decide) hR) (xg_eq _ (m_al (by decide) (by omega)) ((wrl_ne hrt (by omega) (by omega)).trans (A.2.2.2.2 i hi)) ?_)
  rw [i64_nat (by omega)]
  refine xb_eq q ?_
  rw [Sum.elim_inr]
  dsimp only
  unfold f_X12_times_j168 xlet
  refine xb_eq (m_g1 (by decide) hR) (xb_eq (m_g2 (by decide) hR) (xg_eq _ (m_as (by decide) hw) B.1 ?_))
  have e1 : (440 : Int32) * Int32.ofNat t + Int32.ofNat i + Int32.ofNat kb = Int32.ofNat (440 * t + (i + kb)) := by
    rw [show (440 : Int32) * Int32.ofNat t + Int32.ofNat i = Int32.ofNat (440 * t + i) from i32_ma 440 t i, ← Int32.ofNat_add, Nat.add_assoc]
  rw [e1, i64_32 (by omega), ec]
  refine xb_eq (m_wl (by decide) (by omega)) ?_
  rw [mx_s (by omega), mx_hi (fun j hj => by rw [dg_big (tm_lt (i := i + 1) (a := a) B.2.2.1) (by omega), dg_big (tm_lt (i := i) (a := a) B.2.2.1) (by omega)]), i32_ofs]
/-- t becomes r times w -/
theorem m_times {t r w ka kb a b : Nat} (hR : RA R) (ht : t < 16) (hr : r < 16) (hw : w < 16) (hrt : r ≠ t) (hwt : w ≠ t) (A : Rg l s r ka a) (B : Rg l s w kb b) (hz : ka + kb ≤ 440) : ∃ l' s' k', f_X12_times (bM I l s v J R) 4561 (Int32.ofNat t) (Int32.ofNat r) (Int32.ofNat w) = some (bM I l' s' v J R) ∧ Rg l' s' t k' (a * b) ∧ k' ≤ ka + kb ∧ Kp l s l' s' t := by
  have q1 := xl_seq (step := f_X12_times_s18) (s := fun i => (4561, Int32.ofNat t, Int32.ofNat r, Int32.ofNat w, Int32.ofNat (ka + kb), Int32.ofNat i, bM I (wrl l t 0 i) s v J R)) (N := ka + kb) (e := .inr (4561, Int32.ofNat t, Int32.ofNat r, Int32.ofNat w, Int32.ofNat (ka + kb), bM I (wrl l t 0 (ka + kb)) s v J R)) (by
    intro i hi
    unfold f_X12_times_s18 xlet
    dsimp only
    rw [if_neg (i32_nle (by omega) (by omega) hi), show (440 : Int32) * Int32.ofNat t + Int32.ofNat i = Int32.ofNat (440 * t + i) from i32_ma 440 t i]
    refine xb_eq (m_g1 (by decide) hR) (xb_eq (m_wl (by decide) (by omega)) ?_)
    have e0 : dg 0 i = 0 := by
      unfold dg
      rw [Nat.zero_div]
    have := wrl_s (l := l) (r := t) (n := 0) (i := i)
    rw [e0] at this
    rw [i32_ofs]
    exact congrArg (fun q => some (Sum.inr (Sum.inr (4561, Int32.ofNat t, Int32.ofNat r, Int32.ofNat w, Int32.ofNat (ka + kb), Int32.ofNat (i + 1), bM I q s v J R)))) this) (by
    unfold f_X12_times_s18 xlet
    dsimp only
    rw [if_pos ((i32_le (by omega) (by omega)).mpr (Nat.le_refl _))]) (f := xF) (by unfold xF; omega)
  rw [wrl_0] at q1
  have q2 := xl_seq (step := f_X12_times_s48) (s := fun i => (4561, Int32.ofNat t, Int32.ofNat r, Int32.ofNat w, Int32.ofNat (ka + kb), Int32.ofNat i, bM I (wrl l t (a % Bp i * b) (ka + kb)) s v J R)) (N := ka) (e := .inr (4561, Int32.ofNat t, Int32.ofNat (ka + kb), bM I (wrl l t (a % Bp ka * b) (ka + kb)) s v J R)) (fun i hi => m_times_out hR ht hr hw hrt hwt A B hz hi) (by
    unfold f_X12_times_s48 xlet
    dsimp only
    refine xb_eq (m_g2 (by decide) hR) (xg_eq _ (m_as (by decide) hr) A.1 ?_)
    rw [if_pos ((i32_le (by omega) (by omega)).mpr (Nat.le_refl _))]) (f := xF) (by have := A.2.1; unfold xF; omega)
  rw [show Bp 0 = 1 from rfl, Nat.mod_one, Nat.zero_mul, Nat.mod_eq_of_lt A.2.2.1] at q2
  have hab : a * b < Bp (ka + kb) := by
    rw [Bp_add]
    exact Nat.mul_lt_mul_of_lt_of_lt A.2.2.1 B.2.2.1
  obtain ⟨k', t1, t2, t3⟩ := m_trimD (I := I) (J := J) (l := l) (v := v) (s := va_up s t (Int32.ofNat (ka + kb))) (n := a * b) hR ht hz hab (va_up_self _ _ _)
  rw [up_up] at t1 t3
  refine ⟨_, _, k', ?_, t3, t2, wrl_Kp hz⟩
  unfold f_X12_times xlet
  refine xb_eq (m_g2 (by decide) hR) (xg_eq _ (m_as (by decide) hr) A.1 (xb_eq (m_g2 (by decide) hR) (xg_eq _ (m_as (by decide) hw) B.1 ?_)))
  rw [← Int32.ofNat_add]
  refine xb_eq q1 ?_
  rw [Sum.elim_inr]
  dsimp only
  unfold f_X12_times_j45 xlet
  refine xb_eq q2 ?_
  rw [Sum.elim_inr]
  dsimp only
  unfold f_X12_times_j197
  exact xb_eq (m_g2 (by decide) hR) (xb_eq (m_ws (by decide) ht) (xb_iq ok_4561 (xb_eq t1 rfl)))
end GH
