/-! the reference's whole numbers: together, less, twice -/
theorem i32_up (x : Nat) : Int32.ofNat (x + 4294967296) = Int32.ofNat x := by
  apply Int32.toBitVec_inj.mp
  show BitVec.ofNat 32 (x + 4294967296) = BitVec.ofNat 32 x
  apply BitVec.eq_of_toNat_eq
  rw [BitVec.toNat_ofNat, BitVec.toNat_ofNat]
  omega
theorem i32_sub {x y : Nat} (h : y ≤ 4294967296) : Int32.ofNat x - Int32.ofNat y = Int32.ofNat (x + 4294967296 - y) := by
  rw [Int32.sub_eq_iff_eq_add, ← Int32.ofNat_add, show x + 4294967296 - y + y = x + 4294967296 by omega, i32_up]
theorem i32_sub_le {x y : Nat} (h : y ≤ x) : Int32.ofNat x - Int32.ofNat y = Int32.ofNat (x - y) := by
  rw [Int32.sub_eq_iff_eq_add, ← Int32.ofNat_add, show x - y + y = x by omega]
theorem i32_sub3 {x y z : Nat} (hy : y ≤ 65536) (hz : z ≤ 65536) : (Int32.ofNat x - Int32.ofNat y - Int32.ofNat z) &&& 65535 = Int32.ofNat ((x + 131072 - y - z) % 65536) := by
  rw [i32_sub (by omega), i32_sub (by omega), i32_mask16]
  congr 1
  omega
theorem i32_sub3_le {x y z : Nat} (hx : x ≤ 65536) (hy : y ≤ 65536) (hz : z ≤ 65536) : (0 : Int32) ≤ (Int32.ofNat x - Int32.ofNat y - Int32.ofNat z) ↔ y + z ≤ x := by
  rw [Int32.le_iff_toInt_le, Int32.toInt_sub, Int32.toInt_sub, i32_toInt (by omega), i32_toInt (by omega), i32_toInt (by omega), show (0 : Int32).toInt = 0 by decide]
  show (0 : Int) ≤ Int.bmod (Int.bmod ((x : Int) - (y : Int)) 4294967296 - (z : Int)) 4294967296 ↔ _
  have e : Int.bmod ((x : Int) - (y : Int)) 4294967296 = (x : Int) - y := by
    rw [Int.bmod_def]
    split <;> omega
  rw [e, Int.bmod_def]
  split <;> omega
abbrev bM (I : Nat → Nat → Int32) (l s v : Nat → Int32) (J : Nat → Nat → Int64) (R : Nat → Nat → Option Nat) : xM := mg 4625 (u3 I l s v) J R
section GA
variable {I : Nat → Nat → Int32} {J : Nat → Nat → Int64} {R : Nat → Nat → Option Nat} {l s v : Nat → Int32}
theorem m_lim {β : Type} {t k n i : Nat} {F : Int32 → Option β} {r : Option β} (hR : RA R) (ht : t < 16) (hi : i < 440) (hs : s t = Int32.ofNat k) (hk : k ≤ 440) (hn : n < Bp k) (hd : i < k → l (440 * t + i) = Int32.ofNat (dg n i)) (h : F (Int32.ofNat (dg n i)) = r) : (gR (bM I l s v J R) 4561 12 2).bind (fun x => (aI (bM I l s v J R) x 14 (Int32.ofNat t)).bind (fun y => if y ≤ Int32.ofNat i then F 0 else (gR (bM I l s v J R) 4561 12 1).bind (fun z => (aI (bM I l s v J R) z 14 ((440 : Int32) * Int32.ofNat t + Int32.ofNat i)).bind (fun w => F w)))) = r := by
  refine xb_eq (m_g2 (by decide) hR) (xg_eq (Int32.ofNat k) (m_as (by decide) ht) hs ?_)
  by_cases q : k ≤ i
  · rw [if_pos ((i32_le (by omega) (by omega)).mpr q)]
    rw [dg_big hn q] at h
    exact h
  · rw [if_neg (i32_nle (by omega) (by omega) (by omega)), show (440 : Int32) * Int32.ofNat t + Int32.ofNat i = Int32.ofNat (440 * t + i) from i32_ma 440 t i]
    exact xb_eq (m_g1 (by decide) hR) (xg_eq _ (m_al (by decide) (by omega)) (hd (by omega)) h)
/-- r becomes r and t, together -/
theorem m_plus_step {r t ka kb a b i mo : Nat} (hR : RA R) (hr : r < 16) (ht : t < 16) (hrt : r ≠ t) (A : Rg l s r ka a) (B : Rg l s t kb b) (hi : i < 440) (hmo : mo < 1000) (hc : i < mo ∨ 0 < ca a b i) : f_X12_plus_s37 (4561, Int32.ofNat r, Int32.ofNat t, Int32.ofNat (ca a b i), Int32.ofNat mo, Int32.ofNat i, bM I (wrl l r (a + b) i) s v J R) = some (.inr (.inr (4561, Int32.ofNat r, Int32.ofNat t, Int32.ofNat (ca a b (i + 1)), Int32.ofNat (max mo (i + 1)), Int32.ofNat (i + 1), bM I (wrl l r (a + b) (i + 1)) s v J R))) := by
  have c1 := ca_le a b i
  have d1 := dg_lt a i
  have d2 := dg_lt b i
  have j106 : f_X12_plus_j106 (bM I (wrl l r (a + b) i) s v J R) 4561 (Int32.ofNat r) (Int32.ofNat t) (Int32.ofNat mo) (Int32.ofNat i) (Int32.ofNat (dg b i)) (Int32.ofNat (ca a b i + dg a i)) = some (.inr (.inr (4561, Int32.ofNat r, Int32.ofNat t, Int32.ofNat (ca a b (i + 1)), Int32.ofNat (max mo (i + 1)), Int32.ofNat (i + 1), bM I (wrl l r (a + b) (i + 1)) s v J R))) := by
    unfold f_X12_plus_j106 f_X12_plus_j151 xlet
    dsimp only
    rw [← Int32.ofNat_add, i32_mask16, i32_sar16 (by omega), (ca_s a b i).1, (ca_s a b i).2, i32_ofs, show (440 : Int32) * Int32.ofNat r + Int32.ofNat i = Int32.ofNat (440 * r + i) from i32_ma 440 r i]
    refine xb_eq (m_g1 (by decide) hR) (xb_eq (m_wl (by decide) (by omega)) ?_)
    rw [wrl_s]
    by_cases h : i + 1 ≤ mo
    · rw [if_pos ((i32_le (by omega) (by omega)).mpr h), Nat.max_eq_left h]
    · rw [if_neg (i32_nle (by omega) (by omega) (by omega)), Nat.max_eq_right (by omega)]
  have j48 : f_X12_plus_j48 (bM I (wrl l r (a + b) i) s v J R) 4561 (Int32.ofNat r) (Int32.ofNat t) (Int32.ofNat (ca a b i)) (Int32.ofNat mo) (Int32.ofNat i) = some (.inr (.inr (4561, Int32.ofNat r, Int32.ofNat t, Int32.ofNat (ca a b (i + 1)), Int32.ofNat (max mo (i + 1)), Int32.ofNat (i + 1), bM I (wrl l r (a + b) (i + 1)) s v J R))) := by
    unfold f_X12_plus_j48
    refine m_lim (F := fun w => f_X12_plus_j77 (bM I (wrl l r (a + b) i) s v J R) 4561 (Int32.ofNat r) (Int32.ofNat t) (Int32.ofNat mo) (Int32.ofNat i) w (Int32.ofNat (ca a b i))) hR hr hi A.1 A.2.1 A.2.2.1 (fun h => (wrl_ge (Nat.le_refl _)).trans (A.2.2.2.2 i h)) ?_
    unfold f_X12_plus_j77
    refine m_lim (F := fun w => f_X12_plus_j106 (bM I (wrl l r (a + b) i) s v J R) 4561 (Int32.ofNat r) (Int32.ofNat t) (Int32.ofNat mo) (Int32.ofNat i) w (Int32.ofNat (ca a b i) + Int32.ofNat (dg a i))) hR ht hi B.1 B.2.1 B.2.2.1 (fun h => (wrl_ne (Ne.symm hrt) hi (by omega)).trans (B.2.2.2.2 i h)) ?_
    rw [← Int32.ofNat_add]
    exact j106
  unfold f_X12_plus_s37 xlet
  dsimp only
  by_cases h : i < mo
  · rw [if_pos ((i32_lt (by omega) (by omega)).mpr h)]
    exact j48
  · rw [if_neg (fun q => h ((i32_lt (by omega) (by omega)).mp q)), if_neg (show ¬ (Int32.ofNat (ca a b i) ≤ 0) from i32_nle (m := 0) (by omega) (by omega) (by omega))]
    exact j48
theorem m_plus {r t ka kb a b : Nat} (hR : RA R) (hr : r < 16) (ht : t < 16) (hrt : r ≠ t) (A : Rg l s r ka a) (B : Rg l s t kb b) (hab : a + b < Bp 440) : ∃ l' s' k', f_X12_plus (bM I l s v J R) 4561 (Int32.ofNat r) (Int32.ofNat t) = some (bM I l' s' v J R) ∧ Rg l' s' r k' (a + b) ∧ Kp l s l' s' r := by
  have hA : a < Bp (max ka kb) := Nat.lt_of_lt_of_le A.2.2.1 (Bp_le (Nat.le_max_left _ _))
  have hB : b < Bp (max ka kb) := Nat.lt_of_lt_of_le B.2.2.1 (Bp_le (Nat.le_max_right _ _))
  have hk1 := A.2.1
  have hk2 := B.2.1
  have cE := ca_n hA hB
  have cL := ca_le a b (max ka kb)
  have cases : (ca a b (max ka kb) = 0 ∧ a + b < Bp (max ka kb)) ∨ (ca a b (max ka kb) = 1 ∧ Bp (max ka kb) ≤ a + b) := by
    rcases (by omega : ca a b (max ka kb) = 0 ∨ ca a b (max ka kb) = 1) with h | h
    · left
      refine ⟨h, ?_⟩
      rw [h] at cE
      exact (Nat.div_eq_zero_iff_lt (Bp_pos _)).mp cE.symm
    · right
      refine ⟨h, ?_⟩
      rw [h] at cE
      exact Nat.not_lt.mp (fun q => by
        rw [Nat.div_eq_of_lt q] at cE
        omega)
  have hN : max ka kb + ca a b (max ka kb) ≤ 440 := by
    rcases cases with ⟨h, -⟩ | ⟨h, h2⟩
    · omega
    · have := Bp_lt (Nat.lt_of_le_of_lt h2 hab)
      omega
  have up : a + b < Bp (max ka kb + ca a b (max ka kb)) := by
    rcases cases with ⟨h, h2⟩ | ⟨h, h2⟩
    · rw [h]
      exact h2
    · rw [h, Bp_s]
      omega
  have lo : max ka kb + ca a b (max ka kb) = 0 ∨ Bp (max ka kb + ca a b (max ka kb) - 1) ≤ a + b := by
    rcases cases with ⟨h, h2⟩ | ⟨h, h2⟩
    · rw [h, Nat.add_zero]
      by_cases q : ka ≤ kb
      · rw [Nat.max_eq_right q]
        rcases B.2.2.2.1 with z | z
        · exact Or.inl z
        · exact Or.inr (by omega)
      · rw [Nat.max_eq_left (by omega)]
        rcases A.2.2.2.1 with z | z
        · exact Or.inl z
        · exact Or.inr (by omega)
    · rw [h]
      exact Or.inr h2
  have cN : ca a b (max ka kb + ca a b (max ka kb)) = 0 := by
    rw [ca_n (Nat.lt_of_lt_of_le hA (Bp_le (by omega))) (Nat.lt_of_lt_of_le hB (Bp_le (by omega)))]
    exact Nat.div_eq_of_lt up
  generalize hNN : max ka kb + ca a b (max ka kb) = N at hN up lo cN
  have q := xl_seq (step := f_X12_plus_s37) (s := fun i => (4561, Int32.ofNat r, Int32.ofNat t, Int32.ofNat (ca a b i), Int32.ofNat (max (max ka kb) i), Int32.ofNat i, bM I (wrl l r (a + b) i) s v J R)) (N := N) (e := .inr (4561, Int32.ofNat r, Int32.ofNat N, bM I (wrl l r (a + b) N) s v J R)) (by
    intro i hi
    have := m_plus_step (I := I) (J := J) (v := v) (mo := max (max ka kb) i) hR hr ht hrt A B (i := i) (by omega) (by omega) (by
      by_cases z : i < max ka kb
      · left; omega
      · right
        have : i = max ka kb := by omega
        rw [this]
        omega)
    rw [show max (max (max ka kb) i) (i + 1) = max (max ka kb) (i + 1) by omega] at this
    exact this) (by
    unfold f_X12_plus_s37 xlet
    dsimp only
    rw [cN, if_neg (fun q => absurd ((i32_lt (by omega) (by omega)).mp q) (by omega)), if_pos (by decide), show max (max ka kb) N = N by omega]) (f := xF) (by unfold xF; omega)
  rw [ca_0, wrl_0, Nat.max_eq_left (Nat.zero_le _)] at q
  refine ⟨wrl l r (a + b) N, va_up s r (Int32.ofNat N), N, ?_, wrl_Rg hN up lo, wrl_Kp hN⟩
  have j32 : f_X12_plus_j32 (bM I l s v J R) 4561 (Int32.ofNat r) (Int32.ofNat t) 0 (Int32.ofNat (max ka kb)) = some (bM I (wrl l r (a + b) N) (va_up s r (Int32.ofNat N)) v J R) := by
    unfold f_X12_plus_j32 xlet
    refine xb_eq q ?_
    rw [Sum.elim_inr]
    dsimp only
    unfold f_X12_plus_j159
    exact xb_eq (m_g2 (by decide) hR) (xb_eq (m_ws (by decide) hr) rfl)
  unfold f_X12_plus xlet
  refine xb_eq (m_g2 (by decide) hR) (xg_eq _ (m_as (by decide) hr) A.1 (xb_eq (m_g2 (by decide) hR) (xg_eq _ (m_as (by decide) ht) B.1 ?_)))
  by_cases h : ka ≤ kb
  · rw [if_pos ((i32_le (by omega) (by omega)).mpr h)]
    refine xb_eq (m_g2 (by decide) hR) (xg_eq _ (m_as (by decide) ht) B.1 ?_)
    rw [Nat.max_eq_right h] at j32
    exact j32
  · rw [if_neg (i32_nle (by omega) (by omega) (by omega))]
    refine xb_eq (m_g2 (by decide) hR) (xg_eq _ (m_as (by decide) hr) A.1 ?_)
    rw [Nat.max_eq_left (by omega)] at j32
    exact j32
end GA
