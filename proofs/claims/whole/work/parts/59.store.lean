/-! the reference's values: lowest terms, stored -/
def RS : List Nat := [0, 1, 12, 13, 14, 15]
theorem RS_0 : 0 ∈ RS := by decide
theorem RS_1 : 1 ∈ RS := by decide
theorem RS_12 : 12 ∈ RS := by decide
theorem RS_13 : 13 ∈ RS := by decide
theorem RS_14 : 14 ∈ RS := by decide
theorem Kl.mono {l s l' s' : Nat → Int32} {rs rs' : List Nat} (h : Kl l s l' s' rs) (hs : ∀ x ∈ rs, x ∈ rs') : Kl l s l' s' rs' := ⟨fun x hx => h.1 x (fun q => hx (hs x q)), fun x hx => h.2 x (fun r hr => hx r (hs r hr))⟩
theorem RS_a : ∀ x ∈ [12, 13], x ∈ RS := by decide
theorem RS_b : ∀ x ∈ [14, 15], x ∈ RS := by decide
section GJ
variable {I : Nat → Nat → Int32} {J : Nat → Nat → Int64} {R : Nat → Nat → Option Nat} {l s v : Nat → Int32}
theorem m_lowest {k0 k1 n d : Nat} (hR : RA R) (A : Rg l s 0 k0 n) (D : Rg l s 1 k1 d) (hd : 0 < d) (hd2 : 2 * d < Bp 440) : ∃ l' s' k0' k1', f_X12_lowest (bM I l s v J R) 4561 0 1 = some (bM I l' s' v J R) ∧ Rg l' s' 0 k0' (n / Nat.gcd n d) ∧ Rg l' s' 1 k1' (d / Nat.gcd n d) ∧ Kl l s l' s' RS := by
  have hk0 := A.2.1
  by_cases hn : n = 0
  · subst hn
    obtain ⟨l', s', k, h1, h2, -, h4⟩ := m_putR (I := I) (J := J) (l := l) (s := s) (v := v) (r := 1) (x := 1) hR (by decide) (by decide)
    refine ⟨l', s', k0, k, ?_, ?_, ?_, h4.kl RS_1⟩
    · have e := A.1
      rw [(Rg_zero A).mpr rfl] at e
      unfold f_X12_lowest
      refine xb_eq (m_g2 (by decide) hR) (xg_eq _ (m_as (k := 0) (by decide) (by decide)) e ?_)
      rw [if_pos (show Int32.ofNat 0 = 0 from rfl)]
      exact xb_iq ok_4561 (xb_eq h1 rfl)
    · rw [Nat.zero_div]
      exact A.keep h4 (by decide)
    · rw [Nat.gcd_zero_left, Nat.div_self hd]
      exact h2
  · have hk : k0 ≠ 0 := fun z => hn ((Rg_zero A).mp z)
    obtain ⟨l1, s1, a1, a2, a3⟩ := m_copyR (I := I) (J := J) (v := v) (r := 12) (t := 0) hR (by decide) (by decide) (by decide) A
    have D1 := D.keep a3 (by decide)
    obtain ⟨l2, s2, b1, b2, b3⟩ := m_copyR (I := I) (J := J) (v := v) (r := 13) (t := 1) hR (by decide) (by decide) (by decide) D1
    obtain ⟨l3, s3, kg, c1, c2, c3⟩ := m_common (I := I) (J := J) (v := v) (r := 12) (t := 13) hR (by decide) (by decide) (by decide) (a2.keep b3 (by decide)) b2 hd
    have A3 := ((A.keep a3 (by decide)).keep b3 (by decide)).kl c3 (by decide)
    have D3 := (D1.keep b3 (by decide)).kl c3 (by decide)
    have K3 : Kl l s l3 s3 RS := ((a3.kl RS_12).trans (b3.kl RS_13)).trans (c3.mono RS_a)
    have hg : 0 < Nat.gcd n d := Nat.gcd_pos_of_pos_right n hd
    have hgd : Nat.gcd n d ≤ d := Nat.le_of_dvd hd (Nat.gcd_dvd_right n d)
    have hkg : kg ≠ 0 := fun z => by
      have := (Rg_zero c2).mp z
      omega
    have hkg2 := c2.2.1
    have st : ∀ X, (if (1 : Int32) < Int32.ofNat kg then f_X12_lowest_j61 (bM I l3 s3 v J R) 4561 0 1 else (gR (bM I l3 s3 v J R) 4561 12 1).bind (fun x13 => (aI (bM I l3 s3 v J R) x13 14 (5280 : Int32)).bind (fun x14 => (if x14 ≤ (1 : Int32) then f_X12_lowest_j105 (bM I l3 s3 v J R) else f_X12_lowest_j61 (bM I l3 s3 v J R) 4561 0 1)))) = X → f_X12_lowest (bM I l s v J R) 4561 0 1 = X := fun X hX => by
      unfold f_X12_lowest
      refine xb_eq (m_g2 (by decide) hR) (xg_eq _ (m_as (k := 0) (by decide) (by decide)) A.1 ?_)
      rw [if_neg (show ¬ (Int32.ofNat k0 = 0) from i32_neq (m := 0) (by omega) (by omega) hk)]
      exact xb_iq ok_4561 (xb_eq a1 (xb_iq ok_4561 (xb_eq b1 (xb_iq ok_4561 (xb_eq c1 (xb_eq (m_g2 (by decide) hR) (xg_eq _ (m_as (k := 12) (by decide) (by decide)) c2.1 hX)))))))
    have j61 : ∃ l' s' k0' k1', f_X12_lowest_j61 (bM I l3 s3 v J R) 4561 0 1 = some (bM I l' s' v J R) ∧ Rg l' s' 0 k0' (n / Nat.gcd n d) ∧ Rg l' s' 1 k1' (d / Nat.gcd n d) ∧ Kl l s l' s' RS := by
      obtain ⟨l4, s4, d1, d2, d3⟩ := m_copyR (I := I) (J := J) (v := v) (r := 13) (t := 12) hR (by decide) (by decide) (by decide) c2
      obtain ⟨l5, s5, kq, km, e1, e2, e3, e4⟩ := m_divide (I := I) (J := J) (v := v) (q := 14) (m := 15) (r := 0) (t := 13) hR (by decide) (by decide) (by decide) (by decide) (by decide) (by decide) (by decide) (A3.keep d3 (by decide)) d2 hg (by omega)
      obtain ⟨l6, s6, f1, f2, f3⟩ := m_copyR (I := I) (J := J) (v := v) (r := 0) (t := 14) hR (by decide) (by decide) (by decide) e2
      obtain ⟨l7, s7, kq', km', g1, g2, g3, g4⟩ := m_divide (I := I) (J := J) (v := v) (q := 14) (m := 15) (r := 1) (t := 13) hR (by decide) (by decide) (by decide) (by decide) (by decide) (by decide) (by decide) (((D3.keep d3 (by decide)).kl e4 (by decide)).keep f3 (by decide)) ((d2.kl e4 (by decide)).keep f3 (by decide)) hg (by omega)
      obtain ⟨l8, s8, h1, h2, h3⟩ := m_copyR (I := I) (J := J) (v := v) (r := 1) (t := 14) hR (by decide) (by decide) (by decide) g2
      refine ⟨l8, s8, kq, kq', ?_, (f2.kl g4 (by decide)).keep h3 (by decide), h2, (((((K3.trans (d3.kl RS_13)).trans (e4.mono RS_b)).trans (f3.kl RS_0)).trans (g4.mono RS_b)).trans (h3.kl RS_1))⟩
      unfold f_X12_lowest_j61
      exact xb_iq ok_4561 (xb_eq d1 (xb_iq ok_4561 (xb_eq e1 (xb_iq ok_4561 (xb_eq f1 (xb_iq ok_4561 (xb_eq g1 (xb_iq ok_4561 (xb_eq h1 rfl)))))))))
    by_cases q : 1 < kg
    · obtain ⟨l', s', k0', k1', z1, z2⟩ := j61
      refine ⟨l', s', k0', k1', st _ ?_, z2⟩
      rw [if_pos (show (1 : Int32) < Int32.ofNat kg from (i32_lt (k := 1) (by omega) (by omega)).mpr q)]
      exact z1
    · have e1 : kg = 1 := by omega
      have hg1 : Nat.gcd n d < 65536 := by
        have := c2.2.2.1
        rw [e1] at this
        exact this
      have lim : l3 5280 = Int32.ofNat (Nat.gcd n d) := by
        have := c2.2.2.2.2 0 (by omega)
        unfold dg at this
        rw [show Bp 0 = 1 from rfl, Nat.div_one, Nat.mod_eq_of_lt hg1] at this
        exact this
      by_cases w : Nat.gcd n d ≤ 1
      · have e2 : Nat.gcd n d = 1 := by omega
        refine ⟨l3, s3, k0, k1, st _ ?_, by rw [e2, Nat.div_one]; exact A3, by rw [e2, Nat.div_one]; exact D3, K3⟩
        rw [if_neg (show ¬ ((1 : Int32) < Int32.ofNat kg) from fun z => q ((i32_lt (k := 1) (by omega) (by omega)).mp z))]
        refine xb_eq (m_g1 (by decide) hR) (xg_eq _ (m_al (k := 5280) (by decide) (by decide)) lim ?_)
        rw [if_pos (show Int32.ofNat (Nat.gcd n d) ≤ 1 from (i32_le (m := 1) (by omega) (by omega)).mpr w)]
        rfl
      · obtain ⟨l', s', k0', k1', z1, z2⟩ := j61
        refine ⟨l', s', k0', k1', st _ ?_, z2⟩
        rw [if_neg (show ¬ ((1 : Int32) < Int32.ofNat kg) from fun z => q ((i32_lt (k := 1) (by omega) (by omega)).mp z))]
        refine xb_eq (m_g1 (by decide) hR) (xg_eq _ (m_al (k := 5280) (by decide) (by decide)) lim ?_)
        rw [if_neg (show ¬ (Int32.ofNat (Nat.gcd n d) ≤ 1) from i32_nle (m := 1) (by omega) (by omega) (by omega))]
        exact z1
def StV (v v' : Nat → Int32) (i : Nat) (y : Int32) (n d : Nat) : Prop := v' (28 * i) = y ∧ (∀ j, j < 13 → v' (28 * i + 1 + j) = Int32.ofNat (dg n j)) ∧ (∀ j, j < 13 → v' (28 * i + 14 + j) = Int32.ofNat (dg d j)) ∧ Kv v v' i
theorem bits_200 {n w : Nat} (h : n < 2 ^ w) (h' : w = 0 ∨ 2 ^ (w - 1) ≤ n) : 200 < w ↔ ¬ n < 2 ^ 200 := by
  constructor
  · intro q z
    rcases h' with h' | h'
    · omega
    · have : 2 ^ 200 ≤ 2 ^ (w - 1) := Nat.pow_le_pow_right (by decide) (by omega)
      omega
  · intro q
    by_cases z : 200 < w
    · exact z
    · exact absurd (Nat.lt_of_lt_of_le h (Nat.pow_le_pow_right (by decide) (by omega))) q
theorem m_store {i k0 k1 n d : Nat} {sg : Int32} (hR : RA R) (hi : i < 3700) (A : Rg l s 0 k0 n) (D : Rg l s 1 k1 d) (hd : 0 < d) (hd2 : 2 * d < Bp 440) : ∃ l' s' v' b, f_X12_store (bM I l s v J R) 4561 (Int32.ofNat i) sg = some (b, bM I l' s' v' J R) ∧ Kl l s l' s' RS ∧ ((n / Nat.gcd n d < 2 ^ 200 ∧ d / Nat.gcd n d < 2 ^ 200 ∧ b = 1 ∧ StV v v' i (if n = 0 then 0 else sg) (n / Nat.gcd n d) (d / Nat.gcd n d)) ∨ (¬ (n / Nat.gcd n d < 2 ^ 200 ∧ d / Nat.gcd n d < 2 ^ 200) ∧ b = 0 ∧ v' = v)) := by
  obtain ⟨l1, s1, k0', k1', a1, a2, a3, a4⟩ := m_lowest (I := I) (J := J) (v := v) hR A D hd hd2
  obtain ⟨w0, b1, b2, b3, b4⟩ := m_bitsR (I := I) (J := J) (v := v) (r := 0) hR (by decide) a2
  obtain ⟨w1, c1, c2, c3, c4⟩ := m_bitsR (I := I) (J := J) (v := v) (r := 1) hR (by decide) a3
  have t0 := bits_200 b3 b4
  have t1 := bits_200 c3 c4
  have g0 : n / Nat.gcd n d = 0 ↔ n = 0 := by
    have hg : 0 < Nat.gcd n d := Nat.gcd_pos_of_pos_right n hd
    rw [Nat.div_eq_zero_iff_lt hg]
    constructor
    · intro q
      rcases Nat.eq_zero_or_pos n with z | z
      · exact z
      · have := Nat.le_of_dvd z (Nat.gcd_dvd_left n d)
        omega
    · intro q
      rw [q]
      rw [q] at hg
      exact hg
  have st : ∀ X, (if (200 : Int32) < Int32.ofNat w0 then f_X12_store_j28 (bM I l1 s1 v J R) else (f_X12_bits (bM I l1 s1 v J R) 4561 (1 : Int32)).bind (fun p3 => (if p3 ≤ (200 : Int32) then (gR (bM I l1 s1 v J R) 4561 12 3).bind (fun x4 => (gR (bM I l1 s1 v J R) 4561 12 2).bind (fun x5 => (aI (bM I l1 s1 v J R) x5 14 (0 : Int32)).bind (fun x6 => (if x6 = (0 : Int32) then f_X12_store_j52 (bM I l1 s1 v J R) 4561 (Int32.ofNat i) (0 : Int32) ((28 : Int32) * Int32.ofNat i) x4 else f_X12_store_j52 (bM I l1 s1 v J R) 4561 (Int32.ofNat i) sg ((28 : Int32) * Int32.ofNat i) x4)))) else f_X12_store_j28 (bM I l1 s1 v J R)))) = X → f_X12_store (bM I l s v J R) 4561 (Int32.ofNat i) sg = X := fun X hX => by
    unfold f_X12_store
    refine xb_iq ok_4561 (xb_eq a1 (xb_iq ok_4561 (xb_eq b1 ?_)))
    by_cases q : (200 : Int32) < Int32.ofNat w0
    · rw [if_pos q] at hX ⊢
      exact hX
    · rw [if_neg q] at hX ⊢
      exact xb_iq ok_4561 hX
  by_cases q0 : 200 < w0
  · refine ⟨l1, s1, v, 0, st _ ?_, a4, Or.inr ⟨fun z => t0.mp q0 z.1, rfl, rfl⟩⟩
    rw [if_pos (show (200 : Int32) < Int32.ofNat w0 from (i32_lt (k := 200) (by omega) (by omega)).mpr q0)]
    rfl
  · by_cases q1 : 200 < w1
    · refine ⟨l1, s1, v, 0, st _ ?_, a4, Or.inr ⟨fun z => t1.mp q1 z.2, rfl, rfl⟩⟩
      rw [if_neg (show ¬ ((200 : Int32) < Int32.ofNat w0) from fun z => q0 ((i32_lt (k := 200) (by omega) (by omega)).mp z))]
      refine xb_eq c1 ?_
      rw [if_neg (show ¬ (Int32.ofNat w1 ≤ 200) from i32_nle (m := 200) (by omega) (by omega) q1)]
      rfl
    · have f0 : n / Nat.gcd n d < 2 ^ 200 := by
        by_cases z : n / Nat.gcd n d < 2 ^ 200
        · exact z
        · exact absurd (t0.mpr z) q0
      have f1 : d / Nat.gcd n d < 2 ^ 200 := by
        by_cases z : d / Nat.gcd n d < 2 ^ 200
        · exact z
        · exact absurd (t1.mpr z) q1
      -- what is written
      have wr : ∀ y : Int32, ∃ v', f_X12_store_j52 (bM I l1 s1 v J R) 4561 (Int32.ofNat i) y ((28 : Int32) * Int32.ofNat i) 4564 = some (1, bM I l1 s1 v' J R) ∧ StV v v' i y (n / Nat.gcd n d) (d / Nat.gcd n d) := by
        intro y
        obtain ⟨v2, h1, h2, h3⟩ := m_holdR (I := I) (J := J) (v := va_up v (28 * i) y) (i := i) (f := 1) (r := 0) hR (by decide) (by omega) a2
        obtain ⟨v3, h4, h5, h6⟩ := m_holdR (I := I) (J := J) (v := v2) (i := i) (f := 14) (r := 1) hR (by decide) (by omega) a3
        refine ⟨v3, ?_, ?_, fun j hj => ?_, fun j hj => h5 j hj, fun x hx => ?_⟩
        · unfold f_X12_store_j52
          rw [show (28 : Int32) * Int32.ofNat i = Int32.ofNat (28 * i) from (Int32.ofNat_mul 28 i).symm]
          exact xb_eq (m_wv (by decide) (by omega)) (xb_iq ok_4561 (xb_eq h1 (xb_iq ok_4561 (xb_eq h4 rfl))))
        · rw [h6 _ (by omega), h3 _ (by omega), va_up_self]
        · rw [h6 _ (by omega), h2 j hj]
        · rw [h6 _ (by omega), h3 _ (by omega), va_up_ne _ _ (by omega)]
      obtain ⟨v', g1, g2⟩ := wr (if n = 0 then 0 else sg)
      refine ⟨l1, s1, v', 1, st _ ?_, a4, Or.inl ⟨f0, f1, rfl, g2⟩⟩
      rw [if_neg (show ¬ ((200 : Int32) < Int32.ofNat w0) from fun z => q0 ((i32_lt (k := 200) (by omega) (by omega)).mp z))]
      refine xb_eq c1 ?_
      rw [if_pos (show Int32.ofNat w1 ≤ 200 from (i32_le (m := 200) (by omega) (by omega)).mpr (by omega))]
      refine xb_eq (m_g3 (by decide) hR) (xb_eq (m_g2 (by decide) hR) (xg_eq _ (m_as (k := 0) (by decide) (by decide)) a2.1 ?_))
      have hk := a2.2.1
      by_cases z : n = 0
      · rw [if_pos z] at g1
        rw [if_pos (show Int32.ofNat k0' = 0 from (i32_eq (m := 0) (by omega) (by omega)).mpr ((Rg_zero a2).mpr (g0.mpr z)))]
        exact g1
      · rw [if_neg z] at g1
        rw [if_neg (show ¬ (Int32.ofNat k0' = 0) from i32_neq (m := 0) (by omega) (by omega) (fun e => z (g0.mp ((Rg_zero a2).mp e))))]
        exact g1
end GJ
