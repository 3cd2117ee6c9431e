/-! the reference's whole numbers: less, twice, compared -/
def bo (a b i : Nat) : Nat := if a % Bp i < b % Bp i then 1 else 0
theorem bo_le (a b i : Nat) : bo a b i ≤ 1 := by
  unfold bo
  split <;> omega
theorem bo_0 (a b : Nat) : bo a b 0 = 0 := by
  unfold bo
  rw [show Bp 0 = 1 from rfl, Nat.mod_one, Nat.mod_one]
  rfl
theorem bo_s {a b : Nat} (h : b ≤ a) (i : Nat) : (dg a i + 131072 - bo a b i - dg b i) % 65536 = dg (a - b) i ∧ bo a b (i + 1) = if bo a b i + dg b i ≤ dg a i then 0 else 1 := by
  have hP := Bp_pos i
  have h1 := Nat.mod_add_div a (Bp i)
  have h2 := Nat.mod_add_div b (Bp i)
  have r1 := Nat.mod_lt a hP
  have r2 := Nat.mod_lt b hP
  have d1 := dg_lt a i
  have d2 := dg_lt b i
  by_cases hb : a % Bp i < b % Bp i
  · have e : bo a b i = 1 := if_pos hb
    have hq : b / Bp i + 1 ≤ a / Bp i := by
      by_cases z : b / Bp i + 1 ≤ a / Bp i
      · exact z
      · have := Nat.mul_le_mul_left (Bp i) (show a / Bp i ≤ b / Bp i by omega)
        omega
    have hm := Nat.mul_le_mul_left (Bp i) hq
    rw [Nat.mul_add, Nat.mul_one] at hm
    constructor
    · have e2 : a - b = (Bp i + a % Bp i - b % Bp i) + Bp i * (a / Bp i - b / Bp i - 1) := by
        rw [Nat.mul_sub, Nat.mul_sub, Nat.mul_one]
        omega
      have e3 : (a - b) / Bp i = a / Bp i - b / Bp i - 1 := by
        rw [e2, Nat.add_mul_div_left _ _ hP, Nat.div_eq_of_lt (show Bp i + a % Bp i - b % Bp i < Bp i by omega), Nat.zero_add]
      rw [e]
      unfold dg
      rw [e3]
      generalize a / Bp i = x at hq ⊢
      generalize b / Bp i = y at hq ⊢
      omega
    · rw [e]
      unfold bo
      rw [mod_s, mod_s]
      by_cases z : 1 + dg b i ≤ dg a i
      · rw [if_pos z]
        have := Nat.mul_le_mul_left (Bp i) z
        rw [Nat.mul_add, Nat.mul_one] at this
        exact if_neg (by omega)
      · rw [if_neg z]
        have := Nat.mul_le_mul_left (Bp i) (show dg a i ≤ dg b i by omega)
        exact if_pos (by omega)
  · have e : bo a b i = 0 := if_neg hb
    have hq : b / Bp i ≤ a / Bp i := Nat.div_le_div_right h
    have hm := Nat.mul_le_mul_left (Bp i) hq
    constructor
    · have e2 : a - b = (a % Bp i - b % Bp i) + Bp i * (a / Bp i - b / Bp i) := by
        rw [Nat.mul_sub]
        omega
      have e3 : (a - b) / Bp i = a / Bp i - b / Bp i := by
        rw [e2, Nat.add_mul_div_left _ _ hP, Nat.div_eq_of_lt (show a % Bp i - b % Bp i < Bp i by omega), Nat.zero_add]
      rw [e]
      unfold dg
      rw [e3]
      generalize a / Bp i = x at hq ⊢
      generalize b / Bp i = y at hq ⊢
      omega
    · rw [e]
      unfold bo
      rw [mod_s, mod_s]
      by_cases z : 0 + dg b i ≤ dg a i
      · rw [if_pos z]
        have := Nat.mul_le_mul_left (Bp i) (show dg b i ≤ dg a i by omega)
        exact if_neg (by omega)
      · rw [if_neg z]
        have := Nat.mul_le_mul_left (Bp i) (show dg a i + 1 ≤ dg b i by omega)
        rw [Nat.mul_add, Nat.mul_one] at this
        exact if_pos (by omega)
theorem tsz_dg {n : Nat} : ∀ {k : Nat}, n < Bp k → k ≤ 440 → tsz (fun j => Int32.ofNat (dg n j)) k ≤ k ∧ n < Bp (tsz (fun j => Int32.ofNat (dg n j)) k) ∧ (tsz (fun j => Int32.ofNat (dg n j)) k = 0 ∨ Bp (tsz (fun j => Int32.ofNat (dg n j)) k - 1) ≤ n) := by
  intro k
  induction k with
  | zero =>
    intro h _
    exact ⟨Nat.le_refl _, h, Or.inl rfl⟩
  | succ k ih =>
    intro h hk
    unfold tsz
    have hz : Int32.ofNat (dg n k) = 0 ↔ dg n k = 0 := i32_eq (m := 0) (by have := dg_lt n k; omega) (by omega)
    have hd : dg n k = n / Bp k := by
      unfold dg
      refine Nat.mod_eq_of_lt (Nat.div_lt_of_lt_mul ?_)
      rw [Bp_s] at h
      exact h
    by_cases q : dg n k = 0
    · rw [if_pos (hz.mpr q)]
      rw [hd] at q
      have := ih ((Nat.div_eq_zero_iff_lt (Bp_pos k)).mp q) (by omega)
      exact ⟨by omega, this.2⟩
    · rw [if_neg (fun z => q (hz.mp z))]
      refine ⟨Nat.le_refl _, h, Or.inr ?_⟩
      rw [hd] at q
      show Bp k ≤ n
      exact Nat.not_lt.mp (fun z => q (Nat.div_eq_of_lt z))
def cw (a b i : Nat) : Nat := (2 * (a % Bp i) + b) / Bp i
theorem cw_0 {a b : Nat} : cw a b 0 = b := by
  unfold cw
  rw [show Bp 0 = 1 from rfl, Nat.mod_one, Nat.div_one]
  omega
theorem cw_le {a b i : Nat} (hb : b ≤ 1) : cw a b i ≤ 1 := by
  have h1 := Nat.mod_lt a (Bp_pos i)
  have : cw a b i < 2 := Nat.div_lt_of_lt_mul (by omega)
  omega
theorem cw_s (a b i : Nat) : (2 * dg a i + cw a b i) % 65536 = dg (2 * a + b) i ∧ (2 * dg a i + cw a b i) / 65536 = cw a b (i + 1) := by
  have hP := Bp_pos i
  constructor
  · have e : 2 * a + b = (2 * (a % Bp i) + b) + Bp i * (2 * (a / Bp i)) := by
      have h1 := Nat.mod_add_div a (Bp i)
      rw [Nat.mul_left_comm]
      omega
    have e2 : (2 * a + b) / Bp i = cw a b i + 2 * (a / Bp i) := by
      rw [e, Nat.add_mul_div_left _ _ hP]
      rfl
    unfold dg
    rw [e2]
    omega
  · have e : 2 * (a % Bp (i + 1)) + b = (2 * (a % Bp i) + b) + Bp i * (2 * dg a i) := by
      rw [mod_s, Nat.mul_left_comm (Bp i)]
      omega
    have e3 : cw a b (i + 1) = ((2 * (a % Bp (i + 1)) + b) / (Bp i * 65536)) := by
      unfold cw
      rw [Bp_s i]
    rw [e3, e, ← Nat.div_div_eq_div_mul, Nat.add_mul_div_left _ _ hP, Nat.add_comm]
    rfl
section GB
variable {I : Nat → Nat → Int32} {J : Nat → Nat → Int64} {R : Nat → Nat → Option Nat} {l s v : Nat → Int32}
/-- the size, made right behind digits that are written -/
theorem m_trimD {r k n : Nat} (hR : RA R) (hr : r < 16) (hk : k ≤ 440) (hn : n < Bp k) (hs : s r = Int32.ofNat k) : ∃ k', f_X12_trim (bM I (wrl l r n k) s v J R) 4561 (Int32.ofNat r) = some (bM I (wrl l r n k) (va_up s r (Int32.ofNat k')) v J R) ∧ k' ≤ k ∧ Rg (wrl l r n k) (va_up s r (Int32.ofNat k')) r k' n := by
  have h := m_trim (n := 4625) (I := I) (J := J) (R := R) (l := wrl l r n k) (s := s) (v := v) (r := r) (k := k) (by decide) hR hr hk
  rw [up_id hs, tsz_congr (d' := fun j => Int32.ofNat (dg n j)) (fun j hj => wrl_lt hj)] at h
  have t := tsz_dg hn hk
  refine ⟨_, h, t.1, va_up_self _ _ _, by omega, t.2.1, t.2.2, fun j hj => wrl_lt (by omega)⟩
theorem m_minus_step {r t ka kb a b i : Nat} (hR : RA R) (hr : r < 16) (ht : t < 16) (hrt : r ≠ t) (A : Rg l s r ka a) (B : Rg l s t kb b) (h : b ≤ a) (hi : i < ka) : f_X12_minus_s5 (4561, Int32.ofNat r, Int32.ofNat t, Int32.ofNat (bo a b i), Int32.ofNat i, bM I (wrl l r (a - b) i) s v J R) = some (.inr (.inr (4561, Int32.ofNat r, Int32.ofNat t, Int32.ofNat (bo a b (i + 1)), Int32.ofNat (i + 1), bM I (wrl l r (a - b) (i + 1)) s v J R))) := by
  have d1 := dg_lt a i
  have d2 := dg_lt b i
  have d3 := bo_le a b i
  have hk := A.2.1
  have ee : (440 : Int32) * Int32.ofNat r + Int32.ofNat i = Int32.ofNat (440 * r + i) := i32_ma 440 r i
  have j59 : f_X12_minus_j59 (bM I (wrl l r (a - b) i) s v J R) 4561 (Int32.ofNat r) (Int32.ofNat t) (Int32.ofNat i) (Int32.ofNat (dg b i)) (Int32.ofNat (dg a i) - Int32.ofNat (bo a b i)) = some (.inr (.inr (4561, Int32.ofNat r, Int32.ofNat t, Int32.ofNat (bo a b (i + 1)), Int32.ofNat (i + 1), bM I (wrl l r (a - b) (i + 1)) s v J R))) := by
    unfold f_X12_minus_j59 f_X12_minus_j90 xlet
    dsimp only
    rw [i32_sub3 (by omega) (by omega), (bo_s h i).1, i32_ofs, ee, (bo_s h i).2]
    refine xb_eq (m_g1 (by decide) hR) (xb_eq (m_wl (by decide) (by omega)) ?_)
    rw [wrl_s]
    by_cases z : bo a b i + dg b i ≤ dg a i
    · rw [if_pos ((i32_sub3_le (by omega) (by omega) (by omega)).mpr z), if_pos z]
      rfl
    · rw [if_neg (fun q => z ((i32_sub3_le (by omega) (by omega) (by omega)).mp q)), if_neg z]
      rfl
  unfold f_X12_minus_s5 xlet
  dsimp only
  refine xb_eq (m_g2 (by decide) hR) (xg_eq _ (m_as (by decide) hr) A.1 ?_)
  rw [if_neg (i32_nle (by omega) (by omega) hi), ee]
  refine xb_eq (m_g1 (by decide) hR) (xg_eq _ (m_al (by decide) (by omega)) ((wrl_ge (Nat.le_refl _)).trans (A.2.2.2.2 i hi)) ?_)
  exact m_lim (F := fun w => f_X12_minus_j59 (bM I (wrl l r (a - b) i) s v J R) 4561 (Int32.ofNat r) (Int32.ofNat t) (Int32.ofNat i) w (Int32.ofNat (dg a i) - Int32.ofNat (bo a b i))) hR ht (by omega) B.1 B.2.1 B.2.2.1 (fun z => (wrl_ne (Ne.symm hrt) (by omega) (by omega)).trans (B.2.2.2.2 i z)) j59
theorem m_minus {r t ka kb a b : Nat} (hR : RA R) (hr : r < 16) (ht : t < 16) (hrt : r ≠ t) (A : Rg l s r ka a) (B : Rg l s t kb b) (h : b ≤ a) : ∃ l' s' k', f_X12_minus (bM I l s v J R) 4561 (Int32.ofNat r) (Int32.ofNat t) = some (bM I l' s' v J R) ∧ Rg l' s' r k' (a - b) ∧ Kp l s l' s' r := by
  have hk := A.2.1
  have q := xl_seq (step := f_X12_minus_s5) (s := fun i => (4561, Int32.ofNat r, Int32.ofNat t, Int32.ofNat (bo a b i), Int32.ofNat i, bM I (wrl l r (a - b) i) s v J R)) (N := ka) (e := .inr (4561, Int32.ofNat r, bM I (wrl l r (a - b) ka) s v J R)) (fun i hi => m_minus_step hR hr ht hrt A B h hi) (by
    unfold f_X12_minus_s5 xlet
    dsimp only
    refine xb_eq (m_g2 (by decide) hR) (xg_eq _ (m_as (by decide) hr) A.1 ?_)
    rw [if_pos ((i32_le (by omega) (by omega)).mpr (Nat.le_refl _))]) (f := xF) (by unfold xF; omega)
  rw [bo_0, wrl_0] at q
  obtain ⟨k', t1, t2, t3⟩ := m_trimD (I := I) (J := J) (l := l) (v := v) (n := a - b) hR hr hk (Nat.lt_of_le_of_lt (Nat.sub_le _ _) A.2.2.1) A.1
  refine ⟨_, _, k', ?_, t3, wrl_Kp hk⟩
  unfold f_X12_minus xlet
  refine xb_eq q ?_
  rw [Sum.elim_inr]
  dsimp only
  unfold f_X12_minus_j97
  exact xb_iq ok_4561 (xb_eq t1 rfl)
theorem m_twice_step {r ka a b i : Nat} (hR : RA R) (hr : r < 16) (hb : b ≤ 1) (A : Rg l s r ka a) (hi : i < ka) : f_X12_twice_s5 (4561, Int32.ofNat r, Int32.ofNat (cw a b i), Int32.ofNat i, bM I (wrl l r (2 * a + b) i) s v J R) = some (.inr (.inr (4561, Int32.ofNat r, Int32.ofNat (cw a b (i + 1)), Int32.ofNat (i + 1), bM I (wrl l r (2 * a + b) (i + 1)) s v J R))) := by
  have d1 := dg_lt a i
  have d3 := cw_le (a := a) (i := i) hb
  have hk := A.2.1
  have ee : (440 : Int32) * Int32.ofNat r + Int32.ofNat i = Int32.ofNat (440 * r + i) := i32_ma 440 r i
  have e2 : (2 : Int32) * Int32.ofNat (dg a i) + Int32.ofNat (cw a b i) = Int32.ofNat (2 * dg a i + cw a b i) := i32_ma 2 _ _
  unfold f_X12_twice_s5 xlet
  dsimp only
  refine xb_eq (m_g2 (by decide) hR) (xg_eq _ (m_as (by decide) hr) A.1 ?_)
  rw [if_neg (i32_nle (by omega) (by omega) hi), ee]
  refine xb_eq (m_g1 (by decide) hR) (xg_eq _ (m_al (by decide) (by omega)) ((wrl_ge (Nat.le_refl _)).trans (A.2.2.2.2 i hi)) ?_)
  rw [e2, i32_mask16, i32_sar16 (by omega), (cw_s a b i).1, (cw_s a b i).2, i32_ofs]
  refine xb_eq (m_g1 (by decide) hR) (xb_eq (m_wl (by decide) (by omega)) ?_)
  rw [wrl_s]
theorem m_twice {r ka a b : Nat} (hR : RA R) (hr : r < 16) (hb : b ≤ 1) (A : Rg l s r ka a) (h : 2 * a + b < Bp 440) : ∃ l' s' k', f_X12_twice (bM I l s v J R) 4561 (Int32.ofNat r) (Int32.ofNat b) = some (bM I l' s' v J R) ∧ Rg l' s' r k' (2 * a + b) ∧ Kp l s l' s' r := by
  have hk := A.2.1
  have q := xl_seq (step := f_X12_twice_s5) (s := fun i => (4561, Int32.ofNat r, Int32.ofNat (cw a b i), Int32.ofNat i, bM I (wrl l r (2 * a + b) i) s v J R)) (N := ka) (e := .inr (4561, Int32.ofNat r, Int32.ofNat (cw a b ka), bM I (wrl l r (2 * a + b) ka) s v J R)) (fun i hi => m_twice_step hR hr hb A hi) (by
    unfold f_X12_twice_s5 xlet
    dsimp only
    refine xb_eq (m_g2 (by decide) hR) (xg_eq _ (m_as (by decide) hr) A.1 ?_)
    rw [if_pos ((i32_le (by omega) (by omega)).mpr (Nat.le_refl _))]) (f := xF) (by unfold xF; omega)
  rw [cw_0, wrl_0] at q
  have cL := cw_le (a := a) (i := ka) hb
  have cE : cw a b ka = (2 * a + b) / Bp ka := by
    unfold cw
    rw [Nat.mod_eq_of_lt A.2.2.1]
  by_cases hc : cw a b ka = 0
  · have up : 2 * a + b < Bp ka := by
      rw [hc] at cE
      exact (Nat.div_eq_zero_iff_lt (Bp_pos _)).mp cE.symm
    refine ⟨wrl l r (2 * a + b) ka, s, ka, ?_, ⟨A.1, hk, up, ?_, fun j hj => wrl_lt hj⟩, ?_⟩
    · unfold f_X12_twice xlet
      refine xb_eq q ?_
      rw [Sum.elim_inr]
      dsimp only
      unfold f_X12_twice_j65
      rw [hc, if_pos (by decide)]
      rfl
    · rcases A.2.2.2.1 with z | z
      · exact Or.inl z
      · exact Or.inr (by omega)
    · have := wrl_Kp (l := l) (s := s) (r := r) (n := 2 * a + b) (y := s r) hk
      rwa [up_id rfl] at this
  · have hc1 : cw a b ka = 1 := by omega
    have lo : Bp ka ≤ 2 * a + b := by
      rw [hc1] at cE
      exact Nat.not_lt.mp (fun q => by
        rw [Nat.div_eq_of_lt q] at cE
        omega)
    have hk2 : ka < 440 := Bp_lt (Nat.lt_of_le_of_lt lo h)
    have up : 2 * a + b < Bp (ka + 1) := by
      have := A.2.2.1
      rw [Bp_s]
      omega
    have hd : dg (2 * a + b) ka = 1 := by
      unfold dg
      rw [← cE, hc1]
    refine ⟨wrl l r (2 * a + b) (ka + 1), va_up s r (Int32.ofNat (ka + 1)), ka + 1, ?_, wrl_Rg (by omega) up (Or.inr lo), wrl_Kp (by omega)⟩
    unfold f_X12_twice xlet
    refine xb_eq q ?_
    rw [Sum.elim_inr]
    dsimp only
    unfold f_X12_twice_j65
    rw [hc1, if_neg (by decide)]
    refine xb_eq (m_g1 (by decide) hR) (xb_eq (m_g2 (by decide) hR) (xg_eq _ (m_as (by decide) hr) A.1 ?_))
    rw [show (440 : Int32) * Int32.ofNat r + Int32.ofNat ka = Int32.ofNat (440 * r + ka) from i32_ma 440 r ka]
    refine xb_eq (m_wl (by decide) (by omega)) (xb_eq (m_g2 (by decide) hR) (xg_eq _ (m_as (by decide) hr) A.1 ?_))
    rw [i32_ofs]
    refine xb_eq (m_ws (by decide) hr) ?_
    rw [← wrl_s, hd]
    rfl
end GB
