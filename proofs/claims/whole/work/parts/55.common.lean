/-! the reference's whole numbers: halved, the greatest that divides both -/
theorem i32_shl15 {x : Nat} : Int32.ofNat x <<< ((15 : Int32) &&& 31) = Int32.ofNat (32768 * x) := by
  apply Int32.toBitVec_inj.mp
  rw [Int32.toBitVec_shiftLeft]
  show (Int32.ofNat x).toBitVec <<< (((15 : Int32) &&& 31).toBitVec.smod 32).toNat = BitVec.ofNat 32 (32768 * x)
  rw [show ((((15 : Int32) &&& 31).toBitVec.smod 32).toNat) = 15 by decide]
  show BitVec.ofNat 32 x <<< 15 = _
  apply BitVec.eq_of_toNat_eq
  rw [BitVec.toNat_shiftLeft, BitVec.toNat_ofNat, BitVec.toNat_ofNat, Nat.shiftLeft_eq, Nat.mod_mul_mod, Nat.mul_comm]
theorem hv_s (n i : Nat) : dg n i / 2 + 32768 * (dg n (i + 1) % 2) = dg (n / 2) i := by
  unfold dg
  rw [div_s, Nat.div_div_eq_div_mul n 2, Nat.mul_comm 2, ← Nat.div_div_eq_div_mul]
  omega
theorem i32_halve {x y : Nat} (hx : x < 65536) : (Int32.ofNat x >>> ((1 : Int32) &&& 31)) ||| (Int32.ofNat y <<< ((15 : Int32) &&& 31)) = Int32.ofNat (x / 2 + 32768 * y) := by
  rw [i32_sar1 (by omega), i32_shl15, Int32.or_comm, Nat.add_comm]
  exact fa_or_sum (a := x / 2) (k := 15) y (by omega)
theorem odd_cop {y : Nat} (h : y % 2 = 1) : Nat.Coprime 2 y := by
  show Nat.gcd 2 y = 1
  rw [Nat.gcd_rec, h]
  decide
section GE
variable {I : Nat → Nat → Int32} {J : Nat → Nat → Int64} {R : Nat → Nat → Option Nat} {l s v : Nat → Int32}
theorem m_halve {r k n : Nat} (hR : RA R) (hr : r < 16) (A : Rg l s r k n) : ∃ l' s' k', f_X12_halve (bM I l s v J R) 4561 (Int32.ofNat r) = some (bM I l' s' v J R) ∧ Rg l' s' r k' (n / 2) ∧ Kp l s l' s' r := by
  have hk := A.2.1
  have q := xl_seq (step := f_X12_halve_s2) (s := fun i => (4561, Int32.ofNat r, Int32.ofNat i, bM I (wrl l r (n / 2) i) s v J R)) (N := k) (e := .inr (4561, Int32.ofNat r, bM I (wrl l r (n / 2) k) s v J R)) (by
    intro i hi
    have d1 := dg_lt n i
    have e1 : (440 : Int32) * Int32.ofNat r + Int32.ofNat i = Int32.ofNat (440 * r + i) := i32_ma 440 r i
    have j44 : f_X12_halve_j44 (bM I (wrl l r (n / 2) i) s v J R) 4561 (Int32.ofNat r) (Int32.ofNat i) (Int32.ofNat (dg n (i + 1) % 2)) = some (.inr (.inr (4561, Int32.ofNat r, Int32.ofNat (i + 1), bM I (wrl l r (n / 2) (i + 1)) s v J R))) := by
      unfold f_X12_halve_j44 xlet
      dsimp only
      rw [e1]
      refine xb_eq (m_g1 (by decide) hR) (xb_eq (m_g1 (by decide) hR) (xg_eq _ (m_al (by decide) (by omega)) ((wrl_ge (Nat.le_refl _)).trans (A.2.2.2.2 i hi)) ?_))
      rw [i32_halve d1, hv_s, i32_ofs]
      refine xb_eq (m_wl (by decide) (by omega)) ?_
      rw [wrl_s]
    unfold f_X12_halve_s2 xlet
    dsimp only
    refine xb_eq (m_g2 (by decide) hR) (xg_eq _ (m_as (by decide) hr) A.1 ?_)
    rw [if_neg (i32_nle (by omega) (by omega) hi)]
    refine xb_eq (m_g2 (by decide) hR) (xg_eq _ (m_as (by decide) hr) A.1 ?_)
    rw [i32_ofs]
    by_cases z : k ≤ i + 1
    · rw [if_pos ((i32_le (by omega) (by omega)).mpr z)]
      rw [dg_big A.2.2.1 z] at j44
      exact j44
    · rw [if_neg (i32_nle (by omega) (by omega) (by omega)), e1, i32_ofs, Nat.add_assoc]
      refine xb_eq (m_g1 (by decide) hR) (xg_eq _ (m_al (by decide) (by omega)) ((wrl_ge (by omega)).trans (A.2.2.2.2 (i + 1) (by omega))) ?_)
      rw [i32_mask1]
      exact j44) (by
    unfold f_X12_halve_s2 xlet
    dsimp only
    refine xb_eq (m_g2 (by decide) hR) (xg_eq _ (m_as (by decide) hr) A.1 ?_)
    rw [if_pos ((i32_le (by omega) (by omega)).mpr (Nat.le_refl _))]) (f := xF) (by unfold xF; omega)
  rw [wrl_0] at q
  obtain ⟨k', t1, t2, t3⟩ := m_trimD (I := I) (J := J) (l := l) (v := v) (n := n / 2) hR hr hk (Nat.lt_of_le_of_lt (Nat.div_le_self _ _) A.2.2.1) A.1
  refine ⟨_, _, k', ?_, t3, wrl_Kp hk⟩
  unfold f_X12_halve xlet
  refine xb_eq q ?_
  rw [Sum.elim_inr]
  dsimp only
  unfold f_X12_halve_j82
  exact xb_iq ok_4561 (xb_eq t1 rfl)
theorem m_even {r k n : Nat} (hR : RA R) (hr : r < 16) (A : Rg l s r k n) : f_X12_isBit (bM I l s v J R) 4561 (Int32.ofNat r) 0 = some (Int32.ofNat (n % 2)) := by
  have := m_isBitR (I := I) (J := J) (v := v) (j := 0) hR hr A (by decide)
  rw [show (2 : Nat) ^ 0 = 1 from rfl, Nat.div_one] at this
  exact this
theorem Rg_zero {r k n : Nat} (A : Rg l s r k n) : k = 0 ↔ n = 0 := by
  constructor
  · intro h
    have := A.2.2.1
    rw [h, show Bp 0 = 1 from rfl] at this
    omega
  · intro h
    rcases A.2.2.2.1 with z | z
    · exact z
    · have := Bp_pos (k - 1)
      omega
theorem Rg_B {r k n : Nat} (A : Rg l s r k n) : n < Bp 440 := Nat.lt_of_lt_of_le A.2.2.1 (Bp_le A.2.1)
/-- the register r is halved while it is even -/
theorem m_odd1 {r t : Nat} {y : Int32} (hR : RA R) (hr : r < 16) : ∀ (w a k f : Nat) (l s : Nat → Int32), a < 2 ^ w → 0 < a → w < f → Rg l s r k a → ∃ l' s' k' a' j, xloop f_X12_common_s54 f (4561, Int32.ofNat r, Int32.ofNat t, y, bM I l s v J R) = some (.inr (4561, Int32.ofNat r, Int32.ofNat t, y, bM I l' s' v J R)) ∧ a = 2 ^ j * a' ∧ a' % 2 = 1 ∧ Rg l' s' r k' a' ∧ Kp l s l' s' r := by
  intro w
  induction w with
  | zero =>
    intro a k f l s h1 h2
    rw [show (2 : Nat) ^ 0 = 1 from rfl] at h1
    omega
  | succ w ih =>
    intro a k f l s h1 h2 hf A
    have hev := m_even (I := I) (J := J) (v := v) hR hr A
    rcases (by omega : a % 2 = 0 ∨ a % 2 = 1) with e | e
    · obtain ⟨l1, s1, k1, g1, g2, g3⟩ := m_halve (I := I) (J := J) (v := v) hR hr A
      rw [Nat.pow_succ] at h1
      obtain ⟨l', s', k', a', j, z1, z2, z3, z4, z5⟩ := ih (a / 2) k1 (f - 1) l1 s1 (by omega) (by omega) (by omega) g2
      refine ⟨l', s', k', a', j + 1, (xl_s (by omega) ?_).trans z1, ?_, z3, z4, Kp_trans g3 z5⟩
      · unfold f_X12_common_s54 xlet
        dsimp only
        refine xb_iq ok_4561 (xb_eq hev ?_)
        rw [e, if_pos (show Int32.ofNat 0 = 0 from rfl)]
        exact xb_iq ok_4561 (xb_eq g1 rfl)
      · rw [Nat.pow_succ, Nat.mul_right_comm, ← z2]
        omega
    · refine ⟨l, s, k, a, 0, xl_e (by omega) ?_, by rw [show (2 : Nat) ^ 0 = 1 from rfl, Nat.one_mul], e, A, ⟨fun _ _ => rfl, fun _ _ => rfl⟩⟩
      unfold f_X12_common_s54 xlet
      dsimp only
      refine xb_iq ok_4561 (xb_eq hev ?_)
      rw [e, if_neg (show ¬ Int32.ofNat 1 = 0 by decide)]
theorem m_odd2 {r t : Nat} {y : Int32} (hR : RA R) (ht : t < 16) : ∀ (w a k f : Nat) (l s : Nat → Int32), a < 2 ^ w → 0 < a → w < f → Rg l s t k a → ∃ l' s' k' a' j, xloop f_X12_common_s71 f (4561, Int32.ofNat r, Int32.ofNat t, y, bM I l s v J R) = some (.inr (4561, Int32.ofNat r, Int32.ofNat t, y, bM I l' s' v J R)) ∧ a = 2 ^ j * a' ∧ a' % 2 = 1 ∧ Rg l' s' t k' a' ∧ Kp l s l' s' t := by
  intro w
  induction w with
  | zero =>
    intro a k f l s h1 h2
    rw [show (2 : Nat) ^ 0 = 1 from rfl] at h1
    omega
  | succ w ih =>
    intro a k f l s h1 h2 hf A
    have hev := m_even (I := I) (J := J) (v := v) hR ht A
    rcases (by omega : a % 2 = 0 ∨ a % 2 = 1) with e | e
    · obtain ⟨l1, s1, k1, g1, g2, g3⟩ := m_halve (I := I) (J := J) (v := v) hR ht A
      rw [Nat.pow_succ] at h1
      obtain ⟨l', s', k', a', j, z1, z2, z3, z4, z5⟩ := ih (a / 2) k1 (f - 1) l1 s1 (by omega) (by omega) (by omega) g2
      refine ⟨l', s', k', a', j + 1, (xl_s (by omega) ?_).trans z1, ?_, z3, z4, Kp_trans g3 z5⟩
      · unfold f_X12_common_s71 xlet
        dsimp only
        refine xb_iq ok_4561 (xb_eq hev ?_)
        rw [e, if_pos (show Int32.ofNat 0 = 0 from rfl)]
        exact xb_iq ok_4561 (xb_eq g1 rfl)
      · rw [Nat.pow_succ, Nat.mul_right_comm, ← z2]
        omega
    · refine ⟨l, s, k, a, 0, xl_e (by omega) ?_, by rw [show (2 : Nat) ^ 0 = 1 from rfl, Nat.one_mul], e, A, ⟨fun _ _ => rfl, fun _ _ => rfl⟩⟩
      unfold f_X12_common_s71 xlet
      dsimp only
      refine xb_iq ok_4561 (xb_eq hev ?_)
      rw [e, if_neg (show ¬ Int32.ofNat 1 = 0 by decide)]
/-- one turn of the second loop -/
theorem m_com_turn {r t ka kb a b wa wb : Nat} {y : Int32} (hR : RA R) (hr : r < 16) (ht : t < 16) (hrt : r ≠ t) (A : Rg l s r ka a) (B : Rg l s t kb b) (ha : 0 < a) (hb : 0 < b) (hwa : a < 2 ^ wa) (hwb : b < 2 ^ wb) (hwa2 : wa ≤ 7040) (hwb2 : wb ≤ 7040) (ho : a % 2 = 1 ∨ b % 2 = 1) : ∃ l' s' ka' kb' a' b' wa' wb', f_X12_common_s45 (4561, Int32.ofNat r, Int32.ofNat t, y, bM I l s v J R) = some (.inr (.inr (4561, Int32.ofNat r, Int32.ofNat t, y, bM I l' s' v J R))) ∧ Rg l' s' r ka' a' ∧ Rg l' s' t kb' b' ∧ Kl l s l' s' [r, t] ∧ 0 < b' ∧ Nat.gcd a' b' = Nat.gcd a b ∧ (a' % 2 = 1 ∨ b' % 2 = 1) ∧ (a' % 2 = 0 ∨ b' % 2 = 0) ∧ a' < 2 ^ wa' ∧ b' < 2 ^ wb' ∧ wa' ≤ wa ∧ wb' ≤ wb ∧ ((a % 2 = 0 ∨ b % 2 = 0) → wa' + wb' < wa + wb) := by
  have mr : r ∈ [r, t] := List.mem_cons_self
  have mt : t ∈ [r, t] := List.mem_cons_of_mem _ List.mem_cons_self
  obtain ⟨l1, s1, k1, a1, j1, x1, x2, x3, x4, x5⟩ := m_odd1 (I := I) (J := J) (v := v) (t := t) (y := y) hR hr wa a ka xF l s hwa ha (by unfold xF; omega) A
  obtain ⟨l2, s2, k2, b1, j2, y1, y2, y3, y4, y5⟩ := m_odd2 (I := I) (J := J) (v := v) (r := r) (y := y) hR ht wb b kb xF l1 s1 hwb hb (by unfold xF; omega) (B.keep x5 (Ne.symm hrt))
  have A2 : Rg l2 s2 r k1 a1 := x4.keep y5 hrt
  have K2 : Kl l s l2 s2 [r, t] := (x5.kl mr).trans (y5.kl mt)
  have g : Nat.gcd a1 b1 = Nat.gcd a b := by
    rcases ho with o | o
    · have : j1 = 0 := by
        cases j1 with
        | zero => rfl
        | succ j =>
          rw [x2, Nat.pow_succ, Nat.mul_right_comm] at o
          omega
      subst this
      rw [x2, y2, show (2 : Nat) ^ 0 = 1 from rfl, Nat.one_mul, Nat.Coprime.gcd_mul_left_cancel_right _ ((odd_cop x3).pow_left j2)]
    · have : j2 = 0 := by
        cases j2 with
        | zero => rfl
        | succ j =>
          rw [y2, Nat.pow_succ, Nat.mul_right_comm] at o
          omega
      subst this
      rw [x2, y2, show (2 : Nat) ^ 0 = 1 from rfl, Nat.one_mul, Nat.Coprime.gcd_mul_left_cancel _ ((odd_cop y3).pow_left j1)]
  -- the new bounds
  have sz : ∀ (n n1 j w : Nat), n = 2 ^ j * n1 → n1 % 2 = 1 → n < 2 ^ w → ∃ w', n1 < 2 ^ w' ∧ w' ≤ w ∧ (n % 2 = 0 → w' < w) := by
    intro n n1 j w e o hw
    cases j with
    | zero =>
      rw [show (2 : Nat) ^ 0 = 1 from rfl, Nat.one_mul] at e
      subst e
      exact ⟨w, hw, Nat.le_refl _, fun q => by omega⟩
    | succ j =>
      cases w with
      | zero =>
        rw [show (2 : Nat) ^ 0 = 1 from rfl] at hw
        have := Nat.mul_pos (Nat.two_pow_pos (j + 1)) (show 0 < n1 by omega)
        omega
      | succ w =>
        refine ⟨w, ?_, by omega, fun _ => by omega⟩
        have h1 : 2 * n1 ≤ n := by
          rw [e, Nat.pow_succ, Nat.mul_comm (2 ^ j), Nat.mul_assoc]
          exact Nat.mul_le_mul_left 2 (Nat.le_mul_of_pos_left n1 (Nat.two_pow_pos j))
        rw [Nat.pow_succ] at hw
        omega
  obtain ⟨wa', p1, p2, p3⟩ := sz a a1 j1 wa x2 x3 hwa
  obtain ⟨wb', q1, q2, q3⟩ := sz b b1 j2 wb y2 y3 hwb
  obtain ⟨o, o1, o2⟩ := m_compare (I := I) (J := J) (v := v) hR hr ht A2 y4
  have st : ∀ X, f_X12_common_j88 (bM I l2 s2 v J R) 4561 (Int32.ofNat r) (Int32.ofNat t) y = X → f_X12_common_s45 (4561, Int32.ofNat r, Int32.ofNat t, y, bM I l s v J R) = X := fun X hX => by
    unfold f_X12_common_s45 xlet
    dsimp only
    refine xb_eq (m_g2 (by decide) hR) (xg_eq _ (m_as (by decide) hr) A.1 ?_)
    have hka : ka ≠ 0 := fun z => by
      have := (Rg_zero A).mp z
      omega
    have hkl := A.2.1
    rw [if_neg (show ¬ (Int32.ofNat ka ≤ 0) from i32_nle (m := 0) (by omega) (by omega) (by omega))]
    refine xb_eq x1 ?_
    rw [Sum.elim_inr]
    dsimp only
    refine xb_eq y1 ?_
    rw [Sum.elim_inr]
    exact hX
  by_cases hlt : a1 < b1
  · obtain ⟨l3, s3, k3, m1, m2, m3⟩ := m_minus (I := I) (J := J) (v := v) hR ht hr (Ne.symm hrt) y4 A2 (by omega)
    refine ⟨l3, s3, k1, k3, a1, b1 - a1, wa', wb', st _ ?_, A2.keep m3 hrt, m2, K2.trans (m3.kl mt), by omega, ?_, Or.inl x3, Or.inr (by omega), p1, by omega, p2, q2, ?_⟩
    · unfold f_X12_common_j88
      refine xb_iq ok_4561 (xb_eq o1 ?_)
      rw [if_pos ((Cmp_lt o2).mpr hlt)]
      exact xb_iq ok_4561 (xb_eq m1 rfl)
    · rw [Nat.gcd_sub_self_right (by omega), g]
    · intro z
      rcases z with z | z
      · have := p3 z
        omega
      · have := q3 z
        omega
  · obtain ⟨l3, s3, k3, m1, m2, m3⟩ := m_minus (I := I) (J := J) (v := v) hR hr ht hrt A2 y4 (by omega)
    refine ⟨l3, s3, k3, k2, a1 - b1, b1, wa', wb', st _ ?_, m2, y4.keep m3 (Ne.symm hrt), K2.trans (m3.kl mr), by omega, ?_, Or.inr y3, Or.inl (by omega), by omega, q1, p2, q2, ?_⟩
    · unfold f_X12_common_j88
      refine xb_iq ok_4561 (xb_eq o1 ?_)
      rw [if_neg (fun z => hlt ((Cmp_lt o2).mp z))]
      exact xb_iq ok_4561 (xb_eq m1 rfl)
    · rw [Nat.gcd_sub_self_left (by omega), g]
    · intro z
      rcases z with z | z
      · have := p3 z
        omega
      · have := q3 z
        omega
end GE
