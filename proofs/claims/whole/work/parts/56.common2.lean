section GF
variable {I : Nat → Nat → Int32} {J : Nat → Nat → Int64} {R : Nat → Nat → Option Nat} {l s v : Nat → Int32}
theorem m_com_exit {r t ka b f : Nat} {y : Int32} (hR : RA R) (hr : r < 16) (hf : 0 < f) (A : Rg l s r ka 0) : xloop f_X12_common_s45 f (4561, Int32.ofNat r, Int32.ofNat t, y, bM I l s v J R) = some (.inr (4561, Int32.ofNat r, Int32.ofNat t, y, bM I l s v J R)) := by
  refine xl_e hf ?_
  have e := (Rg_zero A).mpr rfl
  have h1 := A.1
  rw [e] at h1
  unfold f_X12_common_s45 xlet
  dsimp only
  refine xb_eq (m_g2 (by decide) hR) (xg_eq _ (m_as (by decide) hr) h1 ?_)
  rw [if_pos (by decide)]
theorem m_com_loop {r t : Nat} {y : Int32} (hR : RA R) (hr : r < 16) (ht : t < 16) (hrt : r ≠ t) : ∀ (W wa wb a b ka kb f : Nat) (l1 s1 : Nat → Int32), wa + wb ≤ W → W + 1 < f → (a % 2 = 0 ∨ b % 2 = 0) → (a = 0 ∨ a % 2 = 1 ∨ b % 2 = 1) → Kl l s l1 s1 [r, t] → Rg l1 s1 r ka a → Rg l1 s1 t kb b → 0 < b → a < 2 ^ wa → b < 2 ^ wb → wa ≤ 7040 → wb ≤ 7040 → ∃ l' s' kt, xloop f_X12_common_s45 f (4561, Int32.ofNat r, Int32.ofNat t, y, bM I l1 s1 v J R) = some (.inr (4561, Int32.ofNat r, Int32.ofNat t, y, bM I l' s' v J R)) ∧ Rg l' s' t kt (Nat.gcd a b) ∧ Kl l s l' s' [r, t] := by
  intro W
  induction W with
  | zero =>
    intro wa wb a b ka kb f l1 s1 h1 h2 h3 h4 K A B hb hwa hwb i1 i2
    have e : wa = 0 := by omega
    rw [e, show (2 : Nat) ^ 0 = 1 from rfl] at hwa
    have e2 : a = 0 := by omega
    subst e2
    rw [Nat.gcd_zero_left]
    exact ⟨l1, s1, kb, m_com_exit (b := b) hR hr (by omega) A, B, K⟩
  | succ W ih =>
    intro wa wb a b ka kb f l1 s1 h1 h2 h3 h4 K A B hb hwa hwb i1 i2
    by_cases ha : a = 0
    · subst ha
      rw [Nat.gcd_zero_left]
      exact ⟨l1, s1, kb, m_com_exit (b := b) hR hr (by omega) A, B, K⟩
    · obtain ⟨l2, s2, ka', kb', a', b', wa', wb', t1, t2, t3, t4, t5, t6, t7, t8, t9, t10, t11, t12, t13⟩ := m_com_turn (I := I) (J := J) (v := v) (y := y) hR hr ht hrt A B (by omega) hb hwa hwb i1 i2 (h4.resolve_left ha)
      have := t13 h3
      obtain ⟨l', s', kt, z1, z2, z3⟩ := ih wa' wb' a' b' ka' kb' (f - 1) l2 s2 (by omega) (by omega) t8 (Or.inr t7) (K.trans t4) t2 t3 t5 t9 t10 (by omega) (by omega)
      exact ⟨l', s', kt, (xl_s (by omega) t1).trans z1, by rw [← t6]; exact z2, z3⟩
theorem m_com_all {r t ka kb a b : Nat} {y : Int32} (hR : RA R) (hr : r < 16) (ht : t < 16) (hrt : r ≠ t) (ho : a = 0 ∨ a % 2 = 1 ∨ b % 2 = 1) (A : Rg l s r ka a) (B : Rg l s t kb b) (hb : 0 < b) : ∃ l' s' kt, xloop f_X12_common_s45 xF (4561, Int32.ofNat r, Int32.ofNat t, y, bM I l s v J R) = some (.inr (4561, Int32.ofNat r, Int32.ofNat t, y, bM I l' s' v J R)) ∧ Rg l' s' t kt (Nat.gcd a b) ∧ Kl l s l' s' [r, t] := by
  have hwa : a < 2 ^ 7040 := by
    have := Rg_B A
    rw [Bp_two] at this
    exact this
  have hwb : b < 2 ^ 7040 := by
    have := Rg_B B
    rw [Bp_two] at this
    exact this
  by_cases ha : a = 0
  · subst ha
    rw [Nat.gcd_zero_left]
    exact ⟨l, s, kb, m_com_exit (b := b) hR hr (by unfold xF; omega) A, B, Kl.rfl⟩
  · obtain ⟨l2, s2, ka', kb', a', b', wa', wb', t1, t2, t3, t4, t5, t6, t7, t8, t9, t10, t11, t12, t13⟩ := m_com_turn (I := I) (J := J) (v := v) (y := y) hR hr ht hrt A B (by omega) hb hwa hwb (Nat.le_refl _) (Nat.le_refl _) (ho.resolve_left ha)
    obtain ⟨l', s', kt, z1, z2, z3⟩ := m_com_loop (I := I) (J := J) (v := v) (y := y) (l := l) (s := s) hR hr ht hrt 14080 wa' wb' a' b' ka' kb' (xF - 1) l2 s2 (by omega) (by unfold xF; omega) t8 (Or.inr t7) t4 t2 t3 t5 t9 t10 (by omega) (by omega)
    exact ⟨l', s', kt, (xl_s (by unfold xF; omega) t1).trans z1, by rw [← t6]; exact z2, z3⟩
theorem m_com_twos {r t : Nat} (hR : RA R) (hr : r < 16) (ht : t < 16) (hrt : r ≠ t) : ∀ (w a b ka kb f c : Nat) (l1 s1 : Nat → Int32), a < 2 ^ w → w < f → Kl l s l1 s1 [r, t] → Rg l1 s1 r ka a → Rg l1 s1 t kb b → 0 < b → ∃ l' s' ka' kb' a' b' j, xloop f_X12_common_s2 f (4561, Int32.ofNat r, Int32.ofNat t, Int32.ofNat c, bM I l1 s1 v J R) = some (.inr (4561, Int32.ofNat r, Int32.ofNat t, Int32.ofNat (c + j), bM I l' s' v J R)) ∧ a = 2 ^ j * a' ∧ b = 2 ^ j * b' ∧ (a' = 0 ∨ a' % 2 = 1 ∨ b' % 2 = 1) ∧ Rg l' s' r ka' a' ∧ Rg l' s' t kb' b' ∧ Kl l s l' s' [r, t] ∧ j ≤ w := by
  have mr : r ∈ [r, t] := List.mem_cons_self
  have mt : t ∈ [r, t] := List.mem_cons_of_mem _ List.mem_cons_self
  intro w
  induction w with
  | zero =>
    intro a b ka kb f c l1 s1 h1 h2 K A B hb
    have e2 : a = 0 := by
      rw [show (2 : Nat) ^ 0 = 1 from rfl] at h1
      omega
    subst e2
    refine ⟨l1, s1, ka, kb, 0, b, 0, xl_e (by omega) ?_, by omega, by omega, Or.inl rfl, A, B, K, Nat.le_refl _⟩
    have e := (Rg_zero A).mpr rfl
    have g1 := A.1
    rw [e] at g1
    unfold f_X12_common_s2 xlet
    dsimp only
    refine xb_eq (m_g2 (by decide) hR) (xg_eq _ (m_as (by decide) hr) g1 ?_)
    rw [if_pos (by decide)]
    rfl
  | succ w ih =>
    intro a b ka kb f c l1 s1 h1 h2 K A B hb
    by_cases ha : a = 0
    · subst ha
      refine ⟨l1, s1, ka, kb, 0, b, 0, xl_e (by omega) ?_, by omega, by omega, Or.inl rfl, A, B, K, by omega⟩
      have e := (Rg_zero A).mpr rfl
      have g1 := A.1
      rw [e] at g1
      unfold f_X12_common_s2 xlet
      dsimp only
      refine xb_eq (m_g2 (by decide) hR) (xg_eq _ (m_as (by decide) hr) g1 ?_)
      rw [if_pos (by decide)]
      rfl
    · have hka : ka ≠ 0 := fun z => ha ((Rg_zero A).mp z)
      have hkl := A.2.1
      have ev1 := m_even (I := I) (J := J) (v := v) hR hr A
      have ev2 := m_even (I := I) (J := J) (v := v) hR ht B
      rcases (by omega : a % 2 = 1 ∨ a % 2 = 0) with e1 | e1
      · refine ⟨l1, s1, ka, kb, a, b, 0, xl_e (by omega) ?_, by omega, by omega, Or.inr (Or.inl e1), A, B, K, by omega⟩
        unfold f_X12_common_s2 xlet
        dsimp only
        refine xb_eq (m_g2 (by decide) hR) (xg_eq _ (m_as (by decide) hr) A.1 ?_)
        rw [if_neg (show ¬ (Int32.ofNat ka ≤ 0) from i32_nle (m := 0) (by omega) (by omega) (by omega))]
        refine xb_iq ok_4561 (xb_eq ev1 ?_)
        rw [e1, if_neg (show ¬ Int32.ofNat 1 = 0 by decide)]
        rfl
      · rcases (by omega : b % 2 = 1 ∨ b % 2 = 0) with e2 | e2
        · refine ⟨l1, s1, ka, kb, a, b, 0, xl_e (by omega) ?_, by omega, by omega, Or.inr (Or.inr e2), A, B, K, by omega⟩
          unfold f_X12_common_s2 xlet
          dsimp only
          refine xb_eq (m_g2 (by decide) hR) (xg_eq _ (m_as (by decide) hr) A.1 ?_)
          rw [if_neg (show ¬ (Int32.ofNat ka ≤ 0) from i32_nle (m := 0) (by omega) (by omega) (by omega))]
          refine xb_iq ok_4561 (xb_eq ev1 ?_)
          rw [e1, if_pos (show Int32.ofNat 0 = 0 from rfl)]
          refine xb_iq ok_4561 (xb_eq ev2 ?_)
          rw [e2, if_neg (show ¬ Int32.ofNat 1 = 0 by decide)]
          rfl
        · obtain ⟨l2, s2, k2, g1, g2, g3⟩ := m_halve (I := I) (J := J) (v := v) hR hr A
          obtain ⟨l3, s3, k3, q1, q2, q3⟩ := m_halve (I := I) (J := J) (v := v) hR ht (B.keep g3 (Ne.symm hrt))
          rw [Nat.pow_succ] at h1
          obtain ⟨l', s', ka', kb', a', b', j, z1, z2, z3, z4, z5, z6, z7, z8⟩ := ih (a / 2) (b / 2) k2 k3 (f - 1) (c + 1) l3 s3 (by omega) (by omega) ((K.trans (g3.kl mr)).trans (q3.kl mt)) (g2.keep q3 hrt) q2 (by omega)
          refine ⟨l', s', ka', kb', a', b', j + 1, (xl_s (by omega) ?_).trans (z1.trans ?_), ?_, ?_, z4, z5, z6, z7, by omega⟩
          · unfold f_X12_common_s2 xlet
            dsimp only
            refine xb_eq (m_g2 (by decide) hR) (xg_eq _ (m_as (by decide) hr) A.1 ?_)
            rw [if_neg (show ¬ (Int32.ofNat ka ≤ 0) from i32_nle (m := 0) (by omega) (by omega) (by omega))]
            refine xb_iq ok_4561 (xb_eq ev1 ?_)
            rw [e1, if_pos (show Int32.ofNat 0 = 0 from rfl)]
            refine xb_iq ok_4561 (xb_eq ev2 ?_)
            rw [e2, if_pos (show Int32.ofNat 0 = 0 from rfl)]
            refine xb_iq ok_4561 (xb_eq g1 (xb_iq ok_4561 (xb_eq q1 ?_)))
            rw [i32_ofs]
          · rw [show c + 1 + j = c + (j + 1) by omega]
          · rw [Nat.pow_succ, Nat.mul_right_comm, ← z2]
            omega
          · rw [Nat.pow_succ, Nat.mul_right_comm, ← z3]
            omega
theorem m_com_back {r j : Nat} (hR : RA R) (hr : r < 16) (hj : j < 100000) : ∀ (m i n k f : Nat) (l1 s1 : Nat → Int32), i + m = j → m < f → 2 ^ m * n < Bp 440 → Kp l s l1 s1 r → Rg l1 s1 r k n → ∃ l' s' k', xloop f_X12_common_s124 f (4561, Int32.ofNat r, Int32.ofNat j, Int32.ofNat i, bM I l1 s1 v J R) = some (.inr (bM I l' s' v J R)) ∧ Rg l' s' r k' (2 ^ m * n) ∧ Kp l s l' s' r := by
  intro m
  induction m with
  | zero =>
    intro i n k f l1 s1 hi hf hn K A
    have e : i = j := by omega
    subst e
    refine ⟨l1, s1, k, xl_e hf ?_, by rw [show (2 : Nat) ^ 0 = 1 from rfl, Nat.one_mul]; exact A, K⟩
    unfold f_X12_common_s124 xlet
    dsimp only
    rw [if_pos ((i32_le (by omega) (by omega)).mpr (Nat.le_refl _))]
  | succ m ih =>
    intro i n k f l1 s1 hi hf hn K A
    have h2 : 2 ^ (m + 1) * n = 2 ^ m * (2 * n) := by rw [Nat.pow_succ, Nat.mul_assoc]
    have hb : 2 * n + 0 < Bp 440 := by
      rw [h2] at hn
      exact Nat.lt_of_le_of_lt (Nat.le_mul_of_pos_left _ (Nat.two_pow_pos m)) hn
    obtain ⟨l2, s2, k2, g1, g2, g3⟩ := m_twice (I := I) (J := J) (v := v) (b := 0) hR hr (by decide) A hb
    obtain ⟨l', s', k', z1, z2, z3⟩ := ih (i + 1) (2 * n + 0) k2 (f - 1) l2 s2 (by omega) (by omega) (by rw [Nat.add_zero, ← h2]; exact hn) (Kp_trans K g3) g2
    refine ⟨l', s', k', (xl_s (by omega) ?_).trans z1, by rw [h2, ← Nat.add_zero (2 * n)]; exact z2, z3⟩
    unfold f_X12_common_s124 xlet
    dsimp only
    rw [if_neg (i32_nle (by omega) (by omega) (by omega))]
    refine xb_iq ok_4561 (xb_eq g1 ?_)
    rw [i32_ofs]
/-- r becomes the greatest one that divides r and t -/
theorem m_common {r t kr kt n d : Nat} (hR : RA R) (hr : r < 16) (ht : t < 16) (hrt : r ≠ t) (A : Rg l s r kr n) (B : Rg l s t kt d) (hd : 0 < d) : ∃ l' s' k, f_X12_common (bM I l s v J R) 4561 (Int32.ofNat r) (Int32.ofNat t) = some (bM I l' s' v J R) ∧ Rg l' s' r k (Nat.gcd n d) ∧ Kl l s l' s' [r, t] := by
  have mr : r ∈ [r, t] := List.mem_cons_self
  have hn : n < 2 ^ 7040 := by
    have := Rg_B A
    rw [Bp_two] at this
    exact this
  obtain ⟨l1, s1, ka, kb, a, b, j, x1, x2, x3, x4, x5, x6, x7, x8⟩ := m_com_twos (I := I) (J := J) (v := v) (l := l) (s := s) hR hr ht hrt 7040 n d kr kt xF 0 l s hn (by unfold xF; omega) Kl.rfl A B hd
  have hb : 0 < b := by
    rcases Nat.eq_zero_or_pos b with z | z
    · rw [z, Nat.mul_zero] at x3
      omega
    · exact z
  obtain ⟨l2, s2, k2, y1, y2, y3⟩ := m_com_all (I := I) (J := J) (v := v) (y := Int32.ofNat (0 + j)) hR hr ht hrt x4 x5 x6 hb
  obtain ⟨l3, s3, c1, c2, c3⟩ := m_copyR (I := I) (J := J) (v := v) hR hr ht hrt y2
  have e : Nat.gcd n d = 2 ^ j * Nat.gcd a b := by rw [x2, x3, Nat.gcd_mul_left]
  have hB : 2 ^ j * Nat.gcd a b < Bp 440 := by
    rw [← e]
    exact Nat.lt_of_le_of_lt (Nat.le_of_dvd hd (Nat.gcd_dvd_right n d)) (Rg_B B)
  obtain ⟨l4, s4, k4, w1, w2, w3⟩ := m_com_back (I := I) (J := J) (v := v) (l := l3) (s := s3) (j := 0 + j) hR hr (by omega) j 0 (Nat.gcd a b) k2 xF l3 s3 rfl (by unfold xF; omega) hB ⟨fun _ _ => rfl, fun _ _ => rfl⟩ c2
  refine ⟨l4, s4, k4, ?_, by rw [e]; exact w2, ((x7.trans y3).trans (c3.kl mr)).trans (w3.kl mr)⟩
  unfold f_X12_common xlet
  refine xb_eq x1 ?_
  rw [Sum.elim_inr]
  dsimp only
  refine xb_eq y1 ?_
  rw [Sum.elim_inr]
  dsimp only
  unfold f_X12_common_j115 xlet
  refine xb_iq ok_4561 (xb_eq c1 (xb_eq w1 ?_))
  rfl
end GF
