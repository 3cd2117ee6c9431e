section GD
variable {I : Nat → Nat → Int32} {J : Nat → Nat → Int64} {R : Nat → Nat → Option Nat} {l s v : Nat → Int32}
theorem m_bitsR {r k n : Nat} (hR : RA R) (hr : r < 16) (A : Rg l s r k n) : ∃ w, f_X12_bits (bM I l s v J R) 4561 (Int32.ofNat r) = some (Int32.ofNat w) ∧ w ≤ 7040 ∧ n < 2 ^ w ∧ (w = 0 ∨ 2 ^ (w - 1) ≤ n) := by
  have hk := A.2.1
  by_cases h : k = 0
  · subst h
    have hn : n = 0 := by
      have := A.2.2.1
      rw [show Bp 0 = 1 from rfl] at this
      omega
    refine ⟨0, ?_, by decide, by rw [hn]; decide, Or.inl rfl⟩
    unfold f_X12_bits
    refine xb_eq (m_g2 (by decide) hR) (xg_eq 0 (m_as (by decide) hr) A.1 ?_)
    rw [if_pos rfl]
    unfold f_X12_bits_j32
    refine xb_eq (m_g2 (by decide) hR) (xg_eq 0 (m_as (by decide) hr) A.1 ?_)
    rw [if_pos rfl]
    unfold f_X12_bits_j57
    obtain ⟨u, g1, g2, g3⟩ := m_bits_loop (M := bM I l s v J R) 0 xF 0 (by decide) (by decide)
    have hu : u = 0 := by
      rcases g3 with g3 | g3
      · exact g3
      · have := Nat.two_pow_pos (u - 1)
        omega
    subst hu
    exact xb_eq g1 rfl
  · have lo : Bp (k - 1) ≤ n := by
      rcases A.2.2.2.1 with z | z
      · exact absurd z h
      · exact z
    have hP := Bp_pos (k - 1)
    have up := A.2.2.1
    have top : dg n (k - 1) = n / Bp (k - 1) := by
      unfold dg
      refine Nat.mod_eq_of_lt (Nat.div_lt_of_lt_mul ?_)
      rw [← Bp_s, show k - 1 + 1 = k by omega]
      exact up
    have t1 : 0 < dg n (k - 1) := by
      rw [top]
      exact Nat.div_pos lo hP
    have t2 := dg_lt n (k - 1)
    obtain ⟨u, g1, g2, g3⟩ := m_bits_loop (M := bM I l s v J R) (dg n (k - 1)) xF (16 * (k - 1)) t2 (by unfold xF; omega)
    have hu : u ≠ 0 := fun q => by
      subst q
      have : dg n (k - 1) < 1 := g2
      omega
    have g4 : 2 ^ (u - 1) ≤ dg n (k - 1) := by
      rcases g3 with z | z
      · exact absurd z hu
      · exact z
    have hu2 : u ≤ 16 := by
      by_cases z : u ≤ 16
      · exact z
      · have : 2 ^ 16 ≤ 2 ^ (u - 1) := Nat.pow_le_pow_right (by decide) (by omega)
        have e : (2 : Nat) ^ 16 = 65536 := by decide
        omega
    refine ⟨16 * (k - 1) + u, ?_, by omega, ?_, Or.inr ?_⟩
    · unfold f_X12_bits
      refine xb_eq (m_g2 (by decide) hR) (xg_eq _ (m_as (by decide) hr) A.1 ?_)
      rw [if_neg (show ¬ (Int32.ofNat k = 0) from i32_neq (m := 0) (by omega) (by omega) h)]
      refine xb_eq (m_g1 (by decide) hR) (xb_eq (m_g2 (by decide) hR) (xg_eq _ (m_as (by decide) hr) A.1 ?_))
      have ei : (440 : Int32) * Int32.ofNat r + Int32.ofNat k - 1 = Int32.ofNat (440 * r + (k - 1)) := by
        rw [show (440 : Int32) * Int32.ofNat r + Int32.ofNat k = Int32.ofNat (440 * r + k) from i32_ma 440 r k, show 440 * r + k = 440 * r + (k - 1) + 1 by omega, i32_pred]
      rw [ei]
      refine xb_eq ((m_al (by decide) (by omega)).trans (congrArg some (A.2.2.2.2 (k - 1) (by omega)))) ?_
      unfold f_X12_bits_j32
      refine xb_eq (m_g2 (by decide) hR) (xg_eq _ (m_as (by decide) hr) A.1 ?_)
      rw [if_neg (show ¬ (Int32.ofNat k = 0) from i32_neq (m := 0) (by omega) (by omega) h)]
      refine xb_eq (m_g2 (by decide) hR) (xg_eq _ (m_as (by decide) hr) A.1 ?_)
      have ej : (16 : Int32) * (Int32.ofNat k - 1) = Int32.ofNat (16 * (k - 1)) := by
        rw [show k = k - 1 + 1 by omega, i32_pred, show k - 1 + 1 - 1 = k - 1 by omega]
        exact (Int32.ofNat_mul 16 (k - 1)).symm
      rw [ej]
      unfold f_X12_bits_j57
      exact xb_eq g1 rfl
    · rw [top] at g2
      rw [Nat.pow_add, ← Bp_two]
      rw [Nat.div_lt_iff_lt_mul hP] at g2
      rw [Nat.mul_comm]
      exact g2
    · rw [top, Nat.le_div_iff_mul_le hP] at g4
      rw [show 16 * (k - 1) + u - 1 = 16 * (k - 1) + (u - 1) by omega, Nat.pow_add, ← Bp_two, Nat.mul_comm]
      exact g4
theorem div_next {N d b : Nat} (hd : 0 < d) : (2 * (N % d) + b < d → (2 * N + b) % d = 2 * (N % d) + b ∧ (2 * N + b) / d = 2 * (N / d)) ∧ (d ≤ 2 * (N % d) + b → b ≤ 1 → (2 * N + b) % d = 2 * (N % d) + b - d ∧ (2 * N + b) / d = 2 * (N / d) + 1) := by
  have h1 := Nat.mod_add_div N d
  have h2 := Nat.mod_lt N hd
  have e : 2 * N + b = (2 * (N % d) + b) + d * (2 * (N / d)) := by
    rw [Nat.mul_left_comm]
    omega
  constructor
  · intro h
    rw [e, Nat.add_mul_mod_self_left, Nat.add_mul_div_left _ _ hd, Nat.mod_eq_of_lt h, Nat.div_eq_of_lt h]
    exact ⟨rfl, by omega⟩
  · intro h hb
    have e2 : 2 * (N % d) + b = (2 * (N % d) + b - d) + d * 1 := by omega
    rw [e, Nat.add_mul_mod_self_left, Nat.add_mul_div_left _ _ hd]
    constructor
    · rw [Nat.mod_eq_sub_mod h, Nat.mod_eq_of_lt (by omega)]
    · rw [e2, Nat.add_mul_div_left _ _ hd, Nat.div_eq_of_lt (by omega)]
      omega
theorem m_div_loop {q m r t kr kt n d : Nat} (hR : RA R) (hq : q < 16) (hm : m < 16) (hr : r < 16) (ht : t < 16) (n1 : q ≠ m) (n2 : r ∉ [q, m]) (n3 : t ∉ [q, m]) (A : Rg l s r kr n) (D : Rg l s t kt d) (hd : 0 < d) (hd2 : 2 * d < Bp 440) : ∀ (k f : Nat) (l1 s1 : Nat → Int32) (kq km : Nat), k ≤ 7040 → k < f → Kl l s l1 s1 [q, m] → Rg l1 s1 q kq (n / 2 ^ k / d) → Rg l1 s1 m km (n / 2 ^ k % d) → ∃ l' s' kq' km', xloop f_X12_divide_s23 f (4561, Int32.ofNat q, Int32.ofNat m, Int32.ofNat r, Int32.ofNat t, Int32.ofNat k - 1, bM I l1 s1 v J R) = some (.inr (bM I l' s' v J R)) ∧ Rg l' s' q kq' (n / d) ∧ Rg l' s' m km' (n % d) ∧ Kl l s l' s' [q, m] := by
  have hnB : n < Bp 440 := Nat.lt_of_lt_of_le A.2.2.1 (Bp_le A.2.1)
  have mq : m ∈ [q, m] := List.mem_cons_of_mem _ List.mem_cons_self
  have qq : q ∈ [q, m] := List.mem_cons_self
  have n4 : m ≠ t := fun e => n3 (e ▸ mq)
  intro k
  induction k with
  | zero =>
    intro f l1 s1 kq km _ hf K Q M
    rw [show (2 : Nat) ^ 0 = 1 from rfl, Nat.div_one] at Q M
    refine ⟨l1, s1, kq, km, xl_e hf ?_, Q, M, K⟩
    unfold f_X12_divide_s23 xlet
    dsimp only
    rw [if_pos (by decide)]
  | succ k ih =>
    intro f l1 s1 kq km hk hf K Q M
    have eN : n / 2 ^ k = 2 * (n / 2 ^ (k + 1)) + n / 2 ^ k % 2 := by
      rw [Nat.pow_succ, ← Nat.div_div_eq_div_mul]
      omega
    have hbit := Nat.mod_lt (n / 2 ^ k) (show 0 < 2 by decide)
    have hNm := Nat.mod_lt (n / 2 ^ (k + 1)) hd
    have bit := m_isBitR (I := I) (J := J) (v := v) (j := k) hR hr (A.kl K n2) (by omega)
    generalize hB : n / 2 ^ k % 2 = b at eN hbit bit
    generalize n / 2 ^ (k + 1) = N at eN Q M hNm
    obtain ⟨l2, s2, km2, w1, w2, w3⟩ := m_twice (I := I) (J := J) (v := v) (b := b) hR hm (by omega) M (by omega)
    obtain ⟨y, y1, y2⟩ := m_compare (I := I) (J := J) (v := v) hR hm ht w2 ((D.kl K n3).keep w3 (Ne.symm n4))
    have dn := div_next (N := N) (b := b) hd
    have fin : ∀ (c : Nat) (l3 s3 : Nat → Int32) (km3 : Nat), c ≤ 1 → n / 2 ^ k / d = 2 * (N / d) + c → Rg l3 s3 m km3 (n / 2 ^ k % d) → Kp l2 s2 l3 s3 m → ∃ l' s' kq' km' l4 s4, f_X12_divide_j77 (bM I l3 s3 v J R) 4561 (Int32.ofNat q) (Int32.ofNat m) (Int32.ofNat r) (Int32.ofNat t) (Int32.ofNat k) (Int32.ofNat c) = some (.inr (.inr (4561, Int32.ofNat q, Int32.ofNat m, Int32.ofNat r, Int32.ofNat t, Int32.ofNat k - 1, bM I l4 s4 v J R))) ∧ xloop f_X12_divide_s23 (f - 1) (4561, Int32.ofNat q, Int32.ofNat m, Int32.ofNat r, Int32.ofNat t, Int32.ofNat k - 1, bM I l4 s4 v J R) = some (.inr (bM I l' s' v J R)) ∧ Rg l' s' q kq' (n / d) ∧ Rg l' s' m km' (n % d) ∧ Kl l s l' s' [q, m] := by
      intro c l3 s3 km3 hc hdv M3 K3
      have Q3 := (Q.keep w3 n1).keep K3 n1
      have bq : 2 * (N / d) + c < Bp 440 := by
        rw [← hdv]
        exact Nat.lt_of_le_of_lt (Nat.le_trans (Nat.div_le_self _ _) (Nat.div_le_self _ _)) hnB
      obtain ⟨l4, s4, kq4, x1, x2, x3⟩ := m_twice (I := I) (J := J) (v := v) (b := c) hR hq hc Q3 bq
      have K4 : Kl l s l4 s4 [q, m] := ((K.trans (w3.kl mq)).trans (K3.kl mq)).trans (x3.kl qq)
      obtain ⟨l', s', kq', km', z1, z2, z3, z4⟩ := ih (f - 1) l4 s4 kq4 km3 (by omega) (by omega) K4 (by rw [hdv]; exact x2) (M3.keep x3 (Ne.symm n1))
      refine ⟨l', s', kq', km', l4, s4, ?_, z1, z2, z3, z4⟩
      have j89 : ∀ y : Int32, y = Int32.ofNat c → f_X12_divide_j89 (bM I l3 s3 v J R) 4561 (Int32.ofNat q) (Int32.ofNat m) (Int32.ofNat r) (Int32.ofNat t) (Int32.ofNat k) y (Int32.ofNat q) 4561 = some (.inr (.inr (4561, Int32.ofNat q, Int32.ofNat m, Int32.ofNat r, Int32.ofNat t, Int32.ofNat k - 1, bM I l4 s4 v J R))) := fun y hy => by
        subst hy
        unfold f_X12_divide_j89 xlet
        refine xb_iq ok_4561 (xb_eq x1 ?_)
        rw [Int32.sub_eq_add_neg]
      unfold f_X12_divide_j77
      rcases (by omega : c = 0 ∨ c = 1) with rfl | rfl
      · rw [if_pos (show Int32.ofNat 0 = 0 from rfl)]
        exact j89 0 rfl
      · rw [if_neg (show ¬ Int32.ofNat 1 = 0 by decide)]
        exact j89 1 rfl
    have j45 : ∃ l' s' kq' km' l4 s4, f_X12_divide_j45 (bM I l1 s1 v J R) 4561 (Int32.ofNat q) (Int32.ofNat m) (Int32.ofNat r) (Int32.ofNat t) (Int32.ofNat k) (Int32.ofNat b) (Int32.ofNat m) 4561 = some (.inr (.inr (4561, Int32.ofNat q, Int32.ofNat m, Int32.ofNat r, Int32.ofNat t, Int32.ofNat k - 1, bM I l4 s4 v J R))) ∧ xloop f_X12_divide_s23 (f - 1) (4561, Int32.ofNat q, Int32.ofNat m, Int32.ofNat r, Int32.ofNat t, Int32.ofNat k - 1, bM I l4 s4 v J R) = some (.inr (bM I l' s' v J R)) ∧ Rg l' s' q kq' (n / d) ∧ Rg l' s' m km' (n % d) ∧ Kl l s l' s' [q, m] := by
      by_cases hlt : 2 * (N % d) + b < d
      · obtain ⟨e1, e2⟩ := dn.1 hlt
        obtain ⟨l', s', kq', km', l4, s4, z1, z2⟩ := fin 0 l2 s2 km2 (by decide) (by rw [eN, e2]; rfl) (by rw [eN, e1]; exact w2) ⟨fun _ _ => rfl, fun _ _ => rfl⟩
        refine ⟨l', s', kq', km', l4, s4, ?_, z2⟩
        unfold f_X12_divide_j45
        refine xb_iq ok_4561 (xb_eq w1 (xb_iq ok_4561 (xb_eq y1 ?_)))
        rw [if_pos ((Cmp_lt y2).mpr hlt)]
        unfold f_X12_divide_j63
        rw [if_pos rfl]
        exact z1
      · obtain ⟨e1, e2⟩ := dn.2 (Nat.not_lt.mp hlt) (by omega)
        obtain ⟨l3, s3, km3, m1, m2, m3⟩ := m_minus (I := I) (J := J) (v := v) hR hm ht n4 w2 ((D.kl K n3).keep w3 (Ne.symm n4)) (Nat.not_lt.mp hlt)
        obtain ⟨l', s', kq', km', l4, s4, z1, z2⟩ := fin 1 l3 s3 km3 (by decide) (by rw [eN, e2]) (by rw [eN, e1]; exact m2) m3
        refine ⟨l', s', kq', km', l4, s4, ?_, z2⟩
        unfold f_X12_divide_j45
        refine xb_iq ok_4561 (xb_eq w1 (xb_iq ok_4561 (xb_eq y1 ?_)))
        rw [if_neg (fun z => hlt ((Cmp_lt y2).mp z))]
        unfold f_X12_divide_j63
        rw [if_neg (by decide)]
        exact xb_iq ok_4561 (xb_eq m1 z1)
    obtain ⟨l', s', kq', km', l4, s4, z1, z2, z3, z4, z5⟩ := j45
    refine ⟨l', s', kq', km', (xl_s (by omega) ?_).trans z2, z3, z4, z5⟩
    unfold f_X12_divide_s23 xlet
    dsimp only
    rw [i32_pred, if_neg (i32_nlt0 (by omega))]
    refine xb_iq ok_4561 (xb_eq bit ?_)
    rcases (by omega : b = 0 ∨ b = 1) with rfl | rfl
    · rw [if_pos (show Int32.ofNat 0 = 0 from rfl)]
      exact z1
    · rw [if_neg (show ¬ Int32.ofNat 1 = 0 by decide)]
      exact z1
/-- q becomes how often t goes into r, m what is left -/
theorem m_divide {q m r t kr kt n d : Nat} (hR : RA R) (hq : q < 16) (hm : m < 16) (hr : r < 16) (ht : t < 16) (n1 : q ≠ m) (n2 : r ∉ [q, m]) (n3 : t ∉ [q, m]) (A : Rg l s r kr n) (D : Rg l s t kt d) (hd : 0 < d) (hd2 : 2 * d < Bp 440) : ∃ l' s' kq km, f_X12_divide (bM I l s v J R) 4561 (Int32.ofNat q) (Int32.ofNat m) (Int32.ofNat r) (Int32.ofNat t) = some (bM I l' s' v J R) ∧ Rg l' s' q kq (n / d) ∧ Rg l' s' m km (n % d) ∧ Kl l s l' s' [q, m] := by
  have qq : q ∈ [q, m] := List.mem_cons_self
  have mq : m ∈ [q, m] := List.mem_cons_of_mem _ List.mem_cons_self
  have K0 : Kl l s l (va_up (va_up s q 0) m 0) [q, m] := ⟨fun x hx => by
    have e1 : x ≠ m := fun e => hx (e ▸ mq)
    have e2 : x ≠ q := fun e => hx (e ▸ qq)
    rw [va_up_ne _ _ e1, va_up_ne _ _ e2], fun _ _ => rfl⟩
  have z0 : ∀ (r : Nat) (s : Nat → Int32), s r = 0 → Rg l s r 0 0 := fun r s h => ⟨h, by decide, Bp_pos 0, Or.inl rfl, fun j hj => absurd hj (by omega)⟩
  obtain ⟨w, w1, w2, w3, -⟩ := m_bitsR (I := I) (J := J) (v := v) hR hr (A.kl K0 n2)
  obtain ⟨l', s', kq, km, z1, z2, z3, z4⟩ := m_div_loop (I := I) (J := J) (v := v) hR hq hm hr ht n1 n2 n3 A D hd hd2 w xF l (va_up (va_up s q 0) m 0) 0 0 w2 (by unfold xF; omega) K0 (by
    rw [Nat.div_eq_of_lt w3, Nat.zero_div]
    exact z0 q _ (by rw [va_up_ne _ _ n1, va_up_self])) (by
    rw [Nat.div_eq_of_lt w3, Nat.zero_mod]
    exact z0 m _ (va_up_self _ _ _))
  refine ⟨l', s', kq, km, ?_, z2, z3, z4⟩
  unfold f_X12_divide xlet
  exact xb_eq (m_g2 (by decide) hR) (xb_eq (m_ws (by decide) hq) (xb_eq (m_g2 (by decide) hR) (xb_eq (m_ws (by decide) hm) (xb_iq ok_4561 (xb_eq w1 (xb_eq z1 rfl))))))
end GD
