/-! the reference's wide sums -/
def RT : List Nat := [8, 9, 12, 13, 14, 15]
theorem RT_8 : 8 ∈ RT := by decide
theorem RT_9 : 9 ∈ RT := by decide
theorem RT_12 : 12 ∈ RT := by decide
theorem RT_13 : 13 ∈ RT := by decide
theorem RT_14 : 14 ∈ RT := by decide
theorem RT_a : ∀ x ∈ [12, 13], x ∈ RT := by decide
theorem RT_b : ∀ x ∈ [14, 15], x ∈ RT := by decide
section WGJ
variable {I : Nat → Nat → Int32} {J : Nat → Nat → Int64} {R : Nat → Nat → Option Nat} {l s v : Nat → Int32}
theorem m_lowestW {k0 k1 n d : Nat} (hR : RA R) (A : Rg l s 8 k0 n) (D : Rg l s 9 k1 d) (hd : 0 < d) (hd2 : 2 * d < Bp 440) : ∃ l' s' k0' k1', f_X12_lowest (bM I l s v J R) 4561 8 9 = some (bM I l' s' v J R) ∧ Rg l' s' 8 k0' (n / Nat.gcd n d) ∧ Rg l' s' 9 k1' (d / Nat.gcd n d) ∧ Kl l s l' s' RT := by
  have hk0 := A.2.1
  by_cases hn : n = 0
  · subst hn
    obtain ⟨l', s', k, h1, h2, -, h4⟩ := m_putR (I := I) (J := J) (l := l) (s := s) (v := v) (r := 9) (x := 1) hR (by decide) (by decide)
    refine ⟨l', s', k0, k, ?_, ?_, ?_, h4.kl RT_9⟩
    · have e := A.1
      rw [(Rg_zero A).mpr rfl] at e
      unfold f_X12_lowest
      refine xb_eq (m_g2 (by decide) hR) (xg_eq _ (m_as (k := 8) (by decide) (by decide)) e ?_)
      rw [if_pos (show Int32.ofNat 0 = 0 from rfl)]
      exact xb_iq ok_4561 (xb_eq h1 rfl)
    · rw [Nat.zero_div]
      exact A.keep h4 (by decide)
    · rw [Nat.gcd_zero_left, Nat.div_self hd]
      exact h2
  · have hk : k0 ≠ 0 := fun z => hn ((Rg_zero A).mp z)
    obtain ⟨l1, s1, a1, a2, a3⟩ := m_copyR (I := I) (J := J) (v := v) (r := 12) (t := 8) hR (by decide) (by decide) (by decide) A
    have D1 := D.keep a3 (by decide)
    obtain ⟨l2, s2, b1, b2, b3⟩ := m_copyR (I := I) (J := J) (v := v) (r := 13) (t := 9) hR (by decide) (by decide) (by decide) D1
    obtain ⟨l3, s3, kg, c1, c2, c3⟩ := m_common (I := I) (J := J) (v := v) (r := 12) (t := 13) hR (by decide) (by decide) (by decide) (a2.keep b3 (by decide)) b2 hd
    have A3 := ((A.keep a3 (by decide)).keep b3 (by decide)).kl c3 (by decide)
    have D3 := (D1.keep b3 (by decide)).kl c3 (by decide)
    have K3 : Kl l s l3 s3 RT := ((a3.kl RT_12).trans (b3.kl RT_13)).trans (c3.mono RT_a)
    have hg : 0 < Nat.gcd n d := Nat.gcd_pos_of_pos_right n hd
    have hgd : Nat.gcd n d ≤ d := Nat.le_of_dvd hd (Nat.gcd_dvd_right n d)
    have hkg : kg ≠ 0 := fun z => by
      have := (Rg_zero c2).mp z
      omega
    have hkg2 := c2.2.1
    have st : ∀ X, (if (1 : Int32) < Int32.ofNat kg then f_X12_lowest_j61 (bM I l3 s3 v J R) 4561 8 9 else (gR (bM I l3 s3 v J R) 4561 12 1).bind (fun x13 => (aI (bM I l3 s3 v J R) x13 14 (5280 : Int32)).bind (fun x14 => (if x14 ≤ (1 : Int32) then f_X12_lowest_j105 (bM I l3 s3 v J R) else f_X12_lowest_j61 (bM I l3 s3 v J R) 4561 8 9)))) = X → f_X12_lowest (bM I l s v J R) 4561 8 9 = X := fun X hX => by
      unfold f_X12_lowest
      refine xb_eq (m_g2 (by decide) hR) (xg_eq _ (m_as (k := 8) (by decide) (by decide)) A.1 ?_)
      rw [if_neg (show ¬ (Int32.ofNat k0 = 0) from i32_neq (m := 0) (by omega) (by omega) hk)]
      exact xb_iq ok_4561 (xb_eq a1 (xb_iq ok_4561 (xb_eq b1 (xb_iq ok_4561 (xb_eq c1 (xb_eq (m_g2 (by decide) hR) (xg_eq _ (m_as (k := 12) (by decide) (by decide)) c2.1 hX)))))))
    have j61 : ∃ l' s' k0' k1', f_X12_lowest_j61 (bM I l3 s3 v J R) 4561 8 9 = some (bM I l' s' v J R) ∧ Rg l' s' 8 k0' (n / Nat.gcd n d) ∧ Rg l' s' 9 k1' (d / Nat.gcd n d) ∧ Kl l s l' s' RT := by
      obtain ⟨l4, s4, d1, d2, d3⟩ := m_copyR (I := I) (J := J) (v := v) (r := 13) (t := 12) hR (by decide) (by decide) (by decide) c2
      obtain ⟨l5, s5, kq, km, e1, e2, e3, e4⟩ := m_divide (I := I) (J := J) (v := v) (q := 14) (m := 15) (r := 8) (t := 13) hR (by decide) (by decide) (by decide) (by decide) (by decide) (by decide) (by decide) (A3.keep d3 (by decide)) d2 hg (by omega)
      obtain ⟨l6, s6, f1, f2, f3⟩ := m_copyR (I := I) (J := J) (v := v) (r := 8) (t := 14) hR (by decide) (by decide) (by decide) e2
      obtain ⟨l7, s7, kq', km', g1, g2, g3, g4⟩ := m_divide (I := I) (J := J) (v := v) (q := 14) (m := 15) (r := 9) (t := 13) hR (by decide) (by decide) (by decide) (by decide) (by decide) (by decide) (by decide) (((D3.keep d3 (by decide)).kl e4 (by decide)).keep f3 (by decide)) ((d2.kl e4 (by decide)).keep f3 (by decide)) hg (by omega)
      obtain ⟨l8, s8, h1, h2, h3⟩ := m_copyR (I := I) (J := J) (v := v) (r := 9) (t := 14) hR (by decide) (by decide) (by decide) g2
      refine ⟨l8, s8, kq, kq', ?_, (f2.kl g4 (by decide)).keep h3 (by decide), h2, (((((K3.trans (d3.kl RT_13)).trans (e4.mono RT_b)).trans (f3.kl RT_8)).trans (g4.mono RT_b)).trans (h3.kl RT_9))⟩
      unfold f_X12_lowest_j61
      exact xb_iq ok_4561 (xb_eq d1 (xb_iq ok_4561 (xb_eq e1 (xb_iq ok_4561 (xb_eq f1 (xb_iq ok_4561 (xb_eq g1 (xb_iq ok_4561 (xb_eq h1 rfl)))))))))
    by_cases q : 1 < kg
    · obtain ⟨l', s', k0', k1', z1, z2⟩ := j61
      refine ⟨l', s', k0', k1', st _ ?_, z2⟩
      rw [if_pos (show (1 : Int32) < Int32.ofNat kg from (i32_lt (k := 1) (by omega) (by omega)).mpr q)]
      exact z1
    · have e1 : kg = 1 := by omega
      have hg1 : Nat.gcd n d < 65536 := by
        have := c2.2.2.1
        rw [e1] at this
        exact this
      have lim : l3 5280 = Int32.ofNat (Nat.gcd n d) := by
        have := c2.2.2.2.2 0 (by omega)
        unfold dg at this
        rw [show Bp 0 = 1 from rfl, Nat.div_one, Nat.mod_eq_of_lt hg1] at this
        exact this
      by_cases w : Nat.gcd n d ≤ 1
      · have e2 : Nat.gcd n d = 1 := by omega
        refine ⟨l3, s3, k0, k1, st _ ?_, by rw [e2, Nat.div_one]; exact A3, by rw [e2, Nat.div_one]; exact D3, K3⟩
        rw [if_neg (show ¬ ((1 : Int32) < Int32.ofNat kg) from fun z => q ((i32_lt (k := 1) (by omega) (by omega)).mp z))]
        refine xb_eq (m_g1 (by decide) hR) (xg_eq _ (m_al (k := 5280) (by decide) (by decide)) lim ?_)
        rw [if_pos (show Int32.ofNat (Nat.gcd n d) ≤ 1 from (i32_le (m := 1) (by omega) (by omega)).mpr w)]
        rfl
      · obtain ⟨l', s', k0', k1', z1, z2⟩ := j61
        refine ⟨l', s', k0', k1', st _ ?_, z2⟩
        rw [if_neg (show ¬ ((1 : Int32) < Int32.ofNat kg) from fun z => q ((i32_lt (k := 1) (by omega) (by omega)).mp z))]
        refine xb_eq (m_g1 (by decide) hR) (xg_eq _ (m_al (k := 5280) (by decide) (by decide)) lim ?_)
        rw [if_neg (show ¬ (Int32.ofNat (Nat.gcd n d) ≤ 1) from i32_nle (m := 1) (by omega) (by omega) (by omega))]
        exact z1
theorem Rg_le {r k n K : Nat} (A : Rg l s r k n) (h : n < Bp K) : k ≤ K := by
  rcases A.2.2.2.1 with q | q
  · omega
  · have : Bp (k - 1) < Bp K := Nat.lt_of_le_of_lt q h
    have := Bp_lt this
    omega
theorem Bp_mul {a b i k : Nat} (h : a < Bp i) (h' : b < Bp k) : a * b < Bp (i + k) := by
  rw [Bp_add]
  exact Nat.mul_lt_mul'' h h'
/-- a sum becomes greater by a product -/
theorem m_addProd {a b da db d k8 k9 K : Nat} {za zb z e : Int} (hR : RA R) (ha : a < 3700) (hb : b < 3700) (A : Vv v a za da) (B : Vv v b zb db) (he : e = 1 ∨ e = -1) (h8 : Rg l s 8 k8 z.natAbs) (h9 : Rg l s 9 k9 d) (hd : 0 < d) (hz : z.natAbs < Bp K) (hdK : d < Bp K) (hK : K + 28 ≤ 440) (h69 : I 4561 69 = Int32.ofInt z.sign) : ∃ l' s' k8' k9', f_X12_addProduct (bM I l s v J R) 4561 (Int32.ofNat a) (Int32.ofNat b) (Int32.ofInt e) = some (bM (up I 4561 69 (Int32.ofInt (z * (da * db : Nat) + e * za * zb * d).sign)) l' s' v J R) ∧ Rg l' s' 8 k8' (rz (z * (da * db : Nat) + e * za * zb * d) (d * (da * db))).natAbs ∧ Rg l' s' 9 k9' (rd (z * (da * db : Nat) + e * za * zb * d) (d * (da * db))) := by
  have da0 := A.2.2.2.2.1
  have db0 := B.2.2.2.2.1
  obtain ⟨l1, s1, k2, a1, a2, a3, a4⟩ := m_loadN (I := I) (J := J) (l := l) (s := s) (v := v) (r := 2) hR (by decide) ha A
  obtain ⟨l2, s2, k3, b1, b2, b3, b4⟩ := m_loadN (I := I) (J := J) (l := l1) (s := s1) (v := v) (r := 3) hR (by decide) hb B
  obtain ⟨l3, s3, k4, c1, c2, c3, c4⟩ := m_times (I := I) (J := J) (v := v) (t := 4) (r := 2) (w := 3) hR (by decide) (by decide) (by decide) (by decide) (by decide) (a2.keep b4 (by decide)) b2 (by omega)
  obtain ⟨l4, s4, k2', d1, d2, d3, d4⟩ := m_loadD (I := I) (J := J) (l := l3) (s := s3) (v := v) (r := 2) hR (by decide) ha A
  obtain ⟨l5, s5, k3', e1, e2, e3, e4⟩ := m_loadD (I := I) (J := J) (l := l4) (s := s4) (v := v) (r := 3) hR (by decide) hb B
  obtain ⟨l6, s6, k5, f1, f2, f3, f4⟩ := m_times (I := I) (J := J) (v := v) (t := 5) (r := 2) (w := 3) hR (by decide) (by decide) (by decide) (by decide) (by decide) (d2.keep e4 (by decide)) e2 (by omega)
  have h8' : Rg l6 s6 8 k8 z.natAbs := ((((((h8.keep a4 (by decide)).keep b4 (by decide)).keep c4 (by decide)).keep d4 (by decide)).keep e4 (by decide)).keep f4 (by decide))
  have h9' : Rg l6 s6 9 k9 d := ((((((h9.keep a4 (by decide)).keep b4 (by decide)).keep c4 (by decide)).keep d4 (by decide)).keep e4 (by decide)).keep f4 (by decide))
  have c2' : Rg l6 s6 4 k4 (za.natAbs * zb.natAbs) := ((c2.keep d4 (by decide)).keep e4 (by decide)).keep f4 (by decide)
  have g8 := Rg_le h8' hz
  have g9 := Rg_le h9' hdK
  obtain ⟨l7, s7, k6, g1, g2, g3, g4⟩ := m_times (I := I) (J := J) (v := v) (t := 6) (r := 8) (w := 5) hR (by decide) (by decide) (by decide) (by decide) (by decide) h8' f2 (by omega)
  obtain ⟨l8, s8, k7, i1, i2, i3, i4⟩ := m_times (I := I) (J := J) (v := v) (t := 7) (r := 4) (w := 9) hR (by decide) (by decide) (by decide) (by decide) (by decide) (c2'.keep g4 (by decide)) (h9'.keep g4 (by decide)) (by omega)
  obtain ⟨l9, s9, k10, j1, j2, j3, j4⟩ := m_times (I := I) (J := J) (v := v) (t := 10) (r := 9) (w := 5) hR (by decide) (by decide) (by decide) (by decide) (by decide) ((h9'.keep g4 (by decide)).keep i4 (by decide)) ((f2.keep g4 (by decide)).keep i4 (by decide)) (by omega)
  obtain ⟨l10, s10, m1, m2, m3⟩ := m_copyR (I := I) (J := J) (v := v) (r := 9) (t := 10) hR (by decide) (by decide) (by decide) j2
  have p4 : za.natAbs * zb.natAbs < Bp 26 := Bp_mul (p200 A.2.2.2.1) (p200 B.2.2.2.1)
  have p5 : da * db < Bp 26 := Bp_mul (p200 A.2.2.2.2.2.1) (p200 B.2.2.2.2.2.1)
  have p6 : z.natAbs * (da * db) < Bp (K + 26) := Bp_mul hz p5
  have p7 : za.natAbs * zb.natAbs * d < Bp (26 + K) := Bp_mul p4 hdK
  have p9 : d * (da * db) < Bp (K + 26) := Bp_mul hdK p5
  have p27 : 2 * Bp (K + 26) ≤ Bp (K + 27) := by
    have := Bp_s (K + 26)
    have e : Bp (K + 27) = Bp (K + 26) * 65536 := this
    have := Bp_pos (K + 26)
    omega
  have pK : Bp (K + 27) ≤ Bp 440 := Bp_le (by omega)
  rw [show 26 + K = K + 26 by omega] at p7
  have n6 : (z * (da * db : Nat)).natAbs = z.natAbs * (da * db) := by rw [Int.natAbs_mul, Int.natAbs_natCast]
  have n7 : (e * za * zb * d).natAbs = za.natAbs * zb.natAbs * d := by
    rw [Int.natAbs_mul, Int.natAbs_natCast, Int.natAbs_mul, Int.natAbs_mul]
    rcases he with h | h <;> rw [h] <;> simp
  have R6' : Rg l10 s10 6 k6 (z * (da * db : Nat)).natAbs := by
    rw [n6]
    exact ((g2.keep i4 (by decide)).keep j4 (by decide)).keep m3 (by decide)
  have R7' : Rg l10 s10 7 k7 (e * za * zb * d).natAbs := by
    rw [n7]
    exact (i2.keep j4 (by decide)).keep m3 (by decide)
  have dd0 : (0 : Int) < (da * db : Nat) := by
    have := Nat.mul_pos da0 db0
    omega
  have sx : Int32.ofInt z.sign = Int32.ofInt (z * (da * db : Nat)).sign := by
    rw [Int.sign_mul, Int.sign_eq_one_of_pos dd0, Int.mul_one]
  have sy : Int32.ofInt e * Int32.ofInt za.sign * Int32.ofInt zb.sign = Int32.ofInt (e * za * zb * d).sign := by
    rw [Int.sign_mul (e * za * zb), Int.sign_eq_one_of_pos (show (0 : Int) < d by omega), Int.mul_one, ← sg_mul, ← sg_mul]
    rcases he with h | h <;> rw [h] <;> rfl
  obtain ⟨l11, s11, k11, q1, q2, q3⟩ := m_signed (I := I) (J := J) (v := v) hR R6' R7' (by rw [n6, n7]; omega)
  have m2' : Rg l11 s11 9 k10 (d * (da * db)) := m2.kl q3 (by decide)
  obtain ⟨l12, s12, r1, r2, r3⟩ := m_copyR (I := up I 4561 69 (Int32.ofInt (z * (da * db : Nat) + e * za * zb * d).sign)) (J := J) (v := v) (r := 8) (t := 6) hR (by decide) (by decide) (by decide) q2
  obtain ⟨l13, s13, k0', k1', t1, t2, t3, t4⟩ := m_lowestW (I := up I 4561 69 (Int32.ofInt (z * (da * db : Nat) + e * za * zb * d).sign)) (J := J) (v := v) hR r2 (m2'.keep r3 (by decide)) (Nat.mul_pos hd (Nat.mul_pos da0 db0)) (by omega)
  refine ⟨l13, s13, k0', k1', ?_, by rw [rz_abs]; exact t2, t3⟩
  have u69 : ∀ (l s : Nat → Int32) (x : Int32), up (u3 I l s v) 4561 69 x = u3 (up I 4561 69 x) l s v := fun l s x => by
    funext y k
    unfold u3 up va_up
    by_cases y1 : y = 4564
    · subst y1
      simp
    · by_cases y2 : y = 4563
      · subst y2
        simp
      · by_cases y3 : y = 4562
        · subst y3
          simp
        · simp [y1, y2, y3]
  have h69' : u3 I l10 s10 v 4561 69 = Int32.ofInt z.sign := h69
  unfold f_X12_addProduct
  refine xb_iq ok_4561 (xb_eq a1 (xb_iq ok_4561 (xb_eq b1 (xb_iq ok_4561 (xb_eq c1 (xb_iq ok_4561 (xb_eq d1 (xb_iq ok_4561 (xb_eq e1 (xb_iq ok_4561 (xb_eq f1 (xb_iq ok_4561 (xb_eq g1 (xb_iq ok_4561 (xb_eq i1 (xb_iq ok_4561 (xb_eq j1 (xb_iq ok_4561 (xb_eq m1 ?_)))))))))))))))))))
  unfold bM at q1 r1 t1 ⊢
  rw [gi_4561, h69']
  refine xb_iq ok_4561 (xb_eq (m_signV hR ha A) (xb_iq ok_4561 (xb_eq (m_signV hR hb B) (xb_iq ok_4561 ?_))))
  rw [sy, sx]
  refine xb_eq q1 ?_
  rw [gs_4561, u69]
  exact xb_iq ok_4561 (xb_eq r1 (xb_iq ok_4561 (xb_eq t1 rfl)))
end WGJ
/-- a sum that is being made -/
def R4 (I I' : Nat → Nat → Int32) : Prop := ∀ x k, x ≠ 4562 → x ≠ 4563 → x ≠ 4564 → ¬ (x = 4561 ∧ k = 69) → I' x k = I x k
theorem R4_rfl {I : Nat → Nat → Int32} : R4 I I := fun _ _ _ _ _ _ => rfl
theorem R4_tr {I I' I'' : Nat → Nat → Int32} (h : R4 I I') (h' : R4 I' I'') : R4 I I'' := fun x k a b c d => (h' x k a b c d).trans (h x k a b c d)
theorem R3_R4 {I I' : Nat → Nat → Int32} (h : R3 I I') : R4 I I' := fun x k a b c _ => by rw [h.1 x (by omega)]
def Wide (I : Nat → Nat → Int32) (z : Int) (d K : Nat) : Prop := (∃ k, Rg (I 4562) (I 4563) 8 k z.natAbs) ∧ (∃ k, Rg (I 4562) (I 4563) 9 k d) ∧ I 4561 69 = Int32.ofInt z.sign ∧ 0 < d ∧ z.natAbs < Bp K ∧ d < Bp K
section WGM
variable {I : Nat → Nat → Int32} {J : Nat → Nat → Int64} {R : Nat → Nat → Option Nat}
theorem R4_u3 {l s v : Nat → Int32} {y : Int32} : R4 I (u3 (up I 4561 69 y) l s v) := fun x k a b c d => by
  unfold u3
  rw [va_up_ne _ _ c, va_up_ne _ _ b, va_up_ne _ _ a, up_n (by omega)]
theorem M_clearWide (hR : RA R) : QK (f_X12_clearWide (mg 4625 I J R) 4561) (fun r => ∃ I', r = mg 4625 I' J R ∧ R4 I I' ∧ I' 4564 = I 4564 ∧ Wide I' 0 1 1) := by
  unfold f_X12_clearWide
  rw [gs_4561, if_pos ok_4561]
  obtain ⟨l1, s1, k1, a1, a2, a3, a4⟩ := m_putR (I := up I 4561 69 0) (J := J) (l := I 4562) (s := I 4563) (v := I 4564) (r := 8) (x := 0) hR (by decide) (by decide)
  obtain ⟨l2, s2, k2, b1, b2, b3, b4⟩ := m_putR (I := up I 4561 69 0) (J := J) (l := l1) (s := s1) (v := I 4564) (r := 9) (x := 1) hR (by decide) (by decide)
  have e0 : mg 4625 (up I 4561 69 0) J R = bM (up I 4561 69 0) (I 4562) (I 4563) (I 4564) J R := by
    rw [bM_id (I := up I 4561 69 0)]
    rfl
  rw [e0]
  refine ⟨_, xb_eq a1 (xb_iq ok_4561 (xb_eq b1 rfl)), u3 (up I 4561 69 0) l2 s2 (I 4564), rfl, R4_u3, u3_4564, ?_⟩
  refine ⟨⟨k1, ?_⟩, ⟨k2, ?_⟩, ?_, by decide, ?_, ?_⟩
  · rw [u3_4562, u3_4563]
    exact a2.keep b4 (by decide)
  · rw [u3_4562, u3_4563]
    exact b2
  · show u3 (up I 4561 69 0) l2 s2 (I 4564) 4561 69 = _
    unfold u3
    rw [va_up_ne _ _ (by decide), va_up_ne _ _ (by decide), va_up_ne _ _ (by decide), up_s]
    rfl
  · exact Bp_pos 1
  · rw [show Bp 1 = 65536 from rfl]
    decide
theorem M_addProduct {a b da db d K : Nat} {za zb z e : Int} (hR : RA R) (ha : a < 3700) (hb : b < 3700) (A : Vv (I 4564) a za da) (B : Vv (I 4564) b zb db) (he : e = 1 ∨ e = -1) (hW : Wide I z d K) (hK : K + 28 ≤ 440) : QK (f_X12_addProduct (mg 4625 I J R) 4561 (Int32.ofNat (a)) (Int32.ofNat (b)) (Int32.ofInt e)) (fun r => ∃ I', r = mg 4625 I' J R ∧ R4 I I' ∧ I' 4564 = I 4564 ∧ Wide I' (rz (z * (da * db : Nat) + e * za * zb * d) (d * (da * db))) (rd (z * (da * db : Nat) + e * za * zb * d) (d * (da * db))) (K + 27)) := by
  obtain ⟨⟨k8, h8⟩, ⟨k9, h9⟩, h69, hd, hz, hdK⟩ := hW
  have da0 := A.2.2.2.2.1
  have db0 := B.2.2.2.2.1
  obtain ⟨l', s', k8', k9', g1, g2, g3⟩ := m_addProd (J := J) hR ha hb A B he h8 h9 hd hz hdK hK h69
  rw [bM_id]
  have D0 : 0 < d * (da * db) := Nat.mul_pos hd (Nat.mul_pos da0 db0)
  have p5 : da * db < Bp 26 := Bp_mul (p200 A.2.2.2.2.2.1) (p200 B.2.2.2.2.2.1)
  have p4 : za.natAbs * zb.natAbs < Bp 26 := Bp_mul (p200 A.2.2.2.1) (p200 B.2.2.2.1)
  have p6 : z.natAbs * (da * db) < Bp (K + 26) := Bp_mul hz p5
  have p7 : za.natAbs * zb.natAbs * d < Bp (26 + K) := Bp_mul p4 hdK
  have p9 : d * (da * db) < Bp (K + 26) := Bp_mul hdK p5
  have p27 : 2 * Bp (K + 26) ≤ Bp (K + 27) := by
    have e : Bp (K + 27) = Bp (K + 26) * 65536 := Bp_s (K + 26)
    have := Bp_pos (K + 26)
    omega
  rw [show 26 + K = K + 26 by omega] at p7
  have n6 : (z * (da * db : Nat)).natAbs = z.natAbs * (da * db) := by rw [Int.natAbs_mul, Int.natAbs_natCast]
  have n7 : (e * za * zb * d).natAbs = za.natAbs * zb.natAbs * d := by
    rw [Int.natAbs_mul, Int.natAbs_natCast, Int.natAbs_mul, Int.natAbs_mul]
    rcases he with h | h <;> rw [h] <;> simp
  refine ⟨_, g1, _, rfl, R4_u3, u3_4564, ⟨k8', ?_⟩, ⟨k9', ?_⟩, ?_, rd_pos D0, ?_, ?_⟩
  · rw [u3_4562, u3_4563]
    exact g2
  · rw [u3_4562, u3_4563]
    exact g3
  · unfold u3
    rw [va_up_ne _ _ (by decide), va_up_ne _ _ (by decide), va_up_ne _ _ (by decide), up_s, rz_sign D0]
  · rw [rz_abs]
    refine Nat.lt_of_le_of_lt (Nat.div_le_self _ _) ?_
    generalize z * (da * db : Nat) = X at *
    generalize e * za * zb * d = Y at *
    omega
  · refine Nat.lt_of_le_of_lt (Nat.div_le_self _ _) ?_
    omega
theorem M_storeWide {i d K : Nat} {z : Int} (hR : RA R) (hi : i < 3700) (hW : Wide I z d K) (hK : K < 440) : QK (f_X12_storeWide (mg 4625 I J R) 4561 (Int32.ofNat (i))) (fun r => ∃ I' y, r = (y, mg 4625 I' J R) ∧ R4 I I' ∧ Sto (I 4564) (I' 4564) i z d y) := by
  obtain ⟨⟨k8, h8⟩, ⟨k9, h9⟩, h69, hd, hz, hdK⟩ := hW
  obtain ⟨l1, s1, a1, a2, a3⟩ := m_copyR (I := I) (J := J) (v := I 4564) (r := 0) (t := 8) hR (by decide) (by decide) (by decide) h8
  obtain ⟨l2, s2, b1, b2, b3⟩ := m_copyR (I := I) (J := J) (v := I 4564) (r := 1) (t := 9) hR (by decide) (by decide) (by decide) (h9.keep a3 (by decide))
  have p440 : 2 * d < Bp 440 := by
    have e : Bp (K + 1) = Bp K * 65536 := Bp_s K
    have : Bp (K + 1) ≤ Bp 440 := Bp_le (by omega)
    omega
  obtain ⟨l3, s3, v3, y, c1, c2, c3, c4⟩ := m_storeV (I := I) (J := J) (i := i) (sg := Int32.ofInt z.sign) hR hi (a2.keep b3 (by decide)) b2 hd p440 (Or.inr rfl)
  unfold f_X12_storeWide
  rw [bM_id]
  have h69' : u3 I l2 s2 (I 4564) 4561 69 = Int32.ofInt z.sign := h69
  refine ⟨(y, bM I l3 s3 v3 J R), xb_iq ok_4561 (xb_eq a1 (xb_iq ok_4561 (xb_eq b1 ?_))), u3 I l3 s3 v3, y, rfl, fun x k q1 q2 q3 q4 => ?_, by rw [u3_4564]; exact c3⟩
  · unfold bM at c1 ⊢
    rw [gi_4561, h69']
    exact xb_iq ok_4561 (xb_eq c1 (xb_eq (xz_b c4) rfl))
  · unfold u3
    rw [va_up_ne _ _ q3, va_up_ne _ _ q2, va_up_ne _ _ q1]
end WGM
