/-! the reference's values: sums, products, quotients -/
theorem sg_pos {z : Int} (h : 0 < z) : Int32.ofInt z.sign = 1 := by
  rw [Int.sign_eq_one_of_pos h]
  rfl
theorem sg_neg {z : Int} (h : z < 0) : Int32.ofInt z.sign = -1 := by
  rw [Int.sign_eq_neg_one_of_neg h]
  rfl
theorem sg_zero : Int32.ofInt (0 : Int).sign = 0 := rfl
theorem sg_eq0 {z : Int} : Int32.ofInt z.sign = 0 ↔ z = 0 := by
  constructor
  · intro h
    rcases Int.lt_trichotomy z 0 with q | q | q
    · rw [sg_neg q] at h
      exact absurd h (by decide)
    · exact q
    · rw [sg_pos q] at h
      exact absurd h (by decide)
  · intro h
    rw [h]
    rfl
theorem sg_mul (x y : Int) : Int32.ofInt x.sign * Int32.ofInt y.sign = Int32.ofInt (x * y).sign := by
  rw [Int.sign_mul]
  rcases Int.lt_trichotomy x 0 with q | q | q <;> rcases Int.lt_trichotomy y 0 with w | w | w <;> simp only [Int.sign_eq_neg_one_of_neg, Int.sign_eq_one_of_pos, q, w, Int.sign_zero] <;> rfl
def Fits (z : Int) (D : Nat) : Prop := z.natAbs / Nat.gcd z.natAbs D < 2 ^ 200 ∧ D / Nat.gcd z.natAbs D < 2 ^ 200
def rz (z : Int) (D : Nat) : Int := z.sign * (z.natAbs / Nat.gcd z.natAbs D : Nat)
def rd (z : Int) (D : Nat) : Nat := D / Nat.gcd z.natAbs D
def Sto (v v' : Nat → Int32) (i : Nat) (z : Int) (D : Nat) (b : Int32) : Prop := (Fits z D ∧ b = 1 ∧ Vv v' i (rz z D) (rd z D) ∧ Kv v v' i) ∨ (¬ Fits z D ∧ b = 0 ∧ v' = v)
theorem rz_abs (z : Int) (D : Nat) : (rz z D).natAbs = z.natAbs / Nat.gcd z.natAbs D := by
  unfold rz
  rw [Int.natAbs_mul, Int.natAbs_natCast]
  rcases Int.lt_trichotomy z 0 with q | q | q
  · rw [Int.sign_eq_neg_one_of_neg q]
    exact Nat.one_mul _
  · rw [q]
    simp
  · rw [Int.sign_eq_one_of_pos q]
    exact Nat.one_mul _
theorem rz_sign {z : Int} {D : Nat} (hD : 0 < D) : (rz z D).sign = z.sign := by
  rcases Int.lt_trichotomy z 0 with q | q | q
  · have hp : 0 < z.natAbs := by omega
    have h1 : 0 < z.natAbs / Nat.gcd z.natAbs D := Nat.div_pos (Nat.le_of_dvd hp (Nat.gcd_dvd_left _ _)) (Nat.gcd_pos_of_pos_right _ hD)
    unfold rz
    rw [Int.sign_eq_neg_one_of_neg q]
    generalize z.natAbs / Nat.gcd z.natAbs D = n at h1
    exact Int.sign_eq_neg_one_of_neg (by omega)
  · rw [q]
    unfold rz
    simp
  · have hp : 0 < z.natAbs := by omega
    have h1 : 0 < z.natAbs / Nat.gcd z.natAbs D := Nat.div_pos (Nat.le_of_dvd hp (Nat.gcd_dvd_left _ _)) (Nat.gcd_pos_of_pos_right _ hD)
    unfold rz
    rw [Int.sign_eq_one_of_pos q]
    generalize z.natAbs / Nat.gcd z.natAbs D = n at h1
    exact Int.sign_eq_one_of_pos (by omega)
theorem rd_pos {z : Int} {D : Nat} (hD : 0 < D) : 0 < rd z D := Nat.div_pos (Nat.le_of_dvd hD (Nat.gcd_dvd_right _ _)) (Nat.gcd_pos_of_pos_right _ hD)
theorem rz_cop {z : Int} {D : Nat} (hD : 0 < D) : Nat.gcd (rz z D).natAbs (rd z D) = 1 := by
  rw [rz_abs]
  exact Nat.gcd_div_gcd_div_gcd_of_pos_right hD
def AR : List Nat := [0, 1, 2, 3, 4, 5, 6, 7, 11, 12, 13, 14, 15]
theorem AR_S : ∀ x ∈ RS, x ∈ AR := by decide
section GK
variable {I : Nat → Nat → Int32} {J : Nat → Nat → Int64} {R : Nat → Nat → Option Nat} {l s v : Nat → Int32}
theorem m_storeV {i k0 k1 D : Nat} {z : Int} {sg : Int32} (hR : RA R) (hi : i < 3700) (A : Rg l s 0 k0 z.natAbs) (B : Rg l s 1 k1 D) (hd : 0 < D) (hd2 : 2 * D < Bp 440) (hs : z = 0 ∨ sg = Int32.ofInt z.sign) : ∃ l' s' v' b, f_X12_store (bM I l s v J R) 4561 (Int32.ofNat i) sg = some (b, bM I l' s' v' J R) ∧ Kl l s l' s' RS ∧ Sto v v' i z D b ∧ (b = 0 ∨ b = 1) := by
  obtain ⟨l', s', v', b, h1, h2, h3⟩ := m_store (I := I) (J := J) (v := v) (i := i) (sg := sg) hR hi A B hd hd2
  refine ⟨l', s', v', b, h1, h2, ?_, ?_⟩
  · rcases h3 with ⟨g1, g2, g3, g4, g5, g6, g7⟩ | h3
    · refine Or.inl ⟨⟨g1, g2⟩, g3, ⟨?_, ?_, g6, ?_, rd_pos hd, g2, rz_cop hd⟩, g7⟩
      · rw [g4, rz_sign hd]
        by_cases q : z.natAbs = 0
        · rw [if_pos q, show z = 0 by omega]
          rfl
        · rw [if_neg q]
          exact hs.resolve_left (by omega)
      · rw [rz_abs]
        exact g5
      · rw [rz_abs]
        exact g1
    · exact Or.inr h3
  · rcases h3 with ⟨-, -, g, -⟩ | ⟨-, g, -⟩
    · exact Or.inr g
    · exact Or.inl g
theorem m_load4 {a b da db : Nat} {za zb : Int} (hR : RA R) (ha : a < 3700) (hb : b < 3700) (A : Vv v a za da) (B : Vv v b zb db) : ∃ l1 s1 l2 s2 l3 s3 l' s' k2 k3 k4 k5, f_X12_loadNumerator (bM I l s v J R) 4561 2 (Int32.ofNat a) = some (bM I l1 s1 v J R) ∧ f_X12_loadDenominator (bM I l1 s1 v J R) 4561 3 (Int32.ofNat a) = some (bM I l2 s2 v J R) ∧ f_X12_loadNumerator (bM I l2 s2 v J R) 4561 4 (Int32.ofNat b) = some (bM I l3 s3 v J R) ∧ f_X12_loadDenominator (bM I l3 s3 v J R) 4561 5 (Int32.ofNat b) = some (bM I l' s' v J R) ∧ (Rg l' s' 2 k2 za.natAbs ∧ k2 ≤ 13) ∧ (Rg l' s' 3 k3 da ∧ k3 ≤ 13) ∧ (Rg l' s' 4 k4 zb.natAbs ∧ k4 ≤ 13) ∧ (Rg l' s' 5 k5 db ∧ k5 ≤ 13) ∧ Kl l s l' s' AR := by
  obtain ⟨l1, s1, k2, a1, a2, a3, a4⟩ := m_loadN (I := I) (J := J) (l := l) (s := s) (v := v) (r := 2) hR (by decide) ha A
  obtain ⟨l2, s2, k3, b1, b2, b3, b4⟩ := m_loadD (I := I) (J := J) (l := l1) (s := s1) (v := v) (r := 3) hR (by decide) ha A
  obtain ⟨l3, s3, k4, c1, c2, c3, c4⟩ := m_loadN (I := I) (J := J) (l := l2) (s := s2) (v := v) (r := 4) hR (by decide) hb B
  obtain ⟨l4, s4, k5, d1, d2, d3, d4⟩ := m_loadD (I := I) (J := J) (l := l3) (s := s3) (v := v) (r := 5) hR (by decide) hb B
  exact ⟨l1, s1, l2, s2, l3, s3, l4, s4, k2, k3, k4, k5, a1, b1, c1, d1, ⟨((a2.keep b4 (by decide)).keep c4 (by decide)).keep d4 (by decide), a3⟩, ⟨(b2.keep c4 (by decide)).keep d4 (by decide), b3⟩, ⟨c2.keep d4 (by decide), c3⟩, ⟨d2, d3⟩, (((a4.kl (rs := AR) (by decide)).trans (b4.kl (by decide))).trans (c4.kl (by decide))).trans (d4.kl (by decide))⟩
theorem Bp_26 {r n k : Nat} (A : Rg l s r k n) (hk : k ≤ 26) : 2 * n < Bp 440 := by
  have h1 := A.2.2.1
  have h2 : Bp k ≤ Bp 26 := Bp_le hk
  have h3 : Bp 27 ≤ Bp 440 := Bp_le (by decide)
  rw [Bp_s] at h3
  omega
theorem m_signV {i d : Nat} {z : Int} (hR : RA R) (hi : i < 3700) (V : Vv v i z d) : f_X12_sign (bM I l s v J R) 4561 (Int32.ofNat i) = some (Int32.ofInt z.sign) := (m_sign hR (by omega)).trans (congrArg some V.1)
theorem m_signed {x y : Int} {k6 k7 : Nat} (hR : RA R) (A : Rg l s 6 k6 x.natAbs) (B : Rg l s 7 k7 y.natAbs) (hxy : x.natAbs + y.natAbs < Bp 440) : ∃ l' s' k, f_X12_signed (bM I l s v J R) 4561 6 (Int32.ofInt x.sign) 7 (Int32.ofInt y.sign) = some (Int32.ofInt (x + y).sign, bM I l' s' v J R) ∧ Rg l' s' 6 k (x + y).natAbs ∧ Kl l s l' s' [6, 11] := by
  have i6 : 6 ∈ [6, 11] := by decide
  have i11 : 11 ∈ [6, 11] := by decide
  have h6 := A.2.1
  have h7 := B.2.1
  by_cases hy : y = 0
  · subst hy
    refine ⟨l, s, k6, ?_, by rw [Int.add_zero]; exact A, Kl.rfl⟩
    unfold f_X12_signed f_X12_signed_j14
    rw [if_pos (show Int32.ofInt (0 : Int).sign = 0 from rfl), Int.add_zero]
    refine xb_eq (m_g2 (by decide) hR) (xg_eq _ (m_as (k := 6) (by decide) (by decide)) A.1 ?_)
    by_cases hx : k6 = 0
    · have := (Rg_zero A).mp hx
      have ex : x = 0 := by omega
      rw [if_pos (show Int32.ofNat k6 = 0 by rw [hx]; rfl), ex]
      rfl
    · rw [if_neg (show ¬ (Int32.ofNat k6 = 0) from i32_neq (m := 0) (by omega) (by omega) hx)]
      rfl
  · have k7n : k7 ≠ 0 := fun z => hy (by have := (Rg_zero B).mp z; omega)
    by_cases hx : x = 0
    · subst hx
      obtain ⟨l1, s1, g1, g2, g3⟩ := m_copyR (I := I) (J := J) (v := v) (r := 6) (t := 7) hR (by decide) (by decide) (by decide) B
      refine ⟨l1, s1, k7, ?_, by rw [Int.zero_add]; exact g2, g3.kl i6⟩
      unfold f_X12_signed
      rw [if_neg (fun q => hy (sg_eq0.mp q)), Int.zero_add]
      refine xb_eq (m_g2 (by decide) hR) (xg_eq _ (m_as (k := 7) (by decide) (by decide)) B.1 ?_)
      rw [if_neg (show ¬ (Int32.ofNat k7 = 0) from i32_neq (m := 0) (by omega) (by omega) k7n), if_pos (show Int32.ofInt (0 : Int).sign = 0 from rfl)]
      unfold f_X12_signed_j42
      exact xb_iq ok_4561 (xb_eq g1 rfl)
    · have k6n : k6 ≠ 0 := fun z => hx (by have := (Rg_zero A).mp z; omega)
      have go : ∀ X, (if Int32.ofInt x.sign = Int32.ofInt y.sign then (if xk (bM I l s v J R) 4561 12 = true then (f_X12_plus (bM I l s v J R) 4561 6 7).bind (fun p13 => some (Int32.ofInt x.sign, p13)) else none) else (if xk (bM I l s v J R) 4561 12 = true then (f_X12_compare (bM I l s v J R) 4561 6 7).bind (fun p8 => (if p8 < (0 : Int32) then (if xk (bM I l s v J R) 4561 12 = true then (f_X12_copy (bM I l s v J R) 4561 (11 : Int32) 7).bind (fun p9 => (if xk p9 4561 12 = true then (f_X12_minus p9 4561 (11 : Int32) 6).bind (fun p10 => (if xk p10 4561 12 = true then (f_X12_copy p10 4561 6 (11 : Int32)).bind (fun p11 => some (Int32.ofInt y.sign, p11)) else none)) else none)) else none) else (if xk (bM I l s v J R) 4561 12 = true then (f_X12_minus (bM I l s v J R) 4561 6 7).bind (fun p12 => (if p8 = (0 : Int32) then f_X12_signed_j94 p12 (0 : Int32) else f_X12_signed_j94 p12 (Int32.ofInt x.sign))) else none))) else none)) = X → f_X12_signed (bM I l s v J R) 4561 6 (Int32.ofInt x.sign) 7 (Int32.ofInt y.sign) = X := fun X hX => by
        unfold f_X12_signed
        rw [if_neg (fun q => hy (sg_eq0.mp q))]
        refine xb_eq (m_g2 (by decide) hR) (xg_eq _ (m_as (k := 7) (by decide) (by decide)) B.1 ?_)
        rw [if_neg (show ¬ (Int32.ofNat k7 = 0) from i32_neq (m := 0) (by omega) (by omega) k7n), if_neg (fun q => hx (sg_eq0.mp q))]
        refine xb_eq (m_g2 (by decide) hR) (xg_eq _ (m_as (k := 6) (by decide) (by decide)) A.1 ?_)
        rw [if_neg (show ¬ (Int32.ofNat k6 = 0) from i32_neq (m := 0) (by omega) (by omega) k6n)]
        exact hX
      by_cases hs : (0 < x ∧ 0 < y) ∨ (x < 0 ∧ y < 0)
      · have e1 : Int32.ofInt x.sign = Int32.ofInt y.sign := by
          rcases hs with ⟨h1, h2⟩ | ⟨h1, h2⟩
          · rw [sg_pos h1, sg_pos h2]
          · rw [sg_neg h1, sg_neg h2]
        have e2 : Int32.ofInt (x + y).sign = Int32.ofInt x.sign := by
          rcases hs with ⟨h1, h2⟩ | ⟨h1, h2⟩
          · rw [sg_pos h1, sg_pos (by omega)]
          · rw [sg_neg h1, sg_neg (by omega)]
        have e3 : (x + y).natAbs = x.natAbs + y.natAbs := by omega
        obtain ⟨l1, s1, k, g1, g2, g3⟩ := m_plus (I := I) (J := J) (v := v) (r := 6) (t := 7) hR (by decide) (by decide) (by decide) A B hxy
        refine ⟨l1, s1, k, go _ ?_, by rw [e3]; exact g2, g3.kl i6⟩
        rw [if_pos e1, e2]
        exact xb_iq ok_4561 (xb_eq g1 rfl)
      · have e1 : ¬ (Int32.ofInt x.sign = Int32.ofInt y.sign) := by
          rcases Int.lt_or_lt_of_ne hx with h1 | h1
          · rw [sg_neg h1, sg_pos (show 0 < y by omega)]
            decide
          · rw [sg_pos h1, sg_neg (show y < 0 by omega)]
            decide
        obtain ⟨o, o1, o2⟩ := m_compare (I := I) (J := J) (v := v) (r := 6) (t := 7) hR (by decide) (by decide) A B
        by_cases hlt : x.natAbs < y.natAbs
        · obtain ⟨l1, s1, g1, g2, g3⟩ := m_copyR (I := I) (J := J) (v := v) (r := 11) (t := 7) hR (by decide) (by decide) (by decide) B
          obtain ⟨l2, s2, k2, f1, f2, f3⟩ := m_minus (I := I) (J := J) (v := v) (r := 11) (t := 6) hR (by decide) (by decide) (by decide) g2 (A.keep g3 (by decide)) (by omega)
          obtain ⟨l3, s3, h1, h2, h3⟩ := m_copyR (I := I) (J := J) (v := v) (r := 6) (t := 11) hR (by decide) (by decide) (by decide) f2
          have e3 : (x + y).natAbs = y.natAbs - x.natAbs := by omega
          have e2 : Int32.ofInt (x + y).sign = Int32.ofInt y.sign := by
            rcases Int.lt_or_lt_of_ne hy with h1 | h1
            · rw [sg_neg h1, sg_neg (by omega)]
            · rw [sg_pos h1, sg_pos (by omega)]
          refine ⟨l3, s3, k2, go _ ?_, by rw [e3]; exact h2, ((g3.kl i11).trans (f3.kl i11)).trans (h3.kl i6)⟩
          rw [if_neg e1, e2]
          refine xb_iq ok_4561 (xb_eq o1 ?_)
          rw [if_pos ((Cmp_lt o2).mpr hlt)]
          exact xb_iq ok_4561 (xb_eq g1 (xb_iq ok_4561 (xb_eq f1 (xb_iq ok_4561 (xb_eq h1 rfl)))))
        · obtain ⟨l1, s1, k, g1, g2, g3⟩ := m_minus (I := I) (J := J) (v := v) (r := 6) (t := 7) hR (by decide) (by decide) (by decide) A B (by omega)
          have e3 : (x + y).natAbs = x.natAbs - y.natAbs := by omega
          refine ⟨l1, s1, k, go _ ?_, by rw [e3]; exact g2, g3.kl i6⟩
          rw [if_neg e1]
          refine xb_iq ok_4561 (xb_eq o1 ?_)
          rw [if_neg (fun z => hlt ((Cmp_lt o2).mp z))]
          refine xb_iq ok_4561 (xb_eq g1 ?_)
          by_cases he : x.natAbs = y.natAbs
          · have o3 : o = 0 := by
              rcases o2 with ⟨q, -⟩ | ⟨-, q⟩ | ⟨q, -⟩
              · omega
              · exact q
              · omega
            rw [if_pos o3, show x + y = 0 by omega]
            rfl
          · have o3 : ¬ (o = 0) := fun z => by
              rcases o2 with ⟨q, -⟩ | ⟨q, -⟩ | ⟨-, q⟩
              · omega
              · exact he q
              · rw [z] at q
                exact absurd q (by decide)
            have e2 : Int32.ofInt (x + y).sign = Int32.ofInt x.sign := by
              rcases Int.lt_or_lt_of_ne hx with h1 | h1
              · rw [sg_neg h1, sg_neg (by omega)]
              · rw [sg_pos h1, sg_pos (by omega)]
            rw [if_neg o3, e2]
            rfl
theorem xz_b {b : Int32} (h : b = 0 ∨ b = 1) : xz b = some b := by
  rcases h with rfl | rfl <;> rfl
/-- a sum (e is 1) or a difference (e is -1) -/
theorem m_addV {i a b da db : Nat} {za zb e : Int} (hR : RA R) (hi : i < 3700) (ha : a < 3700) (hb : b < 3700) (he : e = 1 ∨ e = -1) (A : Vv v a za da) (B : Vv v b zb db) : ∃ l' s' v' y, f_X12_addValues (bM I l s v J R) 4561 (Int32.ofNat i) (Int32.ofNat a) (Int32.ofNat b) (Int32.ofInt e) = some (y, bM I l' s' v' J R) ∧ Kl l s l' s' AR ∧ Sto v v' i (za * db + e * zb * da) (da * db) y := by
  obtain ⟨l1, s1, l2, s2, l3, s3, l4, s4, k2, k3, k4, k5, a1, a2, a3, a4, ⟨R2, q2⟩, ⟨R3, q3⟩, ⟨R4, q4⟩, ⟨R5, q5⟩, K4⟩ := m_load4 (I := I) (J := J) (l := l) (s := s) hR ha hb A B
  obtain ⟨l5, s5, k6, b1, b2, b3, b4⟩ := m_times (I := I) (J := J) (v := v) (t := 6) (r := 2) (w := 5) hR (by decide) (by decide) (by decide) (by decide) (by decide) R2 R5 (by omega)
  obtain ⟨l6, s6, k7, c1, c2, c3, c4⟩ := m_times (I := I) (J := J) (v := v) (t := 7) (r := 4) (w := 3) hR (by decide) (by decide) (by decide) (by decide) (by decide) (R4.keep b4 (by decide)) (R3.keep b4 (by decide)) (by omega)
  obtain ⟨l7, s7, k1, d1, d2, d3, d4⟩ := m_times (I := I) (J := J) (v := v) (t := 1) (r := 3) (w := 5) hR (by decide) (by decide) (by decide) (by decide) (by decide) ((R3.keep b4 (by decide)).keep c4 (by decide)) ((R5.keep b4 (by decide)).keep c4 (by decide)) (by omega)
  have n6 : (za * db).natAbs = za.natAbs * db := by rw [Int.natAbs_mul, Int.natAbs_natCast]
  have n7 : (e * zb * da).natAbs = zb.natAbs * da := by
    rw [Int.natAbs_mul, Int.natAbs_natCast, Int.natAbs_mul]
    rcases he with h | h <;> rw [h] <;> simp
  have R6' : Rg l7 s7 6 k6 (za * db).natAbs := by
    rw [n6]
    exact (b2.keep c4 (by decide)).keep d4 (by decide)
  have R7' : Rg l7 s7 7 k7 (e * zb * da).natAbs := by
    rw [n7]
    exact c2.keep d4 (by decide)
  have db0 := B.2.2.2.2.1
  have da0 := A.2.2.2.2.1
  have sx : Int32.ofInt za.sign = Int32.ofInt (za * db).sign := by
    rw [Int.sign_mul, Int.sign_eq_one_of_pos (show (0 : Int) < db by omega), Int.mul_one]
  have sy : Int32.ofInt e * Int32.ofInt zb.sign = Int32.ofInt (e * zb * da).sign := by
    rw [Int.sign_mul (e * zb), Int.sign_eq_one_of_pos (show (0 : Int) < da by omega), Int.mul_one, ← sg_mul]
    rcases he with h | h <;> rw [h] <;> rfl
  obtain ⟨l8, s8, k8, e1, e2, e3⟩ := m_signed (I := I) (J := J) (v := v) hR R6' R7' (by
    have h1 := Bp_26 R6' (by omega)
    have h2 := Bp_26 R7' (by omega)
    omega)
  obtain ⟨l9, s9, f1, f2, f3⟩ := m_copyR (I := I) (J := J) (v := v) (r := 0) (t := 6) hR (by decide) (by decide) (by decide) e2
  have R1' : Rg l9 s9 1 k1 (da * db) := (d2.kl e3 (by decide)).keep f3 (by decide)
  obtain ⟨l10, s10, v', y, g1, g2, g3, g4⟩ := m_storeV (I := I) (J := J) (v := v) (i := i) (sg := Int32.ofInt (za * db + e * zb * da).sign) hR hi f2 R1' (Nat.mul_pos da0 db0) (Bp_26 R1' (by omega)) (Or.inr rfl)
  have K : Kl l s l10 s10 AR := ((((((K4.trans (b4.kl (by decide))).trans (c4.kl (by decide))).trans (d4.kl (by decide))).trans (e3.mono (by decide))).trans (f3.kl (by decide))).trans (g2.mono AR_S))
  refine ⟨l10, s10, v', y, ?_, K, g3⟩
  unfold f_X12_addValues
  refine xb_iq ok_4561 (xb_eq a1 (xb_iq ok_4561 (xb_eq a2 (xb_iq ok_4561 (xb_eq a3 (xb_iq ok_4561 (xb_eq a4 (xb_iq ok_4561 (xb_eq b1 (xb_iq ok_4561 (xb_eq c1 (xb_iq ok_4561 (xb_eq d1 (xb_iq ok_4561 (xb_eq (m_signV hR ha A) (xb_iq ok_4561 (xb_eq (m_signV hR hb B) (xb_iq ok_4561 ?_))))))))))))))))))
  rw [sx, sy]
  exact xb_eq e1 (xb_iq ok_4561 (xb_eq f1 (xb_iq ok_4561 (xb_eq g1 (xb_eq (xz_b g4) rfl)))))
/-- a product -/
theorem m_mulV {i a b da db : Nat} {za zb : Int} (hR : RA R) (hi : i < 3700) (ha : a < 3700) (hb : b < 3700) (A : Vv v a za da) (B : Vv v b zb db) : ∃ l' s' v' y, f_X12_multiplyValues (bM I l s v J R) 4561 (Int32.ofNat i) (Int32.ofNat a) (Int32.ofNat b) = some (y, bM I l' s' v' J R) ∧ Kl l s l' s' AR ∧ Sto v v' i (za * zb) (da * db) y := by
  obtain ⟨l1, s1, l2, s2, l3, s3, l4, s4, k2, k3, k4, k5, a1, a2, a3, a4, ⟨R2, q2⟩, ⟨R3, q3⟩, ⟨R4, q4⟩, ⟨R5, q5⟩, K4⟩ := m_load4 (I := I) (J := J) (l := l) (s := s) hR ha hb A B
  obtain ⟨l5, s5, k0, b1, b2, b3, b4⟩ := m_times (I := I) (J := J) (v := v) (t := 0) (r := 2) (w := 4) hR (by decide) (by decide) (by decide) (by decide) (by decide) R2 R4 (by omega)
  obtain ⟨l6, s6, k1, c1, c2, c3, c4⟩ := m_times (I := I) (J := J) (v := v) (t := 1) (r := 3) (w := 5) hR (by decide) (by decide) (by decide) (by decide) (by decide) (R3.keep b4 (by decide)) (R5.keep b4 (by decide)) (by omega)
  have db0 := B.2.2.2.2.1
  have da0 := A.2.2.2.2.1
  have R0' : Rg l6 s6 0 k0 (za * zb).natAbs := by
    rw [Int.natAbs_mul]
    exact b2.keep c4 (by decide)
  obtain ⟨l10, s10, v', y, g1, g2, g3, g4⟩ := m_storeV (I := I) (J := J) (v := v) (i := i) (sg := Int32.ofInt (za * zb).sign) hR hi R0' c2 (Nat.mul_pos da0 db0) (Bp_26 c2 (by omega)) (Or.inr rfl)
  have K : Kl l s l10 s10 AR := (((K4.trans (b4.kl (by decide))).trans (c4.kl (by decide))).trans (g2.mono AR_S))
  refine ⟨l10, s10, v', y, ?_, K, g3⟩
  unfold f_X12_multiplyValues
  refine xb_iq ok_4561 (xb_eq a1 (xb_iq ok_4561 (xb_eq a2 (xb_iq ok_4561 (xb_eq a3 (xb_iq ok_4561 (xb_eq a4 (xb_iq ok_4561 (xb_eq b1 (xb_iq ok_4561 (xb_eq c1 (xb_iq ok_4561 (xb_eq (m_signV hR ha A) (xb_iq ok_4561 (xb_eq (m_signV hR hb B) (xb_iq ok_4561 ?_))))))))))))))))
  rw [sg_mul]
  exact xb_eq g1 (xb_eq (xz_b g4) rfl)
/-- a quotient, the second one not 0 -/
theorem m_divV {i a b da db : Nat} {za zb : Int} (hR : RA R) (hi : i < 3700) (ha : a < 3700) (hb : b < 3700) (h0 : zb ≠ 0) (A : Vv v a za da) (B : Vv v b zb db) : ∃ l' s' v' y, f_X12_divideValues (bM I l s v J R) 4561 (Int32.ofNat i) (Int32.ofNat a) (Int32.ofNat b) = some (y, bM I l' s' v' J R) ∧ Kl l s l' s' AR ∧ Sto v v' i (za * db * zb.sign) (da * zb.natAbs) y := by
  obtain ⟨l1, s1, l2, s2, l3, s3, l4, s4, k2, k3, k4, k5, a1, a2, a3, a4, ⟨R2, q2⟩, ⟨R3, q3⟩, ⟨R4, q4⟩, ⟨R5, q5⟩, K4⟩ := m_load4 (I := I) (J := J) (l := l) (s := s) hR ha hb A B
  obtain ⟨l5, s5, k0, b1, b2, b3, b4⟩ := m_times (I := I) (J := J) (v := v) (t := 0) (r := 2) (w := 5) hR (by decide) (by decide) (by decide) (by decide) (by decide) R2 R5 (by omega)
  obtain ⟨l6, s6, k1, c1, c2, c3, c4⟩ := m_times (I := I) (J := J) (v := v) (t := 1) (r := 3) (w := 4) hR (by decide) (by decide) (by decide) (by decide) (by decide) (R3.keep b4 (by decide)) (R4.keep b4 (by decide)) (by omega)
  have db0 := B.2.2.2.2.1
  have da0 := A.2.2.2.2.1
  have zs : zb.sign.natAbs = 1 := by
    rcases Int.lt_or_lt_of_ne h0 with h | h
    · rw [Int.sign_eq_neg_one_of_neg h]
      rfl
    · rw [Int.sign_eq_one_of_pos h]
      rfl
  have R0' : Rg l6 s6 0 k0 (za * db * zb.sign).natAbs := by
    rw [Int.natAbs_mul, Int.natAbs_mul, zs, Nat.mul_one, Int.natAbs_natCast]
    exact b2.keep c4 (by decide)
  have sx : Int32.ofInt za.sign * Int32.ofInt zb.sign = Int32.ofInt (za * db * zb.sign).sign := by
    rw [Int.sign_mul, Int.sign_mul, Int.sign_eq_one_of_pos (show (0 : Int) < db by omega), Int.mul_one, Int.sign_sign, ← Int.sign_mul, ← sg_mul]
  obtain ⟨l10, s10, v', y, g1, g2, g3, g4⟩ := m_storeV (I := I) (J := J) (v := v) (i := i) (sg := Int32.ofInt (za * db * zb.sign).sign) hR hi R0' c2 (Nat.mul_pos da0 (by omega)) (Bp_26 c2 (by omega)) (Or.inr rfl)
  have K : Kl l s l10 s10 AR := (((K4.trans (b4.kl (by decide))).trans (c4.kl (by decide))).trans (g2.mono AR_S))
  refine ⟨l10, s10, v', y, ?_, K, g3⟩
  unfold f_X12_divideValues
  refine xb_iq ok_4561 (xb_eq a1 (xb_iq ok_4561 (xb_eq a2 (xb_iq ok_4561 (xb_eq a3 (xb_iq ok_4561 (xb_eq a4 (xb_iq ok_4561 (xb_eq b1 (xb_iq ok_4561 (xb_eq c1 (xb_iq ok_4561 (xb_eq (m_signV hR ha A) (xb_iq ok_4561 (xb_eq (m_signV hR hb B) (xb_iq ok_4561 ?_))))))))))))))))
  rw [sx]
  exact xb_eq g1 (xb_eq (xz_b g4) rfl)
end GK
