/-! slopes: the reference's operators with the result elsewhere -/
section MSX
variable {I : Nat → Nat → Int32} {J : Nat → Nat → Int64} {R : Nat → Nat → Option Nat}
theorem M_powerX {t a b da db : Nat} {za zb : Int} (hR : RA R) (ht : t < 3700 ∧ t ≠ 3600 ∧ t ≠ 3601) (ha : a < 3600) (hb : b < 3600) (A : Vv (I 4564) a za da) (B : Vv (I 4564) b zb db) : QK (f_X12_power (mg 4625 I J R) 4561 (Int32.ofNat (t)) (Int32.ofNat (a)) (Int32.ofNat (b))) (Vop I J R t (fun x => x = t ∨ x = 3600 ∨ x = 3601) (q2 5 (za, da) (zb, db))) := by
  have q5 : q2 5 (za, da) (zb, db) = if db ≠ 1 then .inl 2 else if za = 0 ∧ zb < 0 then .inl 1 else if zb < -64 ∨ 64 < zb then .inl 3 else qpow (za, da) zb := rfl
  unfold f_X12_power
  rw [q5, if_pos ok_4561, M_isWhole hR (by omega) B, Option.bind_some]
  by_cases h2 : db = 1
  · rw [if_pos h2, if_neg (show ¬ (1 : Int32) = 0 by decide), if_pos ok_4561, if_neg (show ¬ db ≠ 1 by omega)]
    refine q_bind (M_small hR (by omega) B) ?_
    rintro r ⟨I1, rfl, hr1, hv1⟩
    have A1 : Vv (I1 4564) a za da := by rw [hv1]; exact A
    obtain ⟨c1, c2, c3, c4, -⟩ := sml_cmp (z := zb) (k := 0) (by omega)
    obtain ⟨c5, -, -, -, -⟩ := sml_cmp (z := zb) (k := -64) (by omega)
    obtain ⟨-, c6, -, -, c7⟩ := sml_cmp (z := zb) (k := 64) (by omega)
    have ge0 : (0 : Int32) ≤ Int32.ofInt (sml zb) ↔ 0 ≤ zb := by
      rw [show (0 : Int32) = Int32.ofInt 0 from rfl, ofInt_le (by omega)]
      omega
    have j32 : ¬ (za = 0 ∧ zb < 0) → QK (f_X12_power_j32 (mg 4625 I1 J R) 4561 (Int32.ofNat (t)) (Int32.ofNat (a)) (Int32.ofInt (sml zb))) (Vop I J R t (fun x => x = t ∨ x = 3600 ∨ x = 3601) (if zb < -64 ∨ 64 < zb then .inl 3 else qpow (za, da) zb)) := by
      intro hz0
      unfold f_X12_power_j32
      by_cases h4 : zb < -64 ∨ 64 < zb
      · rw [m_in0 (fun q => by
          rw [show (-64 : Int32) = Int32.ofInt (-64) by decide, show (64 : Int32) = Int32.ofInt 64 by decide, ofInt_le (by omega), ofInt_le (by omega)] at q
          omega), Option.bind_some, if_pos rfl, if_pos h4]
        exact q_ok ⟨I1, hr1, Kvs_eq hv1, Or.inr ⟨3, rfl, by decide, by decide, rfl⟩⟩
      · have e := c7 (by omega)
        rw [m_in1 (by
          rw [show (-64 : Int32) = Int32.ofInt (-64) by decide, ofInt_le (by omega)]
          omega) (by
          rw [show (64 : Int32) = Int32.ofInt 64 by decide, ofInt_le (by omega)]
          omega), Option.bind_some, if_neg (show ¬ (1 : Int32) = 0 by decide), if_neg h4]
        have j64 : QK (f_X12_power_j64 (mg 4625 I1 J R) 4561 (Int32.ofNat (t)) (Int32.ofInt (sml zb)) (Int32.ofNat (zb.natAbs)) (Int32.ofNat (a)) 3600 4561) (Vop I J R t (fun x => x = t ∨ x = 3600 ∨ x = 3601) (qpow (za, da) zb)) := by
          unfold f_X12_power_j64
          rw [if_pos ok_4561]
          refine q_bind (M_raise (I := I1) (t := 3600) (n := zb.natAbs) hR (by decide) (by omega) (by omega) (by omega) A1) ?_
          rintro r ⟨I2, hr2, hk2, hc⟩
          have hks : Kvs (fun x => x = t ∨ x = 3600 ∨ x = 3601) (I 4564) (I2 4564) := Kvs_tr (Kvs_eq hv1) (Kv_s hk2 (Or.inr (Or.inl rfl)))
          -- the end with a value or none
          have j102 : ∀ (I3 : Nat → Nat → Int32) (y : Int32) (z : Int) (d : Nat), R3 I I3 → Kvs (fun x => x = t ∨ x = 3600 ∨ x = 3601) (I 4564) (I3 4564) → y = 1 → Vv (I3 4564) 3600 z d → QK (f_X12_power_j102 (mg 4625 I3 J R) 4561 (Int32.ofNat (t)) y) (Vop I J R t (fun x => x = t ∨ x = 3600 ∨ x = 3601) (.inr (z, d))) := by
            intro I3 y z d hr3 hk3 hy hv
            unfold f_X12_power_j102 f_X12_power_j115 f_X12_power_j125
            rw [hy, if_neg (by decide), if_pos ok_4561]
            refine q_bind (M_copy (I := I3) (a := t) (b := 3600) hR (by omega) (by decide) (by omega) hv) ?_
            rintro r ⟨I4, rfl, hr4, -, -, hk4, hv4⟩
            rw [if_neg (by decide)]
            exact q_ok ⟨I4, R3_tr hr3 hr4, Kvs_tr hk3 (Kv_s hk4 (Or.inl rfl)), Or.inl ⟨z, d, rfl, rfl, hv4⟩⟩
          have j102f : ∀ (I3 : Nat → Nat → Int32), R3 I I3 → Kvs (fun x => x = t ∨ x = 3600 ∨ x = 3601) (I 4564) (I3 4564) → QK (f_X12_power_j102 (mg 4625 I3 J R) 4561 (Int32.ofNat (t)) 0) (Vop I J R t (fun x => x = t ∨ x = 3600 ∨ x = 3601) (.inl 3)) := by
            intro I3 hr3 hk3
            unfold f_X12_power_j102 f_X12_power_j115 f_X12_power_j125
            rw [if_pos rfl, if_pos rfl]
            exact q_ok ⟨I3, hr3, hk3, Or.inr ⟨3, rfl, by decide, by decide, rfl⟩⟩
          unfold qpow
          rcases hc with ⟨rfl, hP, hv2⟩ | ⟨rfl, hP⟩
          · have hP' := hP
            unfold PowOK at hP'
            rw [Int.natAbs_natCast] at hP'
            rw [if_neg (show ¬ (1 : Int32) = 0 by decide), if_pos hP']
            by_cases h5 : 0 ≤ zb
            · rw [if_pos (ge0.mpr h5), if_pos h5]
              exact j102 I2 1 _ _ (R3_tr hr1 hr2) hks rfl hv2
            · rw [if_neg (fun q => h5 (ge0.mp q)), if_neg h5, if_pos ok_4561]
              refine q_bind (M_setInt (I := I2) (i := 3601) (m := 1) hR (by decide) (by decide)) ?_
              rintro r ⟨I3, rfl, hr3, hk3, hv3⟩
              rw [if_pos ok_4561]
              have hza : za ≠ 0 := fun q => hz0 ⟨q, by omega⟩
              have hzp : za ^ zb.natAbs ≠ 0 := Int.pow_ne_zero hza
              refine q_bind (M_div (I := I3) (i := 3600) (a := 3601) (b := 3600) hR (by decide) (by decide) (by decide) hzp hv3 (hv2.keep hk3 (by decide))) ?_
              rintro r ⟨I4, y, rfl, hr4, hs4⟩
              have hk4 : Kvs (fun x => x = t ∨ x = 3600 ∨ x = 3601) (I 4564) (I4 4564) := Kvs_tr (Kvs_tr hks (Kv_s hk3 (Or.inr (Or.inr rfl)))) (Kv_s (Sto_kv hs4) (Or.inr (Or.inl rfl)))
              have cp := cop_pow (n := zb.natAbs) A.2.2.2.2.2.2
              have s1 : (za ^ zb.natAbs).sign.natAbs = 1 := by
                rcases Int.lt_or_lt_of_ne hzp with q | q
                · rw [Int.sign_eq_neg_one_of_neg q]; rfl
                · rw [Int.sign_eq_one_of_pos q]; rfl
              have an : (((1 : Nat) : Int) * ((da ^ zb.natAbs : Nat) : Int) * (za ^ zb.natAbs).sign).natAbs = da ^ zb.natAbs := by
                rw [Int.natAbs_mul, s1, Int.natAbs_mul, Int.natAbs_natCast, Int.natAbs_natCast]
                omega
              obtain ⟨r1, r2, r3⟩ := rz_cop1 (z := ((1 : Nat) : Int) * ((da ^ zb.natAbs : Nat) : Int) * (za ^ zb.natAbs).sign) (D := 1 * (za ^ zb.natAbs).natAbs) (by rw [an, Nat.one_mul, Nat.gcd_comm]; exact cp)
              rcases hs4 with ⟨-, g2, g3, -⟩ | ⟨g1, -⟩
              · rw [r1, r2, Nat.one_mul, show ((1 : Nat) : Int) = 1 from rfl, Int.one_mul, Int.natCast_pow] at g3
                exact j102 I4 y _ _ (R3_tr (R3_tr (R3_tr hr1 hr2) hr3) hr4) hk4 g2 g3
              · exfalso
                refine g1 (r3.mpr ⟨by rw [an]; exact hP'.2, ?_⟩)
                rw [Nat.one_mul, natAbs_pow']
                exact hP'.1
          · have hP' : ¬ (za.natAbs ^ zb.natAbs < 2 ^ 200 ∧ da ^ zb.natAbs < 2 ^ 200) := fun q => hP (by
              unfold PowOK
              rw [Int.natAbs_natCast]
              exact q)
            rw [if_pos rfl, if_neg hP']
            exact j102f I2 (R3_tr hr1 hr2) hks
        by_cases h5 : 0 ≤ zb
        · rw [if_pos (ge0.mpr h5)]
          have e2 : Int32.ofInt (sml zb) = (Int32.ofNat (zb.natAbs)) := by
            rw [e, ← Int32.ofInt_eq_ofNat]
            congr 1
            omega
          rw [e2] at j64 ⊢
          exact j64
        · rw [if_neg (fun q => h5 (ge0.mp q))]
          have e2 : -Int32.ofInt (sml zb) = (Int32.ofNat (zb.natAbs)) := by
            rw [e, ← Int32.ofInt_eq_ofNat, ← Int32.ofInt_neg]
            congr 1
            omega
          rw [e2]
          exact j64
    rw [if_pos ok_4561, M_sign hR (by omega) A1, Option.bind_some]
    by_cases hz : za = 0
    · rw [if_pos (sg_eq0.mpr hz)]
      by_cases h3 : zb < 0
      · rw [if_neg (fun q => absurd (ge0.mp q) (by omega)), if_pos ⟨hz, h3⟩]
        exact q_ok ⟨I1, hr1, Kvs_eq hv1, Or.inr ⟨1, rfl, by decide, by decide, rfl⟩⟩
      · rw [if_pos (ge0.mpr (by omega)), if_neg (fun q => h3 q.2)]
        exact j32 (fun q => h3 q.2)
    · rw [if_neg (fun q => hz (sg_eq0.mp q)), if_neg (fun q => hz q.1)]
      exact j32 (fun q => hz q.1)
  · rw [if_neg h2, if_pos rfl, if_pos h2]
    exact q_ok ⟨I, R3_rfl, Kvs_rfl, Or.inr ⟨2, rfl, by decide, by decide, rfl⟩⟩
theorem M_twoX {a b m da db : Nat} {za zb : Int} (hR : RA R) (ha : a < 3700) (hb : b < 3600) (hm : m ≤ 3) (A : Vv (I 4564) a za da) (B : Vv (I 4564) b zb db) : QK (f_X12_two (mg 4625 I J R) 4561 (Int32.ofNat (m)) (Int32.ofNat (a)) (Int32.ofNat (b))) (Vop I J R a (fun x => x = a ∨ x = 3600 ∨ x = 3601) (q2 m (za, da) (zb, db))) := by
  have ne : ∀ k : Nat, k < 100 → m ≠ k → ¬ (Int32.ofNat (m)) = (Int32.ofNat (k)) := fun k hk h => i32_neq (by omega) (by omega) h
  have yn : ∀ {r : Int32 × xM} {q : Nat ⊕ (Int × Nat)}, Vop I J R a (fun x => x = a) q r → Vop I J R a (fun x => x = a ∨ x = 3600 ∨ x = 3601) q r := fun h => Vop_mono h (fun x hx => Or.inl hx)
  unfold f_X12_two
  by_cases h0 : m = 0
  · subst h0
    rw [if_pos (show (Int32.ofNat (0)) = 0 from rfl), if_pos ok_4561]
    refine q_bind (M_add (e := 1) hR (by omega) (by omega) (by omega) (Or.inl rfl) A B) ?_
    rintro r ⟨I1, y, rfl, hr, hs⟩
    have := M_sto (J := J) (R := R) (S := fun x => x = a ∨ x = 3600 ∨ x = 3601) hr hs (Or.inl rfl)
    unfold f_X12_two_j76
    by_cases hy : y = 0
    · rw [if_pos hy] at this ⊢
      exact q_ok this
    · rw [if_neg hy] at this ⊢
      exact q_ok this
  rw [if_neg (show ¬ (Int32.ofNat (m)) = (0 : Int32) from ne 0 (by decide) h0)]
  by_cases h1 : m = 1
  · subst h1
    rw [if_pos (show (Int32.ofNat (1)) = 1 from rfl), if_pos ok_4561]
    rw [show (-1 : Int32) = Int32.ofInt (-1) by decide]
    refine q_bind (M_add (e := -1) hR (by omega) (by omega) (by omega) (Or.inr rfl) A B) ?_
    rintro r ⟨I1, y, rfl, hr, hs⟩
    have := M_sto (J := J) (R := R) (S := fun x => x = a ∨ x = 3600 ∨ x = 3601) hr hs (Or.inl rfl)
    unfold f_X12_two_j93
    by_cases hy : y = 0
    · rw [if_pos hy] at this ⊢
      exact q_ok this
    · rw [if_neg hy] at this ⊢
      exact q_ok this
  rw [if_neg (show ¬ (Int32.ofNat (m)) = (1 : Int32) from ne 1 (by decide) h1)]
  by_cases h2 : m = 2
  · subst h2
    rw [if_pos (show (Int32.ofNat (2)) = 2 from rfl), if_pos ok_4561]
    refine q_bind (M_mul hR (by omega) (by omega) (by omega) A B) ?_
    rintro r ⟨I1, y, rfl, hr, hs⟩
    have := M_sto (J := J) (R := R) (S := fun x => x = a ∨ x = 3600 ∨ x = 3601) hr hs (Or.inl rfl)
    unfold f_X12_two_j109
    by_cases hy : y = 0
    · rw [if_pos hy] at this ⊢
      exact q_ok this
    · rw [if_neg hy] at this ⊢
      exact q_ok this
  rw [if_neg (show ¬ (Int32.ofNat (m)) = (2 : Int32) from ne 2 (by decide) h2)]
  by_cases h3 : m = 3
  · subst h3
    have q : q2 3 (za, da) (zb, db) = if zb = 0 then .inl 1 else qfin (za * db * zb.sign) (da * zb.natAbs) := rfl
    rw [if_pos (show (Int32.ofNat (3)) = 3 from rfl), if_pos ok_4561, M_sign hR (by omega) B, Option.bind_some, q]
    unfold f_X12_two_j137
    by_cases hz : zb = 0
    · rw [if_pos (sg_eq0.mpr hz), if_pos hz]
      exact q_ok ⟨I, R3_rfl, Kvs_rfl, Or.inr ⟨1, rfl, by decide, by decide, rfl⟩⟩
    · rw [if_neg (fun w => hz (sg_eq0.mp w)), if_neg hz, if_pos ok_4561]
      refine q_bind (M_div hR (by omega) (by omega) (by omega) hz A B) ?_
      rintro r ⟨I1, y, rfl, hr, hs⟩
      have := M_sto (J := J) (R := R) (S := fun x => x = a ∨ x = 3600 ∨ x = 3601) hr hs (Or.inl rfl)
      by_cases hy : y = 0
      · rw [if_pos hy] at this ⊢
        exact q_ok this
      · rw [if_neg hy] at this ⊢
        exact q_ok this
  rw [if_neg (show ¬ (Int32.ofNat (m)) = (3 : Int32) from ne 3 (by decide) h3)]
  omega
end MSX
section MSP
variable {I : Nat → Nat → Int32} {J : Nat → Nat → Int64} {R : Nat → Nat → Option Nat} {a : Nat} {v p : GV}
theorem M_partOfPower {k : Nat} (hR : RA R) (ha : a + 1 < 3600) (hk : 1 ≤ k ∧ k ≤ 64) (V : Vv (I 4564) a v.1 v.2) (P : Vv (I 4564) (a + 1) p.1 p.2) (hx : v.1.natAbs ^ k < 2 ^ 200 ∧ v.2 ^ k < 2 ^ 200) : QK (f_X12_partOfPower (mg 4625 I J R) 4561 (Int32.ofNat (a)) (Int32.ofNat (k))) (fun x => ∃ I' y, x = (y, mg 4625 I' J R) ∧ R4 I I' ∧ Kvs (fun x => x = a + 1 ∨ x = 3602 ∨ x = 3603) (I 4564) (I' 4564) ∧ ((∃ g : GV, qfin (v.1 ^ (k - 1) * k * p.1) (v.2 ^ (k - 1) * p.2) = .inr g ∧ y = 1 ∧ Vv (I' 4564) (a + 1) g.1 g.2) ∨ (qfin (v.1 ^ (k - 1) * k * p.1) (v.2 ^ (k - 1) * p.2) = .inl 3 ∧ y = 0))) := by
  have v0 := V.2.2.2.2.1
  have p0 := P.2.2.2.2.1
  have po : PowOK v.1 (v.2 : Int) (k - 1) := by
    refine ⟨?_, ?_⟩
    · by_cases y : v.1.natAbs = 0
      · rw [y]
        rcases Nat.eq_zero_or_pos (k - 1) with e | e
        · rw [e]; decide
        · rw [Nat.zero_pow e]; decide
      · exact Nat.lt_of_le_of_lt (Nat.pow_le_pow_right (by omega) (by omega)) hx.1
    · rw [Int.natAbs_natCast]
      exact Nat.lt_of_le_of_lt (Nat.pow_le_pow_right v0 (by omega)) hx.2
  unfold f_X12_partOfPower
  rw [q_let, if_pos ok_4561, show (Int32.ofNat (k)) - (1 : Int32) = (Int32.ofNat (k - 1)) from n_sub (b := 1) (by omega)]
  refine q_bind (M_raise (t := 3602) (n := k - 1) hR (by decide) (show a < 3700 by omega) (by omega) (by omega) V) ?_
  rintro _ ⟨I1, r1, kv1, ⟨rfl, -, w1⟩ | ⟨rfl, hn⟩⟩
  rotate_left
  · exact absurd po hn
  rw [if_pos ok_4561]
  refine q_bind (M_setInt (i := 3603) hR (by decide) (show k < 2147483648 by omega)) ?_
  rintro _ ⟨I2, rfl, r2, kv2, w2⟩
  have W1 : Vv (I2 4564) 3602 (v.1 ^ (k - 1)) (v.2 ^ (k - 1)) := w1.keep kv2 (by decide)
  have P2 : Vv (I2 4564) (a + 1) p.1 p.2 := (P.keep kv1 (by omega)).keep kv2 (by omega)
  obtain ⟨l1, s1, k2, a1, a2, a3, a4⟩ := m_loadN (I := I2) (J := J) (l := I2 4562) (s := I2 4563) (v := I2 4564) (r := 2) hR (by decide) (show 3602 < 3700 by decide) W1
  obtain ⟨l2, s2, k3, b1, b2, b3, b4⟩ := m_loadN (I := I2) (J := J) (l := l1) (s := s1) (v := I2 4564) (r := 3) hR (by decide) (show 3603 < 3700 by decide) w2
  obtain ⟨l3, s3, k4, c1, c2, c3, c4⟩ := m_times (I := I2) (J := J) (v := I2 4564) (t := 4) (r := 2) (w := 3) hR (by decide) (by decide) (by decide) (by decide) (by decide) (a2.keep b4 (by decide)) b2 (by omega)
  obtain ⟨l4, s4, k2', d1, d2, d3, d4⟩ := m_loadN (I := I2) (J := J) (l := l3) (s := s3) (v := I2 4564) (r := 2) hR (by decide) (show a + 1 < 3700 by omega) P2
  obtain ⟨l5, s5, k0, e1, e2, e3, e4⟩ := m_times (I := I2) (J := J) (v := I2 4564) (t := 0) (r := 4) (w := 2) hR (by decide) (by decide) (by decide) (by decide) (by decide) (c2.keep d4 (by decide)) d2 (by omega)
  obtain ⟨l6, s6, k2'', f1, f2, f3, f4⟩ := m_loadD (I := I2) (J := J) (l := l5) (s := s5) (v := I2 4564) (r := 2) hR (by decide) (show 3602 < 3700 by decide) W1
  obtain ⟨l7, s7, k3', g1, g2, g3, g4⟩ := m_loadD (I := I2) (J := J) (l := l6) (s := s6) (v := I2 4564) (r := 3) hR (by decide) (show a + 1 < 3700 by omega) P2
  obtain ⟨l8, s8, k1, h1, h2, h3, h4⟩ := m_times (I := I2) (J := J) (v := I2 4564) (t := 1) (r := 2) (w := 3) hR (by decide) (by decide) (by decide) (by decide) (by decide) (f2.keep g4 (by decide)) g2 (by omega)
  have e2' : Rg l8 s8 0 k0 ((v.1 ^ (k - 1)).natAbs * ((k : Nat) : Int).natAbs * p.1.natAbs) := ((e2.keep f4 (by decide)).keep g4 (by decide)).keep h4 (by decide)
  have nz : (v.1 ^ (k - 1) * k * p.1).natAbs = (v.1 ^ (k - 1)).natAbs * ((k : Nat) : Int).natAbs * p.1.natAbs := by rw [Int.natAbs_mul, Int.natAbs_mul]
  have sz : Int32.ofInt (v.1 ^ (k - 1)).sign * Int32.ofInt p.1.sign = Int32.ofInt (v.1 ^ (k - 1) * k * p.1).sign := by
    rw [Int.sign_mul, Int.sign_mul, Int.sign_eq_one_of_pos (show (0 : Int) < (k : Int) by omega), Int.mul_one, ← Int.sign_mul, ← sg_mul]
  have D0 : 0 < v.2 ^ (k - 1) * p.2 := Nat.mul_pos (Nat.pow_pos v0) p0
  obtain ⟨l9, s9, v', y, m1, m2, m3, m4⟩ := m_storeV (I := I2) (J := J) (v := I2 4564) (z := v.1 ^ (k - 1) * k * p.1) (i := a + 1) (sg := Int32.ofInt (v.1 ^ (k - 1) * k * p.1).sign) hR (by omega) (by rw [nz]; exact e2') h2 D0 (Bp_26 h2 (by omega)) (Or.inr rfl)
  obtain ⟨q1, q2⟩ := Sto_q m3
  rw [show (Int32.ofNat (a)) + (1 : Int32) = (Int32.ofNat (a + 1)) from n_add a 1]
  refine ⟨(y, bM I2 l9 s9 v' J R), ?_, u3 I2 l9 s9 v', y, rfl, R4_tr (R3_R4 r1) (R4_tr (R3_R4 r2) (fun x k q1 q2 q3 q4 => ?_)), ?_, by rw [u3_4564]; exact q2⟩
  · rw [bM_id (I := I2)]
    refine xb_iq ok_4561 (xb_eq a1 (xb_iq ok_4561 (xb_eq b1 (xb_iq ok_4561 (xb_eq c1 (xb_iq ok_4561 (xb_eq d1 (xb_iq ok_4561 (xb_eq e1 (xb_iq ok_4561 (xb_eq f1 (xb_iq ok_4561 (xb_eq g1 (xb_iq ok_4561 (xb_eq h1 (xb_iq ok_4561 (xb_eq (m_signV hR (by decide) W1) (xb_iq ok_4561 (xb_eq (m_signV hR (by omega) P2) (xb_iq ok_4561 ?_))))))))))))))))))))
    rw [sz]
    exact xb_eq m1 (xb_eq (xz_b m4) rfl)
  · unfold u3
    rw [va_up_ne _ _ q3, va_up_ne _ _ q2, va_up_ne _ _ q1]
  · rw [u3_4564]
    exact Kvs_tr (Kv_s kv1 (Or.inr (Or.inl rfl))) (Kvs_tr (Kv_s kv2 (Or.inr (Or.inr rfl))) (Kv_s q1 (Or.inl rfl)))
end MSP
