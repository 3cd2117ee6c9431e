/-! powers, factorials, operators of the reference -/
theorem sml_cmp {z : Int} {k : Int} (hk : -1000 ≤ k ∧ k ≤ 1000) : (sml z < k ↔ z < k) ∧ (k < sml z ↔ k < z) ∧ -1073741824 ≤ sml z ∧ sml z ≤ 1073741824 ∧ (-1000 ≤ z ∧ z ≤ 1000 → sml z = z) := by
  unfold sml
  by_cases q : z.natAbs < 1073741824
  · rw [if_pos q]
    omega
  · rw [if_neg q]
    split <;> omega
theorem clp_cmp {z : Int} {k : Int} (hk : -1000 ≤ k ∧ k ≤ 1000) : (clp z < k ↔ z < k) ∧ (k < clp z ↔ k < z) ∧ -1073741824 ≤ clp z ∧ clp z ≤ 1073741824 ∧ (-1000 ≤ z ∧ z ≤ 1000 → clp z = z) := by
  unfold clp
  by_cases q : z.natAbs < 1073741824
  · rw [if_pos q]
    omega
  · rw [if_neg q]
    split <;> omega
theorem ofInt_le {a b : Int} (h : -2147483648 ≤ a ∧ a < 2147483648 ∧ -2147483648 ≤ b ∧ b < 2147483648) : Int32.ofInt a ≤ Int32.ofInt b ↔ a ≤ b := by
  rw [Int32.le_iff_toInt_le, Int32.toInt_ofInt_of_le (by omega) (by omega), Int32.toInt_ofInt_of_le (by omega) (by omega)]
theorem ofInt_lt {a b : Int} (h : -2147483648 ≤ a ∧ a < 2147483648 ∧ -2147483648 ≤ b ∧ b < 2147483648) : Int32.ofInt a < Int32.ofInt b ↔ a < b := by
  rw [Int32.lt_iff_toInt_lt, Int32.toInt_ofInt_of_le (by omega) (by omega), Int32.toInt_ofInt_of_le (by omega) (by omega)]
section MZ
variable {I : Nat → Nat → Int32} {J : Nat → Nat → Int64} {R : Nat → Nat → Option Nat}
theorem M_power {t a b da db : Nat} {za zb : Int} (hR : RA R) (ht : t < 3600) (ha : a < 3600) (hb : b < 3600) (A : Vv (I 4564) a za da) (B : Vv (I 4564) b zb db) : QK (f_X12_power (mg 4625 I J R) 4561 (Int32.ofNat (t)) (Int32.ofNat (a)) (Int32.ofNat (b))) (Vop I J R t (fun x => x = t ∨ x = 3600 ∨ x = 3601) (q2 5 (za, da) (zb, db))) := by
  have q5 : q2 5 (za, da) (zb, db) = if db ≠ 1 then .inl 2 else if za = 0 ∧ zb < 0 then .inl 1 else if zb < -64 ∨ 64 < zb then .inl 3 else qpow (za, da) zb := rfl
  unfold f_X12_power
  rw [q5, if_pos ok_4561, M_isWhole hR (by omega) B, Option.bind_some]
  by_cases h2 : db = 1
  · rw [if_pos h2, if_neg (show ¬ (1 : Int32) = 0 by decide), if_pos ok_4561, if_neg (show ¬ db ≠ 1 by omega)]
    refine q_bind (M_small hR (by omega) B) ?_
    rintro r ⟨I1, rfl, hr1, hv1⟩
    have A1 : Vv (I1 4564) a za da := by rw [hv1]; exact A
    obtain ⟨c1, c2, c3, c4, -⟩ := sml_cmp (z := zb) (k := 0) (by omega)
    obtain ⟨c5, -, -, -, -⟩ := sml_cmp (z := zb) (k := -64) (by omega)
    obtain ⟨-, c6, -, -, c7⟩ := sml_cmp (z := zb) (k := 64) (by omega)
    have ge0 : (0 : Int32) ≤ Int32.ofInt (sml zb) ↔ 0 ≤ zb := by
      rw [show (0 : Int32) = Int32.ofInt 0 from rfl, ofInt_le (by omega)]
      omega
    have j32 : ¬ (za = 0 ∧ zb < 0) → QK (f_X12_power_j32 (mg 4625 I1 J R) 4561 (Int32.ofNat (t)) (Int32.ofNat (a)) (Int32.ofInt (sml zb))) (Vop I J R t (fun x => x = t ∨ x = 3600 ∨ x = 3601) (if zb < -64 ∨ 64 < zb then .inl 3 else qpow (za, da) zb)) := by
      intro hz0
      unfold f_X12_power_j32
      by_cases h4 : zb < -64 ∨ 64 < zb
      · rw [m_in0 (fun q => by
          rw [show (-64 : Int32) = Int32.ofInt (-64) by decide, show (64 : Int32) = Int32.ofInt 64 by decide, ofInt_le (by omega), ofInt_le (by omega)] at q
          omega), Option.bind_some, if_pos rfl, if_pos h4]
        exact q_ok ⟨I1, hr1, Kvs_eq hv1, Or.inr ⟨3, rfl, by decide, by decide, rfl⟩⟩
      · have e := c7 (by omega)
        rw [m_in1 (by
          rw [show (-64 : Int32) = Int32.ofInt (-64) by decide, ofInt_le (by omega)]
          omega) (by
          rw [show (64 : Int32) = Int32.ofInt 64 by decide, ofInt_le (by omega)]
          omega), Option.bind_some, if_neg (show ¬ (1 : Int32) = 0 by decide), if_neg h4]
        have j64 : QK (f_X12_power_j64 (mg 4625 I1 J R) 4561 (Int32.ofNat (t)) (Int32.ofInt (sml zb)) (Int32.ofNat (zb.natAbs)) (Int32.ofNat (a)) 3600 4561) (Vop I J R t (fun x => x = t ∨ x = 3600 ∨ x = 3601) (qpow (za, da) zb)) := by
          unfold f_X12_power_j64
          rw [if_pos ok_4561]
          refine q_bind (M_raise (I := I1) (t := 3600) (n := zb.natAbs) hR (by decide) (by omega) (by omega) (by omega) A1) ?_
          rintro r ⟨I2, hr2, hk2, hc⟩
          have hks : Kvs (fun x => x = t ∨ x = 3600 ∨ x = 3601) (I 4564) (I2 4564) := Kvs_tr (Kvs_eq hv1) (Kv_s hk2 (Or.inr (Or.inl rfl)))
          -- the end with a value or none
          have j102 : ∀ (I3 : Nat → Nat → Int32) (y : Int32) (z : Int) (d : Nat), R3 I I3 → Kvs (fun x => x = t ∨ x = 3600 ∨ x = 3601) (I 4564) (I3 4564) → y = 1 → Vv (I3 4564) 3600 z d → QK (f_X12_power_j102 (mg 4625 I3 J R) 4561 (Int32.ofNat (t)) y) (Vop I J R t (fun x => x = t ∨ x = 3600 ∨ x = 3601) (.inr (z, d))) := by
            intro I3 y z d hr3 hk3 hy hv
            unfold f_X12_power_j102 f_X12_power_j115 f_X12_power_j125
            rw [hy, if_neg (by decide), if_pos ok_4561]
            refine q_bind (M_copy (I := I3) (a := t) (b := 3600) hR (by omega) (by decide) (by omega) hv) ?_
            rintro r ⟨I4, rfl, hr4, -, -, hk4, hv4⟩
            rw [if_neg (by decide)]
            exact q_ok ⟨I4, R3_tr hr3 hr4, Kvs_tr hk3 (Kv_s hk4 (Or.inl rfl)), Or.inl ⟨z, d, rfl, rfl, hv4⟩⟩
          have j102f : ∀ (I3 : Nat → Nat → Int32), R3 I I3 → Kvs (fun x => x = t ∨ x = 3600 ∨ x = 3601) (I 4564) (I3 4564) → QK (f_X12_power_j102 (mg 4625 I3 J R) 4561 (Int32.ofNat (t)) 0) (Vop I J R t (fun x => x = t ∨ x = 3600 ∨ x = 3601) (.inl 3)) := by
            intro I3 hr3 hk3
            unfold f_X12_power_j102 f_X12_power_j115 f_X12_power_j125
            rw [if_pos rfl, if_pos rfl]
            exact q_ok ⟨I3, hr3, hk3, Or.inr ⟨3, rfl, by decide, by decide, rfl⟩⟩
          unfold qpow
          rcases hc with ⟨rfl, hP, hv2⟩ | ⟨rfl, hP⟩
          · have hP' := hP
            unfold PowOK at hP'
            rw [Int.natAbs_natCast] at hP'
            rw [if_neg (show ¬ (1 : Int32) = 0 by decide), if_pos hP']
            by_cases h5 : 0 ≤ zb
            · rw [if_pos (ge0.mpr h5), if_pos h5]
              exact j102 I2 1 _ _ (R3_tr hr1 hr2) hks rfl hv2
            · rw [if_neg (fun q => h5 (ge0.mp q)), if_neg h5, if_pos ok_4561]
              refine q_bind (M_setInt (I := I2) (i := 3601) (m := 1) hR (by decide) (by decide)) ?_
              rintro r ⟨I3, rfl, hr3, hk3, hv3⟩
              rw [if_pos ok_4561]
              have hza : za ≠ 0 := fun q => hz0 ⟨q, by omega⟩
              have hzp : za ^ zb.natAbs ≠ 0 := Int.pow_ne_zero hza
              refine q_bind (M_div (I := I3) (i := 3600) (a := 3601) (b := 3600) hR (by decide) (by decide) (by decide) hzp hv3 (hv2.keep hk3 (by decide))) ?_
              rintro r ⟨I4, y, rfl, hr4, hs4⟩
              have hk4 : Kvs (fun x => x = t ∨ x = 3600 ∨ x = 3601) (I 4564) (I4 4564) := Kvs_tr (Kvs_tr hks (Kv_s hk3 (Or.inr (Or.inr rfl)))) (Kv_s (Sto_kv hs4) (Or.inr (Or.inl rfl)))
              have cp := cop_pow (n := zb.natAbs) A.2.2.2.2.2.2
              have s1 : (za ^ zb.natAbs).sign.natAbs = 1 := by
                rcases Int.lt_or_lt_of_ne hzp with q | q
                · rw [Int.sign_eq_neg_one_of_neg q]; rfl
                · rw [Int.sign_eq_one_of_pos q]; rfl
              have an : (((1 : Nat) : Int) * ((da ^ zb.natAbs : Nat) : Int) * (za ^ zb.natAbs).sign).natAbs = da ^ zb.natAbs := by
                rw [Int.natAbs_mul, s1, Int.natAbs_mul, Int.natAbs_natCast, Int.natAbs_natCast]
                omega
              obtain ⟨r1, r2, r3⟩ := rz_cop1 (z := ((1 : Nat) : Int) * ((da ^ zb.natAbs : Nat) : Int) * (za ^ zb.natAbs).sign) (D := 1 * (za ^ zb.natAbs).natAbs) (by rw [an, Nat.one_mul, Nat.gcd_comm]; exact cp)
              rcases hs4 with ⟨-, g2, g3, -⟩ | ⟨g1, -⟩
              · rw [r1, r2, Nat.one_mul, show ((1 : Nat) : Int) = 1 from rfl, Int.one_mul, Int.natCast_pow] at g3
                exact j102 I4 y _ _ (R3_tr (R3_tr (R3_tr hr1 hr2) hr3) hr4) hk4 g2 g3
              · exfalso
                refine g1 (r3.mpr ⟨by rw [an]; exact hP'.2, ?_⟩)
                rw [Nat.one_mul, natAbs_pow']
                exact hP'.1
          · have hP' : ¬ (za.natAbs ^ zb.natAbs < 2 ^ 200 ∧ da ^ zb.natAbs < 2 ^ 200) := fun q => hP (by
              unfold PowOK
              rw [Int.natAbs_natCast]
              exact q)
            rw [if_pos rfl, if_neg hP']
            exact j102f I2 (R3_tr hr1 hr2) hks
        by_cases h5 : 0 ≤ zb
        · rw [if_pos (ge0.mpr h5)]
          have e2 : Int32.ofInt (sml zb) = (Int32.ofNat (zb.natAbs)) := by
            rw [e, ← Int32.ofInt_eq_ofNat]
            congr 1
            omega
          rw [e2] at j64 ⊢
          exact j64
        · rw [if_neg (fun q => h5 (ge0.mp q))]
          have e2 : -Int32.ofInt (sml zb) = (Int32.ofNat (zb.natAbs)) := by
            rw [e, ← Int32.ofInt_eq_ofNat, ← Int32.ofInt_neg]
            congr 1
            omega
          rw [e2]
          exact j64
    rw [if_pos ok_4561, M_sign hR (by omega) A1, Option.bind_some]
    by_cases hz : za = 0
    · rw [if_pos (sg_eq0.mpr hz)]
      by_cases h3 : zb < 0
      · rw [if_neg (fun q => absurd (ge0.mp q) (by omega)), if_pos ⟨hz, h3⟩]
        exact q_ok ⟨I1, hr1, Kvs_eq hv1, Or.inr ⟨1, rfl, by decide, by decide, rfl⟩⟩
      · rw [if_pos (ge0.mpr (by omega)), if_neg (fun q => h3 q.2)]
        exact j32 (fun q => h3 q.2)
    · rw [if_neg (fun q => hz (sg_eq0.mp q)), if_neg (fun q => hz q.1)]
      exact j32 (fun q => hz q.1)
  · rw [if_neg h2, if_pos rfl, if_pos h2]
    exact q_ok ⟨I, R3_rfl, Kvs_rfl, Or.inr ⟨2, rfl, by decide, by decide, rfl⟩⟩
theorem M_factorial {a da : Nat} {za : Int} (hR : RA R) (ha : a < 3600) (A : Vv (I 4564) a za da) : QK (f_X12_factorial (mg 4625 I J R) 4561 (Int32.ofNat (a)) (Int32.ofNat (a))) (Vop I J R a (fun x => x = a ∨ x = 3600) (q1 13 (za, da))) := by
  have q13 : q1 13 (za, da) = if da ≠ 1 ∨ za < 0 then .inl 2 else if 30 < za then .inl 3 else .inr ((fct za.toNat : Nat), 1) := rfl
  unfold f_X12_factorial f_X12_factorial_j16
  rw [q13, if_pos ok_4561, M_isWhole hR (by omega) A, Option.bind_some]
  by_cases h1 : da = 1
  · rw [if_pos h1, if_neg (show ¬ (1 : Int32) = 0 by decide), if_pos ok_4561, M_sign hR (by omega) A, Option.bind_some]
    by_cases h2 : za < 0
    · rw [sg_neg h2, if_neg (by decide), if_pos (Or.inr h2)]
      exact q_ok ⟨I, R3_rfl, Kvs_rfl, Or.inr ⟨2, rfl, by decide, by decide, rfl⟩⟩
    · have : (0 : Int32) ≤ Int32.ofInt za.sign := by
        by_cases y : za = 0
        · rw [y]; decide
        · rw [sg_pos (by omega)]; decide
      rw [if_pos this, if_pos ok_4561, if_neg (show ¬ (da ≠ 1 ∨ za < 0) by omega)]
      refine q_bind (M_small hR (by omega) A) ?_
      rintro r ⟨I1, rfl, hr1, hv1⟩
      obtain ⟨-, c6, c3, c4, c7⟩ := sml_cmp (z := za) (k := 30) (by omega)
      by_cases h3 : 30 < za
      · rw [if_neg (show ¬ Int32.ofInt (sml za) ≤ (30 : Int32) from fun q => by
          rw [show (30 : Int32) = Int32.ofInt 30 by decide, ofInt_le (by omega)] at q
          omega), if_pos h3]
        exact q_ok ⟨I1, hr1, Kvs_eq hv1, Or.inr ⟨3, rfl, by decide, by decide, rfl⟩⟩
      · obtain ⟨n, rfl⟩ : ∃ n : Nat, za = n := ⟨za.toNat, by omega⟩
        have e := c7 (by omega)
        have en : Int32.ofInt (sml (n : Int)) = (Int32.ofNat (n)) := by rw [e, Int32.ofInt_eq_ofNat]
        rw [en, if_pos (show (Int32.ofNat (n)) ≤ (30 : Int32) from (i32_le (m := 30) (by omega) (by omega)).mpr (by omega)), if_neg h3, if_pos ok_4561]
        refine q_bind (M_setInt (I := I1) (i := a) (m := 1) hR (by omega) (by decide)) ?_
        rintro r ⟨I2, rfl, hr2, hk2, hv2⟩
        rw [q_let]
        refine q_bind (P := fun r => ∃ I', r = .inr (mg 4625 I' J R) ∧ R3 I I' ∧ Kvs (fun x => x = a ∨ x = 3600) (I 4564) (I' 4564) ∧ Vv (I' 4564) a (fct n : Nat) 1) ?_ ?_
        · refine q_loop (fun m s => ∃ I' k, s = (4561, (Int32.ofNat (a)), (Int32.ofNat (n)), (Int32.ofNat (k + 1)), mg 4625 I' J R) ∧ (k + m = n ∨ n = 0 ∧ k = 1) ∧ 1 ≤ k ∧ R3 I I' ∧ Kvs (fun x => x = a ∨ x = 3600) (I 4564) (I' 4564) ∧ Vv (I' 4564) a (fct k : Nat) 1) ?_ (m := n - 1) ⟨I2, 1, rfl, by omega, by omega, R3_tr hr1 hr2, Kvs_tr (Kvs_eq hv1) (Kv_s hk2 (Or.inl rfl)), hv2⟩ (by unfold xF; omega)
          rintro m s ⟨I', k, rfl, hkm, hk, hr, hks, hv⟩
          unfold f_X12_factorial_s41 xlet
          dsimp only
          by_cases q : n < k + 1
          · rw [if_pos ((i32_lt (by omega) (by omega)).mpr q)]
            refine q_ex ⟨I', rfl, hr, hks, ?_⟩
            rcases (by omega : n = 0 ∧ k = 1 ∨ n = k) with ⟨h1, h2⟩ | h1
            · rw [h1]
              rw [h2] at hv
              exact hv
            · rw [h1]
              exact hv
          · rw [if_neg (fun z => q ((i32_lt (by omega) (by omega)).mp z)), if_pos ok_4561]
            refine q_bind (M_setInt (I := I') (i := 3600) (m := k + 1) hR (by omega) (by omega)) ?_
            rintro r ⟨I3, rfl, hr3, hk3, hv3⟩
            rw [if_pos ok_4561]
            refine q_bind (M_mul (I := I3) (i := a) (a := a) (b := 3600) hR (by omega) (by omega) (by decide) (hv.keep hk3 (by omega)) hv3) ?_
            rintro r ⟨I4, y, rfl, hr4, hs4⟩
            have e5 : ((fct k : Nat) : Int) * ((k + 1 : Nat) : Int) = (fct (k + 1) : Nat) := by
              rw [← Int.natCast_mul]
              congr 1
              exact Nat.mul_comm _ _
            rw [e5, Nat.one_mul] at hs4
            obtain ⟨r1, r2, r3⟩ := rz_cop1 (z := ((fct (k + 1) : Nat) : Int)) (D := 1) (by rw [Nat.gcd_one_right])
            have g3 : Vv (I4 4564) a (fct (k + 1) : Nat) 1 := by
              rcases hs4 with ⟨-, -, g3, -⟩ | ⟨g1, -⟩
              · rw [r1, r2] at g3
                exact g3
              · exact absurd (r3.mpr ⟨by rw [Int.natAbs_natCast]; exact fct_le (k + 1) (by omega), by decide⟩) g1
            rw [show (Int32.ofNat (k + 1)) + 1 = (Int32.ofNat (k + 1 + 1)) from n_add (k + 1) 1]
            exact q_go ⟨m - 1, by omega, I4, k + 1, rfl, by omega, by omega, R3_tr (R3_tr hr hr3) hr4, Kvs_tr (Kvs_tr hks (Kv_s hk3 (Or.inr rfl))) (Kv_s (Sto_kv hs4) (Or.inl rfl)), g3⟩
        · rintro r ⟨I3, rfl, hr3, hk3, hv3⟩
          simp only [Sum.elim_inr]
          unfold f_X12_factorial_j72
          exact q_ok ⟨I3, hr3, hk3, Or.inl ⟨_, _, rfl, rfl, hv3⟩⟩
  · rw [if_neg h1, if_pos rfl, if_pos (Or.inl h1)]
    exact q_ok ⟨I, R3_rfl, Kvs_rfl, Or.inr ⟨2, rfl, by decide, by decide, rfl⟩⟩
end MZ
