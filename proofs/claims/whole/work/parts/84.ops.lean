/-! what operators give -/
def qfin (z : Int) (D : Nat) : Nat ⊕ (Int × Nat) := if z.natAbs / Nat.gcd z.natAbs D < 2 ^ 200 ∧ D / Nat.gcd z.natAbs D < 2 ^ 200 then .inr (rz z D, rd z D) else .inl 3
def q1 (m : Nat) (a : Int × Nat) : Nat ⊕ (Int × Nat) :=
  if m = 11 then .inr (-a.1, a.2)
  else if m = 13 then (if a.2 ≠ 1 ∨ a.1 < 0 then .inl 2 else if 30 < a.1 then .inl 3 else .inr ((fct a.1.toNat : Nat), 1))
  else .inr (if a.1 = 0 then 1 else 0, 1)
def qpow (a : Int × Nat) (e : Int) : Nat ⊕ (Int × Nat) :=
  if a.1.natAbs ^ e.natAbs < 2 ^ 200 ∧ a.2 ^ e.natAbs < 2 ^ 200 then
    (if 0 ≤ e then .inr (a.1 ^ e.natAbs, a.2 ^ e.natAbs) else .inr ((a.2 : Int) ^ e.natAbs * (a.1 ^ e.natAbs).sign, (a.1 ^ e.natAbs).natAbs))
  else .inl 3
def q2 (m : Nat) (a b : Int × Nat) : Nat ⊕ (Int × Nat) :=
  if m = 0 then qfin (a.1 * b.2 + 1 * b.1 * a.2) (a.2 * b.2)
  else if m = 1 then qfin (a.1 * b.2 + -1 * b.1 * a.2) (a.2 * b.2)
  else if m = 2 then qfin (a.1 * b.1) (a.2 * b.2)
  else if m = 3 then (if b.1 = 0 then .inl 1 else qfin (a.1 * b.2 * b.1.sign) (a.2 * b.1.natAbs))
  else if m = 4 then (if a.2 ≠ 1 ∨ b.2 ≠ 1 then .inl 2 else if b.1 = 0 then .inl 1 else .inr (a.1 % b.1, 1))
  else if m = 5 then (if b.2 ≠ 1 then .inl 2 else if a.1 = 0 ∧ b.1 < 0 then .inl 1 else if b.1 < -64 ∨ 64 < b.1 then .inl 3 else qpow a b.1)
  else if m = 6 then .inr (if a.1 * b.2 < b.1 * a.2 then 1 else 0, 1)
  else if m = 7 then .inr (if a.1 * b.2 = b.1 * a.2 then 1 else 0, 1)
  else if m = 8 then .inr (if b.1 * a.2 < a.1 * b.2 then 1 else 0, 1)
  else if m = 9 then .inr (if a.1 = 0 ∨ b.1 = 0 then 0 else 1, 1)
  else .inr (if a.1 = 0 ∧ b.1 = 0 then 0 else 1, 1)
theorem qfin_r {z : Int} {D : Nat} (h : Fits z D) : qfin z D = .inr (rz z D, rd z D) := if_pos h
theorem qfin_l {z : Int} {D : Nat} (h : ¬ Fits z D) : qfin z D = .inl 3 := if_neg h
/-- what a call with a result in place i of the values gives -/
def Vop (I : Nat → Nat → Int32) (J : Nat → Nat → Int64) (R : Nat → Nat → Option Nat) (i : Nat) (S : Nat → Prop) (q : Nat ⊕ (Int × Nat)) (r : Int32 × xM) : Prop :=
  ∃ I', R3 I I' ∧ Kvs S (I 4564) (I' 4564) ∧ ((∃ z d, q = .inr (z, d) ∧ r = (0, mg 4625 I' J R) ∧ Vv (I' 4564) i z d) ∨ ∃ f, q = .inl f ∧ 0 < f ∧ f ≤ 10 ∧ r = ((Int32.ofNat (f)), mg 4625 I' J R))
section MY
variable {I : Nat → Nat → Int32} {J : Nat → Nat → Int64} {R : Nat → Nat → Option Nat}
theorem M_remainder {t a b da db : Nat} {za zb : Int} (hR : RA R) (ht : t < 3700) (ha : a < 3700) (hb : b < 3700) (A : Vv (I 4564) a za da) (B : Vv (I 4564) b zb db) : QK (f_X12_remainder (mg 4625 I J R) 4561 (Int32.ofNat (t)) (Int32.ofNat (a)) (Int32.ofNat (b))) (Vop I J R t (fun x => x = t) (q2 4 (za, da) (zb, db))) := by
  have q4 : q2 4 (za, da) (zb, db) = if da ≠ 1 ∨ db ≠ 1 then .inl 2 else if zb = 0 then .inl 1 else .inr (za % zb, 1) := rfl
  unfold f_X12_remainder f_X12_remainder_j16
  rw [q4, if_pos ok_4561, M_isWhole hR ha A, Option.bind_some]
  by_cases h1 : da = 1
  · rw [if_pos h1, if_neg (show ¬ (1 : Int32) = 0 by decide), if_pos ok_4561, M_isWhole hR hb B, Option.bind_some]
    by_cases h2 : db = 1
    · rw [if_pos h2, if_neg (show ¬ (1 : Int32) = 0 by decide), if_pos ok_4561, M_sign hR hb B, Option.bind_some, if_neg (show ¬ (da ≠ 1 ∨ db ≠ 1) by omega)]
      by_cases h3 : zb = 0
      · rw [if_pos (sg_eq0.mpr h3), if_pos h3]
        exact q_ok ⟨I, R3_rfl, Kvs_rfl, Or.inr ⟨1, rfl, by decide, by decide, rfl⟩⟩
      · rw [if_neg (fun q => h3 (sg_eq0.mp q)), if_neg h3, if_pos ok_4561, bM_id]
        obtain ⟨l1, s1, k2, a1, a2, a3, a4⟩ := m_loadN (I := I) (J := J) (l := I 4562) (s := I 4563) (v := I 4564) (r := 2) hR (by decide) ha A
        refine q_eq a1 ?_
        rw [if_pos ok_4561]
        obtain ⟨l2, s2, k4, b1, b2, b3, b4⟩ := m_loadN (I := I) (J := J) (l := l1) (s := s1) (v := I 4564) (r := 4) hR (by decide) hb B
        refine q_eq b1 ?_
        rw [if_pos ok_4561]
        have z0 : 0 < zb.natAbs := by omega
        obtain ⟨l3, s3, kq, km, c1, c2, c3, c4⟩ := m_divide (I := I) (J := J) (v := I 4564) (q := 6) (m := 7) hR (by decide) (by decide) (by decide) (by decide) (by decide) (by decide) (by decide) (a2.keep b4 (by decide)) b2 z0 (Bp_26 b2 (by omega))
        refine q_eq c1 ?_
        rw [if_pos ok_4561, m_signV hR ha A, Option.bind_some]
        have K3 : Kl (I 4562) (I 4563) l3 s3 AR := ((a4.kl (by decide)).trans (b4.kl (by decide))).trans (c4.mono (by decide))
        have hml : za.natAbs % zb.natAbs < zb.natAbs := Nat.mod_lt _ z0
        have em := emod_abs (a := za) h3
        have j91 : ∀ (l s : Nat → Int32) (k n : Nat), Kl (I 4562) (I 4563) l s AR → Rg l s 0 k n → (n : Int) = za % zb → n < 2 ^ 200 → QK (f_X12_remainder_j91 (bM I l s (I 4564) J R) 4561 (Int32.ofNat (t))) (Vop I J R t (fun x => x = t) (.inr (za % zb, 1))) := by
          intro l s k n hK hn en hl
          unfold f_X12_remainder_j91
          rw [if_pos ok_4561]
          obtain ⟨l4, s4, k1, d1, d2, d3, d4⟩ := m_putR (I := I) (J := J) (l := l) (s := s) (v := I 4564) (r := 1) (x := 1) hR (by decide) (by decide)
          refine q_eq d1 ?_
          rw [if_pos ok_4561]
          obtain ⟨l5, s5, v', y, e1, e2, e3, e4⟩ := m_storeV (I := I) (J := J) (v := I 4564) (i := t) (sg := 1) (z := (n : Int)) hR ht (by rw [Int.natAbs_natCast]; exact hn.keep d4 (by decide)) d2 (by decide) (Bp_26 d2 (by omega)) (by
            by_cases w : n = 0
            · exact Or.inl (by omega)
            · exact Or.inr (sg_pos (by omega)).symm)
          refine q_eq e1 (q_ok ⟨_, R3_u3 ((hK.trans (d4.kl (by decide))).trans (e2.mono AR_S)), ?_, Or.inl ⟨_, _, rfl, rfl, ?_⟩⟩)
          · rw [u3_4564]
            exact Kv_s (Sto_kv e3) rfl
          · rw [u3_4564]
            obtain ⟨r1, r2, r3⟩ := rz_cop1 (z := (n : Int)) (D := 1) (by rw [Nat.gcd_one_right])
            rcases e3 with ⟨-, -, e3, -⟩ | ⟨e3, -⟩
            · rw [r1, r2, en] at e3
              exact e3
            · exact absurd (r3.mpr ⟨by rw [Int.natAbs_natCast]; exact hl, by decide⟩) e3
        have hzl := B.2.2.2.1
        have j84 : za % zb = ((za.natAbs % zb.natAbs : Nat) : Int) → QK (f_X12_remainder_j84 (bM I l3 s3 (I 4564) J R) 4561 (Int32.ofNat (t))) (Vop I J R t (fun x => x = t) (.inr (za % zb, 1))) := by
          intro e
          unfold f_X12_remainder_j84
          rw [if_pos ok_4561]
          obtain ⟨l4, s4, d1, d2, d3⟩ := m_copyR (I := I) (J := J) (v := I 4564) (r := 0) (t := 7) hR (by decide) (by decide) (by decide) c3
          refine q_eq d1 ?_
          exact j91 _ _ _ _ (K3.trans (d3.kl (by decide))) d2 e.symm (by omega)
        by_cases q : za < 0
        · rw [sg_neg q, if_neg (by decide)]
          refine q_eq (m_g2 (by decide) hR) ?_
          refine q_eq (m_as (k := 7) (by decide) (by decide)) ?_
          rw [c3.1]
          have kz := Rg_zero c3
          have kl := c3.2.1
          by_cases w : km ≤ 0
          · rw [if_pos (show (Int32.ofNat (km)) ≤ 0 from (i32_le (m := 0) (by omega) (by omega)).mpr w)]
            refine j84 ?_
            rw [em, if_neg (by have := kz.mp (by omega); omega)]
          · rw [if_neg (show ¬ (Int32.ofNat (km)) ≤ 0 from fun y => w ((i32_le (m := 0) (by omega) (by omega)).mp y)), if_pos ok_4561]
            obtain ⟨l4, s4, d1, d2, d3⟩ := m_copyR (I := I) (J := J) (v := I 4564) (r := 0) (t := 4) hR (by decide) (by decide) (by decide) (b2.kl c4 (by decide))
            refine q_eq d1 ?_
            rw [if_pos ok_4561]
            obtain ⟨l5, s5, k5, f1, f2, f3⟩ := m_minus (I := I) (J := J) (v := I 4564) (r := 0) (t := 7) hR (by decide) (by decide) (by decide) d2 (c3.keep d3 (by decide)) (by omega)
            refine q_eq f1 ?_
            refine j91 _ _ _ _ ((K3.trans (d3.kl (by decide))).trans (f3.kl (by decide))) f2 ?_ (by omega)
            have := fun e => w (by have := kz.mpr e; omega)
            rw [em, if_pos ⟨q, this⟩]
            omega
        · have : (0 : Int32) ≤ Int32.ofInt za.sign := by
            by_cases y : za = 0
            · rw [y]; decide
            · rw [sg_pos (by omega)]; decide
          rw [if_pos this]
          refine j84 ?_
          rw [em, if_neg (by omega)]
    · rw [if_neg h2, if_pos rfl, if_pos (show da ≠ 1 ∨ db ≠ 1 by omega)]
      exact q_ok ⟨I, R3_rfl, Kvs_rfl, Or.inr ⟨2, rfl, by decide, by decide, rfl⟩⟩
  · rw [if_neg h1, if_pos rfl, if_pos (show da ≠ 1 ∨ db ≠ 1 by omega)]
    exact q_ok ⟨I, R3_rfl, Kvs_rfl, Or.inr ⟨2, rfl, by decide, by decide, rfl⟩⟩
theorem cop_pow {z : Int} {d n : Nat} (h : Nat.gcd z.natAbs d = 1) : Nat.gcd (z ^ n).natAbs (d ^ n) = 1 := by
  rw [natAbs_pow']
  exact Nat.Coprime.pow n n h
/-- powers, one after the other -/
theorem M_raise {t a d n : Nat} {z : Int} (hR : RA R) (ht : t < 3700) (ha : a < 3700) (hta : t ≠ a) (hn : n < 1000) (A : Vv (I 4564) a z d) : QK (f_X12_raise (mg 4625 I J R) 4561 (Int32.ofNat (t)) (Int32.ofNat (a)) (Int32.ofNat (n))) (fun r => ∃ I', R3 I I' ∧ Kv (I 4564) (I' 4564) t ∧ ((r = (1, mg 4625 I' J R) ∧ PowOK z d n ∧ Vv (I' 4564) t (z ^ n) (d ^ n)) ∨ (r = (0, mg 4625 I' J R) ∧ ¬ PowOK z d n))) := by
  unfold f_X12_raise
  rw [if_pos ok_4561]
  refine q_bind (M_setInt (m := 1) hR ht (by decide)) ?_
  rintro r ⟨I1, rfl, g1, g2, g3⟩
  rw [q_let, q_let]
  have hcop := A.2.2.2.2.2.2
  refine q_bind (P := fun r => ∃ I', R3 I I' ∧ Kv (I 4564) (I' 4564) t ∧ ((r = .inr (1, mg 4625 I' J R) ∧ PowOK z d n ∧ Vv (I' 4564) t (z ^ n) (d ^ n)) ∨ (r = .inr (0, mg 4625 I' J R) ∧ ¬ PowOK z d n))) ?_ ?_
  · refine q_loop (fun m s => ∃ I' i, ∃ b : Bool, s = (4561, (Int32.ofNat (t)), (Int32.ofNat (a)), (Int32.ofNat (n)), (if b = true then 1 else 0 : Int32), (Int32.ofNat (i)), mg 4625 I' J R) ∧ i + m = n + 1 ∧ i ≤ n ∧ R3 I I' ∧ Kv (I 4564) (I' 4564) t ∧ ((b = true ∧ PowOK z d i ∧ Vv (I' 4564) t (z ^ i) (d ^ i)) ∨ (b = false ∧ ¬ PowOK z d n))) ?_ (m := n + 1) ⟨I1, 0, true, rfl, by omega, by omega, g1, g2, Or.inl ⟨rfl, ⟨by rw [Nat.pow_zero]; decide, by rw [Nat.pow_zero]; decide⟩, by rw [Int.pow_zero, Nat.pow_zero]; exact g3⟩⟩ (by unfold xF; omega)
    rintro m s ⟨I', i, b, rfl, hi, hin, hr, hk, hb⟩
    unfold f_X12_raise_s12 xlet
    dsimp only
    by_cases q : n ≤ i
    · rw [if_pos ((i32_le (by omega) (by omega)).mpr q)]
      obtain rfl : i = n := by omega
      refine q_ex ⟨I', hr, hk, ?_⟩
      rcases hb with ⟨rfl, h1, h2⟩ | ⟨rfl, h1⟩
      · exact Or.inl ⟨rfl, h1, h2⟩
      · exact Or.inr ⟨rfl, h1⟩
    · rw [if_neg (fun y => q ((i32_le (by omega) (by omega)).mp y))]
      rcases hb with ⟨rfl, h1, h2⟩ | ⟨rfl, h1⟩
      · rw [if_pos rfl, if_neg (by decide), if_pos ok_4561]
        refine q_bind (M_mul (I := I') (i := t) hR ht ht ha h2 (A.keep hk (Ne.symm hta))) ?_
        rintro r ⟨I2, y, rfl, hr2, hs2⟩
        have cp := cop_pow (n := i + 1) hcop
        have e1 : z ^ i * z = z ^ (i + 1) := (Int.pow_succ z i).symm
        have e2 : d ^ i * d = d ^ (i + 1) := (Nat.pow_succ d i).symm
        rw [e1, e2] at hs2
        obtain ⟨r1, r2, r3⟩ := rz_cop1 cp
        have K2 : Kv (I 4564) (I2 4564) t := fun x hx => (Sto_kv hs2 x hx).trans (hk x hx)
        rw [show (Int32.ofNat (i)) + 1 = (Int32.ofNat (i + 1)) from n_add i 1]
        rcases hs2 with ⟨f1, rfl, f3, -⟩ | ⟨f1, rfl, f3⟩
        · rw [r1, r2] at f3
          have := r3.mp f1
          rw [natAbs_pow'] at this
          refine q_go ⟨m - 1, by omega, I2, i + 1, true, rfl, by omega, by omega, R3_tr hr hr2, K2, Or.inl ⟨rfl, ⟨this.1, ?_⟩, f3⟩⟩
          rw [Int.natAbs_natCast]
          exact this.2
        · refine q_go ⟨m - 1, by omega, I2, i + 1, false, rfl, by omega, by omega, R3_tr hr hr2, K2, Or.inr ⟨rfl, fun w => f1 (r3.mpr ?_)⟩⟩
          rw [natAbs_pow']
          have w2 := w.2
          rw [Int.natAbs_natCast] at w2
          exact ⟨Decidable.byContradiction (fun y => pow_big y (by omega) w.1), Decidable.byContradiction (fun y => pow_big y (by omega) w2)⟩
      · rw [if_pos (by decide)]
        exact q_ex ⟨I', hr, hk, Or.inr ⟨rfl, h1⟩⟩
  · rintro r ⟨I', hr, hk, ⟨rfl, h1, h2⟩ | ⟨rfl, h1⟩⟩
    · exact q_ok ⟨I', hr, hk, Or.inl ⟨rfl, h1, h2⟩⟩
    · exact q_ok ⟨I', hr, hk, Or.inr ⟨rfl, h1⟩⟩
end MY
