/-! the reference's values: put, whole ones, compared -/
def Kvs (S : Nat → Prop) (v v' : Nat → Int32) : Prop := ∀ x, ¬ S (x / 28) → v' x = v x
theorem Kvs_rfl {S : Nat → Prop} {v : Nat → Int32} : Kvs S v v := fun _ _ => rfl
theorem Kvs_tr {S : Nat → Prop} {v v' v'' : Nat → Int32} (h : Kvs S v v') (h' : Kvs S v' v'') : Kvs S v v'' := fun x hx => (h' x hx).trans (h x hx)
theorem Kvs_mono {S T : Nat → Prop} {v v' : Nat → Int32} (h : Kvs S v v') (hs : ∀ x, S x → T x) : Kvs T v v' := fun x hx => h x (fun q => hx (hs _ q))
theorem Kv_s {S : Nat → Prop} {v v' : Nat → Int32} {i : Nat} (h : Kv v v' i) (hi : S i) : Kvs S v v' := fun x hx => h x (fun q => hx (by rw [show x / 28 = i by omega]; exact hi))
theorem Kvs_eq {S : Nat → Prop} {v v' : Nat → Int32} (h : v' = v) : Kvs S v v' := fun x _ => by rw [h]
theorem Vv_ks {S : Nat → Prop} {v v' : Nat → Int32} {k d : Nat} {z : Int} (h : Vv v k z d) (hk : Kvs S v v') (hi : ¬ S k) : Vv v' k z d := by
  obtain ⟨h1, h2, h3, h4⟩ := h
  exact ⟨(hk _ (by rw [show 28 * k / 28 = k by omega]; exact hi)).trans h1, fun j hj => (hk _ (by rw [show (28 * k + 1 + j) / 28 = k by omega]; exact hi)).trans (h2 j hj), fun j hj => (hk _ (by rw [show (28 * k + 14 + j) / 28 = k by omega]; exact hi)).trans (h3 j hj), h4⟩
theorem Sto_kv {v v' : Nat → Int32} {i D : Nat} {z : Int} {b : Int32} (h : Sto v v' i z D b) : Kv v v' i := by
  rcases h with ⟨-, -, -, h⟩ | ⟨-, -, h⟩
  · exact h
  · intro x _
    rw [h]
theorem rz_cop1 {z : Int} {D : Nat} (h : Nat.gcd z.natAbs D = 1) : rz z D = z ∧ rd z D = D ∧ (Fits z D ↔ z.natAbs < 2 ^ 200 ∧ D < 2 ^ 200) := by
  unfold rz rd Fits
  rw [h, Nat.div_one, Nat.div_one]
  exact ⟨Int.sign_mul_natAbs z, rfl, Iff.rfl⟩
theorem Rg_kl {l s l' s' : Nat → Int32} {t k n : Nat} {rs : List Nat} (h : Rg l s t k n) (hk : Kl l s l' s' rs) (hr : t ∉ rs) : Rg l' s' t k n := h.kl hk hr
section MW
variable {I : Nat → Nat → Int32} {J : Nat → Nat → Int64} {R : Nat → Nat → Option Nat}
theorem M_setInt {i m : Nat} (hR : RA R) (hi : i < 3700) (hm : m < 2147483648) : QK (f_X12_setInt (mg 4625 I J R) 4561 (Int32.ofNat (i)) (Int32.ofNat (m))) (fun r => ∃ I', r = mg 4625 I' J R ∧ R3 I I' ∧ Kv (I 4564) (I' 4564) i ∧ Vv (I' 4564) i m 1) := by
  have e1 : (28 : Int32) * (Int32.ofNat (i)) = (Int32.ofNat (28 * i)) := n_mul 28 i
  have hp : ¬ ((Int32.ofNat (m)) < 0) := i32_nlt0 hm
  have h0 : (0 : Int32) ≤ (Int32.ofNat (m)) := (i32_le (k := 0) (by omega) hm).mpr (by omega)
  have key : ∀ x : Int32, x = Int32.ofInt (m : Int).sign → QK (f_X12_setInt_j25 (mg 4625 I J R) 4561 (Int32.ofNat (i)) (Int32.ofNat (m)) x (Int32.ofNat (28 * i)) 4564) (fun r => ∃ I', r = mg 4625 I' J R ∧ R3 I I' ∧ Kv (I 4564) (I' 4564) i ∧ Vv (I' 4564) i m 1) := by
    intro x hx
    unfold f_X12_setInt_j25
    rw [bM_id]
    refine q_eq (m_wv (by decide) (by omega)) ?_
    rw [if_pos h0]
    unfold f_X12_setInt_j38
    rw [if_pos ok_4561]
    obtain ⟨l1, s1, k1, a1, a2, a3, a4⟩ := m_putR (I := I) (J := J) (l := I 4562) (s := I 4563) (v := va_up (I 4564) (28 * i) x) (r := 0) (x := m) hR (by decide) hm
    refine q_eq a1 ?_
    rw [if_pos ok_4561]
    obtain ⟨v1, b1, b2, b3⟩ := m_holdR (I := I) (J := J) (v := va_up (I 4564) (28 * i) x) (i := i) (f := 1) hR (by decide) (by omega) a2
    refine q_eq b1 ?_
    rw [if_pos ok_4561]
    obtain ⟨l2, s2, k2, c1, c2, c3, c4⟩ := m_putR (I := I) (J := J) (l := l1) (s := s1) (v := v1) (r := 0) (x := 1) hR (by decide) (by decide)
    refine q_eq c1 ?_
    rw [if_pos ok_4561]
    obtain ⟨v2, d1, d2, d3⟩ := m_holdR (I := I) (J := J) (v := v1) (i := i) (f := 14) hR (by decide) (by omega) c2
    refine q_eq d1 (q_ok ⟨_, rfl, R3_u3 ((a4.kl (by decide)).trans (c4.kl (by decide))), ?_, ?_⟩)
    · intro y hy
      rw [u3_4564, d3 y (by omega), b3 y (by omega), va_up_ne _ _ (by omega)]
    · rw [u3_4564]
      refine ⟨?_, fun j hj => ?_, d2, ?_, by decide, by decide, ?_⟩
      · rw [d3 _ (by omega), b3 _ (by omega), va_up_self, hx]
      · rw [d3 _ (by omega), b2 j hj, Int.natAbs_natCast]
      · rw [Int.natAbs_natCast]
        exact Nat.lt_trans hm (by decide)
      · rw [Nat.gcd_one_right]
  unfold f_X12_setInt
  rw [e1]
  refine q_eq (m_g3 (by decide) hR) ?_
  by_cases h : m = 0
  · rw [if_pos (show (Int32.ofNat (m)) ≤ 0 from (i32_le (m := 0) hm (by omega)).mpr (by omega)), if_pos h0]
    exact key 0 (by rw [h]; rfl)
  · rw [if_neg (show ¬ (Int32.ofNat (m)) ≤ 0 from fun q => h (by have := (i32_le (m := 0) hm (by omega)).mp q; omega))]
    exact key 1 (sg_pos (by omega)).symm
theorem M_cmp {a b da db : Nat} {za zb : Int} (hR : RA R) (ha : a < 3700) (hb : b < 3700) (A : Vv (I 4564) a za da) (B : Vv (I 4564) b zb db) : QK (f_X12_compareValues (mg 4625 I J R) 4561 (Int32.ofNat (a)) (Int32.ofNat (b))) (fun r => ∃ I' y, r = (y, mg 4625 I' J R) ∧ R3 I I' ∧ I' 4564 = I 4564 ∧ SgT y (za * db - zb * da)) := by
  have hda := A.2.2.2.2.1
  have hdb := B.2.2.2.2.1
  unfold f_X12_compareValues f_X12_compareValues_j31
  rw [if_pos ok_4561, M_sign hR ha A, Option.bind_some, if_pos ok_4561, M_sign hR hb B, Option.bind_some]
  by_cases hs : Int32.ofInt za.sign = Int32.ofInt zb.sign
  · rw [if_pos hs, if_pos ok_4561, bM_id]
    obtain ⟨l1, s1, l2, s2, l3, s3, l4, s4, k2, k3, k4, k5, a1, a2, a3, a4, R2, R3', R4, R5, K⟩ := m_load4 (I := I) (J := J) (l := I 4562) (s := I 4563) hR ha hb A B
    refine q_eq a1 ?_
    rw [if_pos ok_4561]
    refine q_eq a2 ?_
    rw [if_pos ok_4561]
    refine q_eq a3 ?_
    rw [if_pos ok_4561]
    refine q_eq a4 ?_
    rw [if_pos ok_4561]
    obtain ⟨l5, s5, k6, b1, b2, b3, b4⟩ := m_times (I := I) (J := J) (v := I 4564) (t := 6) hR (by decide) (by decide) (by decide) (by decide) (by decide) R2.1 R5.1 (by omega)
    refine q_eq b1 ?_
    rw [if_pos ok_4561]
    obtain ⟨l6, s6, k7, c1, c2, c3, c4⟩ := m_times (I := I) (J := J) (v := I 4564) (t := 7) hR (by decide) (by decide) (by decide) (by decide) (by decide) (R4.1.keep b4 (by decide)) (R3'.1.keep b4 (by decide)) (by omega)
    refine q_eq c1 ?_
    have R6 := b2.keep c4 (by decide)
    have KK' : Kl (I 4562) (I 4563) l6 s6 AR := (K.trans (b4.kl (by decide))).trans (c4.kl (by decide))
    rw [if_pos ok_4561]
    refine q_eq (m_signV hR ha A) ?_
    rw [if_pos ok_4561]
    obtain ⟨y, d1, d2⟩ := m_compare (I := I) (J := J) (v := I 4564) hR (by decide) (by decide) R6 c2
    refine q_eq d1 (q_ok ⟨_, _, rfl, R3_u3 KK', u3_4564, ?_⟩)
    have hmul : (za * db).natAbs = za.natAbs * db ∧ (zb * da).natAbs = zb.natAbs * da := ⟨by rw [Int.natAbs_mul, Int.natAbs_natCast], by rw [Int.natAbs_mul, Int.natAbs_natCast]⟩
    have pa : (0 < za → 0 < za * db) ∧ (za < 0 → za * db < 0) ∧ (za = 0 → za * db = 0) := ⟨fun h => Int.mul_pos h (by omega), fun h => Int.mul_neg_of_neg_of_pos h (by omega), fun h => by rw [h, Int.zero_mul]⟩
    have pb : (0 < zb → 0 < zb * da) ∧ (zb < 0 → zb * da < 0) ∧ (zb = 0 → zb * da = 0) := ⟨fun h => Int.mul_pos h (by omega), fun h => Int.mul_neg_of_neg_of_pos h (by omega), fun h => by rw [h, Int.zero_mul]⟩
    rw [← hmul.1, ← hmul.2] at d2
    generalize za * (db : Int) = x1 at *
    generalize zb * (da : Int) = x2 at *
    rcases Int.lt_trichotomy za 0 with h | h | h
    · have hb2 : zb < 0 := by
        rcases Int.lt_trichotomy zb 0 with g | g | g
        · exact g
        · rw [sg_neg h, g] at hs
          exact absurd hs (by decide)
        · rw [sg_neg h, sg_pos g] at hs
          exact absurd hs (by decide)
      have g1 := pa.2.1 h
      have g2 := pb.2.1 hb2
      rw [sg_neg h]
      have hy : ((-1 : Int32) * y).toInt = -(y.toInt) ∨ y.toInt ≤ -2147483648 := by
        by_cases q : y.toInt ≤ -2147483648
        · exact Or.inr q
        · left
          have h1 := Int32.toInt_lt y
          have h2 := Int32.le_toInt y
          rw [Int32.toInt_mul, show (-1 : Int32).toInt = -1 by decide]
          show Int.bmod (-1 * y.toInt) 4294967296 = _
          rw [Int.bmod_def]
          split <;> omega
      rcases d2 with ⟨q1, q2, q3⟩ | ⟨q1, q2⟩ | ⟨q1, q2⟩
      · right; right
        refine ⟨by omega, ?_⟩
        rcases hy with hy | hy <;> omega
      · right; left
        refine ⟨by omega, ?_⟩
        rw [q2]
        rfl
      · left
        refine ⟨by omega, ?_⟩
        rcases hy with hy | hy <;> omega
    · have hb2 : zb = 0 := by
        rw [h] at hs
        exact sg_eq0.mp hs.symm
      have g1 := pa.2.2 h
      have g2 := pb.2.2 hb2
      right; left
      refine ⟨by omega, ?_⟩
      rw [h]
      exact Int32.zero_mul
    · have hb2 : 0 < zb := by
        rcases Int.lt_trichotomy zb 0 with g | g | g
        · rw [sg_pos h, sg_neg g] at hs
          exact absurd hs (by decide)
        · rw [sg_pos h, g] at hs
          exact absurd hs (by decide)
        · exact g
      have g1 := pa.1 h
      have g2 := pb.1 hb2
      rw [sg_pos h, Int32.one_mul]
      rcases d2 with ⟨q1, q2, -⟩ | ⟨q1, q2⟩ | ⟨q1, q2⟩
      · exact Or.inl ⟨by omega, q2⟩
      · exact Or.inr (Or.inl ⟨by omega, q2⟩)
      · exact Or.inr (Or.inr ⟨by omega, q2⟩)
  · rw [if_neg hs]
    simp only [Option.bind_some, ok_4561, ↓reduceIte]
    have pa : (0 < za → 0 < za * db) ∧ (za < 0 → za * db < 0) ∧ (za = 0 → za * db = 0) := ⟨fun h => Int.mul_pos h (by omega), fun h => Int.mul_neg_of_neg_of_pos h (by omega), fun h => by rw [h, Int.zero_mul]⟩
    have pb : (0 < zb → 0 < zb * da) ∧ (zb < 0 → zb * da < 0) ∧ (zb = 0 → zb * da = 0) := ⟨fun h => Int.mul_pos h (by omega), fun h => Int.mul_neg_of_neg_of_pos h (by omega), fun h => by rw [h, Int.zero_mul]⟩
    generalize za * (db : Int) = x1 at *
    generalize zb * (da : Int) = x2 at *
    have t0 : (0 : Int32).toInt = 0 := by decide
    rcases Int.lt_trichotomy za 0 with h | h | h <;> rcases Int.lt_trichotomy zb 0 with g | g | g
    · exact absurd (by rw [sg_neg h, sg_neg g]) hs
    · have g1 := pa.2.1 h
      have g2 := pb.2.2 g
      rw [sg_neg h, g, if_neg (by decide)]
      exact q_ok ⟨I, -1, rfl, R3_rfl, rfl, Or.inl ⟨by omega, by decide⟩⟩
    · have g1 := pa.2.1 h
      have g2 := pb.1 g
      rw [sg_neg h, sg_pos g, if_neg (by decide)]
      exact q_ok ⟨I, -1, rfl, R3_rfl, rfl, Or.inl ⟨by omega, by decide⟩⟩
    · have g1 := pa.2.2 h
      have g2 := pb.2.1 g
      rw [h, sg_neg g, if_pos (by decide)]
      exact q_ok ⟨I, 1, rfl, R3_rfl, rfl, Or.inr (Or.inr ⟨by omega, by decide⟩)⟩
    · exact absurd (by rw [h, g]) hs
    · have g1 := pa.2.2 h
      have g2 := pb.1 g
      rw [h, sg_pos g, if_neg (by decide)]
      exact q_ok ⟨I, -1, rfl, R3_rfl, rfl, Or.inl ⟨by omega, by decide⟩⟩
    · have g1 := pa.1 h
      have g2 := pb.2.1 g
      rw [sg_pos h, sg_neg g, if_pos (by decide)]
      exact q_ok ⟨I, 1, rfl, R3_rfl, rfl, Or.inr (Or.inr ⟨by omega, by decide⟩)⟩
    · have g1 := pa.1 h
      have g2 := pb.2.2 g
      rw [sg_pos h, g, if_pos (by decide)]
      exact q_ok ⟨I, 1, rfl, R3_rfl, rfl, Or.inr (Or.inr ⟨by omega, by decide⟩)⟩
    · exact absurd (by rw [sg_pos h, sg_pos g]) hs
end MW
