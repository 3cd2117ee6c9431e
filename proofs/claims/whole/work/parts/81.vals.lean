/-! the reference's values: an interface over the whole memory -/
/-- three rows of the reference are changed at most, the wide registers stay -/
def R3 (I I' : Nat → Nat → Int32) : Prop := FrS (fun x => x = 4562 ∨ x = 4563 ∨ x = 4564) I I' ∧ Kl (I 4562) (I 4563) (I' 4562) (I' 4563) AR
theorem R3_rfl {I : Nat → Nat → Int32} : R3 I I := ⟨FrS_rfl, Kl.rfl⟩
theorem R3_tr {I I' I'' : Nat → Nat → Int32} (h : R3 I I') (h' : R3 I' I'') : R3 I I'' := ⟨FrS_tr h.1 h'.1, h.2.trans h'.2⟩
theorem R3_u3 {I : Nat → Nat → Int32} {l s v : Nat → Int32} (h : Kl (I 4562) (I 4563) l s AR) : R3 I (u3 I l s v) := by
  refine ⟨fun x hx => ?_, ?_⟩
  · unfold u3
    rw [va_up_ne _ _ (by omega), va_up_ne _ _ (by omega), va_up_ne _ _ (by omega)]
  · have e1 : u3 I l s v 4562 = l := by
      unfold u3
      rw [va_up_ne _ _ (by omega), va_up_ne _ _ (by omega), va_up_self]
    have e2 : u3 I l s v 4563 = s := by
      unfold u3
      rw [va_up_ne _ _ (by omega), va_up_self]
    rw [e1, e2]
    exact h
theorem u3_4564 {I : Nat → Nat → Int32} {l s v : Nat → Int32} : u3 I l s v 4564 = v := by
  unfold u3
  rw [va_up_self]
theorem u3_4562 {I : Nat → Nat → Int32} {l s v : Nat → Int32} : u3 I l s v 4562 = l := by
  unfold u3
  rw [va_up_ne _ _ (by omega), va_up_ne _ _ (by omega), va_up_self]
theorem u3_4563 {I : Nat → Nat → Int32} {l s v : Nat → Int32} : u3 I l s v 4563 = s := by
  unfold u3
  rw [va_up_ne _ _ (by omega), va_up_self]
theorem bM_id {I : Nat → Nat → Int32} {J : Nat → Nat → Int64} {R : Nat → Nat → Option Nat} : mg 4625 I J R = bM I (I 4562) (I 4563) (I 4564) J R := by
  unfold bM
  rw [u3_id]
theorem u3_u3 {I : Nat → Nat → Int32} {l s v l' s' v' : Nat → Int32} : u3 (u3 I l s v) l' s' v' = u3 I l' s' v' := by
  funext x
  by_cases h1 : x = 4562
  · rw [h1, u3_4562, u3_4562]
  · by_cases h2 : x = 4563
    · rw [h2, u3_4563, u3_4563]
    · by_cases h3 : x = 4564
      · rw [h3, u3_4564, u3_4564]
      · unfold u3
        rw [va_up_ne _ _ h3, va_up_ne _ _ h2, va_up_ne _ _ h1, va_up_ne _ _ h3, va_up_ne _ _ h2, va_up_ne _ _ h1, va_up_ne _ _ h3, va_up_ne _ _ h2, va_up_ne _ _ h1]
/-- a sign of a comparison -/
def SgT (y : Int32) (t : Int) : Prop := (t < 0 ∧ y.toInt < 0) ∨ (t = 0 ∧ y = 0) ∨ (0 < t ∧ 0 < y.toInt)
theorem Vv_0 {v : Nat → Int32} {i d : Nat} {z : Int} (h : Vv v i z d) : v (28 * i) = 0 ↔ z = 0 := by
  rw [h.1]
  exact sg_eq0
theorem Vv_inj {v : Nat → Int32} {i j d e : Nat} {z w : Int} (h : Vv v i z d) (h' : Vv v j w e) : z * e = w * d ↔ z = w ∧ d = e := by
  constructor
  · intro q
    have hz := h.2.2.2.2.2.2
    have hw := h'.2.2.2.2.2.2
    have q2 : z.natAbs * e = w.natAbs * d := by
      have := congrArg Int.natAbs q
      rw [Int.natAbs_mul, Int.natAbs_mul, Int.natAbs_natCast, Int.natAbs_natCast] at this
      exact this
    have d1 : d ∣ e := (Nat.Coprime.dvd_of_dvd_mul_left (Nat.Coprime.symm hz) ⟨w.natAbs, by rw [q2, Nat.mul_comm]⟩)
    have d2 : e ∣ d := (Nat.Coprime.dvd_of_dvd_mul_left (Nat.Coprime.symm hw) ⟨z.natAbs, by rw [← q2, Nat.mul_comm]⟩)
    have de : d = e := Nat.dvd_antisymm d1 d2
    subst de
    exact ⟨Int.eq_of_mul_eq_mul_right (by have := h.2.2.2.2.1; omega) q, rfl⟩
  · rintro ⟨rfl, rfl⟩
    rfl
section MV
variable {I : Nat → Nat → Int32} {J : Nat → Nat → Int64} {R : Nat → Nat → Option Nat}
theorem M_add {i a b da db : Nat} {za zb e : Int} (hR : RA R) (hi : i < 3700) (ha : a < 3700) (hb : b < 3700) (he : e = 1 ∨ e = -1) (A : Vv (I 4564) a za da) (B : Vv (I 4564) b zb db) : QK (f_X12_addValues (mg 4625 I J R) 4561 (Int32.ofNat (i)) (Int32.ofNat (a)) (Int32.ofNat (b)) (Int32.ofInt e)) (fun r => ∃ I' y, r = (y, mg 4625 I' J R) ∧ R3 I I' ∧ Sto (I 4564) (I' 4564) i (za * db + e * zb * da) (da * db) y) := by
  obtain ⟨l', s', v', y, h1, h2, h3⟩ := m_addV (I := I) (J := J) (l := I 4562) (s := I 4563) hR hi ha hb he A B
  rw [bM_id]
  exact ⟨_, h1, _, y, rfl, R3_u3 h2, by rw [u3_4564]; exact h3⟩
theorem M_mul {i a b da db : Nat} {za zb : Int} (hR : RA R) (hi : i < 3700) (ha : a < 3700) (hb : b < 3700) (A : Vv (I 4564) a za da) (B : Vv (I 4564) b zb db) : QK (f_X12_multiplyValues (mg 4625 I J R) 4561 (Int32.ofNat (i)) (Int32.ofNat (a)) (Int32.ofNat (b))) (fun r => ∃ I' y, r = (y, mg 4625 I' J R) ∧ R3 I I' ∧ Sto (I 4564) (I' 4564) i (za * zb) (da * db) y) := by
  obtain ⟨l', s', v', y, h1, h2, h3⟩ := m_mulV (I := I) (J := J) (l := I 4562) (s := I 4563) (i := i) hR hi ha hb A B
  rw [bM_id]
  exact ⟨_, h1, _, y, rfl, R3_u3 h2, by rw [u3_4564]; exact h3⟩
theorem M_div {i a b da db : Nat} {za zb : Int} (hR : RA R) (hi : i < 3700) (ha : a < 3700) (hb : b < 3700) (h0 : zb ≠ 0) (A : Vv (I 4564) a za da) (B : Vv (I 4564) b zb db) : QK (f_X12_divideValues (mg 4625 I J R) 4561 (Int32.ofNat (i)) (Int32.ofNat (a)) (Int32.ofNat (b))) (fun r => ∃ I' y, r = (y, mg 4625 I' J R) ∧ R3 I I' ∧ Sto (I 4564) (I' 4564) i (za * db * zb.sign) (da * zb.natAbs) y) := by
  obtain ⟨l', s', v', y, h1, h2, h3⟩ := m_divV (I := I) (J := J) (l := I 4562) (s := I 4563) (i := i) hR hi ha hb h0 A B
  rw [bM_id]
  exact ⟨_, h1, _, y, rfl, R3_u3 h2, by rw [u3_4564]; exact h3⟩
theorem M_sign {a d : Nat} {z : Int} (hR : RA R) (ha : a < 3700) (A : Vv (I 4564) a z d) : f_X12_sign (mg 4625 I J R) 4561 (Int32.ofNat (a)) = some (Int32.ofInt z.sign) := by
  rw [bM_id]
  exact m_signV hR ha A
theorem M_copyRaw {a b : Nat} (hR : RA R) (ha : a < 3700) (hb : b < 3700) (hab : a ≠ b) : QK (f_X12_copyValue (mg 4625 I J R) 4561 (Int32.ofNat (a)) (Int32.ofNat (b))) (fun r => ∃ I', r = mg 4625 I' J R ∧ R3 I I' ∧ I' 4562 = I 4562 ∧ I' 4563 = I 4563 ∧ Kv (I 4564) (I' 4564) a ∧ ∀ j, j < 28 → I' 4564 (28 * a + j) = I 4564 (28 * b + j)) := by
  rw [bM_id]
  refine ⟨_, m_copyValue hR (by omega) (by omega) hab, _, rfl, R3_u3 Kl.rfl, u3_4562, u3_4563, ?_, ?_⟩
  · intro x hx
    rw [u3_4564]
    unfold cvv
    rw [if_neg (by omega)]
  · intro j hj
    rw [u3_4564]
    unfold cvv
    rw [if_pos (by omega)]
    congr 1
    omega
theorem Vv_copy {v v' : Nat → Int32} {a b d : Nat} {z : Int} (h : Vv v b z d) (e : ∀ j, j < 28 → v' (28 * a + j) = v (28 * b + j)) : Vv v' a z d := by
  obtain ⟨h1, h2, h3, h4⟩ := h
  refine ⟨?_, fun j hj => ?_, fun j hj => ?_, h4⟩
  · have := e 0 (by omega)
    rw [Nat.add_zero, Nat.add_zero] at this
    rw [this]
    exact h1
  · rw [Nat.add_assoc, e (1 + j) (by omega), ← Nat.add_assoc]
    exact h2 j hj
  · rw [Nat.add_assoc, e (14 + j) (by omega), ← Nat.add_assoc]
    exact h3 j hj
theorem M_copy {a b d : Nat} {z : Int} (hR : RA R) (ha : a < 3700) (hb : b < 3700) (hab : a ≠ b) (B : Vv (I 4564) b z d) : QK (f_X12_copyValue (mg 4625 I J R) 4561 (Int32.ofNat (a)) (Int32.ofNat (b))) (fun r => ∃ I', r = mg 4625 I' J R ∧ R3 I I' ∧ I' 4562 = I 4562 ∧ I' 4563 = I 4563 ∧ Kv (I 4564) (I' 4564) a ∧ Vv (I' 4564) a z d) := by
  refine q_mono (M_copyRaw hR ha hb hab) ?_
  rintro r ⟨I', rfl, h1, h2, h3, h4, h5⟩
  exact ⟨I', rfl, h1, h2, h3, h4, Vv_copy B h5⟩
end MV
