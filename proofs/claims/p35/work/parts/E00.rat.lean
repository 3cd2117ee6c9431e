/-! values as exact fractions -/
def tR (v : GV) : Rat := mkRat v.1 v.2
theorem tR_gv (q : Rat) : tR (gv q) = q := gv_rat q
theorem gv_tR {v : GV} (h : Gd v) : gv (tR v) = v := (Gd_gv h).1
theorem tR_inj {v w : GV} (hv : Gd v) (hw : Gd w) (h : tR v = tR w) : v = w := by rw [← gv_tR hv, ← gv_tR hw, h]
theorem tR_num {v : GV} (h : Gd v) : (tR v).num = v.1 ∧ (tR v).den = v.2 := by
  have e := gv_tR h
  exact ⟨congrArg Prod.fst e, congrArg Prod.snd e⟩
theorem qfin_tR {z : Int} {D : Nat} {v : GV} (hD : 0 < D) (h : qfin z D = .inr v) : tR v = mkRat z D := by
  rw [qfin_qf hD] at h
  unfold qf at h
  split at h
  · cases h
    exact tR_gv _
  · cases h
/-- an operator between two values, without bounds of size -/
def d2 (m : Nat) (x y : Rat) : Option Rat :=
  if m = 0 then some (x + y)
  else if m = 1 then some (x - y)
  else if m = 2 then some (x * y)
  else if m = 3 then (if y = 0 then none else some (x / y))
  else if m = 5 then (if y.den ≠ 1 then none else if x = 0 ∧ y.num < 0 then none else if y.num < -64 ∨ 64 < y.num then none else some (if 0 ≤ y.num then x ^ y.num.natAbs else tR ((x.den : Int) ^ y.num.natAbs * (x.num ^ y.num.natAbs).sign, (x.num ^ y.num.natAbs).natAbs)))
  else match q2 m (gv x) (gv y) with
    | .inl _ => none
    | .inr v => some (tR v)
def d1 (m : Nat) (x : Rat) : Option Rat := match q1 m (gv x) with
  | .inl _ => none
  | .inr v => some (tR v)
theorem tR_div {v w : GV} (hv : Gd v) (hw : Gd w) (h0 : w.1 ≠ 0) : mkRat (v.1 * w.2 * w.1.sign) (v.2 * w.1.natAbs) = tR v / tR w := by
  have w0 : tR w ≠ 0 := fun z => h0 (by
    have := (tR_num hw).1
    rw [z] at this
    exact this.symm)
  have hd : v.2 * w.1.natAbs ≠ 0 := Nat.mul_ne_zero (by have := hv.2.1; omega) (by omega)
  have key : mkRat (v.1 * w.2 * w.1.sign) (v.2 * w.1.natAbs) * tR w = tR v := by
    unfold tR
    rw [Rat.mkRat_mul_mkRat, show v.1 * w.2 * w.1.sign * w.1 = v.1 * ((w.2 * w.1.natAbs : Nat) : Int) by
      rw [Int.mul_assoc, Int.mul_comm w.1.sign, Int.mul_sign_self, Int.natCast_mul, Int.mul_assoc], show v.2 * w.1.natAbs * w.2 = v.2 * (w.2 * w.1.natAbs) by rw [Nat.mul_assoc, Nat.mul_comm w.2]]
    exact Rat.mkRat_mul_right (Nat.mul_ne_zero (by have := hw.2.1; omega) (by omega))
  grind
theorem pow_tR {x : GV} (h : Gd x) (n : Nat) : tR (x.1 ^ n, x.2 ^ n) = tR x ^ n := by
  have e1 : (tR x ^ n).num = x.1 ^ n := by rw [Rat.num_pow, (tR_num h).1]
  have e2 : (tR x ^ n).den = x.2 ^ n := by rw [Rat.den_pow, (tR_num h).2]
  unfold tR at *
  show mkRat (x.1 ^ n) (x.2 ^ n) = _
  rw [← e1, ← e2]
  exact Rat.mkRat_self _
theorem q2_d2 {m : Nat} {v w u : GV} (hv : Gd v) (hw : Gd w) (h : q2 m v w = .inr u) : d2 m (tR v) (tR w) = some (tR u) := by
  have v0 : v.2 ≠ 0 := by have := hv.2.1; omega
  have w0 : w.2 ≠ 0 := by have := hw.2.1; omega
  unfold d2
  by_cases m0 : m = 0
  · rw [if_pos m0]
    unfold q2 at h
    rw [if_pos m0] at h
    rw [qfin_tR (Nat.mul_pos hv.2.1 hw.2.1) h]
    unfold tR
    rw [Rat.mkRat_add_mkRat _ _ v0 w0, Int.one_mul]
  rw [if_neg m0]
  by_cases m1 : m = 1
  · rw [if_pos m1]
    unfold q2 at h
    rw [if_neg m0, if_pos m1] at h
    rw [qfin_tR (Nat.mul_pos hv.2.1 hw.2.1) h]
    unfold tR
    rw [Rat.sub_eq_add_neg, Rat.neg_mkRat, Rat.mkRat_add_mkRat _ _ v0 w0, Int.neg_one_mul]
  rw [if_neg m1]
  by_cases m2 : m = 2
  · rw [if_pos m2]
    unfold q2 at h
    rw [if_neg m0, if_neg m1, if_pos m2] at h
    rw [qfin_tR (Nat.mul_pos hv.2.1 hw.2.1) h]
    unfold tR
    rw [Rat.mkRat_mul_mkRat]
  rw [if_neg m2]
  by_cases m3 : m = 3
  · rw [if_pos m3]
    unfold q2 at h
    rw [if_neg m0, if_neg m1, if_neg m2, if_pos m3] at h
    by_cases z : w.1 = 0
    · rw [if_pos z] at h
      cases h
    · rw [if_neg z] at h
      have w1 : tR w ≠ 0 := fun y => z (by
        have := (tR_num hw).1
        rw [y] at this
        exact this.symm)
      rw [if_neg w1, qfin_tR (Nat.mul_pos hv.2.1 (by omega)) h, tR_div hv hw z]
  rw [if_neg m3]
  by_cases m5 : m = 5
  · rw [if_pos m5]
    unfold q2 at h
    rw [if_neg m0, if_neg m1, if_neg m2, if_neg m3, if_neg (by omega), if_pos m5] at h
    rw [(tR_num hw).1, (tR_num hw).2, (tR_num hv).1, (tR_num hv).2]
    by_cases z1 : w.2 ≠ 1
    · rw [if_pos z1] at h
      cases h
    rw [if_neg z1] at h ⊢
    by_cases z2 : v.1 = 0 ∧ w.1 < 0
    · rw [if_pos z2] at h
      cases h
    rw [if_neg z2] at h
    rw [if_neg (fun y => z2 ⟨by
      have := (tR_num hv).1
      rw [y.1] at this
      exact this.symm, y.2⟩)]
    by_cases z3 : w.1 < -64 ∨ 64 < w.1
    · rw [if_pos z3] at h
      cases h
    rw [if_neg z3] at h ⊢
    unfold qpow at h
    split at h
    · split at h
      · next z4 =>
        cases h
        rw [if_pos z4, pow_tR hv]
      · next z4 =>
        cases h
        rw [if_neg z4]
    · cases h
  · rw [if_neg m5, gv_tR hv, gv_tR hw, h]
theorem q1_d1 {m : Nat} {v u : GV} (hv : Gd v) (h : q1 m v = .inr u) : d1 m (tR v) = some (tR u) := by
  unfold d1
  rw [gv_tR hv, h]
