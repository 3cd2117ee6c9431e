/-! what operators give -/
def qfin (z : Int) (D : Nat) : Nat ⊕ (Int × Nat) := if z.natAbs / Nat.gcd z.natAbs D < 2 ^ 200 ∧ D / Nat.gcd z.natAbs D < 2 ^ 200 then .inr (rz z D, rd z D) else .inl 3
def q1 (m : Nat) (a : Int × Nat) : Nat ⊕ (Int × Nat) :=
  if m = 11 then .inr (-a.1, a.2)
  else if m = 13 then (if a.2 ≠ 1 ∨ a.1 < 0 then .inl 2 else if 30 < a.1 then .inl 3 else .inr ((fct a.1.toNat : Nat), 1))
  else .inr (if a.1 = 0 then 1 else 0, 1)
def qpow (a : Int × Nat) (e : Int) : Nat ⊕ (Int × Nat) :=
  if a.1.natAbs ^ e.natAbs < 2 ^ 200 ∧ a.2 ^ e.natAbs < 2 ^ 200 then
    (if 0 ≤ e then .inr (a.1 ^ e.natAbs, a.2 ^ e.natAbs) else .inr ((a.2 : Int) ^ e.natAbs * (a.1 ^ e.natAbs).sign, (a.1 ^ e.natAbs).natAbs))
  else .inl 3
def q2 (m : Nat) (a b : Int × Nat) : Nat ⊕ (Int × Nat) :=
  if m = 0 then qfin (a.1 * b.2 + 1 * b.1 * a.2) (a.2 * b.2)
  else if m = 1 then qfin (a.1 * b.2 + -1 * b.1 * a.2) (a.2 * b.2)
  else if m = 2 then qfin (a.1 * b.1) (a.2 * b.2)
  else if m = 3 then (if b.1 = 0 then .inl 1 else qfin (a.1 * b.2 * b.1.sign) (a.2 * b.1.natAbs))
  else if m = 4 then (if a.2 ≠ 1 ∨ b.2 ≠ 1 then .inl 2 else if b.1 = 0 then .inl 1 else .inr (a.1 % b.1, 1))
  else if m = 5 then (if b.2 ≠ 1 then .inl 2 else if a.1 = 0 ∧ b.1 < 0 then .inl 1 else if b.1 < -64 ∨ 64 < b.1 then .inl 3 else qpow a b.1)
  else if m = 6 then .inr (if a.1 * b.2 < b.1 * a.2 then 1 else 0, 1)
  else if m = 7 then .inr (if a.1 * b.2 = b.1 * a.2 then 1 else 0, 1)
  else if m = 8 then .inr (if b.1 * a.2 < a.1 * b.2 then 1 else 0, 1)
  else if m = 9 then .inr (if a.1 = 0 ∨ b.1 = 0 then 0 else 1, 1)
  else .inr (if a.1 = 0 ∧ b.1 = 0 then 0 else 1, 1)
theorem qfin_r {z : Int} {D : Nat} (h : Fits z D) : qfin z D = .inr (rz z D, rd z D) := if_pos h
theorem qfin_l {z : Int} {D : Nat} (h : ¬ Fits z D) : qfin z D = .inl 3 := if_neg h
section MY
variable {I : Nat → Nat → Int32} {J : Nat → Nat → Int64} {R : Nat → Nat → Option Nat}
theorem cop_pow {z : Int} {d n : Nat} (h : Nat.gcd z.natAbs d = 1) : Nat.gcd (z ^ n).natAbs (d ^ n) = 1 := by
  rw [natAbs_pow']
  exact Nat.Coprime.pow n n h
end MY
