/-! the reference's values: sums, products, quotients -/
def Fits (z : Int) (D : Nat) : Prop := z.natAbs / Nat.gcd z.natAbs D < 2 ^ 200 ∧ D / Nat.gcd z.natAbs D < 2 ^ 200
def rz (z : Int) (D : Nat) : Int := z.sign * (z.natAbs / Nat.gcd z.natAbs D : Nat)
def rd (z : Int) (D : Nat) : Nat := D / Nat.gcd z.natAbs D
theorem rz_abs (z : Int) (D : Nat) : (rz z D).natAbs = z.natAbs / Nat.gcd z.natAbs D := by
  unfold rz
  rw [Int.natAbs_mul, Int.natAbs_natCast]
  rcases Int.lt_trichotomy z 0 with q | q | q
  · rw [Int.sign_eq_neg_one_of_neg q]
    exact Nat.one_mul _
  · rw [q]
    simp
  · rw [Int.sign_eq_one_of_pos q]
    exact Nat.one_mul _
theorem rz_sign {z : Int} {D : Nat} (hD : 0 < D) : (rz z D).sign = z.sign := by
  rcases Int.lt_trichotomy z 0 with q | q | q
  · have hp : 0 < z.natAbs := by omega
    have h1 : 0 < z.natAbs / Nat.gcd z.natAbs D := Nat.div_pos (Nat.le_of_dvd hp (Nat.gcd_dvd_left _ _)) (Nat.gcd_pos_of_pos_right _ hD)
    unfold rz
    rw [Int.sign_eq_neg_one_of_neg q]
    generalize z.natAbs / Nat.gcd z.natAbs D = n at h1
    exact Int.sign_eq_neg_one_of_neg (by omega)
  · rw [q]
    unfold rz
    simp
  · have hp : 0 < z.natAbs := by omega
    have h1 : 0 < z.natAbs / Nat.gcd z.natAbs D := Nat.div_pos (Nat.le_of_dvd hp (Nat.gcd_dvd_left _ _)) (Nat.gcd_pos_of_pos_right _ hD)
    unfold rz
    rw [Int.sign_eq_one_of_pos q]
    generalize z.natAbs / Nat.gcd z.natAbs D = n at h1
    exact Int.sign_eq_one_of_pos (by omega)
theorem rd_pos {z : Int} {D : Nat} (hD : 0 < D) : 0 < rd z D := Nat.div_pos (Nat.le_of_dvd hD (Nat.gcd_dvd_right _ _)) (Nat.gcd_pos_of_pos_right _ hD)
theorem rz_cop {z : Int} {D : Nat} (hD : 0 < D) : Nat.gcd (rz z D).natAbs (rd z D) = 1 := by
  rw [rz_abs]
  exact Nat.gcd_div_gcd_div_gcd_of_pos_right hD
def AR : List Nat := [0, 1, 2, 3, 4, 5, 6, 7, 11, 12, 13, 14, 15]
section GK
variable {I : Nat → Nat → Int32} {J : Nat → Nat → Int64} {R : Nat → Nat → Option Nat} {l s v : Nat → Int32}
end GK
