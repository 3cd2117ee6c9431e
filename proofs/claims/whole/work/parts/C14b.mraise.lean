/-! polynomials: the reference raises, all of it -/
section MRZ2
variable {I : Nat → Nat → Int32} {J : Nat → Nat → Int64} {R : Nat → Nat → Option Nat} {β : Type} {r i : Nat} {p : Po} {Q W : Nat → Int}
theorem M_raiseRow {e : Nat} (hR : RA R) (hr : r < 90) (hP : MRow I r p) (kp : PoK p) (he8 : e ≤ 8) : QK (f_X12_raisePolynomial (mg 4625 I J R) 4561 (Int32.ofNat (r)) (Int32.ofNat (e))) (fun y => ∃ I', FrS (fun x => (4562 ≤ x ∧ x ≤ 4564) ∨ (4613 ≤ x ∧ x ≤ 4615)) I I' ∧ Kvs (fun x => 2700 + 9 * r ≤ x ∧ x < 2709 + 9 * r) (I 4564) (I' 4564) ∧ (((dgP p * e ≤ 8 ∧ FitA (powP p e)) ∧ y = (1, mg 4625 I' J R) ∧ MRow I' r (powP p e)) ∨ (¬ (dgP p * e ≤ 8 ∧ FitA (powP p e)) ∧ y = (0, mg 4625 I' J R)))) := by
  sorry
end MRZ2
