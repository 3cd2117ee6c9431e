/-! THE REFERENCE'S FIRST STEPS: registers of limbs, sizes and values -/
/-- the refs are those that the constructors made -/
def kb (x : Nat) : Nat := if (KK x).1 = 2 then 2 else if (KK x).1 = 10 then 1 else if (KK x).1 = 9 then 7 else if (KK x).1 < 13 then 90 else if (KK x).1 = 16 then (KK x).2 else if (KK x).1 = 17 then (KK x).2 else if (KK x).1 = 18 then (KK x).2 else 0
def RA (R : Nat → Nat → Option Nat) : Prop := ∀ x, x < 4561 → ∀ k, k < kb x → RR x k = none ∨ R x k = RR x k
theorem RA.get {R : Nat → Nat → Option Nat} (h : RA R) {x k y : Nat} (hx : x < 4561) (hk : k < kb x) (e : RR x k = some y) : R x k = some y := by
  rcases h x hx k hk with q | q
  · rw [e] at q
    cases q
  · rw [q, e]
def u3 (I : Nat → Nat → Int32) (l s v : Nat → Int32) : Nat → Nat → Int32 := va_up (va_up (va_up I 4562 l) 4563 s) 4564 v
theorem i32_pred (k : Nat) : Int32.ofNat (k + 1) - 1 = Int32.ofNat k := by
  rw [← i32_ofs, Int32.add_sub_cancel]
theorem i32_toInt {k : Nat} (h : k < 2147483648) : (Int32.ofNat k).toInt = k := Int32.toInt_ofNat_of_lt (by simpa using h)
theorem i32_eq {k m : Nat} (h : k < 2147483648) (h' : m < 2147483648) : Int32.ofNat k = Int32.ofNat m ↔ k = m := by
  rw [← Int32.toInt_inj, i32_toInt h, i32_toInt h']
  omega
theorem i32_lt {k m : Nat} (h : k < 2147483648) (h' : m < 2147483648) : Int32.ofNat k < Int32.ofNat m ↔ k < m := by
  rw [Int32.lt_iff_toInt_lt, i32_toInt h, i32_toInt h']
  omega
section EM
variable {n : Nat} {I : Nat → Nat → Int32} {J : Nat → Nat → Int64} {R : Nat → Nat → Option Nat} {l s v : Nat → Int32}
end EM
