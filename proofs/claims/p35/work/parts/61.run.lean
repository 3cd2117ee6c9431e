/-! a call that comes to an end; ints as natural numbers; one simp call runs a method's text -/
def QK {α : Type} (x : Option α) (Q : α → Prop) : Prop := ∃ a, x = some a ∧ Q a
theorem q_ok {α : Type} {a : α} {Q : α → Prop} (h : Q a) : QK (some a) Q := ⟨a, rfl, h⟩
theorem q_bind {α β : Type} {x : Option α} {f : α → Option β} {P : α → Prop} {Q : β → Prop} (h : QK x P) (k : ∀ a, P a → QK (f a) Q) : QK (x.bind f) Q := by
  obtain ⟨a, e, hp⟩ := h
  rw [e]
  exact k a hp
theorem q_mono {α : Type} {x : Option α} {P Q : α → Prop} (h : QK x P) (k : ∀ a, P a → Q a) : QK x Q := by
  obtain ⟨a, e, hp⟩ := h
  exact ⟨a, e, k a hp⟩
def qS {α β γ : Type} (A : α → Prop) (Q : γ ⊕ β → Prop) : γ ⊕ (β ⊕ α) → Prop
  | .inl g => Q (.inl g)
  | .inr (.inl e) => Q (.inr e)
  | .inr (.inr s) => A s
theorem q_go {α β γ : Type} {A : α → Prop} {Q : γ ⊕ β → Prop} {s : α} (h : A s) : QK (some (.inr (.inr s))) (qS A Q) := ⟨_, rfl, h⟩
theorem q_ex {α β γ : Type} {A : α → Prop} {Q : γ ⊕ β → Prop} {e : β} (h : Q (.inr e)) : QK (some (.inr (.inl e))) (qS A Q) := ⟨_, rfl, h⟩
/-- a loop with a measure -/
theorem q_loop {α β γ : Type} {step : α → Option (γ ⊕ (β ⊕ α))} {Q : γ ⊕ β → Prop} (P : Nat → α → Prop) (hs : ∀ m s, P m s → QK (step s) (qS (fun s' => ∃ m', m' < m ∧ P m' s') Q)) {m : Nat} {s : α} (h : P m s) (hm : m < xF) : QK (xloop step xF s) Q := by
  have key : ∀ f m s, P m s → m < f → QK (xloop step f s) Q := by
    intro f
    induction f with
    | zero => intro m s _ q; omega
    | succ f ih =>
      intro m s hp hq
      obtain ⟨r, e, hr⟩ := hs m s hp
      rcases r with g | (e' | s')
      · exact ⟨.inl g, by rw [xl_g (by omega) e], hr⟩
      · exact ⟨.inr e', by rw [xl_e (by omega) e], hr⟩
      · obtain ⟨m', h1, h2⟩ := hr
        obtain ⟨r, e2, hr2⟩ := ih m' s' h2 (by omega)
        refine ⟨r, ?_, hr2⟩
        rw [xl_s (by omega) e]
        exact e2
  exact key xF m s h hm
/-- a loop that counts up to N -/
theorem q_for {α β γ : Type} {step : α → Option (γ ⊕ (β ⊕ α))} {Q : γ ⊕ β → Prop} (N : Nat) (P : Nat → α → Prop) (hs : ∀ i s, i < N → P i s → QK (step s) (qS (P (i + 1)) Q)) (he : ∀ s, P N s → QK (step s) (qS (fun _ => False) Q)) {i : Nat} {s : α} (h : P i s) (hi : i ≤ N) (hN : N < xF) : QK (xloop step xF s) Q := by
  refine q_loop (fun m s => ∃ i, i + m = N ∧ P i s) ?_ (m := N - i) ⟨i, by omega, h⟩ (by omega)
  rintro m s ⟨i, e, hp⟩
  by_cases q : i < N
  · obtain ⟨r, e1, h1⟩ := hs i s q hp
    refine ⟨r, e1, ?_⟩
    rcases r with g | (e' | s')
    · exact h1
    · exact h1
    · exact ⟨m - 1, by omega, i + 1, by omega, h1⟩
  · obtain rfl : i = N := by omega
    obtain ⟨r, e1, h1⟩ := he s hp
    refine ⟨r, e1, ?_⟩
    rcases r with g | (e' | s')
    · exact h1
    · exact h1
    · exact h1.elim
theorem q_let {α β : Type} (x : α) (K : α → β) : xlet x K = K x := rfl
theorem q_xz0 {β : Type} (K : Int32 → Option β) : (xz 0).bind K = K 0 := rfl
theorem q_xz1 {β : Type} (K : Int32 → Option β) : (xz 1).bind K = K 1 := rfl
theorem n_lit (n : Nat) : (OfNat.ofNat n : Int32) = Int32.ofNat (OfNat.ofNat n) := rfl
theorem n_add (a b : Nat) : Int32.ofNat a + Int32.ofNat b = Int32.ofNat (a + b) := (Int32.ofNat_add a b).symm
theorem n_mul (a b : Nat) : Int32.ofNat a * Int32.ofNat b = Int32.ofNat (a * b) := (Int32.ofNat_mul a b).symm
theorem n_sub {a b : Nat} (h : b ≤ a) : Int32.ofNat a - Int32.ofNat b = Int32.ofNat (a - b) := i32_sub_le h
theorem n_leT {a b : Nat} (h : a ≤ b ∧ b < 2147483648) : (Int32.ofNat a ≤ Int32.ofNat b) = True := eq_true ((i32_le (by omega) h.2).mpr h.1)
theorem n_leF {a b : Nat} (h : b < a ∧ a < 2147483648) : (Int32.ofNat a ≤ Int32.ofNat b) = False := eq_false (fun q => absurd ((i32_le h.2 (by omega)).mp q) (by omega))
theorem n_ltT {a b : Nat} (h : a < b ∧ b < 2147483648) : (Int32.ofNat a < Int32.ofNat b) = True := eq_true ((i32_lt (by omega) h.2).mpr h.1)
theorem n_ltF {a b : Nat} (h : b ≤ a ∧ a < 2147483648) : (Int32.ofNat a < Int32.ofNat b) = False := eq_false (fun q => absurd ((i32_lt h.2 (by omega)).mp q) (by omega))
theorem n_eqT {a b : Nat} (h : a = b) : (Int32.ofNat a = Int32.ofNat b) = True := eq_true (by rw [h])
theorem n_eqF {a b : Nat} (h : a ≠ b ∧ a < 2147483648 ∧ b < 2147483648) : (Int32.ofNat a = Int32.ofNat b) = False := eq_false (fun q => h.1 ((i32_eq h.2.1 h.2.2).mp q))
theorem n_in {k len : Nat} (h : k < len ∧ len ≤ 2147483648) : xvi (Int32.ofNat k) len = true := xvi_nat h.1 h.2
theorem n_cl {k : Nat} (h : k < 2147483648) : (Int32.ofNat k).toNatClampNeg = k := i32_nat h
theorem n_dec {a : Nat} (h : 1 ≤ a) : Int32.ofNat a + -Int32.ofNat 1 = Int32.ofNat (a - 1) := by
  rw [← Int32.sub_eq_add_neg]
  exact n_sub h
theorem n_decm (a : Nat) : Int32.ofNat a + -Int32.ofNat 1 = Int32.ofNat a - 1 := (Int32.sub_eq_add_neg _ _).symm
theorem j_lit (n : Nat) : (OfNat.ofNat n : Int64) = Int64.ofNat (OfNat.ofNat n) := rfl
theorem j_toInt {a : Nat} (h : a < 9223372036854775808) : (Int64.ofNat a).toInt = a := Int64.toInt_ofNat_of_lt (by omega)
theorem j_le {a b : Nat} (h : a < 9223372036854775808) (h' : b < 9223372036854775808) : Int64.ofNat a ≤ Int64.ofNat b ↔ a ≤ b := by
  rw [Int64.le_iff_toInt_le, j_toInt h, j_toInt h']
  omega
theorem j_lt {a b : Nat} (h : a < 9223372036854775808) (h' : b < 9223372036854775808) : Int64.ofNat a < Int64.ofNat b ↔ a < b := by
  rw [Int64.lt_iff_toInt_lt, j_toInt h, j_toInt h']
  omega
theorem j_leT {a b : Nat} (h : a ≤ b ∧ b < 9223372036854775808) : (Int64.ofNat a ≤ Int64.ofNat b) = True := eq_true ((j_le (by omega) h.2).mpr h.1)
theorem j_leF {a b : Nat} (h : b < a ∧ a < 9223372036854775808) : (Int64.ofNat a ≤ Int64.ofNat b) = False := eq_false (fun q => absurd ((j_le h.2 (by omega)).mp q) (by omega))
theorem j_ltT {a b : Nat} (h : a < b ∧ b < 9223372036854775808) : (Int64.ofNat a < Int64.ofNat b) = True := eq_true ((j_lt (by omega) h.2).mpr h.1)
theorem j_ltF {a b : Nat} (h : b ≤ a ∧ a < 9223372036854775808) : (Int64.ofNat a < Int64.ofNat b) = False := eq_false (fun q => absurd ((j_lt h.2 (by omega)).mp q) (by omega))
theorem j_eqF {a b : Nat} (h : a ≠ b ∧ a < 9223372036854775808 ∧ b < 9223372036854775808) : (Int64.ofNat a = Int64.ofNat b) = False := eq_false (fun q => by
  have := congrArg Int64.toInt q
  rw [j_toInt h.2.1, j_toInt h.2.2] at this
  omega)
theorem j_and30 (x : Nat) : Int64.ofNat x &&& 1073741823 = Int64.ofNat (x % 1073741824) := by
  apply Int64.toBitVec_inj.mp
  show BitVec.ofNat 64 x &&& BitVec.ofNat 64 1073741823 = BitVec.ofNat 64 (x % 1073741824)
  apply BitVec.eq_of_getLsbD_eq
  intro i hi
  rw [BitVec.getLsbD_and, BitVec.getLsbD_ofNat, BitVec.getLsbD_ofNat, BitVec.getLsbD_ofNat, show (1073741823 : Nat) = 2 ^ 30 - 1 from rfl, show (1073741824 : Nat) = 2 ^ 30 from rfl, Nat.testBit_mod_two_pow, Nat.testBit_two_pow_sub_one]
  simp [hi, Bool.and_comm]
theorem j_32 (x : Nat) : (Int64.ofNat x).toInt32 = Int32.ofNat x := by
  rw [← Int64.ofInt_eq_ofNat, Int64.toInt32_ofInt, Int32.ofInt_eq_ofNat]
theorem j_of32 {x : Nat} (h : x < 2147483648) : (Int32.ofNat x).toInt64 = Int64.ofNat x := i64_nat h
theorem j_sar30 {x : Nat} (h : x < 9223372036854775808) : Int64.ofNat x >>> ((30 : Int32).toInt64 &&& 63) = Int64.ofNat (x / 1073741824) := by
  apply Int64.toBitVec_inj.mp
  rw [Int64.toBitVec_shiftRight]
  show (Int64.ofNat x).toBitVec.sshiftRight (((30 : Int32).toInt64 &&& 63).toBitVec.smod 64).toNat = BitVec.ofNat 64 (x / 1073741824)
  rw [show (((30 : Int32).toInt64 &&& 63).toBitVec.smod 64).toNat = 30 by decide]
  show (BitVec.ofNat 64 x).sshiftRight 30 = _
  have hm : (BitVec.ofNat 64 x).msb = false := by
    rw [BitVec.msb_eq_decide, BitVec.toNat_ofNat]
    exact decide_eq_false (by omega)
  rw [BitVec.sshiftRight_eq_of_msb_false hm]
  apply BitVec.eq_of_toNat_eq
  rw [BitVec.toNat_ushiftRight, BitVec.toNat_ofNat, BitVec.toNat_ofNat, Nat.shiftRight_eq_div_pow]
  omega
theorem sh64 : ∀ s, s < 31 → ((Int32.ofNat s).toInt64 &&& 63).toBitVec.smod 64 = BitVec.ofNat 64 s := by decide +kernel
theorem j_shl {a s : Nat} (hs : s < 31) : Int64.ofNat a <<< ((Int32.ofNat s).toInt64 &&& 63) = Int64.ofNat (2 ^ s * a) := by
  apply Int64.toBitVec_inj.mp
  rw [Int64.toBitVec_shiftLeft, sh64 s hs]
  apply BitVec.eq_of_toNat_eq
  show (BitVec.ofNat 64 a <<< BitVec.ofNat 64 s).toNat = (BitVec.ofNat 64 (2 ^ s * a)).toNat
  rw [BitVec.shiftLeft_eq', BitVec.toNat_shiftLeft, BitVec.toNat_ofNat, BitVec.toNat_ofNat, BitVec.toNat_ofNat, Nat.shiftLeft_eq, Nat.mod_eq_of_lt (show s < 2 ^ 64 by omega), Nat.mod_mul_mod, Nat.mul_comm]
theorem j_or {a b s : Nat} (h : b < 2 ^ s) : Int64.ofNat (2 ^ s * a) ||| Int64.ofNat b = Int64.ofNat (2 ^ s * a + b) := by
  apply Int64.toBitVec_inj.mp
  show BitVec.ofNat 64 (2 ^ s * a) ||| BitVec.ofNat 64 b = BitVec.ofNat 64 (2 ^ s * a + b)
  rw [Nat.two_pow_add_eq_or_of_lt h]
  apply BitVec.eq_of_getLsbD_eq
  intro i hi
  rw [BitVec.getLsbD_or, BitVec.getLsbD_ofNat, BitVec.getLsbD_ofNat, BitVec.getLsbD_ofNat, Nat.testBit_or]
  simp [hi]
/-- a sum of what is shifted and what is below -/
theorem j_shor {a b : Nat} (hb : b < 1073741824) : Int64.ofNat a <<< ((30 : Int32).toInt64 &&& 63) ||| Int64.ofNat b = Int64.ofNat (a * 1073741824 + b) := by
  rw [show ((30 : Int32).toInt64 &&& 63) = ((Int32.ofNat 30).toInt64 &&& 63) from rfl, j_shl (by first | decide | omega), j_or (show b < 2 ^ 30 from hb)]
  congr 1
  omega
theorem j_m63 : ∀ s, s < 64 → Int64.ofNat s &&& Int64.ofNat 63 = Int64.ofNat s := by decide +kernel
theorem n_m31 : ∀ s, s < 32 → Int32.ofNat s &&& Int32.ofNat 31 = Int32.ofNat s := by decide +kernel
theorem jn_and30 (x : Nat) : Int64.ofNat x &&& Int64.ofNat 1073741823 = Int64.ofNat (x % 1073741824) := j_and30 x
theorem jn_sar30 {x : Nat} (h : x < 9223372036854775808) : Int64.ofNat x >>> Int64.ofNat 30 = Int64.ofNat (x / 1073741824) := j_sar30 h
theorem jn_shor {a b : Nat} (hb : b < 1073741824) : Int64.ofNat a <<< Int64.ofNat 30 ||| Int64.ofNat b = Int64.ofNat (a * 1073741824 + b) := j_shor hb
theorem jn_sub {a b : Nat} (h : b ≤ a) : Int64.ofNat a - Int64.ofNat b = Int64.ofNat (a - b) := lN_sub h
theorem j_s63 {s : Nat} (hs : s < 31) : (Int32.ofNat s).toInt64 &&& 63 = Int64.ofNat s := by
  rw [j_of32 (by omega)]
  exact j_m63 s (by omega)
theorem jn_shl {a s : Nat} (hs : s < 31) : Int64.ofNat a <<< Int64.ofNat s = Int64.ofNat (2 ^ s * a) := by
  rw [← j_s63 hs]
  exact j_shl hs
theorem n_sar {v n : Nat} (hv : v < 2147483648) (hn : n < 32) : Int32.ofNat v >>> Int32.ofNat n = Int32.ofNat (v / 2 ^ n) := by
  rw [← i32_sar hv hn]
  congr 1
  exact (n_m31 n hn).symm
/-- one place of the memory is written -/
def up (I : Nat → Nat → Int32) (a k : Nat) (v : Int32) : Nat → Nat → Int32 := va_up I a (va_up (I a) k v)
theorem up_s {I : Nat → Nat → Int32} {a k : Nat} {v : Int32} : up I a k v a k = v := by
  unfold up
  rw [va_up_self, va_up_self]
theorem up_n {I : Nat → Nat → Int32} {a k b j : Nat} {v : Int32} (h : b ≠ a ∨ j ≠ k) : up I a k v b j = I b j := by
  unfold up
  by_cases q : b = a
  · rw [q, va_up_self, va_up_ne _ _ (h.resolve_left (fun z => z q))]
  · rw [va_up_ne _ _ q]
theorem up_a {I : Nat → Nat → Int32} {a k b j : Nat} {v : Int32} : up I a k v b j = if b = a ∧ j = k then v else I b j := by
  by_cases q : b = a ∧ j = k
  · rw [if_pos q, q.1, q.2, up_s]
  · rw [if_neg q, up_n (by omega)]
theorem up_r {I : Nat → Nat → Int32} {a k b : Nat} {v : Int32} (h : b ≠ a) : up I a k v b = I b := by
  unfold up
  exact va_up_ne _ _ h
