/-! reading nothing; operators told -/
def st (I : Nat → Nat → Int32) (a k : Nat) (v : Int32) : Nat → Nat → Int32 := va_up I a (va_up (I a) k v)
theorem rng_dom {x : Int32} {m : Nat} (hm : m < 2147483648) (h : (0 : Int32) ≤ x) (h' : x ≤ Int32.ofNat m) : ∃ j, j ≤ m ∧ x = Int32.ofNat j := by
  rw [Int32.le_iff_toInt_le] at h h'
  rw [i32_toInt hm] at h'
  have a0 : (0 : Int32).toInt = 0 := by decide
  rw [a0] at h
  refine ⟨x.toInt.toNat, by omega, ?_⟩
  rw [← Int32.toInt_inj, i32_toInt (by omega)]
  omega
def plN (k : Nat) : Nat := (plc k).toNatClampNeg
theorem sgn_128 : ∀ k, k < 128 → plc k = -1 ∨ (plN k < 16 ∧ plc k = Int32.ofNat (plN k)) := by decide +kernel
theorem i32_neq {k m : Nat} (h : k < 2147483648) (h' : m < 2147483648) (hn : k ≠ m) : ¬ (Int32.ofNat k = Int32.ofNat m) := fun q => hn ((i32_eq h h').mp q)
theorem sgn_dom {k : Nat} (_ : k < 65536) : ((128 ≤ k ∨ plc k = -1) ∧ True) ∨ ∃ p, p < 16 ∧ k < 128 ∧ plc k = Int32.ofNat p ∧ True := by
  by_cases h : k < 128
  · rcases sgn_128 k h with h1 | ⟨h1, h2⟩
    · exact Or.inl ⟨Or.inr h1, trivial⟩
    · exact Or.inr ⟨plN k, h1, h, h2, trivial⟩
  · exact Or.inl ⟨Or.inl (by omega), trivial⟩
section ET
variable {I : Nat → Nat → Int32} {J : Nat → Nat → Int64} {R : Nat → Nat → Option Nat}
theorem c_slot0 {k : Nat} {f : Int32} (hR : RA R) (h12 : I 12 = plc) (hk : k < 65536) (h : 128 ≤ k ∨ plc k = -1) : f_X1_slot (mg (4562 + zn J) I J R) 11 (Int32.ofNat k) f = some (-1) := by
  have e : f_X1_slot_j23 (mg (4562 + zn J) I J R) f (-1) = some (-1) := by
    unfold f_X1_slot_j23
    rw [if_pos (by first | decide | omega)]
    rfl
  unfold f_X1_slot
  rw [if_neg (i32_nlt0 (by omega))]
  refine xb_eq (ogR_11_0 hR) (xb_eq ogL_12 ?_)
  by_cases hc : 128 ≤ k
  · rw [if_pos (show (128 : Int32) ≤ Int32.ofNat k from (i32_le (k := 128) (by omega) (by omega)).mpr hc)]
    exact e
  · rw [if_neg (show ¬ ((128 : Int32) ≤ Int32.ofNat k) from fun q => hc ((i32_le (k := 128) (by omega) (by omega)).mp q))]
    refine xb_eq (ogR_11_0 hR) (xb_eq (a := -1) ?_ e)
    rw [oaI_12, if_pos (xvi_nat (by omega) (by first | decide | omega)), i32_nat (by omega), h12]
    rcases h with h | h
    · omega
    · rw [h]
theorem c_slot1 {k p fx : Nat} (hR : RA R) (h12 : I 12 = plc) (hk : k < 128) (hp : plc k = Int32.ofNat p) (hp2 : p < 16) (hf : fx ≤ 2) : f_X1_slot (mg (4562 + zn J) I J R) 11 (Int32.ofNat k) (Int32.ofNat fx) = some (Int32.ofNat (fx * 16 + p)) :=
  e_slot (by first | decide | omega) (hR.get (by first | decide | omega) (by first | decide | omega) rfl) h12 hk hp hp2 hf
theorem c_rank0 {k : Nat} {f : Int32} (h : f_X1_slot (mg (4562 + zn J) I J R) 11 (Int32.ofNat k) f = some (-1)) : f_X1_rank (mg (4562 + zn J) I J R) 11 (Int32.ofNat k) f = some 0 := by
  unfold f_X1_rank
  refine xb_iq ok_11 (xb_eq h ?_)
  rw [if_neg (by first | decide | omega)]
  rfl
theorem i32_0le {k : Nat} (h : k < 2147483648) : (0 : Int32) ≤ Int32.ofNat k := (i32_le (k := 0) (by omega) h).mpr (by omega)
theorem c_aI13 {s : Nat} (hs : s < 48) : aI (mg (4562 + zn J) I J R) 13 14 (Int32.ofNat s) = some (I 13 s) := by
  rw [oaI_13, if_pos (xvi_nat hs (by first | decide | omega)), i32_nat (by omega)]
theorem c_aI14 {s : Nat} (hs : s < 48) : aI (mg (4562 + zn J) I J R) 14 14 (Int32.ofNat s) = some (I 14 s) := by
  rw [oaI_14, if_pos (xvi_nat hs (by first | decide | omega)), i32_nat (by omega)]
theorem c_aI15 {s : Nat} (hs : s < 48) : aI (mg (4562 + zn J) I J R) 15 14 (Int32.ofNat s) = some (I 15 s) := by
  rw [oaI_15, if_pos (xvi_nat hs (by first | decide | omega)), i32_nat (by omega)]
theorem c_rank1 {k s : Nat} {f : Int32} (hR : RA R) (hs : s < 48) (h : f_X1_slot (mg (4562 + zn J) I J R) 11 (Int32.ofNat k) f = some (Int32.ofNat s)) : f_X1_rank (mg (4562 + zn J) I J R) 11 (Int32.ofNat k) f = some (I 13 s) := by
  unfold f_X1_rank
  refine xb_iq ok_11 (xb_eq h ?_)
  rw [if_pos (i32_0le (by omega))]
  exact xb_eq (ogR_11_1 hR) (xb_eq (c_aI13 hs) rfl)
theorem c_side1 {k s : Nat} {f : Int32} (hR : RA R) (hs : s < 48) (h : f_X1_slot (mg (4562 + zn J) I J R) 11 (Int32.ofNat k) f = some (Int32.ofNat s)) : f_X1_side (mg (4562 + zn J) I J R) 11 (Int32.ofNat k) f = some (I 14 s) := by
  unfold f_X1_side
  refine xb_iq ok_11 (xb_eq h ?_)
  rw [if_pos (i32_0le (by omega))]
  exact xb_eq (ogR_11_2 hR) (xb_eq (c_aI14 hs) rfl)
theorem c_meaning1 {k s : Nat} {f : Int32} (hR : RA R) (hs : s < 48) (h : f_X1_slot (mg (4562 + zn J) I J R) 11 (Int32.ofNat k) f = some (Int32.ofNat s)) : f_X1_meaning (mg (4562 + zn J) I J R) 11 (Int32.ofNat k) f = some (if I 13 s = 0 then -1 else I 15 s) := by
  unfold f_X1_meaning
  refine xb_iq ok_11 (xb_eq h ?_)
  rw [if_neg (i32_nlt0 (by omega))]
  refine xb_eq (ogR_11_1 hR) (xb_eq (c_aI13 hs) ?_)
  by_cases h0 : I 13 s = 0
  · rw [if_pos h0, if_pos h0]; rfl
  · rw [if_neg h0, if_neg h0]
    exact xb_eq (ogR_11_3 hR) (xb_eq (c_aI15 hs) rfl)
theorem c_isFix1 {σ : xM} {f : Int32} (h : (0 : Int32) ≤ f) (h' : f ≤ 2) : f_X1_isFix σ f = some 1 := by
  unfold f_X1_isFix
  rw [if_neg (Int32.not_lt.mpr h), if_neg (Int32.not_lt.mpr h')]
  rfl
end ET
