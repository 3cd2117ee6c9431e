/-! reading nothing; operators told -/
def st (I : Nat → Nat → Int32) (a k : Nat) (v : Int32) : Nat → Nat → Int32 := va_up I a (va_up (I a) k v)
theorem rng_dom {x : Int32} {m : Nat} (hm : m < 2147483648) (h : (0 : Int32) ≤ x) (h' : x ≤ Int32.ofNat m) : ∃ j, j ≤ m ∧ x = Int32.ofNat j := by
  rw [Int32.le_iff_toInt_le] at h h'
  rw [i32_toInt hm] at h'
  have a0 : (0 : Int32).toInt = 0 := by decide
  rw [a0] at h
  refine ⟨x.toInt.toNat, by omega, ?_⟩
  rw [← Int32.toInt_inj, i32_toInt (by omega)]
  omega
def sgp (p : Nat) : Nat := [6, 14, 4, 7, 2, 0, 1, 3, 9, 11, 10, 15, 13, 5, 8, 12].getD p 16
def plN (k : Nat) : Nat := (plc k).toNatClampNeg
theorem sgn_128 : ∀ k, k < 128 → (plc k = -1 ∧ f_X12_signOf xe0 (Int32.ofNat k) = some (-1)) ∨ (plN k < 16 ∧ plc k = Int32.ofNat (plN k) ∧ f_X12_signOf xe0 (Int32.ofNat k) = some (Int32.ofNat (sgp (plN k)))) := by decide +kernel
theorem i32_neq {k m : Nat} (h : k < 2147483648) (h' : m < 2147483648) (hn : k ≠ m) : ¬ (Int32.ofNat k = Int32.ofNat m) := fun q => hn ((i32_eq h h').mp q)
theorem sgn_dom {k : Nat} (hk : k < 65536) : ((128 ≤ k ∨ plc k = -1) ∧ ∀ σ, f_X12_signOf σ (Int32.ofNat k) = some (-1)) ∨ ∃ p, p < 16 ∧ k < 128 ∧ plc k = Int32.ofNat p ∧ ∀ σ, f_X12_signOf σ (Int32.ofNat k) = some (Int32.ofNat (sgp p)) := by
  by_cases h : k < 128
  · rcases sgn_128 k h with ⟨h1, h2⟩ | ⟨h1, h2, h3⟩
    · exact Or.inl ⟨Or.inr h1, fun _ => h2⟩
    · exact Or.inr ⟨plN k, h1, h, h2, fun _ => h3⟩
  · refine Or.inl ⟨Or.inl (by omega), fun σ => ?_⟩
    unfold f_X12_signOf
    rw [if_neg (show ¬ (Int32.ofNat k = 33) from i32_neq (m := 33) (by omega) (by omega) (by omega))]
    rw [if_neg (show ¬ (Int32.ofNat k = 35) from i32_neq (m := 35) (by omega) (by omega) (by omega))]
    rw [if_neg (show ¬ (Int32.ofNat k = 37) from i32_neq (m := 37) (by omega) (by omega) (by omega))]
    rw [if_neg (show ¬ (Int32.ofNat k = 38) from i32_neq (m := 38) (by omega) (by omega) (by omega))]
    rw [if_neg (show ¬ (Int32.ofNat k = 42) from i32_neq (m := 42) (by omega) (by omega) (by omega))]
    rw [if_neg (show ¬ (Int32.ofNat k = 43) from i32_neq (m := 43) (by omega) (by omega) (by omega))]
    rw [if_neg (show ¬ (Int32.ofNat k = 45) from i32_neq (m := 45) (by omega) (by omega) (by omega))]
    rw [if_neg (show ¬ (Int32.ofNat k = 47) from i32_neq (m := 47) (by omega) (by omega) (by omega))]
    rw [if_neg (show ¬ (Int32.ofNat k = 60) from i32_neq (m := 60) (by omega) (by omega) (by omega))]
    rw [if_neg (show ¬ (Int32.ofNat k = 61) from i32_neq (m := 61) (by omega) (by omega) (by omega))]
    rw [if_neg (show ¬ (Int32.ofNat k = 62) from i32_neq (m := 62) (by omega) (by omega) (by omega))]
    rw [if_neg (show ¬ (Int32.ofNat k = 63) from i32_neq (m := 63) (by omega) (by omega) (by omega))]
    rw [if_neg (show ¬ (Int32.ofNat k = 64) from i32_neq (m := 64) (by omega) (by omega) (by omega))]
    rw [if_neg (show ¬ (Int32.ofNat k = 94) from i32_neq (m := 94) (by omega) (by omega) (by omega))]
    rw [if_neg (show ¬ (Int32.ofNat k = 124) from i32_neq (m := 124) (by omega) (by omega) (by omega))]
    rw [if_neg (show ¬ (Int32.ofNat k = 126) from i32_neq (m := 126) (by omega) (by omega) (by omega))]
section ET
variable {I : Nat → Nat → Int32} {J : Nat → Nat → Int64} {R : Nat → Nat → Option Nat}
theorem c_slot0 {k : Nat} {f : Int32} (hR : RA R) (h12 : I 12 = plc) (hk : k < 65536) (h : 128 ≤ k ∨ plc k = -1) : f_X1_slot (mg (4562 + zn J) I J R) 11 (Int32.ofNat k) f = some (-1) := by
  have e : f_X1_slot_j23 (mg (4562 + zn J) I J R) f (-1) = some (-1) := by
    unfold f_X1_slot_j23
    rw [if_pos (by first | decide | omega)]
    rfl
  unfold f_X1_slot
  rw [if_neg (i32_nlt0 (by omega))]
  refine xb_eq (ogR_11_0 hR) (xb_eq ogL_12 ?_)
  by_cases hc : 128 ≤ k
  · rw [if_pos (show (128 : Int32) ≤ Int32.ofNat k from (i32_le (k := 128) (by omega) (by omega)).mpr hc)]
    exact e
  · rw [if_neg (show ¬ ((128 : Int32) ≤ Int32.ofNat k) from fun q => hc ((i32_le (k := 128) (by omega) (by omega)).mp q))]
    refine xb_eq (ogR_11_0 hR) (xb_eq (a := -1) ?_ e)
    rw [oaI_12, if_pos (xvi_nat (by omega) (by first | decide | omega)), i32_nat (by omega), h12]
    rcases h with h | h
    · omega
    · rw [h]
theorem c_slot1 {k p fx : Nat} (hR : RA R) (h12 : I 12 = plc) (hk : k < 128) (hp : plc k = Int32.ofNat p) (hp2 : p < 16) (hf : fx ≤ 2) : f_X1_slot (mg (4562 + zn J) I J R) 11 (Int32.ofNat k) (Int32.ofNat fx) = some (Int32.ofNat (fx * 16 + p)) :=
  e_slot (by first | decide | omega) (hR.get (by first | decide | omega) (by first | decide | omega) rfl) h12 hk hp hp2 hf
theorem i32_0le {k : Nat} (h : k < 2147483648) : (0 : Int32) ≤ Int32.ofNat k := (i32_le (k := 0) (by omega) h).mpr (by omega)
theorem c_aI13 {s : Nat} (hs : s < 48) : aI (mg (4562 + zn J) I J R) 13 14 (Int32.ofNat s) = some (I 13 s) := by
  rw [oaI_13, if_pos (xvi_nat hs (by first | decide | omega)), i32_nat (by omega)]
theorem c_aI14 {s : Nat} (hs : s < 48) : aI (mg (4562 + zn J) I J R) 14 14 (Int32.ofNat s) = some (I 14 s) := by
  rw [oaI_14, if_pos (xvi_nat hs (by first | decide | omega)), i32_nat (by omega)]
theorem c_rank1 {k s : Nat} {f : Int32} (hR : RA R) (hs : s < 48) (h : f_X1_slot (mg (4562 + zn J) I J R) 11 (Int32.ofNat k) f = some (Int32.ofNat s)) : f_X1_rank (mg (4562 + zn J) I J R) 11 (Int32.ofNat k) f = some (I 13 s) := by
  unfold f_X1_rank
  refine xb_iq ok_11 (xb_eq h ?_)
  rw [if_pos (i32_0le (by omega))]
  exact xb_eq (ogR_11_1 hR) (xb_eq (c_aI13 hs) rfl)
theorem c_side1 {k s : Nat} {f : Int32} (hR : RA R) (hs : s < 48) (h : f_X1_slot (mg (4562 + zn J) I J R) 11 (Int32.ofNat k) f = some (Int32.ofNat s)) : f_X1_side (mg (4562 + zn J) I J R) 11 (Int32.ofNat k) f = some (I 14 s) := by
  unfold f_X1_side
  refine xb_iq ok_11 (xb_eq h ?_)
  rw [if_pos (i32_0le (by omega))]
  exact xb_eq (ogR_11_2 hR) (xb_eq (c_aI14 hs) rfl)
end ET
