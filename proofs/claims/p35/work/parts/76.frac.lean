/-! the class's fractions -/
def isF (f c : Nat) : Prop := 10 ≤ f ∧ f + 4 < 4561 ∧ KK f = (2, 0) ∧ RR f 0 = some (f + 1) ∧ RR f 1 = some (f + 3) ∧ isW (f + 1) c ∧ isW (f + 3) c
def FU (I : Nat → Nat → Int32) (f c : Nat) (a b : Int) : Prop := isF f c ∧ Wz I (f + 1) c a ∧ Wz I (f + 3) c b
def Sf (f : Nat) : Nat → Prop := fun x => f ≤ x ∧ x < f + 5
/-- the arithmetic's own numbers, and a fraction -/
def Sa (f : Nat) : Nat → Prop := fun x => (2 ≤ x ∧ x < 10) ∨ (f ≤ x ∧ x < f + 5)
theorem FU_keep {I I' : Nat → Nat → Int32} {f c : Nat} {a b : Int} (h : FU I f c a b) (e : ∀ x, f ≤ x → x < f + 5 → I' x = I x) : FU I' f c a b :=
  ⟨h.1, Wz_keep h.2.1 (e _ (by omega) (by omega)) (e _ (by omega) (by omega)), Wz_keep h.2.2 (e _ (by omega) (by omega)) (e _ (by omega) (by omega))⟩
theorem isF_ne {f g c d : Nat} (h : isF f c) (h' : isF g d) (hn : f ≠ g) : f + 5 ≤ g ∨ g + 5 ≤ f := by
  have key : ∀ {f g c d : Nat}, isF f c → isF g d → f < g → f + 5 ≤ g := by
    intro f g c d h h' hl
    refine Nat.le_of_not_lt (fun q => ?_)
    have k2 := h'.2.2.1
    have c1 := h.2.2.2.2.2.1.2.1
    have c2 := h.2.2.2.2.2.1.2.2.2.1
    have c3 := h.2.2.2.2.2.2.2.1
    have c4 := h.2.2.2.2.2.2.2.2.2.1
    rcases (by omega : g = f + 1 ∨ g = f + 1 + 1 ∨ g = f + 3 ∨ g = f + 3 + 1) with e | e | e | e
    · rw [e, c1] at k2
      exact absurd (show 10 = 2 from congrArg Prod.fst k2) (by first | decide | omega)
    · rw [e, c2] at k2
      exact absurd (show 14 = 2 from congrArg Prod.fst k2) (by first | decide | omega)
    · rw [e, c3] at k2
      exact absurd (show 10 = 2 from congrArg Prod.fst k2) (by first | decide | omega)
    · rw [e, c4] at k2
      exact absurd (show 14 = 2 from congrArg Prod.fst k2) (by first | decide | omega)
  rcases Nat.lt_or_gt_of_ne hn with q | q
  · exact Or.inl (key h h' q)
  · exact Or.inr (key h' h q)
theorem isW_2 : isW 2 100 := ⟨by decide, rfl, rfl, rfl, by decide, by decide⟩
theorem isW_4 : isW 4 100 := ⟨by decide, rfl, rfl, rfl, by decide, by decide⟩
theorem isW_6 : isW 6 100 := ⟨by decide, rfl, rfl, rfl, by decide, by decide⟩
theorem isW_8 : isW 8 100 := ⟨by decide, rfl, rfl, rfl, by decide, by decide⟩
section FA
variable {I : Nat → Nat → Int32} {J : Nat → Nat → Int64} {R : Nat → Nat → Option Nat} {f g c d p q : Nat} {β : Type}
theorem bF_xk (h : isF f c) : xk (mg (4562 + zn J) I J R) f 2 = true := me_xk (by have := h.2.1; omega) (by rw [h.2.2.1])
theorem bF_g0 {F : Nat → Option β} (h : isF f c) (hR : RA R) : (gR (mg (4562 + zn J) I J R) f 2 0).bind F = F (f + 1) := by
  rw [e_gR (v := f + 1) (by have := h.2.1; omega) (by rw [h.2.2.1]) (hR.get (by have := h.2.1; omega) (by unfold kb; rw [h.2.2.1]; decide) h.2.2.2.1)]
  rfl
theorem bF_g1 {F : Nat → Option β} (h : isF f c) (hR : RA R) : (gR (mg (4562 + zn J) I J R) f 2 1).bind F = F (f + 3) := by
  rw [e_gR (v := f + 3) (by have := h.2.1; omega) (by rw [h.2.2.1]) (hR.get (by have := h.2.1; omega) (by unfold kb; rw [h.2.2.1]; decide) h.2.2.2.2.1)]
  rfl
theorem bA_0 {F : Nat → Option β} (hR : RA R) : (gR (mg (4562 + zn J) I J R) 1 0 0).bind F = F 2 := by rw [ogR_1_0 hR]; rfl
theorem bA_1 {F : Nat → Option β} (hR : RA R) : (gR (mg (4562 + zn J) I J R) 1 0 1).bind F = F 4 := by rw [ogR_1_1 hR]; rfl
theorem bA_2 {F : Nat → Option β} (hR : RA R) : (gR (mg (4562 + zn J) I J R) 1 0 2).bind F = F 6 := by rw [ogR_1_2 hR]; rfl
theorem bA_3 {F : Nat → Option β} (hR : RA R) : (gR (mg (4562 + zn J) I J R) 1 0 3).bind F = F 8 := by rw [ogR_1_3 hR]; rfl
theorem F_set {n : Nat} (hR : RA R) (hf : isF f c) (hn : n < 1152921504606846976) : QK (f_X2_set (mg (4562 + zn J) I J R) f (Int64.ofNat n)) (fun r => ∃ I', r = mg (4562 + zn J) I' J R ∧ FrS (Sf f) I I' ∧ FU I' f c n 1) := by
  have w1 := hf.2.2.2.2.2.1
  have w2 := hf.2.2.2.2.2.2
  unfold f_X2_set
  rw [bF_g0 hf hR, if_pos (bW_xk w1)]
  refine q_bind (W_set hR w1 hn) ?_
  rintro r ⟨I1, rfl, hF1, h1⟩
  rw [bF_g1 hf hR, if_pos (bW_xk w2)]
  refine q_bind (W_set (n := 1) hR w2 (by omega)) ?_
  rintro r ⟨I2, rfl, hF2, h2⟩
  refine q_ok ⟨I2, rfl, FrS_tr (FrS_mono hF1 (fun x h => by unfold Sw at h; unfold Sf; omega)) (FrS_mono hF2 (fun x h => by unfold Sw at h; unfold Sf; omega)), hf, Wz_keep h1 (hF2 _ (by unfold Sw; omega)) (hF2 _ (by unfold Sw; omega)), h2⟩
theorem F_copy {a b : Int} (hR : RA R) (hf : isF f c) (hg : FU I g d a b) (ha : a.natAbs < Bw c) (hb : b.natAbs < Bw c) (hn : f ≠ g) : QK (f_X2_copy (mg (4562 + zn J) I J R) f g) (fun r => ∃ I', r = mg (4562 + zn J) I' J R ∧ FrS (Sf f) I I' ∧ FU I' f c a b) := by
  have w1 := hf.2.2.2.2.2.1
  have w2 := hf.2.2.2.2.2.2
  have n1 := isF_ne hf hg.1 hn
  unfold f_X2_copy
  rw [bF_g0 hf hR, bF_g0 hg.1 hR, if_pos (bW_xk w1)]
  refine q_bind (W_copy hR w1 hg.2.1 ha (by omega)) ?_
  rintro r ⟨I1, rfl, hF1, h1⟩
  rw [bF_g1 hf hR, bF_g1 hg.1 hR, if_pos (bW_xk w2)]
  refine q_bind (W_copy (I := I1) hR w2 (Wz_keep hg.2.2 (hF1 _ (by unfold Sw; omega)) (hF1 _ (by unfold Sw; omega))) hb (by omega)) ?_
  rintro r ⟨I2, rfl, hF2, h2⟩
  refine q_ok ⟨I2, rfl, FrS_tr (FrS_mono hF1 (fun x h => by unfold Sw at h; unfold Sf; omega)) (FrS_mono hF2 (fun x h => by unfold Sw at h; unfold Sf; omega)), hf, Wz_keep h1 (hF2 _ (by unfold Sw; omega)) (hF2 _ (by unfold Sw; omega)), h2⟩
theorem F_isZero {a b : Int} (hR : RA R) (h : FU I f c a b) : f_X2_isZero (mg (4562 + zn J) I J R) f = some (if a = 0 then 1 else 0) := by
  unfold f_X2_isZero
  rw [bF_g0 h.1 hR, if_pos (bW_xk h.1.2.2.2.2.2.1), W_isZero h.2.1, Option.bind_some]
  split <;> rfl
theorem F_isWhole {a b : Int} (hR : RA R) (h : FU I f c a b) : f_X2_isWhole (mg (4562 + zn J) I J R) f = some (if b = 1 then 1 else 0) := by
  unfold f_X2_isWhole
  rw [bF_g1 h.1 hR, if_pos (bW_xk h.1.2.2.2.2.2.2), W_isOne hR h.2.2, Option.bind_some]
  split <;> rfl
theorem n200 {b n : Nat} (h : n < 2 ^ b) (h' : b = 0 ∨ 2 ^ (b - 1) ≤ n) (hb : b ≤ 3000) : (if (Int32.ofNat (200)) < (Int32.ofNat (b)) then False else True) ↔ n < 2 ^ 200 := by
  by_cases q : 200 < b
  · rw [if_pos ((i32_lt (by omega) (by omega)).mpr q)]
    refine ⟨fun z => z.elim, fun z => ?_⟩
    have : 2 ^ 200 ≤ n := Nat.le_trans (Nat.pow_le_pow_right (by first | decide | omega) (by omega)) (h'.resolve_left (by omega))
    omega
  · rw [if_neg (fun z => q ((i32_lt (by omega) (by omega)).mp z))]
    exact ⟨fun _ => Nat.lt_of_lt_of_le h (Nat.pow_le_pow_right (by first | decide | omega) (by omega)), fun _ => trivial⟩
theorem F_fits {a b : Int} (hR : RA R) (h : FU I f c a b) : f_X2_fits (mg (4562 + zn J) I J R) f = some (if a.natAbs < 2 ^ 200 ∧ b.natAbs < 2 ^ 200 then 1 else 0) := by
  obtain ⟨⟨k1, h1⟩, -⟩ := h.2.1
  obtain ⟨⟨k2, h2⟩, -⟩ := h.2.2
  obtain ⟨b1, e1, g1, g2, g3⟩ := W_bits (I := I) (J := J) hR h1
  obtain ⟨b2, e2, g4, g5, g6⟩ := W_bits (I := I) (J := J) hR h2
  have t1 := n200 g1 g2 g3
  have t2 := n200 g4 g5 g6
  unfold f_X2_fits f_X2_fits_j30 f_X2_fits_j31
  rw [bF_g0 h.1 hR, if_pos (bW_xk h.1.2.2.2.2.2.1), e1, Option.bind_some]
  by_cases q : (200 : Int32) < (Int32.ofNat (b1))
  · rw [if_pos q]
    rw [if_pos (show (Int32.ofNat (200)) < (Int32.ofNat (b1)) from q)] at t1
    rw [if_neg (fun z => t1.mpr z.1)]
    rfl
  · rw [if_neg q, bF_g1 h.1 hR, if_pos (bW_xk h.1.2.2.2.2.2.2), e2, Option.bind_some]
    rw [if_neg (show ¬ (Int32.ofNat (200)) < (Int32.ofNat (b1)) from q)] at t1
    by_cases q' : (200 : Int32) < (Int32.ofNat (b2))
    · rw [if_pos q']
      rw [if_pos (show (Int32.ofNat (200)) < (Int32.ofNat (b2)) from q')] at t2
      rw [if_neg (fun z => t2.mpr z.2)]
      rfl
    · rw [if_neg q']
      rw [if_neg (show ¬ (Int32.ofNat (200)) < (Int32.ofNat (b2)) from q')] at t2
      rw [if_pos ⟨t1.mp trivial, t2.mp trivial⟩]
      rfl
theorem cmpZ_0 {x y : Int} : cmpZ x y = 0 ↔ x = y := by
  unfold cmpZ
  by_cases h : x < y
  · rw [if_pos h]
    exact ⟨fun q => absurd q (by first | decide | omega), fun q => by omega⟩
  · rw [if_neg h]
    by_cases h' : x = y
    · rw [if_pos h']
      exact ⟨fun _ => h', fun _ => rfl⟩
    · rw [if_neg h']
      exact ⟨fun q => absurd q (by first | decide | omega), fun q => absurd q h'⟩
theorem F_sameAs {a b a' b' : Int} (hR : RA R) (h : FU I f c a b) (h' : FU I g d a' b') : f_X2_sameAs (mg (4562 + zn J) I J R) f g = some (if a = a' ∧ b = b' then 1 else 0) := by
  unfold f_X2_sameAs f_X2_sameAs_j32 f_X2_sameAs_j33
  rw [bF_g0 h.1 hR, bF_g0 h'.1 hR, W_cmpSigned hR h.2.1 h'.2.1, Option.bind_some]
  by_cases q : a = a'
  · rw [if_pos (cmpZ_0.mpr q), bF_g1 h.1 hR, bF_g1 h'.1 hR, W_cmpSigned hR h.2.2 h'.2.2, Option.bind_some]
    by_cases q' : b = b'
    · rw [if_pos (cmpZ_0.mpr q'), if_pos ⟨q, q'⟩]
      rfl
    · rw [if_neg (fun z => q' (cmpZ_0.mp z)), if_neg (fun z => q' z.2)]
      rfl
  · rw [if_neg (fun z => q (cmpZ_0.mp z)), if_neg (fun z => q z.1)]
    rfl
end FA
