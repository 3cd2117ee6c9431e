/-! clashes, notes, tell -/
theorem KK_20 (i : Nat) (hi : i < 26) : KK (20 + i) = (14, 10) := by
  unfold KK
  rw [if_pos (by omega), if_pos (by omega), if_pos (by omega), if_neg (by omega), if_neg (by omega), if_neg (by omega), if_neg (by omega), if_neg (by omega)]
theorem KK_49 (i : Nat) (hi : i < 20) : KK (49 + i) = (14, 10) := by
  unfold KK
  rw [if_pos (by omega), if_pos (by omega), if_neg (by omega), if_pos (by omega), if_pos (by omega), if_neg (by omega), if_neg (by omega), if_pos (by omega)]
theorem i32_mod20 : ∀ a, a < 40 → Int32.ofNat a - Int32.ofNat a / 20 * 20 = Int32.ofNat (a % 20) := by decide +kernel
section EV
variable {I : Nat → Nat → Int32} {J : Nat → Nat → Int64} {R : Nat → Nat → Option Nat}
def Cl (I : Nat → Nat → Int32) (p : Nat) (rk sd : Int32) (q : Nat) : Prop := q ≠ p ∧ I 13 (32 + q) = rk ∧ I 14 (32 + q) ≠ sd
theorem c_cl_step {p q : Nat} {rk sd : Int32} (hR : RA R) (hp : p < 16) (hq : q < 16) : (Cl I p rk sd q → f_X1_clashes_s49 (mg (4562 + zn J) I J R) (11, rk, sd, Int32.ofNat (32 + p), Int32.ofNat (32 + q)) = some (.inr (.inl (.inl ())))) ∧ (¬ Cl I p rk sd q → f_X1_clashes_s49 (mg (4562 + zn J) I J R) (11, rk, sd, Int32.ofNat (32 + p), Int32.ofNat (32 + q)) = some (.inr (.inr (11, rk, sd, Int32.ofNat (32 + p), Int32.ofNat (32 + (q + 1)))))) := by
  unfold f_X1_clashes_s49 xlet f_X1_clashes_j91 xlet
  dsimp only
  rw [ogR_11_1 hR]
  dsimp only [Option.bind_some]
  rw [ogL_13]
  dsimp only [Option.bind_some]
  rw [if_neg (show ¬ ((48 : Int32) ≤ Int32.ofNat (32 + q)) from fun z => absurd ((i32_le (k := 48) (by omega) (by omega)).mp z) (by omega)), i32_ofs]
  unfold Cl
  by_cases h1 : q = p
  · rw [if_pos (by rw [h1])]
    exact ⟨fun z => absurd h1 z.1, fun _ => rfl⟩
  · rw [if_neg (i32_neq (by omega) (by omega) (by omega)), c_aI13 (by omega)]
    dsimp only [Option.bind_some]
    by_cases h2 : I 13 (32 + q) = rk
    · rw [if_pos h2, ogR_11_2 hR]
      dsimp only [Option.bind_some]
      rw [c_aI14 (by omega)]
      dsimp only [Option.bind_some]
      by_cases h3 : I 14 (32 + q) = sd
      · rw [if_pos h3]
        exact ⟨fun z => absurd h3 z.2.2, fun _ => rfl⟩
      · rw [if_neg h3]
        exact ⟨fun _ => rfl, fun z => absurd ⟨h1, h2, h3⟩ z⟩
    · rw [if_neg h2]
      exact ⟨fun z => absurd z.2.1 h2, fun _ => rfl⟩
theorem c_cl_loop {p : Nat} {rk sd : Int32} (hR : RA R) (hp : p < 16) : ∀ (m i f : Nat), i + m = 16 → m < f → ((∃ q, i ≤ q ∧ q < 16 ∧ Cl I p rk sd q) → xloop (f_X1_clashes_s49 (mg (4562 + zn J) I J R)) f (11, rk, sd, Int32.ofNat (32 + p), Int32.ofNat (32 + i)) = some (.inr (.inl ()))) ∧ ((∀ q, i ≤ q → q < 16 → ¬ Cl I p rk sd q) → xloop (f_X1_clashes_s49 (mg (4562 + zn J) I J R)) f (11, rk, sd, Int32.ofNat (32 + p), Int32.ofNat (32 + i)) = some (.inr (.inr ()))) := by
  intro m
  induction m with
  | zero =>
    intro i f hi hf
    have : i = 16 := by omega
    subst this
    refine ⟨fun ⟨q, h1, h2, _⟩ => by omega, fun _ => xl_e hf ?_⟩
    unfold f_X1_clashes_s49 xlet
    dsimp only
    refine xb_eq (ogR_11_1 hR) (xb_eq ogL_13 ?_)
    rw [if_pos (show (48 : Int32) ≤ Int32.ofNat (32 + 16) by decide)]
  | succ m ih =>
    intro i f hi hf
    have hs := c_cl_step (I := I) (J := J) (rk := rk) (sd := sd) hR hp (show i < 16 by omega)
    by_cases h : Cl I p rk sd i
    · exact ⟨fun _ => xl_e (by omega) (hs.1 h), fun z => absurd h (z i (Nat.le_refl _) (by omega))⟩
    · rw [xl_s (by omega) (hs.2 h)]
      have := ih (i + 1) (f - 1) (by omega) (by omega)
      refine ⟨fun ⟨q, h1, h2, h3⟩ => this.1 ⟨q, ?_, h2, h3⟩, fun z => this.2 (fun q h1 h2 => z q (by omega) h2)⟩
      have : q ≠ i := fun e => h (e ▸ h3)
      omega
/-! notes of changes -/
end EV
