/-! the reference takes a function back -/
section OO
variable {I : Nat → Nat → Int32} {J : Nat → Nat → Int64} {R : Nat → Nat → Option Nat}
def Sun (l : Nat) : Nat → Nat → Prop := fun a k => (a = 4573 ∧ 8 * l ≤ k ∧ k < 8 * l + 8) ∨ (4565 ≤ a ∧ a ≤ 4569 ∧ 2400 + 240 * l ≤ k ∧ k < 2640 + 240 * l)
theorem M_undoLoop {l u : Nat} (hR : RA R) (hl : l < 26) (hu : u < 20) (hz : ∀ k, k < 8 → ∃ z, z ≤ 30 ∧ I 4622 (8 * u + k) = (Int32.ofNat (z))) : QK (xloop f_X12_undo_s187 xF (4561, (Int32.ofNat (u)), (Int32.ofNat (l)), 0, mg 4625 I J R)) (fun x => ∃ I', x = .inr (4561, (Int32.ofNat (u)), mg 4625 I' J R) ∧ FrK (Sun l) I I' ∧ (∀ k, k < 8 → I' 4573 (8 * l + k) = I 4622 (8 * u + k)) ∧ ∀ k z, k < 8 → z ≤ 30 → I 4622 (8 * u + k) = (Int32.ofNat (z)) → ∀ a x, 4565 ≤ a → a ≤ 4569 → x < z → I' a (2400 + 240 * l + 30 * k + x) = I a (8640 + 240 * u + 30 * k + x)) := by
  refine q_for 8 (fun k st => ∃ I', st = (4561, (Int32.ofNat (u)), (Int32.ofNat (l)), (Int32.ofNat (k)), mg 4625 I' J R) ∧ FrK (Sun l) I I' ∧ (∀ j, j < k → I' 4573 (8 * l + j) = I 4622 (8 * u + j)) ∧ ∀ j z, j < k → z ≤ 30 → I 4622 (8 * u + j) = (Int32.ofNat (z)) → ∀ a x, 4565 ≤ a → a ≤ 4569 → x < z → I' a (2400 + 240 * l + 30 * j + x) = I a (8640 + 240 * u + 30 * j + x)) ?_ ?_ (i := 0) ⟨I, rfl, FrK_rfl, fun j hj => absurd hj (Nat.not_lt_zero j), fun j z hj => absurd hj (Nat.not_lt_zero j)⟩ (by omega) (by unfold xF; omega)
  · rintro k st hk ⟨I', rfl, hF, h1, h2⟩
    obtain ⟨z, hz1, hz2⟩ := hz k hk
    have e3 : I' 4622 (8 * u + k) = (Int32.ofNat (z)) := by rw [hF _ _ (fun y => by unfold Sun at y; omega), hz2]
    unfold f_X12_undo_s187
    dsimp only
    rw [q_let, q_let, q_let, q_let, q_let, if_neg (show ¬ (8 : Int32) ≤ (Int32.ofNat (k)) from fun y => absurd ((i32_le (k := 8) (by omega) (by omega)).mp y) (by omega)), gr_4561_13 hR, gr_4561_82 hR, show (8 : Int32) * (Int32.ofNat (l)) = (Int32.ofNat (8 * l)) from n_mul 8 l, show (8 : Int32) * (Int32.ofNat (u)) = (Int32.ofNat (8 * u)) from n_mul 8 u, n_add, n_add, ga_4622 (by omega), e3, gw_4573 (by omega), gr_4561_13 hR, ga_4573 (by omega), up_s, if_pos ok_4561, show (30 : Int32) * (Int32.ofNat (8 * u + k)) = (Int32.ofNat (30 * (8 * u + k))) from n_mul 30 _, show (30 : Int32) * (Int32.ofNat (8 * l + k)) = (Int32.ofNat (30 * (8 * l + k))) from n_mul 30 _, show (8640 : Int32) + (Int32.ofNat (30 * (8 * u + k))) = (Int32.ofNat (8640 + 30 * (8 * u + k))) from n_add 8640 _, show (2400 : Int32) + (Int32.ofNat (30 * (8 * l + k))) = (Int32.ofNat (2400 + 30 * (8 * l + k))) from n_add 2400 _]
    refine q_bind (M_copyNodes hR (by omega) (by omega) (by omega)) ?_
    rintro _ ⟨I2, rfl, hF2, hC2⟩
    rw [q_let, show (Int32.ofNat (k)) + 1 = (Int32.ofNat (k + 1)) from n_add k 1]
    refine q_go ⟨I2, rfl, FrK_tr (FrK_up hF (Or.inl (by omega))) (FrK_mono hF2 (fun a j y => by unfold Sm at y; unfold Sun; omega)), fun j hj => ?_, fun j z' hj hz' ez a x ha ha' hx => ?_⟩
    · rw [hF2 _ _ (fun y => by unfold Sm at y; omega)]
      by_cases y : j = k
      · rw [y, up_s, hz2]
      · rw [up_n (by omega)]
        exact h1 j (by omega)
    · by_cases y : j = k
      · subst y
        have ezz : z' = z := (i32_eq (by omega) (by omega)).mp (ez.symm.trans hz2)
        subst ezz
        have := hC2 a x ha ha' hx
        rw [show 2400 + 240 * l + 30 * j + x = 2400 + 30 * (8 * l + j) + x by omega, this, show 8640 + 30 * (8 * u + j) + x = 8640 + 240 * u + 30 * j + x by omega, up_n (by omega), hF _ _ (fun y => by unfold Sun at y; omega)]
      · rw [hF2 _ _ (fun y => by unfold Sm at y; omega), up_n (by omega)]
        exact h2 j z' (by omega) hz' ez a x ha ha' hx
  · rintro st ⟨I', rfl, hF, h1, h2⟩
    unfold f_X12_undo_s187
    dsimp only
    rw [q_let, q_let, q_let, q_let, q_let, if_pos (show (8 : Int32) ≤ (Int32.ofNat (8)) by decide)]
    exact q_ex ⟨I', rfl, hF, h1, h2⟩
end OO
