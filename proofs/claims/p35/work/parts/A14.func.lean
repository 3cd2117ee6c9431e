/-! functions: rows copied, noted -/
section OI
variable {I : Nat → Nat → Int32} {J : Nat → Nat → Int64} {R : Nat → Nat → Option Nat} {t : GT} {s : GS} {b : GB} {n : GN} {f : GF} {v w : GV} {q : Nat → GV} {p : GT} {r : GR} {h : GH} {β : Type}
theorem C_copyRow {x y : Nat} (hx : x < 4561 ∧ KK x = (14, 10)) (hy : y < 4561 ∧ KK y = (14, 10)) (hn : x ≠ y) : QK (f_X1_copyRow (mg (4562 + zn J) I J R) x y) (fun z => ∃ I', z = mg (4562 + zn J) I' J R ∧ FrS (fun a => a = y) I I' ∧ ∀ k, k < 10 → I' y k = I x k) := by
  have gx : ∀ (I : Nat → Nat → Int32), gL (mg (4562 + zn J) I J R) x 14 = some (Int32.ofNat (10)) := fun I => e_gL (by have := hx.1; omega) hx.2
  have gy : ∀ (I : Nat → Nat → Int32), gL (mg (4562 + zn J) I J R) y 14 = some (Int32.ofNat (10)) := fun I => e_gL (by have := hy.1; omega) hy.2
  unfold f_X1_copyRow
  rw [q_let]
  refine q_bind (P := fun z => ∃ I', z = .inr (mg (4562 + zn J) I' J R) ∧ FrS (fun a => a = y) I I' ∧ ∀ k, k < 10 → I' y k = I x k) ?_ ?_
  · refine q_for 10 (fun k st => ∃ I', st = (x, y, (Int32.ofNat (k)), mg (4562 + zn J) I' J R) ∧ FrS (fun a => a = y) I I' ∧ ∀ j, j < k → I' y j = I x j) ?_ ?_ (i := 0) ⟨I, rfl, FrS_rfl, fun j hj => absurd hj (Nat.not_lt_zero j)⟩ (by omega) (by unfold xF; omega)
    · rintro k st hk ⟨I', rfl, hF, hh⟩
      unfold f_X1_copyRow_s2
      dsimp only
      rw [q_let, q_let, q_let, q_let, gx, Option.bind_some, if_neg (fun z => absurd ((i32_le (by omega) (by omega)).mp z) (by omega)), gy, Option.bind_some, if_neg (fun z => absurd ((i32_le (by omega) (by omega)).mp z) (by omega)), e_aI (by have := hx.1; omega) hx.2 hk (by first | decide | omega), Option.bind_some, e_wI (by have := hy.1; omega) hy.2 hk (by first | decide | omega), Option.bind_some, q_let, show (Int32.ofNat (k)) + 1 = (Int32.ofNat (k + 1)) from n_add k 1]
      refine q_go ⟨up I' y k (I' x k), rfl, FrS_up hF rfl, fun j hj => ?_⟩
      by_cases z : j = k
      · rw [z, up_s, hF x hn]
      · rw [up_n (by omega)]
        exact hh j (by omega)
    · rintro st ⟨I', rfl, hF, hh⟩
      unfold f_X1_copyRow_s2
      dsimp only
      rw [q_let, q_let, q_let, q_let, gx, Option.bind_some, if_pos ((i32_le (by omega) (by omega)).mpr (Nat.le_refl _))]
      exact q_ex ⟨I', rfl, hF, hh⟩
  · rintro _ ⟨I', rfl, hF, hh⟩
    simp only [Sum.elim_inr]
    unfold f_X1_copyRow_j26
    exact q_ok ⟨I', rfl, hF, hh⟩
end OI
