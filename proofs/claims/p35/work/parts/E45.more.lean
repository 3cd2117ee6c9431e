/-! what else the class side needs -/
section EM3
variable {I : Nat → Nat → Int32} {J : Nat → Nat → Int64} {R : Nat → Nat → Option Nat} {β : Type} {s : GS}
/-- one line, one tree -/
theorem line_uniq {J : Nat → Nat → Int64} {R : Nat → Nat → Option Nat} (hR : RA R) {n : Nat} {nd nd' ln : Nat → Nd} {sp sp' : Nat → Nat} (h80 : n ≤ 80) (h : WT n (aro nd) sp) (h' : WT n (aro nd') sp') (h4 : ∀ x, x < n → aro nd x ≤ 4) (e : ∀ x, x < n → ln (pl sp x) = nd x) (e' : ∀ x, x < n → ln (pl sp' x) = nd' x) : ∀ x, x < n → nd x = nd' x := by
  have hN : CN (fun a k => if a = 551 then (Int32.ofNat (n)) else if a = 552 then (ln k).1 else if a = 553 then (ln k).2.1 else if a = 554 then (ln k).2.2.1 else (Int32.ofNat ((ln k).2.2.2))) 551 n ln := by
    refine ⟨isTr_551, if_pos rfl, h80, fun i hi => ⟨?_, ?_, ?_, ?_, ?_⟩⟩
    · rfl
    · rfl
    · rfl
    · rfl
    · obtain ⟨x, hx, rfl⟩ := pl_sur h hi
      rw [e x hx]
      exact h4 x hx
  generalize (fun a k => if a = 551 then (Int32.ofNat (n)) else if a = 552 then (ln k).1 else if a = 553 then (ln k).2.1 else if a = 554 then (ln k).2.2.1 else (Int32.ofNat ((ln k).2.2.2))) = I at hN
  obtain ⟨x1, e1, I1, y1, -, t1⟩ := T_turn (J := J) hR isTr_4551 hN h e (by first | decide | omega)
  obtain ⟨x2, e2, I2, y2, -, t2⟩ := T_turn (J := J) hR isTr_4551 hN h' e' (by first | decide | omega)
  rw [y1] at e1
  rw [y2, e1] at e2
  have : I2 = I1 := by
    have := Option.some.inj e2
    exact (congrArg (fun σ : xM => σ.2.2.1) this).symm
  rw [this] at t2
  intro x hx
  obtain ⟨a1, a2, a3, a4, a5⟩ := t1.1.2.2.2 x hx
  obtain ⟨b1, b2, b3, b4, b5⟩ := t2.1.2.2.2 x hx
  refine Prod.ext (a1.symm.trans b1) (Prod.ext (a2.symm.trans b2) (Prod.ext (a3.symm.trans b3) ?_))
  exact (i32_eq (by omega) (by omega)).mp (a4.symm.trans b4)
end EM3
