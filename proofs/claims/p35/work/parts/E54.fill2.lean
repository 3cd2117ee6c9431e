/-! the law's texts: all of filling -/
section LFJ
variable {C : Nat → Nat → Int32} {Z : Nat} {t : GT} {s : GS} {b : GB} {n : GN} {f : GF} {v : GV} {p : GT} {r : GR} {h : GH} {σ : xM} {aC : Nat → ClassId}
theorem ls_fill {at' : Nat} (hL : aC 104 ≤ 260) (H : LSt C Z t s b n f v p r h σ) (ha : at' ≤ 900) : QK (f_L_fill aC σ xkX (Int32.ofNat (at')) 4561) (fun y => ∃ σ' C' nn, y = ((Int32.ofNat (nn)), σ') ∧ 1 ≤ nn ∧ nn ≤ 60 ∧ RowOK C' nn ∧ LSt C' Z t s b n f v p r h σ') := by
  unfold f_L_fill
  obtain ⟨x, ex⟩ := cell_ok (aC := aC) (σ := σ) hL (k := at') (by omega)
  obtain ⟨j, hj, ej⟩ := low_ok (σ := σ) x (d := 9) (by decide) (by decide)
  have ej : f_L_low σ x 9 = some (Int32.ofNat (j)) := ej
  rw [q_let, q_let, q_let, ex, Option.bind_some, ej, Option.bind_some, q_let, q_let, show (1 : Int32) + (Int32.ofNat (j)) = (Int32.ofNat (1 + j)) from n_add 1 j]
  generalize hmany : 1 + j = many at *
  refine q_bind (P := fun o => ∃ σ' C' nn op, o = .inr (xkX, (Int32.ofNat (at')), 4561, (Int32.ofNat (nn)), (Int32.ofNat (op)), σ') ∧ 1 ≤ nn ∧ nn ≤ 20 ∧ op ≤ 10 ∧ RowOK C' nn ∧ LSt C' Z t s b n f v p r h σ') ?_ ?_
  · refine q_for 11 (fun k x => ∃ σ' C' nn op w, x = (xkX, (Int32.ofNat (at')), 4561, (Int32.ofNat (nn)), (Int32.ofNat (op)), w, (Int32.ofNat (many)), (Int32.ofNat (k)), σ') ∧ nn ≤ 2 * k ∧ op ≤ k ∧ (w = 0 ∨ w = 1) ∧ RowOK C' nn ∧ LSt C' Z t s b n f v p r h σ' ∧ (1 ≤ k → 1 ≤ nn) ∧ k ≤ many + 1 ∧ (k = many + 1 → w = 0)) ?_ ?_ (i := 0) ⟨σ, C, 0, 0, 1, rfl, Nat.le_refl _, Nat.le_refl _, Or.inr rfl, fun x hx => absurd hx (Nat.not_lt_zero x), H, fun y => absurd y (by decide), Nat.zero_le _, fun y => by omega⟩ (Nat.zero_le _) (by unfold xF; omega)
    · rintro k _ hk ⟨σ1, C1, nn, op, w, rfl, a1, a2, a3, a4, H1, a5, a6, a7⟩
      unfold f_L_fill_s25
      rw [q_let, q_let, q_let, q_let, q_let, q_let, q_let, q_let, q_let]
      dsimp only
      have body : (w = 1 ∨ k < many) → k ≤ many → QK (f_L_fill_j37 aC σ1 xkX (Int32.ofNat (at')) 4561 (Int32.ofNat (nn)) (Int32.ofNat (op)) w (Int32.ofNat (many)) (Int32.ofNat (k))) (qS (fun x => ∃ σ' C' nn op w, x = (xkX, (Int32.ofNat (at')), 4561, (Int32.ofNat (nn)), (Int32.ofNat (op)), w, (Int32.ofNat (many)), (Int32.ofNat (k + 1)), σ') ∧ nn ≤ 2 * (k + 1) ∧ op ≤ k + 1 ∧ (w = 0 ∨ w = 1) ∧ RowOK C' nn ∧ LSt C' Z t s b n f v p r h σ' ∧ (1 ≤ k + 1 → 1 ≤ nn) ∧ k + 1 ≤ many + 1 ∧ (k + 1 = many + 1 → w = 0)) (fun o => ∃ σ' C' nn op, o = .inr (xkX, (Int32.ofNat (at')), 4561, (Int32.ofNat (nn)), (Int32.ofNat (op)), σ') ∧ 1 ≤ nn ∧ nn ≤ 20 ∧ op ≤ 10 ∧ RowOK C' nn ∧ LSt C' Z t s b n f v p r h σ')) := fun hw hkm => by
        refine q_mono (fi_body (Q := fun _ => False) hL H1 a4 (by omega) (by omega) a3 (by omega) (by omega) (by omega) hw) ?_
        intro y hy
        rcases y with g | (e | y)
        · exact hy.elim
        · exact hy.elim
        · obtain ⟨σ2, C2, nn2, op2, w2, rfl, b1, b2, b3, b4, b5, b6, b7⟩ := hy
          exact ⟨σ2, C2, nn2, op2, w2, rfl, by omega, by omega, b4, b5, b6, fun _ => by omega, by omega, fun y => b7.resolve_right (by omega)⟩
      by_cases q : k < many
      · rw [if_pos ((i32_lt (by omega) (by omega)).mpr q)]
        exact body (Or.inr q) (by omega)
      · rw [if_neg (fun y => q ((i32_lt (by omega) (by omega)).mp y))]
        by_cases q2 : w = 0
        · rw [if_pos q2]
          exact q_ex ⟨σ1, C1, nn, op, rfl, a5 (by omega), by omega, by omega, a4, H1⟩
        · rw [if_neg q2]
          have hk2 : k ≤ many := by
            rcases Nat.lt_or_ge many k with y | y
            · exact absurd (a7 (by omega)) q2
            · exact y
          exact body (Or.inl (a3.resolve_left q2)) hk2
    · rintro _ ⟨σ1, C1, nn, op, w, rfl, a1, a2, a3, a4, H1, a5, a6, a7⟩
      omega
  rintro _ ⟨σ1, C1, nn, op, rfl, a1, a2, a3, a4, H1⟩
  rw [Sum.elim_inr]
  unfold f_L_fill_j311
  dsimp only
  rw [q_let]
  refine q_bind (P := fun o => ∃ σ' C', o = .inr (xkX, (Int32.ofNat (at')), 4561, (Int32.ofNat (nn + op)), σ') ∧ RowOK C' (nn + op) ∧ LSt C' Z t s b n f v p r h σ') ?_ ?_
  · refine q_for op (fun k x => ∃ σ' C', x = (xkX, (Int32.ofNat (at')), 4561, (Int32.ofNat (nn + k)), (Int32.ofNat (op)), (Int32.ofNat (k)), σ') ∧ RowOK C' (nn + k) ∧ LSt C' Z t s b n f v p r h σ') ?_ ?_ (i := 0) ⟨σ1, C1, rfl, a4, H1⟩ (Nat.zero_le _) (by unfold xF; omega)
    · rintro k _ hk ⟨σ2, C2, rfl, c1, H2⟩
      obtain ⟨σ3, C3, e3, H3, -, r3⟩ := row_put (c := 41) H2 c1 (Nat.le_refl _) (by omega) (by decide)
      rw [if_pos rfl] at r3
      have e3 : wI σ2 4561 (Int32.ofNat (nn + k)) 41 = some σ3 := e3
      unfold f_L_fill_s314
      rw [q_let, q_let, q_let, q_let, q_let, q_let, q_let]
      dsimp only
      rw [if_neg (show ¬ (Int32.ofNat (op)) ≤ (Int32.ofNat (k)) from fun y => absurd ((i32_le (by omega) (by omega)).mp y) (by omega)), e3, Option.bind_some, q_let, q_let, show (Int32.ofNat (nn + k)) + (1 : Int32) = (Int32.ofNat (nn + (k + 1))) from n_add (nn + k) 1, show (Int32.ofNat (k)) + (1 : Int32) = (Int32.ofNat (k + 1)) from n_add k 1]
      exact q_go ⟨σ3, C3, rfl, r3, H3⟩
    · rintro _ ⟨σ2, C2, rfl, c1, H2⟩
      unfold f_L_fill_s314
      rw [q_let, q_let, q_let, q_let, q_let, q_let, q_let]
      dsimp only
      rw [if_pos ((i32_le (by omega) (by omega)).mpr (Nat.le_refl _))]
      exact q_ex ⟨σ2, C2, rfl, c1, H2⟩
  rintro _ ⟨σ2, C2, rfl, c1, H2⟩
  rw [Sum.elim_inr]
  unfold f_L_fill_j335 f_L_fill_j380
  dsimp only
  obtain ⟨x15, e15⟩ := cell_ok (aC := aC) (σ := σ2) hL (k := at' + 15) (by omega)
  obtain ⟨j15, h15, l15⟩ := low_ok (σ := σ2) x15 (d := 4) (by decide) (by decide)
  have l15 : f_L_low σ2 x15 4 = some (Int32.ofNat (j15)) := l15
  rw [show (Int32.ofNat (at')) + (15 : Int32) = (Int32.ofNat (at' + 15)) from n_add at' 15, e15, Option.bind_some, l15, Option.bind_some]
  split
  · obtain ⟨x16, e16⟩ := cell_ok (aC := aC) (σ := σ2) hL (k := at' + 16) (by omega)
    obtain ⟨j16, h16, l16⟩ := low_ok (σ := σ2) x16 (d := nn + op) (by omega) (by omega)
    obtain ⟨x17, e17⟩ := cell_ok (aC := aC) (σ := σ2) hL (k := at' + 17) (by omega)
    obtain ⟨j17, h17, l17⟩ := low_ok (σ := σ2) x17 (d := 95) (by decide) (by decide)
    have l17 : f_L_low σ2 x17 95 = some (Int32.ofNat (j17)) := l17
    obtain ⟨σ3, C3, e3, H3, -, r3⟩ := row_put (j := j16) (c := 32 + j17) H2 c1 (by omega) (by omega) (by omega)
    rw [if_neg (by omega)] at r3
    rw [show (Int32.ofNat (at')) + (16 : Int32) = (Int32.ofNat (at' + 16)) from n_add at' 16, e16, Option.bind_some, l16, Option.bind_some, show (Int32.ofNat (at')) + (17 : Int32) = (Int32.ofNat (at' + 17)) from n_add at' 17, e17, Option.bind_some, l17, Option.bind_some, show (32 : Int32) + (Int32.ofNat (j17)) = (Int32.ofNat (32 + j17)) from n_add 32 j17, e3, Option.bind_some]
    exact q_ok ⟨σ3, C3, nn + op, rfl, by omega, by omega, r3, H3⟩
  · exact q_ok ⟨σ2, C2, nn + op, rfl, by omega, by omega, c1, H2⟩
end LFJ
