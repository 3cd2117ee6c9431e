/-! the reference's trees: one in place of names -/
section MTB
variable {I : Nat → Nat → Int32} {J : Nat → Nat → Int64} {R : Nat → Nat → Option Nat} {b n d m : Nat} {nd nd' : Nat → Nd} {sp sp' : Nat → Nat} {β : Type}
theorem M_isRange {j : Nat} (hR : RA R) (h : MT I b n nd sp) (hj : j < n) (hv : ∀ x, x < n → (nd x).1 = 2 → 1 ≤ (nd x).2.2.2) : f_X12_isRange (mg 4625 I J R) 4561 (Int32.ofNat (b)) (Int32.ofNat (b + j)) = some (if 0 < j ∧ (nd (j - 1)).1 = 2 ∧ (nd (j - 1)).2.1 = 115 then 1 else 0) := by
  have hb := h.1.1
  unfold f_X12_isRange f_X12_isRange_j45 f_X12_isRange_j46
  by_cases q : j = 0
  · subst q
    rw [if_pos ((i32_le (by omega) (by omega)).mpr (by omega)), if_neg (fun z => absurd z.1 (by omega))]
    rfl
  · obtain ⟨g1, g2, g3, g4, g5⟩ := h.1.2 (j - 1) (by omega)
    rw [if_neg (fun z => absurd ((i32_le (by omega) (by omega)).mp z) (by omega)), show (Int32.ofNat (b + j)) - 1 = (Int32.ofNat (b + (j - 1))) from by rw [show b + (j - 1) = b + j - 1 by omega]; exact n_sub (a := b + j) (b := 1) (by omega), gr_4561_4 hR, ga_4565 (by omega), g1]
    by_cases z : (nd (j - 1)).1 = 2
    · rw [if_pos z, gr_4561_5 hR, ga_4566 (by omega), g2]
      by_cases w : (nd (j - 1)).2.1 = 115
      · have := hv (j - 1) (by omega) z
        rw [if_pos w, gr_4561_7 hR, ga_4568 (by omega), g4, if_neg (show ¬ (Int32.ofNat ((nd (j - 1)).2.2.2)) ≤ (0 : Int32) from fun y => absurd ((i32_le (m := 0) (by omega) (by omega)).mp y) (by omega)), if_pos ⟨by omega, z, w⟩]
        rfl
      · rw [if_neg w, if_neg (fun y => w y.2.2)]
        rfl
    · rw [if_neg z, if_neg (fun y => z y.2.1)]
      rfl
theorem M_grafted {c : Int32} (hR : RA R) (h : MT I b n nd sp) (h' : MT I d m nd' sp') (hv : ∀ x, x < n → (nd x).1 = 2 → 1 ≤ (nd x).2.2.2) (hb : b + n ≤ 13540) (hd : d + m ≤ 13540) : QK (f_X12_grafted (mg 4625 I J R) 4561 (Int32.ofNat (b)) c (Int32.ofNat (d))) (fun r => (gc nd c m n ≤ 80 ∧ ∃ I', r = ((Int32.ofNat (gc nd c m n)), mg 4625 I' J R) ∧ FrK (Sm 13540 13640) I I' ∧ MN I' 13540 (gc nd c m n) (gb nd c m nd' n)) ∨ (80 < gc nd c m n ∧ ∃ I', r = (81, mg 4625 I' J R) ∧ FrK (Sm 13540 13640) I I')) := by
  have e0 : I 4569 b = (Int32.ofNat (n)) := by
    have := h.2.2 0 h.2.1.1
    rw [h.2.1.2.2.1] at this
    exact this
  have e0' : I 4569 d = (Int32.ofNat (m)) := by
    have := h'.2.2 0 h'.2.1.1
    rw [h'.2.1.2.2.1] at this
    exact this
  have m0 := h'.2.1.1
  unfold f_X12_grafted
  rw [q_let]
  refine q_bind (P := fun r => (gc nd c m n ≤ 80 ∧ ∃ I', r = .inr (.inr ((Int32.ofNat (gc nd c m n)), mg 4625 I' J R)) ∧ FrK (Sm 13540 13640) I I' ∧ MN I' 13540 (gc nd c m n) (gb nd c m nd' n)) ∨ (80 < gc nd c m n ∧ ∃ I', r = .inr (.inl (mg 4625 I' J R)) ∧ FrK (Sm 13540 13640) I I')) ?_ ?_
  · refine q_for n (fun k s => ∃ I', s = (4561, (Int32.ofNat (b)), c, (Int32.ofNat (d)), (Int32.ofNat (gc nd c m k)), (Int32.ofNat (b + k)), mg 4625 I' J R) ∧ gc nd c m k ≤ 80 ∧ FrK (Sm 13540 13640) I I' ∧ MN I' 13540 (gc nd c m k) (gb nd c m nd' k)) ?_ ?_ (i := 0) ⟨I, rfl, Nat.zero_le _, FrK_rfl, by show 13540 + 0 ≤ 20300; omega, fun i hi => absurd hi (Nat.not_lt_zero _)⟩ (by omega) (by unfold xF; omega)
    · rintro k s hk ⟨I', rfl, hg, hF, hM⟩
      have cb : MT I' b n nd sp := MT_keep h (fun a x h1 h2 h3 h4 => hF a x (fun z => by unfold Sm at z; omega))
      have cd : MT I' d m nd' sp' := MT_keep h' (fun a x h1 h2 h3 h4 => hF a x (fun z => by unfold Sm at z; omega))
      have f0 : I' 4569 b = (Int32.ofNat (n)) := by rw [hF _ _ (fun z => by unfold Sm at z; omega), e0]
      have f0' : I' 4569 d = (Int32.ofNat (m)) := by rw [hF _ _ (fun z => by unfold Sm at z; omega), e0']
      obtain ⟨g1, g2, g3, g4, g5⟩ := cb.1.2 k hk
      unfold f_X12_grafted_s6
      dsimp only
      rw [q_let, q_let, q_let, q_let, q_let, q_let, q_let, gr_4561_8 hR, ga_4569 (by omega), f0, n_add, if_neg (fun z => absurd ((i32_le (by omega) (by omega)).mp z) (by omega)), gr_4561_4 hR, ga_4565 (by omega), g1]
      have mono := gc_mono (nd := nd) (c := c) (m := m) (k := k + 1) (n := n) (by omega) (by omega)
      have j56 : ∀ u : Int32, u = (if repl nd c k = true then 1 else 0) → QK (f_X12_grafted_j56 (mg 4625 I' J R) 4561 (Int32.ofNat (b)) c (Int32.ofNat (d)) (Int32.ofNat (gc nd c m k)) (Int32.ofNat (b + k)) u) (qS (fun s => ∃ I', s = (4561, (Int32.ofNat (b)), c, (Int32.ofNat (d)), (Int32.ofNat (gc nd c m (k + 1))), (Int32.ofNat (b + (k + 1))), mg 4625 I' J R) ∧ gc nd c m (k + 1) ≤ 80 ∧ FrK (Sm 13540 13640) I I' ∧ MN I' 13540 (gc nd c m (k + 1)) (gb nd c m nd' (k + 1))) (fun r => (gc nd c m n ≤ 80 ∧ ∃ I', r = .inr (.inr ((Int32.ofNat (gc nd c m n)), mg 4625 I' J R)) ∧ FrK (Sm 13540 13640) I I' ∧ MN I' 13540 (gc nd c m n) (gb nd c m nd' n)) ∨ (80 < gc nd c m n ∧ ∃ I', r = .inr (.inl (mg 4625 I' J R)) ∧ FrK (Sm 13540 13640) I I'))) := by
        intro u hu
        unfold f_X12_grafted_j56 f_X12_grafted_j73 f_X12_grafted_j106
        by_cases w : repl nd c k = true
        · rw [if_pos w] at hu
          subst hu
          have e1 : gc nd c m (k + 1) = gc nd c m k + m := by
            show gc nd c m k + (if repl nd c k = true then m else 1) = _
            rw [if_pos w]
          have e2 : gb nd c m nd' (k + 1) = app (gb nd c m nd' k) (gc nd c m k) nd' 0 := by
            show (if repl nd c k = true then _ else _) = _
            rw [if_pos w]
          rw [if_neg (by decide), gr_4561_8 hR, ga_4569 (by omega), f0', n_add, ← e1]
          by_cases z : gc nd c m (k + 1) ≤ 80
          · rw [if_pos (show (Int32.ofNat (gc nd c m (k + 1))) ≤ (80 : Int32) from (i32_le (m := 80) (by omega) (by omega)).mpr z), if_neg (by decide), if_pos ok_4561, show (13540 : Int32) + (Int32.ofNat (gc nd c m k)) = (Int32.ofNat (13540 + gc nd c m k)) from n_add 13540 _]
            refine q_bind (M_copyNodes hR (by omega) (by omega) (by omega)) ?_
            rintro r ⟨I2, rfl, hF2, hC2⟩
            rw [q_let, q_let, show (Int32.ofNat (b + k)) + 1 = (Int32.ofNat (b + (k + 1))) from n_add (b + k) 1]
            refine q_go ⟨I2, rfl, z, FrK_tr hF (FrK_mono hF2 (fun a j y => by unfold Sm at y ⊢; omega)), by omega, fun i hi => ?_⟩
            rw [e2]
            by_cases y : i < gc nd c m k
            · have o := fun a => hF2 a (13540 + i) (fun x => by unfold Sm at x; omega)
              rw [o, o, o, o]
              have : app (gb nd c m nd' k) (gc nd c m k) nd' 0 i = gb nd c m nd' k i := by
                unfold app
                rw [if_pos y]
              rw [this]
              exact hM.2 i y
            · have o := fun a h1 h2 => hC2 a (i - gc nd c m k) h1 h2 (by omega)
              rw [show 13540 + gc nd c m k + (i - gc nd c m k) = 13540 + i by omega] at o
              rw [o 4565 (by omega) (by omega), o 4566 (by omega) (by omega), o 4567 (by omega) (by omega), o 4568 (by omega) (by omega)]
              have : app (gb nd c m nd' k) (gc nd c m k) nd' 0 i = nd' (i - gc nd c m k) := by
                unfold app
                rw [if_neg y, Nat.zero_add]
              rw [this]
              exact cd.1.2 _ (by omega)
          · rw [if_neg (show ¬ (Int32.ofNat (gc nd c m (k + 1))) ≤ (80 : Int32) from fun y => z ((i32_le (m := 80) (by omega) (by omega)).mp y))]
            exact q_ex (Or.inr ⟨by omega, I', rfl, hF⟩)
        · rw [if_neg w] at hu
          subst hu
          have e1 : gc nd c m (k + 1) = gc nd c m k + 1 := by
            show gc nd c m k + (if repl nd c k = true then m else 1) = _
            rw [if_neg w]
          have e2 : gb nd c m nd' (k + 1) = ext (gb nd c m nd' k) (gc nd c m k) (nd k) := by
            show (if repl nd c k = true then _ else _) = _
            rw [if_neg w]
          rw [if_pos rfl, show (Int32.ofNat (gc nd c m k)) + 1 = (Int32.ofNat (gc nd c m (k + 1))) from by rw [e1]; exact n_add _ 1]
          by_cases z : gc nd c m (k + 1) ≤ 80
          · rw [if_pos (show (Int32.ofNat (gc nd c m (k + 1))) ≤ (80 : Int32) from (i32_le (m := 80) (by omega) (by omega)).mpr z), if_pos rfl, if_pos ok_4561, show (13540 : Int32) + (Int32.ofNat (gc nd c m k)) = (Int32.ofNat (13540 + gc nd c m k)) from n_add 13540 _]
            refine q_bind (M_copyNodes (m := 1) hR (by omega) (by omega) (by omega)) ?_
            rintro r ⟨I2, rfl, hF2, hC2⟩
            rw [q_let, q_let, show (Int32.ofNat (b + k)) + 1 = (Int32.ofNat (b + (k + 1))) from n_add (b + k) 1]
            refine q_go ⟨I2, rfl, z, FrK_tr hF (FrK_mono hF2 (fun a j y => by unfold Sm at y ⊢; omega)), by omega, fun i hi => ?_⟩
            rw [e2]
            by_cases y : i = gc nd c m k
            · have o := fun a h1 h2 => hC2 a 0 h1 h2 (by omega)
              rw [Nat.add_zero, Nat.add_zero] at o
              have : ext (gb nd c m nd' k) (gc nd c m k) (nd k) i = nd k := by
                unfold ext
                rw [if_pos y]
              rw [this, y, o 4565 (by omega) (by omega), o 4566 (by omega) (by omega), o 4567 (by omega) (by omega), o 4568 (by omega) (by omega)]
              exact ⟨g1, g2, g3, g4, g5⟩
            · have o := fun a => hF2 a (13540 + i) (fun x => by unfold Sm at x; omega)
              rw [o, o, o, o]
              have : ext (gb nd c m nd' k) (gc nd c m k) (nd k) i = gb nd c m nd' k i := by
                unfold ext
                rw [if_neg y]
              rw [this]
              exact hM.2 i (by omega)
          · rw [if_neg (show ¬ (Int32.ofNat (gc nd c m (k + 1))) ≤ (80 : Int32) from fun y => z ((i32_le (m := 80) (by omega) (by omega)).mp y))]
            exact q_ex (Or.inr ⟨by omega, I', rfl, hF⟩)
      unfold f_X12_grafted_j55
      by_cases w1 : (nd k).1 = 1
      · rw [if_pos w1, gr_4561_5 hR, ga_4566 (by omega), g2]
        by_cases w2 : (nd k).2.1 = c
        · rw [if_pos w2, if_pos ok_4561, M_isRange hR cb hk hv, Option.bind_some]
          by_cases w3 : 0 < k ∧ (nd (k - 1)).1 = 2 ∧ (nd (k - 1)).2.1 = 115
          · rw [if_pos w3, if_neg (by decide)]
            exact j56 0 (by rw [if_neg (fun z => (of_decide_eq_true z).2.2 w3)])
          · rw [if_neg w3, if_pos rfl]
            exact j56 1 (by rw [if_pos (show repl nd c k = true from decide_eq_true ⟨w1, w2, w3⟩)])
        · rw [if_neg w2]
          exact j56 0 (by rw [if_neg (fun z => w2 (of_decide_eq_true z).2.1)])
      · rw [if_neg w1]
        exact j56 0 (by rw [if_neg (fun z => w1 (of_decide_eq_true z).1)])
    · rintro s ⟨I', rfl, hg, hF, hM⟩
      have f0 : I' 4569 b = (Int32.ofNat (n)) := by rw [hF _ _ (fun z => by unfold Sm at z; have := h.2.1.1; omega), e0]
      have n0 := h.2.1.1
      unfold f_X12_grafted_s6
      dsimp only
      rw [q_let, q_let, q_let, q_let, q_let, q_let, q_let, gr_4561_8 hR, ga_4569 (by omega), f0, n_add, if_pos ((i32_le (by omega) (by omega)).mpr (Nat.le_refl _))]
      exact q_ex (Or.inl ⟨hg, I', rfl, hF, hM⟩)
  · rintro r (⟨hg, I', rfl, hF, hM⟩ | ⟨hg, I', rfl, hF⟩)
    · simp only [Sum.elim_inr]
      unfold f_X12_grafted_j124
      exact q_ok (Or.inl ⟨hg, I', rfl, hF, hM⟩)
    · simp only [Sum.elim_inr, Sum.elim_inl]
      unfold f_X12_grafted_j85
      exact q_ok (Or.inr ⟨hg, I', rfl, hF⟩)
end MTB
