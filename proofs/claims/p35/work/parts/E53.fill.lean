/-! the law's texts out of cells -/
theorem low_ok {σ : xM} (v : Int32) {d : Nat} (hd : 0 < d) (hd2 : d < 2147483648) : ∃ j, j < d ∧ f_L_low σ v (Int32.ofNat (d)) = some (Int32.ofNat (j)) := by
  have hU : ∃ U, U < 2147483648 ∧ v &&& (2147483647 : Int32) = (Int32.ofNat (U)) := by
    refine ⟨v.toBitVec.toNat &&& 2147483647, ?_, ?_⟩
    · have : v.toBitVec.toNat &&& 2147483647 ≤ 2147483647 := Nat.and_le_right
      omega
    · apply Int32.toBitVec_inj.mp
      rw [Int32.toBitVec_and]
      apply BitVec.eq_of_toNat_eq
      rw [BitVec.toNat_and]
      have : v.toBitVec.toNat &&& 2147483647 ≤ 2147483647 := Nat.and_le_right
      show v.toBitVec.toNat &&& 2147483647 = (v.toBitVec.toNat &&& 2147483647) % 2 ^ 32
      rw [Nat.mod_eq_of_lt (by omega)]
  obtain ⟨U, u1, u2⟩ := hU
  refine ⟨U % d, Nat.mod_lt _ hd, ?_⟩
  unfold f_L_low
  rw [if_neg (show ¬ (Int32.ofNat (d)) = 0 from i32_ne (b := 0) (by omega) (by omega) (by omega)), u2, n_div u1 hd2, n_mul, n_sub (Nat.div_mul_le_self U d)]
  congr 2
  have := Nat.div_add_mod U d
  rw [Nat.mul_comm] at this
  omega
def sgL (j : Nat) : Nat := [43, 45, 42, 47, 37, 94, 33, 38, 124, 60, 62, 61, 126, 64, 35, 63].getD j 63
theorem sign_ok {σ : xM} : ∀ j, j < 16 → f_L_sign σ (Int32.ofNat (j)) = some (Int32.ofNat (sgL j)) := by
  intro j hj
  unfold f_L_sign
  rcases (by omega : j = 0 ∨ j = 1 ∨ j = 2 ∨ j = 3 ∨ j = 4 ∨ j = 5 ∨ j = 6 ∨ j = 7 ∨ j = 8 ∨ j = 9 ∨ j = 10 ∨ j = 11 ∨ j = 12 ∨ j = 13 ∨ j = 14 ∨ j = 15) with rfl | rfl | rfl | rfl | rfl | rfl | rfl | rfl | rfl | rfl | rfl | rfl | rfl | rfl | rfl | rfl <;> rfl
theorem sgL_lt : ∀ j, j < 16 → sgL j < 128 := by decide
theorem cell_ok {aC : Nat → ClassId} {σ : xM} (hL : aC 104 ≤ 260) {k : Nat} (hk : k < 2147483648) : ∃ x, f_L_cell aC σ xkX (Int32.ofNat (k)) = some x := by
  unfold f_L_cell
  rw [if_pos rfl]
  by_cases q : (Int32.ofNat (aC 104)) ≤ (Int32.ofNat (k))
  · rw [if_pos q]
    exact ⟨_, rfl⟩
  · rw [if_neg q, if_pos rfl]
    have hk2 : k < aC 104 := by
      have hL : aC 104 ≤ 260 := hL
      rcases Nat.lt_or_ge k (aC 104) with y | y
      · exact y
      · exact absurd ((i32_le (by omega) hk).mpr y) q
    unfold xLd
    rw [if_pos (xvi_nat hk2 (Nat.le_trans hL (by decide)))]
    exact ⟨_, rfl⟩
section LFI
variable {C : Nat → Nat → Int32} {Z : Nat} {t : GT} {s : GS} {b : GB} {n : GN} {f : GF} {v : GV} {p : GT} {r : GR} {h : GH} {σ : xM} {aC : Nat → ClassId}
/-- a row holds so many characters -/
def RowOK (C : Nat → Nat → Int32) (m : Nat) : Prop := ∀ x, x < m → ∃ c, c < 65536 ∧ C 4561 x = (Int32.ofNat (c))
theorem row_put {m j c : Nat} (H : LSt C Z t s b n f v p r h σ) (hr : RowOK C m) (hj : j ≤ m) (hm : m < 60) (hc : c < 65536) : ∃ σ' C', wI σ 4561 (Int32.ofNat (j)) (Int32.ofNat (c)) = some σ' ∧ LSt C' Z t s b n f v p r h σ' ∧ C' 4561 j = (Int32.ofNat (c)) ∧ RowOK C' (if j = m then m + 1 else m) := by
  obtain ⟨σ', e, H'⟩ := ls_wI (a := 4561) (k := j) (w := (Int32.ofNat (c))) H (Nat.le_refl _) (by omega) (by omega)
  have at1 : ∀ x, va_up C 4561 (va_up (C 4561) j (Int32.ofNat (c))) 4561 x = if x = j then (Int32.ofNat (c)) else C 4561 x := fun x => by
    unfold va_up
    rw [if_pos rfl]
  refine ⟨σ', _, e, H', by rw [at1, if_pos rfl], fun x hx => ?_⟩
  rw [at1]
  by_cases y : x = j
  · rw [if_pos y]
    exact ⟨c, hc, rfl⟩
  · rw [if_neg y]
    refine hr x ?_
    split at hx <;> omega
/-- what a turn of filling leaves -/
def FiP (Z : Nat) (t : GT) (s : GS) (b : GB) (n : GN) (f : GF) (v : GV) (p : GT) (r : GR) (h : GH) (at' nn op many k : Nat) (x : Nat × Int32 × Nat × Int32 × Int32 × Int32 × Int32 × Int32 × xM) : Prop := ∃ σ' C' nn' op' w', x = (xkX, (Int32.ofNat (at')), 4561, (Int32.ofNat (nn')), (Int32.ofNat (op')), w', (Int32.ofNat (many)), (Int32.ofNat (k + 1)), σ') ∧ nn < nn' ∧ nn' ≤ nn + 2 ∧ op' ≤ op + 1 ∧ (w' = 0 ∨ w' = 1) ∧ RowOK C' nn' ∧ LSt C' Z t s b n f v p r h σ' ∧ (w' = 0 ∨ k < many)
theorem fi_302 {at' nn op many k nn' op' : Nat} {w' : Int32} {Q : (Int32 × xM) ⊕ (Nat × Int32 × Nat × Int32 × Int32 × xM) → Prop} (H : LSt C Z t s b n f v p r h σ) (h1 : nn ≤ nn') (h2 : nn' + 1 ≤ nn + 2) (h3 : op' ≤ op + 1) (h4 : w' = 0 ∨ w' = 1) (hr : RowOK C (nn' + 1)) (hw : w' = 0 ∨ k < many) : QK (f_L_fill_j302 aC σ xkX (Int32.ofNat (at')) 4561 (Int32.ofNat (nn')) (Int32.ofNat (op')) w' (Int32.ofNat (many)) (Int32.ofNat (k))) (qS (FiP Z t s b n f v p r h at' nn op many k) Q) := by
  unfold f_L_fill_j302
  rw [q_let, q_let, show (Int32.ofNat (nn')) + (1 : Int32) = (Int32.ofNat (nn' + 1)) from n_add nn' 1, show (Int32.ofNat (k)) + (1 : Int32) = (Int32.ofNat (k + 1)) from n_add k 1]
  exact q_go ⟨σ, C, nn' + 1, op', w', rfl, by omega, by omega, h3, h4, hr, H, hw⟩
theorem fi_body {at' nn op many k : Nat} {w : Int32} {Q : (Int32 × xM) ⊕ (Nat × Int32 × Nat × Int32 × Int32 × xM) → Prop} (hL : aC 104 ≤ 260) (H : LSt C Z t s b n f v p r h σ) (hr : RowOK C nn) (hn : nn + 2 ≤ 60) (ho : op ≤ 60) (hw : w = 0 ∨ w = 1) (ha : at' ≤ 1000) (hk : k ≤ 60) (hm : many ≤ 60) (hkw : w = 1 ∨ k < many) : QK (f_L_fill_j37 aC σ xkX (Int32.ofNat (at')) 4561 (Int32.ofNat (nn)) (Int32.ofNat (op)) w (Int32.ofNat (many)) (Int32.ofNat (k))) (qS (FiP Z t s b n f v p r h at' nn op many k) Q) := by
  unfold f_L_fill_j37
  obtain ⟨x, ex⟩ := cell_ok (aC := aC) (σ := σ) hL (k := at' + 1 + k) (by omega)
  rw [show (Int32.ofNat (at')) + (1 : Int32) + (Int32.ofNat (k)) = (Int32.ofNat (at' + 1 + k)) by rw [show (Int32.ofNat (at')) + (1 : Int32) = (Int32.ofNat (at' + 1)) from n_add at' 1, n_add], ex, Option.bind_some]
  obtain ⟨kd, hkd, ek⟩ := low_ok (σ := σ) x (d := 16) (by decide) (by decide)
  have ek : f_L_low σ x 16 = some (Int32.ofNat (kd)) := ek
  rw [ek, Option.bind_some]
  -- a sign or so is put: an operand is awaited or not
  have j129 : ∀ (l10 : Int32) (c : Nat), (l10 = 0 ∨ (l10 = 1 ∧ 0 < op)) → c < 65536 → (k < many) → QK (f_L_fill_j129 aC σ xkX (Int32.ofNat (at')) 4561 (Int32.ofNat (nn)) (Int32.ofNat (op)) (Int32.ofNat (many)) (Int32.ofNat (k)) l10 (Int32.ofNat (c)) (Int32.ofNat (nn)) 4561) (qS (FiP Z t s b n f v p r h at' nn op many k) Q) := by
    intro l10 c hl hc hkm
    obtain ⟨σ1, C1, e1, H1, c1, r1⟩ := row_put H hr (Nat.le_refl _) (by omega) hc
    rw [if_pos rfl] at r1
    unfold f_L_fill_j129
    rw [e1, Option.bind_some]
    have fin : ∀ (w' : Int32) (op' : Nat), (w' = 0 ∨ w' = 1) → op' ≤ op → QK (f_L_fill_j163 aC σ1 xkX (Int32.ofNat (at')) 4561 (Int32.ofNat (nn)) (Int32.ofNat (op')) (Int32.ofNat (many)) (Int32.ofNat (k)) w') (qS (FiP Z t s b n f v p r h at' nn op many k) Q) := fun w' op' q1 q2 => by
      unfold f_L_fill_j163
      exact fi_302 H1 (Nat.le_refl _) (by omega) (by omega) q1 r1 (Or.inr hkm)
    rcases hl with rfl | ⟨rfl, hop⟩
    · rw [if_pos rfl]
      unfold f_L_fill_j142
      rw [q_let, if_pos rfl, ls_aI H1 (Nat.le_refl _) (by omega) (by omega), Option.bind_some, show (Int32.ofNat (op)) - (0 : Int32) = (Int32.ofNat (op)) from n_sub (b := 0) (Nat.zero_le _)]
      unfold f_L_fill_j162
      split
      · exact fin 0 op (Or.inl rfl) (Nat.le_refl _)
      · exact fin 1 op (Or.inr rfl) (Nat.le_refl _)
    · rw [if_neg (show ¬ (1 : Int32) = 0 by decide)]
      unfold f_L_fill_j142
      rw [q_let, if_neg (show ¬ (1 : Int32) = 0 by decide), show (Int32.ofNat (op)) - (1 : Int32) = (Int32.ofNat (op - 1)) from n_sub (b := 1) (by omega)]
      unfold f_L_fill_j162
      exact fin 0 (op - 1) (Or.inl rfl) (by omega)
  have j123 : ∀ (d : Nat) (y : Int32), 0 < d → d ≤ 16 → k < many → QK (f_L_fill_j123 aC σ xkX (Int32.ofNat (at')) 4561 (Int32.ofNat (nn)) (Int32.ofNat (op)) (Int32.ofNat (many)) (Int32.ofNat (k)) 0 (Int32.ofNat (d)) y (Int32.ofNat (nn)) 4561) (qS (FiP Z t s b n f v p r h at' nn op many k) Q) := by
    intro d y d1 d2 hkm
    obtain ⟨j, hj, ej⟩ := low_ok (σ := σ) y d1 (by omega)
    unfold f_L_fill_j123
    rw [ej, Option.bind_some, sign_ok j (by omega), Option.bind_some]
    exact j129 0 (sgL j) (Or.inl rfl) (by have := sgL_lt j (by omega); omega) hkm
  have j79 : ∀ l10 : Int32, (l10 = 0 ∨ (l10 = 1 ∧ 0 < op)) → k < many → QK (f_L_fill_j79 aC σ xkX (Int32.ofNat (at')) 4561 (Int32.ofNat (nn)) (Int32.ofNat (op)) (Int32.ofNat (many)) (Int32.ofNat (k)) x (Int32.ofNat (kd)) l10) (qS (FiP Z t s b n f v p r h at' nn op many k) Q) := by
    intro l10 hl hkm
    unfold f_L_fill_j79
    rcases hl with rfl | ⟨rfl, hop⟩
    · rw [if_pos rfl]
      split
      · exact j129 0 44 (Or.inl rfl) (by decide) hkm
      · split
        · exact j123 16 _ (by decide) (by decide) hkm
        · exact j123 12 _ (by decide) (by decide) hkm
    · rw [if_neg (show ¬ (1 : Int32) = 0 by decide)]
      exact j129 1 41 (Or.inr ⟨rfl, hop⟩) (by decide) hkm
  rcases hw with rfl | rfl
  · -- behind an operand
    have hkm : k < many := hkw.resolve_left (by decide)
    rw [if_pos rfl]
    unfold f_L_fill_j78
    by_cases q : (Int32.ofNat (op)) ≤ 0
    · rw [if_pos q]
      exact j79 0 (Or.inl rfl) hkm
    · rw [if_neg q]
      split
      · exact j79 0 (Or.inl rfl) hkm
      · exact j79 1 (Or.inr ⟨rfl, Nat.pos_of_ne_zero (fun y => q (by rw [y]; decide))⟩) hkm
  · rw [if_neg (show ¬ (1 : Int32) = 0 by decide)]
    -- an operand
    have j270 : ∀ c : Nat, c < 65536 → QK (f_L_fill_j270 aC σ xkX (Int32.ofNat (at')) 4561 (Int32.ofNat (nn)) (Int32.ofNat (op)) (Int32.ofNat (many)) (Int32.ofNat (k)) (Int32.ofNat (kd)) (Int32.ofNat (c)) (Int32.ofNat (nn)) 4561) (qS (FiP Z t s b n f v p r h at' nn op many k) Q) := by
      intro c hc
      obtain ⟨σ1, C1, e1, H1, c1, r1⟩ := row_put H hr (Nat.le_refl _) (by omega) hc
      rw [if_pos rfl] at r1
      unfold f_L_fill_j270
      rw [e1, Option.bind_some, q_let]
      have fin : QK (f_L_fill_j302 aC σ1 xkX (Int32.ofNat (at')) 4561 (Int32.ofNat (nn)) (Int32.ofNat (op)) 0 (Int32.ofNat (many)) (Int32.ofNat (k))) (qS (FiP Z t s b n f v p r h at' nn op many k) Q) := fi_302 H1 (Nat.le_refl _) (by omega) (by omega) (Or.inl rfl) r1 (Or.inl rfl)
      split
      · by_cases q : (Int32.ofNat (many)) ≤ (Int32.ofNat (k))
        · rw [if_pos q]
          exact fin
        · rw [if_neg q, q_let, show (Int32.ofNat (nn)) + (1 : Int32) = (Int32.ofNat (nn + 1)) from n_add nn 1]
          have hkm : k < many := by
            rcases Nat.lt_or_ge k many with y | y
            · exact y
            · exact absurd ((i32_le (by omega) (by omega)).mpr y) q
          obtain ⟨σ2, C2, e2, H2, c2, r2⟩ := row_put (c := 40) H1 r1 (Nat.le_refl _) (by omega) (by decide)
          rw [if_pos rfl] at r2
          have e2 : wI σ1 4561 (Int32.ofNat (nn + 1)) 40 = some σ2 := e2
          rw [e2, Option.bind_some, q_let, q_let, show (Int32.ofNat (op)) + (1 : Int32) = (Int32.ofNat (op + 1)) from n_add op 1]
          exact fi_302 H2 (by omega) (by omega) (by omega) (Or.inr rfl) r2 (Or.inr hkm)
      · exact fin
    have j237 : QK (f_L_fill_j237 aC σ xkX (Int32.ofNat (at')) 4561 (Int32.ofNat (nn)) (Int32.ofNat (op)) (Int32.ofNat (many)) (Int32.ofNat (k)) x (Int32.ofNat (kd))) (qS (FiP Z t s b n f v p r h at' nn op many k) Q) := by
      unfold f_L_fill_j237
      obtain ⟨j, hj, ej⟩ := low_ok (σ := σ) (x >>> ((4 : Int32) &&& 31)) (d := 10) (by decide) (by decide)
      have ej : f_L_low σ (x >>> ((4 : Int32) &&& 31)) 10 = some (Int32.ofNat (j)) := ej
      rw [ej, Option.bind_some]
      split
      · rw [show (113 : Int32) + (Int32.ofNat (j)) = (Int32.ofNat (113 + j)) from n_add 113 j]
        exact j270 _ (by omega)
      · rw [show (48 : Int32) + (Int32.ofNat (j)) = (Int32.ofNat (48 + j)) from n_add 48 j]
        exact j270 _ (by omega)
    by_cases q : (Int32.ofNat (many)) ≤ (Int32.ofNat (k))
    · rw [if_pos q]
      exact j237
    rw [if_neg q]
    have hkm : k < many := by
      rcases Nat.lt_or_ge k many with y | y
      · exact y
      · exact absurd ((i32_le (by omega) (by omega)).mpr y) q
    -- what stands ahead of an operand
    have j218 : ∀ c : Nat, c < 65536 → QK (f_L_fill_j218 aC σ xkX (Int32.ofNat (at')) 4561 (Int32.ofNat (nn)) (Int32.ofNat (op)) 1 (Int32.ofNat (many)) (Int32.ofNat (k)) (Int32.ofNat (kd)) (Int32.ofNat (c)) (Int32.ofNat (nn)) 4561) (qS (FiP Z t s b n f v p r h at' nn op many k) Q) := by
      intro c hc
      obtain ⟨σ1, C1, e1, H1, c1, r1⟩ := row_put H hr (Nat.le_refl _) (by omega) hc
      rw [if_pos rfl] at r1
      unfold f_L_fill_j218
      rw [e1, Option.bind_some]
      split
      · unfold f_L_fill_j231
        rw [q_let, show (Int32.ofNat (op)) + (1 : Int32) = (Int32.ofNat (op + 1)) from n_add op 1]
        exact fi_302 H1 (Nat.le_refl _) (by omega) (by omega) (Or.inr rfl) r1 (Or.inr hkm)
      · unfold f_L_fill_j231
        rw [q_let, show (Int32.ofNat (op)) + (0 : Int32) = (Int32.ofNat (op)) from n_add op 0]
        exact fi_302 H1 (Nat.le_refl _) (by omega) (by omega) (Or.inr rfl) r1 (Or.inr hkm)
    split
    · exact j237
    · split
      · exact j218 40 (by decide)
      · split
        · exact j218 45 (by decide)
        · obtain ⟨j, hj, ej⟩ := low_ok (σ := σ) (x >>> ((4 : Int32) &&& 31)) (d := 4) (by decide) (by decide)
          have ej : f_L_low σ (x >>> ((4 : Int32) &&& 31)) 4 = some (Int32.ofNat (j)) := ej
          rw [ej, Option.bind_some, show (12 : Int32) + (Int32.ofNat (j)) = (Int32.ofNat (12 + j)) from n_add 12 j, sign_ok _ (by omega), Option.bind_some]
          exact j218 _ (by have := sgL_lt (12 + j) (by omega); omega)
end LFI
