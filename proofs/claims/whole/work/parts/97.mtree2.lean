/-! the reference's trees: asked -/
section MTZ
variable {I : Nat → Nat → Int32} {J : Nat → Nat → Int64} {R : Nat → Nat → Option Nat} {b n : Nat} {nd : Nat → Nd} {sp : Nat → Nat} {β : Type}
theorem M_child {i k : Nat} (hR : RA R) (h : MT I b n nd sp) (hi : i < n) (hk : k ≤ aro nd i) : f_X12_child (mg 4625 I J R) 4561 (Int32.ofNat (b + i)) (Int32.ofNat (k)) = some (Int32.ofNat (b + kid sp i k)) := by
  have hb := h.1.1
  have le4 : aro nd i ≤ 4 := (h.1.2 i hi).2.2.2.2
  have key : QK (xloop (f_X12_child_s7 (mg 4625 I J R)) xF (4561, (Int32.ofNat (k)), (Int32.ofNat (b + i + 1)), 0)) (fun r => r = .inr (Int32.ofNat (b + kid sp i k))) := by
    refine q_for k (fun j s => s = (4561, (Int32.ofNat (k)), (Int32.ofNat (b + kid sp i j)), (Int32.ofNat (j)))) ?_ ?_ (i := 0) rfl (by omega) (by unfold xF; omega)
    · rintro j s hj rfl
      obtain ⟨g1, g2, g3⟩ := kid_in h.2.1 hi (show j < aro nd i by omega)
      have e9 := h.2.2 _ g2
      unfold f_X12_child_s7 xlet
      dsimp only
      conv => arg 1; simp (disch := omega) only [↓reduceIte, ↓q_let, ↓q_xz1, ↓q_xz0, ↓lg_cmp_ge, ↓lg_cmp_le, ↓lg_cmp_gt, ↓lg_cmp_lt, n_lit, j_lit, n_add, n_mul, n_sub, n_dec, Nat.add_sub_cancel, n_leT, n_leF, n_ltT, n_ltF, n_eqT, n_eqF, n_in, n_cl, n_m31, j_m63, j_of32, j_32, i64_add, i64_mul, jn_sub, j_leT, j_leF, j_ltT, j_ltF, j_eqF, jn_and30, jn_sar30, jn_shor, Int32.neg_neg, and_true, true_and, and_self, ↓gr_4561_8 hR, ↓ga_4569, e9]
      refine q_go ?_
      rw [Nat.add_assoc b]
      rfl
    · rintro s rfl
      unfold f_X12_child_s7 xlet
      dsimp only
      rw [if_pos ((i32_le (by omega) (by omega)).mpr (Nat.le_refl _))]
      exact q_ex rfl
  obtain ⟨r, er, rfl⟩ := key
  unfold f_X12_child f_X12_child_j28
  rw [q_let, q_let, show (Int32.ofNat (b + i)) + 1 = (Int32.ofNat (b + i + 1)) from n_add (b + i) 1, er]
  rfl
theorem M_areSame {b' n' : Nat} {nd' : Nat → Nd} {sp' : Nat → Nat} {i j : Nat} (hR : RA R) (h : MT I b n nd sp) (h' : MT I b' n' nd' sp') (hi : i < n) (hj : j < n') : f_X12_areSame (mg 4625 I J R) 4561 (Int32.ofNat (b + i)) (Int32.ofNat (b' + j)) = some (if sp i = sp' j ∧ ∀ k, k < sp i → nd (i + k) = nd' (j + k) then 1 else 0) := by
  have hb := h.1.1
  have hb' := h'.1.1
  have e1 := h.2.2 i hi
  have e2 := h'.2.2 j hj
  have s1 := h.2.1.2.2.2 i hi
  have s2 := h'.2.1.2.2.2 j hj
  unfold f_X12_areSame
  rw [gr_4561_8 hR, ga_4569 (by omega), gr_4561_8 hR, ga_4569 (by omega), e1, e2]
  have j20 : ∀ u : Int32, (u = 1 ∧ sp i = sp' j ∨ u = 0 ∧ sp i ≠ sp' j) → f_X12_areSame_j20 (mg 4625 I J R) 4561 (Int32.ofNat (b + i)) (Int32.ofNat (b' + j)) u = some (if sp i = sp' j ∧ ∀ k, k < sp i → nd (i + k) = nd' (j + k) then 1 else 0) := by
    intro u hu
    unfold f_X12_areSame_j20
    rw [gr_4561_8 hR, ga_4569 (by omega), e1, q_let]
    have key : QK (xloop (f_X12_areSame_s32 (mg 4625 I J R)) xF (4561, (Int32.ofNat (b + i)), (Int32.ofNat (b' + j)), u, (Int32.ofNat (sp i)), 0)) (fun r => r = .inr (if sp i = sp' j ∧ ∀ k, k < sp i → nd (i + k) = nd' (j + k) then 1 else 0)) := by
      refine q_loop (fun t s => ∃ k, k + t = sp i + 1 ∧ k ≤ sp i ∧ ((s = (4561, (Int32.ofNat (b + i)), (Int32.ofNat (b' + j)), 1, (Int32.ofNat (sp i)), (Int32.ofNat (k))) ∧ sp i = sp' j ∧ ∀ x, x < k → nd (i + x) = nd' (j + x)) ∨ (s = (4561, (Int32.ofNat (b + i)), (Int32.ofNat (b' + j)), 0, (Int32.ofNat (sp i)), (Int32.ofNat (k))) ∧ ¬ (sp i = sp' j ∧ ∀ x, x < sp i → nd (i + x) = nd' (j + x))))) ?_ (m := sp i + 1) ⟨0, by omega, by omega, ?_⟩ (by unfold xF; omega)
      · rintro t s ⟨k, hk, hks, ⟨rfl, es, hh⟩ | ⟨rfl, hh⟩⟩
        · unfold f_X12_areSame_s32 xlet
          dsimp only
          by_cases q : sp i ≤ k
          · rw [if_pos ((i32_le (by omega) (by omega)).mpr q)]
            refine q_ex ?_
            rw [if_pos ⟨es, fun x hx => hh x (by omega)⟩]
          · rw [if_neg (fun z => q ((i32_le (by omega) (by omega)).mp z)), if_neg (by decide)]
            obtain ⟨a1, a2, a3, a4, a5⟩ := h.1.2 (i + k) (by omega)
            obtain ⟨c1, c2, c3, c4, c5⟩ := h'.1.2 (j + k) (by omega)
            rw [← Nat.add_assoc] at a1 a2 a3 a4 c1 c2 c3 c4
            have j132 : ∀ w : Int32, (w = 1 ∧ nd (i + k) = nd' (j + k) ∨ w = 0 ∧ nd (i + k) ≠ nd' (j + k)) → QK (f_X12_areSame_j132 (mg 4625 I J R) 4561 (Int32.ofNat (b + i)) (Int32.ofNat (b' + j)) (Int32.ofNat (sp i)) (Int32.ofNat (k)) w) (qS (fun s => ∃ t', t' < t ∧ ∃ k, k + t' = sp i + 1 ∧ k ≤ sp i ∧ ((s = (4561, (Int32.ofNat (b + i)), (Int32.ofNat (b' + j)), 1, (Int32.ofNat (sp i)), (Int32.ofNat (k))) ∧ sp i = sp' j ∧ ∀ x, x < k → nd (i + x) = nd' (j + x)) ∨ (s = (4561, (Int32.ofNat (b + i)), (Int32.ofNat (b' + j)), 0, (Int32.ofNat (sp i)), (Int32.ofNat (k))) ∧ ¬ (sp i = sp' j ∧ ∀ x, x < sp i → nd (i + x) = nd' (j + x))))) (fun r => r = .inr (if sp i = sp' j ∧ ∀ k, k < sp i → nd (i + k) = nd' (j + k) then 1 else 0))) := by
              intro w hw
              unfold f_X12_areSame_j132
              rw [q_let, show (Int32.ofNat (k)) + 1 = (Int32.ofNat (k + 1)) from n_add k 1]
              rcases hw with ⟨rfl, hw⟩ | ⟨rfl, hw⟩
              · refine q_go ⟨t - 1, by omega, k + 1, by omega, by omega, Or.inl ⟨rfl, es, fun x hx => ?_⟩⟩
                by_cases z : x = k
                · rw [z]; exact hw
                · exact hh x (by omega)
              · exact q_go ⟨t - 1, by omega, k + 1, by omega, by omega, Or.inr ⟨rfl, fun z => hw (z.2 k (by omega))⟩⟩
            unfold f_X12_areSame_j131
            rw [n_add, n_add, gr_4561_4 hR, ga_4565 (by omega), gr_4561_4 hR, ga_4565 (by omega), a1, c1]
            by_cases z1 : (nd (i + k)).1 = (nd' (j + k)).1
            · rw [if_pos z1, gr_4561_5 hR, ga_4566 (by omega), gr_4561_5 hR, ga_4566 (by omega), a2, c2]
              by_cases z2 : (nd (i + k)).2.1 = (nd' (j + k)).2.1
              · rw [if_pos z2, gr_4561_6 hR, ga_4567 (by omega), gr_4561_6 hR, ga_4567 (by omega), a3, c3]
                by_cases z3 : (nd (i + k)).2.2.1 = (nd' (j + k)).2.2.1
                · rw [if_pos z3, gr_4561_7 hR, ga_4568 (by omega), gr_4561_7 hR, ga_4568 (by omega), a4, c4]
                  by_cases z4 : (nd (i + k)).2.2.2 = (nd' (j + k)).2.2.2
                  · rw [if_pos (by rw [z4])]
                    exact j132 1 (Or.inl ⟨rfl, nd_eq.mpr ⟨z1, z2, z3, z4⟩⟩)
                  · rw [if_neg (fun z => z4 ((i32_eq (by omega) (by omega)).mp z))]
                    exact j132 0 (Or.inr ⟨rfl, fun z => z4 (by rw [z])⟩)
                · rw [if_neg z3]
                  exact j132 0 (Or.inr ⟨rfl, fun z => z3 (by rw [z])⟩)
              · rw [if_neg z2]
                exact j132 0 (Or.inr ⟨rfl, fun z => z2 (by rw [z])⟩)
            · rw [if_neg z1]
              exact j132 0 (Or.inr ⟨rfl, fun z => z1 (by rw [z])⟩)
        · unfold f_X12_areSame_s32 xlet
          dsimp only
          rw [if_neg hh]
          by_cases q : sp i ≤ k
          · rw [if_pos ((i32_le (by omega) (by omega)).mpr q)]
            exact q_ex rfl
          · rw [if_neg (fun z => q ((i32_le (by omega) (by omega)).mp z)), if_pos rfl]
            exact q_ex rfl
      · rcases hu with ⟨rfl, hu⟩ | ⟨rfl, hu⟩
        · exact Or.inl ⟨rfl, hu, fun x hx => absurd hx (by omega)⟩
        · exact Or.inr ⟨rfl, fun z => hu z.1⟩
    obtain ⟨r, er, rfl⟩ := key
    rw [er, Option.bind_some, Sum.elim_inr]
    unfold f_X12_areSame_j139
    split <;> rfl
  by_cases q : sp i = sp' j
  · rw [if_pos (by rw [q])]
    exact j20 1 (Or.inl ⟨rfl, q⟩)
  · rw [if_neg (fun z => q ((i32_eq (by omega) (by omega)).mp z))]
    exact j20 0 (Or.inr ⟨rfl, q⟩)
/-- the node beneath which a node stands; none for the first one -/
theorem M_parentOf {j : Nat} (hR : RA R) (h : MT I b n nd sp) (hj : j < n) : QK (f_X12_parentOf (mg 4625 I J R) 4561 (Int32.ofNat (b)) (Int32.ofNat (b + j))) (fun r => (j = 0 ∧ r = -1) ∨ ∃ i k, i < j ∧ k < aro nd i ∧ j = kid sp i k ∧ r = (Int32.ofNat (i))) := by
  have hb := h.1.1
  unfold f_X12_parentOf
  rw [q_let]
  refine q_bind (P := fun r => (j = 0 ∧ r = .inr ((Int32.ofNat (b)), (Int32.ofNat (b)) - 1)) ∨ ∃ i k, i < j ∧ k < aro nd i ∧ j = kid sp i k ∧ r = .inr ((Int32.ofNat (b)), (Int32.ofNat (b + i)))) ?_ ?_
  · refine q_loop (fun m s => s = (4561, (Int32.ofNat (b)), (Int32.ofNat (b + j)), (Int32.ofNat (b + m)) - 1) ∧ m ≤ j ∧ ∀ i, m ≤ i → i < j → i + sp i ≤ j) ?_ (m := j) ⟨rfl, Nat.le_refl _, fun i _ _ => by omega⟩ (by unfold xF; omega)
    rintro m s ⟨rfl, hm, hh⟩
    unfold f_X12_parentOf_s4
    dsimp only
    rw [q_let, q_let, q_let, q_let]
    by_cases q : m = 0
    · subst q
      have : (Int32.ofNat (b + 0)) - 1 < (Int32.ofNat (b)) := by
        by_cases z : b = 0
        · subst z; decide
        · rw [show (Int32.ofNat (b + 0)) - 1 = (Int32.ofNat (b - 1)) from n_sub (a := b) (b := 1) (by omega)]
          exact (i32_lt (by omega) (by omega)).mpr (by omega)
      rw [if_pos this]
      refine q_ex (Or.inl ⟨?_, rfl⟩)
      by_cases z : j = 0
      · exact z
      · have := hh 0 (by omega) (by omega)
        have := h.2.1.2.2.1
        omega
    · rw [show (Int32.ofNat (b + m)) - 1 = (Int32.ofNat (b + (m - 1))) from by rw [show b + (m - 1) = b + m - 1 by omega]; exact n_sub (a := b + m) (b := 1) (by omega), if_neg (fun z => absurd ((i32_lt (by omega) (by omega)).mp z) (by omega)), gr_4561_8 hR, ga_4569 (by omega), h.2.2 (m - 1) (by omega), n_add]
      have sm := h.2.1.2.2.2 (m - 1) (by omega)
      by_cases z : j < m - 1 + sp (m - 1)
      · rw [if_pos ((i32_lt (by omega) (by omega)).mpr (by omega))]
        obtain ⟨k, g1, g2, g3⟩ := kid_desc h.2.1 (show m - 1 < n by omega) (show m - 1 < j by omega) z
        refine q_ex (Or.inr ⟨m - 1, k, by omega, g1, ?_, rfl⟩)
        by_cases w : j = kid sp (m - 1) k
        · exact w
        · have w1 := kid_in h.2.1 (show m - 1 < n by omega) g1
          have w2 := hh (kid sp (m - 1) k) (by omega) (by omega)
          omega
      · rw [if_neg (fun w => z (by have := (i32_lt (by omega) (by omega)).mp w; omega)), q_let]
        refine q_go ⟨m - 1, by omega, by rw [show (Int32.ofNat (b + (m - 1))) + -1 = (Int32.ofNat (b + (m - 1))) - 1 from n_decm _], by omega, fun i h1 h2 => ?_⟩
        by_cases w : i = m - 1
        · rw [w]; omega
        · exact hh i (by omega) h2
  · rintro r (⟨h0, rfl⟩ | ⟨i, k, h1, h2, h3, rfl⟩)
    · simp only [Sum.elim_inr]
      unfold f_X12_parentOf_j27 f_X12_parentOf_j39
      have : ¬ (Int32.ofNat (b)) ≤ (Int32.ofNat (b)) - 1 := by
        by_cases z : b = 0
        · subst z; decide
        · rw [show (Int32.ofNat (b)) - 1 = (Int32.ofNat (b - 1)) from n_sub (a := b) (b := 1) (by omega)]
          exact fun w => absurd ((i32_le (by omega) (by omega)).mp w) (by omega)
      rw [if_neg this]
      exact q_ok (Or.inl ⟨h0, rfl⟩)
    · simp only [Sum.elim_inr]
      unfold f_X12_parentOf_j27 f_X12_parentOf_j39
      rw [if_pos ((i32_le (by omega) (by omega)).mpr (by omega)), n_sub (by omega), Nat.add_sub_cancel_left]
      exact q_ok (Or.inr ⟨i, k, h1, h2, h3, rfl⟩)
/-- nodes in the order that has operands ahead -/
def Od (I : Nat → Nat → Int32) (b n : Nat) (sp : Nat → Nat) : Prop := ∀ i, i < n → I 4574 (pl sp i) = (Int32.ofNat (b + i))
theorem M_inOrder (hR : RA R) (h : MT I b n nd sp) (h100 : n ≤ 100) : QK (f_X12_inOrder (mg 4625 I J R) 4561 (Int32.ofNat (b))) (fun r => ∃ I', r = ((Int32.ofNat (n)), mg 4625 I' J R) ∧ FrS (fun x => x = 4574) I I' ∧ Od I' b n sp) := by
  have hb := h.1.1
  have n0 := h.2.1.1
  have e0 : I 4569 b = (Int32.ofNat (n)) := by
    have := h.2.2 0 n0
    rw [h.2.1.2.2.1] at this
    exact this
  unfold f_X12_inOrder
  rw [q_let, q_let, show (Int32.ofNat (b)) + 1 = (Int32.ofNat (b + 1)) from n_add b 1]
  refine q_bind (P := fun r => ∃ I', r = .inr ((Int32.ofNat (n)), mg 4625 I' J R) ∧ FrS (fun x => x = 4574) I I' ∧ Od I' b n sp) ?_ ?_
  · refine q_loop (fun m s => ∃ I' c e, s = (4561, (Int32.ofNat (b)), (Int32.ofNat (c)), (Int32.ofNat (b + e)), mg 4625 I' J R) ∧ e + m = n + 1 ∧ 1 ≤ e ∧ c ≤ n ∧ FrS (fun x => x = 4574) I I' ∧ (∀ i, i < n → (pl sp i < c ↔ i + sp i < e)) ∧ ∀ i, i < n → pl sp i < c → I' 4574 (pl sp i) = (Int32.ofNat (b + i))) ?_ (m := n) ⟨I, 0, 1, rfl, by omega, by omega, by omega, FrS_rfl, fun i hi => ⟨fun z => by omega, fun z => by have := (h.2.1.2.2.2 i hi).1; omega⟩, fun i _ z => by omega⟩ (by unfold xF; omega)
    rintro m s ⟨I', c, e, rfl, he, he1, hc, hF, hp, hs⟩
    have hI9 : ∀ k, I' 4569 k = I 4569 k := fun k => by rw [hF 4569 (by decide)]
    unfold f_X12_inOrder_s6
    dsimp only
    rw [q_let, q_let, q_let, q_let, q_let, gr_4561_8 hR, ga_4569 (by omega), hI9, e0, n_add]
    by_cases q : n < e
    · rw [if_pos ((i32_lt (by omega) (by omega)).mpr (by omega))]
      have hcn : c = n := by
        by_cases z : c < n
        · obtain ⟨i, hi, ei⟩ := pl_sur h.2.1 z
          have := (hp i hi).mpr (by have := (h.2.1.2.2.2 i hi).2.1; omega)
          omega
        · omega
      rw [hcn] at hs ⊢
      exact q_ex ⟨I', rfl, hF, fun i hi => hs i hi (pl_lt h.2.1 hi)⟩
    · rw [if_neg (fun z => q (by have := (i32_lt (by omega) (by omega)).mp z; omega)), q_let]
      refine q_bind (P := fun r => ∃ I' c, r = .inr (4561, (Int32.ofNat (b)), (Int32.ofNat (c)), (Int32.ofNat (b + e)), mg 4625 I' J R) ∧ c ≤ n ∧ FrS (fun x => x = 4574) I I' ∧ (∀ i, i < n → (pl sp i < c ↔ i + sp i < e + 1)) ∧ ∀ i, i < n → pl sp i < c → I' 4574 (pl sp i) = (Int32.ofNat (b + i))) ?_ ?_
      · refine q_loop (fun t s => ∃ I' c, s = (4561, (Int32.ofNat (b)), (Int32.ofNat (c)), (Int32.ofNat (b + e)), (Int32.ofNat (b + t)) - 1, mg 4625 I' J R) ∧ t ≤ e ∧ c ≤ n ∧ FrS (fun x => x = 4574) I I' ∧ (∀ i, i < n → (pl sp i < c ↔ i + sp i < e ∨ i + sp i = e ∧ t ≤ i)) ∧ ∀ i, i < n → pl sp i < c → I' 4574 (pl sp i) = (Int32.ofNat (b + i))) ?_ (m := e) ⟨I', c, rfl, Nat.le_refl _, hc, hF, fun i hi => ⟨fun z => Or.inl ((hp i hi).mp z), fun z => (hp i hi).mpr (by have := (h.2.1.2.2.2 i hi).1; omega)⟩, hs⟩ (by unfold xF; omega)
        rintro t s ⟨I2, d, rfl, ht, hd, hF2, hp2, hs2⟩
        have hI9' : ∀ k, I2 4569 k = I 4569 k := fun k => by rw [hF2 4569 (by decide)]
        unfold f_X12_inOrder_s23
        dsimp only
        rw [q_let, q_let, q_let, q_let, q_let, q_let]
        by_cases w : t = 0
        · subst w
          have : (Int32.ofNat (b + 0)) - 1 < (Int32.ofNat (b)) := by
            by_cases z : b = 0
            · subst z; decide
            · rw [show (Int32.ofNat (b + 0)) - 1 = (Int32.ofNat (b - 1)) from n_sub (a := b) (b := 1) (by omega)]
              exact (i32_lt (by omega) (by omega)).mpr (by omega)
          rw [if_pos this]
          exact q_ex ⟨I2, d, rfl, hd, hF2, fun i hi => by rw [hp2 i hi]; omega, hs2⟩
        · rw [show (Int32.ofNat (b + t)) - 1 = (Int32.ofNat (b + (t - 1))) from by rw [show b + (t - 1) = b + t - 1 by omega]; exact n_sub (a := b + t) (b := 1) (by omega), if_neg (fun z => absurd ((i32_lt (by omega) (by omega)).mp z) (by omega)), gr_4561_8 hR, ga_4569 (by omega), hI9', h.2.2 (t - 1) (by omega), n_add]
          have st := h.2.1.2.2.2 (t - 1) (by omega)
          unfold f_X12_inOrder_j54
          by_cases z : t - 1 + sp (t - 1) = e
          · rw [if_pos (by rw [← z, Nat.add_assoc])]
            have epl : pl sp (t - 1) = d := by
              have g1 : ¬ pl sp (t - 1) < d := fun y => by have := (hp2 _ (by omega)).mp y; omega
              have g2 := pl_lt h.2.1 (show t - 1 < n by omega)
              by_cases y : pl sp (t - 1) = d
              · exact y
              · obtain ⟨i, hi, ei⟩ := pl_sur h.2.1 (show d < n by omega)
                have g3 : ¬ (i + sp i < e ∨ i + sp i = e ∧ t ≤ i) := fun x => by have := (hp2 i hi).mpr x; omega
                have g4 : i ≠ t - 1 := fun x => y (by rw [← x]; exact ei)
                have := pl_ord h.2.1 (show t - 1 < n by omega) hi (by omega)
                omega
            have g2 := pl_lt h.2.1 (show t - 1 < n by omega)
            rw [gr_4561_14 hR, gw_4574 (by omega), q_let, q_let, show (Int32.ofNat (d)) + 1 = (Int32.ofNat (d + 1)) from n_add d 1, show (Int32.ofNat (b + (t - 1))) + -1 = (Int32.ofNat (b + (t - 1))) - 1 from n_decm _]
            refine q_go ⟨t - 1, by omega, _, d + 1, rfl, by omega, by omega, FrS_up hF2 rfl, fun i hi => ?_, fun i hi hl => ?_⟩
            · have a1 := hp2 i hi
              constructor
              · intro x
                by_cases y : pl sp i = d
                · have := pl_inj h.2.1 hi (show t - 1 < n by omega) (by omega)
                  rw [this]
                  exact Or.inr ⟨z, Nat.le_refl _⟩
                · have := a1.mp (by omega)
                  omega
              · intro x
                by_cases y : i = t - 1
                · rw [y]; omega
                · have := a1.mpr (by omega)
                  omega
            · by_cases y : pl sp i = d
              · have := pl_inj h.2.1 hi (show t - 1 < n by omega) (by omega)
                rw [y, up_s, this]
              · rw [up_n (by omega)]
                exact hs2 i hi (by omega)
          · rw [if_neg (fun y => z (by have := (i32_eq (by omega) (by omega)).mp y; omega)), q_let, show (Int32.ofNat (b + (t - 1))) + -1 = (Int32.ofNat (b + (t - 1))) - 1 from n_decm _]
            refine q_go ⟨t - 1, by omega, I2, d, rfl, by omega, hd, hF2, fun i hi => ?_, hs2⟩
            have a1 := hp2 i hi
            rw [a1]
            by_cases y : i = t - 1
            · rw [y]; omega
            · omega
      · rintro r ⟨I2, d, rfl, hd, hF2, hp2, hs2⟩
        simp only [Sum.elim_inr]
        unfold f_X12_inOrder_j60
        rw [q_let, show (Int32.ofNat (b + e)) + 1 = (Int32.ofNat (b + (e + 1))) from n_add (b + e) 1]
        exact q_go ⟨m - 1, by omega, I2, d, e + 1, rfl, by omega, by omega, hd, hF2, hp2, hs2⟩
  · rintro r ⟨I', rfl, hF, hO⟩
    simp only [Sum.elim_inr]
    unfold f_X12_inOrder_j66
    exact q_ok ⟨I', rfl, hF, hO⟩
end MTZ
