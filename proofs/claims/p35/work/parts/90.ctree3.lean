/-! the class's trees: asked -/
theorem nd_eq {x y : Nd} : x = y ↔ x.1 = y.1 ∧ x.2.1 = y.2.1 ∧ x.2.2.1 = y.2.2.1 ∧ x.2.2.2 = y.2.2.2 := by
  constructor
  · rintro rfl; exact ⟨rfl, rfl, rfl, rfl⟩
  · rintro ⟨h1, h2, h3, h4⟩
    exact Prod.ext h1 (Prod.ext h2 (Prod.ext h3 h4))
section CTV
variable {I : Nat → Nat → Int32} {J : Nat → Nat → Int64} {R : Nat → Nat → Option Nat} {a b n m : Nat} {nd nd' : Nat → Nd} {sp sp' : Nat → Nat} {β : Type}
theorem T_child {i k : Nat} (hR : RA R) (h : CT I a n nd sp) (hi : i < n) (hk : k < aro nd i) : f_X9_child (mg (4562 + zn J) I J R) a (Int32.ofNat (i)) (Int32.ofNat (k)) = some (Int32.ofNat (kid sp i k)) := by
  have ht := h.1.1
  have hn := CT_n h
  have har : aro nd i ≤ 4 := (h.1.2.2.2 i hi).2.2.2.2
  have e7 := h.1.2.1
  have key : QK (xloop (f_X9_child_s7 (mg (4562 + zn J) I J R)) xF (a, (Int32.ofNat (k)), (Int32.ofNat (i + 1)), (0 : Int32))) (fun r => r = .inr (a, (Int32.ofNat (kid sp i k)))) := by
    refine q_for k (fun j s => s = (a, (Int32.ofNat (k)), (Int32.ofNat (kid sp i j)), (Int32.ofNat (j)))) ?_ ?_ (i := 0) rfl (by omega) (by unfold xF; omega)
    · rintro j s hj rfl
      obtain ⟨g1, g2, g3⟩ := kid_in h.2.1 hi (show j < aro nd i by omega)
      have e5 := (h.2.2 _ g2).1
      unfold f_X9_child_s7 xlet
      dsimp only
      conv => arg 1; simp (disch := omega) only [↓reduceIte, ↓q_let, ↓q_xz1, ↓q_xz0, ↓lg_cmp_ge, ↓lg_cmp_le, ↓lg_cmp_gt, ↓lg_cmp_lt, n_lit, j_lit, n_add, n_mul, n_sub, n_dec, Nat.add_sub_cancel, n_leT, n_leF, n_ltT, n_ltF, n_eqT, n_eqF, n_in, n_cl, n_m31, j_m63, j_of32, j_32, i64_add, i64_mul, jn_sub, j_leT, j_leF, j_ltT, j_ltF, j_eqF, jn_and30, jn_sar30, jn_shor, Int32.neg_neg, and_true, true_and, and_self, ↓bT_gI ht, e7, ↓bT_g4 ht hR, ↓bT_aI ht, e5]
      exact q_go rfl
    · rintro s rfl
      unfold f_X9_child_s7 xlet
      dsimp only
      rw [if_pos ((i32_le (by omega) (by omega)).mpr (Nat.le_refl _))]
      exact q_ex rfl
  obtain ⟨r, er, rfl⟩ := key
  obtain ⟨g1, g2, g3⟩ := kid_in h.2.1 hi hk
  unfold f_X9_child f_X9_child_j36 xlet
  rw [show (Int32.ofNat (i)) + 1 = (Int32.ofNat (i + 1)) from n_add i 1]
  dsimp only
  rw [er]
  simp (disch := omega) only [↓reduceIte, ↓q_let, ↓q_xz1, ↓q_xz0, ↓lg_cmp_ge, ↓lg_cmp_le, ↓lg_cmp_gt, ↓lg_cmp_lt, n_lit, j_lit, n_add, n_mul, n_sub, n_dec, Nat.add_sub_cancel, n_leT, n_leF, n_ltT, n_ltF, n_eqT, n_eqF, n_in, n_cl, n_m31, j_m63, j_of32, j_32, i64_add, i64_mul, jn_sub, j_leT, j_leF, j_ltT, j_ltF, j_eqF, jn_and30, jn_sar30, jn_shor, Int32.neg_neg, and_true, true_and, and_self, Option.bind_some, Sum.elim_inr, ↓bT_gI ht, e7]
theorem T_nodeAt {p i : Nat} (hR : RA R) (h : CT I a n nd sp) (hi : i < n) (hp : p = pl sp i) : f_X9_nodeAt (mg (4562 + zn J) I J R) a (Int32.ofNat (p)) = some (Int32.ofNat (i)) := by
  have ht := h.1.1
  have hn := CT_n h
  have e7 := h.1.2.1
  have hl := pl_lt h.2.1 hi
  have e := (h.2.2 i hi).2.2
  subst hp
  unfold f_X9_nodeAt f_X9_nodeAt_j22
  have z0 : ((Int32.ofNat (pl sp i)) < (Int32.ofNat (0))) = False := eq_false (i32_nlt0 (by omega))
  simp (disch := omega) only [↓reduceIte, ↓q_let, ↓q_xz1, ↓q_xz0, ↓lg_cmp_ge, ↓lg_cmp_le, ↓lg_cmp_gt, ↓lg_cmp_lt, n_lit, j_lit, n_add, n_mul, n_sub, n_dec, Nat.add_sub_cancel, n_leT, n_leF, n_ltT, n_ltF, n_eqT, n_eqF, n_in, n_cl, n_m31, j_m63, j_of32, j_32, i64_add, i64_mul, jn_sub, j_leT, j_leF, j_ltT, j_ltF, j_eqF, jn_and30, jn_sar30, jn_shor, Int32.neg_neg, and_true, true_and, and_self, z0, ↓bT_gI ht, e7, ↓bT_g6 ht hR, ↓bT_aI ht, e]
theorem T_isCallOf {i : Nat} {c : Int32} (hR : RA R) (h : CN I a n nd) (hi : i < n) : f_X9_isCallOf (mg (4562 + zn J) I J R) a (Int32.ofNat (i)) c = some (if (nd i).1 = 2 ∧ (nd i).2.1 = c then 1 else 0) := by
  have ht := h.1
  have h80 := h.2.2.1
  obtain ⟨g1, g2, -⟩ := h.2.2.2 i hi
  unfold f_X9_isCallOf f_X9_isCallOf_j24 f_X9_isCallOf_j25
  rw [bT_g0 ht hR, bT_aI ht (by omega), g1]
  by_cases q : (nd i).1 = 2
  · rw [if_pos q, bT_g1 ht hR, bT_aI ht (by omega), g2]
    by_cases z : (nd i).2.1 = c
    · rw [if_pos z, if_pos ⟨q, z⟩]
      rfl
    · rw [if_neg z, if_neg (fun w => z w.2)]
      rfl
  · rw [if_neg q, if_neg (fun w => q w.1)]
    rfl
theorem T_isNumber {i : Nat} {c : Int32} (hR : RA R) (h : CN I a n nd) (hi : i < n) : f_X9_isNumber (mg (4562 + zn J) I J R) a (Int32.ofNat (i)) c = some (if (nd i).1 = 0 ∧ (nd i).2.1 = c then 1 else 0) := by
  have ht := h.1
  have h80 := h.2.2.1
  obtain ⟨g1, g2, -⟩ := h.2.2.2 i hi
  unfold f_X9_isNumber f_X9_isNumber_j23 f_X9_isNumber_j24
  rw [bT_g0 ht hR, bT_aI ht (by omega), g1]
  by_cases q : (nd i).1 = 0
  · rw [if_pos q, bT_g1 ht hR, bT_aI ht (by omega), g2]
    by_cases z : (nd i).2.1 = c
    · rw [if_pos z, if_pos ⟨q, z⟩]
      rfl
    · rw [if_neg z, if_neg (fun w => z w.2)]
      rfl
  · rw [if_neg q, if_neg (fun w => q w.1)]
    rfl
theorem T_sameNode {i j : Nat} (hR : RA R) (h : CN I a n nd) (h' : CN I b m nd') (hi : i < n) (hj : j < m) : f_X9_sameNode (mg (4562 + zn J) I J R) a (Int32.ofNat (i)) b (Int32.ofNat (j)) = some (if nd i = nd' j then 1 else 0) := by
  have ht := h.1
  have ht' := h'.1
  have h80 := h.2.2.1
  have h80' := h'.2.2.1
  obtain ⟨g1, g2, g3, g4, g5⟩ := h.2.2.2 i hi
  obtain ⟨k1, k2, k3, k4, k5⟩ := h'.2.2.2 j hj
  unfold f_X9_sameNode f_X9_sameNode_j64 f_X9_sameNode_j65
  rw [bT_g0 ht hR, bT_aI ht (by omega), g1, bT_g0 ht' hR, bT_aI ht' (by omega), k1]
  by_cases q1 : (nd i).1 = (nd' j).1
  · rw [if_pos q1, bT_g1 ht hR, bT_aI ht (by omega), g2, bT_g1 ht' hR, bT_aI ht' (by omega), k2]
    by_cases q2 : (nd i).2.1 = (nd' j).2.1
    · rw [if_pos q2, bT_g2 ht hR, bT_aI ht (by omega), g3, bT_g2 ht' hR, bT_aI ht' (by omega), k3]
      by_cases q3 : (nd i).2.2.1 = (nd' j).2.2.1
      · rw [if_pos q3, bT_g3 ht hR, bT_aI ht (by omega), g4, bT_g3 ht' hR, bT_aI ht' (by omega), k4]
        by_cases q4 : (nd i).2.2.2 = (nd' j).2.2.2
        · rw [if_pos (by rw [q4]), if_pos (nd_eq.mpr ⟨q1, q2, q3, q4⟩)]
          rfl
        · rw [if_neg (i32_neq (by omega) (by omega) q4), if_neg (fun w => q4 (nd_eq.mp w).2.2.2)]
          rfl
      · rw [if_neg q3, if_neg (fun w => q3 (nd_eq.mp w).2.2.1)]
        rfl
    · rw [if_neg q2, if_neg (fun w => q2 (nd_eq.mp w).2.1)]
      rfl
  · rw [if_neg q1, if_neg (fun w => q1 (nd_eq.mp w).1)]
    rfl
theorem T_sameAs (hR : RA R) (h : CN I a n nd) (h' : CN I b m nd') : QK (f_X9_sameAs (mg (4562 + zn J) I J R) a b) (fun r => (r = 1 ∧ n = m ∧ ∀ i, i < n → nd i = nd' i) ∨ (r = 0 ∧ ¬ (n = m ∧ ∀ i, i < n → nd i = nd' i))) := by
  have ht := h.1
  have ht' := h'.1
  have h80 := h.2.2.1
  have h80' := h'.2.2.1
  unfold f_X9_sameAs f_X9_sameAs_j33 f_X9_sameAs_j41
  rw [bT_gI ht, bT_gI ht', h.2.1, h'.2.1]
  by_cases q : n = m
  · subst q
    rw [if_pos rfl, q_let]
    refine q_bind (P := fun r => (r = .inr (.inr ()) ∧ ∀ i, i < n → nd i = nd' i) ∨ (r = .inr (.inl ()) ∧ ¬ ∀ i, i < n → nd i = nd' i)) ?_ ?_
    · refine q_for n (fun i s => s = (a, b, (Int32.ofNat (i))) ∧ ∀ j, j < i → nd j = nd' j) ?_ ?_ (i := 0) ⟨rfl, fun j hj => absurd hj (by omega)⟩ (by omega) (by unfold xF; omega)
      · rintro i s hi ⟨rfl, hh⟩
        unfold f_X9_sameAs_s15 xlet
        dsimp only
        rw [bT_gI ht, h.2.1, if_neg (fun z => absurd ((i32_le (by omega) (by omega)).mp z) (by omega)), if_pos (bT_xk ht), T_sameNode hR h h' hi hi, Option.bind_some]
        by_cases z : nd i = nd' i
        · rw [if_pos z, if_neg (by first | decide | omega), show (Int32.ofNat (i)) + 1 = (Int32.ofNat (i + 1)) from n_add i 1]
          refine q_go ⟨rfl, fun j hj => ?_⟩
          by_cases w : j = i
          · rw [w]; exact z
          · exact hh j (by omega)
        · rw [if_neg z, if_pos rfl]
          exact q_ex (Or.inr ⟨rfl, fun w => z (w i hi)⟩)
      · rintro s ⟨rfl, hh⟩
        unfold f_X9_sameAs_s15 xlet
        dsimp only
        rw [bT_gI ht, h.2.1, if_pos ((i32_le (by omega) (by omega)).mpr (Nat.le_refl _))]
        exact q_ex (Or.inl ⟨rfl, hh⟩)
    · rintro r (⟨rfl, hh⟩ | ⟨rfl, hh⟩)
      · exact q_ok (Or.inl ⟨rfl, rfl, hh⟩)
      · exact q_ok (Or.inr ⟨rfl, fun w => hh w.2⟩)
  · rw [if_neg (i32_neq (by omega) (by omega) q)]
    exact q_ok (Or.inr ⟨rfl, fun w => q w.1⟩)
theorem T_sameParts {p p' : Nat} (hR : RA R) (h : CT I a n nd sp) (hp : p < n) (hp' : p' < n) : QK (f_X9_sameParts (mg (4562 + zn J) I J R) a (Int32.ofNat (p)) (Int32.ofNat (p'))) (fun r => (r = 1 ∧ sp p = sp p' ∧ ∀ i, i < sp p → nd (p + i) = nd (p' + i)) ∨ (r = 0 ∧ ¬ (sp p = sp p' ∧ ∀ i, i < sp p → nd (p + i) = nd (p' + i)))) := by
  have ht := h.1.1
  have hn := CT_n h
  have e7 := h.1.2.1
  have e1 := (h.2.2 p hp).1
  have e2 := (h.2.2 p' hp').1
  have w1 := h.2.1.2.2.2 p hp
  have w2 := h.2.1.2.2.2 p' hp'
  unfold f_X9_sameParts f_X9_sameParts_j66 f_X9_sameParts_j74
  rw [bT_g4 ht hR, bT_aI ht (by omega), bT_g4 ht hR, bT_aI ht (by omega), e1, e2]
  by_cases q : sp p = sp p'
  · rw [if_pos (by rw [q]), q_let]
    refine q_bind (P := fun r => (r = .inr (.inr ()) ∧ ∀ i, i < sp p → nd (p + i) = nd (p' + i)) ∨ (r = .inr (.inl ()) ∧ ¬ ∀ i, i < sp p → nd (p + i) = nd (p' + i))) ?_ ?_
    · refine q_for (sp p) (fun i s => s = (a, (Int32.ofNat (p)), (Int32.ofNat (p')), (Int32.ofNat (sp p)), (Int32.ofNat (i))) ∧ ∀ j, j < i → nd (p + j) = nd (p' + j)) ?_ ?_ (i := 0) ⟨rfl, fun j hj => absurd hj (by omega)⟩ (by omega) (by unfold xF; omega)
      · rintro i s hi ⟨rfl, hh⟩
        unfold f_X9_sameParts_s22 xlet
        dsimp only
        conv => arg 1; simp (disch := omega) only [↓reduceIte, ↓q_let, ↓q_xz1, ↓q_xz0, ↓lg_cmp_ge, ↓lg_cmp_le, ↓lg_cmp_gt, ↓lg_cmp_lt, n_lit, j_lit, n_add, n_mul, n_sub, n_dec, Nat.add_sub_cancel, n_leT, n_leF, n_ltT, n_ltF, n_eqT, n_eqF, n_in, n_cl, n_m31, j_m63, j_of32, j_32, i64_add, i64_mul, jn_sub, j_leT, j_leF, j_ltT, j_ltF, j_eqF, jn_and30, jn_sar30, jn_shor, Int32.neg_neg, and_true, true_and, and_self, ↓bT_gI ht, e7, bT_xk ht]
        rw [T_sameNode (i := p + i) (j := p' + i) hR h.1 h.1 (by omega) (by omega), Option.bind_some]
        by_cases z : nd (p + i) = nd (p' + i)
        · rw [if_pos z, if_neg (by first | decide | omega)]
          refine q_go ⟨rfl, fun j hj => ?_⟩
          by_cases w : j = i
          · rw [w]; exact z
          · exact hh j (by omega)
        · rw [if_neg z, if_pos (show (0 : Int32) = (Int32.ofNat (0)) from rfl)]
          exact q_ex (Or.inr ⟨rfl, fun w => z (w i hi)⟩)
      · rintro s ⟨rfl, hh⟩
        unfold f_X9_sameParts_s22 xlet
        dsimp only
        rw [if_pos ((i32_le (by omega) (by omega)).mpr (Nat.le_refl _))]
        exact q_ex (Or.inl ⟨rfl, hh⟩)
    · rintro r (⟨rfl, hh⟩ | ⟨rfl, hh⟩)
      · exact q_ok (Or.inl ⟨rfl, q, hh⟩)
      · exact q_ok (Or.inr ⟨rfl, fun w => hh w.2⟩)
  · rw [if_neg (i32_neq (by omega) (by omega) q)]
    exact q_ok (Or.inr ⟨rfl, fun w => q w.1⟩)
/-- places of a line: which node stands at each place -/
theorem pl_sur {n : Nat} {ar sp : Nat → Nat} (h : WT n ar sp) {p : Nat} (hp : p < n) : ∃ i, i < n ∧ pl sp i = p := by
  -- an injective map of numbers below n hits each one
  have key : ∀ (m : Nat) (f : Nat → Nat), (∀ i, i < m → f i < m) → (∀ i j, i < m → j < m → f i = f j → i = j) → ∀ p, p < m → ∃ i, i < m ∧ f i = p := by
    intro m
    induction m with
    | zero => intro f _ _ p hp; omega
    | succ m ih =>
      intro f hf hinj p hp
      by_cases q : f m = p
      · exact ⟨m, by omega, q⟩
      · obtain ⟨i, hi, e⟩ := ih (fun i => if f i = m then f m else f i) (fun i hi => by
          have h1 := hf i (by omega)
          have h2 := hf m (by omega)
          have h3 := hinj i m (by omega) (by omega)
          show (if f i = m then f m else f i) < m
          split
          · next w =>
            by_cases y : f m = m
            · have := h3 (by omega)
              omega
            · omega
          · omega) (fun i j hi hj e => by
          have e' : (if f i = m then f m else f i) = (if f j = m then f m else f j) := e
          have h3 := hinj i m (by omega) (by omega)
          have h4 := hinj j m (by omega) (by omega)
          have h5 := hinj i j (by omega) (by omega)
          split at e' <;> split at e'
          · exact h5 (by omega)
          · have := h4 e'.symm
            omega
          · have := h3 e'
            omega
          · exact h5 e') (if p = m then f m else p) (by
          have h2 := hf m (by omega)
          split
          · omega
          · omega)
        have e' : (if f i = m then f m else f i) = (if p = m then f m else p) := e
        have h3 := hinj i m (by omega) (by omega)
        split at e' <;> split at e'
        · exact ⟨i, by omega, by omega⟩
        · exact absurd e' q
        · have := h3 e'
          omega
        · exact ⟨i, by omega, e'⟩
  exact key n (pl sp) (fun i hi => pl_lt h hi) (fun i j hi hj e => pl_inj h hi hj e) p hp
theorem T_hasLine (hR : RA R) (h : CT I a n nd sp) (h' : CN I b m nd') : QK (f_X9_hasLine (mg (4562 + zn J) I J R) a b) (fun r => (r = 1 ∧ n = m ∧ ∀ i, i < n → nd i = nd' (pl sp i)) ∨ (r = 0 ∧ ¬ (n = m ∧ ∀ i, i < n → nd i = nd' (pl sp i)))) := by
  have ht := h.1.1
  have ht' := h'.1
  have h80 := h.1.2.2.1
  have h80' := h'.2.2.1
  have e7 := h.1.2.1
  unfold f_X9_hasLine f_X9_hasLine_j37 f_X9_hasLine_j45
  rw [bT_gI ht, bT_gI ht', e7, h'.2.1]
  by_cases q : n = m
  · subst q
    rw [if_pos rfl, q_let]
    refine q_bind (P := fun r => (r = .inr (.inr ()) ∧ ∀ i, i < n → nd i = nd' (pl sp i)) ∨ (r = .inr (.inl ()) ∧ ¬ ∀ i, i < n → nd i = nd' (pl sp i))) ?_ ?_
    · refine q_for n (fun p s => s = (a, b, (Int32.ofNat (p))) ∧ ∀ i, i < n → pl sp i < p → nd i = nd' (pl sp i)) ?_ ?_ (i := 0) ⟨rfl, fun j _ hj => absurd hj (by omega)⟩ (by omega) (by unfold xF; omega)
      · rintro p s hp ⟨rfl, hh⟩
        obtain ⟨i, hi, ei⟩ := pl_sur h.2.1 hp
        unfold f_X9_hasLine_s15 xlet
        dsimp only
        rw [bT_gI ht, e7, if_neg (fun z => absurd ((i32_le (by omega) (by omega)).mp z) (by omega)), if_pos (bT_xk ht), T_nodeAt hR h hi ei.symm, Option.bind_some, if_pos (bT_xk ht), T_sameNode hR h.1 h' hi hp, Option.bind_some]
        by_cases z : nd i = nd' p
        · rw [if_pos z, if_neg (by first | decide | omega), show (Int32.ofNat (p)) + 1 = (Int32.ofNat (p + 1)) from n_add p 1]
          refine q_go ⟨rfl, fun j hj hjp => ?_⟩
          by_cases w : pl sp j = p
          · have := pl_inj h.2.1 hj hi (by omega)
            rw [this, ei]
            exact z
          · exact hh j hj (by omega)
        · rw [if_neg z, if_pos rfl]
          exact q_ex (Or.inr ⟨rfl, fun w => z (by rw [w i hi, ei])⟩)
      · rintro s ⟨rfl, hh⟩
        unfold f_X9_hasLine_s15 xlet
        dsimp only
        rw [bT_gI ht, e7, if_pos ((i32_le (by omega) (by omega)).mpr (Nat.le_refl _))]
        exact q_ex (Or.inl ⟨rfl, fun i hi => hh i hi (pl_lt h.2.1 hi)⟩)
    · rintro r (⟨rfl, hh⟩ | ⟨rfl, hh⟩)
      · exact q_ok (Or.inl ⟨rfl, rfl, hh⟩)
      · exact q_ok (Or.inr ⟨rfl, fun w => hh w.2⟩)
  · rw [if_neg (i32_neq (by omega) (by omega) q)]
    exact q_ok (Or.inr ⟨rfl, fun w => q w.1⟩)
def lazyNd (x : Nd) : Prop := x.1 = 2 ∧ (x.2.1 = 105 ∨ x.2.1 = 115)
theorem T_hasLazy (hR : RA R) (h : CN I a n nd) : QK (f_X9_hasLazyCall (mg (4562 + zn J) I J R) a) (fun r => (r = 1 ∧ ∃ i, i < n ∧ lazyNd (nd i)) ∨ (r = 0 ∧ ¬ ∃ i, i < n ∧ lazyNd (nd i))) := by
  have ht := h.1
  have h80 := h.2.2.1
  unfold f_X9_hasLazyCall f_X9_hasLazyCall_j30 f_X9_hasLazyCall_j38
  rw [q_let]
  refine q_bind (P := fun r => (r = .inr (.inr ()) ∧ ¬ ∃ i, i < n ∧ lazyNd (nd i)) ∨ (r = .inr (.inl ()) ∧ ∃ i, i < n ∧ lazyNd (nd i))) ?_ ?_
  · refine q_for n (fun i s => s = (a, (Int32.ofNat (i))) ∧ ∀ j, j < i → ¬ lazyNd (nd j)) ?_ ?_ (i := 0) ⟨rfl, fun j hj => absurd hj (by omega)⟩ (by omega) (by unfold xF; omega)
    · rintro i s hi ⟨rfl, hh⟩
      unfold f_X9_hasLazyCall_s2 xlet
      dsimp only
      rw [bT_gI ht, h.2.1, if_neg (fun z => absurd ((i32_le (by omega) (by omega)).mp z) (by omega)), if_pos (bT_xk ht), T_isCallOf hR h hi, Option.bind_some]
      by_cases z : (nd i).1 = 2 ∧ (nd i).2.1 = 105
      · rw [if_pos z, if_neg (by first | decide | omega)]
        exact q_ex (Or.inr ⟨rfl, i, hi, z.1, Or.inl z.2⟩)
      · rw [if_neg z, if_pos rfl, if_pos (bT_xk ht), T_isCallOf hR h hi, Option.bind_some]
        by_cases y : (nd i).1 = 2 ∧ (nd i).2.1 = 115
        · rw [if_pos y, if_neg (by first | decide | omega)]
          exact q_ex (Or.inr ⟨rfl, i, hi, y.1, Or.inr y.2⟩)
        · rw [if_neg y, if_pos rfl, show (Int32.ofNat (i)) + 1 = (Int32.ofNat (i + 1)) from n_add i 1]
          refine q_go ⟨rfl, fun j hj => ?_⟩
          by_cases w : j = i
          · rw [w]
            rintro ⟨l1, l2 | l2⟩
            · exact z ⟨l1, l2⟩
            · exact y ⟨l1, l2⟩
          · exact hh j (by omega)
    · rintro s ⟨rfl, hh⟩
      unfold f_X9_hasLazyCall_s2 xlet
      dsimp only
      rw [bT_gI ht, h.2.1, if_pos ((i32_le (by omega) (by omega)).mpr (Nat.le_refl _))]
      exact q_ex (Or.inl ⟨rfl, fun ⟨i, hi, hl⟩ => hh i hi hl⟩)
  · rintro r (⟨rfl, hh⟩ | ⟨rfl, hh⟩)
    · exact q_ok (Or.inr ⟨rfl, hh⟩)
    · exact q_ok (Or.inl ⟨rfl, hh⟩)
theorem T_parentOf {i : Nat} (hR : RA R) (h : CT I a n nd sp) (hi : i < n) : QK (f_X9_parentOf (mg (4562 + zn J) I J R) a (Int32.ofNat (i))) (fun r => (∃ p, r = (Int32.ofNat (p)) ∧ p < i ∧ i < p + sp p ∧ ∀ j, p < j → j < i → j + sp j ≤ i) ∨ (r = -1 ∧ ∀ j, j < i → j + sp j ≤ i)) := by
  have ht := h.1.1
  have hn := CT_n h
  unfold f_X9_parentOf f_X9_parentOf_j20 f_X9_parentOf_j28
  rw [q_let]
  refine q_bind (P := fun r => (∃ p, r = .inr (.inl (Int32.ofNat (p))) ∧ p < i ∧ i < p + sp p ∧ ∀ j, p < j → j < i → j + sp j ≤ i) ∨ (r = .inr (.inr ()) ∧ ∀ j, j < i → j + sp j ≤ i)) ?_ ?_
  · refine q_loop (fun m s => s = (a, (Int32.ofNat (i)), (Int32.ofNat (m)) - 1) ∧ m ≤ i ∧ ∀ j, m ≤ j → j < i → j + sp j ≤ i) ?_ (m := i) ⟨rfl, Nat.le_refl _, fun j _ _ => by omega⟩ (by unfold xF; omega)
    rintro m s ⟨rfl, hm, hh⟩
    unfold f_X9_parentOf_s4 xlet
    dsimp only
    rcases m with _ | m
    · rw [if_pos (by first | decide | omega)]
      exact q_ex (Or.inr ⟨rfl, fun j hj => hh j (by omega) hj⟩)
    · have e5 := (h.2.2 m (by omega)).1
      have w := h.2.1.2.2.2 m (by omega)
      rw [i32_pred, if_neg (i32_nlt0 (by omega)), bT_g4 ht hR, bT_aI ht (by omega), e5, n_add]
      by_cases q : m + sp m ≤ i
      · rw [if_pos ((i32_le (by omega) (by omega)).mpr q), show (Int32.ofNat (m)) + -1 = (Int32.ofNat (m)) - 1 from n_decm m]
        refine q_go ⟨m, by omega, rfl, by omega, fun j h1 h2 => ?_⟩
        by_cases y : j = m
        · rw [y]; exact q
        · exact hh j (by omega) h2
      · rw [if_neg (fun z => q ((i32_le (by omega) (by omega)).mp z))]
        exact q_ex (Or.inl ⟨m, rfl, by omega, by omega, fun j h1 h2 => hh j h1 h2⟩)
  · rintro r (⟨p, rfl, h1⟩ | ⟨rfl, h1⟩)
    · exact q_ok (Or.inl ⟨p, rfl, h1⟩)
    · exact q_ok (Or.inr ⟨rfl, h1⟩)
end CTV
