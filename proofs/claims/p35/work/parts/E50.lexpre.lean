/-! beginnings of a text, as words -/
section LXP
variable {c : Nat → Nat} {n k : Nat}
theorem lex_suf : ∀ f i l, ∃ E, lexS c n f i l = E ++ l ∧ ∀ x, x ∈ E → i ≤ x.2 ∧ x.2 < n ∧ (x.1.1 = 7 → x.2 ≤ x.1.2 ∧ x.1.2 ≤ n) := by
  intro f
  induction f with
  | zero => intro i l; exact ⟨[], rfl, fun x hx => absurd hx List.not_mem_nil⟩
  | succ f ih =>
    intro i l
    have one : ∀ (x : Wp) (l' : List Wp), i ≤ x.2 ∧ x.2 < n ∧ (x.1.1 = 7 → x.2 ≤ x.1.2 ∧ x.1.2 ≤ n) → (∃ E, l' = E ++ x :: l ∧ ∀ y, y ∈ E → i ≤ y.2 ∧ y.2 < n ∧ (y.1.1 = 7 → y.2 ≤ y.1.2 ∧ y.1.2 ≤ n)) → ∃ E, l' = E ++ l ∧ ∀ y, y ∈ E → i ≤ y.2 ∧ y.2 < n ∧ (y.1.1 = 7 → y.2 ≤ y.1.2 ∧ y.1.2 ≤ n) := fun x l' hx ⟨E, e1, e2⟩ => ⟨E ++ [x], by rw [e1, List.append_assoc]; rfl, fun y hy => by
      rcases List.mem_append.mp hy with q | q
      · exact e2 y q
      · rw [List.mem_singleton.mp q]
        exact hx⟩
    have go : ∀ j l', i ≤ j → ∃ E, lexS c n f j l' = E ++ l' ∧ ∀ y, y ∈ E → i ≤ y.2 ∧ y.2 < n ∧ (y.1.1 = 7 → y.2 ≤ y.1.2 ∧ y.1.2 ≤ n) := fun j l' hj => by
      obtain ⟨E, e1, e2⟩ := ih j l'
      exact ⟨E, e1, fun y hy => by
        have := e2 y hy
        exact ⟨by omega, this.2⟩⟩
    rw [lexS_c]
    by_cases q : n ≤ i
    · rw [if_pos q]
      exact ⟨[], rfl, fun x hx => absurd hx List.not_mem_nil⟩
    rw [if_neg q]
    by_cases q1 : c i = 32
    · rw [if_pos q1]
      exact go (i + 1) l (by omega)
    rw [if_neg q1]
    by_cases q2 : 48 ≤ c i ∧ c i ≤ 57
    · rw [if_pos q2]
      have b1 := bas_in (c := c) (n := n) (i := i) (by omega)
      have b2 := (numE_ge (c := c) (lim := nL (bas c n i) i n) (base := bas c n i) 9 (nF (bas c n i) i) 0).1
      by_cases q3 : (numE c (nL (bas c n i) i n) (bas c n i) 9 (nF (bas c n i) i) 0).1 = nF (bas c n i) i
      · rw [if_pos q3]
        exact one _ _ ⟨Nat.le_refl _, by show i < n; omega, fun _ => ⟨b1.2, b1.1⟩⟩ ⟨[], rfl, fun x hx => absurd hx List.not_mem_nil⟩
      · rw [if_neg q3]
        exact one _ _ ⟨Nat.le_refl _, by show i < n; omega, fun y => by cases y⟩ (go _ _ (by omega))
    rw [if_neg q2]
    have o7 : (otk (c i)).1 ≠ 7 := by
      unfold otk
      split
      · show (1 : Nat) ≠ 7; decide
      · split
        · show (4 : Nat) ≠ 7; decide
        · split
          · show (5 : Nat) ≠ 7; decide
          · split
            · show (6 : Nat) ≠ 7; decide
            · split
              · show (3 : Nat) ≠ 7; decide
              · show (8 : Nat) ≠ 7; decide
    by_cases q4 : (otk (c i)).1 = 8
    · rw [if_pos q4]
      exact one _ _ ⟨Nat.le_refl _, by show i < n; omega, fun y => absurd y o7⟩ ⟨[], rfl, fun x hx => absurd hx List.not_mem_nil⟩
    · rw [if_neg q4]
      exact one _ _ ⟨Nat.le_refl _, by show i < n; omega, fun y => absurd y o7⟩ (go _ _ (by omega))
theorem numE_same {L L' X base : Nat} (hL : L = min n X) (hL' : L' = min k X) (hkn : k ≤ n) : ∀ f i v, (numE c L base f i v).1 ≤ k → numE c L' base f i v = numE c L base f i v := by
  intro f
  induction f with
  | zero => intro i v _; rfl
  | succ f ih =>
    intro i v h
    rw [numE_c] at h ⊢
    rw [numE_c c L]
    by_cases q : i < L ∧ dgt (c i) < base
    · rw [if_pos q] at h ⊢
      have := (numE_ge (c := c) (lim := L) (base := base) f (i + 1) (base * v + dgt (c i))).1
      rw [if_pos ⟨by omega, q.2⟩]
      exact ih _ _ h
    · rw [if_neg q, if_neg (fun y => q ⟨by omega, y.2⟩)]
theorem numE_cut {L L' X base : Nat} (hL : L = min n X) (hL' : L' = min k X) : ∀ f i v, i ≤ k → k < (numE c L base f i v).1 → (numE c L' base f i v).1 = k := by
  intro f
  induction f with
  | zero =>
    intro i v hi h
    have h : k < i := h
    omega
  | succ f ih =>
    intro i v hi h
    rw [numE_c] at h ⊢
    by_cases q : i < L ∧ dgt (c i) < base
    · rw [if_pos q] at h
      by_cases y : i < k
      · rw [if_pos ⟨by omega, q.2⟩]
        exact ih _ _ (by omega) h
      · rw [if_neg (fun z => by omega)]
        show i = k
        omega
    · rw [if_neg q] at h
      have h : k < i := h
      omega
/-- the words of a beginning: those of the text, or the last one cut -/
theorem lex_pre (hkn : k ≤ n) : ∀ f f' i l, i ≤ k → n ≤ i + f → k ≤ i + f' → (∃ E, lexS c n f i l = E ++ lexS c k f' i l ∧ ∀ x, x ∈ E → k ≤ x.2) ∨ (∃ E l0 i0 w w', lexS c n f i l = E ++ (w, i0) :: l0 ∧ lexS c k f' i l = (w', i0) :: l0 ∧ i0 < k ∧ (∀ x, x ∈ E → k ≤ x.2) ∧ ((w.1 = 0 ∧ (w'.1 = 0 ∨ w' = (7, k))) ∨ (w.1 = 7 ∧ k < w.2 ∧ w'.1 = 0))) := by
  intro f
  induction f with
  | zero =>
    intro f' i l hi h1 h2
    refine Or.inl ⟨[], ?_, fun x hx => absurd hx List.not_mem_nil⟩
    rw [lexS_end (show k ≤ i by omega)]
    rfl
  | succ f ih =>
    intro f' i l hi h1 h2
    by_cases q : k ≤ i
    · rw [lexS_end q]
      obtain ⟨E, e1, e2⟩ := lex_suf (c := c) (n := n) (f + 1) i l
      exact Or.inl ⟨E, e1, fun x hx => by have := (e2 x hx).1; omega⟩
    obtain ⟨f', rfl⟩ : ∃ g, f' = g + 1 := ⟨f' - 1, by omega⟩
    rw [lexS_c, lexS_c c k, if_neg (show ¬ n ≤ i by omega), if_neg q]
    by_cases q1 : c i = 32
    · rw [if_pos q1, if_pos q1]
      exact ih f' (i + 1) l (by omega) (by omega) (by omega)
    rw [if_neg q1, if_neg q1]
    by_cases q2 : 48 ≤ c i ∧ c i ≤ 57
    rotate_left
    · rw [if_neg q2, if_neg q2]
      by_cases q4 : (otk (c i)).1 = 8
      · rw [if_pos q4, if_pos q4]
        exact Or.inl ⟨[], rfl, fun x hx => absurd hx List.not_mem_nil⟩
      · rw [if_neg q4, if_neg q4]
        exact ih f' (i + 1) _ (by omega) (by omega) (by omega)
    rw [if_pos q2, if_pos q2]
    have b1 := bas_in (c := c) (n := n) (i := i) (by omega)
    -- what comes behind a number
    have behind : ∀ (e : Nat) (u u' : Wd) (V : List Wp), k < e → u.1 = 0 → (u'.1 = 0 ∨ u' = (7, k)) → V = (u', i) :: l → (∃ E, lexS c n f e ((u, i) :: l) = E ++ V ∧ ∀ x, x ∈ E → k ≤ x.2) ∨ (∃ E l0 i0 w w', lexS c n f e ((u, i) :: l) = E ++ (w, i0) :: l0 ∧ V = (w', i0) :: l0 ∧ i0 < k ∧ (∀ x, x ∈ E → k ≤ x.2) ∧ ((w.1 = 0 ∧ (w'.1 = 0 ∨ w' = (7, k))) ∨ (w.1 = 7 ∧ k < w.2 ∧ w'.1 = 0))) := by
      intro e w w' V he hw hw' hV
      obtain ⟨E, e1, e2⟩ := lex_suf (c := c) (n := n) f e ((w, i) :: l)
      exact Or.inr ⟨E, l, i, w, w', e1, hV, by omega, fun x hx => by have := (e2 x hx).1; omega, Or.inl ⟨hw, hw'⟩⟩
    by_cases qb : bas c k i = bas c n i
    · rw [qb]
      have sk : nF (bas c n i) i ≤ k := by
        have := (bas_in (c := c) (n := k) (i := i) (by omega)).1
        rw [qb] at this
        exact this
      have g1 := (numE_ge (c := c) (lim := nL (bas c n i) i n) (base := bas c n i) 9 (nF (bas c n i) i) 0).1
      generalize hX : (nF (bas c n i) i + if bas c n i = 10 then 9 else 7) = X at *
      have hL : nL (bas c n i) i n = min n X := by unfold nL; rw [hX]
      have hL' : nL (bas c n i) i k = min k X := by unfold nL; rw [hX]
      have hs := fun (y : (numE c (nL (bas c n i) i n) (bas c n i) 9 (nF (bas c n i) i) 0).1 ≤ k) => numE_same (c := c) (base := bas c n i) hL hL' hkn _ _ _ y
      have hc := fun (y : k < (numE c (nL (bas c n i) i n) (bas c n i) 9 (nF (bas c n i) i) 0).1) => numE_cut (c := c) (base := bas c n i) hL hL' 9 (nF (bas c n i) i) 0 sk y
      generalize numE c (nL (bas c n i) i n) (bas c n i) 9 (nF (bas c n i) i) 0 = N at *
      generalize numE c (nL (bas c n i) i k) (bas c n i) 9 (nF (bas c n i) i) 0 = N' at *
      by_cases qe : N.1 ≤ k
      · rw [hs qe]
        by_cases q3 : N.1 = nF (bas c n i) i
        · rw [if_pos q3, if_pos q3]
          exact Or.inl ⟨[], rfl, fun x hx => absurd hx List.not_mem_nil⟩
        · rw [if_neg q3, if_neg q3]
          exact ih f' _ _ qe (by omega) (by omega)
      · have ec := hc (by omega)
        rw [if_neg (show ¬ N.1 = nF (bas c n i) i by omega)]
        by_cases q3 : N'.1 = nF (bas c n i) i
        · rw [if_pos q3]
          have e7 : nF (bas c n i) i = k := by omega
          rw [e7]
          exact behind N.1 (0, N.2) (7, k) _ (by omega) rfl (Or.inr rfl) rfl
        · rw [if_neg q3, lexS_end (show k ≤ N'.1 by omega)]
          exact behind N.1 (0, N.2) (0, N'.2) _ (by omega) rfl (Or.inl rfl) rfl
    · -- a 0 that is cut off from its base
      have hk : k = i + 1 ∧ bas c k i = 10 ∧ bas c n i ≠ 10 := by
        by_cases y : i + 1 < k
        · exfalso
          refine qb ?_
          unfold bas
          by_cases z : c i = 48
          · rw [if_pos (show c i = 48 ∧ i + 1 < k from ⟨z, y⟩), if_pos (show c i = 48 ∧ i + 1 < n from ⟨z, by omega⟩)]
          · rw [if_neg (show ¬ (c i = 48 ∧ i + 1 < k) from fun w => z w.1), if_neg (show ¬ (c i = 48 ∧ i + 1 < n) from fun w => z w.1)]
        · have e : bas c k i = 10 := by
            unfold bas
            rw [if_neg (fun w => y w.2)]
          exact ⟨by omega, e, fun w => qb (by rw [e, w])⟩
      obtain ⟨k1, k2, k3⟩ := hk
      have e' : ∃ v, numE c (nL 10 i k) 10 9 (nF 10 i) 0 = (i + 1, v) := by
        have d10 : dgt (c i) < 10 := by
          unfold dgt
          rw [if_pos q2]
          omega
        have l1 : nL 10 i k = i + 1 := by
          unfold nL nF
          rw [if_pos rfl, if_pos rfl]
          omega
        have l2 : nF 10 i = i := by
          unfold nF
          rw [if_pos rfl]
        rw [l1, l2, numE_c, if_pos ⟨by omega, d10⟩, numE_c, if_neg (fun y => by omega)]
        exact ⟨_, rfl⟩
      have n2 : nF (bas c n i) i = i + 2 := by
        unfold nF
        rw [if_neg k3]
      obtain ⟨v, e'⟩ := e'
      have g1 := (numE_ge (c := c) (lim := nL (bas c n i) i n) (base := bas c n i) 9 (nF (bas c n i) i) 0).1
      rw [k2, e']
      generalize numE c (nL (bas c n i) i n) (bas c n i) 9 (nF (bas c n i) i) 0 = N at *
      dsimp only
      rw [if_neg (show ¬ i + 1 = nF 10 i by
        unfold nF
        rw [if_pos rfl]
        omega), lexS_end (show k ≤ i + 1 by omega)]
      by_cases q3 : N.1 = nF (bas c n i) i
      · rw [if_pos q3]
        exact Or.inr ⟨[], l, i, (7, nF (bas c n i) i), (0, v), rfl, rfl, by omega, fun x hx => absurd hx List.not_mem_nil, Or.inr ⟨rfl, by show k < nF (bas c n i) i; omega, rfl⟩⟩
      · rw [if_neg q3]
        exact behind N.1 (0, N.2) (0, v) _ (by omega) rfl (Or.inl rfl) rfl
end LXP
