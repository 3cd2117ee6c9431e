/-! where beginnings fail -/
theorem run_pfx {b : GB} : ∀ n (A B : List Wi) (st : PS), A.length ≤ n → (∀ x, run b A st = .inl x → run b (A ++ B) st = .inl x) ∧ (∀ s', run b A st = .inr s' → (∃ s2, run b (A ++ B) st = .inr s2) ∨ ∃ w s2, run b (A ++ B) st = .inl (w, s2) ∧ w ∈ B) := by
  have tail : ∀ {b : GB} (B : List Wi) (st : PS), (∃ s2, run b B st = .inr s2) ∨ ∃ w s2, run b B st = .inl (w, s2) ∧ w ∈ B := fun {b} B st => by
    cases e : run b B st with
    | inr s2 => exact Or.inl ⟨s2, rfl⟩
    | inl y =>
      obtain ⟨w, s2⟩ := y
      exact Or.inr ⟨w, s2, rfl, run_mem _ _ _ _ _ (Nat.le_refl _) e⟩
  intro n
  induction n with
  | zero =>
    intro A B st h
    cases A with
    | cons w A => exact absurd h (Nat.not_succ_le_zero _)
    | nil =>
      exact ⟨fun x e => (by cases e), fun s' _ => tail B st⟩
  | succ n ih =>
    intro A B st h
    cases A with
    | nil => exact ⟨fun x e => (by cases e), fun s' _ => tail B st⟩
    | cons w A =>
      rw [List.length_cons] at h
      rw [List.cons_append, run_cons, run_cons]
      cases A with
      | nil =>
        have i0 : isCl w st [] = false := rfl
        rw [i0, if_neg (by decide), List.nil_append]
        by_cases q : isCl w st B = true
        · rw [q, if_pos rfl]
          have hst : ∃ st', stA b w.2 st = some st' := by
            cases B with
            | nil => cases q
            | cons y B =>
              have q : (st.2.2.2 && w.2.1 == 1 && y.2.1 == 4) = true := q
              rw [Bool.and_eq_true, Bool.and_eq_true] at q
              have w1 : w.2.1 = 1 := beq_iff_eq.mp q.1.2
              unfold stA stO
              rw [if_pos q.1.1, if_neg (by omega), if_pos w1]
              exact ⟨_, rfl⟩
          obtain ⟨st', hst⟩ := hst
          rw [hst]
          refine ⟨fun x e => ?_, fun s' _ => ?_⟩
          · have e : (Sum.inr st' : Wi × PS ⊕ PS) = .inl x := e
            cases e
          · rcases tail (b := b) (B.drop 1) (stF w.2.2 st) with y | ⟨w2, s2, y1, y2⟩
            · exact Or.inl y
            · exact Or.inr ⟨w2, s2, y1, List.mem_of_mem_drop y2⟩
        · rw [bF q, if_neg (by decide)]
          cases stA b w.2 st with
          | none => exact ⟨fun x e => e, fun s' e => by cases e⟩
          | some st' => exact ⟨fun x e => (by cases e), fun s' _ => tail B st'⟩
      | cons y A =>
        have ec : isCl w st ((y :: A) ++ B) = isCl w st (y :: A) := rfl
        rw [ec]
        by_cases q : isCl w st (y :: A) = true
        · rw [q, if_pos rfl, if_pos rfl]
          exact ih A B _ (by rw [List.length_cons] at h; omega)
        · rw [bF q, if_neg (by decide), if_neg (by decide)]
          cases stA b w.2 st with
          | none => exact ⟨fun x e => e, fun s' e => by cases e⟩
          | some st' => exact ih (y :: A) B st' (by omega)
theorem pF_app : ∀ (E V : List Wp) i, i < V.length → pF (E ++ V) i = pF V i := by
  intro E
  induction E with
  | nil => intro V i _; rfl
  | cons x E ih =>
    intro V i hi
    show (if i = (E ++ V).length then x.2 else pF (E ++ V) i) = _
    rw [if_neg (by rw [List.length_append]; omega), ih V i hi]
theorem visl_app (V : List Wp) : ∀ E : List Wp, ∃ B, visl (E ++ V) = visl V ++ B ∧ ∀ w, w ∈ B → V.length ≤ w.1 ∧ ∃ x, x ∈ E ∧ w.2 = x.1 ∧ pF (E ++ V) w.1 = x.2 := by
  intro E
  induction E with
  | nil => exact ⟨[], by rw [List.append_nil]; rfl, fun w hw => absurd hw List.not_mem_nil⟩
  | cons x E ih =>
    obtain ⟨B, e1, e2⟩ := ih
    refine ⟨B ++ [((E ++ V).length, x.1)], by rw [List.cons_append, visl_cons, e1, List.append_assoc], fun w hw => ?_⟩
    rcases List.mem_append.mp hw with q | q
    · have hm : w.1 < (E ++ V).length := by
        have : w ∈ visl (E ++ V) := by rw [e1]; exact List.mem_append_right _ q
        have := (vis_mem _ _ _ this).2.1
        omega
      obtain ⟨a1, y, a2, a3, a4⟩ := e2 w q
      refine ⟨a1, y, List.mem_cons_of_mem _ a2, a3, ?_⟩
      show (if w.1 = (E ++ V).length then x.2 else pF (E ++ V) w.1) = _
      rw [if_neg (by omega), a4]
    · rw [List.mem_singleton.mp q]
      refine ⟨by show V.length ≤ (E ++ V).length; rw [List.length_append]; omega, x, List.mem_cons_self, rfl, ?_⟩
      show (if (E ++ V).length = (E ++ V).length then x.2 else pF (E ++ V) (E ++ V).length) = _
      rw [if_pos rfl]
/-- what is told of a beginning, and of the text -/
def FLt (b : GB) (c : Nat → Nat) (m : Nat) : Int32 := resC (pF (tyW c m)) m (run b (visl (tyW c m)) st0)
theorem resC_inr {P : Nat → Nat} {len : Nat} {s : PS} : resC P len (.inr s) = -1 ∨ resC P len (.inr s) = (Int32.ofNat (len)) := by
  show (if (acc (.inr s)).isSome = true then (-1 : Int32) else (Int32.ofNat (len))) = -1 ∨ (if (acc (.inr s)).isSome = true then (-1 : Int32) else (Int32.ofNat (len))) = (Int32.ofNat (len))
  split
  · exact Or.inl rfl
  · exact Or.inr rfl
/-- a word that is told of lies in the words -/
theorem flt_in {V : List Wp} {b : GB} {st s : PS} {w : Wi} {m : Nat} (hV : ∀ x, x ∈ V → x.2 < m ∧ (x.1.1 = 7 → x.2 ≤ x.1.2 ∧ x.1.2 ≤ m)) (e : run b (visl V) st = .inl (w, s)) : w.1 < V.length ∧ flt (pF V) w s ≤ m := by
  have wm := vis_mem _ _ _ (run_mem _ _ _ _ _ (Nat.le_refl _) e)
  obtain ⟨x, x1, x2, x3⟩ := wF_mem V w.1 (by omega)
  obtain ⟨h1, h2⟩ := hV x x1
  refine ⟨by omega, ?_⟩
  unfold flt
  split
  · next y =>
    have y7 : x.1.1 = 7 := by rw [← x2, ← wm.2.2]; exact y.2
    have := (h2 y7).2
    rw [← x2, ← wm.2.2] at this
    exact this
  · rw [x3]
    omega
theorem flt_pre {b : GB} {c : Nat → Nat} {n k : Nat} (hkn : k ≤ n) : (∃ φ, φ ≤ k ∧ FLt b c k = (Int32.ofNat (φ)) ∧ FLt b c n = (Int32.ofNat (φ))) ∨ ((FLt b c k = -1 ∨ FLt b c k = (Int32.ofNat (k))) ∧ (FLt b c n = -1 ∨ ∃ φ, k ≤ φ ∧ φ ≤ n ∧ FLt b c n = (Int32.ofNat (φ)))) := by
  have bW : ∀ x, x ∈ tyW c n → x.2 < n ∧ (x.1.1 = 7 → x.2 ≤ x.1.2 ∧ x.1.2 ≤ n) := fun x hx => by
    obtain ⟨E, e1, e2⟩ := lex_suf (c := c) (n := n) n 0 []
    have hx : x ∈ lexS c n n 0 [] := hx
    rw [e1, List.append_nil] at hx
    exact (e2 x hx).2
  have bV : ∀ x, x ∈ tyW c k → x.2 < k ∧ (x.1.1 = 7 → x.2 ≤ x.1.2 ∧ x.1.2 ≤ k) := fun x hx => by
    obtain ⟨E, e1, e2⟩ := lex_suf (c := c) (n := k) k 0 []
    have hx : x ∈ lexS c k k 0 [] := hx
    rw [e1, List.append_nil] at hx
    exact (e2 x hx).2
  -- behind, all places lie from k on
  have late : ∀ (E V : List Wp) (B : List Wi) (X : List Wi), tyW c n = E ++ V → (∀ x, x ∈ E → k ≤ x.2) → visl (tyW c n) = X ++ B → (∀ w, w ∈ B → V.length ≤ w.1 ∧ ∃ x, x ∈ E ∧ w.2 = x.1 ∧ pF (E ++ V) w.1 = x.2) → ((∃ s2, run b (visl (tyW c n)) st0 = .inr s2) ∨ ∃ w s2, run b (visl (tyW c n)) st0 = .inl (w, s2) ∧ w ∈ B) → (FLt b c n = -1 ∨ ∃ φ, k ≤ φ ∧ φ ≤ n ∧ FLt b c n = (Int32.ofNat (φ))) := by
    intro E V B X h1 h2 h3 h4 h5
    unfold FLt
    rcases h5 with ⟨s2, e⟩ | ⟨w, s2, e, hw⟩
    · rw [e]
      rcases resC_inr (P := pF (tyW c n)) (len := n) (s := s2) with y | y
      · exact Or.inl y
      · exact Or.inr ⟨n, hkn, Nat.le_refl _, y⟩
    · have le := (flt_in bW e).2
      rw [e]
      refine Or.inr ⟨flt (pF (tyW c n)) w s2, ?_, le, rfl⟩
      obtain ⟨a1, x, a2, a3, a4⟩ := h4 w hw
      have hx : x ∈ tyW c n := by rw [h1]; exact List.mem_append_left _ a2
      have k1 := h2 x a2
      unfold flt
      split
      · next y =>
        have := ((bW x hx).2 (by rw [← a3]; exact y.2)).1
        rw [← a3] at this
        omega
      · rw [h1, a4]
        exact k1
  rcases lex_pre (c := c) hkn n k 0 [] (Nat.zero_le _) (by omega) (by omega) with ⟨E, e1, e2⟩ | ⟨E, l0, i0, w, w', e1, e2, e3, e4, e5⟩
  · have e1 : tyW c n = E ++ tyW c k := e1
    obtain ⟨B, b1, b2⟩ := visl_app (tyW c k) E
    rw [← e1] at b1
    obtain ⟨p1, p2⟩ := run_pfx (b := b) _ (visl (tyW c k)) B st0 (Nat.le_refl _)
    rw [← b1] at p1 p2
    cases er : run b (visl (tyW c k)) st0 with
    | inl y =>
      obtain ⟨w, s⟩ := y
      have en := p1 _ er
      obtain ⟨i1, i2⟩ := flt_in bV er
      refine Or.inl ⟨flt (pF (tyW c k)) w s, i2, by unfold FLt; rw [er]; rfl, ?_⟩
      unfold FLt
      rw [en]
      show (Int32.ofNat (flt (pF (tyW c n)) w s)) = _
      unfold flt
      rw [e1, pF_app E _ _ i1]
    | inr s =>
      refine Or.inr ⟨by unfold FLt; rw [er]; exact resC_inr, late E _ B _ e1 e2 b1 b2 (p2 _ er)⟩
  · have e1 : tyW c n = E ++ (w, i0) :: l0 := e1
    have e2 : tyW c k = (w', i0) :: l0 := e2
    obtain ⟨B, b1, b2⟩ := visl_app ((w, i0) :: l0) E
    rw [← e1] at b1
    obtain ⟨p1, p2⟩ := run_pfx (b := b) _ (visl ((w, i0) :: l0)) B st0 (Nat.le_refl _)
    rw [← b1] at p1 p2
    have k4 : w.1 ≠ 4 ∧ w'.1 ≠ 4 := by
      rcases e5 with ⟨y1, y2 | y2⟩ | ⟨y1, y2, y3⟩
      · omega
      · rw [y2]; exact ⟨by omega, by show (7 : Nat) ≠ 4; decide⟩
      · omega
    have rw1 := run_app (b := b) (w := (l0.length, w)) k4.1 _ (visl l0) st0 (Nat.le_refl _)
    have rw2 := run_app (b := b) (w := (l0.length, w')) k4.2 _ (visl l0) st0 (Nat.le_refl _)
    have v1 : visl ((w, i0) :: l0) = visl l0 ++ [(l0.length, w)] := visl_cons (w, i0) l0
    have v2 : visl ((w', i0) :: l0) = visl l0 ++ [(l0.length, w')] := visl_cons (w', i0) l0
    rw [← v1] at rw1
    rw [← v2] at rw2
    have hP : pF ((w, i0) :: l0) = pF ((w', i0) :: l0) := rfl
    have at0 : pF ((w', i0) :: l0) l0.length = i0 := if_pos rfl
    have l7 : ∀ (u : Wd) (s : PS), u.1 = 7 → stA b u s = none := fun u s h => by
      unfold stA stO
      rw [if_neg (show ¬ u.1 = 0 by omega), if_neg (show ¬ u.1 = 1 by omega), if_neg (show ¬ u.1 = 3 by omega), if_neg (show ¬ u.1 = 4 by omega), if_neg (show ¬ u.1 = 3 by omega), if_neg (show ¬ u.1 = 5 by omega), if_neg (show ¬ u.1 = 6 by omega)]
      split <;> rfl
    have l0t : ∀ (u : Wd) (s : PS), u.1 = 0 → s.2.2.2 = true → ∃ s', stA b u s = some s' := fun u s h hs => by
      unfold stA stO
      rw [if_pos hs, if_pos h]
      exact ⟨_, rfl⟩
    have l0f : ∀ (u : Wd) (s : PS), u.1 = 0 → ¬ s.2.2.2 = true → stA b u s = none := fun u s h hs => by
      unfold stA
      rw [if_neg hs, if_neg (show ¬ u.1 = 3 by omega), if_neg (show ¬ u.1 = 5 by omega), if_neg (show ¬ u.1 = 6 by omega)]
    have eW : ∀ i, i < l0.length + 1 → pF (tyW c n) i = pF (tyW c k) i := fun i hi => by rw [e1, e2, pF_app E ((w, i0) :: l0) i hi, hP]
    cases er : run b (visl l0) st0 with
    | inl y =>
      obtain ⟨x, s⟩ := y
      rw [er] at rw1 rw2
      have rw2 : run b (visl (tyW c k)) st0 = .inl (x, s) := by rw [e2]; exact rw2
      have en := p1 _ rw1
      obtain ⟨i1, i2⟩ := flt_in bV rw2
      refine Or.inl ⟨flt (pF (tyW c k)) x s, i2, by unfold FLt; rw [rw2]; rfl, ?_⟩
      unfold FLt
      rw [en]
      show (Int32.ofNat (flt (pF (tyW c n)) x s)) = _
      unfold flt
      rw [eW x.1 (by rw [e2] at i1; exact i1)]
    | inr s =>
      rw [er] at rw1 rw2
      dsimp only at rw1 rw2
      by_cases hs : s.2.2.2 = true
      · refine Or.inr ⟨?_, ?_⟩
        · unfold FLt
          rw [e2]
          have key : w'.1 = 0 ∨ w' = (7, k) := by
            rcases e5 with ⟨-, y⟩ | ⟨-, -, y⟩
            · exact y
            · exact Or.inl y
          rcases key with y | y
          · obtain ⟨s', z⟩ := l0t w' s y hs
            rw [z] at rw2
            rw [rw2]
            exact resC_inr
          · rw [l7 w' s (by rw [y])] at rw2
            rw [rw2]
            refine Or.inr ?_
            show (Int32.ofNat (flt _ _ _)) = _
            unfold flt
            rw [if_pos ⟨hs, by show w'.1 = 7; rw [y]⟩]
            show (Int32.ofNat (w'.2)) = _
            rw [y]
        · rcases e5 with ⟨y, -⟩ | ⟨y, y2, -⟩
          · obtain ⟨s', z⟩ := l0t w s y hs
            rw [z] at rw1
            refine late E ((w, i0) :: l0) B _ e1 e4 b1 b2 (p2 _ rw1)
          · rw [l7 w s y] at rw1
            have en := p1 _ rw1
            obtain ⟨-, i2⟩ := flt_in bW en
            have ef : flt (pF (tyW c n)) (l0.length, w) s = w.2 := by
              unfold flt
              rw [if_pos ⟨hs, y⟩]
            refine Or.inr ⟨w.2, by omega, by rw [← ef]; exact i2, ?_⟩
            unfold FLt
            rw [en]
            show (Int32.ofNat (flt _ _ _)) = _
            rw [ef]
      · have n1 : stA b w s = none := by
          rcases e5 with ⟨y, -⟩ | ⟨y, -⟩
          · exact l0f w s y hs
          · exact l7 w s y
        have n2 : stA b w' s = none := by
          rcases e5 with ⟨-, y | y⟩ | ⟨-, -, y⟩
          · exact l0f w' s y hs
          · exact l7 w' s (by rw [y])
          · exact l0f w' s y hs
        rw [n1] at rw1
        rw [n2] at rw2
        have en := p1 _ rw1
        refine Or.inl ⟨i0, by omega, ?_, ?_⟩
        · unfold FLt
          rw [e2, rw2]
          show (Int32.ofNat (flt _ _ _)) = _
          unfold flt
          rw [if_neg (fun y => hs y.1)]
          exact congrArg _ at0
        · unfold FLt
          rw [en]
          show (Int32.ofNat (flt _ _ _)) = _
          unfold flt
          rw [if_neg (fun y => hs y.1)]
          show (Int32.ofNat (pF (tyW c n) l0.length)) = _
          rw [eW _ (Nat.lt_succ_self _), e2, at0]
