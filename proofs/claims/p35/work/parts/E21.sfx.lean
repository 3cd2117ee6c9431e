/-! what is read comes behind what was read -/
theorem sfx_same {a c : Nd} {A C P : List Nd} (h : (a :: A) <:+ P) (h' : (c :: C) <:+ P) (e : A.length = C.length) : a = c ∧ A = C := by
  obtain ⟨E, h⟩ := h
  obtain ⟨E', h'⟩ := h'
  have := (List.append_inj' (h.trans h'.symm) (by rw [List.length_cons, List.length_cons, e])).2
  exact List.cons.inj this
theorem sfx_tl {a : Nd} {A P : List Nd} (h : (a :: A) <:+ P) : A <:+ P := List.IsSuffix.trans (List.suffix_cons a A) h
abbrev lfN (x : Nd) : Prop := x.1 = 0 ∨ x.1 = 1
def lc : List Nd → Nat
  | [] => 0
  | x :: l => (if lfN x then 1 else 0) + lc l
theorem lc_c (x : Nd) (l : List Nd) : lc (x :: l) = (if lfN x then 1 else 0) + lc l := rfl
theorem lc_app : ∀ (E A : List Nd), lc (E ++ A) = lc E + lc A := by
  intro E
  induction E with
  | nil => intro A; rw [List.nil_append]; show _ = 0 + _; omega
  | cons x E ih =>
    intro A
    rw [List.cons_append, lc_c, lc_c, ih]
    omega
theorem lc_sfx {A B : List Nd} (h : A <:+ B) : lc A ≤ lc B := by
  obtain ⟨E, e⟩ := h
  rw [← e, lc_app]
  omega
theorem sfx_leaf {z z' : Nd} {A A' P : List Nd} (hz : lfN z) (hz' : lfN z') (h : (z :: A) <:+ P) (h' : (z' :: A') <:+ P) (e : lc A = lc A') : A.length = A'.length := by
  have go : ∀ (z z' : Nd) (A A' : List Nd), lfN z → (z :: A) <:+ P → (z' :: A') <:+ P → lc A = lc A' → ¬ A.length < A'.length := fun z z' A A' hz h h' e y => by
    have := lc_sfx (List.suffix_of_suffix_length_le h (sfx_tl h') (by rw [List.length_cons]; omega))
    rw [lc_c, if_pos hz] at this
    omega
  have a := go z z' A A' hz h h' e
  have b := go z' z A' A hz' h' h e.symm
  omega
abbrev mF (L : List Ln) : List Nd := L.map Prod.fst
theorem mF_sfx {L L' : List Ln} (h : L <:+ L') : mF L <:+ mF L' := by
  obtain ⟨E, e⟩ := h
  exact ⟨mF E, by rw [← e]; show _ = List.map _ _; rw [List.map_append]⟩
theorem hNd_n (h : Hd) : ¬ lfN (hNd h) := by
  unfold lfN hNd opNd
  dsimp only
  decide
theorem opNd_n (p fx : Nat) : ¬ lfN (opNd p fx) := by
  unfold lfN opNd
  dsimp only
  decide
theorem red_sfx (r : Nat) : ∀ (H : List Hd) (B : List Oe) (L : List Ln), L <:+ (red r H B L).2.2 ∧ lc (mF (red r H B L).2.2) = lc (mF L) ∧ (red r H B L = (H, B, L) ∨ ∃ h s, h ∈ H ∧ ((hNd h, s) :: L) <:+ (red r H B L).2.2) := by
  intro H
  induction H with
  | nil => intro B L; exact ⟨List.suffix_refl L, rfl, Or.inl rfl⟩
  | cons h H ih =>
    intro B L
    have e : red r (h :: H) B L = if r < h.2.2.1 then red r H ((h.2.2.2, szs (B.take (tkn h)) + 1) :: B.drop (tkn h)) ((hNd h, szs (B.take (tkn h)) + 1) :: L) else (h :: H, B, L) := rfl
    rw [e]
    by_cases z : r < h.2.2.1
    · rw [if_pos z]
      obtain ⟨a1, a2, -⟩ := ih ((h.2.2.2, szs (B.take (tkn h)) + 1) :: B.drop (tkn h)) ((hNd h, szs (B.take (tkn h)) + 1) :: L)
      refine ⟨List.IsSuffix.trans (List.suffix_cons _ _) a1, ?_, Or.inr ⟨h, _, List.mem_cons_self, a1⟩⟩
      rw [a2]
      show lc (hNd h :: mF L) = _
      rw [lc_c, if_neg (hNd_n h), Nat.zero_add]
    · rw [if_neg z]
      exact ⟨List.suffix_refl L, rfl, Or.inl rfl⟩
def flA (b : GB) (w : Wd) (fl : Bool) : Bool := if fl = true then (w.1 == 3 || w.1 == 4) else if w.1 = 3 then decide (¬ 0 < rkN b w.2 1) else w.1 == 6
/-- what a word makes of the state, whatever the words before it -/
theorem stA_fl {b : GB} {w : Wd} {st st' : PS} (e : stA b w st = some st') : st'.2.2.2 = flA b w st.2.2.2 ∧ lc (mF st'.2.2.1) = lc (mF st.2.2.1) + (if w.1 = 0 ∨ w.1 = 1 then 1 else 0) ∧ st.2.2.1 <:+ st'.2.2.1 ∧ (w.1 = 4 → st.2.2.2 = true) ∧ (w.1 = 5 → st.2.2.2 = false) ∧ (st.2.2.2 = true → (st'.2.2.2 = true ∧ st'.2.2.1 = st.2.2.1) ∨ ∃ z s, lfN z ∧ st'.2.2.1 = (z, s) :: st.2.2.1) := by
  obtain ⟨H, B, L, fl⟩ := st
  unfold stA at e
  dsimp only at e
  unfold flA
  by_cases z : fl = true
  · subst z
    rw [if_pos rfl] at e
    rw [if_pos rfl]
    unfold stO at e
    by_cases q0 : w.1 = 0
    · rw [if_pos q0] at e
      cases e
      refine ⟨by rw [q0]; rfl, ?_, List.suffix_cons _ _, fun y => by omega, fun y => by omega, fun _ => Or.inr ⟨_, _, Or.inl rfl, rfl⟩⟩
      show lc (_ :: mF L) = _
      rw [lc_c, if_pos (Or.inl rfl), if_pos (Or.inl q0), Nat.add_comm]
    rw [if_neg q0] at e
    by_cases q1 : w.1 = 1
    · rw [if_pos q1] at e
      cases e
      refine ⟨by rw [q1]; rfl, ?_, List.suffix_cons _ _, fun y => by omega, fun y => by omega, fun _ => Or.inr ⟨_, _, Or.inr rfl, rfl⟩⟩
      show lc (_ :: mF L) = _
      rw [lc_c, if_pos (Or.inr rfl), if_pos (Or.inr q1), Nat.add_comm]
    rw [if_neg q1] at e
    rw [if_neg (by omega)]
    by_cases q3 : w.1 = 3
    · rw [if_pos q3] at e
      by_cases y : 0 < rkN b w.2 0
      · rw [if_pos y] at e
        cases e
        exact ⟨by rw [q3]; rfl, rfl, List.suffix_refl L, fun _ => rfl, fun y => by omega, fun _ => Or.inl ⟨rfl, rfl⟩⟩
      · rw [if_neg y] at e
        cases e
    rw [if_neg q3] at e
    by_cases q4 : w.1 = 4
    · rw [if_pos q4] at e
      cases e
      exact ⟨by rw [q4]; rfl, rfl, List.suffix_refl L, fun _ => rfl, fun y => by omega, fun _ => Or.inl ⟨rfl, rfl⟩⟩
    · rw [if_neg q4] at e
      cases e
  · have z := bF z
    subst z
    rw [if_neg (show ¬ false = true by decide)] at e
    rw [if_neg (show ¬ false = true by decide)]
    by_cases q3 : w.1 = 3
    · rw [if_pos q3] at e
      rw [if_pos q3, if_neg (by omega)]
      unfold stS at e
      dsimp only at e
      by_cases y : 0 < rkN b w.2 1
      · rw [if_pos y] at e
        cases e
        obtain ⟨a1, a2, -⟩ := red_sfx (rkN b w.2 1) H B L
        refine ⟨by rw [decide_eq_false (fun h => h y)], ?_, List.IsSuffix.trans a1 (List.suffix_cons _ _), fun y => by omega, fun _ => rfl, fun y => by cases y⟩
        show lc (opNd w.2 1 :: mF _) = _
        rw [lc_c, if_neg (opNd_n _ _), Nat.zero_add, a2]
        rfl
      · rw [if_neg y] at e
        by_cases y2 : rkN b w.2 2 = 0
        · rw [if_pos y2] at e
          cases e
        rw [if_neg y2] at e
        obtain ⟨a1, a2, -⟩ := red_sfx (rkN b w.2 2) H B L
        by_cases y3 : ((red (rkN b w.2 2) H B L).2.1.headD (0, 0)).1 = rkN b w.2 2
        · rw [if_pos y3] at e
          cases e
        rw [if_neg y3] at e
        cases e
        exact ⟨by rw [decide_eq_true y], a2, a1, fun y => by omega, fun _ => rfl, fun y => by cases y⟩
    rw [if_neg q3] at e
    rw [if_neg q3]
    obtain ⟨a1, a2, -⟩ := red_sfx 0 H B L
    generalize red 0 H B L = K at *
    obtain ⟨K1, K2, K3⟩ := K
    by_cases q5 : w.1 = 5
    · rw [if_pos q5] at e
      rw [if_neg (by omega)]
      cases K1 with
      | nil => cases e
      | cons h K1 =>
        unfold clS at e
        dsimp only at e
        rw [if_neg (by decide)] at e
        by_cases y : h.1 = 1
        · rw [if_pos y] at e
          cases e
          refine ⟨by rw [q5]; rfl, ?_, List.IsSuffix.trans a1 (List.suffix_cons _ _), fun y => by omega, fun _ => rfl, fun y => by cases y⟩
          show lc (_ :: mF K3) = _
          rw [lc_c, if_neg (show ¬ ((2 : Int32) = 0 ∨ (2 : Int32) = 1) by decide), Nat.zero_add]
          exact a2
        · rw [if_neg y] at e
          cases e
          exact ⟨by rw [q5]; rfl, a2, a1, fun y => by omega, fun _ => rfl, fun y => by cases y⟩
    rw [if_neg q5] at e
    by_cases q6 : w.1 = 6
    · rw [if_pos q6] at e
      rw [if_neg (by omega)]
      cases K1 with
      | nil => cases e
      | cons h K1 =>
        unfold clS at e
        dsimp only at e
        rw [if_pos rfl] at e
        by_cases y : h.1 = 1 ∧ h.2.2.2 < 4
        · rw [if_pos y] at e
          cases e
          exact ⟨by rw [q6]; rfl, a2, a1, fun y => by omega, fun y => by omega, fun y => by cases y⟩
        · rw [if_neg y] at e
          cases e
    · rw [if_neg q6] at e
      cases e
theorem acc_sfx {st : PS} {ln : List Ln} (e : acc (.inr st) = some ln) : st.2.2.2 = false ∧ st.2.2.1 <:+ ln := by
  obtain ⟨H, B, L, fl⟩ := st
  unfold acc at e
  dsimp only at e
  by_cases z : fl = true
  · rw [if_pos z] at e
    cases e
  · rw [if_neg z] at e
    obtain ⟨a1, -⟩ := red_sfx 0 H B L
    generalize red 0 H B L = K at *
    obtain ⟨K1, K2, K3⟩ := K
    cases K1 with
    | nil =>
      cases e
      exact ⟨bF z, a1⟩
    | cons h K1 => cases e
/-- what is read at the end has what was read at its end, and where an operand is awaited a leaf comes next -/
theorem run_sfx {b : GB} : ∀ n (ws : List Wi) (st : PS), ws.length ≤ n → ∀ ln, acc (run b ws st) = some ln → st.2.2.1 <:+ ln ∧ (st.2.2.2 = true → ∃ z s, lfN z ∧ ((z, s) :: st.2.2.1) <:+ ln) := by
  intro n
  induction n with
  | zero =>
    intro ws st hl ln e
    cases ws with
    | cons w ws => exact absurd hl (Nat.not_succ_le_zero _)
    | nil =>
      obtain ⟨a1, a2⟩ := acc_sfx e
      exact ⟨a2, fun y => by rw [a1] at y; cases y⟩
  | succ n ih =>
    intro ws st hl ln e
    cases ws with
    | nil => exact ih [] st (Nat.zero_le _) ln e
    | cons w ws =>
      rw [List.length_cons] at hl
      by_cases z : isCl w st ws = true
      · have e2 := acc_c e z
        obtain ⟨a1, a2⟩ := ih (ws.drop 1) (stF w.2.2 st) (by rw [List.length_drop]; omega) ln e2
        exact ⟨a1, fun _ => a2 rfl⟩
      · obtain ⟨X', e1, e2⟩ := acc_n e (bF z)
        obtain ⟨a1, a2⟩ := ih ws X' (by omega) ln e2
        obtain ⟨-, -, s3, -, -, s6⟩ := stA_fl e1
        refine ⟨List.IsSuffix.trans s3 a1, fun y => ?_⟩
        rcases s6 y with ⟨y1, y2⟩ | ⟨x, s, y1, y2⟩
        · rw [← y2]
          exact a2 y1
        · exact ⟨x, s, y1, by rw [← y2]; exact a1⟩
