/-! reading where less is known of what operands bind: brackets about an operand never refuse -/
def brl : List Oe → List Oe → Prop
  | [], [] => True
  | x :: A, y :: B => (y.1 = x.1 ∨ y.1 = 0) ∧ brl A B
  | _, _ => False
theorem brl_r : ∀ B : List Oe, brl B B
  | [] => trivial
  | _ :: B => ⟨Or.inl rfl, brl_r B⟩
theorem brl_drop : ∀ (k : Nat) (A B : List Oe), brl A B → brl (A.drop k) (B.drop k) := by
  intro k
  induction k with
  | zero => intro A B h; exact h
  | succ k ih =>
    intro A B h
    cases A with
    | nil =>
      cases B with
      | nil => exact trivial
      | cons y B => exact h.elim
    | cons x A =>
      cases B with
      | nil => exact h.elim
      | cons y B => exact ih A B h.2
theorem brl_head {A B : List Oe} {r : Nat} (h : brl A B) (hr : r ≠ 0) (n : ¬ (A.headD (0, 0)).1 = r) : ¬ (B.headD (0, 0)).1 = r := by
  cases A with
  | nil =>
    cases B with
    | nil => exact n
    | cons y B => exact h.elim
  | cons x A =>
    cases B with
    | nil => exact h.elim
    | cons y B =>
      have n : ¬ x.1 = r := n
      show ¬ y.1 = r
      rcases h.1 with z | z
      · rw [z]; exact n
      · rw [z]; exact fun w => hr w.symm
def BrP (X Y : PS) : Prop := X.1 = Y.1 ∧ brl X.2.1 Y.2.1 ∧ X.2.2.1.map Prod.fst = Y.2.2.1.map Prod.fst ∧ X.2.2.2 = Y.2.2.2
def BrPO (x y : Option PS) : Prop := ∀ X, x = some X → ∃ Y, y = some Y ∧ BrP X Y
theorem BrPO_n {y : Option PS} : BrPO none y := fun X e => by cases e
theorem BrPO_s {X Y : PS} (h : BrP X Y) : BrPO (some X) (some Y) := fun Z e => ⟨Y, rfl, by rw [← Option.some.inj e]; exact h⟩
theorem red_br (r : Nat) : ∀ (H : List Hd) (B B' : List Oe) (L L' : List Ln), brl B B' → L.map Prod.fst = L'.map Prod.fst → (red r H B L).1 = (red r H B' L').1 ∧ brl (red r H B L).2.1 (red r H B' L').2.1 ∧ (red r H B L).2.2.map Prod.fst = (red r H B' L').2.2.map Prod.fst := by
  intro H
  induction H with
  | nil => intro B B' L L' h1 h2; exact ⟨rfl, h1, h2⟩
  | cons h H ih =>
    intro B B' L L' h1 h2
    show (if r < h.2.2.1 then _ else _ : List Hd × List Oe × List Ln).1 = (if r < h.2.2.1 then _ else _ : List Hd × List Oe × List Ln).1 ∧ brl ((if r < h.2.2.1 then _ else _ : List Hd × List Oe × List Ln).2.1) ((if r < h.2.2.1 then _ else _ : List Hd × List Oe × List Ln).2.1) ∧ ((if r < h.2.2.1 then _ else _ : List Hd × List Oe × List Ln).2.2).map Prod.fst = ((if r < h.2.2.1 then _ else _ : List Hd × List Oe × List Ln).2.2).map Prod.fst
    by_cases z : r < h.2.2.1
    · rw [if_pos z, if_pos z]
      refine ih _ _ _ _ ⟨Or.inl rfl, brl_drop _ _ _ h1⟩ ?_
      rw [List.map_cons, List.map_cons, h2]
    · rw [if_neg z, if_neg z]
      exact ⟨rfl, h1, h2⟩
theorem stS_br {b : GB} {p : Nat} {X Y : PS} (h : BrP X Y) : BrPO (stS b p X) (stS b p Y) := by
  obtain ⟨h1, h2, h3, h4⟩ := h
  unfold stS
  by_cases z : 0 < rkN b p 1
  · rw [if_pos z, if_pos z]
    obtain ⟨r1, r2, r3⟩ := red_br (rkN b p 1) X.1 X.2.1 Y.2.1 X.2.2.1 Y.2.2.1 h2 h3
    rw [← h1]
    refine BrPO_s ⟨r1, ⟨Or.inl rfl, brl_drop _ _ _ r2⟩, ?_, rfl⟩
    show List.map Prod.fst (_ :: _) = List.map Prod.fst (_ :: _)
    rw [List.map_cons, List.map_cons, r3]
  · rw [if_neg z, if_neg z]
    by_cases z2 : rkN b p 2 = 0
    · rw [if_pos z2]
      exact BrPO_n
    · rw [if_neg z2, if_neg z2]
      obtain ⟨r1, r2, r3⟩ := red_br (rkN b p 2) X.1 X.2.1 Y.2.1 X.2.2.1 Y.2.2.1 h2 h3
      rw [← h1]
      by_cases z3 : ((red (rkN b p 2) X.1 X.2.1 X.2.2.1).2.1.headD (0, 0)).1 = rkN b p 2
      · rw [if_pos z3]
        exact BrPO_n
      · rw [if_neg z3, if_neg (brl_head r2 z2 z3)]
        exact BrPO_s ⟨by rw [r1], r2, r3, rfl⟩
theorem clS_br {c : Bool} {H : List Hd} {B B' : List Oe} {L L' : List Ln} (h2 : brl B B') (h3 : L.map Prod.fst = L'.map Prod.fst) : BrPO (clS c (H, B, L)) (clS c (H, B', L')) := by
  cases H with
  | nil => exact BrPO_n
  | cons h H =>
    unfold clS
    dsimp only
    by_cases z : c = true
    · rw [if_pos z, if_pos z]
      by_cases z2 : h.1 = 1 ∧ h.2.2.2 < 4
      · rw [if_pos z2, if_pos z2]
        exact BrPO_s ⟨rfl, h2, h3, rfl⟩
      · rw [if_neg z2]
        exact BrPO_n
    · rw [if_neg z, if_neg z]
      by_cases z2 : h.1 = 1
      · rw [if_pos z2, if_pos z2]
        refine BrPO_s ⟨rfl, ⟨Or.inl rfl, brl_drop _ _ _ h2⟩, ?_, rfl⟩
        show List.map Prod.fst (_ :: _) = List.map Prod.fst (_ :: _)
        rw [List.map_cons, List.map_cons, h3]
      · rw [if_neg z2, if_neg z2]
        exact BrPO_s ⟨rfl, ⟨Or.inl rfl, brl_drop _ _ _ h2⟩, h3, rfl⟩
theorem stA_br {b : GB} {w : Wd} {X Y : PS} (h : BrP X Y) : BrPO (stA b w X) (stA b w Y) := by
  have hh := h
  obtain ⟨h1, h2, h3, h4⟩ := h
  unfold stA
  rw [← h4]
  by_cases z : X.2.2.2 = true
  · rw [if_pos z, if_pos z]
    unfold stO
    by_cases q0 : w.1 = 0
    · rw [if_pos q0, if_pos q0]
      exact BrPO_s ⟨h1, ⟨Or.inl rfl, h2⟩, by show List.map Prod.fst (_ :: _) = List.map Prod.fst (_ :: _); rw [List.map_cons, List.map_cons, h3], rfl⟩
    rw [if_neg q0, if_neg q0]
    by_cases q1 : w.1 = 1
    · rw [if_pos q1, if_pos q1]
      exact BrPO_s ⟨h1, ⟨Or.inl rfl, h2⟩, by show List.map Prod.fst (_ :: _) = List.map Prod.fst (_ :: _); rw [List.map_cons, List.map_cons, h3], rfl⟩
    rw [if_neg q1, if_neg q1]
    by_cases q3 : w.1 = 3
    · rw [if_pos q3, if_pos q3]
      by_cases y : 0 < rkN b w.2 0
      · rw [if_pos y, if_pos y]
        exact BrPO_s ⟨by show _ :: _ = _ :: _; rw [h1], h2, h3, rfl⟩
      · rw [if_neg y]
        exact BrPO_n
    rw [if_neg q3, if_neg q3]
    by_cases q4 : w.1 = 4
    · rw [if_pos q4, if_pos q4]
      exact BrPO_s ⟨by show _ :: _ = _ :: _; rw [h1], h2, h3, rfl⟩
    · rw [if_neg q4]
      exact BrPO_n
  · rw [if_neg z, if_neg z]
    by_cases q3 : w.1 = 3
    · rw [if_pos q3, if_pos q3]
      exact stS_br hh
    rw [if_neg q3, if_neg q3]
    obtain ⟨r1, r2, r3⟩ := red_br 0 X.1 X.2.1 Y.2.1 X.2.2.1 Y.2.2.1 h2 h3
    have key : ∀ c, BrPO (clS c (red 0 X.1 X.2.1 X.2.2.1)) (clS c (red 0 Y.1 Y.2.1 Y.2.2.1)) := fun c => by
      rw [← h1]
      have e : red 0 X.1 X.2.1 X.2.2.1 = ((red 0 X.1 Y.2.1 Y.2.2.1).1, (red 0 X.1 X.2.1 X.2.2.1).2) := Prod.ext r1 rfl
      rw [e]
      exact clS_br r2 r3
    by_cases q5 : w.1 = 5
    · rw [if_pos q5, if_pos q5]
      exact key false
    rw [if_neg q5, if_neg q5]
    by_cases q6 : w.1 = 6
    · rw [if_pos q6, if_pos q6]
      exact key true
    · rw [if_neg q6]
      exact BrPO_n
theorem isCl_br {w : Wi} {X Y : PS} (h : BrP X Y) (ws : List Wi) : isCl w X ws = isCl w Y ws := by
  cases ws with
  | nil => rfl
  | cons w' ws =>
    unfold isCl
    rw [h.2.2.2]
theorem acc_br {X Y : PS} (h : BrP X Y) {ln : List Ln} (e : acc (.inr X) = some ln) : ∃ ln', acc (.inr Y) = some ln' ∧ ln.map Prod.fst = ln'.map Prod.fst := by
  obtain ⟨h1, h2, h3, h4⟩ := h
  unfold acc at e ⊢
  dsimp only at e ⊢
  rw [← h4]
  by_cases z : X.2.2.2 = true
  · rw [if_pos z] at e
    cases e
  · rw [if_neg z] at e ⊢
    obtain ⟨r1, r2, r3⟩ := red_br 0 X.1 X.2.1 Y.2.1 X.2.2.1 Y.2.2.1 h2 h3
    rw [← h1]
    generalize red 0 X.1 X.2.1 X.2.2.1 = A at *
    generalize red 0 X.1 Y.2.1 Y.2.2.1 = C at *
    obtain ⟨A1, A2, A3⟩ := A
    obtain ⟨C1, C2, C3⟩ := C
    have r1 : A1 = C1 := r1
    subst r1
    cases A1 with
    | nil => exact ⟨C3, rfl, by rw [← Option.some.inj e]; exact r3⟩
    | cons x A1 => cases e
theorem run_br {b : GB} : ∀ n (ws : List Wi) (X Y : PS), ws.length ≤ n → BrP X Y → ∀ ln, acc (run b ws X) = some ln → ∃ ln', acc (run b ws Y) = some ln' ∧ ln.map Prod.fst = ln'.map Prod.fst := by
  intro n
  induction n with
  | zero =>
    intro ws X Y hl h ln e
    cases ws with
    | cons w ws => exact absurd hl (Nat.not_succ_le_zero _)
    | nil => exact acc_br h e
  | succ n ih =>
    intro ws X Y hl h ln e
    cases ws with
    | nil => exact ih [] X Y (Nat.zero_le _) h ln e
    | cons w ws =>
      rw [List.length_cons] at hl
      by_cases z : isCl w X ws = true
      · have z' : isCl w Y ws = true := by rw [← isCl_br h]; exact z
        have e2 := acc_c e z
        obtain ⟨h1, h2, h3, h4⟩ := h
        obtain ⟨ln', e3, e4⟩ := ih (ws.drop 1) (stF w.2.2 X) (stF w.2.2 Y) (by rw [List.length_drop]; omega) ⟨by show _ :: _ = _ :: _; rw [h1], h2, h3, rfl⟩ ln e2
        refine ⟨ln', ?_, e4⟩
        rw [run_cons, z', if_pos rfl]
        exact e3
      · have z := bF z
        have z' : isCl w Y ws = false := by rw [← isCl_br h]; exact z
        obtain ⟨X', a1, a2⟩ := acc_n e z
        obtain ⟨Y', a3, hs⟩ := stA_br (b := b) (w := w.2) h X' a1
        obtain ⟨ln', e3, e4⟩ := ih ws X' Y' (by omega) hs ln a2
        exact ⟨ln', by rw [acc_w z' a3]; exact e3, e4⟩
