/-! reading does not look at how large parts are -/
def SzP (X Y : PS) : Prop := X.1 = Y.1 ∧ X.2.1.map Prod.fst = Y.2.1.map Prod.fst ∧ X.2.2.1.map Prod.fst = Y.2.2.1.map Prod.fst ∧ X.2.2.2 = Y.2.2.2
theorem map_drop1 {α β : Type} (f : α → β) (k : Nat) (l : List α) : (l.drop k).map f = (l.map f).drop k := List.map_drop
theorem red_sm (r : Nat) : ∀ (H : List Hd) (B B' : List Oe) (L L' : List Ln), B.map Prod.fst = B'.map Prod.fst → L.map Prod.fst = L'.map Prod.fst → (red r H B L).1 = (red r H B' L').1 ∧ (red r H B L).2.1.map Prod.fst = (red r H B' L').2.1.map Prod.fst ∧ (red r H B L).2.2.map Prod.fst = (red r H B' L').2.2.map Prod.fst := by
  intro H
  induction H with
  | nil => intro B B' L L' h1 h2; exact ⟨rfl, h1, h2⟩
  | cons h H ih =>
    intro B B' L L' h1 h2
    show (if r < h.2.2.1 then _ else _ : List Hd × List Oe × List Ln).1 = (if r < h.2.2.1 then _ else _ : List Hd × List Oe × List Ln).1 ∧ ((if r < h.2.2.1 then _ else _ : List Hd × List Oe × List Ln).2.1).map Prod.fst = ((if r < h.2.2.1 then _ else _ : List Hd × List Oe × List Ln).2.1).map Prod.fst ∧ ((if r < h.2.2.1 then _ else _ : List Hd × List Oe × List Ln).2.2).map Prod.fst = ((if r < h.2.2.1 then _ else _ : List Hd × List Oe × List Ln).2.2).map Prod.fst
    by_cases z : r < h.2.2.1
    · rw [if_pos z, if_pos z]
      refine ih _ _ _ _ ?_ ?_
      · rw [List.map_cons, List.map_cons, map_drop1, map_drop1, h1]
      · rw [List.map_cons, List.map_cons, h2]
    · rw [if_neg z, if_neg z]
      exact ⟨rfl, h1, h2⟩
theorem head_sm {B B' : List Oe} (h : B.map Prod.fst = B'.map Prod.fst) : (B.headD (0, 0)).1 = (B'.headD (0, 0)).1 := by
  cases B with
  | nil =>
    cases B' with
    | nil => rfl
    | cons x B' => cases h
  | cons x B =>
    cases B' with
    | nil => cases h
    | cons y B' => exact (List.cons.inj h).1
def SzPO : Option PS → Option PS → Prop
  | none, none => True
  | some X, some Y => SzP X Y
  | _, _ => False
theorem stS_sm {b : GB} {p : Nat} {X Y : PS} (h : SzP X Y) : SzPO (stS b p X) (stS b p Y) := by
  obtain ⟨h1, h2, h3, h4⟩ := h
  unfold stS
  by_cases z : 0 < rkN b p 1
  · rw [if_pos z, if_pos z]
    obtain ⟨r1, r2, r3⟩ := red_sm (rkN b p 1) X.1 X.2.1 Y.2.1 X.2.2.1 Y.2.2.1 h2 h3
    rw [← h1]
    refine ⟨r1, ?_, ?_, rfl⟩
    · show List.map Prod.fst (_ :: _) = List.map Prod.fst (_ :: _)
      rw [List.map_cons, List.map_cons, map_drop1, map_drop1, r2]
    · show List.map Prod.fst (_ :: _) = List.map Prod.fst (_ :: _)
      rw [List.map_cons, List.map_cons, r3]
  · rw [if_neg z, if_neg z]
    by_cases z2 : rkN b p 2 = 0
    · rw [if_pos z2, if_pos z2]
      trivial
    · rw [if_neg z2, if_neg z2]
      obtain ⟨r1, r2, r3⟩ := red_sm (rkN b p 2) X.1 X.2.1 Y.2.1 X.2.2.1 Y.2.2.1 h2 h3
      rw [← h1, head_sm r2]
      by_cases z3 : ((red (rkN b p 2) X.1 Y.2.1 Y.2.2.1).2.1.headD (0, 0)).1 = rkN b p 2
      · rw [if_pos z3, if_pos z3]
        trivial
      · rw [if_neg z3, if_neg z3]
        exact ⟨by rw [r1], r2, r3, rfl⟩
theorem clS_sm {c : Bool} {H : List Hd} {B B' : List Oe} {L L' : List Ln} (h2 : B.map Prod.fst = B'.map Prod.fst) (h3 : L.map Prod.fst = L'.map Prod.fst) : SzPO (clS c (H, B, L)) (clS c (H, B', L')) := by
  cases H with
  | nil => trivial
  | cons h H =>
    unfold clS
    dsimp only
    by_cases z : c = true
    · rw [if_pos z, if_pos z]
      by_cases z2 : h.1 = 1 ∧ h.2.2.2 < 4
      · rw [if_pos z2, if_pos z2]
        exact ⟨rfl, h2, h3, rfl⟩
      · rw [if_neg z2, if_neg z2]
        trivial
    · rw [if_neg z, if_neg z]
      by_cases z2 : h.1 = 1
      · rw [if_pos z2, if_pos z2]
        refine ⟨rfl, ?_, ?_, rfl⟩
        · show List.map Prod.fst (_ :: _) = List.map Prod.fst (_ :: _)
          rw [List.map_cons, List.map_cons, map_drop1, map_drop1, h2]
        · show List.map Prod.fst (_ :: _) = List.map Prod.fst (_ :: _)
          rw [List.map_cons, List.map_cons, h3]
      · rw [if_neg z2, if_neg z2]
        refine ⟨rfl, ?_, h3, rfl⟩
        show List.map Prod.fst (_ :: _) = List.map Prod.fst (_ :: _)
        rw [List.map_cons, List.map_cons, map_drop1, map_drop1, h2]
theorem stA_sm {b : GB} {w : Wd} {X Y : PS} (h : SzP X Y) : SzPO (stA b w X) (stA b w Y) := by
  have hh := h
  obtain ⟨h1, h2, h3, h4⟩ := h
  unfold stA
  rw [← h4]
  by_cases z : X.2.2.2 = true
  · rw [if_pos z, if_pos z]
    unfold stO
    by_cases q0 : w.1 = 0
    · rw [if_pos q0, if_pos q0]
      exact ⟨h1, by show List.map Prod.fst (_ :: _) = List.map Prod.fst (_ :: _); rw [List.map_cons, List.map_cons, h2], by show List.map Prod.fst (_ :: _) = List.map Prod.fst (_ :: _); rw [List.map_cons, List.map_cons, h3], rfl⟩
    rw [if_neg q0, if_neg q0]
    by_cases q1 : w.1 = 1
    · rw [if_pos q1, if_pos q1]
      exact ⟨h1, by show List.map Prod.fst (_ :: _) = List.map Prod.fst (_ :: _); rw [List.map_cons, List.map_cons, h2], by show List.map Prod.fst (_ :: _) = List.map Prod.fst (_ :: _); rw [List.map_cons, List.map_cons, h3], rfl⟩
    rw [if_neg q1, if_neg q1]
    by_cases q3 : w.1 = 3
    · rw [if_pos q3, if_pos q3]
      by_cases y : 0 < rkN b w.2 0
      · rw [if_pos y, if_pos y]
        exact ⟨by show _ :: _ = _ :: _; rw [h1], h2, h3, rfl⟩
      · rw [if_neg y, if_neg y]
        trivial
    rw [if_neg q3, if_neg q3]
    by_cases q4 : w.1 = 4
    · rw [if_pos q4, if_pos q4]
      exact ⟨by show _ :: _ = _ :: _; rw [h1], h2, h3, rfl⟩
    · rw [if_neg q4, if_neg q4]
      trivial
  · rw [if_neg z, if_neg z]
    by_cases q3 : w.1 = 3
    · rw [if_pos q3, if_pos q3]
      exact stS_sm hh
    rw [if_neg q3, if_neg q3]
    obtain ⟨r1, r2, r3⟩ := red_sm 0 X.1 X.2.1 Y.2.1 X.2.2.1 Y.2.2.1 h2 h3
    have key : ∀ c, SzPO (clS c (red 0 X.1 X.2.1 X.2.2.1)) (clS c (red 0 Y.1 Y.2.1 Y.2.2.1)) := fun c => by
      rw [← h1]
      have e : red 0 X.1 X.2.1 X.2.2.1 = ((red 0 X.1 Y.2.1 Y.2.2.1).1, (red 0 X.1 X.2.1 X.2.2.1).2) := Prod.ext r1 rfl
      rw [e]
      exact clS_sm r2 r3
    by_cases q5 : w.1 = 5
    · rw [if_pos q5, if_pos q5]
      exact key false
    rw [if_neg q5, if_neg q5]
    by_cases q6 : w.1 = 6
    · rw [if_pos q6, if_pos q6]
      exact key true
    · rw [if_neg q6, if_neg q6]
      trivial
theorem isCl_sm {w : Wi} {X Y : PS} (h : SzP X Y) (ws : List Wi) : isCl w X ws = isCl w Y ws := by
  cases ws with
  | nil => rfl
  | cons w' ws =>
    unfold isCl
    rw [h.2.2.2]
theorem run_sm {b : GB} : ∀ n (ws : List Wi) (X Y : PS), ws.length ≤ n → SzP X Y → ∀ ln, acc (run b ws X) = some ln → ∃ ln', acc (run b ws Y) = some ln' ∧ ln.map Prod.fst = ln'.map Prod.fst := by
  intro n
  induction n with
  | zero =>
    intro ws X Y hl h ln e
    cases ws with
    | cons w ws => exact absurd hl (Nat.not_succ_le_zero _)
    | nil =>
      have e : acc (.inr X) = some ln := e
      show ∃ ln', acc (.inr Y) = some ln' ∧ _
      obtain ⟨h1, h2, h3, h4⟩ := h
      unfold acc at e ⊢
      dsimp only at e ⊢
      rw [← h4]
      by_cases z : X.2.2.2 = true
      · rw [if_pos z] at e
        cases e
      · rw [if_neg z] at e ⊢
        obtain ⟨r1, r2, r3⟩ := red_sm 0 X.1 X.2.1 Y.2.1 X.2.2.1 Y.2.2.1 h2 h3
        rw [← h1]
        generalize red 0 X.1 X.2.1 X.2.2.1 = A at *
        generalize red 0 X.1 Y.2.1 Y.2.2.1 = C at *
        obtain ⟨A1, A2, A3⟩ := A
        obtain ⟨C1, C2, C3⟩ := C
        have r1 : A1 = C1 := r1
        subst r1
        cases A1 with
        | nil => exact ⟨C3, rfl, by rw [← Option.some.inj e]; exact r3⟩
        | cons x A1 => cases e
  | succ n ih =>
    intro ws X Y hl h ln e
    cases ws with
    | nil => exact ih [] X Y (Nat.zero_le _) h ln e
    | cons w ws =>
      rw [List.length_cons] at hl
      by_cases z : isCl w X ws = true
      · have z' : isCl w Y ws = true := by rw [← isCl_sm h]; exact z
        have e2 := acc_c e z
        obtain ⟨h1, h2, h3, h4⟩ := h
        obtain ⟨ln', e3, e4⟩ := ih (ws.drop 1) (stF w.2.2 X) (stF w.2.2 Y) (by rw [List.length_drop]; omega) ⟨by show _ :: _ = _ :: _; rw [h1], h2, h3, rfl⟩ ln e2
        refine ⟨ln', ?_, e4⟩
        rw [run_cons, z', if_pos rfl]
        exact e3
      · have z := bF z
        have z' : isCl w Y ws = false := by rw [← isCl_sm h]; exact z
        obtain ⟨X', a1, a2⟩ := acc_n e z
        have hs := stA_sm (b := b) (w := w.2) h
        rw [a1] at hs
        cases a3 : stA b w.2 Y with
        | none =>
          rw [a3] at hs
          exact hs.elim
        | some Y' =>
          rw [a3] at hs
          obtain ⟨ln', e3, e4⟩ := ih ws X' Y' (by omega) hs ln a2
          exact ⟨ln', by rw [acc_w z' a3]; exact e3, e4⟩
theorem lnF_map : ∀ (l l' : List Ln), l.map Prod.fst = l'.map Prod.fst → l.length = l'.length ∧ ∀ k, lnF l k = lnF l' k := by
  intro l
  induction l with
  | nil =>
    intro l' h
    cases l' with
    | nil => exact ⟨rfl, fun _ => rfl⟩
    | cons x l' => cases h
  | cons x l ih =>
    intro l' h
    cases l' with
    | nil => cases h
    | cons y l' =>
      obtain ⟨h1, h2⟩ := List.cons.inj h
      obtain ⟨e1, e2⟩ := ih l' h2
      refine ⟨by rw [List.length_cons, List.length_cons, e1], fun k => ?_⟩
      rw [← lnF_cons, ← lnF_cons]
      unfold ext
      rw [e1, e2]
      split
      · exact h1
      · rfl
