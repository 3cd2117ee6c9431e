/-! what else the class side needs -/
section EM2
variable {I : Nat → Nat → Int32} {J : Nat → Nat → Int64} {R : Nat → Nat → Option Nat} {β : Type} {s : GS}
theorem ogR_4541_0 (hR : RA R) : gR (mg (4562 + zn J) I J R) 4541 2 0 = some 4542 := e_gR (by first | decide | omega) rfl (hR.get (by first | decide | omega) (by first | decide | omega) rfl)
theorem ogR_4541_1 (hR : RA R) : gR (mg (4562 + zn J) I J R) 4541 2 1 = some 4544 := e_gR (by first | decide | omega) rfl (hR.get (by first | decide | omega) (by first | decide | omega) rfl)
theorem gr_4541_0 {F : Nat → Option β} (hR : RA R) : (gR (mg (4562 + zn J) I J R) 4541 2 0).bind F = F 4542 := by rw [ogR_4541_0 hR]; rfl
theorem gr_4541_1 {F : Nat → Option β} (hR : RA R) : (gR (mg (4562 + zn J) I J R) 4541 2 1).bind F = F 4544 := by rw [ogR_4541_1 hR]; rfl
def lexM (n : Nat) : List Wp → List Wp
  | [] => []
  | x :: l => if x.1.1 = 7 then (if x.1.2 = n then ((0, 0), x.2) :: l else ((8, 0), x.1.2) :: ((0, 0), x.2) :: l) else x :: l
def opnM (n : Nat) : List Wp → Bool
  | [] => false
  | x :: _ => x.1.1 == 7 && x.1.2 == n
/-- a word more at the end -/
theorem run_app {b : GB} {w : Wi} (hw : w.2.1 ≠ 4) : ∀ (n : Nat) (ws : List Wi) (st : PS), ws.length ≤ n → run b (ws ++ [w]) st = match run b ws st with
    | .inl x => .inl x
    | .inr s => match stA b w.2 s with
      | none => .inl (w, s)
      | some s' => .inr s' := by
  intro n
  induction n with
  | zero =>
    intro ws st hn
    cases ws with
    | nil => rfl
    | cons x ws => exact absurd hn (Nat.not_succ_le_zero _)
  | succ n ih =>
    intro ws st hn
    cases ws with
    | nil => rfl
    | cons x ws =>
      rw [List.length_cons] at hn
      rw [List.cons_append, run_cons, run_cons]
      have ec : isCl x st (ws ++ [w]) = isCl x st ws := by
        cases ws with
        | nil =>
          show (st.2.2.2 && x.2.1 == 1 && w.2.1 == 4) = false
          simp [hw]
        | cons y ws => rfl
      rw [ec]
      by_cases q : isCl x st ws = true
      · rw [if_pos q, if_pos q]
        cases ws with
        | nil => cases q
        | cons y ws => exact ih ws _ (by rw [List.length_cons] at hn; omega)
      · rw [if_neg q, if_neg q]
        cases stA b x.2 st with
        | none => rfl
        | some s => exact ih ws s (by omega)
/-- what the reference tells -/
def refF (n : Nat) (Rs : List Wp) (r : Wi × PS ⊕ PS) : Int32 := match r with
  | .inl (w, _) => (Int32.ofNat (pF (lexM n Rs) w.1))
  | .inr _ => if (acc r).isSome = true then (if opnM n Rs = true then (Int32.ofNat (n)) else -1) else (Int32.ofNat (n))
theorem fault_eq {b : GB} {n : Nat} {Rs : List Wp} (hno : ∀ x, x ∈ Rs.drop 1 → x.1.1 ≠ 7) : resC (pF Rs) n (run b (visl Rs) st0) = refF n Rs (run b (visl (lexM n Rs)) st0) ∧ ((acc (run b (visl Rs) st0)).isSome = true → lexM n Rs = Rs) := by
  cases Rs with
  | nil => exact ⟨rfl, fun _ => rfl⟩
  | cons x l =>
    have hl : ∀ y, y ∈ l → y.1.1 ≠ 7 := hno
    -- a failure ahead of the last word
    have old : ∀ (P : Nat → Nat) (w : Wi) (s : PS), (∀ i, i < l.length → P i = pF l i) → run b (visl l) st0 = .inl (w, s) → flt P w s = pF l w.1 := by
      intro P w s hP e
      have wm := vis_mem _ _ _ (run_mem (visl l).length _ _ _ _ (Nat.le_refl _) e)
      obtain ⟨y, y1, y2, y3⟩ := wF_mem l w.1 (by omega)
      unfold flt
      rw [if_neg (fun z => hl y y1 (by rw [← y2, ← wm.2.2]; exact z.2))]
      exact hP _ (by omega)
    by_cases q7 : x.1.1 = 7
    · have s7 : ∀ s, stA b x.1 s = none := fun s => by
        unfold stA stO
        rw [q7]
        split
        · rfl
        · rfl
      have ec : run b (visl (x :: l)) st0 = match run b (visl l) st0 with
          | .inl y => .inl y
          | .inr s => .inl ((l.length, x.1), s) := by
        rw [visl_cons, run_app (by rw [q7]; decide) _ _ _ (Nat.le_refl _)]
        cases run b (visl l) st0 with
        | inl y => rfl
        | inr s =>
          dsimp only
          rw [s7]
      have lm : lexM n (x :: l) = (if x.1.2 = n then ((0, 0), x.2) :: l else ((8, 0), x.1.2) :: ((0, 0), x.2) :: l) := if_pos q7
      have om : opnM n (x :: l) = (x.1.2 == n) := by
        show ((x.1.1 == 7) && (x.1.2 == n)) = _
        rw [q7]
        rfl
      rw [ec]
      constructor
      · have e1 : run b (visl (((0, 0), x.2) :: l)) st0 = match run b (visl l) st0 with
            | .inl y => .inl y
            | .inr s => match stA b (0, 0) s with
              | none => .inl ((l.length, (0, 0)), s)
              | some s' => .inr s' := by
          rw [visl_cons]
          exact run_app (w := (l.length, (0, 0))) (show (0 : Nat) ≠ 4 by decide) _ _ _ (Nat.le_refl _)
        have fin : ∀ (s : PS), stA b (0, 0) s = if s.2.2.2 = true then some (s.1, (0, 1) :: s.2.1, (((0, (Int32.ofNat (0)), -1, 0) : Nd), 1) :: s.2.2.1, false) else none := fun s => by
          unfold stA
          split
          · rfl
          · rfl
        by_cases qn : x.1.2 = n
        · rw [lm, if_pos qn, e1]
          cases hr : run b (visl l) st0 with
          | inl y =>
            obtain ⟨w, s⟩ := y
            show (Int32.ofNat (flt (pF (x :: l)) w s)) = (Int32.ofNat (pF (lexM n (x :: l)) w.1))
            have wm := vis_mem _ _ _ (run_mem (visl l).length _ _ _ _ (Nat.le_refl _) hr)
            rw [old (pF (x :: l)) w s (fun i hi => if_neg (show ¬ i = l.length by omega)) hr, lm, if_pos qn]
            congr 1
            exact (if_neg (by omega)).symm
          | inr s =>
            dsimp only
            rw [fin s]
            by_cases qs : s.2.2.2 = true
            · rw [if_pos qs]
              show (Int32.ofNat (flt (pF (x :: l)) (l.length, x.1) s)) = if _ then (if opnM n (x :: l) = true then (Int32.ofNat (n)) else -1) else (Int32.ofNat (n))
              unfold flt
              have e : (x.1.2 == n) = true := by simp [qn]
              rw [if_pos ⟨qs, q7⟩, om, if_pos e, qn]
              exact (ite_self _).symm
            · rw [if_neg qs]
              show (Int32.ofNat (flt (pF (x :: l)) (l.length, x.1) s)) = (Int32.ofNat (pF (lexM n (x :: l)) l.length))
              unfold flt
              rw [if_neg (fun z => qs z.1), lm, if_pos qn]
              congr 1
        · have e2 : run b (visl (((8, 0), x.1.2) :: ((0, 0), x.2) :: l)) st0 = match run b (visl (((0, 0), x.2) :: l)) st0 with
              | .inl y => .inl y
              | .inr s => .inl ((l.length + 1, (8, 0)), s) := by
            have ra := run_app (b := b) (w := (l.length + 1, (8, 0))) (show (8 : Nat) ≠ 4 by decide) _ (visl (((0, 0), x.2) :: l)) st0 (Nat.le_refl _)
            rw [visl_cons]
            refine ra.trans ?_
            cases run b (visl (((0, 0), x.2) :: l)) st0 with
            | inl y => rfl
            | inr s =>
              have : stA b (8, 0) s = none := by
                unfold stA stO
                split
                · rfl
                · rfl
              dsimp only
              rw [this]
          rw [lm, if_neg qn, e2, e1]
          cases hr : run b (visl l) st0 with
          | inl y =>
            obtain ⟨w, s⟩ := y
            show (Int32.ofNat (flt (pF (x :: l)) w s)) = (Int32.ofNat (pF (lexM n (x :: l)) w.1))
            have wm := vis_mem _ _ _ (run_mem (visl l).length _ _ _ _ (Nat.le_refl _) hr)
            rw [old (pF (x :: l)) w s (fun i hi => if_neg (show ¬ i = l.length by omega)) hr, lm, if_neg qn]
            congr 1
            exact ((if_neg (by show ¬ w.1 = l.length + 1; omega)).trans (if_neg (by omega))).symm
          | inr s =>
            dsimp only
            rw [fin s]
            by_cases qs : s.2.2.2 = true
            · rw [if_pos qs]
              show (Int32.ofNat (flt (pF (x :: l)) (l.length, x.1) s)) = (Int32.ofNat (pF (lexM n (x :: l)) (l.length + 1)))
              unfold flt
              rw [if_pos ⟨qs, q7⟩, lm, if_neg qn]
              congr 1
              exact (if_pos rfl).symm
            · rw [if_neg qs]
              show (Int32.ofNat (flt (pF (x :: l)) (l.length, x.1) s)) = (Int32.ofNat (pF (lexM n (x :: l)) l.length))
              unfold flt
              rw [if_neg (fun z => qs z.1), lm, if_neg qn]
              congr 1
              exact (if_pos rfl).trans ((if_neg (by show ¬ l.length = l.length + 1; omega)).trans (if_pos rfl)).symm
      · intro h
        cases hr : run b (visl l) st0 with
        | inl y => rw [hr] at h; cases h
        | inr s => rw [hr] at h; cases h
    · have lm : lexM n (x :: l) = x :: l := if_neg q7
      have om : opnM n (x :: l) = false := by
        show ((x.1.1 == 7) && (x.1.2 == n)) = _
        simp [q7]
      refine ⟨?_, fun _ => lm⟩
      rw [lm]
      cases hr : run b (visl (x :: l)) st0 with
      | inl y =>
        obtain ⟨w, s⟩ := y
        show (Int32.ofNat (flt (pF (x :: l)) w s)) = (Int32.ofNat (pF (lexM n (x :: l)) w.1))
        have wm := vis_mem _ _ _ (run_mem (visl (x :: l)).length _ _ _ _ (Nat.le_refl _) hr)
        obtain ⟨y, y1, y2, y3⟩ := wF_mem (x :: l) w.1 (by omega)
        unfold flt
        rw [lm, if_neg (fun z => by
          have e7 : y.1.1 = 7 := by rw [← y2, ← wm.2.2]; exact z.2
          rcases List.mem_cons.mp y1 with rfl | y1
          · exact q7 e7
          · exact hl y y1 e7)]
      | inr s =>
        show (if _ then (-1 : Int32) else (Int32.ofNat (n))) = (if _ then (if opnM n (x :: l) = true then (Int32.ofNat (n)) else -1) else (Int32.ofNat (n)))
        rw [om]
        rfl
end EM2
