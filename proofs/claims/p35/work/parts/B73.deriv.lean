/-! derivatives, for both sides -/
abbrev NL : Type := List Nd
def nlN (L : NL) : Nat → Nd := fun i => L.getD i ((0 : Int32), (0 : Int32), (0 : Int32), 0)
def subL (T : Tt) (p : Nat) : NL := (List.range (T.2.2 p)).map (fun j => T.2.1 (p + j))
def lbF (b : GB) (m : Nat) : Option Nat := (List.range 16).find? (fun p => decide ((b (32 + p)).1 ≠ 0 ∧ (b (32 + p)).2.2 = (Int32.ofNat (m))))
def wnd (p : Nat) : Nd := ((3 : Int32), (Int32.ofNat (sgc p)), (Int32.ofNat (2)), 2)
def wnF (b : GB) (m : Nat) : Option NL := (lbF b m).map (fun p => [wnd p])
def numL (v : Nat) : NL := [((0 : Int32), (Int32.ofNat (v)), (-1 : Int32), 0)]
/-- pieces one behind another, as long as there is room -/
def fo (L : NL) : List (Option NL) → Option NL
  | [] => some L
  | none :: _ => none
  | some A :: r => if L.length + A.length ≤ 80 then fo (L ++ A) r else none
def adO (L : NL) (o : Option NL) : Option NL := match o with
  | none => none
  | some A => if L.length + A.length ≤ 80 then some (L ++ A) else none
theorem fo_c (L : NL) (o : Option NL) (r : List (Option NL)) : fo L (o :: r) = match adO L o with
    | none => none
    | some L' => fo L' r := by
  cases o with
  | none => rfl
  | some A =>
    show (if L.length + A.length ≤ 80 then fo (L ++ A) r else none) = match (if L.length + A.length ≤ 80 then some (L ++ A) else none) with
      | none => none
      | some L' => fo L' r
    by_cases q : L.length + A.length ≤ 80
    · rw [if_pos q, if_pos q]
    · rw [if_neg q, if_neg q]
theorem fo_len : ∀ (ps : List (Option NL)) (L A : NL), fo L ps = some A → L.length ≤ 80 → L.length ≤ A.length ∧ A.length ≤ 80 := by
  intro ps
  induction ps with
  | nil => intro L A h h80; rw [← Option.some.inj h]; exact ⟨Nat.le_refl _, h80⟩
  | cons o r ih =>
    intro L A h h80
    cases o with
    | none => cases h
    | some B =>
      have h : (if L.length + B.length ≤ 80 then fo (L ++ B) r else none) = some A := h
      by_cases q : L.length + B.length ≤ 80
      · rw [if_pos q] at h
        have := ih (L ++ B) A h (by rw [List.length_append]; exact q)
        rw [List.length_append] at this
        omega
      · rw [if_neg q] at h
        cases h
theorem fo_app : ∀ (ps : List (Option NL)) (L M : NL), L.length + M.length ≤ 80 → fo (L ++ M) ps = adO L (fo M ps) := by
  intro ps
  induction ps with
  | nil =>
    intro L M h
    show some (L ++ M) = (if L.length + M.length ≤ 80 then some (L ++ M) else none)
    rw [if_pos h]
  | cons o r ih =>
    intro L M h
    cases o with
    | none => rfl
    | some B =>
      show (if (L ++ M).length + B.length ≤ 80 then fo (L ++ M ++ B) r else none) = adO L (if M.length + B.length ≤ 80 then fo (M ++ B) r else none)
      rw [List.length_append]
      by_cases q : L.length + M.length + B.length ≤ 80
      · rw [if_pos q, if_pos (by omega), List.append_assoc]
        exact ih L (M ++ B) (by rw [List.length_append]; omega)
      · rw [if_neg q]
        by_cases q2 : M.length + B.length ≤ 80
        · rw [if_pos q2]
          cases e : fo (M ++ B) r with
          | none => rfl
          | some A =>
            have := fo_len r (M ++ B) A e (by rw [List.length_append]; exact q2)
            rw [List.length_append] at this
            show none = (if L.length + A.length ≤ 80 then some (L ++ A) else none)
            rw [if_neg (by omega)]
        · rw [if_neg q2]
          rfl
theorem fo_0 (ps : List (Option NL)) (L : NL) (h : L.length ≤ 80) : fo L ps = adO L (fo [] ps) := by
  have := fo_app ps L [] (by show L.length + 0 ≤ 80; omega)
  rw [List.append_nil] at this
  exact this
def dpc (b : GB) (T : Tt) (nm : Nat) (D : Nat → Option NL) (i : Nat) : List (Option NL) :=
  let x := T.2.1 i
  let a := i + 1
  let c := kid T.2.2 i 1
  if x.1 = 0 ∨ x.1 = 1 then [some (numL (if x.1 = 1 ∧ vN x = nm then 1 else 0))]
  else if mz b x = 11 then [some [x], D a]
  else if mz b x = 2 then [wnF b 0, some [x], D a, some (subL T c), some [x], some (subL T a), D c]
  else if mz b x = 3 then [some [x], wnF b 1, wnF b 2, D a, some (subL T c), wnF b 2, some (subL T a), D c, wnF b 5, some (subL T c), some (numL 2)]
  else if mz b x = 5 then (if vN (T.2.1 c) = 0 then [some (numL 0)] else [wnF b 2, wnF b 2, some (numL (vN (T.2.1 c))), some [x], some (subL T a), some (numL (vN (T.2.1 c) - 1)), D a])
  else [some [x], D a, D c]
def dvF (b : GB) (T : Tt) (nm : Nat) : Nat → Nat → Option NL
  | 0, _ => none
  | F + 1, i => fo [] (dpc b T nm (dvF b T nm F) i)
/-- a node that a derivative is told of -/
def told (b : GB) (T : Tt) (i : Nat) : Prop := (T.2.1 i).1 = 0 ∨ (T.2.1 i).1 = 1 ∨ mz b (T.2.1 i) = 11 ∨ mz b (T.2.1 i) ≤ 3 ∨ (mz b (T.2.1 i) = 5 ∧ (T.2.1 (kid T.2.2 i 1)).1 = 0)
theorem mz_ar {b : GB} {x : Nd} (hO : TbOK b) (hn : NV b x) (hx : ¬ (x.1 = 0 ∨ x.1 = 1)) (h : mz b x = 11 ∨ mz b x ≤ 10) : (mz b x = 11 → x.2.2.2 = 1) ∧ (mz b x ≤ 10 → x.2.2.2 = 2) := ⟨fun y => (mz_one hO hn (by omega) (by omega)).2, fun y => (mz_two hO hn y).2⟩
section DVX
variable {b : GB} {T : Tt} {nm : Nat}
theorem dvF_len {F i : Nat} {A : NL} (h : dvF b T nm F i = some A) : A.length ≤ 80 := by
  cases F with
  | zero => cases h
  | succ F => exact (fo_len _ [] A h (by first | decide | omega)).2
end DVX
/-! lists of nodes that are trees -/
def NPT (L : NL) : Prop := ∃ sp, WT L.length (aro (nlN L)) sp
theorem nlN_s {x : Nd} {L : NL} {i : Nat} : nlN (x :: L) (i + 1) = nlN L i := by
  unfold nlN
  rw [List.getD_eq_getElem?_getD, List.getD_eq_getElem?_getD, List.getElem?_cons_succ]
theorem nlN_l {L M : NL} {i : Nat} (h : i < L.length) : nlN (L ++ M) i = nlN L i := by
  unfold nlN
  rw [List.getD_eq_getElem?_getD, List.getD_eq_getElem?_getD, List.getElem?_append_left h]
theorem nlN_r {L M : NL} {i : Nat} : nlN (L ++ M) (L.length + i) = nlN M i := by
  unfold nlN
  rw [List.getD_eq_getElem?_getD, List.getD_eq_getElem?_getD, List.getElem?_append_right (by omega), Nat.add_sub_cancel_left]
theorem NPT_leaf {x : Nd} (h : x.2.2.2 = 0) : NPT [x] := by
  refine ⟨fun _ => 1, by show 0 < 1; decide, by show 1 ≤ 6400; decide, rfl, fun i hi => ?_⟩
  have e : i = 0 := by
    have : i < 1 := hi
    omega
  subst e
  have ar : aro (nlN [x]) 0 = 0 := h
  refine ⟨Nat.le_refl _, by show 0 + 1 ≤ 1; decide, ?_, fun k hk => ?_⟩
  · rw [ar]
    rfl
  · rw [ar] at hk
    omega
theorem NPT_un {x : Nd} {A : NL} (h : x.2.2.2 = 1) (hA : NPT A) (hn : A.length < 6400) : NPT (x :: A) := by
  obtain ⟨sp, w1, w2, w3, w4⟩ := hA
  have ks : ∀ i, i < A.length → ∀ k, k ≤ aro (nlN A) i → kid (fun j => if j = 0 then A.length + 1 else sp (j - 1)) (i + 1) k = kid sp i k + 1 := by
    intro i hi k
    induction k with
    | zero => intro _; rfl
    | succ k ih =>
      intro hk
      have e := ih (by omega)
      show kid _ (i + 1) k + (if kid _ (i + 1) k = 0 then A.length + 1 else sp (kid _ (i + 1) k - 1)) = kid sp i k + sp (kid sp i k) + 1
      rw [e, if_neg (by omega), Nat.add_sub_cancel]
      omega
  refine ⟨fun j => if j = 0 then A.length + 1 else sp (j - 1), by show 0 < A.length + 1; omega, by show A.length + 1 ≤ 6400; omega, rfl, fun i hi => ?_⟩
  have hi : i < A.length + 1 := hi
  cases i with
  | zero =>
    have ar : aro (nlN (x :: A)) 0 = 1 := h
    refine ⟨by show 1 ≤ A.length + 1; omega, by show 0 + (A.length + 1) ≤ A.length + 1; omega, ?_, fun k hk => ?_⟩
    · rw [ar]
      show 1 + sp (1 - 1) = 0 + (A.length + 1)
      rw [show (1 - 1 : Nat) = 0 from rfl, w3]
      omega
    · rw [ar] at hk
      have : k = 0 := by omega
      subst this
      show 1 < A.length + 1
      omega
  | succ i =>
    have hi : i < A.length := by omega
    obtain ⟨y1, y2, y3, y4⟩ := w4 i hi
    have ar : aro (nlN (x :: A)) (i + 1) = aro (nlN A) i := by
      show (nlN (x :: A) (i + 1)).2.2.2 = (nlN A i).2.2.2
      rw [nlN_s]
    refine ⟨y1, ?_, ?_, fun k hk => ?_⟩
    · show i + 1 + sp i ≤ A.length + 1
      omega
    · rw [ar, ks i hi _ (Nat.le_refl _), y3]
      show i + sp i + 1 = i + 1 + sp i
      omega
    · rw [ar] at hk
      rw [ks i hi k (by omega)]
      have := y4 k hk
      show kid sp i k + 1 < A.length + 1
      omega
theorem NPT_bi {x : Nd} {A B : NL} (h : x.2.2.2 = 2) (hA : NPT A) (hB : NPT B) (hn : A.length + B.length < 6400) : NPT (x :: (A ++ B)) := by
  obtain ⟨sp, w1, w2, w3, w4⟩ := hA
  obtain ⟨sq, v1, v2, v3, v4⟩ := hB
  have le : (x :: (A ++ B)).length = A.length + B.length + 1 := by
    rw [List.length_cons, List.length_append]
  have ks : ∀ i, i < A.length → ∀ k, k ≤ aro (nlN A) i → kid (fun j => if j = 0 then A.length + B.length + 1 else if j < A.length + 1 then sp (j - 1) else sq (j - 1 - A.length)) (i + 1) k = kid sp i k + 1 := by
    intro i hi k
    induction k with
    | zero => intro _; rfl
    | succ k ih =>
      intro hk
      have e := ih (by omega)
      have := (w4 i hi).2.2.2 k (by omega)
      show kid _ (i + 1) k + (if kid _ (i + 1) k = 0 then A.length + B.length + 1 else if kid _ (i + 1) k < A.length + 1 then sp (kid _ (i + 1) k - 1) else sq (kid _ (i + 1) k - 1 - A.length)) = kid sp i k + sp (kid sp i k) + 1
      rw [e, if_neg (by omega), if_pos (by omega), Nat.add_sub_cancel]
      omega
  have kt : ∀ i, i < B.length → ∀ k, k ≤ aro (nlN B) i → kid (fun j => if j = 0 then A.length + B.length + 1 else if j < A.length + 1 then sp (j - 1) else sq (j - 1 - A.length)) (A.length + i + 1) k = A.length + kid sq i k + 1 := by
    intro i hi k
    induction k with
    | zero => intro _; rfl
    | succ k ih =>
      intro hk
      have e := ih (by omega)
      show kid _ (A.length + i + 1) k + (if kid _ (A.length + i + 1) k = 0 then A.length + B.length + 1 else if kid _ (A.length + i + 1) k < A.length + 1 then sp (kid _ (A.length + i + 1) k - 1) else sq (kid _ (A.length + i + 1) k - 1 - A.length)) = A.length + (kid sq i k + sq (kid sq i k)) + 1
      rw [e, if_neg (by omega), if_neg (by omega), show A.length + kid sq i k + 1 - 1 - A.length = kid sq i k by omega]
      omega
  refine ⟨fun j => if j = 0 then A.length + B.length + 1 else if j < A.length + 1 then sp (j - 1) else sq (j - 1 - A.length), by rw [le]; omega, by rw [le]; omega, by rw [le]; rfl, fun i hi => ?_⟩
  rw [le] at hi ⊢
  by_cases q0 : i = 0
  · subst q0
    have ar : aro (nlN (x :: (A ++ B))) 0 = 2 := h
    refine ⟨by show 1 ≤ A.length + B.length + 1; omega, by show 0 + (A.length + B.length + 1) ≤ A.length + B.length + 1; omega, ?_, fun k hk => ?_⟩
    · rw [ar]
      show (1 + (if (1 : Nat) = 0 then _ else if 1 < A.length + 1 then sp (1 - 1) else _)) + (if (1 + (if (1 : Nat) = 0 then _ else if 1 < A.length + 1 then sp (1 - 1) else _)) = 0 then _ else if (1 + (if (1 : Nat) = 0 then _ else if 1 < A.length + 1 then sp (1 - 1) else _)) < A.length + 1 then _ else sq ((1 + (if (1 : Nat) = 0 then _ else if 1 < A.length + 1 then sp (1 - 1) else _)) - 1 - A.length)) = 0 + (A.length + B.length + 1)
      rw [if_neg (by first | decide | omega), if_pos (by omega), show (1 - 1 : Nat) = 0 from rfl, w3, if_neg (by omega), if_neg (by omega), show 1 + A.length - 1 - A.length = 0 by omega, v3]
      omega
    · rw [ar] at hk
      by_cases q1 : k = 0
      · subst q1
        show 1 < A.length + B.length + 1
        omega
      · have : k = 1 := by omega
        subst this
        show 1 + (if (1 : Nat) = 0 then _ else if 1 < A.length + 1 then sp (1 - 1) else _) < A.length + B.length + 1
        rw [if_neg (by first | decide | omega), if_pos (by omega), show (1 - 1 : Nat) = 0 from rfl, w3]
        omega
  by_cases q1 : i < A.length + 1
  · obtain ⟨j, rfl⟩ : ∃ j, i = j + 1 := ⟨i - 1, by omega⟩
    have hj : j < A.length := by omega
    obtain ⟨y1, y2, y3, y4⟩ := w4 j hj
    have ar : aro (nlN (x :: (A ++ B))) (j + 1) = aro (nlN A) j := by
      show (nlN (x :: (A ++ B)) (j + 1)).2.2.2 = (nlN A j).2.2.2
      rw [nlN_s, nlN_l hj]
    have es : (if j + 1 = 0 then A.length + B.length + 1 else if j + 1 < A.length + 1 then sp (j + 1 - 1) else sq (j + 1 - 1 - A.length)) = sp j := by
      rw [if_neg (by omega), if_pos (by omega), Nat.add_sub_cancel]
    refine ⟨by show 1 ≤ (if j + 1 = 0 then _ else _); rw [es]; exact y1, by show j + 1 + (if j + 1 = 0 then _ else _) ≤ _; rw [es]; omega, ?_, fun k hk => ?_⟩
    · rw [ar, ks j hj _ (Nat.le_refl _), y3]
      show j + sp j + 1 = j + 1 + (if j + 1 = 0 then _ else _)
      rw [es]
      omega
    · rw [ar] at hk
      rw [ks j hj k (by omega)]
      have := y4 k hk
      omega
  · obtain ⟨j, rfl⟩ : ∃ j, i = A.length + j + 1 := ⟨i - 1 - A.length, by omega⟩
    have hj : j < B.length := by omega
    obtain ⟨y1, y2, y3, y4⟩ := v4 j hj
    have ar : aro (nlN (x :: (A ++ B))) (A.length + j + 1) = aro (nlN B) j := by
      show (nlN (x :: (A ++ B)) (A.length + j + 1)).2.2.2 = (nlN B j).2.2.2
      rw [nlN_s, nlN_r]
    have es : (if A.length + j + 1 = 0 then A.length + B.length + 1 else if A.length + j + 1 < A.length + 1 then sp (A.length + j + 1 - 1) else sq (A.length + j + 1 - 1 - A.length)) = sq j := by
      rw [if_neg (by omega), if_neg (by omega), show A.length + j + 1 - 1 - A.length = j by omega]
    refine ⟨by show 1 ≤ (if A.length + j + 1 = 0 then _ else _); rw [es]; exact y1, by show A.length + j + 1 + (if A.length + j + 1 = 0 then _ else _) ≤ _; rw [es]; omega, ?_, fun k hk => ?_⟩
    · rw [ar, kt j hj _ (Nat.le_refl _), y3]
      show A.length + (j + sq j) + 1 = A.length + j + 1 + (if A.length + j + 1 = 0 then _ else _)
      rw [es]
      omega
    · rw [ar] at hk
      rw [kt j hj k (by omega)]
      have := y4 k hk
      omega
