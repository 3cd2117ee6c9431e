/-! derivatives are trees -/
theorem fo_some : ∀ (ps : List (Option NL)) (L A : NL), fo L ps = some A → ∃ Bs : List NL, ps = Bs.map some ∧ A = L ++ Bs.flatten := by
  intro ps
  induction ps with
  | nil =>
    intro L A h
    refine ⟨[], rfl, ?_⟩
    rw [← Option.some.inj h]
    exact (List.append_nil L).symm
  | cons o r ih =>
    intro L A h
    cases o with
    | none => cases h
    | some B =>
      have h : (if L.length + B.length ≤ 80 then fo (L ++ B) r else none) = some A := h
      by_cases q : L.length + B.length ≤ 80
      · rw [if_pos q] at h
        obtain ⟨Bs, e1, e2⟩ := ih (L ++ B) A h
        refine ⟨B :: Bs, by rw [e1]; rfl, ?_⟩
        rw [e2, List.append_assoc]
        rfl
      · rw [if_neg q] at h
        cases h
section DOK
variable {b : GB} {T : Tt} {nm p : Nat}
theorem subL_len : (subL T p).length = T.2.2 p := by
  unfold subL
  rw [List.length_map, List.length_range]
theorem subL_at {i : Nat} (hi : i < T.2.2 p) : nlN (subL T p) i = T.2.1 (p + i) := by
  unfold nlN subL
  rw [List.getD_eq_getElem?_getD, List.getElem?_map, List.getElem?_range hi]
  rfl
theorem subL_NPT (hT : TtO b T) (hp : p < T.1) : NPT (subL T p) := by
  refine ⟨fun i => T.2.2 (p + i), ?_⟩
  rw [subL_len]
  refine WT_congr (WT_sub hT.1 hp) (fun i hi => ?_)
  show (T.2.1 (p + i)).2.2.2 = (nlN (subL T p) i).2.2.2
  rw [subL_at hi]
theorem subL_NV (hT : TtO b T) (hp : p < T.1) : ∀ x, x ∈ subL T p → NV b x := by
  intro x hx
  unfold subL at hx
  obtain ⟨i, hi, e⟩ := List.mem_map.mp hx
  have hi := List.mem_range.mp hi
  have := (hT.1.2.2.2 p hp).2.1
  rw [← e]
  exact hT.2 _ (by omega)
theorem lbF_ok {m p : Nat} (h : lbF b m = some p) : p < 16 ∧ (b (32 + p)).1 ≠ 0 ∧ (b (32 + p)).2.2 = (Int32.ofNat (m)) := by
  have e := List.find?_some h
  have m1 := List.mem_of_find?_eq_some h
  exact ⟨List.mem_range.mp m1, of_decide_eq_true e⟩
theorem wnF_ok {m : Nat} {A : NL} (h : wnF b m = some A) : ∃ p, A = [wnd p] ∧ NV b (wnd p) := by
  unfold wnF at h
  obtain ⟨p, e1, e2⟩ := Option.map_eq_some_iff.mp h
  obtain ⟨g1, g2, g3⟩ := lbF_ok e1
  refine ⟨p, e2.symm, Or.inr (Or.inr (Or.inr ⟨rfl, p, 2, g1, by decide, rfl, rfl, rfl, ?_⟩))⟩
  rw [show 2 * 16 + p = 32 + p by omega]
  exact g2
theorem num_NV {v : Nat} (h : v ≤ 999999999) : NV b ((0 : Int32), (Int32.ofNat (v)), (-1 : Int32), 0) := Or.inl ⟨rfl, ⟨v, h, rfl⟩, rfl, rfl⟩
def LOk (b : GB) (L : NL) : Prop := NPT L ∧ ∀ x, x ∈ L → NV b x
theorem LOk_num {v : Nat} (h : v ≤ 999999999) : LOk b (numL v) := ⟨NPT_leaf rfl, fun x hx => by
  rw [List.mem_singleton.mp hx]
  exact num_NV h⟩
theorem LOk_un {x : Nd} {A : NL} (hx : NV b x) (h : x.2.2.2 = 1) (hA : LOk b A) (hn : A.length < 6400) : LOk b (x :: A) := ⟨NPT_un h hA.1 hn, fun y hy => by
  rcases List.mem_cons.mp hy with e | e
  · rw [e]; exact hx
  · exact hA.2 y e⟩
theorem LOk_bi {x : Nd} {A B : NL} (hx : NV b x) (h : x.2.2.2 = 2) (hA : LOk b A) (hB : LOk b B) (hn : A.length + B.length < 6400) : LOk b (x :: (A ++ B)) := ⟨NPT_bi h hA.1 hB.1 hn, fun y hy => by
  rcases List.mem_cons.mp hy with e | e
  · rw [e]; exact hx
  · rcases List.mem_append.mp e with e | e
    · exact hA.2 y e
    · exact hB.2 y e⟩
theorem LOk_sub (hT : TtO b T) (hp : p < T.1) : LOk b (subL T p) := ⟨subL_NPT hT hp, subL_NV hT hp⟩
/-- a derivative is a tree that both sides can hold -/
theorem dvF_ok (hO : TbOK b) (hT : TtO b T) (h80 : T.1 ≤ 80) (ht : ∀ i, i < T.1 → told b T i) : ∀ F i A, i < T.1 → dvF b T nm F i = some A → LOk b A ∧ 0 < A.length := by
  intro F
  induction F with
  | zero => intro i A _ h; cases h
  | succ F ih =>
    intro i A hi h
    have h : fo [] (dpc b T nm (dvF b T nm F) i) = some A := h
    obtain ⟨Bs, e1, e2⟩ := fo_some _ _ _ h
    rw [List.nil_append] at e2
    have nv := hT.2 i hi
    have d80 : ∀ j B, dvF b T nm F j = some B → B.length ≤ 80 := fun j B hB => dvF_len hB
    unfold dpc at e1
    dsimp only at e1
    by_cases q0 : (T.2.1 i).1 = 0 ∨ (T.2.1 i).1 = 1
    · rw [if_pos q0] at e1
      rcases Bs with _ | ⟨B0, _ | ⟨_, _⟩⟩
      · cases e1
      · have := Option.some.inj (List.cons.inj e1).1
        rw [e2, ← this]
        rw [show List.flatten [numL (if (T.2.1 i).1 = 1 ∧ vN (T.2.1 i) = nm then 1 else 0)] = numL (if (T.2.1 i).1 = 1 ∧ vN (T.2.1 i) = nm then 1 else 0) from List.append_nil _]
        exact ⟨LOk_num (by split <;> decide), by show 0 < 1; decide⟩
      · cases (List.cons.inj e1).2
    rw [if_neg q0] at e1
    have one : mz b (T.2.1 i) = 11 ∨ mz b (T.2.1 i) ≤ 10 := by
      rcases ht i hi with y | y | y | y | y
      · exact absurd (Or.inl y) q0
      · exact absurd (Or.inr y) q0
      · exact Or.inl y
      · exact Or.inr (by omega)
      · exact Or.inr (by omega)
    obtain ⟨z1, z2⟩ := mz_ar hO nv q0 one
    by_cases q1 : mz b (T.2.1 i) = 11
    · rw [if_pos q1] at e1
      have h1 : aro T.2.1 i = 1 := z1 q1
      obtain ⟨a1, a2, a3⟩ := kid_sp hT.1 hi (show 0 < aro T.2.1 i by omega)
      have a1 : i + 1 < T.1 := a1
      rcases Bs with _ | ⟨B0, _ | ⟨B1, _ | ⟨_, _⟩⟩⟩
      · cases e1
      · cases (List.cons.inj e1).2
      · have g0 := Option.some.inj (List.cons.inj e1).1
        have g1 := (List.cons.inj (List.cons.inj e1).2).1
        obtain ⟨o1, l1⟩ := ih _ _ a1 g1
        rw [e2, ← g0]
        show LOk b (T.2.1 i :: (B1 ++ [])) ∧ _
        rw [List.append_nil]
        exact ⟨LOk_un nv h1 o1 (by have := d80 _ _ g1; omega), by show 0 < _ + 1; omega⟩
      · cases (List.cons.inj (List.cons.inj e1).2).2
    rw [if_neg q1] at e1
    have h2 : aro T.2.1 i = 2 := z2 (by omega)
    have x2 : (T.2.1 i).2.2.2 = 2 := h2
    obtain ⟨f0, a1, c1, f1, f2, f3, f4, f5⟩ := two_kids hT hi h2
    generalize kid T.2.2 i 1 = c at *
    have sa : (subL T (i + 1)).length ≤ 80 := by rw [subL_len]; have := (hT.1.2.2.2 _ a1).2.1; omega
    have sc : (subL T c).length ≤ 80 := by rw [subL_len]; have := (hT.1.2.2.2 _ c1).2.1; omega
    have oa := LOk_sub hT a1
    have oc := LOk_sub hT c1
    by_cases q2 : mz b (T.2.1 i) = 2
    · rw [if_pos q2] at e1
      rcases Bs with _ | ⟨B0, _ | ⟨B1, _ | ⟨B2, _ | ⟨B3, _ | ⟨B4, _ | ⟨B5, _ | ⟨B6, _ | ⟨_, _⟩⟩⟩⟩⟩⟩⟩⟩
      all_goals simp only [List.map_cons, List.map_nil, List.cons.injEq, reduceCtorEq, and_false, and_true, false_and, Option.some.injEq] at e1
      obtain ⟨g0, g1, g2, g3, g4, g5, g6⟩ := e1
      obtain ⟨p0, r0, n0⟩ := wnF_ok g0
      obtain ⟨o2, l2⟩ := ih _ _ a1 g2
      obtain ⟨o6, l6⟩ := ih _ _ c1 g6
      have t1 := LOk_bi nv x2 o2 oc (by have := d80 _ _ g2; omega)
      have t2 := LOk_bi nv x2 oa o6 (by have := d80 _ _ g6; omega)
      have t3 := LOk_bi (x := wnd p0) n0 rfl t1 t2 (by
        rw [List.length_cons, List.length_cons, List.length_append, List.length_append]
        have := d80 _ _ g2
        have := d80 _ _ g6
        omega)
      have ee : A = wnd p0 :: ((T.2.1 i :: (B2 ++ subL T c)) ++ (T.2.1 i :: (subL T (i + 1) ++ B6))) := by
        rw [e2, r0, ← g1, ← g3, ← g4, ← g5]
        simp only [List.flatten_cons, List.flatten_nil, List.append_nil, List.cons_append, List.nil_append, List.append_assoc]
      rw [ee]
      exact ⟨t3, by rw [List.length_cons]; omega⟩
    rw [if_neg q2] at e1
    by_cases q3 : mz b (T.2.1 i) = 3
    · rw [if_pos q3] at e1
      rcases Bs with _ | ⟨B0, _ | ⟨B1, _ | ⟨B2, _ | ⟨B3, _ | ⟨B4, _ | ⟨B5, _ | ⟨B6, _ | ⟨B7, _ | ⟨B8, _ | ⟨B9, _ | ⟨B10, _ | ⟨_, _⟩⟩⟩⟩⟩⟩⟩⟩⟩⟩⟩⟩
      all_goals simp only [List.map_cons, List.map_nil, List.cons.injEq, reduceCtorEq, and_false, and_true, false_and, Option.some.injEq] at e1
      obtain ⟨g0, g1, g2, g3, g4, g5, g6, g7, g8, g9, g10⟩ := e1
      obtain ⟨p1, r1, n1⟩ := wnF_ok g1
      obtain ⟨p2, r2, n2⟩ := wnF_ok g2
      obtain ⟨p5, r5, n5⟩ := wnF_ok g5
      obtain ⟨p8, r8, n8⟩ := wnF_ok g8
      obtain ⟨o3, l3⟩ := ih _ _ a1 g3
      obtain ⟨o7, l7⟩ := ih _ _ c1 g7
      have b3 := d80 _ _ g3
      have b7 := d80 _ _ g7
      have t1 := LOk_bi (x := wnd p2) n2 rfl o3 oc (by omega)
      have t2 := LOk_bi (x := wnd p5) n5 rfl oa o7 (by omega)
      have t3 := LOk_bi (x := wnd p1) n1 rfl t1 t2 (by
        rw [List.length_cons, List.length_cons, List.length_append, List.length_append]
        omega)
      have t4 := LOk_bi (x := wnd p8) n8 rfl oc (LOk_num (v := 2) (by first | decide | omega)) (by show _ + 1 < 6400; omega)
      have t5 := LOk_bi nv x2 t3 t4 (by
        rw [List.length_cons, List.length_cons, List.length_append, List.length_append, List.length_cons, List.length_cons, List.length_append, List.length_append]
        have : (numL 2).length = 1 := rfl
        omega)
      have ee : A = T.2.1 i :: ((wnd p1 :: ((wnd p2 :: (B3 ++ subL T c)) ++ (wnd p5 :: (subL T (i + 1) ++ B7)))) ++ (wnd p8 :: (subL T c ++ numL 2))) := by
        rw [e2, ← g0, r1, r2, ← g4, r5, ← g6, r8, ← g9, ← g10]
        simp only [List.flatten_cons, List.flatten_nil, List.append_nil, List.cons_append, List.nil_append, List.append_assoc]
      rw [ee]
      exact ⟨t5, by rw [List.length_cons]; omega⟩
    rw [if_neg q3] at e1
    by_cases q5 : mz b (T.2.1 i) = 5
    · rw [if_pos q5] at e1
      obtain ⟨v1, v2, -⟩ := NV_v (hT.2 _ c1)
      by_cases q6 : vN (T.2.1 c) = 0
      · rw [if_pos q6] at e1
        rcases Bs with _ | ⟨B0, _ | ⟨_, _⟩⟩
        all_goals simp only [List.map_cons, List.map_nil, List.cons.injEq, reduceCtorEq, and_false, and_true, false_and, Option.some.injEq] at e1
        rw [e2, ← e1]
        rw [show List.flatten [numL 0] = numL 0 from List.append_nil _]
        exact ⟨LOk_num (by first | decide | omega), by show 0 < 1; decide⟩
      · rw [if_neg q6] at e1
        rcases Bs with _ | ⟨B0, _ | ⟨B1, _ | ⟨B2, _ | ⟨B3, _ | ⟨B4, _ | ⟨B5, _ | ⟨B6, _ | ⟨_, _⟩⟩⟩⟩⟩⟩⟩⟩
        all_goals simp only [List.map_cons, List.map_nil, List.cons.injEq, reduceCtorEq, and_false, and_true, false_and, Option.some.injEq] at e1
        obtain ⟨g0, g1, g2, g3, g4, g5, g6⟩ := e1
        obtain ⟨p0, r0, n0⟩ := wnF_ok g0
        obtain ⟨p1, r1, n1⟩ := wnF_ok g1
        obtain ⟨o6, l6⟩ := ih _ _ a1 g6
        have b6 := d80 _ _ g6
        have t1 := LOk_bi nv x2 oa (LOk_num (v := vN (T.2.1 c) - 1) (by omega)) (by show _ + 1 < 6400; omega)
        have t2 := LOk_bi (x := wnd p1) n1 rfl (LOk_num (v := vN (T.2.1 c)) v2) t1 (by
          rw [List.length_cons, List.length_append]
          have : ∀ v, (numL v).length = 1 := fun v => rfl
          rw [this, this]
          omega)
        have t3 := LOk_bi (x := wnd p0) n0 rfl t2 o6 (by
          rw [List.length_cons, List.length_append, List.length_cons, List.length_append]
          have : ∀ v, (numL v).length = 1 := fun v => rfl
          rw [this, this]
          omega)
        have ee : A = wnd p0 :: ((wnd p1 :: (numL (vN (T.2.1 c)) ++ (T.2.1 i :: (subL T (i + 1) ++ numL (vN (T.2.1 c) - 1))))) ++ B6) := by
          rw [e2, r0, r1, ← g2, ← g3, ← g4, ← g5]
          simp only [List.flatten_cons, List.flatten_nil, List.append_nil, List.cons_append, List.nil_append, List.append_assoc]
        rw [ee]
        exact ⟨t3, by rw [List.length_cons]; omega⟩
    rw [if_neg q5] at e1
    rcases Bs with _ | ⟨B0, _ | ⟨B1, _ | ⟨B2, _ | ⟨_, _⟩⟩⟩⟩
    all_goals simp only [List.map_cons, List.map_nil, List.cons.injEq, reduceCtorEq, and_false, and_true, false_and, Option.some.injEq] at e1
    obtain ⟨g0, g1, g2⟩ := e1
    obtain ⟨o1, l1⟩ := ih _ _ a1 g1
    obtain ⟨o2, l2⟩ := ih _ _ c1 g2
    have t1 := LOk_bi nv x2 o1 o2 (by have := d80 _ _ g1; have := d80 _ _ g2; omega)
    have ee : A = T.2.1 i :: (B1 ++ B2) := by
      rw [e2, ← g0]
      simp only [List.flatten_cons, List.flatten_nil, List.append_nil, List.cons_append, List.nil_append, List.append_assoc]
    rw [ee]
    exact ⟨t1, by rw [List.length_cons]; omega⟩
end DOK
