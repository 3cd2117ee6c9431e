/-! the derivative is worth what the slope is -/
section SLV
variable {b : GB} {n : GN} {T : Tt} {nm : Nat} {ρ : En} {v p w r y : GV}
theorem slP_0 (hp : Gd p) (hr : Gd r) (e : slP 0 v p w r = .inr y) : tR y = tR p + tR r := by
  unfold slP at e
  rw [if_pos rfl] at e
  rw [qfin_tR (Nat.mul_pos hp.2.1 hr.2.1) e]
  unfold tR
  rw [Rat.mkRat_add_mkRat _ _ (by have := hp.2.1; omega) (by have := hr.2.1; omega), Int.one_mul]
theorem slP_1 (hp : Gd p) (hr : Gd r) (e : slP 1 v p w r = .inr y) : tR y = tR p - tR r := by
  unfold slP at e
  rw [if_neg (by decide), if_pos rfl] at e
  rw [qfin_tR (Nat.mul_pos hp.2.1 hr.2.1) e]
  unfold tR
  rw [Rat.sub_eq_add_neg, Rat.neg_mkRat, Rat.mkRat_add_mkRat _ _ (by have := hp.2.1; omega) (by have := hr.2.1; omega), Int.neg_one_mul]
theorem nz_mul {a c : Nat} (ha : 0 < a) (hc : 0 < c) : a * c ≠ 0 := by
  have := Nat.mul_pos ha hc
  omega
theorem slP_2 (hv : Gd v) (hp : Gd p) (hw : Gd w) (hr : Gd r) (e : slP 2 v p w r = .inr y) : tR y = tR p * tR w + tR v * tR r := by
  unfold slP at e
  rw [if_neg (by decide), if_neg (by decide), if_pos rfl] at e
  rw [qfin_tR (Nat.mul_pos (Nat.mul_pos hp.2.1 hw.2.1) (Nat.mul_pos hv.2.1 hr.2.1)) e]
  unfold tR
  rw [Rat.mkRat_mul_mkRat, Rat.mkRat_mul_mkRat, Rat.mkRat_add_mkRat _ _ (nz_mul hp.2.1 hw.2.1) (nz_mul hv.2.1 hr.2.1)]
theorem slP_3 (hv : Gd v) (hp : Gd p) (hw : Gd w) (hr : Gd r) (h0 : w.1 ≠ 0) (e : slP 3 v p w r = .inr y) : tR y = (tR p * tR w - tR v * tR r) / (tR w * tR w) := by
  unfold slP at e
  rw [if_neg (by decide), if_neg (by decide), if_neg (by decide), if_pos rfl] at e
  have wa : 0 < w.1.natAbs := by omega
  have d0 := Nat.mul_pos (Nat.mul_pos hp.2.1 hw.2.1) (Nat.mul_pos hv.2.1 hr.2.1)
  rw [qfin_tR (Nat.mul_pos d0 (Nat.mul_pos wa wa)) e]
  have w0 : tR w ≠ 0 := fun z => h0 ((tR_0 hw).mp z)
  have ex : mkRat (p.1 * w.1 * (v.2 * r.2 : Nat) - v.1 * r.1 * (p.2 * w.2 : Nat)) (p.2 * w.2 * (v.2 * r.2)) = tR p * tR w - tR v * tR r := by
    unfold tR
    rw [Rat.mkRat_mul_mkRat, Rat.mkRat_mul_mkRat, Rat.sub_eq_add_neg, Rat.neg_mkRat, Rat.mkRat_add_mkRat _ _ (nz_mul hp.2.1 hw.2.1) (nz_mul hv.2.1 hr.2.1), Int.neg_mul, Int.sub_eq_add_neg]
  rw [← ex]
  generalize p.1 * w.1 * (v.2 * r.2 : Nat) - v.1 * r.1 * (p.2 * w.2 : Nat) = X at *
  generalize p.2 * w.2 * (v.2 * r.2) = D at *
  have key : mkRat (X * (w.2 * w.2 : Nat)) (D * (w.1.natAbs * w.1.natAbs)) * (tR w * tR w) = mkRat X D := by
    unfold tR
    rw [Rat.mkRat_mul_mkRat, Rat.mkRat_mul_mkRat]
    have e1 : w.1 * w.1 = ((w.1.natAbs * w.1.natAbs : Nat) : Int) := Int.natAbs_mul_self.symm
    rw [e1, show X * (w.2 * w.2 : Nat) * ((w.1.natAbs * w.1.natAbs : Nat) : Int) = X * ((w.1.natAbs * w.1.natAbs * (w.2 * w.2) : Nat) : Int) by
      rw [Int.mul_assoc, Int.mul_comm ((w.2 * w.2 : Nat) : Int), ← Int.natCast_mul], show D * (w.1.natAbs * w.1.natAbs) * (w.2 * w.2) = D * (w.1.natAbs * w.1.natAbs * (w.2 * w.2)) from Nat.mul_assoc _ _ _]
    exact Rat.mkRat_mul_right (nz_mul (Nat.mul_pos wa wa) (Nat.mul_pos hw.2.1 hw.2.1))
  have ww : tR w * tR w ≠ 0 := by grind
  generalize mkRat (X * (w.2 * w.2 : Nat)) (D * (w.1.natAbs * w.1.natAbs)) = A at *
  generalize mkRat X D = B at *
  generalize tR w * tR w = C at *
  grind
theorem slP_50 (h : w.1 = 0) (e : slP 5 v p w r = .inr y) : tR y = 0 := by
  unfold slP at e
  rw [if_neg (by decide), if_neg (by decide), if_neg (by decide), if_neg (by decide), if_pos h] at e
  cases e
  rfl
theorem slP_5 {k : Nat} (hv : Gd v) (hp : Gd p) (hw : w = ((k : Int), 1)) (hk : k ≠ 0) (e : slP 5 v p w r = .inr y) : tR y = tR v ^ (k - 1) * NR k * tR p := by
  unfold slP at e
  have w1 : w.1 = (k : Int) := by rw [hw]
  rw [if_neg (by decide), if_neg (by decide), if_neg (by decide), if_neg (by decide), if_neg (by rw [w1]; omega), w1, Int.natAbs_natCast] at e
  rw [qfin_tR (Nat.mul_pos (Nat.pow_pos hv.2.1) hp.2.1) e, ← pow_tR hv]
  unfold tR NR
  rw [Rat.mkRat_mul_mkRat, Rat.mkRat_mul_mkRat, Nat.mul_one]
/-- the slope's value is the tree's -/
theorem slF_val (hO : TbOK b) (hT : TtO b T) (h80 : T.1 ≤ 80) (ht : ∀ i, i < T.1 → told b T i) (hg : ∀ l, l < 26 → Gd (n.2 l)) (hρ : ∀ l, l < 26 → n.1 l ≠ 0 → ρ (97 + l) = some (tR (n.2 l))) : ∀ F i u w, i < T.1 → slF b n nm T F i = .inr (u, w) → VV b T.2.1 T.2.2 i ρ = some (tR u) := by
  intro F
  induction F with
  | zero => intro i u w _ e; cases e
  | succ F ih =>
    intro i u w hi e
    have nv := hT.2 i hi
    obtain ⟨v1, v2, v3, v4, -⟩ := NV_v nv
    have e : slN b n nm T (slF b n nm T F) i = .inr (u, w) := e
    unfold slN at e
    by_cases q0 : (T.2.1 i).1 = 0
    · rw [if_pos q0] at e
      cases e
      rw [isN_V hT hi ⟨q0, rfl⟩]
      rfl
    rw [if_neg q0] at e
    by_cases q1 : (T.2.1 i).1 = 1
    · rw [if_pos q1] at e
      have a0 : aro T.2.1 i = 0 := by
        rcases nv with y | y | y | y
        · exact absurd y.1 q0
        · exact y.2.2.2
        · exact absurd (q1.symm.trans y.1) (by decide)
        · exact absurd (q1.symm.trans y.1) (by decide)
      obtain ⟨l, l1, l2⟩ : ∃ l, l < 26 ∧ vN (T.2.1 i) = 97 + l := by
        rcases nv with y | y | y | y
        · exact absurd y.1 q0
        · obtain ⟨-, ⟨l, l1, l2⟩, -⟩ := y
          have := v3 q0
          exact ⟨l, l1, (i32_eq (by omega) (by omega)).mp (v1.symm.trans l2)⟩
        · exact absurd (q1.symm.trans y.1) (by decide)
        · exact absurd (q1.symm.trans y.1) (by decide)
      rw [l2, Nat.add_sub_cancel_left] at e
      split at e
      · cases e
      next z =>
      cases e
      rw [VV_nam q1 a0, l2]
      exact hρ l l1 z
    rw [if_neg q1] at e
    have one : mz b (T.2.1 i) = 11 ∨ mz b (T.2.1 i) ≤ 10 := by
      rcases ht i hi with y | y | y | y | y
      · exact absurd y q0
      · exact absurd y q1
      · exact Or.inl y
      · exact Or.inr (by omega)
      · exact Or.inr (by omega)
    obtain ⟨z1, z2⟩ := mz_ar hO nv (fun y => y.elim q0 q1) one
    have go := slF_O (nm := nm) hO hT ht hg F
    by_cases q11 : mz b (T.2.1 i) = 11
    · rw [if_pos q11] at e
      obtain ⟨h3, -⟩ := mz_one hO nv (by omega) (by omega)
      have h1 : aro T.2.1 i = 1 := z1 q11
      obtain ⟨a1, a2, a3⟩ := kid_sp hT.1 hi (show 0 < aro T.2.1 i by omega)
      have a1 : i + 1 < T.1 := a1
      have em : mgN b (T.2.1 i) = 11 := by
        unfold mz at q11
        rw [if_pos h3] at q11
        exact q11
      have g := go (i + 1) a1
      cases e1 : slF b n nm T F (i + 1) with
      | inl x => rw [e1] at e; cases e
      | inr x =>
        obtain ⟨a, c⟩ := x
        rw [e1] at e g
        cases e
        refine (VV_one hT.1 (by omega) hi h3 h1 (by omega) (by omega)).mpr ⟨tR a, ih _ a c a1 e1, ?_⟩
        rw [em, d1_neg]
        unfold tR
        rw [Rat.neg_mkRat]
    rw [if_neg q11] at e
    obtain ⟨h3, -⟩ := mz_two hO nv (by omega)
    have h2 : aro T.2.1 i = 2 := z2 (by omega)
    obtain ⟨f0, a1, c1, c2, c3, c4, c5, c6⟩ := two_kids hT hi h2
    have em : mgN b (T.2.1 i) = mz b (T.2.1 i) := by
      unfold mz
      rw [if_pos h3]
    have ga := go (i + 1) a1
    cases e1 : slF b n nm T F (i + 1) with
    | inl x => rw [e1] at e; cases e
    | inr x =>
      obtain ⟨av, ap⟩ := x
      rw [e1] at e ga
      dsimp only at e
      have gc := go _ c1
      cases e2 : slF b n nm T F (kid T.2.2 i 1) with
      | inl x => rw [e2] at e; cases e
      | inr x =>
        obtain ⟨cv, cp⟩ := x
        rw [e2] at e gc
        dsimp only at e
        unfold slT at e
        cases e3 : q2 (mz b (T.2.1 i)) av cv with
        | inl x => rw [e3] at e; cases e
        | inr x =>
          rw [e3] at e
          dsimp only at e
          cases e4 : slP (mz b (T.2.1 i)) av ap cv cp with
          | inl z => rw [e4] at e; cases e
          | inr z =>
            rw [e4] at e
            cases e
            refine (VV_two hT.1 (by omega) hi h3 h2 (by omega)).mpr ⟨tR av, tR cv, ih _ av ap a1 e1, ih _ cv cp c1 e2, ?_⟩
            rw [em]
            exact q2_d2 ga.1 gc.1 e3
theorem dv_slope (hO : TbOK b) (hT : TtO b T) (h80 : T.1 ≤ 80) (ht : ∀ i, i < T.1 → told b T i) (hg : ∀ l, l < 26 → Gd (n.2 l)) (hρ : ∀ l, l < 26 → n.1 l ≠ 0 → ρ (97 + l) = some (tR (n.2 l))) : ∀ F i A, i < T.1 → dvF b T nm F i = some A → ∀ v, VL b A ρ = some v → ∀ F' u w, slF b n nm T F' i = .inr (u, w) → tR w = v := by
  intro F
  induction F with
  | zero => intro i A _ h; cases h
  | succ F ih =>
    intro i A hi h v hv F' u w hs
    have hA80 := dvF_len h
    have h : fo [] (dpc b T nm (dvF b T nm F) i) = some A := h
    obtain ⟨Bs, e1, e2⟩ := fo_some _ _ _ h
    rw [List.nil_append] at e2
    have nv := hT.2 i hi
    have d80 : ∀ j B, dvF b T nm F j = some B → B.length ≤ 80 := fun j B hB => dvF_len hB
    have dok : ∀ j B, j < T.1 → dvF b T nm F j = some B → LOk b B := fun j B hj hB => (dvF_ok hO hT h80 ht F j B hj hB).1
    cases F' with
    | zero => cases hs
    | succ F' =>
    have hs : slN b n nm T (slF b n nm T F') i = .inr (u, w) := hs
    have go := slF_O (nm := nm) hO hT ht hg F'
    have sv := slF_val (nm := nm) hO hT h80 ht hg hρ F'
    unfold slN at hs
    unfold dpc at e1
    dsimp only at e1
    by_cases q0 : (T.2.1 i).1 = 0 ∨ (T.2.1 i).1 = 1
    · rw [if_pos q0] at e1
      rcases Bs with _ | ⟨B0, _ | ⟨_, _⟩⟩
      · cases e1
      · have := Option.some.inj (List.cons.inj e1).1
        have ea : A = numL (if (T.2.1 i).1 = 1 ∧ vN (T.2.1 i) = nm then 1 else 0) := by
          rw [e2, ← this]
          exact List.append_nil _
        rw [ea, VL_num (by split <;> decide)] at hv
        rw [← Option.some.inj hv]
        by_cases z0 : (T.2.1 i).1 = 0
        · rw [if_pos z0] at hs
          cases hs
          rw [if_neg (fun y => by rw [z0] at y; exact absurd y.1 (by decide))]
          rfl
        · have z1 := q0.resolve_left z0
          rw [if_neg z0, if_pos z1] at hs
          split at hs
          · cases hs
          · cases hs
            by_cases z2 : vN (T.2.1 i) = nm
            · rw [if_pos z2, if_pos ⟨z1, z2⟩]
              rfl
            · rw [if_neg z2, if_neg (fun y => z2 y.2)]
              rfl
      · cases (List.cons.inj e1).2
    rw [if_neg q0] at e1
    rw [if_neg (fun y => q0 (Or.inl y)), if_neg (fun y => q0 (Or.inr y))] at hs
    have one : mz b (T.2.1 i) = 11 ∨ mz b (T.2.1 i) ≤ 10 := by
      rcases ht i hi with y | y | y | y | y
      · exact absurd (Or.inl y) q0
      · exact absurd (Or.inr y) q0
      · exact Or.inl y
      · exact Or.inr (by omega)
      · exact Or.inr (by omega)
    obtain ⟨z1, z2⟩ := mz_ar hO nv q0 one
    by_cases q1 : mz b (T.2.1 i) = 11
    · rw [if_pos q1] at e1 hs
      have h1 : aro T.2.1 i = 1 := z1 q1
      obtain ⟨h3, -⟩ := mz_one hO nv (by omega) (by omega)
      have em : mgN b (T.2.1 i) = 11 := by
        unfold mz at q1
        rw [if_pos h3] at q1
        exact q1
      obtain ⟨a1, a2, a3⟩ := kid_sp hT.1 hi (show 0 < aro T.2.1 i by omega)
      have a1 : i + 1 < T.1 := a1
      rcases Bs with _ | ⟨B0, _ | ⟨B1, _ | ⟨_, _⟩⟩⟩
      · cases e1
      · cases (List.cons.inj e1).2
      · have g0 := Option.some.inj (List.cons.inj e1).1
        have g1 := (List.cons.inj (List.cons.inj e1).2).1
        have ea : A = T.2.1 i :: B1 := by
          rw [e2, ← g0]
          show T.2.1 i :: (B1 ++ []) = _
          rw [List.append_nil]
        rw [ea] at hv
        obtain ⟨x, f1, f2⟩ := VL_un h3 h1 em (by decide) (by decide) (dok _ _ a1 g1).1 (by have := d80 _ _ g1; omega) hv
        cases e3 : slF b n nm T F' (i + 1) with
        | inl z => rw [e3] at hs; cases hs
        | inr z =>
          obtain ⟨av, ap⟩ := z
          rw [e3] at hs
          cases hs
          have := ih (i + 1) B1 a1 g1 x f1 F' av ap e3
          rw [d1_neg] at f2
          rw [← Option.some.inj f2, ← this]
          unfold tR
          rw [Rat.neg_mkRat]
      · cases (List.cons.inj (List.cons.inj e1).2).2
    rw [if_neg q1] at e1 hs
    have h2 : aro T.2.1 i = 2 := z2 (by omega)
    have x2 : (T.2.1 i).2.2.2 = 2 := h2
    obtain ⟨h3, -⟩ := mz_two hO nv (by omega)
    have em : mgN b (T.2.1 i) = mz b (T.2.1 i) := by
      unfold mz
      rw [if_pos h3]
    obtain ⟨f0, a1, c1, f1, f2, f3, f4, f5⟩ := two_kids hT hi h2
    have hk5 : mz b (T.2.1 i) = 5 → (T.2.1 (kid T.2.2 i 1)).1 = 0 := fun z => by
      rcases ht i hi with y | y | y | y | y
      · exact absurd (Or.inl y) q0
      · exact absurd (Or.inr y) q0
      · omega
      · omega
      · exact y.2
    generalize kid T.2.2 i 1 = c at *
    have sa : (subL T (i + 1)).length ≤ 80 := by rw [subL_len]; have := (hT.1.2.2.2 _ a1).2.1; omega
    have sc : (subL T c).length ≤ 80 := by rw [subL_len]; have := (hT.1.2.2.2 _ c1).2.1; omega
    have oa := LOk_sub hT a1
    have oc := LOk_sub hT c1
    -- the slopes of the two
    have ga := go (i + 1) a1
    have gc := go c c1
    cases es1 : slF b n nm T F' (i + 1) with
    | inl x => rw [es1] at hs; cases hs
    | inr x =>
    obtain ⟨av, ap⟩ := x
    rw [es1] at hs ga
    dsimp only at hs
    cases es2 : slF b n nm T F' c with
    | inl x => rw [es2] at hs; cases hs
    | inr x =>
    obtain ⟨cv, cp⟩ := x
    rw [es2] at hs gc
    dsimp only at hs
    have va := sv (i + 1) av ap a1 es1
    have vc := sv c cv cp c1 es2
    unfold slT at hs
    cases es3 : q2 (mz b (T.2.1 i)) av cv with
    | inl x => rw [es3] at hs; cases hs
    | inr xx =>
    rw [es3] at hs
    dsimp only at hs
    cases es4 : slP (mz b (T.2.1 i)) av ap cv cp with
    | inl z => rw [es4] at hs; cases hs
    | inr zz =>
    rw [es4] at hs
    cases hs
    have subA : ∀ x, VL b (subL T (i + 1)) ρ = some x → x = tR av := fun x hx => by
      have := subL_of hT h80 a1 hx
      rw [va] at this
      exact (Option.some.inj this).symm
    have subC : ∀ x, VL b (subL T c) ρ = some x → x = tR cv := fun x hx => by
      have := subL_of hT h80 c1 hx
      rw [vc] at this
      exact (Option.some.inj this).symm
    by_cases q2 : mz b (T.2.1 i) = 2
    · rw [if_pos q2] at e1
      rw [q2] at es4
      rcases Bs with _ | ⟨B0, _ | ⟨B1, _ | ⟨B2, _ | ⟨B3, _ | ⟨B4, _ | ⟨B5, _ | ⟨B6, _ | ⟨_, _⟩⟩⟩⟩⟩⟩⟩⟩
      all_goals simp only [List.map_cons, List.map_nil, List.cons.injEq, reduceCtorEq, and_false, and_true, false_and, Option.some.injEq] at e1
      obtain ⟨g0, g1, g2, g3, g4, g5, g6⟩ := e1
      obtain ⟨p0, r0, n0, m0⟩ := wnF_mg (by decide) g0
      have o2 := dok _ _ a1 g2
      have o6 := dok _ _ c1 g6
      have t1 := LOk_bi nv x2 o2 oc (by have := d80 _ _ g2; omega)
      have t2 := LOk_bi nv x2 oa o6 (by have := d80 _ _ g6; omega)
      have ee : A = wnd p0 :: ((T.2.1 i :: (B2 ++ subL T c)) ++ (T.2.1 i :: (subL T (i + 1) ++ B6))) := by
        rw [e2, r0, ← g1, ← g3, ← g4, ← g5]
        simp only [List.flatten_cons, List.flatten_nil, List.append_nil, List.cons_append, List.nil_append, List.append_assoc]
      rw [ee, List.length_cons, List.length_append] at hA80
      rw [ee] at hv
      obtain ⟨x, y, k1, k2, k3⟩ := VL_bi (x := wnd p0) rfl rfl m0 (by decide) t1.1 t2.1 (by omega) hv
      rw [List.length_cons, List.length_append, List.length_cons, List.length_append] at hA80
      obtain ⟨x1, y1, k4, k5, k6⟩ := VL_bi h3 x2 (em.trans q2) (by decide) o2.1 oc.1 (by omega) k1
      obtain ⟨x3, y3, k7, k8, k9⟩ := VL_bi h3 x2 (em.trans q2) (by decide) oa.1 o6.1 (by omega) k2
      have i1 := ih (i + 1) B2 a1 g2 x1 k4 F' av ap es1
      have i2 := ih c B6 c1 g6 y3 k8 F' cv cp es2
      rw [subC y1 k5] at k6
      rw [subA x3 k7] at k9
      rw [slP_2 ga.1 ga.2.1 gc.1 gc.2.1 es4, i1, i2]
      unfold d2 at k3 k6 k9
      rw [if_neg (by decide), if_neg (by decide), if_pos rfl] at k6 k9
      rw [if_pos rfl] at k3
      rw [← Option.some.inj k3, ← Option.some.inj k6, ← Option.some.inj k9]
    rw [if_neg q2] at e1
    by_cases q3 : mz b (T.2.1 i) = 3
    · rw [if_pos q3] at e1
      rw [q3] at es4 es3
      rcases Bs with _ | ⟨B0, _ | ⟨B1, _ | ⟨B2, _ | ⟨B3, _ | ⟨B4, _ | ⟨B5, _ | ⟨B6, _ | ⟨B7, _ | ⟨B8, _ | ⟨B9, _ | ⟨B10, _ | ⟨_, _⟩⟩⟩⟩⟩⟩⟩⟩⟩⟩⟩⟩
      all_goals simp only [List.map_cons, List.map_nil, List.cons.injEq, reduceCtorEq, and_false, and_true, false_and, Option.some.injEq] at e1
      obtain ⟨g0, g1, g2, g3, g4, g5, g6, g7, g8, g9, g10⟩ := e1
      obtain ⟨p1, r1, n1, m1⟩ := wnF_mg (by decide) g1
      obtain ⟨p2, r2, n2, m2⟩ := wnF_mg (by decide) g2
      obtain ⟨p5, r5, n5, m5⟩ := wnF_mg (by decide) g5
      obtain ⟨p8, r8, n8, m8⟩ := wnF_mg (by decide) g8
      have o3 := dok _ _ a1 g3
      have o7 := dok _ _ c1 g7
      have b3 := d80 _ _ g3
      have b7 := d80 _ _ g7
      have t1 := LOk_bi (x := wnd p2) n2 rfl o3 oc (by omega)
      have t2 := LOk_bi (x := wnd p5) n5 rfl oa o7 (by omega)
      have t3 := LOk_bi (x := wnd p1) n1 rfl t1 t2 (by
        rw [List.length_cons, List.length_cons, List.length_append, List.length_append]
        omega)
      have t4 := LOk_bi (x := wnd p8) n8 rfl oc (LOk_num (v := 2) (by decide)) (by show _ + 1 < 6400; omega)
      have ee : A = T.2.1 i :: ((wnd p1 :: ((wnd p2 :: (B3 ++ subL T c)) ++ (wnd p5 :: (subL T (i + 1) ++ B7)))) ++ (wnd p8 :: (subL T c ++ numL 2))) := by
        rw [e2, ← g0, r1, r2, ← g4, r5, ← g6, r8, ← g9, ← g10]
        simp only [List.flatten_cons, List.flatten_nil, List.append_nil, List.cons_append, List.nil_append, List.append_assoc]
      rw [ee, List.length_cons, List.length_append] at hA80
      rw [ee] at hv
      obtain ⟨x, y, k1, k2, k3⟩ := VL_bi h3 x2 (em.trans q3) (by decide) t3.1 t4.1 (by omega) hv
      rw [List.length_cons, List.length_append, List.length_cons, List.length_append] at hA80
      obtain ⟨x1, y1, k4, k5, k6⟩ := VL_bi (x := wnd p1) rfl rfl m1 (by decide) t1.1 t2.1 (by rw [List.length_cons, List.length_cons, List.length_append, List.length_append]; rw [List.length_cons, List.length_append, List.length_cons, List.length_append] at hA80; omega) k1
      rw [List.length_cons, List.length_append, List.length_cons, List.length_append] at hA80
      obtain ⟨x3, y3, k7, k8, k9⟩ := VL_bi (x := wnd p2) rfl rfl m2 (by decide) o3.1 oc.1 (by omega) k4
      obtain ⟨x4, y4, k10, k11, k12⟩ := VL_bi (x := wnd p5) rfl rfl m5 (by decide) oa.1 o7.1 (by omega) k5
      obtain ⟨x5, y5, k13, k14, k15⟩ := VL_bi (x := wnd p8) rfl rfl m8 (by decide) oc.1 (LOk_num (b := b) (v := 2) (by decide)).1 (by show _ + 1 ≤ 90; omega) k2
      have i1 := ih (i + 1) B3 a1 g3 x3 k7 F' av ap es1
      have i2 := ih c B7 c1 g7 y4 k11 F' cv cp es2
      have w0 := q2_div es3
      rw [VL_num (by decide)] at k14
      cases k14
      rw [subC y3 k8] at k9
      rw [subA x4 k10] at k12
      rw [subC x5 k13] at k15
      rw [slP_3 ga.1 ga.2.1 gc.1 gc.2.1 w0 es4, i1, i2]
      unfold d2 at k3 k6 k9 k12 k15
      rw [if_neg (by decide), if_neg (by decide), if_pos rfl] at k9 k12
      rw [if_neg (by decide), if_pos rfl] at k6
      rw [if_neg (by decide), if_neg (by decide), if_neg (by decide), if_neg (by decide), if_pos rfl, if_neg (by decide), if_neg (fun y => absurd y.2 (by decide)), if_neg (by decide), if_pos (by decide)] at k15
      rw [if_neg (by decide), if_neg (by decide), if_neg (by decide), if_pos rfl] at k3
      have k15 : tR cv ^ 2 = y := Option.some.inj k15
      have e22 : tR cv ^ 2 = tR cv * tR cv := by
        rw [Rat.pow_succ, Rat.pow_succ, Rat.pow_zero, Rat.one_mul]
      split at k3
      · cases k3
      · rw [← Option.some.inj k3, ← Option.some.inj k6, ← Option.some.inj k9, ← Option.some.inj k12, ← k15, e22]
    rw [if_neg q3] at e1
    by_cases q5 : mz b (T.2.1 i) = 5
    · rw [if_pos q5] at e1
      rw [q5] at es4
      obtain ⟨v1, v2, -⟩ := NV_v (hT.2 _ c1)
      have c0 : (T.2.1 c).1 = 0 := hk5 q5
      have ecv := gc.2.2 c0
      by_cases q6 : vN (T.2.1 c) = 0
      · rw [if_pos q6] at e1
        rcases Bs with _ | ⟨B0, _ | ⟨_, _⟩⟩
        all_goals simp only [List.map_cons, List.map_nil, List.cons.injEq, reduceCtorEq, and_false, and_true, false_and, Option.some.injEq] at e1
        have ea : A = numL 0 := by
          rw [e2, ← e1]
          exact List.append_nil _
        rw [ea, VL_num (by decide)] at hv
        rw [← Option.some.inj hv, slP_50 (by rw [ecv, q6]; rfl) es4]
        rfl
      · rw [if_neg q6] at e1
        rcases Bs with _ | ⟨B0, _ | ⟨B1, _ | ⟨B2, _ | ⟨B3, _ | ⟨B4, _ | ⟨B5, _ | ⟨B6, _ | ⟨_, _⟩⟩⟩⟩⟩⟩⟩⟩
        all_goals simp only [List.map_cons, List.map_nil, List.cons.injEq, reduceCtorEq, and_false, and_true, false_and, Option.some.injEq] at e1
        obtain ⟨g0, g1, g2, g3, g4, g5, g6⟩ := e1
        obtain ⟨p0, r0, n0, m0⟩ := wnF_mg (by decide) g0
        obtain ⟨p1, r1, n1, m1⟩ := wnF_mg (by decide) g1
        have o6 := dok _ _ a1 g6
        have b6 := d80 _ _ g6
        have nl : ∀ v, (numL v).length = 1 := fun v => rfl
        have t1 := LOk_bi nv x2 oa (LOk_num (v := vN (T.2.1 c) - 1) (by omega)) (by show _ + 1 < 6400; omega)
        have t2 := LOk_bi (x := wnd p1) n1 rfl (LOk_num (v := vN (T.2.1 c)) v2) t1 (by
          rw [List.length_cons, List.length_append, nl, nl]
          omega)
        have ee : A = wnd p0 :: ((wnd p1 :: (numL (vN (T.2.1 c)) ++ (T.2.1 i :: (subL T (i + 1) ++ numL (vN (T.2.1 c) - 1))))) ++ B6) := by
          rw [e2, r0, r1, ← g2, ← g3, ← g4, ← g5]
          simp only [List.flatten_cons, List.flatten_nil, List.append_nil, List.cons_append, List.nil_append, List.append_assoc]
        rw [ee] at hv
        obtain ⟨x, y, k1, k2, k3⟩ := VL_bi (x := wnd p0) rfl rfl m0 (by decide) t2.1 o6.1 (by
          rw [ee, List.length_cons, List.length_append] at hA80
          omega) hv
        obtain ⟨x1, y1, k4, k5, k6⟩ := VL_bi (x := wnd p1) rfl rfl m1 (by decide) (LOk_num (b := b) v2).1 t1.1 (by
          rw [List.length_cons, List.length_append, nl, nl]
          omega) k1
        obtain ⟨x3, y3, k7, k8, k9⟩ := VL_bi h3 x2 (em.trans q5) (by decide) oa.1 (LOk_num (b := b) (v := vN (T.2.1 c) - 1) (by omega)).1 (by rw [nl]; omega) k5
        have i1 := ih (i + 1) B6 a1 g6 y k2 F' av ap es1
        rw [VL_num v2] at k4
        rw [VL_num (by omega)] at k8
        cases k4
        cases k8
        rw [subA x3 k7] at k9
        rw [slP_5 ga.1 ga.2.1 ecv q6 es4, i1]
        unfold d2 at k3 k6 k9
        rw [if_neg (by decide), if_neg (by decide), if_pos rfl] at k3 k6
        obtain ⟨n3, n4⟩ := NR_num (vN (T.2.1 c) - 1)
        rw [if_neg (by decide), if_neg (by decide), if_neg (by decide), if_neg (by decide), if_pos rfl, n3, n4, if_neg (by decide)] at k9
        split at k9
        · cases k9
        split at k9
        · cases k9
        rw [if_pos (Int.natCast_nonneg _), Int.natAbs_natCast] at k9
        rw [← Option.some.inj k3, ← Option.some.inj k6, ← Option.some.inj k9, Rat.mul_comm (NR _)]
    rw [if_neg q5] at e1
    rcases Bs with _ | ⟨B0, _ | ⟨B1, _ | ⟨B2, _ | ⟨_, _⟩⟩⟩⟩
    all_goals simp only [List.map_cons, List.map_nil, List.cons.injEq, reduceCtorEq, and_false, and_true, false_and, Option.some.injEq] at e1
    obtain ⟨g0, g1, g2⟩ := e1
    have o1 := dok _ _ a1 g1
    have o2 := dok _ _ c1 g2
    have ee : A = T.2.1 i :: (B1 ++ B2) := by
      rw [e2, ← g0]
      simp only [List.flatten_cons, List.flatten_nil, List.append_nil, List.cons_append, List.nil_append, List.append_assoc]
    rw [ee, List.length_cons, List.length_append] at hA80
    rw [ee] at hv
    obtain ⟨x, y, k1, k2, k3⟩ := VL_bi h3 x2 em (by omega) o1.1 o2.1 (by omega) hv
    have i1 := ih (i + 1) B1 a1 g1 x k1 F' av ap es1
    have i2 := ih c B2 c1 g2 y k2 F' cv cp es2
    have m01 : mz b (T.2.1 i) = 0 ∨ mz b (T.2.1 i) = 1 := by
      rcases ht i hi with z | z | z | z | z
      · exact absurd (Or.inl z) q0
      · exact absurd (Or.inr z) q0
      · omega
      · omega
      · omega
    unfold d2 at k3
    rcases m01 with z | z
    · rw [z] at es4 k3
      rw [if_pos rfl] at k3
      rw [slP_0 ga.2.1 gc.2.1 es4, i1, i2, ← Option.some.inj k3]
    · rw [z] at es4 k3
      rw [if_neg (by decide), if_pos rfl] at k3
      rw [slP_1 ga.2.1 gc.2.1 es4, i1, i2, ← Option.some.inj k3]
end SLV
