/-! derivatives: the reference's nodes -/
section MDX
variable {I : Nat → Nat → Int32} {J : Nat → Nat → Int64} {R : Nat → Nat → Option Nat} {β : Type} {b : GB} {T : Tt} {nm B a : Nat} {o : Option NL}
theorem M_isTold {i : Nat} (hR : RA R) (hA : MT I a T.1 T.2.1 T.2.2) (hB : MTb I b) (hO : TbOK b) (hT : TtO b T) (hi : i < T.1) : (f_X12_isTold (mg 4625 I J R) 4561 (Int32.ofNat (a + i)) = some 1 ∧ told b T i) ∨ (f_X12_isTold (mg 4625 I J R) 4561 (Int32.ofNat (a + i)) = some 0 ∧ ¬ told b T i) := by
  have nv := hT.2 i hi
  have mb := mz_b hO nv
  unfold f_X12_isTold f_X12_isTold_j69 f_X12_isTold_j73 f_X12_isTold_j74
  rw [if_pos ok_4561, M_mi hR hA hi nv hB hO, mk_0 hA hi hR]
  by_cases q0 : (T.2.1 i).1 = 0
  · rw [if_pos q0]
    exact Or.inl ⟨rfl, Or.inl q0⟩
  rw [if_neg q0, mk_0 hA hi hR]
  by_cases q1 : (T.2.1 i).1 = 1
  · rw [if_pos q1]
    exact Or.inl ⟨rfl, Or.inr (Or.inl q1)⟩
  rw [if_neg q1, mk_0 hA hi hR]
  by_cases q3 : (T.2.1 i).1 = 3
  rotate_left
  · rw [if_neg q3]
    refine Or.inr ⟨rfl, fun y => ?_⟩
    have : mz b (T.2.1 i) = 999 := if_neg q3
    rcases y with y | y | y | y | y
    · exact q0 y
    · exact q1 y
    · omega
    · omega
    · omega
  rw [if_pos q3]
  have mne : ∀ k : Nat, k < 200 → mz b (T.2.1 i) ≠ k → ¬ mi (mz b (T.2.1 i)) = (Int32.ofNat (k)) := fun k hk h y => h ((mi_eq (by omega) hk).mp y)
  have le : mz b (T.2.1 i) ≤ 125 := by
    obtain ⟨p, fx, p1, p2, p3, p4, p5, p6, p7, p8⟩ := mg_i hO nv q3
    rcases mb with y | y
    · unfold mz at y ⊢
      rw [if_pos q3] at y ⊢
      omega
    · exact y.2
  by_cases q4 : mz b (T.2.1 i) ≤ 3
  · rw [show f_X12_in (mg 4625 I J R) (mi (mz b (T.2.1 i))) 0 3 = some 1 from m_in1 (by rw [mi_s le]; exact i32_0le (by omega)) (by rw [mi_s le]; exact (i32_le (m := 3) (by omega) (by omega)).mpr q4), Option.bind_some, if_neg (by decide)]
    exact Or.inl ⟨rfl, Or.inr (Or.inr (Or.inr (Or.inl q4)))⟩
  rw [show f_X12_in (mg 4625 I J R) (mi (mz b (T.2.1 i))) 0 3 = some 0 from m_in0 (fun y => q4 (by rw [mi_s le] at y; exact (i32_le (m := 3) (by omega) (by omega)).mp y.2)), Option.bind_some, if_pos rfl]
  by_cases q11 : mz b (T.2.1 i) = 11
  · rw [if_pos (show mi (mz b (T.2.1 i)) = (11 : Int32) from (mi_eq (k := 11) (by omega) (by omega)).mpr q11)]
    exact Or.inl ⟨rfl, Or.inr (Or.inr (Or.inl q11))⟩
  rw [if_neg (show ¬ mi (mz b (T.2.1 i)) = (11 : Int32) from mne 11 (by decide) q11)]
  by_cases q5 : mz b (T.2.1 i) = 5
  · have h2 : aro T.2.1 i = 2 := (mz_two hO nv (by omega)).2
    obtain ⟨-, -, c1, -⟩ := two_kids hT hi h2
    have ch1 : f_X12_child (mg 4625 I J R) 4561 (Int32.ofNat (a + i)) 1 = some (Int32.ofNat (a + kid T.2.2 i 1)) := M_child (k := 1) hR hA hi (by omega)
    have g1 := (hA.1.2 _ c1).1
    have hb := hA.1.1
    rw [if_pos (show mi (mz b (T.2.1 i)) = (5 : Int32) from (mi_eq (k := 5) (by omega) (by omega)).mpr q5), gr_4561_4 hR, if_pos ok_4561, ch1, Option.bind_some, ga_4565 (by omega), g1]
    by_cases q6 : (T.2.1 (kid T.2.2 i 1)).1 = 0
    · rw [if_pos q6]
      exact Or.inl ⟨rfl, Or.inr (Or.inr (Or.inr (Or.inr ⟨q5, q6⟩)))⟩
    · rw [if_neg q6]
      refine Or.inr ⟨rfl, fun y => ?_⟩
      rcases y with y | y | y | y | y
      · exact q0 y
      · exact q1 y
      · exact q11 y
      · exact q4 y
      · exact q6 y.2
  · rw [if_neg (show ¬ mi (mz b (T.2.1 i)) = (5 : Int32) from mne 5 (by decide) q5)]
    refine Or.inr ⟨rfl, fun y => ?_⟩
    rcases y with y | y | y | y | y
    · exact q0 y
    · exact q1 y
    · exact q11 y
    · exact q4 y
    · exact q5 y.1
theorem M_areTold (hR : RA R) (hA : MT I a T.1 T.2.1 T.2.2) (hB : MTb I b) (hO : TbOK b) (hT : TtO b T) : (f_X12_areTold (mg 4625 I J R) 4561 (Int32.ofNat (a)) = some 1 ∧ ∀ i, i < T.1 → told b T i) ∨ (f_X12_areTold (mg 4625 I J R) 4561 (Int32.ofNat (a)) = some 0 ∧ ¬ ∀ i, i < T.1 → told b T i) := by
  have n0 := hT.1.1
  have hb := hA.1.1
  have e0 := hA.2.2 0 n0
  rw [hT.1.2.2.1] at e0
  have e0 : I 4569 a = (Int32.ofNat (T.1)) := e0
  have key : QK (xloop (f_X12_areTold_s4 (mg 4625 I J R)) xF (4561, (Int32.ofNat (a)), 1, (Int32.ofNat (a + 0)))) (fun r => (r = .inr 1 ∧ ∀ i, i < T.1 → told b T i) ∨ (r = .inr 0 ∧ ¬ ∀ i, i < T.1 → told b T i)) := by
    refine q_for T.1 (fun i s => (s = (4561, (Int32.ofNat (a)), 1, (Int32.ofNat (a + i))) ∧ ∀ j, j < i → told b T j) ∨ (s = (4561, (Int32.ofNat (a)), 0, (Int32.ofNat (a + i))) ∧ ¬ ∀ j, j < T.1 → told b T j)) ?_ ?_ (i := 0) (Or.inl ⟨rfl, fun j hj => absurd hj (Nat.not_lt_zero _)⟩) (by omega) (by unfold xF; omega)
    · rintro i s hi (⟨rfl, hj⟩ | ⟨rfl, hj⟩)
      · unfold f_X12_areTold_s4
        dsimp only
        rw [q_let, q_let, q_let, q_let, gr_4561_8 hR, ga_4569 (by omega), e0, n_add, if_neg (show ¬ (Int32.ofNat (a + T.1)) ≤ (Int32.ofNat (a + i)) from fun y => absurd ((i32_le (by omega) (by omega)).mp y) (by omega)), if_neg (by decide), if_pos ok_4561]
        rcases M_isTold (J := J) hR hA hB hO hT hi with ⟨e, h⟩ | ⟨e, h⟩
        · rw [e, Option.bind_some, if_neg (by decide)]
          unfold f_X12_areTold_j33
          rw [q_let, show (Int32.ofNat (a + i)) + (1 : Int32) = (Int32.ofNat (a + (i + 1))) from n_add (a + i) 1]
          refine q_go (Or.inl ⟨rfl, fun j hj2 => ?_⟩)
          by_cases z : j < i
          · exact hj j z
          · rw [show j = i by omega]
            exact h
        · rw [e, Option.bind_some, if_pos rfl]
          unfold f_X12_areTold_j32 f_X12_areTold_j33
          rw [q_let, show (Int32.ofNat (a + i)) + (1 : Int32) = (Int32.ofNat (a + (i + 1))) from n_add (a + i) 1]
          exact q_go (Or.inr ⟨rfl, fun y => h (y i hi)⟩)
      · unfold f_X12_areTold_s4
        dsimp only
        rw [q_let, q_let, q_let, q_let, gr_4561_8 hR, ga_4569 (by omega), e0, n_add, if_neg (show ¬ (Int32.ofNat (a + T.1)) ≤ (Int32.ofNat (a + i)) from fun y => absurd ((i32_le (by omega) (by omega)).mp y) (by omega)), if_pos rfl]
        unfold f_X12_areTold_j32 f_X12_areTold_j33
        rw [q_let, show (Int32.ofNat (a + i)) + (1 : Int32) = (Int32.ofNat (a + (i + 1))) from n_add (a + i) 1]
        exact q_go (Or.inr ⟨rfl, hj⟩)
    · rintro s (⟨rfl, hj⟩ | ⟨rfl, hj⟩)
      · unfold f_X12_areTold_s4
        dsimp only
        rw [q_let, q_let, q_let, q_let, gr_4561_8 hR, ga_4569 (by omega), e0, n_add, if_pos ((i32_le (by omega) (by omega)).mpr (Nat.le_refl _))]
        exact q_ex (Or.inl ⟨rfl, hj⟩)
      · unfold f_X12_areTold_s4
        dsimp only
        rw [q_let, q_let, q_let, q_let, gr_4561_8 hR, ga_4569 (by omega), e0, n_add, if_pos ((i32_le (by omega) (by omega)).mpr (Nat.le_refl _))]
        exact q_ex (Or.inr ⟨rfl, hj⟩)
  obtain ⟨r, er, hr⟩ := key
  unfold f_X12_areTold f_X12_areTold_j40
  rw [q_let, show (xloop (f_X12_areTold_s4 (mg 4625 I J R)) xF (4561, (Int32.ofNat (a)), 1, (Int32.ofNat (a)))) = some r from er, Option.bind_some]
  rcases hr with ⟨rfl, h⟩ | ⟨rfl, h⟩
  · exact Or.inl ⟨rfl, h⟩
  · exact Or.inr ⟨rfl, h⟩
/-- a derivative that is told -/
def DvM (I : Nat → Nat → Int32) (j : Nat) (o : Option NL) : Prop := match o with
  | none => I 4616 j = -1
  | some A => I 4616 j = (Int32.ofNat (A.length)) ∧ A.length ≤ 80 ∧ MT I (13740 + 80 * j) A.length (nlN A) (spL A)
theorem DvM_keep {I' : Nat → Nat → Int32} {j : Nat} (h : DvM I j o) (e : ∀ x k, (x = 4616 ∧ k = j) ∨ (4565 ≤ x ∧ x ≤ 4569 ∧ 13740 + 80 * j ≤ k ∧ k < 13740 + 80 * j + 80) → I' x k = I x k) : DvM I' j o := by
  cases o with
  | none => exact (e 4616 j (Or.inl ⟨rfl, rfl⟩)).trans h
  | some A =>
    obtain ⟨h1, h2, h3⟩ := h
    exact ⟨(e 4616 j (Or.inl ⟨rfl, rfl⟩)).trans h1, h2, MT_keep h3 (fun x k g1 g2 g3 g4 => e x k (Or.inr ⟨g1, g2, g3, by omega⟩))⟩
theorem M_addWm {m : Nat} (hR : RA R) (hm : MkM I B o) (hB : B + 80 ≤ 20300) : QK (f_X12_add (mg 4625 I J R) 4561 3 (lbW (lbF b m)) 2 2) (ApM J R B (adM o (wnF b m)) I) := by
  have := M_addN (k := 3) (w := lbW (lbF b m)) (f := 2) (c := 2) (p := wnF b m) (J := J) hR hm hB (by decide) (by
    unfold wnF
    cases e : lbF b m with
    | none => exact Or.inl ⟨rfl, rfl, rfl⟩
    | some p =>
      have p16 := (lbF_ok e).1
      have := (sgc_rng p p16).2
      exact Or.inr ⟨fun y => absurd (show (0 : Int32) ≤ (Int32.ofNat (sgc p)) from i32_0le (by omega)) (by rw [show (Int32.ofNat (sgc p)) = (-1 : Int32) from y.2]; decide), rfl⟩)
  exact this
theorem M_addNm {v : Nat} (hR : RA R) (hm : MkM I B o) (hB : B + 80 ≤ 20300) : QK (f_X12_add (mg 4625 I J R) 4561 0 (Int32.ofNat (v)) (-1) 0) (ApM J R B (adM o (some (numL v))) I) :=
  M_addN (k := 0) (w := (Int32.ofNat (v))) (f := -1) (c := 0) (p := some (numL v)) hR hm hB (by decide) (Or.inr ⟨fun y => absurd y.1 (by decide), rfl⟩)
theorem M_addNd {i : Nat} {z : Int32} {c : Nat} (hR : RA R) (hm : MkM I B o) (hB : B + 80 ≤ 20300) (hT : TtO b T) (hi : i < T.1) (h3 : (T.2.1 i).1 = 3) (hz : (T.2.1 i).2.2.1 = z) (hc : (T.2.1 i).2.2.2 = c) : QK (f_X12_add (mg 4625 I J R) 4561 3 (T.2.1 i).2.1 z (Int32.ofNat (c))) (ApM J R B (adM o (some [T.2.1 i])) I) := by
  have nv := hT.2 i hi
  obtain ⟨v1, v2, v3, v4, -⟩ := NV_v nv
  rw [hc] at v4
  refine M_addN hR hm hB v4 (Or.inr ⟨fun y => ?_, ?_⟩)
  · have y := y.2
    rw [v1] at y
    have := i32_0le (k := vN (T.2.1 i)) (by omega)
    rw [y] at this
    exact absurd this (by decide)
  · rw [← h3, ← hz, ← hc]
theorem M_addTr {j : Nat} (hR : RA R) (hm : MkM I B o) (hB : B + 80 ≤ 20300) (hA : MT I a T.1 T.2.1 T.2.2) (hj : j < T.1) (h80 : T.1 ≤ 80) (ha : a + T.1 ≤ B) : QK (f_X12_addTree (mg 4625 I J R) 4561 (Int32.ofNat (a + j))) (ApM J R B (adM o (some (subL T j))) I) := by
  have hb := hA.1.1
  have s1 := hA.2.1.2.2.2 j hj
  have e0 := hA.2.2 j hj
  unfold f_X12_addTree
  rw [gr_4561_8 hR, ga_4569 (by omega), e0, if_pos ok_4561]
  have := M_addNs (J := J) (fr := a + j) (A := subL T j) hR hm hB ⟨by rw [subL_len]; omega, fun i hi => by
    rw [subL_len] at hi
    rw [subL_at hi, Nat.add_assoc]
    exact hA.1.2 (j + i) (by omega)⟩ (by rw [subL_len]; omega) (by rw [subL_len]; omega)
  rw [subL_len] at this
  refine q_bind this ?_
  rintro _ ⟨I1, rfl, f1, m1⟩
  exact q_ok ⟨I1, rfl, f1, m1⟩
theorem M_addDv {j : Nat} {p : Option NL} (hR : RA R) (hm : MkM I B o) (hB : B + 80 ≤ 20300) (hj : j < 80) (hD : DvM I j p) (hd : B + 80 ≤ 13740 + 80 * j) : QK (f_X12_addDerived (mg 4625 I J R) 4561 (Int32.ofNat (a + j)) (Int32.ofNat (a))) (ApM J R B (adM o p) I) := by
  unfold f_X12_addDerived
  have es : (Int32.ofNat (a + j)) - (Int32.ofNat (a)) = (Int32.ofNat (j)) := by rw [n_sub (by omega), Nat.add_sub_cancel_left]
  rw [es, gr_4561_73 hR, ga_4616 (by omega), show (80 : Int32) * (Int32.ofNat (j)) = (Int32.ofNat (80 * j)) from n_mul 80 j, show (13740 : Int32) + (Int32.ofNat (80 * j)) = (Int32.ofNat (13740 + 80 * j)) from n_add 13740 _, if_pos ok_4561]
  cases p with
  | none =>
    have hD : I 4616 j = -1 := hD
    rw [hD]
    refine q_bind (M_addNo hm) ?_
    rintro _ ⟨I1, rfl, f1, m1⟩
    exact q_ok ⟨I1, rfl, f1, m1⟩
  | some A =>
    obtain ⟨h1, h2, h3⟩ := hD
    rw [h1]
    refine q_bind (M_addNs hR hm hB h3.1 h2 (Or.inr hd)) ?_
    rintro _ ⟨I1, rfl, f1, m1⟩
    exact q_ok ⟨I1, rfl, f1, m1⟩
theorem am_end {X : Option xM} {p : Option NL} (h1 : QK X (ApM J R B (adM o p) I)) : QK (X.bind fun σ => f_X12_deriveTwo_j334 σ) (ApM J R B (foM o [p]) I) := by
  refine q_bind h1 ?_
  rintro _ ⟨I1, rfl, f1, m1⟩
  exact q_ok ⟨I1, rfl, f1, by rw [foM_c, foM_nil]; exact m1⟩
theorem M_deriveTwo {i : Nat} {D : Nat → Option NL} (hR : RA R) (hm : MkM I (13740 + 80 * i) o) (hA : MT I a T.1 T.2.1 T.2.2) (hTb : MTb I b) (hO : TbOK b) (hT : TtO b T) (hi : i < T.1) (h80 : T.1 ≤ 80) (ha : a + T.1 ≤ 13740) (h01 : ¬ ((T.2.1 i).1 = 0 ∨ (T.2.1 i).1 = 1)) (hz : mz b (T.2.1 i) ≤ 3 ∨ mz b (T.2.1 i) = 5) (hD0 : DvM I (i + 1) (D (i + 1))) (hD1 : DvM I (kid T.2.2 i 1) (D (kid T.2.2 i 1))) : QK (f_X12_deriveTwo (mg 4625 I J R) 4561 (Int32.ofNat (a + i)) (Int32.ofNat (a)) (mi (mz b (T.2.1 i)))) (ApM J R (13740 + 80 * i) (foM o (dpc b T nm D i)) I) := by
  have nv := hT.2 i hi
  have hb := hA.1.1
  obtain ⟨k3, h2⟩ := mz_two hO nv (by omega)
  have h2 : aro T.2.1 i = 2 := h2
  obtain ⟨f0, a1, c1, c2, c3, c4, c5, c6⟩ := two_kids hT hi h2
  have ch1 : f_X12_child (mg 4625 I J R) 4561 (Int32.ofNat (a + i)) 1 = some (Int32.ofNat (a + kid T.2.2 i 1)) := M_child (k := 1) hR hA hi (by omega)
  have fx2 : (T.2.1 i).2.2.1 = 2 := by
    rcases nv with y | y | y | ⟨-, p, fx, p1, p2, p3, p4, p5, p6⟩
    · exact absurd (k3.symm.trans y.1) (by decide)
    · exact absurd (k3.symm.trans y.1) (by decide)
    · exact absurd (k3.symm.trans y.1) (by decide)
    · have h2 : (T.2.1 i).2.2.2 = 2 := h2
      rw [p5] at h2
      by_cases q : fx = 2
      · rw [p4, q]
        rfl
      · rw [if_neg q] at h2
        omega
  unfold f_X12_deriveTwo
  rw [q_let, if_pos ok_4561, ch1, Option.bind_some, mk_1 hA hi hR, show (Int32.ofNat (a + i)) + (1 : Int32) = (Int32.ofNat (a + (i + 1))) from n_add (a + i) 1]
  unfold dpc
  dsimp only
  rw [if_neg h01, if_neg (show ¬ mz b (T.2.1 i) = 11 by omega)]
  have g5 : (T.2.1 (kid T.2.2 i 1)).2.1 = (Int32.ofNat (vN (T.2.1 (kid T.2.2 i 1)))) ∧ vN (T.2.1 (kid T.2.2 i 1)) ≤ 999999999 := by
    obtain ⟨w1, w2, -⟩ := NV_v (hT.2 _ c1)
    exact ⟨w1, w2⟩
  obtain ⟨w1, w2⟩ := g5
  generalize kid T.2.2 i 1 = c at *
  have hB : 13740 + 80 * i + 80 ≤ 20300 := by omega
  have mne : ∀ k : Nat, k < 200 → mz b (T.2.1 i) ≠ k → ¬ mi (mz b (T.2.1 i)) = (Int32.ofNat (k)) := fun k hk h y => h ((mi_eq (by omega) hk).mp y)
  have meq : ∀ k : Nat, k < 200 → mz b (T.2.1 i) = k → mi (mz b (T.2.1 i)) = (Int32.ofNat (k)) := fun k hk h => (mi_eq (by omega) hk).mpr h
  have kA : ∀ I1 : Nat → Nat → Int32, FrK (Sd (13740 + 80 * i)) I I1 → MT I1 a T.1 T.2.1 T.2.2 := fun I1 f1 => MT_keep hA (fun x k g1 g2 g3 g4 => f1 x k (by unfold Sd Sm; omega))
  have kB : ∀ I1 : Nat → Nat → Int32, FrK (Sd (13740 + 80 * i)) I I1 → MTb I1 b := fun I1 f1 => MTb_keep hTb (fun x k g => f1 x k (by unfold Sd Sm; omega))
  have k0 : ∀ I1 : Nat → Nat → Int32, FrK (Sd (13740 + 80 * i)) I I1 → DvM I1 (i + 1) (D (i + 1)) := fun I1 f1 => DvM_keep hD0 (fun x k g => f1 x k (by unfold Sd Sm; omega))
  have k1 : ∀ I1 : Nat → Nat → Int32, FrK (Sd (13740 + 80 * i)) I I1 → DvM I1 c (D c) := fun I1 f1 => DvM_keep hD1 (fun x k g => f1 x k (by unfold Sd Sm; omega))
  have nd : ∀ (I1 : Nat → Nat → Int32) (o1 : Option NL), MkM I1 (13740 + 80 * i) o1 → QK (f_X12_add (mg 4625 I1 J R) 4561 3 (T.2.1 i).2.1 2 2) (ApM J R (13740 + 80 * i) (adM o1 (some [T.2.1 i])) I1) := fun I1 o1 m1 => M_addNd (c := 2) hR m1 hB hT hi k3 fx2 h2
  have da : ∀ (I1 : Nat → Nat → Int32) (o1 : Option NL), FrK (Sd (13740 + 80 * i)) I I1 → MkM I1 (13740 + 80 * i) o1 → QK (f_X12_addDerived (mg 4625 I1 J R) 4561 (Int32.ofNat (a + (i + 1))) (Int32.ofNat (a))) (ApM J R (13740 + 80 * i) (adM o1 (D (i + 1))) I1) := fun I1 o1 f1 m1 => M_addDv hR m1 hB (by omega) (k0 I1 f1) (by omega)
  have dc : ∀ (I1 : Nat → Nat → Int32) (o1 : Option NL), FrK (Sd (13740 + 80 * i)) I I1 → MkM I1 (13740 + 80 * i) o1 → QK (f_X12_addDerived (mg 4625 I1 J R) 4561 (Int32.ofNat (a + c)) (Int32.ofNat (a))) (ApM J R (13740 + 80 * i) (adM o1 (D c)) I1) := fun I1 o1 f1 m1 => M_addDv hR m1 hB (by omega) (k1 I1 f1) (by omega)
  have ta : ∀ (I1 : Nat → Nat → Int32) (o1 : Option NL), FrK (Sd (13740 + 80 * i)) I I1 → MkM I1 (13740 + 80 * i) o1 → QK (f_X12_addTree (mg 4625 I1 J R) 4561 (Int32.ofNat (a + (i + 1)))) (ApM J R (13740 + 80 * i) (adM o1 (some (subL T (i + 1)))) I1) := fun I1 o1 f1 m1 => M_addTr hR m1 hB (kA I1 f1) a1 h80 (by omega)
  have tc : ∀ (I1 : Nat → Nat → Int32) (o1 : Option NL), FrK (Sd (13740 + 80 * i)) I I1 → MkM I1 (13740 + 80 * i) o1 → QK (f_X12_addTree (mg 4625 I1 J R) 4561 (Int32.ofNat (a + c))) (ApM J R (13740 + 80 * i) (adM o1 (some (subL T c))) I1) := fun I1 o1 f1 m1 => M_addTr hR m1 hB (kA I1 f1) c1 h80 (by omega)
  have sg : ∀ (m : Nat) (I1 : Nat → Nat → Int32), m < 200 → FrK (Sd (13740 + 80 * i)) I I1 → f_X12_signBetween (mg 4625 I1 J R) 4561 (Int32.ofNat (m)) = some (lbW (lbF b m)) := fun m I1 hm f1 => M_signBetween hR (kB I1 f1) hO hm
  have wn : ∀ (m : Nat) (I1 : Nat → Nat → Int32) (o1 : Option NL), MkM I1 (13740 + 80 * i) o1 → QK (f_X12_add (mg 4625 I1 J R) 4561 3 (lbW (lbF b m)) 2 2) (ApM J R (13740 + 80 * i) (adM o1 (wnF b m)) I1) := fun m I1 o1 m1 => M_addWm hR m1 hB
  have nu : ∀ (v : Nat) (I1 : Nat → Nat → Int32) (o1 : Option NL), MkM I1 (13740 + 80 * i) o1 → QK (f_X12_add (mg 4625 I1 J R) 4561 0 (Int32.ofNat (v)) (-1) 0) (ApM J R (13740 + 80 * i) (adM o1 (some (numL v))) I1) := fun v I1 o1 m1 => M_addNm hR m1 hB
  by_cases q2 : mz b (T.2.1 i) = 2
  · rw [if_pos q2, if_pos (show mi (mz b (T.2.1 i)) = (2 : Int32) from meq 2 (by decide) q2), if_pos ok_4561, show f_X12_signBetween (mg 4625 I J R) 4561 0 = some (lbW (lbF b 0)) from sg 0 I (by decide) FrK_rfl, Option.bind_some, if_pos ok_4561]
    refine am_seq (wn 0 I o hm) (fun I1 f1 m1 => ?_)
    rw [if_pos ok_4561]
    refine am_seq (nd I1 _ m1) (fun I2 f2 m2 => ?_)
    have f2 := FrK_tr f1 f2
    rw [if_pos ok_4561]
    refine am_seq (da I2 _ f2 m2) (fun I3 f3 m3 => ?_)
    have f3 := FrK_tr f2 f3
    rw [if_pos ok_4561]
    refine am_seq (tc I3 _ f3 m3) (fun I4 f4 m4 => ?_)
    have f4 := FrK_tr f3 f4
    rw [if_pos ok_4561]
    refine am_seq (nd I4 _ m4) (fun I5 f5 m5 => ?_)
    have f5 := FrK_tr f4 f5
    rw [if_pos ok_4561]
    refine am_seq (ta I5 _ f5 m5) (fun I6 f6 m6 => ?_)
    have f6 := FrK_tr f5 f6
    rw [if_pos ok_4561]
    exact am_end (dc I6 _ f6 m6)
  rw [if_neg q2, if_neg (show ¬ mi (mz b (T.2.1 i)) = (2 : Int32) from mne 2 (by decide) q2)]
  by_cases q3 : mz b (T.2.1 i) = 3
  · rw [if_pos q3, if_pos (show mi (mz b (T.2.1 i)) = (3 : Int32) from meq 3 (by decide) q3), if_pos ok_4561]
    refine am_seq (nd I o hm) (fun I1 f1 m1 => ?_)
    rw [if_pos ok_4561, show f_X12_signBetween (mg 4625 I1 J R) 4561 1 = some (lbW (lbF b 1)) from sg 1 I1 (by decide) f1, Option.bind_some, if_pos ok_4561]
    refine am_seq (wn 1 I1 _ m1) (fun I2 f2 m2 => ?_)
    have f2 := FrK_tr f1 f2
    rw [if_pos ok_4561, show f_X12_signBetween (mg 4625 I2 J R) 4561 2 = some (lbW (lbF b 2)) from sg 2 I2 (by decide) f2, Option.bind_some, if_pos ok_4561]
    refine am_seq (wn 2 I2 _ m2) (fun I3 f3 m3 => ?_)
    have f3 := FrK_tr f2 f3
    rw [if_pos ok_4561]
    refine am_seq (da I3 _ f3 m3) (fun I4 f4 m4 => ?_)
    have f4 := FrK_tr f3 f4
    rw [if_pos ok_4561]
    refine am_seq (tc I4 _ f4 m4) (fun I5 f5 m5 => ?_)
    have f5 := FrK_tr f4 f5
    rw [if_pos ok_4561, show f_X12_signBetween (mg 4625 I5 J R) 4561 2 = some (lbW (lbF b 2)) from sg 2 I5 (by decide) f5, Option.bind_some, if_pos ok_4561]
    refine am_seq (wn 2 I5 _ m5) (fun I6 f6 m6 => ?_)
    have f6 := FrK_tr f5 f6
    rw [if_pos ok_4561]
    refine am_seq (ta I6 _ f6 m6) (fun I7 f7 m7 => ?_)
    have f7 := FrK_tr f6 f7
    rw [if_pos ok_4561]
    refine am_seq (dc I7 _ f7 m7) (fun I8 f8 m8 => ?_)
    have f8 := FrK_tr f7 f8
    rw [if_pos ok_4561, show f_X12_signBetween (mg 4625 I8 J R) 4561 5 = some (lbW (lbF b 5)) from sg 5 I8 (by decide) f8, Option.bind_some, if_pos ok_4561]
    refine am_seq (wn 5 I8 _ m8) (fun I9 f9 m9 => ?_)
    have f9 := FrK_tr f8 f9
    rw [if_pos ok_4561]
    refine am_seq (tc I9 _ f9 m9) (fun I10 f10 m10 => ?_)
    rw [if_pos ok_4561]
    exact am_end (nu 2 I10 _ m10)
  rw [if_neg q3, if_neg (show ¬ mi (mz b (T.2.1 i)) = (3 : Int32) from mne 3 (by decide) q3), if_neg (show ¬ mi (mz b (T.2.1 i)) = (4 : Int32) from mne 4 (by decide) (by omega))]
  by_cases q5 : mz b (T.2.1 i) = 5
  · have gw : ∀ I1 : Nat → Nat → Int32, FrK (Sd (13740 + 80 * i)) I I1 → I1 4566 (a + c) = (Int32.ofNat (vN (T.2.1 c))) := fun I1 f1 => ((kA I1 f1).1.2 c c1).2.1.trans w1
    rw [if_pos q5, if_pos (show mi (mz b (T.2.1 i)) = (5 : Int32) from meq 5 (by decide) q5), gr_4561_5 hR, ga_4566 (by omega), gw I FrK_rfl]
    by_cases q6 : vN (T.2.1 c) = 0
    · rw [if_pos q6, if_pos (show (Int32.ofNat (vN (T.2.1 c))) = (0 : Int32) by rw [q6]; rfl), if_pos ok_4561]
      exact am_end (nu 0 I o hm)
    · rw [if_neg q6, if_neg (show ¬ (Int32.ofNat (vN (T.2.1 c))) = (0 : Int32) from i32_ne (b := 0) (by omega) (by omega) q6), if_pos ok_4561, show f_X12_signBetween (mg 4625 I J R) 4561 2 = some (lbW (lbF b 2)) from sg 2 I (by decide) FrK_rfl, Option.bind_some, if_pos ok_4561]
      refine am_seq (wn 2 I o hm) (fun I1 f1 m1 => ?_)
      rw [if_pos ok_4561, show f_X12_signBetween (mg 4625 I1 J R) 4561 2 = some (lbW (lbF b 2)) from sg 2 I1 (by decide) f1, Option.bind_some, if_pos ok_4561]
      refine am_seq (wn 2 I1 _ m1) (fun I2 f2 m2 => ?_)
      have f2 := FrK_tr f1 f2
      rw [gr_4561_5 hR, ga_4566 (by omega), gw I2 f2, if_pos ok_4561]
      refine am_seq (nu _ I2 _ m2) (fun I3 f3 m3 => ?_)
      have f3 := FrK_tr f2 f3
      rw [if_pos ok_4561]
      refine am_seq (nd I3 _ m3) (fun I4 f4 m4 => ?_)
      have f4 := FrK_tr f3 f4
      rw [if_pos ok_4561]
      refine am_seq (ta I4 _ f4 m4) (fun I5 f5 m5 => ?_)
      have f5 := FrK_tr f4 f5
      rw [gr_4561_5 hR, ga_4566 (by omega), gw I5 f5, if_pos ok_4561, show (Int32.ofNat (vN (T.2.1 c))) - (1 : Int32) = (Int32.ofNat (vN (T.2.1 c) - 1)) from n_sub (b := 1) (by omega)]
      refine am_seq (nu _ I5 _ m5) (fun I6 f6 m6 => ?_)
      have f6 := FrK_tr f5 f6
      rw [if_pos ok_4561]
      exact am_end (da I6 _ f6 m6)
  rw [if_neg q5, if_neg (show ¬ mi (mz b (T.2.1 i)) = (5 : Int32) from mne 5 (by decide) q5)]
  unfold f_X12_deriveTwo_j311
  rw [if_pos ok_4561]
  refine am_seq (nd I o hm) (fun I1 f1 m1 => ?_)
  rw [if_pos ok_4561]
  refine am_seq (da I1 _ f1 m1) (fun I2 f2 m2 => ?_)
  have f2 := FrK_tr f1 f2
  rw [if_pos ok_4561]
  exact am_end (dc I2 _ f2 m2)
end MDX
