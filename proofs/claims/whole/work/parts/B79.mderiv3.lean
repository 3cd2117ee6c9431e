/-! derivatives: the reference's whole -/
section MDZ
variable {I : Nat → Nat → Int32} {J : Nat → Nat → Int64} {R : Nat → Nat → Option Nat} {β : Type} {b : GB} {T : Tt} {nm a : Nat}
def Fd2 : Nat → Nat → Prop := fun x k => Sm 13740 20140 x k ∨ (x = 4561 ∧ (k = 74 ∨ k = 75)) ∨ x = 4616
def Fdv : Nat → Nat → Prop := fun x k => Sm 13740 20140 x k ∨ (x = 4561 ∧ (k = 74 ∨ k = 75)) ∨ x = 4616 ∨ x = 4574
def PDv (J : Nat → Nat → Int64) (R : Nat → Nat → Option Nat) (b : GB) (T : Tt) (nm a : Nat) (I : Nat → Nat → Int32) (q : Nat) (s : Nat × Int32 × Int32 × Int32 × Int32 × xM) : Prop := ∃ I', s = (4561, (Int32.ofNat (a)), (Int32.ofNat (nm)), (Int32.ofNat (T.1)), (Int32.ofNat (q)), mg 4625 I' J R) ∧ FrK Fd2 I I' ∧ ∀ j, j < T.1 → pl T.2.2 j < q → DvM I' j (dvF b T nm 200 j)
theorem M_dvEnd {Q : (Int32 × xM) ⊕ (Nat × xM) → Prop} {q i : Nat} {I1 I2 : Nat → Nat → Int32} (hR : RA R) (hO : TbOK b) (hT : TtO b T) (h80 : T.1 ≤ 80) (ht : ∀ i, i < T.1 → told b T i) (hi : i < T.1) (hq : pl T.2.2 i = q) (hd : ∀ j, j < T.1 → pl T.2.2 j < q → DvM I1 j (dvF b T nm 200 j)) (f1 : FrK Fd2 I I1) (f2 : FrK (fun x k => Sd (13740 + 80 * i) x k ∨ (x = 4561 ∧ k = 74)) I1 I2) (hm : MkM I2 (13740 + 80 * i) (dvF b T nm 200 i)) : QK (f_X12_derives_j158 (mg 4625 I2 J R) 4561 (Int32.ofNat (a)) (Int32.ofNat (nm)) (Int32.ofNat (T.1)) (Int32.ofNat (q)) (Int32.ofNat (a + i))) (qS (PDv J R b T nm a I (q + 1)) Q) := by
  have fin : ∀ I3 : Nat → Nat → Int32, FrK Fd2 I I3 → (∀ j, j < T.1 → pl T.2.2 j < q → DvM I3 j (dvF b T nm 200 j)) → DvM I3 i (dvF b T nm 200 i) → QK (f_X12_derives_j190 (mg 4625 I3 J R) 4561 (Int32.ofNat (a)) (Int32.ofNat (nm)) (Int32.ofNat (T.1)) (Int32.ofNat (q))) (qS (PDv J R b T nm a I (q + 1)) Q) := fun I3 f3 d3 e3 => by
    unfold f_X12_derives_j190
    rw [q_let, show (Int32.ofNat (q)) + (1 : Int32) = (Int32.ofNat (q + 1)) from n_add q 1]
    refine q_go ⟨I3, rfl, f3, fun j hj hj2 => ?_⟩
    by_cases z : pl T.2.2 j < q
    · exact d3 j hj z
    · rw [pl_inj hT.1 hj hi (by omega)]
      exact e3
  have es : (Int32.ofNat (a + i)) - (Int32.ofNat (a)) = (Int32.ofNat (i)) := by rw [n_sub (by omega), Nat.add_sub_cancel_left]
  have f12 : FrK Fd2 I I2 := fun x k y => by
    have y2 := y
    unfold Fd2 Sm at y
    rw [f2 x k (by unfold Sd Sm; omega)]
    exact f1 x k y2
  have ne : ∀ j, j < T.1 → pl T.2.2 j < q → j ≠ i := fun j hj h e => by
    rw [e] at h
    omega
  unfold f_X12_derives_j158
  rw [gr_4561_73 hR, gi_4561, es, gw_4616 (by omega), gi_4561, up_n (by omega)]
  cases e : dvF b T nm 200 i with
  | none =>
    rw [e] at hm
    have h2 : I2 4561 75 = -1 := hm.2
    rw [h2, if_pos (by decide)]
    refine fin _ (FrK_up f12 (by unfold Fd2; omega)) (fun j hj hj2 => DvM_keep (hd j hj hj2) (fun x k g => ?_)) ?_
    · have := ne j hj hj2
      rw [up_n (by omega), f2 x k (by unfold Sd Sm; omega)]
    · rw [e]
      exact up_s
  | some A =>
    rw [e] at hm
    obtain ⟨h1, h2, h3, h4⟩ := hm
    obtain ⟨o1, o2⟩ := dvF_ok hO hT h80 ht 200 i A hi e
    have hb := h4.1
    rw [h2, if_neg (show ¬ (Int32.ofNat (A.length)) ≤ (0 : Int32) from fun y => absurd ((i32_le (m := 0) (by omega) (by omega)).mp y) (by omega)), gi_4561, up_n (by omega), h1, gi_4561, up_n (by omega), h2, if_pos ok_4561]
    have mn : MN (up I2 4616 i (Int32.ofNat (A.length))) (13740 + 80 * i) A.length (nlN A) := ⟨hb, fun j hj => by
      rw [up_n (by omega), up_n (by omega), up_n (by omega), up_n (by omega)]
      exact h4.2 j hj⟩
    refine q_bind (M_span hR mn (spL_WT o1.1)) ?_
    rintro _ ⟨I3, rfl, f3, m3⟩
    refine fin I3 (fun x k y => ?_) (fun j hj hj2 => DvM_keep (hd j hj hj2) (fun x k g => ?_)) ?_
    · have y2 := y
      unfold Fd2 Sm at y
      rw [f3 x k (by omega), up_n (by omega)]
      exact f12 x k y2
    · have := ne j hj hj2
      rw [f3 x k (by omega), up_n (by omega), f2 x k (by unfold Sd Sm; omega)]
    · rw [e]
      exact ⟨by rw [f3 _ _ (by omega), up_s], h3, m3⟩
theorem M_dvStep {Q : (Int32 × xM) ⊕ (Nat × xM) → Prop} {q : Nat} {s : Nat × Int32 × Int32 × Int32 × Int32 × xM} (hR : RA R) (hA : MT I a T.1 T.2.1 T.2.2) (hTb : MTb I b) (hO : TbOK b) (hT : TtO b T) (h80 : T.1 ≤ 80) (ha : a + T.1 ≤ 13740) (hnm : nm < 128) (ht : ∀ i, i < T.1 → told b T i) (hod : Od I a T.1 T.2.2) (hq : q < T.1) (hP : PDv J R b T nm a I q s) : QK (f_X12_derives_s19 s) (qS (PDv J R b T nm a I (q + 1)) Q) := by
  obtain ⟨I1, rfl, f1, hd⟩ := hP
  obtain ⟨i, hi, ei⟩ := pl_sur hT.1 hq
  have es : (Int32.ofNat (a + i)) - (Int32.ofNat (a)) = (Int32.ofNat (i)) := by rw [n_sub (by omega), Nat.add_sub_cancel_left]
  have eo : I1 4574 q = (Int32.ofNat (a + i)) := by
    rw [f1 _ _ (by unfold Fd2 Sm; omega), ← ei]
    exact hod i hi
  have A1 : MT I1 a T.1 T.2.1 T.2.2 := MT_keep hA (fun x k g1 g2 g3 g4 => f1 x k (by unfold Fd2 Sm; omega))
  have B1 : MTb I1 b := MTb_keep hTb (fun x k g => f1 x k (by unfold Fd2 Sm; omega))
  have hb := hA.1.1
  have sle := (hT.1.2.2.2 i hi).2.1
  have nv := hT.2 i hi
  obtain ⟨v1, v2, v3, v4, -⟩ := NV_v nv
  obtain ⟨y1, y2, y3, y4, y5⟩ := A1.1.2 i hi
  unfold f_X12_derives_s19
  dsimp only
  rw [q_let, q_let, q_let, q_let, q_let, q_let, if_neg (show ¬ (Int32.ofNat (T.1)) ≤ (Int32.ofNat (q)) from fun y => absurd ((i32_le (by omega) (by omega)).mp y) (by omega)), gr_4561_14 hR, ga_4574 (by omega), eo, es, show (80 : Int32) * (Int32.ofNat (i)) = (Int32.ofNat (80 * i)) from n_mul 80 i, show (13740 : Int32) + (Int32.ofNat (80 * i)) = (Int32.ofNat (13740 + 80 * i)) from n_add 13740 _, gs_4561, gs_4561]
  have f12 : FrK (fun x k => Sd (13740 + 80 * i) x k ∨ (x = 4561 ∧ k = 74)) I1 (up (up I1 4561 74 (Int32.ofNat (13740 + 80 * i))) 4561 75 0) := FrK_up (FrK_up FrK_rfl (by omega)) (by unfold Sd; omega)
  have m2 : MkM (up (up I1 4561 74 (Int32.ofNat (13740 + 80 * i))) 4561 75 0) (13740 + 80 * i) (some []) := ⟨by rw [up_n (by omega), up_s], up_s, by decide, by show 13740 + 80 * i + 0 ≤ 20300; omega, fun j hj => absurd hj (Nat.not_lt_zero _)⟩
  generalize up (up I1 4561 74 (Int32.ofNat (13740 + 80 * i))) 4561 75 0 = I2 at *
  have A2 : MT I2 a T.1 T.2.1 T.2.2 := MT_keep A1 (fun x k g1 g2 g3 g4 => f12 x k (by unfold Sd Sm; omega))
  have B2 : MTb I2 b := MTb_keep B1 (fun x k g => f12 x k (by unfold Sd Sm; omega))
  have kd : ∀ j, i < j → j < i + T.2.2 i → DvM I2 j (dvF b T nm 200 j) := fun j h1 h2 => DvM_keep (hd j (by omega) (by rw [← ei]; exact (pl_inner hT.1 hi h1 h2).1)) (fun x k g => f12 x k (by unfold Sd Sm; omega))
  have eqd : fo [] (dpc b T nm (dvF b T nm 200) i) = dvF b T nm 200 i := dvF_eq hO hT ht 201 200 i hi (by omega) (by omega)
  have fin : ∀ I3 : Nat → Nat → Int32, FrK (Sd (13740 + 80 * i)) I2 I3 → MkM I3 (13740 + 80 * i) (fo [] (dpc b T nm (dvF b T nm 200) i)) → QK (f_X12_derives_j158 (mg 4625 I3 J R) 4561 (Int32.ofNat (a)) (Int32.ofNat (nm)) (Int32.ofNat (T.1)) (Int32.ofNat (q)) (Int32.ofNat (a + i))) (qS (PDv J R b T nm a I (q + 1)) Q) := fun I3 f3 m3 => by
    rw [eqd] at m3
    refine M_dvEnd hR hO hT h80 ht hi ei hd f1 (fun x k y => ?_) m3
    rw [f3 x k (fun z => y (Or.inl z))]
    exact f12 x k y
  have hB : 13740 + 80 * i + 80 ≤ 20300 := by omega
  rw [mk_0 A2 hi hR]
  by_cases q3 : (T.2.1 i).1 = 3
  · have h01 : ¬ ((T.2.1 i).1 = 0 ∨ (T.2.1 i).1 = 1) := fun y => by
      rw [q3] at y
      exact absurd y (by decide)
    have one : mz b (T.2.1 i) = 11 ∨ mz b (T.2.1 i) ≤ 10 := by
      rcases ht i hi with y | y | y | y | y
      · exact absurd (Or.inl y) h01
      · exact absurd (Or.inr y) h01
      · exact Or.inl y
      · exact Or.inr (by omega)
      · exact Or.inr (by omega)
    have m5 : mz b (T.2.1 i) = 11 ∨ mz b (T.2.1 i) ≤ 3 ∨ mz b (T.2.1 i) = 5 := by
      rcases ht i hi with y | y | y | y | y
      · exact absurd (Or.inl y) h01
      · exact absurd (Or.inr y) h01
      · exact Or.inl y
      · exact Or.inr (Or.inl y)
      · exact Or.inr (Or.inr y.1)
    obtain ⟨z1, z2⟩ := mz_ar hO nv h01 one
    rw [if_pos q3, mk_3 A2 hi hR]
    by_cases q11 : mz b (T.2.1 i) = 11
    · have h1 : aro T.2.1 i = 1 := z1 q11
      obtain ⟨a1, a2, a3⟩ := kid_sp hT.1 hi (show 0 < aro T.2.1 i by omega)
      have a1 : i + 1 < T.1 := a1
      have a3 : T.2.2 (i + 1) < T.2.2 i := a3
      have a2 : 1 ≤ T.2.2 (i + 1) := a2
      have ed : dpc b T nm (dvF b T nm 200) i = [some [T.2.1 i], dvF b T nm 200 (i + 1)] := by
        unfold dpc
        dsimp only
        rw [if_neg h01, if_pos q11]
      rw [if_pos (show (Int32.ofNat (aro T.2.1 i)) = (1 : Int32) by rw [h1]; rfl), mk_1 A2 hi hR, mk_2 A2 hi hR, if_pos ok_4561]
      refine q_bind (M_addNd (z := (T.2.1 i).2.2.1) (c := 1) hR m2 hB hT hi q3 rfl h1) ?_
      rintro _ ⟨I3, rfl, f3, m3⟩
      rw [if_pos ok_4561, show (Int32.ofNat (a + i)) + (1 : Int32) = (Int32.ofNat (a + (i + 1))) from n_add (a + i) 1]
      refine q_bind (M_addDv hR m3 hB (by omega) (DvM_keep (kd (i + 1) (by omega) (by omega)) (fun x k g => f3 x k (by unfold Sd Sm; omega))) (by omega)) ?_
      rintro _ ⟨I4, rfl, f4, m4⟩
      refine fin I4 (FrK_tr f3 f4) ?_
      rw [ed]
      have e4 := m4
      rw [← foM_nil (o := adM (adM (some []) (some [T.2.1 i])) (dvF b T nm 200 (i + 1))), ← foM_c, ← foM_c] at e4
      exact e4
    · have h2 : aro T.2.1 i = 2 := z2 (by omega)
      obtain ⟨f0, a1, c1, c2, c3, c4, c5, c6⟩ := two_kids hT hi h2
      rw [if_neg (show ¬ (Int32.ofNat (aro T.2.1 i)) = (1 : Int32) by rw [h2]; decide), if_pos ok_4561, M_mi hR A2 hi nv B2 hO, if_pos ok_4561]
      have k2 := M_deriveTwo (J := J) (nm := nm) (D := dvF b T nm 200) hR m2 A2 B2 hO hT hi h80 ha h01 (by omega) (kd (i + 1) (by omega) (by omega)) (kd _ c3 c4)
      refine q_bind k2 ?_
      rintro _ ⟨I4, rfl, f4, m4⟩
      exact fin I4 f4 m4
  · have h01 : (T.2.1 i).1 = 0 ∨ (T.2.1 i).1 = 1 := by
      have no : mz b (T.2.1 i) = 999 := if_neg q3
      rcases ht i hi with y | y | y | y | y
      · exact Or.inl y
      · exact Or.inr y
      · omega
      · omega
      · omega
    have ed : dpc b T nm (dvF b T nm 200) i = [some (numL (if (T.2.1 i).1 = 1 ∧ vN (T.2.1 i) = nm then 1 else 0))] := by
      unfold dpc
      dsimp only
      rw [if_pos h01]
    have ln : ∀ v : Nat, v = (if (T.2.1 i).1 = 1 ∧ vN (T.2.1 i) = nm then 1 else 0) → QK (f_X12_derives_j94 (mg 4625 I2 J R) 4561 (Int32.ofNat (a)) (Int32.ofNat (nm)) (Int32.ofNat (T.1)) (Int32.ofNat (q)) (Int32.ofNat (a + i)) (Int32.ofNat (v)) 0 4561) (qS (PDv J R b T nm a I (q + 1)) Q) := fun v hv => by
      unfold f_X12_derives_j94
      rw [if_pos ok_4561]
      refine q_bind (M_addNm hR m2 hB) ?_
      rintro _ ⟨I4, rfl, f4, m4⟩
      refine fin I4 f4 ?_
      rw [ed, ← hv]
      have e4 := m4
      rw [← foM_nil (o := adM (some []) (some (numL v))), ← foM_c] at e4
      exact e4
    rw [if_neg q3, mk_0 A2 hi hR]
    unfold f_X12_derives_j93
    by_cases q1 : (T.2.1 i).1 = 1
    · have := v3 (by rw [q1]; decide)
      rw [if_pos q1, mk_1 A2 hi hR, v1]
      by_cases q2 : vN (T.2.1 i) = nm
      · rw [if_pos (show (Int32.ofNat (vN (T.2.1 i))) = (Int32.ofNat (nm)) by rw [q2])]
        exact ln 1 (by rw [if_pos ⟨q1, q2⟩])
      · rw [if_neg (show ¬ (Int32.ofNat (vN (T.2.1 i))) = (Int32.ofNat (nm)) from i32_ne (by omega) (by omega) q2)]
        exact ln 0 (by rw [if_neg (fun y => q2 y.2)])
    · rw [if_neg q1]
      exact ln 0 (by rw [if_neg (fun y => q1 y.1)])
theorem M_derives (hR : RA R) (hA : MT I a T.1 T.2.1 T.2.2) (hTb : MTb I b) (hO : TbOK b) (hT : TtO b T) (h80 : T.1 ≤ 80) (ha : a + T.1 ≤ 13740) (hnm : nm < 128) : QK (f_X12_derives (mg 4625 I J R) 4561 (Int32.ofNat (a)) (Int32.ofNat (nm))) (fun r => ∃ I', FrK Fdv I I' ∧ (((∀ i, i < T.1 → told b T i) ∧ ∃ A, dvF b T nm 200 0 = some A ∧ r = ((Int32.ofNat (A.length)), mg 4625 I' J R) ∧ MT I' 13740 A.length (nlN A) (spL A)) ∨ (¬ ((∀ i, i < T.1 → told b T i) ∧ ∃ A, dvF b T nm 200 0 = some A) ∧ r = (-1, mg 4625 I' J R)))) := by
  have n0 := hT.1.1
  unfold f_X12_derives
  rw [if_pos ok_4561]
  rcases M_areTold (J := J) hR hA hTb hO hT with ⟨e, ht⟩ | ⟨e, ht⟩
  rotate_left
  · rw [e, Option.bind_some, if_pos rfl]
    exact q_ok ⟨I, FrK_rfl, Or.inr ⟨fun y => ht y.1, rfl⟩⟩
  rw [e, Option.bind_some, if_neg (by decide), if_pos ok_4561]
  refine q_bind (M_inOrder hR hA (by omega)) ?_
  rintro _ ⟨I1, rfl, f1, od⟩
  have f1' : FrK Fdv I I1 := fun x k y => by
    rw [f1 x (fun z => y (by unfold Fdv; omega))]
  have A1 : MT I1 a T.1 T.2.1 T.2.2 := MT_keep hA (fun x k g1 g2 g3 g4 => f1' x k (by unfold Fdv Sm; omega))
  have B1 : MTb I1 b := MTb_keep hTb (fun x k g => f1' x k (by unfold Fdv Sm; omega))
  rw [q_let]
  refine q_bind (P := fun r => ∃ I', r = .inr (4561, mg 4625 I' J R) ∧ FrK Fd2 I1 I' ∧ ∀ j, j < T.1 → DvM I' j (dvF b T nm 200 j)) ?_ ?_
  · refine q_for T.1 (fun q s => PDv J R b T nm a I1 q s) ?_ ?_ (i := 0) ⟨I1, rfl, FrK_rfl, fun j hj hj2 => absurd hj2 (Nat.not_lt_zero _)⟩ (by omega) (by unfold xF; omega)
    · intro q s hq hP
      exact M_dvStep hR A1 B1 hO hT h80 ha hnm ht od hq hP
    · rintro s ⟨I2, rfl, f2, d2⟩
      unfold f_X12_derives_s19
      dsimp only
      rw [q_let, q_let, q_let, q_let, q_let, q_let, if_pos ((i32_le (by omega) (by omega)).mpr (Nat.le_refl _))]
      exact q_ex ⟨I2, rfl, f2, fun j hj => d2 j hj (pl_lt hT.1 hj)⟩
  · rintro _ ⟨I2, rfl, f2, d2⟩
    simp only [Sum.elim_inr]
    have f12 : FrK Fdv I I2 := fun x k y => by
      have y2 := y
      unfold Fdv Sm at y
      rw [f2 x k (by unfold Fd2 Sm; omega)]
      exact f1' x k y2
    have d0 := d2 0 n0
    unfold f_X12_derives_j196
    rw [gr_4561_73 hR, show (0 : Int32) = (Int32.ofNat (0)) from rfl, ga_4616 (by omega)]
    cases e0 : dvF b T nm 200 0 with
    | none =>
      rw [e0] at d0
      have d0 : I2 4616 0 = -1 := d0
      rw [d0]
      refine q_ok ⟨I2, f12, Or.inr ⟨?_, rfl⟩⟩
      rintro ⟨-, A, eA⟩
      cases eA
    | some A =>
      rw [e0] at d0
      obtain ⟨h1, h2, h3⟩ := d0
      rw [h1]
      exact q_ok ⟨I2, f12, Or.inl ⟨ht, A, rfl, rfl, h3⟩⟩
end MDZ
