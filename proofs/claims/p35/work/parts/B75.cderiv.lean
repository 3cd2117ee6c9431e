/-! the class's derivatives -/
section CDV
variable {I : Nat → Nat → Int32} {J : Nat → Nat → Int64} {R : Nat → Nat → Option Nat} {β : Type} {a p : Nat} {b : GB} {T : Tt} {L : NL}
theorem isTr_2207 : isTr 2207 := ⟨by decide, by decide, by decide +kernel, by decide +kernel⟩
theorem T_childE {n i k : Nat} {nd : Nat → Nd} {sp : Nat → Nat} (hR : RA R) (h : CT I a n nd sp) (hi : i < n) (hk : k ≤ aro nd i) : ∃ z, f_X9_child (mg (4562 + zn J) I J R) a (Int32.ofNat (i)) (Int32.ofNat (k)) = some z := by
  have ht := h.1.1
  have hn := CT_n h
  have har : aro nd i ≤ 4 := (h.1.2.2.2 i hi).2.2.2.2
  have e7 := h.1.2.1
  have key : QK (xloop (f_X9_child_s7 (mg (4562 + zn J) I J R)) xF (a, (Int32.ofNat (k)), (Int32.ofNat (i + 1)), (0 : Int32))) (fun r => r = .inr (a, (Int32.ofNat (kid sp i k)))) := by
    refine q_for k (fun j s => s = (a, (Int32.ofNat (k)), (Int32.ofNat (kid sp i j)), (Int32.ofNat (j)))) ?_ ?_ (i := 0) rfl (by omega) (by unfold xF; omega)
    · rintro j s hj rfl
      obtain ⟨g1, g2, g3⟩ := kid_in h.2.1 hi (show j < aro nd i by omega)
      have e5 := (h.2.2 _ g2).1
      unfold f_X9_child_s7 xlet
      dsimp only
      conv => arg 1; simp (disch := omega) only [↓reduceIte, ↓q_let, ↓q_xz1, ↓q_xz0, ↓lg_cmp_ge, ↓lg_cmp_le, ↓lg_cmp_gt, ↓lg_cmp_lt, n_lit, j_lit, n_add, n_mul, n_sub, n_dec, Nat.add_sub_cancel, n_leT, n_leF, n_ltT, n_ltF, n_eqT, n_eqF, n_in, n_cl, n_m31, j_m63, j_of32, j_32, i64_add, i64_mul, jn_sub, j_leT, j_leF, j_ltT, j_ltF, j_eqF, jn_and30, jn_sar30, jn_shor, Int32.neg_neg, and_true, true_and, and_self, ↓bT_gI ht, e7, ↓bT_g4 ht hR, ↓bT_aI ht, e5]
      exact q_go rfl
    · rintro s rfl
      unfold f_X9_child_s7 xlet
      dsimp only
      rw [if_pos ((i32_le (by omega) (by omega)).mpr (Nat.le_refl _))]
      exact q_ex rfl
  obtain ⟨r, er, rfl⟩ := key
  unfold f_X9_child f_X9_child_j36
  rw [q_let, q_let, show (Int32.ofNat (i)) + 1 = (Int32.ofNat (i + 1)) from n_add i 1, er, Option.bind_some, Sum.elim_inr, bT_gI ht]
  exact ⟨_, rfl⟩
/-- the list of nodes that is being made -/
def MkC (I : Nat → Nat → Int32) (L : NL) : Prop := CN I 2207 L.length (nlN L)
def ApC (J : Nat → Nat → Int64) (R : Nat → Nat → Option Nat) (o : Option NL) (L : NL) (I : Nat → Nat → Int32) (r : Int32 × xM) : Prop := ∃ I', FrS (St 2207) I I' ∧ ((∃ L', adO L o = some L' ∧ r = (1, mg (4562 + zn J) I' J R) ∧ MkC I' L') ∨ (adO L o = none ∧ r = (0, mg (4562 + zn J) I' J R)))
def ApF (J : Nat → Nat → Int64) (R : Nat → Nat → Option Nat) (ps : List (Option NL)) (L : NL) (I : Nat → Nat → Int32) (r : Int32 × xM) : Prop := ∃ I', FrS (St 2207) I I' ∧ ((∃ L', fo L ps = some L' ∧ r = (1, mg (4562 + zn J) I' J R) ∧ MkC I' L') ∨ (fo L ps = none ∧ r = (0, mg (4562 + zn J) I' J R)))
theorem adO_len {o : Option NL} {L' : NL} (h : adO L o = some L') (h80 : L.length ≤ 80) : L'.length ≤ 80 := by
  unfold adO at h
  cases o with
  | none => cases h
  | some A =>
    dsimp only at h
    split at h
    · next q =>
      rw [← Option.some.inj h, List.length_append]
      exact q
    · cases h
theorem ap_seq {o : Option NL} {ps : List (Option NL)} {X : Option (Int32 × xM)} {K : Int32 × xM → Option (Int32 × xM)} (h80 : L.length ≤ 80) (h1 : QK X (ApC J R o L I)) (hz : ∀ I', K (0, mg (4562 + zn J) I' J R) = some (0, mg (4562 + zn J) I' J R)) (hk : ∀ I' L', FrS (St 2207) I I' → L'.length ≤ 80 → MkC I' L' → QK (K (1, mg (4562 + zn J) I' J R)) (ApF J R ps L' I')) : QK (X.bind K) (ApF J R (o :: ps) L I) := by
  refine q_bind h1 ?_
  rintro r ⟨I1, f1, ⟨L', e1, rfl, m1⟩ | ⟨e1, rfl⟩⟩
  · obtain ⟨r2, e2, I2, f2, h2⟩ := hk I1 L' f1 (adO_len e1 h80) m1
    refine ⟨r2, e2, I2, FrS_tr f1 f2, ?_⟩
    rw [fo_c, e1]
    exact h2
  · refine ⟨_, hz I1, I1, f1, Or.inr ⟨?_, rfl⟩⟩
    rw [fo_c, e1]
theorem ap_end {r : Int32 × xM} (h : r = (1, mg (4562 + zn J) I J R)) (hm : MkC I L) : ApF J R [] L I r := ⟨I, FrS_rfl, Or.inl ⟨L, rfl, h, hm⟩⟩
theorem ap_fo {ps : List (Option NL)} {X : Option (Int32 × xM)} (h80 : L.length ≤ 80) (h : QK X (ApF J R ps L I)) : QK X (ApC J R (fo [] ps) L I) := by
  obtain ⟨r, e, I1, f1, h2⟩ := h
  rw [fo_0 ps L h80] at h2
  exact ⟨r, e, I1, f1, h2⟩
theorem ext_nl {x : Nd} {i : Nat} (h : i < L.length + 1) : ext (nlN L) L.length x i = nlN (L ++ [x]) i := by
  unfold ext
  by_cases q : i = L.length
  · rw [if_pos q, q, show L.length = L.length + 0 from rfl, nlN_r]
    rfl
  · rw [if_neg q, nlN_l (by omega)]
/-- a node is added -/
theorem C_add1 {k v f : Int32} {r : Nat} (hR : RA R) (hm : MkC I L) (hr : r ≤ 4) : QK (f_X9_add (mg (4562 + zn J) I J R) 2207 k v f (Int32.ofNat (r))) (ApC J R (some [(k, v, f, r)]) L I) := by
  have h80 := hm.2.2.1
  by_cases q : L.length < 80
  · obtain ⟨s, e, I1, rfl, f1, c1⟩ := T_add (J := J) (k := k) (v := v) (f := f) hR hm q hr
    refine ⟨_, e, I1, fun x hx => f1 x (fun y => hx (by unfold St; omega)), Or.inl ⟨L ++ [(k, v, f, r)], if_pos (by show L.length + 1 ≤ 80; omega), rfl, ?_⟩⟩
    have : (L ++ [(k, v, f, r)]).length = L.length + 1 := by rw [List.length_append]; rfl
    unfold MkC
    rw [this]
    exact CN_congr c1 (fun i hi => ext_nl hi)
  · have e80 : L.length = 80 := by omega
    have hm' : CN I 2207 80 (nlN L) := by
      have : CN I 2207 L.length (nlN L) := hm
      rw [e80] at this
      exact this
    rw [T_addFull hm']
    exact q_ok ⟨I, FrS_rfl, Or.inr ⟨if_neg (by show ¬ L.length + 1 ≤ 80; omega), rfl⟩⟩
theorem C_addNd {i : Nat} (hR : RA R) (hm : MkC I L) (hA : CT I a T.1 T.2.1 T.2.2) (hi : i < T.1) : QK (f_X9_addNode (mg (4562 + zn J) I J R) 2207 a (Int32.ofNat (i))) (ApC J R (some [T.2.1 i]) L I) := by
  have h80 := hm.2.2.1
  by_cases q : L.length < 80
  · obtain ⟨s, e, I1, rfl, f1, c1⟩ := T_addNode (J := J) hR hm hA.1 hi q
    refine ⟨_, e, I1, fun x hx => f1 x (fun y => hx (by unfold St; omega)), Or.inl ⟨L ++ [T.2.1 i], if_pos (by show L.length + 1 ≤ 80; omega), rfl, ?_⟩⟩
    have : (L ++ [T.2.1 i]).length = L.length + 1 := by rw [List.length_append]; rfl
    unfold MkC
    rw [this]
    exact CN_congr c1 (fun i hi => ext_nl hi)
  · have e80 : L.length = 80 := by omega
    have hm' : CN I 2207 80 (nlN L) := by
      have : CN I 2207 L.length (nlN L) := hm
      rw [e80] at this
      exact this
    rw [T_addNodeFull hR hm' hA.1 hi]
    exact q_ok ⟨I, FrS_rfl, Or.inr ⟨if_neg (by show ¬ L.length + 1 ≤ 80; omega), rfl⟩⟩
theorem C_addPt {i : Nat} (hR : RA R) (hm : MkC I L) (hA : CT I a T.1 T.2.1 T.2.2) (hi : i < T.1) (ha : a ≠ 2207) : QK (f_X9_addPart (mg (4562 + zn J) I J R) 2207 a (Int32.ofNat (i))) (ApC J R (some (subL T i)) L I) := by
  refine ⟨_, (T_addPart (J := J) hR hm hA hi (Ne.symm ha)).choose_spec.1, ?_⟩
  rcases (T_addPart (J := J) hR hm hA hi (Ne.symm ha)).choose_spec.2 with ⟨l1, I1, e1, f1, c1⟩ | ⟨l1, I1, e1, f1⟩
  · refine ⟨I1, fun x hx => f1 x (fun y => hx (by unfold St; omega)), Or.inl ⟨L ++ subL T i, if_pos (by rw [subL_len]; exact l1), e1, ?_⟩⟩
    unfold MkC
    rw [List.length_append, subL_len]
    refine CN_congr c1 (fun j hj => ?_)
    unfold app
    by_cases q : j < L.length
    · rw [if_pos q, nlN_l q]
    · rw [if_neg q, show j = L.length + (j - L.length) by omega, nlN_r, subL_at (by omega), Nat.add_sub_cancel_left]
  · exact ⟨I1, fun x hx => f1 x (fun y => hx (by unfold St; omega)), Or.inr ⟨if_neg (by rw [subL_len]; omega), e1⟩⟩
theorem C_addNum {v : Nat} (hR : RA R) (hm : MkC I L) : QK (f_X7_addNumber (mg (4562 + zn J) I J R) 2206 (Int32.ofNat (v))) (ApC J R (some (numL v)) L I) := by
  unfold f_X7_addNumber
  rw [gr_2206_2 hR, if_pos (bT_xk isTr_2207)]
  refine q_bind (C_add1 (r := 0) hR hm (by omega)) ?_
  rintro r ⟨I1, f1, ⟨L', e1, rfl, m1⟩ | ⟨e1, rfl⟩⟩
  · exact q_ok ⟨I1, f1, Or.inl ⟨L', e1, rfl, m1⟩⟩
  · exact q_ok ⟨I1, f1, Or.inr ⟨e1, rfl⟩⟩
theorem xCh_p : ∀ p, p < 16 → xCh (Int32.ofNat (p)) = some (Int32.ofNat (sgc p)) := by decide +kernel
theorem C_leastWith {m : Nat} (hR : RA R) (hB : CTb I b) (hO : TbOK b) (hm : m < 200) : f_X1_leastWith (mg (4562 + zn J) I J R) 11 (Int32.ofNat (m)) = some (match lbF b m with
    | none => -1
    | some p => (Int32.ofNat (sgc p))) := by
  have rk : ∀ p, p < 16 → ((b (32 + p)).1 ≤ 0 ↔ (b (32 + p)).1 = 0) := fun p hp => by
    rcases hO.1 p 2 hp (by first | decide | omega) with y | y
    · rw [show 2 * 16 + p = 32 + p by omega] at y
      rw [y]
      decide
    · rw [show 2 * 16 + p = 32 + p by omega] at y
      have y1 := y.1
      constructor
      · intro z
        exact absurd (Int32.le_trans y1.1 z) (by first | decide | omega)
      · intro z
        rw [z]
        decide
  have key : QK (xloop (f_X1_leastWith_s2 (mg (4562 + zn J) I J R)) xF (11, (Int32.ofNat (m)), 0)) (fun r => (∃ p, lbF b m = some p ∧ p < 16 ∧ r = .inr (.inl (Int32.ofNat (p)))) ∨ (lbF b m = none ∧ r = .inr (.inr ()))) := by
    refine q_for 16 (fun q s => s = (11, (Int32.ofNat (m)), (Int32.ofNat (q))) ∧ ∀ j, j < q → ¬ ((b (32 + j)).1 ≠ 0 ∧ (b (32 + j)).2.2 = (Int32.ofNat (m)))) ?_ ?_ (i := 0) ⟨rfl, fun j hj => absurd hj (Nat.not_lt_zero _)⟩ (by omega) (by unfold xF; omega)
    · rintro q s hq ⟨rfl, hj⟩
      have e := hB.2 (32 + q) (by omega)
      have e1 : I 13 (32 + q) = (b (32 + q)).1 := congrArg (fun q => q.1) e
      have e2 : I 15 (32 + q) = (b (32 + q)).2.2 := congrArg (fun q => q.2.2) e
      have nx : ¬ ((b (32 + q)).1 ≠ 0 ∧ (b (32 + q)).2.2 = (Int32.ofNat (m))) → QK (f_X1_leastWith_j39 (mg (4562 + zn J) I J R) 11 (Int32.ofNat (m)) (Int32.ofNat (q))) (qS (fun s => s = (11, (Int32.ofNat (m)), (Int32.ofNat (q + 1))) ∧ ∀ j, j < q + 1 → ¬ ((b (32 + j)).1 ≠ 0 ∧ (b (32 + j)).2.2 = (Int32.ofNat (m)))) (fun r => (∃ p, lbF b m = some p ∧ p < 16 ∧ r = .inr (.inl (Int32.ofNat (p)))) ∨ (lbF b m = none ∧ r = .inr (.inr ())))) := fun nq => by
        unfold f_X1_leastWith_j39
        rw [q_let, show (Int32.ofNat (q)) + (1 : Int32) = (Int32.ofNat (q + 1)) from n_add q 1]
        refine q_go ⟨rfl, fun j hj2 => ?_⟩
        by_cases z : j < q
        · exact hj j z
        · rw [show j = q by omega]
          exact nq
      unfold f_X1_leastWith_s2
      dsimp only
      rw [q_let, q_let, q_let, if_neg (show ¬ (16 : Int32) ≤ (Int32.ofNat (q)) from fun y => absurd ((i32_le (k := 16) (by omega) (by omega)).mp y) (by omega)), q_let, gr_11_1 hR, show (32 : Int32) + (Int32.ofNat (q)) = (Int32.ofNat (32 + q)) from n_add 32 q, ga_13 (by omega), e1]
      by_cases z1 : (b (32 + q)).1 = 0
      · rw [if_pos ((rk q hq).mpr z1)]
        exact nx (fun y => y.1 z1)
      rw [if_neg (fun y => z1 ((rk q hq).mp y)), gr_11_3 hR, ga_15 (by omega), e2]
      by_cases z2 : (b (32 + q)).2.2 = (Int32.ofNat (m))
      · rw [if_pos z2]
        refine q_ex (Or.inl ⟨q, ?_, hq, rfl⟩)
        unfold lbF
        rw [List.find?_range_eq_some]
        refine ⟨by rw [decide_eq_true_eq]; exact ⟨z1, z2⟩, List.mem_range.mpr hq, fun j hjq => ?_⟩
        rw [Bool.not_eq_true', decide_eq_false_iff_not]
        exact hj j hjq
      · rw [if_neg z2]
        exact nx (fun y => z2 y.2)
    · rintro s ⟨rfl, hj⟩
      unfold f_X1_leastWith_s2
      dsimp only
      rw [q_let, q_let, q_let, if_pos (by first | decide | omega)]
      refine q_ex (Or.inr ⟨?_, rfl⟩)
      unfold lbF
      rw [List.find?_range_eq_none]
      intro j hj2
      rw [Bool.not_eq_true', decide_eq_false_iff_not]
      exact hj j hj2
  obtain ⟨r, er, hr⟩ := key
  unfold f_X1_leastWith f_X1_leastWith_j32 f_X1_leastWith_j45
  rw [q_let, er, Option.bind_some]
  rcases hr with ⟨p, e1, hp, rfl⟩ | ⟨e1, rfl⟩
  · rw [e1]
    simp only [Sum.elim_inr, Sum.elim_inl]
    rw [xCh_p p hp]
    rfl
  · rw [e1]
    rfl
theorem C_addWn {m i : Nat} (hR : RA R) (hB : CTb I b) (hO : TbOK b) (hm : MkC I L) (hA : CT I a T.1 T.2.1 T.2.2) (hT : TtO b T) (hi : i < T.1) (hmm : m < 200) : QK (f_X7_addWanted (mg (4562 + zn J) I J R) 2206 (Int32.ofNat (m)) a (Int32.ofNat (i))) (ApC J R (if mz b (T.2.1 i) = m then some [T.2.1 i] else wnF b m) L I) := by
  have mb := mz_b hO (hT.2 i hi)
  unfold f_X7_addWanted f_X7_addWanted_j55 f_X7_addWanted_j56
  rw [if_pos ok_2206, C_meaningOf hR hA hi (hT.2 i hi) hB hO]
  by_cases q : mz b (T.2.1 i) = m
  · rw [if_pos (show mi (mz b (T.2.1 i)) = (Int32.ofNat (m)) from (mi_eq (by omega) hmm).mpr q), if_pos q, gr_2206_2 hR, if_pos (bT_xk isTr_2207)]
    refine q_bind (C_addNd hR hm hA hi) ?_
    rintro r ⟨I1, f1, ⟨L', e1, rfl, m1⟩ | ⟨e1, rfl⟩⟩
    · exact q_ok ⟨I1, f1, Or.inl ⟨L', e1, rfl, m1⟩⟩
    · exact q_ok ⟨I1, f1, Or.inr ⟨e1, rfl⟩⟩
  · rw [if_neg (show ¬ mi (mz b (T.2.1 i)) = (Int32.ofNat (m)) from fun y => q ((mi_eq (by omega) hmm).mp y)), if_neg q, gr_2206_0 hR, if_pos ok_11, C_leastWith hR hB hO hmm, Option.bind_some]
    unfold wnF
    cases e : lbF b m with
    | none =>
      dsimp only
      rw [if_pos rfl]
      exact q_ok ⟨I, FrS_rfl, Or.inr ⟨rfl, rfl⟩⟩
    | some p =>
      obtain ⟨g1, -, -⟩ := lbF_ok e
      have sg := (sgc_ok p g1).1
      dsimp only
      rw [if_neg (i32_m1 (by omega)), gr_2206_2 hR, if_pos (bT_xk isTr_2207)]
      refine q_bind (C_add1 (r := 2) hR hm (by omega)) ?_
      rintro r ⟨I1, f1, ⟨L', e1, rfl, m1⟩ | ⟨e1, rfl⟩⟩
      · rw [if_neg (show ¬ (1 : Int32) = 0 by decide)]
        exact q_ok ⟨I1, f1, Or.inl ⟨L', e1, rfl, m1⟩⟩
      · rw [if_pos rfl]
        exact q_ok ⟨I1, f1, Or.inr ⟨e1, rfl⟩⟩
end CDV
