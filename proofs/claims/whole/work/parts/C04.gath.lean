/-! gathering a tree as a polynomial, and the class's nodes -/
def gaT (m : Nat) (y : Nd) (p q : Po) : Option Po :=
  if m = 0 then chk (sgP 1 p q)
  else if m = 1 then chk (sgP (-1) p q)
  else if m = 2 then (if dgP p + dgP q ≤ 8 then chk (mulP q p) else none)
  else if m = 3 then (if dgP q = 0 ∧ q 0 ≠ 0 then chk (sclP p (q 0)) else none)
  else (if y.1 = 0 ∧ vN y ≤ 8 ∧ dgP p * vN y ≤ 8 then chk (powP p (vN y)) else none)
def gaN (b : GB) (n : GN) (nm : Nat) (T : Tt) (D : Nat → Option Po) (i : Nat) : Option Po :=
  if (T.2.1 i).1 ≠ 3 then (if aro T.2.1 i = 0 then lfP n nm (T.2.1 i) else none)
  else if mz b (T.2.1 i) = 11 then match D (i + 1) with
    | none => none
    | some p => some (negP p)
  else if mz b (T.2.1 i) ≤ 3 ∨ mz b (T.2.1 i) = 5 then match D (i + 1) with
    | none => none
    | some p => match D (kid T.2.2 i 1) with
      | none => none
      | some q => gaT (mz b (T.2.1 i)) (T.2.1 (kid T.2.2 i 1)) p q
  else none
def gaF (b : GB) (n : GN) (nm : Nat) (T : Tt) : Nat → Nat → Option Po
  | 0, _ => none
  | F + 1, i => gaN b n nm T (gaF b n nm T F) i
theorem chk_s {S p : Po} (h : chk S = some p) : p = S ∧ FitA S := by
  unfold chk at h
  by_cases z : FitA S
  · rw [if_pos z] at h
    exact ⟨(Option.some.inj h).symm, z⟩
  · rw [if_neg z] at h
    cases h
theorem chk_y {S : Po} (h : FitA S) : chk S = some S := if_pos h
theorem chk_n {S : Po} (h : ¬ FitA S) : chk S = none := if_neg h
theorem lfP_K {n : GN} {nm : Nat} {x : Nd} {b : GB} {p : Po} (hx : NV b x) (hg : ∀ l, l < 26 → Gd (n.2 l)) (h : lfP n nm x = some p) : PoK p := by
  obtain ⟨v1, v2, v3, -⟩ := NV_v hx
  unfold lfP at h
  by_cases q0 : x.1 = 0
  · rw [if_pos q0] at h
    rw [← Option.some.inj h]
    exact con_PoK (Gd_gv (v := ((vN x : Int), 1)) (Gd_n (Nat.lt_of_le_of_lt v2 (by decide)))).2
  rw [if_neg q0] at h
  by_cases q1 : x.1 = 1
  · rw [if_pos q1] at h
    by_cases qn : vN x = nm
    · rw [if_pos qn] at h
      rw [← Option.some.inj h]
      exact id_PoK
    rw [if_neg qn] at h
    by_cases qk : n.1 (vN x - 97) = 0
    · rw [if_pos qk] at h
      cases h
    rw [if_neg qk] at h
    rw [← Option.some.inj h]
    obtain ⟨l, l1, l2⟩ : ∃ l, l < 26 ∧ vN x = 97 + l := by
      rcases hx with y | y | y | y
      · exact absurd y.1 q0
      · obtain ⟨-, ⟨l, l1, l2⟩, -⟩ := y
        have := v3 q0
        exact ⟨l, l1, (i32_eq (by omega) (by omega)).mp (v1.symm.trans l2)⟩
      · exact absurd (q1.symm.trans y.1) (by decide)
      · exact absurd (q1.symm.trans y.1) (by decide)
    exact con_PoK (Gd_gv (hg _ (by omega))).2
  · rw [if_neg q1] at h
    cases h
theorem neg_K {p : Po} (h : PoK p) : PoK (negP p) := ⟨fun i hi => Fit_neg (h.1 i hi), fun i hi => by
  show - p i = 0
  rw [h.2 i hi]
  rfl⟩
theorem gaT_K {m : Nat} {y : Nd} {p q S : Po} (kp : PoK p) (kq : PoK q) (h : gaT m y p q = some S) : PoK S := by
  have sg : ∀ s' : Int, ∀ i, 9 ≤ i → sgP s' p q i = 0 := fun s' i hi => by
    unfold sgP
    rw [kp.2 i hi, kq.2 i hi]
    split
    · exact Rat.add_zero 0
    · exact Rat.sub_self
  unfold gaT at h
  by_cases c0 : m = 0
  · rw [if_pos c0] at h
    obtain ⟨rfl, f⟩ := chk_s h
    exact ⟨f, sg 1⟩
  rw [if_neg c0] at h
  by_cases c1 : m = 1
  · rw [if_pos c1] at h
    obtain ⟨rfl, f⟩ := chk_s h
    exact ⟨f, sg (-1)⟩
  rw [if_neg c1] at h
  by_cases c2 : m = 2
  · rw [if_pos c2] at h
    by_cases d : dgP p + dgP q ≤ 8
    · rw [if_pos d] at h
      obtain ⟨rfl, f⟩ := chk_s h
      exact ⟨f, fun i hi => (mulP_hi (PoK_hi kq) (PoK_hi kp)).1 i (by omega)⟩
    · rw [if_neg d] at h
      cases h
  rw [if_neg c2] at h
  by_cases c3 : m = 3
  · rw [if_pos c3] at h
    by_cases d : dgP q = 0 ∧ q 0 ≠ 0
    · rw [if_pos d] at h
      obtain ⟨rfl, f⟩ := chk_s h
      exact ⟨f, fun i hi => (sclP_0 d.2 i).mpr (kp.2 i hi)⟩
    · rw [if_neg d] at h
      cases h
  rw [if_neg c3] at h
  by_cases d : y.1 = 0 ∧ vN y ≤ 8 ∧ dgP p * vN y ≤ 8
  · rw [if_pos d] at h
    obtain ⟨rfl, f⟩ := chk_s h
    exact ⟨f, fun i hi => (powP_hi (PoK_hi kp) (vN y)).1 i (by omega)⟩
  · rw [if_neg d] at h
    cases h
theorem gaF_K {b : GB} {n : GN} {nm : Nat} {T : Tt} (hT : TtO b T) (hO : TbOK b) (hg : ∀ l, l < 26 → Gd (n.2 l)) : ∀ F i p, i < T.1 → gaF b n nm T F i = some p → PoK p := by
  intro F
  induction F with
  | zero => intro i p _ h; cases h
  | succ F ih =>
    intro i p hi h
    have nv := hT.2 i hi
    have h : gaN b n nm T (gaF b n nm T F) i = some p := h
    unfold gaN at h
    by_cases k3 : (T.2.1 i).1 ≠ 3
    · rw [if_pos k3] at h
      by_cases a0 : aro T.2.1 i = 0
      · rw [if_pos a0] at h
        exact lfP_K nv hg h
      · rw [if_neg a0] at h
        cases h
    rw [if_neg k3] at h
    have k3 : (T.2.1 i).1 = 3 := Classical.byContradiction k3
    by_cases q11 : mz b (T.2.1 i) = 11
    · rw [if_pos q11] at h
      have h1 : aro T.2.1 i = 1 := (mz_one hO nv (by omega) (by omega)).2
      obtain ⟨a1, -⟩ := kid_sp hT.1 hi (show 0 < aro T.2.1 i by omega)
      cases e : gaF b n nm T F (i + 1) with
      | none => rw [e] at h; cases h
      | some q =>
        rw [e] at h
        have h : some (negP q) = some p := h
        rw [← Option.some.inj h]
        exact neg_K (ih _ _ a1 e)
    rw [if_neg q11] at h
    by_cases q5 : mz b (T.2.1 i) ≤ 3 ∨ mz b (T.2.1 i) = 5
    · rw [if_pos q5] at h
      have h2 : aro T.2.1 i = 2 := (mz_two hO nv (by omega)).2
      obtain ⟨f0, a1, c1, -⟩ := two_kids hT hi h2
      cases e : gaF b n nm T F (i + 1) with
      | none => rw [e] at h; cases h
      | some u =>
        rw [e] at h
        cases e2 : gaF b n nm T F (kid T.2.2 i 1) with
        | none => dsimp only at h; rw [e2] at h; cases h
        | some w =>
          dsimp only at h
          rw [e2] at h
          exact gaT_K (ih _ _ a1 e) (ih _ _ c1 e2) h
    · rw [if_neg q5] at h
      cases h
section CGN
variable {I : Nat → Nat → Int32} {J : Nat → Nat → Int64} {R : Nat → Nat → Option Nat} {β : Type} {a h nm i : Nat} {b : GB} {n : GN} {T : Tt}
/-- what adding a node leaves -/
def GnS (I : Nat → Nat → Int32) (J : Nat → Nat → Int64) (R : Nat → Nat → Option Nat) (h : Nat) (o : Option Po) (y : Int32 × xM) : Prop := ∃ I', FrK (Fgc h) I I' ∧ ((∃ p, o = some p ∧ y = (1, mg 4625 I' J R) ∧ CRow I' h p ∧ I' 2215 4 = (Int32.ofNat (h + 1))) ∨ (o = none ∧ y = (0, mg 4625 I' J R)))
theorem C_gaOp (hR : RA R) (hB : CTb I b) (hO : TbOK b) (hA : CTT I a T) (ha : 10 ≤ a ∧ a + 8 ≤ 567) (hT : TtO b T) (hi : i < T.1) (k3 : (T.2.1 i).1 = 3) {H : Nat} {p q : Po} (h4 : I 2215 4 = (Int32.ofNat (H))) (hH : H < 1000)
    (hk : (mz b (T.2.1 i) = 11 ∧ H = h + 1 ∧ h < 48 ∧ CRow I h p) ∨ ((mz b (T.2.1 i) ≤ 3 ∨ mz b (T.2.1 i) = 5) ∧ H = h + 2 ∧ h + 1 < 48 ∧ CRow I h p ∧ CRow I (h + 1) q ∧ PoK p ∧ PoK q) ∨ (mz b (T.2.1 i) ≠ 11 ∧ ¬ (mz b (T.2.1 i) ≤ 3 ∨ mz b (T.2.1 i) = 5))) : QK (f_X3_addNode (mg 4625 I J R) 2215 a (Int32.ofNat (i)) (Int32.ofNat (nm))) (fun y => (mz b (T.2.1 i) = 11 ∧ GnS I J R h (some (negP p)) y) ∨ ((mz b (T.2.1 i) ≤ 3 ∨ mz b (T.2.1 i) = 5) ∧ GnS I J R h (gaT (mz b (T.2.1 i)) (T.2.1 (kid T.2.2 i 1)) p q) y) ∨ (mz b (T.2.1 i) ≠ 11 ∧ ¬ (mz b (T.2.1 i) ≤ 3 ∨ mz b (T.2.1 i) = 5) ∧ y = (0, mg 4625 I J R))) := by
  have ta := hA.1.1
  have nn80 := (CT_n hA).2
  have nv := hT.2 i hi
  obtain ⟨w1, w2, w3, w4, w5⟩ := hA.1.2.2.2 i hi
  obtain ⟨pp, fx, p1, p2, p3, p4, p5, p6, p7, p8⟩ := mg_i hO nv k3
  have em : mgN b (T.2.1 i) = mz b (T.2.1 i) := by
    unfold mz
    rw [if_pos k3]
  have lit : ∀ k : Nat, k ≤ 13 → ((Int32.ofNat (mz b (T.2.1 i))) = (Int32.ofNat (k)) ↔ mz b (T.2.1 i) = k) := fun k hk => i32_eq (by omega) (by omega)
  unfold f_X3_addNode
  rw [bT_g0 ta hR, bT_aI ta (by omega), w1, if_pos k3, gr_2215_0 hR, bT_g1 ta hR, bT_aI ta (by omega), w2, bT_g2 ta hR, bT_aI ta (by omega), w3, if_pos ok_11, p3, p4, C_meaning hR hB p1 (by omega) p6 p7, em]
  rcases hk with ⟨q11, rfl, hh, hp⟩ | ⟨q5, rfl, hh, hp, hq, kp, kq⟩ | ⟨q11, q5⟩
  · rw [if_pos (show (Int32.ofNat (mz b (T.2.1 i))) = (11 : Int32) from (lit 11 (by decide)).mpr q11), gi_2215, h4, if_pos ok_2215, show (Int32.ofNat (h + 1)) - (1 : Int32) = (Int32.ofNat (h)) from n_sub (b := 1) (by omega)]
    refine q_bind (C_negateRow hR hh hp) ?_
    rintro _ ⟨I1, f1, rfl, c1⟩
    exact q_ok (Or.inl ⟨q11, I1, Fga_Fgc f1, Or.inl ⟨_, rfl, rfl, c1, by rw [f1 2215 4 (by unfold Fga; omega)]; exact h4⟩⟩)
  · obtain ⟨-, h2⟩ := mz_two hO nv (show mz b (T.2.1 i) ≤ 10 by omega)
    have h2 : aro T.2.1 i = 2 := h2
    obtain ⟨-, -, cl, -⟩ := two_kids hT hi h2
    rw [if_neg (show ¬ (Int32.ofNat (mz b (T.2.1 i))) = (11 : Int32) from fun y => absurd ((lit 11 (by decide)).mp y) (by omega)), gi_2215, h4, show (Int32.ofNat (h + 2)) - (2 : Int32) = (Int32.ofNat (h)) from n_sub (b := 2) (by omega), q_let, if_neg (i32_nlt0 (by omega)), if_neg (i32_nlt0 (by omega)), if_neg (show ¬ (5 : Int32) < (Int32.ofNat (mz b (T.2.1 i))) from fun y => absurd ((i32_lt (k := 5) (by omega) (by omega)).mp y) (by omega)), if_neg (show ¬ (Int32.ofNat (mz b (T.2.1 i))) = (4 : Int32) from fun y => absurd ((lit 4 (by decide)).mp y) (by omega)), gi_2215, h4, show (Int32.ofNat (h + 2)) - (1 : Int32) = (Int32.ofNat (h + 1)) from n_sub (b := 1) (by omega), gs_2215]
    have f0 : FrK (Fgc h) I (up I 2215 4 (Int32.ofNat (h + 1))) := FrK_up FrK_rfl (Or.inr ⟨rfl, rfl⟩)
    have P1 : CRow (up I 2215 4 (Int32.ofNat (h + 1))) h p := ⟨fun j hj => FU_keep (hp.1 j hj) (fun x g1 g2 => up_r (by omega)), by rw [up_n (by omega)]; exact hp.2⟩
    have Q1 : CRow (up I 2215 4 (Int32.ofNat (h + 1))) (h + 1) q := ⟨fun j hj => FU_keep (hq.1 j hj) (fun x g1 g2 => up_r (by omega)), by rw [up_n (by omega)]; exact hq.2⟩
    have A1 : CTT (up I 2215 4 (Int32.ofNat (h + 1))) a T := by
      unfold CTT
      exact CT_keep hA (fun x g1 g2 => up_r (by omega))
    have t1 : up I 2215 4 (Int32.ofNat (h + 1)) 2215 4 = (Int32.ofNat (h + 1)) := up_s
    generalize up I 2215 4 (Int32.ofNat (h + 1)) = I1 at *
    -- the end of each
    have fin : ∀ {I2 : Nat → Nat → Int32} {u : Int32} {S : Po} {c : Prop}, FrK (Fga h) I1 I2 → ((c ∧ FitA S ∧ u = 1 ∧ CRow I2 h S) ∨ (¬ (c ∧ FitA S) ∧ u = 0)) → gaT (mz b (T.2.1 i)) (T.2.1 (kid T.2.2 i 1)) p q = (@ite _ c (Classical.propDecidable _) (chk S) none) → GnS I J R h (gaT (mz b (T.2.1 i)) (T.2.1 (kid T.2.2 i 1)) p q) (u, mg 4625 I2 J R) := fun {I2 u S c} f hu eg => by
      rw [eg]
      refine ⟨I2, FrK_tr f0 (Fga_Fgc f), ?_⟩
      rcases hu with ⟨hc, fa, rfl, cr⟩ | ⟨nf, rfl⟩
      · rw [@if_pos _ (Classical.propDecidable _) hc, chk_y fa]
        exact Or.inl ⟨S, rfl, rfl, cr, by rw [f 2215 4 (by unfold Fga; omega)]; exact t1⟩
      · right
        refine ⟨?_, rfl⟩
        by_cases hc : c
        · rw [@if_pos _ (Classical.propDecidable _) hc]
          exact chk_n (fun y => nf ⟨hc, y⟩)
        · rw [@if_neg _ (Classical.propDecidable _) hc]
    have out : ∀ {y : Int32 × xM}, GnS I J R h (gaT (mz b (T.2.1 i)) (T.2.1 (kid T.2.2 i 1)) p q) y → ((mz b (T.2.1 i) = 11 ∧ GnS I J R h (some (negP p)) y) ∨ ((mz b (T.2.1 i) ≤ 3 ∨ mz b (T.2.1 i) = 5) ∧ GnS I J R h (gaT (mz b (T.2.1 i)) (T.2.1 (kid T.2.2 i 1)) p q) y) ∨ (mz b (T.2.1 i) ≠ 11 ∧ ¬ (mz b (T.2.1 i) ≤ 3 ∨ mz b (T.2.1 i) = 5) ∧ y = (0, mg 4625 I J R))) := fun hy => Or.inr (Or.inl ⟨q5, hy⟩)
    by_cases c0 : mz b (T.2.1 i) = 0
    · have eg : gaT (mz b (T.2.1 i)) (T.2.1 (kid T.2.2 i 1)) p q = (@ite _ True (Classical.propDecidable _) (chk (sgP 1 p q)) none) := by
        rw [@if_pos _ (Classical.propDecidable _) trivial]
        exact if_pos c0
      rw [if_pos (show (Int32.ofNat (mz b (T.2.1 i))) = (0 : Int32) from (lit 0 (by decide)).mpr c0), if_pos ok_2215]
      refine q_bind (C_addRows (m := 0) (s' := 1) hR hh P1 Q1 kp.1 kq.1 (Or.inl ⟨rfl, rfl⟩)) ?_
      rintro _ ⟨I2, f2, ⟨fa, rfl, cr⟩ | ⟨fa, rfl⟩⟩
      · exact q_ok (out (fin f2 (Or.inl ⟨trivial, fa, rfl, cr⟩) eg))
      · exact q_ok (out (fin f2 (Or.inr ⟨fun y => fa y.2, rfl⟩) eg))
    rw [if_neg (show ¬ (Int32.ofNat (mz b (T.2.1 i))) = (0 : Int32) from fun y => c0 ((lit 0 (by decide)).mp y))]
    by_cases c1 : mz b (T.2.1 i) = 1
    · have eg : gaT (mz b (T.2.1 i)) (T.2.1 (kid T.2.2 i 1)) p q = (@ite _ True (Classical.propDecidable _) (chk (sgP (-1) p q)) none) := by
        rw [@if_pos _ (Classical.propDecidable _) trivial]
        exact (if_neg c0).trans (if_pos c1)
      rw [if_pos (show (Int32.ofNat (mz b (T.2.1 i))) = (1 : Int32) from (lit 1 (by decide)).mpr c1), if_pos ok_2215]
      refine q_bind (C_addRows (m := 1) (s' := -1) hR hh P1 Q1 kp.1 kq.1 (Or.inr ⟨rfl, rfl⟩)) ?_
      rintro _ ⟨I2, f2, ⟨fa, rfl, cr⟩ | ⟨fa, rfl⟩⟩
      · exact q_ok (out (fin f2 (Or.inl ⟨trivial, fa, rfl, cr⟩) eg))
      · exact q_ok (out (fin f2 (Or.inr ⟨fun y => fa y.2, rfl⟩) eg))
    rw [if_neg (show ¬ (Int32.ofNat (mz b (T.2.1 i))) = (1 : Int32) from fun y => c1 ((lit 1 (by decide)).mp y))]
    by_cases c2 : mz b (T.2.1 i) = 2
    · have eg : gaT (mz b (T.2.1 i)) (T.2.1 (kid T.2.2 i 1)) p q = (@ite _ (dgP p + dgP q ≤ 8) (Classical.propDecidable _) (chk (mulP q p)) none) := by
        refine (if_neg c0).trans ((if_neg c1).trans ((if_pos c2).trans ?_))
        by_cases d : dgP p + dgP q ≤ 8
        · rw [if_pos d, @if_pos _ (Classical.propDecidable _) d]
        · rw [if_neg d, @if_neg _ (Classical.propDecidable _) d]
      rw [if_pos (show (Int32.ofNat (mz b (T.2.1 i))) = (2 : Int32) from (lit 2 (by decide)).mpr c2), if_pos ok_2215]
      refine q_bind (C_multiplyRows hR hh P1 Q1 kp kq) ?_
      rintro _ ⟨I2, f2, ⟨dd, fa, rfl, cr⟩ | ⟨fa, rfl⟩⟩
      · exact q_ok (out (fin f2 (Or.inl ⟨dd, fa, rfl, cr⟩) eg))
      · exact q_ok (out (fin f2 (Or.inr ⟨fa, rfl⟩) eg))
    rw [if_neg (show ¬ (Int32.ofNat (mz b (T.2.1 i))) = (2 : Int32) from fun y => c2 ((lit 2 (by decide)).mp y))]
    by_cases c3 : mz b (T.2.1 i) = 3
    · have eg : gaT (mz b (T.2.1 i)) (T.2.1 (kid T.2.2 i 1)) p q = (@ite _ (dgP q = 0 ∧ q 0 ≠ 0) (Classical.propDecidable _) (chk (sclP p (q 0))) none) := by
        refine (if_neg c0).trans ((if_neg c1).trans ((if_neg c2).trans ((if_pos c3).trans ?_)))
        by_cases d : dgP q = 0 ∧ q 0 ≠ 0
        · rw [if_pos d, @if_pos _ (Classical.propDecidable _) d]
        · rw [if_neg d, @if_neg _ (Classical.propDecidable _) d]
      rw [if_pos (show (Int32.ofNat (mz b (T.2.1 i))) = (3 : Int32) from (lit 3 (by decide)).mpr c3), if_pos ok_2215]
      refine q_bind (C_divideRow hR hh P1 Q1 kp.1 kq.1) ?_
      rintro _ ⟨I2, f2, ⟨d1, d2, fa, rfl, cr⟩ | ⟨fa, rfl⟩⟩
      · exact q_ok (out (fin f2 (Or.inl ⟨⟨d1, d2⟩, fa, rfl, cr⟩) eg))
      · exact q_ok (out (fin f2 (Or.inr ⟨fun y => fa ⟨y.1.1, y.1.2, y.2⟩, rfl⟩) eg))
    rw [if_neg (show ¬ (Int32.ofNat (mz b (T.2.1 i))) = (3 : Int32) from fun y => c3 ((lit 3 (by decide)).mp y)), if_pos (bT_xk ta)]
    have ch1 : f_X9_child (mg 4625 I1 J R) a (Int32.ofNat (i)) 1 = some (Int32.ofNat (kid T.2.2 i 1)) := T_child (k := 1) hR A1 hi (by omega)
    obtain ⟨u1, u2, u3, u4, u5⟩ := A1.1.2.2.2 _ cl
    obtain ⟨v1, v2, -⟩ := NV_v (hT.2 _ cl)
    rw [ch1, Option.bind_some, bT_g0 ta hR, bT_aI ta (by omega), u1]
    have eg : gaT (mz b (T.2.1 i)) (T.2.1 (kid T.2.2 i 1)) p q = (@ite _ ((T.2.1 (kid T.2.2 i 1)).1 = 0 ∧ vN (T.2.1 (kid T.2.2 i 1)) ≤ 8 ∧ dgP p * vN (T.2.1 (kid T.2.2 i 1)) ≤ 8) (Classical.propDecidable _) (chk (powP p (vN (T.2.1 (kid T.2.2 i 1))))) none) := by
      refine (if_neg c0).trans ((if_neg c1).trans ((if_neg c2).trans ((if_neg c3).trans ?_)))
      by_cases d : (T.2.1 (kid T.2.2 i 1)).1 = 0 ∧ vN (T.2.1 (kid T.2.2 i 1)) ≤ 8 ∧ dgP p * vN (T.2.1 (kid T.2.2 i 1)) ≤ 8
      · rw [if_pos d, @if_pos _ (Classical.propDecidable _) d]
      · rw [if_neg d, @if_neg _ (Classical.propDecidable _) d]
    have no : ¬ ((T.2.1 (kid T.2.2 i 1)).1 = 0 ∧ vN (T.2.1 (kid T.2.2 i 1)) ≤ 8) → QK (f_X3_addNode_j196 (mg 4625 I1 J R) 2215 a (Int32.ofNat (h)) (Int32.ofNat (kid T.2.2 i 1))) (fun y => (mz b (T.2.1 i) = 11 ∧ GnS I J R h (some (negP p)) y) ∨ ((mz b (T.2.1 i) ≤ 3 ∨ mz b (T.2.1 i) = 5) ∧ GnS I J R h (gaT (mz b (T.2.1 i)) (T.2.1 (kid T.2.2 i 1)) p q) y) ∨ (mz b (T.2.1 i) ≠ 11 ∧ ¬ (mz b (T.2.1 i) ≤ 3 ∨ mz b (T.2.1 i) = 5) ∧ y = (0, mg 4625 I J R))) := fun nd => by
      unfold f_X3_addNode_j196 f_X3_addNode_j197 f_X3_addNode_j224 f_X3_addNode_j225
      rw [if_pos rfl]
      exact q_ok (out (fin FrK_rfl (Or.inr ⟨fun y => nd ⟨y.1.1, y.1.2.1⟩, rfl⟩) eg))
    by_cases k0 : (T.2.1 (kid T.2.2 i 1)).1 = 0
    rotate_left
    · rw [if_neg k0]
      exact no (fun y => k0 y.1)
    rw [if_pos k0, bT_g1 ta hR, bT_aI ta (by omega), u2, v1]
    by_cases k8 : vN (T.2.1 (kid T.2.2 i 1)) ≤ 8
    rotate_left
    · rw [if_pos (show (8 : Int32) < (Int32.ofNat (vN (T.2.1 (kid T.2.2 i 1)))) from (i32_lt (k := 8) (by omega) (by omega)).mpr (by omega))]
      exact no (fun y => k8 y.2)
    rw [if_neg (show ¬ (8 : Int32) < (Int32.ofNat (vN (T.2.1 (kid T.2.2 i 1)))) from fun y => absurd ((i32_lt (k := 8) (by omega) (by omega)).mp y) (by omega))]
    unfold f_X3_addNode_j197 f_X3_addNode_j224 f_X3_addNode_j225
    rw [if_neg (show ¬ (1 : Int32) = 0 by decide), bT_g1 ta hR, bT_aI ta (by omega), u2, v1, if_pos ok_2215]
    refine q_bind (C_raiseRow hR (by omega) P1 kp k8) ?_
    rintro _ ⟨I2, f2, ⟨dd, fa, rfl, cr⟩ | ⟨fa, rfl⟩⟩
    · rw [show (((1 : Int32), mg 4625 I2 J R) : Int32 × xM).1 = 1 from rfl, if_neg (show ¬ (1 : Int32) = 0 by decide)]
      exact q_ok (out (fin f2 (Or.inl ⟨⟨k0, k8, dd⟩, fa, rfl, cr⟩) eg))
    · rw [show (((0 : Int32), mg 4625 I2 J R) : Int32 × xM).1 = 0 from rfl, if_pos rfl]
      exact q_ok (out (fin f2 (Or.inr ⟨fun y => fa ⟨y.1.2.2, y.2⟩, rfl⟩) eg))
  · have m125 : mz b (T.2.1 i) ≤ 125 := by
      rcases mz_b hO nv with z | z
      · exact absurd em (by rw [z]; omega)
      · exact z.2
    have done : QK (some ((0 : Int32), mg 4625 I J R)) (fun y => (mz b (T.2.1 i) = 11 ∧ GnS I J R h (some (negP p)) y) ∨ ((mz b (T.2.1 i) ≤ 3 ∨ mz b (T.2.1 i) = 5) ∧ GnS I J R h (gaT (mz b (T.2.1 i)) (T.2.1 (kid T.2.2 i 1)) p q) y) ∨ (mz b (T.2.1 i) ≠ 11 ∧ ¬ (mz b (T.2.1 i) ≤ 3 ∨ mz b (T.2.1 i) = 5) ∧ y = (0, mg 4625 I J R))) := q_ok (Or.inr (Or.inr ⟨q11, q5, rfl⟩))
    rw [if_neg (show ¬ (Int32.ofNat (mz b (T.2.1 i))) = (11 : Int32) from fun y => q11 ((lit 11 (by decide)).mp y)), gi_2215, h4, q_let]
    unfold f_X3_addNode_j87
    by_cases z1 : (Int32.ofNat (H)) - (2 : Int32) < 0
    · rw [if_pos z1]
      exact done
    rw [if_neg z1, if_neg (i32_nlt0 (by omega))]
    by_cases z2 : mz b (T.2.1 i) = 4
    · rw [if_neg (show ¬ (5 : Int32) < (Int32.ofNat (mz b (T.2.1 i))) from fun y => absurd ((i32_lt (k := 5) (by omega) (by omega)).mp y) (by omega)), if_pos (show (Int32.ofNat (mz b (T.2.1 i))) = (4 : Int32) from (lit 4 (by decide)).mpr z2)]
      exact done
    · rw [if_pos (show (5 : Int32) < (Int32.ofNat (mz b (T.2.1 i))) from (i32_lt (k := 5) (by omega) (by omega)).mpr (by omega))]
      exact done
end CGN
