/-! gathering: the reference's nodes, all of them -/
theorem MRow_set {I I' : Nat → Nat → Int32} {r j : Nat} {c : Rat} (h : MRow I r (conP 0)) (kv : Kv (I 4564) (I' 4564) (2700 + 9 * r + j)) (V : Vv (I' 4564) (2700 + 9 * r + j) c.num c.den) : MRow I' r (fun i => if i = j then c else 0) := fun i hi => by
  by_cases z : i = j
  · subst z
    dsimp only
    rw [if_pos rfl]
    exact V
  · dsimp only
    rw [if_neg z]
    have := (h i hi).keep kv (by omega)
    have z0 : conP (0 : Rat) i = 0 := by
      unfold conP
      split <;> rfl
    rw [z0] at this
    exact this
section MGL
variable {I : Nat → Nat → Int32} {J : Nat → Nat → Int64} {R : Nat → Nat → Option Nat} {β : Type} {a h nm i m : Nat} {b : GB} {n : GN} {T : Tt} {p q : Po}
theorem M_ga107 (hR : RA R) (hA : MT I a T.1 T.2.1 T.2.2) (hN : MNm I n) (hT : TtO b T) (hi : i < T.1) (hnm : nm < 1000) (hk : (T.2.1 i).1 = 0 ∨ (T.2.1 i).1 = 1) : f_X12_gatherNode_j107 (mg 4625 I J R) 4561 (Int32.ofNat (a + i)) (Int32.ofNat (nm)) = some (if (T.2.1 i).1 = 0 ∨ vN (T.2.1 i) = nm ∨ n.1 (vN (T.2.1 i) - 97) ≠ 0 then 1 else 0, mg 4625 I J R) := by
  have nv := hT.2 i hi
  obtain ⟨v1, v2, v3, v4, -⟩ := NV_v nv
  unfold f_X12_gatherNode_j107
  rw [mk_1 hA hi hR, v1]
  by_cases z : vN (T.2.1 i) = nm
  · rw [if_pos (show (Int32.ofNat (vN (T.2.1 i))) = (Int32.ofNat (nm)) by rw [z]), if_pos (Or.inr (Or.inl z))]
    rfl
  rw [if_neg (show ¬ (Int32.ofNat (vN (T.2.1 i))) = (Int32.ofNat (nm)) from i32_ne (by omega) (by omega) z), mk_0 hA hi hR]
  by_cases q0 : (T.2.1 i).1 = 0
  · rw [if_pos q0, if_pos (Or.inl q0)]
    rfl
  rw [if_neg q0]
  have q1 : (T.2.1 i).1 = 1 := hk.resolve_left q0
  obtain ⟨l, l1, l2⟩ : ∃ l, l < 26 ∧ vN (T.2.1 i) = 97 + l := by
    rcases nv with y | y | y | y
    · exact absurd (q1.symm.trans y.1) (by decide)
    · obtain ⟨-, ⟨l, l1, l2⟩, -⟩ := y
      have := v3 (by rw [q1]; decide)
      exact ⟨l, l1, (i32_eq (by omega) (by omega)).mp (v1.symm.trans l2)⟩
    · exact absurd (q1.symm.trans y.1) (by decide)
    · exact absurd (q1.symm.trans y.1) (by decide)
  obtain ⟨n1, n2⟩ := hN l l1
  rw [gr_4561_47 hR, mk_1 hA hi hR, v1, l2, show (Int32.ofNat (97 + l)) - (97 : Int32) = (Int32.ofNat (l)) from (n_sub (b := 97) (by omega)).trans (by rw [Nat.add_sub_cancel_left]), ga_4599 l1, n1, Nat.add_sub_cancel_left]
  rw [l2] at z
  by_cases w : n.1 l = 0
  · rw [if_pos w, if_neg (by
      rintro (y | y | y)
      · exact q0 y
      · exact z y
      · exact y w)]
    rfl
  · rw [if_neg w, if_pos (Or.inr (Or.inr w))]
    rfl
theorem M_gaLeaf (hR : RA R) (hA : MT I a T.1 T.2.1 T.2.2) (hN : MNm I n) (hg : ∀ l, l < 26 → Gd (n.2 l)) (hT : TtO b T) (hi : i < T.1) (hnm : nm < 1000) (hk : (T.2.1 i).1 = 0 ∨ (T.2.1 i).1 = 1) (hh : h < 88) (h68 : I 4561 68 = (Int32.ofNat (h))) : QK (f_X12_gatherNode (mg 4625 I J R) 4561 (Int32.ofNat (a + i)) (Int32.ofNat (nm))) (PgQ J R I h (lfP n nm (T.2.1 i))) := by
  have nv := hT.2 i hi
  obtain ⟨v1, v2, v3, v4, -⟩ := NV_v nv
  have en : f_X12_gatherNode (mg 4625 I J R) 4561 (Int32.ofNat (a + i)) (Int32.ofNat (nm)) = f_X12_gatherNode_j19 (mg 4625 I J R) 4561 (Int32.ofNat (a + i)) (Int32.ofNat (nm)) := by
    unfold f_X12_gatherNode
    rw [mk_0 hA hi hR]
    rcases hk with z | z
    · rw [if_pos z]
    · rw [if_neg (by rw [z]; decide), mk_0 hA hi hR, if_pos z]
  rw [en]
  unfold f_X12_gatherNode_j19
  rw [gi_4561, h68, if_pos ok_4561]
  refine q_bind (M_clear (r := h) hR (by omega)) ?_
  rintro _ ⟨I1, rfl, r1, k1, M1⟩
  have t1 : I1 4561 68 = (Int32.ofNat (h)) := by rw [r1.1 4561 (by omega)]; exact h68
  rw [gi_4561, t1, gs_4561, show (Int32.ofNat (h)) + (1 : Int32) = (Int32.ofNat (h + 1)) from n_add h 1]
  have f2 : FrK (Fgm h) I (up I1 4561 68 (Int32.ofNat (h + 1))) := FrK_up (R4_Fgm (R3_R4 r1) k1 (fun x hx => hx.1)) (by unfold Fgm; omega)
  have t2 : up I1 4561 68 (Int32.ofNat (h + 1)) 4561 68 = (Int32.ofNat (h + 1)) := up_s
  have M2 : MRow (up I1 4561 68 (Int32.ofNat (h + 1))) h (conP 0) := MRow_eq M1 (up_r (by omega))
  generalize up I1 4561 68 (Int32.ofNat (h + 1)) = I2 at *
  have keep : ∀ {I3 : Nat → Nat → Int32}, FrK (Fgm h) I I3 → MNm I3 n ∧ MT I3 a T.1 T.2.1 T.2.2 := fun f => ⟨MNm_keep hN (fun x k g => f x k (by unfold Fgm; omega)), MT_keep hA (fun x k g1 g2 g3 g4 => f x k (by unfold Fgm; omega))⟩
  obtain ⟨N2, A2⟩ := keep f2
  rw [mk_0 A2 hi hR]
  -- the end
  have fin : ∀ {I3 : Nat → Nat → Int32} {j : Nat} {c : Rat}, j < 9 → R3 I2 I3 → Kv (I2 4564) (I3 4564) (2700 + 9 * h + j) → Vv (I3 4564) (2700 + 9 * h + j) c.num c.den → lfP n nm (T.2.1 i) = (if (T.2.1 i).1 = 0 ∨ vN (T.2.1 i) = nm ∨ n.1 (vN (T.2.1 i) - 97) ≠ 0 then some (fun i => if i = j then c else 0) else none) → QK (f_X12_gatherNode_j107 (mg 4625 I3 J R) 4561 (Int32.ofNat (a + i)) (Int32.ofNat (nm))) (PgQ J R I h (lfP n nm (T.2.1 i))) := fun {I3 j c} hj r3 kv V el => by
    have f3 : FrK (Fgm h) I I3 := FrK_tr f2 (R4_Fgm (R3_R4 r3) (Kv_s (S := fun x => x = 2700 + 9 * h + j) kv rfl) (fun x hx => by omega))
    obtain ⟨N3, A3⟩ := keep f3
    rw [M_ga107 hR A3 N3 hT hi hnm hk, el]
    by_cases z : (T.2.1 i).1 = 0 ∨ vN (T.2.1 i) = nm ∨ n.1 (vN (T.2.1 i) - 97) ≠ 0
    · rw [if_pos z, if_pos z]
      exact q_ok ⟨I3, f3, Or.inl ⟨_, rfl, rfl, MRow_set M2 kv V, by rw [r3.1 4561 (by omega)]; exact t2⟩⟩
    · rw [if_neg z, if_neg z]
      exact q_ok ⟨I3, f3, Or.inr ⟨rfl, rfl⟩⟩
  by_cases q0 : (T.2.1 i).1 = 0
  · rw [if_pos q0, show f_X12_coefficientAt (mg 4625 I2 J R) (Int32.ofNat (h)) 0 = some (Int32.ofNat (2700 + 9 * h + 0)) from cAt (k := 0), Option.bind_some, mk_1 A2 hi hR, v1, if_pos ok_4561]
    refine q_bind (M_setInt (i := 2700 + 9 * h + 0) hR (by omega) (by omega)) ?_
    rintro _ ⟨I3, rfl, r3, kv, V⟩
    obtain ⟨e, -⟩ := Gd_gv (v := ((vN (T.2.1 i) : Int), 1)) (Gd_n (Nat.lt_of_le_of_lt v2 (by decide)))
    refine fin (j := 0) (c := mkRat (vN (T.2.1 i)) 1) (by decide) r3 kv ?_ ?_
    · have e1 := congrArg Prod.fst e
      have e2 := congrArg Prod.snd e
      have e1 : (mkRat (vN (T.2.1 i)) 1).num = (vN (T.2.1 i) : Int) := e1
      have e2 : (mkRat (vN (T.2.1 i)) 1).den = 1 := e2
      rw [e1, e2]
      exact V
    · rw [if_pos (Or.inl q0)]
      exact if_pos q0
  rw [if_neg q0, mk_1 A2 hi hR, v1]
  have q1 : (T.2.1 i).1 = 1 := hk.resolve_left q0
  by_cases z : vN (T.2.1 i) = nm
  · rw [if_pos (show (Int32.ofNat (vN (T.2.1 i))) = (Int32.ofNat (nm)) by rw [z]), show f_X12_coefficientAt (mg 4625 I2 J R) (Int32.ofNat (h)) 1 = some (Int32.ofNat (2700 + 9 * h + 1)) from cAt (k := 1), Option.bind_some, if_pos ok_4561]
    refine q_bind (M_setInt (i := 2700 + 9 * h + 1) (m := 1) hR (by omega) (by omega)) ?_
    rintro _ ⟨I3, rfl, r3, kv, V⟩
    refine fin (j := 1) (c := 1) (by decide) r3 kv V ?_
    rw [if_pos (Or.inr (Or.inl z))]
    exact (if_neg q0).trans ((if_pos q1).trans (if_pos z))
  rw [if_neg (show ¬ (Int32.ofNat (vN (T.2.1 i))) = (Int32.ofNat (nm)) from i32_ne (by omega) (by omega) z)]
  obtain ⟨l, l1, l2⟩ : ∃ l, l < 26 ∧ vN (T.2.1 i) = 97 + l := by
    rcases nv with y | y | y | y
    · exact absurd (q1.symm.trans y.1) (by decide)
    · obtain ⟨-, ⟨l, l1, l2⟩, -⟩ := y
      have := v3 (by rw [q1]; decide)
      exact ⟨l, l1, (i32_eq (by omega) (by omega)).mp (v1.symm.trans l2)⟩
    · exact absurd (q1.symm.trans y.1) (by decide)
    · exact absurd (q1.symm.trans y.1) (by decide)
  obtain ⟨n1, n2⟩ := N2 l l1
  rw [show f_X12_coefficientAt (mg 4625 I2 J R) (Int32.ofNat (h)) 0 = some (Int32.ofNat (2700 + 9 * h + 0)) from cAt (k := 0), Option.bind_some, mk_1 A2 hi hR, v1, l2, show (Int32.ofNat (97 + l)) - (97 : Int32) = (Int32.ofNat (l)) from (n_sub (b := 97) (by omega)).trans (by rw [Nat.add_sub_cancel_left]), if_pos ok_4561]
  refine q_bind (M_copy (a := 2700 + 9 * h + 0) (b := l) hR (by omega) (by omega) (by omega) n2) ?_
  rintro _ ⟨I3, rfl, r3, -, -, kv, V⟩
  obtain ⟨e, -⟩ := Gd_gv (hg l l1)
  have e1 : (mkRat (n.2 l).1 (n.2 l).2).num = (n.2 l).1 := congrArg Prod.fst e
  have e2 : (mkRat (n.2 l).1 (n.2 l).2).den = (n.2 l).2 := congrArg Prod.snd e
  refine fin (j := 0) (c := mkRat (n.2 l).1 (n.2 l).2) (by decide) r3 kv (by rw [e1, e2]; exact V) ?_
  have el : lfP n nm (T.2.1 i) = if n.1 l = 0 then none else some (conP (mkRat (n.2 l).1 (n.2 l).2)) := by
    refine (if_neg q0).trans ((if_pos q1).trans ((if_neg z).trans ?_))
    rw [l2, Nat.add_sub_cancel_left]
  rw [el, l2, Nat.add_sub_cancel_left]
  rw [l2] at z
  by_cases w : n.1 l = 0
  · rw [if_pos w, if_neg (by
      rintro (y | y | y)
      · exact q0 y
      · exact z y
      · exact y w)]
  · rw [if_neg w, if_pos (Or.inr (Or.inr w))]
    rfl
theorem M_gaNeg (hR : RA R) (hA : MT I a T.1 T.2.1 T.2.2) (hB : MTb I b) (hO : TbOK b) (hT : TtO b T) (hi : i < T.1) (q11 : mz b (T.2.1 i) = 11) (hh : h < 88) (h68 : I 4561 68 = (Int32.ofNat (h + 1))) (hP : MRow I h p) : QK (f_X12_gatherNode (mg 4625 I J R) 4561 (Int32.ofNat (a + i)) (Int32.ofNat (nm))) (PgQ J R I h (some (negP p))) := by
  have nv := hT.2 i hi
  obtain ⟨k3, h1⟩ := mz_one hO nv (show 11 ≤ mz b (T.2.1 i) by omega) (by omega)
  have h1 : aro T.2.1 i = 1 := h1
  unfold f_X12_gatherNode
  rw [mk_0 hA hi hR, if_neg (by rw [k3]; decide), mk_0 hA hi hR, if_neg (by rw [k3]; decide), if_pos ok_4561, M_mi hR hA hi nv hB hO, mk_0 hA hi hR, if_neg (by rw [k3]; decide), mk_3 hA hi hR, if_pos (show (Int32.ofNat (aro T.2.1 i)) = (1 : Int32) by rw [h1]; rfl), q11, if_pos (show mi 11 = (11 : Int32) from rfl)]
  unfold f_X12_gatherNode_j183
  rw [mk_3 hA hi hR, if_neg (show ¬ (Int32.ofNat (aro T.2.1 i)) = (2 : Int32) by rw [h1]; decide), q_let]
  refine q_bind (P := fun x => ∃ I', x = .inr (mg 4625 I' J R) ∧ FrK (Fgm h) I I' ∧ I' 4561 68 = (Int32.ofNat (h + 1)) ∧ MRow I' h (negP p)) ?_ ?_
  · refine q_for 9 (fun i s => ∃ I', s = (4561, (Int32.ofNat (i)), mg 4625 I' J R) ∧ FrK (Fgm h) I I' ∧ I' 4561 68 = (Int32.ofNat (h + 1)) ∧ ∀ j, j < 9 → Vv (I' 4564) (2700 + 9 * h + j) (if j < i then -(p j).num else (p j).num) (p j).den) ?_ ?_ (i := 0) ⟨I, rfl, FrK_rfl, h68, fun j hj => by rw [if_neg (Nat.not_lt_zero _)]; exact hP j hj⟩ (by omega) (by unfold xF; omega)
    · rintro i s hi ⟨I1, rfl, f1, t1, g1⟩
      have P1 := g1 i hi
      rw [if_neg (Nat.lt_irrefl _)] at P1
      unfold f_X12_gatherNode_s203
      dsimp only
      rw [q_let, q_let, q_let, if_neg (show ¬ (9 : Int32) ≤ (Int32.ofNat (i)) from fun y => absurd ((i32_le (k := 9) (by omega) (by omega)).mp y) (by omega)), gi_4561, t1, show (Int32.ofNat (h + 1)) - (1 : Int32) = (Int32.ofNat (h)) from n_sub (b := 1) (by omega), cAt, Option.bind_some, gr_4561_3 hR, if_pos ok_4561, M_sign hR (by omega) P1, Option.bind_some, show (28 : Int32) * (Int32.ofNat (2700 + 9 * h + i)) = (Int32.ofNat (28 * (2700 + 9 * h + i))) from n_mul 28 _, gw_4564 (by omega), q_let, show (Int32.ofNat (i)) + (1 : Int32) = (Int32.ofNat (i + 1)) from n_add i 1]
      refine q_go ⟨_, rfl, FrK_up f1 (by unfold Fgm; omega), by rw [up_n (by omega)]; exact t1, fun j hj => ?_⟩
      rw [up_row]
      by_cases z : j = i
      · subst z
        rw [if_pos (Nat.lt_succ_self _)]
        exact Vv_neg P1
      · have := (g1 j hj).keep (i := 2700 + 9 * h + i) (v' := va_up (I1 4564) (28 * (2700 + 9 * h + i)) (-Int32.ofInt (p i).num.sign)) (fun x hx => va_up_ne _ _ (by omega)) (by omega)
        by_cases w : j < i
        · rw [if_pos w] at this
          rw [if_pos (by omega)]
          exact this
        · rw [if_neg w] at this
          rw [if_neg (by omega)]
          exact this
    · rintro s ⟨I1, rfl, f1, t1, g1⟩
      unfold f_X12_gatherNode_s203
      dsimp only
      rw [q_let, q_let, q_let, if_pos (by decide)]
      refine q_ex ⟨I1, rfl, f1, t1, fun j hj => ?_⟩
      have := g1 j hj
      rw [if_pos hj] at this
      show Vv _ _ (-(p j)).num (-(p j)).den
      rw [Rat.neg_num, Rat.neg_den]
      exact this
  · rintro _ ⟨I1, rfl, f1, t1, g1⟩
    simp only [Sum.elim_inr]
    unfold f_X12_gatherNode_j246
    exact q_ok ⟨I1, f1, Or.inl ⟨_, rfl, rfl, g1, t1⟩⟩
theorem M_gaBin (hR : RA R) (hA : MT I a T.1 T.2.1 T.2.2) (hB : MTb I b) (hO : TbOK b) (hT : TtO b T) (hi : i < T.1) (q5 : mz b (T.2.1 i) ≤ 3 ∨ mz b (T.2.1 i) = 5) (hh : h + 2 < 90) (h68 : I 4561 68 = (Int32.ofNat (h + 2))) (hP : MRow I h p) (hQ : MRow I (h + 1) q) (kp : PoK p) (kq : PoK q) : QK (f_X12_gatherNode (mg 4625 I J R) 4561 (Int32.ofNat (a + i)) (Int32.ofNat (nm))) (PgQ J R I h (gaT (mz b (T.2.1 i)) (T.2.1 (kid T.2.2 i 1)) p q)) := by
  have nv := hT.2 i hi
  obtain ⟨k3, h2⟩ := mz_two hO nv (show mz b (T.2.1 i) ≤ 10 by omega)
  have h2 : aro T.2.1 i = 2 := h2
  unfold f_X12_gatherNode
  rw [mk_0 hA hi hR, if_neg (by rw [k3]; decide), mk_0 hA hi hR, if_neg (by rw [k3]; decide), if_pos ok_4561, M_mi hR hA hi nv hB hO, mk_0 hA hi hR, if_neg (by rw [k3]; decide), mk_3 hA hi hR, if_neg (show ¬ (Int32.ofNat (aro T.2.1 i)) = (1 : Int32) by rw [h2]; decide)]
  unfold f_X12_gatherNode_j183
  rw [mk_3 hA hi hR, if_pos (show (Int32.ofNat (aro T.2.1 i)) = (2 : Int32) by rw [h2]; rfl), if_pos ok_4561, mi_s (by omega)]
  refine q_bind (M_gaTwo hR hA hT hi h2 q5 hh h68 hP hQ kp kq) ?_
  rintro y ⟨I2, f2, ⟨S, es, rfl, M2, t2⟩ | ⟨es, rfl⟩⟩
  · exact q_ok ⟨I2, f2, Or.inl ⟨S, es, rfl, M2, t2⟩⟩
  · exact q_ok ⟨I2, f2, Or.inr ⟨es, rfl⟩⟩
theorem M_gaElse (hR : RA R) (hA : MT I a T.1 T.2.1 T.2.2) (hB : MTb I b) (hO : TbOK b) (hT : TtO b T) (hi : i < T.1) (hk : (T.2.1 i).1 = 2 ∨ ((T.2.1 i).1 = 3 ∧ mz b (T.2.1 i) ≠ 11 ∧ ¬ (mz b (T.2.1 i) ≤ 3 ∨ mz b (T.2.1 i) = 5))) : QK (f_X12_gatherNode (mg 4625 I J R) 4561 (Int32.ofNat (a + i)) (Int32.ofNat (nm))) (PgQ J R I h none) := by
  have nv := hT.2 i hi
  have n0 : ¬ (T.2.1 i).1 = 0 := by rcases hk with z | ⟨z, -⟩ <;> rw [z] <;> decide
  have n1 : ¬ (T.2.1 i).1 = 1 := by rcases hk with z | ⟨z, -⟩ <;> rw [z] <;> decide
  have no : QK (f_X12_gatherNode_j181 (mg 4625 I J R)) (PgQ J R I h none) := by
    unfold f_X12_gatherNode_j181
    exact q_ok ⟨I, FrK_rfl, Or.inr ⟨rfl, rfl⟩⟩
  unfold f_X12_gatherNode
  rw [mk_0 hA hi hR, if_neg n0, mk_0 hA hi hR, if_neg n1, if_pos ok_4561, M_mi hR hA hi nv hB hO, mk_0 hA hi hR]
  rcases hk with z | ⟨k3, q11, q5⟩
  · rw [if_pos z]
    exact no
  obtain ⟨pp, fx, p1, p2, p3, p4, p5, p6, p7, p8⟩ := mg_i hO nv k3
  have em : mgN b (T.2.1 i) = mz b (T.2.1 i) := by
    unfold mz
    rw [if_pos k3]
  rw [em] at p8
  have ms : mi (mz b (T.2.1 i)) = (Int32.ofNat (mz b (T.2.1 i))) := mi_s (by omega)
  have lit : ∀ k : Nat, k ≤ 13 → mz b (T.2.1 i) ≠ k → (Int32.ofNat (mz b (T.2.1 i))) ≠ (Int32.ofNat (k)) := fun k hk hne => i32_ne (by omega) (by omega) hne
  have a12 : aro T.2.1 i = if fx = 2 then 2 else 1 := p5
  rw [if_neg (by rw [k3]; decide), mk_3 hA hi hR, ms]
  by_cases w : fx = 2
  · rw [if_pos w] at a12
    rw [if_neg (show ¬ (Int32.ofNat (aro T.2.1 i)) = (1 : Int32) by rw [a12]; decide)]
    unfold f_X12_gatherNode_j183
    rw [mk_3 hA hi hR, if_pos (show (Int32.ofNat (aro T.2.1 i)) = (2 : Int32) by rw [a12]; rfl), if_pos ok_4561]
    refine q_bind (M_gaNot (h := h) hR (lit 0 (by decide) (by omega)) (lit 1 (by decide) (by omega)) (lit 2 (by decide) (by omega)) (lit 3 (by decide) (by omega)) (lit 5 (by decide) (by omega))) ?_
    rintro y ⟨I2, f2, ⟨S, es, -⟩ | ⟨es, rfl⟩⟩
    · cases es
    · exact q_ok ⟨I2, f2, Or.inr ⟨rfl, rfl⟩⟩
  · rw [if_neg w] at a12
    rw [if_pos (show (Int32.ofNat (aro T.2.1 i)) = (1 : Int32) by rw [a12]; rfl), if_neg (show ¬ (Int32.ofNat (mz b (T.2.1 i))) = (11 : Int32) from lit 11 (by decide) q11)]
    exact no
end MGL
