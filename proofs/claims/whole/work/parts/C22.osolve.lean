/-! calls: solve -/
def soF (b : GB) (n : GN) (nm : Nat) (T : Tt) : Option (Po × Po) := if mz b (T.2.1 0) = 7 then match gaF b n nm T 100 1 with
    | none => none
    | some p => match gaF b n nm T 100 (kid T.2.2 0 1) with
      | none => none
      | some q => if dgP p ≤ 1 ∧ dgP q ≤ 1 then some (p, q) else none
  else none
def soR (o : Option (Po × Po)) : Int32 × Option Rat := match o with
  | none => (-1, none)
  | some (p, q) => soT p q
section OSO
variable {I : Nat → Nat → Int32} {J : Nat → Nat → Int64} {R : Nat → Nat → Option Nat} {t : GT} {s : GS} {b : GB} {n : GN} {f : GF} {v : GV} {q q' : Nat → GV} {p : GT} {r : GR} {h : GH} {β : Type} {a nm : Nat} {T : Tt}
theorem l_solve {w x y : Int32} {I1 : Nat → Nat → Int32} (h : f_X11_solve (mg 4625 I J R) 0 x y = some (.inl w, mg 4625 I1 J R)) : f_L_solve (mg 4625 I J R) 0 x y 4624 = some (0, mg 4625 I1 (oJ J w.toInt64) R) := by
  unfold f_L_solve
  rw [if_pos ok_0, h, Option.bind_some, q_let, Sum.elim_inl, owJ0]
  rfl
/-- the class's work, once the call is let through -/
theorem C_solve {x : Int32} (hR : RA R) (hOb : TbOK b) (hg : ∀ l, l < 26 → Gd (n.2 l)) (ha : 10 ≤ a ∧ a + 8 ≤ 567) (hT : TtO b T) (h80 : T.1 ≤ 80) (hnm : nm < 123) (hn0 : (97 : Int32) ≤ (Int32.ofNat (nm))) (hn1 : (Int32.ofNat (nm)) ≤ (122 : Int32)) (hC : InvC I t s b n f v q p r h) (hA : CTT I a T) (hx : ∀ {β : Type} {F : Nat ⊕ String → Option β}, (f_X11_treeAt (mg 4625 I J R) 0 x).bind F = F (.inl a)) : QK (f_X11_solve (mg 4625 I J R) 0 x (Int32.ofNat (nm))) (fun y => ∃ I', y = (.inl (soR (soF b n nm T)).1, mg 4625 I' J R) ∧ (∀ x j, 4561 ≤ x → I' x j = I x j) ∧ InvC I' t s b n f (match (soR (soF b n nm T)).2 with | none => v | some x => gv x) q p r h) := by
  have t0 : 0 < T.1 := hT.1.1
  have nv := hT.2 0 t0
  have ta := hA.1.1
  obtain ⟨w1, w2, w3, w4, w5⟩ := hA.1.2.2.2 0 t0
  have hB : CTb I b := hC.2.2.1
  have hN : CNm I n := hC.2.2.2.1
  unfold f_X11_solve
  rw [if_pos ok_0, hx, Sum.elim_inl, if_pos ok_0, c_needName1 hn0 hn1, Option.bind_some, Sum.elim_inl, bT_g0 ta hR, show (0 : Int32) = (Int32.ofNat (0)) from rfl, bT_aI ta (by omega), w1]
  have no : ∀ {I' : Nat → Nat → Int32}, soF b n nm T = none → (∀ x j, 4561 ≤ x → I' x j = I x j) → InvC I' t s b n f v q p r h → QK (some ((Sum.inl (-1 : Int32) : Int32 ⊕ String), mg 4625 I' J R)) (fun y => ∃ I', y = (.inl (soR (soF b n nm T)).1, mg 4625 I' J R) ∧ (∀ x j, 4561 ≤ x → I' x j = I x j) ∧ InvC I' t s b n f (match (soR (soF b n nm T)).2 with | none => v | some x => gv x) q p r h) := fun e k hc => by
    rw [e]
    exact q_ok ⟨_, rfl, k, hc⟩
  by_cases k3 : (T.2.1 0).1 = 3
  rotate_left
  · rw [if_neg k3]
    refine no ?_ (fun _ _ _ => rfl) hC
    refine if_neg (fun y => k3 ?_)
    exact (mz_two hOb nv (by omega)).1
  rw [if_pos k3, gr_0_2 hR, bT_g1 ta hR, bT_aI ta (by omega), w2, bT_g2 ta hR, bT_aI ta (by omega), w3, if_pos ok_11]
  obtain ⟨pp, fx, p1, p2, p3, p4, p5, p6, p7, p8⟩ := mg_i hOb nv k3
  have em : mgN b (T.2.1 0) = mz b (T.2.1 0) := by
    unfold mz
    rw [if_pos k3]
  rw [p3, p4, C_meaning hR hB p1 (by omega) p6 p7, em]
  rw [em] at p8
  by_cases m7 : mz b (T.2.1 0) = 7
  rotate_left
  · rw [if_neg (show ¬ (Int32.ofNat (mz b (T.2.1 0))) = (7 : Int32) from i32_ne (b := 7) (by omega) (by omega) m7)]
    exact no (if_neg m7) (fun _ _ _ => rfl) hC
  rw [if_pos (show (Int32.ofNat (mz b (T.2.1 0))) = (7 : Int32) by rw [m7]; rfl)]
  have h2 : aro T.2.1 0 = 2 := (mz_two hOb nv (by omega)).2
  obtain ⟨f0, a1, c1, -⟩ := two_kids hT t0 h2
  have gK := fun j P (hj : j < T.1) => gaF_K (nm := nm) hT hOb hg 100 j P hj
  rw [gr_0_9 hR, if_pos (bT_xk ta), T_child (k := 0) hR hA t0 (by omega), Option.bind_some, f0, if_pos ok_2215]
  obtain ⟨_, e1, I1, f1, hy1⟩ := C_collect (J := J) (nm := nm) (i := 0 + 1) hR hOb hg ha hT h80 (by omega) a1 hB hN hA
  have hC1 : InvC I1 t s b n f v q p r h := InvC_keep hC (fun x hx => funext (fun j => f1 x j (by unfold DC at hx; unfold Fgc Fga; omega)))
  have k1 : ∀ x j, 4561 ≤ x → I1 x j = I x j := fun x j hx => f1 x j (by unfold Fgc Fga; omega)
  rw [e1, Option.bind_some]
  have so : soF b n nm T = (match gaF b n nm T 100 1 with
    | none => none
    | some p => match gaF b n nm T 100 (kid T.2.2 0 1) with
      | none => none
      | some q => if dgP p ≤ 1 ∧ dgP q ≤ 1 then some (p, q) else none) := if_pos m7
  unfold f_X11_solve_j75 f_X11_solve_j112 f_X11_solve_j143
  rcases hy1 with ⟨P, eP, rfl, g1⟩ | ⟨eP, rfl⟩
  rotate_left
  · have eP : gaF b n nm T 100 1 = none := eP
    rw [if_pos (show (-1 : Int32) < (Int32.ofNat (0)) by decide)]
    exact no (by rw [so, eP]) k1 hC1
  have eP : gaF b n nm T 100 1 = some P := eP
  have kP := gK 1 P a1 eP
  have dP : dgP P ≤ 8 := dgF_le P 8
  rw [if_neg (show ¬ (Int32.ofNat (dgP P)) < (Int32.ofNat (0)) from i32_nlt0 (by omega))]
  by_cases d1 : dgP P ≤ 1
  rotate_left
  · rw [if_neg (show ¬ (Int32.ofNat (dgP P)) ≤ (1 : Int32) from fun y => d1 ((i32_le (m := 1) (by omega) (by omega)).mp y))]
    refine no ?_ k1 hC1
    rw [so, eP]
    dsimp only
    cases gaF b n nm T 100 (kid T.2.2 0 1) with
    | none => rfl
    | some Q =>
      dsimp only
      rw [if_neg (fun y => d1 y.1)]
  rw [if_pos (show (Int32.ofNat (dgP P)) ≤ (1 : Int32) from (i32_le (m := 1) (by omega) (by omega)).mpr d1), gr_0_9 hR, if_pos ok_2215]
  refine q_bind (C_setAside hR g1 kP.1) ?_
  rintro _ ⟨I2, rfl, f2, S0, S1⟩
  have keep2 : ∀ {A : Nat}, A < 2231 → I2 A = I1 A := fun hA => f2 _ (by omega)
  have hC2 : InvC I2 t s b n f v q p r h := InvC_keep hC1 (fun x hx => f2 x (by unfold DC at hx; omega))
  have k2 : ∀ x j, 4561 ≤ x → I2 x j = I x j := fun x j hx => by rw [f2 x (by omega)]; exact k1 x j hx
  have A2 : CTT I2 a T := CT_keep hA (fun x g1 g2 => by rw [f2 x (by omega)]; funext j; exact f1 x j (by unfold Fgc Fga; omega))
  rw [gr_0_9 hR, if_pos (bT_xk ta), show f_X9_child (mg 4625 I2 J R) a (Int32.ofNat (0)) 1 = some (Int32.ofNat (kid T.2.2 0 1)) from T_child (k := 1) hR A2 t0 (by omega), Option.bind_some, if_pos ok_2215]
  obtain ⟨_, e3, I3, f3, hy3⟩ := C_collect (J := J) (nm := nm) (i := kid T.2.2 0 1) hR hOb hg ha hT h80 (by omega) c1 hC2.2.2.1 hC2.2.2.2.1 A2
  have hC3 : InvC I3 t s b n f v q p r h := InvC_keep hC2 (fun x hx => funext (fun j => f3 x j (by unfold DC at hx; unfold Fgc Fga; omega)))
  have k3' : ∀ x j, 4561 ≤ x → I3 x j = I x j := fun x j hx => by rw [f3 x j (by unfold Fgc Fga; omega)]; exact k2 x j hx
  rw [e3, Option.bind_some]
  rcases hy3 with ⟨Q, eQ, rfl, g3⟩ | ⟨eQ, rfl⟩
  rotate_left
  · rw [if_pos (show (-1 : Int32) < (Int32.ofNat (0)) by decide)]
    exact no (by rw [so, eP]; dsimp only; rw [eQ]) k3' hC3
  have kQ := gK _ Q c1 eQ
  have dQ : dgP Q ≤ 8 := dgF_le Q 8
  rw [if_neg (show ¬ (Int32.ofNat (dgP Q)) < (Int32.ofNat (0)) from i32_nlt0 (by omega))]
  by_cases d2 : dgP Q ≤ 1
  rotate_left
  · rw [if_neg (show ¬ (Int32.ofNat (dgP Q)) ≤ (1 : Int32) from fun y => d2 ((i32_le (m := 1) (by omega) (by omega)).mp y))]
    refine no ?_ k3' hC3
    rw [so, eP]
    dsimp only
    rw [eQ]
    dsimp only
    rw [if_neg (fun y => d2 y.2)]
  rw [if_pos (show (Int32.ofNat (dgP Q)) ≤ (1 : Int32) from (i32_le (m := 1) (by omega) (by omega)).mpr d2), gr_0_9 hR, if_pos ok_2215]
  have so' : soF b n nm T = some (P, Q) := by
    rw [so, eP]
    dsimp only
    rw [eQ]
    dsimp only
    rw [if_pos ⟨d1, d2⟩]
  have sr : soR (soF b n nm T) = soT P Q := by rw [so']; rfl
  rw [sr]
  have T0 : FU I3 2231 7 (P 0).num (P 0).den := FU_keep S0 (fun x g1 g2 => by funext j; exact f3 x j (by unfold Fgc Fga; omega))
  have T1 : FU I3 2236 7 (P 1).num (P 1).den := FU_keep S1 (fun x g1 g2 => by funext j; exact f3 x j (by unfold Fgc Fga; omega))
  refine q_bind (C_compareSides (p := P) hR T0 T1 g3 kP.1 kQ.1) ?_
  rintro _ ⟨I4, rfl, f4, g4⟩
  have hC4 : InvC I4 t s b n f v q p r h := InvC_keep hC3 (fun x hx => f4 x (by unfold DC at hx; omega))
  have k4 : ∀ x j, 4561 ≤ x → I4 x j = I x j := fun x j hx => by rw [f4 x (by omega)]; exact k3' x j hx
  dsimp only
  have cs : (∃ x, soT P Q = (1, some x) ∧ Fit x) ∨ ((soT P Q).1 ≠ 1 ∧ (soT P Q).2 = none) := by
    unfold soT
    by_cases z1 : P 1 = Q 1
    · rw [if_pos z1]
      right
      split
      · exact ⟨by decide, rfl⟩
      · exact ⟨by decide, rfl⟩
    · rw [if_neg z1]
      by_cases ft : Fit (dvS (Q 0 - P 0) (P 1 - Q 1))
      · rw [if_pos ft]
        exact Or.inl ⟨_, rfl, ft⟩
      · rw [if_neg ft]
        exact Or.inr ⟨by decide, rfl⟩
  rcases cs with ⟨x, ex, ft⟩ | ⟨e1, e2⟩
  · rw [ex] at g4 ⊢
    dsimp only
    rw [if_pos rfl, gr_0_10 hR, gr_0_9 hR, gr_2215_12 hR, if_pos (bF_xk isF_4541)]
    refine q_bind (C_lat hR hC4 (g4 x rfl) (g7 (gv_Gd ft)) (by omega)) ?_
    rintro _ ⟨I5, rfl, hC5, -, f5⟩
    exact q_ok ⟨I5, rfl, fun x j hx => by rw [f5 x (fun z => by unfold Sf at z; omega)]; exact k4 x j hx, hC5⟩
  · rw [if_neg e1, e2]
    exact q_ok ⟨I4, rfl, k4, hC4⟩
theorem M_solve (hR : RA R) (hOb : TbOK b) (hg : ∀ l, l < 26 → Gd (n.2 l)) {k : Nat} (hT : TtO b T) (h80 : T.1 ≤ 80) (hnm : nm < 123) (hM : InvM I t s b n f v q p r h) (hC : CSh I s) (hA : MT I (80 * k) T.1 T.2.1 T.2.2) (z0 : I 4561 0 = 0) : QK ((f_X12_shelf (mg 4625 I J R) (Int32.ofNat (k))).bind (fun p4 => (sI (mg 4625 I J R) 4561 12 68 (0 : Int32)).bind (fun σ5 => (if xk σ5 4561 12 = true then (f_X12_meaningAt σ5 4561 p4).bind (fun p6 => (if p6 = (7 : Int32) then (if xk σ5 4561 12 = true then (f_X12_gathers σ5 4561 (p4 + (1 : Int32)) (Int32.ofNat (nm))).bind (fun p7 => (if p7.1 = (0 : Int32) then f_X12_solve_j98 p7.2 else (if xk p7.2 4561 12 = true then (f_X12_child p7.2 4561 p4 (1 : Int32)).bind (fun p8 => (if xk p7.2 4561 12 = true then (f_X12_gathers p7.2 4561 p8 (Int32.ofNat (nm))).bind (fun p9 => (if p9.1 = (0 : Int32) then f_X12_solve_j98 p9.2 else (if xk p9.2 4561 12 = true then (f_X12_degreeOf p9.2 4561 (0 : Int32)).bind (fun p10 => (if (1 : Int32) < p10 then f_X12_solve_j98 p9.2 else (if xk p9.2 4561 12 = true then (f_X12_degreeOf p9.2 4561 (1 : Int32)).bind (fun p11 => (if p11 ≤ (1 : Int32) then (f_X12_coefficientAt p9.2 (0 : Int32) (1 : Int32)).bind (fun p12 => (f_X12_coefficientAt p9.2 (0 : Int32) (0 : Int32)).bind (fun p13 => (f_X12_coefficientAt p9.2 (1 : Int32) (1 : Int32)).bind (fun p14 => (f_X12_coefficientAt p9.2 (1 : Int32) (0 : Int32)).bind (fun p15 => (if xk p9.2 4561 12 = true then (f_X12_compareValues p9.2 4561 p12 p14).bind (fun p16 => (if p16.1 = (0 : Int32) then f_X12_solve_j144 p16.2 4561 p12 p13 p14 p15 (0 : Int32) else f_X12_solve_j144 p16.2 4561 p12 p13 p14 p15 (1 : Int32))) else none))))) else f_X12_solve_j98 p9.2)) else none))) else none))) else none)) else none))) else none) else f_X12_solve_j98 σ5)) else none)))) (fun z => ∃ I', (∀ x j, x < 4561 → I' x j = I x j) ∧ I' 4561 0 = 0 ∧ z = ((soR (soF b n nm T)).1, mg 4625 I' J R) ∧ InvM I' t s b n f (match (soR (soF b n nm T)).2 with | none => v | some x => gv x) q p r h) := by
  have t0 : 0 < T.1 := hT.1.1
  have nv := hT.2 0 t0
  have h30 := hC.1
  rw [M_shelf, gs_4561, if_pos ok_4561]
  have c1 : ∀ x j, x < 4561 → up I 4561 68 0 x j = I x j := fun x j hx => up_n (by omega)
  have z1 : up I 4561 68 0 4561 0 = 0 := (up_n (by omega)).trans z0
  have t1 : up I 4561 68 0 4561 68 = (Int32.ofNat (0)) := up_s
  have hM1 : InvM (up I 4561 68 0) t s b n f v q p r h := InvM_keep hM h30 (CSh_80 hC) (fun a x hx => up_n (by unfold DM at hx; omega))
  have A1 : MT (up I 4561 68 0) (80 * k) T.1 T.2.1 T.2.2 := MT_keep hA (fun x k g1 g2 g3 g4 => up_n (by omega))
  generalize up I 4561 68 0 = I1 at *
  have no : ∀ {I' : Nat → Nat → Int32}, soF b n nm T = none → (∀ x j, x < 4561 → I' x j = I x j) → I' 4561 0 = 0 → InvM I' t s b n f v q p r h → QK (f_X12_solve_j98 (mg 4625 I' J R)) (fun z => ∃ I', (∀ x j, x < 4561 → I' x j = I x j) ∧ I' 4561 0 = 0 ∧ z = ((soR (soF b n nm T)).1, mg 4625 I' J R) ∧ InvM I' t s b n f (match (soR (soF b n nm T)).2 with | none => v | some x => gv x) q p r h) := fun e c z hm => by
    unfold f_X12_solve_j98
    rw [e]
    exact q_ok ⟨_, c, z, rfl, hm⟩
  have mm : ∀ {G : Int32 → Option (Int32 × xM)}, (f_X12_meaningAt (mg 4625 I1 J R) 4561 (Int32.ofNat (80 * k))).bind G = G (mi (mz b (T.2.1 0))) := fun {G} => M_mi (i := 0) hR A1 t0 nv hM1.2.2.1 hOb
  rw [mm]
  by_cases m7 : mz b (T.2.1 0) = 7
  rotate_left
  · rw [if_neg (show ¬ mi (mz b (T.2.1 0)) = (7 : Int32) from fun y => m7 (by
      rcases mz_b hOb nv with z | z
      · rw [z] at y
        exact absurd y (by decide)
      · rw [mi_s z.2] at y
        exact (i32_eq (m := 7) (by omega) (by omega)).mp y))]
    exact no (if_neg m7) c1 z1 hM1
  rw [m7, if_pos (show mi 7 = (7 : Int32) from rfl), if_pos ok_4561, show (Int32.ofNat (80 * k)) + (1 : Int32) = (Int32.ofNat (80 * k + 1)) from n_add _ 1]
  have h2 : aro T.2.1 0 = 2 := (mz_two hOb nv (by omega)).2
  obtain ⟨f0, a1, kc, -⟩ := two_kids hT t0 h2
  have a1 : 1 < T.1 := by omega
  have gK := fun j P (hj : j < T.1) => gaF_K (nm := nm) hT hOb hg 100 j P hj
  have so : soF b n nm T = (match gaF b n nm T 100 1 with
    | none => none
    | some p => match gaF b n nm T 100 (kid T.2.2 0 1) with
      | none => none
      | some q => if dgP p ≤ 1 ∧ dgP q ≤ 1 then some (p, q) else none) := if_pos m7
  have sp1 := (hT.1.2.2.2 1 a1).2.1
  have sp2 := (hT.1.2.2.2 _ kc).2.1
  refine q_bind (M_gathers (T := sbT T 1) (a := 80 * k + 1) (nm := nm) (h0 := 0) hR hOb hg (TtO_sb hT a1) (by show T.2.2 1 ≤ 80; omega) (by omega) (by omega) hM1.2.2.1 hM1.2.2.2.1 (MT_sb A1 a1) t1) ?_
  rintro _ ⟨I2, f2, hz⟩
  have hM2 : InvM I2 t s b n f v q p r h := InvM_keep hM1 h30 (CSh_80 hC) (fun a x hx => f2 a x (fun w => by unfold Fgm at w; unfold DM at hx; omega))
  have c2 : ∀ x j, x < 4561 → I2 x j = I x j := fun x j hx => by rw [f2 x j (by unfold Fgm; omega), c1 x j hx]
  have z2 : I2 4561 0 = 0 := by rw [f2 4561 0 (by unfold Fgm; omega)]; exact z1
  rw [gaF_sb] at hz
  rcases hz with ⟨P, eP, rfl, M2, t2⟩ | ⟨eP, rfl⟩
  rotate_left
  · have eP : gaF b n nm T 100 1 = none := eP
    rw [if_pos rfl]
    exact no (by rw [so, eP]) c2 z2 hM2
  have eP : gaF b n nm T 100 1 = some P := eP
  have A2 : MT I2 (80 * k) T.1 T.2.1 T.2.2 := MT_keep A1 (fun x k g1 g2 g3 g4 => f2 x k (by unfold Fgm; omega))
  rw [if_neg (show ¬ ((1 : Int32), mg 4625 I2 J R).1 = 0 from fun y => absurd (show (1 : Int32) = 0 from y) (by decide)), if_pos ok_4561, show f_X12_child (mg 4625 I2 J R) 4561 (Int32.ofNat (80 * k)) 1 = some (Int32.ofNat (80 * k + kid T.2.2 0 1)) from M_child (i := 0) (k := 1) hR A2 t0 (by omega), Option.bind_some, if_pos ok_4561]
  refine q_bind (M_gathers (T := sbT T (kid T.2.2 0 1)) (a := 80 * k + kid T.2.2 0 1) (nm := nm) (h0 := 1) hR hOb hg (TtO_sb hT kc) (by show T.2.2 (kid T.2.2 0 1) ≤ 80; omega) (by omega) (by omega) hM2.2.2.1 hM2.2.2.2.1 (MT_sb A2 kc) t2) ?_
  rintro _ ⟨I3, f3, hz⟩
  have hM3 : InvM I3 t s b n f v q p r h := InvM_keep hM2 h30 (CSh_80 hC) (fun a x hx => f3 a x (fun w => by unfold Fgm at w; unfold DM at hx; omega))
  have c3 : ∀ x j, x < 4561 → I3 x j = I x j := fun x j hx => by rw [f3 x j (by unfold Fgm; omega), c2 x j hx]
  have z3 : I3 4561 0 = 0 := by rw [f3 4561 0 (by unfold Fgm; omega)]; exact z2
  rw [gaF_sb, Nat.add_zero] at hz
  rcases hz with ⟨Q, eQ, rfl, M3, -⟩ | ⟨eQ, rfl⟩
  rotate_left
  · rw [if_pos rfl]
    exact no (by rw [so, eP]; dsimp only; rw [eQ]) c3 z3 hM3
  have P3 : MRow I3 0 P := fun x hx => Vv_ks (S := fun x => 2700 + 9 * 1 ≤ x) (M2 x hx) (fun u hu => f3 4564 u (by unfold Fgm; omega)) (by omega)
  have dP : dgP P ≤ 8 := dgF_le P 8
  have dQ : dgP Q ≤ 8 := dgF_le Q 8
  rw [if_neg (show ¬ ((1 : Int32), mg 4625 I3 J R).1 = 0 from fun y => absurd (show (1 : Int32) = 0 from y) (by decide)), if_pos ok_4561, show f_X12_degreeOf (mg 4625 I3 J R) 4561 0 = some (Int32.ofNat (dgP P)) from M_degreeOf (r := 0) hR (by omega) P3, Option.bind_some]
  by_cases d1 : dgP P ≤ 1
  rotate_left
  · rw [if_pos (show (1 : Int32) < (Int32.ofNat (dgP P)) from (i32_lt (k := 1) (by omega) (by omega)).mpr (by omega))]
    refine no ?_ c3 z3 hM3
    rw [so, eP]
    dsimp only
    rw [eQ]
    dsimp only
    rw [if_neg (fun y => d1 y.1)]
  rw [if_neg (show ¬ (1 : Int32) < (Int32.ofNat (dgP P)) from fun y => absurd ((i32_lt (k := 1) (by omega) (by omega)).mp y) (by omega)), if_pos ok_4561, show f_X12_degreeOf (mg 4625 I3 J R) 4561 1 = some (Int32.ofNat (dgP Q)) from M_degreeOf (r := 1) hR (by omega) M3, Option.bind_some]
  by_cases d2 : dgP Q ≤ 1
  rotate_left
  · rw [if_neg (show ¬ (Int32.ofNat (dgP Q)) ≤ (1 : Int32) from fun y => d2 ((i32_le (m := 1) (by omega) (by omega)).mp y))]
    refine no ?_ c3 z3 hM3
    rw [so, eP]
    dsimp only
    rw [eQ]
    dsimp only
    rw [if_neg (fun y => d2 y.2)]
  have so' : soF b n nm T = some (P, Q) := by
    rw [so, eP]
    dsimp only
    rw [eQ]
    dsimp only
    rw [if_pos ⟨d1, d2⟩]
  have sr : soR (soF b n nm T) = soT P Q := by rw [so']; rfl
  have hC3 : CSh I3 s := CSh_keep hC (fun x hx => funext (fun j => c3 x j (by omega)))
  rw [sr, if_pos (show (Int32.ofNat (dgP Q)) ≤ (1 : Int32) from (i32_le (m := 1) (by omega) (by omega)).mpr d2), show f_X12_coefficientAt (mg 4625 I3 J R) 0 1 = some 2701 from cAt (r := 0) (k := 1), Option.bind_some, show f_X12_coefficientAt (mg 4625 I3 J R) 0 0 = some 2700 from cAt (r := 0) (k := 0), Option.bind_some, show f_X12_coefficientAt (mg 4625 I3 J R) 1 1 = some 2710 from cAt (r := 1) (k := 1), Option.bind_some, show f_X12_coefficientAt (mg 4625 I3 J R) 1 0 = some 2709 from cAt (r := 1) (k := 0), Option.bind_some, if_pos ok_4561]
  refine q_bind (M_cmp (a := 2701) (b := 2710) hR (by omega) (by omega) (P3 1 (by decide)) (M3 1 (by decide))) ?_
  rintro _ ⟨I4, y, rfl, r4, v4, hy⟩
  have c4 : ∀ x j, x < 4561 → I4 x j = I x j := fun x j hx => by rw [r4.1 x (by omega), c3 x j hx]
  have z4 : I4 4561 0 = 0 := by rw [r4.1 4561 (by omega)]; exact z3
  have hM4 : InvM I4 t s b n f v q p r h := InvM_keep hM3 h30 (CSh_80 hC) (fun a j hx => by
    by_cases w : a = 4564
    · rw [w, v4]
    · rw [r4.1 a (by unfold DM at hx; omega)])
  have hC4 : CSh I4 s := CSh_keep hC (fun x hx => funext (fun j => c4 x j (by omega)))
  have y0 : y = 0 ↔ P 1 = Q 1 := by
    rw [← eq_cross]
    rcases hy with ⟨a1, a2⟩ | ⟨a1, a2⟩ | ⟨a1, a2⟩
    · constructor
      · intro w
        rw [w] at a2
        exact absurd a2 (by decide)
      · intro w
        omega
    · exact ⟨fun _ => by omega, fun _ => a2⟩
    · constructor
      · intro w
        rw [w] at a2
        exact absurd a2 (by decide)
      · intro w
        omega
  have tail := M_solveTail (J := J) (p := P) (q := Q) hR hM4 hC4 z4 (MRow_eq P3 v4) (MRow_eq M3 v4)
  dsimp only
  by_cases z : P 1 = Q 1
  · rw [if_pos z] at tail
    rw [if_pos (y0.mpr z)]
    refine q_mono tail ?_
    rintro _ ⟨I5, c5, z5, rfl, hM5⟩
    exact ⟨I5, fun x j hx => (c5 x j hx).trans (c4 x j hx), z5, rfl, hM5⟩
  · rw [if_neg z] at tail
    rw [if_neg (fun w => z (y0.mp w))]
    refine q_mono tail ?_
    rintro _ ⟨I5, c5, z5, rfl, hM5⟩
    exact ⟨I5, fun x j hx => (c5 x j hx).trans (c4 x j hx), z5, rfl, hM5⟩
theorem o_solve (hR : RA R) (H : Inv I) : op_solve Pinv (mg 4625 I J R) := by
  obtain ⟨t, s, b, n, f, v, q, p, r, h, hC, hM, hO⟩ := H
  intro x y0
  have h30 := hC.2.1.1
  have hOb := (OKH_top hO).1
  show opW Pinv (f_L_solve (mg 4625 I J R) 0 x (ch y0) 4624) (fun σ => f_X12_solve σ 4561 x (ch y0))
  generalize ch y0 = y
  rcases i32_two s.1 (by omega) x with ⟨k, hk, rfl⟩ | hx
  rotate_left
  · have e3 : f_L_solve (mg 4625 I J R) 0 x y 4624 = some (1, mg 4625 I J R) := by
      unfold f_L_solve f_X11_solve
      rw [if_pos ok_0, if_pos ok_0, C_treeAt0 hR hC.2.1 hx, Sum.elim_inr, Option.bind_some, q_let, Sum.elim_inr, if_pos rfl]
    have e2 : f_X12_solve (mg 4625 I J R) 4561 x y = some (0, mg 4625 (thI I 1) J R) := by
      unfold f_X12_solve f_X12_solve_j14 f_X12_solve_j26
      rw [if_pos ok_4561, M_isTree0 hM.2.1 h30 hx, if_pos rfl]
      rcases m_isNameE (σ := mg 4625 I J R) (c := y) with e | e
      · rw [e, Option.bind_some, if_pos rfl, if_pos ok_4561, m_refX]
      · rw [e, Option.bind_some, if_neg (by decide), if_pos ok_4561, m_refX]
    exact op_ex e3 e2 thI_0 (by decide) (Pinv_th hR hC hM hO (fun x _ => rfl))
  have ct := hC.2.1.2.2 k hk
  have n80 := (CT_n ct).2
  have hT : TtO b (shT s k) := tro_of hC hO hk
  by_cases hy : (97 : Int32) ≤ y ∧ y ≤ (122 : Int32)
  rotate_left
  · have e3 : f_L_solve (mg 4625 I J R) 0 (Int32.ofNat (k)) y 4624 = some (2, mg 4625 I J R) := by
      unfold f_L_solve f_X11_solve
      rw [if_pos ok_0, if_pos ok_0, C_treeAt1 hR hC.2.1 hk, Sum.elim_inl, if_pos ok_0, c_needName0 hy, Option.bind_some, Sum.elim_inr, Option.bind_some, q_let, Sum.elim_inr, if_neg (by decide), if_pos rfl]
    have e2 : f_X12_solve (mg 4625 I J R) 4561 (Int32.ofNat (k)) y = some (0, mg 4625 (thI I 2) J R) := by
      unfold f_X12_solve f_X12_solve_j14 f_X12_solve_j26
      rw [if_pos ok_4561, M_isTree1 hM.2.1 h30 hk, if_neg (by decide), m_isName0 hy, Option.bind_some, if_pos rfl, if_pos ok_4561, m_refY]
    exact op_ex e3 e2 thI_0 (by decide) (Pinv_th hR hC hM hO (fun x _ => rfl))
  obtain ⟨nm, h1, rfl⟩ : ∃ nm, nm < 123 ∧ y = (Int32.ofNat (nm)) := by
    rcases i32_two 123 (by omega) y with ⟨m, hm, rfl⟩ | z | z
    · exact ⟨m, hm, rfl⟩
    · exact absurd (Int32.lt_of_le_of_lt hy.1 z) (by decide)
    · exact absurd (Int32.le_trans z hy.2) (by decide)
  have hg : ∀ l, l < 26 → Gd (n.2 l) := (env_of hC hM hO).2.2.2.1
  obtain ⟨_, e1, I1, rfl, k1, hC1⟩ := C_solve (J := J) (a := 70 + 8 * k) (T := shT s k) (nm := nm) (x := (Int32.ofNat (k))) hR hOb hg (by omega) hT n80 h1 hy.1 hy.2 hC ct (fun {β F} => C_treeAt1 hR hC.2.1 hk)
  generalize hJ : oJ J (soR (soF b n nm (shT s k))).1.toInt64 = J1
  have hM1 : InvM I1 t s b n f v q p r h := InvM_C hM hC.2.1 (fun x k hx _ => k1 x k hx)
  have hM2 : InvM (thI I1 0) t s b n f v q p r h := InvM_C hM1 hC.2.1 (fun x k hx hk => thI_n hk)
  have hC2 : CSh (thI I1 0) s := CSh_th hC1.2.1
  obtain ⟨_, e4, I4, c4, z4, rfl, hM4⟩ := M_solve (J := J1) (T := shT s k) (nm := nm) (k := k) hR hOb hg hT n80 h1 hM2 hC2 (hM2.2.1.2 k hk).2 thI_0
  have e2 : f_X12_solve (mg 4625 I1 J1 R) 4561 (Int32.ofNat (k)) (Int32.ofNat (nm)) = some ((soR (soF b n nm (shT s k))).1, mg 4625 I4 J1 R) := by
    unfold f_X12_solve f_X12_solve_j14 f_X12_solve_j26
    rw [if_pos ok_4561, M_isTree1 hM1.2.1 h30 hk, if_neg (by decide), m_isName1 hy.1 hy.2, Option.bind_some, if_neg (by decide), if_pos ok_4561, m_refO]
    exact e4
  subst hJ
  refine op_ok (l_solve e1) e2 z4 (Pinv_mk hR (InvC_M hC1 (fun x j hx => ?_)) hM4 hO)
  rw [c4 x j hx, thI_n (by omega)]
end OSO
