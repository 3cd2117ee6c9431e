/-! calls: step, simplify -/
section OST
variable {I : Nat → Nat → Int32} {J : Nat → Nat → Int64} {R : Nat → Nat → Option Nat} {t : GT} {s : GS} {b : GB} {n : GN} {f : GF} {v : GV} {q : Nat → GV} {p : GT} {r : GR} {h : GH} {β : Type}
theorem l_step {x w : Int32} {I1 : Nat → Nat → Int32} {R1 : Nat → Nat → Option Nat} (h : f_X11_step (mg 4625 I J R) 0 x = some (.inl w, mg 4625 I1 J R1)) : f_L_step (mg 4625 I J R) 0 x 4624 = some (0, mg 4625 I1 (oJ J w.toInt64) R1) := by
  unfold f_L_step
  rw [if_pos ok_0, h, Option.bind_some, q_let, Sum.elim_inl, owJ0]
  rfl
theorem l_simplify {x w : Int32} {I1 : Nat → Nat → Int32} {R1 : Nat → Nat → Option Nat} (h : f_X11_simplify (mg 4625 I J R) 0 x = some (.inl w, mg 4625 I1 J R1)) : f_L_simplify (mg 4625 I J R) 0 x 4624 = some (0, mg 4625 I1 (oJ J w.toInt64) R1) := by
  unfold f_L_simplify
  rw [if_pos ok_0, h, Option.bind_some, q_let, Sum.elim_inl, owJ0]
  rfl
/-- the tree with a number -/
def shT (s : GS) (k : Nat) : Tt := (s.2.1 k, s.2.2.1 k, s.2.2.2 k)
/-- what steps leave on the class's side -/
def StC (J : Nat → Nat → Int64) (R : Nat → Nat → Option Nat) (Z : List (Nat × Nat) × Tt) (e : Int32) (I : Nat → Nat → Int32) (t : GT) (s : GS) (b : GB) (n : GN) (f : GF) (v : GV) (q : Nat → GV) (p : GT) (h : GH) (y : (Int32 ⊕ String) × xM) : Prop := ∃ I', (∀ a k, 4561 ≤ a → I' a k = I a k) ∧ ((Z.1.length = 0 ∧ y = (.inl e, mg 4625 I' J R) ∧ InvC I' t s b n f v q p (trG Z.1) h) ∨ (Z.1.length ≠ 0 ∧ y = (.inl (Int32.ofNat (s.1)), mg 4625 I' J R) ∧ InvC I' t (sPush s Z.2.1 Z.2.2.1 Z.2.2.2) b n f v q p (trG Z.1) (hShelf h)))
def StQ (J : Nat → Nat → Int64) (R : Nat → Nat → Option Nat) (Z : List (Nat × Nat) × Tt) (e : Int32) (I : Nat → Nat → Int32) (t : GT) (s : GS) (b : GB) (n : GN) (f : GF) (v : GV) (q : Nat → GV) (p : GT) (h : GH) (y : Int32 × xM) : Prop := ∃ I', (∀ a k, a < 4561 → I' a k = I a k) ∧ I' 4561 0 = 0 ∧ ((Z.1.length = 0 ∧ y = (e, mg 4625 I' J R) ∧ InvM I' t s b n f v q p (trG Z.1) h) ∨ (Z.1.length ≠ 0 ∧ y = ((Int32.ofNat (s.1)), mg 4625 I' J R) ∧ InvM I' t (sPush s Z.2.1 Z.2.2.1 Z.2.2.2) b n f v q p (trG Z.1) (hShelf h)))
/-- the class, behind its steps -/
theorem C_stepTail {k M : Nat} {e : Int32} (hR : RA R) (hC : InvC I t s b n f v q p r h) (hO : OKH s b f h) (hk : k < s.1) (h30 : s.1 < 30) (hM : M ≤ 80) : QK ((f_X11_takeSteps (mg 4625 I J R) 0 (70 + 8 * k) (Int32.ofNat (M))).bind (fun p5 => (if p5.1 = (0 : Int32) then some ((Sum.inl e : Int32 ⊕ String), p5.2) else (gR p5.2 0 11 2).bind (fun x6 => (gR p5.2 0 11 12).bind (fun x7 => (if xk p5.2 x6 1 = true then (f_X1_shelve p5.2 x6 x7).bind (fun p8 => some ((Sum.inl p8.1 : Int32 ⊕ String), p8.2)) else none)))))) (StC J R (stN b M (shT s k)) e I t s b n f v q p h) := by
  have hT : TtO b (shT s k) := tro_of hC hO hk
  have hOb := (OKH_top hO).1
  have ct := hC.2.1.2.2 k hk
  have n80 := (CT_n ct).2
  refine q_bind (C_takeSteps (T := shT s k) hR hOb hC.2.2.1 (by omega) ct hT hM) ?_
  rintro _ ⟨I1, rfl, f1, t1, A1⟩
  obtain ⟨z1, z2, z3⟩ := stN_O hOb M (shT s k) hT n80
  have l80 : (stN b M (shT s k)).1.length ≤ 80 := by
    have : (shT s k).1 ≤ 80 := n80
    omega
  have hC1 : InvC I1 t s b n f v q p (trG (stN b M (shT s k)).1) h := C_traced hC (fun x hx y0 y1 y2 => by
    funext j
    exact f1 x j (by unfold DC at hx; unfold Sts St; omega)) (fun j hj => f1 0 j (by unfold Sts St; omega)) (TrS_CTr t1 l80)
  have k1 : ∀ a k, 4561 ≤ a → I1 a k = I a k := fun a k ha => f1 a k (by unfold Sts St; omega)
  dsimp only
  by_cases q0 : (stN b M (shT s k)).1.length = 0
  · rw [if_pos (show (Int32.ofNat ((stN b M (shT s k)).1.length)) = (0 : Int32) by rw [q0]; rfl)]
    exact q_ok ⟨I1, k1, Or.inl ⟨q0, rfl, hC1⟩⟩
  · rw [if_neg (show ¬ (Int32.ofNat ((stN b M (shT s k)).1.length)) = (0 : Int32) from i32_ne (b := 0) (by omega) (by omega) q0), gr_0_2 hR, gr_0_12 hR, if_pos ok_11]
    refine q_bind (C_shelve hR hC1 A1 h30 (by omega)) ?_
    rintro _ ⟨I2, rfl, hC2, f2⟩
    exact q_ok ⟨I2, fun a k ha => by rw [f2 a (by omega), k1 a k ha], Or.inr ⟨q0, rfl, hC2⟩⟩
/-- both sides together -/
theorem st_fin {Z : List (Nat × Nat) × Tt} {e : Int32} {X : Option ((Int32 ⊕ String) × xM)} {fl : Option (Int32 × xM)} {fm : xM → Option (Int32 × xM)} (hR : RA R) (hC : InvC I t s b n f v q p r h) (hM : InvM I t s b n f v q p r h) (hO : OKH s b f h) (hZ : TtO b Z.2) (hcl : QK X (StC J R Z e I t s b n f v q p h)) (hfl : ∀ w I1 R1, X = some (.inl w, mg 4625 I1 J R1) → fl = some (0, mg 4625 I1 (oJ J w.toInt64) R1)) (href : ∀ I2 J, InvM I2 t s b n f v q p r h → (∀ a k, 4561 ≤ a → I2 a k = I a k) → QK (fm (mg 4625 I2 J R)) (StQ J R Z e I2 t s b n f v q p h)) : opW Pinv fl fm := by
  have h20 := hC.2.2.2.2.2.2.2.2.2.1
  have hf := hC.2.2.2.2.2.2.2.2.2.2.1
  obtain ⟨yc, e1, I2, k2, hy⟩ := hcl
  have hM2 : InvM I2 t s b n f v q p r h := InvM_C hM hC.2.1 (fun x k hx _ => k2 x k hx)
  rcases hy with ⟨z0, rfl, g2⟩ | ⟨z0, rfl, g2⟩
  · obtain ⟨yr, e2, I3, k3, k0, ⟨z1, g3, g4⟩ | ⟨z1, -⟩⟩ := href I2 (oJ J e.toInt64) hM2 k2
    · rw [g3] at e2
      exact op_ok (hfl _ _ _ e1) e2 k0 (Pinv_mk hR (InvC_M g2 k3) g4 hO)
    · exact absurd z0 z1
  · obtain ⟨yr, e2, I3, k3, k0, ⟨z1, -⟩ | ⟨z1, g3, g4⟩⟩ := href I2 (oJ J ((Int32.ofNat (s.1))).toInt64) hM2 k2
    · exact absurd z1 z0
    · rw [g3] at e2
      exact op_ok (hfl _ _ _ e1) e2 k0 (Pinv_sh hR g2 g4 k3 hO h20 hf hZ.2)
theorem WkM_in {I0 I' : Nat → Nat → Int32} {l : List (Nat × Nat)} (hM : InvM I t s b n f v q p r h) (hC : CSh I0 s) (hF : FrK Fsk I I') (ht : TrQ I' l) : InvM I' t s b n f v q p (trG l) h := M_traced hM hC (fun a k g1 g2 g3 g4 => hF a k (by unfold DM at g1; unfold Fsk Sm; omega)) ht
/-- the reference shelves its tree at work -/
theorem M_shelveWork {I0 : Nat → Nat → Int32} {T : Tt} {l : List (Nat × Nat)} (hR : RA R) (hM : InvM I t s b n f v q p (trG l) h) (hC : InvC I0 t s b n f v q p r h) (hO : OKH s b f h) (hT : TtO b T) (hA : WkM I T) (h30 : s.1 < 30) (h80 : T.1 ≤ 80) : QK (f_X12_shelve (mg 4625 I J R) 4561 (Int32.ofNat (13540)) (Int32.ofNat (T.1))) (fun x => ∃ I', x = ((Int32.ofNat (s.1)), mg 4625 I' J R) ∧ InvM I' t (sPush s T.1 T.2.1 T.2.2) b n f v q p (trG l) (hShelf h) ∧ (∀ a k, a < 4561 → I' a k = I a k) ∧ I' 4561 0 = I 4561 0) :=
  M_shelve hR hM hO hC.2.2.2.2.2.2.2.2.2.1 hC.2.2.2.2.2.2.2.2.2.2.1 hA.1.1 hT.1 h30 (CSh_80 hC.2.1) h80 (Or.inl (by omega))
theorem M_stepStart {k : Nat} {I0 : Nat → Nat → Int32} (hR : RA R) (hM : InvM I t s b n f v q p r h) (hk : k < s.1) (h30 : s.1 ≤ 30) (n80 : s.2.1 k ≤ 80) : QK ((f_X12_takeWork (mg 4625 I J R) 4561 (Int32.ofNat (80 * k))).bind (fun p5 => sI p5 4561 12 67 (0 : Int32))) (fun r => ∃ I', r = mg 4625 I' J R ∧ FrK Fsk I I' ∧ WkM I' (shT s k) ∧ TrQ I' []) := by
  have mt := (hM.2.1.2 k hk).2
  refine q_bind (M_takeWork (T := shT s k) hR mt (by show 80 * k + s.2.1 k ≤ 13540; omega) n80) ?_
  rintro _ ⟨I1, rfl, f1, A1⟩
  refine ⟨_, osI_4561, up I1 4561 67 0, rfl, fun x j y => ?_, ⟨MT_keep A1.1 (fun a k h1 h2 _ _ => up_n (by omega)), by rw [up_n (by omega)]; exact A1.2⟩, by rw [up_s]; rfl, fun j hj => absurd hj (Nat.not_lt_zero _)⟩
  have y2 := y
  unfold Fsk at y
  rw [up_n (by omega)]
  exact Sw2_Fsk f1 x j y2
theorem o_step (hR : RA R) (H : Inv I) : op_step Pinv (mg 4625 I J R) := by
  obtain ⟨t, s, b, n, f, v, q, p, r, h, hC, hM, hO⟩ := H
  intro x
  have h30 := hC.2.1.1
  have hOb := (OKH_top hO).1
  rcases i32_two s.1 (by omega) x with ⟨k, hk, rfl⟩ | hx
  rotate_left
  · have e3 : f_L_step (mg 4625 I J R) 0 x 4624 = some (1, mg 4625 I J R) := by
      unfold f_L_step f_X11_step
      rw [if_pos ok_0, if_pos ok_0, C_treeAt0 hR hC.2.1 hx, Sum.elim_inr, Option.bind_some, q_let, Sum.elim_inr, if_pos rfl]
    have e2 : f_X12_step (mg 4625 I J R) 4561 x = some (0, mg 4625 (thI I 1) J R) := by
      unfold f_X12_step f_X12_step_j14 f_X12_step_j28
      rw [if_pos ok_4561, M_isTree0 hM.2.1 h30 hx, if_pos rfl, gi_4561]
      split <;> rw [if_pos ok_4561, m_refX]
    exact op_ex e3 e2 thI_0 (by decide) (Pinv_th hR hC hM hO (fun x _ => rfl))
  have ct := hC.2.1.2.2 k hk
  have n80 := (CT_n ct).2
  have hT : TtO b (shT s k) := tro_of hC hO hk
  by_cases z : s.1 < 30
  rotate_left
  · have e3 : f_L_step (mg 4625 I J R) 0 (Int32.ofNat (k)) 4624 = some (2, mg 4625 I J R) := by
      unfold f_L_step f_X11_step
      rw [if_pos ok_0, if_pos ok_0, C_treeAt1 hR hC.2.1 hk, Sum.elim_inl, if_pos ok_0, C_room0 hR hC.2.1 (by omega), Sum.elim_inr, Option.bind_some, q_let, Sum.elim_inr, if_neg (by decide), if_pos rfl]
    have e2 : f_X12_step (mg 4625 I J R) 4561 (Int32.ofNat (k)) = some (0, mg 4625 (thI I 2) J R) := by
      unfold f_X12_step f_X12_step_j14 f_X12_step_j28
      rw [if_pos ok_4561, M_isTree1 hM.2.1 h30 hk, if_neg (by decide), gi_4561, hM.2.1.1, if_pos (show (Int32.ofNat (s.1)) = (30 : Int32) by rw [show s.1 = 30 by omega]; rfl), if_pos ok_4561, m_refY]
    exact op_ex e3 e2 thI_0 (by decide) (Pinv_th hR hC hM hO (fun x _ => rfl))
  have key : QK (f_X11_step (mg 4625 I J R) 0 (Int32.ofNat (k))) (StC J R (stN b 1 (shT s k)) (-1) I t s b n f v q p h) := by
    unfold f_X11_step f_X11_step_j34
    rw [if_pos ok_0, C_treeAt1 hR hC.2.1 hk, Sum.elim_inl, if_pos ok_0, C_room1 hR hC.2.1 z, Sum.elim_inl, if_pos ok_0]
    exact C_stepTail (M := 1) hR hC hO hk z (by omega)
  obtain ⟨y1, y2, y3⟩ := stN_O hOb 1 (shT s k) hT n80
  refine st_fin hR hC hM hO y1 key (fun w I1 R1 e => l_step e) ?_
  intro I2 J hM2 k2
  show QK (f_X12_step (mg 4625 I2 J R) 4561 (Int32.ofNat (k))) _
  have hM3 : InvM (thI I2 0) t s b n f v q p r h := InvM_C hM2 hC.2.1 (fun x k hx hk => thI_n hk)
  unfold f_X12_step f_X12_step_j14 f_X12_step_j28 f_X12_step_j72
  rw [if_pos ok_4561, M_isTree1 hM2.2.1 h30 hk, if_neg (by decide), gi_4561, hM2.2.1.1, if_neg (show ¬ (Int32.ofNat (s.1)) = (30 : Int32) from i32_ne (b := 30) (by omega) (by omega) (by omega)), if_pos ok_4561, m_refO, M_shelf, if_pos ok_4561, ← Option.bind_assoc]
  refine q_bind (M_stepStart (I0 := I) hR hM3 hk h30 n80) ?_
  rintro _ ⟨I3, rfl, f3, A3, t3⟩
  rw [if_pos ok_4561]
  refine q_bind (M_stepWork hR (MTb_Fsk f3 hM3.2.2.1) hOb A3 hT n80 (by decide) t3) ?_
  intro y hy
  cases e : stw b (shT s k) with
  | none =>
    rw [e] at hy
    obtain ⟨I4, rfl, f4, A4, t4⟩ := hy
    dsimp only
    rw [if_pos rfl, stN_none e]
    refine q_ok ⟨I4, fun a x ha => ?_, ?_, Or.inl ⟨rfl, rfl, WkM_in hM3 hC.2.1 (FrK_tr f3 f4) t4⟩⟩
    · rw [f4 a x (by unfold Fsk Sm; omega), f3 a x (by unfold Fsk Sm; omega), thI_n (by omega)]
    · rw [f4 4561 0 (by unfold Fsk Sm; omega), f3 4561 0 (by unfold Fsk Sm; omega)]
      exact thI_0
  | some w =>
    obtain ⟨kk, i, T'⟩ := w
    rw [e] at hy
    obtain ⟨I4, rfl, f4, A4, t4⟩ := hy
    obtain ⟨g1, g2, -⟩ := stw_O hT hOb n80 e
    have hM4 := WkM_in hM3 hC.2.1 (FrK_tr f3 f4) t4
    dsimp only
    rw [if_neg (by decide), gi_4561, A4.2, if_pos ok_4561]
    have T80 : T'.1 ≤ 80 := by
      have : (shT s k).1 ≤ 80 := n80
      omega
    refine q_bind (M_shelveWork hR hM4 hC hO g1 A4 z T80) ?_
    rintro _ ⟨I5, rfl, hM5, k5, k50⟩
    rw [stN_some e]
    refine q_ok ⟨I5, fun a x ha => ?_, ?_, Or.inr ⟨Nat.succ_ne_zero _, rfl, hM5⟩⟩
    · rw [k5 a x ha, f4 a x (by unfold Fsk Sm; omega), f3 a x (by unfold Fsk Sm; omega), thI_n (by omega)]
    · rw [k50, f4 4561 0 (by unfold Fsk Sm; omega), f3 4561 0 (by unfold Fsk Sm; omega)]
      exact thI_0
theorem o_simplify (hR : RA R) (H : Inv I) : op_simplify Pinv (mg 4625 I J R) := by
  obtain ⟨t, s, b, n, f, v, q, p, r, h, hC, hM, hO⟩ := H
  intro x
  have h30 := hC.2.1.1
  have hOb := (OKH_top hO).1
  rcases i32_two s.1 (by omega) x with ⟨k, hk, rfl⟩ | hx
  rotate_left
  · have e3 : f_L_simplify (mg 4625 I J R) 0 x 4624 = some (1, mg 4625 I J R) := by
      unfold f_L_simplify f_X11_simplify
      rw [if_pos ok_0, if_pos ok_0, C_treeAt0 hR hC.2.1 hx, Sum.elim_inr, Option.bind_some, q_let, Sum.elim_inr, if_pos rfl]
    have e2 : f_X12_simplify (mg 4625 I J R) 4561 x = some (0, mg 4625 (thI I 1) J R) := by
      unfold f_X12_simplify f_X12_simplify_j14 f_X12_simplify_j28
      rw [if_pos ok_4561, M_isTree0 hM.2.1 h30 hx, if_pos rfl, gi_4561]
      split <;> rw [if_pos ok_4561, m_refX]
    exact op_ex e3 e2 thI_0 (by decide) (Pinv_th hR hC hM hO (fun x _ => rfl))
  have ct := hC.2.1.2.2 k hk
  have n80 := (CT_n ct).2
  have hT : TtO b (shT s k) := tro_of hC hO hk
  by_cases z : s.1 < 30
  rotate_left
  · have e3 : f_L_simplify (mg 4625 I J R) 0 (Int32.ofNat (k)) 4624 = some (2, mg 4625 I J R) := by
      unfold f_L_simplify f_X11_simplify
      rw [if_pos ok_0, if_pos ok_0, C_treeAt1 hR hC.2.1 hk, Sum.elim_inl, if_pos ok_0, C_room0 hR hC.2.1 (by omega), Sum.elim_inr, Option.bind_some, q_let, Sum.elim_inr, if_neg (by decide), if_pos rfl]
    have e2 : f_X12_simplify (mg 4625 I J R) 4561 (Int32.ofNat (k)) = some (0, mg 4625 (thI I 2) J R) := by
      unfold f_X12_simplify f_X12_simplify_j14 f_X12_simplify_j28
      rw [if_pos ok_4561, M_isTree1 hM.2.1 h30 hk, if_neg (by decide), gi_4561, hM.2.1.1, if_pos (show (Int32.ofNat (s.1)) = (30 : Int32) by rw [show s.1 = 30 by omega]; rfl), if_pos ok_4561, m_refY]
    exact op_ex e3 e2 thI_0 (by decide) (Pinv_th hR hC hM hO (fun x _ => rfl))
  have key : QK (f_X11_simplify (mg 4625 I J R) 0 (Int32.ofNat (k))) (StC J R (stN b 80 (shT s k)) (Int32.ofNat (k)) I t s b n f v q p h) := by
    unfold f_X11_simplify f_X11_simplify_j35
    rw [if_pos ok_0, C_treeAt1 hR hC.2.1 hk, Sum.elim_inl, if_pos ok_0, C_room1 hR hC.2.1 z, Sum.elim_inl, if_pos ok_0]
    exact C_stepTail (M := 80) hR hC hO hk z (by omega)
  obtain ⟨y1, y2, y3⟩ := stN_O hOb 80 (shT s k) hT n80
  refine st_fin hR hC hM hO y1 key (fun w I1 R1 e => l_simplify e) ?_
  intro I2 J hM2 k2
  show QK (f_X12_simplify (mg 4625 I2 J R) 4561 (Int32.ofNat (k))) _
  have hM3 : InvM (thI I2 0) t s b n f v q p r h := InvM_C hM2 hC.2.1 (fun x k hx hk => thI_n hk)
  unfold f_X12_simplify f_X12_simplify_j14 f_X12_simplify_j28
  rw [if_pos ok_4561, M_isTree1 hM2.2.1 h30 hk, if_neg (by decide), gi_4561, hM2.2.1.1, if_neg (show ¬ (Int32.ofNat (s.1)) = (30 : Int32) from i32_ne (b := 30) (by omega) (by omega) (by omega)), if_pos ok_4561, m_refO, M_shelf, if_pos ok_4561, ← Option.bind_assoc]
  refine q_bind (M_stepStart (I0 := I) hR hM3 hk h30 n80) ?_
  rintro _ ⟨I3, rfl, f3, A3, t3⟩
  rw [if_pos ok_4561, ← Option.bind_assoc]
  have sh80 : (shT s k).1 ≤ 80 := n80
  refine q_bind (M_stepsAll (x := (Int32.ofNat (k))) hR hOb 80 [] (shT s k) I3 sh80 (by show 0 + (shT s k).1 ≤ 80; omega) (MTb_Fsk f3 hM3.2.2.1) A3 hT t3 xF (by unfold xF; omega)) ?_
  rintro _ ⟨I4, rfl, f4, t4, A4⟩
  rw [List.nil_append] at t4
  simp only [Sum.elim_inr]
  have hM4 := WkM_in hM3 hC.2.1 (FrK_tr f3 f4) t4
  unfold f_X12_simplify_j67 f_X12_simplify_j89
  have et : I4 4561 67 = (Int32.ofNat ((stN b 80 (shT s k)).1.length)) := t4.1
  rw [gi_4561, et]
  by_cases q0 : (stN b 80 (shT s k)).1.length = 0
  · rw [if_pos (show (Int32.ofNat ((stN b 80 (shT s k)).1.length)) ≤ (0 : Int32) by rw [q0]; decide)]
    refine q_ok ⟨I4, fun a x ha => ?_, ?_, Or.inl ⟨q0, rfl, hM4⟩⟩
    · rw [f4 a x (by unfold Fsk Sm; omega), f3 a x (by unfold Fsk Sm; omega), thI_n (by omega)]
    · rw [f4 4561 0 (by unfold Fsk Sm; omega), f3 4561 0 (by unfold Fsk Sm; omega)]
      exact thI_0
  · rw [if_neg (show ¬ (Int32.ofNat ((stN b 80 (shT s k)).1.length)) ≤ (0 : Int32) from fun y => absurd ((i32_le (m := 0) (by omega) (by omega)).mp y) (by omega)), gi_4561, A4.2, if_pos ok_4561]
    refine q_bind (M_shelveWork hR hM4 hC hO y1 A4 z (by omega)) ?_
    rintro _ ⟨I5, rfl, hM5, k5, k50⟩
    refine q_ok ⟨I5, fun a x ha => ?_, ?_, Or.inr ⟨q0, rfl, hM5⟩⟩
    · rw [k5 a x ha, f4 a x (by unfold Fsk Sm; omega), f3 a x (by unfold Fsk Sm; omega), thI_n (by omega)]
    · rw [k50, f4 4561 0 (by unfold Fsk Sm; omega), f3 4561 0 (by unfold Fsk Sm; omega)]
      exact thI_0
end OST
