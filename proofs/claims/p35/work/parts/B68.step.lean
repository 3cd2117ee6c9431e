/-! making simpler: steps, for both sides -/
def ip (T : Tt) (q : Nat) : Nat := ((List.range T.1).find? (fun i => pl T.2.2 i == q)).getD 0
theorem ip_pl {T : Tt} {ar : Nat → Nat} (hW : WT T.1 ar T.2.2) {i : Nat} (hi : i < T.1) : ip T (pl T.2.2 i) = i := by
  have h : ((List.range T.1).find? (fun j => pl T.2.2 j == pl T.2.2 i)).isSome = true := by
    rw [List.find?_isSome]
    exact ⟨i, List.mem_range.mpr hi, beq_self_eq_true _⟩
  obtain ⟨j, hj⟩ := Option.isSome_iff_exists.mp h
  have e := List.find?_some hj
  have m := List.mem_of_find?_eq_some hj
  unfold ip
  rw [hj]
  exact pl_inj hW (List.mem_range.mp m) hi (eq_of_beq e)
def stL (b : GB) (T : Tt) : Nat → Nat → Option (Nat × Nat × Tt)
  | 0, _ => none
  | m + 1, q => match rl b T (ip T q) with
    | some (r, T') => some (r, ip T q, T')
    | none => stL b T m (q + 1)
def stw (b : GB) (T : Tt) : Option (Nat × Nat × Tt) := stL b T T.1 0
theorem stL_c (b : GB) (T : Tt) (m q : Nat) : stL b T (m + 1) q = match rl b T (ip T q) with
    | some (r, T') => some (r, ip T q, T')
    | none => stL b T m (q + 1) := rfl
theorem stL_O {b : GB} {T : Tt} (hT : TtO b T) (hO : TbOK b) (h80 : T.1 ≤ 80) : ∀ m q, q + m = T.1 → ∀ k i T', stL b T m q = some (k, i, T') → TtO b T' ∧ T'.1 < T.1 ∧ 1 ≤ k ∧ k ≤ 7 ∧ i < T.1 := by
  intro m
  induction m with
  | zero => intro q _ k i T' h; cases h
  | succ m ih =>
    intro q hq k i T' h
    obtain ⟨i0, hi0, e0⟩ := pl_sur hT.1 (show q < T.1 by omega)
    rw [stL_c, ← e0, ip_pl hT.1 hi0, e0] at h
    cases e : rl b T i0 with
    | none =>
      rw [e] at h
      exact ih (q + 1) (by omega) k i T' h
    | some w =>
      obtain ⟨r, T2⟩ := w
      rw [e] at h
      have h := Prod.mk.inj (Option.some.inj h)
      have h2 := Prod.mk.inj h.2
      rw [← h.1, ← h2.1, ← h2.2]
      obtain ⟨g1, g2, g3, g4⟩ := rl_O hT hO h80 hi0 e
      exact ⟨g1, g2, g3, g4, hi0⟩
theorem stw_O {b : GB} {T T' : Tt} {k i : Nat} (hT : TtO b T) (hO : TbOK b) (h80 : T.1 ≤ 80) (h : stw b T = some (k, i, T')) : TtO b T' ∧ T'.1 < T.1 ∧ 1 ≤ k ∧ k ≤ 7 ∧ i < T.1 := stL_O hT hO h80 T.1 0 (by omega) k i T' h
/-- so many steps at most: the rules and nodes, and the tree behind them -/
def stN (b : GB) : Nat → Tt → List (Nat × Nat) × Tt
  | 0, T => ([], T)
  | m + 1, T => match stw b T with
    | none => ([], T)
    | some (k, i, T') => ((k, i) :: (stN b m T').1, (stN b m T').2)
theorem stN_none {b : GB} {T : Tt} (h : stw b T = none) : ∀ m, stN b m T = ([], T) := by
  intro m
  cases m with
  | zero => rfl
  | succ m =>
    show (match stw b T with
      | none => ([], T)
      | some (k, i, T') => ((k, i) :: (stN b m T').1, (stN b m T').2)) = _
    rw [h]
theorem stN_some {b : GB} {T T' : Tt} {k i m : Nat} (h : stw b T = some (k, i, T')) : stN b (m + 1) T = ((k, i) :: (stN b m T').1, (stN b m T').2) := by
  show (match stw b T with
    | none => ([], T)
    | some (k, i, T') => ((k, i) :: (stN b m T').1, (stN b m T').2)) = _
  rw [h]
theorem stN_O {b : GB} (hO : TbOK b) : ∀ m T, TtO b T → T.1 ≤ 80 → TtO b (stN b m T).2 ∧ (stN b m T).2.1 ≤ T.1 ∧ (stN b m T).1.length + (stN b m T).2.1 ≤ T.1 := by
  intro m
  induction m with
  | zero => intro T hT h80; exact ⟨hT, Nat.le_refl _, by show 0 + T.1 ≤ T.1; omega⟩
  | succ m ih =>
    intro T hT h80
    cases e : stw b T with
    | none =>
      rw [stN_none e]
      exact ⟨hT, Nat.le_refl _, by show 0 + T.1 ≤ T.1; omega⟩
    | some w =>
      obtain ⟨k, i, T'⟩ := w
      obtain ⟨g1, g2, -⟩ := stw_O hT hO h80 e
      obtain ⟨h1, h2, h3⟩ := ih T' g1 (by omega)
      rw [stN_some e]
      refine ⟨h1, by show (stN b m T').2.1 ≤ T.1; omega, ?_⟩
      show (stN b m T').1.length + 1 + (stN b m T').2.1 ≤ T.1
      omega
/-- behind as many steps as nodes no rule fits -/
theorem stN_end {b : GB} (hO : TbOK b) : ∀ m T, TtO b T → T.1 ≤ 80 → T.1 ≤ m → stw b (stN b m T).2 = none := by
  intro m
  induction m with
  | zero =>
    intro T hT h80 hm
    have := hT.1.1
    omega
  | succ m ih =>
    intro T hT h80 hm
    cases e : stw b T with
    | none =>
      rw [stN_none e]
      exact e
    | some w =>
      obtain ⟨k, i, T'⟩ := w
      obtain ⟨g1, g2, -⟩ := stw_O hT hO h80 e
      rw [stN_some e]
      exact ih T' g1 (by omega) (by omega)
def trG (l : List (Nat × Nat)) : GR := (l.length, fun k => (Int32.ofNat ((l.getD k (0, 0)).1)), fun k => (Int32.ofNat ((l.getD k (0, 0)).2)))
section CST
variable {I : Nat → Nat → Int32} {J : Nat → Nat → Int64} {R : Nat → Nat → Option Nat} {a : Nat} {b : GB} {T : Tt}
/-- one step of the class -/
theorem C_applyRule (hR : RA R) (hB : CTb I b) (hO : TbOK b) (hA : CT I a T.1 T.2.1 T.2.2) (hT : TtO b T) (ha : a + 8 ≤ 2206 ∨ 2207 ≤ a) : QK (f_X7_applyRule (mg (4562 + zn J) I J R) 2206 a) (fun r => match stw b T with
    | none => r = (0, mg (4562 + zn J) I J R)
    | some (k, i, T') => ∃ I', r = ((Int32.ofNat (k)), mg (4562 + zn J) I' J R) ∧ (∀ x j, ¬ St a x → ¬ (x = 2206 ∧ j = 1) → I' x j = I x j) ∧ CT I' a T'.1 T'.2.1 T'.2.2 ∧ I' 2206 1 = (Int32.ofNat (i))) := by
  have ta := hA.1.1
  have nn80 := (CT_n hA).2
  have key : ∀ m q, q + m = T.1 → ∀ F, m + 2 ≤ F → QK (xloop f_X7_applyRule_s2 F (2206, a, (Int32.ofNat (q)), mg (4562 + zn J) I J R)) (fun r => match stL b T m q with
      | none => r = .inr (.inr (mg (4562 + zn J) I J R))
      | some (k, i, T') => ∃ I', r = .inr (.inl (2206, (Int32.ofNat (i)), (Int32.ofNat (k)), mg (4562 + zn J) I' J R)) ∧ FrS (St a) I I' ∧ CT I' a T'.1 T'.2.1 T'.2.2) := by
    intro m
    induction m with
    | zero =>
      intro q hq F hF
      have stp : f_X7_applyRule_s2 (2206, a, (Int32.ofNat (q)), mg (4562 + zn J) I J R) = some (.inr (.inl (.inr (mg (4562 + zn J) I J R)))) := by
        unfold f_X7_applyRule_s2
        dsimp only
        rw [q_let, q_let, q_let, q_let, bT_gI ta, hA.1.2.1, if_pos ((i32_le (by omega) (by omega)).mpr (by omega))]
      exact ⟨_, xl_e (by omega) stp, rfl⟩
    | succ m ih =>
      intro q hq F hF
      obtain ⟨i0, hi0, e0⟩ := pl_sur hT.1 (show q < T.1 by omega)
      obtain ⟨r, er, hr⟩ := C_ruleAt (J := J) hR hB hO hA hT hi0
      rw [e0] at er hr
      rw [stL_c, show ip T q = i0 by rw [← e0]; exact ip_pl hT.1 hi0]
      cases e : rl b T i0 with
      | none =>
        rw [e] at hr
        have hr : r = .inr (.inr (2206, a, (Int32.ofNat (q + 1)), mg (4562 + zn J) I J R)) := hr
        rw [hr] at er
        rw [xl_s (by omega) er]
        exact ih (q + 1) (by omega) (F - 1) (by omega)
      | some w =>
        obtain ⟨k, T'⟩ := w
        rw [e] at hr
        obtain ⟨I', rfl, f1, A1⟩ := hr
        exact ⟨_, xl_e (by omega) er, I', rfl, f1, A1⟩
  unfold f_X7_applyRule
  rw [q_let]
  refine q_bind (key T.1 0 (by omega) xF (by unfold xF; omega)) ?_
  intro r hr
  unfold stw
  cases e : stL b T T.1 0 with
  | none =>
    rw [e] at hr
    have hr : r = .inr (.inr (mg (4562 + zn J) I J R)) := hr
    rw [hr]
    simp only [Sum.elim_inr]
    exact q_ok rfl
  | some w =>
    obtain ⟨k, i, T'⟩ := w
    rw [e] at hr
    obtain ⟨I', rfl, f1, A1⟩ := hr
    simp only [Sum.elim_inr, Sum.elim_inl]
    unfold f_X7_applyRule_j96
    rw [gs_2206]
    refine q_ok ⟨_, rfl, fun x j h1 h2 => ?_, CT_keep A1 (fun x g1 g2 => up_r (by omega)), up_s⟩
    rw [up_n (by omega), f1 x h1]
/-- what of the class's trace stands -/
def TrS (I : Nat → Nat → Int32) (l : List (Nat × Nat)) : Prop := I 0 15 = (Int32.ofNat (l.length)) ∧ ∀ k, k < l.length → I 4559 k = (Int32.ofNat ((l.getD k (0, 0)).1)) ∧ I 4560 k = (Int32.ofNat ((l.getD k (0, 0)).2))
def Sts : Nat → Nat → Prop := fun x k => St 4551 x ∨ (x = 2206 ∧ k = 1) ∨ (x = 0 ∧ k = 15) ∨ x = 4559 ∨ x = 4560
theorem getD_app1 {l : List (Nat × Nat)} {w : Nat × Nat} {k : Nat} (h : k < l.length) : (l ++ [w]).getD k (0, 0) = l.getD k (0, 0) := by
  rw [List.getD_eq_getElem?_getD, List.getD_eq_getElem?_getD, List.getElem?_append_left h]
theorem getD_app2 {l : List (Nat × Nat)} {w : Nat × Nat} : (l ++ [w]).getD l.length (0, 0) = w := by
  rw [List.getD_eq_getElem?_getD, List.getElem?_append_right (Nat.le_refl _), Nat.sub_self]
  rfl
theorem C_stepsLoop (hR : RA R) (hO : TbOK b) {M : Nat} (hM : M ≤ 80) : ∀ (m : Nat) (l : List (Nat × Nat)) (T : Tt) (I : Nat → Nat → Int32), l.length + m = M → l.length + T.1 ≤ 80 → CTb I b → CT I 4551 T.1 T.2.1 T.2.2 → TtO b T → TrS I l → ∀ F, m + 3 ≤ F → QK (xloop f_X11_takeSteps_s18 F (0, (Int32.ofNat (M)), 1, (Int32.ofNat (l.length)), mg (4562 + zn J) I J R)) (fun r => ∃ I', r = .inr (0, mg (4562 + zn J) I' J R) ∧ FrK Sts I I' ∧ TrS I' (l ++ (stN b m T).1) ∧ CT I' 4551 (stN b m T).2.1 (stN b m T).2.2.1 (stN b m T).2.2.2) := by
  intro m
  induction m with
  | zero =>
    intro l T I hl hn hB hA hT hS F hF
    have stp : f_X11_takeSteps_s18 (0, (Int32.ofNat (M)), 1, (Int32.ofNat (l.length)), mg (4562 + zn J) I J R) = some (.inr (.inl (0, mg (4562 + zn J) I J R))) := by
      unfold f_X11_takeSteps_s18
      dsimp only
      rw [q_let, q_let, q_let, q_let, q_let, if_pos ((i32_le (by omega) (by omega)).mpr (by omega))]
    refine ⟨_, xl_e (by omega) stp, I, rfl, FrK_rfl, ?_, hA⟩
    rw [show (stN b 0 T).1 = [] from rfl, List.append_nil]
    exact hS
  | succ m ih =>
    intro l T I hl hn hB hA hT hS F hF
    have n1 := hT.1.1
    obtain ⟨r, er, hr⟩ := C_applyRule (J := J) hR hB hO hA hT (by omega)
    have pre : ∀ y, (if r.1 = (0 : Int32) then f_X11_takeSteps_j63 r.2 0 (Int32.ofNat (M)) (Int32.ofNat (l.length)) r.1 (0 : Int32) else f_X11_takeSteps_j63 r.2 0 (Int32.ofNat (M)) (Int32.ofNat (l.length)) r.1 (1 : Int32)) = y → f_X11_takeSteps_s18 (0, (Int32.ofNat (M)), 1, (Int32.ofNat (l.length)), mg (4562 + zn J) I J R) = y := fun y hy => by
      unfold f_X11_takeSteps_s18
      dsimp only
      rw [q_let, q_let, q_let, q_let, q_let, if_neg (show ¬ (Int32.ofNat (M)) ≤ (Int32.ofNat (l.length)) from fun y => absurd ((i32_le (by omega) (by omega)).mp y) (by omega)), gi_0, hS.1, gr_0_13 hR, ogL_4559, Option.bind_some, if_neg (show ¬ (80 : Int32) ≤ (Int32.ofNat (l.length)) from fun y => absurd ((i32_le (k := 80) (by omega) (by omega)).mp y) (by omega)), if_neg (by first | decide | omega), gr_0_8 hR, gr_0_12 hR, if_pos ok_2206, er, Option.bind_some]
      exact hy
    cases e : stw b T with
    | none =>
      rw [e] at hr
      have hr : r = (0, mg (4562 + zn J) I J R) := hr
      rw [hr] at pre
      dsimp only at pre
      unfold f_X11_takeSteps_j63 f_X11_takeSteps_j105 at pre
      rw [if_pos rfl, if_pos rfl, q_let] at pre
      have st1 := pre _ rfl
      have st2 : f_X11_takeSteps_s18 (0, (Int32.ofNat (M)), 0, (Int32.ofNat (l.length)) + 1, mg (4562 + zn J) I J R) = some (.inr (.inl (0, mg (4562 + zn J) I J R))) := by
        unfold f_X11_takeSteps_s18
        dsimp only
        rw [q_let, q_let, q_let, q_let, q_let]
        by_cases q : (Int32.ofNat (M)) ≤ (Int32.ofNat (l.length)) + 1
        · rw [if_pos q]
        · rw [if_neg q, gi_0, gr_0_13 hR, ogL_4559, Option.bind_some]
          by_cases q2 : (80 : Int32) ≤ I 0 15
          · rw [if_pos q2]
          · rw [if_neg q2, if_pos rfl]
      rw [xl_s (by omega) st1, stN_none e]
      refine ⟨_, xl_e (by omega) st2, I, rfl, FrK_rfl, ?_, hA⟩
      show TrS I (l ++ [])
      rw [List.append_nil]
      exact hS
    | some w =>
      obtain ⟨k, i, T'⟩ := w
      rw [e] at hr
      obtain ⟨I1, rfl, f1, A1, c1⟩ := hr
      obtain ⟨g1, g2, g3, g4, g5⟩ := stw_O hT hO (by omega) e
      have k0 : I1 0 15 = (Int32.ofNat (l.length)) := by rw [f1 0 15 (by unfold St; omega) (by omega)]; exact hS.1
      dsimp only at pre
      unfold f_X11_takeSteps_j63 f_X11_takeSteps_j105 at pre
      rw [if_neg (show ¬ (Int32.ofNat (k)) = (0 : Int32) from i32_ne (b := 0) (by omega) (by omega) (by omega)), if_neg (by first | decide | omega), gr_0_13 hR, gi_0, k0, gw_4559 (by omega), gr_0_14 hR, gi_0, up_n (by omega), k0, gr_0_8 hR, gi_2206, up_n (by omega), c1, gw_4560 (by omega), gi_0, up_n (by omega), up_n (by omega), k0, gs_0, show (Int32.ofNat (l.length)) + (1 : Int32) = (Int32.ofNat (l.length + 1)) from n_add _ 1, q_let] at pre
      have st1 := pre _ rfl
      have f2 : FrK Sts I (up (up (up I1 4559 l.length (Int32.ofNat (k))) 4560 l.length (Int32.ofNat (i))) 0 15 (Int32.ofNat (l.length + 1))) := fun x j y => by
        unfold Sts at y
        rw [up_n (by omega), up_n (by omega), up_n (by omega), f1 x j (fun z => y (Or.inl z)) (fun z => y (Or.inr (Or.inl z)))]
      have tr : TrS (up (up (up I1 4559 l.length (Int32.ofNat (k))) 4560 l.length (Int32.ofNat (i))) 0 15 (Int32.ofNat (l.length + 1))) (l ++ [(k, i)]) := by
        refine ⟨?_, fun j hj => ?_⟩
        · rw [up_s, List.length_append]
          rfl
        · rw [List.length_append] at hj
          have hj : j < l.length + 1 := hj
          by_cases q : j < l.length
          · rw [getD_app1 q, up_n (by omega), up_n (by omega), up_n (by omega), up_n (by omega), up_n (by omega), up_n (by omega), f1 4559 j (by unfold St; omega) (by omega), f1 4560 j (by unfold St; omega) (by omega)]
            exact hS.2 j q
          · have ej : j = l.length := by omega
            rw [ej, getD_app2, up_n (by omega), up_n (by omega), up_s, up_n (by omega), up_s]
            exact ⟨rfl, rfl⟩
      have A2 : CT (up (up (up I1 4559 l.length (Int32.ofNat (k))) 4560 l.length (Int32.ofNat (i))) 0 15 (Int32.ofNat (l.length + 1))) 4551 T'.1 T'.2.1 T'.2.2 := CT_keep A1 (fun x g1 g2 => by rw [up_r (by omega), up_r (by omega), up_r (by omega)])
      have B2 : CTb (up (up (up I1 4559 l.length (Int32.ofNat (k))) 4560 l.length (Int32.ofNat (i))) 0 15 (Int32.ofNat (l.length + 1))) b := CTb_keep hB (fun x y => by
        rw [up_r (by omega), up_r (by omega), up_r (by omega)]
        funext j
        exact f1 x j (by unfold St; omega) (by omega))
      generalize up (up (up I1 4559 l.length (Int32.ofNat (k))) 4560 l.length (Int32.ofNat (i))) 0 15 (Int32.ofNat (l.length + 1)) = I2 at *
      rw [xl_s (by omega) st1, stN_some e]
      have el : (l ++ [(k, i)]).length = l.length + 1 := by rw [List.length_append]; rfl
      obtain ⟨_, e3, I3, rfl, f3, t3, A3⟩ := ih (l ++ [(k, i)]) T' I2 (by rw [el]; omega) (by rw [el]; omega) B2 A2 g1 tr (F - 1) (by omega)
      rw [el] at e3
      refine ⟨_, e3, I3, rfl, FrK_tr f2 f3, ?_, A3⟩
      rw [List.append_assoc] at t3
      exact t3
theorem C_takeSteps {g M : Nat} (hR : RA R) (hO : TbOK b) (hB : CTb I b) (hg : g + 8 ≤ 540) (hA : CT I g T.1 T.2.1 T.2.2) (hT : TtO b T) (hM : M ≤ 80) : QK (f_X11_takeSteps (mg (4562 + zn J) I J R) 0 g (Int32.ofNat (M))) (fun r => ∃ I', r = ((Int32.ofNat ((stN b M T).1.length)), mg (4562 + zn J) I' J R) ∧ FrK Sts I I' ∧ TrS I' (stN b M T).1 ∧ CT I' 4551 (stN b M T).2.1 (stN b M T).2.2.1 (stN b M T).2.2.2) := by
  have nn80 := (CT_n hA).2
  unfold f_X11_takeSteps
  rw [gr_0_12 hR, if_pos (bT_xk isTr_4551)]
  refine q_bind (T_copy hR isTr_4551 hA (by omega)) ?_
  rintro _ ⟨I1, rfl, f1, A1⟩
  rw [gs_0, q_let, q_let]
  have f2 : FrK Sts I (up I1 0 15 0) := fun x j y => by
    unfold Sts at y
    rw [up_n (by omega), f1 x (fun z => y (Or.inl z))]
  have A2 : CT (up I1 0 15 0) 4551 T.1 T.2.1 T.2.2 := CT_keep A1 (fun x g1 g2 => up_r (by omega))
  have B2 : CTb (up I1 0 15 0) b := CTb_keep hB (fun x y => by rw [up_r (by omega), f1 x (by unfold St; omega)])
  have t2 : TrS (up I1 0 15 0) [] := ⟨by rw [up_s]; rfl, fun k hk => absurd hk (Nat.not_lt_zero _)⟩
  generalize up I1 0 15 0 = I2 at *
  refine q_bind (C_stepsLoop hR hO hM M [] T I2 (by show 0 + M = M; omega) (by show 0 + T.1 ≤ 80; omega) B2 A2 hT t2 xF (by unfold xF; omega)) ?_
  rintro _ ⟨I3, rfl, f3, t3, A3⟩
  simp only [Sum.elim_inr]
  unfold f_X11_takeSteps_j111
  rw [List.nil_append] at t3
  rw [gi_0, t3.1]
  exact q_ok ⟨I3, rfl, FrK_tr f2 f3, t3, A3⟩
end CST
