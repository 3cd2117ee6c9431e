/-! making simpler: the class's step -/
section CRV
variable {I : Nat → Nat → Int32} {J : Nat → Nat → Int64} {R : Nat → Nat → Option Nat} {β : Type} {a p : Nat} {b : GB} {T : Tt}
theorem C_addAlike (hR : RA R) (hB : CTb I b) (hO : TbOK b) (hA : CT I a T.1 T.2.1 T.2.2) (hT : TtO b T) (hp : p < T.1) (h2 : aro T.2.1 p = 2) : QK (f_X7_addAlike (mg (4562 + zn J) I J R) 2206 a (Int32.ofNat (p)) (Int32.ofNat (p + 1)) (Int32.ofNat (kid T.2.2 p 1))) (fun r => (alk b T (p + 1) (kid T.2.2 p 1) ∧ ∃ I', r = (1, mg (4562 + zn J) I' J R) ∧ FrS (St a) I I' ∧ CT I' a (tIn (tVal T (p + 1 + 1) (vN (T.2.1 (p + 1 + 1)) + vN (T.2.1 (kid T.2.2 p 1 + 1)))) p (p + 1)).1 (tIn (tVal T (p + 1 + 1) (vN (T.2.1 (p + 1 + 1)) + vN (T.2.1 (kid T.2.2 p 1 + 1)))) p (p + 1)).2.1 (tIn (tVal T (p + 1 + 1) (vN (T.2.1 (p + 1 + 1)) + vN (T.2.1 (kid T.2.2 p 1 + 1)))) p (p + 1)).2.2) ∨ (¬ alk b T (p + 1) (kid T.2.2 p 1) ∧ r = (0, mg (4562 + zn J) I J R))) := by
  obtain ⟨e0, a1, b1, c1, c2, c3, c4, c5⟩ := two_kids hT hp h2
  have ta := hA.1.1
  have nn80 := (CT_n hA).2
  have n1 := hT.2 _ a1
  have n2 := hT.2 _ b1
  generalize kid T.2.2 p 1 = c at *
  have mb1 := mz_b hO n1
  have mb2 := mz_b hO n2
  unfold f_X7_addAlike f_X7_addAlike_j21 f_X7_addAlike_j80
  rw [if_pos ok_2206, C_meaningOf hR hA a1 n1 hB hO]
  by_cases q1 : mz b (T.2.1 (p + 1)) = 2
  rotate_left
  · rw [if_neg (show ¬ mi (mz b (T.2.1 (p + 1))) = (2 : Int32) from fun y => q1 ((mi_eq (k := 2) (by omega) (by omega)).mp y))]
    exact q_ok (Or.inr ⟨fun y => q1 y.1, rfl⟩)
  rw [if_pos (show mi (mz b (T.2.1 (p + 1))) = (2 : Int32) from (mi_eq (k := 2) (by omega) (by omega)).mpr q1), if_pos ok_2206, C_meaningOf hR hA b1 n2 hB hO]
  by_cases q2 : mz b (T.2.1 c) = 2
  rotate_left
  · rw [if_neg (show ¬ mi (mz b (T.2.1 c)) = (2 : Int32) from fun y => q2 ((mi_eq (k := 2) (by omega) (by omega)).mp y))]
    exact q_ok (Or.inr ⟨fun y => q2 y.2.1, rfl⟩)
  have k1 : aro T.2.1 (p + 1) = 2 := (mz_two hO n1 (by omega)).2
  have k2 : aro T.2.1 c = 2 := (mz_two hO n2 (by omega)).2
  obtain ⟨-, d1, f1, -, -, -, -, -⟩ := two_kids hT a1 k1
  obtain ⟨-, d2, f2, -, -, -, -, -⟩ := two_kids hT b1 k2
  have g1 := hA.1.2.2.2 (p + 1 + 1) d1
  have g2 := hA.1.2.2.2 (c + 1) d2
  have ch0 : f_X9_child (mg (4562 + zn J) I J R) a (Int32.ofNat (p + 1)) 0 = some (Int32.ofNat (p + 1 + 1)) := T_child hR hA a1 (show 0 < aro T.2.1 (p + 1) by omega)
  have ch1 : f_X9_child (mg (4562 + zn J) I J R) a (Int32.ofNat (c)) 0 = some (Int32.ofNat (c + 1)) := T_child hR hA b1 (show 0 < aro T.2.1 c by omega)
  have ch2 : f_X9_child (mg (4562 + zn J) I J R) a (Int32.ofNat (p + 1)) 1 = some (Int32.ofNat (kid T.2.2 (p + 1) 1)) := T_child hR hA a1 (show 1 < aro T.2.1 (p + 1) by omega)
  have ch3 : f_X9_child (mg (4562 + zn J) I J R) a (Int32.ofNat (c)) 1 = some (Int32.ofNat (kid T.2.2 c 1)) := T_child hR hA b1 (show 1 < aro T.2.1 c by omega)
  rw [if_pos (show mi (mz b (T.2.1 c)) = (2 : Int32) from (mi_eq (k := 2) (by omega) (by omega)).mpr q2), if_pos (bT_xk ta), ch0, Option.bind_some, if_pos (bT_xk ta), ch1, Option.bind_some, bT_g0 ta hR, bT_aI ta (by omega), g1.1]
  by_cases q3 : (T.2.1 (p + 1 + 1)).1 = 0
  rotate_left
  · rw [if_neg q3]
    exact q_ok (Or.inr ⟨fun y => q3 y.2.2.1, rfl⟩)
  rw [if_pos q3, bT_g0 ta hR, bT_aI ta (by omega), g2.1]
  by_cases q4 : (T.2.1 (c + 1)).1 = 0
  rotate_left
  · rw [if_neg q4]
    exact q_ok (Or.inr ⟨fun y => q4 y.2.2.2.1, rfl⟩)
  obtain ⟨-, -, -, x1, x2⟩ := alk_kids hT hO a1 q1 q3
  obtain ⟨-, -, -, x3, x4⟩ := alk_kids hT hO b1 q2 q4
  rw [x1] at ch2
  rw [x3] at ch3
  obtain ⟨r, er, hr⟩ := T_sameParts (J := J) hR hA x2 x4
  rw [if_pos q4, if_pos (bT_xk ta), ch2, Option.bind_some, if_pos (bT_xk ta), ch3, Option.bind_some, if_pos (bT_xk ta), er, Option.bind_some]
  rcases hr with ⟨rfl, sm⟩ | ⟨rfl, sm⟩
  rotate_left
  · rw [if_pos rfl]
    exact q_ok (Or.inr ⟨fun y => sm y.2.2.2.2.1, rfl⟩)
  obtain ⟨v1, v2, -⟩ := NV_v (hT.2 _ d1)
  obtain ⟨w1, w2, -⟩ := NV_v (hT.2 _ d2)
  rw [if_neg (by first | decide | omega), bT_g1 ta hR, bT_aI ta (by omega), g1.2.1, bT_g1 ta hR, bT_aI ta (by omega), g2.2.1, v1, w1, n_add, q_let]
  by_cases q5 : vN (T.2.1 (p + 1 + 1)) + vN (T.2.1 (c + 1)) ≤ 999999999
  rotate_left
  · rw [if_neg (show ¬ (Int32.ofNat (vN (T.2.1 (p + 1 + 1)) + vN (T.2.1 (c + 1)))) ≤ (999999999 : Int32) from fun y => q5 ((i32_le (m := 999999999) (by omega) (by omega)).mp y))]
    exact q_ok (Or.inr ⟨fun y => q5 y.2.2.2.2.2, rfl⟩)
  rw [if_pos (show (Int32.ofNat (vN (T.2.1 (p + 1 + 1)) + vN (T.2.1 (c + 1)))) ≤ (999999999 : Int32) from (i32_le (m := 999999999) (by omega) (by omega)).mpr q5), bT_g1 ta hR, bT_wI ta (by omega), if_pos (bT_xk ta)]
  have hA2 : CT (up I (a + 2) (p + 1 + 1) (Int32.ofNat (vN (T.2.1 (p + 1 + 1)) + vN (T.2.1 (c + 1))))) a (tVal T (p + 1 + 1) (vN (T.2.1 (p + 1 + 1)) + vN (T.2.1 (c + 1)))).1 (tVal T (p + 1 + 1) (vN (T.2.1 (p + 1 + 1)) + vN (T.2.1 (c + 1)))).2.1 (tVal T (p + 1 + 1) (vN (T.2.1 (p + 1 + 1)) + vN (T.2.1 (c + 1)))).2.2 := by
    refine ⟨⟨ta, by rw [up_r (by omega)]; exact hA.1.2.1, hA.1.2.2.1, fun i hi => ?_⟩, (tVal_O hT d1 q3 q5).1, fun i hi => ?_⟩
    · obtain ⟨y1, y2, y3, y4, y5⟩ := hA.1.2.2.2 i hi
      show _ = (if i = p + 1 + 1 then _ else _ : Nd).1 ∧ _ = (if i = p + 1 + 1 then _ else _ : Nd).2.1 ∧ _ = (if i = p + 1 + 1 then _ else _ : Nd).2.2.1 ∧ _ = (Int32.ofNat ((if i = p + 1 + 1 then _ else _ : Nd).2.2.2)) ∧ (if i = p + 1 + 1 then _ else _ : Nd).2.2.2 ≤ 4
      have u1 : ∀ x, x ≠ a + 2 → up I (a + 2) (p + 1 + 1) (Int32.ofNat (vN (T.2.1 (p + 1 + 1)) + vN (T.2.1 (c + 1)))) x i = I x i := fun x hx => by rw [up_r hx]
      rw [u1 (a + 1) (by omega), u1 (a + 3) (by omega), u1 (a + 4) (by omega)]
      by_cases q : i = p + 1 + 1
      · rw [if_pos q, q, up_s]
        rw [q] at y1 y3 y4 y5
        exact ⟨y1, rfl, y3, y4, y5⟩
      · rw [if_neg q, up_n (Or.inr q)]
        exact ⟨y1, y2, y3, y4, y5⟩
    · rw [up_r (by omega), up_r (by omega), up_r (by omega)]
      exact hA.2.2 i hi
  have f0 : FrS (St a) I (up I (a + 2) (p + 1 + 1) (Int32.ofNat (vN (T.2.1 (p + 1 + 1)) + vN (T.2.1 (c + 1))))) := FrS_up FrS_rfl (by unfold St; omega)
  obtain ⟨_, ek, I3, rfl, f3, A3⟩ := T_keepOnly (J := J) hR hA2 hp (show p < p + 1 by omega) c1
  rw [ek, Option.bind_some]
  exact q_ok (Or.inl ⟨⟨q1, q2, q3, q4, sm, q5⟩, I3, rfl, FrS_tr f0 f3, A3⟩)
theorem C_applyToTwo {m : Nat} (hR : RA R) (hB : CTb I b) (hO : TbOK b) (hA : CT I a T.1 T.2.1 T.2.2) (hT : TtO b T) (hp : p < T.1) (h2 : aro T.2.1 p = 2) (hm : m ≤ 5) : QK (f_X7_applyToTwo (mg (4562 + zn J) I J R) 2206 a (Int32.ofNat (p)) (Int32.ofNat (m))) (RuP I J R a (rl2 b T p m (p + 1) (kid T.2.2 p 1))) := by
  obtain ⟨e0, a1, b1, c1, c2, c3, c4, c5⟩ := two_kids hT hp h2
  have ta := hA.1.1
  have nn80 := (CT_n hA).2
  have n1 := hT.2 _ a1
  have n2 := hT.2 _ b1
  have ch0 : f_X9_child (mg (4562 + zn J) I J R) a (Int32.ofNat (p)) 0 = some (Int32.ofNat (p + 1)) := T_child hR hA hp (show 0 < aro T.2.1 p by omega)
  have ch1 : f_X9_child (mg (4562 + zn J) I J R) a (Int32.ofNat (p)) 1 = some (Int32.ofNat (kid T.2.2 p 1)) := T_child hR hA hp (show 1 < aro T.2.1 p by omega)
  have wh := C_wholeOf (J := J) (m := m) hR hA a1 b1 n1 n2 hm
  have mk := fun v : Nat => T_makeNumber (J := J) (v := (Int32.ofNat (v))) hR hA hp
  unfold f_X7_applyToTwo
  rw [if_pos (bT_xk ta), ch0, Option.bind_some, if_pos (bT_xk ta), ch1, Option.bind_some, wh, Option.bind_some]
  unfold rl2
  generalize eo : (if (T.2.1 (p + 1)).1 = 0 ∧ (T.2.1 (kid T.2.2 p 1)).1 = 0 then whN m (vN (T.2.1 (p + 1))) (vN (T.2.1 (kid T.2.2 p 1))) else none) = o at *
  cases o with
  | some v =>
    have hv : v ≤ 999999999 := by
      by_cases q : (T.2.1 (p + 1)).1 = 0 ∧ (T.2.1 (kid T.2.2 p 1)).1 = 0
      · rw [if_pos q] at eo
        exact capN_le eo
      · rw [if_neg q] at eo
        cases eo
    obtain ⟨_, ek, I1, rfl, f1, A1⟩ := mk v
    rw [if_neg (show ¬ wI0 (some v) < (0 : Int32) from i32_nlt0 (by omega)), if_pos (bT_xk ta), show wI0 (some v) = (Int32.ofNat (v)) from rfl, ek, Option.bind_some]
    exact q_ok ⟨I1, rfl, f1, A1⟩
  | none =>
    rw [if_pos (show wI0 none < (0 : Int32) by decide)]
    dsimp only
    obtain ⟨r, er, hr⟩ := C_applyNeutral (J := J) hR hA hT hp h2 hm
    rw [er, Option.bind_some]
    -- what neutral does
    have cont : ∀ z : Option (Nat × Tt), (¬ (m = 0 ∧ isNm (T.2.1 (p + 1)) 0) → ¬ ((m = 0 ∨ m = 1) ∧ isNm (T.2.1 (kid T.2.2 p 1)) 0) → ¬ (m = 2 ∧ isNm (T.2.1 (p + 1)) 1) → ¬ ((m = 2 ∨ m = 3 ∨ m = 5) ∧ isNm (T.2.1 (kid T.2.2 p 1)) 1) → r = (0, mg (4562 + zn J) I J R) → QK (if r.1 = (0 : Int32) then (if (Int32.ofNat (m)) = (2 : Int32) then (if xk r.2 a 9 = true then (f_X9_isNumber r.2 a (Int32.ofNat (p + 1)) (0 : Int32)).bind (fun p8 => (if p8 = (0 : Int32) then (if xk r.2 a 9 = true then (f_X9_isNumber r.2 a (Int32.ofNat (kid T.2.2 p 1)) (0 : Int32)).bind (fun p10 => (if p10 = (0 : Int32) then f_X7_applyToTwo_j90 r.2 2206 a (Int32.ofNat (p)) (Int32.ofNat (m)) (Int32.ofNat (p + 1)) (Int32.ofNat (kid T.2.2 p 1)) else f_X7_applyToTwo_j82 r.2 a (Int32.ofNat (p)))) else none) else f_X7_applyToTwo_j82 r.2 a (Int32.ofNat (p)))) else none) else f_X7_applyToTwo_j90 r.2 2206 a (Int32.ofNat (p)) (Int32.ofNat (m)) (Int32.ofNat (p + 1)) (Int32.ofNat (kid T.2.2 p 1))) else some (r.1, r.2)) (RuP I J R a z)) → QK (if r.1 = (0 : Int32) then (if (Int32.ofNat (m)) = (2 : Int32) then (if xk r.2 a 9 = true then (f_X9_isNumber r.2 a (Int32.ofNat (p + 1)) (0 : Int32)).bind (fun p8 => (if p8 = (0 : Int32) then (if xk r.2 a 9 = true then (f_X9_isNumber r.2 a (Int32.ofNat (kid T.2.2 p 1)) (0 : Int32)).bind (fun p10 => (if p10 = (0 : Int32) then f_X7_applyToTwo_j90 r.2 2206 a (Int32.ofNat (p)) (Int32.ofNat (m)) (Int32.ofNat (p + 1)) (Int32.ofNat (kid T.2.2 p 1)) else f_X7_applyToTwo_j82 r.2 a (Int32.ofNat (p)))) else none) else f_X7_applyToTwo_j82 r.2 a (Int32.ofNat (p)))) else none) else f_X7_applyToTwo_j90 r.2 2206 a (Int32.ofNat (p)) (Int32.ofNat (m)) (Int32.ofNat (p + 1)) (Int32.ofNat (kid T.2.2 p 1))) else some (r.1, r.2)) (RuP I J R a (if m = 0 ∧ isNm (T.2.1 (p + 1)) 0 then some (2, tIn T p (kid T.2.2 p 1))
        else if (m = 0 ∨ m = 1) ∧ isNm (T.2.1 (kid T.2.2 p 1)) 0 then some (2, tIn T p (p + 1))
        else if m = 2 ∧ isNm (T.2.1 (p + 1)) 1 then some (3, tIn T p (kid T.2.2 p 1))
        else if (m = 2 ∨ m = 3 ∨ m = 5) ∧ isNm (T.2.1 (kid T.2.2 p 1)) 1 then some (3, tIn T p (p + 1))
        else z)) := by
      intro z hz
      have done : ∀ (k : Nat) (T' : Tt), 1 ≤ k → k ≤ 7 → (∃ I', r = ((Int32.ofNat (k)), mg (4562 + zn J) I' J R) ∧ FrS (St a) I I' ∧ CT I' a T'.1 T'.2.1 T'.2.2) → QK (if r.1 = (0 : Int32) then (if (Int32.ofNat (m)) = (2 : Int32) then (if xk r.2 a 9 = true then (f_X9_isNumber r.2 a (Int32.ofNat (p + 1)) (0 : Int32)).bind (fun p8 => (if p8 = (0 : Int32) then (if xk r.2 a 9 = true then (f_X9_isNumber r.2 a (Int32.ofNat (kid T.2.2 p 1)) (0 : Int32)).bind (fun p10 => (if p10 = (0 : Int32) then f_X7_applyToTwo_j90 r.2 2206 a (Int32.ofNat (p)) (Int32.ofNat (m)) (Int32.ofNat (p + 1)) (Int32.ofNat (kid T.2.2 p 1)) else f_X7_applyToTwo_j82 r.2 a (Int32.ofNat (p)))) else none) else f_X7_applyToTwo_j82 r.2 a (Int32.ofNat (p)))) else none) else f_X7_applyToTwo_j90 r.2 2206 a (Int32.ofNat (p)) (Int32.ofNat (m)) (Int32.ofNat (p + 1)) (Int32.ofNat (kid T.2.2 p 1))) else some (r.1, r.2)) (RuP I J R a (some (k, T'))) := by
        rintro k T' k1 k7 ⟨I', rfl, f1, A1⟩
        rw [if_neg (show ¬ (Int32.ofNat (k)) = (0 : Int32) from i32_ne (b := 0) (by omega) (by omega) (by omega))]
        exact q_ok ⟨I', rfl, f1, A1⟩
      by_cases y1 : m = 0 ∧ isNm (T.2.1 (p + 1)) 0
      · rw [if_pos y1] at hr ⊢
        exact done _ _ (by first | decide | omega) (by first | decide | omega) hr
      rw [if_neg y1] at hr ⊢
      by_cases y2 : (m = 0 ∨ m = 1) ∧ isNm (T.2.1 (kid T.2.2 p 1)) 0
      · rw [if_pos y2] at hr ⊢
        exact done _ _ (by first | decide | omega) (by first | decide | omega) hr
      rw [if_neg y2] at hr ⊢
      by_cases y3 : m = 2 ∧ isNm (T.2.1 (p + 1)) 1
      · rw [if_pos y3] at hr ⊢
        exact done _ _ (by first | decide | omega) (by first | decide | omega) hr
      rw [if_neg y3] at hr ⊢
      by_cases y4 : (m = 2 ∨ m = 3 ∨ m = 5) ∧ isNm (T.2.1 (kid T.2.2 p 1)) 1
      · rw [if_pos y4] at hr ⊢
        exact done _ _ (by first | decide | omega) (by first | decide | omega) hr
      rw [if_neg y4] at hr ⊢
      exact hz y1 y2 y3 y4 hr
    refine cont _ ?_
    intro y1 y2 y3 y4 er
    rw [er]
    dsimp only
    rw [if_pos rfl]
    have i10 : ((T.2.1 (p + 1)).1 = 0 ∧ (T.2.1 (p + 1)).2.1 = (0 : Int32)) ↔ isNm (T.2.1 (p + 1)) 0 := nm_iff (v := 0) n1 (by omega)
    have i20 : ((T.2.1 (kid T.2.2 p 1)).1 = 0 ∧ (T.2.1 (kid T.2.2 p 1)).2.1 = (0 : Int32)) ↔ isNm (T.2.1 (kid T.2.2 p 1)) 0 := nm_iff (v := 0) n2 (by omega)
    have j82 : QK (f_X7_applyToTwo_j82 (mg (4562 + zn J) I J R) a (Int32.ofNat (p))) (RuP I J R a (some (4, tNum T p 0))) := by
      obtain ⟨_, ek, I1, rfl, f1, A1⟩ := mk 0
      unfold f_X7_applyToTwo_j82
      rw [if_pos (bT_xk ta), show f_X9_makeNumber (mg (4562 + zn J) I J R) a (Int32.ofNat (p)) 0 = _ from ek, Option.bind_some]
      exact q_ok ⟨I1, rfl, f1, A1⟩
    -- rules 5 and 7
    have j128 : ¬ ((m = 1 ∨ m = 3) ∧ smP T (p + 1) (kid T.2.2 p 1)) → QK (f_X7_applyToTwo_j128 (mg (4562 + zn J) I J R) 2206 a (Int32.ofNat (p)) (Int32.ofNat (m)) (Int32.ofNat (p + 1)) (Int32.ofNat (kid T.2.2 p 1))) (RuP I J R a (if m = 0 ∧ alk b T (p + 1) (kid T.2.2 p 1) then some (7, tIn (tVal T (p + 1 + 1) (vN (T.2.1 (p + 1 + 1)) + vN (T.2.1 (kid T.2.2 p 1 + 1)))) p (p + 1)) else none)) := fun _ => by
      unfold f_X7_applyToTwo_j128 f_X7_applyToTwo_j150 f_X7_applyToTwo_j151
      by_cases m0 : m = 0
      · rw [if_pos (show (Int32.ofNat (m)) = (0 : Int32) by rw [m0]; rfl), if_pos ok_2206]
        refine q_bind (C_addAlike hR hB hO hA hT hp h2) ?_
        rintro _ (⟨ak, I1, rfl, f1, A1⟩ | ⟨ak, rfl⟩)
        · rw [if_neg (show ¬ (1 : Int32) = 0 by decide), if_pos (show m = 0 ∧ alk b T (p + 1) (kid T.2.2 p 1) from ⟨m0, ak⟩)]
          exact q_ok ⟨I1, rfl, f1, A1⟩
        · rw [if_pos rfl, if_neg (show ¬ (m = 0 ∧ alk b T (p + 1) (kid T.2.2 p 1)) from fun y => ak y.2)]
          exact q_ok rfl
      · rw [if_neg (show ¬ (Int32.ofNat (m)) = (0 : Int32) from i32_ne (b := 0) (by omega) (by omega) m0), if_neg (show ¬ (m = 0 ∧ alk b T (p + 1) (kid T.2.2 p 1)) from fun y => m0 y.1)]
        exact q_ok rfl
    have j90 : QK (f_X7_applyToTwo_j90 (mg (4562 + zn J) I J R) 2206 a (Int32.ofNat (p)) (Int32.ofNat (m)) (Int32.ofNat (p + 1)) (Int32.ofNat (kid T.2.2 p 1))) (RuP I J R a (if (m = 1 ∨ m = 3) ∧ smP T (p + 1) (kid T.2.2 p 1) then some (5, tNum T p (if m = 3 then 1 else 0)) else if m = 0 ∧ alk b T (p + 1) (kid T.2.2 p 1) then some (7, tIn (tVal T (p + 1 + 1) (vN (T.2.1 (p + 1 + 1)) + vN (T.2.1 (kid T.2.2 p 1 + 1)))) p (p + 1)) else none)) := by
      unfold f_X7_applyToTwo_j90
      have j100 : (m = 1 ∨ m = 3) → QK (f_X7_applyToTwo_j100 (mg (4562 + zn J) I J R) 2206 a (Int32.ofNat (p)) (Int32.ofNat (m)) (Int32.ofNat (p + 1)) (Int32.ofNat (kid T.2.2 p 1))) (RuP I J R a (if (m = 1 ∨ m = 3) ∧ smP T (p + 1) (kid T.2.2 p 1) then some (5, tNum T p (if m = 3 then 1 else 0)) else if m = 0 ∧ alk b T (p + 1) (kid T.2.2 p 1) then some (7, tIn (tVal T (p + 1 + 1) (vN (T.2.1 (p + 1 + 1)) + vN (T.2.1 (kid T.2.2 p 1 + 1)))) p (p + 1)) else none)) := fun hm13 => by
        unfold f_X7_applyToTwo_j100 f_X7_applyToTwo_j123
        obtain ⟨r5, er5, hr5⟩ := T_sameParts (J := J) hR hA a1 b1
        rw [if_pos (bT_xk ta), er5, Option.bind_some]
        rcases hr5 with ⟨rfl, sm⟩ | ⟨rfl, sm⟩
        · rw [if_neg (show ¬ (1 : Int32) = 0 by decide), if_pos (show (m = 1 ∨ m = 3) ∧ smP T (p + 1) (kid T.2.2 p 1) from ⟨hm13, sm⟩)]
          by_cases m1 : m = 1
          · obtain ⟨_, ek, I1, rfl, f1, A1⟩ := mk 0
            rw [if_pos (show (Int32.ofNat (m)) = (1 : Int32) by rw [m1]; rfl), if_pos (bT_xk ta), show f_X9_makeNumber (mg (4562 + zn J) I J R) a (Int32.ofNat (p)) 0 = _ from ek, Option.bind_some, if_neg (by omega)]
            exact q_ok ⟨I1, rfl, f1, A1⟩
          · obtain ⟨_, ek, I1, rfl, f1, A1⟩ := mk 1
            rw [if_neg (show ¬ (Int32.ofNat (m)) = (1 : Int32) from i32_ne (b := 1) (by omega) (by omega) m1), if_pos (bT_xk ta), show f_X9_makeNumber (mg (4562 + zn J) I J R) a (Int32.ofNat (p)) 1 = _ from ek, Option.bind_some, if_pos (by omega)]
            exact q_ok ⟨I1, rfl, f1, A1⟩
        · rw [if_pos rfl, if_neg (show ¬ ((m = 1 ∨ m = 3) ∧ smP T (p + 1) (kid T.2.2 p 1)) from fun y => sm y.2)]
          exact j128 (fun y => sm y.2)
      by_cases m1 : m = 1
      · rw [if_pos (show (Int32.ofNat (m)) = (1 : Int32) by rw [m1]; rfl)]
        exact j100 (Or.inl m1)
      rw [if_neg (show ¬ (Int32.ofNat (m)) = (1 : Int32) from i32_ne (b := 1) (by omega) (by omega) m1)]
      by_cases m3 : m = 3
      · rw [if_pos (show (Int32.ofNat (m)) = (3 : Int32) by rw [m3]; rfl)]
        exact j100 (Or.inr m3)
      · rw [if_neg (show ¬ (Int32.ofNat (m)) = (3 : Int32) from i32_ne (b := 3) (by omega) (by omega) m3), if_neg (show ¬ ((m = 1 ∨ m = 3) ∧ smP T (p + 1) (kid T.2.2 p 1)) from fun y => by omega)]
        exact j128 (fun y => by omega)
    by_cases m2 : m = 2
    · rw [if_pos (show (Int32.ofNat (m)) = (2 : Int32) by rw [m2]; rfl), if_pos (bT_xk ta), T_isNumber (c := 0) hR hA.1 a1, Option.bind_some]
      by_cases q1 : isNm (T.2.1 (p + 1)) 0
      · rw [if_pos (i10.mpr q1), if_neg (show ¬ (1 : Int32) = 0 by decide), if_pos (show m = 2 ∧ (isNm (T.2.1 (p + 1)) 0 ∨ isNm (T.2.1 (kid T.2.2 p 1)) 0) from ⟨m2, Or.inl q1⟩)]
        exact j82
      rw [if_neg (fun y => q1 (i10.mp y)), if_pos rfl, if_pos (bT_xk ta), T_isNumber (c := 0) hR hA.1 b1, Option.bind_some]
      by_cases q2 : isNm (T.2.1 (kid T.2.2 p 1)) 0
      · rw [if_pos (i20.mpr q2), if_neg (show ¬ (1 : Int32) = 0 by decide), if_pos (show m = 2 ∧ (isNm (T.2.1 (p + 1)) 0 ∨ isNm (T.2.1 (kid T.2.2 p 1)) 0) from ⟨m2, Or.inr q2⟩)]
        exact j82
      rw [if_neg (fun y => q2 (i20.mp y)), if_pos rfl, if_neg (show ¬ (m = 2 ∧ (isNm (T.2.1 (p + 1)) 0 ∨ isNm (T.2.1 (kid T.2.2 p 1)) 0)) from fun y => y.2.elim q1 q2)]
      exact j90
    · rw [if_neg (show ¬ (Int32.ofNat (m)) = (2 : Int32) from i32_ne (b := 2) (by omega) (by omega) m2), if_neg (show ¬ (m = 2 ∧ (isNm (T.2.1 (p + 1)) 0 ∨ isNm (T.2.1 (kid T.2.2 p 1)) 0)) from fun y => m2 y.1)]
      exact j90
/-- the rule at one node, or the next place -/
theorem C_ruleAt (hR : RA R) (hB : CTb I b) (hO : TbOK b) (hA : CT I a T.1 T.2.1 T.2.2) (hT : TtO b T) (hp : p < T.1) : QK (f_X7_applyRule_s2 (2206, a, (Int32.ofNat (pl T.2.2 p)), mg (4562 + zn J) I J R)) (fun r => match rl b T p with
    | none => r = .inr (.inr (2206, a, (Int32.ofNat (pl T.2.2 p + 1)), mg (4562 + zn J) I J R))
    | some (k, T') => ∃ I', r = .inr (.inl (.inl (2206, (Int32.ofNat (p)), (Int32.ofNat (k)), mg (4562 + zn J) I' J R))) ∧ FrS (St a) I I' ∧ CT I' a T'.1 T'.2.1 T'.2.2) := by
  have ta := hA.1.1
  have nn80 := (CT_n hA).2
  have np := hT.2 _ hp
  have mb := mz_b hO np
  have pn := pl_lt hT.1 hp
  unfold f_X7_applyRule_s2
  dsimp only
  rw [q_let, q_let, q_let, q_let, bT_gI ta, hA.1.2.1, if_neg (show ¬ (Int32.ofNat (T.1)) ≤ (Int32.ofNat (pl T.2.2 p)) from fun y => absurd ((i32_le (by omega) (by omega)).mp y) (by omega)), if_pos (bT_xk ta), T_nodeAt hR hA hp rfl, Option.bind_some, if_pos ok_2206, C_meaningOf hR hA hp np hB hO, q_let]
  have j91 : f_X7_applyRule_j91 (mg (4562 + zn J) I J R) 2206 a (Int32.ofNat (pl T.2.2 p)) (Int32.ofNat (p)) 0 = some (.inr (.inr (2206, a, (Int32.ofNat (pl T.2.2 p + 1)), mg (4562 + zn J) I J R))) := by
    unfold f_X7_applyRule_j91
    rw [if_pos rfl, q_let, show (Int32.ofNat (pl T.2.2 p)) + (1 : Int32) = (Int32.ofNat (pl T.2.2 p + 1)) from n_add _ 1]
  have j91k : ∀ (k : Nat) σ, 1 ≤ k → k ≤ 7 → f_X7_applyRule_j91 σ 2206 a (Int32.ofNat (pl T.2.2 p)) (Int32.ofNat (p)) (Int32.ofNat (k)) = some (.inr (.inl (.inl (2206, (Int32.ofNat (p)), (Int32.ofNat (k)), σ)))) := fun k σ h1 h2 => by
    unfold f_X7_applyRule_j91
    rw [if_neg (show ¬ (Int32.ofNat (k)) = (0 : Int32) from i32_ne (b := 0) (by omega) (by omega) (by omega))]
  have j70 : ¬ (mz b (T.2.1 p) = 11 ∧ mz b (T.2.1 (p + 1)) = 11) → QK (f_X7_applyRule_j70 (mg (4562 + zn J) I J R) 2206 a (Int32.ofNat (pl T.2.2 p)) (Int32.ofNat (p)) (mi (mz b (T.2.1 p))) 0) (fun r => match rl b T p with
    | none => r = .inr (.inr (2206, a, (Int32.ofNat (pl T.2.2 p + 1)), mg (4562 + zn J) I J R))
    | some (k, T') => ∃ I', r = .inr (.inl (.inl (2206, (Int32.ofNat (p)), (Int32.ofNat (k)), mg (4562 + zn J) I' J R))) ∧ FrS (St a) I I' ∧ CT I' a T'.1 T'.2.1 T'.2.2) := fun nq => by
    unfold f_X7_applyRule_j70 rl
    rw [if_neg nq]
    by_cases q5 : mz b (T.2.1 p) ≤ 5
    · have h2 : aro T.2.1 p = 2 := (mz_two hO np (by omega)).2
      rw [mi_s (by omega), if_neg (i32_nlt0 (by omega)), if_neg (show ¬ (5 : Int32) < (Int32.ofNat (mz b (T.2.1 p))) from fun y => absurd ((i32_lt (k := 5) (by omega) (by omega)).mp y) (by omega)), if_pos ok_2206, if_pos q5]
      refine q_bind (C_applyToTwo hR hB hO hA hT hp h2 q5) ?_
      intro r hr
      generalize ez : rl2 b T p (mz b (T.2.1 p)) (p + 1) (kid T.2.2 p 1) = z at *
      cases z with
      | none =>
        have hr : r = (0, mg (4562 + zn J) I J R) := hr
        rw [hr, j91]
        exact q_ok rfl
      | some w =>
        obtain ⟨k, T'⟩ := w
        obtain ⟨I', rfl, f1, A1⟩ := hr
        obtain ⟨-, -, k1, k7⟩ := rl2_O hT hO nn80 hp h2 ez
        rw [j91k k _ k1 k7]
        exact q_ok ⟨I', rfl, f1, A1⟩
    · rw [if_neg q5]
      rcases mb with y | ⟨-, y⟩
      · rw [y, if_pos (show mi 999 < (0 : Int32) by decide), j91]
        exact q_ok rfl
      · rw [mi_s y, if_neg (i32_nlt0 (by omega)), if_pos (show (5 : Int32) < (Int32.ofNat (mz b (T.2.1 p))) from (i32_lt (k := 5) (by omega) (by omega)).mpr (by omega)), j91]
        exact q_ok rfl
  by_cases q1 : mz b (T.2.1 p) = 11
  · have h1 : aro T.2.1 p = 1 := (mz_one hO np (by omega) (by omega)).2
    obtain ⟨a1, a2, a3⟩ := kid_in hT.1 hp (show 0 < aro T.2.1 p by omega)
    have a2 : p + 1 < T.1 := a2
    have n1 := hT.2 _ a2
    have mb1 := mz_b hO n1
    have ch0 : f_X9_child (mg (4562 + zn J) I J R) a (Int32.ofNat (p)) 0 = some (Int32.ofNat (p + 1)) := T_child hR hA hp (show 0 < aro T.2.1 p by omega)
    rw [if_pos (show mi (mz b (T.2.1 p)) = (11 : Int32) from (mi_eq (k := 11) (by omega) (by omega)).mpr q1), if_pos (bT_xk ta), ch0, Option.bind_some, if_pos ok_2206, C_meaningOf hR hA a2 n1 hB hO]
    by_cases q2 : mz b (T.2.1 (p + 1)) = 11
    · have h2 : aro T.2.1 (p + 1) = 1 := (mz_one hO n1 (by omega) (by omega)).2
      have k1 := (hT.1.2.2.2 p hp).2.2.1
      rw [h1] at k1
      have k1 : p + 1 + T.2.2 (p + 1) = p + T.2.2 p := k1
      have k2 := (hT.1.2.2.2 _ a2).2.2.1
      rw [h2] at k2
      have k2 : p + 1 + 1 + T.2.2 (p + 1 + 1) = p + 1 + T.2.2 (p + 1) := k2
      obtain ⟨d1, d2, d3⟩ := kid_in hT.1 a2 (show 0 < aro T.2.1 (p + 1) by omega)
      have d2 : p + 1 + 1 < T.1 := d2
      have s2 := (hT.1.2.2.2 (p + 1 + 1) d2).1
      obtain ⟨_, ek, I1, rfl, f1, A1⟩ := T_keepOnly (J := J) hR hA hp (show p < p + 2 by omega) (show p + 2 < p + T.2.2 p by omega)
      rw [if_pos (show mi (mz b (T.2.1 (p + 1))) = (11 : Int32) from (mi_eq (k := 11) (by omega) (by omega)).mpr q2), if_pos (bT_xk ta), Option.bind_some, if_pos (bT_xk ta), show (Int32.ofNat (p + 1)) + (1 : Int32) = (Int32.ofNat (p + 2)) from n_add (p + 1) 1, ek, Option.bind_some, q_let, show f_X7_applyRule_j91 (mg (4562 + zn J) I1 J R) 2206 a (Int32.ofNat (pl T.2.2 p)) (Int32.ofNat (p)) 6 = _ from j91k 6 _ (by first | decide | omega) (by first | decide | omega)]
      have er : rl b T p = some (6, tIn T p (p + 2)) := if_pos ⟨q1, q2⟩
      rw [er]
      exact q_ok ⟨I1, rfl, f1, A1⟩
    · rw [if_neg (show ¬ mi (mz b (T.2.1 (p + 1))) = (11 : Int32) from fun y => q2 ((mi_eq (k := 11) (by omega) (by omega)).mp y))]
      exact j70 (fun y => q2 y.2)
  · rw [if_neg (show ¬ mi (mz b (T.2.1 p)) = (11 : Int32) from fun y => q1 ((mi_eq (k := 11) (by omega) (by omega)).mp y))]
    exact j70 (fun y => q1 y.1)
end CRV
