/-! making simpler: the reference's step -/
section MRV
variable {I : Nat → Nat → Int32} {J : Nat → Nat → Int64} {R : Nat → Nat → Option Nat} {β : Type} {p : Nat} {b : GB} {T : Tt}
theorem M_val {q v : Nat} (hA : WkM I T) (hT : TtO b T) (hq : q < T.1) (hv : v ≤ 999999999) (h0 : (T.2.1 q).1 = 0) (hn : T.1 ≤ 80) : FrK Sw2 I (up I 4566 (13540 + q) (Int32.ofNat (v))) ∧ WkM (up I 4566 (13540 + q) (Int32.ofNat (v))) (tVal T q v) := by
  refine ⟨fun x j y => ?_, ⟨⟨hA.1.1.1, fun i hi => ?_⟩, (tVal_O hT hq h0 hv).1, fun i hi => ?_⟩, ?_⟩
  · unfold Sw2 Sm at y
    rw [up_n (by omega)]
  · obtain ⟨y1, y2, y3, y4, y5⟩ := hA.1.1.2 i hi
    show _ = (if i = q then _ else _ : Nd).1 ∧ _ = (if i = q then _ else _ : Nd).2.1 ∧ _ = (if i = q then _ else _ : Nd).2.2.1 ∧ _ = (Int32.ofNat ((if i = q then _ else _ : Nd).2.2.2)) ∧ (if i = q then _ else _ : Nd).2.2.2 ≤ 4
    have u1 : ∀ x, x ≠ 4566 → up I 4566 (13540 + q) (Int32.ofNat (v)) x (13540 + i) = I x (13540 + i) := fun x hx => by rw [up_r hx]
    rw [u1 4565 (by omega), u1 4567 (by omega), u1 4568 (by omega)]
    by_cases z : i = q
    · rw [if_pos z, z, up_s]
      rw [z] at y1 y3 y4 y5
      exact ⟨y1, rfl, y3, y4, y5⟩
    · rw [if_neg z, up_n (by omega)]
      exact ⟨y1, y2, y3, y4, y5⟩
  · rw [up_r (by omega)]
    exact hA.1.2.2 i hi
  · rw [up_n (by omega)]
    exact hA.2
theorem M_ruleOfTwo {m : Nat} (hR : RA R) (hB : MTb I b) (hO : TbOK b) (hA : WkM I T) (hT : TtO b T) (hp : p < T.1) (hn : T.1 ≤ 80) (h2 : aro T.2.1 p = 2) (hm : m ≤ 5) : QK (f_X12_ruleOfTwo (mg 4625 I J R) 4561 (Int32.ofNat (13540 + p)) (Int32.ofNat (m))) (RuQ I J R (rl2 b T p m (p + 1) (kid T.2.2 p 1))) := by
  obtain ⟨e0, a1, b1, c1, c2, c3, c4, c5⟩ := two_kids hT hp h2
  have n1 := hT.2 _ a1
  have n2 := hT.2 _ b1
  obtain ⟨v1, v2, -⟩ := NV_v n1
  obtain ⟨w1, w2, -⟩ := NV_v n2
  have ch1 : f_X12_child (mg 4625 I J R) 4561 (Int32.ofNat (13540 + p)) 1 = some (Int32.ofNat (13540 + kid T.2.2 p 1)) := M_child (k := 1) hR hA.1 hp (show 1 ≤ aro T.2.1 p by omega)
  have ne : ∀ k : Nat, k ≤ 5 → m ≠ k → ¬ (Int32.ofNat (m)) = (Int32.ofNat (k)) := fun k hk h => i32_ne (by omega) (by omega) h
  have nb1 := fun (v : Nat) (hv : v < 2147483648) => M_isNumber (J := J) hR hA.1 a1 n1 hv
  have nb2 := fun (v : Nat) (hv : v < 2147483648) => M_isNumber (J := J) hR hA.1 b1 n2 hv
  have mk := fun v : Nat => M_num (J := J) (v := v) hR hA hp hn
  have ia := M_inn (J := J) hR hA hp hn (show p < p + 1 by omega) c1
  have ic := M_inn (J := J) hR hA hp hn c2 c3
  have sm := M_areSame (J := J) hR hA.1 hA.1 a1 b1
  have gt := M_gathered (J := J) hR hB hO hA hT hp hn h2
  have alv : alk b T (p + 1) (kid T.2.2 p 1) → (T.2.1 (p + 1 + 1)).1 = 0 ∧ p + 1 + 1 < T.1 ∧ vN (T.2.1 (p + 1 + 1)) + vN (T.2.1 (kid T.2.2 p 1 + 1)) ≤ 999999999 := fun y => by
    obtain ⟨-, d1, -⟩ := alk_kids hT hO a1 y.1 y.2.2.1
    exact ⟨y.2.2.1, d1, y.2.2.2.2.2⟩
  unfold rl2
  generalize kid T.2.2 p 1 = c at *
  -- from the end
  have j258 : QK (f_X12_ruleOfTwo_j243 (mg 4625 I J R) 4561 (Int32.ofNat (13540 + p)) (Int32.ofNat (m)) (Int32.ofNat (13540 + (p + 1))) (Int32.ofNat (13540 + c))) (RuQ I J R (if m = 0 ∧ alk b T (p + 1) c then some (7, tIn (tVal T (p + 1 + 1) (vN (T.2.1 (p + 1 + 1)) + vN (T.2.1 (c + 1)))) p (p + 1)) else none)) := by
    unfold f_X12_ruleOfTwo_j243 f_X12_ruleOfTwo_j258
    by_cases m0 : m = 0
    · rw [if_pos (show (Int32.ofNat (m)) = (0 : Int32) by rw [m0]; rfl), if_pos ok_4561, gt, Option.bind_some]
      by_cases ak : alk b T (p + 1) c
      · obtain ⟨k1, k2, k3⟩ := alv ak
        rw [if_pos ak, if_neg (i32_nlt0 (by omega)), gr_4561_5 hR, show (Int32.ofNat (13540 + (p + 1))) + (1 : Int32) = (Int32.ofNat (13540 + (p + 1 + 1))) from n_add (13540 + (p + 1)) 1, gw_4566 (by omega), if_pos ok_4561, if_pos (show m = 0 ∧ alk b T (p + 1) c from ⟨m0, ak⟩)]
        obtain ⟨f1, A1⟩ := M_val hA hT k2 k3 k1 hn
        obtain ⟨I2, e2, f2, A2⟩ := M_inn (J := J) hR A1 hp hn (show p < p + 1 by omega) c1
        rw [e2, Option.bind_some]
        exact q_ok ⟨I2, rfl, FrK_tr f1 f2, A2⟩
      · rw [if_neg ak, if_pos (by decide), if_neg (show ¬ (m = 0 ∧ alk b T (p + 1) c) from fun y => ak y.2)]
        exact q_ok rfl
    · rw [if_neg (show ¬ (Int32.ofNat (m)) = (0 : Int32) from ne 0 (by decide) m0), if_pos (by decide), if_neg (show ¬ (m = 0 ∧ alk b T (p + 1) c) from fun y => m0 y.1)]
      exact q_ok rfl
  have j206 : QK (f_X12_ruleOfTwo_j206 (mg 4625 I J R) 4561 (Int32.ofNat (13540 + p)) (Int32.ofNat (m)) (Int32.ofNat (13540 + (p + 1))) (Int32.ofNat (13540 + c))) (RuQ I J R (if (m = 1 ∨ m = 3) ∧ smP T (p + 1) c then some (5, tNum T p (if m = 3 then 1 else 0)) else if m = 0 ∧ alk b T (p + 1) c then some (7, tIn (tVal T (p + 1 + 1) (vN (T.2.1 (p + 1 + 1)) + vN (T.2.1 (c + 1)))) p (p + 1)) else none)) := by
    unfold f_X12_ruleOfTwo_j206
    have j216 : (m = 1 ∨ m = 3) → QK (f_X12_ruleOfTwo_j216 (mg 4625 I J R) 4561 (Int32.ofNat (13540 + p)) (Int32.ofNat (m)) (Int32.ofNat (13540 + (p + 1))) (Int32.ofNat (13540 + c))) (RuQ I J R (if (m = 1 ∨ m = 3) ∧ smP T (p + 1) c then some (5, tNum T p (if m = 3 then 1 else 0)) else if m = 0 ∧ alk b T (p + 1) c then some (7, tIn (tVal T (p + 1 + 1) (vN (T.2.1 (p + 1 + 1)) + vN (T.2.1 (c + 1)))) p (p + 1)) else none)) := fun hm13 => by
      unfold f_X12_ruleOfTwo_j216 f_X12_ruleOfTwo_j238
      rw [if_pos ok_4561, sm, Option.bind_some]
      by_cases q : smP T (p + 1) c
      · rw [if_pos q, if_neg (show ¬ (1 : Int32) = 0 by decide), if_pos (show (m = 1 ∨ m = 3) ∧ smP T (p + 1) c from ⟨hm13, q⟩)]
        by_cases m3 : m = 3
        · obtain ⟨I1, e1, f1, A1⟩ := mk 1
          rw [if_pos (show (Int32.ofNat (m)) = (3 : Int32) by rw [m3]; rfl), if_pos ok_4561, show f_X12_becomes (mg 4625 I J R) 4561 (Int32.ofNat (13540 + p)) 1 = _ from e1, Option.bind_some, if_pos m3]
          exact q_ok ⟨I1, rfl, f1, A1⟩
        · obtain ⟨I1, e1, f1, A1⟩ := mk 0
          rw [if_neg (show ¬ (Int32.ofNat (m)) = (3 : Int32) from ne 3 (by decide) m3), if_pos ok_4561, show f_X12_becomes (mg 4625 I J R) 4561 (Int32.ofNat (13540 + p)) 0 = _ from e1, Option.bind_some, if_neg m3]
          exact q_ok ⟨I1, rfl, f1, A1⟩
      · rw [if_neg q, if_pos rfl, if_neg (show ¬ ((m = 1 ∨ m = 3) ∧ smP T (p + 1) c) from fun y => q y.2)]
        exact j258
    by_cases m1 : m = 1
    · rw [if_pos (show (Int32.ofNat (m)) = (1 : Int32) by rw [m1]; rfl)]
      exact j216 (Or.inl m1)
    rw [if_neg (show ¬ (Int32.ofNat (m)) = (1 : Int32) from ne 1 (by decide) m1)]
    by_cases m3 : m = 3
    · rw [if_pos (show (Int32.ofNat (m)) = (3 : Int32) by rw [m3]; rfl)]
      exact j216 (Or.inr m3)
    · rw [if_neg (show ¬ (Int32.ofNat (m)) = (3 : Int32) from ne 3 (by decide) m3), if_neg (show ¬ ((m = 1 ∨ m = 3) ∧ smP T (p + 1) c) from fun y => by omega)]
      exact j258
  have j174 : QK (f_X12_ruleOfTwo_j174 (mg 4625 I J R) 4561 (Int32.ofNat (13540 + p)) (Int32.ofNat (m)) (Int32.ofNat (13540 + (p + 1))) (Int32.ofNat (13540 + c))) (RuQ I J R (if m = 2 ∧ (isNm (T.2.1 (p + 1)) 0 ∨ isNm (T.2.1 c) 0) then some (4, tNum T p 0) else if (m = 1 ∨ m = 3) ∧ smP T (p + 1) c then some (5, tNum T p (if m = 3 then 1 else 0)) else if m = 0 ∧ alk b T (p + 1) c then some (7, tIn (tVal T (p + 1 + 1) (vN (T.2.1 (p + 1 + 1)) + vN (T.2.1 (c + 1)))) p (p + 1)) else none)) := by
    have j198 : QK (f_X12_ruleOfTwo_j198 (mg 4625 I J R) 4561 (Int32.ofNat (13540 + p))) (RuQ I J R (some (4, tNum T p 0))) := by
      obtain ⟨I1, e1, f1, A1⟩ := mk 0
      unfold f_X12_ruleOfTwo_j198
      rw [if_pos ok_4561, show f_X12_becomes (mg 4625 I J R) 4561 (Int32.ofNat (13540 + p)) 0 = _ from e1, Option.bind_some]
      exact q_ok ⟨I1, rfl, f1, A1⟩
    unfold f_X12_ruleOfTwo_j174
    by_cases m2 : m = 2
    · rw [if_pos (show (Int32.ofNat (m)) = (2 : Int32) by rw [m2]; rfl), if_pos ok_4561, show f_X12_isNumber (mg 4625 I J R) 4561 (Int32.ofNat (13540 + (p + 1))) 0 = _ from nb1 0 (by decide), Option.bind_some]
      by_cases q1 : isNm (T.2.1 (p + 1)) 0
      · rw [if_pos q1, if_neg (show ¬ (1 : Int32) = 0 by decide), if_pos (show m = 2 ∧ (isNm (T.2.1 (p + 1)) 0 ∨ isNm (T.2.1 c) 0) from ⟨m2, Or.inl q1⟩)]
        exact j198
      rw [if_neg q1, if_pos rfl, if_pos ok_4561, show f_X12_isNumber (mg 4625 I J R) 4561 (Int32.ofNat (13540 + c)) 0 = _ from nb2 0 (by decide), Option.bind_some]
      by_cases q2 : isNm (T.2.1 c) 0
      · rw [if_pos q2, if_neg (show ¬ (1 : Int32) = 0 by decide), if_pos (show m = 2 ∧ (isNm (T.2.1 (p + 1)) 0 ∨ isNm (T.2.1 c) 0) from ⟨m2, Or.inr q2⟩)]
        exact j198
      rw [if_neg q2, if_pos rfl, if_neg (show ¬ (m = 2 ∧ (isNm (T.2.1 (p + 1)) 0 ∨ isNm (T.2.1 c) 0)) from fun y => y.2.elim q1 q2)]
      exact j206
    · rw [if_neg (show ¬ (Int32.ofNat (m)) = (2 : Int32) from ne 2 (by decide) m2), if_neg (show ¬ (m = 2 ∧ (isNm (T.2.1 (p + 1)) 0 ∨ isNm (T.2.1 c) 0)) from fun y => m2 y.1)]
      exact j206
  have j141 : QK (f_X12_ruleOfTwo_j141 (mg 4625 I J R) 4561 (Int32.ofNat (13540 + p)) (Int32.ofNat (m)) (Int32.ofNat (13540 + (p + 1))) (Int32.ofNat (13540 + c))) (RuQ I J R (if (m = 2 ∨ m = 3 ∨ m = 5) ∧ isNm (T.2.1 c) 1 then some (3, tIn T p (p + 1)) else if m = 2 ∧ (isNm (T.2.1 (p + 1)) 0 ∨ isNm (T.2.1 c) 0) then some (4, tNum T p 0) else if (m = 1 ∨ m = 3) ∧ smP T (p + 1) c then some (5, tNum T p (if m = 3 then 1 else 0)) else if m = 0 ∧ alk b T (p + 1) c then some (7, tIn (tVal T (p + 1 + 1) (vN (T.2.1 (p + 1 + 1)) + vN (T.2.1 (c + 1)))) p (p + 1)) else none)) := by
    have j156 : (m = 2 ∨ m = 3 ∨ m = 5) → QK (f_X12_ruleOfTwo_j156 (mg 4625 I J R) 4561 (Int32.ofNat (13540 + p)) (Int32.ofNat (m)) (Int32.ofNat (13540 + (p + 1))) (Int32.ofNat (13540 + c))) (RuQ I J R (if (m = 2 ∨ m = 3 ∨ m = 5) ∧ isNm (T.2.1 c) 1 then some (3, tIn T p (p + 1)) else if m = 2 ∧ (isNm (T.2.1 (p + 1)) 0 ∨ isNm (T.2.1 c) 0) then some (4, tNum T p 0) else if (m = 1 ∨ m = 3) ∧ smP T (p + 1) c then some (5, tNum T p (if m = 3 then 1 else 0)) else if m = 0 ∧ alk b T (p + 1) c then some (7, tIn (tVal T (p + 1 + 1) (vN (T.2.1 (p + 1 + 1)) + vN (T.2.1 (c + 1)))) p (p + 1)) else none)) := fun hm3 => by
      unfold f_X12_ruleOfTwo_j156
      rw [if_pos ok_4561, show f_X12_isNumber (mg 4625 I J R) 4561 (Int32.ofNat (13540 + c)) 1 = _ from nb2 1 (by decide), Option.bind_some]
      by_cases q1 : isNm (T.2.1 c) 1
      · obtain ⟨I1, e1, f1, A1⟩ := ia
        rw [if_pos q1, if_neg (show ¬ (1 : Int32) = 0 by decide), if_pos ok_4561, e1, Option.bind_some, if_pos (show (m = 2 ∨ m = 3 ∨ m = 5) ∧ isNm (T.2.1 c) 1 from ⟨hm3, q1⟩)]
        exact q_ok ⟨I1, rfl, f1, A1⟩
      · rw [if_neg q1, if_pos rfl, if_neg (show ¬ ((m = 2 ∨ m = 3 ∨ m = 5) ∧ isNm (T.2.1 c) 1) from fun y => q1 y.2)]
        exact j174
    unfold f_X12_ruleOfTwo_j141
    by_cases m2 : m = 2
    · rw [if_pos (show (Int32.ofNat (m)) = (2 : Int32) by rw [m2]; rfl)]
      exact j156 (Or.inl m2)
    rw [if_neg (show ¬ (Int32.ofNat (m)) = (2 : Int32) from ne 2 (by decide) m2)]
    by_cases m3 : m = 3
    · rw [if_pos (show (Int32.ofNat (m)) = (3 : Int32) by rw [m3]; rfl)]
      exact j156 (Or.inr (Or.inl m3))
    rw [if_neg (show ¬ (Int32.ofNat (m)) = (3 : Int32) from ne 3 (by decide) m3)]
    by_cases m5 : m = 5
    · rw [if_pos (show (Int32.ofNat (m)) = (5 : Int32) by rw [m5]; rfl)]
      exact j156 (Or.inr (Or.inr m5))
    · rw [if_neg (show ¬ (Int32.ofNat (m)) = (5 : Int32) from ne 5 (by decide) m5), if_neg (show ¬ ((m = 2 ∨ m = 3 ∨ m = 5) ∧ isNm (T.2.1 c) 1) from fun y => by omega)]
      exact j174
  have j118 : QK (f_X12_ruleOfTwo_j118 (mg 4625 I J R) 4561 (Int32.ofNat (13540 + p)) (Int32.ofNat (m)) (Int32.ofNat (13540 + (p + 1))) (Int32.ofNat (13540 + c))) (RuQ I J R (if m = 2 ∧ isNm (T.2.1 (p + 1)) 1 then some (3, tIn T p c) else if (m = 2 ∨ m = 3 ∨ m = 5) ∧ isNm (T.2.1 c) 1 then some (3, tIn T p (p + 1)) else if m = 2 ∧ (isNm (T.2.1 (p + 1)) 0 ∨ isNm (T.2.1 c) 0) then some (4, tNum T p 0) else if (m = 1 ∨ m = 3) ∧ smP T (p + 1) c then some (5, tNum T p (if m = 3 then 1 else 0)) else if m = 0 ∧ alk b T (p + 1) c then some (7, tIn (tVal T (p + 1 + 1) (vN (T.2.1 (p + 1 + 1)) + vN (T.2.1 (c + 1)))) p (p + 1)) else none)) := by
    unfold f_X12_ruleOfTwo_j118
    by_cases m2 : m = 2
    · rw [if_pos (show (Int32.ofNat (m)) = (2 : Int32) by rw [m2]; rfl), if_pos ok_4561, show f_X12_isNumber (mg 4625 I J R) 4561 (Int32.ofNat (13540 + (p + 1))) 1 = _ from nb1 1 (by decide), Option.bind_some]
      by_cases q1 : isNm (T.2.1 (p + 1)) 1
      · obtain ⟨I1, e1, f1, A1⟩ := ic
        rw [if_pos q1, if_neg (show ¬ (1 : Int32) = 0 by decide), if_pos ok_4561, e1, Option.bind_some, if_pos (show m = 2 ∧ isNm (T.2.1 (p + 1)) 1 from ⟨m2, q1⟩)]
        exact q_ok ⟨I1, rfl, f1, A1⟩
      · rw [if_neg q1, if_pos rfl, if_neg (show ¬ (m = 2 ∧ isNm (T.2.1 (p + 1)) 1) from fun y => q1 y.2)]
        exact j141
    · rw [if_neg (show ¬ (Int32.ofNat (m)) = (2 : Int32) from ne 2 (by decide) m2), if_neg (show ¬ (m = 2 ∧ isNm (T.2.1 (p + 1)) 1) from fun y => m2 y.1)]
      exact j141
  have j91 : QK (f_X12_ruleOfTwo_j91 (mg 4625 I J R) 4561 (Int32.ofNat (13540 + p)) (Int32.ofNat (m)) (Int32.ofNat (13540 + (p + 1))) (Int32.ofNat (13540 + c))) (RuQ I J R (if (m = 0 ∨ m = 1) ∧ isNm (T.2.1 c) 0 then some (2, tIn T p (p + 1)) else if m = 2 ∧ isNm (T.2.1 (p + 1)) 1 then some (3, tIn T p c) else if (m = 2 ∨ m = 3 ∨ m = 5) ∧ isNm (T.2.1 c) 1 then some (3, tIn T p (p + 1)) else if m = 2 ∧ (isNm (T.2.1 (p + 1)) 0 ∨ isNm (T.2.1 c) 0) then some (4, tNum T p 0) else if (m = 1 ∨ m = 3) ∧ smP T (p + 1) c then some (5, tNum T p (if m = 3 then 1 else 0)) else if m = 0 ∧ alk b T (p + 1) c then some (7, tIn (tVal T (p + 1 + 1) (vN (T.2.1 (p + 1 + 1)) + vN (T.2.1 (c + 1)))) p (p + 1)) else none)) := by
    have j100 : (m = 0 ∨ m = 1) → QK (f_X12_ruleOfTwo_j100 (mg 4625 I J R) 4561 (Int32.ofNat (13540 + p)) (Int32.ofNat (m)) (Int32.ofNat (13540 + (p + 1))) (Int32.ofNat (13540 + c))) (RuQ I J R (if (m = 0 ∨ m = 1) ∧ isNm (T.2.1 c) 0 then some (2, tIn T p (p + 1)) else if m = 2 ∧ isNm (T.2.1 (p + 1)) 1 then some (3, tIn T p c) else if (m = 2 ∨ m = 3 ∨ m = 5) ∧ isNm (T.2.1 c) 1 then some (3, tIn T p (p + 1)) else if m = 2 ∧ (isNm (T.2.1 (p + 1)) 0 ∨ isNm (T.2.1 c) 0) then some (4, tNum T p 0) else if (m = 1 ∨ m = 3) ∧ smP T (p + 1) c then some (5, tNum T p (if m = 3 then 1 else 0)) else if m = 0 ∧ alk b T (p + 1) c then some (7, tIn (tVal T (p + 1 + 1) (vN (T.2.1 (p + 1 + 1)) + vN (T.2.1 (c + 1)))) p (p + 1)) else none)) := fun hm01 => by
      unfold f_X12_ruleOfTwo_j100
      rw [if_pos ok_4561, show f_X12_isNumber (mg 4625 I J R) 4561 (Int32.ofNat (13540 + c)) 0 = _ from nb2 0 (by decide), Option.bind_some]
      by_cases q1 : isNm (T.2.1 c) 0
      · obtain ⟨I1, e1, f1, A1⟩ := ia
        rw [if_pos q1, if_neg (show ¬ (1 : Int32) = 0 by decide), if_pos ok_4561, e1, Option.bind_some, if_pos (show (m = 0 ∨ m = 1) ∧ isNm (T.2.1 c) 0 from ⟨hm01, q1⟩)]
        exact q_ok ⟨I1, rfl, f1, A1⟩
      · rw [if_neg q1, if_pos rfl, if_neg (show ¬ ((m = 0 ∨ m = 1) ∧ isNm (T.2.1 c) 0) from fun y => q1 y.2)]
        exact j118
    unfold f_X12_ruleOfTwo_j91
    by_cases m0 : m = 0
    · rw [if_pos (show (Int32.ofNat (m)) = (0 : Int32) by rw [m0]; rfl)]
      exact j100 (Or.inl m0)
    rw [if_neg (show ¬ (Int32.ofNat (m)) = (0 : Int32) from ne 0 (by decide) m0)]
    by_cases m1 : m = 1
    · rw [if_pos (show (Int32.ofNat (m)) = (1 : Int32) by rw [m1]; rfl)]
      exact j100 (Or.inr m1)
    · rw [if_neg (show ¬ (Int32.ofNat (m)) = (1 : Int32) from ne 1 (by decide) m1), if_neg (show ¬ ((m = 0 ∨ m = 1) ∧ isNm (T.2.1 c) 0) from fun y => by omega)]
      exact j118
  have j53 : ∀ o : Option Nat, (∀ v, o = some v → v ≤ 999999999) → QK (f_X12_ruleOfTwo_j53 (mg 4625 I J R) 4561 (Int32.ofNat (13540 + p)) (Int32.ofNat (m)) (Int32.ofNat (13540 + (p + 1))) (Int32.ofNat (13540 + c)) (wI0 o)) (RuQ I J R (match o with
      | some v => some (1, tNum T p v)
      | none => if m = 0 ∧ isNm (T.2.1 (p + 1)) 0 then some (2, tIn T p c) else if (m = 0 ∨ m = 1) ∧ isNm (T.2.1 c) 0 then some (2, tIn T p (p + 1)) else if m = 2 ∧ isNm (T.2.1 (p + 1)) 1 then some (3, tIn T p c) else if (m = 2 ∨ m = 3 ∨ m = 5) ∧ isNm (T.2.1 c) 1 then some (3, tIn T p (p + 1)) else if m = 2 ∧ (isNm (T.2.1 (p + 1)) 0 ∨ isNm (T.2.1 c) 0) then some (4, tNum T p 0) else if (m = 1 ∨ m = 3) ∧ smP T (p + 1) c then some (5, tNum T p (if m = 3 then 1 else 0)) else if m = 0 ∧ alk b T (p + 1) c then some (7, tIn (tVal T (p + 1 + 1) (vN (T.2.1 (p + 1 + 1)) + vN (T.2.1 (c + 1)))) p (p + 1)) else none)) := by
    intro o ho
    unfold f_X12_ruleOfTwo_j53
    cases o with
    | some v =>
      have := ho v rfl
      obtain ⟨I1, e1, f1, A1⟩ := mk v
      rw [if_neg (show ¬ wI0 (some v) < (0 : Int32) from i32_nlt0 (by omega)), if_pos ok_4561, show wI0 (some v) = (Int32.ofNat (v)) from rfl, e1, Option.bind_some]
      exact q_ok ⟨I1, rfl, f1, A1⟩
    | none =>
      rw [if_pos (show wI0 none < (0 : Int32) by decide)]
      dsimp only
      by_cases m0 : m = 0
      · rw [if_pos (show (Int32.ofNat (m)) = (0 : Int32) by rw [m0]; rfl), if_pos ok_4561, show f_X12_isNumber (mg 4625 I J R) 4561 (Int32.ofNat (13540 + (p + 1))) 0 = _ from nb1 0 (by decide), Option.bind_some]
        by_cases q1 : isNm (T.2.1 (p + 1)) 0
        · obtain ⟨I1, e1, f1, A1⟩ := ic
          rw [if_pos q1, if_neg (show ¬ (1 : Int32) = 0 by decide), if_pos ok_4561, e1, Option.bind_some, if_pos (show m = 0 ∧ isNm (T.2.1 (p + 1)) 0 from ⟨m0, q1⟩)]
          exact q_ok ⟨I1, rfl, f1, A1⟩
        · rw [if_neg q1, if_pos rfl, if_neg (show ¬ (m = 0 ∧ isNm (T.2.1 (p + 1)) 0) from fun y => q1 y.2)]
          exact j91
      · rw [if_neg (show ¬ (Int32.ofNat (m)) = (0 : Int32) from ne 0 (by decide) m0), if_neg (show ¬ (m = 0 ∧ isNm (T.2.1 (p + 1)) 0) from fun y => m0 y.1)]
        exact j91
  unfold f_X12_ruleOfTwo f_X12_ruleOfTwo_j52
  rw [q_let, if_pos ok_4561, ch1, Option.bind_some, show (Int32.ofNat (13540 + p)) + (1 : Int32) = (Int32.ofNat (13540 + (p + 1))) from n_add (13540 + p) 1, mk_0 hA.1 a1 hR]
  by_cases z1 : (T.2.1 (p + 1)).1 = 0
  rotate_left
  · rw [if_neg z1, if_neg (show ¬ ((T.2.1 (p + 1)).1 = 0 ∧ (T.2.1 c).1 = 0) from fun y => z1 y.1)]
    exact j53 none (fun v hv => by cases hv)
  rw [if_pos z1, mk_0 hA.1 b1 hR]
  by_cases z2 : (T.2.1 c).1 = 0
  rotate_left
  · rw [if_neg z2, if_neg (show ¬ ((T.2.1 (p + 1)).1 = 0 ∧ (T.2.1 c).1 = 0) from fun y => z2 y.2)]
    exact j53 none (fun v hv => by cases hv)
  rw [if_pos z2, mk_1 hA.1 a1 hR, mk_1 hA.1 b1 hR, if_pos ok_4561, v1, w1, M_whole v2 w2 hm, Option.bind_some, if_pos (show (T.2.1 (p + 1)).1 = 0 ∧ (T.2.1 c).1 = 0 from ⟨z1, z2⟩)]
  exact j53 _ (fun v hv => capN_le hv)
theorem M_ruleAt (hR : RA R) (hB : MTb I b) (hO : TbOK b) (hA : WkM I T) (hT : TtO b T) (hp : p < T.1) (hn : T.1 ≤ 80) : QK (f_X12_ruleAt (mg 4625 I J R) 4561 (Int32.ofNat (13540 + p))) (RuQ I J R (rl b T p)) := by
  have np := hT.2 _ hp
  have mb := mz_b hO np
  have j35 : ¬ (mz b (T.2.1 p) = 11 ∧ mz b (T.2.1 (p + 1)) = 11) → QK (f_X12_ruleAt_j35 (mg 4625 I J R) 4561 (Int32.ofNat (13540 + p)) (mi (mz b (T.2.1 p)))) (RuQ I J R (rl b T p)) := fun nq => by
    unfold f_X12_ruleAt_j35 f_X12_ruleAt_j63 f_X12_ruleAt_j64 rl
    rw [if_neg nq]
    by_cases q5 : mz b (T.2.1 p) ≤ 5
    · have h2 : aro T.2.1 p = 2 := (mz_two hO np (by omega)).2
      rw [mi_s (by omega), m_in1 (show (0 : Int32) ≤ (Int32.ofNat (mz b (T.2.1 p))) from i32_0le (by omega)) (show (Int32.ofNat (mz b (T.2.1 p))) ≤ (5 : Int32) from (i32_le (m := 5) (by omega) (by omega)).mpr q5), Option.bind_some, if_neg (show ¬ (1 : Int32) = 0 by decide), mk_3 hA.1 hp hR, if_pos (show (Int32.ofNat (aro T.2.1 p)) = (2 : Int32) by rw [h2]; rfl), if_pos ok_4561, if_pos q5]
      refine q_bind (M_ruleOfTwo hR hB hO hA hT hp hn h2 q5) ?_
      intro r hr
      exact q_ok hr
    · rw [if_neg q5, m_in0 (x := mi (mz b (T.2.1 p))) (lo := 0) (hi := 5) (fun y => by
        rcases mb with z | ⟨-, z⟩
        · rw [z] at y
          exact absurd y.1 (by decide)
        · rw [mi_s z] at y
          exact absurd ((i32_le (m := 5) (by omega) (by omega)).mp y.2) (by omega)), Option.bind_some, if_pos rfl]
      exact q_ok rfl
  unfold f_X12_ruleAt
  rw [if_pos ok_4561, M_mi hR hA.1 hp np hB hO]
  by_cases q1 : mz b (T.2.1 p) = 11
  · have h1 : aro T.2.1 p = 1 := (mz_one hO np (by omega) (by omega)).2
    obtain ⟨a1, a2, a3⟩ := kid_in hT.1 hp (show 0 < aro T.2.1 p by omega)
    have a2 : p + 1 < T.1 := a2
    have n1 := hT.2 _ a2
    have mb1 := mz_b hO n1
    rw [if_pos (show mi (mz b (T.2.1 p)) = (11 : Int32) from (mi_eq (k := 11) (by omega) (by omega)).mpr q1), if_pos ok_4561, show (Int32.ofNat (13540 + p)) + (1 : Int32) = (Int32.ofNat (13540 + (p + 1))) from n_add (13540 + p) 1, M_mi hR hA.1 a2 n1 hB hO]
    by_cases q2 : mz b (T.2.1 (p + 1)) = 11
    · have h2 : aro T.2.1 (p + 1) = 1 := (mz_one hO n1 (by omega) (by omega)).2
      have k1 := (hT.1.2.2.2 p hp).2.2.1
      rw [h1] at k1
      have k1 : p + 1 + T.2.2 (p + 1) = p + T.2.2 p := k1
      have k2 := (hT.1.2.2.2 _ a2).2.2.1
      rw [h2] at k2
      have k2 : p + 1 + 1 + T.2.2 (p + 1 + 1) = p + 1 + T.2.2 (p + 1) := k2
      obtain ⟨d1, d2, d3⟩ := kid_in hT.1 a2 (show 0 < aro T.2.1 (p + 1) by omega)
      have d2 : p + 1 + 1 < T.1 := d2
      have s2 := (hT.1.2.2.2 (p + 1 + 1) d2).1
      obtain ⟨I1, e1, f1, A1⟩ := M_inn (J := J) hR hA hp hn (show p < p + 2 by omega) (show p + 2 < p + T.2.2 p by omega)
      have er : rl b T p = some (6, tIn T p (p + 2)) := if_pos ⟨q1, q2⟩
      rw [if_pos (show mi (mz b (T.2.1 (p + 1))) = (11 : Int32) from (mi_eq (k := 11) (by omega) (by omega)).mpr q2), if_pos ok_4561, show (Int32.ofNat (13540 + p)) + (2 : Int32) = (Int32.ofNat (13540 + (p + 2))) from n_add (13540 + p) 2, e1, Option.bind_some, er]
      exact q_ok ⟨I1, rfl, f1, A1⟩
    · rw [if_neg (show ¬ mi (mz b (T.2.1 (p + 1))) = (11 : Int32) from fun y => q2 ((mi_eq (k := 11) (by omega) (by omega)).mp y))]
      exact j35 (fun y => q2 y.2)
  · rw [if_neg (show ¬ mi (mz b (T.2.1 p)) = (11 : Int32) from fun y => q1 ((mi_eq (k := 11) (by omega) (by omega)).mp y))]
    exact j35 (fun y => q1 y.1)
end MRV
