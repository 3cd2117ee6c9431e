/-! call: answer, the reference and both -/
section AP
variable {I : Nat → Nat → Int32} {J : Nat → Nat → Int64} {R : Nat → Nat → Option Nat} {t : GT} {s : GS} {b : GB} {n : GN} {f : GF} {v : GV} {q : Nat → GV} {p p' : GT} {r : GR} {h : GH} {β : Type}
def SMa : Nat → Nat → Prop := fun a k => (a = 4561 ∧ k = 42) ∨ a = 4595 ∨ a = 4562 ∨ a = 4563
theorem MX_keep {I' : Nat → Nat → Int32} {l : List Nat} (H : MX I l) (e : ∀ a k, (a = 4561 ∧ k = 42) ∨ a = 4595 → I' a k = I a k) : MX I' l := ⟨(e _ _ (by omega)).trans H.1, fun k hk => (e _ _ (by omega)).trans (H.2 k hk)⟩
/-- the reference's digits of a number, turned round -/
theorem M_answer80 {rx kk nn : Nat} {l0 : List Nat} (hR : RA R) (hN : Rg (I 4562) (I 4563) 2 kk nn) (hk13 : kk ≤ 13) (hX : MX I l0) (hl0 : l0.length ≤ 1) (hn : nn < 2 ^ 210) (hr : 2 ≤ rx ∧ rx ≤ 36) : QK (f_X12_answer_j80 (mg 4625 I J R) 4561 (Int32.ofNat (rx))) (fun x => ∃ I' l, x = ((Int32.ofNat (l.length)), mg 4625 I' J R) ∧ FrK SMa I I' ∧ l = rdg rx 210 nn l0 ∧ I' 4561 42 = (Int32.ofNat (l.length)) ∧ ∀ k, k < l.length → I' 4595 k = (if k < l0.length then (Int32.ofNat (tF l k)) else (Int32.ofNat (tF l (l0.length + l.length - 1 - k))))) := by
  unfold f_X12_answer_j80
  rw [gi_4561, hX.1, if_pos ok_4561]
  refine q_bind (M_putR (rg := 3) (x := rx) hR (by decide) (by omega)) ?_
  rintro _ ⟨I1, k3, rfl, hF1, hR3, hk3, hK1⟩
  have hN1 : Rg (I1 4562) (I1 4563) 2 kk nn := hN.keep hK1 (by decide)
  have hX1 : MX I1 l0 := MX_keep hX (fun a k y => by rw [hF1 a (by omega)])
  have fr1 : FrK SMa I I1 := fun a k y => by rw [hF1 a (by unfold SMa at y; omega)]
  generalize hE : rdg rx 210 nn l0 = E
  have hEl := rdg_len rx 210 nn l0
  rw [hE] at hEl
  refine q_bind (P := fun x => ∃ I', x = .inr (4561, (Int32.ofNat (l0.length)), mg 4625 I' J R) ∧ FrK SMa I I' ∧ MX I' E) ?_ ?_
  · refine q_loop (fun fu st => ∃ I' n' l k k', st = (4561, (Int32.ofNat (l0.length)), mg 4625 I' J R) ∧ FrK SMa I I' ∧ MX I' l ∧ Rg (I' 4562) (I' 4563) 2 k n' ∧ k ≤ 13 ∧ Rg (I' 4562) (I' 4563) 3 k' rx ∧ k' ≤ 2 ∧ 1 ≤ fu ∧ n' < 2 ^ fu ∧ rdg rx fu n' l = E ∧ l.length + fu ≤ 211) ?_ (m := 210) ⟨I1, nn, l0, kk, k3, rfl, fr1, hX1, hN1, hk13, hR3, hk3, by decide, hn, hE, by omega⟩ (by unfold xF; omega)
    rintro fu st ⟨I', n', l, k, k', rfl, hF, hX', hN', hk', hR', hk3', f1, fn, fe, fl⟩
    obtain ⟨fu', rfl⟩ : ∃ fu', fu = fu' + 1 := ⟨fu - 1, by omega⟩
    unfold f_X12_answer_s91
    dsimp only
    rw [q_let, q_let, q_let, if_pos ok_4561]
    refine q_bind (M_divide (qg := 4) (mr := 5) (rg := 2) (tg := 3) hR (by decide) (by decide) (by decide) (by decide) (by decide) (by decide) (by decide) hN' hR' (by omega) (Bp_26 hR' (by omega))) ?_
    rintro _ ⟨I2, kq, km, rfl, hF2, hQ, hM, hK2⟩
    have md : n' % rx < 36 := Nat.lt_of_lt_of_le (Nat.mod_lt _ (by omega)) hr.2
    have hX2 : MX I2 l := MX_keep hX' (fun a k y => by rw [hF2 a (by omega)])
    have hR2 : Rg (I2 4562) (I2 4563) 3 k' rx := hR'.kl hK2 (by decide)
    have fr2 : FrK SMa I I2 := fun a k y => by rw [hF2 a (by unfold SMa at y; omega)]; exact hF a k y
    have kq13 : kq ≤ 13 := by
      have h1 := hQ.2.2.2.1
      have h2 := hN'.2.2.1
      rcases h1 with h1 | h1
      · omega
      · refine Nat.le_of_not_lt (fun y => ?_)
        have b1 : Bp 13 ≤ Bp (kq - 1) := Bp_le (by omega)
        have b2 : Bp k ≤ Bp 13 := Bp_le hk'
        have b3 : n' / rx ≤ n' := Nat.div_le_self _ _
        omega
    have j146 : QK (f_X12_answer_j146 (mg 4625 I2 J R) 4561 (Int32.ofNat (l0.length)) (Int32.ofNat (dch (n' % rx))) 4561) (qS (fun s' => ∃ m', m' < fu' + 1 ∧ ∃ I' n' l k k', s' = (4561, (Int32.ofNat (l0.length)), mg 4625 I' J R) ∧ FrK SMa I I' ∧ MX I' l ∧ Rg (I' 4562) (I' 4563) 2 k n' ∧ k ≤ 13 ∧ Rg (I' 4562) (I' 4563) 3 k' rx ∧ k' ≤ 2 ∧ 1 ≤ m' ∧ n' < 2 ^ m' ∧ rdg rx m' n' l = E ∧ l.length + m' ≤ 211) (fun x => ∃ I', x = .inr (4561, (Int32.ofNat (l0.length)), mg 4625 I' J R) ∧ FrK SMa I I' ∧ MX I' E)) := by
      unfold f_X12_answer_j146
      rw [if_pos ok_4561]
      refine q_bind (M_prints hR hX2 (by omega)) ?_
      rintro _ ⟨I3, rfl, hF3, hX3⟩
      have e62 : I3 4562 = I2 4562 := funext (fun k => hF3 _ _ (by omega))
      have e63 : I3 4563 = I2 4563 := funext (fun k => hF3 _ _ (by omega))
      have hQ3 : Rg (I3 4562) (I3 4563) 4 kq (n' / rx) := by rw [e62, e63]; exact hQ
      rw [if_pos ok_4561]
      refine q_bind (M_copyR (rg := 2) (tg := 4) hR (by decide) (by decide) (by decide) hQ3) ?_
      rintro _ ⟨I4, rfl, hF4, hN4, hK4⟩
      have hR4 : Rg (I4 4562) (I4 4563) 3 k' rx := by
        refine Rg.keep ?_ hK4 (by decide)
        rw [e62, e63]
        exact hR2
      have hX4 : MX I4 (dch (n' % rx) :: l) := MX_keep hX3 (fun a k y => by rw [hF4 a (by omega)])
      have fr4 : FrK SMa I I4 := fun a k y => by
        rw [hF4 a (by unfold SMa at y; omega), hF3 a k (by unfold SMa at y; omega)]
        exact fr2 a k y
      rw [gr_4561_2 hR, show (2 : Int32) = (Int32.ofNat (2)) from rfl, ga_4563 (by decide), hN4.1]
      rw [rdg_c] at fe
      have z0 := Rg_zero hN4
      by_cases y : n' / rx = 0
      · rw [if_pos y] at fe
        rw [if_neg (show ¬ (0 : Int32) < (Int32.ofNat (kq)) from fun w => absurd ((i32_lt (k := 0) (by omega) (by omega)).mp w) (by have := z0.mpr y; omega))]
        exact q_ex ⟨I4, rfl, fr4, by rw [← fe]; exact hX4⟩
      · rw [if_neg y] at fe
        have k0 : kq ≠ 0 := fun e => y (z0.mp e)
        have lt : n' / rx < 2 ^ fu' := by
          refine Nat.div_lt_of_lt_mul (Nat.lt_of_lt_of_le fn ?_)
          rw [Nat.pow_succ, Nat.mul_comm]
          exact Nat.mul_le_mul_right _ hr.1
        have f1' : 1 ≤ fu' := by
          cases fu' with
          | zero => exact absurd (Nat.lt_one_iff.mp lt) y
          | succ _ => omega
        rw [if_pos (show (0 : Int32) < (Int32.ofNat (kq)) from (i32_lt (k := 0) (by omega) (by omega)).mpr (by omega))]
        exact q_go ⟨fu', by omega, I4, n' / rx, _, kq, k', rfl, fr4, hX4, hN4, kq13, hR4, hk3', f1', lt, fe, by rw [List.length_cons]; omega⟩
    have j120 : QK (f_X12_answer_j120 (mg 4625 I2 J R) 4561 (Int32.ofNat (l0.length)) (Int32.ofNat (n' % rx))) (qS (fun s' => ∃ m', m' < fu' + 1 ∧ ∃ I' n' l k k', s' = (4561, (Int32.ofNat (l0.length)), mg 4625 I' J R) ∧ FrK SMa I I' ∧ MX I' l ∧ Rg (I' 4562) (I' 4563) 2 k n' ∧ k ≤ 13 ∧ Rg (I' 4562) (I' 4563) 3 k' rx ∧ k' ≤ 2 ∧ 1 ≤ m' ∧ n' < 2 ^ m' ∧ rdg rx m' n' l = E ∧ l.length + m' ≤ 211) (fun x => ∃ I', x = .inr (4561, (Int32.ofNat (l0.length)), mg 4625 I' J R) ∧ FrK SMa I I' ∧ MX I' E)) := by
      rw [← dch_i md] at j146
      unfold f_X12_answer_j120
      by_cases y : (10 : Int32) ≤ (Int32.ofNat (n' % rx))
      · rw [if_pos y]
        rw [if_pos y] at j146
        exact j146
      · rw [if_neg y]
        rw [if_neg y] at j146
        exact j146
    rw [gr_4561_2 hR, show (5 : Int32) = (Int32.ofNat (5)) from rfl, ga_4563 (by decide), hM.1]
    have km0 := Rg_zero hM
    have km440 := hM.2.1
    by_cases y : km = 0
    · rw [if_pos (show (Int32.ofNat (km)) = (0 : Int32) by rw [y]; rfl)]
      have := km0.mp y
      rw [this] at j120
      exact j120
    · rw [if_neg (show ¬ _ = (0 : Int32) from i32_ne (b := 0) (by omega) (by omega) y), gr_4561_1 hR, show (2200 : Int32) = (Int32.ofNat (2200)) from rfl, ga_4562 (by decide)]
      have d0 := hM.2.2.2.2 0 (by omega)
      rw [show 440 * 5 + 0 = 2200 by rfl] at d0
      have e0 : dg (n' % rx) 0 = n' % rx := by
        show n' % rx / 65536 ^ 0 % 65536 = n' % rx
        rw [Nat.pow_zero, Nat.div_one, Nat.mod_eq_of_lt (by omega)]
      rw [d0, e0]
      exact j120
  · rintro _ ⟨I2, rfl, hF2, hX2⟩
    simp only [Sum.elim_inr]
    unfold f_X12_answer_j164
    have eL : l0.length < E.length := by
      rw [← hE, rdg_c]
      split
      · rw [List.length_cons]; omega
      · have := (rdg_len rx 209 (nn / rx) (dch (nn % rx) :: l0)).2
        rw [List.length_cons] at this
        omega
    rw [q_let]
    refine q_bind (P := fun x => ∃ I', x = .inr (4561, mg 4625 I' J R) ∧ FrK (fun a _ => a = 4595) I2 I' ∧ ∀ k, k < E.length → I' 4595 k = (if k < l0.length then (Int32.ofNat (tF E k)) else (Int32.ofNat (tF E (l0.length + E.length - 1 - k))))) ?_ ?_
    · refine q_loop (fun m st => ∃ I' j, st = (4561, (Int32.ofNat (l0.length)), (Int32.ofNat (j)), mg 4625 I' J R) ∧ m + j = E.length ∧ l0.length + j ≤ E.length - j ∧ FrK (fun a _ => a = 4595) I2 I' ∧ ∀ k, k < E.length → I' 4595 k = swp l0.length E.length j (fun k => (Int32.ofNat (tF E k))) k) ?_ (m := E.length) ⟨I2, 0, rfl, rfl, by omega, FrK_rfl, fun k hk => by
        unfold swp
        rw [if_neg (by omega)]
        exact hX2.2 k hk⟩ (by unfold xF; omega)
      rintro m st ⟨I', j, rfl, h1, h3, hF, hT⟩
      have h42 : I' 4561 42 = (Int32.ofNat (E.length)) := (hF _ _ (by omega)).trans hX2.1
      unfold f_X12_answer_s167
      dsimp only
      rw [q_let, q_let, q_let, q_let, gi_4561, h42, n_sub (by omega), show (Int32.ofNat (E.length - l0.length)) / 2 = (Int32.ofNat ((E.length - l0.length) / 2)) from n_div (b := 2) (by omega) (by decide)]
      by_cases y : (E.length - l0.length) / 2 ≤ j
      · rw [if_pos (show (Int32.ofNat ((E.length - l0.length) / 2)) ≤ (Int32.ofNat (j)) from (i32_le (by omega) (by omega)).mpr y)]
        refine q_ex ⟨I', rfl, hF, fun k hk => ?_⟩
        rw [hT k hk]
        unfold swp
        by_cases y1 : k < l0.length
        · rw [if_pos y1, if_neg (by omega)]
        · rw [if_neg y1]
          by_cases y2 : (l0.length ≤ k ∧ k < l0.length + j) ∨ (E.length - j ≤ k ∧ k < E.length)
          · rw [if_pos y2]
          · rw [if_neg y2, show l0.length + E.length - 1 - k = k by omega]
      · have v1 : I' 4595 (l0.length + j) = (Int32.ofNat (tF E (l0.length + j))) := by
          rw [hT _ (by omega)]
          unfold swp
          rw [if_neg (by omega)]
        have v2 : I' 4595 (E.length - 1 - j) = (Int32.ofNat (tF E (E.length - 1 - j))) := by
          rw [hT _ (by omega)]
          unfold swp
          rw [if_neg (by omega)]
        rw [if_neg (show ¬ (Int32.ofNat ((E.length - l0.length) / 2)) ≤ (Int32.ofNat (j)) from fun w => y ((i32_le (by omega) (by omega)).mp w)), gr_4561_41 hR, n_add, ga_4595 (by omega), v1, gr_4561_41 hR, gr_4561_41 hR, gi_4561, h42, show (Int32.ofNat (E.length)) - 1 = (Int32.ofNat (E.length - 1)) from n_sub (a := E.length) (b := 1) (by omega), n_sub (by omega), ga_4595 (by omega), v2, gw_4595 (by omega), gr_4561_41 hR, gi_4561, up_n (by omega), h42, show (Int32.ofNat (E.length)) - 1 = (Int32.ofNat (E.length - 1)) from n_sub (a := E.length) (b := 1) (by omega), n_sub (by omega), gw_4595 (by omega), q_let, show (Int32.ofNat (j)) + 1 = (Int32.ofNat (j + 1)) from n_add j 1]
        refine q_go ⟨m - 1, by omega, _, j + 1, rfl, by omega, by omega, FrK_up (FrK_up hF rfl) rfl, fun k hk => ?_⟩
        unfold swp
        by_cases z1 : k = E.length - 1 - j
        · rw [z1, up_s, if_pos (by omega), show l0.length + E.length - 1 - (E.length - 1 - j) = l0.length + j by omega]
        · rw [up_n (Or.inr z1)]
          by_cases z2 : k = l0.length + j
          · rw [z2, up_s, if_pos (by omega), show l0.length + E.length - 1 - (l0.length + j) = E.length - 1 - j by omega]
          · rw [up_n (Or.inr z2), hT k hk]
            unfold swp
            by_cases z3 : (l0.length ≤ k ∧ k < l0.length + j) ∨ (E.length - j ≤ k ∧ k < E.length)
            · rw [if_pos z3, if_pos (by omega)]
            · rw [if_neg z3, if_neg (by omega)]
    · rintro _ ⟨I3, rfl, hF3, hT3⟩
      simp only [Sum.elim_inr]
      unfold f_X12_answer_j236
      rw [gi_4561, hF3 _ _ (by omega), hX2.1]
      exact q_ok ⟨I3, E, rfl, fun a k y => (hF3 a k (by unfold SMa at y; omega)).trans (hF2 a k y), rfl, (hF3 _ _ (by omega)).trans hX2.1, hT3⟩
theorem l_answerB {x y w : Int32} {I1 : Nat → Nat → Int32} (h : f_X11_answer (mg 4625 I J R) 0 x y = some (.inl w, mg 4625 I1 J R)) : f_L_answer (mg 4625 I J R) 0 x y 4624 = some (0, mg 4625 I1 (oJ J w.toInt64) R) := by
  unfold f_L_answer
  rw [if_pos ok_0, h, Option.bind_some, q_let, Sum.elim_inl, owJ0]
  rfl
def ansT (fr : Nat) (l : List Nat) : GT := (l.length, fun k => if k < fr then (Int32.ofNat (tF l k)) else (Int32.ofNat (tF l (fr + l.length - 1 - k))))
theorem o_answer (hR : RA R) (H : Inv I) : op_answer Pinv (mg 4625 I J R) := by
  obtain ⟨t, s, b, n, f, v, q, p, r, h, hC, hM, hO⟩ := H
  intro x y
  have bad : ¬ (((0 : Int32) ≤ x ∧ x ≤ 1) ∧ ((2 : Int32) ≤ y ∧ y ≤ 36)) → opW Pinv (f_L_answer (mg 4625 I J R) 0 x y 4624) (fun σ => f_X12_answer σ 4561 x y) := by
    intro hb
    have e1 : f_X11_answer (mg 4625 I J R) 0 x y = some (.inr "java/lang/IllegalArgumentException", mg 4625 I J R) := by
      unfold f_X11_answer f_X11_answer_j20
      by_cases c1 : x < 0
      · rw [if_pos c1]
      · rw [if_neg c1]
        by_cases c2 : (1 : Int32) < x
        · rw [if_pos c2]
        · rw [if_neg c2]
          by_cases c3 : y < 2
          · rw [if_pos c3]
          · rw [if_neg c3, if_neg (fun c4 => hb ⟨⟨Int32.not_lt.mp c1, Int32.not_lt.mp c2⟩, Int32.not_lt.mp c3, c4⟩)]
    have e3 : f_L_answer (mg 4625 I J R) 0 x y 4624 = some (1, mg 4625 I J R) := by
      unfold f_L_answer
      rw [if_pos ok_0, e1, Option.bind_some, q_let, Sum.elim_inr, if_pos rfl]
    have e2 : f_X12_answer (mg 4625 I J R) 4561 x y = some (0, mg 4625 (thI I 1) J R) := by
      unfold f_X12_answer f_X12_answer_j20 f_X12_answer_j25
      by_cases c1 : (0 : Int32) ≤ x ∧ x ≤ 1
      · rw [m_in1 c1.1 c1.2, Option.bind_some, if_neg (by decide), m_in0 (fun c2 => hb ⟨c1, c2⟩), Option.bind_some, if_pos rfl, if_pos ok_4561, m_refX]
      · rw [m_in0 c1, Option.bind_some, if_pos rfl, if_pos ok_4561, m_refX]
    exact op_ex e3 e2 thI_0 (by decide) (Pinv_th hR hC hM hO (fun x _ => rfl))
  by_cases hx : (0 : Int32) ≤ x ∧ x ≤ 1
  · by_cases hy : (2 : Int32) ≤ y ∧ y ≤ 36
    · obtain ⟨rx, r36, rfl⟩ := rng_dom (m := 36) (by decide) (Int32.le_trans (by decide) hy.1) hy.2
      have r2 : 2 ≤ rx := (i32_le (k := 2) (by omega) (by omega)).mp hy.1
      obtain ⟨pt, p1, rfl⟩ := rng_dom (m := 1) (by decide) hx.1 hx.2
      have cv := hC.2.2.2.2.2.1
      have mv := hM.2.2.2.2.2.1
      have vb := MV_b mv
      -- the number that is printed
      have key : ∀ (w : Nat) (z : Int), 570 ≤ w → Wz I w 7 z → z.natAbs < Bw 7 → (∀ I1, FR2 I I1 ∨ True → True) → f_X11_answer (mg 4625 I J R) 0 (Int32.ofNat (pt)) (Int32.ofNat (rx)) = f_X11_answer_j56 (mg 4625 I J R) 0 (Int32.ofNat (rx)) w 559 → (∀ (I2 : Nat → Nat → Int32) (J : Nat → Nat → Int64), MV I2 26 v → I2 4561 42 = 0 → QK (if (Int32.ofNat (pt)) = 0 then (if xk (mg 4625 I2 J R) 4561 12 = true then (f_X12_loadNumerator (mg 4625 I2 J R) 4561 2 26).bind (fun p32 => f_X12_answer_j61 p32 4561 (Int32.ofNat (pt)) (Int32.ofNat (rx))) else none) else (if xk (mg 4625 I2 J R) 4561 12 = true then (f_X12_loadDenominator (mg 4625 I2 J R) 4561 2 26).bind (fun p4 => f_X12_answer_j61 p4 4561 (Int32.ofNat (pt)) (Int32.ofNat (rx))) else none)) (fun x => ∃ I' l, x = ((Int32.ofNat (l.length)), mg 4625 I' J R) ∧ FrK SMa I2 I' ∧ l = rdg rx 210 z.natAbs (if z < 0 then [45] else []) ∧ I' 4561 42 = (Int32.ofNat (l.length)) ∧ ∀ k, k < l.length → I' 4595 k = (if k < (if z < 0 then 1 else 0) then (Int32.ofNat (tF l k)) else (Int32.ofNat (tF l ((if z < 0 then 1 else 0) + l.length - 1 - k)))))) → opW Pinv (f_L_answer (mg 4625 I J R) 0 (Int32.ofNat (pt)) (Int32.ofNat (rx)) 4624) (fun σ => f_X12_answer σ 4561 (Int32.ofNat (pt)) (Int32.ofNat (rx))) := by
        intro w z hw hWz hzb _ ec er
        obtain ⟨_, e1, I2, l, rfl, hF2, hK2, hl, h3, hT⟩ := C_digits (J := J) (rx := rx) hR hWz hzb hw ⟨r2, r36⟩
        have ln : l.length ≤ 211 := by
          have := (rdg_len rx 210 z.natAbs (if z < 0 then [45] else [])).1
          rw [hl]
          split at this
          · rw [List.length_cons, List.length_nil] at this
            rw [if_pos (by assumption)]
            omega
          · rw [List.length_nil] at this
            rw [if_neg (by assumption)]
            omega
        have ec' : f_X11_answer (mg 4625 I J R) 0 (Int32.ofNat (pt)) (Int32.ofNat (rx)) = some (.inl (Int32.ofNat (l.length)), mg 4625 I2 J R) := by
          rw [ec]
          unfold f_X11_answer_j56
          rw [if_pos ok_559, e1, Option.bind_some, gr_0_4 hR, gi_559, h3]
        have hM2 : InvM I2 t s b n f v q p r h := InvM_C hM hC.2.1 (fun x k hx _ => by rw [hF2 x (by unfold S56; omega)])
        have hM3 : InvM (thI I2 0) t s b n f v q p r h := InvM_C hM2 hC.2.1 (fun x k hx hk => thI_n hk)
        have ref : ∀ J, QK (f_X12_answer (mg 4625 I2 J R) 4561 (Int32.ofNat (pt)) (Int32.ofNat (rx))) (fun x => ∃ I3, x = ((Int32.ofNat (l.length)), mg 4625 I3 J R) ∧ InvM I3 t s b n f v q (ansT (if z < 0 then 1 else 0) l) r h ∧ (∀ a k, a < 4561 → I3 a k = I2 a k) ∧ I3 4561 0 = 0) := by
          intro J
          unfold f_X12_answer f_X12_answer_j25
          rw [m_in1 hx.1 hx.2, Option.bind_some, if_neg (by decide), m_in1 hy.1 hy.2, Option.bind_some, if_neg (by decide), if_pos ok_4561, m_refO, gs_4561]
          obtain ⟨_, e5, I3, l3, rfl, hF3, hl3, h33, hT3⟩ := er (up (thI I2 0) 4561 42 0) J (MV_keep hM3.2.2.2.2.2.1 (fun k _ _ => up_n (by omega))) up_s
          rw [e5]
          have ell : l3 = l := by rw [hl3, hl]
          subst ell
          have go : ∀ a k, ¬ SMa a k → (a = 4561 → k ≠ 0) → I3 a k = I2 a k := fun a k y1 y2 => by
            rw [hF3 a k y1, up_n (by unfold SMa at y1; omega), thI_n y2]
          refine q_ok ⟨I3, rfl, M_printed hM2 hC.2.1 (fun a k g1 g2 g3 => go a k (by unfold DM at g1; unfold SMa; omega) (by unfold DM at g1; omega)) ⟨h33, hT3⟩, fun a x ha => go a x (by unfold SMa; omega) (by omega), ?_⟩
          rw [hF3 _ _ (by unfold SMa; omega), up_n (by omega)]
          exact thI_0
        obtain ⟨_, e2, I3, rfl, hM4, g1, g2⟩ := ref (oJ J ((Int32.ofNat (l.length))).toInt64)
        refine op_ok (l_answerB ec') e2 g2 (Pinv_mk hR (InvC_M (C_printed hC (fun x y0 y1 y2 => hF2 x (by unfold DC at y0; unfold S56; omega)) ⟨by show l.length ≤ 1000; omega, h3, hT⟩) g1) hM4 hO)
      have cpre : f_X11_answer (mg 4625 I J R) 0 (Int32.ofNat (pt)) (Int32.ofNat (rx)) = (if (Int32.ofNat (pt)) = (0 : Int32) then f_X11_answer_j56 (mg 4625 I J R) 0 (Int32.ofNat (rx)) 4542 559 else f_X11_answer_j56 (mg 4625 I J R) 0 (Int32.ofNat (rx)) 4544 559) := by
        unfold f_X11_answer
        rw [if_neg (Int32.not_lt.mpr hx.1), if_neg (Int32.not_lt.mpr hx.2), if_neg (Int32.not_lt.mpr hy.1), if_pos hy.2, gr_0_4 hR, gr_0_10 hR, gr_4541_0 hR, gr_0_10 hR, gr_4541_1 hR]
      rcases (by omega : pt = 0 ∨ pt = 1) with rfl | rfl
      · rw [if_pos (show (Int32.ofNat (0)) = (0 : Int32) from rfl)] at cpre
        refine key 4542 v.1 (by decide) cv.2.1 vb.1 (fun _ _ => trivial) cpre ?_
        intro I2 J mv2 h42
        rw [if_pos (show (Int32.ofNat (0)) = (0 : Int32) from rfl), if_pos ok_4561]
        refine q_bind (M_loadN (rg := 2) (i := 26) hR (by decide) (by decide) mv2) ?_
        rintro _ ⟨I3, k3, rfl, hF3, hN3, hk3, -⟩
        have mv3 : Vv (I3 4564) 26 v.1 v.2 := by rw [hF3 4564 (by decide)]; exact mv2
        have n210 : v.1.natAbs < 2 ^ 210 := by
          have : Bw 7 = 2 ^ 210 := by decide
          omega
        have hX3 : MX I3 [] := ⟨by rw [hF3 4561 (by decide), h42]; rfl, fun k hk => absurd hk (Nat.not_lt_zero k)⟩
        unfold f_X12_answer_j61
        rw [if_pos (show (Int32.ofNat (0)) = (0 : Int32) from rfl), if_pos ok_4561, show (26 : Int32) = (Int32.ofNat (26)) from rfl, M_sign hR (by decide) mv3, Option.bind_some]
        by_cases zn : v.1 < 0
        · rw [sg_neg zn, if_neg (by decide), if_pos ok_4561, if_pos zn, if_pos zn]
          refine q_bind (M_prints (c := 45) hR hX3 (by decide)) ?_
          rintro _ ⟨I4, rfl, hF4, hX4⟩
          have hN4 : Rg (I4 4562) (I4 4563) 2 k3 v.1.natAbs := by
            rw [show I4 4562 = I3 4562 from funext (fun k => hF4 _ _ (by omega)), show I4 4563 = I3 4563 from funext (fun k => hF4 _ _ (by omega))]
            exact hN3
          refine q_mono (M_answer80 hR hN4 hk3 hX4 (by decide) n210 ⟨r2, r36⟩) ?_
          rintro _ ⟨I5, l5, rfl, hF5, a1, a2, a3⟩
          refine ⟨I5, l5, rfl, fun a k y => ?_, a1, a2, a3⟩
          rw [hF5 a k y, hF4 a k (by unfold SMa at y; omega), hF3 a (by unfold SMa at y; omega)]
        · have sn : (0 : Int32) ≤ Int32.ofInt v.1.sign := by
            rcases (by omega : v.1 = 0 ∨ 0 < v.1) with z | z
            · rw [z]; decide
            · rw [sg_pos z]; decide
          rw [if_pos sn, if_neg zn, if_neg zn]
          refine q_mono (M_answer80 hR hN3 hk3 hX3 (by decide) n210 ⟨r2, r36⟩) ?_
          rintro _ ⟨I5, l5, rfl, hF5, a1, a2, a3⟩
          refine ⟨I5, l5, rfl, fun a k y => ?_, a1, a2, a3⟩
          rw [hF5 a k y, hF3 a (by unfold SMa at y; omega)]
      · rw [if_neg (by decide)] at cpre
        refine key 4544 (v.2 : Int) (by decide) cv.2.2 vb.2 (fun _ _ => trivial) cpre ?_
        intro I2 J mv2 h42
        rw [if_neg (by decide), if_pos ok_4561]
        refine q_bind (M_loadD (rg := 2) (i := 26) hR (by decide) (by decide) mv2) ?_
        rintro _ ⟨I3, k3, rfl, hF3, hN3, hk3, -⟩
        have n210 : v.2 < 2 ^ 210 := by
          have : Bw 7 = 2 ^ 210 := by decide
          have := vb.2
          omega
        have hX3 : MX I3 [] := ⟨by rw [hF3 4561 (by decide), h42]; rfl, fun k hk => absurd hk (Nat.not_lt_zero k)⟩
        have zn : ¬ (v.2 : Int) < 0 := by omega
        unfold f_X12_answer_j61
        rw [if_neg (by decide), if_neg zn, if_neg zn, Int.natAbs_natCast]
        refine q_mono (M_answer80 hR hN3 hk3 hX3 (by decide) n210 ⟨r2, r36⟩) ?_
        rintro _ ⟨I5, l5, rfl, hF5, a1, a2, a3⟩
        refine ⟨I5, l5, rfl, fun a k y => ?_, a1, a2, a3⟩
        rw [hF5 a k y, hF3 a (by unfold SMa at y; omega)]
    · exact bad (fun z => hy z.2)
  · exact bad (fun z => hx z.1)
end AP
