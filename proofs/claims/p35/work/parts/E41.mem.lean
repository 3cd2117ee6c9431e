/-! the law's own arrays; its typing -/
theorem KK_t {x : Nat} (h : 4561 ≤ x) : KK x = (14, 60) := by
  unfold KK
  rw [if_neg (show ¬ x < 1806 by omega)]
  by_cases y4569 : x < 4569
  · rw [if_pos y4569]
    rw [if_neg (show ¬ x < 4406 by omega)]
    rw [if_neg (show ¬ x < 4550 by omega)]
    by_cases y4563 : x < 4563
    · rw [if_pos y4563]
      rw [if_neg (show ¬ x < 4552 by omega)]
      rw [if_neg (show ¬ x < 4561 by omega)]
      by_cases y4562 : x < 4562
      · rw [if_pos y4562]
      · rw [if_neg y4562]
    · rw [if_neg y4563]
      by_cases y4566 : x < 4566
      · rw [if_pos y4566]
        by_cases y4564 : x < 4564
        · rw [if_pos y4564]
        · rw [if_neg y4564]
          by_cases y4565 : x < 4565
          · rw [if_pos y4565]
          · rw [if_neg y4565]
      · rw [if_neg y4566]
        by_cases y4567 : x < 4567
        · rw [if_pos y4567]
        · rw [if_neg y4567]
          by_cases y4568 : x < 4568
          · rw [if_pos y4568]
          · rw [if_neg y4568]
  · rw [if_neg y4569]
    by_cases y4596 : x < 4596
    · rw [if_pos y4596]
      by_cases y4579 : x < 4579
      · rw [if_pos y4579]
        by_cases y4574 : x < 4574
        · rw [if_pos y4574]
          by_cases y4571 : x < 4571
          · rw [if_pos y4571]
            by_cases y4570 : x < 4570
            · rw [if_pos y4570]
            · rw [if_neg y4570]
          · rw [if_neg y4571]
            by_cases y4572 : x < 4572
            · rw [if_pos y4572]
            · rw [if_neg y4572]
              by_cases y4573 : x < 4573
              · rw [if_pos y4573]
              · rw [if_neg y4573]
        · rw [if_neg y4574]
          by_cases y4576 : x < 4576
          · rw [if_pos y4576]
            by_cases y4575 : x < 4575
            · rw [if_pos y4575]
            · rw [if_neg y4575]
          · rw [if_neg y4576]
            by_cases y4577 : x < 4577
            · rw [if_pos y4577]
            · rw [if_neg y4577]
              by_cases y4578 : x < 4578
              · rw [if_pos y4578]
              · rw [if_neg y4578]
      · rw [if_neg y4579]
        by_cases y4584 : x < 4584
        · rw [if_pos y4584]
          by_cases y4581 : x < 4581
          · rw [if_pos y4581]
            by_cases y4580 : x < 4580
            · rw [if_pos y4580]
            · rw [if_neg y4580]
          · rw [if_neg y4581]
            by_cases y4582 : x < 4582
            · rw [if_pos y4582]
            · rw [if_neg y4582]
              by_cases y4583 : x < 4583
              · rw [if_pos y4583]
              · rw [if_neg y4583]
        · rw [if_neg y4584]
          by_cases y4593 : x < 4593
          · rw [if_pos y4593]
            by_cases y4591 : x < 4591
            · rw [if_pos y4591]
            · rw [if_neg y4591]
              by_cases y4592 : x < 4592
              · rw [if_pos y4592]
              · rw [if_neg y4592]
          · rw [if_neg y4593]
            by_cases y4594 : x < 4594
            · rw [if_pos y4594]
            · rw [if_neg y4594]
              by_cases y4595 : x < 4595
              · rw [if_pos y4595]
              · rw [if_neg y4595]
    · rw [if_neg y4596]
      by_cases y4614 : x < 4614
      · rw [if_pos y4614]
        by_cases y4608 : x < 4608
        · rw [if_pos y4608]
          by_cases y4598 : x < 4598
          · rw [if_pos y4598]
            by_cases y4597 : x < 4597
            · rw [if_pos y4597]
            · rw [if_neg y4597]
          · rw [if_neg y4598]
            by_cases y4599 : x < 4599
            · rw [if_pos y4599]
            · rw [if_neg y4599]
              by_cases y4600 : x < 4600
              · rw [if_pos y4600]
              · rw [if_neg y4600]
        · rw [if_neg y4608]
          by_cases y4611 : x < 4611
          · rw [if_pos y4611]
            by_cases y4609 : x < 4609
            · rw [if_pos y4609]
            · rw [if_neg y4609]
              by_cases y4610 : x < 4610
              · rw [if_pos y4610]
              · rw [if_neg y4610]
          · rw [if_neg y4611]
            by_cases y4612 : x < 4612
            · rw [if_pos y4612]
            · rw [if_neg y4612]
              by_cases y4613 : x < 4613
              · rw [if_pos y4613]
              · rw [if_neg y4613]
      · rw [if_neg y4614]
        by_cases y4619 : x < 4619
        · rw [if_pos y4619]
          by_cases y4616 : x < 4616
          · rw [if_pos y4616]
            by_cases y4615 : x < 4615
            · rw [if_pos y4615]
            · rw [if_neg y4615]
          · rw [if_neg y4616]
            by_cases y4617 : x < 4617
            · rw [if_pos y4617]
            · rw [if_neg y4617]
              by_cases y4618 : x < 4618
              · rw [if_pos y4618]
              · rw [if_neg y4618]
        · rw [if_neg y4619]
          by_cases y4622 : x < 4622
          · rw [if_pos y4622]
            by_cases y4620 : x < 4620
            · rw [if_pos y4620]
            · rw [if_neg y4620]
              by_cases y4621 : x < 4621
              · rw [if_pos y4621]
              · rw [if_neg y4621]
          · rw [if_neg y4622]
            by_cases y4623 : x < 4623
            · rw [if_pos y4623]
            · rw [if_neg y4623]
              by_cases y4624 : x < 4624
              · rw [if_pos y4624]
              · rw [if_neg y4624]
theorem zn_JZ {J : Nat → Nat → Int64} {Z : Nat} (h : JZ J Z) : zn J = Z := by
  have key : ∀ m, m ≤ 10 → ((List.range m).filter (fun j => J (4562 + j) 0 == 0)).length = min m Z := by
    intro m
    induction m with
    | zero => intro _; rw [Nat.zero_min]; rfl
    | succ m ih =>
      intro hm
      rw [List.range_succ, List.filter_append, List.length_append, ih (by omega)]
      have e := h.2 m (by omega)
      by_cases z : m < Z
      · rw [if_pos z] at e
        have : List.filter (fun j => J (4562 + j) 0 == 0) [m] = [m] := by
          rw [List.filter_cons_of_pos (by rw [e]; rfl)]
          rfl
        rw [this, List.length_singleton]
        omega
      · rw [if_neg z] at e
        have : List.filter (fun j => J (4562 + j) 0 == 0) [m] = [] := by
          rw [List.filter_cons_of_neg (by rw [e]; decide)]
          rfl
        rw [this, List.length_nil]
        omega
  have := key 10 (Nat.le_refl _)
  have h1 := h.1
  unfold zn
  rw [this]
  omega
section LSM
variable {C : Nat → Nat → Int32} {Z : Nat} {t : GT} {s : GS} {b : GB} {n : GN} {f : GF} {v : GV} {p : GT} {r : GR} {h : GH} {σ : xM}
theorem ls_aI {a k : Nat} (H : LSt C Z t s b n f v p r h σ) (ha : 4561 ≤ a) (haZ : a < 4562 + Z) (hk : k < 60) : aI σ a 14 (Int32.ofNat (k)) = some (C a k) := by
  obtain ⟨I, J, R, q, rfl, hZ, hR, hC, hO, hI, hv⟩ := H
  rw [e_aI (len := 60) (by rw [zn_JZ hZ]; omega) (KK_t ha) hk (by decide), hI a k ha]
theorem ls_wI {a k : Nat} {w : Int32} (H : LSt C Z t s b n f v p r h σ) (ha : 4561 ≤ a) (haZ : a < 4562 + Z) (hk : k < 60) : ∃ σ', wI σ a (Int32.ofNat (k)) w = some σ' ∧ LSt (va_up C a (va_up (C a) k w)) Z t s b n f v p r h σ' := by
  obtain ⟨I, J, R, q, rfl, hZ, hR, hC, hO, hI, hv⟩ := H
  refine ⟨_, e_wI (len := 60) (by rw [zn_JZ hZ]; omega) (KK_t ha) hk (by decide), _, J, R, q, rfl, hZ, hR, InvC_keep hC (fun x hx => ?_), hO, fun a' k' ha' => ?_, hv⟩
  · unfold va_up
    rw [if_neg (by unfold DC at hx; omega)]
  · unfold va_up
    by_cases z : a' = a
    · subst z
      rw [if_pos rfl, if_pos rfl]
      by_cases y : k' = k
      · rw [if_pos y, if_pos y]
      · rw [if_neg y, if_neg y, hI a' k' ha']
    · rw [if_neg z, if_neg z, hI a' k' ha']
theorem ls_nwP (H : LSt C Z t s b n f v p r h σ) (hZ10 : Z < 10) : σ.1 = 4562 + Z ∧ ∃ σ', nwP σ 60 [0] = some σ' ∧ LSt (va_up C (4562 + Z) (fun _ => 0)) (Z + 1) t s b n f v p r h σ' := by
  obtain ⟨I, J, R, q, rfl, hZ, hR, hC, hO, hI, hv⟩ := H
  have e := zn_JZ hZ
  have hZ' : JZ (va_up J (4562 + zn J) (fun _ => 0)) (Z + 1) := by
    refine ⟨by omega, fun j hj => ?_⟩
    unfold va_up
    by_cases z : j = Z
    · rw [if_pos (by omega), if_pos (by omega)]
    · rw [if_neg (by omega), hZ.2 j hj]
      by_cases y : j < Z
      · rw [if_pos y, if_pos (by omega)]
      · rw [if_neg y, if_neg (by omega)]
  have e' := zn_JZ hZ'
  refine ⟨by show 4562 + zn J = _; omega, mg (4562 + zn (va_up J (4562 + zn J) (fun _ => 0))) (va_up I (4562 + zn J) (fun _ => 0)) (va_up J (4562 + zn J) (fun _ => 0)) (va_up R (4562 + zn J) (fun _ => none)), ?_, va_up I (4562 + zn J) (fun _ => 0), va_up J (4562 + zn J) (fun _ => 0), va_up R (4562 + zn J) (fun _ => none), q, rfl, hZ', fun x hx k hk => ?_, InvC_keep hC (fun x hx => ?_), hO, fun a' k' ha' => ?_, hv⟩
  · unfold nwP
    rw [if_pos (show 4562 ≤ 4562 + zn J by omega)]
    unfold nwA
    have x1 : xRs (mg (4562 + zn J) I J R) [0] = true := by
      unfold xRs
      show (decide (0 < 4562 + zn J) || _) && true = true
      rw [decide_eq_true (show 0 < 4562 + zn J by omega)]
      rfl
    rw [if_pos (by
      rw [x1, decide_eq_true (show 4562 + zn J < xkS by unfold xkS; omega)]
      decide)]
    show some (4562 + zn J + 1, va_up (ct (4562 + zn J)) (4562 + zn J) (14, 60), va_up I (4562 + zn J) (fun _ => 0), va_up J (4562 + zn J) (fun _ => 0), va_up R (4562 + zn J) (fun _ => none)) = _
    rw [ct_up (KK_t (by omega)), e']
    show some (4562 + zn J + 1, ct (4562 + zn J + 1), _) = some (4562 + (Z + 1), ct (4562 + (Z + 1)), _)
    rw [show 4562 + zn J + 1 = 4562 + (Z + 1) by omega]
  · have : va_up R (4562 + zn J) (fun _ => none) x k = R x k := by
      unfold va_up
      rw [if_neg (by omega)]
    rw [this]
    exact hR x hx k hk
  · unfold va_up
    rw [if_neg (by unfold DC at hx; omega)]
  · rw [e]
    unfold va_up
    by_cases z : a' = 4562 + Z
    · rw [if_pos z, if_pos z]
    · rw [if_neg z, if_neg z, hI a' k' ha']
theorem nar16 {c : Nat} (hc : c < 65536) : (((Int32.ofNat (c))).toUInt32 % 65536).toInt32 = (Int32.ofNat (c)) := by
  apply Int32.toBitVec_inj.mp
  have e : ((Int32.ofNat (c))).toUInt32.toBitVec = BitVec.ofNat 32 c := rfl
  show (((Int32.ofNat (c))).toUInt32 % 65536).toBitVec = BitVec.ofNat 32 c
  rw [UInt32.toBitVec_mod, e]
  apply BitVec.eq_of_toNat_eq
  rw [BitVec.toNat_umod]
  show (c % 2 ^ 32) % 65536 = c % 2 ^ 32
  omega
/-- a text is typed out of an array -/
theorem ls_types {A m : Nat} {c : Nat → Nat} (H : LSt C Z t s b n f v p r h σ) (h0 : t.1 = 0) (hA : 4561 ≤ A) (hAZ : A < 4562 + Z) (hm : m ≤ 60) (hc : ∀ k, k < m → C A k = (Int32.ofNat (c k)) ∧ c k < 65536) : QK (f_L_types σ 0 A 0 (Int32.ofNat (m))) (fun σ' => ∃ t', t'.1 = m ∧ (∀ k, k < m → c k < 65536 ∧ t'.2 k = (Int32.ofNat (c k))) ∧ LSt C Z t' s b n f v p r h σ') := by
  unfold f_L_types
  refine q_bind (P := fun o => ∃ σ', o = .inr σ' ∧ ∃ t', t'.1 = m ∧ (∀ k, k < m → c k < 65536 ∧ t'.2 k = (Int32.ofNat (c k))) ∧ LSt C Z t' s b n f v p r h σ') ?_ ?_
  · refine q_for m (fun j x => ∃ σ', x = (0, A, (Int32.ofNat (m)), (Int32.ofNat (j)), σ') ∧ ∃ t', t'.1 = j ∧ (∀ k, k < j → c k < 65536 ∧ t'.2 k = (Int32.ofNat (c k))) ∧ LSt C Z t' s b n f v p r h σ') ?_ ?_ (i := 0) ⟨σ, rfl, t, h0, fun k hk => absurd hk (Nat.not_lt_zero k), H⟩ (Nat.zero_le _) (by unfold xF; omega)
    · rintro j _ hj ⟨σ', rfl, t', a1, a2, a3⟩
      obtain ⟨c1, c2⟩ := hc j hj
      obtain ⟨σ2, e2, b2⟩ := ls_type a3 (by omega) c2
      unfold f_L_types_s3
      rw [q_let, q_let, q_let, q_let, q_let]
      dsimp only
      rw [if_neg (show ¬ (Int32.ofNat (m)) ≤ (Int32.ofNat (j)) from fun y => absurd ((i32_le (by omega) (by omega)).mp y) (by omega)), ls_aI a3 hA hAZ (by omega), Option.bind_some, c1, if_pos (ls_ok a3), nar16 c2, e2, Option.bind_some, q_let]
      dsimp only
      rw [Sum.elim_inl, q_let, show (Int32.ofNat (j)) + (1 : Int32) = (Int32.ofNat (j + 1)) from n_add j 1]
      refine q_go ⟨σ2, rfl, _, by show t'.1 + 1 = _; omega, fun k hk => ?_, b2⟩
      rw [a1]
      by_cases z : k = j
      · subst z
        exact ⟨c2, upN_s⟩
      · have := a2 k (by omega)
        exact ⟨this.1, (upN_n z).trans this.2⟩
    · rintro _ ⟨σ', rfl, t', a1, a2, a3⟩
      unfold f_L_types_s3
      rw [q_let, q_let, q_let, q_let, q_let]
      dsimp only
      rw [if_pos ((i32_le (by omega) (by omega)).mpr (Nat.le_refl _))]
      exact q_ex ⟨σ', rfl, t', a1, a2, a3⟩
  · rintro _ ⟨σ', rfl, hh⟩
    rw [Sum.elim_inr]
    exact q_ok hh
end LSM
