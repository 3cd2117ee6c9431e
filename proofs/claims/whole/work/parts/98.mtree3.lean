/-! the reference's trees: one in place of a part -/
section MTA
variable {I : Nat → Nat → Int32} {J : Nat → Nat → Int64} {R : Nat → Nat → Option Nat} {b n : Nat} {nd : Nat → Nd} {sp : Nat → Nat} {β : Type}
def Sw2 : Nat → Nat → Prop := fun a k => Sm 13540 13640 a k ∨ (a = 4561 ∧ k = 64)
theorem M_becomes {p : Nat} {v : Int32} (hR : RA R) (h : MT I 13540 n nd sp) (hp : p < n) (hn : n ≤ 100) (hw : I 4561 64 = (Int32.ofNat (n))) : QK (f_X12_becomes (mg 4625 I J R) 4561 (Int32.ofNat (13540 + p)) v) (fun r => ∃ I', r = mg 4625 I' J R ∧ FrK Sw2 I I' ∧ I' 4561 64 = (Int32.ofNat (n - sp p + 1)) ∧ MT I' 13540 (n - sp p + 1) (rpn nd p (sp p) (fun _ => ((0 : Int32), v, (-1 : Int32), 0)) 1) (rps sp p (sp p) (fun _ => 1) 1)) := by
  have wp := h.2.1.2.2.2 p hp
  have e9 := h.2.2 p hp
  unfold f_X12_becomes
  rw [gr_4561_8 hR, ga_4569 (by omega), e9, if_pos ok_4561]
  refine q_eq (M_node (c := 0) hR (by omega)) ?_
  rw [q_let, show (Int32.ofNat (13540 + p)) + 1 = (Int32.ofNat (13540 + (p + 1))) from n_add _ 1]
  have hF0 : FrK (Sm 13540 13640) I (up (up (up (up (up I 4565 (13540 + p) 0) 4566 (13540 + p) v) 4567 (13540 + p) (-1)) 4568 (13540 + p) (Int32.ofNat (0))) 4569 (13540 + p) 1) := by
    refine FrK_up (FrK_up (FrK_up (FrK_up (FrK_up FrK_rfl ?_) ?_) ?_) ?_) ?_ <;> (unfold Sm; omega)
  have hn0 : ∀ a j, j ≠ p → (up (up (up (up (up I 4565 (13540 + p) 0) 4566 (13540 + p) v) 4567 (13540 + p) (-1)) 4568 (13540 + p) (Int32.ofNat (0))) 4569 (13540 + p) 1) a (13540 + j) = I a (13540 + j) := by
    intro a j hj
    rw [up_n (by omega), up_n (by omega), up_n (by omega), up_n (by omega), up_n (by omega)]
  have hp0 : (up (up (up (up (up I 4565 (13540 + p) 0) 4566 (13540 + p) v) 4567 (13540 + p) (-1)) 4568 (13540 + p) (Int32.ofNat (0))) 4569 (13540 + p) 1) 4565 (13540 + p) = 0 ∧ (up (up (up (up (up I 4565 (13540 + p) 0) 4566 (13540 + p) v) 4567 (13540 + p) (-1)) 4568 (13540 + p) (Int32.ofNat (0))) 4569 (13540 + p) 1) 4566 (13540 + p) = v ∧ (up (up (up (up (up I 4565 (13540 + p) 0) 4566 (13540 + p) v) 4567 (13540 + p) (-1)) 4568 (13540 + p) (Int32.ofNat (0))) 4569 (13540 + p) 1) 4567 (13540 + p) = -1 ∧ (up (up (up (up (up I 4565 (13540 + p) 0) 4566 (13540 + p) v) 4567 (13540 + p) (-1)) 4568 (13540 + p) (Int32.ofNat (0))) 4569 (13540 + p) 1) 4568 (13540 + p) = (Int32.ofNat (0)) := by
    refine ⟨?_, ?_, ?_, ?_⟩
    · rw [up_n (by omega), up_n (by omega), up_n (by omega), up_n (by omega), up_s]
    · rw [up_n (by omega), up_n (by omega), up_n (by omega), up_s]
    · rw [up_n (by omega), up_n (by omega), up_s]
    · rw [up_n (by omega), up_s]
  revert hF0 hn0 hp0
  generalize (up (up (up (up (up I 4565 (13540 + p) 0) 4566 (13540 + p) v) 4567 (13540 + p) (-1)) 4568 (13540 + p) (Int32.ofNat (0))) 4569 (13540 + p) 1) = I1
  intro hF0 hn0 hp0
  refine q_bind (P := fun r => ∃ I', r = .inr (4561, (Int32.ofNat (sp p)), mg 4625 I' J R) ∧ FrK (Sm 13540 13640) I I' ∧ I' 4561 64 = (Int32.ofNat (n)) ∧ MN I' 13540 (n - sp p + 1) (rpn nd p (sp p) (fun _ => ((0 : Int32), v, (-1 : Int32), 0)) 1)) ?_ ?_
  · refine q_loop (fun t s => ∃ I' k, s = (4561, (Int32.ofNat (sp p)), (Int32.ofNat (13540 + k)), mg 4625 I' J R) ∧ p + 1 ≤ k ∧ k + t = n - sp p + 1 ∧ FrK (Sm 13540 13640) I I' ∧ I' 4561 64 = (Int32.ofNat (n)) ∧ (∀ a j, 4565 ≤ a → a ≤ 4569 → j < n → (j ≤ p → I' a (13540 + j) = I1 a (13540 + j)) ∧ (p < j → j < k → I' a (13540 + j) = I a (13540 + (j + (sp p - 1)))) ∧ (k ≤ j → I' a (13540 + j) = I a (13540 + j)))) ?_ (m := n - sp p - p) ⟨I1, p + 1, rfl, Nat.le_refl _, by omega, hF0, by rw [← hw]; exact hF0 _ _ (fun z => by unfold Sm at z; omega), fun a j h1 h2 h3 => ⟨fun _ => rfl, fun g1 g2 => by omega, fun g => hn0 a j (by omega)⟩⟩ (by unfold xF; omega)
    rintro t s ⟨I', k, rfl, hk, hkt, hF, h64, hh⟩
    unfold f_X12_becomes_s21
    dsimp only
    rw [q_let, q_let, q_let, q_let, gi_4561, h64, show (13540 : Int32) + (Int32.ofNat (n)) = (Int32.ofNat (13540 + n)) from n_add 13540 n, n_add, show (Int32.ofNat (13540 + k + sp p)) - 1 = (Int32.ofNat (13540 + k + sp p - 1)) from n_sub (a := 13540 + k + sp p) (b := 1) (by omega)]
    by_cases q : n ≤ k + sp p - 1
    · rw [if_pos ((i32_le (by omega) (by omega)).mpr (by omega))]
      refine q_ex ⟨I', rfl, hF, h64, by omega, fun i hi => ?_⟩
      by_cases z1 : i < p
      · rw [(hh 4565 i (by omega) (by omega) (by omega)).1 (by omega), (hh 4566 i (by omega) (by omega) (by omega)).1 (by omega), (hh 4567 i (by omega) (by omega) (by omega)).1 (by omega), (hh 4568 i (by omega) (by omega) (by omega)).1 (by omega), hn0 _ _ (by omega), hn0 _ _ (by omega), hn0 _ _ (by omega), hn0 _ _ (by omega)]
        have e : rpn nd p (sp p) (fun _ => ((0 : Int32), v, (-1 : Int32), 0)) 1 i = nd i := by
          unfold rpn
          rw [if_pos z1]
        rw [e]
        exact h.1.2 i (by omega)
      · by_cases z2 : i = p
        · subst z2
          rw [(hh 4565 i (by omega) (by omega) (by omega)).1 (by omega), (hh 4566 i (by omega) (by omega) (by omega)).1 (by omega), (hh 4567 i (by omega) (by omega) (by omega)).1 (by omega), (hh 4568 i (by omega) (by omega) (by omega)).1 (by omega)]
          have e : rpn nd i (sp i) (fun _ => ((0 : Int32), v, (-1 : Int32), 0)) 1 i = (0, v, -1, 0) := by
            unfold rpn
            rw [if_neg (Nat.lt_irrefl _), if_pos (by omega)]
          rw [e]
          exact ⟨hp0.1, hp0.2.1, hp0.2.2.1, hp0.2.2.2, Nat.zero_le 4⟩
        · rw [(hh 4565 i (by omega) (by omega) (by omega)).2.1 (by omega) (by omega), (hh 4566 i (by omega) (by omega) (by omega)).2.1 (by omega) (by omega), (hh 4567 i (by omega) (by omega) (by omega)).2.1 (by omega) (by omega), (hh 4568 i (by omega) (by omega) (by omega)).2.1 (by omega) (by omega)]
          have e : rpn nd p (sp p) (fun _ => ((0 : Int32), v, (-1 : Int32), 0)) 1 i = nd (i + (sp p - 1)) := by
            unfold rpn
            rw [if_neg z1, if_neg (by omega)]
            congr 1
            omega
          rw [e]
          exact h.1.2 (i + (sp p - 1)) (by omega)
    · rw [if_neg (fun z => q (by have := (i32_le (by omega) (by omega)).mp z; omega)), if_pos ok_4561, show 13540 + k + sp p - 1 = 13540 + (k + (sp p - 1)) by omega]
      refine q_bind (M_copyNodes (m := 1) hR (by omega) (by omega) (by omega)) ?_
      rintro r ⟨I2, rfl, hF2, hC2⟩
      rw [q_let, show (Int32.ofNat (13540 + k)) + 1 = (Int32.ofNat (13540 + (k + 1))) from n_add (13540 + k) 1]
      have hF2' : FrK (Sm 13540 13640) I' I2 := FrK_mono hF2 (fun a j z => by unfold Sm at z ⊢; omega)
      refine q_go ⟨t - 1, by omega, I2, k + 1, rfl, by omega, by omega, FrK_tr hF hF2', by rw [← h64]; exact hF2 _ _ (fun z => by unfold Sm at z; omega), fun a j h1 h2 h3 => ?_⟩
      have old : j ≠ k → I2 a (13540 + j) = I' a (13540 + j) := fun z => hF2 _ _ (fun w => by unfold Sm at w; omega)
      obtain ⟨c1, c2, c3⟩ := hh a j h1 h2 h3
      refine ⟨fun g => by rw [old (by omega), c1 g], fun g1 g2 => ?_, fun g => by rw [old (by omega), c3 (by omega)]⟩
      by_cases z : j = k
      · subst z
        have := hC2 a 0 h1 h2 (by omega)
        rw [Nat.add_zero, Nat.add_zero] at this
        rw [this]
        exact (hh a (j + (sp p - 1)) h1 h2 (by omega)).2.2 (by omega)
      · rw [old z, c2 g1 (by omega)]
  · rintro r ⟨I2, rfl, hF2, h64, hM⟩
    simp only [Sum.elim_inr]
    unfold f_X12_becomes_j57
    rw [gi_4561, h64, show (Int32.ofNat (sp p)) - 1 = (Int32.ofNat (sp p - 1)) from n_sub (a := sp p) (b := 1) (by omega), n_sub (by omega), gs_4561, gi_4561, up_s, if_pos ok_4561, show n - (sp p - 1) = n - sp p + 1 by omega]
    have hM2 : MN (up I2 4561 64 (Int32.ofNat (n - sp p + 1))) 13540 (n - sp p + 1) (rpn nd p (sp p) (fun _ => ((0 : Int32), v, (-1 : Int32), 0)) 1) := MN_keep hM (fun a k g1 g2 g3 g4 => up_n (by omega))
    have hw2 : WT (n - sp p + 1) (aro (rpn nd p (sp p) (fun _ => ((0 : Int32), v, (-1 : Int32), 0)) 1)) (rps sp p (sp p) (fun _ => 1) 1) := by
      have := WT_rep h.2.1 hp (WT_leaf : WT 1 (fun _ => 0) (fun _ => 1)) (by omega)
      refine WT_congr this (fun i hi => ?_)
      rw [aro_rpn]
      rfl
    refine q_bind (M_span hR hM2 hw2) ?_
    rintro r ⟨I3, rfl, hF3, hM3⟩
    refine q_ok ⟨I3, rfl, ?_, ?_, hM3⟩
    · refine FrK_tr (FrK_up (FrK_mono hF2 (fun a k z => Or.inl z)) (Or.inr ⟨rfl, rfl⟩)) (FrK_mono hF3 (fun a k (z : a = 4569 ∧ 13540 ≤ k ∧ k < 13540 + (n - sp p + 1)) => Or.inl (by unfold Sm; omega)))
    · rw [hF3 4561 64 (fun z => by omega), up_s]
theorem M_becomesInner {p q : Nat} (hR : RA R) (h : MT I 13540 n nd sp) (hp : p < n) (hn : n ≤ 100) (hw : I 4561 64 = (Int32.ofNat (n))) (hq1 : p < q) (hq2 : q < p + sp p) : QK (f_X12_becomesInner (mg 4625 I J R) 4561 (Int32.ofNat (13540 + p)) (Int32.ofNat (13540 + q))) (fun r => ∃ I', r = mg 4625 I' J R ∧ FrK Sw2 I I' ∧ I' 4561 64 = (Int32.ofNat (n - sp p + sp q)) ∧ MT I' 13540 (n - sp p + sp q) (rpn nd p (sp p) (fun j => nd (q + j)) (sp q)) (rps sp p (sp p) (fun j => sp (q + j)) (sp q))) := by
  have wp := h.2.1.2.2.2 p hp
  have hqn : q < n := by omega
  have wq := h.2.1.2.2.2 q hqn
  have lq := lam' h.2.1 hp hq1 hq2
  have e9 := h.2.2 p hp
  have e9' := h.2.2 q hqn
  unfold f_X12_becomesInner
  rw [gr_4561_8 hR, ga_4569 (by omega), e9, gr_4561_8 hR, ga_4569 (by omega), e9', if_pos ok_4561]
  refine q_bind (M_copyNodes hR (by omega) (by omega) (by omega)) ?_
  rintro r ⟨I1, rfl, hF0, hC0⟩
  rw [q_let, n_add, Nat.add_assoc 13540]
  have hF0' : FrK (Sm 13540 13640) I I1 := FrK_mono hF0 (fun a j z => by unfold Sm at z ⊢; omega)
  have hn0 : ∀ a j, j < p ∨ p + sp q ≤ j → I1 a (13540 + j) = I a (13540 + j) := fun a j hj => hF0 _ _ (fun z => by unfold Sm at z; omega)
  refine q_bind (P := fun r => ∃ I', r = .inr (4561, (Int32.ofNat (sp p)), (Int32.ofNat (sp q)), mg 4625 I' J R) ∧ FrK (Sm 13540 13640) I I' ∧ I' 4561 64 = (Int32.ofNat (n)) ∧ MN I' 13540 (n - sp p + sp q) (rpn nd p (sp p) (fun j => nd (q + j)) (sp q))) ?_ ?_
  · refine q_loop (fun t s => ∃ I' k, s = (4561, (Int32.ofNat (sp p)), (Int32.ofNat (sp q)), (Int32.ofNat (13540 + k)), mg 4625 I' J R) ∧ p + sp q ≤ k ∧ k + t = n - sp p + sp q ∧ FrK (Sm 13540 13640) I I' ∧ I' 4561 64 = (Int32.ofNat (n)) ∧ (∀ a j, 4565 ≤ a → a ≤ 4569 → j < n → (j < p + sp q → I' a (13540 + j) = I1 a (13540 + j)) ∧ (p + sp q ≤ j → j < k → I' a (13540 + j) = I a (13540 + (j + (sp p - sp q)))) ∧ (k ≤ j → I' a (13540 + j) = I a (13540 + j)))) ?_ (m := n - sp p - p) ⟨I1, p + sp q, rfl, Nat.le_refl _, by omega, hF0', by rw [← hw]; exact hF0' _ _ (fun z => by unfold Sm at z; omega), fun a j h1 h2 h3 => ⟨fun _ => rfl, fun g1 g2 => by omega, fun g => hn0 a j (by omega)⟩⟩ (by unfold xF; omega)
    rintro t s ⟨I', k, rfl, hk, hkt, hF, h64, hh⟩
    unfold f_X12_becomesInner_s29
    dsimp only
    rw [q_let, q_let, q_let, q_let, q_let, gi_4561, h64, show (13540 : Int32) + (Int32.ofNat (n)) = (Int32.ofNat (13540 + n)) from n_add 13540 n, n_add, n_sub (by omega)]
    by_cases z : n ≤ k + (sp p - sp q)
    · rw [if_pos ((i32_le (by omega) (by omega)).mpr (by omega))]
      refine q_ex ⟨I', rfl, hF, h64, by omega, fun i hi => ?_⟩
      by_cases z1 : i < p
      · rw [(hh 4565 i (by omega) (by omega) (by omega)).1 (by omega), (hh 4566 i (by omega) (by omega) (by omega)).1 (by omega), (hh 4567 i (by omega) (by omega) (by omega)).1 (by omega), (hh 4568 i (by omega) (by omega) (by omega)).1 (by omega), hn0 _ _ (by omega), hn0 _ _ (by omega), hn0 _ _ (by omega), hn0 _ _ (by omega)]
        have e : rpn nd p (sp p) (fun j => nd (q + j)) (sp q) i = nd i := by
          unfold rpn
          rw [if_pos z1]
        rw [e]
        exact h.1.2 i (by omega)
      · by_cases z2 : i < p + sp q
        · rw [(hh 4565 i (by omega) (by omega) (by omega)).1 (by omega), (hh 4566 i (by omega) (by omega) (by omega)).1 (by omega), (hh 4567 i (by omega) (by omega) (by omega)).1 (by omega), (hh 4568 i (by omega) (by omega) (by omega)).1 (by omega)]
          have e : rpn nd p (sp p) (fun j => nd (q + j)) (sp q) i = nd (q + (i - p)) := by
            unfold rpn
            rw [if_neg z1, if_pos z2]
          have c := fun a h1 h2 => hC0 a (i - p) h1 h2 (by omega)
          rw [show 13540 + p + (i - p) = 13540 + i by omega, show 13540 + q + (i - p) = 13540 + (q + (i - p)) by omega] at c
          rw [e, c 4565 (by omega) (by omega), c 4566 (by omega) (by omega), c 4567 (by omega) (by omega), c 4568 (by omega) (by omega)]
          exact h.1.2 _ (by omega)
        · rw [(hh 4565 i (by omega) (by omega) (by omega)).2.1 (by omega) (by omega), (hh 4566 i (by omega) (by omega) (by omega)).2.1 (by omega) (by omega), (hh 4567 i (by omega) (by omega) (by omega)).2.1 (by omega) (by omega), (hh 4568 i (by omega) (by omega) (by omega)).2.1 (by omega) (by omega)]
          have e : rpn nd p (sp p) (fun j => nd (q + j)) (sp q) i = nd (i + (sp p - sp q)) := by
            unfold rpn
            rw [if_neg z1, if_neg z2]
            congr 1
            omega
          rw [e]
          exact h.1.2 (i + (sp p - sp q)) (by omega)
    · rw [if_neg (fun y => z (by have := (i32_le (by omega) (by omega)).mp y; omega)), if_pos ok_4561, show 13540 + k + sp p - sp q = 13540 + (k + (sp p - sp q)) by omega]
      refine q_bind (M_copyNodes (m := 1) hR (by omega) (by omega) (by omega)) ?_
      rintro r ⟨I2, rfl, hF2, hC2⟩
      rw [q_let, show (Int32.ofNat (13540 + k)) + 1 = (Int32.ofNat (13540 + (k + 1))) from n_add (13540 + k) 1]
      have hF2' : FrK (Sm 13540 13640) I' I2 := FrK_mono hF2 (fun a j z => by unfold Sm at z ⊢; omega)
      refine q_go ⟨t - 1, by omega, I2, k + 1, rfl, by omega, by omega, FrK_tr hF hF2', by rw [← h64]; exact hF2 _ _ (fun z => by unfold Sm at z; omega), fun a j h1 h2 h3 => ?_⟩
      have old : j ≠ k → I2 a (13540 + j) = I' a (13540 + j) := fun z => hF2 _ _ (fun w => by unfold Sm at w; omega)
      obtain ⟨c1, c2, c3⟩ := hh a j h1 h2 h3
      refine ⟨fun g => by rw [old (by omega), c1 g], fun g1 g2 => ?_, fun g => by rw [old (by omega), c3 (by omega)]⟩
      by_cases y : j = k
      · subst y
        have := hC2 a 0 h1 h2 (by omega)
        rw [Nat.add_zero, Nat.add_zero] at this
        rw [this]
        exact (hh a (j + (sp p - sp q)) h1 h2 (by omega)).2.2 (by omega)
      · rw [old y, c2 g1 (by omega)]
  · rintro r ⟨I2, rfl, hF2, h64, hM⟩
    simp only [Sum.elim_inr]
    unfold f_X12_becomesInner_j67
    rw [gi_4561, h64, n_sub (show sp q ≤ sp p by omega), n_sub (by omega), gs_4561, gi_4561, up_s, if_pos ok_4561, show n - (sp p - sp q) = n - sp p + sp q by omega]
    have hM2 : MN (up I2 4561 64 (Int32.ofNat (n - sp p + sp q))) 13540 (n - sp p + sp q) (rpn nd p (sp p) (fun j => nd (q + j)) (sp q)) := MN_keep hM (fun a k g1 g2 g3 g4 => up_n (by omega))
    have hw2 : WT (n - sp p + sp q) (aro (rpn nd p (sp p) (fun j => nd (q + j)) (sp q))) (rps sp p (sp p) (fun j => sp (q + j)) (sp q)) := by
      have := WT_rep h.2.1 hp (WT_sub h.2.1 hqn) (by omega)
      refine WT_congr this (fun i hi => ?_)
      rw [aro_rpn]
      rfl
    refine q_bind (M_span hR hM2 hw2) ?_
    rintro r ⟨I3, rfl, hF3, hM3⟩
    refine q_ok ⟨I3, rfl, ?_, ?_, hM3⟩
    · refine FrK_tr (FrK_up (FrK_mono hF2 (fun a k z => Or.inl z)) (Or.inr ⟨rfl, rfl⟩)) (FrK_mono hF3 (fun a k (z : a = 4569 ∧ 13540 ≤ k ∧ k < 13540 + (n - sp p + sp q)) => Or.inl (by unfold Sm; omega)))
    · rw [hF3 4561 64 (fun z => by omega), up_s]
end MTA
