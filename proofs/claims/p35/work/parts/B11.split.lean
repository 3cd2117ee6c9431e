/-! the class parts its text into words -/
theorem lexS_end {c : Nat → Nat} {n i : Nat} (h : n ≤ i) : ∀ f l, lexS c n f i l = l := by
  intro f l
  cases f with
  | zero => rfl
  | succ f => rw [lexS_c, if_pos h]
def Tx (I : Nat → Nat → Int32) (A n : Nat) (c : Nat → Nat) : Prop := ∀ k, k < n → I A k = (Int32.ofNat (c k)) ∧ c k < 65536
section LY
variable {I : Nat → Nat → Int32} {J : Nat → Nat → Int64} {R : Nat → Nat → Option Nat} {b : GB} {β : Type} {A len n : Nat} {c : Nat → Nat}
theorem ga_tx {k : Nat} {F : Int32 → Option β} (h : A < 4561 ∧ KK A = (13, len)) (hk : k < len) (hl : len ≤ 1000) : (aI (mg (4562 + zn J) I J R) A 13 (Int32.ofNat (k))).bind F = F (I A k) := by
  rw [e_aI (by have := h.1; omega) h.2 hk (by omega)]
  rfl
theorem C_splitNumber {i : Nat} {l : List Wp} (hR : RA R) (hA : A < 4561 ∧ KK A = (13, len)) (hl : len ≤ 1000) (hT : Tx I A n c) (hn : n ≤ len) (hW : CWl I l) (h300 : l.length < 300) (h6 : I 540 6 = (Int32.ofNat (n))) (hi : i < n) : QK (f_X6_splitNumber (mg (4562 + zn J) I J R) 540 A (Int32.ofNat (i))) (fun r => ∃ I' x, r = (x, mg (4562 + zn J) I' J R) ∧ FrK (fun a k => (a = 540 ∧ k = 5) ∨ (541 ≤ a ∧ a ≤ 544)) I I' ∧ (((numE c (nL (bas c n i) i n) (bas c n i) 9 (nF (bas c n i) i) 0).1 = nF (bas c n i) i ∧ x = (Int32.ofNat (n)) ∧ CWl I' (((7, nF (bas c n i) i), i) :: l)) ∨ ((numE c (nL (bas c n i) i n) (bas c n i) 9 (nF (bas c n i) i) 0).1 ≠ nF (bas c n i) i ∧ x = (Int32.ofNat ((numE c (nL (bas c n i) i n) (bas c n i) 9 (nF (bas c n i) i) 0).1)) ∧ CWl I' (((0, (numE c (nL (bas c n i) i n) (bas c n i) 9 (nF (bas c n i) i) 0).2), i) :: l)))) := by
  have hv := num_v c n i
  have hb := bas_in (c := c) (n := n) (i := i) hi
  have j101 : ∀ (bs m : Nat), bs = bas c n i → nL (bas c n i) i n = min n (nF (bas c n i) i + m) → m ≤ 9 → QK (f_X6_splitNumber_j101 (mg (4562 + zn J) I J R) 540 A (Int32.ofNat (i)) (Int32.ofNat (bs)) (Int32.ofNat (nF (bas c n i) i)) (Int32.ofNat (m)) (Int32.ofNat (nF (bas c n i) i)) (Int32.ofNat (n))) (fun r => ∃ I' x, r = (x, mg (4562 + zn J) I' J R) ∧ FrK (fun a k => (a = 540 ∧ k = 5) ∨ (541 ≤ a ∧ a ≤ 544)) I I' ∧ (((numE c (nL (bas c n i) i n) (bas c n i) 9 (nF (bas c n i) i) 0).1 = nF (bas c n i) i ∧ x = (Int32.ofNat (n)) ∧ CWl I' (((7, nF (bas c n i) i), i) :: l)) ∨ ((numE c (nL (bas c n i) i n) (bas c n i) 9 (nF (bas c n i) i) 0).1 ≠ nF (bas c n i) i ∧ x = (Int32.ofNat ((numE c (nL (bas c n i) i n) (bas c n i) 9 (nF (bas c n i) i) 0).1)) ∧ CWl I' (((0, (numE c (nL (bas c n i) i n) (bas c n i) 9 (nF (bas c n i) i) 0).2), i) :: l)))) := by
    intro bs m e1 e2 hm
    have b4 : bs ≤ 16 := by
      rw [e1]
      rcases bas_4 c n i with h | h | h | h <;> omega
    rw [← e1] at hv hb e2 ⊢
    generalize hff : nF bs i = ff at hv hb e2 ⊢
    generalize hlm : nL bs i n = lm at hv e2 ⊢
    generalize hE : numE c lm bs 9 ff 0 = E at hv ⊢
    have mn : (if (Int32.ofNat (ff)) + (Int32.ofNat (m)) < (Int32.ofNat (n)) then (Int32.ofNat (ff)) + (Int32.ofNat (m)) else (Int32.ofNat (n))) = (Int32.ofNat (lm)) := by
      rw [n_add, e2]
      by_cases q : ff + m < n
      · rw [if_pos (show (Int32.ofNat (ff + m)) < (Int32.ofNat (n)) from (i32_lt (by omega) (by omega)).mpr q), Nat.min_eq_right (by omega)]
      · rw [if_neg (show ¬ (Int32.ofNat (ff + m)) < (Int32.ofNat (n)) from fun y => q ((i32_lt (by omega) (by omega)).mp y)), Nat.min_eq_left (by omega)]
    have lmn : lm ≤ n ∧ lm ≤ ff + 9 := by
      rw [e2]
      exact ⟨Nat.min_le_left _ _, Nat.le_trans (Nat.min_le_right _ _) (by omega)⟩
    unfold f_X6_splitNumber_j101
    rw [mn, q_let, q_let]
    refine q_bind (P := fun r => r = .inr (540, (Int32.ofNat (i)), (Int32.ofNat (ff)), (Int32.ofNat (E.2)), (Int32.ofNat (E.1)))) ?_ ?_
    · refine q_loop (fun f s => ∃ j v, s = (540, A, (Int32.ofNat (i)), (Int32.ofNat (bs)), (Int32.ofNat (ff)), (Int32.ofNat (lm)), (Int32.ofNat (v)), (Int32.ofNat (j))) ∧ numE c lm bs f j v = E ∧ lm ≤ j + f ∧ j ≤ n + 9) ?_ (m := 9) ⟨ff, 0, rfl, hE, by omega, by omega⟩ (by unfold xF; omega)
      rintro f s ⟨j, v, rfl, h1, h2, h3⟩
      unfold f_X6_splitNumber_s114
      dsimp only
      rw [q_let, q_let, q_let, q_let, q_let, q_let, q_let, q_let]
      have stop : ¬ (j < lm ∧ dgt (c j) < bs) → E = (j, v) := fun q => by
        rw [← h1]
        cases f with
        | zero => rfl
        | succ f => rw [numE_c, if_neg q]
      by_cases q1 : j < lm
      · obtain ⟨t1, t2⟩ := hT j (by omega)
        have d16 := dg_16 (c j)
        rw [if_neg (show ¬ (Int32.ofNat (lm)) ≤ (Int32.ofNat (j)) from fun y => absurd ((i32_le (by omega) (by omega)).mp y) (by omega)), ga_tx hA (by omega) hl, t1, C_digit t2]
        by_cases q2 : dgt (c j) < bs
        · rw [if_neg (show ¬ (Int32.ofNat (bs)) ≤ (Int32.ofNat (dgt (c j))) from fun y => absurd ((i32_le (by omega) (by omega)).mp y) (by omega)), ga_tx hA (by omega) hl, t1, C_digit t2, q_let, q_let, n_mul, n_add, show (Int32.ofNat (j)) + 1 = (Int32.ofNat (j + 1)) from n_add j 1, Nat.mul_comm v]
          cases f with
          | zero => omega
          | succ f =>
            rw [numE_c, if_pos ⟨q1, q2⟩] at h1
            exact q_go ⟨f, by omega, j + 1, _, rfl, h1, by omega, by omega⟩
        · rw [if_pos (show (Int32.ofNat (bs)) ≤ (Int32.ofNat (dgt (c j))) from (i32_le (by omega) (by omega)).mpr (by omega))]
          exact q_ex (by rw [stop (fun y => q2 y.2)])
      · rw [if_pos (show (Int32.ofNat (lm)) ≤ (Int32.ofNat (j)) from (i32_le (by omega) (by omega)).mpr (by omega))]
        exact q_ex (by rw [stop (fun y => q1 y.1)])
    · rintro _ rfl
      simp only [Sum.elim_inr]
      unfold f_X6_splitNumber_j154
      obtain ⟨g1, g2⟩ := numE_ge (c := c) (lim := lm) (base := bs) 9 ff 0
      rw [hE] at g1
      have g3 : E.1 ≤ n ∨ E.1 = ff := by
        by_cases y : ff ≤ lm
        · have := g2 y
          rw [hE] at this
          omega
        · right
          rw [← hE, numE_c, if_neg (by omega)]
      have g4 : E.1 < 2000 := by omega
      by_cases q : E.1 = ff
      · rw [if_pos (show (Int32.ofNat (E.1)) = (Int32.ofNat (ff)) by rw [q]), if_pos ok_540]
        refine q_bind (C_addWord (w := (7, ff)) hR hW h300 rfl (by rw [q]; rfl) (Or.inr (Or.inr (Or.inr ⟨by show 4 ≤ 7; decide, by show 7 ≤ 8; decide, by show ff < 65536; omega⟩))) (by omega)) ?_
        rintro _ ⟨I2, rfl, hF2, hW2⟩
        rw [gi_540, hF2 _ _ (by omega), h6]
        exact q_ok ⟨I2, _, rfl, hF2, Or.inl ⟨q, rfl, hW2⟩⟩
      · rw [if_neg (i32_ne (by omega) (by omega) q), if_pos ok_540]
        refine q_bind (C_addWord (w := (0, E.2)) hR hW h300 rfl rfl (Or.inl ⟨rfl, hv⟩) (by omega)) ?_
        rintro _ ⟨I2, rfl, hF2, hW2⟩
        exact q_ok ⟨I2, _, rfl, hF2, Or.inr ⟨q, rfl, hW2⟩⟩
  have j63 : ∀ bs : Nat, bs = bas c n i → QK (f_X6_splitNumber_j63 (mg (4562 + zn J) I J R) 540 A (Int32.ofNat (i)) (Int32.ofNat (bs))) (fun r => ∃ I' x, r = (x, mg (4562 + zn J) I' J R) ∧ FrK (fun a k => (a = 540 ∧ k = 5) ∨ (541 ≤ a ∧ a ≤ 544)) I I' ∧ (((numE c (nL (bas c n i) i n) (bas c n i) 9 (nF (bas c n i) i) 0).1 = nF (bas c n i) i ∧ x = (Int32.ofNat (n)) ∧ CWl I' (((7, nF (bas c n i) i), i) :: l)) ∨ ((numE c (nL (bas c n i) i n) (bas c n i) 9 (nF (bas c n i) i) 0).1 ≠ nF (bas c n i) i ∧ x = (Int32.ofNat ((numE c (nL (bas c n i) i n) (bas c n i) 9 (nF (bas c n i) i) 0).1)) ∧ CWl I' (((0, (numE c (nL (bas c n i) i n) (bas c n i) 9 (nF (bas c n i) i) 0).2), i) :: l)))) := by
    intro bs e1
    unfold f_X6_splitNumber_j63 f_X6_splitNumber_j79
    by_cases q : bs = 10
    · have ef : nF (bas c n i) i = i := by unfold nF; rw [← e1, if_pos q]
      have em : nL (bas c n i) i n = min n (nF (bas c n i) i + 9) := by unfold nL; rw [← e1, if_pos q]
      have := j101 bs 9 e1 em (by first | decide | omega)
      rw [q] at this ⊢
      rw [if_pos (show (Int32.ofNat (10)) = (10 : Int32) from rfl), gi_540, h6, if_pos (show (Int32.ofNat (10)) = (10 : Int32) from rfl)]
      rw [show QK (f_X6_splitNumber_j101 (mg (4562 + zn J) I J R) 540 A (Int32.ofNat (i)) (Int32.ofNat (10)) (Int32.ofNat (i)) 9 (Int32.ofNat (i)) (Int32.ofNat (n))) = QK (f_X6_splitNumber_j101 (mg (4562 + zn J) I J R) 540 A (Int32.ofNat (i)) (Int32.ofNat (10)) (Int32.ofNat (nF (bas c n i) i)) (Int32.ofNat (9)) (Int32.ofNat (nF (bas c n i) i)) (Int32.ofNat (n))) by rw [ef]; rfl]
      exact this
    · have b4 : bs ≤ 16 := by
        rw [e1]
        rcases bas_4 c n i with h | h | h | h <;> omega
      have ef : nF (bas c n i) i = i + 2 := by unfold nF; rw [← e1, if_neg q]
      have em : nL (bas c n i) i n = min n (nF (bas c n i) i + 7) := by unfold nL; rw [← e1, if_neg q]
      have := j101 bs 7 e1 em (by first | decide | omega)
      rw [if_neg (show ¬ _ = (10 : Int32) from i32_ne (b := 10) (by omega) (by omega) q), gi_540, h6, if_neg (show ¬ _ = (10 : Int32) from i32_ne (b := 10) (by omega) (by omega) q), show (Int32.ofNat (i)) + 2 = (Int32.ofNat (i + 2)) from n_add i 2]
      rw [show QK (f_X6_splitNumber_j101 (mg (4562 + zn J) I J R) 540 A (Int32.ofNat (i)) (Int32.ofNat (bs)) (Int32.ofNat (i + 2)) 7 (Int32.ofNat (i + 2)) (Int32.ofNat (n))) = QK (f_X6_splitNumber_j101 (mg (4562 + zn J) I J R) 540 A (Int32.ofNat (i)) (Int32.ofNat (bs)) (Int32.ofNat (nF (bas c n i) i)) (Int32.ofNat (7)) (Int32.ofNat (nF (bas c n i) i)) (Int32.ofNat (n))) by rw [ef]; rfl]
      exact this
  have j28 : ∀ x : Nat, x < 65536 → bas c n i = (if x = 120 then 16 else if x = 111 then 8 else if x = 98 then 2 else 10) → QK (f_X6_splitNumber_j28 (mg (4562 + zn J) I J R) 540 A (Int32.ofNat (i)) (Int32.ofNat (x))) (fun r => ∃ I' x, r = (x, mg (4562 + zn J) I' J R) ∧ FrK (fun a k => (a = 540 ∧ k = 5) ∨ (541 ≤ a ∧ a ≤ 544)) I I' ∧ (((numE c (nL (bas c n i) i n) (bas c n i) 9 (nF (bas c n i) i) 0).1 = nF (bas c n i) i ∧ x = (Int32.ofNat (n)) ∧ CWl I' (((7, nF (bas c n i) i), i) :: l)) ∨ ((numE c (nL (bas c n i) i n) (bas c n i) 9 (nF (bas c n i) i) 0).1 ≠ nF (bas c n i) i ∧ x = (Int32.ofNat ((numE c (nL (bas c n i) i n) (bas c n i) 9 (nF (bas c n i) i) 0).1)) ∧ CWl I' (((0, (numE c (nL (bas c n i) i n) (bas c n i) 9 (nF (bas c n i) i) 0).2), i) :: l)))) := by
    intro x hx e
    unfold f_X6_splitNumber_j28
    by_cases q1 : x = 120
    · rw [if_pos (show (Int32.ofNat (x)) = (120 : Int32) by rw [q1]; rfl)]
      exact j63 16 (by rw [e, if_pos q1])
    · rw [if_neg (show ¬ _ = (120 : Int32) from i32_ne (b := 120) (by omega) (by omega) q1)]
      rw [if_neg q1] at e
      by_cases q2 : x = 111
      · rw [if_pos (show (Int32.ofNat (x)) = (111 : Int32) by rw [q2]; rfl)]
        exact j63 8 (by rw [e, if_pos q2])
      · rw [if_neg (show ¬ _ = (111 : Int32) from i32_ne (b := 111) (by omega) (by omega) q2)]
        rw [if_neg q2] at e
        by_cases q3 : x = 98
        · rw [if_pos (show (Int32.ofNat (x)) = (98 : Int32) by rw [q3]; rfl)]
          exact j63 2 (by rw [e, if_pos q3])
        · rw [if_neg (show ¬ _ = (98 : Int32) from i32_ne (b := 98) (by omega) (by omega) q3)]
          exact j63 10 (by rw [e, if_neg q3])
  obtain ⟨t1, t2⟩ := hT i hi
  unfold f_X6_splitNumber f_X6_splitNumber_j26
  rw [ga_tx hA (by omega) hl, t1]
  by_cases q0 : c i = 48
  · rw [if_pos (show (Int32.ofNat (c i)) = (48 : Int32) by rw [q0]; rfl), gi_540, h6, show (Int32.ofNat (i)) + 1 = (Int32.ofNat (i + 1)) from n_add i 1]
    by_cases q1 : i + 1 < n
    · obtain ⟨u1, u2⟩ := hT (i + 1) q1
      rw [if_neg (show ¬ (Int32.ofNat (n)) ≤ (Int32.ofNat (i + 1)) from fun y => absurd ((i32_le (by omega) (by omega)).mp y) (by omega)), ga_tx hA (by omega) hl, u1]
      exact j28 _ u2 (by
        unfold bas
        rw [if_pos ⟨q0, q1⟩])
    · rw [if_pos (show (Int32.ofNat (n)) ≤ (Int32.ofNat (i + 1)) from (i32_le (by omega) (by omega)).mpr (by omega))]
      exact j28 32 (by first | decide | omega) (by
        unfold bas
        rw [if_neg (fun y => q1 y.2)]
        rfl)
  · rw [if_neg (show ¬ _ = (48 : Int32) from i32_ne (b := 48) (by omega) (by omega) q0)]
    exact j28 32 (by first | decide | omega) (by
      unfold bas
      rw [if_neg (fun y => q0 y.1)]
      rfl)
theorem C_splitOther {i x : Nat} {l : List Wp} (hR : RA R) (hC : CTb I b) (hW : CWl I l) (h300 : l.length < 300) (h6 : I 540 6 = (Int32.ofNat (n))) (hi : i < 65536) (hx : x < 65536) : QK (f_X6_splitOther (mg (4562 + zn J) I J R) 540 (Int32.ofNat (x)) (Int32.ofNat (i))) (fun r => ∃ I' y, r = (y, mg (4562 + zn J) I' J R) ∧ FrK (fun a k => (a = 540 ∧ k = 5) ∨ (541 ≤ a ∧ a ≤ 544)) I I' ∧ y = (if (otk x).1 = 8 then (Int32.ofNat (n)) else (Int32.ofNat (i + 1))) ∧ CWl I' ((otk x, i) :: l)) := by
  obtain ⟨o1, o2, o3, o4⟩ := otk_ok hx
  have j67 : ∀ k : Nat, k ≤ 8 → k = (otk x).1 → QK (f_X6_splitOther_j67 (mg (4562 + zn J) I J R) 540 (Int32.ofNat (x)) (Int32.ofNat (i)) (Int32.ofNat (k))) (fun r => ∃ I' y, r = (y, mg (4562 + zn J) I' J R) ∧ FrK (fun a k => (a = 540 ∧ k = 5) ∨ (541 ≤ a ∧ a ≤ 544)) I I' ∧ y = (if (otk x).1 = 8 then (Int32.ofNat (n)) else (Int32.ofNat (i + 1))) ∧ CWl I' ((otk x, i) :: l)) := by
    intro k hk ek
    unfold f_X6_splitOther_j67 f_X6_splitOther_j90
    rw [if_pos ok_540]
    refine q_bind (C_addWord (w := otk x) hR hW h300 (by rw [ek]) o4.symm o1 hi) ?_
    rintro _ ⟨I2, rfl, hF2, hW2⟩
    by_cases q : k = 8
    · rw [if_pos (show (Int32.ofNat (k)) = (8 : Int32) by rw [q]; rfl), gi_540, hF2 _ _ (by omega), h6]
      exact q_ok ⟨I2, _, rfl, hF2, by rw [if_pos (by omega)], hW2⟩
    · rw [if_neg (show ¬ _ = (8 : Int32) from i32_ne (b := 8) (by omega) (by omega) q), show (Int32.ofNat (i)) + 1 = (Int32.ofNat (i + 1)) from n_add i 1]
      exact q_ok ⟨I2, _, rfl, hF2, by rw [if_neg (by omega)], hW2⟩
  have j20 : ¬ (97 ≤ x ∧ x ≤ 122) → QK (f_X6_splitOther_j20 (mg (4562 + zn J) I J R) 540 (Int32.ofNat (x)) (Int32.ofNat (i)) 8) (fun r => ∃ I' y, r = (y, mg (4562 + zn J) I' J R) ∧ FrK (fun a k => (a = 540 ∧ k = 5) ∨ (541 ≤ a ∧ a ≤ 544)) I I' ∧ y = (if (otk x).1 = 8 then (Int32.ofNat (n)) else (Int32.ofNat (i + 1))) ∧ CWl I' ((otk x, i) :: l)) := by
    intro h0
    unfold f_X6_splitOther_j20
    by_cases q1 : x = 40
    · rw [if_pos (show (Int32.ofNat (x)) = (40 : Int32) by rw [q1]; rfl), q_let]
      exact j67 4 (by first | decide | omega) (by unfold otk; rw [if_neg h0, if_pos q1])
    · rw [if_neg (show ¬ _ = (40 : Int32) from i32_ne (b := 40) (by omega) (by omega) q1)]
      by_cases q2 : x = 41
      · rw [if_pos (show (Int32.ofNat (x)) = (41 : Int32) by rw [q2]; rfl), q_let]
        exact j67 5 (by first | decide | omega) (by unfold otk; rw [if_neg h0, if_neg q1, if_pos q2])
      · rw [if_neg (show ¬ _ = (41 : Int32) from i32_ne (b := 41) (by omega) (by omega) q2)]
        by_cases q3 : x = 44
        · rw [if_pos (show (Int32.ofNat (x)) = (44 : Int32) by rw [q3]; rfl), q_let]
          exact j67 6 (by first | decide | omega) (by unfold otk; rw [if_neg h0, if_neg q1, if_neg q2, if_pos q3])
        · rw [if_neg (show ¬ _ = (44 : Int32) from i32_ne (b := 44) (by omega) (by omega) q3), gr_540_0 hR, if_pos ok_11]
          rcases sgn_dom hx with ⟨h1, -⟩ | ⟨p, hp, hx1, h1, -⟩
          · rw [c_isSign0 hR hC.1 hx h1, Option.bind_some, if_pos rfl]
            refine j67 8 (by first | decide | omega) ?_
            unfold otk
            rw [if_neg h0, if_neg q1, if_neg q2, if_neg q3, if_neg (fun y => by
              rcases h1 with h1 | h1
              · omega
              · exact y.2 h1)]
          · rw [c_isSign1 hR hC.1 hx1 h1 hp, Option.bind_some, if_neg (by first | decide | omega), q_let]
            refine j67 3 (by first | decide | omega) ?_
            unfold otk
            rw [if_neg h0, if_neg q1, if_neg q2, if_neg q3, if_pos ⟨hx1, by
              rw [h1]
              intro y
              have := i32_0le (k := p) (by omega)
              rw [y] at this
              exact absurd this (by first | decide | omega)⟩]
  unfold f_X6_splitOther
  rw [q_let]
  by_cases q1 : x < 97
  · rw [if_pos (show (Int32.ofNat (x)) < (97 : Int32) from (i32_lt (m := 97) (by omega) (by omega)).mpr q1)]
    exact j20 (by omega)
  · rw [if_neg (show ¬ (Int32.ofNat (x)) < (97 : Int32) from fun y => q1 ((i32_lt (m := 97) (by omega) (by omega)).mp y))]
    by_cases q2 : x ≤ 122
    · rw [if_neg (show ¬ (122 : Int32) < (Int32.ofNat (x)) from fun y => absurd ((i32_lt (k := 122) (by omega) (by omega)).mp y) (by omega)), q_let]
      exact j67 1 (by first | decide | omega) (by unfold otk; rw [if_pos (by omega)])
    · rw [if_pos (show (122 : Int32) < (Int32.ofNat (x)) from (i32_lt (k := 122) (by omega) (by omega)).mpr (by omega))]
      exact j20 (by omega)
/-- a text becomes words -/
theorem C_split (hR : RA R) (hC : CTb I b) (hA : A < 4561 ∧ KK A = (13, len)) (hA2 : A < 540 ∨ 544 < A) (hl : len ≤ 1000) (hT : Tx I A n c) (hn : n ≤ len) (h300 : (lexS c n n 0 []).length ≤ 300) : QK (f_X6_split (mg (4562 + zn J) I J R) 540 A (Int32.ofNat (n))) (fun r => ∃ I', r = mg (4562 + zn J) I' J R ∧ FrK Swd I I' ∧ I' 540 6 = (Int32.ofNat (n)) ∧ CWl I' (lexS c n n 0 [])) := by
  unfold f_X6_split f_X6_startWords
  rw [if_pos ok_540, gs_540, gs_540, Option.bind_some, e_gL (by have := hA.1; omega) hA.2, Option.bind_some]
  have mn : (if (Int32.ofNat (len)) < (Int32.ofNat (n)) then (Int32.ofNat (len)) else (Int32.ofNat (n))) = (Int32.ofNat (n)) := if_neg (fun y => absurd ((i32_lt (by omega) (by omega)).mp y) (by omega))
  rw [mn, gs_540, q_let, q_let]
  generalize hI0 : up (up (up I 540 5 0) 540 6 0) 540 6 (Int32.ofNat (n)) = I0
  have f0 : FrK Swd I I0 := fun a k y => by
    unfold Swd at y
    rw [← hI0, up_n (by omega), up_n (by omega), up_n (by omega)]
  have h60 : I0 540 6 = (Int32.ofNat (n)) := by rw [← hI0, up_s]
  have hW0 : CWl I0 [] := ⟨by decide, by rw [← hI0, up_n (by omega), up_n (by omega), up_s]; rfl, fun i hi => absurd hi (Nat.not_lt_zero _)⟩
  refine q_bind (P := fun r => ∃ I', r = .inr (mg (4562 + zn J) I' J R) ∧ FrK Swd I I' ∧ I' 540 6 = (Int32.ofNat (n)) ∧ CWl I' (lexS c n n 0 [])) ?_ ?_
  · refine q_loop (fun f s => ∃ I1 i t l, s = (540, A, (Int32.ofNat (i)), (Int32.ofNat (t)), mg (4562 + zn J) I1 J R) ∧ lexS c n f i l = lexS c n n 0 [] ∧ n ≤ i + f ∧ t ≤ i ∧ i ≤ n ∧ FrK Swd I I1 ∧ I1 540 6 = (Int32.ofNat (n)) ∧ CWl I1 l) ?_ (m := n) ⟨I0, 0, 0, [], rfl, rfl, by omega, by omega, by omega, f0, h60, hW0⟩ (by unfold xF; omega)
    rintro f s ⟨I1, i, t, l, rfl, h1, h2, h3, h4, hF, h6, hW⟩
    have hC1 : CTb I1 b := CTb_keep hC (fun x hx => funext (fun k => hF x k (by unfold Swd; omega)))
    have hT1 : Tx I1 A n c := fun k hk => by
      rw [hF A k (by unfold Swd; omega)]
      exact hT k hk
    unfold f_X6_split_s19
    dsimp only
    rw [q_let, q_let, q_let, q_let, q_let, gi_540, h6]
    by_cases qi : i < n
    · have go : ∀ (I2 : Nat → Nat → Int32) (i' : Nat) (l' : List Wp), FrK Swd I1 I2 → I2 540 6 = (Int32.ofNat (n)) → CWl I2 l' → i < i' → i' ≤ n → (lexS c n (f - 1) i' l' = lexS c n n 0 []) → QK (f_X6_split_j84 (mg (4562 + zn J) I2 J R) 540 A (Int32.ofNat (i')) (Int32.ofNat (t))) (qS (fun s' => ∃ m', m' < f ∧ ∃ I1 i t l, s' = (540, A, (Int32.ofNat (i)), (Int32.ofNat (t)), mg (4562 + zn J) I1 J R) ∧ lexS c n m' i l = lexS c n n 0 [] ∧ n ≤ i + m' ∧ t ≤ i ∧ i ≤ n ∧ FrK Swd I I1 ∧ I1 540 6 = (Int32.ofNat (n)) ∧ CWl I1 l) (fun r => ∃ I', r = .inr (mg (4562 + zn J) I' J R) ∧ FrK Swd I I' ∧ I' 540 6 = (Int32.ofNat (n)) ∧ CWl I' (lexS c n n 0 []))) := by
        intro I2 i' l' a1 a2 a3 a4 a5 a6
        unfold f_X6_split_j84
        rw [q_let, show (Int32.ofNat (t)) + 1 = (Int32.ofNat (t + 1)) from n_add t 1]
        exact q_go ⟨f - 1, by omega, I2, i', t + 1, l', rfl, a6, by omega, by omega, a5, fun a j y => (a1 a j y).trans (hF a j y), a2, a3⟩
      obtain ⟨f', rfl⟩ : ∃ f', f = f' + 1 := ⟨f - 1, by omega⟩
      rw [Nat.add_sub_cancel] at go
      rw [lexS_c, if_neg (by omega)] at h1
      obtain ⟨t1, t2⟩ := hT1 i qi
      have gr := fun l' i' => lexS_grow (c := c) (n := n) f' i' l'
      rw [if_neg (show ¬ (Int32.ofNat (n)) ≤ (Int32.ofNat (t)) from fun y => absurd ((i32_le (by omega) (by omega)).mp y) (by omega)), gi_540, h6, if_neg (show ¬ (Int32.ofNat (n)) ≤ (Int32.ofNat (i)) from fun y => absurd ((i32_le (by omega) (by omega)).mp y) (by omega)), ga_tx hA (by omega) hl, t1]
      by_cases q32 : c i = 32
      · rw [if_pos q32] at h1
        rw [if_pos (show (Int32.ofNat (c i)) = (32 : Int32) by rw [q32]; rfl), q_let, show (Int32.ofNat (i)) + 1 = (Int32.ofNat (i + 1)) from n_add i 1]
        exact go I1 (i + 1) l FrK_rfl h6 hW (by omega) (by omega) h1
      · rw [if_neg q32] at h1
        rw [if_neg (show ¬ _ = (32 : Int32) from i32_ne (b := 32) (by omega) (by omega) q32), ga_tx hA (by omega) hl, t1]
        have oth : ¬ (48 ≤ c i ∧ c i ≤ 57) → QK (f_X6_split_j75 (mg (4562 + zn J) I1 J R) 540 A (Int32.ofNat (i)) (Int32.ofNat (t))) (qS (fun s' => ∃ m', m' < f' + 1 ∧ ∃ I1 i t l, s' = (540, A, (Int32.ofNat (i)), (Int32.ofNat (t)), mg (4562 + zn J) I1 J R) ∧ lexS c n m' i l = lexS c n n 0 [] ∧ n ≤ i + m' ∧ t ≤ i ∧ i ≤ n ∧ FrK Swd I I1 ∧ I1 540 6 = (Int32.ofNat (n)) ∧ CWl I1 l) (fun r => ∃ I', r = .inr (mg (4562 + zn J) I' J R) ∧ FrK Swd I I' ∧ I' 540 6 = (Int32.ofNat (n)) ∧ CWl I' (lexS c n n 0 []))) := by
          intro qd
          rw [if_neg qd] at h1
          have l3 : l.length < 300 := by
            rw [← h1] at h300
            split at h300
            · rw [List.length_cons] at h300
              omega
            · have := gr ((otk (c i), i) :: l) (i + 1)
              rw [List.length_cons] at this
              omega
          unfold f_X6_split_j75 f_X6_split_j83
          rw [ga_tx hA (by omega) hl, t1, if_pos ok_540]
          refine q_bind (C_splitOther hR hC1 hW l3 h6 (by omega) t2) ?_
          rintro _ ⟨I2, y, rfl, hF2, rfl, hW2⟩
          have h62 : I2 540 6 = (Int32.ofNat (n)) := (hF2 _ _ (by omega)).trans h6
          by_cases q8 : (otk (c i)).1 = 8
          · rw [if_pos q8] at h1
            rw [if_pos q8]
            exact go I2 n _ (fun a j y => hF2 a j (fun w => y (by unfold Swd; omega))) h62 hW2 qi (Nat.le_refl _) (by rw [lexS_end (Nat.le_refl _), h1])
          · rw [if_neg q8] at h1
            rw [if_neg q8]
            exact go I2 (i + 1) _ (fun a j y => hF2 a j (fun w => y (by unfold Swd; omega))) h62 hW2 (by omega) (by omega) h1
        by_cases q48 : c i < 48
        · rw [if_pos (show (Int32.ofNat (c i)) < (48 : Int32) from (i32_lt (m := 48) (by omega) (by omega)).mpr q48)]
          exact oth (by omega)
        · rw [if_neg (show ¬ (Int32.ofNat (c i)) < (48 : Int32) from fun y => q48 ((i32_lt (m := 48) (by omega) (by omega)).mp y)), ga_tx hA (by omega) hl, t1]
          by_cases q57 : 57 < c i
          · rw [if_pos (show (57 : Int32) < (Int32.ofNat (c i)) from (i32_lt (k := 57) (by omega) (by omega)).mpr q57)]
            exact oth (by omega)
          · rw [if_neg (show ¬ (57 : Int32) < (Int32.ofNat (c i)) from fun y => q57 ((i32_lt (k := 57) (by omega) (by omega)).mp y)), if_pos ok_540]
            rw [if_pos (by omega)] at h1
            have l3 : l.length < 300 := by
              rw [← h1] at h300
              split at h300
              · rw [List.length_cons] at h300
                omega
              · have := gr (((0, (numE c (nL (bas c n i) i n) (bas c n i) 9 (nF (bas c n i) i) 0).2), i) :: l) (numE c (nL (bas c n i) i n) (bas c n i) 9 (nF (bas c n i) i) 0).1
                rw [List.length_cons] at this
                omega
            have hb := bas_in (c := c) (n := n) (i := i) qi
            obtain ⟨g1, g2⟩ := numE_ge (c := c) (lim := nL (bas c n i) i n) (base := bas c n i) 9 (nF (bas c n i) i) 0
            have g3 := g2 (by unfold nL; omega)
            have g4 : nL (bas c n i) i n ≤ n := Nat.min_le_left _ _
            refine q_bind (C_splitNumber hR hA hl hT1 hn hW l3 h6 qi) ?_
            rintro _ ⟨I2, y, rfl, hF2, hx⟩
            have h62 : I2 540 6 = (Int32.ofNat (n)) := (hF2 _ _ (by omega)).trans h6
            unfold f_X6_split_j83
            rcases hx with ⟨e1, rfl, hW2⟩ | ⟨e1, rfl, hW2⟩
            · rw [if_pos e1] at h1
              exact go I2 n _ (fun a j y => hF2 a j (fun w => y (by unfold Swd; omega))) h62 hW2 qi (Nat.le_refl _) (by rw [lexS_end (Nat.le_refl _), h1])
            · rw [if_neg e1] at h1
              exact go I2 _ _ (fun a j y => hF2 a j (fun w => y (by unfold Swd; omega))) h62 hW2 (by omega) (by omega) h1
    · rw [lexS_end (by omega)] at h1
      rw [h1] at hW
      by_cases qt : n ≤ t
      · rw [if_pos (show (Int32.ofNat (n)) ≤ (Int32.ofNat (t)) from (i32_le (by omega) (by omega)).mpr qt)]
        exact q_ex ⟨I1, rfl, hF, h6, hW⟩
      · rw [if_neg (show ¬ (Int32.ofNat (n)) ≤ (Int32.ofNat (t)) from fun y => absurd ((i32_le (by omega) (by omega)).mp y) (by omega)), gi_540, h6, if_pos (show (Int32.ofNat (n)) ≤ (Int32.ofNat (i)) from (i32_le (by omega) (by omega)).mpr (by omega))]
        exact q_ex ⟨I1, rfl, hF, h6, hW⟩
  · rintro _ ⟨I', rfl, hF, h6, hW⟩
    simp only [Sum.elim_inr]
    unfold f_X6_split_j90
    exact q_ok ⟨I', rfl, hF, h6, hW⟩
end LY
