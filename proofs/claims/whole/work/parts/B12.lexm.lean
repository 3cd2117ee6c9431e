/-! the reference parts what was typed into words -/
def MWl (I : Nat → Nat → Int32) (l : List Wp) : Prop := MWd I l.length (wF l) (pF l) (fun _ => false)
def lexM (n : Nat) : List Wp → List Wp
  | [] => []
  | x :: l => if x.1.1 = 7 then (if x.1.2 = n then ((0, 0), x.2) :: l else ((8, 0), x.1.2) :: ((0, 0), x.2) :: l) else x :: l
def opnM (n : Nat) : List Wp → Bool
  | [] => false
  | x :: _ => x.1.1 == 7 && x.1.2 == n
def Swm : Nat → Nat → Prop := fun a k => (a = 4561 ∧ (k = 25 ∨ k = 26)) ∨ (4579 ≤ a ∧ a ≤ 4583)
theorem num_one {c : Nat → Nat} {n i : Nat} (hi : i < n) (hd : 48 ≤ c i ∧ c i ≤ 57) (h : (numE c (nL (bas c n i) i n) (bas c n i) 9 (nF (bas c n i) i) 0).1 = nF (bas c n i) i) : nF (bas c n i) i = i + 2 := by
  by_cases q : bas c n i = 10
  · have ef : nF (bas c n i) i = i := by unfold nF; rw [if_pos q]
    have el : nL (bas c n i) i n = min n (i + 9) := by unfold nL; rw [ef, if_pos q]
    rw [ef, el, q, numE_c, if_pos ⟨by omega, by unfold dgt; rw [if_pos hd]; omega⟩] at h
    have := (numE_ge (c := c) (lim := min n (i + 9)) (base := 10) 8 (i + 1) (10 * 0 + dgt (c i))).1
    omega
  · unfold nF
    rw [if_neg q]
section LM
variable {I : Nat → Nat → Int32} {J : Nat → Nat → Int64} {R : Nat → Nat → Option Nat} {b : GB} {β : Type} {n : Nat} {c : Nat → Nat}
theorem M_word {l : List Wp} {w : Wd} {p : Nat} {k v : Int32} (hR : RA R) (hW : MWl I l) (hl : l.length < 300) (hk : k = kM w.1) (hv : v = wvI w) (hw : WOK w) : QK (f_X12_word (mg 4625 I J R) 4561 k v (Int32.ofNat (p))) (fun r => ∃ I', r = mg 4625 I' J R ∧ FrK (fun a k => (a = 4561 ∧ k = 25) ∨ (4579 ≤ a ∧ a ≤ 4583)) I I' ∧ MWl I' ((w, p) :: l) ∧ I' 4582 l.length = -1 ∧ ∀ j, j < l.length → I' 4582 j = I 4582 j) := by
  obtain ⟨h1, h2, h3⟩ := hW
  unfold f_X12_word
  rw [gr_4561_20 hR, gi_4561, h2, gw_4579 (by omega), gr_4561_21 hR, gi_4561, up_n (by omega), h2, gw_4580 (by omega), gr_4561_22 hR, gi_4561, up_n (by omega), up_n (by omega), h2, gw_4581 (by omega), gr_4561_23 hR, gi_4561, up_n (by omega), up_n (by omega), up_n (by omega), h2, gw_4582 (by omega), gr_4561_24 hR, gi_4561, up_n (by omega), up_n (by omega), up_n (by omega), up_n (by omega), h2, gz_4583 (by omega) rfl, gi_4561, up_n (by omega), up_n (by omega), up_n (by omega), up_n (by omega), up_n (by omega), h2, show (Int32.ofNat (l.length)) + 1 = (Int32.ofNat (l.length + 1)) from n_add _ 1, gs_4561]
  generalize hI2 : up (up (up (up (up (up I 4579 l.length k) 4580 l.length v) 4581 l.length (Int32.ofNat (p))) 4582 l.length (-1)) 4583 l.length 0) 4561 25 (Int32.ofNat (l.length + 1)) = I2
  have f2 : ∀ a j, ¬ (4579 ≤ a ∧ a ≤ 4583 ∧ j = l.length) → ¬ (a = 4561 ∧ j = 25) → I2 a j = I a j := fun a j y1 y2 => by
    rw [← hI2, up_n (by omega), up_n (by omega), up_n (by omega), up_n (by omega), up_n (by omega), up_n (by omega)]
  refine q_ok ⟨I2, rfl, fun a j y => f2 a j (by omega) (by omega), ⟨by rw [List.length_cons]; omega, ?_, fun i hi => ?_⟩, ?_, fun j hj => f2 _ _ (by omega) (by omega)⟩
  · rw [← hI2, up_s, List.length_cons]
  · rw [List.length_cons] at hi
    show I2 4579 i = kM (if i = l.length then w else wF l i).1 ∧ I2 4580 i = wvI (if i = l.length then w else wF l i) ∧ I2 4581 i = (Int32.ofNat (if i = l.length then p else pF l i)) ∧ I2 4583 i = (if false = true then 1 else 0) ∧ WOK (if i = l.length then w else wF l i)
    by_cases z : i = l.length
    · subst z
      rw [if_pos rfl, if_pos rfl, if_neg (show ¬ false = true by decide), ← hI2, up_n (by omega), up_n (by omega), up_n (by omega), up_n (by omega), up_n (by omega), up_s, up_n (by omega), up_n (by omega), up_n (by omega), up_n (by omega), up_s, up_n (by omega), up_n (by omega), up_n (by omega), up_s, up_n (by omega), up_s]
      exact ⟨hk, hv, rfl, rfl, hw⟩
    · rw [if_neg z, if_neg z, f2 4579 i (by omega) (by omega), f2 4580 i (by omega) (by omega), f2 4581 i (by omega) (by omega), f2 4583 i (by omega) (by omega)]
      exact h3 i (by omega)
  · rw [← hI2, up_n (by omega), up_n (by omega), up_s]
theorem M_digit {x bs : Nat} {F : Int32 → Option β} (hx : x < 65536) (hb : bs ≤ 16) : (f_X12_digit (mg 4625 I J R) (Int32.ofNat (x)) (Int32.ofNat (bs))).bind F = F (if dgt x < bs then (Int32.ofNat (dgt x)) else -1) := by
  have j40 : ∀ d : Nat, d ≤ 16 → f_X12_digit_j40 (mg 4625 I J R) (Int32.ofNat (bs)) (Int32.ofNat (d)) = some (if d < bs then (Int32.ofNat (d)) else -1) := by
    intro d hd
    unfold f_X12_digit_j40 f_X12_digit_j51
    by_cases q : d < bs
    · rw [if_neg (show ¬ (Int32.ofNat (bs)) ≤ (Int32.ofNat (d)) from fun y => absurd ((i32_le (by omega) (by omega)).mp y) (by omega)), if_pos q]
    · rw [if_pos (show (Int32.ofNat (bs)) ≤ (Int32.ofNat (d)) from (i32_le (by omega) (by omega)).mpr (by omega)), if_neg q]
  have j40n : f_X12_digit_j40 (mg 4625 I J R) (Int32.ofNat (bs)) (-1) = some (-1) := by
    unfold f_X12_digit_j40 f_X12_digit_j51
    split <;> rfl
  unfold f_X12_digit dgt
  by_cases h1 : 48 ≤ x ∧ x ≤ 57
  · rw [m_in1 (show (48 : Int32) ≤ (Int32.ofNat (x)) from (i32_le (k := 48) (by omega) (by omega)).mpr h1.1) (show (Int32.ofNat (x)) ≤ (57 : Int32) from (i32_le (m := 57) (by omega) (by omega)).mpr h1.2), Option.bind_some, if_neg (by decide), show (Int32.ofNat (x)) - (48 : Int32) = (Int32.ofNat (x - 48)) from n_sub (a := x) (b := 48) (by omega), j40 _ (by omega), if_pos h1]
    rfl
  · rw [m_in0 (show ¬ ((48 : Int32) ≤ (Int32.ofNat (x)) ∧ (Int32.ofNat (x)) ≤ (57 : Int32)) from fun y => h1 ⟨(i32_le (k := 48) (by omega) (by omega)).mp y.1, (i32_le (m := 57) (by omega) (by omega)).mp y.2⟩), Option.bind_some, if_pos rfl, if_neg h1]
    by_cases h2 : 97 ≤ x ∧ x ≤ 102
    · rw [m_in1 (show (97 : Int32) ≤ (Int32.ofNat (x)) from (i32_le (k := 97) (by omega) (by omega)).mpr h2.1) (show (Int32.ofNat (x)) ≤ (102 : Int32) from (i32_le (m := 102) (by omega) (by omega)).mpr h2.2), Option.bind_some, if_neg (by decide), show (Int32.ofNat (x)) - (97 : Int32) = (Int32.ofNat (x - 97)) from n_sub (a := x) (b := 97) (by omega), show (Int32.ofNat (x - 97)) + 10 = (Int32.ofNat (x - 97 + 10)) from n_add _ 10, show x - 97 + 10 = x - 87 by omega, j40 _ (by omega), if_pos h2]
      rfl
    · rw [m_in0 (show ¬ ((97 : Int32) ≤ (Int32.ofNat (x)) ∧ (Int32.ofNat (x)) ≤ (102 : Int32)) from fun y => h2 ⟨(i32_le (k := 97) (by omega) (by omega)).mp y.1, (i32_le (m := 102) (by omega) (by omega)).mp y.2⟩), Option.bind_some, if_pos rfl, if_neg h2, j40n, if_neg (by omega)]
      rfl
theorem M_typedAt {k : Nat} {F : Int32 → Option β} (hR : RA R) (h19 : I 4561 19 = (Int32.ofNat (n))) (hT : Tx I 4578 n c) (hn : n ≤ 60) (hk : k ≤ 60) : (f_X12_typedAt (mg 4625 I J R) 4561 (Int32.ofNat (k))).bind F = F (if k < n then (Int32.ofNat (c k)) else -1) := by
  unfold f_X12_typedAt f_X12_typedAt_j18
  rw [gi_4561, h19]
  by_cases q : k < n
  · rw [if_neg (show ¬ (Int32.ofNat (n)) ≤ (Int32.ofNat (k)) from fun y => absurd ((i32_le (by omega) (by omega)).mp y) (by omega)), gr_4561_18 hR, ga_4578 (by omega), (hT k q).1, if_pos q]
    rfl
  · rw [if_pos (show (Int32.ofNat (n)) ≤ (Int32.ofNat (k)) from (i32_le (by omega) (by omega)).mpr (by omega)), if_neg q]
    rfl
theorem M_number {i : Nat} {l : List Wp} (hR : RA R) (h19 : I 4561 19 = (Int32.ofNat (n))) (hT : Tx I 4578 n c) (hn : n ≤ 60) (hW : MWl I l) (h300 : l.length < 300) (hi : i < n) : QK (f_X12_number (mg 4625 I J R) 4561 (Int32.ofNat (i))) (fun r => ∃ I' x, r = (x, mg 4625 I' J R) ∧ FrK (fun a k => (a = 4561 ∧ k = 25) ∨ (4579 ≤ a ∧ a ≤ 4583)) I I' ∧ MWl I' (((0, (numE c (nL (bas c n i) i n) (bas c n i) 9 (nF (bas c n i) i) 0).2), i) :: l) ∧ x = (if (numE c (nL (bas c n i) i n) (bas c n i) 9 (nF (bas c n i) i) 0).1 = nF (bas c n i) i then -(Int32.ofNat ((numE c (nL (bas c n i) i n) (bas c n i) 9 (nF (bas c n i) i) 0).1)) else (Int32.ofNat ((numE c (nL (bas c n i) i n) (bas c n i) 9 (nF (bas c n i) i) 0).1)))) := by
  have hv := num_v c n i
  have hb := bas_in (c := c) (n := n) (i := i) hi
  have j86 : ∀ (bs m : Nat), bs = bas c n i → nL (bas c n i) i n = min n (nF (bas c n i) i + m) → m ≤ 9 → QK (f_X12_number_j86 (mg 4625 I J R) 4561 (Int32.ofNat (i)) (Int32.ofNat (bs)) (Int32.ofNat (nF (bas c n i) i)) (Int32.ofNat (m))) (fun r => ∃ I' x, r = (x, mg 4625 I' J R) ∧ FrK (fun a k => (a = 4561 ∧ k = 25) ∨ (4579 ≤ a ∧ a ≤ 4583)) I I' ∧ MWl I' (((0, (numE c (nL (bas c n i) i n) (bas c n i) 9 (nF (bas c n i) i) 0).2), i) :: l) ∧ x = (if (numE c (nL (bas c n i) i n) (bas c n i) 9 (nF (bas c n i) i) 0).1 = nF (bas c n i) i then -(Int32.ofNat ((numE c (nL (bas c n i) i n) (bas c n i) 9 (nF (bas c n i) i) 0).1)) else (Int32.ofNat ((numE c (nL (bas c n i) i n) (bas c n i) 9 (nF (bas c n i) i) 0).1)))) := by
    intro bs m e1 e2 hm
    have b4 : bs ≤ 16 := by
      rw [e1]
      rcases bas_4 c n i with h | h | h | h <;> omega
    rw [← e1] at hv hb e2 ⊢
    generalize hff : nF bs i = ff at hv hb e2 ⊢
    generalize hlm : nL bs i n = lm at hv e2 ⊢
    generalize hE : numE c lm bs 9 ff 0 = E at hv ⊢
    have lmn : lm ≤ n ∧ lm ≤ ff + m ∧ (lm = n ∨ lm = ff + m) := by
      rw [e2]
      omega
    unfold f_X12_number_j86
    rw [q_let]
    refine q_bind (P := fun r => r = .inr (4561, (Int32.ofNat (i)), (Int32.ofNat (E.1)), (Int32.ofNat (ff)), (Int32.ofNat (E.2)))) ?_ ?_
    · refine q_loop (fun f s => ∃ j v, s = (4561, (Int32.ofNat (i)), (Int32.ofNat (bs)), (Int32.ofNat (j)), (Int32.ofNat (m)), (Int32.ofNat (ff)), (Int32.ofNat (v))) ∧ numE c lm bs f j v = E ∧ lm ≤ j + f ∧ ff ≤ j ∧ j ≤ n + 9) ?_ (m := 9) ⟨ff, 0, rfl, hE, by omega, by omega, by omega⟩ (by unfold xF; omega)
      rintro f s ⟨j, v, rfl, h1, h2, h3, h4⟩
      unfold f_X12_number_s95
      dsimp only
      rw [q_let, q_let, q_let, q_let, q_let, q_let, q_let, n_sub h3]
      have stop : ¬ (j < lm ∧ dgt (c j) < bs) → E = (j, v) := fun q => by
        rw [← h1]
        cases f with
        | zero => rfl
        | succ f => rw [numE_c, if_neg q]
      by_cases q0 : m ≤ j - ff
      · rw [if_pos (show (Int32.ofNat (m)) ≤ (Int32.ofNat (j - ff)) from (i32_le (by omega) (by omega)).mpr q0)]
        exact q_ex (by rw [stop (fun y => by omega)])
      · rw [if_neg (show ¬ (Int32.ofNat (m)) ≤ (Int32.ofNat (j - ff)) from fun y => q0 ((i32_le (by omega) (by omega)).mp y)), gi_4561, h19]
        by_cases q1 : j < n
        · obtain ⟨t1, t2⟩ := hT j q1
          have d16 := dg_16 (c j)
          rw [if_neg (show ¬ (Int32.ofNat (n)) ≤ (Int32.ofNat (j)) from fun y => absurd ((i32_le (by omega) (by omega)).mp y) (by omega)), gr_4561_18 hR, ga_4578 (by omega), t1, M_digit t2 b4]
          by_cases q2 : dgt (c j) < bs
          · rw [if_pos q2, if_neg (i32_nlt0 (by omega)), gr_4561_18 hR, ga_4578 (by omega), t1, M_digit t2 b4, if_pos q2, q_let, q_let, n_mul, n_add, show (Int32.ofNat (j)) + 1 = (Int32.ofNat (j + 1)) from n_add j 1]
            cases f with
            | zero => omega
            | succ f =>
              rw [numE_c, if_pos ⟨by omega, q2⟩] at h1
              exact q_go ⟨f, by omega, j + 1, _, rfl, h1, by omega, by omega, by omega⟩
          · rw [if_neg q2, if_pos (by decide)]
            exact q_ex (by rw [stop (fun y => q2 y.2)])
        · rw [if_pos (show (Int32.ofNat (n)) ≤ (Int32.ofNat (j)) from (i32_le (by omega) (by omega)).mpr (by omega))]
          exact q_ex (by rw [stop (fun y => by omega)])
    · rintro _ rfl
      simp only [Sum.elim_inr]
      unfold f_X12_number_j152 f_X12_number_j175
      obtain ⟨g1, g2⟩ := numE_ge (c := c) (lim := lm) (base := bs) 9 ff 0
      rw [hE] at g1
      have g3 : E.1 ≤ n ∨ E.1 = ff := by
        by_cases y : ff ≤ lm
        · have := g2 y
          rw [hE] at this
          omega
        · right
          rw [← hE, numE_c, if_neg (by omega)]
      rw [if_pos ok_4561]
      refine q_bind (M_word (w := (0, E.2)) hR hW h300 rfl rfl (Or.inl ⟨rfl, hv⟩)) ?_
      rintro _ ⟨I2, rfl, hF2, hW2, -, -⟩
      by_cases q : E.1 = ff
      · rw [if_pos (show (Int32.ofNat (E.1)) = (Int32.ofNat (ff)) by rw [q]), if_pos q]
        exact q_ok ⟨I2, _, rfl, hF2, hW2, rfl⟩
      · rw [if_neg (i32_ne (by omega) (by omega) q), if_neg q]
        exact q_ok ⟨I2, _, rfl, hF2, hW2, rfl⟩
  have j57 : ∀ bs : Nat, bs = bas c n i → QK (f_X12_number_j57 (mg 4625 I J R) 4561 (Int32.ofNat (i)) (Int32.ofNat (bs))) (fun r => ∃ I' x, r = (x, mg 4625 I' J R) ∧ FrK (fun a k => (a = 4561 ∧ k = 25) ∨ (4579 ≤ a ∧ a ≤ 4583)) I I' ∧ MWl I' (((0, (numE c (nL (bas c n i) i n) (bas c n i) 9 (nF (bas c n i) i) 0).2), i) :: l) ∧ x = (if (numE c (nL (bas c n i) i n) (bas c n i) 9 (nF (bas c n i) i) 0).1 = nF (bas c n i) i then -(Int32.ofNat ((numE c (nL (bas c n i) i n) (bas c n i) 9 (nF (bas c n i) i) 0).1)) else (Int32.ofNat ((numE c (nL (bas c n i) i n) (bas c n i) 9 (nF (bas c n i) i) 0).1)))) := by
    intro bs e1
    unfold f_X12_number_j57 f_X12_number_j71
    by_cases q : bs = 10
    · have ef : nF (bas c n i) i = i := by unfold nF; rw [← e1, if_pos q]
      have em : nL (bas c n i) i n = min n (nF (bas c n i) i + 9) := by unfold nL; rw [← e1, if_pos q]
      have := j86 bs 9 e1 em (by decide)
      rw [q] at this ⊢
      rw [if_pos (show (Int32.ofNat (10)) = (10 : Int32) from rfl), if_pos (show (Int32.ofNat (10)) = (10 : Int32) from rfl)]
      rw [show QK (f_X12_number_j86 (mg 4625 I J R) 4561 (Int32.ofNat (i)) (Int32.ofNat (10)) (Int32.ofNat (i)) 9) = QK (f_X12_number_j86 (mg 4625 I J R) 4561 (Int32.ofNat (i)) (Int32.ofNat (10)) (Int32.ofNat (nF (bas c n i) i)) (Int32.ofNat (9))) by rw [ef]; rfl]
      exact this
    · have b4 : bs ≤ 16 := by
        rw [e1]
        rcases bas_4 c n i with h | h | h | h <;> omega
      have ef : nF (bas c n i) i = i + 2 := by unfold nF; rw [← e1, if_neg q]
      have em : nL (bas c n i) i n = min n (nF (bas c n i) i + 7) := by unfold nL; rw [← e1, if_neg q]
      have := j86 bs 7 e1 em (by decide)
      rw [if_neg (show ¬ _ = (10 : Int32) from i32_ne (b := 10) (by omega) (by omega) q), if_neg (show ¬ _ = (10 : Int32) from i32_ne (b := 10) (by omega) (by omega) q), show (Int32.ofNat (i)) + 2 = (Int32.ofNat (i + 2)) from n_add i 2]
      rw [show QK (f_X12_number_j86 (mg 4625 I J R) 4561 (Int32.ofNat (i)) (Int32.ofNat (bs)) (Int32.ofNat (i + 2)) 7) = QK (f_X12_number_j86 (mg 4625 I J R) 4561 (Int32.ofNat (i)) (Int32.ofNat (bs)) (Int32.ofNat (nF (bas c n i) i)) (Int32.ofNat (7))) by rw [ef]; rfl]
      exact this
  obtain ⟨t1, t2⟩ := hT i hi
  unfold f_X12_number
  rw [if_pos ok_4561, show (Int32.ofNat (i)) + 1 = (Int32.ofNat (i + 1)) from n_add i 1, M_typedAt hR h19 hT hn (by omega), if_pos ok_4561, M_typedAt hR h19 hT hn (by omega), if_pos hi]
  by_cases q0 : c i = 48
  · rw [if_pos (show (Int32.ofNat (c i)) = (48 : Int32) by rw [q0]; rfl)]
    by_cases q1 : i + 1 < n
    · obtain ⟨u1, u2⟩ := hT (i + 1) q1
      have eb : bas c n i = (if c (i + 1) = 120 then 16 else if c (i + 1) = 111 then 8 else if c (i + 1) = 98 then 2 else 10) := by
        unfold bas
        rw [if_pos ⟨q0, q1⟩]
      rw [if_pos q1]
      by_cases y1 : c (i + 1) = 120
      · rw [if_pos (show (Int32.ofNat (c (i + 1))) = (120 : Int32) by rw [y1]; rfl)]
        exact j57 16 (by rw [eb, if_pos y1])
      · rw [if_neg (show ¬ _ = (120 : Int32) from i32_ne (b := 120) (by omega) (by omega) y1)]
        rw [if_neg y1] at eb
        by_cases y2 : c (i + 1) = 111
        · rw [if_pos (show (Int32.ofNat (c (i + 1))) = (111 : Int32) by rw [y2]; rfl)]
          exact j57 8 (by rw [eb, if_pos y2])
        · rw [if_neg (show ¬ _ = (111 : Int32) from i32_ne (b := 111) (by omega) (by omega) y2)]
          rw [if_neg y2] at eb
          by_cases y3 : c (i + 1) = 98
          · rw [if_pos (show (Int32.ofNat (c (i + 1))) = (98 : Int32) by rw [y3]; rfl)]
            exact j57 2 (by rw [eb, if_pos y3])
          · rw [if_neg (show ¬ _ = (98 : Int32) from i32_ne (b := 98) (by omega) (by omega) y3)]
            exact j57 10 (by rw [eb, if_neg y3])
    · rw [if_neg q1, if_neg (by decide), if_neg (by decide), if_neg (by decide)]
      exact j57 10 (by unfold bas; rw [if_neg (fun y => q1 y.2)])
  · rw [if_neg (show ¬ _ = (48 : Int32) from i32_ne (b := 48) (by omega) (by omega) q0)]
    exact j57 10 (by unfold bas; rw [if_neg (fun y => q0 y.1)])
theorem MWl_keep {I' : Nat → Nat → Int32} {l : List Wp} (H : MWl I l) (e : ∀ a k, (a = 4561 ∧ k = 25) ∨ (4579 ≤ a ∧ a ≤ 4583) → I' a k = I a k) : MWl I' l := MWd_keep H e
theorem osZ_n {k : Nat} {v : Int32} {F : xM → Option β} (hv : (v == 0 || v == 1) = true) : (sZ (mg 4625 I J R) 4561 12 k v).bind F = F (mg 4625 (up I 4561 k v) J R) := by
  rw [e_sZ1 (n := 4625) (a := 4561) (c := 12) (by decide) rfl, if_pos hv]
  rfl
def LMo (I : Nat → Nat → Int32) (J : Nat → Nat → Int64) (R : Nat → Nat → Option Nat) (n : Nat) (Rs : List Wp) (r : xM ⊕ ((Nat × Int32 × xM) ⊕ ((xM) ⊕ (xM)))) : Prop := (∃ I1, (r = .inr (.inr (.inl (mg 4625 I1 J R))) ∨ r = .inr (.inr (.inr (mg 4625 I1 J R)))) ∧ FrK Swm I I1 ∧ MWl I1 Rs ∧ lexM n Rs = Rs ∧ opnM n Rs = false ∧ I1 4561 26 = 0) ∨ ∃ I1 l p v, r = .inr (.inl (4561, -(Int32.ofNat (v)), mg 4625 I1 J R)) ∧ FrK Swm I I1 ∧ MWl I1 (((0, 0), p) :: l) ∧ Rs = ((7, v), p) :: l ∧ v ≤ n ∧ p < 65536 ∧ I1 4561 26 = 0
theorem M_lex (hR : RA R) (h19 : I 4561 19 = (Int32.ofNat (n))) (hT : Tx I 4578 n c) (hn : n ≤ 60) : QK (f_X12_lex (mg 4625 I J R) 4561) (fun r => ∃ I', r = mg 4625 I' J R ∧ FrK Swm I I' ∧ MWl I' (lexM n (lexS c n n 0 [])) ∧ I' 4561 26 = (if opnM n (lexS c n n 0 []) = true then 1 else 0)) := by
  have len := lexS_len (c := c) (n := n) n 0 [] (Nat.zero_le _)
  rw [show ([] : List Wp).length = 0 from rfl, Nat.zero_add, Nat.sub_zero] at len
  unfold f_X12_lex
  rw [gs_4561, osZ_n rfl, q_let]
  generalize hI0 : up (up I 4561 25 0) 4561 26 0 = I0
  have f0 : FrK Swm I I0 := fun a k y => by
    unfold Swm at y
    rw [← hI0, up_n (by omega), up_n (by omega)]
  have h26 : I0 4561 26 = 0 := by rw [← hI0, up_s]
  have hW0 : MWl I0 [] := ⟨by decide, by rw [← hI0, up_n (by omega), up_s]; rfl, fun i hi => absurd hi (Nat.not_lt_zero _)⟩
  refine q_bind (P := LMo I J R n (lexS c n n 0 [])) ?_ ?_
  · refine q_loop (fun f s => ∃ I1 i l, s = (4561, (Int32.ofNat (i)), mg 4625 I1 J R) ∧ lexS c n f i l = lexS c n n 0 [] ∧ n ≤ i + f ∧ i ≤ n ∧ FrK Swm I I1 ∧ I1 4561 26 = 0 ∧ MWl I1 l ∧ l.length ≤ 60 ∧ ∀ x, x ∈ l → x.1.1 ≠ 7) ?_ (m := n) ⟨I0, 0, [], rfl, rfl, by omega, by omega, f0, h26, hW0, by decide, fun x hx => by cases hx⟩ (by unfold xF; omega)
    rintro f s ⟨I1, i, l, rfl, h1, h2, h4, hF, h6, hW, hl6, hno⟩
    have hT1 : Tx I1 4578 n c := fun k hk => by
      rw [hF 4578 k (by unfold Swm; omega)]
      exact hT k hk
    have h191 : I1 4561 19 = (Int32.ofNat (n)) := (hF _ _ (by unfold Swm; omega)).trans h19
    have done : ∀ (I2 : Nat → Nat → Int32) (l' : List Wp), lexS c n n 0 [] = l' → FrK Swm I I2 → I2 4561 26 = 0 → MWl I2 l' → (∀ x, x ∈ l' → x.1.1 ≠ 7) → (MWl I2 (lexS c n n 0 []) ∧ lexM n (lexS c n n 0 []) = lexS c n n 0 [] ∧ opnM n (lexS c n n 0 []) = false) := by
      intro I2 l' e a1 a2 a3 a4
      rw [e]
      refine ⟨a3, ?_, ?_⟩
      · cases l' with
        | nil => rfl
        | cons x l' =>
          show (if x.1.1 = 7 then _ else x :: l') = _
          rw [if_neg (a4 x (List.mem_cons_self ..))]
      · cases l' with
        | nil => rfl
        | cons x l' =>
          show (x.1.1 == 7 && x.1.2 == n) = false
          simp [a4 x (List.mem_cons_self ..)]
    unfold f_X12_lex_s12
    dsimp only
    rw [q_let, q_let, q_let, gi_4561, h191]
    by_cases qi : i < n
    · obtain ⟨f', rfl⟩ : ∃ f', f = f' + 1 := ⟨f - 1, by omega⟩
      rw [lexS_c, if_neg (by omega)] at h1
      obtain ⟨t1, t2⟩ := hT1 i qi
      have gr := fun l' i' => lexS_grow (c := c) (n := n) f' i' l'
      have l3 : ∀ x : Wp, (x :: l).length ≤ (lexS c n n 0 []).length → l.length < 60 := fun x hx => by
        rw [List.length_cons] at hx
        omega
      have go : ∀ (I2 : Nat → Nat → Int32) (i' : Nat) (l' : List Wp), FrK Swm I1 I2 → I2 4561 26 = 0 → MWl I2 l' → i < i' → i' ≤ n → l'.length ≤ 60 → (∀ x, x ∈ l' → x.1.1 ≠ 7) → (lexS c n f' i' l' = lexS c n n 0 []) → QK (f_X12_lex_j182 (mg 4625 I2 J R) 4561 (Int32.ofNat (i'))) (qS (fun s' => ∃ m', m' < f' + 1 ∧ ∃ I1 i l, s' = (4561, (Int32.ofNat (i)), mg 4625 I1 J R) ∧ lexS c n m' i l = lexS c n n 0 [] ∧ n ≤ i + m' ∧ i ≤ n ∧ FrK Swm I I1 ∧ I1 4561 26 = 0 ∧ MWl I1 l ∧ l.length ≤ 60 ∧ ∀ x, x ∈ l → x.1.1 ≠ 7) (LMo I J R n (lexS c n n 0 []))) := by
        intro I2 i' l' a1 a2 a3 a4 a5 a6 a7 a8
        unfold f_X12_lex_j182
        exact q_go ⟨f', by omega, I2, i', l', rfl, a8, by omega, a5, fun a j y => (a1 a j y).trans (hF a j y), a2, a3, a6, a7⟩
      rw [if_neg (show ¬ (Int32.ofNat (n)) ≤ (Int32.ofNat (i)) from fun y => absurd ((i32_le (by omega) (by omega)).mp y) (by omega)), gr_4561_18 hR, ga_4578 (by omega), t1]
      by_cases q32 : c i = 32
      · rw [if_pos q32] at h1
        rw [if_pos (show (Int32.ofNat (c i)) = (32 : Int32) by rw [q32]; rfl), q_let, show (Int32.ofNat (i)) + 1 = (Int32.ofNat (i + 1)) from n_add i 1]
        exact go I1 (i + 1) l FrK_rfl h6 hW (by omega) (by omega) hl6 hno h1
      · rw [if_neg q32] at h1
        rw [if_neg (show ¬ _ = (32 : Int32) from i32_ne (b := 32) (by omega) (by omega) q32)]
        by_cases qd : 48 ≤ c i ∧ c i ≤ 57
        · rw [if_pos qd] at h1
          rw [m_in1 (show (48 : Int32) ≤ (Int32.ofNat (c i)) from (i32_le (k := 48) (by omega) (by omega)).mpr qd.1) (show (Int32.ofNat (c i)) ≤ (57 : Int32) from (i32_le (m := 57) (by omega) (by omega)).mpr qd.2), Option.bind_some, if_neg (by decide), if_pos ok_4561]
          have hb := bas_in (c := c) (n := n) (i := i) qi
          obtain ⟨g1, g2⟩ := numE_ge (c := c) (lim := nL (bas c n i) i n) (base := bas c n i) 9 (nF (bas c n i) i) 0
          have g3 := g2 (by unfold nL; omega)
          have g4 : nL (bas c n i) i n ≤ n := Nat.min_le_left _ _
          have one := num_one qi qd
          have l4 : l.length < 60 := by
            rw [← h1] at l3
            split at h1
            · next y =>
              rw [if_pos y] at l3
              exact l3 _ (Nat.le_refl _)
            · next y =>
              rw [if_neg y] at l3
              exact l3 _ (gr _ _)
          obtain ⟨_, e1, I2, x, rfl, hF2, hW2, hx⟩ := M_number (J := J) hR h191 hT1 hn hW (by omega) qi
          have h62 : I2 4561 26 = 0 := (hF2 _ _ (by omega)).trans h6
          have fr2 : FrK Swm I1 I2 := fun a j y => hF2 a j (fun w => y (by unfold Swm; omega))
          rw [e1, Option.bind_some]
          generalize hE : numE c (nL (bas c n i) i n) (bas c n i) 9 (nF (bas c n i) i) 0 = E at h1 g1 g2 g3 one hW2 hx
          by_cases qe : E.1 = nF (bas c n i) i
          · have o2 := one qe
            rw [if_pos qe] at hx h1
            have neg : ¬ (0 : Int32) ≤ -(Int32.ofNat (E.1)) := fun y => by
              rw [Int32.le_iff_toInt_le, Int32.toInt_neg, i32_toInt (by omega), show (0 : Int32).toInt = 0 from rfl, show (-(E.1 : Int)).bmod (2 ^ 32) = -(E.1 : Int) from Int.bmod_eq_of_le (by omega) (by omega)] at y
              omega
            have e2 : E.2 = 0 := by
              rw [← hE, numE_c, if_neg (fun y => by
                have := (numE_ge (c := c) (lim := nL (bas c n i) i n) (base := bas c n i) 8 (nF (bas c n i) i + 1) (bas c n i * 0 + dgt (c (nF (bas c n i) i)))).1
                rw [numE_c, if_pos y] at hE
                rw [hE] at this
                omega)]
            rw [hx, if_neg neg]
            rw [e2] at hW2
            exact q_ex (Or.inr ⟨I2, l, i, nF (bas c n i) i, by rw [qe], fun a j y => (fr2 a j y).trans (hF a j y), hW2, h1.symm, by omega, by omega, h62⟩)
          · rw [if_neg qe] at hx h1
            rw [hx, if_pos (i32_0le (by omega))]
            refine go I2 E.1 _ fr2 h62 hW2 (by omega) (by omega) (by rw [List.length_cons]; omega) (fun y hy => ?_) h1
            rcases List.mem_cons.mp hy with rfl | hy
            · exact (by decide : (0 : Nat) ≠ 7)
            · exact hno y hy
        · rw [if_neg qd] at h1
          rw [m_in0 (show ¬ ((48 : Int32) ≤ (Int32.ofNat (c i)) ∧ (Int32.ofNat (c i)) ≤ (57 : Int32)) from fun y => qd ⟨(i32_le (k := 48) (by omega) (by omega)).mp y.1, (i32_le (m := 57) (by omega) (by omega)).mp y.2⟩), Option.bind_some, if_pos rfl]
          obtain ⟨o1, o2, o3, o4⟩ := otk_ok t2
          have l4 : l.length < 60 := by
            rw [← h1] at l3
            split at h1
            · next y =>
              rw [if_pos y] at l3
              exact l3 _ (Nat.le_refl _)
            · next y =>
              rw [if_neg y] at l3
              exact l3 _ (gr _ _)
          have j158 : ∀ k : Int32, k = kM (otk (c i)).1 → QK (f_X12_lex_j158 (mg 4625 I1 J R) 4561 (Int32.ofNat (i)) (Int32.ofNat (c i)) k 4561) (qS (fun s' => ∃ m', m' < f' + 1 ∧ ∃ I1 i l, s' = (4561, (Int32.ofNat (i)), mg 4625 I1 J R) ∧ lexS c n m' i l = lexS c n n 0 [] ∧ n ≤ i + m' ∧ i ≤ n ∧ FrK Swm I I1 ∧ I1 4561 26 = 0 ∧ MWl I1 l ∧ l.length ≤ 60 ∧ ∀ x, x ∈ l → x.1.1 ≠ 7) (LMo I J R n (lexS c n n 0 []))) := by
            intro k hk
            unfold f_X12_lex_j158
            rw [if_pos ok_4561]
            refine q_bind (M_word (w := otk (c i)) hR hW (by omega) hk o4.symm o1) ?_
            rintro _ ⟨I2, rfl, hF2, hW2, -, -⟩
            have h62 : I2 4561 26 = 0 := (hF2 _ _ (by omega)).trans h6
            have fr2 : FrK Swm I1 I2 := fun a j y => hF2 a j (fun w => y (by unfold Swm; omega))
            have no2 : ∀ x, x ∈ (otk (c i), i) :: l → x.1.1 ≠ 7 := fun x hx => by
              rcases List.mem_cons.mp hx with rfl | hx
              · exact o3
              · exact hno x hx
            have w1 := (hW2.2.2 l.length (by rw [List.length_cons]; omega)).1
            have w2 : wF ((otk (c i), i) :: l) l.length = otk (c i) := if_pos rfl
            rw [w2] at w1
            rw [gr_4561_20 hR, gi_4561, hW2.2.1, List.length_cons, i32_pred, ga_4579 (by omega), w1]
            by_cases q8 : (otk (c i)).1 = 8
            · rw [if_pos q8] at h1
              rw [q8, if_pos (by decide)]
              have dn := done I2 _ h1.symm (fun a j y => (fr2 a j y).trans (hF a j y)) h62 hW2 no2
              exact q_ex (Or.inl ⟨I2, Or.inl rfl, fun a j y => (fr2 a j y).trans (hF a j y), dn.1, dn.2.1, dn.2.2, h62⟩)
            · rw [if_neg q8] at h1
              have nk : ¬ kM (otk (c i)).1 = -1 := by
                have key : ∀ k, k ≤ 6 → k ≠ 2 → kM k ≠ -1 := by decide
                refine key _ ?_ ?_
                · rcases o1 with v | v | v | v <;> omega
                · rcases o1 with v | v | v | v <;> omega
              rw [if_neg nk, q_let, show (Int32.ofNat (i)) + 1 = (Int32.ofNat (i + 1)) from n_add i 1]
              exact go I2 (i + 1) _ fr2 h62 hW2 (by omega) (by omega) (by rw [List.length_cons]; omega) no2 h1
          by_cases q1 : 97 ≤ c i ∧ c i ≤ 122
          · rw [m_in1 (show (97 : Int32) ≤ (Int32.ofNat (c i)) from (i32_le (k := 97) (by omega) (by omega)).mpr q1.1) (show (Int32.ofNat (c i)) ≤ (122 : Int32) from (i32_le (m := 122) (by omega) (by omega)).mpr q1.2), Option.bind_some, if_neg (by decide)]
            exact j158 1 (by unfold otk; rw [if_pos q1]; rfl)
          · rw [m_in0 (show ¬ ((97 : Int32) ≤ (Int32.ofNat (c i)) ∧ (Int32.ofNat (c i)) ≤ (122 : Int32)) from fun y => q1 ⟨(i32_le (k := 97) (by omega) (by omega)).mp y.1, (i32_le (m := 122) (by omega) (by omega)).mp y.2⟩), Option.bind_some, if_pos rfl]
            by_cases q2 : c i = 40
            · rw [if_pos (show (Int32.ofNat (c i)) = (40 : Int32) by rw [q2]; rfl)]
              exact j158 3 (by unfold otk; rw [if_neg q1, if_pos q2]; rfl)
            · rw [if_neg (show ¬ _ = (40 : Int32) from i32_ne (b := 40) (by omega) (by omega) q2)]
              by_cases q3 : c i = 41
              · rw [if_pos (show (Int32.ofNat (c i)) = (41 : Int32) by rw [q3]; rfl)]
                exact j158 4 (by unfold otk; rw [if_neg q1, if_neg q2, if_pos q3]; rfl)
              · rw [if_neg (show ¬ _ = (41 : Int32) from i32_ne (b := 41) (by omega) (by omega) q3)]
                by_cases q4 : c i = 44
                · rw [if_pos (show (Int32.ofNat (c i)) = (44 : Int32) by rw [q4]; rfl)]
                  exact j158 5 (by unfold otk; rw [if_neg q1, if_neg q2, if_neg q3, if_pos q4]; rfl)
                · rw [if_neg (show ¬ _ = (44 : Int32) from i32_ne (b := 44) (by omega) (by omega) q4)]
                  rcases sgn_dom t2 with ⟨z1, z2⟩ | ⟨p, hp, hx1, z1, z2⟩
                  · rw [z2, Option.bind_some, if_pos rfl]
                    refine j158 (-1) ?_
                    unfold otk
                    rw [if_neg q1, if_neg q2, if_neg q3, if_neg q4, if_neg (fun y => by
                      rcases z1 with z1 | z1
                      · omega
                      · exact y.2 z1)]
                    rfl
                  · have np : ∀ p, p < 16 → ¬ (Int32.ofNat (p)) = (-1 : Int32) := fun p hp y => by
                      have := i32_0le (k := p) (by omega)
                      rw [y] at this
                      exact absurd this (by decide)
                    rw [z2, Option.bind_some, if_neg (np _ (sgp_lt p hp))]
                    refine j158 2 ?_
                    unfold otk
                    rw [if_neg q1, if_neg q2, if_neg q3, if_neg q4, if_pos ⟨hx1, by rw [z1]; exact np p hp⟩]
                    rfl
    · rw [lexS_end (by omega)] at h1
      rw [if_pos (show (Int32.ofNat (n)) ≤ (Int32.ofNat (i)) from (i32_le (by omega) (by omega)).mpr (by omega))]
      have dn := done I1 l h1.symm hF h6 hW hno
      exact q_ex (Or.inl ⟨I1, Or.inr rfl, hF, dn.1, dn.2.1, dn.2.2, h6⟩)
  · rintro r (⟨I1, hr, hF, hW, e1, e2, h26'⟩ | ⟨I1, l, p, v, rfl, hF, hW, e1, hv, hp, h26'⟩)
    · have : QK (some (mg 4625 I1 J R)) (fun r => ∃ I', r = mg 4625 I' J R ∧ FrK Swm I I' ∧ MWl I' (lexM n (lexS c n n 0 [])) ∧ I' 4561 26 = (if opnM n (lexS c n n 0 []) = true then 1 else 0)) := q_ok ⟨I1, rfl, hF, by rw [e1]; exact hW, by rw [e2]; exact h26'⟩
      rcases hr with rfl | rfl
      · simp only [Sum.elim_inr, Sum.elim_inl]
        unfold f_X12_lex_j178
        exact this
      · simp only [Sum.elim_inr]
        unfold f_X12_lex_j185
        exact this
    · simp only [Sum.elim_inr, Sum.elim_inl]
      rw [e1]
      unfold f_X12_lex_j60 f_X12_lex_j75 f_X12_lex_j93
      have h191 : I1 4561 19 = (Int32.ofNat (n)) := (hF _ _ (by unfold Swm; omega)).trans h19
      have lm : lexM n (((7, v), p) :: l) = (if v = n then ((0, 0), p) :: l else ((8, 0), v) :: ((0, 0), p) :: l) := rfl
      have om : opnM n (((7, v), p) :: l) = (v == n) := by
        show ((7 == 7) && (v == n)) = (v == n)
        simp
      rw [gi_4561, h191, Int32.neg_neg, lm, om]
      have fr : ∀ (z : Int32), FrK Swm I (up I1 4561 26 z) := fun z a j y => by
        unfold Swm at y
        rw [up_n (by omega)]
        exact hF a j y
      by_cases q : v = n
      · rw [if_pos (show (Int32.ofNat (v)) = (Int32.ofNat (n)) by rw [q]), osZ_n rfl, gi_4561, up_s, if_neg (by decide), if_pos q]
        exact q_ok ⟨_, rfl, fr 1, MWl_keep hW (fun a k y => up_n (by omega)), by rw [up_s, if_pos (by simp [q])]⟩
      · rw [if_neg (i32_ne (by omega) (by omega) q), osZ_n rfl, gi_4561, up_s, if_pos rfl, if_pos ok_4561, if_neg q]
        have hl : (lexS c n n 0 []).length ≤ 60 := by omega
        rw [e1, List.length_cons] at hl
        refine q_bind (M_word (w := (8, 0)) hR (MWl_keep hW (fun a k y => up_n (by omega))) (by rw [List.length_cons]; omega) rfl rfl (Or.inr (Or.inr (Or.inr ⟨by show 4 ≤ 8; decide, by show 8 ≤ 8; decide, by show 0 < 65536; decide⟩)))) ?_
        rintro _ ⟨I2, rfl, hF2, hW2, -, -⟩
        refine q_ok ⟨I2, rfl, fun a j y => (hF2 a j (fun w => y (by unfold Swm; omega))).trans (fr 0 a j y), hW2, ?_⟩
        rw [hF2 _ _ (by omega), up_s, if_neg (by simp [q])]
end LM
