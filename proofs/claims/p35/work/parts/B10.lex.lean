/-! characters to words -/
def dgt (x : Nat) : Nat := if 48 ≤ x ∧ x ≤ 57 then x - 48 else if 97 ≤ x ∧ x ≤ 102 then x - 87 else 16
def numE (c : Nat → Nat) (lim base : Nat) : Nat → Nat → Nat → Nat × Nat
  | 0, i, v => (i, v)
  | f + 1, i, v => if i < lim ∧ dgt (c i) < base then numE c lim base f (i + 1) (base * v + dgt (c i)) else (i, v)
def bas (c : Nat → Nat) (n i : Nat) : Nat := if c i = 48 ∧ i + 1 < n then (if c (i + 1) = 120 then 16 else if c (i + 1) = 111 then 8 else if c (i + 1) = 98 then 2 else 10) else 10
def nF (b i : Nat) : Nat := if b = 10 then i else i + 2
def nL (b i n : Nat) : Nat := min n (nF b i + if b = 10 then 9 else 7)
def otk (x : Nat) : Wd := if 97 ≤ x ∧ x ≤ 122 then (1, x) else if x = 40 then (4, x) else if x = 41 then (5, x) else if x = 44 then (6, x) else if x < 128 ∧ plc x ≠ -1 then (3, plN x) else (8, x)
abbrev Wp : Type := Wd × Nat
def lexS (c : Nat → Nat) (n : Nat) : Nat → Nat → List Wp → List Wp
  | 0, _, l => l
  | f + 1, i, l => if n ≤ i then l else if c i = 32 then lexS c n f (i + 1) l else if 48 ≤ c i ∧ c i ≤ 57 then (if (numE c (nL (bas c n i) i n) (bas c n i) 9 (nF (bas c n i) i) 0).1 = nF (bas c n i) i then ((7, nF (bas c n i) i), i) :: l else lexS c n f (numE c (nL (bas c n i) i n) (bas c n i) 9 (nF (bas c n i) i) 0).1 (((0, (numE c (nL (bas c n i) i n) (bas c n i) 9 (nF (bas c n i) i) 0).2), i) :: l)) else if (otk (c i)).1 = 8 then (otk (c i), i) :: l else lexS c n f (i + 1) ((otk (c i), i) :: l)
theorem lexS_c (c : Nat → Nat) (n f i : Nat) (l : List Wp) : lexS c n (f + 1) i l = if n ≤ i then l else if c i = 32 then lexS c n f (i + 1) l else if 48 ≤ c i ∧ c i ≤ 57 then (if (numE c (nL (bas c n i) i n) (bas c n i) 9 (nF (bas c n i) i) 0).1 = nF (bas c n i) i then ((7, nF (bas c n i) i), i) :: l else lexS c n f (numE c (nL (bas c n i) i n) (bas c n i) 9 (nF (bas c n i) i) 0).1 (((0, (numE c (nL (bas c n i) i n) (bas c n i) 9 (nF (bas c n i) i) 0).2), i) :: l)) else if (otk (c i)).1 = 8 then (otk (c i), i) :: l else lexS c n f (i + 1) ((otk (c i), i) :: l) := rfl
theorem numE_c (c : Nat → Nat) (lim base f i v : Nat) : numE c lim base (f + 1) i v = if i < lim ∧ dgt (c i) < base then numE c lim base f (i + 1) (base * v + dgt (c i)) else (i, v) := rfl
def wF : List Wp → Nat → Wd
  | [] => fun _ => (8, 0)
  | x :: l => fun i => if i = l.length then x.1 else wF l i
def pF : List Wp → Nat → Nat
  | [] => fun _ => 0
  | x :: l => fun i => if i = l.length then x.2 else pF l i
theorem bas_4 (c : Nat → Nat) (n i : Nat) : bas c n i = 10 ∨ bas c n i = 16 ∨ bas c n i = 8 ∨ bas c n i = 2 := by
  unfold bas
  split
  · split
    · exact Or.inr (Or.inl rfl)
    · split
      · exact Or.inr (Or.inr (Or.inl rfl))
      · split
        · exact Or.inr (Or.inr (Or.inr rfl))
        · exact Or.inl rfl
  · exact Or.inl rfl
theorem bas_in {c : Nat → Nat} {n i : Nat} (hi : i < n) : nF (bas c n i) i ≤ n ∧ i ≤ nF (bas c n i) i := by
  unfold nF
  by_cases h : bas c n i = 10
  · rw [if_pos h]
    omega
  · rw [if_neg h]
    have : i + 1 < n := by
      unfold bas at h
      split at h
      · next q => exact q.2
      · exact absurd rfl h
    omega
theorem numE_ge {c : Nat → Nat} {lim base : Nat} : ∀ f i v, i ≤ (numE c lim base f i v).1 ∧ (i ≤ lim → (numE c lim base f i v).1 ≤ lim) := by
  intro f
  induction f with
  | zero => intro i v; exact ⟨Nat.le_refl _, fun h => h⟩
  | succ f ih =>
    intro i v
    rw [numE_c]
    split
    · obtain ⟨a, b⟩ := ih (i + 1) (base * v + dgt (c i))
      exact ⟨by omega, fun _ => b (by omega)⟩
    · exact ⟨Nat.le_refl _, fun h => h⟩
/-- no number is too great -/
theorem numE_v {c : Nat → Nat} {lim base : Nat} (hb : 2 ≤ base) : ∀ f i v B, v < B → (numE c lim base f i v).2 < B * base ^ f := by
  intro f
  induction f with
  | zero => intro i v B h; rw [Nat.pow_zero, Nat.mul_one]; exact h
  | succ f ih =>
    intro i v B h
    rw [numE_c]
    have p1 : 1 ≤ base ^ f := Nat.pow_pos (by omega)
    split
    · next q =>
      have h2 : base * v + dgt (c i) < B * base := by
        have : base * (v + 1) ≤ base * B := Nat.mul_le_mul_left _ h
        rw [Nat.mul_add, Nat.mul_one] at this
        rw [Nat.mul_comm B]
        omega
      have := ih (i + 1) _ _ h2
      rw [Nat.pow_succ, Nat.mul_comm (base ^ f), ← Nat.mul_assoc]
      exact this
    · show v < _
      have : B * 1 ≤ B * base ^ (f + 1) := Nat.mul_le_mul_left _ (Nat.pow_pos (by omega))
      omega
/-- rounds beyond the limit do nothing -/
theorem numE_fuel {c : Nat → Nat} {lim base : Nat} : ∀ f d i v, lim ≤ i + f → numE c lim base (f + d) i v = numE c lim base f i v := by
  intro f
  induction f with
  | zero =>
    intro d i v h
    cases d with
    | zero => rfl
    | succ d =>
      rw [Nat.zero_add, numE_c, if_neg (by omega)]
      rfl
  | succ f ih =>
    intro d i v h
    rw [show f + 1 + d = f + d + 1 by omega, numE_c, numE_c, ih d (i + 1) _ (by omega)]
theorem num_v (c : Nat → Nat) (n i : Nat) : (numE c (nL (bas c n i) i n) (bas c n i) 9 (nF (bas c n i) i) 0).2 ≤ 999999999 := by
  rcases bas_4 c n i with h | h | h | h
  · rw [h]
    have := numE_v (c := c) (lim := nL 10 i n) (base := 10) (by first | decide | omega) 9 (nF 10 i) 0 1 (by first | decide | omega)
    omega
  · rw [h, numE_fuel 7 2 _ _ (by unfold nL; rw [if_neg (by first | decide | omega)]; omega)]
    have := numE_v (c := c) (lim := nL 16 i n) (base := 16) (by first | decide | omega) 7 (nF 16 i) 0 1 (by first | decide | omega)
    omega
  · rw [h, numE_fuel 7 2 _ _ (by unfold nL; rw [if_neg (by first | decide | omega)]; omega)]
    have := numE_v (c := c) (lim := nL 8 i n) (base := 8) (by first | decide | omega) 7 (nF 8 i) 0 1 (by first | decide | omega)
    omega
  · rw [h, numE_fuel 7 2 _ _ (by unfold nL; rw [if_neg (by first | decide | omega)]; omega)]
    have := numE_v (c := c) (lim := nL 2 i n) (base := 2) (by first | decide | omega) 7 (nF 2 i) 0 1 (by first | decide | omega)
    omega
theorem otk_ok {x : Nat} (hx : x < 65536) : WOK (otk x) ∧ (otk x).1 ≠ 0 ∧ (otk x).1 ≠ 7 ∧ wvI (otk x) = (Int32.ofNat (x)) := by
  have sg : ∀ x, x < 128 → plc x ≠ -1 → plN x < 16 ∧ sgc (plN x) = x := by decide +kernel
  unfold otk
  split
  · next h => exact ⟨Or.inr (Or.inl ⟨rfl, x - 97, by omega, by show x = _; omega⟩), by show (1 : Nat) ≠ 0; decide, by show (1 : Nat) ≠ 7; decide, rfl⟩
  · split
    · exact ⟨Or.inr (Or.inr (Or.inr ⟨by show 4 ≤ 4; omega, by show 4 ≤ 8; omega, hx⟩)), by show (4 : Nat) ≠ 0; decide, by show (4 : Nat) ≠ 7; decide, rfl⟩
    · split
      · exact ⟨Or.inr (Or.inr (Or.inr ⟨by show 4 ≤ 5; omega, by show 5 ≤ 8; omega, hx⟩)), by show (5 : Nat) ≠ 0; decide, by show (5 : Nat) ≠ 7; decide, rfl⟩
      · split
        · exact ⟨Or.inr (Or.inr (Or.inr ⟨by show 4 ≤ 6; omega, by show 6 ≤ 8; omega, hx⟩)), by show (6 : Nat) ≠ 0; decide, by show (6 : Nat) ≠ 7; decide, rfl⟩
        · split
          · next h =>
            obtain ⟨s1, s2⟩ := sg x h.1 h.2
            exact ⟨Or.inr (Or.inr (Or.inl ⟨rfl, s1⟩)), by show (3 : Nat) ≠ 0; decide, by show (3 : Nat) ≠ 7; decide, by
              show (Int32.ofNat (sgc (plN x))) = _
              rw [s2]⟩
          · exact ⟨Or.inr (Or.inr (Or.inr ⟨by show 4 ≤ 8; omega, by show 8 ≤ 8; omega, hx⟩)), by show (8 : Nat) ≠ 0; decide, by show (8 : Nat) ≠ 7; decide, rfl⟩
theorem wF_mem : ∀ (l : List Wp) (i : Nat), i < l.length → ∃ x, x ∈ l ∧ wF l i = x.1 ∧ pF l i = x.2 := by
  intro l
  induction l with
  | nil => intro i hi; exact absurd hi (Nat.not_lt_zero _)
  | cons y l ih =>
    intro i hi
    show ∃ x, x ∈ y :: l ∧ (if i = l.length then y.1 else wF l i) = x.1 ∧ (if i = l.length then y.2 else pF l i) = x.2
    by_cases z : i = l.length
    · rw [if_pos z, if_pos z]
      exact ⟨y, List.mem_cons_self .., rfl, rfl⟩
    · rw [if_neg z, if_neg z]
      rw [List.length_cons] at hi
      obtain ⟨x, h1, h2⟩ := ih i (by omega)
      exact ⟨x, List.mem_cons_of_mem _ h1, h2⟩
theorem lexS_grow {c : Nat → Nat} {n : Nat} : ∀ f i l, l.length ≤ (lexS c n f i l).length := by
  intro f
  induction f with
  | zero => intro i l; exact Nat.le_refl _
  | succ f ih =>
    intro i l
    rw [lexS_c]
    split
    · exact Nat.le_refl _
    · split
      · exact ih _ _
      · split
        · split
          · rw [List.length_cons]; omega
          · exact Nat.le_trans (by rw [List.length_cons]; omega) (ih _ _)
        · split
          · rw [List.length_cons]; omega
          · exact Nat.le_trans (by rw [List.length_cons]; omega) (ih _ _)
theorem lexS_len {c : Nat → Nat} {n : Nat} : ∀ f i l, i ≤ n → (lexS c n f i l).length ≤ l.length + (n - i) := by
  intro f
  induction f with
  | zero => intro i l _; exact Nat.le_add_right _ _
  | succ f ih =>
    intro i l hi
    rw [lexS_c]
    split
    · exact Nat.le_add_right _ _
    · next q =>
      split
      · have := ih (i + 1) l (by omega)
        omega
      · split
        · split
          · rw [List.length_cons]; omega
          · next q2 =>
            have hb := bas_in (c := c) (n := n) (i := i) (by omega)
            obtain ⟨g1, g2⟩ := numE_ge (c := c) (lim := nL (bas c n i) i n) (base := bas c n i) 9 (nF (bas c n i) i) 0
            have g3 := g2 (by unfold nL; omega)
            have g4 : nL (bas c n i) i n ≤ n := Nat.min_le_left _ _
            refine Nat.le_trans (ih _ _ (by omega)) ?_
            rw [List.length_cons]
            omega
        · split
          · rw [List.length_cons]; omega
          · refine Nat.le_trans (ih _ _ (by omega)) ?_
            rw [List.length_cons]
            omega
def Swd : Nat → Nat → Prop := fun a k => (a = 540 ∧ (k = 5 ∨ k = 6)) ∨ (541 ≤ a ∧ a ≤ 544)
def CWl (I : Nat → Nat → Int32) (l : List Wp) : Prop := CWd I l.length (wF l) (pF l) (fun _ => false)
section LX
variable {I : Nat → Nat → Int32} {J : Nat → Nat → Int64} {R : Nat → Nat → Option Nat} {b : GB} {β : Type}
theorem C_addWord {l : List Wp} {w : Wd} {p : Nat} {k v : Int32} (hR : RA R) (hW : CWl I l) (hl : l.length < 300) (hk : k = (Int32.ofNat (w.1))) (hv : v = wvI w) (hw : WOK w) (hp : p < 65536) : QK (f_X6_addWord (mg (4562 + zn J) I J R) 540 k v (Int32.ofNat (p))) (fun r => ∃ I', r = mg (4562 + zn J) I' J R ∧ FrK (fun a k => (a = 540 ∧ k = 5) ∨ (541 ≤ a ∧ a ≤ 544)) I I' ∧ CWl I' ((w, p) :: l)) := by
  obtain ⟨h1, h2, h3⟩ := hW
  unfold f_X6_addWord f_X6_addWord_j60
  rw [gi_540, h2, if_neg (show ¬ (300 : Int32) ≤ (Int32.ofNat (l.length)) from fun y => absurd ((i32_le (k := 300) (by omega) (by omega)).mp y) (by omega)), gr_540_1 hR, gi_540, h2, gw_541 hl, gr_540_2 hR, gi_540, up_n (by omega), h2, gw_542 hl, gr_540_3 hR, gi_540, up_n (by omega), up_n (by omega), h2, gw_543 hl, gr_540_4 hR, gi_540, up_n (by omega), up_n (by omega), up_n (by omega), h2, gz_544 hl rfl, gi_540, up_n (by omega), up_n (by omega), up_n (by omega), up_n (by omega), h2, show (Int32.ofNat (l.length)) + 1 = (Int32.ofNat (l.length + 1)) from n_add _ 1, gs_540]
  generalize hI2 : up (up (up (up (up I 541 l.length k) 542 l.length v) 543 l.length (Int32.ofNat (p))) 544 l.length 0) 540 5 (Int32.ofNat (l.length + 1)) = I2
  have f2 : ∀ a j, ¬ (541 ≤ a ∧ a ≤ 544 ∧ j = l.length) → ¬ (a = 540 ∧ j = 5) → I2 a j = I a j := fun a j y1 y2 => by
    rw [← hI2, up_n (by omega), up_n (by omega), up_n (by omega), up_n (by omega), up_n (by omega)]
  refine q_ok ⟨I2, rfl, fun a j y => f2 a j (by omega) (by omega), by rw [List.length_cons]; omega, ?_, fun i hi => ?_⟩
  · rw [← hI2, up_s, List.length_cons]
  · rw [List.length_cons] at hi
    show I2 541 i = (Int32.ofNat ((if i = l.length then w else wF l i).1)) ∧ I2 542 i = wvI (if i = l.length then w else wF l i) ∧ I2 543 i = (Int32.ofNat (if i = l.length then p else pF l i)) ∧ I2 544 i = (if false = true then 1 else 0) ∧ WOK (if i = l.length then w else wF l i) ∧ (if i = l.length then p else pF l i) < 65536
    by_cases z : i = l.length
    · subst z
      rw [if_pos rfl, if_pos rfl, if_neg (show ¬ false = true by decide), ← hI2, up_n (by omega), up_n (by omega), up_n (by omega), up_n (by omega), up_s, up_n (by omega), up_n (by omega), up_n (by omega), up_s, up_n (by omega), up_n (by omega), up_s, up_n (by omega), up_s]
      exact ⟨hk, hv, rfl, rfl, hw, hp⟩
    · rw [if_neg z, if_neg z, f2 541 i (by omega) (by omega), f2 542 i (by omega) (by omega), f2 543 i (by omega) (by omega), f2 544 i (by omega) (by omega)]
      exact h3 i (by omega)
theorem C_digit {x : Nat} {F : Int32 → Option β} (hx : x < 65536) : (f_X6_digit (mg (4562 + zn J) I J R) (Int32.ofNat (x))).bind F = F (Int32.ofNat (dgt x)) := by
  unfold f_X6_digit f_X6_digit_j17 f_X6_digit_j39 f_X6_digit_j41 dgt
  by_cases h1 : x < 48
  · rw [if_pos (show (Int32.ofNat (x)) < (48 : Int32) from (i32_lt (m := 48) (by omega) (by omega)).mpr h1), if_pos (show (Int32.ofNat (x)) < (97 : Int32) from (i32_lt (m := 97) (by omega) (by omega)).mpr (by omega)), if_neg (by omega), if_neg (by omega)]
    rfl
  · rw [if_neg (show ¬ (Int32.ofNat (x)) < (48 : Int32) from fun y => h1 ((i32_lt (m := 48) (by omega) (by omega)).mp y))]
    by_cases h2 : x ≤ 57
    · rw [if_neg (show ¬ (57 : Int32) < (Int32.ofNat (x)) from fun y => absurd ((i32_lt (k := 57) (by omega) (by omega)).mp y) (by omega)), if_pos (by omega), show (Int32.ofNat (x)) - (48 : Int32) = (Int32.ofNat (x - 48)) from n_sub (a := x) (b := 48) (by omega)]
      rfl
    · rw [if_pos (show (57 : Int32) < (Int32.ofNat (x)) from (i32_lt (k := 57) (by omega) (by omega)).mpr (by omega)), if_neg (show ¬ (48 ≤ x ∧ x ≤ 57) by omega)]
      by_cases h3 : x < 97
      · rw [if_pos (show (Int32.ofNat (x)) < (97 : Int32) from (i32_lt (m := 97) (by omega) (by omega)).mpr h3), if_neg (show ¬ (97 ≤ x ∧ x ≤ 102) by omega)]
        rfl
      · rw [if_neg (show ¬ (Int32.ofNat (x)) < (97 : Int32) from fun y => h3 ((i32_lt (m := 97) (by omega) (by omega)).mp y))]
        by_cases h4 : x ≤ 102
        · rw [if_neg (show ¬ (102 : Int32) < (Int32.ofNat (x)) from fun y => absurd ((i32_lt (k := 102) (by omega) (by omega)).mp y) (by omega)), if_pos (by omega), show (Int32.ofNat (x)) - (97 : Int32) = (Int32.ofNat (x - 97)) from n_sub (a := x) (b := 97) (by omega), show (Int32.ofNat (x - 97)) + 10 = (Int32.ofNat (x - 97 + 10)) from n_add _ 10, show x - 97 + 10 = x - 87 by omega]
          rfl
        · rw [if_pos (show (102 : Int32) < (Int32.ofNat (x)) from (i32_lt (k := 102) (by omega) (by omega)).mpr (by omega)), if_neg (by omega)]
          rfl
theorem dg_16 (x : Nat) : dgt x ≤ 16 := by
  unfold dgt
  split
  · omega
  · split <;> omega
end LX
