/-! making simpler: the rules, for both sides -/
abbrev Tt : Type := Nat × (Nat → Nd) × (Nat → Nat)
def mz (b : GB) (x : Nd) : Nat := if x.1 = 3 then mgN b x else 999
def mi (m : Nat) : Int32 := if m = 999 then -1 else (Int32.ofNat (m))
def pwN (a : Nat) : Nat → Nat
  | 0 => 1
  | k + 1 => if pwN a k ≤ 999999999 then pwN a k * a else pwN a k
def whRw (m a b : Nat) : Option Nat := if m = 0 then some (a + b) else if m = 1 then (if b ≤ a then some (a - b) else none) else if m = 2 then some (a * b) else if m = 3 then (if b ≠ 0 ∧ a % b = 0 then some (a / b) else none) else if m = 5 then (if b ≤ 64 then some (pwN a b) else none) else none
def capN (o : Option Nat) : Option Nat := match o with
  | none => none
  | some v => if v ≤ 999999999 then some v else none
def whN (m a b : Nat) : Option Nat := capN (whRw m a b)
abbrev isNm (x : Nd) (v : Nat) : Prop := x.1 = 0 ∧ vN x = v
abbrev smP (T : Tt) (p q : Nat) : Prop := T.2.2 p = T.2.2 q ∧ ∀ k, k < T.2.2 p → T.2.1 (p + k) = T.2.1 (q + k)
def tIn (T : Tt) (p q : Nat) : Tt := (T.1 - T.2.2 p + T.2.2 q, rpn T.2.1 p (T.2.2 p) (fun j => T.2.1 (q + j)) (T.2.2 q), rps T.2.2 p (T.2.2 p) (fun j => T.2.2 (q + j)) (T.2.2 q))
def tNum (T : Tt) (p v : Nat) : Tt := (T.1 - T.2.2 p + 1, rpn T.2.1 p (T.2.2 p) (fun _ => ((0 : Int32), (Int32.ofNat (v)), (-1 : Int32), 0)) 1, rps T.2.2 p (T.2.2 p) (fun _ => 1) 1)
def tVal (T : Tt) (p v : Nat) : Tt := (T.1, fun i => if i = p then ((T.2.1 p).1, (Int32.ofNat (v)), (T.2.1 p).2.2) else T.2.1 i, T.2.2)
abbrev alk (b : GB) (T : Tt) (a c : Nat) : Prop := mz b (T.2.1 a) = 2 ∧ mz b (T.2.1 c) = 2 ∧ (T.2.1 (a + 1)).1 = 0 ∧ (T.2.1 (c + 1)).1 = 0 ∧ smP T (a + 2) (c + 2) ∧ vN (T.2.1 (a + 1)) + vN (T.2.1 (c + 1)) ≤ 999999999
def rl2 (b : GB) (T : Tt) (p m a c : Nat) : Option (Nat × Tt) :=
  match (if (T.2.1 a).1 = 0 ∧ (T.2.1 c).1 = 0 then whN m (vN (T.2.1 a)) (vN (T.2.1 c)) else none) with
  | some v => some (1, tNum T p v)
  | none =>
    if m = 0 ∧ isNm (T.2.1 a) 0 then some (2, tIn T p c)
    else if (m = 0 ∨ m = 1) ∧ isNm (T.2.1 c) 0 then some (2, tIn T p a)
    else if m = 2 ∧ isNm (T.2.1 a) 1 then some (3, tIn T p c)
    else if (m = 2 ∨ m = 3 ∨ m = 5) ∧ isNm (T.2.1 c) 1 then some (3, tIn T p a)
    else if m = 2 ∧ (isNm (T.2.1 a) 0 ∨ isNm (T.2.1 c) 0) then some (4, tNum T p 0)
    else if (m = 1 ∨ m = 3) ∧ smP T a c then some (5, tNum T p (if m = 3 then 1 else 0))
    else if m = 0 ∧ alk b T a c then some (7, tIn (tVal T (a + 1) (vN (T.2.1 (a + 1)) + vN (T.2.1 (c + 1)))) p a)
    else none
def rl (b : GB) (T : Tt) (p : Nat) : Option (Nat × Tt) := if mz b (T.2.1 p) = 11 ∧ mz b (T.2.1 (p + 1)) = 11 then some (6, tIn T p (p + 2)) else if mz b (T.2.1 p) ≤ 5 then rl2 b T p (mz b (T.2.1 p)) (p + 1) (kid T.2.2 p 1) else none
/-- a tree that both sides can hold -/
def TtO (b : GB) (T : Tt) : Prop := TrO b T.1 T.2.1 T.2.2
theorem mz_b {b : GB} {x : Nd} (hO : TbOK b) (hn : NV b x) : mz b x = 999 ∨ (x.1 = 3 ∧ mz b x ≤ 125) := by
  unfold mz
  by_cases q : x.1 = 3
  · rw [if_pos q]
    obtain ⟨p, fx, -, -, -, -, -, -, -, p8⟩ := mg_i hO hn q
    exact Or.inr ⟨q, by omega⟩
  · rw [if_neg q]
    exact Or.inl rfl
theorem mi_eq {m k : Nat} (hm : m = 999 ∨ m ≤ 125) (hk : k < 200) : mi m = (Int32.ofNat (k)) ↔ m = k := by
  unfold mi
  rcases hm with h | h
  · rw [if_pos h]
    constructor
    · intro y
      exact absurd y.symm (i32_m1 (by omega))
    · intro y
      omega
  · rw [if_neg (by omega)]
    exact i32_eq (by omega) (by omega)
theorem mi_s {m : Nat} (h : m ≤ 125) : mi m = (Int32.ofNat (m)) := if_neg (by omega)
theorem mz_two {b : GB} {x : Nd} (hO : TbOK b) (hn : NV b x) (h : mz b x ≤ 10) : x.1 = 3 ∧ x.2.2.2 = 2 := by
  unfold mz at h
  by_cases q : x.1 = 3
  · rw [if_pos q] at h
    obtain ⟨p, fx, -, -, -, -, p5, -, -, p8⟩ := mg_i hO hn q
    refine ⟨q, ?_⟩
    rw [p5, if_pos (by omega)]
  · rw [if_neg q] at h
    omega
theorem mz_one {b : GB} {x : Nd} (hO : TbOK b) (hn : NV b x) (h : 11 ≤ mz b x) (h' : mz b x ≤ 13) : x.1 = 3 ∧ x.2.2.2 = 1 := by
  unfold mz at h h'
  by_cases q : x.1 = 3
  · rw [if_pos q] at h h'
    obtain ⟨p, fx, -, -, -, -, p5, -, -, p8⟩ := mg_i hO hn q
    refine ⟨q, ?_⟩
    rw [p5, if_neg (by omega)]
  · rw [if_neg q] at h'
    omega
theorem pwN_le (a : Nat) (ha : a ≤ 999999999) : ∀ k, pwN a k ≤ 999999999 * 999999999 := by
  intro k
  induction k with
  | zero => show 1 ≤ _; decide
  | succ k ih =>
    show (if pwN a k ≤ 999999999 then pwN a k * a else pwN a k) ≤ _
    split
    · next h => exact Nat.mul_le_mul h ha
    · exact ih
theorem pwN_st (a : Nat) {k : Nat} (h : 999999999 < pwN a k) : ∀ j, pwN a (k + j) = pwN a k := by
  intro j
  induction j with
  | zero => rfl
  | succ j ih =>
    show (if pwN a (k + j) ≤ 999999999 then pwN a (k + j) * a else pwN a (k + j)) = _
    rw [ih, if_neg (by omega)]
theorem capN_le {o : Option Nat} {v : Nat} (h : capN o = some v) : v ≤ 999999999 := by
  unfold capN at h
  cases o with
  | none => cases h
  | some w =>
    dsimp only at h
    split at h
    · next q => rw [← Option.some.inj h]; exact q
    · cases h
section RL
variable {b : GB} {T : Tt} {p q v : Nat}
theorem rpn_sat {P : Nd → Prop} {nd nd' : Nat → Nd} {n s m : Nat} (h : ∀ i, i < n → P (nd i)) (h' : ∀ j, j < m → P (nd' j)) (hps : p + s ≤ n) : ∀ i, i < n - s + m → P (rpn nd p s nd' m i) := by
  intro i hi
  unfold rpn
  split
  · exact h i (by omega)
  · split
    · exact h' (i - p) (by omega)
    · exact h (i - m + s) (by omega)
theorem tIn_O (hT : TtO b T) (h80 : T.1 ≤ 80) (hp : p < T.1) (h1 : p < q) (h2 : q < p + T.2.2 p) : TtO b (tIn T p q) ∧ (tIn T p q).1 < T.1 := by
  have sp := hT.1.2.2.2 p hp
  have qn : q < T.1 := by omega
  have sq := hT.1.2.2.2 q qn
  have inn := lam' hT.1 hp h1 h2
  have ws := WT_sub hT.1 qn
  refine ⟨⟨?_, ?_⟩, ?_⟩
  · have := WT_rep hT.1 hp ws (by omega)
    show WT _ (aro (rpn T.2.1 p (T.2.2 p) (fun j => T.2.1 (q + j)) (T.2.2 q))) _
    rw [aro_rpn]
    exact this
  · exact rpn_sat hT.2 (fun j hj => hT.2 _ (by omega)) (by omega)
  · show T.1 - T.2.2 p + T.2.2 q < T.1
    omega
theorem tNum_O (hT : TtO b T) (h80 : T.1 ≤ 80) (hp : p < T.1) (hs : 2 ≤ T.2.2 p) (hv : v ≤ 999999999) : TtO b (tNum T p v) ∧ (tNum T p v).1 < T.1 := by
  have sp := hT.1.2.2.2 p hp
  refine ⟨⟨?_, ?_⟩, ?_⟩
  · have := WT_rep hT.1 hp WT_leaf (by omega)
    show WT _ (aro (rpn T.2.1 p (T.2.2 p) (fun _ => ((0 : Int32), (Int32.ofNat (v)), (-1 : Int32), 0)) 1)) _
    rw [aro_rpn]
    exact this
  · exact rpn_sat hT.2 (fun j hj => Or.inl ⟨rfl, ⟨v, hv, rfl⟩, rfl, rfl⟩) (by omega)
  · show T.1 - T.2.2 p + 1 < T.1
    omega
theorem tVal_O (hT : TtO b T) (hp : p < T.1) (h0 : (T.2.1 p).1 = 0) (hv : v ≤ 999999999) : TtO b (tVal T p v) := by
  refine ⟨?_, ?_⟩
  · refine WT_congr hT.1 (fun i hi => ?_)
    show (T.2.1 i).2.2.2 = (if i = p then ((T.2.1 p).1, (Int32.ofNat (v)), (T.2.1 p).2.2) else T.2.1 i).2.2.2
    split
    · next h => rw [h]
    · rfl
  · intro i hi
    show NV b (if i = p then ((T.2.1 p).1, (Int32.ofNat (v)), (T.2.1 p).2.2) else T.2.1 i)
    split
    · rcases hT.2 p hp with y | y | y | y
      · exact Or.inl ⟨y.1, ⟨v, hv, rfl⟩, y.2.2⟩
      · rw [y.1] at h0; exact absurd h0 (by first | decide | omega)
      · rw [y.1] at h0; exact absurd h0 (by first | decide | omega)
      · rw [y.1] at h0; exact absurd h0 (by first | decide | omega)
    · exact hT.2 i hi
/-- a node with two operands -/
theorem two_kids (hT : TtO b T) (hp : p < T.1) (h2 : aro T.2.1 p = 2) : kid T.2.2 p 0 = p + 1 ∧ p + 1 < T.1 ∧ kid T.2.2 p 1 < T.1 ∧ p + 1 < p + T.2.2 p ∧ p < kid T.2.2 p 1 ∧ kid T.2.2 p 1 < p + T.2.2 p ∧ 3 ≤ T.2.2 p ∧ kid T.2.2 p 1 + T.2.2 (kid T.2.2 p 1) = p + T.2.2 p := by
  obtain ⟨a1, a2, a3⟩ := kid_in hT.1 hp (show 0 < aro T.2.1 p by omega)
  obtain ⟨b1, b2, b3⟩ := kid_in hT.1 hp (show 1 < aro T.2.1 p by omega)
  have e0 : kid T.2.2 p 0 = p + 1 := rfl
  have e1 : kid T.2.2 p 1 = p + 1 + T.2.2 (p + 1) := rfl
  have k2 := (hT.1.2.2.2 p hp).2.2.1
  rw [h2] at k2
  have k2 : kid T.2.2 p 1 + T.2.2 (kid T.2.2 p 1) = p + T.2.2 p := k2
  have s1 := (hT.1.2.2.2 _ a2).1
  have s2 := (hT.1.2.2.2 _ b2).1
  rw [e0] at a2 s1
  exact ⟨e0, a2, b2, by omega, by omega, by omega, by omega, k2⟩
theorem alk_kids (hT : TtO b T) (hO : TbOK b) {a : Nat} (ha : a < T.1) (hm : mz b (T.2.1 a) = 2) (h0 : (T.2.1 (a + 1)).1 = 0) : aro T.2.1 a = 2 ∧ a + 1 < T.1 ∧ T.2.2 (a + 1) = 1 ∧ kid T.2.2 a 1 = a + 2 ∧ a + 2 < T.1 := by
  have h2 : aro T.2.1 a = 2 := (mz_two hO (hT.2 a ha) (by omega)).2
  obtain ⟨e0, a1, b1, -, -, -, -, -⟩ := two_kids hT ha h2
  have s1 : T.2.2 (a + 1) = 1 := by
    have k := (hT.1.2.2.2 (a + 1) a1).2.2.1
    have a0 : aro T.2.1 (a + 1) = 0 := by
      rcases hT.2 (a + 1) a1 with y | y | y | y
      · exact y.2.2.2
      · exact y.2.2.2
      · rw [y.1] at h0; exact absurd h0 (by first | decide | omega)
      · rw [y.1] at h0; exact absurd h0 (by first | decide | omega)
    rw [a0] at k
    have k : a + 1 + 1 = a + 1 + T.2.2 (a + 1) := k
    omega
  have e1 : kid T.2.2 a 1 = a + 1 + T.2.2 (a + 1) := rfl
  exact ⟨h2, a1, s1, by omega, by omega⟩
theorem rl2_O {m r : Nat} {T' : Tt} (hT : TtO b T) (hO : TbOK b) (h80 : T.1 ≤ 80) (hp : p < T.1) (h2 : aro T.2.1 p = 2) (h : rl2 b T p m (p + 1) (kid T.2.2 p 1) = some (r, T')) : TtO b T' ∧ T'.1 < T.1 ∧ 1 ≤ r ∧ r ≤ 7 := by
  obtain ⟨e0, a1, b1, c1, c2, c3, c4, c5⟩ := two_kids hT hp h2
  unfold rl2 at h
  generalize eo : (if (T.2.1 (p + 1)).1 = 0 ∧ (T.2.1 (kid T.2.2 p 1)).1 = 0 then whN m (vN (T.2.1 (p + 1))) (vN (T.2.1 (kid T.2.2 p 1))) else none) = o at h
  cases o with
  | some v =>
    have hv : v ≤ 999999999 := by
      by_cases q : (T.2.1 (p + 1)).1 = 0 ∧ (T.2.1 (kid T.2.2 p 1)).1 = 0
      · rw [if_pos q] at eo
        exact capN_le eo
      · rw [if_neg q] at eo
        cases eo
    have h := Prod.mk.inj (Option.some.inj h)
    rw [← h.1, ← h.2]
    obtain ⟨g1, g2⟩ := tNum_O (v := v) hT h80 hp (by omega) hv
    exact ⟨g1, g2, by decide, by decide⟩
  | none =>
    dsimp only at h
    have tin : ∀ (q r0 : Nat), p < q → q < p + T.2.2 p → 1 ≤ r0 → r0 ≤ 7 → some (r0, tIn T p q) = some (r, T') → TtO b T' ∧ T'.1 < T.1 ∧ 1 ≤ r ∧ r ≤ 7 := fun q r0 g1 g2 g3 g4 e => by
      have e := Prod.mk.inj (Option.some.inj e)
      rw [← e.1, ← e.2]
      obtain ⟨g5, g6⟩ := tIn_O hT h80 hp g1 g2
      exact ⟨g5, g6, g3, g4⟩
    have tnu : ∀ (v r0 : Nat), v ≤ 999999999 → 1 ≤ r0 → r0 ≤ 7 → some (r0, tNum T p v) = some (r, T') → TtO b T' ∧ T'.1 < T.1 ∧ 1 ≤ r ∧ r ≤ 7 := fun v r0 g1 g3 g4 e => by
      have e := Prod.mk.inj (Option.some.inj e)
      rw [← e.1, ← e.2]
      obtain ⟨g5, g6⟩ := tNum_O (v := v) hT h80 hp (by omega) g1
      exact ⟨g5, g6, g3, g4⟩
    split at h
    · exact tin _ 2 c2 c3 (by first | decide | omega) (by first | decide | omega) h
    split at h
    · exact tin _ 2 (by omega) c1 (by first | decide | omega) (by first | decide | omega) h
    split at h
    · exact tin _ 3 c2 c3 (by first | decide | omega) (by first | decide | omega) h
    split at h
    · exact tin _ 3 (by omega) c1 (by first | decide | omega) (by first | decide | omega) h
    split at h
    · exact tnu _ 4 (by first | decide | omega) (by first | decide | omega) (by first | decide | omega) h
    split at h
    · exact tnu _ 5 (by split <;> decide) (by first | decide | omega) (by first | decide | omega) h
    split at h
    · next y =>
      obtain ⟨-, y1, y2, y3, y4, y5, y6⟩ := y
      obtain ⟨-, k1, -, -, -⟩ := alk_kids hT hO a1 y1 y3
      have hT2 := tVal_O hT k1 y3 y6
      have e := Prod.mk.inj (Option.some.inj h)
      rw [← e.1, ← e.2]
      obtain ⟨g5, g6⟩ := tIn_O (q := p + 1) hT2 h80 hp (by omega) c1
      exact ⟨g5, g6, by decide, by decide⟩
    · cases h
theorem rl_O {r : Nat} {T' : Tt} (hT : TtO b T) (hO : TbOK b) (h80 : T.1 ≤ 80) (hp : p < T.1) (h : rl b T p = some (r, T')) : TtO b T' ∧ T'.1 < T.1 ∧ 1 ≤ r ∧ r ≤ 7 := by
  unfold rl at h
  split at h
  · next y =>
    have h1 : aro T.2.1 p = 1 := (mz_one hO (hT.2 p hp) (by omega) (by omega)).2
    obtain ⟨a1, a2, a3⟩ := kid_in hT.1 hp (show 0 < aro T.2.1 p by omega)
    have a2 : p + 1 < T.1 := a2
    have h2 : aro T.2.1 (p + 1) = 1 := (mz_one hO (hT.2 _ a2) (by omega) (by omega)).2
    obtain ⟨b1, b2, b3⟩ := kid_in hT.1 a2 (show 0 < aro T.2.1 (p + 1) by omega)
    have b2 : p + 2 < T.1 := b2
    have k1 := (hT.1.2.2.2 p hp).2.2.1
    rw [h1] at k1
    have k1 : p + 1 + T.2.2 (p + 1) = p + T.2.2 p := k1
    have k2 := (hT.1.2.2.2 _ a2).2.2.1
    rw [h2] at k2
    have k2 : p + 1 + 1 + T.2.2 (p + 1 + 1) = p + 1 + T.2.2 (p + 1) := k2
    have s2 := (hT.1.2.2.2 (p + 1 + 1) b2).1
    have e := Prod.mk.inj (Option.some.inj h)
    rw [← e.1, ← e.2]
    obtain ⟨g5, g6⟩ := tIn_O (q := p + 2) hT h80 hp (by omega) (by omega)
    exact ⟨g5, g6, by decide, by decide⟩
  · split at h
    · next y => exact rl2_O hT hO h80 hp (mz_two hO (hT.2 p hp) (by omega)).2 h
    · cases h
end RL
