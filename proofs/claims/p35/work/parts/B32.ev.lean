/-! what a tree is worth: a function, for both sides -/
abbrev Ch : Type := List (Nat × List GV)
abbrev Rs : Type := Nat ⊕ (GV × Nat)
abbrev Rc : Type := (Nat → Nd) → (Nat → Nat) → Nat → Ch → Nat → Nat → Rs
def mgN (b : GB) (x : Nd) : Nat := ((b (x.2.2.1.toNatClampNeg * 16 + sgj (vN x))).2.2).toNatClampNeg
def prmN (f : GF) (l : Nat) : Nat := (f l 0).toNatClampNeg
def casN (f : GF) (l : Nat) : Nat := (f l 1).toNatClampNeg
def cndN (f : GF) (l k : Nat) : Option Nat := if f l (2 + k) = -1 then none else some (f l (2 + k)).toNatClampNeg
def valN (f : GF) (l k : Nat) : Nat := (f l (6 + k)).toNatClampNeg
def lkC (x : Nat) : Ch → Option GV
  | [] => none
  | e :: r => if e.1 = 0 then (if 120 ≤ x then e.2[x - 120]? else none) else if e.1 = x then e.2.head? else lkC x r
def lkN (n : GN) (ch : Ch) (x : Nat) : Option GV := match lkC x ch with
  | some v => some v
  | none => if n.1 (x - 97) = 0 then none else some (n.2 (x - 97))
/-- operands, the last one first -/
def evA (rec : Rc) (nd : Nat → Nd) (sp : Nat → Nat) (i : Nat) (ch : Ch) (d : Nat) : Nat → Nat → Nat ⊕ (List GV × Nat)
  | 0, c => .inr ([], c)
  | k + 1, c => match evA rec nd sp i ch d k c with
    | .inl e => .inl e
    | .inr (vs, c1) => match rec nd sp (kid sp i k) ch c1 d with
      | .inl e => .inl e
      | .inr (v, c2) => .inr (v :: vs, c2)
/-- the first cases: how many hold, and which one did last -/
def evK (rec : Rc) (f : GF) (s : GS) (l : Nat) (ch : Ch) (d : Nat) : Nat → Nat → Nat ⊕ ((Nat × Nat) × Nat)
  | 0, c => .inr ((0, 0), c)
  | k + 1, c => match evK rec f s l ch d k c with
    | .inl e => .inl e
    | .inr (w, c1) => match cndN f l k with
      | none => .inr ((w.1 + 1, k), c1)
      | some t => match rec (s.2.2.1 t) (s.2.2.2 t) 0 ch c1 d with
        | .inl e => .inl e
        | .inr (v, c2) => if v.1 = 0 then .inr (w, c2) else .inr ((w.1 + 1, k), c2)
def evF (rec : Rc) (f : GF) (s : GS) (l : Nat) (vs : List GV) (c d : Nat) : Rs :=
  if prmN f l ≠ vs.length then .inl 5
  else if 12 ≤ d then .inl 8
  else match evK rec f s l [(0, vs.reverse)] (d + 1) (casN f l) c with
    | .inl e => .inl e
    | .inr (w, c1) => if w.1 = 0 then .inl 6 else if w.1 = 1 then rec (s.2.2.1 (valN f l w.2)) (s.2.2.2 (valN f l w.2)) 0 [(0, vs.reverse)] c1 (d + 1) else .inl 7
def evO (m : Nat) (vs : List GV) (c : Nat) : Rs :=
  match (if 11 ≤ m then q1 m (vs.headD (0, 1)) else q2 m (vs.tail.headD (0, 1)) (vs.headD (0, 1))) with
    | .inl e => .inl e
    | .inr v => .inr (v, c)
/-- a node whose operands are there -/
def evG (rec : Rc) (b : GB) (n : GN) (f : GF) (s : GS) (x : Nd) (ch : Ch) (vs : List GV) (c d : Nat) : Rs :=
  if 200 ≤ c then .inl 9
  else if x.1 = 0 then .inr (((vN x : Int), 1), c + 1)
  else if x.1 = 1 then (match lkN n ch (vN x) with
    | none => .inl 4
    | some v => .inr (v, c + 1))
  else if x.1 = 2 then evF rec f s (vN x - 97) vs (c + 1) d
  else if 100 ≤ mgN b x then evF rec f s (mgN b x - 100) vs (c + 1) d
  else evO (mgN b x) vs (c + 1)
def evC (rec : Rc) (nd : Nat → Nd) (sp : Nat → Nat) (i : Nat) (ch : Ch) (c d : Nat) : Rs :=
  if 200 ≤ c then .inl 9
  else if aro nd i ≠ 3 then .inl 5
  else match rec nd sp (kid sp i 0) ch (c + 1) d with
    | .inl e => .inl e
    | .inr (v, c1) => rec nd sp (kid sp i (if v.1 = 0 then 2 else 1)) ch c1 d
def evL (rec : Rc) (nd : Nat → Nd) (sp : Nat → Nat) (i : Nat) (ch : Ch) (nm : Nat) (lo : Int) (d : Nat) : Nat → Nat → Rs
  | 0, c => .inr ((0, 1), c)
  | j + 1, c => match evL rec nd sp i ch nm lo d j c with
    | .inl e => .inl e
    | .inr (t, c1) => match rec nd sp (kid sp i 3) ((nm, [(lo + j, 1)]) :: ch) c1 d with
      | .inl e => .inl e
      | .inr (v, c2) => match q2 0 t v with
        | .inl e => .inl e
        | .inr t' => .inr (t', c2)
def evS (rec : Rc) (nd : Nat → Nd) (sp : Nat → Nat) (i : Nat) (ch : Ch) (c d : Nat) : Rs :=
  if 200 ≤ c then .inl 9
  else if aro nd i ≠ 4 then .inl 5
  else if (nd (kid sp i 0)).1 ≠ 1 then .inl 10
  else match rec nd sp (kid sp i 1) ch (c + 1) d with
    | .inl e => .inl e
    | .inr (lo, c1) => match rec nd sp (kid sp i 2) ch c1 d with
      | .inl e => .inl e
      | .inr (hi, c2) => if lo.2 ≠ 1 ∨ hi.2 ≠ 1 then .inl 2 else if 30 ≤ hi.1 - lo.1 then .inl 3 else evL rec nd sp i ch (vN (nd (kid sp i 0))) lo.1 d (hi.1 - lo.1 + 1).toNat c2
def evN (rec : Rc) (b : GB) (n : GN) (f : GF) (s : GS) (nd : Nat → Nd) (sp : Nat → Nat) (i : Nat) (ch : Ch) (c d : Nat) : Rs :=
  if (nd i).1 = 2 ∧ vN (nd i) = 105 then evC rec nd sp i ch c d
  else if (nd i).1 = 2 ∧ vN (nd i) = 115 then evS rec nd sp i ch c d
  else match evA rec nd sp i ch d (aro nd i) c with
    | .inl e => .inl e
    | .inr (vs, c1) => evG rec b n f s (nd i) ch vs c1 d
def ev (b : GB) (n : GN) (f : GF) (s : GS) : Nat → Rc
  | 0 => fun _ _ _ _ _ _ => .inl 99
  | k + 1 => fun nd sp i ch c d => evN (ev b n f s k) b n f s nd sp i ch c d
theorem ev_c (b : GB) (n : GN) (f : GF) (s : GS) (k : Nat) (nd : Nat → Nd) (sp : Nat → Nat) (i : Nat) (ch : Ch) (c d : Nat) : ev b n f s (k + 1) nd sp i ch c d = evN (ev b n f s k) b n f s nd sp i ch c d := rfl
theorem evA_c (rec : Rc) (nd : Nat → Nd) (sp : Nat → Nat) (i : Nat) (ch : Ch) (d k c : Nat) : evA rec nd sp i ch d (k + 1) c = match evA rec nd sp i ch d k c with
    | .inl e => .inl e
    | .inr (vs, c1) => match rec nd sp (kid sp i k) ch c1 d with
      | .inl e => .inl e
      | .inr (v, c2) => .inr (v :: vs, c2) := rfl
theorem evL_c (rec : Rc) (nd : Nat → Nd) (sp : Nat → Nat) (i : Nat) (ch : Ch) (nm : Nat) (lo : Int) (d j c : Nat) : evL rec nd sp i ch nm lo d (j + 1) c = match evL rec nd sp i ch nm lo d j c with
    | .inl e => .inl e
    | .inr (t, c1) => match rec nd sp (kid sp i 3) ((nm, [(lo + j, 1)]) :: ch) c1 d with
      | .inl e => .inl e
      | .inr (v, c2) => match q2 0 t v with
        | .inl e => .inl e
        | .inr t' => .inr (t', c2) := rfl
theorem mg_i {b : GB} {x : Nd} (H : TbOK b) (hx : NV b x) (h3 : x.1 = 3) : ∃ p fx, p < 16 ∧ fx < 3 ∧ x.2.1 = (Int32.ofNat (sgc p)) ∧ x.2.2.1 = (Int32.ofNat (fx)) ∧ x.2.2.2 = (if fx = 2 then 2 else 1) ∧ (b (fx * 16 + p)).1 ≠ 0 ∧ (b (fx * 16 + p)).2.2 = (Int32.ofNat (mgN b x)) ∧ ((fx = 2 ∧ mgN b x ≤ 10) ∨ (fx ≠ 2 ∧ 11 ≤ mgN b x ∧ mgN b x ≤ 13) ∨ (100 ≤ mgN b x ∧ mgN b x ≤ 125 ∧ mgN b x ≠ 108 ∧ mgN b x ≠ 118)) := by
  rcases hx with y | y | y | ⟨y1, p, fx, y2, y3, y4, y5, y6, y7⟩
  · rw [y.1] at h3; exact absurd h3 (by first | decide | omega)
  · rw [y.1] at h3; exact absurd h3 (by first | decide | omega)
  · rw [y.1] at h3; exact absurd h3 (by first | decide | omega)
  · have sg := (sgc_ok p y2).1
    have z : vN x = sgc p := by
      unfold vN
      rw [y4, i32_nat (by omega)]
    have zf : x.2.2.1.toNatClampNeg = fx := by rw [y5, i32_nat (by omega)]
    have em : mgN b x = ((b (fx * 16 + p)).2.2).toNatClampNeg := by
      unfold mgN
      rw [z, sgj_sgc p y2, zf]
    obtain ⟨-, -, mo⟩ := (H.1 p fx y2 y3).resolve_left y7
    refine ⟨p, fx, y2, y3, y4, y5, y6, y7, ?_⟩
    rw [em]
    rcases mo with ⟨m1, m2, m3, m4⟩ | ⟨-, mf⟩
    · obtain ⟨e1, e2⟩ := clN (m := 125) (Int32.le_trans (by first | decide | omega) m1) m2 (by first | decide | omega)
      refine ⟨e1, Or.inr (Or.inr ⟨?_, e2, ?_, ?_⟩)⟩
      · rw [e1] at m1
        exact (i32_le (k := 100) (by omega) (by omega)).mp m1
      · intro y
        rw [y] at e1
        exact m3 e1
      · intro y
        rw [y] at e1
        exact m4 e1
    · rcases mf with ⟨m0, m1, m2⟩ | ⟨m0, m1, m2⟩
      · obtain ⟨e1, e2⟩ := clN (m := 10) m1 m2 (by first | decide | omega)
        exact ⟨e1, Or.inl ⟨m0, e2⟩⟩
      · obtain ⟨e1, e2⟩ := clN (m := 13) (Int32.le_trans (by first | decide | omega) m1) m2 (by first | decide | omega)
        refine ⟨e1, Or.inr (Or.inl ⟨m0, ?_, e2⟩)⟩
        rw [e1] at m1
        exact (i32_le (k := 11) (by omega) (by omega)).mp m1
/-- results are in lowest terms -/
theorem qfin_Gd {z : Int} {D : Nat} {v : GV} (hD : 0 < D) (h : qfin z D = .inr v) : Gd v := by
  unfold qfin at h
  split at h
  · next ft =>
    have e := Sum.inr.inj h
    rw [← e]
    have g0 : 0 < Nat.gcd z.natAbs D := Nat.gcd_pos_of_pos_right _ hD
    have e1 : (rz z D).natAbs = z.natAbs / Nat.gcd z.natAbs D := by
      unfold rz
      rw [Int.natAbs_mul, Int.natAbs_natCast]
      by_cases y : z = 0
      · rw [y]
        show 0 * _ = 0 / _
        rw [Nat.zero_mul, Nat.zero_div]
      · rw [Int.natAbs_sign_of_ne_zero y, Nat.one_mul]
    refine ⟨by show (rz z D).natAbs < _; rw [e1]; exact ft.1, Nat.div_pos (Nat.le_of_dvd hD (Nat.gcd_dvd_right _ _)) g0, ft.2, ?_⟩
    show Nat.gcd (rz z D).natAbs (D / Nat.gcd z.natAbs D) = 1
    rw [e1]
    exact Nat.gcd_div_gcd_div_gcd_of_pos_right hD
  · cases h
theorem Gd_n {m : Nat} (h : m < 2 ^ 200) : Gd ((m : Int), 1) := ⟨h, (by decide : 0 < 1), (by decide : 1 < 2 ^ 200), Nat.gcd_one_right _⟩
theorem Gd_01 {p : Prop} [Decidable p] : Gd ((if p then 1 else 0 : Int), 1) := by
  split
  · exact Gd_n (m := 1) (by first | decide | omega)
  · exact Gd_n (m := 0) (by first | decide | omega)
theorem Gd_10 {p : Prop} [Decidable p] : Gd ((if p then 0 else 1 : Int), 1) := by
  split
  · exact Gd_n (m := 0) (by first | decide | omega)
  · exact Gd_n (m := 1) (by first | decide | omega)
def QO (r : Nat ⊕ GV) : Prop := match r with
  | .inl e => 1 ≤ e ∧ e ≤ 10
  | .inr v => Gd v
theorem qfin_QO {z : Int} {D : Nat} (hD : 0 < D) : QO (qfin z D) := by
  cases h : qfin z D with
  | inl e =>
    unfold qfin at h
    split at h
    · cases h
    · rw [← Sum.inl.inj h]
      exact ⟨by decide, by decide⟩
  | inr v => exact qfin_Gd hD h
theorem q1_QO {m : Nat} {a : GV} (ha : Gd a) : QO (q1 m a) := by
  unfold q1
  split
  · show Gd (-a.1, a.2)
    exact ⟨by show (-a.1).natAbs < _; rw [Int.natAbs_neg]; exact ha.1, ha.2.1, ha.2.2.1, by show Nat.gcd (-a.1).natAbs _ = 1; rw [Int.natAbs_neg]; exact ha.2.2.2⟩
  · split
    · split
      · exact ⟨by decide, by decide⟩
      · split
        · exact ⟨by decide, by decide⟩
        · exact Gd_n (fct_le _ (by omega))
    · exact Gd_01
theorem q2_QO {m : Nat} {a b : GV} (ha : Gd a) (hb : Gd b) : QO (q2 m a b) := by
  have p : 0 < a.2 * b.2 := Nat.mul_pos ha.2.1 hb.2.1
  unfold q2
  by_cases c0 : m = 0
  · rw [if_pos c0]
    exact qfin_QO p
  rw [if_neg c0]
  by_cases c1 : m = 1
  · rw [if_pos c1]
    exact qfin_QO p
  rw [if_neg c1]
  by_cases c2 : m = 2
  · rw [if_pos c2]
    exact qfin_QO p
  rw [if_neg c2]
  by_cases c3 : m = 3
  · rw [if_pos c3]
    split
    · exact ⟨by decide, by decide⟩
    · next z => exact qfin_QO (Nat.mul_pos ha.2.1 (by omega))
  rw [if_neg c3]
  by_cases c4 : m = 4
  · rw [if_pos c4]
    split
    · exact ⟨by decide, by decide⟩
    · split
      · exact ⟨by decide, by decide⟩
      · next z =>
        refine ⟨?_, (by decide : 0 < 1), (by decide : 1 < 2 ^ 200), Nat.gcd_one_right _⟩
        show (a.1 % b.1).natAbs < _
        have g1 := Int.emod_nonneg a.1 z
        have g2 := Int.emod_lt a.1 z
        have := hb.1
        omega
  rw [if_neg c4]
  by_cases c5 : m = 5
  · rw [if_pos c5]
    split
    · exact ⟨by decide, by decide⟩
    · split
      · exact ⟨by decide, by decide⟩
      · next z0 =>
        split
        · exact ⟨by decide, by decide⟩
        · unfold qpow
          split
          · next pw =>
            have cp : Nat.gcd (a.1 ^ b.1.natAbs).natAbs (a.2 ^ b.1.natAbs) = 1 := cop_pow ha.2.2.2
            have np : (a.1 ^ b.1.natAbs).natAbs = a.1.natAbs ^ b.1.natAbs := natAbs_pow' _ _
            split
            · exact ⟨by show (a.1 ^ b.1.natAbs).natAbs < _; rw [np]; exact pw.1, Nat.pow_pos ha.2.1, pw.2, cp⟩
            · next hneg =>
              have nz : a.1.natAbs ≠ 0 := fun y => z0 ⟨by omega, by omega⟩
              have nz2 : a.1 ^ b.1.natAbs ≠ 0 := fun y => by
                have : a.1.natAbs ^ b.1.natAbs = 0 := by rw [← np, y]; rfl
                have := Nat.pow_pos (n := b.1.natAbs) (show 0 < a.1.natAbs by omega)
                omega
              have nn : ((a.2 : Int) ^ b.1.natAbs * (a.1 ^ b.1.natAbs).sign).natAbs = a.2 ^ b.1.natAbs := by
                rw [Int.natAbs_mul, Int.natAbs_sign_of_ne_zero nz2, Nat.mul_one, Int.natAbs_pow, Int.natAbs_natCast]
              refine ⟨?_, ?_, ?_, ?_⟩
              · show ((a.2 : Int) ^ b.1.natAbs * (a.1 ^ b.1.natAbs).sign).natAbs < _
                rw [nn]
                exact pw.2
              · show 0 < (a.1 ^ b.1.natAbs).natAbs
                omega
              · show (a.1 ^ b.1.natAbs).natAbs < _
                rw [np]
                exact pw.1
              · show Nat.gcd ((a.2 : Int) ^ b.1.natAbs * (a.1 ^ b.1.natAbs).sign).natAbs (a.1 ^ b.1.natAbs).natAbs = 1
                rw [nn, Nat.gcd_comm]
                exact cp
          · exact ⟨by decide, by decide⟩
  rw [if_neg c5]
  by_cases c6 : m = 6
  · rw [if_pos c6]
    exact Gd_01
  rw [if_neg c6]
  by_cases c7 : m = 7
  · rw [if_pos c7]
    exact Gd_01
  rw [if_neg c7]
  by_cases c8 : m = 8
  · rw [if_pos c8]
    exact Gd_01
  rw [if_neg c8]
  by_cases c9 : m = 9
  · rw [if_pos c9]
    exact Gd_10
  · rw [if_neg c9]
    exact Gd_10
