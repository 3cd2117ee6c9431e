/-! slopes, for both sides -/
theorem rz_cross (z : Int) {D : Nat} (hD : 0 < D) : rz z D * D = z * rd z D := by
  have g0 : 0 < Nat.gcd z.natAbs D := Nat.gcd_pos_of_pos_right _ hD
  obtain ⟨u, hu⟩ := Nat.gcd_dvd_left z.natAbs D
  obtain ⟨w, hw⟩ := Nat.gcd_dvd_right z.natAbs D
  unfold rz rd
  generalize Nat.gcd z.natAbs D = g at *
  have e1 : z.natAbs / g = u := by rw [hu]; exact Nat.mul_div_cancel_left u g0
  have e2 : D / g = w := by
    have : g * w / g = w := Nat.mul_div_cancel_left w g0
    rw [← hw] at this
    exact this
  rw [e1, e2]
  have ez : z = z.sign * ((g : Int) * (u : Int)) := by
    rw [← Int.natCast_mul, ← hu]
    exact (Int.sign_mul_natAbs z).symm
  have eD : (D : Int) = (g : Int) * (w : Int) := by rw [← Int.natCast_mul, ← hw]
  rw [eD]
  conv => rhs; rw [ez]
  ac_rfl
theorem cop_inj {z w : Int} {d e : Nat} (hd : 0 < d) (hz : Nat.gcd z.natAbs d = 1) (hw : Nat.gcd w.natAbs e = 1) (q : z * e = w * d) : z = w ∧ d = e := by
  have q2 : z.natAbs * e = w.natAbs * d := by
    have := congrArg Int.natAbs q
    rw [Int.natAbs_mul, Int.natAbs_mul, Int.natAbs_natCast, Int.natAbs_natCast] at this
    exact this
  have d1 : d ∣ e := (Nat.Coprime.dvd_of_dvd_mul_left (Nat.Coprime.symm hz) ⟨w.natAbs, by rw [q2, Nat.mul_comm]⟩)
  have d2 : e ∣ d := (Nat.Coprime.dvd_of_dvd_mul_left (Nat.Coprime.symm hw) ⟨z.natAbs, by rw [← q2, Nat.mul_comm]⟩)
  have de : d = e := Nat.dvd_antisymm d1 d2
  subst de
  exact ⟨Int.eq_of_mul_eq_mul_right (by omega) q, rfl⟩
theorem rz_eqv {z z' : Int} {D D' : Nat} (hD : 0 < D) (hD' : 0 < D') (h : z * D' = z' * D) : rz z D = rz z' D' ∧ rd z D = rd z' D' := by
  have c1 := rz_cross z hD
  have c2 := rz_cross z' hD'
  refine cop_inj (rd_pos hD) (rz_cop hD) (rz_cop hD') ?_
  have p : (0 : Int) < (D : Int) * (D' : Int) := Int.mul_pos (by omega) (by omega)
  refine Int.eq_of_mul_eq_mul_right (a := (D : Int) * (D' : Int)) (by omega) ?_
  calc rz z D * (rd z' D' : Int) * ((D : Int) * (D' : Int)) = (rz z D * D) * ((rd z' D' : Int) * D') := by ac_rfl
    _ = (z * D') * ((rd z D : Int) * (rd z' D' : Int)) := by rw [c1]; ac_rfl
    _ = (z' * (rd z' D' : Int)) * ((rd z D : Int) * D) := by rw [h]; ac_rfl
    _ = rz z' D' * (rd z D : Int) * ((D : Int) * (D' : Int)) := by rw [← c2]; ac_rfl
theorem qfin_rz (z : Int) (D : Nat) : qfin z D = if (rz z D).natAbs < 2 ^ 200 ∧ rd z D < 2 ^ 200 then .inr (rz z D, rd z D) else .inl 3 := by
  unfold qfin
  rw [rz_abs]
  rfl
/-- the part of e beneath two values with their parts -/
def slP (m : Nat) (v p w r : GV) : Nat ⊕ GV :=
  if m = 0 then qfin (p.1 * r.2 + 1 * r.1 * p.2) (p.2 * r.2)
  else if m = 1 then qfin (p.1 * r.2 + -1 * r.1 * p.2) (p.2 * r.2)
  else if m = 2 then qfin (p.1 * w.1 * (v.2 * r.2 : Nat) + v.1 * r.1 * (p.2 * w.2 : Nat)) (p.2 * w.2 * (v.2 * r.2))
  else if m = 3 then qfin ((p.1 * w.1 * (v.2 * r.2 : Nat) - v.1 * r.1 * (p.2 * w.2 : Nat)) * (w.2 * w.2 : Nat)) (p.2 * w.2 * (v.2 * r.2) * (w.1.natAbs * w.1.natAbs))
  else if w.1 = 0 then .inr (0, 1) else qfin (v.1 ^ (w.1.natAbs - 1) * w.1 * p.1) (v.2 ^ (w.1.natAbs - 1) * p.2)
def slT (m : Nat) (a c : GV × GV) : Nat ⊕ (GV × GV) := match q2 m a.1 c.1 with
  | .inl e => .inl e
  | .inr x => match slP m a.1 a.2 c.1 c.2 with
    | .inl e => .inl e
    | .inr y => .inr (x, y)
def slN (b : GB) (n : GN) (nm : Nat) (T : Tt) (D : Nat → Nat ⊕ (GV × GV)) (i : Nat) : Nat ⊕ (GV × GV) :=
  if (T.2.1 i).1 = 0 then .inr (((vN (T.2.1 i) : Int), 1), (0, 1))
  else if (T.2.1 i).1 = 1 then (if n.1 (vN (T.2.1 i) - 97) = 0 then .inl 4 else .inr (n.2 (vN (T.2.1 i) - 97), ((if vN (T.2.1 i) = nm then 1 else 0 : Int), 1)))
  else if mz b (T.2.1 i) = 11 then match D (i + 1) with
    | .inl e => .inl e
    | .inr (v, p) => .inr ((-v.1, v.2), (-p.1, p.2))
  else match D (i + 1) with
    | .inl e => .inl e
    | .inr a => match D (kid T.2.2 i 1) with
      | .inl e => .inl e
      | .inr c => slT (mz b (T.2.1 i)) a c
def slF (b : GB) (n : GN) (nm : Nat) (T : Tt) : Nat → Nat → Nat ⊕ (GV × GV)
  | 0, _ => .inl 9
  | F + 1, i => slN b n nm T (slF b n nm T F) i
/-- both are values that fit; a number's value is a number -/
def SlO (b : GB) (T : Tt) (i : Nat) (o : Nat ⊕ (GV × GV)) : Prop := match o with
  | .inl e => 0 < e ∧ e ≤ 10
  | .inr (v, p) => Gd v ∧ Gd p ∧ ((T.2.1 i).1 = 0 → v = ((vN (T.2.1 i) : Int), 1))
theorem qfin_two {z : Int} {D : Nat} (hD : 0 < D) : (∃ v, qfin z D = .inr v ∧ Gd v) ∨ qfin z D = .inl 3 := by
  by_cases h : Fits z D
  · exact Or.inl ⟨_, qfin_r h, qfin_Gd hD (qfin_r h)⟩
  · exact Or.inr (qfin_l h)
theorem slP_two {m : Nat} {v p w r : GV} (hv : Gd v) (hp : Gd p) (hw : Gd w) (hr : Gd r) (h3 : m = 3 → w.1 ≠ 0) : (∃ y, slP m v p w r = .inr y ∧ Gd y) ∨ slP m v p w r = .inl 3 := by
  have v0 := hv.2.1
  have p0 := hp.2.1
  have w0 := hw.2.1
  have r0 := hr.2.1
  unfold slP
  by_cases q0 : m = 0
  · rw [if_pos q0]
    exact qfin_two (Nat.mul_pos p0 r0)
  rw [if_neg q0]
  by_cases q1 : m = 1
  · rw [if_pos q1]
    exact qfin_two (Nat.mul_pos p0 r0)
  rw [if_neg q1]
  by_cases q2 : m = 2
  · rw [if_pos q2]
    exact qfin_two (Nat.mul_pos (Nat.mul_pos p0 w0) (Nat.mul_pos v0 r0))
  rw [if_neg q2]
  by_cases q3 : m = 3
  · rw [if_pos q3]
    have := h3 q3
    have : 0 < w.1.natAbs := by omega
    exact qfin_two (Nat.mul_pos (Nat.mul_pos (Nat.mul_pos p0 w0) (Nat.mul_pos v0 r0)) (Nat.mul_pos this this))
  rw [if_neg q3]
  by_cases q4 : w.1 = 0
  · rw [if_pos q4]
    exact Or.inl ⟨_, rfl, Gd_n (m := 0) (by first | decide | omega)⟩
  · rw [if_neg q4]
    exact qfin_two (Nat.mul_pos (Nat.pow_pos v0) p0)
theorem q2_div {v w x : GV} (h : q2 3 v w = .inr x) : w.1 ≠ 0 := by
  intro z
  have : q2 3 v w = .inl 1 := by
    show (if w.1 = 0 then (.inl 1 : Nat ⊕ GV) else _) = _
    rw [if_pos z]
  rw [this] at h
  cases h
theorem neg_Gd {v : GV} (h : Gd v) : Gd (-v.1, v.2) := ⟨by show (-v.1).natAbs < _; rw [Int.natAbs_neg]; exact h.1, h.2.1, h.2.2.1, by show Nat.gcd (-v.1).natAbs _ = 1; rw [Int.natAbs_neg]; exact h.2.2.2⟩
theorem slF_O {b : GB} {n : GN} {nm : Nat} {T : Tt} (hO : TbOK b) (hT : TtO b T) (ht : ∀ i, i < T.1 → told b T i) (hg : ∀ l, l < 26 → Gd (n.2 l)) : ∀ F i, i < T.1 → SlO b T i (slF b n nm T F i) := by
  intro F
  induction F with
  | zero => intro i _; exact ⟨by decide, by decide⟩
  | succ F ih =>
    intro i hi
    have nv := hT.2 i hi
    obtain ⟨v1, v2, v3, v4, -⟩ := NV_v nv
    show SlO b T i (slN b n nm T (slF b n nm T F) i)
    unfold slN
    by_cases q0 : (T.2.1 i).1 = 0
    · rw [if_pos q0]
      exact ⟨Gd_n (Nat.lt_of_le_of_lt v2 (by first | decide | omega)), Gd_n (m := 0) (by first | decide | omega), fun _ => rfl⟩
    rw [if_neg q0]
    by_cases q1 : (T.2.1 i).1 = 1
    · rw [if_pos q1]
      obtain ⟨l, l1, l2⟩ : ∃ l, l < 26 ∧ vN (T.2.1 i) = 97 + l := by
        rcases nv with y | y | y | y
        · exact absurd y.1 q0
        · obtain ⟨-, ⟨l, l1, l2⟩, -⟩ := y
          have := v3 q0
          exact ⟨l, l1, (i32_eq (by omega) (by omega)).mp (v1.symm.trans l2)⟩
        · exact absurd (q1.symm.trans y.1) (by first | decide | omega)
        · exact absurd (q1.symm.trans y.1) (by first | decide | omega)
      rw [l2, Nat.add_sub_cancel_left]
      by_cases z : n.1 l = 0
      · rw [if_pos z]
        exact ⟨by decide, by decide⟩
      · rw [if_neg z]
        exact ⟨hg l l1, Gd_01, fun y => absurd y q0⟩
    rw [if_neg q1]
    have one : mz b (T.2.1 i) = 11 ∨ mz b (T.2.1 i) ≤ 10 := by
      rcases ht i hi with y | y | y | y | y
      · exact absurd y q0
      · exact absurd y q1
      · exact Or.inl y
      · exact Or.inr (by omega)
      · exact Or.inr (by omega)
    obtain ⟨z1, z2⟩ := mz_ar hO nv (fun y => y.elim q0 q1) one
    by_cases q11 : mz b (T.2.1 i) = 11
    · rw [if_pos q11]
      have h1 : aro T.2.1 i = 1 := z1 q11
      obtain ⟨a1, a2, a3⟩ := kid_sp hT.1 hi (show 0 < aro T.2.1 i by omega)
      have g := ih (i + 1) a1
      cases e : slF b n nm T F (i + 1) with
      | inl e1 => rw [e] at g; exact g
      | inr r =>
        rw [e] at g
        obtain ⟨v, p⟩ := r
        exact ⟨neg_Gd g.1, neg_Gd g.2.1, fun y => absurd y q0⟩
    rw [if_neg q11]
    have h2 : aro T.2.1 i = 2 := z2 (by omega)
    obtain ⟨f0, a1, c1, c2, c3, c4, c5, c6⟩ := two_kids hT hi h2
    have g := ih (i + 1) a1
    cases e : slF b n nm T F (i + 1) with
    | inl e1 => rw [e] at g; exact g
    | inr r =>
      rw [e] at g
      obtain ⟨v, p⟩ := r
      have g2 := ih _ c1
      dsimp only
      cases e2 : slF b n nm T F (kid T.2.2 i 1) with
      | inl e1 => rw [e2] at g2; exact g2
      | inr r2 =>
        rw [e2] at g2
        obtain ⟨w, r⟩ := r2
        have qo := q2_QO (m := mz b (T.2.1 i)) g.1 g2.1
        dsimp only
        unfold slT
        dsimp only
        cases e3 : q2 (mz b (T.2.1 i)) v w with
        | inl e4 => rw [e3] at qo; exact qo
        | inr x =>
          rw [e3] at qo
          dsimp only
          rcases slP_two (m := mz b (T.2.1 i)) g.1 g.2.1 g2.1 g2.2.1 (fun y => by rw [y] at e3; exact q2_div e3) with ⟨y, ey, gy⟩ | ey
          · rw [ey]
            exact ⟨qo, gy, fun z => absurd z q0⟩
          · rw [ey]
            exact ⟨by decide, by decide⟩
