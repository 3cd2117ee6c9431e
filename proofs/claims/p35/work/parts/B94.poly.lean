/-! polynomials, for both sides -/
theorem rat_rz {z : Int} {D : Nat} (hD : 0 < D) : (mkRat z D).num = rz z D ∧ (mkRat z D).den = rd z D := by
  have q0 : (mkRat z D).den ≠ 0 := (mkRat z D).den_nz
  have e := (Rat.mkRat_eq_iff (n₁ := (mkRat z D).num) (n₂ := z) q0 (by omega : D ≠ 0)).mp (Rat.mkRat_self _)
  obtain ⟨a1, a2, -⟩ := rz_cop1 (z := (mkRat z D).num) (D := (mkRat z D).den) (mkRat z D).reduced
  obtain ⟨b1, b2⟩ := rz_eqv (by omega : 0 < (mkRat z D).den) hD e
  exact ⟨a1.symm.trans b1, a2.symm.trans b2⟩
abbrev Fit (q : Rat) : Prop := q.num.natAbs < 2 ^ 200 ∧ q.den < 2 ^ 200
def gv (q : Rat) : GV := (q.num, q.den)
def qf (q : Rat) : Nat ⊕ GV := if Fit q then .inr (gv q) else .inl 3
theorem qfin_qf {z : Int} {D : Nat} (hD : 0 < D) : qfin z D = qf (mkRat z D) := by
  obtain ⟨a1, a2⟩ := rat_rz (z := z) hD
  rw [qfin_rz]
  unfold qf Fit gv
  rw [a1, a2]
theorem gv_Gd {q : Rat} (h : Fit q) : Gd (gv q) := ⟨h.1, Nat.pos_of_ne_zero q.den_nz, h.2, q.reduced⟩
theorem gv_rat (q : Rat) : mkRat (gv q).1 (gv q).2 = q := Rat.mkRat_self q
theorem Gd_gv {v : GV} (h : Gd v) : gv (mkRat v.1 v.2) = v ∧ Fit (mkRat v.1 v.2) := by
  obtain ⟨a1, a2⟩ := rat_rz (z := v.1) h.2.1
  obtain ⟨b1, b2, -⟩ := rz_cop1 h.2.2.2
  have c1 := a1.trans b1
  have c2 := a2.trans b2
  exact ⟨Prod.ext c1 c2, by unfold Fit; rw [c1, c2]; exact ⟨h.1, h.2.2.1⟩⟩
theorem gv_0 {q : Rat} : (gv q).1 = 0 ↔ q = 0 := by
  constructor
  · intro h
    rw [← gv_rat q, h]
    exact Rat.zero_mkRat _
  · intro h
    rw [h]
    rfl
