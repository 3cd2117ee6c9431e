/-! equations: the class's side -/
def dvS (u w : Rat) : Rat := mkRat (u.num * w.den * w.num.sign) (u.den * w.num.natAbs)
theorem eq_cross {x y : Rat} : x.num * y.den + -1 * (y.num * x.den) = 0 ↔ x = y := by
  constructor
  · intro h
    have e := (Rat.mkRat_eq_iff (n₁ := x.num) (n₂ := y.num) x.den_nz y.den_nz).mpr (by omega)
    rw [Rat.mkRat_self, Rat.mkRat_self] at e
    exact e
  · rintro rfl
    omega
theorem sgn_abs (z : Int) : ((z.natAbs : Nat) : Int) = z * z.sign := by
  rcases Int.lt_trichotomy z 0 with h | h | h
  · rw [Int.sign_eq_neg_one_of_neg h]
    omega
  · rw [h]
    rfl
  · rw [Int.sign_eq_one_of_pos h]
    omega
theorem dvS_mk {u w : Rat} {N0 N1 : Int} {D0 D1 : Nat} (h0 : 0 < D0) (h1 : 0 < D1) (hu : mkRat N0 D0 = u) (hw : mkRat N1 D1 = w) (n1 : N1 ≠ 0) : w.num ≠ 0 ∧ mkRat (N0 * D1 * ((D0 : Int) * N1).sign) ((D0 : Int) * N1).natAbs = dvS u w := by
  have q0 : u.den ≠ 0 := u.den_nz
  have q1 : w.den ≠ 0 := w.den_nz
  have e0 := (Rat.mkRat_eq_iff (n₁ := u.num) (n₂ := N0) q0 (by omega : D0 ≠ 0)).mp (by rw [Rat.mkRat_self]; exact hu.symm)
  have e1 := (Rat.mkRat_eq_iff (n₁ := w.num) (n₂ := N1) q1 (by omega : D1 ≠ 0)).mp (by rw [Rat.mkRat_self]; exact hw.symm)
  have w0 : w.num ≠ 0 := fun z => by
    rw [z, Int.zero_mul] at e1
    exact absurd e1.symm (Int.mul_ne_zero n1 (by omega))
  have pd : (0 : Int) < (D0 : Int) := by omega
  have s1 : w.num.sign = N1.sign := by
    have h := congrArg Int.sign e1
    rw [Int.sign_mul, Int.sign_mul, Int.sign_eq_one_of_pos (show (0 : Int) < (D1 : Int) by omega), Int.sign_eq_one_of_pos (show (0 : Int) < (w.den : Int) by omega), Int.mul_one, Int.mul_one] at h
    exact h
  refine ⟨w0, ?_⟩
  unfold dvS
  rw [Int.sign_mul, Int.sign_eq_one_of_pos pd, Int.one_mul, Int.natAbs_mul, Int.natAbs_natCast, s1]
  refine (Rat.mkRat_eq_iff (Nat.mul_ne_zero (by omega) (by omega)) (Nat.mul_ne_zero q0 (by omega))).mpr ?_
  rw [Int.natCast_mul, Int.natCast_mul]
  have a1 : ((w.num.natAbs : Nat) : Int) = w.num * N1.sign := by
    rw [← s1]
    exact sgn_abs _
  have a2 : ((N1.natAbs : Nat) : Int) = N1 * N1.sign := sgn_abs _
  rw [a1, a2]
  generalize N1.sign = g
  generalize (w.den : Int) = wd at *
  generalize (D1 : Int) = d1 at *
  generalize (D0 : Int) = d0 at *
  generalize (u.den : Int) = ud at *
  have l : N0 * d1 * g * (ud * (w.num * g)) = (N0 * ud) * (w.num * d1) * (g * g) := by ac_rfl
  have r : u.num * wd * g * (d0 * (N1 * g)) = (u.num * d0) * (N1 * wd) * (g * g) := by ac_rfl
  rw [l, r, e0, e1]
/-- what an equation of two lines says -/
def soT (p q : Po) : Int32 × Option Rat := if p 1 = q 1 then (if p 0 = q 0 then (2, none) else (0, none)) else if Fit (dvS (q 0 - p 0) (p 1 - q 1)) then (1, some (dvS (q 0 - p 0) (p 1 - q 1))) else (-1, none)
theorem b14 {x y : Rat} {s' : Int} (hx : Fit x) (hy : Fit y) (hs : s' = 1 ∨ s' = -1) : (x.num * y.den + s' * (y.num * x.den)).natAbs < Bw 14 ∧ ((x.den : Int) * y.den).natAbs < Bw 14 := by
  have e : Bw 14 = 2 ^ 420 := Bw_two 14
  have m1 : x.num.natAbs * y.den < 2 ^ 200 * 2 ^ 200 := Nat.mul_lt_mul'' hx.1 hy.2
  have m2 : y.num.natAbs * x.den < 2 ^ 200 * 2 ^ 200 := Nat.mul_lt_mul'' hy.1 hx.2
  have m3 : x.den * y.den < 2 ^ 200 * 2 ^ 200 := Nat.mul_lt_mul'' hx.2 hy.2
  have p1 : (2 : Nat) ^ 200 * 2 ^ 200 + 2 ^ 200 * 2 ^ 200 ≤ 2 ^ 420 := by decide
  constructor
  · have n1 : (x.num * y.den).natAbs = x.num.natAbs * y.den := by rw [Int.natAbs_mul, Int.natAbs_natCast]
    have n2 : (s' * (y.num * x.den)).natAbs = y.num.natAbs * x.den := by
      rw [Int.natAbs_mul, Int.natAbs_mul, Int.natAbs_natCast]
      rcases hs with z | z <;> rw [z] <;> simp
    have := Int.natAbs_add_le (x.num * y.den) (s' * (y.num * x.den))
    rw [e]
    omega
  · rw [Int.natAbs_mul, Int.natAbs_natCast, Int.natAbs_natCast, e]
    omega
section CSV
variable {I : Nat → Nat → Int32} {J : Nat → Nat → Int64} {R : Nat → Nat → Option Nat} {β : Type} {p q : Po}
theorem C_setAside (hR : RA R) (hP : CRow I 0 p) (fp : FitA p) : QK (f_X3_setAside (mg 4625 I J R) 2215) (fun x => ∃ I', x = mg 4625 I' J R ∧ FrS (fun x => 2231 ≤ x ∧ x < 2241) I I' ∧ FU I' 2231 7 (p 0).num (p 0).den ∧ FU I' 2236 7 (p 1).num (p 1).den) := by
  have r0 : ∀ {I : Nat → Nat → Int32} {F : Nat → Option xM}, ((aR (mg 4625 I J R) 2216 16 (0 : Int32)).bind id).bind F = F 2246 := fun {I F} => C_rw (k := 0) hR (by omega)
  have r1 : ∀ {I : Nat → Nat → Int32} {F : Nat → Option xM}, ((aR (mg 4625 I J R) 2216 16 (1 : Int32)).bind id).bind F = F 2251 := fun {I F} => C_rw (k := 1) hR (by omega)
  have W0 : FU I 2246 7 (p 0).num (p 0).den := hP.1 0 (by decide)
  have W1 : FU I 2251 7 (p 1).num (p 1).den := hP.1 1 (by decide)
  unfold f_X3_setAside
  rw [gr_2215_10 hR, gr_2215_2 hR, r0, if_pos (bF_xk isF_2231)]
  refine q_bind (F_copy hR isF_2231 W0 (Fit_7 (fp 0 (by decide))).1 (Fit_7 (fp 0 (by decide))).2 (by omega)) ?_
  rintro _ ⟨I1, rfl, f1, V1⟩
  rw [gr_2215_11 hR, gr_2215_2 hR, r1, if_pos (bF_xk isF_2236)]
  refine q_bind (F_copy hR isF_2236 (FU_keep W1 (fun x g1 g2 => f1 x (fun z => by unfold Sf at z; omega))) (Fit_7 (fp 1 (by decide))).1 (Fit_7 (fp 1 (by decide))).2 (by omega)) ?_
  rintro _ ⟨I2, rfl, f2, V2⟩
  refine q_ok ⟨I2, rfl, fun x hx => ?_, FU_keep V1 (fun x g1 g2 => f2 x (fun z => by unfold Sf at z; omega)), V2⟩
  rw [f2 x (fun z => by unfold Sf at z; omega), f1 x (fun z => by unfold Sf at z; omega)]
theorem C_compareSides (hR : RA R) (hA : FU I 2231 7 (p 0).num (p 0).den) (hN : FU I 2236 7 (p 1).num (p 1).den) (hQ : CRow I 0 q) (fp : FitA p) (fq : FitA q) : QK (f_X3_compareSides (mg 4625 I J R) 2215) (fun y => ∃ I', y = ((soT p q).1, mg 4625 I' J R) ∧ FrS (fun x => (2 ≤ x ∧ x < 10) ∨ (2220 ≤ x ∧ x < 2230) ∨ (2241 ≤ x ∧ x < 2246)) I I' ∧ ∀ x, (soT p q).2 = some x → CV I' 2241 (gv x)) := by
  have r0 : ∀ {I : Nat → Nat → Int32} {F : Nat → Option (Int32 × xM)}, ((aR (mg 4625 I J R) 2216 16 (0 : Int32)).bind id).bind F = F 2246 := fun {I F} => C_rw (k := 0) hR (by omega)
  have r1 : ∀ {I : Nat → Nat → Int32} {F : Nat → Option (Int32 × xM)}, ((aR (mg 4625 I J R) 2216 16 (1 : Int32)).bind id).bind F = F 2251 := fun {I F} => C_rw (k := 1) hR (by omega)
  have W0 : FU I 2246 7 (q 0).num (q 0).den := hQ.1 0 (by decide)
  have W1 : FU I 2251 7 (q 1).num (q 1).den := hQ.1 1 (by decide)
  have p0f := fp 0 (by decide)
  have p1f := fp 1 (by decide)
  have q0f := fq 0 (by decide)
  have q1f := fq 1 (by decide)
  unfold f_X3_compareSides
  rw [gr_2215_1 hR, gr_2215_7 hR, gr_2215_11 hR, gr_2215_2 hR, r1, if_pos (show xk (mg 4625 I J R) 1 0 = true from ok_1)]
  refine q_bind (A_sum (p := 7) (q := 7) (m := 1) (s' := -1) hR isF_2220 hN W1 (Fit_7 p1f).1 (Fit_7 p1f).2 (Fit_7 q1f).1 (Fit_7 q1f).2 (by decide) (Or.inr ⟨rfl, rfl⟩)) ?_
  rintro _ ⟨I1, rfl, f1, V1⟩
  have k1 : ∀ {f c : Nat} {a b : Int}, 2230 ≤ f → FU I f c a b → FU I1 f c a b := fun hf h => FU_keep h (fun x g1 g2 => f1 x (fun z => by unfold Sa at z; omega))
  rw [gr_2215_1 hR, gr_2215_8 hR, gr_2215_2 hR, r0, gr_2215_10 hR, if_pos (show xk (mg 4625 I1 J R) 1 0 = true from ok_1)]
  refine q_bind (A_sum (p := 7) (q := 7) (m := 1) (s' := -1) hR isF_2225 (k1 (by omega) W0) (k1 (by omega) hA) (Fit_7 q0f).1 (Fit_7 q0f).2 (Fit_7 p0f).1 (Fit_7 p0f).2 (by decide) (Or.inr ⟨rfl, rfl⟩)) ?_
  rintro _ ⟨I2, rfl, f2, V2⟩
  have V1 : FU I2 2220 100 ((p 1).num * (q 1).den + -1 * ((q 1).num * (p 1).den)) ((p 1).den * (q 1).den) := FU_keep V1 (fun x g1 g2 => f2 x (fun z => by unfold Sa at z; omega))
  have f12 : FrS (fun x => (2 ≤ x ∧ x < 10) ∨ (2220 ≤ x ∧ x < 2230) ∨ (2241 ≤ x ∧ x < 2246)) I I2 := fun x hx => by
    rw [f2 x (fun z => by unfold Sa at z; omega), f1 x (fun z => by unfold Sa at z; omega)]
  rw [gr_2215_7 hR, if_pos (bF_xk isF_2220), F_isZero hR V1, Option.bind_some]
  by_cases z1 : p 1 = q 1
  · rw [if_pos (eq_cross.mpr z1), if_neg (by decide), gr_2215_8 hR, if_pos (bF_xk isF_2225), F_isZero hR V2, Option.bind_some]
    unfold f_X3_compareSides_j69
    by_cases z0 : p 0 = q 0
    · have es : soT p q = (2, none) := by
        unfold soT
        rw [if_pos z1, if_pos z0]
      rw [if_pos (eq_cross.mpr z0.symm), if_neg (by decide), es]
      exact q_ok ⟨I2, rfl, f12, fun x y => by cases y⟩
    · have es : soT p q = (0, none) := by
        unfold soT
        rw [if_pos z1, if_neg z0]
      rw [if_neg (fun y => z0 (eq_cross.mp y).symm), if_pos rfl, es]
      exact q_ok ⟨I2, rfl, f12, fun x y => by cases y⟩
  rw [if_neg (fun y => z1 (eq_cross.mp y)), if_pos rfl, gr_2215_1 hR, gr_2215_7 hR, gr_2215_8 hR, gr_2215_7 hR, if_pos (show xk (mg 4625 I2 J R) 1 0 = true from ok_1)]
  obtain ⟨b1, b2⟩ := b14 (s' := -1) p1f q1f (Or.inr rfl)
  obtain ⟨b3, b4⟩ := b14 (s' := -1) q0f p0f (Or.inr rfl)
  refine q_bind (A_over (p := 14) (q := 14) hR isF_2220 V2 V1 b3 b4 b1 b2 (by decide)) ?_
  rintro _ ⟨I3, rfl, f3, V3⟩
  have n1 : (p 1).num * (q 1).den + -1 * ((q 1).num * (p 1).den) ≠ 0 := fun y => z1 (eq_cross.mp y)
  have D0 : 0 < (q 0).den * (p 0).den := Nat.mul_pos (Nat.pos_of_ne_zero (Rat.den_nz _)) (Nat.pos_of_ne_zero (Rat.den_nz _))
  have D1 : 0 < (p 1).den * (q 1).den := Nat.mul_pos (Nat.pos_of_ne_zero (Rat.den_nz _)) (Nat.pos_of_ne_zero (Rat.den_nz _))
  have hu : mkRat ((q 0).num * (p 0).den + -1 * ((p 0).num * (q 0).den)) ((q 0).den * (p 0).den) = q 0 - p 0 := (add_rat (Or.inr rfl)).trans (if_neg (by decide))
  have hw : mkRat ((p 1).num * (q 1).den + -1 * ((q 1).num * (p 1).den)) ((p 1).den * (q 1).den) = p 1 - q 1 := (add_rat (Or.inr rfl)).trans (if_neg (by decide))
  obtain ⟨-, ed⟩ := dvS_mk D0 D1 hu hw n1
  rw [Int.natCast_mul, Int.natCast_mul] at ed
  rw [gr_2215_1 hR, gr_2215_7 hR, if_pos (show xk (mg 4625 I3 J R) 1 0 = true from ok_1)]
  refine q_bind (C_settledS hR V3 (Int.mul_ne_zero (by rw [← Int.natCast_mul]; omega) n1)) ?_
  rintro _ ⟨I4, rfl, f4, V4⟩
  rw [ed] at V4
  have f14 : FrS (fun x => (2 ≤ x ∧ x < 10) ∨ (2220 ≤ x ∧ x < 2230) ∨ (2241 ≤ x ∧ x < 2246)) I I4 := fun x hx => by
    rw [f4 x (fun z => by unfold Sa at z; omega), f3 x (fun z => by unfold Sa at z; omega)]
    exact f12 x hx
  rw [gr_2215_7 hR, if_pos (bF_xk isF_2220), F_fits hR V4, Option.bind_some, Int.natAbs_natCast]
  by_cases ft : Fit (dvS (q 0 - p 0) (p 1 - q 1))
  · have es : soT p q = (1, some (dvS (q 0 - p 0) (p 1 - q 1))) := by
      unfold soT
      rw [if_neg z1, if_pos ft]
    rw [if_pos ft, if_neg (by decide), gr_2215_12 hR, gr_2215_7 hR, if_pos (bF_xk isF_2241), es]
    refine q_bind (F_copy hR isF_2241 V4 (Fit_7 ft).1 (Fit_7 ft).2 (by omega)) ?_
    rintro _ ⟨I5, rfl, f5, V5⟩
    refine q_ok ⟨I5, rfl, fun x hx => ?_, fun x y => ?_⟩
    · rw [f5 x (fun z => by unfold Sf at z; omega)]
      exact f14 x hx
    · rw [← Option.some.inj y]
      exact V5
  · have es : soT p q = (-1, none) := by
      unfold soT
      rw [if_neg z1, if_neg ft]
    rw [if_neg ft, if_pos rfl, es]
    exact q_ok ⟨I4, rfl, f14, fun x y => by cases y⟩
end CSV
