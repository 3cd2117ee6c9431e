/-! polynomials: the reference makes whole numbers of a polynomial, and their powers -/
def FRw (I I' : Nat → Nat → Int32) : Prop := FrS (fun x => x = 4562 ∨ x = 4563 ∨ (4613 ≤ x ∧ x ≤ 4615)) I I'
theorem FR2_w {I I' : Nat → Nat → Int32} (h : FR2 I I') : FRw I I' := fun x hx => h x (by omega)
theorem Fwh_w {I I' : Nat → Nat → Int32} {w : Nat} (h : FrK (Fwh w) I I') : FRw I I' := fun x hx => by
  funext k
  exact h x k (by unfold Fwh; omega)
theorem Fwh_R {I I' : Nat → Nat → Int32} {w r k n : Nat} (h : FrK (Fwh w) I I') (A : Rg (I 4562) (I 4563) r k n) : Rg (I' 4562) (I' 4563) r k n := by
  have e1 : I' 4562 = I 4562 := funext (fun y => h 4562 y (by unfold Fwh; omega))
  have e2 : I' 4563 = I 4563 := funext (fun y => h 4563 y (by unfold Fwh; omega))
  rw [e1, e2]
  exact A
section MWH
variable {I : Nat → Nat → Int32} {J : Nat → Nat → Int64} {R : Nat → Nat → Option Nat} {β : Type} {r : Nat} {p : Po}
theorem M_makeDen (hR : RA R) (hr : r < 90) (hP : MRow I r p) (fp : FitA p) (h8 : ∃ k, Rg (I 4562) (I 4563) 8 k 1) : QK (xloop f_X12_makeWhole_s9 xF (4561, (Int32.ofNat (r)), 0, mg 4625 I J R)) (fun x => ∃ I', x = .inr (4561, (Int32.ofNat (r)), mg 4625 I' J R) ∧ FR2 I I' ∧ ∃ k, Rg (I' 4562) (I' 4563) 8 k (dnF p 9)) := by
  refine q_for 9 (fun i s => ∃ I', s = (4561, (Int32.ofNat (r)), (Int32.ofNat (i)), mg 4625 I' J R) ∧ FR2 I I' ∧ ∃ k, Rg (I' 4562) (I' 4563) 8 k (dnF p i)) ?_ ?_ (i := 0) ⟨I, rfl, FrS_rfl, h8⟩ (by omega) (by unfold xF; omega)
  · rintro i s hi ⟨I1, rfl, f1, k8, g1⟩
    have P1 : Vv (I1 4564) (2700 + 9 * r + i) (p i).num (p i).den := by rw [f1 4564 (by omega)]; exact hP i hi
    have d0 := Nat.pos_of_ne_zero (p i).den_nz
    have D0 := dnF_pos p i
    have bD : dnF p i < Bp 113 := by
      refine Nat.lt_of_le_of_lt (Nat.le_trans (dnF_le p i).1 (prM_le fp i (by omega))) ?_
      rw [Bp_two]
      exact Nat.pow_lt_pow_right (by decide) (by omega)
    have g0 : 0 < Nat.gcd (dnF p i) (p i).den := Nat.gcd_pos_of_pos_left _ D0
    have gl : Nat.gcd (dnF p i) (p i).den ≤ (p i).den := Nat.le_of_dvd d0 (Nat.gcd_dvd_right _ _)
    have gb : 2 * Nat.gcd (dnF p i) (p i).den < Bp 440 := by
      have h1 := p200 (fp i hi).2
      have h2 : Bp 14 = Bp 13 * 65536 := Bp_s 13
      have h3 : Bp 14 ≤ Bp 440 := Bp_le (by decide)
      omega
    unfold f_X12_makeWhole_s9
    dsimp only
    rw [q_let, q_let, q_let, q_let, if_neg (show ¬ (9 : Int32) ≤ (Int32.ofNat (i)) from fun y => absurd ((i32_le (k := 9) (by omega) (by omega)).mp y) (by omega)), cAt, Option.bind_some, if_pos ok_4561]
    refine q_bind (M_loadD (rg := 2) hR (by decide) (by omega) P1) ?_
    rintro _ ⟨I2, k2, rfl, f2, A2, l2, c2⟩
    rw [if_pos ok_4561]
    have R8 := g1.keep c2 (by decide)
    refine q_bind (M_copyR (rg := 12) (tg := 8) hR (by decide) (by decide) (by decide) R8) ?_
    rintro _ ⟨I3, rfl, f3, A3, c3⟩
    rw [if_pos ok_4561]
    have R8 := R8.keep c3 (by decide)
    have A2 := A2.keep c3 (by decide)
    refine q_bind (M_copyR (rg := 13) (tg := 2) hR (by decide) (by decide) (by decide) A2) ?_
    rintro _ ⟨I4, rfl, f4, A4, c4⟩
    rw [if_pos ok_4561]
    have R8 := R8.keep c4 (by decide)
    have A2 := A2.keep c4 (by decide)
    have A3 := A3.keep c4 (by decide)
    refine q_bind (M_common (r := 12) (t := 13) hR (by decide) (by decide) (by decide) A3 A4 d0) ?_
    rintro _ ⟨I5, kg, rfl, f5, A5, c5⟩
    rw [if_pos ok_4561]
    have R8 := R8.kl c5 (by decide)
    have A2 := A2.kl c5 (by decide)
    refine q_bind (M_copyR (rg := 13) (tg := 12) hR (by decide) (by decide) (by decide) A5) ?_
    rintro _ ⟨I6, rfl, f6, A6, c6⟩
    rw [if_pos ok_4561]
    have R8 := R8.keep c6 (by decide)
    have A2 := A2.keep c6 (by decide)
    refine q_bind (M_divide (qg := 14) (mr := 15) (rg := 8) (tg := 13) hR (by decide) (by decide) (by decide) (by decide) (by decide) (by decide) (by decide) R8 A6 g0 gb) ?_
    rintro _ ⟨I7, kq, km, rfl, f7, A7, -, c7⟩
    rw [if_pos ok_4561]
    have A2 := A2.kl c7 (by decide)
    have kq1 := Rg_le A7 (Nat.lt_of_le_of_lt (Nat.div_le_self _ _) bD)
    refine q_bind (M_times (t := 10) (r := 14) (w := 2) hR (by decide) (by decide) (by decide) (by decide) (by decide) A7 A2 (by omega)) ?_
    rintro _ ⟨I8, kt, rfl, f8, A8, -, c8⟩
    rw [if_pos ok_4561]
    refine q_bind (M_copyR (rg := 8) (tg := 10) hR (by decide) (by decide) (by decide) A8) ?_
    rintro _ ⟨I9, rfl, f9, A9, c9⟩
    rw [q_let, show (Int32.ofNat (i)) + (1 : Int32) = (Int32.ofNat (i + 1)) from n_add i 1]
    exact q_go ⟨I9, rfl, FrS_tr (FrS_tr (FrS_tr (FrS_tr (FrS_tr (FrS_tr (FrS_tr (FrS_tr f1 f2) f3) f4) f5) f6) f7) f8) f9, kt, A9⟩
  · rintro s ⟨I1, rfl, f1, g1⟩
    unfold f_X12_makeWhole_s9
    dsimp only
    rw [q_let, q_let, q_let, q_let, if_pos (by decide)]
    exact q_ex ⟨I1, rfl, f1, g1⟩
theorem M_makeWhole (hR : RA R) (hr : r < 90) (hP : MRow I r p) (fp : FitA p) : QK (f_X12_makeWhole (mg 4625 I J R) 4561 (Int32.ofNat (r))) (fun x => ∃ I', x = mg 4625 I' J R ∧ FRw I I' ∧ (∃ k, Rg (I' 4562) (I' 4563) 8 k (dnF p 9)) ∧ ∀ j, j < 9 → Wn I' j (whW p (dnF p 9) j)) := by
  have bM : prM p 9 < Bp 113 := by
    refine Nat.lt_of_le_of_lt (prM_le fp 9 (Nat.le_refl _)) ?_
    rw [Bp_two]
    exact Nat.pow_lt_pow_right (by decide) (by decide)
  unfold f_X12_makeWhole
  rw [if_pos ok_4561]
  refine q_bind (M_putR (rg := 8) (x := 1) hR (by decide) (by decide)) ?_
  rintro _ ⟨I1, k1, rfl, f1, A1, -, c1⟩
  rw [q_let]
  refine q_bind (M_makeDen (p := p) hR hr (fun j hj => by rw [f1 4564 (by omega)]; exact hP j hj) fp ⟨k1, A1⟩) ?_
  rintro _ ⟨I2, rfl, f2, k8, A8⟩
  simp only [Sum.elim_inr]
  unfold f_X12_makeWhole_j91
  rw [q_let]
  have f12 : FRw I I2 := FR2_w (FrS_tr f1 f2)
  refine q_bind (P := fun x => ∃ I', x = .inr (mg 4625 I' J R) ∧ FRw I I' ∧ Rg (I' 4562) (I' 4563) 8 k8 (dnF p 9) ∧ ∀ j, j < 9 → Wn I' j (whW p (dnF p 9) j)) ?_ ?_
  · refine q_for 9 (fun i s => ∃ I', s = (4561, (Int32.ofNat (r)), (Int32.ofNat (i)), mg 4625 I' J R) ∧ FRw I I' ∧ Rg (I' 4562) (I' 4563) 8 k8 (dnF p 9) ∧ ∀ j, j < i → Wn I' j (whW p (dnF p 9) j)) ?_ ?_ (i := 0) ⟨I2, rfl, f12, A8, fun j hj => absurd hj (Nat.not_lt_zero _)⟩ (by omega) (by unfold xF; omega)
    · rintro i s hi ⟨I3, rfl, f3, B8, g3⟩
      have P3 : Vv (I3 4564) (2700 + 9 * r + i) (p i).num (p i).den := by rw [f3 4564 (by omega)]; exact hP i hi
      have d0 := Nat.pos_of_ne_zero (p i).den_nz
      have db : 2 * (p i).den < Bp 440 := by
        have h1 := p200 (fp i hi).2
        have h2 : Bp 14 = Bp 13 * 65536 := Bp_s 13
        have h3 : Bp 14 ≤ Bp 440 := Bp_le (by decide)
        omega
      unfold f_X12_makeWhole_s93
      dsimp only
      rw [q_let, q_let, q_let, q_let, if_neg (show ¬ (9 : Int32) ≤ (Int32.ofNat (i)) from fun y => absurd ((i32_le (k := 9) (by omega) (by omega)).mp y) (by omega)), cAt, Option.bind_some, if_pos ok_4561]
      refine q_bind (M_loadN (rg := 2) hR (by decide) (by omega) P3) ?_
      rintro _ ⟨I4, k4, rfl, f4, A4, l4, c4⟩
      have P4 : Vv (I4 4564) (2700 + 9 * r + i) (p i).num (p i).den := by rw [f4 4564 (by omega)]; exact P3
      have B8 := B8.keep c4 (by decide)
      rw [cAt, Option.bind_some, if_pos ok_4561]
      refine q_bind (M_loadD (rg := 3) hR (by decide) (by omega) P4) ?_
      rintro _ ⟨I5, k5, rfl, f5, A5, l5, c5⟩
      have P5 : Vv (I5 4564) (2700 + 9 * r + i) (p i).num (p i).den := by rw [f5 4564 (by omega)]; exact P4
      have B8 := B8.keep c5 (by decide)
      have A4 := A4.keep c5 (by decide)
      rw [if_pos ok_4561]
      refine q_bind (M_divide (qg := 14) (mr := 15) (rg := 8) (tg := 3) hR (by decide) (by decide) (by decide) (by decide) (by decide) (by decide) (by decide) B8 A5 d0 db) ?_
      rintro _ ⟨I6, kq, km, rfl, f6, A6, -, c6⟩
      have P6 : Vv (I6 4564) (2700 + 9 * r + i) (p i).num (p i).den := by rw [f6 4564 (by omega)]; exact P5
      have B8 := B8.kl c6 (by decide)
      have A4 := A4.kl c6 (by decide)
      have kq1 := Rg_le A6 (Nat.lt_of_le_of_lt (Nat.le_trans (Nat.div_le_self _ _) (dnF_le p 9).1) bM)
      rw [if_pos ok_4561]
      refine q_bind (M_times (t := 10) (r := 2) (w := 14) hR (by decide) (by decide) (by decide) (by decide) (by decide) A4 A6 (by omega)) ?_
      rintro _ ⟨I7, kt, rfl, f7, A7, -, c7⟩
      have P7 : Vv (I7 4564) (2700 + 9 * r + i) (p i).num (p i).den := by rw [f7 4564 (by omega)]; exact P6
      have B8 := B8.keep c7 (by decide)
      have ew : (p i).num.natAbs * (dnF p 9 / (p i).den) = (whW p (dnF p 9) i).natAbs := by
        unfold whW
        rw [Int.natAbs_mul, Int.natAbs_natCast]
      rw [ew] at A7
      have kt1 := Rg_le A7 (Nat.lt_of_le_of_lt ((dnF_le p 9).2 i hi) bM)
      rw [cAt, Option.bind_some, if_pos ok_4561, M_sign hR (by omega) P7, Option.bind_some, if_pos ok_4561, show (0 : Int32) + (Int32.ofNat (i)) = (Int32.ofNat (i)) from (n_add 0 i).trans (by rw [Nat.zero_add])]
      have sg : Int32.ofInt (p i).num.sign = Int32.ofInt (whW p (dnF p 9) i).sign := by
        unfold whW
        have c0 : (0 : Int) < ((dnF p 9 / (p i).den : Nat) : Int) := by
          have : 0 < dnF p 9 / (p i).den := Nat.div_pos (Nat.le_of_dvd (dnF_pos p 9) (dnF_dvd p 9 i hi)) d0
          omega
        rw [Int.sign_mul, Int.sign_eq_one_of_pos c0, Int.mul_one]
      refine q_bind (M_keepWhole (w := i) (r := 10) (sg := Int32.ofInt (p i).num.sign) hR (by omega) (by decide) A7 (by omega) (Or.inr sg)) ?_
      rintro _ ⟨I8, rfl, f8, W8⟩
      rw [q_let, show (Int32.ofNat (i)) + (1 : Int32) = (Int32.ofNat (i + 1)) from n_add i 1]
      refine q_go ⟨I8, rfl, FrS_tr (FrS_tr (FrS_tr (FrS_tr (FrS_tr f3 (FR2_w f4)) (FR2_w f5)) (FR2_w f6)) (FR2_w f7)) (Fwh_w f8), Fwh_R f8 B8, fun j hj => ?_⟩
      by_cases z : j = i
      · subst z
        exact W8
      · exact Wn_keep (Wn_fr (g3 j (by omega)) (FR2_lt (FrS_tr (FrS_tr (FrS_tr f4 f5) f6) f7))) f8 z
    · rintro s ⟨I3, rfl, f3, B8, g3⟩
      unfold f_X12_makeWhole_s93
      dsimp only
      rw [q_let, q_let, q_let, q_let, if_pos (by decide)]
      exact q_ex ⟨I3, rfl, f3, B8, g3⟩
  · rintro _ ⟨I3, rfl, f3, B8, g3⟩
    simp only [Sum.elim_inr]
    unfold f_X12_makeWhole_j163
    exact q_ok ⟨I3, rfl, f3, ⟨k8, B8⟩, g3⟩
end MWH
