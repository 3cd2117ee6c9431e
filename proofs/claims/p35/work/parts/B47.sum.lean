/-! the class's machine: a sum goes on -/
section SUM1
variable {I : Nat → Nat → Int32} {J : Nat → Nat → Int64} {R : Nat → Nat → Option Nat} {h t c d sc k : Nat} {z node stage : Int32} {o : Option Nat}
theorem q2_0 {a b : GV} : q2 0 a b = qfin (a.1 * b.2 + 1 * (b.1 * a.2)) (a.2 * b.2) := by
  show qfin (a.1 * b.2 + 1 * b.1 * a.2) (a.2 * b.2) = _
  rw [Int.mul_assoc]
theorem C_addToSum {tt v : GV} {x : Int} (hR : RA R) (hS : MSt I (h + 3) (t + 1) c d sc) (hK : TKc I R t 2 o node stage z (Int32.ofNat (k + 1))) (ht : t < 480) (hh : h + 3 ≤ 240) (hk : k < 1000) (hx : x.natAbs < 2 ^ 200) (V0 : CV I (584 + 5 * h) (x, 1)) (V1 : CV I (584 + 5 * (h + 1)) tt) (V2 : CV I (584 + 5 * (h + 2)) v) (gt : Gd tt) (gv : Gd v) : QK (f_X4_addToSum (mg (4562 + zn J) I J R) 567 (Int32.ofNat (t))) (fun r => (∃ v' I', q2 0 tt v = .inr v' ∧ r = (0, mg (4562 + zn J) I' J R) ∧ FrK (Fm h t sc) I I' ∧ MSt I' (h + 2) (t + 1) c d sc ∧ TKc I' R t 2 o node 4 z (Int32.ofNat (k)) ∧ CV I' (584 + 5 * h) (x + 1, 1) ∧ CV I' (584 + 5 * (h + 1)) v') ∨ (q2 0 tt v = .inl 3 ∧ ∃ I', r = (3, mg (4562 + zn J) I' J R) ∧ FrK (Fm h t sc) I I')) := by
  obtain ⟨s1, s2, s3, s4, s5⟩ := hS
  have pd : (0 : Int) < (tt.2 : Int) * (v.2 : Int) := Int.mul_pos (by have := gt.2.1; omega) (by have := gv.2.1; omega)
  have pn : ((tt.2 : Int) * (v.2 : Int)).natAbs = tt.2 * v.2 := by rw [Int.natAbs_mul, Int.natAbs_natCast, Int.natAbs_natCast]
  have e3 : (Int32.ofNat (h + 3)) - (3 : Int32) = (Int32.ofNat (h)) := n_sub (b := 3) (by omega)
  have e2 : (Int32.ofNat (h + 3)) - (2 : Int32) = (Int32.ofNat (h + 1)) := n_sub (b := 2) (by omega)
  have e1 : (Int32.ofNat (h + 3)) - (1 : Int32) = (Int32.ofNat (h + 2)) := n_sub (b := 1) (by omega)
  unfold f_X4_addToSum
  rw [gi_567, s1, if_pos (show (3 : Int32) ≤ (Int32.ofNat (h + 3)) from (i32_le (k := 3) (by omega) (by omega)).mpr (by omega)), gr_567_2 hR, gi_567, s1, e3, C_stk hR (by omega), gr_567_2 hR, gi_567, s1, e2, C_stk hR (by omega), gr_567_1 hR, gr_567_5 hR, gr_567_2 hR, gi_567, s1, e1, C_stk hR (by omega), if_pos ok_1]
  refine q_bind (A_sum (p := 7) (q := 7) hR isF_569 V1 V2 (b200 gt.1) (by rw [Int.natAbs_natCast]; exact b200 gt.2.2.1) (b200 gv.1) (by rw [Int.natAbs_natCast]; exact b200 gv.2.2.1) (by first | decide | omega) (Or.inl ⟨rfl, rfl⟩)) ?_
  rintro _ ⟨I1, rfl, F1, W1⟩
  rw [gr_567_1 hR, gr_567_5 hR, if_pos ok_1]
  refine q_bind (A_settle hR W1 (by omega)) ?_
  rintro _ ⟨I2, rfl, F2, W2⟩
  rw [pos_sign pd, pn, Int.mul_one] at W2
  have g12 : ∀ y, ¬ (2 ≤ y ∧ y < 10) → ¬ (569 ≤ y ∧ y < 574) → I2 y = I y := fun y h1 h2 => by rw [F2 y (fun w => by unfold Sa at w; omega), F1 y (fun w => by unfold Sa at w; omega)]
  have f2 : FrK (Fm h t sc) I I2 := fun y j w => by
    unfold Fm at w
    rw [g12 y (by omega) (by omega)]
  rw [gr_567_5 hR, if_pos (bF_xk W2.1), F_fits hR W2, Option.bind_some, q2_0]
  have gz := qfin_QO (z := tt.1 * v.2 + 1 * (v.1 * tt.2)) (D := tt.2 * v.2) (Nat.mul_pos gt.2.1 gv.2.1)
  have D0 : 0 < tt.2 * v.2 := Nat.mul_pos gt.2.1 gv.2.1
  generalize tt.1 * v.2 + 1 * (v.1 * tt.2) = Z at *
  generalize tt.2 * v.2 = D at *
  have en : (rz Z D).natAbs = Z.natAbs / Nat.gcd Z.natAbs D := by
    unfold rz
    rw [Int.natAbs_mul, Int.natAbs_natCast]
    by_cases y : Z = 0
    · rw [y]
      show 0 * _ = 0 / _
      rw [Nat.zero_mul, Nat.zero_div]
    · rw [Int.natAbs_sign_of_ne_zero y, Nat.one_mul]
  have ed : (((rd Z D : Nat) : Int)).natAbs = D / Nat.gcd Z.natAbs D := by
    rw [Int.natAbs_natCast]
    rfl
  rw [en, ed]
  by_cases ft : Fits Z D
  · have ft1 : Z.natAbs / Nat.gcd Z.natAbs D < 2 ^ 200 ∧ D / Nat.gcd Z.natAbs D < 2 ^ 200 := ft
    rw [if_pos ft1, if_neg (by first | decide | omega), gr_567_5 hR, if_pos (bF_xk (isF_584 (by omega)))]
    refine q_bind (F_copy hR (isF_584 (t := h + 1) (by omega)) W2 (b200 (by rw [en]; exact ft1.1)) (b200 (by rw [ed]; exact ft1.2)) (by omega)) ?_
    rintro _ ⟨I3, rfl, F3, W3⟩
    have g3 : ∀ y, ¬ (2 ≤ y ∧ y < 10) → ¬ (569 ≤ y ∧ y < 574) → ¬ (584 + 5 * (h + 1) ≤ y ∧ y < 589 + 5 * (h + 1)) → I3 y = I y := fun y h1 h2 h3 => by rw [F3 y (fun w => by unfold Sf at w; omega), g12 y h1 h2]
    rw [gi_567, g3 567 (by omega) (by omega) (by omega), s1, e1, gs_567, gr_567_2 hR, gi_567, up_s, C_stk hR (by omega), if_pos (bF_xk (isF_584 (by omega)))]
    refine q_bind (F_set (n := 1) hR (isF_584 (t := h + 2) (by omega)) (by first | decide | omega)) ?_
    rintro _ ⟨I4, rfl, F4, W4⟩
    have g4 : ∀ y, y ≠ 567 → ¬ (584 + 5 * (h + 2) ≤ y ∧ y < 589 + 5 * (h + 2)) → I4 y = I3 y := fun y h1 h2 => by rw [F4 y (fun w => by unfold Sf at w; omega), up_r h1]
    have k4 : ∀ j, I4 567 j = up I3 567 3 (Int32.ofNat (h + 2)) 567 j := fun j => by rw [F4 567 (fun w => by unfold Sf at w; omega)]
    have V04 : FU I4 (584 + 5 * h) 7 x 1 := FU_keep V0 (fun y h1 h2 => by rw [g4 y (by omega) (by omega), g3 y (by omega) (by omega) (by omega)])
    rw [gr_567_1 hR, gr_567_5 hR, gr_567_2 hR, gi_567, k4, up_s, C_stk hR (by omega), if_pos ok_1]
    refine q_bind (A_sum (p := 7) (q := 7) hR isF_569 V04 W4 (b200 hx) (by decide +kernel) (by decide +kernel) (by decide +kernel) (by first | decide | omega) (Or.inl ⟨rfl, rfl⟩)) ?_
    rintro _ ⟨I5, rfl, F5, W5⟩
    have x1 : x * 1 + 1 * (((1 : Nat) : Int) * 1) = x + 1 := by omega
    have W5 : FU I5 569 100 (x + 1) 1 := by
      rw [x1] at W5
      exact W5
    rw [gr_567_5 hR, if_pos (bF_xk (isF_584 (by omega)))]
    refine q_bind (F_copy hR (isF_584 (t := h) (by omega)) W5 (Nat.lt_of_lt_of_le (show (x + 1).natAbs < 2 ^ 201 by omega) (by rw [Bw_two]; exact Nat.pow_le_pow_right (by first | decide | omega) (by first | decide | omega))) (by decide +kernel) (by omega)) ?_
    rintro _ ⟨I6, rfl, F6, W6⟩
    have g6 : ∀ y, ¬ (2 ≤ y ∧ y < 10) → ¬ (569 ≤ y ∧ y < 574) → ¬ (584 + 5 * h ≤ y ∧ y < 589 + 5 * h) → I6 y = I4 y := fun y h1 h2 h3 => by rw [F6 y (fun w => by unfold Sf at w; omega), F5 y (fun w => by unfold Sa at w; omega)]
    have lo : ∀ y, 574 ≤ y → y ≤ 583 → I6 y = I y := fun y h1 h2 => by rw [g6 y (by omega) (by omega) (by omega), g4 y (by omega) (by omega), g3 y (by omega) (by omega) (by omega)]
    obtain ⟨z1, z2, z3, z4, z5, z6⟩ := hK
    have em : (Int32.ofNat (k + 1)) - (1 : Int32) = (Int32.ofNat (k)) := n_sub (b := 1) (by omega)
    rw [gr_567_11 hR, ga_579 ht, lo 579 (by omega) (by omega), z6, em, gw_579 ht, gr_567_9 hR, gw_577 ht]
    have k6 : ∀ j, j ≠ 3 → I6 567 j = I 567 j := fun j hj => by rw [g6 567 (by omega) (by omega) (by omega), k4, up_n (by omega), g3 567 (by omega) (by omega) (by omega)]
    refine q_ok (Or.inl ⟨(rz Z D, rd Z D), _, qfin_r ft, rfl, fun y j w => ?_, ⟨?_, ?_, ?_, ?_, ?_⟩, ⟨?_, z2, ?_, up_s, ?_, ?_⟩, ?_, ?_⟩)
    · unfold Fm at w
      rw [up_n (by omega), up_n (by omega)]
      by_cases q : y = 567
      · rw [q]
        exact k6 j (by omega)
      · by_cases q2 : 574 ≤ y ∧ y ≤ 583
        · rw [lo y q2.1 q2.2]
        · rw [g6 y (by omega) (by omega) (by omega), g4 y q (by omega), g3 y (by omega) (by omega) (by omega)]
    · rw [up_n (by omega), up_n (by omega), g6 567 (by omega) (by omega) (by omega), k4, up_s]
    · rw [up_n (by omega), up_n (by omega), k6 12 (by omega)]; exact s2
    · rw [up_n (by omega), up_n (by omega), k6 4 (by omega)]; exact s3
    · rw [up_n (by omega), up_n (by omega), k6 13 (by omega)]; exact s4
    · rw [up_n (by omega), up_n (by omega), k6 18 (by omega)]; exact s5
    · rw [up_n (by omega), up_n (by omega), lo 574 (by omega) (by omega)]; exact z1
    · rw [up_n (by omega), up_n (by omega), lo 576 (by omega) (by omega)]; exact z3
    · rw [up_n (by omega), up_n (by omega), lo 578 (by omega) (by omega)]; exact z5
    · rw [up_n (by omega), up_s]
    · exact FU_keep W6 (fun y h1 h2 => by rw [up_r (by omega), up_r (by omega)])
    · exact FU_keep W3 (fun y h1 h2 => by rw [up_r (by omega), up_r (by omega), g6 y (by omega) (by omega) (by omega), g4 y (by omega) (by omega)])
  · have ft1 : ¬ (Z.natAbs / Nat.gcd Z.natAbs D < 2 ^ 200 ∧ D / Nat.gcd Z.natAbs D < 2 ^ 200) := ft
    rw [if_neg ft1, if_pos rfl]
    exact q_ok (Or.inr ⟨qfin_l ft, I2, rfl, f2⟩)
end SUM1
