/-! slopes: the class's part of an operator -/
section CSM
variable {I : Nat → Nat → Int32} {J : Nat → Nat → Int64} {R : Nat → Nat → Option Nat} {β : Type} {j n : Nat} {v p w r : GV}
theorem Bw_29 {a c : Int} {s' : Int} (h1 : a.natAbs < Bw 28) (h2 : c.natAbs < Bw 28) (hs : s' = 1 ∨ s' = -1) : (a + s' * c).natAbs < Bw 29 := by
  have h3 : 2 * Bw 28 ≤ Bw 29 := by rw [Bw_s 28]; have := Bw_pos 28; omega
  rcases hs with rfl | rfl <;> omega
theorem cw_lt {a b : Int} {c d : Nat} (h1 : a.natAbs < Bw 7) (h2 : b.natAbs < Bw 7) (h3 : (c : Int).natAbs < Bw 7) (h4 : (d : Int).natAbs < Bw 7) : (a * b * (c * d : Nat)).natAbs < Bw 28 := by
  rw [Int.natCast_mul]
  exact nm_lt (p := 14) (q := 14) (nm_lt h1 h2) (nm_lt h3 h4)
theorem C_slPower {k : Nat} (hR : RA R) (hv : Gd v) (hp : Gd p) (hw : w = ((k : Int), 1)) (hk : k ≤ 64) (hx : v.1.natAbs ^ k < 2 ^ 200 ∧ v.2 ^ k < 2 ^ 200) (hj : j < 80) (hn : n = 1 ∨ n = 2) (h3 : I 1784 3 = (Int32.ofNat (j + n))) (V : FU I 1786 7 v.1 v.2) (W : FU I 1791 7 w.1 w.2) (P : FU I (1806 + 5 * j) 7 p.1 p.2) : QK (f_X8_operatorPart_j229 (mg (4562 + zn J) I J R) 1784 (Int32.ofNat (n)) (1806 + 5 * j)) (Csl I J R j (if w.1 = 0 then .inr (0, 1) else qfin (v.1 ^ (w.1.natAbs - 1) * w.1 * p.1) (v.2 ^ (w.1.natAbs - 1) * p.2))) := by
  have v0 := hv.2.1
  have p0 := hp.2.1
  rw [hw] at W ⊢
  dsimp only at W ⊢
  have gw : Gd ((k : Int), 1) := Gd_n (Nat.lt_of_le_of_lt hk (by first | decide | omega))
  have c1 := (clp_cmp (z := (k : Int)) (k := 0) (by omega)).2.2.2.2 (by omega)
  unfold f_X8_operatorPart_j229
  rw [gr_1784_5 hR, bF_g0 isF_1791 hR, if_pos (me_xk (by first | decide | omega) (by rw [isF_1791.2.2.2.2.2.1.2.1])), W_clamped hR W.2.1, Option.bind_some, if_pos ok_1784, c1, Int32.ofInt_eq_ofNat]
  unfold f_X8_powerPart
  by_cases z : k = 0
  · rw [if_pos (show (Int32.ofNat (k)) = (0 : Int32) by rw [z]; rfl), if_pos (show (k : Int) = 0 by omega), gr_1784_6 hR, if_pos (bF_xk isF_1796), Option.bind_assoc]
    refine q_bind (F_set (n := 0) hR isF_1796 (by first | decide | omega)) ?_
    rintro _ ⟨I1, rfl, f1, w1⟩
    rw [Option.bind_some]
    have := C_slTail (J := J) (I0 := I) (A := 0) (D := 1) (n := n) (j := j) hR (fun x y g => by rw [f1 x (fun z => by unfold Sf at z; unfold Fsl at g; omega)]) w1 (by first | decide | omega) (by rw [f1 1784 (fun z => by unfold Sf at z; omega)]; exact h3) hj hn
    rw [qfin_cop (by first | decide | omega) (by first | decide | omega) (by first | decide | omega)] at this
    exact this
  rw [if_neg (show ¬ (Int32.ofNat (k)) = (0 : Int32) from i32_ne (b := 0) (by omega) (by omega) z), if_neg (show ¬ (k : Int) = 0 by omega), gr_1784_1 hR, gr_1784_6 hR, gr_1784_4 hR, if_pos (show xk (mg (4562 + zn J) I J R) 1 0 = true from ok_1), show (Int32.ofNat (k)) - (1 : Int32) = (Int32.ofNat (k - 1)) from n_sub (b := 1) (by omega), ← Int32.ofInt_eq_ofNat, Option.bind_assoc]
  have nk : ((k : Int)).natAbs - 1 = k - 1 := by omega
  have po : PowOK v.1 (v.2 : Int) (k - 1) := by
    refine ⟨?_, ?_⟩
    · by_cases y : v.1.natAbs = 0
      · rw [y]
        rcases Nat.eq_zero_or_pos (k - 1) with e | e
        · rw [e]; decide
        · rw [Nat.zero_pow e]; decide
      · exact Nat.lt_of_le_of_lt (Nat.pow_le_pow_right (by omega) (by omega)) hx.1
    · rw [Int.natAbs_natCast]
      exact Nat.lt_of_le_of_lt (Nat.pow_le_pow_right v0 (by omega)) hx.2
  refine q_bind (A_power (e := ((k - 1 : Nat) : Int)) hR isF_1796 V hv.1 (by rw [Int.natAbs_natCast]; exact hv.2.2.1) (by omega) (by first | decide | omega)) ?_
  rintro _ (⟨I1, rfl, -, f1, ⟨-, w1⟩ | ⟨y, -⟩⟩ | ⟨I1, rfl, y, -⟩)
  rotate_left
  · omega
  · rw [Int.natAbs_natCast] at y
    exact absurd po y
  rw [Int.natAbs_natCast] at w1
  have W1 : FU I1 1791 7 (k : Int) 1 := FU_keep W (fun x g1 g2 => f1 x (fun z => by unfold Sa at z; omega))
  have P1 : FU I1 (1806 + 5 * j) 7 p.1 p.2 := FU_keep P (fun x g1 g2 => f1 x (fun z => by unfold Sa at z; omega))
  have b1 : (v.1 ^ (k - 1)).natAbs < Bw 7 := b200 (by rw [natAbs_pow']; exact po.1)
  have b2 : ((v.2 : Int) ^ (k - 1)).natAbs < Bw 7 := b200 (by rw [natAbs_pow']; exact po.2)
  rw [gr_1784_1 hR, gr_1784_6 hR, gr_1784_6 hR, gr_1784_5 hR, if_pos (show xk (mg (4562 + zn J) I1 J R) 1 0 = true from ok_1), Option.bind_assoc]
  refine q_bind (A_times (p := 7) (q := 7) hR isF_1796 w1 W1 b1 b2 (g7 gw).1 (g7 gw).2 (by first | decide | omega)) ?_
  rintro _ ⟨I2, rfl, f2, w2⟩
  have P2 : FU I2 (1806 + 5 * j) 7 p.1 p.2 := FU_keep P1 (fun x g1 g2 => f2 x (fun z => by unfold Sa at z; omega))
  rw [gr_1784_1 hR, gr_1784_6 hR, gr_1784_6 hR, if_pos (show xk (mg (4562 + zn J) I2 J R) 1 0 = true from ok_1), Option.bind_assoc]
  refine q_bind (A_times (p := 14) (q := 7) hR isF_1796 w2 P2 (nm_lt b1 (g7 gw).1) (nm_lt b2 (g7 gw).2) (g7 hp).1 (g7 hp).2 (by first | decide | omega)) ?_
  rintro _ ⟨I3, rfl, f3, w3⟩
  rw [Option.bind_some, nk]
  refine C_slTail (I0 := I) (n := n) (j := j) hR (FrK_tr (FrS_Fsl (Or.inl rfl) f1) (FrK_tr (FrS_Fsl (Or.inl rfl) f2) (FrS_Fsl (Or.inl rfl) f3))) ?_ (Nat.mul_pos (Nat.pow_pos v0) p0) ?_ hj hn
  · rw [Int.natCast_mul, Int.natCast_pow]
    rw [Int.mul_one] at w3
    exact w3
  · rw [f3 1784 (fun z => by unfold Sa at z; omega), f2 1784 (fun z => by unfold Sa at z; omega), f1 1784 (fun z => by unfold Sa at z; omega)]
    exact h3
theorem q2_pow {k : Nat} {x : GV} (h : q2 5 v ((k : Int), 1) = .inr x) : k ≤ 64 ∧ v.1.natAbs ^ k < 2 ^ 200 ∧ v.2 ^ k < 2 ^ 200 := by
  have e : q2 5 v ((k : Int), 1) = (if (1 : Nat) ≠ 1 then (.inl 2 : Nat ⊕ GV) else if v.1 = 0 ∧ (k : Int) < 0 then .inl 1 else if (k : Int) < -64 ∨ 64 < (k : Int) then .inl 3 else qpow v (k : Int)) := rfl
  rw [e, if_neg (by first | decide | omega), if_neg (by omega)] at h
  by_cases z : (k : Int) < -64 ∨ 64 < (k : Int)
  · rw [if_pos z] at h
    cases h
  rw [if_neg z] at h
  unfold qpow at h
  rw [Int.natAbs_natCast] at h
  by_cases y : v.1.natAbs ^ k < 2 ^ 200 ∧ v.2 ^ k < 2 ^ 200
  · exact ⟨by omega, y⟩
  · rw [if_neg y] at h
    cases h
theorem C_operatorPart {m : Nat} {x : GV} (hR : RA R) (hm : m ≤ 3 ∨ m = 5) (hv : Gd v) (hp : Gd p) (hw : Gd w) (hr : Gd r) (hx : q2 m v w = .inr x) (h5 : m = 5 → ∃ k : Nat, w = ((k : Int), 1)) (hj : j + 1 < 80) (h3 : I 1784 3 = (Int32.ofNat (j + 2))) (V : FU I 1786 7 v.1 v.2) (W : FU I 1791 7 w.1 w.2) (P : FU I (1806 + 5 * j) 7 p.1 p.2) (Q : FU I (1806 + 5 * (j + 1)) 7 r.1 r.2) : QK (f_X8_operatorPart (mg (4562 + zn J) I J R) 1784 (Int32.ofNat (m))) (Csl I J R j (slP m v p w r)) := by
  have v0 := hv.2.1
  have p0 := hp.2.1
  have w0 := hw.2.1
  have r0 := hr.2.1
  have lit : ∀ k : Nat, k ≤ 13 → ((Int32.ofNat (m)) = (Int32.ofNat (k)) ↔ m = k) := fun k hk => i32_eq (by omega) (by omega)
  unfold f_X8_operatorPart
  rw [if_neg (show ¬ (Int32.ofNat (m)) = (11 : Int32) from fun y => absurd ((lit 11 (by first | decide | omega)).mp y) (by omega))]
  unfold f_X8_operatorPart_j11
  rw [gi_1784, h3, if_pos (show (2 : Int32) ≤ (Int32.ofNat (j + 2)) from (i32_le (k := 2) (by omega) (by omega)).mpr (by omega)), gr_1784_2 hR, gi_1784, h3, show (Int32.ofNat (j + 2)) - (2 : Int32) = (Int32.ofNat (j)) from n_sub (b := 2) (by omega), C_prt hR (by omega), gr_1784_2 hR, gi_1784, h3, show (Int32.ofNat (j + 2)) - (1 : Int32) = (Int32.ofNat (j + 1)) from n_sub (b := 1) (by omega), C_prt hR (by omega)]
  unfold slP
  by_cases q0 : m = 0
  · rw [if_pos q0, if_pos (show (Int32.ofNat (m)) = (0 : Int32) from (lit 0 (by first | decide | omega)).mpr q0), gr_1784_1 hR, gr_1784_6 hR, if_pos (show xk (mg (4562 + zn J) I J R) 1 0 = true from ok_1)]
    refine q_bind (A_sum (p := 7) (q := 7) (s' := 1) hR isF_1796 P Q (g7 hp).1 (g7 hp).2 (g7 hr).1 (g7 hr).2 (by first | decide | omega) (Or.inl ⟨rfl, rfl⟩)) ?_
    rintro _ ⟨I1, rfl, f1, w1⟩
    refine C_slTail (n := 2) hR (FrS_Fsl (Or.inl rfl) f1) ?_ (Nat.mul_pos p0 r0) (by rw [f1 1784 (fun z => by unfold Sa at z; omega)]; exact h3) (by omega) (Or.inr rfl)
    rw [Int.natCast_mul, Int.mul_assoc 1]
    exact w1
  rw [if_neg q0, if_neg (show ¬ (Int32.ofNat (m)) = (0 : Int32) from fun y => q0 ((lit 0 (by first | decide | omega)).mp y))]
  by_cases q1 : m = 1
  · rw [if_pos q1, if_pos (show (Int32.ofNat (m)) = (1 : Int32) from (lit 1 (by first | decide | omega)).mpr q1), gr_1784_1 hR, gr_1784_6 hR, if_pos (show xk (mg (4562 + zn J) I J R) 1 0 = true from ok_1)]
    refine q_bind (A_sum (p := 7) (q := 7) (s' := -1) hR isF_1796 P Q (g7 hp).1 (g7 hp).2 (g7 hr).1 (g7 hr).2 (by first | decide | omega) (Or.inr ⟨rfl, rfl⟩)) ?_
    rintro _ ⟨I1, rfl, f1, w1⟩
    refine C_slTail (n := 2) hR (FrS_Fsl (Or.inl rfl) f1) ?_ (Nat.mul_pos p0 r0) (by rw [f1 1784 (fun z => by unfold Sa at z; omega)]; exact h3) (by omega) (Or.inr rfl)
    rw [Int.natCast_mul, Int.mul_assoc (-1)]
    exact w1
  rw [if_neg q1, if_neg (show ¬ (Int32.ofNat (m)) = (1 : Int32) from fun y => q1 ((lit 1 (by first | decide | omega)).mp y))]
  have cF : ∀ {I1 : Nat → Nat → Int32}, FrS (fun x => (2 ≤ x ∧ x < 10) ∨ (1796 ≤ x ∧ x < 1806)) I I1 → FrK (Fsl j) I I1 := fun f1 x k y => by
    unfold Fsl at y
    rw [f1 x (by omega)]
  by_cases q2' : m = 2
  · rw [if_pos q2', if_pos (show (Int32.ofNat (m)) = (2 : Int32) from (lit 2 (by first | decide | omega)).mpr q2'), if_pos ok_1784]
    refine q_bind (C_crosswise (s' := 1) hR hv hp hw hr hj V W P Q (Or.inl ⟨rfl, rfl⟩)) ?_
    rintro _ ⟨I1, rfl, f1, w1⟩
    refine C_slTail (n := 2) hR (cF f1) ?_ (Nat.mul_pos (Nat.mul_pos p0 w0) (Nat.mul_pos v0 r0)) (by rw [f1 1784 (by omega)]; exact h3) (by omega) (Or.inr rfl)
    rw [Int.one_mul] at w1
    exact w1
  rw [if_neg q2', if_neg (show ¬ (Int32.ofNat (m)) = (2 : Int32) from fun y => q2' ((lit 2 (by first | decide | omega)).mp y))]
  by_cases q3 : m = 3
  · have wn : w.1 ≠ 0 := by
      rw [q3] at hx
      exact q2_div hx
    have wa : 0 < w.1.natAbs := by omega
    rw [if_pos q3, if_pos (show (Int32.ofNat (m)) = (3 : Int32) from (lit 3 (by first | decide | omega)).mpr q3), if_pos ok_1784]
    refine q_bind (C_crosswise (s' := -1) hR hv hp hw hr hj V W P Q (Or.inr ⟨rfl, rfl⟩)) ?_
    rintro _ ⟨I1, rfl, f1, w1⟩
    have W1 : FU I1 1791 7 w.1 w.2 := FU_keep W (fun x g1 g2 => f1 x (by omega))
    rw [gr_1784_1 hR, gr_1784_7 hR, gr_1784_5 hR, gr_1784_5 hR, if_pos (show xk (mg (4562 + zn J) I1 J R) 1 0 = true from ok_1)]
    refine q_bind (A_times (p := 7) (q := 7) hR isF_1801 W1 W1 (g7 hw).1 (g7 hw).2 (g7 hw).1 (g7 hw).2 (by first | decide | omega)) ?_
    rintro _ ⟨I2, rfl, f2, w2⟩
    have w1' : FU I2 1796 100 _ _ := FU_keep w1 (fun x g1 g2 => f2 x (fun z => by unfold Sa at z; omega))
    rw [gr_1784_1 hR, gr_1784_6 hR, gr_1784_6 hR, gr_1784_7 hR, if_pos (show xk (mg (4562 + zn J) I2 J R) 1 0 = true from ok_1)]
    have bn : (p.1 * w.1 * (v.2 * r.2 : Nat) + -1 * (v.1 * r.1 * (p.2 * w.2 : Nat))).natAbs < Bw 29 := Bw_29 (cw_lt (g7 hp).1 (g7 hw).1 (g7 hv).2 (g7 hr).2) (cw_lt (g7 hv).1 (g7 hr).1 (g7 hp).2 (g7 hw).2) (Or.inr rfl)
    have bd : ((p.2 * w.2 * (v.2 * r.2) : Nat) : Int).natAbs < Bw 29 := by
      rw [Int.natCast_mul, Int.natCast_mul, Int.natCast_mul]
      exact Nat.lt_of_lt_of_le (nm_lt (p := 14) (q := 14) (nm_lt (g7 hp).2 (g7 hw).2) (nm_lt (g7 hv).2 (g7 hr).2)) (Bw_le (by first | decide | omega))
    refine q_bind (A_over (p := 29) (q := 14) hR isF_1796 w1' w2 bn bd (nm_lt (g7 hw).1 (g7 hw).1) (nm_lt (g7 hw).2 (g7 hw).2) (by first | decide | omega)) ?_
    rintro _ ⟨I3, rfl, f3, w3⟩
    refine C_slTail (n := 2) hR (FrK_tr (cF f1) (FrK_tr (FrS_Fsl (Or.inr rfl) f2) (FrS_Fsl (Or.inl rfl) f3))) ?_ (Nat.mul_pos (Nat.mul_pos (Nat.mul_pos p0 w0) (Nat.mul_pos v0 r0)) (Nat.mul_pos wa wa)) ?_ (by omega) (Or.inr rfl)
    · rw [Int.natCast_mul (p.2 * w.2 * (v.2 * r.2)), Int.natAbs_mul_self, Int.natCast_mul w.2 w.2, Int.sub_eq_add_neg, ← Int.neg_one_mul]
      exact w3
    · rw [f3 1784 (fun z => by unfold Sa at z; omega), f2 1784 (fun z => by unfold Sa at z; omega), f1 1784 (by omega)]
      exact h3
  have m5 : m = 5 := by omega
  obtain ⟨k, hk⟩ := h5 m5
  rw [if_neg q3, if_neg (show ¬ (Int32.ofNat (m)) = (3 : Int32) from fun y => q3 ((lit 3 (by first | decide | omega)).mp y)), if_neg (show ¬ (Int32.ofNat (m)) = (4 : Int32) from fun y => absurd ((lit 4 (by first | decide | omega)).mp y) (by omega)), if_pos (show (Int32.ofNat (m)) = (5 : Int32) from (lit 5 (by first | decide | omega)).mpr m5)]
  rw [m5, hk] at hx
  obtain ⟨k1, k2⟩ := q2_pow hx
  exact C_slPower (n := 2) hR hv hp hk k1 k2 (by omega) (Or.inr rfl) h3 V W P
theorem C_negPart (hR : RA R) (hp : Gd p) (hj : j < 80) (h3 : I 1784 3 = (Int32.ofNat (j + 1))) (P : FU I (1806 + 5 * j) 7 p.1 p.2) : QK (f_X8_operatorPart (mg (4562 + zn J) I J R) 1784 (Int32.ofNat (11))) (Csl I J R j (.inr (-p.1, p.2))) := by
  have gn := neg_Gd hp
  unfold f_X8_operatorPart
  rw [if_pos (show (Int32.ofNat (11)) = (11 : Int32) from rfl)]
  unfold f_X8_operatorPart_j11
  rw [gi_1784, h3, if_pos (show (1 : Int32) ≤ (Int32.ofNat (j + 1)) from (i32_le (k := 1) (by omega) (by omega)).mpr (by omega)), gr_1784_2 hR, gi_1784, h3, show (Int32.ofNat (j + 1)) - (1 : Int32) = (Int32.ofNat (j)) from n_sub (b := 1) (by omega), C_prt hR (by omega), gr_1784_2 hR, gi_1784, h3, show (Int32.ofNat (j + 1)) - (1 : Int32) = (Int32.ofNat (j)) from n_sub (b := 1) (by omega), C_prt hR (by omega), if_neg (show ¬ (Int32.ofNat (11)) = (0 : Int32) by decide), if_neg (show ¬ (Int32.ofNat (11)) = (1 : Int32) by decide), if_neg (show ¬ (Int32.ofNat (11)) = (2 : Int32) by decide), if_neg (show ¬ (Int32.ofNat (11)) = (3 : Int32) by decide), if_neg (show ¬ (Int32.ofNat (11)) = (4 : Int32) by decide), if_neg (show ¬ (Int32.ofNat (11)) = (5 : Int32) by decide), if_neg (show ¬ (Int32.ofNat (11)) = (6 : Int32) by decide), if_neg (show ¬ (Int32.ofNat (11)) = (7 : Int32) by decide), if_neg (show ¬ (Int32.ofNat (11)) = (8 : Int32) by decide), if_neg (show ¬ (Int32.ofNat (11)) = (9 : Int32) by decide), if_neg (show ¬ (Int32.ofNat (11)) = (10 : Int32) by decide), if_pos (show (Int32.ofNat (11)) = (11 : Int32) from rfl), gr_1784_6 hR, if_pos (bF_xk isF_1796)]
  refine q_bind (F_copy hR isF_1796 P (Nat.lt_of_lt_of_le (g7 hp).1 (Bw_le (by first | decide | omega))) (Nat.lt_of_lt_of_le (g7 hp).2 (Bw_le (by first | decide | omega))) (by omega)) ?_
  rintro _ ⟨I1, rfl, f1, w1⟩
  rw [gr_1784_6 hR, bF_g0 isF_1796 hR, if_pos (me_xk (by first | decide | omega) (by rw [isF_1796.2.2.2.2.2.1.2.1]))]
  refine q_bind (W_flip w1.2.1) ?_
  rintro _ ⟨I2, rfl, f2, w2⟩
  have w3 : FU I2 1796 100 (-p.1) p.2 := ⟨isF_1796, w2, Wz_fr w1.2.2 f2 (by first | decide | omega) (by first | decide | omega)⟩
  have := C_slTail (J := J) (I0 := I) (n := 1) (j := j) hR (fun x y g => by unfold Fsl at g; rw [f2 x (by omega), f1 x (fun z => by unfold Sf at z; omega)]) w3 hp.2.1 (by rw [f2 1784 (by omega), f1 1784 (fun z => by unfold Sf at z; omega)]; exact h3) hj (Or.inl rfl)
  rw [qfin_cop gn.2.2.2 gn.1 gn.2.2.1] at this
  exact this
end CSM
