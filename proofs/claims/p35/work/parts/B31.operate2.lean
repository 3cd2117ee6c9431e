/-! the class's operators: all of them -/
def foN (m : Nat) (a b : GV) : Nat := if m = 3 then (if b.1 = 0 then 1 else 0) else if m = 4 then (if a.2 ≠ 1 ∨ b.2 ≠ 1 then 2 else if b.1 = 0 then 1 else 0) else if m = 5 then (if b.2 ≠ 1 then 2 else if a.1 = 0 ∧ b.1 < 0 then 1 else if b.1 < -64 ∨ 64 < b.1 then 3 else 0) else if m = 13 then (if a.2 ≠ 1 ∨ b.1 < 0 then 2 else if 30 < b.1 then 3 else 0) else 0
section COQ
variable {I : Nat → Nat → Int32} {J : Nat → Nat → Int64} {R : Nat → Nat → Option Nat} {β : Type} {j h f g : Nat}
theorem C_faultOf {m : Nat} {a b : GV} (hR : RA R) (hm : m ≤ 13) (A : FU I f 7 a.1 a.2) (B : FU I g 7 b.1 b.2) : f_X4_faultOf (mg (4562 + zn J) I J R) (Int32.ofNat (m)) f g = some (Int32.ofNat (foN m a b)) := by
  have lit : ∀ k : Nat, k ≤ 13 → ((Int32.ofNat (m)) = (Int32.ofNat (k)) ↔ m = k) := fun k hk => i32_eq (by omega) (by omega)
  obtain ⟨c1, -, c3, c4, -⟩ := clp_cmp (z := b.1) (k := 0) (by omega)
  obtain ⟨c5, -, -, -, -⟩ := clp_cmp (z := b.1) (k := -64) (by omega)
  obtain ⟨-, c6, -, -, -⟩ := clp_cmp (z := b.1) (k := 64) (by omega)
  obtain ⟨-, c7, -, -, -⟩ := clp_cmp (z := b.1) (k := 30) (by omega)
  have ge0 : (0 : Int32) ≤ Int32.ofInt (clp b.1) ↔ 0 ≤ b.1 := by
    rw [show (0 : Int32) = Int32.ofInt 0 from rfl, ofInt_le (by omega)]
    omega
  have b1 : ((b.2 : Int) = 1) ↔ b.2 = 1 := by omega
  have a1 : ((a.2 : Int) = 1) ↔ a.2 = 1 := by omega
  unfold f_X4_faultOf foN
  rw [bF_g0 B.1 hR, if_pos (me_xk (by have := B.1.2.1; omega) (by rw [B.1.2.2.2.2.2.1.2.1])), W_clamped hR B.2.1, Option.bind_some]
  by_cases q3 : m = 3
  · rw [if_pos (show (Int32.ofNat (m)) = (3 : Int32) from (lit 3 (by first | decide | omega)).mpr q3), if_pos q3, if_pos (bF_xk B.1), F_isZero hR B, Option.bind_some]
    unfold f_X4_faultOf_j64
    by_cases z : b.1 = 0
    · rw [if_pos z, if_neg (by first | decide | omega), if_pos z]
      rfl
    · rw [if_neg z, if_pos rfl, if_neg z]
      rfl
  rw [if_neg (show ¬ (Int32.ofNat (m)) = (3 : Int32) from fun y => q3 ((lit 3 (by first | decide | omega)).mp y)), if_neg q3]
  by_cases q4 : m = 4
  · rw [if_pos (show (Int32.ofNat (m)) = (4 : Int32) from (lit 4 (by first | decide | omega)).mpr q4), if_pos q4, if_pos (bF_xk A.1), F_isWhole hR A, Option.bind_some]
    unfold f_X4_faultOf_j79 f_X4_faultOf_j93
    by_cases w : a.2 = 1
    · rw [if_pos (a1.mpr w), if_neg (by first | decide | omega), if_pos (bF_xk B.1), F_isWhole hR B, Option.bind_some]
      by_cases w2 : b.2 = 1
      · rw [if_pos (b1.mpr w2), if_neg (by first | decide | omega), if_pos (bF_xk B.1), F_isZero hR B, Option.bind_some, if_neg (show ¬ (a.2 ≠ 1 ∨ b.2 ≠ 1) by omega)]
        by_cases z : b.1 = 0
        · rw [if_pos z, if_neg (by first | decide | omega), if_pos z]
          rfl
        · rw [if_neg z, if_pos rfl, if_neg z]
          rfl
      · rw [if_neg (fun y => w2 (b1.mp y)), if_pos rfl, if_pos (show a.2 ≠ 1 ∨ b.2 ≠ 1 from Or.inr w2)]
        rfl
    · rw [if_neg (fun y => w (a1.mp y)), if_pos rfl, if_pos (show a.2 ≠ 1 ∨ b.2 ≠ 1 from Or.inl w)]
      rfl
  rw [if_neg (show ¬ (Int32.ofNat (m)) = (4 : Int32) from fun y => q4 ((lit 4 (by first | decide | omega)).mp y)), if_neg q4]
  by_cases q5 : m = 5
  · rw [if_pos (show (Int32.ofNat (m)) = (5 : Int32) from (lit 5 (by first | decide | omega)).mpr q5), if_pos q5, if_pos (bF_xk B.1), F_isWhole hR B, Option.bind_some]
    by_cases w2 : b.2 = 1
    · have j116 : ¬ (a.1 = 0 ∧ b.1 < 0) → f_X4_faultOf_j116 (mg (4562 + zn J) I J R) (Int32.ofInt (clp b.1)) = some (Int32.ofNat (if a.1 = 0 ∧ b.1 < 0 then 1 else if b.1 < -64 ∨ 64 < b.1 then 3 else 0)) := fun z => by
        unfold f_X4_faultOf_j116 f_X4_faultOf_j128 f_X4_faultOf_j133
        have g64 : (64 : Int32) < Int32.ofInt (clp b.1) ↔ 64 < b.1 := by
          rw [show (64 : Int32) = Int32.ofInt 64 by decide, ofInt_lt (by omega)]
          omega
        have g65 : (-64 : Int32) ≤ Int32.ofInt (clp b.1) ↔ -64 ≤ b.1 := by
          rw [show (-64 : Int32) = Int32.ofInt (-64) by decide, ofInt_le (by omega)]
          omega
        rw [if_neg z]
        by_cases y : 64 < b.1
        · rw [if_pos (g64.mpr y), if_pos (Or.inr y)]
          rfl
        · rw [if_neg (fun x => y (g64.mp x))]
          by_cases x : b.1 < -64
          · rw [if_neg (fun w => by have := g65.mp w; omega), if_pos (Or.inl x)]
            rfl
          · rw [if_pos (g65.mpr (by omega)), if_neg (by omega)]
            rfl
      rw [if_pos (b1.mpr w2), if_neg (by first | decide | omega), if_pos (bF_xk A.1), F_isZero hR A, Option.bind_some, if_neg (show ¬ b.2 ≠ 1 by omega)]
      by_cases z : a.1 = 0
      · rw [if_pos z, if_neg (by first | decide | omega)]
        by_cases y : 0 ≤ b.1
        · rw [if_pos (ge0.mpr y)]
          exact j116 (by omega)
        · rw [if_neg (fun x => y (ge0.mp x)), if_pos (⟨z, by omega⟩ : a.1 = 0 ∧ b.1 < 0)]
          rfl
      · rw [if_neg z, if_pos rfl]
        exact j116 (fun y => z y.1)
    · rw [if_neg (fun y => w2 (b1.mp y)), if_pos rfl, if_pos (show b.2 ≠ 1 from w2)]
      rfl
  rw [if_neg (show ¬ (Int32.ofNat (m)) = (5 : Int32) from fun y => q5 ((lit 5 (by first | decide | omega)).mp y)), if_neg q5]
  by_cases q13 : m = 13
  · rw [if_pos (show (Int32.ofNat (m)) = (13 : Int32) from (lit 13 (by first | decide | omega)).mpr q13), if_pos q13, if_pos (bF_xk A.1), F_isWhole hR A, Option.bind_some]
    unfold f_X4_faultOf_j145 f_X4_faultOf_j158
    by_cases w : a.2 = 1
    · rw [if_pos (a1.mpr w), if_neg (by first | decide | omega)]
      by_cases y : 0 ≤ b.1
      · have g30 : Int32.ofInt (clp b.1) ≤ (30 : Int32) ↔ b.1 ≤ 30 := by
          rw [show (30 : Int32) = Int32.ofInt 30 by decide, ofInt_le (by omega)]
          omega
        rw [if_pos (ge0.mpr y), if_neg (show ¬ (a.2 ≠ 1 ∨ b.1 < 0) by omega)]
        by_cases x : b.1 ≤ 30
        · rw [if_pos (g30.mpr x), if_neg (by omega)]
          rfl
        · rw [if_neg (fun w => x (g30.mp w)), if_pos (by omega)]
          rfl
      · rw [if_neg (fun x => y (ge0.mp x)), if_pos (show a.2 ≠ 1 ∨ b.1 < 0 from Or.inr (by omega))]
        rfl
    · rw [if_neg (fun y => w (a1.mp y)), if_pos rfl, if_pos (show a.2 ≠ 1 ∨ b.1 < 0 from Or.inl w)]
      rfl
  rw [if_neg (show ¬ (Int32.ofNat (m)) = (13 : Int32) from fun y => q13 ((lit 13 (by first | decide | omega)).mp y)), if_neg q13]
  rfl
theorem Gd_inj {a b : GV} (h : Gd a) (h' : Gd b) : a.1 * b.2 = b.1 * a.2 ↔ a.1 = b.1 ∧ (a.2 : Int) = b.2 := by
  constructor
  · intro q
    have hz := h.2.2.2
    have hw := h'.2.2.2
    have q2 : a.1.natAbs * b.2 = b.1.natAbs * a.2 := by
      have := congrArg Int.natAbs q
      rw [Int.natAbs_mul, Int.natAbs_mul, Int.natAbs_natCast, Int.natAbs_natCast] at this
      exact this
    have d1 : a.2 ∣ b.2 := (Nat.Coprime.dvd_of_dvd_mul_left (Nat.Coprime.symm hz) ⟨b.1.natAbs, by rw [q2, Nat.mul_comm]⟩)
    have d2 : b.2 ∣ a.2 := (Nat.Coprime.dvd_of_dvd_mul_left (Nat.Coprime.symm hw) ⟨a.1.natAbs, by rw [← q2, Nat.mul_comm]⟩)
    have de : a.2 = b.2 := Nat.dvd_antisymm d1 d2
    rw [de] at q
    have p := h'.2.1
    exact ⟨Int.eq_of_mul_eq_mul_right (by omega) q, by rw [de]⟩
  · rintro ⟨h1, h2⟩
    rw [h1, h2]
theorem pos_sign {d : Int} (h : 0 < d) : d.sign = 1 := Int.sign_eq_one_of_pos h
theorem C_operate2 {m : Nat} {a b : GV} (hR : RA R) (hm : m ≤ 10) (hj : j + 1 < 240) (h3 : I 567 3 = (Int32.ofNat (j + 2))) (A : FU I (584 + 5 * j) 7 a.1 a.2) (B : FU I (584 + 5 * (j + 1)) 7 b.1 b.2) (ga : Gd a) (gb : Gd b) : QK (f_X4_operate (mg (4562 + zn J) I J R) 567 (Int32.ofNat (m))) (Cop I J R j (q2 m a b)) := by
  obtain ⟨a1, a2, a3, a4⟩ := ga
  obtain ⟨b1, b2, b3, b4⟩ := gb
  have lit : ∀ k : Nat, k ≤ 13 → ((Int32.ofNat (m)) = (Int32.ofNat (k)) ↔ m = k) := fun k hk => i32_eq (by omega) (by omega)
  have na : a.1.natAbs < Bw 7 := b200 a1
  have nb : b.1.natAbs < Bw 7 := b200 b1
  have da : ((a.2 : Nat) : Int).natAbs < Bw 7 := by rw [Int.natAbs_natCast]; exact b200 a3
  have db : ((b.2 : Nat) : Int).natAbs < Bw 7 := by rw [Int.natAbs_natCast]; exact b200 b3
  have pd : (0 : Int) < (a.2 : Int) * (b.2 : Int) := Int.mul_pos (by omega) (by omega)
  have pn : ((a.2 : Int) * (b.2 : Int)).natAbs = a.2 * b.2 := by rw [Int.natAbs_mul, Int.natAbs_natCast, Int.natAbs_natCast]
  have kW : ∀ {I1 : Nat → Nat → Int32}, FrS (Sa 569) I I1 → I1 567 3 = (Int32.ofNat (j + 2)) := fun hF => by
    rw [hF 567 (fun z => by unfold Sa at z; omega)]
    exact h3
  unfold f_X4_operate
  rw [if_pos (show (Int32.ofNat (m)) < (11 : Int32) from (i32_lt (m := 11) (by omega) (by omega)).mpr (by omega))]
  unfold f_X4_operate_j11
  rw [if_neg (show ¬ (Int32.ofNat (m)) < (0 : Int32) from fun y => absurd ((i32_lt (m := 0) (by omega) (by omega)).mp y) (Nat.not_lt_zero _)), gi_567, h3, if_pos (show (2 : Int32) ≤ (Int32.ofNat (j + 2)) from (i32_le (k := 2) (by omega) (by omega)).mpr (by omega)), gr_567_2 hR, gi_567, h3, show (Int32.ofNat (j + 2)) - (1 : Int32) = (Int32.ofNat (j + 1)) from n_sub (b := 1) (by omega), C_stk hR (by omega), gr_567_2 hR, gi_567, h3, show (Int32.ofNat (j + 2)) - (2 : Int32) = (Int32.ofNat (j)) from n_sub (b := 2) (by omega), C_stk hR (by omega), C_faultOf hR (by omega) A B, Option.bind_some]
  by_cases hf : foN m a b = 0
  · rw [if_pos (show (Int32.ofNat (foN m a b)) = 0 by rw [hf]; rfl), q_let]
    by_cases q0 : m = 0
    · rw [if_pos (show (Int32.ofNat (m)) = (0 : Int32) from (lit 0 (by first | decide | omega)).mpr q0), gr_567_1 hR, gr_567_5 hR, if_pos ok_1]
      refine q_bind (A_sum (p := 7) (q := 7) hR isF_569 A B na da nb db (by first | decide | omega) (Or.inl ⟨rfl, rfl⟩)) ?_
      rintro _ ⟨I1, rfl, hF1, hW1⟩
      have := C_opTail (J := J) (I0 := I) (n := 2) hR (FrS_Fop hF1) hW1 (by omega) (kW hF1) (by omega) (Or.inr rfl)
      rw [pos_sign pd, pn, Int.mul_one] at this
      have e : q2 m a b = qfin (a.1 * b.2 + 1 * (b.1 * a.2)) (a.2 * b.2) := by
        rw [q0]
        show qfin (a.1 * b.2 + 1 * b.1 * a.2) (a.2 * b.2) = _
        rw [Int.mul_assoc]
      rw [e]
      exact this
    rw [if_neg (show ¬ (Int32.ofNat (m)) = (0 : Int32) from fun y => q0 ((lit 0 (by first | decide | omega)).mp y))]
    by_cases q1 : m = 1
    · rw [if_pos (show (Int32.ofNat (m)) = (1 : Int32) from (lit 1 (by first | decide | omega)).mpr q1), gr_567_1 hR, gr_567_5 hR, if_pos ok_1]
      refine q_bind (A_sum (p := 7) (q := 7) hR isF_569 A B na da nb db (by first | decide | omega) (Or.inr ⟨rfl, rfl⟩)) ?_
      rintro _ ⟨I1, rfl, hF1, hW1⟩
      have := C_opTail (J := J) (I0 := I) (n := 2) hR (FrS_Fop hF1) hW1 (by omega) (kW hF1) (by omega) (Or.inr rfl)
      rw [pos_sign pd, pn, Int.mul_one] at this
      have e : q2 m a b = qfin (a.1 * b.2 + -1 * (b.1 * a.2)) (a.2 * b.2) := by
        rw [q1]
        show qfin (a.1 * b.2 + -1 * b.1 * a.2) (a.2 * b.2) = _
        rw [Int.mul_assoc]
      rw [e]
      exact this
    rw [if_neg (show ¬ (Int32.ofNat (m)) = (1 : Int32) from fun y => q1 ((lit 1 (by first | decide | omega)).mp y))]
    by_cases p2 : m = 2
    · rw [if_pos (show (Int32.ofNat (m)) = (2 : Int32) from (lit 2 (by first | decide | omega)).mpr p2), gr_567_1 hR, gr_567_5 hR, if_pos ok_1]
      refine q_bind (A_times (p := 7) (q := 7) hR isF_569 A B na da nb db (by first | decide | omega)) ?_
      rintro _ ⟨I1, rfl, hF1, hW1⟩
      have := C_opTail (J := J) (I0 := I) (n := 2) hR (FrS_Fop hF1) hW1 (by omega) (kW hF1) (by omega) (Or.inr rfl)
      rw [pos_sign pd, pn, Int.mul_one] at this
      rw [p2]
      exact this
    rw [if_neg (show ¬ (Int32.ofNat (m)) = (2 : Int32) from fun y => p2 ((lit 2 (by first | decide | omega)).mp y))]
    by_cases p3 : m = 3
    · have z : b.1 ≠ 0 := fun z => by
        rw [p3] at hf
        unfold foN at hf
        rw [if_pos rfl, if_pos z] at hf
        exact absurd hf (by first | decide | omega)
      rw [if_pos (show (Int32.ofNat (m)) = (3 : Int32) from (lit 3 (by first | decide | omega)).mpr p3), gr_567_1 hR, gr_567_5 hR, if_pos ok_1]
      refine q_bind (A_over (p := 7) (q := 7) hR isF_569 A B na da nb db (by first | decide | omega)) ?_
      rintro _ ⟨I1, rfl, hF1, hW1⟩
      have := C_opTail (J := J) (I0 := I) (n := 2) hR (FrS_Fop hF1) hW1 (Int.mul_ne_zero (by omega) z) (kW hF1) (by omega) (Or.inr rfl)
      rw [Int.sign_mul, pos_sign (show (0 : Int) < a.2 by omega), Int.one_mul, Int.natAbs_mul, Int.natAbs_natCast] at this
      have e : q2 m a b = qfin (a.1 * b.2 * b.1.sign) (a.2 * b.1.natAbs) := by
        rw [p3]
        show (if b.1 = 0 then _ else _) = _
        rw [if_neg z]
      rw [e]
      exact this
    rw [if_neg (show ¬ (Int32.ofNat (m)) = (3 : Int32) from fun y => p3 ((lit 3 (by first | decide | omega)).mp y))]
    by_cases p4 : m = 4
    · have z : a.2 = 1 ∧ b.2 = 1 ∧ b.1 ≠ 0 := by
        rw [p4] at hf
        unfold foN at hf
        rw [if_neg (by first | decide | omega), if_pos rfl] at hf
        by_cases w : a.2 ≠ 1 ∨ b.2 ≠ 1
        · rw [if_pos w] at hf; exact absurd hf (by first | decide | omega)
        · rw [if_neg w] at hf
          by_cases w2 : b.1 = 0
          · rw [if_pos w2] at hf; exact absurd hf (by first | decide | omega)
          · exact ⟨by omega, by omega, w2⟩
      obtain ⟨z1, z2, z3⟩ := z
      have A' : FU I (584 + 5 * j) 7 a.1 1 := by
        have := A
        rw [z1] at this
        exact this
      have B' : FU I (584 + 5 * (j + 1)) 7 b.1 1 := by
        have := B
        rw [z2] at this
        exact this
      rw [if_pos (show (Int32.ofNat (m)) = (4 : Int32) from (lit 4 (by first | decide | omega)).mpr p4), gr_567_1 hR, gr_567_5 hR, if_pos ok_1]
      refine q_bind (A_remainder hR isF_569 A' B' na nb z3) ?_
      rintro _ ⟨I1, rfl, hF1, hW1⟩
      have := C_opTail (J := J) (I0 := I) (n := 2) hR (FrS_Fop hF1) hW1 (by first | decide | omega) (kW hF1) (by omega) (Or.inr rfl)
      have lt : (a.1 % b.1).natAbs < 2 ^ 200 := by
        have g1 := Int.emod_nonneg a.1 z3
        have g2 := Int.emod_lt a.1 z3
        omega
      rw [show (1 : Int).sign = 1 from rfl, show (1 : Int).natAbs = 1 from rfl, Int.mul_one, qfin_cop (Nat.gcd_one_right _) lt (by first | decide | omega)] at this
      have e : q2 m a b = .inr (a.1 % b.1, 1) := by
        rw [p4]
        show (if a.2 ≠ 1 ∨ b.2 ≠ 1 then _ else if b.1 = 0 then _ else _) = _
        rw [if_neg (by omega), if_neg z3]
      rw [e]
      exact this
    rw [if_neg (show ¬ (Int32.ofNat (m)) = (4 : Int32) from fun y => p4 ((lit 4 (by first | decide | omega)).mp y))]
    by_cases p5 : m = 5
    · have z : b.2 = 1 ∧ ¬ (a.1 = 0 ∧ b.1 < 0) ∧ ¬ (b.1 < -64 ∨ 64 < b.1) := by
        rw [p5] at hf
        unfold foN at hf
        rw [if_neg (by first | decide | omega), if_neg (by first | decide | omega), if_pos rfl] at hf
        by_cases w : b.2 ≠ 1
        · rw [if_pos w] at hf; exact absurd hf (by first | decide | omega)
        · rw [if_neg w] at hf
          by_cases w2 : a.1 = 0 ∧ b.1 < 0
          · rw [if_pos w2] at hf; exact absurd hf (by first | decide | omega)
          · rw [if_neg w2] at hf
            by_cases w3 : b.1 < -64 ∨ 64 < b.1
            · rw [if_pos w3] at hf; exact absurd hf (by first | decide | omega)
            · exact ⟨by omega, w2, w3⟩
      obtain ⟨z1, z2, z3⟩ := z
      have e : q2 m a b = qpow a b.1 := by
        rw [p5]
        show (if b.2 ≠ 1 then _ else if a.1 = 0 ∧ b.1 < 0 then _ else if b.1 < -64 ∨ 64 < b.1 then _ else _) = _
        rw [if_neg (by omega), if_neg z2, if_neg z3]
      obtain ⟨-, -, -, -, cz⟩ := clp_cmp (z := b.1) (k := 0) (by omega)
      rw [if_pos (show (Int32.ofNat (m)) = (5 : Int32) from (lit 5 (by first | decide | omega)).mpr p5), gr_567_1 hR, gr_567_5 hR, bF_g0 B.1 hR, if_pos (me_xk (by have := B.1.2.1; omega) (by rw [B.1.2.2.2.2.2.1.2.1])), W_clamped hR B.2.1, Option.bind_some, if_pos ok_1, cz (by omega), e]
      refine q_bind (A_power hR isF_569 A a1 (by rw [Int.natAbs_natCast]; exact a3) (by omega) (by omega)) ?_
      unfold qpow
      rintro _ (⟨I1, rfl, pw, hF1, hcase⟩ | ⟨I1, rfl, pw, hF1⟩)
      · obtain ⟨pw1, pw2⟩ := pw
        rw [Int.natAbs_natCast] at pw2
        rw [if_pos (⟨pw1, pw2⟩ : a.1.natAbs ^ b.1.natAbs < 2 ^ 200 ∧ a.2 ^ b.1.natAbs < 2 ^ 200)]
        have cp : Nat.gcd (a.1 ^ b.1.natAbs).natAbs (a.2 ^ b.1.natAbs) = 1 := cop_pow a4
        have np : (a.1 ^ b.1.natAbs).natAbs = a.1.natAbs ^ b.1.natAbs := natAbs_pow' _ _
        have dp : 0 < a.2 ^ b.1.natAbs := Nat.pow_pos a2
        have dpi : ((a.2 : Int) ^ b.1.natAbs) = ((a.2 ^ b.1.natAbs : Nat) : Int) := by rw [Int.natCast_pow]
        rcases hcase with ⟨h0, hW1⟩ | ⟨h0, hW1⟩
        · rw [dpi] at hW1
          have := C_opTail (J := J) (I0 := I) (n := 2) hR (FrS_Fop hF1) hW1 (by omega) (kW hF1) (by omega) (Or.inr rfl)
          rw [pos_sign (by omega), Int.mul_one, Int.natAbs_natCast, qfin_cop cp (by rw [np]; exact pw1) pw2] at this
          rw [if_pos h0]
          exact this
        · rw [dpi] at hW1
          have nz : a.1 ≠ 0 := fun y => z2 ⟨y, h0⟩
          have nz2 : a.1 ^ b.1.natAbs ≠ 0 := fun y => by
            have : a.1.natAbs ^ b.1.natAbs = 0 := by rw [← np, y]; rfl
            have := Nat.pow_pos (n := b.1.natAbs) (show 0 < a.1.natAbs by omega)
            omega
          have := C_opTail (J := J) (I0 := I) (n := 2) hR (FrS_Fop hF1) hW1 nz2 (kW hF1) (by omega) (Or.inr rfl)
          have nn : (((a.2 ^ b.1.natAbs : Nat) : Int) * (a.1 ^ b.1.natAbs).sign).natAbs = a.2 ^ b.1.natAbs := by
            rw [Int.natAbs_mul, Int.natAbs_natCast, Int.natAbs_sign_of_ne_zero nz2, Nat.mul_one]
          rw [qfin_cop (by rw [nn, Nat.gcd_comm]; exact cp) (by rw [nn]; exact pw2) (by rw [np]; exact pw1)] at this
          rw [if_neg (by omega), dpi]
          exact this
      · have pw' : ¬ (a.1.natAbs ^ b.1.natAbs < 2 ^ 200 ∧ a.2 ^ b.1.natAbs < 2 ^ 200) := fun y => pw ⟨y.1, by rw [Int.natAbs_natCast]; exact y.2⟩
        rw [if_neg pw']
        unfold f_X4_operate_j456 f_X4_operate_j472 f_X4_operate_j487
        rw [if_pos rfl, if_pos rfl]
        exact q_ok ⟨I1, FrS_Fop hF1, Or.inr ⟨3, rfl, by decide, by decide, rfl⟩⟩
    rw [if_neg (show ¬ (Int32.ofNat (m)) = (5 : Int32) from fun y => p5 ((lit 5 (by first | decide | omega)).mp y))]
    have sm : ∀ {I1 : Nat → Nat → Int32} {x : Nat}, FrK (Fop j) I I1 → I1 567 3 = (Int32.ofNat (j + 2)) → x ≤ 1 → q2 m a b = .inr ((x : Int), 1) → ∀ {F : xM → Option (Int32 × xM)}, (∀ σ, F σ = f_X4_operate_j456 σ 567 2 (584 + 5 * j) 1) → QK ((f_X2_set (mg (4562 + zn J) I1 J R) 569 (Int64.ofNat x)).bind F) (Cop I J R j (q2 m a b)) := by
      intro I1 x hF1 h31 hx e F hF
      rw [e]
      exact C_opSet (n := 2) hR hF1 hx h31 (by omega) (Or.inr rfl) hF
    have cF : ∀ {I1 : Nat → Nat → Int32}, FrS (fun x => 2 ≤ x ∧ x < 10) I I1 → FrK (Fop j) I I1 ∧ I1 567 3 = (Int32.ofNat (j + 2)) := fun hF => ⟨fun x k y => by rw [hF x (fun z => by unfold Fop at y; omega)], by rw [hF 567 (fun z => by omega)]; exact h3⟩
    by_cases p6 : m = 6
    · rw [if_pos (show (Int32.ofNat (m)) = (6 : Int32) from (lit 6 (by first | decide | omega)).mpr p6), gr_567_5 hR, gr_567_1 hR, if_pos ok_1]
      refine q_bind (A_compare (p := 7) (q := 7) hR A B na da nb db (by first | decide | omega)) ?_
      rintro _ ⟨I1, rfl, hF1⟩
      obtain ⟨f1, f2⟩ := cF hF1
      dsimp only
      unfold f_X4_operate_j274 cmpZ
      by_cases z : a.1 * b.2 < b.1 * a.2
      · rw [if_pos z, if_neg (by first | decide | omega), if_pos (bF_xk isF_569)]
        exact sm (x := 1) f1 f2 (by first | decide | omega) (by rw [p6]; show Sum.inr (if a.1 * b.2 < b.1 * a.2 then (1 : Int) else 0, 1) = _; rw [if_pos z]; rfl) (fun _ => rfl)
      · rw [if_neg z, if_pos (show (0 : Int32) ≤ (if a.1 * b.2 = b.1 * a.2 then 0 else 1) by split <;> decide), if_pos (bF_xk isF_569)]
        exact sm (x := 0) f1 f2 (by first | decide | omega) (by rw [p6]; show Sum.inr (if a.1 * b.2 < b.1 * a.2 then (1 : Int) else 0, 1) = _; rw [if_neg z]; rfl) (fun _ => rfl)
    rw [if_neg (show ¬ (Int32.ofNat (m)) = (6 : Int32) from fun y => p6 ((lit 6 (by first | decide | omega)).mp y))]
    by_cases p7 : m = 7
    · have gi := Gd_inj (a := a) (b := b) ⟨a1, a2, a3, a4⟩ ⟨b1, b2, b3, b4⟩
      rw [if_pos (show (Int32.ofNat (m)) = (7 : Int32) from (lit 7 (by first | decide | omega)).mpr p7), gr_567_5 hR, if_pos (bF_xk A.1), F_sameAs hR A B, Option.bind_some]
      unfold f_X4_operate_j298
      by_cases z : a.1 = b.1 ∧ (a.2 : Int) = b.2
      · rw [if_pos z, if_neg (by first | decide | omega), if_pos (bF_xk isF_569)]
        exact sm (x := 1) FrK_rfl h3 (by first | decide | omega) (by rw [p7]; show Sum.inr (if a.1 * b.2 = b.1 * a.2 then (1 : Int) else 0, 1) = _; rw [if_pos (gi.mpr z)]; rfl) (fun _ => rfl)
      · rw [if_neg z, if_pos rfl, if_pos (bF_xk isF_569)]
        exact sm (x := 0) FrK_rfl h3 (by first | decide | omega) (by rw [p7]; show Sum.inr (if a.1 * b.2 = b.1 * a.2 then (1 : Int) else 0, 1) = _; rw [if_neg (fun y => z (gi.mp y))]; rfl) (fun _ => rfl)
    rw [if_neg (show ¬ (Int32.ofNat (m)) = (7 : Int32) from fun y => p7 ((lit 7 (by first | decide | omega)).mp y))]
    by_cases p8 : m = 8
    · rw [if_pos (show (Int32.ofNat (m)) = (8 : Int32) from (lit 8 (by first | decide | omega)).mpr p8), gr_567_5 hR, gr_567_1 hR, if_pos ok_1]
      refine q_bind (A_compare (p := 7) (q := 7) hR A B na da nb db (by first | decide | omega)) ?_
      rintro _ ⟨I1, rfl, hF1⟩
      obtain ⟨f1, f2⟩ := cF hF1
      dsimp only
      unfold f_X4_operate_j326 cmpZ
      by_cases z : b.1 * a.2 < a.1 * b.2
      · rw [if_neg (show ¬ a.1 * b.2 < b.1 * a.2 by omega), if_neg (show ¬ a.1 * b.2 = b.1 * a.2 by omega), if_neg (by first | decide | omega), if_pos (bF_xk isF_569)]
        exact sm (x := 1) f1 f2 (by first | decide | omega) (by rw [p8]; show Sum.inr (if b.1 * a.2 < a.1 * b.2 then (1 : Int) else 0, 1) = _; rw [if_pos z]; rfl) (fun _ => rfl)
      · have z2 : (if a.1 * b.2 < b.1 * a.2 then (-1 : Int32) else if a.1 * b.2 = b.1 * a.2 then 0 else 1) ≤ 0 := by
          by_cases y : a.1 * b.2 < b.1 * a.2
          · rw [if_pos y]; decide
          · rw [if_neg y, if_pos (show a.1 * b.2 = b.1 * a.2 by omega)]
            decide
        rw [if_pos z2, if_pos (bF_xk isF_569)]
        exact sm (x := 0) f1 f2 (by first | decide | omega) (by rw [p8]; show Sum.inr (if b.1 * a.2 < a.1 * b.2 then (1 : Int) else 0, 1) = _; rw [if_neg z]; rfl) (fun _ => rfl)
    rw [if_neg (show ¬ (Int32.ofNat (m)) = (8 : Int32) from fun y => p8 ((lit 8 (by first | decide | omega)).mp y))]
    by_cases p9 : m = 9
    · rw [if_pos (show (Int32.ofNat (m)) = (9 : Int32) from (lit 9 (by first | decide | omega)).mpr p9), gr_567_5 hR, if_pos (bF_xk A.1), F_isZero hR A, Option.bind_some]
      unfold f_X4_operate_j351 f_X4_operate_j356
      by_cases z : a.1 = 0
      · rw [if_pos z, if_neg (by first | decide | omega), if_pos (bF_xk isF_569)]
        exact sm (x := 0) FrK_rfl h3 (by first | decide | omega) (by rw [p9]; show Sum.inr (if a.1 = 0 ∨ b.1 = 0 then (0 : Int) else 1, 1) = _; rw [if_pos (Or.inl z)]; rfl) (fun _ => rfl)
      · rw [if_neg z, if_pos rfl, if_pos (bF_xk B.1), F_isZero hR B, Option.bind_some]
        by_cases y : b.1 = 0
        · rw [if_pos y, if_neg (by first | decide | omega), if_pos (bF_xk isF_569)]
          exact sm (x := 0) FrK_rfl h3 (by first | decide | omega) (by rw [p9]; show Sum.inr (if a.1 = 0 ∨ b.1 = 0 then (0 : Int) else 1, 1) = _; rw [if_pos (Or.inr y)]; rfl) (fun _ => rfl)
        · rw [if_neg y, if_pos rfl, if_pos (bF_xk isF_569)]
          exact sm (x := 1) FrK_rfl h3 (by first | decide | omega) (by rw [p9]; show Sum.inr (if a.1 = 0 ∨ b.1 = 0 then (0 : Int) else 1, 1) = _; rw [if_neg (fun w => w.elim z y)]; rfl) (fun _ => rfl)
    rw [if_neg (show ¬ (Int32.ofNat (m)) = (9 : Int32) from fun y => p9 ((lit 9 (by first | decide | omega)).mp y))]
    have p10 : m = 10 := by omega
    rw [if_pos (show (Int32.ofNat (m)) = (10 : Int32) from (lit 10 (by first | decide | omega)).mpr p10), gr_567_5 hR, if_pos (bF_xk A.1), F_isZero hR A, Option.bind_some]
    unfold f_X4_operate_j385 f_X4_operate_j386
    by_cases z : a.1 = 0
    · rw [if_pos z, if_neg (by first | decide | omega), if_pos (bF_xk B.1), F_isZero hR B, Option.bind_some]
      by_cases y : b.1 = 0
      · rw [if_pos y, if_neg (by first | decide | omega), if_pos (bF_xk isF_569)]
        exact sm (x := 0) FrK_rfl h3 (by first | decide | omega) (by rw [p10]; show Sum.inr (if a.1 = 0 ∧ b.1 = 0 then (0 : Int) else 1, 1) = _; rw [if_pos ⟨z, y⟩]; rfl) (fun _ => rfl)
      · rw [if_neg y, if_pos rfl, if_pos (bF_xk isF_569)]
        exact sm (x := 1) FrK_rfl h3 (by first | decide | omega) (by rw [p10]; show Sum.inr (if a.1 = 0 ∧ b.1 = 0 then (0 : Int) else 1, 1) = _; rw [if_neg (fun w => y w.2)]; rfl) (fun _ => rfl)
    · rw [if_neg z, if_pos rfl, if_pos (bF_xk isF_569)]
      exact sm (x := 1) FrK_rfl h3 (by first | decide | omega) (by rw [p10]; show Sum.inr (if a.1 = 0 ∧ b.1 = 0 then (0 : Int) else 1, 1) = _; rw [if_neg (fun w => z w.1)]; rfl) (fun _ => rfl)
  · have fb : 0 < foN m a b ∧ foN m a b ≤ 3 := by
      refine ⟨Nat.pos_of_ne_zero hf, ?_⟩
      unfold foN
      repeat' split
      all_goals decide
    have e : q2 m a b = .inl (foN m a b) := by
      unfold foN at hf ⊢
      by_cases p3 : m = 3
      · rw [if_pos p3] at hf ⊢
        by_cases z : b.1 = 0
        · rw [if_pos z, p3]
          show (if b.1 = 0 then Sum.inl 1 else _) = _
          rw [if_pos z]
        · rw [if_neg z] at hf; exact absurd rfl hf
      rw [if_neg p3] at hf ⊢
      by_cases p4 : m = 4
      · rw [if_pos p4] at hf ⊢
        rw [p4]
        show (if a.2 ≠ 1 ∨ b.2 ≠ 1 then Sum.inl 2 else if b.1 = 0 then Sum.inl 1 else _) = _
        by_cases w : a.2 ≠ 1 ∨ b.2 ≠ 1
        · rw [if_pos w, if_pos w]
        · rw [if_neg w] at hf ⊢
          rw [if_neg w]
          by_cases z : b.1 = 0
          · rw [if_pos z, if_pos z]
          · rw [if_neg z] at hf; exact absurd rfl hf
      rw [if_neg p4] at hf ⊢
      by_cases p5 : m = 5
      · rw [if_pos p5] at hf ⊢
        rw [p5]
        show (if b.2 ≠ 1 then Sum.inl 2 else if a.1 = 0 ∧ b.1 < 0 then Sum.inl 1 else if b.1 < -64 ∨ 64 < b.1 then Sum.inl 3 else _) = _
        by_cases w : b.2 ≠ 1
        · rw [if_pos w, if_pos w]
        · rw [if_neg w] at hf ⊢
          rw [if_neg w]
          by_cases w2 : a.1 = 0 ∧ b.1 < 0
          · rw [if_pos w2, if_pos w2]
          · rw [if_neg w2] at hf ⊢
            rw [if_neg w2]
            by_cases w3 : b.1 < -64 ∨ 64 < b.1
            · rw [if_pos w3, if_pos w3]
            · rw [if_neg w3] at hf; exact absurd rfl hf
      rw [if_neg p5, if_neg (show ¬ m = 13 by omega)] at hf
      exact absurd rfl hf
    rw [if_neg (show ¬ (Int32.ofNat (foN m a b)) = 0 from i32_ne (b := 0) (by omega) (by omega) (by omega)), e]
    exact q_ok ⟨I, FrK_rfl, Or.inr ⟨_, rfl, fb.1, by omega, rfl⟩⟩
theorem C_operate1 {m : Nat} {a : GV} (hR : RA R) (hm : 11 ≤ m ∧ m ≤ 13) (hj : j < 240) (h3 : I 567 3 = (Int32.ofNat (j + 1))) (A : FU I (584 + 5 * j) 7 a.1 a.2) (ga : Gd a) : QK (f_X4_operate (mg (4562 + zn J) I J R) 567 (Int32.ofNat (m))) (Cop I J R j (q1 m a)) := by
  obtain ⟨a1, a2, a3, a4⟩ := ga
  have lit : ∀ k : Nat, k ≤ 13 → ((Int32.ofNat (m)) = (Int32.ofNat (k)) ↔ m = k) := fun k hk => i32_eq (by omega) (by omega)
  have na : a.1.natAbs < Bw 100 := Nat.lt_trans (b200 a1) (by decide +kernel)
  have da : ((a.2 : Nat) : Int).natAbs < Bw 100 := by rw [Int.natAbs_natCast]; exact Nat.lt_trans (b200 a3) (by decide +kernel)
  unfold f_X4_operate
  rw [if_neg (show ¬ (Int32.ofNat (m)) < (11 : Int32) from fun y => absurd ((i32_lt (m := 11) (by omega) (by omega)).mp y) (by omega))]
  unfold f_X4_operate_j11
  rw [if_neg (show ¬ (Int32.ofNat (m)) < (0 : Int32) from fun y => absurd ((i32_lt (m := 0) (by omega) (by omega)).mp y) (Nat.not_lt_zero _)), gi_567, h3, if_pos (show (1 : Int32) ≤ (Int32.ofNat (j + 1)) from (i32_le (k := 1) (by omega) (by omega)).mpr (by omega)), gr_567_2 hR, gi_567, h3, show (Int32.ofNat (j + 1)) - (1 : Int32) = (Int32.ofNat (j)) from n_sub (b := 1) (by omega), C_stk hR (by omega), gr_567_2 hR, gi_567, h3, show (Int32.ofNat (j + 1)) - (1 : Int32) = (Int32.ofNat (j)) from n_sub (b := 1) (by omega), C_stk hR (by omega), C_faultOf hR (by omega) A A, Option.bind_some]
  have nl : ∀ k : Nat, k ≤ 10 → ¬ (Int32.ofNat (m)) = (Int32.ofNat (k)) := fun k hk y => by have := (lit k (by omega)).mp y; omega
  have skip : ∀ {α : Type} (x0 x1 x2 x3 x4 x5 x6 x7 x8 x9 x10 y : α), (if (Int32.ofNat (m)) = 0 then x0 else if (Int32.ofNat (m)) = 1 then x1 else if (Int32.ofNat (m)) = 2 then x2 else if (Int32.ofNat (m)) = 3 then x3 else if (Int32.ofNat (m)) = 4 then x4 else if (Int32.ofNat (m)) = 5 then x5 else if (Int32.ofNat (m)) = 6 then x6 else if (Int32.ofNat (m)) = 7 then x7 else if (Int32.ofNat (m)) = 8 then x8 else if (Int32.ofNat (m)) = 9 then x9 else if (Int32.ofNat (m)) = 10 then x10 else y) = y := by
    intro α x0 x1 x2 x3 x4 x5 x6 x7 x8 x9 x10 y
    rw [if_neg (show ¬ (Int32.ofNat (m)) = 0 from nl 0 (by first | decide | omega)), if_neg (show ¬ (Int32.ofNat (m)) = 1 from nl 1 (by first | decide | omega)), if_neg (show ¬ (Int32.ofNat (m)) = 2 from nl 2 (by first | decide | omega)), if_neg (show ¬ (Int32.ofNat (m)) = 3 from nl 3 (by first | decide | omega)), if_neg (show ¬ (Int32.ofNat (m)) = 4 from nl 4 (by first | decide | omega)), if_neg (show ¬ (Int32.ofNat (m)) = 5 from nl 5 (by first | decide | omega)), if_neg (show ¬ (Int32.ofNat (m)) = 6 from nl 6 (by first | decide | omega)), if_neg (show ¬ (Int32.ofNat (m)) = 7 from nl 7 (by first | decide | omega)), if_neg (show ¬ (Int32.ofNat (m)) = 8 from nl 8 (by first | decide | omega)), if_neg (show ¬ (Int32.ofNat (m)) = 9 from nl 9 (by first | decide | omega)), if_neg (show ¬ (Int32.ofNat (m)) = 10 from nl 10 (by first | decide | omega))]
  by_cases hf : foN m a a = 0
  · rw [if_pos (show (Int32.ofNat (foN m a a)) = 0 by rw [hf]; rfl), q_let, skip]
    by_cases p11 : m = 11
    · rw [if_pos (show (Int32.ofNat (m)) = (11 : Int32) from (lit 11 (by first | decide | omega)).mpr p11), gr_567_5 hR, if_pos (bF_xk isF_569)]
      refine q_bind (F_copy hR isF_569 A na da (by omega)) ?_
      rintro _ ⟨I1, rfl, hF1, hW1⟩
      rw [gr_567_5 hR, bF_g0 isF_569 hR, if_pos (show xk (mg (4562 + zn J) I1 J R) (569 + 1) 10 = true from me_xk (by first | decide | omega) (by decide +kernel))]
      refine q_bind (W_flip hW1.2.1) ?_
      rintro _ ⟨I2, rfl, hF2, hV2⟩
      have hW2 : FU I2 569 100 (-a.1) a.2 := ⟨isF_569, hV2, Wz_keep hW1.2.2 (hF2 _ (by omega)) (hF2 _ (by omega))⟩
      have h32 : I2 567 3 = (Int32.ofNat (j + 1)) := by
        rw [hF2 567 (by omega), hF1 567 (fun z => by unfold Sf at z; omega)]
        exact h3
      have f2 : FrK (Fop j) I I2 := fun x k y => by rw [hF2 x (fun z => by unfold Fop at y; omega), hF1 x (fun z => by unfold Sf at z; unfold Fop at y; omega)]
      have := C_opTail (J := J) (I0 := I) (n := 1) hR f2 hW2 (by omega) h32 (by omega) (Or.inl rfl)
      rw [Int.sign_eq_one_of_pos (by omega), Int.mul_one, Int.natAbs_natCast, qfin_cop (by rw [Int.natAbs_neg]; exact a4) (by rw [Int.natAbs_neg]; exact a1) a3] at this
      have e : q1 m a = .inr (-a.1, a.2) := by rw [p11]; rfl
      rw [e]
      exact this
    rw [if_neg (show ¬ (Int32.ofNat (m)) = (11 : Int32) from fun y => p11 ((lit 11 (by first | decide | omega)).mp y))]
    by_cases p12 : m = 12
    · rw [if_pos (show (Int32.ofNat (m)) = (12 : Int32) from (lit 12 (by first | decide | omega)).mpr p12), gr_567_5 hR, if_pos (bF_xk A.1), F_isZero hR A, Option.bind_some]
      unfold f_X4_operate_j431
      by_cases z : a.1 = 0
      · have e : q1 m a = .inr (((1 : Nat) : Int), 1) := by rw [p12]; show Sum.inr (if a.1 = 0 then (1 : Int) else 0, 1) = _; rw [if_pos z]; rfl
        rw [if_pos z, if_neg (by first | decide | omega), if_pos (bF_xk isF_569), e]
        exact C_opSet (n := 1) (m := 1) hR FrK_rfl (by first | decide | omega) h3 (by omega) (Or.inl rfl) (fun _ => rfl)
      · have e : q1 m a = .inr (((0 : Nat) : Int), 1) := by rw [p12]; show Sum.inr (if a.1 = 0 then (1 : Int) else 0, 1) = _; rw [if_neg z]; rfl
        rw [if_neg z, if_pos rfl, if_pos (bF_xk isF_569), e]
        exact C_opSet (n := 1) (m := 0) hR FrK_rfl (by first | decide | omega) h3 (by omega) (Or.inl rfl) (fun _ => rfl)
    rw [if_neg (show ¬ (Int32.ofNat (m)) = (12 : Int32) from fun y => p12 ((lit 12 (by first | decide | omega)).mp y))]
    have p13 : m = 13 := by omega
    have z : a.2 = 1 ∧ 0 ≤ a.1 ∧ a.1 ≤ 30 := by
      rw [p13] at hf
      unfold foN at hf
      rw [if_neg (by first | decide | omega), if_neg (by first | decide | omega), if_neg (by first | decide | omega), if_pos rfl] at hf
      by_cases w : a.2 ≠ 1 ∨ a.1 < 0
      · rw [if_pos w] at hf; exact absurd hf (by first | decide | omega)
      · rw [if_neg w] at hf
        by_cases w2 : 30 < a.1
        · rw [if_pos w2] at hf; exact absurd hf (by first | decide | omega)
        · omega
    obtain ⟨z1, z2, z3⟩ := z
    obtain ⟨-, -, -, -, cz⟩ := clp_cmp (z := a.1) (k := 0) (by omega)
    have en : Int32.ofInt a.1 = (Int32.ofNat (a.1.toNat)) := by
      rw [← Int.toNat_of_nonneg z2]
      rfl
    rw [gr_567_1 hR, gr_567_5 hR, bF_g0 A.1 hR, if_pos (me_xk (by have := A.1.2.1; omega) (by rw [A.1.2.2.2.2.2.1.2.1])), W_clamped hR A.2.1, Option.bind_some, if_pos ok_1, cz (by omega), en]
    refine q_bind (A_factorial hR isF_569 (by omega)) ?_
    rintro _ ⟨I1, rfl, hF1, hW1⟩
    have h31 : I1 567 3 = (Int32.ofNat (j + 1)) := by
      rw [hF1 567 (fun z => by unfold Sa at z; omega)]
      exact h3
    have := C_opTail (J := J) (I0 := I) (n := 1) hR (FrS_Fop hF1) hW1 (by first | decide | omega) h31 (by omega) (Or.inl rfl)
    rw [qfin_1 (fct_le _ (by omega))] at this
    have e : q1 m a = .inr ((fct a.1.toNat : Nat), 1) := by
      rw [p13]
      show (if a.2 ≠ 1 ∨ a.1 < 0 then _ else if 30 < a.1 then _ else _) = _
      rw [if_neg (by omega), if_neg (by omega)]
    rw [e]
    exact this
  · have q13 : m = 13 := by
      refine Classical.byContradiction (fun y => hf ?_)
      unfold foN
      rw [if_neg (by omega), if_neg (by omega), if_neg (by omega), if_neg y]
    have e : q1 m a = .inl (foN m a a) ∧ foN m a a ≤ 3 := by
      rw [q13] at hf ⊢
      unfold foN at hf ⊢
      rw [if_neg (by first | decide | omega), if_neg (by first | decide | omega), if_neg (by first | decide | omega), if_pos rfl] at hf ⊢
      show (if a.2 ≠ 1 ∨ a.1 < 0 then Sum.inl 2 else if 30 < a.1 then Sum.inl 3 else _) = _ ∧ _
      by_cases w : a.2 ≠ 1 ∨ a.1 < 0
      · rw [if_pos w, if_pos w]; exact ⟨rfl, by decide⟩
      · rw [if_neg w] at hf ⊢
        rw [if_neg w]
        by_cases w2 : 30 < a.1
        · rw [if_pos w2, if_pos w2]; exact ⟨rfl, by decide⟩
        · rw [if_neg w2] at hf; exact absurd rfl hf
    rw [if_neg (show ¬ (Int32.ofNat (foN m a a)) = 0 from i32_ne (b := 0) (by omega) (by omega) hf), e.1]
    exact q_ok ⟨I, FrK_rfl, Or.inr ⟨_, rfl, Nat.pos_of_ne_zero hf, by omega, rfl⟩⟩
end COQ
