/-! the class's machine: a sum begins -/
section SUM3
variable {I : Nat → Nat → Int32} {J : Nat → Nat → Int64} {R : Nat → Nat → Option Nat} {h t c d sc : Nat} {z node stage more nm : Int32} {o : Option Nat}
theorem C_openSum {lo hi : GV} (hR : RA R) (hS : MSt I (h + 2) (t + 1) c d sc) (hK : TKc I R t 2 o node stage z more) (ht : t < 480) (hh : h + 2 ≤ 240) (hsc : sc < 240) (V0 : CV I (584 + 5 * h) lo) (V1 : CV I (584 + 5 * (h + 1)) hi) (gl : Gd lo) (gh : Gd hi) : QK (f_X4_openSum (mg (4562 + zn J) I J R) 567 (Int32.ofNat (t)) nm) (fun r => ((lo.2 ≠ 1 ∨ hi.2 ≠ 1) ∧ r = (2, mg (4562 + zn J) I J R)) ∨ (¬ (lo.2 ≠ 1 ∨ hi.2 ≠ 1) ∧ 30 ≤ hi.1 - lo.1 ∧ ∃ I', r = (3, mg (4562 + zn J) I' J R) ∧ FrK (Fm h t sc) I I') ∨ (¬ (lo.2 ≠ 1 ∨ hi.2 ≠ 1) ∧ ¬ 30 ≤ hi.1 - lo.1 ∧ ∃ I', r = (0, mg (4562 + zn J) I' J R) ∧ FrK (Fm h t sc) I I' ∧ MSt I' (h + 2) (t + 1) c d (sc + 1) ∧ TKc I' R t 2 o node 4 z (Int32.ofNat ((hi.1 - lo.1 + 1).toNat)) ∧ CV I' (584 + 5 * h) lo ∧ CV I' (584 + 5 * (h + 1)) (0, 1) ∧ I' 580 sc = nm ∧ I' 581 sc = 0 ∧ I' 582 sc = (Int32.ofNat (h)) ∧ I' 583 sc = z)) := by
  have hS' := hS
  obtain ⟨s1, s2, s3, s4, s5⟩ := hS
  have e2 : (Int32.ofNat (h + 2)) - (2 : Int32) = (Int32.ofNat (h)) := n_sub (b := 2) (by omega)
  have e1 : (Int32.ofNat (h + 2)) - (1 : Int32) = (Int32.ofNat (h + 1)) := n_sub (b := 1) (by omega)
  have l1 : ((lo.2 : Int) = 1) ↔ lo.2 = 1 := by omega
  have r1 : ((hi.2 : Int) = 1) ↔ hi.2 = 1 := by omega
  unfold f_X4_openSum f_X4_openSum_j51 f_X4_openSum_j137
  rw [gi_567, s1, if_pos (show (2 : Int32) ≤ (Int32.ofNat (h + 2)) from (i32_le (k := 2) (by omega) (by omega)).mpr (by omega)), gr_567_2 hR, gi_567, s1, e2, C_stk hR (by omega), gr_567_2 hR, gi_567, s1, e1, C_stk hR (by omega), if_pos (bF_xk (isF_584 (by omega))), F_isWhole hR V0, Option.bind_some]
  by_cases q1 : lo.2 = 1
  · rw [if_pos (l1.mpr q1), if_neg (by first | decide | omega), if_pos (bF_xk (isF_584 (by omega))), F_isWhole hR V1, Option.bind_some]
    by_cases q2 : hi.2 = 1
    · have nn : ¬ (lo.2 ≠ 1 ∨ hi.2 ≠ 1) := by omega
      rw [if_pos (r1.mpr q2), if_neg (by first | decide | omega), gr_567_1 hR, gr_567_5 hR, if_pos ok_1]
      refine q_bind (A_sum (p := 7) (q := 7) hR isF_569 V1 V0 (b200 gh.1) (by rw [Int.natAbs_natCast]; exact b200 gh.2.2.1) (b200 gl.1) (by rw [Int.natAbs_natCast]; exact b200 gl.2.2.1) (by first | decide | omega) (Or.inr ⟨rfl, rfl⟩)) ?_
      rintro _ ⟨I1, rfl, F1, W1⟩
      have dz : hi.1 * (lo.2 : Int) + -1 * (lo.1 * (hi.2 : Int)) = hi.1 - lo.1 := by
        rw [q1, q2]
        omega
      rw [dz] at W1
      have g1 : ∀ y, ¬ (2 ≤ y ∧ y < 10) → ¬ (569 ≤ y ∧ y < 574) → I1 y = I y := fun y h1 h2 => by rw [F1 y (fun w => by unfold Sa at w; omega)]
      have f1 : FrK (Fm h t sc) I I1 := fun y j w => by
        unfold Fm at w
        rw [g1 y (by omega) (by omega)]
      have S1 : MSt I1 (h + 2) (t + 1) c d sc := by
        unfold MSt
        rw [g1 567 (by omega) (by omega)]
        exact hS'
      generalize hi.1 - lo.1 = D at *
      obtain ⟨c1, c2, c3, c4, -⟩ := clp_cmp (z := D) (k := 0) (by omega)
      obtain ⟨c5, -, -, -, -⟩ := clp_cmp (z := D) (k := 30) (by omega)
      have lt30 : Int32.ofInt (clp D) < (30 : Int32) ↔ D < 30 := by
        rw [show (30 : Int32) = Int32.ofInt 30 by decide, ofInt_lt (by omega)]
        omega
      have ge0 : (0 : Int32) ≤ Int32.ofInt (clp D) ↔ 0 ≤ D := by
        rw [show (0 : Int32) = Int32.ofInt 0 from rfl, ofInt_le (by omega)]
        omega
      rw [gr_567_5 hR, bF_g0 isF_569 hR, if_pos (show xk (mg (4562 + zn J) I1 J R) (569 + 1) 10 = true from me_xk (by first | decide | omega) (by decide +kernel)), W_clamped hR W1.2.1, Option.bind_some]
      by_cases q3 : D < 30
      · rw [if_pos (lt30.mpr q3), gi_567, S1.1, gr_567_10 hR, ga_578 ht, g1 578 (by omega) (by omega), hK.2.2.2.2.1, if_pos ok_567, e2]
        refine q_bind (C_openScope (p := 0) hR S1 hsc) ?_
        rintro _ ⟨I2, rfl, f2, S2, a1, a2, a3, a4, a5⟩
        dsimp only
        rw [if_neg (by first | decide | omega), if_pos (bF_xk (isF_584 (by omega)))]
        refine q_bind (F_set (n := 0) hR (isF_584 (t := h + 1) (by omega)) (by first | decide | omega)) ?_
        rintro _ ⟨I3, rfl, F3, W3⟩
        have g3 : ∀ y, ¬ (584 + 5 * (h + 1) ≤ y ∧ y < 589 + 5 * (h + 1)) → I3 y = I2 y := fun y hy => by rw [F3 y (fun w => by unfold Sf at w; omega)]
        have f3 : FrK (Fm h t sc) I I3 := fun y j w => by
          have w2 := w
          unfold Fm at w2
          rw [g3 y (by omega), f2 y j (by unfold Fm; omega)]
          exact f1 y j w
        have S3 : MSt I3 (h + 2) (t + 1) c d (sc + 1) := by
          unfold MSt
          rw [g3 567 (by omega)]
          exact S2
        have K3 : TKc I3 R t 2 o node stage z more := by
          obtain ⟨z1, z2, z3, z4, z5, z6⟩ := hK
          have e : ∀ y, 574 ≤ y → y ≤ 579 → I3 y t = I y t := fun y h1 h2 => by rw [g3 y (by omega), a5 y t (by omega) (by omega), g1 y (by omega) (by omega)]
          exact ⟨by rw [e 574 (by omega) (by omega)]; exact z1, z2, by rw [e 576 (by omega) (by omega)]; exact z3, by rw [e 577 (by omega) (by omega)]; exact z4, by rw [e 578 (by omega) (by omega)]; exact z5, by rw [e 579 (by omega) (by omega)]; exact z6⟩
        have V03 : CV I3 (584 + 5 * h) lo := CV_keep V0 (fun y h1 h2 => by
          funext j
          rw [g3 y (by omega), a5 y j (by omega) (by omega), g1 y (by omega) (by omega)])
        have sc3 : ∀ y, 580 ≤ y → y ≤ 583 → I3 y sc = I2 y sc := fun y h1 h2 => by rw [g3 y (by omega)]
        have fin : ∀ m : Int32, m = (Int32.ofNat ((D + 1).toNat)) → QK ((wI (mg (4562 + zn J) I3 J R) 579 (Int32.ofNat (t)) m).bind (fun σ22 => (gR σ22 567 4 9).bind (fun x23 => (wI σ22 x23 (Int32.ofNat (t)) (4 : Int32)).bind (fun σ24 => some ((0 : Int32), σ24))))) (fun r => ((lo.2 ≠ 1 ∨ hi.2 ≠ 1) ∧ r = (2, mg (4562 + zn J) I J R)) ∨ (¬ (lo.2 ≠ 1 ∨ hi.2 ≠ 1) ∧ 30 ≤ D ∧ ∃ I', r = (3, mg (4562 + zn J) I' J R) ∧ FrK (Fm h t sc) I I') ∨ (¬ (lo.2 ≠ 1 ∨ hi.2 ≠ 1) ∧ ¬ 30 ≤ D ∧ ∃ I', r = (0, mg (4562 + zn J) I' J R) ∧ FrK (Fm h t sc) I I' ∧ MSt I' (h + 2) (t + 1) c d (sc + 1) ∧ TKc I' R t 2 o node 4 z (Int32.ofNat ((D + 1).toNat)) ∧ CV I' (584 + 5 * h) lo ∧ CV I' (584 + 5 * (h + 1)) (0, 1) ∧ I' 580 sc = nm ∧ I' 581 sc = 0 ∧ I' 582 sc = (Int32.ofNat (h)) ∧ I' 583 sc = z)) := fun m hm => by
          obtain ⟨b1, b2, b3⟩ := TK_more (more' := m) S3 K3
          obtain ⟨d1, d2, d3⟩ := TK_stage (stage' := 4) b2 b3
          rw [gw_579 ht, gr_567_9 hR, gw_577 ht]
          rw [hm] at d3
          refine q_ok (Or.inr (Or.inr ⟨nn, by omega, _, rfl, FrK_tr f3 (Fm_mono (FrK_tr b1 d1) (by omega) (Nat.le_refl _) (by omega)), d2, by rw [hm]; exact d3, CV_keep V03 (fun y h1 h2 => by rw [up_r (by omega), up_r (by omega)]), FU_keep W3 (fun y h1 h2 => by rw [up_r (by omega), up_r (by omega)]), ?_, ?_, ?_, ?_⟩))
          · rw [up_n (by omega), up_n (by omega), sc3 580 (by omega) (by omega)]; exact a1
          · rw [up_n (by omega), up_n (by omega), sc3 581 (by omega) (by omega)]; exact a2
          · rw [up_n (by omega), up_n (by omega), sc3 582 (by omega) (by omega)]; exact a3
          · rw [up_n (by omega), up_n (by omega), sc3 583 (by omega) (by omega)]; exact a4
        rw [gr_567_11 hR]
        by_cases q4 : 0 ≤ D
        · rw [if_pos (ge0.mpr q4)]
          obtain ⟨-, -, -, -, cz⟩ := clp_cmp (z := D) (k := 0) (by omega)
          refine fin _ ?_
          rw [cz (by omega)]
          obtain ⟨n, rfl⟩ := Int.eq_ofNat_of_zero_le q4
          show (Int32.ofNat (n)) + 1 = (Int32.ofNat (((n : Int) + 1).toNat))
          rw [show (Int32.ofNat (n)) + 1 = (Int32.ofNat (n + 1)) from n_add n 1]
          congr 1
        · rw [if_neg (fun y => q4 (ge0.mp y))]
          refine fin _ ?_
          rw [show (D + 1).toNat = 0 by omega]
          rfl
      · rw [if_neg (fun y => q3 (lt30.mp y))]
        exact q_ok (Or.inr (Or.inl ⟨nn, by omega, I1, rfl, f1⟩))
    · rw [if_neg (fun y => q2 (r1.mp y)), if_pos rfl]
      exact q_ok (Or.inl ⟨Or.inr q2, rfl⟩)
  · rw [if_neg (fun y => q1 (l1.mp y)), if_pos rfl]
    exact q_ok (Or.inl ⟨Or.inl q1, rfl⟩)
end SUM3
