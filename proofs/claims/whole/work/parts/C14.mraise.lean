/-! polynomials: the reference raises -/
section MRZ
variable {I : Nat → Nat → Int32} {J : Nat → Nat → Int64} {R : Nat → Nat → Option Nat} {β : Type} {r i : Nat} {p : Po} {Q W : Nat → Int}
theorem M_raiseIn {k8 k9 D E : Nat} (hR : RA R) (hi : i < 9) (hW : ∀ j, j < 9 → Wn I j (W j)) (hQ : ∀ j, j < 9 → Wn I (9 + j) (Q j)) (hS : ∀ m, m ≤ i + 1 → (suZ (fun j => Q j * W (i - j)) m).natAbs < Bp 203) (h6 : ∃ k, Rg (I 4562) (I 4563) 6 k 0) (h8 : Rg (I 4562) (I 4563) 8 k8 D) (h9 : Rg (I 4562) (I 4563) 9 k9 E) : QK (xloop f_X12_raiseWhole_s19 xF (4561, (Int32.ofNat (i)), 0, 0, mg 4625 I J R)) (fun x => ∃ I' k, x = .inr (4561, (Int32.ofNat (i)), Int32.ofInt (suZ (fun j => Q j * W (i - j)) (i + 1)).sign, mg 4625 I' J R) ∧ FR2 I I' ∧ Rg (I' 4562) (I' 4563) 6 k (suZ (fun j => Q j * W (i - j)) (i + 1)).natAbs ∧ Rg (I' 4562) (I' 4563) 8 k8 D ∧ Rg (I' 4562) (I' 4563) 9 k9 E) := by
  obtain ⟨k6, h6⟩ := h6
  refine q_for (i + 1) (fun j s => ∃ I' k, s = (4561, (Int32.ofNat (i)), Int32.ofInt (suZ (fun j => Q j * W (i - j)) j).sign, (Int32.ofNat (j)), mg 4625 I' J R) ∧ FR2 I I' ∧ Rg (I' 4562) (I' 4563) 6 k (suZ (fun j => Q j * W (i - j)) j).natAbs ∧ Rg (I' 4562) (I' 4563) 8 k8 D ∧ Rg (I' 4562) (I' 4563) 9 k9 E) ?_ ?_ (i := 0) ⟨I, k6, rfl, FrS_rfl, h6, h8, h9⟩ (by omega) (by unfold xF; omega)
  · rintro j s hj ⟨I1, k1, rfl, f1, A6, A8, A9⟩
    have W1 : Wn I1 (i - j) (W (i - j)) := Wn_fr (hW (i - j) (by omega)) (FR2_lt f1)
    have Q1 : Wn I1 (9 + j) (Q j) := Wn_fr (hQ j (by omega)) (FR2_lt f1)
    have es : suZ (fun j => Q j * W (i - j)) (j + 1) = suZ (fun j => Q j * W (i - j)) j + Q j * W (i - j) := rfl
    unfold f_X12_raiseWhole_s19
    dsimp only
    rw [q_let, q_let, q_let, q_let, q_let, if_neg (show ¬ (Int32.ofNat (i)) < (Int32.ofNat (j)) from fun y => absurd ((i32_lt (by omega) (by omega)).mp y) (by omega)), gr_4561_72 hR, show (9 : Int32) + (Int32.ofNat (j)) = (Int32.ofNat (9 + j)) from n_add 9 j, ga_4615 (by omega), gr_4561_72 hR, show (0 : Int32) + (Int32.ofNat (i)) = (Int32.ofNat (i)) from (n_add 0 i).trans (by rw [Nat.zero_add]), show (Int32.ofNat (i)) - (Int32.ofNat (j)) = (Int32.ofNat (i - j)) from n_sub (by omega), ga_4615 (by omega), q_let, Q1.2, W1.2, sg_mul]
    by_cases z : Q j * W (i - j) = 0
    · rw [if_pos (ofInt_sign0.mpr z)]
      unfold f_X12_raiseWhole_j90
      rw [q_let, show (Int32.ofNat (j)) + (1 : Int32) = (Int32.ofNat (j + 1)) from n_add j 1]
      rw [z, Int.add_zero] at es
      refine q_go ⟨I1, k1, ?_, f1, ?_, A8, A9⟩
      · rw [es]
      · rw [es]
        exact A6
    rw [if_neg (fun y => z (ofInt_sign0.mp y)), if_pos ok_4561]
    refine q_bind (M_loadWhole (w := 9 + j) (r := 2) hR (by omega) (by decide) Q1) ?_
    rintro _ ⟨I2, k2, rfl, f2, A2, l2, c2⟩
    rw [if_pos ok_4561]
    have A6 := A6.keep c2 (by decide)
    have A8 := A8.keep c2 (by decide)
    have A9 := A9.keep c2 (by decide)
    refine q_bind (M_loadWhole (w := i - j) (r := 3) hR (by omega) (by decide) (Wn_fr W1 (FR2_lt f2))) ?_
    rintro _ ⟨I3, k3, rfl, f3, A3, l3, c3⟩
    rw [if_pos ok_4561]
    have A2 := A2.keep c3 (by decide)
    have A6 := A6.keep c3 (by decide)
    have A8 := A8.keep c3 (by decide)
    have A9 := A9.keep c3 (by decide)
    refine q_bind (M_times (t := 7) (r := 2) (w := 3) hR (by decide) (by decide) (by decide) (by decide) (by decide) A2 A3 (by omega)) ?_
    rintro _ ⟨I4, k4, rfl, f4, A4, l4, c4⟩
    rw [if_pos ok_4561]
    have A6 := A6.keep c4 (by decide)
    have A8 := A8.keep c4 (by decide)
    have A9 := A9.keep c4 (by decide)
    rw [← Int.natAbs_mul] at A4
    have b4 : (Q j * W (i - j)).natAbs < Bp 432 := Nat.lt_of_lt_of_le A4.2.2.1 (Bp_le (by omega))
    have b6 := hS j (by omega)
    have b5 : Bp 203 ≤ Bp 432 := Bp_le (by decide)
    have b7 : Bp 433 = Bp 432 * 65536 := Bp_s 432
    have b8 : Bp 433 ≤ Bp 440 := Bp_le (by decide)
    refine q_bind (M_signed hR A6 A4 (by omega)) ?_
    rintro _ ⟨I5, k5, rfl, f5, A5, c5⟩
    have A8 := A8.kl c5 (by decide)
    have A9 := A9.kl c5 (by decide)
    unfold f_X12_raiseWhole_j90
    dsimp only
    rw [q_let, show (Int32.ofNat (j)) + (1 : Int32) = (Int32.ofNat (j + 1)) from n_add j 1]
    exact q_go ⟨I5, k5, rfl, FrS_tr (FrS_tr (FrS_tr (FrS_tr f1 f2) f3) f4) f5, A5, A8, A9⟩
  · rintro s ⟨I1, k1, rfl, f1, A6, A8, A9⟩
    unfold f_X12_raiseWhole_s19
    dsimp only
    rw [q_let, q_let, q_let, q_let, q_let, if_pos ((i32_lt (by omega) (by omega)).mpr (Nat.lt_succ_self _))]
    exact q_ex ⟨I1, k1, rfl, f1, A6, A8, A9⟩
theorem M_raiseWhole {k8 k9 D E : Nat} (hR : RA R) (hW : ∀ j, j < 9 → Wn I j (W j)) (hQ : ∀ j, j < 9 → Wn I (9 + j) (Q j)) (hS : ∀ i, i < 9 → ∀ m, m ≤ i + 1 → (suZ (fun j => Q j * W (i - j)) m).natAbs < Bp 203) (h8 : Rg (I 4562) (I 4563) 8 k8 D) (h9 : Rg (I 4562) (I 4563) 9 k9 E) : QK (f_X12_raiseWhole (mg 4625 I J R) 4561) (fun x => ∃ I', x = mg 4625 I' J R ∧ FRw I I' ∧ (∀ j, j < 9 → Wn I' j (W j)) ∧ (∀ j, j < 9 → Wn I' (9 + j) (suZ (fun m => Q m * W (j - m)) (j + 1))) ∧ Rg (I' 4562) (I' 4563) 8 k8 D ∧ Rg (I' 4562) (I' 4563) 9 k9 E) := by
  unfold f_X12_raiseWhole
  rw [q_let]
  refine q_bind (P := fun x => ∃ I', x = .inr (4561, mg 4625 I' J R) ∧ FRw I I' ∧ (∀ j, j < 9 → Wn I' j (W j)) ∧ (∀ j, j < 9 → Wn I' (18 + j) (suZ (fun m => Q m * W (j - m)) (j + 1))) ∧ Rg (I' 4562) (I' 4563) 8 k8 D ∧ Rg (I' 4562) (I' 4563) 9 k9 E) ?_ ?_
  · refine q_for 9 (fun i s => ∃ I', s = (4561, (Int32.ofNat (i)), mg 4625 I' J R) ∧ FRw I I' ∧ (∀ j, j < 9 → Wn I' j (W j)) ∧ (∀ j, j < 9 → Wn I' (9 + j) (Q j)) ∧ (∀ j, j < i → Wn I' (18 + j) (suZ (fun m => Q m * W (j - m)) (j + 1))) ∧ Rg (I' 4562) (I' 4563) 8 k8 D ∧ Rg (I' 4562) (I' 4563) 9 k9 E) ?_ ?_ (i := 0) ⟨I, rfl, FrS_rfl, hW, hQ, fun j hj => absurd hj (Nat.not_lt_zero _), h8, h9⟩ (by omega) (by unfold xF; omega)
    · rintro i s hi ⟨I1, rfl, f1, W1, Q1, N1, A8, A9⟩
      unfold f_X12_raiseWhole_s2
      dsimp only
      rw [q_let, q_let, q_let, if_neg (show ¬ (9 : Int32) ≤ (Int32.ofNat (i)) from fun y => absurd ((i32_le (k := 9) (by omega) (by omega)).mp y) (by omega)), if_pos ok_4561]
      refine q_bind (M_putR (rg := 6) (x := 0) hR (by decide) (by decide)) ?_
      rintro _ ⟨I2, k2, rfl, f2, A6, -, c2⟩
      rw [q_let, q_let]
      refine q_bind (M_raiseIn (i := i) (Q := Q) (W := W) hR hi (fun j hj => Wn_fr (W1 j hj) (FR2_lt f2)) (fun j hj => Wn_fr (Q1 j hj) (FR2_lt f2)) (hS i hi) ⟨k2, A6⟩ (A8.keep c2 (by decide)) (A9.keep c2 (by decide))) ?_
      rintro _ ⟨I3, k3, rfl, f3, A6, A8, A9⟩
      simp only [Sum.elim_inr]
      unfold f_X12_raiseWhole_j96
      have k3b := Rg_le A6 (hS i hi (i + 1) (Nat.le_refl _))
      rw [if_pos ok_4561, show (18 : Int32) + (Int32.ofNat (i)) = (Int32.ofNat (18 + i)) from n_add 18 i]
      refine q_bind (M_keepWhole (w := 18 + i) (r := 6) hR (by omega) (by decide) A6 (by omega) (Or.inr rfl)) ?_
      rintro _ ⟨I4, rfl, f4, W4⟩
      rw [q_let, show (Int32.ofNat (i)) + (1 : Int32) = (Int32.ofNat (i + 1)) from n_add i 1]
      have f23 := FR2_lt (FrS_tr f2 f3)
      refine q_go ⟨I4, rfl, FrS_tr (FrS_tr (FrS_tr f1 (FR2_w f2)) (FR2_w f3)) (Fwh_w f4), fun j hj => Wn_keep (Wn_fr (W1 j hj) f23) f4 (by omega), fun j hj => Wn_keep (Wn_fr (Q1 j hj) f23) f4 (by omega), fun j hj => ?_, Fwh_R f4 A8, Fwh_R f4 A9⟩
      by_cases z : j = i
      · subst z
        exact W4
      · exact Wn_keep (Wn_fr (N1 j (by omega)) f23) f4 (by omega)
    · rintro s ⟨I1, rfl, f1, W1, Q1, N1, A8, A9⟩
      unfold f_X12_raiseWhole_s2
      dsimp only
      rw [q_let, q_let, q_let, if_pos (by decide)]
      exact q_ex ⟨I1, rfl, f1, W1, N1, A8, A9⟩
  · rintro _ ⟨I1, rfl, f1, W1, N1, A8, A9⟩
    simp only [Sum.elim_inr]
    unfold f_X12_raiseWhole_j113
    rw [q_let]
    refine q_bind (P := fun x => ∃ I', x = .inr (mg 4625 I' J R) ∧ FRw I I' ∧ (∀ j, j < 9 → Wn I' j (W j)) ∧ (∀ j, j < 9 → Wn I' (9 + j) (suZ (fun m => Q m * W (j - m)) (j + 1))) ∧ Rg (I' 4562) (I' 4563) 8 k8 D ∧ Rg (I' 4562) (I' 4563) 9 k9 E) ?_ ?_
    · refine q_for 9 (fun i s => ∃ I', s = (4561, (Int32.ofNat (i)), mg 4625 I' J R) ∧ FRw I I' ∧ (∀ j, j < 9 → Wn I' j (W j)) ∧ (∀ j, j < 9 → Wn I' (18 + j) (suZ (fun m => Q m * W (j - m)) (j + 1))) ∧ (∀ j, j < i → Wn I' (9 + j) (suZ (fun m => Q m * W (j - m)) (j + 1))) ∧ Rg (I' 4562) (I' 4563) 8 k8 D ∧ Rg (I' 4562) (I' 4563) 9 k9 E) ?_ ?_ (i := 0) ⟨I1, rfl, f1, W1, N1, fun j hj => absurd hj (Nat.not_lt_zero _), A8, A9⟩ (by omega) (by unfold xF; omega)
      · rintro i s hi ⟨I2, rfl, f2, W2, N2, g2, A8, A9⟩
        unfold f_X12_raiseWhole_s115
        dsimp only
        rw [q_let, q_let, q_let, if_neg (show ¬ (9 : Int32) ≤ (Int32.ofNat (i)) from fun y => absurd ((i32_le (k := 9) (by omega) (by omega)).mp y) (by omega)), if_pos ok_4561, show (18 : Int32) + (Int32.ofNat (i)) = (Int32.ofNat (18 + i)) from n_add 18 i]
        refine q_bind (M_loadWhole (w := 18 + i) (r := 2) hR (by omega) (by decide) (N2 i hi)) ?_
        rintro _ ⟨I3, k3, rfl, f3, A3, l3, c3⟩
        have N3 := Wn_fr (N2 i hi) (FR2_lt f3)
        rw [gr_4561_72 hR, ga_4615 (by omega), if_pos ok_4561, show (9 : Int32) + (Int32.ofNat (i)) = (Int32.ofNat (9 + i)) from n_add 9 i, N3.2]
        refine q_bind (M_keepWhole (w := 9 + i) (r := 2) hR (by omega) (by decide) A3 l3 (Or.inr rfl)) ?_
        rintro _ ⟨I4, rfl, f4, W4⟩
        rw [q_let, show (Int32.ofNat (i)) + (1 : Int32) = (Int32.ofNat (i + 1)) from n_add i 1]
        refine q_go ⟨I4, rfl, FrS_tr (FrS_tr f2 (FR2_w f3)) (Fwh_w f4), fun j hj => Wn_keep (Wn_fr (W2 j hj) (FR2_lt f3)) f4 (by omega), fun j hj => Wn_keep (Wn_fr (N2 j hj) (FR2_lt f3)) f4 (by omega), fun j hj => ?_, Fwh_R f4 (A8.keep c3 (by decide)), Fwh_R f4 (A9.keep c3 (by decide))⟩
        by_cases z : j = i
        · subst z
          exact W4
        · exact Wn_keep (Wn_fr (g2 j (by omega)) (FR2_lt f3)) f4 (by omega)
      · rintro s ⟨I2, rfl, f2, W2, N2, g2, A8, A9⟩
        unfold f_X12_raiseWhole_s115
        dsimp only
        rw [q_let, q_let, q_let, if_pos (by decide)]
        exact q_ex ⟨I2, rfl, f2, W2, g2, A8, A9⟩
    · rintro _ ⟨I2, rfl, f2, W2, g2, A8, A9⟩
      simp only [Sum.elim_inr]
      unfold f_X12_raiseWhole_j154
      exact q_ok ⟨I2, rfl, f2, W2, g2, A8, A9⟩
theorem M_raiseStart {e : Nat} {k8 D : Nat} (hR : RA R) (hW : ∀ j, j < 9 → Wn I j (W j)) (h8 : Rg (I 4562) (I 4563) 8 k8 D) : QK (xloop f_X12_raisePolynomial_s21 xF (4561, (Int32.ofNat (r)), (Int32.ofNat (e)), 0, mg 4625 I J R)) (fun x => ∃ I', x = .inr (4561, (Int32.ofNat (r)), (Int32.ofNat (e)), mg 4625 I' J R) ∧ FRw I I' ∧ (∀ j, j < 9 → Wn I' j (W j)) ∧ (∀ j, j < 9 → Wn I' (9 + j) (qZ W 0 j)) ∧ Rg (I' 4562) (I' 4563) 8 k8 D) := by
  refine q_for 9 (fun i s => ∃ I', s = (4561, (Int32.ofNat (r)), (Int32.ofNat (e)), (Int32.ofNat (i)), mg 4625 I' J R) ∧ FRw I I' ∧ (∀ j, j < 9 → Wn I' j (W j)) ∧ (∀ j, j < i → Wn I' (9 + j) (qZ W 0 j)) ∧ Rg (I' 4562) (I' 4563) 8 k8 D) ?_ ?_ (i := 0) ⟨I, rfl, FrS_rfl, hW, fun j hj => absurd hj (Nat.not_lt_zero _), h8⟩ (by omega) (by unfold xF; omega)
  · rintro i s hi ⟨I1, rfl, f1, W1, g1, A8⟩
    unfold f_X12_raisePolynomial_s21
    dsimp only
    rw [q_let, q_let, q_let, q_let, q_let, if_neg (show ¬ (9 : Int32) ≤ (Int32.ofNat (i)) from fun y => absurd ((i32_le (k := 9) (by omega) (by omega)).mp y) (by omega))]
    have key : ∀ v : Nat, v ≤ 1 → qZ W 0 i = (v : Int) → QK (f_X12_raisePolynomial_j38 (mg 4625 I1 J R) 4561 (Int32.ofNat (r)) (Int32.ofNat (e)) (Int32.ofNat (i)) (Int32.ofNat (v)) 2 4561) (qS (fun s => ∃ I', s = (4561, (Int32.ofNat (r)), (Int32.ofNat (e)), (Int32.ofNat (i + 1)), mg 4625 I' J R) ∧ FRw I I' ∧ (∀ j, j < 9 → Wn I' j (W j)) ∧ (∀ j, j < i + 1 → Wn I' (9 + j) (qZ W 0 j)) ∧ Rg (I' 4562) (I' 4563) 8 k8 D) (fun x => ∃ I', x = .inr (4561, (Int32.ofNat (r)), (Int32.ofNat (e)), mg 4625 I' J R) ∧ FRw I I' ∧ (∀ j, j < 9 → Wn I' j (W j)) ∧ (∀ j, j < 9 → Wn I' (9 + j) (qZ W 0 j)) ∧ Rg (I' 4562) (I' 4563) 8 k8 D)) := fun v hv ev => by
      unfold f_X12_raisePolynomial_j38
      rw [if_pos ok_4561]
      refine q_bind (M_putR (rg := 2) (x := v) hR (by decide) (by omega)) ?_
      rintro _ ⟨I2, k2, rfl, f2, A2, l2, c2⟩
      rw [if_pos ok_4561, show (9 : Int32) + (Int32.ofNat (i)) = (Int32.ofNat (9 + i)) from n_add 9 i]
      have A2 : Rg (I2 4562) (I2 4563) 2 k2 (qZ W 0 i).natAbs := by
        rw [ev, Int.natAbs_natCast]
        exact A2
      refine q_bind (M_keepWhole (w := 9 + i) (r := 2) (sg := 1) hR (by omega) (by decide) A2 (by omega) (by
        rcases (by omega : v = 0 ∨ v = 1) with z | z
        · left
          rw [ev, z]
          rfl
        · right
          rw [ev, z]
          rfl)) ?_
      rintro _ ⟨I3, rfl, f3, W3⟩
      rw [q_let, show (Int32.ofNat (i)) + (1 : Int32) = (Int32.ofNat (i + 1)) from n_add i 1]
      refine q_go ⟨I3, rfl, FrS_tr (FrS_tr f1 (FR2_w f2)) (Fwh_w f3), fun j hj => Wn_keep (Wn_fr (W1 j hj) (FR2_lt f2)) f3 (by omega), fun j hj => ?_, Fwh_R f3 (A8.keep c2 (by decide))⟩
      by_cases z : j = i
      · subst z
        exact W3
      · exact Wn_keep (Wn_fr (g1 j (by omega)) (FR2_lt f2)) f3 (by omega)
    by_cases z : i = 0
    · rw [if_pos (show (Int32.ofNat (i)) = (0 : Int32) by rw [z]; rfl)]
      exact key 1 (by decide) (by show (if i = 0 then (1 : Int) else 0) = _; rw [if_pos z]; rfl)
    · rw [if_neg (show ¬ (Int32.ofNat (i)) = (0 : Int32) from i32_ne (b := 0) (by omega) (by omega) z)]
      exact key 0 (by decide) (by show (if i = 0 then (1 : Int) else 0) = _; rw [if_neg z]; rfl)
  · rintro s ⟨I1, rfl, f1, W1, g1, A8⟩
    unfold f_X12_raisePolynomial_s21
    dsimp only
    rw [q_let, q_let, q_let, q_let, q_let, if_pos (by decide)]
    exact q_ex ⟨I1, rfl, f1, W1, g1, A8⟩
theorem M_raisePow {e k8 k3 : Nat} {D : Nat} (hR : RA R) (he8 : e ≤ 8) (k8b : k8 ≤ 113) (bdS : ∀ n, n + 1 ≤ e → ∀ i, i < 9 → ∀ m, m ≤ i + 1 → (suZ (fun j => qZ W n j * W (i - j)) m).natAbs < Bp 203) (bdD : ∀ n, n ≤ e → D ^ n < Bp 203) (hW : ∀ j, j < 9 → Wn I j (W j)) (hQ : ∀ j, j < 9 → Wn I (9 + j) (qZ W 0 j)) (A8 : Rg (I 4562) (I 4563) 8 k8 D) (A9 : Rg (I 4562) (I 4563) 9 k3 1) : QK (xloop f_X12_raisePolynomial_s66 xF (4561, (Int32.ofNat (r)), (Int32.ofNat (e)), 0, mg 4625 I J R)) (fun x => ∃ I', x = .inr (4561, (Int32.ofNat (r)), mg 4625 I' J R) ∧ FRw I I' ∧ (∀ j, j < 9 → Wn I' (9 + j) (qZ W e j)) ∧ ∃ k, Rg (I' 4562) (I' 4563) 9 k (D ^ e)) := by
  refine q_for e (fun n s => ∃ I', s = (4561, (Int32.ofNat (r)), (Int32.ofNat (e)), (Int32.ofNat (n)), mg 4625 I' J R) ∧ FRw I I' ∧ (∀ j, j < 9 → Wn I' j (W j)) ∧ (∀ j, j < 9 → Wn I' (9 + j) (qZ W n j)) ∧ Rg (I' 4562) (I' 4563) 8 k8 D ∧ ∃ k, Rg (I' 4562) (I' 4563) 9 k (D ^ n)) ?_ ?_ (i := 0) ⟨I, rfl, FrS_rfl, hW, hQ, A8, k3, by rw [Nat.pow_zero]; exact A9⟩ (by omega) (by unfold xF; omega)
  · rintro n s hn ⟨I4, rfl, f4, W4, Q4, A8, k9, A9⟩
    have k9b := Rg_le A9 (bdD n (by omega))
    unfold f_X12_raisePolynomial_s66
    dsimp only
    rw [q_let, q_let, q_let, q_let, q_let, if_neg (show ¬ (Int32.ofNat (e)) ≤ (Int32.ofNat (n)) from fun y => absurd ((i32_le (by omega) (by omega)).mp y) (by omega)), if_pos ok_4561]
    refine q_bind (M_raiseWhole (Q := qZ W n) (W := W) hR W4 Q4 (bdS n (by omega)) A8 A9) ?_
    rintro _ ⟨I5, rfl, f5, W5, Q5, A8, A9⟩
    rw [if_pos ok_4561]
    refine q_bind (M_times (t := 10) (r := 9) (w := 8) hR (by decide) (by decide) (by decide) (by decide) (by decide) A9 A8 (by omega)) ?_
    rintro _ ⟨I6, k6, rfl, f6, A6, -, c6⟩
    rw [if_pos ok_4561]
    refine q_bind (M_copyR (rg := 9) (tg := 10) hR (by decide) (by decide) (by decide) A6) ?_
    rintro _ ⟨I7, rfl, f7, A7, c7⟩
    rw [q_let, show (Int32.ofNat (n)) + (1 : Int32) = (Int32.ofNat (n + 1)) from n_add n 1]
    have f67 := FR2_lt (FrS_tr f6 f7)
    exact q_go ⟨I7, rfl, FrS_tr (FrS_tr (FrS_tr f4 f5) (FR2_w f6)) (FR2_w f7), fun j hj => Wn_fr (W5 j hj) f67, fun j hj => Wn_fr (Q5 j hj) f67, (A8.keep c6 (by decide)).keep c7 (by decide), k6, by rw [Nat.pow_succ]; exact A7⟩
  · rintro s ⟨I4, rfl, f4, W4, Q4, A8, k9, A9⟩
    unfold f_X12_raisePolynomial_s66
    dsimp only
    rw [q_let, q_let, q_let, q_let, q_let, if_pos ((i32_le (by omega) (by omega)).mpr (Nat.le_refl _))]
    exact q_ex ⟨I4, rfl, f4, Q4, k9, A9⟩
theorem M_raiseStore {k : Prop} {Q : Nat → Int} {S : Po} {E k9 : Nat} (hR : RA R) (hr : r < 90) (hk : k) (E0 : 0 < E) (E2 : 2 * E < Bp 440) (hpow : ∀ i, i < 9 → S i = mkRat (Q i) E) (hQ : ∀ j, j < 9 → Wn I (9 + j) (Q j)) (A9 : Rg (I 4562) (I 4563) 9 k9 E) : QK (f_X12_raisePolynomial_j99 (mg 4625 I J R) 4561 (Int32.ofNat (r))) (fun y => ∃ I', FrS (fun x => (4562 ≤ x ∧ x ≤ 4564) ∨ (4613 ≤ x ∧ x ≤ 4615)) I I' ∧ Kvs (fun x => 2700 + 9 * r ≤ x ∧ x < 2709 + 9 * r) (I 4564) (I' 4564) ∧ (((k ∧ FitA S) ∧ y = (1, mg 4625 I' J R) ∧ MRow I' r S) ∨ (¬ (k ∧ FitA S) ∧ y = (0, mg 4625 I' J R)))) := by
  unfold f_X12_raisePolynomial_j99
  rw [q_let, q_let]
  refine q_bind (P := fun x => ∃ I' u, x = .inr (u, mg 4625 I' J R) ∧ FrS (fun x => (4562 ≤ x ∧ x ≤ 4564) ∨ (4613 ≤ x ∧ x ≤ 4615)) I I' ∧ Kvs (fun x => 2700 + 9 * r ≤ x ∧ x < 2709 + 9 * r) (I 4564) (I' 4564) ∧ ((FitA S ∧ u = 1 ∧ MRow I' r S) ∨ (¬ FitA S ∧ u = 0))) ?_ ?_
  · refine q_for 9 (fun i s => ∃ I' u, s = (4561, (Int32.ofNat (r)), u, (Int32.ofNat (i)), mg 4625 I' J R) ∧ FrS (fun x => (4562 ≤ x ∧ x ≤ 4564) ∨ (4613 ≤ x ∧ x ≤ 4615)) I I' ∧ Kvs (fun x => 2700 + 9 * r ≤ x ∧ x < 2709 + 9 * r) (I 4564) (I' 4564) ∧ ((u = 1 ∧ (∀ j, j < 9 → Wn I' (9 + j) (Q j)) ∧ (∃ k, Rg (I' 4562) (I' 4563) 9 k (E)) ∧ ∀ j, j < i → Fit (S j) ∧ Vv (I' 4564) (2700 + 9 * r + j) (S j).num (S j).den) ∨ (u = 0 ∧ ¬ FitA S))) ?_ ?_ (i := 0) ⟨I, 1, rfl, FrS_rfl, Kvs_rfl, Or.inl ⟨rfl, hQ, ⟨k9, A9⟩, fun j hj => absurd hj (Nat.not_lt_zero _)⟩⟩ (by omega) (by unfold xF; omega)
    · rintro i s hi ⟨I5, u, rfl, f5, v5, ⟨rfl, Q5, ⟨k5, B9⟩, g5⟩ | ⟨rfl, nf⟩⟩
      · unfold f_X12_raisePolynomial_s104
        dsimp only
        rw [q_let, q_let, q_let, q_let, q_let, if_neg (show ¬ (9 : Int32) ≤ (Int32.ofNat (i)) from fun y => absurd ((i32_le (k := 9) (by omega) (by omega)).mp y) (by omega)), if_neg (by decide), if_pos ok_4561, show (9 : Int32) + (Int32.ofNat (i)) = (Int32.ofNat (9 + i)) from n_add 9 i]
        refine q_bind (M_loadWhole (w := 9 + i) (r := 0) hR (by omega) (by decide) (Q5 i hi)) ?_
        rintro _ ⟨I6, k6, rfl, f6, A6, l6, c6⟩
        have B9 := B9.keep c6 (by decide)
        rw [if_pos ok_4561]
        refine q_bind (M_copyR (rg := 1) (tg := 9) hR (by decide) (by decide) (by decide) B9) ?_
        rintro _ ⟨I7, rfl, f7, A7, c7⟩
        have B9 := B9.keep c7 (by decide)
        have A6 := A6.keep c7 (by decide)
        have f67 := FrS_tr f6 f7
        have Q7 := Wn_fr (Q5 i hi) (FR2_lt f67)
        rw [cAt, Option.bind_some, gr_4561_72 hR, ga_4615 (by omega), Q7.2, if_pos ok_4561]
        refine q_bind (M_storeR (i := 2700 + 9 * r + i) hR (by omega) A6 A7 E0 E2 (Or.inr rfl)) ?_
        rintro _ ⟨I8, y, rfl, f8, c8, st, -⟩
        rw [q_let, show (Int32.ofNat (i)) + (1 : Int32) = (Int32.ofNat (i + 1)) from n_add i 1]
        obtain ⟨kv, h⟩ := Sto_rat (x := S i) st E0 (hpow i hi).symm
        rw [f67 4564 (by omega)] at kv
        refine q_go ⟨I8, y, rfl, FrS_tr f5 (fun x hx => by rw [f8 x (by omega), f67 x (by omega)]), Kvs_tr v5 (Kv_s kv ⟨by omega, by omega⟩), ?_⟩
        rcases h with ⟨ft, ey, V⟩ | ⟨ft, ey⟩
        · refine Or.inl ⟨ey, fun j hj => Wn_fr (Wn_fr (Q5 j hj) (FR2_lt f67)) (fun x hx => f8 x (by omega)), ⟨k5, B9.kl c8 (by decide)⟩, fun j hj => ?_⟩
          by_cases z : j = i
          · subst z
            exact ⟨ft, V⟩
          · obtain ⟨g, w⟩ := g5 j (by omega)
            exact ⟨g, w.keep kv (by omega)⟩
        · exact Or.inr ⟨ey, fun y => ft (y i hi)⟩
      · have stp : f_X12_raisePolynomial_s104 (4561, (Int32.ofNat (r)), 0, (Int32.ofNat (i)), mg 4625 I5 J R) = some (.inr (.inl (0, mg 4625 I5 J R))) := by
          unfold f_X12_raisePolynomial_s104
          dsimp only
          rw [q_let, q_let, q_let, q_let, q_let]
          split
          · rfl
          · rw [if_pos rfl]
        rw [stp]
        exact q_ex ⟨I5, 0, rfl, f5, v5, Or.inr ⟨nf, rfl⟩⟩
    · rintro s ⟨I5, u, rfl, f5, v5, h⟩
      unfold f_X12_raisePolynomial_s104
      dsimp only
      rw [q_let, q_let, q_let, q_let, q_let, if_pos (by decide)]
      refine q_ex ⟨I5, u, rfl, f5, v5, ?_⟩
      rcases h with ⟨ey, -, -, g5⟩ | ⟨ey, nf⟩
      · exact Or.inl ⟨fun j hj => (g5 j hj).1, ey, fun j hj => (g5 j hj).2⟩
      · exact Or.inr ⟨nf, ey⟩
  · rintro _ ⟨I5, u, rfl, f5, v5, ⟨fa, rfl, g⟩ | ⟨nf, rfl⟩⟩
    · simp only [Sum.elim_inr]
      unfold f_X12_raisePolynomial_j159
      exact q_ok ⟨I5, f5, v5, Or.inl ⟨⟨hk, fa⟩, rfl, g⟩⟩
    · simp only [Sum.elim_inr]
      unfold f_X12_raisePolynomial_j159
      exact q_ok ⟨I5, f5, v5, Or.inr ⟨fun y => nf y.2, rfl⟩⟩
theorem two_E {E : Nat} (h : E < Bp 203) : 2 * E < Bp 440 := by
  have h2 := Bp_s 203
  have h3 := Bp_le (show 203 + 1 ≤ 440 by decide)
  omega
theorem M_raiseEnd {k : Prop} {e k8 k3 D : Nat} {S : Po} (hR : RA R) (hr : r < 90) (he8 : e ≤ 8) (hk : k) (D0 : 0 < D) (k8b : k8 ≤ 113) (bdS : ∀ n, n + 1 ≤ e → ∀ i, i < 9 → ∀ m, m ≤ i + 1 → (suZ (fun j => qZ W n j * W (i - j)) m).natAbs < Bp 203) (bdD : ∀ n, n ≤ e → D ^ n < Bp 203) (hpow : ∀ i, i < 9 → S i = mkRat (qZ W e i) (D ^ e)) (A8 : Rg (I 4562) (I 4563) 8 k8 D) (A9 : Rg (I 4562) (I 4563) 9 k3 1) (W2 : ∀ j, j < 9 → Wn I j (W j)) (Q2 : ∀ j, j < 9 → Wn I (9 + j) (qZ W 0 j)) {G : (Int32 × xM) ⊕ (Nat × Int32 × xM) → Option (Int32 × xM)} (hG : ∀ I', G (.inr (4561, (Int32.ofNat (r)), mg 4625 I' J R)) = f_X12_raisePolynomial_j99 (mg 4625 I' J R) 4561 (Int32.ofNat (r))) : QK ((xloop f_X12_raisePolynomial_s66 xF (4561, (Int32.ofNat (r)), (Int32.ofNat (e)), 0, mg 4625 I J R)).bind G) (fun y => ∃ I', FrS (fun x => (4562 ≤ x ∧ x ≤ 4564) ∨ (4613 ≤ x ∧ x ≤ 4615)) I I' ∧ Kvs (fun x => 2700 + 9 * r ≤ x ∧ x < 2709 + 9 * r) (I 4564) (I' 4564) ∧ (((k ∧ FitA S) ∧ y = (1, mg 4625 I' J R) ∧ MRow I' r S) ∨ (¬ (k ∧ FitA S) ∧ y = (0, mg 4625 I' J R)))) := by
  refine q_bind (M_raisePow (W := W) hR he8 k8b bdS bdD W2 Q2 A8 A9) ?_
  rintro _ ⟨I4, rfl, f4, Q4, k9, A9⟩
  rw [hG]
  refine q_mono (M_raiseStore (k := k) hR hr hk (Nat.pow_pos D0) (two_E (bdD e (Nat.le_refl _))) hpow Q4 A9) ?_
  rintro y ⟨I5, f5, v5, hy⟩
  exact ⟨I5, fun x hx => by rw [f5 x hx, f4 x (by omega)], fun x hx => by rw [v5 x hx, f4 4564 (by omega)], hy⟩
theorem raise_facts {e : Nat} (kp : PoK p) (he : dgP p * e ≤ 8) (he8 : e ≤ 8) : 0 < dnF p 9 ∧ dnF p 9 < Bp 113 ∧ (∀ n, n + 1 ≤ e → ∀ i, i < 9 → ∀ m, m ≤ i + 1 → (suZ (fun j => qZ (whW p (dnF p 9)) n j * whW p (dnF p 9) (i - j)) m).natAbs < Bp 203) ∧ (∀ n, n ≤ e → dnF p 9 ^ n < Bp 203) ∧ ∀ i, i < 9 → powP p e i = mkRat (qZ (whW p (dnF p 9)) e i) (dnF p 9 ^ e) := by
  obtain ⟨a1, a2⟩ := dnF_le p 9
  exact ⟨dnF_pos p 9, Nat.lt_of_le_of_lt a1 (whole_one kp), fun n hn i hi m hm => Nat.lt_of_le_of_lt ((qZ_bd a2 n i hi).2 m hm) (whole_bits kp he he8 hn), fun n hn => Nat.lt_of_le_of_lt (Nat.le_trans (Nat.pow_le_pow_left a1 n) (Nat.le_mul_of_pos_left _ (Nat.pow_pos (by decide)))) (whole_bits kp he he8 hn), fun i hi => qZ_pow (dnF_pos p 9) (fun j hj => whW_mk p hj) e i hi⟩
end MRZ
