/-! polynomials: the reference raises, all of it -/
section MRZ3
variable {I : Nat → Nat → Int32} {J : Nat → Nat → Int64} {R : Nat → Nat → Option Nat} {β : Type} {r i : Nat} {p : Po} {Q W : Nat → Int}
theorem G99 : (Sum.elim (fun g => some g) (fun e => f_X12_raisePolynomial_j99 e.2.2 e.1 e.2.1) : (Int32 × xM) ⊕ (Nat × Int32 × xM) → Option (Int32 × xM)) (.inr (4561, (Int32.ofNat (r)), mg 4625 I J R)) = f_X12_raisePolynomial_j99 (mg 4625 I J R) 4561 (Int32.ofNat (r)) := by
  rw [Sum.elim_inr]
theorem M_57a {e : Nat} {S : Int32 × xM → Prop} (hR : RA R) (hk : ∀ I' k3, FR2 I I' → Rg (I' 4562) (I' 4563) 9 k3 1 → Kp (I 4562) (I 4563) (I' 4562) (I' 4563) 9 → QK ((xloop f_X12_raisePolynomial_s66 xF (4561, (Int32.ofNat (r)), (Int32.ofNat (e)), 0, mg 4625 I' J R)).bind (Sum.elim (fun g => some g) (fun e => f_X12_raisePolynomial_j99 e.2.2 e.1 e.2.1))) S) : QK (f_X12_raisePolynomial_j57 (mg 4625 I J R) 4561 (Int32.ofNat (r)) (Int32.ofNat (e))) S := by
  unfold f_X12_raisePolynomial_j57
  rw [if_pos ok_4561]
  refine q_bind (M_putR (rg := 9) (x := 1) hR (by decide) (by decide)) ?_
  rintro _ ⟨I3, k3, rfl, f3, A9, l3, c3⟩
  rw [q_let]
  exact hk I3 k3 f3 A9 c3
theorem M_raise57 {k : Prop} {e k8 D : Nat} {S : Po} (hR : RA R) (hr : r < 90) (he8 : e ≤ 8) (hk : k) (D0 : 0 < D) (k8b : k8 ≤ 113) (bdS : ∀ n, n + 1 ≤ e → ∀ i, i < 9 → ∀ m, m ≤ i + 1 → (suZ (fun j => qZ W n j * W (i - j)) m).natAbs < Bp 203) (bdD : ∀ n, n ≤ e → D ^ n < Bp 203) (hpow : ∀ i, i < 9 → S i = mkRat (qZ W e i) (D ^ e)) (A8 : Rg (I 4562) (I 4563) 8 k8 D) (W2 : ∀ j, j < 9 → Wn I j (W j)) (Q2 : ∀ j, j < 9 → Wn I (9 + j) (qZ W 0 j)) : QK (f_X12_raisePolynomial_j57 (mg 4625 I J R) 4561 (Int32.ofNat (r)) (Int32.ofNat (e))) (fun y => ∃ I', FrS (fun x => (4562 ≤ x ∧ x ≤ 4564) ∨ (4613 ≤ x ∧ x ≤ 4615)) I I' ∧ Kvs (fun x => 2700 + 9 * r ≤ x ∧ x < 2709 + 9 * r) (I 4564) (I' 4564) ∧ (((k ∧ FitA S) ∧ y = (1, mg 4625 I' J R) ∧ MRow I' r S) ∨ (¬ (k ∧ FitA S) ∧ y = (0, mg 4625 I' J R)))) := by
  refine M_57a hR (fun I3 k3 f3 A9 c3 => ?_)
  refine q_mono (M_raiseEnd (W := W) (k := k) hR hr he8 hk D0 k8b bdS bdD hpow (A8.keep c3 (by decide)) A9 (fun j hj => Wn_fr (W2 j hj) (FR2_lt f3)) (fun j hj => Wn_fr (Q2 j hj) (FR2_lt f3)) (fun _ => G99)) ?_
  rintro y ⟨I5, f5, v5, hy⟩
  exact ⟨I5, fun x hx => by rw [f5 x hx, f3 x (by omega)], fun x hx => by rw [v5 x hx, f3 4564 (by omega)], hy⟩
theorem M_raiseMain {k : Prop} {e k8 D : Nat} {S : Po} (hR : RA R) (hr : r < 90) (he8 : e ≤ 8) (hk : k) (D0 : 0 < D) (k8b : k8 ≤ 113) (bdS : ∀ n, n + 1 ≤ e → ∀ i, i < 9 → ∀ m, m ≤ i + 1 → (suZ (fun j => qZ W n j * W (i - j)) m).natAbs < Bp 203) (bdD : ∀ n, n ≤ e → D ^ n < Bp 203) (hpow : ∀ i, i < 9 → S i = mkRat (qZ W e i) (D ^ e)) (A8 : Rg (I 4562) (I 4563) 8 k8 D) (W1 : ∀ j, j < 9 → Wn I j (W j)) {G : (Int32 × xM) ⊕ (Nat × Int32 × Int32 × xM) → Option (Int32 × xM)} (hG : ∀ I', G (.inr (4561, (Int32.ofNat (r)), (Int32.ofNat (e)), mg 4625 I' J R)) = f_X12_raisePolynomial_j57 (mg 4625 I' J R) 4561 (Int32.ofNat (r)) (Int32.ofNat (e))) : QK ((xloop f_X12_raisePolynomial_s21 xF (4561, (Int32.ofNat (r)), (Int32.ofNat (e)), 0, mg 4625 I J R)).bind G) (fun y => ∃ I', FrS (fun x => (4562 ≤ x ∧ x ≤ 4564) ∨ (4613 ≤ x ∧ x ≤ 4615)) I I' ∧ Kvs (fun x => 2700 + 9 * r ≤ x ∧ x < 2709 + 9 * r) (I 4564) (I' 4564) ∧ (((k ∧ FitA S) ∧ y = (1, mg 4625 I' J R) ∧ MRow I' r S) ∨ (¬ (k ∧ FitA S) ∧ y = (0, mg 4625 I' J R)))) := by
  refine q_bind (M_raiseStart (r := r) (e := e) (W := W) hR W1 A8) ?_
  rintro _ ⟨I2, rfl, f2, W2, Q2, A8⟩
  rw [hG]
  refine q_mono (M_raise57 (W := W) (k := k) hR hr he8 hk D0 k8b bdS bdD hpow A8 W2 Q2) ?_
  rintro y ⟨I5, f5, v5, hy⟩
  exact ⟨I5, fun x hx => by rw [f5 x hx, f2 x (by omega)], fun x hx => by rw [v5 x hx, f2 4564 (by omega)], hy⟩
theorem M_raiseRow {e : Nat} (hR : RA R) (hr : r < 90) (hP : MRow I r p) (kp : PoK p) (he8 : e ≤ 8) : QK (f_X12_raisePolynomial (mg 4625 I J R) 4561 (Int32.ofNat (r)) (Int32.ofNat (e))) (fun y => ∃ I', FrS (fun x => (4562 ≤ x ∧ x ≤ 4564) ∨ (4613 ≤ x ∧ x ≤ 4615)) I I' ∧ Kvs (fun x => 2700 + 9 * r ≤ x ∧ x < 2709 + 9 * r) (I 4564) (I' 4564) ∧ (((dgP p * e ≤ 8 ∧ FitA (powP p e)) ∧ y = (1, mg 4625 I' J R) ∧ MRow I' r (powP p e)) ∨ (¬ (dgP p * e ≤ 8 ∧ FitA (powP p e)) ∧ y = (0, mg 4625 I' J R)))) := by
  have d8 : dgP p ≤ 8 := dgF_le p 8
  have de : dgP p * e ≤ 64 := Nat.mul_le_mul d8 he8
  unfold f_X12_raisePolynomial
  rw [if_pos ok_4561, M_degreeOf hR hr hP, Option.bind_some, n_mul]
  by_cases he : dgP p * e ≤ 8
  rotate_left
  · rw [if_neg (show ¬ (Int32.ofNat (dgP p * e)) ≤ (8 : Int32) from fun y => absurd ((i32_le (m := 8) (by omega) (by omega)).mp y) (by omega))]
    exact q_ok ⟨I, FrS_rfl, Kvs_rfl, Or.inr ⟨fun y => he y.1, rfl⟩⟩
  rw [if_pos (show (Int32.ofNat (dgP p * e)) ≤ (8 : Int32) from (i32_le (m := 8) (by omega) (by omega)).mpr he), if_pos ok_4561]
  obtain ⟨D0, D1, bdS, bdD, hpow⟩ := raise_facts kp he he8
  refine q_bind (M_makeWhole hR hr hP kp.1) ?_
  rintro _ ⟨I1, rfl, f1, ⟨k8, A8⟩, W1⟩
  rw [q_let]
  refine q_mono (M_raiseMain (k := dgP p * e ≤ 8) hR hr he8 he D0 (Rg_le A8 D1) bdS bdD hpow A8 W1 (fun _ => rfl)) ?_
  rintro y ⟨I5, f5, v5, hy⟩
  exact ⟨I5, fun x hx => by rw [f5 x hx, f1 x (by omega)], fun x hx => by rw [v5 x hx, f1 4564 (by omega)], hy⟩
end MRZ3
