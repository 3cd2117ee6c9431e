/-! polynomials: the reference's rows -/
def MRow (I : Nat → Nat → Int32) (r : Nat) (p : Po) : Prop := ∀ i, i < 9 → Vv (I 4564) (2700 + 9 * r + i) (p i).num (p i).den
section MRW
variable {I : Nat → Nat → Int32} {J : Nat → Nat → Int64} {R : Nat → Nat → Option Nat} {β : Type} {r : Nat} {p q : Po}
theorem cAt {σ : xM} {r k : Nat} : f_X12_coefficientAt σ (Int32.ofNat (r)) (Int32.ofNat (k)) = some (Int32.ofNat (2700 + 9 * r + k)) := by
  unfold f_X12_coefficientAt
  rw [show (9 : Int32) * (Int32.ofNat (r)) = (Int32.ofNat (9 * r)) from n_mul 9 r, show (2700 : Int32) + (Int32.ofNat (9 * r)) = (Int32.ofNat (2700 + 9 * r)) from n_add 2700 _, n_add]
theorem M_degreeOf (hR : RA R) (hr : r < 90) (hP : MRow I r p) : f_X12_degreeOf (mg 4625 I J R) 4561 (Int32.ofNat (r)) = some (Int32.ofNat (dgP p)) := by
  have key : QK (xloop (f_X12_degreeOf_s3 (mg 4625 I J R)) xF (4561, (Int32.ofNat (r)), (Int32.ofNat (8)))) (fun x => x = .inr (Int32.ofNat (dgP p))) := by
    refine q_loop (fun d s => d ≤ 8 ∧ s = (4561, (Int32.ofNat (r)), (Int32.ofNat (d))) ∧ dgF p d = dgP p) ?_ (m := 8) ⟨by decide, rfl, rfl⟩ (by unfold xF; omega)
    rintro d s ⟨hd, rfl, ed⟩
    unfold f_X12_degreeOf_s3
    dsimp only
    rw [q_let, q_let, q_let]
    cases d with
    | zero =>
      rw [if_pos (show (Int32.ofNat (0)) ≤ (0 : Int32) by decide)]
      refine q_ex ?_
      rw [← ed]
      rfl
    | succ d =>
      have W := hP (d + 1) (by omega)
      rw [if_neg (show ¬ (Int32.ofNat (d + 1)) ≤ (0 : Int32) from fun y => absurd ((i32_le (m := 0) (by omega) (by omega)).mp y) (by omega)), cAt, Option.bind_some, if_pos ok_4561, M_sign hR (by omega) W, Option.bind_some]
      by_cases z : p (d + 1) = 0
      · rw [if_pos (ofInt_sign0.mpr (rat_0.mpr z)), q_let, n_m1]
        refine q_go ⟨d, Nat.lt_succ_self _, by omega, rfl, ?_⟩
        rw [← ed]
        show _ = if p (d + 1) = 0 then dgF p d else d + 1
        rw [if_pos z]
      · rw [if_neg (fun y => z (rat_0.mp (ofInt_sign0.mp y)))]
        refine q_ex ?_
        rw [← ed]
        show _ = Sum.inr (Int32.ofNat (if p (d + 1) = 0 then dgF p d else d + 1))
        rw [if_neg z]
  obtain ⟨x, ex, rfl⟩ := key
  unfold f_X12_degreeOf f_X12_degreeOf_j25
  rw [q_let, show (8 : Int32) = (Int32.ofNat (8)) from rfl, ex]
  rfl
theorem M_clear (hR : RA R) (hr : r < 90) : QK (f_X12_clear (mg 4625 I J R) 4561 (Int32.ofNat (r))) (fun x => ∃ I', x = mg 4625 I' J R ∧ R3 I I' ∧ Kvs (fun x => 2700 + 9 * r ≤ x ∧ x < 2709 + 9 * r) (I 4564) (I' 4564) ∧ MRow I' r (conP 0)) := by
  have z0 : ∀ j, conP (0 : Rat) j = 0 := fun j => by
    unfold conP
    split <;> rfl
  unfold f_X12_clear
  rw [q_let]
  refine q_bind (P := fun x => ∃ I', x = .inr (mg 4625 I' J R) ∧ R3 I I' ∧ Kvs (fun x => 2700 + 9 * r ≤ x ∧ x < 2709 + 9 * r) (I 4564) (I' 4564) ∧ MRow I' r (conP 0)) ?_ ?_
  · refine q_for 9 (fun i s => ∃ I', s = (4561, (Int32.ofNat (r)), (Int32.ofNat (i)), mg 4625 I' J R) ∧ R3 I I' ∧ Kvs (fun x => 2700 + 9 * r ≤ x ∧ x < 2709 + 9 * r) (I 4564) (I' 4564) ∧ ∀ j, j < i → Vv (I' 4564) (2700 + 9 * r + j) 0 1) ?_ ?_ (i := 0) ⟨I, rfl, R3_rfl, Kvs_rfl, fun j hj => absurd hj (Nat.not_lt_zero _)⟩ (by omega) (by unfold xF; omega)
    · rintro i s hi ⟨I1, rfl, r1, k1, g1⟩
      unfold f_X12_clear_s2
      dsimp only
      rw [q_let, q_let, q_let, q_let, if_neg (show ¬ (9 : Int32) ≤ (Int32.ofNat (i)) from fun y => absurd ((i32_le (k := 9) (by omega) (by omega)).mp y) (by omega)), cAt, Option.bind_some, if_pos ok_4561]
      refine q_bind (M_setInt (i := 2700 + 9 * r + i) (m := 0) hR (by omega) (by decide)) ?_
      rintro _ ⟨I2, rfl, r2, k2, V2⟩
      rw [q_let, show (Int32.ofNat (i)) + (1 : Int32) = (Int32.ofNat (i + 1)) from n_add i 1]
      refine q_go ⟨I2, rfl, R3_tr r1 r2, Kvs_tr k1 (Kv_s k2 ⟨by omega, by omega⟩), fun j hj => ?_⟩
      by_cases z : j = i
      · subst z
        exact V2
      · exact (g1 j (by omega)).keep k2 (by omega)
    · rintro s ⟨I1, rfl, r1, k1, g1⟩
      unfold f_X12_clear_s2
      dsimp only
      rw [q_let, q_let, q_let, q_let, if_pos (by decide)]
      exact q_ex ⟨I1, rfl, r1, k1, fun j hj => by rw [z0]; exact g1 j hj⟩
  · rintro _ ⟨I1, rfl, r1, k1, g1⟩
    simp only [Sum.elim_inr]
    unfold f_X12_clear_j24
    exact q_ok ⟨I1, rfl, r1, k1, g1⟩
end MRW
