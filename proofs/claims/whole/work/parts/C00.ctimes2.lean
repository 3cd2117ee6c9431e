/-! polynomials: the class's rows multiplied -/
theorem lo_dec : ∀ i, i < 9 → ∀ d, d < 9 → (if (Int32.ofNat (i)) - (Int32.ofNat (d)) < (0 : Int32) then (0 : Int32) else (Int32.ofNat (i)) - (Int32.ofNat (d))) = (Int32.ofNat (i - d)) := by decide +kernel
section CT2
variable {I : Nat → Nat → Int32} {J : Nat → Nat → Int64} {R : Nat → Nat → Option Nat} {β : Type} {r d P Q : Nat} {f p : Po}
theorem C_timesRow (hR : RA R) (hr : r < 48) (hd : d ≤ 8) (hf : CFac I f) (hp : CRow I r p) (hF : ∀ j, j < 9 → (f j).num.natAbs < Bw Q ∧ (f j).den < Bw Q) (fp : FitA p) (hS : ∀ i, i < 9 → ∀ m, m ≤ i + 1 → (suR (fun j => f j * p (i - j)) m).num.natAbs < Bw P ∧ (suR (fun j => f j * p (i - j)) m).den < Bw P) (hb : P + Q + 8 ≤ 100) (hd0 : ∀ j, d < j → j < 9 → f j = 0) : QK (f_X3_timesRow (mg 4625 I J R) 2215 (Int32.ofNat (r)) (Int32.ofNat (d))) (fun x => ∃ I', x = mg 4625 I' J R ∧ FrS Ftm I I' ∧ CPro I' (mulP f p)) := by
  have d8 : dgP p ≤ 8 := dgF_le p 8
  unfold f_X3_timesRow
  rw [q_let, show (Int32.ofNat (r)) * (9 : Int32) = (Int32.ofNat (r * 9)) from n_mul r 9, q_let]
  refine q_bind (P := fun x => ∃ I', x = .inr (mg 4625 I' J R) ∧ FrS Ftm I I' ∧ CPro I' (mulP f p)) ?_ ?_
  · refine q_for 9 (fun i s => ∃ I', s = (2215, (Int32.ofNat (r)), (Int32.ofNat (d)), (Int32.ofNat (r * 9)), (Int32.ofNat (i)), mg 4625 I' J R) ∧ FrS Ftm I I' ∧ ∀ j, j < i → FU I' (4406 + 15 * j) 100 (mulP f p j).num (mulP f p j).den) ?_ ?_ (i := 0) ⟨I, rfl, FrS_rfl, fun j hj => absurd hj (Nat.not_lt_zero _)⟩ (by omega) (by unfold xF; omega)
    · rintro i s hi ⟨I1, rfl, f1, g1⟩
      unfold f_X3_timesRow_s8
      dsimp only
      rw [q_let, q_let, q_let, q_let, q_let, q_let, if_neg (show ¬ (9 : Int32) ≤ (Int32.ofNat (i)) from fun y => absurd ((i32_le (k := 9) (by omega) (by omega)).mp y) (by omega)), gr_2215_5 hR, C_pro hR hi, if_pos (bF_xk (isF_pro hi))]
      refine q_bind (F_set (n := 0) hR (isF_pro hi) (by decide)) ?_
      rintro _ ⟨I2, rfl, f2, W2⟩
      have f12 : FrS Ftm I I2 := FrS_tr f1 (fun x y => f2 x (fun z => by unfold Sf at z; unfold Ftm at y; omega))
      have e17 : I2 2217 r = (Int32.ofNat (dgP p)) := by rw [f12 2217 (fun z => by unfold Ftm at z; omega)]; exact hp.2
      rw [gr_2215_3 hR, ga_2217 (by omega), e17, q_let, lo_dec i hi _ (by omega)]
      have z0 : suR (fun j => f j * p (i - j)) (i - dgP p) = 0 := suR_0 _ (fun j hj => by
        show f j * p (i - j) = 0
        rw [dgF_0 p 8 (i - j) (by unfold dgP at hj; omega) (by omega), Rat.mul_zero])
      refine q_bind (C_timesIn (I0 := I) hR hr hi hd hF fp (hS i hi) hb hd0 (10 - (i - dgP p)) (i - dgP p) I2 (by omega) (fun j hj => FU_keep (hf j hj) (fun x g1 g2 => f12 x (fun z => by unfold Ftm at z; omega))) (fun j hj => FU_keep (hp.1 j hj) (fun x g1 g2 => f12 x (fun z => by unfold Ftm at z; omega))) (by rw [z0]; exact W2) (by omega) xF (by unfold xF; omega)) ?_
      rintro _ ⟨I3, rfl, f3, W3⟩
      simp only [Sum.elim_inr]
      unfold f_X3_timesRow_j161
      rw [q_let, show (Int32.ofNat (i)) + (1 : Int32) = (Int32.ofNat (i + 1)) from n_add i 1]
      refine q_go ⟨I3, rfl, FrS_tr f12 (fun x y => f3 x (fun z => by unfold Ftm at y; omega)), fun j hj => ?_⟩
      by_cases z : j = i
      · subst z
        exact W3
      · exact FU_keep (g1 j (by omega)) (fun x g1 g2 => by rw [f3 x (by omega), f2 x (fun z => by unfold Sf at z; omega)])
    · rintro s ⟨I1, rfl, f1, g1⟩
      unfold f_X3_timesRow_s8
      dsimp only
      rw [q_let, q_let, q_let, q_let, q_let, q_let, if_pos (by decide)]
      exact q_ex ⟨I1, rfl, f1, g1⟩
  · rintro _ ⟨I1, rfl, f1, g1⟩
    simp only [Sum.elim_inr]
    unfold f_X3_timesRow_j167
    exact q_ok ⟨I1, rfl, f1, g1⟩
theorem C_takeProduct {S : Po} {D : Nat} (hR : RA R) (hr : r < 48) (hD : D ≤ 8) (hS : CPro I S) (h0 : ∀ j, D < j → j ≤ 8 → S j = 0) : QK (f_X3_takeProduct (mg 4625 I J R) 2215 (Int32.ofNat (r)) (Int32.ofNat (D))) (fun y => ∃ I', FrK (Fga r) I I' ∧ ((FitA S ∧ y = (1, mg 4625 I' J R) ∧ CRow I' r S) ∨ (¬ FitA S ∧ y = (0, mg 4625 I' J R)))) := by
  unfold f_X3_takeProduct
  rw [q_let]
  refine q_bind (P := fun x => (x = .inr (.inr (2215, (Int32.ofNat (r)), (Int32.ofNat (D)))) ∧ FitA S) ∨ (x = .inr (.inl ()) ∧ ¬ FitA S)) ?_ ?_
  · refine q_for 9 (fun i s => s = (2215, (Int32.ofNat (r)), (Int32.ofNat (D)), (Int32.ofNat (i))) ∧ ∀ j, j < i → Fit (S j)) ?_ ?_ (i := 0) ⟨rfl, fun j hj => absurd hj (Nat.not_lt_zero _)⟩ (by omega) (by unfold xF; omega)
    · rintro i s hi ⟨rfl, g1⟩
      have W := hS i hi
      unfold f_X3_takeProduct_s2
      dsimp only
      rw [q_let, q_let, q_let, q_let, if_neg (show ¬ (9 : Int32) ≤ (Int32.ofNat (i)) from fun y => absurd ((i32_le (k := 9) (by omega) (by omega)).mp y) (by omega)), gr_2215_5 hR, C_pro hR hi, if_pos (bF_xk W.1), F_fits hR W, Option.bind_some, Int.natAbs_natCast]
      by_cases ft : Fit (S i)
      · rw [if_pos ft, if_neg (by decide), q_let, show (Int32.ofNat (i)) + (1 : Int32) = (Int32.ofNat (i + 1)) from n_add i 1]
        refine q_go ⟨rfl, fun j hj => ?_⟩
        by_cases z : j < i
        · exact g1 j z
        · rw [show j = i by omega]; exact ft
      · rw [if_neg ft, if_pos rfl]
        exact q_ex (Or.inr ⟨rfl, fun y => ft (y i hi)⟩)
    · rintro s ⟨rfl, g1⟩
      unfold f_X3_takeProduct_s2
      dsimp only
      rw [q_let, q_let, q_let, q_let, if_pos (by decide)]
      exact q_ex (Or.inl ⟨rfl, g1⟩)
  · rintro x (⟨rfl, fa⟩ | ⟨rfl, fa⟩)
    rotate_left
    · simp only [Sum.elim_inr, Sum.elim_inl]
      unfold f_X3_takeProduct_j20
      exact q_ok ⟨I, FrK_rfl, Or.inr ⟨fa, rfl⟩⟩
    simp only [Sum.elim_inr]
    unfold f_X3_takeProduct_j28
    rw [q_let]
    refine q_bind (P := fun x => ∃ I', x = .inr (2215, (Int32.ofNat (r)), (Int32.ofNat (D)), mg 4625 I' J R) ∧ FrK (Fga r) I I' ∧ ∀ j, j < 9 → FU I' (2246 + 5 * (9 * r + j)) 7 (S j).num (S j).den) ?_ ?_
    · refine q_for 9 (fun i s => ∃ I', s = (2215, (Int32.ofNat (r)), (Int32.ofNat (D)), (Int32.ofNat (i)), mg 4625 I' J R) ∧ FrS (fun x => 2246 + 45 * r ≤ x ∧ x < 2291 + 45 * r) I I' ∧ ∀ j, j < i → FU I' (2246 + 5 * (9 * r + j)) 7 (S j).num (S j).den) ?_ ?_ (i := 0) ⟨I, rfl, FrS_rfl, fun j hj => absurd hj (Nat.not_lt_zero _)⟩ (by omega) (by unfold xF; omega)
      · rintro i s hi ⟨I1, rfl, f1, g1⟩
        unfold f_X3_takeProduct_s30
        dsimp only
        rw [q_let, q_let, q_let, q_let, q_let, if_neg (show ¬ (9 : Int32) ≤ (Int32.ofNat (i)) from fun y => absurd ((i32_le (k := 9) (by omega) (by omega)).mp y) (by omega)), gr_2215_2 hR, show (Int32.ofNat (r)) * (9 : Int32) = (Int32.ofNat (r * 9)) from n_mul r 9, n_add, C_rw hR (by omega), gr_2215_5 hR, C_pro hR hi, if_pos (bF_xk (isF_row (by omega))), show r * 9 + i = 9 * r + i by omega]
        have W : FU I1 (4406 + 15 * i) 100 (S i).num (S i).den := FU_keep (hS i hi) (fun x g1 g2 => f1 x (by omega))
        refine q_bind (F_copy hR (isF_row (by omega)) W (Fit_7 (fa i hi)).1 (Fit_7 (fa i hi)).2 (by omega)) ?_
        rintro _ ⟨I2, rfl, f2, W2⟩
        rw [q_let, show (Int32.ofNat (i)) + (1 : Int32) = (Int32.ofNat (i + 1)) from n_add i 1]
        refine q_go ⟨I2, rfl, FrS_tr f1 (fun x y => f2 x (fun z => by unfold Sf at z; omega)), fun j hj => ?_⟩
        by_cases z : j = i
        · subst z
          exact W2
        · exact FU_keep (g1 j (by omega)) (fun x g1 g2 => f2 x (fun z => by unfold Sf at z; omega))
      · rintro s ⟨I1, rfl, f1, g1⟩
        unfold f_X3_takeProduct_s30
        dsimp only
        rw [q_let, q_let, q_let, q_let, q_let, if_pos (by decide)]
        exact q_ex ⟨I1, rfl, fun x k y => by rw [f1 x (fun z => by unfold Fga at y; omega)], g1⟩
    · rintro _ ⟨I1, rfl, f1, g1⟩
      simp only [Sum.elim_inr]
      unfold f_X3_takeProduct_j62
      rw [gr_2215_3 hR, if_pos ok_2215, C_degreeFrom hR (by omega) hD g1, Option.bind_some, gw_2217 (by omega)]
      have ed : dgF S D = dgP S := (dgF_up S 8 hD h0).symm
      rw [ed]
      exact q_ok ⟨_, FrK_up f1 (by unfold Fga; omega), Or.inl ⟨fa, rfl, fun i hi => FU_keep (g1 i hi) (fun x h1 h2 => up_r (by omega)), up_s⟩⟩
/-- how many bits a sum of products has -/
theorem sum_bd {s x y : Rat} {k : Nat} (h1 : s.num.natAbs < 2 ^ k) (h2 : s.den < 2 ^ k) (hx : Fit x) (hy : Fit y) : (s + x * y).num.natAbs < 2 ^ (k + 401) ∧ (s + x * y).den < 2 ^ (k + 401) := by
  have sd : 0 < s.den := Nat.pos_of_ne_zero s.den_nz
  have xd : 0 < x.den := Nat.pos_of_ne_zero x.den_nz
  have yd : 0 < y.den := Nat.pos_of_ne_zero y.den_nz
  have D0 : 0 < s.den * (x.den * y.den) := Nat.mul_pos sd (Nat.mul_pos xd yd)
  rw [← add_mul_rat]
  obtain ⟨e1, e2⟩ := rat_rz (z := s.num * ((x.den * y.den : Nat) : Int) + 1 * (x.num * y.num * (s.den : Int))) D0
  rw [e1, e2, rz_abs]
  have p4 : x.den * y.den < 2 ^ 400 := by
    have := Nat.mul_lt_mul'' hx.2 hy.2
    rw [← Nat.pow_add] at this
    exact this
  have p5 : x.num.natAbs * y.num.natAbs < 2 ^ 400 := by
    have := Nat.mul_lt_mul'' hx.1 hy.1
    rw [← Nat.pow_add] at this
    exact this
  have p6 : s.num.natAbs * (x.den * y.den) < 2 ^ (k + 400) := by
    rw [Nat.pow_add]
    exact Nat.mul_lt_mul'' h1 p4
  have p7 : x.num.natAbs * y.num.natAbs * s.den < 2 ^ (k + 400) := by
    rw [Nat.add_comm, Nat.pow_add]
    exact Nat.mul_lt_mul'' p5 h2
  have p8 : s.den * (x.den * y.den) < 2 ^ (k + 400) := by
    rw [Nat.pow_add]
    exact Nat.mul_lt_mul'' h2 p4
  have p9 : 2 ^ (k + 401) = 2 * 2 ^ (k + 400) := by
    rw [show k + 401 = (k + 400) + 1 by omega, Nat.pow_succ, Nat.mul_comm]
  have n6 : (s.num * ((x.den * y.den : Nat) : Int)).natAbs = s.num.natAbs * (x.den * y.den) := by rw [Int.natAbs_mul, Int.natAbs_natCast]
  have n7 : (1 * (x.num * y.num * (s.den : Int))).natAbs = x.num.natAbs * y.num.natAbs * s.den := by rw [Int.one_mul, Int.natAbs_mul, Int.natAbs_natCast, Int.natAbs_mul]
  generalize s.num * ((x.den * y.den : Nat) : Int) = X at *
  generalize 1 * (x.num * y.num * (s.den : Int)) = Y at *
  generalize 2 ^ (k + 400) = Z at *
  refine ⟨Nat.lt_of_le_of_lt (Nat.div_le_self _ _) (by omega), Nat.lt_of_le_of_lt (Nat.div_le_self _ _) (by omega)⟩
theorem mul_bd {p q : Po} (fp : FitA p) (fq : FitA q) (hd : dgP p + dgP q ≤ 8) {i : Nat} (hi : i < 9) : ∀ m, m ≤ i + 1 → (suR (fun j => q j * p (i - j)) m).num.natAbs < 2 ^ (401 * (min m (dgP q + 1) - (i - dgP p)) + 1) ∧ (suR (fun j => q j * p (i - j)) m).den < 2 ^ (401 * (min m (dgP q + 1) - (i - dgP p)) + 1) := by
  intro m
  induction m with
  | zero =>
    intro _
    have e : (0 : Rat).num.natAbs = 0 := rfl
    have e2 : (0 : Rat).den = 1 := rfl
    show (0 : Rat).num.natAbs < _ ∧ (0 : Rat).den < _
    rw [e, e2]
    exact ⟨Nat.pow_pos (by decide), Nat.one_lt_two_pow (by omega)⟩
  | succ m ih =>
    intro hm
    obtain ⟨g1, g2⟩ := ih (by omega)
    show (suR (fun j => q j * p (i - j)) m + q m * p (i - m)).num.natAbs < _ ∧ (suR (fun j => q j * p (i - j)) m + q m * p (i - m)).den < _
    by_cases z : i - dgP p ≤ m ∧ m < dgP q + 1
    · have := sum_bd g1 g2 (fq m (by omega)) (fp (i - m) (by omega))
      rw [show 401 * (min m (dgP q + 1) - (i - dgP p)) + 1 + 401 = 401 * (min (m + 1) (dgP q + 1) - (i - dgP p)) + 1 by omega] at this
      exact this
    · have e0 : q m * p (i - m) = 0 := by
        by_cases w : m < dgP q + 1
        · rw [dgF_0 p 8 (i - m) (by unfold dgP at z w; omega) (by omega), Rat.mul_zero]
        · rw [dgF_0 q 8 m (by unfold dgP at w; omega) (by omega), Rat.zero_mul]
      rw [e0, Rat.add_zero]
      have le : 2 ^ (401 * (min m (dgP q + 1) - (i - dgP p)) + 1) ≤ 2 ^ (401 * (min (m + 1) (dgP q + 1) - (i - dgP p)) + 1) := Nat.pow_le_pow_right (by decide) (by omega)
      exact ⟨Nat.lt_of_lt_of_le g1 le, Nat.lt_of_lt_of_le g2 le⟩
end CT2
