/-! polynomials: the class raises rows -/
theorem pow_nz {x : Rat} {t : Nat} (h : x ≠ 0) : x ^ t ≠ 0 := by
  intro y
  have := rat_0.mpr y
  rw [Rat.num_pow] at this
  have e := congrArg Int.natAbs this
  rw [Int.natAbs_pow] at e
  have hn : x.num ≠ 0 := fun z => h (rat_0.mp z)
  have : 0 < x.num.natAbs ^ t := Nat.pow_pos (by omega)
  rw [e] at this
  exact absurd this (by decide)
/-- the lowest coefficient that is not zero -/
theorem low_ex {p : Po} {i : Nat} (h : p i ≠ 0) : ∃ a, a ≤ i ∧ p a ≠ 0 ∧ ∀ j, j < a → p j = 0 := by
  induction i using Nat.strongRecOn with
  | _ i ih =>
    by_cases z : ∃ j, j < i ∧ p j ≠ 0
    · obtain ⟨j, j1, j2⟩ := z
      obtain ⟨a, a1, a2, a3⟩ := ih j j1 j2
      exact ⟨a, by omega, a2, a3⟩
    · exact ⟨i, Nat.le_refl _, h, fun j hj => Classical.byContradiction (fun y => z ⟨j, hj, y⟩)⟩
section CRZ
variable {I : Nat → Nat → Int32} {J : Nat → Nat → Int64} {R : Nat → Nat → Option Nat} {β : Type} {r e : Nat} {p S : Po}
theorem C_lowestFits (hR : RA R) (hS : CPro I S) : (f_X3_lowestFits (mg 4625 I J R) 2215 = some 1 ∧ ∀ i, i < 9 → S i = 0) ∨ ∃ i, i < 9 ∧ S i ≠ 0 ∧ (∀ j, j < i → S j = 0) ∧ f_X3_lowestFits (mg 4625 I J R) 2215 = some (if Fit (S i) then 1 else 0) := by
  have key : QK (xloop (f_X3_lowestFits_s2 (mg 4625 I J R)) xF (2215, 0)) (fun x => (x = .inr (.inr ()) ∧ ∀ i, i < 9 → S i = 0) ∨ ∃ i, i < 9 ∧ S i ≠ 0 ∧ (∀ j, j < i → S j = 0) ∧ x = .inr (.inl (2215, (Int32.ofNat (i))))) := by
    refine q_for 9 (fun i s => s = (2215, (Int32.ofNat (i))) ∧ ∀ j, j < i → S j = 0) ?_ ?_ (i := 0) ⟨rfl, fun j hj => absurd hj (Nat.not_lt_zero _)⟩ (by omega) (by unfold xF; omega)
    · rintro i s hi ⟨rfl, g1⟩
      have W := hS i hi
      unfold f_X3_lowestFits_s2
      dsimp only
      rw [q_let, q_let, if_neg (show ¬ (9 : Int32) ≤ (Int32.ofNat (i)) from fun y => absurd ((i32_le (k := 9) (by omega) (by omega)).mp y) (by omega)), gr_2215_5 hR, C_pro hR hi, if_pos (bF_xk W.1), F_isZero hR W, Option.bind_some]
      by_cases z : S i = 0
      · rw [if_pos (rat_0.mpr z), if_neg (by decide), q_let, show (Int32.ofNat (i)) + (1 : Int32) = (Int32.ofNat (i + 1)) from n_add i 1]
        refine q_go ⟨rfl, fun j hj => ?_⟩
        by_cases w : j < i
        · exact g1 j w
        · rw [show j = i by omega]; exact z
      · rw [if_neg (fun y => z (rat_0.mp y)), if_pos rfl]
        exact q_ex (Or.inr ⟨i, hi, z, g1, rfl⟩)
    · rintro s ⟨rfl, g1⟩
      unfold f_X3_lowestFits_s2
      dsimp only
      rw [q_let, q_let, if_pos (by decide)]
      exact q_ex (Or.inl ⟨rfl, g1⟩)
  obtain ⟨x, ex, hx⟩ := key
  unfold f_X3_lowestFits
  rw [q_let, ex, Option.bind_some]
  rcases hx with ⟨rfl, h⟩ | ⟨i, hi, h1, h2, rfl⟩
  · exact Or.inl ⟨rfl, h⟩
  · refine Or.inr ⟨i, hi, h1, h2, ?_⟩
    simp only [Sum.elim_inr, Sum.elim_inl]
    unfold f_X3_lowestFits_j20
    have W := hS i hi
    rw [gr_2215_5 hR, C_pro hR hi, if_pos (bF_xk W.1), F_fits hR W, Option.bind_some, Int.natAbs_natCast]
    by_cases ft : Fit (S i)
    · rw [if_pos ft]
      rfl
    · rw [if_neg ft]
      rfl
/-- what the tests on the way say -/
def RzT (p : Po) (n : Nat) : Prop := (1 ≤ n → p 0 = 0 ∨ Fit (p 0 ^ n)) ∧ (1 ≤ n → Fit (p (dgP p) ^ n))
theorem C_raiseTurn {t : Nat} (hR : RA R) (hr : r < 48) (hP : CRow I r p) (kp : PoK p) (he : dgP p * e ≤ 8) (he8 : e ≤ 8) (ht1 : 1 ≤ t) (ht : t ≤ e) (hS : CPro I (powP p (t - 1))) (hT : RzT p (t - 1)) : QK (f_X3_raiseRow_s56 (2215, (Int32.ofNat (r)), (Int32.ofNat (e)), (Int32.ofNat (dgP p)), (Int32.ofNat (t)), mg 4625 I J R)) (fun x => ∃ I', FrK (fun x k => Fga r x k ∧ x ≠ 2217 ∧ ¬ (2246 ≤ x ∧ x < 4406)) I I' ∧ ((x = .inr (.inr (2215, (Int32.ofNat (r)), (Int32.ofNat (e)), (Int32.ofNat (dgP p)), (Int32.ofNat (t + 1)), mg 4625 I' J R)) ∧ CPro I' (powP p t) ∧ RzT p t) ∨ (x = .inr (.inl (.inl (mg 4625 I' J R))) ∧ ¬ FitA (powP p e)))) := by
  have d8 : dgP p ≤ 8 := dgF_le p 8
  have dt : dgP p * t ≤ 8 := Nat.le_trans (Nat.mul_le_mul_left _ ht) he
  have et : t - 1 + 1 = t := by omega
  obtain ⟨P, Q, pq, hQ, hPs⟩ := raise_bits (n := t - 1) kp (by rw [et]; exact dt) (by omega) hT.1 hT.2
  unfold f_X3_raiseRow_s56
  dsimp only
  rw [q_let, q_let, q_let, q_let, q_let, q_let, if_neg (show ¬ (Int32.ofNat (e)) < (Int32.ofNat (t)) from fun y => absurd ((i32_lt (by omega) (by omega)).mp y) (by omega)), q_let]
  refine q_bind (P := fun x => ∃ I', x = .inr (2215, (Int32.ofNat (r)), (Int32.ofNat (e)), (Int32.ofNat (dgP p)), (Int32.ofNat (t)), mg 4625 I' J R) ∧ FrS (fun x => 4406 ≤ x ∧ x < 4541 ∧ 5 ≤ (x - 4406) % 15 ∧ (x - 4406) % 15 < 10) I I' ∧ CFac I' (powP p (t - 1))) ?_ ?_
  · refine q_for 9 (fun i s => ∃ I', s = (2215, (Int32.ofNat (r)), (Int32.ofNat (e)), (Int32.ofNat (dgP p)), (Int32.ofNat (t)), (Int32.ofNat (i)), mg 4625 I' J R) ∧ FrS (fun x => 4406 ≤ x ∧ x < 4541 ∧ 5 ≤ (x - 4406) % 15 ∧ (x - 4406) % 15 < 10) I I' ∧ ∀ j, j < i → FU I' (4411 + 15 * j) 100 (powP p (t - 1) j).num (powP p (t - 1) j).den) ?_ ?_ (i := 0) ⟨I, rfl, FrS_rfl, fun j hj => absurd hj (Nat.not_lt_zero _)⟩ (by omega) (by unfold xF; omega)
    · rintro i s hi ⟨I1, rfl, f1, g1⟩
      unfold f_X3_raiseRow_s65
      dsimp only
      rw [q_let, q_let, q_let, q_let, q_let, q_let, q_let, if_neg (show ¬ (9 : Int32) ≤ (Int32.ofNat (i)) from fun y => absurd ((i32_le (k := 9) (by omega) (by omega)).mp y) (by omega)), gr_2215_6 hR, C_fac hR hi, gr_2215_5 hR, C_pro hR hi, if_pos (bF_xk (isF_fac hi))]
      have W : FU I1 (4406 + 15 * i) 100 (powP p (t - 1) i).num (powP p (t - 1) i).den := FU_keep (hS i hi) (fun x g1 g2 => f1 x (by omega))
      obtain ⟨b1, b2⟩ := hQ i hi
      refine q_bind (F_copy hR (isF_fac hi) W (Nat.lt_of_lt_of_le b1 (Bw_le (by omega))) (by rw [Int.natAbs_natCast]; exact Nat.lt_of_lt_of_le b2 (Bw_le (by omega))) (by omega)) ?_
      rintro _ ⟨I2, rfl, f2, W2⟩
      rw [q_let, show (Int32.ofNat (i)) + (1 : Int32) = (Int32.ofNat (i + 1)) from n_add i 1]
      refine q_go ⟨I2, rfl, FrS_tr f1 (fun x y => f2 x (fun z => by unfold Sf at z; omega)), fun j hj => ?_⟩
      by_cases z : j = i
      · subst z
        exact W2
      · exact FU_keep (g1 j (by omega)) (fun x g1 g2 => f2 x (fun z => by unfold Sf at z; omega))
    · rintro s ⟨I1, rfl, f1, g1⟩
      unfold f_X3_raiseRow_s65
      dsimp only
      rw [q_let, q_let, q_let, q_let, q_let, q_let, q_let, if_pos (by decide)]
      exact q_ex ⟨I1, rfl, f1, g1⟩
  · rintro _ ⟨I1, rfl, f1, g1⟩
    simp only [Sum.elim_inr]
    unfold f_X3_raiseRow_j95
    have P1 : CRow I1 r p := ⟨fun j hj => FU_keep (hP.1 j hj) (fun x g1 g2 => f1 x (by omega)), by rw [f1 2217 (by omega)]; exact hP.2⟩
    obtain ⟨hi1, hi2⟩ := powP_hi (PoK_hi kp) (t - 1)
    have dt1 : dgP p * (t - 1) ≤ 8 := Nat.le_trans (Nat.mul_le_mul_left _ (by omega)) dt
    rw [if_pos ok_2215, show (Int32.ofNat (t)) - (1 : Int32) = (Int32.ofNat (t - 1)) from n_sub (b := 1) ht1, n_mul]
    refine q_bind (C_timesRow (P := P) (Q := Q) (d := dgP p * (t - 1)) hR hr dt1 g1 P1 hQ kp.1 hPs pq (fun j h1 h2 => hi1 j h1)) ?_
    rintro _ ⟨I2, rfl, f2, g2⟩
    have g2 : CPro I2 (powP p t) := by
      rw [show powP p t = mulP (powP p (t - 1)) p by rw [show t = t - 1 + 1 by omega]; rfl]
      exact g2
    have f12 : FrK (fun x k => Fga r x k ∧ x ≠ 2217 ∧ ¬ (2246 ≤ x ∧ x < 4406)) I I2 := fun x k y => by
      unfold Fga at y
      rw [f2 x (fun z => by unfold Ftm at z; omega), f1 x (fun z => by omega)]
    obtain ⟨hh1, hh2⟩ := powP_hi (PoK_hi kp) t
    obtain ⟨he1, he2⟩ := powP_hi (PoK_hi kp) e
    have W := g2 (dgP p * t) (by omega)
    rw [gr_2215_5 hR, n_mul, C_pro hR (by omega), if_pos (bF_xk W.1), F_fits hR W, Option.bind_some, Int.natAbs_natCast]
    by_cases ft : Fit (powP p t (dgP p * t))
    rotate_left
    · rw [if_neg ft, if_pos rfl]
      refine q_ok ⟨I2, f12, Or.inr ⟨rfl, fun y => ft ?_⟩⟩
      rw [hh2]
      have := y (dgP p * e) (by omega)
      rw [he2] at this
      exact Fit_pow this ht
    rw [if_pos ft, if_neg (by decide), if_pos ok_2215]
    rw [hh2] at ft
    rcases C_lowestFits (J := J) hR g2 with ⟨el, hz⟩ | ⟨i, hi, z1, z2, el⟩
    · rw [el, Option.bind_some, if_neg (by decide), q_let, show (Int32.ofNat (t)) + (1 : Int32) = (Int32.ofNat (t + 1)) from n_add t 1]
      refine q_ok ⟨I2, f12, Or.inl ⟨rfl, g2, fun _ => ?_, fun _ => ft⟩⟩
      left
      have := hz 0 (by decide)
      refine Classical.byContradiction (fun y => ?_)
      obtain ⟨-, l2⟩ := powP_lo (p := p) (a := 0) (fun j hj => by omega) t
      rw [Nat.zero_mul] at l2
      exact pow_nz y (l2.symm.trans this)
    · rw [el, Option.bind_some]
      -- the lowest one is a power of the lowest one
      have pn : ∃ j, p j ≠ 0 := Classical.byContradiction (fun y => by
        have hz : ∀ j, p j = 0 := fun j => Classical.byContradiction (fun w => y ⟨j, w⟩)
        apply z1
        rw [show powP p t = mulP (powP p (t - 1)) p by rw [show t = t - 1 + 1 by omega]; rfl]
        exact suR_0 _ (fun j hj => by
          show powP p (t - 1) j * p (i - j) = 0
          rw [hz, Rat.mul_zero]))
      obtain ⟨j0, hj0⟩ := pn
      obtain ⟨a, a1, a2, a3⟩ := low_ex hj0
      have ad : a ≤ dgP p := Classical.byContradiction (fun y => a2 (PoK_hi kp a (by omega)))
      obtain ⟨l1, l2⟩ := powP_lo a3 t
      obtain ⟨l3, l4⟩ := powP_lo a3 e
      have ei : i = a * t := by
        rcases Nat.lt_trichotomy i (a * t) with w | w | w
        · exact absurd (l1 i w) z1
        · exact w
        · exact absurd (l2.symm.trans (z2 _ w)) (pow_nz a2)
      rw [ei, l2] at el ⊢
      by_cases fa : Fit (p a ^ t)
      · rw [if_pos fa, if_neg (by decide), q_let, show (Int32.ofNat (t)) + (1 : Int32) = (Int32.ofNat (t + 1)) from n_add t 1]
        refine q_ok ⟨I2, f12, Or.inl ⟨rfl, g2, fun _ => ?_, fun _ => ft⟩⟩
        by_cases w : a = 0
        · right
          rw [w] at fa
          exact fa
        · left
          exact a3 0 (by omega)
      · rw [if_neg fa, if_pos rfl]
        refine q_ok ⟨I2, f12, Or.inr ⟨rfl, fun y => fa ?_⟩⟩
        have ae : a * e ≤ dgP p * e := Nat.mul_le_mul_right _ ad
        have := y (a * e) (by omega)
        rw [l4] at this
        exact Fit_pow this ht
theorem C_raiseRow (hR : RA R) (hr : r < 48) (hP : CRow I r p) (kp : PoK p) (he8 : e ≤ 8) : QK (f_X3_raiseRow (mg 4625 I J R) 2215 (Int32.ofNat (r)) (Int32.ofNat (e))) (fun y => ∃ I', FrK (Fga r) I I' ∧ ((dgP p * e ≤ 8 ∧ FitA (powP p e) ∧ y = (1, mg 4625 I' J R) ∧ CRow I' r (powP p e)) ∨ (¬ (dgP p * e ≤ 8 ∧ FitA (powP p e)) ∧ y = (0, mg 4625 I' J R)))) := by
  have d8 : dgP p ≤ 8 := dgF_le p 8
  have de : dgP p * e ≤ 64 := Nat.mul_le_mul d8 he8
  unfold f_X3_raiseRow
  rw [gr_2215_3 hR, ga_2217 (by omega), hP.2, n_mul]
  by_cases he : dgP p * e ≤ 8
  rotate_left
  · rw [if_neg (show ¬ (Int32.ofNat (dgP p * e)) < (9 : Int32) from fun y => absurd ((i32_lt (m := 9) (by omega) (by omega)).mp y) (by omega))]
    exact q_ok ⟨I, FrK_rfl, Or.inr ⟨fun y => he y.1, rfl⟩⟩
  rw [if_pos (show (Int32.ofNat (dgP p * e)) < (9 : Int32) from (i32_lt (m := 9) (by omega) (by omega)).mpr (by omega)), q_let]
  refine q_bind (P := fun x => ∃ I', x = .inr (2215, (Int32.ofNat (r)), (Int32.ofNat (e)), (Int32.ofNat (dgP p)), mg 4625 I' J R) ∧ FrS (fun x => 4406 ≤ x ∧ x < 4541 ∧ (x - 4406) % 15 < 5) I I' ∧ CPro I' (conP 1)) ?_ ?_
  · refine q_for 9 (fun i s => ∃ I', s = (2215, (Int32.ofNat (r)), (Int32.ofNat (e)), (Int32.ofNat (dgP p)), (Int32.ofNat (i)), mg 4625 I' J R) ∧ FrS (fun x => 4406 ≤ x ∧ x < 4541 ∧ (x - 4406) % 15 < 5) I I' ∧ ∀ j, j < i → FU I' (4406 + 15 * j) 100 (conP 1 j).num (conP 1 j).den) ?_ ?_ (i := 0) ⟨I, rfl, FrS_rfl, fun j hj => absurd hj (Nat.not_lt_zero _)⟩ (by omega) (by unfold xF; omega)
    · rintro i s hi ⟨I1, rfl, f1, g1⟩
      unfold f_X3_raiseRow_s20
      dsimp only
      rw [q_let, q_let, q_let, q_let, q_let, q_let, if_neg (show ¬ (9 : Int32) ≤ (Int32.ofNat (i)) from fun y => absurd ((i32_le (k := 9) (by omega) (by omega)).mp y) (by omega)), gr_2215_5 hR, C_pro hR hi]
      have st : ∀ v : Nat, v ≤ 1 → (conP 1 i).num = (v : Int) → (conP 1 i).den = 1 → QK (f_X3_raiseRow_j44 (mg 4625 I1 J R) 2215 (Int32.ofNat (r)) (Int32.ofNat (e)) (Int32.ofNat (dgP p)) (Int32.ofNat (i)) (Int64.ofNat v) (4406 + 15 * i)) (qS (fun s => ∃ I', s = (2215, (Int32.ofNat (r)), (Int32.ofNat (e)), (Int32.ofNat (dgP p)), (Int32.ofNat (i + 1)), mg 4625 I' J R) ∧ FrS (fun x => 4406 ≤ x ∧ x < 4541 ∧ (x - 4406) % 15 < 5) I I' ∧ ∀ j, j < i + 1 → FU I' (4406 + 15 * j) 100 (conP 1 j).num (conP 1 j).den) (fun x => ∃ I', x = .inr (2215, (Int32.ofNat (r)), (Int32.ofNat (e)), (Int32.ofNat (dgP p)), mg 4625 I' J R) ∧ FrS (fun x => 4406 ≤ x ∧ x < 4541 ∧ (x - 4406) % 15 < 5) I I' ∧ CPro I' (conP 1))) := fun v hv e1 e2 => by
        unfold f_X3_raiseRow_j44
        rw [if_pos (bF_xk (isF_pro hi))]
        refine q_bind (F_set (n := v) hR (isF_pro hi) (by omega)) ?_
        rintro _ ⟨I2, rfl, f2, W2⟩
        rw [q_let, show (Int32.ofNat (i)) + (1 : Int32) = (Int32.ofNat (i + 1)) from n_add i 1]
        refine q_go ⟨I2, rfl, FrS_tr f1 (fun x y => f2 x (fun z => by unfold Sf at z; omega)), fun j hj => ?_⟩
        by_cases z : j < i
        · exact FU_keep (g1 j z) (fun x h1 h2 => f2 x (fun z => by unfold Sf at z; omega))
        · rw [show j = i by omega, e1, e2]
          exact W2
      by_cases z : i = 0
      · rw [if_pos (show (Int32.ofNat (i)) = (0 : Int32) by rw [z]; rfl)]
        exact st 1 (by decide) (by unfold conP; rw [if_pos z]; rfl) (by unfold conP; rw [if_pos z]; rfl)
      · rw [if_neg (show ¬ (Int32.ofNat (i)) = (0 : Int32) from i32_ne (b := 0) (by omega) (by omega) z)]
        exact st 0 (by decide) (by unfold conP; rw [if_neg z]; rfl) (by unfold conP; rw [if_neg z]; rfl)
    · rintro s ⟨I1, rfl, f1, g1⟩
      unfold f_X3_raiseRow_s20
      dsimp only
      rw [q_let, q_let, q_let, q_let, q_let, q_let, if_pos (by decide)]
      exact q_ex ⟨I1, rfl, f1, g1⟩
  · rintro _ ⟨I1, rfl, f1, g1⟩
    simp only [Sum.elim_inr]
    unfold f_X3_raiseRow_j53
    rw [q_let]
    have f1' : FrK (fun x k => Fga r x k ∧ x ≠ 2217 ∧ ¬ (2246 ≤ x ∧ x < 4406)) I I1 := fun x k y => by
      unfold Fga at y
      rw [f1 x (fun z => by omega)]
    have kP : ∀ {I' : Nat → Nat → Int32}, FrK (fun x k => Fga r x k ∧ x ≠ 2217 ∧ ¬ (2246 ≤ x ∧ x < 4406)) I I' → CRow I' r p := fun f => ⟨fun j hj => FU_keep (hP.1 j hj) (fun x g1 g2 => by funext k; exact f x k (fun y => by omega)), (f 2217 r (fun y => by omega)).trans hP.2⟩
    refine q_bind (P := fun x => (∃ I', x = .inr (.inr (2215, (Int32.ofNat (r)), (Int32.ofNat (e)), (Int32.ofNat (dgP p)), mg 4625 I' J R)) ∧ FrK (fun x k => Fga r x k ∧ x ≠ 2217 ∧ ¬ (2246 ≤ x ∧ x < 4406)) I I' ∧ CPro I' (powP p e)) ∨ ∃ I', x = .inr (.inl (mg 4625 I' J R)) ∧ FrK (fun x k => Fga r x k ∧ x ≠ 2217 ∧ ¬ (2246 ≤ x ∧ x < 4406)) I I' ∧ ¬ FitA (powP p e)) ?_ ?_
    · refine q_for (e + 1) (fun t s => ∃ I', s = (2215, (Int32.ofNat (r)), (Int32.ofNat (e)), (Int32.ofNat (dgP p)), (Int32.ofNat (t)), mg 4625 I' J R) ∧ 1 ≤ t ∧ FrK (fun x k => Fga r x k ∧ x ≠ 2217 ∧ ¬ (2246 ≤ x ∧ x < 4406)) I I' ∧ CPro I' (powP p (t - 1)) ∧ RzT p (t - 1)) ?_ ?_ (i := 1) ⟨I1, rfl, Nat.le_refl _, f1', g1, fun h => absurd h (by decide), fun h => absurd h (by decide)⟩ (by omega) (by unfold xF; omega)
      · rintro t s ht ⟨I2, rfl, t1, f2, g2, z2⟩
        obtain ⟨x, ex, I3, f3, ⟨rfl, g3, z3⟩ | ⟨rfl, fa⟩⟩ := C_raiseTurn (J := J) hR hr (kP f2) kp he he8 t1 (by omega) g2 z2
        · rw [ex]
          exact q_go ⟨I3, rfl, by omega, FrK_tr f2 f3, g3, z3⟩
        · rw [ex]
          exact q_ex (Or.inr ⟨I3, rfl, FrK_tr f2 f3, fa⟩)
      · rintro s ⟨I2, rfl, t1, f2, g2, z2⟩
        unfold f_X3_raiseRow_s56
        dsimp only
        rw [q_let, q_let, q_let, q_let, q_let, q_let, if_pos ((i32_lt (by omega) (by omega)).mpr (Nat.lt_succ_self _))]
        exact q_ex (Or.inl ⟨I2, rfl, f2, g2⟩)
    · have wk : ∀ {I' : Nat → Nat → Int32}, FrK (fun x k => Fga r x k ∧ x ≠ 2217 ∧ ¬ (2246 ≤ x ∧ x < 4406)) I I' → FrK (Fga r) I I' := fun f => FrK_mono f (fun x k y => y.1)
      rintro x (⟨I2, rfl, f2, g2⟩ | ⟨I2, rfl, f2, fa⟩)
      · simp only [Sum.elim_inr]
        unfold f_X3_raiseRow_j136
        obtain ⟨hh1, -⟩ := powP_hi (PoK_hi kp) e
        rw [if_pos ok_2215, n_mul]
        refine q_bind (C_takeProduct hR hr he g2 (fun j h1 h2 => hh1 j h1)) ?_
        rintro _ ⟨I3, f3, ⟨fa, rfl, c3⟩ | ⟨fa, rfl⟩⟩
        · exact q_ok ⟨I3, FrK_tr (wk f2) f3, Or.inl ⟨he, fa, rfl, c3⟩⟩
        · exact q_ok ⟨I3, FrK_tr (wk f2) f3, Or.inr ⟨fun y => fa y.2, rfl⟩⟩
      · simp only [Sum.elim_inr, Sum.elim_inl]
        unfold f_X3_raiseRow_j128
        exact q_ok ⟨I2, wk f2, Or.inr ⟨fun y => fa y.2, rfl⟩⟩
end CRZ
