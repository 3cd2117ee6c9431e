/-! polynomials: the reference's whole numbers -/
def Wn (I : Nat → Nat → Int32) (w : Nat) (z : Int) : Prop := (∃ k, k ≤ 216 ∧ I 4614 w = (Int32.ofNat (k)) ∧ z.natAbs < Bp k ∧ (k = 0 ∨ Bp (k - 1) ≤ z.natAbs) ∧ ∀ j, j < k → I 4613 (216 * w + j) = (Int32.ofNat (dg z.natAbs j))) ∧ I 4615 w = Int32.ofInt z.sign
/-- what keeping a whole number touches -/
def Fwh (w : Nat) : Nat → Nat → Prop := fun x k => (x = 4613 ∧ 216 * w ≤ k ∧ k < 216 * w + 216) ∨ (x = 4614 ∧ k = w) ∨ (x = 4615 ∧ k = w)
theorem Wn_keep {I I' : Nat → Nat → Int32} {w t : Nat} {z : Int} (h : Wn I w z) (f : FrK (Fwh t) I I') (hw : w ≠ t) : Wn I' w z := by
  obtain ⟨⟨k, h1, h2, h3, h4, h5⟩, h6⟩ := h
  exact ⟨⟨k, h1, (f 4614 w (by unfold Fwh; omega)).trans h2, h3, h4, fun j hj => (f 4613 _ (by unfold Fwh; omega)).trans (h5 j hj)⟩, (f 4615 w (by unfold Fwh; omega)).trans h6⟩
theorem Wn_fr {I I' : Nat → Nat → Int32} {w : Nat} {z : Int} (h : Wn I w z) (f : FrS (fun x => x < 4613) I I') : Wn I' w z := by
  obtain ⟨⟨k, h1, h2, h3, h4, h5⟩, h6⟩ := h
  exact ⟨⟨k, h1, by rw [f 4614 (by omega)]; exact h2, h3, h4, fun j hj => by rw [f 4613 (by omega)]; exact h5 j hj⟩, by rw [f 4615 (by omega)]; exact h6⟩
theorem FR2_lt {I I' : Nat → Nat → Int32} (h : FR2 I I') : FrS (fun x => x < 4613) I I' := fun x hx => h x (by omega)
theorem Rg_fr {I I' : Nat → Nat → Int32} {r k n : Nat} {P : Nat → Prop} (h : Rg (I 4562) (I 4563) r k n) (f : FrS P I I') (h1 : ¬ P 4562) (h2 : ¬ P 4563) : Rg (I' 4562) (I' 4563) r k n := by
  rw [f 4562 h1, f 4563 h2]
  exact h
section WHM
variable {I : Nat → Nat → Int32} {J : Nat → Nat → Int64} {R : Nat → Nat → Option Nat} {β : Type}
theorem M_times {t r w ka kb a b : Nat} (hR : RA R) (ht : t < 16) (hr : r < 16) (hw : w < 16) (hrt : r ≠ t) (hwt : w ≠ t) (A : Rg (I 4562) (I 4563) r ka a) (B : Rg (I 4562) (I 4563) w kb b) (hz : ka + kb ≤ 440) : QK (f_X12_times (mg 4625 I J R) 4561 (Int32.ofNat (t)) (Int32.ofNat (r)) (Int32.ofNat (w))) (fun y => ∃ I' k', y = mg 4625 I' J R ∧ FR2 I I' ∧ Rg (I' 4562) (I' 4563) t k' (a * b) ∧ k' ≤ ka + kb ∧ Kp (I 4562) (I 4563) (I' 4562) (I' 4563) t) := by
  rw [bM_id]
  obtain ⟨l, s, k, h1, h2, h3, h4⟩ := m_times (I := I) (J := J) (v := I 4564) (t := t) (r := r) (w := w) hR ht hr hw hrt hwt A B hz
  rw [h1]
  exact q_ok ⟨u3 I l s (I 4564), k, rfl, u3_fr, by rw [u3_4562, u3_4563]; exact h2, h3, by rw [u3_4562, u3_4563]; exact h4⟩
theorem M_common {r t kr kt n d : Nat} (hR : RA R) (hr : r < 16) (ht : t < 16) (hrt : r ≠ t) (A : Rg (I 4562) (I 4563) r kr n) (B : Rg (I 4562) (I 4563) t kt d) (hd : 0 < d) : QK (f_X12_common (mg 4625 I J R) 4561 (Int32.ofNat (r)) (Int32.ofNat (t))) (fun y => ∃ I' k', y = mg 4625 I' J R ∧ FR2 I I' ∧ Rg (I' 4562) (I' 4563) r k' (Nat.gcd n d) ∧ Kl (I 4562) (I 4563) (I' 4562) (I' 4563) [r, t]) := by
  rw [bM_id]
  obtain ⟨l, s, k, h1, h2, h3⟩ := m_common (I := I) (J := J) (v := I 4564) (r := r) (t := t) hR hr ht hrt A B hd
  rw [h1]
  exact q_ok ⟨u3 I l s (I 4564), k, rfl, u3_fr, by rw [u3_4562, u3_4563]; exact h2, by rw [u3_4562, u3_4563]; exact h3⟩
theorem M_signed {x y : Int} {k6 k7 : Nat} (hR : RA R) (A : Rg (I 4562) (I 4563) 6 k6 x.natAbs) (B : Rg (I 4562) (I 4563) 7 k7 y.natAbs) (hxy : x.natAbs + y.natAbs < Bp 440) : QK (f_X12_signed (mg 4625 I J R) 4561 6 (Int32.ofInt x.sign) 7 (Int32.ofInt y.sign)) (fun u => ∃ I' k', u = (Int32.ofInt (x + y).sign, mg 4625 I' J R) ∧ FR2 I I' ∧ Rg (I' 4562) (I' 4563) 6 k' (x + y).natAbs ∧ Kl (I 4562) (I 4563) (I' 4562) (I' 4563) [6, 11]) := by
  rw [bM_id]
  obtain ⟨l, s, k, h1, h2, h3⟩ := m_signed (I := I) (J := J) (v := I 4564) hR A B hxy
  rw [h1]
  exact q_ok ⟨u3 I l s (I 4564), k, rfl, u3_fr, by rw [u3_4562, u3_4563]; exact h2, by rw [u3_4562, u3_4563]; exact h3⟩
theorem M_storeR {i k0 k1 D : Nat} {z : Int} {sg : Int32} (hR : RA R) (hi : i < 3700) (A : Rg (I 4562) (I 4563) 0 k0 z.natAbs) (B : Rg (I 4562) (I 4563) 1 k1 D) (hd : 0 < D) (hd2 : 2 * D < Bp 440) (hs : z = 0 ∨ sg = Int32.ofInt z.sign) : QK (f_X12_store (mg 4625 I J R) 4561 (Int32.ofNat (i)) sg) (fun u => ∃ I' y, u = (y, mg 4625 I' J R) ∧ FrS (fun x => 4562 ≤ x ∧ x ≤ 4564) I I' ∧ Kl (I 4562) (I 4563) (I' 4562) (I' 4563) RS ∧ Sto (I 4564) (I' 4564) i z D y ∧ (y = 0 ∨ y = 1)) := by
  rw [bM_id]
  obtain ⟨l, s, v, y, h1, h2, h3, h4⟩ := m_storeV (I := I) (J := J) (v := I 4564) hR hi A B hd hd2 hs
  rw [h1]
  refine q_ok ⟨u3 I l s v, y, rfl, fun x hx => ?_, by rw [u3_4562, u3_4563]; exact h2, by rw [u3_4564]; exact h3, h4⟩
  unfold u3
  rw [va_up_ne _ _ (by omega), va_up_ne _ _ (by omega), va_up_ne _ _ (by omega)]
theorem M_keepWhole {w r k : Nat} {z : Int} {sg : Int32} (hR : RA R) (hw : w < 27) (hr : r < 16) (A : Rg (I 4562) (I 4563) r k z.natAbs) (hk : k ≤ 216) (hs : z = 0 ∨ sg = Int32.ofInt z.sign) : QK (f_X12_keepWhole (mg 4625 I J R) 4561 (Int32.ofNat (w)) (Int32.ofNat (r)) sg) (fun y => ∃ I', y = mg 4625 I' J R ∧ FrK (Fwh w) I I' ∧ Wn I' w z) := by
  obtain ⟨a1, a2, a3, a4, a5⟩ := A
  unfold f_X12_keepWhole
  rw [q_let]
  refine q_bind (P := fun x => ∃ I', x = .inr (4561, (Int32.ofNat (w)), (Int32.ofNat (r)), sg, mg 4625 I' J R) ∧ FrK (Fwh w) I I' ∧ ∀ j, j < k → I' 4613 (216 * w + j) = (Int32.ofNat (dg z.natAbs j))) ?_ ?_
  · refine q_for k (fun i s => ∃ I', s = (4561, (Int32.ofNat (w)), (Int32.ofNat (r)), sg, (Int32.ofNat (i)), mg 4625 I' J R) ∧ FrK (Fwh w) I I' ∧ ∀ j, j < i → I' 4613 (216 * w + j) = (Int32.ofNat (dg z.natAbs j))) ?_ ?_ (i := 0) ⟨I, rfl, FrK_rfl, fun j hj => absurd hj (Nat.not_lt_zero _)⟩ (by omega) (by unfold xF; omega)
    · rintro i s hi ⟨I1, rfl, f1, g1⟩
      have e1 : I1 4563 r = (Int32.ofNat (k)) := (f1 4563 r (by unfold Fwh; omega)).trans a1
      have e2 : I1 4562 (440 * r + i) = (Int32.ofNat (dg z.natAbs i)) := (f1 4562 _ (by unfold Fwh; omega)).trans (a5 i hi)
      unfold f_X12_keepWhole_s3
      dsimp only
      rw [q_let, q_let, q_let, q_let, q_let, q_let, gr_4561_2 hR, ga_4563 hr, e1, if_neg (show ¬ (Int32.ofNat (k)) ≤ (Int32.ofNat (i)) from fun y => absurd ((i32_le (by omega) (by omega)).mp y) (by omega)), gr_4561_70 hR, gr_4561_1 hR, show (440 : Int32) * (Int32.ofNat (r)) = (Int32.ofNat (440 * r)) from n_mul 440 r, n_add, ga_4562 (by omega), show (216 : Int32) * (Int32.ofNat (w)) = (Int32.ofNat (216 * w)) from n_mul 216 w, n_add, gw_4613 (by omega), q_let, show (Int32.ofNat (i)) + (1 : Int32) = (Int32.ofNat (i + 1)) from n_add i 1, e2]
      refine q_go ⟨_, rfl, FrK_up f1 (Or.inl ⟨rfl, by omega, by omega⟩), fun j hj => ?_⟩
      by_cases z : j = i
      · subst z
        exact up_s
      · rw [up_n (by omega)]
        exact g1 j (by omega)
    · rintro s ⟨I1, rfl, f1, g1⟩
      have e1 : I1 4563 r = (Int32.ofNat (k)) := (f1 4563 r (by unfold Fwh; omega)).trans a1
      unfold f_X12_keepWhole_s3
      dsimp only
      rw [q_let, q_let, q_let, q_let, q_let, q_let, gr_4561_2 hR, ga_4563 hr, e1, if_pos (show (Int32.ofNat (k)) ≤ (Int32.ofNat (k)) from (i32_le (by omega) (by omega)).mpr (Nat.le_refl _))]
      exact q_ex ⟨I1, rfl, f1, g1⟩
  · rintro _ ⟨I1, rfl, f1, g1⟩
    simp only [Sum.elim_inr]
    have e1 : I1 4563 r = (Int32.ofNat (k)) := (f1 4563 r (by unfold Fwh; omega)).trans a1
    unfold f_X12_keepWhole_j46
    rw [gr_4561_71 hR, gr_4561_2 hR, ga_4563 hr, e1, gw_4614 hw]
    have e2 : up I1 4614 w (Int32.ofNat (k)) 4563 r = (Int32.ofNat (k)) := (up_n (by omega)).trans e1
    rw [gr_4561_72 hR, gr_4561_2 hR, ga_4563 hr, e2]
    have fin : ∀ y : Int32, y = Int32.ofInt z.sign → QK (f_X12_keepWhole_j77 (mg 4625 (up I1 4614 w (Int32.ofNat (k))) J R) y (Int32.ofNat (w)) 4615) (fun y => ∃ I', y = mg 4625 I' J R ∧ FrK (Fwh w) I I' ∧ Wn I' w z) := fun y hy => by
      unfold f_X12_keepWhole_j77
      rw [gw_4615 hw]
      refine q_ok ⟨_, rfl, FrK_up (FrK_up f1 (Or.inr (Or.inl ⟨rfl, rfl⟩))) (Or.inr (Or.inr ⟨rfl, rfl⟩)), ⟨k, hk, ?_, a3, a4, fun j hj => ?_⟩, ?_⟩
      · rw [up_n (by omega)]
        exact up_s
      · rw [up_n (by omega), up_n (by omega)]
        exact g1 j hj
      · rw [up_s]
        exact hy
    have kz : k = 0 ↔ z = 0 := by
      have := Rg_zero (l := I 4562) (s := I 4563) (r := r) ⟨a1, a2, a3, a4, a5⟩
      rw [this]
      exact Int.natAbs_eq_zero
    by_cases k0 : k = 0
    · rw [if_pos (show (Int32.ofNat (k)) = (0 : Int32) by rw [k0]; rfl)]
      exact fin 0 (by rw [kz.mp k0]; rfl)
    · rw [if_neg (show ¬ (Int32.ofNat (k)) = (0 : Int32) from i32_ne (b := 0) (by omega) (by omega) k0)]
      exact fin sg (hs.resolve_left (fun y => k0 (kz.mpr y)))
theorem M_loadWhole {w r : Nat} {z : Int} (hR : RA R) (hw : w < 27) (hr : r < 16) (A : Wn I w z) : QK (f_X12_loadWhole (mg 4625 I J R) 4561 (Int32.ofNat (r)) (Int32.ofNat (w))) (fun y => ∃ I' k, y = mg 4625 I' J R ∧ FR2 I I' ∧ Rg (I' 4562) (I' 4563) r k z.natAbs ∧ k ≤ 216 ∧ Kp (I 4562) (I 4563) (I' 4562) (I' 4563) r) := by
  obtain ⟨⟨k, h1, h2, h3, h4, h5⟩, h6⟩ := A
  unfold f_X12_loadWhole
  rw [q_let]
  refine q_bind (P := fun x => ∃ I', x = .inr (4561, (Int32.ofNat (r)), (Int32.ofNat (w)), mg 4625 I' J R) ∧ FrK (fun x y => x = 4562 ∧ 440 * r ≤ y ∧ y < 440 * r + 440) I I' ∧ ∀ j, j < k → I' 4562 (440 * r + j) = (Int32.ofNat (dg z.natAbs j))) ?_ ?_
  · refine q_for k (fun i s => ∃ I', s = (4561, (Int32.ofNat (r)), (Int32.ofNat (w)), (Int32.ofNat (i)), mg 4625 I' J R) ∧ FrK (fun x y => x = 4562 ∧ 440 * r ≤ y ∧ y < 440 * r + 440) I I' ∧ ∀ j, j < i → I' 4562 (440 * r + j) = (Int32.ofNat (dg z.natAbs j))) ?_ ?_ (i := 0) ⟨I, rfl, FrK_rfl, fun j hj => absurd hj (Nat.not_lt_zero _)⟩ (by omega) (by unfold xF; omega)
    · rintro i s hi ⟨I1, rfl, f1, g1⟩
      have e1 : I1 4614 w = (Int32.ofNat (k)) := (f1 4614 w (by omega)).trans h2
      have e2 : I1 4613 (216 * w + i) = (Int32.ofNat (dg z.natAbs i)) := (f1 4613 _ (by omega)).trans (h5 i hi)
      unfold f_X12_loadWhole_s2
      dsimp only
      rw [q_let, q_let, q_let, q_let, q_let, gr_4561_71 hR, ga_4614 hw, e1, if_neg (show ¬ (Int32.ofNat (k)) ≤ (Int32.ofNat (i)) from fun y => absurd ((i32_le (by omega) (by omega)).mp y) (by omega)), gr_4561_1 hR, gr_4561_70 hR, show (216 : Int32) * (Int32.ofNat (w)) = (Int32.ofNat (216 * w)) from n_mul 216 w, n_add, ga_4613 (by omega), show (440 : Int32) * (Int32.ofNat (r)) = (Int32.ofNat (440 * r)) from n_mul 440 r, n_add, gw_4562 (by omega), q_let, show (Int32.ofNat (i)) + (1 : Int32) = (Int32.ofNat (i + 1)) from n_add i 1, e2]
      refine q_go ⟨_, rfl, FrK_up f1 ⟨rfl, by omega, by omega⟩, fun j hj => ?_⟩
      by_cases z : j = i
      · subst z
        exact up_s
      · rw [up_n (by omega)]
        exact g1 j (by omega)
    · rintro s ⟨I1, rfl, f1, g1⟩
      have e1 : I1 4614 w = (Int32.ofNat (k)) := (f1 4614 w (by omega)).trans h2
      unfold f_X12_loadWhole_s2
      dsimp only
      rw [q_let, q_let, q_let, q_let, q_let, gr_4561_71 hR, ga_4614 hw, e1, if_pos (show (Int32.ofNat (k)) ≤ (Int32.ofNat (k)) from (i32_le (by omega) (by omega)).mpr (Nat.le_refl _))]
      exact q_ex ⟨I1, rfl, f1, g1⟩
  · rintro _ ⟨I1, rfl, f1, g1⟩
    simp only [Sum.elim_inr]
    have e1 : I1 4614 w = (Int32.ofNat (k)) := (f1 4614 w (by omega)).trans h2
    unfold f_X12_loadWhole_j42
    rw [gr_4561_2 hR, gr_4561_71 hR, ga_4614 hw, e1, gw_4563 hr]
    refine q_ok ⟨_, k, rfl, fun x hx => ?_, ⟨up_s, by omega, h3, h4, fun j hj => ?_⟩, h1, fun x hx => ?_, fun x hx => ?_⟩
    · rw [up_r (by omega)]
      funext y
      exact f1 x y (by omega)
    · rw [up_n (by omega)]
      exact g1 j hj
    · rw [up_n (by omega)]
      exact f1 4563 x (by omega)
    · rw [up_n (by omega)]
      exact f1 4562 x (by omega)
end WHM
