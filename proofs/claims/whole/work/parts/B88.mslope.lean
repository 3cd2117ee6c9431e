/-! slopes: the reference's parts -/
theorem wide2 {A X : Int} {P V : Nat} (hP : 0 < P) (hV : 0 < V) : rz (rz A P * V + X * rd A P) (rd A P * V) * (P * V : Nat) = (A * V + X * P) * rd (rz A P * V + X * rd A P) (rd A P * V) := by
  have d0 := rd_pos (z := A) hP
  have c1 := rz_cross A hP
  have c2 := rz_cross (rz A P * V + X * rd A P) (Nat.mul_pos d0 hV)
  generalize rd A P = d1 at *
  generalize rz A P = z1 at *
  generalize rz (z1 * V + X * d1) (d1 * V) = z2 at *
  generalize rd (z1 * V + X * d1) (d1 * V) = d2 at *
  refine Int.eq_of_mul_eq_mul_right (a := (d1 : Int)) (by omega) ?_
  rw [Int.natCast_mul] at c2 ⊢
  calc z2 * ((P : Int) * V) * d1 = (z2 * ((d1 : Int) * V)) * P := by ac_rfl
    _ = (z1 * V + X * d1) * d2 * P := by rw [c2]
    _ = (z1 * P * V + X * d1 * P) * d2 := by rw [Int.add_mul, Int.add_mul, Int.add_mul]; ac_rfl
    _ = (A * d1 * V + X * d1 * P) * d2 := by rw [c1]
    _ = (A * V + X * P) * d2 * d1 := by rw [Int.add_mul, Int.add_mul, Int.add_mul]; ac_rfl
def PrQ (o : Nat ⊕ GV) (v v' : Nat → Int32) (i : Nat) (y : Int32) : Prop := Kv v v' i ∧ ((∃ g, o = .inr g ∧ y = 1 ∧ Vv v' i g.1 g.2) ∨ (o = .inl 3 ∧ y = 0))
theorem Sto_q {v v' : Nat → Int32} {i D : Nat} {z : Int} {y : Int32} (h : Sto v v' i z D y) : PrQ (qfin z D) v v' i y := by
  refine ⟨Sto_kv h, ?_⟩
  rcases h with ⟨h1, h2, h3, -⟩ | ⟨h1, h2, -⟩
  · exact Or.inl ⟨_, qfin_r h1, h2, h3⟩
  · exact Or.inr ⟨qfin_l h1, h2⟩
theorem ofInt_m1 : Int32.ofInt (-1) = -1 := by decide
theorem ofInt_p1 : Int32.ofInt 1 = 1 := by decide
section MSL
variable {I : Nat → Nat → Int32} {J : Nat → Nat → Int64} {R : Nat → Nat → Option Nat} {a c : Nat} {v p w r : GV}
/-- two products, added or taken off -/
theorem M_twoProducts {b1 b2 b3 b4 : Nat} {e : Int} (hR : RA R) (h1 : b1 < 3700) (h2 : b2 < 3700) (h3 : b3 < 3700) (h4 : b4 < 3700) (P : Vv (I 4564) b1 p.1 p.2) (W : Vv (I 4564) b2 w.1 w.2) (V : Vv (I 4564) b3 v.1 v.2) (Q : Vv (I 4564) b4 r.1 r.2) (he : e = 1 ∨ e = -1) {G : xM → Option (Int32 × xM)} {S : Int32 × xM → Prop} (hG : ∀ I', R4 I I' → I' 4564 = I 4564 → ∀ z d, Wide I' z d 55 → z * (p.2 * w.2 * (v.2 * r.2) : Nat) = (p.1 * w.1 * (v.2 * r.2 : Nat) + e * (v.1 * r.1 * (p.2 * w.2 : Nat))) * d → QK (G (mg 4625 I' J R)) S) : QK ((f_X12_clearWide (mg 4625 I J R) 4561).bind (fun p1 => (if xk p1 4561 12 = true then (f_X12_addProduct p1 4561 (Int32.ofNat (b1)) (Int32.ofNat (b2)) 1).bind (fun p2 => (if xk p2 4561 12 = true then (f_X12_addProduct p2 4561 (Int32.ofNat (b3)) (Int32.ofNat (b4)) (Int32.ofInt e)).bind G else none)) else none))) S := by
  refine q_bind (M_clearWide hR) ?_
  rintro _ ⟨I1, rfl, f1, v1, w1⟩
  rw [if_pos ok_4561, ← ofInt_p1]
  refine q_bind (M_addProduct hR h1 h2 (by rw [v1]; exact P) (by rw [v1]; exact W) (Or.inl rfl) w1 (by decide)) ?_
  rintro _ ⟨I2, rfl, f2, v2, w2⟩
  rw [if_pos ok_4561]
  have v2' : I2 4564 = I 4564 := v2.trans v1
  have e1 : (0 : Int) * (p.2 * w.2 : Nat) + 1 * p.1 * w.1 * ((1 : Nat) : Int) = p.1 * w.1 := by
    rw [Int.zero_mul, Int.zero_add, Int.one_mul]
    exact Int.mul_one _
  rw [e1, Nat.one_mul] at w2
  refine q_bind (M_addProduct hR h3 h4 (by rw [v2']; exact V) (by rw [v2']; exact Q) he w2 (by decide)) ?_
  rintro _ ⟨I3, rfl, f3, v3, w3⟩
  have p0 : 0 < p.2 * w.2 := Nat.mul_pos P.2.2.2.2.1 W.2.2.2.2.1
  have q0 : 0 < v.2 * r.2 := Nat.mul_pos V.2.2.2.2.1 Q.2.2.2.2.1
  refine hG I3 (R4_tr f1 (R4_tr f2 f3)) (v3.trans v2') _ _ w3 ?_
  have := wide2 (A := p.1 * w.1) (X := e * v.1 * r.1) p0 q0
  rw [this, Int.mul_assoc e, Int.mul_assoc e]
theorem M_partOfQuotient (hR : RA R) (ha : a + 1 < 3604) (hc : c + 1 < 3604) (V : Vv (I 4564) a v.1 v.2) (P : Vv (I 4564) (a + 1) p.1 p.2) (W : Vv (I 4564) c w.1 w.2) (Q : Vv (I 4564) (c + 1) r.1 r.2) (hw : w.1 ≠ 0) : QK (f_X12_partOfQuotient (mg 4625 I J R) 4561 (Int32.ofNat (a)) (Int32.ofNat (c))) (fun x => ∃ I' y, x = (y, mg 4625 I' J R) ∧ R4 I I' ∧ PrQ (slP 3 v p w r) (I 4564) (I' 4564) 3604 y) := by
  have wa : 0 < w.1.natAbs := by omega
  have p0 : 0 < p.2 * w.2 := Nat.mul_pos P.2.2.2.2.1 W.2.2.2.2.1
  have q0 : 0 < v.2 * r.2 := Nat.mul_pos V.2.2.2.2.1 Q.2.2.2.2.1
  have w0 := W.2.2.2.2.1
  unfold f_X12_partOfQuotient
  rw [if_pos ok_4561, show (Int32.ofNat (a)) + (1 : Int32) = (Int32.ofNat (a + 1)) from n_add a 1, show (Int32.ofNat (c)) + (1 : Int32) = (Int32.ofNat (c + 1)) from n_add c 1, ← ofInt_m1]
  refine M_twoProducts (e := -1) hR (by omega) (by omega) (by omega) (by omega) P W V Q (Or.inr rfl) ?_
  intro I1 f1 v1 z d hW hz
  obtain ⟨⟨k8, h8⟩, ⟨k9, h9⟩, h69, hd, hzK, hdK⟩ := hW
  have g8 := Rg_le h8 hzK
  have g9 := Rg_le h9 hdK
  rw [if_pos ok_4561]
  have W1 : Vv (I1 4564) c w.1 w.2 := by rw [v1]; exact W
  obtain ⟨l1, s1, k2, a1, a2, a3, a4⟩ := m_loadN (I := I1) (J := J) (l := I1 4562) (s := I1 4563) (v := I1 4564) (r := 2) hR (by decide) (show c < 3700 by omega) W1
  obtain ⟨l2, s2, k3, b1, b2, b3, b4⟩ := m_times (I := I1) (J := J) (v := I1 4564) (t := 3) (r := 2) (w := 2) hR (by decide) (by decide) (by decide) (by decide) (by decide) a2 a2 (by omega)
  obtain ⟨l3, s3, k1, c1, c2, c3, c4⟩ := m_times (I := I1) (J := J) (v := I1 4564) (t := 1) (r := 9) (w := 3) hR (by decide) (by decide) (by decide) (by decide) (by decide) ((h9.keep a4 (by decide)).keep b4 (by decide)) b2 (by omega)
  obtain ⟨l4, s4, k2', d1, d2, d3, d4⟩ := m_loadD (I := I1) (J := J) (l := l3) (s := s3) (v := I1 4564) (r := 2) hR (by decide) (show c < 3700 by omega) W1
  obtain ⟨l5, s5, k3', e1, e2, e3, e4⟩ := m_times (I := I1) (J := J) (v := I1 4564) (t := 3) (r := 2) (w := 2) hR (by decide) (by decide) (by decide) (by decide) (by decide) d2 d2 (by omega)
  have h8' : Rg l5 s5 8 k8 z.natAbs := ((((h8.keep a4 (by decide)).keep b4 (by decide)).keep c4 (by decide)).keep d4 (by decide)).keep e4 (by decide)
  obtain ⟨l6, s6, k0, f1', f2, f3, f4⟩ := m_times (I := I1) (J := J) (v := I1 4564) (t := 0) (r := 8) (w := 3) hR (by decide) (by decide) (by decide) (by decide) (by decide) h8' e2 (by omega)
  have c2' : Rg l6 s6 1 k1 (d * (w.1.natAbs * w.1.natAbs)) := ((c2.keep d4 (by decide)).keep e4 (by decide)).keep f4 (by decide)
  have nz : (z * (w.2 * w.2 : Nat)).natAbs = z.natAbs * (w.2 * w.2) := by rw [Int.natAbs_mul, Int.natAbs_natCast]
  have D0 : 0 < d * (w.1.natAbs * w.1.natAbs) := Nat.mul_pos hd (Nat.mul_pos wa wa)
  have ww : (0 : Int) < (w.2 * w.2 : Nat) := by
    have := Nat.mul_pos w0 w0
    omega
  have k1' : k1 ≤ 81 := by omega
  obtain ⟨l7, s7, v', y, g1, g2, g3, g4⟩ := m_storeV (I := I1) (J := J) (v := I1 4564) (z := z * (w.2 * w.2 : Nat)) (i := 3604) (sg := Int32.ofInt z.sign) hR (by decide) (by rw [nz]; exact f2) c2' D0 (by
    have h1 := c2'.2.2.1
    have h2 : Bp k1 ≤ Bp 81 := Bp_le k1'
    have h3 : Bp 82 = Bp 81 * 65536 := Bp_s 81
    have h4 : Bp 82 ≤ Bp 440 := Bp_le (by decide)
    omega) (Or.inr (by rw [Int.sign_mul, Int.sign_eq_one_of_pos ww, Int.mul_one]))
  have h69' : u3 I1 l6 s6 (I1 4564) 4561 69 = Int32.ofInt z.sign := h69
  refine ⟨(y, bM I1 l7 s7 v' J R), ?_, u3 I1 l7 s7 v', y, rfl, R4_tr f1 (fun x k q1 q2 q3 q4 => ?_), ?_⟩
  · rw [bM_id (I := I1)]
    refine xb_eq a1 (xb_iq ok_4561 (xb_eq b1 (xb_iq ok_4561 (xb_eq c1 (xb_iq ok_4561 (xb_eq d1 (xb_iq ok_4561 (xb_eq e1 (xb_iq ok_4561 (xb_eq f1' ?_))))))))))
    unfold bM at g1 ⊢
    rw [gi_4561, h69']
    exact xb_iq ok_4561 (xb_eq g1 (xb_eq (xz_b g4) rfl))
  · unfold u3
    rw [va_up_ne _ _ q3, va_up_ne _ _ q2, va_up_ne _ _ q1]
  · rw [u3_4564, ← v1]
    have e : slP 3 v p w r = qfin (z * (w.2 * w.2 : Nat)) (d * (w.1.natAbs * w.1.natAbs)) := by
      show qfin ((p.1 * w.1 * (v.2 * r.2 : Nat) - v.1 * r.1 * (p.2 * w.2 : Nat)) * (w.2 * w.2 : Nat)) (p.2 * w.2 * (v.2 * r.2) * (w.1.natAbs * w.1.natAbs)) = _
      refine qfin_eqv (Nat.mul_pos (Nat.mul_pos p0 q0) (Nat.mul_pos wa wa)) D0 ?_
      rw [Int.sub_eq_add_neg, ← Int.neg_one_mul]
      generalize p.1 * w.1 * (v.2 * r.2 : Nat) + -1 * (v.1 * r.1 * (p.2 * w.2 : Nat)) = N at *
      generalize p.2 * w.2 * (v.2 * r.2) = D at *
      generalize w.1.natAbs * w.1.natAbs = u at *
      generalize w.2 * w.2 = x at *
      rw [Int.natCast_mul, Int.natCast_mul]
      calc N * (x : Int) * ((d : Int) * u) = N * d * x * u := by ac_rfl
        _ = z * D * x * u := by rw [hz]
        _ = z * (x : Int) * ((D : Int) * u) := by ac_rfl
    rw [e]
    exact Sto_q g3
end MSL
