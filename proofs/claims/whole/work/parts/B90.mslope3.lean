/-! slopes: the reference's pairs -/
def Frp (h : Nat) : Nat → Nat → Prop := fun x k => x = 4562 ∨ x = 4563 ∨ (x = 4564 ∧ 28 * (2500 + 2 * h) ≤ k ∧ k < 100968) ∨ (x = 4561 ∧ (k = 69 ∨ k = 76))
theorem Frp_mono {h h' : Nat} {I I' : Nat → Nat → Int32} (H : FrK (Frp h) I I') (hh : h' ≤ h) : FrK (Frp h') I I' := FrK_mono H (fun x k y => by unfold Frp at y ⊢; omega)
theorem R4_Frp {h : Nat} {S : Nat → Prop} {I I' : Nat → Nat → Int32} (h1 : R4 I I') (h2 : Kvs S (I 4564) (I' 4564)) (hS : ∀ x, S x → 2500 + 2 * h ≤ x ∧ x < 3606) : FrK (Frp h) I I' := fun x k y => by
  unfold Frp at y
  by_cases z : x = 4564
  · subst z
    exact h2 k (fun w => by have := hS _ w; omega)
  · exact h1 x k (by omega) (by omega) z (by omega)
def PaQ (J : Nat → Nat → Int64) (R : Nat → Nat → Option Nat) (I : Nat → Nat → Int32) (h : Nat) (o : Nat ⊕ (GV × GV)) (r : Int32 × xM) : Prop := ∃ I', FrK (Frp h) I I' ∧ ((∃ x y, o = .inr (x, y) ∧ r = (0, mg 4625 I' J R) ∧ I' 4561 76 = (Int32.ofNat (h + 1)) ∧ Vv (I' 4564) (2500 + 2 * h) x.1 x.2 ∧ Vv (I' 4564) (2501 + 2 * h) y.1 y.2) ∨ ∃ e, o = .inl e ∧ 0 < e ∧ e ≤ 10 ∧ r = ((Int32.ofNat (e)), mg 4625 I' J R))
def pairO (x : GV) (o : Nat ⊕ GV) : Nat ⊕ (GV × GV) := match o with
  | .inl e => .inl e
  | .inr y => .inr (x, y)
theorem slT_inr {m : Nat} {v p w r x : GV} (h : q2 m v w = .inr x) : slT m (v, p) (w, r) = pairO x (slP m v p w r) := by
  unfold slT pairO
  simp only [h]
  cases slP m v p w r <;> rfl
theorem slT_inl {m e : Nat} {v p w r : GV} (h : q2 m v w = .inl e) : slT m (v, p) (w, r) = .inl e := by
  unfold slT
  simp only [h]
section MPA
variable {I : Nat → Nat → Int32} {J : Nat → Nat → Int64} {R : Nat → Nat → Option Nat} {a i h m : Nat} {b : GB} {n : GN} {T : Tt} {v p w r : GV}
theorem M_pairTail {o : Nat ⊕ GV} {x : GV} {y : Int32} {I0 : Nat → Nat → Int32} (hR : RA R) (hh : h < 100) (hF : FrK (Frp h) I0 I) (h76 : I 4561 76 = (Int32.ofNat (h + 1))) (X : Vv (I 4564) 3605 x.1 x.2) (hy : (∃ g : GV, o = .inr g ∧ y = 1 ∧ Vv (I 4564) (2501 + 2 * h) g.1 g.2) ∨ (o = .inl 3 ∧ y = 0)) : QK ((f_X12_copyValue (mg 4625 I J R) 4561 (Int32.ofNat (2500 + 2 * h)) 3605).bind (fun p12 => if y = (0 : Int32) then (some ((3 : Int32), p12) : Option (Int32 × xM)) else some ((0 : Int32), p12))) (PaQ J R I0 h (pairO x o)) := by
  refine q_bind (M_copy (a := 2500 + 2 * h) (b := 3605) hR (by omega) (by decide) (by omega) X) ?_
  rintro _ ⟨I1, rfl, r1, -, -, kv, V1⟩
  have f1 : FrK (Frp h) I0 I1 := FrK_tr hF (R4_Frp (R3_R4 r1) (Kv_s (S := fun x => x = 2500 + 2 * h) kv rfl) (fun x hx => by omega))
  rcases hy with ⟨g, rfl, rfl, G⟩ | ⟨rfl, rfl⟩
  · rw [if_neg (by decide)]
    refine q_ok ⟨I1, f1, Or.inl ⟨x, g, rfl, rfl, ?_, V1, G.keep kv (by omega)⟩⟩
    rw [r1.1 4561 (by omega)]
    exact h76
  · rw [if_pos rfl]
    exact q_ok ⟨I1, f1, Or.inr ⟨3, rfl, by decide, by decide, rfl⟩⟩
theorem M_pairTwo (hR : RA R) (hA : MT I a T.1 T.2.1 T.2.2) (hT : TtO b T) (hi : i < T.1) (h2 : aro T.2.1 i = 2) (hm : m ≤ 3 ∨ m = 5) (hh : h < 98) (h76 : I 4561 76 = (Int32.ofNat (h + 2))) (V : Vv (I 4564) (2500 + 2 * h) v.1 v.2) (P : Vv (I 4564) (2501 + 2 * h) p.1 p.2) (W : Vv (I 4564) (2502 + 2 * h) w.1 w.2) (Q : Vv (I 4564) (2503 + 2 * h) r.1 r.2) (h5 : m = 5 → w = ((vN (T.2.1 (kid T.2.2 i 1)) : Int), 1)) : QK (f_X12_pairTwo (mg 4625 I J R) 4561 (Int32.ofNat (a + i)) (Int32.ofNat (m))) (PaQ J R I h (slT m (v, p) (w, r))) := by
  have lit : ∀ k : Nat, k ≤ 13 → ((Int32.ofNat (m)) = (Int32.ofNat (k)) ↔ m = k) := fun k hk => i32_eq (by omega) (by omega)
  have hb := hA.1.1
  obtain ⟨-, -, c1, -⟩ := two_kids hT hi h2
  obtain ⟨u1, u2, -⟩ := NV_v (hT.2 _ c1)
  unfold f_X12_pairTwo
  rw [gi_4561, h76, show (Int32.ofNat (h + 2)) - (1 : Int32) = (Int32.ofNat (h + 1)) from n_sub (b := 1) (by omega), gs_4561, gi_4561, up_s, show (Int32.ofNat (h + 1)) - (1 : Int32) = (Int32.ofNat (h)) from n_sub (b := 1) (by omega)]
  have vA : ∀ (σ : xM) (k : Nat), f_X12_valueAt σ (Int32.ofNat (k)) = some (Int32.ofNat (2500 + 2 * k)) := fun σ k => by
    unfold f_X12_valueAt
    rw [show (2 : Int32) * (Int32.ofNat (k)) = (Int32.ofNat (2 * k)) from n_mul 2 k, show (2500 : Int32) + (Int32.ofNat (2 * k)) = (Int32.ofNat (2500 + 2 * k)) from n_add 2500 _]
  rw [vA, Option.bind_some, gi_4561, up_s, vA, Option.bind_some, q_let, if_pos ok_4561]
  have f0 : FrK (Frp h) I (up I 4561 76 (Int32.ofNat (h + 1))) := FrK_up FrK_rfl (by unfold Frp; omega)
  have v0 : up I 4561 76 (Int32.ofNat (h + 1)) 4564 = I 4564 := up_r (by decide)
  have h76' : up I 4561 76 (Int32.ofNat (h + 1)) 4561 76 = (Int32.ofNat (h + 1)) := up_s
  have A1 : MT (up I 4561 76 (Int32.ofNat (h + 1))) a T.1 T.2.1 T.2.2 := MT_keep hA (fun x k g1 g2 g3 g4 => up_n (by omega))
  generalize up I 4561 76 (Int32.ofNat (h + 1)) = I1 at *
  rw [← v0] at V P W Q
  have W : Vv (I1 4564) (2500 + 2 * (h + 1)) w.1 w.2 := by
    rw [show 2500 + 2 * (h + 1) = 2502 + 2 * h by omega]
    exact W
  have ch1 : f_X12_child (mg 4625 I1 J R) 4561 (Int32.ofNat (a + i)) 1 = some (Int32.ofNat (a + kid T.2.2 i 1)) := M_child (k := 1) hR A1 hi (by omega)
  rw [ch1, Option.bind_some]
  have fault : ∀ (I2 : Nat → Nat → Int32) (e : Nat), FrK (Frp h) I I2 → q2 m v w = .inl e → 0 < e → e ≤ 10 → PaQ J R I h (slT m (v, p) (w, r)) ((Int32.ofNat (e)), mg 4625 I2 J R) := fun I2 e f2 e1 e2 e3 => ⟨I2, f2, Or.inr ⟨e, slT_inl e1, e2, e3, rfl⟩⟩
  by_cases m5 : m = 5
  · rw [if_pos (show (Int32.ofNat (m)) = (5 : Int32) from (lit 5 (by decide)).mpr m5), if_pos ok_4561]
    refine q_bind (M_powerX (t := 3605) (a := 2500 + 2 * h) (b := 2500 + 2 * (h + 1)) hR (by decide) (by omega) (by omega) V W) ?_
    rintro y ⟨I2, r2, kv2, ⟨z, d, eq, rfl, X⟩ | ⟨e, eq, e2, e3, rfl⟩⟩
    rotate_left
    · dsimp only
      rw [if_neg (show ¬ (Int32.ofNat (e)) ≤ (0 : Int32) from fun y => absurd ((i32_le (m := 0) (by omega) (by omega)).mp y) (by omega))]
      exact q_ok (fault I2 e (FrK_tr f0 (R4_Frp (R3_R4 r2) kv2 (fun x hx => by omega))) (by rw [m5]; exact eq) e2 e3)
    have eq : q2 5 v w = .inr (z, d) := eq
    have A2 : MT I2 a T.1 T.2.1 T.2.2 := MT_keep A1 (fun x k g1 g2 g3 g4 => by rw [r2.1 x (by omega)])
    have g1 := (A2.1.2 _ c1).2.1
    have V2 := Vv_ks V kv2 (by omega)
    have P2 := Vv_ks P kv2 (by omega)
    have f2 : FrK (Frp h) I I2 := FrK_tr f0 (R4_Frp (R3_R4 r2) kv2 (fun x hx => by omega))
    have t2 : I2 4561 76 = (Int32.ofNat (h + 1)) := by rw [r2.1 4561 (by omega)]; exact h76'
    have hw := h5 m5
    have eo : slT m (v, p) (w, r) = pairO (z, d) (slP 5 v p w r) := by
      rw [m5]
      exact slT_inr eq
    rw [eo]
    rw [show (((0 : Int32), mg 4625 I2 J R) : Int32 × xM).1 = 0 from rfl, if_pos (by decide), gr_4561_5 hR, ga_4566 (by omega), g1, u1]
    generalize vN (T.2.1 (kid T.2.2 i 1)) = k at *
    rw [hw] at eq
    obtain ⟨k1, k2⟩ := q2_pow eq
    have e5 : slP 5 v p w r = if (k : Int) = 0 then .inr (0, 1) else qfin (v.1 ^ (k - 1) * (k : Int) * p.1) (v.2 ^ (k - 1) * p.2) := by
      rw [hw]
      rfl
    rw [e5]
    unfold f_X12_pairTwo_j100 f_X12_pairTwo_j118
    by_cases z0 : k = 0
    · rw [if_pos (show (Int32.ofNat (k)) = (0 : Int32) by rw [z0]; rfl), if_pos ok_4561, if_pos (show (k : Int) = 0 by omega), show (Int32.ofNat (2500 + 2 * h)) + (1 : Int32) = (Int32.ofNat (2501 + 2 * h)) from (n_add _ 1).trans (by congr 1 <;> omega)]
      refine q_bind (M_setInt (i := 2501 + 2 * h) (m := 0) hR (by omega) (by decide)) ?_
      rintro _ ⟨I3, rfl, r3, kv3, Y⟩
      rw [if_pos ok_4561]
      exact M_pairTail (x := (z, d)) (o := .inr (0, 1)) hR (by omega) (FrK_tr f2 (R4_Frp (R3_R4 r3) (Kv_s (S := fun x => x = 2501 + 2 * h) kv3 rfl) (fun x hx => by omega))) (by rw [r3.1 4561 (by omega)]; exact t2) (Vv.keep X kv3 (by omega)) (Or.inl ⟨(0, 1), rfl, rfl, Y⟩)
    · rw [if_neg (show ¬ (Int32.ofNat (k)) = (0 : Int32) from i32_ne (b := 0) (by omega) (by omega) z0), gr_4561_5 hR, ga_4566 (by omega), g1, u1, if_pos ok_4561, if_neg (show ¬ (k : Int) = 0 by omega)]
      have P2' : Vv (I2 4564) (2500 + 2 * h + 1) p.1 p.2 := by
        rw [show 2500 + 2 * h + 1 = 2501 + 2 * h by omega]
        exact P2
      refine q_bind (M_partOfPower hR (by omega) (by omega) V2 P2' k2) ?_
      rintro _ ⟨I3, y, rfl, r3, kv3, hy⟩
      rw [if_pos ok_4561]
      refine M_pairTail (x := (z, d)) hR (by omega) (FrK_tr f2 (R4_Frp r3 kv3 (fun x hx => by omega))) (by rw [r3 4561 76 (by omega) (by omega) (by omega) (by omega)]; exact t2) ?_ ?_
      · exact Vv_ks X kv3 (by omega)
      · rw [show 2501 + 2 * h = 2500 + 2 * h + 1 by omega]
        exact hy
  have m3 : m ≤ 3 := by omega
  rw [if_neg (show ¬ (Int32.ofNat (m)) = (5 : Int32) from fun y => m5 ((lit 5 (by decide)).mp y)), if_pos ok_4561]
  refine q_bind (M_copy (a := 3605) (b := 2500 + 2 * h) hR (by decide) (by omega) (by omega) V) ?_
  rintro _ ⟨I2, rfl, r2, -, -, kv2, X0⟩
  have V2 := V.keep kv2 (by omega)
  have P2 := P.keep kv2 (by omega)
  have W2 := W.keep kv2 (by omega)
  have Q2 := Q.keep kv2 (by omega)
  have f2 : FrK (Frp h) I I2 := FrK_tr f0 (R4_Frp (R3_R4 r2) (Kv_s (S := fun x => x = 3605) kv2 rfl) (fun x hx => by omega))
  rw [if_pos ok_4561]
  refine q_bind (M_twoX (a := 3605) (b := 2500 + 2 * (h + 1)) hR (by decide) (by omega) m3 X0 W2) ?_
  rintro y ⟨I3, r3, kv3, ⟨z, d, eq, rfl, X⟩ | ⟨e, eq, e2, e3, rfl⟩⟩
  rotate_left
  · dsimp only
    rw [if_neg (show ¬ (Int32.ofNat (e)) ≤ (0 : Int32) from fun y => absurd ((i32_le (m := 0) (by omega) (by omega)).mp y) (by omega))]
    exact q_ok (fault I3 e (FrK_tr f2 (R4_Frp (R3_R4 r3) kv3 (fun x hx => by omega))) eq e2 e3)
  have eq : q2 m v w = .inr (z, d) := eq
  have f3 : FrK (Frp h) I I3 := FrK_tr f2 (R4_Frp (R3_R4 r3) kv3 (fun x hx => by omega))
  have t3 : I3 4561 76 = (Int32.ofNat (h + 1)) := by rw [r3.1 4561 (by omega), r2.1 4561 (by omega)]; exact h76'
  have V3 := Vv_ks V2 kv3 (by omega)
  have P3 := Vv_ks P2 kv3 (by omega)
  have W3 := Vv_ks W2 kv3 (by omega)
  have Q3 := Vv_ks Q2 kv3 (by omega)
  have eo : slT m (v, p) (w, r) = pairO (z, d) (slP m v p w r) := slT_inr eq
  rw [eo, show (((0 : Int32), mg 4625 I3 J R) : Int32 × xM).1 = 0 from rfl, if_pos (by decide)]
  have eP : 2500 + 2 * h + 1 = 2501 + 2 * h := by omega
  have eQ : 2500 + 2 * (h + 1) + 1 = 2503 + 2 * h := by omega
  have kS : ∀ {I' : Nat → Nat → Int32} {j : Nat}, Kv (I3 4564) (I' 4564) j → R4 I3 I' → (j = 2501 + 2 * h ∨ j = 3604) → FrK (Frp h) I I' ∧ I' 4561 76 = (Int32.ofNat (h + 1)) ∧ Vv (I' 4564) 3605 z d := fun kv r4 hj => ⟨FrK_tr f3 (R4_Frp r4 (Kv_s (S := fun x => x = 2501 + 2 * h ∨ x = 3604) kv hj) (fun x hx => by omega)), by rw [r4 4561 76 (by omega) (by omega) (by omega) (by omega)]; exact t3, X.keep kv (by omega)⟩
  rw [show (Int32.ofNat (2500 + 2 * h)) + (1 : Int32) = (Int32.ofNat (2501 + 2 * h)) from (n_add _ 1).trans (by congr 1 <;> omega)]
  rw [show (Int32.ofNat (2500 + 2 * (h + 1))) + (1 : Int32) = (Int32.ofNat (2503 + 2 * h)) from (n_add _ 1).trans (by congr 1 <;> omega)]
  unfold f_X12_pairTwo_j235 f_X12_pairTwo_j240 f_X12_pairTwo_j258
  by_cases q3 : m = 3
  · have wn : w.1 ≠ 0 := by
      rw [q3] at eq
      exact q2_div eq
    rw [if_pos (show (Int32.ofNat (m)) = (3 : Int32) from (lit 3 (by decide)).mpr q3), if_pos ok_4561]
    refine q_bind (M_partOfQuotient (a := 2500 + 2 * h) (c := 2500 + 2 * (h + 1)) hR (by omega) (by omega) V3 (by rw [eP]; exact P3) W3 (by rw [eQ]; exact Q3) wn) ?_
    rintro _ ⟨I4, y, rfl, r4, kv4, hy⟩
    rw [if_pos ok_4561]
    obtain ⟨b1, b2, b3⟩ := kS kv4 r4 (Or.inr rfl)
    refine q_bind (M_copyRaw (a := 2501 + 2 * h) (b := 3604) hR (by omega) (by decide) (by omega)) ?_
    rintro _ ⟨I5, rfl, r5, -, -, kv5, cp⟩
    rw [if_pos ok_4561, q3]
    refine M_pairTail (x := (z, d)) hR (by omega) (FrK_tr b1 (R4_Frp (R3_R4 r5) (Kv_s (S := fun x => x = 2501 + 2 * h) kv5 rfl) (fun x hx => by omega))) (by rw [r5.1 4561 (by omega)]; exact b2) (b3.keep kv5 (by omega)) ?_
    rcases hy with ⟨g, e1, e2, G⟩ | ⟨e1, e2⟩
    · exact Or.inl ⟨g, e1, e2, Vv_copy G cp⟩
    · exact Or.inr ⟨e1, e2⟩
  rw [if_neg (show ¬ (Int32.ofNat (m)) = (3 : Int32) from fun y => q3 ((lit 3 (by decide)).mp y))]
  by_cases q2' : m = 2
  · rw [if_pos (show (Int32.ofNat (m)) = (2 : Int32) from (lit 2 (by decide)).mpr q2'), if_pos ok_4561, ← ofInt_p1]
    have key := M_twoProducts (J := J) (I := I3) (b1 := 2501 + 2 * h) (b2 := 2500 + 2 * (h + 1)) (b3 := 2500 + 2 * h) (b4 := 2503 + 2 * h) (p := p) (w := w) (v := v) (r := r) (e := 1) hR (by omega) (by omega) (by omega) (by omega) P3 W3 V3 Q3 (Or.inl rfl) (S := PaQ J R I h (pairO (z, d) (slP m v p w r))) (G := fun p15 => (if xk p15 4561 12 = true then (f_X12_storeWide p15 4561 (Int32.ofNat (2501 + 2 * h))).bind (fun p16 => (if xk p16.2 4561 12 = true then (f_X12_copyValue p16.2 4561 (Int32.ofNat (2500 + 2 * h)) (3605 : Int32)).bind (fun p12 => (if p16.1 = (0 : Int32) then some ((3 : Int32), p12) else some ((0 : Int32), p12))) else none)) else none)) ?_
    · rw [ofInt_p1] at key ⊢
      exact key
    intro I4 r4 v4 z2 d2 hW hz
    rw [if_pos ok_4561]
    refine q_bind (M_storeWide (i := 2501 + 2 * h) hR (by omega) hW (by decide)) ?_
    rintro _ ⟨I5, y, rfl, r5, st⟩
    obtain ⟨kv5, hy⟩ := Sto_q st
    rw [v4] at kv5
    obtain ⟨b1, b2, b3⟩ := kS kv5 (R4_tr r4 r5) (Or.inl rfl)
    rw [if_pos ok_4561]
    have p0 := P.2.2.2.2.1
    have w0 := W.2.2.2.2.1
    have v0' := V.2.2.2.2.1
    have r0 := Q.2.2.2.2.1
    have e : slP m v p w r = qfin z2 d2 := by
      rw [q2']
      show qfin (p.1 * w.1 * (v.2 * r.2 : Nat) + v.1 * r.1 * (p.2 * w.2 : Nat)) (p.2 * w.2 * (v.2 * r.2)) = _
      rw [Int.one_mul] at hz
      exact (qfin_eqv hW.2.2.2.1 (Nat.mul_pos (Nat.mul_pos p0 w0) (Nat.mul_pos v0' r0)) hz).symm
    rw [e]
    exact M_pairTail (x := (z, d)) hR (by omega) b1 b2 b3 hy
  rw [if_neg (show ¬ (Int32.ofNat (m)) = (2 : Int32) from fun y => q2' ((lit 2 (by decide)).mp y))]
  by_cases q0 : m = 0
  · rw [if_pos (show (Int32.ofNat (m)) = (0 : Int32) from (lit 0 (by decide)).mpr q0), if_pos ok_4561, ← ofInt_p1]
    refine q_bind (M_add (i := 2501 + 2 * h) (a := 2501 + 2 * h) (b := 2503 + 2 * h) (e := 1) hR (by omega) (by omega) (by omega) (Or.inl rfl) P3 Q3) ?_
    rintro _ ⟨I4, y, rfl, r4, st⟩
    obtain ⟨kv4, hy⟩ := Sto_q st
    obtain ⟨b1, b2, b3⟩ := kS kv4 (R3_R4 r4) (Or.inl rfl)
    rw [if_pos ok_4561, q0]
    exact M_pairTail (x := (z, d)) hR (by omega) b1 b2 b3 hy
  · have q1 : m = 1 := by omega
    rw [if_neg (show ¬ (Int32.ofNat (m)) = (0 : Int32) from fun y => q0 ((lit 0 (by decide)).mp y)), if_pos ok_4561, ← ofInt_m1]
    refine q_bind (M_add (i := 2501 + 2 * h) (a := 2501 + 2 * h) (b := 2503 + 2 * h) (e := -1) hR (by omega) (by omega) (by omega) (Or.inr rfl) P3 Q3) ?_
    rintro _ ⟨I4, y, rfl, r4, st⟩
    obtain ⟨kv4, hy⟩ := Sto_q st
    obtain ⟨b1, b2, b3⟩ := kS kv4 (R3_R4 r4) (Or.inl rfl)
    rw [if_pos ok_4561, q1]
    exact M_pairTail (x := (z, d)) hR (by omega) b1 b2 b3 hy
end MPA
