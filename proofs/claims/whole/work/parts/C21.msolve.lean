/-! equations: the reference's side -/
section MSV
variable {I : Nat → Nat → Int32} {J : Nat → Nat → Int64} {R : Nat → Nat → Option Nat} {β : Type} {p q : Po} {t : GT} {s : GS} {b : GB} {n : GN} {f : GF} {v w : GV} {g : Nat → GV} {pp : GT} {r : GR} {h : GH}
theorem M_latest {I' : Nat → Nat → Int32} (H : InvM I t s b n f v g pp r h) (hC : CSh I s) (e : ∀ a k, DM a k → ¬ (a = 4564 ∧ 728 ≤ k ∧ k < 756) → I' a k = I a k) (hv : MV I' 26 w) : InvM I' t s b n f w g pp r h := by
  obtain ⟨h1, h2, h3, h4, h5, h6, h7, h8, h9, h10⟩ := H
  exact ⟨MTy_keep h1 (fun a k y => e a k (by unfold DM; omega) (by omega)), MSh_keep h2 hC.1 (fun a k y => e a k (by unfold DM; omega) (by omega)) (CSh_80 hC), MTb_keep h3 (fun a k y => e a k (by unfold DM; omega) (by omega)), MNm_keep h4 (fun a k y => e a k (by unfold DM; omega) (by omega)), MFn_keep h5 (fun a k y => e a k (by unfold DM; omega) (by omega)), hv, MKp_keep h7 (fun a k y => e a k (by unfold DM; omega) (by omega)), MPr_keep h8 (fun a k y => e a k (by unfold DM; omega) (by omega)), MTr_keep h9 (fun a k y => e a k (by unfold DM; omega) (by omega)), MHs_keep h10 (fun a k y => e a k (by unfold DM; omega) (by omega))⟩
theorem M_addOne {i K : Nat} {s x : Rat} {e : Int} {x1 : Int32} (hR : RA R) (hx : x1 = Int32.ofInt e) (hi : i < 3700) (A : Vv (I 4564) i x.num x.den) (O : Vv (I 4564) 3600 1 1) (he : e = 1 ∨ e = -1) (hW : Wide I s.num s.den K) (hK : K + 28 ≤ 440) : QK (f_X12_addProduct (mg 4625 I J R) 4561 (Int32.ofNat (i)) 3600 x1) (fun r => ∃ I', r = mg 4625 I' J R ∧ R4 I I' ∧ I' 4564 = I 4564 ∧ Wide I' (if e = 1 then s + x else s - x).num (if e = 1 then s + x else s - x).den (K + 27)) := by
  subst hx
  refine q_mono (M_addProduct (a := i) (b := 3600) (e := e) hR hi (by decide) A O he hW hK) ?_
  rintro _ ⟨I', rfl, r4, v4, W⟩
  refine ⟨I', rfl, r4, v4, ?_⟩
  have D0 : 0 < s.den * x.den := Nat.mul_pos (Nat.pos_of_ne_zero s.den_nz) (Nat.pos_of_ne_zero x.den_nz)
  have es := add_rat (x := s) (y := x) he
  obtain ⟨e1, e2⟩ := rat_rz (z := s.num * x.den + e * (x.num * s.den)) D0
  rw [es] at e1 e2
  rw [Nat.mul_one, Int.mul_one, Int.mul_assoc e] at W
  rw [e1, e2]
  exact W
theorem M_solveTail (hR : RA R) (hM : InvM I t s b n f v g pp r h) (hC : CSh I s) (z0 : I 4561 0 = 0) (hP : MRow I 0 p) (hQ : MRow I 1 q) : QK (f_X12_solve_j144 (mg 4625 I J R) 4561 2701 2700 2710 2709 (if p 1 = q 1 then 0 else 1)) (fun z => ∃ I', (∀ x j, x < 4561 → I' x j = I x j) ∧ I' 4561 0 = 0 ∧ z = ((soT p q).1, mg 4625 I' J R) ∧ InvM I' t s b n f (match (soT p q).2 with | none => v | some x => gv x) g pp r h) := by
  have P0 : Vv (I 4564) 2700 (p 0).num (p 0).den := hP 0 (by decide)
  have P1 : Vv (I 4564) 2701 (p 1).num (p 1).den := hP 1 (by decide)
  have Q0 : Vv (I 4564) 2709 (q 0).num (q 0).den := hQ 0 (by decide)
  have Q1 : Vv (I 4564) 2710 (q 1).num (q 1).den := hQ 1 (by decide)
  have keep : ∀ {I' : Nat → Nat → Int32}, (∀ x j, x < 4561 → I' x j = I x j) → (∀ a k, DM a k → I' a k = I a k) → InvM I' t s b n f v g pp r h := fun _ e => InvM_keep hM hC.1 (CSh_80 hC) e
  unfold f_X12_solve_j144
  by_cases z1 : p 1 = q 1
  · rw [if_pos z1, if_pos rfl, if_pos ok_4561]
    refine q_bind (M_cmp (a := 2700) (b := 2709) hR (by omega) (by omega) P0 Q0) ?_
    rintro _ ⟨I1, y, rfl, r1, v1, hy⟩
    have c1 : ∀ x j, x < 4561 → I1 x j = I x j := fun x j hx => by rw [r1.1 x (by omega)]
    have t1 : I1 4561 0 = 0 := by rw [r1.1 4561 (by omega)]; exact z0
    have hM1 : InvM I1 t s b n f v g pp r h := keep c1 (fun a k hx => by
      by_cases w : a = 4564
      · rw [w, v1]
      · rw [r1.1 a (by unfold DM at hx; omega)])
    have y0 : y = 0 ↔ p 0 = q 0 := by
      rw [← eq_cross]
      rcases hy with ⟨a1, a2⟩ | ⟨a1, a2⟩ | ⟨a1, a2⟩
      · constructor
        · intro w
          rw [w] at a2
          exact absurd a2 (by decide)
        · intro w
          omega
      · exact ⟨fun _ => by omega, fun _ => a2⟩
      · constructor
        · intro w
          rw [w] at a2
          exact absurd a2 (by decide)
        · intro w
          omega
    unfold f_X12_solve_j167
    by_cases z : p 0 = q 0
    · have es : soT p q = (2, none) := by
        unfold soT
        rw [if_pos z1, if_pos z]
      rw [if_pos (y0.mpr z), es]
      exact q_ok ⟨I1, c1, t1, rfl, hM1⟩
    · have es : soT p q = (0, none) := by
        unfold soT
        rw [if_pos z1, if_neg z]
      rw [if_neg (fun w => z (y0.mp w)), es]
      exact q_ok ⟨I1, c1, t1, rfl, hM1⟩
  rw [if_neg z1, if_neg (by decide), if_pos ok_4561]
  refine q_bind (M_setInt (i := 3600) (m := 1) hR (by omega) (by decide)) ?_
  rintro _ ⟨I1, rfl, r1, kv1, O1⟩
  rw [if_pos ok_4561]
  refine q_bind (M_clearWide hR) ?_
  rintro _ ⟨I2, rfl, r2, v2, W2⟩
  have kk : ∀ {a d : Nat} {z : Int}, a ≠ 3600 → Vv (I 4564) a z d → Vv (I1 4564) a z d := fun ha hv => hv.keep kv1 ha
  rw [if_pos ok_4561]
  refine q_bind (M_addOne (i := 2709) (s := 0) (x := q 0) (K := 1) (e := 1) hR ofInt_p1.symm (by omega) (by rw [v2]; exact kk (by omega) Q0) (by rw [v2]; exact O1) (Or.inl rfl) W2 (by omega)) ?_
  rintro _ ⟨I3, rfl, r3, v3, W3⟩
  rw [if_pos rfl, Rat.zero_add] at W3
  rw [if_pos ok_4561]
  refine q_bind (M_addOne (i := 2700) (s := q 0) (x := p 0) (e := -1) hR ofInt_m1.symm (by omega) (by rw [v3, v2]; exact kk (by omega) P0) (by rw [v3, v2]; exact O1) (Or.inr rfl) W3 (by omega)) ?_
  rintro _ ⟨I4, rfl, r4, v4, W4⟩
  rw [if_neg (by decide)] at W4
  have hu0 := W4.2.2.1
  obtain ⟨⟨k8, A8⟩, ⟨k9, A9⟩, s4, du, l8, l9⟩ := W4
  rw [gi_4561, s4, if_pos ok_4561]
  refine q_bind (M_copyAside hR A8 A9 (by have := Rg_le A8 l8; omega) (by have := Rg_le A9 l9; omega)) ?_
  rintro _ ⟨I5, rfl, f5, AS5⟩
  rw [if_pos ok_4561]
  refine q_bind (M_clearWide hR) ?_
  rintro _ ⟨I6, rfl, r6, v6, W6⟩
  have e5 : I5 4564 = I1 4564 := by rw [f5 4564 (by omega), v4, v3, v2]
  rw [if_pos ok_4561]
  refine q_bind (M_addOne (i := 2701) (s := 0) (x := p 1) (K := 1) (e := 1) hR ofInt_p1.symm (by omega) (by rw [v6, e5]; exact kk (by omega) P1) (by rw [v6, e5]; exact O1) (Or.inl rfl) W6 (by omega)) ?_
  rintro _ ⟨I7, rfl, r7, v7, W7⟩
  rw [if_pos rfl, Rat.zero_add] at W7
  rw [if_pos ok_4561]
  refine q_bind (M_addOne (i := 2710) (s := p 1) (x := q 1) (e := -1) hR ofInt_m1.symm (by omega) (by rw [v7, v6, e5]; exact kk (by omega) Q1) (by rw [v7, v6, e5]; exact O1) (Or.inr rfl) W7 (by omega)) ?_
  rintro _ ⟨I8, rfl, r8, v8, W8⟩
  rw [if_neg (by decide)] at W8
  obtain ⟨⟨k8', B8⟩, ⟨k9', B9⟩, s8, dw, l8', l9'⟩ := W8
  have AS8 : As I8 k8 (q 0 - p 0).num.natAbs k9 (q 0 - p 0).den := As_fr AS5 (funext (fun y => by rw [r8 4623 y (by omega) (by omega) (by omega) (by omega), r7 4623 y (by omega) (by omega) (by omega) (by omega), r6 4623 y (by omega) (by omega) (by omega) (by omega)]))
  rw [if_pos ok_4561]
  refine q_bind (M_loadAside hR AS8) ?_
  rintro _ ⟨I9, rfl, f9, R2, R3', c9⟩
  have B8 := B8.kl c9 (by decide)
  have B9 := B9.kl c9 (by decide)
  have t8 := Rg_le A8 l8
  have t9 := Rg_le A9 l9
  have t8' := Rg_le B8 l8'
  have t9' := Rg_le B9 l9'
  rw [if_pos ok_4561]
  refine q_bind (M_times (t := 0) (r := 2) (w := 9) hR (by decide) (by decide) (by decide) (by decide) (by decide) R2 B9 (by omega)) ?_
  rintro _ ⟨I10, ka, rfl, f10, C0, -, c10⟩
  rw [if_pos ok_4561]
  refine q_bind (M_times (t := 1) (r := 3) (w := 8) hR (by decide) (by decide) (by decide) (by decide) (by decide) (R3'.keep c10 (by decide)) (B8.keep c10 (by decide)) (by omega)) ?_
  rintro _ ⟨I11, kb, rfl, f11, C1, -, c11⟩
  have C0 := C0.keep c11 (by decide)
  have s11 : I11 4561 69 = Int32.ofInt (p 1 - q 1).num.sign := by
    rw [f11 4561 (by omega), f10 4561 (by omega), f9 4561 (by omega)]
    exact s8
  rw [gi_4561, s11, if_pos ok_4561, sg_mul]
  have w0 : (p 1 - q 1).num ≠ 0 := fun y => z1 (by
    have e := rat_0.mp y
    have h1 : p 1 - q 1 + q 1 = 0 + q 1 := by rw [e]
    rw [Rat.zero_add] at h1
    rw [← h1]
    grind)
  have wn : 0 < (p 1 - q 1).num.natAbs := by omega
  have pw : (0 : Int) < ((p 1 - q 1).den : Int) := by omega
  have E0 : 0 < (q 0 - p 0).den * (p 1 - q 1).num.natAbs := Nat.mul_pos du wn
  have E2 : 2 * ((q 0 - p 0).den * (p 1 - q 1).num.natAbs) < Bp 440 := by
    have h1 : (q 0 - p 0).den * (p 1 - q 1).num.natAbs < Bp (1 + 27 + 27 + (1 + 27 + 27)) := Bp_mul l9 l8'
    have h2 : Bp 111 = Bp 110 * 65536 := Bp_s 110
    have h3 : Bp 111 ≤ Bp 440 := Bp_le (by decide)
    have h4 : Bp (1 + 27 + 27 + (1 + 27 + 27)) = Bp 110 := rfl
    omega
  have sgn1 : (p 1 - q 1).num.sign.natAbs = 1 := Int.natAbs_sign_of_ne_zero w0
  have ea : (q 0 - p 0).num.natAbs * (p 1 - q 1).den = ((q 0 - p 0).num * (p 1 - q 1).den * (p 1 - q 1).num.sign).natAbs := by
    rw [Int.natAbs_mul, Int.natAbs_mul, Int.natAbs_natCast, sgn1, Nat.mul_one]
  rw [ea] at C0
  have eg : Int32.ofInt ((q 0 - p 0).num * (p 1 - q 1).num).sign = Int32.ofInt ((q 0 - p 0).num * (p 1 - q 1).den * (p 1 - q 1).num.sign).sign := by
    rw [Int.sign_mul, Int.sign_mul, Int.sign_mul, Int.sign_eq_one_of_pos pw, Int.mul_one, Int.sign_sign]
  refine q_bind (M_storeR (i := 26) (z := (q 0 - p 0).num * (p 1 - q 1).den * (p 1 - q 1).num.sign) (D := (q 0 - p 0).den * (p 1 - q 1).num.natAbs) hR (by omega) C0 C1 E0 E2 (Or.inr eg)) ?_
  rintro _ ⟨I12, y, rfl, f12, -, st, -⟩
  obtain ⟨kv, hst⟩ := Sto_rat (x := dvS (q 0 - p 0) (p 1 - q 1)) st E0 rfl
  have e11 : I11 4564 = I1 4564 := by rw [f11 4564 (by omega), f10 4564 (by omega), f9 4564 (by omega), v8, v7, v6, e5]
  have go : ∀ a k, ¬ (a = 4562 ∨ a = 4563 ∨ a = 4564 ∨ a = 4623 ∨ (a = 4561 ∧ k = 69)) → I12 a k = I a k := fun a k hx => by
    rw [f12 a (by omega), f11 a (by omega), f10 a (by omega), f9 a (by omega), r8 a k (by omega) (by omega) (by omega) (by omega), r7 a k (by omega) (by omega) (by omega) (by omega), r6 a k (by omega) (by omega) (by omega) (by omega), f5 a (by omega), r4 a k (by omega) (by omega) (by omega) (by omega), r3 a k (by omega) (by omega) (by omega) (by omega), r2 a k (by omega) (by omega) (by omega) (by omega), r1.1 a (by omega)]
  have go4 : ∀ k, k < 100000 → ¬ (728 ≤ k ∧ k < 756) → I12 4564 k = I 4564 k := fun k h1 h2 => by
    rw [kv k (by omega), e11, kv1 k (by omega)]
  have c12 : ∀ x j, x < 4561 → I12 x j = I x j := fun x j hx => go x j (by omega)
  have t12 : I12 4561 0 = 0 := (go 4561 0 (by omega)).trans z0
  have gD : ∀ a k, DM a k → ¬ (a = 4564 ∧ 728 ≤ k ∧ k < 756) → I12 a k = I a k := fun a k hx hn => by
    by_cases w : a = 4564
    · subst w
      exact go4 k (by unfold DM at hx; omega) (by omega)
    · exact go a k (by unfold DM at hx; omega)
  unfold f_X12_solve_j275
  rcases hst with ⟨ft, rfl, V⟩ | ⟨ft, rfl⟩
  · have es : soT p q = (1, some (dvS (q 0 - p 0) (p 1 - q 1))) := by
      unfold soT
      rw [if_neg z1, if_pos ft]
    rw [show (((1 : Int32), mg 4625 I12 J R) : Int32 × xM).1 = 1 from rfl, if_neg (show ¬ (1 : Int32) = 0 by decide), es]
    exact q_ok ⟨I12, c12, t12, rfl, M_latest hM hC gD V⟩
  · have es : soT p q = (-1, none) := by
      unfold soT
      rw [if_neg z1, if_neg ft]
    rw [show (((0 : Int32), mg 4625 I12 J R) : Int32 × xM).1 = 0 from rfl, if_pos rfl, es]
    refine q_ok ⟨I12, c12, t12, rfl, keep c12 (fun a k hx => ?_)⟩
    by_cases w : a = 4564 ∧ 728 ≤ k ∧ k < 756
    · obtain ⟨rfl, w1, w2⟩ := w
      rcases st with ⟨hf, -⟩ | ⟨-, -, ev⟩
      · exact absurd ((show Fits _ _ → Fit (dvS (q 0 - p 0) (p 1 - q 1)) from fun hf => by
          obtain ⟨e1, e2⟩ := rat_rz (z := (q 0 - p 0).num * (p 1 - q 1).den * (p 1 - q 1).num.sign) E0
          unfold Fits at hf
          unfold Fit dvS
          rw [e1, e2, rz_abs]
          exact hf) hf) ft
      · rw [ev, e11, kv1 k (by omega)]
    · exact gD a k hx w
end MSV
