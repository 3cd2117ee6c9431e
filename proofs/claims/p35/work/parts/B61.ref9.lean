/-! the reference's run follows ev; a tree is reckoned -/
section REV
variable {b : GB} {n : GN} {f : GF} {s : GS} {F : Nat} {rec : Rc}
variable {I : Nat → Nat → Int32} {J : Nat → Nat → Int64} {R : Nat → Nat → Option Nat} {a nn : Nat} {nd : Nat → Nd} {sp : Nat → Nat}
end REV
/-! calls: evaluate -/
section OEV
variable {I : Nat → Nat → Int32} {J : Nat → Nat → Int64} {R : Nat → Nat → Option Nat} {t : GT} {s : GS} {b : GB} {n : GN} {f : GF} {v : GV} {q : Nat → GV} {p : GT} {r : GR} {h : GH} {β : Type}
theorem CEnv_of (hC : InvC I t s b n f v q p r h) (hE : EnvOK b n f s) : CEnv I b n f s := ⟨hC.2.2.1, hC.2.2.2.1, hC.2.2.2.2.1, hC.2.1, hE⟩
theorem tro_of (hC : InvC I t s b n f v q p r h) (hO : OKH s b f h) {k : Nat} (hk : k < s.1) : TrO b (s.2.1 k) (s.2.2.1 k) (s.2.2.2 k) := ⟨(hC.2.1.2.2 k hk).2.1, fun i hi => (OKH_top hO).2.1 k i hk hi⟩
theorem InvC_Fm {I' : Nat → Nat → Int32} (H : InvC I t s b n f v q p r h) (hF : FrK (Fm 0 0 0) I I') : InvC I' t s b n f v q p r h := InvC_keep H (fun x hx => by
  funext k
  exact hF x k (by unfold DC at hx; unfold Fm; omega))
theorem C_result {F : Nat → Option β} (hR : RA R) : (f_X4_result (mg (4562 + zn J) I J R) 567).bind F = F 584 := by
  unfold f_X4_result
  rw [gr_567_2 hR, show ((aR (mg (4562 + zn J) I J R) 568 16 0).bind id).bind (fun x2 => some x2) = some 584 from C_stk (k := 0) hR (by omega)]
  rfl
/-- a value becomes the answer, on the class's side -/
theorem C_answerOf {r' : Rs} {x : Int32 × xM} (hr : RO 0 r') (H : CRes J r' I R x) (hC : InvC I t s b n f v q p r h) : QK (f_X11_answerOf x.2 0 x.1) (fun y => ∃ I' R', RA R' ∧ (∀ a k, 4561 ≤ a → I' a k = I a k) ∧ match r' with
    | .inl e => y = ((Int32.ofNat (e)), mg (4562 + zn J) I' J R') ∧ InvC I' t s b n f v q p r h
    | .inr (w, _) => y = (0, mg (4562 + zn J) I' J R') ∧ InvC I' t s b n f w q p r h) := by
  obtain ⟨I1, R1, hR1, f1, hx⟩ := H
  have hC1 := InvC_Fm hC f1
  unfold f_X11_answerOf f_X11_answerOf_j18
  cases r' with
  | inl e =>
    have hr : 1 ≤ e ∧ e ≤ 10 := hr
    have hx : x = ((Int32.ofNat (e)), mg (4562 + zn J) I1 J R1) := hx
    rw [hx]
    dsimp only
    rw [if_neg (show ¬ (Int32.ofNat (e)) = (0 : Int32) from i32_ne (b := 0) (by omega) (by omega) (by omega))]
    exact q_ok ⟨I1, R1, hR1, fun a k ha => f1 a k (by unfold Fm; omega), rfl, hC1⟩
  | inr r2 =>
    obtain ⟨w, c⟩ := r2
    have hr : 0 < c ∧ c ≤ 200 ∧ Gd w := hr
    obtain ⟨hx, hV⟩ := hx
    rw [hx]
    dsimp only
    rw [if_pos rfl, gr_0_10 hR1, gr_0_6 hR1, if_pos ok_567, C_result hR1, if_pos (bF_xk isF_4541)]
    refine q_bind (C_lat hR1 hC1 hV ⟨b200 hr.2.2.1, b200 (by rw [Int.natAbs_natCast]; exact hr.2.2.2.2.1)⟩ (by omega)) ?_
    rintro _ ⟨I2, rfl, hC2, -, hF2⟩
    exact q_ok ⟨I2, R1, hR1, fun a k ha => by rw [hF2 a (fun w => by unfold Sf at w; omega), f1 a k (by unfold Fm; omega)], rfl, hC2⟩
def EvPost (J : Nat → Nat → Int64) (r' : Rs) (I : Nat → Nat → Int32) (t : GT) (s : GS) (b : GB) (n : GN) (f : GF) (v : GV) (q : Nat → GV) (p : GT) (r : GR) (h : GH) (y : (Int32 ⊕ String) × xM) : Prop := ∃ I' R', RA R' ∧ (∀ a k, 4561 ≤ a → I' a k = I a k) ∧ match r' with
  | .inl e => y = (.inl (Int32.ofNat (e)), mg (4562 + zn J) I' J R') ∧ InvC I' t s b n f v q p r h
  | .inr (w, _) => y = (.inl 0, mg (4562 + zn J) I' J R') ∧ InvC I' t s b n f w q p r h
theorem C_evTail {r' : Rs} {I0 : Nat → Nat → Int32} (ro : RO 0 r') (hR1 : RA R) (hC : InvC I t s b n f v q p r h) (k0 : ∀ a k, 4561 ≤ a → I a k = I0 a k) (hw : QK (f_X4_work (mg (4562 + zn J) I J R) 567) (CRes J r' I R)) : QK ((gR (mg (4562 + zn J) I J R) 0 11 6).bind (fun x5 => (if xk (mg (4562 + zn J) I J R) x5 4 = true then (f_X4_work (mg (4562 + zn J) I J R) x5).bind (fun p6 => (if xk p6.2 0 11 = true then (f_X11_answerOf p6.2 0 p6.1).bind (fun p7 => some ((Sum.inl p7.1 : Int32 ⊕ String), p7.2)) else none)) else none))) (EvPost J r' I0 t s b n f v q p r h) := by
  rw [gr_0_6 hR1, if_pos ok_567]
  refine q_bind hw ?_
  intro y hy
  have hy' := hy
  obtain ⟨Iy, Ry, hRy, fy, hyy⟩ := hy
  have oky : xk y.2 0 11 = true := by
    cases r' with
    | inl e1 =>
      have hyy : y = ((Int32.ofNat (e1)), mg (4562 + zn J) Iy J Ry) := hyy
      rw [hyy]
      exact ok_0
    | inr r2 =>
      have hyy : y = (0, mg (4562 + zn J) Iy J Ry) := hyy.1
      rw [hyy]
      exact ok_0
  rw [if_pos oky]
  refine q_bind (C_answerOf ro hy' hC) ?_
  rintro ⟨y1, y2⟩ ⟨I2, R2, hR2, k2, hy2⟩
  refine q_ok ⟨I2, R2, hR2, fun a k ha => by rw [k2 a k ha, k0 a k ha], ?_⟩
  cases r' with
  | inl e1 =>
    obtain ⟨g1, g2⟩ := hy2
    have g3 := Prod.mk.inj g1
    refine ⟨?_, g2⟩
    show (Sum.inl y1, y2) = _
    rw [g3.1, g3.2]
  | inr r2 =>
    obtain ⟨w, c⟩ := r2
    obtain ⟨g1, g2⟩ := hy2
    have g3 := Prod.mk.inj g1
    refine ⟨?_, g2⟩
    show (Sum.inl y1, y2) = _
    rw [g3.1, g3.2]
end OEV
