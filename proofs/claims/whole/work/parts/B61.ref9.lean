/-! the reference's run follows ev; a tree is reckoned -/
section REV
variable {b : GB} {n : GN} {f : GF} {s : GS} {F : Nat} {rec : Rc}
theorem M_evN (hsim : SimM b n f s F rec) (hro : RcO b F rec) : SimM b n f s (F + 1) (evN rec b n f s) := by
  intro J R a nn i nd sp ch c d h t w u z I hR hE hA hT hi hc hd hF hS hK hC h1 h2 h3 h4 hu
  unfold evN
  by_cases q1 : (nd i).1 = 2 ∧ vN (nd i) = 105
  · have e : bkN (nd i) = 1 := if_pos q1
    rw [if_pos q1]
    exact M_choice hsim hro hR hE hA hT hi e hc hd hF hS hK hC h1 h2 h3 h4 hu
  rw [if_neg q1]
  by_cases q2 : (nd i).1 = 2 ∧ vN (nd i) = 115
  · have e : bkN (nd i) = 2 := (if_neg q1).trans (if_pos q2)
    rw [if_pos q2]
    exact M_sum hsim hro hR hE hA hT hi e hc hd hF hS hK hC h1 h2 h3 h4 hu
  rw [if_neg q2]
  have e : bkN (nd i) = 0 := (if_neg q1).trans (if_neg q2)
  exact M_plain hsim hro hR hE hA hT hi e hc hd hF hS hK hC h1 h2 h3 h4 hu
theorem M_ev (hE : EnvOK b n f s) : ∀ F, SimM b n f s F (ev b n f s F) := by
  intro F
  induction F with
  | zero =>
    intro J R a nn i nd sp ch c d h t w u z I hR hE' hA hT hi hc hd hF
    have := (hT.1.2.2.2 i hi).1
    omega
  | succ F ih => exact M_evN ih (ev_RO hE F)
/-- what reckoning leaves -/
def MRes (J : Nat → Nat → Int64) (R : Nat → Nat → Option Nat) (r : Rs) (I : Nat → Nat → Int32) (x : Int32 × xM) : Prop := ∃ I', FrK (Fx 0 0 0) I I' ∧ match r with
  | .inl e => x = ((Int32.ofNat (e)), mg 4625 I' J R)
  | .inr (v, _) => x = (0, mg 4625 I' J R) ∧ MV I' 60 v
variable {I : Nat → Nat → Int32} {J : Nat → Nat → Int64} {R : Nat → Nat → Option Nat} {a nn : Nat} {nd : Nat → Nd} {sp : Nat → Nat}
theorem run_end {e : Nat} (he : e = 0 → I 4561 56 = 0) (h9 : e < 2147483648) : f_X12_run_s33 (4561, (Int32.ofNat (e)), mg 4625 I J R) = some (.inr (.inl ((Int32.ofNat (e)), mg 4625 I J R))) := by
  unfold f_X12_run_s33
  dsimp only
  rw [q_let, q_let, q_let, gi_4561]
  by_cases q2 : I 4561 56 ≤ 0
  · rw [if_pos q2]
  rw [if_neg q2]
  by_cases q3 : e = 0
  · rw [he q3] at q2
    exact absurd (by decide) q2
  · rw [if_neg (show ¬ (Int32.ofNat (e)) = (0 : Int32) from i32_ne (b := 0) (by omega) (by omega) q3)]
theorem M_run (hR : RA R) (hE : MEnv I b n f s) (hA : MT I a nn nd sp) (hT : TrO b nn nd sp) (hn : nn ≤ 80) : QK (f_X12_run (mg 4625 I J R) 4561 (Int32.ofNat (a))) (MRes J R (evT b n f s nd sp) I) := by
  unfold f_X12_run
  rw [gs_4561, gs_4561, gs_4561, gs_4561, gs_4561, if_pos ok_4561]
  have f1 : FrK (Fx 0 0 0) I (up (up (up (up (up I 4561 61 0) 4561 62 0) 4561 63 0) 4561 60 0) 4561 56 0) := fun x j y => by
    unfold Fx at y
    rw [up_n (by omega), up_n (by omega), up_n (by omega), up_n (by omega), up_n (by omega)]
  have S1 : RSt (up (up (up (up (up I 4561 61 0) 4561 62 0) 4561 63 0) 4561 60 0) 4561 56 0) 0 0 0 0 0 := by
    refine ⟨?_, ?_, ?_, ?_, ?_⟩
    · rw [up_n (by omega), up_n (by omega), up_n (by omega), up_n (by omega), up_s]; rfl
    · rw [up_s]; rfl
    · rw [up_n (by omega), up_n (by omega), up_n (by omega), up_s]; rfl
    · rw [up_n (by omega), up_n (by omega), up_s]; rfl
    · rw [up_n (by omega), up_s]; rfl
  generalize up (up (up (up (up I 4561 61 0) 4561 62 0) 4561 63 0) 4561 60 0) 4561 56 0 = I1 at *
  refine q_bind (M_enter hR S1 (by omega)) ?_
  rintro _ ⟨I2, rfl, f2, S2, K2⟩
  rw [q_let]
  have f12 := FrK_tr f1 f2
  have s0 := hT.1.2.2.1
  have n0 := hT.1.1
  have g := M_ev hE.2.2.2 452 J R a nn 0 nd sp [] 0 0 0 0 0 0 (-1) I2 hR (MEnv_keep hE f12) (MT_m hA f12) hT n0 (fun e he => by cases he) (by omega) (by omega) S2 K2 rfl (by omega) (by omega) (by omega) (by omega) (by omega)
  have ro := evT_RO hE.2.2.2 hT hn
  have g : SimQ J R (evT b n f s nd sp) 0 0 0 0 0 0 I2 := g
  generalize evT b n f s nd sp = r at *
  cases r with
  | inl e =>
    obtain ⟨k, I3, b3, rc3, f3⟩ := g
    have ro : 1 ≤ e ∧ e ≤ 10 := ro
    have en := run_end (J := J) (R := R) (I := I3) (e := e) (fun y => by omega) (by omega)
    have x : xloop f_X12_run_s33 xF (4561, 0, mg 4625 I2 J R) = some (.inr ((Int32.ofNat (e)), mg 4625 I3 J R)) := by
      have := rc3 (xF - k)
      rw [show xF - k + k = xF by unfold xF; omega] at this
      exact this.trans (xl_e (by unfold xF; omega) en)
    rw [x]
    exact q_ok ⟨I3, FrK_tr f12 f3, rfl⟩
  | inr r2 =>
    obtain ⟨v, c'⟩ := r2
    obtain ⟨k, I3, b3, rc3, f3, S3, V3⟩ := g
    have ro : 0 < c' ∧ c' ≤ 200 ∧ Gd v := ro
    have en := run_end (J := J) (R := R) (I := I3) (e := 0) (fun _ => S3.2.1) (by omega)
    have x : xloop f_X12_run_s33 xF (4561, 0, mg 4625 I2 J R) = some (.inr ((Int32.ofNat (0)), mg 4625 I3 J R)) := by
      have := rc3 (xF - k)
      rw [show xF - k + k = xF by unfold xF; omega] at this
      exact this.trans (xl_e (by unfold xF; omega) en)
    rw [x]
    exact q_ok ⟨I3, FrK_tr f12 f3, rfl, V3⟩
end REV
/-! calls: evaluate -/
section OEV
variable {I : Nat → Nat → Int32} {J : Nat → Nat → Int64} {R : Nat → Nat → Option Nat} {t : GT} {s : GS} {b : GB} {n : GN} {f : GF} {v : GV} {q : Nat → GV} {p : GT} {r : GR} {h : GH} {β : Type}
theorem MV_Gd {i : Nat} {w : GV} (H : MV I i w) : Gd w := H.2.2.2
theorem env_of (hC : InvC I t s b n f v q p r h) (hM : InvM I t s b n f v q p r h) (hO : OKH s b f h) : EnvOK b n f s :=
  ⟨(OKH_top hO).1, fun k hk => ⟨(hC.2.1.2.2 k hk).2.1, fun i hi => (OKH_top hO).2.1 k i hk hi⟩, (OKH_top hO).2.2, fun l hl => MV_Gd (hM.2.2.2.1 l hl).2, hC.2.1.1⟩
theorem CEnv_of (hC : InvC I t s b n f v q p r h) (hE : EnvOK b n f s) : CEnv I b n f s := ⟨hC.2.2.1, hC.2.2.2.1, hC.2.2.2.2.1, hC.2.1, hE⟩
theorem MEnv_of (hM : InvM I t s b n f v q p r h) (hE : EnvOK b n f s) : MEnv I b n f s := ⟨hM.2.2.1, hM.2.2.2.1, hM.2.2.2.2.1, hE⟩
theorem tro_of (hC : InvC I t s b n f v q p r h) (hO : OKH s b f h) {k : Nat} (hk : k < s.1) : TrO b (s.2.1 k) (s.2.2.1 k) (s.2.2.2 k) := ⟨(hC.2.1.2.2 k hk).2.1, fun i hi => (OKH_top hO).2.1 k i hk hi⟩
theorem InvC_Fm {I' : Nat → Nat → Int32} (H : InvC I t s b n f v q p r h) (hF : FrK (Fm 0 0 0) I I') : InvC I' t s b n f v q p r h := InvC_keep H (fun x hx => by
  funext k
  exact hF x k (by unfold DC at hx; unfold Fm; omega))
theorem InvM_Fm {I' : Nat → Nat → Int32} (H : InvM I t s b n f v q p r h) (hC : CSh I s) (hF : FrK (Fm 0 0 0) I I') : InvM I' t s b n f v q p r h := InvM_C H hC (fun x k hx _ => hF x k (by unfold Fm; omega))
theorem InvM_Fx {I0 I' : Nat → Nat → Int32} (H : InvM I t s b n f v q p r h) (hC : CSh I0 s) (hF : FrK (Fx 0 0 0) I I') : InvM I' t s b n f v q p r h := InvM_keep H hC.1 (CSh_80 hC) (fun x k hx => hF x k (by unfold DM at hx; unfold Fx; omega))
theorem C_result {F : Nat → Option β} (hR : RA R) : (f_X4_result (mg 4625 I J R) 567).bind F = F 584 := by
  unfold f_X4_result
  rw [gr_567_2 hR, show ((aR (mg 4625 I J R) 568 16 0).bind id).bind (fun x2 => some x2) = some 584 from C_stk (k := 0) hR (by omega)]
  rfl
/-- a value becomes the answer, on the class's side -/
theorem C_answerOf {r' : Rs} {x : Int32 × xM} (hr : RO 0 r') (H : CRes J r' I R x) (hC : InvC I t s b n f v q p r h) : QK (f_X11_answerOf x.2 0 x.1) (fun y => ∃ I' R', RA R' ∧ (∀ a k, 4561 ≤ a → I' a k = I a k) ∧ match r' with
    | .inl e => y = ((Int32.ofNat (e)), mg 4625 I' J R') ∧ InvC I' t s b n f v q p r h
    | .inr (w, _) => y = (0, mg 4625 I' J R') ∧ InvC I' t s b n f w q p r h) := by
  obtain ⟨I1, R1, hR1, f1, hx⟩ := H
  have hC1 := InvC_Fm hC f1
  unfold f_X11_answerOf f_X11_answerOf_j18
  cases r' with
  | inl e =>
    have hr : 1 ≤ e ∧ e ≤ 10 := hr
    have hx : x = ((Int32.ofNat (e)), mg 4625 I1 J R1) := hx
    rw [hx]
    dsimp only
    rw [if_neg (show ¬ (Int32.ofNat (e)) = (0 : Int32) from i32_ne (b := 0) (by omega) (by omega) (by omega))]
    exact q_ok ⟨I1, R1, hR1, fun a k ha => f1 a k (by unfold Fm; omega), rfl, hC1⟩
  | inr r2 =>
    obtain ⟨w, c⟩ := r2
    have hr : 0 < c ∧ c ≤ 200 ∧ Gd w := hr
    obtain ⟨hx, hV⟩ := hx
    rw [hx]
    dsimp only
    rw [if_pos rfl, gr_0_10 hR1, gr_0_6 hR1, if_pos ok_567, C_result hR1, if_pos (bF_xk isF_4541)]
    refine q_bind (C_lat hR1 hC1 hV ⟨b200 hr.2.2.1, b200 (by rw [Int.natAbs_natCast]; exact hr.2.2.2.2.1)⟩ (by omega)) ?_
    rintro _ ⟨I2, rfl, hC2, -, hF2⟩
    exact q_ok ⟨I2, R1, hR1, fun a k ha => by rw [hF2 a (fun w => by unfold Sf at w; omega), f1 a k (by unfold Fm; omega)], rfl, hC2⟩
theorem M_answers {a nn : Nat} {nd : Nat → Nd} {sp : Nat → Nat} {I0 : Nat → Nat → Int32} (hR : RA R) (hM : InvM I t s b n f v q p r h) (hC : CSh I0 s) (hE : EnvOK b n f s) (hA : MT I a nn nd sp) (hT : TrO b nn nd sp) (hn : nn ≤ 80) (h40 : ∀ x, x < 4561 → I0 x = I x) : QK (f_X12_answers (mg 4625 I J R) 4561 (Int32.ofNat (a))) (fun y => ∃ I', (∀ a k, a < 4561 → I' a k = I a k) ∧ I' 4561 0 = I 4561 0 ∧ match evT b n f s nd sp with
    | .inl e => y = ((Int32.ofNat (e)), mg 4625 I' J R) ∧ InvM I' t s b n f v q p r h
    | .inr (w, _) => y = (0, mg 4625 I' J R) ∧ InvM I' t s b n f w q p r h) := by
  have ro := evT_RO hE hT hn
  unfold f_X12_answers f_X12_answers_j18
  rw [if_pos ok_4561]
  refine q_bind (M_run hR (MEnv_of hM hE) hA hT hn) ?_
  rintro x ⟨I1, f1, hx⟩
  have hM1 := InvM_Fx hM hC f1
  generalize evT b n f s nd sp = r' at *
  cases r' with
  | inl e =>
    have ro : 1 ≤ e ∧ e ≤ 10 := ro
    have hx : x = ((Int32.ofNat (e)), mg 4625 I1 J R) := hx
    rw [hx]
    dsimp only
    rw [if_neg (show ¬ (Int32.ofNat (e)) = (0 : Int32) from i32_ne (b := 0) (by omega) (by omega) (by omega))]
    exact q_ok ⟨I1, fun a k ha => f1 a k (by unfold Fx; omega), f1 4561 0 (by unfold Fx; omega), rfl, hM1⟩
  | inr r2 =>
    obtain ⟨w, c⟩ := r2
    obtain ⟨hx, hV⟩ := hx
    rw [hx]
    dsimp only
    rw [if_pos rfl, if_pos ok_4561]
    have hC1 : CSh I1 s := CSh_keep hC (fun x hx => funext (fun k => by rw [h40 x (by omega), f1 x k (by unfold Fx; omega)]))
    refine q_bind (M_lat (i := 60) hR hM1 hC1 hV (by omega) (by omega)) ?_
    rintro _ ⟨I2, rfl, hM2, -, k1, k2⟩
    exact q_ok ⟨I2, fun a k ha => by rw [k1 a k ha, f1 a k (by unfold Fx; omega)], by rw [k2, f1 4561 0 (by unfold Fx; omega)], rfl, hM2⟩
theorem l_evaluate {x w : Int32} {I1 : Nat → Nat → Int32} {R1 : Nat → Nat → Option Nat} (h : f_X11_evaluate (mg 4625 I J R) 0 x = some (.inl w, mg 4625 I1 J R1)) : f_L_evaluate (mg 4625 I J R) 0 x 4624 = some (0, mg 4625 I1 (oJ J w.toInt64) R1) := by
  unfold f_L_evaluate
  rw [if_pos ok_0, h, Option.bind_some, q_let, Sum.elim_inl, owJ0]
  rfl
def EvPost (J : Nat → Nat → Int64) (r' : Rs) (I : Nat → Nat → Int32) (t : GT) (s : GS) (b : GB) (n : GN) (f : GF) (v : GV) (q : Nat → GV) (p : GT) (r : GR) (h : GH) (y : (Int32 ⊕ String) × xM) : Prop := ∃ I' R', RA R' ∧ (∀ a k, 4561 ≤ a → I' a k = I a k) ∧ match r' with
  | .inl e => y = (.inl (Int32.ofNat (e)), mg 4625 I' J R') ∧ InvC I' t s b n f v q p r h
  | .inr (w, _) => y = (.inl 0, mg 4625 I' J R') ∧ InvC I' t s b n f w q p r h
theorem C_evTail {r' : Rs} {I0 : Nat → Nat → Int32} (ro : RO 0 r') (hR1 : RA R) (hC : InvC I t s b n f v q p r h) (k0 : ∀ a k, 4561 ≤ a → I a k = I0 a k) (hw : QK (f_X4_work (mg 4625 I J R) 567) (CRes J r' I R)) : QK ((gR (mg 4625 I J R) 0 11 6).bind (fun x5 => (if xk (mg 4625 I J R) x5 4 = true then (f_X4_work (mg 4625 I J R) x5).bind (fun p6 => (if xk p6.2 0 11 = true then (f_X11_answerOf p6.2 0 p6.1).bind (fun p7 => some ((Sum.inl p7.1 : Int32 ⊕ String), p7.2)) else none)) else none))) (EvPost J r' I0 t s b n f v q p r h) := by
  rw [gr_0_6 hR1, if_pos ok_567]
  refine q_bind hw ?_
  intro y hy
  have hy' := hy
  obtain ⟨Iy, Ry, hRy, fy, hyy⟩ := hy
  have oky : xk y.2 0 11 = true := by
    cases r' with
    | inl e1 =>
      have hyy : y = ((Int32.ofNat (e1)), mg 4625 Iy J Ry) := hyy
      rw [hyy]
      exact ok_0
    | inr r2 =>
      have hyy : y = (0, mg 4625 Iy J Ry) := hyy.1
      rw [hyy]
      exact ok_0
  rw [if_pos oky]
  refine q_bind (C_answerOf ro hy' hC) ?_
  rintro ⟨y1, y2⟩ ⟨I2, R2, hR2, k2, hy2⟩
  refine q_ok ⟨I2, R2, hR2, fun a k ha => by rw [k2 a k ha, k0 a k ha], ?_⟩
  cases r' with
  | inl e1 =>
    obtain ⟨g1, g2⟩ := hy2
    have g3 := Prod.mk.inj g1
    refine ⟨?_, g2⟩
    show (Sum.inl y1, y2) = _
    rw [g3.1, g3.2]
  | inr r2 =>
    obtain ⟨w, c⟩ := r2
    obtain ⟨g1, g2⟩ := hy2
    have g3 := Prod.mk.inj g1
    refine ⟨?_, g2⟩
    show (Sum.inl y1, y2) = _
    rw [g3.1, g3.2]
/-- both sides together -/
theorem ev_fin {r' : Rs} {X : Option ((Int32 ⊕ String) × xM)} {fl : Option (Int32 × xM)} {fm : xM → Option (Int32 × xM)} (hC : InvC I t s b n f v q p r h) (hM : InvM I t s b n f v q p r h) (hO : OKH s b f h) (hcl : QK X (EvPost J r' I t s b n f v q p r h)) (hfl : ∀ w I1 R1, X = some (.inl w, mg 4625 I1 J R1) → fl = some (0, mg 4625 I1 (oJ J w.toInt64) R1)) (href : ∀ I2 J R2, RA R2 → InvM I2 t s b n f v q p r h → CSh I2 s → QK (fm (mg 4625 I2 J R2)) (fun y => ∃ I', (∀ a k, a < 4561 → I' a k = I2 a k) ∧ I' 4561 0 = 0 ∧ match r' with
    | .inl e => y = ((Int32.ofNat (e)), mg 4625 I' J R2) ∧ InvM I' t s b n f v q p r h
    | .inr (w, _) => y = (0, mg 4625 I' J R2) ∧ InvM I' t s b n f w q p r h)) : opW Pinv fl fm := by
  obtain ⟨yc, e1, I2, R2, hR2, k2, hy⟩ := hcl
  have hM2 : InvM I2 t s b n f v q p r h := InvM_C hM hC.2.1 (fun x k hx _ => k2 x k hx)
  cases r' with
  | inl e =>
    obtain ⟨g1, g2⟩ := hy
    rw [g1] at e1
    obtain ⟨yr, e2, I3, k3, k0, g3, g4⟩ := href I2 (oJ J ((Int32.ofNat (e))).toInt64) R2 hR2 hM2 g2.2.1
    rw [g3] at e2
    exact op_ok (hfl _ _ _ e1) e2 k0 (Pinv_mk hR2 (InvC_M g2 k3) g4 hO)
  | inr r2 =>
    obtain ⟨w, c⟩ := r2
    obtain ⟨g1, g2⟩ := hy
    rw [g1] at e1
    obtain ⟨yr, e2, I3, k3, k0, g3, g4⟩ := href I2 (oJ J (0 : Int32).toInt64) R2 hR2 hM2 g2.2.1
    rw [g3] at e2
    exact op_ok (hfl _ _ _ e1) e2 k0 (Pinv_mk hR2 (InvC_M g2 k3) g4 hO)
theorem o_evaluate (hR : RA R) (H : Inv I) : op_evaluate Pinv (mg 4625 I J R) := by
  obtain ⟨t, s, b, n, f, v, q, p, r, h, hC, hM, hO⟩ := H
  intro x
  have h30 := hC.2.1.1
  have hE := env_of hC hM hO
  rcases i32_two s.1 (by omega) x with ⟨k, hk, rfl⟩ | hx
  · have c1 := hC.2.1.2.2 k hk
    have n1 := CT_n c1
    have hT := tro_of hC hO hk
    have ro := evT_RO hE hT n1.2
    have key : QK (f_X11_evaluate (mg 4625 I J R) 0 (Int32.ofNat (k))) (EvPost J (evT b n f s (s.2.2.1 k) (s.2.2.2 k)) I t s b n f v q p r h) := by
      unfold f_X11_evaluate
      rw [if_pos ok_0, C_treeAt1 hR hC.2.1 hk, Sum.elim_inl, gr_0_6 hR, if_pos ok_567]
      refine q_bind (C_reckonTree hR (CEnv_of hC hE) c1 (by omega) hT n1.2) ?_
      rintro _ ⟨I1, R1, rfl, hR1, f1, hw⟩
      exact C_evTail ro hR1 (InvC_Fm hC f1) (fun a k ha => f1 a k (by unfold Fm; omega)) hw
    refine ev_fin hC hM hO key (fun w I1 R1 e => l_evaluate e) ?_
    intro I2 J R2 hR2 hM2 hC2
    have hM3 : InvM (thI I2 0) t s b n f v q p r h := InvM_C hM2 hC.2.1 (fun x k hx hk => thI_n hk)
    show QK (f_X12_evaluate (mg 4625 I2 J R2) 4561 (Int32.ofNat (k))) _
    unfold f_X12_evaluate f_X12_evaluate_j14 f_X12_evaluate_j34
    rw [if_pos ok_4561, M_isTree1 hM2.2.1 h30 hk, if_neg (by decide), if_pos ok_4561, m_refO, M_shelf, if_pos ok_4561]
    refine q_bind (M_answers hR2 hM3 (CSh_th hC2) hE (hM3.2.1.2 k hk).2 hT n1.2 (fun x hx => rfl)) ?_
    rintro ⟨y1, y2⟩ ⟨I4, k1, k4, hy4⟩
    exact q_ok ⟨I4, fun a x ha => by rw [k1 a x ha, thI_n (by omega)], by rw [k4]; exact thI_0, hy4⟩
  · have e3 : f_L_evaluate (mg 4625 I J R) 0 x 4624 = some (1, mg 4625 I J R) := by
      unfold f_L_evaluate f_X11_evaluate
      rw [if_pos ok_0, if_pos ok_0, C_treeAt0 hR hC.2.1 hx, Sum.elim_inr, Option.bind_some, q_let, Sum.elim_inr, if_pos rfl]
    have e2 : f_X12_evaluate (mg 4625 I J R) 4561 x = some (0, mg 4625 (thI I 1) J R) := by
      unfold f_X12_evaluate f_X12_evaluate_j14 f_X12_evaluate_j34
      rw [if_pos ok_4561, M_isTree0 hM.2.1 h30 hx, if_pos rfl, if_pos ok_4561, m_refX]
    exact op_ex e3 e2 thI_0 (by decide) (Pinv_th hR hC hM hO (fun x _ => rfl))
end OEV
