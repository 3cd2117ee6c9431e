/-! the class's machine follows ev; a tree is reckoned -/
section CEV
variable {b : GB} {n : GN} {f : GF} {s : GS} {F : Nat} {rec : Rc}
theorem C_evN (hsim : SimC b n f s F rec) (hro : RcO b F rec) : SimC b n f s (F + 1) (evN rec b n f s) := by
  intro J a nn i nd sp ch c d h t sc u z I R hR hE hA ha hT hi hc hd hF hS hK hC h1 h2 h3 h4 hu
  unfold evN
  by_cases q1 : (nd i).1 = 2 ∧ vN (nd i) = 105
  · have e : bkN (nd i) = 1 := if_pos q1
    rw [e] at hK
    rw [if_pos q1]
    exact C_choice hsim hro hR hE hA ha hT hi hc hd hF hS hK hC h1 h2 h3 h4 hu
  rw [if_neg q1]
  by_cases q2 : (nd i).1 = 2 ∧ vN (nd i) = 115
  · have e : bkN (nd i) = 2 := (if_neg q1).trans (if_pos q2)
    rw [e] at hK
    rw [if_pos q2]
    exact C_sum hsim hro hR hE hA ha hT hi hc hd hF hS hK hC h1 h2 h3 h4 hu
  rw [if_neg q2]
  have e : bkN (nd i) = 0 := (if_neg q1).trans (if_neg q2)
  rw [e] at hK
  exact C_plain hsim hro hR hE hA ha hT hi hc hd hF hS hK hC h1 h2 h3 h4 hu
theorem C_ev (hE : EnvOK b n f s) : ∀ F, SimC b n f s F (ev b n f s F) := by
  intro F
  induction F with
  | zero =>
    intro J a nn i nd sp ch c d h t sc u z I R hR hE' hA ha hT hi hc hd hF
    have := (hT.1.2.2.2 i hi).1
    omega
  | succ F ih => exact C_evN ih (ev_RO hE F)
/-- what a tree is worth -/
def evT (b : GB) (n : GN) (f : GF) (s : GS) (nd : Nat → Nd) (sp : Nat → Nat) : Rs := ev b n f s 452 nd sp 0 [] 0 0
theorem evT_RO {nn : Nat} {nd : Nat → Nd} {sp : Nat → Nat} (hE : EnvOK b n f s) (hT : TrO b nn nd sp) (h80 : nn ≤ 80) : RO 0 (evT b n f s nd sp) := by
  have := hT.1.2.2.1
  exact ev_RO hE 452 nn nd sp 0 [] 0 0 hT hT.1.1 (fun e he => by cases he) (by omega) (by omega)
/-- what reckoning leaves -/
def CRes (J : Nat → Nat → Int64) (r : Rs) (I : Nat → Nat → Int32) (R : Nat → Nat → Option Nat) (x : Int32 × xM) : Prop := ∃ I' R', RA R' ∧ FrK (Fm 0 0 0) I I' ∧ match r with
  | .inl e => x = ((Int32.ofNat (e)), mg (4562 + zn J) I' J R')
  | .inr (v, _) => x = (0, mg (4562 + zn J) I' J R') ∧ CV I' 584 v
variable {I : Nat → Nat → Int32} {J : Nat → Nat → Int64} {R : Nat → Nat → Option Nat} {a nn : Nat} {nd : Nat → Nd} {sp : Nat → Nat}
theorem C_restart : QK (f_X4_restart (mg (4562 + zn J) I J R) 567) (fun σ => ∃ I', σ = mg (4562 + zn J) I' J R ∧ FrK (Fm 0 0 0) I I' ∧ MSt I' 0 0 0 0 0) := by
  unfold f_X4_restart
  rw [gs_567, gs_567, gs_567, gs_567, gs_567]
  refine q_ok ⟨_, rfl, fun x j y => ?_, ?_, ?_, ?_, ?_, ?_⟩
  · unfold Fm at y
    rw [up_n (by omega), up_n (by omega), up_n (by omega), up_n (by omega), up_n (by omega)]
  · rw [up_n (by omega), up_n (by omega), up_n (by omega), up_n (by omega), up_s]; rfl
  · rw [up_n (by omega), up_n (by omega), up_s]; rfl
  · rw [up_n (by omega), up_n (by omega), up_n (by omega), up_s]; rfl
  · rw [up_n (by omega), up_s]; rfl
  · rw [up_s]; rfl
/-- the machine at its end -/
theorem work_end {e u : Nat} (he : e = 0 → I 567 12 = 0) : f_X4_work_s4 (567, (Int32.ofNat (e)), (Int32.ofNat (u)), mg (4562 + zn J) I J R) = some (.inr (.inl (567, (Int32.ofNat (e)), mg (4562 + zn J) I J R))) ∨ (e ≠ 0 ∧ 2147483648 ≤ e) := by
  by_cases q9 : 2147483648 ≤ e
  · exact Or.inr ⟨by omega, q9⟩
  left
  unfold f_X4_work_s4
  dsimp only
  rw [q_let, q_let, q_let, q_let]
  by_cases q : (1000000 : Int32) ≤ (Int32.ofNat (u))
  · rw [if_pos q]
  rw [if_neg q, gi_567]
  by_cases q2 : I 567 12 ≤ 0
  · rw [if_pos q2]
  rw [if_neg q2]
  by_cases q3 : e = 0
  · rw [he q3] at q2
    exact absurd (by first | decide | omega) q2
  · rw [if_neg (show ¬ (Int32.ofNat (e)) = (0 : Int32) from i32_ne (b := 0) (by omega) (by omega) q3)]
theorem C_workR {r : Rs} (hr : RO 0 r) (g : SimR J r 0 0 0 0 0 0 I R) : QK (f_X4_work (mg (4562 + zn J) I J R) 567) (CRes J r I R) := by
  unfold f_X4_work
  rw [q_let, q_let]
  cases r with
  | inl e =>
    obtain ⟨k, I1, R1, b1, rc1, hR1, f1, fr1⟩ := g
    have hr : 1 ≤ e ∧ e ≤ 10 := hr
    have en := (work_end (J := J) (R := R1) (I := I1) (e := e) (u := 0 + k) (fun y => by omega)).resolve_right (by omega)
    have x : xloop f_X4_work_s4 xF (567, 0, 0, mg (4562 + zn J) I J R) = some (.inr (567, (Int32.ofNat (e)), mg (4562 + zn J) I1 J R1)) := by
      have := rc1 (xF - k)
      rw [show xF - k + k = xF by unfold xF; omega] at this
      exact this.trans (xl_e (by unfold xF; omega) en)
    rw [x]
    show QK (f_X4_work_j247 (mg (4562 + zn J) I1 J R1) 567 (Int32.ofNat (e))) _
    unfold f_X4_work_j247 f_X4_work_j263 f_X4_work_j264
    rw [if_neg (show ¬ (Int32.ofNat (e)) = (0 : Int32) from i32_ne (b := 0) (by omega) (by omega) (by omega))]
    exact q_ok ⟨I1, R1, hR1, f1, rfl⟩
  | inr r2 =>
    obtain ⟨v, c'⟩ := r2
    obtain ⟨k, I1, R1, b1, rc1, hR1, f1, fr1, S1, V1⟩ := g
    have hr : 0 < c' ∧ c' ≤ 200 ∧ Gd v := hr
    have en := (work_end (J := J) (R := R1) (I := I1) (e := 0) (u := 0 + k) (fun _ => S1.2.1)).resolve_right (by omega)
    have x : xloop f_X4_work_s4 xF (567, 0, 0, mg (4562 + zn J) I J R) = some (.inr (567, (Int32.ofNat (0)), mg (4562 + zn J) I1 J R1)) := by
      have := rc1 (xF - k)
      rw [show xF - k + k = xF by unfold xF; omega] at this
      exact this.trans (xl_e (by unfold xF; omega) en)
    rw [x]
    show QK (f_X4_work_j247 (mg (4562 + zn J) I1 J R1) 567 (Int32.ofNat (0))) _
    unfold f_X4_work_j247 f_X4_work_j263 f_X4_work_j264
    rw [if_pos (show (Int32.ofNat (0)) = (0 : Int32) from rfl), gi_567, S1.2.1, if_pos (show (Int32.ofNat (0)) ≤ (0 : Int32) by decide)]
    exact q_ok ⟨I1, R1, hR1, f1, rfl, V1⟩
/-- a tree is reckoned -/
theorem C_reckonTree (hR : RA R) (hE : CEnv I b n f s) (hA : CT I a nn nd sp) (ha : a + 8 ≤ 540 ∨ 1784 ≤ a) (hT : TrO b nn nd sp) (hn : nn ≤ 80) : QK (f_X4_startTree (mg (4562 + zn J) I J R) 567 a) (fun σ => ∃ I1 R1, σ = mg (4562 + zn J) I1 J R1 ∧ RA R1 ∧ FrK (Fm 0 0 0) I I1 ∧ QK (f_X4_work σ 567) (CRes J (evT b n f s nd sp) I1 R1)) := by
  unfold f_X4_startTree
  rw [if_pos ok_567]
  refine q_bind C_restart ?_
  rintro _ ⟨I1, rfl, f1, S1⟩
  rw [if_pos ok_567]
  have A1 := CT_m hA (by omega) f1
  have n0 := hT.1.1
  refine q_bind (C_begin (i := 0) (scope := -1) hR A1.1 n0 (hT.2 0 n0) S1 (by omega)) ?_
  rintro _ ⟨I2, rfl, f2, S2, K2⟩
  have hR2 : RA (uR R 0 (some a)) := FR_RA (t := 0) (fun x j y => uR_o (by omega)) hR
  have f12 := FrK_tr f1 f2
  have s0 := hT.1.2.2.1
  refine q_ok ⟨I2, _, rfl, hR2, f12, ?_⟩
  have g := C_ev hE.2.2.2.2 452 J a nn 0 nd sp [] 0 0 0 0 0 0 (-1) I2 (uR R 0 (some a)) hR2 (CEnv_keep hE f12) (CT_m hA (by omega) f12) ha hT n0 (fun e he => by cases he) (by omega) (by omega) S2 K2 rfl (by omega) (by omega) (by omega) (by omega) (by omega)
  exact C_workR (evT_RO hE.2.2.2.2 hT hn) g
end CEV
