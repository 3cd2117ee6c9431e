/-! turns of a call -/
def moreI (w : Nat × Nat) : Int32 := if w.1 = 0 then -1 else if w.1 = 1 then (Int32.ofNat (w.2)) else -2
theorem half_0 {k : Nat} (hk : k < 1000) : (Int32.ofNat (2 * k)) / (2 : Int32) = (Int32.ofNat (k)) ∧ ¬ ((Int32.ofNat (2 * k)) - (Int32.ofNat (k)) * (2 : Int32)) = 1 := by
  have e : (Int32.ofNat (2 * k)) / (2 : Int32) = (Int32.ofNat (k)) := by
    rw [show (2 : Int32) = (Int32.ofNat (2)) from rfl, n_div (by omega) (by omega)]
    congr 1
    omega
  refine ⟨e, ?_⟩
  rw [show (2 : Int32) = (Int32.ofNat (2)) from rfl, n_mul, n_sub (by omega)]
  exact i32_ne (b := 1) (by omega) (by omega) (by omega)
theorem half_1 {k : Nat} (hk : k < 1000) : (Int32.ofNat (2 * k + 1)) / (2 : Int32) = (Int32.ofNat (k)) ∧ ((Int32.ofNat (2 * k + 1)) - (Int32.ofNat (k)) * (2 : Int32)) = 1 := by
  have e : (Int32.ofNat (2 * k + 1)) / (2 : Int32) = (Int32.ofNat (k)) := by
    rw [show (2 : Int32) = (Int32.ofNat (2)) from rfl, n_div (by omega) (by omega)]
    congr 1
    omega
  refine ⟨e, ?_⟩
  rw [show (2 : Int32) = (Int32.ofNat (2)) from rfl, n_mul, n_sub (by omega), show 2 * k + 1 - k * 2 = 1 by omega]
  rfl
section CL
variable {I : Nat → Nat → Int32} {J : Nat → Nat → Int64} {R : Nat → Nat → Option Nat} {β : Type} {h t c d sc u l k : Nat} {b : GB} {n : GN} {f : GF} {s : GS} {z : Int32} {w : Nat × Nat}
theorem work_call {stage more : Int32} {node : Int32} (hR : RA R) (hS : MSt I h (t + 1) c d sc) (hK : TKc I R t 3 none node stage z more) (ht : t < 480) (hu : u < 1000000) : f_X4_work_s4 (567, 0, (Int32.ofNat (u)), mg (4562 + zn J) I J R) = (f_X4_advanceCall (mg (4562 + zn J) I J R) 567 (Int32.ofNat (t)) node).bind (fun p13 => f_X4_work_j241 p13.2 567 p13.1 (Int32.ofNat (u))) := by
  obtain ⟨s1, s2, s3, s4, s5⟩ := hS
  obtain ⟨k1, k2, k3, k4, k5, k6⟩ := hK
  unfold f_X4_work_s4 f_X4_work_j67
  dsimp only
  rw [q_let, q_let, q_let, q_let, if_neg (show ¬ (1000000 : Int32) ≤ (Int32.ofNat (u)) from fun y => absurd ((i32_le (k := 1000000) (by omega) (by omega)).mp y) (by omega)), gi_567, s2, if_neg (show ¬ (Int32.ofNat (t + 1)) ≤ (0 : Int32) from fun y => absurd ((i32_le (m := 0) (by omega) (by omega)).mp y) (by omega)), if_pos rfl, gi_567, s2, q_let, show (Int32.ofNat (t + 1)) - (1 : Int32) = (Int32.ofNat (t)) from n_sub (b := 1) (by omega), gr_567_7 hR, g_tree ht, gr_567_8 hR, ga_576 ht, gr_567_9 hR, ga_577 ht, k2, k3, k4, Option.elim_none, if_pos ok_567]
/-- the stage of a task goes on -/
theorem TK_stage {kd node stage stage' more : Int32} {o : Option Nat} (hS : MSt I h (t + 1) c d sc) (hK : TKc I R t kd o node stage z more) : FrK (Fm h t sc) I (up I 577 t stage') ∧ MSt (up I 577 t stage') h (t + 1) c d sc ∧ TKc (up I 577 t stage') R t kd o node stage' z more := by
  obtain ⟨s1, s2, s3, s4, s5⟩ := hS
  obtain ⟨k1, k2, k3, k4, k5, k6⟩ := hK
  refine ⟨fun x j y => ?_, ⟨by rw [up_n (by omega)]; exact s1, by rw [up_n (by omega)]; exact s2, by rw [up_n (by omega)]; exact s3, by rw [up_n (by omega)]; exact s4, by rw [up_n (by omega)]; exact s5⟩, by rw [up_n (by omega)]; exact k1, k2, by rw [up_n (by omega)]; exact k3, up_s, by rw [up_n (by omega)]; exact k5, by rw [up_n (by omega)]; exact k6⟩
  unfold Fm at y
  rw [up_n (by omega)]
theorem TK_more {kd node stage more more' : Int32} {o : Option Nat} (hS : MSt I h (t + 1) c d sc) (hK : TKc I R t kd o node stage z more) : FrK (Fm h t sc) I (up I 579 t more') ∧ MSt (up I 579 t more') h (t + 1) c d sc ∧ TKc (up I 579 t more') R t kd o node stage z more' := by
  obtain ⟨s1, s2, s3, s4, s5⟩ := hS
  obtain ⟨k1, k2, k3, k4, k5, k6⟩ := hK
  refine ⟨fun x j y => ?_, ⟨by rw [up_n (by omega)]; exact s1, by rw [up_n (by omega)]; exact s2, by rw [up_n (by omega)]; exact s3, by rw [up_n (by omega)]; exact s4, by rw [up_n (by omega)]; exact s5⟩, by rw [up_n (by omega)]; exact k1, k2, by rw [up_n (by omega)]; exact k3, by rw [up_n (by omega)]; exact k4, by rw [up_n (by omega)]; exact k5, up_s⟩
  unfold Fm at y
  rw [up_n (by omega)]
theorem C_noteCase {kd node stage : Int32} {o : Option Nat} {holds : Bool} (hR : RA R) (hS : MSt I h (t + 1) c d sc) (hK : TKc I R t kd o node stage z (moreI w)) (ht : t < 480) (hw : w.1 ≠ 0 → w.2 < 1000) : QK (f_X4_noteCase (mg (4562 + zn J) I J R) 567 (Int32.ofNat (t)) (Int32.ofNat (k)) (if holds = true then 1 else 0)) (fun r => ∃ I', r = mg (4562 + zn J) I' J R ∧ FrK (Fm h t sc) I I' ∧ MSt I' h (t + 1) c d sc ∧ TKc I' R t kd o node stage z (moreI (if holds = true then (w.1 + 1, k) else w))) := by
  unfold f_X4_noteCase f_X4_noteCase_j25 f_X4_noteCase_j26
  by_cases q : holds = true
  · rw [if_pos q, if_pos q, if_neg (by first | decide | omega), gr_567_11 hR, gr_567_11 hR, ga_579 ht, hK.2.2.2.2.2]
    by_cases q0 : w.1 = 0
    · have e : moreI w = -1 := if_pos q0
      have e2 : moreI (w.1 + 1, k) = (Int32.ofNat (k)) := by
        unfold moreI
        rw [if_neg (by show ¬ w.1 + 1 = 0; omega), if_pos (by show w.1 + 1 = 1; omega)]
      obtain ⟨a1, a2, a3⟩ := TK_more (more' := (Int32.ofNat (k))) hS hK
      rw [e, if_pos rfl, gw_579 ht, e2]
      exact q_ok ⟨_, rfl, a1, a2, a3⟩
    · have e : ¬ moreI w = -1 := by
        unfold moreI
        rw [if_neg q0]
        by_cases q1 : w.1 = 1
        · rw [if_pos q1]
          exact i32_m1 (by have := hw q0; omega)
        · rw [if_neg q1]
          decide
      have e2 : moreI (w.1 + 1, k) = -2 := by
        unfold moreI
        rw [if_neg (by show ¬ w.1 + 1 = 0; omega), if_neg (by show ¬ w.1 + 1 = 1; omega)]
      obtain ⟨a1, a2, a3⟩ := TK_more (more' := -2) hS hK
      rw [if_neg e, gw_579 ht, e2]
      exact q_ok ⟨_, rfl, a1, a2, a3⟩
  · rw [if_neg q, if_neg q, if_pos rfl]
    exact q_ok ⟨I, rfl, FrK_rfl, hS, hK⟩
/-- a case without a condition -/
theorem adv_none (hR : RA R) (hE : CEnv I b n f s) (hS : MSt I h (t + 1) c d sc) (hK : TKc I R t 3 none (Int32.ofNat (l)) (Int32.ofNat (2 * k)) z (moreI w)) (ht : t < 480) (hl : l < 26) (hk : k < casN f l) (hw : w.1 ≠ 0 → w.2 < 1000) (hn : cndN f l k = none) : QK (f_X4_advanceCall (mg (4562 + zn J) I J R) 567 (Int32.ofNat (t)) (Int32.ofNat (l))) (fun r => ∃ I', r = (0, mg (4562 + zn J) I' J R) ∧ FrK (Fm h t sc) I I' ∧ MSt I' h (t + 1) c d sc ∧ TKc I' R t 3 none (Int32.ofNat (l)) (Int32.ofNat (2 * (k + 1))) z (moreI (w.1 + 1, k))) := by
  obtain ⟨-, e1, c4, -⟩ := fn_c (hE.2.2.2.2.2.2.1 l hl) hE.2.2.2.1.1
  have hk' : k < (f l 1).toNatClampNeg := hk
  obtain ⟨h1, h2⟩ := half_0 (k := k) (by omega)
  obtain ⟨a1, a2, a3⟩ := TK_stage (stage' := (Int32.ofNat (2 * k + 1))) hS hK
  have hE1 := CEnv_keep hE a1
  unfold f_X4_advanceCall
  rw [gr_567_9 hR, ga_577 ht, hK.2.2.2.1, h1, q_let, gr_567_10 hR, ga_578 ht, hK.2.2.2.2.1, gr_567_9 hR, ga_577 ht, hK.2.2.2.1, gw_577 ht, show (Int32.ofNat (2 * k)) + (1 : Int32) = (Int32.ofNat (2 * k + 1)) from n_add _ 1, gr_567_0 hR, if_pos ok_11]
  generalize up I 577 t (Int32.ofNat (2 * k + 1)) = I1 at *
  rw [c_cases hR hE1.2.2.1 hl, e1, if_pos (show (Int32.ofNat (k)) < (Int32.ofNat ((f l 1).toNatClampNeg)) from (i32_lt (by omega) (by omega)).mpr hk'), if_neg h2, gr_567_0 hR, if_pos ok_11, C_condOf hR hE1.2.2.1 hE1.2.2.2.1 (hE1.2.2.2.2.2.2.1 l hl) hl hk, hn]
  dsimp only
  rw [Option.elim_none, if_pos ok_567]
  obtain ⟨_, e2, I2, rfl, b1, b2, b3⟩ := C_noteCase (J := J) (k := k) (holds := true) hR a2 a3 ht hw
  have e2 : f_X4_noteCase (mg (4562 + zn J) I1 J R) 567 (Int32.ofNat (t)) (Int32.ofNat (k)) 1 = some (mg (4562 + zn J) I2 J R) := e2
  obtain ⟨d1, d2, d3⟩ := TK_stage (stage' := (Int32.ofNat (2 * (k + 1)))) b2 b3
  rw [e2, Option.bind_some, gr_567_9 hR, ga_577 ht, b3.2.2.2.1, show (Int32.ofNat (2 * k + 1)) + (1 : Int32) = (Int32.ofNat (2 * (k + 1))) from n_add _ 1, gw_577 ht]
  exact q_ok ⟨_, rfl, FrK_tr a1 (FrK_tr b1 d1), d2, d3⟩
/-- a condition begins -/
theorem adv_cond {tr : Nat} (hR : RA R) (hE : CEnv I b n f s) (hS : MSt I h (t + 1) c d sc) (hK : TKc I R t 3 none (Int32.ofNat (l)) (Int32.ofNat (2 * k)) z (moreI w)) (ht : t + 1 < 480) (hl : l < 26) (hk : k < casN f l) (htr : tr < s.1) (hn : cndN f l k = some tr) : QK (f_X4_advanceCall (mg (4562 + zn J) I J R) 567 (Int32.ofNat (t)) (Int32.ofNat (l))) (fun r => ∃ I', r = (0, mg (4562 + zn J) I' J (uR R (t + 1) (some (70 + 8 * tr)))) ∧ FrK (Fm h t sc) I I' ∧ MSt I' h (t + 2) c d sc ∧ TKc I' (uR R (t + 1) (some (70 + 8 * tr))) t 3 none (Int32.ofNat (l)) (Int32.ofNat (2 * k + 1)) z (moreI w) ∧ TKc I' (uR R (t + 1) (some (70 + 8 * tr))) (t + 1) (Int32.ofNat (bkN (s.2.2.1 tr 0))) (some (70 + 8 * tr)) (Int32.ofNat (0)) 0 z (-1)) := by
  obtain ⟨-, e1, c4, -⟩ := fn_c (hE.2.2.2.2.2.2.1 l hl) hE.2.2.2.1.1
  have hk' : k < (f l 1).toNatClampNeg := hk
  obtain ⟨h1, h2⟩ := half_0 (k := k) (by omega)
  obtain ⟨a1, a2, a3⟩ := TK_stage (stage' := (Int32.ofNat (2 * k + 1))) hS hK
  have hE1 := CEnv_keep hE a1
  have cs := hE1.2.2.2.1.2.2 tr htr
  unfold f_X4_advanceCall
  rw [gr_567_9 hR, ga_577 (by omega), hK.2.2.2.1, h1, q_let, gr_567_10 hR, ga_578 (by omega), hK.2.2.2.2.1, gr_567_9 hR, ga_577 (by omega), hK.2.2.2.1, gw_577 (by omega), show (Int32.ofNat (2 * k)) + (1 : Int32) = (Int32.ofNat (2 * k + 1)) from n_add _ 1, gr_567_0 hR, if_pos ok_11]
  generalize up I 577 t (Int32.ofNat (2 * k + 1)) = I1 at *
  rw [c_cases hR hE1.2.2.1 hl, e1, if_pos (show (Int32.ofNat (k)) < (Int32.ofNat ((f l 1).toNatClampNeg)) from (i32_lt (by omega) (by omega)).mpr hk'), if_neg h2, gr_567_0 hR, if_pos ok_11, C_condOf hR hE1.2.2.1 hE1.2.2.2.1 (hE1.2.2.2.2.2.2.1 l hl) hl hk, hn]
  dsimp only
  rw [Option.elim_some, if_pos ok_567]
  refine q_bind (C_begin (i := 0) hR cs.1 (CT_n cs).1 ((hE.2.2.2.2.2.1 tr htr).2 0 (CT_n cs).1) a2 ht) ?_
  rintro _ ⟨I2, rfl, hF2, hS2, hK2⟩
  have e2 : ∀ x, x = 574 ∨ (576 ≤ x ∧ x ≤ 579) → I2 x t = I1 x t := fun x hx => hF2 x t (by unfold Fm; omega)
  obtain ⟨k1, k2, k3, k4, k5, k6⟩ := a3
  refine q_ok ⟨I2, rfl, FrK_tr a1 (Fm_mono hF2 (Nat.le_refl _) (by omega) (Nat.le_refl _)), hS2, ⟨?_, ?_, ?_, ?_, ?_, ?_⟩, hK2⟩
  · rw [e2 574 (by omega)]; exact k1
  · rw [uR_o (by omega)]; exact k2
  · rw [e2 576 (by omega)]; exact k3
  · rw [e2 577 (by omega)]; exact k4
  · rw [e2 578 (by omega)]; exact k5
  · rw [e2 579 (by omega)]; exact k6
/-- a condition's value is there -/
theorem adv_holds {v : GV} (hR : RA R) (hE : CEnv I b n f s) (hS : MSt I (h + 1) (t + 1) c d sc) (hK : TKc I R t 3 none (Int32.ofNat (l)) (Int32.ofNat (2 * k + 1)) z (moreI w)) (ht : t < 480) (hh : h < 240) (hl : l < 26) (hk : k < casN f l) (hw : w.1 ≠ 0 → w.2 < 1000) (hv : CV I (584 + 5 * h) v) : QK (f_X4_advanceCall (mg (4562 + zn J) I J R) 567 (Int32.ofNat (t)) (Int32.ofNat (l))) (fun r => ∃ I', r = (0, mg (4562 + zn J) I' J R) ∧ FrK (Fm h t sc) I I' ∧ MSt I' h (t + 1) c d sc ∧ TKc I' R t 3 none (Int32.ofNat (l)) (Int32.ofNat (2 * (k + 1))) z (moreI (if v.1 = 0 then w else (w.1 + 1, k)))) := by
  obtain ⟨-, e1, c4, -⟩ := fn_c (hE.2.2.2.2.2.2.1 l hl) hE.2.2.2.1.1
  have hk' : k < (f l 1).toNatClampNeg := hk
  obtain ⟨h1, h2⟩ := half_1 (k := k) (by omega)
  obtain ⟨a1, a2, a3⟩ := TK_stage (stage' := (Int32.ofNat (2 * (k + 1)))) hS hK
  have hE1 := CEnv_keep hE a1
  have hv1 : CV (up I 577 t (Int32.ofNat (2 * (k + 1)))) (584 + 5 * h) v := CV_keep hv (fun x g1 g2 => up_r (by omega))
  unfold f_X4_advanceCall
  rw [gr_567_9 hR, ga_577 ht, hK.2.2.2.1, h1, q_let, gr_567_10 hR, ga_578 ht, hK.2.2.2.2.1, gr_567_9 hR, ga_577 ht, hK.2.2.2.1, gw_577 ht, show (Int32.ofNat (2 * k + 1)) + (1 : Int32) = (Int32.ofNat (2 * (k + 1))) from n_add _ 1, gr_567_0 hR, if_pos ok_11]
  generalize up I 577 t (Int32.ofNat (2 * (k + 1))) = I1 at *
  obtain ⟨s1, s2, s3, s4, s5⟩ := a2
  rw [c_cases hR hE1.2.2.1 hl, e1, if_pos (show (Int32.ofNat (k)) < (Int32.ofNat ((f l 1).toNatClampNeg)) from (i32_lt (by omega) (by omega)).mpr hk'), if_pos h2, gi_567, s1, if_neg (show ¬ (Int32.ofNat (h + 1)) ≤ (0 : Int32) from fun y => absurd ((i32_le (m := 0) (by omega) (by omega)).mp y) (by omega)), gi_567, s1, show (Int32.ofNat (h + 1)) - (1 : Int32) = (Int32.ofNat (h)) from n_sub (b := 1) (by omega), gs_567, gr_567_2 hR, gi_567, up_s, C_stk hR hh]
  have f2 : FrK (Fm h t sc) I1 (up I1 567 3 (Int32.ofNat (h))) := fun x j y => by
    unfold Fm at y
    rw [up_n (by omega)]
  have S2 : MSt (up I1 567 3 (Int32.ofNat (h))) h (t + 1) c d sc := ⟨up_s, by rw [up_n (by omega)]; exact s2, by rw [up_n (by omega)]; exact s3, by rw [up_n (by omega)]; exact s4, by rw [up_n (by omega)]; exact s5⟩
  have K2 : TKc (up I1 567 3 (Int32.ofNat (h))) R t 3 none (Int32.ofNat (l)) (Int32.ofNat (2 * (k + 1))) z (moreI w) := by
    obtain ⟨k1, k2, k3, k4, k5, k6⟩ := a3
    exact ⟨by rw [up_n (by omega)]; exact k1, k2, by rw [up_n (by omega)]; exact k3, by rw [up_n (by omega)]; exact k4, by rw [up_n (by omega)]; exact k5, by rw [up_n (by omega)]; exact k6⟩
  have V2 : CV (up I1 567 3 (Int32.ofNat (h))) (584 + 5 * h) v := CV_keep hv1 (fun x g1 g2 => up_r (by omega))
  generalize up I1 567 3 (Int32.ofNat (h)) = I2 at *
  rw [if_pos (bF_xk V2.1), F_isZero hR V2, Option.bind_some]
  unfold f_X4_advanceCall_j117 f_X4_advanceCall_j120
  have fin : ∀ (o : Bool), QK (if xk (mg (4562 + zn J) I2 J R) 567 4 = true then (f_X4_noteCase (mg (4562 + zn J) I2 J R) 567 (Int32.ofNat (t)) (Int32.ofNat (k)) (if o = true then 1 else 0)).bind (fun p26 => some ((0 : Int32), p26)) else none) (fun r => ∃ I', r = (0, mg (4562 + zn J) I' J R) ∧ FrK (Fm h t sc) I I' ∧ MSt I' h (t + 1) c d sc ∧ TKc I' R t 3 none (Int32.ofNat (l)) (Int32.ofNat (2 * (k + 1))) z (moreI (if o = true then (w.1 + 1, k) else w))) := fun o => by
    rw [if_pos ok_567]
    refine q_bind (C_noteCase (k := k) (holds := o) hR S2 K2 ht hw) ?_
    rintro _ ⟨I3, rfl, b1, b2, b3⟩
    exact q_ok ⟨I3, rfl, FrK_tr (Fm_mono a1 (by omega) (Nat.le_refl _) (Nat.le_refl _)) (FrK_tr f2 b1), b2, b3⟩
  by_cases v0 : v.1 = 0
  · rw [if_pos v0, if_neg (by first | decide | omega), if_pos v0]
    exact fin false
  · rw [if_neg v0, if_pos rfl, if_neg v0]
    exact fin true
end CL
