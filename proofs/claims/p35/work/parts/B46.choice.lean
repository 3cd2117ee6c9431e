/-! the class's machine: a choice -/
section CHO
variable {I : Nat → Nat → Int32} {J : Nat → Nat → Int64} {R : Nat → Nat → Option Nat} {h t c d sc u a nn i : Nat} {nd : Nat → Nd} {sp : Nat → Nat} {b : GB} {n : GN} {f : GF} {s : GS} {z : Int32} {F : Nat} {rec : Rc} {ch : Ch}
theorem TK_keep {I' : Nat → Nat → Int32} {R' : Nat → Nat → Option Nat} {h' sc' : Nat} {kd node stage more : Int32} {o : Option Nat} (hK : TKc I R t kd o node stage z more) (hF : FrK (Fm h' (t + 1) sc') I I') (hR : FR (t + 1) R R') : TKc I' R' t kd o node stage z more := by
  obtain ⟨z1, z2, z3, z4, z5, z6⟩ := hK
  have e5 : ∀ x, x = 574 ∨ (576 ≤ x ∧ x ≤ 579) → I' x t = I x t := fun x hx => hF x t (by unfold Fm; omega)
  exact ⟨by rw [e5 574 (by omega)]; exact z1, by rw [hR 575 t (by omega)]; exact z2, by rw [e5 576 (by omega)]; exact z3, by rw [e5 577 (by omega)]; exact z4, by rw [e5 578 (by omega)]; exact z5, by rw [e5 579 (by omega)]; exact z6⟩
theorem C_choice (hsim : SimC b n f s F rec) (hro : RcO b F rec) (hR : RA R) (hE : CEnv I b n f s) (hA : CT I a nn nd sp) (ha : a + 8 ≤ 540 ∨ 1784 ≤ a) (hT : TrO b nn nd sp) (hi : i < nn) (hc : ChO ch) (hd : d ≤ 12) (hF : sp i + 31 * (12 - d) ≤ F + 1) (hS : MSt I h (t + 1) c d sc) (hK : TKc I R t 1 (some a) (Int32.ofNat (i)) 0 z (-1)) (hC : CCh I h sc ch z) (h1 : h ≤ c) (h2 : sc ≤ c) (h3 : c ≤ 200) (h4 : t + sp i + 31 * (12 - d) ≤ 480) (hu : u + 4824 + 100 * (sp i + 31 * (12 - d)) ≤ 900000 + 24 * c) : SimR J (evC rec nd sp i ch c d) c h t d sc u I R := by
  have a4 : aro nd i ≤ 4 := (NV_v (hT.2 i hi)).2.2.2.1
  have s1 := (hT.1.2.2.2 i hi).1
  have ta := hA.1.1
  have nn80 := (CT_n hA).2
  unfold evC
  have turn : ∀ p : Int32 × xM, f_X4_advanceChoice (mg (4562 + zn J) I J R) 567 (Int32.ofNat (t)) a (Int32.ofNat (i)) = some p → f_X4_work_s4 (567, 0, (Int32.ofNat (u)), mg (4562 + zn J) I J R) = some (.inr (.inr (567, p.1, (Int32.ofNat (u + 1)), p.2))) := fun p hp => by
    rw [work_top (k := 1) hR hS hK (by omega) (by omega) (by omega), if_pos rfl, hp, Option.bind_some, j241]
  unfold f_X4_advanceChoice f_X4_advanceChoice_j34 f_X4_advanceChoice_j45 at turn
  rw [gr_567_9 hR, ga_577 (by omega), hK.2.2.2.1, if_pos rfl, if_pos ok_567] at turn
  by_cases q : 200 ≤ c
  · rw [if_pos q]
    rw [C_countNode9 hS q (by omega), Option.bind_some, if_neg (show ¬ (9 : Int32) = 0 by decide), if_neg (show ¬ (9 : Int32) = 0 by decide)] at turn
    exact ⟨1, I, R, by omega, RC_1 (turn _ rfl), hR, FrK_rfl, FR_rfl⟩
  rw [if_neg q]
  obtain ⟨_, e1, I1, rfl, f1, S1, o1⟩ := C_countNode (J := J) (R := R) hS (show c < 200 by omega)
  have f1 := Fm_mono f1 (Nat.le_refl h) (show t ≤ t + 1 by omega) (Nat.le_refl sc)
  have A1 := CT_m hA (by omega) f1
  obtain ⟨y1, y2, y3, y4, y5⟩ := A1.1.2.2.2 i hi
  have K1 : TKc I1 R t 1 (some a) (Int32.ofNat (i)) (Int32.ofNat (0)) z (-1) := by
    obtain ⟨z1, z2, z3, z4, z5, z6⟩ := hK
    exact ⟨by rw [o1 574 t (by omega)]; exact z1, z2, by rw [o1 576 t (by omega)]; exact z3, by rw [o1 577 t (by omega)]; exact z4, by rw [o1 578 t (by omega)]; exact z5, by rw [o1 579 t (by omega)]; exact z6⟩
  rw [e1, Option.bind_some, if_pos rfl, bT_g3 ta hR, bT_aI ta (by omega), y4] at turn
  by_cases q3 : aro nd i ≠ 3
  · rw [if_pos q3]
    rw [if_neg (show ¬ (Int32.ofNat ((nd i).2.2.2)) = (3 : Int32) from i32_ne (b := 3) (by omega) (by omega) q3), if_pos rfl] at turn
    exact ⟨1, I1, R, by omega, RC_1 (turn _ rfl), hR, f1, FR_rfl⟩
  rw [if_neg q3]
  have a3 : aro nd i = 3 := by omega
  obtain ⟨c1, c2, c3⟩ := kid_sp hT.1 hi (show 0 < aro nd i by omega)
  obtain ⟨_, e2, I2, rfl, f2, S2, K2, K2'⟩ := C_nextOperand (J := J) (k := 0) hR A1 (by omega) hT hi (by omega) S1 K1 (by omega)
  rw [if_pos (show (Int32.ofNat ((nd i).2.2.2)) = (3 : Int32) by rw [show (nd i).2.2.2 = 3 from a3]; rfl), if_pos ok_567, e2, Option.bind_some] at turn
  have st := RC_1 (turn _ rfl)
  have hR2 : RA (uR R (t + 1) (some a)) := FR_RA (t := t + 1) (fun x j y => uR_o (by omega)) hR
  have f12 := FrK_tr f1 f2
  have fr12 : FR t R (uR R (t + 1) (some a)) := fun x j y => uR_o (by omega)
  have g := hsim J a nn (kid sp i 0) nd sp ch (c + 1) d h (t + 1) sc (u + 1) z I2 (uR R (t + 1) (some a)) hR2 (CEnv_keep hE f12) (CT_m hA (by omega) f12) ha hT c1 hc hd (by omega) S2 K2' (CCh_keep ch sc z hC (Nat.le_refl _) (Nat.le_refl _) f12) (by omega) (by omega) (by omega) (by omega) (by omega)
  have ro := hro nn nd sp (kid sp i 0) ch (c + 1) d hT c1 hc hd (by omega)
  cases e3 : rec nd sp (kid sp i 0) ch (c + 1) d with
  | inl e4 =>
    rw [e3] at g
    obtain ⟨k3, I3, R3, b3, rc3, hR3, f3, fr3⟩ := g
    refine ⟨1 + k3, I3, R3, by omega, ?_, hR3, FrK_tr f12 (Fm_mono f3 (Nat.le_refl _) (by omega) (Nat.le_refl _)), FR_tr fr12 (FR_mono fr3 (by omega))⟩
    rw [show u + (1 + k3) = u + 1 + k3 by omega]
    exact RC_tr st rc3
  | inr r =>
    obtain ⟨v, c'⟩ := r
    rw [e3] at g ro
    obtain ⟨l1, l2, l3⟩ := ro
    obtain ⟨k3, I3, R3, b3, rc3, hR3, f3, fr3, S3, V3⟩ := g
    dsimp only
    have f13 := FrK_tr f12 (Fm_mono f3 (Nat.le_refl _) (show t ≤ t + 1 by omega) (Nat.le_refl _))
    have fr13 := FR_tr fr12 (FR_mono fr3 (show t ≤ t + 1 by omega))
    have K3 := TK_keep K2 f3 fr3
    have A3 := CT_m hA (by omega) f13
    -- the choice is made
    have S3' := S3
    obtain ⟨z1, z2, z3, z4, z5⟩ := S3
    have hk : (if v.1 = 0 then 2 else 1) < aro nd i := by split <;> omega
    have two : ∀ k : Nat, k < aro nd i → ∃ I5, f_X4_advanceChoice_j108 (mg (4562 + zn J) (up (up I3 567 3 (Int32.ofNat (h))) 577 t 2) J R3) 567 (Int32.ofNat (t)) (Int32.ofNat (k)) (Int32.ofNat (i)) a a 567 = some (0, mg (4562 + zn J) I5 J (uR R3 (t + 1) (some a))) ∧ FrK (Fm h t sc) I3 I5 ∧ MSt I5 h (t + 2) c' d sc ∧ TKc I5 (uR R3 (t + 1) (some a)) t 1 (some a) (Int32.ofNat (i)) 2 z (-1) ∧ TKc I5 (uR R3 (t + 1) (some a)) (t + 1) (Int32.ofNat (bkN (nd (kid sp i k)))) (some a) (Int32.ofNat (kid sp i k)) 0 z (-1) := by
      intro k hk
      have kd1 := (kid_sp hT.1 hi hk).1
      have f4 : FrK (Fm h t sc) I3 (up (up I3 567 3 (Int32.ofNat (h))) 577 t 2) := fun x j y => by
        unfold Fm at y
        rw [up_n (by omega), up_n (by omega)]
      have S4 : MSt (up (up I3 567 3 (Int32.ofNat (h))) 577 t 2) h (t + 1) c' d sc := ⟨by rw [up_n (by omega), up_s], by rw [up_n (by omega), up_n (by omega)]; exact z2, by rw [up_n (by omega), up_n (by omega)]; exact z3, by rw [up_n (by omega), up_n (by omega)]; exact z4, by rw [up_n (by omega), up_n (by omega)]; exact z5⟩
      have K4 : TKc (up (up I3 567 3 (Int32.ofNat (h))) 577 t 2) R3 t 1 (some a) (Int32.ofNat (i)) 2 z (-1) := by
        obtain ⟨w1, w2, w3, w4, w5, w6⟩ := K3
        exact ⟨by rw [up_n (by omega), up_n (by omega)]; exact w1, w2, by rw [up_n (by omega), up_n (by omega)]; exact w3, up_s, by rw [up_n (by omega), up_n (by omega)]; exact w5, by rw [up_n (by omega), up_n (by omega)]; exact w6⟩
      generalize up (up I3 567 3 (Int32.ofNat (h))) 577 t 2 = I4 at *
      have A4 := CT_m A3 (by omega) f4
      obtain ⟨_, e5, I5, rfl, f5, S5, K5⟩ := C_begin (J := J) (scope := z) hR3 A4.1 kd1 (hT.2 _ kd1) S4 (show t + 1 < 480 by omega)
      refine ⟨I5, ?_, FrK_tr f4 (Fm_mono f5 (Nat.le_refl _) (by omega) (Nat.le_refl _)), S5, TK_keep K4 f5 (fun x j y => uR_o (by omega)), K5⟩
      unfold f_X4_advanceChoice_j108
      rw [if_pos (bT_xk ta), T_child hR3 A4 hi hk, Option.bind_some, gr_567_10 hR3, ga_578 (by omega), K4.2.2.2.2.1, if_pos ok_567, e5]
      rfl
    obtain ⟨I5, e5, f5, S5, K5, K5'⟩ := two _ hk
    have V4 : CV (up (up I3 567 3 (Int32.ofNat (h))) 577 t 2) (584 + 5 * h) v := CV_keep V3 (fun x g1 g2 => by rw [up_r (by omega), up_r (by omega)])
    have st2 : RC 1 (567, 0, (Int32.ofNat (u + 1 + k3)), mg (4562 + zn J) I3 J R3) (567, 0, (Int32.ofNat (u + 1 + k3 + 1)), mg (4562 + zn J) I5 J (uR R3 (t + 1) (some a))) := by
      refine RC_1 ?_
      rw [work_top (k := 1) hR3 S3' K3 (by omega) (by omega) (by omega), if_pos rfl]
      unfold f_X4_advanceChoice
      rw [gr_567_9 hR3, ga_577 (by omega), K3.2.2.2.1, if_neg (show ¬ (Int32.ofNat (0 + 1)) = (0 : Int32) by decide), if_pos (show (Int32.ofNat (0 + 1)) = (1 : Int32) from rfl), gi_567, z1, if_neg (show ¬ (Int32.ofNat (h + 1)) ≤ (0 : Int32) from fun y => absurd ((i32_le (m := 0) (by omega) (by omega)).mp y) (by omega)), gi_567, z1, show (Int32.ofNat (h + 1)) - (1 : Int32) = (Int32.ofNat (h)) from n_sub (b := 1) (by omega), gs_567, gr_567_9 hR3, gw_577 (by omega), gr_567_2 hR3, gi_567, up_n (by omega), up_s, C_stk hR3 (by omega), if_pos (bF_xk V4.1), F_isZero hR3 V4, Option.bind_some]
      by_cases v0 : v.1 = 0
      · rw [if_pos v0] at e5
        rw [if_pos v0, if_neg (by first | decide | omega), show f_X4_advanceChoice_j108 (mg (4562 + zn J) (up (up I3 567 3 (Int32.ofNat (h))) 577 t 2) J R3) 567 (Int32.ofNat (t)) 2 (Int32.ofNat (i)) a a 567 = _ from e5, Option.bind_some, j241]
      · rw [if_neg v0] at e5
        rw [if_neg v0, if_pos rfl, show f_X4_advanceChoice_j108 (mg (4562 + zn J) (up (up I3 567 3 (Int32.ofNat (h))) 577 t 2) J R3) 567 (Int32.ofNat (t)) 1 (Int32.ofNat (i)) a a 567 = _ from e5, Option.bind_some, j241]
    generalize (if v.1 = 0 then 2 else 1) = k at *
    obtain ⟨m1, m2, m3⟩ := kid_sp hT.1 hi hk
    have hR5 : RA (uR R3 (t + 1) (some a)) := FR_RA (t := t + 1) (fun x j y => uR_o (by omega)) hR3
    have f15 := FrK_tr f13 f5
    have fr15 : FR t R (uR R3 (t + 1) (some a)) := FR_tr fr13 (fun x j y => uR_o (by omega))
    have g2 := hsim J a nn (kid sp i k) nd sp ch c' d h (t + 1) sc (u + 1 + k3 + 1) z I5 (uR R3 (t + 1) (some a)) hR5 (CEnv_keep hE f15) (CT_m hA (by omega) f15) ha hT m1 hc hd (by omega) S5 K5' (CCh_keep ch sc z hC (Nat.le_refl _) (Nat.le_refl _) f15) (by omega) (by omega) (by omega) (by omega) (by omega)
    have ro2 := hro nn nd sp (kid sp i k) ch c' d hT m1 hc hd (by omega)
    cases e6 : rec nd sp (kid sp i k) ch c' d with
    | inl e7 =>
      rw [e6] at g2
      obtain ⟨k6, I6, R6, b6, rc6, hR6, f6, fr6⟩ := g2
      refine ⟨1 + k3 + 1 + k6, I6, R6, by omega, ?_, hR6, FrK_tr f15 (Fm_mono f6 (Nat.le_refl _) (by omega) (Nat.le_refl _)), FR_tr fr15 (FR_mono fr6 (by omega))⟩
      rw [show u + (1 + k3 + 1 + k6) = u + 1 + k3 + 1 + k6 by omega]
      exact RC_tr (RC_tr (RC_tr st rc3) st2) rc6
    | inr r2 =>
      obtain ⟨v2, c2'⟩ := r2
      rw [e6] at g2 ro2
      obtain ⟨n1, n2, n3⟩ := ro2
      obtain ⟨k6, I6, R6, b6, rc6, hR6, f6, fr6, S6, V6⟩ := g2
      have K6 := TK_keep K5 f6 fr6
      have st3 : RC 1 (567, 0, (Int32.ofNat (u + 1 + k3 + 1 + k6)), mg (4562 + zn J) I6 J R6) (567, 0, (Int32.ofNat (u + 1 + k3 + 1 + k6 + 1)), mg (4562 + zn J) (up I6 567 12 (Int32.ofNat (t))) J R6) := by
        refine RC_1 ?_
        rw [work_top (k := 1) hR6 S6 K6 (by omega) (by omega) (by omega), if_pos rfl]
        unfold f_X4_advanceChoice f_X4_advanceChoice_j121
        rw [gr_567_9 hR6, ga_577 (by omega), K6.2.2.2.1, if_neg (by first | decide | omega), if_neg (by first | decide | omega), gs_567, Option.bind_some, j241]
      obtain ⟨w1, w2, w3, w4, w5⟩ := S6
      refine ⟨1 + k3 + 1 + k6 + 1, up I6 567 12 (Int32.ofNat (t)), R6, by omega, ?_, hR6, FrK_tr (FrK_tr f15 (Fm_mono f6 (Nat.le_refl _) (show t ≤ t + 1 by omega) (Nat.le_refl _))) (fun x j y => by unfold Fm at y; rw [up_n (by omega)]), FR_tr fr15 (FR_mono fr6 (by omega)), ⟨by rw [up_n (by omega)]; exact w1, up_s, by rw [up_n (by omega)]; exact w3, by rw [up_n (by omega)]; exact w4, by rw [up_n (by omega)]; exact w5⟩, CV_keep V6 (fun x g1 g2 => up_r (by omega))⟩
      rw [show u + (1 + k3 + 1 + k6 + 1) = u + 1 + k3 + 1 + k6 + 1 by omega]
      exact RC_tr (RC_tr (RC_tr (RC_tr st rc3) st2) rc6) st3
end CHO
