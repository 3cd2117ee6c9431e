/-! the class's machine: a sum -/
section SUM5
variable {I : Nat → Nat → Int32} {J : Nat → Nat → Int64} {R : Nat → Nat → Option Nat} {h t c d sc u a nn i : Nat} {nd : Nat → Nd} {sp : Nat → Nat} {b : GB} {n : GN} {f : GF} {s : GS} {z : Int32} {F : Nat} {rec : Rc} {ch : Ch}
/-- its bounds are there -/
theorem C_sumTail {lo hi : GV} (hsim : SimC b n f s F rec) (hro : RcO b F rec) (hR : RA R) (hE : CEnv I b n f s) (hA : CT I a nn nd sp) (ha : a + 8 ≤ 540 ∨ 1784 ≤ a) (hT : TrO b nn nd sp) (hi' : i < nn) (ha4 : aro nd i = 4) (hk0 : (nd (kid sp i 0)).1 = 1) (hc : ChO ch) (hd : d ≤ 12) (hF : sp i + 31 * (12 - d) ≤ F + 1) (hS : MSt I (h + 2) (t + 1) c d sc) (hK : TKc I R t 2 (some a) (Int32.ofNat (i)) (Int32.ofNat (3)) z (-1)) (V0 : CV I (584 + 5 * h) lo) (V1 : CV I (584 + 5 * (h + 1)) hi) (gl : Gd lo) (gh : Gd hi) (hC : CCh I h sc ch z) (h1 : h + 2 ≤ c) (h2 : sc + 1 ≤ c) (h3 : c ≤ 200) (h4 : t + sp i + 31 * (12 - d) ≤ 480) (hu : u + 4787 + 100 * (sp i + 31 * (12 - d)) ≤ 900000 + 24 * c) : SimX 2 J (if lo.2 ≠ 1 ∨ hi.2 ≠ 1 then .inl 2 else if 30 ≤ hi.1 - lo.1 then .inl 3 else evL rec nd sp i ch (vN (nd (kid sp i 0))) lo.1 d (hi.1 - lo.1 + 1).toNat c) c h t d sc u I R := by
  have s1 := (hT.1.2.2.2 i hi').1
  have ta := hA.1.1
  have nn80 := (CT_n hA).2
  obtain ⟨c1, c2, c3⟩ := kid_sp hT.1 hi' (show 0 < aro nd i by omega)
  have nv0 := hT.2 _ c1
  obtain ⟨x1, -⟩ := NV_v nv0
  have nm : 97 ≤ vN (nd (kid sp i 0)) ∧ vN (nd (kid sp i 0)) < 123 := by
    rcases nv0 with y | ⟨y, ⟨l, hl, e⟩, _⟩ | y | y
    · rw [y.1] at hk0; exact absurd hk0 (by first | decide | omega)
    · have : vN (nd (kid sp i 0)) = 97 + l := by
        unfold vN
        rw [e, i32_nat (by omega)]
      omega
    · rw [y.1] at hk0; exact absurd hk0 (by first | decide | omega)
    · rw [y.1] at hk0; exact absurd hk0 (by first | decide | omega)
  obtain ⟨r, e5, h5⟩ := C_openSum (J := J) (nm := (Int32.ofNat (vN (nd (kid sp i 0))))) hR hS hK (by omega) (by omega) (by omega) V0 V1 gl gh
  have st : RC 1 (567, 0, (Int32.ofNat (u)), mg (4562 + zn J) I J R) (567, r.1, (Int32.ofNat (u + 1)), r.2) := by
    refine RC_1 ?_
    rw [work_top (k := 2) hR hS hK (by omega) (by omega) (by omega), if_neg (by first | decide | omega), if_pos rfl]
    unfold f_X4_advanceSum
    obtain ⟨y1, y2, y3, y4, y5⟩ := hA.1.2.2.2 _ c1
    rw [gr_567_9 hR, ga_577 (by omega), hK.2.2.2.1, if_neg (by first | decide | omega), if_neg (by first | decide | omega), if_neg (by first | decide | omega), if_pos (show (Int32.ofNat (3)) = (3 : Int32) from rfl), bT_g1 ta hR, if_pos (bT_xk ta), show f_X9_child (mg (4562 + zn J) I J R) a (Int32.ofNat (i)) 0 = some (Int32.ofNat (kid sp i 0)) from T_child hR hA hi' (show 0 < aro nd i by omega), Option.bind_some, bT_aI ta (by omega), y2, x1, if_pos ok_567, e5, Option.bind_some, Option.bind_some, j241]
  generalize vN (nd (kid sp i 0)) = nmv at *
  rcases h5 with ⟨p1, rfl⟩ | ⟨p1, p2, I1, rfl, f1⟩ | ⟨p1, p2, I1, rfl, f1, S1, K1, W0, W1, q1, q2, q3, q4⟩
  · rw [if_pos p1]
    exact ⟨1, I, R, by omega, st, hR, FrK_rfl, FR_rfl⟩
  · rw [if_neg p1, if_pos p2]
    exact ⟨1, I1, R, by omega, st, hR, f1, FR_rfl⟩
  rw [if_neg p1, if_neg p2]
  have l2 : lo.2 = 1 := by omega
  have W0' : CV I1 (584 + 5 * h) (lo.1, 1) := by
    have e : lo = (lo.1, 1) := by rw [← l2]
    rw [← e]
    exact W0
  have N30 : (hi.1 - lo.1 + 1).toNat ≤ 30 := by omega
  have g := C_evL (J := J) (u := u + 1) hsim hro hR (CEnv_keep hE f1) (CT_m hA (by omega) f1) ha hT hi' ha4 hc hd hF N30 gl.1 (sum_rng gl.1 gh.1) nm S1 K1 W0' W1 q1 q2 q3 q4 (CCh_keep ch sc z hC (Nat.le_refl _) (Nat.le_refl _) f1) h1 h2 h3 h4 (by omega) (hi.1 - lo.1 + 1).toNat (Nat.le_refl _)
  have ro := evL_RO hro hT hi' ha4 hc (nm := nmv) (lo := lo.1) hd hF gl.1 (hi.1 - lo.1 + 1).toNat (sum_rng gl.1 gh.1) c
  generalize (hi.1 - lo.1 + 1).toNat = N at *
  cases e : evL rec nd sp i ch nmv lo.1 d N c with
  | inl e1 =>
    rw [e] at g
    obtain ⟨k2, I2, R2, b2, rc2, hR2, f2, fr2⟩ := g
    refine ⟨1 + k2, I2, R2, by omega, ?_, hR2, FrK_tr f1 f2, fr2⟩
    rw [show u + (1 + k2) = u + 1 + k2 by omega]
    exact RC_tr st rc2
  | inr r2 =>
    obtain ⟨v, c'⟩ := r2
    rw [e] at g ro
    obtain ⟨l1', l2', l3⟩ := ro
    obtain ⟨k2, I2, R2, b2, rc2, hR2, f2, fr2, S2, K2, X0, X1, -⟩ := g
    rw [Nat.sub_self] at K2
    have A2 := CT_m hA (by omega) (FrK_tr f1 f2)
    obtain ⟨_, e3, I3, rfl, f3, S3, V3⟩ := C_sumEnd (J := J) hR2 S2 K2 (by omega) (by omega) X1 l3 (by omega)
    have st3 : RC 1 (567, 0, (Int32.ofNat (u + 1 + k2)), mg (4562 + zn J) I2 J R2) (567, 0, (Int32.ofNat (u + 1 + k2 + 1)), mg (4562 + zn J) I3 J R2) := by
      refine RC_1 ?_
      rw [work_top (k := 2) hR2 S2 K2 (by omega) (by omega) (by omega), if_neg (by first | decide | omega), if_pos rfl]
      unfold f_X4_advanceSum
      rw [gr_567_9 hR2, ga_577 (by omega), K2.2.2.2.1, if_neg (by first | decide | omega), if_neg (by first | decide | omega), if_neg (by first | decide | omega), if_neg (by first | decide | omega), if_pos rfl, if_pos ok_567, e3, Option.bind_some, Option.bind_some, j241]
    refine ⟨1 + k2 + 1, I3, R2, by omega, ?_, hR2, FrK_tr f1 (FrK_tr f2 f3), fr2, S3, V3⟩
    rw [show u + (1 + k2 + 1) = u + 1 + k2 + 1 by omega]
    exact RC_tr (RC_tr st rc2) st3
theorem C_sum (hsim : SimC b n f s F rec) (hro : RcO b F rec) (hR : RA R) (hE : CEnv I b n f s) (hA : CT I a nn nd sp) (ha : a + 8 ≤ 540 ∨ 1784 ≤ a) (hT : TrO b nn nd sp) (hi : i < nn) (hc : ChO ch) (hd : d ≤ 12) (hF : sp i + 31 * (12 - d) ≤ F + 1) (hS : MSt I h (t + 1) c d sc) (hK : TKc I R t 2 (some a) (Int32.ofNat (i)) 0 z (-1)) (hC : CCh I h sc ch z) (h1 : h ≤ c) (h2 : sc ≤ c) (h3 : c ≤ 200) (h4 : t + sp i + 31 * (12 - d) ≤ 480) (hu : u + 4824 + 100 * (sp i + 31 * (12 - d)) ≤ 900000 + 24 * c) : SimR J (evS rec nd sp i ch c d) c h t d sc u I R := by
  have a4 : aro nd i ≤ 4 := (NV_v (hT.2 i hi)).2.2.2.1
  have s1 := (hT.1.2.2.2 i hi).1
  have ta := hA.1.1
  have nn80 := (CT_n hA).2
  unfold evS
  have turn : ∀ p : Int32 × xM, f_X4_advanceSum (mg (4562 + zn J) I J R) 567 (Int32.ofNat (t)) a (Int32.ofNat (i)) = some p → f_X4_work_s4 (567, 0, (Int32.ofNat (u)), mg (4562 + zn J) I J R) = some (.inr (.inr (567, p.1, (Int32.ofNat (u + 1)), p.2))) := fun p hp => by
    rw [work_top (k := 2) hR hS hK (by omega) (by omega) (by omega), if_neg (by first | decide | omega), if_pos rfl, hp, Option.bind_some, j241]
  unfold f_X4_advanceSum f_X4_advanceSum_j61 f_X4_advanceSum_j72 at turn
  rw [gr_567_9 hR, ga_577 (by omega), hK.2.2.2.1, if_pos rfl, if_pos ok_567] at turn
  by_cases q : 200 ≤ c
  · rw [if_pos q]
    rw [C_countNode9 hS q (by omega), Option.bind_some, if_neg (show ¬ (9 : Int32) = 0 by decide), if_neg (show ¬ (9 : Int32) = 0 by decide)] at turn
    exact ⟨1, I, R, by omega, RC_1 (turn _ rfl), hR, FrK_rfl, FR_rfl⟩
  rw [if_neg q]
  obtain ⟨_, e1, I1, rfl, f1, S1, o1⟩ := C_countNode (J := J) (R := R) hS (show c < 200 by omega)
  have f1 := Fm_mono f1 (Nat.le_refl h) (show t ≤ t + 1 by omega) (Nat.le_refl sc)
  have A1 := CT_m hA (by omega) f1
  obtain ⟨y1, y2, y3, y4, y5⟩ := A1.1.2.2.2 i hi
  have K1 : TKc I1 R t 2 (some a) (Int32.ofNat (i)) (Int32.ofNat (0)) z (-1) := by
    obtain ⟨z1, z2, z3, z4, z5, z6⟩ := hK
    exact ⟨by rw [o1 574 t (by omega)]; exact z1, z2, by rw [o1 576 t (by omega)]; exact z3, by rw [o1 577 t (by omega)]; exact z4, by rw [o1 578 t (by omega)]; exact z5, by rw [o1 579 t (by omega)]; exact z6⟩
  rw [e1, Option.bind_some, if_pos rfl, bT_g3 ta hR, bT_aI ta (by omega), y4] at turn
  by_cases q3 : aro nd i ≠ 4
  · rw [if_pos q3]
    rw [if_neg (show ¬ (Int32.ofNat ((nd i).2.2.2)) = (4 : Int32) from i32_ne (b := 4) (by omega) (by omega) q3), if_pos rfl] at turn
    exact ⟨1, I1, R, by omega, RC_1 (turn _ rfl), hR, f1, FR_rfl⟩
  rw [if_neg q3]
  have a3 : aro nd i = 4 := by omega
  obtain ⟨c1, c2, c3⟩ := kid_sp hT.1 hi (show 0 < aro nd i by omega)
  obtain ⟨w1, w2, w3, w4, w5⟩ := A1.1.2.2.2 _ c1
  rw [if_pos (show (Int32.ofNat ((nd i).2.2.2)) = (4 : Int32) by rw [show (nd i).2.2.2 = 4 from a3]; rfl), bT_g0 ta hR, if_pos (bT_xk ta), show f_X9_child (mg (4562 + zn J) I1 J R) a (Int32.ofNat (i)) 0 = some (Int32.ofNat (kid sp i 0)) from T_child hR A1 hi (show 0 < aro nd i by omega), Option.bind_some, bT_aI ta (by omega), w1] at turn
  by_cases q4 : (nd (kid sp i 0)).1 ≠ 1
  · rw [if_pos q4]
    rw [if_neg q4] at turn
    exact ⟨1, I1, R, by omega, RC_1 (turn _ rfl), hR, f1, FR_rfl⟩
  rw [if_neg q4]
  have q4 : (nd (kid sp i 0)).1 = 1 := Classical.byContradiction q4
  obtain ⟨g1, g2, g3⟩ := TK_stage (stage' := (Int32.ofNat (1))) S1 K1
  rw [if_pos q4, gr_567_9 hR, show (1 : Int32) = (Int32.ofNat (1)) from rfl, gw_577 (by omega), if_pos ok_567] at turn
  have f1 := FrK_tr f1 g1
  have A1 := CT_m hA (by omega) f1
  generalize up I1 577 t (Int32.ofNat (1)) = I1 at *
  obtain ⟨b1, b2, b3⟩ := kid_sp hT.1 hi (show 1 < aro nd i by omega)
  obtain ⟨d1, d2, d3⟩ := kid_sp hT.1 hi (show 2 < aro nd i by omega)
  obtain ⟨_, e2, I2, rfl, f2, S2, K2, K2'⟩ := C_nextOperand (J := J) (k := 1) hR A1 (by omega) hT hi (by omega) g2 g3 (by omega)
  rw [e2, Option.bind_some] at turn
  have st := RC_1 (turn _ rfl)
  have hR2 : RA (uR R (t + 1) (some a)) := FR_RA (t := t + 1) (fun x j y => uR_o (by omega)) hR
  have f12 := FrK_tr f1 f2
  have fr12 : FR t R (uR R (t + 1) (some a)) := fun x j y => uR_o (by omega)
  have g := hsim J a nn (kid sp i 1) nd sp ch (c + 1) d h (t + 1) sc (u + 1) z I2 (uR R (t + 1) (some a)) hR2 (CEnv_keep hE f12) (CT_m hA (by omega) f12) ha hT b1 hc hd (by omega) S2 K2' (CCh_keep ch sc z hC (Nat.le_refl _) (Nat.le_refl _) f12) (by omega) (by omega) (by omega) (by omega) (by omega)
  have ro := hro nn nd sp (kid sp i 1) ch (c + 1) d hT b1 hc hd (by omega)
  cases e3 : rec nd sp (kid sp i 1) ch (c + 1) d with
  | inl e4 =>
    rw [e3] at g
    obtain ⟨k3, I3, R3, b3, rc3, hR3, f3, fr3⟩ := g
    refine ⟨1 + k3, I3, R3, by omega, ?_, hR3, FrK_tr f12 (Fm_mono f3 (Nat.le_refl _) (by omega) (Nat.le_refl _)), FR_tr fr12 (FR_mono fr3 (by omega))⟩
    rw [show u + (1 + k3) = u + 1 + k3 by omega]
    exact RC_tr st rc3
  | inr r =>
    obtain ⟨lo, c'⟩ := r
    rw [e3] at g ro
    obtain ⟨l1, l2, l3⟩ := ro
    obtain ⟨k3, I3, R3, b3, rc3, hR3, f3, fr3, S3, V3⟩ := g
    dsimp only
    have f13 := FrK_tr f12 (Fm_mono f3 (Nat.le_refl _) (show t ≤ t + 1 by omega) (Nat.le_refl _))
    have fr13 := FR_tr fr12 (FR_mono fr3 (show t ≤ t + 1 by omega))
    have K3 := TK_keep K2 f3 fr3
    have A3 := CT_m hA (by omega) f13
    obtain ⟨_, e5, I5, rfl, f5, S5, K5, K5'⟩ := C_nextOperand (J := J) (k := 2) hR3 A3 (by omega) hT hi (by omega) S3 K3 (by omega)
    have st2 : RC 1 (567, 0, (Int32.ofNat (u + 1 + k3)), mg (4562 + zn J) I3 J R3) (567, 0, (Int32.ofNat (u + 1 + k3 + 1)), mg (4562 + zn J) I5 J (uR R3 (t + 1) (some a))) := by
      refine RC_1 ?_
      rw [work_top (k := 2) hR3 S3 K3 (by omega) (by omega) (by omega), if_neg (by first | decide | omega), if_pos rfl]
      unfold f_X4_advanceSum
      rw [gr_567_9 hR3, ga_577 (by omega), K3.2.2.2.1, if_neg (by first | decide | omega), if_neg (by first | decide | omega), if_pos (show (Int32.ofNat (1 + 1)) = (2 : Int32) from rfl), if_pos ok_567, e5, Option.bind_some, Option.bind_some, j241]
    have hR5 : RA (uR R3 (t + 1) (some a)) := FR_RA (t := t + 1) (fun x j y => uR_o (by omega)) hR3
    have f15 := FrK_tr f13 (Fm_mono f5 (show h ≤ h + 1 by omega) (Nat.le_refl t) (Nat.le_refl sc))
    have fr15 : FR t R (uR R3 (t + 1) (some a)) := FR_tr fr13 (fun x j y => uR_o (by omega))
    have V5 : CV I5 (584 + 5 * h) lo := CV_keep V3 (fun y g1 g2 => by
      funext w
      exact f5 y w (by unfold Fm; omega))
    have g2 := hsim J a nn (kid sp i 2) nd sp ch c' d (h + 1) (t + 1) sc (u + 1 + k3 + 1) z I5 (uR R3 (t + 1) (some a)) hR5 (CEnv_keep hE f15) (CT_m hA (by omega) f15) ha hT d1 hc hd (by omega) S5 K5' (CCh_keep ch sc z hC (Nat.le_refl _) (by omega) f15) (by omega) (by omega) (by omega) (by omega) (by omega)
    have ro2 := hro nn nd sp (kid sp i 2) ch c' d hT d1 hc hd (by omega)
    cases e6 : rec nd sp (kid sp i 2) ch c' d with
    | inl e7 =>
      rw [e6] at g2
      obtain ⟨k6, I6, R6, b6, rc6, hR6, f6, fr6⟩ := g2
      refine ⟨1 + k3 + 1 + k6, I6, R6, by omega, ?_, hR6, FrK_tr f15 (Fm_mono f6 (by omega) (by omega) (Nat.le_refl _)), FR_tr fr15 (FR_mono fr6 (by omega))⟩
      rw [show u + (1 + k3 + 1 + k6) = u + 1 + k3 + 1 + k6 by omega]
      exact RC_tr (RC_tr (RC_tr st rc3) st2) rc6
    | inr r2 =>
      obtain ⟨hh, c2'⟩ := r2
      rw [e6] at g2 ro2
      obtain ⟨n1, n2, n3⟩ := ro2
      obtain ⟨k6, I6, R6, b6, rc6, hR6, f6, fr6, S6, V6⟩ := g2
      have K6 := TK_keep K5 f6 fr6
      have f16 := FrK_tr f15 (Fm_mono f6 (show h ≤ h + 1 by omega) (show t ≤ t + 1 by omega) (Nat.le_refl sc))
      have V06 : CV I6 (584 + 5 * h) lo := CV_keep V5 (fun y g1 g2 => by
        funext w
        exact f6 y w (by unfold Fm; omega))
      have g4 := C_sumTail (J := J) (u := u + 1 + k3 + 1 + k6) hsim hro hR6 (CEnv_keep hE f16) (CT_m hA (by omega) f16) ha hT hi a3 q4 hc hd hF S6 K6 V06 V6 l3 n3 (CCh_keep ch sc z hC (Nat.le_refl _) (Nat.le_refl _) f16) (by omega) (by omega) n2 h4 (by omega)
      have fr16 := FR_tr fr15 (FR_mono fr6 (show t ≤ t + 1 by omega))
      have rc6' := RC_tr (RC_tr (RC_tr st rc3) st2) rc6
      dsimp only
      generalize (if lo.2 ≠ 1 ∨ hh.2 ≠ 1 then Sum.inl 2 else if 30 ≤ hh.1 - lo.1 then Sum.inl 3 else evL rec nd sp i ch (vN (nd (kid sp i 0))) lo.1 d (hh.1 - lo.1 + 1).toNat c2' : Rs) = rr at *
      cases rr with
      | inl e8 =>
        obtain ⟨k7, I7, R7, b7, rc7, hR7, f7, fr7⟩ := g4
        refine ⟨1 + k3 + 1 + k6 + k7, I7, R7, by omega, ?_, hR7, FrK_tr f16 f7, FR_tr fr16 fr7⟩
        rw [show u + (1 + k3 + 1 + k6 + k7) = u + 1 + k3 + 1 + k6 + k7 by omega]
        exact RC_tr rc6' rc7
      | inr r8 =>
        obtain ⟨v, c3⟩ := r8
        obtain ⟨k7, I7, R7, b7, rc7, hR7, f7, fr7, S7, V7⟩ := g4
        refine ⟨1 + k3 + 1 + k6 + k7, I7, R7, ?_, ?_, hR7, FrK_tr f16 f7, FR_tr fr16 fr7, S7, V7⟩
        · omega
        · rw [show u + (1 + k3 + 1 + k6 + k7) = u + 1 + k3 + 1 + k6 + k7 by omega]
          exact RC_tr rc6' rc7
end SUM5
