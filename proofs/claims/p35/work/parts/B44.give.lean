/-! the class's machine: a node whose operands are there -/
def SimG (J : Nat → Nat → Int64) (r : Rs) (c h t d sc u : Nat) (I : Nat → Nat → Int32) (R : Nat → Nat → Option Nat) : Prop := match r with
  | .inl e => ∃ k I' R', u + k ≤ 1000000 ∧ RC k (567, 0, (Int32.ofNat (u)), mg (4562 + zn J) I J R) (567, (Int32.ofNat (e)), (Int32.ofNat (u + k)), mg (4562 + zn J) I' J R') ∧ RA R' ∧ FrK (Fm h t sc) I I' ∧ FR t R R'
  | .inr (v, c') => ∃ k I' R', k + 24 * c + 10 ≤ 24 * c' ∧ RC k (567, 0, (Int32.ofNat (u)), mg (4562 + zn J) I J R) (567, 0, (Int32.ofNat (u + k)), mg (4562 + zn J) I' J R') ∧ RA R' ∧ FrK (Fm h t sc) I I' ∧ FR t R R' ∧ MSt I' (h + 1) t c' d sc ∧ CV I' (584 + 5 * h) v
def SimGs (s0 : Tw) (J : Nat → Nat → Int64) (r : Rs) (c h t d sc u : Nat) (I : Nat → Nat → Int32) (R : Nat → Nat → Option Nat) : Prop := match r with
  | .inl e => ∃ k I' R', u + k ≤ 1000000 ∧ RC k s0 (567, (Int32.ofNat (e)), (Int32.ofNat (u + k)), mg (4562 + zn J) I' J R') ∧ RA R' ∧ FrK (Fm h t sc) I I' ∧ FR t R R'
  | .inr (v, c') => ∃ k I' R', k + 24 * c + 10 ≤ 24 * c' ∧ RC k s0 (567, 0, (Int32.ofNat (u + k)), mg (4562 + zn J) I' J R') ∧ RA R' ∧ FrK (Fm h t sc) I I' ∧ FR t R R' ∧ MSt I' (h + 1) t c' d sc ∧ CV I' (584 + 5 * h) v
section GV
variable {I : Nat → Nat → Int32} {J : Nat → Nat → Int64} {R : Nat → Nat → Option Nat} {h t c d sc u a nn i m : Nat} {nd : Nat → Nd} {sp : Nat → Nat} {b : GB} {n : GN} {f : GF} {s : GS} {z more : Int32} {F : Nat} {rec : Rc} {ch : Ch} {vs : List GV}
theorem C_giveS (hsim : SimC b n f s F rec) (hro : RcO b F rec) (hR : RA R) (hE : CEnv I b n f s) (hA : CT I a nn nd sp) (ha : a + 8 ≤ 540 ∨ 1784 ≤ a) (hT : TrO b nn nd sp) (hi : i < nn) (hc : ChO ch) (hd : d ≤ 12) (hF : 31 * (12 - d) ≤ F) (hm : vs.length = m) (hm2 : aro nd i = m) (hv : ∀ v, v ∈ vs → Gd v) (hS : MSt I (h + m) t c d sc) {s0 : Tw} (turn : ∀ p : Int32 × xM, f_X4_give (mg (4562 + zn J) I J R) 567 a (Int32.ofNat (i)) z = some p → f_X4_work_s4 s0 = some (.inr (.inr (567, p.1, (Int32.ofNat (u + 1)), p.2)))) (hst : ∀ j v, vs.reverse[j]? = some v → CV I (584 + 5 * (h + j)) v) (hC : CCh I h sc ch z) (h1 : h + m ≤ c) (h2 : sc ≤ c) (h3 : c ≤ 200) (h4 : t + 1 + 31 * (12 - d) ≤ 480) (hu : u + 4831 + 100 * (31 * (12 - d)) ≤ 900100 + 24 * c) : SimGs s0 J (evG rec b n f s (nd i) ch vs c d) c h t d sc u I R := by
  have nv := hT.2 i hi
  obtain ⟨x1, x2, x3, x4, x5, x6, x7⟩ := NV_v nv
  have m4 : m ≤ 4 := by rw [← hm2]; exact x4
  have ta := hA.1.1
  have nn80 := (CT_n hA).2
  obtain ⟨y1, y2, y3, y4, y5⟩ := hA.1.2.2.2 i hi
  have f0 : FrK (Fm h t sc) I I := FrK_rfl
  have o0 : ∀ x j, x ≠ 567 → I x j = I x j := fun _ _ _ => rfl
  have S0' : MSt I (h + m) t c d sc := hS
  unfold evG
  unfold f_X4_give f_X4_give_j20 f_X4_give_j171 at turn
  by_cases q : 200 ≤ c
  · rw [if_pos q]
    refine ⟨1, I, R, by omega, RC_1 (turn (9, mg (4562 + zn J) I J R) ?_), hR, f0, FR_rfl⟩
    rw [gi_567, S0'.2.2.1, if_pos (show (200 : Int32) ≤ (Int32.ofNat (c)) from (i32_le (k := 200) (by omega) (by omega)).mpr q)]
  rw [if_neg q]
  have f1 : FrK (Fm h t sc) I (up I 567 4 (Int32.ofNat (c + 1))) := fun x j y => by
    unfold Fm at y
    rw [up_n (by omega)]
  have o1 : ∀ x j, x ≠ 567 → up I 567 4 (Int32.ofNat (c + 1)) x j = I x j := fun x j hx => by rw [up_n (by omega)]
  have S1 : MSt (up I 567 4 (Int32.ofNat (c + 1))) (h + m) t (c + 1) d sc := by
    obtain ⟨a1, a2, a3, a4, a5⟩ := S0'
    exact ⟨by rw [up_n (by omega)]; exact a1, by rw [up_n (by omega)]; exact a2, up_s, by rw [up_n (by omega)]; exact a4, by rw [up_n (by omega)]; exact a5⟩
  rw [gi_567, S0'.2.2.1, if_neg (show ¬ (200 : Int32) ≤ (Int32.ofNat (c)) from fun y => absurd ((i32_le (k := 200) (by omega) (by omega)).mp y) (by omega)), gi_567, S0'.1, if_pos (show (Int32.ofNat (h + m)) < (240 : Int32) from (i32_lt (m := 240) (by omega) (by omega)).mpr (by omega)), gi_567, S0'.2.2.1, gs_567, show (Int32.ofNat (c)) + (1 : Int32) = (Int32.ofNat (c + 1)) from n_add c 1] at turn
  have hA1 := CT_m hA (by omega) f1
  have hE1 := CEnv_keep hE f1
  have hC1 := CCh_keep ch sc z hC (Nat.le_refl _) (Nat.le_refl _) f1
  have st1 : ∀ j v, vs.reverse[j]? = some v → CV (up I 567 4 (Int32.ofNat (c + 1))) (584 + 5 * (h + j)) v := fun j v hj => CV_keep (hst j v hj) (fun x g1 g2 => by
    have := (List.getElem?_eq_some_iff.mp hj).1
    rw [List.length_reverse, hm] at this
    funext y
    exact o1 x y (by omega))
  generalize up I 567 4 (Int32.ofNat (c + 1)) = I1 at *
  obtain ⟨w1, w2, w3, w4, w5⟩ := hA1.1.2.2.2 i hi
  rw [bT_g1 ta hR, bT_aI ta (by omega), w2, bT_g0 ta hR, bT_aI ta (by omega), w1] at turn
  -- a call
  have call : ∀ l, l < 26 → 1 ≤ m → (∀ p, f_X4_openCall (mg (4562 + zn J) I1 J R) 567 (Int32.ofNat (l)) (Int32.ofNat (m)) = some p → f_X4_work_s4 s0 = some (.inr (.inr (567, p.1, (Int32.ofNat (u + 1)), p.2)))) → SimGs s0 J (evF rec f s l vs (c + 1) d) c h t d sc u I R := by
    intro l hl hm1 tn
    unfold evF
    obtain ⟨p, ep, hp⟩ := C_openCall (J := J) hR hE1 hl hm m4 S1 (by omega) (by omega) (by omega) hd st1
    have st := RC_1 (tn p ep)
    rcases hp with ⟨p1, rfl⟩ | ⟨p1, p2, rfl⟩ | ⟨p1, p2, I2, rfl, f2, S2, K2, sl2, C2⟩
    · rw [if_pos (by rw [hm]; exact p1)]
      exact ⟨1, I1, R, by omega, st, hR, f1, FR_rfl⟩
    · rw [if_neg (by rw [hm]; omega), if_pos p2]
      exact ⟨1, I1, R, by omega, st, hR, f1, FR_rfl⟩
    · rw [if_neg (by rw [hm]; omega), if_neg (by omega)]
      have hR2 : RA (uR R t none) := FR_RA (t := t) (fun x j y => uR_o (by omega)) hR
      have f2' := Fm_mono f2 (show h ≤ h + m by omega) (Nat.le_refl t) (Nat.le_refl sc)
      have g := C_body (J := J) (u := u + 1) hsim hro hR2 (CEnv_keep hE1 f2) hl p2 (by omega) hv hm hm1 S2 K2 sl2 C2 (by omega) (by omega) (by omega) (by omega) (by omega)
      suffices key : ∀ r : Rs, SimX 12 J r (c + 1) h t d sc (u + 1) I2 (uR R t none) → SimGs s0 J r c h t d sc u I R from key _ g
      intro r g
      cases r with
      | inl e =>
        obtain ⟨k, I3, R3, b3, rc3, hR3, f3, fr3⟩ := g
        refine ⟨1 + k, I3, R3, by omega, ?_, hR3, FrK_tr f1 (FrK_tr f2' f3), FR_tr (fun x j y => uR_o (by omega)) fr3⟩
        rw [show u + (1 + k) = u + 1 + k by omega]
        exact RC_tr st rc3
      | inr r2 =>
        obtain ⟨v, c'⟩ := r2
        obtain ⟨k, I3, R3, b3, rc3, hR3, f3, fr3, S3, V3⟩ := g
        refine ⟨1 + k, I3, R3, by omega, ?_, hR3, FrK_tr f1 (FrK_tr f2' f3), FR_tr (fun x j y => uR_o (by omega)) fr3, S3, V3⟩
        rw [show u + (1 + k) = u + 1 + k by omega]
        exact RC_tr st rc3
  by_cases q0 : (nd i).1 = 0
  · rw [if_pos q0]
    have m0 : m = 0 := by
      rw [← hm2]
      rcases nv with y | y | y | y
      · exact y.2.2.2
      · rw [y.1] at q0; exact absurd q0 (by first | decide | omega)
      · rw [y.1] at q0; exact absurd q0 (by first | decide | omega)
      · rw [y.1] at q0; exact absurd q0 (by first | decide | omega)
    subst m0
    rw [if_pos q0, gr_567_2 hR, gi_567, S1.1, C_stk hR (by omega), if_pos (bF_xk (isF_584 (by omega))), x1, j_of32 (by omega)] at turn
    obtain ⟨_, e2, I2, rfl, f2, V2⟩ := F_set (J := J) (I := I1) (n := vN (nd i)) hR (isF_584 (t := h) (by omega)) (by omega)
    have e2 : f_X2_set (mg (4562 + zn J) I1 J R) (584 + 5 * (h + 0)) (Int64.ofNat (vN (nd i))) = some (mg (4562 + zn J) I2 J R) := e2
    have k567 : ∀ k, I2 567 k = I1 567 k := fun k => by rw [f2 567 (fun y => by unfold Sf at y; omega)]
    obtain ⟨a1, a2, a3, a4, a5⟩ := S1
    rw [e2, Option.bind_some, gi_567, k567, a1, gs_567, show (Int32.ofNat (h + 0)) + (1 : Int32) = (Int32.ofNat (h + 1)) from n_add h 1] at turn
    refine ⟨1, up I2 567 3 (Int32.ofNat (h + 1)), R, by omega, RC_1 (turn _ rfl), hR, ?_, FR_rfl, ⟨up_s, ?_, ?_, ?_, ?_⟩, CV_keep V2 (fun x g1 g2 => up_r (by omega))⟩
    · intro x j y
      have y2 := y
      unfold Fm at y
      rw [up_n (by omega), f2 x (fun w => by unfold Sf at w; omega)]
      exact f1 x j y2
    · rw [up_n (by omega), k567]; exact a2
    · rw [up_n (by omega), k567]; exact a3
    · rw [up_n (by omega), k567]; exact a4
    · rw [up_n (by omega), k567]; exact a5
  rw [if_neg q0]
  rw [if_neg q0] at turn
  have lett : (nd i).1 = 1 ∨ (nd i).1 = 2 → 97 ≤ vN (nd i) ∧ vN (nd i) < 123 := fun y => by
    rcases nv with z | ⟨z, ⟨l, hl, e⟩, _⟩ | ⟨z, ⟨l, hl, e⟩, _⟩ | ⟨z, _⟩
    · exact absurd z.1 q0
    · have : vN (nd i) = 97 + l := by
        unfold vN
        rw [e, i32_nat (by omega)]
      omega
    · have : vN (nd i) = 97 + l := by
        unfold vN
        rw [e, i32_nat (by omega)]
      omega
    · rw [z] at y
      exact absurd y (by first | decide | omega)
  by_cases q1 : (nd i).1 = 1
  · rw [if_pos q1]
    have m0 : m = 0 := by
      rw [← hm2]
      rcases nv with y | y | y | y
      · exact y.2.2.2
      · exact y.2.2.2
      · rw [y.1] at q1; exact absurd q1 (by first | decide | omega)
      · rw [y.1] at q1; exact absurd q1 (by first | decide | omega)
    subst m0
    rw [if_pos q1, if_pos ok_567, x1] at turn
    have ll := lett (Or.inl q1)
    obtain ⟨r, e2, hr⟩ := C_giveName (J := J) (h := h) (x := vN (nd i)) hR S1 hE1.2.1 hE.2.2.2.2.2.2.2.1 hc ⟨ll.1, ll.2⟩ (by omega) (by omega) hC1
    rw [e2, Option.bind_some] at turn
    cases el : lkN n ch (vN (nd i)) with
    | none =>
      rw [el] at hr
      have hr : r = (4, mg (4562 + zn J) I1 J R) := hr
      rw [hr] at turn
      exact ⟨1, I1, R, by omega, RC_1 (turn _ rfl), hR, f1, FR_rfl⟩
    | some v =>
      rw [el] at hr
      obtain ⟨I2, er, f2, S2, V2⟩ := hr
      rw [er] at turn
      exact ⟨1, I2, R, by omega, RC_1 (turn _ rfl), hR, FrK_tr f1 f2, FR_rfl, S2, V2⟩
  rw [if_neg q1]
  rw [if_neg q1] at turn
  by_cases q2 : (nd i).1 = 2
  · rw [if_pos q2]
    have ll := lett (Or.inr q2)
    rw [if_pos q2, bT_g3 ta hR, bT_aI ta (by omega), w4, if_pos ok_567, x1, show (Int32.ofNat (vN (nd i))) - (97 : Int32) = (Int32.ofNat (vN (nd i) - 97)) from n_sub (b := 97) (by omega), show (nd i).2.2.2 = m from hm2] at turn
    refine call _ (by omega) (by rw [← hm2]; exact x7 q2) (fun p hp => ?_)
    rw [hp, Option.bind_some] at turn
    exact turn _ rfl
  rw [if_neg q2]
  have q3 : (nd i).1 = 3 := by
    rcases x5 with z | z | z | z
    · exact absurd z q0
    · exact absurd z q1
    · exact absurd z q2
    · exact z
  obtain ⟨p, fx, p1, p2, p3, p4, p5, p6, p7, p8⟩ := mg_i hE.2.2.2.2.1 nv q3
  have m1 : 1 ≤ m := by
    rw [← hm2]
    show 1 ≤ (nd i).2.2.2
    rw [p5]
    split <;> decide
  rw [if_neg q2, gr_567_0 hR, bT_g2 ta hR, bT_aI ta (by omega), w3, if_pos ok_11, p3, p4, C_meaning hR hE1.1 p1 (by omega) p6 p7] at turn
  by_cases q4 : 100 ≤ mgN b (nd i)
  · rw [if_pos q4]
    rw [if_neg (show ¬ (Int32.ofNat (mgN b (nd i))) < (100 : Int32) from fun y => absurd ((i32_lt (m := 100) (by omega) (by omega)).mp y) (by omega)), bT_g3 ta hR, bT_aI ta (by omega), w4, if_pos ok_567, show (Int32.ofNat (mgN b (nd i))) - (100 : Int32) = (Int32.ofNat (mgN b (nd i) - 100)) from n_sub (b := 100) (by omega), show (nd i).2.2.2 = m from hm2] at turn
    refine call _ (by omega) m1 (fun p hp => ?_)
    rw [hp, Option.bind_some] at turn
    exact turn _ rfl
  rw [if_neg q4]
  rw [if_pos (show (Int32.ofNat (mgN b (nd i))) < (100 : Int32) from (i32_lt (m := 100) (by omega) (by omega)).mpr (by omega)), if_pos ok_567] at turn
  -- an operator of numbers
  have oper : ∀ qr : Nat ⊕ GV, QK (f_X4_operate (mg (4562 + zn J) I1 J R) 567 (Int32.ofNat (mgN b (nd i)))) (Cop I1 J R h qr) → SimGs s0 J (match qr with
      | .inl e => .inl e
      | .inr v => .inr (v, c + 1)) c h t d sc u I R := by
    rintro qr ⟨r, e2, I2, f2, hr⟩
    rw [e2, Option.bind_some] at turn
    have f2' : FrK (Fm h t sc) I1 I2 := FrK_mono f2 (fun x k y => by unfold Fop at y; unfold Fm; omega)
    rcases hr with ⟨v, ev, er, g3, gv⟩ | ⟨e, ee, g1, g2, er⟩
    · rw [er] at turn
      rw [ev]
      obtain ⟨a1, a2, a3, a4, a5⟩ := S1
      have g : ∀ k, k ≠ 3 → I2 567 k = I1 567 k := fun k hk => f2 567 k (by unfold Fop; omega)
      exact ⟨1, I2, R, by omega, RC_1 (turn _ rfl), hR, FrK_tr f1 f2', FR_rfl, ⟨g3, by rw [g 12 (by omega)]; exact a2, by rw [g 4 (by omega)]; exact a3, by rw [g 13 (by omega)]; exact a4, by rw [g 18 (by omega)]; exact a5⟩, gv⟩
    · rw [er] at turn
      rw [ee]
      exact ⟨1, I2, R, by omega, RC_1 (turn _ rfl), hR, FrK_tr f1 f2', FR_rfl⟩
  unfold evO
  have hm3 : m = if fx = 2 then 2 else 1 := by rw [← hm2]; exact p5
  by_cases q5 : 11 ≤ mgN b (nd i)
  · rw [if_pos q5]
    have m1' : m = 1 := by
      rw [hm3, if_neg (by omega)]
    subst m1'
    cases vs with
    | nil => cases hm
    | cons v vs =>
      cases vs with
      | cons _ _ => cases hm
      | nil => exact oper _ (C_operate1 hR (by omega) (by omega) S1.1 (st1 0 v rfl) (hv v (List.mem_cons_self ..)))
  · rw [if_neg q5]
    have m2' : m = 2 := by
      rw [hm3, if_pos (by omega)]
    subst m2'
    cases vs with
    | nil => cases hm
    | cons v2 vs =>
      cases vs with
      | nil => cases hm
      | cons v1 vs =>
        cases vs with
        | cons _ _ => cases hm
        | nil => exact oper _ (C_operate2 hR (by omega) (by omega) S1.1 (st1 0 v1 rfl) (st1 1 v2 rfl) (hv v1 (List.mem_cons_of_mem _ (List.mem_cons_self ..))) (hv v2 (List.mem_cons_self ..)))
theorem C_gives (hsim : SimC b n f s F rec) (hro : RcO b F rec) (hR : RA R) (hE : CEnv I b n f s) (hA : CT I a nn nd sp) (ha : a + 8 ≤ 540 ∨ 1784 ≤ a) (hT : TrO b nn nd sp) (hi : i < nn) (hc : ChO ch) (hd : d ≤ 12) (hF : 31 * (12 - d) ≤ F) (hm : vs.length = m) (hm2 : aro nd i = m) (hv : ∀ v, v ∈ vs → Gd v) (hS : MSt I (h + m) (t + 1) c d sc) (hK : TKc I R t 0 (some a) (Int32.ofNat (i)) (Int32.ofNat (m)) z more) (hst : ∀ j v, vs.reverse[j]? = some v → CV I (584 + 5 * (h + j)) v) (hC : CCh I h sc ch z) (h1 : h + m ≤ c) (h2 : sc ≤ c) (h3 : c ≤ 200) (h4 : t + 1 + 31 * (12 - d) ≤ 480) (hu : u + 4831 + 100 * (31 * (12 - d)) ≤ 900100 + 24 * c) : SimG J (evG rec b n f s (nd i) ch vs c d) c h t d sc u I R := by
  have ta := hA.1.1
  have nn80 := (CT_n hA).2
  obtain ⟨x1, x2, x3, x4, x5, x6, x7⟩ := NV_v (hT.2 i hi)
  have m4 : m ≤ 4 := by rw [← hm2]; exact x4
  obtain ⟨s1, s2, s3, s4, s5⟩ := hS
  obtain ⟨k1, k2, k3, k4, k5, k6⟩ := hK
  obtain ⟨y1, y2, y3, y4, y5⟩ := hA.1.2.2.2 i hi
  -- the turn
  have turn : ∀ p : Int32 × xM, f_X4_give (mg (4562 + zn J) (up I 567 12 (Int32.ofNat (t))) J R) 567 a (Int32.ofNat (i)) z = some p → f_X4_work_s4 (567, 0, (Int32.ofNat (u)), mg (4562 + zn J) I J R) = some (.inr (.inr (567, p.1, (Int32.ofNat (u + 1)), p.2))) := fun p hp => by
    rw [work_top (k := 0) hR ⟨s1, s2, s3, s4, s5⟩ ⟨k1, k2, k3, k4, k5, k6⟩ (by omega) (by omega) (by omega), if_neg (by first | decide | omega), if_neg (by first | decide | omega)]
    unfold f_X4_work_j172 f_X4_work_j207 f_X4_work_j240
    rw [gr_567_6 hR, ga_574 (by omega), k1, if_pos rfl, bT_g3 ta hR, bT_aI ta (by omega), y4, if_pos (show (Int32.ofNat ((nd i).2.2.2)) ≤ (Int32.ofNat (m)) from (i32_le (by omega) (by omega)).mpr (show aro nd i ≤ m by omega)), gs_567, gr_567_6 hR, ga_574 (by omega), up_n (by omega), k1, if_neg (by first | decide | omega), gr_567_10 hR, ga_578 (by omega), up_n (by omega), k5, if_pos ok_567, hp, Option.bind_some, j241]
  have f0 : FrK (Fm h t sc) I (up I 567 12 (Int32.ofNat (t))) := fun x j y => by
    unfold Fm at y
    rw [up_n (by omega)]
  have o0 : ∀ x j, x ≠ 567 → up I 567 12 (Int32.ofNat (t)) x j = I x j := fun x j hx => up_n (by omega)
  have S0' : MSt (up I 567 12 (Int32.ofNat (t))) (h + m) t c d sc := ⟨by rw [up_n (by omega)]; exact s1, up_s, by rw [up_n (by omega)]; exact s3, by rw [up_n (by omega)]; exact s4, by rw [up_n (by omega)]; exact s5⟩
  have hA0 := CT_m hA (by omega) f0
  have hE0 := CEnv_keep hE f0
  have hC0 := CCh_keep ch sc z hC (Nat.le_refl _) (Nat.le_refl _) f0
  have st0 : ∀ j v, vs.reverse[j]? = some v → CV (up I 567 12 (Int32.ofNat (t))) (584 + 5 * (h + j)) v := fun j v hj => CV_keep (hst j v hj) (fun x g1 g2 => up_r (by omega))
  generalize up I 567 12 (Int32.ofNat (t)) = I0 at *
  have g := C_giveS (J := J) hsim hro hR hE0 hA0 ha hT hi hc hd hF hm hm2 hv S0' turn st0 hC0 h1 h2 h3 h4 hu
  generalize evG rec b n f s (nd i) ch vs c d = r at g
  cases r with
  | inl e =>
    obtain ⟨k, I', R', g1, g2, g3, g4, g5⟩ := g
    exact ⟨k, I', R', g1, g2, g3, FrK_tr f0 g4, g5⟩
  | inr r2 =>
    obtain ⟨v, c'⟩ := r2
    obtain ⟨k, I', R', g1, g2, g3, g4, g5⟩ := g
    exact ⟨k, I', R', g1, g2, g3, FrK_tr f0 g4, g5⟩
end GV
