/-! the reference's run follows ev: turns, operands -/
abbrev Tm : Type := Nat × Int32 × xM
def RQ (k : Nat) (s s' : Tm) : Prop := ∀ F, xloop f_X12_run_s33 (F + k) s = xloop f_X12_run_s33 F s'
theorem RQ_0 (s : Tm) : RQ 0 s s := fun _ => rfl
theorem RQ_tr {k k' : Nat} {s s' s'' : Tm} (h : RQ k s s') (h' : RQ k' s' s'') : RQ (k + k') s s'' := fun F => by
  rw [show F + (k + k') = (F + k') + k by omega, h, h']
theorem RQ_1 {s s' : Tm} (h : f_X12_run_s33 s = some (.inr (.inr s'))) : RQ 1 s s' := fun F => by
  rw [xl_s (by omega) h, Nat.add_sub_cancel]
def SimQ (J : Nat → Nat → Int64) (R : Nat → Nat → Option Nat) (r : Rs) (c h t d w u : Nat) (I : Nat → Nat → Int32) : Prop := match r with
  | .inl e => ∃ k I', u + k ≤ 1000000 ∧ RQ k (4561, 0, mg 4625 I J R) (4561, (Int32.ofNat (e)), mg 4625 I' J R) ∧ FrK (Fx h t w) I I'
  | .inr (v, c') => ∃ k I', k + 24 * c + 2 ≤ 24 * c' ∧ RQ k (4561, 0, mg 4625 I J R) (4561, 0, mg 4625 I' J R) ∧ FrK (Fx h t w) I I' ∧ RSt I' (h + 1) t c' d w ∧ MV I' (60 + h) v
def SimM (b : GB) (n : GN) (f : GF) (s : GS) (F : Nat) (rec : Rc) : Prop := ∀ (J : Nat → Nat → Int64) (R : Nat → Nat → Option Nat) (a nn i : Nat) (nd : Nat → Nd) (sp : Nat → Nat) (ch : Ch) (c d h t w u : Nat) (z : Int32) (I : Nat → Nat → Int32), RA R → MEnv I b n f s → MT I a nn nd sp → TrO b nn nd sp → i < nn → ChO ch → d ≤ 12 → sp i + 31 * (12 - d) ≤ F → RSt I h (t + 1) c d w → RTk I t (Int32.ofNat (a + i)) 0 z → MCh I w ch z → h ≤ c → w ≤ c → c ≤ 200 → t + sp i + 31 * (12 - d) ≤ 480 → u + 4824 + 100 * (sp i + 31 * (12 - d)) ≤ 900000 + 24 * c → SimQ J R (rec nd sp i ch c d) c h t d w u I
theorem NV_bk {b : GB} {x : Nd} (h : NV b x) : (bkN x = 1 ↔ x.1 = 2 ∧ x.2.1 = 105) ∧ (bkN x = 2 ↔ x.1 = 2 ∧ x.2.1 = 115) ∧ (bkN x = 0 ∨ bkN x = 1 ∨ bkN x = 2) := by
  obtain ⟨x1, x2, -⟩ := NV_v h
  have ev105 : (x.2.1 = 105) ↔ vN x = 105 := by
    rw [x1]
    exact i32_eq (m := 105) (by omega) (by omega)
  have ev115 : (x.2.1 = 115) ↔ vN x = 115 := by
    rw [x1]
    exact i32_eq (m := 115) (by omega) (by omega)
  rw [ev105, ev115]
  unfold bkN
  by_cases q1 : x.1 = 2 ∧ vN x = 105
  · rw [if_pos q1]
    refine ⟨⟨fun _ => q1, fun _ => rfl⟩, ⟨fun y => absurd y (by decide), fun y => ?_⟩, by decide⟩
    have := q1.2
    have := y.2
    omega
  · rw [if_neg q1]
    by_cases q2 : x.1 = 2 ∧ vN x = 115
    · rw [if_pos q2]
      exact ⟨⟨fun y => absurd y (by decide), fun y => absurd y q1⟩, ⟨fun _ => q2, fun _ => rfl⟩, by decide⟩
    · rw [if_neg q2]
      exact ⟨⟨fun y => absurd y (by decide), fun y => absurd y q1⟩, ⟨fun y => absurd y (by decide), fun y => absurd y q2⟩, by decide⟩
section RG
variable {I : Nat → Nat → Int32} {J : Nat → Nat → Int64} {R : Nat → Nat → Option Nat} {β : Type} {h t c d w u a nn i : Nat} {nd : Nat → Nd} {sp : Nat → Nat} {b : GB} {n : GN} {f : GF} {s : GS} {z stage : Int32} {F : Nat} {rec : Rc} {ch : Ch}
theorem mk_0 (hA : MT I a nn nd sp) (hi : i < nn) (hR : RA R) {G : Int32 → Option β} : ((gR (mg 4625 I J R) 4561 12 4).bind fun x => (aI (mg 4625 I J R) x 14 (Int32.ofNat (a + i))).bind G) = G (nd i).1 := by
  have := hA.1.1
  rw [gr_4561_4 hR, ga_4565 (by omega), (hA.1.2 i hi).1]
theorem mk_1 (hA : MT I a nn nd sp) (hi : i < nn) (hR : RA R) {G : Int32 → Option β} : ((gR (mg 4625 I J R) 4561 12 5).bind fun x => (aI (mg 4625 I J R) x 14 (Int32.ofNat (a + i))).bind G) = G (nd i).2.1 := by
  have := hA.1.1
  rw [gr_4561_5 hR, ga_4566 (by omega), (hA.1.2 i hi).2.1]
theorem mk_2 (hA : MT I a nn nd sp) (hi : i < nn) (hR : RA R) {G : Int32 → Option β} : ((gR (mg 4625 I J R) 4561 12 6).bind fun x => (aI (mg 4625 I J R) x 14 (Int32.ofNat (a + i))).bind G) = G (nd i).2.2.1 := by
  have := hA.1.1
  rw [gr_4561_6 hR, ga_4567 (by omega), (hA.1.2 i hi).2.2.1]
theorem mk_3 (hA : MT I a nn nd sp) (hi : i < nn) (hR : RA R) {G : Int32 → Option β} : ((gR (mg 4625 I J R) 4561 12 7).bind fun x => (aI (mg 4625 I J R) x 14 (Int32.ofNat (a + i))).bind G) = G (Int32.ofNat (aro nd i)) := by
  have := hA.1.1
  rw [gr_4561_7 hR, ga_4568 (by omega), (hA.1.2 i hi).2.2.2.1]
  rfl
theorem run_top (hR : RA R) (hA : MT I a nn nd sp) (hi : i < nn) (hn : NV b (nd i)) (hS : RSt I h (t + 1) c d w) (hK : RTk I t (Int32.ofNat (a + i)) stage z) (ht : t < 800) : f_X12_run_s33 (4561, 0, mg 4625 I J R) = (if (nd i).1 = 0 ∨ (nd i).1 = 1 then (gR (mg 4625 I J R) 4561 12 50).bind (fun x17 => (aI (mg 4625 I J R) x17 14 (Int32.ofNat (t))).bind (fun x18 => f_X12_leaf (mg 4625 I J R) 4561 (Int32.ofNat (a + i)) x18)) else if bkN (nd i) = 1 then f_X12_choose (mg 4625 I J R) 4561 (Int32.ofNat (t)) (Int32.ofNat (a + i)) else if bkN (nd i) = 2 then f_X12_sums (mg 4625 I J R) 4561 (Int32.ofNat (t)) (Int32.ofNat (a + i)) else f_X12_applies (mg 4625 I J R) 4561 (Int32.ofNat (t)) (Int32.ofNat (a + i))).bind (fun p => some (.inr (.inr (4561, p.1, p.2)))) := by
  obtain ⟨s1, s2, s3, s4, s5⟩ := hS
  obtain ⟨k1, k2, k3⟩ := hK
  obtain ⟨b1, b2, b3⟩ := NV_bk hn
  obtain ⟨-, -, -, -, x5, -, -⟩ := NV_v hn
  unfold f_X12_run_s33
  dsimp only
  rw [q_let, q_let, q_let, gi_4561, s2, if_neg (show ¬ (Int32.ofNat (t + 1)) ≤ (0 : Int32) from fun y => absurd ((i32_le (m := 0) (by omega) (by omega)).mp y) (by omega)), if_pos rfl, gi_4561, s2, q_let, show (Int32.ofNat (t + 1)) - (1 : Int32) = (Int32.ofNat (t)) from n_sub (b := 1) (by omega), gr_4561_48 hR, ga_4600 ht, k1, mk_0 hA hi hR]
  have gen : ∀ X, (∀ s0 : Int32, (s0 = if (nd i).1 = 2 then 1 else 0) → f_X12_run_j75 (mg 4625 I J R) 4561 (Int32.ofNat (t)) (Int32.ofNat (a + i)) s0 = X) → (if (nd i).1 = 2 then f_X12_run_j75 (mg 4625 I J R) 4561 (Int32.ofNat (t)) (Int32.ofNat (a + i)) 1 else f_X12_run_j75 (mg 4625 I J R) 4561 (Int32.ofNat (t)) (Int32.ofNat (a + i)) 0) = X := fun X hX => by
    by_cases q2 : (nd i).1 = 2
    · rw [if_pos q2]
      exact hX 1 (by rw [if_pos q2])
    · rw [if_neg q2]
      exact hX 0 (by rw [if_neg q2])
  refine gen _ (fun s0 hs => ?_)
  unfold f_X12_run_j75 f_X12_run_j98 f_X12_run_j140 f_X12_run_j167 f_X12_run_j174
  rw [mk_0 hA hi hR]
  by_cases q0 : (nd i).1 = 0
  · rw [if_pos q0, gr_4561_50 hR, ga_4602 ht, if_pos ok_4561, if_pos (show (nd i).1 = 0 ∨ (nd i).1 = 1 from Or.inl q0), gr_4561_50 hR, ga_4602 ht]
  rw [if_neg q0, mk_0 hA hi hR]
  by_cases q1 : (nd i).1 = 1
  · rw [if_pos q1, gr_4561_50 hR, ga_4602 ht, if_pos ok_4561, if_pos (show (nd i).1 = 0 ∨ (nd i).1 = 1 from Or.inr q1), gr_4561_50 hR, ga_4602 ht]
  rw [if_neg q1, if_neg (show ¬ ((nd i).1 = 0 ∨ (nd i).1 = 1) from fun y => y.elim q0 q1)]
  by_cases q2 : (nd i).1 = 2
  · rw [if_pos q2] at hs
    rw [hs, if_neg (show ¬ (1 : Int32) = 0 by decide), mk_1 hA hi hR]
    by_cases q3 : (nd i).2.1 = 105
    · rw [if_pos q3, if_pos ok_4561, if_pos (b1.mpr ⟨q2, q3⟩)]
    rw [if_neg q3, if_neg (show ¬ (1 : Int32) = 0 by decide), mk_1 hA hi hR, if_neg (show ¬ bkN (nd i) = 1 from fun y => q3 (b1.mp y).2)]
    by_cases q4 : (nd i).2.1 = 115
    · rw [if_pos q4, if_pos ok_4561, if_pos (b2.mpr ⟨q2, q4⟩)]
    rw [if_neg q4, if_pos ok_4561, if_neg (show ¬ bkN (nd i) = 2 from fun y => q4 (b2.mp y).2)]
  · rw [if_neg q2] at hs
    rw [hs, if_pos (show (0 : Int32) = 0 from rfl), if_pos (show (0 : Int32) = 0 from rfl), if_pos ok_4561, if_neg (show ¬ bkN (nd i) = 1 from fun y => q2 (b1.mp y).1), if_neg (show ¬ bkN (nd i) = 2 from fun y => q2 (b2.mp y).1)]
/-- a stage of a frame goes on -/
theorem RTk_stage {node stage' : Int32} (hS : RSt I h (t + 1) c d w) (hK : RTk I t node stage z) : FrK (Fx h t w) I (up I 4601 t stage') ∧ RSt (up I 4601 t stage') h (t + 1) c d w ∧ RTk (up I 4601 t stage') t node stage' z := by
  obtain ⟨s1, s2, s3, s4, s5⟩ := hS
  obtain ⟨k1, k2, k3⟩ := hK
  refine ⟨fun x j y => ?_, ⟨by rw [up_n (by omega)]; exact s1, by rw [up_n (by omega)]; exact s2, by rw [up_n (by omega)]; exact s3, by rw [up_n (by omega)]; exact s4, by rw [up_n (by omega)]; exact s5⟩, by rw [up_n (by omega)]; exact k1, up_s, by rw [up_n (by omega)]; exact k3⟩
  unfold Fx at y
  rw [up_n (by omega)]
theorem R_operand {k : Nat} (hR : RA R) (hA : MT I a nn nd sp) (hT : TrO b nn nd sp) (hi : i < nn) (hk : k < aro nd i) (hS : RSt I h (t + 1) c d w) (hK : RTk I t (Int32.ofNat (a + i)) (Int32.ofNat (k)) z) (ht : t + 1 < 800) : QK (f_X12_applies (mg 4625 I J R) 4561 (Int32.ofNat (t)) (Int32.ofNat (a + i))) (fun r => ∃ I', r = (0, mg 4625 I' J R) ∧ FrK (Fx h t w) I I' ∧ RSt I' h (t + 2) c d w ∧ RTk I' t (Int32.ofNat (a + i)) (Int32.ofNat (k + 1)) z ∧ RTk I' (t + 1) (Int32.ofNat (a + kid sp i k)) 0 z) := by
  have a4 : aro nd i ≤ 4 := (NV_v (hT.2 i hi)).2.2.2.1
  obtain ⟨f1, S1, K1⟩ := RTk_stage (stage' := (Int32.ofNat (k + 1))) hS hK
  unfold f_X12_applies
  rw [mk_3 hA hi hR, gr_4561_49 hR, ga_4601 (by omega), hK.2.1, if_neg (show ¬ (Int32.ofNat (aro nd i)) ≤ (Int32.ofNat (k)) from fun y => absurd ((i32_le (by omega) (by omega)).mp y) (by omega)), gr_4561_49 hR, ga_4601 (by omega), hK.2.1, show (Int32.ofNat (k)) + (1 : Int32) = (Int32.ofNat (k + 1)) from n_add k 1, gw_4601 (by omega)]
  have A1 := MT_m hA f1
  generalize up I 4601 t (Int32.ofNat (k + 1)) = I1 at *
  rw [gr_4561_49 hR, ga_4601 (by omega), K1.2.1, show (Int32.ofNat (k + 1)) - (1 : Int32) = (Int32.ofNat (k)) from n_sub (b := 1) (by omega), if_pos ok_4561, M_child hR A1 hi (by omega), Option.bind_some, gr_4561_50 hR, ga_4602 (by omega), K1.2.2, if_pos ok_4561]
  refine q_bind (M_enter hR S1 ht) ?_
  rintro _ ⟨I2, rfl, f2, S2, K2⟩
  exact q_ok ⟨I2, rfl, FrK_tr f1 (Fx_mono f2 (Nat.le_refl _) (by omega) (Nat.le_refl _)), S2, RTk_keep K1 f2, K2⟩
def SimO (J : Nat → Nat → Int64) (R : Nat → Nat → Option Nat) (r : Nat ⊕ (List GV × Nat)) (k0 p : Nat) (z : Int32) (c h t d w u : Nat) (I : Nat → Nat → Int32) : Prop := match r with
  | .inl e => ∃ k I', u + k ≤ 1000000 ∧ RQ k (4561, 0, mg 4625 I J R) (4561, (Int32.ofNat (e)), mg 4625 I' J R) ∧ FrK (Fx h t w) I I'
  | .inr (vs, c') => ∃ k I', k + 24 * c ≤ 24 * c' + k0 ∧ RQ k (4561, 0, mg 4625 I J R) (4561, 0, mg 4625 I' J R) ∧ FrK (Fx h t w) I I' ∧ RSt I' (h + k0) (t + 1) c' d w ∧ RTk I' t (Int32.ofNat (p)) (Int32.ofNat (k0)) z ∧ ∀ j v, vs.reverse[j]? = some v → MV I' (60 + h + j) v
theorem M_args (hsim : SimM b n f s F rec) (hro : RcO b F rec) (hR : RA R) (hE : MEnv I b n f s) (hA : MT I a nn nd sp) (hT : TrO b nn nd sp) (hi : i < nn) (h0 : bkN (nd i) = 0) (hc : ChO ch) (hd : d ≤ 12) (hF : sp i + 31 * (12 - d) ≤ F + 1) (hS : RSt I h (t + 1) c d w) (hK : RTk I t (Int32.ofNat (a + i)) 0 z) (hC : MCh I w ch z) (h1 : h ≤ c) (h2 : w ≤ c) (h3 : c ≤ 200) (h4 : t + sp i + 31 * (12 - d) ≤ 480) (hu : u + 4824 + 100 * (sp i + 31 * (12 - d)) ≤ 900000 + 24 * c) : ∀ k, k ≤ aro nd i → SimO J R (evA rec nd sp i ch d k c) k (a + i) z c h t d w u I := by
  have nv := hT.2 i hi
  have a4 : aro nd i ≤ 4 := (NV_v nv).2.2.2.1
  intro k
  induction k with
  | zero =>
    intro _
    refine ⟨0, I, by omega, RQ_0 _, FrK_rfl, hS, hK, fun j v hj => ?_⟩
    have hj : ([] : List GV)[j]? = some v := hj
    rw [List.getElem?_nil] at hj
    cases hj
  | succ k ih =>
    intro hk
    have g := ih (by omega)
    have ro := evA_RO hro hT hi hc hd hF k (by omega) c
    rw [evA_c]
    cases e : evA rec nd sp i ch d k c with
    | inl e1 => rw [e] at g; exact g
    | inr r =>
      obtain ⟨vs, c1⟩ := r
      rw [e] at g ro
      obtain ⟨kk, I1, b1, rc1, f1, S1, K1, V1⟩ := g
      obtain ⟨r1, r2, r3, r4, r5⟩ := ro
      obtain ⟨a1, a2, a3⟩ := kid_sp hT.1 hi (show k < aro nd i by omega)
      have c200 : c1 ≤ 200 := by
        by_cases q : k = 0
        · have := r3 q; omega
        · exact r4 q
      have A1 := MT_m hA f1
      obtain ⟨p, ep, I2, rfl, f2, S2, K2, K2'⟩ := R_operand (J := J) hR A1 hT hi (show k < aro nd i by omega) S1 K1 (by omega)
      have nz : ¬ ((nd i).1 = 0 ∨ (nd i).1 = 1) := fun y => by
        have : 0 < (nd i).2.2.2 := by show 0 < aro nd i; omega
        rcases nv with z1 | z1 | z1 | z1
        · have := z1.2.2.2; omega
        · have := z1.2.2.2; omega
        · rw [z1.1] at y; exact absurd y (by decide)
        · rw [z1.1] at y; exact absurd y (by decide)
      have st : RQ 1 (4561, 0, mg 4625 I1 J R) (4561, 0, mg 4625 I2 J R) := by
        refine RQ_1 ?_
        rw [run_top hR A1 hi nv S1 K1 (by omega), if_neg nz, if_neg (by omega), if_neg (by omega), ep, Option.bind_some]
      have f12 := FrK_tr f1 (Fx_mono f2 (show h ≤ h + k by omega) (Nat.le_refl _) (Nat.le_refl _))
      have g2 := hsim J R a nn (kid sp i k) nd sp ch c1 d (h + k) (t + 1) w (u + kk + 1) z I2 hR (MEnv_keep hE f12) (MT_m hA f12) hT a1 hc hd (by omega) S2 K2' (MCh_keep (by omega) (by omega) ch w z hC (Nat.le_refl _) f12) (by omega) (by omega) c200 (by omega) (by omega)
      have ro2 := hro nn nd sp (kid sp i k) ch c1 d hT a1 hc hd (by omega)
      dsimp only
      cases e2 : rec nd sp (kid sp i k) ch c1 d with
      | inl e3 =>
        rw [e2] at g2
        obtain ⟨k2, I3, b3, rc3, f3⟩ := g2
        exact ⟨kk + 1 + k2, I3, by omega, RQ_tr (RQ_tr rc1 st) rc3, FrK_tr f12 (Fx_mono f3 (by omega) (by omega) (Nat.le_refl _))⟩
      | inr r2 =>
        obtain ⟨v, c2⟩ := r2
        rw [e2] at g2 ro2
        obtain ⟨k2, I3, b3, rc3, f3, S3, V3⟩ := g2
        refine ⟨kk + 1 + k2, I3, by omega, RQ_tr (RQ_tr rc1 st) rc3, FrK_tr f12 (Fx_mono f3 (by omega) (by omega) (Nat.le_refl _)), S3, RTk_keep K2 f3, ?_⟩
        intro j x hj
        rw [List.reverse_cons] at hj
        by_cases q : j < vs.reverse.length
        · rw [List.getElem?_append_left q] at hj
          rw [List.length_reverse, r1] at q
          exact MV_m (MV_m (V1 j x hj) f2 (by omega) (by omega) (by omega)) f3 (by omega) (by omega) (by omega)
        · rw [List.getElem?_append_right (by omega), List.length_reverse, r1] at hj
          rw [List.length_reverse, r1] at q
          by_cases q2 : j = k
          · rw [q2, Nat.sub_self] at hj
            have : v = x := Option.some.inj hj
            rw [← this, q2, Nat.add_assoc]
            exact V3
          · rw [List.getElem?_eq_none (by show 1 ≤ j - k; omega)] at hj
            cases hj
theorem M_meaningAt (hR : RA R) (hA : MT I a nn nd sp) (hi : i < nn) (hn : NV b (nd i)) (hB : MTb I b) (hO : TbOK b) (h3 : (nd i).1 = 3) {G : Int32 → Option β} : (f_X12_meaningAt (mg 4625 I J R) 4561 (Int32.ofNat (a + i))).bind G = G (Int32.ofNat (mgN b (nd i))) := by
  obtain ⟨p, fx, p1, p2, p3, p4, p5, p6, p7, p8⟩ := mg_i hO hn h3
  have sl := sgp_lt p p1
  have e := congrArg (fun q : Int32 × Int32 × Int32 => q.2.2) (hB p fx p1 p2)
  have e : I 4577 (3 * sgp p + fx) = (b (fx * 16 + p)).2.2 := e
  unfold f_X12_meaningAt f_X12_meaningAt_j37
  rw [mk_0 hA hi hR, if_pos h3, gr_4561_17 hR, mk_1 hA hi hR, p3, M_signOf p1, mk_2 hA hi hR, p4, show (3 : Int32) * (Int32.ofNat (sgp p)) + (Int32.ofNat (fx)) = (Int32.ofNat (3 * sgp p + fx)) from i32_ma 3 (sgp p) fx, ga_4577 (by omega), e, p7]
  rfl
theorem M_meaningAtN (hR : RA R) (hA : MT I a nn nd sp) (hi : i < nn) (h3 : (nd i).1 ≠ 3) {G : Int32 → Option β} : (f_X12_meaningAt (mg 4625 I J R) 4561 (Int32.ofNat (a + i))).bind G = G (-1) := by
  unfold f_X12_meaningAt f_X12_meaningAt_j37
  rw [mk_0 hA hi hR, if_neg h3]
  rfl
end RG
