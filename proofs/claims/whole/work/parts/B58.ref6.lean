/-! the reference's run: a choice -/
section RCH
variable {I : Nat → Nat → Int32} {J : Nat → Nat → Int64} {R : Nat → Nat → Option Nat} {β : Type} {h t c d w u a nn i : Nat} {nd : Nat → Nd} {sp : Nat → Nat} {b : GB} {n : GN} {f : GF} {s : GS} {z : Int32} {F : Nat} {rec : Rc} {ch : Ch}
theorem bk_ne {x : Nd} {k : Nat} (h : bkN x = k) (hk : k ≠ 0) : ¬ (x.1 = 0 ∨ x.1 = 1) := fun y => by
  unfold bkN at h
  have n2 : ¬ x.1 = 2 := fun y2 => by
    rw [y2] at y
    exact absurd y (by decide)
  rw [if_neg (fun q => n2 q.1), if_neg (fun q => n2 q.1)] at h
  exact hk h.symm
theorem M_choice (hsim : SimM b n f s F rec) (hro : RcO b F rec) (hR : RA R) (hE : MEnv I b n f s) (hA : MT I a nn nd sp) (hT : TrO b nn nd sp) (hi : i < nn) (hb : bkN (nd i) = 1) (hc : ChO ch) (hd : d ≤ 12) (hF : sp i + 31 * (12 - d) ≤ F + 1) (hS : RSt I h (t + 1) c d w) (hK : RTk I t (Int32.ofNat (a + i)) 0 z) (hC : MCh I w ch z) (h1 : h ≤ c) (h2 : w ≤ c) (h3 : c ≤ 200) (h4 : t + sp i + 31 * (12 - d) ≤ 480) (hu : u + 4824 + 100 * (sp i + 31 * (12 - d)) ≤ 900000 + 24 * c) : SimQ J R (evC rec nd sp i ch c d) c h t d w u I := by
  have nv := hT.2 i hi
  have a4 : aro nd i ≤ 4 := (NV_v nv).2.2.2.1
  have s1 := (hT.1.2.2.2 i hi).1
  have nz := bk_ne hb (by decide)
  have hb' := hA.1.1
  unfold evC
  have turn : ∀ p : Int32 × xM, f_X12_choose (mg 4625 I J R) 4561 (Int32.ofNat (t)) (Int32.ofNat (a + i)) = some p → f_X12_run_s33 (4561, 0, mg 4625 I J R) = some (.inr (.inr (4561, p.1, p.2))) := fun p hp => by
    rw [run_top hR hA hi nv hS hK (by omega), if_neg nz, if_pos hb, hp, Option.bind_some]
  unfold f_X12_choose f_X12_choose_j28 f_X12_choose_j37 at turn
  rw [gr_4561_49 hR, ga_4601 (by omega), hK.2.1, if_pos rfl, if_pos ok_4561] at turn
  by_cases q : 200 ≤ c
  · rw [if_pos q]
    rw [M_count9 hS (by omega), Option.bind_some, if_pos (show (0 : Int32) < 9 by decide), if_neg (show ¬ (9 : Int32) ≤ 0 by decide)] at turn
    exact ⟨1, I, by omega, RQ_1 (turn _ rfl), FrK_rfl⟩
  rw [if_neg q]
  obtain ⟨_, e1, I1, rfl, f1, S1, o1⟩ := M_count (J := J) (R := R) hS (show c < 200 by omega)
  have A1 := MT_m hA f1
  have f1 : FrK (Fx h t w) I I1 := fun x k y => by
    by_cases qx : x = 4561
    · subst qx
      exact f1 4561 k (by unfold Fx at y ⊢; omega)
    · exact o1 x k qx
  have K1 : RTk I1 t (Int32.ofNat (a + i)) 0 z := ⟨by rw [o1 _ _ (by decide)]; exact hK.1, by rw [o1 _ _ (by decide)]; exact hK.2.1, by rw [o1 _ _ (by decide)]; exact hK.2.2⟩
  rw [e1, Option.bind_some, if_neg (show ¬ (0 : Int32) < 0 by decide), mk_3 A1 hi hR] at turn
  by_cases q3 : aro nd i ≠ 3
  · rw [if_pos q3]
    rw [if_neg (show ¬ (Int32.ofNat (aro nd i)) = (3 : Int32) from i32_ne (b := 3) (by omega) (by omega) q3), if_pos (show (0 : Int32) ≤ 0 by decide)] at turn
    exact ⟨1, I1, by omega, RQ_1 (turn _ rfl), f1⟩
  rw [if_neg q3]
  have a3 : aro nd i = 3 := by omega
  obtain ⟨c1, c2, c3⟩ := kid_sp hT.1 hi (show 0 < aro nd i by omega)
  obtain ⟨g1, g2, g3⟩ := RTk_stage (stage' := (Int32.ofNat (1))) S1 K1
  have f2 := FrK_tr f1 g1
  rw [if_pos (show (Int32.ofNat (aro nd i)) = (3 : Int32) by rw [a3]; rfl), gr_4561_49 hR, show (1 : Int32) = (Int32.ofNat (1)) from rfl, gw_4601 (by omega)] at turn
  generalize up I1 4601 t (Int32.ofNat (1)) = I2 at *
  rw [gr_4561_50 hR, ga_4602 (by omega), g3.2.2, if_pos ok_4561, n_add (a + i) 1] at turn
  obtain ⟨_, e2, I3, rfl, f3, S3, K3⟩ := M_enter (J := J) (R := R) (node := (Int32.ofNat (a + i + 1))) (z := z) hR g2 (by omega)
  rw [e2, Option.bind_some] at turn
  have st := RQ_1 (turn _ rfl)
  have f13 := FrK_tr f2 (Fx_mono f3 (Nat.le_refl h) (show t ≤ t + 1 by omega) (Nat.le_refl w))
  have K3' := RTk_keep g3 f3
  have g := hsim J R a nn (kid sp i 0) nd sp ch (c + 1) d h (t + 1) w (u + 1) z I3 hR (MEnv_keep hE f13) (MT_m hA f13) hT c1 hc hd (by omega) S3 K3 (MCh_keep (by omega) (by omega) ch w z hC (Nat.le_refl _) f13) (by omega) (by omega) (by omega) (by omega) (by omega)
  have ro := hro nn nd sp (kid sp i 0) ch (c + 1) d hT c1 hc hd (by omega)
  cases e3 : rec nd sp (kid sp i 0) ch (c + 1) d with
  | inl e4 =>
    rw [e3] at g
    obtain ⟨k4, I4, b4, rc4, f4⟩ := g
    exact ⟨1 + k4, I4, by omega, RQ_tr st rc4, FrK_tr f13 (Fx_mono f4 (Nat.le_refl _) (by omega) (Nat.le_refl _))⟩
  | inr r =>
    obtain ⟨v, c'⟩ := r
    rw [e3] at g ro
    obtain ⟨l1, l2, l3⟩ := ro
    obtain ⟨k4, I4, b4, rc4, f4, S4, V4⟩ := g
    dsimp only
    have f14 := FrK_tr f13 (Fx_mono f4 (Nat.le_refl h) (show t ≤ t + 1 by omega) (Nat.le_refl w))
    have K4 := RTk_keep K3' f4
    have A4 := MT_m hA f14
    have g0 : (Int32.ofInt v.1.sign = 0) ↔ v.1 = 0 := by
      have := Vv_0 (MV_Vv V4)
      rw [← this]
      have e := V4.1
      rw [e]
    have hk : (if v.1 = 0 then 2 else 1) < aro nd i := by split <;> omega
    -- the choice is made
    have two : ∀ k : Nat, k < aro nd i → ∃ I6, f_X12_choose_j109 (mg 4625 (up (up I4 4561 61 (Int32.ofNat (h))) 4561 56 (Int32.ofNat (t))) J R) 4561 (Int32.ofNat (t)) (Int32.ofNat (k)) (Int32.ofNat (a + i)) 4561 4561 = some (0, mg 4625 I6 J R) ∧ FrK (Fx h t w) I4 I6 ∧ RSt I6 h (t + 1) c' d w ∧ RTk I6 t (Int32.ofNat (a + kid sp i k)) 0 z := by
      intro k hk
      have f5 : FrK (Fx h t w) I4 (up (up I4 4561 61 (Int32.ofNat (h))) 4561 56 (Int32.ofNat (t))) := fun x j y => by
        unfold Fx at y
        rw [up_n (by omega), up_n (by omega)]
      have S5 : RSt (up (up I4 4561 61 (Int32.ofNat (h))) 4561 56 (Int32.ofNat (t))) h t c' d w := by
        obtain ⟨z1, z2, z3, z4, z5⟩ := S4
        exact ⟨by rw [up_n (by omega), up_s], by rw [up_s], by rw [up_n (by omega), up_n (by omega)]; exact z3, by rw [up_n (by omega), up_n (by omega)]; exact z4, by rw [up_n (by omega), up_n (by omega)]; exact z5⟩
      have z5 : up (up I4 4561 61 (Int32.ofNat (h))) 4561 56 (Int32.ofNat (t)) 4602 t = z := by rw [up_n (by omega), up_n (by omega)]; exact K4.2.2
      have A5 := MT_m A4 f5
      generalize up (up I4 4561 61 (Int32.ofNat (h))) 4561 56 (Int32.ofNat (t)) = I5 at *
      obtain ⟨_, e6, I6, rfl, f6, S6, K6⟩ := M_enter (J := J) (R := R) (node := (Int32.ofNat (a + kid sp i k))) (z := z) hR S5 (by omega)
      refine ⟨I6, ?_, FrK_tr f5 f6, S6, K6⟩
      unfold f_X12_choose_j109
      rw [if_pos ok_4561, M_child hR A5 hi (by omega), Option.bind_some, gr_4561_50 hR, ga_4602 (by omega), z5, if_pos ok_4561, e6, Option.bind_some]
    obtain ⟨I6, e6, f6, S6, K6⟩ := two _ hk
    have st2 : RQ 1 (4561, 0, mg 4625 I4 J R) (4561, 0, mg 4625 I6 J R) := by
      refine RQ_1 ?_
      rw [run_top hR A4 hi nv S4 K4 (by omega), if_neg nz, if_pos hb]
      unfold f_X12_choose f_X12_choose_j76
      rw [gr_4561_49 hR, ga_4601 (by omega), K4.2.1, if_neg (show ¬ (Int32.ofNat (1)) = (0 : Int32) by decide), if_pos ok_4561, M_top S4, if_pos ok_4561, M_sign hR (by omega) (MV_Vv V4), Option.bind_some]
      by_cases v0 : v.1 = 0
      · rw [if_pos v0] at e6
        rw [if_pos (g0.mpr v0), gi_4561, S4.1, show (Int32.ofNat (h + 1)) - (1 : Int32) = (Int32.ofNat (h)) from n_sub (b := 1) (by omega), gs_4561, gi_4561, up_n (by omega), S4.2.1, show (Int32.ofNat (t + 1)) - (1 : Int32) = (Int32.ofNat (t)) from n_sub (b := 1) (by omega), gs_4561, if_pos rfl, show f_X12_choose_j109 (mg 4625 (up (up I4 4561 61 (Int32.ofNat (h))) 4561 56 (Int32.ofNat (t))) J R) 4561 (Int32.ofNat (t)) 2 (Int32.ofNat (a + i)) 4561 4561 = _ from e6, Option.bind_some]
      · rw [if_neg v0] at e6
        rw [if_neg (fun y => v0 (g0.mp y)), gi_4561, S4.1, show (Int32.ofNat (h + 1)) - (1 : Int32) = (Int32.ofNat (h)) from n_sub (b := 1) (by omega), gs_4561, gi_4561, up_n (by omega), S4.2.1, show (Int32.ofNat (t + 1)) - (1 : Int32) = (Int32.ofNat (t)) from n_sub (b := 1) (by omega), gs_4561, if_neg (show ¬ (1 : Int32) = 0 by decide), show f_X12_choose_j109 (mg 4625 (up (up I4 4561 61 (Int32.ofNat (h))) 4561 56 (Int32.ofNat (t))) J R) 4561 (Int32.ofNat (t)) 1 (Int32.ofNat (a + i)) 4561 4561 = _ from e6, Option.bind_some]
    generalize (if v.1 = 0 then 2 else 1) = k at *
    obtain ⟨m1, m2, m3⟩ := kid_sp hT.1 hi hk
    have f16 := FrK_tr f14 f6
    have g2 := hsim J R a nn (kid sp i k) nd sp ch c' d h t w (u + 1 + k4 + 1) z I6 hR (MEnv_keep hE f16) (MT_m hA f16) hT m1 hc hd (by omega) S6 K6 (MCh_keep (by omega) (by omega) ch w z hC (Nat.le_refl _) f16) (by omega) (by omega) (by omega) (by omega) (by omega)
    cases e7 : rec nd sp (kid sp i k) ch c' d with
    | inl e8 =>
      rw [e7] at g2
      obtain ⟨k7, I7, b7, rc7, f7⟩ := g2
      exact ⟨1 + k4 + 1 + k7, I7, by omega, RQ_tr (RQ_tr (RQ_tr st rc4) st2) rc7, FrK_tr f16 f7⟩
    | inr r2 =>
      obtain ⟨v2, c2'⟩ := r2
      rw [e7] at g2
      obtain ⟨k7, I7, b7, rc7, f7, S7, V7⟩ := g2
      exact ⟨1 + k4 + 1 + k7, I7, by omega, RQ_tr (RQ_tr (RQ_tr st rc4) st2) rc7, FrK_tr f16 f7, S7, V7⟩
end RCH
