/-! making simpler: the reference's steps; traces in the invariant -/
section MST
variable {I : Nat → Nat → Int32} {J : Nat → Nat → Int64} {R : Nat → Nat → Option Nat} {b : GB} {T : Tt}
def Fsk : Nat → Nat → Prop := fun x k => Sm 13540 13640 x k ∨ (x = 4561 ∧ (k = 64 ∨ k = 67)) ∨ x = 4574 ∨ x = 4611 ∨ x = 4612
theorem Sw2_Fsk {I' : Nat → Nat → Int32} (h : FrK Sw2 I I') : FrK Fsk I I' := FrK_mono h (fun x k y => by unfold Sw2 at y; unfold Fsk; rcases y with y | y; exact Or.inl y; exact Or.inr (Or.inl ⟨y.1, Or.inl y.2⟩))
theorem MTb_Fsk {I' : Nat → Nat → Int32} (h : FrK Fsk I I') (hB : MTb I b) : MTb I' b := MTb_keep hB (fun a k y => h a k (by unfold Fsk Sm; omega))
def TrQ (I : Nat → Nat → Int32) (l : List (Nat × Nat)) : Prop := MTr I (trG l)
theorem M_stepWork {l : List (Nat × Nat)} (hR : RA R) (hB : MTb I b) (hO : TbOK b) (hA : WkM I T) (hT : TtO b T) (hn : T.1 ≤ 80) (hl : l.length < 100) (ht : TrQ I l) : QK (f_X12_stepWork (mg 4625 I J R) 4561) (fun r => match stw b T with
    | none => ∃ I', r = (0, mg 4625 I' J R) ∧ FrK Fsk I I' ∧ WkM I' T ∧ TrQ I' l
    | some (k, i, T') => ∃ I', r = (1, mg 4625 I' J R) ∧ FrK Fsk I I' ∧ WkM I' T' ∧ TrQ I' (l ++ [(k, i)])) := by
  unfold f_X12_stepWork
  rw [if_pos ok_4561]
  refine q_bind (M_inOrder hR hA.1 (by omega)) ?_
  rintro _ ⟨I1, rfl, f1, od⟩
  rw [q_let, q_let]
  have e1 : ∀ x j, x ≠ 4574 → I1 x j = I x j := fun x j hx => by rw [f1 x hx]
  have f1' : FrK Fsk I I1 := fun x j y => e1 x j (fun z => y (Or.inr (Or.inr (Or.inl z))))
  have A1 : WkM I1 T := ⟨MT_keep hA.1 (fun a k h1 h2 _ _ => e1 a k (by omega)), by rw [e1 _ _ (by decide)]; exact hA.2⟩
  have B1 := MTb_Fsk f1' hB
  have t1 : TrQ I1 l := MTr_keep ht (fun a k y => e1 a k (by omega))
  have key : ∀ m q, q + m = T.1 → ∀ F, m + 3 ≤ F → QK (xloop f_X12_stepWork_s12 F (4561, (Int32.ofNat (T.1)), 0, (Int32.ofNat (q)), mg 4625 I1 J R)) (fun r => match stL b T m q with
      | none => r = .inr (0, mg 4625 I1 J R)
      | some (k, i, T') => ∃ I', r = .inr ((Int32.ofNat (k)), mg 4625 I' J R) ∧ FrK Fsk I1 I' ∧ WkM I' T' ∧ TrQ I' (l ++ [(k, i)])) := by
    intro m
    induction m with
    | zero =>
      intro q hq F hF
      have stp : f_X12_stepWork_s12 (4561, (Int32.ofNat (T.1)), 0, (Int32.ofNat (q)), mg 4625 I1 J R) = some (.inr (.inl (0, mg 4625 I1 J R))) := by
        unfold f_X12_stepWork_s12
        dsimp only
        rw [q_let, q_let, q_let, q_let, q_let, if_pos ((i32_le (by omega) (by omega)).mpr (by omega))]
      exact ⟨_, xl_e (by omega) stp, rfl⟩
    | succ m ih =>
      intro q hq F hF
      obtain ⟨i0, hi0, e0⟩ := pl_sur hT.1 (show q < T.1 by omega)
      have eo : I1 4574 q = (Int32.ofNat (13540 + i0)) := by
        rw [← e0]
        exact od i0 hi0
      obtain ⟨r, er, hr⟩ := M_ruleAt (J := J) hR B1 hO A1 hT hi0 hn
      rw [stL_c, show ip T q = i0 by rw [← e0]; exact ip_pl hT.1 hi0]
      have pre : ∀ y, (if r.1 ≤ (0 : Int32) then f_X12_stepWork_j75 r.2 4561 (Int32.ofNat (T.1)) r.1 (Int32.ofNat (q)) else (gR r.2 4561 12 65).bind (fun x8 => (gI r.2 4561 12 67).bind (fun x9 => (wI r.2 x8 x9 r.1).bind (fun σ10 => (gR σ10 4561 12 66).bind (fun x11 => (gI σ10 4561 12 67).bind (fun x12 => (wI σ10 x11 x12 ((Int32.ofNat (13540 + i0)) - (13540 : Int32))).bind (fun σ13 => (gI σ13 4561 12 67).bind (fun x14 => (sI σ13 4561 12 67 (x14 + (1 : Int32))).bind (fun σ15 => f_X12_stepWork_j75 σ15 4561 (Int32.ofNat (T.1)) r.1 (Int32.ofNat (q))))))))))) = y → f_X12_stepWork_s12 (4561, (Int32.ofNat (T.1)), 0, (Int32.ofNat (q)), mg 4625 I1 J R) = y := fun y hy => by
        unfold f_X12_stepWork_s12
        dsimp only
        rw [q_let, q_let, q_let, q_let, q_let, if_neg (show ¬ (Int32.ofNat (T.1)) ≤ (Int32.ofNat (q)) from fun y => absurd ((i32_le (by omega) (by omega)).mp y) (by omega)), if_pos rfl, gr_4561_14 hR, ga_4574 (by omega), eo, if_pos ok_4561, er, Option.bind_some]
        exact hy
      cases e : rl b T i0 with
      | none =>
        rw [e] at hr
        have hr : r = (0, mg 4625 I1 J R) := hr
        rw [hr] at pre
        dsimp only at pre
        unfold f_X12_stepWork_j75 at pre
        rw [if_pos (show (0 : Int32) ≤ 0 by decide), q_let, show (Int32.ofNat (q)) + (1 : Int32) = (Int32.ofNat (q + 1)) from n_add q 1] at pre
        rw [xl_s (by omega) (pre _ rfl)]
        exact ih (q + 1) (by omega) (F - 1) (by omega)
      | some w =>
        obtain ⟨k, T'⟩ := w
        rw [e] at hr
        obtain ⟨I2, rfl, f2, A2⟩ := hr
        obtain ⟨-, -, k1, k7⟩ := rl_O hT hO hn hi0 e
        have f2' := Sw2_Fsk f2
        have t2 : I2 4561 67 = (Int32.ofNat (l.length)) := by rw [f2 4561 67 (by unfold Sw2 Sm; omega)]; exact t1.1
        dsimp only at pre
        unfold f_X12_stepWork_j75 at pre
        rw [if_neg (show ¬ (Int32.ofNat (k)) ≤ (0 : Int32) from fun y => absurd ((i32_le (m := 0) (by omega) (by omega)).mp y) (by omega)), gr_4561_65 hR, gi_4561, t2, gw_4611 hl, gr_4561_66 hR, gi_4561, up_n (by omega), t2, show (Int32.ofNat (13540 + i0)) - (13540 : Int32) = (Int32.ofNat (i0)) from (n_sub (b := 13540) (by omega)).trans (by rw [Nat.add_sub_cancel_left]), gw_4612 hl, gi_4561, up_n (by omega), up_n (by omega), t2, gs_4561, show (Int32.ofNat (l.length)) + (1 : Int32) = (Int32.ofNat (l.length + 1)) from n_add _ 1, q_let, show (Int32.ofNat (q)) + (1 : Int32) = (Int32.ofNat (q + 1)) from n_add q 1] at pre
        have st1 := pre _ rfl
        have f3 : FrK Fsk I1 (up (up (up I2 4611 l.length (Int32.ofNat (k))) 4612 l.length (Int32.ofNat (i0))) 4561 67 (Int32.ofNat (l.length + 1))) := fun x j y => by
          have y2 := y
          unfold Fsk at y
          rw [up_n (by omega), up_n (by omega), up_n (by omega)]
          exact f2' x j y2
        have A3 : WkM (up (up (up I2 4611 l.length (Int32.ofNat (k))) 4612 l.length (Int32.ofNat (i0))) 4561 67 (Int32.ofNat (l.length + 1))) T' := ⟨MT_keep A2.1 (fun a k h1 h2 _ _ => by rw [up_n (by omega), up_n (by omega), up_n (by omega)]), by rw [up_n (by omega), up_n (by omega), up_n (by omega)]; exact A2.2⟩
        have t3 : TrQ (up (up (up I2 4611 l.length (Int32.ofNat (k))) 4612 l.length (Int32.ofNat (i0))) 4561 67 (Int32.ofNat (l.length + 1))) (l ++ [(k, i0)]) := by
          refine ⟨?_, fun j hj => ?_⟩
          · show _ = (Int32.ofNat ((l ++ [(k, i0)]).length))
            rw [up_s, List.length_append]
            rfl
          · have hj : j < (l ++ [(k, i0)]).length := hj
            rw [List.length_append] at hj
            have hj : j < l.length + 1 := hj
            show _ = (Int32.ofNat (((l ++ [(k, i0)]).getD j (0, 0)).1)) ∧ _ = (Int32.ofNat (((l ++ [(k, i0)]).getD j (0, 0)).2))
            by_cases z : j < l.length
            · rw [getD_app1 z, up_n (by omega), up_n (by omega), up_n (by omega), up_n (by omega), up_n (by omega), up_n (by omega), f2 4611 j (by unfold Sw2 Sm; omega), f2 4612 j (by unfold Sw2 Sm; omega)]
              exact t1.2 j z
            · have ej : j = l.length := by omega
              rw [ej, getD_app2, up_n (by omega), up_n (by omega), up_s, up_n (by omega), up_s]
              exact ⟨rfl, rfl⟩
        generalize up (up (up I2 4611 l.length (Int32.ofNat (k))) 4612 l.length (Int32.ofNat (i0))) 4561 67 (Int32.ofNat (l.length + 1)) = I3 at *
        have st2 : f_X12_stepWork_s12 (4561, (Int32.ofNat (T.1)), (Int32.ofNat (k)), (Int32.ofNat (q + 1)), mg 4625 I3 J R) = some (.inr (.inl ((Int32.ofNat (k)), mg 4625 I3 J R))) := by
          unfold f_X12_stepWork_s12
          dsimp only
          rw [q_let, q_let, q_let, q_let, q_let]
          by_cases z : (Int32.ofNat (T.1)) ≤ (Int32.ofNat (q + 1))
          · rw [if_pos z]
          · rw [if_neg z, if_neg (show ¬ (Int32.ofNat (k)) = (0 : Int32) from i32_ne (b := 0) (by omega) (by omega) (by omega))]
        rw [xl_s (by omega) st1]
        exact ⟨_, xl_e (by omega) st2, I3, rfl, f3, A3, t3⟩
  refine q_bind (key T.1 0 (by omega) xF (by unfold xF; omega)) ?_
  intro r hr
  have so := fun k i T' => stL_O hT hO hn T.1 0 (by omega) k i T'
  unfold stw
  cases e : stL b T T.1 0 with
  | none =>
    rw [e] at hr
    have hr : r = .inr (0, mg 4625 I1 J R) := hr
    rw [hr]
    simp only [Sum.elim_inr]
    unfold f_X12_stepWork_j81 f_X12_stepWork_j90
    rw [if_pos (show (0 : Int32) ≤ 0 by decide)]
    exact q_ok ⟨I1, rfl, f1', A1, t1⟩
  | some w =>
    obtain ⟨k, i, T'⟩ := w
    rw [e] at hr
    obtain ⟨I2, rfl, f2, A2, t2⟩ := hr
    obtain ⟨-, -, k1, k7, -⟩ := so k i T' e
    simp only [Sum.elim_inr]
    unfold f_X12_stepWork_j81 f_X12_stepWork_j90
    rw [if_neg (show ¬ (Int32.ofNat (k)) ≤ (0 : Int32) from fun y => absurd ((i32_le (m := 0) (by omega) (by omega)).mp y) (by omega))]
    exact q_ok ⟨I2, rfl, FrK_tr f1' f2, A2, t2⟩
theorem M_takeWork {a : Nat} (hR : RA R) (hA : MT I a T.1 T.2.1 T.2.2) (ha : a + T.1 ≤ 13540) (hn : T.1 ≤ 80) : QK (f_X12_takeWork (mg 4625 I J R) 4561 (Int32.ofNat (a))) (fun r => ∃ I', r = mg 4625 I' J R ∧ FrK Sw2 I I' ∧ WkM I' T) := by
  have n0 := hA.2.1.1
  have s0 := hA.2.1.2.2.1
  have e0 := hA.2.2 0 n0
  rw [s0] at e0
  have e0 : I 4569 a = (Int32.ofNat (T.1)) := e0
  unfold f_X12_takeWork
  rw [gr_4561_8 hR, ga_4569 (by omega), e0, gs_4561, gi_4561, up_s, if_pos ok_4561]
  refine q_bind (M_copyNodes (to := 13540) (fr := a) (m := T.1) hR (by omega) (by omega) (by omega)) ?_
  rintro _ ⟨I1, rfl, f1, c1⟩
  refine q_ok ⟨I1, rfl, fun x j y => ?_, ⟨⟨⟨by omega, fun i hi => ?_⟩, hA.2.1, fun i hi => ?_⟩, ?_⟩⟩
  · unfold Sw2 Sm at y
    rw [f1 x j (by unfold Sm; omega), up_n (by omega)]
  · obtain ⟨y1, y2, y3, y4, y5⟩ := hA.1.2 i hi
    rw [c1 4565 i (by omega) (by omega) hi, c1 4566 i (by omega) (by omega) hi, c1 4567 i (by omega) (by omega) hi, c1 4568 i (by omega) (by omega) hi, up_n (by omega), up_n (by omega), up_n (by omega), up_n (by omega)]
    exact ⟨y1, y2, y3, y4, y5⟩
  · rw [c1 4569 i (by omega) (by omega) hi, up_n (by omega)]
    exact hA.2.2 i hi
  · rw [f1 4561 64 (by unfold Sm; omega), up_s]
/-- all steps -/
theorem M_stepsAll {x : Int32} (hR : RA R) (hO : TbOK b) : ∀ (m : Nat) (l : List (Nat × Nat)) (T : Tt) (I : Nat → Nat → Int32), T.1 ≤ m → l.length + T.1 ≤ 80 → MTb I b → WkM I T → TtO b T → TrQ I l → ∀ F, m + 3 ≤ F → QK ((f_X12_stepWork (mg 4625 I J R) 4561).bind (fun p7 => xloop f_X12_simplify_s55 F (4561, x, p7.1, p7.2))) (fun r => ∃ I', r = .inr (4561, x, mg 4625 I' J R) ∧ FrK Fsk I I' ∧ TrQ I' (l ++ (stN b m T).1) ∧ WkM I' (stN b m T).2) := by
  intro m
  induction m with
  | zero =>
    intro l T I hm _ _ _ hT
    have := hT.1.1
    omega
  | succ m ih =>
    intro l T I hm hl hB hA hT ht F hF
    have n1 := hT.1.1
    refine q_bind (M_stepWork hR hB hO hA hT (by omega) (by omega) ht) ?_
    intro r hr
    cases e : stw b T with
    | none =>
      rw [e] at hr
      obtain ⟨I1, rfl, f1, A1, t1⟩ := hr
      have stp : f_X12_simplify_s55 (4561, x, 0, mg 4625 I1 J R) = some (.inr (.inl (4561, x, mg 4625 I1 J R))) := by
        unfold f_X12_simplify_s55
        dsimp only
        rw [q_let, q_let, q_let, q_let, if_pos rfl]
      rw [stN_none e]
      refine ⟨_, xl_e (by omega) stp, I1, rfl, f1, ?_, A1⟩
      rw [List.append_nil]
      exact t1
    | some w =>
      obtain ⟨k, i, T'⟩ := w
      rw [e] at hr
      obtain ⟨I1, rfl, f1, A1, t1⟩ := hr
      obtain ⟨g1, g2, -⟩ := stw_O hT hO (by omega) e
      have el : (l ++ [(k, i)]).length = l.length + 1 := by rw [List.length_append]; rfl
      obtain ⟨_, e3, I3, rfl, f3, t3, A3⟩ := ih (l ++ [(k, i)]) T' I1 (by omega) (by rw [el]; omega) (MTb_Fsk f1 hB) A1 g1 t1 (F - 1) (by omega)
      rw [stN_some e]
      refine ⟨_, ?_, I3, rfl, FrK_tr f1 f3, ?_, A3⟩
      · show xloop f_X12_simplify_s55 F (4561, x, 1, mg 4625 I1 J R) = _
        have un : f_X12_simplify_s55 (4561, x, 1, mg 4625 I1 J R) = (f_X12_stepWork (mg 4625 I1 J R) 4561).bind (fun p8 => some (.inr (.inr (4561, x, p8.1, p8.2)))) := by
          unfold f_X12_simplify_s55
          dsimp only
          rw [q_let, q_let, q_let, q_let, if_neg (by decide), if_pos ok_4561]
        cases es : f_X12_stepWork (mg 4625 I1 J R) 4561 with
        | none =>
          rw [es] at e3
          cases e3
        | some p8 =>
          rw [es, Option.bind_some] at un e3
          rw [xl_s (by omega) un]
          exact e3
      · rw [List.append_assoc] at t3
        exact t3
end MST
section TRC
variable {I I' : Nat → Nat → Int32} {t : GT} {s : GS} {b : GB} {n : GN} {f : GF} {v : GV} {q : Nat → GV} {p : GT} {r r' : GR} {h : GH}
theorem C_traced (H : InvC I t s b n f v q p r h) (e : ∀ x, DC x → x ≠ 0 → x ≠ 4559 → x ≠ 4560 → I' x = I x) (e0 : ∀ k, k ≠ 15 → I' 0 k = I 0 k) (hr : CTr I' r') : InvC I' t s b n f v q p r' h := by
  obtain ⟨h1, h2, h3, h4, h5, h6, h7, h8, h9, h10⟩ := H
  refine ⟨?_, CSh_keep h2 ?_, CTb_keep h3 ?_, CNm_keep h4 ?_, CFn_keep h5 ?_, CV_keep h6 ?_, CKp_keep h7 ?_, CPr_keep h8 ?_, hr, CHs_keep h10 ?_⟩
  case refine_1 =>
    unfold CTy
    rw [e0 1 (by decide), e 10 (by unfold DC; omega) (by decide) (by decide) (by decide)]
    exact h1
  case refine_6 => intro x g1 g2; exact e x (by unfold DC; omega) (by omega) (by omega) (by omega)
  all_goals (intro x g; exact e x (by unfold DC; omega) (by omega) (by omega) (by omega))
theorem M_traced {I0 : Nat → Nat → Int32} (H : InvM I t s b n f v q p r h) (hC : CSh I0 s) (e : ∀ a k, DM a k → ¬ (a = 4561 ∧ k = 67) → a ≠ 4611 → a ≠ 4612 → I' a k = I a k) (hr : MTr I' r') : InvM I' t s b n f v q p r' h := by
  obtain ⟨h1, h2, h3, h4, h5, h6, h7, h8, h9, h10⟩ := H
  refine ⟨MTy_keep h1 ?_, MSh_keep h2 hC.1 ?_ (CSh_80 hC), MTb_keep h3 ?_, MNm_keep h4 ?_, MFn_keep h5 ?_, MV_keep h6 ?_, MKp_keep h7 ?_, MPr_keep h8 ?_, hr, MHs_keep h10 ?_⟩
  case refine_6 => intro k g1 g2; exact e _ k (by unfold DM; omega) (by omega) (by omega) (by omega)
  all_goals (intro a k g; exact e a k (by unfold DM; omega) (by omega) (by omega) (by omega))
theorem TrS_CTr {l : List (Nat × Nat)} (h : TrS I l) (h80 : l.length ≤ 80) : CTr I (trG l) := ⟨h80, h.1, h.2⟩
end TRC
