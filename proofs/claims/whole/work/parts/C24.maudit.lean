/-! audit, the reference's side: parts 2 and 3 -/
section MAU
variable {I : Nat → Nat → Int32} {J : Nat → Nat → Int64} {R : Nat → Nat → Option Nat} {b : GB} {T : Tt}
def Fs0 : Nat → Nat → Prop := fun x k => Sm 13540 13640 x k ∨ (x = 4561 ∧ (k = 64 ∨ k = 67)) ∨ x = 4574 ∨ (x = 4611 ∧ k = 0) ∨ (x = 4612 ∧ k = 0)
theorem Sw2_Fs0 {I' : Nat → Nat → Int32} (h : FrK Sw2 I I') : FrK Fs0 I I' := FrK_mono h (fun x k y => by unfold Sw2 at y; unfold Fs0; rcases y with y | y; exact Or.inl y; exact Or.inr (Or.inl ⟨y.1, Or.inl y.2⟩))
theorem MTb_Fs0 {I' : Nat → Nat → Int32} (h : FrK Fs0 I I') (hB : MTb I b) : MTb I' b := MTb_keep hB (fun a k y => h a k (by unfold Fs0 Sm; omega))
theorem M_stepWork0 {l : List (Nat × Nat)} (hR : RA R) (hB : MTb I b) (hO : TbOK b) (hA : WkM I T) (hT : TtO b T) (hn : T.1 ≤ 80) (hl : l.length < 100) (hl0 : l.length = 0) (ht : TrQ I l) : QK (f_X12_stepWork (mg 4625 I J R) 4561) (fun r => match stw b T with
    | none => ∃ I', r = (0, mg 4625 I' J R) ∧ FrK Fs0 I I' ∧ WkM I' T ∧ TrQ I' l
    | some (k, i, T') => ∃ I', r = (1, mg 4625 I' J R) ∧ FrK Fs0 I I' ∧ WkM I' T' ∧ TrQ I' (l ++ [(k, i)])) := by
  unfold f_X12_stepWork
  rw [if_pos ok_4561]
  refine q_bind (M_inOrder hR hA.1 (by omega)) ?_
  rintro _ ⟨I1, rfl, f1, od⟩
  rw [q_let, q_let]
  have e1 : ∀ x j, x ≠ 4574 → I1 x j = I x j := fun x j hx => by rw [f1 x hx]
  have f1' : FrK Fs0 I I1 := fun x j y => e1 x j (fun z => y (Or.inr (Or.inr (Or.inl z))))
  have A1 : WkM I1 T := ⟨MT_keep hA.1 (fun a k h1 h2 _ _ => e1 a k (by omega)), by rw [e1 _ _ (by decide)]; exact hA.2⟩
  have B1 := MTb_Fs0 f1' hB
  have t1 : TrQ I1 l := MTr_keep ht (fun a k y => e1 a k (by omega))
  have key : ∀ m q, q + m = T.1 → ∀ F, m + 3 ≤ F → QK (xloop f_X12_stepWork_s12 F (4561, (Int32.ofNat (T.1)), 0, (Int32.ofNat (q)), mg 4625 I1 J R)) (fun r => match stL b T m q with
      | none => r = .inr (0, mg 4625 I1 J R)
      | some (k, i, T') => ∃ I', r = .inr ((Int32.ofNat (k)), mg 4625 I' J R) ∧ FrK Fs0 I1 I' ∧ WkM I' T' ∧ TrQ I' (l ++ [(k, i)])) := by
    intro m
    induction m with
    | zero =>
      intro q hq F hF
      have stp : f_X12_stepWork_s12 (4561, (Int32.ofNat (T.1)), 0, (Int32.ofNat (q)), mg 4625 I1 J R) = some (.inr (.inl (0, mg 4625 I1 J R))) := by
        unfold f_X12_stepWork_s12
        dsimp only
        rw [q_let, q_let, q_let, q_let, q_let, if_pos ((i32_le (by omega) (by omega)).mpr (by omega))]
      exact ⟨_, xl_e (by omega) stp, rfl⟩
    | succ m ih =>
      intro q hq F hF
      obtain ⟨i0, hi0, e0⟩ := pl_sur hT.1 (show q < T.1 by omega)
      have eo : I1 4574 q = (Int32.ofNat (13540 + i0)) := by
        rw [← e0]
        exact od i0 hi0
      obtain ⟨r, er, hr⟩ := M_ruleAt (J := J) hR B1 hO A1 hT hi0 hn
      rw [stL_c, show ip T q = i0 by rw [← e0]; exact ip_pl hT.1 hi0]
      have pre : ∀ y, (if r.1 ≤ (0 : Int32) then f_X12_stepWork_j75 r.2 4561 (Int32.ofNat (T.1)) r.1 (Int32.ofNat (q)) else (gR r.2 4561 12 65).bind (fun x8 => (gI r.2 4561 12 67).bind (fun x9 => (wI r.2 x8 x9 r.1).bind (fun σ10 => (gR σ10 4561 12 66).bind (fun x11 => (gI σ10 4561 12 67).bind (fun x12 => (wI σ10 x11 x12 ((Int32.ofNat (13540 + i0)) - (13540 : Int32))).bind (fun σ13 => (gI σ13 4561 12 67).bind (fun x14 => (sI σ13 4561 12 67 (x14 + (1 : Int32))).bind (fun σ15 => f_X12_stepWork_j75 σ15 4561 (Int32.ofNat (T.1)) r.1 (Int32.ofNat (q))))))))))) = y → f_X12_stepWork_s12 (4561, (Int32.ofNat (T.1)), 0, (Int32.ofNat (q)), mg 4625 I1 J R) = y := fun y hy => by
        unfold f_X12_stepWork_s12
        dsimp only
        rw [q_let, q_let, q_let, q_let, q_let, if_neg (show ¬ (Int32.ofNat (T.1)) ≤ (Int32.ofNat (q)) from fun y => absurd ((i32_le (by omega) (by omega)).mp y) (by omega)), if_pos rfl, gr_4561_14 hR, ga_4574 (by omega), eo, if_pos ok_4561, er, Option.bind_some]
        exact hy
      cases e : rl b T i0 with
      | none =>
        rw [e] at hr
        have hr : r = (0, mg 4625 I1 J R) := hr
        rw [hr] at pre
        dsimp only at pre
        unfold f_X12_stepWork_j75 at pre
        rw [if_pos (show (0 : Int32) ≤ 0 by decide), q_let, show (Int32.ofNat (q)) + (1 : Int32) = (Int32.ofNat (q + 1)) from n_add q 1] at pre
        rw [xl_s (by omega) (pre _ rfl)]
        exact ih (q + 1) (by omega) (F - 1) (by omega)
      | some w =>
        obtain ⟨k, T'⟩ := w
        rw [e] at hr
        obtain ⟨I2, rfl, f2, A2⟩ := hr
        obtain ⟨-, -, k1, k7⟩ := rl_O hT hO hn hi0 e
        have f2' := Sw2_Fs0 f2
        have t2 : I2 4561 67 = (Int32.ofNat (l.length)) := by rw [f2 4561 67 (by unfold Sw2 Sm; omega)]; exact t1.1
        dsimp only at pre
        unfold f_X12_stepWork_j75 at pre
        rw [if_neg (show ¬ (Int32.ofNat (k)) ≤ (0 : Int32) from fun y => absurd ((i32_le (m := 0) (by omega) (by omega)).mp y) (by omega)), gr_4561_65 hR, gi_4561, t2, gw_4611 hl, gr_4561_66 hR, gi_4561, up_n (by omega), t2, show (Int32.ofNat (13540 + i0)) - (13540 : Int32) = (Int32.ofNat (i0)) from (n_sub (b := 13540) (by omega)).trans (by rw [Nat.add_sub_cancel_left]), gw_4612 hl, gi_4561, up_n (by omega), up_n (by omega), t2, gs_4561, show (Int32.ofNat (l.length)) + (1 : Int32) = (Int32.ofNat (l.length + 1)) from n_add _ 1, q_let, show (Int32.ofNat (q)) + (1 : Int32) = (Int32.ofNat (q + 1)) from n_add q 1] at pre
        have st1 := pre _ rfl
        have f3 : FrK Fs0 I1 (up (up (up I2 4611 l.length (Int32.ofNat (k))) 4612 l.length (Int32.ofNat (i0))) 4561 67 (Int32.ofNat (l.length + 1))) := fun x j y => by
          have y2 := y
          unfold Fs0 at y
          rw [up_n (by omega), up_n (by omega), up_n (by omega)]
          exact f2' x j y2
        have A3 : WkM (up (up (up I2 4611 l.length (Int32.ofNat (k))) 4612 l.length (Int32.ofNat (i0))) 4561 67 (Int32.ofNat (l.length + 1))) T' := ⟨MT_keep A2.1 (fun a k h1 h2 _ _ => by rw [up_n (by omega), up_n (by omega), up_n (by omega)]), by rw [up_n (by omega), up_n (by omega), up_n (by omega)]; exact A2.2⟩
        have t3 : TrQ (up (up (up I2 4611 l.length (Int32.ofNat (k))) 4612 l.length (Int32.ofNat (i0))) 4561 67 (Int32.ofNat (l.length + 1))) (l ++ [(k, i0)]) := by
          refine ⟨?_, fun j hj => ?_⟩
          · show _ = (Int32.ofNat ((l ++ [(k, i0)]).length))
            rw [up_s, List.length_append]
            rfl
          · have hj : j < (l ++ [(k, i0)]).length := hj
            rw [List.length_append] at hj
            have hj : j < l.length + 1 := hj
            show _ = (Int32.ofNat (((l ++ [(k, i0)]).getD j (0, 0)).1)) ∧ _ = (Int32.ofNat (((l ++ [(k, i0)]).getD j (0, 0)).2))
            by_cases z : j < l.length
            · rw [getD_app1 z, up_n (by omega), up_n (by omega), up_n (by omega), up_n (by omega), up_n (by omega), up_n (by omega), f2 4611 j (by unfold Sw2 Sm; omega), f2 4612 j (by unfold Sw2 Sm; omega)]
              exact t1.2 j z
            · have ej : j = l.length := by omega
              rw [ej, getD_app2, up_n (by omega), up_n (by omega), up_s, up_n (by omega), up_s]
              exact ⟨rfl, rfl⟩
        generalize up (up (up I2 4611 l.length (Int32.ofNat (k))) 4612 l.length (Int32.ofNat (i0))) 4561 67 (Int32.ofNat (l.length + 1)) = I3 at *
        have st2 : f_X12_stepWork_s12 (4561, (Int32.ofNat (T.1)), (Int32.ofNat (k)), (Int32.ofNat (q + 1)), mg 4625 I3 J R) = some (.inr (.inl ((Int32.ofNat (k)), mg 4625 I3 J R))) := by
          unfold f_X12_stepWork_s12
          dsimp only
          rw [q_let, q_let, q_let, q_let, q_let]
          by_cases z : (Int32.ofNat (T.1)) ≤ (Int32.ofNat (q + 1))
          · rw [if_pos z]
          · rw [if_neg z, if_neg (show ¬ (Int32.ofNat (k)) = (0 : Int32) from i32_ne (b := 0) (by omega) (by omega) (by omega))]
        rw [xl_s (by omega) st1]
        exact ⟨_, xl_e (by omega) st2, I3, rfl, f3, A3, t3⟩
  refine q_bind (key T.1 0 (by omega) xF (by unfold xF; omega)) ?_
  intro r hr
  have so := fun k i T' => stL_O hT hO hn T.1 0 (by omega) k i T'
  unfold stw
  cases e : stL b T T.1 0 with
  | none =>
    rw [e] at hr
    have hr : r = .inr (0, mg 4625 I1 J R) := hr
    rw [hr]
    simp only [Sum.elim_inr]
    unfold f_X12_stepWork_j81 f_X12_stepWork_j90
    rw [if_pos (show (0 : Int32) ≤ 0 by decide)]
    exact q_ok ⟨I1, rfl, f1', A1, t1⟩
  | some w =>
    obtain ⟨k, i, T'⟩ := w
    rw [e] at hr
    obtain ⟨I2, rfl, f2, A2, t2⟩ := hr
    obtain ⟨-, -, k1, k7, -⟩ := so k i T' e
    simp only [Sum.elim_inr]
    unfold f_X12_stepWork_j81 f_X12_stepWork_j90
    rw [if_neg (show ¬ (Int32.ofNat (k)) ≤ (0 : Int32) from fun y => absurd ((i32_le (m := 0) (by omega) (by omega)).mp y) (by omega))]
    exact q_ok ⟨I2, rfl, FrK_tr f1' f2, A2, t2⟩
theorem M_simplerLoop {l2 l3 l4 l5 : Int32} (hR : RA R) (hO : TbOK b) : ∀ (m : Nat) (T : Tt) (I : Nat → Nat → Int32), T.1 ≤ m → T.1 ≤ 80 → MTb I b → WkM I T → TtO b T → ∀ F, m + 3 ≤ F → QK (xloop f_X12_isSimpler_s47 F (4561, l2, l3, l4, l5, 1, 1, mg 4625 I J R)) (fun x => ∃ I', x = .inr (4561, l2, l3, l4, l5, 1, mg 4625 I' J R) ∧ FrK Fs0 I I' ∧ WkM I' (stN b m T).2) := by
  intro m
  induction m with
  | zero =>
    intro T I h1 _ _ _ hT
    have := hT.1.1
    omega
  | succ m ih =>
    intro T I h1 h80 hB hA hT F hF
    have f1 : FrK Fs0 I (up I 4561 67 0) := FrK_up FrK_rfl (by unfold Fs0 Sm; omega)
    have t1 : TrQ (up I 4561 67 0) [] := ⟨by rw [up_s]; rfl, fun j hj => absurd hj (Nat.not_lt_zero _)⟩
    have A1 : WkM (up I 4561 67 0) T := ⟨MT_keep hA.1 (fun a k h1 h2 _ _ => up_n (by omega)), by rw [up_n (by omega)]; exact hA.2⟩
    have B1 := MTb_Fs0 f1 hB
    obtain ⟨r, er, hr⟩ := M_stepWork0 (J := J) hR B1 hO A1 hT h80 (by decide) rfl t1
    have pre : f_X12_isSimpler_s47 (4561, l2, l3, l4, l5, 1, 1, mg 4625 I J R) = (if r.1 = (0 : Int32) then f_X12_isSimpler_j88 r.2 4561 l2 l3 l4 l5 r.1 else (gI r.2 4561 12 64).bind (fun x14 => (if (Int32.ofNat (T.1)) ≤ x14 then f_X12_isSimpler_j92 r.2 4561 l2 l3 l4 l5 r.1 else f_X12_isSimpler_j88 r.2 4561 l2 l3 l4 l5 r.1))) := by
      unfold f_X12_isSimpler_s47
      dsimp only
      rw [q_let, q_let, q_let, q_let, q_let, q_let, q_let, q_let, if_neg (by decide), gi_4561, hA.2, gs_4561, if_pos ok_4561, er, Option.bind_some, if_neg (by decide)]
    cases e : stw b T with
    | none =>
      rw [e] at hr
      obtain ⟨I2, rfl, f2, A2, -⟩ := hr
      rw [if_pos rfl] at pre
      unfold f_X12_isSimpler_j88 f_X12_isSimpler_j93 at pre
      have en : f_X12_isSimpler_s47 (4561, l2, l3, l4, l5, 1, 0, mg 4625 I2 J R) = some (.inr (.inl (4561, l2, l3, l4, l5, 1, mg 4625 I2 J R))) := by
        unfold f_X12_isSimpler_s47
        dsimp only
        rw [q_let, q_let, q_let, q_let, q_let, q_let, q_let, q_let, if_pos rfl]
      rw [xl_s (by omega) pre, stN_none e]
      exact ⟨_, xl_e (by omega) en, I2, rfl, FrK_tr f1 f2, A2⟩
    | some w =>
      obtain ⟨k, i, T'⟩ := w
      rw [e] at hr
      obtain ⟨I2, rfl, f2, A2, -⟩ := hr
      obtain ⟨g1, g2, -⟩ := stw_O hT hO h80 e
      rw [if_neg (show ¬ ((1 : Int32), mg 4625 I2 J R).1 = 0 from fun y => absurd (show (1 : Int32) = 0 from y) (by decide))] at pre
      dsimp only at pre
      rw [gi_4561, A2.2, if_neg (show ¬ (Int32.ofNat (T.1)) ≤ (Int32.ofNat (T'.1)) from fun y => absurd ((i32_le (by omega) (by omega)).mp y) (by omega))] at pre
      unfold f_X12_isSimpler_j88 f_X12_isSimpler_j93 at pre
      rw [xl_s (by omega) pre, stN_some e]
      obtain ⟨x, ex, I3, e3, f3, A3⟩ := ih T' I2 (by omega) (by omega) (MTb_Fs0 (FrK_tr f1 f2) hB) A2 g1 (F - 1) (by omega)
      exact ⟨x, ex, I3, e3, FrK_tr (FrK_tr f1 f2) f3, A3⟩
end MAU
theorem Gd_cross {v w : GV} (hv : Gd v) (hw : Gd w) : v.1 * w.2 - w.1 * v.2 = 0 ↔ v = w := by
  constructor
  · intro h
    obtain ⟨e1, -⟩ := Gd_gv hv
    obtain ⟨e2, -⟩ := Gd_gv hw
    have : mkRat v.1 v.2 = mkRat w.1 w.2 := (Rat.mkRat_eq_iff (by have := hv.2.1; omega) (by have := hw.2.1; omega)).mpr (by omega)
    rw [← e1, ← e2, this]
  · rintro rfl
    omega
def Fam : Nat → Nat → Prop := fun x k => 4561 ≤ x ∧ ¬ DM x k ∧ ¬ (x = 4561 ∧ k = 0)
section MAV
variable {I : Nat → Nat → Int32} {J : Nat → Nat → Int64} {R : Nat → Nat → Option Nat} {t : GT} {s : GS} {b : GB} {n : GN} {f : GF} {v : GV} {q : Nat → GV} {p : GT} {r : GR} {h : GH} {β : Type}
theorem Fx_am {I' : Nat → Nat → Int32} (hF : FrK (Fx 0 0 0) I I') : FrK Fam I I' := FrK_mono hF (fun x k y => by unfold Fx at y; unfold Fam DM; omega)
theorem InvM_am {I' : Nat → Nat → Int32} (H : InvM I t s b n f v q p r h) (hC : CSh I' s) (hF : FrK Fam I I') : InvM I' t s b n f v q p r h := InvM_keep H hC.1 (CSh_80 hC) (fun a k hx => hF a k (fun y => y.2.1 hx))
theorem CSh_am {I' : Nat → Nat → Int32} (H : CSh I s) (hF : FrK Fam I I') : CSh I' s := CSh_keep H (fun x hx => funext (fun k => hF x k (fun y => by unfold Fam at y; omega)))
/-- what an audit of the reference leaves -/
def Aum (J : Nat → Nat → Int64) (R : Nat → Nat → Option Nat) (I : Nat → Nat → Int32) (o : Int32) (y : Int32 × xM) : Prop := ∃ I', FrK Fam I I' ∧ y = (o, mg 4625 I' J R)
theorem M_same {a : Nat} {v w : GV} {F : Int32 × xM → Option (Int32 × xM)} {Q : Int32 × xM → Prop} (hR : RA R) (ha : a < 3700) (h1 : MV I 3606 v) (h2 : MV I a w) (gv : Gd v) (gw : Gd w) (hF : ∀ y I', FrK Fam I I' → (y = 0 ↔ v = w) → QK (F (y, mg 4625 I' J R)) Q) : QK ((f_X12_compareValues (mg 4625 I J R) 4561 3606 (Int32.ofNat (a))).bind F) Q := by
  refine q_bind (M_cmp (a := 3606) (b := a) hR (by omega) ha h1 h2) ?_
  rintro _ ⟨I', y, rfl, r1, v1, hy⟩
  refine hF y I' (fun x k z => ?_) ?_
  · by_cases w : x = 4564
    · rw [w, v1]
    · rw [r1.1 x (fun u => z (by unfold Fam DM; omega))]
  · rw [← Gd_cross gv gw]
    rcases hy with ⟨a1, a2⟩ | ⟨a1, a2⟩ | ⟨a1, a2⟩
    · constructor
      · intro w
        rw [w] at a2
        exact absurd a2 (by decide)
      · intro w
        omega
    · exact ⟨fun _ => a1, fun _ => a2⟩
    · constructor
      · intro w
        rw [w] at a2
        exact absurd a2 (by decide)
      · intro w
        omega
theorem M_isSlope {k nm : Nat} (hR : RA R) (hM : InvM I t s b n f v q p r h) (hC : CSh I s) (hE : EnvOK b n f s) (hk : k < s.1) (hT : TtO b (shT s k)) (hnm : nm < 123) : QK (f_X12_isSlope (mg 4625 I J R) 4561 (Int32.ofNat (80 * k)) (Int32.ofNat (nm))) (Aum J R I (daT b n f s (shT s k) nm)) := by
  have h30 := hC.1
  have s80 : (shT s k).1 ≤ 80 := CSh_80 hC k hk
  have hO : TbOK b := hE.1
  have hg : ∀ l, l < 26 → Gd (n.2 l) := hE.2.2.2.1
  unfold f_X12_isSlope
  rw [if_pos ok_4561]
  refine q_bind (M_derives (T := shT s k) (nm := nm) hR (hM.2.1.2 k hk).2 hM.2.2.1 hO hT s80 (by show 80 * k + s.2.1 k ≤ 13740; have : s.2.1 k ≤ 80 := s80; omega) (by omega)) ?_
  rintro z ⟨I1, f1, hz⟩
  have f1 : FrK Fam I I1 := FrK_mono f1 (fun x j y => by unfold Fdv Sm at y; unfold Fam DM; omega)
  have hC1 := CSh_am hC f1
  have hM1 := InvM_am hM hC1 f1
  unfold f_X12_isSlope_j22
  rcases hz with ⟨ht, A, eA, rfl, mA⟩ | ⟨nt, rfl⟩
  rotate_left
  · have es : daT b n f s (shT s k) nm = 1 := by
      unfold daT
      by_cases ht : ∀ i, i < (shT s k).1 → told b (shT s k) i
      · rw [@if_pos _ (Classical.propDecidable _) ht]
        cases e : dvF b (shT s k) nm 200 0 with
        | none => rfl
        | some A => exact absurd ⟨ht, A, e⟩ nt
      · rw [@if_neg _ (Classical.propDecidable _) ht]
    rw [if_pos rfl, es]
    exact q_ok ⟨I1, f1, rfl⟩
  have A80 : A.length ≤ 80 := dvF_len eA
  have hTA : TtO b (A.length, nlN A, spL A) := dv_TtO hO hT s80 ht eA
  have ro : RO 0 (evT b n f s (nlN A) (spL A)) := evT_RO hE hTA A80
  have ds : daT b n f s (shT s k) nm = (match evT b n f s (nlN A) (spL A) with
    | .inl _ => 1
    | .inr (v, _) => match slF b n nm (shT s k) 100 0 with
      | .inl _ => 1
      | .inr (_, w) => eqV v w) := by
    unfold daT
    rw [@if_pos _ (Classical.propDecidable _) ht, eA]
    rfl
  have nn : ¬ (Int32.ofNat (A.length)) = (-1 : Int32) := fun w => by
    have := i32_0le (k := A.length) (by omega)
    rw [w] at this
    exact absurd this (by decide)
  rw [if_neg nn, if_pos ok_4561, show (13740 : Int32) = (Int32.ofNat (13740)) from rfl]
  refine q_bind (M_run hR (MEnv_of hM1 hE) mA hTA A80) ?_
  rintro y ⟨I2, f2, hy⟩
  have f12 := FrK_tr f1 (Fx_am f2)
  have hC2 := CSh_am hC f12
  have hM2 := InvM_am hM hC2 f12
  rw [ds]
  cases e : evT b n f s (nlN A) (spL A) with
  | inl er =>
    rw [e] at hy ro
    have hy : y = ((Int32.ofNat (er)), mg 4625 I2 J R) := hy
    have ro : 1 ≤ er ∧ er ≤ 10 := ro
    rw [hy, if_neg (show ¬ ((Int32.ofNat (er)), mg 4625 I2 J R).1 = (0 : Int32) from i32_ne (b := 0) (by omega) (by omega) (by omega))]
    exact q_ok ⟨I2, f12, rfl⟩
  | inr z =>
    obtain ⟨w, c⟩ := z
    rw [e] at hy ro
    obtain ⟨rfl, V2⟩ : y = (0, mg 4625 I2 J R) ∧ MV I2 60 w := hy
    have gw : Gd w := ro.2.2
    dsimp only
    rw [if_pos rfl, if_pos ok_4561]
    refine q_bind (M_copy (a := 3606) (b := 60) hR (by omega) (by omega) (by omega) V2) ?_
    rintro _ ⟨I3, rfl, r3, -, -, kv3, V3⟩
    have f3 : FrK Fam I2 I3 := fun x j y => by
      by_cases w : x = 4564
      · subst w
        exact kv3 j (fun z => y (by unfold Fam DM; omega))
      · rw [r3.1 x (fun u => y (by unfold Fam DM; omega))]
    have f13 := FrK_tr f12 f3
    have hC3 := CSh_am hC f13
    have hM3 := InvM_am hM hC3 f13
    rw [if_pos ok_4561]
    refine q_bind (M_slopes (T := shT s k) (nm := nm) hR hO hg hT s80 ht (by omega) hM3.2.2.1 hM3.2.2.2.1 (hM3.2.1.2 k hk).2) ?_
    rintro z ⟨I4, f4, hz⟩
    have f4' : FrK Fam I3 I4 := FrK_mono f4 (fun x j y => by unfold Frp at y; unfold Fam DM; omega)
    have f14 := FrK_tr f13 f4'
    have V4 : MV I4 3606 w := MV_keep V3 (fun j g1 g2 => f4 4564 j (by unfold Frp; omega))
    unfold f_X12_isSlope_j56 f_X12_isSlope_j61
    rcases hz with ⟨v0, w2, e2, rfl, V5⟩ | ⟨er, e2, q1, q2, rfl⟩
    · have gw2 : Gd w2 := by
        have := slF_O (nm := nm) hO hT ht hg 100 0 hT.1.1
        rw [e2] at this
        exact this.2.1
      rw [e2]
      dsimp only
      rw [if_pos rfl, show f_X12_partAt (mg 4625 I4 J R) 0 = some (Int32.ofNat (2501 + 2 * 0)) from pAt, Option.bind_some, if_pos ok_4561]
      refine M_same (a := 2501 + 2 * 0) hR (by omega) V4 V5 gw gw2 (fun y I5 f5 hy => ?_)
      dsimp only
      by_cases z : w = w2
      · rw [if_pos (hy.mpr z), show eqV w w2 = 1 from if_pos z]
        exact q_ok ⟨I5, FrK_tr f14 f5, rfl⟩
      · rw [if_neg (fun u => z (hy.mp u)), show eqV w w2 = 0 from if_neg z]
        exact q_ok ⟨I5, FrK_tr f14 f5, rfl⟩
    · rw [e2]
      dsimp only
      rw [if_neg (show ¬ (Int32.ofNat (er)) = (0 : Int32) from i32_ne (b := 0) (by omega) (by omega) (by omega))]
      exact q_ok ⟨I4, f14, rfl⟩
theorem M_isSimpler {k : Nat} (hR : RA R) (hM : InvM I t s b n f v q p r h) (hC : CSh I s) (hE : EnvOK b n f s) (hk : k < s.1) (hT : TtO b (shT s k)) : QK (f_X12_isSimpler (mg 4625 I J R) 4561 (Int32.ofNat (80 * k))) (Aum J R I (saT b n f s (shT s k))) := by
  have h30 := hC.1
  have s80 : (shT s k).1 ≤ 80 := CSh_80 hC k hk
  have hO : TbOK b := hE.1
  have ro : RO 0 (evT b n f s (s.2.2.1 k) (s.2.2.2 k)) := evT_RO hE hT s80
  obtain ⟨o1, o2, -⟩ := stN_O hO 80 (shT s k) hT s80
  unfold f_X12_isSimpler
  have g1 : ∀ {I : Nat → Nat → Int32} {F : Int32 → Option (Int32 × xM)}, (aI (mg 4625 I J R) 4611 14 (0 : Int32)).bind F = F (I 4611 0) := fun {I F} => ga_4611 (k := 0) (by omega)
  have g2 : ∀ {I : Nat → Nat → Int32} {F : Int32 → Option (Int32 × xM)}, (aI (mg 4625 I J R) 4612 14 (0 : Int32)).bind F = F (I 4612 0) := fun {I F} => ga_4612 (k := 0) (by omega)
  have g3 : ∀ {I : Nat → Nat → Int32} {v : Int32} {F : xM → Option (Int32 × xM)}, (wI (mg 4625 I J R) 4611 (0 : Int32) v).bind F = F (mg 4625 (up I 4611 0 v) J R) := fun {I v F} => gw_4611 (k := 0) (by omega)
  have g4 : ∀ {I : Nat → Nat → Int32} {v : Int32} {F : xM → Option (Int32 × xM)}, (wI (mg 4625 I J R) 4612 (0 : Int32) v).bind F = F (mg 4625 (up I 4612 0 v) J R) := fun {I v F} => gw_4612 (k := 0) (by omega)
  rw [gi_4561, gr_4561_65 hR, g1, gr_4561_66 hR, g2, if_pos ok_4561]
  refine q_bind (M_run hR (MEnv_of hM hE) (hM.2.1.2 k hk).2 hT s80) ?_
  rintro y ⟨I1, f1, hy⟩
  have f1 := Fx_am f1
  have ey : y.2 = mg 4625 I1 J R := by
    cases e : evT b n f s (s.2.2.1 k) (s.2.2.2 k) with
    | inl er =>
      rw [e] at hy
      have hy : y = ((Int32.ofNat (er)), mg 4625 I1 J R) := hy
      rw [hy]
    | inr z =>
      obtain ⟨w, c⟩ := z
      rw [e] at hy
      have hy : y = (0, mg 4625 I1 J R) ∧ MV I1 60 w := hy
      rw [hy.1]
  rw [ey, if_pos ok_4561]
  refine q_bind (M_copyRaw (a := 3606) (b := 60) hR (by omega) (by omega) (by omega)) ?_
  rintro _ ⟨I2, rfl, r2, -, -, kv2, cp⟩
  have f2 : FrK Fam I1 I2 := fun x j y => by
    by_cases w : x = 4564
    · subst w
      exact kv2 j (fun z => y (by unfold Fam DM; omega))
    · rw [r2.1 x (fun u => y (by unfold Fam DM; omega))]
  have f12 := FrK_tr f1 f2
  have hC2 := CSh_am hC f12
  have hM2 := InvM_am hM hC2 f12
  rw [if_pos ok_4561]
  refine q_bind (M_takeWork (T := shT s k) hR (hM2.2.1.2 k hk).2 (by show 80 * k + s.2.1 k ≤ 13540; have : s.2.1 k ≤ 80 := s80; omega) s80) ?_
  rintro _ ⟨I3, rfl, f3, A3⟩
  rw [q_let, q_let]
  have B3 : MTb I3 b := MTb_Fs0 (Sw2_Fs0 f3) hM2.2.2.1
  refine q_bind (M_simplerLoop hR hO 80 (shT s k) I3 s80 s80 B3 A3 hT xF (by unfold xF; omega)) ?_
  rintro _ ⟨I4, rfl, f4, A4⟩
  simp only [Sum.elim_inr]
  unfold f_X12_isSimpler_j98
  rw [gs_4561, gr_4561_65 hR, g3, gr_4561_66 hR, g4, if_pos ok_4561]
  have f24 : FrK Fs0 I2 I4 := FrK_tr (Sw2_Fs0 f3) f4
  have f5 : FrK Fam I (up (up (up I4 4561 67 (I 4561 67)) 4611 0 (I 4611 0)) 4612 0 (I 4612 0)) := fun x j y => by
    by_cases c1 : x = 4612 ∧ j = 0
    · rw [c1.1, c1.2, up_s]
    rw [up_n (by omega)]
    by_cases c2 : x = 4611 ∧ j = 0
    · rw [c2.1, c2.2, up_s]
    rw [up_n (by omega)]
    by_cases c3 : x = 4561 ∧ j = 67
    · rw [c3.1, c3.2, up_s]
    rw [up_n (by omega), f24 x j (fun w => y (by unfold Fs0 Sm at w; unfold Fam DM; omega))]
    exact f12 x j y
  have A5 : MT (up (up (up I4 4561 67 (I 4561 67)) 4611 0 (I 4611 0)) 4612 0 (I 4612 0)) 13540 (stN b 80 (shT s k)).2.1 (stN b 80 (shT s k)).2.2.1 (stN b 80 (shT s k)).2.2.2 := MT_keep A4.1 (fun a k g1 g2 _ _ => by rw [up_n (by omega), up_n (by omega), up_n (by omega)])
  have W5 : ∀ j, 100968 ≤ j → j < 100996 → up (up (up I4 4561 67 (I 4561 67)) 4611 0 (I 4611 0)) 4612 0 (I 4612 0) 4564 j = I2 4564 j := fun j g1 g2 => by
    rw [up_n (by omega), up_n (by omega), up_n (by omega), f24 4564 j (by unfold Fs0 Sm; omega)]
  generalize up (up (up I4 4561 67 (I 4561 67)) 4611 0 (I 4611 0)) 4612 0 (I 4612 0) = I5 at *
  have hC5 := CSh_am hC f5
  have hM5 := InvM_am hM hC5 f5
  have ro2 := evT_RO hE o1 (show (stN b 80 (shT s k)).2.1 ≤ 80 by omega)
  rw [show (13540 : Int32) = (Int32.ofNat (13540)) from rfl]
  refine q_bind (M_run hR (MEnv_of hM5 hE) A5 o1 (by omega)) ?_
  rintro z ⟨I6, f6, hz⟩
  have f56 := FrK_tr f5 (Fx_am f6)
  rw [if_neg (by decide)]
  unfold f_X12_isSimpler_j154 f_X12_isSimpler_j158 f_X12_isSimpler_j159
  cases e : evT b n f s (s.2.2.1 k) (s.2.2.2 k) with
  | inl er =>
    rw [e] at hy ro
    have hy : y = ((Int32.ofNat (er)), mg 4625 I1 J R) := hy
    have ro : 1 ≤ er ∧ er ≤ 10 := ro
    have es : saT b n f s (shT s k) = 1 := by
      unfold saT
      rw [show evT b n f s (shT s k).2.1 (shT s k).2.2 = _ from e]
    have ez : z.2 = mg 4625 I6 J R := by
      cases e' : evT b n f s (stN b 80 (shT s k)).2.2.1 (stN b 80 (shT s k)).2.2.2 with
      | inl e2 =>
        rw [e'] at hz
        have hz : z = ((Int32.ofNat (e2)), mg 4625 I6 J R) := hz
        rw [hz]
      | inr z2 =>
        obtain ⟨w, c⟩ := z2
        rw [e'] at hz
        have hz : z = (0, mg 4625 I6 J R) ∧ MV I6 60 w := hz
        rw [hz.1]
    rw [hy, if_neg (show ¬ ((Int32.ofNat (er)), mg 4625 I1 J R).1 = (0 : Int32) from i32_ne (b := 0) (by omega) (by omega) (by omega)), es, ez]
    exact q_ok ⟨I6, f56, rfl⟩
  | inr z1 =>
    obtain ⟨w, c⟩ := z1
    rw [e] at hy ro
    obtain ⟨hy1, V1⟩ : y = (0, mg 4625 I1 J R) ∧ MV I1 60 w := hy
    have gw : Gd w := ro.2.2
    have V2 : MV I2 3606 w := Vv_copy V1 cp
    have V5 : MV I5 3606 w := MV_keep V2 (fun j g1 g2 => W5 j (by omega) (by omega))
    have V6 : MV I6 3606 w := MV_keep V5 (fun j g1 g2 => f6 4564 j (by unfold Fx; omega))
    rw [hy1, if_pos rfl]
    cases e' : evT b n f s (stN b 80 (shT s k)).2.2.1 (stN b 80 (shT s k)).2.2.2 with
    | inl e2 =>
      rw [e'] at hz ro2
      have hz : z = ((Int32.ofNat (e2)), mg 4625 I6 J R) := hz
      have ro2 : 1 ≤ e2 ∧ e2 ≤ 10 := ro2
      have es : saT b n f s (shT s k) = 1 := by
        unfold saT
        rw [show evT b n f s (shT s k).2.1 (shT s k).2.2 = _ from e]
        dsimp only
        rw [e']
      rw [hz, if_neg (show ¬ ((Int32.ofNat (e2)), mg 4625 I6 J R).1 = (0 : Int32) from i32_ne (b := 0) (by omega) (by omega) (by omega)), es]
      exact q_ok ⟨I6, f56, rfl⟩
    | inr z2 =>
      obtain ⟨w2, c2⟩ := z2
      rw [e'] at hz ro2
      obtain ⟨rfl, V7⟩ : z = (0, mg 4625 I6 J R) ∧ MV I6 60 w2 := hz
      have gw2 : Gd w2 := ro2.2.2
      have es : saT b n f s (shT s k) = eqV w w2 := by
        unfold saT
        rw [show evT b n f s (shT s k).2.1 (shT s k).2.2 = _ from e]
        dsimp only
        rw [e']
      rw [if_pos rfl, if_pos ok_4561, es, show (60 : Int32) = (Int32.ofNat (60)) from rfl]
      refine M_same (a := 60) hR (by omega) V6 V7 gw gw2 (fun y I7 f7 hy => ?_)
      dsimp only
      by_cases zz : w = w2
      · rw [if_pos (hy.mpr zz), show eqV w w2 = 1 from if_pos zz]
        exact q_ok ⟨I7, FrK_tr f56 f7, rfl⟩
      · rw [if_neg (fun u => zz (hy.mp u)), show eqV w w2 = 0 from if_neg zz]
        exact q_ok ⟨I7, FrK_tr f56 f7, rfl⟩
end MAV
