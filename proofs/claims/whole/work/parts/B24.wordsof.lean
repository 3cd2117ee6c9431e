/-! the reference spells a tree -/
def Ftk : Nat → Nat → Prop := fun a k => (a = 4561 ∧ k = 45) ∨ a = 4596 ∨ a = 4597
def Fwo : Nat → Nat → Prop := fun a k => (a = 4561 ∧ (k = 25 ∨ k = 45)) ∨ (4579 ≤ a ∧ a ≤ 4583) ∨ (4596 ≤ a ∧ a ≤ 4598)
theorem kM_small (k : Nat) : kM k ≠ 10 ∧ kM k ≠ 11 ∧ kM k ≠ 12 := by
  unfold kM
  repeat' split
  all_goals exact ⟨by decide, by decide, by decide⟩
theorem tkL_s (t : Tk) (T : List Tk) : tkL (t :: T) T.length = t := if_pos rfl
theorem tkL_n {t : Tk} {T : List Tk} {j : Nat} (h : j < T.length) : tkL (t :: T) j = tkL T j := if_neg (by omega)
section MWO
variable {I : Nat → Nat → Int32} {J : Nat → Nat → Int64} {R : Nat → Nat → Option Nat} {b : GB} {a n : Nat} {nd : Nat → Nd} {sp : Nat → Nat} {T : List Tk} {β : Type}
theorem MTk_keep {I' : Nat → Nat → Int32} (H : MTk I a T) (e : ∀ x k, Ftk x k → I' x k = I x k) : MTk I' a T := by
  refine ⟨by rw [e _ _ (by unfold Ftk; omega)]; exact H.1, fun j hj => ?_⟩
  rw [e _ _ (by unfold Ftk; omega), e _ _ (by unfold Ftk; omega)]
  exact H.2 j hj
theorem M_task {t : Tk} {k v : Int32} (hR : RA R) (hT : MTk I a T) (hl : T.length < 600) (hk : k = tkK t) (hv : v = tkV a t) : QK (f_X12_task (mg 4625 I J R) 4561 k v) (fun r => ∃ I', r = mg 4625 I' J R ∧ FrK Ftk I I' ∧ MTk I' a (t :: T)) := by
  obtain ⟨h1, h2⟩ := hT
  unfold f_X12_task
  rw [gr_4561_43 hR, gi_4561, h1, gw_4596 hl, gr_4561_44 hR, gi_4561, up_n (by omega), h1, gw_4597 hl, gi_4561, up_n (by omega), up_n (by omega), h1, show (Int32.ofNat (T.length)) + 1 = (Int32.ofNat (T.length + 1)) from n_add _ 1, gs_4561]
  generalize hI2 : up (up (up I 4596 T.length k) 4597 T.length v) 4561 45 (Int32.ofNat (T.length + 1)) = I2
  refine q_ok ⟨I2, rfl, fun x j y => ?_, ?_, fun j hj => ?_⟩
  · unfold Ftk at y
    rw [← hI2, up_n (by omega), up_n (by omega), up_n (by omega)]
  · rw [← hI2, up_s, List.length_cons]
  · rw [List.length_cons] at hj
    by_cases z : j = T.length
    · rw [z, tkL_s, ← hI2, up_n (by omega), up_n (by omega), up_s, up_n (by omega), up_s]
      exact ⟨hk, hv⟩
    · rw [tkL_n (by omega), ← hI2, up_n (by omega), up_n (by omega), up_n (by omega), up_n (by omega), up_n (by omega), up_n (by omega)]
      exact h2 j (by omega)
theorem M_operandTask {c : Nat} (hR : RA R) (hM : MT I a n nd sp) (hc : c < n) (hT : MTk I a T) (hl : T.length + 3 ≤ 600) : QK (f_X12_operandTask (mg 4625 I J R) 4561 (Int32.ofNat (a + c))) (fun r => ∃ I', r = mg 4625 I' J R ∧ FrK Ftk I I' ∧ MTk I' a (opT nd c T)) := by
  have hb := hM.1.1
  obtain ⟨y1, -⟩ := hM.1.2 c hc
  have en : tkV a (tN c) = (Int32.ofNat (a + c)) := rfl
  unfold f_X12_operandTask opT
  rw [gr_4561_4 hR, ga_4565 (by omega), y1]
  by_cases q : (nd c).1 = 3
  · rw [if_pos q, if_pos q]
    unfold f_X12_operandTask_j15
    rw [if_neg (by decide), if_pos ok_4561]
    refine q_bind (M_task (t := tC) hR hT (by omega) rfl rfl) ?_
    rintro _ ⟨I1, rfl, hF1, hT1⟩
    unfold f_X12_operandTask_j27
    rw [if_pos ok_4561]
    refine q_bind (M_task (t := tN c) hR hT1 (by rw [List.length_cons]; omega) rfl en.symm) ?_
    rintro _ ⟨I2, rfl, hF2, hT2⟩
    rw [if_neg (by decide), if_pos ok_4561]
    refine q_bind (M_task (t := tO) hR hT2 (by rw [List.length_cons, List.length_cons]; omega) rfl rfl) ?_
    rintro _ ⟨I3, rfl, hF3, hT3⟩
    unfold f_X12_operandTask_j45
    exact q_ok ⟨I3, rfl, FrK_tr hF1 (FrK_tr hF2 hF3), hT3⟩
  · rw [if_neg q, if_neg q]
    unfold f_X12_operandTask_j15 f_X12_operandTask_j27 f_X12_operandTask_j45
    rw [if_pos rfl, if_pos ok_4561]
    refine q_bind (M_task (t := tN c) hR hT (by omega) rfl en.symm) ?_
    rintro _ ⟨I2, rfl, hF2, hT2⟩
    rw [if_pos rfl]
    exact q_ok ⟨I2, rfl, hF2, hT2⟩
theorem opT_len (nd : Nat → Nd) (c : Nat) (T : List Tk) : (opT nd c T).length ≤ T.length + 3 := by
  unfold opT
  split
  · exact Nat.le_refl _
  · rw [List.length_cons]; omega
theorem M_tasksOf {i : Nat} (hR : RA R) (hM : MT I a n nd sp) (hn : ∀ i, i < n → NV b (nd i)) (hi : i < n) (hT : MTk I a T) (hl : T.length + 12 ≤ 600) : QK (f_X12_tasksOf (mg 4625 I J R) 4561 (Int32.ofNat (a + i))) (fun r => ∃ I', r = mg 4625 I' J R ∧ FrK Ftk I I' ∧ MTk I' a (exT nd sp i T)) := by
  have hb := hM.1.1
  have nv := hn i hi
  have hw := hM.2.1
  obtain ⟨x1, x2, x3, x4, x5, x6, x7⟩ := NV_v nv
  have rows : ∀ I', FrK Ftk I I' → ∀ j, j < n → I' 4565 (a + j) = (nd j).1 ∧ I' 4566 (a + j) = (nd j).2.1 ∧ I' 4567 (a + j) = (nd j).2.2.1 ∧ I' 4568 (a + j) = (Int32.ofNat ((nd j).2.2.2)) := fun I' hF j hj => by
    obtain ⟨y1, y2, y3, y4, -⟩ := hM.1.2 j hj
    rw [hF _ _ (by unfold Ftk; omega), hF _ _ (by unfold Ftk; omega), hF _ _ (by unfold Ftk; omega), hF _ _ (by unfold Ftk; omega)]
    exact ⟨y1, y2, y3, y4⟩
  have keep : ∀ I', FrK Ftk I I' → MT I' a n nd sp := fun I' hF => MT_keep hM (fun x k _ _ _ _ => hF x k (by unfold Ftk; omega))
  have hch : ∀ I' k, FrK Ftk I I' → k ≤ aro nd i → f_X12_child (mg 4625 I' J R) 4561 (Int32.ofNat (a + i)) (Int32.ofNat (k)) = some (Int32.ofNat (a + kid sp i k)) := fun I' k hF hk => M_child hR (keep I' hF) hi hk
  obtain ⟨y1, y2, y3, y4⟩ := rows I FrK_rfl i hi
  have sg : (nd i).1 = 3 → tkV a (tW (sgw (nd i))) = (nd i).2.1 := fun q => (wdS nv q).2
  have nl : (nd i).1 ≠ 3 → tkV a (tW ((if (nd i).1 = 0 then 0 else 1), vN (nd i))) = (nd i).2.1 := fun q => (wdB nv q).2
  have kd0 : kid sp i 0 = i + 1 := rfl
  unfold f_X12_tasksOf f_X12_tasksOf_j225 f_X12_tasksOf_j122 f_X12_tasksOf_j225
  rw [gr_4561_4 hR, ga_4565 (by omega), y1]
  unfold exT
  by_cases q0 : (nd i).1 = 0
  · have q3 : ¬ (nd i).1 = 3 := by rw [q0]; decide
    have q2 : ¬ (nd i).1 = 2 := by rw [q0]; decide
    rw [if_pos q0, if_neg q3, if_neg q2, gr_4561_5 hR, ga_4566 (by omega), y2, if_pos ok_4561]
    refine q_bind (M_task (t := tW ((if (nd i).1 = 0 then 0 else 1), vN (nd i))) hR hT (by omega) (by rw [if_pos q0]; rfl) (nl q3).symm) ?_
    rintro _ ⟨I1, rfl, hF1, hT1⟩
    exact q_ok ⟨I1, rfl, hF1, hT1⟩
  · rw [if_neg q0]
    by_cases q1 : (nd i).1 = 1
    · have q3 : ¬ (nd i).1 = 3 := by rw [q1]; decide
      have q2 : ¬ (nd i).1 = 2 := by rw [q1]; decide
      have g := nl q3
      rw [if_neg q0] at g
      rw [if_pos q1, if_neg q3, if_neg q2, gr_4561_5 hR, ga_4566 (by omega), y2, if_pos ok_4561]
      refine q_bind (M_task (t := tW (1, vN (nd i))) hR hT (by omega) rfl g.symm) ?_
      rintro _ ⟨I1, rfl, hF1, hT1⟩
      rw [if_neg q0]
      exact q_ok ⟨I1, rfl, hF1, hT1⟩
    · rw [if_neg q1]
      by_cases q2 : (nd i).1 = 2
      · have q3 : ¬ (nd i).1 = 3 := by rw [q2]; decide
        have g := nl q3
        rw [if_neg q0] at g
        have a1 : 1 ≤ aro nd i := x7 q2
        have a4 : aro nd i ≤ 4 := x4
        rw [if_pos q2, if_neg q3, if_pos q2, if_pos ok_4561]
        refine q_bind (M_task (t := tW (5, 41)) hR hT (by omega) rfl rfl) ?_
        rintro _ ⟨I1, rfl, hF1, hT1⟩
        obtain ⟨_, _, _, z4⟩ := rows I1 hF1 i hi
        rw [gr_4561_7 hR, ga_4568 (by omega), z4, q_let, show (Int32.ofNat ((nd i).2.2.2)) - 1 = (Int32.ofNat (aro nd i)) - 1 from rfl]
        refine q_bind (P := fun r => ∃ I', r = .inr (4561, (Int32.ofNat (a + i)), mg 4625 I' J R) ∧ FrK Ftk I I' ∧ MTk I' a (exA sp i (aro nd i) (tW (5, 41) :: T) (aro nd i))) ?_ ?_
        · refine q_for (aro nd i) (fun r st => ∃ I', st = (4561, (Int32.ofNat (a + i)), (Int32.ofNat (aro nd i - r)) - 1, mg 4625 I' J R) ∧ FrK Ftk I I' ∧ MTk I' a (exA sp i (aro nd i) (tW (5, 41) :: T) r) ∧ (exA sp i (aro nd i) (tW (5, 41) :: T) r).length = T.length + 1 + 2 * r) ?_ ?_ (i := 0) ⟨I1, rfl, hF1, hT1, rfl⟩ (Nat.zero_le _) (by unfold xF; omega)
          · rintro r st hr ⟨I2, rfl, hF2, hT2, hl2⟩
            have e1 : (Int32.ofNat (aro nd i - r)) - 1 = (Int32.ofNat (aro nd i - (r + 1))) := by
              rw [show (1 : Int32) = (Int32.ofNat (1)) from rfl, n_sub (by omega)]
              congr 1
            unfold f_X12_tasksOf_s76
            dsimp only
            rw [q_let, q_let, q_let, q_let, e1, if_neg (show ¬ (Int32.ofNat (aro nd i - (r + 1))) < (0 : Int32) from fun y => absurd ((i32_lt (m := 0) (by omega) (by omega)).mp y) (Nat.not_lt_zero _)), if_pos ok_4561, hch I2 _ hF2 (by omega), Option.bind_some, if_pos ok_4561]
            refine q_bind (M_task (t := tN (kid sp i (aro nd i - (r + 1)))) hR hT2 (by omega) rfl rfl) ?_
            rintro _ ⟨I3, rfl, hF3, hT3⟩
            have fin : ∀ s0 s1 : Int32, s1 = tkK (seT (aro nd i - (r + 1))) → s0 = tkV a (seT (aro nd i - (r + 1))) → QK (f_X12_tasksOf_j113 (mg 4625 I3 J R) 4561 (Int32.ofNat (a + i)) (Int32.ofNat (aro nd i - (r + 1))) s0 s1 4561) (qS (fun st => ∃ I', st = (4561, (Int32.ofNat (a + i)), (Int32.ofNat (aro nd i - (r + 1))) - 1, mg 4625 I' J R) ∧ FrK Ftk I I' ∧ MTk I' a (exA sp i (aro nd i) (tW (5, 41) :: T) (r + 1)) ∧ (exA sp i (aro nd i) (tW (5, 41) :: T) (r + 1)).length = T.length + 1 + 2 * (r + 1)) (fun r => ∃ I', r = .inr (4561, (Int32.ofNat (a + i)), mg 4625 I' J R) ∧ FrK Ftk I I' ∧ MTk I' a (exA sp i (aro nd i) (tW (5, 41) :: T) (aro nd i)))) := by
              intro s0 s1 g1 g2
              unfold f_X12_tasksOf_j113
              rw [if_pos ok_4561]
              refine q_bind (M_task (t := seT (aro nd i - (r + 1))) hR hT3 (by rw [List.length_cons]; omega) g1 g2) ?_
              rintro _ ⟨I4, rfl, hF4, hT4⟩
              rw [q_let, show (Int32.ofNat (aro nd i - (r + 1))) + (-1 : Int32) = (Int32.ofNat (aro nd i - (r + 1))) - 1 from n_decm _]
              refine q_go ⟨I4, rfl, FrK_tr hF2 (FrK_tr hF3 hF4), hT4, ?_⟩
              show (exA sp i (aro nd i) (tW (5, 41) :: T) r).length + 1 + 1 = _
              omega
            unfold f_X12_tasksOf_j102
            by_cases z : aro nd i - (r + 1) = 0
            · have z2 : (Int32.ofNat (aro nd i - (r + 1))) ≤ (0 : Int32) := (i32_le (m := 0) (by omega) (by omega)).mpr (by omega)
              rw [if_pos z2, if_pos z2]
              refine fin 40 3 ?_ ?_
              · unfold seT; rw [if_pos z]; rfl
              · unfold seT; rw [if_pos z]; rfl
            · have z2 : ¬ (Int32.ofNat (aro nd i - (r + 1))) ≤ (0 : Int32) := fun y => absurd ((i32_le (m := 0) (by omega) (by omega)).mp y) (by omega)
              rw [if_neg z2, if_neg z2]
              refine fin 44 5 ?_ ?_
              · unfold seT; rw [if_neg z]; rfl
              · unfold seT; rw [if_neg z]; rfl
          · rintro st ⟨I2, rfl, hF2, hT2, hl2⟩
            unfold f_X12_tasksOf_s76
            dsimp only
            rw [q_let, q_let, q_let, q_let, Nat.sub_self, if_pos (show (Int32.ofNat (0)) - 1 < (0 : Int32) by decide)]
            exact q_ex ⟨I2, rfl, hF2, hT2⟩
        · rintro _ ⟨I2, rfl, hF2, hT2⟩
          have l2 : (exA sp i (aro nd i) (tW (5, 41) :: T) (aro nd i)).length = T.length + 1 + 2 * aro nd i := by
            have : ∀ r, (exA sp i (aro nd i) (tW (5, 41) :: T) r).length = T.length + 1 + 2 * r := by
              intro r
              induction r with
              | zero => rfl
              | succ r ih =>
                show (exA sp i (aro nd i) (tW (5, 41) :: T) r).length + 1 + 1 = _
                omega
            exact this _
          obtain ⟨_, z2, _, _⟩ := rows I2 hF2 i hi
          simp only [Sum.elim_inr]
          rw [gr_4561_5 hR, ga_4566 (by omega), z2, if_pos ok_4561]
          refine q_bind (M_task (t := tW (1, vN (nd i))) hR hT2 (by omega) rfl g.symm) ?_
          rintro _ ⟨I3, rfl, hF3, hT3⟩
          exact q_ok ⟨I3, rfl, FrK_tr hF2 hF3, hT3⟩
      · have q3 : (nd i).1 = 3 := by
          rcases x5 with z | z | z | z
          · exact absurd z q0
          · exact absurd z q1
          · exact absurd z q2
          · exact z
        have sg3 := sg q3
        obtain ⟨fx, hfx, ef, ea⟩ : ∃ fx, fx < 3 ∧ (nd i).2.2.1 = (Int32.ofNat (fx)) ∧ aro nd i = if fx = 2 then 2 else 1 := by
          rcases nv with y | y | y | ⟨y1, p, fx, y2, y3, y4, y5, y6, y7⟩
          · rw [y.1] at q3; exact absurd q3 (by decide)
          · rw [y.1] at q3; exact absurd q3 (by decide)
          · exact absurd y.1 q2
          · exact ⟨fx, y3, y5, y6⟩
        have e2 : ((nd i).2.2.1 = 2) ↔ fx = 2 := by rw [ef]; exact i32_eq (m := 2) (by omega) (by omega)
        have c0 : 0 < aro nd i := by
          rw [ea]
          split <;> decide
        have hk0 := (kid_sp hw hi c0).1
        rw [kd0] at hk0
        have ai : (Int32.ofNat (a + i)) + (1 : Int32) = (Int32.ofNat (a + (i + 1))) := n_add (a + i) 1
        rw [if_neg q2, if_pos q3, gr_4561_6 hR, ga_4567 (by omega), y3]
        by_cases z2 : (nd i).2.2.1 = 2
        · rw [if_pos (e2.mp z2)] at ea
          have hk1 := (kid_sp hw hi (show 1 < aro nd i by omega)).1
          rw [if_pos z2, if_pos z2, if_pos ok_4561, show f_X12_child (mg 4625 I J R) 4561 (Int32.ofNat (a + i)) 1 = some (Int32.ofNat (a + kid sp i 1)) from hch I 1 FrK_rfl (by omega), Option.bind_some, if_pos ok_4561]
          refine q_bind (M_operandTask hR hM hk1 hT (by omega)) ?_
          rintro _ ⟨I1, rfl, hF1, hT1⟩
          obtain ⟨_, z5, _, _⟩ := rows I1 hF1 i hi
          have l1 := opT_len nd (kid sp i 1) T
          rw [gr_4561_5 hR, ga_4566 (by omega), z5, if_pos ok_4561]
          refine q_bind (M_task (t := tW (sgw (nd i))) hR hT1 (by omega) rfl sg3.symm) ?_
          rintro _ ⟨I2, rfl, hF2, hT2⟩
          rw [if_pos ok_4561, ai]
          refine q_bind (M_operandTask hR (keep I2 (FrK_tr hF1 hF2)) hk0 hT2 (by rw [List.length_cons]; omega)) ?_
          rintro _ ⟨I3, rfl, hF3, hT3⟩
          exact q_ok ⟨I3, rfl, FrK_tr hF1 (FrK_tr hF2 hF3), hT3⟩
        · rw [if_neg z2, if_neg z2, gr_4561_6 hR, ga_4567 (by omega), y3]
          by_cases z0 : (nd i).2.2.1 = 0
          · rw [if_pos z0, if_pos z0, if_pos ok_4561, ai]
            refine q_bind (M_operandTask hR hM hk0 hT (by omega)) ?_
            rintro _ ⟨I1, rfl, hF1, hT1⟩
            obtain ⟨_, z5, _, _⟩ := rows I1 hF1 i hi
            have l1 := opT_len nd (i + 1) T
            rw [gr_4561_5 hR, ga_4566 (by omega), z5, if_pos ok_4561]
            refine q_bind (M_task (t := tW (sgw (nd i))) hR hT1 (by omega) rfl sg3.symm) ?_
            rintro _ ⟨I2, rfl, hF2, hT2⟩
            exact q_ok ⟨I2, rfl, FrK_tr hF1 hF2, hT2⟩
          · rw [if_neg z0, if_neg z0, gr_4561_5 hR, ga_4566 (by omega), y2, if_pos ok_4561]
            refine q_bind (M_task (t := tW (sgw (nd i))) hR hT (by omega) rfl sg3.symm) ?_
            rintro _ ⟨I1, rfl, hF1, hT1⟩
            rw [if_pos ok_4561, ai]
            refine q_bind (M_operandTask hR (keep I1 hF1) hk0 hT1 (by rw [List.length_cons]; omega)) ?_
            rintro _ ⟨I2, rfl, hF2, hT2⟩
            exact q_ok ⟨I2, rfl, FrK_tr hF1 hF2, hT2⟩
end MWO
