/-! the class's reader: a word behind an operand, and all words -/
section RF
variable {I : Nat → Nat → Int32} {J : Nat → Nat → Int64} {R : Nat → Nat → Option Nat} {b : GB} {β : Type} {m : Nat} {W : Nat → Wd} {P : Nat → Nat} {g : Nat → Bool}
theorem CH3_keep {I' : Nat → Nat → Int32} {H : List Hd} {bs : List Oe} {ln : List Ln} (h : CH3 I H bs ln) (e : ∀ a k, (a = 540 ∧ (k = 14 ∨ k = 16)) ∨ (545 ≤ a ∧ a ≤ 558) → I' a k = I a k) : CH3 I' H bs ln :=
  ⟨CHl_keep h.1 (fun a k g1 g2 _ => e a k (by omega)), (e _ _ (by omega)).trans h.2.1, CBl_keep h.2.2.1 (fun k _ => e _ k (by omega)), (e _ _ (by omega)).trans h.2.2.2.1, CN_keep h.2.2.2.2 (fun x g1 g2 => funext (fun k => e x k (by omega)))⟩
theorem C_takeSign {p : Nat} {st : PS} (hR : RA R) (hC : CTb I b) (hT : TbOK b) (hS : CPS I st) (hA : wal st b) (hBO : BO st.2.1) (hw : st.2.2.2 = false) (hp : p < 16) (c1 : st.1.length + st.2.1.length < 300) (c2 : st.2.2.1.length + wgt st.1 < 80) : QK (f_X6_takeSign (mg (4562 + zn J) I J R) 540 (Int32.ofNat (sgc p))) (fun r => ∃ I' x, r = (x, mg (4562 + zn J) I' J R) ∧ FrK (fun a k => (a = 540 ∧ (k = 8 ∨ k = 14 ∨ k = 16)) ∨ (545 ≤ a ∧ a ≤ 558)) I I' ∧ ((∃ st', stS b p st = some st' ∧ x = 1 ∧ CPS I' st') ∨ (stS b p st = none ∧ x = 0 ∧ I' 540 8 = I 540 8))) := by
  obtain ⟨H, bs, ln, wt⟩ := st
  dsimp only at hw c1 c2
  subst hw
  obtain ⟨hh, h8⟩ := hS
  obtain ⟨hH, hB⟩ := hA
  unfold Bal at hB
  dsimp only at hh h8 hH hB
  rw [if_neg (by first | decide | omega)] at hB h8
  have r1 := (rk_i hT hp (show 1 < 3 by decide)).2
  have r2 := (rk_i hT hp (show 2 < 3 by decide)).2
  have red1 : ∀ r, r ≤ 9 → QK (f_X6_reduce (mg (4562 + zn J) I J R) 540 (Int32.ofNat (r))) (fun z => ∃ I', z = mg (4562 + zn J) I' J R ∧ FrK SH I I' ∧ CH3 I' (red r H bs ln).1 (red r H bs ln).2.1 (red r H bs ln).2.2) := fun r hr => C_reduce hR hh hH (by omega) (by omega) hr hT
  unfold f_X6_takeSign
  rw [gr_540_0 hR, if_pos ok_11, show (1 : Int32) = (Int32.ofNat (1)) from rfl, C_rank hR hC hT hp (by first | decide | omega)]
  unfold stS
  dsimp only
  by_cases q1 : 0 < rkN b p 1
  · rw [if_neg (show ¬ (Int32.ofNat (rkN b p 1)) ≤ (0 : Int32) from fun y => absurd ((i32_le (m := 0) (by omega) (by omega)).mp y) (by omega)), if_pos q1]
    obtain ⟨k1, k2, k3, k4, -⟩ := red_keep (b := b) (least := rkN b p 1) H bs ln hH hB
    obtain ⟨_, e1, I1, rfl, hF1, hh1⟩ := red1 (rkN b p 1) r1
    unfold f_X6_takeSign_j17
    rw [gr_540_0 hR, if_pos ok_11, C_rank hR hC hT hp (by first | decide | omega), if_neg (show ¬ _ = (0 : Int32) from i32_ne (b := 0) (by omega) (by omega) (by omega)), if_pos ok_540, e1, Option.bind_some]
    generalize red (rkN b p 1) H bs ln = r at hh1 k1 k2 k3 k4 ⊢
    obtain ⟨rH, rb, rl⟩ := r
    dsimp only at hh1 k1 k2 k3 k4 ⊢
    rcases rb with _ | ⟨o, rb⟩
    · exact absurd k2 (by simp)
    obtain ⟨a1, a2, ⟨a3, a3'⟩, a4, a5⟩ := hh1
    rw [List.length_cons] at a4 k3
    have lb : rb.length < 300 := by omega
    rw [gi_540, a4, i32_pred, q_let, if_pos (i32_0le (by omega)), if_pos (show (Int32.ofNat (1)) = (1 : Int32) from rfl), gr_540_15 hR, gw_550 lb, gr_540_17 hR, if_pos (bT_xk isTr_551)]
    have a5' : CN (up I1 550 rb.length 0) 551 rl.length (lnF rl) := CN_keep a5 (fun x g1 g2 => up_r (by omega))
    refine q_bind (T_add (r := 1) hR a5' (by omega) (by first | decide | omega)) ?_
    rintro _ ⟨I2, rfl, hF2, hN2⟩
    have f2 : ∀ a j, ¬ (551 ≤ a ∧ a < 556) → I2 a j = up I1 550 rb.length 0 a j := fun a j g => by rw [hF2 a g]
    rw [q_xz1]
    refine q_ok ⟨I2, 1, rfl, fun a j y => ?_, Or.inl ⟨_, rfl, rfl, ⟨?_, (f2 _ _ (by omega)).trans a2, ⟨?_, ?_⟩, ?_, ?_⟩, ?_⟩⟩
    · rw [f2 a j (by omega), up_n (by omega)]
      exact hF1 a j (by unfold SH; omega)
    · exact CHl_keep a1 (fun a j g1 g2 g3 => by rw [f2 a j (by omega), up_n (by omega)])
    · show I2 550 (List.drop 1 (o :: rb)).length = (Int32.ofNat (0))
      rw [f2 _ _ (by omega)]
      exact up_s
    · exact CBl_keep a3' (fun j hj => by
        have hj' : j < rb.length := hj
        rw [f2 _ _ (by omega), up_n (by omega)])
    · rw [f2 _ _ (by omega), up_n (by omega), a4]
      rfl
    · exact hN2
    · rw [f2 _ _ (by omega), up_n (by omega), hF1 _ _ (by unfold SH; omega)]
      exact h8
  · rw [if_pos (show (Int32.ofNat (rkN b p 1)) ≤ (0 : Int32) from (i32_le (m := 0) (by omega) (by omega)).mpr (by omega)), if_neg q1]
    unfold f_X6_takeSign_j17
    rw [gr_540_0 hR, if_pos ok_11, show (2 : Int32) = (Int32.ofNat (2)) from rfl, C_rank hR hC hT hp (by first | decide | omega)]
    by_cases q2 : rkN b p 2 = 0
    · rw [if_pos (show (Int32.ofNat (rkN b p 2)) = (0 : Int32) by rw [q2]; rfl), if_pos q2]
      exact q_ok ⟨I, 0, rfl, FrK_rfl, Or.inr ⟨rfl, rfl, rfl⟩⟩
    · obtain ⟨k1, k2, k3, k4, -⟩ := red_keep (b := b) (least := rkN b p 2) H bs ln hH hB
      obtain ⟨_, e1, I1, rfl, hF1, hh1⟩ := red1 (rkN b p 2) r2
      rw [if_neg (show ¬ _ = (0 : Int32) from i32_ne (b := 0) (by omega) (by omega) q2), if_neg q2, if_pos ok_540, e1, Option.bind_some]
      have hC1 : CTb I1 b := CTb_keep hC (fun x hx => funext (fun k => hF1 x k (by unfold SH; omega)))
      generalize er0 : red (rkN b p 2) H bs ln = r at hh1 k1 k2 k3 k4 ⊢
      obtain ⟨rH, rb, rl⟩ := r
      dsimp only at hh1 k1 k2 k3 k4 ⊢
      rcases rb with _ | ⟨o, rb⟩
      · exact absurd k2 (by simp)
      have hh1' := hh1
      obtain ⟨a1, a2, ⟨a3, a3'⟩, a4, a5⟩ := hh1
      rw [List.length_cons] at a4 k3
      have lb : rb.length < 300 := by omega
      rw [gi_540, a4, i32_pred, q_let, if_pos (i32_0le (by omega)), if_neg (by first | decide | omega), gr_540_15 hR, ga_550 lb, a3]
      have ob : o.1 ≤ 9 := by
        have := red_BO hT (least := rkN b p 2) H bs ln hH hBO
        rw [er0] at this
        exact this o (List.mem_cons_self ..)
      rw [show List.headD (o :: rb) (0, 0) = o from rfl]
      by_cases q3 : o.1 = rkN b p 2
      · rw [if_pos (show (Int32.ofNat (o.1)) = (Int32.ofNat (rkN b p 2)) by rw [q3]), if_pos q3]
        exact q_ok ⟨I1, 0, rfl, fun a j y => hF1 a j (by unfold SH; omega), Or.inr ⟨rfl, rfl, hF1 _ _ (by unfold SH; omega)⟩⟩
      · have s2 := (sd_i hT hp q2).2
        rw [if_neg (i32_ne (by omega) (by omega) q3), if_neg q3, gr_540_0 hR, if_pos ok_11, C_side hR hC1 hT hp q2, gsz_540 rfl]
        have hh2 : CH3 (up I1 540 8 1) rH (o :: rb) rl := CH3_keep hh1' (fun a k y => up_n (by omega))
        have j136 : ∀ lv mr : Int32, lv = (Int32.ofNat (if sdN b p = 1 then rkN b p 2 else rkN b p 2 + 1)) → mr = (Int32.ofNat (if sdN b p = 2 then rkN b p 2 else 0)) → QK (f_X6_takeSign_j136 (mg (4562 + zn J) (up I1 540 8 1) J R) mr lv (Int32.ofNat (2)) (Int32.ofNat (sgc p)) 3 540) (fun r => ∃ I' x, r = (x, mg (4562 + zn J) I' J R) ∧ FrK (fun a k => (a = 540 ∧ (k = 8 ∨ k = 14 ∨ k = 16)) ∨ (545 ≤ a ∧ a ≤ 558)) I I' ∧ ((∃ st', some (((3, p, (if sdN b p = 1 then rkN b p 2 else rkN b p 2 + 1), if sdN b p = 2 then rkN b p 2 else 0) :: rH, o :: rb, rl, true) : PS) = some st' ∧ x = 1 ∧ CPS I' st') ∨ (some (((3, p, (if sdN b p = 1 then rkN b p 2 else rkN b p 2 + 1), if sdN b p = 2 then rkN b p 2 else 0) :: rH, o :: rb, rl, true) : PS) = none ∧ x = 0 ∧ I' 540 8 = I 540 8))) := by
          rintro lv mr e5 e6
          unfold f_X6_takeSign_j136
          rw [if_pos ok_540, C_hold hR hh2.2.1 (by omega), q_xz1]
          refine q_ok ⟨_, 1, rfl, fun a j y => ?_, Or.inl ⟨_, rfl, rfl, ⟨CH3_hold (h := (3, p, (if sdN b p = 1 then rkN b p 2 else rkN b p 2 + 1), if sdN b p = 2 then rkN b p 2 else 0)) hh2 ?_ (fun _ => ?_) ?_ e5 e6, ?_⟩⟩⟩
          · rw [up_n (by omega), up_n (by omega), up_n (by omega), up_n (by omega), up_n (by omega), up_n (by omega), up_n (by omega)]
            exact hF1 a j (by unfold SH; omega)
          · rfl
          · rfl
          · rfl
          · rw [up_n (by omega), up_n (by omega), up_n (by omega), up_n (by omega), up_n (by omega), up_n (by omega), up_s]
            rfl
        have j125 : ∀ lv : Int32, lv = (Int32.ofNat (if sdN b p = 1 then rkN b p 2 else rkN b p 2 + 1)) → QK (f_X6_takeSign_j125 (mg (4562 + zn J) (up I1 540 8 1) J R) (Int32.ofNat (rkN b p 2)) (Int32.ofNat (sdN b p)) lv (Int32.ofNat (2)) (Int32.ofNat (sgc p)) 3 540) (fun r => ∃ I' x, r = (x, mg (4562 + zn J) I' J R) ∧ FrK (fun a k => (a = 540 ∧ (k = 8 ∨ k = 14 ∨ k = 16)) ∨ (545 ≤ a ∧ a ≤ 558)) I I' ∧ ((∃ st', some (((3, p, (if sdN b p = 1 then rkN b p 2 else rkN b p 2 + 1), if sdN b p = 2 then rkN b p 2 else 0) :: rH, o :: rb, rl, true) : PS) = some st' ∧ x = 1 ∧ CPS I' st') ∨ (some (((3, p, (if sdN b p = 1 then rkN b p 2 else rkN b p 2 + 1), if sdN b p = 2 then rkN b p 2 else 0) :: rH, o :: rb, rl, true) : PS) = none ∧ x = 0 ∧ I' 540 8 = I 540 8))) := by
          intro lv e5
          unfold f_X6_takeSign_j125
          by_cases y : sdN b p = 2
          · rw [if_pos (show (Int32.ofNat (sdN b p)) = (2 : Int32) by rw [y]; rfl)]
            exact j136 _ _ e5 (by rw [if_pos y])
          · rw [if_neg (show ¬ _ = (2 : Int32) from i32_ne (b := 2) (by omega) (by omega) y)]
            exact j136 _ _ e5 (by rw [if_neg y]; rfl)
        by_cases y : sdN b p = 1
        · rw [if_pos (show (Int32.ofNat (sdN b p)) = (1 : Int32) by rw [y]; rfl)]
          exact j125 _ (by rw [if_pos y])
        · rw [if_neg (show ¬ _ = (1 : Int32) from i32_ne (b := 1) (by omega) (by omega) y), show (Int32.ofNat (rkN b p 2)) + 1 = (Int32.ofNat (rkN b p 2 + 1)) from n_add _ 1]
          exact j125 _ (by rw [if_neg y])
/-- a bracket that closes, or a comma -/
theorem C_closing {st : PS} {cm : Bool} (hR : RA R) (hT : TbOK b) (hS : CPS I st) (hA : wal st b) (hw : st.2.2.2 = false) (c1 : st.1.length + st.2.1.length < 300) (c2 : st.2.2.1.length + wgt st.1 ≤ 80) : QK (f_X6_takeClosing_j13 (mg (4562 + zn J) I J R) 540 (if cm = true then 6 else 5)) (fun r => ∃ I' x, r = (x, mg (4562 + zn J) I' J R) ∧ FrK (fun a k => (a = 540 ∧ (k = 8 ∨ k = 14 ∨ k = 16)) ∨ (545 ≤ a ∧ a ≤ 558)) I I' ∧ ((∃ st', clS cm (red 0 st.1 st.2.1 st.2.2.1) = some st' ∧ x = 1 ∧ CPS I' st') ∨ (clS cm (red 0 st.1 st.2.1 st.2.2.1) = none ∧ x = 0 ∧ I' 540 8 = I 540 8))) := by
  obtain ⟨H, bs, ln, wt⟩ := st
  dsimp only at hw c1 c2
  subst hw
  obtain ⟨hh, h8⟩ := hS
  obtain ⟨hH, hB⟩ := hA
  unfold Bal at hB
  dsimp only at hh h8 hH hB
  rw [if_neg (by first | decide | omega)] at hB h8
  obtain ⟨k1, k2, k3, k4, -⟩ := red_keep (b := b) (least := 0) H bs ln hH hB
  have tp := fun h hs => red0_top (b := b) (h := h) (hs := hs) (ln := ln) hH hB
  obtain ⟨_, e1, I1, rfl, hF1, hh1⟩ := C_reduce hR hh hH (by omega) c2 (least := 0) (by first | decide | omega) hT
  unfold f_X6_takeClosing_j13
  rw [if_pos ok_540, show f_X6_reduce (mg (4562 + zn J) I J R) 540 0 = _ from e1, Option.bind_some]
  dsimp only
  have f18 : I1 540 8 = 0 := (hF1 _ _ (by unfold SH; omega)).trans h8
  have fS : ∀ a k, ¬ ((a = 540 ∧ (k = 8 ∨ k = 14 ∨ k = 16)) ∨ (545 ≤ a ∧ a ≤ 558)) → I1 a k = I a k := fun a k y => hF1 a k (by unfold SH; omega)
  generalize red 0 H bs ln = r at hh1 k1 k2 k3 k4 tp ⊢
  obtain ⟨rH, rb, rl⟩ := r
  dsimp only at hh1 k1 k2 k3 k4 tp ⊢
  have hh1' := hh1
  obtain ⟨a1, a2, a3, a4, a5⟩ := hh1
  rw [gi_540, a2, q_let]
  rcases rH with _ | ⟨h, hs⟩
  · rw [if_neg (show ¬ (0 : Int32) ≤ (Int32.ofNat (([] : List Hd).length)) - (1 : Int32) by decide)]
    exact q_ok ⟨I1, 0, rfl, fS, Or.inr ⟨rfl, rfl, f18.trans h8.symm⟩⟩
  · have hl1 : hs.length < 300 := by rw [List.length_cons] at k3; omega
    have ht := tp h hs rfl
    have mr4 : h.2.2.2 ≤ 4 ∧ (h.1 = 1 → 1 ≤ h.2.2.2 ∧ h.2.2.2 ≤ rb.length ∧ ∃ l, l < 26 ∧ h.2.1 = 97 + l) ∧ h.2.2.1 = 0 := by
      rcases k1.1 with z | z | z | z
      · rw [z.2]
        exact ⟨by decide, fun y => by omega, rfl⟩
      · refine ⟨z.2.2.2.2, fun _ => ⟨z.2.2.2.1, ?_, z.2.1⟩, z.2.2.1⟩
        rw [need_c] at k2
        rw [z.1, if_neg (by first | decide | omega), if_pos rfl] at k2
        omega
      · omega
      · omega
    rw [List.length_cons, i32_pred, if_pos (i32_0le (by omega)), gr_540_9 hR, ga_545 hl1, a1.1.1]
    unfold clS
    dsimp only
    have s13 : I1 549 hs.length = (Int32.ofNat (h.2.2.2)) := a1.1.2.2.2.2
    have s10 : h.1 = 1 → I1 546 hs.length = (Int32.ofNat (h.2.1)) := fun y => by rw [a1.1.2.1 (by omega), if_pos y]
    have pushed : ∀ (k n : Nat) (I2 : Nat → Nat → Int32), I2 = up (up (up (up I1 540 14 (Int32.ofNat (hs.length))) 540 16 (Int32.ofNat ((rb.drop k).length))) 550 (rb.drop k).length (Int32.ofNat (0))) 540 16 (Int32.ofNat ((rb.drop k).length + 1)) → CH3 I2 hs ((0, n) :: rb.drop k) rl ∧ (∀ a j, ¬ ((a = 540 ∧ (j = 8 ∨ j = 14 ∨ j = 16)) ∨ (545 ≤ a ∧ a ≤ 558)) → I2 a j = I a j) ∧ I2 540 8 = 0 ∧ I2 549 = I1 549 ∧ I2 546 = I1 546 := by
      rintro k n I2 rfl
      refine ⟨CH3_push (I := up (up I1 540 14 (Int32.ofNat (hs.length))) 540 16 (Int32.ofNat ((rb.drop k).length))) (o := (0, n)) (CHl_keep a1.2 (fun a j g1 g2 g3 => by rw [up_n (by omega), up_n (by omega)])) (by rw [up_n (by omega), up_s]) (CBl_keep (CBl_drop k a3) (fun j hj => by rw [up_n (by omega), up_n (by omega)])) rfl (CN_keep a5 (fun x g1 g2 => by rw [up_r (by omega), up_r (by omega)])) rfl rfl, fun a j y => ?_, ?_, ?_, ?_⟩
      · rw [up_n (by omega), up_n (by omega), up_n (by omega), up_n (by omega)]
        exact fS a j y
      · rw [up_n (by omega), up_n (by omega), up_n (by omega), up_n (by omega)]
        exact f18
      · rw [up_r (by omega), up_r (by omega), up_r (by omega), up_r (by omega)]
      · rw [up_r (by omega), up_r (by omega), up_r (by omega), up_r (by omega)]
    cases cm with
    | true =>
      rw [if_pos rfl]
      have bad : ¬ (h.1 = 1 ∧ h.2.2.2 < 4) → QK (some ((0 : Int32), mg (4562 + zn J) I1 J R)) (fun r => ∃ I' x, r = (x, mg (4562 + zn J) I' J R) ∧ FrK (fun a k => (a = 540 ∧ (k = 8 ∨ k = 14 ∨ k = 16)) ∨ (545 ≤ a ∧ a ≤ 558)) I I' ∧ ((∃ st' : PS, (none : Option PS) = some st' ∧ x = 1 ∧ CPS I' st') ∨ ((none : Option PS) = none ∧ x = 0 ∧ I' 540 8 = I 540 8))) := fun _ => q_ok ⟨I1, 0, rfl, fS, Or.inr ⟨rfl, rfl, f18.trans h8.symm⟩⟩
      rcases ht with z | z
      · rw [if_pos z, if_neg (show ¬ (Int32.ofNat (4)) = (2 : Int32) by decide), if_neg (show ¬ (h.1 = 1 ∧ h.2.2.2 < 4) by omega)]
        unfold f_X6_takeClosing_j46 f_X6_takeClosing_j67
        rw [if_pos rfl, if_pos rfl]
        exact bad (by omega)
      · rw [if_neg (show ¬ h.1 = 0 by omega), if_pos z, if_pos (show (Int32.ofNat (2)) = (2 : Int32) from rfl)]
        unfold f_X6_takeClosing_j46 f_X6_takeClosing_j67
        rw [if_pos rfl, if_pos rfl, if_neg (by first | decide | omega), gr_540_13 hR, ga_549 hl1, s13]
        by_cases y : h.2.2.2 < 4
        · rw [if_pos (show (Int32.ofNat (h.2.2.2)) < (4 : Int32) from (i32_lt (m := 4) (by omega) (by omega)).mpr y), gr_540_13 hR, ga_549 hl1, s13, gw_549 hl1, gsz_540 rfl, if_pos ⟨z, y⟩, show (Int32.ofNat (h.2.2.2)) + 1 = (Int32.ofNat (h.2.2.2 + 1)) from n_add _ 1]
          refine q_ok ⟨_, 1, rfl, fun a j w => ?_, Or.inl ⟨_, rfl, rfl, ⟨⟨⟨⟨?_, fun _ => ?_, ?_, ?_, ?_⟩, CHl_keep a1.2 (fun a j g1 g2 g3 => by rw [up_n (by omega), up_n (by omega)])⟩, ?_, CBl_keep a3 (fun j hj => by rw [up_n (by omega), up_n (by omega)]), ?_, CN_keep a5 (fun x g1 g2 => by rw [up_r (by omega), up_r (by omega)])⟩, ?_⟩⟩⟩
          · rw [up_n (by omega), up_n (by omega)]
            exact fS a j w
          · rw [up_n (by omega), up_n (by omega), a1.1.1, if_neg (show ¬ h.1 = 0 by omega), if_pos z]; rfl
          · rw [up_n (by omega), up_n (by omega), s10 z, if_pos rfl]
          · rw [up_n (by omega), up_n (by omega), a1.1.2.2.1, if_neg (show ¬ h.1 = 2 by omega), if_neg (show ¬ h.1 = 3 by omega)]; rfl
          · rw [up_n (by omega), up_n (by omega), a1.1.2.2.2.1, mr4.2.2]
          · rw [up_n (by omega), up_s]
          · rw [up_n (by omega), up_n (by omega)]
            exact a2
          · rw [up_n (by omega), up_n (by omega)]
            exact a4
          · exact up_s
        · rw [if_neg (show ¬ (Int32.ofNat (h.2.2.2)) < (4 : Int32) from fun w => y ((i32_lt (m := 4) (by omega) (by omega)).mp w)), if_neg (by omega)]
          exact bad (by omega)
    | false =>
      rw [if_neg (show ¬ false = true by decide), if_neg (show ¬ false = true by decide)]
      have rb1 : 1 ≤ rb.length := by
        rw [k2]
        omega
      have rb3 : rb.length ≤ 299 := by
        rw [List.length_cons] at k3
        omega
      rcases ht with z | z
      · rw [if_pos z, if_neg (show ¬ (Int32.ofNat (4)) = (2 : Int32) by decide), if_neg (show ¬ h.1 = 1 by omega)]
        unfold f_X6_takeClosing_j46
        rw [if_neg (show ¬ (5 : Int32) = 6 by decide), gs_540, if_pos rfl, gi_540, up_n (by omega), a4, show (Int32.ofNat (rb.length)) - 1 = (Int32.ofNat (rb.length - 1)) from n_sub (a := rb.length) (b := 1) rb1, if_neg (i32_nlt0 (by omega)), gs_540, if_pos ok_540, show rb.length - 1 = (rb.drop 1).length by rw [List.length_drop], C_push hR up_s (by rw [List.length_drop]; omega), q_xz1]
        obtain ⟨p1, p2, p3, -, -⟩ := pushed 1 (szs (rb.take 1)) _ rfl
        exact q_ok ⟨_, 1, rfl, p2, Or.inl ⟨_, rfl, rfl, ⟨p1, p3⟩⟩⟩
      · obtain ⟨m1, m2, m3⟩ := mr4.2.1 z
        rw [if_neg (show ¬ h.1 = 0 by omega), if_pos z, if_pos (show (Int32.ofNat (2)) = (2 : Int32) from rfl), if_pos z]
        unfold f_X6_takeClosing_j46
        rw [if_neg (show ¬ (5 : Int32) = 6 by decide), gs_540, if_neg (by first | decide | omega), gi_540, up_n (by omega), a4, gr_540_13 hR, ga_549 hl1, up_n (by omega), s13, n_sub m2, if_neg (i32_nlt0 (by omega)), gs_540, if_pos ok_540, show rb.length - h.2.2.2 = (rb.drop h.2.2.2).length by rw [List.length_drop], C_push hR up_s (by rw [List.length_drop]; omega), if_neg (show ¬ (1 : Int32) = 0 by decide), gr_540_17 hR, gr_540_10 hR]
        obtain ⟨p1, p2, p3, p4, p5⟩ := pushed h.2.2.2 (szs (rb.take h.2.2.2) + 1) _ rfl
        generalize hI2 : up (up (up (up I1 540 14 (Int32.ofNat (hs.length))) 540 16 (Int32.ofNat ((rb.drop h.2.2.2).length))) 550 (rb.drop h.2.2.2).length (Int32.ofNat (0))) 540 16 (Int32.ofNat ((rb.drop h.2.2.2).length + 1)) = I2 at p1 p2 p3 p4 p5
        have hI2' : up (up (up (up I1 540 14 (Int32.ofNat (hs.length))) 540 16 (Int32.ofNat ((rb.drop h.2.2.2).length))) 550 (rb.drop h.2.2.2).length 0) 540 16 (Int32.ofNat ((rb.drop h.2.2.2).length + 1)) = I2 := hI2
        try rw [hI2']
        rw [ga_546 hl1, p5, s10 z, gr_540_13 hR, ga_549 hl1, p4, s13, if_pos (bT_xk isTr_551)]
        obtain ⟨t1, t2, t3, t4, t5⟩ := p1
        have wh : wgt (h :: hs) = wgt hs + 1 := by
          rw [wgt_c, z, if_neg (by first | decide | omega), Nat.add_comm]
        refine q_bind (T_add (r := h.2.2.2) hR t5 (by rw [wh] at k4; omega) mr4.1) ?_
        rintro _ ⟨I3, rfl, hF3, hN3⟩
        have f3 : ∀ a j, ¬ (551 ≤ a ∧ a < 556) → I3 a j = I2 a j := fun a j g => by rw [hF3 a g]
        unfold f_X6_takeClosing_j150 f_X6_takeClosing_j151
        rw [if_neg (show ¬ (1 : Int32) = 0 by decide), q_xz1]
        refine q_ok ⟨I3, 1, rfl, fun a j w => (f3 a j (by omega)).trans (p2 a j w), Or.inl ⟨_, rfl, rfl, ⟨⟨CHl_keep t1 (fun a j g1 g2 g3 => f3 a j (by omega)), (f3 _ _ (by omega)).trans t2, CBl_keep t3 (fun j hj => f3 _ _ (by omega)), (f3 _ _ (by omega)).trans t4, hN3⟩, (f3 _ _ (by omega)).trans p3⟩⟩⟩
end RF
