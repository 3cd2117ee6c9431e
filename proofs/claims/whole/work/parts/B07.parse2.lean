/-! the reference reads by stacks -/
def resM (m : Nat) (r : Wi × PS ⊕ PS) : Int32 := match r with
  | .inl (w, _) => (Int32.ofNat (w.1))
  | .inr _ => if (acc r).isSome = true then -1 else (Int32.ofNat (m))
section RP
variable {I : Nat → Nat → Int32} {J : Nat → Nat → Int64} {R : Nat → Nat → Option Nat} {b : GB} {β : Type} {m : Nat} {W : Nat → Wd} {P : Nat → Nat} {g : Nat → Bool}
theorem bare_side {H : List Hd} {o : Oe} {bs : List Oe} {ln : List Ln} {p : Nat} (hT : TbOK b) (hh : MH3 I b H (o :: bs) ln) (hL : LW ln) (hp : p < 16) (h0 : rkN b p 2 ≠ 0) (e : o.1 = rkN b p 2) : sdN b p = 2 := by
  obtain ⟨h1, h2, ⟨b1, b2, b3, b4, b5, b6, b7⟩, h36, h5, h33, h7⟩ := hh
  have hi : ln.length - 1 < ln.length := by omega
  obtain ⟨x, hx1, hx2⟩ := lnF_mem ln _ hi
  have hx := hL x hx1
  rw [← hx2] at hx
  generalize lnF ln (ln.length - 1) = y at b6 hx
  split at b6
  · rcases hx with hx | ⟨q, fx, hq, hf, rfl⟩
    · rw [nb_leaf (by rcases hx with z | z | z <;> rw [z] <;> decide)] at b6
      omega
    · rw [nb_op hq hf] at b6
      split at b6
      · split at b6
        · next z =>
          rw [one_side hT hp hq h0 (by omega)]
          exact z
        · omega
      · omega
  · omega
theorem M_signB {k p : Nat} {st : PS} (hR : RA R) (hM : MTb I b) (hT : TbOK b) (hS : MH3 I b st.1 st.2.1 st.2.2.1) (hA : wal st b) (hL : LW st.2.2.1) (hw : st.2.2.2 = false) (hp : p < 16) (c1 : st.1.length < 300) (c2 : st.2.2.1.length + wgt st.1 < 80) : QK (f_X12_sign_ (mg 4625 I J R) 4561 (Int32.ofNat (k)) (Int32.ofNat (sgc p))) (fun r => ∃ I' x, r = (x, mg 4625 I' J R) ∧ FrK SMp I I' ∧ ((∃ st', stS b p st = some st' ∧ x = 1 ∧ MH3 I' b st'.1 st'.2.1 st'.2.2.1 ∧ st'.2.2.2 = decide (0 < rkN b p 2)) ∨ (stS b p st = none ∧ x = 0))) := by
  obtain ⟨H, bs, ln, wt⟩ := st
  dsimp only at hw hS hL c1 c2
  subst hw
  obtain ⟨hH, hB⟩ := hA
  unfold Bal at hB
  dsimp only at hH hB
  rw [if_neg (by decide)] at hB
  have r1 := (rk_i hT hp (show 1 < 3 by decide)).2
  have r2 := (rk_i hT hp (show 2 < 3 by decide)).2
  have sl := sgp_lt p hp
  have red1 : ∀ r, r ≤ 9 → QK (f_X12_reduce (mg 4625 I J R) 4561 (Int32.ofNat (r))) (fun z => ∃ I', z = mg 4625 I' J R ∧ FrK SMp I I' ∧ MH3 I' b (red r H bs ln).1 (red r H bs ln).2.1 (red r H bs ln).2.2) := fun r hr => M_reduce hR hS hH hB (by omega) (by omega) hr hT
  unfold f_X12_sign_
  rw [if_pos ok_4561, show (2 : Int32) = (Int32.ofNat (2)) from rfl, M_rankOf hR hM hT hp (by decide), if_pos ok_4561, show (1 : Int32) = (Int32.ofNat (1)) from rfl, M_rankOf hR hM hT hp (by decide)]
  unfold stS
  dsimp only
  by_cases q2 : rkN b p 2 = 0
  · rw [if_pos (show (Int32.ofNat (rkN b p 2)) ≤ (0 : Int32) from (i32_le (m := 0) (by omega) (by omega)).mpr (by omega))]
    by_cases q1 : 0 < rkN b p 1
    · rw [if_neg (show ¬ (Int32.ofNat (rkN b p 1)) ≤ (0 : Int32) from fun y => absurd ((i32_le (m := 0) (by omega) (by omega)).mp y) (by omega)), if_pos ok_4561, if_pos q1]
      obtain ⟨k1, k2, k3, k4, -⟩ := red_keep (b := b) (least := rkN b p 1) H bs ln hH hB
      obtain ⟨_, e1, I1, rfl, hF1, hh1⟩ := red1 (rkN b p 1) r1
      rw [e1, Option.bind_some, if_pos ok_4561]
      generalize red (rkN b p 1) H bs ln = r at hh1 k1 k2 k3 k4 ⊢
      obtain ⟨rH, rb, rl⟩ := r
      dsimp only at hh1 k1 k2 k3 k4 ⊢
      refine q_bind (M_does (x := opNd p 1) hR hh1 (by show 1 ≤ rb.length; omega) (by show 1 ≤ 4; omega) (by omega)) ?_
      rintro _ ⟨I2, rfl, hF2, hS2⟩
      rw [nb_op hp (by decide), if_neg (by decide), show (opNd p 1).2.2.2 = 1 from rfl] at hS2
      unfold f_X12_sign__j103 f_X12_sign__j112 f_X12_sign__j117
      rw [if_neg (show ¬ (0 : Int32) < (Int32.ofNat (rkN b p 2)) from fun y => absurd ((i32_lt (k := 0) (by omega) (by omega)).mp y) (by omega)), if_neg (show ¬ (Int32.ofNat (rkN b p 1)) ≤ (0 : Int32) from fun y => absurd ((i32_le (m := 0) (by omega) (by omega)).mp y) (by omega)), show (Int32.ofNat (1)) = (1 : Int32) from rfl, q_xz1]
      exact q_ok ⟨I2, 1, rfl, fun a j y => (hF2 a j (fun w => y (by unfold SMp; omega))).trans (hF1 a j y), Or.inl ⟨_, rfl, rfl, hS2, by rw [q2]; rfl⟩⟩
    · rw [if_pos (show (Int32.ofNat (rkN b p 1)) ≤ (0 : Int32) from (i32_le (m := 0) (by omega) (by omega)).mpr (by omega)), if_neg q1]
      unfold f_X12_sign__j103 f_X12_sign__j117
      rw [if_neg (show ¬ (0 : Int32) < (Int32.ofNat (rkN b p 2)) from fun y => absurd ((i32_lt (k := 0) (by omega) (by omega)).mp y) (by omega)), if_pos (show (Int32.ofNat (rkN b p 1)) ≤ (0 : Int32) from (i32_le (m := 0) (by omega) (by omega)).mpr (by omega)), q_xz0, if_pos q2]
      exact q_ok ⟨I, 0, rfl, FrK_rfl, Or.inr ⟨rfl, rfl⟩⟩
  · have q1 : rkN b p 1 = 0 := (one_fix hT hp).resolve_right q2
    rw [if_neg (show ¬ (Int32.ofNat (rkN b p 2)) ≤ (0 : Int32) from fun y => absurd ((i32_le (m := 0) (by omega) (by omega)).mp y) (by omega)), if_pos ok_4561, if_neg (by omega), if_neg q2]
    obtain ⟨k1, k2, k3, k4, -⟩ := red_keep (b := b) (least := rkN b p 2) H bs ln hH hB
    obtain ⟨_, e1, I1, rfl, hF1, hh1⟩ := red1 (rkN b p 2) r2
    have hL1 := red_LW (b := b) (least := rkN b p 2) H bs ln hH hL
    have hM1 : MTb I1 b := MTb_keep hM (fun a k h => hF1 a k (by unfold SMp; omega))
    rw [e1, Option.bind_some, gr_4561_16 hR, M_signOf hp, show (Int32.ofNat (2)) = (2 : Int32) from rfl, M_sideOf hR hM1 hT hp q2]
    generalize red (rkN b p 2) H bs ln = r at hh1 k1 k2 k3 k4 hL1 ⊢
    obtain ⟨rH, rb, rl⟩ := r
    dsimp only at hh1 k1 k2 k3 k4 hL1 ⊢
    rcases rb with _ | ⟨o, rb⟩
    · exact absurd k2 (by simp)
    rw [show List.headD (o :: rb) (0, 0) = o from rfl]
    have s2 := (sd_i hT hp q2).2
    rw [List.length_cons] at k2 k3
    have j51 : o.1 ≠ rkN b p 2 → QK (f_X12_sign__j51 (mg 4625 I1 J R) 4561 (Int32.ofNat (sgc p)) (Int32.ofNat (rkN b p 2)) (Int32.ofNat (rkN b p 1))) (fun r => ∃ I' x, r = (x, mg 4625 I' J R) ∧ FrK SMp I I' ∧ ((∃ st', some (((3, p, (if sdN b p = 1 then rkN b p 2 else rkN b p 2 + 1), if sdN b p = 2 then rkN b p 2 else 0) :: rH, o :: rb, rl, true) : PS) = some st' ∧ x = 1 ∧ MH3 I' b st'.1 st'.2.1 st'.2.2.1 ∧ st'.2.2.2 = decide (0 < rkN b p 2)) ∨ (some (((3, p, (if sdN b p = 1 then rkN b p 2 else rkN b p 2 + 1), if sdN b p = 2 then rkN b p 2 else 0) :: rH, o :: rb, rl, true) : PS) = none ∧ x = 0))) := by
      intro q3
      unfold f_X12_sign__j51
      rw [gr_4561_16 hR, M_signOf hp, M_sideOf hR hM1 hT hp q2]
      have j78 : ∀ lv : Int32, lv = (Int32.ofNat (if sdN b p = 1 then rkN b p 2 else rkN b p 2 + 1)) → QK (f_X12_sign__j78 (mg 4625 I1 J R) (Int32.ofNat (rkN b p 2)) (Int32.ofNat (rkN b p 1)) lv (Int32.ofNat (sgc p)) 3 4561) (fun r => ∃ I' x, r = (x, mg 4625 I' J R) ∧ FrK SMp I I' ∧ ((∃ st', some (((3, p, (if sdN b p = 1 then rkN b p 2 else rkN b p 2 + 1), if sdN b p = 2 then rkN b p 2 else 0) :: rH, o :: rb, rl, true) : PS) = some st' ∧ x = 1 ∧ MH3 I' b st'.1 st'.2.1 st'.2.2.1 ∧ st'.2.2.2 = decide (0 < rkN b p 2)) ∨ (some (((3, p, (if sdN b p = 1 then rkN b p 2 else rkN b p 2 + 1), if sdN b p = 2 then rkN b p 2 else 0) :: rH, o :: rb, rl, true) : PS) = none ∧ x = 0))) := by
        intro lv hlv
        unfold f_X12_sign__j78
        rw [if_pos ok_4561]
        refine q_bind (M_opens (h := (3, p, (if sdN b p = 1 then rkN b p 2 else rkN b p 2 + 1), if sdN b p = 2 then rkN b p 2 else 0)) hR hh1 (by have := MBs_len hS.2.2.1; have := hS.2.2.2.2.1; omega) rfl (fun _ => ?_) ?_) ?_
        · rfl
        · exact hlv
        · rintro _ ⟨I2, rfl, hF2, hS2⟩
          unfold f_X12_sign__j103 f_X12_sign__j112 f_X12_sign__j117
          rw [if_pos (show (0 : Int32) < (Int32.ofNat (rkN b p 2)) from (i32_lt (k := 0) (by omega) (by omega)).mpr (by omega)), q_xz1]
          exact q_ok ⟨I2, 1, rfl, fun a j y => (hF2 a j (fun w => y (by unfold SMp; omega))).trans (hF1 a j y), Or.inl ⟨_, rfl, rfl, hS2, by simp; omega⟩⟩
      by_cases y : sdN b p = 1
      · rw [if_pos (show (Int32.ofNat (sdN b p)) = (1 : Int32) by rw [y]; rfl)]
        exact j78 _ (by rw [if_pos y])
      · rw [if_neg (show ¬ _ = (1 : Int32) from i32_ne (b := 1) (by omega) (by omega) y), show (Int32.ofNat (rkN b p 2)) + 1 = (Int32.ofNat (rkN b p 2 + 1)) from n_add _ 1]
        exact j78 _ (by rw [if_neg y])
    by_cases y : sdN b p = 2
    · rw [if_pos (show (Int32.ofNat (sdN b p)) = (2 : Int32) by rw [y]; rfl), if_pos ok_4561, M_isNeither hR hM1 hT hh1 hL1 ⟨by omega, r2⟩ (fun q hq e => by rw [one_side hT hq hp (by omega) e]; exact y), Option.bind_some]
      by_cases q3 : o.1 = rkN b p 2
      · rw [if_pos q3, if_neg (by decide), if_pos q3]
        exact q_ok ⟨I1, 0, rfl, hF1, Or.inr ⟨rfl, rfl⟩⟩
      · rw [if_neg q3, if_pos rfl, if_neg q3]
        exact j51 q3
    · have q3 : o.1 ≠ rkN b p 2 := fun z => y (bare_side hT hh1 hL1 hp q2 z)
      rw [if_neg (show ¬ _ = (2 : Int32) from i32_ne (b := 2) (by omega) (by omega) y), if_neg q3]
      exact j51 q3
theorem M_closing {k : Nat} {st : PS} {cm : Bool} (hR : RA R) (hT : TbOK b) (hW : MWd I m W P g) (hk : k < m) (hkd : (W k).1 = if cm = true then 6 else 5) (hS : MH3 I b st.1 st.2.1 st.2.2.1) (hA : wal st b) (hw : st.2.2.2 = false) (c1 : st.1.length < 300) (c2 : st.2.2.1.length + wgt st.1 ≤ 80) : QK (f_X12_operator_j44 (mg 4625 I J R) 4561 (Int32.ofNat (k))) (fun r => ∃ I' x, r = (x, mg 4625 I' J R) ∧ FrK SMp I I' ∧ ((∃ st', clS cm (red 0 st.1 st.2.1 st.2.2.1) = some st' ∧ x = 1 ∧ MH3 I' b st'.1 st'.2.1 st'.2.2.1 ∧ st'.2.2.2 = cm) ∨ (clS cm (red 0 st.1 st.2.1 st.2.2.1) = none ∧ x = 0))) := by
  obtain ⟨H, bs, ln, wt⟩ := st
  dsimp only at hw hS c1 c2
  subst hw
  obtain ⟨hH, hB⟩ := hA
  unfold Bal at hB
  dsimp only at hH hB
  rw [if_neg (by decide)] at hB
  have hm := hW.1
  obtain ⟨k1, k2, k3, k4, -⟩ := red_keep (b := b) (least := 0) H bs ln hH hB
  have tp := fun h hs => red0_top (b := b) (h := h) (hs := hs) (ln := ln) hH hB
  obtain ⟨_, e1, I1, rfl, hF1, hh1⟩ := M_reduce hR hS hH hB (by omega) c2 (least := 0) (by decide) hT
  have hW1 : MWd I1 m W P g := MWd_keep hW (fun a k h => hF1 a k (by unfold SMp; omega))
  unfold f_X12_operator_j44
  rw [if_pos ok_4561, show (0 : Int32) = (Int32.ofNat (0)) from rfl, e1, Option.bind_some]
  dsimp only
  generalize red 0 H bs ln = r at hh1 k1 k2 k3 k4 tp ⊢
  obtain ⟨rH, rb, rl⟩ := r
  dsimp only at hh1 k1 k2 k3 k4 tp ⊢
  rw [gi_4561, hh1.2.1]
  rcases rH with _ | ⟨h, hs⟩
  · rw [if_pos (show (Int32.ofNat (([] : List Hd).length)) = (Int32.ofNat (0)) from rfl)]
    exact q_ok ⟨I1, 0, rfl, hF1, Or.inr ⟨rfl, rfl⟩⟩
  · have hh1' := hh1
    obtain ⟨⟨⟨o1, o2, o3⟩, h1⟩, h2, h3, h36, h5, h33, h7⟩ := hh1
    rw [List.length_cons] at h2 k3
    have hl1 : hs.length < 600 := by
      have : (h :: hs).length + rb.length ≤ H.length + bs.length := by rw [List.length_cons]; exact k3
      have b5 := MBs_len h3
      have : need (h :: hs) + 1 ≤ 600 → True := fun _ => trivial
      have hb2 := MBs_len hS.2.2.1
      have := hS.2.2.2.2.1
      omega
    have ht := tp h hs rfl
    have mr4 : h.2.2.2 ≤ 4 ∧ (h.1 = 1 → 1 ≤ h.2.2.2 ∧ h.2.2.2 ≤ rb.length) ∧ h.2.2.1 = 0 := by
      rcases k1.1 with z | z | z | z
      · rw [z.2]
        exact ⟨by decide, fun y => by omega, rfl⟩
      · refine ⟨z.2.2.2.2, fun _ => ⟨z.2.2.2.1, ?_⟩, z.2.2.1⟩
        rw [need_c] at k2
        rw [z.1, if_neg (by decide), if_pos rfl] at k2
        omega
      · omega
      · omega
    have rb1 : 1 ≤ rb.length := by
      rw [k2]
      omega
    rw [if_neg (show ¬ (Int32.ofNat ((h :: hs).length)) = (Int32.ofNat (0)) from i32_ne (by rw [List.length_cons]; omega) (by omega) (by rw [List.length_cons]; omega)), gr_4561_20 hR, ga_4579 (by omega), (MWd_v hW1 hk).1]
    unfold clS
    dsimp only
    have lv : I1 4594 hs.length = (Int32.ofNat (h.2.2.2)) := by
      rw [o3]
      rcases ht with z | z
      · rw [if_neg (by omega), mr4.2.2]
        rcases k1.1 with y | y | y | y
        · rw [y.2]
        · omega
        · omega
        · omega
      · rw [if_pos z]
    cases cm with
    | true =>
      rw [if_pos rfl] at hkd
      rw [kM_ifT 6 5 rfl hkd, gr_4561_39 hR, gi_4561, h2, i32_pred, q_let, ga_4594 hl1, lv, gw_4594 hl1, gr_4561_37 hR, gi_4561, up_n (by omega), h2, i32_pred, ga_4592 hl1, up_n (by omega), o1, show (Int32.ofNat (h.2.2.2)) + 1 = (Int32.ofNat (h.2.2.2 + 1)) from n_add _ 1, if_pos rfl]
      unfold f_X12_operator_j117 f_X12_operator_j118
      have fr : FrK SMp I (up I1 4594 hs.length (Int32.ofNat (h.2.2.2 + 1))) := fun a j y => by
        rw [up_n (by unfold SMp at y; omega)]
        exact hF1 a j y
      rcases ht with z | z
      · rw [z, if_neg (show ¬ (Int32.ofNat (0)) = (1 : Int32) by decide), show (Int32.ofNat (0)) = (0 : Int32) from rfl, q_xz0, if_neg (by omega)]
        exact q_ok ⟨_, 0, rfl, fr, Or.inr ⟨rfl, rfl⟩⟩
      · rw [z, if_pos (show (Int32.ofNat (1)) = (1 : Int32) from rfl), gr_4561_39 hR, gi_4561, up_n (by omega), h2, i32_pred, ga_4594 hl1, up_s]
        by_cases y : h.2.2.2 < 4
        · rw [if_neg (show ¬ (4 : Int32) < (Int32.ofNat (h.2.2.2 + 1)) from fun w => absurd ((i32_lt (k := 4) (by omega) (by omega)).mp w) (by omega)), q_xz1, if_pos ⟨rfl, y⟩]
          refine q_ok ⟨_, 1, rfl, fr, Or.inl ⟨_, rfl, rfl, ⟨⟨⟨?_, fun _ => ?_, ?_⟩, MOl_keep h1 (fun a j y1 y2 y3 => up_n (by omega))⟩, ?_, MBs_keep h3 (fun j _ => ⟨up_n (by omega), up_n (by omega)⟩) (fun j _ => ⟨up_n (by omega), rfl⟩), (up_n (by omega)).trans h36, h5, (up_n (by omega)).trans h33, fun i hi => ?_⟩, rfl⟩⟩
          · rw [up_n (by omega), o1, z]
          · rw [up_n (by omega), o2 (by omega), if_pos z, if_pos rfl]
          · rw [if_pos rfl, up_s]
          · rw [up_n (by omega)]
            exact h2
          · rw [up_n (by omega), up_n (by omega), up_n (by omega), up_n (by omega), up_n (by omega)]
            exact h7 i hi
        · rw [if_pos (show (4 : Int32) < (Int32.ofNat (h.2.2.2 + 1)) from (i32_lt (k := 4) (by omega) (by omega)).mpr (by omega)), show (Int32.ofNat (0)) = (0 : Int32) from rfl, q_xz0, if_neg (fun w => y w.2)]
          exact q_ok ⟨_, 0, rfl, fr, Or.inr ⟨rfl, rfl⟩⟩
    | false =>
      rw [if_neg (by decide)] at hkd
      rw [kM_ifF 6 5 rfl (by decide) (by omega), gi_4561, h2, i32_pred, gs_4561, gr_4561_37 hR, gi_4561, up_s, ga_4592 hl1, up_n (by omega), o1, if_neg (show ¬ false = true by decide)]
      have hh2 : MH3 (up I1 4561 40 (Int32.ofNat (hs.length))) b hs rb rl := MOl_tail hh1' rfl
      unfold f_X12_operator_j181
      rcases ht with z | z
      · rw [z, if_neg (show ¬ (Int32.ofNat (0)) = (1 : Int32) by decide), gr_4561_35 hR, gi_4561, up_n (by omega), h36, show (Int32.ofNat (rb.length)) - 1 = (Int32.ofNat (rb.length - 1)) from n_sub (a := rb.length) (b := 1) rb1, gz_4591 (by have := MBs_len h3; omega) rfl, if_neg (by omega)]
        obtain ⟨j1, j2, j3, j36, j5, j33, j7⟩ := hh2
        rcases rb with _ | ⟨o, rb⟩
        · exact absurd rb1 (by decide)
        obtain ⟨b1, b2, b3, b4, b5, b6, b7⟩ := j3
        rw [List.length_cons, Nat.add_sub_cancel]
        refine q_ok ⟨_, 1, rfl, fun a j y => ?_, Or.inl ⟨_, rfl, rfl, ⟨MOl_keep j1 (fun a j y1 y2 y3 => up_n (by omega)), (up_n (by omega)).trans j2, ⟨?_, ?_, ?_, ?_, ?_, ?_, ?_⟩, (up_n (by omega)).trans j36, j5, (up_n (by omega)).trans j33, fun i hi => ?_⟩, rfl⟩⟩
        · unfold SMp at y
          rw [up_n (by omega), up_n (by omega)]
          exact hF1 a j (by unfold SMp; omega)
        · show 0 < szs ([o])
          show 0 < o.2 + 0
          omega
        · show o.2 + 0 ≤ _
          omega
        · show up _ _ _ _ 4590 rb.length = _
          rw [up_n (by omega)]
          exact b3
        · rw [up_n (by omega)]
          exact b4
        · right
          exact up_s
        · show (0 : Nat) = _
          rw [if_neg (by
            show ¬ up _ 4591 rb.length 1 4591 rb.length = 0
            rw [up_s]
            decide)]
        · show MBs _ b (lnF rl) (rl.length - (o.2 + 0)) rb
          exact MBs_keep b7 (fun j hj => ⟨up_n (by omega), up_n (by omega)⟩) (fun j hj => ⟨up_n (by omega), rfl⟩)
        · rw [up_n (by omega), up_n (by omega), up_n (by omega), up_n (by omega), up_n (by omega)]
          exact j7 i hi
      · obtain ⟨m1, m2⟩ := mr4.2.1 z
        have wh : wgt (h :: hs) = wgt hs + 1 := by
          rw [wgt_c, z, if_neg (by decide), Nat.add_comm]
        rw [z, if_pos (show (Int32.ofNat (1)) = (1 : Int32) from rfl), gr_4561_38 hR, gi_4561, up_s, ga_4593 hl1, up_n (by omega), o2 (by omega), if_pos z, gr_4561_39 hR, gi_4561, up_s, ga_4594 hl1, up_n (by omega), lv, if_pos ok_4561, if_pos rfl]
        refine q_bind (M_does (x := (2, (Int32.ofNat (h.2.1)), -1, h.2.2.2)) hR hh2 m2 mr4.1 (by omega)) ?_
        rintro _ ⟨I2, rfl, hF2, hS2⟩
        rw [nb_leaf (show (2 : Int32) ≠ 3 by decide)] at hS2
        refine q_ok ⟨I2, 1, rfl, fun a j y => ?_, Or.inl ⟨_, rfl, rfl, hS2, rfl⟩⟩
        unfold SMp at y
        rw [hF2 a j (by omega), up_n (by omega)]
        exact hF1 a j (by unfold SMp; omega)
end RP
