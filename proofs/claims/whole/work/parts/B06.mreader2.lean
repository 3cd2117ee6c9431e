/-! the reference's reader: words, and the whole reading -/
section RN
variable {I : Nat → Nat → Int32} {J : Nat → Nat → Int64} {R : Nat → Nat → Option Nat} {b : GB} {β : Type} {m : Nat} {W : Nat → Wd} {P : Nat → Nat} {g : Nat → Bool}
theorem M_next {k : Nat} {x : Int32} {F : Int32 → Option β} (hR : RA R) (hW : MWd I m W P g) (hx : x + 1 = (Int32.ofNat (k))) (hk : k ≤ m) : (f_X12_nextWord (mg 4625 I J R) 4561 x).bind F = F (Int32.ofNat (nxg g (m - k) k)) := by
  have hm := hW.1
  have key : f_X12_nextWord (mg 4625 I J R) 4561 x = some (Int32.ofNat (nxg g (m - k) k)) := by
    refine QK_eq ?_
    unfold f_X12_nextWord
    rw [hx, q_let]
    refine q_bind (P := fun r => r = .inr (Int32.ofNat (nxg g (m - k) k))) ?_ ?_
    · refine q_loop (fun n s => ∃ j, s = (4561, (Int32.ofNat (j))) ∧ k ≤ j ∧ j + n = m ∧ nxg g (m - j) j = nxg g (m - k) k) ?_ (m := m - k) ⟨k, rfl, Nat.le_refl _, by omega, rfl⟩ (by unfold xF; omega)
      rintro n s ⟨j, rfl, h1, h3, h4⟩
      unfold f_X12_nextWord_s4
      dsimp only
      rw [q_let, q_let, gi_4561, hW.2.1]
      by_cases q : j < m
      · rw [if_neg (show ¬ (Int32.ofNat (m)) ≤ (Int32.ofNat (j)) from fun y => absurd ((i32_le (by omega) (by omega)).mp y) (by omega)), gr_4561_24 hR, ga_4583 (by omega), (hW.2.2 j q).2.2.2.1]
        rw [show m - j = m - (j + 1) + 1 by omega, nxg_c] at h4
        by_cases z : g j = true
        · rw [if_pos z] at h4
          rw [if_pos z, if_neg (by decide), q_let, show (Int32.ofNat (j)) + 1 = (Int32.ofNat (j + 1)) from n_add j 1]
          exact q_go ⟨n - 1, by omega, j + 1, rfl, by omega, by omega, h4⟩
        · rw [if_neg z] at h4
          rw [if_neg z, if_pos rfl]
          exact q_ex (by rw [h4])
      · have e : nxg g (m - j) j = j := by
          rw [show m - j = 0 by omega]
          rfl
        rw [e] at h4
        rw [if_pos (show (Int32.ofNat (m)) ≤ (Int32.ofNat (j)) from (i32_le (by omega) (by omega)).mpr (by omega))]
        exact q_ex (by rw [h4])
    · rintro _ rfl
      simp only [Sum.elim_inr]
      unfold f_X12_nextWord_j27
      exact q_ok rfl
  rw [key]
  rfl
theorem MWd_v {i : Nat} (hW : MWd I m W P g) (hi : i < m) : I 4579 i = kM (W i).1 ∧ I 4580 i = wvI (W i) ∧ I 4581 i = (Int32.ofNat (P i)) ∧ WOK (W i) := ⟨(hW.2.2 i hi).1, (hW.2.2 i hi).2.1, (hW.2.2 i hi).2.2.1, (hW.2.2 i hi).2.2.2.2⟩
/-- what the kind of a word tells the reference -/
theorem kM_eq {k n : Nat} (hn : n ≤ 6 ∧ n ≠ 2) : kM k = kM n ↔ k = n := by
  have key : ∀ n, n ≤ 6 → n ≠ 2 → kM n ≠ -1 := by decide
  constructor
  · intro e
    by_cases h : k ≤ 6 ∧ k ≠ 2
    · have k2 : ∀ k, k ≤ 6 → ∀ n, n ≤ 6 → k ≠ 2 → n ≠ 2 → kM k = kM n → k = n := by decide
      exact k2 k h.1 n hn.1 h.2 hn.2 e
    · have : kM k = -1 := by
        unfold kM
        rw [if_neg (by omega), if_neg (by omega), if_neg (by omega), if_neg (by omega), if_neg (by omega), if_neg (by omega)]
      rw [this] at e
      exact absurd e.symm (key n hn.1 hn.2)
  · rintro rfl
    rfl
theorem kM_ifT {α : Type} {k : Nat} {A B : α} (n : Nat) (c : Int32) (hc : c = kM n) (h : k = n) : (if kM k = c then A else B) = A := if_pos (by rw [hc, h])
theorem kM_ifF {α : Type} {k : Nat} {A B : α} (n : Nat) (c : Int32) (hc : c = kM n) (hn : n ≤ 6 ∧ n ≠ 2) (h : k ≠ n) : (if kM k = c then A else B) = B := if_neg (by rw [hc]; exact fun y => h ((kM_eq hn).mp y))
theorem M_operand {k : Nat} {st : PS} (hR : RA R) (hM : MTb I b) (hT : TbOK b) (hW : MWd I m W P g) (hS : MH3 I b st.1 st.2.1 st.2.2.1) (hw : st.2.2.2 = true) (hk : k < m) (c1 : st.1.length < 300) (c2 : st.2.2.1.length + nwd (W k) ≤ 80) : QK (f_X12_operand (mg 4625 I J R) 4561 (Int32.ofNat (k))) (fun r => ∃ I' x, r = (x, mg 4625 I' J R) ∧ FrK SMp I I' ∧ ((isCl (k, W k) st (vis W g (m - (k + 1)) (k + 1)) = true ∧ x = 1 ∧ MH3 I' b (stF (W k).2 st).1 (stF (W k).2 st).2.1 (stF (W k).2 st).2.2.1) ∨ (isCl (k, W k) st (vis W g (m - (k + 1)) (k + 1)) = false ∧ ((∃ st', stO b (W k) st = some st' ∧ x = 1 ∧ MH3 I' b st'.1 st'.2.1 st'.2.2.1 ∧ st'.2.2.2 = decide ((W k).1 = 3 ∨ (W k).1 = 4)) ∨ (stO b (W k) st = none ∧ x = 0))))) := by
  obtain ⟨H, bs, ln, wt⟩ := st
  dsimp only at hw hS c1 c2
  subst hw
  have hm := hW.1
  obtain ⟨w1, w2, w3, w4⟩ := MWd_v hW hk
  have noCl : (W k).1 ≠ 1 → isCl (k, W k) (H, bs, ln, true) (vis W g (m - (k + 1)) (k + 1)) = false := fun z => by
    unfold isCl
    split
    · rfl
    · simp [z]
  unfold f_X12_operand
  rw [gr_4561_20 hR, ga_4579 (by omega), w1]
  have leaf : ∀ kd : Int32, ((W k).1 = 0 ∧ kd = 0) ∨ ((W k).1 = 1 ∧ kd = 1) → QK (f_X12_does (mg 4625 I J R) 4561 kd (wvI (W k)) (-1) 0) (fun r => ∃ I', r = mg 4625 I' J R ∧ FrK SMp I I' ∧ ∃ st', stO b (W k) (H, bs, ln, true) = some st' ∧ MH3 I' b st'.1 st'.2.1 st'.2.2.1 ∧ st'.2.2.2 = decide ((W k).1 = 3 ∨ (W k).1 = 4)) := by
    intro kd hkd
    have hn : nwd (W k) = 1 := by unfold nwd; rcases hkd with z | z <;> rw [z.1] <;> rfl
    have hv : wvI (W k) = (Int32.ofNat ((W k).2)) := by unfold wvI; rw [if_neg (by omega)]
    rw [hv]
    refine q_mono (M_does (x := (kd, (Int32.ofNat ((W k).2)), -1, 0)) hR hS (Nat.zero_le _) (Nat.zero_le _) (by omega)) ?_
    rintro _ ⟨I2, rfl, hF2, hS2⟩
    refine ⟨I2, rfl, fun a j y => hF2 a j (fun z => y (by unfold SMp; omega)), ?_⟩
    rw [nb_leaf (show kd ≠ 3 by rcases hkd with z | z <;> rw [z.2] <;> decide)] at hS2
    unfold stO
    rcases hkd with ⟨z, rfl⟩ | ⟨z, rfl⟩
    · rw [if_pos z]
      exact ⟨_, rfl, hS2, by rw [z]; rfl⟩
    · rw [if_neg (by omega), if_pos z]
      exact ⟨_, rfl, hS2, by rw [z]; rfl⟩
  rcases w4 with z | z | z | z
  · rw [kM_ifT 0 0 rfl z.1, gr_4561_21 hR, ga_4580 (by omega), w2, if_pos ok_4561]
    obtain ⟨_, e, I', rfl, hF, st', e2, hs', hd⟩ := leaf 0 (Or.inl ⟨z.1, rfl⟩)
    rw [e]
    exact ⟨_, rfl, I', 1, rfl, hF, Or.inr ⟨noCl (by omega), Or.inl ⟨st', e2, rfl, hs', hd⟩⟩⟩
  · rw [kM_ifF 0 0 rfl (by decide) (by omega), kM_ifT 1 1 rfl z.1, if_pos ok_4561, M_next hR hW (n_add k 1) (by omega), gi_4561, hW.2.1]
    obtain ⟨n1, n2, n3, n4⟩ := nxg_ok (W := W) (g := g) (m := m) (m - (k + 1)) (k + 1) (by omega)
    generalize hj : nxg g (m - (k + 1)) (k + 1) = j at n1 n2 n3 n4 ⊢
    have j90 : isCl (k, W k) (H, bs, ln, true) (vis W g (m - (k + 1)) (k + 1)) = false → QK (f_X12_operand_j90 (mg 4625 I J R) 4561 (Int32.ofNat (k))) (fun r => ∃ I' x, r = (x, mg 4625 I' J R) ∧ FrK SMp I I' ∧ ((isCl (k, W k) (H, bs, ln, true) (vis W g (m - (k + 1)) (k + 1)) = true ∧ x = 1 ∧ MH3 I' b (stF (W k).2 (H, bs, ln, true)).1 (stF (W k).2 (H, bs, ln, true)).2.1 (stF (W k).2 (H, bs, ln, true)).2.2.1) ∨ (isCl (k, W k) (H, bs, ln, true) (vis W g (m - (k + 1)) (k + 1)) = false ∧ ((∃ st', stO b (W k) (H, bs, ln, true) = some st' ∧ x = 1 ∧ MH3 I' b st'.1 st'.2.1 st'.2.2.1 ∧ st'.2.2.2 = decide ((W k).1 = 3 ∨ (W k).1 = 4)) ∨ (stO b (W k) (H, bs, ln, true) = none ∧ x = 0))))) := by
      intro ic
      unfold f_X12_operand_j90 f_X12_operand_j103
      rw [gr_4561_21 hR, ga_4580 (by omega), w2, if_pos ok_4561]
      obtain ⟨_, e, I', rfl, hF, st', e2, hs', hd⟩ := leaf 1 (Or.inr ⟨z.1, rfl⟩)
      rw [e]
      exact ⟨_, rfl, I', 1, rfl, hF, Or.inr ⟨ic, Or.inl ⟨st', e2, rfl, hs', hd⟩⟩⟩
    by_cases qj : j < m
    · rw [if_neg (show ¬ (Int32.ofNat (m)) ≤ (Int32.ofNat (j)) from fun y => absurd ((i32_le (by omega) (by omega)).mp y) (by omega)), gr_4561_20 hR, ga_4579 (by omega), (MWd_v hW qj).1]
      by_cases q4 : (W j).1 = 4
      · have ic : isCl (k, W k) (H, bs, ln, true) (vis W g (m - (k + 1)) (k + 1)) = true := by
          rw [(n4 qj).2]
          unfold isCl
          simp [z.1, q4]
        rw [kM_ifT 4 3 rfl q4, gr_4561_21 hR, ga_4580 (by omega), w2, if_pos ok_4561]
        unfold f_X12_operand_j103
        refine q_bind (M_opens (h := (1, (W k).2, 0, 1)) hR hS (by omega) rfl (fun _ => ?_) ?_) ?_
        · rw [if_pos rfl]
          unfold wvI
          rw [if_neg (by omega)]
        · rw [if_pos rfl]
          rfl
        · rintro _ ⟨I2, rfl, hF2, hS2⟩
          exact q_ok ⟨I2, 1, rfl, fun a j y => hF2 a j (fun w => y (by unfold SMp; omega)), Or.inl ⟨ic, rfl, hS2⟩⟩
      · rw [kM_ifF 4 3 rfl (by decide) q4]
        refine j90 ?_
        rw [(n4 qj).2]
        unfold isCl
        simp
        exact fun _ => q4
    · rw [if_pos (show (Int32.ofNat (m)) ≤ (Int32.ofNat (j)) from (i32_le (by omega) (by omega)).mpr (by omega))]
      refine j90 ?_
      rw [n3 (by omega)]
      rfl
  · have hv : wvI (W k) = (Int32.ofNat (sgc (W k).2)) := by unfold wvI; rw [if_pos z.1]
    have r9 := (rk_i hT z.2 (show 0 < 3 by decide)).2
    rw [kM_ifF 0 0 rfl (by decide) (by omega), kM_ifF 1 1 rfl (by decide) (by omega), kM_ifT 3 2 rfl z.1, gr_4561_21 hR, ga_4580 (by omega), w2, hv, if_pos ok_4561, show (0 : Int32) = (Int32.ofNat (0)) from rfl, M_rankOf hR hM hT z.2 (by decide)]
    unfold f_X12_operand_j144 f_X12_operand_j153
    unfold stO
    rw [if_neg (show ¬ (W k).1 = 0 by omega), if_neg (show ¬ (W k).1 = 1 by omega), if_pos z.1]
    by_cases q : 0 < rkN b (W k).2 0
    · rw [if_neg (show ¬ (Int32.ofNat (rkN b (W k).2 0)) ≤ (Int32.ofNat (0)) from fun y => absurd ((i32_le (by omega) (by omega)).mp y) (by omega)), gr_4561_21 hR, ga_4580 (by omega), w2, hv, if_pos ok_4561, if_pos q]
      refine q_bind (M_opens (h := (2, (W k).2, rkN b (W k).2 0 + 1, 0)) hR hS (by omega) rfl (fun _ => ?_) ?_) ?_
      · rfl
      · exact n_add _ 1
      · rintro _ ⟨I2, rfl, hF2, hS2⟩
        rw [if_neg (show ¬ (Int32.ofNat (rkN b (W k).2 0)) ≤ (0 : Int32) from fun y => absurd ((i32_le (m := 0) (by omega) (by omega)).mp y) (by omega)), q_xz1]
        exact q_ok ⟨I2, 1, rfl, fun a j y => hF2 a j (fun w => y (by unfold SMp; omega)), Or.inr ⟨noCl (by omega), Or.inl ⟨_, rfl, rfl, hS2, by rw [z.1]; rfl⟩⟩⟩
    · rw [if_pos (show (Int32.ofNat (rkN b (W k).2 0)) ≤ (Int32.ofNat (0)) from (i32_le (by omega) (by omega)).mpr (by omega)), if_pos (show (Int32.ofNat (rkN b (W k).2 0)) ≤ (0 : Int32) from (i32_le (m := 0) (by omega) (by omega)).mpr (by omega)), q_xz0, if_neg q]
      exact q_ok ⟨I, 0, rfl, FrK_rfl, Or.inr ⟨noCl (by omega), Or.inr ⟨rfl, rfl⟩⟩⟩
  · rw [kM_ifF 0 0 rfl (by decide) (by omega), kM_ifF 1 1 rfl (by decide) (by omega), kM_ifF 3 2 rfl (by decide) (by omega)]
    unfold stO
    rw [if_neg (show ¬ (W k).1 = 0 by omega), if_neg (show ¬ (W k).1 = 1 by omega), if_neg (show ¬ (W k).1 = 3 by omega)]
    by_cases q : (W k).1 = 4
    · rw [kM_ifT 4 3 rfl q, if_pos ok_4561, if_pos q]
      refine q_bind (M_opens (h := (0, 0, 0, 0)) hR hS (by omega) rfl (fun y => absurd rfl y) ?_) ?_
      · rfl
      · rintro _ ⟨I2, rfl, hF2, hS2⟩
        exact q_ok ⟨I2, 1, rfl, fun a j y => hF2 a j (fun w => y (by unfold SMp; omega)), Or.inr ⟨noCl (by omega), Or.inl ⟨_, rfl, rfl, hS2, by rw [q]; rfl⟩⟩⟩
    · rw [kM_ifF 4 3 rfl (by decide) q, if_neg q]
      exact q_ok ⟨I, 0, rfl, FrK_rfl, Or.inr ⟨noCl (by omega), Or.inr ⟨rfl, rfl⟩⟩⟩
/-- nodes that can be done -/
def NdW (x : Nd) : Prop := (x.1 = 0 ∨ x.1 = 1 ∨ x.1 = 2) ∨ ∃ p fx, p < 16 ∧ fx ≤ 2 ∧ x = opNd p fx
def LW (ln : List Ln) : Prop := ∀ x, x ∈ ln → NdW x.1
theorem lnF_mem : ∀ (ln : List Ln) (i : Nat), i < ln.length → ∃ x, x ∈ ln ∧ lnF ln i = x.1 := by
  intro ln
  induction ln with
  | nil => intro i hi; exact absurd hi (Nat.not_lt_zero _)
  | cons y l ih =>
    intro i hi
    show ∃ x, x ∈ y :: l ∧ ext (lnF l) l.length y.1 i = x.1
    unfold ext
    by_cases z : i = l.length
    · rw [if_pos z]
      exact ⟨y, List.mem_cons_self .., rfl⟩
    · rw [if_neg z]
      rw [List.length_cons] at hi
      obtain ⟨x, h1, h2⟩ := ih i (by omega)
      exact ⟨x, List.mem_cons_of_mem _ h1, h2⟩
theorem red_LW {least : Nat} : ∀ (H : List Hd) (bs : List Oe) (ln : List Ln), HOK b H → LW ln → LW (red least H bs ln).2.2 := by
  intro H
  induction H with
  | nil => intro bs ln _ hb; exact hb
  | cons h hs ih =>
    intro bs ln hH hb
    unfold red
    by_cases q : least < h.2.2.1
    · rw [if_pos q]
      refine ih _ _ hH.2 (fun o ho => ?_)
      rcases List.mem_cons.mp ho with rfl | ho
      · refine Or.inr ⟨h.2.1, if h.1 = 3 then 2 else 0, ?_, by split <;> omega, rfl⟩
        rcases hH.1 with z | z | z | z
        · rw [z.2] at q; exact absurd q (Nat.not_lt_zero _)
        · omega
        · exact z.2.1
        · exact z.2.1
      · exact hb o ho
    · rw [if_neg q]
      exact hb
theorem stA_LW {w : Wd} {st st' : PS} (hH : HOK b st.1) (hw : WOK w) (hB : LW st.2.2.1) (e : stA b w st = some st') : LW st'.2.2.1 := by
  have c0 : ∀ (x : Ln) {l : List Ln}, NdW x.1 → LW l → LW (x :: l) := fun x l h1 h o ho => by
    rcases List.mem_cons.mp ho with rfl | ho
    · exact h1
    · exact h o ho
  have cl : ∀ c, clS c (red 0 st.1 st.2.1 st.2.2.1) = some st' → LW st'.2.2.1 := by
    intro c e
    have hb := red_LW (least := 0) st.1 st.2.1 st.2.2.1 hH hB
    generalize red 0 st.1 st.2.1 st.2.2.1 = r at e hb
    obtain ⟨rH, rb, rl⟩ := r
    rcases rH with _ | ⟨h, hs⟩
    · cases e
    · unfold clS at e
      dsimp only at e
      split at e
      · split at e
        · cases e
          exact hb
        · cases e
      · split at e
        · cases e
          exact c0 _ (Or.inl (Or.inr (Or.inr rfl))) hb
        · cases e
          exact hb
  unfold stA at e
  split at e
  · unfold stO at e
    split at e
    · cases e
      exact c0 _ (Or.inl (Or.inl rfl)) hB
    · split at e
      · cases e
        exact c0 _ (Or.inl (Or.inr (Or.inl rfl))) hB
      · split at e
        · split at e
          · cases e
            exact hB
          · cases e
        · split at e
          · cases e
            exact hB
          · cases e
  · split at e
    · next q3 =>
      have hp : w.2 < 16 := by
        rcases hw with z | z | z | z <;> omega
      unfold stS at e
      split at e
      · cases e
        exact c0 _ (Or.inr ⟨w.2, 1, hp, by decide, rfl⟩) (red_LW _ _ _ hH hB)
      · split at e
        · cases e
        · split at e
          · cases e
          · cases e
            exact red_LW _ _ _ hH hB
    · split at e
      · exact cl false e
      · split at e
        · exact cl true e
        · cases e
/-- whether what waits last is between two with a rank and neither side -/
theorem M_isNeither {H : List Hd} {o : Oe} {bs : List Oe} {ln : List Ln} {r : Nat} (hR : RA R) (hM : MTb I b) (hT : TbOK b) (hh : MH3 I b H (o :: bs) ln) (hL : LW ln) (hr : 0 < r ∧ r ≤ 9) (hs : ∀ q, q < 16 → rkN b q 2 = r → sdN b q = 2) : f_X12_isNeither (mg 4625 I J R) 4561 (Int32.ofNat (r)) = some (if o.1 = r then 1 else 0) := by
  obtain ⟨h1, h2, ⟨b1, b2, b3, b4, b5, b6, b7⟩, h36, h5, h33, h7⟩ := hh
  have bl := MBs_len b7
  rw [List.length_cons] at h36
  have hi : ln.length - 1 < ln.length := by omega
  obtain ⟨x, hx1, hx2⟩ := lnF_mem ln _ hi
  have hx := hL x hx1
  rw [← hx2] at hx
  obtain ⟨v1, v2, v3, -⟩ := h7 _ hi
  generalize lnF ln (ln.length - 1) = y at b6 hx v1 v2 v3
  unfold f_X12_isNeither f_X12_isNeither_j65 f_X12_isNeither_j66
  rw [gr_4561_34 hR, gi_4561, h36, i32_pred, ga_4590 (by omega), b3, gr_4561_35 hR, gi_4561, h36, i32_pred, ga_4591 (by omega)]
  by_cases q0 : I 4591 bs.length = 0
  · rw [if_pos q0] at b6
    rw [if_pos q0, gr_4561_27 hR, ga_4584 (by omega), v1]
    rcases hx with hx | ⟨p, fx, hp, hf, rfl⟩
    · have n3 : y.1 ≠ 3 := by
        rcases hx with z | z | z <;> rw [z] <;> decide
      rw [nb_leaf n3] at b6
      rw [if_neg n3, q_xz0, if_neg (by omega)]
    · rw [nb_op hp hf] at b6
      rw [if_pos (show (opNd p fx).1 = 3 from rfl), gr_4561_29 hR, ga_4586 (by omega), v3]
      by_cases qf : fx = 2
      · rw [if_pos qf] at b6
        rw [if_pos (show (opNd p fx).2.2.1 = 2 by rw [qf]; rfl), gr_4561_28 hR, ga_4585 (by omega), v2, if_pos ok_4561, show (opNd p fx).2.1 = (Int32.ofNat (sgc p)) from rfl, show (2 : Int32) = (Int32.ofNat (2)) from rfl, M_rankOf hR hM hT hp (by decide)]
        have r9 := (rk_i hT hp (show 2 < 3 by decide)).2
        by_cases qr : rkN b p 2 = r
        · rw [if_pos (show (Int32.ofNat (rkN b p 2)) = (Int32.ofNat (r)) by rw [qr]), q_xz1]
          rw [if_pos (hs p hp qr)] at b6
          rw [if_pos (by omega)]
        · rw [if_neg (i32_ne (by omega) (by omega) qr), q_xz0, if_neg (by
            rw [b6]
            split <;> omega)]
      · rw [if_neg qf] at b6
        rw [if_neg (show ¬ (opNd p fx).2.2.1 = 2 from i32_ne (b := 2) (by omega) (by omega) qf), q_xz0, if_neg (by omega)]
  · rw [if_neg q0] at b6
    rw [if_neg q0, q_xz0, if_neg (by omega)]
end RN
