/-! brackets that may go, in the class -/
/-- what is not hidden makes the tree -/
def GoodW (b : GB) (W : Nat → Wd) (m n : Nat) (nd : Nat → Nd) (sp : Nat → Nat) (g : Nat → Bool) : Prop := ∃ ln, acc (run b (vis W g m 0) st0) = some ln ∧ n = ln.length ∧ ∀ x, x < n → nd x = lnF ln (pl sp x)
def hs (j c : Nat) (v : Bool) (g : Nat → Bool) : Nat → Bool := fun i => if i = j ∨ i = c then v else g i
theorem hs_hs (j c : Nat) (v w : Bool) (g : Nat → Bool) : hs j c v (hs j c w g) = hs j c v g := by
  funext i
  unfold hs
  split <;> rfl
noncomputable def stp (G : (Nat → Bool) → Prop) (P : Nat → Nat) (j : Nat) (g : Nat → Bool) : Nat → Bool := if P j = 0 then g else @ite (Nat → Bool) (G (hs j (P j) true g)) (Classical.propDecidable _) (hs j (P j) true g) (hs j (P j) false g)
noncomputable def hdn (G : (Nat → Bool) → Prop) (P : Nat → Nat) : Nat → Nat → Bool
  | 0 => fun _ => false
  | j + 1 => stp G P j (hdn G P j)
section CHD
variable {I : Nat → Nat → Int32} {J : Nat → Nat → Int64} {R : Nat → Nat → Option Nat} {b : GB} {m a n len : Nat} {W : Nat → Wd} {P P2 : Nat → Nat} {g : Nat → Bool} {nd : Nat → Nd} {sp : Nat → Nat} {β : Type}
theorem C_kindAtm {F : Int32 → Option β} : (f_X6_kindAt (mg (4562 + zn J) I J R) 540 (-1)).bind F = F 9 := by
  unfold f_X6_kindAt f_X6_kindAt_j21 f_X6_kindAt_j23
  rw [if_pos (by first | decide | omega)]
  rfl
theorem C_opens1 {j : Nat} {F : Int32 → Option β} (hR : RA R) (hW : CWd I m W P g) (hj : j < m) (h : opn W j) : (f_X6_opensPair (mg (4562 + zn J) I J R) 540 (Int32.ofNat (j))).bind F = F 1 := by
  have m300 := hW.1
  unfold f_X6_opensPair f_X6_opensPair_j24 f_X6_opensPair_j25
  rw [if_pos ok_540, C_kindAt hR hW (by omega), if_pos hj, if_pos (show (Int32.ofNat ((W j).1)) = 4 by rw [h.1]; rfl), if_pos ok_540]
  by_cases z : j = 0
  · subst z
    rw [show (Int32.ofNat (0)) - (1 : Int32) = -1 from rfl, C_kindAtm, if_neg (by first | decide | omega)]
    rfl
  · rw [show (Int32.ofNat (j)) - (1 : Int32) = (Int32.ofNat (j - 1)) from n_sub (b := 1) (by omega), C_kindAt hR hW (by omega), if_pos (show j - 1 < m by omega), if_neg]
    · rfl
    · have := h.2 (by omega)
      have w := (hW.2.2 (j - 1) (by omega)).2.2.2.2.1
      refine i32_ne (b := 1) ?_ (by omega) this
      rcases w with y | y | y | y <;> omega
theorem C_opens0 {j : Nat} {F : Int32 → Option β} (hR : RA R) (hW : CWd I m W P g) (hj : j < m) (h : ¬ opn W j) : (f_X6_opensPair (mg (4562 + zn J) I J R) 540 (Int32.ofNat (j))).bind F = F 0 := by
  have m300 := hW.1
  have w := (hW.2.2 j hj).2.2.2.2.1
  unfold f_X6_opensPair f_X6_opensPair_j24 f_X6_opensPair_j25
  rw [if_pos ok_540, C_kindAt hR hW (by omega), if_pos hj]
  by_cases q : (W j).1 = 4
  · have z : 0 < j ∧ (W (j - 1)).1 = 1 := by
      refine Classical.byContradiction (fun y => h ⟨q, fun z w => y ⟨z, w⟩⟩)
    rw [if_pos (show (Int32.ofNat ((W j).1)) = 4 by rw [q]; rfl), if_pos ok_540, show (Int32.ofNat (j)) - (1 : Int32) = (Int32.ofNat (j - 1)) from n_sub (b := 1) (by omega), C_kindAt hR hW (by omega), if_pos (show j - 1 < m by omega), if_pos (show (Int32.ofNat ((W (j - 1)).1)) = 1 by rw [z.2]; rfl)]
    rfl
  · rw [if_neg (show ¬ (Int32.ofNat ((W j).1)) = 4 from i32_ne (b := 4) (by rcases w with y | y | y | y <;> omega) (by omega) q)]
    rfl
theorem C_partnerOf {j c : Nat} {F : Int32 → Option β} (hR : RA R) (hW : CWd I m W P g) (h : prd W m j c) : (f_X6_partnerOf (mg (4562 + zn J) I J R) 540 (Int32.ofNat (j))).bind F = F (Int32.ofNat (c)) := by
  obtain ⟨h1, h2, h3, h4, h5, h6⟩ := h
  have m300 := hW.1
  have key : QK (f_X6_partnerOf (mg (4562 + zn J) I J R) 540 (Int32.ofNat (j))) (fun r => r = (Int32.ofNat (c))) := by
    unfold f_X6_partnerOf
    rw [q_let]
    refine q_bind (P := fun r => r = .inr (.inl (Int32.ofNat (c)))) ?_ ?_
    · refine q_for c (fun k s => ∃ d : Nat, (d : Int) = dD W k - dD W j ∧ d + j ≤ k ∧ s = (540, (Int32.ofNat (j)), (Int32.ofNat (d)), (Int32.ofNat (k)))) ?_ ?_ (i := j) ⟨0, by show (0 : Int) = _; omega, by omega, rfl⟩ (by omega) (by unfold xF; omega)
      · rintro k s hk ⟨d, e, hd, rfl⟩
        have w := (hW.2.2 k (by omega)).2.2.2.2.1
        have w1 := (hW.2.2 k (by omega)).1
        have k8 : (W k).1 ≤ 8 := by rcases w with y | y | y | y <;> omega
        have jk : j ≤ k := by omega
        have e2 := dD_c W k
        have e3 := h6 (k + 1) (by omega) (by omega)
        unfold f_X6_partnerOf_s4 f_X6_partnerOf_j47
        dsimp only
        rw [q_let, q_let, q_let, q_let, gi_540, hW.2.1, if_neg (show ¬ (Int32.ofNat (m)) ≤ (Int32.ofNat (k)) from fun y => absurd ((i32_le (by omega) (by omega)).mp y) (by omega)), gr_540_1 hR, ga_541 (by omega), w1]
        unfold dvI at e2
        by_cases q4 : (W k).1 = 4
        · rw [if_pos q4] at e2
          rw [if_pos (show (Int32.ofNat ((W k).1)) = 4 by rw [q4]; rfl), q_let, q_let, show (Int32.ofNat (d)) + (1 : Int32) = (Int32.ofNat (d + 1)) from n_add d 1, show (Int32.ofNat (k)) + (1 : Int32) = (Int32.ofNat (k + 1)) from n_add k 1]
          exact q_go ⟨d + 1, by omega, by omega, rfl⟩
        · rw [if_neg q4] at e2
          rw [if_neg (show ¬ (Int32.ofNat ((W k).1)) = 4 from i32_ne (b := 4) (by omega) (by omega) q4), gr_540_1 hR, ga_541 (by omega), w1]
          by_cases q5 : (W k).1 = 5
          · rw [if_pos q5] at e2
            have d2 : 2 ≤ d := by omega
            rw [if_pos (show (Int32.ofNat ((W k).1)) = 5 by rw [q5]; rfl), q_let, show (Int32.ofNat (d)) + (-1 : Int32) = (Int32.ofNat (d - 1)) from n_dec (by omega), if_neg (show ¬ (Int32.ofNat (d - 1)) = 0 from i32_ne (b := 0) (by omega) (by omega) (by omega)), q_let, show (Int32.ofNat (k)) + (1 : Int32) = (Int32.ofNat (k + 1)) from n_add k 1]
            exact q_go ⟨d - 1, by omega, by omega, rfl⟩
          · rw [if_neg q5] at e2
            rw [if_neg (show ¬ (Int32.ofNat ((W k).1)) = 5 from i32_ne (b := 5) (by omega) (by omega) q5), q_let, show (Int32.ofNat (k)) + (1 : Int32) = (Int32.ofNat (k + 1)) from n_add k 1]
            exact q_go ⟨d, by omega, by omega, rfl⟩
      · rintro s ⟨d, e, hd, rfl⟩
        have w1 := (hW.2.2 c h3).1
        have e2 := dD_c W c
        unfold dvI at e2
        rw [if_neg (show ¬ (W c).1 = 4 by omega), if_pos h4] at e2
        unfold f_X6_partnerOf_s4 f_X6_partnerOf_j47
        dsimp only
        rw [q_let, q_let, q_let, q_let, gi_540, hW.2.1, if_neg (show ¬ (Int32.ofNat (m)) ≤ (Int32.ofNat (c)) from fun y => absurd ((i32_le (by omega) (by omega)).mp y) (by omega)), gr_540_1 hR, ga_541 (by omega), w1, h4, if_neg (show ¬ (Int32.ofNat (5)) = 4 by decide), gr_540_1 hR, ga_541 (by omega), w1, h4, if_pos (show (Int32.ofNat (5)) = 5 from rfl), q_let, show (Int32.ofNat (d)) + (-1 : Int32) = (Int32.ofNat (d - 1)) from n_dec (by omega), if_pos (show (Int32.ofNat (d - 1)) = 0 by rw [show d - 1 = 0 by omega]; rfl)]
        exact q_ex rfl
    · intro r hr
      rw [hr]
      simp only [Sum.elim_inr, Sum.elim_inl]
      unfold f_X6_partnerOf_j45
      exact q_ok rfl
  obtain ⟨r, e, hr⟩ := key
  rw [e, hr]
  rfl
def Fdb : Nat → Nat → Prop := fun a k => (a = 540 ∧ (k = 7 ∨ k = 8 ∨ k = 14 ∨ k = 16)) ∨ (544 ≤ a ∧ a ≤ 558)
theorem C_hide {j c : Nat} {v : Bool} (hR : RA R) (hW : CWd I m W P g) (hj : j < m) (hc : c < m) : QK (f_X6_hide (mg (4562 + zn J) I J R) 540 (Int32.ofNat (j)) (Int32.ofNat (c)) (if v = true then 1 else 0)) (fun r => ∃ I', r = mg (4562 + zn J) I' J R ∧ FrK (fun a _ => a = 544) I I' ∧ CWd I' m W P (hs j c v g)) := by
  have m300 := hW.1
  have v01 : ((if v = true then (1 : Int32) else 0) == 0 || (if v = true then (1 : Int32) else 0) == 1) = true := by cases v <;> rfl
  unfold f_X6_hide f_X6_hide_j38
  rw [if_neg (show ¬ (Int32.ofNat (j)) < (0 : Int32) from fun y => absurd ((i32_lt (m := 0) (by omega) (by omega)).mp y) (Nat.not_lt_zero _)), gi_540, hW.2.1, if_neg (show ¬ (Int32.ofNat (m)) ≤ (Int32.ofNat (j)) from fun y => absurd ((i32_le (by omega) (by omega)).mp y) (by omega)), if_neg (show ¬ (Int32.ofNat (c)) < (0 : Int32) from fun y => absurd ((i32_lt (m := 0) (by omega) (by omega)).mp y) (Nat.not_lt_zero _)), gi_540, hW.2.1, if_neg (show ¬ (Int32.ofNat (m)) ≤ (Int32.ofNat (c)) from fun y => absurd ((i32_le (by omega) (by omega)).mp y) (by omega)), gr_540_4 hR, gz_544 (by omega) v01, gr_540_4 hR, gz_544 (by omega) v01]
  refine q_ok ⟨_, rfl, fun x k y => ?_, m300, ?_, fun i hi => ?_⟩
  · have y : x ≠ 544 := y
    rw [up_n (by omega), up_n (by omega)]
  · rw [up_n (by omega), up_n (by omega)]
    exact hW.2.1
  · obtain ⟨y1, y2, y3, y4, y5, y6⟩ := hW.2.2 i hi
    rw [up_n (by omega), up_n (by omega), up_n (by omega), up_n (by omega), up_n (by omega), up_n (by omega)]
    refine ⟨y1, y2, y3, ?_, y5, y6⟩
    unfold hs
    by_cases q : i = c
    · rw [q, up_s, if_pos (Or.inr rfl)]
    · rw [up_n (by omega)]
      by_cases q2 : i = j
      · rw [q2, up_s, if_pos (Or.inl rfl)]
      · rw [up_n (by omega), if_neg (show ¬ (i = j ∨ i = c) from fun z => z.elim q2 q)]
        exact y4
theorem C_stacksGive (hR : RA R) (hC : CTb I b) (hT : TbOK b) (hW : CWd I m W P g) (h6 : I 540 6 = (Int32.ofNat (len))) (hlen : len < 1000) (hn : nws (vis W g m 0) ≤ 80) (hA : CT I a n nd sp) (ha : a + 8 ≤ 540 ∨ 559 ≤ a) : QK (f_X6_stacksGive (mg (4562 + zn J) I J R) 540 a) (fun r => ∃ I', ((GoodW b W m n nd sp g ∧ r = (1, mg (4562 + zn J) I' J R)) ∨ (¬ GoodW b W m n nd sp g ∧ r = (0, mg (4562 + zn J) I' J R))) ∧ FrK SRd I I') := by
  unfold f_X6_stacksGive f_X6_stacksGive_j23 f_X6_stacksGive_j24
  rw [if_pos ok_540]
  refine q_bind (C_byStacks hR hC hT hW h6 hn) ?_
  rintro _ ⟨I1, rfl, hF1, gA⟩
  dsimp only
  have fltb : ∀ w sx, run b (vis W g m 0) st0 = .inl (w, sx) → flt P w sx < 100000 := fun w sx hr => by
    have w1 := run_mem (vis W g m 0).length _ _ _ _ (Nat.le_refl _) hr
    have wm := vis_mem _ _ _ w1
    have w5 := (hW.2.2 w.1 (by omega)).2.2.2.2
    unfold flt
    split
    · next z =>
      rw [wm.2.2] at z ⊢
      rcases w5.1 with y | y | y | y <;> omega
    · omega
  by_cases ok : (acc (run b (vis W g m 0) st0)).isSome = true
  · obtain ⟨ln, hln⟩ := Option.isSome_iff_exists.mp ok
    obtain ⟨l80, hN⟩ := gA ln hln
    have hA1 : CT I1 a n nd sp := CT_keep hA (fun x g1 g2 => by
      funext k
      exact hF1 x k (by unfold SRd; omega))
    rw [resC_1 ok, if_pos rfl, gr_540_17 hR, if_pos (bT_xk hA1.1.1)]
    obtain ⟨r, e, hr⟩ := T_hasLine (J := J) hR hA1 hN
    rw [e, Option.bind_some]
    rcases hr with ⟨rfl, r1, r2⟩ | ⟨rfl, r1⟩
    · rw [if_neg (by first | decide | omega), q_xz1]
      exact q_ok ⟨I1, Or.inl ⟨⟨ln, hln, r1, r2⟩, rfl⟩, hF1⟩
    · rw [if_pos rfl, q_xz0]
      refine q_ok ⟨I1, Or.inr ⟨?_, rfl⟩, hF1⟩
      rintro ⟨ln', z1, z2, z3⟩
      rw [hln] at z1
      have : ln' = ln := (Option.some.inj z1).symm
      rw [this] at z2 z3
      exact r1 ⟨z2, z3⟩
  · obtain ⟨k, hk, ek⟩ := resC_n (P := P) hlen fltb ok
    rw [ek, if_neg (i32_m1 hk), q_xz0]
    refine q_ok ⟨I1, Or.inr ⟨?_, rfl⟩, hF1⟩
    rintro ⟨ln', z1, -⟩
    rw [z1] at ok
    exact ok rfl
theorem C_dropBrackets (hR : RA R) (hC : CTb I b) (hT : TbOK b) (hW : CWd I m W P (fun _ => false)) (h6 : I 540 6 = (Int32.ofNat (len))) (hlen : len < 1000) (hn : nws (vis W (fun _ => false) m 0) ≤ 80) (hA : CT I a n nd sp) (ha : a + 8 ≤ 540 ∨ 559 ≤ a) (hP : ∀ j, j < m → (P2 j = 0 ∧ ¬ opn W j) ∨ prd W m j (P2 j)) : QK (f_X6_dropBrackets (mg (4562 + zn J) I J R) 540 a) (fun r => ∃ I', r = mg (4562 + zn J) I' J R ∧ FrK Fdb I I' ∧ CWd I' m W P (hdn (GoodW b W m n nd sp) P2 m)) := by
  have m300 := hW.1
  unfold f_X6_dropBrackets
  rw [q_let]
  refine q_bind (P := fun r => ∃ I', r = .inr (mg (4562 + zn J) I' J R) ∧ FrK Fdb I I' ∧ CWd I' m W P (hdn (GoodW b W m n nd sp) P2 m)) ?_ ?_
  · refine q_for m (fun j s => ∃ I', s = (540, a, (Int32.ofNat (j)), mg (4562 + zn J) I' J R) ∧ FrK Fdb I I' ∧ CWd I' m W P (hdn (GoodW b W m n nd sp) P2 j)) ?_ ?_ (i := 0) ⟨I, rfl, FrK_rfl, hW⟩ (Nat.zero_le _) (by unfold xF; omega)
    · rintro j s hj ⟨I1, rfl, hF1, hW1⟩
      show QK _ (qS (fun s => ∃ I', s = (540, a, (Int32.ofNat (j + 1)), mg (4562 + zn J) I' J R) ∧ FrK Fdb I I' ∧ CWd I' m W P (stp (GoodW b W m n nd sp) P2 j (hdn (GoodW b W m n nd sp) P2 j))) _)
      generalize hdn (GoodW b W m n nd sp) P2 j = g at *
      unfold f_X6_dropBrackets_s2 f_X6_dropBrackets_j42
      dsimp only
      rw [q_let, q_let, q_let, q_let, gi_540, hW1.2.1, if_neg (show ¬ (Int32.ofNat (m)) ≤ (Int32.ofNat (j)) from fun y => absurd ((i32_le (by omega) (by omega)).mp y) (by omega)), if_pos ok_540]
      unfold stp
      rcases hP j hj with ⟨p0, p1⟩ | pp
      · rw [C_opens0 hR hW1 hj p1, if_pos rfl, q_let, show (Int32.ofNat (j)) + (1 : Int32) = (Int32.ofNat (j + 1)) from n_add j 1]
        exact q_go ⟨I1, rfl, hF1, by rw [if_pos p0]; exact hW1⟩
      · have pc := pp.2.2.1
        have pj := pp.2.1
        rw [C_opens1 hR hW1 hj pp.1, if_neg (by first | decide | omega), if_pos ok_540, C_partnerOf hR hW1 pp, if_pos ok_540, if_neg (show ¬ P2 j = 0 by omega)]
        refine q_bind (C_hide (v := true) hR hW1 hj pc) ?_
        rintro _ ⟨I2, rfl, hF2, hW2⟩
        have hF2' : FrK Fdb I I2 := FrK_tr hF1 (FrK_mono hF2 (fun x k y => by unfold Fdb; omega))
        rw [if_pos ok_540]
        refine q_bind (C_stacksGive (a := a) (n := n) (nd := nd) (sp := sp) (len := len) hR (CTb_keep hC (fun x y => by funext k; exact hF2' x k (by unfold Fdb; omega))) hT hW2 (by rw [hF2' _ _ (by unfold Fdb; omega)]; exact h6) hlen (Nat.le_trans (vis_nws (k := 0) _ _) hn) (CT_keep hA (fun x g1 g2 => by funext k; exact hF2' x k (by unfold Fdb; omega))) ha) ?_
        rintro _ ⟨I3, hr, hF3⟩
        have hF3' : FrK Fdb I I3 := FrK_tr hF2' (FrK_mono hF3 (fun x k y => by unfold SRd at y; unfold Fdb; omega))
        have hW3 : CWd I3 m W P (hs j (P2 j) true g) := CWd_keep hW2 (fun x k y => hF3 x k (by unfold SRd; omega))
        rcases hr with ⟨gd, rfl⟩ | ⟨gd, rfl⟩
        · dsimp only
          rw [if_pos ok_540, if_pos gd]
          refine q_bind (C_hide (v := true) hR hW3 hj pc) ?_
          rintro _ ⟨I4, rfl, hF4, hW4⟩
          rw [hs_hs] at hW4
          rw [q_let, show (Int32.ofNat (j)) + (1 : Int32) = (Int32.ofNat (j + 1)) from n_add j 1]
          exact q_go ⟨I4, rfl, FrK_tr hF3' (FrK_mono hF4 (fun x k y => by unfold Fdb; omega)), hW4⟩
        · dsimp only
          rw [if_pos ok_540, if_neg gd]
          refine q_bind (C_hide (v := false) hR hW3 hj pc) ?_
          rintro _ ⟨I4, rfl, hF4, hW4⟩
          rw [hs_hs] at hW4
          rw [q_let, show (Int32.ofNat (j)) + (1 : Int32) = (Int32.ofNat (j + 1)) from n_add j 1]
          exact q_go ⟨I4, rfl, FrK_tr hF3' (FrK_mono hF4 (fun x k y => by unfold Fdb; omega)), hW4⟩
    · rintro s ⟨I1, rfl, hF1, hW1⟩
      unfold f_X6_dropBrackets_s2
      dsimp only
      rw [q_let, q_let, q_let, q_let, gi_540, hW1.2.1, if_pos (show (Int32.ofNat (m)) ≤ (Int32.ofNat (m)) from Int32.le_refl _)]
      exact q_ex ⟨I1, rfl, hF1, hW1⟩
  · rintro _ ⟨I1, rfl, hF1, hW1⟩
    simp only [Sum.elim_inr]
    unfold f_X6_dropBrackets_j48
    exact q_ok ⟨I1, rfl, hF1, hW1⟩
end CHD
