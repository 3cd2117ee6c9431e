/-! a tree printed -/
def wvN (w : Wd) : Nat := if w.1 = 3 then sgc w.2 else w.2
def wdC (w : Wd) (l : List Nat) : List Nat := if w.1 = 0 then numT w.2 l else wvN w :: l
def wdT (W : Nat → Wd) (g : Nat → Bool) : Nat → List Nat
  | 0 => []
  | i + 1 => if g i = true then wdT W g i else wdC (W i) (wdT W g i)
def tlW (W : Nat → Wd) : Nat → Nat
  | 0 => 0
  | i + 1 => tlW W i + (if (W i).1 = 0 then 10 else 1)
theorem wdT_c (W : Nat → Wd) (g : Nat → Bool) (i : Nat) : wdT W g (i + 1) = if g i = true then wdT W g i else wdC (W i) (wdT W g i) := rfl
theorem wdC_len (w : Wd) (l : List Nat) : (wdC w l).length ≤ l.length + (if w.1 = 0 then 10 else 1) := by
  unfold wdC
  split
  · exact numT_len _ _
  · exact Nat.le_refl _
theorem wdT_len (W : Nat → Wd) (g : Nat → Bool) : ∀ i, (wdT W g i).length ≤ tlW W i := by
  intro i
  induction i with
  | zero => exact Nat.le_refl _
  | succ i ih =>
    show (if g i = true then wdT W g i else wdC (W i) (wdT W g i)).length ≤ tlW W i + (if (W i).1 = 0 then 10 else 1)
    split
    · omega
    · have := wdC_len (W i) (wdT W g i)
      omega
theorem tlW_mono (W : Nat → Wd) : ∀ d i, tlW W i ≤ tlW W (i + d) := by
  intro d
  induction d with
  | zero => intro i; exact Nat.le_refl _
  | succ d ih =>
    intro i
    have := ih i
    show _ ≤ tlW W (i + d) + _
    omega
theorem tlW_cg {W W' : Nat → Wd} : ∀ i, (∀ j, j < i → W' j = W j) → tlW W' i = tlW W i := by
  intro i
  induction i with
  | zero => intro _; rfl
  | succ i ih =>
    intro h
    show tlW W' i + _ = tlW W i + _
    rw [ih (fun j hj => h j (by omega)), h i (by omega)]
theorem tlW_len : ∀ (l : List Wp), tlW (wF l) l.length ≤ l.length + 9 * cwL l := by
  intro l
  induction l with
  | nil => exact Nat.le_refl _
  | cons w l ih =>
    show tlW (wF (w :: l)) l.length + (if (wF (w :: l) l.length).1 = 0 then 10 else 1) ≤ l.length + 1 + 9 * (nwd w.1 + cwL l)
    rw [tlW_cg (W := wF l) l.length (fun j hj => wF_n hj), wF_s]
    by_cases z : w.1.1 = 0
    · have : nwd w.1 = 1 := if_pos (Or.inl z)
      rw [if_pos z]
      omega
    · rw [if_neg z]
      omega
theorem wv_i {w : Wd} (hw : WOK w) : wvI w = (Int32.ofNat (wvN w)) ∧ wvN w ≤ 999999999 ∧ (w.1 ≠ 0 → wvN w < 65536) ∧ (w.1 = 0 → wvN w = w.2) := by
  unfold wvI wvN
  rcases hw with ⟨h1, h2⟩ | ⟨h1, l, h2, h3⟩ | ⟨h1, h2⟩ | ⟨h1, h2, h3⟩
  · rw [if_neg (by omega), if_neg (by omega)]
    exact ⟨rfl, h2, fun z => absurd h1 z, fun _ => rfl⟩
  · rw [if_neg (by omega), if_neg (by omega)]
    exact ⟨rfl, by omega, fun z => by omega, fun _ => rfl⟩
  · rw [if_pos h1, if_pos h1]
    have := (sgc_ok w.2 h2).1
    exact ⟨rfl, by omega, fun z => by omega, fun z => by omega⟩
  · rw [if_neg (by omega), if_neg (by omega)]
    exact ⟨rfl, by omega, fun z => by omega, fun _ => rfl⟩
section FW
variable {I : Nat → Nat → Int32} {J : Nat → Nat → Int64} {R : Nat → Nat → Option Nat} {b : GB} {pr tx m a n : Nat} {W : Nat → Wd} {P P2 : Nat → Nat} {g : Nat → Bool} {nd : Nat → Nd} {sp : Nat → Nat} {β : Type}
theorem C_putWord {l : List Nat} {w : Wd} (hR : RA R) (h : isP pr tx) (hX : CX I pr tx l) (hl : l.length + (if w.1 = 0 then 10 else 1) ≤ 1000) (hw : WOK w) : QK (f_X5_putValue (mg (4562 + zn J) I J R) pr (Int32.ofNat (w.1)) (wvI w)) (fun r => ∃ I', r = mg (4562 + zn J) I' J R ∧ FP pr tx I I' ∧ CX I' pr tx (wdC w l)) := by
  obtain ⟨e, v1, v2, v3⟩ := wv_i hw
  have k8 : w.1 ≤ 8 := by rcases hw with y | y | y | y <;> omega
  unfold f_X5_putValue f_X5_putValue_j17 wdC
  rw [e]
  by_cases z : w.1 = 0
  · rw [if_pos z] at hl
    rw [if_pos (show (Int32.ofNat (w.1)) = 0 by rw [z]; rfl), if_pos (ok_P h), if_pos z, v3 z]
    refine q_bind (C_putNumber hR h hX hl (by have := v3 z; omega)) ?_
    rintro _ ⟨I2, rfl, hF2, hX2⟩
    exact q_ok ⟨I2, rfl, hF2, hX2⟩
  · rw [if_neg z] at hl
    rw [if_neg (show ¬ (Int32.ofNat (w.1)) = 0 from i32_ne (b := 0) (by omega) (by omega) z), if_pos (ok_P h), if_neg z]
    refine q_bind (C_put hR h hX (by omega) (v2 z)) ?_
    rintro _ ⟨I2, rfl, hF2, hF2', hX2⟩
    exact q_ok ⟨I2, rfl, ⟨hF2, hF2'⟩, hX2⟩
def Ffw (pr tx : Nat) : Nat → Nat → Prop := fun a k => (a = 540 ∧ (k = 5 ∨ k = 6 ∨ k = 7 ∨ k = 8 ∨ k = 14 ∨ k = 16)) ∨ (541 ≤ a ∧ a ≤ 558) ∨ (a = pr ∧ k = 3) ∨ a = tx
theorem FP_K {I' : Nat → Nat → Int32} (h : FP pr tx I I') : FrK (Ffw pr tx) I I' := fun x k y => by
  unfold Ffw at y
  by_cases q : x = pr
  · rw [q]
    exact h.2 k (fun z => y (Or.inr (Or.inr (Or.inl ⟨q, z⟩))))
  · have := h.1 x (fun z => z.elim q (fun w => y (Or.inr (Or.inr (Or.inr w)))))
    rw [this]
/-- what the words of a tree are, with the hidden ones -/
noncomputable def hidT (b : GB) (n : Nat) (nd : Nat → Nd) (sp : Nat → Nat) : Nat → Bool := hdn (GoodW b (wF (spl nd sp 200 0 S0).1) (spl nd sp 200 0 S0).1.length n nd sp) (spl nd sp 200 0 S0).2 (spl nd sp 200 0 S0).1.length
noncomputable def prtT (b : GB) (n : Nat) (nd : Nat → Nd) (sp : Nat → Nat) : List Nat := wdT (wF (spl nd sp 200 0 S0).1) (hidT b n nd sp) (spl nd sp 200 0 S0).1.length
theorem C_fewest (hR : RA R) (h : isP pr tx) (hC : CTb I b) (hT : TbOK b) (hA : CT I a n nd sp) (ha : a + 8 ≤ 540 ∨ 567 ≤ a) (hn : ∀ i, i < n → NV b (nd i)) : QK (f_X5_fewest (mg (4562 + zn J) I J R) pr a) (fun r => ∃ I', r = mg (4562 + zn J) I' J R ∧ FrK (Ffw pr tx) I I' ∧ CWd I' (spl nd sp 200 0 S0).1.length (wF (spl nd sp 200 0 S0).1) (pF (spl nd sp 200 0 S0).1) (hidT b n nd sp) ∧ CX I' pr tx (prtT b n nd sp)) := by
  have n1 := CT_n hA
  have hw := hA.2.1
  have hh := h
  unfold isP at hh
  obtain ⟨p1, p2, p3⟩ := spl_pairs hw hn (f := 200) (by omega)
  have ws : ∀ x, (540 ≤ x ∧ x ≤ 558) → x ≠ pr ∧ x ≠ tx := fun x y => by omega
  unfold f_X5_fewest f_X6_startWords
  rw [gr_P0 hR h, if_pos ok_540, gs_540, gs_540, Option.bind_some, if_pos (ok_P h)]
  have f0 : FrK (Ffw pr tx) I (up (up I 540 5 0) 540 6 0) := fun x k y => by
    unfold Ffw at y
    rw [up_n (by omega), up_n (by omega)]
  have w0 : CWl (up (up I 540 5 0) 540 6 0) S0.1 := ⟨Nat.zero_le _, by rw [up_n (by omega), up_s]; rfl, fun j hj => absurd hj (Nat.not_lt_zero _)⟩
  have z6 : up (up I 540 5 0) 540 6 0 540 6 = (Int32.ofNat (0)) := up_s
  generalize up (up I 540 5 0) 540 6 0 = I1 at *
  have kT : ∀ I', FrK (Ffw pr tx) I I' → CT I' a n nd sp := fun I' hF => CT_keep hA (fun x g1 g2 => by
    funext k
    exact hF x k (by unfold Ffw; omega))
  have kB : ∀ I', FrK (Ffw pr tx) I I' → CTb I' b := fun I' hF => CTb_keep hC (fun x y => by
    funext k
    exact hF x k (by unfold Ffw; omega))
  refine q_bind (C_spell hR h (by omega) hn 200 0 0 S0 I1 hw.1 (by rw [hw.2.2.1]; omega) (kT I1 f0) w0 (by rw [hw.2.2.1]; show 0 + _ ≤ _; omega) (by rw [hw.2.2.1]; omega)) ?_
  rintro _ ⟨I2, rfl, hF2, hW2⟩
  have f2 : FrK (Ffw pr tx) I I2 := FrK_tr f0 (FrK_mono hF2 (fun x k y => by unfold Fsw at y; unfold Ffw; omega))
  have nws8 : nws (vis (wF (spl nd sp 200 0 S0).1) (fun _ => false) (spl nd sp 200 0 S0).1.length 0) ≤ 80 := by
    have := nws_vis_all (spl nd sp 200 0 S0).1
    unfold visl at this
    omega
  have tl := tlW_len (spl nd sp 200 0 S0).1
  unfold prtT hidT
  generalize spl nd sp 200 0 S0 = S at *
  rw [gr_P0 hR h, if_pos ok_540]
  refine q_bind (C_dropBrackets (a := a) (n := n) (nd := nd) (sp := sp) (P2 := S.2) (len := 0) hR (kB I2 f2) hT hW2 (by rw [hF2 _ _ (by unfold Fsw; omega)]; exact z6) (by omega) nws8 (kT I2 f2) (by omega) p1) ?_
  rintro _ ⟨I3, rfl, hF3, hW3⟩
  have f3 : FrK (Ffw pr tx) I I3 := FrK_tr f2 (FrK_mono hF3 (fun x k y => by unfold Fdb at y; unfold Ffw; omega))
  generalize hdn (GoodW b (wF S.1) S.1.length n nd sp) S.2 S.1.length = g at *
  rw [gs_P h, q_let]
  have f4 : FrK (Ffw pr tx) I (up I3 pr 3 0) := fun x k y => by
    have y2 := y
    unfold Ffw at y
    rw [up_n (by omega)]
    exact f3 x k y2
  have hW4 : CWd (up I3 pr 3 0) S.1.length (wF S.1) (pF S.1) g := CWd_keep hW3 (fun x k y => up_n (by have := ws x (by omega); omega))
  have m300 := hW4.1
  have x0 : CX (up I3 pr 3 0) pr tx [] := ⟨up_s, Nat.zero_le _, fun k hk => absurd hk (Nat.not_lt_zero _)⟩
  generalize up I3 pr 3 0 = I4 at *
  refine q_bind (P := fun r => ∃ I', r = .inr (mg (4562 + zn J) I' J R) ∧ FrK (Ffw pr tx) I I' ∧ FP pr tx I4 I' ∧ CX I' pr tx (wdT (wF S.1) g S.1.length)) ?_ ?_
  · refine q_for S.1.length (fun i st => ∃ I', st = (pr, (Int32.ofNat (i)), mg (4562 + zn J) I' J R) ∧ FrK (Ffw pr tx) I I' ∧ FP pr tx I4 I' ∧ CX I' pr tx (wdT (wF S.1) g i)) ?_ ?_ (i := 0) ⟨I4, rfl, f4, FP_rfl, x0⟩ (Nat.zero_le _) (by unfold xF; omega)
    · rintro i st hi ⟨I5, rfl, hF5, hP5, hX5⟩
      have hW5 : CWd I5 S.1.length (wF S.1) (pF S.1) g := CWd_keep hW4 (fun x k y => by
        have := ws x (by omega)
        rw [hP5.1 x (fun z => z.elim this.1 this.2)])
      obtain ⟨y1, y2, y3, y4, y5, y6⟩ := hW5.2.2 i hi
      unfold f_X5_fewest_s29 f_X5_fewest_j74
      dsimp only
      rw [q_let, q_let, q_let, gr_P0 hR h, gi_540, hW5.2.1, if_neg (show ¬ (Int32.ofNat (S.1.length)) ≤ (Int32.ofNat (i)) from fun y => absurd ((i32_le (by omega) (by omega)).mp y) (by omega)), gr_P0 hR h, gr_540_4 hR, ga_544 (by omega), y4, wdT_c]
      by_cases q : g i = true
      · rw [if_pos q, if_pos q, if_neg (by first | decide | omega), q_let, show (Int32.ofNat (i)) + (1 : Int32) = (Int32.ofNat (i + 1)) from n_add i 1]
        exact q_go ⟨I5, rfl, hF5, hP5, hX5⟩
      · rw [if_neg q, if_neg q, if_pos rfl, gr_P0 hR h, gr_540_1 hR, ga_541 (by omega), y1, gr_P0 hR h, gr_540_2 hR, ga_542 (by omega), y2, if_pos (ok_P h)]
        have l1 := wdT_len (wF S.1) g i
        have l2 := tlW_mono (wF S.1) (S.1.length - (i + 1)) (i + 1)
        rw [show i + 1 + (S.1.length - (i + 1)) = S.1.length by omega] at l2
        have l3 : tlW (wF S.1) (i + 1) = tlW (wF S.1) i + (if (wF S.1 i).1 = 0 then 10 else 1) := rfl
        refine q_bind (C_putWord hR h hX5 (by omega) y5) ?_
        rintro _ ⟨I6, rfl, hF6, hX6⟩
        rw [q_let, show (Int32.ofNat (i)) + (1 : Int32) = (Int32.ofNat (i + 1)) from n_add i 1]
        exact q_go ⟨I6, rfl, FrK_tr hF5 (FP_K hF6), FP_tr hP5 hF6, hX6⟩
    · rintro st ⟨I5, rfl, hF5, hP5, hX5⟩
      have h5 : I5 540 5 = (Int32.ofNat (S.1.length)) := by
        have := ws 540 (by omega)
        rw [hP5.1 540 (fun z => z.elim this.1 this.2)]
        exact hW4.2.1
      unfold f_X5_fewest_s29
      dsimp only
      rw [q_let, q_let, q_let, gr_P0 hR h, gi_540, h5, if_pos (show (Int32.ofNat (S.1.length)) ≤ (Int32.ofNat (S.1.length)) from Int32.le_refl _)]
      exact q_ex ⟨I5, rfl, hF5, hP5, hX5⟩
  · rintro _ ⟨I5, rfl, hF5, hP5, hX5⟩
    simp only [Sum.elim_inr]
    unfold f_X5_fewest_j80
    exact q_ok ⟨I5, rfl, hF5, CWd_keep hW4 (fun x k y => by
      have := ws x (by omega)
      rw [hP5.1 x (fun z => z.elim this.1 this.2)]), hX5⟩
end FW
