/-! the class's trees: out of a line -/
section CTX
variable {I : Nat → Nat → Int32} {J : Nat → Nat → Int64} {R : Nat → Nat → Option Nat} {a b n m : Nat} {nd nd' ln : Nat → Nd} {sp sp' : Nat → Nat} {β : Type}
theorem T_put {x p : Nat} (hR : RA R) (ht : isTr a) (h7 : I a 7 = (Int32.ofNat (n))) (hx : x < n) (h80 : n ≤ 80) (h' : CN I b m ln) (hp : p < m) (hab : a ≠ b) : QK (f_X9_put (mg (4562 + zn J) I J R) a (Int32.ofNat (x)) b (Int32.ofNat (p))) (fun r => ∃ I', r = mg (4562 + zn J) I' J R ∧ FrS (fun y => a + 1 ≤ y ∧ y < a + 5) I I' ∧ (∀ j y, 1 ≤ j → j ≤ 4 → y ≠ x → I' (a + j) y = I (a + j) y) ∧ I' (a + 1) x = (ln p).1 ∧ I' (a + 2) x = (ln p).2.1 ∧ I' (a + 3) x = (ln p).2.2.1 ∧ I' (a + 4) x = (Int32.ofNat ((ln p).2.2.2))) := by
  obtain ⟨hb, g7, g80, g4⟩ := h'
  have d := isTr_ne ht hb hab
  obtain ⟨k1, k2, k3, k4, k5⟩ := g4 p hp
  have z0 : ¬ (Int32.ofNat (x)) < 0 := i32_nlt0 (by omega)
  have u1 : ∀ (I' : Nat → Nat → Int32) (v : Int32) (j j' : Nat), j ≤ 7 → j' ≤ 7 → up I' (a + j) x v (b + j') p = I' (b + j') p := fun I' v j j' h1 h2 => up_n (Or.inl (by omega))
  unfold f_X9_put f_X9_put_j60
  rw [if_neg z0]
  conv => arg 1; simp (disch := omega) only [↓reduceIte, ↓q_let, ↓q_xz1, ↓q_xz0, ↓lg_cmp_ge, ↓lg_cmp_le, ↓lg_cmp_gt, ↓lg_cmp_lt, n_lit, j_lit, n_add, n_mul, n_sub, n_dec, Nat.add_sub_cancel, n_leT, n_leF, n_ltT, n_ltF, n_eqT, n_eqF, n_in, n_cl, n_m31, j_m63, j_of32, j_32, i64_add, i64_mul, jn_sub, j_leT, j_leF, j_ltT, j_ltF, j_eqF, jn_and30, jn_sar30, jn_shor, Int32.neg_neg, and_true, true_and, and_self, ↓bT_gI ht, h7, ↓bT_g0 ht hR, ↓bT_g1 ht hR, ↓bT_g2 ht hR, ↓bT_g3 ht hR, ↓bT_g0 hb hR, ↓bT_g1 hb hR, ↓bT_g2 hb hR, ↓bT_g3 hb hR, ↓bT_aI hb, ↓bT_wI ht, u1, k1, k2, k3, k4]
  refine q_ok ⟨_, rfl, FrS_up (FrS_up (FrS_up (FrS_up FrS_rfl (by omega)) (by omega)) (by omega)) (by omega), fun j y h1 h2 hy => ?_, ?_, ?_, ?_, up_s⟩
  · rw [up_n (Or.inr hy), up_n (Or.inr hy), up_n (Or.inr hy), up_n (Or.inr hy)]
  · rw [up_n (Or.inl (by omega)), up_n (Or.inl (by omega)), up_n (Or.inl (by omega)), up_s]
  · rw [up_n (Or.inl (by omega)), up_n (Or.inl (by omega)), up_s]
  · rw [up_n (Or.inl (by omega)), up_s]
/-- operands of a node, from the last one: where the k-th ends -/
theorem kid_back (h : WT n (aro nd) sp) {x k : Nat} (hx : x < n) (hk : k < aro nd x) : kid sp x (aro nd x - k) = kid sp x (aro nd x - (k + 1)) + sp (kid sp x (aro nd x - (k + 1))) := by
  rw [show aro nd x - k = aro nd x - (k + 1) + 1 by omega]
  rfl
theorem T_turn (hR : RA R) (ht : isTr a) (h' : CN I b n ln) (hw : WT n (aro nd) sp) (hln : ∀ x, x < n → ln (pl sp x) = nd x) (hab : a ≠ b) : QK (f_X9_turn (mg (4562 + zn J) I J R) a b) (fun r => ∃ I', r = mg (4562 + zn J) I' J R ∧ FrS (fun x => St a x ∨ x = b + 5 ∨ x = b + 6) I I' ∧ CT I' a n nd sp) := by
  obtain ⟨hb, g7, g80, g4⟩ := h'
  have d := isTr_ne ht hb hab
  have n0 := hw.1
  have h3 : ∀ x, x < n → I (b + 4) (pl sp x) = (Int32.ofNat (aro nd x)) ∧ aro nd x ≤ 4 := fun x hx => by
    have := g4 _ (pl_lt hw hx)
    rw [hln x hx] at this
    exact ⟨this.2.2.2.1, this.2.2.2.2⟩
  unfold f_X9_turn
  conv => arg 1; simp (disch := omega) only [↓reduceIte, ↓q_let, ↓q_xz1, ↓q_xz0, ↓lg_cmp_ge, ↓lg_cmp_le, ↓lg_cmp_gt, ↓lg_cmp_lt, n_lit, j_lit, n_add, n_mul, n_sub, n_dec, Nat.add_sub_cancel, n_leT, n_leF, n_ltT, n_ltF, n_eqT, n_eqF, n_in, n_cl, n_m31, j_m63, j_of32, j_32, i64_add, i64_mul, jn_sub, j_leT, j_leF, j_ltT, j_ltF, j_eqF, jn_and30, jn_sar30, jn_shor, Int32.neg_neg, and_true, true_and, and_self, ↓bT_gI hb, g7, ↓bT_sI ht]
  refine q_bind (P := fun r => ∃ I', r = .inr (a, b, mg (4562 + zn J) I' J R) ∧ FrS (fun x => x = a ∨ x = b + 5) I I' ∧ I' a 7 = (Int32.ofNat (n)) ∧ ∀ x, x < n → I' (b + 5) (pl sp x) = (Int32.ofNat (sp x))) ?_ ?_
  · refine q_for n (fun i s => ∃ I', s = (a, b, (Int32.ofNat (i)), mg (4562 + zn J) I' J R) ∧ FrS (fun x => x = a ∨ x = b + 5) I I' ∧ I' a 7 = (Int32.ofNat (n)) ∧ ∀ x, x < n → pl sp x < i → I' (b + 5) (pl sp x) = (Int32.ofNat (sp x))) ?_ ?_ (i := 0) ⟨_, rfl, FrS_up FrS_rfl (Or.inl rfl), up_s, fun x _ h => absurd h (by omega)⟩ (by omega) (by unfold xF; omega)
    · rintro i s hi ⟨I', rfl, hF, h7, hs⟩
      obtain ⟨x, hx, ex⟩ := pl_sur hw hi
      obtain ⟨k3, har⟩ := h3 x hx
      have wx := hw.2.2.2 x hx
      have plx := pl_ge hw hx
      have e3 : I' (b + 4) i = (Int32.ofNat (aro nd x)) := by rw [hF (b + 4) (by omega), ← ex]; exact k3
      have cl := cnt_le sp x x
      unfold f_X9_turn_s10 xlet
      dsimp only
      conv => arg 1; simp (disch := omega) only [↓reduceIte, ↓q_let, ↓q_xz1, ↓q_xz0, ↓lg_cmp_ge, ↓lg_cmp_le, ↓lg_cmp_gt, ↓lg_cmp_lt, n_lit, j_lit, n_add, n_mul, n_sub, n_dec, Nat.add_sub_cancel, n_leT, n_leF, n_ltT, n_ltF, n_eqT, n_eqF, n_in, n_cl, n_m31, j_m63, j_of32, j_32, i64_add, i64_mul, jn_sub, j_leT, j_leF, j_ltT, j_ltF, j_eqF, jn_and30, jn_sar30, jn_shor, Int32.neg_neg, and_true, true_and, and_self, ↓bT_gI ht, h7]
      refine q_bind (P := fun r => r = .inr (a, b, (Int32.ofNat (i)), (Int32.ofNat (pl sp x + 1 - sp x)))) ?_ ?_
      · refine q_for (aro nd x) (fun k s => s = (a, b, (Int32.ofNat (i)), (Int32.ofNat (pl sp x + 1 - sp x + (kid sp x (aro nd x - k) - x - 1))), (Int32.ofNat (k)))) ?_ ?_ (i := 0) ?_ (by omega) (by unfold xF; omega)
        · rintro k s hk rfl
          have kb := kid_back hw hx hk
          obtain ⟨c1, c2, c3⟩ := kid_in hw hx (show aro nd x - (k + 1) < aro nd x by omega)
          have pc := pl_child hw hx (show aro nd x - (k + 1) < aro nd x by omega)
          have wc := hw.2.2.2 _ c2
          generalize hc : kid sp x (aro nd x - (k + 1)) = c at *
          have e5 : I' (b + 5) (pl sp x + 1 - sp x + (kid sp x (aro nd x - k) - x - 1) - 1) = (Int32.ofNat (sp c)) := by
            rw [show pl sp x + 1 - sp x + (kid sp x (aro nd x - k) - x - 1) - 1 = pl sp c by omega]
            exact hs c c2 (by omega)
          unfold f_X9_turn_s23 xlet
          dsimp only
          conv => arg 1; simp (disch := omega) only [↓reduceIte, ↓q_let, ↓q_xz1, ↓q_xz0, ↓lg_cmp_ge, ↓lg_cmp_le, ↓lg_cmp_gt, ↓lg_cmp_lt, n_lit, j_lit, n_add, n_mul, n_sub, n_dec, Nat.add_sub_cancel, n_leT, n_leF, n_ltT, n_ltF, n_eqT, n_eqF, n_in, n_cl, n_m31, j_m63, j_of32, j_32, i64_add, i64_mul, jn_sub, j_leT, j_leF, j_ltT, j_ltF, j_eqF, jn_and30, jn_sar30, jn_shor, Int32.neg_neg, and_true, true_and, and_self, ↓bT_g3 hb hR, ↓bT_aI hb, e3, ↓bT_g4 hb hR, e5]
          refine q_go ?_
          rw [show pl sp x + 1 - sp x + (kid sp x (aro nd x - k) - x - 1) - sp c = pl sp x + 1 - sp x + (c - x - 1) by omega]
        · rintro s rfl
          unfold f_X9_turn_s23 xlet
          dsimp only
          conv => arg 1; simp (disch := omega) only [↓reduceIte, ↓q_let, ↓q_xz1, ↓q_xz0, ↓lg_cmp_ge, ↓lg_cmp_le, ↓lg_cmp_gt, ↓lg_cmp_lt, n_lit, j_lit, n_add, n_mul, n_sub, n_dec, Nat.add_sub_cancel, n_leT, n_leF, n_ltT, n_ltF, n_eqT, n_eqF, n_in, n_cl, n_m31, j_m63, j_of32, j_32, i64_add, i64_mul, jn_sub, j_leT, j_leF, j_ltT, j_ltF, j_eqF, jn_and30, jn_sar30, jn_shor, Int32.neg_neg, and_true, true_and, and_self, ↓bT_g3 hb hR, ↓bT_aI hb, e3]
          refine q_ex ?_
          have e0 : kid sp x (aro nd x - aro nd x) = x + 1 := by rw [Nat.sub_self]; rfl
          rw [e0, show pl sp x + 1 - sp x + (x + 1 - x - 1) = pl sp x + 1 - sp x by omega]
        · rw [Nat.sub_zero, wx.2.2.1, show pl sp x + 1 - sp x + (x + sp x - x - 1) = i by omega]
      · rintro r rfl
        simp only [Sum.elim_inr]
        unfold f_X9_turn_j55 xlet
        conv => arg 1; simp (disch := omega) only [↓reduceIte, ↓q_let, ↓q_xz1, ↓q_xz0, ↓lg_cmp_ge, ↓lg_cmp_le, ↓lg_cmp_gt, ↓lg_cmp_lt, n_lit, j_lit, n_add, n_mul, n_sub, n_dec, Nat.add_sub_cancel, n_leT, n_leF, n_ltT, n_ltF, n_eqT, n_eqF, n_in, n_cl, n_m31, j_m63, j_of32, j_32, i64_add, i64_mul, jn_sub, j_leT, j_leF, j_ltT, j_ltF, j_eqF, jn_and30, jn_sar30, jn_shor, Int32.neg_neg, and_true, true_and, and_self, ↓bT_g4 hb hR, ↓bT_wI hb]
        rw [show i - (pl sp x + 1 - sp x) + 1 = sp x by omega]
        refine q_go ⟨_, rfl, FrS_up hF (Or.inr rfl), ?_, fun y hy hyi => ?_⟩
        · rw [up_n (Or.inl (by omega))]
          exact h7
        · by_cases q : pl sp y = i
          · have := pl_inj hw hy hx (by omega)
            rw [q, up_s, this]
          · rw [up_n (Or.inr q)]
            exact hs y hy (by omega)
    · rintro s ⟨I', rfl, hF, h7, hs⟩
      unfold f_X9_turn_s10 xlet
      dsimp only
      conv => arg 1; simp (disch := omega) only [↓reduceIte, ↓q_let, ↓q_xz1, ↓q_xz0, ↓lg_cmp_ge, ↓lg_cmp_le, ↓lg_cmp_gt, ↓lg_cmp_lt, n_lit, j_lit, n_add, n_mul, n_sub, n_dec, Nat.add_sub_cancel, n_leT, n_leF, n_ltT, n_ltF, n_eqT, n_eqF, n_in, n_cl, n_m31, j_m63, j_of32, j_32, i64_add, i64_mul, jn_sub, j_leT, j_leF, j_ltT, j_ltF, j_eqF, jn_and30, jn_sar30, jn_shor, Int32.neg_neg, and_true, true_and, and_self, ↓bT_gI ht, h7]
      exact q_ex ⟨I', rfl, hF, h7, fun x hx => hs x hx (pl_lt hw hx)⟩
  rintro r ⟨I1, rfl, hF1, h71, hs1⟩
  simp only [Sum.elim_inr]
  unfold f_X9_turn_j72
  have mx : (if (Int32.ofNat (n)) - (Int32.ofNat (1)) < (Int32.ofNat (0)) then (Int32.ofNat (0)) else (Int32.ofNat (n)) - (Int32.ofNat (1))) = (Int32.ofNat (n - 1)) := by
    rw [n_sub (by omega), if_neg (show ¬ (Int32.ofNat (n - 1)) < (Int32.ofNat (0)) from i32_nlt0 (by omega))]
  have h72 : up I1 (b + 6) (n - 1) (Int32.ofNat (0)) a 7 = I1 a 7 := up_n (Or.inl (by omega))
  have mx' : (if (Int32.ofNat (n - 1)) < (Int32.ofNat (0)) then (Int32.ofNat (0)) else (Int32.ofNat (n - 1))) = (Int32.ofNat (n - 1)) := if_neg (show ¬ (Int32.ofNat (n - 1)) < (Int32.ofNat (0)) from i32_nlt0 (by omega))
  conv => arg 1; simp (disch := omega) only [↓reduceIte, ↓q_let, ↓q_xz1, ↓q_xz0, ↓lg_cmp_ge, ↓lg_cmp_le, ↓lg_cmp_gt, ↓lg_cmp_lt, n_lit, j_lit, n_add, n_mul, n_sub, n_dec, Nat.add_sub_cancel, n_leT, n_leF, n_ltT, n_ltF, n_eqT, n_eqF, n_in, n_cl, n_m31, j_m63, j_of32, j_32, i64_add, i64_mul, jn_sub, j_leT, j_leF, j_ltT, j_ltF, j_eqF, jn_and30, jn_sar30, jn_shor, Int32.neg_neg, and_true, true_and, and_self, ↓bT_g5 hb hR, ↓bT_gI ht, h71, mx', ↓bT_wI hb, h72]
  refine q_bind (P := fun r => ∃ I', r = .inr (a, mg (4562 + zn J) I' J R) ∧ FrS (fun x => a + 1 ≤ x ∧ x < a + 5 ∨ x = b + 6) I1 I' ∧ ∀ x, x < n → I' (a + 1) x = (nd x).1 ∧ I' (a + 2) x = (nd x).2.1 ∧ I' (a + 3) x = (nd x).2.2.1 ∧ I' (a + 4) x = (Int32.ofNat (aro nd x))) ?_ ?_
  · refine q_loop (fun m s => ∃ I', s = (a, b, (Int32.ofNat (m)) - 1, mg (4562 + zn J) I' J R) ∧ m ≤ n ∧ FrS (fun x => a + 1 ≤ x ∧ x < a + 5 ∨ x = b + 6) I1 I' ∧ I' (b + 6) (n - 1) = (Int32.ofNat (0)) ∧ (∀ x, x < n → m ≤ pl sp x → ∀ k, k < aro nd x → I' (b + 6) (pl sp (kid sp x k)) = (Int32.ofNat (kid sp x k))) ∧ ∀ x, x < n → m ≤ pl sp x → I' (a + 1) x = (nd x).1 ∧ I' (a + 2) x = (nd x).2.1 ∧ I' (a + 3) x = (nd x).2.2.1 ∧ I' (a + 4) x = (Int32.ofNat (aro nd x))) ?_ (m := n) ⟨_, ?_, Nat.le_refl _, FrS_up FrS_rfl (Or.inr rfl), up_s, fun x hx h => absurd (pl_lt hw hx) (by omega), fun x hx h => absurd (pl_lt hw hx) (by omega)⟩ (by unfold xF; omega)
    · rintro m s ⟨I', rfl, hm, hF, hz, hc, hp⟩
      unfold f_X9_turn_s95 xlet
      dsimp only
      rcases m with _ | i
      · rw [if_pos (by first | decide | omega)]
        exact q_ex ⟨I', rfl, hF, fun x hx => hp x hx (by omega)⟩
      · have hi : i < n := by omega
        obtain ⟨x, hx, ex⟩ := pl_sur hw hi
        obtain ⟨k3, har⟩ := h3 x hx
        have wx := hw.2.2.2 x hx
        have plx := pl_ge hw hx
        have cl := cnt_le sp x x
        have y6 : I' (b + 6) i = (Int32.ofNat (x)) := by
          by_cases q : x = 0
          · rw [← ex, q, pl_0 hw]
            exact hz
          · obtain ⟨p, k, c1, c2, c3, c4⟩ := par hw hx (by omega)
            have ki := kid_in hw c2 c3
            have := (pl_inner hw c2 ki.1 (by have := (hw.2.2.2 _ ki.2.1).1; omega)).1
            have w := hc p c2 (by rw [← c4] at this; omega) k c3
            rw [← c4, ex] at w
            exact w
        have y5 : ∀ y, y < n → I' (b + 5) (pl sp y) = (Int32.ofNat (sp y)) := fun y hy => by rw [hF (b + 5) (by omega)]; exact hs1 y hy
        have e5 : I' (b + 5) i = (Int32.ofNat (sp x)) := by rw [← ex]; exact y5 x hx
        rw [i32_pred, if_neg (show ¬ (Int32.ofNat (i)) < (0 : Int32) from i32_nlt0 (by omega)), bT_g5 hb hR, bT_aI hb (by omega), y6, bT_g4 hb hR, bT_aI hb (by omega), e5]
        refine q_bind (P := fun r => ∃ I2, r = .inr (a, b, (Int32.ofNat (i)), mg (4562 + zn J) I2 J R) ∧ FrS (fun x => a + 1 ≤ x ∧ x < a + 5 ∨ x = b + 6) I1 I2 ∧ FrS (fun x => x = b + 6) I' I2 ∧ I2 (b + 6) (n - 1) = (Int32.ofNat (0)) ∧ I2 (b + 6) i = (Int32.ofNat (x)) ∧ ∀ y, y < n → i ≤ pl sp y → ∀ k, k < aro nd y → I2 (b + 6) (pl sp (kid sp y k)) = (Int32.ofNat (kid sp y k))) ?_ ?_
        · refine q_for (aro nd x) (fun k s => ∃ I2, s = (a, b, (Int32.ofNat (i)), (Int32.ofNat (kid sp x (aro nd x - k))), (Int32.ofNat (pl sp x + 1 - sp x + (kid sp x (aro nd x - k) - x - 1))) - 1, (Int32.ofNat (k)), mg (4562 + zn J) I2 J R) ∧ FrS (fun x => a + 1 ≤ x ∧ x < a + 5 ∨ x = b + 6) I1 I2 ∧ FrS (fun x => x = b + 6) I' I2 ∧ I2 (b + 6) (n - 1) = (Int32.ofNat (0)) ∧ I2 (b + 6) i = (Int32.ofNat (x)) ∧ (∀ y, y < n → i + 1 ≤ pl sp y → ∀ k, k < aro nd y → I2 (b + 6) (pl sp (kid sp y k)) = (Int32.ofNat (kid sp y k))) ∧ ∀ k', aro nd x - k ≤ k' → k' < aro nd x → I2 (b + 6) (pl sp (kid sp x k')) = (Int32.ofNat (kid sp x k'))) ?_ ?_ (i := 0) ⟨I', ?_, hF, FrS_rfl, hz, y6, hc, fun k' h1 h2 => absurd h1 (by omega)⟩ (by omega) (by unfold xF; omega)
          · rintro k s hk ⟨I2, rfl, hF2, hF2', hz2, hx2, hc2, hk2⟩
            have kb := kid_back hw hx hk
            obtain ⟨c1, c2, c3⟩ := kid_in hw hx (show aro nd x - (k + 1) < aro nd x by omega)
            have pc := pl_child hw hx (show aro nd x - (k + 1) < aro nd x by omega)
            have wc := hw.2.2.2 _ c2
            have pin := (pl_inner hw hx c1 (by omega)).1
            generalize hcc : kid sp x (aro nd x - (k + 1)) = c at *
            have z3 : I2 (b + 4) i = (Int32.ofNat (aro nd x)) := by rw [hF2 (b + 4) (by omega), hF1 (b + 4) (by omega), ← ex]; exact k3
            have z5 : I2 (b + 5) (pl sp c) = (Int32.ofNat (sp c)) := by rw [hF2' (b + 5) (by omega)]; exact y5 c c2
            have plc := pl_lt hw c2
            have u5 : ∀ v, up I2 (b + 6) (pl sp c) v (b + 5) (pl sp c) = I2 (b + 5) (pl sp c) := fun v => up_n (Or.inl (by omega))
            unfold f_X9_turn_s121 xlet
            dsimp only
            rw [show (Int32.ofNat (pl sp x + 1 - sp x + (kid sp x (aro nd x - k) - x - 1))) - 1 = (Int32.ofNat (pl sp c)) from by
              rw [show (1 : Int32) = (Int32.ofNat (1)) from rfl, n_sub (by omega)]
              congr 1
              omega]
            have zp : ((Int32.ofNat (pl sp c)) < (Int32.ofNat (0))) = False := eq_false (i32_nlt0 (by omega))
            conv => arg 1; simp (disch := omega) only [↓reduceIte, ↓q_let, ↓q_xz1, ↓q_xz0, ↓lg_cmp_ge, ↓lg_cmp_le, ↓lg_cmp_gt, ↓lg_cmp_lt, n_lit, j_lit, n_add, n_mul, n_sub, n_dec, Nat.add_sub_cancel, n_leT, n_leF, n_ltT, n_ltF, n_eqT, n_eqF, n_in, n_cl, n_m31, j_m63, j_of32, j_32, i64_add, i64_mul, jn_sub, j_leT, j_leF, j_ltT, j_ltF, j_eqF, jn_and30, jn_sar30, jn_shor, Int32.neg_neg, and_true, true_and, and_self, ↓bT_g3 hb hR, ↓bT_aI hb, z3, zp, ↓bT_g4 hb hR, z5, ↓bT_g5 hb hR, ↓bT_wI hb, u5]
            rw [show kid sp x (aro nd x - k) - sp c = c by omega, show ((Int32.ofNat (pl sp c)) - (Int32.ofNat (sp c)) : Int32) = (Int32.ofNat (pl sp x + 1 - sp x + (c - x - 1))) - 1 from by
              rw [Int32.sub_eq_iff_eq_add, ← n_sub1 (p := pl sp c) (s := sp c) (c := pl sp x + 1 - sp x + (c - x - 1)) (by omega)]
              rw [show (1 : Int32) = (Int32.ofNat (1)) from rfl, Int32.add_sub_cancel, Int32.sub_add_cancel]]
            refine q_go ⟨_, rfl, FrS_up hF2 (Or.inr rfl), FrS_up hF2' rfl, ?_, ?_, fun y hy h1 k' hk' => ?_, fun k' h1 h2 => ?_⟩
            · rw [up_n (Or.inr (by omega))]
              exact hz2
            · rw [up_n (Or.inr (by omega))]
              exact hx2
            · by_cases q : pl sp (kid sp y k') = pl sp c
              · have := pl_inj hw (kid_in hw hy hk').2.1 c2 q
                rw [this, up_s]
              · rw [up_n (Or.inr q)]
                exact hc2 y hy h1 k' hk'
            · by_cases q : k' = aro nd x - (k + 1)
              · rw [q, hcc, up_s]
              · by_cases q2 : pl sp (kid sp x k') = pl sp c
                · have := pl_inj hw (kid_in hw hx h2).2.1 c2 q2
                  rw [this, up_s]
                · rw [up_n (Or.inr q2)]
                  exact hk2 k' (by omega) h2
          · rintro s ⟨I2, rfl, hF2, hF2', hz2, hx2, hc2, hk2⟩
            have z3 : I2 (b + 4) i = (Int32.ofNat (aro nd x)) := by rw [hF2 (b + 4) (by omega), hF1 (b + 4) (by omega), ← ex]; exact k3
            unfold f_X9_turn_s121 xlet
            dsimp only
            conv => arg 1; simp (disch := omega) only [↓reduceIte, ↓q_let, ↓q_xz1, ↓q_xz0, ↓lg_cmp_ge, ↓lg_cmp_le, ↓lg_cmp_gt, ↓lg_cmp_lt, n_lit, j_lit, n_add, n_mul, n_sub, n_dec, Nat.add_sub_cancel, n_leT, n_leF, n_ltT, n_ltF, n_eqT, n_eqF, n_in, n_cl, n_m31, j_m63, j_of32, j_32, i64_add, i64_mul, jn_sub, j_leT, j_leF, j_ltT, j_ltF, j_eqF, jn_and30, jn_sar30, jn_shor, Int32.neg_neg, and_true, true_and, and_self, ↓bT_g3 hb hR, ↓bT_aI hb, z3]
            refine q_ex ⟨I2, rfl, hF2, hF2', hz2, hx2, fun y hy h1 k hk => ?_⟩
            by_cases q : y = x
            · rw [q] at hk ⊢
              exact hk2 k (by omega) hk
            · exact hc2 y hy (by
                by_cases w : pl sp y = i
                · exact absurd (pl_inj hw hy hx (by omega)) q
                · omega) k hk
          · rw [Nat.sub_zero, wx.2.2.1, show pl sp x + 1 - sp x + (x + sp x - x - 1) = i by omega, n_add]
            rfl
        · rintro r ⟨I2, rfl, hF2, hF2', hz2, hx2, hc2⟩
          simp only [Sum.elim_inr]
          unfold f_X9_turn_j173 xlet
          have q7 : I2 a 7 = (Int32.ofNat (n)) := by rw [hF2 a (by omega)]; exact h71
          have qb : CN I2 b n ln := ⟨hb, by rw [hF2 b (by omega), hF1 b (by omega)]; exact g7, g80, fun j hj => by
            rw [hF2 (b + 1) (by omega), hF2 (b + 2) (by omega), hF2 (b + 3) (by omega), hF2 (b + 4) (by omega), hF1 (b + 1) (by omega), hF1 (b + 2) (by omega), hF1 (b + 3) (by omega), hF1 (b + 4) (by omega)]
            exact g4 j hj⟩
          rw [bT_g5 hb hR, bT_aI hb (by omega), hx2, if_pos (bT_xk ht)]
          refine q_bind (T_put hR ht q7 hx g80 qb hi hab) ?_
          rintro r ⟨I3, rfl, hF3, hne, p1, p2, p3, p4⟩
          rw [show (Int32.ofNat (i)) + -1 = (Int32.ofNat (i)) - 1 from n_decm i]
          have el : ln i = nd x := by rw [← ex]; exact hln x hx
          rw [el] at p1 p2 p3 p4
          refine q_go ⟨i, by omega, I3, rfl, by omega, FrS_tr hF2 (FrS_mono hF3 (fun y h => Or.inl h)), ?_, fun y hy h1 k hk => ?_, fun y hy h1 => ?_⟩
          · rw [hF3 (b + 6) (by omega)]; exact hz2
          · rw [hF3 (b + 6) (by omega)]; exact hc2 y hy h1 k hk
          · by_cases q : y = x
            · rw [q]
              exact ⟨p1, p2, p3, p4⟩
            · have w := hp y hy (by
                by_cases z : pl sp y = i
                · exact absurd (pl_inj hw hy hx (by omega)) q
                · omega)
              rw [hne 1 y (by omega) (by omega) q, hne 2 y (by omega) (by omega) q, hne 3 y (by omega) (by omega) q, hne 4 y (by omega) (by omega) q, hF2' (a + 1) (by omega), hF2' (a + 2) (by omega), hF2' (a + 3) (by omega), hF2' (a + 4) (by omega)]
              exact w
    · rw [show n = n - 1 + 1 by omega, i32_pred]
      rfl
  · rintro r ⟨I2, rfl, hF2, hp2⟩
    simp only [Sum.elim_inr]
    unfold f_X9_turn_j191
    rw [if_pos (bT_xk ht)]
    refine q_bind (T_measure (n := n) (nd := nd) hR ⟨ht, by rw [hF2 a (by omega)]; exact h71, g80, fun x hx => ?_⟩ hw) ?_
    · obtain ⟨w1, w2, w3, w4⟩ := hp2 x hx
      exact ⟨w1, w2, w3, w4, (h3 x hx).2⟩
    · rintro r ⟨I3, rfl, hF3, h4⟩
      exact q_ok ⟨I3, rfl, FrS_tr (FrS_tr (FrS_mono hF1 (fun x h => by unfold St; omega)) (FrS_mono hF2 (fun x h => by unfold St; omega))) (FrS_mono hF3 (fun x h => by unfold St; omega)), h4⟩
end CTX
