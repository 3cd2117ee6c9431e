/-! the class's trees -/
def isTr (a : Nat) : Prop := 10 ≤ a ∧ a + 7 < 4561 ∧ KK a = (9, 0) ∧ (∀ k, k < 7 → RR a k = some (a + (k + 1)) ∧ KK (a + (k + 1)) = (14, 80))
abbrev Nd : Type := Int32 × Int32 × Int32 × Nat
def CN (I : Nat → Nat → Int32) (a n : Nat) (nd : Nat → Nd) : Prop := isTr a ∧ I a 7 = (Int32.ofNat (n)) ∧ n ≤ 80 ∧ ∀ i, i < n → I (a + 1) i = (nd i).1 ∧ I (a + 2) i = (nd i).2.1 ∧ I (a + 3) i = (nd i).2.2.1 ∧ I (a + 4) i = (Int32.ofNat ((nd i).2.2.2)) ∧ (nd i).2.2.2 ≤ 4
def aro (nd : Nat → Nd) : Nat → Nat := fun i => (nd i).2.2.2
def CT (I : Nat → Nat → Int32) (a n : Nat) (nd : Nat → Nd) (sp : Nat → Nat) : Prop := CN I a n nd ∧ WT n (aro nd) sp ∧ (∀ i, i < n → I (a + 5) i = (Int32.ofNat (sp i)) ∧ I (a + 6) i = (Int32.ofNat (pl sp i)) ∧ I (a + 7) (pl sp i) = (Int32.ofNat (i)))
def St (a : Nat) : Nat → Prop := fun x => a ≤ x ∧ x < a + 8
theorem CN_keep {I I' : Nat → Nat → Int32} {a n : Nat} {nd : Nat → Nd} (h : CN I a n nd) (e : ∀ x, a ≤ x → x < a + 8 → I' x = I x) : CN I' a n nd := by
  obtain ⟨h1, h2, h3, h4⟩ := h
  refine ⟨h1, by rw [e a (by omega) (by omega)]; exact h2, h3, fun i hi => ?_⟩
  rw [e (a + 1) (by omega) (by omega), e (a + 2) (by omega) (by omega), e (a + 3) (by omega) (by omega), e (a + 4) (by omega) (by omega)]
  exact h4 i hi
theorem CT_keep {I I' : Nat → Nat → Int32} {a n : Nat} {nd : Nat → Nd} {sp : Nat → Nat} (h : CT I a n nd sp) (e : ∀ x, a ≤ x → x < a + 8 → I' x = I x) : CT I' a n nd sp := by
  refine ⟨CN_keep h.1 e, h.2.1, fun i hi => ?_⟩
  rw [e (a + 5) (by omega) (by omega), e (a + 6) (by omega) (by omega), e (a + 7) (by omega) (by omega)]
  exact h.2.2 i hi
theorem isTr_ne {a b : Nat} (h : isTr a) (h' : isTr b) (hn : a ≠ b) : a + 8 ≤ b ∨ b + 8 ≤ a := by
  have key : ∀ {a b : Nat}, isTr a → isTr b → a < b → a + 8 ≤ b := by
    intro a b h h' hl
    refine Nat.le_of_not_lt (fun q => ?_)
    have k2 := h'.2.2.1
    have k1 := (h.2.2.2 (b - a - 1) (by omega)).2
    rw [show a + (b - a - 1 + 1) = b by omega, k2] at k1
    exact absurd (show 9 = 14 from congrArg Prod.fst k1) (by first | decide | omega)
  rcases Nat.lt_or_gt_of_ne hn with q | q
  · exact Or.inl (key h h' q)
  · exact Or.inr (key h' h q)
theorem n_sub1 {p s c : Nat} (h : p + 1 = c + s) : (Int32.ofNat (p)) - (Int32.ofNat (s)) + (Int32.ofNat (1)) = (Int32.ofNat (c)) := by
  rw [Int32.sub_eq_add_neg, Int32.add_assoc, Int32.add_comm (-_), ← Int32.add_assoc, n_add, h, ← Int32.sub_eq_add_neg, n_sub (by omega), Nat.add_sub_cancel]
section CTT
variable {I : Nat → Nat → Int32} {J : Nat → Nat → Int64} {R : Nat → Nat → Option Nat} {a b n : Nat} {nd : Nat → Nd} {sp : Nat → Nat} {β : Type}
theorem bT_xk (h : isTr a) : xk (mg (4562 + zn J) I J R) a 9 = true := me_xk (by have := h.2.1; omega) (by rw [h.2.2.1])
theorem bT_gR {F : Nat → Option β} (k : Nat) (hk : k < 7) (h : isTr a) (hR : RA R) : (gR (mg (4562 + zn J) I J R) a 9 k).bind F = F (a + (k + 1)) := by
  rw [e_gR (v := a + (k + 1)) (by have := h.2.1; omega) (by rw [h.2.2.1]) (hR.get (by have := h.2.1; omega) (by
    unfold kb
    rw [h.2.2.1]
    exact hk) (h.2.2.2 k hk).1)]
  rfl
theorem bT_g0 {F : Nat → Option β} (h : isTr a) (hR : RA R) : (gR (mg (4562 + zn J) I J R) a 9 0).bind F = F (a + 1) := bT_gR 0 (by first | decide | omega) h hR
theorem bT_g1 {F : Nat → Option β} (h : isTr a) (hR : RA R) : (gR (mg (4562 + zn J) I J R) a 9 1).bind F = F (a + 2) := bT_gR 1 (by first | decide | omega) h hR
theorem bT_g2 {F : Nat → Option β} (h : isTr a) (hR : RA R) : (gR (mg (4562 + zn J) I J R) a 9 2).bind F = F (a + 3) := bT_gR 2 (by first | decide | omega) h hR
theorem bT_g3 {F : Nat → Option β} (h : isTr a) (hR : RA R) : (gR (mg (4562 + zn J) I J R) a 9 3).bind F = F (a + 4) := bT_gR 3 (by first | decide | omega) h hR
theorem bT_g4 {F : Nat → Option β} (h : isTr a) (hR : RA R) : (gR (mg (4562 + zn J) I J R) a 9 4).bind F = F (a + 5) := bT_gR 4 (by first | decide | omega) h hR
theorem bT_g5 {F : Nat → Option β} (h : isTr a) (hR : RA R) : (gR (mg (4562 + zn J) I J R) a 9 5).bind F = F (a + 6) := bT_gR 5 (by first | decide | omega) h hR
theorem bT_g6 {F : Nat → Option β} (h : isTr a) (hR : RA R) : (gR (mg (4562 + zn J) I J R) a 9 6).bind F = F (a + 7) := bT_gR 6 (by first | decide | omega) h hR
theorem bT_gI {F : Int32 → Option β} {k : Nat} (h : isTr a) : (gI (mg (4562 + zn J) I J R) a 9 k).bind F = F (I a k) := by
  rw [e_gI (by have := h.2.1; omega) (by rw [h.2.2.1])]
  rfl
theorem bT_sI {F : xM → Option β} {k : Nat} {v : Int32} (h : isTr a) : (sI (mg (4562 + zn J) I J R) a 9 k v).bind F = F (mg (4562 + zn J) (up I a k v) J R) := by
  rw [e_sI (by have := h.2.1; omega) (by rw [h.2.2.1])]
  rfl
theorem bT_aI {F : Int32 → Option β} {j k : Nat} (h : isTr a) (hj : (1 ≤ j ∧ j ≤ 7) ∧ k < 80) : (aI (mg (4562 + zn J) I J R) (a + j) 14 (Int32.ofNat (k))).bind F = F (I (a + j) k) := by
  have e := (h.2.2.2 (j - 1) (by omega)).2
  rw [show j - 1 + 1 = j by omega] at e
  rw [e_aI (by have := h.2.1; omega) e hj.2 (by first | decide | omega)]
  rfl
theorem bT_wI {F : xM → Option β} {j k : Nat} {v : Int32} (h : isTr a) (hj : (1 ≤ j ∧ j ≤ 7) ∧ k < 80) : (wI (mg (4562 + zn J) I J R) (a + j) (Int32.ofNat (k)) v).bind F = F (mg (4562 + zn J) (up I (a + j) k v) J R) := by
  have e := (h.2.2.2 (j - 1) (by omega)).2
  rw [show j - 1 + 1 = j by omega] at e
  rw [e_wI (by have := h.2.1; omega) e hj.2 (by first | decide | omega)]
  rfl
/-- sizes and places, when all nodes are there -/
theorem T_measure (hR : RA R) (h : CN I a n nd) (hw : WT n (aro nd) sp) : QK (f_X9_measure (mg (4562 + zn J) I J R) a) (fun r => ∃ I', r = mg (4562 + zn J) I' J R ∧ FrS (fun x => a + 5 ≤ x ∧ x < a + 8) I I' ∧ CT I' a n nd sp) := by
  obtain ⟨ht, h1, h80, h4⟩ := h
  have n0 := hw.1
  unfold f_X9_measure
  conv => arg 1; simp (disch := omega) only [↓reduceIte, ↓q_let, ↓q_xz1, ↓q_xz0, ↓lg_cmp_ge, ↓lg_cmp_le, ↓lg_cmp_gt, ↓lg_cmp_lt, n_lit, j_lit, n_add, n_mul, n_sub, n_dec, Nat.add_sub_cancel, n_leT, n_leF, n_ltT, n_ltF, n_eqT, n_eqF, n_in, n_cl, n_m31, j_m63, j_of32, j_32, i64_add, i64_mul, jn_sub, j_leT, j_leF, j_ltT, j_ltF, j_eqF, jn_and30, jn_sar30, jn_shor, Int32.neg_neg, and_true, true_and, and_self, ↓bT_gI ht, h1]
  refine q_bind (P := fun r => ∃ I', r = .inr (a, mg (4562 + zn J) I' J R) ∧ FrS (fun x => x = a + 5) I I' ∧ ∀ j, j < n → I' (a + 5) j = (Int32.ofNat (sp j))) ?_ ?_
  · refine q_loop (fun m s => ∃ I', s = (a, (Int32.ofNat (m)) - 1, mg (4562 + zn J) I' J R) ∧ m ≤ n ∧ FrS (fun x => x = a + 5) I I' ∧ ∀ j, m ≤ j → j < n → I' (a + 5) j = (Int32.ofNat (sp j))) ?_ (m := n) ⟨I, ?_, Nat.le_refl _, FrS_rfl, fun j _ _ => by omega⟩ (by unfold xF; omega)
    · rintro m s ⟨I', rfl, hm, hF, hs⟩
      unfold f_X9_measure_s7 xlet
      dsimp only
      rcases m with _ | i
      · rw [if_pos (by first | decide | omega)]
        exact q_ex ⟨I', rfl, hF, fun j hj => hs j (by omega) hj⟩
      · have hi : i < n := by omega
        obtain ⟨w1, w2, w3, w4⟩ := hw.2.2.2 i hi
        have har : aro nd i ≤ 4 := (h4 i hi).2.2.2.2
        have e3 : I' (a + 4) i = (Int32.ofNat (aro nd i)) := by rw [hF (a + 4) (by omega)]; exact (h4 i hi).2.2.2.1
        have e7 : I' a 7 = (Int32.ofNat (n)) := by rw [hF a (by omega)]; exact h1
        rw [i32_pred, if_neg (i32_nlt0 (by omega)), show (Int32.ofNat (i)) + 1 = (Int32.ofNat (i + 1)) from n_add i 1]
        refine q_bind (P := fun r => r = .inr (a, (Int32.ofNat (i)), (Int32.ofNat (i + sp i)))) ?_ ?_
        · refine q_for (aro nd i) (fun k s => s = (a, (Int32.ofNat (i)), (Int32.ofNat (kid sp i k)), (Int32.ofNat (k)))) ?_ ?_ (i := 0) rfl (by omega) (by unfold xF; omega)
          · rintro k s hk rfl
            obtain ⟨g1, g2, g3⟩ := kid_in hw hi hk
            have e4 := hs (kid sp i k) (by omega) g2
            have g4 := hw.2.2.2 _ g2
            unfold f_X9_measure_s17 xlet
            dsimp only
            conv => arg 1; simp (disch := omega) only [↓reduceIte, ↓q_let, ↓q_xz1, ↓q_xz0, ↓lg_cmp_ge, ↓lg_cmp_le, ↓lg_cmp_gt, ↓lg_cmp_lt, n_lit, j_lit, n_add, n_mul, n_sub, n_dec, Nat.add_sub_cancel, n_leT, n_leF, n_ltT, n_ltF, n_eqT, n_eqF, n_in, n_cl, n_m31, j_m63, j_of32, j_32, i64_add, i64_mul, jn_sub, j_leT, j_leF, j_ltT, j_ltF, j_eqF, jn_and30, jn_sar30, jn_shor, Int32.neg_neg, and_true, true_and, and_self, ↓bT_g3 ht hR, ↓bT_aI ht, e3, ↓bT_gI ht, e7, ↓bT_g4 ht hR, e4]
            exact q_go rfl
          · rintro s rfl
            unfold f_X9_measure_s17 xlet
            dsimp only
            conv => arg 1; simp (disch := omega) only [↓reduceIte, ↓q_let, ↓q_xz1, ↓q_xz0, ↓lg_cmp_ge, ↓lg_cmp_le, ↓lg_cmp_gt, ↓lg_cmp_lt, n_lit, j_lit, n_add, n_mul, n_sub, n_dec, Nat.add_sub_cancel, n_leT, n_leF, n_ltT, n_ltF, n_eqT, n_eqF, n_in, n_cl, n_m31, j_m63, j_of32, j_32, i64_add, i64_mul, jn_sub, j_leT, j_leF, j_ltT, j_ltF, j_eqF, jn_and30, jn_sar30, jn_shor, Int32.neg_neg, and_true, true_and, and_self, ↓bT_g3 ht hR, ↓bT_aI ht, e3]
            exact q_ex (by rw [w3])
        · rintro r rfl
          simp only [Sum.elim_inr]
          unfold f_X9_measure_j50 xlet
          conv => arg 1; simp (disch := omega) only [↓reduceIte, ↓q_let, ↓q_xz1, ↓q_xz0, ↓lg_cmp_ge, ↓lg_cmp_le, ↓lg_cmp_gt, ↓lg_cmp_lt, n_lit, j_lit, n_add, n_mul, n_sub, n_dec, Nat.add_sub_cancel, n_leT, n_leF, n_ltT, n_ltF, n_eqT, n_eqF, n_in, n_cl, n_m31, j_m63, j_of32, j_32, i64_add, i64_mul, jn_sub, j_leT, j_leF, j_ltT, j_ltF, j_eqF, jn_and30, jn_sar30, jn_shor, Int32.neg_neg, and_true, true_and, and_self, ↓bT_g4 ht hR, ↓bT_wI ht]
          rw [show i + sp i - i = sp i by omega, n_decm]
          refine q_go ⟨i, by omega, _, rfl, by omega, FrS_up hF rfl, fun j h1 h2 => ?_⟩
          by_cases q : j = i
          · rw [q, up_s]
          · rw [up_n (Or.inr q)]
            exact hs j (by omega) h2
    · rw [show n = n - 1 + 1 by omega, i32_pred]
      rfl
  rintro r ⟨I1, rfl, hF1, hs1⟩
  simp only [Sum.elim_inr]
  have x3 : ∀ i, i < n → I1 (a + 4) i = (Int32.ofNat (aro nd i)) := fun i hi => by rw [hF1 (a + 4) (by omega)]; exact (h4 i hi).2.2.2.1
  have x7 : I1 a 7 = (Int32.ofNat (n)) := by rw [hF1 a (by omega)]; exact h1
  unfold f_X9_measure_j65
  conv => arg 1; simp (disch := omega) only [↓reduceIte, ↓q_let, ↓q_xz1, ↓q_xz0, ↓lg_cmp_ge, ↓lg_cmp_le, ↓lg_cmp_gt, ↓lg_cmp_lt, n_lit, j_lit, n_add, n_mul, n_sub, n_dec, Nat.add_sub_cancel, n_leT, n_leF, n_ltT, n_ltF, n_eqT, n_eqF, n_in, n_cl, n_m31, j_m63, j_of32, j_32, i64_add, i64_mul, jn_sub, j_leT, j_leF, j_ltT, j_ltF, j_eqF, jn_and30, jn_sar30, jn_shor, Int32.neg_neg, and_true, true_and, and_self, ↓bT_g5 ht hR, ↓bT_gI ht, x7, ↓bT_wI ht]
  refine q_bind (P := fun r => ∃ I', r = .inr (a, mg (4562 + zn J) I' J R) ∧ FrS (fun x => x = a + 6) I1 I' ∧ ∀ j, j < n → I' (a + 6) j = (Int32.ofNat (pl sp j))) ?_ ?_
  · refine q_for n (fun i s => ∃ I', s = (a, (Int32.ofNat (i)), mg (4562 + zn J) I' J R) ∧ FrS (fun x => x = a + 6) I1 I' ∧ I' (a + 6) 0 = (Int32.ofNat (pl sp 0)) ∧ ∀ j, j < i → ∀ k, k < aro nd j → I' (a + 6) (kid sp j k) = (Int32.ofNat (pl sp (kid sp j k)))) ?_ ?_ (i := 0) ⟨_, rfl, FrS_up FrS_rfl rfl, ?_, fun j h => absurd h (by omega)⟩ (by omega) (by unfold xF; omega)
    · rintro i s hi ⟨I', rfl, hF, hz, hc⟩
      have y7 : I' a 7 = (Int32.ofNat (n)) := by rw [hF a (by omega)]; exact x7
      have y5 : ∀ j, j < n → I' (a + 5) j = (Int32.ofNat (sp j)) := fun j hj => by rw [hF (a + 5) (by omega)]; exact hs1 j hj
      have y4 : I' (a + 4) i = (Int32.ofNat (aro nd i)) := by rw [hF (a + 4) (by omega)]; exact x3 i hi
      have y6 : I' (a + 6) i = (Int32.ofNat (pl sp i)) := by
        by_cases q : i = 0
        · rw [q]; exact hz
        · obtain ⟨p, k, g1, g2, g3, g4⟩ := par hw hi (by omega)
          rw [g4]
          exact hc p g1 k g3
      obtain ⟨w1, w2, w3, w4⟩ := hw.2.2.2 i hi
      have har : aro nd i ≤ 4 := (h4 i hi).2.2.2.2
      have hpl := pl_ge hw hi
      have hpn := pl_lt hw hi
      have e5 := y5 i hi
      unfold f_X9_measure_s79 xlet
      dsimp only
      conv => arg 1; simp (disch := omega) only [↓reduceIte, ↓q_let, ↓q_xz1, ↓q_xz0, ↓lg_cmp_ge, ↓lg_cmp_le, ↓lg_cmp_gt, ↓lg_cmp_lt, n_lit, j_lit, n_add, n_mul, n_sub, n_dec, Nat.add_sub_cancel, n_leT, n_leF, n_ltT, n_ltF, n_eqT, n_eqF, n_in, n_cl, n_m31, j_m63, j_of32, j_32, i64_add, i64_mul, jn_sub, j_leT, j_leF, j_ltT, j_ltF, j_eqF, jn_and30, jn_sar30, jn_shor, Int32.neg_neg, and_true, true_and, and_self, ↓bT_gI ht, y7, ↓bT_g5 ht hR, ↓bT_aI ht, y6, ↓bT_g4 ht hR, e5]
      refine q_bind (P := fun r => ∃ I2, r = .inr (a, (Int32.ofNat (i)), mg (4562 + zn J) I2 J R) ∧ FrS (fun x => x = a + 6) I1 I2 ∧ I2 (a + 6) 0 = (Int32.ofNat (pl sp 0)) ∧ ∀ j, j < i + 1 → ∀ k, k < aro nd j → I2 (a + 6) (kid sp j k) = (Int32.ofNat (pl sp (kid sp j k)))) ?_ ?_
      · refine q_for (aro nd i) (fun k s => ∃ I2, s = (a, (Int32.ofNat (i)), (Int32.ofNat (cnt sp i i + (kid sp i k - i - 1))), (Int32.ofNat (kid sp i k)), (Int32.ofNat (k)), mg (4562 + zn J) I2 J R) ∧ FrS (fun x => x = a + 6) I1 I2 ∧ I2 (a + 6) 0 = (Int32.ofNat (pl sp 0)) ∧ (∀ j, j < i → ∀ k, k < aro nd j → I2 (a + 6) (kid sp j k) = (Int32.ofNat (pl sp (kid sp j k)))) ∧ ∀ k', k' < k → I2 (a + 6) (kid sp i k') = (Int32.ofNat (pl sp (kid sp i k')))) ?_ ?_ (i := 0) ⟨I', ?_, hF, hz, hc, fun k' h => absurd h (by omega)⟩ (by omega) (by unfold xF; omega)
        · rintro k s hk ⟨I2, rfl, hF2, hz2, hc2, hk2⟩
          obtain ⟨g1, g2, g3⟩ := kid_in hw hi hk
          have g4 := hw.2.2.2 _ g2
          have z7 : I2 a 7 = (Int32.ofNat (n)) := by rw [hF2 a (by omega)]; exact x7
          have z5 : I2 (a + 5) (kid sp i k) = (Int32.ofNat (sp (kid sp i k))) := by rw [hF2 (a + 5) (by omega)]; exact hs1 _ g2
          have z4 : I2 (a + 4) i = (Int32.ofNat (aro nd i)) := by rw [hF2 (a + 4) (by omega)]; exact x3 i hi
          have pc := pl_child hw hi hk
          have hcl := cnt_le sp i i
          have up5 : ∀ v, up I2 (a + 6) (kid sp i k) v (a + 5) (kid sp i k) = I2 (a + 5) (kid sp i k) := fun v => up_n (Or.inl (by omega))
          unfold f_X9_measure_s110 xlet
          dsimp only
          conv => arg 1; simp (disch := omega) only [↓reduceIte, ↓q_let, ↓q_xz1, ↓q_xz0, ↓lg_cmp_ge, ↓lg_cmp_le, ↓lg_cmp_gt, ↓lg_cmp_lt, n_lit, j_lit, n_add, n_mul, n_sub, n_dec, Nat.add_sub_cancel, n_leT, n_leF, n_ltT, n_ltF, n_eqT, n_eqF, n_in, n_cl, n_m31, j_m63, j_of32, j_32, i64_add, i64_mul, jn_sub, j_leT, j_leF, j_ltT, j_ltF, j_eqF, jn_and30, jn_sar30, jn_shor, Int32.neg_neg, and_true, true_and, and_self, ↓bT_g3 ht hR, ↓bT_aI ht, z4, ↓bT_gI ht, z7, ↓bT_g4 ht hR, z5, ↓bT_g5 ht hR, ↓bT_wI ht, up5]
          rw [show cnt sp i i + (kid sp i k - i - 1) + sp (kid sp i k) - 1 = pl sp (kid sp i k) by omega, show cnt sp i i + (kid sp i k - i - 1) + sp (kid sp i k) = cnt sp i i + (kid sp i (k + 1) - i - 1) by
            have : kid sp i (k + 1) = kid sp i k + sp (kid sp i k) := rfl
            omega]
          refine q_go ⟨_, rfl, FrS_up hF2 rfl, ?_, fun j hj k' hk' => ?_, fun k' hk' => ?_⟩
          · rw [up_n (Or.inr (by omega))]
            exact hz2
          · rw [up_a]
            split
            · next q => rw [q.2]
            · exact hc2 j hj k' hk'
          · rw [up_a]
            split
            · next q => rw [q.2]
            · next q =>
              refine hk2 k' ?_
              by_cases y : k' = k
              · rw [y] at q
                exact absurd ⟨rfl, rfl⟩ q
              · omega
        · rintro s ⟨I2, rfl, hF2, hz2, hc2, hk2⟩
          have z4 : I2 (a + 4) i = (Int32.ofNat (aro nd i)) := by rw [hF2 (a + 4) (by omega)]; exact x3 i hi
          unfold f_X9_measure_s110 xlet
          dsimp only
          conv => arg 1; simp (disch := omega) only [↓reduceIte, ↓q_let, ↓q_xz1, ↓q_xz0, ↓lg_cmp_ge, ↓lg_cmp_le, ↓lg_cmp_gt, ↓lg_cmp_lt, n_lit, j_lit, n_add, n_mul, n_sub, n_dec, Nat.add_sub_cancel, n_leT, n_leF, n_ltT, n_ltF, n_eqT, n_eqF, n_in, n_cl, n_m31, j_m63, j_of32, j_32, i64_add, i64_mul, jn_sub, j_leT, j_leF, j_ltT, j_ltF, j_eqF, jn_and30, jn_sar30, jn_shor, Int32.neg_neg, and_true, true_and, and_self, ↓bT_g3 ht hR, ↓bT_aI ht, z4]
          refine q_ex ⟨I2, rfl, hF2, hz2, fun j hj k hk => ?_⟩
          by_cases y : j = i
          · rw [y] at hk ⊢
            exact hk2 k hk
          · exact hc2 j (by omega) k hk
        · have e0 : kid sp i 0 = i + 1 := rfl
          rw [e0, n_sub1 (show pl sp i + 1 = (cnt sp i i + (i + 1 - i - 1)) + sp i by omega)]
      · rintro r ⟨I2, rfl, hF2, hz2, hc2⟩
        simp only [Sum.elim_inr]
        unfold f_X9_measure_j162 xlet
        conv => arg 1; simp (disch := omega) only [↓reduceIte, ↓q_let, ↓q_xz1, ↓q_xz0, ↓lg_cmp_ge, ↓lg_cmp_le, ↓lg_cmp_gt, ↓lg_cmp_lt, n_lit, j_lit, n_add, n_mul, n_sub, n_dec, Nat.add_sub_cancel, n_leT, n_leF, n_ltT, n_ltF, n_eqT, n_eqF, n_in, n_cl, n_m31, j_m63, j_of32, j_32, i64_add, i64_mul, jn_sub, j_leT, j_leF, j_ltT, j_ltF, j_eqF, jn_and30, jn_sar30, jn_shor, Int32.neg_neg, and_true, true_and, and_self]
        exact q_go ⟨I2, rfl, hF2, hz2, hc2⟩
    · rintro s ⟨I', rfl, hF, hz, hc⟩
      have y7 : I' a 7 = (Int32.ofNat (n)) := by rw [hF a (by omega)]; exact x7
      unfold f_X9_measure_s79 xlet
      dsimp only
      conv => arg 1; simp (disch := omega) only [↓reduceIte, ↓q_let, ↓q_xz1, ↓q_xz0, ↓lg_cmp_ge, ↓lg_cmp_le, ↓lg_cmp_gt, ↓lg_cmp_lt, n_lit, j_lit, n_add, n_mul, n_sub, n_dec, Nat.add_sub_cancel, n_leT, n_leF, n_ltT, n_ltF, n_eqT, n_eqF, n_in, n_cl, n_m31, j_m63, j_of32, j_32, i64_add, i64_mul, jn_sub, j_leT, j_leF, j_ltT, j_ltF, j_eqF, jn_and30, jn_sar30, jn_shor, Int32.neg_neg, and_true, true_and, and_self, ↓bT_gI ht, y7]
      refine q_ex ⟨I', rfl, hF, fun j hj => ?_⟩
      by_cases q : j = 0
      · rw [q]; exact hz
      · obtain ⟨p, k, g1, g2, g3, g4⟩ := par hw hj (by omega)
        rw [g4]
        exact hc p g2 k g3
    · rw [up_s, pl_0 hw]
  rintro r ⟨I2, rfl, hF2, hp2⟩
  simp only [Sum.elim_inr]
  have x7' : I2 a 7 = (Int32.ofNat (n)) := by rw [hF2 a (by omega)]; exact x7
  unfold f_X9_measure_j168 f_X9_measure_j216 xlet
  refine q_bind (P := fun r => ∃ I', r = .inr (mg (4562 + zn J) I' J R) ∧ FrS (fun x => x = a + 7) I2 I' ∧ ∀ j, j < n → I' (a + 7) (pl sp j) = (Int32.ofNat (j))) ?_ ?_
  · refine q_for n (fun i s => ∃ I', s = (a, (Int32.ofNat (i)), mg (4562 + zn J) I' J R) ∧ FrS (fun x => x = a + 7) I2 I' ∧ ∀ j, j < i → I' (a + 7) (pl sp j) = (Int32.ofNat (j))) ?_ ?_ (i := 0) ⟨I2, rfl, FrS_rfl, fun j h => absurd h (by omega)⟩ (by omega) (by unfold xF; omega)
    · rintro i s hi ⟨I', rfl, hF, hc⟩
      have y7 : I' a 7 = (Int32.ofNat (n)) := by rw [hF a (by omega)]; exact x7'
      have y6 : I' (a + 6) i = (Int32.ofNat (pl sp i)) := by rw [hF (a + 6) (by omega)]; exact hp2 i hi
      have hpn := pl_lt hw hi
      unfold f_X9_measure_s170 f_X9_measure_j210 xlet
      dsimp only
      conv => arg 1; simp (disch := omega) only [↓reduceIte, ↓q_let, ↓q_xz1, ↓q_xz0, ↓lg_cmp_ge, ↓lg_cmp_le, ↓lg_cmp_gt, ↓lg_cmp_lt, n_lit, j_lit, n_add, n_mul, n_sub, n_dec, Nat.add_sub_cancel, n_leT, n_leF, n_ltT, n_ltF, n_eqT, n_eqF, n_in, n_cl, n_m31, j_m63, j_of32, j_32, i64_add, i64_mul, jn_sub, j_leT, j_leF, j_ltT, j_ltF, j_eqF, jn_and30, jn_sar30, jn_shor, Int32.neg_neg, and_true, true_and, and_self, ↓bT_gI ht, y7, ↓bT_g5 ht hR, ↓bT_aI ht, y6, ↓bT_g6 ht hR, ↓bT_wI ht]
      refine q_go ⟨_, rfl, FrS_up hF rfl, fun j hj => ?_⟩
      by_cases q : j = i
      · rw [q, up_s]
      · rw [up_n (Or.inr (fun e => q (pl_inj hw (by omega) hi e)))]
        exact hc j (by omega)
    · rintro s ⟨I', rfl, hF, hc⟩
      have y7 : I' a 7 = (Int32.ofNat (n)) := by rw [hF a (by omega)]; exact x7'
      unfold f_X9_measure_s170 xlet
      dsimp only
      conv => arg 1; simp (disch := omega) only [↓reduceIte, ↓q_let, ↓q_xz1, ↓q_xz0, ↓lg_cmp_ge, ↓lg_cmp_le, ↓lg_cmp_gt, ↓lg_cmp_lt, n_lit, j_lit, n_add, n_mul, n_sub, n_dec, Nat.add_sub_cancel, n_leT, n_leF, n_ltT, n_ltF, n_eqT, n_eqF, n_in, n_cl, n_m31, j_m63, j_of32, j_32, i64_add, i64_mul, jn_sub, j_leT, j_leF, j_ltT, j_ltF, j_eqF, jn_and30, jn_sar30, jn_shor, Int32.neg_neg, and_true, true_and, and_self, ↓bT_gI ht, y7]
      exact q_ex ⟨I', rfl, hF, hc⟩
  · rintro r ⟨I3, rfl, hF3, hc3⟩
    simp only [Sum.elim_inr]
    have fr : ∀ x, x ≠ a + 5 → x ≠ a + 6 → x ≠ a + 7 → I3 x = I x := fun x q1 q2 q3 => (hF3 x q3).trans ((hF2 x q2).trans (hF1 x q1))
    refine q_ok ⟨I3, rfl, fun x hx => fr x (by omega) (by omega) (by omega), ⟨ht, by rw [fr a (by omega) (by omega) (by omega)]; exact h1, h80, fun i hi => ?_⟩, hw, fun i hi => ⟨?_, ?_, hc3 i hi⟩⟩
    · rw [fr (a + 1) (by omega) (by omega) (by omega), fr (a + 2) (by omega) (by omega) (by omega), fr (a + 3) (by omega) (by omega) (by omega), fr (a + 4) (by omega) (by omega) (by omega)]
      exact h4 i hi
    · rw [hF3 (a + 5) (by omega), hF2 (a + 5) (by omega)]
      exact hs1 i hi
    · rw [hF3 (a + 6) (by omega)]
      exact hp2 i hi
end CTT
