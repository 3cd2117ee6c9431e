/-! the class's trees: nodes added, parts, copies -/
def ext (nd : Nat → Nd) (n : Nat) (x : Nd) : Nat → Nd := fun i => if i = n then x else nd i
/-- so many nodes, and behind them those of another row from a place on -/
def app (nd : Nat → Nd) (n : Nat) (nd' : Nat → Nd) (p : Nat) : Nat → Nd := fun i => if i < n then nd i else nd' (p + (i - n))
theorem CN_congr {I : Nat → Nat → Int32} {a n : Nat} {nd nd' : Nat → Nd} (h : CN I a n nd) (e : ∀ i, i < n → nd i = nd' i) : CN I a n nd' := ⟨h.1, h.2.1, h.2.2.1, fun i hi => by rw [← e i hi]; exact h.2.2.2 i hi⟩
theorem WT_congr {n : Nat} {ar ar' sp : Nat → Nat} (h : WT n ar sp) (e : ∀ i, i < n → ar i = ar' i) : WT n ar' sp := ⟨h.1, h.2.1, h.2.2.1, fun i hi => by rw [← e i hi]; exact h.2.2.2 i hi⟩
theorem kid_shift {sp : Nat → Nat} {p i : Nat} : ∀ k, kid sp (p + i) k = p + kid (fun j => sp (p + j)) i k := by
  intro k
  induction k with
  | zero => rfl
  | succ k ih =>
    show kid sp (p + i) k + sp (kid sp (p + i) k) = p + (kid (fun j => sp (p + j)) i k + sp (p + kid (fun j => sp (p + j)) i k))
    rw [ih]
    omega
/-- a node with all beneath it is a tree -/
theorem WT_sub {n p : Nat} {ar sp : Nat → Nat} (h : WT n ar sp) (hp : p < n) : WT (sp p) (fun i => ar (p + i)) (fun i => sp (p + i)) := by
  have w := h.2.2.2 p hp
  refine ⟨by omega, by have := h.2.1; omega, rfl, fun i hi => ?_⟩
  have hi' : p + i < n := by omega
  have wi := h.2.2.2 (p + i) hi'
  have l : p + i + sp (p + i) ≤ p + sp p := by
    by_cases q : i = 0
    · rw [q]
      exact Nat.le_refl _
    · exact lam' h hp (by omega) (by omega)
  have ks : ∀ k, kid sp (p + i) k = p + kid (fun j => sp (p + j)) i k := fun k => kid_shift k
  refine ⟨wi.1, (show i + sp (p + i) ≤ sp p by omega), ?_, fun k hk => ?_⟩
  · have := wi.2.2.1
    rw [ks] at this
    show kid (fun j => sp (p + j)) i (ar (p + i)) = i + sp (p + i)
    omega
  · show kid (fun j => sp (p + j)) i k < sp p
    have := (kid_in h hi' hk).2.2
    have w2 := (h.2.2.2 _ (kid_in h hi' hk).2.1).1
    rw [ks] at this w2
    omega
theorem CT_n {I : Nat → Nat → Int32} {a n : Nat} {nd : Nat → Nd} {sp : Nat → Nat} (h : CT I a n nd sp) : 0 < n ∧ n ≤ 80 := ⟨h.2.1.1, h.1.2.2.1⟩
section CTU
variable {I : Nat → Nat → Int32} {J : Nat → Nat → Int64} {R : Nat → Nat → Option Nat} {a b n m : Nat} {nd nd' : Nat → Nd} {sp sp' : Nat → Nat} {β : Type}
theorem T_clear (ht : isTr a) : QK (f_X9_clear (mg (4562 + zn J) I J R) a) (fun r => ∃ I', r = mg (4562 + zn J) I' J R ∧ FrS (fun x => x = a) I I' ∧ CN I' a 0 nd) := by
  unfold f_X9_clear
  rw [bT_sI ht]
  exact q_ok ⟨_, rfl, FrS_up FrS_rfl rfl, ht, up_s, by omega, fun i hi => absurd hi (by omega)⟩
theorem T_add {k v f : Int32} {r : Nat} (hR : RA R) (h : CN I a n nd) (hn : n < 80) (hr : r ≤ 4) : QK (f_X9_add (mg (4562 + zn J) I J R) a k v f (Int32.ofNat (r))) (fun s => ∃ I', s = (1, mg (4562 + zn J) I' J R) ∧ FrS (fun x => a ≤ x ∧ x < a + 5) I I' ∧ CN I' a (n + 1) (ext nd n (k, v, f, r))) := by
  obtain ⟨ht, h1, h80, h4⟩ := h
  unfold f_X9_add
  have u1 : ∀ I' j v, 1 ≤ j → up I' (a + j) n v a 7 = I' a 7 := fun I' j v hj => up_n (Or.inl (by omega))
  conv => arg 1; simp (disch := omega) only [↓reduceIte, ↓q_let, ↓q_xz1, ↓q_xz0, ↓lg_cmp_ge, ↓lg_cmp_le, ↓lg_cmp_gt, ↓lg_cmp_lt, n_lit, j_lit, n_add, n_mul, n_sub, n_dec, Nat.add_sub_cancel, n_leT, n_leF, n_ltT, n_ltF, n_eqT, n_eqF, n_in, n_cl, n_m31, j_m63, j_of32, j_32, i64_add, i64_mul, jn_sub, j_leT, j_leF, j_ltT, j_ltF, j_eqF, jn_and30, jn_sar30, jn_shor, Int32.neg_neg, and_true, true_and, and_self, ↓bT_gI ht, h1, ↓bT_g0 ht hR, ↓bT_g1 ht hR, ↓bT_g2 ht hR, ↓bT_g3 ht hR, ↓bT_wI ht, ↓bT_sI ht, u1]
  refine q_ok ⟨_, rfl, FrS_up (FrS_up (FrS_up (FrS_up (FrS_up FrS_rfl (by omega)) (by omega)) (by omega)) (by omega)) (by omega), ht, up_s, by omega, fun i hi => ?_⟩
  simp only [up_a]
  by_cases q : i = n
  · subst q
    simp [ext, hr]
  · have e : ext nd n (k, v, f, r) i = nd i := if_neg q
    rw [e]
    have g := h4 i (by omega)
    simp [q]
    exact g
theorem T_addFull {k v f r : Int32} (h : CN I a 80 nd) : f_X9_add (mg (4562 + zn J) I J R) a k v f r = some (0, mg (4562 + zn J) I J R) := by
  obtain ⟨ht, h1, h80, h4⟩ := h
  unfold f_X9_add
  simp (disch := omega) only [↓reduceIte, ↓q_let, ↓q_xz1, ↓q_xz0, ↓lg_cmp_ge, ↓lg_cmp_le, ↓lg_cmp_gt, ↓lg_cmp_lt, n_lit, j_lit, n_add, n_mul, n_sub, n_dec, Nat.add_sub_cancel, n_leT, n_leF, n_ltT, n_ltF, n_eqT, n_eqF, n_in, n_cl, n_m31, j_m63, j_of32, j_32, i64_add, i64_mul, jn_sub, j_leT, j_leF, j_ltT, j_ltF, j_eqF, jn_and30, jn_sar30, jn_shor, Int32.neg_neg, and_true, true_and, and_self, ↓bT_gI ht, h1]
theorem T_addNode {p : Nat} (hR : RA R) (h : CN I a n nd) (h' : CN I b m nd') (hp : p < m) (hn : n < 80) : QK (f_X9_addNode (mg (4562 + zn J) I J R) a b (Int32.ofNat (p))) (fun s => ∃ I', s = (1, mg (4562 + zn J) I' J R) ∧ FrS (fun x => a ≤ x ∧ x < a + 5) I I' ∧ CN I' a (n + 1) (ext nd n (nd' p))) := by
  obtain ⟨hb, h1, h80, h4⟩ := h'
  obtain ⟨g1, g2, g3, g4, g5⟩ := h4 p hp
  unfold f_X9_addNode f_X9_addNode_j48
  have z0 : ¬ (Int32.ofNat (p)) < 0 := i32_nlt0 (by omega)
  conv => arg 1; simp (disch := omega) only [↓reduceIte, ↓q_let, ↓q_xz1, ↓q_xz0, ↓lg_cmp_ge, ↓lg_cmp_le, ↓lg_cmp_gt, ↓lg_cmp_lt, n_lit, j_lit, n_add, n_mul, n_sub, n_dec, Nat.add_sub_cancel, n_leT, n_leF, n_ltT, n_ltF, n_eqT, n_eqF, n_in, n_cl, n_m31, j_m63, j_of32, j_32, i64_add, i64_mul, jn_sub, j_leT, j_leF, j_ltT, j_ltF, j_eqF, jn_and30, jn_sar30, jn_shor, Int32.neg_neg, and_true, true_and, and_self, ↓bT_gI hb, h1, ↓bT_g0 hb hR, ↓bT_g1 hb hR, ↓bT_g2 hb hR, ↓bT_g3 hb hR, ↓bT_aI hb, g1, g2, g3, g4, bT_xk h.1]
  refine q_bind (T_add hR h hn g5) ?_
  rintro s ⟨I', rfl, hF, hC⟩
  exact q_ok ⟨I', rfl, hF, hC⟩
theorem T_addNodeFull {p : Nat} (hR : RA R) (h : CN I a 80 nd) (h' : CN I b m nd') (hp : p < m) : f_X9_addNode (mg (4562 + zn J) I J R) a b (Int32.ofNat (p)) = some (0, mg (4562 + zn J) I J R) := by
  obtain ⟨hb, h1, h80, h4⟩ := h'
  obtain ⟨g1, g2, g3, g4, g5⟩ := h4 p hp
  unfold f_X9_addNode f_X9_addNode_j47 f_X9_addNode_j48
  simp (disch := omega) only [↓reduceIte, ↓q_let, ↓q_xz1, ↓q_xz0, ↓lg_cmp_ge, ↓lg_cmp_le, ↓lg_cmp_gt, ↓lg_cmp_lt, n_lit, j_lit, n_add, n_mul, n_sub, n_dec, Nat.add_sub_cancel, n_leT, n_leF, n_ltT, n_ltF, n_eqT, n_eqF, n_in, n_cl, n_m31, j_m63, j_of32, j_32, i64_add, i64_mul, jn_sub, j_leT, j_leF, j_ltT, j_ltF, j_eqF, jn_and30, jn_sar30, jn_shor, Int32.neg_neg, and_true, true_and, and_self, ↓bT_gI hb, h1, ↓bT_g0 hb hR, ↓bT_g1 hb hR, ↓bT_g2 hb hR, ↓bT_g3 hb hR, ↓bT_aI hb, g1, g2, g3, g4, bT_xk h.1, T_addFull h, Option.bind_some]
theorem app_0 {q : Nat} {i : Nat} (h : i < n) : app nd n nd' q i = nd i := if_pos h
theorem app_s {q k i : Nat} (h : i < n + (k + 1)) : ext (app nd n nd' q) (n + k) (nd' (q + k)) i = app nd n nd' q i := by
  unfold ext app
  by_cases z : i = n + k
  · rw [if_pos z, if_neg (by omega), z, show q + (n + k - n) = q + k by omega]
  · rw [if_neg z]
theorem T_addPart {p : Nat} (hR : RA R) (h : CN I a n nd) (h' : CT I b m nd' sp') (hp : p < m) (hab : a ≠ b) : QK (f_X9_addPart (mg (4562 + zn J) I J R) a b (Int32.ofNat (p))) (fun s => (n + sp' p ≤ 80 ∧ ∃ I', s = (1, mg (4562 + zn J) I' J R) ∧ FrS (fun x => a ≤ x ∧ x < a + 5) I I' ∧ CN I' a (n + sp' p) (app nd n nd' p)) ∨ (80 < n + sp' p ∧ ∃ I', s = (0, mg (4562 + zn J) I' J R) ∧ FrS (fun x => a ≤ x ∧ x < a + 5) I I')) := by
  have hb := h'.1.1
  have hd := isTr_ne h.1 hb hab
  have w := h'.2.1.2.2.2 p hp
  have hm := CT_n h'
  have h80 := h.2.2.1
  unfold f_X9_addPart f_X9_addPart_j62
  have e5 := (h'.2.2 p hp).1
  have e7 := h'.1.2.1
  have mn : (if (Int32.ofNat (m)) < (Int32.ofNat (p + sp' p)) then (Int32.ofNat (m)) else (Int32.ofNat (p + sp' p))) = (Int32.ofNat (p + sp' p)) := by
    by_cases q : m < p + sp' p
    · omega
    · simp (disch := omega) only [↓reduceIte, ↓q_let, ↓q_xz1, ↓q_xz0, ↓lg_cmp_ge, ↓lg_cmp_le, ↓lg_cmp_gt, ↓lg_cmp_lt, n_lit, j_lit, n_add, n_mul, n_sub, n_dec, Nat.add_sub_cancel, n_leT, n_leF, n_ltT, n_ltF, n_eqT, n_eqF, n_in, n_cl, n_m31, j_m63, j_of32, j_32, i64_add, i64_mul, jn_sub, j_leT, j_leF, j_ltT, j_ltF, j_eqF, jn_and30, jn_sar30, jn_shor, Int32.neg_neg, and_true, true_and, and_self]
  conv => arg 1; simp (disch := omega) only [↓reduceIte, ↓q_let, ↓q_xz1, ↓q_xz0, ↓lg_cmp_ge, ↓lg_cmp_le, ↓lg_cmp_gt, ↓lg_cmp_lt, n_lit, j_lit, n_add, n_mul, n_sub, n_dec, Nat.add_sub_cancel, n_leT, n_leF, n_ltT, n_ltF, n_eqT, n_eqF, n_in, n_cl, n_m31, j_m63, j_of32, j_32, i64_add, i64_mul, jn_sub, j_leT, j_leF, j_ltT, j_ltF, j_eqF, jn_and30, jn_sar30, jn_shor, Int32.neg_neg, and_true, true_and, and_self, ↓bT_gI hb, e7, ↓bT_g4 hb hR, ↓bT_aI hb, e5, mn]
  refine q_bind (P := fun s => (n + sp' p ≤ 80 ∧ ∃ I', s = .inr (1, mg (4562 + zn J) I' J R) ∧ FrS (fun x => a ≤ x ∧ x < a + 5) I I' ∧ CN I' a (n + sp' p) (app nd n nd' p)) ∨ (80 < n + sp' p ∧ ∃ I', s = .inr (0, mg (4562 + zn J) I' J R) ∧ FrS (fun x => a ≤ x ∧ x < a + 5) I I')) ?_ ?_
  · refine q_loop (fun t s => ∃ I' k, s = (a, b, (Int32.ofNat (p + sp' p)), 1, (Int32.ofNat (p + k)), mg (4562 + zn J) I' J R) ∧ k + t = sp' p + 1 ∧ k ≤ sp' p ∧ n + k ≤ 80 ∧ FrS (fun x => a ≤ x ∧ x < a + 5) I I' ∧ CN I' a (n + k) (app nd n nd' p) ∨ ∃ I' k, s = (a, b, (Int32.ofNat (p + sp' p)), 0, (Int32.ofNat (p + k)), mg (4562 + zn J) I' J R) ∧ k + t = sp' p + 1 ∧ k ≤ sp' p ∧ 80 < n + sp' p ∧ FrS (fun x => a ≤ x ∧ x < a + 5) I I') ?_ (m := sp' p + 1) ⟨I, 0, Or.inl ⟨rfl, by omega, by omega, by omega, FrS_rfl, CN_congr h (fun i hi => (app_0 hi).symm)⟩⟩ (by unfold xF; omega)
    rintro t s ⟨I', k, ⟨rfl, hk, hk2, hk3, hF, hC⟩ | ⟨I'', k', rfl, hk, hk2, hk3, hF⟩⟩
    · unfold f_X9_addPart_s36 xlet
      dsimp only
      by_cases q : sp' p ≤ k
      · rw [if_pos ((i32_le (by omega) (by omega)).mpr (by omega))]
        obtain rfl : k = sp' p := by omega
        exact q_ex (Or.inl ⟨by omega, I', rfl, hF, hC⟩)
      · rw [if_neg (fun z => absurd ((i32_le (by omega) (by omega)).mp z) (by omega)), if_neg (by first | decide | omega), if_pos (bT_xk h.1)]
        have hb' : CN I' b m nd' := CN_keep h'.1 (fun x h1 h2 => hF x (by omega))
        by_cases z : n + k < 80
        · refine q_bind (T_addNode (p := p + k) hR hC hb' (by omega) z) ?_
          rintro s ⟨I2, rfl, hF2, hC2⟩
          rw [show (Int32.ofNat (p + k)) + 1 = (Int32.ofNat (p + (k + 1))) from n_add (p + k) 1]
          refine q_go ⟨t - 1, by omega, I2, k + 1, Or.inl ⟨rfl, by omega, by omega, by omega, FrS_tr hF hF2, CN_congr hC2 (fun i hi => app_s hi)⟩⟩
        · have e : n + k = 80 := by omega
          rw [e] at hC
          rw [T_addNodeFull (p := p + k) hR hC hb' (by omega), Option.bind_some, show (Int32.ofNat (p + k)) + 1 = (Int32.ofNat (p + (k + 1))) from n_add (p + k) 1]
          exact q_go ⟨t - 1, by omega, I', k + 1, Or.inr ⟨I', k + 1, rfl, by omega, by omega, by omega, hF⟩⟩
    · unfold f_X9_addPart_s36 xlet
      dsimp only
      by_cases q : sp' p ≤ k'
      · rw [if_pos ((i32_le (by omega) (by omega)).mpr (by omega))]
        exact q_ex (Or.inr ⟨by omega, I'', rfl, hF⟩)
      · rw [if_neg (fun z => absurd ((i32_le (by omega) (by omega)).mp z) (by omega)), if_pos rfl]
        exact q_ex (Or.inr ⟨by omega, I'', rfl, hF⟩)
  · rintro s (⟨h1, I', rfl, hF, hC⟩ | ⟨h1, I', rfl, hF⟩)
    · exact q_ok (Or.inl ⟨h1, I', rfl, hF, hC⟩)
    · exact q_ok (Or.inr ⟨h1, I', rfl, hF⟩)
theorem T_copy (hR : RA R) (ht : isTr a) (h' : CT I b m nd' sp') (hab : a ≠ b) : QK (f_X9_copy (mg (4562 + zn J) I J R) a b) (fun r => ∃ I', r = mg (4562 + zn J) I' J R ∧ FrS (St a) I I' ∧ CT I' a m nd' sp') := by
  have hd := isTr_ne ht h'.1.1 hab
  have hm := CT_n h'
  unfold f_X9_copy
  rw [if_pos (bT_xk ht)]
  refine q_bind (T_clear (nd := nd') ht) ?_
  rintro r ⟨I1, rfl, hF1, h1⟩
  rw [if_pos (bT_xk ht)]
  have h2 : CT I1 b m nd' sp' := CT_keep h' (fun x g1 g2 => hF1 x (by omega))
  have e0 := h2.2.1.2.2.1
  refine q_bind (T_addPart (p := 0) hR h1 h2 hm.1 hab) ?_
  rintro r (⟨-, I2, rfl, hF2, h3⟩ | ⟨g, -⟩)
  · rw [if_pos (bT_xk ht)]
    rw [e0, Nat.zero_add] at h3
    refine q_bind (T_measure hR (CN_congr h3 (fun i hi => (show app nd' 0 nd' 0 i = nd' i by
      unfold app
      rw [if_neg (by omega)]
      congr 1
      omega))) h'.2.1) ?_
    rintro r ⟨I3, rfl, hF3, h4⟩
    exact q_ok ⟨I3, rfl, FrS_tr (FrS_tr (FrS_mono hF1 (fun x h => by unfold St; omega)) (FrS_mono hF2 (fun x h => by unfold St; omega))) (FrS_mono hF3 (fun x h => by unfold St; omega)), h4⟩
  · omega
end CTU
