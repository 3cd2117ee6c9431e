/-! the class's trees: nodes cut out, a part kept, a number made -/
theorem aro_rpn {nd nd' : Nat → Nd} {p s m : Nat} : aro (rpn nd p s nd' m) = rpn (aro nd) p s (aro nd') m := by
  funext i
  unfold aro rpn
  split
  · rfl
  · split <;> rfl
section CTW
variable {I : Nat → Nat → Int32} {J : Nat → Nat → Int64} {R : Nat → Nat → Option Nat} {a b n m : Nat} {nd nd' : Nat → Nd} {sp sp' : Nat → Nat} {β : Type}
theorem T_cut {s e : Nat} (hR : RA R) (h : CN I a n nd) (hse : s ≤ e) (hen : e ≤ n) : QK (f_X9_cut (mg (4562 + zn J) I J R) a (Int32.ofNat (s)) (Int32.ofNat (e))) (fun r => ∃ I', r = mg (4562 + zn J) I' J R ∧ FrS (fun x => a ≤ x ∧ x < a + 5) I I' ∧ CN I' a (n - (e - s)) (fun i => if i < s then nd i else nd (i + (e - s)))) := by
  obtain ⟨ht, h1, h80, h4⟩ := h
  unfold f_X9_cut f_X9_cut_j20 xlet
  have z0 : ¬ (Int32.ofNat (s)) < 0 := i32_nlt0 (by omega)
  dsimp only
  rw [n_sub hse]
  by_cases q : e - s ≤ 0
  · rw [if_pos (show (Int32.ofNat (e - s)) ≤ (0 : Int32) from (i32_le (m := 0) (by omega) (by omega)).mpr q)]
    refine q_ok ⟨I, rfl, FrS_rfl, CN_congr (show CN I a (n - (e - s)) nd from by
      rw [show n - (e - s) = n by omega]
      exact ⟨ht, h1, h80, h4⟩) (fun i hi => ?_)⟩
    show nd i = if i < s then nd i else nd (i + (e - s))
    split
    · rfl
    · rw [show i + (e - s) = i by omega]
  · rw [if_neg (show ¬ (Int32.ofNat (e - s)) ≤ (0 : Int32) from fun z => q ((i32_le (m := 0) (by omega) (by omega)).mp z)), if_neg z0, bT_gI ht, h1, if_pos ((i32_le (by omega) (by omega)).mpr hen)]
    refine q_bind (P := fun r => ∃ I', r = .inr (a, (Int32.ofNat (e - s)), mg (4562 + zn J) I' J R) ∧ FrS (fun x => a ≤ x ∧ x < a + 5) I I' ∧ I' a 7 = (Int32.ofNat (n)) ∧ ∀ i, i < n - (e - s) → I' (a + 1) i = (nd (if i < s then i else i + (e - s))).1 ∧ I' (a + 2) i = (nd (if i < s then i else i + (e - s))).2.1 ∧ I' (a + 3) i = (nd (if i < s then i else i + (e - s))).2.2.1 ∧ I' (a + 4) i = (Int32.ofNat ((nd (if i < s then i else i + (e - s))).2.2.2))) ?_ ?_
    · refine q_loop (fun t st => ∃ I' x, st = (a, (Int32.ofNat (e - s)), (Int32.ofNat (x)), mg (4562 + zn J) I' J R) ∧ x + t = n ∧ e ≤ x ∧ FrS (fun x => a ≤ x ∧ x < a + 5) I I' ∧ I' a 7 = (Int32.ofNat (n)) ∧ (∀ i, x ≤ i → i < n → I' (a + 1) i = (nd i).1 ∧ I' (a + 2) i = (nd i).2.1 ∧ I' (a + 3) i = (nd i).2.2.1 ∧ I' (a + 4) i = (Int32.ofNat ((nd i).2.2.2))) ∧ ∀ i, i < x - (e - s) → I' (a + 1) i = (nd (if i < s then i else i + (e - s))).1 ∧ I' (a + 2) i = (nd (if i < s then i else i + (e - s))).2.1 ∧ I' (a + 3) i = (nd (if i < s then i else i + (e - s))).2.2.1 ∧ I' (a + 4) i = (Int32.ofNat ((nd (if i < s then i else i + (e - s))).2.2.2))) ?_ (m := n - e) ⟨I, e, rfl, by omega, Nat.le_refl _, FrS_rfl, h1, fun i g1 g2 => ?_, fun i g1 => ?_⟩ (by unfold xF; omega)
      · rintro t st ⟨I', x, rfl, hx, hex, hF, h7, hhi, hlo⟩
        unfold f_X9_cut_s24 xlet
        dsimp only
        by_cases w : n ≤ x
        · conv => arg 1; simp (disch := omega) only [↓reduceIte, ↓q_let, ↓q_xz1, ↓q_xz0, ↓lg_cmp_ge, ↓lg_cmp_le, ↓lg_cmp_gt, ↓lg_cmp_lt, n_lit, j_lit, n_add, n_mul, n_sub, n_dec, Nat.add_sub_cancel, n_leT, n_leF, n_ltT, n_ltF, n_eqT, n_eqF, n_in, n_cl, n_m31, j_m63, j_of32, j_32, i64_add, i64_mul, jn_sub, j_leT, j_leF, j_ltT, j_ltF, j_eqF, jn_and30, jn_sar30, jn_shor, Int32.neg_neg, and_true, true_and, and_self, ↓bT_gI ht, h7]
          obtain rfl : x = n := by omega
          exact q_ex ⟨I', rfl, hF, h7, hlo⟩
        · obtain ⟨k1, k2, k3, k4⟩ := hhi x (Nat.le_refl _) (by omega)
          have u1 : ∀ (I' : Nat → Nat → Int32) (v : Int32) (j j' : Nat), j ≠ j' → up I' (a + j) (x - (e - s)) v (a + j') x = I' (a + j') x := fun I' v j j' hj => up_n (Or.inl (by omega))
          conv => arg 1; simp (disch := omega) only [↓reduceIte, ↓q_let, ↓q_xz1, ↓q_xz0, ↓lg_cmp_ge, ↓lg_cmp_le, ↓lg_cmp_gt, ↓lg_cmp_lt, n_lit, j_lit, n_add, n_mul, n_sub, n_dec, Nat.add_sub_cancel, n_leT, n_leF, n_ltT, n_ltF, n_eqT, n_eqF, n_in, n_cl, n_m31, j_m63, j_of32, j_32, i64_add, i64_mul, jn_sub, j_leT, j_leF, j_ltT, j_ltF, j_eqF, jn_and30, jn_sar30, jn_shor, Int32.neg_neg, and_true, true_and, and_self, ↓bT_gI ht, h7, ↓bT_g0 ht hR, ↓bT_g1 ht hR, ↓bT_g2 ht hR, ↓bT_g3 ht hR, ↓bT_aI ht, ↓bT_wI ht, u1, k1, k2, k3, k4]
          refine q_go ⟨t - 1, by omega, _, x + 1, rfl, by omega, by omega, FrS_up (FrS_up (FrS_up (FrS_up hF (by omega)) (by omega)) (by omega)) (by omega), ?_, fun i g1 g2 => ?_, fun i g1 => ?_⟩
          · rw [up_n (Or.inl (by omega)), up_n (Or.inl (by omega)), up_n (Or.inl (by omega)), up_n (Or.inl (by omega))]
            exact h7
          · have ne : i ≠ x - (e - s) := by omega
            simp only [up_a, ne, and_false, if_false]
            exact hhi i (by omega) g2
          · simp only [up_a]
            by_cases y : i = x - (e - s)
            · have yx : (if i < s then i else i + (e - s)) = x := by rw [if_neg (by omega)]; omega
              rw [yx]
              simp [y]
            · simp [y]
              exact hlo i (by omega)
      · obtain ⟨k1, k2, k3, k4, k5⟩ := h4 i g2
        exact ⟨k1, k2, k3, k4⟩
      · rw [if_pos (by omega)]
        obtain ⟨k1, k2, k3, k4, k5⟩ := h4 i (by omega)
        exact ⟨k1, k2, k3, k4⟩
    · rintro r ⟨I', rfl, hF, h7, hlo⟩
      simp only [Sum.elim_inr]
      unfold f_X9_cut_j103
      conv => arg 1; simp (disch := omega) only [↓reduceIte, ↓q_let, ↓q_xz1, ↓q_xz0, ↓lg_cmp_ge, ↓lg_cmp_le, ↓lg_cmp_gt, ↓lg_cmp_lt, n_lit, j_lit, n_add, n_mul, n_sub, n_dec, Nat.add_sub_cancel, n_leT, n_leF, n_ltT, n_ltF, n_eqT, n_eqF, n_in, n_cl, n_m31, j_m63, j_of32, j_32, i64_add, i64_mul, jn_sub, j_leT, j_leF, j_ltT, j_ltF, j_eqF, jn_and30, jn_sar30, jn_shor, Int32.neg_neg, and_true, true_and, and_self, ↓bT_gI ht, h7, ↓bT_sI ht]
      refine q_ok ⟨_, rfl, FrS_up hF (by omega), ht, up_s, by omega, fun i hi => ?_⟩
      obtain ⟨k1, k2, k3, k4⟩ := hlo i hi
      have en : (fun i => if i < s then nd i else nd (i + (e - s))) i = nd (if i < s then i else i + (e - s)) := by
        show (if i < s then nd i else nd (i + (e - s))) = _
        split <;> rfl
      rw [en, up_n (Or.inl (by omega)), up_n (Or.inl (by omega)), up_n (Or.inl (by omega)), up_n (Or.inl (by omega))]
      refine ⟨k1, k2, k3, k4, ?_⟩
      split
      · exact (h4 i (by omega)).2.2.2.2
      · exact (h4 (i + (e - s)) (by omega)).2.2.2.2
/-- of a node only one beneath it is kept -/
theorem T_keepOnly {p q : Nat} (hR : RA R) (h : CT I a n nd sp) (hp : p < n) (hq1 : p < q) (hq2 : q < p + sp p) : QK (f_X9_keepOnly (mg (4562 + zn J) I J R) a (Int32.ofNat (p)) (Int32.ofNat (q))) (fun r => ∃ I', r = mg (4562 + zn J) I' J R ∧ FrS (St a) I I' ∧ CT I' a (n - sp p + sp q) (rpn nd p (sp p) (fun j => nd (q + j)) (sp q)) (rps sp p (sp p) (fun j => sp (q + j)) (sp q))) := by
  have ht := h.1.1
  have hn := CT_n h
  have wp := h.2.1.2.2.2 p hp
  have hqn : q < n := by omega
  have wq := h.2.1.2.2.2 q hqn
  have l := lam' h.2.1 hp hq1 hq2
  have e1 := (h.2.2 p hp).1
  have e2 := (h.2.2 q hqn).1
  unfold f_X9_keepOnly
  conv => arg 1; simp (disch := omega) only [↓reduceIte, ↓q_let, ↓q_xz1, ↓q_xz0, ↓lg_cmp_ge, ↓lg_cmp_le, ↓lg_cmp_gt, ↓lg_cmp_lt, n_lit, j_lit, n_add, n_mul, n_sub, n_dec, Nat.add_sub_cancel, n_leT, n_leF, n_ltT, n_ltF, n_eqT, n_eqF, n_in, n_cl, n_m31, j_m63, j_of32, j_32, i64_add, i64_mul, jn_sub, j_leT, j_leF, j_ltT, j_ltF, j_eqF, jn_and30, jn_sar30, jn_shor, Int32.neg_neg, and_true, true_and, and_self, ↓bT_g4 ht hR, ↓bT_aI ht, e1, e2, bT_xk ht]
  refine q_bind (T_cut hR h.1 l (by omega)) ?_
  rintro r ⟨I1, rfl, hF1, h1⟩
  rw [if_pos (bT_xk ht)]
  refine q_bind (T_cut hR h1 (show p ≤ q by omega) (by omega)) ?_
  rintro r ⟨I2, rfl, hF2, h2⟩
  rw [if_pos (bT_xk ht)]
  have hsub := WT_sub h.2.1 hqn
  have hrep := WT_rep h.2.1 hp hsub (by omega)
  have e3 : n - (p + sp p - (q + sp q)) - (q - p) = n - sp p + sp q := by omega
  rw [e3] at h2
  have h3 : CN I2 a (n - sp p + sp q) (rpn nd p (sp p) (fun j => nd (q + j)) (sp q)) := CN_congr h2 (fun i hi => by
    unfold rpn
    show (if i < p then (if i < q + sp q then nd i else nd (i + (p + sp p - (q + sp q)))) else (if i + (q - p) < q + sp q then nd (i + (q - p)) else nd (i + (q - p) + (p + sp p - (q + sp q))))) = _
    by_cases z1 : i < p
    · rw [if_pos z1, if_pos (by omega), if_pos z1]
    · rw [if_neg z1, if_neg z1]
      by_cases z2 : i < p + sp q
      · rw [if_pos (by omega), if_pos z2]
        congr 1
        omega
      · rw [if_neg (by omega), if_neg z2]
        congr 1
        omega)
  refine q_bind (T_measure hR h3 (by rw [aro_rpn]; exact hrep)) ?_
  rintro r ⟨I3, rfl, hF3, h4⟩
  exact q_ok ⟨I3, rfl, FrS_tr (FrS_tr (FrS_mono hF1 (fun x h => by unfold St; omega)) (FrS_mono hF2 (fun x h => by unfold St; omega))) (FrS_mono hF3 (fun x h => by unfold St; omega)), h4⟩
theorem WT_leaf : WT 1 (fun _ => 0) (fun _ => 1) := ⟨by decide, by decide, rfl, fun i hi => ⟨Nat.le_refl 1, (show i + 1 ≤ 1 by omega), rfl, fun k (hk : k < 0) => absurd hk (by omega)⟩⟩
theorem T_makeNumber {p : Nat} {v : Int32} (hR : RA R) (h : CT I a n nd sp) (hp : p < n) : QK (f_X9_makeNumber (mg (4562 + zn J) I J R) a (Int32.ofNat (p)) v) (fun r => ∃ I', r = mg (4562 + zn J) I' J R ∧ FrS (St a) I I' ∧ CT I' a (n - sp p + 1) (rpn nd p (sp p) (fun _ => ((0 : Int32), v, (-1 : Int32), 0)) 1) (rps sp p (sp p) (fun _ => 1) 1)) := by
  have ht := h.1.1
  have hn := CT_n h
  have wp := h.2.1.2.2.2 p hp
  have e1 := (h.2.2 p hp).1
  unfold f_X9_makeNumber
  conv => arg 1; simp (disch := omega) only [↓reduceIte, ↓q_let, ↓q_xz1, ↓q_xz0, ↓lg_cmp_ge, ↓lg_cmp_le, ↓lg_cmp_gt, ↓lg_cmp_lt, n_lit, j_lit, n_add, n_mul, n_sub, n_dec, Nat.add_sub_cancel, n_leT, n_leF, n_ltT, n_ltF, n_eqT, n_eqF, n_in, n_cl, n_m31, j_m63, j_of32, j_32, i64_add, i64_mul, jn_sub, j_leT, j_leF, j_ltT, j_ltF, j_eqF, jn_and30, jn_sar30, jn_shor, Int32.neg_neg, and_true, true_and, and_self, ↓bT_g4 ht hR, ↓bT_aI ht, e1, bT_xk ht]
  refine q_bind (T_cut (s := p + 1) (e := p + sp p) hR h.1 (by omega) (by omega)) ?_
  rintro r ⟨I1, rfl, hF1, h1⟩
  conv => arg 1; simp (disch := omega) only [↓reduceIte, ↓q_let, ↓q_xz1, ↓q_xz0, ↓lg_cmp_ge, ↓lg_cmp_le, ↓lg_cmp_gt, ↓lg_cmp_lt, n_lit, j_lit, n_add, n_mul, n_sub, n_dec, Nat.add_sub_cancel, n_leT, n_leF, n_ltT, n_ltF, n_eqT, n_eqF, n_in, n_cl, n_m31, j_m63, j_of32, j_32, i64_add, i64_mul, jn_sub, j_leT, j_leF, j_ltT, j_ltF, j_eqF, jn_and30, jn_sar30, jn_shor, Int32.neg_neg, and_true, true_and, and_self, ↓bT_g0 ht hR, ↓bT_g1 ht hR, ↓bT_g2 ht hR, ↓bT_g3 ht hR, ↓bT_wI ht, bT_xk ht]
  have e3 : n - (p + sp p - (p + 1)) = n - sp p + 1 := by omega
  rw [e3] at h1
  have hrep := WT_rep h.2.1 hp WT_leaf (by omega)
  obtain ⟨-, k7, k80, k4⟩ := h1
  refine q_bind (T_measure (n := n - sp p + 1) (nd := rpn nd p (sp p) (fun _ => ((0 : Int32), v, (-1 : Int32), 0)) 1) (sp := rps sp p (sp p) (fun _ => 1) 1) hR ⟨ht, ?_, k80, fun i hi => ?_⟩ (by rw [aro_rpn]; exact hrep)) ?_
  · simp only [up_n (Or.inl (show a ≠ a + 1 by omega)), up_n (Or.inl (show a ≠ a + 2 by omega)), up_n (Or.inl (show a ≠ a + 3 by omega)), up_n (Or.inl (show a ≠ a + 4 by omega))]
    exact k7
  · simp only [up_a]
    by_cases y : i = p
    · have er : rpn nd p (sp p) (fun _ => ((0 : Int32), v, (-1 : Int32), 0)) 1 i = ((0 : Int32), v, (-1 : Int32), 0) := by
        unfold rpn
        rw [if_neg (by omega), if_pos (by omega)]
      rw [er]
      simp [y]
    · have g := k4 i hi
      have er : rpn nd p (sp p) (fun _ => ((0 : Int32), v, (-1 : Int32), 0)) 1 i = (if i < p + 1 then nd i else nd (i + (p + sp p - (p + 1)))) := by
        unfold rpn
        by_cases z : i < p
        · rw [if_pos z, if_pos (by omega)]
        · rw [if_neg z, if_neg (by omega), if_neg (by omega)]
          congr 1
          omega
      rw [er]
      simp [y]
      exact g
  · rintro r ⟨I3, rfl, hF3, h4⟩
    refine q_ok ⟨I3, rfl, FrS_tr (FrS_tr (FrS_mono hF1 (fun x h => by unfold St; omega)) (FrS_up (FrS_up (FrS_up (FrS_up FrS_rfl (by unfold St; omega)) (by unfold St; omega)) (by unfold St; omega)) (by unfold St; omega))) (FrS_mono hF3 (fun x h => by unfold St; omega)), h4⟩
end CTW
