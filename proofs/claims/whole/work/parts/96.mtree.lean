/-! the reference's trees -/
def FrK (S : Nat → Nat → Prop) (I I' : Nat → Nat → Int32) : Prop := ∀ a k, ¬ S a k → I' a k = I a k
theorem FrK_rfl {S : Nat → Nat → Prop} {I : Nat → Nat → Int32} : FrK S I I := fun _ _ _ => rfl
theorem FrK_tr {S : Nat → Nat → Prop} {I I' I'' : Nat → Nat → Int32} (h : FrK S I I') (h' : FrK S I' I'') : FrK S I I'' := fun a k hx => (h' a k hx).trans (h a k hx)
theorem FrK_mono {S T : Nat → Nat → Prop} {I I' : Nat → Nat → Int32} (h : FrK S I I') (hs : ∀ a k, S a k → T a k) : FrK T I I' := fun a k hx => h a k (fun q => hx (hs a k q))
theorem FrK_up {S : Nat → Nat → Prop} {I I' : Nat → Nat → Int32} {a k : Nat} {v : Int32} (h : FrK S I I') (ha : S a k) : FrK S I (up I' a k v) := fun x j hx => (up_n (by
  by_cases q : x = a
  · right
    intro z
    rw [q, z] at hx
    exact hx ha
  · exact Or.inl q)).trans (h x j hx)
theorem FrK_S {S : Nat → Prop} {I I' : Nat → Nat → Int32} (h : FrS S I I') : FrK (fun a _ => S a) I I' := fun a k hx => by rw [h a hx]
def Sm (b e : Nat) : Nat → Nat → Prop := fun a k => 4565 ≤ a ∧ a ≤ 4569 ∧ b ≤ k ∧ k < e
def MN (I : Nat → Nat → Int32) (b n : Nat) (nd : Nat → Nd) : Prop := b + n ≤ 20300 ∧ ∀ i, i < n → I 4565 (b + i) = (nd i).1 ∧ I 4566 (b + i) = (nd i).2.1 ∧ I 4567 (b + i) = (nd i).2.2.1 ∧ I 4568 (b + i) = (Int32.ofNat ((nd i).2.2.2)) ∧ (nd i).2.2.2 ≤ 4
def MT (I : Nat → Nat → Int32) (b n : Nat) (nd : Nat → Nd) (sp : Nat → Nat) : Prop := MN I b n nd ∧ WT n (aro nd) sp ∧ ∀ i, i < n → I 4569 (b + i) = (Int32.ofNat (sp i))
theorem MN_keep {I I' : Nat → Nat → Int32} {b n : Nat} {nd : Nat → Nd} (h : MN I b n nd) (e : ∀ a k, 4565 ≤ a → a ≤ 4568 → b ≤ k → k < b + n → I' a k = I a k) : MN I' b n nd := by
  refine ⟨h.1, fun i hi => ?_⟩
  rw [e 4565 _ (by omega) (by omega) (by omega) (by omega), e 4566 _ (by omega) (by omega) (by omega) (by omega), e 4567 _ (by omega) (by omega) (by omega) (by omega), e 4568 _ (by omega) (by omega) (by omega) (by omega)]
  exact h.2 i hi
theorem MT_keep {I I' : Nat → Nat → Int32} {b n : Nat} {nd : Nat → Nd} {sp : Nat → Nat} (h : MT I b n nd sp) (e : ∀ a k, 4565 ≤ a → a ≤ 4569 → b ≤ k → k < b + n → I' a k = I a k) : MT I' b n nd sp := by
  refine ⟨MN_keep h.1 (fun a k h1 h2 h3 h4 => e a k h1 (by omega) h3 h4), h.2.1, fun i hi => ?_⟩
  rw [e 4569 _ (by omega) (by omega) (by omega) (by omega)]
  exact h.2.2 i hi
theorem pl_ord {n : Nat} {ar sp : Nat → Nat} (h : WT n ar sp) {i j : Nat} (hi : i < n) (hj : j < n) (e : i + sp i < j + sp j ∨ (i + sp i = j + sp j ∧ j < i)) : pl sp i < pl sp j := by
  have g1 := (h.2.2.2 i hi).1
  have g2 := (h.2.2.2 j hj).1
  by_cases q : i < j
  · by_cases z : j < i + sp i
    · have := lam' h hi q z
      omega
    · exact pl_left h hj (by omega) hi
  · by_cases z : i < j + sp j
    · by_cases w : i = j
      · rw [w] at e; omega
      · exact (pl_inner h hj (show j < i by omega) z).1
    · omega
section MTY
variable {I : Nat → Nat → Int32} {J : Nat → Nat → Int64} {R : Nat → Nat → Option Nat} {b n : Nat} {nd : Nat → Nd} {sp : Nat → Nat} {β : Type}
theorem M_node {k w f : Int32} {c : Nat} (hR : RA R) (hb : b < 20300) : f_X12_node (mg 4625 I J R) 4561 (Int32.ofNat (b)) k w f (Int32.ofNat (c)) = some (mg 4625 (up (up (up (up (up I 4565 b k) 4566 b w) 4567 b f) 4568 b (Int32.ofNat (c))) 4569 b 1) J R) := by
  unfold f_X12_node
  simp (disch := omega) only [↓reduceIte, ↓q_let, ↓q_xz1, ↓q_xz0, ↓lg_cmp_ge, ↓lg_cmp_le, ↓lg_cmp_gt, ↓lg_cmp_lt, n_lit, j_lit, n_add, n_mul, n_sub, n_dec, Nat.add_sub_cancel, n_leT, n_leF, n_ltT, n_ltF, n_eqT, n_eqF, n_in, n_cl, n_m31, j_m63, j_of32, j_32, i64_add, i64_mul, jn_sub, j_leT, j_leF, j_ltT, j_ltF, j_eqF, jn_and30, jn_sar30, jn_shor, Int32.neg_neg, and_true, true_and, and_self, ↓gr_4561_4 hR, ↓gr_4561_5 hR, ↓gr_4561_6 hR, ↓gr_4561_7 hR, ↓gr_4561_8 hR, ↓gw_4565, ↓gw_4566, ↓gw_4567, ↓gw_4568, ↓gw_4569]
theorem M_copyNodes {to fr m : Nat} (hR : RA R) (h1 : to + m ≤ 20300) (h2 : fr + m ≤ 20300) (hd : to ≤ fr ∨ fr + m ≤ to) : QK (f_X12_copyNodes (mg 4625 I J R) 4561 (Int32.ofNat (to)) (Int32.ofNat (fr)) (Int32.ofNat (m))) (fun r => ∃ I', r = mg 4625 I' J R ∧ FrK (Sm to (to + m)) I I' ∧ ∀ a k, 4565 ≤ a → a ≤ 4569 → k < m → I' a (to + k) = I a (fr + k)) := by
  unfold f_X12_copyNodes
  rw [q_let]
  refine q_bind (P := fun r => ∃ I', r = .inr (mg 4625 I' J R) ∧ FrK (Sm to (to + m)) I I' ∧ ∀ a k, 4565 ≤ a → a ≤ 4569 → k < m → I' a (to + k) = I a (fr + k)) ?_ ?_
  · refine q_for m (fun j s => ∃ I', s = (4561, (Int32.ofNat (to)), (Int32.ofNat (fr)), (Int32.ofNat (m)), (Int32.ofNat (j)), mg 4625 I' J R) ∧ FrK (Sm to (to + j)) I I' ∧ ∀ a k, 4565 ≤ a → a ≤ 4569 → k < j → I' a (to + k) = I a (fr + k)) ?_ ?_ (i := 0) ⟨I, rfl, FrK_rfl, fun a k _ _ h => absurd h (by omega)⟩ (by omega) (by unfold xF; omega)
    · rintro j s hj ⟨I', rfl, hF, hC⟩
      unfold f_X12_copyNodes_s3 xlet
      dsimp only
      conv => arg 1; simp (disch := omega) only [↓reduceIte, ↓q_let, ↓q_xz1, ↓q_xz0, ↓lg_cmp_ge, ↓lg_cmp_le, ↓lg_cmp_gt, ↓lg_cmp_lt, n_lit, j_lit, n_add, n_mul, n_sub, n_dec, Nat.add_sub_cancel, n_leT, n_leF, n_ltT, n_ltF, n_eqT, n_eqF, n_in, n_cl, n_m31, j_m63, j_of32, j_32, i64_add, i64_mul, jn_sub, j_leT, j_leF, j_ltT, j_ltF, j_eqF, jn_and30, jn_sar30, jn_shor, Int32.neg_neg, and_true, true_and, and_self, ↓gr_4561_4 hR, ↓gr_4561_5 hR, ↓gr_4561_6 hR, ↓gr_4561_7 hR, ↓gr_4561_8 hR, ↓gw_4565, ↓gw_4566, ↓gw_4567, ↓gw_4568, ↓gw_4569, ↓ga_4565, ↓ga_4566, ↓ga_4567, ↓ga_4568, ↓ga_4569]
      have old : ∀ a, I' a (fr + j) = I a (fr + j) := fun a => hF a _ (fun z => by unfold Sm at z; omega)
      refine q_go ⟨_, rfl, ?_, ?_⟩
      · refine FrK_up (FrK_up (FrK_up (FrK_up (FrK_up (FrK_mono hF ?_) ?_) ?_) ?_) ?_) ?_
        · intro a k h; unfold Sm at h ⊢; omega
        all_goals (unfold Sm; omega)
      · intro a k ha ha' hk
        by_cases q : k = j
        · have : a = 4565 ∨ a = 4566 ∨ a = 4567 ∨ a = 4568 ∨ a = 4569 := by omega
          rcases this with rfl | rfl | rfl | rfl | rfl
          · rw [q, up_n (by omega), up_n (by omega), up_n (by omega), up_n (by omega), up_s, old]
          · rw [q, up_n (by omega), up_n (by omega), up_n (by omega), up_s, up_n (by omega), old]
          · rw [q, up_n (by omega), up_n (by omega), up_s, up_n (by omega), up_n (by omega), old]
          · rw [q, up_n (by omega), up_s, up_n (by omega), up_n (by omega), up_n (by omega), old]
          · rw [q, up_s, up_n (by omega), up_n (by omega), up_n (by omega), up_n (by omega), old]
        · rw [up_n (by omega), up_n (by omega), up_n (by omega), up_n (by omega), up_n (by omega)]
          exact hC a k ha ha' (by omega)
    · rintro s ⟨I', rfl, hF, hC⟩
      unfold f_X12_copyNodes_s3 xlet
      dsimp only
      rw [if_pos ((i32_le (by omega) (by omega)).mpr (Nat.le_refl _))]
      exact q_ex ⟨I', rfl, hF, hC⟩
  · rintro r ⟨I', rfl, hF, hC⟩
    simp only [Sum.elim_inr]
    unfold f_X12_copyNodes_j105
    exact q_ok ⟨I', rfl, hF, hC⟩
/-- all spans anew -/
theorem M_span (hR : RA R) (h : MN I b n nd) (hw : WT n (aro nd) sp) : QK (f_X12_span (mg 4625 I J R) 4561 (Int32.ofNat (b)) (Int32.ofNat (n))) (fun r => ∃ I', r = mg 4625 I' J R ∧ FrK (fun a k => a = 4569 ∧ b ≤ k ∧ k < b + n) I I' ∧ MT I' b n nd sp) := by
  have n0 := hw.1
  have hb := h.1
  unfold f_X12_span
  rw [q_let]
  refine q_bind (P := fun r => ∃ I', r = .inr (mg 4625 I' J R) ∧ FrK (fun a k => a = 4569 ∧ b ≤ k ∧ k < b + n) I I' ∧ ∀ j, j < n → I' 4569 (b + j) = (Int32.ofNat (sp j))) ?_ ?_
  · refine q_loop (fun m s => ∃ I', s = (4561, (Int32.ofNat (b)), (Int32.ofNat (m)) - 1, mg 4625 I' J R) ∧ m ≤ n ∧ FrK (fun a k => a = 4569 ∧ b ≤ k ∧ k < b + n) I I' ∧ ∀ j, m ≤ j → j < n → I' 4569 (b + j) = (Int32.ofNat (sp j))) ?_ (m := n) ⟨I, rfl, Nat.le_refl _, FrK_rfl, fun j _ _ => by omega⟩ (by unfold xF; omega)
    rintro m s ⟨I', rfl, hm, hF, hs⟩
    unfold f_X12_span_s4
    dsimp only
    rw [q_let, q_let, q_let, q_let]
    by_cases q : m = 0
    · subst q
      rw [if_pos (show (Int32.ofNat (0)) - 1 < (0 : Int32) by decide)]
      exact q_ex ⟨I', rfl, hF, fun j hj => hs j (Nat.zero_le _) hj⟩
    · rw [show (Int32.ofNat (m)) - 1 = (Int32.ofNat (m - 1)) from n_sub (a := m) (b := 1) (by omega), if_neg (show ¬ (Int32.ofNat (m - 1)) < (0 : Int32) from i32_nlt0 (by omega)), q_let, q_let, n_add, show (Int32.ofNat (b + (m - 1))) + 1 = (Int32.ofNat (b + (m - 1) + 1)) from n_add _ 1]
      have hi : m - 1 < n := by omega
      have e8 : I' 4568 (b + (m - 1)) = (Int32.ofNat (aro nd (m - 1))) := by
        rw [hF _ _ (fun z => by omega)]
        exact (h.2 (m - 1) hi).2.2.2.1
      have le4 : aro nd (m - 1) ≤ 4 := (h.2 (m - 1) hi).2.2.2.2
      refine q_bind (P := fun r => r = .inr (4561, (Int32.ofNat (b)), (Int32.ofNat (m - 1)), (Int32.ofNat (b + (m - 1) + sp (m - 1))))) ?_ ?_
      · refine q_for (aro nd (m - 1)) (fun k s => s = (4561, (Int32.ofNat (b)), (Int32.ofNat (m - 1)), (Int32.ofNat (b + kid sp (m - 1) k)), (Int32.ofNat (k)))) ?_ ?_ (i := 0) rfl (by omega) (by unfold xF; omega)
        · rintro k s hk rfl
          obtain ⟨g1, g2, g3⟩ := kid_in hw hi hk
          have e9 := hs (kid sp (m - 1) k) (by omega) g2
          unfold f_X12_span_s18 xlet
          dsimp only
          conv => arg 1; simp (disch := omega) only [↓reduceIte, ↓q_let, ↓q_xz1, ↓q_xz0, ↓lg_cmp_ge, ↓lg_cmp_le, ↓lg_cmp_gt, ↓lg_cmp_lt, n_lit, j_lit, n_add, n_mul, n_sub, n_dec, Nat.add_sub_cancel, n_leT, n_leF, n_ltT, n_ltF, n_eqT, n_eqF, n_in, n_cl, n_m31, j_m63, j_of32, j_32, i64_add, i64_mul, jn_sub, j_leT, j_leF, j_ltT, j_ltF, j_eqF, jn_and30, jn_sar30, jn_shor, Int32.neg_neg, and_true, true_and, and_self, ↓gr_4561_7 hR, ↓gr_4561_8 hR, ↓ga_4568, ↓ga_4569, e8, e9]
          refine q_go ?_
          rw [Nat.add_assoc b]
          rfl
        · rintro s rfl
          unfold f_X12_span_s18 xlet
          dsimp only
          conv => arg 1; simp (disch := omega) only [↓reduceIte, ↓q_let, ↓q_xz1, ↓q_xz0, ↓lg_cmp_ge, ↓lg_cmp_le, ↓lg_cmp_gt, ↓lg_cmp_lt, n_lit, j_lit, n_add, n_mul, n_sub, n_dec, Nat.add_sub_cancel, n_leT, n_leF, n_ltT, n_ltF, n_eqT, n_eqF, n_in, n_cl, n_m31, j_m63, j_of32, j_32, i64_add, i64_mul, jn_sub, j_leT, j_leF, j_ltT, j_ltF, j_eqF, jn_and30, jn_sar30, jn_shor, Int32.neg_neg, and_true, true_and, and_self, ↓gr_4561_7 hR, ↓gr_4561_8 hR, ↓ga_4568, ↓ga_4569, e8]
          refine q_ex ?_
          rw [(hw.2.2.2 _ hi).2.2.1, Nat.add_assoc b]
      · rintro r rfl
        have hsp := hw.2.2.2 _ hi
        simp only [Sum.elim_inr]
        unfold f_X12_span_j49
        rw [show (Int32.ofNat (m - 1)) + -1 = (Int32.ofNat (m - 1)) - 1 from n_decm (m - 1), n_add, n_sub (show b ≤ b + (m - 1) + sp (m - 1) by omega), n_sub (show m - 1 ≤ b + (m - 1) + sp (m - 1) - b by omega), show b + (m - 1) + sp (m - 1) - b - (m - 1) = sp (m - 1) by omega, gr_4561_8 hR, gw_4569 (by omega), q_let]
        refine q_go ⟨m - 1, by omega, _, rfl, by omega, FrK_up hF (by omega), fun j h1 h2 => ?_⟩
        by_cases z : j = m - 1
        · rw [z, up_s]
        · rw [up_n (by omega)]
          exact hs j (by omega) h2
  · rintro r ⟨I', rfl, hF, hs⟩
    simp only [Sum.elim_inr]
    unfold f_X12_span_j69
    exact q_ok ⟨I', rfl, hF, MN_keep h (fun a k h1 h2 h3 h4 => hF a k (fun z => by omega)), hw, hs⟩
end MTY
