/-! the law: reckoned in postfix -/
theorem dpr_ge (v : Nat) : ∀ f s l, l.length ≤ (dpr v f s l).length := by
  intro f
  induction f with
  | zero => intro s l; exact Nat.le_refl _
  | succ f ih =>
    intro s l
    rw [dpr_c]
    split
    · exact Nat.le_refl _
    · have := ih (s / 10) ((48 + v / s % 10) :: l)
      rw [List.length_cons] at this
      omega
theorem tpv_pos (v : Nat) : ∀ f s, 0 < s → 0 < tpv v f s := by
  intro f
  induction f with
  | zero => intro s h; exact h
  | succ f ih =>
    intro s h
    rw [tpv_c]
    split
    · exact ih _ (by omega)
    · exact h
theorem numT_ge (v : Nat) (l : List Nat) : l.length + 1 ≤ (numT v l).length := by
  unfold numT
  rw [dpr_c, if_neg (by have := tpv_pos v 9 1 (by decide); omega)]
  exact dpr_ge v 9 _ (_ :: l)
theorem psN_ge (x : Nd) (l : List Nat) : l.length + 1 ≤ (psN x l).length := by
  have h : l.length + 1 ≤ (if x.1 = 0 then numT (vN x) l else vN x :: l).length := by
    split
    · exact numT_ge _ _
    · rw [List.length_cons]; omega
  unfold psN
  split
  · rw [List.length_cons]; omega
  · split
    · rw [List.length_cons]; omega
    · exact h
theorem psT_ge (f : Nat → Nd) : ∀ p, 2 * p - 1 ≤ (psT f p).length := by
  intro p
  induction p with
  | zero => exact Nat.zero_le _
  | succ p ih =>
    rw [psT_c]
    have := psN_ge (f p) (if p = 0 then psT f p else 32 :: psT f p)
    by_cases z : p = 0
    · rw [if_pos z] at this ⊢
      omega
    · rw [if_neg z] at this ⊢
      rw [List.length_cons] at this
      omega
section LRK
variable {C : Nat → Nat → Int32} {Z : Nat} {t : GT} {s : GS} {b : GB} {n : GN} {f : GF} {v : GV} {p : GT} {r : GR} {h : GH} {σ : xM} {k : Nat}
theorem evV_2 (X : Rs) (v : GV) : evV X (evV X v) = evV X v := by
  cases X with
  | inl e => rfl
  | inr w => rfl
theorem ls_n (H : LSt C Z t s b n f v p r h σ) (hk : k < s.1) : 0 < s.2.1 k ∧ s.2.1 k ≤ 80 ∧ s.2.2.2 k 0 = s.2.1 k := by
  obtain ⟨-, -, -, -, -, -, hT, -⟩ := ls_top H
  obtain ⟨⟨w, -⟩, h80⟩ := hT k hk
  exact ⟨w.1, h80, w.2.2.1⟩
theorem ls_reckoned (H : LSt C Z t s b n f v p r h σ) (hk : k < s.1) : QK (f_L_reckoned σ 0 (Int32.ofNat (k))) (fun y => ∃ σ' v' p', y = (1, σ') ∧ LSt C Z t s b n f v' p' r h σ') := by
  obtain ⟨n0, n80, sp0⟩ := ls_n H hk
  unfold f_L_reckoned
  have e5 := (ls_node H hk n0).2.2.2.1
  rw [sp0] at e5
  have e5 : f_X11_node σ 0 (Int32.ofNat (k)) 0 5 = some (.inl (Int32.ofNat (s.2.1 k))) := e5
  rw [if_pos (ls_ok H), e5, Option.bind_some, Sum.elim_inl, q_let]
  refine q_bind (P := fun o => o = .inr (.inl ()) ∨ (o = .inr (.inr (0, (Int32.ofNat (k)), (Int32.ofNat (s.2.1 k)))) ∧ ∀ i, i < s.2.1 k → ¬ lazyNd (s.2.2.1 k i))) ?_ ?_
  · refine q_for (s.2.1 k) (fun j x => x = (0, (Int32.ofNat (k)), (Int32.ofNat (s.2.1 k)), (Int32.ofNat (j))) ∧ ∀ i, i < j → ¬ lazyNd (s.2.2.1 k i)) ?_ ?_ (i := 0) ⟨rfl, fun i hi => absurd hi (Nat.not_lt_zero i)⟩ (Nat.zero_le _) (by unfold xF; omega)
    · rintro j _ hj ⟨rfl, hz⟩
      obtain ⟨d0, d1, -⟩ := ls_node H hk hj
      have next : ¬ lazyNd (s.2.2.1 k j) → QK (f_L_reckoned_j51 σ 0 (Int32.ofNat (k)) (Int32.ofNat (s.2.1 k)) (Int32.ofNat (j))) (qS (fun x => x = (0, (Int32.ofNat (k)), (Int32.ofNat (s.2.1 k)), (Int32.ofNat (j + 1))) ∧ ∀ i, i < j + 1 → ¬ lazyNd (s.2.2.1 k i)) (fun o => o = .inr (.inl ()) ∨ (o = .inr (.inr (0, (Int32.ofNat (k)), (Int32.ofNat (s.2.1 k)))) ∧ ∀ i, i < s.2.1 k → ¬ lazyNd (s.2.2.1 k i)))) := fun nl => by
        unfold f_L_reckoned_j51
        rw [q_let, show (Int32.ofNat (j)) + (1 : Int32) = (Int32.ofNat (j + 1)) from n_add j 1]
        refine q_go ⟨rfl, fun i hi => ?_⟩
        by_cases y : i = j
        · rw [y]; exact nl
        · exact hz i (by omega)
      unfold f_L_reckoned_s10
      rw [q_let, q_let, q_let, q_let]
      dsimp only
      rw [if_neg (show ¬ (Int32.ofNat (s.2.1 k)) ≤ (Int32.ofNat (j)) from fun y => absurd ((i32_le (by omega) (by omega)).mp y) (by omega)), if_pos (ls_ok H), d1, Option.bind_some, Sum.elim_inl, if_pos (ls_ok H), d0, Option.bind_some, Sum.elim_inl]
      by_cases y2 : (s.2.2.1 k j).1 = 2
      · rw [if_pos y2]
        by_cases y3 : (s.2.2.1 k j).2.1 = 105
        · rw [if_pos y3]
          exact q_ex (Or.inl rfl)
        · rw [if_neg y3]
          by_cases y4 : (s.2.2.1 k j).2.1 = 115
          · rw [if_pos y4]
            exact q_ex (Or.inl rfl)
          · rw [if_neg y4]
            exact next (fun y => y.2.elim y3 y4)
      · rw [if_neg y2]
        exact next (fun y => y2 y.1)
    · rintro _ ⟨rfl, hz⟩
      unfold f_L_reckoned_s10
      rw [q_let, q_let, q_let, q_let]
      dsimp only
      rw [if_pos ((i32_le (by omega) (by omega)).mpr (Nat.le_refl _))]
      exact q_ex (Or.inr ⟨rfl, hz⟩)
  · rintro _ (rfl | ⟨rfl, hz⟩)
    · rw [Sum.elim_inr, Sum.elim_inl]
      exact q_ok ⟨σ, v, p, rfl, H⟩
    · rw [Sum.elim_inr, Sum.elim_inr]
      unfold f_L_reckoned_j57
      dsimp only
      obtain ⟨σ1, e1, H1⟩ := ls_evaluate H hk
      rw [if_pos (ls_ok H), e1, Option.bind_some, q_let]
      dsimp only
      rw [Sum.elim_inl]
      refine q_bind (ls_sum H1) ?_
      rintro _ ⟨σ2, p2, rfl, H2⟩
      obtain ⟨σ3, e3, H3⟩ := ls_reckon H2 hk hz
      dsimp only
      rw [if_pos (ls_ok H2), e3, Option.bind_some, q_let]
      dsimp only
      rw [Sum.elim_inl, if_pos rfl]
      rw [evV_2] at H3
      refine q_bind (ls_sum H3) ?_
      rintro _ ⟨σ4, p4, rfl, H4⟩
      obtain ⟨σ5, ln, hln, e5, H5⟩ := ls_postfix H4 hk hz
      dsimp only
      rw [if_pos rfl, if_pos (ls_ok H4), e5, Option.bind_some, q_let]
      dsimp only
      have hl : 2 * s.2.1 k - 1 ≤ (psT ln (s.2.1 k)).length ∧ (psT ln (s.2.1 k)).length < 2147483648 := by
        have h1 := psT_ge ln (s.2.1 k)
        have h2 := psT_len ln (s.2.1 k)
        omega
      have em : (2 : Int32) * (Int32.ofNat (s.2.1 k)) - 1 = (Int32.ofNat (2 * s.2.1 k - 1)) := by
        rw [show (2 : Int32) * (Int32.ofNat (s.2.1 k)) = (Int32.ofNat (2 * s.2.1 k)) from n_mul 2 _]
        exact n_sub (b := 1) (by omega)
      rw [Sum.elim_inl, em, if_neg (fun y => absurd ((i32_lt (by omega) (by omega)).mp y) (by omega))]
      exact q_ok ⟨σ5, _, _, rfl, H5⟩
end LRK
