/-! the law: where it is no text, each beginning says so -/
section LFA
variable {C : Nat → Nat → Int32} {Z : Nat} {t : GT} {s : GS} {b : GB} {n : GN} {f : GF} {v : GV} {p : GT} {r : GR} {h : GH} {σ : xM}
theorem FLt_n {b : GB} {c : Nat → Nat} {m : Nat} (hne : FLt b c m ≠ -1) : ∃ φ, φ ≤ m ∧ FLt b c m = (Int32.ofNat (φ)) := by
  rcases flt_pre (b := b) (c := c) (Nat.le_refl m) with ⟨φ, h1, h2, -⟩ | ⟨y | y, -⟩
  · exact ⟨φ, h1, h2⟩
  · exact absurd y hne
  · exact ⟨m, Nat.le_refl _, y⟩
theorem ls_faultC {c : Nat → Nat} {m : Nat} (H : LSt C Z t s b n f v p r h σ) (ht : t.1 = m) (hc : ∀ k, k < m → c k < 65536 ∧ t.2 k = (Int32.ofNat (c k))) : ∃ σ', f_X11_fault σ 0 = some (FLt b c m, σ') ∧ LSt C Z t s b n f v p r h σ' := by
  subst ht
  exact ls_fault H hc
theorem ls_faulty {c : Nat → Nat} {m : Nat} (H : LSt C Z t s b n f v p r h σ) (ht : t.1 = m) (hm : m ≤ 60) (hc : ∀ k, k < m → C 4561 k = (Int32.ofNat (c k)) ∧ c k < 65536) (hne : FLt b c m ≠ -1) : QK (f_L_faulty σ 0 4561 (Int32.ofNat (m)) (FLt b c m)) (fun y => ∃ σ' t', y = (1, σ') ∧ t'.1 = 0 ∧ LSt C Z t' s b n f v p r h σ') := by
  obtain ⟨φ, hφ, eφ⟩ := FLt_n hne
  obtain ⟨σ1, e1, H1⟩ := ls_drop H
  rw [ht] at e1
  unfold f_L_faulty
  rw [eφ, if_neg (i32_nlt0 (by omega)), if_neg (show ¬ (Int32.ofNat (m)) < (Int32.ofNat (φ)) from fun y => absurd ((i32_lt (by omega) (by omega)).mp y) (by omega)), if_pos (ls_ok H), e1, Option.bind_some, if_pos rfl]
  unfold f_L_faulty_j22
  rw [q_let]
  refine q_bind (P := fun o => ∃ σ' t', o = .inr (1, σ') ∧ t'.1 = 0 ∧ LSt C Z t' s b n f v p r h σ') ?_ ?_
  rotate_left
  · rintro _ ⟨σ', t', rfl, h1, h2⟩
    rw [Sum.elim_inr]
    unfold f_L_faulty_j102
    rw [q_xz1]
    exact q_ok ⟨σ', t', rfl, h1, h2⟩
  refine q_for (m + 1) (fun j x => ∃ σ' t', x = (0, 4561, (Int32.ofNat (m)), (Int32.ofNat (φ)), 1, (Int32.ofNat (j)), σ') ∧ t'.1 = 0 ∧ LSt C Z t' s b n f v p r h σ') ?_ ?_ (i := 0) ⟨σ1, _, rfl, rfl, H1⟩ (Nat.zero_le _) (by unfold xF; omega)
  · rintro j _ hj ⟨σ2, t2, rfl, z2, H2⟩
    unfold f_L_faulty_s27
    rw [q_let, q_let, q_let, q_let, q_let, q_let, q_let]
    dsimp only
    rw [if_neg (show ¬ (Int32.ofNat (m)) < (Int32.ofNat (j)) from fun y => absurd ((i32_lt (by omega) (by omega)).mp y) (by omega)), if_neg (show ¬ (1 : Int32) = 0 by decide)]
    refine q_bind (ls_types (A := 4561) (c := c) H2 z2 (Nat.le_refl _) (by omega) (by omega) (fun x hx => hc x (by omega))) ?_
    rintro σ3 ⟨t3, a1, a2, H3⟩
    obtain ⟨σ4, e4, H4⟩ := ls_faultC H3 a1 a2
    obtain ⟨σ5, e5, H5⟩ := ls_drop H4
    rw [a1] at e5
    have good : QK (f_L_faulty_j80 σ4 0 4561 (Int32.ofNat (m)) (Int32.ofNat (φ)) (Int32.ofNat (j))) (qS (fun x => ∃ σ' t', x = (0, 4561, (Int32.ofNat (m)), (Int32.ofNat (φ)), 1, (Int32.ofNat (j + 1)), σ') ∧ t'.1 = 0 ∧ LSt C Z t' s b n f v p r h σ') (fun o => ∃ σ' t', o = .inr (1, σ') ∧ t'.1 = 0 ∧ LSt C Z t' s b n f v p r h σ')) := by
      unfold f_L_faulty_j80
      rw [if_pos (ls_ok H4), e5, Option.bind_some, if_pos rfl]
      unfold f_L_faulty_j94
      rw [q_let, show (Int32.ofNat (j)) + (1 : Int32) = (Int32.ofNat (j + 1)) from n_add j 1]
      exact q_go ⟨σ5, _, rfl, rfl, H5⟩
    rw [if_pos (ls_ok H3), e4, Option.bind_some]
    dsimp only
    have inj : ∀ φ', φ' ≤ 60 → FLt b c m = (Int32.ofNat (φ')) → φ' = φ := fun φ' y1 y2 => by
      rw [eφ] at y2
      exact ((i32_eq (by omega) (by omega)).mp y2).symm
    have fp := flt_pre (b := b) (c := c) (show j ≤ m by omega)
    by_cases q : φ < j
    · rw [if_pos ((i32_lt (by omega) (by omega)).mpr q)]
      have ek : FLt b c j = (Int32.ofNat (φ)) := by
        rcases fp with ⟨φ', y1, y2, y3⟩ | ⟨-, y | ⟨φ', y1, y2, y3⟩⟩
        · rw [y2, inj φ' (by omega) y3]
        · exact absurd y hne
        · have := inj φ' (by omega) y3
          omega
      rw [if_pos ek]
      exact good
    · rw [if_neg (fun y => q ((i32_lt (by omega) (by omega)).mp y))]
      have ek : FLt b c j = (Int32.ofNat (j)) ∨ FLt b c j = -1 := by
        rcases fp with ⟨φ', y1, y2, y3⟩ | ⟨y, -⟩
        · have := inj φ' (by omega) y3
          rw [show φ' = j by omega] at y2
          exact Or.inl y2
        · exact y.symm
      by_cases y : FLt b c j = (Int32.ofNat (j))
      · rw [if_pos y]
        exact good
      · rw [if_neg y, if_pos (ek.resolve_left y)]
        exact good
  · rintro _ ⟨σ2, t2, rfl, z2, H2⟩
    unfold f_L_faulty_s27
    rw [q_let, q_let, q_let, q_let, q_let, q_let, q_let]
    dsimp only
    rw [if_pos ((i32_lt (by omega) (by omega)).mpr (by omega))]
    exact q_ex ⟨σ2, t2, rfl, z2, H2⟩
end LFA
