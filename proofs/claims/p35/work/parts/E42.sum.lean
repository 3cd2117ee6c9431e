/-! the sum of the digits of the answer -/
def smL (T : GT) : Nat → Int32 → Int32
  | 0, x => x
  | k + 1, x => (31 : Int32) * smL T k x + T.2 k
def anT (v : GV) (pt : Nat) : GT := ansT (if (if pt = 0 then v.1 else (v.2 : Int)) < 0 then 1 else 0) (ansL pt v)
def sumP (v : GV) : Nat → Int32
  | 0 => 7
  | j + 1 => smL (anT v j) (anT v j).1 (sumP v j)
section LSU
variable {C : Nat → Nat → Int32} {Z : Nat} {t : GT} {s : GS} {b : GB} {n : GN} {f : GF} {v : GV} {p : GT} {r : GR} {h : GH} {σ : xM}
theorem ls_sum (H : LSt C Z t s b n f v p r h σ) : QK (f_L_sum σ 0) (fun y => ∃ σ' p', y = (sumP v 2, σ') ∧ LSt C Z t s b n f v p' r h σ') := by
  unfold f_L_sum
  rw [q_let, q_let]
  refine q_bind (P := fun o => ∃ σ' p', o = .inr (sumP v 2, σ') ∧ LSt C Z t s b n f v p' r h σ') ?_ ?_
  rotate_left
  · rintro _ ⟨σ', p', rfl, hh⟩
    rw [Sum.elim_inr]
    exact q_ok ⟨σ', p', rfl, hh⟩
  refine q_for 2 (fun j x => ∃ σ' p', x = (0, sumP v j, (Int32.ofNat (j)), σ') ∧ LSt C Z t s b n f v p' r h σ') ?_ ?_ (i := 0) ⟨σ, p, rfl, H⟩ (Nat.zero_le _) (by unfold xF; omega)
  · rintro j _ hj ⟨σ1, p1, rfl, h1⟩
    obtain ⟨σ2, a, e2, h2, ea, hl⟩ := ls_answer h1 hj
    subst ea
    unfold f_L_sum_s5
    rw [q_let, q_let, q_let, q_let]
    dsimp only
    rw [if_neg (show ¬ (2 : Int32) ≤ (Int32.ofNat (j)) from fun y => absurd ((i32_le (k := 2) (by omega) (by omega)).mp y) (by omega)), if_pos (ls_ok h1), e2, Option.bind_some, q_let]
    dsimp only
    rw [Sum.elim_inl, q_let]
    refine q_bind (P := fun o => o = .inr (0, sumP v (j + 1), (Int32.ofNat (j)))) ?_ ?_
    · refine q_for (ansL j v).length (fun k x => x = (0, smL (anT v j) k (sumP v j), (Int32.ofNat (j)), (Int32.ofNat ((ansL j v).length)), (Int32.ofNat (k)))) ?_ ?_ (i := 0) rfl (Nat.zero_le _) (by unfold xF; omega)
      · rintro k _ hk rfl
        unfold f_L_sum_s21
        rw [q_let, q_let, q_let, q_let, q_let]
        dsimp only
        rw [if_neg (show ¬ (Int32.ofNat ((ansL j v).length)) ≤ (Int32.ofNat (k)) from fun y => absurd ((i32_le (by omega) (by omega)).mp y) (by omega)), if_pos (ls_ok h2), ls_out h2 hk, Option.bind_some, Sum.elim_inl, q_let, q_let, show (Int32.ofNat (k)) + (1 : Int32) = (Int32.ofNat (k + 1)) from n_add k 1]
        exact q_go rfl
      · rintro _ rfl
        unfold f_L_sum_s21
        rw [q_let, q_let, q_let, q_let, q_let]
        dsimp only
        rw [if_pos ((i32_le (by omega) (by omega)).mpr (Nat.le_refl _))]
        exact q_ex rfl
    · rintro _ rfl
      rw [Sum.elim_inr]
      unfold f_L_sum_j45
      dsimp only
      rw [q_let, show (Int32.ofNat (j)) + (1 : Int32) = (Int32.ofNat (j + 1)) from n_add j 1]
      exact q_go ⟨σ2, _, rfl, h2⟩
  · rintro _ ⟨σ1, p1, rfl, h1⟩
    unfold f_L_sum_s5
    rw [q_let, q_let, q_let, q_let]
    dsimp only
    rw [if_pos (by decide)]
    exact q_ex ⟨σ1, p1, rfl, h1⟩
/-- one place of a node -/
theorem ls_node {k i : Nat} (H : LSt C Z t s b n f v p r h σ) (hk : k < s.1) (hi : i < s.2.1 k) : f_X11_node σ 0 (Int32.ofNat (k)) (Int32.ofNat (i)) 0 = some (.inl (s.2.2.1 k i).1) ∧ f_X11_node σ 0 (Int32.ofNat (k)) (Int32.ofNat (i)) 1 = some (.inl (s.2.2.1 k i).2.1) ∧ f_X11_node σ 0 (Int32.ofNat (k)) (Int32.ofNat (i)) 3 = some (.inl (Int32.ofNat ((s.2.2.1 k i).2.2.2))) ∧ f_X11_node σ 0 (Int32.ofNat (k)) (Int32.ofNat (i)) 5 = some (.inl (Int32.ofNat (s.2.2.2 k i))) ∧ ∃ x, f_X11_node σ 0 (Int32.ofNat (k)) (Int32.ofNat (i)) 4 = some (.inl x) ∧ (x = -1 ∨ ∃ j, j < i ∧ x = (Int32.ofNat (j))) := by
  obtain ⟨I, J, R, q, rfl, hZ, hR, hC, hO, hI, hv⟩ := H
  have key := fun w (hw : w < 6) => k_node (J := J) hR hC hk hi hw
  refine ⟨?_, ?_, ?_, ?_, ?_⟩
  · exact (key 0 (by decide)).trans (by rw [if_pos (by decide)])
  · exact (key 1 (by decide)).trans (by rw [if_neg (by decide), if_pos (by decide)])
  · exact (key 3 (by decide)).trans (by rw [if_neg (by decide), if_neg (by decide), if_neg (by decide), if_pos (by decide)])
  · exact (key 5 (by decide)).trans (by rw [if_neg (by decide), if_neg (by decide), if_neg (by decide), if_neg (by decide), if_neg (by decide), if_pos (by decide)])
  · have c1 := hC.2.1.2.2 k hk
    have e := (key 4 (by decide)).trans (by rw [if_neg (by decide), if_neg (by decide), if_neg (by decide), if_neg (by decide), if_pos (by decide)])
    obtain ⟨x, e1, hx⟩ := T_parentOf (J := J) hR c1 hi
    rw [e1, Option.bind_some] at e
    refine ⟨x, e, ?_⟩
    rcases hx with ⟨j, y1, y2, -⟩ | ⟨y, -⟩
    · exact Or.inr ⟨j, y2, y1⟩
    · exact Or.inl y
end LSU
