/-! calls: node, part, graft -/
section OC
variable {I : Nat → Nat → Int32} {J : Nat → Nat → Int64} {R : Nat → Nat → Option Nat} {t : GT} {s : GS} {b : GB} {n : GN} {f : GF} {v : GV} {q : Nat → GV} {p : GT} {r : GR} {h : GH} {β : Type}
theorem l_node {w x y z : Int32} (h : f_X11_node (mg 4625 I J R) 0 x y z = some (.inl w)) : f_L_node (mg 4625 I J R) 0 x y z 4624 = some (0, mg 4625 I (oJ J w.toInt64) R) := by
  unfold f_L_node
  rw [if_pos ok_0, h, Option.bind_some, Sum.elim_inl, owJ0]
  rfl
theorem parent_eq {m : Nat} {ar sp : Nat → Nat} (h : WT m ar sp) {j : Nat} (hj : j < m) {w w' : Int32} (hw : (∃ p, w = (Int32.ofNat (p)) ∧ p < j ∧ j < p + sp p ∧ ∀ i, p < i → i < j → i + sp i ≤ j) ∨ (w = -1 ∧ ∀ i, i < j → i + sp i ≤ j)) (hw' : (j = 0 ∧ w' = -1) ∨ ∃ i k, i < j ∧ k < ar i ∧ j = kid sp i k ∧ w' = (Int32.ofNat (i))) : w' = w := by
  rcases hw' with ⟨rfl, rfl⟩ | ⟨i, k, h1, h2, h3, rfl⟩
  · rcases hw with ⟨p, -, a, -⟩ | ⟨rfl, -⟩
    · omega
    · rfl
  · have g := kid_in h (show i < m by omega) h2
    have sj := (h.2.2.2 j hj).1
    rw [← h3] at g
    rcases hw with ⟨p, rfl, a, b, c⟩ | ⟨rfl, c⟩
    · have : p = i := by
        by_cases z1 : i < p
        · obtain ⟨k', k1, k2, k3⟩ := kid_find (sp := sp) (i := i) k p z1 (by omega)
          have e : kid sp i (k' + 1) = kid sp i k' + sp (kid sp i k') := rfl
          have m1 := (kid_mono h (show i < m by omega) (show k' + 1 ≤ k by omega) (by omega)).1
          have l : p + sp p ≤ kid sp i k' + sp (kid sp i k') := by
            by_cases y : p = kid sp i k'
            · rw [y]; exact Nat.le_refl _
            · exact lam' h (kid_in h (show i < m by omega) (show k' < ar i by omega)).2.1 (by omega) (by omega)
          omega
        · by_cases z2 : p < i
          · have := c i z2 h1
            omega
          · omega
      rw [this]
    · have := c i h1
      omega
theorem o_node (hR : RA R) (H : Inv I) : op_node Pinv (mg 4625 I J R) := by
  obtain ⟨t, s, b, n, f, v, q, p, r, h, hC, hM, hO⟩ := H
  intro x y z
  have h30 := hC.2.1.1
  have bad1 : f_X11_node (mg 4625 I J R) 0 x y z = some (.inr "java/lang/IndexOutOfBoundsException") → f_X12_node_ (mg 4625 I J R) 4561 x y z = some (0, mg 4625 (thI I 1) J R) → opW Pinv (f_L_node (mg 4625 I J R) 0 x y z 4624) (fun σ => f_X12_node_ σ 4561 x y z) := by
    intro e1 e2
    have e3 : f_L_node (mg 4625 I J R) 0 x y z 4624 = some (1, mg 4625 I J R) := by
      unfold f_L_node
      rw [if_pos ok_0, e1, Option.bind_some, Sum.elim_inr, if_pos rfl]
    exact op_ex e3 e2 thI_0 (by decide) (Pinv_th hR hC hM hO (fun x _ => rfl))
  have bad2 : f_X11_node (mg 4625 I J R) 0 x y z = some (.inr "java/lang/IllegalArgumentException") → f_X12_node_ (mg 4625 I J R) 4561 x y z = some (0, mg 4625 (thI I 2) J R) → opW Pinv (f_L_node (mg 4625 I J R) 0 x y z 4624) (fun σ => f_X12_node_ σ 4561 x y z) := by
    intro e1 e2
    have e3 : f_L_node (mg 4625 I J R) 0 x y z 4624 = some (2, mg 4625 I J R) := by
      unfold f_L_node
      rw [if_pos ok_0, e1, Option.bind_some, Sum.elim_inr, if_neg (by decide), if_pos rfl]
    exact op_ex e3 e2 thI_0 (by decide) (Pinv_th hR hC hM hO (fun x _ => rfl))
  have j15 : ∀ x y z, f_X12_node__j15 (mg 4625 I J R) 4561 x y z 1 4561 = some (0, mg 4625 (thI I 1) J R) := by
    intro x y z
    unfold f_X12_node__j15 f_X12_node__j29
    rcases m_inE (σ := mg 4625 I J R) (x := z) (lo := 0) (hi := 5) with hq | hq
    · rw [hq, Option.bind_some, if_pos rfl, if_pos ok_4561, m_refX]
    · rw [hq, Option.bind_some, if_neg (by decide), if_pos ok_4561, m_refX]
  rcases i32_two s.1 (by omega) x with ⟨k, hk, rfl⟩ | hx
  · have c1 := hC.2.1.2.2 k hk
    have n1 := CT_n c1
    rcases i32_two (s.2.1 k) (by omega) y with ⟨i, hi, rfl⟩ | hy
    · rcases i32_two 6 (by omega) z with ⟨w, hw, rfl⟩ | hz
      · have ci := c1.1.2.2.2 i hi
        have m1 : MT (thI I 0) (80 * k) (s.2.1 k) (s.2.2.1 k) (s.2.2.2 k) := MT_keep (hM.2.1.2 k hk).2 (fun a x _ _ _ _ => thI_n (by omega))
        have mi := m1.1.2 i hi
        have ms := m1.2.2 i hi
        have start : f_X11_node (mg 4625 I J R) 0 (Int32.ofNat (k)) (Int32.ofNat (i)) (Int32.ofNat (w)) = (if (Int32.ofNat (w)) = (0 : Int32) then some (.inl (s.2.2.1 k i).1) else if (Int32.ofNat (w)) = (1 : Int32) then some (.inl (s.2.2.1 k i).2.1) else if (Int32.ofNat (w)) = (2 : Int32) then some (.inl (s.2.2.1 k i).2.2.1) else if (Int32.ofNat (w)) = (3 : Int32) then some (.inl (Int32.ofNat ((s.2.2.1 k i).2.2.2))) else if (Int32.ofNat (w)) = (4 : Int32) then (f_X9_parentOf (mg 4625 I J R) (70 + 8 * k) (Int32.ofNat (i))).bind (fun p13 => some (.inl p13)) else if (Int32.ofNat (w)) = (5 : Int32) then some (.inl (Int32.ofNat (s.2.2.2 k i))) else some (.inr "java/lang/IllegalArgumentException")) := by
          unfold f_X11_node
          rw [if_pos ok_0, C_treeAt1 hR hC.2.1 hk, Sum.elim_inl, if_pos ok_0, C_needNode1 c1.1 hi, Sum.elim_inl, bT_g0 c1.1.1 hR, bT_aI c1.1.1 (by omega), bT_g1 c1.1.1 hR, bT_aI c1.1.1 (by omega), bT_g2 c1.1.1 hR, bT_aI c1.1.1 (by omega), bT_g3 c1.1.1 hR, bT_aI c1.1.1 (by omega), bT_g4 c1.1.1 hR, bT_aI c1.1.1 (by omega), if_pos (bT_xk c1.1.1), ci.1, ci.2.1, ci.2.2.1, ci.2.2.2.1, (c1.2.2 i hi).1]
        have ref : ∀ J, f_X12_node_ (mg 4625 I J R) 4561 (Int32.ofNat (k)) (Int32.ofNat (i)) (Int32.ofNat (w)) = (if (Int32.ofNat (w)) = (0 : Int32) then some ((s.2.2.1 k i).1, mg 4625 (thI I 0) J R) else if (Int32.ofNat (w)) = (1 : Int32) then some ((s.2.2.1 k i).2.1, mg 4625 (thI I 0) J R) else if (Int32.ofNat (w)) = (2 : Int32) then some ((s.2.2.1 k i).2.2.1, mg 4625 (thI I 0) J R) else if (Int32.ofNat (w)) = (3 : Int32) then some ((Int32.ofNat ((s.2.2.1 k i).2.2.2)), mg 4625 (thI I 0) J R) else if (Int32.ofNat (w)) = (4 : Int32) then (f_X12_parentOf (mg 4625 (thI I 0) J R) 4561 (Int32.ofNat (80 * k)) (Int32.ofNat (80 * k + i))).bind (fun p17 => some (p17, mg 4625 (thI I 0) J R)) else some ((Int32.ofNat (s.2.2.2 k i)), mg 4625 (thI I 0) J R)) := by
          intro J
          unfold f_X12_node_ f_X12_node__j15 f_X12_node__j29
          rw [if_pos ok_4561, M_isNode1 hR hM.2.1 h30 hk hi n1.2, if_neg (by decide), m_in1 (lo := 0) (hi := 5) (i32_0le (by omega)) ((i32_le (m := 5) (by omega) (by omega)).mpr (by omega)), Option.bind_some, if_neg (by decide), if_pos ok_4561, m_refO, M_shelf, q_let, n_add, gr_4561_4 hR, ga_4565 (by omega), gr_4561_5 hR, ga_4566 (by omega), gr_4561_6 hR, ga_4567 (by omega), gr_4561_7 hR, ga_4568 (by omega), gr_4561_8 hR, ga_4569 (by omega), M_shelf, if_pos ok_4561, mi.1, mi.2.1, mi.2.2.1, mi.2.2.2.1, ms]
        have key : ∃ u, f_X11_node (mg 4625 I J R) 0 (Int32.ofNat (k)) (Int32.ofNat (i)) (Int32.ofNat (w)) = some (.inl u) ∧ ∀ J, f_X12_node_ (mg 4625 I J R) 4561 (Int32.ofNat (k)) (Int32.ofNat (i)) (Int32.ofNat (w)) = some (u, mg 4625 (thI I 0) J R) := by
          rcases (by omega : w = 0 ∨ w = 1 ∨ w = 2 ∨ w = 3 ∨ w = 4 ∨ w = 5) with rfl | rfl | rfl | rfl | rfl | rfl
          · exact ⟨_, start.trans (if_pos rfl), fun J => (ref J).trans (if_pos rfl)⟩
          · exact ⟨_, start.trans rfl, fun J => (ref J).trans rfl⟩
          · exact ⟨_, start.trans rfl, fun J => (ref J).trans rfl⟩
          · exact ⟨_, start.trans rfl, fun J => (ref J).trans rfl⟩
          · obtain ⟨u, eu, hu⟩ := T_parentOf (J := J) hR c1 hi
            refine ⟨u, start.trans ?_, fun J => (ref J).trans ?_⟩
            · rw [eu]
              rfl
            · obtain ⟨u', eu', hu'⟩ := M_parentOf (J := J) hR m1 hi
              rw [eu', parent_eq c1.2.1 hi hu hu']
              rfl
          · exact ⟨_, start.trans rfl, fun J => (ref J).trans rfl⟩
        obtain ⟨u, e1, e2⟩ := key
        exact op_ok (l_node e1) (e2 _) thI_0 (Pinv_th hR hC hM hO (fun x _ => rfl))
      · have zz : ∀ c : Nat, c < 6 → ¬ z = (Int32.ofNat (c)) := fun c hc e => by
          rw [e] at hz
          rcases hz with hz | hz
          · exact absurd hz (i32_nlt0 (by omega))
          · exact absurd ((i32_le (by omega) (by omega)).mp hz) (by omega)
        refine bad2 ?_ ?_
        · unfold f_X11_node
          rw [if_pos ok_0, C_treeAt1 hR hC.2.1 hk, Sum.elim_inl, if_pos ok_0, C_needNode1 c1.1 hi, Sum.elim_inl, if_neg (show ¬ z = 0 from zz 0 (by omega)), if_neg (show ¬ z = 1 from zz 1 (by omega)), if_neg (show ¬ z = 2 from zz 2 (by omega)), if_neg (show ¬ z = 3 from zz 3 (by omega)), if_neg (show ¬ z = 4 from zz 4 (by omega)), if_neg (show ¬ z = 5 from zz 5 (by omega))]
        · unfold f_X12_node_ f_X12_node__j15 f_X12_node__j29
          rw [if_pos ok_4561, M_isNode1 hR hM.2.1 h30 hk hi n1.2, if_neg (by decide), m_in0 (lo := 0) (hi := 5) (i32_out (T := 6) (by omega) hz), Option.bind_some, if_pos rfl, if_pos ok_4561, m_refY]
    · refine bad1 ?_ ?_
      · unfold f_X11_node
        rw [if_pos ok_0, C_treeAt1 hR hC.2.1 hk, Sum.elim_inl, if_pos ok_0, C_needNode0 c1.1 hy, Sum.elim_inr]
      · unfold f_X12_node_
        rw [if_pos ok_4561, M_isNode0 hR hM.2.1 h30 hk hy n1.2, if_pos rfl]
        exact j15 _ _ _
  · refine bad1 ?_ ?_
    · unfold f_X11_node
      rw [if_pos ok_0, C_treeAt0 hR hC.2.1 hx, Sum.elim_inr]
    · unfold f_X12_node_
      rw [if_pos ok_4561, M_isNodeT hM.2.1 h30 hx, if_pos rfl]
      exact j15 _ _ _
end OC
