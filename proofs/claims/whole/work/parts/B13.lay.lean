/-! the reference lays the tree that was read -/
def MLy (a n : Nat) : Nat → Nat → Prop := fun x k => x = 4589 ∨ (4565 ≤ x ∧ x ≤ 4569 ∧ a ≤ k ∧ k < a + n)
section LA
variable {I : Nat → Nat → Int32} {J : Nat → Nat → Int64} {R : Nat → Nat → Option Nat} {b : GB} {β : Type} {n a : Nat} {nd : Nat → Nd} {sp : Nat → Nat}
theorem M_lay (hR : RA R) (h33 : I 4561 33 = (Int32.ofNat (n))) (hw : WT n (aro nd) sp) (h80 : n ≤ 80) (ha : a + n ≤ 20300) (hd : ∀ x, x < n → I 4584 (pl sp x) = (nd x).1 ∧ I 4585 (pl sp x) = (nd x).2.1 ∧ I 4586 (pl sp x) = (nd x).2.2.1 ∧ I 4587 (pl sp x) = (Int32.ofNat (aro nd x)) ∧ aro nd x ≤ 4 ∧ I 4588 (pl sp x) = (Int32.ofNat (sp x))) : QK (f_X12_lay (mg 4625 I J R) 4561 (Int32.ofNat (a))) (fun r => ∃ I', r = ((Int32.ofNat (n)), mg 4625 I' J R) ∧ FrK (MLy a n) I I' ∧ MT I' a n nd sp) := by
  have n0 := hw.1
  unfold f_X12_lay
  rw [gr_4561_32 hR, gi_4561, h33, show (Int32.ofNat (n)) - 1 = (Int32.ofNat (n - 1)) from n_sub (a := n) (b := 1) (by omega), gw_4589 (by omega), gi_4561, up_n (by omega), h33, q_let]
  generalize hI1 : up I 4589 (n - 1) 0 = I1
  have hz1 : I1 4589 (n - 1) = (Int32.ofNat (0)) := by rw [← hI1, up_s]; rfl
  have f1 : ∀ x k, x ≠ 4589 → I1 x k = I x k := fun x k h => by rw [← hI1, up_n (by omega)]
  refine q_bind (P := fun r => ∃ I', r = .inr (4561, (Int32.ofNat (a)), mg 4625 I' J R) ∧ FrK (MLy a n) I I' ∧ MN I' a n nd) ?_ ?_
  · refine q_loop (fun m s => ∃ I', s = (4561, (Int32.ofNat (a)), (Int32.ofNat (m)) - 1, mg 4625 I' J R) ∧ m ≤ n ∧ FrK (MLy a n) I I' ∧ I' 4589 (n - 1) = (Int32.ofNat (0)) ∧ (∀ x, x < n → m ≤ pl sp x → ∀ k, k < aro nd x → I' 4589 (pl sp (kid sp x k)) = (Int32.ofNat (kid sp x k))) ∧ ∀ x, x < n → m ≤ pl sp x → I' 4565 (a + x) = (nd x).1 ∧ I' 4566 (a + x) = (nd x).2.1 ∧ I' 4567 (a + x) = (nd x).2.2.1 ∧ I' 4568 (a + x) = (Int32.ofNat (aro nd x))) ?_ (m := n) ⟨I1, rfl, Nat.le_refl _, fun x k h => by
      unfold MLy at h
      exact f1 x k (by omega), hz1, fun x hx h => absurd (pl_lt hw hx) (by omega), fun x hx h => absurd (pl_lt hw hx) (by omega)⟩ (by unfold xF; omega)
    rintro m s ⟨I', rfl, hm, hF, hz, hc, hp⟩
    unfold f_X12_lay_s19
    dsimp only
    rw [q_let, q_let, q_let, q_let]
    rcases m with _ | i
    · rw [if_pos (by decide)]
      refine q_ex ⟨I', rfl, hF, ha, fun x hx => ?_⟩
      obtain ⟨e1, e2, e3, e4⟩ := hp x hx (by omega)
      exact ⟨e1, e2, e3, e4, (hd x hx).2.2.2.2.1⟩
    · have hi : i < n := by omega
      obtain ⟨x, hx, ex⟩ := pl_sur hw hi
      obtain ⟨k1, k2, k3, k4, har, k5⟩ := hd x hx
      rw [ex] at k1 k2 k3 k4 k5
      have wx := hw.2.2.2 x hx
      have plx := pl_ge hw hx
      have cl := cnt_le sp x x
      have old : ∀ y k, 4584 ≤ y → y ≤ 4588 → I' y k = I y k := fun y k h1 h2 => hF y k (by unfold MLy; omega)
      have y6 : I' 4589 i = (Int32.ofNat (x)) := by
        by_cases q : x = 0
        · rw [← ex, q, pl_0 hw]
          exact hz
        · obtain ⟨p, k, c1, c2, c3, c4⟩ := par hw hx (by omega)
          have ki := kid_in hw c2 c3
          have := (pl_inner hw c2 ki.1 (by have := (hw.2.2.2 _ ki.2.1).1; omega)).1
          have w := hc p c2 (by rw [← c4] at this; omega) k c3
          rw [← c4, ex] at w
          exact w
      rw [i32_pred, if_neg (show ¬ (Int32.ofNat (i)) < (0 : Int32) from i32_nlt0 (by omega)), gr_4561_32 hR, ga_4589 (by omega), y6, gr_4561_27 hR, ga_4584 (by omega), old _ _ (by omega) (by omega), k1, gr_4561_28 hR, ga_4585 (by omega), old _ _ (by omega) (by omega), k2, gr_4561_29 hR, ga_4586 (by omega), old _ _ (by omega) (by omega), k3, gr_4561_30 hR, ga_4587 (by omega), old _ _ (by omega) (by omega), k4, if_pos ok_4561, n_add, M_node hR (by omega), Option.bind_some, q_let, gr_4561_31 hR, ga_4588 (by omega), up_n (by omega), up_n (by omega), up_n (by omega), up_n (by omega), up_n (by omega), old _ _ (by omega) (by omega), k5, q_let, q_let, n_add]
      generalize hI3 : up (up (up (up (up I' 4565 (a + x) (nd x).1) 4566 (a + x) (nd x).2.1) 4567 (a + x) (nd x).2.2.1) 4568 (a + x) (Int32.ofNat (aro nd x))) 4569 (a + x) 1 = I3
      have f3 : ∀ y k, ¬ (4565 ≤ y ∧ y ≤ 4569 ∧ k = a + x) → I3 y k = I' y k := fun y k h => by
        rw [← hI3, up_n (by omega), up_n (by omega), up_n (by omega), up_n (by omega), up_n (by omega)]
      have v3 : I3 4565 (a + x) = (nd x).1 ∧ I3 4566 (a + x) = (nd x).2.1 ∧ I3 4567 (a + x) = (nd x).2.2.1 ∧ I3 4568 (a + x) = (Int32.ofNat (aro nd x)) := by
        rw [← hI3]
        refine ⟨?_, ?_, ?_, ?_⟩
        · rw [up_n (by omega), up_n (by omega), up_n (by omega), up_n (by omega), up_s]
        · rw [up_n (by omega), up_n (by omega), up_n (by omega), up_s]
        · rw [up_n (by omega), up_n (by omega), up_s]
        · rw [up_n (by omega), up_s]
      have F3 : FrK (MLy a n) I I3 := fun y k h => by
        rw [f3 y k (by unfold MLy at h; omega)]
        exact hF y k h
      refine q_bind (P := fun r => ∃ I2, r = .inr (4561, (Int32.ofNat (a)), (Int32.ofNat (i)), mg 4625 I2 J R) ∧ FrK (fun y _ => y = 4589) I3 I2 ∧ I2 4589 (n - 1) = (Int32.ofNat (0)) ∧ ∀ y, y < n → i ≤ pl sp y → ∀ k, k < aro nd y → I2 4589 (pl sp (kid sp y k)) = (Int32.ofNat (kid sp y k))) ?_ ?_
      · refine q_for (aro nd x) (fun k s => ∃ I2, s = (4561, (Int32.ofNat (a)), (Int32.ofNat (i)), (Int32.ofNat (pl sp x + 1 - sp x + (kid sp x (aro nd x - k) - x - 1))) - 1, (Int32.ofNat (kid sp x (aro nd x - k))), (Int32.ofNat (k)), mg 4625 I2 J R) ∧ FrK (fun y _ => y = 4589) I3 I2 ∧ I2 4589 (n - 1) = (Int32.ofNat (0)) ∧ (∀ y, y < n → i + 1 ≤ pl sp y → ∀ k, k < aro nd y → I2 4589 (pl sp (kid sp y k)) = (Int32.ofNat (kid sp y k))) ∧ ∀ k', aro nd x - k ≤ k' → k' < aro nd x → I2 4589 (pl sp (kid sp x k')) = (Int32.ofNat (kid sp x k'))) ?_ ?_ (i := 0) ⟨I3, ?_, FrK_rfl, by rw [f3 _ _ (by omega)]; exact hz, fun y hy h k hk => by rw [f3 _ _ (by omega)]; exact hc y hy h k hk, fun k' h1 h2 => absurd h1 (by omega)⟩ (by omega) (by unfold xF; omega)
        · rintro k s hk ⟨I2, rfl, hF2, hz2, hc2, hk2⟩
          have kb := kid_back hw hx hk
          obtain ⟨c1, c2, c3⟩ := kid_in hw hx (show aro nd x - (k + 1) < aro nd x by omega)
          have pc := pl_child hw hx (show aro nd x - (k + 1) < aro nd x by omega)
          have wc := hw.2.2.2 _ c2
          have pin := (pl_inner hw hx c1 (by omega)).1
          have plc := pl_lt hw c2
          have k5c := (hd _ c2).2.2.2.2.2
          generalize hcc : kid sp x (aro nd x - (k + 1)) = c at *
          have old2 : ∀ y k, 4584 ≤ y → y ≤ 4588 → I2 y k = I y k := fun y k h1 h2 => by
            rw [hF2 y k (by omega), f3 y k (by omega), old y k h1 h2]
          unfold f_X12_lay_s79
          dsimp only
          rw [q_let, q_let, q_let, q_let, q_let, q_let, q_let, show (Int32.ofNat (pl sp x + 1 - sp x + (kid sp x (aro nd x - k) - x - 1))) - 1 = (Int32.ofNat (pl sp c)) from by
            rw [show (1 : Int32) = (Int32.ofNat (1)) from rfl, n_sub (by omega)]
            congr 1
            omega, gr_4561_30 hR, ga_4587 (by omega), old2 _ _ (by omega) (by omega), k4, if_neg (show ¬ (Int32.ofNat (aro nd x)) ≤ (Int32.ofNat (k)) from fun y => absurd ((i32_le (by omega) (by omega)).mp y) (by omega)), gr_4561_31 hR, ga_4588 (by omega), old2 _ _ (by omega) (by omega), k5c, q_let, n_sub (by omega), gr_4561_32 hR, gw_4589 (by omega), gr_4561_31 hR, ga_4588 (by omega), up_n (by omega), old2 _ _ (by omega) (by omega), k5c, q_let, q_let, show (Int32.ofNat (k)) + 1 = (Int32.ofNat (k + 1)) from n_add k 1, show kid sp x (aro nd x - k) - sp c = c by omega]
          refine q_go ⟨up I2 4589 (pl sp c) (Int32.ofNat (c)), ?_, FrK_up hF2 rfl, ?_, fun y hy h1 k' hk' => ?_, fun k' h1 h2 => ?_⟩
          · rw [show (Int32.ofNat (pl sp c)) - (Int32.ofNat (sp c)) = (Int32.ofNat (pl sp x + 1 - sp x + (c - x - 1))) - 1 from by
              rw [show pl sp x + 1 - sp x + (c - x - 1) = pl sp c + 1 - sp c by omega, show (1 : Int32) = (Int32.ofNat (1)) from rfl]
              have : ∀ u s : Nat, 1 ≤ s → s ≤ u + 1 → u < 100 → (Int32.ofNat (u)) - (Int32.ofNat (s)) = (Int32.ofNat (u + 1 - s)) - (Int32.ofNat (1)) := by
                intro u s h1 h2 h3
                have k := n_sub1 (p := u) (s := s) (c := u + 1 - s) (by omega)
                rw [← k, Int32.sub_eq_add_neg (_ + _), Int32.add_assoc, Int32.add_right_neg, Int32.add_zero]
              exact this _ _ (by omega) (by omega) (by omega)]
          · by_cases z : n - 1 = pl sp c
            · omega
            · rw [up_n (by omega)]
              exact hz2
          · rw [up_a]
            split
            · next q =>
              have := (kid_in hw hy hk').2.1
              rw [pl_inj hw this c2 q.2]
            · exact hc2 y hy h1 k' hk'
          · rw [up_a]
            split
            · next q =>
              have := (kid_in hw hx h2).2.1
              rw [pl_inj hw this c2 q.2]
            · next q =>
              refine hk2 k' ?_ h2
              by_cases y : k' = aro nd x - (k + 1)
              · rw [y, hcc] at q
                exact absurd ⟨rfl, rfl⟩ q
              · omega
        · rintro s ⟨I2, rfl, hF2, hz2, hc2, hk2⟩
          have old2 : ∀ y k, 4584 ≤ y → y ≤ 4588 → I2 y k = I y k := fun y k h1 h2 => by
            rw [hF2 y k (by omega), f3 y k (by omega), old y k h1 h2]
          unfold f_X12_lay_s79
          dsimp only
          rw [q_let, q_let, q_let, q_let, q_let, q_let, q_let, gr_4561_30 hR, ga_4587 (by omega), old2 _ _ (by omega) (by omega), k4, if_pos (show (Int32.ofNat (aro nd x)) ≤ (Int32.ofNat (aro nd x)) from (i32_le (by omega) (by omega)).mpr (Nat.le_refl _))]
          refine q_ex ⟨I2, rfl, hF2, hz2, fun y hy h1 k hk => ?_⟩
          by_cases z : pl sp y = i
          · have := pl_inj hw hy hx (by omega)
            subst this
            exact hk2 k (by omega) hk
          · exact hc2 y hy (by omega) k hk
        · rw [Nat.sub_zero, wx.2.2.1, show pl sp x + 1 - sp x + (x + sp x - x - 1) = i by omega]
          rfl
      · rintro r ⟨I2, rfl, hF2, hz2, hc2⟩
        simp only [Sum.elim_inr]
        unfold f_X12_lay_j129
        rw [q_let, show (Int32.ofNat (i)) + (-1 : Int32) = (Int32.ofNat (i)) - 1 from n_decm _]
        refine q_go ⟨i, by omega, I2, rfl, by omega, fun y k h => ?_, hz2, hc2, fun y hy h => ?_⟩
        · rw [hF2 y k (by unfold MLy at h; omega)]
          exact F3 y k h
        · rw [hF2 4565 _ (by omega), hF2 4566 _ (by omega), hF2 4567 _ (by omega), hF2 4568 _ (by omega)]
          by_cases z : pl sp y = i
          · have := pl_inj hw hy hx (by omega)
            subst this
            exact v3
          · have ne : y ≠ x := fun e => z (by rw [e]; exact ex)
            rw [f3 4565 _ (by omega), f3 4566 _ (by omega), f3 4567 _ (by omega), f3 4568 _ (by omega)]
            exact hp y hy (by omega)
  · rintro _ ⟨I2, rfl, hF2, hN⟩
    simp only [Sum.elim_inr]
    unfold f_X12_lay_j135
    have h332 : I2 4561 33 = (Int32.ofNat (n)) := (hF2 _ _ (by unfold MLy; omega)).trans h33
    rw [gi_4561, h332, if_pos ok_4561]
    refine q_bind (M_span hR hN hw) ?_
    rintro _ ⟨I3, rfl, hF3, hT3⟩
    rw [gi_4561, hF3 4561 33 (by omega), h332]
    exact q_ok ⟨I3, rfl, fun y k h => (hF3 y k (by unfold MLy at h; omega)).trans (hF2 y k h), hT3⟩
end LA
