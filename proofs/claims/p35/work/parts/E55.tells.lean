/-! the law: operators told anew -/
def plS (j : Nat) : Nat := (plc (sgL j)).toNatClampNeg
theorem plS_ok : ∀ j, j < 16 → plS j < 16 ∧ plc (sgL j) = (Int32.ofNat (plS j)) := by decide +kernel
theorem plS_sur : ∀ q, q < 16 → ∃ j, j < 16 ∧ plS j = q := by decide +kernel
theorem sgL_inj : ∀ i, i < 16 → ∀ j, j < 16 → sgL i = sgL j → i = j := by decide
section LTE
variable {C : Nat → Nat → Int32} {Z : Nat} {t : GT} {s : GS} {b : GB} {n : GN} {f : GF} {v : GV} {p : GT} {r : GR} {h : GH} {σ : xM} {aC : Nat → ClassId}
def tdV (x : Int32 × Int32 × Int32) (w : Nat) : Int32 := if x.1 = 0 then -1 else if w = 0 then x.1 else if w = 1 then x.2.1 else x.2.2
theorem ls_told {j fx w : Nat} (H : LSt C Z t s b n f v p r h σ) (hj : j < 16) (hf : fx ≤ 2) (hw : w ≤ 2) : f_X11_told σ 0 (Int32.ofNat (sgL j)) (Int32.ofNat (fx)) (Int32.ofNat (w)) = some (.inl (tdV (b (fx * 16 + plS j)) w)) := by
  obtain ⟨I, J, R, q, rfl, hZ, hR, hC, hO, hI, hv⟩ := H
  obtain ⟨p1, p2⟩ := plS_ok j hj
  exact k_told hR hC (sgL_lt j hj) p2 p1 hf hw
/-- told so beside the others, it is no clash -/
def NoHind (b : GB) (fx pl : Nat) (rk sd : Int32) : Prop := (fx = 1 → (b (32 + pl)).1 = 0) ∧ (fx = 2 → (b (16 + pl)).1 = 0 ∧ ∀ q, q < 16 → q ≠ pl → (b (32 + q)).1 = rk → (b (32 + q)).2.1 = sd)
theorem ls_tell {j fx : Nat} {rk sd mn : Int32} (H : LSt C Z t s b n f v p r h σ) (hj : j < 16) (hf : fx ≤ 2) (hop : OpOK fx rk sd mn) (hh : NoHind b fx (plS j) rk sd) : ∃ σ', f_X11_tell σ 0 (Int32.ofNat (sgL j)) (Int32.ofNat (fx)) rk sd mn = some (.inl (b (fx * 16 + plS j)).1, σ') ∧ LSt C Z t s (upB b (fx * 16 + plS j) (rk, sd, mn)) n f v p r (hTab h (fx * 16 + plS j) (b (fx * 16 + plS j))) σ' := by
  obtain ⟨I, J, R, q, rfl, hZ, hR, hC, hO, hI, hv⟩ := H
  obtain ⟨p1, p2⟩ := plS_ok j hj
  have eb := hC.2.2.1.2
  have e13 : ∀ sl, sl < 48 → I 13 sl = (b sl).1 := fun sl h => by rw [← eb sl h]
  have e14 : ∀ sl, sl < 48 → I 14 sl = (b sl).2.1 := fun sl h => by rw [← eb sl h]
  have hn : ¬ Hind I fx (plS j) rk sd := fun y => by
    rcases y with ⟨y1, y2⟩ | ⟨y1, y2 | ⟨q, q1, q2, q3, q4⟩⟩
    · rw [e13 _ (by omega), hh.1 y1] at y2
      exact absurd y2 (by decide)
    · rw [e13 _ (by omega), (hh.2 y1).1] at y2
      exact absurd y2 (by decide)
    · rw [e13 _ (by omega)] at q3
      rw [e14 _ (by omega)] at q4
      exact q4 ((hh.2 y1).2 q q1 q2 q3)
  obtain ⟨I', e, hC', hO', hK⟩ := k_tell (J := J) hR hC hO (sgL_lt j hj) p2 p1 hf hop hn
  exact ⟨_, e, I', J, R, q, rfl, hZ, hR, hC', hO', fun a k ha => (hK a k ha).trans (hI a k ha), hv⟩
/-- a rank is none or from 1 to 9 -/
theorem rank_n {fx pl : Nat} (hO : TbOK b) (hp : pl < 16) (hf : fx ≤ 2) : (b (fx * 16 + pl)).1 ≠ -1 := by
  obtain ⟨e, h9⟩ := rk_i hO hp (show fx < 3 by omega)
  rw [e]
  exact i32_m1 (by omega)
theorem ls_may {j fx rk sd : Nat} (H : LSt C Z t s b n f v p r h σ) (hj : j < 16) (hf : fx ≤ 2) (hr : 1 ≤ rk ∧ rk ≤ 9) (hs : sd ≤ 2) : ∃ w, f_L_mayTell σ 0 (Int32.ofNat (sgL j)) (Int32.ofNat (fx)) (Int32.ofNat (rk)) (Int32.ofNat (sd)) = some w ∧ (w = 0 ∨ (w = 1 ∧ NoHind b fx (plS j) (Int32.ofNat (rk)) (Int32.ofNat (sd)))) := by
  have hO := (ls_top H).1.1
  obtain ⟨p1, p2⟩ := plS_ok j hj
  have rk0 : (Int32.ofNat (rk)) ≠ (0 : Int32) := i32_ne (b := 0) (by omega) (by omega) (by omega)
  -- the loop
  have lp : ∀ w0 : Int32, (w0 = 0 ∨ (w0 = 1 ∧ (fx = 1 → (b (32 + plS j)).1 = 0) ∧ (fx = 2 → (b (16 + plS j)).1 = 0))) → ∃ w, f_L_mayTell_j29 σ 0 (Int32.ofNat (sgL j)) (Int32.ofNat (fx)) (Int32.ofNat (rk)) (Int32.ofNat (sd)) w0 = some w ∧ (w = 0 ∨ (w = 1 ∧ NoHind b fx (plS j) (Int32.ofNat (rk)) (Int32.ofNat (sd)))) := by
    intro w0 hw0
    show QK _ _
    unfold f_L_mayTell_j29
    rw [q_let]
    refine q_bind (P := fun o => ∃ w, o = .inr w ∧ (w = 0 ∨ (w = 1 ∧ NoHind b fx (plS j) (Int32.ofNat (rk)) (Int32.ofNat (sd))))) ?_ ?_
    rotate_left
    · rintro _ ⟨w, rfl, hw⟩
      rw [Sum.elim_inr]
      unfold f_L_mayTell_j102
      rcases hw with rfl | ⟨rfl, hw⟩
      · rw [q_xz0]
        exact q_ok (Or.inl rfl)
      · rw [q_xz1]
        exact q_ok (Or.inr ⟨rfl, hw⟩)
    refine q_for 16 (fun k x => ∃ w, x = (0, (Int32.ofNat (sgL j)), (Int32.ofNat (fx)), (Int32.ofNat (rk)), (Int32.ofNat (sd)), w, (Int32.ofNat (k))) ∧ (w = 0 ∨ (w = 1 ∧ ((fx = 1 → (b (32 + plS j)).1 = 0) ∧ (fx = 2 → (b (16 + plS j)).1 = 0)) ∧ (fx = 2 → ∀ i, i < k → plS i ≠ plS j → (b (32 + plS i)).1 = (Int32.ofNat (rk)) → (b (32 + plS i)).2.1 = (Int32.ofNat (sd)))))) ?_ ?_ (i := 0) ⟨w0, rfl, ?_⟩ (Nat.zero_le _) (by unfold xF; omega)
    · rintro k _ hk ⟨w, rfl, hw⟩
      unfold f_L_mayTell_s34
      rw [q_let, q_let, q_let, q_let, q_let, q_let, q_let]
      dsimp only
      rw [if_neg (show ¬ (16 : Int32) ≤ (Int32.ofNat (k)) from fun y => absurd ((i32_le (k := 16) (by omega) (by omega)).mp y) (by omega)), sign_ok k hk, Option.bind_some]
      have nx : ∀ w' : Int32, (w' = 0 ∨ (w' = 1 ∧ ((fx = 1 → (b (32 + plS j)).1 = 0) ∧ (fx = 2 → (b (16 + plS j)).1 = 0)) ∧ (fx = 2 → ∀ i, i < k + 1 → plS i ≠ plS j → (b (32 + plS i)).1 = (Int32.ofNat (rk)) → (b (32 + plS i)).2.1 = (Int32.ofNat (sd))))) → QK (f_L_mayTell_j94 σ 0 (Int32.ofNat (sgL j)) (Int32.ofNat (fx)) (Int32.ofNat (rk)) (Int32.ofNat (sd)) (Int32.ofNat (k)) w') (qS (fun x => ∃ w, x = (0, (Int32.ofNat (sgL j)), (Int32.ofNat (fx)), (Int32.ofNat (rk)), (Int32.ofNat (sd)), w, (Int32.ofNat (k + 1))) ∧ (w = 0 ∨ (w = 1 ∧ ((fx = 1 → (b (32 + plS j)).1 = 0) ∧ (fx = 2 → (b (16 + plS j)).1 = 0)) ∧ (fx = 2 → ∀ i, i < k + 1 → plS i ≠ plS j → (b (32 + plS i)).1 = (Int32.ofNat (rk)) → (b (32 + plS i)).2.1 = (Int32.ofNat (sd)))))) (fun o => ∃ w, o = .inr w ∧ (w = 0 ∨ (w = 1 ∧ NoHind b fx (plS j) (Int32.ofNat (rk)) (Int32.ofNat (sd)))))) := fun w' hw' => by
        unfold f_L_mayTell_j94
        rw [q_let, show (Int32.ofNat (k)) + (1 : Int32) = (Int32.ofNat (k + 1)) from n_add k 1]
        exact q_go ⟨w', rfl, hw'⟩
      unfold f_L_mayTell_j93 f_L_mayTell_j89
      rcases hw with rfl | ⟨rfl, hw1, hw2⟩
      · rw [if_pos rfl]
        exact nx 0 (Or.inl rfl)
      rw [if_neg (show ¬ (1 : Int32) = 0 by decide)]
      have add : (fx = 2 → plS k ≠ plS j → (b (32 + plS k)).1 = (Int32.ofNat (rk)) → (b (32 + plS k)).2.1 = (Int32.ofNat (sd))) → ((1 : Int32) = 0 ∨ ((1 : Int32) = 1 ∧ ((fx = 1 → (b (32 + plS j)).1 = 0) ∧ (fx = 2 → (b (16 + plS j)).1 = 0)) ∧ (fx = 2 → ∀ i, i < k + 1 → plS i ≠ plS j → (b (32 + plS i)).1 = (Int32.ofNat (rk)) → (b (32 + plS i)).2.1 = (Int32.ofNat (sd))))) := fun hk1 => Or.inr ⟨rfl, hw1, fun f2 i hi => by
        by_cases y : i = k
        · subst y
          exact hk1 f2
        · exact hw2 f2 i (by omega)⟩
      by_cases q2 : fx = 2
      · subst q2
        rw [if_pos (show (Int32.ofNat (2)) = (2 : Int32) from rfl)]
        by_cases q3 : (Int32.ofNat (sgL k)) = (Int32.ofNat (sgL j))
        · rw [if_pos q3]
          have sk := sgL_lt k hk
          have sj := sgL_lt j hj
          have e := sgL_inj k hk j hj ((i32_eq (by omega) (by omega)).mp q3)
          exact nx 1 (add (fun _ y => absurd (by rw [e]) y))
        · rw [if_neg q3]
          have t0 : f_X11_told σ 0 (Int32.ofNat (sgL k)) 2 0 = some (.inl (tdV (b (2 * 16 + plS k)) 0)) := ls_told H hk (fx := 2) (w := 0) (by decide) (by decide)
          have t1 : f_X11_told σ 0 (Int32.ofNat (sgL k)) 2 1 = some (.inl (tdV (b (2 * 16 + plS k)) 1)) := ls_told H hk (fx := 2) (w := 1) (by decide) (by decide)
          rw [if_pos (ls_ok H), t0, Option.bind_some, Sum.elim_inl]
          have v0 : (b (32 + plS k)).1 = (Int32.ofNat (rk)) → tdV (b (2 * 16 + plS k)) 0 = (Int32.ofNat (rk)) ∧ tdV (b (2 * 16 + plS k)) 1 = (b (32 + plS k)).2.1 := fun y => by
            have y' : (b (2 * 16 + plS k)).1 = (Int32.ofNat (rk)) := y
            have h0 : ¬ (b (2 * 16 + plS k)).1 = 0 := by rw [y']; exact rk0
            refine ⟨?_, ?_⟩
            · unfold tdV
              rw [if_neg h0, if_pos rfl]
              exact y'
            · unfold tdV
              rw [if_neg h0, if_neg (show ¬ (1 : Nat) = 0 by decide), if_pos rfl]
          by_cases q4 : tdV (b (2 * 16 + plS k)) 0 = (Int32.ofNat (rk))
          · rw [if_pos q4, if_pos (ls_ok H), t1, Option.bind_some, Sum.elim_inl]
            by_cases q5 : tdV (b (2 * 16 + plS k)) 1 = (Int32.ofNat (sd))
            · rw [if_pos q5]
              exact nx 1 (add (fun _ _ y => by rw [← (v0 y).2]; exact q5))
            · rw [if_neg q5]
              exact nx 0 (Or.inl rfl)
          · rw [if_neg q4]
            exact nx 1 (add (fun _ _ y => absurd (v0 y).1 q4))
      · rw [if_neg (show ¬ (Int32.ofNat (fx)) = (2 : Int32) from i32_ne (b := 2) (by omega) (by omega) q2)]
        exact nx 1 (add (fun y => absurd y q2))
    · rintro _ ⟨w, rfl, hw⟩
      unfold f_L_mayTell_s34
      rw [q_let, q_let, q_let, q_let, q_let, q_let, q_let]
      dsimp only
      rw [if_pos (by decide)]
      refine q_ex ⟨w, rfl, ?_⟩
      rcases hw with rfl | ⟨rfl, hw1, hw2⟩
      · exact Or.inl rfl
      · refine Or.inr ⟨rfl, hw1.1, fun f2 => ⟨hw1.2 f2, fun q q1 q2 q3 => ?_⟩⟩
        obtain ⟨i, i1, rfl⟩ := plS_sur q q1
        exact hw2 f2 i i1 q2 q3
    · rcases hw0 with rfl | ⟨rfl, w1, w2⟩
      · exact Or.inl rfl
      · exact Or.inr ⟨rfl, ⟨w1, w2⟩, fun _ i hi => absurd hi (Nat.not_lt_zero i)⟩
  unfold f_L_mayTell
  unfold f_L_mayTell_j16 f_L_mayTell_j24
  rcases (by omega : fx = 0 ∨ fx = 1 ∨ fx = 2) with rfl | rfl | rfl
  · rw [if_pos (show (Int32.ofNat (0)) = (0 : Int32) from rfl)]
    exact lp 1 (Or.inr ⟨rfl, fun y => by omega, fun y => by omega⟩)
  · have t0 : f_X11_told σ 0 (Int32.ofNat (sgL j)) 2 0 = some (.inl (tdV (b (2 * 16 + plS j)) 0)) := ls_told H hj (fx := 2) (w := 0) (by decide) (by decide)
    rw [if_neg (show ¬ (Int32.ofNat (1)) = (0 : Int32) by decide), if_neg (show ¬ (Int32.ofNat (1)) = (2 : Int32) by decide), if_pos (ls_ok H), t0, Option.bind_some, Sum.elim_inl]
    by_cases q : (b (2 * 16 + plS j)).1 = 0
    · rw [if_pos (show tdV (b (2 * 16 + plS j)) 0 = -1 from if_pos q)]
      exact lp 1 (Or.inr ⟨rfl, fun _ => q, fun y => by omega⟩)
    · rw [if_neg (show ¬ tdV (b (2 * 16 + plS j)) 0 = -1 by unfold tdV; rw [if_neg q, if_pos rfl]; exact rank_n hO p1 (by decide))]
      exact lp 0 (Or.inl rfl)
  · have t0 : f_X11_told σ 0 (Int32.ofNat (sgL j)) 1 0 = some (.inl (tdV (b (1 * 16 + plS j)) 0)) := ls_told H hj (fx := 1) (w := 0) (by decide) (by decide)
    rw [if_neg (show ¬ (Int32.ofNat (2)) = (0 : Int32) by decide), if_pos (show (Int32.ofNat (2)) = (2 : Int32) from rfl), if_pos (ls_ok H), t0, Option.bind_some, Sum.elim_inl]
    by_cases q : (b (1 * 16 + plS j)).1 = 0
    · rw [if_pos (show tdV (b (1 * 16 + plS j)) 0 = -1 from if_pos q)]
      exact lp 1 (Or.inr ⟨rfl, fun y => by omega, fun _ => q⟩)
    · rw [if_neg (show ¬ tdV (b (1 * 16 + plS j)) 0 = -1 by unfold tdV; rw [if_neg q, if_pos rfl]; exact rank_n hO p1 (by decide))]
      exact lp 0 (Or.inl rfl)
end LTE
