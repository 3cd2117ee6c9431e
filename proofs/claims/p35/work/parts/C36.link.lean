/-! words as they are spelled -/
def QW (S : SW) : Prop := ∀ w, w ∈ S.1 → WSP w.1
theorem QW_adw {w : Wd} {S : SW} (hw : WSP w) (h : QW S) : QW (adw w S) := fun x hx => by
  rcases List.mem_cons.mp hx with e | e
  · rw [e]
    exact hw
  · exact h x e
theorem QW_clw {o : Nat} {S : SW} (h : QW S) : QW (clw o S) := fun x hx => by
  rcases List.mem_cons.mp hx with e | e
  · rw [e]
    exact Or.inr (Or.inr (Or.inr (Or.inr (Or.inl rfl))))
  · exact h x e
theorem w40 : WSP (4, 40) := Or.inr (Or.inr (Or.inr (Or.inl rfl)))
theorem w41 : WSP (5, 41) := Or.inr (Or.inr (Or.inr (Or.inr (Or.inl rfl))))
theorem w44 : WSP (6, 44) := Or.inr (Or.inr (Or.inr (Or.inr (Or.inr rfl))))
theorem spl_QW {b : GB} {n : Nat} {nd : Nat → Nd} {sp : Nat → Nat} (h : WT n (aro nd) sp) (hn : ∀ i, i < n → NV b (nd i)) : ∀ f i, i < n → ∀ S, QW S → QW (spl nd sp f i S) := by
  intro f
  induction f with
  | zero => intro i _ S hS; exact hS
  | succ f ih =>
    intro i hi S hS
    rw [spl_c]
    have nv := hn i hi
    have sg : (nd i).1 = 3 → WSP (sgw (nd i)) := fun q3 => by
      obtain ⟨p, fx, y2, y3, -, y5, -⟩ := sgw_p nv q3
      rw [y5]
      exact Or.inr (Or.inr (Or.inl ⟨rfl, y2⟩))
    have nm : (nd i).1 = 1 ∨ (nd i).1 = 2 → WSP (1, vN (nd i)) := fun q => by
      have : ∃ l, l < 26 ∧ (nd i).2.1 = (Int32.ofNat (97 + l)) := by
        rcases nv with y | y | y | y
        · rcases q with q | q <;> exact absurd (y.1.symm.trans q) (by first | decide | omega)
        · exact y.2.1
        · exact y.2.1
        · rcases q with q | q <;> exact absurd (y.1.symm.trans q) (by first | decide | omega)
      obtain ⟨l, l1, l2⟩ := this
      have ev : vN (nd i) = 97 + l := by
        unfold vN
        rw [l2]
        exact i32_nat (by omega)
      rw [ev]
      exact Or.inr (Or.inl ⟨rfl, by show 97 ≤ 97 + l; omega, by show 97 + l ≤ 122; omega⟩)
    have opd : ∀ k, k < aro nd i → ∀ S, QW S → QW (spO (spl nd sp f) (nd i) (nd (kid sp i k)) (kid sp i k) S) := fun k hk S hS => by
      obtain ⟨a1, a2, a3⟩ := kid_sp h hi hk
      unfold spO
      split
      · exact QW_clw (ih _ a1 _ (QW_adw w40 hS))
      · exact ih _ a1 _ hS
    have args : ∀ k, k ≤ aro nd i → ∀ S, QW S → QW (spA (spl nd sp f) nd sp i k S) := by
      intro k
      induction k with
      | zero => intro _ S hS; exact hS
      | succ k ihk =>
        intro hk S hS
        rw [spA_c]
        have h1 := ihk (by omega) S hS
        refine opd k (by omega) _ ?_
        unfold spI
        by_cases q : k = 0
        · rw [if_pos q]
          exact h1
        · rw [if_neg q]
          by_cases q2 : (nd i).1 = 2
          · rw [if_pos q2]
            exact QW_adw w44 h1
          · rw [if_neg q2]
            refine QW_adw (sg ?_) h1
            rcases nv with y | y | y | y
            · have : aro nd i = 0 := y.2.2.2
              omega
            · have : aro nd i = 0 := y.2.2.2
              omega
            · exact absurd y.1 q2
            · exact y.1
    have hB : QW (spB (nd i) S) := by
      unfold spB
      by_cases q3 : (nd i).1 = 3
      · rw [if_pos q3]
        split
        · exact QW_adw (sg q3) hS
        · exact hS
      · rw [if_neg q3]
        by_cases q2 : (nd i).1 = 2
        · rw [if_pos q2]
          exact QW_adw w40 (QW_adw (nm (Or.inr q2)) hS)
        · rw [if_neg q2]
          obtain ⟨v1, v2, v3, v4, v5, v6, v7⟩ := NV_v nv
          by_cases q0 : (nd i).1 = 0
          · rw [if_pos q0]
            exact QW_adw (Or.inl ⟨rfl, v2⟩) hS
          · rw [if_neg q0]
            refine QW_adw (nm (Or.inl ?_)) hS
            rcases v5 with y | y | y | y
            · exact absurd y q0
            · exact y
            · exact absurd y q2
            · exact absurd y q3
    have hA := args _ (Nat.le_refl _) _ hB
    unfold spC
    by_cases q3 : (nd i).1 = 3
    · rw [if_pos q3]
      split
      · exact QW_adw (sg q3) hA
      · exact hA
    · rw [if_neg q3]
      split
      · exact QW_adw w41 hA
      · exact hA
theorem spl_WSP {b : GB} {n : Nat} {nd : Nat → Nd} {sp : Nat → Nat} (h : WT n (aro nd) sp) (hn : ∀ i, i < n → NV b (nd i)) {f : Nat} : ∀ j, j < (spl nd sp f 0 S0).1.length → WSP (wF (spl nd sp f 0 S0).1 j) := fun j hj => by
  obtain ⟨w, h1, h2, -⟩ := wF_mem _ j hj
  rw [h2]
  exact spl_QW h hn f 0 h.1 S0 (fun w hw => by cases hw) w h1
/-! only the words count, not where they stand -/
theorem isCl_snd {w w' : Wi} {st : PS} {ws ws' : List Wi} (hw : w.2 = w'.2) (h : ws.map Prod.snd = ws'.map Prod.snd) : isCl w st ws = isCl w' st ws' := by
  cases ws with
  | nil =>
    cases ws' with
    | nil => rfl
    | cons x ws' => cases h
  | cons x ws =>
    cases ws' with
    | nil => cases h
    | cons x' ws' =>
      have hx := (List.cons.inj h).1
      show (st.2.2.2 && w.2.1 == 1 && x.2.1 == 4) = (st.2.2.2 && w'.2.1 == 1 && x'.2.1 == 4)
      rw [hw, hx]
theorem run_snd {b : GB} : ∀ n (ws ws' : List Wi) (st : PS), ws.length ≤ n → ws.map Prod.snd = ws'.map Prod.snd → acc (run b ws st) = acc (run b ws' st) := by
  intro n
  induction n with
  | zero =>
    intro ws ws' st hl h
    cases ws with
    | cons w ws => exact absurd hl (Nat.not_succ_le_zero _)
    | nil =>
      cases ws' with
      | nil => rfl
      | cons x ws' => cases h
  | succ n ih =>
    intro ws ws' st hl h
    cases ws with
    | nil => exact ih [] ws' st (Nat.zero_le _) h
    | cons w ws =>
      cases ws' with
      | nil => cases h
      | cons w' ws' =>
        obtain ⟨h1, h2⟩ := List.cons.inj h
        rw [List.length_cons] at hl
        rw [run_cons, run_cons, isCl_snd h1 h2, h1]
        by_cases z : isCl w' st ws' = true
        · rw [if_pos z, if_pos z]
          exact ih _ _ _ (by rw [List.length_drop]; omega) (by rw [List.map_drop, List.map_drop, h2])
        · rw [if_neg z, if_neg z]
          cases e : stA b w'.2 st with
          | none => rfl
          | some st' => exact ih _ _ _ (by omega) h2
theorem dOk_snd {b : GB} : ∀ n (ws ws' : List Wi) (st : PS), ws.length ≤ n → ws.map Prod.snd = ws'.map Prod.snd → dOk b ws st → dOk b ws' st := by
  intro n
  induction n with
  | zero =>
    intro ws ws' st hl h hd
    cases ws with
    | cons w ws => exact absurd hl (Nat.not_succ_le_zero _)
    | nil =>
      cases ws' with
      | nil => exact hd
      | cons x ws' => cases h
  | succ n ih =>
    intro ws ws' st hl h hd
    cases ws with
    | nil => exact ih [] ws' st (Nat.zero_le _) h hd
    | cons w ws =>
      cases ws' with
      | nil => cases h
      | cons w' ws' =>
        obtain ⟨h1, h2⟩ := List.cons.inj h
        rw [List.length_cons] at hl
        refine dOk_i (dOk_d hd) (fun z => ?_) (fun z st' e => ?_)
        · rw [← isCl_snd h1 h2] at z
          have := dOk_c hd z
          rw [h1] at this
          exact ih _ _ _ (by rw [List.length_drop]; omega) (by rw [List.map_drop, List.map_drop, h2]) this
        · rw [← isCl_snd h1 h2] at z
          rw [← h1] at e
          exact ih _ _ _ (by omega) h2 (dOk_n hd z e)
/-! the words that are to be seen, counted anew -/
section LST
variable {W : Nat → Wd} {g g2 g2' : Nat → Bool} {m : Nat}
theorem lstW_h {k : Nat} (h : g k = true) : lstW W g (k + 1) = lstW W g k := by rw [lstW_c, if_pos h]
theorem lstW_v {k : Nat} (h : g k = false) : lstW W g (k + 1) = (W k, (wdT W g k).length) :: lstW W g k := by rw [lstW_c, if_neg (by rw [h]; decide)]
theorem lst_at {k : Nat} (h : g k = false) : ∀ d, k + 1 + d ≤ m → (lstW W g k).length < (lstW W g (k + 1 + d)).length ∧ wF (lstW W g (k + 1 + d)) (lstW W g k).length = W k := by
  intro d
  induction d with
  | zero =>
    intro _
    rw [Nat.add_zero, lstW_v h, List.length_cons]
    exact ⟨by omega, wF_s _ _⟩
  | succ d ih =>
    intro hd
    obtain ⟨h1, h2⟩ := ih (by omega)
    rw [show k + 1 + (d + 1) = k + 1 + d + 1 by omega]
    cases e : g (k + 1 + d) with
    | true =>
      rw [lstW_h e]
      exact ⟨h1, h2⟩
    | false =>
      rw [lstW_v e, List.length_cons, wF_n h1]
      exact ⟨by omega, h2⟩
theorem lst_len : ∀ d k, (lstW W g k).length ≤ (lstW W g (k + d)).length ∧ (lstW W g (k + d)).length ≤ (lstW W g k).length + d := by
  intro d
  induction d with
  | zero => intro k; exact ⟨Nat.le_refl _, Nat.le_refl _⟩
  | succ d ih =>
    intro k
    obtain ⟨h1, h2⟩ := ih k
    rw [show k + (d + 1) = k + d + 1 by omega]
    cases e : g (k + d) with
    | true => rw [lstW_h e]; omega
    | false => rw [lstW_v e, List.length_cons]; omega
theorem vis_lst (hg : ∀ k, g k = true → g2 k = true) : ∀ m, (∀ k, k < m → g k = false → g2' (lstW W g k).length = g2 k) → (vis W g2 m 0).map Prod.snd = (vis (wF (lstW W g m)) g2' (lstW W g m).length 0).map Prod.snd := by
  intro m
  induction m with
  | zero => intro _; rfl
  | succ m ih =>
    intro h
    have ih := ih (fun k hk => h k (by omega))
    have e1 := vis_app (W := W) (g := g2) 1 m 0
    rw [Nat.zero_add] at e1
    rw [e1, List.map_append, ih]
    cases e : g m with
    | true =>
      rw [lstW_h e, vis_c, if_pos (hg m e)]
      exact List.append_nil _
    | false =>
      have hm := h m (by omega) e
      rw [lstW_v e, List.length_cons, vis_app 1 (lstW W g m).length 0, List.map_append, Nat.zero_add, vis_c, vis_c, hm, wF_s]
      congr 1
      · rw [vis_congr (W := wF (lstW W g m)) (W' := wF ((W m, (wdT W g m).length) :: lstW W g m)) (lstW W g m).length 0 (fun i _ hi => wF_n (by omega))]
      · cases g2 m with
        | true => rfl
        | false => rfl
theorem good_lst {b : GB} {n : Nat} {nd : Nat → Nd} {sp : Nat → Nat} (hg : ∀ k, g k = true → g2 k = true) (h : ∀ k, k < m → g k = false → g2' (lstW W g k).length = g2 k) : GoodW b W m n nd sp g2 ↔ GoodW b (wF (lstW W g m)) (lstW W g m).length n nd sp g2' := by
  unfold GoodW
  rw [run_snd _ _ _ st0 (Nat.le_refl _) (vis_lst hg m h)]
end LST
