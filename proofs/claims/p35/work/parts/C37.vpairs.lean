/-! brackets in pairs among the words that are to be seen -/
def dG (W : Nat → Wd) (g : Nat → Bool) : Nat → Int
  | 0 => 0
  | k + 1 => dG W g k + (if g k = true then 0 else dvI (W k))
theorem dG_c (W : Nat → Wd) (g : Nat → Bool) (k : Nat) : dG W g (k + 1) = dG W g k + (if g k = true then 0 else dvI (W k)) := rfl
def pG (W : Nat → Wd) (g : Nat → Bool) (j c : Nat) : Prop := dG W g (c + 1) = dG W g j ∧ ∀ k, j < k → k ≤ c → dG W g j < dG W g k
section VPR
variable {W : Nat → Wd} {m J : Nat} {g : Nat → Bool} {P : Nat → Nat} {G : (Nat → Bool) → Prop}
theorem dG_none : ∀ k, dG W (fun _ => false) k = dD W k := by
  intro k
  induction k with
  | zero => rfl
  | succ k ih => rw [dG_c, dD_c, ih, if_neg (by first | decide | omega)]
theorem dG_hs {j c : Nat} (hp : mt W m j c) (g1 : g j = false) (g2 : g c = false) : ∀ k, dG W (hs j c true g) k = dG W g k - (if j < k ∧ k ≤ c then 1 else 0) := by
  intro k
  have k4 := hp.1
  have jc := hp.2.1
  have k5 := hp.2.2.2.1
  induction k with
  | zero => rw [if_neg (by omega)]; rfl
  | succ k ih =>
    rw [dG_c, dG_c, ih]
    unfold hs
    by_cases z : k = j
    · subst z
      rw [if_pos (Or.inl rfl), if_pos rfl, g1, if_neg (by omega), if_neg (by first | decide | omega), if_pos (by omega)]
      unfold dvI
      rw [if_pos k4]
      omega
    · by_cases z2 : k = c
      · subst z2
        rw [if_pos (Or.inr rfl), if_pos rfl, g2, if_pos (by omega), if_neg (by first | decide | omega), if_neg (by omega)]
        unfold dvI
        rw [if_neg (by omega), if_pos k5]
        omega
      · rw [show (if k = j ∨ k = c then true else g k) = g k from if_neg (fun y => y.elim z z2)]
        by_cases y : j < k ∧ k ≤ c
        · rw [if_pos y, if_pos (show j < k + 1 ∧ k + 1 ≤ c by omega)]
          omega
        · rw [if_neg y, if_neg (show ¬ (j < k + 1 ∧ k + 1 ≤ c) by omega)]
          omega
theorem pG_hs {j2 c2 : Nat} (hp : mt W m j2 c2) (g1 : g j2 = false) (g2 : g c2 = false) (q2 : pG W g j2 c2) {j c : Nat} (hj : mt W m j c) (ne : j ≠ j2) (q : pG W g j c) : pG W (hs j2 c2 true g) j c := by
  have jc := hj.2.1
  have jc2 := hp.2.1
  obtain ⟨a1, a2⟩ := q
  obtain ⟨b1, b2⟩ := q2
  have e := dG_hs (g := g) hp g1 g2
  rcases Nat.lt_or_ge j j2 with z | z
  · rcases mt_nest hp hj z with y | y
    · refine ⟨?_, fun k k1 k2 => ?_⟩
      · rw [e, e, if_neg (by omega), if_neg (by omega), a1]
      · rw [e, e, if_neg (by omega), if_neg (by omega)]
        have := a2 k k1 k2
        omega
    · refine ⟨?_, fun k k1 k2 => ?_⟩
      · rw [e, e, if_neg (by omega), if_neg (by omega), a1]
      · rw [e, e, if_neg (show ¬ (j2 < j ∧ j ≤ c2) by omega)]
        have h1 := a2 k k1 k2
        by_cases w : j2 < k ∧ k ≤ c2
        · rw [if_pos w]
          have := b2 k w.1 w.2
          have := a2 j2 z (by omega)
          omega
        · rw [if_neg w]
          omega
  · rcases mt_nest hj hp (show j2 < j by omega) with y | y
    · refine ⟨?_, fun k k1 k2 => ?_⟩
      · rw [e, e, if_neg (by omega), if_neg (by omega), a1]
      · rw [e, e, if_neg (by omega), if_neg (by omega)]
        have := a2 k k1 k2
        omega
    · refine ⟨?_, fun k k1 k2 => ?_⟩
      · rw [e, e, if_pos (by omega), if_pos (by omega), a1]
      · rw [e, e, if_pos (by omega), if_pos (by omega)]
        have := a2 k k1 k2
        omega
theorem pG_hdn (hP : ∀ j, j < m → (P j = 0 ∧ ¬ opn W j) ∨ prd W m j (P j)) (hG : G (fun _ => false)) : ∀ J, J ≤ m → ∀ j c, prd W m j c → hdn G P J j = false → pG W (hdn G P J) j c := by
  intro J
  induction J with
  | zero =>
    intro _ j c hp _
    show pG W (fun _ => false) j c
    unfold pG
    rw [dG_none, dG_none]
    refine ⟨hp.2.2.2.2.1, fun k k1 k2 => ?_⟩
    rw [dG_none]
    exact hp.2.2.2.2.2 k k1 k2
  | succ J ih =>
    intro hJ
    have ih := ih (by omega)
    obtain ⟨h1, -⟩ := HG_hdn hP hG J (by omega)
    show ∀ j c, prd W m j c → stp G P J (hdn G P J) j = false → pG W (stp G P J (hdn G P J)) j c
    generalize hdn G P J = g at *
    unfold stp
    rcases hP J (by omega) with ⟨p0, p1⟩ | pp
    · rw [if_pos p0]
      exact ih
    · rw [if_neg (show ¬ P J = 0 by have := pp.2.1; omega)]
      obtain ⟨e1, e2⟩ := HG_new h1 pp
      by_cases z : G (hs J (P J) true g)
      · rw [if_pos z]
        intro j c hp hj
        have ne : j ≠ J := fun y => by
          rw [y] at hj
          rw [show hs J (P J) true g J = true from if_pos (Or.inl rfl)] at hj
          cases hj
        have nc : j ≠ P J := mt_kind (prd_mt hp) (prd_mt pp)
        rw [show hs J (P J) true g j = g j from if_neg (fun y => y.elim ne nc)] at hj
        exact pG_hs (prd_mt pp) e1 e2 (ih J (P J) pp e1) (prd_mt hp) ne (ih j c hp hj)
      · rw [if_neg z, hs_same e1 e2]
        exact ih
/-- what stands where among the words that are to be seen -/
theorem lst_keep : ∀ d k i, i < (lstW W g k).length → wF (lstW W g (k + d)) i = wF (lstW W g k) i := by
  intro d
  induction d with
  | zero => intro k i _; rfl
  | succ d ih =>
    intro k i hi
    have := (lst_len (W := W) (g := g) d k).1
    rw [show k + (d + 1) = k + d + 1 by omega, ← ih k i hi]
    cases e : g (k + d) with
    | true => rw [lstW_h e]
    | false => rw [lstW_v e, wF_n (by omega)]
theorem dD_lst : ∀ k, dD (wF (lstW W g k)) (lstW W g k).length = dG W g k := by
  intro k
  induction k with
  | zero => rfl
  | succ k ih =>
    rw [dG_c, ← ih]
    cases e : g k with
    | true =>
      rw [lstW_h e, if_pos rfl]
      exact (Int.add_zero _).symm
    | false =>
      rw [lstW_v e, List.length_cons, dD_c, wF_s, if_neg (by first | decide | omega)]
      congr 1
      exact dD_congr _ (fun i hi => wF_n hi)
theorem dD_lst2 {k : Nat} (hk : k ≤ m) : dD (wF (lstW W g m)) (lstW W g k).length = dG W g k := by
  obtain ⟨d, rfl⟩ : ∃ d, m = k + d := ⟨m - k, by omega⟩
  rw [← dD_lst]
  exact dD_congr _ (fun i hi => lst_keep d k i hi)
theorem lst_mid : ∀ d j k', (lstW W g j).length < k' → k' ≤ (lstW W g (j + d)).length → ∃ k, j < k ∧ k ≤ j + d ∧ (lstW W g k).length = k' := by
  intro d
  induction d with
  | zero => intro j k' h1 h2; exact absurd h2 (by rw [Nat.add_zero]; omega)
  | succ d ih =>
    intro j k' h1 h2
    by_cases z : k' ≤ (lstW W g (j + d)).length
    · obtain ⟨k, y1, y2, y3⟩ := ih j k' h1 z
      exact ⟨k, y1, by omega, y3⟩
    · refine ⟨j + (d + 1), by omega, Nat.le_refl _, ?_⟩
      have := (lst_len (W := W) (g := g) 1 (j + d)).2
      rw [show j + d + 1 = j + (d + 1) by omega] at this
      omega
theorem lst_sur : ∀ m k', k' < (lstW W g m).length → ∃ k, k < m ∧ g k = false ∧ (lstW W g k).length = k' := by
  intro m
  induction m with
  | zero => intro k' h; exact absurd h (Nat.not_lt_zero _)
  | succ m ih =>
    intro k' h
    cases e : g m with
    | true =>
      rw [lstW_h e] at h
      obtain ⟨k, y1, y2⟩ := ih k' h
      exact ⟨k, by omega, y2⟩
    | false =>
      rw [lstW_v e, List.length_cons] at h
      by_cases z : k' < (lstW W g m).length
      · obtain ⟨k, y1, y2⟩ := ih k' z
        exact ⟨k, by omega, y2⟩
      · exact ⟨m, by omega, e, by omega⟩
theorem lst_v {k : Nat} (h : g k = false) (hk : k < m) : (lstW W g k).length < (lstW W g m).length ∧ wF (lstW W g m) (lstW W g k).length = W k := by
  have := lst_at (W := W) (g := g) (m := m) h (m - (k + 1)) (by omega)
  rw [show k + 1 + (m - (k + 1)) = m by omega] at this
  exact this
theorem lst_inj {i k : Nat} (hi : g i = false) (hk : g k = false) (e : (lstW W g i).length = (lstW W g k).length) : i = k := by
  rcases Nat.lt_trichotomy i k with z | z | z
  · have := (lst_v (W := W) hi z).1
    omega
  · exact z
  · have := (lst_v (W := W) hk z).1
    omega
/-- before a bracket of an operand, no name is seen -/
theorem prev_v (hg : HG W m J g) (hA : ∀ i, i + 1 < m → (W i).1 = 5 → (W (i + 1)).1 ≠ 4) : ∀ j, j < m → opn W j → 0 < (lstW W g j).length → (wF (lstW W g j) ((lstW W g j).length - 1)).1 ≠ 1 := by
  intro j
  induction j with
  | zero => intro _ _ h; exact absurd h (Nat.lt_irrefl 0)
  | succ i ih =>
    intro hj ho h0
    cases e : g i with
    | false =>
      rw [lstW_v e, List.length_cons, Nat.add_sub_cancel, wF_s]
      have := ho.2 (by omega)
      rw [Nat.add_sub_cancel] at this
      exact this
    | true =>
      rw [lstW_h e] at h0 ⊢
      obtain ⟨j', c', -, q1, q2 | q2, -⟩ := hg i e
      · exact ih (by omega) (by rw [q2]; exact q1.1) h0
      · have := hA i hj (by rw [q2]; exact q1.2.2.2.1)
        exact absurd ho.1 this
theorem opn_v (hg : HG W m J g) (hA : ∀ i, i + 1 < m → (W i).1 = 5 → (W (i + 1)).1 ≠ 4) {k : Nat} (hk : k < m) (gk : g k = false) : opn (wF (lstW W g m)) (lstW W g k).length ↔ opn W k := by
  obtain ⟨h1, h2⟩ := lst_v (W := W) gk hk
  constructor
  · intro y
    refine ⟨by rw [← h2]; exact y.1, fun hp z => ?_⟩
    have gp : g (k - 1) = false := HG_k hg (by omega)
    have e : lstW W g k = (W (k - 1), (wdT W g (k - 1)).length) :: lstW W g (k - 1) := by
      have := lstW_v (W := W) gp
      rw [show k - 1 + 1 = k by omega] at this
      exact this
    obtain ⟨h3, h4⟩ := lst_v (W := W) (m := m) gp (by omega)
    have := y.2 (by rw [e, List.length_cons]; omega)
    rw [e, List.length_cons, Nat.add_sub_cancel, h4] at this
    exact this z
  · intro y
    refine ⟨by rw [h2]; exact y.1, fun hp => ?_⟩
    have := prev_v hg hA k hk y hp
    have e := lst_keep (W := W) (g := g) (m - k) k ((lstW W g k).length - 1) (by omega)
    rw [show k + (m - k) = m by omega] at e
    rw [e]
    exact this
theorem prd_v (hg : HG W m J g) (hA : ∀ i, i + 1 < m → (W i).1 = 5 → (W (i + 1)).1 ≠ 4) {j c : Nat} (hp : prd W m j c) (gj : g j = false) (q : pG W g j c) : prd (wF (lstW W g m)) (lstW W g m).length (lstW W g j).length (lstW W g c).length := by
  have gc : g c = false := by rw [← HG_p hg hp]; exact gj
  have cm := hp.2.2.1
  have jc := hp.2.1
  obtain ⟨c1, c2⟩ := lst_v (W := W) gc cm
  obtain ⟨j1, j2⟩ := lst_v (W := W) gj jc
  have ec : (lstW W g (c + 1)).length = (lstW W g c).length + 1 := by
    rw [lstW_v gc]
    rfl
  refine ⟨(opn_v hg hA (by omega) gj).mpr hp.1, j1, c1, by rw [c2]; exact hp.2.2.2.1, ?_, fun k' k1 k2 => ?_⟩
  · rw [← ec, dD_lst2 (by omega), dD_lst2 (by omega)]
    exact q.1
  · obtain ⟨k, y1, y2, y3⟩ := lst_mid (c - j) j k' k1 (by rw [show j + (c - j) = c by omega]; exact k2)
    rw [← y3, dD_lst2 (by omega), dD_lst2 (by omega)]
    exact q.2 k y1 (by omega)
/-- what is tested of a pair that is to be seen -/
theorem test_v {b : GB} {n : Nat} {nd : Nat → Nd} {sp : Nat → Nat} (hg : HG W m J g) {j c : Nat} (hp : prd W m j c) (gj : g j = false) : GoodW b W m n nd sp (hs j c true g) ↔ GoodW b (wF (lstW W g m)) (lstW W g m).length n nd sp (hs (lstW W g j).length (lstW W g c).length true (fun _ => false)) := by
  have gc : g c = false := by rw [← HG_p hg hp]; exact gj
  refine good_lst (fun k y => ?_) (fun k hk gk => ?_)
  · unfold hs
    rw [y]
    exact ite_self _
  · unfold hs
    by_cases z : k = j ∨ k = c
    · rw [if_pos z, if_pos (by rcases z with e | e; exact Or.inl (by rw [e]); exact Or.inr (by rw [e]))]
    · rw [if_neg z, if_neg (fun y => z (y.elim (fun e => Or.inl (lst_inj gk gj e)) (fun e => Or.inr (lst_inj gk gc e)))), gk]
end VPR
/-! what never follows a bracket that closes -/
def adjB : List Wi → Prop
  | [] => True
  | _ :: [] => True
  | w :: w' :: ws => (w.2.1 = 5 → w'.2.1 ≠ 4) ∧ adjB (w' :: ws)
theorem run_adjB {b : GB} : ∀ n (ws : List Wi) (st : PS), ws.length ≤ n → (acc (run b ws st)).isSome = true → adjB ws := by
  intro n
  induction n with
  | zero =>
    intro ws st h _
    cases ws with
    | nil => trivial
    | cons w ws => exact absurd h (Nat.not_succ_le_zero _)
  | succ n ih =>
    intro ws st h hs
    cases ws with
    | nil => trivial
    | cons w ws =>
      rw [List.length_cons] at h
      obtain ⟨fin, hf⟩ := Option.isSome_iff_exists.mp hs
      cases ws with
      | nil => trivial
      | cons w' ws =>
        by_cases z : isCl w st (w' :: ws) = true
        · have a2 := acc_c hf z
          have z1 : w.2.1 = 1 ∧ w'.2.1 = 4 := by
            unfold isCl at z
            rw [Bool.and_eq_true, Bool.and_eq_true] at z
            exact ⟨beq_iff_eq.mp z.1.2, beq_iff_eq.mp z.2⟩
          have a3 : adjB ws := ih ws _ (by rw [List.length_cons] at h; omega) (by rw [show acc (run b ws (stF w.2.2 st)) = some fin from a2]; rfl)
          refine ⟨fun y => by omega, ?_⟩
          cases ws with
          | nil => trivial
          | cons w'' ws => exact ⟨fun y => by omega, a3⟩
        · obtain ⟨st', e1, e2⟩ := acc_n hf (bF z)
          refine ⟨fun y y4 => ?_, ih _ _ (by rw [List.length_cons] at h ⊢; omega) (by rw [e2]; rfl)⟩
          have w1 : st'.2.2.2 = false := by
            unfold stA at e1
            by_cases q : st.2.2.2 = true
            · rw [if_pos q] at e1
              unfold stO at e1
              rw [if_neg (by omega), if_neg (by omega), if_neg (by omega), if_neg (by omega)] at e1
              cases e1
            · rw [if_neg q, if_neg (by omega), if_pos y] at e1
              generalize red 0 st.1 st.2.1 st.2.2.1 = A at e1
              obtain ⟨A1, A2, A3⟩ := A
              cases A1 with
              | nil => cases e1
              | cons x A1 =>
                unfold clS at e1
                dsimp only at e1
                rw [if_neg (by first | decide | omega)] at e1
                by_cases q1 : x.1 = 1
                · rw [if_pos q1] at e1
                  rw [← Option.some.inj e1]
                · rw [if_neg q1] at e1
                  rw [← Option.some.inj e1]
          obtain ⟨st2, e3, -⟩ := acc_n e2 (isCl_f w1 _)
          unfold stA at e3
          rw [w1, if_neg (by first | decide | omega), if_neg (by omega), if_neg (by omega), if_neg (by omega)] at e3
          cases e3
theorem adjB_at {W : Nat → Wd} {m : Nat} (h : adjB (vis W (fun _ => false) m 0)) : ∀ i, i + 1 < m → (W i).1 = 5 → (W (i + 1)).1 ≠ 4 := by
  have key : ∀ i, i ≤ m → adjB (vs W m i) := by
    intro i
    induction i with
    | zero => intro _; exact h
    | succ i ih =>
      intro hi
      have := ih (by omega)
      rw [vs_c (by omega)] at this
      cases e : vs W m (i + 1) with
      | nil => trivial
      | cons w l =>
        rw [e] at this
        exact this.2
  intro i hi h5
  have := key i (by omega)
  rw [vs_c (by omega), vs_c hi] at this
  exact this.1 h5
