/-! brackets in pairs -/
def dvI (w : Wd) : Int := if w.1 = 4 then 1 else if w.1 = 5 then -1 else 0
def dD (W : Nat → Wd) : Nat → Int
  | 0 => 0
  | j + 1 => dD W j + dvI (W j)
theorem dD_c (W : Nat → Wd) (j : Nat) : dD W (j + 1) = dD W j + dvI (W j) := rfl
def opn (W : Nat → Wd) (j : Nat) : Prop := (W j).1 = 4 ∧ (0 < j → (W (j - 1)).1 ≠ 1)
theorem wF_s (w : Wp) (l : List Wp) : wF (w :: l) l.length = w.1 := if_pos rfl
theorem wF_n {w : Wp} {l : List Wp} {j : Nat} (h : j < l.length) : wF (w :: l) j = wF l j := if_neg (by omega)
theorem dD_congr {W W' : Nat → Wd} : ∀ j, (∀ i, i < j → W' i = W i) → dD W' j = dD W j := by
  intro j
  induction j with
  | zero => intro _; rfl
  | succ j ih =>
    intro h
    rw [dD_c, dD_c, ih (fun i hi => h i (by omega)), h j (by omega)]
theorem opn_congr {W W' : Nat → Wd} {j : Nat} (h : ∀ i, i ≤ j → W' i = W i) : opn W' j ↔ opn W j := by
  unfold opn
  rw [h j (Nat.le_refl _), h (j - 1) (by omega)]
/-- a bracket j that opens an operand, with the one that closes it -/
def prd (W : Nat → Wd) (m j c : Nat) : Prop := opn W j ∧ j < c ∧ c < m ∧ (W c).1 = 5 ∧ dD W (c + 1) = dD W j ∧ ∀ k, j < k → k ≤ c → dD W j < dD W k
theorem prd_up {W W' : Nat → Wd} {m m' j c : Nat} (h : prd W m j c) (hm : m ≤ m') (e : ∀ i, i < m → W' i = W i) : prd W' m' j c := by
  obtain ⟨h1, h2, h3, h4, h5, h6⟩ := h
  refine ⟨(opn_congr (fun i hi => e i (by omega))).mpr h1, h2, by omega, by rw [e c h3]; exact h4, ?_, fun k k1 k2 => ?_⟩
  · rw [dD_congr (c + 1) (fun i hi => e i (by omega)), dD_congr j (fun i hi => e i (by omega))]
    exact h5
  · rw [dD_congr j (fun i hi => e i (by omega)), dD_congr k (fun i hi => e i (by omega))]
    exact h6 k k1 k2
def PQ (S S' : SW) : Prop := (∀ j, S.1.length ≤ j → S.2 j = 0) → S.1.length ≤ S'.1.length ∧ (∀ j, j < S.1.length → wF S'.1 j = wF S.1 j) ∧ dD (wF S'.1) S'.1.length = dD (wF S'.1) S.1.length ∧ (∀ j, S.1.length ≤ j → j ≤ S'.1.length → dD (wF S'.1) S.1.length ≤ dD (wF S'.1) j) ∧ (∀ j, j < S.1.length → S'.2 j = S.2 j) ∧ (∀ j, S.1.length ≤ j → j < S'.1.length → (S'.2 j = 0 ∧ ¬ opn (wF S'.1) j) ∨ prd (wF S'.1) S'.1.length j (S'.2 j)) ∧ ∀ j, S'.1.length ≤ j → S'.2 j = 0
theorem PQ_cl : ClP PQ := by
  refine ⟨fun S hz => ⟨Nat.le_refl _, fun j _ => rfl, rfl, fun j h1 h2 => ?_, fun j _ => rfl, fun j h1 h2 => absurd h2 (by omega), hz⟩, fun S S' w a hw hz => ?_, fun S S' S'' a hd c hz => ?_, fun S S' S'' v a c hz => ?_⟩
  · rw [show j = S.1.length by omega]
    exact Int.le_refl _
  · obtain ⟨a1, a2, a3, a4, a5, a6, a7⟩ := a hz
    have el : (adw w S').1 = (w, 0) :: S'.1 := rfl
    have e2 : (adw w S').2 = S'.2 := rfl
    have ee : ∀ i, i < S'.1.length → wF ((w, 0) :: S'.1) i = wF S'.1 i := fun i hi => wF_n hi
    have es : wF ((w, 0) :: S'.1) S'.1.length = w := wF_s _ _
    have dz : dvI w = 0 := by
      unfold dvI
      rw [if_neg (show ¬ w.1 = 4 by omega), if_neg (show ¬ w.1 = 5 by omega)]
    rw [el, e2]
    generalize wF ((w, 0) :: S'.1) = W at *
    have dj : ∀ j, j ≤ S'.1.length → dD W j = dD (wF S'.1) j := fun j hj => dD_congr j (fun i hi => ee i (by omega))
    have dl : dD W (S'.1.length + 1) = dD (wF S'.1) S'.1.length := by
      rw [dD_c, es, dz, Int.add_zero, dj _ (Nat.le_refl _)]
    rw [List.length_cons]
    refine ⟨by omega, fun j hj => (ee j (by omega)).trans (a2 j hj), by rw [dl, dj _ a1]; exact a3, fun j h1 h2 => ?_, a5, fun j h1 h2 => ?_, fun j h1 => a7 j (by omega)⟩
    · by_cases q : j = S'.1.length + 1
      · rw [q, dl, dj _ a1, a3]
        exact Int.le_refl _
      · rw [dj _ a1, dj j (by omega)]
        exact a4 j h1 (by omega)
    · by_cases q : j = S'.1.length
      · refine Or.inl ⟨a7 j (by omega), fun z => ?_⟩
        have := z.1
        rw [q, es] at this
        omega
      · rcases a6 j h1 (by omega) with ⟨z1, z2⟩ | z
        · exact Or.inl ⟨z1, fun y => z2 ((opn_congr (fun i hi => ee i (by omega))).mp y)⟩
        · exact Or.inr (prd_up z (by omega) ee)
  · obtain ⟨a1, a2, a3, a4, a5, a6, a7⟩ := a hz
    obtain ⟨c1, c2, c3, c4, c5, c6, c7⟩ := c (fun j hj => a7 j (by
      have : (adw (4, 40) S').1.length = S'.1.length + 1 := rfl
      omega))
    have l1 : (adw (4, 40) S').1.length = S'.1.length + 1 := rfl
    have w1 : (adw (4, 40) S').1 = ((4, 40), 0) :: S'.1 := rfl
    have q1 : (adw (4, 40) S').2 = S'.2 := rfl
    rw [l1] at c1 c2 c3 c4 c5 c6
    rw [w1] at c2
    rw [q1] at c5
    have el : (clw S'.1.length S'').1 = ((5, 41), 0) :: S''.1 := rfl
    have e2 : ∀ j, (clw S'.1.length S'').2 j = if j = S'.1.length then S''.1.length else S''.2 j := fun j => rfl
    have ee : ∀ i, i < S''.1.length → wF (((5, 41), 0) :: S''.1) i = wF S''.1 i := fun i hi => wF_n hi
    have es : wF (((5, 41), 0) :: S''.1) S''.1.length = (5, 41) := wF_s _ _
    rw [el]
    generalize wF (((5, 41), 0) :: S''.1) = W at *
    have ee' : ∀ i, i < S'.1.length → wF S''.1 i = wF S'.1 i := fun i hi => (c2 i (by omega)).trans (wF_n hi)
    have eo : wF S''.1 S'.1.length = (4, 40) := (c2 _ (by omega)).trans (wF_s _ _)
    have dj : ∀ j, j ≤ S''.1.length → dD W j = dD (wF S''.1) j := fun j hj => dD_congr j (fun i hi => ee i (by omega))
    have dj' : ∀ j, j ≤ S'.1.length → dD (wF S''.1) j = dD (wF S'.1) j := fun j hj => dD_congr j (fun i hi => ee' i (by omega))
    have d1 : dD (wF S''.1) (S'.1.length + 1) = dD (wF S'.1) S'.1.length + 1 := by
      rw [dD_c, eo, dj' _ (Nat.le_refl _)]
      rfl
    have dl : dD W (S''.1.length + 1) = dD (wF S'.1) S'.1.length := by
      rw [dD_c, es, dj _ (Nat.le_refl _), c3, d1]
      show dD (wF S'.1) S'.1.length + 1 + -1 = _
      omega
    have pr : prd W (S''.1.length + 1) S'.1.length S''.1.length := by
      refine ⟨⟨by rw [ee _ (by omega), eo], fun h0 => ?_⟩, by omega, by omega, by rw [es], ?_, fun k k1 k2 => ?_⟩
      · rw [ee _ (by omega), ee' _ (by omega)]
        cases hS : S'.1 with
        | nil => rw [hS] at h0; exact absurd h0 (Nat.lt_irrefl 0)
        | cons x l =>
          have := hd x l hS
          rw [show (x :: l).length - 1 = l.length from rfl, wF_s]
          exact this
      · rw [dl, dj _ (by omega), dj' _ (Nat.le_refl _)]
      · have := c4 k (by omega) k2
        rw [dj _ (by omega), dj _ (by omega), dj' _ (Nat.le_refl _)]
        rw [d1] at this
        omega
    rw [List.length_cons]
    refine ⟨by omega, fun j hj => (ee j (by omega)).trans ((ee' j (by omega)).trans (a2 j hj)), by rw [dl, dj _ (by omega), dj' _ a1]; exact a3, fun j h1 h2 => ?_, fun j hj => ?_, fun j h1 h2 => ?_, fun j h1 => ?_⟩
    · have t := a4 S'.1.length (by omega) (by omega)
      rw [dj _ (by omega), dj' _ a1]
      by_cases q : j = S''.1.length + 1
      · rw [q, dl]
        exact t
      · rw [dj j (by omega)]
        by_cases y : j ≤ S'.1.length
        · rw [dj' j y]
          exact a4 j h1 y
        · have := c4 j (by omega) (by omega)
          rw [d1] at this
          omega
    · rw [e2, if_neg (by omega), c5 j (by omega)]
      exact a5 j hj
    · rw [e2]
      by_cases q : j = S'.1.length
      · rw [if_pos q, q]
        exact Or.inr pr
      · rw [if_neg q]
        by_cases y : j < S'.1.length
        · rw [c5 j (by omega)]
          rcases a6 j h1 y with ⟨z1, z2⟩ | z
          · exact Or.inl ⟨z1, fun w => z2 ((opn_congr (fun i hi => (ee i (by omega)).trans (ee' i (by omega)))).mp w)⟩
          · exact Or.inr (prd_up z (by omega) (fun i hi => (ee i (by omega)).trans (ee' i hi)))
        · by_cases x : j = S''.1.length
          · refine Or.inl ⟨c7 j (by omega), fun w => ?_⟩
            have := w.1
            rw [x, es] at this
            exact absurd this (by first | decide | omega)
          · rcases c6 j (by omega) (by omega) with ⟨z1, z2⟩ | z
            · exact Or.inl ⟨z1, fun w => z2 ((opn_congr (fun i hi => ee i (by omega))).mp w)⟩
            · exact Or.inr (prd_up z (by omega) ee)
    · rw [e2, if_neg (by omega)]
      exact c7 j (by omega)
  · obtain ⟨a1, a2, a3, a4, a5, a6, a7⟩ := a hz
    obtain ⟨c1, c2, c3, c4, c5, c6, c7⟩ := c (fun j hj => a7 j (by
      have : (adw (4, 40) (adw (1, v) S')).1.length = S'.1.length + 2 := rfl
      omega))
    have l1 : (adw (4, 40) (adw (1, v) S')).1.length = S'.1.length + 2 := rfl
    have w1 : (adw (4, 40) (adw (1, v) S')).1 = ((4, 40), 0) :: ((1, v), 0) :: S'.1 := rfl
    have q1 : (adw (4, 40) (adw (1, v) S')).2 = S'.2 := rfl
    rw [l1] at c1 c2 c3 c4 c5 c6
    rw [w1] at c2
    rw [q1] at c5
    have el : (adw (5, 41) S'').1 = ((5, 41), 0) :: S''.1 := rfl
    have e2 : (adw (5, 41) S'').2 = S''.2 := rfl
    have ee : ∀ i, i < S''.1.length → wF (((5, 41), 0) :: S''.1) i = wF S''.1 i := fun i hi => wF_n hi
    have es : wF (((5, 41), 0) :: S''.1) S''.1.length = (5, 41) := wF_s _ _
    rw [el, e2]
    generalize wF (((5, 41), 0) :: S''.1) = W at *
    have ee' : ∀ i, i < S'.1.length → wF S''.1 i = wF S'.1 i := fun i hi => (c2 i (by omega)).trans ((wF_n (by rw [List.length_cons]; omega)).trans (wF_n hi))
    have en : wF S''.1 S'.1.length = (1, v) := (c2 _ (by omega)).trans ((wF_n (by rw [List.length_cons]; omega)).trans (wF_s _ _))
    have eo : wF S''.1 (S'.1.length + 1) = (4, 40) := (c2 _ (by omega)).trans (wF_s _ (((1, v), 0) :: S'.1))
    have dj : ∀ j, j ≤ S''.1.length → dD W j = dD (wF S''.1) j := fun j hj => dD_congr j (fun i hi => ee i (by omega))
    have dj' : ∀ j, j ≤ S'.1.length → dD (wF S''.1) j = dD (wF S'.1) j := fun j hj => dD_congr j (fun i hi => ee' i (by omega))
    have d0 : dD (wF S''.1) (S'.1.length + 1) = dD (wF S'.1) S'.1.length := by
      rw [dD_c, en, dj' _ (Nat.le_refl _)]
      show _ + (0 : Int) = _
      omega
    have d1 : dD (wF S''.1) (S'.1.length + 2) = dD (wF S'.1) S'.1.length + 1 := by
      rw [dD_c, eo, d0]
      rfl
    have dl : dD W (S''.1.length + 1) = dD (wF S'.1) S'.1.length := by
      rw [dD_c, es, dj _ (Nat.le_refl _), c3, d1]
      show dD (wF S'.1) S'.1.length + 1 + -1 = _
      omega
    rw [List.length_cons]
    refine ⟨by omega, fun j hj => (ee j (by omega)).trans ((ee' j (by omega)).trans (a2 j hj)), by rw [dl, dj _ (by omega), dj' _ a1]; exact a3, fun j h1 h2 => ?_, fun j hj => ?_, fun j h1 h2 => ?_, fun j h1 => c7 j (by omega)⟩
    · have t := a4 S'.1.length (by omega) (by omega)
      rw [dj _ (by omega), dj' _ a1]
      by_cases q : j = S''.1.length + 1
      · rw [q, dl]
        exact t
      · rw [dj j (by omega)]
        by_cases y : j ≤ S'.1.length
        · rw [dj' j y]
          exact a4 j h1 y
        · by_cases x : j = S'.1.length + 1
          · rw [x, d0]
            exact t
          · have := c4 j (by omega) (by omega)
            rw [d1] at this
            omega
    · rw [c5 j (by omega)]
      exact a5 j hj
    · by_cases y : j < S'.1.length
      · rw [c5 j (by omega)]
        rcases a6 j h1 y with ⟨z1, z2⟩ | z
        · exact Or.inl ⟨z1, fun w => z2 ((opn_congr (fun i hi => (ee i (by omega)).trans (ee' i (by omega)))).mp w)⟩
        · exact Or.inr (prd_up z (by omega) (fun i hi => (ee i (by omega)).trans (ee' i hi)))
      · by_cases x : j = S''.1.length
        · refine Or.inl ⟨c7 j (by omega), fun w => ?_⟩
          have := w.1
          rw [x, es] at this
          exact absurd this (by first | decide | omega)
        · by_cases u : j = S'.1.length
          · refine Or.inl ⟨by rw [c5 j (by omega)]; exact a7 j (by omega), fun w => ?_⟩
            have := w.1
            rw [u, ee _ (by omega), en] at this
            exact absurd (show (1 : Nat) = 4 from this) (by first | decide | omega)
          · by_cases t : j = S'.1.length + 1
            · refine Or.inl ⟨by rw [c5 j (by omega)]; exact a7 j (by omega), fun w => ?_⟩
              refine w.2 (by omega) ?_
              rw [t, Nat.add_sub_cancel, ee _ (by omega), en]
            · rcases c6 j (by omega) (by omega) with ⟨z1, z2⟩ | z
              · exact Or.inl ⟨z1, fun w => z2 ((opn_congr (fun i hi => ee i (by omega))).mp w)⟩
              · exact Or.inr (prd_up z (by omega) ee)
def S0 : SW := ([], fun _ => 0)
/-- the words of a whole tree -/
theorem spl_pairs {b : GB} {n : Nat} {nd : Nat → Nd} {sp : Nat → Nat} (h : WT n (aro nd) sp) (hn : ∀ i, i < n → NV b (nd i)) {f : Nat} (hf : n ≤ f) : (∀ j, j < (spl nd sp f 0 S0).1.length → ((spl nd sp f 0 S0).2 j = 0 ∧ ¬ opn (wF (spl nd sp f 0 S0).1) j) ∨ prd (wF (spl nd sp f 0 S0).1) (spl nd sp f 0 S0).1.length j ((spl nd sp f 0 S0).2 j)) ∧ (spl nd sp f 0 S0).1.length + 2 ≤ 3 * n ∧ cwL (spl nd sp f 0 S0).1 = n := by
  have s0 := h.2.2.1
  have g := spl_Sg h hn f 0 h.1 (by omega) S0 (fun w l e => by cases e)
  obtain ⟨-, -, -, -, -, p, -⟩ := g PQ PQ_cl (fun j _ => rfl)
  obtain ⟨-, l2, l3⟩ := spl_len h hn f 0 h.1 (by omega) S0
  rw [s0] at l2 l3
  refine ⟨fun j hj => p j (Nat.zero_le _) hj, ?_, ?_⟩
  · rw [Nat.add_comm]
    show 2 + _ ≤ _
    have : S0.1.length = 0 := rfl
    omega
  · rw [l3]
    show 0 + n = n
    omega
/-- words that are nodes -/
theorem nws_vis_all : ∀ (l : List Wp), nws (visl l) = cwL l := by
  intro l
  induction l with
  | nil => rfl
  | cons w l ih =>
    rw [visl_cons]
    have ap : ∀ (a b : List Wi), nws (a ++ b) = nws a + nws b := by
      intro a
      induction a with
      | nil => intro b; exact (Nat.zero_add _).symm
      | cons x a iha =>
        intro b
        rw [List.cons_append, nws_pos, nws_pos, iha b, Nat.add_assoc]
    rw [ap, ih, nws_pos]
    show cwL l + (nwd w.1 + 0) = nwd w.1 + cwL l
    omega
