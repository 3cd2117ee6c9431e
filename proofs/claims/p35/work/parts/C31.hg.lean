/-! which words can be hidden -/
def BlT (T S S' : SW) : Prop := S.1.length ≤ S'.1.length ∧ dD (wF T.1) S'.1.length = dD (wF T.1) S.1.length ∧ ∀ j, S.1.length ≤ j → j ≤ S'.1.length → dD (wF T.1) S.1.length ≤ dD (wF T.1) j
theorem Bl_cl (T : SW) : ClP (fun S S' => Suf S S' ∧ (Suf S' T → BlT T S S')) := by
  refine ⟨fun S => ⟨Suf_rfl S, fun _ => ⟨Nat.le_refl _, rfl, fun j h1 h2 => ?_⟩⟩, fun S S' w a hw => ⟨Suf_tr a.1 (Suf_adw _ _), fun hT => ?_⟩, fun S S' S'' a hd c => ⟨Suf_tr a.1 (Suf_tr (Suf_adw _ _) (Suf_tr c.1 (Suf_clw _ _))), fun hT => ?_⟩, fun S S' S'' v a c => ⟨Suf_tr a.1 (Suf_tr (Suf_adw _ _) (Suf_tr (Suf_adw _ _) (Suf_tr c.1 (Suf_adw _ _)))), fun hT => ?_⟩⟩
  · rw [show j = S.1.length by omega]
    exact Int.le_refl _
  · obtain ⟨b1, b2, b3⟩ := a.2 (Suf_tr (Suf_adw _ _) hT)
    obtain ⟨m1, w1⟩ := at_w hT
    have l1 : (adw w S').1.length = S'.1.length + 1 := rfl
    have e : dD (wF T.1) (S'.1.length + 1) = dD (wF T.1) S'.1.length := by
      rw [dD_c, w1, show dvI w = 0 by unfold dvI; rw [if_neg (by omega), if_neg (by omega)]]
      exact Int.add_zero _
    refine ⟨by omega, by rw [l1, e, b2], fun j h1 h2 => ?_⟩
    by_cases z : j ≤ S'.1.length
    · exact b3 j h1 z
    · rw [show j = S'.1.length + 1 by omega, e, b2]
      exact Int.le_refl _
  · have u2 := Suf_tr (Suf_clw S'.1.length S'') hT
    have u1 := Suf_tr c.1 u2
    obtain ⟨b1, b2, b3⟩ := a.2 (Suf_tr (Suf_adw _ _) u1)
    obtain ⟨c1, c2, c3⟩ := c.2 u2
    obtain ⟨m1, w1⟩ := at_w u1
    obtain ⟨m2, w2⟩ := at_c hT
    have l1 : (adw (4, 40) S').1.length = S'.1.length + 1 := rfl
    have l2 : (clw S'.1.length S'').1.length = S''.1.length + 1 := rfl
    rw [l1] at c1 c2 c3
    have e1 : dD (wF T.1) (S'.1.length + 1) = dD (wF T.1) S'.1.length + 1 := by
      rw [dD_c, w1]
      rfl
    have e2 : dD (wF T.1) (S''.1.length + 1) = dD (wF T.1) S''.1.length + -1 := by
      rw [dD_c, w2]
      rfl
    refine ⟨by omega, by rw [l2]; omega, fun j h1 h2 => ?_⟩
    by_cases z : j ≤ S'.1.length
    · exact b3 j h1 z
    · by_cases z2 : j ≤ S''.1.length
      · have := c3 j (by omega) z2
        omega
      · rw [show j = S''.1.length + 1 by omega]
        omega
  · have u2 := Suf_tr (Suf_adw (5, 41) S'') hT
    have u1 := Suf_tr c.1 u2
    have u0 := Suf_tr (Suf_adw (4, 40) (adw (1, v) S')) u1
    obtain ⟨b1, b2, b3⟩ := a.2 (Suf_tr (Suf_adw _ _) u0)
    obtain ⟨c1, c2, c3⟩ := c.2 u2
    obtain ⟨m0, w0⟩ := at_w u0
    obtain ⟨m1, w1⟩ := at_w u1
    obtain ⟨m2, w2⟩ := at_w hT
    have l0 : (adw (1, v) S').1.length = S'.1.length + 1 := rfl
    have l1 : (adw (4, 40) (adw (1, v) S')).1.length = S'.1.length + 2 := rfl
    have l2 : (adw (5, 41) S'').1.length = S''.1.length + 1 := rfl
    rw [l0] at w1
    rw [l1] at c1 c2 c3
    have e0 : dD (wF T.1) (S'.1.length + 1) = dD (wF T.1) S'.1.length + 0 := by
      rw [dD_c, w0]
      rfl
    have e1 : dD (wF T.1) (S'.1.length + 2) = dD (wF T.1) (S'.1.length + 1) + 1 := by
      rw [dD_c, w1]
      rfl
    have e2 : dD (wF T.1) (S''.1.length + 1) = dD (wF T.1) S''.1.length + -1 := by
      rw [dD_c, w2]
      rfl
    refine ⟨by omega, by rw [l2]; omega, fun j h1 h2 => ?_⟩
    by_cases z : j ≤ S'.1.length
    · exact b3 j h1 z
    · by_cases z1 : j = S'.1.length + 1
      · rw [z1]
        omega
      · by_cases z2 : j ≤ S''.1.length
        · have := c3 j (by omega) z2
          omega
        · rw [show j = S''.1.length + 1 by omega]
          omega
theorem Bl_of {T S S' : SW} (h : Sg S S') (hT : Suf S' T) : BlT T S S' := (h _ (Bl_cl T)).2 hT
/-- two brackets of which one closes the other, of a call too -/
def mt (W : Nat → Wd) (m j c : Nat) : Prop := (W j).1 = 4 ∧ j < c ∧ c < m ∧ (W c).1 = 5 ∧ dD W (c + 1) = dD W j ∧ ∀ k, j < k → k ≤ c → dD W j < dD W k
theorem prd_mt {W : Nat → Wd} {m j c : Nat} (h : prd W m j c) : mt W m j c := ⟨h.1.1, h.2⟩
theorem mt_c {W : Nat → Wd} {m j c c' : Nat} (h : mt W m j c) (h' : mt W m j c') : c = c' := by
  obtain ⟨-, h2, h3, h4, h5, h6⟩ := h
  obtain ⟨-, k2, k3, k4, k5, k6⟩ := h'
  rcases Nat.lt_trichotomy c c' with z | z | z
  · have := k6 (c + 1) (by omega) (by omega)
    omega
  · exact z
  · have := h6 (c' + 1) (by omega) (by omega)
    omega
theorem mt_j {W : Nat → Wd} {m j j' c : Nat} (h : mt W m j c) (h' : mt W m j' c) : j = j' := by
  obtain ⟨-, h2, h3, h4, h5, h6⟩ := h
  obtain ⟨-, k2, k3, k4, k5, k6⟩ := h'
  rcases Nat.lt_trichotomy j j' with z | z | z
  · have := h6 j' z (by omega)
    omega
  · exact z
  · have := k6 j z (by omega)
    omega
theorem mt_nest {W : Nat → Wd} {m j c j' c' : Nat} (h : mt W m j c) (h' : mt W m j' c') (hj : j' < j) : c' < j ∨ c < c' := by
  by_cases z : c' < j
  · exact Or.inl z
  · right
    refine Nat.lt_of_not_le (fun y => ?_)
    by_cases e : c' = c
    · rw [e] at h'
      have := mt_j h h'
      omega
    · obtain ⟨h1, h2, h3, h4, h5, h6⟩ := h
      obtain ⟨k1, k2, k3, k4, k5, k6⟩ := h'
      have ne : j ≠ c' := fun y => by rw [y] at h1; omega
      have := k6 j hj (by omega)
      have := h6 (c' + 1) (by omega) (by omega)
      omega
theorem mt_kind {W : Nat → Wd} {m j c j' c' : Nat} (h : mt W m j c) (h' : mt W m j' c') : j ≠ c' := fun y => by
  have h1 := h.1
  have h2 := h'.2.2.2.1
  rw [y] at h1
  omega
/-- only brackets of operands, and both of them -/
def HG (W : Nat → Wd) (m J : Nat) (g : Nat → Bool) : Prop := ∀ k, g k = true → ∃ j c, j < J ∧ prd W m j c ∧ (k = j ∨ k = c) ∧ g j = true ∧ g c = true
section HGS
variable {W : Nat → Wd} {m J : Nat} {g : Nat → Bool} {P : Nat → Nat} {G : (Nat → Bool) → Prop}
theorem bF {x : Bool} (h : ¬ x = true) : x = false := by
  cases x with
  | false => rfl
  | true => exact absurd rfl h
theorem HG_k {k : Nat} (h : HG W m J g) (hk : (W k).1 ≠ 4 ∧ (W k).1 ≠ 5) : g k = false := bF (fun y => by
  obtain ⟨j, c, -, h1, h2 | h2, -⟩ := h k y
  · rw [h2] at hk
    exact hk.1 h1.1.1
  · rw [h2] at hk
    exact hk.2 h1.2.2.2.1)
theorem HG_o {k c : Nat} (h : HG W m J g) (hk : mt W m k c) (ho : ¬ opn W k) : g k = false ∧ g c = false := by
  refine ⟨bF (fun y => ?_), bF (fun y => ?_)⟩
  · obtain ⟨j, c', -, h1, h2 | h2, -⟩ := h k y
    · rw [h2] at ho
      exact ho h1.1
    · exact mt_kind hk (prd_mt h1) h2
  · obtain ⟨j, c', -, h1, h2 | h2, -⟩ := h c y
    · exact mt_kind (prd_mt h1) hk h2.symm
    · rw [← h2] at h1
      rw [mt_j hk (prd_mt h1)] at ho
      exact ho h1.1
theorem HG_p {j c : Nat} (h : HG W m J g) (hp : prd W m j c) : g j = g c := by
  cases e : g j with
  | true =>
    obtain ⟨j', c', -, h1, h2 | h2, h3, h4⟩ := h j e
    · rw [← h2] at h1
      rw [mt_c (prd_mt hp) (prd_mt h1)]
      exact h4.symm
    · exact absurd h2 (mt_kind (prd_mt hp) (prd_mt h1))
  | false =>
    refine (bF (fun y => ?_)).symm
    obtain ⟨j', c', -, h1, h2 | h2, h3, h4⟩ := h c y
    · exact absurd h2.symm (mt_kind (prd_mt h1) (prd_mt hp))
    · rw [← h2] at h1
      rw [mt_j (prd_mt hp) (prd_mt h1), h3] at e
      cases e
theorem HG_new {c : Nat} (h : HG W m J g) (hp : prd W m J c) : g J = false ∧ g c = false := by
  have e : g J = false := bF (fun y => by
    obtain ⟨j', c', h0, h1, h2 | h2, h3, h4⟩ := h J y
    · omega
    · exact mt_kind (prd_mt hp) (prd_mt h1) h2)
  exact ⟨e, by rw [← HG_p h hp]; exact e⟩
/-- what lies within brackets that nobody has yet looked at -/
theorem HG_in {c k : Nat} (h : HG W m J g) (hp : mt W m J c) (h1 : J ≤ k) (h2 : k ≤ c) : g k = false := bF (fun y => by
  obtain ⟨j', c', h0, hq, e | e, h3, h4⟩ := h k y
  · omega
  · rcases mt_nest hp (prd_mt hq) h0 with z | z <;> omega)
theorem hs_same {j c : Nat} (h1 : g j = false) (h2 : g c = false) : hs j c false g = g := by
  funext k
  unfold hs
  by_cases z : k = j ∨ k = c
  · rw [if_pos z]
    rcases z with e | e
    · rw [e, h1]
    · rw [e, h2]
  · rw [if_neg z]
theorem HG_hdn (hP : ∀ j, j < m → (P j = 0 ∧ ¬ opn W j) ∨ prd W m j (P j)) (hG : G (fun _ => false)) : ∀ J, J ≤ m → HG W m J (hdn G P J) ∧ G (hdn G P J) := by
  intro J
  induction J with
  | zero => intro _; exact ⟨fun k y => absurd (show false = true from y) (by first | decide | omega), hG⟩
  | succ J ih =>
    intro hJ
    obtain ⟨h1, h2⟩ := ih (by omega)
    show HG W m (J + 1) (stp G P J (hdn G P J)) ∧ G (stp G P J (hdn G P J))
    generalize hdn G P J = g at *
    have up : HG W m (J + 1) g := fun k y => by
      obtain ⟨j, c, z, w⟩ := h1 k y
      exact ⟨j, c, by omega, w⟩
    unfold stp
    rcases hP J (by omega) with ⟨p0, p1⟩ | pp
    · rw [if_pos p0]
      exact ⟨up, h2⟩
    · rw [if_neg (show ¬ P J = 0 by have := pp.2.1; omega)]
      by_cases z : G (hs J (P J) true g)
      · rw [if_pos z]
        refine ⟨fun k y => ?_, z⟩
        unfold hs at y ⊢
        by_cases w : k = J ∨ k = P J
        · exact ⟨J, P J, by omega, pp, w, by rw [if_pos (Or.inl rfl)], by rw [if_pos (Or.inr rfl)]⟩
        · rw [if_neg w] at y
          obtain ⟨j, c, q1, q2, q3, q4, q5⟩ := h1 k y
          exact ⟨j, c, by omega, q2, q3, by rw [q4]; exact ite_self _, by rw [q5]; exact ite_self _⟩
      · obtain ⟨e1, e2⟩ := HG_new h1 pp
        rw [if_neg z, hs_same e1 e2]
        exact ⟨up, h2⟩
/-- what was decided stays -/
theorem hdn_stays (hP : ∀ j, j < m → (P j = 0 ∧ ¬ opn W j) ∨ prd W m j (P j)) {j : Nat} (ho : opn W j) : ∀ d, j + 1 + d ≤ m → hdn G P (j + 1 + d) j = hdn G P (j + 1) j := by
  intro d
  induction d with
  | zero => intro _; rfl
  | succ d ih =>
    intro hd
    rw [← ih (by omega), show j + 1 + (d + 1) = j + 1 + d + 1 by omega]
    show stp G P (j + 1 + d) (hdn G P (j + 1 + d)) j = _
    generalize hdn G P (j + 1 + d) = g at *
    unfold stp
    rcases hP (j + 1 + d) (by omega) with ⟨p0, p1⟩ | pp
    · rw [if_pos p0]
    · rw [if_neg (show ¬ P (j + 1 + d) = 0 by have := pp.2.1; omega)]
      have ne : ¬ (j = j + 1 + d ∨ j = P (j + 1 + d)) := by
        rintro (y | y)
        · omega
        · have h5 := pp.2.2.2.1
          rw [← y] at h5
          have := ho.1
          omega
      by_cases z : G (hs (j + 1 + d) (P (j + 1 + d)) true g)
      · rw [if_pos z]
        exact if_neg ne
      · rw [if_neg z]
        exact if_neg ne
end HGS
/-! with no word hidden, and with those hidden that may be -/
section D0
variable {b : GB} {n : Nat} {nd : Nat → Nd} {sp : Nat → Nat}
theorem good0 (hO : TbOK b) (h : WT n (aro nd) sp) (h200 : n ≤ 200) (hn : ∀ i, i < n → NV b (nd i)) : GoodW b (wF (spl nd sp 200 0 S0).1) (spl nd sp 200 0 S0).1.length n nd sp (fun _ => false) := by
  have s0 := h.2.2.1
  obtain ⟨X, o, L', e1, e2, e3, e4, e5, -⟩ := (runF (T := spl nd sp 200 0 S0) (g := fun _ => false) hO h hn 200 0 h.1 (by omega) S0 (Suf_rfl _) (fun _ _ _ => rfl) (fun w l e => by
    unfold vw at e
    rw [Nat.sub_self] at e
    cases e)).1 [] [] [] (fun h t e => by cases e)
  have ev : vw (spl nd sp 200 0 S0) (fun _ => false) (spl nd sp 200 0 S0).1.length = [] := by
    unfold vw
    rw [Nat.sub_self]
    rfl
  rw [ev] at e1
  have e6 := run_eqr (b := b) (ws := []) (by first | decide | omega) (fun w l e => by cases e) e2
  refine ⟨L', ?_, ?_, fun x hx => ?_⟩
  · show acc (run b (vw (spl nd sp 200 0 S0) (fun _ => false) 0) st0) = _
    rw [show st0 = (([], [], [], true) : PS) from rfl]
    exact e1.trans e6
  · rw [e3, s0]
    exact (Nat.zero_add n).symm
  · have ex := e5 x (Nat.zero_le _) (by omega)
    have p0 := pl_0 h
    have n0 := h.1
    have ee : ([] : List Ln).length + (pl sp x + sp 0 - (pl sp 0 + 1)) = pl sp x := by
      show 0 + _ = _
      omega
    rw [ee] at ex
    exact ex.symm
end D0
