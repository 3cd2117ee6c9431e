/-! what was printed is read back as the words that were not hidden -/
def lstW (W : Nat → Wd) (g : Nat → Bool) : Nat → List Wp
  | 0 => []
  | i + 1 => if g i = true then lstW W g i else (W i, (wdT W g i).length) :: lstW W g i
theorem lstW_c (W : Nat → Wd) (g : Nat → Bool) (i : Nat) : lstW W g (i + 1) = if g i = true then lstW W g i else (W i, (wdT W g i).length) :: lstW W g i := rfl
/-- words as they are spelled -/
def WSP (w : Wd) : Prop := (w.1 = 0 ∧ w.2 ≤ 999999999) ∨ (w.1 = 1 ∧ 97 ≤ w.2 ∧ w.2 ≤ 122) ∨ (w.1 = 3 ∧ w.2 < 16) ∨ w = (4, 40) ∨ w = (5, 41) ∨ w = (6, 44)
def adj : List Wi → Prop
  | [] => True
  | _ :: [] => True
  | w :: w' :: ws => (w.2.1 = 0 → w'.2.1 = 3 ∨ w'.2.1 = 5 ∨ w'.2.1 = 6) ∧ adj (w' :: ws)
theorem adj_t {w : Wi} {ws : List Wi} (h : adj (w :: ws)) : adj ws := by
  cases ws with
  | nil => trivial
  | cons w' ws => exact h.2
theorem run_adj {b : GB} : ∀ n (ws : List Wi) (st : PS), ws.length ≤ n → (acc (run b ws st)).isSome = true → adj ws := by
  intro n
  induction n with
  | zero =>
    intro ws st h _
    cases ws with
    | nil => trivial
    | cons w ws => exact absurd h (Nat.not_succ_le_zero _)
  | succ n ih =>
    intro ws st h hs
    cases ws with
    | nil => trivial
    | cons w ws =>
      rw [List.length_cons] at h
      obtain ⟨fin, hf⟩ := Option.isSome_iff_exists.mp hs
      cases ws with
      | nil => trivial
      | cons w' ws =>
        by_cases z : isCl w st (w' :: ws) = true
        · have a2 := acc_c hf z
          have z1 : w.2.1 = 1 ∧ w'.2.1 = 4 := by
            unfold isCl at z
            rw [Bool.and_eq_true, Bool.and_eq_true] at z
            exact ⟨beq_iff_eq.mp z.1.2, beq_iff_eq.mp z.2⟩
          have a3 : adj ws := ih ws _ (by rw [List.length_cons] at h; omega) (by rw [show acc (run b ws (stF w.2.2 st)) = some fin from a2]; rfl)
          refine ⟨fun y => by omega, ?_⟩
          cases ws with
          | nil => trivial
          | cons w'' ws => exact ⟨fun y => by omega, a3⟩
        · have z : isCl w st (w' :: ws) = false := by
            cases hh : isCl w st (w' :: ws) with
            | false => rfl
            | true => exact absurd hh z
          obtain ⟨st', e1, e2⟩ := acc_n hf z
          refine ⟨fun y => ?_, ih _ _ (by rw [List.length_cons] at h ⊢; omega) (by rw [e2]; rfl)⟩
          have w1 : st'.2.2.2 = false := by
            unfold stA at e1
            by_cases q : st.2.2.2 = true
            · rw [if_pos q] at e1
              unfold stO at e1
              rw [if_pos y] at e1
              rw [← Option.some.inj e1]
            · rw [if_neg q, if_neg (by omega), if_neg (by omega), if_neg (by omega)] at e1
              cases e1
          obtain ⟨st2, e3, -⟩ := acc_n e2 (isCl_f w1 _)
          unfold stA at e3
          rw [w1, if_neg (by first | decide | omega)] at e3
          by_cases y3 : w'.2.1 = 3
          · exact Or.inl y3
          by_cases y5 : w'.2.1 = 5
          · exact Or.inr (Or.inl y5)
          by_cases y6 : w'.2.1 = 6
          · exact Or.inr (Or.inr y6)
          rw [if_neg y3, if_neg y5, if_neg y6] at e3
          cases e3
/-- digits as they stand -/
theorem dpr_dig (v : Nat) : ∀ j f l, j + 2 ≤ f → (dpr v f (10 ^ j) l).length = l.length + (j + 1) ∧ (∀ k, k < l.length → tF (dpr v f (10 ^ j) l) k = tF l k) ∧ ∀ k, k ≤ j → tF (dpr v f (10 ^ j) l) (l.length + k) = 48 + v / 10 ^ (j - k) % 10 := by
  intro j
  induction j with
  | zero =>
    intro f l hf
    obtain ⟨f, rfl⟩ : ∃ f', f = f' + 1 := ⟨f - 1, by omega⟩
    rw [dpr_c, if_neg (by first | decide | omega), show 10 ^ 0 / 10 = 0 by decide, dpr_z]
    refine ⟨rfl, fun k hk => tF_n hk, fun k hk => ?_⟩
    rw [show k = 0 by omega, Nat.add_zero, tF_s]
  | succ j ih =>
    intro f l hf
    obtain ⟨f, rfl⟩ : ∃ f', f = f' + 1 := ⟨f - 1, by omega⟩
    have p0 : (10 : Nat) ^ (j + 1) ≠ 0 := Nat.pos_iff_ne_zero.mp (Nat.pow_pos (by first | decide | omega))
    rw [dpr_c, if_neg p0, show (10 : Nat) ^ (j + 1) / 10 = 10 ^ j by rw [Nat.pow_succ]; exact Nat.mul_div_cancel _ (by first | decide | omega)]
    obtain ⟨h1, h2, h3⟩ := ih f ((48 + v / 10 ^ (j + 1) % 10) :: l) (by omega)
    rw [List.length_cons] at h1 h2 h3
    refine ⟨by omega, fun k hk => by rw [h2 k (by omega), tF_n hk], fun k hk => ?_⟩
    by_cases z : k = 0
    · subst z
      rw [h2 _ (by omega), show l.length + 0 = l.length from rfl, tF_s, Nat.sub_zero]
    · have := h3 (k - 1) (by omega)
      rw [show l.length + 1 + (k - 1) = l.length + k by omega, show j - (k - 1) = j + 1 - k by omega] at this
      exact this
theorem tpv_hi {v : Nat} : ∀ f k, v < 10 ^ (k + f) → 1 ≤ f → (k = 0 ∨ 10 ^ k ≤ v) → ∃ j, k ≤ j ∧ j < k + f ∧ tpv v f (10 ^ k) = 10 ^ j ∧ v < 10 ^ (j + 1) ∧ (j = 0 ∨ 10 ^ j ≤ v) := by
  intro f
  induction f with
  | zero => intro k _ h; omega
  | succ f ih =>
    intro k h1 h2 h3
    have p0 : 0 < (10 : Nat) ^ k := Nat.pow_pos (by first | decide | omega)
    rw [tpv_c]
    by_cases z : 10 ≤ v / 10 ^ k
    · have z2 : 10 ^ (k + 1) ≤ v := by
        rw [Nat.pow_succ, Nat.mul_comm]
        exact (Nat.le_div_iff_mul_le p0).mp z
      rw [if_pos z, ← Nat.pow_succ]
      by_cases w : f = 0
      · have h1 : v < 10 ^ (k + 1) := by
          rw [w] at h1
          exact h1
        omega
      obtain ⟨j, j1, j2, j3⟩ := ih (k + 1) (by rw [show k + 1 + f = k + (f + 1) by omega]; exact h1) (by omega) (Or.inr z2)
      exact ⟨j, by omega, by omega, j3⟩
    · rw [if_neg z]
      refine ⟨k, Nat.le_refl _, by omega, rfl, ?_, h3⟩
      rw [Nat.pow_succ, Nat.mul_comm]
      exact (Nat.div_lt_iff_lt_mul p0).mp (by omega)
theorem numT_dig {v : Nat} (hv : v ≤ 999999999) (l : List Nat) : ∃ j, j ≤ 8 ∧ v < 10 ^ (j + 1) ∧ (j = 0 ∨ 10 ^ j ≤ v) ∧ (numT v l).length = l.length + (j + 1) ∧ (∀ k, k < l.length → tF (numT v l) k = tF l k) ∧ ∀ k, k ≤ j → tF (numT v l) (l.length + k) = 48 + v / 10 ^ (j - k) % 10 := by
  obtain ⟨j, -, j2, j3, j4, j5⟩ := tpv_hi (v := v) 9 0 (by omega) (by first | decide | omega) (Or.inl rfl)
  have j3 : tpv v 9 1 = 10 ^ j := j3
  unfold numT
  rw [j3]
  exact ⟨j, by omega, j4, j5, dpr_dig v j 10 l (by omega)⟩
theorem wdC_k {w : Wd} {l : List Nat} {k : Nat} (hw : WSP w) (hk : k < l.length) : tF (wdC w l) k = tF l k := by
  unfold wdC
  by_cases z : w.1 = 0
  · rw [if_pos z]
    rcases hw with y | y | y | y | y | y
    · obtain ⟨j, -, -, -, -, h, -⟩ := numT_dig y.2 l
      exact h k hk
    · omega
    · omega
    · rw [y] at z; cases z
    · rw [y] at z; cases z
    · rw [y] at z; cases z
  · rw [if_neg z, tF_n hk]
theorem wdC_pos {w : Wd} {l : List Nat} (hw : WSP w) : l.length < (wdC w l).length := by
  unfold wdC
  by_cases z : w.1 = 0
  · rw [if_pos z]
    rcases hw with y | y | y | y | y | y
    · obtain ⟨j, -, -, -, h, -⟩ := numT_dig y.2 l
      omega
    · omega
    · omega
    · rw [y] at z; cases z
    · rw [y] at z; cases z
    · rw [y] at z; cases z
  · rw [if_neg z, List.length_cons]
    omega
section RLX
variable {W : Nat → Wd} {g : Nat → Bool} {m : Nat}
theorem wdT_k (hW : ∀ i, i < m → WSP (W i)) : ∀ d i, i + d ≤ m → (wdT W g i).length ≤ (wdT W g (i + d)).length ∧ ∀ k, k < (wdT W g i).length → tF (wdT W g (i + d)) k = tF (wdT W g i) k := by
  intro d
  induction d with
  | zero => intro i _; exact ⟨Nat.le_refl _, fun k _ => rfl⟩
  | succ d ih =>
    intro i hi
    obtain ⟨h1, h2⟩ := ih i (by omega)
    rw [show i + (d + 1) = i + d + 1 by omega, wdT_c]
    by_cases z : g (i + d) = true
    · rw [if_pos z]
      exact ⟨h1, h2⟩
    · rw [if_neg z]
      have := wdC_pos (l := wdT W g (i + d)) (hW (i + d) (by omega))
      exact ⟨by omega, fun k hk => by rw [wdC_k (hW (i + d) (by omega)) (by omega), h2 k hk]⟩
/-- the first character of the next word -/
theorem next_ch (hW : ∀ i, i < m → WSP (W i)) : ∀ d i, i + d = m → adj (vis W g d i) → (∀ w l, vis W g d i = w :: l → w.2.1 = 3 ∨ w.2.1 = 5 ∨ w.2.1 = 6) → (wdT W g m).length = (wdT W g i).length ∨ ((wdT W g i).length < (wdT W g m).length ∧ 10 ≤ dgt (tF (wdT W g m) (wdT W g i).length) ∧ tF (wdT W g m) (wdT W g i).length ≠ 120 ∧ tF (wdT W g m) (wdT W g i).length ≠ 111 ∧ tF (wdT W g m) (wdT W g i).length ≠ 98) := by
  intro d
  induction d with
  | zero =>
    intro i hi _ _
    left
    rw [show i = m by omega]
  | succ d ih =>
    intro i hi ha hn
    by_cases z : g i = true
    · rw [vis_c, if_pos z] at ha hn
      have := ih (i + 1) (by omega) ha hn
      rw [wdT_c, if_pos z] at this
      exact this
    · rw [vis_c, if_neg z] at hn
      have hk := hn _ _ rfl
      have hk : (W i).1 = 3 ∨ (W i).1 = 5 ∨ (W i).1 = 6 := hk
      right
      have e1 : wdT W g (i + 1) = wvN (W i) :: wdT W g i := by
        rw [wdT_c, if_neg z]
        unfold wdC
        rw [if_neg (by omega)]
      obtain ⟨h1, h2⟩ := wdT_k (g := g) hW d (i + 1) (by omega)
      rw [show i + 1 + d = m by omega, e1, List.length_cons] at h1 h2
      have e2 := h2 (wdT W g i).length (by omega)
      rw [tF_s] at e2
      rw [e2]
      have bad : ∀ p, p < 16 → 10 ≤ dgt (sgc p) ∧ sgc p ≠ 120 ∧ sgc p ≠ 111 ∧ sgc p ≠ 98 := by decide
      refine ⟨by omega, ?_⟩
      unfold wvN
      rcases hW i (by omega) with y | y | y | y | y | y
      · omega
      · omega
      · rw [if_pos y.1]
        exact bad _ y.2
      · rw [y] at hk
        exact absurd hk (by first | decide | omega)
      · rw [y]
        decide
      · rw [y]
        decide
theorem numE_run {c : Nat → Nat} {lim v j p : Nat} (hc : ∀ k, k ≤ j → c (p + k) = 48 + v / 10 ^ (j - k) % 10) (hl : p + j < lim) (he : j = 8 ∨ lim ≤ p + (j + 1) ∨ 10 ≤ dgt (c (p + (j + 1)))) : ∀ d k, k + d = j + 1 → ∀ f, d + (8 - j) ≤ f → f = d + (8 - j) → j ≤ 8 → numE c lim 10 f (p + k) (v / 10 ^ (j + 1 - k)) = (p + (j + 1), v) := by
  intro d
  induction d with
  | zero =>
    intro k hk f h1 h2 h3
    have hk : k = j + 1 := by omega
    subst hk
    rw [Nat.sub_self, Nat.pow_zero, Nat.div_one]
    cases f with
    | zero => rfl
    | succ f =>
      rw [numE_c, if_neg]
      rintro ⟨y1, y2⟩
      omega
  | succ d ih =>
    intro k hk f h1 h2 h3
    obtain ⟨f, rfl⟩ : ∃ f', f = f' + 1 := ⟨f - 1, by omega⟩
    have hd : dgt (c (p + k)) = v / 10 ^ (j - k) % 10 := by
      rw [hc k (by omega)]
      have := Nat.mod_lt (v / 10 ^ (j - k)) (show 0 < 10 by decide)
      unfold dgt
      rw [if_pos ⟨by omega, by omega⟩]
      omega
    have lt := Nat.mod_lt (v / 10 ^ (j - k)) (show 0 < 10 by decide)
    rw [numE_c, hd, if_pos ⟨by omega, lt⟩]
    have e : 10 * (v / 10 ^ (j + 1 - k)) + v / 10 ^ (j - k) % 10 = v / 10 ^ (j + 1 - (k + 1)) := by
      rw [show j + 1 - k = j - k + 1 by omega, show j + 1 - (k + 1) = j - k by omega, Nat.pow_succ, ← Nat.div_div_eq_div_mul]
      omega
    rw [e, Nat.add_assoc]
    exact ih (k + 1) (by omega) f (by omega) (by omega) h3
theorem relex (hW : ∀ i, i < m → WSP (W i)) : ∀ d i, i + d = m → adj (vis W g d i) → ∀ f, (wdT W g m).length ≤ (wdT W g i).length + f → lexS (tF (wdT W g m)) (wdT W g m).length f (wdT W g i).length (lstW W g i) = lstW W g m := by
  intro d
  induction d with
  | zero =>
    intro i hi _ f hf
    have hi : i = m := by omega
    subst hi
    cases f with
    | zero => rfl
    | succ f => rw [lexS_c, if_pos (Nat.le_refl _)]
  | succ d ih =>
    intro i hi ha f hf
    by_cases z : g i = true
    · have e := ih (i + 1) (by omega) (by rw [vis_c, if_pos z] at ha; exact ha) f
      rw [wdT_c, if_pos z, lstW_c, if_pos z] at e
      exact e hf
    rw [vis_c, if_neg z] at ha
    have hw := hW i (by omega)
    have e1 : wdT W g (i + 1) = wdC (W i) (wdT W g i) := by rw [wdT_c, if_neg z]
    have e2 : lstW W g (i + 1) = (W i, (wdT W g i).length) :: lstW W g i := by rw [lstW_c, if_neg z]
    obtain ⟨h1, h2⟩ := wdT_k (g := g) hW d (i + 1) (by omega)
    rw [show i + 1 + d = m by omega, e1] at h1 h2
    have lt := wdC_pos (l := wdT W g i) hw
    have ih2 := fun f => ih (i + 1) (by omega) (adj_t ha) f
    rw [e1, e2] at ih2
    obtain ⟨f, rfl⟩ : ∃ f', f = f' + 1 := ⟨f - 1, by omega⟩
    rw [lexS_c, if_neg (by omega)]
    by_cases z0 : (W i).1 = 0
    · have hv : (W i).2 ≤ 999999999 := by
        rcases hw with y | y | y | y | y | y
        · exact y.2
        · omega
        · omega
        · rw [y] at z0; cases z0
        · rw [y] at z0; cases z0
        · rw [y] at z0; cases z0
      obtain ⟨j, j1, j2, j3, j4, j5, j6⟩ := numT_dig hv (wdT W g i)
      have ec : wdC (W i) (wdT W g i) = numT (W i).2 (wdT W g i) := if_pos z0
      rw [ec] at h1 h2 ih2 e1
      have hc : ∀ k, k ≤ j → tF (wdT W g m) ((wdT W g i).length + k) = 48 + (W i).2 / 10 ^ (j - k) % 10 := fun k hk => by rw [h2 _ (by omega), j6 k hk]
      -- what stands behind it
      have hn := next_ch (g := g) hW d (i + 1) (by omega) (adj_t ha) (fun w l e => by
        rw [e] at ha
        exact ha.1 z0)
      rw [e1, j4] at hn
      generalize hp : (wdT W g i).length = p at *
      generalize hT : wdT W g m = T at *
      have c0 := hc 0 (Nat.zero_le _)
      rw [Nat.add_zero, Nat.sub_zero] at c0
      have m0 := Nat.mod_lt ((W i).2 / 10 ^ j) (show 0 < 10 by decide)
      have eb : bas (tF T) T.length p = 10 := by
        unfold bas
        by_cases y : tF T p = 48 ∧ p + 1 < T.length
        · have z9 : j = 0 := by
            rcases j3 with w | w
            · exact w
            · have p0 : 0 < (10 : Nat) ^ j := Nat.pow_pos (by first | decide | omega)
              have q1 : 1 ≤ (W i).2 / 10 ^ j := (Nat.le_div_iff_mul_le p0).mpr (by omega)
              have q2 : (W i).2 / 10 ^ j < 10 := (Nat.div_lt_iff_lt_mul p0).mpr (by rw [Nat.mul_comm, ← Nat.pow_succ]; exact j2)
              rw [Nat.mod_eq_of_lt q2] at c0
              omega
          subst z9
          rcases hn with w | ⟨w1, -, w2, w3, w4⟩
          · omega
          · have w2 : tF T (p + 1) ≠ 120 := w2
            have w3 : tF T (p + 1) ≠ 111 := w3
            have w4 : tF T (p + 1) ≠ 98 := w4
            rw [if_pos y, if_neg w2, if_neg w3, if_neg w4]
        · rw [if_neg y]
      have en : numE (tF T) (nL 10 p T.length) 10 9 p 0 = (p + (j + 1), (W i).2) := by
        have nl : nL 10 p T.length = min T.length (p + 9) := rfl
        have := numE_run (c := tF T) (lim := nL 10 p T.length) (v := (W i).2) (j := j) (p := p) hc (by rw [nl]; omega) (by
          rw [nl]
          rcases hn with w | w
          · right; left; omega
          · right; right; exact w.2.1) (j + 1) 0 (by omega) 9 (by omega) (by omega) j1
        rw [Nat.add_zero, Nat.sub_zero, Nat.div_eq_of_lt j2] at this
        exact this
      rw [if_neg (by omega), if_pos ⟨by omega, by omega⟩, eb, show nF 10 p = p from rfl, en, if_neg (by show ¬ p + (j + 1) = p; omega)]
      have ew : ((0, (W i).2), p) = (W i, p) := by
        rw [← z0]
      dsimp only
      rw [ew]
      have := ih2 f
      rw [j4] at this
      exact this (by omega)
    · have ec : wdC (W i) (wdT W g i) = wvN (W i) :: wdT W g i := if_neg z0
      rw [ec, List.length_cons] at h1 h2 ih2
      have hc := h2 (wdT W g i).length (by omega)
      rw [tF_s] at hc
      have key : wvN (W i) ≠ 32 ∧ ¬ (48 ≤ wvN (W i) ∧ wvN (W i) ≤ 57) ∧ otk (wvN (W i)) = W i ∧ (W i).1 ≠ 8 := by
        have sg : ∀ p, p < 16 → sgc p ≠ 32 ∧ ¬ (48 ≤ sgc p ∧ sgc p ≤ 57) ∧ otk (sgc p) = (3, p) := by decide
        unfold wvN
        rcases hw with y | y | y | y | y | y
        · exact absurd y.1 z0
        · rw [if_neg (by omega)]
          refine ⟨by omega, by omega, ?_, by omega⟩
          unfold otk
          rw [if_pos y.2, ← y.1]
        · rw [if_pos y.1]
          obtain ⟨s1, s2, s3⟩ := sg _ y.2
          exact ⟨s1, s2, by rw [s3, ← y.1], by omega⟩
        · rw [y]
          exact ⟨by decide, by decide, rfl, by decide⟩
        · rw [y]
          exact ⟨by decide, by decide, rfl, by decide⟩
        · rw [y]
          exact ⟨by decide, by decide, rfl, by decide⟩
      rw [hc, if_neg key.1, if_neg key.2.1, key.2.2.1, if_neg key.2.2.2]
      exact ih2 f (by omega)
end RLX
