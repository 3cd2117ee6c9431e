/-! what a tree is worth: bounds of all nodes -/
section EVP
variable {b : GB} {n : GN} {f : GF} {s : GS} {rec : Rc} {F nn : Nat} {nd : Nat → Nd} {sp : Nat → Nat}
theorem evC_RO (hr : RcO b F rec) (ht : TrO b nn nd sp) {i : Nat} (hi : i < nn) {ch : Ch} (hc : ChO ch) {c d : Nat} (hd : d ≤ 12) (hF : sp i + 31 * (12 - d) ≤ F + 1) : RO c (evC rec nd sp i ch c d) := by
  unfold evC
  by_cases q : 200 ≤ c
  · rw [if_pos q]; exact ⟨by decide, by decide⟩
  rw [if_neg q]
  by_cases u : aro nd i ≠ 3
  · rw [if_pos u]; exact ⟨by decide, by decide⟩
  rw [if_neg u]
  obtain ⟨a1, a2, a3⟩ := kid_sp ht.1 hi (show 0 < aro nd i by omega)
  have h1 := hr nn nd sp (kid sp i 0) ch (c + 1) d ht a1 hc hd (by omega)
  cases e : rec nd sp (kid sp i 0) ch (c + 1) d with
  | inl e1 => rw [e] at h1; exact h1
  | inr r =>
    obtain ⟨v, c1⟩ := r
    rw [e] at h1
    obtain ⟨g1, g2, g3⟩ := h1
    dsimp only
    have hk : (if v.1 = 0 then 2 else 1) < aro nd i := by split <;> omega
    generalize (if v.1 = 0 then 2 else 1) = k at *
    obtain ⟨b1, b2, b3⟩ := kid_sp ht.1 hi hk
    have h2 := hr nn nd sp (kid sp i k) ch c1 d ht b1 hc hd (by omega)
    cases e2 : rec nd sp (kid sp i k) ch c1 d with
    | inl e3 => rw [e2] at h2; exact h2
    | inr r2 =>
      obtain ⟨v2, c2⟩ := r2
      rw [e2] at h2
      obtain ⟨l1, l2, l3⟩ := h2
      exact ⟨by omega, l2, l3⟩
theorem evL_RO (hr : RcO b F rec) (ht : TrO b nn nd sp) {i : Nat} (hi : i < nn) (h4 : aro nd i = 4) {ch : Ch} (hc : ChO ch) {nm d : Nat} {lo : Int} (hd : d ≤ 12) (hF : sp i + 31 * (12 - d) ≤ F + 1) (hlo : lo.natAbs < 2 ^ 200) : ∀ j, (∀ k : Nat, k < j → (lo + k).natAbs < 2 ^ 200) → ∀ c, match evL rec nd sp i ch nm lo d j c with
    | .inl e => 1 ≤ e ∧ e ≤ 10
    | .inr (v, c') => c + j ≤ c' ∧ (c' = c ∨ c' ≤ 200) ∧ Gd v := by
  intro j
  induction j with
  | zero => intro _ c; exact ⟨Nat.le_refl _, Or.inl rfl, Gd_n (m := 0) (by first | decide | omega)⟩
  | succ j ih =>
    intro hj c
    have h1 := ih (fun k hk => hj k (by omega)) c
    rw [evL_c]
    cases e : evL rec nd sp i ch nm lo d j c with
    | inl e1 => rw [e] at h1; exact h1
    | inr r =>
      obtain ⟨t, c1⟩ := r
      rw [e] at h1
      obtain ⟨g1, g2, g3⟩ := h1
      dsimp only
      obtain ⟨a1, a2, a3⟩ := kid_sp ht.1 hi (show 3 < aro nd i by omega)
      have hc2 : ChO ((nm, [(lo + j, 1)]) :: ch) := fun x hx v hv => by
        rcases List.mem_cons.mp hx with y | y
        · rw [y] at hv
          have := List.mem_singleton.mp hv
          rw [this]
          exact ⟨hj j (Nat.lt_succ_self j), (by decide : 0 < 1), (by decide : 1 < 2 ^ 200), Nat.gcd_one_right _⟩
        · exact hc x y v hv
      have h2 := hr nn nd sp (kid sp i 3) ((nm, [(lo + j, 1)]) :: ch) c1 d ht a1 hc2 hd (by omega)
      cases e2 : rec nd sp (kid sp i 3) ((nm, [(lo + j, 1)]) :: ch) c1 d with
      | inl e3 => rw [e2] at h2; exact h2
      | inr r2 =>
        obtain ⟨v, c2⟩ := r2
        rw [e2] at h2
        obtain ⟨l1, l2, l3⟩ := h2
        have h3 := q2_QO (m := 0) g3 l3
        dsimp only
        cases e3 : q2 0 t v with
        | inl e4 => rw [e3] at h3; exact h3
        | inr w =>
          rw [e3] at h3
          exact ⟨by omega, Or.inr l2, h3⟩
theorem sum_rng {lo hi : Int} (h1 : lo.natAbs < 2 ^ 200) (h2 : hi.natAbs < 2 ^ 200) : ∀ k : Nat, k < (hi - lo + 1).toNat → (lo + k).natAbs < 2 ^ 200 := by
  intro k hk
  have : (k : Int) ≤ hi - lo := by omega
  omega
theorem evS_RO (hr : RcO b F rec) (ht : TrO b nn nd sp) {i : Nat} (hi : i < nn) {ch : Ch} (hc : ChO ch) {c d : Nat} (hd : d ≤ 12) (hF : sp i + 31 * (12 - d) ≤ F + 1) : RO c (evS rec nd sp i ch c d) := by
  unfold evS
  by_cases q : 200 ≤ c
  · rw [if_pos q]; exact ⟨by decide, by decide⟩
  rw [if_neg q]
  by_cases u : aro nd i ≠ 4
  · rw [if_pos u]; exact ⟨by decide, by decide⟩
  rw [if_neg u]
  have u4 : aro nd i = 4 := by omega
  by_cases w : (nd (kid sp i 0)).1 ≠ 1
  · rw [if_pos w]; exact ⟨by decide, by decide⟩
  rw [if_neg w]
  obtain ⟨a1, a2, a3⟩ := kid_sp ht.1 hi (show 1 < aro nd i by omega)
  have h1 := hr nn nd sp (kid sp i 1) ch (c + 1) d ht a1 hc hd (by omega)
  cases e : rec nd sp (kid sp i 1) ch (c + 1) d with
  | inl e1 => rw [e] at h1; exact h1
  | inr r =>
    obtain ⟨lo, c1⟩ := r
    rw [e] at h1
    obtain ⟨g1, g2, g3⟩ := h1
    dsimp only
    obtain ⟨b1, b2, b3⟩ := kid_sp ht.1 hi (show 2 < aro nd i by omega)
    have h2 := hr nn nd sp (kid sp i 2) ch c1 d ht b1 hc hd (by omega)
    cases e2 : rec nd sp (kid sp i 2) ch c1 d with
    | inl e3 => rw [e2] at h2; exact h2
    | inr r2 =>
      obtain ⟨hh, c2⟩ := r2
      rw [e2] at h2
      obtain ⟨l1, l2, l3⟩ := h2
      dsimp only
      by_cases y1 : lo.2 ≠ 1 ∨ hh.2 ≠ 1
      · rw [if_pos y1]; exact ⟨by decide, by decide⟩
      rw [if_neg y1]
      by_cases y2 : 30 ≤ hh.1 - lo.1
      · rw [if_pos y2]; exact ⟨by decide, by decide⟩
      rw [if_neg y2]
      have h3 := evL_RO hr ht hi u4 hc (nm := vN (nd (kid sp i 0))) (lo := lo.1) hd hF g3.1 (hh.1 - lo.1 + 1).toNat (sum_rng g3.1 l3.1) c2
      cases e3 : evL rec nd sp i ch (vN (nd (kid sp i 0))) lo.1 d (hh.1 - lo.1 + 1).toNat c2 with
      | inl e4 => rw [e3] at h3; exact h3
      | inr r3 =>
        obtain ⟨v, c3⟩ := r3
        rw [e3] at h3
        obtain ⟨m1, m2, m3⟩ := h3
        exact ⟨by omega, by omega, m3⟩
theorem evN_RO (hE : EnvOK b n f s) (hr : RcO b F rec) : RcO b (F + 1) (evN rec b n f s) := by
  intro nn nd sp i ch c d ht hi hc hd hF
  unfold evN
  by_cases q1 : (nd i).1 = 2 ∧ vN (nd i) = 105
  · rw [if_pos q1]
    exact evC_RO hr ht hi hc hd hF
  rw [if_neg q1]
  by_cases q2 : (nd i).1 = 2 ∧ vN (nd i) = 115
  · rw [if_pos q2]
    exact evS_RO hr ht hi hc hd hF
  rw [if_neg q2]
  have h1 := evA_RO hr ht hi hc hd hF (aro nd i) (Nat.le_refl _) c
  have s1 := (ht.1.2.2.2 i hi).1
  cases e : evA rec nd sp i ch d (aro nd i) c with
  | inl e1 => rw [e] at h1; exact h1
  | inr r =>
    obtain ⟨vs, c1⟩ := r
    rw [e] at h1
    obtain ⟨g1, g2, g3, g4, g5⟩ := h1
    dsimp only
    have h2 := evG_RO hE hr (ht.2 i hi) hc g5 g1 (c := c1) hd (by omega)
    cases e2 : evG rec b n f s (nd i) ch vs c1 d with
    | inl e3 => rw [e2] at h2; exact h2
    | inr r2 =>
      obtain ⟨v, c2⟩ := r2
      rw [e2] at h2
      obtain ⟨l1, l2, l3⟩ := h2
      exact ⟨by omega, l2, l3⟩
theorem ev_RO (hE : EnvOK b n f s) : ∀ F, RcO b F (ev b n f s F) := by
  intro F
  induction F with
  | zero =>
    intro nn nd sp i ch c d ht hi hc hd hF
    have := (ht.1.2.2.2 i hi).1
    omega
  | succ F ih => exact evN_RO hE ih
end EVP
