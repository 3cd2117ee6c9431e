/-! a pair of brackets and the node within it; reading with words hidden and with none hidden, word by word -/
section LKN
variable {b : GB} {T : SW} {g : Nat → Bool} {n : Nat} {nd : Nat → Nd} {sp : Nat → Nat}
def LkP (nd : Nat → Nd) (sp : Nat → Nat) (n : Nat) (T : SW) (j : Nat) : Prop := ∃ f y S1, y < n ∧ sp y ≤ f ∧ (nd y).1 = 3 ∧ hdN S1 ∧ Suf (clw S1.1.length (spl nd sp f y (adw (4, 40) S1))) T ∧ S1.1.length = j
theorem wrd4 {w : Wd} {S : SW} (hT : Suf (adw w S) T) (hw : w.1 ≠ 4) (ho : opn (wF T.1) S.1.length) : False := by
  obtain ⟨-, e⟩ := at_w hT
  have := ho.1
  rw [e] at this
  exact hw this
theorem lnk (h : WT n (aro nd) sp) (hn : ∀ i, i < n → NV b (nd i)) : ∀ f i, i < n → sp i ≤ f → ∀ S, hdN S → Suf (spl nd sp f i S) T → ∀ j, S.1.length ≤ j → j < (spl nd sp f i S).1.length → opn (wF T.1) j → LkP nd sp n T j := by
  intro f
  induction f with
  | zero =>
    intro i hi hf
    have := (h.2.2.2 i hi).1
    omega
  | succ f ih =>
    intro i hi hf S hS hT j j1 j2 ho
    have opd : ∀ k, k < aro nd i → ∀ S, hdN S → Suf (spO (spl nd sp f) (nd i) (nd (kid sp i k)) (kid sp i k) S) T → ∀ j, S.1.length ≤ j → j < (spO (spl nd sp f) (nd i) (nd (kid sp i k)) (kid sp i k) S).1.length → opn (wF T.1) j → LkP nd sp n T j := by
      intro k hk S hS hT j j1 j2 ho
      obtain ⟨a1, a2, a3⟩ := kid_sp h hi hk
      unfold spO at hT j2
      by_cases q : (nd i).1 = 3 ∧ (nd (kid sp i k)).1 = 3
      · rw [if_pos q] at hT j2
        by_cases e : j = S.1.length
        · exact ⟨f, kid sp i k, S, a1, by omega, q.2, hS, hT, e.symm⟩
        · have u1 := Suf_tr (Suf_clw _ _) hT
          obtain ⟨m2, w2⟩ := at_c hT
          have l2 : (clw S.1.length (spl nd sp f (kid sp i k) (adw (4, 40) S))).1.length = (spl nd sp f (kid sp i k) (adw (4, 40) S)).1.length + 1 := rfl
          by_cases e2 : j = (spl nd sp f (kid sp i k) (adw (4, 40) S)).1.length
          · have := ho.1
            rw [e2, w2] at this
            cases this
          · exact ih _ a1 (by omega) _ (hdN_adw (by decide)) u1 j (by show S.1.length + 1 ≤ j; omega) (by omega) ho
      · rw [if_neg q] at hT j2
        exact ih _ a1 (by omega) S hS hT j j1 j2 ho
    have args : ∀ k, k ≤ aro nd i → ∀ S, hdN S → Suf (spA (spl nd sp f) nd sp i k S) T → ∀ j, S.1.length ≤ j → j < (spA (spl nd sp f) nd sp i k S).1.length → opn (wF T.1) j → LkP nd sp n T j := by
      intro k
      induction k with
      | zero =>
        intro _ S _ _ j j1 j2
        have j2 : j < S.1.length := j2
        omega
      | succ k ihk =>
        intro hk S hS hT j j1 j2 ho
        rw [spA_c] at hT j2
        have u1 := Suf_tr (spO_suf (x := nd i) (y := nd (kid sp i k)) (spl_suf f (kid sp i k)) (spI (nd i) k (spA (spl nd sp f) nd sp i k S))) hT
        have u0 := Suf_tr (spI_suf (nd i) k _) u1
        by_cases z : j < (spA (spl nd sp f) nd sp i k S).1.length
        · exact ihk (by omega) S hS u0 j j1 z ho
        · by_cases q : k = 0
          · subst q
            exact opd 0 (by omega) S hS hT j j1 j2 ho
          · have key : ∀ w : Wd, w.1 ≠ 4 → w.1 ≠ 1 → spI (nd i) k (spA (spl nd sp f) nd sp i k S) = adw w (spA (spl nd sp f) nd sp i k S) → LkP nd sp n T j := fun w w4 w1 e => by
              rw [e] at hT j2 u1
              by_cases e2 : j = (spA (spl nd sp f) nd sp i k S).1.length
              · rw [e2] at ho
                exact (wrd4 u1 w4 ho).elim
              · exact opd k (by omega) _ (hdN_adw w1) hT j (by show _ + 1 ≤ j; omega) j2 ho
            by_cases q2 : (nd i).1 = 2
            · exact key (6, 44) (by decide) (by decide) (by unfold spI; rw [if_neg q, if_pos q2])
            · exact key (sgw (nd i)) (by show (3 : Nat) ≠ 4; decide) (by show (3 : Nat) ≠ 1; decide) (by unfold spI; rw [if_neg q, if_neg q2])
    rw [spl_c] at hT j2
    have u1 := Suf_tr (spC_suf (nd i) _) hT
    have u0 := Suf_tr (spA_suf (spl_suf f) (aro nd i) (spB (nd i) S)) u1
    -- what begins the node
    have beg : j < (spB (nd i) S).1.length → LkP nd sp n T j := fun y => by
      have key : ∀ w : Wd, w.1 ≠ 4 → spB (nd i) S = adw w S → LkP nd sp n T j := fun w w4 e => by
        rw [e] at u0 y
        have y : j < S.1.length + 1 := y
        rw [show j = S.1.length by omega] at ho
        exact (wrd4 u0 w4 ho).elim
      by_cases q3 : (nd i).1 = 3
      · by_cases q0 : (nd i).2.2.1 = 0
        · exact key (sgw (nd i)) (by show (3 : Nat) ≠ 4; decide) (by unfold spB; rw [if_pos q3, if_pos q0])
        · have e : spB (nd i) S = S := by unfold spB; rw [if_pos q3, if_neg q0]
          rw [e] at y
          omega
      · by_cases q2 : (nd i).1 = 2
        · have e : spB (nd i) S = adw (4, 40) (adw (1, vN (nd i)) S) := by unfold spB; rw [if_neg q3, if_pos q2]
          rw [e] at y u0
          have y : j < S.1.length + 1 + 1 := y
          have u2 := Suf_tr (Suf_adw _ _) u0
          obtain ⟨-, w2⟩ := at_w u2
          by_cases e2 : j = S.1.length
          · rw [e2] at ho
            exact (wrd4 u2 (by show (1 : Nat) ≠ 4; decide) ho).elim
          · have e3 : j = S.1.length + 1 := by omega
            have := ho.2 (by omega)
            rw [e3, show S.1.length + 1 - 1 = S.1.length by omega, w2] at this
            exact absurd rfl this
        · refine key ((if (nd i).1 = 0 then 0 else 1), vN (nd i)) ?_ (by unfold spB; rw [if_neg q3, if_neg q2])
          show (if (nd i).1 = 0 then 0 else 1) ≠ 4
          split <;> decide
    by_cases z1 : j < (spB (nd i) S).1.length
    · exact beg z1
    by_cases z2 : j < (spA (spl nd sp f) nd sp i (aro nd i) (spB (nd i) S)).1.length
    · by_cases z0 : aro nd i = 0
      · rw [z0] at z2
        exact absurd z2 z1
      refine args _ (Nat.le_refl _) _ ?_ u1 j (by omega) z2 ho
      unfold spB
      by_cases q3 : (nd i).1 = 3
      · rw [if_pos q3]
        split
        · exact hdN_adw (by show (3 : Nat) ≠ 1; decide)
        · exact hS
      · rw [if_neg q3]
        by_cases q2 : (nd i).1 = 2
        · rw [if_pos q2]
          exact hdN_adw (by decide)
        · exfalso
          rcases hn i hi with y | y | y | y
          · exact z0 y.2.2.2
          · exact z0 y.2.2.2
          · exact q2 y.1
          · exact q3 y.1
    · have key : ∀ w : Wd, w.1 ≠ 4 → spC (nd i) (spA (spl nd sp f) nd sp i (aro nd i) (spB (nd i) S)) = adw w (spA (spl nd sp f) nd sp i (aro nd i) (spB (nd i) S)) → LkP nd sp n T j := fun w w4 e => by
        rw [e] at hT j2
        have j2 : j < (spA (spl nd sp f) nd sp i (aro nd i) (spB (nd i) S)).1.length + 1 := j2
        rw [show j = (spA (spl nd sp f) nd sp i (aro nd i) (spB (nd i) S)).1.length by omega] at ho
        exact (wrd4 hT w4 ho).elim
      have no : spC (nd i) (spA (spl nd sp f) nd sp i (aro nd i) (spB (nd i) S)) = (spA (spl nd sp f) nd sp i (aro nd i) (spB (nd i) S)) → LkP nd sp n T j := fun e => by
        rw [e] at j2
        exact absurd j2 z2
      by_cases q3 : (nd i).1 = 3
      · by_cases q1 : (nd i).2.2.1 = 1
        · exact key (sgw (nd i)) (by show (3 : Nat) ≠ 4; decide) (by unfold spC; rw [if_pos q3, if_pos q1])
        · exact no (by unfold spC; rw [if_pos q3, if_neg q1])
      · by_cases q2 : (nd i).1 = 2
        · exact key (5, 41) (by decide) (by unfold spC; rw [if_neg q3, if_pos q2])
        · exact no (by unfold spC; rw [if_neg q3, if_neg q2])
/-- what may be hidden: brackets that are not a call's -/
def Hh (W : Nat → Wd) (m : Nat) (g : Nat → Bool) : Prop := ∀ k, g k = true → k < m ∧ ((W k).1 = 5 ∨ opn W k)
theorem nx4 {W : Nat → Wd} {m : Nat} (hg : Hh W m g) (hA : ∀ i, i + 1 < m → (W i).1 = 5 → (W (i + 1)).1 ≠ 4) : ∀ d k, k + d = m → (k < m → (W k).1 ≠ 4) → ∀ w l, vis W g d k = w :: l → w.2.1 ≠ 4 := by
  intro d
  induction d with
  | zero => intro k _ _ w l e; cases e
  | succ d ih =>
    intro k hk h4 w l e
    rw [vis_c] at e
    by_cases z : g k = true
    · rw [if_pos z] at e
      refine ih (k + 1) (by omega) (fun y => ?_) w l e
      rcases (hg k z).2 with q | q
      · exact hA k y q
      · exact absurd q.1 (h4 (by omega))
    · rw [if_neg z] at e
      rw [← (List.cons.inj e).1]
      exact h4 (by omega)
def cln (W : Nat → Wd) (m k : Nat) : Prop := (W k).1 = 1 ∧ k + 1 < m ∧ (W (k + 1)).1 = 4
theorem cln_dec (W : Nat → Wd) (m k : Nat) : cln W m k ∨ ¬ cln W m k := Classical.em _
/-- one word further, with words hidden: the state, and how far -/
def NxP (b : GB) (W : Nat → Wd) (m : Nat) (g : Nat → Bool) (k : Nat) (X : PS) (k' : Nat) (X' : PS) : Prop := (g k = true ∧ k' = k + 1 ∧ X' = X) ∨ (g k = false ∧ cln W m k ∧ X.2.2.2 = true ∧ k' = k + 2 ∧ X' = stF (W k).2 X) ∨ (g k = false ∧ ¬ cln W m k ∧ k' = k + 1 ∧ stA b (W k) X = some X')
theorem Nx_run (hg : Hh (wF T.1) T.1.length g) (hA : ∀ i, i + 1 < T.1.length → (wF T.1 i).1 = 5 → (wF T.1 (i + 1)).1 ≠ 4) {k k' : Nat} {X X' : PS} (hk : k < T.1.length) (h : NxP b (wF T.1) T.1.length g k X k' X') : acc (run b (vw T g k) X) = acc (run b (vw T g k') X') := by
  rcases h with ⟨g1, rfl, rfl⟩ | ⟨g1, c, f1, rfl, rfl⟩ | ⟨g1, c, rfl, e⟩
  · rw [vw_h hk g1]
  · have g2 : g (k + 1) = false := bF (fun y => by
      rcases (hg _ y).2 with q | q
      · have := c.2.2
        rw [q] at this
        cases this
      · exact q.2 (by omega) c.1)
    rw [vw_c hk g1, vw_c c.2.1 g2, run_cons]
    have e : isCl (k, wF T.1 k) X ((k + 1, wF T.1 (k + 1)) :: vw T g (k + 1 + 1)) = true := by
      unfold isCl
      show (X.2.2.2 && (wF T.1 k).1 == 1 && (wF T.1 (k + 1)).1 == 4) = true
      rw [f1, c.1, c.2.2]
      rfl
    rw [e, if_pos rfl]
    rfl
  · rw [vw_c hk g1]
    refine acc_w ?_ e
    by_cases q : (wF T.1 k).1 = 1
    · have h4 : ∀ w l, vw T g (k + 1) = w :: l → w.2.1 ≠ 4 := nx4 hg hA (T.1.length - (k + 1)) (k + 1) (by omega) (fun y z => c ⟨q, y, z⟩)
      cases hv : vw T g (k + 1) with
      | nil => rfl
      | cons w l =>
        have := h4 w l hv
        unfold isCl
        have e2 : (w.2.1 == 4) = false := by
          cases hh : (w.2.1 == 4) with
          | false => rfl
          | true => exact absurd (beq_iff_eq.mp hh) this
        show (X.2.2.2 && (wF T.1 k).1 == 1 && w.2.1 == 4) = false
        rw [e2, Bool.and_false]
    · exact isCl_k q _
/-- where reading goes on to an end, there is a next state -/
theorem Nx_ex (hg : Hh (wF T.1) T.1.length g) (hA : ∀ i, i + 1 < T.1.length → (wF T.1 i).1 = 5 → (wF T.1 (i + 1)).1 ≠ 4) {k : Nat} {X : PS} {ln : List Ln} (hk : k < T.1.length) (e : acc (run b (vw T g k) X) = some ln) : ∃ k' X', NxP b (wF T.1) T.1.length g k X k' X' := by
  by_cases z : g k = true
  · exact ⟨_, _, Or.inl ⟨z, rfl, rfl⟩⟩
  have z := bF z
  rcases cln_dec (wF T.1) T.1.length k with c | c
  · by_cases f1 : X.2.2.2 = true
    · exact ⟨_, _, Or.inr (Or.inl ⟨z, c, f1, rfl, rfl⟩)⟩
    · rw [vw_c hk z] at e
      obtain ⟨X', e1, -⟩ := acc_n e (isCl_f (bF f1) _)
      exfalso
      have e1 : stA b (wF T.1 k) X = some X' := e1
      unfold stA at e1
      rw [if_neg f1, if_neg (by rw [c.1]; decide), if_neg (by rw [c.1]; decide), if_neg (by rw [c.1]; decide)] at e1
      cases e1
  · rw [vw_c hk z] at e
    have hc : isCl (k, wF T.1 k) X (vw T g (k + 1)) = false := by
      by_cases q : (wF T.1 k).1 = 1
      · have h4 : ∀ w l, vw T g (k + 1) = w :: l → w.2.1 ≠ 4 := nx4 hg hA (T.1.length - (k + 1)) (k + 1) (by omega) (fun y z => c ⟨q, y, z⟩)
        cases hv : vw T g (k + 1) with
        | nil => rfl
        | cons w l =>
          have := h4 w l hv
          unfold isCl
          have e2 : (w.2.1 == 4) = false := by
            cases hh : (w.2.1 == 4) with
            | false => rfl
            | true => exact absurd (beq_iff_eq.mp hh) this
          show (X.2.2.2 && (wF T.1 k).1 == 1 && w.2.1 == 4) = false
          rw [e2, Bool.and_false]
      · exact isCl_k q _
    obtain ⟨X', e1, -⟩ := acc_n e hc
    exact ⟨_, X', Or.inr (Or.inr ⟨z, c, rfl, e1⟩)⟩
/-- both readings, with words hidden and with none hidden, come to a bracket in a like state -/
theorem lock {g' : Nat → Bool} (hg : Hh (wF T.1) T.1.length g) (hg' : Hh (wF T.1) T.1.length g') (hA : ∀ i, i + 1 < T.1.length → (wF T.1 i).1 = 5 → (wF T.1 (i + 1)).1 ≠ 4) {j : Nat} (hj : j < T.1.length) (ho : opn (wF T.1) j) (hs : ∀ k, k < j → g' k = g k) {l l0 : List Ln} : ∀ d k, k + d = j → ((wF T.1 k).1 = 4 → opn (wF T.1) k) → ∀ X Y : PS, X.2.2.2 = Y.2.2.2 → lc (mF X.2.2.1) = lc (mF Y.2.2.1) → acc (run b (vw T g k) X) = some l → acc (run b (vw T (fun _ => false) k) Y) = some l0 → ∃ X' Y' : PS, X'.2.2.2 = Y'.2.2.2 ∧ lc (mF X'.2.2.1) = lc (mF Y'.2.2.1) ∧ acc (run b (vw T g j) X') = some l ∧ acc (run b (vw T (fun _ => false) j) Y') = some l0 ∧ acc (run b (vw T g' k) X) = acc (run b (vw T g' j) X') := by
  have hz : Hh (wF T.1) T.1.length (fun _ => false) := fun k y => by cases y
  intro d
  induction d using Nat.strongRecOn with
  | ind d ih =>
    intro k hk h4 X Y e1 e2 r1 r0
    by_cases q : d = 0
    · have : k = j := by omega
      subst this
      exact ⟨X, Y, e1, e2, r1, r0, rfl⟩
    have km : k < T.1.length := by omega
    obtain ⟨k1, X1, n1⟩ := Nx_ex hg hA km r1
    obtain ⟨k0, Y1, n0⟩ := Nx_ex hz hA km r0
    have n2 : NxP b (wF T.1) T.1.length g' k X k1 X1 := by
      unfold NxP
      rw [hs k (by omega)]
      exact n1
    have a1 := Nx_run hg hA km n1
    have a0 := Nx_run hz hA km n0
    have a2 := Nx_run hg' hA km n2
    have k12 : ∀ x, x = k + 1 ∨ (x = k + 2 ∧ cln (wF T.1) T.1.length k) → ((wF T.1 x).1 = 4 → x = k + 1 → ¬ cln (wF T.1) T.1.length k → opn (wF T.1) x) := fun x _ h e nc => ⟨h, fun _ y => by
      subst e
      rw [show k + 1 - 1 = k by omega] at y
      exact nc ⟨y, by omega, h⟩⟩
    have main : k1 = k0 → k1 ≤ j → (k1 = k + 1 ∨ k1 = k + 2) → ((wF T.1 k1).1 = 4 → opn (wF T.1) k1) → X1.2.2.2 = Y1.2.2.2 → lc (mF X1.2.2.1) = lc (mF Y1.2.2.1) → ∃ X' Y' : PS, X'.2.2.2 = Y'.2.2.2 ∧ lc (mF X'.2.2.1) = lc (mF Y'.2.2.1) ∧ acc (run b (vw T g j) X') = some l ∧ acc (run b (vw T (fun _ => false) j) Y') = some l0 ∧ acc (run b (vw T g' k) X) = acc (run b (vw T g' j) X') := fun ek kj kk o4 f1 f2 => by
      rw [a1] at r1
      rw [a0, ← ek] at r0
      obtain ⟨X', Y', b1, b2, b3, b4, b5⟩ := ih (j - k1) (by omega) k1 (by omega) o4 X1 Y1 f1 f2 r1 r0
      exact ⟨X', Y', b1, b2, b3, b4, by rw [a2]; exact b5⟩
    have nocl : cln (wF T.1) T.1.length k → k + 2 ≤ j := fun c => by
      by_cases y : k + 1 = j
      · exfalso
        rw [← y] at ho
        exact ho.2 (by omega) (by rw [show k + 1 - 1 = k by omega]; exact c.1)
      · omega
    have after : cln (wF T.1) T.1.length k → (wF T.1 (k + 2)).1 = 4 → opn (wF T.1) (k + 2) := fun c h => ⟨h, fun _ y => by
      rw [show k + 2 - 1 = k + 1 by omega, c.2.2] at y
      cases y⟩
    rcases n1 with ⟨g1, c1, rfl⟩ | ⟨g1, c, f1, c1, rfl⟩ | ⟨g1, c, c1, s1⟩
    · -- hidden
      have nc : ¬ cln (wF T.1) T.1.length k := fun c => by
        rcases (hg k g1).2 with y | y
        · have := c.1
          rw [y] at this
          cases this
        · have := c.1
          rw [y.1] at this
          cases this
      rcases n0 with ⟨y, -⟩ | ⟨-, c, -⟩ | ⟨-, -, c0, s0⟩
      · cases y
      · exact absurd c nc
      · obtain ⟨t1, t2, -, t4, t5, -⟩ := stA_fl s0
        have w01 : ¬ ((wF T.1 k).1 = 0 ∨ (wF T.1 k).1 = 1) := by
          rcases (hg k g1).2 with y | y
          · omega
          · have := y.1
            omega
        rw [if_neg w01, Nat.add_zero] at t2
        refine main (by omega) (by omega) (Or.inl c1) (fun h => k12 k1 (Or.inl c1) h c1 nc) ?_ (by omega)
        rw [t1, e1]
        unfold flA
        rcases (hg k g1).2 with y | y
        · rw [t5 y, if_neg (by decide), if_neg (by omega), y]
          rfl
        · rw [t4 y.1, if_pos rfl, y.1]
          rfl
    · -- a call
      rcases n0 with ⟨y, -⟩ | ⟨-, -, f0, c0, rfl⟩ | ⟨-, c', -⟩
      · cases y
      · exact main (by omega) (by have := nocl c; omega) (Or.inr c1) (fun h => by subst c1; exact after c h) rfl e2
      · exact absurd c c'
    · -- a word in sight
      rcases n0 with ⟨y, -⟩ | ⟨-, c', -⟩ | ⟨-, -, c0, s0⟩
      · cases y
      · exact absurd c' c
      · obtain ⟨t1, t2, -⟩ := stA_fl s1
        obtain ⟨u1, u2, -⟩ := stA_fl s0
        exact main (by omega) (by omega) (Or.inl c1) (fun h => k12 k1 (Or.inl c1) h c1 c) (by rw [t1, u1, e1]) (by omega)
end LKN
