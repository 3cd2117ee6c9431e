/-! the value of a tree: moved, kept under a context -/
section VAL
variable {b : GB} {nd nd' : Nat → Nd} {sp sp' : Nat → Nat} {n n' i i' : Nat}
theorem dA_sim {rec rec' : Nat → Option Rat} : ∀ k, (∀ j, j < k → ∀ v, rec (kid sp i j) = some v → rec' (kid sp' i' j) = some v) → ∀ vs, dA rec sp i k = some vs → dA rec' sp' i' k = some vs := by
  intro k
  induction k with
  | zero => intro _ vs e; exact e
  | succ k ih =>
    intro h vs e
    rw [dA_c] at e ⊢
    cases e1 : dA rec sp i k with
    | none => rw [e1] at e; cases e
    | some us =>
      rw [e1] at e
      rw [ih (fun j hj => h j (by omega)) us e1]
      dsimp only at e ⊢
      cases e2 : rec (kid sp i k) with
      | none => rw [e2] at e; cases e
      | some v =>
        rw [e2] at e
        rw [h k (Nat.lt_succ_self k) v e2]
        exact e
theorem dL_sim {rec rec' : Rat → Option Rat} {lo : Int} (h : ∀ w v, rec w = some v → rec' w = some v) : ∀ j v, dL rec lo j = some v → dL rec' lo j = some v := by
  intro j
  induction j with
  | zero => intro v e; exact e
  | succ j ih =>
    intro v e
    rw [dL_c] at e ⊢
    cases e1 : dL rec lo j with
    | none => rw [e1] at e; cases e
    | some t =>
      rw [e1] at e
      rw [ih t e1]
      dsimp only at e ⊢
      cases e2 : rec (mkRat (lo + j) 1) with
      | none => rw [e2] at e; cases e
      | some u =>
        rw [e2] at e
        rw [h _ u e2]
        exact e
theorem dN_sim {rec rec' : Nat → En → Option Rat} (en : nd' i' = nd i) (hk : ∀ k, k < aro nd i → ∀ ρ v, rec (kid sp i k) ρ = some v → rec' (kid sp' i' k) ρ = some v) (h0 : (nd i).1 = 2 → aro nd i = 4 → (nd (kid sp i 0)).1 = 1 → nd' (kid sp' i' 0) = nd (kid sp i 0)) {ρ : En} {v : Rat} (e : dN b rec nd sp i ρ = some v) : dN b rec' nd' sp' i' ρ = some v := by
  unfold dN at e ⊢
  have ea : aro nd' i' = aro nd i := by unfold aro; rw [en]
  rw [en, ea]
  by_cases z1 : (nd i).1 = 2 ∧ vN (nd i) = 105
  · rw [if_pos z1] at e ⊢
    unfold dC at e ⊢
    rw [ea]
    split at e
    · cases e
    next y1 =>
    rw [if_neg y1]
    cases e1 : rec (kid sp i 0) ρ with
    | none => rw [e1] at e; cases e
    | some w =>
      rw [e1] at e
      rw [hk 0 (by omega) ρ w e1]
      dsimp only at e ⊢
      exact hk _ (by split <;> omega) ρ v e
  rw [if_neg z1] at e ⊢
  by_cases z2 : (nd i).1 = 2 ∧ vN (nd i) = 115
  · rw [if_pos z2] at e ⊢
    unfold dS at e ⊢
    rw [ea]
    split at e
    · cases e
    next y1 =>
    rw [if_neg y1]
    split at e
    · cases e
    next y2 =>
    have e0 := h0 z2.1 (by omega) (by
      by_cases z : (nd (kid sp i 0)).1 = 1
      · exact z
      · exact absurd z y2)
    rw [e0, if_neg y2]
    cases e1 : rec (kid sp i 1) ρ with
    | none => rw [e1] at e; cases e
    | some lo =>
      rw [e1] at e
      rw [hk 1 (by omega) ρ lo e1]
      dsimp only at e ⊢
      cases e2 : rec (kid sp i 2) ρ with
      | none => rw [e2] at e; cases e
      | some hi =>
        rw [e2] at e
        rw [hk 2 (by omega) ρ hi e2]
        dsimp only at e ⊢
        split at e
        · cases e
        next y3 =>
        rw [if_neg y3]
        split at e
        · cases e
        next y4 =>
        rw [if_neg y4]
        exact dL_sim (fun w u hu => hk 3 (by omega) _ u hu) _ v e
  rw [if_neg z2] at e ⊢
  cases e1 : dA (fun j => rec j ρ) sp i (aro nd i) with
  | none => rw [e1] at e; cases e
  | some vs =>
    rw [e1] at e
    rw [dA_sim (rec := fun j => rec j ρ) (rec' := fun j => rec' j ρ) (aro nd i) (fun j hj u hu => hk j hj ρ u hu) vs e1]
    exact e
theorem dv_mono : ∀ k i ρ v, dv b nd sp k i ρ = some v → dv b nd sp (k + 1) i ρ = some v := by
  intro k
  induction k with
  | zero => intro i ρ v e; cases e
  | succ k ih =>
    intro i ρ v e
    rw [dv_c] at e ⊢
    exact dN_sim rfl (fun j _ ρ w hw => ih _ ρ w hw) (fun _ _ _ => rfl) e
theorem dv_le {k m : Nat} (h : k ≤ m) {ρ : En} {v : Rat} (e : dv b nd sp k i ρ = some v) : dv b nd sp m i ρ = some v := by
  induction m with
  | zero =>
    obtain rfl : k = 0 := by omega
    exact e
  | succ m ih =>
    by_cases z : k = m + 1
    · rw [z] at e; exact e
    · exact dv_mono m i ρ v (ih (by omega))
theorem dv_down (h : WT n (aro nd) sp) : ∀ k i ρ v, i < n → dv b nd sp k i ρ = some v → dv b nd sp (sp i) i ρ = some v := by
  intro k
  induction k with
  | zero => intro i ρ v _ e; cases e
  | succ k ih =>
    intro i ρ v hi e
    obtain ⟨m, hm⟩ : ∃ m, sp i = m + 1 := ⟨sp i - 1, by have := (h.2.2.2 i hi).1; omega⟩
    rw [dv_c] at e
    rw [hm, dv_c]
    refine dN_sim rfl (fun j hj ρ w hw => ?_) (fun _ _ _ => rfl) e
    obtain ⟨a1, a2, a3⟩ := kid_sp h hi hj
    exact dv_le (by omega) (ih _ ρ w a1 hw)
/-- a tree's value, where there is one -/
noncomputable def VV (b : GB) (nd : Nat → Nd) (sp : Nat → Nat) (i : Nat) (ρ : En) : Option Rat := @dite _ (∃ v, dv b nd sp 100 i ρ = some v) (Classical.propDecidable _) (fun h => some (Classical.choose h)) (fun _ => none)
theorem VV_eq {ρ : En} : VV b nd sp i ρ = dv b nd sp 100 i ρ := by
  unfold VV
  by_cases h : ∃ v, dv b nd sp 100 i ρ = some v
  · rw [dif_pos h]
    exact (Classical.choose_spec h).symm
  · rw [dif_neg h]
    cases e : dv b nd sp 100 i ρ with
    | none => rfl
    | some v => exact absurd ⟨v, e⟩ h
theorem VV_of {k : Nat} (h : WT n (aro nd) sp) (h99 : n ≤ 99) (hi : i < n) {ρ : En} {v : Rat} (e : dv b nd sp k i ρ = some v) : VV b nd sp i ρ = some v := by
  have := h.2.2.2 i hi
  rw [VV_eq]
  exact dv_le (by omega) (dv_down h k i ρ v hi e)
theorem VV_99 (h : WT n (aro nd) sp) (h99 : n ≤ 99) (hi : i < n) {ρ : En} {v : Rat} (e : VV b nd sp i ρ = some v) : dv b nd sp 99 i ρ = some v := by
  have := h.2.2.2 i hi
  rw [VV_eq] at e
  exact dv_le (by omega) (dv_down h 100 i ρ v hi e)
theorem VV_sim (h' : WT n' (aro nd') sp') (h99 : n' ≤ 99) (hi' : i' < n') (en : nd' i' = nd i) (hk : ∀ k, k < aro nd i → ∀ ρ v, VV b nd sp (kid sp i k) ρ = some v → VV b nd' sp' (kid sp' i' k) ρ = some v) (h0 : (nd i).1 = 2 → aro nd i = 4 → (nd (kid sp i 0)).1 = 1 → nd' (kid sp' i' 0) = nd (kid sp i 0)) {ρ : En} {v : Rat} (e : VV b nd sp i ρ = some v) : VV b nd' sp' i' ρ = some v := by
  have ea : aro nd' i' = aro nd i := by unfold aro; rw [en]
  rw [VV_eq, dv_c] at e
  rw [VV_eq, dv_c]
  refine dN_sim en (fun k hk2 ρ w hw => ?_) h0 e
  have k' := (kid_sp h' hi' (k := k) (by rw [ea]; exact hk2)).1
  exact VV_99 h' h99 k' (hk k hk2 ρ w (by rw [VV_eq]; exact dv_mono 99 _ ρ w hw))
/-- moved elsewhere -/
theorem VV_shift (h : WT n (aro nd) sp) (h' : WT n' (aro nd') sp') (h99 : n' ≤ 99) : ∀ m i i', sp i ≤ m → i < n → i' < n' → (∀ j, j < sp i → nd' (i' + j) = nd (i + j) ∧ sp' (i' + j) = sp (i + j)) → ∀ ρ v, VV b nd sp i ρ = some v → VV b nd' sp' i' ρ = some v := by
  intro m
  induction m with
  | zero =>
    intro i i' hm hi
    have := (h.2.2.2 i hi).1
    omega
  | succ m ih =>
    intro i i' hm hi hi' hj ρ v e
    have s1 := (h.2.2.2 i hi).1
    have e0 := hj 0 (by omega)
    rw [Nat.add_zero, Nat.add_zero] at e0
    have kk : ∀ k, k ≤ aro nd i → kid sp' i' k + i = kid sp i k + i' := by
      intro k
      induction k with
      | zero => intro _; show i' + 1 + i = i + 1 + i'; omega
      | succ k ihk =>
        intro hk
        have e1 := ihk (by omega)
        obtain ⟨g1, g2, g3⟩ := kid_in h hi (show k < aro nd i by omega)
        have g4 := (h.2.2.2 _ g2).1
        have e2 := (hj (kid sp i k - i) (by omega)).2
        rw [show i + (kid sp i k - i) = kid sp i k by omega, show i' + (kid sp i k - i) = kid sp' i' k by omega] at e2
        show kid sp' i' k + sp' (kid sp' i' k) + i = kid sp i k + sp (kid sp i k) + i'
        omega
    have ea : aro nd' i' = aro nd i := by unfold aro; rw [e0.1]
    have e4 : ∀ k, k < aro nd i → ∀ j, j < sp (kid sp i k) → nd' (kid sp' i' k + j) = nd (kid sp i k + j) ∧ sp' (kid sp' i' k + j) = sp (kid sp i k + j) := fun k hk j hjj => by
      obtain ⟨g1, g2, g3⟩ := kid_in h hi hk
      have e1 := kk k (by omega)
      have := hj (kid sp i k - i + j) (by omega)
      rw [show i + (kid sp i k - i + j) = kid sp i k + j by omega, show i' + (kid sp i k - i + j) = kid sp' i' k + j by omega] at this
      exact this
    refine VV_sim h' h99 hi' e0.1 (fun k hk ρ w hw => ?_) (fun _ h4 _ => ?_) e
    · obtain ⟨a1, a2, a3⟩ := kid_sp h hi hk
      exact ih _ _ (by omega) a1 (kid_sp h' hi' (by rw [ea]; exact hk)).1 (e4 k hk) ρ w hw
    · have k0 := (kid_sp h hi (show 0 < aro nd i by omega)).2.1
      exact (e4 0 (by omega) 0 (by omega)).1
/-- a node with another tree in its place -/
theorem VV_rep {p m : Nat} {nd2 : Nat → Nd} {sp2 : Nat → Nat} (h : WT n (aro nd) sp) (h2 : WT m (aro nd2) sp2) (hp : p < n) (hop : (nd p).1 = 3) (h99 : n - sp p + m ≤ 99) (H : ∀ ρ v, VV b nd sp p ρ = some v → VV b nd2 sp2 0 ρ = some v) : ∀ ρ v, VV b nd sp 0 ρ = some v → VV b (rpn nd p (sp p) nd2 m) (rps sp p (sp p) sp2 m) 0 ρ = some v := by
  have wp := h.2.2.2 p hp
  have m0 := h2.1
  have h' : WT (n - sp p + m) (aro (rpn nd p (sp p) nd2 m)) (rps sp p (sp p) sp2 m) := by
    rw [aro_rpn]
    exact WT_rep h hp h2 (by omega)
  have rin : ∀ j, j < m → rpn nd p (sp p) nd2 m (p + j) = nd2 j := fun j hj => by
    unfold rpn
    rw [if_neg (by omega), if_pos (by omega), show p + j - p = j by omega]
  have rlo : ∀ j, j < p → rpn nd p (sp p) nd2 m j = nd j := fun j hj => if_pos hj
  have rhi : ∀ o, p + sp p ≤ o → rpn nd p (sp p) nd2 m (o - sp p + m) = nd o := fun o ho => by
    unfold rpn
    rw [if_neg (by omega), if_neg (by omega), show o - sp p + m - m + sp p = o by omega]
  have vin : ∀ ρ v, VV b nd2 sp2 0 ρ = some v → VV b (rpn nd p (sp p) nd2 m) (rps sp p (sp p) sp2 m) p ρ = some v := by
    refine VV_shift h2 h' h99 (sp2 0) 0 p (Nat.le_refl _) m0 (by omega) (fun j hj => ?_)
    rw [h2.2.2.1] at hj
    rw [Nat.zero_add, rin j hj, rps_in hj]
    exact ⟨rfl, rfl⟩
  have vlo : ∀ i, i < n → i + sp i ≤ p → ∀ ρ v, VV b nd sp i ρ = some v → VV b (rpn nd p (sp p) nd2 m) (rps sp p (sp p) sp2 m) i ρ = some v := fun i hi hl => by
    refine VV_shift h h' h99 (sp i) i i (Nat.le_refl _) hi (by have := (h.2.2.2 i hi).1; omega) (fun j hj => ?_)
    have l : ¬ p < i + j + sp (i + j) := by
      by_cases z : j = 0
      · subst z
        rw [Nat.add_zero]
        omega
      · have := lam' h hi (show i < i + j by omega) (show i + j < i + sp i by omega)
        omega
    exact ⟨rlo _ (by omega), rps_lo (by omega) l⟩
  have vhi : ∀ i, i < n → p + sp p ≤ i → ∀ ρ v, VV b nd sp i ρ = some v → VV b (rpn nd p (sp p) nd2 m) (rps sp p (sp p) sp2 m) (i - sp p + m) ρ = some v := fun i hi hl => by
    refine VV_shift h h' h99 (sp i) i (i - sp p + m) (Nat.le_refl _) hi (by omega) (fun j hj => ?_)
    rw [show i - sp p + m + j = i + j - sp p + m by omega]
    exact ⟨rhi _ (by omega), rps_hi (by omega)⟩
  have van : ∀ q i, sp i ≤ q → i < n → i ≤ p → p < i + sp i → ∀ ρ v, VV b nd sp i ρ = some v → VV b (rpn nd p (sp p) nd2 m) (rps sp p (sp p) sp2 m) i ρ = some v := by
    intro q
    induction q with
    | zero =>
      intro i hq hi
      have := (h.2.2.2 i hi).1
      omega
    | succ q ih =>
      intro i hq hi h1 h3 ρ v e
      by_cases z : i = p
      · subst z
        exact vin ρ v (H ρ v e)
      have hl : i < p := by omega
      refine VV_sim h' h99 (by omega) (rlo i hl) (fun k hk ρ w hw => ?_) (fun _ h4 h5 => ?_) e
      · obtain ⟨a1, a2, a3⟩ := kid_sp h hi hk
        obtain ⟨b1, b2⟩ := rep_an h hp h2 hl h3 k (by omega)
        rw [b1]
        unfold shp
        by_cases c1 : kid sp i k ≤ p
        · rw [if_pos c1]
          by_cases c2 : p < kid sp i k + sp (kid sp i k)
          · exact ih _ (by omega) a1 c1 c2 ρ w hw
          · exact vlo _ a1 (by omega) ρ w hw
        · rw [if_neg c1]
          exact vhi _ a1 (b2 (by omega)) ρ w hw
      · have e1 : kid (rps sp p (sp p) sp2 m) i 0 = i + 1 := rfl
        have e2 : kid sp i 0 = i + 1 := rfl
        rw [e2] at h5
        rw [e1, e2]
        by_cases c1 : i + 1 = p
        · rw [c1, hop] at h5
          exact absurd h5 (by decide)
        · exact rlo _ (by omega)
  intro ρ v e
  exact van (sp 0) 0 (Nat.le_refl _) h.1 (Nat.zero_le _) (by rw [h.2.2.1]; omega) ρ v e
/-- an operator between two -/
theorem VV_two (h : WT n (aro nd) sp) (h99 : n ≤ 99) (hi : i < n) (h3 : (nd i).1 = 3) (h2 : aro nd i = 2) (hm : mgN b (nd i) ≤ 10) {ρ : En} {v : Rat} : VV b nd sp i ρ = some v ↔ ∃ x y, VV b nd sp (i + 1) ρ = some x ∧ VV b nd sp (kid sp i 1) ρ = some y ∧ d2 (mgN b (nd i)) x y = some v := by
  have k0 := (kid_sp h hi (show 0 < aro nd i by omega)).1
  have k1 := (kid_sp h hi (show 1 < aro nd i by omega)).1
  have e0 : kid sp i 0 = i + 1 := rfl
  have no : ¬ ((nd i).1 = 2 ∧ vN (nd i) = 105) := fun y => by rw [h3] at y; exact absurd y.1 (by decide)
  have no2 : ¬ ((nd i).1 = 2 ∧ vN (nd i) = 115) := fun y => by rw [h3] at y; exact absurd y.1 (by decide)
  have key : VV b nd sp i ρ = match dA (fun j => dv b nd sp 99 j ρ) sp i 2 with
      | none => none
      | some vs => d2 (mgN b (nd i)) (vs.tail.headD 0) (vs.headD 0) := by
    rw [VV_eq, dv_c]
    unfold dN
    rw [if_neg no, if_neg no2, h2]
    cases dA (fun j => dv b nd sp 99 j ρ) sp i 2 with
    | none => rfl
    | some vs =>
      dsimp only
      unfold dGv dO
      rw [h3, if_neg (by decide), if_neg (by decide), if_neg (by decide), if_neg (by omega), if_neg (by omega)]
  rw [key]
  have ed : dA (fun j => dv b nd sp 99 j ρ) sp i 2 = match dv b nd sp 99 (i + 1) ρ with
      | none => none
      | some x => match dv b nd sp 99 (kid sp i 1) ρ with
        | none => none
        | some y => some [y, x] := by
    rw [dA_c, dA_c]
    show (match (match (some [] : Option (List Rat)) with | none => none | some vs => match dv b nd sp 99 (kid sp i 0) ρ with | none => none | some v => some (v :: vs)) with | none => none | some vs => match dv b nd sp 99 (kid sp i 1) ρ with | none => none | some v => some (v :: vs)) = _
    rw [e0]
    cases dv b nd sp 99 (i + 1) ρ with
    | none => rfl
    | some x => rfl
  rw [ed]
  constructor
  · intro e
    cases e1 : dv b nd sp 99 (i + 1) ρ with
    | none => rw [e1] at e; cases e
    | some x =>
      rw [e1] at e
      dsimp only at e
      cases e2 : dv b nd sp 99 (kid sp i 1) ρ with
      | none => rw [e2] at e; cases e
      | some y =>
        rw [e2] at e
        exact ⟨x, y, by rw [VV_eq]; exact dv_mono 99 _ ρ x e1, by rw [VV_eq]; exact dv_mono 99 _ ρ y e2, e⟩
  · rintro ⟨x, y, e1, e2, e3⟩
    rw [VV_99 h h99 (by rw [← e0]; exact k0) e1]
    dsimp only
    rw [VV_99 h h99 k1 e2]
    exact e3
/-- an operator ahead or behind -/
theorem VV_one (h : WT n (aro nd) sp) (h99 : n ≤ 99) (hi : i < n) (h3 : (nd i).1 = 3) (h2 : aro nd i = 1) (hm : 11 ≤ mgN b (nd i)) (hm2 : mgN b (nd i) < 100) {ρ : En} {v : Rat} : VV b nd sp i ρ = some v ↔ ∃ x, VV b nd sp (i + 1) ρ = some x ∧ d1 (mgN b (nd i)) x = some v := by
  have k0 := (kid_sp h hi (show 0 < aro nd i by omega)).1
  have e0 : kid sp i 0 = i + 1 := rfl
  have no : ¬ ((nd i).1 = 2 ∧ vN (nd i) = 105) := fun y => by rw [h3] at y; exact absurd y.1 (by decide)
  have no2 : ¬ ((nd i).1 = 2 ∧ vN (nd i) = 115) := fun y => by rw [h3] at y; exact absurd y.1 (by decide)
  have key : VV b nd sp i ρ = match dv b nd sp 99 (i + 1) ρ with
      | none => none
      | some x => d1 (mgN b (nd i)) x := by
    rw [VV_eq, dv_c]
    unfold dN
    rw [if_neg no, if_neg no2, h2, dA_c]
    show (match (match dv b nd sp 99 (kid sp i 0) ρ with | none => none | some v => some [v]) with | none => none | some vs => dGv b (nd i) ρ vs) = _
    rw [e0]
    cases dv b nd sp 99 (i + 1) ρ with
    | none => rfl
    | some x =>
      dsimp only
      unfold dGv dO
      rw [h3, if_neg (by decide), if_neg (by decide), if_neg (by decide), if_neg (by omega), if_pos hm]
      rfl
  rw [key]
  constructor
  · intro e
    cases e1 : dv b nd sp 99 (i + 1) ρ with
    | none => rw [e1] at e; cases e
    | some x =>
      rw [e1] at e
      exact ⟨x, by rw [VV_eq]; exact dv_mono 99 _ ρ x e1, e⟩
  · rintro ⟨x, e1, e2⟩
    rw [VV_99 h h99 (by rw [← e0]; exact k0) e1]
    exact e2
theorem VV_num {ρ : En} (h0 : (nd i).1 = 0) (ha : aro nd i = 0) : VV b nd sp i ρ = some (mkRat (vN (nd i)) 1) := by
  rw [VV_eq, dv_c]
  unfold dN
  rw [if_neg (fun y => by rw [h0] at y; exact absurd y.1 (by decide)), if_neg (fun y => by rw [h0] at y; exact absurd y.1 (by decide)), ha]
  show dGv b (nd i) ρ [] = _
  unfold dGv
  rw [if_pos h0]
theorem VV_nam {ρ : En} (h0 : (nd i).1 = 1) (ha : aro nd i = 0) : VV b nd sp i ρ = ρ (vN (nd i)) := by
  rw [VV_eq, dv_c]
  unfold dN
  rw [if_neg (fun y => by rw [h0] at y; exact absurd y.1 (by decide)), if_neg (fun y => by rw [h0] at y; exact absurd y.1 (by decide)), ha]
  show dGv b (nd i) ρ [] = _
  unfold dGv
  rw [if_neg (by rw [h0]; decide), if_pos h0]
end VAL
