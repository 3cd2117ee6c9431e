/-! words spelled out of a tree -/
abbrev SW : Type := List Wp × (Nat → Nat)
def sgj (c : Nat) : Nat := [33, 35, 37, 38, 42, 43, 45, 47, 60, 61, 62, 63, 64, 94, 124, 126].findIdx (fun x => x == c)
theorem sgj_sgc : ∀ p, p < 16 → sgj (sgc p) = p := by decide
def adw (w : Wd) (S : SW) : SW := ((w, 0) :: S.1, S.2)
def clw (o : Nat) (S : SW) : SW := (((5, 41), 0) :: S.1, fun j => if j = o then S.1.length else S.2 j)
def sgw (x : Nd) : Wd := (3, sgj (vN x))
def spB (x : Nd) (S : SW) : SW := if x.1 = 3 then (if x.2.2.1 = 0 then adw (sgw x) S else S) else if x.1 = 2 then adw (4, 40) (adw (1, vN x) S) else adw ((if x.1 = 0 then 0 else 1), vN x) S
def spC (x : Nd) (S : SW) : SW := if x.1 = 3 then (if x.2.2.1 = 1 then adw (sgw x) S else S) else if x.1 = 2 then adw (5, 41) S else S
def spI (x : Nd) (k : Nat) (S : SW) : SW := if k = 0 then S else if x.1 = 2 then adw (6, 44) S else adw (sgw x) S
def spO (rec : Nat → SW → SW) (x y : Nd) (c : Nat) (S : SW) : SW := if x.1 = 3 ∧ y.1 = 3 then clw S.1.length (rec c (adw (4, 40) S)) else rec c S
def spA (rec : Nat → SW → SW) (nd : Nat → Nd) (sp : Nat → Nat) (i : Nat) : Nat → SW → SW
  | 0, S => S
  | k + 1, S => spO rec (nd i) (nd (kid sp i k)) (kid sp i k) (spI (nd i) k (spA rec nd sp i k S))
def spl (nd : Nat → Nd) (sp : Nat → Nat) : Nat → Nat → SW → SW
  | 0, _, S => S
  | f + 1, i, S => spC (nd i) (spA (spl nd sp f) nd sp i (aro nd i) (spB (nd i) S))
theorem spA_c (rec : Nat → SW → SW) (nd : Nat → Nd) (sp : Nat → Nat) (i k : Nat) (S : SW) : spA rec nd sp i (k + 1) S = spO rec (nd i) (nd (kid sp i k)) (kid sp i k) (spI (nd i) k (spA rec nd sp i k S)) := rfl
theorem spl_c (nd : Nat → Nd) (sp : Nat → Nat) (f i : Nat) (S : SW) : spl nd sp (f + 1) i S = spC (nd i) (spA (spl nd sp f) nd sp i (aro nd i) (spB (nd i) S)) := rfl
theorem kid_sp {n : Nat} {ar sp : Nat → Nat} (h : WT n ar sp) {i k : Nat} (hi : i < n) (hk : k < ar i) : kid sp i k < n ∧ 1 ≤ sp (kid sp i k) ∧ sp (kid sp i k) < sp i := by
  obtain ⟨a1, a2, a3⟩ := kid_in h hi hk
  exact ⟨a2, (h.2.2.2 _ a2).1, by omega⟩
def hdN (S : SW) : Prop := ∀ w l, S.1 = w :: l → w.1.1 ≠ 1
def ClP (P : SW → SW → Prop) : Prop := (∀ S, P S S) ∧ (∀ S S' w, P S S' → (w.1 = 0 ∨ w.1 = 1 ∨ w.1 = 3 ∨ w.1 = 6) → P S (adw w S')) ∧ (∀ S S' S'', P S S' → hdN S' → P (adw (4, 40) S') S'' → P S (clw S'.1.length S'')) ∧ (∀ S S' S'' v, P S S' → P (adw (4, 40) (adw (1, v) S')) S'' → P S (adw (5, 41) S''))
/-- a piece of text with its brackets in pairs: what every relation closed under its rules holds of -/
def Sg (S S' : SW) : Prop := ∀ P, ClP P → P S S'
theorem Sg_nil (S : SW) : Sg S S := fun _ h => h.1 S
theorem Sg_word {S S' : SW} {w : Wd} (a : Sg S S') (hw : w.1 = 0 ∨ w.1 = 1 ∨ w.1 = 3 ∨ w.1 = 6) : Sg S (adw w S') := fun P h => h.2.1 _ _ _ (a P h) hw
theorem Sg_wrap {S S' S'' : SW} (a : Sg S S') (hd : hdN S') (c : Sg (adw (4, 40) S') S'') : Sg S (clw S'.1.length S'') := fun P h => h.2.2.1 _ _ _ (a P h) hd (c P h)
theorem Sg_call {S S' S'' : SW} {v : Nat} (a : Sg S S') (c : Sg (adw (4, 40) (adw (1, v) S')) S'') : Sg S (adw (5, 41) S'') := fun P h => h.2.2.2 _ _ _ v (a P h) (c P h)
theorem Sg_tr {A B C : SW} (h : Sg A B) (h' : Sg B C) : Sg A C := by
  have := h' (fun S S' => Sg S S' ∧ ∀ A, Sg A S → Sg A S') ⟨fun S => ⟨Sg_nil S, fun A h => h⟩, fun S S' w a hw => ⟨Sg_word a.1 hw, fun A h => Sg_word (a.2 A h) hw⟩, fun S S' S'' a hd c => ⟨Sg_wrap a.1 hd c.1, fun A h => Sg_wrap (a.2 A h) hd c.1⟩, fun S S' S'' v a c => ⟨Sg_call a.1 c.1, fun A h => Sg_call (a.2 A h) c.1⟩⟩
  exact this.2 A h
theorem hdN_adw {w : Wd} {S : SW} (h : w.1 ≠ 1) : hdN (adw w S) := fun x l e => by
  have : (w, 0) = x := (List.cons.inj e).1
  rw [← this]
  exact h
theorem spl_Sg {b : GB} {n : Nat} {nd : Nat → Nd} {sp : Nat → Nat} (h : WT n (aro nd) sp) (hn : ∀ i, i < n → NV b (nd i)) : ∀ f i, i < n → sp i ≤ f → ∀ S, hdN S → Sg S (spl nd sp f i S) := by
  intro f
  induction f with
  | zero =>
    intro i hi hf
    have := (h.2.2.2 i hi).1
    omega
  | succ f ih =>
    intro i hi hf S hS
    rw [spl_c]
    have opd : ∀ k, k < aro nd i → ∀ S, hdN S → Sg S (spO (spl nd sp f) (nd i) (nd (kid sp i k)) (kid sp i k) S) := fun k hk S hS => by
      obtain ⟨a1, a2, a3⟩ := kid_sp h hi hk
      unfold spO
      split
      · exact Sg_wrap (Sg_nil S) hS (ih _ a1 (by omega) _ (hdN_adw (by first | decide | omega)))
      · exact ih _ a1 (by omega) _ hS
    have args : ∀ k, k ≤ aro nd i → ∀ S, hdN S → Sg S (spA (spl nd sp f) nd sp i k S) := by
      intro k
      induction k with
      | zero => intro _ S _; exact Sg_nil S
      | succ k ihk =>
        intro hk S hS
        rw [spA_c]
        have h1 := ihk (by omega) S hS
        unfold spI
        by_cases q : k = 0
        · rw [if_pos q]
          rw [q]
          exact opd 0 (by omega) _ hS
        · rw [if_neg q]
          split
          · exact Sg_tr (Sg_word h1 (by first | decide | omega)) (opd k (by omega) _ (hdN_adw (by first | decide | omega)))
          · exact Sg_tr (Sg_word (w := sgw (nd i)) h1 (by unfold sgw; exact Or.inr (Or.inr (Or.inl rfl)))) (opd k (by omega) _ (hdN_adw (by show (3 : Nat) ≠ 1; decide)))
    have s3 : (sgw (nd i)).1 = 0 ∨ (sgw (nd i)).1 = 1 ∨ (sgw (nd i)).1 = 3 ∨ (sgw (nd i)).1 = 6 := Or.inr (Or.inr (Or.inl rfl))
    unfold spC spB
    by_cases q3 : (nd i).1 = 3
    · rw [if_pos q3, if_pos q3]
      have g1 : Sg S (if (nd i).2.2.1 = 0 then adw (sgw (nd i)) S else S) ∧ hdN (if (nd i).2.2.1 = 0 then adw (sgw (nd i)) S else S) := by
        split
        · exact ⟨Sg_word (Sg_nil S) s3, hdN_adw (by show (3 : Nat) ≠ 1; decide)⟩
        · exact ⟨Sg_nil S, hS⟩
      have g2 := Sg_tr g1.1 (args _ (Nat.le_refl _) _ g1.2)
      split
      · exact Sg_word g2 s3
      · exact g2
    · rw [if_neg q3, if_neg q3]
      by_cases q2 : (nd i).1 = 2
      · rw [if_pos q2, if_pos q2]
        exact Sg_call (Sg_nil S) (args _ (Nat.le_refl _) _ (hdN_adw (by first | decide | omega)))
      · rw [if_neg q2, if_neg q2]
        have z : aro nd i = 0 := by
          rcases hn i hi with y | y | y | y
          · exact y.2.2.2
          · exact y.2.2.2
          · exact absurd y.1 q2
          · exact absurd y.1 q3
        rw [z]
        refine Sg_word (Sg_nil S) ?_
        show (if (nd i).1 = 0 then 0 else 1) = 0 ∨ (if (nd i).1 = 0 then 0 else 1) = 1 ∨ _
        split
        · exact Or.inl rfl
        · exact Or.inr (Or.inl rfl)
/-- how many words, and how many of them are nodes -/
def cwL : List Wp → Nat
  | [] => 0
  | w :: l => nwd w.1 + cwL l
theorem spl_len {b : GB} {n : Nat} {nd : Nat → Nd} {sp : Nat → Nat} (h : WT n (aro nd) sp) (hn : ∀ i, i < n → NV b (nd i)) : ∀ f i, i < n → sp i ≤ f → ∀ S, S.1.length + 1 ≤ (spl nd sp f i S).1.length ∧ (spl nd sp f i S).1.length + 2 ≤ S.1.length + 3 * sp i ∧ cwL (spl nd sp f i S).1 = cwL S.1 + sp i := by
  intro f
  induction f with
  | zero =>
    intro i hi hf
    have := (h.2.2.2 i hi).1
    omega
  | succ f ih =>
    intro i hi hf S
    rw [spl_c]
    have ks : ∀ k, kid sp i (k + 1) = kid sp i k + sp (kid sp i k) := fun k => rfl
    have k0 : kid sp i 0 = i + 1 := rfl
    have opd : ∀ k, k < aro nd i → ∀ S, S.1.length + 1 ≤ (spO (spl nd sp f) (nd i) (nd (kid sp i k)) (kid sp i k) S).1.length ∧ (spO (spl nd sp f) (nd i) (nd (kid sp i k)) (kid sp i k) S).1.length + 2 ≤ S.1.length + 3 * sp (kid sp i k) + (if (nd i).1 = 3 then 2 else 0) ∧ cwL (spO (spl nd sp f) (nd i) (nd (kid sp i k)) (kid sp i k) S).1 = cwL S.1 + sp (kid sp i k) := fun k hk S => by
      obtain ⟨a1, a2, a3⟩ := kid_sp h hi hk
      unfold spO
      by_cases q : (nd i).1 = 3 ∧ (nd (kid sp i k)).1 = 3
      · rw [if_pos q, if_pos q.1]
        obtain ⟨b1, b2, b3⟩ := ih _ a1 (by omega) (adw (4, 40) S)
        have e1 : (adw (4, 40) S).1.length = S.1.length + 1 := rfl
        have e2 : cwL (adw (4, 40) S).1 = 0 + cwL S.1 := rfl
        generalize spl nd sp f (kid sp i k) (adw (4, 40) S) = T at *
        have e3 : (clw S.1.length T).1.length = T.1.length + 1 := rfl
        have e4 : cwL (clw S.1.length T).1 = 0 + cwL T.1 := rfl
        omega
      · rw [if_neg q]
        obtain ⟨b1, b2, b3⟩ := ih _ a1 (by omega) S
        split <;> omega
    have args : ∀ k, k ≤ aro nd i → ∀ S, S.1.length + k ≤ (spA (spl nd sp f) nd sp i k S).1.length ∧ (spA (spl nd sp f) nd sp i k S).1.length + 2 * k + (if k = 0 then 0 else 1) ≤ S.1.length + 3 * (kid sp i k - (i + 1)) + k + (if (nd i).1 = 3 then 2 * k else 0) ∧ cwL (spA (spl nd sp f) nd sp i k S).1 = cwL S.1 + (kid sp i k - (i + 1)) + (if (nd i).1 = 2 then 0 else k - 1) ∧ (i + 1 ≤ kid sp i k) := by
      intro k
      induction k with
      | zero =>
        intro _ S
        have e : spA (spl nd sp f) nd sp i 0 S = S := rfl
        rw [e, k0]
        refine ⟨by omega, ?_, ?_, by omega⟩
        · split <;> omega
        · split <;> omega
      | succ k ihk =>
        intro hk S
        rw [spA_c, ks]
        obtain ⟨c1, c2, c3, c4⟩ := ihk (by omega) S
        generalize spA (spl nd sp f) nd sp i k S = T at *
        have w3 : nwd (sgw (nd i)) = 1 := rfl
        have sI : (spI (nd i) k T).1.length = T.1.length + (if k = 0 then 0 else 1) ∧ cwL (spI (nd i) k T).1 = cwL T.1 + (if k = 0 then 0 else if (nd i).1 = 2 then 0 else 1) := by
          unfold spI
          by_cases q : k = 0
          · rw [if_pos q, if_pos q, if_pos q]; exact ⟨rfl, rfl⟩
          · rw [if_neg q, if_neg q, if_neg q]
            by_cases q2 : (nd i).1 = 2
            · rw [if_pos q2, if_pos q2]
              exact ⟨rfl, Nat.zero_add _⟩
            · rw [if_neg q2, if_neg q2]
              exact ⟨rfl, Nat.add_comm _ _⟩
        obtain ⟨d1, d2, d3⟩ := opd k (by omega) (spI (nd i) k T)
        generalize spO (spl nd sp f) (nd i) (nd (kid sp i k)) (kid sp i k) (spI (nd i) k T) = V at *
        rw [sI.1] at d1 d2
        rw [sI.2] at d3
        have k1 := (kid_sp h hi (show k < aro nd i by omega)).2.1
        generalize sp (kid sp i k) = u at *
        by_cases q : k = 0
        · rw [if_pos q] at d1 d2 d3 c2
          rw [if_neg (show ¬ k + 1 = 0 by omega)]
          by_cases q3 : (nd i).1 = 3
          · have q2 : ¬ (nd i).1 = 2 := by rw [q3]; decide
            rw [if_pos q3] at *
            rw [if_neg q2] at *
            omega
          · rw [if_neg q3] at *
            by_cases q2 : (nd i).1 = 2
            · rw [if_pos q2] at *
              omega
            · rw [if_neg q2] at *
              omega
        · rw [if_neg q] at d1 d2 d3 c2
          rw [if_neg (show ¬ k + 1 = 0 by omega)]
          by_cases q3 : (nd i).1 = 3
          · have q2 : ¬ (nd i).1 = 2 := by rw [q3]; decide
            rw [if_pos q3] at *
            rw [if_neg q2] at *
            omega
          · rw [if_neg q3] at *
            by_cases q2 : (nd i).1 = 2
            · rw [if_pos q2] at *
              omega
            · rw [if_neg q2] at *
              omega
    have kl := (h.2.2.2 i hi).2.2.1
    have w3 : nwd (sgw (nd i)) = 1 := rfl
    unfold spC spB
    by_cases q3 : (nd i).1 = 3
    · have q2 : ¬ (nd i).1 = 2 := by rw [q3]; decide
      rw [if_pos q3, if_pos q3]
      obtain ⟨fx, hfx, ef, ea⟩ : ∃ fx, fx < 3 ∧ (nd i).2.2.1 = (Int32.ofNat (fx)) ∧ aro nd i = if fx = 2 then 2 else 1 := by
        rcases hn i hi with y | y | y | ⟨y1, p, fx, y2, y3, y4, y5, y6, y7⟩
        · rw [y.1] at q3; exact absurd q3 (by first | decide | omega)
        · rw [y.1] at q3; exact absurd q3 (by first | decide | omega)
        · exact absurd y.1 q2
        · exact ⟨fx, y3, y5, y6⟩
      have e0 : ((nd i).2.2.1 = 0) ↔ fx = 0 := by rw [ef]; exact i32_eq (m := 0) (by omega) (by omega)
      have e1 : ((nd i).2.2.1 = 1) ↔ fx = 1 := by rw [ef]; exact i32_eq (m := 1) (by omega) (by omega)
      by_cases z0 : fx = 0
      · rw [if_pos (e0.mpr z0), if_neg (fun y => by have := e1.mp y; omega)]
        obtain ⟨c1, c2, c3, c4⟩ := args _ (Nat.le_refl _) (adw (sgw (nd i)) S)
        have l1 : (adw (sgw (nd i)) S).1.length = S.1.length + 1 := rfl
        have l2 : cwL (adw (sgw (nd i)) S).1 = 1 + cwL S.1 := rfl
        rw [if_neg (show ¬ fx = 2 by omega)] at ea
        rw [ea] at c1 c2 c3 c4 kl ⊢
        rw [if_neg (show ¬ 1 = 0 by decide), if_pos q3] at c2
        rw [if_neg q2] at c3
        rw [kl] at c2 c3 c4
        omega
      · rw [if_neg (fun y => z0 (e0.mp y))]
        obtain ⟨c1, c2, c3, c4⟩ := args _ (Nat.le_refl _) S
        rw [if_pos q3] at c2
        rw [if_neg q2] at c3
        by_cases z1 : fx = 1
        · rw [if_pos (e1.mpr z1)]
          rw [if_neg (show ¬ fx = 2 by omega)] at ea
          rw [ea] at c1 c2 c3 c4 kl ⊢
          rw [if_neg (show ¬ 1 = 0 by decide)] at c2
          rw [kl] at c2 c3 c4
          generalize spA (spl nd sp f) nd sp i 1 S = V at *
          have l1 : (adw (sgw (nd i)) V).1.length = V.1.length + 1 := rfl
          have l2 : cwL (adw (sgw (nd i)) V).1 = 1 + cwL V.1 := rfl
          omega
        · rw [if_neg (fun y => z1 (e1.mp y))]
          rw [if_pos (show fx = 2 by omega)] at ea
          rw [ea] at c1 c2 c3 c4 kl ⊢
          rw [if_neg (show ¬ 2 = 0 by decide)] at c2
          rw [kl] at c2 c3 c4
          omega
    · rw [if_neg q3, if_neg q3]
      by_cases q2 : (nd i).1 = 2
      · rw [if_pos q2, if_pos q2]
        have a1 : 1 ≤ aro nd i := (NV_v (hn i hi)).2.2.2.2.2.2 q2
        obtain ⟨c1, c2, c3, c4⟩ := args _ (Nat.le_refl _) (adw (4, 40) (adw (1, vN (nd i)) S))
        have l1 : (adw (4, 40) (adw (1, vN (nd i)) S)).1.length = S.1.length + 1 + 1 := rfl
        have l2 : cwL (adw (4, 40) (adw (1, vN (nd i)) S)).1 = 0 + (1 + cwL S.1) := rfl
        rw [if_neg q3, if_neg (show ¬ aro nd i = 0 by omega)] at c2
        rw [if_pos q2] at c3
        rw [kl] at c2 c3 c4
        generalize spA (spl nd sp f) nd sp i (aro nd i) (adw (4, 40) (adw (1, vN (nd i)) S)) = V at *
        have l3 : (adw (5, 41) V).1.length = V.1.length + 1 := rfl
        have l4 : cwL (adw (5, 41) V).1 = 0 + cwL V.1 := rfl
        omega
      · rw [if_neg q2, if_neg q2]
        have z : aro nd i = 0 := by
          rcases hn i hi with y | y | y | y
          · exact y.2.2.2
          · exact y.2.2.2
          · exact absurd y.1 q2
          · exact absurd y.1 q3
        have k1 : sp i = 1 := by
          rw [z, k0] at kl
          omega
        rw [z, k1]
        have w1 : nwd ((if (nd i).1 = 0 then 0 else 1), vN (nd i)) = 1 := by
          split <;> rfl
        refine ⟨Nat.le_refl _, Nat.le_refl _, ?_⟩
        show nwd ((if (nd i).1 = 0 then 0 else 1), vN (nd i)) + cwL S.1 = _
        rw [w1, Nat.add_comm]
