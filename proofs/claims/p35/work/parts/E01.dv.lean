/-! what a tree is worth without bounds: a function of fractions -/
abbrev En : Type := Nat → Option Rat
def upE (ρ : En) (x : Nat) (v : Rat) : En := fun y => if y = x then some v else ρ y
def dA (rec : Nat → Option Rat) (sp : Nat → Nat) (i : Nat) : Nat → Option (List Rat)
  | 0 => some []
  | k + 1 => match dA rec sp i k with
    | none => none
    | some vs => match rec (kid sp i k) with
      | none => none
      | some v => some (v :: vs)
def dL (rec : Rat → Option Rat) (lo : Int) : Nat → Option Rat
  | 0 => some 0
  | j + 1 => match dL rec lo j with
    | none => none
    | some t => match rec (mkRat (lo + j) 1) with
      | none => none
      | some v => some (t + v)
def dO (b : GB) (x : Nd) (vs : List Rat) : Option Rat := if 11 ≤ mgN b x then d1 (mgN b x) (vs.headD 0) else d2 (mgN b x) (vs.tail.headD 0) (vs.headD 0)
def dGv (b : GB) (x : Nd) (ρ : En) (vs : List Rat) : Option Rat :=
  if x.1 = 0 then some (mkRat (vN x) 1)
  else if x.1 = 1 then ρ (vN x)
  else if x.1 = 2 then none
  else if 100 ≤ mgN b x then none
  else dO b x vs
def dC (rec : Nat → En → Option Rat) (nd : Nat → Nd) (sp : Nat → Nat) (i : Nat) (ρ : En) : Option Rat :=
  if aro nd i ≠ 3 then none
  else match rec (kid sp i 0) ρ with
    | none => none
    | some v => rec (kid sp i (if v = 0 then 2 else 1)) ρ
def dS (rec : Nat → En → Option Rat) (nd : Nat → Nd) (sp : Nat → Nat) (i : Nat) (ρ : En) : Option Rat :=
  if aro nd i ≠ 4 then none
  else if (nd (kid sp i 0)).1 ≠ 1 then none
  else match rec (kid sp i 1) ρ with
    | none => none
    | some lo => match rec (kid sp i 2) ρ with
      | none => none
      | some hi => if lo.den ≠ 1 ∨ hi.den ≠ 1 then none else if 30 ≤ hi.num - lo.num then none else dL (fun v => rec (kid sp i 3) (upE ρ (vN (nd (kid sp i 0))) v)) lo.num (hi.num - lo.num + 1).toNat
def dN (b : GB) (rec : Nat → En → Option Rat) (nd : Nat → Nd) (sp : Nat → Nat) (i : Nat) (ρ : En) : Option Rat :=
  if (nd i).1 = 2 ∧ vN (nd i) = 105 then dC rec nd sp i ρ
  else if (nd i).1 = 2 ∧ vN (nd i) = 115 then dS rec nd sp i ρ
  else match dA (fun j => rec j ρ) sp i (aro nd i) with
    | none => none
    | some vs => dGv b (nd i) ρ vs
def dv (b : GB) (nd : Nat → Nd) (sp : Nat → Nat) : Nat → Nat → En → Option Rat
  | 0 => fun _ _ => none
  | k + 1 => fun i ρ => dN b (dv b nd sp k) nd sp i ρ
theorem dv_c (b : GB) (nd : Nat → Nd) (sp : Nat → Nat) (k i : Nat) (ρ : En) : dv b nd sp (k + 1) i ρ = dN b (dv b nd sp k) nd sp i ρ := rfl
theorem dA_c (rec : Nat → Option Rat) (sp : Nat → Nat) (i k : Nat) : dA rec sp i (k + 1) = match dA rec sp i k with
    | none => none
    | some vs => match rec (kid sp i k) with
      | none => none
      | some v => some (v :: vs) := rfl
theorem dL_c (rec : Rat → Option Rat) (lo : Int) (j : Nat) : dL rec lo (j + 1) = match dL rec lo j with
    | none => none
    | some t => match rec (mkRat (lo + j) 1) with
      | none => none
      | some v => some (t + v) := rfl
/-- what the names are worth -/
def EnL (n : GN) (ch : Ch) (ρ : En) : Prop := (∀ e, e ∈ ch → e.1 ≠ 0) ∧ ∀ x, ρ x = (lkN n ch x).map tR
theorem EnL_push {n : GN} {ch : Ch} {ρ : En} {nm : Nat} {v : GV} (h : EnL n ch ρ) (h0 : nm ≠ 0) : EnL n ((nm, [v]) :: ch) (upE ρ nm (tR v)) := by
  refine ⟨fun e he => ?_, fun x => ?_⟩
  · rcases List.mem_cons.mp he with y | y
    · rw [y]; exact h0
    · exact h.1 e y
  · unfold upE
    by_cases q : x = nm
    · rw [if_pos q]
      have : lkN n ((nm, [v]) :: ch) x = some v := by
        unfold lkN lkC
        rw [if_neg h0, if_pos q.symm]
        rfl
      rw [this]
      rfl
    · rw [if_neg q, h.2 x]
      have : lkN n ((nm, [v]) :: ch) x = lkN n ch x := by
        have e : lkC x ((nm, [v]) :: ch) = lkC x ch := by
          show (if nm = 0 then _ else if nm = x then _ else _) = _
          rw [if_neg h0, if_neg (fun z => q z.symm)]
        unfold lkN
        rw [e]
      rw [this]
section EVD
variable {b : GB} {n : GN} {f : GF} {s : GS} {F nn : Nat} {nd : Nat → Nd} {sp : Nat → Nat} {i : Nat} {ch : Ch} {d : Nat} {ρ : En}
/-- the reckoning follows, for one tree -/
def Fol (b : GB) (n : GN) (rec : Rc) (drec : (Nat → Nd) → (Nat → Nat) → Nat → En → Option Rat) (F : Nat) : Prop := ∀ nn nd sp i ch c d ρ v c', TrO b nn nd sp → i < nn → ChO ch → d ≤ 12 → sp i + 31 * (12 - d) ≤ F → EnL n ch ρ → rec nd sp i ch c d = .inr (v, c') → drec nd sp i ρ = some (tR v)
theorem tR_0 {v : GV} (h : Gd v) : tR v = 0 ↔ v.1 = 0 := by
  constructor
  · intro z
    have := (tR_num h).1
    rw [z] at this
    exact this.symm
  · intro z
    unfold tR
    rw [z]
    exact Rat.zero_mkRat _
theorem evA_dA {rec : Rc} {drec : (Nat → Nd) → (Nat → Nat) → Nat → En → Option Rat} (hr : Fol b n rec drec F) (ht : TrO b nn nd sp) (hi : i < nn) (hc : ChO ch) (hd : d ≤ 12) (hF : sp i + 31 * (12 - d) ≤ F + 1) (hρ : EnL n ch ρ) : ∀ k, k ≤ aro nd i → ∀ c vs c', evA rec nd sp i ch d k c = .inr (vs, c') → dA (fun j => drec nd sp j ρ) sp i k = some (vs.map tR) := by
  intro k
  induction k with
  | zero =>
    intro _ c vs c' e
    cases e
    rfl
  | succ k ih =>
    intro hk c vs c' e
    rw [evA_c] at e
    rw [dA_c]
    cases e1 : evA rec nd sp i ch d k c with
    | inl x => rw [e1] at e; cases e
    | inr r =>
      obtain ⟨vs1, c1⟩ := r
      rw [e1] at e
      dsimp only at e
      rw [ih (by omega) c vs1 c1 e1]
      dsimp only
      cases e2 : rec nd sp (kid sp i k) ch c1 d with
      | inl x => rw [e2] at e; cases e
      | inr r2 =>
        obtain ⟨v, c2⟩ := r2
        rw [e2] at e
        cases e
        obtain ⟨a1, a2, a3⟩ := kid_sp ht.1 hi (show k < aro nd i by omega)
        rw [hr nn nd sp (kid sp i k) ch c1 d ρ v _ ht a1 hc hd (by omega) hρ e2]
        rfl
theorem evC_dC {rec : Rc} {drec : (Nat → Nd) → (Nat → Nat) → Nat → En → Option Rat} (hr : Fol b n rec drec F) (hg : RcO b F rec) (ht : TrO b nn nd sp) (hi : i < nn) (hc : ChO ch) (hd : d ≤ 12) (hF : sp i + 31 * (12 - d) ≤ F + 1) (hρ : EnL n ch ρ) {c c' : Nat} {v : GV} (e : evC rec nd sp i ch c d = .inr (v, c')) : dC (drec nd sp) nd sp i ρ = some (tR v) := by
  unfold evC at e
  unfold dC
  split at e
  · cases e
  split at e
  · cases e
  next z1 z2 =>
  rw [if_neg z2]
  obtain ⟨a1, a2, a3⟩ := kid_sp ht.1 hi (show 0 < aro nd i by omega)
  have h1 := hg nn nd sp (kid sp i 0) ch (c + 1) d ht a1 hc hd (by omega)
  cases e1 : rec nd sp (kid sp i 0) ch (c + 1) d with
  | inl x => rw [e1] at e; cases e
  | inr r =>
    obtain ⟨w, c1⟩ := r
    rw [e1] at e h1
    dsimp only at e
    rw [hr nn nd sp (kid sp i 0) ch (c + 1) d ρ w c1 ht a1 hc hd (by omega) hρ e1]
    dsimp only
    have hk : (if w.1 = 0 then 2 else 1) < aro nd i := by split <;> omega
    have ek : (if tR w = 0 then 2 else 1) = (if w.1 = 0 then 2 else 1) := by
      by_cases z : w.1 = 0
      · rw [if_pos z, if_pos ((tR_0 h1.2.2).mpr z)]
      · rw [if_neg z, if_neg (fun y => z ((tR_0 h1.2.2).mp y))]
    rw [ek]
    generalize (if w.1 = 0 then 2 else 1) = k at *
    obtain ⟨b1, b2, b3⟩ := kid_sp ht.1 hi hk
    exact hr nn nd sp (kid sp i k) ch c1 d ρ v c' ht b1 hc hd (by omega) hρ e
theorem Gd_in {z : Int} (h : z.natAbs < 2 ^ 200) : Gd (z, 1) := ⟨h, (by decide : 0 < 1), (by decide : 1 < 2 ^ 200), Nat.gcd_one_right _⟩
theorem ChO_push (hc : ChO ch) {nm : Nat} {v : GV} (hv : Gd v) : ChO ((nm, [v]) :: ch) := fun x hx w hw => by
  rcases List.mem_cons.mp hx with y | y
  · rw [y] at hw
    rw [List.mem_singleton.mp hw]
    exact hv
  · exact hc x y w hw
theorem evL_dL {rec : Rc} {drec : (Nat → Nd) → (Nat → Nat) → Nat → En → Option Rat} (hr : Fol b n rec drec F) (hg : RcO b F rec) (ht : TrO b nn nd sp) (hi : i < nn) (h4 : aro nd i = 4) (hc : ChO ch) {nm : Nat} (h0 : nm ≠ 0) {lo : Int} (hd : d ≤ 12) (hF : sp i + 31 * (12 - d) ≤ F + 1) (hlo : lo.natAbs < 2 ^ 200) (hρ : EnL n ch ρ) : ∀ j, (∀ k : Nat, k < j → (lo + k).natAbs < 2 ^ 200) → ∀ c v c', evL rec nd sp i ch nm lo d j c = .inr (v, c') → dL (fun w => drec nd sp (kid sp i 3) (upE ρ nm w)) lo j = some (tR v) := by
  intro j
  induction j with
  | zero =>
    intro _ c v c' e
    cases e
    show some (0 : Rat) = some (tR (0, 1))
    congr 1
  | succ j ih =>
    intro hj c v c' e
    rw [evL_c] at e
    rw [dL_c]
    have g1 := evL_RO hg ht hi h4 hc (nm := nm) (lo := lo) hd hF hlo j (fun k hk => hj k (by omega)) c
    cases e1 : evL rec nd sp i ch nm lo d j c with
    | inl x => rw [e1] at e; cases e
    | inr r =>
      obtain ⟨t, c1⟩ := r
      rw [e1] at e g1
      dsimp only at e
      rw [ih (fun k hk => hj k (by omega)) c t c1 e1]
      dsimp only
      obtain ⟨a1, a2, a3⟩ := kid_sp ht.1 hi (show 3 < aro nd i by omega)
      have gl : Gd (lo + j, 1) := Gd_in (hj j (Nat.lt_succ_self j))
      have hc2 : ChO ((nm, [(lo + j, 1)]) :: ch) := ChO_push hc gl
      have g2 := hg nn nd sp (kid sp i 3) ((nm, [(lo + j, 1)]) :: ch) c1 d ht a1 hc2 hd (by omega)
      cases e2 : rec nd sp (kid sp i 3) ((nm, [(lo + j, 1)]) :: ch) c1 d with
      | inl x => rw [e2] at e; cases e
      | inr r2 =>
        obtain ⟨w, c2⟩ := r2
        rw [e2] at e g2
        dsimp only at e
        have e3 := hr nn nd sp (kid sp i 3) ((nm, [(lo + j, 1)]) :: ch) c1 d (upE ρ nm (tR (lo + j, 1))) w c2 ht a1 hc2 hd (by omega) (EnL_push hρ h0) e2
        have e3' : drec nd sp (kid sp i 3) (upE ρ nm (mkRat (lo + j) 1)) = some (tR w) := e3
        rw [e3']
        dsimp only
        cases e4 : q2 0 t w with
        | inl x => rw [e4] at e; cases e
        | inr u =>
          rw [e4] at e
          cases e
          have := q2_d2 g1.2.2 g2.2.2 e4
          unfold d2 at this
          rw [if_pos rfl] at this
          exact this
theorem evS_dS {rec : Rc} {drec : (Nat → Nd) → (Nat → Nat) → Nat → En → Option Rat} (hr : Fol b n rec drec F) (hg : RcO b F rec) (ht : TrO b nn nd sp) (hi : i < nn) (hc : ChO ch) (hd : d ≤ 12) (hF : sp i + 31 * (12 - d) ≤ F + 1) (hρ : EnL n ch ρ) {c c' : Nat} {v : GV} (e : evS rec nd sp i ch c d = .inr (v, c')) : dS (drec nd sp) nd sp i ρ = some (tR v) := by
  unfold evS at e
  unfold dS
  split at e
  · cases e
  split at e
  · cases e
  split at e
  · cases e
  next z1 z2 z3 =>
  rw [if_neg z2, if_neg z3]
  have u4 : aro nd i = 4 := by omega
  have nm0 : vN (nd (kid sp i 0)) ≠ 0 := by
    have k0 := (kid_sp ht.1 hi (show 0 < aro nd i by omega)).1
    rcases ht.2 _ k0 with y | ⟨_, ⟨l, hl, y⟩, _⟩ | y | y
    · exact absurd (by rw [y.1]; decide) z3
    · unfold vN
      rw [y, i32_nat (by omega)]
      omega
    · exact absurd (by rw [y.1]; decide) z3
    · exact absurd (by rw [y.1]; decide) z3
  obtain ⟨a1, a2, a3⟩ := kid_sp ht.1 hi (show 1 < aro nd i by omega)
  have h1 := hg nn nd sp (kid sp i 1) ch (c + 1) d ht a1 hc hd (by omega)
  cases e1 : rec nd sp (kid sp i 1) ch (c + 1) d with
  | inl x => rw [e1] at e; cases e
  | inr r =>
    obtain ⟨lo, c1⟩ := r
    rw [e1] at e h1
    dsimp only at e
    rw [hr nn nd sp (kid sp i 1) ch (c + 1) d ρ lo c1 ht a1 hc hd (by omega) hρ e1]
    dsimp only
    obtain ⟨b1, b2, b3⟩ := kid_sp ht.1 hi (show 2 < aro nd i by omega)
    have h2 := hg nn nd sp (kid sp i 2) ch c1 d ht b1 hc hd (by omega)
    cases e2 : rec nd sp (kid sp i 2) ch c1 d with
    | inl x => rw [e2] at e; cases e
    | inr r2 =>
      obtain ⟨hh, c2⟩ := r2
      rw [e2] at e h2
      dsimp only at e
      rw [hr nn nd sp (kid sp i 2) ch c1 d ρ hh c2 ht b1 hc hd (by omega) hρ e2]
      dsimp only
      rw [(tR_num h1.2.2).1, (tR_num h1.2.2).2, (tR_num h2.2.2).1, (tR_num h2.2.2).2]
      split at e
      · cases e
      split at e
      · cases e
      next y1 y2 =>
      rw [if_neg y1, if_neg y2]
      exact evL_dL hr hg ht hi u4 hc nm0 hd hF h1.2.2.1 hρ _ (sum_rng h1.2.2.1 h2.2.2.1) c2 v c' e
theorem ev_dv (hE : EnvOK b n f s) (hf : ∀ l, prmN f l = 0) : ∀ F, Fol b n (ev b n f s F) (fun nd sp => dv b nd sp F) F := by
  intro F
  induction F with
  | zero =>
    intro nn nd sp i ch c d ρ v c' ht hi hc hd hF hρ e
    cases e
  | succ F ih =>
    intro nn nd sp i ch c d ρ v c' ht hi hc hd hF hρ e
    have hg := ev_RO hE F
    rw [ev_c] at e
    unfold evN at e
    show dv b nd sp (F + 1) i ρ = _
    rw [dv_c]
    unfold dN
    by_cases z1 : (nd i).1 = 2 ∧ vN (nd i) = 105
    · rw [if_pos z1] at e ⊢
      exact evC_dC ih hg ht hi hc hd hF hρ e
    rw [if_neg z1] at e ⊢
    by_cases z2 : (nd i).1 = 2 ∧ vN (nd i) = 115
    · rw [if_pos z2] at e ⊢
      exact evS_dS ih hg ht hi hc hd hF hρ e
    rw [if_neg z2] at e ⊢
    have g1 := evA_RO hg ht hi hc hd hF (aro nd i) (Nat.le_refl _) c
    cases e1 : evA (ev b n f s F) nd sp i ch d (aro nd i) c with
    | inl x => rw [e1] at e; cases e
    | inr r =>
      obtain ⟨vs, c1⟩ := r
      rw [e1] at e g1
      dsimp only at e
      have e2 := evA_dA ih ht hi hc hd hF hρ (aro nd i) (Nat.le_refl _) c vs c1 e1
      rw [e2]
      dsimp only
      unfold evG at e
      unfold dGv
      split at e
      · cases e
      by_cases y0 : (nd i).1 = 0
      · rw [if_pos y0] at e ⊢
        cases e
        rfl
      rw [if_neg y0] at e ⊢
      by_cases y1 : (nd i).1 = 1
      · rw [if_pos y1] at e ⊢
        rw [hρ.2]
        cases e3 : lkN n ch (vN (nd i)) with
        | none => rw [e3] at e; cases e
        | some w =>
          rw [e3] at e
          cases e
          rfl
      rw [if_neg y1] at e ⊢
      have hl : vs.length = aro nd i := g1.1
      have ha : 1 ≤ aro nd i := by
        rcases ht.2 i hi with y | y | y | ⟨_, p, fx, _, _, _, _, y, _⟩
        · exact absurd y.1 y0
        · exact absurd y.1 y1
        · exact y.2.2.2.1
        · show 1 ≤ (nd i).2.2.2
          rw [y]
          split <;> omega
      have evF0 : ∀ l c d, evF (ev b n f s F) f s l vs c d = .inl 5 := fun l c d => by
        unfold evF
        rw [hf l, if_pos (by omega)]
      by_cases y2 : (nd i).1 = 2
      · rw [if_pos y2, evF0] at e
        cases e
      rw [if_neg y2] at e ⊢
      by_cases y3 : 100 ≤ mgN b (nd i)
      · rw [if_pos y3, evF0] at e
        cases e
      rw [if_neg y3] at e ⊢
      have gv := g1.2.2.2.2
      unfold evO at e
      unfold dO
      have hd : (vs.map tR).headD 0 = tR (vs.headD (0, 1)) ∧ Gd (vs.headD (0, 1)) := by
        cases vs with
        | nil => exact ⟨rfl, Gd_n (m := 0) (by omega)⟩
        | cons x l => exact ⟨rfl, gv x (List.mem_cons_self ..)⟩
      have ht2 : (vs.map tR).tail.headD 0 = tR (vs.tail.headD (0, 1)) ∧ Gd (vs.tail.headD (0, 1)) := by
        cases vs with
        | nil => exact ⟨rfl, Gd_n (m := 0) (by omega)⟩
        | cons x l =>
          cases l with
          | nil => exact ⟨(show (0 : Rat) = tR (0, 1) from rfl), Gd_n (m := 0) (by omega)⟩
          | cons y l => exact ⟨rfl, gv y (List.mem_cons_of_mem _ (List.mem_cons_self ..))⟩
      rw [hd.1, ht2.1]
      by_cases y4 : 11 ≤ mgN b (nd i)
      · rw [if_pos y4] at e ⊢
        cases e4 : q1 (mgN b (nd i)) (vs.headD (0, 1)) with
        | inl x => rw [e4] at e; cases e
        | inr u =>
          rw [e4] at e
          cases e
          exact q1_d1 hd.2 e4
      · rw [if_neg y4] at e ⊢
        cases e4 : q2 (mgN b (nd i)) (vs.tail.headD (0, 1)) (vs.headD (0, 1)) with
        | inl x => rw [e4] at e; cases e
        | inr u =>
          rw [e4] at e
          cases e
          exact q2_d2 ht2.2 hd.2 e4
end EVD
