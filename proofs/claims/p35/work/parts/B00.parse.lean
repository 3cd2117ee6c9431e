/-! reading by two stacks, as a function of the words that are not hidden -/
abbrev Wd : Type := Nat × Nat
abbrev Hd : Type := Nat × Nat × Nat × Nat
abbrev Oe : Type := Nat × Nat
abbrev Ln : Type := Nd × Nat
abbrev PS : Type := List Hd × List Oe × List Ln × Bool
def rkN (b : GB) (p fx : Nat) : Nat := ((b (fx * 16 + p)).1).toNatClampNeg
def sdN (b : GB) (p : Nat) : Nat := ((b (32 + p)).2.1).toNatClampNeg
theorem clN {x : Int32} {m : Nat} (h0 : (0 : Int32) ≤ x) (h1 : x ≤ (Int32.ofNat (m))) (hm : m < 2147483648) : x = (Int32.ofNat (x.toNatClampNeg)) ∧ x.toNatClampNeg ≤ m := by
  obtain ⟨j, h2, h3⟩ := rng_dom hm h0 h1
  rw [h3, i32_nat (by omega)]
  exact ⟨rfl, h2⟩
theorem rk_i {b : GB} (H : TbOK b) {p fx : Nat} (hp : p < 16) (hf : fx < 3) : (b (fx * 16 + p)).1 = (Int32.ofNat (rkN b p fx)) ∧ rkN b p fx ≤ 9 := by
  unfold rkN
  rcases H.1 p fx hp hf with z | z
  · rw [z]
    exact ⟨rfl, by decide⟩
  · exact clN (m := 9) (Int32.le_trans (by first | decide | omega) z.1.1) z.1.2 (by first | decide | omega)
theorem sd_i {b : GB} (H : TbOK b) {p : Nat} (hp : p < 16) (h0 : rkN b p 2 ≠ 0) : (b (32 + p)).2.1 = (Int32.ofNat (sdN b p)) ∧ sdN b p ≤ 2 := by
  unfold sdN
  rcases H.1 p 2 hp (by omega) with z | z
  · exact absurd (show rkN b p 2 = 0 by
      unfold rkN
      rw [z]
      rfl) h0
  · obtain ⟨-, z2, -⟩ := z
    rw [if_pos rfl] at z2
    exact clN (m := 2) z2.1 z2.2 (by first | decide | omega)
theorem one_fix {b : GB} (H : TbOK b) {p : Nat} (hp : p < 16) : rkN b p 1 = 0 ∨ rkN b p 2 = 0 := by
  unfold rkN
  rcases H.2.1 p hp with z | z
  · left
    rw [show 1 * 16 + p = 16 + p by omega, z]
    rfl
  · right
    rw [show 2 * 16 + p = 32 + p by omega, z]
    rfl
def opNd (p fx : Nat) : Nd := (3, (Int32.ofNat (sgc p)), (Int32.ofNat (fx)), if fx = 2 then 2 else 1)
def hNd (h : Hd) : Nd := opNd h.2.1 (if h.1 = 3 then 2 else 0)
def tkn (h : Hd) : Nat := if h.1 = 3 then 2 else 1
def szs : List Oe → Nat
  | [] => 0
  | o :: l => o.2 + szs l
def red (least : Nat) : List Hd → List Oe → List Ln → List Hd × List Oe × List Ln
  | [], bs, ln => ([], bs, ln)
  | h :: hs, bs, ln => if least < h.2.2.1 then red least hs ((h.2.2.2, szs (bs.take (tkn h)) + 1) :: bs.drop (tkn h)) ((hNd h, szs (bs.take (tkn h)) + 1) :: ln) else (h :: hs, bs, ln)
def stS (b : GB) (p : Nat) (st : PS) : Option PS :=
  if 0 < rkN b p 1 then
    some ((red (rkN b p 1) st.1 st.2.1 st.2.2.1).1, (0, szs ((red (rkN b p 1) st.1 st.2.1 st.2.2.1).2.1.take 1) + 1) :: (red (rkN b p 1) st.1 st.2.1 st.2.2.1).2.1.drop 1, (opNd p 1, szs ((red (rkN b p 1) st.1 st.2.1 st.2.2.1).2.1.take 1) + 1) :: (red (rkN b p 1) st.1 st.2.1 st.2.2.1).2.2, false)
  else if rkN b p 2 = 0 then none
  else if ((red (rkN b p 2) st.1 st.2.1 st.2.2.1).2.1.headD (0, 0)).1 = rkN b p 2 then none
  else some ((3, p, (if sdN b p = 1 then rkN b p 2 else rkN b p 2 + 1), if sdN b p = 2 then rkN b p 2 else 0) :: (red (rkN b p 2) st.1 st.2.1 st.2.2.1).1, (red (rkN b p 2) st.1 st.2.1 st.2.2.1).2.1, (red (rkN b p 2) st.1 st.2.1 st.2.2.1).2.2, true)
def clS (comma : Bool) : List Hd × List Oe × List Ln → Option PS
  | ([], _, _) => none
  | (h :: hs, bs, ln) =>
    if comma then (if h.1 = 1 ∧ h.2.2.2 < 4 then some ((1, h.2.1, 0, h.2.2.2 + 1) :: hs, bs, ln, true) else none)
    else if h.1 = 1 then some (hs, (0, szs (bs.take h.2.2.2) + 1) :: bs.drop h.2.2.2, (((2, (Int32.ofNat (h.2.1)), -1, h.2.2.2) : Nd), szs (bs.take h.2.2.2) + 1) :: ln, false)
    else some (hs, (0, szs (bs.take 1)) :: bs.drop 1, ln, false)
def stO (b : GB) (w : Wd) (st : PS) : Option PS :=
  if w.1 = 0 then some (st.1, (0, 1) :: st.2.1, (((0, (Int32.ofNat (w.2)), -1, 0) : Nd), 1) :: st.2.2.1, false)
  else if w.1 = 1 then some (st.1, (0, 1) :: st.2.1, (((1, (Int32.ofNat (w.2)), -1, 0) : Nd), 1) :: st.2.2.1, false)
  else if w.1 = 3 then (if 0 < rkN b w.2 0 then some ((2, w.2, rkN b w.2 0 + 1, 0) :: st.1, st.2.1, st.2.2.1, true) else none)
  else if w.1 = 4 then some ((0, 0, 0, 0) :: st.1, st.2.1, st.2.2.1, true)
  else none
def stA (b : GB) (w : Wd) (st : PS) : Option PS :=
  if st.2.2.2 = true then stO b w st
  else if w.1 = 3 then stS b w.2 st
  else if w.1 = 5 then clS false (red 0 st.1 st.2.1 st.2.2.1)
  else if w.1 = 6 then clS true (red 0 st.1 st.2.1 st.2.2.1)
  else none
def stF (v : Nat) (st : PS) : PS := ((1, v, 0, 1) :: st.1, st.2.1, st.2.2.1, true)
abbrev Wi : Type := Nat × Nat × Nat
def isCl (w : Wi) (st : PS) : List Wi → Bool
  | [] => false
  | w' :: _ => st.2.2.2 && w.2.1 == 1 && w'.2.1 == 4
/-- the words from here on: at which one no text goes on, or what there is at their end -/
def run (b : GB) : List Wi → PS → Wi × PS ⊕ PS
  | [], st => .inr st
  | w :: [], st => match stA b w.2 st with
    | none => .inl (w, st)
    | some st' => .inr st'
  | w :: w' :: ws, st =>
    if isCl w st [w'] = true then run b ws (stF w.2.2 st)
    else match stA b w.2 st with
    | none => .inl (w, st)
    | some st' => run b (w' :: ws) st'
def st0 : PS := ([], [], [], true)
/-- what is read: the nodes, the last one first -/
def acc (r : Wi × PS ⊕ PS) : Option (List Ln) := match r with
  | .inl _ => none
  | .inr st => if st.2.2.2 = true then none else match red 0 st.1 st.2.1 st.2.2.1 with
    | ([], _, ln) => some ln
    | _ => none
def need : List Hd → Nat
  | [] => 0
  | h :: hs => (if h.1 = 3 then 1 else if h.1 = 1 then h.2.2.2 - 1 else 0) + need hs
def wgt : List Hd → Nat
  | [] => 0
  | h :: hs => (if h.1 = 0 then 0 else 1) + wgt hs
theorem need_c (h : Hd) (hs : List Hd) : need (h :: hs) = (if h.1 = 3 then 1 else if h.1 = 1 then h.2.2.2 - 1 else 0) + need hs := rfl
theorem wgt_c (h : Hd) (hs : List Hd) : wgt (h :: hs) = (if h.1 = 0 then 0 else 1) + wgt hs := rfl
/-- what is held is as it should be -/
def HOK (b : GB) : List Hd → Prop
  | [] => True
  | h :: hs => ((h.1 = 0 ∧ h.2 = (0, 0, 0)) ∨ (h.1 = 1 ∧ (∃ l, l < 26 ∧ h.2.1 = 97 + l) ∧ h.2.2.1 = 0 ∧ 1 ≤ h.2.2.2 ∧ h.2.2.2 ≤ 4) ∨ (h.1 = 2 ∧ h.2.1 < 16 ∧ 0 < rkN b h.2.1 0 ∧ h.2.2.1 = rkN b h.2.1 0 + 1 ∧ h.2.2.2 = 0) ∨ (h.1 = 3 ∧ h.2.1 < 16 ∧ 0 < rkN b h.2.1 2 ∧ h.2.2.1 = (if sdN b h.2.1 = 1 then rkN b h.2.1 2 else rkN b h.2.1 2 + 1) ∧ h.2.2.2 = if sdN b h.2.1 = 2 then rkN b h.2.1 2 else 0)) ∧ HOK b hs
/-- words as they can be -/
def WOK (w : Wd) : Prop := (w.1 = 0 ∧ w.2 ≤ 999999999) ∨ (w.1 = 1 ∧ ∃ l, l < 26 ∧ w.2 = 97 + l) ∨ (w.1 = 3 ∧ w.2 < 16) ∨ (4 ≤ w.1 ∧ w.1 ≤ 8 ∧ w.2 < 65536)
def nwd (w : Wd) : Nat := if w.1 = 0 ∨ w.1 = 1 ∨ w.1 = 3 then 1 else 0
def nws : List Wi → Nat
  | [] => 0
  | w :: ws => nwd w.2 + nws ws
def Bal (st : PS) : Prop := st.2.1.length = need st.1 + (if st.2.2.2 = true then 0 else 1)
def Cap (st : PS) (ws : List Wi) : Prop := st.1.length + st.2.1.length + ws.length ≤ 300 ∧ st.2.2.1.length + wgt st.1 + nws ws ≤ 80
theorem need_tkn {b : GB} {h : Hd} {hs : List Hd} (H : HOK b (h :: hs)) {least : Nat} (hl : least < h.2.2.1) : need (h :: hs) + 1 = need hs + tkn h ∧ wgt (h :: hs) = wgt hs + 1 ∧ (h.1 = 2 ∨ h.1 = 3) := by
  obtain ⟨z | z | z | z, -⟩ := H
  · rw [z.2] at hl
    exact absurd hl (Nat.not_lt_zero _)
  · rw [z.2.2.1] at hl
    exact absurd hl (Nat.not_lt_zero _)
  · unfold tkn
    rw [need_c, wgt_c, z.1]
    exact ⟨by simp <;> omega, by simp <;> omega, Or.inl rfl⟩
  · unfold tkn
    rw [need_c, wgt_c, z.1]
    exact ⟨by simp <;> omega, by simp <;> omega, Or.inr rfl⟩
/-- what reducing keeps -/
theorem red_keep {b : GB} {least : Nat} : ∀ (H : List Hd) (bs : List Oe) (ln : List Ln), HOK b H → bs.length = need H + 1 → HOK b (red least H bs ln).1 ∧ (red least H bs ln).2.1.length = need (red least H bs ln).1 + 1 ∧ (red least H bs ln).1.length + (red least H bs ln).2.1.length ≤ H.length + bs.length ∧ (red least H bs ln).2.2.length + wgt (red least H bs ln).1 = ln.length + wgt H ∧ (∀ h hs, (red least H bs ln).1 = h :: hs → h.2.2.1 ≤ least) := by
  intro H
  induction H with
  | nil => intro bs ln _ hb; exact ⟨trivial, hb, Nat.le_refl _, rfl, fun h hs e => by cases e⟩
  | cons h hs ih =>
    intro bs ln hH hb
    unfold red
    by_cases q : least < h.2.2.1
    · obtain ⟨n1, n2, -⟩ := need_tkn hH q
      rw [if_pos q]
      obtain ⟨a1, a2, a3, a4, a5⟩ := ih ((h.2.2.2, szs (bs.take (tkn h)) + 1) :: bs.drop (tkn h)) ((hNd h, szs (bs.take (tkn h)) + 1) :: ln) hH.2 (by rw [List.length_cons, List.length_drop]; omega)
      refine ⟨a1, a2, ?_, ?_, a5⟩
      · rw [List.length_cons, List.length_drop] at a3
        rw [List.length_cons]
        have : 1 ≤ tkn h := by unfold tkn; split <;> omega
        omega
      · rw [List.length_cons] at a4
        omega
    · rw [if_neg q]
      exact ⟨hH, hb, Nat.le_refl _, rfl, fun h' hs' e => by
        injection e with e1 e2
        rw [← e1]
        omega⟩
/-- behind a reducing to nothing only brackets and calls stand on top -/
theorem red0_top {b : GB} {H : List Hd} {bs : List Oe} {ln : List Ln} (hH : HOK b H) (hb : bs.length = need H + 1) {h : Hd} {hs : List Hd} (e : (red 0 H bs ln).1 = h :: hs) : h.1 = 0 ∨ h.1 = 1 := by
  obtain ⟨a1, -, -, -, a5⟩ := red_keep (least := 0) H bs ln hH hb
  have := a5 h hs e
  rw [e] at a1
  obtain ⟨z | z | z | z, -⟩ := a1
  · exact Or.inl z.1
  · exact Or.inr z.1
  · omega
  · have := z.2.2.2.1
    split at this <;> omega
def wal (st : PS) (b : GB) : Prop := HOK b st.1 ∧ Bal st
theorem stA_keep {b : GB} {w : Wd} {st st' : PS} (H : wal st b) (hw : WOK w) (e : stA b w st = some st') : wal st' b ∧ st'.1.length + st'.2.1.length ≤ st.1.length + st.2.1.length + 1 ∧ st'.2.2.1.length + wgt st'.1 ≤ st.2.2.1.length + wgt st.1 + nwd w := by
  obtain ⟨H, bs, ln, wt⟩ := st
  obtain ⟨h1, h2⟩ := H
  unfold Bal at h2
  dsimp only at h1 h2 e ⊢
  unfold stA at e
  dsimp only at e
  cases wt with
  | true =>
    rw [if_pos rfl] at e h2
    unfold stO at e
    dsimp only at e
    rcases hw with z | z | z | z
    · rw [if_pos z.1] at e
      cases e
      exact ⟨⟨h1, by unfold Bal; simp; omega⟩, by simp <;> omega, by unfold nwd; rw [z.1]; simp; omega⟩
    · rw [if_neg (by omega), if_pos z.1] at e
      cases e
      exact ⟨⟨h1, by unfold Bal; simp; omega⟩, by simp <;> omega, by unfold nwd; rw [z.1]; simp; omega⟩
    · rw [if_neg (by omega), if_neg (by omega), if_pos z.1] at e
      by_cases q : 0 < rkN b w.2 0
      · rw [if_pos q] at e
        cases e
        refine ⟨⟨⟨Or.inr (Or.inr (Or.inl ⟨rfl, z.2, q, rfl, rfl⟩)), h1⟩, by unfold Bal; simp only [need_c]; simp; omega⟩, by simp <;> omega, by unfold nwd; simp only [wgt_c]; rw [z.1]; simp; omega⟩
      · rw [if_neg q] at e
        cases e
    · rw [if_neg (by omega), if_neg (by omega), if_neg (by omega)] at e
      by_cases q : w.1 = 4
      · rw [if_pos q] at e
        cases e
        refine ⟨⟨⟨Or.inl ⟨rfl, rfl⟩, h1⟩, by unfold Bal; simp only [need_c]; simp; omega⟩, by simp <;> omega, by simp only [wgt_c]; simp⟩
      · rw [if_neg q] at e
        cases e
  | false =>
    rw [if_neg (by first | decide | omega)] at e h2
    have cl : ∀ c, clS c (red 0 H bs ln) = some st' → wal st' b ∧ st'.1.length + st'.2.1.length ≤ H.length + bs.length + 1 ∧ st'.2.2.1.length + wgt st'.1 ≤ ln.length + wgt H + nwd w := by
      intro c e
      have k := red_keep (b := b) (least := 0) H bs ln h1 h2
      have tp := fun h hs => red0_top (b := b) (h := h) (hs := hs) (ln := ln) h1 h2
      generalize red 0 H bs ln = r at e k tp
      obtain ⟨rH, rb, rl⟩ := r
      obtain ⟨k1, k2, k3, k4, -⟩ := k
      dsimp only at k1 k2 k3 k4 tp
      rcases rH with _ | ⟨h, hs⟩
      · cases e
      · unfold clS at e
        dsimp only at e
        have ht := tp h hs rfl
        cases c with
        | true =>
          rw [if_pos rfl] at e
          by_cases q : h.1 = 1 ∧ h.2.2.2 < 4
          · rw [if_pos q] at e
            cases e
            obtain ⟨z | z | z | z, k1'⟩ := k1
            · omega
            · refine ⟨⟨⟨Or.inr (Or.inl ⟨rfl, z.2.1, rfl, by dsimp only; omega, by dsimp only; omega⟩), k1'⟩, ?_⟩, ?_, ?_⟩
              · unfold Bal
                simp only [need_c] at k2 ⊢
                rw [z.1] at k2
                simp at k2 ⊢
                omega
              · simp at k3 ⊢
                omega
              · simp only [wgt_c] at k4 ⊢
                rw [z.1] at k4
                simp at k4 ⊢
                omega
            · omega
            · omega
          · rw [if_neg q] at e
            cases e
        | false =>
          rw [if_neg (by first | decide | omega)] at e
          by_cases q : h.1 = 1
          · rw [if_pos q] at e
            cases e
            obtain ⟨z | z | z | z, k1'⟩ := k1
            · omega
            · refine ⟨⟨k1', ?_⟩, ?_, ?_⟩
              · unfold Bal
                rw [need_c] at k2
                rw [z.1] at k2
                simp at k2 ⊢
                omega
              · simp at k3 ⊢
                omega
              · rw [wgt_c, z.1] at k4
                simp at k4 ⊢
                omega
            · omega
            · omega
          · rw [if_neg q] at e
            cases e
            have h0 : h.1 = 0 := by omega
            refine ⟨⟨k1.2, ?_⟩, ?_, ?_⟩
            · unfold Bal
              rw [need_c] at k2
              rw [h0] at k2
              simp at k2 ⊢
              omega
            · simp at k3 ⊢
              omega
            · rw [wgt_c, h0] at k4
              simp at k4 ⊢
              omega
    by_cases q3 : w.1 = 3
    · rw [if_pos q3] at e
      have hp : w.2 < 16 := by
        rcases hw with z | z | z | z <;> omega
      have hn : nwd w = 1 := by unfold nwd; rw [q3]; simp
      unfold stS at e
      dsimp only at e
      by_cases q1 : 0 < rkN b w.2 1
      · rw [if_pos q1] at e
        obtain ⟨k1, k2, k3, k4, -⟩ := red_keep (b := b) (least := rkN b w.2 1) H bs ln h1 h2
        cases e
        refine ⟨⟨k1, ?_⟩, ?_, ?_⟩
        · unfold Bal
          simp at k2 ⊢
          omega
        · simp at k3 ⊢
          omega
        · rw [hn]
          simp at k4 ⊢
          omega
      · rw [if_neg q1] at e
        by_cases q2 : rkN b w.2 2 = 0
        · rw [if_pos q2] at e
          cases e
        · rw [if_neg q2] at e
          split at e
          · cases e
          · obtain ⟨k1, k2, k3, k4, -⟩ := red_keep (b := b) (least := rkN b w.2 2) H bs ln h1 h2
            cases e
            refine ⟨⟨⟨Or.inr (Or.inr (Or.inr ⟨rfl, hp, by dsimp only; omega, rfl, rfl⟩)), k1⟩, ?_⟩, ?_, ?_⟩
            · unfold Bal; simp only [need_c]
              simp at k2 ⊢
              omega
            · simp at k3 ⊢
              omega
            · rw [hn]
              simp only [wgt_c]
              simp at k4 ⊢
              omega
    · rw [if_neg q3] at e
      by_cases q5 : w.1 = 5
      · rw [if_pos q5] at e
        exact cl false e
      · rw [if_neg q5] at e
        by_cases q6 : w.1 = 6
        · rw [if_pos q6] at e
          exact cl true e
        · rw [if_neg q6] at e
          cases e
theorem stF_keep {b : GB} {v : Nat} {st : PS} (H : wal st b) (hv : ∃ l, l < 26 ∧ v = 97 + l) (hw : st.2.2.2 = true) : wal (stF v st) b ∧ (stF v st).1.length + (stF v st).2.1.length ≤ st.1.length + st.2.1.length + 1 ∧ (stF v st).2.2.1.length + wgt (stF v st).1 ≤ st.2.2.1.length + wgt st.1 + 1 := by
  obtain ⟨H1, bs, ln, wt⟩ := st
  obtain ⟨h1, h2⟩ := H
  unfold stF
  unfold Bal at h2
  dsimp only at hw h1 h2 ⊢
  rw [hw] at h2
  exact ⟨⟨⟨Or.inr (Or.inl ⟨rfl, hv, rfl, Nat.le_refl 1, (by show 1 ≤ 4; decide)⟩), h1⟩, by unfold Bal; simp only [need_c]; simp at h2 ⊢; omega⟩, by simp <;> omega, by simp only [wgt_c]; simp; omega⟩
def BO (l : List Oe) : Prop := ∀ o, o ∈ l → o.1 ≤ 9
theorem red_BO {b : GB} (hT : TbOK b) {least : Nat} : ∀ (H : List Hd) (bs : List Oe) (ln : List Ln), HOK b H → BO bs → BO (red least H bs ln).2.1 := by
  intro H
  induction H with
  | nil => intro bs ln _ hb; exact hb
  | cons h hs ih =>
    intro bs ln hH hb
    unfold red
    by_cases q : least < h.2.2.1
    · rw [if_pos q]
      refine ih _ _ hH.2 (fun o ho => ?_)
      rcases List.mem_cons.mp ho with rfl | ho
      · dsimp only
        rcases hH.1 with z | z | z | z
        · rw [z.2]; decide
        · omega
        · omega
        · have := (rk_i hT z.2.1 (show 2 < 3 by decide)).2
          rw [z.2.2.2.2]
          split <;> omega
      · exact hb o (List.mem_of_mem_drop ho)
    · rw [if_neg q]
      exact hb
theorem stA_BO {b : GB} (hT : TbOK b) {w : Wd} {st st' : PS} (hH : HOK b st.1) (hB : BO st.2.1) (e : stA b w st = some st') : BO st'.2.1 := by
  have c0 : ∀ (n : Nat) {l : List Oe} (k : Nat), BO l → BO ((0, n) :: l.drop k) := fun n l k h o ho => by
    rcases List.mem_cons.mp ho with rfl | ho
    · exact Nat.zero_le _
    · exact h o (List.mem_of_mem_drop ho)
  have cl : ∀ c, clS c (red 0 st.1 st.2.1 st.2.2.1) = some st' → BO st'.2.1 := by
    intro c e
    have hb := red_BO hT (least := 0) st.1 st.2.1 st.2.2.1 hH hB
    generalize red 0 st.1 st.2.1 st.2.2.1 = r at e hb
    obtain ⟨rH, rb, rl⟩ := r
    rcases rH with _ | ⟨h, hs⟩
    · cases e
    · unfold clS at e
      dsimp only at e
      split at e
      · split at e
        · cases e
          exact hb
        · cases e
      · split at e
        · cases e
          exact c0 _ _ hb
        · cases e
          exact c0 _ _ hb
  unfold stA at e
  split at e
  · unfold stO at e
    split at e
    · cases e
      exact c0 1 0 hB
    · split at e
      · cases e
        exact c0 1 0 hB
      · split at e
        · split at e
          · cases e
            exact hB
          · cases e
        · split at e
          · cases e
            exact hB
          · cases e
  · split at e
    · unfold stS at e
      split at e
      · cases e
        exact c0 _ 1 (red_BO hT _ _ _ hH hB)
      · split at e
        · cases e
        · split at e
          · cases e
          · cases e
            exact red_BO hT _ _ _ hH hB
    · split at e
      · exact cl false e
      · split at e
        · exact cl true e
        · cases e
