/-! what a tree is worth: bounds -/
def EnvOK (b : GB) (n : GN) (f : GF) (s : GS) : Prop := TbOK b ∧ (∀ t, t < s.1 → WT (s.2.1 t) (aro (s.2.2.1 t)) (s.2.2.2 t) ∧ ∀ i, i < s.2.1 t → NV b (s.2.2.1 t i)) ∧ (∀ l, l < 26 → FnOK s.1 s.2.1 (f l)) ∧ (∀ l, l < 26 → Gd (n.2 l)) ∧ s.1 ≤ 30
def TrO (b : GB) (nn : Nat) (nd : Nat → Nd) (sp : Nat → Nat) : Prop := WT nn (aro nd) sp ∧ ∀ i, i < nn → NV b (nd i)
def ChO (ch : Ch) : Prop := ∀ e, e ∈ ch → ∀ v, v ∈ e.2 → Gd v
def RO (c : Nat) (r : Rs) : Prop := match r with
  | .inl e => 1 ≤ e ∧ e ≤ 10
  | .inr (v, c') => c < c' ∧ c' ≤ 200 ∧ Gd v
def RcO (b : GB) (F : Nat) (rec : Rc) : Prop := ∀ nn nd sp i ch c d, TrO b nn nd sp → i < nn → ChO ch → d ≤ 12 → sp i + 31 * (12 - d) ≤ F → RO c (rec nd sp i ch c d)
theorem fn_c {s : GS} {row : Nat → Int32} (h : FnOK s.1 s.2.1 row) (h30 : s.1 ≤ 30) : (∃ p, p ≤ 3 ∧ row 0 = (Int32.ofNat (p))) ∧ row 1 = (Int32.ofNat ((row 1).toNatClampNeg)) ∧ (row 1).toNatClampNeg ≤ 4 ∧ ∀ k, k < (row 1).toNatClampNeg → (row (2 + k) = -1 ∨ (row (2 + k) ≠ -1 ∧ row (2 + k) = (Int32.ofNat ((row (2 + k)).toNatClampNeg)) ∧ (row (2 + k)).toNatClampNeg < s.1 ∧ s.2.1 (row (2 + k)).toNatClampNeg ≤ 30)) ∧ row (6 + k) = (Int32.ofNat ((row (6 + k)).toNatClampNeg)) ∧ (row (6 + k)).toNatClampNeg < s.1 ∧ s.2.1 (row (6 + k)).toNatClampNeg ≤ 30 := by
  obtain ⟨h0, c, hc, e, hk⟩ := h
  have ec : (row 1).toNatClampNeg = c := by rw [e, i32_nat (by omega)]
  rw [ec]
  refine ⟨h0, e, hc, fun k hk' => ?_⟩
  obtain ⟨g1, t, ht, et, h3⟩ := hk k hk'
  have et' : (row (6 + k)).toNatClampNeg = t := by rw [et, i32_nat (by omega)]
  refine ⟨?_, by rw [et', et], by rw [et']; exact ht, by rw [et']; exact h3⟩
  rcases g1 with z | ⟨u, hu, eu, h4⟩
  · exact Or.inl z
  · have eu' : (row (2 + k)).toNatClampNeg = u := by rw [eu, i32_nat (by omega)]
    refine Or.inr ⟨?_, by rw [eu', eu], by rw [eu']; exact hu, by rw [eu']; exact h4⟩
    rw [eu]
    exact i32_m1 (by omega)
theorem lkC_Gd (x : Nat) : ∀ (ch : Ch) (v : GV), ChO ch → lkC x ch = some v → Gd v := by
  intro ch
  induction ch with
  | nil => intro v _ h; cases h
  | cons e r ih =>
    intro v hc h
    unfold lkC at h
    split at h
    · split at h
      · exact hc e (List.mem_cons_self ..) v (List.mem_of_getElem? h)
      · cases h
    · split at h
      · exact hc e (List.mem_cons_self ..) v (List.mem_of_mem_head? h)
      · exact ih v (fun y hy => hc y (List.mem_cons_of_mem _ hy)) h
theorem lkN_Gd {n : GN} {ch : Ch} {x : Nat} {v : GV} (hn : ∀ l, l < 26 → Gd (n.2 l)) (hx : x < 123 ∧ 97 ≤ x) (hc : ChO ch) (h : lkN n ch x = some v) : Gd v := by
  unfold lkN at h
  cases e : lkC x ch with
  | some w =>
    rw [e] at h
    rw [← Option.some.inj h]
    exact lkC_Gd x ch w hc e
  | none =>
    rw [e] at h
    dsimp only at h
    split at h
    · cases h
    · rw [← Option.some.inj h]
      exact hn _ (by omega)
section EVO
variable {b : GB} {n : GN} {f : GF} {s : GS} {rec : Rc} {F nn : Nat} {nd : Nat → Nd} {sp : Nat → Nat}
theorem evA_RO (hr : RcO b F rec) (ht : TrO b nn nd sp) {i : Nat} (hi : i < nn) {ch : Ch} (hc : ChO ch) {d : Nat} (hd : d ≤ 12) (hF : sp i + 31 * (12 - d) ≤ F + 1) : ∀ k, k ≤ aro nd i → ∀ c, match evA rec nd sp i ch d k c with
    | .inl e => 1 ≤ e ∧ e ≤ 10
    | .inr (vs, c') => vs.length = k ∧ c + k ≤ c' ∧ (k = 0 → c' = c) ∧ (k ≠ 0 → c' ≤ 200) ∧ ∀ v, v ∈ vs → Gd v := by
  intro k
  induction k with
  | zero => intro _ c; exact ⟨rfl, Nat.le_refl _, fun _ => rfl, fun z => absurd rfl z, fun v hv => by cases hv⟩
  | succ k ih =>
    intro hk c
    have h1 := ih (by omega) c
    rw [evA_c]
    cases e : evA rec nd sp i ch d k c with
    | inl e1 => rw [e] at h1; exact h1
    | inr r =>
      obtain ⟨vs, c1⟩ := r
      rw [e] at h1
      obtain ⟨g1, g2, g3, g4, g5⟩ := h1
      obtain ⟨a1, a2, a3⟩ := kid_sp ht.1 hi (show k < aro nd i by omega)
      have h2 := hr nn nd sp (kid sp i k) ch c1 d ht a1 hc hd (by omega)
      dsimp only
      cases e2 : rec nd sp (kid sp i k) ch c1 d with
      | inl e3 => rw [e2] at h2; exact h2
      | inr r2 =>
        obtain ⟨v, c2⟩ := r2
        rw [e2] at h2
        obtain ⟨l1, l2, l3⟩ := h2
        refine ⟨by rw [List.length_cons, g1], by omega, fun z => absurd z (by omega), fun _ => l2, fun w hw => ?_⟩
        rcases List.mem_cons.mp hw with y | y
        · rw [y]; exact l3
        · exact g5 w y
theorem evK_RO (hE : EnvOK b n f s) (hr : RcO b F rec) {l : Nat} (hl : l < 26) {ch : Ch} (hc : ChO ch) {d : Nat} (hd : d ≤ 12) (hF : 30 + 31 * (12 - d) ≤ F) : ∀ k, k ≤ casN f l → ∀ c, match evK rec f s l ch d k c with
    | .inl e => 1 ≤ e ∧ e ≤ 10
    | .inr (w, c') => c ≤ c' ∧ (c' = c ∨ c' ≤ 200) ∧ w.1 ≤ k ∧ (w.1 ≠ 0 → w.2 < k) := by
  obtain ⟨-, -, -, fk⟩ := fn_c (hE.2.2.1 l hl) hE.2.2.2.2
  intro k
  induction k with
  | zero => intro _ c; exact ⟨Nat.le_refl _, Or.inl rfl, Nat.le_refl _, fun z => absurd rfl z⟩
  | succ k ih =>
    intro hk c
    have h1 := ih (by omega) c
    obtain ⟨ck, -⟩ := fk k (by show k < casN f l; omega)
    show match (match evK rec f s l ch d k c with
      | .inl e => .inl e
      | .inr (w, c1) => match cndN f l k with
        | none => .inr ((w.1 + 1, k), c1)
        | some t => match rec (s.2.2.1 t) (s.2.2.2 t) 0 ch c1 d with
          | .inl e => .inl e
          | .inr (v, c2) => if v.1 = 0 then .inr (w, c2) else .inr ((w.1 + 1, k), c2) : Nat ⊕ ((Nat × Nat) × Nat)) with
      | .inl e => 1 ≤ e ∧ e ≤ 10
      | .inr (w, c') => c ≤ c' ∧ (c' = c ∨ c' ≤ 200) ∧ w.1 ≤ k + 1 ∧ (w.1 ≠ 0 → w.2 < k + 1)
    cases e : evK rec f s l ch d k c with
    | inl e1 => rw [e] at h1; exact h1
    | inr r =>
      obtain ⟨w, c1⟩ := r
      rw [e] at h1
      obtain ⟨g1, g2, g3, g4⟩ := h1
      dsimp only
      rcases ck with z | ⟨z, z1, z2, z3⟩
      · have ec : cndN f l k = none := if_pos z
        rw [ec]
        exact ⟨g1, g2, by omega, fun _ => Nat.lt_succ_self k⟩
      · have ec : cndN f l k = some (f l (2 + k)).toNatClampNeg := if_neg z
        rw [ec]
        dsimp only
        generalize (f l (2 + k)).toNatClampNeg = t at *
        obtain ⟨t1, t2⟩ := hE.2.1 t z2
        have h2 := hr (s.2.1 t) (s.2.2.1 t) (s.2.2.2 t) 0 ch c1 d ⟨t1, t2⟩ t1.1 hc hd (by rw [t1.2.2.1]; omega)
        cases e2 : rec (s.2.2.1 t) (s.2.2.2 t) 0 ch c1 d with
        | inl e3 => rw [e2] at h2; exact h2
        | inr r2 =>
          obtain ⟨v, c2⟩ := r2
          rw [e2] at h2
          obtain ⟨l1, l2, l3⟩ := h2
          dsimp only
          by_cases v0 : v.1 = 0
          · rw [if_pos v0]
            exact ⟨by omega, Or.inr l2, by omega, fun y => by have := g4 y; omega⟩
          · rw [if_neg v0]
            exact ⟨by omega, Or.inr l2, by show w.1 + 1 ≤ k + 1; omega, fun _ => Nat.lt_succ_self k⟩
theorem evF_RO (hE : EnvOK b n f s) (hr : RcO b F rec) {l : Nat} (hl : l < 26) {vs : List GV} (hv : ∀ v, v ∈ vs → Gd v) {c d : Nat} (h0 : c ≤ 200) (hd : d ≤ 12) (hF : 1 + 31 * (12 - d) ≤ F + 1) : match evF rec f s l vs c d with
    | .inl e => 1 ≤ e ∧ e ≤ 10
    | .inr (v, c') => c ≤ c' ∧ c' ≤ 200 ∧ Gd v := by
  unfold evF
  by_cases q1 : prmN f l ≠ vs.length
  · rw [if_pos q1]; exact ⟨by decide, by decide⟩
  rw [if_neg q1]
  by_cases q2 : 12 ≤ d
  · rw [if_pos q2]; exact ⟨by decide, by decide⟩
  rw [if_neg q2]
  have hc : ChO [(0, vs.reverse)] := fun e he v hv' => by
    rw [List.mem_singleton] at he
    rw [he] at hv'
    exact hv v (List.mem_reverse.mp hv')
  have h1 := evK_RO (n := n) hE hr hl hc (d := d + 1) (by omega) (by omega) (casN f l) (Nat.le_refl _) c
  cases e : evK rec f s l [(0, vs.reverse)] (d + 1) (casN f l) c with
  | inl e1 => rw [e] at h1; exact h1
  | inr r =>
    obtain ⟨w, c1⟩ := r
    rw [e] at h1
    obtain ⟨g1, g2, g3, g4⟩ := h1
    dsimp only
    by_cases w0 : w.1 = 0
    · rw [if_pos w0]; exact ⟨by decide, by decide⟩
    rw [if_neg w0]
    by_cases w1 : w.1 = 1
    · rw [if_pos w1]
      obtain ⟨-, -, -, fk⟩ := fn_c (hE.2.2.1 l hl) hE.2.2.2.2
      obtain ⟨-, -, z2, z3⟩ := fk w.2 (g4 w0)
      unfold valN
      generalize (f l (6 + w.2)).toNatClampNeg = t at *
      obtain ⟨t1, t2⟩ := hE.2.1 t z2
      have h2 := hr (s.2.1 t) (s.2.2.1 t) (s.2.2.2 t) 0 [(0, vs.reverse)] c1 (d + 1) ⟨t1, t2⟩ t1.1 hc (by omega) (by rw [t1.2.2.1]; omega)
      cases e2 : rec (s.2.2.1 t) (s.2.2.2 t) 0 [(0, vs.reverse)] c1 (d + 1) with
      | inl e3 => rw [e2] at h2; exact h2
      | inr r2 =>
        obtain ⟨v, c2⟩ := r2
        rw [e2] at h2
        obtain ⟨l1, l2, l3⟩ := h2
        exact ⟨by omega, l2, l3⟩
    · rw [if_neg w1]; exact ⟨by decide, by decide⟩
theorem evG_RO (hE : EnvOK b n f s) (hr : RcO b F rec) {x : Nd} (hx : NV b x) {ch : Ch} (hc : ChO ch) {vs : List GV} (hv : ∀ v, v ∈ vs → Gd v) (hl : vs.length = x.2.2.2) {c d : Nat} (hd : d ≤ 12) (hF : 1 + 31 * (12 - d) ≤ F + 1) : RO c (evG rec b n f s x ch vs c d) := by
  obtain ⟨x1, x2, x3, x4, x5, x6, x7⟩ := NV_v hx
  unfold evG
  by_cases q : 200 ≤ c
  · rw [if_pos q]; exact ⟨by decide, by decide⟩
  rw [if_neg q]
  by_cases q0 : x.1 = 0
  · rw [if_pos q0]
    exact ⟨Nat.lt_succ_self c, by omega, Gd_n (Nat.lt_of_le_of_lt x2 (by first | decide | omega))⟩
  rw [if_neg q0]
  have lett : x.1 = 1 ∨ x.1 = 2 → 97 ≤ vN x ∧ vN x < 123 := fun y => by
    rcases hx with z | ⟨z, ⟨l, hl, e⟩, _⟩ | ⟨z, ⟨l, hl, e⟩, _⟩ | ⟨z, _⟩
    · exact absurd z.1 q0
    · have : vN x = 97 + l := by
        unfold vN
        rw [e, i32_nat (by omega)]
      omega
    · have : vN x = 97 + l := by
        unfold vN
        rw [e, i32_nat (by omega)]
      omega
    · rw [z] at y
      exact absurd y (by first | decide | omega)
  have up : ∀ r : Rs, (match r with
    | .inl e => 1 ≤ e ∧ e ≤ 10
    | .inr (v, c') => c + 1 ≤ c' ∧ c' ≤ 200 ∧ Gd v) → RO c r := fun r hr => by
    cases r with
    | inl e => exact hr
    | inr w => exact hr
  by_cases u1 : x.1 = 1
  · rw [if_pos u1]
    have := lett (Or.inl u1)
    cases e : lkN n ch (vN x) with
    | none => exact ⟨by decide, by decide⟩
    | some v => exact ⟨Nat.lt_succ_self c, by omega, lkN_Gd hE.2.2.2.1 ⟨this.2, this.1⟩ hc e⟩
  rw [if_neg u1]
  by_cases u2 : x.1 = 2
  · rw [if_pos u2]
    have := lett (Or.inr u2)
    exact up _ (evF_RO (n := n) hE hr (by omega) hv (by omega) hd hF)
  rw [if_neg u2]
  have q3 : x.1 = 3 := by
    rcases x5 with z | z | z | z
    · exact absurd z q0
    · exact absurd z u1
    · exact absurd z u2
    · exact z
  obtain ⟨p, fx, p1, p2, p3, p4, p5, p6, p7, p8⟩ := mg_i hE.1 hx q3
  by_cases q4 : 100 ≤ mgN b x
  · rw [if_pos q4]
    exact up _ (evF_RO (n := n) hE hr (by omega) hv (by omega) hd hF)
  rw [if_neg q4]
  unfold evO
  have hd0 : ∀ (l : List GV), l ≠ [] → (∀ v, v ∈ l → Gd v) → Gd (l.headD (0, 1)) := fun l h1 h2 => by
    cases l with
    | nil => exact absurd rfl h1
    | cons a l => exact h2 a (List.mem_cons_self ..)
  have ne : vs ≠ [] := fun y => by
    rw [y, p5] at hl
    have hl : 0 = if fx = 2 then 2 else 1 := hl
    split at hl <;> omega
  have key : QO (if 11 ≤ mgN b x then q1 (mgN b x) (vs.headD (0, 1)) else q2 (mgN b x) (vs.tail.headD (0, 1)) (vs.headD (0, 1))) := by
    by_cases z : 11 ≤ mgN b x
    · rw [if_pos z]
      exact q1_QO (hd0 vs ne hv)
    · rw [if_neg z]
      refine q2_QO (hd0 vs.tail ?_ (fun v hv' => hv v (List.mem_of_mem_tail hv'))) (hd0 vs ne hv)
      intro y
      have f2 : fx = 2 := by omega
      rw [p5, if_pos f2] at hl
      have := congrArg List.length y
      rw [List.length_tail] at this
      have this : vs.length - 1 = 0 := this
      omega
  cases e : (if 11 ≤ mgN b x then q1 (mgN b x) (vs.headD (0, 1)) else q2 (mgN b x) (vs.tail.headD (0, 1)) (vs.headD (0, 1))) with
  | inl e1 => rw [e] at key; exact key
  | inr v => rw [e] at key; exact ⟨Nat.lt_succ_self c, by omega, key⟩
end EVO
