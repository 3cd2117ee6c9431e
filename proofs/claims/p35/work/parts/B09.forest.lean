/-! what is read is a tree -/
def kidF (sp : Nat → Nat) : Nat → Nat
  | 0 => 0
  | k + 1 => kidF sp k + sp (kidF sp k)
def FT (c m : Nat) (ar sp : Nat → Nat) : Prop := kidF sp c = m ∧ (∀ k, k < c → kidF sp k < m) ∧ ∀ i, i < m → 1 ≤ sp i ∧ i + sp i ≤ m ∧ kid sp i (ar i) = i + sp i ∧ ∀ k, k < ar i → kid sp i k < m
theorem kidF_congr {sp sp' : Nat → Nat} {c : Nat} (h : ∀ k, k < c → sp' (kidF sp k) = sp (kidF sp k)) : ∀ k, k ≤ c → kidF sp' k = kidF sp k := by
  intro k
  induction k with
  | zero => intro _; rfl
  | succ k ih =>
    intro hk
    show kidF sp' k + sp' (kidF sp' k) = kidF sp k + sp (kidF sp k)
    rw [ih (by omega), h k (by omega)]
theorem kid_sft {sp sp' : Nat → Nat} {d i c : Nat} (h : ∀ k, k < c → sp' (d + kid sp i k) = sp (kid sp i k)) : ∀ k, k ≤ c → kid sp' (d + i) k = d + kid sp i k := by
  intro k
  induction k with
  | zero => intro _; show d + i + 1 = d + (i + 1); omega
  | succ k ih =>
    intro hk
    show kid sp' (d + i) k + sp' (kid sp' (d + i) k) = d + (kid sp i k + sp (kid sp i k))
    rw [ih (by omega), h k (by omega)]
    omega
theorem cnt_sp {sp sp' : Nat → Nat} {e : Nat} : ∀ m, (∀ j, j < m → sp' j = sp j) → cnt sp' e m = cnt sp e m := by
  intro m
  induction m with
  | zero => intro _; rfl
  | succ m ih =>
    intro h
    show cnt sp' e m + (if m + sp' m ≤ e then 1 else 0) = cnt sp e m + (if m + sp m ≤ e then 1 else 0)
    rw [ih (fun j hj => h j (by omega)), h m (by omega)]
theorem cnt_sh {sp sp' : Nat → Nat} {d e : Nat} (q : Nat) : ∀ m, (∀ j, j < m → sp' (d + j) = sp j) → cnt sp' (d + e) d = q → cnt sp' (d + e) (d + m) = q + cnt sp e m := by
  intro m
  induction m with
  | zero => intro _ h; exact h
  | succ m ih =>
    intro h hq
    show cnt sp' (d + e) (d + m) + (if d + m + sp' (d + m) ≤ d + e then 1 else 0) = q + (cnt sp e m + (if m + sp m ≤ e then 1 else 0))
    rw [ih (fun j hj => h j (by omega)) hq, h m (by omega)]
    by_cases y : m + sp m ≤ e
    · rw [if_pos y, if_pos (by omega)]
      omega
    · rw [if_neg y, if_neg (by omega)]
      omega
theorem cnt_full {sp : Nat → Nat} {e : Nat} : ∀ m, (∀ j, j < m → j + sp j ≤ e) → cnt sp e m = m := by
  intro m
  induction m with
  | zero => intro _; rfl
  | succ m ih =>
    intro h
    show cnt sp e m + (if m + sp m ≤ e then 1 else 0) = m + 1
    rw [ih (fun j hj => h j (by omega)), if_pos (h m (by omega))]
def apF {α : Type} (f : Nat → α) (m : Nat) (g : Nat → α) : Nat → α := fun i => if i < m then f i else g (i - m)
theorem apF_lo {α : Type} {f g : Nat → α} {m i : Nat} (h : i < m) : apF f m g i = f i := if_pos h
theorem apF_hi {α : Type} {f g : Nat → α} {m i : Nat} : apF f m g (m + i) = g i := by
  unfold apF
  rw [if_neg (by omega), show m + i - m = i by omega]
theorem apF_h0 {α : Type} {f g : Nat → α} {m : Nat} : apF f m g m = g 0 := apF_hi (i := 0)
/-- a tree more -/
theorem FT_add {c m n : Nat} {ar sp ar2 sp2 : Nat → Nat} (h : FT c m ar sp) (w : WT n ar2 sp2) : FT (c + 1) (m + n) (apF ar m ar2) (apF sp m sp2) ∧ (∀ i, i < m → pl (apF sp m sp2) i = pl sp i) ∧ ∀ j, j < n → pl (apF sp m sp2) (m + j) = m + pl sp2 j := by
  obtain ⟨h1, h2, h3⟩ := h
  obtain ⟨w1, w2, w3, w4⟩ := w
  have kf : ∀ k, k ≤ c → kidF (apF sp m sp2) k = kidF sp k := kidF_congr (fun k hk => apF_lo (h2 k hk))
  refine ⟨⟨?_, fun k hk => ?_, fun i hi => ?_⟩, fun i hi => ?_, fun j hj => ?_⟩
  · show kidF (apF sp m sp2) c + apF sp m sp2 (kidF (apF sp m sp2) c) = m + n
    rw [kf c (Nat.le_refl _), h1, apF_h0, w3]
  · by_cases z : k < c
    · rw [kf k (by omega)]
      have := h2 k z
      omega
    · rw [show k = c by omega, kf c (Nat.le_refl _), h1]
      omega
  · by_cases z : i < m
    · obtain ⟨a1, a2, a3, a4⟩ := h3 i z
      rw [apF_lo z, apF_lo z]
      have kk := kid_sft (sp := sp) (sp' := apF sp m sp2) (d := 0) (i := i) (c := ar i) (fun k hk => by
        rw [Nat.zero_add]
        exact apF_lo (a4 k hk))
      have kk' : ∀ k, k ≤ ar i → kid (apF sp m sp2) i k = kid sp i k := fun k hk => by
        have := kk k hk
        rw [Nat.zero_add, Nat.zero_add] at this
        exact this
      refine ⟨a1, by omega, (kk' _ (Nat.le_refl _)).trans a3, fun k hk => ?_⟩
      rw [kk' k (by omega)]
      have := a4 k hk
      omega
    · obtain ⟨j, rfl⟩ : ∃ j, i = m + j := ⟨i - m, by omega⟩
      obtain ⟨a1, a2, a3, a4⟩ := w4 j (by omega)
      rw [apF_hi, apF_hi]
      have kk := kid_sft (sp := sp2) (sp' := apF sp m sp2) (d := m) (i := j) (c := ar2 j) (fun k hk => apF_hi)
      refine ⟨a1, by omega, (kk _ (Nat.le_refl _)).trans (by rw [a3]; omega), fun k hk => ?_⟩
      rw [kk k (by omega)]
      have := a4 k hk
      omega
  · unfold pl
    rw [apF_lo hi, cnt_sp i (fun j hj => apF_lo (by omega))]
  · unfold pl
    rw [apF_hi, cnt_sh (sp := sp2) (d := m) (e := j) m j (fun k hk => apF_hi) ?_]
    · have := (w4 j hj).1
      omega
    · rw [cnt_sp (sp := sp) m (fun j hj => apF_lo hj)]
      exact cnt_full m (fun k hk => by
        have := (h3 k hk).2.1
        omega)
/-- a node above -/
theorem FT_wrap {c m : Nat} {ar sp : Nat → Nat} (h : FT c m ar sp) (hm : m + 1 ≤ 6400) : WT (m + 1) (apF (fun _ => c) 1 ar) (apF (fun _ => m + 1) 1 sp) ∧ pl (apF (fun _ => m + 1) 1 sp) 0 = m ∧ ∀ i, i < m → pl (apF (fun _ => m + 1) 1 sp) (1 + i) = pl sp i := by
  obtain ⟨h1, h2, h3⟩ := h
  have k0 : ∀ k, k ≤ c → kid (apF (fun _ => m + 1) 1 sp) 0 k = 1 + kidF sp k := by
    intro k
    induction k with
    | zero => intro _; rfl
    | succ k ih =>
      intro hk
      show kid (apF (fun _ => m + 1) 1 sp) 0 k + apF (fun _ => m + 1) 1 sp (kid (apF (fun _ => m + 1) 1 sp) 0 k) = 1 + (kidF sp k + sp (kidF sp k))
      rw [ih (by omega), apF_hi]
      omega
  refine ⟨⟨by omega, hm, rfl, fun i hi => ?_⟩, ?_, fun i hi => ?_⟩
  · by_cases z : i = 0
    · subst z
      refine ⟨by show 1 ≤ m + 1; omega, by show 0 + (m + 1) ≤ m + 1; omega, ?_, fun k hk => ?_⟩
      · show kid (apF (fun _ => m + 1) 1 sp) 0 c = 0 + (m + 1)
        rw [k0 c (Nat.le_refl _), h1]
        omega
      · have hk' : k < c := hk
        rw [k0 k (by omega)]
        have := h2 k hk'
        omega
    · obtain ⟨j, rfl⟩ : ∃ j, i = 1 + j := ⟨i - 1, by omega⟩
      obtain ⟨a1, a2, a3, a4⟩ := h3 j (by omega)
      rw [apF_hi, apF_hi]
      have kk := kid_sft (sp := sp) (sp' := apF (fun _ => m + 1) 1 sp) (d := 1) (i := j) (c := ar j) (fun k hk => apF_hi)
      refine ⟨a1, by omega, (kk _ (Nat.le_refl _)).trans (by rw [a3]; omega), fun k hk => ?_⟩
      rw [kk k (by omega)]
      have := a4 k hk
      omega
  · unfold pl
    show 0 + (m + 1) - 1 = m
    omega
  · unfold pl
    rw [apF_hi, cnt_sh (sp := sp) (d := 1) (e := i) 0 i (fun k hk => apF_hi) ?_]
    · rw [Nat.zero_add]
    · show 0 + (if 0 + (m + 1) ≤ 1 + i then 1 else 0) = 0
      rw [if_neg (by omega)]
def PT (L : Nat → Nd) (S : Nat → Nat) (a m : Nat) : Prop := ∃ (nd : Nat → Nd) (sp : Nat → Nat), WT m (aro nd) sp ∧ ∀ x, x < m → L (a + pl sp x) = nd x ∧ S (a + pl sp x) = sp x
def FO (L : Nat → Nd) (S : Nat → Nat) : Nat → List Oe → Prop
  | e, [] => e = 0
  | e, o :: bs => 0 < o.2 ∧ o.2 ≤ e ∧ PT L S (e - o.2) o.2 ∧ FO L S (e - o.2) bs
theorem FO_drop {L : Nat → Nd} {S : Nat → Nat} : ∀ {l : List Oe} {e : Nat} (k : Nat), FO L S e l → szs (l.take k) ≤ e ∧ FO L S (e - szs (l.take k)) (l.drop k) := by
  intro l
  induction l with
  | nil =>
    intro e k h
    rw [List.take_nil, List.drop_nil]
    exact ⟨Nat.zero_le _, by rw [show szs [] = 0 from rfl, Nat.sub_zero]; exact h⟩
  | cons o bs ih =>
    intro e k h
    cases k with
    | zero => exact ⟨Nat.zero_le _, h⟩
    | succ k =>
      obtain ⟨h1, h2, h3, h4⟩ := h
      obtain ⟨a1, a2⟩ := ih k h4
      rw [List.take_succ_cons, List.drop_succ_cons, show szs (o :: bs.take k) = o.2 + szs (bs.take k) from rfl]
      exact ⟨by omega, by rw [show e - (o.2 + szs (bs.take k)) = e - o.2 - szs (bs.take k) by omega]; exact a2⟩
theorem aro_apF {nd nd2 : Nat → Nd} {m : Nat} : aro (apF nd m nd2) = apF (aro nd) m (aro nd2) := by
  funext i
  show (apF nd m nd2 i).2.2.2 = apF (aro nd) m (aro nd2) i
  unfold apF
  split <;> rfl
/-- the trees on top, side by side -/
theorem FO_forest {L : Nat → Nd} {S : Nat → Nat} : ∀ (c : Nat) {l : List Oe} {e : Nat}, FO L S e l → c ≤ l.length → ∃ (nd : Nat → Nd) (sp : Nat → Nat), FT c (szs (l.take c)) (aro nd) sp ∧ ∀ x, x < szs (l.take c) → L (e - szs (l.take c) + pl sp x) = nd x ∧ S (e - szs (l.take c) + pl sp x) = sp x := by
  intro c
  induction c with
  | zero =>
    intro l e _ _
    refine ⟨fun _ => (0, 0, 0, 0), fun _ => 0, ?_, fun x hx => ?_⟩
    · rw [List.take_zero]
      exact ⟨rfl, fun k hk => absurd hk (Nat.not_lt_zero _), fun i hi => absurd hi (Nat.not_lt_zero _)⟩
    · rw [List.take_zero] at hx
      exact absurd hx (Nat.not_lt_zero _)
  | succ c ih =>
    intro l e h hc
    cases l with
    | nil => exact absurd hc (Nat.not_succ_le_zero _)
    | cons o bs =>
      obtain ⟨h1, h2, ⟨nd2, sp2, w, h3⟩, h4⟩ := h
      obtain ⟨nd, sp, f, h5⟩ := ih h4 (by rw [List.length_cons] at hc; omega)
      have le := (FO_drop c h4).1
      obtain ⟨f1, f2, f3⟩ := FT_add f w
      rw [List.take_succ_cons, show szs (o :: bs.take c) = o.2 + szs (bs.take c) from rfl]
      refine ⟨apF nd (szs (bs.take c)) nd2, apF sp (szs (bs.take c)) sp2, ?_, fun x hx => ?_⟩
      · rw [aro_apF, Nat.add_comm o.2]
        exact f1
      · by_cases z : x < szs (bs.take c)
        · rw [f2 x z, apF_lo z, apF_lo z, show e - (o.2 + szs (bs.take c)) = e - o.2 - szs (bs.take c) by omega]
          exact h5 x z
        · obtain ⟨j, rfl⟩ : ∃ j, x = szs (bs.take c) + j := ⟨x - szs (bs.take c), by omega⟩
          rw [f3 j (by omega), apF_hi, apF_hi, show e - (o.2 + szs (bs.take c)) + (szs (bs.take c) + pl sp2 j) = e - o.2 + pl sp2 j by omega]
          exact h3 j (by omega)
theorem FO_keep {L L' : Nat → Nd} {S S' : Nat → Nat} : ∀ {l : List Oe} {e : Nat}, FO L S e l → (∀ k, k < e → L' k = L k ∧ S' k = S k) → FO L' S' e l := by
  intro l
  induction l with
  | nil => intro e h _; exact h
  | cons o bs ih =>
    intro e ⟨h1, h2, ⟨nd, sp, w, h3⟩, h4⟩ g
    refine ⟨h1, h2, ⟨nd, sp, w, fun x hx => ?_⟩, ih h4 (fun k hk => g k (by omega))⟩
    have := pl_lt w hx
    rw [(g _ (by omega)).1, (g _ (by omega)).2]
    exact h3 x hx
def lnS (ln : List Ln) (bs : List Oe) : Prop := FO (lnF ln) (lsF ln) ln.length bs
theorem lnS_emit {ln : List Ln} {bs : List Oe} {x : Nd} {q : Nat} (h : lnS ln bs) (hc : x.2.2.2 ≤ bs.length) (hl : ln.length < 6400) : lnS ((x, szs (bs.take x.2.2.2) + 1) :: ln) ((q, szs (bs.take x.2.2.2) + 1) :: bs.drop x.2.2.2) := by
  obtain ⟨d1, d2⟩ := FO_drop x.2.2.2 h
  obtain ⟨nd, sp, f, h5⟩ := FO_forest x.2.2.2 h hc
  generalize hcc : x.2.2.2 = c at hc d1 d2 h5 f ⊢
  obtain ⟨w, p0, p1⟩ := FT_wrap f (by omega)
  have old : ∀ k, k < ln.length → lnF ((x, szs (bs.take c) + 1) :: ln) k = lnF ln k ∧ lsF ((x, szs (bs.take c) + 1) :: ln) k = lsF ln k := fun k hk => ⟨if_neg (by omega), if_neg (by omega)⟩
  have new : lnF ((x, szs (bs.take c) + 1) :: ln) ln.length = x ∧ lsF ((x, szs (bs.take c) + 1) :: ln) ln.length = szs (bs.take c) + 1 := ⟨if_pos rfl, if_pos rfl⟩
  unfold lnS
  rw [List.length_cons]
  refine ⟨Nat.succ_pos _, by show szs (bs.take c) + 1 ≤ ln.length + 1; omega, ⟨apF (fun _ => x) 1 nd, apF (fun _ => szs (bs.take c) + 1) 1 sp, ?_, fun i hi => ?_⟩, ?_⟩
  · rw [aro_apF, show aro (fun _ => x) = fun _ => c from funext (fun _ => hcc)]
    exact w
  · show lnF _ (ln.length + 1 - (szs (bs.take c) + 1) + _) = _ ∧ lsF _ (ln.length + 1 - (szs (bs.take c) + 1) + _) = _
    have hi' : i < szs (bs.take c) + 1 := hi
    rw [show ln.length + 1 - (szs (bs.take c) + 1) = ln.length - szs (bs.take c) by omega]
    by_cases z : i = 0
    · subst z
      rw [p0, show ln.length - szs (bs.take c) + szs (bs.take c) = ln.length by omega]
      exact new
    · obtain ⟨j, rfl⟩ : ∃ j, i = 1 + j := ⟨i - 1, by omega⟩
      rw [p1 j (by omega), apF_hi, apF_hi]
      have : pl sp j < szs (bs.take c) := by
        have w2 := w.2.2.2 (1 + j) (by omega)
        have := pl_lt w (i := 1 + j) (by omega)
        rw [p1 j (by omega)] at this
        have ne : pl sp j ≠ szs (bs.take c) := fun e => by
          have := pl_inj w (i := 1 + j) (j := 0) (by omega) (by omega) (by rw [p1 j (by omega), p0, e])
          omega
        omega
      rw [(old _ (by omega)).1, (old _ (by omega)).2]
      exact h5 j (by omega)
  · show FO _ _ (ln.length + 1 - (szs (bs.take c) + 1)) (bs.drop c)
    rw [show ln.length + 1 - (szs (bs.take c) + 1) = ln.length - szs (bs.take c) by omega]
    exact FO_keep d2 (fun k hk => old k (by omega))
/-- nodes that a tree can have, and the trees that wait -/
def NVs (b : GB) (ln : List Ln) : Prop := ∀ x, x ∈ ln → NV b x.1
theorem NVs_cons {b : GB} {x : Ln} {ln : List Ln} (h : NVs b ln) (hx : NV b x.1) : NVs b (x :: ln) := fun y hy => by
  rcases List.mem_cons.mp hy with rfl | hy
  · exact hx
  · exact h y hy
theorem NV_op {b : GB} {p fx : Nat} (hp : p < 16) (hf : fx ≤ 2) (h : 0 < rkN b p fx) : NV b (opNd p fx) := by
  refine Or.inr (Or.inr (Or.inr ⟨rfl, p, fx, hp, by omega, rfl, rfl, rfl, fun z => ?_⟩))
  unfold rkN at h
  rw [z] at h
  exact absurd h (by first | decide | omega)
theorem red_tree {b : GB} {least : Nat} : ∀ (H : List Hd) (bs : List Oe) (ln : List Ln), HOK b H → bs.length = need H + 1 → ln.length + wgt H ≤ 80 → lnS ln bs → NVs b ln → lnS (red least H bs ln).2.2 (red least H bs ln).2.1 ∧ NVs b (red least H bs ln).2.2 := by
  intro H
  induction H with
  | nil => intro bs ln _ _ _ h1 h2; exact ⟨h1, h2⟩
  | cons h hs ih =>
    intro bs ln hH hb hc h1 h2
    unfold red
    by_cases q : least < h.2.2.1
    · obtain ⟨n1, n2, n3⟩ := need_tkn hH q
      rw [if_pos q]
      have har : (hNd h).2.2.2 = tkn h := by
        unfold hNd opNd tkn
        split <;> rfl
      have hv : NV b (hNd h) := by
        unfold hNd
        rcases hH.1 with z | z | z | z
        · omega
        · omega
        · rw [if_neg (by omega)]
          exact NV_op z.2.1 (by omega) z.2.2.1
        · rw [if_pos z.1]
          exact NV_op z.2.1 (by omega) z.2.2.1
      have em := lnS_emit (x := hNd h) (q := h.2.2.2) h1 (by rw [har]; omega) (by omega)
      rw [har] at em
      exact ih _ _ hH.2 (by rw [List.length_cons, List.length_drop]; omega) (by rw [List.length_cons]; omega) em (NVs_cons h2 hv)
    · rw [if_neg q]
      exact ⟨h1, h2⟩
theorem stA_tree {b : GB} {w : Wd} {st st' : PS} (H : wal st b) (hw : WOK w) (hc : st.2.2.1.length + wgt st.1 + nwd w ≤ 80) (h1 : lnS st.2.2.1 st.2.1) (h2 : NVs b st.2.2.1) (e : stA b w st = some st') : lnS st'.2.2.1 st'.2.1 ∧ NVs b st'.2.2.1 := by
  obtain ⟨H, bs, ln, wt⟩ := st
  obtain ⟨hH, hB⟩ := H
  unfold Bal at hB
  dsimp only at hH hB hc h1 h2
  unfold stA at e
  dsimp only at e
  cases wt with
  | true =>
    rw [if_pos rfl] at e
    unfold stO at e
    dsimp only at e
    rcases hw with z | z | z | z
    · rw [if_pos z.1] at e
      cases e
      have n1 : nwd w = 1 := by unfold nwd; rw [z.1]; rfl
      exact ⟨lnS_emit (x := (0, (Int32.ofNat (w.2)), -1, 0)) h1 (Nat.zero_le _) (by omega), NVs_cons h2 (Or.inl ⟨rfl, ⟨w.2, z.2, rfl⟩, rfl, rfl⟩)⟩
    · rw [if_neg (by omega), if_pos z.1] at e
      cases e
      obtain ⟨l, hl, el⟩ := z.2
      have n1 : nwd w = 1 := by unfold nwd; rw [z.1]; rfl
      exact ⟨lnS_emit (x := (1, (Int32.ofNat (w.2)), -1, 0)) h1 (Nat.zero_le _) (by omega), NVs_cons h2 (Or.inr (Or.inl ⟨rfl, ⟨l, hl, by rw [el]⟩, rfl, rfl⟩))⟩
    · rw [if_neg (by omega), if_neg (by omega), if_pos z.1] at e
      split at e
      · cases e
        exact ⟨h1, h2⟩
      · cases e
    · rw [if_neg (by omega), if_neg (by omega), if_neg (by omega)] at e
      split at e
      · cases e
        exact ⟨h1, h2⟩
      · cases e
  | false =>
    rw [if_neg (by first | decide | omega)] at e hB
    have rd := fun r => red_tree (b := b) (least := r) H bs ln hH hB (by omega) h1 h2
    have rk := fun r => red_keep (b := b) (least := r) H bs ln hH hB
    have cl : ∀ c, clS c (red 0 H bs ln) = some st' → lnS st'.2.2.1 st'.2.1 ∧ NVs b st'.2.2.1 := by
      intro c e
      obtain ⟨r1, r2⟩ := rd 0
      obtain ⟨k1, k2, k3, k4, -⟩ := rk 0
      have tp := fun h hs => red0_top (b := b) (h := h) (hs := hs) (ln := ln) hH hB
      generalize red 0 H bs ln = r at e r1 r2 k1 k2 k3 k4 tp
      obtain ⟨rH, rb, rl⟩ := r
      dsimp only at r1 r2 k1 k2 k3 k4 tp
      rcases rH with _ | ⟨h, hs⟩
      · cases e
      · have ht := tp h hs rfl
        unfold clS at e
        dsimp only at e
        split at e
        · split at e
          · cases e
            exact ⟨r1, r2⟩
          · cases e
        · split at e
          · next q1 =>
            cases e
            rw [need_c, q1, if_neg (by first | decide | omega), if_pos rfl] at k2
            rw [wgt_c, q1, if_neg (by first | decide | omega)] at k4
            obtain ⟨z | z | z | z, -⟩ := k1
            · omega
            · obtain ⟨l, hl, el⟩ := z.2.1
              exact ⟨lnS_emit (x := (2, (Int32.ofNat (h.2.1)), -1, h.2.2.2)) r1 (by show h.2.2.2 ≤ rb.length; omega) (by omega), NVs_cons r2 (Or.inr (Or.inr (Or.inl ⟨rfl, ⟨l, hl, by rw [el]⟩, rfl, z.2.2.2.1, z.2.2.2.2⟩)))⟩
            · omega
            · omega
          · cases e
            refine ⟨?_, r2⟩
            cases rb with
            | nil => exact absurd k2 (by simp)
            | cons o rb =>
              show lnS rl ((0, o.2 + 0) :: rb)
              obtain ⟨y1, y2, y3, y4⟩ := r1
              exact ⟨y1, y2, y3, y4⟩
    split at e
    · next q3 =>
      have hp : w.2 < 16 := by
        rcases hw with z | z | z | z <;> omega
      have n1 : nwd w = 1 := by unfold nwd; rw [q3]; rfl
      unfold stS at e
      dsimp only at e
      split at e
      · next q1 =>
        cases e
        obtain ⟨r1, r2⟩ := rd (rkN b w.2 1)
        obtain ⟨k1, k2, k3, k4, -⟩ := rk (rkN b w.2 1)
        exact ⟨lnS_emit (x := opNd w.2 1) r1 (by show 1 ≤ _; omega) (by omega), NVs_cons r2 (NV_op hp (by omega) q1)⟩
      · split at e
        · cases e
        · split at e
          · cases e
          · cases e
            exact rd (rkN b w.2 2)
    · split at e
      · exact cl false e
      · split at e
        · exact cl true e
        · cases e
/-- the whole way -/
theorem run_tree {b : GB} : ∀ (n : Nat) (ws : List Wi) (st st' : PS), ws.length ≤ n → (∀ w, w ∈ ws → WOK w.2) → wal st b → st.2.2.1.length + wgt st.1 + nws ws ≤ 80 → lnS st.2.2.1 st.2.1 → NVs b st.2.2.1 → run b ws st = .inr st' → wal st' b ∧ st'.2.2.1.length + wgt st'.1 ≤ 80 ∧ lnS st'.2.2.1 st'.2.1 ∧ NVs b st'.2.2.1 := by
  intro n
  induction n with
  | zero =>
    intro ws st st' hn _ hA hc h1 h2 e
    cases ws with
    | nil =>
      cases e
      exact ⟨hA, hc, h1, h2⟩
    | cons w ws => exact absurd hn (Nat.not_succ_le_zero _)
  | succ n ih =>
    intro ws st st' hn hw hA hc h1 h2 e
    cases ws with
    | nil =>
      cases e
      exact ⟨hA, hc, h1, h2⟩
    | cons w ws =>
      rw [List.length_cons] at hn
      rw [nws_pos] at hc
      rw [run_cons] at e
      have w1 := hw w (List.mem_cons_self ..)
      by_cases q : isCl w st ws = true
      · rw [if_pos q] at e
        have kd : st.2.2.2 = true ∧ w.2.1 = 1 := by
          unfold isCl at q
          split at q
          · cases q
          · simp at q
            exact q.1
        have hv : ∃ l, l < 26 ∧ w.2.2 = 97 + l := by
          rcases w1 with v | v | v | v
          · omega
          · exact v.2
          · omega
          · omega
        obtain ⟨b1, b2, b3⟩ := stF_keep hA hv kd.1
        have n1 : nwd w.2 = 1 := by unfold nwd; rw [kd.2]; rfl
        have nd : nws (ws.drop 1) ≤ nws ws := by
          cases ws with
          | nil => exact Nat.le_refl _
          | cons y ys => rw [nws_pos]; show nws ys ≤ _; omega
        exact ih (ws.drop 1) _ st' (by rw [List.length_drop]; omega) (fun y hy => hw y (List.mem_cons_of_mem _ (List.mem_of_mem_drop hy))) b1 (by omega) h1 h2 e
      · rw [if_neg q] at e
        cases hs : stA b w.2 st with
        | none =>
          rw [hs] at e
          cases e
        | some s2 =>
          rw [hs] at e
          obtain ⟨b1, b2, b3⟩ := stA_keep hA w1 hs
          obtain ⟨t1, t2⟩ := stA_tree hA w1 (by omega) h1 h2 hs
          exact ih ws s2 st' (by omega) (fun y hy => hw y (List.mem_cons_of_mem _ hy)) b1 (by omega) t1 t2 e
theorem acc_tree {b : GB} {ws : List Wi} {ln : List Ln} (hw : ∀ w, w ∈ ws → WOK w.2) (hc : nws ws ≤ 80) (e : acc (run b ws st0) = some ln) : ∃ (nd : Nat → Nd) (sp : Nat → Nat), WT ln.length (aro nd) sp ∧ (∀ x, x < ln.length → lnF ln (pl sp x) = nd x ∧ lsF ln (pl sp x) = sp x ∧ NV b (nd x)) ∧ ln.length ≤ 80 := by
  cases hr : run b ws st0 with
  | inl p => rw [hr] at e; cases e
  | inr st =>
    rw [hr] at e
    obtain ⟨hA, hc2, h1, h2⟩ := run_tree ws.length ws st0 st (Nat.le_refl _) hw ⟨trivial, rfl⟩ (by show 0 + 0 + nws ws ≤ 80; omega) rfl (fun x hx => by cases hx) hr
    obtain ⟨H, bs, lm, wt⟩ := st
    dsimp only at hc2 h1 h2
    have hB := hA.2
    unfold Bal at hB
    dsimp only at hB
    cases wt with
    | true => cases e
    | false =>
      rw [if_neg (by first | decide | omega)] at hB
      have rd := red_tree (b := b) (least := 0) H bs lm hA.1 hB hc2 h1 h2
      have rk := red_keep (b := b) (least := 0) H bs lm hA.1 hB
      have ac : acc (.inr (H, bs, lm, false)) = (match red 0 H bs lm with
        | ([], _, ln) => some ln
        | _ => none) := rfl
      rw [ac] at e
      generalize red 0 H bs lm = r at e rd rk
      obtain ⟨rH, rb, rl⟩ := r
      dsimp only at rd rk
      rcases rH with _ | ⟨h, hs⟩
      · cases e
        obtain ⟨k1, k2, k3, k4, -⟩ := rk
        have rb1 : rb.length = 1 := k2
        cases rb with
        | nil => cases rb1
        | cons o rb =>
          cases rb with
          | cons _ _ =>
            rw [List.length_cons, List.length_cons] at rb1
            omega
          | nil =>
            obtain ⟨⟨y1, y2, ⟨nd, sp, w, y3⟩, y4⟩, y5⟩ := rd
            have y4' : ln.length - o.2 = 0 := y4
            have eo : o.2 = ln.length := by omega
            rw [eo] at w y3
            refine ⟨nd, sp, w, fun x hx => ?_, ?_⟩
            · obtain ⟨z1, z2⟩ := y3 x hx
              rw [Nat.sub_self, Nat.zero_add] at z1 z2
              obtain ⟨v, v1, v2⟩ := lnF_mem ln _ (pl_lt w hx)
              exact ⟨z1, z2, by rw [← z1, v2]; exact y5 v v1⟩
            · rw [show wgt [] = 0 from rfl] at k4
              omega
      · cases e
