/-! calls: fault and read -/
def visl (l : List Wp) : List Wi := vis (wF l) (fun _ => false) l.length 0
theorem vis_all {W : Nat → Wd} : ∀ d k, vis W (fun _ => false) (d + 1) k = vis W (fun _ => false) d k ++ [(k + d, W (k + d))] := by
  intro d
  induction d with
  | zero => intro k; rfl
  | succ d ih =>
    intro k
    rw [vis_c, if_neg (show ¬ false = true by decide), ih (k + 1), vis_c W _ d k, if_neg (show ¬ false = true by decide), List.cons_append, show k + 1 + d = k + (d + 1) by omega]
theorem vis_congr {W W' : Nat → Wd} {g : Nat → Bool} : ∀ d k, (∀ i, k ≤ i → i < k + d → W' i = W i) → vis W' g d k = vis W g d k := by
  intro d
  induction d with
  | zero => intro k _; rfl
  | succ d ih =>
    intro k h
    rw [vis_c, vis_c, ih (k + 1) (fun i h1 h2 => h i (by omega) (by omega)), h k (Nat.le_refl _) (by omega)]
theorem visl_cons (x : Wp) (l : List Wp) : visl (x :: l) = visl l ++ [(l.length, x.1)] := by
  unfold visl
  rw [List.length_cons, vis_all, Nat.zero_add, show wF (x :: l) l.length = x.1 from if_pos rfl]
  congr 1
  exact vis_congr _ _ (fun i _ hi => if_neg (by omega))
theorem nws_len (ws : List Wi) : nws ws ≤ ws.length := by
  induction ws with
  | nil => exact Nat.le_refl _
  | cons w ws ih =>
    rw [nws_pos, List.length_cons]
    have : nwd w.2 ≤ 1 := by
      unfold nwd
      split <;> omega
    omega
/-- a word more at the end -/
theorem run_app {b : GB} {w : Wi} (hw : w.2.1 ≠ 4) : ∀ (n : Nat) (ws : List Wi) (st : PS), ws.length ≤ n → run b (ws ++ [w]) st = match run b ws st with
    | .inl x => .inl x
    | .inr s => match stA b w.2 s with
      | none => .inl (w, s)
      | some s' => .inr s' := by
  intro n
  induction n with
  | zero =>
    intro ws st hn
    cases ws with
    | nil => rfl
    | cons x ws => exact absurd hn (Nat.not_succ_le_zero _)
  | succ n ih =>
    intro ws st hn
    cases ws with
    | nil => rfl
    | cons x ws =>
      rw [List.length_cons] at hn
      rw [List.cons_append, run_cons, run_cons]
      have ec : isCl x st (ws ++ [w]) = isCl x st ws := by
        cases ws with
        | nil =>
          show (st.2.2.2 && x.2.1 == 1 && w.2.1 == 4) = false
          simp [hw]
        | cons y ws => rfl
      rw [ec]
      by_cases q : isCl x st ws = true
      · rw [if_pos q, if_pos q]
        cases ws with
        | nil => cases q
        | cons y ws => exact ih ws _ (by rw [List.length_cons] at hn; omega)
      · rw [if_neg q, if_neg q]
        cases stA b x.2 st with
        | none => rfl
        | some s => exact ih ws s (by omega)
theorem run_mem {b : GB} : ∀ (n : Nat) (ws : List Wi) (st s : PS) (w : Wi), ws.length ≤ n → run b ws st = .inl (w, s) → w ∈ ws := by
  intro n
  induction n with
  | zero =>
    intro ws st s w hn e
    cases ws with
    | nil => cases e
    | cons x ws => exact absurd hn (Nat.not_succ_le_zero _)
  | succ n ih =>
    intro ws st s w hn e
    cases ws with
    | nil => cases e
    | cons x ws =>
      rw [List.length_cons] at hn
      rw [run_cons] at e
      by_cases q : isCl x st ws = true
      · rw [if_pos q] at e
        have := ih _ _ _ _ (by rw [List.length_drop]; omega) e
        exact List.mem_cons_of_mem _ (List.mem_of_mem_drop this)
      · rw [if_neg q] at e
        cases hs : stA b x.2 st with
        | none =>
          rw [hs] at e
          cases e
          exact List.mem_cons_self ..
        | some s2 =>
          rw [hs] at e
          exact List.mem_cons_of_mem _ (ih _ _ _ _ (by omega) e)
theorem vis_mem {W : Nat → Wd} {g : Nat → Bool} : ∀ d k w, w ∈ vis W g d k → k ≤ w.1 ∧ w.1 < k + d ∧ w.2 = W w.1 := by
  intro d
  induction d with
  | zero => intro k w h; cases h
  | succ d ih =>
    intro k w h
    rw [vis_c] at h
    split at h
    · have := ih _ _ h
      exact ⟨by omega, by omega, this.2.2⟩
    · rcases List.mem_cons.mp h with rfl | h
      · exact ⟨Nat.le_refl _, by show k < k + (d + 1); omega, rfl⟩
      · have := ih _ _ h
        exact ⟨by omega, by omega, this.2.2⟩
/-- what the reference tells -/
def refF (n : Nat) (Rs : List Wp) (r : Wi × PS ⊕ PS) : Int32 := match r with
  | .inl (w, _) => (Int32.ofNat (pF (lexM n Rs) w.1))
  | .inr _ => if (acc r).isSome = true then (if opnM n Rs = true then (Int32.ofNat (n)) else -1) else (Int32.ofNat (n))
theorem fault_eq {b : GB} {n : Nat} {Rs : List Wp} (hno : ∀ x, x ∈ Rs.drop 1 → x.1.1 ≠ 7) : resC (pF Rs) n (run b (visl Rs) st0) = refF n Rs (run b (visl (lexM n Rs)) st0) ∧ ((acc (run b (visl Rs) st0)).isSome = true → lexM n Rs = Rs) := by
  cases Rs with
  | nil => exact ⟨rfl, fun _ => rfl⟩
  | cons x l =>
    have hl : ∀ y, y ∈ l → y.1.1 ≠ 7 := hno
    -- a failure ahead of the last word
    have old : ∀ (P : Nat → Nat) (w : Wi) (s : PS), (∀ i, i < l.length → P i = pF l i) → run b (visl l) st0 = .inl (w, s) → flt P w s = pF l w.1 := by
      intro P w s hP e
      have wm := vis_mem _ _ _ (run_mem (visl l).length _ _ _ _ (Nat.le_refl _) e)
      obtain ⟨y, y1, y2, y3⟩ := wF_mem l w.1 (by omega)
      unfold flt
      rw [if_neg (fun z => hl y y1 (by rw [← y2, ← wm.2.2]; exact z.2))]
      exact hP _ (by omega)
    by_cases q7 : x.1.1 = 7
    · have s7 : ∀ s, stA b x.1 s = none := fun s => by
        unfold stA stO
        rw [q7]
        split
        · rfl
        · rfl
      have ec : run b (visl (x :: l)) st0 = match run b (visl l) st0 with
          | .inl y => .inl y
          | .inr s => .inl ((l.length, x.1), s) := by
        rw [visl_cons, run_app (by rw [q7]; decide) _ _ _ (Nat.le_refl _)]
        cases run b (visl l) st0 with
        | inl y => rfl
        | inr s =>
          dsimp only
          rw [s7]
      have lm : lexM n (x :: l) = (if x.1.2 = n then ((0, 0), x.2) :: l else ((8, 0), x.1.2) :: ((0, 0), x.2) :: l) := if_pos q7
      have om : opnM n (x :: l) = (x.1.2 == n) := by
        show ((x.1.1 == 7) && (x.1.2 == n)) = _
        rw [q7]
        rfl
      rw [ec]
      constructor
      · have e1 : run b (visl (((0, 0), x.2) :: l)) st0 = match run b (visl l) st0 with
            | .inl y => .inl y
            | .inr s => match stA b (0, 0) s with
              | none => .inl ((l.length, (0, 0)), s)
              | some s' => .inr s' := by
          rw [visl_cons]
          exact run_app (w := (l.length, (0, 0))) (show (0 : Nat) ≠ 4 by decide) _ _ _ (Nat.le_refl _)
        have fin : ∀ (s : PS), stA b (0, 0) s = if s.2.2.2 = true then some (s.1, (0, 1) :: s.2.1, (((0, (Int32.ofNat (0)), -1, 0) : Nd), 1) :: s.2.2.1, false) else none := fun s => by
          unfold stA
          split
          · rfl
          · rfl
        by_cases qn : x.1.2 = n
        · rw [lm, if_pos qn, e1]
          cases hr : run b (visl l) st0 with
          | inl y =>
            obtain ⟨w, s⟩ := y
            show (Int32.ofNat (flt (pF (x :: l)) w s)) = (Int32.ofNat (pF (lexM n (x :: l)) w.1))
            have wm := vis_mem _ _ _ (run_mem (visl l).length _ _ _ _ (Nat.le_refl _) hr)
            rw [old (pF (x :: l)) w s (fun i hi => if_neg (show ¬ i = l.length by omega)) hr, lm, if_pos qn]
            congr 1
            exact (if_neg (by omega)).symm
          | inr s =>
            dsimp only
            rw [fin s]
            by_cases qs : s.2.2.2 = true
            · rw [if_pos qs]
              show (Int32.ofNat (flt (pF (x :: l)) (l.length, x.1) s)) = if _ then (if opnM n (x :: l) = true then (Int32.ofNat (n)) else -1) else (Int32.ofNat (n))
              unfold flt
              have e : (x.1.2 == n) = true := by simp [qn]
              rw [if_pos ⟨qs, q7⟩, om, if_pos e, qn]
              exact (ite_self _).symm
            · rw [if_neg qs]
              show (Int32.ofNat (flt (pF (x :: l)) (l.length, x.1) s)) = (Int32.ofNat (pF (lexM n (x :: l)) l.length))
              unfold flt
              rw [if_neg (fun z => qs z.1), lm, if_pos qn]
              congr 1
        · have e2 : run b (visl (((8, 0), x.1.2) :: ((0, 0), x.2) :: l)) st0 = match run b (visl (((0, 0), x.2) :: l)) st0 with
              | .inl y => .inl y
              | .inr s => .inl ((l.length + 1, (8, 0)), s) := by
            have ra := run_app (b := b) (w := (l.length + 1, (8, 0))) (show (8 : Nat) ≠ 4 by decide) _ (visl (((0, 0), x.2) :: l)) st0 (Nat.le_refl _)
            rw [visl_cons]
            refine ra.trans ?_
            cases run b (visl (((0, 0), x.2) :: l)) st0 with
            | inl y => rfl
            | inr s =>
              have : stA b (8, 0) s = none := by
                unfold stA stO
                split
                · rfl
                · rfl
              dsimp only
              rw [this]
          rw [lm, if_neg qn, e2, e1]
          cases hr : run b (visl l) st0 with
          | inl y =>
            obtain ⟨w, s⟩ := y
            show (Int32.ofNat (flt (pF (x :: l)) w s)) = (Int32.ofNat (pF (lexM n (x :: l)) w.1))
            have wm := vis_mem _ _ _ (run_mem (visl l).length _ _ _ _ (Nat.le_refl _) hr)
            rw [old (pF (x :: l)) w s (fun i hi => if_neg (show ¬ i = l.length by omega)) hr, lm, if_neg qn]
            congr 1
            exact ((if_neg (by show ¬ w.1 = l.length + 1; omega)).trans (if_neg (by omega))).symm
          | inr s =>
            dsimp only
            rw [fin s]
            by_cases qs : s.2.2.2 = true
            · rw [if_pos qs]
              show (Int32.ofNat (flt (pF (x :: l)) (l.length, x.1) s)) = (Int32.ofNat (pF (lexM n (x :: l)) (l.length + 1)))
              unfold flt
              rw [if_pos ⟨qs, q7⟩, lm, if_neg qn]
              congr 1
              exact (if_pos rfl).symm
            · rw [if_neg qs]
              show (Int32.ofNat (flt (pF (x :: l)) (l.length, x.1) s)) = (Int32.ofNat (pF (lexM n (x :: l)) l.length))
              unfold flt
              rw [if_neg (fun z => qs z.1), lm, if_neg qn]
              congr 1
              exact (if_pos rfl).trans ((if_neg (by show ¬ l.length = l.length + 1; omega)).trans (if_pos rfl)).symm
      · intro h
        cases hr : run b (visl l) st0 with
        | inl y => rw [hr] at h; cases h
        | inr s => rw [hr] at h; cases h
    · have lm : lexM n (x :: l) = x :: l := if_neg q7
      have om : opnM n (x :: l) = false := by
        show ((x.1.1 == 7) && (x.1.2 == n)) = _
        simp [q7]
      refine ⟨?_, fun _ => lm⟩
      rw [lm]
      cases hr : run b (visl (x :: l)) st0 with
      | inl y =>
        obtain ⟨w, s⟩ := y
        show (Int32.ofNat (flt (pF (x :: l)) w s)) = (Int32.ofNat (pF (lexM n (x :: l)) w.1))
        have wm := vis_mem _ _ _ (run_mem (visl (x :: l)).length _ _ _ _ (Nat.le_refl _) hr)
        obtain ⟨y, y1, y2, y3⟩ := wF_mem (x :: l) w.1 (by omega)
        unfold flt
        rw [lm, if_neg (fun z => by
          have e7 : y.1.1 = 7 := by rw [← y2, ← wm.2.2]; exact z.2
          rcases List.mem_cons.mp y1 with rfl | y1
          · exact q7 e7
          · exact hl y y1 e7)]
      | inr s =>
        show (if _ then (-1 : Int32) else (Int32.ofNat (n))) = (if _ then (if opnM n (x :: l) = true then (Int32.ofNat (n)) else -1) else (Int32.ofNat (n)))
        rw [om]
        rfl
/-- only the last word can be a number without digits -/
theorem lexS_no7 {c : Nat → Nat} {n : Nat} (hc : ∀ k, k < n → c k < 65536) : ∀ f i l, (∀ x, x ∈ l → x.1.1 ≠ 7) → ∀ x, x ∈ (lexS c n f i l).drop 1 → x.1.1 ≠ 7 := by
  intro f
  induction f with
  | zero => intro i l h x hx; exact h x (List.mem_of_mem_drop hx)
  | succ f ih =>
    intro i l h
    rw [lexS_c]
    have nx : ∀ w : Wp, w.1.1 ≠ 7 → ∀ x, x ∈ w :: l → x.1.1 ≠ 7 := fun w hw x hx => by
      rcases List.mem_cons.mp hx with rfl | hx
      · exact hw
      · exact h x hx
    split
    · exact fun x hx => h x (List.mem_of_mem_drop hx)
    · next qi =>
      have o3 := (otk_ok (hc i (by omega))).2.2.1
      split
      · exact ih _ _ h
      · split
        · split
          · exact h
          · exact ih _ _ (nx _ (show (0 : Nat) ≠ 7 by decide))
        · split
          · exact h
          · exact ih _ _ (nx _ o3)
section OF
variable {I : Nat → Nat → Int32} {J : Nat → Nat → Int64} {R : Nat → Nat → Option Nat} {t : GT} {s : GS} {b : GB} {n : GN} {f : GF} {v : GV} {q : Nat → GV} {p : GT} {r : GR} {h : GH} {β : Type}
theorem M_faultOf {c : Nat → Nat} {m : Nat} (hR : RA R) (hM : MTb I b) (hT : TbOK b) (h19 : I 4561 19 = (Int32.ofNat (m))) (hX : Tx I 4578 m c) (hm : m ≤ 60) : QK (f_X12_faultOf (mg 4625 I J R) 4561) (fun r => ∃ I', r = (refF m (lexS c m m 0 []) (run b (visl (lexM m (lexS c m m 0 []))) st0), mg 4625 I' J R) ∧ FrK (fun a k => Swm a k ∨ SMp a k) I I' ∧ ∀ ln, acc (run b (visl (lexM m (lexS c m m 0 []))) st0) = some ln → ∃ bs, bs.length = 1 ∧ MH3 I' b [] bs ln) := by
  unfold f_X12_faultOf f_X12_faultOf_j53
  rw [if_pos ok_4561]
  obtain ⟨_, e1, I1, rfl, hF1, hW1, h26⟩ := M_lex (J := J) hR h19 hX hm
  have hM1 : MTb I1 b := MTb_keep hM (fun a k g => hF1 a k (by unfold Swm; omega))
  have len := lexS_len (c := c) (n := m) m 0 [] (Nat.zero_le _)
  rw [show ([] : List Wp).length = 0 from rfl, Nat.zero_add, Nat.sub_zero] at len
  have len2 : (lexM m (lexS c m m 0 [])).length ≤ (lexS c m m 0 []).length + 1 := by
    cases lexS c m m 0 [] with
    | nil => exact Nat.zero_le _
    | cons x l =>
      show (if x.1.1 = 7 then _ else x :: l).length ≤ _
      split
      · split
        · exact Nat.le_succ _
        · exact Nat.le_refl _
      · exact Nat.le_succ _
  rw [e1, Option.bind_some, if_pos ok_4561]
  generalize lexS c m m 0 [] = Rs at *
  have n8 : nws (visl (lexM m Rs)) ≤ 80 := by
    have a1 := nws_len (visl (lexM m Rs))
    have a2 := vis_len (W := wF (lexM m Rs)) (g := fun _ => false) (lexM m Rs).length 0
    have : (visl (lexM m Rs)).length ≤ (lexM m Rs).length := a2
    omega
  obtain ⟨_, e2, I2, rfl, hF2, hA⟩ := M_parse (J := J) hR hM1 hT hW1 n8
  have hFF : FrK (fun a k => Swm a k ∨ SMp a k) I I2 := fun a k y => (hF2 a k (fun z => y (Or.inr z))).trans (hF1 a k (fun z => y (Or.inl z)))
  have h19' : I2 4561 19 = (Int32.ofNat (m)) := by
    rw [hF2 _ _ (by unfold SMp; omega), hF1 _ _ (by unfold Swm; omega)]
    exact h19
  have h26' : I2 4561 26 = (if opnM m Rs = true then 1 else 0) := (hF2 _ _ (by unfold SMp; omega)).trans h26
  have hW2 : MWl I2 (lexM m Rs) := MWl_keep hW1 (fun a k y => hF2 a k (by unfold SMp; omega))
  rw [e2, Option.bind_some]
  rw [show run b (vis (wF (lexM m Rs)) (fun _ => false) (lexM m Rs).length 0) st0 = run b (visl (lexM m Rs)) st0 from rfl] at hA ⊢
  cases hr : run b (visl (lexM m Rs)) st0 with
  | inl y =>
    obtain ⟨w, sx⟩ := y
    rw [hr] at hA
    have wm := vis_mem _ _ _ (run_mem (visl (lexM m Rs)).length _ _ _ _ (Nat.le_refl _) hr)
    unfold resM refF
    dsimp only
    have nn : ¬ (Int32.ofNat (w.1)) = (-1 : Int32) := fun y => by
      have := i32_0le (k := w.1) (by omega)
      rw [y] at this
      exact absurd this (by decide)
    rw [if_neg nn, gi_4561, hW2.2.1, if_neg (show ¬ (Int32.ofNat ((lexM m Rs).length)) ≤ (Int32.ofNat (w.1)) from fun y => absurd ((i32_le (by omega) (by omega)).mp y) (by omega)), gr_4561_22 hR, ga_4581 (by omega), (hW2.2.2 w.1 (by omega)).2.2.1]
    exact q_ok ⟨I2, rfl, hFF, hA⟩
  | inr sx =>
    rw [hr] at hA
    unfold resM refF
    dsimp only
    by_cases q : (acc (.inr sx)).isSome = true
    · rw [if_pos q, if_pos rfl, gi_4561, h26', if_pos q]
      by_cases o : opnM m Rs = true
      · rw [if_pos o, if_neg (by decide), gi_4561, h19', if_pos o]
        exact q_ok ⟨I2, rfl, hFF, hA⟩
      · rw [if_neg o, if_pos rfl, if_neg o]
        exact q_ok ⟨I2, rfl, hFF, hA⟩
    · have nn : ¬ (Int32.ofNat ((lexM m Rs).length)) = (-1 : Int32) := fun y => by
        have := i32_0le (k := (lexM m Rs).length) (by omega)
        rw [y] at this
        exact absurd this (by decide)
      rw [if_neg q, if_neg nn, gi_4561, hW2.2.1, if_pos (show (Int32.ofNat ((lexM m Rs).length)) ≤ (Int32.ofNat ((lexM m Rs).length)) from (i32_le (by omega) (by omega)).mpr (Nat.le_refl _)), gi_4561, h19', if_neg q]
      exact q_ok ⟨I2, rfl, hFF, hA⟩
theorem chr_t (H : CTy I t) : ∃ c : Nat → Nat, ∀ k, k < t.1 → I 10 k = (Int32.ofNat (c k)) ∧ c k < 65536 ∧ t.2 k = (Int32.ofNat (c k)) := by
  refine ⟨fun k => (t.2 k).toNatClampNeg, fun k hk => ?_⟩
  obtain ⟨h1, x, hx, h2⟩ := H.2.2 k hk
  have e : (t.2 k).toNatClampNeg = x := by rw [h2, i32_nat (by omega)]
  dsimp only
  rw [e]
  exact ⟨h1.trans h2, hx, h2⟩
/-- the class splits and reads what was typed -/
theorem C_typed {c : Nat → Nat} (hR : RA R) (H : InvC I t s b n f v q p r h) (hT : TbOK b) (hc : ∀ k, k < t.1 → I 10 k = (Int32.ofNat (c k)) ∧ c k < 65536 ∧ t.2 k = (Int32.ofNat (c k))) : ∃ I1 I2, f_X6_split (mg 4625 I J R) 540 10 (Int32.ofNat (t.1)) = some (mg 4625 I1 J R) ∧ f_X6_byStacks (mg 4625 I1 J R) 540 = some (resC (pF (lexS c t.1 t.1 0 [])) t.1 (run b (visl (lexS c t.1 t.1 0 [])) st0), mg 4625 I2 J R) ∧ (∀ x, ¬ (540 ≤ x ∧ x ≤ 558) → I2 x = I x) ∧ ∀ ln, acc (run b (visl (lexS c t.1 t.1 0 [])) st0) = some ln → ln.length ≤ 80 ∧ CN I2 551 ln.length (lnF ln) := by
  have t60 := H.1.1
  have len := lexS_len (c := c) (n := t.1) t.1 0 [] (Nat.zero_le _)
  rw [show ([] : List Wp).length = 0 from rfl, Nat.zero_add, Nat.sub_zero] at len
  obtain ⟨_, e1, I1, rfl, hF1, h6, hW1⟩ := C_split (J := J) (A := 10) (len := 60) (n := t.1) (c := c) hR H.2.2.1 ⟨by decide, rfl⟩ (Or.inl (by decide)) (by decide) (fun k hk => ⟨(hc k hk).1, (hc k hk).2.1⟩) t60 (by omega)
  have hC1 : CTb I1 b := CTb_keep H.2.2.1 (fun x hx => funext (fun k => hF1 x k (by unfold Swd; omega)))
  have n8 : nws (visl (lexS c t.1 t.1 0 [])) ≤ 80 := by
    have a1 := nws_len (visl (lexS c t.1 t.1 0 []))
    have a2 := vis_len (W := wF (lexS c t.1 t.1 0 [])) (g := fun _ => false) (lexS c t.1 t.1 0 []).length 0
    have : (visl (lexS c t.1 t.1 0 [])).length ≤ (lexS c t.1 t.1 0 []).length := a2
    omega
  obtain ⟨_, e2, I2, rfl, hF2, hA⟩ := C_byStacks (J := J) hR hC1 hT hW1 h6 n8
  refine ⟨I1, I2, e1, e2, fun x hx => funext (fun k => ?_), hA⟩
  rw [hF2 x k (by unfold SRd; omega), hF1 x k (by unfold Swd; omega)]
theorem InvC_rd (H : InvC I t s b n f v q p r h) {I' : Nat → Nat → Int32} (e : ∀ x, ¬ (540 ≤ x ∧ x ≤ 558) → x < 4561 → I' x = I x) : InvC I' t s b n f v q p r h := InvC_keep H (fun x hx => e x (by unfold DC at hx; omega) (by unfold DC at hx; omega))
theorem Tx_M {c : Nat → Nat} {I' : Nat → Nat → Int32} (H : MTy I' t) (hc : ∀ k, k < t.1 → I 10 k = (Int32.ofNat (c k)) ∧ c k < 65536 ∧ t.2 k = (Int32.ofNat (c k))) : Tx I' 4578 t.1 c := fun k hk => ⟨(H.2 k hk).trans (hc k hk).2.2, (hc k hk).2.1⟩
theorem o_fault (hR : RA R) (H : Inv I) : op_fault Pinv (mg 4625 I J R) := by
  obtain ⟨t, s, b, n, f, v, q, p, r, h, hC, hM, hO⟩ := H
  have hT := (OKH_top hO).1
  obtain ⟨c, hc⟩ := chr_t hC.1
  obtain ⟨I1, I2, e1, e2, g2, -⟩ := C_typed (J := J) hR hC hT hc
  have hM2 : InvM (thI I2 0) t s b n f v q p r h := InvM_C hM hC.2.1 (fun x k hx hk => by rw [thI_n hk, g2 x (by omega)])
  obtain ⟨_, e3, I3, rfl, g3, -⟩ := M_faultOf (J := J) (c := c) hR hM2.2.2.1 hT hM2.1.1 (Tx_M hM2.1 hc) hC.1.1
  have eq := (fault_eq (b := b) (n := t.1) (Rs := lexS c t.1 t.1 0 []) (lexS_no7 (fun k hk => (hc k hk).2.1) _ _ _ (fun x hx => by cases hx))).1
  refine ⟨resC (pF (lexS c t.1 t.1 0 [])) t.1 (run b (visl (lexS c t.1 t.1 0 [])) st0), mg 4625 I2 J R, mg 4625 I3 J R, ?_, ok_4561, ?_, ?_⟩
  · unfold f_X11_fault
    rw [gr_0_3 hR, gr_0_0 hR, gi_0, hC.1.2.1, if_pos ok_540, e1, Option.bind_some, gr_0_3 hR, if_pos ok_540, e2]
    rfl
  · show f_X12_fault _ 4561 = _
    unfold f_X12_fault
    rw [gs_4561, show up I2 4561 0 0 = thI I2 0 from rfl, if_pos ok_4561, e3, eq]
    rfl
  · have go : ∀ a k, ¬ (Swm a k ∨ SMp a k) → I3 a k = thI I2 0 a k := g3
    refine Pinv_mk hR (InvC_rd hC (fun x hx hx2 => funext (fun k => ?_))) (InvM_keep hM2 hC.2.1.1 (CSh_80 hC.2.1) (fun a k g => go a k (by unfold DM at g; unfold Swm SMp; omega))) hO
    rw [go x k (by unfold Swm SMp; omega), thI_n (by omega), g2 x (by omega)]
end OF
