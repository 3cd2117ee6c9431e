/-! derivatives: the reference's pieces -/
section MDV
variable {I : Nat → Nat → Int32} {J : Nat → Nat → Int64} {R : Nat → Nat → Option Nat} {β : Type} {b : GB} {T : Tt} {nm B a : Nat} {o : Option NL}
theorem n_m1 (x : Nat) : (Int32.ofNat (x + 1)) + (-1 : Int32) = (Int32.ofNat (x)) := (Int32.sub_eq_add_neg (Int32.ofNat (x + 1)) (1 : Int32)).symm.trans (n_sub (a := x + 1) (b := 1) (Nat.le_add_left 1 x))
theorem nl_lo {L A : NL} {i : Nat} (h : i < L.length) : nlN (L ++ A) i = nlN L i := by
  unfold nlN
  rw [List.getD_eq_getElem?_getD, List.getD_eq_getElem?_getD, List.getElem?_append_left h]
theorem nl_at {A : NL} {i : Nat} (L : NL) (h : L.length ≤ i) : nlN (L ++ A) i = nlN A (i - L.length) := by
  unfold nlN
  rw [List.getD_eq_getElem?_getD, List.getD_eq_getElem?_getD, List.getElem?_append_right h]
theorem nl_la {L : NL} {x : Nd} : nlN (L ++ [x]) L.length = x := by
  rw [nl_at L (Nat.le_refl _), Nat.sub_self]
  rfl
theorem sgc_dom : ∀ c, c < 128 → (∀ p, p < 16 → sgc p ≠ c) ∨ ∃ p, p < 16 ∧ sgc p = c := by decide +kernel
theorem sgc_mono : ∀ p, p < 16 → ∀ j, j < p → sgc j < sgc p := by decide +kernel
theorem sgc_rng : ∀ p, p < 16 → 32 < sgc p ∧ sgc p ≤ 126 := by decide +kernel
theorem plc_none : ∀ c, c < 128 → (∀ p, p < 16 → sgc p ≠ c) → plc c = -1 := by decide +kernel
theorem M_signNo {c : Nat} {F : Int32 → Option β} (hc : c < 128) (h : ∀ p, p < 16 → sgc p ≠ c) : (f_X12_signOf (mg 4625 I J R) (Int32.ofNat (c))).bind F = F (-1) := by
  rcases sgn_dom (k := c) (by omega) with ⟨-, h2⟩ | ⟨q, h1, h2, h3, h4⟩
  · rw [h2]
    rfl
  · rw [plc_none c hc h] at h3
    have := i32_0le (k := q) (by omega)
    rw [← h3] at this
    exact absurd this (by decide)
def lbG (b : GB) (m c : Nat) : Option Nat := (List.range 16).find? (fun p => decide (c < sgc p ∧ (b (32 + p)).1 ≠ 0 ∧ (b (32 + p)).2.2 = (Int32.ofNat (m))))
def lbW (o : Option Nat) : Int32 := match o with
  | none => -1
  | some p => (Int32.ofNat (sgc p))
theorem lbG_32 {m : Nat} : lbG b m 32 = lbF b m := by
  unfold lbG lbF
  cases e : (List.range 16).find? (fun p => decide ((b (32 + p)).1 ≠ 0 ∧ (b (32 + p)).2.2 = (Int32.ofNat (m)))) with
  | none =>
    rw [List.find?_range_eq_none] at e ⊢
    intro j hj
    have := e j hj
    rw [Bool.not_eq_true', decide_eq_false_iff_not] at this ⊢
    exact fun y => this y.2
  | some p =>
    rw [List.find?_range_eq_some] at e ⊢
    obtain ⟨e1, e2, e3⟩ := e
    rw [decide_eq_true_eq] at e1
    refine ⟨by rw [decide_eq_true_eq]; exact ⟨(sgc_rng p (List.mem_range.mp e2)).1, e1⟩, e2, fun j hj => ?_⟩
    have := e3 j hj
    rw [Bool.not_eq_true', decide_eq_false_iff_not] at this ⊢
    exact fun y => this y.2
theorem lbG_126 {m : Nat} : lbG b m 126 = none := by
  unfold lbG
  rw [List.find?_range_eq_none]
  intro j hj
  rw [Bool.not_eq_true', decide_eq_false_iff_not]
  exact fun y => absurd y.1 (by have := (sgc_rng j hj).2; omega)
theorem lbG_no {m c : Nat} (h : ∀ p, p < 16 → sgc p = c + 1 → ¬ ((b (32 + p)).1 ≠ 0 ∧ (b (32 + p)).2.2 = (Int32.ofNat (m)))) : lbG b m c = lbG b m (c + 1) := by
  have st : ∀ j, j < 16 → ((c < sgc j ∧ (b (32 + j)).1 ≠ 0 ∧ (b (32 + j)).2.2 = (Int32.ofNat (m))) ↔ (c + 1 < sgc j ∧ (b (32 + j)).1 ≠ 0 ∧ (b (32 + j)).2.2 = (Int32.ofNat (m)))) := fun j hj => by
    constructor
    · rintro ⟨h1, h2⟩
      refine ⟨?_, h2⟩
      by_cases z : sgc j = c + 1
      · exact absurd h2 (h j hj z)
      · omega
    · rintro ⟨h1, h2⟩
      exact ⟨by omega, h2⟩
  unfold lbG
  cases e : (List.range 16).find? (fun p => decide (c + 1 < sgc p ∧ (b (32 + p)).1 ≠ 0 ∧ (b (32 + p)).2.2 = (Int32.ofNat (m)))) with
  | none =>
    rw [List.find?_range_eq_none] at e ⊢
    intro j hj
    have := e j hj
    rw [Bool.not_eq_true', decide_eq_false_iff_not] at this ⊢
    exact fun y => this ((st j hj).mp y)
  | some p =>
    rw [List.find?_range_eq_some] at e ⊢
    obtain ⟨e1, e2, e3⟩ := e
    rw [decide_eq_true_eq] at e1
    have p16 := List.mem_range.mp e2
    refine ⟨by rw [decide_eq_true_eq]; exact (st p p16).mpr e1, e2, fun j hj => ?_⟩
    have := e3 j hj
    rw [Bool.not_eq_true', decide_eq_false_iff_not] at this ⊢
    exact fun y => this ((st j (by omega)).mp y)
theorem lbG_yes {m c p : Nat} (hp : p < 16) (hc : sgc p = c + 1) (h : (b (32 + p)).1 ≠ 0 ∧ (b (32 + p)).2.2 = (Int32.ofNat (m))) : lbG b m c = some p := by
  unfold lbG
  rw [List.find?_range_eq_some]
  refine ⟨by rw [decide_eq_true_eq]; exact ⟨by omega, h⟩, List.mem_range.mpr hp, fun j hj => ?_⟩
  rw [Bool.not_eq_true', decide_eq_false_iff_not]
  have := sgc_mono p hp j hj
  exact fun y => absurd y.1 (by omega)
theorem M_signBetween {m : Nat} (hR : RA R) (hB : MTb I b) (hO : TbOK b) (hm : m < 200) : f_X12_signBetween (mg 4625 I J R) 4561 (Int32.ofNat (m)) = some (lbW (lbF b m)) := by
  have key : QK (xloop (f_X12_signBetween_s5 (mg 4625 I J R)) xF (4561, (Int32.ofNat (m)), -1, 126)) (fun r => r = .inr (lbW (lbF b m))) := by
    refine q_loop (fun d s => d ≤ 94 ∧ s = (4561, (Int32.ofNat (m)), lbW (lbG b m (32 + d)), (Int32.ofNat (32 + d)))) ?_ (m := 94) ⟨by omega, by rw [lbG_126]; rfl⟩ (by unfold xF; omega)
    rintro d s ⟨hd, rfl⟩
    unfold f_X12_signBetween_s5
    dsimp only
    rw [q_let, q_let, q_let, q_let]
    cases d with
    | zero =>
      rw [if_pos (show (Int32.ofNat (32 + 0)) ≤ (32 : Int32) by decide)]
      exact q_ex (by rw [Nat.add_zero, lbG_32])
    | succ d =>
      rw [if_neg (show ¬ (Int32.ofNat (32 + (d + 1))) ≤ (32 : Int32) from fun y => absurd ((i32_le (m := 32) (by omega) (by omega)).mp y) (by omega))]
      have nx : lbG b m (32 + d) = lbG b m (32 + (d + 1)) → QK (f_X12_signBetween_j56 (mg 4625 I J R) 4561 (Int32.ofNat (m)) (lbW (lbG b m (32 + (d + 1)))) (Int32.ofNat (32 + (d + 1)))) (qS (fun s' => ∃ m', m' < d + 1 ∧ m' ≤ 94 ∧ s' = (4561, (Int32.ofNat (m)), lbW (lbG b m (32 + m')), (Int32.ofNat (32 + m')))) (fun r => r = .inr (lbW (lbF b m)))) := fun e => by
        unfold f_X12_signBetween_j56 f_X12_signBetween_j57
        rw [q_let, show (Int32.ofNat (32 + (d + 1))) + (-1 : Int32) = (Int32.ofNat (32 + d)) from n_m1 (32 + d), ← e]
        exact q_go ⟨d, Nat.lt_succ_self _, by omega, rfl⟩
      rcases sgc_dom (32 + (d + 1)) (by omega) with h | ⟨p, hp, hc⟩
      · rw [M_signNo (by omega) h, if_pos rfl]
        exact nx (lbG_no (fun p hp hc => absurd hc (h p hp)))
      · rw [← hc, M_signOf hp, hc]
        have e := hB p 2 hp (by decide)
        rw [show 2 * 16 + p = 32 + p by omega] at e
        have e1 : I 4575 (3 * sgp p + 2) = (b (32 + p)).1 := congrArg (fun q => q.1) e
        have e2 : I 4577 (3 * sgp p + 2) = (b (32 + p)).2.2 := congrArg (fun q => q.2.2) e
        have rk : (b (32 + p)).1 ≤ 0 ↔ (b (32 + p)).1 = 0 := by
          rcases hO.1 p 2 hp (by decide) with y | y
          · rw [show 2 * 16 + p = 32 + p by omega] at y
            rw [y]
            decide
          · rw [show 2 * 16 + p = 32 + p by omega] at y
            have y1 := y.1
            constructor
            · intro z
              exact absurd (Int32.le_trans y1.1 z) (by decide)
            · intro z
              rw [z]
              decide
        have sl := sgp_lt p hp
        rw [if_neg (show ¬ (Int32.ofNat (sgp p)) = (-1 : Int32) from fun y => absurd (show (0 : Int32) ≤ (Int32.ofNat (sgp p)) from i32_0le (by omega)) (by rw [y]; decide)), gr_4561_15 hR, show (3 : Int32) * (Int32.ofNat (sgp p)) + (2 : Int32) = (Int32.ofNat (3 * sgp p + 2)) by rw [show (3 : Int32) * (Int32.ofNat (sgp p)) = (Int32.ofNat (3 * sgp p)) from n_mul 3 _]; exact n_add _ 2, ga_4575 (by omega), e1]
        have only : ∀ q, q < 16 → sgc q = 32 + d + 1 → q = p := fun q hq hqc => by
          rcases Nat.lt_trichotomy q p with z | z | z
          · have := sgc_mono p hp q z
            omega
          · exact z
          · have := sgc_mono q hq p z
            omega
        by_cases z1 : (b (32 + p)).1 = 0
        · rw [if_pos (rk.mpr z1)]
          exact nx (lbG_no (fun q hq hqc y => by rw [only q hq hqc] at y; exact y.1 z1))
        rw [if_neg (fun y => z1 (rk.mp y)), gr_4561_17 hR, ga_4577 (by omega), e2]
        by_cases z2 : (b (32 + p)).2.2 = (Int32.ofNat (m))
        · rw [if_pos z2]
          unfold f_X12_signBetween_j57
          rw [q_let, show (Int32.ofNat (32 + (d + 1))) + (-1 : Int32) = (Int32.ofNat (32 + d)) from n_m1 (32 + d)]
          refine q_go ⟨d, Nat.lt_succ_self _, by omega, ?_⟩
          rw [lbG_yes hp (show sgc p = 32 + d + 1 by omega) ⟨z1, z2⟩]
          show _ = (4561, (Int32.ofNat (m)), (Int32.ofNat (sgc p)), (Int32.ofNat (32 + d)))
          rw [hc]
        · rw [if_neg z2]
          exact nx (lbG_no (fun q hq hqc y => by rw [only q hq hqc] at y; exact z2 y.2))
  obtain ⟨r, er, rfl⟩ := key
  unfold f_X12_signBetween f_X12_signBetween_j64
  rw [q_let, q_let, er]
  rfl
/-- what is being made -/
def MkM (I : Nat → Nat → Int32) (B : Nat) (o : Option NL) : Prop := I 4561 74 = (Int32.ofNat (B)) ∧ match o with
  | none => I 4561 75 = -1
  | some L => I 4561 75 = (Int32.ofNat (L.length)) ∧ L.length ≤ 80 ∧ MN I B L.length (nlN L)
def Sd (B : Nat) : Nat → Nat → Prop := fun x k => Sm B (B + 80) x k ∨ (x = 4561 ∧ k = 75)
def adM (o p : Option NL) : Option NL := match o with
  | none => none
  | some L => adO L p
def foM (o : Option NL) (ps : List (Option NL)) : Option NL := match o with
  | none => none
  | some L => fo L ps
theorem foM_c {p : Option NL} {ps : List (Option NL)} : foM o (p :: ps) = foM (adM o p) ps := by
  cases o with
  | none => rfl
  | some L =>
    show fo L (p :: ps) = foM (adO L p) ps
    rw [fo_c]
    rfl
def ApM (J : Nat → Nat → Int64) (R : Nat → Nat → Option Nat) (B : Nat) (o : Option NL) (I : Nat → Nat → Int32) (r : xM) : Prop := ∃ I', r = mg 4625 I' J R ∧ FrK (Sd B) I I' ∧ MkM I' B o
theorem am_seq {p : Option NL} {ps : List (Option NL)} {X : Option xM} {K : xM → Option xM} (h1 : QK X (ApM J R B (adM o p) I)) (hk : ∀ I', FrK (Sd B) I I' → MkM I' B (adM o p) → QK (K (mg 4625 I' J R)) (ApM J R B (foM (adM o p) ps) I')) : QK (X.bind K) (ApM J R B (foM o (p :: ps)) I) := by
  refine q_bind h1 ?_
  rintro _ ⟨I1, rfl, f1, m1⟩
  obtain ⟨y, ey, I2, rfl, f2, m2⟩ := hk I1 f1 m1
  exact ⟨_, ey, I2, rfl, FrK_tr f1 f2, by rw [foM_c]; exact m2⟩
theorem foM_nil : foM o [] = o := by
  cases o <;> rfl
theorem am_one {p : Option NL} {X : Option xM} (h1 : QK X (ApM J R B (adM o p) I)) : QK X (ApM J R B (foM o [p]) I) := by
  rw [foM_c, foM_nil]
  exact h1
theorem M_addN {k w f : Int32} {c : Nat} {p : Option NL} (hR : RA R) (hm : MkM I B o) (hB : B + 80 ≤ 20300) (hc : c ≤ 4) (hp : (k = 3 ∧ w = -1 ∧ p = none) ∨ (¬ (k = 3 ∧ w = -1) ∧ p = some [(k, w, f, c)])) : QK (f_X12_add (mg 4625 I J R) 4561 k w f (Int32.ofNat (c))) (ApM J R B (adM o p) I) := by
  have h19 : adM o p = none → QK (f_X12_add_j19 (mg 4625 I J R) 4561 k w f (Int32.ofNat (c))) (ApM J R B (adM o p) I) := fun e => by
    unfold f_X12_add_j19 f_X12_add_j24 f_X12_add_j59
    rw [gs_4561, gi_4561, up_s, if_pos (by decide), e]
    exact q_ok ⟨_, rfl, FrK_up FrK_rfl (by unfold Sd; omega), by rw [up_n (by omega)]; exact hm.1, up_s⟩
  have h24 : ∀ L, o = some L → L.length ≠ 80 → p = some [(k, w, f, c)] → QK (f_X12_add_j24 (mg 4625 I J R) 4561 k w f (Int32.ofNat (c))) (ApM J R B (adM o p) I) := fun L eo hl ep => by
    rw [eo] at hm
    obtain ⟨h1, h2, h3, h4⟩ := hm
    have h4b := h4.1
    unfold f_X12_add_j24 f_X12_add_j59
    rw [gi_4561, h2, if_neg (i32_nlt0 (by omega)), gi_4561, h1, gi_4561, h2, if_pos ok_4561, n_add, M_node hR (by omega), Option.bind_some, gi_4561, up_n (by omega), up_n (by omega), up_n (by omega), up_n (by omega), up_n (by omega), h2, gs_4561, show (Int32.ofNat (L.length)) + (1 : Int32) = (Int32.ofNat (L.length + 1)) from n_add _ 1, eo, ep]
    show QK _ (ApM J R B (if L.length + 1 ≤ 80 then some (L ++ [(k, w, f, c)]) else none) I)
    rw [if_pos (by omega)]
    have el : (L ++ [(k, w, f, c)]).length = L.length + 1 := by rw [List.length_append]; rfl
    refine q_ok ⟨_, rfl, ?_, ?_, ?_, ?_, ?_, ?_⟩
    · refine FrK_up (FrK_up (FrK_up (FrK_up (FrK_up (FrK_up FrK_rfl ?_) ?_) ?_) ?_) ?_) ?_
      all_goals (unfold Sd Sm; omega)
    · rw [up_n (by omega), up_n (by omega), up_n (by omega), up_n (by omega), up_n (by omega), up_n (by omega)]
      exact h1
    · rw [up_s, el]
    · rw [el]
      omega
    · rw [el]
      omega
    · intro i hi
      rw [el] at hi
      rw [up_n (by omega), up_n (by omega), up_n (by omega), up_n (by omega)]
      by_cases z : i = L.length
      · subst z
        have en : nlN (L ++ [(k, w, f, c)]) L.length = (k, w, f, c) := nl_la
        rw [en, up_n (by omega), up_s, up_n (by omega), up_n (by omega), up_n (by omega), up_n (by omega), up_s, up_n (by omega), up_n (by omega), up_n (by omega), up_s, up_n (by omega), up_n (by omega), up_s]
        exact ⟨rfl, rfl, rfl, rfl, hc⟩
      · have en : nlN (L ++ [(k, w, f, c)]) i = nlN L i := nl_lo (by omega)
        rw [en]
        repeat rw [up_n (by omega)]
        exact h4.2 i (by omega)
  unfold f_X12_add
  rw [gi_4561]
  cases o with
  | none =>
    have h2 : I 4561 75 = -1 := hm.2
    have j24 : QK (f_X12_add_j24 (mg 4625 I J R) 4561 k w f (Int32.ofNat (c))) (ApM J R B (adM none p) I) := by
      unfold f_X12_add_j24 f_X12_add_j59
      rw [gi_4561, h2, if_pos (by decide)]
      exact q_ok ⟨_, rfl, FrK_rfl, hm⟩
    rw [h2, if_neg (by decide)]
    split
    · split
      · exact h19 rfl
      · exact j24
    · exact j24
  | some L =>
    have h2 : I 4561 75 = (Int32.ofNat (L.length)) := hm.2.1
    have l80 : L.length ≤ 80 := hm.2.2.1
    rw [h2]
    by_cases z : L.length = 80
    · rw [if_pos (show (Int32.ofNat (L.length)) = (80 : Int32) by rw [z]; rfl)]
      refine h19 ?_
      rcases hp with ⟨-, -, rfl⟩ | ⟨-, rfl⟩
      · rfl
      · show (if L.length + 1 ≤ 80 then _ else none) = none
        rw [if_neg (by omega)]
    rw [if_neg (show ¬ (Int32.ofNat (L.length)) = (80 : Int32) from i32_ne (b := 80) (by omega) (by omega) z)]
    rcases hp with ⟨rfl, rfl, rfl⟩ | ⟨np, rfl⟩
    · rw [if_pos rfl, if_pos rfl]
      exact h19 rfl
    · by_cases k3 : k = 3
      · rw [if_pos k3, if_neg (fun y => np ⟨k3, y⟩)]
        exact h24 L rfl z rfl
      · rw [if_neg k3]
        exact h24 L rfl z rfl
theorem M_addNs {fr : Nat} {A : NL} (hR : RA R) (hm : MkM I B o) (hB : B + 80 ≤ 20300) (hA : MN I fr A.length (nlN A)) (h80 : A.length ≤ 80) (hf : fr + A.length ≤ B ∨ B + 80 ≤ fr) : QK (f_X12_addNodes (mg 4625 I J R) 4561 (Int32.ofNat (fr)) (Int32.ofNat (A.length))) (ApM J R B (adM o (some A)) I) := by
  have hf20 := hA.1
  unfold f_X12_addNodes
  rw [if_neg (i32_nlt0 (by omega)), gi_4561]
  cases o with
  | none =>
    have h2 : I 4561 75 = -1 := hm.2
    have j20 : ∀ I1 : Nat → Nat → Int32, FrK (Sd B) I I1 → MkM I1 B none → QK (f_X12_addNodes_j20 (mg 4625 I1 J R) 4561 (Int32.ofNat (fr)) (Int32.ofNat (A.length))) (ApM J R B (adM none (some A)) I) := fun I1 f1 m1 => by
      unfold f_X12_addNodes_j20 f_X12_addNodes_j52
      rw [gi_4561, show I1 4561 75 = -1 from m1.2, if_pos (by decide)]
      exact q_ok ⟨_, rfl, f1, m1⟩
    split
    · exact j20 I FrK_rfl hm
    · unfold f_X12_addNodes_j15
      rw [gs_4561]
      exact j20 _ (FrK_up FrK_rfl (by unfold Sd; omega)) ⟨by rw [up_n (by omega)]; exact hm.1, up_s⟩
  | some L =>
    obtain ⟨h1, h2, h3, h4⟩ := hm
    rw [h2, n_add]
    by_cases z : L.length + A.length ≤ 80
    · rw [if_pos (show (Int32.ofNat (L.length + A.length)) ≤ (80 : Int32) from (i32_le (m := 80) (by omega) (by omega)).mpr z)]
      unfold f_X12_addNodes_j20 f_X12_addNodes_j52
      rw [gi_4561, h2, if_neg (i32_nlt0 (by omega)), gi_4561, h1, gi_4561, h2, if_pos ok_4561, n_add]
      refine q_bind (M_copyNodes (to := B + L.length) (fr := fr) (m := A.length) hR (by omega) (by omega) (by omega)) ?_
      rintro _ ⟨I1, rfl, f1, c1⟩
      have e75 : I1 4561 75 = (Int32.ofNat (L.length)) := by rw [f1 _ _ (by unfold Sm; omega)]; exact h2
      rw [gi_4561, e75, n_add, gs_4561]
      show QK _ (ApM J R B (if L.length + A.length ≤ 80 then some (L ++ A) else none) I)
      rw [if_pos z]
      have el : (L ++ A).length = L.length + A.length := List.length_append
      refine q_ok ⟨_, rfl, FrK_up (FrK_mono f1 (fun x k y => by unfold Sm at y; unfold Sd Sm; omega)) (by unfold Sd; omega), ?_, ?_, ?_, ?_, ?_⟩
      · rw [up_n (by omega), f1 _ _ (by unfold Sm; omega)]
        exact h1
      · rw [up_s, el]
      · rw [el]
        exact z
      · rw [el]
        omega
      · intro i hi
        rw [el] at hi
        rw [up_n (by omega), up_n (by omega), up_n (by omega), up_n (by omega)]
        by_cases q : i < L.length
        · rw [f1 4565 _ (by unfold Sm; omega), f1 4566 _ (by unfold Sm; omega), f1 4567 _ (by unfold Sm; omega), f1 4568 _ (by unfold Sm; omega)]
          have en : nlN (L ++ A) i = nlN L i := nl_lo q
          rw [en]
          exact h4.2 i q
        · rw [nl_at L (by omega), show B + i = B + L.length + (i - L.length) by omega, c1 4565 _ (by omega) (by omega) (by omega), c1 4566 _ (by omega) (by omega) (by omega), c1 4567 _ (by omega) (by omega) (by omega), c1 4568 _ (by omega) (by omega) (by omega)]
          exact hA.2 (i - L.length) (by omega)
    · rw [if_neg (show ¬ (Int32.ofNat (L.length + A.length)) ≤ (80 : Int32) from fun y => z ((i32_le (m := 80) (by omega) (by omega)).mp y))]
      unfold f_X12_addNodes_j15 f_X12_addNodes_j20 f_X12_addNodes_j52
      rw [gs_4561, gi_4561, up_s, if_pos (by decide)]
      show QK _ (ApM J R B (if L.length + A.length ≤ 80 then some (L ++ A) else none) I)
      rw [if_neg z]
      exact q_ok ⟨_, rfl, FrK_up FrK_rfl (by unfold Sd; omega), by rw [up_n (by omega)]; exact h1, up_s⟩
theorem M_addNo {fr : Int32} (hm : MkM I B o) : QK (f_X12_addNodes (mg 4625 I J R) 4561 fr (-1)) (ApM J R B (adM o none) I) := by
  unfold f_X12_addNodes f_X12_addNodes_j15 f_X12_addNodes_j20 f_X12_addNodes_j52
  rw [if_pos (by decide), gs_4561, gi_4561, up_s, if_pos (by decide)]
  have e : adM o none = none := by
    cases o <;> rfl
  rw [e]
  exact q_ok ⟨_, rfl, FrK_up FrK_rfl (by unfold Sd; omega), by rw [up_n (by omega)]; exact hm.1, up_s⟩
end MDV
