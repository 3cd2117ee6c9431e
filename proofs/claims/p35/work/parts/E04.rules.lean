/-! a rule keeps the value of the tree -/
section RLV
variable {b : GB} {T : Tt} {p q : Nat}
theorem VV_smP (hT : TtO b T) (h80 : T.1 ≤ 80) (hp : p < T.1) (hq : q < T.1) (hs : smP T p q) {ρ : En} {v : Rat} (e : VV b T.2.1 T.2.2 p ρ = some v) : VV b T.2.1 T.2.2 q ρ = some v :=
  VV_shift hT.1 hT.1 (by omega) (T.2.2 p) p q (Nat.le_refl _) hp hq (fun j hj => ⟨(hs.2 j hj).symm, (sp_same hT.1 hp hq hs.1 hs.2 (T.2.2 p - j) j (by omega) (by omega)).symm⟩) ρ v e
/-- the tree of a part in place of the whole -/
theorem VV_tIn (hT : TtO b T) (h80 : T.1 ≤ 80) (hp : p < T.1) (hop : (T.2.1 p).1 = 3) (h1 : p < q) (h2 : q < p + T.2.2 p) (H : ∀ ρ v, VV b T.2.1 T.2.2 p ρ = some v → VV b T.2.1 T.2.2 q ρ = some v) : ∀ ρ v, VV b T.2.1 T.2.2 0 ρ = some v → VV b (tIn T p q).2.1 (tIn T p q).2.2 0 ρ = some v := by
  have wp := hT.1.2.2.2 p hp
  have qn : q < T.1 := by omega
  have wq := hT.1.2.2.2 q qn
  have inn := lam' hT.1 hp h1 h2
  have w2 : WT (T.2.2 q) (aro (fun j => T.2.1 (q + j))) (fun j => T.2.2 (q + j)) := WT_sub hT.1 qn
  have key := VV_rep (b := b) (m := T.2.2 q) (nd2 := fun j => T.2.1 (q + j)) (sp2 := fun j => T.2.2 (q + j)) hT.1 w2 hp hop (by omega) (fun ρ v e => VV_shift (nd := T.2.1) (sp := T.2.2) (nd' := fun j => T.2.1 (q + j)) (sp' := fun j => T.2.2 (q + j)) hT.1 w2 (by omega) (T.2.2 q) q 0 (Nat.le_refl _) qn (by omega) (fun j hj => by
    rw [Nat.zero_add]
    exact ⟨rfl, rfl⟩) ρ v (H ρ v e))
  exact key
theorem WT_one (v : Int32) : WT 1 (aro (fun _ => ((0 : Int32), v, (-1 : Int32), 0))) (fun _ => 1) :=
  ⟨by decide, by decide, rfl, fun i hi => ⟨Nat.le_refl _, by show i + 1 ≤ 1; omega, rfl, fun k hk => absurd hk (Nat.not_lt_zero k)⟩⟩
theorem VV_tNum {w : Nat} (hT : TtO b T) (h80 : T.1 ≤ 80) (hp : p < T.1) (hop : (T.2.1 p).1 = 3) (hw : w ≤ 999999999) (H : ∀ ρ v, VV b T.2.1 T.2.2 p ρ = some v → v = NR w) : ∀ ρ v, VV b T.2.1 T.2.2 0 ρ = some v → VV b (tNum T p w).2.1 (tNum T p w).2.2 0 ρ = some v := by
  have wp := hT.1.2.2.2 p hp
  have vn : ∀ ρ, VV b (fun _ => ((0 : Int32), (Int32.ofNat (w)), (-1 : Int32), 0)) (fun _ => 1) 0 ρ = some (NR w) := fun ρ => by
    rw [VV_num rfl rfl]
    unfold vN
    rw [i32_nat (by omega)]
    rfl
  have key := VV_rep (b := b) (m := 1) (nd2 := fun _ => ((0 : Int32), (Int32.ofNat (w)), (-1 : Int32), 0)) (sp2 := fun _ => 1) hT.1 (WT_one (Int32.ofNat (w))) hp hop (by omega) (fun ρ v e => by rw [H ρ v e]; exact vn ρ)
  exact key
theorem isN_V {i : Nat} {v : Nat} (hT : TtO b T) (hi : i < T.1) (h : isNm (T.2.1 i) v) {ρ : En} : VV b T.2.1 T.2.2 i ρ = some (NR v) := by
  have a0 : aro T.2.1 i = 0 := by
    rcases hT.2 i hi with y | y | y | y
    · exact y.2.2.2
    · exact y.2.2.2
    · have z := h.1; rw [y.1] at z; exact absurd z (by decide)
    · have z := h.1; rw [y.1] at z; exact absurd z (by decide)
  rw [VV_num h.1 a0, h.2]
  rfl
theorem rl2_val {m r : Nat} {T' : Tt} (hT : TtO b T) (hO : TbOK b) (h80 : T.1 ≤ 80) (hp : p < T.1) (hm : mz b (T.2.1 p) = m) (hm5 : m ≤ 5) (h : rl2 b T p m (p + 1) (kid T.2.2 p 1) = some (r, T')) : ∀ ρ v, VV b T.2.1 T.2.2 0 ρ = some v → VV b T'.2.1 T'.2.2 0 ρ = some v := by
  obtain ⟨h3, h2⟩ := mz_two hO (hT.2 p hp) (by omega : mz b (T.2.1 p) ≤ 10)
  have h2 : aro T.2.1 p = 2 := h2
  obtain ⟨k0, an, cn, -, pc, cp, sp3, kk⟩ := two_kids hT hp h2
  have em : mgN b (T.2.1 p) = m := by
    rw [← hm]
    unfold mz
    rw [if_pos h3]
  have inv : ∀ ρ v, VV b T.2.1 T.2.2 p ρ = some v → ∃ x y, VV b T.2.1 T.2.2 (p + 1) ρ = some x ∧ VV b T.2.1 T.2.2 (kid T.2.2 p 1) ρ = some y ∧ d2 m x y = some v := fun ρ v e => by
    have := (VV_two hT.1 (by omega) hp h3 h2 (by omega)).mp e
    rw [em] at this
    exact this
  generalize hc : kid T.2.2 p 1 = c at *
  have ap : p + 1 < p + T.2.2 p := by omega
  have v9 : ∀ i, i < T.1 → vN (T.2.1 i) ≤ 999999999 := fun i hi => (NV_v (hT.2 i hi)).2.1
  unfold rl2 at h
  split at h
  · next w hw =>
    cases h
    split at hw
    · next z =>
      refine VV_tNum hT h80 hp h3 (capN_le hw) (fun ρ v e => ?_)
      obtain ⟨x, y, e1, e2, e3⟩ := inv ρ v e
      rw [isN_V hT an ⟨z.1, rfl⟩] at e1
      rw [isN_V hT cn ⟨z.2, rfl⟩] at e2
      cases e1
      cases e2
      exact d2_whole hm5 (v9 _ an) hw e3
    · cases hw
  split at h
  · next _ _ z =>
    cases h
    refine VV_tIn hT h80 hp h3 pc cp (fun ρ v e => ?_)
    obtain ⟨x, y, e1, e2, e3⟩ := inv ρ v e
    rw [isN_V hT an z.2] at e1
    cases e1
    rw [z.1] at e3
    unfold d2 at e3
    rw [if_pos rfl, NR_0] at e3
    rw [e2, ← e3]
    congr 1
    grind
  split at h
  · next _ _ _ z =>
    cases h
    refine VV_tIn hT h80 hp h3 (Nat.lt_succ_self p) ap (fun ρ v e => ?_)
    obtain ⟨x, y, e1, e2, e3⟩ := inv ρ v e
    rw [isN_V hT cn z.2] at e2
    cases e2
    rw [e1, ← e3]
    rcases z.1 with q | q
    · rw [q]
      unfold d2
      rw [if_pos rfl, NR_0]
      congr 1
      grind
    · rw [q]
      unfold d2
      rw [if_neg (by decide), if_pos rfl, NR_0]
      congr 1
      grind
  split at h
  · next _ _ _ _ z =>
    cases h
    refine VV_tIn hT h80 hp h3 pc cp (fun ρ v e => ?_)
    obtain ⟨x, y, e1, e2, e3⟩ := inv ρ v e
    rw [isN_V hT an z.2] at e1
    cases e1
    rw [z.1] at e3
    unfold d2 at e3
    rw [if_neg (by decide), if_neg (by decide), if_pos rfl, NR_1] at e3
    rw [e2, ← e3]
    congr 1
    grind
  split at h
  · next _ _ _ _ _ z =>
    cases h
    refine VV_tIn hT h80 hp h3 (Nat.lt_succ_self p) ap (fun ρ v e => ?_)
    obtain ⟨x, y, e1, e2, e3⟩ := inv ρ v e
    rw [isN_V hT cn z.2] at e2
    cases e2
    rw [e1, ← e3]
    rcases z.1 with q | q | q
    · rw [q]
      unfold d2
      rw [if_neg (by decide), if_neg (by decide), if_pos rfl, NR_1]
      congr 1
      grind
    · rw [q]
      unfold d2
      rw [if_neg (by decide), if_neg (by decide), if_neg (by decide), if_pos rfl, NR_1, if_neg (by decide)]
      congr 1
      grind
    · rw [q]
      unfold d2
      rw [if_neg (by decide), if_neg (by decide), if_neg (by decide), if_neg (by decide), if_pos rfl, NR_1, if_neg (by decide), if_neg (fun y => absurd y.2 (by decide)), if_neg (by decide), if_pos (by decide)]
      congr 1
      show x = x ^ 1
      rw [Rat.pow_succ, Rat.pow_zero, Rat.one_mul]
  split at h
  · next _ _ _ _ _ _ z =>
    cases h
    refine VV_tNum hT h80 hp h3 (by decide) (fun ρ v e => ?_)
    obtain ⟨x, y, e1, e2, e3⟩ := inv ρ v e
    rw [z.1] at e3
    unfold d2 at e3
    rw [if_neg (by decide), if_neg (by decide), if_pos rfl] at e3
    rw [← Option.some.inj e3, NR_0]
    rcases z.2 with q | q
    · rw [isN_V hT an q] at e1
      cases e1
      rw [NR_0]
      grind
    · rw [isN_V hT cn q] at e2
      cases e2
      rw [NR_0]
      grind
  split at h
  · next _ _ _ _ _ _ _ z =>
    cases h
    refine VV_tNum hT h80 hp h3 (by split <;> decide) (fun ρ v e => ?_)
    obtain ⟨x, y, e1, e2, e3⟩ := inv ρ v e
    rw [VV_smP hT h80 an cn z.2 e1] at e2
    cases e2
    rcases z.1 with q | q
    · rw [q] at e3 ⊢
      unfold d2 at e3
      rw [if_neg (by decide), if_pos rfl] at e3
      rw [if_neg (by decide), ← Option.some.inj e3, NR_0]
      grind
    · rw [q] at e3 ⊢
      unfold d2 at e3
      rw [if_neg (by decide), if_neg (by decide), if_neg (by decide), if_pos rfl] at e3
      split at e3
      · cases e3
      next n0 =>
      rw [if_pos rfl, ← Option.some.inj e3, NR_1]
      grind
  split at h
  · next _ _ _ _ _ _ _ _ z =>
    cases h
    obtain ⟨z0, za, zc, zn1, zn2, zs, z9⟩ := z
    obtain ⟨a2, a3, a4, a5, a6⟩ := alk_kids hT hO an za zn1
    obtain ⟨c2, c3, c4, c5, c6⟩ := alk_kids hT hO cn zc zn2
    obtain ⟨ma3, -⟩ := mz_two hO (hT.2 (p + 1) an) (by omega)
    obtain ⟨mc3, -⟩ := mz_two hO (hT.2 c cn) (by omega)
    have ema : mgN b (T.2.1 (p + 1)) = 2 := by
      rw [← za]
      unfold mz
      rw [if_pos ma3]
    have emc : mgN b (T.2.1 c) = 2 := by
      rw [← zc]
      unfold mz
      rw [if_pos mc3]
    generalize hw : vN (T.2.1 (p + 1 + 1)) + vN (T.2.1 (c + 1)) = w at *
    have hT1 : TtO b (tVal T (p + 1 + 1) w) := tVal_O hT a3 zn1 z9
    have la : p + 1 + T.2.2 (p + 1) ≤ p + T.2.2 p := lam' hT.1 hp (Nat.lt_succ_self p) ap
    have sa := (hT.1.2.2.2 (p + 1) an).1
    have sa2 : p + 1 + 1 < p + 1 + T.2.2 (p + 1) := by
      have := (kid_in hT.1 an (show 0 < aro T.2.1 (p + 1) by omega))
      have e0 : kid T.2.2 (p + 1) 0 = p + 1 + 1 := rfl
      have g := (hT.1.2.2.2 _ this.2.1).1
      omega
    have eT : tIn (tVal T (p + 1 + 1) w) p (p + 1) = (T.1 - T.2.2 p + T.2.2 (p + 1), rpn T.2.1 p (T.2.2 p) (fun j => (tVal T (p + 1 + 1) w).2.1 (p + 1 + j)) (T.2.2 (p + 1)), rps T.2.2 p (T.2.2 p) (fun j => T.2.2 (p + 1 + j)) (T.2.2 (p + 1))) := by
      show (_, _, _) = (_, _, _)
      congr 2
      funext i
      unfold rpn
      show (if i < p then (if i = p + 1 + 1 then _ else T.2.1 i) else if i < p + T.2.2 (p + 1) then _ else (if i - T.2.2 (p + 1) + T.2.2 p = p + 1 + 1 then _ else T.2.1 (i - T.2.2 (p + 1) + T.2.2 p))) = _
      by_cases y1 : i < p
      · rw [if_pos y1, if_pos y1, if_neg (by omega)]
      · rw [if_neg y1, if_neg y1]
        by_cases y2 : i < p + T.2.2 (p + 1)
        · rw [if_pos y2, if_pos y2]
        · rw [if_neg y2, if_neg y2, if_neg (by omega)]
    rw [eT]
    have wp := hT.1.2.2.2 p hp
    have w1 : WT (T.2.2 (p + 1)) (aro (fun j => (tVal T (p + 1 + 1) w).2.1 (p + 1 + j))) (fun j => T.2.2 (p + 1 + j)) := WT_sub hT1.1 an
    refine VV_rep (b := b) (m := T.2.2 (p + 1)) (nd2 := fun j => (tVal T (p + 1 + 1) w).2.1 (p + 1 + j)) (sp2 := fun j => T.2.2 (p + 1 + j)) hT.1 w1 hp h3 (by omega) (fun ρ v e => ?_)
    obtain ⟨x, y, e1, e2, e3⟩ := inv ρ v e
    obtain ⟨xa, xb, f1, f2, f3⟩ := (VV_two hT.1 (by omega) an ma3 a2 (by omega)).mp e1
    obtain ⟨ya, yb, g1, g2, g3⟩ := (VV_two hT.1 (by omega) cn mc3 c2 (by omega)).mp e2
    rw [isN_V hT a3 ⟨zn1, rfl⟩] at f1
    rw [isN_V hT c3 ⟨zn2, rfl⟩] at g1
    cases f1
    cases g1
    rw [a5] at f2
    rw [c5] at g2
    rw [VV_smP hT h80 a6 c6 zs f2] at g2
    cases g2
    rw [ema] at f3
    rw [emc] at g3
    rw [z0] at e3
    unfold d2 at e3 f3 g3
    rw [if_pos rfl] at e3
    rw [if_neg (by decide), if_neg (by decide), if_pos rfl] at f3 g3
    have ev : v = NR w * xb := by
      rw [← Option.some.inj e3, ← Option.some.inj f3, ← Option.some.inj g3, ← hw, ← NR_add]
      grind
    -- the new product
    have t1 : VV b (tVal T (p + 1 + 1) w).2.1 T.2.2 (p + 1) ρ = some v := by
      have en : (tVal T (p + 1 + 1) w).2.1 (p + 1) = T.2.1 (p + 1) := if_neg (by omega)
      refine (VV_two (nd := (tVal T (p + 1 + 1) w).2.1) (i := p + 1) hT1.1 (by show T.1 ≤ 99; omega) an (by rw [en]; exact ma3) (by unfold aro; rw [en]; exact a2) (by rw [en]; omega)).mpr ⟨NR w, xb, ?_, ?_, ?_⟩
      · have e5 : isNm ((tVal T (p + 1 + 1) w).2.1 (p + 1 + 1)) w := by
          show (if p + 1 + 1 = p + 1 + 1 then ((T.2.1 (p + 1 + 1)).1, (Int32.ofNat (w)), (T.2.1 (p + 1 + 1)).2.2) else T.2.1 (p + 1 + 1)).1 = 0 ∧ vN (if p + 1 + 1 = p + 1 + 1 then ((T.2.1 (p + 1 + 1)).1, (Int32.ofNat (w)), (T.2.1 (p + 1 + 1)).2.2) else T.2.1 (p + 1 + 1)) = w
          rw [if_pos rfl]
          exact ⟨zn1, by unfold vN; rw [i32_nat (by omega)]⟩
        exact isN_V hT1 a3 e5
      · show VV b (tVal T (p + 1 + 1) w).2.1 T.2.2 (kid T.2.2 (p + 1) 1) ρ = some xb
        rw [a5]
        refine VV_shift (nd := T.2.1) (sp := T.2.2) (nd' := (tVal T (p + 1 + 1) w).2.1) (sp' := T.2.2) hT.1 hT1.1 (by show T.1 ≤ 99; omega) (T.2.2 (p + 1 + 2)) (p + 1 + 2) (p + 1 + 2) (Nat.le_refl _) a6 a6 (fun j hj => ⟨if_neg (by omega), rfl⟩) ρ xb f2
      · rw [en, ema]
        unfold d2
        rw [if_neg (by decide), if_neg (by decide), if_pos rfl, ev]
    exact VV_shift (nd := (tVal T (p + 1 + 1) w).2.1) (sp := T.2.2) (nd' := fun j => (tVal T (p + 1 + 1) w).2.1 (p + 1 + j)) (sp' := fun j => T.2.2 (p + 1 + j)) hT1.1 w1 (by omega) (T.2.2 (p + 1)) (p + 1) 0 (Nat.le_refl _) an (by omega) (fun j hj => by
      rw [Nat.zero_add]
      exact ⟨rfl, rfl⟩) ρ v t1
  · cases h
theorem rl_val {r : Nat} {T' : Tt} (hT : TtO b T) (hO : TbOK b) (h80 : T.1 ≤ 80) (hp : p < T.1) (h : rl b T p = some (r, T')) : ∀ ρ v, VV b T.2.1 T.2.2 0 ρ = some v → VV b T'.2.1 T'.2.2 0 ρ = some v := by
  unfold rl at h
  split at h
  · next z =>
    cases h
    obtain ⟨h3, h1⟩ := mz_one hO (hT.2 p hp) (by omega) (by omega)
    have h1 : aro T.2.1 p = 1 := h1
    obtain ⟨g1, g2, g3⟩ := kid_in hT.1 hp (show 0 < aro T.2.1 p by omega)
    have e0 : kid T.2.2 p 0 = p + 1 := rfl
    rw [e0] at g2 g3
    obtain ⟨h3', h1'⟩ := mz_one hO (hT.2 (p + 1) g2) (by omega) (by omega)
    have h1' : aro T.2.1 (p + 1) = 1 := h1'
    obtain ⟨q1, q2, q3⟩ := kid_in hT.1 g2 (show 0 < aro T.2.1 (p + 1) by omega)
    have e1 : kid T.2.2 (p + 1) 0 = p + 2 := rfl
    rw [e1] at q2 q3
    have q4 := (hT.1.2.2.2 _ q2).1
    have em : mgN b (T.2.1 p) = 11 := by
      have := z.1
      unfold mz at this
      rw [if_pos h3] at this
      exact this
    have em' : mgN b (T.2.1 (p + 1)) = 11 := by
      have := z.2
      unfold mz at this
      rw [if_pos h3'] at this
      exact this
    refine VV_tIn hT h80 hp h3 (by omega) (by omega) (fun ρ v e => ?_)
    obtain ⟨x, f1, f2⟩ := (VV_one hT.1 (by omega) hp h3 h1 (by omega) (by omega)).mp e
    obtain ⟨y, g1, g2⟩ := (VV_one hT.1 (by omega) g2 h3' h1' (by omega) (by omega)).mp f1
    rw [em, d1_neg] at f2
    rw [em', d1_neg] at g2
    show VV b T.2.1 T.2.2 (p + 2) ρ = some v
    rw [g1, ← Option.some.inj f2, ← Option.some.inj g2]
    congr 1
    grind
  · split at h
    · next z => exact rl2_val hT hO h80 hp rfl z h
    · cases h
/-- a step, and so many steps -/
theorem stL_val (hT : TtO b T) (hO : TbOK b) (h80 : T.1 ≤ 80) : ∀ m q, q + m = T.1 → ∀ k i T', stL b T m q = some (k, i, T') → ∀ ρ v, VV b T.2.1 T.2.2 0 ρ = some v → VV b T'.2.1 T'.2.2 0 ρ = some v := by
  intro m
  induction m with
  | zero => intro q _ k i T' h; cases h
  | succ m ih =>
    intro q hq k i T' h
    rw [stL_c] at h
    have hi : ip T q < T.1 := by
      obtain ⟨j, hj, ej⟩ := pl_sur hT.1 (show q < T.1 by omega)
      rw [← ej, ip_pl hT.1 hj]
      exact hj
    cases e : rl b T (ip T q) with
    | none => rw [e] at h; exact ih (q + 1) (by omega) k i T' h
    | some r =>
      obtain ⟨r1, r2⟩ := r
      rw [e] at h
      cases h
      exact rl_val hT hO h80 hi e
theorem stN_val (hO : TbOK b) : ∀ m T, TtO b T → T.1 ≤ 80 → ∀ ρ v, VV b T.2.1 T.2.2 0 ρ = some v → VV b (stN b m T).2.2.1 (stN b m T).2.2.2 0 ρ = some v := by
  intro m
  induction m with
  | zero => intro T _ _ ρ v e; exact e
  | succ m ih =>
    intro T hT h80 ρ v e
    cases h : stw b T with
    | none => rw [stN_none h]; exact e
    | some r =>
      obtain ⟨k, i, T'⟩ := r
      rw [stN_some h]
      obtain ⟨o1, o2, -⟩ := stw_O hT hO h80 h
      exact ih T' o1 (by omega) ρ v (stL_val hT hO h80 T.1 0 (by omega) k i T' h ρ v e)
end RLV
