/-! how deep what is held goes, with what may be hidden hidden -/
def lvP (p : List Hd) : Prop := ∀ x, x ∈ p → 0 < x.2.2.1
def lv0 (z : List Hd) : Prop := ∀ x t, z = x :: t → x.2.2.1 = 0
theorem lvP_nil : lvP [] := fun x h => by cases h
theorem lvP_cons {x : Hd} {p : List Hd} (hx : 0 < x.2.2.1) (h : lvP p) : lvP (x :: p) := fun y hy => by
  rcases List.mem_cons.mp hy with e | e
  · rw [e]
    exact hx
  · exact h y e
theorem lv0_cons {x : Hd} {z : List Hd} (hx : x.2.2.1 = 0) : lv0 (x :: z) := fun y t e => by
  rw [← (List.cons.inj e).1]
  exact hx
theorem red_pz {r : Nat} {z : List Hd} (hz : lv0 z) : ∀ (p : List Hd) (B : List Oe) (L : List Ln), lvP p → ∃ p' B' L', red r (p ++ z) B L = (p' ++ z, B', L') ∧ lvP p' ∧ p'.length ≤ p.length ∧ (r = 0 → p' = []) := by
  intro p
  induction p with
  | nil => exact fun B L _ => ⟨[], B, L, red_top (fun h t e => by rw [hz h t e]; exact Nat.zero_le _), lvP_nil, Nat.le_refl _, fun _ => rfl⟩
  | cons x p ih =>
    intro B L hp
    by_cases y : r < x.2.2.1
    · obtain ⟨p', B', L', h1, h2, h3, h4⟩ := ih ((x.2.2.2, szs (B.take (tkn x)) + 1) :: B.drop (tkn x)) ((hNd x, szs (B.take (tkn x)) + 1) :: L) (fun w hw => hp w (List.mem_cons_of_mem _ hw))
      refine ⟨p', B', L', ?_, h2, by rw [List.length_cons]; omega, h4⟩
      rw [← h1]
      exact if_pos y
    · refine ⟨x :: p, B, L, if_neg y, hp, Nat.le_refl _, fun e => ?_⟩
      have := hp x (List.mem_cons_self ..)
      omega
def DpN (b : GB) (T : SW) (g : Nat → Bool) (fin : List Ln) (S S' : SW) (k bd : Nat) : Prop := ∀ (p z : List Hd) (B : List Oe) (L : List Ln), lvP p → lv0 z → 2 * (p.length + z.length) + 3 * k ≤ bd → acc (run b (vw T g S.1.length) (p ++ z, B, L, true)) = some fin → ∃ p' B' L', lvP p' ∧ p'.length + 1 ≤ p.length + k ∧ acc (run b (vw T g S'.1.length) (p' ++ z, B', L', false)) = some fin ∧ (dOk b (vw T g S'.1.length) (p' ++ z, B', L', false) → dOk b (vw T g S.1.length) (p ++ z, B, L, true))
section DPT
variable {b : GB} {n J : Nat} {nd : Nat → Nd} {sp : Nat → Nat} {T : SW} {g : Nat → Bool} {fin : List Ln}
/-- what stands before an operand is no name -/
theorem hdN_at {S : SW} (hT : Suf S T) (hd : hdN S) (h0 : 0 < S.1.length) : (wF T.1 (S.1.length - 1)).1 ≠ 1 := by
  obtain ⟨X, e⟩ := hT
  rw [e, wF_app _ _ _ (by omega)]
  obtain ⟨l, t⟩ := S
  cases l with
  | nil => exact absurd h0 (Nat.lt_irrefl 0)
  | cons w l =>
    have := hd w l rfl
    show (wF (w :: l) (l.length + 1 - 1)).1 ≠ 1
    rw [Nat.add_sub_cancel, wF_s]
    exact this
/-- the brackets around an operand -/
theorem wrap_prd (h : WT n (aro nd) sp) (hn : ∀ i, i < n → NV b (nd i)) {f c : Nat} {S1 : SW} (hc : c < n) (hf : sp c ≤ f) (hd : hdN S1) (hS : Suf (clw S1.1.length (spl nd sp f c (adw (4, 40) S1))) T) : prd (wF T.1) T.1.length S1.1.length (spl nd sp f c (adw (4, 40) S1)).1.length := by
  have sg : Sg (adw (4, 40) S1) (spl nd sp f c (adw (4, 40) S1)) := spl_Sg h hn f c hc hf _ (hdN_adw (by first | decide | omega))
  have u1 := Suf_tr (Suf_clw _ _) hS
  have u0 := Suf_tr (spl_suf _ _ _) u1
  obtain ⟨b1, b2, b3⟩ := Bl_of sg u1
  obtain ⟨m2, w2⟩ := at_w u0
  obtain ⟨mc, wc⟩ := at_c hS
  have l1 : (adw (4, 40) S1).1.length = S1.1.length + 1 := rfl
  rw [l1] at b1 b2 b3
  have e2 : dD (wF T.1) (S1.1.length + 1) = dD (wF T.1) S1.1.length + 1 := by
    rw [dD_c, w2]
    rfl
  have ec : dD (wF T.1) ((spl nd sp f c (adw (4, 40) S1)).1.length + 1) = dD (wF T.1) (spl nd sp f c (adw (4, 40) S1)).1.length + -1 := by
    rw [dD_c, wc]
    rfl
  exact ⟨⟨by rw [w2], fun z => hdN_at (Suf_tr (Suf_adw _ _) u0) hd z⟩, by omega, mc, by rw [wc], by omega, fun k k1 k2 => by
    have := b3 k (by omega) k2
    omega⟩
theorem clS_0 {b : GB} {w : Wd} {H : List Hd} {B : List Oe} {L : List Ln} (h5 : w.1 = 5) : stA b w (H, B, L, false) = clS false (red 0 H B L) := by
  unfold stA
  rw [if_neg st_f, if_neg (by omega), if_pos h5]
theorem clS_6 {b : GB} {w : Wd} {H : List Hd} {B : List Oe} {L : List Ln} (h6 : w.1 = 6) : stA b w (H, B, L, false) = clS true (red 0 H B L) := by
  unfold stA
  rw [if_neg st_f, if_neg (by omega), if_neg (by omega), if_pos h6]
theorem dOk_f {b : GB} {w : Wi} {ws : List Wi} {H : List Hd} {B : List Oe} {L : List Ln} {st' : PS} (e : stA b w.2 (H, B, L, false) = some st') (h : dOk b ws st') : dOk b (w :: ws) (H, B, L, false) := dOk_i (fun y => by cases y) (fun y => by rw [isCl_f rfl] at y; cases y) (fun _ st2 e2 => by
  rw [e] at e2
  rw [← Option.some.inj e2]
  exact h)
theorem dOk_t {b : GB} {w : Wi} {ws : List Wi} {H : List Hd} {B : List Oe} {L : List Ln} {st' : PS} (hl : H.length ≤ 140) (hc : isCl w (H, B, L, true) ws = false) (e : stA b w.2 (H, B, L, true) = some st') (h : dOk b ws st') : dOk b (w :: ws) (H, B, L, true) := dOk_i (fun _ => hl) (fun y => by rw [hc] at y; cases y) (fun _ st2 e2 => by
  rw [e] at e2
  rw [← Option.some.inj e2]
  exact h)
/-- an operand, of which one knows how deep it goes -/
theorem dep_op (h : WT n (aro nd) sp) (hn : ∀ i, i < n → NV b (nd i)) (hg : HG (wF T.1) T.1.length J g) {f c : Nat} {x : Nd} {S1 : SW} (hc : c < n) (hf : sp c ≤ f) (h3 : x.1 = 3) (hd : hdN S1) (hS1 : Suf (spO (spl nd sp f) x (nd c) c S1) T) (hN1 : ∀ w l, vw T g (spO (spl nd sp f) x (nd c) c S1).1.length = w :: l → w.2.1 ≠ 4) {bd : Nat} (hb : bd ≤ 283) (hb2 : (nd c).1 = 3 → (nd c).2.2.1 = 0 → g S1.1.length = false → bd ≤ 282)
    (ih : ∀ S, hdN S → Suf (spl nd sp f c S) T → (∀ w l, vw T g (spl nd sp f c S).1.length = w :: l → w.2.1 ≠ 4) → ∀ e, e ≤ 2 → (e ≠ 0 → (nd c).1 = 3 ∧ ∃ a, S.1.length = a + 1 ∧ g a = false ∧ prd (wF T.1) T.1.length a (spl nd sp f c S).1.length) → ((nd c).2.2.1 = 0 → e ≤ 1) → DpN b T g fin S (spl nd sp f c S) (sp c) (283 + e)) : DpN b T g fin S1 (spO (spl nd sp f) x (nd c) c S1) (sp c) bd := by
  have s1 := (h.2.2.2 c hc).1
  unfold spO at hS1 hN1 ⊢
  by_cases y3 : (nd c).1 = 3
  · rw [if_pos ⟨h3, y3⟩] at hS1 hN1 ⊢
    have l0 : (adw (4, 40) S1).1.length = S1.1.length + 1 := rfl
    have l2 : (clw S1.1.length (spl nd sp f c (adw (4, 40) S1))).1.length = (spl nd sp f c (adw (4, 40) S1)).1.length + 1 := rfl
    have u1 := Suf_tr (Suf_clw _ _) hS1
    have u0 := Suf_tr (spl_suf f c (adw (4, 40) S1)) u1
    have pr := wrap_prd h hn hc hf hd hS1
    obtain ⟨m1, w1⟩ := at_w u0
    obtain ⟨m2, w2⟩ := at_c hS1
    have gg := HG_p hg pr
    rw [l2] at hN1
    have kO : ∀ {st : PS} {ws : List Wi}, isCl (S1.1.length, wF T.1 S1.1.length) st ws = false := fun {st ws} => isCl_k (by show (wF T.1 S1.1.length).1 ≠ 1; rw [w1]; exact (by decide : (4 : Nat) ≠ 1)) ws
    cases e : g S1.1.length with
    | true =>
      rw [e] at gg
      have d := ih (adw (4, 40) S1) (hdN_adw (by first | decide | omega)) u1 (fun w l ew => by
        rw [vw_h m2 gg.symm] at ew
        exact hN1 w l ew) 0 (by first | decide | omega) (fun z => absurd rfl z) (fun _ => by decide)
      intro p z B L hp hz hl ha
      show ∃ p' B' L', lvP p' ∧ p'.length + 1 ≤ p.length + sp c ∧ acc (run b (vw T g ((spl nd sp f c (adw (4, 40) S1)).1.length + 1)) (p' ++ z, B', L', false)) = some fin ∧ _
      have d := d p z B L hp hz (by omega)
      rw [show (adw (4, 40) S1).1.length = S1.1.length + 1 from rfl, ← vw_h m1 e, vw_h m2 gg.symm] at d
      exact d ha
    | false =>
      rw [e] at gg
      intro p z B L hp hz hl ha
      show ∃ p' B' L', lvP p' ∧ p'.length + 1 ≤ p.length + sp c ∧ acc (run b (vw T g ((spl nd sp f c (adw (4, 40) S1)).1.length + 1)) (p' ++ z, B', L', false)) = some fin ∧ _
      have eO : stA b (wF T.1 S1.1.length) (p ++ z, B, L, true) = some ((0, 0, 0, 0) :: (p ++ z), B, L, true) := by
        rw [w1]
        rfl
      rw [vw_c m1 e] at ha ⊢
      rw [acc_w kO eO] at ha
      by_cases q0 : (nd c).2.2.1 = 0
      · have hb3 := hb2 y3 q0 e
        obtain ⟨p', B', L', d1, d2, d3, d4⟩ := ih (adw (4, 40) S1) (hdN_adw (by first | decide | omega)) u1 (fun w l ew => by
          rw [vw_c m2 gg.symm] at ew
          rw [← (List.cons.inj ew).1]
          show (wF T.1 _).1 ≠ 4
          rw [w2]
          exact (by decide : (5 : Nat) ≠ 4)) 1 (by first | decide | omega) (fun _ => ⟨y3, S1.1.length, rfl, e, pr⟩) (fun _ => by decide) [] ((0, 0, 0, 0) :: (p ++ z)) B L lvP_nil (lv0_cons rfl) (by rw [List.length_cons, List.length_append, List.length_nil]; omega) ha
        rw [vw_c m2 gg.symm] at d3 d4
        obtain ⟨X, x1, x2⟩ := acc_n d3 (isCl_f rfl _)
        obtain ⟨p2, B2, L2, r1, -, -, r4⟩ := red_pz (r := 0) (z := (0, 0, 0, 0) :: (p ++ z)) (lv0_cons rfl) p' B' L' d1
        have x3 := x1
        rw [show stA b (((spl nd sp f c (adw (4, 40) S1)).1.length, wF T.1 (spl nd sp f c (adw (4, 40) S1)).1.length) : Wi).2 _ = _ from clS_0 (by rw [w2]), r1, r4 rfl] at x3
        have x3 := (Option.some.inj x3).symm
        subst x3
        exact ⟨p, _, _, hp, by omega, x2, fun hk => dOk_t (by rw [List.length_append]; omega) kO eO (d4 (dOk_f x1 hk))⟩
      · obtain ⟨p', B', L', d1, d2, d3, d4⟩ := ih (adw (4, 40) S1) (hdN_adw (by first | decide | omega)) u1 (fun w l ew => by
          rw [vw_c m2 gg.symm] at ew
          rw [← (List.cons.inj ew).1]
          show (wF T.1 _).1 ≠ 4
          rw [w2]
          exact (by decide : (5 : Nat) ≠ 4)) 2 (by first | decide | omega) (fun _ => ⟨y3, S1.1.length, rfl, e, pr⟩) (fun z => absurd z q0) [] ((0, 0, 0, 0) :: (p ++ z)) B L lvP_nil (lv0_cons rfl) (by rw [List.length_cons, List.length_append, List.length_nil]; omega) ha
        rw [vw_c m2 gg.symm] at d3 d4
        obtain ⟨X, x1, x2⟩ := acc_n d3 (isCl_f rfl _)
        obtain ⟨p2, B2, L2, r1, -, -, r4⟩ := red_pz (r := 0) (z := (0, 0, 0, 0) :: (p ++ z)) (lv0_cons rfl) p' B' L' d1
        have x3 := x1
        rw [show stA b (((spl nd sp f c (adw (4, 40) S1)).1.length, wF T.1 (spl nd sp f c (adw (4, 40) S1)).1.length) : Wi).2 _ = _ from clS_0 (by rw [w2]), r1, r4 rfl] at x3
        have x3 := (Option.some.inj x3).symm
        subst x3
        exact ⟨p, _, _, hp, by omega, x2, fun hk => dOk_t (by rw [List.length_append]; omega) kO eO (d4 (dOk_f x1 hk))⟩
  · rw [if_neg (fun y => y3 y.2)] at hS1 hN1 ⊢
    have d := ih S1 hd hS1 hN1 0 (by first | decide | omega) (fun z => absurd rfl z) (fun _ => by decide)
    exact fun p z B L hp hz hl ha => d p z B L hp hz (by omega) ha
end DPT
