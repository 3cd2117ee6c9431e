/-! brackets about a part that is one anyway may come back -/
section UNH
variable {b : GB} {T : SW} {g : Nat → Bool} {n : Nat} {nd : Nat → Nd} {sp : Nat → Nat}
theorem pst_leaf (h : WT n (aro nd) sp) (hn : ∀ i, i < n → NV b (nd i)) : ∀ f c, c < n → sp c ≤ f → ∃ C z, lfN z ∧ ∀ l, pst nd sp f c l = C ++ z :: l := by
  intro f
  induction f with
  | zero =>
    intro c hc hf
    have := (h.2.2.2 c hc).1
    omega
  | succ f ih =>
    intro c hc hf
    by_cases z : aro nd c = 0
    · refine ⟨[], nd c, ?_, fun l => ?_⟩
      · rcases hn c hc with y | y | y | y
        · exact Or.inl y.1
        · exact Or.inr y.1
        · have := y.2.2.2.1
          have z : (nd c).2.2.2 = 0 := z
          omega
        · obtain ⟨-, p, fx, -, -, -, -, y6, -⟩ := y
          have z : (nd c).2.2.2 = 0 := z
          rw [y6] at z
          split at z <;> cases z
      · show nd c :: psA (pst nd sp f) sp c (aro nd c) l = _
        rw [z]
        rfl
    · have args : ∀ k, k < aro nd c → ∃ C z, lfN z ∧ ∀ l, psA (pst nd sp f) sp c (k + 1) l = C ++ z :: l := by
        intro k
        induction k with
        | zero =>
          intro hk
          obtain ⟨a1, a2, a3⟩ := kid_sp h hc hk
          exact ih (kid sp c 0) a1 (by omega)
        | succ k ihk =>
          intro hk
          obtain ⟨a1, a2, a3⟩ := kid_sp h hc hk
          obtain ⟨C, z, z1, z2⟩ := ihk (by omega)
          obtain ⟨C', z', z3, z4⟩ := ih _ a1 (by omega)
          refine ⟨C' ++ z' :: C, z, z1, fun l => ?_⟩
          show pst nd sp f (kid sp c (k + 1)) (psA (pst nd sp f) sp c (k + 1) l) = _
          rw [z2, z4, List.append_assoc]
          rfl
      obtain ⟨C, z, z1, z2⟩ := args (aro nd c - 1) (by omega)
      refine ⟨nd c :: C, z, z1, fun l => ?_⟩
      show nd c :: psA (pst nd sp f) sp c (aro nd c) l = _
      have := z2 l
      rw [show aro nd c - 1 + 1 = aro nd c by omega] at this
      rw [this]
      rfl
theorem shpF (hO : TbOK b) {y : Nat} (nv : NV b (nd y)) (q3 : (nd y).1 = 3) : ∃ p fx, p < 16 ∧ nd y = opNd p fx ∧ 0 < rkN b p fx ∧ ((fx = 0 ∧ aro nd y = 1 ∧ ∀ f S, spl nd sp (f + 1) y S = spO (spl nd sp f) (nd y) (nd (kid sp y 0)) (kid sp y 0) (adw (3, p) S)) ∨ (fx = 1 ∧ aro nd y = 1 ∧ ∀ f S, spl nd sp (f + 1) y S = adw (3, p) (spO (spl nd sp f) (nd y) (nd (kid sp y 0)) (kid sp y 0) S)) ∨ (fx = 2 ∧ aro nd y = 2 ∧ ∀ f S, spl nd sp (f + 1) y S = spO (spl nd sp f) (nd y) (nd (kid sp y 1)) (kid sp y 1) (adw (3, p) (spO (spl nd sp f) (nd y) (nd (kid sp y 0)) (kid sp y 0) S)))) := by
  obtain ⟨p, fx, hp, hfx, ex, ew, hb⟩ := sgw_p nv q3
  have rp := rk_pos hO hp hfx hb
  have e221 : (nd y).2.2.1 = (Int32.ofNat (fx)) := by rw [ex]; rfl
  have ear : aro nd y = if fx = 2 then 2 else 1 := by
    show (nd y).2.2.2 = _
    rw [ex]
    rfl
  have n2 : ¬ (nd y).1 = 2 := by rw [q3]; decide
  refine ⟨p, fx, hp, ex, rp, ?_⟩
  rcases (by omega : fx = 0 ∨ fx = 1 ∨ fx = 2) with rfl | rfl | rfl
  · refine Or.inl ⟨rfl, ear, fun f S => ?_⟩
    have sB : spB (nd y) S = adw (3, p) S := by
      unfold spB
      rw [if_pos q3, if_pos (by rw [e221]; rfl), ew]
    have sC : ∀ S1, spC (nd y) S1 = S1 := fun S1 => by
      unfold spC
      rw [if_pos q3, if_neg (by rw [e221]; decide)]
    rw [spl_c, sB, sC, show aro nd y = 1 from ear, spA_c]
    rfl
  · refine Or.inr (Or.inl ⟨rfl, ear, fun f S => ?_⟩)
    have sB : spB (nd y) S = S := by
      unfold spB
      rw [if_pos q3, if_neg (by rw [e221]; decide)]
    have sC : ∀ S1, spC (nd y) S1 = adw (3, p) S1 := fun S1 => by
      unfold spC
      rw [if_pos q3, if_pos (by rw [e221]; rfl), ew]
    rw [spl_c, sB, sC, show aro nd y = 1 from ear, spA_c]
    rfl
  · refine Or.inr (Or.inr ⟨rfl, ear, fun f S => ?_⟩)
    have sB : spB (nd y) S = S := by
      unfold spB
      rw [if_pos q3, if_neg (by rw [e221]; decide)]
    have sC : ∀ S1, spC (nd y) S1 = S1 := fun S1 => by
      unfold spC
      rw [if_pos q3, if_neg (by rw [e221]; decide)]
    have sI : ∀ S1, spI (nd y) 1 S1 = adw (3, p) S1 := fun S1 => by
      unfold spI
      rw [if_neg (by decide), if_neg n2, ew]
    rw [spl_c, sB, sC, show aro nd y = 2 from ear, spA_c, spA_c, sI]
    rfl
/-- where the node of what is held comes next, it is popped next: brackets would have done the same -/
theorem popN {X : Hd} {H : List Hd} {Bs B : List Oe} {L L' : List Ln} {ws : List Wi} {ln : List Ln} (s : Nat) (hx : 0 < X.2.2.1) (e : acc (run b ws (X :: H, Bs, L, false)) = some ln) (hq : (hNd X :: mF L) <:+ mF ln) (hL : mF L' = hNd X :: mF L) (hB : Bs.drop (tkn X) = B) : ∃ ln', acc (run b ws (H, (0, s) :: B, L', false)) = some ln' ∧ mF ln = mF ln' := by
  have eq : Eqr X.2.2.1 (X :: H, Bs, L, false) (H, (X.2.2.2, szs (Bs.take (tkn X)) + 1) :: B, (hNd X, szs (Bs.take (tkn X)) + 1) :: L, false) := ⟨rfl, rfl, fun r hr => by
    have e : red r (X :: H) Bs L = if r < X.2.2.1 then red r H ((X.2.2.2, szs (Bs.take (tkn X)) + 1) :: Bs.drop (tkn X)) ((hNd X, szs (Bs.take (tkn X)) + 1) :: L) else (X :: H, Bs, L) := rfl
    show red r (X :: H) Bs L = red r H ((X.2.2.2, szs (Bs.take (tkn X)) + 1) :: B) ((hNd X, szs (Bs.take (tkn X)) + 1) :: L)
    rw [e, if_pos hr, hB]⟩
  have he : ends b X.2.2.1 ws := by
    intro w l ew k3
    subst ew
    obtain ⟨st, s1, s2⟩ := acc_n e (isCl_f rfl _)
    refine Classical.byContradiction (fun hr => ?_)
    obtain ⟨f1, f2⟩ := run_sfx _ _ _ (Nat.le_refl _) _ s2
    have s1 : stA b w.2 (X :: H, Bs, L, false) = some st := s1
    have rd : ∀ r, ¬ r < X.2.2.1 → red r (X :: H) Bs L = (X :: H, Bs, L) := fun r y => by
      have e : red r (X :: H) Bs L = if r < X.2.2.1 then red r H ((X.2.2.2, szs (Bs.take (tkn X)) + 1) :: Bs.drop (tkn X)) ((hNd X, szs (Bs.take (tkn X)) + 1) :: L) else (X :: H, Bs, L) := rfl
      rw [e, if_neg y]
    unfold stA at s1
    rw [if_neg (show ¬ false = true by decide), if_pos k3] at s1
    unfold rkE at hr
    unfold stS at s1
    dsimp only at s1
    by_cases z : 0 < rkN b w.2.2 1
    · rw [if_pos z] at s1 hr
      rw [rd _ hr] at s1
      cases s1
      have := (sfx_same (mF_sfx f1) hq rfl).1
      have : (opNd w.2.2 1).2.2.1 = (hNd X).2.2.1 := by rw [← this]
      unfold hNd opNd at this
      dsimp only at this
      by_cases q : X.1 = 3
      · rw [if_pos q] at this
        exact absurd this (by decide)
      · rw [if_neg q] at this
        exact absurd this (by decide)
    · rw [if_neg z] at s1 hr
      by_cases z2 : rkN b w.2.2 2 = 0
      · rw [if_pos z2] at s1
        cases s1
      rw [if_neg z2, rd _ hr] at s1
      by_cases z3 : (Bs.headD (0, 0)).1 = rkN b w.2.2 2
      · rw [if_pos z3] at s1
        cases s1
      rw [if_neg z3] at s1
      cases s1
      obtain ⟨x, sx, x1, x2⟩ := f2 rfl
      have := (sfx_same (mF_sfx x2) hq rfl).1
      have this : x = hNd X := this
      rw [this] at x1
      exact hNd_n X x1
  rw [run_eqr hx he eq] at e
  refine run_br _ _ _ _ (Nat.le_refl _) ?_ ln e
  exact ⟨rfl, ⟨Or.inr rfl, brl_r B⟩, by show hNd X :: mF L = mF L'; rw [hL], rfl⟩
theorem lnF_at (l : List Ln) (x : Ln) : lnF (x :: l) l.length = x.1 ∧ ∀ k, k < l.length → lnF (x :: l) k = lnF l k := by
  refine ⟨?_, fun k hk => ?_⟩
  · show ext (lnF l) l.length x.1 l.length = _
    unfold ext
    rw [if_pos rfl]
  · show ext (lnF l) l.length x.1 k = _
    unfold ext
    rw [if_neg (by omega)]
theorem lnF_ext : ∀ (l l' : List Ln), l.length = l'.length → (∀ k, k < l.length → lnF l k = lnF l' k) → mF l = mF l' := by
  intro l
  induction l with
  | nil =>
    intro l' e _
    cases l' with
    | nil => rfl
    | cons x l' => cases e
  | cons x l ih =>
    intro l' e h
    cases l' with
    | nil => cases e
    | cons y l' =>
      rw [List.length_cons, List.length_cons] at e
      have e : l.length = l'.length := by omega
      have h0 := h l.length (by rw [List.length_cons]; omega)
      rw [(lnF_at l x).1, e, (lnF_at l' y).1] at h0
      have h1 := ih l' e (fun k hk => by
        have := h k (by rw [List.length_cons]; omega)
        rwa [(lnF_at l x).2 k hk, (lnF_at l' y).2 k (by omega)] at this)
      show x.1 :: mF l = y.1 :: mF l'
      rw [h0, h1]
theorem unhide (hO : TbOK b) (h : WT n (aro nd) sp) (h200 : n ≤ 200) (hn : ∀ i, i < n → NV b (nd i)) (eT : T = spl nd sp 200 0 S0) (hg : Hh (wF T.1) T.1.length g) {j c : Nat} (hp : prd (wF T.1) T.1.length j c) (gj : g j = true) (gc : g c = true) (ins : ∀ k, j < k → k < c → g k = false) (G : GoodW b (wF T.1) T.1.length n nd sp g) : GoodW b (wF T.1) T.1.length n nd sp (hs j c false g) := by
  obtain ⟨ln, r1, r2, r3⟩ := G
  have G0 := good0 hO h h200 hn
  rw [← eT] at G0
  have hA := adjB_at (run_adjB _ _ st0 (Nat.le_refl _) (by
    obtain ⟨ln, e, -⟩ := G0
    rw [e]
    rfl))
  obtain ⟨l0, z1, z2, z3⟩ := G0
  have eP : mF ln = mF l0 := lnF_ext _ _ (by omega) (fun k hk => by
    obtain ⟨i, i1, i2⟩ := pl_sur h (p := k) (by omega)
    rw [← i2, ← r3 i i1, z3 i i1])
  have jc := hp.2.1
  have cm := hp.2.2.1
  obtain ⟨f, y, S1, hy, hf, q3, hd, hS, ej⟩ := lnk h hn 200 0 h.1 (by have := h.2.2.1; omega) S0 (fun w l e => by cases e) (by rw [← eT]; exact Suf_rfl T) j (Nat.zero_le _) (by rw [← eT]; omega) hp.1
  subst ej
  have ec := mt_c (prd_mt hp) (prd_mt (wrap_prd h hn hy hf hd hS))
  have hg' : Hh (wF T.1) T.1.length (hs S1.1.length c false g) := fun k hk => by
    unfold hs at hk
    split at hk
    · cases hk
    · exact hg k hk
  have hne : ∀ k, k ≠ S1.1.length → k ≠ c → hs S1.1.length c false g k = g k := fun k y1 y2 => if_neg (fun y => y.elim y1 y2)
  have hz : Hh (wF T.1) T.1.length (fun _ => false) := fun k y => by cases y
  obtain ⟨X, Y, e1, e2, x1, x0, x2⟩ := lock (b := b) (l := ln) (l0 := l0) hg hg' hA (by omega) hp.1 (fun k hk => hne k (by omega) (by omega)) S1.1.length 0 (Nat.zero_add _) (fun y => ⟨y, fun w => absurd w (Nat.lt_irrefl _)⟩) st0 st0 rfl rfl r1 z1
  have fY : Y.2.2.2 = true := by
    rw [vw_c (by omega) rfl] at x0
    obtain ⟨Y', y1, -⟩ := acc_n x0 (isCl_k (by show (wF T.1 S1.1.length).1 ≠ 1; rw [hp.1.1]; decide) _)
    exact (stA_fl y1).2.2.2.1 hp.1.1
  rw [fY] at e1
  obtain ⟨H, B, L, fl⟩ := X
  obtain ⟨H0, B0, L0, fl0⟩ := Y
  have e1 : fl = true := e1
  have fY : fl0 = true := fY
  subst e1
  subst fY
  have e2 : lc (mF L) = lc (mF L0) := e2
  have l1 : (adw (4, 40) S1).1.length = S1.1.length + 1 := rfl
  have l2 : (clw S1.1.length (spl nd sp f y (adw (4, 40) S1))).1.length = c + 1 := by rw [ec]; rfl
  have wc5 : (wF T.1 c).1 = 5 := hp.2.2.2.1
  -- the words with the brackets about them
  have op : ∀ (q : Nat → Bool), (∀ i, S1.1.length ≤ i → i ≤ c → q i = false) → Hh (wF T.1) T.1.length q → OpF b nd sp T q S1 (clw S1.1.length (spl nd sp f y (adw (4, 40) S1))) y := fun q hq1 hq => by
    have := opdF (b := b) (T := T) (g := q) (x := nd y) (S1 := S1) (c := y) (f := f) hO h hn hy hf q3
    unfold spO at this
    rw [if_pos ⟨q3, q3⟩] at this
    refine this hS (fun i i1 i2 => hq1 i i1 (by omega)) ?_
    rw [l2]
    exact nx4 hq hA (T.1.length - (c + 1)) (c + 1) (by omega) (fun w => hA c w wc5)
  obtain ⟨s, L', a1, -, -, -, a2⟩ := op (hs S1.1.length c false g) (fun i i1 i2 => by
    unfold hs
    by_cases w : i = S1.1.length ∨ i = c
    · rw [if_pos w]
    · rw [if_neg w]
      exact ins i (by omega) (by omega)) hg' H B L
  obtain ⟨s0, L0', b1, -, -, -, b2⟩ := op (fun _ => false) (fun _ _ _ => rfl) hz H0 B0 L0
  rw [b1] at x0
  have p0 : mF L0' <:+ mF ln := by
    rw [eP]
    exact mF_sfx (run_sfx _ _ _ (Nat.le_refl _) _ x0).1
  have a2 := a2 f hf
  have b2 := b2 f hf
  have a2 : mF L' = pst nd sp f y (mF L) := a2
  have b2 : mF L0' = pst nd sp f y (mF L0) := b2
  rw [b2] at p0
  -- it is enough to go on behind the part
  suffices hh : ∃ ln', acc (run b (vw T g (c + 1)) (H, (0, s) :: B, L', false)) = some ln' ∧ mF ln = mF ln' by
    obtain ⟨ln', c1, c2⟩ := hh
    obtain ⟨c3, c4⟩ := lnF_map ln ln' c2
    refine ⟨ln', ?_, by omega, fun x hx => by rw [r3 x hx, c4]⟩
    have ev : vw T (hs S1.1.length c false g) (c + 1) = vw T g (c + 1) := vis_g _ _ (fun i i1 _ => hne i (by omega) (by omega))
    show acc (run b (vw T (hs S1.1.length c false g) 0) st0) = _
    rw [x2, a1, l2, ev]
    exact c1
  have hs1 := (h.2.2.2 y hy).1
  obtain ⟨f, rfl⟩ : ∃ f', f = f' + 1 := ⟨f - 1, by omega⟩
  obtain ⟨p, fx, hp16, ex, rp, sh⟩ := shpF (sp := sp) hO (hn y hy) q3
  have kc : 0 < aro nd y := by rcases sh with w | w | w <;> omega
  have hk0 := kid_sp h hy kc
  obtain ⟨C1, zz1, lz1, pz1⟩ := pst_leaf h hn f (kid sp y 0) hk0.1 (by omega)
  have u1 := Suf_tr (Suf_clw _ _) hS
  rw [vw_h (by omega) gj] at x1
  -- an operand
  have opd : ∀ (k : Nat) (S : SW), k < aro nd y → Suf (spO (spl nd sp f) (nd y) (nd (kid sp y k)) (kid sp y k) S) T → S1.1.length < S.1.length → (spO (spl nd sp f) (nd y) (nd (kid sp y k)) (kid sp y k) S).1.length ≤ c → (((spO (spl nd sp f) (nd y) (nd (kid sp y k)) (kid sp y k) S).1.length < T.1.length) → (wF T.1 (spO (spl nd sp f) (nd y) (nd (kid sp y k)) (kid sp y k) S).1.length).1 ≠ 4) → OpF b nd sp T g S (spO (spl nd sp f) (nd y) (nd (kid sp y k)) (kid sp y k) S) (kid sp y k) := fun k S hk hT o1 o2 o3 => by
    have hkk := kid_sp h hy hk
    refine opdF hO h hn hkk.1 (by omega) q3 hT (fun i i1 i2 => ins i (by omega) (by omega)) ?_
    exact nx4 hg hA (T.1.length - _) _ (by have := Suf_len hT; omega) o3
  have same : ∀ L1, mF L1 = pst nd sp f (kid sp y 0) (mF L) → L1 <:+ ln → (pst nd sp f (kid sp y 0) (mF L0)) <:+ mF ln → mF L = mF L0 := fun L1 m1 m2 m3 => by
    have m2 := mF_sfx m2
    rw [m1, pz1] at m2
    rw [pz1] at m3
    have m2 : (zz1 :: mF L) <:+ mF ln := List.IsSuffix.trans ⟨C1, rfl⟩ m2
    have m3 : (zz1 :: mF L0) <:+ mF ln := List.IsSuffix.trans ⟨C1, rfl⟩ m3
    exact (sfx_same m2 m3 (sfx_leaf lz1 lz1 m2 m3 e2)).2
  rcases sh with ⟨rfl, ar, es⟩ | ⟨rfl, ar, es⟩ | ⟨rfl, ar, es⟩
  · -- ahead
    have ep : ∀ l, pst nd sp (f + 1) y l = nd y :: pst nd sp f (kid sp y 0) l := fun l => by
      show nd y :: psA (pst nd sp f) sp y (aro nd y) l = _
      rw [ar]
      rfl
    rw [es] at u1 ec
    have u0 := Suf_tr (spO_suf (x := nd y) (y := nd (kid sp y 0)) (spl_suf (nd := nd) (sp := sp) f (kid sp y 0)) (adw (3, p) (adw (4, 40) S1))) u1
    obtain ⟨m2, w2⟩ := at_w u0
    rw [l1] at m2 w2
    have ll := Suf_len (spO_suf (x := nd y) (y := nd (kid sp y 0)) (spl_suf (nd := nd) (sp := sp) f (kid sp y 0)) (adw (3, p) (adw (4, 40) S1)))
    have l3 : (adw (3, p) (adw (4, 40) S1)).1.length = S1.1.length + 2 := rfl
    rw [l3] at ll
    rw [vw_c m2 (ins _ (by omega) (by omega)), w2] at x1
    obtain ⟨X1, s1, x1⟩ := acc_n x1 (isCl_k (by show (3 : Nat) ≠ 1; decide) _)
    have s1 : (if (3 : Nat) = 3 then (if 0 < rkN b p 0 then some (((2, p, rkN b p 0 + 1, 0) : Hd) :: H, B, L, true) else none) else none) = some X1 := s1
    rw [if_pos rfl, if_pos rp] at s1
    cases s1
    have o1 := opd 0 (adw (3, p) (adw (4, 40) S1)) kc u1 (by omega) (by omega) (fun _ => by rw [← ec, wc5]; decide) ((2, p, rkN b p 0 + 1, 0) :: H) B L
    obtain ⟨s1, L1, o2, -, -, -, o3⟩ := o1
    have o3 : mF L1 = _ := o3 f (by omega)
    have x1 : acc (run b (vw T g (adw (3, p) (adw (4, 40) S1)).1.length) ((2, p, rkN b p 0 + 1, 0) :: H, B, L, true)) = some ln := x1
    rw [o2, ← ec, vw_h (by omega) gc] at x1
    rw [ep] at p0 a2
    have eL := same L1 o3 (run_sfx _ _ _ (Nat.le_refl _) _ x1).1 (sfx_tl p0)
    rw [← eL, ← o3, ex] at p0
    rw [← o3, ex] at a2
    exact popN s (X := (2, p, rkN b p 0 + 1, 0)) (Nat.succ_pos _) x1 p0 a2 rfl
  · -- behind
    have ep : ∀ l, pst nd sp (f + 1) y l = nd y :: pst nd sp f (kid sp y 0) l := fun l => by
      show nd y :: psA (pst nd sp f) sp y (aro nd y) l = _
      rw [ar]
      rfl
    rw [es] at u1 ec
    have u0 := Suf_tr (Suf_adw _ _) u1
    obtain ⟨m2, w2⟩ := at_w u1
    have ll := Suf_len (spO_suf (x := nd y) (y := nd (kid sp y 0)) (spl_suf (nd := nd) (sp := sp) f (kid sp y 0)) (adw (4, 40) S1))
    rw [l1] at ll
    have ec : c = (spO (spl nd sp f) (nd y) (nd (kid sp y 0)) (kid sp y 0) (adw (4, 40) S1)).1.length + 1 := ec
    obtain ⟨s1, L1, o2, -, -, -, o3⟩ := opd 0 (adw (4, 40) S1) kc u0 (by omega) (by omega) (fun _ => by rw [w2]; show (3 : Nat) ≠ 4; decide) H B L
    have o3 : mF L1 = _ := o3 f (by omega)
    have x1 : acc (run b (vw T g (adw (4, 40) S1).1.length) (H, B, L, true)) = some ln := x1
    rw [o2, vw_c m2 (ins _ (by omega) (by omega)), w2, ← ec] at x1
    rw [ep] at p0 a2
    have eL := same L1 o3 (run_sfx _ _ _ (Nat.le_refl _) _ x1).1 (sfx_tl p0)
    rw [← eL, ← o3, ex] at p0
    rw [← o3, ex] at a2
    obtain ⟨X1, s2, x1⟩ := acc_n x1 (isCl_f rfl _)
    have s2 : stS b p (H, (0, s1) :: B, L1, false) = some X1 := s2
    unfold stS at s2
    rw [if_pos rp] at s2
    dsimp only at s2
    have nop : red (rkN b p 1) H ((0, s1) :: B) L1 = (H, (0, s1) :: B, L1) := by
      obtain ⟨-, -, w | ⟨h0, t0, -, w⟩⟩ := red_sfx (rkN b p 1) H ((0, s1) :: B) L1
      · exact w
      · exfalso
        have f1 := (run_sfx _ _ _ (Nat.le_refl _) _ x1).1
        rw [← Option.some.inj s2] at f1
        have w2 := (sfx_same (mF_sfx (List.IsSuffix.trans (List.IsSuffix.trans w (List.suffix_cons _ _)) f1)) p0 rfl).1
        have w2 : hNd h0 = opNd p 1 := w2
        have w3 : (hNd h0).2.2.1 = (opNd p 1).2.2.1 := by rw [w2]
        unfold hNd opNd at w3
        dsimp only at w3
        by_cases q : h0.1 = 3
        · rw [if_pos q] at w3
          exact absurd w3 (by decide)
        · rw [if_neg q] at w3
          exact absurd w3 (by decide)
    rw [nop] at s2
    cases s2
    rw [vw_h (by omega) gc] at x1
    refine run_br _ _ _ _ (Nat.le_refl _) ?_ ln x1
    exact ⟨rfl, ⟨Or.inl rfl, brl_r B⟩, by show opNd p 1 :: mF L1 = mF L'; rw [a2], rfl⟩
  · -- between
    have ep : ∀ l, pst nd sp (f + 1) y l = nd y :: pst nd sp f (kid sp y 1) (pst nd sp f (kid sp y 0) l) := fun l => by
      show nd y :: psA (pst nd sp f) sp y (aro nd y) l = _
      rw [ar]
      rfl
    have hk1 := kid_sp h hy (show 1 < aro nd y by omega)
    obtain ⟨C2, zz2, lz2, pz2⟩ := pst_leaf h hn f (kid sp y 1) hk1.1 (by omega)
    rw [es] at u1 ec
    have ll2 := Suf_len (spO_suf (x := nd y) (y := nd (kid sp y 1)) (spl_suf (nd := nd) (sp := sp) f (kid sp y 1)) (adw (3, p) (spO (spl nd sp f) (nd y) (nd (kid sp y 0)) (kid sp y 0) (adw (4, 40) S1))))
    have u2 := Suf_tr (spO_suf (x := nd y) (y := nd (kid sp y 1)) (spl_suf (nd := nd) (sp := sp) f (kid sp y 1)) (adw (3, p) (spO (spl nd sp f) (nd y) (nd (kid sp y 0)) (kid sp y 0) (adw (4, 40) S1)))) u1
    have u0 := Suf_tr (Suf_adw _ _) u2
    obtain ⟨m2, w2⟩ := at_w u2
    have ll := Suf_len (spO_suf (x := nd y) (y := nd (kid sp y 0)) (spl_suf (nd := nd) (sp := sp) f (kid sp y 0)) (adw (4, 40) S1))
    rw [l1] at ll
    have l4 : (adw (3, p) (spO (spl nd sp f) (nd y) (nd (kid sp y 0)) (kid sp y 0) (adw (4, 40) S1))).1.length = (spO (spl nd sp f) (nd y) (nd (kid sp y 0)) (kid sp y 0) (adw (4, 40) S1)).1.length + 1 := rfl
    rw [l4] at ll2
    obtain ⟨s1, L1, o2, -, -, -, o3⟩ := opd 0 (adw (4, 40) S1) kc u0 (by omega) (by omega) (fun _ => by rw [w2]; show (3 : Nat) ≠ 4; decide) H B L
    have o3 : mF L1 = _ := o3 f (by omega)
    have x1 : acc (run b (vw T g (adw (4, 40) S1).1.length) (H, B, L, true)) = some ln := x1
    rw [o2, vw_c m2 (ins _ (by omega) (by omega)), w2, ← l4] at x1
    rw [ep] at p0 a2
    have p1 : (pst nd sp f (kid sp y 0) (mF L0)) <:+ mF ln := by
      rw [pz2] at p0
      exact sfx_tl (List.IsSuffix.trans ⟨C2, rfl⟩ (sfx_tl p0))
    have eL := same L1 o3 (run_sfx _ _ _ (Nat.le_refl _) _ x1).1 p1
    rw [← eL, ← o3, ex] at p0
    rw [← o3, ex] at a2
    have pz : (zz2 :: mF L1) <:+ mF ln := by
      rw [pz2] at p0
      exact List.IsSuffix.trans ⟨C2, rfl⟩ (sfx_tl p0)
    obtain ⟨X1, s2, x1⟩ := acc_n x1 (isCl_f rfl _)
    have s2 : stS b p (H, (0, s1) :: B, L1, false) = some X1 := s2
    have nb : ¬ 0 < rkN b p 1 := by
      rcases one_fix hO hp16 with w | w
      · omega
      · omega
    unfold stS at s2
    rw [if_neg nb, if_neg (by omega)] at s2
    dsimp only at s2
    have nop : red (rkN b p 2) H ((0, s1) :: B) L1 = (H, (0, s1) :: B, L1) := by
      obtain ⟨-, -, w | ⟨h0, t0, -, w⟩⟩ := red_sfx (rkN b p 2) H ((0, s1) :: B) L1
      · exact w
      · exfalso
        have f1 := (run_sfx _ _ _ (Nat.le_refl _) _ x1).1
        by_cases z3 : ((red (rkN b p 2) H ((0, s1) :: B) L1).2.1.headD (0, 0)).1 = rkN b p 2
        · rw [if_pos z3] at s2
          cases s2
        rw [if_neg z3] at s2
        rw [← Option.some.inj s2] at f1
        have w2 := (sfx_same (mF_sfx (List.IsSuffix.trans w f1)) pz rfl).1
        have w2 : hNd h0 = zz2 := w2
        rw [← w2] at lz2
        exact hNd_n h0 lz2
    rw [nop] at s2
    by_cases z3 : ((((0, s1) :: B : List Oe)).headD (0, 0)).1 = rkN b p 2
    · rw [if_pos z3] at s2
      cases s2
    rw [if_neg z3] at s2
    cases s2
    obtain ⟨s2, L2, v2, -, -, -, v3⟩ := opd 1 (adw (3, p) (spO (spl nd sp f) (nd y) (nd (kid sp y 0)) (kid sp y 0) (adw (4, 40) S1))) (by omega) u1 (by omega) (by omega) (fun _ => by rw [← ec, wc5]; decide) ((3, p, (if sdN b p = 1 then rkN b p 2 else rkN b p 2 + 1), if sdN b p = 2 then rkN b p 2 else 0) :: H) ((0, s1) :: B) L1
    have v3 : mF L2 = _ := v3 f (by omega)
    rw [v2, ← ec, vw_h (by omega) gc] at x1
    rw [← v3] at p0 a2
    exact popN s (X := (3, p, (if sdN b p = 1 then rkN b p 2 else rkN b p 2 + 1), if sdN b p = 2 then rkN b p 2 else 0)) (by show 0 < (if sdN b p = 1 then rkN b p 2 else rkN b p 2 + 1); split <;> omega) x1 p0 a2 rfl
end UNH
