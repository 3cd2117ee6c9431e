/-! of two brackets around operators that stand ahead, right within one another, one is hidden -/
theorem vis_app {W : Nat → Wd} {g : Nat → Bool} (d : Nat) : ∀ a k, vis W g (a + d) k = vis W g a k ++ vis W g d (k + a) := by
  intro a
  induction a with
  | zero =>
    intro k
    rw [Nat.zero_add, Nat.add_zero]
    rfl
  | succ a ih =>
    intro k
    rw [show a + 1 + d = a + d + 1 by omega, vis_c, vis_c, ih (k + 1), show k + 1 + a = k + (a + 1) by omega]
    by_cases z : g k = true
    · rw [if_pos z, if_pos z]
    · rw [if_neg z, if_neg z]
      rfl
theorem vis_g {W : Nat → Wd} {g g' : Nat → Bool} : ∀ d k, (∀ i, k ≤ i → i < k + d → g' i = g i) → vis W g' d k = vis W g d k := by
  intro d
  induction d with
  | zero => intro k _; rfl
  | succ d ih =>
    intro k h
    rw [vis_c, vis_c, h k (Nat.le_refl _) (by omega), ih (k + 1) (fun i h1 h2 => h i (by omega) (by omega))]
theorem run_pre {b : GB} {w0 : Wi} (h4 : w0.2.1 = 4) : ∀ n (ws : List Wi) (st : PS), ws.length ≤ n → (∃ e, ∀ tl, run b (ws ++ w0 :: tl) st = .inl e) ∨ (∃ (h : Hd) (H : List Hd) (B : List Oe) (L : List Ln), h.2.2.1 = 0 ∧ ∀ tl, run b (ws ++ w0 :: tl) st = run b tl (h :: H, B, L, true)) := by
  have base : ∀ st : PS, (∃ e, ∀ tl, run b ([] ++ w0 :: tl) st = .inl e) ∨ (∃ (h : Hd) (H : List Hd) (B : List Oe) (L : List Ln), h.2.2.1 = 0 ∧ ∀ tl, run b ([] ++ w0 :: tl) st = run b tl (h :: H, B, L, true)) := fun st => by
    by_cases z : st.2.2.2 = true
    · right
      refine ⟨(0, 0, 0, 0), st.1, st.2.1, st.2.2.1, rfl, fun tl => ?_⟩
      have e : stA b w0.2 st = some ((0, 0, 0, 0) :: st.1, st.2.1, st.2.2.1, true) := by
        unfold stA stO
        rw [if_pos z, if_neg (by omega), if_neg (by omega), if_neg (by omega), if_pos h4]
      rw [List.nil_append, run_cons, isCl_k (by omega), if_neg (by first | decide | omega), e]
    · left
      refine ⟨(w0, st), fun tl => ?_⟩
      have e : stA b w0.2 st = none := by
        unfold stA
        rw [if_neg z, if_neg (by omega), if_neg (by omega), if_neg (by omega)]
      rw [List.nil_append, run_cons, isCl_k (by omega), if_neg (by first | decide | omega), e]
  intro n
  induction n with
  | zero =>
    intro ws st hl
    cases ws with
    | nil => exact base st
    | cons w ws => exact absurd hl (Nat.not_succ_le_zero _)
  | succ n ih =>
    intro ws st hl
    have go : ∀ (w : Wi) (ws : List Wi), ws.length ≤ n → (∀ tl, isCl w st (ws ++ w0 :: tl) = false) → (∃ e, ∀ tl, run b ((w :: ws) ++ w0 :: tl) st = .inl e) ∨ (∃ (h : Hd) (H : List Hd) (B : List Oe) (L : List Ln), h.2.2.1 = 0 ∧ ∀ tl, run b ((w :: ws) ++ w0 :: tl) st = run b tl (h :: H, B, L, true)) := fun w ws hl hc => by
      cases e : stA b w.2 st with
      | none =>
        left
        refine ⟨(w, st), fun tl => ?_⟩
        rw [List.cons_append, run_cons, hc, if_neg (by first | decide | omega), e]
      | some st' =>
        rcases ih ws st' hl with ⟨e1, h1⟩ | ⟨h, H, B, L, h0, h1⟩
        · exact Or.inl ⟨e1, fun tl => by rw [List.cons_append, run_cons, hc, if_neg (by first | decide | omega), e]; exact h1 tl⟩
        · exact Or.inr ⟨h, H, B, L, h0, fun tl => by rw [List.cons_append, run_cons, hc, if_neg (by first | decide | omega), e]; exact h1 tl⟩
    cases ws with
    | nil => exact base st
    | cons w ws =>
      rw [List.length_cons] at hl
      cases ws with
      | nil =>
        by_cases z : isCl w st [w0] = true
        · right
          refine ⟨(1, w.2.2, 0, 1), st.1, st.2.1, st.2.2.1, rfl, fun tl => ?_⟩
          rw [List.cons_append, run_cons, show isCl w st ([] ++ w0 :: tl) = true from z, if_pos rfl]
          rfl
        · exact go w [] (Nat.zero_le _) (fun tl => bF z)
      | cons w' ws =>
        rw [List.length_cons] at hl
        by_cases z : isCl w st [w'] = true
        · rcases ih ws (stF w.2.2 st) (by omega) with ⟨e1, h1⟩ | ⟨h, H, B, L, h0, h1⟩
          · exact Or.inl ⟨e1, fun tl => by rw [List.cons_append, run_cons, show isCl w st (w' :: ws ++ w0 :: tl) = true from z, if_pos rfl]; exact h1 tl⟩
          · exact Or.inr ⟨h, H, B, L, h0, fun tl => by rw [List.cons_append, run_cons, show isCl w st (w' :: ws ++ w0 :: tl) = true from z, if_pos rfl]; exact h1 tl⟩
        · exact go w (w' :: ws) (by rw [List.length_cons]; omega) (fun tl => bF z)
section INR
variable {b : GB} {n : Nat} {nd : Nat → Nd} {sp : Nat → Nat} {T : SW} {g : Nat → Bool}
theorem opdF (hO : TbOK b) (h : WT n (aro nd) sp) (hn : ∀ i, i < n → NV b (nd i)) {f c : Nat} {x : Nd} {S1 : SW} (hc : c < n) (hf : sp c ≤ f) (h3 : x.1 = 3) (hS1 : Suf (spO (spl nd sp f) x (nd c) c S1) T) (hv1 : ∀ j, S1.1.length ≤ j → j < (spO (spl nd sp f) x (nd c) c S1).1.length → g j = false) (hN1 : ∀ w l, vw T g (spO (spl nd sp f) x (nd c) c S1).1.length = w :: l → w.2.1 ≠ 4) : OpF b nd sp T g S1 (spO (spl nd sp f) x (nd c) c S1) c := by
  have sf := fun c S => spl_suf (nd := nd) (sp := sp) f c S
  unfold spO at hS1 hv1 hN1 ⊢
  by_cases y3 : (nd c).1 = 3
  · rw [if_pos ⟨h3, y3⟩] at hS1 hv1 hN1 ⊢
    have l0 : (adw (4, 40) S1).1.length = S1.1.length + 1 := rfl
    have l2 : (clw S1.1.length (spl nd sp f c (adw (4, 40) S1))).1.length = (spl nd sp f c (adw (4, 40) S1)).1.length + 1 := rfl
    have u1 := Suf_tr (Suf_clw _ _) hS1
    have u0 := Suf_tr (sf c (adw (4, 40) S1)) u1
    have ll := Suf_len (sf c (adw (4, 40) S1))
    obtain ⟨m1, w1⟩ := at_w u0
    obtain ⟨m2, w2⟩ := at_c hS1
    intro H B L
    obtain ⟨X, o, L', e1, e2, e3⟩ := (runF hO h hn f c hc hf (adw (4, 40) S1) u1 (fun j j1 j2 => hv1 j (by omega) (by omega)) (fun w l e => by
      rw [vw_c m2 (hv1 _ (by omega) (by omega))] at e
      rw [← (List.cons.inj e).1]
      show (wF T.1 _).1 ≠ 4
      rw [w2]
      decide)).1 ((0, 0, 0, 0) :: H) B L (fun h t e => by rw [← (List.cons.inj e).1])
    refine ⟨szs ((o :: B).take 1), L', ?_, e3⟩
    rw [vw_c m1 (hv1 _ (Nat.le_refl _) (by omega)), acc_w (isCl_k (by show (wF T.1 S1.1.length).1 ≠ 1; rw [w1]; decide) _) (st' := ((0, 0, 0, 0) :: H, B, L, true)) (by
      show stA b (wF T.1 S1.1.length) _ = _
      rw [w1]
      rfl)]
    rw [l0] at e1
    rw [e1, vw_c m2 (hv1 _ (by omega) (by omega))]
    have sA : stA b (5, 41) X = some (H, (0, szs ((o :: B).take 1)) :: B, L', false) := by
      rw [stA_eqr (w := (5, 41)) (by intro y; cases y) (by first | decide | omega) e2]
      rfl
    rw [acc_w (isCl_k (by show (wF T.1 _).1 ≠ 1; rw [w2]; decide) _) (st' := (H, (0, szs ((o :: B).take 1)) :: B, L', false)) (by
      show stA b (wF T.1 _) X = _
      rw [w2]
      exact sA)]
    rw [l2]
  · rw [if_neg (fun y => y3 y.2)] at hS1 hv1 hN1 ⊢
    exact (runF hO h hn f c hc hf S1 hS1 hv1 hN1).2 y3
theorem spl_pre (hO : TbOK b) {y : Nat} (nv : NV b (nd y)) (q3 : (nd y).1 = 3) (q0 : (nd y).2.2.1 = 0) : ∃ p, p < 16 ∧ 0 < rkN b p 0 ∧ aro nd y = 1 ∧ ∀ f S, spl nd sp (f + 1) y S = spO (spl nd sp f) (nd y) (nd (kid sp y 0)) (kid sp y 0) (adw (3, p) S) := by
  obtain ⟨p, fx, hp, hfx, ex, ew, hb⟩ := sgw_p nv q3
  have rp := rk_pos hO hp hfx hb
  have e221 : (nd y).2.2.1 = (Int32.ofNat (fx)) := by rw [ex]; rfl
  have f0 : fx = 0 := by
    rw [e221] at q0
    exact (i32_eq (m := 0) (by omega) (by omega)).mp q0
  have ear : aro nd y = if fx = 2 then 2 else 1 := by
    show (nd y).2.2.2 = _
    rw [ex]
    rfl
  subst f0
  refine ⟨p, hp, rp, ear, fun f S => ?_⟩
  have sB : spB (nd y) S = adw (3, p) S := by
    unfold spB
    rw [if_pos q3, if_pos q0, ew]
  have sC : ∀ S1, spC (nd y) S1 = S1 := fun S1 => by
    unfold spC
    rw [if_pos q3, if_neg (by rw [e221]; decide)]
  have ar1 : aro nd y = 1 := ear
  rw [spl_c, sB, sC, ar1, spA_c]
  rfl
theorem inner (hO : TbOK b) (h : WT n (aro nd) sp) (h200 : n ≤ 200) (hn : ∀ i, i < n → NV b (nd i)) (eT : T = spl nd sp 200 0 S0) {f y a : Nat} {S1 : SW} (hy : y < n) (hf : sp y ≤ f) (q3 : (nd y).1 = 3) (q0 : (nd y).2.2.1 = 0) (hS : Suf (clw S1.1.length (spl nd sp f y (adw (4, 40) S1))) T) (hd : hdN S1) (ha : S1.1.length = a + 2) (k1 : (wF T.1 (a + 1)).1 = 3) (pa : prd (wF T.1) T.1.length a ((spl nd sp f y (adw (4, 40) S1)).1.length + 1)) (ga : hidT b n nd sp a = false) : hidT b n nd sp S1.1.length = true := by
  have hP := (spl_pairs h hn (f := 200) (by omega)).1
  have h0 := good0 hO h h200 hn
  unfold hidT at ga ⊢
  rw [← eT] at hP h0 ga ⊢
  have hs1 := (h.2.2.2 y hy).1
  obtain ⟨f, rfl⟩ : ∃ f', f = f' + 1 := ⟨f - 1, by omega⟩
  obtain ⟨p2, hp2, rp2, ar2, es⟩ := spl_pre (sp := sp) hO (hn y hy) q3 q0
  have hk := kid_sp h hy (show 0 < aro nd y by omega)
  have sg : Sg (adw (4, 40) S1) (spl nd sp (f + 1) y (adw (4, 40) S1)) := spl_Sg h hn (f + 1) y hy hf _ (hdN_adw (by first | decide | omega))
  have u1 := Suf_tr (Suf_clw _ _) hS
  have u0 := Suf_tr (spl_suf _ _ _) u1
  obtain ⟨b1, b2, b3⟩ := Bl_of sg u1
  obtain ⟨m2, w2⟩ := at_w u0
  obtain ⟨mc, wc⟩ := at_c hS
  rw [es] at hS sg u1 b1 b2 b3 mc wc pa
  generalize hM : spO (spl nd sp f) (nd y) (nd (kid sp y 0)) (kid sp y 0) (adw (3, p2) (adw (4, 40) S1)) = M at *
  have l1 : (adw (4, 40) S1).1.length = a + 3 := by show S1.1.length + 1 = _; omega
  rw [l1] at b1 b2 b3
  rw [ha] at m2 w2 ⊢
  have o2 : opn (wF T.1) (a + 2) := ⟨by rw [w2], fun _ => by rw [show a + 2 - 1 = a + 1 by omega]; omega⟩
  have e2 : dD (wF T.1) (a + 3) = dD (wF T.1) (a + 2) + 1 := by
    rw [dD_c, w2]
    rfl
  have ec : dD (wF T.1) (M.1.length + 1) = dD (wF T.1) M.1.length + -1 := by
    rw [dD_c, wc]
    rfl
  have p2' : prd (wF T.1) T.1.length (a + 2) M.1.length := ⟨o2, by omega, mc, by rw [wc], by omega, fun k k1 k2 => by
    have := b3 k (by omega) k2
    omega⟩
  have eP : T.2 (a + 2) = M.1.length := by
    rcases hP (a + 2) m2 with y | y
    · exact absurd o2 y.2
    · exact mt_c (prd_mt y) (prd_mt p2')
  have mC := pa.2.2.1
  obtain ⟨g1, ⟨ln, r1, r2, r3⟩⟩ := HG_hdn hP h0 (a + 2) (by omega)
  have st1 := hdn_stays (G := GoodW b (wF T.1) T.1.length n nd sp) hP o2 (T.1.length - (a + 3)) (by omega)
  have st2 := hdn_stays (G := GoodW b (wF T.1) T.1.length n nd sp) hP pa.1 (T.1.length - (a + 1)) (by omega)
  have st3 := hdn_stays (G := GoodW b (wF T.1) T.1.length n nd sp) hP pa.1 1 (by omega)
  rw [show a + 2 + 1 + (T.1.length - (a + 3)) = T.1.length by omega] at st1
  rw [show a + 1 + (T.1.length - (a + 1)) = T.1.length by omega] at st2
  rw [st2, ← st3] at ga
  have ga : hdn (GoodW b (wF T.1) T.1.length n nd sp) T.2 (a + 2) a = false := ga
  rw [st1]
  show stp _ _ (a + 2) (hdn (GoodW b (wF T.1) T.1.length n nd sp) T.2 (a + 2)) (a + 2) = true
  generalize hdn (GoodW b (wF T.1) T.1.length n nd sp) T.2 (a + 2) = g at *
  unfold stp
  rw [if_neg (show ¬ T.2 (a + 2) = 0 by omega), eP]
  have ins : ∀ k, a + 2 ≤ k → k ≤ M.1.length → g k = false := fun k y1 y2 => HG_in g1 (prd_mt p2') y1 y2
  have gc : g (M.1.length + 1) = false := by rw [← HG_p g1 pa]; exact ga
  have gs : g (a + 1) = false := HG_k g1 (by omega)
  -- with the inner ones hidden, the words still make the tree
  have goal : GoodW b (wF T.1) T.1.length n nd sp (hs (a + 2) M.1.length true g) := by
    have v1 : ∀ g : Nat → Bool, g a = false → vis (wF T.1) g T.1.length 0 = vis (wF T.1) g a 0 ++ (a, wF T.1 a) :: vw T g (a + 1) := fun g hg => by
      have := vis_app (W := wF T.1) (g := g) (T.1.length - a) a 0
      rw [show a + (T.1.length - a) = T.1.length by omega, Nat.zero_add] at this
      rw [this]
      congr 1
      exact vw_c (by omega) hg
    have hk4 : (wF T.1 a).1 = 4 := pa.1.1
    have gq : ∀ k, k ≠ a + 2 → k ≠ M.1.length → hs (a + 2) M.1.length true g k = g k := fun k y1 y2 => if_neg (fun y => y.elim y1 y2)
    have e0 : vis (wF T.1) (hs (a + 2) M.1.length true g) a 0 = vis (wF T.1) g a 0 := vis_g a 0 (fun i _ h2 => gq i (by omega) (by omega))
    have et : vw T (hs (a + 2) M.1.length true g) (M.1.length + 1) = vw T g (M.1.length + 1) := vis_g _ _ (fun i h1 _ => gq i (by omega) (by omega))
    have ga' : hs (a + 2) M.1.length true g a = false := by rw [gq a (by omega) (by omega)]; exact ga
    have gs' : hs (a + 2) M.1.length true g (a + 1) = false := by rw [gq _ (by omega) (by omega)]; exact gs
    have h2' : hs (a + 2) M.1.length true g (a + 2) = true := if_pos (Or.inl rfl)
    have hc' : hs (a + 2) M.1.length true g M.1.length = true := if_pos (Or.inr rfl)
    have ins' : ∀ k, a + 3 ≤ k → k < M.1.length → hs (a + 2) M.1.length true g k = false := fun k y1 y2 => by rw [gq k (by omega) (by omega)]; exact ins k (by omega) (by omega)
    have goodw : ∀ ln', acc (run b (vis (wF T.1) (hs (a + 2) M.1.length true g) T.1.length 0) st0) = some ln' → ln.map Prod.fst = ln'.map Prod.fst → GoodW b (wF T.1) T.1.length n nd sp (hs (a + 2) M.1.length true g) := fun ln' y1 y2 => by
      obtain ⟨z1, z2⟩ := lnF_map ln ln' y2
      exact ⟨ln', y1, by omega, fun x hx => by rw [r3 x hx, z2]⟩
    rw [v1 _ ga', e0] at goodw
    rw [v1 _ ga] at r1
    generalize hs (a + 2) M.1.length true g = g' at *
    rcases run_pre (b := b) (w0 := (a, wF T.1 a)) hk4 _ (vis (wF T.1) g a 0) st0 (Nat.le_refl _) with ⟨e, he⟩ | ⟨h0, H, B, L, z0, he⟩
    · rw [he] at r1
      cases r1
    rw [he] at r1 goodw
    have mS : a + 1 < T.1.length := by omega
    rw [vw_c mS gs] at r1
    rw [vw_c mS gs'] at goodw
    obtain ⟨X1, x1, r1⟩ := acc_n r1 (isCl_k (by show (wF T.1 (a + 1)).1 ≠ 1; omega) _)
    rw [acc_w (isCl_k (by show (wF T.1 (a + 1)).1 ≠ 1; omega) _) x1] at goodw
    -- the sign ahead
    have x1 : stA b (wF T.1 (a + 1)) (h0 :: H, B, L, true) = some X1 := x1
    generalize wF T.1 (a + 1) = wa at k1 x1
    have xx : ∃ p1, X1 = ((2, p1, rkN b p1 0 + 1, 0) :: h0 :: H, B, L, true) := by
      unfold stA stO at x1
      rw [if_pos rfl, if_neg (by omega), if_neg (by omega), if_pos k1] at x1
      by_cases z : 0 < rkN b wa.2 0
      · rw [if_pos z] at x1
        exact ⟨wa.2, (Option.some.inj x1).symm⟩
      · rw [if_neg z] at x1
        cases x1
    obtain ⟨p1, rfl⟩ := xx
    -- the operand of the inner sign
    have uM : Suf M T := Suf_tr (Suf_clw S1.1.length M) hS
    have uS : Suf (adw (3, p2) (adw (4, 40) S1)) T := Suf_tr (by rw [← hM]; exact spO_suf (spl_suf f _) _) uM
    have lS : (adw (3, p2) (adw (4, 40) S1)).1.length = a + 4 := by show (adw (4, 40) S1).1.length + 1 = _; omega
    have lM : a + 4 ≤ M.1.length := by
      have := Suf_len (show Suf (adw (3, p2) (adw (4, 40) S1)) M by rw [← hM]; exact spO_suf (spl_suf f _) _)
      omega
    obtain ⟨m3, w3⟩ := at_w uS
    rw [l1] at m3 w3
    have op := fun (q : Nat → Bool) (hq1 : ∀ j, a + 4 ≤ j → j < M.1.length → q j = false) (hq2 : ∀ w l, vw T q M.1.length = w :: l → w.2.1 ≠ 4) => opdF (T := T) (g := q) (x := nd y) (S1 := adw (3, p2) (adw (4, 40) S1)) hO h hn hk.1 (show sp (kid sp y 0) ≤ f by omega) q3 (by rw [hM]; exact uM) (by rw [hM, lS]; exact hq1) (by rw [hM]; exact hq2)
    rw [hM] at op
    have kc : (wF T.1 M.1.length).1 ≠ 4 := by rw [wc]; exact (by decide : (5 : Nat) ≠ 4)
    have kc2 : (wF T.1 (M.1.length + 1)).1 = 5 := pa.2.2.2.1
    have op1 := op g (fun j y1 y2 => ins j (by omega) (by omega)) (fun w l e => by
      rw [vw_c mc (ins _ (by omega) (Nat.le_refl _))] at e
      rw [← (List.cons.inj e).1]
      exact kc)
    have op2 := op g' (fun j y1 y2 => ins' j (by omega) y2) (fun w l e => by
      rw [vw_h mc hc', et, vw_c mC gc] at e
      rw [← (List.cons.inj e).1]
      show (wF T.1 (M.1.length + 1)).1 ≠ 4
      omega)
    clear op
    obtain ⟨s, L1, f1, -, -, -, y1⟩ := op1 ((2, p2, rkN b p2 0 + 1, 0) :: (0, 0, 0, 0) :: (2, p1, rkN b p1 0 + 1, 0) :: h0 :: H) B L
    obtain ⟨s', L2, f2, -, -, -, y2⟩ := op2 ((2, p2, rkN b p2 0 + 1, 0) :: (2, p1, rkN b p1 0 + 1, 0) :: h0 :: H) B L
    have k200 : sp (kid sp y 0) ≤ 200 := by
      have := (h.2.2.2 y hy).2.1
      omega
    have eL : L1.map Prod.fst = L2.map Prod.fst := by rw [y1 200 k200, y2 200 k200]
    rw [lS] at f1 f2
    have sgn : ∀ (H : List Hd), stA b (wF T.1 (a + 3)) (H, B, L, true) = some ((2, p2, rkN b p2 0 + 1, 0) :: H, B, L, true) := fun H => by
      rw [w3]
      show (if 0 < rkN b p2 0 then _ else _) = _
      rw [if_pos rp2]
    have k3 : ∀ {st : PS} {ws : List Wi}, isCl (a + 3, wF T.1 (a + 3)) st ws = false := fun {st ws} => isCl_k (by show (wF T.1 (a + 3)).1 ≠ 1; rw [w3]; exact (by decide : (3 : Nat) ≠ 1)) ws
    rw [vw_c (k := a + 2) m2 (ins _ (Nat.le_refl _) (by omega)), acc_w (isCl_k (by show (wF T.1 (a + 2)).1 ≠ 1; rw [w2]; exact (by decide : (4 : Nat) ≠ 1)) _) (st' := ((0, 0, 0, 0) :: (2, p1, rkN b p1 0 + 1, 0) :: h0 :: H, B, L, true)) (by
      show stA b (wF T.1 (a + 2)) _ = _
      rw [w2]
      rfl), vw_c (k := a + 3) m3 (ins _ (by omega) (by omega)), acc_w k3 (sgn _), f1] at r1
    rw [vw_h (k := a + 2) m2 h2', vw_c (k := a + 3) m3 (ins' _ (by omega) (by omega)), acc_w k3 (sgn _), f2, vw_h mc hc', et] at goodw
    rw [vw_c mc (ins _ (by omega) (Nat.le_refl _))] at r1
    obtain ⟨X2, x2, r1⟩ := acc_n r1 (isCl_k (by show (wF T.1 M.1.length).1 ≠ 1; rw [wc]; exact (by decide : (5 : Nat) ≠ 1)) _)
    have x2 : stA b (wF T.1 M.1.length) ((2, p2, rkN b p2 0 + 1, 0) :: (0, 0, 0, 0) :: (2, p1, rkN b p1 0 + 1, 0) :: h0 :: H, (0, s) :: B, L1, false) = some X2 := x2
    rw [wc] at x2
    have xe : ∃ s1 s2, stA b (5, 41) ((2, p2, rkN b p2 0 + 1, 0) :: (0, 0, 0, 0) :: (2, p1, rkN b p1 0 + 1, 0) :: h0 :: H, (0, s) :: B, L1, false) = some ((2, p1, rkN b p1 0 + 1, 0) :: h0 :: H, (0, s1) :: B, (opNd p2 0, s2) :: L1, false) := ⟨_, _, rfl⟩
    obtain ⟨s1, s2, xe⟩ := xe
    rw [xe] at x2
    have x2 := (Option.some.inj x2).symm
    subst x2
    -- the bracket that closes the outer pair
    have rp : ∀ (p : Nat) (H : List Hd) (o : Oe) (B : List Oe) (L : List Ln), red 0 ((2, p, rkN b p 0 + 1, 0) :: H) (o :: B) L = red 0 H ((0, szs ((o :: B).take 1) + 1) :: B) ((opNd p 0, szs ((o :: B).take 1) + 1) :: L) := fun p H o B L => if_pos (Nat.succ_pos _)
    have r0 : ∀ (B : List Oe) (L : List Ln), red 0 (h0 :: H) B L = (h0 :: H, B, L) := fun B L => red_top (fun h t e => by rw [← (List.cons.inj e).1, z0]; exact Nat.le_refl _)
    have s5 : ∀ (w : Wd) (H : List Hd) (B : List Oe) (L : List Ln), w.1 = 5 → stA b w (H, B, L, false) = clS false (red 0 H B L) := fun w H B L e => by
      unfold stA
      rw [if_neg st_f, if_neg (by omega), if_pos e]
    rw [vw_c mC gc] at r1 goodw
    have k5 : ∀ {st : PS} {ws : List Wi}, isCl (M.1.length + 1, wF T.1 (M.1.length + 1)) st ws = false := fun {st ws} => isCl_k (by show (wF T.1 (M.1.length + 1)).1 ≠ 1; omega) ws
    obtain ⟨Y1, x3, r1⟩ := acc_n r1 k5
    have x3 : stA b (wF T.1 (M.1.length + 1)) _ = some Y1 := x3
    rw [s5 _ _ _ _ kc2, rp, r0] at x3
    have rel := clS_sm (c := false) (H := h0 :: H) (B := (0, szs (((0, s1) :: B).take 1) + 1) :: B) (B' := (0, szs (((0, szs (((0, s') :: B).take 1) + 1) :: B).take 1) + 1) :: B) (L := (opNd p1 0, szs (((0, s1) :: B).take 1) + 1) :: (opNd p2 0, s2) :: L1) (L' := (opNd p1 0, szs (((0, szs (((0, s') :: B).take 1) + 1) :: B).take 1) + 1) :: (opNd p2 0, szs (((0, s') :: B).take 1) + 1) :: L2) rfl (by rw [List.map_cons, List.map_cons, List.map_cons, List.map_cons, eL])
    rw [x3] at rel
    have x4 : stA b (wF T.1 (M.1.length + 1)) ((2, p2, rkN b p2 0 + 1, 0) :: (2, p1, rkN b p1 0 + 1, 0) :: h0 :: H, (0, s') :: B, L2, false) = clS false (h0 :: H, (0, szs (((0, szs (((0, s') :: B).take 1) + 1) :: B).take 1) + 1) :: B, (opNd p1 0, szs (((0, szs (((0, s') :: B).take 1) + 1) :: B).take 1) + 1) :: (opNd p2 0, szs (((0, s') :: B).take 1) + 1) :: L2) := by
      rw [s5 _ _ _ _ kc2, rp, rp, r0]
    rw [← x4] at rel
    cases x5 : stA b (wF T.1 (M.1.length + 1)) ((2, p2, rkN b p2 0 + 1, 0) :: (2, p1, rkN b p1 0 + 1, 0) :: h0 :: H, (0, s') :: B, L2, false) with
    | none =>
      rw [x5] at rel
      exact rel.elim
    | some Y2 =>
      rw [x5] at rel
      obtain ⟨ln', y3, y4⟩ := run_sm _ _ _ _ (Nat.le_refl _) rel ln r1
      exact goodw ln' (by rw [acc_w k5 x5]; exact y3) y4
  rw [if_pos goal]
  exact if_pos (Or.inl rfl)
end INR
