/-! the text with all brackets is read as the tree: the run -/
section RG3
variable {b : GB} {n : Nat} {nd : Nat → Nd} {sp : Nat → Nat} {T : SW} {g : Nat → Bool}
/-- a part that is wrapped, or a leaf, or a call -/
def OpF (b : GB) (nd : Nat → Nd) (sp : Nat → Nat) (T : SW) (g : Nat → Bool) (S S' : SW) (c : Nat) : Prop := ∀ (H : List Hd) (B : List Oe) (L : List Ln), ∃ s L', acc (run b (vw T g S.1.length) (H, B, L, true)) = acc (run b (vw T g S'.1.length) (H, (0, s) :: B, L', false)) ∧ Lay nd sp L L' c
def NdF (b : GB) (nd : Nat → Nd) (sp : Nat → Nat) (T : SW) (g : Nat → Bool) (S S' : SW) (c : Nat) : Prop := ∀ (H : List Hd) (B : List Oe) (L : List Ln), (∀ h t, H = h :: t → h.2.2.1 = 0) → ∃ X o L', acc (run b (vw T g S.1.length) (H, B, L, true)) = acc (run b (vw T g S'.1.length) X) ∧ Eqr 1 X (H, o :: B, L', false) ∧ Lay nd sp L L' c
theorem runF (hO : TbOK b) (h : WT n (aro nd) sp) (hn : ∀ i, i < n → NV b (nd i)) : ∀ f i, i < n → sp i ≤ f → ∀ S, Suf (spl nd sp f i S) T → (∀ j, S.1.length ≤ j → j < (spl nd sp f i S).1.length → g j = false) → (∀ w l, vw T g (spl nd sp f i S).1.length = w :: l → w.2.1 ≠ 4) → NdF b nd sp T g S (spl nd sp f i S) i ∧ ((nd i).1 ≠ 3 → OpF b nd sp T g S (spl nd sp f i S) i) := by
  intro f
  induction f with
  | zero =>
    intro i hi hf
    have := (h.2.2.2 i hi).1
    omega
  | succ f ih =>
    intro i hi hf S hS hv hN
    have nv := hn i hi
    rw [spl_c] at hS hv hN ⊢
    have sf := fun c S => spl_suf (nd := nd) (sp := sp) f c S
    -- an operand of an operator
    have opd : ∀ k, k < aro nd i → (nd i).1 = 3 → ∀ S1, Suf (spO (spl nd sp f) (nd i) (nd (kid sp i k)) (kid sp i k) S1) T → (∀ j, S1.1.length ≤ j → j < (spO (spl nd sp f) (nd i) (nd (kid sp i k)) (kid sp i k) S1).1.length → g j = false) → (∀ w l, vw T g (spO (spl nd sp f) (nd i) (nd (kid sp i k)) (kid sp i k) S1).1.length = w :: l → w.2.1 ≠ 4) → OpF b nd sp T g S1 (spO (spl nd sp f) (nd i) (nd (kid sp i k)) (kid sp i k) S1) (kid sp i k) := by
      intro k hk h3 S1 hS1 hv1 hN1
      obtain ⟨a1, a2, a3⟩ := kid_sp h hi hk
      unfold spO at hS1 hv1 hN1 ⊢
      by_cases y3 : (nd (kid sp i k)).1 = 3
      · rw [if_pos ⟨h3, y3⟩] at hS1 hv1 hN1 ⊢
        generalize hc : kid sp i k = c at *
        have l0 : (adw (4, 40) S1).1.length = S1.1.length + 1 := rfl
        have l2 : (clw S1.1.length (spl nd sp f c (adw (4, 40) S1))).1.length = (spl nd sp f c (adw (4, 40) S1)).1.length + 1 := rfl
        have u1 := Suf_tr (Suf_clw _ _) hS1
        have u0 := Suf_tr (sf c (adw (4, 40) S1)) u1
        have ll := Suf_len (sf c (adw (4, 40) S1))
        obtain ⟨m1, w1⟩ := at_w u0
        obtain ⟨m2, w2⟩ := at_c hS1
        intro H B L
        obtain ⟨X, o, L', e1, e2, e3⟩ := (ih c a1 (by omega) (adw (4, 40) S1) u1 (fun j j1 j2 => hv1 j (by omega) (by omega)) (fun w l e => by
          rw [vw_c m2 (hv1 _ (by omega) (by omega))] at e
          rw [← (List.cons.inj e).1]
          show (wF T.1 _).1 ≠ 4
          rw [w2]
          decide)).1 ((0, 0, 0, 0) :: H) B L (fun h t e => by rw [← (List.cons.inj e).1])
        refine ⟨szs ((o :: B).take 1), L', ?_, e3⟩
        rw [vw_c m1 (hv1 _ (Nat.le_refl _) (by omega)), acc_w (isCl_k (by show (wF T.1 S1.1.length).1 ≠ 1; rw [w1]; decide) _) (st' := ((0, 0, 0, 0) :: H, B, L, true)) (by
          show stA b (wF T.1 S1.1.length) _ = _
          rw [w1]
          rfl)]
        rw [l0] at e1
        rw [e1, vw_c m2 (hv1 _ (by omega) (by omega))]
        have sA : stA b (5, 41) X = some (H, (0, szs ((o :: B).take 1)) :: B, L', false) := by
          rw [stA_eqr (w := (5, 41)) (by intro y; cases y) (by first | decide | omega) e2]
          rfl
        rw [acc_w (isCl_k (by show (wF T.1 _).1 ≠ 1; rw [w2]; decide) _) (st' := (H, (0, szs ((o :: B).take 1)) :: B, L', false)) (by
          show stA b (wF T.1 _) X = _
          rw [w2]
          exact sA)]
        rw [l2]
      · rw [if_neg (fun y => y3 y.2)] at hS1 hv1 hN1 ⊢
        exact (ih _ a1 (by omega) S1 hS1 hv1 hN1).2 y3
    by_cases q3 : (nd i).1 = 3
    · -- an operator
      refine ⟨?_, fun y => absurd q3 y⟩
      obtain ⟨p, fx, hp, hfx, ex, ew, hb⟩ := sgw_p nv q3
      have rp := rk_pos hO hp hfx hb
      have e221 : (nd i).2.2.1 = (Int32.ofNat (fx)) := by rw [ex]; rfl
      have ear : aro nd i = if fx = 2 then 2 else 1 := by
        show (nd i).2.2.2 = _
        rw [ex]
        rfl
      intro H B L hH
      rcases (by omega : fx = 0 ∨ fx = 1 ∨ fx = 2) with rfl | rfl | rfl
      · -- ahead
        have sB : spB (nd i) S = adw (3, p) S := by
          unfold spB
          rw [if_pos q3, if_pos (by rw [e221]; rfl), ew]
        have sC : ∀ S1, spC (nd i) S1 = S1 := fun S1 => by
          unfold spC
          rw [if_pos q3, if_neg (by rw [e221]; decide)]
        have ar1 : aro nd i = 1 := ear
        rw [sB, sC, ar1, spA_c] at hS hv hN ⊢
        have sI : spI (nd i) 0 (spA (spl nd sp f) nd sp i 0 (adw (3, p) S)) = adw (3, p) S := rfl
        rw [sI] at hS hv hN ⊢
        have ll := Suf_len (spO_suf (x := nd i) (y := nd (kid sp i 0)) (sf (kid sp i 0)) (adw (3, p) S))
        have l0 : (adw (3, p) S).1.length = S.1.length + 1 := rfl
        obtain ⟨m1, w1⟩ := at_w (Suf_tr (spO_suf (sf (kid sp i 0)) _) hS)
        obtain ⟨s, L1, e1, e2⟩ := opd 0 (by omega) q3 _ hS (fun j j1 j2 => hv j (by omega) j2) hN ((2, p, rkN b p 0 + 1, 0) :: H) B L
        refine ⟨((2, p, rkN b p 0 + 1, 0) :: H, (0, s) :: B, L1, false), _, _, ?_, Eqr_1 Eqr_pop (by show 1 ≤ rkN b p 0 + 1; omega), ?_⟩
        · rw [vw_c m1 (hv _ (Nat.le_refl _) (by omega)), acc_w (isCl_k (by show (wF T.1 S.1.length).1 ≠ 1; rw [w1]; exact (by decide : (3 : Nat) ≠ 1)) _) (st' := ((2, p, rkN b p 0 + 1, 0) :: H, B, L, true)) (by
            show stA b (wF T.1 S.1.length) _ = _
            rw [w1]
            show (if 0 < rkN b p 0 then _ else _) = _
            rw [if_pos rp])]
          rw [l0] at e1
          exact e1
        · have := Lays_e (s := szs (((0, s) :: B).take (tkn (2, p, rkN b p 0 + 1, 0))) + 1) h hi (by rw [ar1]; exact Lays_s h hi (by omega) (Lays_0 L i) e2)
          rw [ex] at this
          exact this
      · -- behind
        have sB : spB (nd i) S = S := by
          unfold spB
          rw [if_pos q3, if_neg (by rw [e221]; decide)]
        have sC : ∀ S1, spC (nd i) S1 = adw (3, p) S1 := fun S1 => by
          unfold spC
          rw [if_pos q3, if_pos (by rw [e221]; rfl), ew]
        have ar1 : aro nd i = 1 := ear
        rw [sB, sC, ar1, spA_c] at hS hv hN ⊢
        have sI : spI (nd i) 0 (spA (spl nd sp f) nd sp i 0 S) = S := rfl
        rw [sI] at hS hv hN ⊢
        have ll := Suf_len (spO_suf (x := nd i) (y := nd (kid sp i 0)) (sf (kid sp i 0)) S)
        obtain ⟨m1, w1⟩ := at_w hS
        have l1 : (adw (3, p) (spO (spl nd sp f) (nd i) (nd (kid sp i 0)) (kid sp i 0) S)).1.length = (spO (spl nd sp f) (nd i) (nd (kid sp i 0)) (kid sp i 0) S).1.length + 1 := rfl
        obtain ⟨s, L1, e1, e2⟩ := opd 0 (by omega) q3 _ (Suf_tr (Suf_adw _ _) hS) (fun j j1 j2 => hv j j1 (by omega)) (fun w l e => by
          rw [vw_c m1 (hv _ (by omega) (by omega))] at e
          rw [← (List.cons.inj e).1]
          show (wF T.1 _).1 ≠ 4
          rw [w1]
          exact (by decide : (3 : Nat) ≠ 4)) H B L
        have e2 := Lays_e (s := szs (((0, s) :: B).take 1) + 1) h hi (by rw [ar1]; exact Lays_s h hi (by omega) (Lays_0 L i) e2)
        refine ⟨(H, (0, szs (((0, s) :: B).take 1) + 1) :: B, (nd i, szs (((0, s) :: B).take 1) + 1) :: L1, false), _, _, ?_, ⟨rfl, rfl, fun _ _ => rfl⟩, e2⟩
        rw [e1, vw_c m1 (hv _ (by omega) (by omega)), acc_w (isCl_f rfl _) (st' := (H, (0, szs (((0, s) :: B).take 1) + 1) :: B, (nd i, szs (((0, s) :: B).take 1) + 1) :: L1, false)) (by
          show stA b (wF T.1 _) _ = _
          rw [w1]
          show stS b p _ = _
          unfold stS
          rw [if_pos rp]
          dsimp only
          rw [red_top (fun h t e => by rw [hH h t e]; omega), ex]
          rfl), l1]
      · -- between
        have sB : spB (nd i) S = S := by
          unfold spB
          rw [if_pos q3, if_neg (by rw [e221]; decide)]
        have sC : ∀ S1, spC (nd i) S1 = S1 := fun S1 => by
          unfold spC
          rw [if_pos q3, if_neg (by rw [e221]; decide)]
        have ar2 : aro nd i = 2 := ear
        have r1 : rkN b p 1 = 0 := by
          rcases one_fix hO hp with z | z
          · exact z
          · omega
        rw [sB, sC, ar2, spA_c] at hS hv hN ⊢
        have sI : ∀ S1, spI (nd i) 1 S1 = adw (3, p) S1 := fun S1 => by
          unfold spI
          rw [if_neg (by first | decide | omega), if_neg (by rw [q3]; decide), ew]
        have sA1 : spA (spl nd sp f) nd sp i 1 S = spO (spl nd sp f) (nd i) (nd (kid sp i 0)) (kid sp i 0) S := rfl
        rw [sI, sA1] at hS hv hN ⊢
        generalize hM : spO (spl nd sp f) (nd i) (nd (kid sp i 0)) (kid sp i 0) S = M at *
        have lM : S.1.length ≤ M.1.length := by
          rw [← hM]
          exact Suf_len (spO_suf (sf (kid sp i 0)) S)
        have ll := Suf_len (spO_suf (x := nd i) (y := nd (kid sp i 1)) (sf (kid sp i 1)) (adw (3, p) M))
        have l0 : (adw (3, p) M).1.length = M.1.length + 1 := rfl
        have u1 := Suf_tr (spO_suf (x := nd i) (y := nd (kid sp i 1)) (sf (kid sp i 1)) (adw (3, p) M)) hS
        obtain ⟨m1, w1⟩ := at_w u1
        have op0 := opd 0 (by omega) q3 S (by rw [hM]; exact Suf_tr (Suf_adw _ _) u1) (by rw [hM]; exact fun j j1 j2 => hv j j1 (by omega)) (by
          rw [hM]
          intro w l e
          rw [vw_c m1 (hv _ (by omega) (by omega))] at e
          rw [← (List.cons.inj e).1]
          show (wF T.1 _).1 ≠ 4
          rw [w1]
          exact (by decide : (3 : Nat) ≠ 4))
        rw [hM] at op0
        obtain ⟨s, L1, e1, e2⟩ := op0 H B L
        generalize hlv : (if sdN b p = 1 then rkN b p 2 else rkN b p 2 + 1) = lv
        have lv1 : 1 ≤ lv := by
          rw [← hlv]
          split <;> omega
        obtain ⟨s2, L2, e3, e4⟩ := opd 1 (by omega) q3 _ hS (fun j j1 j2 => hv j (by omega) j2) hN ((3, p, lv, if sdN b p = 2 then rkN b p 2 else 0) :: H) ((0, s) :: B) L1
        refine ⟨((3, p, lv, if sdN b p = 2 then rkN b p 2 else 0) :: H, (0, s2) :: (0, s) :: B, L2, false), _, _, ?_, Eqr_1 Eqr_pop lv1, ?_⟩
        · rw [e1, vw_c m1 (hv _ (by omega) (by omega)), acc_w (isCl_f rfl _) (st' := ((3, p, lv, if sdN b p = 2 then rkN b p 2 else 0) :: H, (0, s) :: B, L1, true)) (by
            show stA b (wF T.1 _) _ = _
            rw [w1]
            show stS b p _ = _
            unfold stS
            rw [if_neg (by omega), if_neg (by omega)]
            dsimp only
            rw [red_top (fun h t e => by rw [hH h t e]; omega)]
            dsimp only
            rw [if_neg (show ¬ (((0, s) :: B : List Oe).headD (0, 0)).1 = rkN b p 2 by show ¬ 0 = rkN b p 2; omega), hlv])]
          rw [l0] at e3
          exact e3
        · have := Lays_e (s := szs (((0, s2) :: (0, s) :: B).take (tkn (3, p, lv, if sdN b p = 2 then rkN b p 2 else 0))) + 1) h hi (by rw [ar2]; exact Lays_s h hi (by omega) (Lays_s h hi (by omega) (Lays_0 L i) e2) e4)
          rw [ex] at this
          exact this
    · -- a leaf or a call
      have key : OpF b nd sp T g S (spC (nd i) (spA (spl nd sp f) nd sp i (aro nd i) (spB (nd i) S))) i := by
        intro H B L
        by_cases q2 : (nd i).1 = 2
        · obtain ⟨v1, v2, v3, v4, v5, v6, v7⟩ := NV_v nv
          have c1 := v7 q2
          have c4 : aro nd i ≤ 4 := v4
          have c1 : 1 ≤ aro nd i := c1
          have sB : spB (nd i) S = adw (4, 40) (adw (1, vN (nd i)) S) := by
            unfold spB
            rw [if_neg q3, if_pos q2]
          have sC : ∀ S1, spC (nd i) S1 = adw (5, 41) S1 := fun S1 => by
            unfold spC
            rw [if_neg q3, if_pos q2]
          rw [sB, sC] at hS hv ⊢
          generalize hv0 : vN (nd i) = v at *
          have lA : ∀ k, S.1.length + 2 ≤ (spA (spl nd sp f) nd sp i k (adw (4, 40) (adw (1, v) S))).1.length := fun k => Nat.le_trans (Nat.le_of_eq rfl) (Suf_len (spA_suf (nd := nd) (sp := sp) (i := i) sf k (adw (4, 40) (adw (1, v) S))))
          have mono : ∀ d k, Suf (spA (spl nd sp f) nd sp i k (adw (4, 40) (adw (1, v) S))) (spA (spl nd sp f) nd sp i (k + d) (adw (4, 40) (adw (1, v) S))) := by
            intro d
            induction d with
            | zero => intro k; exact Suf_rfl _
            | succ d ihd =>
              intro k
              refine Suf_tr (ihd k) ?_
              rw [show k + (d + 1) = k + d + 1 by omega, spA_c]
              exact Suf_tr (spI_suf _ _ _) (spO_suf (sf _) _)
          have lE : (adw (5, 41) (spA (spl nd sp f) nd sp i (aro nd i) (adw (4, 40) (adw (1, v) S)))).1.length = (spA (spl nd sp f) nd sp i (aro nd i) (adw (4, 40) (adw (1, v) S))).1.length + 1 := rfl
          have sufK : ∀ k, k ≤ aro nd i → Suf (spA (spl nd sp f) nd sp i k (adw (4, 40) (adw (1, v) S))) T := fun k hk => by
            have := mono (aro nd i - k) k
            rw [show k + (aro nd i - k) = aro nd i by omega] at this
            exact Suf_tr this (Suf_tr (Suf_adw _ _) hS)
          have lenK : ∀ k, k ≤ aro nd i → (spA (spl nd sp f) nd sp i k (adw (4, 40) (adw (1, v) S))).1.length ≤ (spA (spl nd sp f) nd sp i (aro nd i) (adw (4, 40) (adw (1, v) S))).1.length := fun k hk => by
            have := Suf_len (mono (aro nd i - k) k)
            rw [show k + (aro nd i - k) = aro nd i by omega] at this
            exact this
          have oI : ∀ k, k < aro nd i → spA (spl nd sp f) nd sp i (k + 1) (adw (4, 40) (adw (1, v) S)) = spl nd sp f (kid sp i k) (spI (nd i) k (spA (spl nd sp f) nd sp i k (adw (4, 40) (adw (1, v) S)))) := fun k hk => by
            rw [spA_c]
            unfold spO
            rw [if_neg (fun y => q3 y.1)]
          have I0 : ∀ S1, spI (nd i) 0 S1 = S1 := fun S1 => rfl
          have Ik : ∀ k S1, 0 < k → spI (nd i) k S1 = adw (6, 44) S1 := fun k S1 hk => by
            unfold spI
            rw [if_neg (by omega), if_pos q2]
          -- what stands behind an argument
          have nx : ∀ k, k < aro nd i → ∀ w l, vw T g (spA (spl nd sp f) nd sp i (k + 1) (adw (4, 40) (adw (1, v) S))).1.length = w :: l → w.2.1 ≠ 4 := fun k hk w l e => by
            by_cases z : k + 1 < aro nd i
            · have hs := sufK (k + 2) (by omega)
              rw [show k + 2 = k + 1 + 1 by omega, oI (k + 1) z, Ik _ _ (by omega)] at hs
              obtain ⟨m1, w1⟩ := at_w (Suf_tr (sf _ _) hs)
              have l3 := lenK (k + 1) (by omega)
              have l4 := lA (k + 1)
              rw [vw_c m1 (hv _ (by omega) (by omega))] at e
              rw [← (List.cons.inj e).1]
              show (wF T.1 _).1 ≠ 4
              rw [w1]
              decide
            · have z : k + 1 = aro nd i := by omega
              rw [z] at e
              obtain ⟨m1, w1⟩ := at_w hS
              have l4 := lA (aro nd i)
              rw [vw_c m1 (hv _ (by omega) (by omega))] at e
              rw [← (List.cons.inj e).1]
              show (wF T.1 _).1 ≠ 4
              rw [w1]
              decide
          obtain ⟨m1, w1⟩ := at_w (Suf_tr (Suf_adw _ _) (Suf_tr (spA_suf sf (aro nd i) _) (Suf_tr (Suf_adw _ _) hS)))
          obtain ⟨m2, w2⟩ := at_w (Suf_tr (spA_suf sf (aro nd i) _) (Suf_tr (Suf_adw _ _) hS))
          have l1 : (adw (1, v) S).1.length = S.1.length + 1 := rfl
          have l2 : (adw (4, 40) (adw (1, v) S)).1.length = S.1.length + 2 := rfl
          rw [l1] at m2 w2
          have lAA := lA (aro nd i)
          have start : acc (run b (vw T g S.1.length) (H, B, L, true)) = acc (run b (vw T g (S.1.length + 2)) ((1, v, 0, 1) :: H, B, L, true)) := by
            rw [vw_c m1 (hv _ (Nat.le_refl _) (by omega)), vw_c m2 (hv _ (by omega) (by omega)), run_cons]
            have hc : isCl (S.1.length, wF T.1 S.1.length) (H, B, L, true) ((S.1.length + 1, wF T.1 (S.1.length + 1)) :: vw T g (S.1.length + 1 + 1)) = true := by
              unfold isCl
              rw [w1, w2]
              rfl
            rw [hc, if_pos rfl, w1]
            rfl
          have args : ∀ K, 1 ≤ K → K ≤ aro nd i → ∃ X o Es LK, acc (run b (vw T g S.1.length) (H, B, L, true)) = acc (run b (vw T g (spA (spl nd sp f) nd sp i K (adw (4, 40) (adw (1, v) S))).1.length) X) ∧ Eqr 1 X ((1, v, 0, K) :: H, o :: (Es ++ B), LK, false) ∧ Es.length = K - 1 ∧ Lays nd sp L LK i K := by
            intro K
            induction K with
            | zero => intro z; omega
            | succ K ihK =>
              intro _ hK
              obtain ⟨a1, a2, a3⟩ := kid_sp h hi (show K < aro nd i by omega)
              have hs := sufK (K + 1) hK
              have hx := nx K (by omega)
              have l3 := lenK (K + 1) hK
              rw [oI K (by omega)] at hs hx l3 ⊢
              by_cases z : K = 0
              · subst z
                rw [I0] at hs hx l3 ⊢
                obtain ⟨X, o, L1, e1, e2, e3⟩ := (ih (kid sp i 0) a1 (by omega) _ hs (fun j j1 j2 => hv j (by have j1 : S.1.length + 2 ≤ j := j1; omega) (by omega)) hx).1 ((1, v, 0, 1) :: H) B L (fun h t e => by rw [← (List.cons.inj e).1])
                refine ⟨X, o, [], L1, ?_, e2, rfl, Lays_s h hi (by omega) (Lays_0 L i) e3⟩
                rw [start]
                exact e1
              · obtain ⟨X0, o0, Es, L0, e0, e00, el, ey⟩ := ihK (by omega) (by omega)
                rw [Ik K _ (by omega)] at hs hx l3 ⊢
                obtain ⟨m3, w3⟩ := at_w (Suf_tr (sf _ _) hs)
                have l4 := lA K
                have l5 : (adw (6, 44) (spA (spl nd sp f) nd sp i K (adw (4, 40) (adw (1, v) S)))).1.length = (spA (spl nd sp f) nd sp i K (adw (4, 40) (adw (1, v) S))).1.length + 1 := rfl
                have l6 := Suf_len (sf (kid sp i K) (adw (6, 44) (spA (spl nd sp f) nd sp i K (adw (4, 40) (adw (1, v) S)))))
                obtain ⟨X, o, L1, e1, e2, e3⟩ := (ih (kid sp i K) a1 (by omega) _ hs (fun j j1 j2 => hv j (by omega) (by omega)) hx).1 ((1, v, 0, K + 1) :: H) (o0 :: (Es ++ B)) L0 (fun h t e => by rw [← (List.cons.inj e).1])
                refine ⟨X, o, o0 :: Es, L1, ?_, e2, by rw [List.length_cons]; omega, Lays_s h hi (by omega) ey e3⟩
                rw [l5] at e1
                rw [e0, vw_c m3 (hv _ (by omega) (by omega)), acc_w (isCl_f e00.1 _) (st' := ((1, v, 0, K + 1) :: H, o0 :: (Es ++ B), L0, true)) (by
                  show stA b (wF T.1 _) X0 = _
                  rw [w3, stA_eqr (w := (6, 44)) (by intro y; cases y) (by first | decide | omega) e00]
                  show (if (1 : Nat) = 1 ∧ K < 4 then _ else _) = _
                  rw [if_pos ⟨rfl, by omega⟩])]
                exact e1
          obtain ⟨X, o, Es, L1, e1, e2, el, ey⟩ := args (aro nd i) c1 (Nat.le_refl _)
          obtain ⟨m3, w3⟩ := at_w hS
          have ed : (o :: (Es ++ B)).drop (aro nd i) = B := by
            have : (o :: Es).length = aro nd i := by rw [List.length_cons]; omega
            rw [← this, ← List.cons_append]
            exact List.drop_left
          have en : nd i = ((2, (Int32.ofNat (v)), -1, aro nd i) : Nd) := by
            refine Prod.ext q2 (Prod.ext ?_ (Prod.ext (v6 q3) rfl))
            exact v1
          refine ⟨szs ((o :: (Es ++ B)).take (aro nd i)) + 1, (nd i, szs ((o :: (Es ++ B)).take (aro nd i)) + 1) :: L1, ?_, Lays_e h hi ey⟩
          rw [e1, vw_c m3 (hv _ (by omega) (by omega)), acc_w (isCl_f e2.1 _) (st' := (H, (0, szs ((o :: (Es ++ B)).take (aro nd i)) + 1) :: B, (nd i, szs ((o :: (Es ++ B)).take (aro nd i)) + 1) :: L1, false)) (by
            show stA b (wF T.1 _) X = _
            rw [w3, stA_eqr (w := (5, 41)) (by intro y; cases y) (by first | decide | omega) e2]
            show some ((H, (0, szs ((o :: (Es ++ B)).take (aro nd i)) + 1) :: (o :: (Es ++ B)).drop (aro nd i), (((2, (Int32.ofNat (v)), -1, aro nd i) : Nd), szs ((o :: (Es ++ B)).take (aro nd i)) + 1) :: L1, false) : PS) = _
            rw [ed, ← en])]
          rfl
        · have sB : spB (nd i) S = adw ((if (nd i).1 = 0 then 0 else 1), vN (nd i)) S := by
            unfold spB
            rw [if_neg q3, if_neg q2]
          have sC : ∀ S1, spC (nd i) S1 = S1 := fun S1 => by
            unfold spC
            rw [if_neg q3, if_neg q2]
          have a0 : aro nd i = 0 := by
            rcases nv with y | y | y | y
            · exact y.2.2.2
            · exact y.2.2.2
            · exact absurd y.1 q2
            · exact absurd y.1 q3
          rw [sB, sC, a0] at hS hv hN ⊢
          have hS : Suf (adw ((if (nd i).1 = 0 then 0 else 1), vN (nd i)) S) T := hS
          obtain ⟨m1, w1⟩ := at_w hS
          have l1 : (adw ((if (nd i).1 = 0 then 0 else 1), vN (nd i)) S).1.length = S.1.length + 1 := rfl
          obtain ⟨v1, v2, v3, v4, v5, v6, v7⟩ := NV_v nv
          have hN : ∀ w l, vw T g (S.1.length + 1) = w :: l → w.2.1 ≠ 4 := hN
          have hv : g S.1.length = false := hv _ (Nat.le_refl _) (by show S.1.length < S.1.length + 1; omega)
          have ly : Lay nd sp L ((nd i, 1) :: L) i := Lays_e h hi (by rw [a0]; exact Lays_0 L i)
          refine ⟨1, (nd i, 1) :: L, ?_, ly⟩
          show acc (run b (vw T g S.1.length) (H, B, L, true)) = acc (run b (vw T g (S.1.length + 1)) (H, (0, 1) :: B, (nd i, 1) :: L, false))
          rw [vw_c m1 hv]
          by_cases q0 : (nd i).1 = 0
          · rw [if_pos q0] at w1
            have en : nd i = ((0, (Int32.ofNat (vN (nd i))), -1, 0) : Nd) := Prod.ext q0 (Prod.ext v1 (Prod.ext (v6 q3) a0))
            refine acc_w (isCl_k (by show (wF T.1 S.1.length).1 ≠ 1; rw [w1]; exact (by decide : (0 : Nat) ≠ 1)) _) ?_
            show stA b (wF T.1 S.1.length) _ = _
            rw [w1]
            show some ((H, (0, 1) :: B, (((0, (Int32.ofNat (vN (nd i))), -1, 0) : Nd), 1) :: L, false) : PS) = _
            rw [← en]
          · rw [if_neg q0] at w1
            have q1 : (nd i).1 = 1 := by
              rcases v5 with y | y | y | y
              · exact absurd y q0
              · exact y
              · exact absurd y q2
              · exact absurd y q3
            have en : nd i = ((1, (Int32.ofNat (vN (nd i))), -1, 0) : Nd) := Prod.ext q1 (Prod.ext v1 (Prod.ext (v6 q3) a0))
            have hc : isCl (S.1.length, wF T.1 S.1.length) (H, B, L, true) (vw T g (S.1.length + 1)) = false := by
              cases e : vw T g (S.1.length + 1) with
              | nil => rfl
              | cons w l =>
                have hh : (w.2.1 == 4) = false := by
                  cases hh : (w.2.1 == 4) with
                  | false => rfl
                  | true => exact absurd (beq_iff_eq.mp hh) (hN w l e)
                show (true && ((wF T.1 S.1.length).1 == 1) && (w.2.1 == 4)) = false
                rw [hh, Bool.and_false]
            refine acc_w hc ?_
            show stA b (wF T.1 S.1.length) _ = _
            rw [w1]
            show some ((H, (0, 1) :: B, (((1, (Int32.ofNat (vN (nd i))), -1, 0) : Nd), 1) :: L, false) : PS) = _
            rw [← en]
      refine ⟨fun H B L _ => ?_, fun _ => key⟩
      obtain ⟨s, L', e1, e2⟩ := key H B L
      exact ⟨_, (0, s), L', e1, ⟨rfl, rfl, fun _ _ => rfl⟩, e2⟩
end RG3
