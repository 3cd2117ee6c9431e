/-! how deep what is held goes: the tree -/
section DP2
variable {b : GB} {n J : Nat} {nd : Nat → Nd} {sp : Nat → Nat} {T : SW} {g : Nat → Bool} {fin : List Ln}
theorem depth (hO : TbOK b) (h : WT n (aro nd) sp) (hn : ∀ i, i < n → NV b (nd i)) (hg : HG (wF T.1) T.1.length J g)
    (hI : ∀ f y a S1, y < n → sp y ≤ f → (nd y).1 = 3 → (nd y).2.2.1 = 0 → Suf (clw S1.1.length (spl nd sp f y (adw (4, 40) S1))) T → hdN S1 → S1.1.length = a + 2 → (wF T.1 (a + 1)).1 = 3 → prd (wF T.1) T.1.length a ((spl nd sp f y (adw (4, 40) S1)).1.length + 1) → g a = false → g S1.1.length = true) :
    ∀ f i, i < n → sp i ≤ f → ∀ S, hdN S → Suf (spl nd sp f i S) T → (∀ w l, vw T g (spl nd sp f i S).1.length = w :: l → w.2.1 ≠ 4) → ∀ e, e ≤ 2 → (e ≠ 0 → (nd i).1 = 3 ∧ ∃ a, S.1.length = a + 1 ∧ g a = false ∧ prd (wF T.1) T.1.length a (spl nd sp f i S).1.length) → ((nd i).2.2.1 = 0 → e ≤ 1) → DpN b T g fin S (spl nd sp f i S) (sp i) (283 + e) := by
  intro f
  induction f with
  | zero =>
    intro i hi hf
    have := (h.2.2.2 i hi).1
    omega
  | succ f ih =>
    intro i hi hf S hd hS hN e he2 he3 he1
    have nv := hn i hi
    have hs1 := (h.2.2.2 i hi).1
    rw [spl_c] at hS hN he3 ⊢
    have sf := fun c S => spl_suf (nd := nd) (sp := sp) f c S
    by_cases q3 : (nd i).1 = 3
    · obtain ⟨p0, fx, hp, hfx, ex, ew, hb⟩ := sgw_p nv q3
      have rp := rk_pos hO hp hfx hb
      have e221 : (nd i).2.2.1 = (Int32.ofNat (fx)) := by rw [ex]; rfl
      have ear : aro nd i = if fx = 2 then 2 else 1 := by
        show (nd i).2.2.2 = _
        rw [ex]
        rfl
      have ken := (h.2.2.2 i hi).2.2.1
      have k30 : (3 : Nat) ≠ 4 ∧ (3 : Nat) ≠ 5 := by decide
      rcases (by omega : fx = 0 ∨ fx = 1 ∨ fx = 2) with rfl | rfl | rfl
      · -- ahead
        have sB : spB (nd i) S = adw (3, p0) S := by
          unfold spB
          rw [if_pos q3, if_pos (by rw [e221]; rfl), ew]
        have sC : ∀ S1, spC (nd i) S1 = S1 := fun S1 => by
          unfold spC
          rw [if_pos q3, if_neg (by rw [e221]; decide)]
        have ar1 : aro nd i = 1 := ear
        rw [sB, sC, ar1, spA_c] at hS hN he3 ⊢
        have sI : spI (nd i) 0 (spA (spl nd sp f) nd sp i 0 (adw (3, p0) S)) = adw (3, p0) S := rfl
        rw [sI] at hS hN he3 ⊢
        obtain ⟨a1, a2, a3⟩ := kid_sp h hi (show 0 < aro nd i by omega)
        have ks : kid sp i 1 = i + 1 + sp (kid sp i 0) := rfl
        rw [ar1] at ken
        have l0 : (adw (3, p0) S).1.length = S.1.length + 1 := rfl
        obtain ⟨m1, w1⟩ := at_w (Suf_tr (spO_suf (sf (kid sp i 0)) _) hS)
        have gs : g S.1.length = false := HG_k hg (by rw [w1]; exact k30)
        intro p z B L hp0 hz hl ha
        have e1 : e ≤ 1 := he1 (by rw [e221]; rfl)
        have kS : ∀ {st : PS} {ws : List Wi}, isCl (S.1.length, wF T.1 S.1.length) st ws = false := fun {st ws} => isCl_k (by show (wF T.1 S.1.length).1 ≠ 1; rw [w1]; exact (by decide : (3 : Nat) ≠ 1)) ws
        have eS : stA b (wF T.1 S.1.length) (p ++ z, B, L, true) = some ((2, p0, rkN b p0 0 + 1, 0) :: (p ++ z), B, L, true) := by
          rw [w1]
          show (if 0 < rkN b p0 0 then _ else _) = _
          rw [if_pos rp]
        rw [vw_c m1 gs] at ha ⊢
        rw [acc_w kS eS] at ha
        have op : ∀ bd, bd ≤ 283 → ((nd (kid sp i 0)).1 = 3 → (nd (kid sp i 0)).2.2.1 = 0 → g (S.1.length + 1) = false → bd ≤ 282) → DpN b T g fin (adw (3, p0) S) (spO (spl nd sp f) (nd i) (nd (kid sp i 0)) (kid sp i 0) (adw (3, p0) S)) (sp (kid sp i 0)) bd := fun bd b1 b2 => dep_op h hn hg a1 (by omega) q3 (hdN_adw (by exact (by decide : (3 : Nat) ≠ 1))) hS hN b1 b2 (fun S' => ih (kid sp i 0) a1 (by omega) S')
        have d : DpN b T g fin (adw (3, p0) S) (spO (spl nd sp f) (nd i) (nd (kid sp i 0)) (kid sp i 0) (adw (3, p0) S)) (sp (kid sp i 0)) (282 + e) := op _ (by omega) (fun y1 y2 y3 => by
          by_cases z0 : e = 0
          · omega
          · exfalso
            obtain ⟨-, a, z1, z2, z3⟩ := he3 z0
            have q : spO (spl nd sp f) (nd i) (nd (kid sp i 0)) (kid sp i 0) (adw (3, p0) S) = clw (adw (3, p0) S).1.length (spl nd sp f (kid sp i 0) (adw (4, 40) (adw (3, p0) S))) := by
              unfold spO
              rw [if_pos ⟨q3, y1⟩]
            rw [q] at hS z3
            have := hI f (kid sp i 0) a (adw (3, p0) S) a1 (by omega) y1 y2 hS (hdN_adw (by exact (by decide : (3 : Nat) ≠ 1))) (by omega) (by rw [← z1, w1]) z3 z2
            rw [l0, y3] at this
            cases this)
        obtain ⟨p', B', L', d1, d2, d3, d4⟩ := d ((2, p0, rkN b p0 0 + 1, 0) :: p) z B L (lvP_cons (Nat.succ_pos _) hp0) hz (by rw [List.length_cons]; omega) ha
        rw [List.length_cons] at d2
        exact ⟨p', B', L', d1, by omega, d3, fun hk => dOk_t (by rw [List.length_append]; omega) kS eS (d4 hk)⟩
      · -- behind
        have sB : spB (nd i) S = S := by
          unfold spB
          rw [if_pos q3, if_neg (by rw [e221]; decide)]
        have sC : ∀ S1, spC (nd i) S1 = adw (3, p0) S1 := fun S1 => by
          unfold spC
          rw [if_pos q3, if_pos (by rw [e221]; rfl), ew]
        have ar1 : aro nd i = 1 := ear
        rw [sB, sC, ar1, spA_c] at hS hN he3 ⊢
        have sI : spI (nd i) 0 (spA (spl nd sp f) nd sp i 0 S) = S := rfl
        rw [sI] at hS hN he3 ⊢
        obtain ⟨a1, a2, a3⟩ := kid_sp h hi (show 0 < aro nd i by omega)
        have ks : kid sp i 1 = i + 1 + sp (kid sp i 0) := rfl
        rw [ar1] at ken
        generalize hM : spO (spl nd sp f) (nd i) (nd (kid sp i 0)) (kid sp i 0) S = M at *
        have l0 : (adw (3, p0) M).1.length = M.1.length + 1 := rfl
        obtain ⟨m1, w1⟩ := at_w hS
        have gs : g M.1.length = false := HG_k hg (by rw [w1]; exact k30)
        have hv := vw_c m1 gs
        have d : DpN b T g fin S M (sp (kid sp i 0)) 282 := by
          rw [← hM]
          refine dep_op h hn hg a1 (by omega) q3 hd (by rw [hM]; exact Suf_tr (Suf_adw _ _) hS) (fun w l e => ?_) (by first | decide | omega) (fun _ _ _ => by decide) (fun S' => ih (kid sp i 0) a1 (by omega) S')
          rw [hM, hv] at e
          rw [← (List.cons.inj e).1]
          show (wF T.1 _).1 ≠ 4
          rw [w1]
          exact k30.1
        intro p z B L hp0 hz hl ha
        obtain ⟨p', B', L', d1, d2, d3, d4⟩ := d p z B L hp0 hz (by omega) ha
        rw [hv] at d3 d4
        obtain ⟨X, x1, x2⟩ := acc_n d3 (isCl_f rfl _)
        have x3 : stA b (wF T.1 M.1.length) (p' ++ z, B', L', false) = some X := x1
        rw [w1] at x3
        obtain ⟨p2, B2, L2, r1, r2, r3, -⟩ := red_pz (r := rkN b p0 1) hz p' B' L' d1
        have x3 : stS b p0 (p' ++ z, B', L', false) = some X := x3
        unfold stS at x3
        rw [if_pos rp] at x3
        dsimp only at x3
        rw [r1] at x3
        have x3 := (Option.some.inj x3).symm
        subst x3
        exact ⟨p2, _, _, r2, by omega, x2, fun hk => d4 (dOk_f x1 hk)⟩
      · -- between
        have sB : spB (nd i) S = S := by
          unfold spB
          rw [if_pos q3, if_neg (by rw [e221]; decide)]
        have sC : ∀ S1, spC (nd i) S1 = S1 := fun S1 => by
          unfold spC
          rw [if_pos q3, if_neg (by rw [e221]; decide)]
        have ar2 : aro nd i = 2 := ear
        have r1 : rkN b p0 1 = 0 := by
          rcases one_fix hO hp with z | z
          · exact z
          · omega
        rw [sB, sC, ar2, spA_c] at hS hN he3 ⊢
        have sI : ∀ S1, spI (nd i) 1 S1 = adw (3, p0) S1 := fun S1 => by
          unfold spI
          rw [if_neg (by first | decide | omega), if_neg (by rw [q3]; decide), ew]
        have sA1 : spA (spl nd sp f) nd sp i 1 S = spO (spl nd sp f) (nd i) (nd (kid sp i 0)) (kid sp i 0) S := rfl
        rw [sI, sA1] at hS hN he3 ⊢
        obtain ⟨a1, a2, a3⟩ := kid_sp h hi (show 0 < aro nd i by omega)
        obtain ⟨b1, b2, b3⟩ := kid_sp h hi (show 1 < aro nd i by omega)
        have ks : kid sp i 2 = i + 1 + sp (kid sp i 0) + sp (kid sp i 1) := rfl
        rw [ar2] at ken
        generalize hM : spO (spl nd sp f) (nd i) (nd (kid sp i 0)) (kid sp i 0) S = M at *
        have l0 : (adw (3, p0) M).1.length = M.1.length + 1 := rfl
        have u1 := Suf_tr (spO_suf (x := nd i) (y := nd (kid sp i 1)) (sf (kid sp i 1)) (adw (3, p0) M)) hS
        obtain ⟨m1, w1⟩ := at_w u1
        have gs : g M.1.length = false := HG_k hg (by rw [w1]; exact k30)
        have hv := vw_c m1 gs
        have d : DpN b T g fin S M (sp (kid sp i 0)) 282 := by
          rw [← hM]
          refine dep_op h hn hg a1 (by omega) q3 hd (by rw [hM]; exact Suf_tr (Suf_adw _ _) u1) (fun w l e => ?_) (by first | decide | omega) (fun _ _ _ => by decide) (fun S' => ih (kid sp i 0) a1 (by omega) S')
          rw [hM, hv] at e
          rw [← (List.cons.inj e).1]
          show (wF T.1 _).1 ≠ 4
          rw [w1]
          exact k30.1
        have d' : DpN b T g fin (adw (3, p0) M) (spO (spl nd sp f) (nd i) (nd (kid sp i 1)) (kid sp i 1) (adw (3, p0) M)) (sp (kid sp i 1)) 282 := dep_op h hn hg b1 (by omega) q3 (hdN_adw (by exact (by decide : (3 : Nat) ≠ 1))) hS hN (by first | decide | omega) (fun _ _ _ => by decide) (fun S' => ih (kid sp i 1) b1 (by omega) S')
        intro p z B L hp0 hz hl ha
        obtain ⟨p', B', L', d1, d2, d3, d4⟩ := d p z B L hp0 hz (by omega) ha
        rw [hv] at d3 d4
        obtain ⟨X, x1, x2⟩ := acc_n d3 (isCl_f rfl _)
        have x3 : stA b (wF T.1 M.1.length) (p' ++ z, B', L', false) = some X := x1
        rw [w1] at x3
        obtain ⟨p2, B2, L2, y1, y2, y3, -⟩ := red_pz (r := rkN b p0 2) hz p' B' L' d1
        have x3 : stS b p0 (p' ++ z, B', L', false) = some X := x3
        unfold stS at x3
        rw [if_neg (by omega), if_neg (by omega)] at x3
        dsimp only at x3
        rw [y1] at x3
        dsimp only at x3
        by_cases zb : (B2.headD (0, 0)).1 = rkN b p0 2
        · rw [if_pos zb] at x3
          cases x3
        rw [if_neg zb] at x3
        have x3 := (Option.some.inj x3).symm
        subst x3
        obtain ⟨p4, B4, L4, f1, f2, f3, f4⟩ := d' ((3, p0, (if sdN b p0 = 1 then rkN b p0 2 else rkN b p0 2 + 1), if sdN b p0 = 2 then rkN b p0 2 else 0) :: p2) z B2 L2 (lvP_cons (by
          show 0 < (if sdN b p0 = 1 then rkN b p0 2 else rkN b p0 2 + 1)
          split <;> omega) y2) hz (by rw [List.length_cons]; omega) x2
        rw [List.length_cons] at f2
        exact ⟨p4, B4, L4, f1, by omega, f3, fun hk => d4 (dOk_f x1 (f4 hk))⟩
    · have e0 : e = 0 := Classical.byContradiction (fun y => q3 (he3 y).1)
      subst e0
      clear he3 he1
      by_cases q2 : (nd i).1 = 2
      · obtain ⟨v1, v2, v3, v4, v5, v6, v7⟩ := NV_v nv
        have c1 := v7 q2
        have c4 : aro nd i ≤ 4 := v4
        have c1 : 1 ≤ aro nd i := c1
        have sB : spB (nd i) S = adw (4, 40) (adw (1, vN (nd i)) S) := by
          unfold spB
          rw [if_neg q3, if_pos q2]
        have sC : ∀ S1, spC (nd i) S1 = adw (5, 41) S1 := fun S1 => by
          unfold spC
          rw [if_neg q3, if_pos q2]
        rw [sB, sC] at hS hN ⊢
        generalize hv0 : vN (nd i) = v at *
        have mono : ∀ d k, Suf (spA (spl nd sp f) nd sp i k (adw (4, 40) (adw (1, v) S))) (spA (spl nd sp f) nd sp i (k + d) (adw (4, 40) (adw (1, v) S))) := by
          intro d
          induction d with
          | zero => intro k; exact Suf_rfl _
          | succ d ihd =>
            intro k
            refine Suf_tr (ihd k) ?_
            rw [show k + (d + 1) = k + d + 1 by omega, spA_c]
            exact Suf_tr (spI_suf _ _ _) (spO_suf (sf _) _)
        have sufK : ∀ k, k ≤ aro nd i → Suf (spA (spl nd sp f) nd sp i k (adw (4, 40) (adw (1, v) S))) T := fun k hk => by
          have := mono (aro nd i - k) k
          rw [show k + (aro nd i - k) = aro nd i by omega] at this
          exact Suf_tr this (Suf_tr (Suf_adw _ _) hS)
        have oI : ∀ k, k < aro nd i → spA (spl nd sp f) nd sp i (k + 1) (adw (4, 40) (adw (1, v) S)) = spl nd sp f (kid sp i k) (spI (nd i) k (spA (spl nd sp f) nd sp i k (adw (4, 40) (adw (1, v) S)))) := fun k hk => by
          rw [spA_c]
          unfold spO
          rw [if_neg (fun y => q3 y.1)]
        have I0 : ∀ S1, spI (nd i) 0 S1 = S1 := fun S1 => rfl
        have Ik : ∀ k S1, 0 < k → spI (nd i) k S1 = adw (6, 44) S1 := fun k S1 hk => by
          unfold spI
          rw [if_neg (by omega), if_pos q2]
        -- its brackets are a call's
        have sgA : ∀ K, K ≤ aro nd i → Sg (adw (4, 40) (adw (1, v) S)) (spA (spl nd sp f) nd sp i K (adw (4, 40) (adw (1, v) S))) := by
          intro K
          induction K with
          | zero => intro _; exact Sg_nil _
          | succ K ihK =>
            intro hK
            obtain ⟨a1, a2, a3⟩ := kid_sp h hi (show K < aro nd i by omega)
            rw [oI K (by omega)]
            by_cases z : K = 0
            · subst z
              rw [I0]
              exact Sg_tr (ihK (by omega)) (spl_Sg h hn f _ a1 (by omega) _ (hdN_adw (by first | decide | omega)))
            · rw [Ik K _ (by omega)]
              exact Sg_tr (Sg_word (ihK (by omega)) (Or.inr (Or.inr (Or.inr rfl)))) (spl_Sg h hn f _ a1 (by omega) _ (hdN_adw (by first | decide | omega)))
        obtain ⟨m0, w0⟩ := at_w (Suf_tr (Suf_adw _ _) (sufK 0 (Nat.zero_le _)))
        obtain ⟨m1, w1⟩ := at_w (sufK 0 (Nat.zero_le _))
        obtain ⟨m2, w2⟩ := at_w hS
        have l1 : (adw (1, v) S).1.length = S.1.length + 1 := rfl
        have l2 : (adw (4, 40) (adw (1, v) S)).1.length = S.1.length + 2 := rfl
        rw [l1] at m1 w1
        obtain ⟨t1, t2, t3⟩ := Bl_of (sgA (aro nd i) (Nat.le_refl _)) (sufK (aro nd i) (Nat.le_refl _))
        rw [l2] at t1 t2 t3
        have dd1 : dD (wF T.1) (S.1.length + 2) = dD (wF T.1) (S.1.length + 1) + 1 := by
          rw [dD_c, w1]
          rfl
        have dd2 := dD_c (wF T.1) (spA (spl nd sp f) nd sp i (aro nd i) (adw (4, 40) (adw (1, v) S))).1.length
        rw [w2, show dvI ((5, 41) : Wd) = -1 from rfl] at dd2
        have mC : mt (wF T.1) T.1.length (S.1.length + 1) (spA (spl nd sp f) nd sp i (aro nd i) (adw (4, 40) (adw (1, v) S))).1.length := ⟨by rw [w1], by omega, m2, by rw [w2], by omega, fun k k1 k2 => by
          have := t3 k (by omega) k2
          omega⟩
        have nO : ¬ opn (wF T.1) (S.1.length + 1) := fun y => by
          have := y.2 (by omega)
          rw [Nat.add_sub_cancel, w0] at this
          exact this rfl
        obtain ⟨g1, g2⟩ := HG_o hg mC nO
        have g0 : g S.1.length = false := HG_k hg (by rw [w0]; exact (by decide : (1 : Nat) ≠ 4 ∧ (1 : Nat) ≠ 5))
        have hv2 := vw_c m2 g2
        -- what stands behind an argument
        have nx : ∀ k, k < aro nd i → ∀ w l, vw T g (spA (spl nd sp f) nd sp i (k + 1) (adw (4, 40) (adw (1, v) S))).1.length = w :: l → w.2.1 ≠ 4 := fun k hk w l e => by
          by_cases z : k + 1 < aro nd i
          · have hs := sufK (k + 2) (by omega)
            rw [show k + 2 = k + 1 + 1 by omega, oI (k + 1) z, Ik _ _ (by omega)] at hs
            obtain ⟨m1, w1⟩ := at_w (Suf_tr (sf _ _) hs)
            rw [vw_c m1 (HG_k hg (by rw [w1]; exact (by decide : (6 : Nat) ≠ 4 ∧ (6 : Nat) ≠ 5)))] at e
            rw [← (List.cons.inj e).1]
            show (wF T.1 _).1 ≠ 4
            rw [w1]
            decide
          · have z : k + 1 = aro nd i := by omega
            rw [z, hv2] at e
            rw [← (List.cons.inj e).1]
            show (wF T.1 _).1 ≠ 4
            rw [w2]
            decide
        intro p z B L hp0 hz hl ha
        rw [vw_c m0 g0] at ha ⊢
        have hc : isCl (S.1.length, wF T.1 S.1.length) (p ++ z, B, L, true) (vw T g (S.1.length + 1)) = true := by
          rw [vw_c m1 g1]
          unfold isCl
          rw [w0, w1]
          rfl
        have ha2 := acc_c ha hc
        have hdr : (vw T g (S.1.length + 1)).drop 1 = vw T g (S.1.length + 2) := by
          rw [vw_c m1 g1]
          rfl
        have est : stF (wF T.1 S.1.length).2 (p ++ z, B, L, true) = ((1, v, 0, 1) :: (p ++ z), B, L, true) := by
          rw [w0]
          rfl
        have ha2 : acc (run b ((vw T g (S.1.length + 1)).drop 1) (stF (wF T.1 S.1.length).2 (p ++ z, B, L, true))) = some fin := ha2
        rw [hdr, est] at ha2
        have args : ∀ K, 1 ≤ K → K ≤ aro nd i → ∃ p' B' L' k', lvP p' ∧ acc (run b (vw T g (spA (spl nd sp f) nd sp i K (adw (4, 40) (adw (1, v) S))).1.length) (p' ++ (1, v, 0, k') :: (p ++ z), B', L', false)) = some fin ∧ (dOk b (vw T g (spA (spl nd sp f) nd sp i K (adw (4, 40) (adw (1, v) S))).1.length) (p' ++ (1, v, 0, k') :: (p ++ z), B', L', false) → dOk b (vw T g (S.1.length + 2)) ((1, v, 0, 1) :: (p ++ z), B, L, true)) := by
          intro K
          induction K with
          | zero => intro y; omega
          | succ K ihK =>
            intro _ hK
            obtain ⟨a1, a2, a3⟩ := kid_sp h hi (show K < aro nd i by omega)
            have hs := sufK (K + 1) hK
            have hx := nx K (by omega)
            rw [oI K (by omega)] at hs hx ⊢
            by_cases z0 : K = 0
            · subst z0
              rw [I0] at hs hx ⊢
              obtain ⟨p', B', L', d1, d2, d3, d4⟩ := ih (kid sp i 0) a1 (by omega) (adw (4, 40) (adw (1, v) S)) (hdN_adw (by first | decide | omega)) hs hx 0 (by first | decide | omega) (fun y => absurd rfl y) (fun _ => by decide) [] ((1, v, 0, 1) :: (p ++ z)) B L lvP_nil (lv0_cons rfl) (by rw [List.length_cons, List.length_append, List.length_nil]; omega) ha2
              exact ⟨p', B', L', 1, d1, d3, d4⟩
            · obtain ⟨p1, B1, L1, k1, c1', c2, c3⟩ := ihK (by omega) (by omega)
              rw [Ik K _ (by omega)] at hs hx ⊢
              obtain ⟨m3, w3⟩ := at_w (Suf_tr (sf _ _) hs)
              have g3 := HG_k hg (k := (spA (spl nd sp f) nd sp i K (adw (4, 40) (adw (1, v) S))).1.length) (by rw [w3]; exact (by decide : (6 : Nat) ≠ 4 ∧ (6 : Nat) ≠ 5))
              rw [vw_c m3 g3] at c2 c3
              obtain ⟨X, x1, x2⟩ := acc_n c2 (isCl_f rfl _)
              obtain ⟨p2, B2, L2, r1, -, -, r4⟩ := red_pz (r := 0) (z := (1, v, 0, k1) :: (p ++ z)) (lv0_cons rfl) p1 B1 L1 c1'
              have x3 : stA b (wF T.1 (spA (spl nd sp f) nd sp i K (adw (4, 40) (adw (1, v) S))).1.length) (p1 ++ (1, v, 0, k1) :: (p ++ z), B1, L1, false) = some X := x1
              rw [clS_6 (by rw [w3]), r1, r4 rfl] at x3
              have x3 : (if (1 : Nat) = 1 ∧ k1 < 4 then some (((1, v, 0, k1 + 1) :: (p ++ z), B2, L2, true) : PS) else none) = some X := x3
              by_cases zk : (1 : Nat) = 1 ∧ k1 < 4
              · rw [if_pos zk] at x3
                have x3 := (Option.some.inj x3).symm
                subst x3
                have l5 : (adw (6, 44) (spA (spl nd sp f) nd sp i K (adw (4, 40) (adw (1, v) S)))).1.length = (spA (spl nd sp f) nd sp i K (adw (4, 40) (adw (1, v) S))).1.length + 1 := rfl
                obtain ⟨p', B', L', d1, d2, d3, d4⟩ := ih (kid sp i K) a1 (by omega) (adw (6, 44) (spA (spl nd sp f) nd sp i K (adw (4, 40) (adw (1, v) S)))) (hdN_adw (by first | decide | omega)) hs hx 0 (by first | decide | omega) (fun y => absurd rfl y) (fun _ => by decide) [] ((1, v, 0, k1 + 1) :: (p ++ z)) B2 L2 lvP_nil (lv0_cons rfl) (by rw [List.length_cons, List.length_append, List.length_nil]; omega) x2
                exact ⟨p', B', L', k1 + 1, d1, d3, fun hk => c3 (dOk_f x1 (d4 hk))⟩
              · rw [if_neg zk] at x3
                cases x3
        obtain ⟨p1, B1, L1, k1, c1', c2, c3⟩ := args (aro nd i) c1 (Nat.le_refl _)
        rw [hv2] at c2 c3
        obtain ⟨X, x1, x2⟩ := acc_n c2 (isCl_f rfl _)
        obtain ⟨p2, B2, L2, r1, -, -, r4⟩ := red_pz (r := 0) (z := (1, v, 0, k1) :: (p ++ z)) (lv0_cons rfl) p1 B1 L1 c1'
        have x3 : stA b (wF T.1 (spA (spl nd sp f) nd sp i (aro nd i) (adw (4, 40) (adw (1, v) S))).1.length) (p1 ++ (1, v, 0, k1) :: (p ++ z), B1, L1, false) = some X := x1
        rw [clS_0 (by rw [w2]), r1, r4 rfl] at x3
        have x3 := (Option.some.inj x3).symm
        subst x3
        refine ⟨p, _, _, hp0, by omega, x2, fun hk => dOk_i (fun _ => by show (p ++ z).length ≤ 140; rw [List.length_append]; omega) (fun _ => ?_) (fun y => by rw [hc] at y; cases y)⟩
        show dOk b ((vw T g (S.1.length + 1)).drop 1) (stF (wF T.1 S.1.length).2 (p ++ z, B, L, true))
        rw [hdr, est]
        exact c3 (dOk_f x1 hk)
      · have sB : spB (nd i) S = adw ((if (nd i).1 = 0 then 0 else 1), vN (nd i)) S := by
          unfold spB
          rw [if_neg q3, if_neg q2]
        have sC : ∀ S1, spC (nd i) S1 = S1 := fun S1 => by
          unfold spC
          rw [if_neg q3, if_neg q2]
        have a0 : aro nd i = 0 := by
          rcases nv with y | y | y | y
          · exact y.2.2.2
          · exact y.2.2.2
          · exact absurd y.1 q2
          · exact absurd y.1 q3
        rw [sB, sC, a0] at hS hN ⊢
        have hS : Suf (adw ((if (nd i).1 = 0 then 0 else 1), vN (nd i)) S) T := hS
        obtain ⟨m1, w1⟩ := at_w hS
        have hN : ∀ w l, vw T g (S.1.length + 1) = w :: l → w.2.1 ≠ 4 := hN
        have k01 : (wF T.1 S.1.length).1 = 0 ∨ (wF T.1 S.1.length).1 = 1 := by
          rw [w1]
          by_cases q0 : (nd i).1 = 0
          · exact Or.inl (if_pos q0)
          · exact Or.inr (if_neg q0)
        have g0 : g S.1.length = false := HG_k hg (by omega)
        intro p z B L hp0 hz hl ha
        show ∃ p' B' L', lvP p' ∧ p'.length + 1 ≤ p.length + sp i ∧ acc (run b (vw T g (S.1.length + 1)) (p' ++ z, B', L', false)) = some fin ∧ (dOk b (vw T g (S.1.length + 1)) (p' ++ z, B', L', false) → _)
        rw [vw_c m1 g0] at ha ⊢
        have hc : isCl (S.1.length, wF T.1 S.1.length) (p ++ z, B, L, true) (vw T g (S.1.length + 1)) = false := by
          cases e : vw T g (S.1.length + 1) with
          | nil => rfl
          | cons w l =>
            have hh : (w.2.1 == 4) = false := by
              cases hh : (w.2.1 == 4) with
              | false => rfl
              | true => exact absurd (beq_iff_eq.mp hh) (hN w l e)
            show (true && ((wF T.1 S.1.length).1 == 1) && (w.2.1 == 4)) = false
            rw [hh, Bool.and_false]
        obtain ⟨X, x1, x2⟩ := acc_n ha hc
        have hh : ∃ B' L', X = (p ++ z, B', L', false) := by
          have x3 : stA b (wF T.1 S.1.length) (p ++ z, B, L, true) = some X := x1
          unfold stA stO at x3
          rw [if_pos rfl] at x3
          by_cases q0 : (wF T.1 S.1.length).1 = 0
          · rw [if_pos q0] at x3
            exact ⟨_, _, (Option.some.inj x3).symm⟩
          · rw [if_neg q0, if_pos (by omega)] at x3
            exact ⟨_, _, (Option.some.inj x3).symm⟩
        obtain ⟨B', L', rfl⟩ := hh
        exact ⟨p, B', L', hp0, by omega, x2, fun hk => dOk_t (by rw [List.length_append]; omega) hc x1 hk⟩
end DP2
