/-! the class spells a tree -/
def Fsw : Nat → Nat → Prop := fun a k => (a = 540 ∧ k = 5) ∨ (541 ≤ a ∧ a ≤ 544)
theorem wdB {b : GB} {x : Nd} (h : NV b x) (h3 : x.1 ≠ 3) : WOK ((if x.1 = 0 then 0 else 1), vN x) ∧ wvI ((if x.1 = 0 then 0 else 1), vN x) = x.2.1 := by
  have e := (NV_v h).1
  have e2 : wvI ((if x.1 = 0 then 0 else 1), vN x) = x.2.1 := by
    by_cases z : x.1 = 0
    · rw [if_pos z]; exact e.symm
    · rw [if_neg z]; exact e.symm
  refine ⟨?_, e2⟩
  have nm : ∀ l, l < 26 → x.2.1 = (Int32.ofNat (97 + l)) → vN x = 97 + l := fun l hl y => by
    have := e.symm.trans y
    exact (i32_eq (by have := (NV_v h).2.1; omega) (by omega)).mp this
  rcases h with ⟨h1, ⟨v, hv, y⟩, _⟩ | ⟨h1, ⟨l, hl, y⟩, _⟩ | ⟨h1, ⟨l, hl, y⟩, _⟩ | ⟨h1, _⟩
  · rw [if_pos h1]
    refine Or.inl ⟨rfl, ?_⟩
    have z : vN x = v := by
      unfold vN
      rw [y, i32_nat (by omega)]
    show vN x ≤ _
    omega
  · rw [if_neg (by rw [h1]; decide)]
    exact Or.inr (Or.inl ⟨rfl, l, hl, nm l hl y⟩)
  · rw [if_neg (by rw [h1]; decide)]
    exact Or.inr (Or.inl ⟨rfl, l, hl, nm l hl y⟩)
  · exact absurd h1 h3
theorem wdS {b : GB} {x : Nd} (h : NV b x) (h3 : x.1 = 3) : WOK (sgw x) ∧ wvI (sgw x) = x.2.1 := by
  have e := NV_v h
  rcases h with y | y | y | ⟨y1, p, fx, y2, y3, y4, y5, y6, y7⟩
  · rw [y.1] at h3; exact absurd h3 (by first | decide | omega)
  · rw [y.1] at h3; exact absurd h3 (by first | decide | omega)
  · rw [y.1] at h3; exact absurd h3 (by first | decide | omega)
  · have sg := (sgc_ok p y2).1
    have z : vN x = sgc p := by
      unfold vN
      rw [y4, i32_nat (by omega)]
    have z2 : sgw x = (3, p) := by
      unfold sgw
      rw [z, sgj_sgc p y2]
    rw [z2]
    exact ⟨Or.inr (Or.inr (Or.inl ⟨rfl, y2⟩)), y4.symm⟩
theorem spA_len {b : GB} {n : Nat} {nd : Nat → Nd} {sp : Nat → Nat} (h : WT n (aro nd) sp) (hn : ∀ i, i < n → NV b (nd i)) {f i : Nat} (hi : i < n) (hf : sp i ≤ f + 1) (S : SW) : ∀ k, k ≤ aro nd i → (spA (spl nd sp f) nd sp i k S).1.length + (if (nd i).1 = 3 then 0 else 2 * k) ≤ S.1.length + 3 * (kid sp i k - (i + 1)) + k ∧ i + 1 ≤ kid sp i k := by
  intro k
  induction k with
  | zero =>
    intro _
    refine ⟨?_, Nat.le_refl _⟩
    show S.1.length + _ ≤ _
    split <;> omega
  | succ k ih =>
    intro hk
    obtain ⟨c1, c2⟩ := ih (by omega)
    obtain ⟨a1, a2, a3⟩ := kid_sp h hi (show k < aro nd i by omega)
    rw [spA_c, show kid sp i (k + 1) = kid sp i k + sp (kid sp i k) from rfl]
    generalize spA (spl nd sp f) nd sp i k S = T at *
    have sI : (spI (nd i) k T).1.length ≤ T.1.length + 1 := by
      unfold spI
      split
      · omega
      · split <;> exact Nat.le_refl _
    have l := spl_len h hn f _ a1 (by omega)
    unfold spO
    split
    · next q =>
      have := (l (adw (4, 40) (spI (nd i) k T))).2.1
      have e1 : (adw (4, 40) (spI (nd i) k T)).1.length = (spI (nd i) k T).1.length + 1 := rfl
      generalize spl nd sp f (kid sp i k) (adw (4, 40) (spI (nd i) k T)) = V at *
      have e2 : (clw (spI (nd i) k T).1.length V).1.length = V.1.length + 1 := rfl
      rw [if_pos q.1] at c1 ⊢
      omega
    · have := (l (spI (nd i) k T)).2.1
      generalize sp (kid sp i k) = u at *
      split
      · next q => rw [if_pos q] at c1; omega
      · next q => rw [if_neg q] at c1; omega
section CSP
variable {I : Nat → Nat → Int32} {J : Nat → Nat → Int64} {R : Nat → Nat → Option Nat} {b : GB} {pr tx a n : Nat} {nd : Nat → Nd} {sp : Nat → Nat} {β : Type}
theorem gr_P0 {F : Nat → Option β} (hR : RA R) (h : isP pr tx) : (gR (mg (4562 + zn J) I J R) pr 5 0).bind F = F 540 := by
  rcases h with ⟨rfl, rfl⟩ | ⟨rfl, rfl⟩
  · exact gr_559_0 hR
  · exact gr_563_0 hR
theorem C_spell (hR : RA R) (h : isP pr tx) (ha : a + 8 ≤ 540 ∨ 545 ≤ a) (hn : ∀ i, i < n → NV b (nd i)) : ∀ f i d (S : SW) (I : Nat → Nat → Int32), i < n → sp i ≤ f → CT I a n nd sp → CWl I S.1 → S.1.length + 3 * sp i ≤ 260 → d + sp i ≤ 81 → QK (fr_X5_spell f (mg (4562 + zn J) I J R) pr a (Int32.ofNat (i)) (Int32.ofNat (d))) (fun r => ∃ I', r = mg (4562 + zn J) I' J R ∧ FrK Fsw I I' ∧ CWl I' (spl nd sp f i S).1) := by
  intro f
  induction f with
  | zero =>
    intro i d S I hi hf hT
    have := (hT.2.1.2.2.2 i hi).1
    omega
  | succ f ih =>
    intro i d S I hi hf hT hW h260 hd
    have hw := hT.2.1
    have ht := hT.1.1
    have n1 := CT_n hT
    have nv := hn i hi
    obtain ⟨x1, x2, x3, x4, x5, x6, x7⟩ := NV_v nv
    have sl := (spl_len hw hn (f + 1) i hi hf S).2.1
    rw [spl_c] at sl ⊢
    have keepT : ∀ I', FrK Fsw I I' → CT I' a n nd sp := fun I' hF => CT_keep hT (fun x g1 g2 => by
      funext k
      exact hF x k (by unfold Fsw; omega))
    have put : ∀ {I1 : Nat → Nat → Int32} {V : SW} {w : Wd} {k v : Int32} {γ : Type} {F : xM → Option γ} {Q : γ → Prop}, CWl I1 V.1 → V.1.length < 300 → k = (Int32.ofNat (w.1)) → v = wvI w → WOK w → FrK Fsw I I1 → (∀ I2, FrK Fsw I I2 → CWl I2 (adw w V).1 → QK (F (mg (4562 + zn J) I2 J R)) Q) → QK ((f_X6_addWord (mg (4562 + zn J) I1 J R) 540 k v 0).bind F) Q := by
      intro I1 V w k v γ F Q hV hl hk hv hw hF g
      refine q_bind (C_addWord (p := 0) hR hV hl hk hv hw (by first | decide | omega)) ?_
      rintro _ ⟨I2, rfl, hF2, hW2⟩
      exact g I2 (FrK_tr hF hF2) hW2
    have rows : ∀ I', FrK Fsw I I' → ∀ j, j < n → I' (a + 1) j = (nd j).1 ∧ I' (a + 2) j = (nd j).2.1 ∧ I' (a + 3) j = (nd j).2.2.1 ∧ I' (a + 4) j = (Int32.ofNat ((nd j).2.2.2)) ∧ I' (a + 5) j = (Int32.ofNat (sp j)) := fun I' hF j hj => by
      have g := (keepT I' hF)
      obtain ⟨y1, y2, y3, y4, y5⟩ := g.1.2.2.2 j hj
      exact ⟨y1, y2, y3, y4, (g.2.2 j hj).1⟩
    obtain ⟨L6, hL6⟩ : ∃ x : Int32, x = if (nd i).1 = 2 then 1 else 0 := ⟨_, rfl⟩
    have l60 : L6 = 0 ↔ (nd i).1 ≠ 2 := by
      rw [hL6]
      split
      · next z => exact ⟨fun y => absurd y (by first | decide | omega), fun y => absurd z y⟩
      · next z => exact ⟨fun _ => z, fun _ => rfl⟩
    have w40 : WOK (4, 40) := Or.inr (Or.inr (Or.inr ⟨by decide, by decide, by decide⟩))
    have w41 : WOK (5, 41) := Or.inr (Or.inr (Or.inr ⟨by decide, by decide, by decide⟩))
    have w44 : WOK (6, 44) := Or.inr (Or.inr (Or.inr ⟨by decide, by decide, by decide⟩))
    have kn := (hw.2.2.2 i hi).2.2.1
    have sn := (hw.2.2.2 i hi).2.1
    have lB : (spB (nd i) S).1.length ≤ S.1.length + (if (nd i).1 = 3 then 1 else 2) := by
      unfold spB
      split
      · split
        · exact Nat.le_refl _
        · omega
      · split
        · exact Nat.le_refl _
        · exact Nat.le_succ _
    have lB2 : (nd i).1 = 3 → 2 ≤ aro nd i → (spB (nd i) S).1.length = S.1.length := fun q3 q => by
      unfold spB
      rw [if_pos q3]
      split
      · next z =>
        rcases nv with y | y | y | ⟨y1, p, fx, y2, y3, y4, y5, y6, y7⟩
        · rw [y.1] at q3; exact absurd q3 (by first | decide | omega)
        · rw [y.1] at q3; exact absurd q3 (by first | decide | omega)
        · rw [y.1] at q3; exact absurd q3 (by first | decide | omega)
        · rw [y5] at z
          have := (i32_eq (m := 0) (by omega) (by omega)).mp z
          have e : aro nd i = 1 := by
            show (nd i).2.2.2 = 1
            rw [y6, if_neg (by omega)]
          omega
      · rfl
    have j88 : ∀ I1, FrK Fsw I I1 → CWl I1 (spB (nd i) S).1 → QK (f_X5_spell_j88 (fr_X5_spell f) (mg (4562 + zn J) I1 J R) pr a (Int32.ofNat (i)) (Int32.ofNat (d)) (nd i).1 (nd i).2.1 L6) (fun r => ∃ I', r = mg (4562 + zn J) I' J R ∧ FrK Fsw I I' ∧ CWl I' (spC (nd i) (spA (spl nd sp f) nd sp i (aro nd i) (spB (nd i) S))).1) := by
      intro I1 hF1 hW1
      unfold f_X5_spell_j88
      rw [q_let, q_let, show (Int32.ofNat (i)) + 1 = (Int32.ofNat (i + 1)) from n_add i 1]
      refine q_bind (P := fun r => ∃ I', r = .inr (pr, a, (Int32.ofNat (i)), (nd i).1, (nd i).2.1, L6, mg (4562 + zn J) I' J R) ∧ FrK Fsw I I' ∧ CWl I' (spA (spl nd sp f) nd sp i (aro nd i) (spB (nd i) S)).1) ?_ ?_
      · refine q_for (aro nd i) (fun k st => ∃ I', st = (pr, a, (Int32.ofNat (i)), (Int32.ofNat (d)), (nd i).1, (nd i).2.1, L6, (Int32.ofNat (kid sp i k)), (Int32.ofNat (k)), mg (4562 + zn J) I' J R) ∧ FrK Fsw I I' ∧ CWl I' (spA (spl nd sp f) nd sp i k (spB (nd i) S)).1) ?_ ?_ (i := 0) ⟨I1, rfl, hF1, hW1⟩ (Nat.zero_le _) (by have : aro nd i ≤ 4 := x4; unfold xF; omega)
        · rintro k st hk ⟨I2, rfl, hF2, hW2⟩
          obtain ⟨a1, a2, a3⟩ := kid_sp hw hi hk
          have a4 : aro nd i ≤ 4 := x4
          obtain ⟨t1, t2⟩ := spA_len hw hn hi hf (spB (nd i) S) k (by omega)
          have kin := (kid_in hw hi hk).2.2
          obtain ⟨y1, y2, y3, y4, y5⟩ := rows I2 hF2 i hi
          have nn := (keepT I2 hF2).1.2.1
          have kc : kid sp i (k + 1) = kid sp i k + sp (kid sp i k) := rfl
          have sI : (spI (nd i) k (spA (spl nd sp f) nd sp i k (spB (nd i) S))).1.length = (spA (spl nd sp f) nd sp i k (spB (nd i) S)).1.length + (if k = 0 then 0 else 1) := by
            unfold spI
            split
            · rfl
            · split <;> rfl
          have big : (spI (nd i) k (spA (spl nd sp f) nd sp i k (spB (nd i) S))).1.length + 3 * sp (kid sp i k) + (if (nd i).1 = 3 then 1 else 0) ≤ 260 := by
            rw [sI]
            by_cases q3 : (nd i).1 = 3
            · rw [if_pos q3] at *
              by_cases q0 : k = 0
              · rw [if_pos q0]
                have : kid sp i k = i + 1 := by rw [q0]; rfl
                omega
              · rw [if_neg q0]
                have e2 := lB2 q3 (by omega)
                have e3 : aro nd i ≤ 2 := by
                  rcases nv with y | y | y | ⟨y1, p, fx, y2, y3, y4, y5, y6, y7⟩
                  · rw [y.1] at q3; exact absurd q3 (by first | decide | omega)
                  · rw [y.1] at q3; exact absurd q3 (by first | decide | omega)
                  · rw [y.1] at q3; exact absurd q3 (by first | decide | omega)
                  · show (nd i).2.2.2 ≤ 2
                    rw [y6]
                    split <;> omega
                omega
            · rw [if_neg q3] at *
              split <;> omega
          rw [kc, spA_c]
          generalize spA (spl nd sp f) nd sp i k (spB (nd i) S) = T at *
          have xx : (nd (kid sp i k)).1 = 3 ∨ (nd (kid sp i k)).1 ≠ 3 := Classical.em _
          have j218 : ∀ I3 (V : List Wp), FrK Fsw I I3 → CWl I3 V → V = (spO (spl nd sp f) (nd i) (nd (kid sp i k)) (kid sp i k) (spI (nd i) k T)).1 → QK (f_X5_spell_j218 (fr_X5_spell f) (mg (4562 + zn J) I3 J R) pr a (Int32.ofNat (i)) (Int32.ofNat (d)) (nd i).1 (nd i).2.1 L6 (Int32.ofNat (kid sp i k)) (Int32.ofNat (k))) (qS (fun st => ∃ I', st = (pr, a, (Int32.ofNat (i)), (Int32.ofNat (d)), (nd i).1, (nd i).2.1, L6, (Int32.ofNat (kid sp i k + sp (kid sp i k))), (Int32.ofNat (k + 1)), mg (4562 + zn J) I' J R) ∧ FrK Fsw I I' ∧ CWl I' (spO (spl nd sp f) (nd i) (nd (kid sp i k)) (kid sp i k) (spI (nd i) k T)).1) (fun r => ∃ I', r = .inr (pr, a, (Int32.ofNat (i)), (nd i).1, (nd i).2.1, L6, mg (4562 + zn J) I' J R) ∧ FrK Fsw I I' ∧ CWl I' (spA (spl nd sp f) nd sp i (aro nd i) (spB (nd i) S)).1)) := by
            intro I3 V hF3 hW3 eV
            obtain ⟨_, _, _, _, z5⟩ := rows I3 hF3 _ a1
            unfold f_X5_spell_j218
            rw [bT_g4 ht hR, bT_aI ht (by omega), z5, q_let, q_let, n_add, show (Int32.ofNat (k)) + 1 = (Int32.ofNat (k + 1)) from n_add k 1]
            exact q_go ⟨I3, rfl, hF3, by rw [← eV]; exact hW3⟩
          have j174 : ∀ I3 s0, FrK Fsw I I3 → CWl I3 (spI (nd i) k T).1 → (s0 = 0 ↔ ¬ ((nd i).1 = 3 ∧ (nd (kid sp i k)).1 = 3)) → QK (f_X5_spell_j174 (fr_X5_spell f) (mg (4562 + zn J) I3 J R) pr a (Int32.ofNat (i)) (Int32.ofNat (d)) (nd i).1 (nd i).2.1 L6 (Int32.ofNat (kid sp i k)) (Int32.ofNat (k)) s0) (qS (fun st => ∃ I', st = (pr, a, (Int32.ofNat (i)), (Int32.ofNat (d)), (nd i).1, (nd i).2.1, L6, (Int32.ofNat (kid sp i k + sp (kid sp i k))), (Int32.ofNat (k + 1)), mg (4562 + zn J) I' J R) ∧ FrK Fsw I I' ∧ CWl I' (spO (spl nd sp f) (nd i) (nd (kid sp i k)) (kid sp i k) (spI (nd i) k T)).1) (fun r => ∃ I', r = .inr (pr, a, (Int32.ofNat (i)), (nd i).1, (nd i).2.1, L6, mg (4562 + zn J) I' J R) ∧ FrK Fsw I I' ∧ CWl I' (spA (spl nd sp f) nd sp i (aro nd i) (spB (nd i) S)).1)) := by
            intro I3 s0 hF3 hW3 hs0
            unfold f_X5_spell_j174
            by_cases q : (nd i).1 = 3 ∧ (nd (kid sp i k)).1 = 3
            · have g0 : ¬ s0 = 0 := fun y => hs0.mp y q
              rw [if_pos q.1] at big
              rw [if_neg g0, gr_P0 hR h, if_pos ok_540]
              refine put (w := (4, 40)) hW3 (by omega) rfl rfl w40 hF3 (fun I4 hF4 hW4 => ?_)
              unfold f_X5_spell_j192
              rw [if_pos (ok_P h), show (Int32.ofNat (d)) + 1 = (Int32.ofNat (d + 1)) from n_add d 1]
              have el : (adw (4, 40) (spI (nd i) k T)).1.length = (spI (nd i) k T).1.length + 1 := rfl
              refine q_bind (ih (kid sp i k) (d + 1) (adw (4, 40) (spI (nd i) k T)) I4 a1 (by omega) (keepT I4 hF4) hW4 (by omega) (by omega)) ?_
              rintro _ ⟨I5, rfl, hF5, hW5⟩
              have l5 := (spl_len hw hn f _ a1 (by omega) (adw (4, 40) (spI (nd i) k T))).2.1
              rw [if_neg g0, gr_P0 hR h, if_pos ok_540]
              refine put (w := (5, 41)) hW5 (by omega) rfl rfl w41 (FrK_tr hF4 hF5) (fun I6 hF6 hW6 => ?_)
              refine j218 I6 _ hF6 hW6 ?_
              unfold spO
              rw [if_pos q]
              rfl
            · have g0 : s0 = 0 := hs0.mpr q
              rw [if_pos g0]
              unfold f_X5_spell_j192
              rw [if_pos (ok_P h), show (Int32.ofNat (d)) + 1 = (Int32.ofNat (d + 1)) from n_add d 1]
              refine q_bind (ih (kid sp i k) (d + 1) (spI (nd i) k T) I3 a1 (by omega) (keepT I3 hF3) hW3 (by omega) (by omega)) ?_
              rintro _ ⟨I5, rfl, hF5, hW5⟩
              rw [if_pos g0]
              refine j218 I5 _ (FrK_tr hF3 hF5) hW5 ?_
              unfold spO
              rw [if_neg q]
          have j152 : ∀ I3, FrK Fsw I I3 → CWl I3 (spI (nd i) k T).1 → QK (f_X5_spell_j152 (fr_X5_spell f) (mg (4562 + zn J) I3 J R) pr a (Int32.ofNat (i)) (Int32.ofNat (d)) (nd i).1 (nd i).2.1 L6 (Int32.ofNat (kid sp i k)) (Int32.ofNat (k))) (qS (fun st => ∃ I', st = (pr, a, (Int32.ofNat (i)), (Int32.ofNat (d)), (nd i).1, (nd i).2.1, L6, (Int32.ofNat (kid sp i k + sp (kid sp i k))), (Int32.ofNat (k + 1)), mg (4562 + zn J) I' J R) ∧ FrK Fsw I I' ∧ CWl I' (spO (spl nd sp f) (nd i) (nd (kid sp i k)) (kid sp i k) (spI (nd i) k T)).1) (fun r => ∃ I', r = .inr (pr, a, (Int32.ofNat (i)), (nd i).1, (nd i).2.1, L6, mg (4562 + zn J) I' J R) ∧ FrK Fsw I I' ∧ CWl I' (spA (spl nd sp f) nd sp i (aro nd i) (spB (nd i) S)).1)) := by
            intro I3 hF3 hW3
            obtain ⟨z1, _, _, _, _⟩ := rows I3 hF3 _ a1
            unfold f_X5_spell_j152 f_X5_spell_j173
            by_cases q3 : (nd i).1 = 3
            · rw [if_pos q3, bT_g0 ht hR, bT_aI ht (by omega), z1]
              by_cases p3 : (nd (kid sp i k)).1 = 3
              · rw [if_pos p3]
                exact j174 I3 1 hF3 hW3 ⟨fun y => absurd y (by first | decide | omega), fun y => absurd ⟨q3, p3⟩ y⟩
              · rw [if_neg p3]
                exact j174 I3 0 hF3 hW3 ⟨fun _ y => p3 y.2, fun _ => rfl⟩
            · rw [if_neg q3]
              exact j174 I3 0 hF3 hW3 ⟨fun _ y => q3 y.1, fun _ => rfl⟩
          unfold f_X5_spell_s96
          dsimp only
          rw [q_let, q_let, q_let, q_let, q_let, q_let, q_let, q_let, q_let, q_let, bT_g3 ht hR, bT_aI ht (by omega), y4, if_neg (show ¬ (Int32.ofNat ((nd i).2.2.2)) ≤ (Int32.ofNat (k)) from fun y => absurd ((i32_le (by omega) (by omega)).mp y) (show ¬ aro nd i ≤ k by omega)), bT_gI ht, nn, if_neg (show ¬ (Int32.ofNat (n)) ≤ (Int32.ofNat (kid sp i k)) from fun y => absurd ((i32_le (by omega) (by omega)).mp y) (by omega))]
          by_cases q0 : k = 0
          · rw [if_pos (show (Int32.ofNat (k)) ≤ (0 : Int32) from (i32_le (m := 0) (by omega) (by omega)).mpr (by omega))]
            refine j152 I2 hF2 ?_
            unfold spI
            rw [if_pos q0]
            exact hW2
          · rw [if_neg (show ¬ (Int32.ofNat (k)) ≤ (0 : Int32) from fun y => absurd ((i32_le (m := 0) (by omega) (by omega)).mp y) (by omega)), gr_P0 hR h]
            rw [if_neg q0] at sI
            unfold f_X5_spell_j136 f_X5_spell_j148
            by_cases q2 : (nd i).1 = 2
            · have g0 : ¬ L6 = 0 := fun y => l60.mp y q2
              rw [if_neg g0, if_neg g0, if_pos ok_540]
              refine put (V := T) (w := (6, 44)) hW2 (by omega) rfl rfl w44 hF2 (fun I4 hF4 hW4 => j152 I4 hF4 ?_)
              unfold spI
              rw [if_neg q0, if_pos q2]
              exact hW4
            · have g0 : L6 = 0 := l60.mpr q2
              have q3 : (nd i).1 = 3 := by
                have az : (nd i).2.2.2 ≠ 0 := fun y => by
                  have : aro nd i = 0 := y
                  omega
                rcases nv with y | y | y | y
                · exact absurd y.2.2.2 az
                · exact absurd y.2.2.2 az
                · exact absurd y.1 q2
                · exact y.1
              obtain ⟨u1, u2⟩ := wdS nv q3
              rw [if_pos g0, if_pos g0, if_pos ok_540]
              refine put (V := T) (w := sgw (nd i)) hW2 (by omega) rfl u2.symm u1 hF2 (fun I4 hF4 hW4 => j152 I4 hF4 ?_)
              unfold spI
              rw [if_neg q0, if_neg q2]
              exact hW4
        · rintro st ⟨I2, rfl, hF2, hW2⟩
          obtain ⟨y1, y2, y3, y4, y5⟩ := rows I2 hF2 i hi
          unfold f_X5_spell_s96
          dsimp only
          rw [q_let, q_let, q_let, q_let, q_let, q_let, q_let, q_let, q_let, q_let, bT_g3 ht hR, bT_aI ht (by omega), y4, if_pos (show (Int32.ofNat ((nd i).2.2.2)) ≤ (Int32.ofNat (aro nd i)) from Int32.le_refl _)]
          exact q_ex ⟨I2, rfl, hF2, hW2⟩
      · rintro _ ⟨I2, rfl, hF2, hW2⟩
        simp only [Sum.elim_inr]
        have tl := (spA_len hw hn hi hf (spB (nd i) S) (aro nd i) (Nat.le_refl _)).1
        obtain ⟨y1, y2, y3, y4, y5⟩ := rows I2 hF2 i hi
        generalize spA (spl nd sp f) nd sp i (aro nd i) (spB (nd i) S) = V at *
        unfold f_X5_spell_j236 spC
        by_cases q3 : (nd i).1 = 3
        · have q2 : (nd i).1 ≠ 2 := by rw [q3]; decide
          have g0 : L6 = 0 := l60.mpr q2
          rw [if_pos g0, if_pos q3]
          unfold f_X5_spell_j252 f_X5_spell_j279
          rw [if_pos q3, bT_g2 ht hR, bT_aI ht (by omega), y3]
          by_cases z1 : (nd i).2.2.1 = 1
          · obtain ⟨u1, u2⟩ := wdS nv q3
            have vl : V.1.length < 300 := by
              rw [kn] at tl
              have : aro nd i ≤ 4 := x4
              rw [if_pos q3] at tl lB
              omega
            rw [if_pos z1, if_pos z1, gr_P0 hR h, if_pos ok_540]
            refine put (V := V) (w := sgw (nd i)) hW2 vl rfl u2.symm u1 hF2 (fun I4 hF4 hW4 => ?_)
            exact q_ok ⟨I4, rfl, hF4, hW4⟩
          · rw [if_neg z1, if_neg z1]
            exact q_ok ⟨I2, rfl, hF2, hW2⟩
        · rw [if_neg q3]
          by_cases q2 : (nd i).1 = 2
          · have g0 : ¬ L6 = 0 := fun y => l60.mp y q2
            have vl : V.1.length < 300 := by
              rw [kn] at tl
              have : aro nd i ≤ 4 := x4
              rw [if_neg q3] at tl lB
              omega
            rw [if_neg g0, if_pos q2, gr_P0 hR h, if_pos ok_540]
            refine put (V := V) (w := (5, 41)) hW2 vl rfl rfl w41 hF2 (fun I4 hF4 hW4 => ?_)
            unfold f_X5_spell_j252 f_X5_spell_j279
            rw [if_neg q3]
            exact q_ok ⟨I4, rfl, hF4, hW4⟩
          · have g0 : L6 = 0 := l60.mpr q2
            rw [if_pos g0, if_neg q2]
            unfold f_X5_spell_j252 f_X5_spell_j279
            rw [if_neg q3]
            exact q_ok ⟨I2, rfl, hF2, hW2⟩
    have j72 : ∀ I1 V, FrK Fsw I I1 → CWl I1 V → V.length ≤ S.1.length + 1 → (spB (nd i) S).1 = (if (nd i).1 = 2 then ((4, 40), 0) :: V else V) → QK (f_X5_spell_j72 (fr_X5_spell f) (mg (4562 + zn J) I1 J R) pr a (Int32.ofNat (i)) (Int32.ofNat (d)) (nd i).1 (nd i).2.1 L6) (fun r => ∃ I', r = mg (4562 + zn J) I' J R ∧ FrK Fsw I I' ∧ CWl I' (spC (nd i) (spA (spl nd sp f) nd sp i (aro nd i) (spB (nd i) S))).1) := by
      intro I1 V hF1 hW1 vl eB
      unfold f_X5_spell_j72
      by_cases q2 : (nd i).1 = 2
      · have g0 : ¬ L6 = 0 := fun y => l60.mp y q2
        rw [if_pos q2] at eB
        rw [if_neg g0, gr_P0 hR h, if_pos ok_540]
        refine put (V := (V, fun _ => 0)) (w := (4, 40)) hW1 (by show V.length < 300; omega) rfl rfl w40 hF1 (fun I4 hF4 hW4 => j88 I4 hF4 ?_)
        rw [eB]
        exact hW4
      · have g0 : L6 = 0 := l60.mpr q2
        rw [if_neg q2] at eB
        rw [if_pos g0]
        exact j88 I1 hF1 (by rw [eB]; exact hW1)
    obtain ⟨y1, y2, y3, y4, y5⟩ := rows I FrK_rfl i hi
    show QK (f_X5_spell_b (fr_X5_spell f) (mg (4562 + zn J) I J R) pr a (Int32.ofNat (i)) (Int32.ofNat (d))) _
    unfold f_X5_spell_b
    have sp1 := (hw.2.2.2 i hi).1
    rw [if_pos (show (Int32.ofNat (d)) ≤ (80 : Int32) from (i32_le (m := 80) (by omega) (by omega)).mpr (by omega)), bT_g0 ht hR, bT_aI ht (by omega), y1, bT_g1 ht hR, bT_aI ht (by omega), y2]
    have e6 : (if (nd i).1 = 2 then f_X5_spell_j34 (fr_X5_spell f) (mg (4562 + zn J) I J R) pr a (Int32.ofNat (i)) (Int32.ofNat (d)) (nd i).1 (nd i).2.1 1 else f_X5_spell_j34 (fr_X5_spell f) (mg (4562 + zn J) I J R) pr a (Int32.ofNat (i)) (Int32.ofNat (d)) (nd i).1 (nd i).2.1 0) = f_X5_spell_j34 (fr_X5_spell f) (mg (4562 + zn J) I J R) pr a (Int32.ofNat (i)) (Int32.ofNat (d)) (nd i).1 (nd i).2.1 L6 := by
      rw [hL6]
      split <;> rfl
    rw [e6]
    have j51 : ∀ w : Wd, WOK w → wvI w = (nd i).2.1 → (if (nd i).1 = 2 then (1 : Int32) else (nd i).1) = (Int32.ofNat (w.1)) → (spB (nd i) S).1 = (if (nd i).1 = 2 then ((4, 40), 0) :: (w, 0) :: S.1 else (w, 0) :: S.1) → QK (f_X5_spell_j51 (fr_X5_spell f) (mg (4562 + zn J) I J R) pr a (Int32.ofNat (i)) (Int32.ofNat (d)) (nd i).1 (nd i).2.1 L6) (fun r => ∃ I', r = mg (4562 + zn J) I' J R ∧ FrK Fsw I I' ∧ CWl I' (spC (nd i) (spA (spl nd sp f) nd sp i (aro nd i) (spB (nd i) S))).1) := by
      intro w ww wv wk eB
      unfold f_X5_spell_j51 f_X5_spell_j66
      rw [gr_P0 hR h]
      by_cases q2 : (nd i).1 = 2
      · have g0 : ¬ L6 = 0 := fun y => l60.mp y q2
        rw [if_pos q2] at wk
        rw [if_neg g0, if_pos ok_540]
        refine put (V := S) (w := w) hW (by omega) wk wv.symm ww FrK_rfl (fun I4 hF4 hW4 => j72 I4 ((w, 0) :: S.1) hF4 hW4 (Nat.le_refl _) eB)
      · have g0 : L6 = 0 := l60.mpr q2
        rw [if_neg q2] at wk
        rw [if_pos g0, if_pos ok_540]
        refine put (V := S) (w := w) hW (by omega) wk wv.symm ww FrK_rfl (fun I4 hF4 hW4 => j72 I4 ((w, 0) :: S.1) hF4 hW4 (Nat.le_refl _) eB)
    unfold f_X5_spell_j34
    by_cases q3 : (nd i).1 = 3
    · have q2 : (nd i).1 ≠ 2 := by rw [q3]; decide
      rw [if_pos q3, bT_g2 ht hR, bT_aI ht (by omega), y3]
      by_cases z0 : (nd i).2.2.1 = 0
      · obtain ⟨u1, u2⟩ := wdS nv q3
        rw [if_pos z0]
        refine j51 (sgw (nd i)) u1 u2 (by rw [if_neg q2, q3]; rfl) ?_
        unfold spB
        rw [if_pos q3, if_pos z0, if_neg q2]
        rfl
      · rw [if_neg z0]
        refine j72 I S.1 FrK_rfl hW (by omega) ?_
        unfold spB
        rw [if_pos q3, if_neg z0, if_neg q2]
    · rw [if_neg q3]
      obtain ⟨u1, u2⟩ := wdB nv q3
      by_cases q2 : (nd i).1 = 2
      · have z0 : (nd i).1 ≠ 0 := by rw [q2]; decide
        rw [if_neg z0] at u1 u2
        refine j51 (1, vN (nd i)) u1 u2 (by rw [if_pos q2]; rfl) ?_
        unfold spB
        rw [if_neg q3, if_pos q2, if_pos q2]
        rfl
      · refine j51 ((if (nd i).1 = 0 then 0 else 1), vN (nd i)) u1 u2 ?_ ?_
        · rw [if_neg q2]
          rcases x5 with z | z | z | z
          · rw [z]; rfl
          · rw [z]; rfl
          · exact absurd z q2
          · exact absurd z q3
        · unfold spB
          rw [if_neg q3, if_neg q2, if_neg q2]
          rfl
end CSP
