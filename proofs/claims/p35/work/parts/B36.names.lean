/-! the class's machine: what a name means -/
def CCh (I : Nat → Nat → Int32) (h : Nat) : Nat → Ch → Int32 → Prop
  | _, [], z => z = -1
  | sc, e :: r, z => ∃ k p, k < sc ∧ z = (Int32.ofNat (k)) ∧ I 582 k = (Int32.ofNat (p)) ∧ ((e.1 = 0 ∧ I 580 k = 0 ∧ I 581 k = (Int32.ofNat (e.2.length)) ∧ p + e.2.length ≤ h ∧ r = [] ∧ I 583 k = -1 ∧ ∀ j v, e.2[j]? = some v → CV I (584 + 5 * (p + j)) v) ∨ (97 ≤ e.1 ∧ e.1 < 123 ∧ I 580 k = (Int32.ofNat (e.1)) ∧ p < h ∧ (∃ v, e.2 = [v] ∧ CV I (584 + 5 * p) v) ∧ CCh I h k r (I 583 k)))
theorem CCh_keep {I I' : Nat → Nat → Int32} {h t sc h' : Nat} : ∀ (ch : Ch) (s2 : Nat) (z : Int32), CCh I h s2 ch z → s2 ≤ sc → h ≤ h' → FrK (Fm h t sc) I I' → CCh I' h' s2 ch z := by
  intro ch
  induction ch with
  | nil => intro s2 z H _ _ _; exact H
  | cons e r ih =>
    intro s2 z H hs hh hF
    obtain ⟨k, p, h1, h2, h3, h4⟩ := H
    have cell : ∀ x, 580 ≤ x → x ≤ 583 → I' x k = I x k := fun x g1 g2 => hF x k (by unfold Fm; omega)
    have cv : ∀ q v, q < h → CV I (584 + 5 * q) v → CV I' (584 + 5 * q) v := fun q v hq hv => CV_keep hv (fun x g1 g2 => by
      funext j
      exact hF x j (by unfold Fm; omega))
    refine ⟨k, p, h1, h2, by rw [cell 582 (by omega) (by omega)]; exact h3, ?_⟩
    rw [cell 580 (by omega) (by omega), cell 581 (by omega) (by omega), cell 583 (by omega) (by omega)]
    rcases h4 with ⟨a1, a2, a3, a4, a5, a6, a7⟩ | ⟨a1, a2, a3, a4, ⟨v, a5, a6⟩, a7⟩
    · refine Or.inl ⟨a1, a2, a3, by omega, a5, a6, fun j v hj => cv _ v ?_ (a7 j v hj)⟩
      have := (List.getElem?_eq_some_iff.mp hj).1
      omega
    · exact Or.inr ⟨a1, a2, a3, by omega, ⟨v, a5, cv _ v a4 a6⟩, ih k _ a7 (by omega) hh hF⟩
theorem xyz_neg : ∀ x, x < 120 → ((Int32.ofNat (x)) - 120 : Int32) < 0 := by decide +kernel
section MN
variable {I : Nat → Nat → Int32} {J : Nat → Nat → Int64} {R : Nat → Nat → Option Nat} {β : Type} {h t c d sc : Nat} {n : GN}
theorem C_look {x : Nat} (hR : RA R) (hS : MSt I h t c d sc) (hx : 97 ≤ x ∧ x < 123) (hh : h ≤ 240) (hsc : sc ≤ 240) : ∀ (ch : Ch) (z : Int32) (s2 u : Nat), CCh I h s2 ch z → s2 ≤ sc → u + s2 ≤ 240 → ∀ F, ch.length + 2 ≤ F → QK (xloop (f_X4_giveName_s8 (mg (4562 + zn J) I J R)) F (567, (Int32.ofNat (x)), none, z, (Int32.ofNat (u)))) (fun r => (lkC x ch = none ∧ r = .inr (567, (Int32.ofNat (x)), none)) ∨ ∃ v p, lkC x ch = some v ∧ p < h ∧ CV I (584 + 5 * p) v ∧ r = .inr (567, (Int32.ofNat (x)), some (584 + 5 * p))) := by
  obtain ⟨s1, s2', s3, s4, s5⟩ := hS
  intro ch
  induction ch with
  | nil =>
    intro z s2 u H _ hu F hF
    have H : z = -1 := H
    have st : f_X4_giveName_s8 (mg (4562 + zn J) I J R) (567, (Int32.ofNat (x)), none, z, (Int32.ofNat (u))) = some (.inr (.inl (567, (Int32.ofNat (x)), none))) := by
      unfold f_X4_giveName_s8
      dsimp only
      rw [q_let, q_let, q_let, q_let, q_let]
      by_cases q : (240 : Int32) ≤ (Int32.ofNat (u))
      · rw [if_pos q]
      · rw [if_neg q, H, if_pos (by first | decide | omega)]
    exact ⟨_, xl_e (by omega) st, Or.inl ⟨rfl, rfl⟩⟩
  | cons e r ih =>
    intro z s2 u H hs2 hu F hF
    obtain ⟨k, p, h1, h2, h3, h4⟩ := H
    rw [List.length_cons] at hF
    -- the end once a value is there
    have fin : ∀ (o : Nat) (z' : Int32) (u' : Nat) G, 0 < G → xloop (f_X4_giveName_s8 (mg (4562 + zn J) I J R)) G (567, (Int32.ofNat (x)), some o, z', (Int32.ofNat (u'))) = some (.inr (567, (Int32.ofNat (x)), some o)) := fun o z' u' G hG => by
      have st : f_X4_giveName_s8 (mg (4562 + zn J) I J R) (567, (Int32.ofNat (x)), some o, z', (Int32.ofNat (u'))) = some (.inr (.inl (567, (Int32.ofNat (x)), some o))) := by
        unfold f_X4_giveName_s8
        dsimp only
        rw [q_let, q_let, q_let, q_let, q_let]
        by_cases q : (240 : Int32) ≤ (Int32.ofNat (u'))
        · rw [if_pos q]
        · rw [if_neg q]
          by_cases q2 : z' < 0
          · rw [if_pos q2]
          · rw [if_neg q2, gi_567]
            by_cases q3 : I 567 18 ≤ z'
            · rw [if_pos q3]
            · rw [if_neg q3]
              rfl
      exact xl_e hG st
    have pre : ∀ y : Option ((Int32 × xM) ⊕ ((Nat × Int32 × (Option Nat)) ⊕ (Nat × Int32 × (Option Nat) × Int32 × Int32))), (if I 580 k = 0 then f_X4_giveName_j52 (mg (4562 + zn J) I J R) 567 (Int32.ofNat (x)) none (Int32.ofNat (k)) (Int32.ofNat (u)) ((Int32.ofNat (x)) - 120) else f_X4_giveName_j52 (mg (4562 + zn J) I J R) 567 (Int32.ofNat (x)) none (Int32.ofNat (k)) (Int32.ofNat (u)) 0) = y → f_X4_giveName_s8 (mg (4562 + zn J) I J R) (567, (Int32.ofNat (x)), none, z, (Int32.ofNat (u))) = y := fun y hy => by
      unfold f_X4_giveName_s8
      dsimp only
      rw [q_let, q_let, q_let, q_let, q_let, if_neg (show ¬ (240 : Int32) ≤ (Int32.ofNat (u)) from fun y => absurd ((i32_le (k := 240) (by omega) (by omega)).mp y) (by omega)), h2, if_neg (show ¬ (Int32.ofNat (k)) < (0 : Int32) from fun y => absurd ((i32_lt (m := 0) (by omega) (by omega)).mp y) (Nat.not_lt_zero _)), gi_567, s5, if_neg (show ¬ (Int32.ofNat (sc)) ≤ (Int32.ofNat (k)) from fun y => absurd ((i32_le (by omega) (by omega)).mp y) (by omega)), Option.elim_none, gr_567_14 hR, ga_580 (by omega)]
      exact hy
    have j146 : ∀ o, f_X4_giveName_j146 (mg (4562 + zn J) I J R) 567 (Int32.ofNat (x)) o (Int32.ofNat (k)) (Int32.ofNat (u)) = some (.inr (.inr (567, (Int32.ofNat (x)), o, I 583 k, (Int32.ofNat (u + 1))))) := fun o => by
      unfold f_X4_giveName_j146
      rw [gr_567_17 hR, ga_583 (by omega), q_let, show (Int32.ofNat (u)) + (1 : Int32) = (Int32.ofNat (u + 1)) from n_add u 1]
    have j100 : ∀ m : Nat, p + m < h → f_X4_giveName_j100 (mg (4562 + zn J) I J R) 567 (Int32.ofNat (x)) none (Int32.ofNat (k)) (Int32.ofNat (u)) (Int32.ofNat (m)) 1 = some (.inr (.inr (567, (Int32.ofNat (x)), some (584 + 5 * (p + m)), I 583 k, (Int32.ofNat (u + 1))))) := fun m hm => by
      unfold f_X4_giveName_j100
      rw [gr_567_16 hR, ga_582 (by omega), h3, q_let, n_add, if_neg (show ¬ (Int32.ofNat (m)) < (0 : Int32) from fun y => absurd ((i32_lt (m := 0) (by omega) (by omega)).mp y) (Nat.not_lt_zero _)), if_neg (by first | decide | omega), if_neg (show ¬ (Int32.ofNat (p + m)) < (0 : Int32) from fun y => absurd ((i32_lt (m := 0) (by omega) (by omega)).mp y) (Nat.not_lt_zero _)), gi_567, s1, if_neg (show ¬ (Int32.ofNat (h)) ≤ (Int32.ofNat (p + m)) from fun y => absurd ((i32_le (by omega) (by omega)).mp y) (by omega)), gr_567_2 hR, C_stk hR (by omega), j146]
    have j1000 : ∀ y : Int32, f_X4_giveName_j100 (mg (4562 + zn J) I J R) 567 (Int32.ofNat (x)) none (Int32.ofNat (k)) (Int32.ofNat (u)) y 0 = some (.inr (.inr (567, (Int32.ofNat (x)), none, I 583 k, (Int32.ofNat (u + 1))))) := fun y => by
      unfold f_X4_giveName_j100
      rw [gr_567_16 hR, ga_582 (by omega), q_let]
      by_cases q : y < 0
      · rw [if_pos q, j146]
      · rw [if_neg q, if_pos rfl, j146]
    have j100n : ∀ y s0 : Int32, y < 0 → f_X4_giveName_j100 (mg (4562 + zn J) I J R) 567 (Int32.ofNat (x)) none (Int32.ofNat (k)) (Int32.ofNat (u)) y s0 = some (.inr (.inr (567, (Int32.ofNat (x)), none, I 583 k, (Int32.ofNat (u + 1))))) := fun y s0 hy => by
      unfold f_X4_giveName_j100
      rw [gr_567_16 hR, ga_582 (by omega), q_let, if_pos hy, j146]
    rcases h4 with ⟨a1, a2, a3, a4, a5, a6, a7⟩ | ⟨a1, a2, a3, a4, ⟨v, a5, a6⟩, a7⟩
    · have ending : ∀ (hn : lkC x (e :: r) = none), f_X4_giveName_s8 (mg (4562 + zn J) I J R) (567, (Int32.ofNat (x)), none, z, (Int32.ofNat (u))) = some (.inr (.inr (567, (Int32.ofNat (x)), none, I 583 k, (Int32.ofNat (u + 1))))) → QK (xloop (f_X4_giveName_s8 (mg (4562 + zn J) I J R)) F (567, (Int32.ofNat (x)), none, z, (Int32.ofNat (u)))) (fun r' => (lkC x (e :: r) = none ∧ r' = .inr (567, (Int32.ofNat (x)), none)) ∨ ∃ v p, lkC x (e :: r) = some v ∧ p < h ∧ CV I (584 + 5 * p) v ∧ r' = .inr (567, (Int32.ofNat (x)), some (584 + 5 * p))) := fun hn st => by
        rw [xl_s (by omega) st, a6]
        obtain ⟨y, ey, g⟩ := ih (-1) 0 (u + 1) (by rw [a5]; rfl) (Nat.zero_le _) (by omega) (F - 1) (by omega)
        rw [a5] at g
        rcases g with ⟨-, g2⟩ | ⟨v, p', g1, -⟩
        · exact ⟨y, ey, Or.inl ⟨hn, g2⟩⟩
        · cases g1
      by_cases q : 120 ≤ x
      · have ex : (Int32.ofNat (x)) - (120 : Int32) = (Int32.ofNat (x - 120)) := n_sub (b := 120) q
        by_cases q2 : x - 120 < e.2.length
        · have el : e.2[x - 120]? = some e.2[x - 120] := List.getElem?_eq_getElem q2
          have lk : lkC x (e :: r) = some e.2[x - 120] := by
            show (if e.1 = 0 then (if 120 ≤ x then e.2[x - 120]? else none) else _) = _
            rw [if_pos a1, if_pos q, el]
          have st : f_X4_giveName_s8 (mg (4562 + zn J) I J R) (567, (Int32.ofNat (x)), none, z, (Int32.ofNat (u))) = some (.inr (.inr (567, (Int32.ofNat (x)), some (584 + 5 * (p + (x - 120))), I 583 k, (Int32.ofNat (u + 1))))) := by
            refine pre _ ?_
            rw [if_pos a2, ex]
            unfold f_X4_giveName_j52
            rw [gr_567_14 hR, ga_580 (by omega), if_pos a2, gr_567_15 hR, ga_581 (by omega), a3, if_neg (show ¬ (Int32.ofNat (e.2.length)) ≤ (Int32.ofNat (x - 120)) from fun y => absurd ((i32_le (by omega) (by omega)).mp y) (by omega)), j100 _ (by omega)]
          rw [xl_s (by omega) st, fin _ _ _ _ (by omega)]
          exact ⟨_, rfl, Or.inr ⟨_, p + (x - 120), lk, by omega, a7 _ _ el, rfl⟩⟩
        · have lk : lkC x (e :: r) = none := by
            show (if e.1 = 0 then (if 120 ≤ x then e.2[x - 120]? else none) else _) = _
            rw [if_pos a1, if_pos q, List.getElem?_eq_none (by omega)]
          refine ending lk (pre _ ?_)
          rw [if_pos a2, ex]
          unfold f_X4_giveName_j52
          rw [gr_567_14 hR, ga_580 (by omega), if_pos a2, gr_567_15 hR, ga_581 (by omega), a3, if_pos (show (Int32.ofNat (e.2.length)) ≤ (Int32.ofNat (x - 120)) from (i32_le (by omega) (by omega)).mpr (by omega)), j1000]
      · have lk : lkC x (e :: r) = none := by
          show (if e.1 = 0 then (if 120 ≤ x then e.2[x - 120]? else none) else _) = _
          rw [if_pos a1, if_neg q]
        have neg := xyz_neg x (by omega)
        refine ending lk (pre _ ?_)
        rw [if_pos a2]
        unfold f_X4_giveName_j52
        rw [gr_567_14 hR, ga_580 (by omega), if_pos a2, gr_567_15 hR, ga_581 (by omega)]
        split
        · exact j100n _ _ neg
        · exact j100n _ _ neg
    · have e0 : ¬ e.1 = 0 := by omega
      have nz : ¬ I 580 k = 0 := by
        rw [a3]
        exact i32_ne (b := 0) (by omega) (by omega) e0
      have ee : (I 580 k = (Int32.ofNat (x))) ↔ e.1 = x := by
        rw [a3]
        exact i32_eq (by omega) (by omega)
      by_cases q : e.1 = x
      · have lk : lkC x (e :: r) = some v := by
          show (if e.1 = 0 then _ else if e.1 = x then e.2.head? else _) = _
          rw [if_neg e0, if_pos q, a5]
          rfl
        have st : f_X4_giveName_s8 (mg (4562 + zn J) I J R) (567, (Int32.ofNat (x)), none, z, (Int32.ofNat (u))) = some (.inr (.inr (567, (Int32.ofNat (x)), some (584 + 5 * (p + 0)), I 583 k, (Int32.ofNat (u + 1))))) := by
          refine pre _ ?_
          rw [if_neg nz]
          unfold f_X4_giveName_j52
          rw [gr_567_14 hR, ga_580 (by omega), if_neg nz, gr_567_14 hR, ga_580 (by omega), if_pos (ee.mpr q)]
          exact j100 0 (by omega)
        rw [xl_s (by omega) st, fin _ _ _ _ (by omega)]
        exact ⟨_, rfl, Or.inr ⟨v, p + 0, lk, by omega, a6, rfl⟩⟩
      · have lk : lkC x (e :: r) = lkC x r := by
          show (if e.1 = 0 then _ else if e.1 = x then e.2.head? else _) = _
          rw [if_neg e0, if_neg q]
        have st : f_X4_giveName_s8 (mg (4562 + zn J) I J R) (567, (Int32.ofNat (x)), none, z, (Int32.ofNat (u))) = some (.inr (.inr (567, (Int32.ofNat (x)), none, I 583 k, (Int32.ofNat (u + 1))))) := by
          refine pre _ ?_
          rw [if_neg nz]
          unfold f_X4_giveName_j52
          rw [gr_567_14 hR, ga_580 (by omega), if_neg nz, gr_567_14 hR, ga_580 (by omega), if_neg (fun y => q (ee.mp y)), j1000]
        rw [xl_s (by omega) st, lk]
        exact ih (I 583 k) k (u + 1) a7 (by omega) (by omega) (F - 1) (by omega)
theorem C_giveName {x : Nat} {ch : Ch} {z : Int32} (hR : RA R) (hS : MSt I h t c d sc) (hN : CNm I n) (hg : ∀ l, l < 26 → Gd (n.2 l)) (hc : ChO ch) (hx : 97 ≤ x ∧ x < 123) (hh : h < 240) (hsc : sc ≤ 240) (hC : CCh I h sc ch z) : QK (f_X4_giveName (mg (4562 + zn J) I J R) 567 (Int32.ofNat (x)) z) (fun r => match lkN n ch x with
    | none => r = (4, mg (4562 + zn J) I J R)
    | some v => ∃ I', r = (0, mg (4562 + zn J) I' J R) ∧ FrK (Fm h t sc) I I' ∧ MSt I' (h + 1) t c d sc ∧ CV I' (584 + 5 * h) v) := by
  have hS' := hS
  obtain ⟨s1, s2, s3, s4, s5⟩ := hS
  have lenc : ∀ (ch : Ch) (s2 : Nat) (z : Int32), CCh I h s2 ch z → ch.length ≤ s2 := by
    intro ch
    induction ch with
    | nil => intro s2 z _; exact Nat.zero_le _
    | cons e r ih =>
      intro s2 z H
      obtain ⟨k, p, h1, h2, h3, h4⟩ := H
      rw [List.length_cons]
      rcases h4 with ⟨a1, a2, a3, a4, a5, a6, a7⟩ | ⟨a1, a2, a3, a4, a5, a7⟩
      · rw [a5]
        show 0 + 1 ≤ s2
        omega
      · have := ih k _ a7
        omega
  -- a value found is put on top
  have give : ∀ (o : Nat) (v : GV), CV I o v → o ≠ 584 + 5 * h → Gd v → QK (f_X4_giveName_j213 (mg (4562 + zn J) I J R) 567 (some o)) (fun r => ∃ I', r = (0, mg (4562 + zn J) I' J R) ∧ FrK (Fm h t sc) I I' ∧ MSt I' (h + 1) t c d sc ∧ CV I' (584 + 5 * h) v) := by
    intro o v hv ho gv
    unfold f_X4_giveName_j213
    rw [Option.elim_some, gr_567_2 hR, gi_567, s1, C_stk hR hh, if_pos (bF_xk (isF_584 hh))]
    refine q_bind (F_copy hR (isF_584 hh) hv (b200 gv.1) (b200 (by rw [Int.natAbs_natCast]; exact gv.2.2.1)) (fun y => ho y.symm)) ?_
    rintro _ ⟨I1, rfl, hF1, hV1⟩
    have k567 : ∀ k, I1 567 k = I 567 k := fun k => by rw [hF1 567 (fun z => by unfold Sf at z; omega)]
    rw [gi_567, k567, s1, gs_567, show (Int32.ofNat (h)) + (1 : Int32) = (Int32.ofNat (h + 1)) from n_add h 1]
    refine q_ok ⟨_, rfl, fun x k y => ?_, ⟨?_, ?_, ?_, ?_, ?_⟩, CV_keep hV1 (fun x g1 g2 => up_r (by omega))⟩
    · unfold Fm at y
      rw [up_n (by omega), hF1 x (fun z => by unfold Sf at z; omega)]
    · rw [up_s]
    · rw [up_n (by omega), k567]; exact s2
    · rw [up_n (by omega), k567]; exact s3
    · rw [up_n (by omega), k567]; exact s4
    · rw [up_n (by omega), k567]; exact s5
  unfold f_X4_giveName
  rw [q_let]
  refine q_bind (C_look hR hS' hx (by omega) hsc ch z sc 0 hC (Nat.le_refl _) (by omega) xF (by have := lenc ch sc z hC; unfold xF; omega)) ?_
  rintro _ (⟨l0, rfl⟩ | ⟨v, p, l1, hp, hv, rfl⟩)
  · simp only [Sum.elim_inr]
    unfold f_X4_giveName_j161
    obtain ⟨n1, n2, n3⟩ := hN (x - 97) (by omega)
    unfold lkN
    rw [l0, q_let, Option.elim_none, show (Int32.ofNat (x)) - (97 : Int32) = (Int32.ofNat (x - 97)) from n_sub (b := 97) (by omega), if_neg (show ¬ (Int32.ofNat (x - 97)) < (0 : Int32) from fun y => absurd ((i32_lt (m := 0) (by omega) (by omega)).mp y) (Nat.not_lt_zero _)), gr_567_0 hR, gr_11_7 hR, ogL_18, Option.bind_some, if_neg (show ¬ (26 : Int32) ≤ (Int32.ofNat (x - 97)) from fun y => absurd ((i32_le (k := 26) (by omega) (by omega)).mp y) (by omega)), gr_567_0 hR, gr_11_7 hR, ga_18 (by omega), n1]
    dsimp only
    by_cases q : n.1 (x - 97) = 0
    · rw [if_pos q, if_pos q]
      unfold f_X4_giveName_j213
      exact q_ok rfl
    · rw [if_neg q, if_neg q, gr_567_0 hR, gr_11_6 hR, g_name hR (by omega)]
      exact give _ _ n3 (by omega) (hg _ (by omega))
  · simp only [Sum.elim_inr]
    unfold f_X4_giveName_j161
    unfold lkN
    rw [l1, q_let, Option.elim_some]
    exact give _ v hv (by omega) (lkC_Gd x ch v hc l1)
end MN
