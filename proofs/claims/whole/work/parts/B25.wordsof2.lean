/-! the reference spells a tree: the loop -/
theorem tF_s (x : Nat) (o : List Nat) : tF (x :: o) o.length = x := if_pos rfl
theorem tF_n {x : Nat} {o : List Nat} {j : Nat} (h : j < o.length) : tF (x :: o) j = tF o j := if_neg (by omega)
theorem tF_mem : ∀ (o : List Nat) (m : Nat), (∀ x, x ∈ o → x < m) → ∀ j, j < o.length → tF o j < m := by
  intro o
  induction o with
  | nil => intro m _ j hj; exact absurd hj (Nat.not_lt_zero _)
  | cons x o ih =>
    intro m h j hj
    by_cases z : j = o.length
    · rw [z, tF_s]
      exact h x (List.mem_cons_self ..)
    · rw [List.length_cons] at hj
      rw [tF_n (by omega)]
      exact ih m (fun y hy => h y (List.mem_cons_of_mem _ hy)) j (by omega)
theorem q_imp {α : Type} {x : Option α} {P Q : α → Prop} (h : QK x P) (g : ∀ a, P a → Q a) : QK x Q := by
  obtain ⟨a, e, p⟩ := h
  exact ⟨a, e, g a p⟩
section MWP
variable {I : Nat → Nat → Int32} {J : Nat → Nat → Int64} {R : Nat → Nat → Option Nat} {b : GB} {a n : Nat} {nd : Nat → Nd} {sp : Nat → Nat} {β : Type}
def MPp (I : Nat → Nat → Int32) (S : SW) : Prop := MWl I S.1 ∧ (∀ j, j < S.1.length → I 4582 j = if S.2 j = 0 then -1 else (Int32.ofNat (S.2 j))) ∧ ∀ j, S.1.length ≤ j → S.2 j = 0
theorem M_wordP {S : SW} {w : Wd} {k v : Int32} (hR : RA R) (hW : MPp I S) (hl : S.1.length < 300) (hk : k = kM w.1) (hv : v = wvI w) (hw : WOK w) : QK (f_X12_word (mg 4625 I J R) 4561 k v 0) (fun r => ∃ I', r = mg 4625 I' J R ∧ FrK (fun a k => (a = 4561 ∧ k = 25) ∨ (4579 ≤ a ∧ a ≤ 4583)) I I' ∧ MPp I' (adw w S)) := by
  obtain ⟨h1, h2, h3⟩ := hW
  refine q_imp (M_word (p := 0) hR h1 hl hk hv hw) ?_
  rintro _ ⟨I', rfl, hF, hW', e1, e2⟩
  refine ⟨I', rfl, hF, hW', fun j hj => ?_, fun j hj => h3 j ?_⟩
  · have hj : j < S.1.length + 1 := hj
    show I' 4582 j = if S.2 j = 0 then -1 else (Int32.ofNat (S.2 j))
    by_cases z : j = S.1.length
    · rw [z, e1, h3 _ (Nat.le_refl _), if_pos rfl]
    · rw [e2 j (by omega)]
      exact h2 j (by omega)
  · have hj : S.1.length + 1 ≤ j := hj
    omega
def PWo (I : Nat → Nat → Int32) (J : Nat → Nat → Int64) (R : Nat → Nat → Option Nat) (a n : Nat) (nd : Nat → Nd) (sp : Nat → Nat) (F : SW) (m : Nat) (s : Nat × Int32 × xM) : Prop := ∃ I1 T S o, s = (4561, (Int32.ofNat (o.length)), mg 4625 I1 J R) ∧ msT sp T = m ∧ FrK Fwo I I1 ∧ okT n T o.length ∧ outT nd sp T S o = F ∧ MTk I1 a T ∧ MPp I1 S ∧ (∀ j, j < o.length → I1 4598 j = (Int32.ofNat (tF o j))) ∧ (∀ x, x ∈ o → x < S.1.length) ∧ o.length ≤ S.1.length
theorem MWl_keepP {I' : Nat → Nat → Int32} {l : List Wp} (H : MWl I l) (e : ∀ a k, ((a = 4561 ∧ k = 25) ∨ (4579 ≤ a ∧ a ≤ 4583)) ∧ a ≠ 4582 → I' a k = I a k) : MWl I' l := by
  obtain ⟨h1, h2, h3⟩ := H
  refine ⟨h1, by rw [e _ _ (by omega)]; exact h2, fun i hi => ?_⟩
  rw [e 4579 _ (by omega), e 4580 _ (by omega), e 4581 _ (by omega), e 4583 _ (by omega)]
  exact h3 i hi
theorem M_wordsOf (hR : RA R) (hM : MT I a n nd sp) (h80 : n ≤ 80) (hn : ∀ i, i < n → NV b (nd i)) : QK (f_X12_wordsOf (mg 4625 I J R) 4561 (Int32.ofNat (a))) (fun r => ∃ I', r = mg 4625 I' J R ∧ FrK Fwo I I' ∧ MPp I' (spl nd sp 200 0 S0)) := by
  have hw := hM.2.1
  have hb := hM.1.1
  have hF238 : (spl nd sp 200 0 S0).1.length ≤ 238 := by
    have := (spl_pairs hw hn (f := 200) (by omega)).2.1
    omega
  generalize hFF : spl nd sp 200 0 S0 = F at *
  unfold f_X12_wordsOf
  rw [gs_4561, gs_4561, q_let, if_pos ok_4561]
  have hI0 : FrK Fwo I (up (up I 4561 25 0) 4561 45 0) := fun x k y => by
    unfold Fwo at y
    rw [up_n (by omega), up_n (by omega)]
  have t0 : MTk (up (up I 4561 25 0) 4561 45 0) a [] := ⟨up_s, fun j hj => absurd hj (Nat.not_lt_zero _)⟩
  refine q_bind (M_task (t := tN 0) hR t0 (by decide) rfl rfl) ?_
  rintro _ ⟨I0, rfl, hF0, hT0⟩
  have f0 : FrK Fwo I I0 := FrK_tr hI0 (FrK_mono hF0 (fun x k y => by unfold Ftk at y; unfold Fwo; omega))
  have w0 : MWl I0 [] := ⟨Nat.zero_le _, by rw [hF0 _ _ (by unfold Ftk; omega), up_n (by omega), up_s]; rfl, fun j hj => absurd hj (Nat.not_lt_zero _)⟩
  refine q_bind (P := fun r => ∃ I', r = .inr (mg 4625 I' J R) ∧ FrK Fwo I I' ∧ MPp I' F) ?_ ?_
  · refine q_loop (PWo I J R a n nd sp F) ?_ (m := msT sp [tN 0]) ⟨I0, [tN 0], S0, [], rfl, rfl, f0, okT_N hw.1 rfl, hFF, hT0, ⟨w0, fun j hj => absurd hj (Nat.not_lt_zero _), fun j _ => rfl⟩, fun j hj => absurd hj (Nat.not_lt_zero _), fun x hx => (by cases hx), Nat.le_refl _⟩ (by
      have : msT sp [tN 0] = 8 * sp 0 := rfl
      rw [this, hw.2.2.1]
      unfold xF
      omega)
    rintro m s ⟨I1, T, S, o, rfl, hm, hF1, hok, hout, hT1, hP1, ho1, ho2, ho3⟩
    obtain ⟨ol1, ol2⟩ := outT_len hw h80 hn T S o hok
    rw [hout] at ol1 ol2
    unfold f_X12_wordsOf_s19 f_X12_wordsOf_j156
    dsimp only
    rw [q_let, q_let, q_let, gi_4561, hT1.1]
    cases T with
    | nil =>
      rw [if_pos (show (Int32.ofNat (([] : List Tk).length)) ≤ (0 : Int32) by decide)]
      refine q_ex ⟨I1, rfl, hF1, ?_⟩
      have e : S = F := hout
      rw [← e]
      exact hP1
    | cons t T =>
      rw [List.length_cons] at ol1
      have e1 : (Int32.ofNat ((t :: T).length)) - 1 = (Int32.ofNat (T.length)) := by
        rw [List.length_cons, show (1 : Int32) = (Int32.ofNat (1)) from rfl, n_sub (by omega), Nat.add_sub_cancel]
      rw [if_neg (show ¬ (Int32.ofNat ((t :: T).length)) ≤ (0 : Int32) from fun y => absurd ((i32_le (m := 0) (by rw [List.length_cons]; omega) (by omega)).mp y) (by rw [List.length_cons]; omega)), gi_4561, hT1.1, gs_4561, e1]
      obtain ⟨k1, k2⟩ := hT1.2 T.length (by rw [List.length_cons]; omega)
      rw [tkL_s] at k1 k2
      have hT2 : MTk (up I1 4561 45 (Int32.ofNat (T.length))) a T := ⟨up_s, fun j hj => by
        rw [up_n (by omega), up_n (by omega)]
        have := hT1.2 j (by rw [List.length_cons]; omega)
        rw [tkL_n hj] at this
        exact this⟩
      have hF2 : FrK Fwo I (up I1 4561 45 (Int32.ofNat (T.length))) := fun x k y => by
        have y2 := y
        unfold Fwo at y
        rw [up_n (by omega)]
        exact hF1 x k y2
      have hP2 : MPp (up I1 4561 45 (Int32.ofNat (T.length))) S := ⟨MWl_keep hP1.1 (fun x k y => up_n (by omega)), fun j hj => by rw [up_n (by omega)]; exact hP1.2.1 j hj, hP1.2.2⟩
      have ho4 : ∀ j, j < o.length → (up I1 4561 45 (Int32.ofNat (T.length))) 4598 j = (Int32.ofNat (tF o j)) := fun j hj => by
        rw [up_n (by omega)]
        exact ho1 j hj
      rw [← show up I1 4561 45 (Int32.ofNat (T.length)) 4596 T.length = I1 4596 T.length from up_n (by omega)] at k1
      rw [← show up I1 4561 45 (Int32.ofNat (T.length)) 4597 T.length = I1 4597 T.length from up_n (by omega)] at k2
      generalize up I1 4561 45 (Int32.ofNat (T.length)) = I2 at *
      have g45 := hT2.1
      rw [gr_4561_44 hR, gi_4561, g45, ga_4597 (by omega), k2, gr_4561_43 hR, gi_4561, g45, ga_4596 (by omega), k1]
      obtain ⟨tk, w⟩ := t
      have wdF : ∀ x k, ((x = 4561 ∧ k = 25) ∨ (4579 ≤ x ∧ x ≤ 4583)) → Fwo x k := fun x k y => by unfold Fwo; omega
      have tkp : ∀ I3 I4, FrK (fun a k => (a = 4561 ∧ k = 25) ∨ (4579 ≤ a ∧ a ≤ 4583)) I3 I4 → MTk I3 a T → MTk I4 a T := fun I3 I4 hf hh => MTk_keep hh (fun x k y => hf x k (by unfold Ftk at y; omega))
      have cnt := hP2.1.2.1
      rcases hok with ⟨z, zw, y⟩ | ⟨z, u, y⟩ | ⟨z, y⟩ | ⟨z, u, y⟩
      · obtain rfl : tk = 0 := z
        have e : tkK ((0, w) : Tk) = kM w.1 := rfl
        obtain ⟨s1, s2, s3⟩ := kM_small w.1
        rw [e, if_neg s1, if_neg s2, if_neg s3, gr_4561_43 hR, gi_4561, g45, ga_4596 (by omega), k1, e, if_pos ok_4561]
        refine q_bind (M_wordP (w := w) hR hP2 (by omega) rfl rfl zw) ?_
        rintro _ ⟨I3, rfl, hF3, hP3⟩
        refine q_go ⟨msT sp T, by rw [← hm]; show _ < 1 + msT sp T; omega, I3, T, adw w S, o, rfl, rfl, FrK_tr hF2 (FrK_mono hF3 wdF), y, hout, tkp _ _ hF3 hT2, hP3, fun j hj => by rw [hF3 _ _ (by omega)]; exact ho4 j hj, fun x hx => Nat.lt_succ_of_lt (ho2 x hx), Nat.le_succ_of_le ho3⟩
      · obtain rfl : tk = 10 := z
        have u : w.2 < n := u
        have e : tkV a ((10, w) : Tk) = (Int32.ofNat (a + w.2)) := rfl
        rw [if_pos (show tkK ((10, w) : Tk) = 10 from rfl), if_pos ok_4561, e]
        refine q_bind (M_tasksOf hR (MT_keep hM (fun x k g1 g2 _ _ => hF2 x k (by unfold Fwo; omega))) hn u hT2 (by omega)) ?_
        rintro _ ⟨I3, rfl, hF3, hT3⟩
        obtain ⟨o1, o2⟩ := exT_ok hw hn u y
        refine q_go ⟨msT sp (exT nd sp w.2 T), by rw [← hm]; exact o2, I3, exT nd sp w.2 T, S, o, rfl, rfl, FrK_tr hF2 (FrK_mono hF3 (fun x k y => by unfold Ftk at y; unfold Fwo; omega)), o1, ?_, hT3, ⟨MWl_keep hP2.1 (fun x k y => hF3 x k (by unfold Ftk; omega)), fun j hj => by rw [hF3 _ _ (by unfold Ftk; omega)]; exact hP2.2.1 j hj, hP2.2.2⟩, fun j hj => by rw [hF3 _ _ (by unfold Ftk; omega)]; exact ho4 j hj, ho2, ho3⟩
        rw [exT_out hw h80 hn u]
        exact hout
      · obtain rfl : tk = 11 := z
        rw [if_neg (show ¬ tkK ((11, w) : Tk) = 10 from (by decide : ¬ (Int32.ofNat (11)) = 10)), if_pos (show tkK ((11, w) : Tk) = 11 from rfl), gr_4561_46 hR, gi_4561, cnt, gw_4598 (by omega), q_let, show (Int32.ofNat (o.length)) + 1 = (Int32.ofNat (o.length + 1)) from n_add _ 1, if_pos ok_4561]
        have hP3 : MPp (up I2 4598 o.length (Int32.ofNat (S.1.length))) S := ⟨MWl_keep hP2.1 (fun x k y => up_n (by omega)), fun j hj => by rw [up_n (by omega)]; exact hP2.2.1 j hj, hP2.2.2⟩
        refine q_bind (M_wordP (w := (4, 40)) hR hP3 (by omega) rfl rfl wok40) ?_
        rintro _ ⟨I3, rfl, hF3, hP4⟩
        refine q_go ⟨msT sp T, by rw [← hm]; show _ < 1 + msT sp T; omega, I3, T, adw (4, 40) S, S.1.length :: o, rfl, rfl, ?_, y, hout, tkp _ _ hF3 (MTk_keep hT2 (fun x k y => up_n (by unfold Ftk at y; omega))), hP4, fun j hj => ?_, fun x hx => ?_, Nat.succ_le_succ ho3⟩
        · refine FrK_tr hF2 (FrK_tr ?_ (FrK_mono hF3 wdF))
          intro x k y
          unfold Fwo at y
          exact up_n (by omega)
        · rw [hF3 _ _ (by omega)]
          by_cases q : j = o.length
          · rw [q, up_s, tF_s]
          · rw [List.length_cons] at hj
            rw [up_n (by omega), tF_n (by omega)]
            exact ho4 j (by omega)
        · have e : (adw (4, 40) S).1.length = S.1.length + 1 := rfl
          rw [e]
          rcases List.mem_cons.mp hx with q | q
          · omega
          · have := ho2 x q
            omega
      · obtain rfl : tk = 12 := z
        cases o with
        | nil => exact absurd u (Nat.lt_irrefl 0)
        | cons x o =>
          rw [List.length_cons] at ol2 ho3 ho4
          have e3 : (Int32.ofNat ((x :: o).length)) + (-1 : Int32) = (Int32.ofNat (o.length)) := by
            rw [show (Int32.ofNat ((x :: o).length)) + (-1 : Int32) = (Int32.ofNat ((x :: o).length)) - 1 from n_decm _, List.length_cons, show (1 : Int32) = (Int32.ofNat (1)) from rfl, n_sub (by omega), Nat.add_sub_cancel]
          have xo := ho4 o.length (by omega)
          rw [tF_s] at xo
          have xl := ho2 x (List.mem_cons_self ..)
          rw [if_neg (show ¬ tkK ((12, w) : Tk) = 10 from (by decide : ¬ (Int32.ofNat (12)) = 10)), if_neg (show ¬ tkK ((12, w) : Tk) = 11 from (by decide : ¬ (Int32.ofNat (12)) = 11)), if_pos (show tkK ((12, w) : Tk) = 12 from rfl), q_let, e3, gr_4561_23 hR, gr_4561_46 hR, ga_4598 (by omega), xo, gi_4561, cnt, gw_4582 (by omega), if_pos ok_4561]
          have hP3 : MPp (up I2 4582 x (Int32.ofNat (S.1.length))) (S.1, fun j => if j = x then S.1.length else S.2 j) := by
            refine ⟨MWl_keepP hP2.1 (fun y k g => up_n (by omega)), fun j hj => ?_, fun j hj => ?_⟩
            · show up I2 4582 x (Int32.ofNat (S.1.length)) 4582 j = if (if j = x then S.1.length else S.2 j) = 0 then -1 else (Int32.ofNat (if j = x then S.1.length else S.2 j))
              by_cases q : j = x
              · rw [if_pos q, q, up_s, if_neg (by omega)]
              · rw [if_neg q, up_n (by omega)]
                exact hP2.2.1 j hj
            · have hj : S.1.length ≤ j := hj
              show (if j = x then S.1.length else S.2 j) = 0
              rw [if_neg (by omega)]
              exact hP2.2.2 j hj
          refine q_bind (M_wordP (w := (5, 41)) hR hP3 (by show S.1.length < 300; omega) rfl rfl wok41) ?_
          rintro _ ⟨I3, rfl, hF3, hP4⟩
          refine q_go ⟨msT sp T, by rw [← hm]; show _ < 1 + msT sp T; omega, I3, T, clw x S, o, rfl, rfl, ?_, y, hout, tkp _ _ hF3 (MTk_keep hT2 (fun x k y => up_n (by unfold Ftk at y; omega))), hP4, fun j hj => ?_, fun y hy => Nat.lt_succ_of_lt (ho2 y (List.mem_cons_of_mem _ hy)), by show o.length ≤ S.1.length + 1; omega⟩
          · refine FrK_tr hF2 (FrK_tr ?_ (FrK_mono hF3 wdF))
            intro y k g
            unfold Fwo at g
            exact up_n (by omega)
          · rw [hF3 _ _ (by omega), up_n (by omega)]
            have := ho4 j (by omega)
            rw [tF_n hj] at this
            exact this
  · rintro _ ⟨I1, rfl, hF1, hP1⟩
    simp only [Sum.elim_inr]
    unfold f_X12_wordsOf_j159
    exact q_ok ⟨I1, rfl, hF1, hP1⟩
end MWP
