/-! the law: the loop of the three names -/
section LET2
variable {C : Nat → Nat → Int32} {Z : Nat} {t : GT} {s : GS} {b : GB} {n : GN} {f : GF} {v : GV} {p : GT} {r : GR} {h : GH} {σ : xM} {aC : Nat → ClassId}
def LtP (b : GB) (σ : xM) (j : Nat) : Prop := ∃ C t s n f v p r h, LSt C 0 t s b n f v p r h σ ∧ t.1 = 0 ∧ s.1 ≤ j ∧ h.1 ≤ 2 * j
theorem ls_lets (hL : aC 104 ≤ 260) (hB : DivB b (plN 47)) (H : LtP b σ 0) : QK (xloop (f_L_law_s18 aC) xF (xkX, 0, 1, 4561, 0, σ)) (fun o => ∃ σ', o = .inr (xkX, 0, 1, 4561, σ') ∧ LtP b σ' 3) := by
  refine q_for 3 (fun j x => ∃ σ', x = (xkX, 0, 1, 4561, (Int32.ofNat (j)), σ') ∧ LtP b σ' j) ?_ ?_ (i := 0) ⟨σ, rfl, H⟩ (Nat.zero_le _) (by unfold xF; omega)
  · rintro j _ hj ⟨σ1, rfl, C1, t1, s1, n1, f1, v1, p1, r1, h1, H1, z1, hs1, hh1⟩
    unfold f_L_law_s18
    rw [q_let, q_let, q_let, q_let, q_let, q_let]
    dsimp only
    obtain ⟨x, ex⟩ := cell_ok (aC := aC) (σ := σ1) hL (k := j) (by omega)
    obtain ⟨k0, hk0, e1⟩ := low_ok (σ := σ1) x (d := 3) (by decide) (by decide)
    have e1 : f_L_low σ1 x 3 = some (Int32.ofNat (k0)) := e1
    have go : ∀ σ', LtP b σ' (j + 1) → QK (f_L_law_j132 aC σ' xkX 0 1 4561 (Int32.ofNat (j))) (qS (fun x => ∃ σ', x = (xkX, 0, 1, 4561, (Int32.ofNat (j + 1)), σ') ∧ LtP b σ' (j + 1)) (fun o => ∃ σ', o = .inr (xkX, 0, 1, 4561, σ') ∧ LtP b σ' 3)) := fun σ' hp => by
      unfold f_L_law_j132
      rw [q_let, show (Int32.ofNat (j)) + (1 : Int32) = (Int32.ofNat (j + 1)) from n_add j 1]
      exact q_go ⟨σ', rfl, hp⟩
    rw [if_neg (show ¬ (3 : Int32) ≤ (Int32.ofNat (j)) from fun y => absurd ((i32_le (k := 3) (by omega) (by omega)).mp y) (by omega)), ex, Option.bind_some, e1, Option.bind_some]
    by_cases q : (Int32.ofNat (k0)) ≤ 0
    · rw [if_pos q]
      exact go σ1 ⟨C1, t1, s1, n1, f1, v1, p1, r1, h1, H1, z1, by omega, by omega⟩
    rw [if_neg q]
    obtain ⟨d, hd, e2⟩ := low_ok (σ := σ1) (x >>> ((2 : Int32) &&& 31)) (d := 10) (by decide) (by decide)
    have e2 : f_L_low σ1 (x >>> ((2 : Int32) &&& 31)) 10 = some (Int32.ofNat (d)) := e2
    obtain ⟨σ2, e3, H2⟩ := ls_type (c := 48 + d) H1 (by omega) (by omega)
    obtain ⟨σ3, e4, H3⟩ := ls_type (c := 47) H2 (by show t1.1 + 1 < 60; omega) (by decide)
    have e4 : f_X11_type σ2 0 47 = some (.inl (Int32.ofNat (t1.1 + 1 + 1)), σ3) := e4
    obtain ⟨e, he, e5⟩ := low_ok (σ := σ3) (x >>> ((6 : Int32) &&& 31)) (d := 9) (by decide) (by decide)
    have e5 : f_L_low σ3 (x >>> ((6 : Int32) &&& 31)) 9 = some (Int32.ofNat (e)) := e5
    obtain ⟨σ4, e6, H4⟩ := ls_type (c := 49 + e) H3 (by show t1.1 + 1 + 1 < 60; omega) (by omega)
    rw [e2, Option.bind_some, if_pos (ls_ok H1), show (48 : Int32) + (Int32.ofNat (d)) = (Int32.ofNat (48 + d)) from n_add 48 d, nar16 (by omega), e3, Option.bind_some, q_let]
    dsimp only
    rw [Sum.elim_inl, if_pos (ls_ok H2), e4, Option.bind_some, q_let]
    dsimp only
    rw [Sum.elim_inl, e5, Option.bind_some, if_pos (ls_ok H3), show (49 : Int32) + (Int32.ofNat (e)) = (Int32.ofNat (49 + e)) from n_add 49 e, nar16 (by omega), e6, Option.bind_some, q_let]
    dsimp only
    rw [Sum.elim_inl, if_neg (show ¬ (1 : Int32) = 0 by decide)]
    -- what was typed is d / (1 + e)
    have hc : ∀ k, k < 3 → (fun k => if k = 0 then 48 + d else if k = 1 then 47 else 49 + e : Nat → Nat) k < 65536 ∧ upN (upN (upN t1.2 t1.1 (Int32.ofNat (48 + d))) (t1.1 + 1) (Int32.ofNat (47))) (t1.1 + 1 + 1) (Int32.ofNat (49 + e)) k = (Int32.ofNat ((fun k => if k = 0 then 48 + d else if k = 1 then 47 else 49 + e : Nat → Nat) k)) := fun k hk => by
      rw [z1]
      rcases (by omega : k = 0 ∨ k = 1 ∨ k = 2) with rfl | rfl | rfl
      · exact ⟨by show 48 + d < 65536; omega, rfl⟩
      · exact ⟨by show 47 < 65536; omega, rfl⟩
      · exact ⟨by show 49 + e < 65536; omega, rfl⟩
    have hln : acc (run b (visl (tyW (fun k => if k = 0 then 48 + d else if k = 1 then 47 else 49 + e) 3)) st0) = some (dvL (plN 47) d (1 + e)) := by
      rw [lex_div (d := d) (e := 1 + e) (by rfl) (by rfl) (by show 49 + e = 48 + (1 + e); omega) hd (by omega)]
      exact acc_div hB
    have t3 : t1.1 + 1 + 1 + 1 = 3 := by omega
    obtain ⟨σ5, nd, sp, e7, H5, w1, w2, -⟩ := ls_read (c := fun k => if k = 0 then 48 + d else if k = 1 then 47 else 49 + e) H4 (fun k hk => hc k (by have hk : k < t1.1 + 1 + 1 + 1 := hk; omega)) (by omega) (by
      show acc (run b (visl (tyW _ (t1.1 + 1 + 1 + 1))) st0) = _
      rw [t3]
      exact hln)
    have l3 : (dvL (plN 47) d (1 + e)).length = 3 := rfl
    rw [l3] at H5 w1 w2
    obtain ⟨R, hR⟩ := ls_RA H1
    obtain ⟨x0, x1, x2, x3⟩ := div_tree hR w1 w2
    have f1' := (ls_top H1).2.2.2.2.1
    have hh5 := hShelf_1 (h := h1) (by omega)
    obtain ⟨w, cc, ev⟩ := ev_div (b := b) (n := n1) (f := f1) (s := sPush s1 3 nd sp) hB x0 x1 x2 x3 hd ⟨by omega, by omega⟩
    have eu1 : (sPush s1 3 nd sp).2.2.1 s1.1 = nd := upN_s
    have eu2 : (sPush s1 3 nd sp).2.2.2 s1.1 = sp := upN_s
    obtain ⟨σ6, e8, H6⟩ := ls_let H5 (l := 23 + j) (k := s1.1) (w := w) (cc := cc) (by omega) (by show s1.1 < s1.1 + 1; omega) (by rw [eu1, eu2]; exact ev)
    rw [show 97 + (23 + j) = 120 + j by omega] at e8
    obtain ⟨σ7, e9, H7⟩ := ls_recall H6 (l := 23 + j) (by omega) (by show upN n1.1 (23 + j) 1 (23 + j) ≠ 0; rw [upN_s]; decide)
    rw [show 97 + (23 + j) = 120 + j by omega] at e9
    have tr := ls_trees H7
    have hN : (hName (hShelf h1) n1 (23 + j)).1 = (hShelf h1).1 + 1 := pushH_1 (by omega)
    rw [if_pos (ls_ok H4), e7, Option.bind_some, q_let]
    dsimp only
    rw [Sum.elim_inl, if_pos (ls_ok H5), show (120 : Int32) + (Int32.ofNat (j)) = (Int32.ofNat (120 + j)) from n_add 120 j, nar16 (by omega), e8, Option.bind_some, q_let]
    dsimp only
    rw [Sum.elim_inl, if_pos rfl, if_pos (ls_ok H6), e9, Option.bind_some, q_let]
    dsimp only
    rw [Sum.elim_inl, if_neg (show ¬ (1 : Int32) = 0 by decide), if_pos (ls_ok H7), tr, Option.bind_some, if_neg (show ¬ (Int32.ofNat ((sPush s1 3 nd sp).1)) ≤ 0 from fun y => absurd ((i32_le (m := 0) (by show s1.1 + 1 < 2147483648; omega) (by omega)).mp y) (by show ¬ s1.1 + 1 ≤ 0; omega))]
    unfold f_L_law_j131
    exact go σ7 ⟨C1, _, _, _, f1, _, p1, r1, _, H7, rfl, by show s1.1 + 1 ≤ j + 1; omega, by rw [hN, hh5]; omega⟩
  · rintro _ ⟨σ1, rfl, hp⟩
    unfold f_L_law_s18
    rw [q_let, q_let, q_let, q_let, q_let, q_let]
    dsimp only
    rw [if_pos (by decide)]
    exact q_ex ⟨σ1, rfl, hp⟩
end LET2
