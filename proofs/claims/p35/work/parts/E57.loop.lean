/-! the law: ten texts -/
theorem q_forf {α β γ : Type} {step : α → Option (γ ⊕ (β ⊕ α))} {Q : γ ⊕ β → Prop} (F N : Nat) (P : Nat → α → Prop) (hs : ∀ i s, i < N → P i s → QK (step s) (qS (P (i + 1)) Q)) (he : ∀ s, P N s → QK (step s) (qS (fun _ => False) Q)) : ∀ i s, P i s → i ≤ N → N < i + F → QK (xloop step F s) Q := by
  induction F with
  | zero => intro i s _ h1 h2; omega
  | succ F ih =>
    intro i s hp h1 h2
    by_cases q : i < N
    · obtain ⟨r, e, hr⟩ := hs i s q hp
      rcases r with g | (e' | s')
      · exact ⟨.inl g, by rw [xl_g (by omega) e], hr⟩
      · exact ⟨.inr e', by rw [xl_e (by omega) e], hr⟩
      · obtain ⟨r, e2, hr2⟩ := ih (i + 1) s' hr (by omega) (by omega)
        refine ⟨r, ?_, hr2⟩
        rw [xl_s (by omega) e]
        exact e2
    · obtain rfl : i = N := by omega
      obtain ⟨r, e, hr⟩ := he s hp
      rcases r with g | (e' | s')
      · exact ⟨.inl g, by rw [xl_g (by omega) e], hr⟩
      · exact ⟨.inr e', by rw [xl_e (by omega) e], hr⟩
      · exact hr.elim
section LLO
variable {C : Nat → Nat → Int32} {Z : Nat} {t : GT} {s : GS} {b : GB} {n : GN} {f : GF} {v : GV} {p : GT} {r : GR} {h : GH} {σ : xM} {aC : Nat → ClassId}
/-- between two texts -/
def LpP (b : GB) (n : GN) (f : GF) (N : Nat) (σ : xM) (j : Nat) : Prop := ∃ C Z t s v p r h, LSt C Z t s b n f v p r h σ ∧ t.1 = 0 ∧ Z ≤ j ∧ s.1 = N ∧ h.1 ≤ 12
theorem ls_loop (hL : aC 104 ≤ 260) {N : Nat} (hN : N ≤ 10) (H : LpP b n f N σ 0) : QK (xloop (f_L_law_s373 aC) 11 (xkX, 0, 1, 4561, (Int32.ofNat (N)), 0, σ)) (fun o => ∃ σ', o = .inr (0, 1, (Int32.ofNat (N)), σ') ∧ LpP b n f N σ' 10) := by
  refine q_forf 11 10 (fun j x => ∃ σ', x = (xkX, 0, 1, 4561, (Int32.ofNat (N)), (Int32.ofNat (j)), σ') ∧ LpP b n f N σ' j) ?_ ?_ 0 _ ⟨σ, rfl, H⟩ (Nat.zero_le _) (by decide)
  · rintro j _ hj ⟨σ1, rfl, C1, Z1, t1, s1, v1, p1, r1, h1, H1, z1, hZ1, hs1, hh1⟩
    unfold f_L_law_s373
    rw [q_let, q_let, q_let, q_let, q_let, q_let, q_let]
    dsimp only
    rw [if_neg (show ¬ (10 : Int32) ≤ (Int32.ofNat (j)) from fun y => absurd ((i32_le (k := 10) (by omega) (by omega)).mp y) (by omega)), if_neg (show ¬ (1 : Int32) = 0 by decide), show (8 : Int32) + 20 * (Int32.ofNat (j)) = (Int32.ofNat (8 + 20 * j)) by
      rw [show (20 : Int32) * (Int32.ofNat (j)) = (Int32.ofNat (20 * j)) from n_mul 20 j]
      exact n_add 8 (20 * j)]
    refine q_bind (ls_fill hL H1 (by omega)) ?_
    rintro _ ⟨σ2, C2, nn, rfl, a1, a2, a3, H2⟩
    dsimp only
    have hc : ∃ c : Nat → Nat, ∀ k, k < nn → C2 4561 k = (Int32.ofNat (c k)) ∧ c k < 65536 := by
      refine ⟨fun k => if hk : k < nn then (a3 k hk).choose else 0, fun k hk => ?_⟩
      have := (a3 k hk).choose_spec
      dsimp only
      rw [dif_pos hk]
      exact ⟨this.2, this.1⟩
    obtain ⟨c, hc⟩ := hc
    refine q_bind (ls_types (A := 4561) (c := c) H2 z1 (Nat.le_refl _) (by omega) a2 hc) ?_
    rintro σ3 ⟨t3, b1, b2, H3⟩
    obtain ⟨σ4, e4, H4⟩ := ls_faultC H3 b1 b2
    rw [if_pos (ls_ok H3), e4, Option.bind_some]
    dsimp only
    have go : ∀ σ' , LpP b n f N σ' (j + 1) → QK (f_L_law_j481 aC σ' xkX 0 1 4561 (Int32.ofNat (N)) (Int32.ofNat (j))) (qS (fun x => ∃ σ', x = (xkX, 0, 1, 4561, (Int32.ofNat (N)), (Int32.ofNat (j + 1)), σ') ∧ LpP b n f N σ' (j + 1)) (fun o => ∃ σ', o = .inr (0, 1, (Int32.ofNat (N)), σ') ∧ LpP b n f N σ' 10)) := fun σ' hp => by
      unfold f_L_law_j481
      rw [q_let, show (Int32.ofNat (j)) + (1 : Int32) = (Int32.ofNat (j + 1)) from n_add j 1]
      exact q_go ⟨σ', rfl, hp⟩
    by_cases q : FLt b c nn = -1
    · rw [if_pos q]
      -- a text
      have hln : ∃ ln, acc (run b (visl (tyW c t3.1)) st0) = some ln := by
        rw [b1]
        unfold FLt at q
        cases er : run b (visl (tyW c nn)) st0 with
        | inl y =>
          exfalso
          rw [er] at q
          have bW : ∀ x, x ∈ tyW c nn → x.2 < nn ∧ (x.1.1 = 7 → x.2 ≤ x.1.2 ∧ x.1.2 ≤ nn) := fun x hx => by
            obtain ⟨E, e1, e2⟩ := lex_suf (c := c) (n := nn) nn 0 []
            have hx : x ∈ lexS c nn nn 0 [] := hx
            rw [e1, List.append_nil] at hx
            exact (e2 x hx).2
          have := (flt_in bW er).2
          exact i32_m1 (k := flt (pF (tyW c nn)) y.1 y.2) (by omega) q
        | inr st =>
          rw [er] at q
          have q : (if (acc (.inr st)).isSome = true then (-1 : Int32) else (Int32.ofNat (nn))) = -1 := q
          by_cases y : (acc (.inr st)).isSome = true
          · exact Option.isSome_iff_exists.mp y
          · rw [if_neg y] at q
            exact absurd q (i32_m1 (by omega))
      obtain ⟨ln, hln⟩ := hln
      obtain ⟨σ5, nd, sp, e5, H5, -⟩ := ls_read (c := c) H4 (fun k hk => b2 k (by omega)) (by omega) hln
      obtain ⟨σ6, e6, H6⟩ := ls_drop H5
      have hh5 := hShelf_1 (h := h1) (by omega)
      have hf1 := (ls_top H1).2.2.2.2.1
      have sh5 := Sh_push (Sh_0 h1) (by omega) hf1
      have hs5 : (sPush s1 ln.length nd sp).1 = N + 1 := by show s1.1 + 1 = _; omega
      rw [if_pos (ls_ok H4), e5, Option.bind_some, q_let]
      dsimp only
      rw [Sum.elim_inl, if_pos (show (Int32.ofNat (s1.1)) = (Int32.ofNat (N)) by rw [hs1]), if_pos (ls_ok H5), e6, Option.bind_some]
      dsimp only
      rw [if_pos (show (Int32.ofNat (((0, t3.2) : GT).1)) = (0 : Int32) from rfl)]
      refine q_bind (ls_sound H6 rfl (k := N) (by omega) (by omega) (by omega) (by omega)) ?_
      rintro _ ⟨C7, Z7, c1, c2, σ7, t7, s7, v7, p7, r7, h7, rfl, z7, H7, S7, hh7, sh7⟩
      dsimp only
      have hs7 : s7.1 = N + 1 := by rw [S7.1, hs5]
      have tr := ls_trees H7
      rw [hs7] at tr
      obtain ⟨σ8, e8, H8⟩ := ls_undo H7 (sh7 1 sh5)
      rw [if_pos (show xR2 [xkX, 0, 4561] = true by decide), if_neg (show ¬ (1 : Int32) = 0 by decide), if_pos (ls_ok H7), tr, Option.bind_some, if_pos (show (Int32.ofNat (N + 1)) = (Int32.ofNat (N)) + 1 from (n_add N 1).symm), if_pos (ls_ok H7), e8, Option.bind_some]
      dsimp only
      rw [if_pos rfl]
      unfold f_L_law_j480
      exact go σ8 ⟨C7, Z7, t7, _, v7, p7, r7, popH h7, H8, z7, by omega, by show s7.1 - 1 = N; omega, by show h7.1 - 1 ≤ 12; omega⟩
    · rw [if_neg q]
      refine q_bind (ls_faulty (c := c) H4 b1 a2 hc q) ?_
      rintro _ ⟨σ5, t5, rfl, z5, H5⟩
      exact go σ5 ⟨C2, Z1, t5, s1, v1, p1, r1, h1, H5, z5, by omega, hs1, hh1⟩
  · rintro _ ⟨σ1, rfl, hp⟩
    unfold f_L_law_s373
    rw [q_let, q_let, q_let, q_let, q_let, q_let, q_let]
    dsimp only
    rw [if_pos (by decide)]
    exact q_ex ⟨σ1, rfl, hp⟩
end LLO
