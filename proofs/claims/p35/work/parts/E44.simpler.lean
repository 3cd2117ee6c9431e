/-! the law: steps make it simpler -/
theorem st_same2 {b : GB} {n : GN} {f : GF} {s s' : GS} {T : Tt} (hE : EnvOK b n f s) (hE' : EnvOK b n f s') (hf : ∀ l, prmN f l = 0) (hT : TtO b T) (h80 : T.1 ≤ 80) {m : Nat} {v w : GV} {c c' : Nat} (e : evT b n f s T.2.1 T.2.2 = .inr (v, c)) (e' : evT b n f s' (stN b m T).2.2.1 (stN b m T).2.2.2 = .inr (w, c')) : v = w := by
  obtain ⟨o1, o2, -⟩ := stN_O hE.1 m T hT h80
  obtain ⟨e1, g1⟩ := evT_VV hE hf hT h80 e
  obtain ⟨e2, g2⟩ := evT_VV hE' hf o1 (by omega) e'
  have := stN_val hE.1 m T hT h80 (rhN n) (tR v) e1
  rw [this] at e2
  exact tR_inj g1 g2 (Option.some.inj e2)
theorem stN_done {b : GB} (hO : TbOK b) : ∀ m T, TtO b T → T.1 ≤ 80 → T.1 ≤ m → stw b (stN b m T).2 = none ∧ stN b (m + 1) T = stN b m T := by
  intro m
  induction m with
  | zero =>
    intro T hT _ h
    have := hT.1.1
    omega
  | succ m ih =>
    intro T hT h80 h
    cases e : stw b T with
    | none => rw [stN_none e, stN_none e]; exact ⟨e, rfl⟩
    | some w =>
      obtain ⟨k, i, T'⟩ := w
      obtain ⟨g1, g2, -⟩ := stw_O hT hO h80 e
      obtain ⟨i1, i2⟩ := ih T' g1 (by omega) (by omega)
      rw [stN_some e, stN_some e]
      exact ⟨i1, by rw [i2]⟩
theorem evE_0 {X : Rs} (hX : ∀ e, X = .inl e → 1 ≤ e ∧ e ≤ 10) : (evE X = 0 ∧ ∃ w c, X = .inr (w, c)) ∨ (evE X ≠ 0 ∧ ∃ e, X = .inl e) := by
  cases X with
  | inl e =>
    have := hX e rfl
    exact Or.inr ⟨i32_ne (b := 0) (by omega) (by omega) (by omega), e, rfl⟩
  | inr w => exact Or.inl ⟨rfl, w.1, w.2, rfl⟩
section LSP
variable {C : Nat → Nat → Int32} {Z : Nat} {t : GT} {s : GS} {b : GB} {n : GN} {f : GF} {v : GV} {p : GT} {r : GR} {h : GH} {σ : xM} {k : Nat}
theorem ls_same {j : Nat} (H : LSt C Z t s b n f v p r h σ) (hk : k < s.1) (hj : j < s.1) (e : shT s k = shT s j) : f_X11_isSame σ 0 (Int32.ofNat (k)) (Int32.ofNat (j)) = some (.inl 1) := by
  have e1 : s.2.1 k = s.2.1 j := (Prod.mk.inj e).1
  have e2 : s.2.2.1 k = s.2.2.1 j := (Prod.mk.inj (Prod.mk.inj e).2).1
  exact ls_isSame H hk hj ⟨e1, fun i _ => by rw [e2]⟩
/-- the first node's size is the number of nodes -/
theorem ls_n5 (H : LSt C Z t s b n f v p r h σ) (hk : k < s.1) : f_X11_node σ 0 (Int32.ofNat (k)) 0 5 = some (.inl (Int32.ofNat ((shT s k).1))) := by
  obtain ⟨n0, n80, sp0⟩ := ls_n H hk
  have e5 := (ls_node H hk n0).2.2.2.1
  rw [sp0] at e5
  exact e5
theorem popS {s : GS} {m : Nat} {nd : Nat → Nd} {sp : Nat → Nat} {s2 : GS} (h1 : s2.1 = s.1) (h2 : s2.2 = (sPush s m nd sp).2) : Sam s s2 := ⟨h1, fun k hk => by
  have := (sh_push (s := s) (m := m) (nd := nd) (sp := sp)).2.2 k hk
  show (s2.2.1 k, s2.2.2.1 k, s2.2.2.2 k) = _
  rw [h2]
  exact this⟩
def SPost (C : Nat → Nat → Int32) (Z τ : Nat) (s : GS) (b : GB) (n : GN) (f : GF) (h : GH) (y : Int32 × xM) : Prop := ∃ σ' t' s' v' p' r' h', y = (1, σ') ∧ t'.1 = τ ∧ LSt C Z t' s' b n f v' p' r' h' σ' ∧ Sam s s' ∧ h'.1 = h.1 ∧ ∀ m, Sh h m → Sh h' m
theorem ls_simpler (H : LSt C Z t s b n f v p r h σ) (hk : k < s.1) (hs : s.1 ≤ 20) (hh : h.1 ≤ 16) : QK (f_L_simpler σ 0 (Int32.ofNat (k))) (SPost C Z t.1 s b n f h) := by
  obtain ⟨hE, -, -, -, hf20, -, hT, -, hpr⟩ := ls_top H
  obtain ⟨T0, T80⟩ := hT k hk
  have X0 := (evV_Gd H hk).2
  unfold f_L_simpler
  obtain ⟨σ1, e1, H1⟩ := ls_evaluate H hk
  rw [if_pos (ls_ok H), e1, Option.bind_some, q_let]
  dsimp only
  rw [Sum.elim_inl]
  refine q_bind (ls_sum H1) ?_
  rintro _ ⟨σ2, p2, rfl, H2⟩
  dsimp only
  rw [if_pos (ls_ok H2)]
  cases e : stw b (shT s k) with
  | none =>
    rcases ls_simplify H2 hk (by omega) with ⟨z, σ3, e3, H3⟩ | ⟨z, -⟩
    rotate_left
    · rw [stN_none e] at z
      exact absurd rfl z
    rw [stN_none e] at H3
    have t0 : f_X11_trace σ3 0 0 0 = some (.inl (-1)) := (ls_trace H3 (k := 0) (w := 0) (by decide) (by decide)).trans (by rw [if_neg (show ¬ 0 < (trG []).1 by decide)])
    rw [e3, Option.bind_some, q_let]
    dsimp only
    rw [Sum.elim_inl, if_pos rfl, if_pos (ls_ok H3), t0, Option.bind_some, Sum.elim_inl, if_pos rfl, if_pos (ls_ok H3)]
    rcases ls_step H3 hk (by omega) with ⟨z, σ4, e4, H4⟩ | ⟨z, -⟩
    rotate_left
    · rw [stN_none e] at z
      exact absurd rfl z
    rw [e4, Option.bind_some, q_let]
    dsimp only
    rw [Sum.elim_inl, if_pos rfl]
    unfold f_L_simpler_j48
    rw [q_xz1]
    exact q_ok ⟨σ4, _, s, _, _, _, h, rfl, rfl, H4, Sam_r s, rfl, fun m y => y⟩
  | some w =>
    obtain ⟨κ, i, T'⟩ := w
    obtain ⟨g1, g2, g3, g4, g5⟩ := stw_O T0 hE.1 T80 e
    obtain ⟨n1, n2⟩ := stN_done hE.1 79 T' g1 (by omega) (by omega)
    have eN : stN b 80 (shT s k) = ((κ, i) :: (stN b 79 T').1, (stN b 79 T').2) := stN_some e
    obtain ⟨o1, o2, o3⟩ := stN_O hE.1 79 T' g1 (by omega)
    rcases ls_simplify H2 hk (by omega) with ⟨z, -⟩ | ⟨-, σ3, e3, H3⟩
    · rw [eN] at z
      cases z
    have sm := fun {v w : GV} {c c' : Nat} {s' : GS} (hE' : EnvOK b n f s') (q1 : evT b n f s (shT s k).2.1 (shT s k).2.2 = .inr (v, c)) (q2 : evT b n f s' (stN b 80 (shT s k)).2.2.1 (stN b 80 (shT s k)).2.2.2 = .inr (w, c')) => st_same2 hE hE' hpr T0 T80 q1 q2
    rw [eN] at H3 sm
    dsimp only at H3 sm
    generalize hU : (stN b 79 T').2 = U at *
    generalize hl : (stN b 79 T').1 = lU at *
    obtain ⟨u1, u2, u3⟩ := sh_push (s := s) (m := U.1) (nd := U.2.1) (sp := U.2.2)
    have hS3 : (sPush s U.1 U.2.1 U.2.2).1 = s.1 + 1 := rfl
    have kU : s.1 < (sPush s U.1 U.2.1 U.2.2).1 := by omega
    have kk : k < (sPush s U.1 U.2.1 U.2.2).1 := by omega
    have t0 : f_X11_trace σ3 0 0 0 = some (.inl (Int32.ofNat (κ))) := (ls_trace H3 (k := 0) (w := 0) (by decide) (by decide)).trans (by rw [if_pos (show 0 < (trG ((κ, i) :: lU)).1 from Nat.succ_pos _), if_pos rfl]; rfl)
    have t1 : f_X11_trace σ3 0 0 1 = some (.inl (Int32.ofNat (i))) := (ls_trace H3 (k := 0) (w := 1) (by decide) (by decide)).trans (by rw [if_pos (show 0 < (trG ((κ, i) :: lU)).1 from Nat.succ_pos _), if_neg (by decide)]; rfl)
    have d1 := ls_n5 H3 kk
    have d2 := ls_n5 H3 kU
    rw [u3 k hk] at d1
    rw [u2] at d2
    rw [e3, Option.bind_some, q_let]
    dsimp only
    rw [Sum.elim_inl, if_neg (show ¬ (Int32.ofNat (s.1)) = (Int32.ofNat (k)) from i32_ne (by omega) (by omega) (by omega)), if_pos (ls_ok H3), t0, Option.bind_some, Sum.elim_inl, if_pos (ls_ok H3), t1, Option.bind_some, Sum.elim_inl]
    rw [if_neg (show ¬ (Int32.ofNat (κ)) < (1 : Int32) from fun y => absurd ((i32_lt (m := 1) (by omega) (by omega)).mp y) (by omega)), if_neg (show ¬ (7 : Int32) < (Int32.ofNat (κ)) from fun y => absurd ((i32_lt (k := 7) (by omega) (by omega)).mp y) (by omega)), if_neg (i32_nlt0 (by omega)), if_pos (ls_ok H3), d1, Option.bind_some, Sum.elim_inl, if_neg (fun y => absurd ((i32_le (by omega) (by omega)).mp y) (by omega)), if_pos (ls_ok H3), d2, Option.bind_some, Sum.elim_inl, if_pos (ls_ok H3), Option.bind_some, Sum.elim_inl, if_neg (fun y => absurd ((i32_le (by omega) (by omega)).mp y) (by omega))]
    unfold f_L_simpler_j118
    obtain ⟨σ4, e4, H4⟩ := ls_evaluate H3 kU
    have Y0 := (evV_Gd H3 kU).2
    have eu1 : (sPush s U.1 U.2.1 U.2.2).2.2.1 s.1 = U.2.1 := upN_s
    have eu2 : (sPush s U.1 U.2.1 U.2.2).2.2.2 s.1 = U.2.2 := upN_s
    rw [eu1, eu2] at e4 H4 Y0
    rw [if_pos (ls_ok H3), e4, Option.bind_some, q_let]
    dsimp only
    rw [Sum.elim_inl]
    have hE3 := (ls_top H3).1
    -- what comes behind the values
    have rest : ∀ (σ' : xM) (v' : GV) (p' : GT), LSt C Z t (sPush s U.1 U.2.1 U.2.2) b n f v' p' (trG ((κ, i) :: lU)) (hShelf h) σ' → QK (f_L_simpler_j158 σ' 0 (Int32.ofNat (k)) (Int32.ofNat (s.1)) (Int32.ofNat (κ)) (Int32.ofNat (i))) (SPost C Z t.1 s b n f h) := by
      intro σ5 v5 p5 H5
      have hh1 := hShelf_1 (h := h) (by omega)
      have hf1 := (ls_top H5).2.2.2.2.1
      unfold f_L_simpler_j158 f_L_simpler_j163
      have eT1 : stN b 1 (shT (sPush s U.1 U.2.1 U.2.2) k) = ([(κ, i)], T') := by
        rw [u3 k hk, stN_some e]
        rfl
      rw [if_pos (ls_ok H5)]
      rcases ls_step H5 kk (by omega) with ⟨z, -⟩ | ⟨-, σ6, e6, H6⟩
      · rw [eT1] at z
        cases z
      rw [eT1] at H6
      dsimp only at H6
      obtain ⟨w1, w2, w3⟩ := sh_push (s := sPush s U.1 U.2.1 U.2.2) (m := T'.1) (nd := T'.2.1) (sp := T'.2.2)
      have hS6 : (sPush (sPush s U.1 U.2.1 U.2.2) T'.1 T'.2.1 T'.2.2).1 = s.1 + 2 := rfl
      have t0 : f_X11_trace σ6 0 0 0 = some (.inl (Int32.ofNat (κ))) := (ls_trace H6 (k := 0) (w := 0) (by decide) (by decide)).trans (by rw [if_pos (show 0 < (trG [(κ, i)]).1 from Nat.succ_pos _), if_pos rfl]; rfl)
      have t1 : f_X11_trace σ6 0 0 1 = some (.inl (Int32.ofNat (i))) := (ls_trace H6 (k := 0) (w := 1) (by decide) (by decide)).trans (by rw [if_pos (show 0 < (trG [(κ, i)]).1 from Nat.succ_pos _), if_neg (by decide)]; rfl)
      have t2 : f_X11_trace σ6 0 1 0 = some (.inl (-1)) := (ls_trace H6 (k := 1) (w := 0) (by decide) (by decide)).trans (by rw [if_neg (show ¬ 1 < (trG [(κ, i)]).1 from Nat.lt_irrefl 1)])
      rw [e6, Option.bind_some, q_let]
      dsimp only
      rw [Sum.elim_inl, if_neg (by decide), if_pos (ls_ok H6), t0, Option.bind_some, Sum.elim_inl, if_pos rfl, if_pos (ls_ok H6), t1, Option.bind_some, Sum.elim_inl, if_pos rfl, if_pos (ls_ok H6), t2, Option.bind_some, Sum.elim_inl, if_pos rfl, if_pos (ls_ok H6)]
      -- the simplified one stays
      have eU : shT (sPush (sPush s U.1 U.2.1 U.2.2) T'.1 T'.2.1 T'.2.2) s.1 = U := (w3 s.1 (by omega)).trans u2
      rcases ls_simplify H6 (k := s.1) (by omega) (by omega) with ⟨-, σ7, e7, H7⟩ | ⟨z, -⟩
      rotate_left
      · rw [eU, stN_none n1] at z
        exact absurd rfl z
      rw [eU, stN_none n1] at H7
      rw [e7, Option.bind_some, q_let]
      dsimp only
      rw [Sum.elim_inl, if_pos rfl]
      unfold f_L_simpler_j225
      rw [if_pos (ls_ok H7)]
      have eF : shT (sPush (sPush s U.1 U.2.1 U.2.2) T'.1 T'.2.1 T'.2.2) (s.1 + 1) = T' := w2
      have eM : stN b 80 T' = (lU, U) := by
        rw [n2]
        exact Prod.ext hl hU
      have hh2 := hShelf_1 (h := hShelf h) (by omega)
      have hf2 := (ls_top H7).2.2.2.2.1
      -- the end: two go back
      have two : ∀ (σ' : xM) (v' : GV) (p' : GT) (r' : GR) (s' : GS) (h' : GH), LSt C Z t s' b n f v' p' r' h' σ' → s'.1 = s.1 + 2 → s'.2 = (sPush (sPush s U.1 U.2.1 U.2.2) T'.1 T'.2.1 T'.2.2).2 ∨ (∃ m nd sp, s'.2 = (sPush (sPush (sPush s U.1 U.2.1 U.2.2) T'.1 T'.2.1 T'.2.2) m nd sp).2) → h'.1 = h.1 + 2 → (∀ m, Sh h m → Sh h' (m + 2)) → QK (f_L_simpler_j265 σ' 0) (SPost C Z t.1 s b n f h) := by
        intro σ8 v8 p8 r8 s8 h8 H8 a1 a2 a3 a4
        unfold f_L_simpler_j265 f_L_simpler_j270
        have b0 := a4 0 (Sh_0 h)
        obtain ⟨σ9, e9, H9⟩ := ls_undo H8 b0
        have b1 := (Sh_pop b0).1
        obtain ⟨σ10, e10, H10⟩ := ls_undo H9 b1
        rw [if_neg (by decide), if_pos (ls_ok H8), e9, Option.bind_some]
        dsimp only
        rw [if_pos rfl, if_pos (ls_ok H9), e10, Option.bind_some]
        dsimp only
        rw [if_pos rfl]
        unfold f_L_simpler_j296
        rw [q_xz1]
        refine q_ok ⟨σ10, _, _, _, _, _, _, rfl, rfl, H10, ⟨by show s8.1 - 1 - 1 = s.1; omega, fun j hj => ?_⟩, by show h8.1 - 1 - 1 = h.1; omega, fun m y => (Sh_pop (Sh_pop (a4 m y)).1).1⟩
        show (s8.2.1 j, s8.2.2.1 j, s8.2.2.2 j) = shT s j
        rcases a2 with a2 | ⟨m, nd, sp, a2⟩
        · rw [a2]
          exact (w3 j (by omega)).trans (u3 j hj)
        · rw [a2]
          exact ((sh_push (s := sPush (sPush s U.1 U.2.1 U.2.2) T'.1 T'.2.1 T'.2.2) (m := m) (nd := nd) (sp := sp)).2.2 j (by omega)).trans ((w3 j (by omega)).trans (u3 j hj))
      have shs : ∀ m, Sh h m → Sh (hShelf (hShelf h)) (m + 2) := fun m y => Sh_push (Sh_push y (by omega) hf20) (by omega) hf1
      rcases ls_simplify H7 (k := s.1 + 1) (by omega) (by omega) with ⟨z, σ8, e8, H8⟩ | ⟨z, σ8, e8, H8⟩
      · rw [eF, eM] at z H8
        -- no step left: the first is the last
        have eTU : T' = U := by
          cases e2 : stw b T' with
          | none =>
            rw [stN_none e2] at hU
            exact hU
          | some w =>
            obtain ⟨κ2, i2, T2⟩ := w
            have : stN b 80 T' = _ := stN_some e2
            rw [eM] at this
            have hz : lU.length = 0 := z
            rw [(Prod.mk.inj this).1] at hz
            cases hz
        have es := ls_same H8 (k := s.1 + 1) (j := s.1) (by omega) (by omega) (by rw [eF, eU, eTU])
        have e8 : f_X11_simplify σ7 0 (Int32.ofNat ((sPush s U.1 U.2.1 U.2.2).1)) = some (.inl (Int32.ofNat (s.1 + 1)), σ8) := e8
        rw [e8, Option.bind_some, q_let]
        dsimp only
        rw [Sum.elim_inl, if_neg (by decide), if_pos (ls_ok H8), es, Option.bind_some, Sum.elim_inl, if_neg (by decide), if_pos (show (Int32.ofNat (s.1 + 1)) = (Int32.ofNat ((sPush s U.1 U.2.1 U.2.2).1)) from rfl)]
        exact two σ8 _ _ _ _ _ H8 hS6 (Or.inl rfl) (by omega) shs
      · rw [eF, eM] at z H8
        dsimp only at H8
        obtain ⟨x1, x2, x3⟩ := sh_push (s := sPush (sPush s U.1 U.2.1 U.2.2) T'.1 T'.2.1 T'.2.2) (m := U.1) (nd := U.2.1) (sp := U.2.2)
        have hS8 : (sPush (sPush (sPush s U.1 U.2.1 U.2.2) T'.1 T'.2.1 T'.2.2) U.1 U.2.1 U.2.2).1 = s.1 + 3 := rfl
        have hh3 := hShelf_1 (h := hShelf (hShelf h)) (by omega)
        have shs3 : ∀ m, Sh h m → Sh (hShelf (hShelf (hShelf h))) (m + 3) := fun m y => Sh_push (shs m y) (by omega) hf2
        have es := ls_same H8 (k := s.1 + 2) (j := s.1) (by omega) (by omega) ((show shT (sPush (sPush (sPush s U.1 U.2.1 U.2.2) T'.1 T'.2.1 T'.2.2) U.1 U.2.1 U.2.2) (s.1 + 2) = U from x2).trans ((x3 s.1 (by omega)).trans eU).symm)
        have e8 : f_X11_simplify σ7 0 (Int32.ofNat ((sPush s U.1 U.2.1 U.2.2).1)) = some (.inl (Int32.ofNat (s.1 + 2)), σ8) := e8
        rw [e8, Option.bind_some, q_let]
        dsimp only
        rw [Sum.elim_inl, if_neg (by decide), if_pos (ls_ok H8), es, Option.bind_some, Sum.elim_inl, if_neg (by decide), if_neg (show ¬ (Int32.ofNat (s.1 + 2)) = (Int32.ofNat ((sPush s U.1 U.2.1 U.2.2).1)) from i32_ne (by omega) (by omega) (by omega)), if_pos (ls_ok H8)]
        obtain ⟨σ9, e9, H9⟩ := ls_undo H8 (shs3 0 (Sh_0 h))
        rw [e9, Option.bind_some]
        dsimp only
        rw [if_pos rfl]
        exact two σ9 _ _ _ _ _ H9 (by show s.1 + 3 - 1 = _; omega) (Or.inr ⟨_, _, _, rfl⟩) (by show (hShelf (hShelf (hShelf h))).1 - 1 = _; omega) (fun m y => (Sh_pop (shs3 m y)).1)
    by_cases q1 : evE (evT b n f (sPush s U.1 U.2.1 U.2.2) U.2.1 U.2.2) = 0
    · rw [if_pos q1]
      unfold f_L_simpler_j134
      rw [if_neg (by decide)]
      by_cases q2 : evE (evT b n f s (s.2.2.1 k) (s.2.2.2 k)) = 0
      · rw [if_pos q2, if_neg (by decide)]
        refine q_bind (ls_sum H4) ?_
        rintro _ ⟨σ5, p5, rfl, H5⟩
        dsimp only
        obtain ⟨-, w1, c1, x1⟩ := (evE_0 Y0).resolve_right (fun y => y.1 q1)
        obtain ⟨-, w2, c2, x2⟩ := (evE_0 X0).resolve_right (fun y => y.1 q2)
        have ew := sm hE3 x2 x1
        have ev : sumP (evV (evT b n f (sPush s U.1 U.2.1 U.2.2) U.2.1 U.2.2) (evV (evT b n f s (s.2.2.1 k) (s.2.2.2 k)) v)) 2 = sumP (evV (evT b n f s (s.2.2.1 k) (s.2.2.2 k)) v) 2 := by
          rw [x1, x2, ← ew]
          rfl
        rw [if_pos ev]
        exact rest σ5 _ _ H5
      · rw [if_neg q2]
        exact rest σ4 _ _ H4
    · rw [if_neg q1]
      unfold f_L_simpler_j134
      rw [if_neg (by decide)]
      by_cases q2 : evE (evT b n f s (s.2.2.1 k) (s.2.2.2 k)) = 0
      · rw [if_pos q2, if_pos rfl]
        exact rest σ4 _ _ H4
      · rw [if_neg q2]
        exact rest σ4 _ _ H4
end LSP
