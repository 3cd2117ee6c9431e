/-! trees that are the same as far as they go are printed the same -/
section CGR
variable {b : GB} {n : Nat} {nd nd' : Nat → Nd} {sp sp' : Nat → Nat}
theorem kid_cg (h : WT n (aro nd) sp) (hsp : ∀ x, x < n → sp x = sp' x) {i : Nat} (hi : i < n) : ∀ k, k ≤ aro nd i → kid sp i k = kid sp' i k := by
  intro k
  induction k with
  | zero => intro _; rfl
  | succ k ih =>
    intro hk
    show kid sp i k + sp (kid sp i k) = kid sp' i k + sp' (kid sp' i k)
    rw [← ih (by omega), hsp _ (kid_sp h hi (show k < aro nd i by omega)).1]
/-- arities say how large parts are -/
theorem sp_uniq (h : WT n (aro nd) sp) (h' : WT n (aro nd') sp') (hnd : ∀ x, x < n → nd x = nd' x) : ∀ x, x < n → sp x = sp' x := by
  have key : ∀ d x, x < n → n - d ≤ x → sp x = sp' x := by
    intro d
    induction d with
    | zero => intro x hx h1; omega
    | succ d ih =>
      intro x hx h1
      have ar : aro nd x = aro nd' x := by
        show (nd x).2.2.2 = (nd' x).2.2.2
        rw [hnd x hx]
      have kd : ∀ k, k ≤ aro nd x → kid sp x k = kid sp' x k := by
        intro k
        induction k with
        | zero => intro _; rfl
        | succ k ihk =>
          intro hk
          have e := ihk (by omega)
          obtain ⟨a1, a2, a3⟩ := kid_in h hx (show k < aro nd x by omega)
          show kid sp x k + sp (kid sp x k) = kid sp' x k + sp' (kid sp' x k)
          rw [← e, ih _ a2 (by omega)]
      have e1 := (h.2.2.2 x hx).2.2.1
      have e2 := (h'.2.2.2 x hx).2.2.1
      rw [kd _ (Nat.le_refl _), ar, e2] at e1
      omega
  intro x hx
  exact key n x hx (by omega)
theorem pl_cg (hsp : ∀ x, x < n → sp x = sp' x) {x : Nat} (hx : x < n) : pl sp x = pl sp' x := by
  have key : ∀ m, m ≤ n → cnt sp x m = cnt sp' x m := by
    intro m
    induction m with
    | zero => intro _; rfl
    | succ m ih =>
      intro hm
      show cnt sp x m + (if m + sp m ≤ x then 1 else 0) = cnt sp' x m + (if m + sp' m ≤ x then 1 else 0)
      rw [ih (by omega), hsp m (by omega)]
  unfold pl
  rw [key x (by omega), hsp x hx]
theorem spl_cg (h : WT n (aro nd) sp) (hnd : ∀ x, x < n → nd x = nd' x) (hsp : ∀ x, x < n → sp x = sp' x) : ∀ f i, i < n → ∀ S, spl nd sp f i S = spl nd' sp' f i S := by
  intro f
  induction f with
  | zero => intro i _ S; rfl
  | succ f ih =>
    intro i hi S
    have ar : aro nd' i = aro nd i := by
      show (nd' i).2.2.2 = (nd i).2.2.2
      rw [hnd i hi]
    have args : ∀ k, k ≤ aro nd i → ∀ S, spA (spl nd sp f) nd sp i k S = spA (spl nd' sp' f) nd' sp' i k S := by
      intro k
      induction k with
      | zero => intro _ S; rfl
      | succ k ihk =>
        intro hk S
        have a1 := (kid_sp h hi (show k < aro nd i by omega)).1
        rw [spA_c, spA_c, ← kid_cg h hsp hi k (by omega), ← hnd i hi, ← hnd _ a1, ← ihk (by omega)]
        unfold spO
        rw [ih _ a1, ih _ a1]
    rw [spl_c, spl_c, ar, ← hnd i hi, args _ (Nat.le_refl _)]
theorem GoodW_cg (hnd : ∀ x, x < n → nd x = nd' x) (hsp : ∀ x, x < n → sp x = sp' x) {W : Nat → Wd} {m : Nat} : GoodW b W m n nd sp = GoodW b W m n nd' sp' := by
  funext g
  apply propext
  constructor
  · rintro ⟨ln, e1, e2, e3⟩
    exact ⟨ln, e1, e2, fun x hx => by rw [← hnd x hx, ← pl_cg hsp hx]; exact e3 x hx⟩
  · rintro ⟨ln, e1, e2, e3⟩
    exact ⟨ln, e1, e2, fun x hx => by rw [hnd x hx, pl_cg hsp hx]; exact e3 x hx⟩
theorem prtT_cg (h : WT n (aro nd) sp) (hnd : ∀ x, x < n → nd x = nd' x) (hsp : ∀ x, x < n → sp x = sp' x) : prtT b n nd sp = prtT b n nd' sp' := by
  unfold prtT hidT
  rw [spl_cg h hnd hsp 200 0 h.1 S0, GoodW_cg hnd hsp]
end CGR
section LPR
variable {C : Nat → Nat → Int32} {Z : Nat} {t : GT} {s : GS} {b : GB} {n : GN} {f : GF} {v : GV} {p : GT} {r : GR} {h : GH} {σ : xM} {k : Nat}
theorem ls_RA (H : LSt C Z t s b n f v p r h σ) : ∃ R, RA R := by
  obtain ⟨I, J, R, q, rfl, hZ, hR, -⟩ := H
  exact ⟨R, hR⟩
theorem ls_printed (H : LSt C Z t s b n f v p r h σ) (h0 : t.1 = 0) (hk : k < s.1) (hZ : Z < 10) (hs : s.1 ≤ 20) (hh : h.1 ≤ 16) : QK (f_L_printed σ 0 (Int32.ofNat (k))) (fun y => ∃ C' Z', C' 4561 = C 4561 ∧ Z' ≤ Z + 1 ∧ SPost C' Z' 0 s b n f h y) := by
  obtain ⟨hE, -, -, -, hf20, -, hT, -⟩ := ls_top H
  obtain ⟨⟨w1, w2⟩, T80⟩ := hT k hk
  have w1 : WT (s.2.1 k) (aro (s.2.2.1 k)) (s.2.2.2 k) := w1
  have w2 : ∀ i, i < s.2.1 k → NV b (s.2.2.1 k i) := w2
  have T80 : s.2.1 k ≤ 80 := T80
  obtain ⟨R, hR⟩ := ls_RA H
  obtain ⟨σ1, e1, H1⟩ := ls_print H hk
  have tl := tx_len w1 T80 w2
  obtain ⟨-, -, f3, f4, ⟨ln, g1, g2, g3⟩, -⟩ := prt_facts hE.1 w1 T80 w2 rfl rfl rfl
  generalize hl : prtT b (s.2.1 k) (s.2.2.1 k) (s.2.2.2 k) = l at *
  unfold f_L_printed
  rw [if_pos (ls_ok H), e1, Option.bind_some, q_let]
  dsimp only
  rw [Sum.elim_inl]
  by_cases z : l.length ≤ 60
  rotate_left
  · rw [if_neg (show ¬ (Int32.ofNat (l.length)) ≤ (60 : Int32) from fun y => z ((i32_le (m := 60) (by omega) (by omega)).mp y))]
    exact q_ok ⟨C, Z, rfl, by omega, σ1, t, s, _, _, _, h, rfl, h0, H1, Sam_r s, rfl, fun m y => y⟩
  rw [if_pos (show (Int32.ofNat (l.length)) ≤ (60 : Int32) from (i32_le (m := 60) (by omega) (by omega)).mpr z)]
  obtain ⟨a1, σ2, e2, H2⟩ := ls_nwP H1 hZ
  rw [e2, Option.bind_some, q_let, a1]
  refine q_bind (P := fun o => ∃ σ' C', o = .inr (0, (Int32.ofNat (k)), (Int32.ofNat (l.length)), 4562 + Z, σ') ∧ (∀ x, x < l.length → C' (4562 + Z) x = (Int32.ofNat (tF l x))) ∧ C' 4561 = C 4561 ∧ LSt C' (Z + 1) t s b n f v (txP l) r h σ') ?_ ?_
  · refine q_for l.length (fun j x => ∃ σ' C', x = (0, (Int32.ofNat (k)), (Int32.ofNat (l.length)), 4562 + Z, (Int32.ofNat (j)), σ') ∧ (∀ x, x < j → C' (4562 + Z) x = (Int32.ofNat (tF l x))) ∧ C' 4561 = C 4561 ∧ LSt C' (Z + 1) t s b n f v (txP l) r h σ') ?_ ?_ (i := 0) ⟨σ2, _, rfl, fun x hx => absurd hx (Nat.not_lt_zero x), ?_, H2⟩ (Nat.zero_le _) (by unfold xF; omega)
    · rintro j _ hj ⟨σ3, C3, rfl, c1, c2, H3⟩
      obtain ⟨σ4, e4, H4⟩ := ls_wI (a := 4562 + Z) (k := j) (w := (txP l).2 j) H3 (by omega) (by omega) (by omega)
      unfold f_L_printed_s22
      rw [q_let, q_let, q_let, q_let, q_let, q_let]
      dsimp only
      rw [if_neg (show ¬ (Int32.ofNat (l.length)) ≤ (Int32.ofNat (j)) from fun y => absurd ((i32_le (by omega) (by omega)).mp y) (by omega)), if_pos (ls_ok H3), ls_out H3 hj, Option.bind_some, Sum.elim_inl, e4, Option.bind_some, q_let, show (Int32.ofNat (j)) + (1 : Int32) = (Int32.ofNat (j + 1)) from n_add j 1]
      refine q_go ⟨σ4, _, rfl, fun x hx => ?_, ?_, H4⟩
      · unfold va_up
        rw [if_pos rfl]
        by_cases y : x = j
        · rw [if_pos y, y]
          rfl
        · rw [if_neg y]
          exact c1 x (by omega)
      · rw [← c2]
        unfold va_up
        rw [if_neg (by omega)]
    · rintro _ ⟨σ3, C3, rfl, c1, c2, H3⟩
      unfold f_L_printed_s22
      rw [q_let, q_let, q_let, q_let, q_let, q_let]
      dsimp only
      rw [if_pos ((i32_le (by omega) (by omega)).mpr (Nat.le_refl _))]
      exact q_ex ⟨σ3, C3, rfl, c1, c2, H3⟩
    · unfold va_up
      rw [if_neg (by omega)]
  rintro _ ⟨σ3, C3, rfl, c1, c2, H3⟩
  rw [Sum.elim_inr]
  unfold f_L_printed_j44
  dsimp only
  refine q_bind (ls_types (A := 4562 + Z) (c := tF l) H3 h0 (by omega) (by omega) z (fun x hx => ⟨c1 x hx, f4 x hx⟩)) ?_
  rintro σ4 ⟨t4, d1, d2, H4⟩
  rw [if_pos (ls_ok H4)]
  have hln : acc (run b (visl (tyW (tF l) t4.1)) st0) = some ln := by
    rw [d1]
    show acc (run b (visl (lexS (tF l) l.length l.length 0 [])) st0) = _
    rw [f3]
    exact g1
  obtain ⟨σ5, nd', sp', e5, H5, v1, v2, v3⟩ := ls_read (c := tF l) H4 (fun x hx => d2 x (by omega)) (by omega) hln
  rw [← g2] at H5 v1 v2
  have un : ∀ x, x < s.2.1 k → s.2.2.1 k x = nd' x := line_uniq (J := fun _ _ => 0) hR (ln := lnF ln) T80 w1 v1 (fun x hx => by
    rcases w2 x hx with y | y | y | ⟨-, p, fx, -, -, -, -, y, -⟩
    · show (s.2.2.1 k x).2.2.2 ≤ 4; rw [y.2.2.2]; decide
    · show (s.2.2.1 k x).2.2.2 ≤ 4; rw [y.2.2.2]; decide
    · exact y.2.2.2.2
    · show (s.2.2.1 k x).2.2.2 ≤ 4
      rw [y]
      split <;> decide) (fun x hx => (g3 x hx).symm) v2
  have us := sp_uniq w1 v1 un
  have ep := prtT_cg (b := b) w1 un us
  rw [hl] at ep
  obtain ⟨u1, u2, u3⟩ := sh_push (s := s) (m := s.2.1 k) (nd := nd') (sp := sp')
  have q1 : (sPush s (s.2.1 k) nd' sp').2.1 k = s.2.1 k := upN_n (by omega)
  have q2 : (sPush s (s.2.1 k) nd' sp').2.2.1 k = s.2.2.1 k := upN_n (by omega)
  have q3 : (sPush s (s.2.1 k) nd' sp').2.1 s.1 = s.2.1 k := upN_s
  have q4 : (sPush s (s.2.1 k) nd' sp').2.2.1 s.1 = nd' := upN_s
  have q5 : (sPush s (s.2.1 k) nd' sp').2.2.2 s.1 = sp' := upN_s
  have es := ls_isSame H5 (k := k) (j := s.1) (by omega) (by omega) ⟨by rw [q1, q3], fun i hi => by rw [q2, q4]; exact un i (by rw [q1] at hi; exact hi)⟩
  obtain ⟨σ6, e6, H6⟩ := ls_print H5 (k := s.1) (by omega)
  rw [q3, q4, q5, ← ep] at e6 H6
  have hh1 := hShelf_1 (h := h) (by omega)
  have shs : ∀ m, Sh h m → Sh (hShelf h) (m + 1) := fun m y => Sh_push y (by omega) hf20
  obtain ⟨σ7, e7, H7⟩ := ls_undo H6 (shs 0 (Sh_0 h))
  rw [e5, Option.bind_some, q_let]
  dsimp only
  rw [Sum.elim_inl, if_pos (ls_ok H5), es, Option.bind_some, Sum.elim_inl, if_neg (by decide), if_pos (ls_ok H5), e6, Option.bind_some, q_let]
  dsimp only
  rw [Sum.elim_inl, if_pos rfl, if_pos (ls_ok H6), e7, Option.bind_some]
  dsimp only
  rw [if_pos rfl]
  unfold f_L_printed_j89
  rw [q_xz1]
  exact q_ok ⟨C3, Z + 1, c2, Nat.le_refl _, σ7, _, _, _, _, _, _, rfl, rfl, H7, popS (s := s) rfl rfl, by show (hShelf h).1 - 1 = _; omega, fun m y => (Sh_pop (shs m y)).1⟩
end LPR
