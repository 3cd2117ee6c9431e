/-! what holds of a tree printed with the fewest brackets -/
theorem nws_snd : ∀ (ws ws' : List Wi), ws.map Prod.snd = ws'.map Prod.snd → nws ws = nws ws' := by
  intro ws
  induction ws with
  | nil =>
    intro ws' h
    cases ws' with
    | nil => rfl
    | cons x ws' => cases h
  | cons x ws ih =>
    intro ws' h
    cases ws' with
    | nil => cases h
    | cons y ws' =>
      obtain ⟨h1, h2⟩ := List.cons.inj h
      rw [nws_pos, nws_pos, ih ws' h2, h1]
theorem wdT_ch {W : Nat → Wd} {g : Nat → Bool} {m : Nat} (hW : ∀ i, i < m → WSP (W i)) : ∀ i, i ≤ m → ∀ k, k < (wdT W g i).length → tF (wdT W g i) k < 65536 := by
  intro i
  induction i with
  | zero => intro _ k hk; exact absurd hk (Nat.not_lt_zero _)
  | succ i ih =>
    intro hi k hk
    have ih := ih (by omega)
    rw [wdT_c] at hk ⊢
    by_cases z : g i = true
    · rw [if_pos z] at hk ⊢
      exact ih k hk
    rw [if_neg z] at hk ⊢
    have hw := hW i (by omega)
    by_cases q : k < (wdT W g i).length
    · rw [wdC_k hw q]
      exact ih k q
    · unfold wdC at hk ⊢
      by_cases z0 : (W i).1 = 0
      · rw [if_pos z0] at hk ⊢
        have hv : (W i).2 ≤ 999999999 := by
          rcases hw with y | y | y | y | y | y
          · exact y.2
          · omega
          · omega
          · rw [y] at z0; cases z0
          · rw [y] at z0; cases z0
          · rw [y] at z0; cases z0
        obtain ⟨j, j1, j2, j3, j4, j5, j6⟩ := numT_dig hv (wdT W g i)
        have := j6 (k - (wdT W g i).length) (by omega)
        rw [show (wdT W g i).length + (k - (wdT W g i).length) = k by omega] at this
        rw [this]
        have := Nat.mod_lt ((W i).2 / 10 ^ (j - (k - (wdT W g i).length))) (show 0 < 10 by decide)
        omega
      · rw [if_neg z0] at hk ⊢
        rw [List.length_cons] at hk
        rw [show k = (wdT W g i).length by omega, tF_s]
        unfold wvN
        have sg : ∀ p, p < 16 → sgc p < 65536 := by decide
        rcases hw with y | y | y | y | y | y
        · exact absurd y.1 z0
        · rw [if_neg (by omega)]
          omega
        · rw [if_pos y.1]
          exact sg _ y.2
        · rw [y]; decide
        · rw [y]; decide
        · rw [y]; decide
section PRF
variable {b : GB} {n : Nat} {nd : Nat → Nd} {sp : Nat → Nat} {T : SW} {g : Nat → Bool} {l : List Wp}
theorem prt_facts (hO : TbOK b) (h : WT n (aro nd) sp) (h80 : n ≤ 80) (hn : ∀ i, i < n → NV b (nd i)) (eT : T = spl nd sp 200 0 S0) (eg : g = hidT b n nd sp) (el : l = lstW (wF T.1) g T.1.length) : HG (wF T.1) T.1.length T.1.length g ∧ GoodW b (wF T.1) T.1.length n nd sp g ∧ lexS (tF (prtT b n nd sp)) (prtT b n nd sp).length (prtT b n nd sp).length 0 [] = l ∧ (∀ k, k < (prtT b n nd sp).length → tF (prtT b n nd sp) k < 65536) ∧ GoodW b (wF l) l.length n nd sp (fun _ => false) ∧ dOk b (vs (wF l) l.length 0) st0 ∧ nws (vs (wF l) l.length 0) ≤ 80 ∧ (∀ k, k < l.length → ¬ opn (wF l) k ∨ ∃ c, prd (wF l) l.length k c) ∧ ((∃ k, k < l.length ∧ badC b (wF l) l.length n nd sp k) ↔ ∃ k, k < T.1.length ∧ badM b (wF T.1) T.2 g T.1.length n nd sp k) ∧ l.length ≤ T.1.length := by
  have s0 := h.2.2.1
  have hP := (spl_pairs h hn (f := 200) (by omega)).1
  have cw := (spl_pairs h hn (f := 200) (by omega)).2.2
  have h0 := good0 hO h (by omega) hn
  have hW := spl_WSP h hn (f := 200)
  have hI := fun f y a S1 => inner (T := T) hO h (by omega) hn eT (f := f) (y := y) (a := a) (S1 := S1)
  rw [← eg] at hI
  have eg2 : g = hdn (GoodW b (wF T.1) T.1.length n nd sp) T.2 T.1.length := by
    rw [eg, eT]
    rfl
  have eP : prtT b n nd sp = wdT (wF T.1) g T.1.length := by
    rw [eg, eT]
    rfl
  have dep := fun (J : Nat) (fin : List Ln) hg => depth (T := T) (g := g) (J := J) (fin := fin) hO h hn hg hI 200 0 h.1 (by omega) S0 (fun w l e => by cases e)
  rw [← eT] at hP cw h0 hW dep
  obtain ⟨g1, g2⟩ := HG_hdn hP h0 T.1.length (Nat.le_refl _)
  have pg := pG_hdn hP h0 T.1.length (Nat.le_refl _)
  rw [← eg2] at g1 g2 pg
  rw [eP]
  clear eg eg2 eP hI
  have hA := adjB_at (run_adjB _ _ st0 (Nat.le_refl _) (by
    obtain ⟨ln, e, -⟩ := h0
    rw [e]
    rfl))
  have gs : ∀ k, k < T.1.length → g k = false → (fun _ => false : Nat → Bool) (lstW (wF T.1) g k).length = g k := fun k _ e => e.symm
  have em := vis_lst (W := wF T.1) (g := g) (g2 := g) (g2' := fun _ => false) (fun k y => y) T.1.length gs
  have ev0 : vw T g T.1.length = [] := by
    unfold vw
    rw [Nat.sub_self]
    rfl
  have pv : ∀ j c, prd (wF T.1) T.1.length j c → g j = false → prd (wF l) l.length (lstW (wF T.1) g j).length (lstW (wF T.1) g c).length := fun j c hp gj => by
    rw [el]
    exact prd_v g1 hA hp gj (pg j c hp gj)
  have pk : ∀ k, k < T.1.length → opn (wF T.1) k → prd (wF T.1) T.1.length k (T.2 k) := fun k hk ho => by
    rcases hP k hk with y | y
    · exact absurd ho y.2
    · exact y
  have ll : l.length ≤ T.1.length := by
    have := (lst_len (W := wF T.1) (g := g) T.1.length 0).2
    rw [Nat.zero_add] at this
    rw [el]
    exact Nat.le_trans this (Nat.le_of_eq (Nat.zero_add _))
  refine ⟨g1, g2, ?_, wdT_ch hW T.1.length (Nat.le_refl _), ?_, ?_, ?_, fun k' hk => ?_, ⟨?_, ?_⟩, ll⟩
  · rw [el]
    exact relex (g := g) hW T.1.length 0 (Nat.zero_add _) (run_adj _ _ st0 (Nat.le_refl _) (by
      obtain ⟨ln, e, -⟩ := g2
      rw [e]
      rfl)) _ (Nat.le_of_eq (Nat.zero_add _).symm)
  · rw [el]
    exact (good_lst (fun k y => y) gs).mp g2
  · rw [el]
    obtain ⟨ln, e, -⟩ := g2
    obtain ⟨p', B', L', -, -, -, d⟩ := dep T.1.length ln g1 ⟨[], rfl⟩ (fun w l e => by
      rw [ev0] at e
      cases e) 0 (by first | decide | omega) (fun y => absurd rfl y) (fun _ => by decide) [] [] [] [] lvP_nil (fun x t e => by cases e) (by rw [s0]; show 2 * (0 + 0) + 3 * n ≤ 283; omega) e
    rw [ev0] at d
    exact dOk_snd _ _ _ _ (Nat.le_refl _) em (d trivial)
  · rw [el]
    show nws (vis (wF (lstW (wF T.1) g T.1.length)) (fun _ => false) (lstW (wF T.1) g T.1.length).length 0) ≤ 80
    rw [← nws_snd _ _ em]
    have h1 := vis_nws (W := wF T.1) (g := g) (k := 0) T.1.length 0
    have h2 := nws_vis_all T.1
    unfold visl at h2
    omega
  · rw [el] at hk
    obtain ⟨k, k1, k2, k3⟩ := lst_sur T.1.length k' hk
    by_cases z : opn (wF T.1) k
    · right
      rw [← k3]
      exact ⟨_, pv k _ (pk k k1 z) k2⟩
    · left
      rw [← k3, el]
      exact fun y => z ((opn_v g1 hA k1 k2).mp y)
  · rintro ⟨k', hk, c', y1, y2⟩
    rw [el] at hk
    obtain ⟨k, k1, k2, k3⟩ := lst_sur T.1.length k' hk
    rw [← k3] at y1 y2
    have ho : opn (wF T.1) k := by
      have := y1.1
      rw [el] at this
      exact (opn_v g1 hA k1 k2).mp this
    have hp := pk k k1 ho
    rw [mt_c (prd_mt y1) (prd_mt (pv k _ hp k2)), el] at y2
    exact ⟨k, k1, by have := hp.2.1; omega, k2, (test_v g1 hp k2).mpr y2⟩
  · rintro ⟨k, k1, y1, y2, y3⟩
    have hp : prd (wF T.1) T.1.length k (T.2 k) := by
      rcases hP k k1 with y | y
      · exact absurd y.1 y1
      · exact y
    refine ⟨(lstW (wF T.1) g k).length, by rw [el]; exact (lst_v y2 k1).1, _, pv k _ hp y2, ?_⟩
    rw [el]
    exact (test_v g1 hp y2).mp y3
end PRF
