/-! the law: three operators -/
section LTF
variable {C : Nat → Nat → Int32} {Z : Nat} {t : GT} {s : GS} {b : GB} {n : GN} {f : GF} {v : GV} {p : GT} {r : GR} {h : GH} {σ : xM} {aC : Nat → ClassId}
theorem pushH_1 {h : GH} {kd ky : Nat} {row : Nat → Int32} {w : GV} (h20 : h.1 < 20) : (pushH h kd ky row w).1 = h.1 + 1 := by
  show nm h + 1 = _
  unfold nm
  rw [if_pos h20]
/-- the desk before the ten texts -/
def TlP (σ : xM) (B : Nat) : Prop := ∃ C t s b n f v p r h, LSt C 0 t s b n f v p r h σ ∧ t.1 = 0 ∧ s.1 ≤ 3 ∧ h.1 ≤ B
theorem op_ok {fx rk sd mn : Nat} (hf : fx ≤ 2) (hr : 1 ≤ rk ∧ rk ≤ 9) (hs : sd ≤ (if fx = 2 then 2 else 0)) (hm : if fx = 2 then mn ≤ 10 else 11 ≤ mn ∧ mn ≤ 13) : OpOK fx (Int32.ofNat (rk)) (Int32.ofNat (sd)) (Int32.ofNat (mn)) := by
  have m13 : mn ≤ 13 := by split at hm <;> omega
  refine ⟨⟨(i32_le (k := 1) (by omega) (by omega)).mpr hr.1, (i32_le (m := 9) (by omega) (by omega)).mpr hr.2⟩, ⟨i32_0le (by split at hs <;> omega), ?_⟩, Or.inr ⟨fun y => ?_, ?_⟩⟩
  · by_cases q : fx = 2
    · rw [if_pos q] at hs ⊢
      exact (i32_le (m := 2) (by omega) (by omega)).mpr hs
    · rw [if_neg q] at hs ⊢
      exact (i32_le (m := 0) (by omega) (by omega)).mpr hs
  · exact absurd ((i32_le (k := 100) (by omega) (by omega)).mp y.1) (by omega)
  · by_cases q : fx = 2
    · rw [if_pos q] at hm
      exact Or.inl ⟨q, i32_0le (by omega), (i32_le (m := 10) (by omega) (by omega)).mpr hm⟩
    · rw [if_neg q] at hm
      exact Or.inr ⟨q, (i32_le (k := 11) (by omega) (by omega)).mpr hm.1, (i32_le (m := 13) (by omega) (by omega)).mpr hm.2⟩
theorem ls_tells (hL : aC 104 ≤ 260) {B : Nat} (hB : B ≤ 9) (H : TlP σ B) : QK (xloop (f_L_law_s141 aC) xF (xkX, 0, 1, 4561, 0, σ)) (fun o => ∃ σ', o = .inr (xkX, 0, 1, 4561, σ') ∧ TlP σ' (B + 3)) := by
  refine q_for 3 (fun j x => ∃ σ', x = (xkX, 0, 1, 4561, (Int32.ofNat (j)), σ') ∧ TlP σ' (B + j)) ?_ ?_ (i := 0) ⟨σ, rfl, H⟩ (Nat.zero_le _) (by unfold xF; omega)
  · rintro j _ hj ⟨σ1, rfl, C1, t1, s1, b1, n1, f1, v1, p1, r1, h1, H1, z1, hs1, hh1⟩
    unfold f_L_law_s141
    rw [q_let, q_let, q_let, q_let, q_let, q_let]
    dsimp only
    obtain ⟨x, ex⟩ := cell_ok (aC := aC) (σ := σ1) hL (k := 4 + j) (by omega)
    obtain ⟨fx, hfx, e1⟩ := low_ok (σ := σ1) x (d := 3) (by decide) (by decide)
    have e1 : f_L_low σ1 x 3 = some (Int32.ofNat (fx)) := e1
    obtain ⟨sj, hsj, e2⟩ := low_ok (σ := σ1) (x >>> ((2 : Int32) &&& 31)) (d := 16) (by decide) (by decide)
    have e2 : f_L_low σ1 (x >>> ((2 : Int32) &&& 31)) 16 = some (Int32.ofNat (sj)) := e2
    obtain ⟨rj, hrj, e3⟩ := low_ok (σ := σ1) (x >>> ((6 : Int32) &&& 31)) (d := 9) (by decide) (by decide)
    have e3 : f_L_low σ1 (x >>> ((6 : Int32) &&& 31)) 9 = some (Int32.ofNat (rj)) := e3
    rw [if_neg (show ¬ (3 : Int32) ≤ (Int32.ofNat (j)) from fun y => absurd ((i32_le (k := 3) (by omega) (by omega)).mp y) (by omega)), show (4 : Int32) + (Int32.ofNat (j)) = (Int32.ofNat (4 + j)) from n_add 4 j, ex, Option.bind_some, e1, Option.bind_some, e2, Option.bind_some, sign_ok sj hsj, Option.bind_some, e3, Option.bind_some, q_let, show (1 : Int32) + (Int32.ofNat (rj)) = (Int32.ofNat (1 + rj)) from n_add 1 rj]
    have go : ∀ σ', TlP σ' (B + (j + 1)) → QK (f_L_law_j358 aC σ' xkX 0 1 4561 (Int32.ofNat (j))) (qS (fun x => ∃ σ', x = (xkX, 0, 1, 4561, (Int32.ofNat (j + 1)), σ') ∧ TlP σ' (B + (j + 1))) (fun o => ∃ σ', o = .inr (xkX, 0, 1, 4561, σ') ∧ TlP σ' (B + 3))) := fun σ' hp => by
      unfold f_L_law_j358
      rw [q_let, show (Int32.ofNat (j)) + (1 : Int32) = (Int32.ofNat (j + 1)) from n_add j 1]
      exact q_go ⟨σ', rfl, hp⟩
    -- with side and meaning
    have tl : ∀ (sd mn : Nat), sd ≤ (if fx = 2 then 2 else 0) → (if fx = 2 then mn ≤ 10 else 11 ≤ mn ∧ mn ≤ 13) → QK (f_L_law_j245 aC σ1 xkX 0 1 4561 (Int32.ofNat (j)) (Int32.ofNat (fx)) (Int32.ofNat (sgL sj)) (Int32.ofNat (1 + rj)) (Int32.ofNat (sd)) (Int32.ofNat (mn))) (qS (fun x => ∃ σ', x = (xkX, 0, 1, 4561, (Int32.ofNat (j + 1)), σ') ∧ TlP σ' (B + (j + 1))) (fun o => ∃ σ', o = .inr (xkX, 0, 1, 4561, σ') ∧ TlP σ' (B + 3))) := by
      intro sd mn hsd hmn
      have hO := (ls_top H1).1.1
      have p16 := (plS_ok sj hsj).1
      have sd2 : sd ≤ 2 := by split at hsd <;> omega
      have hop := op_ok (fx := fx) (rk := 1 + rj) (sd := sd) (mn := mn) (by omega) (by omega) hsd hmn
      have T0 : f_X11_told σ1 0 (Int32.ofNat (sgL sj)) (Int32.ofNat (fx)) 0 = some (.inl (tdV (b1 (fx * 16 + plS sj)) 0)) := ls_told H1 hsj (w := 0) (by omega) (by decide)
      obtain ⟨w, ew, hw⟩ := ls_may H1 hsj (fx := fx) (rk := 1 + rj) (sd := sd) (by omega) (by omega) sd2
      unfold f_L_law_j245
      rw [if_pos (ls_ok H1), T0, Option.bind_some, Sum.elim_inl, ew, Option.bind_some]
      rcases hw with rfl | ⟨rfl, hh⟩
      · rw [if_pos rfl]
        exact go σ1 ⟨C1, t1, s1, b1, n1, f1, v1, p1, r1, h1, H1, z1, hs1, by omega⟩
      · obtain ⟨σ2, e4, H2⟩ := ls_tell H1 hsj (by omega) hop hh
        have hn : (hTab h1 (fx * 16 + plS sj) (b1 (fx * 16 + plS sj))).1 = h1.1 + 1 := pushH_1 (by omega)
        rw [if_neg (show ¬ (1 : Int32) = 0 by decide), if_pos (ls_ok H1), e4, Option.bind_some, q_let]
        dsimp only
        rw [Sum.elim_inl, if_neg (show ¬ (1 : Int32) = 0 by decide)]
        have bu : upB b1 (fx * 16 + plS sj) ((Int32.ofNat (1 + rj)), (Int32.ofNat (sd)), (Int32.ofNat (mn))) (fx * 16 + plS sj) = ((Int32.ofNat (1 + rj)), (Int32.ofNat (sd)), (Int32.ofNat (mn))) := if_pos rfl
        have rk0 : ¬ (Int32.ofNat (1 + rj)) = (0 : Int32) := i32_ne (b := 0) (by omega) (by omega) (by omega)
        have t0 : f_X11_told σ2 0 (Int32.ofNat (sgL sj)) (Int32.ofNat (fx)) 0 = some (.inl (Int32.ofNat (1 + rj))) := (ls_told H2 hsj (w := 0) (by omega) (by decide)).trans (by rw [bu]; unfold tdV; rw [if_neg rk0, if_pos rfl])
        have t1' : f_X11_told σ2 0 (Int32.ofNat (sgL sj)) (Int32.ofNat (fx)) 1 = some (.inl (Int32.ofNat (sd))) := (ls_told H2 hsj (w := 1) (by omega) (by decide)).trans (by rw [bu]; unfold tdV; rw [if_neg rk0, if_neg (show ¬ (1 : Nat) = 0 by decide), if_pos rfl])
        have t2 : f_X11_told σ2 0 (Int32.ofNat (sgL sj)) (Int32.ofNat (fx)) 2 = some (.inl (Int32.ofNat (mn))) := (ls_told H2 hsj (w := 2) (by omega) (by decide)).trans (by rw [bu]; unfold tdV; rw [if_neg rk0, if_neg (show ¬ (2 : Nat) = 0 by decide), if_neg (show ¬ (2 : Nat) = 1 by decide)])
        have fin : ∀ s0 : Int32, (b1 (fx * 16 + plS sj)).1 = s0 → QK (f_L_law_j307 aC σ2 xkX 0 4561 (Int32.ofNat (j)) (Int32.ofNat (fx)) (Int32.ofNat (sgL sj)) (Int32.ofNat (1 + rj)) (Int32.ofNat (sd)) (Int32.ofNat (mn)) s0 (b1 (fx * 16 + plS sj)).1) (qS (fun x => ∃ σ', x = (xkX, 0, 1, 4561, (Int32.ofNat (j + 1)), σ') ∧ TlP σ' (B + (j + 1))) (fun o => ∃ σ', o = .inr (xkX, 0, 1, 4561, σ') ∧ TlP σ' (B + 3))) := fun s0 e => by
          unfold f_L_law_j307
          rw [if_pos e, if_pos (ls_ok H2), t0, Option.bind_some, Sum.elim_inl, if_pos rfl, if_pos (ls_ok H2), t1', Option.bind_some, Sum.elim_inl, if_pos rfl, if_pos (ls_ok H2), t2, Option.bind_some, Sum.elim_inl, if_pos rfl]
          unfold f_L_law_j357
          exact go σ2 ⟨C1, t1, s1, _, n1, f1, v1, p1, r1, _, H2, z1, hs1, by omega⟩
        by_cases q : (b1 (fx * 16 + plS sj)).1 = 0
        · rw [if_pos (show tdV (b1 (fx * 16 + plS sj)) 0 = -1 from if_pos q)]
          exact fin 0 q
        · have e5 : tdV (b1 (fx * 16 + plS sj)) 0 = (b1 (fx * 16 + plS sj)).1 := by
            unfold tdV
            rw [if_neg q, if_pos rfl]
          rw [e5, if_neg (rank_n hO p16 (by omega))]
          exact fin _ rfl
    by_cases q : fx = 2
    · subst q
      obtain ⟨sd, hsd, e4⟩ := low_ok (σ := σ1) (x >>> ((10 : Int32) &&& 31)) (d := 3) (by decide) (by decide)
      have e4 : f_L_low σ1 (x >>> ((10 : Int32) &&& 31)) 3 = some (Int32.ofNat (sd)) := e4
      obtain ⟨mn, hmn, e5⟩ := low_ok (σ := σ1) (x >>> ((12 : Int32) &&& 31)) (d := 11) (by decide) (by decide)
      have e5 : f_L_low σ1 (x >>> ((12 : Int32) &&& 31)) 11 = some (Int32.ofNat (mn)) := e5
      rw [if_pos (show (Int32.ofNat (2)) = (2 : Int32) from rfl), e4, Option.bind_some]
      unfold f_L_law_j212
      rw [if_pos (show (Int32.ofNat (2)) = (2 : Int32) from rfl), e5, Option.bind_some]
      exact tl sd mn (by rw [if_pos rfl]; omega) (by rw [if_pos rfl]; omega)
    · obtain ⟨mn, hmn, e5⟩ := low_ok (σ := σ1) (x >>> ((12 : Int32) &&& 31)) (d := 3) (by decide) (by decide)
      have e5 : f_L_low σ1 (x >>> ((12 : Int32) &&& 31)) 3 = some (Int32.ofNat (mn)) := e5
      have nf : ¬ (Int32.ofNat (fx)) = (2 : Int32) := i32_ne (b := 2) (by omega) (by omega) q
      rw [if_neg nf]
      unfold f_L_law_j212
      rw [if_neg nf, e5, Option.bind_some, show (11 : Int32) + (Int32.ofNat (mn)) = (Int32.ofNat (11 + mn)) from n_add 11 mn]
      exact tl 0 (11 + mn) (by rw [if_neg q]; omega) (by rw [if_neg q]; omega)
  · rintro _ ⟨σ1, rfl, hp⟩
    unfold f_L_law_s141
    rw [q_let, q_let, q_let, q_let, q_let, q_let]
    dsimp only
    rw [if_pos (by decide)]
    exact q_ex ⟨σ1, rfl, hp⟩
end LTF
