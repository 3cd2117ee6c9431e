/-! the reference reads by stacks: all words -/
section RQ
variable {I : Nat → Nat → Int32} {J : Nat → Nat → Int64} {R : Nat → Nat → Option Nat} {b : GB} {β : Type} {m : Nat} {W : Nat → Wd} {P : Nat → Nat} {g : Nat → Bool}
def EM (I : Nat → Nat → Int32) (b : GB) (m : Nat) (r0 : Wi × PS ⊕ PS) (J : Nat → Nat → Int64) (R : Nat → Nat → Option Nat) : ((Int32 × xM) ⊕ (((Int32 × xM) ⊕ ((Int32 × xM) ⊕ (Nat × Int32 × xM))))) → Prop := fun r => (∃ I1 i w st, (r = .inr (.inl ((Int32.ofNat (i)), mg 4625 I1 J R)) ∨ r = .inr (.inr (.inl ((Int32.ofNat (i)), mg 4625 I1 J R)))) ∧ FrK SMp I I1 ∧ r0 = .inl ((i, w), st)) ∨ ∃ I1 st, r = .inr (.inr (.inr (4561, (if st.2.2.2 = true then 1 else 0), mg 4625 I1 J R))) ∧ FrK SMp I I1 ∧ MH3 I1 b st.1 st.2.1 st.2.2.1 ∧ wal st b ∧ st.1.length + st.2.1.length ≤ 300 ∧ st.2.2.1.length + wgt st.1 ≤ 80 ∧ r0 = .inr st
def PM (I : Nat → Nat → Int32) (b : GB) (m : Nat) (W : Nat → Wd) (g : Nat → Bool) (r0 : Wi × PS ⊕ PS) (J : Nat → Nat → Int64) (R : Nat → Nat → Option Nat) (n : Nat) (s : Nat × Int32 × Int32 × xM) : Prop := ∃ I1 k st, s = (4561, (if st.2.2.2 = true then 1 else 0), (Int32.ofNat (nxg g (m - k) k)), mg 4625 I1 J R) ∧ k + n = m ∧ FrK SMp I I1 ∧ MH3 I1 b st.1 st.2.1 st.2.2.1 ∧ wal st b ∧ LW st.2.2.1 ∧ Cap st (vis W g (m - k) k) ∧ run b (vis W g (m - k) k) st = r0
def aftOp (i : Int32) (p : Int32 × xM) : Option ((Int32 × xM) ⊕ (((Int32 × xM) ⊕ ((Int32 × xM) ⊕ (Nat × Int32 × xM))) ⊕ (Nat × Int32 × Int32 × xM))) :=
  if p.1 = (0 : Int32) then some (Sum.inr (Sum.inl (Sum.inr (Sum.inl (i, p.2))))) else (gR p.2 4561 12 20).bind fun x8 => (aI p.2 x8 14 i).bind fun x9 => if x9 = (5 : Int32) then f_X12_parse_j160 p.2 4561 i else (gR p.2 4561 12 20).bind fun x11 => (aI p.2 x11 14 i).bind fun x12 => if x12 = (2 : Int32) then (gR p.2 4561 12 21).bind fun x13 => (aI p.2 x13 14 i).bind fun x14 => if xk p.2 4561 12 = true then (f_X12_rankOf p.2 4561 x14 (2 : Int32)).bind fun p15 => if p15 ≤ (0 : Int32) then f_X12_parse_j164 p.2 4561 i else f_X12_parse_j160 p.2 4561 i else none else f_X12_parse_j164 p.2 4561 i
theorem M_parse (hR : RA R) (hM : MTb I b) (hT : TbOK b) (hW : MWd I m W P g) (hn : nws (vis W g m 0) ≤ 80) : QK (f_X12_parse (mg 4625 I J R) 4561) (fun r => ∃ I', r = (resM m (run b (vis W g m 0) st0), mg 4625 I' J R) ∧ FrK SMp I I' ∧ ∀ ln, acc (run b (vis W g m 0) st0) = some ln → ∃ bs, bs.length = 1 ∧ MH3 I' b [] bs ln) := by
  have hm := hW.1
  unfold f_X12_parse
  rw [gs_4561, gs_4561, gs_4561, q_let, if_pos ok_4561]
  generalize hI0 : up (up (up I 4561 33 0) 4561 36 0) 4561 40 0 = I0
  have f0 : FrK SMp I I0 := fun a k y => by
    unfold SMp at y
    rw [← hI0, up_n (by omega), up_n (by omega), up_n (by omega)]
  have h0 : MH3 I0 b [] [] [] := by
    refine ⟨trivial, ?_, rfl, ?_, Nat.zero_le _, ?_, fun i hi => absurd hi (Nat.not_lt_zero _)⟩
    · rw [← hI0, up_s]; rfl
    · rw [← hI0, up_n (by omega), up_s]; rfl
    · rw [← hI0, up_n (by omega), up_n (by omega), up_s]; rfl
  have hW0 : MWd I0 m W P g := MWd_keep hW (fun a k y => f0 a k (by unfold SMp; omega))
  rw [M_next hR hW0 (k := 0) (by decide) (Nat.zero_le _)]
  generalize er0 : run b (vis W g m 0) st0 = r0
  refine q_bind (P := EM I b m r0 J R) ?_ ?_
  · refine q_loop (PM I b m W g r0 J R) ?_ (m := m) ⟨I0, 0, st0, rfl, by omega, f0, h0, ⟨trivial, rfl⟩, fun x hx => (by cases hx), ⟨by have := vis_len (W := W) (g := g) m 0; show 0 + 0 + (vis W g m 0).length ≤ 300; omega, by show 0 + 0 + nws (vis W g m 0) ≤ 80; omega⟩, er0⟩ (by unfold xF; omega)
    rintro n s ⟨I1, k, st, rfl, hk, hF, hS, hA, hL, ⟨c1, c2⟩, er⟩
    have hW1 : MWd I1 m W P g := MWd_keep hW (fun a k y => hF a k (by unfold SMp; omega))
    have hM1 : MTb I1 b := MTb_keep hM (fun a k h => hF a k (by unfold SMp; omega))
    obtain ⟨n1, n2, n3, n4⟩ := nxg_ok (W := W) (g := g) (m := m) (m - k) k (by omega)
    generalize nxg g (m - k) k = i at n1 n2 n3 n4 ⊢
    unfold f_X12_parse_s23
    dsimp only
    rw [q_let, q_let, q_let, q_let, gi_4561, hW1.2.1]
    by_cases qi : i < m
    · obtain ⟨g1, g2⟩ := n4 qi
      rw [g2] at er c1 c2
      rw [List.length_cons] at c1
      rw [nws_pos] at c2
      rw [run_cons] at er
      dsimp only at c2
      rw [if_neg (show ¬ (Int32.ofNat (m)) ≤ (Int32.ofNat (i)) from fun y => absurd ((i32_le (by omega) (by omega)).mp y) (by omega))]
      obtain ⟨w1, w2, w3, w4⟩ := MWd_v hW1 qi
      -- a word that is taken
      have go : ∀ (I2 : Nat → Nat → Int32) (st' : PS) (k' : Nat) (x : Int32), FrK SMp I1 I2 → MH3 I2 b st'.1 st'.2.1 st'.2.2.1 → i ≤ k' → k' < m → wal st' b → LW st'.2.2.1 → Cap st' (vis W g (m - (k' + 1)) (k' + 1)) → run b (vis W g (m - (k' + 1)) (k' + 1)) st' = r0 → x = (if st'.2.2.2 = true then 1 else 0) → QK (f_X12_parse_j166 (mg 4625 I2 J R) 4561 x (Int32.ofNat (k'))) (qS (fun s' => ∃ m', m' < n ∧ PM I b m W g r0 J R m' s') (EM I b m r0 J R)) := by
        intro I2 st' k' x a1 a2 a3 a4 a5 a6 a7 a8 a9
        have hF2 : FrK SMp I I2 := fun a j y => (a1 a j y).trans (hF a j y)
        have hW2 : MWd I2 m W P g := MWd_keep hW (fun a k y => hF2 a k (by unfold SMp; omega))
        unfold f_X12_parse_j166
        rw [if_pos ok_4561, M_next hR hW2 (n_add k' 1) (by omega), a9]
        exact q_go ⟨m - (k' + 1), by omega, I2, k' + 1, st', rfl, by omega, hF2, a2, a5, a6, a7, a8⟩
      by_cases qw : st.2.2.2 = true
      · rw [if_pos qw, if_neg (show ¬ (1 : Int32) = 0 by decide), if_pos ok_4561]
        have sA : stA b (W i) st = stO b (W i) st := by
          unfold stA
          rw [if_pos qw]
        obtain ⟨_, e1, I2, x, rfl, hF2, hx⟩ := M_operand (J := J) (st := st) (k := i) hR hM1 hT hW1 hS qw qi (by omega) (by omega)
        have hF2' : FrK SMp I I2 := fun a j y => (hF2 a j y).trans (hF a j y)
        have hW2 : MWd I2 m W P g := MWd_keep hW (fun a k y => hF2' a k (by unfold SMp; omega))
        obtain ⟨u1, u2, u3, u4⟩ := MWd_v hW2 qi
        rw [e1, Option.bind_some]
        have kinds : (W i).1 ≠ 1 → ∀ st', stO b (W i) st = some st' → MH3 I2 b st'.1 st'.2.1 st'.2.2.1 → st'.2.2.2 = decide ((W i).1 = 3 ∨ (W i).1 = 4) → isCl (i, W i) st (vis W g (m - (i + 1)) (i + 1)) = false → QK (f_X12_parse_j67 (mg 4625 I2 J R) 4561 (Int32.ofNat (i))) (qS (fun s' => ∃ m', m' < n ∧ PM I b m W g r0 J R m' s') (EM I b m r0 J R)) := by
          intro k1 st' s1 s2 s3 ic
          rw [if_neg (by rw [ic]; decide)] at er
          dsimp only at er
          rw [sA, s1] at er
          dsimp only at er
          obtain ⟨b1, b2, b3⟩ := stA_keep hA w4 (sA.trans s1)
          have b4 := stA_LW hA.1 w4 hL (sA.trans s1)
          unfold f_X12_parse_j67 f_X12_parse_j68 f_X12_parse_j82 f_X12_parse_j107 f_X12_parse_j112
          rw [if_pos rfl, if_pos rfl, gr_4561_20 hR, ga_4579 (by omega), u1]
          have fin := go I2 st' i (if st'.2.2.2 = true then 1 else 0) hF2 s2 (Nat.le_refl _) qi b1 b4 ⟨by omega, by omega⟩ er rfl
          by_cases k4 : (W i).1 = 4
          · rw [kM_ifT 4 3 rfl k4]
            rw [s3, k4] at fin
            exact fin
          · rw [kM_ifF 4 3 rfl (by decide) k4, gr_4561_20 hR, ga_4579 (by omega), u1]
            by_cases k3 : (W i).1 = 3
            · rw [kM_ifT 3 2 rfl k3]
              rw [s3, k3] at fin
              exact fin
            · rw [kM_ifF 3 2 rfl (by decide) k3]
              rw [s3, if_neg (by simp [k3, k4])] at fin
              exact fin
        rcases hx with ⟨ic, rfl, hS2⟩ | ⟨ic, hx⟩
        · rw [if_neg (show ¬ (1 : Int32) = 0 by decide), gr_4561_20 hR, ga_4579 (by omega), u1]
          have wk1 : (W i).1 = 1 := by
            unfold isCl at ic
            split at ic
            · cases ic
            · simp at ic
              exact ic.1.2
          obtain ⟨o1, o2, o3, o4⟩ := nxg_ok (W := W) (g := g) (m := m) (m - (i + 1)) (i + 1) (by omega)
          rw [kM_ifT 1 1 rfl wk1, if_pos ok_4561]
          unfold f_X12_parse_j68 f_X12_opensCall f_X12_opensCall_j28 f_X12_opensCall_j29
          rw [if_pos ok_4561, M_next hR hW2 (n_add i 1) (by omega), gi_4561, hW2.2.1]
          generalize hj : nxg g (m - (i + 1)) (i + 1) = j at o1 o2 o3 o4 ⊢
          by_cases qj : j < m
          · rw [if_pos ic] at er
            rw [(o4 qj).2] at er ic c1 c2
            have wj : (W j).1 = 4 := by
              unfold isCl at ic
              simp at ic
              exact ic.2
            have hv : ∃ l, l < 26 ∧ (W i).2 = 97 + l := by
              rcases w4 with v | v | v | v
              · omega
              · exact v.2
              · omega
              · omega
            obtain ⟨b1, b2, b3⟩ := stF_keep hA hv qw
            rw [List.length_cons] at c1
            rw [nws_pos] at c2
            have n1' : nwd (W i) = 1 := by unfold nwd; rw [wk1]; rfl
            rw [if_neg (show ¬ (Int32.ofNat (m)) ≤ (Int32.ofNat (j)) from fun y => absurd ((i32_le (by omega) (by omega)).mp y) (by omega)), gr_4561_20 hR, ga_4579 (by omega), (MWd_v hW2 qj).1, kM_ifT 4 3 rfl wj, q_xz1, Option.bind_some, if_neg (show ¬ (1 : Int32) = 0 by decide), if_neg (show ¬ (1 : Int32) = 0 by decide), if_pos ok_4561, M_next hR hW2 (n_add i 1) (by omega), hj]
            unfold f_X12_parse_j82 f_X12_parse_j107 f_X12_parse_j112
            rw [if_neg (show ¬ (1 : Int32) = 0 by decide)]
            exact go I2 (stF (W i).2 st) j 1 hF2 hS2 (by omega) qj b1 hL ⟨by omega, by dsimp only at c2; omega⟩ er rfl
          · rw [o3 (by omega)] at ic
            cases ic
        · rcases hx with ⟨st', s1, rfl, s2, s3⟩ | ⟨s1, rfl⟩
          · rw [if_neg (show ¬ (1 : Int32) = 0 by decide), gr_4561_20 hR, ga_4579 (by omega), u1]
            by_cases k1 : (W i).1 = 1
            · rw [kM_ifT 1 1 rfl k1, if_pos ok_4561]
              obtain ⟨o1, o2, o3, o4⟩ := nxg_ok (W := W) (g := g) (m := m) (m - (i + 1)) (i + 1) (by omega)
              have e0 : f_X12_opensCall (mg 4625 I2 J R) 4561 (Int32.ofNat (i)) = some 0 := by
                unfold f_X12_opensCall f_X12_opensCall_j28 f_X12_opensCall_j29
                rw [if_pos ok_4561, M_next hR hW2 (n_add i 1) (by omega), gi_4561, hW2.2.1]
                generalize hj : nxg g (m - (i + 1)) (i + 1) = j at o1 o2 o3 o4 ⊢
                by_cases qj : j < m
                · rw [if_neg (show ¬ (Int32.ofNat (m)) ≤ (Int32.ofNat (j)) from fun y => absurd ((i32_le (by omega) (by omega)).mp y) (by omega)), gr_4561_20 hR, ga_4579 (by omega), (MWd_v hW2 qj).1]
                  rw [(o4 qj).2] at ic
                  have wj : (W j).1 ≠ 4 := by
                    unfold isCl at ic
                    simp [qw, k1] at ic
                    exact ic
                  rw [kM_ifF 4 3 rfl (by decide) wj, q_xz0]
                · rw [if_pos (show (Int32.ofNat (m)) ≤ (Int32.ofNat (j)) from (i32_le (by omega) (by omega)).mpr (by omega)), q_xz0]
              rw [e0, Option.bind_some, if_pos rfl]
              rw [if_neg (by rw [ic]; decide)] at er
              dsimp only at er
              rw [sA, s1] at er
              dsimp only at er
              obtain ⟨b1, b2, b3⟩ := stA_keep hA w4 (sA.trans s1)
              have b4 := stA_LW hA.1 w4 hL (sA.trans s1)
              unfold f_X12_parse_j67 f_X12_parse_j68 f_X12_parse_j82 f_X12_parse_j107 f_X12_parse_j112
              rw [if_pos rfl, if_pos rfl, gr_4561_20 hR, ga_4579 (by omega), u1, kM_ifF 4 3 rfl (by decide) (by omega), gr_4561_20 hR, ga_4579 (by omega), u1, kM_ifF 3 2 rfl (by decide) (by omega)]
              exact go I2 st' i 0 hF2 s2 (Nat.le_refl _) qi b1 b4 ⟨by omega, by omega⟩ er (by rw [s3, if_neg (by simp [k1])])
            · rw [kM_ifF 1 1 rfl (by decide) k1]
              exact kinds k1 st' s1 s2 s3 ic
          · rw [if_pos rfl]
            rw [if_neg (by rw [ic]; decide)] at er
            dsimp only at er
            rw [sA, s1] at er
            exact q_ex (Or.inl ⟨I2, i, W i, st, Or.inl rfl, hF2', er.symm⟩)
      · have qf : st.2.2.2 = false := by simpa using qw
        have ic : isCl (i, W i) st (vis W g (m - (i + 1)) (i + 1)) = false := by
          unfold isCl
          split
          · rfl
          · rw [qf]
            rfl
        rw [if_neg (by rw [ic]; decide)] at er
        dsimp only at er
        rw [if_neg qw, if_pos rfl, if_pos ok_4561]
        have out : ∀ (I2 : Nat → Nat → Int32) (x : Int32), FrK SMp I1 I2 → ((∃ st', stA b (W i) st = some st' ∧ x = 1 ∧ MH3 I2 b st'.1 st'.2.1 st'.2.2.1 ∧ st'.2.2.2 = decide ((W i).1 = 6 ∨ ((W i).1 = 3 ∧ 0 < rkN b (W i).2 2))) ∨ (stA b (W i) st = none ∧ x = 0)) → QK (aftOp (Int32.ofNat (i)) (x, mg 4625 I2 J R)) (qS (fun s' => ∃ m', m' < n ∧ PM I b m W g r0 J R m' s') (EM I b m r0 J R)) := by
          intro I2 x hF2 hx
          have hF2' : FrK SMp I I2 := fun a j y => (hF2 a j y).trans (hF a j y)
          have hW2 : MWd I2 m W P g := MWd_keep hW (fun a k y => hF2' a k (by unfold SMp; omega))
          have hM2 : MTb I2 b := MTb_keep hM (fun a k h => hF2' a k (by unfold SMp; omega))
          obtain ⟨u1, u2, u3, u4⟩ := MWd_v hW2 qi
          unfold aftOp
          dsimp only
          rcases hx with ⟨st', s1, rfl, s2, s3⟩ | ⟨s1, rfl⟩
          · rw [if_neg (show ¬ (1 : Int32) = 0 by decide), gr_4561_20 hR, ga_4579 (by omega), u1]
            rw [s1] at er
            dsimp only at er
            obtain ⟨b1, b2, b3⟩ := stA_keep hA w4 s1
            have b4 := stA_LW hA.1 w4 hL s1
            have fin := go I2 st' i (if st'.2.2.2 = true then 1 else 0) hF2 s2 (Nat.le_refl _) qi b1 b4 ⟨by omega, by omega⟩ er rfl
            unfold f_X12_parse_j160 f_X12_parse_j164 f_X12_parse_j165
            by_cases k6 : (W i).1 = 6
            · rw [kM_ifT 6 5 rfl k6]
              rw [s3, if_pos (by simp [k6])] at fin
              exact fin
            · rw [kM_ifF 6 5 rfl (by decide) k6, gr_4561_20 hR, ga_4579 (by omega), u1]
              by_cases k3 : (W i).1 = 3
              · have hp : (W i).2 < 16 := by
                  rcases w4 with v | v | v | v <;> omega
                have r9 := (rk_i hT hp (show 2 < 3 by decide)).2
                rw [kM_ifT 3 2 rfl k3, gr_4561_21 hR, ga_4580 (by omega), u2, if_pos ok_4561, show wvI (W i) = (Int32.ofNat (sgc (W i).2)) by unfold wvI; rw [if_pos k3], show (2 : Int32) = (Int32.ofNat (2)) from rfl, M_rankOf hR hM2 hT hp (by decide)]
                by_cases q2 : 0 < rkN b (W i).2 2
                · rw [if_neg (show ¬ (Int32.ofNat (rkN b (W i).2 2)) ≤ (0 : Int32) from fun y => absurd ((i32_le (m := 0) (by omega) (by omega)).mp y) (by omega))]
                  rw [s3, if_pos (by simp [k3, q2])] at fin
                  exact fin
                · rw [if_pos (show (Int32.ofNat (rkN b (W i).2 2)) ≤ (0 : Int32) from (i32_le (m := 0) (by omega) (by omega)).mpr (by omega))]
                  rw [s3, if_neg (by simp [k6]; omega)] at fin
                  exact fin
              · rw [kM_ifF 3 2 rfl (by decide) k3]
                rw [s3, if_neg (by simp [k6, k3])] at fin
                exact fin
          · rw [if_pos rfl]
            rw [s1] at er
            exact q_ex (Or.inl ⟨I2, i, W i, st, Or.inr rfl, hF2', er.symm⟩)
        unfold f_X12_operator
        rw [gr_4561_20 hR, ga_4579 (by omega), w1]
        by_cases k3 : (W i).1 = 3
        · have hp : (W i).2 < 16 := by
            rcases w4 with v | v | v | v <;> omega
          have n1' : nwd (W i) = 1 := by unfold nwd; rw [k3]; rfl
          rw [kM_ifT 3 2 rfl k3, gr_4561_21 hR, ga_4580 (by omega), w2, if_pos ok_4561, show wvI (W i) = (Int32.ofNat (sgc (W i).2)) by unfold wvI; rw [if_pos k3]]
          obtain ⟨_, e1, I2, x, rfl, hF2, hx⟩ := M_signB (J := J) (k := i) hR hM1 hT hS hA hL qf hp (by omega) (by omega)
          have sA : stA b (W i) st = stS b (W i).2 st := by
            unfold stA
            rw [if_neg qw, if_pos k3]
          rw [e1, Option.bind_some]
          have ex : (xz x).bind (fun b41 => some (b41, mg 4625 I2 J R)) = some (x, mg 4625 I2 J R) := by
            rcases hx with ⟨_, _, rfl, _⟩ | ⟨_, rfl⟩ <;> rfl
          dsimp only
          rw [ex, Option.bind_some]
          refine out I2 x hF2 ?_
          rw [sA]
          rcases hx with ⟨st', a1, a2, a3, a4⟩ | ⟨a1, a2⟩
          · exact Or.inl ⟨st', a1, a2, a3, by rw [a4, k3]; simp⟩
          · exact Or.inr ⟨a1, a2⟩
        · rw [kM_ifF 3 2 rfl (by decide) k3, gr_4561_20 hR, ga_4579 (by omega), w1]
          have clo : ∀ cm : Bool, (W i).1 = (if cm = true then 6 else 5) → ∃ I2 x, f_X12_operator_j44 (mg 4625 I1 J R) 4561 (Int32.ofNat (i)) = some (x, mg 4625 I2 J R) ∧ FrK SMp I1 I2 ∧ ((∃ st', stA b (W i) st = some st' ∧ x = 1 ∧ MH3 I2 b st'.1 st'.2.1 st'.2.2.1 ∧ st'.2.2.2 = decide ((W i).1 = 6 ∨ ((W i).1 = 3 ∧ 0 < rkN b (W i).2 2))) ∨ (stA b (W i) st = none ∧ x = 0)) := by
            intro cm hcm
            obtain ⟨_, e1, I2, x, rfl, hF2, hx⟩ := M_closing (J := J) (k := i) (cm := cm) hR hT hW1 qi hcm hS hA qf (by omega) (by omega)
            have sA : stA b (W i) st = clS cm (red 0 st.1 st.2.1 st.2.2.1) := by
              unfold stA
              cases cm with
              | true =>
                rw [if_pos rfl] at hcm
                rw [if_neg qw, if_neg k3, if_neg (by omega), if_pos hcm]
              | false =>
                rw [if_neg (by decide)] at hcm
                rw [if_neg qw, if_neg k3, if_pos hcm]
            refine ⟨I2, x, e1, hF2, ?_⟩
            rw [sA]
            rcases hx with ⟨st', a1, a2, a3, a4⟩ | ⟨a1, a2⟩
            · refine Or.inl ⟨st', a1, a2, a3, ?_⟩
              rw [a4]
              cases cm with
              | true =>
                rw [if_pos rfl] at hcm
                simp [hcm]
              | false =>
                rw [if_neg (by decide)] at hcm
                simp [hcm]
            · exact Or.inr ⟨a1, a2⟩
          by_cases k5 : (W i).1 = 5
          · obtain ⟨I2, x, e1, hF2, hx⟩ := clo false (by rw [if_neg (by decide)]; exact k5)
            rw [kM_ifT 5 4 rfl k5, e1, Option.bind_some]
            exact out I2 x hF2 hx
          · rw [kM_ifF 5 4 rfl (by decide) k5, gr_4561_20 hR, ga_4579 (by omega), w1]
            by_cases k6 : (W i).1 = 6
            · obtain ⟨I2, x, e1, hF2, hx⟩ := clo true (by rw [if_pos rfl]; exact k6)
              rw [kM_ifT 6 5 rfl k6, e1, Option.bind_some]
              exact out I2 x hF2 hx
            · rw [kM_ifF 6 5 rfl (by decide) k6, Option.bind_some]
              refine out I1 0 FrK_rfl (Or.inr ⟨?_, rfl⟩)
              unfold stA
              rw [if_neg qw, if_neg k3, if_neg k5, if_neg k6]
    · rw [if_pos (show (Int32.ofNat (m)) ≤ (Int32.ofNat (i)) from (i32_le (by omega) (by omega)).mpr (by omega))]
      rw [n3 (by omega)] at er c1 c2
      exact q_ex (Or.inr ⟨I1, st, rfl, hF, hS, hA, by have : ([] : List Wi).length = 0 := rfl; omega, by have : nws ([] : List Wi) = 0 := rfl; omega, er.symm⟩)
  · rintro r (⟨I1, i, w, st, hr, hF, rfl⟩ | ⟨I1, st, rfl, hF, hS, hA, c1, c2, rfl⟩)
    · have : QK (some ((Int32.ofNat (i)), mg 4625 I1 J R)) (fun r => ∃ I', r = (resM m (Sum.inl ((i, w), st)), mg 4625 I' J R) ∧ FrK SMp I I' ∧ ∀ ln, acc (Sum.inl ((i, w), st)) = some ln → ∃ bs, bs.length = 1 ∧ MH3 I' b [] bs ln) := q_ok ⟨I1, rfl, hF, fun ln e => by cases e⟩
      rcases hr with rfl | rfl
      · simp only [Sum.elim_inr, Sum.elim_inl]
        exact this
      · simp only [Sum.elim_inr, Sum.elim_inl]
        exact this
    · simp only [Sum.elim_inr]
      obtain ⟨H, bs, ln, wt⟩ := st
      dsimp only at hS c1 c2 ⊢
      unfold f_X12_parse_j175 f_X12_parse_j204
      have hW1 : MWd I1 m W P g := MWd_keep hW (fun a k y => hF a k (by unfold SMp; omega))
      cases wt with
      | true =>
        rw [if_pos rfl, if_neg (show ¬ (1 : Int32) = 0 by decide), gi_4561, hW1.2.1]
        exact q_ok ⟨I1, rfl, hF, fun ln e => by cases e⟩
      | false =>
        have hB := hA.2
        unfold Bal at hB
        dsimp only at hB
        rw [if_neg (by decide)] at hB
        rw [if_neg (show ¬ false = true by decide), if_pos rfl, if_pos ok_4561]
        obtain ⟨k1, k2, k3, k4, -⟩ := red_keep (b := b) (least := 0) H bs ln hA.1 hB
        obtain ⟨_, e1, I2, rfl, hF2, hh2⟩ := M_reduce (J := J) hR hS hA.1 hB (by omega) c2 (least := 0) (by decide) hT
        have hF2' : FrK SMp I I2 := fun a j y => (hF2 a j y).trans (hF a j y)
        have hW2 : MWd I2 m W P g := MWd_keep hW (fun a k y => hF2' a k (by unfold SMp; omega))
        rw [show f_X12_reduce (mg 4625 I1 J R) 4561 0 = _ from e1, Option.bind_some]
        have ac : acc (.inr (H, bs, ln, false)) = (match red 0 H bs ln with
          | ([], _, ln) => some ln
          | _ => none) := rfl
        unfold resM
        dsimp only
        rw [ac]
        generalize red 0 H bs ln = r at hh2 k1 k2 k3 k4 ⊢
        obtain ⟨rH, rb, rl⟩ := r
        dsimp only at hh2 k1 k2 k3 k4 ⊢
        rw [gi_4561, hh2.2.1]
        rcases rH with _ | ⟨h, hs⟩
        · rw [if_pos (show (Int32.ofNat (([] : List Hd).length)) ≤ (0 : Int32) by decide)]
          refine q_ok ⟨I2, rfl, hF2', fun ln' e => ?_⟩
          cases e
          exact ⟨rb, k2, hh2⟩
        · rw [List.length_cons] at k3
          rw [List.length_cons, if_neg (show ¬ (Int32.ofNat (hs.length + 1)) ≤ (0 : Int32) from fun y => absurd ((i32_le (m := 0) (by omega) (by omega)).mp y) (by omega)), gi_4561, hW2.2.1]
          exact q_ok ⟨I2, rfl, hF2', fun ln' e => by cases e⟩
end RQ
