/-! the class reads by stacks -/
theorem run_cons (b : GB) (w : Wi) (ws : List Wi) (st : PS) : run b (w :: ws) st = if isCl w st ws = true then run b (ws.drop 1) (stF w.2.2 st) else match stA b w.2 st with
    | none => .inl (w, st)
    | some st' => run b ws st' := by
  cases ws with
  | nil => rfl
  | cons w' ws => rfl
def resC (P : Nat → Nat) (len : Nat) (r : Wi × PS ⊕ PS) : Int32 := match r with
  | .inl (w, st) => (Int32.ofNat (flt P w st))
  | .inr _ => if (acc r).isSome = true then -1 else (Int32.ofNat (len))
theorem nws_pos {w : Wi} {ws : List Wi} : nws (w :: ws) = nwd w.2 + nws ws := rfl
section RG
variable {I : Nat → Nat → Int32} {J : Nat → Nat → Int64} {R : Nat → Nat → Option Nat} {b : GB} {β : Type} {m len : Nat} {W : Nat → Wd} {P : Nat → Nat} {g : Nat → Bool}
theorem vis_nws {k : Nat} : ∀ d k, nws (vis W g d k) ≤ nws (vis W (fun _ => false) d k) := by
  intro d
  induction d with
  | zero => intro k; exact Nat.le_refl _
  | succ d ih =>
    intro k
    rw [vis_c, vis_c, if_neg (show ¬ false = true by decide)]
    by_cases q : g k = true
    · rw [if_pos q, nws_pos]
      have := ih (k + 1)
      omega
    · rw [if_neg q, nws_pos, nws_pos]
      have := ih (k + 1)
      omega
theorem vis_len : ∀ d k, (vis W g d k).length ≤ d := by
  intro d
  induction d with
  | zero => intro k; exact Nat.le_refl _
  | succ d ih =>
    intro k
    rw [vis_c]
    have := ih (k + 1)
    split
    · omega
    · rw [List.length_cons]
      omega
theorem C_byStacks (hR : RA R) (hC : CTb I b) (hT : TbOK b) (hW : CWd I m W P g) (h6 : I 540 6 = (Int32.ofNat (len))) (hn : nws (vis W g m 0) ≤ 80) : QK (f_X6_byStacks (mg (4562 + zn J) I J R) 540) (fun r => ∃ I', r = (resC P len (run b (vis W g m 0) st0), mg (4562 + zn J) I' J R) ∧ FrK SRd I I' ∧ ∀ ln, acc (run b (vis W g m 0) st0) = some ln → ln.length ≤ 80 ∧ CN I' 551 ln.length (lnF ln)) := by
  have hm := hW.1
  unfold f_X6_byStacks
  rw [gs_540, gs_540, gs_540, gsz_540 rfl, gr_540_17 hR, if_pos (bT_xk isTr_551)]
  refine q_bind (T_clear (nd := lnF []) isTr_551) ?_
  rintro _ ⟨I0, rfl, hF0, hN0⟩
  have f0 : ∀ a k, ¬ SRd a k → I0 a k = I a k := fun a k y => by
    unfold SRd at y
    rw [hF0 a (by omega), up_n (by omega), up_n (by omega), up_n (by omega), up_n (by omega)]
  have z7 : I0 540 7 = (Int32.ofNat (0)) := by
    rw [hF0 540 (by omega), up_n (by omega), up_n (by omega), up_n (by omega), up_s]
    rfl
  have s0 : CPS I0 st0 := by
    refine ⟨⟨trivial, ?_, trivial, ?_, hN0⟩, ?_⟩
    · rw [hF0 540 (by omega), up_n (by omega), up_n (by omega), up_s]
      rfl
    · rw [hF0 540 (by omega), up_n (by omega), up_s]
      rfl
    · rw [hF0 540 (by omega), up_s]
      rfl
  rw [q_let]
  -- how it ends
  have fin : ∀ I1 st, FrK SRd I I1 → CPS I1 st → wal st b → st.1.length + st.2.1.length ≤ 300 → st.2.2.1.length + wgt st.1 ≤ 80 → run b (vis W g m 0) st0 = .inr st → QK (f_X6_byStacks_j154 (mg (4562 + zn J) I1 J R) 540) (fun r => ∃ I', r = (resC P len (run b (vis W g m 0) st0), mg (4562 + zn J) I' J R) ∧ FrK SRd I I' ∧ ∀ ln, acc (run b (vis W g m 0) st0) = some ln → ln.length ≤ 80 ∧ CN I' 551 ln.length (lnF ln)) := by
    intro I1 st hF hS hA c1 c2 er
    obtain ⟨H, bs, ln, wt⟩ := st
    dsimp only at c1 c2
    obtain ⟨hh, h8⟩ := hS
    dsimp only at hh h8
    rw [er]
    unfold f_X6_byStacks_j154 f_X6_byStacks_j173 f_X6_byStacks_j181
    rw [if_pos ok_540]
    obtain ⟨_, e1, I2, rfl, hF2, hh2⟩ := C_reduce hR hh hA.1 c1 c2 (least := 0) (by first | decide | omega) hT
    have f2 : ∀ a k, ¬ SRd a k → I2 a k = I a k := fun a k y => by
      rw [hF2 a k (fun z => y (by unfold SH at z; unfold SRd; omega))]
      exact hF a k y
    rw [show f_X6_reduce (mg (4562 + zn J) I1 J R) 540 0 = _ from e1, Option.bind_some, gi_540, hF2 540 8 (by unfold SH; omega), h8]
    cases wt with
    | true =>
      rw [if_pos rfl, if_neg (by first | decide | omega), gi_540, f2 540 6 (by unfold SRd; omega), h6]
      exact q_ok ⟨I2, rfl, f2, fun ln e => by cases e⟩
    | false =>
      rw [if_neg (show ¬ false = true by decide), if_pos rfl, gi_540, hh2.2.1]
      have ac : acc (.inr (H, bs, ln, false)) = (match red 0 H bs ln with
        | ([], _, ln) => some ln
        | _ => none) := rfl
      have hB := hA.2
      unfold Bal at hB
      dsimp only at hB
      rw [if_neg (by first | decide | omega)] at hB
      obtain ⟨k1, k2, k3, k4, -⟩ := red_keep (b := b) (least := 0) H bs ln hA.1 hB
      unfold resC
      dsimp only
      rw [ac]
      generalize red 0 H bs ln = r at hh2 k1 k2 k3 k4 ⊢
      obtain ⟨rH, rb, rl⟩ := r
      dsimp only at hh2 k1 k2 k3 k4 ⊢
      rcases rH with _ | ⟨h, hs⟩
      · rw [if_pos (show (Int32.ofNat (([] : List Hd).length)) ≤ (0 : Int32) by decide)]
        refine q_ok ⟨I2, rfl, f2, fun ln' e => ?_⟩
        cases e
        exact ⟨by rw [show wgt [] = 0 from rfl] at k4; omega, hh2.2.2.2.2⟩
      · rw [List.length_cons] at k3
        rw [List.length_cons, if_neg (show ¬ (Int32.ofNat (hs.length + 1)) ≤ (0 : Int32) from fun y => absurd ((i32_le (m := 0) (by omega) (by omega)).mp y) (by omega)), gi_540, f2 540 6 (by unfold SRd; omega), h6]
        exact q_ok ⟨I2, rfl, f2, fun ln' e => by cases e⟩
  refine q_bind (P := fun r => (∃ I1 st, (r = .inr (.inl (540, mg (4562 + zn J) I1 J R)) ∨ r = .inr (.inr (.inr (540, mg (4562 + zn J) I1 J R)))) ∧ FrK SRd I I1 ∧ CPS I1 st ∧ wal st b ∧ st.1.length + st.2.1.length ≤ 300 ∧ st.2.2.1.length + wgt st.1 ≤ 80 ∧ run b (vis W g m 0) st0 = .inr st) ∨ (∃ I1 i st, r = .inr (.inr (.inl (540, (Int32.ofNat (i)), mg (4562 + zn J) I1 J R))) ∧ FrK SRd I I1 ∧ i < m ∧ I1 540 8 = (if st.2.2.2 = true then 1 else 0) ∧ run b (vis W g m 0) st0 = .inl ((i, W i), st))) ?_ ?_
  · refine q_loop (fun n s => ∃ I1 k t st, s = (540, (Int32.ofNat (t)), mg (4562 + zn J) I1 J R) ∧ k + n = m ∧ t ≤ k ∧ FrK SRd I I1 ∧ I1 540 7 = (Int32.ofNat (k)) ∧ CPS I1 st ∧ wal st b ∧ BO st.2.1 ∧ Cap st (vis W g (m - k) k) ∧ run b (vis W g (m - k) k) st = run b (vis W g m 0) st0) ?_ (m := m) ⟨I0, 0, 0, st0, rfl, by omega, Nat.le_refl _, f0, z7, s0, ⟨trivial, rfl⟩, fun o ho => (by cases ho), ⟨by have := vis_len (W := W) (g := g) m 0; show 0 + 0 + (vis W g m 0).length ≤ 300; omega, by show 0 + 0 + nws (vis W g m 0) ≤ 80; omega⟩, rfl⟩ (by unfold xF; omega)
    rintro n s ⟨I1, k, t, st, rfl, hk, ht, hF, h7, hS, hA, hBO, ⟨c1, c2⟩, er⟩
    have hW1 : CWd I1 m W P g := CWd_keep hW (fun a k y => hF a k (by unfold SRd; omega))
    have hC1 : CTb I1 b := CTb_keep hC (fun x hx => funext (fun k => hF x k (by unfold SRd; omega)))
    obtain ⟨n1, n2, n3, n4⟩ := nxg_ok (W := W) (g := g) (m := m) (m - k) k (by omega)
    unfold f_X6_byStacks_s29
    dsimp only
    rw [q_let, q_let, q_let, gi_540, hW1.2.1]
    by_cases qt : m ≤ t
    · rw [if_pos (show (Int32.ofNat (m)) ≤ (Int32.ofNat (t)) from (i32_le (by omega) (by omega)).mpr qt)]
      rw [show m - k = 0 by omega] at er c1 c2
      exact q_ex (Or.inl ⟨I1, st, Or.inr rfl, hF, hS, hA, by have : (vis W g 0 k).length = 0 := rfl; omega, by have : nws (vis W g 0 k) = 0 := rfl; omega, er.symm⟩)
    · rw [if_neg (show ¬ (Int32.ofNat (m)) ≤ (Int32.ofNat (t)) from fun y => absurd ((i32_le (by omega) (by omega)).mp y) (by omega)), if_pos ok_540, C_next hR hW1 h7 (by omega), gi_540, hW1.2.1]
      generalize hi : nxg g (m - k) k = i at n1 n2 n3 n4 ⊢
      by_cases qi : i < m
      · obtain ⟨g1, g2⟩ := n4 qi
        rw [if_pos (show (Int32.ofNat (i)) < (Int32.ofNat (m)) from (i32_lt (by omega) (by omega)).mpr qi), show (Int32.ofNat (i)) + 1 = (Int32.ofNat (i + 1)) from n_add i 1, gs_540, gi_540, up_n (by omega), hS.2]
        rw [g2] at er c1 c2
        rw [List.length_cons] at c1
        rw [nws_pos] at c2
        rw [run_cons] at er
        obtain ⟨w1, w2, w3, w4⟩ := CWd_v hW1 qi
        have hS' : CPS (up I1 540 7 (Int32.ofNat (i + 1))) st := ⟨CH3_keep hS.1 (fun a k y => up_n (by omega)), (up_n (by omega)).trans hS.2⟩
        have hW' : CWd (up I1 540 7 (Int32.ofNat (i + 1))) m W P g := CWd_keep hW1 (fun a k y => up_n (by omega))
        have hC' : CTb (up I1 540 7 (Int32.ofNat (i + 1))) b := CTb_keep hC1 (fun x hx => up_r (by omega))
        have l8 : (W i).1 ≤ 8 := by
          rcases w4 with v | v | v | v <;> omega
        have fr : ∀ I2, FrK SRd (up I1 540 7 (Int32.ofNat (i + 1))) I2 → FrK SRd I I2 := fun I2 h a j y => by
          rw [h a j y, up_n (by unfold SRd at y; omega)]
          exact hF a j y
        -- a word that is taken
        have go : ∀ I2 st' k', FrK SRd I I2 → CPS I2 st' → I2 540 7 = (Int32.ofNat (k')) → i < k' → k' ≤ m → wal st' b → BO st'.2.1 → Cap st' (vis W g (m - k') k') → run b (vis W g (m - k') k') st' = run b (vis W g m 0) st0 → ∃ m', m' < n ∧ ∃ I1 k t' st, ((540 : Nat), (Int32.ofNat (t + 1)), mg (4562 + zn J) I2 J R) = (540, (Int32.ofNat (t')), mg (4562 + zn J) I1 J R) ∧ k + m' = m ∧ t' ≤ k ∧ FrK SRd I I1 ∧ I1 540 7 = (Int32.ofNat (k)) ∧ CPS I1 st ∧ wal st b ∧ BO st.2.1 ∧ Cap st (vis W g (m - k) k) ∧ run b (vis W g (m - k) k) st = run b (vis W g m 0) st0 := fun I2 st' k' a1 a2 a3 a4 a5 a6 a7 a8 a9 => ⟨m - k', by omega, I2, k', t + 1, st', rfl, by omega, by omega, a1, a3, a2, a6, a7, a8, a9⟩
        have out : ∀ (I2 : Nat → Nat → Int32) (x : Int32), FrK SRd I I2 → (isCl (i, W i) st (vis W g (m - (i + 1)) (i + 1)) = false) → ((∃ st', stA b (W i) st = some st' ∧ x = 1 ∧ CPS I2 st' ∧ I2 540 7 = (Int32.ofNat (i + 1))) ∨ (stA b (W i) st = none ∧ x = 0 ∧ I2 540 8 = I1 540 8)) → QK (f_X6_byStacks_j110 (mg (4562 + zn J) I2 J R) 540 (Int32.ofNat (t)) (Int32.ofNat (i)) x) (qS (fun s' => ∃ m', m' < n ∧ ∃ I1 k t st, s' = (540, (Int32.ofNat (t)), mg (4562 + zn J) I1 J R) ∧ k + m' = m ∧ t ≤ k ∧ FrK SRd I I1 ∧ I1 540 7 = (Int32.ofNat (k)) ∧ CPS I1 st ∧ wal st b ∧ BO st.2.1 ∧ Cap st (vis W g (m - k) k) ∧ run b (vis W g (m - k) k) st = run b (vis W g m 0) st0) (fun r => (∃ I1 st, (r = .inr (.inl (540, mg (4562 + zn J) I1 J R)) ∨ r = .inr (.inr (.inr (540, mg (4562 + zn J) I1 J R)))) ∧ FrK SRd I I1 ∧ CPS I1 st ∧ wal st b ∧ st.1.length + st.2.1.length ≤ 300 ∧ st.2.2.1.length + wgt st.1 ≤ 80 ∧ run b (vis W g m 0) st0 = .inr st) ∨ (∃ I1 i st, r = .inr (.inr (.inl (540, (Int32.ofNat (i)), mg (4562 + zn J) I1 J R))) ∧ FrK SRd I I1 ∧ i < m ∧ I1 540 8 = (if st.2.2.2 = true then 1 else 0) ∧ run b (vis W g m 0) st0 = .inl ((i, W i), st)))) := by
          intro I2 x hF2 hic hx
          rw [if_neg (by rw [hic]; decide)] at er
          unfold f_X6_byStacks_j110
          rcases hx with ⟨st', e1, rfl, hS2, h72⟩ | ⟨e1, rfl, e8⟩
          · rw [if_neg (by first | decide | omega), q_let, show (Int32.ofNat (t)) + 1 = (Int32.ofNat (t + 1)) from n_add t 1]
            dsimp only at er
            rw [e1] at er
            obtain ⟨b1, b2, b3⟩ := stA_keep hA w4 e1
            dsimp only at c1 c2
            exact q_go (go I2 st' (i + 1) hF2 hS2 h72 (by omega) (by omega) b1 (stA_BO hT hA.1 hBO e1) ⟨by omega, by omega⟩ er)
          · rw [if_pos rfl]
            dsimp only at er
            rw [e1] at er
            exact q_ex (Or.inr ⟨I2, i, st, rfl, hF2, qi, e8.trans hS.2, er.symm⟩)
        by_cases qw : st.2.2.2 = true
        · rw [if_pos qw, if_neg (show ¬ (1 : Int32) = 0 by decide), if_pos ok_540]
          have sA : stA b (W i) st = stO b (W i) st := by
            unfold stA
            rw [if_pos qw]
          obtain ⟨_, e1, I2, x, rfl, hF2, hx⟩ := C_takeOperand (J := J) (st := st) (k := i) hR hC' hT hW' hS' qw qi up_s (by omega) (by dsimp only at c2; omega)
          rw [e1, Option.bind_some]
          rcases hx with ⟨ic, rfl, hS2, h72⟩ | ⟨ic, hx⟩
          · rw [if_pos ic] at er
            obtain ⟨o1, o2, o3, o4⟩ := nxg_ok (W := W) (g := g) (m := m) (m - (i + 1)) (i + 1) (by omega)
            generalize nxg g (m - (i + 1)) (i + 1) = j at o1 o2 o3 o4 h72
            by_cases qj : j < m
            · rw [(o4 qj).2] at er ic c1 c2
              have wk1 : (W i).1 = 1 := by
                unfold isCl at ic
                simp at ic
                exact ic.1.2
              have hv : ∃ l, l < 26 ∧ (W i).2 = 97 + l := by
                rcases w4 with v | v | v | v
                · omega
                · exact v.2
                · omega
                · omega
              obtain ⟨b1, b2, b3⟩ := stF_keep hA hv qw
              unfold f_X6_byStacks_j110
              rw [if_neg (show ¬ (1 : Int32) = 0 by decide), q_let, show (Int32.ofNat (t)) + 1 = (Int32.ofNat (t + 1)) from n_add t 1]
              rw [List.length_cons] at c1
              rw [nws_pos] at c2
              have n1' : nwd (W i) = 1 := by unfold nwd; rw [wk1]; rfl
              exact q_go (go I2 _ (j + 1) (fr I2 hF2) hS2 h72 (by omega) (by omega) b1 hBO ⟨by omega, by dsimp only at c2; omega⟩ er)
            · rw [o3 (by omega)] at ic
              exact absurd ic (show ¬ false = true by decide)
          · refine out I2 x (fr I2 hF2) ic ?_
            rw [sA]
            rcases hx with ⟨st', a1, a2, a3, a4⟩ | ⟨a1, a2, a3⟩
            · exact Or.inl ⟨st', a1, a2, a3, a4⟩
            · exact Or.inr ⟨a1, a2, a3.trans (up_n (by omega))⟩
        · have qf : st.2.2.2 = false := by simpa using qw
          have ic : isCl (i, W i) st (vis W g (m - (i + 1)) (i + 1)) = false := by
            unfold isCl
            split
            · rfl
            · rw [qf]
              rfl
          rw [if_neg qw, if_pos rfl, gr_540_1 hR, ga_541 (by omega), up_n (by omega), w1]
          unfold f_X6_byStacks_j109
          by_cases k3 : (W i).1 = 3
          · have hp : (W i).2 < 16 := by
              rcases w4 with v | v | v | v <;> omega
            have hv : wvI (W i) = (Int32.ofNat (sgc (W i).2)) := by unfold wvI; rw [if_pos k3]
            have sA : stA b (W i) st = stS b (W i).2 st := by
              unfold stA
              rw [if_neg qw, if_pos k3]
            have n1' : nwd (W i) = 1 := by unfold nwd; rw [k3]; rfl
            dsimp only at c2
            obtain ⟨_, e1, I2, x, rfl, hF2, hx⟩ := C_takeSign (J := J) hR hC' hT hS' hA hBO qf hp (by omega) (by omega)
            rw [k3, if_pos (show (Int32.ofNat (3)) = (3 : Int32) from rfl), gr_540_2 hR, ga_542 (by omega), up_n (by omega), w2, hv, if_pos ok_540, e1, Option.bind_some]
            refine out I2 x (fr I2 (FrK_mono hF2 (fun a j y => by unfold SRd; omega))) ic ?_
            rw [sA]
            rcases hx with ⟨st', a1, a2, a3⟩ | ⟨a1, a2, a3⟩
            · exact Or.inl ⟨st', a1, a2, a3, (hF2 _ _ (by omega)).trans up_s⟩
            · exact Or.inr ⟨a1, a2, a3.trans (up_n (by omega))⟩
          · rw [if_neg (show ¬ (Int32.ofNat ((W i).1)) = (3 : Int32) from i32_ne (b := 3) (by omega) (by omega) k3), gr_540_1 hR, ga_541 (by omega), up_n (by omega), w1, if_pos ok_540]
            unfold f_X6_takeClosing
            have clo : ∀ cm : Bool, (W i).1 = (if cm = true then 6 else 5) → QK ((f_X6_takeClosing_j13 (mg (4562 + zn J) (up I1 540 7 (Int32.ofNat (i + 1))) J R) 540 (if cm = true then 6 else 5)).bind (fun p17 => f_X6_byStacks_j110 p17.2 540 (Int32.ofNat (t)) (Int32.ofNat (i)) p17.1)) (qS (fun s' => ∃ m', m' < n ∧ ∃ I1 k t st, s' = (540, (Int32.ofNat (t)), mg (4562 + zn J) I1 J R) ∧ k + m' = m ∧ t ≤ k ∧ FrK SRd I I1 ∧ I1 540 7 = (Int32.ofNat (k)) ∧ CPS I1 st ∧ wal st b ∧ BO st.2.1 ∧ Cap st (vis W g (m - k) k) ∧ run b (vis W g (m - k) k) st = run b (vis W g m 0) st0) (fun r => (∃ I1 st, (r = .inr (.inl (540, mg (4562 + zn J) I1 J R)) ∨ r = .inr (.inr (.inr (540, mg (4562 + zn J) I1 J R)))) ∧ FrK SRd I I1 ∧ CPS I1 st ∧ wal st b ∧ st.1.length + st.2.1.length ≤ 300 ∧ st.2.2.1.length + wgt st.1 ≤ 80 ∧ run b (vis W g m 0) st0 = .inr st) ∨ (∃ I1 i st, r = .inr (.inr (.inl (540, (Int32.ofNat (i)), mg (4562 + zn J) I1 J R))) ∧ FrK SRd I I1 ∧ i < m ∧ I1 540 8 = (if st.2.2.2 = true then 1 else 0) ∧ run b (vis W g m 0) st0 = .inl ((i, W i), st)))) := by
              intro cm hcm
              obtain ⟨_, e1, I2, x, rfl, hF2, hx⟩ := C_closing (J := J) (cm := cm) hR hT hS' hA qf (by omega) (by dsimp only at c2; omega)
              have sA : stA b (W i) st = clS cm (red 0 st.1 st.2.1 st.2.2.1) := by
                unfold stA
                cases cm with
                | true =>
                  rw [if_pos rfl] at hcm
                  rw [if_neg qw, if_neg k3, if_neg (by omega), if_pos hcm]
                | false =>
                  rw [if_neg (by first | decide | omega)] at hcm
                  rw [if_neg qw, if_neg k3, if_pos hcm]
              rw [e1, Option.bind_some]
              refine out I2 x (fr I2 (FrK_mono hF2 (fun a j y => by unfold SRd; omega))) ic ?_
              rw [sA]
              rcases hx with ⟨st', a1, a2, a3⟩ | ⟨a1, a2, a3⟩
              · exact Or.inl ⟨st', a1, a2, a3, (hF2 _ _ (by omega)).trans up_s⟩
              · exact Or.inr ⟨a1, a2, a3.trans (up_n (by omega))⟩
            by_cases k5 : (W i).1 = 5
            · rw [k5, if_pos (show (Int32.ofNat (5)) = (5 : Int32) from rfl)]
              exact clo false (by rw [if_neg (by first | decide | omega)]; exact k5)
            · rw [if_neg (show ¬ (Int32.ofNat ((W i).1)) = (5 : Int32) from i32_ne (b := 5) (by omega) (by omega) k5)]
              by_cases k6 : (W i).1 = 6
              · rw [k6, if_pos (show (Int32.ofNat (6)) = (6 : Int32) from rfl)]
                exact clo true (by rw [if_pos rfl]; exact k6)
              · rw [if_neg (show ¬ (Int32.ofNat ((W i).1)) = (6 : Int32) from i32_ne (b := 6) (by omega) (by omega) k6), Option.bind_some]
                refine out _ 0 (fr _ FrK_rfl) ic (Or.inr ⟨?_, rfl, up_n (by omega)⟩)
                unfold stA
                rw [if_neg qw, if_neg k3, if_neg k5, if_neg k6]
      · rw [if_neg (show ¬ (Int32.ofNat (i)) < (Int32.ofNat (m)) from fun y => absurd ((i32_lt (by omega) (by omega)).mp y) qi)]
        have e0 := n3 (by omega)
        rw [e0] at er c1 c2
        exact q_ex (Or.inl ⟨I1, st, Or.inl rfl, hF, hS, hA, by have : ([] : List Wi).length = 0 := rfl; omega, by have : nws ([] : List Wi) = 0 := rfl; omega, er.symm⟩)
  · rintro r (⟨I1, st, hr, hF, hS, hA, c1, c2, er⟩ | ⟨I1, i, st, rfl, hF, hi, h8, er⟩)
    · have := fin I1 st hF hS hA c1 c2 er
      rcases hr with rfl | rfl
      · simp only [Sum.elim_inr, Sum.elim_inl]
        unfold f_X6_byStacks_j50
        exact this
      · simp only [Sum.elim_inr]
        exact this
    · simp only [Sum.elim_inr, Sum.elim_inl]
      have hW1 : CWd I1 m W P g := CWd_keep hW (fun a k y => hF a k (by unfold SRd; omega))
      obtain ⟨w1, w2, w3, w4⟩ := CWd_v hW1 hi
      have l8 : (W i).1 ≤ 8 := by
        rcases w4 with v | v | v | v <;> omega
      unfold f_X6_byStacks_j114 f_X6_byStacks_j141 f_X6_byStacks_j147
      rw [gi_540, h8, er]
      unfold resC flt
      dsimp only
      have oth : ∀ x : Nat, x = P i → QK (some ((Int32.ofNat (P i)), mg (4562 + zn J) I1 J R)) (fun r => ∃ I', r = ((Int32.ofNat (x)), mg (4562 + zn J) I' J R) ∧ FrK SRd I I' ∧ ∀ ln, acc (.inl ((i, W i), st)) = some ln → ln.length ≤ 80 ∧ CN I' 551 ln.length (lnF ln)) := by
        rintro x rfl
        exact q_ok ⟨I1, rfl, hF, fun ln e => by cases e⟩
      by_cases qw : st.2.2.2 = true
      · rw [if_pos qw, if_neg (by first | decide | omega), gr_540_1 hR, ga_541 (by omega), w1]
        by_cases q7 : (W i).1 = 7
        · rw [q7, if_pos (show (Int32.ofNat (7)) = (7 : Int32) from rfl), gr_540_2 hR, ga_542 (by omega), w2, if_pos ⟨qw, rfl⟩]
          unfold wvI
          rw [if_neg (by omega)]
          exact q_ok ⟨I1, rfl, hF, fun ln e => by cases e⟩
        · rw [if_neg (show ¬ (Int32.ofNat ((W i).1)) = (7 : Int32) from i32_ne (b := 7) (by omega) (by omega) q7), gr_540_3 hR, ga_543 (by omega), w3, if_neg (fun y => q7 y.2)]
          exact oth _ rfl
      · rw [if_neg qw, if_pos rfl, gr_540_3 hR, ga_543 (by omega), w3, if_neg (fun y => qw y.1)]
        exact oth _ rfl
end RG
