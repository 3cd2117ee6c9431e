/-! call: postfix -/
theorem numT_1 {v : Nat} (hv : v < 10) (l : List Nat) : numT v l = (48 + v) :: l := by
  unfold numT
  have e : tpv v 9 1 = 1 := by
    rw [tpv_c, if_neg (by rw [Nat.div_one]; omega)]
  rw [e, dpr_c, if_neg (by decide), show 1 / 10 = 0 from rfl, dpr_z, Nat.div_one, Nat.mod_eq_of_lt hv]
def vN (x : Nd) : Nat := x.2.1.toNatClampNeg
theorem NV_v {b : GB} {x : Nd} (h : NV b x) : x.2.1 = (Int32.ofNat (vN x)) ∧ vN x ≤ 999999999 ∧ (x.1 ≠ 0 → vN x < 128) ∧ x.2.2.2 ≤ 4 ∧ (x.1 = 0 ∨ x.1 = 1 ∨ x.1 = 2 ∨ x.1 = 3) ∧ (x.1 ≠ 3 → x.2.2.1 = -1) ∧ (x.1 = 2 → 1 ≤ x.2.2.2) := by
  have key : ∀ v, v ≤ 999999999 → x.2.1 = (Int32.ofNat (v)) → x.2.1 = (Int32.ofNat (vN x)) ∧ vN x = v := fun v hv e => by
    have : vN x = v := by
      unfold vN
      rw [e, i32_nat (by omega)]
    exact ⟨by rw [this]; exact e, this⟩
  rcases h with ⟨h1, ⟨v, hv, e⟩, h3, h4⟩ | ⟨h1, ⟨l, hl, e⟩, h3, h4⟩ | ⟨h1, ⟨l, hl, e⟩, h3, h4, h5⟩ | ⟨h1, p, fx, hp, hf, e, h3, h4, h5⟩
  · obtain ⟨k1, k2⟩ := key v hv e
    exact ⟨k1, by omega, fun z => absurd h1 z, by omega, Or.inl h1, fun _ => h3, fun z => by rw [h1] at z; exact absurd z (by decide)⟩
  · obtain ⟨k1, k2⟩ := key (97 + l) (by omega) e
    exact ⟨k1, by omega, fun _ => by omega, by omega, Or.inr (Or.inl h1), fun _ => h3, fun z => by rw [h1] at z; exact absurd z (by decide)⟩
  · obtain ⟨k1, k2⟩ := key (97 + l) (by omega) e
    exact ⟨k1, by omega, fun _ => by omega, h5, Or.inr (Or.inr (Or.inl h1)), fun _ => h3, fun _ => h4⟩
  · have sg := (sgc_ok p hp).1
    obtain ⟨k1, k2⟩ := key (sgc p) (by omega) e
    exact ⟨k1, by omega, fun _ => by omega, by rw [h4]; split <;> omega, Or.inr (Or.inr (Or.inr h1)), fun z => absurd h1 z, fun z => by rw [h1] at z; exact absurd z (by decide)⟩
def psN (x : Nd) (l : List Nat) : List Nat := if x.1 = 2 then (48 + x.2.2.2) :: (if x.1 = 0 then numT (vN x) l else vN x :: l) else if x.2.2.1 = 0 then 39 :: (if x.1 = 0 then numT (vN x) l else vN x :: l) else (if x.1 = 0 then numT (vN x) l else vN x :: l)
def psT (f : Nat → Nd) : Nat → List Nat
  | 0 => []
  | p + 1 => psN (f p) (if p = 0 then psT f p else 32 :: psT f p)
theorem psT_c (f : Nat → Nd) (p : Nat) : psT f (p + 1) = psN (f p) (if p = 0 then psT f p else 32 :: psT f p) := rfl
theorem numT_len (v : Nat) (l : List Nat) : (numT v l).length ≤ l.length + 10 := dpr_len v 10 _ l
theorem psN_len (x : Nd) (l : List Nat) : (psN x l).length ≤ l.length + 11 := by
  have h : (if x.1 = 0 then numT (vN x) l else vN x :: l).length ≤ l.length + 10 := by
    split
    · exact numT_len _ _
    · rw [List.length_cons]; omega
  unfold psN
  split
  · rw [List.length_cons]; omega
  · split
    · rw [List.length_cons]; omega
    · omega
theorem psT_len (f : Nat → Nd) : ∀ p, (psT f p).length ≤ 12 * p := by
  intro p
  induction p with
  | zero => exact Nat.le_refl _
  | succ p ih =>
    rw [psT_c]
    have := psN_len (f p) (if p = 0 then psT f p else 32 :: psT f p)
    have h2 : (if p = 0 then psT f p else 32 :: psT f p).length ≤ (psT f p).length + 1 := by
      split
      · omega
      · rw [List.length_cons]; omega
    omega
theorem pl_fun {n : Nat} {nd : Nat → Nd} {sp : Nat → Nat} (hw : WT n (aro nd) sp) : ∃ ln : Nat → Nd, ∀ x, x < n → ln (pl sp x) = nd x := by
  refine ⟨fun p => @dite _ (∃ x, x < n ∧ pl sp x = p) (Classical.propDecidable _) (fun h => nd h.choose) (fun _ => (0, 0, 0, 0)), fun x hx => ?_⟩
  have h : ∃ y, y < n ∧ pl sp y = pl sp x := ⟨x, hx, rfl⟩
  show @dite _ (∃ y, y < n ∧ pl sp y = pl sp x) (Classical.propDecidable _) (fun h => nd h.choose) (fun _ => (0, 0, 0, 0)) = nd x
  rw [dif_pos h]
  congr 1
  exact pl_inj hw h.choose_spec.1 hx h.choose_spec.2
section PF
variable {I : Nat → Nat → Int32} {J : Nat → Nat → Int64} {R : Nat → Nat → Option Nat} {t : GT} {s : GS} {b : GB} {n : GN} {f : GF} {v : GV} {q : Nat → GV} {p p' : GT} {r : GR} {h : GH} {β : Type}
theorem C_putValue {pr tx : Nat} {l : List Nat} {x : Nd} (hR : RA R) (h : isP pr tx) (hX : CX I pr tx l) (hl : l.length + 10 ≤ 1000) (hx : NV b x) : QK (f_X5_putValue (mg 4625 I J R) pr x.1 x.2.1) (fun r => ∃ I', r = mg 4625 I' J R ∧ FP pr tx I I' ∧ CX I' pr tx (if x.1 = 0 then numT (vN x) l else vN x :: l)) := by
  obtain ⟨x1, x2, x3, x4, x5, x6, x7⟩ := NV_v hx
  unfold f_X5_putValue f_X5_putValue_j17
  rw [x1]
  by_cases z : x.1 = 0
  · rw [if_pos z, if_pos (ok_P h), if_pos z]
    refine q_bind (C_putNumber hR h hX hl x2) ?_
    rintro _ ⟨I2, rfl, hF2, hX2⟩
    exact q_ok ⟨I2, rfl, hF2, hX2⟩
  · rw [if_neg z, if_pos (ok_P h), if_neg z]
    refine q_bind (C_put hR h hX (by omega) (by have := x3 z; omega)) ?_
    rintro _ ⟨I2, rfl, hF2, hF2', hX2⟩
    exact q_ok ⟨I2, rfl, ⟨hF2, hF2'⟩, hX2⟩
theorem C_line {a m : Nat} {nd ln : Nat → Nd} {sp : Nat → Nat} (hR : RA R) (hT : CT I a m nd sp) (ha : a + 8 ≤ 559) (hn : ∀ i, i < m → NV b (nd i)) (hln : ∀ x, x < m → ln (pl sp x) = nd x) : QK (f_X5_line (mg 4625 I J R) 559 a) (fun r => ∃ I', r = mg 4625 I' J R ∧ FP 559 562 I I' ∧ CX I' 559 562 (psT ln m)) := by
  have hP : isP 559 562 := Or.inl ⟨rfl, rfl⟩
  have n1 := CT_n hT
  have ht := hT.1.1
  unfold f_X5_line
  rw [gs_559, q_let]
  refine q_bind (P := fun r => ∃ I', r = .inr (mg 4625 I' J R) ∧ FP 559 562 I I' ∧ CX I' 559 562 (psT ln m)) ?_ ?_
  · refine q_for m (fun i st => ∃ I', st = (559, a, (Int32.ofNat (i)), mg 4625 I' J R) ∧ FP 559 562 I I' ∧ CX I' 559 562 (psT ln i)) ?_ ?_ (i := 0) ⟨_, rfl, ⟨FrS_up FrS_rfl (Or.inl rfl), fun k hk => up_n (Or.inr hk)⟩, up_s, Nat.zero_le _, fun k hk => absurd hk (Nat.not_lt_zero k)⟩ (by omega) (by unfold xF; omega)
    · rintro i st hi ⟨I1, rfl, hF, hX⟩
      have hT1 : CT I1 a m nd sp := CT_keep hT (fun x g1 g2 => hF.1 x (by omega))
      obtain ⟨x, hx, ex⟩ := pl_sur hT.2.1 hi
      have hv := hn x hx
      obtain ⟨x1, x2, x3, x4, x5, x6, x7⟩ := NV_v hv
      have pl1 := psT_len ln i
      unfold f_X5_line_s7
      dsimp only
      rw [q_let, q_let, q_let, q_let, bT_gI ht, hT1.1.2.1, if_neg (show ¬ (Int32.ofNat (m)) ≤ (Int32.ofNat (i)) from fun y => absurd ((i32_le (by omega) (by omega)).mp y) (by omega)), if_pos (bT_xk ht), T_nodeAt hR hT1 hx ex.symm, Option.bind_some]
      have j31 : ∀ I2 l, FP 559 562 I I2 → CX I2 559 562 l → l.length ≤ 12 * i + 1 → psT ln (i + 1) = psN (nd x) l → QK (f_X5_line_j31 (mg 4625 I2 J R) 559 a (Int32.ofNat (i)) (Int32.ofNat (x))) (qS (fun st => ∃ I', st = (559, a, (Int32.ofNat (i + 1)), mg 4625 I' J R) ∧ FP 559 562 I I' ∧ CX I' 559 562 (psT ln (i + 1))) (fun r => ∃ I', r = .inr (mg 4625 I' J R) ∧ FP 559 562 I I' ∧ CX I' 559 562 (psT ln m))) := by
        intro I2 l hF2 hX2 hl el
        have hT2 : CT I2 a m nd sp := CT_keep hT (fun x g1 g2 => hF2.1 x (by omega))
        obtain ⟨y1, y2, y3, y4, y5⟩ := hT2.1.2.2.2 x hx
        unfold f_X5_line_j31 f_X5_line_j85
        rw [bT_g0 ht hR, bT_aI ht (by omega), y1, bT_g1 ht hR, bT_aI ht (by omega), y2, if_pos ok_559]
        refine q_bind (C_putValue hR hP hX2 (by omega) hv) ?_
        rintro _ ⟨I3, rfl, hF3, hX3⟩
        have hF3' := FP_tr hF2 hF3
        have hT3 : CT I3 a m nd sp := CT_keep hT (fun x g1 g2 => hF3'.1 x (by omega))
        obtain ⟨z1, z2, z3, z4, z5⟩ := hT3.1.2.2.2 x hx
        have l3 : (if (nd x).1 = 0 then numT (vN (nd x)) l else vN (nd x) :: l).length ≤ l.length + 10 := by
          split
          · exact numT_len _ _
          · rw [List.length_cons]; omega
        rw [bT_g0 ht hR, bT_aI ht (by omega), z1]
        by_cases q2 : (nd x).1 = 2
        · rw [if_pos q2, bT_g3 ht hR, bT_aI ht (by omega), z4, if_pos ok_559]
          refine q_bind (C_putNumber hR hP hX3 (by omega) (by omega)) ?_
          rintro _ ⟨I4, rfl, hF4, hX4⟩
          rw [q_let, show (Int32.ofNat (i)) + 1 = (Int32.ofNat (i + 1)) from n_add i 1]
          refine q_go ⟨I4, rfl, FP_tr hF3' hF4, ?_⟩
          rw [el]
          unfold psN
          rw [if_pos q2, ← numT_1 (by omega)]
          exact hX4
        · rw [if_neg q2, bT_g2 ht hR, bT_aI ht (by omega), z3]
          by_cases q0 : (nd x).2.2.1 = 0
          · rw [if_pos q0, if_pos ok_559]
            refine q_bind (C_put (c := 39) hR hP hX3 (by omega) (by decide)) ?_
            rintro _ ⟨I4, rfl, hF4, hF4', hX4⟩
            rw [q_let, show (Int32.ofNat (i)) + 1 = (Int32.ofNat (i + 1)) from n_add i 1]
            refine q_go ⟨I4, rfl, FP_tr hF3' ⟨hF4, hF4'⟩, ?_⟩
            rw [el]
            unfold psN
            rw [if_neg q2, if_pos q0]
            exact hX4
          · rw [if_neg q0, q_let, show (Int32.ofNat (i)) + 1 = (Int32.ofNat (i + 1)) from n_add i 1]
            refine q_go ⟨I3, rfl, hF3', ?_⟩
            rw [el]
            unfold psN
            rw [if_neg q2, if_neg q0]
            exact hX3
      have el := psT_c ln i
      rw [← ex, hln x hx, ex] at el
      by_cases q0 : i = 0
      · rw [if_pos (show (Int32.ofNat (i)) ≤ (0 : Int32) from (i32_le (m := 0) (by omega) (by omega)).mpr (by omega))]
        rw [if_pos q0] at el
        exact j31 I1 _ hF hX (by omega) el
      · rw [if_neg (show ¬ (Int32.ofNat (i)) ≤ (0 : Int32) from fun y => absurd ((i32_le (m := 0) (by omega) (by omega)).mp y) (by omega)), if_pos ok_559]
        rw [if_neg q0] at el
        refine q_bind (C_put (c := 32) hR hP hX (by omega) (by decide)) ?_
        rintro _ ⟨I2, rfl, hF2, hF2', hX2⟩
        exact j31 I2 _ (FP_tr hF ⟨hF2, hF2'⟩) hX2 (by rw [List.length_cons]; omega) el
    · rintro st ⟨I1, rfl, hF, hX⟩
      have hT1 : CT I1 a m nd sp := CT_keep hT (fun x g1 g2 => hF.1 x (by omega))
      unfold f_X5_line_s7
      dsimp only
      rw [q_let, q_let, q_let, q_let, bT_gI ht, hT1.1.2.1, if_pos (show (Int32.ofNat (m)) ≤ (Int32.ofNat (m)) from (i32_le (by omega) (by omega)).mpr (Nat.le_refl _))]
      exact q_ex ⟨I1, rfl, hF, hX⟩
  · rintro _ ⟨I1, rfl, hF, hX⟩
    simp only [Sum.elim_inr]
    unfold f_X5_line_j91
    exact q_ok ⟨I1, rfl, hF, hX⟩
theorem M_outPostfix {a m : Nat} {nd ln : Nat → Nd} {sp : Nat → Nat} (hR : RA R) (hT : MT I a m nd sp) (hm : m ≤ 80) (hn : ∀ i, i < m → NV b (nd i)) (hln : ∀ x, x < m → ln (pl sp x) = nd x) : QK (f_X12_outPostfix (mg 4625 I J R) 4561 (Int32.ofNat (a))) (fun r => ∃ I', r = mg 4625 I' J R ∧ FrK (fun x k => FMx x k ∨ x = 4574) I I' ∧ MX I' (psT ln m)) := by
  have hb := hT.1.1
  unfold f_X12_outPostfix
  rw [gs_4561, if_pos ok_4561]
  have hT0 : MT (up I 4561 42 0) a m nd sp := MT_keep hT (fun x k _ _ _ _ => up_n (by omega))
  refine q_bind (M_inOrder hR hT0 (by omega)) ?_
  rintro _ ⟨I0, rfl, hF0, hO⟩
  have f0 : FrK (fun x k => FMx x k ∨ x = 4574) I I0 := fun x k y => by
    unfold FMx at y
    rw [hF0 x (by omega), up_n (by omega)]
  have hX0 : MX I0 [] := ⟨by rw [hF0 4561 (by omega), up_s]; rfl, fun k hk => absurd hk (Nat.not_lt_zero k)⟩
  rw [q_let]
  refine q_bind (P := fun r => ∃ I', r = .inr (mg 4625 I' J R) ∧ FrK (fun x k => FMx x k ∨ x = 4574) I I' ∧ MX I' (psT ln m)) ?_ ?_
  · refine q_for m (fun i st => ∃ I', st = (4561, (Int32.ofNat (m)), (Int32.ofNat (i)), mg 4625 I' J R) ∧ FrK (fun x k => FMx x k ∨ x = 4574) I I' ∧ FrK FMx I0 I' ∧ MX I' (psT ln i)) ?_ ?_ (i := 0) ⟨I0, rfl, f0, FrK_rfl, hX0⟩ (by omega) (by unfold xF; omega)
    · rintro i st hi ⟨I1, rfl, hF, hF1, hX⟩
      obtain ⟨x, hx, ex⟩ := pl_sur hT.2.1 hi
      have hv := hn x hx
      obtain ⟨x1, x2, x3, x4, x5, x6, x7⟩ := NV_v hv
      have pl1 := psT_len ln i
      unfold f_X12_outPostfix_s13
      dsimp only
      rw [q_let, q_let, q_let, q_let, if_neg (show ¬ (Int32.ofNat (m)) ≤ (Int32.ofNat (i)) from fun y => absurd ((i32_le (by omega) (by omega)).mp y) (by omega)), gr_4561_14 hR, ga_4574 (by omega), hF1 _ _ (by unfold FMx; omega), ← ex, hO x hx, ex]
      have j36 : ∀ I2 l, FrK FMx I0 I2 → MX I2 l → l.length ≤ 12 * i + 1 → psT ln (i + 1) = psN (nd x) l → QK (f_X12_outPostfix_j36 (mg 4625 I2 J R) 4561 (Int32.ofNat (m)) (Int32.ofNat (i)) (Int32.ofNat (a + x))) (qS (fun st => ∃ I', st = (4561, (Int32.ofNat (m)), (Int32.ofNat (i + 1)), mg 4625 I' J R) ∧ FrK (fun x k => FMx x k ∨ x = 4574) I I' ∧ FrK FMx I0 I' ∧ MX I' (psT ln (i + 1))) (fun r => ∃ I', r = .inr (mg 4625 I' J R) ∧ FrK (fun x k => FMx x k ∨ x = 4574) I I' ∧ MX I' (psT ln m))) := by
        intro I2 l hF2 hX2 hl el
        have g2 : ∀ I3, FrK FMx I0 I3 → FrK (fun x k => FMx x k ∨ x = 4574) I I3 := fun I3 h3 x k y => (h3 x k (fun w => y (Or.inl w))).trans (f0 x k y)
        have rows : ∀ I3, FrK FMx I0 I3 → I3 4565 (a + x) = (nd x).1 ∧ I3 4566 (a + x) = (nd x).2.1 ∧ I3 4567 (a + x) = (nd x).2.2.1 ∧ I3 4568 (a + x) = (Int32.ofNat ((nd x).2.2.2)) := fun I3 h3 => by
          obtain ⟨y1, y2, y3, y4, y5⟩ := hT.1.2 x hx
          have g := g2 I3 h3
          rw [g 4565 _ (by unfold FMx; omega), g 4566 _ (by unfold FMx; omega), g 4567 _ (by unfold FMx; omega), g 4568 _ (by unfold FMx; omega)]
          exact ⟨y1, y2, y3, y4⟩
        have fin : ∀ I4 l4, FrK FMx I0 I4 → MX I4 l4 → psT ln (i + 1) = l4 → QK (f_X12_outPostfix_j126 (mg 4625 I4 J R) 4561 (Int32.ofNat (m)) (Int32.ofNat (i))) (qS (fun st => ∃ I', st = (4561, (Int32.ofNat (m)), (Int32.ofNat (i + 1)), mg 4625 I' J R) ∧ FrK (fun x k => FMx x k ∨ x = 4574) I I' ∧ FrK FMx I0 I' ∧ MX I' (psT ln (i + 1))) (fun r => ∃ I', r = .inr (mg 4625 I' J R) ∧ FrK (fun x k => FMx x k ∨ x = 4574) I I' ∧ MX I' (psT ln m))) := by
          intro I4 l4 h4 hX4 e4
          unfold f_X12_outPostfix_j126
          rw [q_let, show (Int32.ofNat (i)) + 1 = (Int32.ofNat (i + 1)) from n_add i 1]
          exact q_go ⟨I4, rfl, g2 I4 h4, h4, by rw [e4]; exact hX4⟩
        have j71 : ∀ I3, FrK FMx I0 I3 → MX I3 (if (nd x).1 = 0 then numT (vN (nd x)) l else vN (nd x) :: l) → QK (f_X12_outPostfix_j71 (mg 4625 I3 J R) 4561 (Int32.ofNat (m)) (Int32.ofNat (i)) (Int32.ofNat (a + x))) (qS (fun st => ∃ I', st = (4561, (Int32.ofNat (m)), (Int32.ofNat (i + 1)), mg 4625 I' J R) ∧ FrK (fun x k => FMx x k ∨ x = 4574) I I' ∧ FrK FMx I0 I' ∧ MX I' (psT ln (i + 1))) (fun r => ∃ I', r = .inr (mg 4625 I' J R) ∧ FrK (fun x k => FMx x k ∨ x = 4574) I I' ∧ MX I' (psT ln m))) := by
          intro I3 h3 hX3
          obtain ⟨y1, y2, y3, y4⟩ := rows I3 h3
          have l3 : (if (nd x).1 = 0 then numT (vN (nd x)) l else vN (nd x) :: l).length ≤ l.length + 10 := by
            split
            · exact numT_len _ _
            · rw [List.length_cons]; omega
          unfold f_X12_outPostfix_j71
          rw [gr_4561_4 hR, ga_4565 (by omega), y1]
          unfold psN at el
          by_cases q2 : (nd x).1 = 2
          · rw [if_pos q2] at el
            rw [if_pos q2, gr_4561_7 hR, ga_4568 (by omega), y4, if_pos ok_4561, show (48 : Int32) + (Int32.ofNat ((nd x).2.2.2)) = (Int32.ofNat (48 + (nd x).2.2.2)) from n_add 48 _]
            refine q_bind (M_prints hR hX3 (by omega)) ?_
            rintro _ ⟨I4, rfl, hF4, hX4⟩
            exact fin I4 _ (FrK_tr h3 hF4) hX4 el
          · rw [if_neg q2] at el
            rw [if_neg q2, gr_4561_4 hR, ga_4565 (by omega), y1]
            by_cases q3 : (nd x).1 = 3
            · rw [if_pos q3, gr_4561_6 hR, ga_4567 (by omega), y3]
              by_cases q0 : (nd x).2.2.1 = 0
              · rw [if_pos q0] at el
                rw [if_pos q0, if_pos ok_4561]
                refine q_bind (M_prints (c := 39) hR hX3 (by omega)) ?_
                rintro _ ⟨I4, rfl, hF4, hX4⟩
                exact fin I4 _ (FrK_tr h3 hF4) hX4 el
              · rw [if_neg q0] at el
                rw [if_neg q0]
                exact fin I3 _ h3 hX3 el
            · rw [if_neg (show ¬ (nd x).2.2.1 = 0 by rw [x6 q3]; decide)] at el
              rw [if_neg q3]
              exact fin I3 _ h3 hX3 el
        obtain ⟨y1, y2, y3, y4⟩ := rows I2 hF2
        unfold f_X12_outPostfix_j36
        rw [gr_4561_4 hR, ga_4565 (by omega), y1]
        by_cases q0 : (nd x).1 = 0
        · rw [if_pos q0, gr_4561_5 hR, ga_4566 (by omega), y2, x1, if_pos ok_4561]
          refine q_bind (M_outNumber hR hX2 (by omega) x2) ?_
          rintro _ ⟨I3, rfl, hF3, hX3⟩
          exact j71 I3 (FrK_tr hF2 hF3) (by rw [if_pos q0]; exact hX3)
        · rw [if_neg q0, gr_4561_5 hR, ga_4566 (by omega), y2, x1, if_pos ok_4561]
          refine q_bind (M_prints hR hX2 (by omega)) ?_
          rintro _ ⟨I3, rfl, hF3, hX3⟩
          exact j71 I3 (FrK_tr hF2 hF3) (by rw [if_neg q0]; exact hX3)
      have el := psT_c ln i
      rw [← ex, hln x hx, ex] at el
      by_cases q0 : i = 0
      · rw [if_pos (show (Int32.ofNat (i)) ≤ (0 : Int32) from (i32_le (m := 0) (by omega) (by omega)).mpr (by omega))]
        rw [if_pos q0] at el
        exact j36 I1 _ hF1 hX (by omega) el
      · rw [if_neg (show ¬ (Int32.ofNat (i)) ≤ (0 : Int32) from fun y => absurd ((i32_le (m := 0) (by omega) (by omega)).mp y) (by omega)), if_pos ok_4561]
        rw [if_neg q0] at el
        refine q_bind (M_prints (c := 32) hR hX (by omega)) ?_
        rintro _ ⟨I2, rfl, hF2, hX2⟩
        exact j36 I2 _ (FrK_tr hF1 hF2) hX2 (by rw [List.length_cons]; omega) el
    · rintro st ⟨I1, rfl, hF, hF1, hX⟩
      unfold f_X12_outPostfix_s13
      dsimp only
      rw [q_let, q_let, q_let, q_let, if_pos (show (Int32.ofNat (m)) ≤ (Int32.ofNat (m)) from (i32_le (by omega) (by omega)).mpr (Nat.le_refl _))]
      exact q_ex ⟨I1, rfl, hF, hX⟩
  · rintro _ ⟨I1, rfl, hF, hX⟩
    simp only [Sum.elim_inr]
    unfold f_X12_outPostfix_j132
    exact q_ok ⟨I1, rfl, hF, hX⟩
theorem M_hasOwn {a m : Nat} {nd : Nat → Nd} {sp : Nat → Nat} (hR : RA R) (hT : MT I a m nd sp) (hm : m ≤ 80) : QK (f_X12_hasOwnCall (mg 4625 I J R) 4561 (Int32.ofNat (a))) (fun r => (r = 1 ∧ ∃ i, i < m ∧ lazyNd (nd i)) ∨ (r = 0 ∧ ¬ ∃ i, i < m ∧ lazyNd (nd i))) := by
  have hb := hT.1.1
  have n0 := hT.2.1.1
  have s0 : I 4569 a = (Int32.ofNat (m)) := by
    have := hT.2.2 0 n0
    rw [Nat.add_zero, hT.2.1.2.2.1] at this
    exact this
  unfold f_X12_hasOwnCall
  rw [q_let]
  refine q_bind (P := fun r => (r = .inr 1 ∧ ∃ i, i < m ∧ lazyNd (nd i)) ∨ (r = .inr 0 ∧ ¬ ∃ i, i < m ∧ lazyNd (nd i))) ?_ ?_
  · refine q_for m (fun i st => ((st = (4561, (Int32.ofNat (a)), 1, (Int32.ofNat (a + i))) ∧ ∃ j, j < i ∧ lazyNd (nd j)) ∨ (st = (4561, (Int32.ofNat (a)), 0, (Int32.ofNat (a + i))) ∧ ¬ ∃ j, j < i ∧ lazyNd (nd j)))) ?_ ?_ (i := 0) (Or.inr ⟨rfl, fun ⟨j, hj, _⟩ => absurd hj (Nat.not_lt_zero j)⟩) (by omega) (by unfold xF; omega)
    · rintro i st hi (⟨rfl, j, hj, lj⟩ | ⟨rfl, hno⟩)
      · unfold f_X12_hasOwnCall_s4 f_X12_hasOwnCall_j52 f_X12_hasOwnCall_j57
        dsimp only
        rw [q_let, q_let, q_let, q_let, gr_4561_8 hR, ga_4569 (by omega), s0, n_add, if_neg (show ¬ (Int32.ofNat (a + m)) ≤ (Int32.ofNat (a + i)) from fun y => absurd ((i32_le (by omega) (by omega)).mp y) (by omega)), if_neg (by decide), q_let, show (Int32.ofNat (a + i)) + 1 = (Int32.ofNat (a + (i + 1))) from n_add (a + i) 1]
        exact q_go (Or.inl ⟨rfl, j, by omega, lj⟩)
      · obtain ⟨y1, y2, y3, y4, y5⟩ := hT.1.2 i hi
        unfold f_X12_hasOwnCall_s4 f_X12_hasOwnCall_j52 f_X12_hasOwnCall_j56 f_X12_hasOwnCall_j57
        dsimp only
        rw [q_let, q_let, q_let, q_let, gr_4561_8 hR, ga_4569 (by omega), s0, n_add, if_neg (show ¬ (Int32.ofNat (a + m)) ≤ (Int32.ofNat (a + i)) from fun y => absurd ((i32_le (by omega) (by omega)).mp y) (by omega)), if_pos rfl, gr_4561_4 hR, ga_4565 (by omega), y1]
        have yes : lazyNd (nd i) → QK (xlet ((Int32.ofNat (a + i)) + (1 : Int32)) (fun v4 => (some (Sum.inr (Sum.inr ((4561 : Nat), (Int32.ofNat (a)), (1 : Int32), v4))) : Option (Int32 ⊕ ((Int32) ⊕ (Nat × Int32 × Int32 × Int32)))))) (qS (fun st => ((st = (4561, (Int32.ofNat (a)), 1, (Int32.ofNat (a + (i + 1)))) ∧ ∃ j, j < i + 1 ∧ lazyNd (nd j)) ∨ (st = (4561, (Int32.ofNat (a)), 0, (Int32.ofNat (a + (i + 1)))) ∧ ¬ ∃ j, j < i + 1 ∧ lazyNd (nd j)))) (fun r => (r = .inr 1 ∧ ∃ i, i < m ∧ lazyNd (nd i)) ∨ (r = .inr 0 ∧ ¬ ∃ i, i < m ∧ lazyNd (nd i)))) := fun hl => by
          rw [q_let, show (Int32.ofNat (a + i)) + 1 = (Int32.ofNat (a + (i + 1))) from n_add (a + i) 1]
          exact q_go (Or.inl ⟨rfl, i, by omega, hl⟩)
        have no : ¬ lazyNd (nd i) → QK (xlet ((Int32.ofNat (a + i)) + (1 : Int32)) (fun v4 => (some (Sum.inr (Sum.inr ((4561 : Nat), (Int32.ofNat (a)), (0 : Int32), v4))) : Option (Int32 ⊕ ((Int32) ⊕ (Nat × Int32 × Int32 × Int32)))))) (qS (fun st => ((st = (4561, (Int32.ofNat (a)), 1, (Int32.ofNat (a + (i + 1)))) ∧ ∃ j, j < i + 1 ∧ lazyNd (nd j)) ∨ (st = (4561, (Int32.ofNat (a)), 0, (Int32.ofNat (a + (i + 1)))) ∧ ¬ ∃ j, j < i + 1 ∧ lazyNd (nd j)))) (fun r => (r = .inr 1 ∧ ∃ i, i < m ∧ lazyNd (nd i)) ∨ (r = .inr 0 ∧ ¬ ∃ i, i < m ∧ lazyNd (nd i)))) := fun hl => by
          rw [q_let, show (Int32.ofNat (a + i)) + 1 = (Int32.ofNat (a + (i + 1))) from n_add (a + i) 1]
          refine q_go (Or.inr ⟨rfl, ?_⟩)
          rintro ⟨j, hj, lj⟩
          by_cases z : j = i
          · rw [z] at lj
            exact hl lj
          · exact hno ⟨j, by omega, lj⟩
        by_cases q2 : (nd i).1 = 2
        · rw [if_pos q2, gr_4561_5 hR, ga_4566 (by omega), y2]
          by_cases qi : (nd i).2.1 = 105
          · rw [if_pos qi]
            exact yes ⟨q2, Or.inl qi⟩
          · rw [if_neg qi, gr_4561_5 hR, ga_4566 (by omega), y2]
            by_cases qs : (nd i).2.1 = 115
            · rw [if_pos qs]
              exact yes ⟨q2, Or.inr qs⟩
            · rw [if_neg qs]
              exact no (fun z => z.2.elim qi qs)
        · rw [if_neg q2]
          exact no (fun z => q2 z.1)
    · rintro st hst
      unfold f_X12_hasOwnCall_s4
      rcases hst with ⟨rfl, hx⟩ | ⟨rfl, hx⟩
      · dsimp only
        rw [q_let, q_let, q_let, q_let, gr_4561_8 hR, ga_4569 (by omega), s0, n_add, if_pos (show (Int32.ofNat (a + m)) ≤ (Int32.ofNat (a + m)) from (i32_le (by omega) (by omega)).mpr (Nat.le_refl _))]
        exact q_ex (Or.inl ⟨rfl, hx⟩)
      · dsimp only
        rw [q_let, q_let, q_let, q_let, gr_4561_8 hR, ga_4569 (by omega), s0, n_add, if_pos (show (Int32.ofNat (a + m)) ≤ (Int32.ofNat (a + m)) from (i32_le (by omega) (by omega)).mpr (Nat.le_refl _))]
        exact q_ex (Or.inr ⟨rfl, hx⟩)
  · rintro _ (⟨rfl, hx⟩ | ⟨rfl, hx⟩)
    · simp only [Sum.elim_inr]
      unfold f_X12_hasOwnCall_j64
      rw [q_xz1]
      exact q_ok (Or.inl ⟨rfl, hx⟩)
    · simp only [Sum.elim_inr]
      unfold f_X12_hasOwnCall_j64
      rw [q_xz0]
      exact q_ok (Or.inr ⟨rfl, hx⟩)
def txP (l : List Nat) : GT := (l.length, fun k => (Int32.ofNat (tF l k)))
theorem C_printed {I' : Nat → Nat → Int32} (H : InvC I t s b n f v q p r h) (e : ∀ x, DC x → x ≠ 559 → x ≠ 562 → I' x = I x) (hp : CPr I' p') : InvC I' t s b n f v q p' r h := by
  obtain ⟨h1, h2, h3, h4, h5, h6, h7, h8, h9, h10⟩ := H
  refine ⟨CTy_keep h1 ?_, CSh_keep h2 ?_, CTb_keep h3 ?_, CNm_keep h4 ?_, CFn_keep h5 ?_, CV_keep h6 ?_, CKp_keep h7 ?_, hp, CTr_keep h9 ?_, CHs_keep h10 ?_⟩
  case refine_6 =>
    intro y g1 g2
    exact e y (by unfold DC; omega) (by omega) (by omega)
  all_goals
    intro y g
    exact e y (by unfold DC; omega) (by omega) (by omega)
theorem M_printed {I9 I' : Nat → Nat → Int32} (H : InvM I t s b n f v q p r h) (hC : CSh I9 s) (e : ∀ a k, DM a k → ¬ (a = 4561 ∧ k = 42) → a ≠ 4595 → I' a k = I a k) (hp : MPr I' p') : InvM I' t s b n f v q p' r h := by
  obtain ⟨h1, h2, h3, h4, h5, h6, h7, h8, h9, h10⟩ := H
  refine ⟨MTy_keep h1 ?_, MSh_keep h2 hC.1 ?_ (CSh_80 hC), MTb_keep h3 ?_, MNm_keep h4 ?_, MFn_keep h5 ?_, MV_keep h6 ?_, MKp_keep h7 ?_, hp, MTr_keep h9 ?_, MHs_keep h10 ?_⟩
  case refine_6 =>
    intro y g1 g2
    exact e _ y (by unfold DM; omega) (by omega) (by omega)
  all_goals
    intro a k g
    exact e a k (by unfold DM; omega) (by omega) (by omega)
theorem CX_CPr {l : List Nat} (H : CX I 559 562 l) : CPr I (txP l) := ⟨H.2.1, H.1, H.2.2⟩
theorem MX_MPr {l : List Nat} (H : MX I l) : MPr I (txP l) := H
theorem l_postfix {x w : Int32} {I1 : Nat → Nat → Int32} (h : f_X11_postfix (mg 4625 I J R) 0 x = some (.inl w, mg 4625 I1 J R)) : f_L_postfix (mg 4625 I J R) 0 x 4624 = some (0, mg 4625 I1 (oJ J w.toInt64) R) := by
  unfold f_L_postfix
  rw [if_pos ok_0, h, Option.bind_some, q_let, Sum.elim_inl, owJ0]
  rfl
theorem o_postfix (hR : RA R) (H : Inv I) : op_postfix Pinv (mg 4625 I J R) := by
  obtain ⟨t, s, b, n, f, v, q, p, r, h, hC, hM, hO⟩ := H
  intro x
  have h30 := hC.2.1.1
  rcases i32_two s.1 (by omega) x with ⟨k, hk, rfl⟩ | hx
  · have c1 := hC.2.1.2.2 k hk
    have n1 := CT_n c1
    have nv := fun i hi => (OKH_top hO).2.1 k i hk hi
    obtain ⟨ln, hln⟩ := pl_fun c1.2.1
    have m1 := (hM.2.1.2 k hk).2
    obtain ⟨_, e0, hz⟩ := T_hasLazy (J := J) hR c1.1
    by_cases zz : ∃ i, i < s.2.1 k ∧ lazyNd (s.2.2.1 k i)
    · obtain rfl := (hz.resolve_right (fun y => y.2 zz)).1
      have e3 : f_L_postfix (mg 4625 I J R) 0 (Int32.ofNat (k)) 4624 = some (2, mg 4625 I J R) := by
        unfold f_L_postfix f_X11_postfix f_X11_needNoLazyCall
        rw [if_pos ok_0, if_pos ok_0, C_treeAt1 hR hC.2.1 hk, Sum.elim_inl, if_pos ok_0, if_pos (bT_xk c1.1.1), e0, Option.bind_some, if_neg (by decide), Option.bind_some, Sum.elim_inr, Option.bind_some, q_let, Sum.elim_inr, if_neg (by decide), if_pos rfl]
      obtain ⟨_, e4, hy⟩ := M_hasOwn (J := J) hR m1 n1.2
      obtain rfl := (hy.resolve_right (fun y => y.2 zz)).1
      have e2 : f_X12_postfix (mg 4625 I J R) 4561 (Int32.ofNat (k)) = some (0, mg 4625 (thI I 2) J R) := by
        unfold f_X12_postfix f_X12_postfix_j14 f_X12_postfix_j38
        rw [if_pos ok_4561, M_isTree1 hM.2.1 h30 hk, if_neg (by decide), if_pos ok_4561, M_isTree1 hM.2.1 h30 hk, if_neg (by decide), M_shelf, if_pos ok_4561, e4, Option.bind_some, if_neg (by decide), if_pos ok_4561, m_refY]
      exact op_ex e3 e2 thI_0 (by decide) (Pinv_th hR hC hM hO (fun x _ => rfl))
    · obtain rfl := (hz.resolve_left (fun y => zz y.2)).1
      obtain ⟨_, e5, I2, rfl, hF2, hX2⟩ := C_line (J := J) hR c1 (by omega) nv hln
      have e1 : f_X11_postfix (mg 4625 I J R) 0 (Int32.ofNat (k)) = some (.inl (Int32.ofNat ((psT ln (s.2.1 k)).length)), mg 4625 I2 J R) := by
        unfold f_X11_postfix f_X11_needNoLazyCall
        rw [if_pos ok_0, C_treeAt1 hR hC.2.1 hk, Sum.elim_inl, if_pos ok_0, if_pos (bT_xk c1.1.1), e0, Option.bind_some, if_pos rfl, Option.bind_some, Sum.elim_inl, gr_0_4 hR, if_pos ok_559, e5, Option.bind_some, gr_0_4 hR, gi_559, hX2.1]
      have hM2 : InvM I2 t s b n f v q p r h := InvM_C hM hC.2.1 (fun x k hx _ => by rw [hF2.1 x (by omega)])
      have m2 := (hM2.2.1.2 k hk).2
      have ref : ∀ J, QK (f_X12_postfix (mg 4625 I2 J R) 4561 (Int32.ofNat (k))) (fun x => ∃ I3, x = ((Int32.ofNat ((psT ln (s.2.1 k)).length)), mg 4625 I3 J R) ∧ InvM I3 t s b n f v q (txP (psT ln (s.2.1 k))) r h ∧ (∀ a k, a < 4561 → I3 a k = I2 a k) ∧ I3 4561 0 = 0) := by
        intro J
        obtain ⟨_, e4, hy⟩ := M_hasOwn (J := J) hR m2 n1.2
        obtain rfl := (hy.resolve_left (fun y => zz y.2)).1
        unfold f_X12_postfix f_X12_postfix_j14 f_X12_postfix_j37 f_X12_postfix_j38
        rw [if_pos ok_4561, M_isTree1 hM2.2.1 h30 hk, if_neg (by decide), if_pos ok_4561, M_isTree1 hM2.2.1 h30 hk, if_neg (by decide), M_shelf, if_pos ok_4561, e4, Option.bind_some, if_pos rfl, if_pos ok_4561, m_refO, M_shelf, if_pos ok_4561]
        have m3 : MT (thI I2 0) (80 * k) (s.2.1 k) (s.2.2.1 k) (s.2.2.2 k) := MT_keep m2 (fun a j y1 y2 _ _ => thI_n (by omega))
        refine q_bind (M_outPostfix hR m3 n1.2 nv hln) ?_
        rintro _ ⟨I3, rfl, hF3, hX3⟩
        rw [gi_4561, hX3.1]
        have go : ∀ a k, ¬ FMx a k → a ≠ 4574 → (a = 4561 → k ≠ 0) → I3 a k = I2 a k := fun a k y1 y2 y3 => by
          rw [hF3 a k (fun z => z.elim y1 y2), thI_n y3]
        refine q_ok ⟨I3, rfl, M_printed hM2 hC.2.1 (fun a k g1 g2 g3 => go a k (by unfold FMx; omega) (by unfold DM at g1; omega) (by unfold DM at g1; omega)) (MX_MPr hX3), fun a x ha => go a x (by unfold FMx; omega) (by omega) (by omega), ?_⟩
        rw [hF3 _ _ (by unfold FMx; omega)]
        exact thI_0
      obtain ⟨_, e2, I3, rfl, hM3, g1, g2⟩ := ref (oJ J ((Int32.ofNat ((psT ln (s.2.1 k)).length))).toInt64)
      refine op_ok (l_postfix e1) e2 g2 (Pinv_mk hR (InvC_M (C_printed hC (fun x _ y1 y2 => hF2.1 x (fun z => z.elim y1 y2)) (CX_CPr hX2)) g1) hM3 hO)
  · have e3 : f_L_postfix (mg 4625 I J R) 0 x 4624 = some (1, mg 4625 I J R) := by
      unfold f_L_postfix f_X11_postfix
      rw [if_pos ok_0, if_pos ok_0, C_treeAt0 hR hC.2.1 hx, Sum.elim_inr, Option.bind_some, q_let, Sum.elim_inr, if_pos rfl]
    have e2 : f_X12_postfix (mg 4625 I J R) 4561 x = some (0, mg 4625 (thI I 1) J R) := by
      unfold f_X12_postfix f_X12_postfix_j14 f_X12_postfix_j37 f_X12_postfix_j38
      rw [if_pos ok_4561, M_isTree0 hM.2.1 h30 hx, if_pos rfl, if_pos ok_4561, M_isTree0 hM.2.1 h30 hx, if_pos rfl, if_pos ok_4561, m_refX]
    exact op_ex e3 e2 thI_0 (by decide) (Pinv_th hR hC hM hO (fun x _ => rfl))
end PF
