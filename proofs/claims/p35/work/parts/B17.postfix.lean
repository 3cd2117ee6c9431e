/-! call: postfix -/
theorem numT_1 {v : Nat} (hv : v < 10) (l : List Nat) : numT v l = (48 + v) :: l := by
  unfold numT
  have e : tpv v 9 1 = 1 := by
    rw [tpv_c, if_neg (by rw [Nat.div_one]; omega)]
  rw [e, dpr_c, if_neg (by first | decide | omega), show 1 / 10 = 0 from rfl, dpr_z, Nat.div_one, Nat.mod_eq_of_lt hv]
def vN (x : Nd) : Nat := x.2.1.toNatClampNeg
theorem NV_v {b : GB} {x : Nd} (h : NV b x) : x.2.1 = (Int32.ofNat (vN x)) ∧ vN x ≤ 999999999 ∧ (x.1 ≠ 0 → vN x < 128) ∧ x.2.2.2 ≤ 4 ∧ (x.1 = 0 ∨ x.1 = 1 ∨ x.1 = 2 ∨ x.1 = 3) ∧ (x.1 ≠ 3 → x.2.2.1 = -1) ∧ (x.1 = 2 → 1 ≤ x.2.2.2) := by
  have key : ∀ v, v ≤ 999999999 → x.2.1 = (Int32.ofNat (v)) → x.2.1 = (Int32.ofNat (vN x)) ∧ vN x = v := fun v hv e => by
    have : vN x = v := by
      unfold vN
      rw [e, i32_nat (by omega)]
    exact ⟨by rw [this]; exact e, this⟩
  rcases h with ⟨h1, ⟨v, hv, e⟩, h3, h4⟩ | ⟨h1, ⟨l, hl, e⟩, h3, h4⟩ | ⟨h1, ⟨l, hl, e⟩, h3, h4, h5⟩ | ⟨h1, p, fx, hp, hf, e, h3, h4, h5⟩
  · obtain ⟨k1, k2⟩ := key v hv e
    exact ⟨k1, by omega, fun z => absurd h1 z, by omega, Or.inl h1, fun _ => h3, fun z => by rw [h1] at z; exact absurd z (by first | decide | omega)⟩
  · obtain ⟨k1, k2⟩ := key (97 + l) (by omega) e
    exact ⟨k1, by omega, fun _ => by omega, by omega, Or.inr (Or.inl h1), fun _ => h3, fun z => by rw [h1] at z; exact absurd z (by first | decide | omega)⟩
  · obtain ⟨k1, k2⟩ := key (97 + l) (by omega) e
    exact ⟨k1, by omega, fun _ => by omega, h5, Or.inr (Or.inr (Or.inl h1)), fun _ => h3, fun _ => h4⟩
  · have sg := (sgc_ok p hp).1
    obtain ⟨k1, k2⟩ := key (sgc p) (by omega) e
    exact ⟨k1, by omega, fun _ => by omega, by rw [h4]; split <;> omega, Or.inr (Or.inr (Or.inr h1)), fun z => absurd h1 z, fun z => by rw [h1] at z; exact absurd z (by first | decide | omega)⟩
def psN (x : Nd) (l : List Nat) : List Nat := if x.1 = 2 then (48 + x.2.2.2) :: (if x.1 = 0 then numT (vN x) l else vN x :: l) else if x.2.2.1 = 0 then 39 :: (if x.1 = 0 then numT (vN x) l else vN x :: l) else (if x.1 = 0 then numT (vN x) l else vN x :: l)
def psT (f : Nat → Nd) : Nat → List Nat
  | 0 => []
  | p + 1 => psN (f p) (if p = 0 then psT f p else 32 :: psT f p)
theorem psT_c (f : Nat → Nd) (p : Nat) : psT f (p + 1) = psN (f p) (if p = 0 then psT f p else 32 :: psT f p) := rfl
theorem numT_len (v : Nat) (l : List Nat) : (numT v l).length ≤ l.length + 10 := dpr_len v 10 _ l
theorem psN_len (x : Nd) (l : List Nat) : (psN x l).length ≤ l.length + 11 := by
  have h : (if x.1 = 0 then numT (vN x) l else vN x :: l).length ≤ l.length + 10 := by
    split
    · exact numT_len _ _
    · rw [List.length_cons]; omega
  unfold psN
  split
  · rw [List.length_cons]; omega
  · split
    · rw [List.length_cons]; omega
    · omega
theorem psT_len (f : Nat → Nd) : ∀ p, (psT f p).length ≤ 12 * p := by
  intro p
  induction p with
  | zero => exact Nat.le_refl _
  | succ p ih =>
    rw [psT_c]
    have := psN_len (f p) (if p = 0 then psT f p else 32 :: psT f p)
    have h2 : (if p = 0 then psT f p else 32 :: psT f p).length ≤ (psT f p).length + 1 := by
      split
      · omega
      · rw [List.length_cons]; omega
    omega
theorem pl_fun {n : Nat} {nd : Nat → Nd} {sp : Nat → Nat} (hw : WT n (aro nd) sp) : ∃ ln : Nat → Nd, ∀ x, x < n → ln (pl sp x) = nd x := by
  refine ⟨fun p => @dite _ (∃ x, x < n ∧ pl sp x = p) (Classical.propDecidable _) (fun h => nd h.choose) (fun _ => (0, 0, 0, 0)), fun x hx => ?_⟩
  have h : ∃ y, y < n ∧ pl sp y = pl sp x := ⟨x, hx, rfl⟩
  show @dite _ (∃ y, y < n ∧ pl sp y = pl sp x) (Classical.propDecidable _) (fun h => nd h.choose) (fun _ => (0, 0, 0, 0)) = nd x
  rw [dif_pos h]
  congr 1
  exact pl_inj hw h.choose_spec.1 hx h.choose_spec.2
section PF
variable {I : Nat → Nat → Int32} {J : Nat → Nat → Int64} {R : Nat → Nat → Option Nat} {t : GT} {s : GS} {b : GB} {n : GN} {f : GF} {v : GV} {q : Nat → GV} {p p' : GT} {r : GR} {h : GH} {β : Type}
theorem C_putValue {pr tx : Nat} {l : List Nat} {x : Nd} (hR : RA R) (h : isP pr tx) (hX : CX I pr tx l) (hl : l.length + 10 ≤ 1000) (hx : NV b x) : QK (f_X5_putValue (mg (4562 + zn J) I J R) pr x.1 x.2.1) (fun r => ∃ I', r = mg (4562 + zn J) I' J R ∧ FP pr tx I I' ∧ CX I' pr tx (if x.1 = 0 then numT (vN x) l else vN x :: l)) := by
  obtain ⟨x1, x2, x3, x4, x5, x6, x7⟩ := NV_v hx
  unfold f_X5_putValue f_X5_putValue_j17
  rw [x1]
  by_cases z : x.1 = 0
  · rw [if_pos z, if_pos (ok_P h), if_pos z]
    refine q_bind (C_putNumber hR h hX hl x2) ?_
    rintro _ ⟨I2, rfl, hF2, hX2⟩
    exact q_ok ⟨I2, rfl, hF2, hX2⟩
  · rw [if_neg z, if_pos (ok_P h), if_neg z]
    refine q_bind (C_put hR h hX (by omega) (by have := x3 z; omega)) ?_
    rintro _ ⟨I2, rfl, hF2, hF2', hX2⟩
    exact q_ok ⟨I2, rfl, ⟨hF2, hF2'⟩, hX2⟩
theorem C_line {a m : Nat} {nd ln : Nat → Nd} {sp : Nat → Nat} (hR : RA R) (hT : CT I a m nd sp) (ha : a + 8 ≤ 559) (hn : ∀ i, i < m → NV b (nd i)) (hln : ∀ x, x < m → ln (pl sp x) = nd x) : QK (f_X5_line (mg (4562 + zn J) I J R) 559 a) (fun r => ∃ I', r = mg (4562 + zn J) I' J R ∧ FP 559 562 I I' ∧ CX I' 559 562 (psT ln m)) := by
  have hP : isP 559 562 := Or.inl ⟨rfl, rfl⟩
  have n1 := CT_n hT
  have ht := hT.1.1
  unfold f_X5_line
  rw [gs_559, q_let]
  refine q_bind (P := fun r => ∃ I', r = .inr (mg (4562 + zn J) I' J R) ∧ FP 559 562 I I' ∧ CX I' 559 562 (psT ln m)) ?_ ?_
  · refine q_for m (fun i st => ∃ I', st = (559, a, (Int32.ofNat (i)), mg (4562 + zn J) I' J R) ∧ FP 559 562 I I' ∧ CX I' 559 562 (psT ln i)) ?_ ?_ (i := 0) ⟨_, rfl, ⟨FrS_up FrS_rfl (Or.inl rfl), fun k hk => up_n (Or.inr hk)⟩, up_s, Nat.zero_le _, fun k hk => absurd hk (Nat.not_lt_zero k)⟩ (by omega) (by unfold xF; omega)
    · rintro i st hi ⟨I1, rfl, hF, hX⟩
      have hT1 : CT I1 a m nd sp := CT_keep hT (fun x g1 g2 => hF.1 x (by omega))
      obtain ⟨x, hx, ex⟩ := pl_sur hT.2.1 hi
      have hv := hn x hx
      obtain ⟨x1, x2, x3, x4, x5, x6, x7⟩ := NV_v hv
      have pl1 := psT_len ln i
      unfold f_X5_line_s7
      dsimp only
      rw [q_let, q_let, q_let, q_let, bT_gI ht, hT1.1.2.1, if_neg (show ¬ (Int32.ofNat (m)) ≤ (Int32.ofNat (i)) from fun y => absurd ((i32_le (by omega) (by omega)).mp y) (by omega)), if_pos (bT_xk ht), T_nodeAt hR hT1 hx ex.symm, Option.bind_some]
      have j31 : ∀ I2 l, FP 559 562 I I2 → CX I2 559 562 l → l.length ≤ 12 * i + 1 → psT ln (i + 1) = psN (nd x) l → QK (f_X5_line_j31 (mg (4562 + zn J) I2 J R) 559 a (Int32.ofNat (i)) (Int32.ofNat (x))) (qS (fun st => ∃ I', st = (559, a, (Int32.ofNat (i + 1)), mg (4562 + zn J) I' J R) ∧ FP 559 562 I I' ∧ CX I' 559 562 (psT ln (i + 1))) (fun r => ∃ I', r = .inr (mg (4562 + zn J) I' J R) ∧ FP 559 562 I I' ∧ CX I' 559 562 (psT ln m))) := by
        intro I2 l hF2 hX2 hl el
        have hT2 : CT I2 a m nd sp := CT_keep hT (fun x g1 g2 => hF2.1 x (by omega))
        obtain ⟨y1, y2, y3, y4, y5⟩ := hT2.1.2.2.2 x hx
        unfold f_X5_line_j31 f_X5_line_j85
        rw [bT_g0 ht hR, bT_aI ht (by omega), y1, bT_g1 ht hR, bT_aI ht (by omega), y2, if_pos ok_559]
        refine q_bind (C_putValue hR hP hX2 (by omega) hv) ?_
        rintro _ ⟨I3, rfl, hF3, hX3⟩
        have hF3' := FP_tr hF2 hF3
        have hT3 : CT I3 a m nd sp := CT_keep hT (fun x g1 g2 => hF3'.1 x (by omega))
        obtain ⟨z1, z2, z3, z4, z5⟩ := hT3.1.2.2.2 x hx
        have l3 : (if (nd x).1 = 0 then numT (vN (nd x)) l else vN (nd x) :: l).length ≤ l.length + 10 := by
          split
          · exact numT_len _ _
          · rw [List.length_cons]; omega
        rw [bT_g0 ht hR, bT_aI ht (by omega), z1]
        by_cases q2 : (nd x).1 = 2
        · rw [if_pos q2, bT_g3 ht hR, bT_aI ht (by omega), z4, if_pos ok_559]
          refine q_bind (C_putNumber hR hP hX3 (by omega) (by omega)) ?_
          rintro _ ⟨I4, rfl, hF4, hX4⟩
          rw [q_let, show (Int32.ofNat (i)) + 1 = (Int32.ofNat (i + 1)) from n_add i 1]
          refine q_go ⟨I4, rfl, FP_tr hF3' hF4, ?_⟩
          rw [el]
          unfold psN
          rw [if_pos q2, ← numT_1 (by omega)]
          exact hX4
        · rw [if_neg q2, bT_g2 ht hR, bT_aI ht (by omega), z3]
          by_cases q0 : (nd x).2.2.1 = 0
          · rw [if_pos q0, if_pos ok_559]
            refine q_bind (C_put (c := 39) hR hP hX3 (by omega) (by first | decide | omega)) ?_
            rintro _ ⟨I4, rfl, hF4, hF4', hX4⟩
            rw [q_let, show (Int32.ofNat (i)) + 1 = (Int32.ofNat (i + 1)) from n_add i 1]
            refine q_go ⟨I4, rfl, FP_tr hF3' ⟨hF4, hF4'⟩, ?_⟩
            rw [el]
            unfold psN
            rw [if_neg q2, if_pos q0]
            exact hX4
          · rw [if_neg q0, q_let, show (Int32.ofNat (i)) + 1 = (Int32.ofNat (i + 1)) from n_add i 1]
            refine q_go ⟨I3, rfl, hF3', ?_⟩
            rw [el]
            unfold psN
            rw [if_neg q2, if_neg q0]
            exact hX3
      have el := psT_c ln i
      rw [← ex, hln x hx, ex] at el
      by_cases q0 : i = 0
      · rw [if_pos (show (Int32.ofNat (i)) ≤ (0 : Int32) from (i32_le (m := 0) (by omega) (by omega)).mpr (by omega))]
        rw [if_pos q0] at el
        exact j31 I1 _ hF hX (by omega) el
      · rw [if_neg (show ¬ (Int32.ofNat (i)) ≤ (0 : Int32) from fun y => absurd ((i32_le (m := 0) (by omega) (by omega)).mp y) (by omega)), if_pos ok_559]
        rw [if_neg q0] at el
        refine q_bind (C_put (c := 32) hR hP hX (by omega) (by first | decide | omega)) ?_
        rintro _ ⟨I2, rfl, hF2, hF2', hX2⟩
        exact j31 I2 _ (FP_tr hF ⟨hF2, hF2'⟩) hX2 (by rw [List.length_cons]; omega) el
    · rintro st ⟨I1, rfl, hF, hX⟩
      have hT1 : CT I1 a m nd sp := CT_keep hT (fun x g1 g2 => hF.1 x (by omega))
      unfold f_X5_line_s7
      dsimp only
      rw [q_let, q_let, q_let, q_let, bT_gI ht, hT1.1.2.1, if_pos (show (Int32.ofNat (m)) ≤ (Int32.ofNat (m)) from (i32_le (by omega) (by omega)).mpr (Nat.le_refl _))]
      exact q_ex ⟨I1, rfl, hF, hX⟩
  · rintro _ ⟨I1, rfl, hF, hX⟩
    simp only [Sum.elim_inr]
    unfold f_X5_line_j91
    exact q_ok ⟨I1, rfl, hF, hX⟩
def txP (l : List Nat) : GT := (l.length, fun k => (Int32.ofNat (tF l k)))
theorem C_printed {I' : Nat → Nat → Int32} (H : InvC I t s b n f v q p r h) (e : ∀ x, DC x → x ≠ 559 → x ≠ 562 → I' x = I x) (hp : CPr I' p') : InvC I' t s b n f v q p' r h := by
  obtain ⟨h1, h2, h3, h4, h5, h6, h7, h8, h9, h10⟩ := H
  refine ⟨CTy_keep h1 ?_, CSh_keep h2 ?_, CTb_keep h3 ?_, CNm_keep h4 ?_, CFn_keep h5 ?_, CV_keep h6 ?_, CKp_keep h7 ?_, hp, CTr_keep h9 ?_, CHs_keep h10 ?_⟩
  case refine_6 =>
    intro y g1 g2
    exact e y (by unfold DC; omega) (by omega) (by omega)
  all_goals
    intro y g
    exact e y (by unfold DC; omega) (by omega) (by omega)
theorem CX_CPr {l : List Nat} (H : CX I 559 562 l) : CPr I (txP l) := ⟨H.2.1, H.1, H.2.2⟩
end PF
