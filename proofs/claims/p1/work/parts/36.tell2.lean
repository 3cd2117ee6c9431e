/-! tell -/
section EW
variable {I : Nat → Nat → Int32} {J : Nat → Nat → Int64} {R : Nat → Nat → Option Nat}
theorem m_tell_bad {a b c d e : Int32} : f_X12_tell_j63 (mg 4625 I J R) 4561 a b c d e = some (0, mg 4625 (thI I 1) J R) := by
  unfold f_X12_tell_j63 f_X12_tell_j64
  rw [if_pos rfl]
  unfold f_X12_tell_j119 f_X12_tell_j120
  rw [if_pos rfl]
  unfold f_X12_tell_j133
  exact xb_iq ok_4561 (m_refX.trans rfl)
theorem c_isSign0 {k : Nat} (hR : RA R) (h12 : I 12 = plc) (hk : k < 65536) (h : 128 ≤ k ∨ plc k = -1) : f_X1_isSign (mg 4625 I J R) 11 (Int32.ofNat k) = some 0 := by
  unfold f_X1_isSign
  refine xb_iq ok_11 (xb_eq (c_slot0 hR h12 hk h) ?_)
  rw [if_pos (by decide)]
  rfl
theorem c_isSign1 {k p : Nat} (hR : RA R) (h12 : I 12 = plc) (hk : k < 128) (hp : plc k = Int32.ofNat p) (hp2 : p < 16) : f_X1_isSign (mg 4625 I J R) 11 (Int32.ofNat k) = some 1 := by
  unfold f_X1_isSign
  refine xb_iq ok_11 (xb_eq (c_slot1 (fx := 0) hR h12 hk hp hp2 (by decide)) ?_)
  rw [if_neg (i32_nlt0 (by omega))]
  rfl
def Hind (I : Nat → Nat → Int32) (fx p : Nat) (rk sd : Int32) : Prop := (fx = 1 ∧ 0 < I 13 (32 + p)) ∨ (fx = 2 ∧ (0 < I 13 (16 + p) ∨ ∃ q, q < 16 ∧ Cl I p rk sd q))
theorem c_clashes {k p fx : Nat} {rk sd : Int32} (hR : RA R) (h12 : I 12 = plc) (hk : k < 128) (hp : plc k = Int32.ofNat p) (hp2 : p < 16) (hf : fx ≤ 2) : (Hind I fx p rk sd → f_X1_clashes (mg 4625 I J R) 11 (Int32.ofNat k) (Int32.ofNat fx) rk sd = some 1) ∧ (¬ Hind I fx p rk sd → f_X1_clashes (mg 4625 I J R) 11 (Int32.ofNat k) (Int32.ofNat fx) rk sd = some 0) := by
  have r2 : f_X1_rank (mg 4625 I J R) 11 (Int32.ofNat k) 2 = some (I 13 (32 + p)) := c_rank1 hR (s := 32 + p) (by omega) (by
    have := c_slot1 (I := I) (J := J) (fx := 2) hR h12 hk hp hp2 (by decide)
    exact this)
  have s2 : f_X1_slot (mg 4625 I J R) 11 (Int32.ofNat k) 2 = some (Int32.ofNat (32 + p)) := by
    have := c_slot1 (I := I) (J := J) (fx := 2) hR h12 hk hp hp2 (by decide)
    exact this
  have r1 : f_X1_rank (mg 4625 I J R) 11 (Int32.ofNat k) 1 = some (I 13 (16 + p)) := c_rank1 hR (s := 16 + p) (by omega) (by
    have := c_slot1 (I := I) (J := J) (fx := 1) hR h12 hk hp hp2 (by decide)
    exact this)
  have lp := c_cl_loop (I := I) (J := J) (rk := rk) (sd := sd) hR hp2 16 0 xF rfl (by decide)
  unfold f_X1_clashes Hind
  rcases (by omega : fx = 0 ∨ fx = 1 ∨ fx = 2) with rfl | rfl | rfl
  · rw [if_pos (show Int32.ofNat 0 = 0 from rfl)]
    exact ⟨fun q => q.elim (fun q => absurd q.1 (by decide)) (fun q => absurd q.1 (by decide)), fun _ => rfl⟩
  · rw [if_neg (show ¬ Int32.ofNat 1 = 0 by decide), if_pos (show Int32.ofNat 1 = 1 from rfl), if_pos ok_11, r2]
    dsimp only [Option.bind_some]
    by_cases h : I 13 (32 + p) ≤ 0
    · rw [if_pos h]
      exact ⟨fun q => q.elim (fun q => absurd q.2 (Int32.not_lt.mpr h)) (fun q => absurd q.1 (by decide)), fun _ => rfl⟩
    · rw [if_neg h]
      exact ⟨fun _ => rfl, fun q => absurd (Or.inl ⟨rfl, Int32.not_le.mp h⟩) q⟩
  · rw [if_neg (show ¬ Int32.ofNat 2 = 0 by decide), if_neg (show ¬ Int32.ofNat 2 = 1 by decide), if_pos ok_11, r1]
    dsimp only [Option.bind_some]
    by_cases h : I 13 (16 + p) ≤ 0
    · rw [if_pos h, if_pos ok_11, s2]
      dsimp only [Option.bind_some]
      unfold xlet
      constructor
      · intro q
        refine xb_eq (lp.1 ?_) rfl
        rcases q with q | ⟨-, q | ⟨q, h1, h2⟩⟩
        · exact absurd q.1 (by decide)
        · exact absurd q (Int32.not_lt.mpr h)
        · exact ⟨q, by omega, h1, h2⟩
      · intro q
        exact xb_eq (lp.2 (fun z _ h1 h2 => q (Or.inr ⟨rfl, Or.inr ⟨z, h1, h2⟩⟩))) rfl
    · rw [if_neg h]
      exact ⟨fun _ => rfl, fun q => absurd (Or.inr ⟨rfl, Or.inl (Int32.not_le.mp h)⟩) q⟩
theorem m_h119 {a b c d e : Int32} : f_X12_tell_j119 (mg 4625 I J R) 4561 a b c d e 1 = f_X12_tell_j133 (mg 4625 I J R) 4561 a b c d e 0 0 4561 := by
  unfold f_X12_tell_j119 f_X12_tell_j120
  exact if0 (show ¬ (1 : Int32) = 0 by decide) rfl
theorem m_h115 {a b c d e : Int32} : f_X12_tell_j115 (mg 4625 I J R) 4561 a b c d e 1 = f_X12_tell_j133 (mg 4625 I J R) 4561 a b c d e 1 0 4561 := by
  unfold f_X12_tell_j115 f_X12_tell_j120
  exact if0 (show ¬ (1 : Int32) = 0 by decide) rfl
theorem m_hi0 {s : Nat} {rk sd mn : Int32} : f_X12_tell_j64 (mg 4625 I J R) 4561 0 rk sd mn (Int32.ofNat s) 1 = f_X12_tell_j133 (mg 4625 I J R) 4561 0 rk sd mn (Int32.ofNat s) 0 0 4561 := by
  unfold f_X12_tell_j64
  exact if0 (show ¬ (1 : Int32) = 0 by decide) (if1 (show (0 : Int32) = 0 from rfl) m_h119)
theorem m_hi1 {s : Nat} {rk sd mn : Int32} (hR : RA R) (hs : s < 16) : f_X12_tell_j64 (mg 4625 I J R) 4561 1 rk sd mn (Int32.ofNat s) 1 = if 0 < I 4575 (3 * s + 2) then f_X12_tell_j133 (mg 4625 I J R) 4561 1 rk sd mn (Int32.ofNat s) 1 0 4561 else f_X12_tell_j133 (mg 4625 I J R) 4561 1 rk sd mn (Int32.ofNat s) 0 0 4561 := by
  have e : (3 : Int32) * Int32.ofNat s + 2 = Int32.ofNat (3 * s + 2) := e3q2 s
  unfold f_X12_tell_j64
  refine if0 (show ¬ (1 : Int32) = 0 by decide) (if0 (show ¬ (1 : Int32) = 0 by decide) (xb_eq (ogR_4561_15 hR) (if0 (show ¬ (1 : Int32) = 2 by decide) ?_)))
  unfold f_X12_tell_j93
  rw [e]
  refine xb_eq (m_aI15 (by omega)) ?_
  by_cases h : 0 < I 4575 (3 * s + 2)
  · exact if1 h (m_h115.trans (if_pos h).symm)
  · exact if0 h (if0 (show ¬ (1 : Int32) = 2 by decide) (m_h119.trans (if_neg h).symm))
theorem e3q1 (q : Nat) : (3 : Int32) * Int32.ofNat q + 1 = Int32.ofNat (3 * q + 1) := by
  rw [Int32.ofNat_add, Int32.ofNat_mul]
  rfl
theorem m_hi2 {s : Nat} {rk sd mn b : Int32} (hR : RA R) (hs : s < 16) (hb : f_X12_isOther (mg 4625 I J R) 4561 (Int32.ofNat s) rk sd = some b) : f_X12_tell_j64 (mg 4625 I J R) 4561 2 rk sd mn (Int32.ofNat s) 1 = if 0 < I 4575 (3 * s + 1) then f_X12_tell_j133 (mg 4625 I J R) 4561 2 rk sd mn (Int32.ofNat s) 1 0 4561 else if b = 0 then f_X12_tell_j133 (mg 4625 I J R) 4561 2 rk sd mn (Int32.ofNat s) 0 0 4561 else f_X12_tell_j133 (mg 4625 I J R) 4561 2 rk sd mn (Int32.ofNat s) 1 0 4561 := by
  have e : (3 : Int32) * Int32.ofNat s + 1 = Int32.ofNat (3 * s + 1) := e3q1 s
  unfold f_X12_tell_j64
  refine if0 (show ¬ (1 : Int32) = 0 by decide) (if0 (show ¬ (2 : Int32) = 0 by decide) (xb_eq (ogR_4561_15 hR) (if1 (show (2 : Int32) = 2 from rfl) ?_)))
  unfold f_X12_tell_j93
  rw [e]
  refine xb_eq (m_aI15 (by omega)) ?_
  by_cases h : 0 < I 4575 (3 * s + 1)
  · exact if1 h (m_h115.trans (if_pos h).symm)
  · refine (if0 h (if1 (show (2 : Int32) = 2 from rfl) (xb_iq ok_4561 (xb_eq hb ?_)))).trans (if_neg h).symm
    by_cases hq : b = 0
    · exact if1 hq (m_h119.trans (if_pos hq).symm)
    · exact if0 hq (m_h115.trans (if_neg hq).symm)
theorem m_hindB {I' : Nat → Nat → Int32} {p fx : Nat} {rk sd mn : Int32} (hR : RA R) (e15 : I' 4575 = I 4575) (e16 : I' 4576 = I 4576) (tr : TabRel I) (hp2 : p < 16) (hf : fx ≤ 2) : (Hind I fx p rk sd → f_X12_tell_j64 (mg 4625 I' J R) 4561 (Int32.ofNat fx) rk sd mn (Int32.ofNat (sgp p)) 1 = f_X12_tell_j133 (mg 4625 I' J R) 4561 (Int32.ofNat fx) rk sd mn (Int32.ofNat (sgp p)) 1 0 4561) ∧ (¬ Hind I fx p rk sd → f_X12_tell_j64 (mg 4625 I' J R) 4561 (Int32.ofNat fx) rk sd mn (Int32.ofNat (sgp p)) 1 = f_X12_tell_j133 (mg 4625 I' J R) 4561 (Int32.ofNat fx) rk sd mn (Int32.ofNat (sgp p)) 0 0 4561) := by
  have hs := sgp_lt p hp2
  rcases (by omega : fx = 0 ∨ fx = 1 ∨ fx = 2) with rfl | rfl | rfl
  · exact ⟨fun q => q.elim (fun q => absurd q.1 (by decide)) (fun q => absurd q.1 (by decide)), fun _ => m_hi0⟩
  · have t1 : I 13 (32 + p) = I' 4575 (3 * sgp p + 2) := by
      rw [e15]
      exact (tr p 2 hp2 (by omega)).1
    have h1 := m_hi1 (I := I') (J := J) (rk := rk) (sd := sd) (mn := mn) hR hs
    constructor
    · intro q
      rcases q with q | q
      · exact h1.trans (if_pos (t1 ▸ q.2))
      · exact absurd q.1 (by decide)
    · intro q
      exact h1.trans (if_neg (fun z => q (Or.inl ⟨rfl, t1.symm ▸ z⟩)))
  · have t1 : I 13 (16 + p) = I' 4575 (3 * sgp p + 1) := by
      rw [e15]
      exact (tr p 1 hp2 (by omega)).1
    have ho := m_isOther (I := I') (J := J) (rk := rk) (sd := sd) hR hs
    have hc := cl_iff (rk := rk) (sd := sd) tr hp2
    have ec : ∀ q, ClM I' (sgp p) rk sd q = ClM I (sgp p) rk sd q := fun q => by
      unfold ClM
      rw [e15, e16]
    by_cases hq : ∃ q, q < 16 ∧ ClM I (sgp p) rk sd q
    · obtain ⟨z, z1, z2⟩ := hq
      have h1 := m_hi2 (mn := mn) hR hs (ho.1 ⟨z, z1, (ec z).mpr z2⟩)
      have hh : Hind I 2 p rk sd := Or.inr ⟨rfl, Or.inr (hc.mpr ⟨z, z1, z2⟩)⟩
      refine ⟨fun _ => h1.trans ?_, fun q => absurd hh q⟩
      by_cases h : 0 < I' 4575 (3 * sgp p + 1)
      · exact if_pos h
      · exact (if_neg h).trans (if_neg (by decide))
    · have h1 := m_hi2 (mn := mn) hR hs (ho.2 (fun q g1 g2 => hq ⟨q, g1, (ec q).mp g2⟩))
      constructor
      · intro q
        rcases q with q | ⟨-, q | q⟩
        · exact absurd q.1 (by decide)
        · exact h1.trans (if_pos (t1 ▸ q))
        · exact absurd (hc.mp q) hq
      · intro q
        exact h1.trans ((if_neg (fun z => q (Or.inr ⟨rfl, Or.inl (t1.symm ▸ z)⟩))).trans (if_pos rfl))
theorem m_hind {p fx : Nat} {rk sd mn : Int32} (hR : RA R) (tr : TabRel I) (hp2 : p < 16) (hf : fx ≤ 2) : (Hind I fx p rk sd → f_X12_tell_j64 (mg 4625 I J R) 4561 (Int32.ofNat fx) rk sd mn (Int32.ofNat (sgp p)) 1 = f_X12_tell_j133 (mg 4625 I J R) 4561 (Int32.ofNat fx) rk sd mn (Int32.ofNat (sgp p)) 1 0 4561) ∧ (¬ Hind I fx p rk sd → f_X12_tell_j64 (mg 4625 I J R) 4561 (Int32.ofNat fx) rk sd mn (Int32.ofNat (sgp p)) 1 = f_X12_tell_j133 (mg 4625 I J R) 4561 (Int32.ofNat fx) rk sd mn (Int32.ofNat (sgp p)) 0 0 4561) := m_hindB hR rfl rfl tr hp2 hf
def toM (I : Nat → Nat → Int32) (f m s : Nat) (rk sd mn : Int32) : Nat → Nat → Int32 := st (st (st (ntM (thI I 0) f m 1 (Int32.ofNat s) (I 4575 s) (I 4576 s) (I 4577 s)) 4575 s rk) 4576 s sd) 4577 s mn
theorem m_tell_ok {f m p fx : Nat} {rk sd mn : Int32} (hR : RA R) (hf : I 4561 83 = Int32.ofNat f) (hm : I 4561 84 = Int32.ofNat m) (hf2 : f < 20) (hm2 : m < 20) (hp2 : p < 16) (hfx : fx ≤ 2) : f_X12_tell_j133 (mg 4625 I J R) 4561 (Int32.ofNat fx) rk sd mn (Int32.ofNat (sgp p)) 0 0 4561 = some (I 4575 (3 * sgp p + fx), mg 4625 (toM I f m (3 * sgp p + fx) rk sd mn) J R) := by
  have hs := sgp_lt p hp2
  have e3 : (3 : Int32) * Int32.ofNat (sgp p) + Int32.ofNat fx = Int32.ofNat (3 * sgp p + fx) := by
    rw [Int32.ofNat_add, Int32.ofNat_mul]
    rfl
  have hl : 3 * sgp p + fx < 48 := by omega
  generalize 3 * sgp p + fx = s at e3 hl ⊢
  have w5 : ∀ (I : Nat → Nat → Int32) v, wI (mg 4625 I J R) 4575 (Int32.ofNat s) v = some (mg 4625 (st I 4575 s v) J R) := fun I v => by
    rw [owI_4575, if_pos (xvi_nat hl (by decide)), i32_nat (by omega)]
    rfl
  have w6 : ∀ (I : Nat → Nat → Int32) v, wI (mg 4625 I J R) 4576 (Int32.ofNat s) v = some (mg 4625 (st I 4576 s v) J R) := fun I v => by
    rw [owI_4576, if_pos (xvi_nat hl (by decide)), i32_nat (by omega)]
    rfl
  have w7 : ∀ (I : Nat → Nat → Int32) v, wI (mg 4625 I J R) 4577 (Int32.ofNat s) v = some (mg 4625 (st I 4577 s v) J R) := fun I v => by
    rw [owI_4577, if_pos (xvi_nat hl (by decide)), i32_nat (by omega)]
    rfl
  unfold f_X12_tell_j133
  refine xb_iq ok_4561 (m_refO.trans ?_)
  rw [e3]
  unfold xlet
  refine xb_eq (ogR_4561_15 hR) (xb_eq (m_aI15 hl) (xb_eq (ogR_4561_15 hR) (xb_eq (m_aI15 hl) (xb_eq (ogR_4561_16 hR) (xb_eq (m_aI16 hl) (xb_eq (ogR_4561_17 hR) (xb_eq (m_aI17 hl) ?_)))))))
  refine xb_iq ok_4561 (xb_eq (m_note hR (show thI I 0 4561 83 = Int32.ofNat f from hf) (show thI I 0 4561 84 = Int32.ofNat m from hm) hf2 hm2) ?_)
  refine xb_eq (ogR_4561_15 hR) (xb_eq (w5 _ _) (xb_eq (ogR_4561_16 hR) (xb_eq (w6 _ _) (xb_eq (ogR_4561_17 hR) (xb_eq (w7 _ _) ?_)))))
  rfl
theorem l_tell {w a b c d e : Int32} {I1 : Nat → Nat → Int32} (h : f_X11_tell (mg 4625 I J R) 0 a b c d e = some (.inl w, mg 4625 I1 J R)) : f_L_tell (mg 4625 I J R) 0 a b c d e 4624 = some (0, mg 4625 I1 (oJ J w.toInt64) R) := by
  unfold f_L_tell
  refine xb_iq ok_0 (xb_eq h ?_)
  simp only [xlet, Sum.elim_inl]
  exact xb_eq owJ0 rfl
theorem p1_tell {P : xM → Prop} {f m f' m' : Nat} (hP0 : P (mg 4625 (thI I 1) J R)) (hP1 : P (mg 4625 (thI I 2) J R)) (hP2 : ∀ fx p rk sd mn J, p < 16 → fx ≤ 2 → OpOK fx rk sd mn → ¬ Hind I fx p rk sd → P (mg 4625 (toM (toC I f m (fx * 16 + p) rk sd mn) f' m' (3 * sgp p + fx) rk sd mn) J R))
    (hR : RA R) (h12 : I 12 = plc) (tr : TabRel I) (hf : I 11 13 = Int32.ofNat f) (hm : I 11 14 = Int32.ofNat m) (hf2 : f < 20) (hm2 : m < 20) (hf' : I 4561 83 = Int32.ofNat f') (hm' : I 4561 84 = Int32.ofNat m') (hf2' : f' < 20) (hm2' : m' < 20) : op_tell P (mg 4625 I J R) := by
  intro x1 x2 x3 x4 x5
  have bad : f_X11_tell (mg 4625 I J R) 0 (ch x1) x2 x3 x4 x5 = some (.inr "java/lang/IllegalArgumentException", mg 4625 I J R) → f_X12_tell (mg 4625 I J R) 4561 (ch x1) x2 x3 x4 x5 = some (0, mg 4625 (thI I 1) J R) → opW P (f_L_tell (mg 4625 I J R) 0 (ch x1) x2 x3 x4 x5 4624) (fun σ => f_X12_tell σ 4561 (ch x1) x2 x3 x4 x5) := fun e0 e2 => by
    have e1 : f_L_tell (mg 4625 I J R) 0 (ch x1) x2 x3 x4 x5 4624 = some (1, mg 4625 I J R) := by
      unfold f_L_tell
      refine xb_iq ok_0 (xb_eq e0 ?_)
      simp only [xlet, Sum.elim_inr, ↓reduceIte, String.reduceEq]
    exact op_ex e1 e2 thI_0 (by decide) hP0
  obtain ⟨k, hk, ek⟩ := ch_dom x1
  rcases sgn_dom hk with ⟨h1, h2⟩ | ⟨p, hp, hk1, h1, h2⟩
  · refine bad ?_ ?_
    · rw [ek]
      unfold f_X11_tell
      refine xb_eq (ogR_0_2 hR) (xb_iq ok_11 (xb_eq (c_isSign0 hR h12 hk h1) ?_))
      rw [if_pos rfl]
      rfl
    · rw [ek]
      unfold f_X12_tell
      refine xb_eq (h2 _) ?_
      rw [if_pos rfl]
      exact m_tell_bad
  · have hneg : ¬ (Int32.ofNat (sgp p) = -1) := fun q => by
      have := i32_0le (k := sgp p) (by have := sgp_lt p hp; omega)
      rw [q] at this
      exact absurd this (by decide)
    by_cases hf0 : (0 : Int32) ≤ x2 ∧ x2 ≤ (2 : Int32)
    · obtain ⟨fx, hfx, rfl⟩ := rng_dom (m := 2) (by decide) hf0.1 hf0.2
      by_cases hop : OpOK fx x3 x4 x5
      · -- an operator
        have m1 : ∀ J I, f_X12_tell (mg 4625 I J R) 4561 (ch x1) (Int32.ofNat fx) x3 x4 x5 = f_X12_tell_j64 (mg 4625 I J R) 4561 (Int32.ofNat fx) x3 x4 x5 (Int32.ofNat (sgp p)) 1 := fun J I => by
          rw [ek]
          unfold f_X12_tell
          refine xb_eq (h2 _) ?_
          rw [if_neg hneg]
          refine xb_eq (m_in1 hf0.1 hf0.2) ?_
          rw [if_neg (by decide)]
          refine xb_eq (m_in1 hop.1.1 hop.1.2) ?_
          rw [if_neg (by decide)]
          have j44 : ∀ c : Int32, c = (if fx = 2 then 2 else 0) → f_X12_tell_j44 (mg 4625 I J R) 4561 (Int32.ofNat fx) x3 x4 x5 (Int32.ofNat (sgp p)) c 0 x4 = f_X12_tell_j64 (mg 4625 I J R) 4561 (Int32.ofNat fx) x3 x4 x5 (Int32.ofNat (sgp p)) 1 := fun c hc => by
            unfold f_X12_tell_j44
            refine xb_eq (m_in1 hop.2.1.1 (hc ▸ hop.2.1.2)) ?_
            rw [if_neg (by decide)]
            refine xb_eq ((m_mean hfx).1 hop.2.2) ?_
            rw [if_neg (by decide)]
          by_cases h5 : fx = 2
          · rw [if_pos (by rw [h5]; rfl)]
            exact j44 2 (by rw [if_pos h5])
          · rw [if_neg (show ¬ (Int32.ofNat fx = 2) from i32_neq (m := 2) (by omega) (by omega) h5)]
            exact j44 0 (by rw [if_neg h5])
        have c1 : ∀ r, (if xk (mg 4625 I J R) 11 1 = true then (f_X1_clashes (mg 4625 I J R) 11 (Int32.ofNat k) (Int32.ofNat fx) x3 x4).bind (fun p6 => (if p6 = (0 : Int32) then (gR (mg 4625 I J R) 0 11 2).bind (fun x7 => (if xk (mg 4625 I J R) x7 1 = true then (f_X1_rank (mg 4625 I J R) x7 (Int32.ofNat k) (Int32.ofNat fx)).bind (fun p8 => (gR (mg 4625 I J R) 0 11 2).bind (fun x9 => (if xk (mg 4625 I J R) x9 1 = true then (f_X1_tellOperator (mg 4625 I J R) x9 (Int32.ofNat k) (Int32.ofNat fx) x3 x4 x5).bind (fun p10 => some ((Sum.inl p8), p10)) else none))) else none)) else some ((Sum.inr "java/lang/IllegalStateException"), (mg 4625 I J R)))) else none) = r → f_X11_tell (mg 4625 I J R) 0 (ch x1) (Int32.ofNat fx) x3 x4 x5 = r := fun r hr => by
          rw [ek]
          unfold f_X11_tell
          refine xb_eq (ogR_0_2 hR) (xb_iq ok_11 (xb_eq (c_isSign1 hR h12 hk1 h1 hp) ?_))
          rw [if_neg (by decide)]
          refine xb_eq (c_isFix1 hf0.1 hf0.2) ?_
          rw [if_neg (by decide)]
          refine xb_eq ((c_isOp hfx).1 hop) ?_
          rw [if_neg (by decide)]
          exact xb_eq (ogR_0_2 hR) hr
        have cc := c_clashes (I := I) (J := J) (rk := x3) (sd := x4) hR h12 hk1 h1 hp hfx
        have mh := fun J => m_hind (I := I) (J := J) (rk := x3) (sd := x4) (mn := x5) hR tr hp hfx
        by_cases hh : Hind I fx p x3 x4
        · have e0 := c1 (some (.inr "java/lang/IllegalStateException", mg 4625 I J R)) (by
            refine xb_iq ok_11 (xb_eq (cc.1 hh) ?_)
            rw [if_neg (by decide)])
          have e1 : f_L_tell (mg 4625 I J R) 0 (ch x1) (Int32.ofNat fx) x3 x4 x5 4624 = some (2, mg 4625 I J R) := by
            unfold f_L_tell
            refine xb_iq ok_0 (xb_eq e0 ?_)
            simp only [xlet, Sum.elim_inr, ↓reduceIte, String.reduceEq]
          refine op_ex (b := 0) (I2 := thI I 2) (J2 := J) (R2 := R) e1 ((m1 J I).trans (((mh J).1 hh).trans ?_)) thI_0 (by decide) hP1
          unfold f_X12_tell_j133
          exact xb_iq ok_4561 (m_refY.trans rfl)
        · have hsl : fx * 16 + p < 48 := by omega
          have hs := c_slot1 (I := I) (J := J) hR h12 hk1 h1 hp hfx
          have e0 := c1 (some (.inl (I 13 (fx * 16 + p)), mg 4625 (toC I f m (fx * 16 + p) x3 x4 x5) J R)) (by
            refine xb_iq ok_11 (xb_eq (cc.2 hh) ?_)
            rw [if_pos rfl]
            exact xb_eq (ogR_0_2 hR) (xb_iq ok_11 (xb_eq (c_rank1 hR hsl hs) (xb_eq (ogR_0_2 hR) (xb_iq ok_11 (xb_eq (c_tellOperator hR hf hm hf2 hm2 hsl hs) rfl))))))
          have tp := tr p fx hp (by omega)
          have nM : ∀ x, 4561 ≤ x → toC I f m (fx * 16 + p) x3 x4 x5 x = I x := fun x hx => by
            have hq : (f + m) % 20 < 20 := Nat.mod_lt _ (by decide)
            unfold toC bgI ntC
            rw [va_up_ne _ _ (by omega), va_up_ne _ _ (by omega), va_up_ne _ _ (by omega), st_ne (by omega), st_ne (by omega), st_ne (by omega), st_ne (by omega), st_ne (by omega), st_ne (by omega)]
          refine op_ok (l_tell e0) ?_ ?_ (hP2 fx p x3 x4 x5 _ hp hfx hop hh)
          · -- the reference goes on from what the class left
            have tab2 : f_X12_tell_j64 (mg 4625 (toC I f m (fx * 16 + p) x3 x4 x5) (oJ J (I 13 (fx * 16 + p)).toInt64) R) 4561 (Int32.ofNat fx) x3 x4 x5 (Int32.ofNat (sgp p)) 1 = f_X12_tell_j133 (mg 4625 (toC I f m (fx * 16 + p) x3 x4 x5) (oJ J (I 13 (fx * 16 + p)).toInt64) R) 4561 (Int32.ofNat fx) x3 x4 x5 (Int32.ofNat (sgp p)) 0 0 4561 := by
              exact (m_hindB (I := I) hR (nM 4575 (by decide)) (nM 4576 (by decide)) tr hp hfx).2 hh
            refine (m1 _ _).trans (tab2.trans ((m_tell_ok hR ((congrFun (nM 4561 (by decide)) _).trans hf') ((congrFun (nM 4561 (by decide)) _).trans hm') hf2' hm2' hp hfx).trans ?_))
            rw [nM 4575 (by decide), ← tp.1]
          · rfl
      · refine bad ?_ ?_
        · rw [ek]
          unfold f_X11_tell
          refine xb_eq (ogR_0_2 hR) (xb_iq ok_11 (xb_eq (c_isSign1 hR h12 hk1 h1 hp) ?_))
          rw [if_neg (by decide)]
          refine xb_eq (c_isFix1 hf0.1 hf0.2) ?_
          rw [if_neg (by decide)]
          refine xb_eq ((c_isOp hfx).2 hop) ?_
          rw [if_pos rfl]
          rfl
        · rw [ek]
          unfold f_X12_tell
          refine xb_eq (h2 _) ?_
          rw [if_neg hneg]
          refine xb_eq (m_in1 hf0.1 hf0.2) ?_
          rw [if_neg (by decide)]
          by_cases h3 : (1 : Int32) ≤ x3 ∧ x3 ≤ 9
          · refine xb_eq (m_in1 h3.1 h3.2) ?_
            rw [if_neg (by decide)]
            have j44 : ∀ c : Int32, c = (if fx = 2 then 2 else 0) → f_X12_tell_j44 (mg 4625 I J R) 4561 (Int32.ofNat fx) x3 x4 x5 (Int32.ofNat (sgp p)) c 0 x4 = some (0, mg 4625 (thI I 1) J R) := fun c hc => by
              unfold f_X12_tell_j44
              by_cases h4 : (0 : Int32) ≤ x4 ∧ x4 ≤ c
              · refine xb_eq (m_in1 h4.1 h4.2) ?_
                rw [if_neg (by decide)]
                refine xb_eq ((m_mean hfx).2 (fun z => hop ⟨h3, ⟨h4.1, hc ▸ h4.2⟩, z⟩)) ?_
                rw [if_pos rfl]
                exact m_tell_bad
              · refine xb_eq (m_in0 h4) ?_
                rw [if_pos rfl]
                exact m_tell_bad
            by_cases h5 : fx = 2
            · rw [if_pos (by rw [h5]; rfl)]
              exact j44 2 (by rw [if_pos h5])
            · rw [if_neg (show ¬ (Int32.ofNat fx = 2) from i32_neq (m := 2) (by omega) (by omega) h5)]
              exact j44 0 (by rw [if_neg h5])
          · refine xb_eq (m_in0 h3) ?_
            rw [if_pos rfl]
            exact m_tell_bad
    · refine bad ?_ ?_
      · rw [ek]
        unfold f_X11_tell
        refine xb_eq (ogR_0_2 hR) (xb_iq ok_11 (xb_eq (c_isSign1 hR h12 hk1 h1 hp) ?_))
        rw [if_neg (by decide)]
        refine xb_eq (c_isFix0 hf0) ?_
        rw [if_pos rfl]
        rfl
      · rw [ek]
        unfold f_X12_tell
        refine xb_eq (h2 _) ?_
        rw [if_neg hneg]
        refine xb_eq (m_in0 hf0) ?_
        rw [if_pos rfl]
        exact m_tell_bad
end EW
