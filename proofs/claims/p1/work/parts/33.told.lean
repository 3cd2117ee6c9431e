/-! reading nothing; operators told -/
def st (I : Nat → Nat → Int32) (a k : Nat) (v : Int32) : Nat → Nat → Int32 := va_up I a (va_up (I a) k v)
theorem st_self {I : Nat → Nat → Int32} {a k : Nat} {v : Int32} : st I a k v a k = v := by
  unfold st
  rw [va_up_self, va_up_self]
theorem st_ne {I : Nat → Nat → Int32} {a k x : Nat} {v : Int32} (h : x ≠ a) : st I a k v x = I x := by
  unfold st
  rw [va_up_ne _ _ h]
theorem st_nk {I : Nat → Nat → Int32} {a k k' : Nat} {v : Int32} (h : k' ≠ k) : st I a k v a k' = I a k' := by
  unfold st
  rw [va_up_self, va_up_ne _ _ h]
theorem rng_dom {x : Int32} {m : Nat} (hm : m < 2147483648) (h : (0 : Int32) ≤ x) (h' : x ≤ Int32.ofNat m) : ∃ j, j ≤ m ∧ x = Int32.ofNat j := by
  rw [Int32.le_iff_toInt_le] at h h'
  rw [i32_toInt hm] at h'
  have a0 : (0 : Int32).toInt = 0 := by decide
  rw [a0] at h
  refine ⟨x.toInt.toNat, by omega, ?_⟩
  rw [← Int32.toInt_inj, i32_toInt (by omega)]
  omega
def sgp (p : Nat) : Nat := [6, 14, 4, 7, 2, 0, 1, 3, 9, 11, 10, 15, 13, 5, 8, 12].getD p 16
def plN (k : Nat) : Nat := (plc k).toNatClampNeg
theorem sgn_128 : ∀ k, k < 128 → (plc k = -1 ∧ f_X12_signOf xe0 (Int32.ofNat k) = some (-1)) ∨ (plN k < 16 ∧ plc k = Int32.ofNat (plN k) ∧ f_X12_signOf xe0 (Int32.ofNat k) = some (Int32.ofNat (sgp (plN k)))) := by decide +kernel
theorem sgp_lt : ∀ p, p < 16 → sgp p < 16 := by decide
theorem sgp_inj : ∀ p, p < 16 → ∀ q, q < 16 → sgp p = sgp q → p = q := by decide
theorem sgp_sur : ∀ s, s < 16 → ∀ b : Bool, True := fun _ _ _ => trivial
def sgi (s : Nat) : Nat := [5, 6, 4, 7, 2, 13, 0, 3, 14, 8, 10, 9, 15, 12, 1, 11].getD s 16
theorem sgi_ok : ∀ s, s < 16 → sgi s < 16 ∧ sgp (sgi s) = s := by decide
theorem i32_neq {k m : Nat} (h : k < 2147483648) (h' : m < 2147483648) (hn : k ≠ m) : ¬ (Int32.ofNat k = Int32.ofNat m) := fun q => hn ((i32_eq h h').mp q)
theorem sgn_dom {k : Nat} (hk : k < 65536) : ((128 ≤ k ∨ plc k = -1) ∧ ∀ σ, f_X12_signOf σ (Int32.ofNat k) = some (-1)) ∨ ∃ p, p < 16 ∧ k < 128 ∧ plc k = Int32.ofNat p ∧ ∀ σ, f_X12_signOf σ (Int32.ofNat k) = some (Int32.ofNat (sgp p)) := by
  by_cases h : k < 128
  · rcases sgn_128 k h with ⟨h1, h2⟩ | ⟨h1, h2, h3⟩
    · exact Or.inl ⟨Or.inr h1, fun _ => h2⟩
    · exact Or.inr ⟨plN k, h1, h, h2, fun _ => h3⟩
  · refine Or.inl ⟨Or.inl (by omega), fun σ => ?_⟩
    unfold f_X12_signOf
    rw [if_neg (show ¬ (Int32.ofNat k = 33) from i32_neq (m := 33) (by omega) (by omega) (by omega))]
    rw [if_neg (show ¬ (Int32.ofNat k = 35) from i32_neq (m := 35) (by omega) (by omega) (by omega))]
    rw [if_neg (show ¬ (Int32.ofNat k = 37) from i32_neq (m := 37) (by omega) (by omega) (by omega))]
    rw [if_neg (show ¬ (Int32.ofNat k = 38) from i32_neq (m := 38) (by omega) (by omega) (by omega))]
    rw [if_neg (show ¬ (Int32.ofNat k = 42) from i32_neq (m := 42) (by omega) (by omega) (by omega))]
    rw [if_neg (show ¬ (Int32.ofNat k = 43) from i32_neq (m := 43) (by omega) (by omega) (by omega))]
    rw [if_neg (show ¬ (Int32.ofNat k = 45) from i32_neq (m := 45) (by omega) (by omega) (by omega))]
    rw [if_neg (show ¬ (Int32.ofNat k = 47) from i32_neq (m := 47) (by omega) (by omega) (by omega))]
    rw [if_neg (show ¬ (Int32.ofNat k = 60) from i32_neq (m := 60) (by omega) (by omega) (by omega))]
    rw [if_neg (show ¬ (Int32.ofNat k = 61) from i32_neq (m := 61) (by omega) (by omega) (by omega))]
    rw [if_neg (show ¬ (Int32.ofNat k = 62) from i32_neq (m := 62) (by omega) (by omega) (by omega))]
    rw [if_neg (show ¬ (Int32.ofNat k = 63) from i32_neq (m := 63) (by omega) (by omega) (by omega))]
    rw [if_neg (show ¬ (Int32.ofNat k = 64) from i32_neq (m := 64) (by omega) (by omega) (by omega))]
    rw [if_neg (show ¬ (Int32.ofNat k = 94) from i32_neq (m := 94) (by omega) (by omega) (by omega))]
    rw [if_neg (show ¬ (Int32.ofNat k = 124) from i32_neq (m := 124) (by omega) (by omega) (by omega))]
    rw [if_neg (show ¬ (Int32.ofNat k = 126) from i32_neq (m := 126) (by omega) (by omega) (by omega))]
def TabRel (I : Nat → Nat → Int32) : Prop := ∀ p fx, p < 16 → fx < 3 → I 13 (fx * 16 + p) = I 4575 (3 * sgp p + fx) ∧ I 14 (fx * 16 + p) = I 4576 (3 * sgp p + fx) ∧ I 15 (fx * 16 + p) = I 4577 (3 * sgp p + fx)
section ET
variable {I : Nat → Nat → Int32} {J : Nat → Nat → Int64} {R : Nat → Nat → Option Nat}
theorem c_slot0 {k : Nat} {f : Int32} (hR : RA R) (h12 : I 12 = plc) (hk : k < 65536) (h : 128 ≤ k ∨ plc k = -1) : f_X1_slot (mg 4625 I J R) 11 (Int32.ofNat k) f = some (-1) := by
  have e : f_X1_slot_j23 (mg 4625 I J R) f (-1) = some (-1) := by
    unfold f_X1_slot_j23
    rw [if_pos (by decide)]
    rfl
  unfold f_X1_slot
  rw [if_neg (i32_nlt0 (by omega))]
  refine xb_eq (ogR_11_0 hR) (xb_eq ogL_12 ?_)
  by_cases hc : 128 ≤ k
  · rw [if_pos (show (128 : Int32) ≤ Int32.ofNat k from (i32_le (k := 128) (by omega) (by omega)).mpr hc)]
    exact e
  · rw [if_neg (show ¬ ((128 : Int32) ≤ Int32.ofNat k) from fun q => hc ((i32_le (k := 128) (by omega) (by omega)).mp q))]
    refine xb_eq (ogR_11_0 hR) (xb_eq (a := -1) ?_ e)
    rw [oaI_12, if_pos (xvi_nat (by omega) (by decide)), i32_nat (by omega), h12]
    rcases h with h | h
    · omega
    · rw [h]
theorem c_slot1 {k p fx : Nat} (hR : RA R) (h12 : I 12 = plc) (hk : k < 128) (hp : plc k = Int32.ofNat p) (hp2 : p < 16) (hf : fx ≤ 2) : f_X1_slot (mg 4625 I J R) 11 (Int32.ofNat k) (Int32.ofNat fx) = some (Int32.ofNat (fx * 16 + p)) :=
  e_slot (by decide) (hR.get (by decide) (by decide) rfl) h12 hk hp hp2 hf
theorem c_slot2 {k : Nat} {f : Int32} (hR : RA R) (h12 : I 12 = plc) (hk : k < 65536) (hf : ¬ ((0 : Int32) ≤ f ∧ f ≤ 2)) : f_X1_slot (mg 4625 I J R) 11 (Int32.ofNat k) f = some (-1) := by
  have e : ∀ x, f_X1_slot_j23 (mg 4625 I J R) f x = some (-1) := fun x => by
    unfold f_X1_slot_j23
    by_cases h1 : x < 0
    · rw [if_pos h1]; rfl
    · rw [if_neg h1]
      by_cases h2 : f < 0
      · rw [if_pos h2]; rfl
      · rw [if_neg h2, if_neg (fun q => hf ⟨Int32.not_lt.mp h2, q⟩)]
        rfl
  unfold f_X1_slot
  rw [if_neg (i32_nlt0 (by omega))]
  refine xb_eq (ogR_11_0 hR) (xb_eq ogL_12 ?_)
  by_cases hc : 128 ≤ k
  · rw [if_pos (show (128 : Int32) ≤ Int32.ofNat k from (i32_le (k := 128) (by omega) (by omega)).mpr hc)]
    exact e _
  · rw [if_neg (show ¬ ((128 : Int32) ≤ Int32.ofNat k) from fun q => hc ((i32_le (k := 128) (by omega) (by omega)).mp q))]
    refine xb_eq (ogR_11_0 hR) (xb_eq (a := I 12 k) ?_ (e _))
    rw [oaI_12, if_pos (xvi_nat (by omega) (by decide)), i32_nat (by omega)]
theorem c_rank0 {k : Nat} {f : Int32} (h : f_X1_slot (mg 4625 I J R) 11 (Int32.ofNat k) f = some (-1)) : f_X1_rank (mg 4625 I J R) 11 (Int32.ofNat k) f = some 0 := by
  unfold f_X1_rank
  refine xb_iq ok_11 (xb_eq h ?_)
  rw [if_neg (by decide)]
  rfl
theorem i32_0le {k : Nat} (h : k < 2147483648) : (0 : Int32) ≤ Int32.ofNat k := (i32_le (k := 0) (by omega) h).mpr (by omega)
theorem c_aI13 {s : Nat} (hs : s < 48) : aI (mg 4625 I J R) 13 14 (Int32.ofNat s) = some (I 13 s) := by
  rw [oaI_13, if_pos (xvi_nat hs (by decide)), i32_nat (by omega)]
theorem c_aI14 {s : Nat} (hs : s < 48) : aI (mg 4625 I J R) 14 14 (Int32.ofNat s) = some (I 14 s) := by
  rw [oaI_14, if_pos (xvi_nat hs (by decide)), i32_nat (by omega)]
theorem c_aI15 {s : Nat} (hs : s < 48) : aI (mg 4625 I J R) 15 14 (Int32.ofNat s) = some (I 15 s) := by
  rw [oaI_15, if_pos (xvi_nat hs (by decide)), i32_nat (by omega)]
theorem m_aI15 {s : Nat} (hs : s < 48) : aI (mg 4625 I J R) 4575 14 (Int32.ofNat s) = some (I 4575 s) := by
  rw [oaI_4575, if_pos (xvi_nat hs (by decide)), i32_nat (by omega)]
theorem m_aI16 {s : Nat} (hs : s < 48) : aI (mg 4625 I J R) 4576 14 (Int32.ofNat s) = some (I 4576 s) := by
  rw [oaI_4576, if_pos (xvi_nat hs (by decide)), i32_nat (by omega)]
theorem m_aI17 {s : Nat} (hs : s < 48) : aI (mg 4625 I J R) 4577 14 (Int32.ofNat s) = some (I 4577 s) := by
  rw [oaI_4577, if_pos (xvi_nat hs (by decide)), i32_nat (by omega)]
theorem c_rank1 {k s : Nat} {f : Int32} (hR : RA R) (hs : s < 48) (h : f_X1_slot (mg 4625 I J R) 11 (Int32.ofNat k) f = some (Int32.ofNat s)) : f_X1_rank (mg 4625 I J R) 11 (Int32.ofNat k) f = some (I 13 s) := by
  unfold f_X1_rank
  refine xb_iq ok_11 (xb_eq h ?_)
  rw [if_pos (i32_0le (by omega))]
  exact xb_eq (ogR_11_1 hR) (xb_eq (c_aI13 hs) rfl)
theorem c_side1 {k s : Nat} {f : Int32} (hR : RA R) (hs : s < 48) (h : f_X1_slot (mg 4625 I J R) 11 (Int32.ofNat k) f = some (Int32.ofNat s)) : f_X1_side (mg 4625 I J R) 11 (Int32.ofNat k) f = some (I 14 s) := by
  unfold f_X1_side
  refine xb_iq ok_11 (xb_eq h ?_)
  rw [if_pos (i32_0le (by omega))]
  exact xb_eq (ogR_11_2 hR) (xb_eq (c_aI14 hs) rfl)
theorem c_meaning1 {k s : Nat} {f : Int32} (hR : RA R) (hs : s < 48) (h : f_X1_slot (mg 4625 I J R) 11 (Int32.ofNat k) f = some (Int32.ofNat s)) : f_X1_meaning (mg 4625 I J R) 11 (Int32.ofNat k) f = some (if I 13 s = 0 then -1 else I 15 s) := by
  unfold f_X1_meaning
  refine xb_iq ok_11 (xb_eq h ?_)
  rw [if_neg (i32_nlt0 (by omega))]
  refine xb_eq (ogR_11_1 hR) (xb_eq (c_aI13 hs) ?_)
  by_cases h0 : I 13 s = 0
  · rw [if_pos h0, if_pos h0]; rfl
  · rw [if_neg h0, if_neg h0]
    exact xb_eq (ogR_11_3 hR) (xb_eq (c_aI15 hs) rfl)
theorem c_isFix1 {σ : xM} {f : Int32} (h : (0 : Int32) ≤ f) (h' : f ≤ 2) : f_X1_isFix σ f = some 1 := by
  unfold f_X1_isFix
  rw [if_neg (Int32.not_lt.mpr h), if_neg (Int32.not_lt.mpr h')]
  rfl
theorem c_isFix0 {σ : xM} {f : Int32} (h : ¬ ((0 : Int32) ≤ f ∧ f ≤ 2)) : f_X1_isFix σ f = some 0 := by
  unfold f_X1_isFix
  by_cases h1 : f < 0
  · rw [if_pos h1]; rfl
  · rw [if_neg h1, if_pos (Int32.not_le.mp (fun q => h ⟨Int32.not_lt.mp h1, q⟩))]
    rfl
theorem l_told {w c f x : Int32} (h : f_X11_told (mg 4625 I J R) 0 c f x = some (.inl w)) : f_L_told (mg 4625 I J R) 0 c f x 4624 = some (0, mg 4625 I (oJ J w.toInt64) R) := by
  unfold f_L_told
  refine xb_iq ok_0 (xb_eq h ?_)
  simp only [xlet, Sum.elim_inl]
  exact xb_eq owJ0 rfl
theorem p1_told {P : xM → Prop} (hP : ∀ J, P (mg 4625 (thI I 0) J R)) (hP1 : ∀ J, P (mg 4625 (thI I 1) J R)) (hR : RA R) (h12 : I 12 = plc) (tr : TabRel I) : op_told P (mg 4625 I J R) := by
  intro x1 x2 x3
  by_cases hf : (0 : Int32) ≤ x2 ∧ x2 ≤ (2 : Int32)
  · by_cases hw : (0 : Int32) ≤ x3 ∧ x3 ≤ (2 : Int32)
    · obtain ⟨k, hk, ek⟩ := ch_dom x1
      obtain ⟨fx, hfx, rfl⟩ := rng_dom (m := 2) (by decide) hf.1 hf.2
      obtain ⟨wx, hwx, rfl⟩ := rng_dom (m := 2) (by decide) hw.1 hw.2
      have key : ∃ w, f_X11_told (mg 4625 I J R) 0 (ch x1) (Int32.ofNat fx) (Int32.ofNat wx) = some (.inl w) ∧ ∀ J, f_X12_told_j24 (mg 4625 I J R) 4561 (ch x1) (Int32.ofNat fx) (Int32.ofNat wx) 0 4561 = some (w, mg 4625 (thI I 0) J R) := by
        rw [ek]
        rcases sgn_dom hk with ⟨h1, h2⟩ | ⟨p, hp, hk1, h1, h2⟩
        · refine ⟨-1, ?_, fun J => ?_⟩
          · unfold f_X11_told
            refine xb_eq (c_isFix1 hf.1 hf.2) ?_
            rw [if_neg (by decide), if_neg (Int32.not_lt.mpr hw.1), if_pos hw.2]
            refine xb_eq (ogR_0_2 hR) (xb_iq ok_11 (xb_eq (c_rank0 (c_slot0 hR h12 hk h1)) ?_))
            rw [if_pos rfl]
          · unfold f_X12_told_j24
            refine xb_iq ok_4561 (m_refO.trans (xb_eq (h2 _) ?_))
            unfold xlet
            refine xb_eq (h2 _) ?_
            rw [if_pos rfl]
            rfl
        · have hs := c_slot1 (J := J) hR h12 hk1 h1 hp hfx
          have hsl : fx * 16 + p < 48 := by omega
          have hml : 3 * sgp p + fx < 48 := by have := sgp_lt p hp; omega
          obtain ⟨t1, t2, t3⟩ := tr p fx hp (by omega)
          have e3 : (3 : Int32) * Int32.ofNat (sgp p) + Int32.ofNat fx = Int32.ofNat (3 * sgp p + fx) := by
            rw [Int32.ofNat_add, Int32.ofNat_mul]
            rfl
          have hneg : ¬ (Int32.ofNat (sgp p) = -1) := fun q => by
            have := i32_0le (k := sgp p) (by have := sgp_lt p hp; omega)
            rw [q] at this
            exact absurd this (by decide)
          by_cases hr : I 13 (fx * 16 + p) = 0
          · refine ⟨-1, ?_, fun J => ?_⟩
            · unfold f_X11_told
              refine xb_eq (c_isFix1 hf.1 hf.2) ?_
              rw [if_neg (by decide), if_neg (Int32.not_lt.mpr hw.1), if_pos hw.2]
              refine xb_eq (ogR_0_2 hR) (xb_iq ok_11 (xb_eq (c_rank1 hR hsl hs) ?_))
              rw [if_pos hr]
            · unfold f_X12_told_j24
              refine xb_iq ok_4561 (m_refO.trans (xb_eq (h2 _) ?_))
              unfold xlet
              refine xb_eq (h2 _) ?_
              rw [if_neg hneg, e3]
              refine xb_eq (ogR_4561_15 hR) (xb_eq (m_aI15 hml) ?_)
              rw [if_pos (show thI I 0 4575 (3 * sgp p + fx) = 0 from t1.symm.trans hr)]
              rfl
          · refine ⟨if wx = 0 then I 13 (fx * 16 + p) else if wx = 1 then I 14 (fx * 16 + p) else I 15 (fx * 16 + p), ?_, fun J => ?_⟩
            · unfold f_X11_told
              refine xb_eq (c_isFix1 hf.1 hf.2) ?_
              rw [if_neg (by decide), if_neg (Int32.not_lt.mpr hw.1), if_pos hw.2]
              refine xb_eq (ogR_0_2 hR) (xb_iq ok_11 (xb_eq (c_rank1 hR hsl hs) ?_))
              rw [if_neg hr]
              rcases (by omega : wx = 0 ∨ wx = 1 ∨ wx = 2) with rfl | rfl | rfl
              · exact if1 (show Int32.ofNat 0 = 0 from rfl) (xb_eq (ogR_0_2 hR) (xb_iq ok_11 (xb_eq (c_rank1 hR hsl hs) rfl)))
              · exact if0 (show ¬ Int32.ofNat 1 = 0 by decide) (if1 (show Int32.ofNat 1 = 1 from rfl) (xb_eq (ogR_0_2 hR) (xb_iq ok_11 (xb_eq (c_side1 hR hsl hs) rfl))))
              · refine if0 (show ¬ Int32.ofNat 2 = 0 by decide) (if0 (show ¬ Int32.ofNat 2 = 1 by decide) (xb_eq (ogR_0_2 hR) (xb_iq ok_11 (xb_eq (c_meaning1 hR hsl hs) ?_))))
                rw [if_neg hr]
                rfl
            · unfold f_X12_told_j24
              refine xb_iq ok_4561 (m_refO.trans (xb_eq (h2 _) ?_))
              unfold xlet
              refine xb_eq (h2 _) ?_
              rw [if_neg hneg, e3]
              refine xb_eq (ogR_4561_15 hR) (xb_eq (m_aI15 hml) ?_)
              rw [if_neg (show ¬ thI I 0 4575 (3 * sgp p + fx) = 0 from fun q => hr (t1.trans q))]
              rcases (by omega : wx = 0 ∨ wx = 1 ∨ wx = 2) with rfl | rfl | rfl
              · exact if1 (show Int32.ofNat 0 = 0 from rfl) (xb_eq (ogR_4561_15 hR) (xb_eq (m_aI15 hml) (congrArg (fun q => some (q, mg 4625 (thI I 0) J R)) t1.symm)))
              · exact if0 (show ¬ Int32.ofNat 1 = 0 by decide) (if1 (show Int32.ofNat 1 = 1 from rfl) (xb_eq (ogR_4561_16 hR) (xb_eq (m_aI16 hml) (congrArg (fun q => some (q, mg 4625 (thI I 0) J R)) t2.symm))))
              · exact if0 (show ¬ Int32.ofNat 2 = 0 by decide) (if0 (show ¬ Int32.ofNat 2 = 1 by decide) (xb_eq (ogR_4561_17 hR) (xb_eq (m_aI17 hml) (congrArg (fun q => some (q, mg 4625 (thI I 0) J R)) t3.symm))))
      obtain ⟨w, k1, k2⟩ := key
      refine op_ok (l_told k1) ?_ thI_0 (hP _)
      show f_X12_told _ 4561 _ _ _ = _
      unfold f_X12_told
      refine xb_eq (m_in1 hf.1 hf.2) ?_
      rw [if_neg (by decide)]
      refine xb_eq (m_in1 hw.1 hw.2) ?_
      rw [if_neg (by decide)]
      exact k2 _
    · have e0 : f_X11_told (mg 4625 I J R) 0 (ch x1) x2 x3 = some (.inr "java/lang/IllegalArgumentException") := by
        unfold f_X11_told
        refine xb_eq (c_isFix1 hf.1 hf.2) ?_
        rw [if_neg (by decide)]
        by_cases h : x3 < 0
        · rw [if_pos h]; rfl
        · rw [if_neg h, if_neg (fun q => hw ⟨Int32.not_lt.mp h, q⟩)]; rfl
      have e1 : f_L_told (mg 4625 I J R) 0 (ch x1) x2 x3 4624 = some (1, mg 4625 I J R) := by
        unfold f_L_told
        refine xb_iq ok_0 (xb_eq e0 ?_)
        simp only [xlet, Sum.elim_inr, ↓reduceIte]
      have e2 : f_X12_told (mg 4625 I J R) 4561 (ch x1) x2 x3 = some (0, mg 4625 (thI I 1) J R) := by
        unfold f_X12_told
        refine xb_eq (m_in1 hf.1 hf.2) ?_
        rw [if_neg (by decide)]
        refine xb_eq (m_in0 hw) ?_
        rw [if_pos rfl]
        unfold f_X12_told_j19 f_X12_told_j24
        exact xb_iq ok_4561 (m_refX.trans rfl)
      exact op_ex e1 e2 thI_0 (by decide) (hP1 _)
  · have e0 : f_X11_told (mg 4625 I J R) 0 (ch x1) x2 x3 = some (.inr "java/lang/IllegalArgumentException") := by
      unfold f_X11_told
      refine xb_eq (c_isFix0 hf) ?_
      rw [if_pos rfl]
      rfl
    have e1 : f_L_told (mg 4625 I J R) 0 (ch x1) x2 x3 4624 = some (1, mg 4625 I J R) := by
      unfold f_L_told
      refine xb_iq ok_0 (xb_eq e0 ?_)
      simp only [xlet, Sum.elim_inr, ↓reduceIte]
    have e2 : f_X12_told (mg 4625 I J R) 4561 (ch x1) x2 x3 = some (0, mg 4625 (thI I 1) J R) := by
      unfold f_X12_told
      refine xb_eq (m_in0 hf) ?_
      rw [if_pos rfl]
      unfold f_X12_told_j19 f_X12_told_j24
      exact xb_iq ok_4561 (m_refX.trans rfl)
    exact op_ex e1 e2 thI_0 (by decide) (hP1 _)
end ET
