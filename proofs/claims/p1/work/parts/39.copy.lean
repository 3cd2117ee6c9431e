/-! numbers and fractions copied -/
theorem kb_2 {x : Nat} (h : (KK x).1 = 2) : kb x = 2 := by
  unfold kb
  rw [if_pos h]
theorem kb_10 {x : Nat} (h : (KK x).1 = 10) : kb x = 1 := by
  unfold kb
  rw [if_neg (by rw [h]; decide), if_pos h]
abbrev Fr (b n : Nat) : Prop := b + 4 < 4625 ∧ (KK b).1 = 2 ∧ (KK (b + 1)).1 = 10 ∧ KK (b + 2) = (14, n) ∧ (KK (b + 3)).1 = 10 ∧ KK (b + 4) = (14, n) ∧ RR b 0 = some (b + 1) ∧ RR b 1 = some (b + 3) ∧ RR (b + 1) 0 = some (b + 2) ∧ RR (b + 3) 0 = some (b + 4)
theorem Fr_latest : Fr 4541 7 := by decide +kernel
theorem Fr_compared : Fr 4546 7 := by decide +kernel
theorem Fr_kept : ∀ i, i < 9 → Fr (4416 + 15 * i) 7 := by decide +kernel
theorem RR_2230 : ∀ i, i < 9 → RR 2230 i = some (4416 + 15 * i) ∧ i < kb 2230 := by decide +kernel
def ncI (I : Nat → Nat → Int32) (l0 l1 a0 a1 s : Nat) : Nat → Nat → Int32 := cpF (st (st I l0 2 (I l1 2)) l0 1 (Int32.ofNat s)) a1 a0 0 s
theorem ncI_ne {I : Nat → Nat → Int32} {l0 l1 a0 a1 s x : Nat} (h : x ≠ l0) (h' : x ≠ a0) : ncI I l0 l1 a0 a1 s x = I x := by
  unfold ncI
  rw [cpF_ne h', st_ne h, st_ne h]
section FA
variable {I : Nat → Nat → Int32} {J : Nat → Nat → Int64} {R : Nat → Nat → Option Nat}
theorem c_cs_loop {l0 l1 a0 a1 n0 n1 s : Nat} (h0 : l0 < 4625) (h1 : l1 < 4625) (k0 : (KK l0).1 = 10) (k1 : (KK l1).1 = 10) (r0 : R l0 0 = some a0) (r1 : R l1 0 = some a1) (ha0 : a0 < 4625) (ha1 : a1 < 4625) (ka0 : KK a0 = (14, n0)) (ka1 : KK a1 = (14, n1)) (hn0 : n0 ≤ 1000) (hn1 : n1 ≤ 1000) (hs0 : s ≤ n0) (hs1 : s ≤ n1) (d : a1 ≠ a0) (d0 : l0 ≠ a0) : ∀ (m i f : Nat) (I : Nat → Nat → Int32), I l0 1 = Int32.ofNat s → i + m = s → m < f → xloop f_X10_copySize_s30 f (l0, l1, Int32.ofNat i, mg 4625 I J R) = some (.inr (mg 4625 (cpF I a1 a0 i s) J R)) := by
  intro m
  induction m with
  | zero =>
    intro i f I hI hi hf
    have e : i = s := by omega
    rw [e]
    refine xl_e hf ?_
    unfold f_X10_copySize_s30 xlet
    dsimp only
    refine xg_eq (Int32.ofNat s) (e_gI h0 k0) hI ?_
    rw [if_pos ((i32_le (by omega) (by omega)).mpr (Nat.le_refl _)), cpF_z]
  | succ m ih =>
    intro i f I hI hi hf
    rw [← cpF_s d (show i < s by omega)]
    refine (xl_s (by omega) ?_).trans (ih (i + 1) (f - 1) (st I a0 i (I a1 i)) ((congrFun (st_ne d0) 1).trans hI) (by omega) (by omega))
    unfold f_X10_copySize_s30 xlet
    dsimp only
    refine xg_eq (Int32.ofNat s) (e_gI h0 k0) hI ?_
    rw [if_neg (i32_nle (by omega) (by omega) (by omega))]
    refine xb_eq (e_gR h0 k0 r0) (xb_eq (e_gR h1 k1 r1) (xb_eq (e_aI (len := n1) ha1 ka1 (by omega) (by omega)) (xb_eq (e_wI (len := n0) ha0 ka0 (by omega) (by omega)) ?_)))
    rw [i32_ofs]
    rfl
theorem c_copySize {l0 l1 a0 a1 n0 n1 s : Nat} (h0 : l0 < 4625) (h1 : l1 < 4625) (k0 : (KK l0).1 = 10) (k1 : (KK l1).1 = 10) (r0 : R l0 0 = some a0) (r1 : R l1 0 = some a1) (ha0 : a0 < 4625) (ha1 : a1 < 4625) (ka0 : KK a0 = (14, n0)) (ka1 : KK a1 = (14, n1)) (hn0 : n0 ≤ 1000) (hn1 : n1 ≤ 1000) (hs : I l1 1 = Int32.ofNat s) (hs0 : s ≤ n0) (hs1 : s ≤ n1) (d : a1 ≠ a0) (d0 : l0 ≠ a0) : f_X10_copySize (mg 4625 I J R) l0 l1 = some (mg 4625 (cpF (st I l0 1 (Int32.ofNat s)) a1 a0 0 s) J R) := by
  have j : f_X10_copySize_j25 (mg 4625 I J R) l0 l1 (Int32.ofNat s) l0 = some (mg 4625 (cpF (st I l0 1 (Int32.ofNat s)) a1 a0 0 s) J R) := by
    unfold f_X10_copySize_j25
    refine xb_eq (e_sI h0 k0) ?_
    simp only [xlet]
    exact xb_eq (c_cs_loop h0 h1 k0 k1 r0 r1 ha0 ha1 ka0 ka1 hn0 hn1 hs0 hs1 d d0 s 0 xF (st I l0 1 (Int32.ofNat s)) st_self (by omega) (by unfold xF; omega)) rfl
  unfold f_X10_copySize
  refine xg_eq (Int32.ofNat s) (e_gI h1 k1) hs (xb_eq (e_gR h0 k0 r0) (xb_eq (e_gL (len := n0) ha0 ka0) ?_))
  by_cases h : n0 ≤ s
  · have e : n0 = s := by omega
    rw [if_pos ((i32_le (by omega) (by omega)).mpr h)]
    refine xb_eq (e_gR h0 k0 r0) (xb_eq (e_gL (len := n0) ha0 ka0) ?_)
    rw [e]
    exact j
  · rw [if_neg (i32_nle (by omega) (by omega) (by omega))]
    exact xg_eq (Int32.ofNat s) (e_gI h1 k1) hs j
theorem c_numcopy {l0 l1 a0 a1 n0 n1 s : Nat} (h0 : l0 < 4625) (h1 : l1 < 4625) (k0 : (KK l0).1 = 10) (k1 : (KK l1).1 = 10) (r0 : R l0 0 = some a0) (r1 : R l1 0 = some a1) (ha0 : a0 < 4625) (ha1 : a1 < 4625) (ka0 : KK a0 = (14, n0)) (ka1 : KK a1 = (14, n1)) (hn0 : n0 ≤ 1000) (hn1 : n1 ≤ 1000) (hs : I l1 1 = Int32.ofNat s) (hs0 : s ≤ n0) (hs1 : s ≤ n1) (hz : I l1 2 = 0 ∨ I l1 2 = 1) (d : a1 ≠ a0) (d0 : l0 ≠ a0) (d1 : l1 ≠ l0) : f_X10_copy (mg 4625 I J R) l0 l1 = some (mg 4625 (ncI I l0 l1 a0 a1 s) J R) := by
  have hv : (I l1 2 == 0 || I l1 2 == 1) = true := by
    rcases hz with e | e <;> rw [e] <;> decide
  unfold f_X10_copy
  refine xb_eq (e_gI h1 k1) (xb_eq (e_sZ h0 k0 hv) (xb_iq (me_xk h0 k0) (xb_eq (c_copySize (I := st I l0 2 (I l1 2)) h0 h1 k0 k1 r0 r1 ha0 ha1 ka0 ka1 hn0 hn1 ((congrFun (st_ne d1) 1).trans hs) hs0 hs1 d d0) ?_)))
  rfl
def fcI (I : Nat → Nat → Int32) (b0 b1 s t : Nat) : Nat → Nat → Int32 := ncI (ncI I (b0 + 1) (b1 + 1) (b0 + 2) (b1 + 2) s) (b0 + 3) (b1 + 3) (b0 + 4) (b1 + 4) t
theorem c_fraccopy {b0 b1 n0 n1 s t : Nat} (hR : RA R) (F0 : Fr b0 n0) (F1 : Fr b1 n1) (hn0 : n0 ≤ 1000) (hn1 : n1 ≤ 1000) (hd : b0 + 5 ≤ b1 ∨ b1 + 5 ≤ b0) (hs : I (b1 + 1) 1 = Int32.ofNat s) (ht : I (b1 + 3) 1 = Int32.ofNat t) (hs0 : s ≤ n0) (hs1 : s ≤ n1) (ht0 : t ≤ n0) (ht1 : t ≤ n1) (hz : I (b1 + 1) 2 = 0 ∨ I (b1 + 1) 2 = 1) (hy : I (b1 + 3) 2 = 0 ∨ I (b1 + 3) 2 = 1) : f_X2_copy (mg 4625 I J R) b0 b1 = some (mg 4625 (fcI I b0 b1 s t) J R) := by
  obtain ⟨u0, u1, u2, u3', u4, u5, u6, u7, u8, u9⟩ := F0
  obtain ⟨w0, w1, w2, w3, w4, w5, w6, w7, w8, w9⟩ := F1
  unfold f_X2_copy
  refine xb_eq (e_gR (by omega) u1 (hR.get (by omega) (by rw [kb_2 u1]; decide) u6)) (xb_eq (e_gR (by omega) w1 (hR.get (by omega) (by rw [kb_2 w1]; decide) w6)) (xb_iq (me_xk (by omega) u2) ?_))
  refine xb_eq (c_numcopy (a0 := b0 + 2) (a1 := b1 + 2) (by omega) (by omega) u2 w2 (hR.get (by omega) (by rw [kb_10 u2]; decide) u8) (hR.get (by omega) (by rw [kb_10 w2]; decide) w8) (by omega) (by omega) u3' w3 hn0 hn1 hs hs0 hs1 hz (by omega) (by omega) (by omega)) ?_
  refine xb_eq (e_gR (by omega) u1 (hR.get (by omega) (by rw [kb_2 u1]; decide) u7)) (xb_eq (e_gR (by omega) w1 (hR.get (by omega) (by rw [kb_2 w1]; decide) w7)) (xb_iq (me_xk (by omega) u4) ?_))
  have g : ∀ k, ncI I (b0 + 1) (b1 + 1) (b0 + 2) (b1 + 2) s (b1 + 3) k = I (b1 + 3) k := fun k => congrFun (ncI_ne (by omega) (by omega)) k
  refine xb_eq (c_numcopy (a0 := b0 + 4) (a1 := b1 + 4) (by omega) (by omega) u4 w4 (hR.get (by omega) (by rw [kb_10 u4]; decide) u9) (hR.get (by omega) (by rw [kb_10 w4]; decide) w9) (by omega) (by omega) u5 w5 hn0 hn1 ((g 1).trans ht) ht0 ht1 (by rw [g 2]; exact hy) (by omega) (by omega) (by omega)) ?_
  rfl
end FA
section FB
variable {I : Nat → Nat → Int32} {J : Nat → Nat → Int64} {R : Nat → Nat → Option Nat} {l s v : Nat → Int32}
def cvv (v : Nat → Int32) (a b k : Nat) : Nat → Int32 := fun x => if 28 * a ≤ x ∧ x < 28 * a + k then v (28 * b + (x - 28 * a)) else v x
theorem cvv_s {v : Nat → Int32} {a b k : Nat} : va_up (cvv v a b k) (28 * a + k) (v (28 * b + k)) = cvv v a b (k + 1) := by
  funext x
  unfold cvv va_up
  by_cases h : x = 28 * a + k
  · rw [if_pos h, h, if_pos (by omega), show 28 * b + (28 * a + k - 28 * a) = 28 * b + k by omega]
  · rw [if_neg h]
    dsimp only
    by_cases h2 : 28 * a ≤ x ∧ x < 28 * a + k
    · rw [if_pos h2, if_pos (by omega)]
    · rw [if_neg h2, if_neg (by omega)]
theorem m_copyValue {a b : Nat} (hR : RA R) (ha : 28 * a + 28 ≤ 104160) (hb : 28 * b + 28 ≤ 104160) (hab : a ≠ b) : f_X12_copyValue (mg 4625 (u3 I l s v) J R) 4561 (Int32.ofNat a) (Int32.ofNat b) = some (mg 4625 (u3 I l s (cvv v a b 28)) J R) := by
  have z : cvv v a b 0 = v := by
    funext x
    unfold cvv
    rw [if_neg (by omega)]
  unfold f_X12_copyValue
  simp only [xlet]
  refine xb_eq (a := .inr (mg 4625 (u3 I l s (cvv v a b 28)) J R)) ?_ rfl
  have q := xl_seq (step := f_X12_copyValue_s2) (s := fun k => (4561, Int32.ofNat a, Int32.ofNat b, Int32.ofNat k, mg 4625 (u3 I l s (cvv v a b k)) J R)) (N := 28) (e := .inr (mg 4625 (u3 I l s (cvv v a b 28)) J R)) ?_ ?_ (f := xF) (by decide)
  · rw [z] at q
    exact q
  · intro k hk
    have e1 : (28 : Int32) * Int32.ofNat b + Int32.ofNat k = Int32.ofNat (28 * b + k) := i32_ma 28 b k
    have e2 : (28 : Int32) * Int32.ofNat a + Int32.ofNat k = Int32.ofNat (28 * a + k) := i32_ma 28 a k
    unfold f_X12_copyValue_s2 xlet
    dsimp only
    rw [if_neg (show ¬ ((28 : Int32) ≤ Int32.ofNat k) from i32_nle (k := 28) (by omega) (by omega) hk), e1, e2]
    refine xb_eq (m_g3 (by decide) hR) (xb_eq (m_g3 (by decide) hR) (xb_eq (m_av (by decide) (by omega)) (xb_eq (m_wv (by decide) (by omega)) ?_)))
    rw [i32_ofs, show cvv v a b k (28 * b + k) = v (28 * b + k) from if_neg (by omega), cvv_s]
  · unfold f_X12_copyValue_s2 xlet
    dsimp only
    rw [if_pos (by decide)]
theorem m_sign {a : Nat} (hR : RA R) (ha : 28 * a < 104160) : f_X12_sign (mg 4625 (u3 I l s v) J R) 4561 (Int32.ofNat a) = some (v (28 * a)) := by
  have e1 : (28 : Int32) * Int32.ofNat a = Int32.ofNat (28 * a) := (Int32.ofNat_mul 28 a).symm
  unfold f_X12_sign
  rw [e1]
  exact xb_eq (m_g3 (by decide) hR) (xb_eq (m_av (by decide) ha) rfl)
theorem thI_u3 {t : Int32} : thI (u3 I l s v) t = u3 (thI I t) l s v := by
  unfold thI u3
  rw [up_comm (k := 4564) (j := 4561) (by decide), up_comm (k := 4563) (j := 4561) (by decide), up_comm (k := 4562) (j := 4561) (by decide)]
  rfl
theorem p1_coefficient {P : xM → Prop} (hP : ∀ I J, P (mg 4625 I J R)) (hR : RA R) (hs : ∀ i, i < 9 → I (4416 + 15 * i + 1) 1 = 0) (ht : ∀ i, i < 9 → I (4416 + 15 * i + 3) 1 = 1) (hz : ∀ i, i < 9 → I (4416 + 15 * i + 1) 2 = 0) (hy : ∀ i, i < 9 → I (4416 + 15 * i + 3) 2 = 0) (hv : ∀ i, i < 9 → I 4564 (28 * (47 + i)) = 0) : op_coefficient P (mg 4625 I J R) := by
  intro x1
  by_cases hq : (0 : Int32) ≤ x1 ∧ x1 ≤ (8 : Int32)
  · obtain ⟨i, hi, rfl⟩ := rng_dom (m := 8) (by decide) hq.1 hq.2
    have F1 := Fr_kept i (by omega)
    have cp := c_fraccopy (I := I) (J := J) (b0 := 4541) (b1 := 4416 + 15 * i) (s := 0) (t := 1) hR Fr_latest F1 (by decide) (by decide) (by omega) (hs i (by omega)) (ht i (by omega)) (by decide) (by decide) (by decide) (by decide) (Or.inl (hz i (by omega))) (Or.inl (hy i (by omega)))
    have zr : f_X2_isZero (mg 4625 (fcI I 4541 (4416 + 15 * i) 0 1) J R) 4541 = some 1 := by
      unfold f_X2_isZero
      refine xb_eq (e_gR (by decide) rfl (hR.get (by decide) (by decide) rfl)) (xb_iq (me_xk (by decide) rfl) ?_)
      have : f_X10_isZero (mg 4625 (fcI I 4541 (4416 + 15 * i) 0 1) J R) 4542 = some 1 := by
        unfold f_X10_isZero
        refine xg_eq 0 (e_gI (by decide) rfl) ?_ ?_
        · unfold fcI
          rw [ncI_ne (by decide) (by decide)]
          unfold ncI
          rw [cpF_ne (by decide), st_self]
          rfl
        · rw [if_pos rfl]
          rfl
      exact xb_eq this rfl
    have e0 : f_X11_coefficient (mg 4625 I J R) 0 (Int32.ofNat i) = some (.inl 0, mg 4625 (fcI I 4541 (4416 + 15 * i) 0 1) J R) := by
      unfold f_X11_coefficient
      rw [if_neg (Int32.not_lt.mpr hq.1), if_pos hq.2]
      refine xb_eq (ogR_0_10 hR) (xb_eq (ogR_0_9 hR) (xb_eq (ogR_2215_9 hR) ?_))
      have ar : (aR (mg 4625 I J R) 2230 16 (Int32.ofNat i)).bind id = some (4416 + 15 * i) := by
        rw [oaR_2230, if_pos (xvi_nat (by omega) (by decide)), i32_nat (by omega)]
        exact hR.get (by decide) (RR_2230 i (by omega)).2 (RR_2230 i (by omega)).1
      refine xb_eq ar (xb_iq ok_4541 (xb_eq cp (xb_eq (ogR_0_10 hR) (xb_iq ok_4541 (xb_eq zr ?_)))))
      rw [if_neg (by decide)]
      rfl
    have e1 : f_L_coefficient (mg 4625 I J R) 0 (Int32.ofNat i) 4624 = some (0, mg 4625 (fcI I 4541 (4416 + 15 * i) 0 1) (oJ J 0) R) := by
      unfold f_L_coefficient
      refine xb_iq ok_0 (xb_eq e0 ?_)
      simp only [xlet, Sum.elim_inl, ↓reduceIte]
      exact xb_eq owJ0 rfl
    have e2 : ∀ (I : Nat → Nat → Int32) J, I 4564 (28 * (47 + i)) = 0 → f_X12_coefficient (mg 4625 I J R) 4561 (Int32.ofNat i) = some (0, mg 4625 (u3 (thI I 0) (I 4562) (I 4563) (cvv (I 4564) 26 (47 + i) 28)) J R) := by
      intro I J hv
      have ei : (47 : Int32) + Int32.ofNat i = Int32.ofNat (47 + i) := (Int32.ofNat_add 47 i).symm
      have et : thI I 0 = u3 (thI I 0) (I 4562) (I 4563) (I 4564) := (u3_id (I := thI I 0)).symm
      unfold f_X12_coefficient
      refine xb_eq (m_in1 hq.1 hq.2) ?_
      rw [if_neg (by decide)]
      unfold f_X12_coefficient_j16
      refine xb_iq ok_4561 (m_refO.trans ?_)
      have cv := m_copyValue (I := thI I 0) (J := J) (l := I 4562) (s := I 4563) (v := I 4564) (a := 26) (b := 47 + i) hR (by decide) (by omega) (by omega)
      rw [← et] at cv
      rw [ei]
      refine xb_iq ok_4561 (xb_eq cv (xb_iq ok_4561 (xb_eq (m_sign (a := 26) hR (by decide)) ?_)))
      rw [show cvv (I 4564) 26 (47 + i) 28 (28 * 26) = 0 from (if_pos (by omega)).trans hv, if_pos rfl]
      rfl
    refine op_okB (w := 0) e1 (e2 _ _ ?_) rfl (hP _ _)
    unfold fcI
    rw [ncI_ne (by decide) (by decide), ncI_ne (by decide) (by decide)]
    exact hv i (by omega)
  · have e0 : f_X11_coefficient (mg 4625 I J R) 0 x1 = some (.inr "java/lang/IllegalArgumentException", mg 4625 I J R) := by
      unfold f_X11_coefficient f_X11_coefficient_j10
      by_cases h : x1 < 0
      · rw [if_pos h]
      · rw [if_neg h, if_neg (fun q => hq ⟨Int32.not_lt.mp h, q⟩)]
    have e1 : f_L_coefficient (mg 4625 I J R) 0 x1 4624 = some (1, mg 4625 I J R) := by
      unfold f_L_coefficient
      refine xb_iq ok_0 (xb_eq e0 ?_)
      simp only [xlet, Sum.elim_inr, ↓reduceIte]
    have e2 : f_X12_coefficient (mg 4625 I J R) 4561 x1 = some (0, mg 4625 (thI I 1) J R) := by
      unfold f_X12_coefficient
      refine xb_eq (m_in0 hq) ?_
      rw [if_pos rfl]
      unfold f_X12_coefficient_j16
      exact xb_iq ok_4561 (m_refX.trans rfl)
    exact op_exB e1 e2 thI_0 (by decide) (hP _ _)
end FB
