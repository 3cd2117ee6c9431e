/-! the answer of a fresh desk -/
theorem an_dv : ∀ k, k < 37 → 2 ≤ k → (Int32.ofNat k).toInt64 ≠ 0 ∧ ((1 : Int64) / (Int32.ofNat k).toInt64).toInt32 = 0 ∧ (1 : Int64) - 1 / (Int32.ofNat k).toInt64 * (Int32.ofNat k).toInt64 = 1 := by decide +kernel
theorem an_pk : ∀ k, k < 37 → 2 ≤ k → Int32.ofNat k &&& 65535 = Int32.ofNat k ∧ ((Int32.ofNat k).toUInt32 >>> ((16 : Int32).toUInt32 &&& Int32.toUInt32 31)).toInt32 = 0 ∧ Int32.ofNat k ≠ 0 ∧ (1 : Int32) - Int32.ofNat k < 0 ∧ (1 : Int32) - Int32.ofNat k ≠ 0 := by decide +kernel
section FC
variable {I : Nat → Nat → Int32} {J : Nat → Nat → Int64} {R : Nat → Nat → Option Nat}
theorem c_shrink0 {k : Nat} (h : (1 : Int32) ≤ Int32.ofNat k) (h1 : I 560 1 = 0) (h2 : I 560 2 = 0) : f_X10_shrink (mg 4625 I J R) 560 (Int32.ofNat k) = some (0, mg 4625 (st I 560 2 0) J R) := by
  unfold f_X10_shrink
  rw [if_pos h]
  simp only [xlet]
  refine xg_eq 0 ogI_560 h1 ?_
  refine xb_eq (a := .inr (560, 0, mg 4625 I J R)) (xl_e (by decide) ?_) ?_
  · unfold f_X10_shrink_s17 xlet
    dsimp only
    rw [if_pos (by decide)]
  · rw [Sum.elim_inr]
    dsimp only
    unfold f_X10_shrink_j62
    refine xg_eq 0 ogI_560 h1 ?_
    rw [if_pos (by decide)]
    unfold f_X10_shrink_j93
    refine xg_eq 0 ogI_560 h2 ?_
    rw [if_pos rfl]
    unfold f_X10_shrink_j112 f_X10_shrink_j113
    exact xb_eq (osZ_560.trans (if_pos (by decide))) rfl
theorem c_shrink1 {k : Nat} (hR : RA R) (hk : k < 37) (hk2 : 2 ≤ k) (h1 : I 560 1 = 1) (h2 : I 560 2 = 0) (h3 : I 561 0 = 1) : f_X10_shrink (mg 4625 I J R) 560 (Int32.ofNat k) = some (1, mg 4625 (st (st (st I 561 0 0) 560 1 0) 560 2 0) J R) := by
  obtain ⟨d1, d2, d3⟩ := an_dv k hk hk2
  have st1 : f_X10_shrink_s17 (560, Int32.ofNat k, 0, 0, mg 4625 I J R) = some (.inr (.inr (560, Int32.ofNat k, 1, -1, mg 4625 (st I 561 0 0) J R))) := by
    unfold f_X10_shrink_s17 xlet
    dsimp only
    rw [if_neg (by decide)]
    refine xb_eq (ogR_560_0 hR) (xg_eq 1 (e_aI (k := 0) (len := 7) (by decide) rfl (by decide) (by decide)) h3 ?_)
    rw [show ((0 : Int64) <<< ((30 : Int32).toInt64 &&& 63)) ||| (1 : Int32).toInt64 = 1 by decide]
    refine xb_eq (ogR_560_0 hR) ?_
    rw [if_neg d1, d2]
    refine xb_eq (e_wI (k := 0) (len := 7) (by decide) rfl (by decide) (by decide)) ?_
    rw [if_neg d1, d3]
    rfl
  unfold f_X10_shrink
  rw [if_pos (show (1 : Int32) ≤ Int32.ofNat k from (i32_le (k := 1) (by omega) (by omega)).mpr (by omega))]
  simp only [xlet]
  refine xg_eq 1 ogI_560 h1 ?_
  rw [show (1 : Int32) - 1 = 0 by decide]
  refine xb_eq (a := .inr (560, 1, mg 4625 (st I 561 0 0) J R)) ((xl_s (by decide) st1).trans (xl_e (by decide) ?_)) ?_
  · unfold f_X10_shrink_s17 xlet
    dsimp only
    rw [if_pos (by decide)]
  · rw [Sum.elim_inr]
    dsimp only
    unfold f_X10_shrink_j62
    refine xg_eq 1 ogI_560 h1 ?_
    rw [if_neg (by decide)]
    refine xb_eq (ogR_560_0 hR) (xg_eq 1 ogI_560 h1 ?_)
    rw [show (1 : Int32) - 1 = 0 by decide]
    refine xg_eq 0 (e_aI (k := 0) (len := 7) (by decide) rfl (by decide) (by decide)) st_self ?_
    rw [if_pos rfl]
    refine xg_eq 1 ogI_560 h1 ?_
    rw [show (1 : Int32) - 1 = 0 by decide]
    refine xb_eq osI_560 ?_
    unfold f_X10_shrink_j93
    refine xg_eq 0 ogI_560 h2 ?_
    rw [if_pos rfl]
    unfold f_X10_shrink_j112 f_X10_shrink_j113
    exact xb_eq (osZ_560.trans (if_pos (by decide))) rfl
theorem c_shrinkE {k e : Nat} (hR : RA R) (hk : k < 37) (hk2 : 2 ≤ k) (he : e ≤ 1) (h1 : I 560 1 = Int32.ofNat e) (h2 : I 560 2 = 0) (h3 : e = 1 → I 561 0 = 1) : ∃ I', f_X10_shrink (mg 4625 I J R) 560 (Int32.ofNat k) = some (Int32.ofNat e, mg 4625 I' J R) ∧ I' 560 1 = 0 ∧ ∀ x, x ≠ 560 → x ≠ 561 → I' x = I x := by
  rcases (by omega : e = 0 ∨ e = 1) with rfl | rfl
  · refine ⟨_, c_shrink0 ((i32_le (k := 1) (by omega) (by omega)).mpr (by omega)) h1 h2, ?_, fun x h _ => st_ne h⟩
    rw [st_nk (by decide), h1]
    rfl
  · refine ⟨_, c_shrink1 hR hk hk2 h1 h2 (h3 rfl), ?_, fun x h h' => ?_⟩
    · rw [st_nk (by decide), st_self]
    · rw [st_ne h, st_ne h, st_ne h']
theorem c_put {q : Nat} {c : Int32} (hR : RA R) (hq : I 559 3 = Int32.ofNat q) (hq2 : q < 1000) : ∃ I', f_X5_put (mg 4625 I J R) 559 c = some (mg 4625 I' J R) ∧ I' 559 3 = Int32.ofNat (q + 1) ∧ ∀ x, x ≠ 559 → x ≠ 562 → I' x = I x := by
  have hw : ∀ c, wC (mg 4625 I J R) 562 (Int32.ofNat q) c = some (mg 4625 (st I 562 q (vp_nar .char c)) J R) := fun c => by
    rw [owC_562, if_pos (xvi_nat hq2 (by decide)), i32_nat (by omega)]
    rfl
  refine ⟨st (st I 562 q (vp_nar .char ((c.toUInt32 % 65536).toInt32))) 559 3 (Int32.ofNat (q + 1)), ?_, ?_, ?_⟩
  · unfold f_X5_put
    refine xg_eq (Int32.ofNat q) ogI_559 hq ?_
    rw [if_neg (show ¬ ((1000 : Int32) ≤ Int32.ofNat q) from i32_nle (k := 1000) (by omega) (by omega) hq2)]
    refine xb_eq (ogR_559_2 hR) (xg_eq (Int32.ofNat q) ogI_559 hq (xb_eq (hw _) (xg_eq (Int32.ofNat q) ogI_559 hq ?_)))
    rw [i32_ofs]
    exact xb_eq osI_559 rfl
  · exact st_self
  · intro x h h'
    exact (st_ne h).trans (st_ne h')
theorem c_digitsE {w aw k e n : Nat} (hR : RA R) (hk : k < 37) (hk2 : 2 ≤ k) (he : e ≤ 1) (kw : (KK w).1 = 10) (kaw : KK aw = (14, n)) (hn : 1 ≤ n) (hn2 : n ≤ 1000) (hw : w < 4561) (haw : aw < 4561) (rw' : R w 0 = some aw) (d1 : w ≠ 560) (d2 : aw ≠ 561) (hw1 : I w 1 = Int32.ofNat e) (hw2 : I w 2 = 0) (hw3 : e = 1 → I aw 0 = 1) : ∃ I', f_X5_digits (mg 4625 I J R) 559 w (Int32.ofNat k) = some (mg 4625 I' J R) ∧ I' 559 3 = 1 ∧ ∀ x, 4561 ≤ x → I' x = I x := by
  have k559 : (KK 559).1 = 5 := by decide +kernel
  have dw : w ≠ 559 := fun q => by rw [q, k559] at kw; exact absurd kw (by decide)
  have da : aw ≠ 559 := fun q => by rw [← q, kaw] at k559; exact absurd (show (14 : Nat) = 5 from k559) (by decide)
  have g : ∀ j, st I 559 3 0 w j = I w j := fun j => congrFun (st_ne dw) j
  have cp := c_numcopy (I := st I 559 3 0) (J := J) (l0 := 560) (l1 := w) (a0 := 561) (a1 := aw) (n0 := 7) (n1 := n) (s := e) (by decide) (by omega) (by decide +kernel) kw (hR.get (by decide) (by decide +kernel) (by decide +kernel)) rw' (by decide) (by omega) (by decide +kernel) kaw (by decide) hn2 ((g 1).trans hw1) (by omega) (by omega) (Or.inl ((g 2).trans hw2)) d2 (by decide) d1
  have i1 : ncI (st I 559 3 0) 560 w 561 aw e 560 1 = Int32.ofNat e := by
    unfold ncI
    rw [cpF_ne (by decide), st_self]
  have i2 : ncI (st I 559 3 0) 560 w 561 aw e 560 2 = 0 := by
    unfold ncI
    rw [cpF_ne (by decide), st_nk (by decide), st_self, g 2, hw2]
  have i3 : e = 1 → ncI (st I 559 3 0) 560 w 561 aw e 561 0 = 1 := fun q => by
    have d3 : aw ≠ 560 := fun q => by
      have : (KK 560).1 = 10 := by decide +kernel
      rw [← q, kaw] at this
      exact absurd (show (14 : Nat) = 10 from this) (by decide)
    unfold ncI
    rw [cpF_at, if_pos (by omega), st_ne d3, st_ne d3, st_ne da]
    exact hw3 q
  have i4 : ncI (st I 559 3 0) 560 w 561 aw e 559 3 = 0 := by
    rw [ncI_ne (by decide) (by decide), st_self]
  have i5 : ∀ x, 4561 ≤ x → ncI (st I 559 3 0) 560 w 561 aw e x = I x := fun x hx => by
    rw [ncI_ne (by omega) (by omega), st_ne (by omega)]
  generalize ncI (st I 559 3 0) 560 w 561 aw e = I2 at cp i1 i2 i3 i4 i5
  obtain ⟨I3, s1, s2, s3⟩ := c_shrinkE (I := I2) (J := J) hR hk hk2 he i1 i2 i3
  have i6 : I3 559 3 = Int32.ofNat 0 := by
    rw [s3 559 (by decide) (by decide)]
    exact i4
  obtain ⟨I4, p1, p2, p3⟩ := c_put (I := I3) (J := J) (q := 0) (c := 48 + Int32.ofNat e) hR i6 (by decide)
  have i7 : I4 560 1 = 0 := by
    rw [p3 560 (by decide) (by decide)]
    exact s2
  refine ⟨I4, ?_, p2, fun x hx => by rw [p3 x (by omega) (by omega), s3 x (by omega) (by omega), i5 x hx]⟩
  have st1 : f_X5_digits_s34 (559, Int32.ofNat k, 0, 0, mg 4625 I2 J R) = some (.inr (.inr (559, Int32.ofNat k, 0, 1, mg 4625 I4 J R))) := by
    unfold f_X5_digits_s34 xlet
    dsimp only
    rw [if_neg (by decide), if_pos rfl]
    unfold f_X5_digits_j57
    refine xb_eq (ogR_559_1 hR) (xb_iq ok_560 (xb_eq s1 ?_))
    dsimp only
    rw [if_neg (show ¬ ((10 : Int32) ≤ Int32.ofNat e) from i32_nle (k := 10) (by omega) (by omega) (by omega))]
    unfold f_X5_digits_j91
    refine xb_iq ok_559 (xb_eq p1 ?_)
    rfl
  unfold f_X5_digits
  refine xb_eq (a := mg 4625 (st I 559 3 0) J R) osI_559 (xg_eq 0 (e_gI (by omega) kw) ((g 2).trans hw2) ?_)
  rw [if_pos rfl]
  unfold f_X5_digits_j18
  refine xg_eq 0 ogI_559 st_self (xb_eq (ogR_559_1 hR) (xb_iq ok_560 (xb_eq cp ?_)))
  simp only [xlet]
  refine xb_eq (a := .inr (559, 0, mg 4625 I4 J R)) ((xl_s (by decide) st1).trans (xl_e (by decide) ?_)) ?_
  · unfold f_X5_digits_s34 xlet
    dsimp only
    rw [if_neg (by decide), if_neg (by decide)]
    refine xb_eq (ogR_559_1 hR) (xb_iq ok_560 ?_)
    have iz : f_X10_isZero (mg 4625 I4 J R) 560 = some 1 := by
      unfold f_X10_isZero
      refine xg_eq 0 ogI_560 i7 ?_
      rw [if_pos rfl]
      rfl
    refine xb_eq iz ?_
    rw [if_neg (by decide)]
  · rw [Sum.elim_inr]
    dsimp only
    unfold f_X5_digits_j100
    refine xg_eq 1 ogI_559 p2 ?_
    simp only [xlet]
    rw [show (1 : Int32) - 1 = 0 by decide]
    refine xb_eq (a := .inr (mg 4625 I4 J R)) (xl_e (by decide) ?_) rfl
    unfold f_X5_digits_s111 xlet
    dsimp only
    rw [if_pos (by decide)]
end FC
section FD
variable {I : Nat → Nat → Int32} {J : Nat → Nat → Int64} {R : Nat → Nat → Option Nat} {l s v : Nat → Int32}
theorem tsz_congr {d d' : Nat → Int32} : ∀ {k : Nat}, (∀ j, j < k → d j = d' j) → tsz d k = tsz d' k := by
  intro k
  induction k with
  | zero => intro _; rfl
  | succ k ih =>
    intro h
    unfold tsz
    rw [h k (by omega), ih (fun j hj => h j (by omega))]
theorem tsz_0 {d : Nat → Int32} : ∀ {k : Nat}, (∀ j, j < k → d j = 0) → tsz d k = 0 := by
  intro k
  induction k with
  | zero => intro _; rfl
  | succ k ih =>
    intro h
    unfold tsz
    rw [if_pos (h k (by omega)), ih (fun j hj => h j (by omega))]
theorem tsz_1 {d : Nat → Int32} : ∀ {k : Nat}, d 0 ≠ 0 → (∀ j, j < k → d (j + 1) = 0) → tsz d (k + 1) = 1 := by
  intro k
  induction k with
  | zero =>
    intro h _
    unfold tsz
    rw [if_neg h]
  | succ k ih =>
    intro h0 h
    unfold tsz
    rw [if_pos (h k (by omega)), ih h0 (fun j hj => h j (by omega))]
def ldv (l v : Nat → Int32) (r b k : Nat) : Nat → Int32 := fun x => if 440 * r ≤ x ∧ x < 440 * r + k then v (b + (x - 440 * r)) else l x
theorem ldv_s {r b k : Nat} : va_up (ldv l v r b k) (440 * r + k) (v (b + k)) = ldv l v r b (k + 1) := by
  funext x
  unfold ldv va_up
  by_cases h : x = 440 * r + k
  · rw [if_pos h, h, if_pos (by omega), show b + (440 * r + k - 440 * r) = b + k by omega]
  · rw [if_neg h]
    dsimp only
    by_cases h2 : 440 * r ≤ x ∧ x < 440 * r + k
    · rw [if_pos h2, if_pos (by omega)]
    · rw [if_neg h2, if_neg (by omega)]
theorem m_load {r i f : Nat} (hR : RA R) (hr : r < 16) (hb : 28 * i + f + 13 ≤ 104160) : f_X12_load (mg 4625 (u3 I l s v) J R) 4561 (Int32.ofNat r) (Int32.ofNat i) (Int32.ofNat f) = some (mg 4625 (u3 I (ldv l v r (28 * i + f) 13) (va_up s r (Int32.ofNat (tsz (fun j => v (28 * i + f + j)) 13))) v) J R) := by
  have z : ldv l v r (28 * i + f) 0 = l := by
    funext x
    unfold ldv
    rw [if_neg (by omega)]
  unfold f_X12_load
  simp only [xlet]
  refine xb_eq (a := .inr (4561, Int32.ofNat r, mg 4625 (u3 I (ldv l v r (28 * i + f) 13) s v) J R)) ?_ ?_
  · have q := xl_seq (step := f_X12_load_s3) (s := fun k => (4561, Int32.ofNat r, Int32.ofNat i, Int32.ofNat f, Int32.ofNat k, mg 4625 (u3 I (ldv l v r (28 * i + f) k) s v) J R)) (N := 13) (e := .inr (4561, Int32.ofNat r, mg 4625 (u3 I (ldv l v r (28 * i + f) 13) s v) J R)) ?_ ?_ (f := xF) (by decide)
    · rw [z] at q
      exact q
    · intro k hk
      have e1 : (28 : Int32) * Int32.ofNat i + Int32.ofNat f + Int32.ofNat k = Int32.ofNat (28 * i + f + k) := by
        rw [show (28 : Int32) * Int32.ofNat i + Int32.ofNat f = Int32.ofNat (28 * i + f) from i32_ma 28 i f, ← Int32.ofNat_add]
      have e2 : (440 : Int32) * Int32.ofNat r + Int32.ofNat k = Int32.ofNat (440 * r + k) := i32_ma 440 r k
      unfold f_X12_load_s3 xlet
      dsimp only
      rw [if_neg (show ¬ ((13 : Int32) ≤ Int32.ofNat k) from i32_nle (k := 13) (by omega) (by omega) hk), e1, e2]
      refine xb_eq (m_g1 (by decide) hR) (xb_eq (m_g3 (by decide) hR) (xb_eq (m_av (by decide) (by omega)) (xb_eq (m_wl (by decide) (by omega)) ?_)))
      rw [i32_ofs, ldv_s]
    · unfold f_X12_load_s3 xlet
      dsimp only
      rw [if_pos (by decide)]
  · rw [Sum.elim_inr]
    dsimp only
    unfold f_X12_load_j43
    refine xb_eq (m_g2 (by decide) hR) (xb_eq (m_ws (by decide) hr) (xb_iq ok_4561 (xb_eq (m_trim (k := 13) (by decide) hR hr (by decide)) ?_)))
    rw [tsz_congr (d' := fun j => v (28 * i + f + j)) (fun j hj => by
      unfold ldv
      rw [if_pos (by omega), show 440 * r + j - 440 * r = j by omega])]
end FD
section FE
variable {I : Nat → Nat → Int32} {J : Nat → Nat → Int64} {R : Nat → Nat → Option Nat} {l s v : Nat → Int32}
theorem m_bits0 (hR : RA R) (h : s 2 = 0) : f_X12_bits (mg 4625 (u3 I l s v) J R) 4561 2 = some 0 := by
  unfold f_X12_bits
  refine xb_eq (m_g2 (by decide) hR) (xg_eq 0 (m_as (k := 2) (by decide) (by decide)) h ?_)
  rw [if_pos rfl]
  unfold f_X12_bits_j32
  refine xb_eq (m_g2 (by decide) hR) (xg_eq 0 (m_as (k := 2) (by decide) (by decide)) h ?_)
  rw [if_pos rfl]
  unfold f_X12_bits_j57
  refine xb_eq (a := .inr 0) (xl_e (by decide) ?_) rfl
  unfold f_X12_bits_s58 xlet
  dsimp only
  rw [if_pos (by decide)]
theorem m_bits1 (hR : RA R) (h : s 2 = 1) (h1 : l 880 = 1) : f_X12_bits (mg 4625 (u3 I l s v) J R) 4561 2 = some 1 := by
  have st1 : f_X12_bits_s58 (mg 4625 (u3 I l s v) J R) (1, 0) = some (.inr (.inr (0, 1))) := by
    unfold f_X12_bits_s58 xlet
    dsimp only
    rw [if_neg (by decide)]
    rfl
  unfold f_X12_bits
  refine xb_eq (m_g2 (by decide) hR) (xg_eq 1 (m_as (k := 2) (by decide) (by decide)) h ?_)
  rw [if_neg (by decide)]
  refine xb_eq (m_g1 (by decide) hR) (xb_eq (m_g2 (by decide) hR) (xg_eq 1 (m_as (k := 2) (by decide) (by decide)) h ?_))
  rw [show (440 : Int32) * 2 + 1 - 1 = Int32.ofNat 880 by decide]
  refine xg_eq 1 (m_al (by decide) (by decide)) h1 ?_
  unfold f_X12_bits_j32
  refine xb_eq (m_g2 (by decide) hR) (xg_eq 1 (m_as (k := 2) (by decide) (by decide)) h ?_)
  rw [if_neg (by decide)]
  refine xb_eq (m_g2 (by decide) hR) (xg_eq 1 (m_as (k := 2) (by decide) (by decide)) h ?_)
  rw [show (16 : Int32) * (1 - 1) = 0 by decide]
  unfold f_X12_bits_j57
  refine xb_eq (a := .inr 1) ((xl_s (by decide) st1).trans (xl_e (by decide) ?_)) rfl
  unfold f_X12_bits_s58 xlet
  dsimp only
  rw [if_pos (by decide)]
theorem m_isBit1 (hR : RA R) (h : s 2 = 1) (h1 : l 880 = 1) : f_X12_isBit (mg 4625 (u3 I l s v) J R) 4561 2 0 = some 1 := by
  unfold f_X12_isBit
  refine xb_eq (m_g2 (by decide) hR) (xg_eq 1 (m_as (k := 2) (by decide) (by decide)) h ?_)
  rw [if_neg (by decide)]
  refine xb_eq (m_g1 (by decide) hR) ?_
  rw [show (440 : Int32) * 2 + (0 : Int32) >>> ((4 : Int32) &&& 31) = Int32.ofNat 880 by decide]
  refine xg_eq 1 (m_al (by decide) (by decide)) h1 ?_
  rw [if_pos (by decide)]
  rfl
theorem m_twice1 (hR : RA R) (h : s 5 = 0) : f_X12_twice (mg 4625 (u3 I l s v) J R) 4561 5 1 = some (mg 4625 (u3 I (va_up l 2200 1) (va_up s 5 1) v) J R) := by
  unfold f_X12_twice xlet
  refine xb_eq (a := .inr (4561, 5, 1, mg 4625 (u3 I l s v) J R)) (xl_e (by decide) ?_) ?_
  · unfold f_X12_twice_s5 xlet
    dsimp only
    refine xb_eq (m_g2 (by decide) hR) (xg_eq 0 (m_as (k := 5) (by decide) (by decide)) h ?_)
    rw [if_pos (by decide)]
  · rw [Sum.elim_inr]
    dsimp only
    unfold f_X12_twice_j65
    rw [if_neg (by decide)]
    refine xb_eq (m_g1 (by decide) hR) (xb_eq (m_g2 (by decide) hR) (xg_eq 0 (m_as (k := 5) (by decide) (by decide)) h ?_))
    rw [show (440 : Int32) * 5 + 0 = Int32.ofNat 2200 by decide]
    refine xb_eq (m_wl (by decide) (by decide)) (xb_eq (m_g2 (by decide) hR) (xg_eq 0 (m_as (k := 5) (by decide) (by decide)) h ?_))
    rw [show (0 : Int32) + 1 = 1 by decide]
    exact xb_eq (m_ws (k := 5) (by decide) (by decide)) rfl
theorem m_twice0 (hR : RA R) (h : s 4 = 0) : f_X12_twice (mg 4625 (u3 I l s v) J R) 4561 4 0 = some (mg 4625 (u3 I l s v) J R) := by
  unfold f_X12_twice xlet
  refine xb_eq (a := .inr (4561, 4, 0, mg 4625 (u3 I l s v) J R)) (xl_e (by decide) ?_) ?_
  · unfold f_X12_twice_s5 xlet
    dsimp only
    refine xb_eq (m_g2 (by decide) hR) (xg_eq 0 (m_as (k := 4) (by decide) (by decide)) h ?_)
    rw [if_pos (by decide)]
  · rw [Sum.elim_inr]
    dsimp only
    unfold f_X12_twice_j65
    rw [if_pos (by decide)]
    rfl
theorem m_compareE {k : Nat} (hR : RA R) (h5 : s 5 = 1) (h3 : s 3 = 1) (l5 : l 2200 = 1) (l3 : l 1320 = Int32.ofNat k) : f_X12_compare (mg 4625 (u3 I l s v) J R) 4561 5 3 = some (1 - Int32.ofNat k) := by
  have st1 : f_X12_compare_s48 (mg 4625 (u3 I l s v) J R) (4561, 5, 3, 0, 0) = some (.inr (.inr (4561, 5, 3, 1 - Int32.ofNat k, -1))) := by
    unfold f_X12_compare_s48 xlet
    dsimp only
    rw [if_neg (by decide), if_pos rfl]
    refine xb_eq (m_g1 (by decide) hR) ?_
    rw [show (440 : Int32) * 5 + 0 = Int32.ofNat 2200 by decide, show (440 : Int32) * 3 + 0 = Int32.ofNat 1320 by decide]
    refine xg_eq 1 (m_al (by decide) (by decide)) l5 (xb_eq (m_g1 (by decide) hR) (xg_eq (Int32.ofNat k) (m_al (by decide) (by decide)) l3 ?_))
    rfl
  unfold f_X12_compare xlet
  refine xb_eq (m_g2 (by decide) hR) (xg_eq 1 (m_as (k := 5) (by decide) (by decide)) h5 (xb_eq (m_g2 (by decide) hR) (xg_eq 1 (m_as (k := 3) (by decide) (by decide)) h3 ?_)))
  rw [if_pos rfl]
  refine xb_eq (m_g2 (by decide) hR) (xg_eq 1 (m_as (k := 5) (by decide) (by decide)) h5 ?_)
  rw [show (1 : Int32) - 1 = 0 by decide]
  refine xb_eq (a := .inr (1 - Int32.ofNat k)) ((xl_s (by decide) st1).trans (xl_e (by decide) ?_)) rfl
  unfold f_X12_compare_s48 xlet
  dsimp only
  rw [if_pos (by decide)]
theorem m_divE0 (hR : RA R) (h : s 2 = 0) : f_X12_divide (mg 4625 (u3 I l s v) J R) 4561 4 5 2 3 = some (mg 4625 (u3 I l (va_up (va_up s 4 0) 5 0) v) J R) := by
  unfold f_X12_divide xlet
  refine xb_eq (m_g2 (by decide) hR) (xb_eq (m_ws (k := 4) (by decide) (by decide)) (xb_eq (m_g2 (by decide) hR) (xb_eq (m_ws (k := 5) (by decide) (by decide)) (xb_iq ok_4561 (xb_eq (m_bits0 hR h) ?_)))))
  refine xb_eq (a := .inr (mg 4625 (u3 I l (va_up (va_up s 4 0) 5 0) v) J R)) (xl_e (by decide) ?_) rfl
  unfold f_X12_divide_s23 xlet
  dsimp only
  rw [if_pos (by decide)]
theorem m_divE1 {k : Nat} (hR : RA R) (hk : k < 37) (hk2 : 2 ≤ k) (h : s 2 = 1) (h1 : l 880 = 1) (h3 : s 3 = 1) (l3 : l 1320 = Int32.ofNat k) : f_X12_divide (mg 4625 (u3 I l s v) J R) 4561 4 5 2 3 = some (mg 4625 (u3 I (va_up l 2200 1) (va_up (va_up (va_up s 4 0) 5 0) 5 1) v) J R) := by
  obtain ⟨-, -, -, d1, -⟩ := an_pk k hk hk2
  have st1 : f_X12_divide_s23 (4561, 4, 5, 2, 3, 0, mg 4625 (u3 I l (va_up (va_up s 4 0) 5 0) v) J R) = some (.inr (.inr (4561, 4, 5, 2, 3, -1, mg 4625 (u3 I (va_up l 2200 1) (va_up (va_up (va_up s 4 0) 5 0) 5 1) v) J R))) := by
    unfold f_X12_divide_s23 xlet
    dsimp only
    rw [if_neg (by decide)]
    refine xb_iq ok_4561 (xb_eq (m_isBit1 hR h h1) ?_)
    rw [if_neg (by decide)]
    unfold f_X12_divide_j45
    refine xb_iq ok_4561 (xb_eq (m_twice1 hR rfl) (xb_iq ok_4561 (xb_eq (m_compareE (k := k) hR rfl h3 rfl l3) ?_)))
    rw [if_pos d1]
    unfold f_X12_divide_j63
    rw [if_pos rfl]
    unfold f_X12_divide_j77
    rw [if_pos rfl]
    unfold f_X12_divide_j89
    refine xb_iq ok_4561 (xb_eq (m_twice0 hR rfl) ?_)
    rfl
  unfold f_X12_divide xlet
  refine xb_eq (m_g2 (by decide) hR) (xb_eq (m_ws (k := 4) (by decide) (by decide)) (xb_eq (m_g2 (by decide) hR) (xb_eq (m_ws (k := 5) (by decide) (by decide)) (xb_iq ok_4561 (xb_eq (m_bits1 hR h h1) ?_)))))
  rw [show (1 : Int32) - 1 = 0 by decide]
  refine xb_eq (a := .inr (mg 4625 (u3 I (va_up l 2200 1) (va_up (va_up (va_up s 4 0) 5 0) 5 1) v) J R)) ((xl_s (by decide) st1).trans (xl_e (by decide) ?_)) rfl
  unfold f_X12_divide_s23 xlet
  dsimp only
  rw [if_pos (by decide)]
theorem m_prints0 {c : Int32} (hR : RA R) (h : I 4561 42 = 0) : f_X12_prints (mg 4625 I J R) 4561 c = some (mg 4625 (st (st I 4595 0 c) 4561 42 1) J R) := by
  unfold f_X12_prints
  refine xb_eq (ogR_4561_41 hR) (xg_eq 0 ogI_4561 h (xb_eq (e_wI (k := 0) (len := 2000) (by decide) (by decide +kernel) (by decide) (by decide)) (xg_eq 0 ogI_4561 h ?_)))
  exact xb_eq osI_4561 rfl
theorem m_copy0 (hR : RA R) (h : I 4563 4 = 0) : f_X12_copy (mg 4625 I J R) 4561 2 4 = some (mg 4625 (st I 4563 2 0) J R) := by
  have a4 : aI (mg 4625 I J R) 4563 14 4 = some (I 4563 4) := e_aI (k := 4) (len := 16) (by decide) (by decide +kernel) (by decide) (by decide)
  unfold f_X12_copy xlet
  refine xb_eq (a := .inr (4561, 2, 4, mg 4625 I J R)) (xl_e (by decide) ?_) ?_
  · unfold f_X12_copy_s2 xlet
    dsimp only
    refine xb_eq (ogR_4561_2 hR) (xg_eq 0 a4 h ?_)
    rw [if_pos (by decide)]
  · rw [Sum.elim_inr]
    dsimp only
    unfold f_X12_copy_j42
    exact xb_eq (ogR_4561_2 hR) (xb_eq (ogR_4561_2 hR) (xg_eq 0 a4 h (xb_eq (e_wI (k := 2) (len := 16) (by decide) (by decide +kernel) (by decide) (by decide)) rfl)))
theorem m_an_tail {d : Int32} (hR : RA R) (hd : ¬ ((10 : Int32) ≤ d)) (h4 : I 4563 4 = 0) (h : I 4561 42 = 0) : ∃ I', f_X12_answer_j120 (mg 4625 I J R) 4561 0 d = some (.inr (.inl (4561, 0, mg 4625 I' J R))) ∧ I' 4561 42 = 1 ∧ I' 4561 0 = I 4561 0 := by
  refine ⟨st (st (st I 4595 0 (48 + d)) 4561 42 1) 4563 2 0, ?_, rfl, rfl⟩
  unfold f_X12_answer_j120
  rw [if_neg hd]
  unfold f_X12_answer_j146
  refine xb_iq ok_4561 (xb_eq (m_prints0 hR h) (xb_iq ok_4561 (xb_eq (m_copy0 hR h4) (xb_eq (ogR_4561_2 hR) (xg_eq 0 (e_aI (k := 2) (len := 16) (by decide) (by decide +kernel) (by decide) (by decide)) rfl ?_)))))
  rw [if_neg (by decide)]
theorem m_an_end (hR : RA R) (h : I 4561 42 = 1) : f_X12_answer_j164 (mg 4625 I J R) 4561 0 = some (1, mg 4625 I J R) := by
  unfold f_X12_answer_j164 xlet
  refine xb_eq (a := .inr (4561, mg 4625 I J R)) (xl_e (by decide) ?_) ?_
  · unfold f_X12_answer_s167 xlet
    dsimp only
    refine xg_eq 1 ogI_4561 h ?_
    rw [if_pos (by decide)]
  · rw [Sum.elim_inr]
    dsimp only
    unfold f_X12_answer_j236
    exact xg_eq 1 ogI_4561 h rfl
theorem m_an_loop {k e : Nat} (hR : RA R) (hk : k < 37) (hk2 : 2 ≤ k) (he : e ≤ 1) (h2 : s 2 = Int32.ofNat e) (h1 : e = 1 → l 880 = 1) (h : I 4561 42 = 0) : ∃ I', f_X12_answer_j80 (mg 4625 (u3 I l s v) J R) 4561 (Int32.ofNat k) = some (1, mg 4625 I' J R) ∧ I' 4561 0 = I 4561 0 := by
  obtain ⟨p1, p2, p3, -, -⟩ := an_pk k hk hk2
  have pt := m_put (I := I) (J := J) (l := l) (s := s) (v := v) (r := 3) (x := Int32.ofNat k) (n := 4625) (by decide) hR (by decide)
  rw [p1, p2] at pt
  have t1 : tsz (va_up (va_up (fun _ => 0) 0 (Int32.ofNat k)) 1 0) 2 = 1 := tsz_1 (k := 1) p3 (fun j hj => by
    have : j = 0 := by omega
    subst this
    rfl)
  rw [t1] at pt
  have key : ∀ (M : Nat → Nat → Int32), M 4561 42 = 0 → M 4561 0 = I 4561 0 → M 4563 4 = 0 → M 4563 5 = Int32.ofNat e → (e = 1 → M 4562 2200 = 1) → f_X12_divide (mg 4625 (u3 I (va_up (va_up l (440 * 3) (Int32.ofNat k)) (440 * 3 + 1) 0) (va_up s 3 (Int32.ofNat 1)) v) J R) 4561 4 5 2 3 = some (mg 4625 M J R) → ∃ I', f_X12_answer_j80 (mg 4625 (u3 I l s v) J R) 4561 (Int32.ofNat k) = some (1, mg 4625 I' J R) ∧ I' 4561 0 = I 4561 0 := by
    intro M m1 m2 m3 m4 m5 hd
    obtain ⟨I', k1, k2, k3⟩ := m_an_tail (I := M) (J := J) (d := Int32.ofNat e) hR (i32_nle (k := 10) (by omega) (by omega) (by omega)) m3 m1
    refine ⟨I', ?_, k3.trans m2⟩
    unfold f_X12_answer_j80
    refine xg_eq 0 ogI_4561 h (xb_iq ok_4561 (xb_eq pt ?_))
    refine xb_eq (a := .inr (4561, 0, mg 4625 I' J R)) (xl_e (by decide) ?_) ?_
    · unfold f_X12_answer_s91 xlet
      dsimp only
      refine xb_iq ok_4561 (xb_eq hd (xb_eq (ogR_4561_2 hR) (xg_eq (Int32.ofNat e) (e_aI (k := 5) (len := 16) (by decide) (by decide +kernel) (by decide) (by decide)) m4 ?_)))
      rcases (by omega : e = 0 ∨ e = 1) with rfl | rfl
      · rw [if_pos (show Int32.ofNat 0 = 0 from rfl)]
        exact k1
      · rw [if_neg (by decide)]
        refine xb_eq (ogR_4561_1 hR) (xg_eq 1 (e_aI (k := 2200) (len := 7040) (by decide) (by decide +kernel) (by decide) (by decide)) (m5 rfl) ?_)
        exact k1
    · rw [Sum.elim_inr]
      dsimp only
      exact m_an_end hR k2
  rcases (by omega : e = 0 ∨ e = 1) with rfl | rfl
  · refine key _ ?_ ?_ ?_ ?_ ?_ (m_divE0 hR h2)
    · exact h
    · rfl
    · rfl
    · rfl
    · intro q
      exact absurd q (by decide)
  · refine key _ ?_ ?_ ?_ ?_ ?_ (m_divE1 (k := k) hR hk hk2 h2 (h1 rfl) rfl rfl)
    · exact h
    · rfl
    · rfl
    · rfl
    · intro _
      rfl
end FE
section FG
variable {I : Nat → Nat → Int32} {J : Nat → Nat → Int64} {R : Nat → Nat → Option Nat}
theorem m_answerE {p k e : Nat} (hR : RA R) (hk : k < 37) (hk2 : 2 ≤ k) (hp : p ≤ 1) (he : e ≤ 1) (hsg : I 4564 728 = 0) (ht : tsz (fun j => I 4564 (28 * 26 + (1 + 13 * p) + j)) 13 = e) (h1 : e = 1 → I 4564 (28 * 26 + (1 + 13 * p)) = 1) : ∃ I', f_X12_answer (mg 4625 I J R) 4561 (Int32.ofNat p) (Int32.ofNat k) = some (1, mg 4625 I' J R) ∧ I' 4561 0 = 0 := by
  have em : st (thI I 0) 4561 42 0 = u3 (st (thI I 0) 4561 42 0) (I 4562) (I 4563) (I 4564) := (u3_id (I := st (thI I 0) 4561 42 0)).symm
  have lo := m_load (I := st (thI I 0) 4561 42 0) (J := J) (l := I 4562) (s := I 4563) (v := I 4564) (r := 2) (i := 26) (f := 1 + 13 * p) hR (by decide) (by omega)
  obtain ⟨I', k1, k2⟩ := m_an_loop (I := st (thI I 0) 4561 42 0) (J := J) (l := ldv (I 4562) (I 4564) 2 (28 * 26 + (1 + 13 * p)) 13) (s := va_up (I 4563) 2 (Int32.ofNat (tsz (fun j => I 4564 (28 * 26 + (1 + 13 * p) + j)) 13))) (v := I 4564) (e := e) hR hk hk2 he (by rw [va_up_self, ht]) (fun q => (if_pos (by decide)).trans (h1 q)) rfl
  refine ⟨I', ?_, k2⟩
  have i1 : (0 : Int32) ≤ Int32.ofNat p := i32_0le (by omega)
  have i2 : Int32.ofNat p ≤ 1 := (i32_le (m := 1) (by omega) (by omega)).mpr hp
  have i3 : (2 : Int32) ≤ Int32.ofNat k := (i32_le (k := 2) (by omega) (by omega)).mpr hk2
  have i4 : Int32.ofNat k ≤ 36 := (i32_le (m := 36) (by omega) (by omega)).mpr (by omega)
  unfold f_X12_answer
  refine xb_eq (m_in1 i1 i2) ?_
  rw [if_neg (by decide)]
  refine xb_eq (m_in1 i3 i4) ?_
  rw [if_neg (by decide)]
  unfold f_X12_answer_j25
  refine xb_iq ok_4561 (m_refO.trans ?_)
  refine xb_eq (a := mg 4625 (st (thI I 0) 4561 42 0) J R) osI_4561 ?_
  rcases (by omega : p = 0 ∨ p = 1) with rfl | rfl
  · rw [if_pos (show Int32.ofNat 0 = 0 from rfl), em]
    unfold f_X12_loadNumerator
    refine xb_iq ok_4561 (xb_eq (xb_iq ok_4561 (xb_eq lo rfl)) ?_)
    unfold f_X12_answer_j61
    rw [if_pos (show Int32.ofNat 0 = 0 from rfl)]
    refine xb_iq ok_4561 (xg_eq 0 (m_sign (a := 26) hR (by decide)) hsg ?_)
    rw [if_pos (by decide)]
    exact k1
  · rw [if_neg (by decide), em]
    unfold f_X12_loadDenominator
    refine xb_iq ok_4561 (xb_eq (xb_iq ok_4561 (xb_eq lo rfl)) ?_)
    unfold f_X12_answer_j61
    rw [if_neg (by decide)]
    exact k1
theorem c_answerE {p k e w aw : Nat} (hR : RA R) (hk : k < 37) (hk2 : 2 ≤ k) (hp : p ≤ 1) (he : e ≤ 1) (hw : w = 4542 + 2 * p) (haw : aw = 4543 + 2 * p) (hw1 : I w 1 = Int32.ofNat e) (hw2 : I w 2 = 0) (hw3 : e = 1 → I aw 0 = 1) : ∃ I', f_X11_answer (mg 4625 I J R) 0 (Int32.ofNat p) (Int32.ofNat k) = some (.inl 1, mg 4625 I' J R) ∧ ∀ x, 4561 ≤ x → I' x = I x := by
  have kw : (KK w).1 = 10 ∧ KK aw = (14, 7) ∧ RR w 0 = some aw := by
    rcases (by omega : p = 0 ∨ p = 1) with rfl | rfl
    · subst hw haw
      decide +kernel
    · subst hw haw
      decide +kernel
  obtain ⟨I', d1, d2, d3⟩ := c_digitsE (I := I) (J := J) (w := w) (aw := aw) (k := k) (e := e) (n := 7) hR hk hk2 he kw.1 kw.2.1 (by decide) (by decide) (by omega) (by omega) (hR.get (by omega) (by rw [kb_10 kw.1]; decide) kw.2.2) (by omega) (by omega) hw1 hw2 hw3
  refine ⟨I', ?_, d3⟩
  have fin : f_X11_answer_j56 (mg 4625 I J R) 0 (Int32.ofNat k) w 559 = some (.inl 1, mg 4625 I' J R) := by
    unfold f_X11_answer_j56
    exact xb_iq ok_559 (xb_eq d1 (xb_eq (ogR_0_4 hR) (xg_eq 1 ogI_559 d2 rfl)))
  unfold f_X11_answer
  rw [if_neg (show ¬ (Int32.ofNat p < 0) from i32_nlt0 (by omega)), if_neg (show ¬ ((1 : Int32) < Int32.ofNat p) from fun q => absurd ((i32_lt (k := 1) (by omega) (by omega)).mp q) (by omega)), if_neg (show ¬ (Int32.ofNat k < 2) from fun q => absurd ((i32_lt (m := 2) (by omega) (by omega)).mp q) (by omega)), if_pos (show Int32.ofNat k ≤ 36 from (i32_le (m := 36) (by omega) (by omega)).mpr (by omega))]
  refine xb_eq (ogR_0_4 hR) ?_
  rcases (by omega : p = 0 ∨ p = 1) with rfl | rfl
  · rw [if_pos (show Int32.ofNat 0 = 0 from rfl)]
    refine xb_eq (ogR_0_10 hR) (xb_eq (e_gR (v := 4542) (by decide) rfl (hR.get (by decide) (by decide) rfl)) ?_)
    rw [hw] at fin
    exact fin
  · rw [if_neg (by decide)]
    refine xb_eq (ogR_0_10 hR) (xb_eq (e_gR (v := 4544) (by decide) rfl (hR.get (by decide) (by decide) rfl)) ?_)
    rw [hw] at fin
    exact fin
theorem l_answer {w a b : Int32} {I1 : Nat → Nat → Int32} (h : f_X11_answer (mg 4625 I J R) 0 a b = some (.inl w, mg 4625 I1 J R)) : f_L_answer (mg 4625 I J R) 0 a b 4624 = some (0, mg 4625 I1 (oJ J w.toInt64) R) := by
  unfold f_L_answer
  refine xb_iq ok_0 (xb_eq h ?_)
  simp only [xlet, Sum.elim_inl]
  exact xb_eq owJ0 rfl
theorem p1_answer {P : xM → Prop} (hP : ∀ I J, P (mg 4625 I J R)) (hR : RA R) (c1 : I 4542 1 = 0) (c2 : I 4542 2 = 0) (c3 : I 4544 1 = 1) (c4 : I 4544 2 = 0) (c5 : I 4545 0 = 1) (m1 : I 4564 728 = 0) (m2 : ∀ j, j < 13 → I 4564 (729 + j) = 0) (m3 : I 4564 742 = 1) (m4 : ∀ j, j < 12 → I 4564 (743 + j) = 0) : op_answer P (mg 4625 I J R) := by
  intro x1 x2
  by_cases hq : ((0 : Int32) ≤ x1 ∧ x1 ≤ 1) ∧ ((2 : Int32) ≤ x2 ∧ x2 ≤ 36)
  · obtain ⟨p, hp, rfl⟩ := rng_dom (m := 1) (by decide) hq.1.1 hq.1.2
    obtain ⟨k, hk, rfl⟩ := rng_dom (m := 36) (by decide) (Int32.le_trans (by decide) hq.2.1) hq.2.2
    have hk2 : 2 ≤ k := (i32_le (k := 2) (by omega) (by omega)).mp hq.2.1
    have go : ∀ e, e ≤ 1 → I (4542 + 2 * p) 1 = Int32.ofNat e → I (4542 + 2 * p) 2 = 0 → (e = 1 → I (4543 + 2 * p) 0 = 1) → tsz (fun j => I 4564 (28 * 26 + (1 + 13 * p) + j)) 13 = e → (e = 1 → I 4564 (28 * 26 + (1 + 13 * p)) = 1) → opW P (f_L_answer (mg 4625 I J R) 0 (Int32.ofNat p) (Int32.ofNat k) 4624) (fun σ => f_X12_answer σ 4561 (Int32.ofNat p) (Int32.ofNat k)) := by
      intro e he a1 a2 a3 a4 a5
      obtain ⟨I1, b1, b2⟩ := c_answerE (I := I) (J := J) (k := k) hR (by omega) hk2 hp he rfl rfl a1 a2 a3
      have e64 : I1 4564 = I 4564 := b2 4564 (by decide)
      obtain ⟨I2, d1, d2⟩ := m_answerE (I := I1) (J := oJ J ((1 : Int32)).toInt64) (p := p) (k := k) (e := e) hR (by omega) hk2 hp he (by rw [e64]; exact m1) (by rw [e64]; exact a4) (by rw [e64]; exact a5)
      exact op_ok (w := 1) (l_answer b1) d1 d2 (hP _ _)
    rcases (by omega : p = 0 ∨ p = 1) with rfl | rfl
    · exact go 0 (by decide) c1 c2 (fun q => absurd q (by decide)) (tsz_0 (fun j hj => by rw [show 28 * 26 + (1 + 13 * 0) + j = 729 + j by omega]; exact m2 j hj)) (fun q => absurd q (by decide))
    · exact go 1 (by decide) c3 c4 (fun _ => c5) (tsz_1 (k := 12) (by rw [show 28 * 26 + (1 + 13 * 1) + 0 = 742 from rfl, m3]; decide) (fun j hj => by rw [show 28 * 26 + (1 + 13 * 1) + (j + 1) = 743 + j by omega]; exact m4 j hj)) (fun _ => m3)
  · have e0 : f_X11_answer (mg 4625 I J R) 0 x1 x2 = some (.inr "java/lang/IllegalArgumentException", mg 4625 I J R) := by
      unfold f_X11_answer f_X11_answer_j20
      by_cases h1 : x1 < 0
      · rw [if_pos h1]
      · rw [if_neg h1]
        by_cases h2 : 1 < x1
        · rw [if_pos h2]
        · rw [if_neg h2]
          by_cases h3 : x2 < 2
          · rw [if_pos h3]
          · rw [if_neg h3, if_neg (fun q => hq ⟨⟨Int32.not_lt.mp h1, Int32.not_lt.mp h2⟩, Int32.not_lt.mp h3, q⟩)]
    have e1 : f_L_answer (mg 4625 I J R) 0 x1 x2 4624 = some (1, mg 4625 I J R) := by
      unfold f_L_answer
      refine xb_iq ok_0 (xb_eq e0 ?_)
      simp only [xlet, Sum.elim_inr, ↓reduceIte]
    have e2 : f_X12_answer (mg 4625 I J R) 4561 x1 x2 = some (0, mg 4625 (thI I 1) J R) := by
      have jb : f_X12_answer_j20 (mg 4625 I J R) 4561 x1 x2 4561 = some (0, mg 4625 (thI I 1) J R) := by
        unfold f_X12_answer_j20 f_X12_answer_j25
        exact xb_iq ok_4561 (m_refX.trans rfl)
      unfold f_X12_answer
      by_cases h1 : (0 : Int32) ≤ x1 ∧ x1 ≤ 1
      · refine xb_eq (m_in1 h1.1 h1.2) ?_
        rw [if_neg (by decide)]
        refine xb_eq (m_in0 (fun q => hq ⟨h1, q⟩)) ?_
        rw [if_pos rfl]
        exact jb
      · refine xb_eq (m_in0 h1) ?_
        rw [if_pos rfl]
        exact jb
    exact op_ex e1 e2 thI_0 (by decide) (hP _ _)
end FG
