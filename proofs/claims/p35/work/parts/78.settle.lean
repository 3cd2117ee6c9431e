/-! the class's fractions in lowest terms -/
def eu (x y : Nat) : Nat := x * y * (if x < y then 2 else 1)
theorem eu_step {x y k : Nat} (hx : 0 < x) (hy : 0 < y) (h : eu x y < 2 ^ k) : ∃ k', k = k' + 1 ∧ eu y (x % y) < 2 ^ k' := by
  have hm := Nat.mod_lt x hy
  have hp : 0 < x * y := Nat.mul_pos hx hy
  rcases k with _ | k
  · unfold eu at h
    rw [Nat.pow_zero] at h
    split at h <;> omega
  · refine ⟨k, rfl, ?_⟩
    rw [Nat.pow_succ] at h
    unfold eu at *
    rw [if_neg (show ¬ y < x % y by omega), Nat.mul_one]
    by_cases q : x < y
    · rw [if_pos q] at h
      rw [Nat.mod_eq_of_lt q, Nat.mul_comm]
      omega
    · rw [if_neg q, Nat.mul_one] at h
      have h1 := Nat.div_add_mod x y
      have h2 : 1 ≤ x / y := Nat.div_pos (by omega) hy
      have h3 : y * 1 ≤ y * (x / y) := Nat.mul_le_mul_left _ h2
      have h4 : 2 * (x % y) ≤ x := by omega
      have h5 : y * (2 * (x % y)) ≤ y * x := Nat.mul_le_mul_left _ h4
      rw [Nat.mul_left_comm] at h5
      rw [Nat.mul_comm x y] at h
      omega
theorem eu_lt {x y p q k : Nat} (hx : x < 2 ^ p) (hy : y < 2 ^ q) (hk : k = p + q + 1) : eu x y < 2 ^ k := by
  subst hk
  unfold eu
  have h := Nat.mul_lt_mul'' hx hy
  rw [← Nat.pow_add] at h
  rw [Nat.pow_succ]
  split <;> omega
theorem A_gcd {M : xM} {a b : Nat} (ha : a < 1152921504606846976) (hb : b < 1152921504606846976) (h0 : 0 < a) : f_X0_commonDivisor M (Int64.ofNat a) (Int64.ofNat b) = some (Int64.ofNat (Nat.gcd a b)) := by
  have key : QK (xloop (f_X0_commonDivisor_s9 M) xF (Int64.ofNat a, Int64.ofNat b, (0 : Int32))) (fun r => r = .inr (Int64.ofNat (Nat.gcd a b))) := by
    refine q_loop (fun k s => ∃ x y r, s = (Int64.ofNat x, Int64.ofNat y, (Int32.ofNat (r))) ∧ 0 < x ∧ x < 1152921504606846976 ∧ y < 1152921504606846976 ∧ Nat.gcd x y = Nat.gcd a b ∧ eu x y < 2 ^ k ∧ k + r = 121) ?_ (m := 121) ⟨a, b, 0, rfl, h0, ha, hb, rfl, eu_lt (p := 60) (q := 60) ha hb (by omega), rfl⟩ (by unfold xF; omega)
    rintro k s ⟨x, y, r, rfl, hx0, hx, hy, hg, hk, hr⟩
    unfold f_X0_commonDivisor_s9 xlet
    dsimp only
    by_cases q : y = 0
    · conv => arg 1; simp (disch := omega) only [↓reduceIte, ↓q_let, ↓q_xz1, ↓q_xz0, ↓lg_cmp_ge, ↓lg_cmp_le, ↓lg_cmp_gt, ↓lg_cmp_lt, n_lit, j_lit, n_add, n_mul, n_sub, n_dec, Nat.add_sub_cancel, n_leT, n_leF, n_ltT, n_ltF, n_eqT, n_eqF, n_in, n_cl, n_m31, j_m63, j_of32, j_32, i64_add, i64_mul, jn_sub, j_leT, j_leF, j_ltT, j_ltF, j_eqF, jn_and30, jn_sar30, jn_shor, Int32.neg_neg, and_true, true_and, and_self]
      refine q_ex ?_
      rw [q, Nat.gcd_zero_right] at hg
      rw [hg]
    · obtain ⟨k', e, hk'⟩ := eu_step hx0 (by omega) hk
      have hm := Nat.mod_lt x (show 0 < y by omega)
      have rm := j_rem (a := x) (b := y) (by omega) (by omega) (by omega)
      conv => arg 1; simp (disch := omega) only [↓reduceIte, ↓q_let, ↓q_xz1, ↓q_xz0, ↓lg_cmp_ge, ↓lg_cmp_le, ↓lg_cmp_gt, ↓lg_cmp_lt, n_lit, j_lit, n_add, n_mul, n_sub, n_dec, Nat.add_sub_cancel, n_leT, n_leF, n_ltT, n_ltF, n_eqT, n_eqF, n_in, n_cl, n_m31, j_m63, j_of32, j_32, i64_add, i64_mul, jn_sub, j_leT, j_leF, j_ltT, j_ltF, j_eqF, jn_and30, jn_sar30, jn_shor, Int32.neg_neg, and_true, true_and, and_self, rm]
      refine q_go ⟨k', by omega, y, x % y, r + 1, rfl, by omega, hy, by omega, ?_, hk', by omega⟩
      rw [Nat.gcd_comm y, ← Nat.gcd_rec, Nat.gcd_comm]
      exact hg
  obtain ⟨r, er, rfl⟩ := key
  unfold f_X0_commonDivisor f_X0_commonDivisor_j44
  rw [q_let, er]
  rfl
section AS
variable {I : Nat → Nat → Int32} {J : Nat → Nat → Int64} {R : Nat → Nat → Option Nat} {t : Nat}
/-- Euclid's way -/
theorem A_euclid {A B : Int} (hR : RA R) (h1 : Wz I 2 100 A) (h2 : Wz I 4 100 B) (hA : A ≠ 0) (hB : 0 < B) :
    QK (xloop f_X0_settle_s73 xF (1, t, 2, 4, (0 : Int32), mg (4562 + zn J) I J R)) (fun r => ∃ I' u v x y, r = .inr (1, t, u, v, mg (4562 + zn J) I' J R) ∧ FrS (fun x => 2 ≤ x ∧ x < 8) I I' ∧ ((u = 2 ∧ v = 4) ∨ (u = 4 ∧ v = 2)) ∧ Wz I' u 100 x ∧ Wz I' v 100 y ∧ x ≠ 0 ∧ Nat.gcd x.natAbs y.natAbs = Nat.gcd A.natAbs B.natAbs ∧ (y = 0 → 0 < x) ∧ (y = 0 ∨ x.natAbs < Bw 2 ∧ y.natAbs < Bw 2)) := by
  have bd : ∀ {w : Nat} {z : Int}, Wz I w 100 z → z.natAbs < 2 ^ 3000 := fun h => by
    obtain ⟨⟨k, hk⟩, -⟩ := h
    have := (Wh_Bw (p := 100) hk).mpr hk.2.2.1
    rwa [Bw_two] at this
  refine q_loop (fun k s => ∃ I' u v x y r, s = (1, t, u, v, (Int32.ofNat (r)), mg (4562 + zn J) I' J R) ∧ FrS (fun x => 2 ≤ x ∧ x < 8) I I' ∧ ((u = 2 ∧ v = 4) ∨ (u = 4 ∧ v = 2)) ∧ Wz I' u 100 x ∧ Wz I' v 100 y ∧ x ≠ 0 ∧ Nat.gcd x.natAbs y.natAbs = Nat.gcd A.natAbs B.natAbs ∧ (0 ≤ y ∧ (y = 0 → 0 < x)) ∧ eu x.natAbs y.natAbs < 2 ^ k ∧ k + r = 6001) ?_ (m := 6001) ⟨I, 2, 4, A, B, 0, rfl, FrS_rfl, Or.inl ⟨rfl, rfl⟩, h1, h2, hA, rfl, ⟨by omega, fun h => by omega⟩, eu_lt (bd h1) (bd h2) (by omega), by omega⟩ (by unfold xF; omega)
  rintro k s ⟨I', u, v, x, y, r, rfl, hF, huv, hx, hy, hx0, hg, hy0, hk, hr⟩
  obtain ⟨kx, hkx⟩ := hx.1
  obtain ⟨ky, hky⟩ := hy.1
  have j94 : ¬ (x.natAbs < Bw 2 ∧ y.natAbs < Bw 2) → QK (f_X0_settle_j94 (mg (4562 + zn J) I' J R) 1 t u v (Int32.ofNat (r))) (qS (fun s' => ∃ m', m' < k ∧ ∃ I' u v x y r, s' = (1, t, u, v, (Int32.ofNat (r)), mg (4562 + zn J) I' J R) ∧ FrS (fun x => 2 ≤ x ∧ x < 8) I I' ∧ ((u = 2 ∧ v = 4) ∨ (u = 4 ∧ v = 2)) ∧ Wz I' u 100 x ∧ Wz I' v 100 y ∧ x ≠ 0 ∧ Nat.gcd x.natAbs y.natAbs = Nat.gcd A.natAbs B.natAbs ∧ (0 ≤ y ∧ (y = 0 → 0 < x)) ∧ eu x.natAbs y.natAbs < 2 ^ m' ∧ m' + r = 6001) (fun r => ∃ I' u v x y, r = .inr (1, t, u, v, mg (4562 + zn J) I' J R) ∧ FrS (fun x => 2 ≤ x ∧ x < 8) I I' ∧ ((u = 2 ∧ v = 4) ∨ (u = 4 ∧ v = 2)) ∧ Wz I' u 100 x ∧ Wz I' v 100 y ∧ x ≠ 0 ∧ Nat.gcd x.natAbs y.natAbs = Nat.gcd A.natAbs B.natAbs ∧ (y = 0 → 0 < x) ∧ (y = 0 ∨ x.natAbs < Bw 2 ∧ y.natAbs < Bw 2))) := by
    intro _
    unfold f_X0_settle_j94
    rw [if_pos (bW_xk hky.1), W_isZero hy, Option.bind_some]
    by_cases q : y = 0
    · rw [if_pos q, if_neg (by first | decide | omega)]
      exact q_ex ⟨I', u, v, x, y, rfl, hF, huv, hx, hy, hx0, hg, hy0.2, Or.inl q⟩
    · rw [if_neg q, if_pos rfl, bA_2 hR, if_pos (bW_xk hkx.1)]
      refine q_bind (W_divideBy (I := I') hR hkx.1 hx hy isW_6 (by omega) (by omega) (by omega) q) ?_
      rintro r' ⟨I2, rfl, hF2, g1, g2⟩
      rw [q_let]
      obtain ⟨k', e, hk'⟩ := eu_step (show 0 < x.natAbs by omega) (show 0 < y.natAbs by omega) hk
      have hm := Nat.mod_lt x.natAbs (show 0 < y.natAbs by omega)
      rw [show (Int32.ofNat (r)) + 1 = (Int32.ofNat (r + 1)) from n_add r 1]
      -- the signs
      obtain ⟨⟨ky2, hky2⟩, hsy⟩ := hy
      have gy : Wz I2 v 100 y := by
        rcases huv with ⟨h1, h2⟩ | ⟨h1, h2⟩
        · subst h1; subst h2
          exact Wz_keep ⟨⟨ky2, hky2⟩, hsy⟩ (hF2 4 (by omega)) (hF2 5 (by omega))
        · subst h1; subst h2
          exact Wz_keep ⟨⟨ky2, hky2⟩, hsy⟩ (hF2 2 (by omega)) (hF2 3 (by omega))
      refine q_go ⟨k', by omega, I2, v, u, y, ((x.natAbs % y.natAbs : Nat) : Int), r + 1, rfl, FrS_tr hF (FrS_mono hF2 (fun x h => by omega)), by omega, gy, g1, q, ?_, ?_, ?_, by omega⟩
      · rw [Int.natAbs_natCast, Nat.gcd_comm y.natAbs, ← Nat.gcd_rec, Nat.gcd_comm]
        exact hg
      · exact ⟨by omega, fun _ => by omega⟩
      · rw [Int.natAbs_natCast]
        exact hk'
  unfold f_X0_settle_s73 xlet
  dsimp only
  have hrl : ¬ (100000 : Int32) ≤ (Int32.ofNat (r)) := fun z => absurd ((i32_le (k := 100000) (by omega) (by omega)).mp z) (by omega)
  rw [if_neg hrl, if_pos (bW_xk hkx.1), W_isShort hkx, Option.bind_some]
  by_cases q1 : x.natAbs < Bw 2
  · rw [if_pos q1, if_neg (by first | decide | omega), if_pos (bW_xk hky.1), W_isShort hky, Option.bind_some]
    by_cases q2 : y.natAbs < Bw 2
    · rw [if_pos q2, if_neg (by first | decide | omega)]
      exact q_ex ⟨I', u, v, x, y, rfl, hF, huv, hx, hy, hx0, hg, hy0.2, Or.inr ⟨q1, q2⟩⟩
    · rw [if_neg q2, if_pos rfl]
      exact j94 (fun z => q2 z.2)
  · rw [if_neg q1, if_pos rfl]
    exact j94 (fun z => q1 z.1)
/-- brought into lowest terms -/
theorem A_settle {a b : Int} (hR : RA R) (h : FU I t 100 a b) (hb : b ≠ 0) :
    QK (f_X0_settle (mg (4562 + zn J) I J R) 1 t) (fun r => ∃ I', r = mg (4562 + zn J) I' J R ∧ FrS (Sa t) I I' ∧ FU I' t 100 (rz (a * b.sign) b.natAbs) (rd (a * b.sign) b.natAbs)) := by
  have ht := h.1
  have t10 := ht.1
  have w1 := ht.2.2.2.2.2.1
  have w2 := ht.2.2.2.2.2.2
  have fin : ∀ {I1 : Nat → Nat → Int32} {x y : Int}, FrS (Sa t) I I1 → FU I1 t 100 x y → 0 < y → (x ≠ 0 ∨ y = 1) → QK (f_X0_settle_j36 (mg (4562 + zn J) I1 J R) 1 t) (fun r => ∃ I', r = mg (4562 + zn J) I' J R ∧ FrS (Sa t) I I' ∧ FU I' t 100 (rz x y.natAbs) (rd x y.natAbs)) := by
    intro I1 x y hF h hy hxy
    unfold f_X0_settle_j36
    rw [if_pos (bF_xk ht), F_isWhole hR h, Option.bind_some]
    by_cases hy1 : y = 1
    · rw [if_pos hy1, if_neg (by first | decide | omega)]
      refine q_ok ⟨I1, rfl, hF, ?_⟩
      have e1 : rz x y.natAbs = x := by
        unfold rz
        rw [hy1, show (1 : Int).natAbs = 1 from rfl, Nat.gcd_one_right, Nat.div_one]
        exact Int.sign_mul_natAbs x
      have e2 : ((rd x y.natAbs : Nat) : Int) = y := by
        unfold rd
        rw [hy1, show (1 : Int).natAbs = 1 from rfl, Nat.gcd_one_right, Nat.div_one]
        rfl
      rw [e1, e2]
      exact h
    have hx := hxy.resolve_right hy1
    rw [if_neg hy1, if_pos rfl, bA_0 hR, bA_1 hR, bF_g0 ht hR, if_pos (bW_xk isW_2)]
    obtain ⟨⟨kx, hkx⟩, hsx⟩ := h.2.1
    obtain ⟨⟨ky, hky⟩, hsy⟩ := h.2.2
    have xb : x.natAbs < Bw 100 := (Wh_Bw hkx).mpr hkx.2.2.1
    have yb : y.natAbs < Bw 100 := (Wh_Bw hky).mpr hky.2.2.1
    refine q_bind (W_copy (I := I1) hR isW_2 h.2.1 xb (by omega)) ?_
    rintro r ⟨I2, rfl, hF2, h2⟩
    rw [bF_g1 ht hR, if_pos (bW_xk isW_4)]
    refine q_bind (W_copy (I := I2) hR isW_4 (Wz_fr h.2.2 hF2 (by unfold Sw; omega) (by unfold Sw; omega)) yb (by omega)) ?_
    rintro r ⟨I3, rfl, hF3, h3⟩
    rw [q_let]
    refine q_bind (A_euclid (I := I3) (t := t) hR (Wz_fr h2 hF3 (by unfold Sw; omega) (by unfold Sw; omega)) h3 hx hy) ?_
    rintro r ⟨I4, u, v, x', y', rfl, hF4, huv, hx', hy', hx0, hg, hxp, hend⟩
    simp only [Sum.elim_inr]
    have u8 : 2 ≤ u ∧ u < 6 := by omega
    have wu : isW u 100 := by obtain ⟨⟨k, hk⟩, -⟩ := hx'; exact hk.1
    have wv : isW v 100 := by obtain ⟨⟨k, hk⟩, -⟩ := hy'; exact hk.1
    generalize hG : Nat.gcd x.natAbs y.natAbs = G at *
    have hG0 : 0 < G := by rw [← hG]; exact Nat.gcd_pos_of_pos_right _ (by omega)
    have hF14 : FrS (fun x => 2 ≤ x ∧ x < 10) I1 I4 := FrS_tr (FrS_tr (FrS_mono hF2 (fun x h => by unfold Sw at h; omega)) (FrS_mono hF3 (fun x h => by unfold Sw at h; omega))) (FrS_mono hF4 (fun x h => by omega))
    have fin2 : ∀ {I5 : Nat → Nat → Int32}, FrS (fun x => 2 ≤ x ∧ x < 10) I1 I5 → Wz I5 u 100 G → QK (f_X0_settle_j146 (mg (4562 + zn J) I5 J R) 1 t u) (fun r => ∃ I', r = mg (4562 + zn J) I' J R ∧ FrS (Sa t) I I' ∧ FU I' t 100 (rz x y.natAbs) (rd x y.natAbs)) := by
      intro I5 hF5 hu
      have e5 : FU I5 t 100 x y := FU_keep h (fun x h1 h2 => hF5 x (by omega))
      have hFI5 : FrS (Sa t) I I5 := FrS_tr hF (FrS_mono hF5 (fun x h => Or.inl h))
      unfold f_X0_settle_j146 f_X0_settle_j221
      rw [if_pos (bW_xk wu), W_isOne hR hu, Option.bind_some]
      by_cases q : G = 1
      · rw [if_pos (show (G : Int) = 1 by omega), if_neg (by first | decide | omega)]
        refine q_ok ⟨I5, rfl, hFI5, ?_⟩
        have e1 : rz x y.natAbs = x := by
          unfold rz
          rw [hG, q, Nat.div_one]
          exact Int.sign_mul_natAbs x
        have e2 : ((rd x y.natAbs : Nat) : Int) = y := by
          unfold rd
          rw [hG, q, Nat.div_one]
          omega
        rw [e1, e2]
        exact e5
      · rw [if_neg (show ¬ (G : Int) = 1 by omega), if_pos rfl, bA_3 hR, bF_g0 ht hR, if_pos (bW_xk isW_8)]
        refine q_bind (W_copy (I := I5) hR isW_8 e5.2.1 xb (by omega)) ?_
        rintro r ⟨I6, rfl, hF6, h6⟩
        rw [bA_3 hR, bA_2 hR, if_pos (bW_xk isW_8)]
        refine q_bind (W_divideBy (I := I6) hR isW_8 h6 (Wz_fr hu hF6 (by unfold Sw; omega) (by unfold Sw; omega)) isW_6 (by omega) (by omega) (by omega) (by omega)) ?_
        rintro r ⟨I7, rfl, hF7, -, h7⟩
        rw [Int.natAbs_natCast] at h7
        rw [bF_g0 ht hR, bA_2 hR, if_pos (bW_xk w1)]
        have hF57 : FrS (fun x => 6 ≤ x ∧ x < 10) I5 I7 := FrS_tr (FrS_mono hF6 (fun x h => by unfold Sw at h; omega)) (FrS_mono hF7 (fun x h => by omega))
        obtain ⟨k7, hk7⟩ := h7.1
        rw [Int.natAbs_natCast] at hk7
        refine q_bind (W_copySize (I := I7) hR w1 hk7 hk7.2.2.1 (by omega)) ?_
        rintro r ⟨I8, rfl, hF8, h8, s8⟩
        have hF58 : FrS (fun x => 6 ≤ x ∧ x < 10 ∨ x = t + 1 ∨ x = t + 1 + 1) I5 I8 := FrS_tr (FrS_mono hF57 (fun x h => Or.inl h)) (FrS_mono hF8 (fun x h => by unfold Sw at h; omega))
        have top : Wz I8 (t + 1) 100 (rz x y.natAbs) := by
          refine ⟨⟨k7, ?_⟩, ?_⟩
          · rw [rz_abs, hG]
            exact h8
          · rw [s8, hF57 (t + 1) (by omega), e5.2.1.2]
            refine sgn_inj.mpr ?_
            have hs := rz_sign (z := x) (D := y.natAbs) (by omega)
            constructor
            · intro hx
              rw [Int.sign_eq_neg_one_of_neg hx] at hs
              exact Int.sign_eq_neg_one_iff_neg.mp hs
            · intro hx
              rw [Int.sign_eq_neg_one_of_neg hx] at hs
              exact Int.sign_eq_neg_one_iff_neg.mp hs.symm
        rw [bA_3 hR, bF_g1 ht hR, if_pos (bW_xk isW_8)]
        refine q_bind (W_copy (I := I8) hR isW_8 (Wz_fr e5.2.2 hF58 (by omega) (by omega)) yb (by omega)) ?_
        rintro r ⟨I9, rfl, hF9, h9⟩
        rw [bA_3 hR, bA_2 hR, if_pos (bW_xk isW_8)]
        refine q_bind (W_divideBy (I := I9) hR isW_8 h9 (Wz_fr (Wz_fr hu hF58 (by omega) (by omega)) hF9 (by unfold Sw; omega) (by unfold Sw; omega)) isW_6 (by omega) (by omega) (by omega) (by omega)) ?_
        rintro r ⟨Ia, rfl, hFa, -, ha⟩
        rw [Int.natAbs_natCast] at ha
        rw [bF_g1 ht hR, bA_2 hR, if_pos (bW_xk w2)]
        obtain ⟨ka, hka⟩ := ha.1
        rw [Int.natAbs_natCast] at hka
        have hF8a : FrS (fun x => 6 ≤ x ∧ x < 10) I8 Ia := FrS_tr (FrS_mono hF9 (fun x h => by unfold Sw at h; omega)) (FrS_mono hFa (fun x h => by omega))
        refine q_bind (W_copySize (I := Ia) hR w2 hka hka.2.2.1 (by omega)) ?_
        rintro r ⟨Ib, rfl, hFb, hb, sb⟩
        refine q_ok ⟨Ib, rfl, FrS_tr (FrS_tr hFI5 (FrS_mono hF58 (fun x h => by unfold Sa; omega))) (FrS_tr (FrS_mono hF8a (fun x h => by unfold Sa; omega)) (FrS_mono hFb (fun x h => by unfold Sw at h; unfold Sa; omega))), ht, Wz_fr (Wz_fr top hF8a (by omega) (by omega)) hFb (by unfold Sw; omega) (by unfold Sw; omega), ⟨ka, ?_⟩, ?_⟩
        · rw [Int.natAbs_natCast]
          unfold rd
          rw [hG]
          exact hb
        · rw [sb, hF8a (t + 3) (by omega), hF58 (t + 3) (by omega), e5.2.2.2, sgn_n]
          exact if_neg (by omega)
    unfold f_X0_settle_j124
    rw [if_pos (bW_xk wv), W_isZero hy', Option.bind_some]
    by_cases q : y' = 0
    · rw [if_pos q, if_neg (by first | decide | omega)]
      have xp : 0 < x' := hxp q
      rw [q, Int.natAbs_zero, Nat.gcd_zero_right] at hg
      refine fin2 hF14 ?_
      rw [← hg, show ((x'.natAbs : Nat) : Int) = x' by omega]
      exact hx'
    · rw [if_neg q, if_pos rfl]
      obtain ⟨q1, q2⟩ := hend.resolve_left q
      obtain ⟨k1, hk1⟩ := hx'.1
      obtain ⟨k2, hk2⟩ := hy'.1
      rw [if_pos (bW_xk wu), W_shortSize hR hk1 q1, Option.bind_some, if_pos (bW_xk wv), W_shortSize hR hk2 q2, Option.bind_some, A_gcd q1 q2 (by omega), Option.bind_some, if_pos (bW_xk wu), hg]
      have hGl : G < 1152921504606846976 := by
        rw [← hg]
        exact Nat.lt_of_le_of_lt (Nat.gcd_le_left _ (by omega)) q1
      refine q_bind (W_set hR wu hGl) ?_
      rintro r ⟨I5, rfl, hF5, h5⟩
      exact fin2 (FrS_tr hF14 (FrS_mono hF5 (fun x h => by unfold Sw at h; omega))) h5
  have j24 : ∀ {I1 : Nat → Nat → Int32} {x y : Int}, FrS (Sa t) I I1 → FU I1 t 100 x y → 0 < y → QK (f_X0_settle_j24 (mg (4562 + zn J) I1 J R) 1 t) (fun r => ∃ I', r = mg (4562 + zn J) I' J R ∧ FrS (Sa t) I I' ∧ FU I' t 100 (rz x y.natAbs) (rd x y.natAbs)) := by
    intro I1 x y hF h hy
    unfold f_X0_settle_j24
    rw [if_pos (bF_xk ht), F_isZero hR h, Option.bind_some]
    by_cases q : x = 0
    · rw [if_pos q, if_neg (by first | decide | omega), if_pos (bF_xk ht)]
      refine q_bind (F_set (n := 0) hR ht (by omega)) ?_
      rintro r ⟨I2, rfl, hF2, h2⟩
      refine q_mono (fin (x := 0) (y := 1) (FrS_tr hF (FrS_mono hF2 (fun x h => by unfold Sf at h; unfold Sa; omega))) h2 (by omega) (Or.inr rfl)) ?_
      rintro r ⟨I3, rfl, hF3, h3⟩
      refine ⟨I3, rfl, hF3, ?_⟩
      have e1 : rz x y.natAbs = rz 0 (1 : Int).natAbs := by
        rw [q]
        unfold rz
        simp
      have e2 : rd x y.natAbs = rd 0 (1 : Int).natAbs := by
        rw [q]
        unfold rd
        rw [Int.natAbs_zero, Nat.gcd_zero_left, Nat.gcd_zero_left, Nat.div_self (by omega), Nat.div_self (by first | decide | omega)]
      rw [e1, e2]
      exact h3
    · rw [if_neg q, if_pos rfl]
      exact fin hF h hy (Or.inl q)
  unfold f_X0_settle
  rw [bF_g1 ht hR, bW_gI w2, h.2.2.2]
  by_cases q : b < 0
  · rw [if_neg (fun z => absurd (sgn_eq0.mp z) (by omega)), bF_g1 ht hR, if_pos (bW_xk w2)]
    refine q_bind (W_flip h.2.2) ?_
    rintro r ⟨I1, rfl, hF1, h1⟩
    rw [bF_g0 ht hR, if_pos (bW_xk w1)]
    refine q_bind (W_flip (I := I1) (Wz_fr h.2.1 hF1 (by omega) (by omega))) ?_
    rintro r ⟨I2, rfl, hF2, h2⟩
    rw [Int.sign_eq_neg_one_of_neg q, show a * -1 = -a by omega, show b.natAbs = (-b).natAbs by omega]
    exact j24 (FrS_tr (FrS_mono hF1 (fun x h => by unfold Sa; omega)) (FrS_mono hF2 (fun x h => by unfold Sa; omega))) ⟨ht, h2, Wz_fr h1 hF2 (by omega) (by omega)⟩ (by omega)
  · rw [if_pos (sgn_eq0.mpr (by omega)), Int.sign_eq_one_of_pos (by omega), Int.mul_one]
    exact j24 FrS_rfl h (by omega)
end AS
