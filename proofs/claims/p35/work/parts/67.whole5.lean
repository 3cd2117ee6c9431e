section WE
variable {I : Nat → Nat → Int32} {J : Nat → Nat → Int64} {R : Nat → Nat → Option Nat} {w c u d v e : Nat}
theorem W_sum68 {A B k k' a ca : Nat} {s x t : Int} {f sw : Int32} (hR : RA R) (hw : isW w c) (ha : isW a ca) (hx : I a 2 = sgn x) (hA : Wh I u d k A) (hB : Wh I v e k' B) (hBA : B ≤ A) (hk : k + 1 ≤ c) (hs : (s = 1 ∧ f = 1) ∨ (s = -1 ∧ f = -1)) (hu : w ≠ u) (hv : w ≠ v) (haw : w ≠ a) (hsw : sw = 0 ∨ sw = 1) :
    QK (f_X10_sum_j68 (mg (4562 + zn J) I J R) w a (sgn t) sw u v f) (fun r => ∃ I', r = mg (4562 + zn J) I' J R ∧ FrS (Sw w) I I' ∧ ∃ k n, Wh I' w c k n ∧ (n : Int) = A + s * B ∧ I' w 2 = (if n = 0 then 0 else if sw = 0 then sgn x else sgn t)) := by
  have hc := hw.2.2.2.2
  have hkA := Wh_c hA
  have n1 := isW_ne ha hw
  unfold f_X10_sum_j68
  have mn : (if (Int32.ofNat (c)) < (Int32.ofNat (k + 1)) then (Int32.ofNat (c)) else (Int32.ofNat (k + 1))) = (Int32.ofNat (k + 1)) := by
    by_cases q : c < k + 1
    · omega
    · simp (disch := omega) only [↓reduceIte, ↓q_let, ↓q_xz1, ↓q_xz0, ↓lg_cmp_ge, ↓lg_cmp_le, ↓lg_cmp_gt, ↓lg_cmp_lt, n_lit, j_lit, n_add, n_mul, n_sub, n_dec, Nat.add_sub_cancel, n_leT, n_leF, n_ltT, n_ltF, n_eqT, n_eqF, n_in, n_cl, n_m31, j_m63, j_of32, j_32, i64_add, i64_mul, jn_sub, j_leT, j_leF, j_ltT, j_ltF, j_eqF, jn_and30, jn_sar30, jn_shor, Int32.neg_neg, and_true, true_and, and_self]
  have e1 := hA.2.1
  conv => arg 1; simp (disch := omega) only [↓reduceIte, ↓q_let, ↓q_xz1, ↓q_xz0, ↓lg_cmp_ge, ↓lg_cmp_le, ↓lg_cmp_gt, ↓lg_cmp_lt, n_lit, j_lit, n_add, n_mul, n_sub, n_dec, Nat.add_sub_cancel, n_leT, n_leF, n_ltT, n_ltF, n_eqT, n_eqF, n_in, n_cl, n_m31, j_m63, j_of32, j_32, i64_add, i64_mul, jn_sub, j_leT, j_leF, j_ltT, j_ltF, j_eqF, jn_and30, jn_sar30, jn_shor, Int32.neg_neg, and_true, true_and, and_self, ↓bW_gI hA.1, e1, ↓bW_gR hw hR, ↓bW_gL hw]
  refine q_bind (W_sumLoop (l1 := a) (l4 := sgn t) (l5 := sw) hR hw hA hB hBA hk hs hu hv) ?_
  rintro r ⟨I', n, rfl, hF, hD, hn⟩
  simp only [Sum.elim_inr]
  have ea : I' a 2 = sgn x := by rw [hF a n1]; exact hx
  have j206 : ∀ z : Int, QK (f_X10_sum_j206 (mg (4562 + zn J) I' J R) w (Int32.ofNat (k + 1)) (sgn z) w) (fun r => ∃ I'', r = mg (4562 + zn J) I'' J R ∧ FrS (Sw w) I' I'' ∧ ∃ k n', Wh I'' w c k n' ∧ n' = n ∧ I'' w 2 = (if n' = 0 then 0 else sgn z)) := by
    intro z
    unfold f_X10_sum_j206
    conv => arg 1; simp (disch := omega) only [↓reduceIte, ↓q_let, ↓q_xz1, ↓q_xz0, ↓lg_cmp_ge, ↓lg_cmp_le, ↓lg_cmp_gt, ↓lg_cmp_lt, n_lit, j_lit, n_add, n_mul, n_sub, n_dec, Nat.add_sub_cancel, n_leT, n_leF, n_ltT, n_ltF, n_eqT, n_eqF, n_in, n_cl, n_m31, j_m63, j_of32, j_32, i64_add, i64_mul, jn_sub, j_leT, j_leF, j_ltT, j_ltF, j_eqF, jn_and30, jn_sar30, jn_shor, Int32.neg_neg, and_true, true_and, and_self, ↓bW_sZ hw, bW_xk hw]
    refine q_bind (W_trim (I := up I' w 2 (sgn z)) (n := n) (m := k + 1) hR hw hk (Dg_keep hD (fun j _ => up_n (by omega)))) ?_
    rintro r ⟨I2, rfl, hF2, ⟨k2, hk2, hW2⟩, h2⟩
    rw [up_s] at h2
    exact q_ok ⟨I2, rfl, FrS_tr (FrS_up FrS_rfl (Or.inl rfl)) (FrS_mono hF2 (fun x hx => Or.inl hx)), k2, n, hW2, rfl, h2⟩
  have hF' : FrS (Sw w) I I' := FrS_mono hF (fun x hx => Or.inr hx)
  unfold f_X10_sum_j191
  rcases hsw with rfl | rfl
  · rw [if_pos rfl]
    conv => arg 1; simp (disch := omega) only [↓reduceIte, ↓q_let, ↓q_xz1, ↓q_xz0, ↓lg_cmp_ge, ↓lg_cmp_le, ↓lg_cmp_gt, ↓lg_cmp_lt, n_lit, j_lit, n_add, n_mul, n_sub, n_dec, Nat.add_sub_cancel, n_leT, n_leF, n_ltT, n_ltF, n_eqT, n_eqF, n_in, n_cl, n_m31, j_m63, j_of32, j_32, i64_add, i64_mul, jn_sub, j_leT, j_leF, j_ltT, j_ltF, j_eqF, jn_and30, jn_sar30, jn_shor, Int32.neg_neg, and_true, true_and, and_self, ↓bW_gI ha]
    rw [ea]
    refine q_mono (j206 x) ?_
    rintro r ⟨I2, rfl, hF2, k2, n', hW2, rfl, h2⟩
    exact ⟨I2, rfl, FrS_tr hF' hF2, k2, n', hW2, hn, by rw [if_pos rfl]; exact h2⟩
  · rw [if_neg (by first | decide | omega)]
    refine q_mono (j206 t) ?_
    rintro r ⟨I2, rfl, hF2, k2, n', hW2, rfl, h2⟩
    exact ⟨I2, rfl, FrS_tr hF' hF2, k2, n', hW2, hn, by rw [if_neg (show ¬ (1 : Int32) = 0 by decide)]; exact h2⟩
theorem cmpN_ge {n m : Nat} : (0 : Int32) ≤ cmpN n m ↔ m ≤ n := by
  unfold cmpN
  by_cases h : n < m
  · rw [if_pos h]
    exact ⟨fun q => absurd q (by first | decide | omega), fun q => by omega⟩
  · rw [if_neg h]
    split
    · exact ⟨fun _ => by omega, fun _ => by decide⟩
    · exact ⟨fun _ => by omega, fun _ => by decide⟩
theorem W_sum {a b ca cb p : Nat} {x y s' : Int} {m : Int32} (hR : RA R) (hw : isW w c) (ha : Wz I a ca x) (hb : Wz I b cb y) (hxp : x.natAbs < Bw p) (hyp : y.natAbs < Bw p) (hp : p + 1 ≤ c) (hm : (m = 0 ∧ s' = 1) ∨ (m = 1 ∧ s' = -1)) (hwa : w ≠ a) (hwb : w ≠ b) :
    QK (f_X10_sum (mg (4562 + zn J) I J R) w a b m) (fun r => ∃ I', r = mg (4562 + zn J) I' J R ∧ FrS (Sw w) I I' ∧ Wz I' w c (x + s' * y)) := by
  obtain ⟨⟨k, hk⟩, hs⟩ := ha
  obtain ⟨⟨k', hk'⟩, hs'⟩ := hb
  have kp := (Wh_Bw (p := p) hk).mp hxp
  have kp' := (Wh_Bw (p := p) hk').mp hyp
  obtain ⟨t, ht, ht2⟩ : ∃ t, (if sgn y = m then (0 : Int32) else 1) = sgn t ∧ (y ≠ 0 → t = s' * y) := by
    rcases hm with ⟨rfl, rfl⟩ | ⟨rfl, rfl⟩
    · by_cases q : y < 0
      · exact ⟨y, by unfold sgn; rw [if_pos q]; rfl, fun _ => by omega⟩
      · exact ⟨y, by unfold sgn; rw [if_neg q]; rfl, fun _ => by omega⟩
    · by_cases q : y < 0
      · exact ⟨-y, by rw [show sgn y = 1 from if_pos q, show sgn (-y) = 0 from if_neg (by omega)]; rfl, fun _ => by omega⟩
      · by_cases q0 : y = 0
        · exact ⟨-1, by subst q0; decide, fun z => absurd q0 z⟩
        · exact ⟨-y, by rw [show sgn y = 0 from if_neg q, show sgn (-y) = 1 from if_pos (by omega)]; rfl, fun _ => by omega⟩
  have j13 : QK (f_X10_sum_j13 (mg (4562 + zn J) I J R) w a b (sgn t)) (fun r => ∃ I', r = mg (4562 + zn J) I' J R ∧ FrS (Sw w) I I' ∧ Wz I' w c (x + s' * y)) := by
    unfold f_X10_sum_j13 f_X10_sum_j28 f_X10_sum_j40 f_X10_sum_j52
    rw [W_cmpSizes hR hk hk', Option.bind_some]
    have s'y : s' * y = y ∨ s' * y = -y := by
      rcases hm with ⟨-, rfl⟩ | ⟨-, rfl⟩ <;> omega
    generalize s' * y = y' at s'y ht2
    by_cases q : y.natAbs ≤ x.natAbs
    · rw [if_pos (cmpN_ge.mpr q), if_pos rfl, if_pos rfl]
      conv => arg 1; simp (disch := omega) only [↓reduceIte, ↓q_let, ↓q_xz1, ↓q_xz0, ↓lg_cmp_ge, ↓lg_cmp_le, ↓lg_cmp_gt, ↓lg_cmp_lt, n_lit, j_lit, n_add, n_mul, n_sub, n_dec, Nat.add_sub_cancel, n_leT, n_leF, n_ltT, n_ltF, n_eqT, n_eqF, n_in, n_cl, n_m31, j_m63, j_of32, j_32, i64_add, i64_mul, jn_sub, j_leT, j_leF, j_ltT, j_ltF, j_eqF, jn_and30, jn_sar30, jn_shor, Int32.neg_neg, and_true, true_and, and_self, ↓bW_gI hk.1]
      rw [hs]
      have fin : ∀ (s : Int) (f : Int32), (s = 1 ∧ f = 1) ∨ (s = -1 ∧ f = -1) → ((x.natAbs : Int) + s * y.natAbs = (x + y').natAbs) → QK (f_X10_sum_j68 (mg (4562 + zn J) I J R) w a (sgn t) 0 a b f) (fun r => ∃ I', r = mg (4562 + zn J) I' J R ∧ FrS (Sw w) I I' ∧ Wz I' w c (x + y')) := by
        intro s f hsf e
        refine q_mono (W_sum68 (x := x) (t := t) hR hw hk.1 hs hk hk' q (by omega) hsf hwa hwb hwa (Or.inl rfl)) ?_
        rintro r ⟨I', rfl, hF, k2, n, hW, hn, h2⟩
        rw [if_pos rfl] at h2
        have en : n = (x + y').natAbs := by omega
        refine ⟨I', rfl, hF, ⟨k2, by rw [← en]; exact hW⟩, ?_⟩
        rw [h2]
        by_cases z : n = 0
        · rw [if_pos z]
          unfold sgn
          rw [if_neg (by omega)]
        · rw [if_neg z]
          unfold sgn
          by_cases g : x < 0
          · rw [if_pos g, if_pos (by omega)]
          · rw [if_neg g, if_neg (by omega)]
      by_cases z : sgn x = sgn t
      · rw [if_pos z]
        refine fin 1 1 (Or.inl ⟨rfl, rfl⟩) ?_
        by_cases y0 : y = 0
        · omega
        · have := sgn_inj.mp z
          have := ht2 y0
          omega
      · rw [if_neg z]
        refine fin (-1) (-1) (Or.inr ⟨rfl, rfl⟩) ?_
        by_cases y0 : y = 0
        · omega
        · have z' : ¬ (x < 0 ↔ t < 0) := fun g => z (sgn_inj.mpr g)
          have := ht2 y0
          omega
    · rw [if_neg (fun g => q (cmpN_ge.mp g)), if_neg (by first | decide | omega), if_neg (by first | decide | omega)]
      conv => arg 1; simp (disch := omega) only [↓reduceIte, ↓q_let, ↓q_xz1, ↓q_xz0, ↓lg_cmp_ge, ↓lg_cmp_le, ↓lg_cmp_gt, ↓lg_cmp_lt, n_lit, j_lit, n_add, n_mul, n_sub, n_dec, Nat.add_sub_cancel, n_leT, n_leF, n_ltT, n_ltF, n_eqT, n_eqF, n_in, n_cl, n_m31, j_m63, j_of32, j_32, i64_add, i64_mul, jn_sub, j_leT, j_leF, j_ltT, j_ltF, j_eqF, jn_and30, jn_sar30, jn_shor, Int32.neg_neg, and_true, true_and, and_self, ↓bW_gI hk.1]
      rw [hs]
      have et := ht2 (by omega)
      have fin : ∀ (s : Int) (f : Int32), (s = 1 ∧ f = 1) ∨ (s = -1 ∧ f = -1) → ((y.natAbs : Int) + s * x.natAbs = (x + y').natAbs) → QK (f_X10_sum_j68 (mg (4562 + zn J) I J R) w a (sgn t) 1 b a f) (fun r => ∃ I', r = mg (4562 + zn J) I' J R ∧ FrS (Sw w) I I' ∧ Wz I' w c (x + y')) := by
        intro s f hsf e
        refine q_mono (W_sum68 (x := x) (t := t) hR hw hk.1 hs hk' hk (by omega) (by omega) hsf hwb hwa hwa (Or.inr rfl)) ?_
        rintro r ⟨I', rfl, hF, k2, n, hW, hn, h2⟩
        rw [if_neg (show ¬ (1 : Int32) = 0 by decide)] at h2
        have en : n = (x + y').natAbs := by omega
        refine ⟨I', rfl, hF, ⟨k2, by rw [← en]; exact hW⟩, ?_⟩
        rw [h2, if_neg (by omega)]
        unfold sgn
        by_cases g : t < 0
        · rw [if_pos g, if_pos (by omega)]
        · rw [if_neg g, if_neg (by omega)]
      by_cases z : sgn x = sgn t
      · rw [if_pos z]
        refine fin 1 1 (Or.inl ⟨rfl, rfl⟩) ?_
        have := sgn_inj.mp z
        omega
      · rw [if_neg z]
        refine fin (-1) (-1) (Or.inr ⟨rfl, rfl⟩) ?_
        have z' : ¬ (x < 0 ↔ t < 0) := fun g => z (sgn_inj.mpr g)
        omega
  unfold f_X10_sum
  conv => arg 1; simp (disch := omega) only [↓reduceIte, ↓q_let, ↓q_xz1, ↓q_xz0, ↓lg_cmp_ge, ↓lg_cmp_le, ↓lg_cmp_gt, ↓lg_cmp_lt, n_lit, j_lit, n_add, n_mul, n_sub, n_dec, Nat.add_sub_cancel, n_leT, n_leF, n_ltT, n_ltF, n_eqT, n_eqF, n_in, n_cl, n_m31, j_m63, j_of32, j_32, i64_add, i64_mul, jn_sub, j_leT, j_leF, j_ltT, j_ltF, j_eqF, jn_and30, jn_sar30, jn_shor, Int32.neg_neg, and_true, true_and, and_self, ↓bW_gI hk'.1]
  rw [hs']
  rw [← ht] at j13
  by_cases q : sgn y = m
  · rw [if_pos q] at j13 ⊢
    exact j13
  · rw [if_neg q] at j13 ⊢
    exact j13
end WE
