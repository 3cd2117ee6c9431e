/-! the class's arithmetic: sums, products, quotients as they come -/
theorem nm_lt {x y : Int} {p q : Nat} (h : x.natAbs < Bw p) (h' : y.natAbs < Bw q) : (x * y).natAbs < Bw (p + q) := by
  rw [Int.natAbs_mul, Bw_add]
  exact Nat.mul_lt_mul'' h h'
theorem Wz_fr {I I' : Nat → Nat → Int32} {w c : Nat} {z : Int} {S : Nat → Prop} (h : Wz I w c z) (hF : FrS S I I') (h1 : ¬ S w) (h2 : ¬ S (w + 1)) : Wz I' w c z := Wz_keep h (hF _ h1) (hF _ h2)
section AR
variable {I : Nat → Nat → Int32} {J : Nat → Nat → Int64} {R : Nat → Nat → Option Nat} {t f g c d p q : Nat} {β : Type}
theorem A_sum {a b a' b' s' : Int} {m : Int32} (hR : RA R) (ht : isF t 100) (hf : FU I f c a b) (hg : FU I g d a' b') (ha : a.natAbs < Bw p) (hb : b.natAbs < Bw p) (ha' : a'.natAbs < Bw q) (hb' : b'.natAbs < Bw q) (hp : p + q + 1 ≤ 100) (hm : (m = 0 ∧ s' = 1) ∨ (m = 1 ∧ s' = -1)) :
    QK (f_X0_sum (mg (4562 + zn J) I J R) 1 t f g m) (fun r => ∃ I', r = mg (4562 + zn J) I' J R ∧ FrS (Sa t) I I' ∧ FU I' t 100 (a * b' + s' * (a' * b)) (b * b')) := by
  have t10 := ht.1
  have f10 := hf.1.1
  have g10 := hg.1.1
  have wt1 := ht.2.2.2.2.2.1
  have wt2 := ht.2.2.2.2.2.2
  have j51 : QK (f_X0_sum_j51 (mg (4562 + zn J) I J R) 1 t f g m) (fun r => ∃ I', r = mg (4562 + zn J) I' J R ∧ FrS (Sa t) I I' ∧ FU I' t 100 (a * b' + s' * (a' * b)) (b * b')) := by
    unfold f_X0_sum_j51
    rw [bA_0 hR, bF_g0 hf.1 hR, bF_g1 hg.1 hR, if_pos (bW_xk isW_2)]
    refine q_bind (W_multiply hR isW_2 hf.2.1 hg.2.2 ha hb' (by omega) (by omega) (by omega)) ?_
    rintro r ⟨I1, rfl, hF1, h1⟩
    rw [bA_1 hR, bF_g0 hg.1 hR, bF_g1 hf.1 hR, if_pos (bW_xk isW_4)]
    refine q_bind (W_multiply (I := I1) hR isW_4 (Wz_fr hg.2.1 hF1 (by unfold Sw; omega) (by unfold Sw; omega)) (Wz_fr hf.2.2 hF1 (by unfold Sw; omega) (by unfold Sw; omega)) ha' hb (by omega) (by omega) (by omega)) ?_
    rintro r ⟨I2, rfl, hF2, h2⟩
    rw [bA_2 hR, bF_g1 hf.1 hR, bF_g1 hg.1 hR, if_pos (bW_xk isW_6)]
    have hF12 : FrS (fun x => 2 ≤ x ∧ x < 6) I I2 := FrS_tr (FrS_mono hF1 (fun x h => by unfold Sw at h; omega)) (FrS_mono hF2 (fun x h => by unfold Sw at h; omega))
    refine q_bind (W_multiply (I := I2) hR isW_6 (Wz_fr hf.2.2 hF12 (by omega) (by omega)) (Wz_fr hg.2.2 hF12 (by omega) (by omega)) hb hb' (by omega) (by omega) (by omega)) ?_
    rintro r ⟨I3, rfl, hF3, h3⟩
    rw [bF_g1 ht hR, bA_2 hR, if_pos (bW_xk wt2)]
    refine q_bind (W_copy (I := I3) hR wt2 h3 (Nat.lt_of_lt_of_le (nm_lt hb hb') (Bw_le (by omega))) (by omega)) ?_
    rintro r ⟨I4, rfl, hF4, h4⟩
    rw [bF_g0 ht hR, bA_0 hR, bA_1 hR, if_pos (bW_xk wt1)]
    have hF34 : FrS (fun x => x = 6 ∨ x = 7 ∨ x = t + 3 ∨ x = t + 4) I2 I4 := FrS_tr (FrS_mono hF3 (fun x h => by unfold Sw at h; omega)) (FrS_mono hF4 (fun x h => by unfold Sw at h; omega))
    refine q_bind (W_sum (I := I4) (p := p + q) hR wt1 (Wz_fr (Wz_fr h1 hF2 (by unfold Sw; omega) (by unfold Sw; omega)) hF34 (by omega) (by omega)) (Wz_fr h2 hF34 (by omega) (by omega)) (nm_lt ha hb') (by rw [Nat.add_comm]; exact nm_lt ha' hb) hp hm (by omega) (by omega)) ?_
    rintro r ⟨I5, rfl, hF5, h5⟩
    refine q_ok ⟨I5, rfl, FrS_tr (FrS_tr (FrS_mono hF12 (fun x h => by unfold Sa; omega)) (FrS_mono hF34 (fun x h => by unfold Sa; omega))) (FrS_mono hF5 (fun x h => by unfold Sw at h; unfold Sa; omega)), ht, h5, Wz_fr h4 hF5 (by unfold Sw; omega) (by unfold Sw; omega)⟩
  unfold f_X0_sum
  rw [if_pos (bF_xk hf.1), F_isWhole hR hf, Option.bind_some]
  by_cases q1 : b = 1
  · rw [if_pos q1, if_neg (by first | decide | omega), if_pos (bF_xk hg.1), F_isWhole hR hg, Option.bind_some]
    by_cases q2 : b' = 1
    · rw [if_pos q2, if_neg (by first | decide | omega), bA_0 hR, bF_g0 hf.1 hR, bF_g0 hg.1 hR, if_pos (bW_xk isW_2)]
      have ha2 : a.natAbs < Bw (p + q) := Nat.lt_of_lt_of_le ha (Bw_le (by omega))
      have ha3 : a'.natAbs < Bw (p + q) := Nat.lt_of_lt_of_le ha' (Bw_le (by omega))
      refine q_bind (W_sum (p := p + q) hR isW_2 hf.2.1 hg.2.1 ha2 ha3 hp hm (by omega) (by omega)) ?_
      rintro r ⟨I1, rfl, hF1, h1⟩
      rw [bF_g0 ht hR, bA_0 hR, if_pos (bW_xk wt1)]
      have hb1 : (a + s' * a').natAbs < Bw 100 := by
        have h2 : 2 * Bw (p + q) ≤ Bw (p + q + 1) := by rw [Bw_s]; have := Bw_pos (p + q); omega
        have h3 : Bw (p + q + 1) ≤ Bw 100 := Bw_le hp
        rcases hm with ⟨-, rfl⟩ | ⟨-, rfl⟩ <;> omega
      refine q_bind (W_copy (I := I1) hR wt1 h1 hb1 (by omega)) ?_
      rintro r ⟨I2, rfl, hF2, h2⟩
      rw [bF_g1 ht hR, if_pos (bW_xk wt2)]
      refine q_bind (W_set (n := 1) hR wt2 (by omega)) ?_
      rintro r ⟨I3, rfl, hF3, h3⟩
      refine q_ok ⟨I3, rfl, FrS_tr (FrS_tr (FrS_mono hF1 (fun x h => by unfold Sw at h; unfold Sa; omega)) (FrS_mono hF2 (fun x h => by unfold Sw at h; unfold Sa; omega))) (FrS_mono hF3 (fun x h => by unfold Sw at h; unfold Sa; omega)), ht, ?_, ?_⟩
      · rw [q1, q2, Int.mul_one, Int.mul_one]
        exact Wz_fr h2 hF3 (by unfold Sw; omega) (by unfold Sw; omega)
      · rw [q1, q2]
        exact h3
    · rw [if_neg q2, if_pos rfl]
      exact j51
  · rw [if_neg q1, if_pos rfl]
    exact j51
theorem A_prod {x x2 y y2 : Int} {u v u2 v2 cu cv cu2 cv2 : Nat} (hR : RA R) (ht : isF t 100) (h1 : Wz I u cu x) (h2 : Wz I v cv y) (h3 : Wz I u2 cu2 x2) (h4 : Wz I v2 cv2 y2) (l1 : 10 ≤ u) (l2 : 10 ≤ v) (l3 : 10 ≤ u2) (l4 : 10 ≤ v2) (b1 : x.natAbs < Bw p) (b2 : y.natAbs < Bw q) (b3 : x2.natAbs < Bw p) (b4 : y2.natAbs < Bw q) (hp : p + q ≤ 100) {K : xM → Option xM} (hK : ∀ I', K (mg (4562 + zn J) I' J R) = (gR (mg (4562 + zn J) I' J R) t 2 0).bind (fun x9 => (gR (mg (4562 + zn J) I' J R) 1 0 0).bind (fun x10 => (if xk (mg (4562 + zn J) I' J R) x9 10 = true then (f_X10_copy (mg (4562 + zn J) I' J R) x9 x10).bind (fun p11 => (gR p11 t 2 1).bind (fun x12 => (gR p11 1 0 1).bind (fun x13 => (if xk p11 x12 10 = true then (f_X10_copy p11 x12 x13).bind (fun p14 => some p14) else none)))) else none)))) {F : xM → Option xM} (hFF : ∀ I', F (mg (4562 + zn J) I' J R) = (f_X10_multiply (mg (4562 + zn J) I' J R) 4 u2 v2).bind K) :
    QK ((f_X10_multiply (mg (4562 + zn J) I J R) 2 u v).bind F) (fun r => ∃ I', r = mg (4562 + zn J) I' J R ∧ FrS (Sa t) I I' ∧ FU I' t 100 (x * y) (x2 * y2)) := by
  have t10 := ht.1
  have wt1 := ht.2.2.2.2.2.1
  have wt2 := ht.2.2.2.2.2.2
  refine q_bind (W_multiply hR isW_2 h1 h2 b1 b2 (by omega) (by omega) (by omega)) ?_
  rintro r ⟨I1, rfl, hF1, g1⟩
  rw [hFF]
  refine q_bind (W_multiply (I := I1) hR isW_4 (Wz_fr h3 hF1 (by unfold Sw; omega) (by unfold Sw; omega)) (Wz_fr h4 hF1 (by unfold Sw; omega) (by unfold Sw; omega)) b3 b4 (by omega) (by omega) (by omega)) ?_
  rintro r ⟨I2, rfl, hF2, g2⟩
  rw [hK, bF_g0 ht hR, bA_0 hR, if_pos (bW_xk wt1)]
  refine q_bind (W_copy (I := I2) hR wt1 (Wz_fr g1 hF2 (by unfold Sw; omega) (by unfold Sw; omega)) (Nat.lt_of_lt_of_le (nm_lt b1 b2) (Bw_le (by omega))) (by omega)) ?_
  rintro r ⟨I3, rfl, hF3, g3⟩
  rw [bF_g1 ht hR, bA_1 hR, if_pos (bW_xk wt2)]
  refine q_bind (W_copy (I := I3) hR wt2 (Wz_fr g2 hF3 (by unfold Sw; omega) (by unfold Sw; omega)) (Nat.lt_of_lt_of_le (nm_lt b3 b4) (Bw_le (by omega))) (by omega)) ?_
  rintro r ⟨I4, rfl, hF4, g4⟩
  refine q_ok ⟨I4, rfl, FrS_tr (FrS_tr (FrS_mono hF1 (fun x h => by unfold Sw at h; unfold Sa; omega)) (FrS_mono hF2 (fun x h => by unfold Sw at h; unfold Sa; omega))) (FrS_tr (FrS_mono hF3 (fun x h => by unfold Sw at h; unfold Sa; omega)) (FrS_mono hF4 (fun x h => by unfold Sw at h; unfold Sa; omega))), ht, Wz_fr g3 hF4 (by unfold Sw; omega) (by unfold Sw; omega), g4⟩
theorem A_times {a b a' b' : Int} (hR : RA R) (ht : isF t 100) (hf : FU I f c a b) (hg : FU I g d a' b') (ha : a.natAbs < Bw p) (hb : b.natAbs < Bw p) (ha' : a'.natAbs < Bw q) (hb' : b'.natAbs < Bw q) (hp : p + q ≤ 100) :
    QK (f_X0_times (mg (4562 + zn J) I J R) 1 t f g) (fun r => ∃ I', r = mg (4562 + zn J) I' J R ∧ FrS (Sa t) I I' ∧ FU I' t 100 (a * a') (b * b')) := by
  have f10 := hf.1.1
  have g10 := hg.1.1
  unfold f_X0_times
  rw [bA_0 hR, bF_g0 hf.1 hR, bF_g0 hg.1 hR, if_pos (bW_xk isW_2)]
  exact A_prod hR ht hf.2.1 hg.2.1 hf.2.2 hg.2.2 (by omega) (by omega) (by omega) (by omega) ha ha' hb hb' hp (fun I' => rfl) (fun I' => by rw [bA_1 hR, bF_g1 hf.1 hR, bF_g1 hg.1 hR, if_pos (bW_xk isW_4)])
theorem A_over {a b a' b' : Int} (hR : RA R) (ht : isF t 100) (hf : FU I f c a b) (hg : FU I g d a' b') (ha : a.natAbs < Bw p) (hb : b.natAbs < Bw p) (ha' : a'.natAbs < Bw q) (hb' : b'.natAbs < Bw q) (hp : p + q ≤ 100) :
    QK (f_X0_over (mg (4562 + zn J) I J R) 1 t f g) (fun r => ∃ I', r = mg (4562 + zn J) I' J R ∧ FrS (Sa t) I I' ∧ FU I' t 100 (a * b') (b * a')) := by
  have f10 := hf.1.1
  have g10 := hg.1.1
  unfold f_X0_over
  rw [bA_0 hR, bF_g0 hf.1 hR, bF_g1 hg.1 hR, if_pos (bW_xk isW_2)]
  exact A_prod hR ht hf.2.1 hg.2.2 hf.2.2 hg.2.1 (by omega) (by omega) (by omega) (by omega) ha hb' hb ha' hp (fun I' => rfl) (fun I' => by rw [bA_1 hR, bF_g1 hf.1 hR, bF_g0 hg.1 hR, if_pos (bW_xk isW_4)])
theorem A_compare {a b a' b' : Int} (hR : RA R) (hf : FU I f c a b) (hg : FU I g d a' b') (ha : a.natAbs < Bw p) (hb : b.natAbs < Bw p) (ha' : a'.natAbs < Bw q) (hb' : b'.natAbs < Bw q) (hp : p + q ≤ 100) :
    QK (f_X0_compare (mg (4562 + zn J) I J R) 1 f g) (fun r => ∃ I', r = (cmpZ (a * b') (a' * b), mg (4562 + zn J) I' J R) ∧ FrS (fun x => 2 ≤ x ∧ x < 10) I I') := by
  have f10 := hf.1.1
  have g10 := hg.1.1
  unfold f_X0_compare
  rw [bA_0 hR, bF_g0 hf.1 hR, bF_g1 hg.1 hR, if_pos (bW_xk isW_2)]
  refine q_bind (W_multiply hR isW_2 hf.2.1 hg.2.2 ha hb' (by omega) (by omega) (by omega)) ?_
  rintro r ⟨I1, rfl, hF1, h1⟩
  rw [bA_1 hR, bF_g0 hg.1 hR, bF_g1 hf.1 hR, if_pos (bW_xk isW_4)]
  refine q_bind (W_multiply (I := I1) hR isW_4 (Wz_fr hg.2.1 hF1 (by unfold Sw; omega) (by unfold Sw; omega)) (Wz_fr hf.2.2 hF1 (by unfold Sw; omega) (by unfold Sw; omega)) ha' hb (by omega) (by omega) (by omega)) ?_
  rintro r ⟨I2, rfl, hF2, h2⟩
  rw [bA_0 hR, bA_1 hR, W_cmpSigned hR (Wz_fr h1 hF2 (by unfold Sw; omega) (by unfold Sw; omega)) h2, Option.bind_some]
  exact q_ok ⟨I2, rfl, FrS_tr (FrS_mono hF1 (fun x h => by unfold Sw at h; omega)) (FrS_mono hF2 (fun x h => by unfold Sw at h; omega))⟩
end AR
