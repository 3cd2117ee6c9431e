/-! the class's whole numbers: divided by another one -/
theorem div_top {U V n su : Nat} (hV : Bw (n - 1) ≤ V) (hn : 1 ≤ n) (hU : U < Bw su) (h : n ≤ su) : U < V * Bw (su - n + 1) := by
  refine Nat.lt_of_lt_of_le hU ?_
  rw [show su = n - 1 + (su - n + 1) by omega, Bw_add, show n - 1 + (su - n + 1) - n + 1 = su - n + 1 by omega]
  exact Nat.mul_le_mul_right _ hV
theorem cmpN_ge0 {n m : Nat} : (Int32.ofNat (0)) ≤ cmpN n m ↔ m ≤ n := cmpN_ge
section WM
variable {I : Nat → Nat → Int32} {J : Nat → Nat → Int64} {R : Nat → Nat → Option Nat} {w c v e q cq : Nat}
theorem W_divideBy {x y : Int} (hR : RA R) (hw : isW w c) (hx : Wz I w c x) (hy : Wz I v e y) (hq : isW q 100) (hv : w ≠ v) (hwq : w ≠ q) (hvq : v ≠ q) (hy0 : y ≠ 0) :
    QK (f_X10_divideBy (mg (4562 + zn J) I J R) w v q) (fun r => ∃ I', r = mg (4562 + zn J) I' J R ∧ FrS (fun x => x = w ∨ x = w + 1 ∨ x = q ∨ x = q + 1) I I' ∧ Wz I' w c ((x.natAbs % y.natAbs : Nat) : Int) ∧ Wz I' q 100 ((x.natAbs / y.natAbs : Nat) : Int)) := by
  obtain ⟨⟨su, hU⟩, hs⟩ := hx
  obtain ⟨⟨n, hV⟩, hs'⟩ := hy
  have hv' := hV.1
  have n1 := isW_ne hw hv'
  have n2 := isW_ne hv' hw
  have n3 := isW_ne hw hq
  have n4 := isW_ne hq hw
  have n5 := isW_ne hv' hq
  have n6 := isW_ne hq hv'
  have hc := hw.2.2.2.2
  have he := hv'.2.2.2.2
  have ke := hV.2.2.1
  have ksu := hU.2.2.1
  generalize hU' : x.natAbs = U at *
  have hV0 : 0 < y.natAbs := by omega
  generalize hV' : y.natAbs = V at *
  have n0 : n ≠ 0 := fun h => by have := (Wh_0 hV).mp h; omega
  unfold f_X10_divideBy f_X10_divideBy_j27
  conv => arg 1; simp (disch := omega) only [↓reduceIte, ↓q_let, ↓q_xz1, ↓q_xz0, ↓lg_cmp_ge, ↓lg_cmp_le, ↓lg_cmp_gt, ↓lg_cmp_lt, n_lit, j_lit, n_add, n_mul, n_sub, n_dec, Nat.add_sub_cancel, n_leT, n_leF, n_ltT, n_ltF, n_eqT, n_eqF, n_in, n_cl, n_m31, j_m63, j_of32, j_32, i64_add, i64_mul, jn_sub, j_leT, j_leF, j_ltT, j_ltF, j_eqF, jn_and30, jn_sar30, jn_shor, Int32.neg_neg, and_true, true_and, and_self, ↓bW_sZ0 hw, bW_xk hq]
  have hF0 : FrS (fun x => x = w ∨ x = w + 1 ∨ x = q ∨ x = q + 1) I (up I w 2 (Int32.ofNat (0))) := FrS_up FrS_rfl (Or.inl rfl)
  refine q_bind (W_set (n := 0) hR hq (by omega)) ?_
  rintro r ⟨I1, rfl, hF1, hQ1⟩
  have f1 : ∀ x, x ≠ q → x ≠ q + 1 → I1 x = up I w 2 (Int32.ofNat (0)) x := fun x h1 h2 => hF1 x (by unfold Sw; omega)
  have gU : Wh I1 w c su U := by
    refine ⟨hw, ?_, ksu, Dg_keep hU.2.2.2.1 (fun j _ => ?_), hU.2.2.2.2⟩
    · rw [f1 w (by omega) (by omega), up_n (Or.inr (by first | decide | omega))]
      exact hU.2.1
    · rw [f1 (w + 1) (by omega) (by omega), up_n (by omega)]
  have gs : I1 w 2 = 0 := by rw [f1 w (by omega) (by omega), up_s]; rfl
  have gV : Wh I1 v e n V := Wh_keep hV (by rw [f1 v (by omega) (by omega), up_r (by omega)]) (by rw [f1 (v + 1) (by omega) (by omega), up_r (by omega)])
  have hFI1 : FrS (fun x => x = w ∨ x = w + 1 ∨ x = q ∨ x = q + 1) I I1 := FrS_tr hF0 (FrS_mono hF1 (fun x h => by unfold Sw at h; omega))
  have e1 := gV.2.1
  have e2 := gU.2.1
  have kn := Wh_c gV
  by_cases hlt : U < V
  · conv => arg 1; simp (disch := omega) only [↓reduceIte, ↓q_let, ↓q_xz1, ↓q_xz0, ↓lg_cmp_ge, ↓lg_cmp_le, ↓lg_cmp_gt, ↓lg_cmp_lt, n_lit, j_lit, n_add, n_mul, n_sub, n_dec, Nat.add_sub_cancel, n_leT, n_leF, n_ltT, n_ltF, n_eqT, n_eqF, n_in, n_cl, n_m31, j_m63, j_of32, j_32, i64_add, i64_mul, jn_sub, j_leT, j_leF, j_ltT, j_ltF, j_eqF, jn_and30, jn_sar30, jn_shor, Int32.neg_neg, and_true, true_and, and_self, ↓bW_gI hv', e1]
    rw [W_cmpSizes hR gU gV, Option.bind_some, if_neg (fun z => absurd (cmpN_ge0.mp z) (by omega))]
    refine q_ok ⟨I1, rfl, hFI1, ?_, ?_⟩
    · rw [Nat.mod_eq_of_lt hlt]
      exact ⟨⟨su, by rw [Int.natAbs_natCast]; exact gU⟩, by rw [gs, sgn_n]⟩
    · rw [Nat.div_eq_of_lt hlt]
      exact hQ1
  have hns : n ≤ su := Nat.le_of_not_lt (fun z => hlt (W_eqk gU gV z))
  by_cases hn1 : n = 1
  · subst hn1
    conv => arg 1; simp (disch := omega) only [↓reduceIte, ↓q_let, ↓q_xz1, ↓q_xz0, ↓lg_cmp_ge, ↓lg_cmp_le, ↓lg_cmp_gt, ↓lg_cmp_lt, n_lit, j_lit, n_add, n_mul, n_sub, n_dec, Nat.add_sub_cancel, n_leT, n_leF, n_ltT, n_ltF, n_eqT, n_eqF, n_in, n_cl, n_m31, j_m63, j_of32, j_32, i64_add, i64_mul, jn_sub, j_leT, j_leF, j_ltT, j_ltF, j_eqF, jn_and30, jn_sar30, jn_shor, Int32.neg_neg, and_true, true_and, and_self, ↓bW_gI hv', e1]
    rw [W_cmpSizes hR gU gV, Option.bind_some, if_pos (cmpN_ge0.mpr (by omega))]
    conv => arg 1; simp (disch := omega) only [↓reduceIte, ↓q_let, ↓q_xz1, ↓q_xz0, ↓lg_cmp_ge, ↓lg_cmp_le, ↓lg_cmp_gt, ↓lg_cmp_lt, n_lit, j_lit, n_add, n_mul, n_sub, n_dec, Nat.add_sub_cancel, n_leT, n_leF, n_ltT, n_ltF, n_eqT, n_eqF, n_in, n_cl, n_m31, j_m63, j_of32, j_32, i64_add, i64_mul, jn_sub, j_leT, j_leF, j_ltT, j_ltF, j_eqF, jn_and30, jn_sar30, jn_shor, Int32.neg_neg, and_true, true_and, and_self, bW_xk hq]
    refine q_bind (W_copySize hR hq gU (by omega) (by omega)) ?_
    rintro r ⟨I2, rfl, hF2, hQ2, hs2⟩
    have f2 : ∀ x, x ≠ q → x ≠ q + 1 → I2 x = I1 x := fun x h1 h2 => hF2 x (by unfold Sw; omega)
    have hV1 : V < 1073741824 := Wh_lt gV
    have e3 : I2 (v + 1) 0 = (Int32.ofNat (V)) := by
      rw [f2 (v + 1) (by omega) (by omega), gV.2.2.2.1.2 0 (by omega), dW_0 hV1]
    conv => arg 1; simp (disch := omega) only [↓reduceIte, ↓q_let, ↓q_xz1, ↓q_xz0, ↓lg_cmp_ge, ↓lg_cmp_le, ↓lg_cmp_gt, ↓lg_cmp_lt, n_lit, j_lit, n_add, n_mul, n_sub, n_dec, Nat.add_sub_cancel, n_leT, n_leF, n_ltT, n_ltF, n_eqT, n_eqF, n_in, n_cl, n_m31, j_m63, j_of32, j_32, i64_add, i64_mul, jn_sub, j_leT, j_leF, j_ltT, j_ltF, j_eqF, jn_and30, jn_sar30, jn_shor, Int32.neg_neg, and_true, true_and, and_self, ↓bW_gR hv' hR, ↓bW_aI hv', e3, bW_xk hq]
    refine q_bind (W_shrink hR hQ2 hV0 (by omega)) ?_
    rintro r ⟨I3, k', rfl, hF3, hQ3, hs3⟩
    have f3 : ∀ x, x ≠ q → x ≠ q + 1 → I3 x = I2 x := fun x h1 h2 => hF3 x (by unfold Sw; omega)
    have hml := Nat.mod_lt U hV0
    conv => arg 1; simp (disch := omega) only [↓reduceIte, ↓q_let, ↓q_xz1, ↓q_xz0, ↓lg_cmp_ge, ↓lg_cmp_le, ↓lg_cmp_gt, ↓lg_cmp_lt, n_lit, j_lit, n_add, n_mul, n_sub, n_dec, Nat.add_sub_cancel, n_leT, n_leF, n_ltT, n_ltF, n_eqT, n_eqF, n_in, n_cl, n_m31, j_m63, j_of32, j_32, i64_add, i64_mul, jn_sub, j_leT, j_leF, j_ltT, j_ltF, j_eqF, jn_and30, jn_sar30, jn_shor, Int32.neg_neg, and_true, true_and, and_self, bW_xk hw]
    refine q_bind (W_set hR hw (show U % V < _ by omega)) ?_
    rintro r ⟨I4, rfl, hF4, hW4⟩
    have f4 : ∀ x, x ≠ w → x ≠ w + 1 → I4 x = I3 x := fun x h1 h2 => hF4 x (by unfold Sw; omega)
    refine q_ok ⟨I4, rfl, FrS_tr (FrS_tr (FrS_tr hFI1 (FrS_mono hF2 (fun x h => by unfold Sw at h; omega))) (FrS_mono hF3 (fun x h => by unfold Sw at h; omega))) (FrS_mono hF4 (fun x h => by unfold Sw at h; omega)), hW4, ⟨k', ?_⟩, ?_⟩
    · rw [Int.natAbs_natCast]
      exact Wh_keep hQ3 (f4 q (by omega) (by omega)) (f4 (q + 1) (by omega) (by omega))
    · rw [f4 q (by omega) (by omega), hs3, hs2, hQ1.2]
      exact if_pos rfl
  · conv => arg 1; simp (disch := omega) only [↓reduceIte, ↓q_let, ↓q_xz1, ↓q_xz0, ↓lg_cmp_ge, ↓lg_cmp_le, ↓lg_cmp_gt, ↓lg_cmp_lt, n_lit, j_lit, n_add, n_mul, n_sub, n_dec, Nat.add_sub_cancel, n_leT, n_leF, n_ltT, n_ltF, n_eqT, n_eqF, n_in, n_cl, n_m31, j_m63, j_of32, j_32, i64_add, i64_mul, jn_sub, j_leT, j_leF, j_ltT, j_ltF, j_eqF, jn_and30, jn_sar30, jn_shor, Int32.neg_neg, and_true, true_and, and_self, ↓bW_gI hv', e1]
    rw [W_cmpSizes hR gU gV, Option.bind_some, if_pos (cmpN_ge0.mpr (by omega))]
    have mn : (if (Int32.ofNat (100)) < (Int32.ofNat (su - n + 1)) then (Int32.ofNat (100)) else (Int32.ofNat (su - n + 1))) = (Int32.ofNat (su - n + 1)) := by
      by_cases z : 100 < su - n + 1
      · omega
      · simp (disch := omega) only [↓reduceIte, ↓q_let, ↓q_xz1, ↓q_xz0, ↓lg_cmp_ge, ↓lg_cmp_le, ↓lg_cmp_gt, ↓lg_cmp_lt, n_lit, j_lit, n_add, n_mul, n_sub, n_dec, Nat.add_sub_cancel, n_leT, n_leF, n_ltT, n_ltF, n_eqT, n_eqF, n_in, n_cl, n_m31, j_m63, j_of32, j_32, i64_add, i64_mul, jn_sub, j_leT, j_leF, j_ltT, j_ltF, j_eqF, jn_and30, jn_sar30, jn_shor, Int32.neg_neg, and_true, true_and, and_self]
    conv => arg 1; simp (disch := omega) only [↓reduceIte, ↓q_let, ↓q_xz1, ↓q_xz0, ↓lg_cmp_ge, ↓lg_cmp_le, ↓lg_cmp_gt, ↓lg_cmp_lt, n_lit, j_lit, n_add, n_mul, n_sub, n_dec, Nat.add_sub_cancel, n_leT, n_leF, n_ltT, n_ltF, n_eqT, n_eqF, n_in, n_cl, n_m31, j_m63, j_of32, j_32, i64_add, i64_mul, jn_sub, j_leT, j_leF, j_ltT, j_ltF, j_eqF, jn_and30, jn_sar30, jn_shor, Int32.neg_neg, and_true, true_and, and_self, ↓bW_gI hw, e2, ↓bW_gR hq hR, ↓bW_gL hq, mn]
    have top : Bw (n - 1) ≤ V := gV.2.2.2.2.resolve_left n0
    refine q_bind (P := fun r => ∃ I', r = .inr (w, q, (Int32.ofNat (su - n + 1)), mg (4562 + zn J) I' J R) ∧ FrS (fun x => x = w + 1 ∨ x = q + 1) I1 I' ∧ Dg I' (w + 1) su (U % V) ∧ ∀ j, j < su - n + 1 → I' (q + 1) j = (Int32.ofNat (dW (U / V) j))) ?_ ?_
    · refine q_loop (fun m st => ∃ I', st = (w, v, q, (Int32.ofNat (n)), (Int32.ofNat (su - n + 1)), (Int32.ofNat (m)) - 1, mg (4562 + zn J) I' J R) ∧ m ≤ su - n + 1 ∧ FrS (fun x => x = w + 1 ∨ x = q + 1) I1 I' ∧ Dg I' (w + 1) su (U % (V * Bw m)) ∧ ∀ j, m ≤ j → j < su - n + 1 → I' (q + 1) j = (Int32.ofNat (dW (U / V) j))) ?_ (m := su - n + 1) ⟨I1, ?_, Nat.le_refl _, FrS_rfl, ?_, fun j h1 h2 => absurd h1 (by omega)⟩ (by unfold xF; omega)
      · rintro m st ⟨I', rfl, hm, hF, hD, hQd⟩
        unfold f_X10_divideBy_s78 xlet
        dsimp only
        rcases m with _ | m
        · rw [if_pos (by first | decide | omega)]
          rw [Bw_0, Nat.mul_one] at hD
          exact q_ex ⟨I', rfl, hF, hD, fun j hj => hQd j (by omega) hj⟩
        · have kU : I' w 1 = (Int32.ofNat (su)) := by rw [hF w (by omega)]; exact e2
          have kV : Wh I' v e n V := Wh_keep gV (hF v (by omega)) (hF (v + 1) (by omega))
          have hUV : U % (V * Bw (m + 1)) < V * Bw (m + 1) := Nat.mod_lt _ (Nat.mul_pos hV0 (Bw_pos _))
          obtain ⟨n', rfl⟩ : ∃ n', n = n' + 2 := ⟨n - 2, by omega⟩
          obtain ⟨dd, g1, g2, g3, g4⟩ := W_guess (I := I') (J := J) (j := m) hR hw ksu kU hD kV (by omega) hUV
          rw [i32_pred]
          conv => arg 1; simp (disch := omega) only [↓reduceIte, ↓q_let, ↓q_xz1, ↓q_xz0, ↓lg_cmp_ge, ↓lg_cmp_le, ↓lg_cmp_gt, ↓lg_cmp_lt, n_lit, j_lit, n_add, n_mul, n_sub, n_dec, Nat.add_sub_cancel, n_leT, n_leF, n_ltT, n_ltF, n_eqT, n_eqF, n_in, n_cl, n_m31, j_m63, j_of32, j_32, i64_add, i64_mul, jn_sub, j_leT, j_leF, j_ltT, j_ltF, j_eqF, jn_and30, jn_sar30, jn_shor, Int32.neg_neg, and_true, true_and, and_self, bW_xk hw]
          rw [g1, Option.bind_some]
          conv => arg 1; simp (disch := omega) only [↓reduceIte, ↓q_let, ↓q_xz1, ↓q_xz0, ↓lg_cmp_ge, ↓lg_cmp_le, ↓lg_cmp_gt, ↓lg_cmp_lt, n_lit, j_lit, n_add, n_mul, n_sub, n_dec, Nat.add_sub_cancel, n_leT, n_leF, n_ltT, n_ltF, n_eqT, n_eqF, n_in, n_cl, n_m31, j_m63, j_of32, j_32, i64_add, i64_mul, jn_sub, j_leT, j_leF, j_ltT, j_ltF, j_eqF, jn_and30, jn_sar30, jn_shor, Int32.neg_neg, and_true, true_and, and_self, ↓bW_gR hq hR, bW_xk hw]
          have hqd : dW (U / V) m = U % (V * Bw (m + 1)) / (V * Bw m) := by
            unfold dW
            rw [Nat.div_div_eq_div_mul, Bw_s, ← Nat.mul_assoc, Nat.mod_mul_right_div_self]
          have hmm : U % (V * Bw (m + 1)) % (V * Bw m) = U % (V * Bw m) := by
            rw [Bw_s, ← Nat.mul_assoc, Nat.mod_mul_right_mod]
          refine q_bind (W_takeTimes (q := dW (U / V) m) hR hw ksu kU hD kV hV0 (by omega) g2 hv hUV hqd (by rw [hqd]; omega)) ?_
          rintro s ⟨I2, rfl, hF2, hD2⟩
          rw [hmm] at hD2
          conv => arg 1; simp (disch := omega) only [↓reduceIte, ↓q_let, ↓q_xz1, ↓q_xz0, ↓lg_cmp_ge, ↓lg_cmp_le, ↓lg_cmp_gt, ↓lg_cmp_lt, n_lit, j_lit, n_add, n_mul, n_sub, n_dec, Nat.add_sub_cancel, n_leT, n_leF, n_ltT, n_ltF, n_eqT, n_eqF, n_in, n_cl, n_m31, j_m63, j_of32, j_32, i64_add, i64_mul, jn_sub, j_leT, j_leF, j_ltT, j_ltF, j_eqF, jn_and30, jn_sar30, jn_shor, Int32.neg_neg, and_true, true_and, and_self, ↓bW_wI hq]
          rw [n_decm]
          refine q_go ⟨m, by omega, _, rfl, by omega, FrS_up (FrS_tr hF (FrS_mono hF2 (fun x h => Or.inl h))) (Or.inr rfl), Dg_keep hD2 (fun j _ => up_n (by omega)), fun j h1 h2 => ?_⟩
          by_cases z : j = m
          · rw [z, up_s]
          · rw [up_n (Or.inr z), hF2 (q + 1) (by omega)]
            exact hQd j (by omega) h2
      · rw [i32_pred]
      · rw [Nat.mod_eq_of_lt (div_top top (by omega) (Wh_lt gU) hns)]
        exact gU.2.2.2.1
    · rintro r ⟨I2, rfl, hF2, hD2, hQ2⟩
      simp only [Sum.elim_inr]
      unfold f_X10_divideBy_j117
      conv => arg 1; simp (disch := omega) only [↓reduceIte, ↓q_let, ↓q_xz1, ↓q_xz0, ↓lg_cmp_ge, ↓lg_cmp_le, ↓lg_cmp_gt, ↓lg_cmp_lt, n_lit, j_lit, n_add, n_mul, n_sub, n_dec, Nat.add_sub_cancel, n_leT, n_leF, n_ltT, n_ltF, n_eqT, n_eqF, n_in, n_cl, n_m31, j_m63, j_of32, j_32, i64_add, i64_mul, jn_sub, j_leT, j_leF, j_ltT, j_ltF, j_eqF, jn_and30, jn_sar30, jn_shor, Int32.neg_neg, and_true, true_and, and_self, bW_xk hq]
      have hdl : U / V < Bw (su - n + 1) := Nat.div_lt_of_lt_mul (div_top top (by omega) (Wh_lt gU) hns)
      have q2 : I2 q 2 = 0 := by rw [hF2 q (by omega)]; exact hQ1.2
      refine q_bind (W_trim hR hq (by omega) ⟨hdl, hQ2⟩) ?_
      rintro r ⟨I3, rfl, hF3, ⟨k3, hk3, hW3⟩, h3⟩
      rw [q2] at h3
      have s3 : I3 w 1 = (Int32.ofNat (su)) := by rw [hF3 w (by omega), hF2 w (by omega)]; exact e2
      have s4 : I3 w 2 = 0 := by rw [hF3 w (by omega), hF2 w (by omega)]; exact gs
      conv => arg 1; simp (disch := omega) only [↓reduceIte, ↓q_let, ↓q_xz1, ↓q_xz0, ↓lg_cmp_ge, ↓lg_cmp_le, ↓lg_cmp_gt, ↓lg_cmp_lt, n_lit, j_lit, n_add, n_mul, n_sub, n_dec, Nat.add_sub_cancel, n_leT, n_leF, n_ltT, n_ltF, n_eqT, n_eqF, n_in, n_cl, n_m31, j_m63, j_of32, j_32, i64_add, i64_mul, jn_sub, j_leT, j_leF, j_ltT, j_ltF, j_eqF, jn_and30, jn_sar30, jn_shor, Int32.neg_neg, and_true, true_and, and_self, ↓bW_gI hw, s3, bW_xk hw]
      refine q_bind (W_trim (n := U % V) hR hw ksu (Dg_keep hD2 (fun j _ => by rw [hF3 (w + 1) (by omega)]))) ?_
      rintro r ⟨I4, rfl, hF4, ⟨k4, hk4, hW4⟩, h4⟩
      rw [s4] at h4
      refine q_ok ⟨I4, rfl, FrS_tr (FrS_tr (FrS_tr hFI1 (FrS_mono hF2 (fun x h => by omega))) (FrS_mono hF3 (fun x h => by omega))) (FrS_mono hF4 (fun x h => by omega)), ⟨⟨k4, by rw [Int.natAbs_natCast]; exact hW4⟩, ?_⟩, ⟨⟨k3, ?_⟩, ?_⟩⟩
      · rw [h4, sgn_n]
        split <;> rfl
      · rw [Int.natAbs_natCast]
        exact Wh_keep hW3 (hF4 q (by omega)) (hF4 (q + 1) (by omega))
      · rw [hF4 q (by omega), h3, sgn_n]
        split <;> rfl
end WM
