/-! the class makes a derivative -/
section CDW
variable {I : Nat → Nat → Int32} {J : Nat → Nat → Int64} {R : Nat → Nat → Option Nat} {β : Type} {a p nm : Nat} {b : GB} {T : Tt}
def CTT (I : Nat → Nat → Int32) (a : Nat) (T : Tt) : Prop := CT I a T.1 T.2.1 T.2.2
theorem CTT_St {I' : Nat → Nat → Int32} (ha : a + 8 ≤ 2207 ∨ 2215 ≤ a) (h : CTT I a T) (hF : FrS (St 2207) I I') : CTT I' a T := CT_keep h (fun x g1 g2 => hF x (by unfold St; omega))
theorem CTb_St {I' : Nat → Nat → Int32} (h : CTb I b) (hF : FrS (St 2207) I I') : CTb I' b := CTb_keep h (fun x g => hF x (by unfold St; omega))
theorem fr_c (n : Nat) (σ : xM) (l0 l1 : Nat) (l2 l3 l4 : Int32) : fr_X7_addDerivative (n + 1) σ l0 l1 l2 l3 l4 = f_X7_addDerivative_b (fr_X7_addDerivative n) σ l0 l1 l2 l3 l4 := rfl
theorem C_addDer (hR : RA R) (hO : TbOK b) (hT : TtO b T) (ht : ∀ i, i < T.1 → told b T i) (ha : a + 8 ≤ 2207 ∨ 2215 ≤ a) (hnm : nm < 1000) : ∀ (F i dp : Nat) (L : NL) (I : Nat → Nat → Int32), i < T.1 → T.2.2 i ≤ F → dp + T.2.2 i ≤ 81 → MkC I L → CTT I a T → CTb I b → QK (fr_X7_addDerivative F (mg (4562 + zn J) I J R) 2206 a (Int32.ofNat (i)) (Int32.ofNat (nm)) (Int32.ofNat (dp))) (ApC J R (dvF b T nm F i) L I) := by
  intro F
  induction F with
  | zero =>
    intro i dp L I hi hF
    have := (hT.1.2.2.2 i hi).1
    omega
  | succ F ih =>
    intro i dp L I hi hF hdp hm hA hB
    have s1 := (hT.1.2.2.2 i hi).1
    have nv := hT.2 i hi
    have ta := hA.1.1
    have nn80 := (CT_n hA).2
    have h80 := hm.2.2.1
    obtain ⟨v1, v2, v3, -⟩ := NV_v nv
    obtain ⟨y1, y2, y3, y4, y5⟩ := hA.1.2.2.2 i hi
    rw [fr_c]
    unfold f_X7_addDerivative_b
    rw [bT_g0 ta hR, bT_aI ta (by omega), y1, if_pos (show (Int32.ofNat (dp)) ≤ (80 : Int32) from (i32_le (m := 80) (by omega) (by omega)).mpr (by omega))]
    show QK _ (ApC J R (fo [] (dpc b T nm (dvF b T nm F) i)) L I)
    unfold dpc
    dsimp only
    have num : ∀ v : Nat, QK (f_X7_addDerivative_j50 (fr_X7_addDerivative F) (mg (4562 + zn J) I J R) (Int32.ofNat (v)) 2206) (ApC J R (fo [] [some (numL v)]) L I) := fun v => by
      unfold f_X7_addDerivative_j50
      refine ap_fo h80 ?_
      rw [if_pos ok_2206]
      exact ap_seq h80 (C_addNum hR hm) (fun I' => rfl) (fun I' L' f1 l1 m1 => q_ok (ap_end rfl m1))
    by_cases q0 : (T.2.1 i).1 = 0
    · rw [if_pos q0, if_pos (Or.inl q0), if_neg (show ¬ ((T.2.1 i).1 = 1 ∧ vN (T.2.1 i) = nm) from fun y => by rw [q0] at y; exact absurd y.1 (by first | decide | omega))]
      unfold f_X7_addDerivative_j28 f_X7_addDerivative_j49
      rw [if_neg (by rw [q0]; decide)]
      exact num 0
    rw [if_neg q0]
    by_cases q1 : (T.2.1 i).1 = 1
    · rw [if_pos q1, if_pos (Or.inr q1)]
      unfold f_X7_addDerivative_j28 f_X7_addDerivative_j49
      rw [if_pos q1, bT_g1 ta hR, bT_aI ta (by omega), y2, v1]
      have := v3 q0
      by_cases q2 : vN (T.2.1 i) = nm
      · rw [if_pos (show (Int32.ofNat (vN (T.2.1 i))) = (Int32.ofNat (nm)) by rw [q2]), if_pos ⟨q1, q2⟩]
        exact num 1
      · rw [if_neg (show ¬ (Int32.ofNat (vN (T.2.1 i))) = (Int32.ofNat (nm)) from i32_ne (by omega) (by omega) q2), if_neg (fun y => q2 y.2)]
        exact num 0
    rw [if_neg q1, if_neg (show ¬ ((T.2.1 i).1 = 0 ∨ (T.2.1 i).1 = 1) from fun y => y.elim q0 q1)]
    have mb := mz_b hO nv
    have one : mz b (T.2.1 i) = 11 ∨ mz b (T.2.1 i) ≤ 10 := by
      rcases ht i hi with y | y | y | y | y
      · exact absurd y q0
      · exact absurd y q1
      · exact Or.inl y
      · exact Or.inr (by omega)
      · exact Or.inr (by omega)
    have m5 : mz b (T.2.1 i) = 11 ∨ mz b (T.2.1 i) ≤ 3 ∨ mz b (T.2.1 i) = 5 := by
      rcases ht i hi with y | y | y | y | y
      · exact absurd y q0
      · exact absurd y q1
      · exact Or.inl y
      · exact Or.inr (Or.inl y)
      · exact Or.inr (Or.inr y.1)
    obtain ⟨z1, z2⟩ := mz_ar hO nv (fun y => y.elim q0 q1) one
    have ar1 : 1 ≤ aro T.2.1 i := by
      rcases one with y | y
      · have : aro T.2.1 i = 1 := z1 y
        omega
      · have : aro T.2.1 i = 2 := z2 y
        omega
    have ch0 : f_X9_child (mg (4562 + zn J) I J R) a (Int32.ofNat (i)) 0 = some (Int32.ofNat (i + 1)) := T_child hR hA hi (show 0 < aro T.2.1 i by omega)
    obtain ⟨a1, a2, a3⟩ := kid_sp hT.1 hi (show 0 < aro T.2.1 i by omega)
    have a1 : i + 1 < T.1 := a1
    have a3 : T.2.2 (i + 1) < T.2.2 i := a3
    obtain ⟨ch, ech⟩ := T_childE (J := J) (k := 1) hR hA hi ar1
    have ech : f_X9_child (mg (4562 + zn J) I J R) a (Int32.ofNat (i)) 1 = some ch := ech
    rw [if_pos (bT_xk ta), ch0, Option.bind_some, if_pos (bT_xk ta), ech, Option.bind_some, if_pos ok_2206, C_meaningOf hR hA hi nv hB hO]
    have mne : ∀ k : Nat, k < 200 → mz b (T.2.1 i) ≠ k → ¬ mi (mz b (T.2.1 i)) = (Int32.ofNat (k)) := fun k hk h y => h ((mi_eq (by omega) hk).mp y)
    have meq : ∀ k : Nat, k < 200 → mz b (T.2.1 i) = k → mi (mz b (T.2.1 i)) = (Int32.ofNat (k)) := fun k hk h => (mi_eq (by omega) hk).mpr h
    -- the derivative of an operand, and what else is added
    have der : ∀ (j : Nat) (I1 : Nat → Nat → Int32) (L1 : NL), j < T.1 → T.2.2 j < T.2.2 i → FrS (St 2207) I I1 → MkC I1 L1 → QK (fr_X7_addDerivative F (mg (4562 + zn J) I1 J R) 2206 a (Int32.ofNat (j)) (Int32.ofNat (nm)) ((Int32.ofNat (dp)) + 1)) (ApC J R (dvF b T nm F j) L1 I1) := fun j I1 L1 hj hs f1 m1 => by
      rw [show (Int32.ofNat (dp)) + (1 : Int32) = (Int32.ofNat (dp + 1)) from n_add dp 1]
      exact ih j (dp + 1) L1 I1 hj (by omega) (by omega) m1 (CTT_St ha hA f1) (CTb_St hB f1)
    have ndd : ∀ (I1 : Nat → Nat → Int32) (L1 : NL), FrS (St 2207) I I1 → MkC I1 L1 → QK (f_X9_addNode (mg (4562 + zn J) I1 J R) 2207 a (Int32.ofNat (i))) (ApC J R (some [T.2.1 i]) L1 I1) := fun I1 L1 f1 m1 => C_addNd hR m1 (CTT_St ha hA f1) hi
    have prt : ∀ (j : Nat) (I1 : Nat → Nat → Int32) (L1 : NL), j < T.1 → FrS (St 2207) I I1 → MkC I1 L1 → QK (f_X9_addPart (mg (4562 + zn J) I1 J R) 2207 a (Int32.ofNat (j))) (ApC J R (some (subL T j)) L1 I1) := fun j I1 L1 hj f1 m1 => C_addPt hR m1 (CTT_St ha hA f1) hj (by omega)
    have wan : ∀ (m : Nat) (I1 : Nat → Nat → Int32) (L1 : NL), m < 200 → mz b (T.2.1 i) ≠ m → FrS (St 2207) I I1 → MkC I1 L1 → QK (f_X7_addWanted (mg (4562 + zn J) I1 J R) 2206 (Int32.ofNat (m)) a (Int32.ofNat (i))) (ApC J R (wnF b m) L1 I1) := fun m I1 L1 hm2 hne f1 m1 => by
      have := C_addWn (J := J) (i := i) hR (CTb_St hB f1) hO m1 (CTT_St ha hA f1) hT hi hm2
      rw [if_neg hne] at this
      exact this
    have wan2 : ∀ (m : Nat) (I1 : Nat → Nat → Int32) (L1 : NL), m < 200 → mz b (T.2.1 i) = m → FrS (St 2207) I I1 → MkC I1 L1 → QK (f_X7_addWanted (mg (4562 + zn J) I1 J R) 2206 (Int32.ofNat (m)) a (Int32.ofNat (i))) (ApC J R (some [T.2.1 i]) L1 I1) := fun m I1 L1 hm2 he f1 m1 => by
      have := C_addWn (J := J) (i := i) hR (CTb_St hB f1) hO m1 (CTT_St ha hA f1) hT hi hm2
      rw [if_pos he] at this
      exact this
    by_cases q11 : mz b (T.2.1 i) = 11
    · rw [if_pos q11, if_neg (show ¬ mi (mz b (T.2.1 i)) = (0 : Int32) from mne 0 (by first | decide | omega) (by omega)), if_neg (show ¬ mi (mz b (T.2.1 i)) = (1 : Int32) from mne 1 (by first | decide | omega) (by omega)), if_neg (show ¬ mi (mz b (T.2.1 i)) = (2 : Int32) from mne 2 (by first | decide | omega) (by omega)), if_neg (show ¬ mi (mz b (T.2.1 i)) = (3 : Int32) from mne 3 (by first | decide | omega) (by omega)), if_neg (show ¬ mi (mz b (T.2.1 i)) = (4 : Int32) from mne 4 (by first | decide | omega) (by omega)), if_neg (show ¬ mi (mz b (T.2.1 i)) = (5 : Int32) from mne 5 (by first | decide | omega) (by omega)), if_neg (show ¬ mi (mz b (T.2.1 i)) = (6 : Int32) from mne 6 (by first | decide | omega) (by omega)), if_neg (show ¬ mi (mz b (T.2.1 i)) = (7 : Int32) from mne 7 (by first | decide | omega) (by omega)), if_neg (show ¬ mi (mz b (T.2.1 i)) = (8 : Int32) from mne 8 (by first | decide | omega) (by omega)), if_neg (show ¬ mi (mz b (T.2.1 i)) = (9 : Int32) from mne 9 (by first | decide | omega) (by omega)), if_neg (show ¬ mi (mz b (T.2.1 i)) = (10 : Int32) from mne 10 (by first | decide | omega) (by omega)), if_pos (show mi (mz b (T.2.1 i)) = (11 : Int32) from meq 11 (by first | decide | omega) q11), gr_2206_2 hR, if_pos (bT_xk isTr_2207)]
      refine ap_fo h80 (ap_seq h80 (ndd I L FrS_rfl hm) (fun I' => rfl) (fun I1 L1 f1 l1 m1 => ?_))
      rw [if_neg (show ¬ (1 : Int32) = 0 by decide), if_pos ok_2206]
      exact ap_seq l1 (der (i + 1) I1 L1 a1 a3 f1 m1) (fun I' => rfl) (fun I2 L2 f2 l2 m2 => q_ok (ap_end rfl m2))
    rw [if_neg q11]
    have h2 : aro T.2.1 i = 2 := z2 (by omega)
    obtain ⟨f0, -, c1, c2, c3, c4, c5, c6⟩ := two_kids hT hi h2
    have ch1 : f_X9_child (mg (4562 + zn J) I J R) a (Int32.ofNat (i)) 1 = some (Int32.ofNat (kid T.2.2 i 1)) := T_child hR hA hi (show 1 < aro T.2.1 i by omega)
    rw [ch1] at ech
    have ech := Option.some.inj ech
    obtain ⟨k1, k2, k3⟩ := kid_sp hT.1 hi (show 1 < aro T.2.1 i by omega)
    rw [← ech]
    generalize kid T.2.2 i 1 = c at *
    by_cases q2 : mz b (T.2.1 i) = 2 ∨ mz b (T.2.1 i) = 3
    · have e225 : QK (f_X7_addDerivative_j225 (fr_X7_addDerivative F) (mg (4562 + zn J) I J R) 2206 a (Int32.ofNat (i)) (Int32.ofNat (nm)) (Int32.ofNat (dp)) (Int32.ofNat (i + 1)) (Int32.ofNat (c)) (mi (mz b (T.2.1 i)))) (ApC J R (fo [] (if mz b (T.2.1 i) = 2 then [wnF b 0, some [T.2.1 i], dvF b T nm F (i + 1), some (subL T c), some [T.2.1 i], some (subL T (i + 1)), dvF b T nm F c] else [some [T.2.1 i], wnF b 1, wnF b 2, dvF b T nm F (i + 1), some (subL T c), wnF b 2, some (subL T (i + 1)), dvF b T nm F c, wnF b 5, some (subL T c), some (numL 2)])) L I) := by
        unfold f_X7_addDerivative_j225
        refine ap_fo h80 ?_
        by_cases q3 : mz b (T.2.1 i) = 3
        · rw [if_pos (show mi (mz b (T.2.1 i)) = (3 : Int32) from meq 3 (by first | decide | omega) q3), if_neg (show ¬ mz b (T.2.1 i) = 2 by omega)]
          unfold f_X7_addDerivative_j236 f_X7_addDerivative_j255 f_X7_addDerivative_j266
          rw [if_neg (show ¬ (1 : Int32) = 0 by decide), gr_2206_2 hR, if_pos (bT_xk isTr_2207)]
          refine ap_seq h80 (ndd I L FrS_rfl hm) (fun I' => rfl) (fun I1 L1 f1 l1 m1 => ?_)
          rw [if_neg (show ¬ (1 : Int32) = 0 by decide), if_neg (show ¬ (1 : Int32) = 0 by decide), if_pos ok_2206]
          refine ap_seq l1 (wan 1 I1 L1 (by first | decide | omega) (by omega) f1 m1) (fun I' => rfl) (fun I2 L2 f2 l2 m2 => ?_)
          rw [if_neg (show ¬ (1 : Int32) = 0 by decide), if_pos ok_2206]
          refine ap_seq l2 (wan 2 I2 L2 (by first | decide | omega) (by omega) (FrS_tr f1 f2) m2) (fun I' => rfl) (fun I3 L3 f3 l3 m3 => ?_)
          rw [if_neg (show ¬ (1 : Int32) = 0 by decide), if_pos ok_2206]
          have f13 := FrS_tr (FrS_tr f1 f2) f3
          refine ap_seq l3 (der (i + 1) I3 L3 a1 a3 f13 m3) (fun I' => rfl) (fun I4 L4 f4 l4 m4 => ?_)
          have f14 := FrS_tr f13 f4
          rw [if_neg (show ¬ (1 : Int32) = 0 by decide), gr_2206_2 hR, if_pos (bT_xk isTr_2207)]
          refine ap_seq l4 (prt c I4 L4 c1 f14 m4) (fun I' => rfl) (fun I5 L5 f5 l5 m5 => ?_)
          have f15 := FrS_tr f14 f5
          rw [if_neg (show ¬ (1 : Int32) = 0 by decide), if_pos ok_2206]
          refine ap_seq l5 (wan 2 I5 L5 (by first | decide | omega) (by omega) f15 m5) (fun I' => rfl) (fun I6 L6 f6 l6 m6 => ?_)
          have f16 := FrS_tr f15 f6
          rw [if_neg (show ¬ (1 : Int32) = 0 by decide), gr_2206_2 hR, if_pos (bT_xk isTr_2207)]
          refine ap_seq l6 (prt (i + 1) I6 L6 a1 f16 m6) (fun I' => rfl) (fun I7 L7 f7 l7 m7 => ?_)
          have f17 := FrS_tr f16 f7
          rw [if_neg (show ¬ (1 : Int32) = 0 by decide), if_pos ok_2206]
          refine ap_seq l7 (der c I7 L7 c1 k3 f17 m7) (fun I' => rfl) (fun I8 L8 f8 l8 m8 => ?_)
          have f18 := FrS_tr f17 f8
          rw [if_neg (show ¬ (1 : Int32) = 0 by decide), if_neg (show ¬ (1 : Int32) = 0 by decide), if_pos ok_2206]
          refine ap_seq l8 (wan 5 I8 L8 (by first | decide | omega) (by omega) f18 m8) (fun I' => rfl) (fun I9 L9 f9 l9 m9 => ?_)
          have f19 := FrS_tr f18 f9
          rw [if_neg (show ¬ (1 : Int32) = 0 by decide), gr_2206_2 hR, if_pos (bT_xk isTr_2207)]
          refine ap_seq l9 (prt c I9 L9 c1 f19 m9) (fun I' => rfl) (fun I10 L10 f10 l10 m10 => ?_)
          rw [if_neg (show ¬ (1 : Int32) = 0 by decide), if_pos ok_2206]
          exact ap_seq l10 (C_addNum (v := 2) hR m10) (fun I' => rfl) (fun I11 L11 f11 l11 m11 => q_ok (ap_end rfl m11))
        · have q2 : mz b (T.2.1 i) = 2 := q2.resolve_right q3
          rw [if_neg (show ¬ mi (mz b (T.2.1 i)) = (3 : Int32) from mne 3 (by first | decide | omega) q3), if_pos q2]
          unfold f_X7_addDerivative_j236 f_X7_addDerivative_j255 f_X7_addDerivative_j266
          rw [if_pos (show (0 : Int32) = 0 from rfl), if_pos (show (0 : Int32) = 0 from rfl), if_pos ok_2206]
          refine ap_seq h80 (wan 0 I L (by first | decide | omega) (by omega) FrS_rfl hm) (fun I' => rfl) (fun I1 L1 f1 l1 m1 => ?_)
          rw [if_neg (show ¬ (1 : Int32) = 0 by decide), if_pos ok_2206]
          refine ap_seq l1 (wan2 2 I1 L1 (by first | decide | omega) q2 f1 m1) (fun I' => rfl) (fun I2 L2 f2 l2 m2 => ?_)
          rw [if_neg (show ¬ (1 : Int32) = 0 by decide), if_pos ok_2206]
          have f12 := FrS_tr f1 f2
          refine ap_seq l2 (der (i + 1) I2 L2 a1 a3 f12 m2) (fun I' => rfl) (fun I3 L3 f3 l3 m3 => ?_)
          have f13 := FrS_tr f12 f3
          rw [if_neg (show ¬ (1 : Int32) = 0 by decide), gr_2206_2 hR, if_pos (bT_xk isTr_2207)]
          refine ap_seq l3 (prt c I3 L3 c1 f13 m3) (fun I' => rfl) (fun I4 L4 f4 l4 m4 => ?_)
          have f14 := FrS_tr f13 f4
          rw [if_neg (show ¬ (1 : Int32) = 0 by decide), if_pos ok_2206]
          refine ap_seq l4 (wan2 2 I4 L4 (by first | decide | omega) q2 f14 m4) (fun I' => rfl) (fun I5 L5 f5 l5 m5 => ?_)
          have f15 := FrS_tr f14 f5
          rw [if_neg (show ¬ (1 : Int32) = 0 by decide), gr_2206_2 hR, if_pos (bT_xk isTr_2207)]
          refine ap_seq l5 (prt (i + 1) I5 L5 a1 f15 m5) (fun I' => rfl) (fun I6 L6 f6 l6 m6 => ?_)
          have f16 := FrS_tr f15 f6
          rw [if_neg (show ¬ (1 : Int32) = 0 by decide), if_pos ok_2206]
          refine ap_seq l6 (der c I6 L6 c1 k3 f16 m6) (fun I' => rfl) (fun I7 L7 f7 l7 m7 => ?_)
          rw [if_neg (show ¬ (1 : Int32) = 0 by decide), if_pos (show (0 : Int32) = 0 from rfl)]
          exact q_ok (ap_end rfl m7)
      rw [if_neg (show ¬ mi (mz b (T.2.1 i)) = (0 : Int32) from mne 0 (by first | decide | omega) (by omega)), if_neg (show ¬ mi (mz b (T.2.1 i)) = (1 : Int32) from mne 1 (by first | decide | omega) (by omega))]
      by_cases q3 : mz b (T.2.1 i) = 2
      · rw [if_pos q3] at e225
        rw [if_pos (show mi (mz b (T.2.1 i)) = (2 : Int32) from meq 2 (by first | decide | omega) q3), if_pos q3]
        exact e225
      · have q4 : mz b (T.2.1 i) = 3 := q2.resolve_left q3
        rw [if_neg q3] at e225
        rw [if_neg (show ¬ mi (mz b (T.2.1 i)) = (2 : Int32) from mne 2 (by first | decide | omega) q3), if_pos (show mi (mz b (T.2.1 i)) = (3 : Int32) from meq 3 (by first | decide | omega) q4), if_neg q3, if_pos q4]
        exact e225
    have q2n : ¬ mz b (T.2.1 i) = 2 := fun y => q2 (Or.inl y)
    have q3n : ¬ mz b (T.2.1 i) = 3 := fun y => q2 (Or.inr y)
    rw [if_neg q2n, if_neg q3n]
    by_cases q5 : mz b (T.2.1 i) = 5
    · obtain ⟨w1, w2, -⟩ := NV_v (hT.2 _ c1)
      have g1 := hA.1.2.2.2 c c1
      rw [if_pos q5, if_neg (show ¬ mi (mz b (T.2.1 i)) = (0 : Int32) from mne 0 (by first | decide | omega) (by omega)), if_neg (show ¬ mi (mz b (T.2.1 i)) = (1 : Int32) from mne 1 (by first | decide | omega) (by omega)), if_neg (show ¬ mi (mz b (T.2.1 i)) = (2 : Int32) from mne 2 (by first | decide | omega) q2n), if_neg (show ¬ mi (mz b (T.2.1 i)) = (3 : Int32) from mne 3 (by first | decide | omega) q3n), if_neg (show ¬ mi (mz b (T.2.1 i)) = (4 : Int32) from mne 4 (by first | decide | omega) (by omega)), if_pos (show mi (mz b (T.2.1 i)) = (5 : Int32) from meq 5 (by first | decide | omega) q5)]
      unfold f_X7_addDerivative_j392
      rw [bT_g1 ta hR, bT_aI ta (by omega), g1.2.1, w1]
      by_cases q6 : vN (T.2.1 c) = 0
      · rw [if_pos (show (Int32.ofNat (vN (T.2.1 c))) = (0 : Int32) by rw [q6]; rfl), if_pos q6, if_pos ok_2206]
        refine ap_fo h80 ?_
        exact ap_seq h80 (C_addNum (v := 0) hR hm) (fun I' => rfl) (fun I1 L1 f1 l1 m1 => q_ok (ap_end rfl m1))
      · rw [if_neg (show ¬ (Int32.ofNat (vN (T.2.1 c))) = (0 : Int32) from i32_ne (b := 0) (by omega) (by omega) q6), if_neg q6, if_pos ok_2206]
        refine ap_fo h80 ?_
        refine ap_seq h80 (wan 2 I L (by first | decide | omega) (by omega) FrS_rfl hm) (fun I' => rfl) (fun I1 L1 f1 l1 m1 => ?_)
        rw [if_neg (show ¬ (1 : Int32) = 0 by decide), if_pos ok_2206]
        refine ap_seq l1 (wan 2 I1 L1 (by first | decide | omega) (by omega) f1 m1) (fun I' => rfl) (fun I2 L2 f2 l2 m2 => ?_)
        have f12 := FrS_tr f1 f2
        rw [if_neg (show ¬ (1 : Int32) = 0 by decide), if_pos ok_2206]
        refine ap_seq l2 (C_addNum hR m2) (fun I' => rfl) (fun I3 L3 f3 l3 m3 => ?_)
        have f13 := FrS_tr f12 f3
        rw [if_neg (show ¬ (1 : Int32) = 0 by decide), gr_2206_2 hR, if_pos (bT_xk isTr_2207)]
        refine ap_seq l3 (ndd I3 L3 f13 m3) (fun I' => rfl) (fun I4 L4 f4 l4 m4 => ?_)
        have f14 := FrS_tr f13 f4
        rw [if_neg (show ¬ (1 : Int32) = 0 by decide), gr_2206_2 hR, if_pos (bT_xk isTr_2207)]
        refine ap_seq l4 (prt (i + 1) I4 L4 a1 f14 m4) (fun I' => rfl) (fun I5 L5 f5 l5 m5 => ?_)
        have f15 := FrS_tr f14 f5
        rw [if_neg (show ¬ (1 : Int32) = 0 by decide), if_pos ok_2206, show (Int32.ofNat (vN (T.2.1 c))) - (1 : Int32) = (Int32.ofNat (vN (T.2.1 c) - 1)) from n_sub (b := 1) (by omega)]
        refine ap_seq l5 (C_addNum hR m5) (fun I' => rfl) (fun I6 L6 f6 l6 m6 => ?_)
        have f16 := FrS_tr f15 f6
        rw [if_neg (show ¬ (1 : Int32) = 0 by decide), if_pos ok_2206]
        exact ap_seq l6 (der (i + 1) I6 L6 a1 a3 f16 m6) (fun I' => rfl) (fun I7 L7 f7 l7 m7 => q_ok (ap_end rfl m7))
    rw [if_neg q5]
    have q01 : mz b (T.2.1 i) = 0 ∨ mz b (T.2.1 i) = 1 := by omega
    have e177 : QK (f_X7_addDerivative_j177 (fr_X7_addDerivative F) (mg (4562 + zn J) I J R) 2206 a (Int32.ofNat (i)) (Int32.ofNat (nm)) (Int32.ofNat (dp)) (Int32.ofNat (i + 1)) (Int32.ofNat (c))) (ApC J R (fo [] [some [T.2.1 i], dvF b T nm F (i + 1), dvF b T nm F c]) L I) := by
      unfold f_X7_addDerivative_j177
      rw [gr_2206_2 hR, if_pos (bT_xk isTr_2207)]
      refine ap_fo h80 (ap_seq h80 (ndd I L FrS_rfl hm) (fun I' => rfl) (fun I1 L1 f1 l1 m1 => ?_))
      rw [if_neg (show ¬ (1 : Int32) = 0 by decide), if_pos ok_2206]
      refine ap_seq l1 (der (i + 1) I1 L1 a1 a3 f1 m1) (fun I' => rfl) (fun I2 L2 f2 l2 m2 => ?_)
      rw [if_neg (show ¬ (1 : Int32) = 0 by decide), if_pos ok_2206]
      exact ap_seq l2 (der c I2 L2 c1 k3 (FrS_tr f1 f2) m2) (fun I' => rfl) (fun I3 L3 f3 l3 m3 => q_ok (ap_end rfl m3))
    rcases q01 with y | y
    · rw [if_pos (show mi (mz b (T.2.1 i)) = (0 : Int32) from meq 0 (by first | decide | omega) y)]
      exact e177
    · rw [if_neg (show ¬ mi (mz b (T.2.1 i)) = (0 : Int32) from mne 0 (by first | decide | omega) (by omega)), if_pos (show mi (mz b (T.2.1 i)) = (1 : Int32) from meq 1 (by first | decide | omega) y)]
      exact e177
/-- whether derivatives are told of all nodes -/
theorem C_hasRules (hR : RA R) (hB : CTb I b) (hO : TbOK b) (hA : CTT I a T) (hT : TtO b T) : QK (f_X7_hasRules (mg (4562 + zn J) I J R) 2206 a) (fun r => (r = 1 ∧ ∀ i, i < T.1 → told b T i) ∨ (r = 0 ∧ ¬ ∀ i, i < T.1 → told b T i)) := by
  have ta := hA.1.1
  have nn80 := (CT_n hA).2
  unfold f_X7_hasRules f_X7_hasRules_j82 f_X7_hasRules_j90
  rw [q_let]
  refine q_bind (P := fun r => (r = .inr (.inr ()) ∧ ∀ i, i < T.1 → told b T i) ∨ (r = .inr (.inl ()) ∧ ¬ ∀ i, i < T.1 → told b T i)) ?_ ?_
  · refine q_for T.1 (fun i s => s = (2206, a, (Int32.ofNat (i))) ∧ ∀ j, j < i → told b T j) ?_ ?_ (i := 0) ⟨rfl, fun j hj => absurd hj (Nat.not_lt_zero _)⟩ (by omega) (by unfold xF; omega)
    · rintro i s hi ⟨rfl, hj⟩
      have nv := hT.2 i hi
      have mb := mz_b hO nv
      obtain ⟨y1, y2, y3, y4, y5⟩ := hA.1.2.2.2 i hi
      have j75 : ∀ u : Int32, (u = 1 ∧ told b T i) ∨ (u = 0 ∧ ¬ told b T i) → QK (f_X7_hasRules_j75 (mg (4562 + zn J) I J R) 2206 a (Int32.ofNat (i)) u) (qS (fun s => s = (2206, a, (Int32.ofNat (i + 1))) ∧ ∀ j, j < i + 1 → told b T j) (fun r => (r = .inr (.inr ()) ∧ ∀ i, i < T.1 → told b T i) ∨ (r = .inr (.inl ()) ∧ ¬ ∀ i, i < T.1 → told b T i))) := by
        intro u hu
        unfold f_X7_hasRules_j75
        rcases hu with ⟨rfl, ht⟩ | ⟨rfl, ht⟩
        · rw [if_neg (by first | decide | omega), q_let, show (Int32.ofNat (i)) + (1 : Int32) = (Int32.ofNat (i + 1)) from n_add i 1]
          refine q_go ⟨rfl, fun j hj2 => ?_⟩
          by_cases z : j < i
          · exact hj j z
          · rw [show j = i by omega]
            exact ht
        · rw [if_pos rfl]
          exact q_ex (Or.inr ⟨rfl, fun y => ht (y i hi)⟩)
      have mne : ∀ k : Nat, k < 200 → mz b (T.2.1 i) ≠ k → ¬ mi (mz b (T.2.1 i)) = (Int32.ofNat (k)) := fun k hk h y => h ((mi_eq (by omega) hk).mp y)
      unfold f_X7_hasRules_s2 f_X7_hasRules_j70
      dsimp only
      rw [q_let, q_let, q_let, bT_gI ta, hA.1.2.1, if_neg (show ¬ (Int32.ofNat (T.1)) ≤ (Int32.ofNat (i)) from fun y => absurd ((i32_le (by omega) (by omega)).mp y) (by omega)), if_pos ok_2206, C_meaningOf hR hA hi nv hB hO, bT_g0 ta hR, bT_aI ta (by omega), y1]
      by_cases q0 : (T.2.1 i).1 = 0
      · rw [if_pos q0]
        exact j75 1 (Or.inl ⟨rfl, Or.inl q0⟩)
      rw [if_neg q0, bT_g0 ta hR, bT_aI ta (by omega), y1]
      by_cases q1 : (T.2.1 i).1 = 1
      · rw [if_pos q1]
        exact j75 1 (Or.inl ⟨rfl, Or.inr (Or.inl q1)⟩)
      rw [if_neg q1]
      by_cases q11 : mz b (T.2.1 i) = 11
      · rw [if_pos (show mi (mz b (T.2.1 i)) = (11 : Int32) from (mi_eq (k := 11) (by omega) (by omega)).mpr q11)]
        exact j75 1 (Or.inl ⟨rfl, Or.inr (Or.inr (Or.inl q11))⟩)
      rw [if_neg (show ¬ mi (mz b (T.2.1 i)) = (11 : Int32) from mne 11 (by first | decide | omega) q11)]
      have j51 : ¬ mz b (T.2.1 i) ≤ 3 → QK (f_X7_hasRules_j51 (mg (4562 + zn J) I J R) 2206 a (Int32.ofNat (i)) (mi (mz b (T.2.1 i)))) (qS (fun s => s = (2206, a, (Int32.ofNat (i + 1))) ∧ ∀ j, j < i + 1 → told b T j) (fun r => (r = .inr (.inr ()) ∧ ∀ i, i < T.1 → told b T i) ∨ (r = .inr (.inl ()) ∧ ¬ ∀ i, i < T.1 → told b T i))) := fun q3 => by
        unfold f_X7_hasRules_j51 f_X7_hasRules_j70 f_X7_hasRules_j74
        by_cases q5 : mz b (T.2.1 i) = 5
        · have h2 : aro T.2.1 i = 2 := (mz_two hO nv (by omega)).2
          obtain ⟨-, -, c1, -⟩ := two_kids hT hi h2
          have g1 := hA.1.2.2.2 _ c1
          have ch1 : f_X9_child (mg (4562 + zn J) I J R) a (Int32.ofNat (i)) 1 = some (Int32.ofNat (kid T.2.2 i 1)) := T_child hR hA hi (show 1 < aro T.2.1 i by omega)
          rw [if_pos (show mi (mz b (T.2.1 i)) = (5 : Int32) from (mi_eq (k := 5) (by omega) (by omega)).mpr q5), bT_g0 ta hR, if_pos (bT_xk ta), ch1, Option.bind_some, bT_aI ta (by omega), g1.1]
          by_cases q6 : (T.2.1 (kid T.2.2 i 1)).1 = 0
          · rw [if_pos q6]
            exact j75 1 (Or.inl ⟨rfl, Or.inr (Or.inr (Or.inr (Or.inr ⟨q5, q6⟩)))⟩)
          · rw [if_neg q6]
            refine j75 0 (Or.inr ⟨rfl, fun y => ?_⟩)
            rcases y with y | y | y | y | y
            · exact q0 y
            · exact q1 y
            · exact q11 y
            · exact q3 y
            · exact q6 y.2
        · rw [if_neg (show ¬ mi (mz b (T.2.1 i)) = (5 : Int32) from mne 5 (by first | decide | omega) q5)]
          refine j75 0 (Or.inr ⟨rfl, fun y => ?_⟩)
          rcases y with y | y | y | y | y
          · exact q0 y
          · exact q1 y
          · exact q11 y
          · exact q3 y
          · exact q5 y.1
      rcases mb with z | ⟨-, z⟩
      · rw [if_pos (show mi (mz b (T.2.1 i)) < (0 : Int32) by rw [z]; decide)]
        exact j51 (by omega)
      · rw [mi_s z, if_neg (i32_nlt0 (by omega))]
        by_cases q3 : mz b (T.2.1 i) ≤ 3
        · rw [if_pos (show (Int32.ofNat (mz b (T.2.1 i))) ≤ (3 : Int32) from (i32_le (m := 3) (by omega) (by omega)).mpr q3)]
          exact j75 1 (Or.inl ⟨rfl, Or.inr (Or.inr (Or.inr (Or.inl q3)))⟩)
        · rw [if_neg (show ¬ (Int32.ofNat (mz b (T.2.1 i))) ≤ (3 : Int32) from fun y => q3 ((i32_le (m := 3) (by omega) (by omega)).mp y))]
          have := j51 q3
          rw [mi_s z] at this
          exact this
    · rintro s ⟨rfl, hj⟩
      unfold f_X7_hasRules_s2
      dsimp only
      rw [q_let, q_let, q_let, bT_gI ta, hA.1.2.1, if_pos ((i32_le (by omega) (by omega)).mpr (Nat.le_refl _))]
      exact q_ex (Or.inl ⟨rfl, hj⟩)
  · rintro r (⟨rfl, h⟩ | ⟨rfl, h⟩)
    · exact q_ok (Or.inl ⟨rfl, h⟩)
    · exact q_ok (Or.inr ⟨rfl, h⟩)
noncomputable def spL (L : NL) : Nat → Nat := @dite _ (NPT L) (Classical.propDecidable _) (fun h => Classical.choose h) (fun _ _ => 0)
theorem spL_WT {L : NL} (h : NPT L) : WT L.length (aro (nlN L)) (spL L) := by
  unfold spL
  rw [dif_pos h]
  exact Classical.choose_spec h
/-- a derivative is made, or there is none -/
theorem C_differentiate (hR : RA R) (hB : CTb I b) (hO : TbOK b) (hA : CTT I a T) (hT : TtO b T) (ha : a + 8 ≤ 2207 ∨ 2215 ≤ a) (hnm : nm < 1000) : QK (f_X7_differentiate (mg (4562 + zn J) I J R) 2206 a (Int32.ofNat (nm))) (fun r => ∃ I', FrS (St 2207) I I' ∧ (((∀ i, i < T.1 → told b T i) ∧ ∃ A, dvF b T nm 200 0 = some A ∧ r = (1, mg (4562 + zn J) I' J R) ∧ CT I' 2207 A.length (nlN A) (spL A)) ∨ (¬ ((∀ i, i < T.1 → told b T i) ∧ ∃ A, dvF b T nm 200 0 = some A) ∧ r = (0, mg (4562 + zn J) I' J R)))) := by
  have ta := hA.1.1
  have nn80 := (CT_n hA).2
  have n0 := hT.1.1
  have s0 := hT.1.2.2.1
  unfold f_X7_differentiate f_X7_differentiate_j26
  rw [gr_2206_2 hR, if_pos (bT_xk isTr_2207)]
  refine q_bind (T_clear (nd := nlN []) isTr_2207) ?_
  rintro _ ⟨I1, rfl, f1, m1⟩
  have f1 : FrS (St 2207) I I1 := fun x hx => f1 x (fun y => hx (by unfold St; omega))
  have A1 := CTT_St ha hA f1
  have B1 := CTb_St hB f1
  rw [if_pos ok_2206]
  obtain ⟨r, er, hr⟩ := C_hasRules (J := J) hR B1 hO A1 hT
  rw [er, Option.bind_some]
  rcases hr with ⟨rfl, ht⟩ | ⟨rfl, ht⟩
  rotate_left
  · rw [if_pos rfl]
    exact q_ok ⟨I1, f1, Or.inr ⟨fun y => ht y.1, rfl⟩⟩
  rw [if_neg (by first | decide | omega), if_pos ok_2206]
  have m1 : MkC I1 [] := m1
  have key := C_addDer (J := J) hR hO hT ht ha hnm 200 0 0 [] I1 n0 (show T.2.2 0 ≤ 200 by omega) (show 0 + T.2.2 0 ≤ 81 by omega) m1 A1 B1
  show QK ((fr_X7_addDerivative 200 (mg (4562 + zn J) I1 J R) 2206 a (Int32.ofNat (0)) (Int32.ofNat (nm)) (Int32.ofNat (0))).bind _) _
  refine q_bind key ?_
  rintro _ ⟨I2, f2, ⟨L', e2, rfl, m2⟩ | ⟨e2, rfl⟩⟩
  · have e3 : dvF b T nm 200 0 = some L' := by
      unfold adO at e2
      cases e : dvF b T nm 200 0 with
      | none => rw [e] at e2; cases e2
      | some A =>
        rw [e] at e2
        dsimp only at e2
        split at e2
        · exact e2
        · cases e2
    obtain ⟨o1, o2⟩ := dvF_ok hO hT nn80 ht 200 0 L' n0 e3
    rw [if_neg (show ¬ (1 : Int32) = 0 by decide), gr_2206_2 hR, if_pos (bT_xk isTr_2207)]
    refine q_bind (T_measure hR m2 (spL_WT o1.1)) ?_
    rintro _ ⟨I3, rfl, f3, c3⟩
    refine q_ok ⟨I3, FrS_tr f1 (FrS_tr f2 (fun x hx => f3 x (fun y => hx (by unfold St; omega)))), Or.inl ⟨ht, L', e3, rfl, c3⟩⟩
  · rw [if_pos rfl]
    refine q_ok ⟨I2, FrS_tr f1 f2, Or.inr ⟨?_, rfl⟩⟩
    rintro ⟨-, A, eA⟩
    rw [eA] at e2
    have := dvF_len eA
    have e2 : (if 0 + A.length ≤ 80 then some ([] ++ A) else none) = none := e2
    rw [if_pos (by omega)] at e2
    cases e2
end CDW
