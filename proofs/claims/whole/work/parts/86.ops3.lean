/-! operators of the reference -/
theorem Vop_mono {I : Nat → Nat → Int32} {J : Nat → Nat → Int64} {R : Nat → Nat → Option Nat} {i : Nat} {S T : Nat → Prop} {q : Nat ⊕ (Int × Nat)} {r : Int32 × xM} (h : Vop I J R i S q r) (hs : ∀ x, S x → T x) : Vop I J R i T q r := by
  obtain ⟨I', h1, h2, h3⟩ := h
  exact ⟨I', h1, Kvs_mono h2 hs, h3⟩
section MAA
variable {I : Nat → Nat → Int32} {J : Nat → Nat → Int64} {R : Nat → Nat → Option Nat}
theorem M_sto {i D : Nat} {z : Int} {y : Int32} {I' : Nat → Nat → Int32} {S : Nat → Prop} (hr : R3 I I') (hs : Sto (I 4564) (I' 4564) i z D y) (hi : S i) : Vop I J R i S (qfin z D) (if y = 0 then 3 else 0, mg 4625 I' J R) := by
  refine ⟨I', hr, Kv_s (Sto_kv hs) hi, ?_⟩
  rcases hs with ⟨h1, rfl, h3, -⟩ | ⟨h1, rfl, -⟩
  · exact Or.inl ⟨_, _, qfin_r h1, by rw [if_neg (by decide)], h3⟩
  · exact Or.inr ⟨3, qfin_l h1, by decide, by decide, by rw [if_pos rfl]; rfl⟩
theorem M_setV {i m : Nat} {S : Nat → Prop} (hR : RA R) (hi : i < 3700) (hm : m < 2147483648) (hS : S i) {I0 : Nat → Nat → Int32} (hr0 : R3 I0 I) (hk0 : Kvs S (I0 4564) (I 4564)) {F : xM → Option (Int32 × xM)} (hF : ∀ σ, F σ = some ((0 : Int32), σ)) : QK ((f_X12_setInt (mg 4625 I J R) 4561 (Int32.ofNat (i)) (Int32.ofNat (m))).bind F) (Vop I0 J R i S (.inr ((m : Int), 1))) := by
  refine q_bind (M_setInt hR hi hm) ?_
  rintro r ⟨I', rfl, h1, h2, h3⟩
  rw [hF]
  exact q_ok ⟨I', R3_tr hr0 h1, Kvs_tr hk0 (Kv_s h2 hS), Or.inl ⟨_, _, rfl, rfl, h3⟩⟩
theorem M_one {a m da : Nat} {za : Int} (hR : RA R) (ha : a < 3600) (hm : m < 200) (A : Vv (I 4564) a za da) : QK (f_X12_one (mg 4625 I J R) 4561 (Int32.ofNat (m)) (Int32.ofNat (a))) (Vop I J R a (fun x => x = a ∨ x = 3600) (q1 m (za, da))) := by
  unfold f_X12_one f_X12_one_j55 f_X12_one_j52
  by_cases h1 : m = 13
  · subst h1
    rw [if_pos (show (Int32.ofNat (13)) = 13 from rfl), if_pos ok_4561]
    refine q_bind (M_factorial hR ha A) ?_
    intro r h
    exact q_ok h
  · rw [if_neg (show ¬ (Int32.ofNat (m)) = 13 from i32_neq (m := 13) (by omega) (by omega) h1)]
    by_cases h2 : m = 11
    · subst h2
      rw [if_pos (show (Int32.ofNat (11)) = 11 from rfl), ogR_4561_3 hR, Option.bind_some, if_pos ok_4561, M_sign hR (by omega) A, Option.bind_some, show (28 : Int32) * (Int32.ofNat (a)) = (Int32.ofNat (28 * a)) from n_mul 28 a, bM_id]
      refine q_eq (m_wv (by decide) (by omega)) (q_ok ⟨_, R3_u3 Kl.rfl, ?_, Or.inl ⟨-za, da, rfl, rfl, ?_⟩⟩)
      · rw [u3_4564]
        refine Kv_s (i := a) (fun x hx => va_up_ne _ _ (by omega)) (Or.inl rfl)
      · rw [u3_4564]
        obtain ⟨h1, h2, h3, h4⟩ := A
        refine ⟨?_, fun j hj => ?_, fun j hj => ?_, by rw [Int.natAbs_neg]; exact h4⟩
        · rw [va_up_self, Int.sign_neg, ← Int32.ofInt_neg]
        · rw [va_up_ne _ _ (by omega), Int.natAbs_neg]
          exact h2 j hj
        · rw [va_up_ne _ _ (by omega)]
          exact h3 j hj
    · rw [if_neg (show ¬ (Int32.ofNat (m)) = 11 from i32_neq (m := 11) (by omega) (by omega) h2), if_pos ok_4561, M_sign hR (by omega) A, Option.bind_some]
      have q1m : q1 m (za, da) = .inr (if za = 0 then 1 else 0, 1) := by
        unfold q1
        rw [if_neg h2, if_neg h1]
      rw [q1m]
      by_cases h3 : za = 0
      · rw [if_pos (sg_eq0.mpr h3), if_pos ok_4561, if_pos h3]
        exact M_setV (m := 1) hR (by omega) (by decide) (Or.inl rfl) R3_rfl Kvs_rfl (fun σ => rfl)
      · rw [if_neg (fun q => h3 (sg_eq0.mp q)), if_pos ok_4561, if_neg h3]
        exact M_setV (m := 0) hR (by omega) (by decide) (Or.inl rfl) R3_rfl Kvs_rfl (fun σ => rfl)
theorem M_twoCmp {a b m da db : Nat} {za zb : Int} (hR : RA R) (ha : a < 3600) (hb : b < 3600) (hm : m = 6 ∨ m = 7 ∨ m = 8) (A : Vv (I 4564) a za da) (B : Vv (I 4564) b zb db) : QK (f_X12_two_j210 (mg 4625 I J R) 4561 (Int32.ofNat (m)) (Int32.ofNat (a)) (Int32.ofNat (b))) (Vop I J R a (fun x => x = a) (q2 m (za, da) (zb, db))) := by
  unfold f_X12_two_j210
  rw [if_pos ok_4561]
  refine q_bind (M_cmp hR (by omega) (by omega) A B) ?_
  rintro r ⟨I1, y, rfl, hr1, hv1, hy⟩
  have t0 : (0 : Int32).toInt = 0 := by decide
  have ylt : y < 0 ↔ za * db < zb * da := by
    rw [Int32.lt_iff_toInt_lt, t0]
    rcases hy with ⟨h1, h2⟩ | ⟨h1, rfl⟩ | ⟨h1, h2⟩ <;> omega
  have yeq : y = 0 ↔ za * db = zb * da := by
    rcases hy with ⟨h1, h2⟩ | ⟨h1, rfl⟩ | ⟨h1, h2⟩
    · refine ⟨fun q => ?_, fun q => by omega⟩
      rw [q, t0] at h2
      omega
    · exact ⟨fun _ => by omega, fun _ => rfl⟩
    · refine ⟨fun q => ?_, fun q => by omega⟩
      rw [q, t0] at h2
      omega
  have yle : y ≤ 0 ↔ za * db ≤ zb * da := by
    rw [Int32.le_iff_toInt_le, t0]
    rcases hy with ⟨h1, h2⟩ | ⟨h1, rfl⟩ | ⟨h1, h2⟩ <;> omega
  have set : ∀ n : Nat, n < 2 → QK (f_X12_two_j258 (mg 4625 I1 J R) (Int32.ofNat (n)) (Int32.ofNat (a)) 4561) (Vop I J R a (fun x => x = a) (.inr ((n : Int), 1))) := by
    intro n hn
    unfold f_X12_two_j258
    rw [if_pos ok_4561]
    exact M_setV (i := a) (m := n) (S := fun x => x = a) hR (by omega) (by omega) rfl hr1 (Kvs_eq hv1) (fun σ => rfl)
  have s0 := set 0 (by decide)
  have s1 := set 1 (by decide)
  dsimp only
  unfold f_X12_two_j231 f_X12_two_j242 f_X12_two_j257 f_X12_two_j253
  rcases hm with rfl | rfl | rfl
  · rw [if_pos (show (Int32.ofNat (6)) = 6 from rfl)]
    have q : q2 6 (za, da) (zb, db) = .inr (if za * db < zb * da then 1 else 0, 1) := rfl
    rw [q]
    by_cases h : za * db < zb * da
    · rw [if_pos (ylt.mpr h), if_pos h]
      exact s1
    · rw [if_neg (fun w => h (ylt.mp w)), if_neg h, if_neg (by decide), if_neg (by decide)]
      exact s0
  · rw [if_neg (by decide), if_pos (show (Int32.ofNat (7)) = 7 from rfl)]
    have q : q2 7 (za, da) (zb, db) = .inr (if za * db = zb * da then 1 else 0, 1) := rfl
    rw [q]
    by_cases h : za * db = zb * da
    · rw [if_pos (yeq.mpr h), if_pos h]
      exact s1
    · rw [if_neg (fun w => h (yeq.mp w)), if_neg h, if_neg (by decide)]
      exact s0
  · rw [if_neg (by decide), if_neg (by decide), if_pos (show (Int32.ofNat (8)) = 8 from rfl)]
    have q : q2 8 (za, da) (zb, db) = .inr (if zb * da < za * db then 1 else 0, 1) := rfl
    rw [q]
    by_cases h : zb * da < za * db
    · rw [if_neg (fun w => absurd (yle.mp w) (by omega)), if_pos h]
      exact s1
    · rw [if_pos (yle.mpr (by omega)), if_neg h]
      exact s0
theorem M_two {a b m da db : Nat} {za zb : Int} (hR : RA R) (ha : a < 3600) (hb : b < 3600) (hm : m ≤ 10) (A : Vv (I 4564) a za da) (B : Vv (I 4564) b zb db) : QK (f_X12_two (mg 4625 I J R) 4561 (Int32.ofNat (m)) (Int32.ofNat (a)) (Int32.ofNat (b))) (Vop I J R a (fun x => x = a ∨ x = 3600 ∨ x = 3601) (q2 m (za, da) (zb, db))) := by
  have ne : ∀ k : Nat, k < 100 → m ≠ k → ¬ (Int32.ofNat (m)) = (Int32.ofNat (k)) := fun k hk h => i32_neq (by omega) (by omega) h
  have yn : ∀ {r : Int32 × xM} {q : Nat ⊕ (Int × Nat)}, Vop I J R a (fun x => x = a) q r → Vop I J R a (fun x => x = a ∨ x = 3600 ∨ x = 3601) q r := fun h => Vop_mono h (fun x hx => Or.inl hx)
  unfold f_X12_two
  by_cases h0 : m = 0
  · subst h0
    rw [if_pos (show (Int32.ofNat (0)) = 0 from rfl), if_pos ok_4561]
    refine q_bind (M_add (e := 1) hR (by omega) (by omega) (by omega) (Or.inl rfl) A B) ?_
    rintro r ⟨I1, y, rfl, hr, hs⟩
    have := M_sto (J := J) (R := R) (S := fun x => x = a ∨ x = 3600 ∨ x = 3601) hr hs (Or.inl rfl)
    unfold f_X12_two_j76
    by_cases hy : y = 0
    · rw [if_pos hy] at this ⊢
      exact q_ok this
    · rw [if_neg hy] at this ⊢
      exact q_ok this
  rw [if_neg (show ¬ (Int32.ofNat (m)) = (0 : Int32) from ne 0 (by decide) h0)]
  by_cases h1 : m = 1
  · subst h1
    rw [if_pos (show (Int32.ofNat (1)) = 1 from rfl), if_pos ok_4561]
    rw [show (-1 : Int32) = Int32.ofInt (-1) by decide]
    refine q_bind (M_add (e := -1) hR (by omega) (by omega) (by omega) (Or.inr rfl) A B) ?_
    rintro r ⟨I1, y, rfl, hr, hs⟩
    have := M_sto (J := J) (R := R) (S := fun x => x = a ∨ x = 3600 ∨ x = 3601) hr hs (Or.inl rfl)
    unfold f_X12_two_j93
    by_cases hy : y = 0
    · rw [if_pos hy] at this ⊢
      exact q_ok this
    · rw [if_neg hy] at this ⊢
      exact q_ok this
  rw [if_neg (show ¬ (Int32.ofNat (m)) = (1 : Int32) from ne 1 (by decide) h1)]
  by_cases h2 : m = 2
  · subst h2
    rw [if_pos (show (Int32.ofNat (2)) = 2 from rfl), if_pos ok_4561]
    refine q_bind (M_mul hR (by omega) (by omega) (by omega) A B) ?_
    rintro r ⟨I1, y, rfl, hr, hs⟩
    have := M_sto (J := J) (R := R) (S := fun x => x = a ∨ x = 3600 ∨ x = 3601) hr hs (Or.inl rfl)
    unfold f_X12_two_j109
    by_cases hy : y = 0
    · rw [if_pos hy] at this ⊢
      exact q_ok this
    · rw [if_neg hy] at this ⊢
      exact q_ok this
  rw [if_neg (show ¬ (Int32.ofNat (m)) = (2 : Int32) from ne 2 (by decide) h2)]
  by_cases h3 : m = 3
  · subst h3
    have q : q2 3 (za, da) (zb, db) = if zb = 0 then .inl 1 else qfin (za * db * zb.sign) (da * zb.natAbs) := rfl
    rw [if_pos (show (Int32.ofNat (3)) = 3 from rfl), if_pos ok_4561, M_sign hR (by omega) B, Option.bind_some, q]
    unfold f_X12_two_j137
    by_cases hz : zb = 0
    · rw [if_pos (sg_eq0.mpr hz), if_pos hz]
      exact q_ok ⟨I, R3_rfl, Kvs_rfl, Or.inr ⟨1, rfl, by decide, by decide, rfl⟩⟩
    · rw [if_neg (fun w => hz (sg_eq0.mp w)), if_neg hz, if_pos ok_4561]
      refine q_bind (M_div hR (by omega) (by omega) (by omega) hz A B) ?_
      rintro r ⟨I1, y, rfl, hr, hs⟩
      have := M_sto (J := J) (R := R) (S := fun x => x = a ∨ x = 3600 ∨ x = 3601) hr hs (Or.inl rfl)
      by_cases hy : y = 0
      · rw [if_pos hy] at this ⊢
        exact q_ok this
      · rw [if_neg hy] at this ⊢
        exact q_ok this
  rw [if_neg (show ¬ (Int32.ofNat (m)) = (3 : Int32) from ne 3 (by decide) h3)]
  by_cases h4 : m = 4
  · subst h4
    rw [if_pos (show (Int32.ofNat (4)) = 4 from rfl), if_pos ok_4561]
    refine q_bind (M_remainder hR (by omega) (by omega) (by omega) A B) ?_
    intro r h
    exact q_ok (yn h)
  rw [if_neg (show ¬ (Int32.ofNat (m)) = (4 : Int32) from ne 4 (by decide) h4)]
  by_cases h5 : m = 5
  · subst h5
    rw [if_pos (show (Int32.ofNat (5)) = 5 from rfl), if_pos ok_4561]
    refine q_bind (M_power hR ha ha hb A B) ?_
    intro r h
    exact q_ok h
  rw [if_neg (show ¬ (Int32.ofNat (m)) = (5 : Int32) from ne 5 (by decide) h5)]
  by_cases h6 : m = 6
  · rw [if_pos (by rw [h6]; rfl)]
    exact q_mono (M_twoCmp hR ha hb (Or.inl h6) A B) (fun r h => yn h)
  rw [if_neg (show ¬ (Int32.ofNat (m)) = (6 : Int32) from ne 6 (by decide) h6)]
  by_cases h7 : m = 7
  · rw [if_pos (by rw [h7]; rfl)]
    exact q_mono (M_twoCmp hR ha hb (Or.inr (Or.inl h7)) A B) (fun r h => yn h)
  rw [if_neg (show ¬ (Int32.ofNat (m)) = (7 : Int32) from ne 7 (by decide) h7)]
  by_cases h8 : m = 8
  · rw [if_pos (by rw [h8]; rfl)]
    exact q_mono (M_twoCmp hR ha hb (Or.inr (Or.inr h8)) A B) (fun r h => yn h)
  rw [if_neg (show ¬ (Int32.ofNat (m)) = (8 : Int32) from ne 8 (by decide) h8)]
  by_cases h9 : m = 9
  · subst h9
    have q : q2 9 (za, da) (zb, db) = .inr (if za = 0 ∨ zb = 0 then 0 else 1, 1) := rfl
    rw [if_pos (show (Int32.ofNat (9)) = 9 from rfl), if_pos ok_4561, M_sign hR (by omega) A, Option.bind_some, q]
    unfold f_X12_two_j176 f_X12_two_j177
    by_cases hz : za = 0
    · rw [if_pos (sg_eq0.mpr hz), if_pos ok_4561, if_pos (show za = 0 ∨ zb = 0 from Or.inl hz)]
      exact M_setV (m := 0) hR (by omega) (by decide) (Or.inl rfl) R3_rfl Kvs_rfl (fun σ => rfl)
    · rw [if_neg (fun w => hz (sg_eq0.mp w)), if_pos ok_4561, M_sign hR (by omega) B, Option.bind_some]
      by_cases hz2 : zb = 0
      · rw [if_pos (sg_eq0.mpr hz2), if_pos ok_4561, if_pos (show za = 0 ∨ zb = 0 from Or.inr hz2)]
        exact M_setV (m := 0) hR (by omega) (by decide) (Or.inl rfl) R3_rfl Kvs_rfl (fun σ => rfl)
      · rw [if_neg (fun w => hz2 (sg_eq0.mp w)), if_pos ok_4561, if_neg (show ¬ (za = 0 ∨ zb = 0) by omega)]
        exact M_setV (m := 1) hR (by omega) (by decide) (Or.inl rfl) R3_rfl Kvs_rfl (fun σ => rfl)
  rw [if_neg (show ¬ (Int32.ofNat (m)) = (9 : Int32) from ne 9 (by decide) h9)]
  obtain rfl : m = 10 := by omega
  have q : q2 10 (za, da) (zb, db) = .inr (if za = 0 ∧ zb = 0 then 0 else 1, 1) := rfl
  rw [if_pos (show (Int32.ofNat (10)) = 10 from rfl), if_pos ok_4561, M_sign hR (by omega) A, Option.bind_some, q]
  unfold f_X12_two_j200 f_X12_two_j205
  by_cases hz : za = 0
  · rw [if_pos (sg_eq0.mpr hz), if_pos ok_4561, M_sign hR (by omega) B, Option.bind_some]
    by_cases hz2 : zb = 0
    · rw [if_pos (sg_eq0.mpr hz2), if_pos ok_4561, if_pos (show za = 0 ∧ zb = 0 from ⟨hz, hz2⟩)]
      exact M_setV (m := 0) hR (by omega) (by decide) (Or.inl rfl) R3_rfl Kvs_rfl (fun σ => rfl)
    · rw [if_neg (fun w => hz2 (sg_eq0.mp w)), if_pos ok_4561, if_neg (show ¬ (za = 0 ∧ zb = 0) from fun w => hz2 w.2)]
      exact M_setV (m := 1) hR (by omega) (by decide) (Or.inl rfl) R3_rfl Kvs_rfl (fun σ => rfl)
  · rw [if_neg (fun w => hz (sg_eq0.mp w)), if_pos ok_4561, if_neg (show ¬ (za = 0 ∧ zb = 0) from fun w => hz w.1)]
    exact M_setV (m := 1) hR (by omega) (by decide) (Or.inl rfl) R3_rfl Kvs_rfl (fun σ => rfl)
end MAA
