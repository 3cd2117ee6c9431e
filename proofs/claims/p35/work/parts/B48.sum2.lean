/-! the class's machine: a sum begins, ends -/
section SUM2
variable {I : Nat → Nat → Int32} {J : Nat → Nat → Int64} {R : Nat → Nat → Option Nat} {h t c d sc k a nn i : Nat} {nd : Nat → Nd} {sp : Nat → Nat} {b : GB} {z node stage more : Int32} {o : Option Nat}
theorem C_sumEnd {tt : GV} (hR : RA R) (hS : MSt I (h + 2) (t + 1) c d (sc + 1)) (hK : TKc I R t 2 (some a) (Int32.ofNat (i)) stage z (Int32.ofNat (0))) (ht : t < 480) (hh : h + 2 ≤ 240) (V1 : CV I (584 + 5 * (h + 1)) tt) (gt : Gd tt) (hsc : sc < 1000) : QK (f_X4_nextOfSum (mg (4562 + zn J) I J R) 567 (Int32.ofNat (t)) a (Int32.ofNat (i))) (fun r => ∃ I', r = (0, mg (4562 + zn J) I' J R) ∧ FrK (Fm h t sc) I I' ∧ MSt I' (h + 1) t c d sc ∧ CV I' (584 + 5 * h) tt) := by
  obtain ⟨s1, s2, s3, s4, s5⟩ := hS
  have e2 : (Int32.ofNat (h + 2)) - (2 : Int32) = (Int32.ofNat (h)) := n_sub (b := 2) (by omega)
  have e1 : (Int32.ofNat (h + 2)) - (1 : Int32) = (Int32.ofNat (h + 1)) := n_sub (b := 1) (by omega)
  unfold f_X4_nextOfSum f_X4_nextOfSum_j77
  rw [gr_567_11 hR, ga_579 ht, hK.2.2.2.2.2, if_pos (show (Int32.ofNat (0)) ≤ (0 : Int32) by decide), gi_567, s1, if_neg (show ¬ (Int32.ofNat (h + 2)) ≤ (1 : Int32) from fun y => absurd ((i32_le (m := 1) (by omega) (by omega)).mp y) (by omega)), gr_567_2 hR, gi_567, s1, e2, C_stk hR (by omega), gr_567_2 hR, gi_567, s1, e1, C_stk hR (by omega), if_pos (bF_xk (isF_584 (by omega)))]
  refine q_bind (F_copy hR (isF_584 (t := h) (by omega)) V1 (b200 gt.1) (b200 (by rw [Int.natAbs_natCast]; exact gt.2.2.1)) (by omega)) ?_
  rintro _ ⟨I1, rfl, F1, W1⟩
  have k1 : ∀ j, I1 567 j = I 567 j := fun j => by rw [F1 567 (fun w => by unfold Sf at w; omega)]
  rw [gi_567, k1, s1, e1, gs_567, gi_567, up_n (by omega), k1, s5, show (Int32.ofNat (sc + 1)) - (1 : Int32) = (Int32.ofNat (sc)) from n_sub (b := 1) (by omega), gs_567, gs_567]
  refine q_ok ⟨_, rfl, fun y j w => ?_, ⟨?_, ?_, ?_, ?_, ?_⟩, FU_keep W1 (fun y h1 h2 => by rw [up_r (by omega), up_r (by omega), up_r (by omega)])⟩
  · unfold Fm at w
    rw [up_n (by omega), up_n (by omega), up_n (by omega), F1 y (fun q => by unfold Sf at q; omega)]
  · rw [up_n (by omega), up_n (by omega), up_s]
  · rw [up_s]
  · rw [up_n (by omega), up_n (by omega), up_n (by omega), k1]; exact s3
  · rw [up_n (by omega), up_n (by omega), up_n (by omega), k1]; exact s4
  · rw [up_n (by omega), up_s]
theorem C_sumNext (hR : RA R) (hA : CT I a nn nd sp) (ha : a + 8 ≤ 567 ∨ 1784 ≤ a) (hT : TrO b nn nd sp) (hi : i < nn) (h4 : 3 < aro nd i) (hS : MSt I h (t + 1) c d (sc + 1)) (hK : TKc I R t 2 (some a) (Int32.ofNat (i)) stage z (Int32.ofNat (k + 1))) (ht : t + 1 < 480) (hk : k < 1000) (hsc : sc < 1000) : QK (f_X4_nextOfSum (mg (4562 + zn J) I J R) 567 (Int32.ofNat (t)) a (Int32.ofNat (i))) (fun r => ∃ I', r = (0, mg (4562 + zn J) I' J (uR R (t + 1) (some a))) ∧ FrK (Fm h t (sc + 1)) I I' ∧ MSt I' h (t + 2) c d (sc + 1) ∧ TKc I' (uR R (t + 1) (some a)) t 2 (some a) (Int32.ofNat (i)) 5 z (Int32.ofNat (k + 1)) ∧ TKc I' (uR R (t + 1) (some a)) (t + 1) (Int32.ofNat (bkN (nd (kid sp i 3)))) (some a) (Int32.ofNat (kid sp i 3)) 0 (Int32.ofNat (sc)) (-1)) := by
  have ta := hA.1.1
  have kid1 := (kid_sp hT.1 hi h4).1
  unfold f_X4_nextOfSum
  obtain ⟨a1, a2, a3⟩ := TK_stage (stage' := 5) hS hK
  rw [gr_567_11 hR, ga_579 (by omega), hK.2.2.2.2.2, if_neg (show ¬ (Int32.ofNat (k + 1)) ≤ (0 : Int32) from fun y => absurd ((i32_le (m := 0) (by omega) (by omega)).mp y) (by omega)), gr_567_9 hR, gw_577 (by omega), if_pos (bT_xk ta)]
  have A1 := CT_m hA ha a1
  generalize up I 577 t 5 = I1 at *
  rw [show f_X9_child (mg (4562 + zn J) I1 J R) a (Int32.ofNat (i)) 3 = some (Int32.ofNat (kid sp i 3)) from T_child hR A1 hi h4, Option.bind_some, gi_567, a2.2.2.2.2, show (Int32.ofNat (sc + 1)) - (1 : Int32) = (Int32.ofNat (sc)) from n_sub (b := 1) (by omega), if_pos ok_567]
  refine q_bind (C_begin (scope := (Int32.ofNat (sc))) hR A1.1 kid1 (hT.2 _ kid1) a2 ht) ?_
  rintro _ ⟨I2, rfl, f2, S2, K2⟩
  exact q_ok ⟨I2, rfl, FrK_tr a1 (Fm_mono f2 (Nat.le_refl _) (by omega) (Nat.le_refl _)), S2, TK_keep a3 f2 (fun x j y => uR_o (by omega)), K2⟩
end SUM2
