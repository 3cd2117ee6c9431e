/-! turns of a call: its value and its end; its cases follow evK -/
section CM
variable {I : Nat → Nat → Int32} {J : Nat → Nat → Int64} {R : Nat → Nat → Option Nat} {β : Type} {h t c d sc u l k m : Nat} {b : GB} {n : GN} {f : GF} {s : GS} {z : Int32} {w : Nat × Nat} {F : Nat} {rec : Rc} {ch : Ch}
theorem adv_value (hR : RA R) (hE : CEnv I b n f s) (hS : MSt I h (t + 1) c d sc) (hK : TKc I R t 3 none (Int32.ofNat (l)) (Int32.ofNat (2 * casN f l)) z (moreI w)) (ht : t + 1 < 480) (hl : l < 26) (hw1 : w.1 = 1) (hw2 : w.2 < casN f l) : QK (f_X4_advanceCall (mg (4562 + zn J) I J R) 567 (Int32.ofNat (t)) (Int32.ofNat (l))) (fun r => ∃ I', r = (0, mg (4562 + zn J) I' J (uR R (t + 1) (some (70 + 8 * valN f l w.2)))) ∧ FrK (Fm h t sc) I I' ∧ MSt I' h (t + 2) c d sc ∧ TKc I' (uR R (t + 1) (some (70 + 8 * valN f l w.2))) t 3 none (Int32.ofNat (l)) (Int32.ofNat (2 * casN f l + 1)) z (moreI w) ∧ TKc I' (uR R (t + 1) (some (70 + 8 * valN f l w.2))) (t + 1) (Int32.ofNat (bkN (s.2.2.1 (valN f l w.2) 0))) (some (70 + 8 * valN f l w.2)) (Int32.ofNat (0)) 0 z (-1)) := by
  obtain ⟨-, e1, c4, fk⟩ := fn_c (hE.2.2.2.2.2.2.1 l hl) hE.2.2.2.1.1
  have c4' : casN f l ≤ 4 := c4
  have e1' : f l 1 = (Int32.ofNat (casN f l)) := e1
  obtain ⟨-, -, htr, -⟩ := fk w.2 hw2
  have htr : valN f l w.2 < s.1 := htr
  obtain ⟨h1, h2⟩ := half_0 (k := casN f l) (by omega)
  obtain ⟨a1, a2, a3⟩ := TK_stage (stage' := (Int32.ofNat (2 * casN f l + 1))) hS hK
  have hE1 := CEnv_keep hE a1
  have cs := hE1.2.2.2.1.2.2 (valN f l w.2) htr
  have em : moreI w = (Int32.ofNat (w.2)) := by
    unfold moreI
    rw [if_neg (by omega), if_pos hw1]
  unfold f_X4_advanceCall
  rw [gr_567_9 hR, ga_577 (by omega), hK.2.2.2.1, h1, q_let, gr_567_10 hR, ga_578 (by omega), hK.2.2.2.2.1, gr_567_9 hR, ga_577 (by omega), hK.2.2.2.1, gw_577 (by omega), show (Int32.ofNat (2 * casN f l)) + (1 : Int32) = (Int32.ofNat (2 * casN f l + 1)) from n_add _ 1, gr_567_0 hR, if_pos ok_11]
  generalize up I 577 t (Int32.ofNat (2 * casN f l + 1)) = I1 at *
  rw [c_cases hR hE1.2.2.1 hl, e1', if_neg (show ¬ (Int32.ofNat (casN f l)) < (Int32.ofNat (casN f l)) from fun y => absurd ((i32_lt (by omega) (by omega)).mp y) (Nat.lt_irrefl _)), if_neg h2, if_pos ok_567]
  unfold f_X4_beginValue f_X4_beginValue_j62 f_X4_advanceCall_j68
  rw [gr_567_11 hR, ga_579 (by omega), a3.2.2.2.2.2, em, if_pos (show (0 : Int32) ≤ (Int32.ofNat (w.2)) from i32_0le (by omega)), gr_567_0 hR, gr_567_11 hR, ga_579 (by omega), a3.2.2.2.2.2, em, if_pos ok_11, C_valOf hR hE1.2.2.1 hE1.2.2.2.1 (hE1.2.2.2.2.2.2.1 l hl) hl hw2, Option.elim_some, if_pos ok_567]
  obtain ⟨_, e2, I2, rfl, hF2, hS2, hK2⟩ := C_begin (J := J) (i := 0) (scope := z) hR cs.1 (CT_n cs).1 ((hE.2.2.2.2.2.1 (valN f l w.2) htr).2 0 (CT_n cs).1) a2 ht
  have e2 : f_X4_begin (mg (4562 + zn J) I1 J R) 567 (70 + 8 * valN f l w.2) 0 z = some (0, mg (4562 + zn J) I2 J (uR R (t + 1) (some (70 + 8 * valN f l w.2)))) := e2
  rw [e2, Option.bind_some, Option.bind_some]
  have e3 : ∀ x, x = 574 ∨ (576 ≤ x ∧ x ≤ 579) → I2 x t = I1 x t := fun x hx => hF2 x t (by unfold Fm; omega)
  obtain ⟨k1, k2, k3, k4, k5, k6⟩ := a3
  rw [← em]
  refine q_ok ⟨I2, rfl, FrK_tr a1 (Fm_mono hF2 (Nat.le_refl _) (by omega) (Nat.le_refl _)), hS2, ⟨?_, ?_, ?_, ?_, ?_, ?_⟩, hK2⟩
  · rw [e3 574 (by omega)]; exact k1
  · rw [uR_o (by omega)]; exact k2
  · rw [e3 576 (by omega)]; exact k3
  · rw [e3 577 (by omega)]; exact k4
  · rw [e3 578 (by omega)]; exact k5
  · rw [e3 579 (by omega)]; exact k6
theorem adv_noValue (hR : RA R) (hE : CEnv I b n f s) (hS : MSt I h (t + 1) c d sc) (hK : TKc I R t 3 none (Int32.ofNat (l)) (Int32.ofNat (2 * casN f l)) z (moreI w)) (ht : t + 1 < 480) (hl : l < 26) (hw1 : w.1 ≠ 1) : QK (f_X4_advanceCall (mg (4562 + zn J) I J R) 567 (Int32.ofNat (t)) (Int32.ofNat (l))) (fun r => ∃ I', r = ((Int32.ofNat (if w.1 = 0 then 6 else 7)), mg (4562 + zn J) I' J R) ∧ FrK (Fm h t sc) I I') := by
  obtain ⟨-, e1, c4, fk⟩ := fn_c (hE.2.2.2.2.2.2.1 l hl) hE.2.2.2.1.1
  have c4' : casN f l ≤ 4 := c4
  have e1' : f l 1 = (Int32.ofNat (casN f l)) := e1
  obtain ⟨h1, h2⟩ := half_0 (k := casN f l) (by omega)
  obtain ⟨a1, a2, a3⟩ := TK_stage (stage' := (Int32.ofNat (2 * casN f l + 1))) hS hK
  have hE1 := CEnv_keep hE a1
  unfold f_X4_advanceCall
  rw [gr_567_9 hR, ga_577 (by omega), hK.2.2.2.1, h1, q_let, gr_567_10 hR, ga_578 (by omega), hK.2.2.2.2.1, gr_567_9 hR, ga_577 (by omega), hK.2.2.2.1, gw_577 (by omega), show (Int32.ofNat (2 * casN f l)) + (1 : Int32) = (Int32.ofNat (2 * casN f l + 1)) from n_add _ 1, gr_567_0 hR, if_pos ok_11]
  generalize up I 577 t (Int32.ofNat (2 * casN f l + 1)) = I1 at *
  rw [c_cases hR hE1.2.2.1 hl, e1', if_neg (show ¬ (Int32.ofNat (casN f l)) < (Int32.ofNat (casN f l)) from fun y => absurd ((i32_lt (by omega) (by omega)).mp y) (Nat.lt_irrefl _)), if_neg h2, if_pos ok_567]
  unfold f_X4_beginValue f_X4_beginValue_j27 f_X4_advanceCall_j68
  rw [gr_567_11 hR, ga_579 (by omega), a3.2.2.2.2.2]
  by_cases q : w.1 = 0
  · have em : moreI w = -1 := if_pos q
    rw [em, if_neg (by first | decide | omega), gr_567_11 hR, ga_579 (by omega), a3.2.2.2.2.2, em, if_neg (by first | decide | omega), if_pos q]
    exact q_ok ⟨I1, rfl, a1⟩
  · have em : moreI w = -2 := by
      unfold moreI
      rw [if_neg q, if_neg hw1]
    rw [em, if_neg (by first | decide | omega), gr_567_11 hR, ga_579 (by omega), a3.2.2.2.2.2, em, if_pos rfl, if_neg q]
    exact q_ok ⟨I1, rfl, a1⟩
theorem adv_close {more : Int32} {v : GV} (hR : RA R) (hE : CEnv I b n f s) (hS : MSt I (h + m + 1) (t + 1) c (d + 1) (sc + 1)) (hK : TKc I R t 3 none (Int32.ofNat (l)) (Int32.ofNat (2 * casN f l + 1)) (Int32.ofNat (sc)) more) (ht : t < 480) (hl : l < 26) (hm : 1 ≤ m) (hh : h + m < 240) (hsc : sc < 240) (hsl : I 582 sc = (Int32.ofNat (h))) (hd : d < 1000) (hv : CV I (584 + 5 * (h + m)) v) (gv : Gd v) : QK (f_X4_advanceCall (mg (4562 + zn J) I J R) 567 (Int32.ofNat (t)) (Int32.ofNat (l))) (fun r => ∃ I', r = (0, mg (4562 + zn J) I' J R) ∧ FrK (Fm h t sc) I I' ∧ MSt I' (h + 1) t c d sc ∧ CV I' (584 + 5 * h) v) := by
  obtain ⟨-, e1, c4, fk⟩ := fn_c (hE.2.2.2.2.2.2.1 l hl) hE.2.2.2.1.1
  have c4' : casN f l ≤ 4 := c4
  have e1' : f l 1 = (Int32.ofNat (casN f l)) := e1
  obtain ⟨h1, h2⟩ := half_1 (k := casN f l) (by omega)
  obtain ⟨a1, a2, a3⟩ := TK_stage (stage' := (Int32.ofNat (2 * casN f l + 1 + 1))) hS hK
  have hE1 := CEnv_keep hE a1
  have sl1 : up I 577 t (Int32.ofNat (2 * casN f l + 1 + 1)) 582 sc = (Int32.ofNat (h)) := by rw [up_n (by omega)]; exact hsl
  have hv1 : CV (up I 577 t (Int32.ofNat (2 * casN f l + 1 + 1))) (584 + 5 * (h + m)) v := CV_keep hv (fun x g1 g2 => up_r (by omega))
  unfold f_X4_advanceCall
  rw [gr_567_9 hR, ga_577 (by omega), hK.2.2.2.1, h1, q_let, gr_567_10 hR, ga_578 (by omega), hK.2.2.2.2.1, gr_567_9 hR, ga_577 (by omega), hK.2.2.2.1, gw_577 (by omega), show (Int32.ofNat (2 * casN f l + 1)) + (1 : Int32) = (Int32.ofNat (2 * casN f l + 1 + 1)) from n_add _ 1, gr_567_0 hR, if_pos ok_11]
  generalize up I 577 t (Int32.ofNat (2 * casN f l + 1 + 1)) = I1 at *
  rw [c_cases hR hE1.2.2.1 hl, e1', if_neg (show ¬ (Int32.ofNat (casN f l)) < (Int32.ofNat (casN f l)) from fun y => absurd ((i32_lt (by omega) (by omega)).mp y) (Nat.lt_irrefl _)), if_pos h2, if_pos ok_567]
  obtain ⟨s1, s2, s3, s4, s5⟩ := a2
  unfold f_X4_closeCall f_X4_closeCall_j21 f_X4_advanceCall_j68
  rw [if_neg (show ¬ (Int32.ofNat (sc)) < (0 : Int32) from fun y => absurd ((i32_lt (m := 0) (by omega) (by omega)).mp y) (Nat.not_lt_zero _)), if_neg (show ¬ (240 : Int32) ≤ (Int32.ofNat (sc)) from fun y => absurd ((i32_le (k := 240) (by omega) (by omega)).mp y) (by omega)), gr_567_16 hR, ga_582 hsc, sl1, if_neg (show ¬ (Int32.ofNat (h)) < (0 : Int32) from fun y => absurd ((i32_lt (m := 0) (by omega) (by omega)).mp y) (Nat.not_lt_zero _)), gi_567, s1, if_pos (show (Int32.ofNat (h)) < (Int32.ofNat (h + m + 1)) from (i32_lt (by omega) (by omega)).mpr (by omega)), gr_567_2 hR, C_stk hR (by omega), gr_567_2 hR, gi_567, s1, show (Int32.ofNat (h + m + 1)) - (1 : Int32) = (Int32.ofNat (h + m)) from n_sub (b := 1) (by omega), C_stk hR (by omega), if_pos (bF_xk (isF_584 (by omega)))]
  obtain ⟨_, e3, I2, rfl, hF2, hV2⟩ := F_copy (J := J) hR (isF_584 (t := h) (by omega)) hv1 (b200 gv.1) (b200 (by rw [Int.natAbs_natCast]; exact gv.2.2.1)) (by omega)
  have g2 : ∀ x, ¬ (584 + 5 * h ≤ x ∧ x < 589 + 5 * h) → I2 x = I1 x := fun x hx => hF2 x (fun y => by unfold Sf at y; omega)
  rw [e3, Option.bind_some, gs_567, gs_567, gi_567, up_n (by omega), up_n (by omega), g2 567 (by omega), s4, gs_567, gs_567, Option.bind_some, show (Int32.ofNat (h)) + (1 : Int32) = (Int32.ofNat (h + 1)) from n_add h 1, show (Int32.ofNat (d + 1)) - (1 : Int32) = (Int32.ofNat (d)) from n_sub (b := 1) (by omega)]
  refine q_ok ⟨_, rfl, fun x j y => ?_, ⟨?_, ?_, ?_, ?_, ?_⟩, CV_keep hV2 (fun x y1 y2 => ?_)⟩
  · have y2 := y
    unfold Fm at y
    rw [up_n (by omega), up_n (by omega), up_n (by omega), up_n (by omega), g2 x (by omega)]
    exact a1 x j (by unfold Fm; omega)
  · rw [up_n (by omega), up_n (by omega), up_n (by omega), up_s]
  · rw [up_s]
  · rw [up_n (by omega), up_n (by omega), up_n (by omega), up_n (by omega), g2 567 (by omega)]; exact s3
  · rw [up_n (by omega), up_s]
  · rw [up_n (by omega), up_n (by omega), up_s]
  · rw [up_r (by omega), up_r (by omega), up_r (by omega), up_r (by omega)]
end CM
