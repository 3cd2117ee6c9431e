-- Rankwise$Arithmetic.sum(LRankwise$Fraction;LRankwise$Fraction;LRankwise$Fraction;Z)V
def f_X0_sum_j51 (σ : xM) (l0 : Nat) (l1 : Nat) (l2 : Nat) (l3 : Nat) (l4 : Int32) : Option xM :=
  (gR σ l0 0 0).bind (fun x2 => (gR σ l2 2 0).bind (fun x3 => (gR σ l3 2 1).bind (fun x4 => (if xk σ x2 10 = true then (f_X10_multiply σ x2 x3 x4).bind (fun p5 => (gR p5 l0 0 1).bind (fun x6 => (gR p5 l3 2 0).bind (fun x7 => (gR p5 l2 2 1).bind (fun x8 => (if xk p5 x6 10 = true then (f_X10_multiply p5 x6 x7 x8).bind (fun p9 => (gR p9 l0 0 2).bind (fun x10 => (gR p9 l2 2 1).bind (fun x11 => (gR p9 l3 2 1).bind (fun x12 => (if xk p9 x10 10 = true then (f_X10_multiply p9 x10 x11 x12).bind (fun p13 => (gR p13 l1 2 1).bind (fun x14 => (gR p13 l0 0 2).bind (fun x15 => (if xk p13 x14 10 = true then (f_X10_copy p13 x14 x15).bind (fun p16 => (gR p16 l1 2 0).bind (fun x17 => (gR p16 l0 0 0).bind (fun x18 => (gR p16 l0 0 1).bind (fun x19 => (if xk p16 x17 10 = true then (f_X10_sum p16 x17 x18 x19 l4).bind (fun p20 => some p20) else none))))) else none)))) else none))))) else none))))) else none))))
set_option maxHeartbeats 4000000 in
set_option maxRecDepth 20000 in
theorem L_X0_sum_j51 {G : xG} {π : Nat → Nat} {d C Z : Nat} {Q : xQ} (σ : xM) (l0 : Nat) (l1 : Nat) (l2 : Nat) (l3 : Nat) (l4 : Int32) {x : xM} (hf : f_X0_sum_j51 σ l0 l1 l2 l3 l4 = some x) (hR : ∀ g, x = g → Q (.inl none) (g) π) : xMach G π J_X0_sum (d + 2) C Z 51 [(0, .ref l0), (1, .ref l1), (2, .ref l2), (3, .ref l3), (4, .int l4)] [] σ Q := by
  unfold f_X0_sum_j51 at hf
  refine xm_aload_n dX0_sum_51 rfl ?_
  refine xb_getR (a := l0) (c := 0) (k := 0) dX0_sum_52 xcl0 (by decide) xw_58 rfl hf (fun x2 ex2 hf => ?_)
  refine xm_aload_n dX0_sum_55 rfl ?_
  refine xb_getR (a := l2) (c := 2) (k := 0) dX0_sum_56 xcl2 (by decide) xw_257 rfl hf (fun x3 ex3 hf => ?_)
  refine xm_aload_n dX0_sum_59 rfl ?_
  refine xb_getR (a := l3) (c := 2) (k := 1) dX0_sum_60 xcl2 (by decide) xw_262 rfl hf (fun x4 ex4 hf => ?_)
  refine xb_if hf (fun hb hf => ?_) (fun _ q => nomatch q)
  obtain ⟨p5, ep5, hf⟩ := xbind hf
  refine xb_callV (As := [.ref x3, .ref x4]) (v0 := none) (τ0 := p5) dX0_sum_63 (xc_X10_multiply _ _) xcl10 xw_1056 xw_1057 xw_1058 hb rfl (Nat.le_of_ble_eq_true rfl) rfl (Nat.le_of_ble_eq_true rfl) (fun Q1 hq => m_X10_multiply (d := d + 0) ep5 (fun g hg => by subst hg; exact hq)) ?_
  refine xm_aload_n dX0_sum_66 rfl ?_
  refine xb_getR (a := l0) (c := 0) (k := 1) dX0_sum_67 xcl0 (by decide) xw_59 rfl hf (fun x6 ex6 hf => ?_)
  refine xm_aload_n dX0_sum_70 rfl ?_
  refine xb_getR (a := l3) (c := 2) (k := 0) dX0_sum_71 xcl2 (by decide) xw_257 rfl hf (fun x7 ex7 hf => ?_)
  refine xm_aload_n dX0_sum_74 rfl ?_
  refine xb_getR (a := l2) (c := 2) (k := 1) dX0_sum_75 xcl2 (by decide) xw_262 rfl hf (fun x8 ex8 hf => ?_)
  refine xb_if hf (fun hb hf => ?_) (fun _ q => nomatch q)
  obtain ⟨p9, ep9, hf⟩ := xbind hf
  refine xb_callV (As := [.ref x7, .ref x8]) (v0 := none) (τ0 := p9) dX0_sum_78 (xc_X10_multiply _ _) xcl10 xw_1056 xw_1057 xw_1058 hb rfl (Nat.le_of_ble_eq_true rfl) rfl (Nat.le_of_ble_eq_true rfl) (fun Q1 hq => m_X10_multiply (d := d + 0) ep9 (fun g hg => by subst hg; exact hq)) ?_
  refine xm_aload_n dX0_sum_81 rfl ?_
  refine xb_getR (a := l0) (c := 0) (k := 2) dX0_sum_82 xcl0 (by decide) xw_60 rfl hf (fun x10 ex10 hf => ?_)
  refine xm_aload_n dX0_sum_85 rfl ?_
  refine xb_getR (a := l2) (c := 2) (k := 1) dX0_sum_86 xcl2 (by decide) xw_262 rfl hf (fun x11 ex11 hf => ?_)
  refine xm_aload_n dX0_sum_89 rfl ?_
  refine xb_getR (a := l3) (c := 2) (k := 1) dX0_sum_90 xcl2 (by decide) xw_262 rfl hf (fun x12 ex12 hf => ?_)
  refine xb_if hf (fun hb hf => ?_) (fun _ q => nomatch q)
  obtain ⟨p13, ep13, hf⟩ := xbind hf
  refine xb_callV (As := [.ref x11, .ref x12]) (v0 := none) (τ0 := p13) dX0_sum_93 (xc_X10_multiply _ _) xcl10 xw_1056 xw_1057 xw_1058 hb rfl (Nat.le_of_ble_eq_true rfl) rfl (Nat.le_of_ble_eq_true rfl) (fun Q1 hq => m_X10_multiply (d := d + 0) ep13 (fun g hg => by subst hg; exact hq)) ?_
  refine xm_aload_n dX0_sum_96 rfl ?_
  refine xb_getR (a := l1) (c := 2) (k := 1) dX0_sum_97 xcl2 (by decide) xw_262 rfl hf (fun x14 ex14 hf => ?_)
  refine xm_aload_n dX0_sum_100 rfl ?_
  refine xb_getR (a := l0) (c := 0) (k := 2) dX0_sum_101 xcl0 (by decide) xw_60 rfl hf (fun x15 ex15 hf => ?_)
  refine xb_if hf (fun hb hf => ?_) (fun _ q => nomatch q)
  obtain ⟨p16, ep16, hf⟩ := xbind hf
  refine xb_callV (As := [.ref x15]) (v0 := none) (τ0 := p16) dX0_sum_104 (xc_X10_copy _ _) xcl10 xw_1054 xw_969 xw_970 hb rfl (Nat.le_of_ble_eq_true rfl) rfl (Nat.le_of_ble_eq_true rfl) (fun Q1 hq => m_X10_copy (d := d + 0) ep16 (fun g hg => by subst hg; exact hq)) ?_
  refine xm_aload_n dX0_sum_107 rfl ?_
  refine xb_getR (a := l1) (c := 2) (k := 0) dX0_sum_108 xcl2 (by decide) xw_257 rfl hf (fun x17 ex17 hf => ?_)
  refine xm_aload_n dX0_sum_111 rfl ?_
  refine xb_getR (a := l0) (c := 0) (k := 0) dX0_sum_112 xcl0 (by decide) xw_58 rfl hf (fun x18 ex18 hf => ?_)
  refine xm_aload_n dX0_sum_115 rfl ?_
  refine xb_getR (a := l0) (c := 0) (k := 1) dX0_sum_116 xcl0 (by decide) xw_59 rfl hf (fun x19 ex19 hf => ?_)
  refine xm_iload dX0_sum_119 rfl ?_
  refine xb_if hf (fun hb hf => ?_) (fun _ q => nomatch q)
  obtain ⟨p20, ep20, hf⟩ := xbind hf
  refine xb_callV (As := [.ref x18, .ref x19, .int l4]) (v0 := none) (τ0 := p20) dX0_sum_121 (xc_X10_sum _ _) xcl10 xw_1042 xw_1043 xw_1044 hb rfl (Nat.le_of_ble_eq_true rfl) rfl (Nat.le_of_ble_eq_true rfl) (fun Q1 hq => m_X10_sum (d := d + 0) ep20 (fun g hg => by subst hg; exact hq)) ?_
  cases hf
  exact xm_vret dX0_sum_124 rfl (hR _ rfl)
def f_X0_sum (σ : xM) (l0 : Nat) (l1 : Nat) (l2 : Nat) (l3 : Nat) (l4 : Int32) : Option xM :=
  (if xk σ l2 2 = true then (f_X2_isWhole σ l2).bind (fun p1 => (if p1 = (0 : Int32) then f_X0_sum_j51 σ l0 l1 l2 l3 l4 else (if xk σ l3 2 = true then (f_X2_isWhole σ l3).bind (fun p21 => (if p21 = (0 : Int32) then f_X0_sum_j51 σ l0 l1 l2 l3 l4 else (gR σ l0 0 0).bind (fun x22 => (gR σ l2 2 0).bind (fun x23 => (gR σ l3 2 0).bind (fun x24 => (if xk σ x22 10 = true then (f_X10_sum σ x22 x23 x24 l4).bind (fun p25 => (gR p25 l1 2 0).bind (fun x26 => (gR p25 l0 0 0).bind (fun x27 => (if xk p25 x26 10 = true then (f_X10_copy p25 x26 x27).bind (fun p28 => (gR p28 l1 2 1).bind (fun x29 => (if xk p28 x29 10 = true then (f_X10_set p28 x29 (1 : Int64)).bind (fun p30 => some p30) else none))) else none)))) else none)))))) else none))) else none)
set_option maxHeartbeats 4000000 in
set_option maxRecDepth 20000 in
theorem m_X0_sum {G : xG} {π : Nat → Nat} {d C Z : Nat} {Q : xQ} {σ : xM} {l0 : Nat} {l1 : Nat} {l2 : Nat} {l3 : Nat} {l4 : Int32} {x : xM} (hf : f_X0_sum σ l0 l1 l2 l3 l4 = some x) (hR : ∀ g, x = g → Q (.inl none) (g) π) : xMach G π J_X0_sum (d + 2) C Z 0 (lv_args 0 [.ref l0, .ref l1, .ref l2, .ref l3, .int l4]) [] σ Q := by
  unfold f_X0_sum at hf
  refine xm_stL (L' := [(0, .ref l0), (1, .ref l1), (2, .ref l2), (3, .ref l3), (4, .int l4)]) rfl ?_
  refine xm_aload_n dX0_sum_0 rfl ?_
  refine xb_if hf (fun hb hf => ?_) (fun _ q => nomatch q)
  obtain ⟨p1, ep1, hf⟩ := xbind hf
  refine xb_callV (As := []) (v0 := (some (.int p1))) (τ0 := σ) dX0_sum_1 (xc_X2_isWhole _ _) xcl2 xw_1041 xw_1030 xw_1031 hb rfl (Nat.le_of_ble_eq_true rfl) rfl (Nat.le_of_ble_eq_true rfl) (fun Q1 hq => m_X2_isWhole (d := d + 0) ep1 (fun g hg => by subst hg; exact hq)) ?_
  refine xb_if_eq 51 dX0_sum_4 (by decide) hf (fun c hf => ?_) (fun c hf => ?_)
  · exact xm_sub [0, 1, 2, 3, 4] rfl (L_X0_sum_j51 σ l0 l1 l2 l3 l4 hf hR)
  · refine xm_aload_n dX0_sum_7 rfl ?_
    refine xb_if hf (fun hb hf => ?_) (fun _ q => nomatch q)
    obtain ⟨p21, ep21, hf⟩ := xbind hf
    refine xb_callV (As := []) (v0 := (some (.int p21))) (τ0 := σ) dX0_sum_8 (xc_X2_isWhole _ _) xcl2 xw_1041 xw_1030 xw_1031 hb rfl (Nat.le_of_ble_eq_true rfl) rfl (Nat.le_of_ble_eq_true rfl) (fun Q1 hq => m_X2_isWhole (d := d + 0) ep21 (fun g hg => by subst hg; exact hq)) ?_
    refine xb_if_eq 51 dX0_sum_11 (by decide) hf (fun c hf => ?_) (fun c hf => ?_)
    · exact xm_sub [0, 1, 2, 3, 4] rfl (L_X0_sum_j51 σ l0 l1 l2 l3 l4 hf hR)
    · refine xm_aload_n dX0_sum_14 rfl ?_
      refine xb_getR (a := l0) (c := 0) (k := 0) dX0_sum_15 xcl0 (by decide) xw_58 rfl hf (fun x22 ex22 hf => ?_)
      refine xm_aload_n dX0_sum_18 rfl ?_
      refine xb_getR (a := l2) (c := 2) (k := 0) dX0_sum_19 xcl2 (by decide) xw_257 rfl hf (fun x23 ex23 hf => ?_)
      refine xm_aload_n dX0_sum_22 rfl ?_
      refine xb_getR (a := l3) (c := 2) (k := 0) dX0_sum_23 xcl2 (by decide) xw_257 rfl hf (fun x24 ex24 hf => ?_)
      refine xm_iload dX0_sum_26 rfl ?_
      refine xb_if hf (fun hb hf => ?_) (fun _ q => nomatch q)
      obtain ⟨p25, ep25, hf⟩ := xbind hf
      refine xb_callV (As := [.ref x23, .ref x24, .int l4]) (v0 := none) (τ0 := p25) dX0_sum_28 (xc_X10_sum _ _) xcl10 xw_1042 xw_1043 xw_1044 hb rfl (Nat.le_of_ble_eq_true rfl) rfl (Nat.le_of_ble_eq_true rfl) (fun Q1 hq => m_X10_sum (d := d + 0) ep25 (fun g hg => by subst hg; exact hq)) ?_
      refine xm_aload_n dX0_sum_31 rfl ?_
      refine xb_getR (a := l1) (c := 2) (k := 0) dX0_sum_32 xcl2 (by decide) xw_257 rfl hf (fun x26 ex26 hf => ?_)
      refine xm_aload_n dX0_sum_35 rfl ?_
      refine xb_getR (a := l0) (c := 0) (k := 0) dX0_sum_36 xcl0 (by decide) xw_58 rfl hf (fun x27 ex27 hf => ?_)
      refine xb_if hf (fun hb hf => ?_) (fun _ q => nomatch q)
      obtain ⟨p28, ep28, hf⟩ := xbind hf
      refine xb_callV (As := [.ref x27]) (v0 := none) (τ0 := p28) dX0_sum_39 (xc_X10_copy _ _) xcl10 xw_1054 xw_969 xw_970 hb rfl (Nat.le_of_ble_eq_true rfl) rfl (Nat.le_of_ble_eq_true rfl) (fun Q1 hq => m_X10_copy (d := d + 0) ep28 (fun g hg => by subst hg; exact hq)) ?_
      refine xm_aload_n dX0_sum_42 rfl ?_
      refine xb_getR (a := l1) (c := 2) (k := 1) dX0_sum_43 xcl2 (by decide) xw_262 rfl hf (fun x29 ex29 hf => ?_)
      refine xm_lconst dX0_sum_46 (v := 1) (by decide) ?_
      refine xb_if hf (fun hb hf => ?_) (fun _ q => nomatch q)
      obtain ⟨p30, ep30, hf⟩ := xbind hf
      refine xb_callV (As := [.long (1 : Int64)]) (v0 := none) (τ0 := p30) dX0_sum_47 (xc_X10_set _ _) xcl10 xw_1055 xw_252 xw_253 hb rfl (Nat.le_of_ble_eq_true rfl) rfl (Nat.le_of_ble_eq_true rfl) (fun Q1 hq => m_X10_set (d := d + 1) ep30 (fun g hg => by subst hg; exact hq)) ?_
      cases hf
      exact xm_vret dX0_sum_50 rfl (hR _ rfl)
-- Rankwise$Arithmetic.commonDivisor(JJ)J
def f_X0_commonDivisor_s9 (σ : xM) (s : (Int64 × Int64 × Int32)) : Option (Int64 ⊕ ((Int64) ⊕ (Int64 × Int64 × Int32))) :=
  xlet s.1 (fun l4 => xlet s.2.1 (fun l6 => xlet s.2.2 (fun l8 => (if (100000 : Int32) ≤ l8 then some (Sum.inr (Sum.inl l4)) else (if (lg_cmp l6 (0 : Int64)) ≤ (0 : Int32) then some (Sum.inr (Sum.inl l4)) else (if l6 = 0 then none else xlet (l4 - l4 / l6 * l6) (fun v2 => xlet (l8 + (1 : Int32)) (fun v3 => some (Sum.inr (Sum.inr (l6, v2, v3)))))))))))
set_option maxHeartbeats 4000000 in
set_option maxRecDepth 20000 in
theorem L_X0_commonDivisor_s9 {G : xG} {π : Nat → Nat} {d C Z : Nat} {Q : xQ} (σ : xM) (l4 : Int64) (l6 : Int64) (l8 : Int32) {x : (Int64 ⊕ ((Int64) ⊕ (Int64 × Int64 × Int32)))} (hf : f_X0_commonDivisor_s9 σ (l4, l6, l8) = some x) (hR : ∀ g, x = Sum.inl (g) → Q (.inl (some (.long g))) (σ) π) (hE : ∀ e : (Int64), x = Sum.inr (Sum.inl e) → xMach G π J_X0_commonDivisor (d + 0) C Z 44 [(4, .long e)] [] σ Q) (hC : ∀ e : (Int64 × Int64 × Int32), x = Sum.inr (Sum.inr e) → xMach G π J_X0_commonDivisor (d + 0) C Z 9 [(4, .long e.1), (6, .long e.2.1), (8, .int e.2.2)] [] σ Q) : xMach G π J_X0_commonDivisor (d + 0) C Z 9 [(4, .long l4), (6, .long l6), (8, .int l8)] [] σ Q := by
  have hf : (if (100000 : Int32) ≤ l8 then some (Sum.inr (Sum.inl l4)) else (if (lg_cmp l6 (0 : Int64)) ≤ (0 : Int32) then some (Sum.inr (Sum.inl l4)) else (if l6 = 0 then none else xlet (l4 - l4 / l6 * l6) (fun v2 => xlet (l8 + (1 : Int32)) (fun v3 => some (Sum.inr (Sum.inr (l6, v2, v3)))))))) = some x := hf
  refine xm_iload dX0_commonDivisor_9 rfl ?_
  refine xm_ldc dX0_commonDivisor_11 (xws_in xw_1091) ?_
  refine xb_icmp_ge 44 dX0_commonDivisor_13 (by decide) hf (fun c hf => ?_) (fun c hf => ?_)
  · cases hf
    exact xm_sub [0] rfl (hE _ rfl)
  · refine xm_lload dX0_commonDivisor_16 rfl ?_
    refine xm_lconst dX0_commonDivisor_18 (v := 0) (by decide) ?_
    refine xm_lcmp dX0_commonDivisor_19 ?_
    refine xb_if_le 44 dX0_commonDivisor_20 (by decide) hf (fun c hf => ?_) (fun c hf => ?_)
    · cases hf
      exact xm_sub [0] rfl (hE _ rfl)
    · refine xm_lload dX0_commonDivisor_23 rfl ?_
      refine xm_lload dX0_commonDivisor_25 rfl ?_
      refine xb_lrem dX0_commonDivisor_27 hf (fun c hf => ?_)
      refine xb_topl hf (fun v2 ev2 hf => ?_)
      refine xm_lstore dX0_commonDivisor_28 (by decide) (xm_stL (L' := [(9, .long v2), (4, .long l4), (6, .long l6), (8, .int l8)]) rfl ?_)
      refine xm_lload dX0_commonDivisor_30 rfl ?_
      refine xm_lstore dX0_commonDivisor_32 (by decide) (xm_stL (L' := [(4, .long l6), (9, .long v2), (6, .long l6), (8, .int l8)]) rfl ?_)
      refine xm_lload dX0_commonDivisor_34 rfl ?_
      refine xm_lstore dX0_commonDivisor_36 (by decide) (xm_stL (L' := [(6, .long v2), (4, .long l6), (9, .long v2), (8, .int l8)]) rfl ?_)
      refine xb_iinc dX0_commonDivisor_38 rfl (by decide) (by decide) hf (fun v3 ev3 hf => xm_stL (L' := [(8, .int v3), (6, .long v2), (4, .long l6), (9, .long v2)]) rfl ?_)
      refine xm_goto 9 dX0_commonDivisor_41 (by decide) ?_
      cases hf
      exact xm_sub [2, 1, 0] rfl (hC _ rfl)
theorem L_X0_commonDivisor_l9 {G : xG} {π : Nat → Nat} {d C Z : Nat} {Q : xQ} (σ : xM) {s0 : (Int64 × Int64 × Int32)} {x : (Int64 ⊕ (Int64))} (h1 : xloop (f_X0_commonDivisor_s9 σ) xF s0 = some x) (hR : ∀ g, x = Sum.inl g → Q (.inl (some (.long g))) (σ) π) (hE : ∀ e : (Int64), x = Sum.inr e → xMach G π J_X0_commonDivisor (d + 0) C Z 44 [(4, .long e)] [] σ Q) : xMach G π J_X0_commonDivisor (d + 0) C Z 9 [(4, .long s0.1), (6, .long s0.2.1), (8, .int s0.2.2)] [] σ Q := by
  refine xloop_run (M := (fun s : (Int64 × Int64 × Int32) => xMach G π J_X0_commonDivisor (d + 0) C Z 9 [(4, .long s.1), (6, .long s.2.1), (8, .int s.2.2)] [] σ Q)) (r := x) ?_ xF _ h1
  intro s y hs hx
  exact L_X0_commonDivisor_s9 σ s.1 s.2.1 s.2.2 (x := y) hs (fun g hg => by subst hg; exact hR g hx) (fun e he => by subst he; exact hE e hx) (fun e he => by subst he; exact hx)
def f_X0_commonDivisor_j44 (σ : xM) (l4 : Int64) : Option Int64 :=
  some l4
set_option maxHeartbeats 4000000 in
set_option maxRecDepth 20000 in
theorem L_X0_commonDivisor_j44 {G : xG} {π : Nat → Nat} {d C Z : Nat} {Q : xQ} (σ : xM) (l4 : Int64) {x : Int64} (hf : f_X0_commonDivisor_j44 σ l4 = some x) (hR : ∀ g, x = g → Q (.inl (some (.long g))) (σ) π) : xMach G π J_X0_commonDivisor (d + 0) C Z 44 [(4, .long l4)] [] σ Q := by
  unfold f_X0_commonDivisor_j44 at hf
  refine xm_lload dX0_commonDivisor_44 rfl ?_
  cases hf
  exact xm_lret dX0_commonDivisor_46 rfl (hR _ rfl)
def f_X0_commonDivisor (σ : xM) (l0 : Int64) (l2 : Int64) : Option Int64 :=
  xlet (0 : Int32) (fun v1 => (xloop (f_X0_commonDivisor_s9 σ ) xF (l0, l2, v1)).bind (Sum.elim (fun g => some g) (fun e => f_X0_commonDivisor_j44 σ e)))
set_option maxHeartbeats 4000000 in
set_option maxRecDepth 20000 in
theorem m_X0_commonDivisor {G : xG} {π : Nat → Nat} {d C Z : Nat} {Q : xQ} {σ : xM} {l0 : Int64} {l2 : Int64} {x : Int64} (hf : f_X0_commonDivisor σ l0 l2 = some x) (hR : ∀ g, x = g → Q (.inl (some (.long g))) (σ) π) : xMach G π J_X0_commonDivisor (d + 0) C Z 0 (lv_args 0 [.long l0, .long l2]) [] σ Q := by
  unfold f_X0_commonDivisor at hf
  refine xm_stL (L' := [(0, .long l0), (2, .long l2)]) rfl ?_
  refine xm_lload_n dX0_commonDivisor_0 rfl ?_
  refine xm_lstore dX0_commonDivisor_1 (by decide) (xm_stL (L' := [(4, .long l0), (0, .long l0), (2, .long l2)]) rfl ?_)
  refine xm_lload_n dX0_commonDivisor_3 rfl ?_
  refine xm_lstore dX0_commonDivisor_4 (by decide) (xm_stL (L' := [(6, .long l2), (4, .long l0), (0, .long l0), (2, .long l2)]) rfl ?_)
  refine xm_iconst dX0_commonDivisor_6 (v := 0) (by decide) ?_
  refine xb_topi hf (fun v1 ev1 hf => ?_)
  refine xm_istore dX0_commonDivisor_7 (by decide) (xm_stL (L' := [(8, .int v1), (6, .long l2), (4, .long l0), (0, .long l0), (2, .long l2)]) rfl ?_)
  obtain ⟨o, h1, hf⟩ := xbind hf
  refine xm_sub [2, 1, 0] rfl (L_X0_commonDivisor_l9 σ h1 (fun g hg => ?_) (fun e he => ?_))
  · subst hg
    cases hf
    exact hR _ rfl
  · subst he
    rw [Sum.elim_inr] at hf
    have hf : f_X0_commonDivisor_j44 σ e = some _ := hf
    exact xm_sub [0] rfl (L_X0_commonDivisor_j44 σ e hf hR)
-- Rankwise$Arithmetic.settle(LRankwise$Fraction;)V
def f_X0_settle_j94 (σ : xM) (l0 : Nat) (l1 : Nat) (l2 : Nat) (l3 : Nat) (l4 : Int32) : Option (xM ⊕ ((Nat × Nat × Nat × Nat × xM) ⊕ (Nat × Nat × Nat × Nat × Int32 × xM))) :=
  (if xk σ l3 10 = true then (f_X10_isZero σ l3).bind (fun p13 => (if p13 = (0 : Int32) then (gR σ l0 0 2).bind (fun x14 => (if xk σ l2 10 = true then (f_X10_divideBy σ l2 l3 x14).bind (fun p15 => xlet (l4 + (1 : Int32)) (fun v16 => some (Sum.inr (Sum.inr (l0, l1, l3, l2, v16, p15))))) else none)) else some (Sum.inr (Sum.inl (l0, l1, l2, l3, σ))))) else none)
set_option maxHeartbeats 4000000 in
set_option maxRecDepth 20000 in
theorem L_X0_settle_j94 {G : xG} {π : Nat → Nat} {d C Z : Nat} {Q : xQ} (σ : xM) (l0 : Nat) (l1 : Nat) (l2 : Nat) (l3 : Nat) (l4 : Int32) {x : (xM ⊕ ((Nat × Nat × Nat × Nat × xM) ⊕ (Nat × Nat × Nat × Nat × Int32 × xM)))} (hf : f_X0_settle_j94 σ l0 l1 l2 l3 l4 = some x) (hR : ∀ g, x = Sum.inl (g) → Q (.inl none) (g) π) (hE : ∀ e : (Nat × Nat × Nat × Nat × xM), x = Sum.inr (Sum.inl e) → xMach G π J_X0_settle (d + 2) C Z 124 [(0, .ref e.1), (1, .ref e.2.1), (2, .ref e.2.2.1), (3, .ref e.2.2.2.1)] [] e.2.2.2.2 Q) (hC : ∀ e : (Nat × Nat × Nat × Nat × Int32 × xM), x = Sum.inr (Sum.inr e) → xMach G π J_X0_settle (d + 2) C Z 73 [(0, .ref e.1), (1, .ref e.2.1), (2, .ref e.2.2.1), (3, .ref e.2.2.2.1), (4, .int e.2.2.2.2.1)] [] e.2.2.2.2.2 Q) : xMach G π J_X0_settle (d + 2) C Z 94 [(0, .ref l0), (1, .ref l1), (2, .ref l2), (3, .ref l3), (4, .int l4)] [] σ Q := by
  unfold f_X0_settle_j94 at hf
  refine xm_aload_n dX0_settle_94 rfl ?_
  refine xb_if hf (fun hb hf => ?_) (fun _ q => nomatch q)
  obtain ⟨p13, ep13, hf⟩ := xbind hf
  refine xb_callV (As := []) (v0 := (some (.int p13))) (τ0 := σ) dX0_settle_95 (xc_X10_isZero _ _) xcl10 xw_1096 xw_994 xw_995 hb rfl (Nat.le_of_ble_eq_true rfl) rfl (Nat.le_of_ble_eq_true rfl) (fun Q1 hq => m_X10_isZero (d := d + 1) ep13 (fun g hg => by subst hg; exact hq)) ?_
  refine xb_if_ne 124 dX0_settle_98 (by decide) hf (fun c hf => ?_) (fun c hf => ?_)
  · cases hf
    exact xm_sub [0, 1, 2, 3] rfl (hE _ rfl)
  · refine xm_aload_n dX0_settle_101 rfl ?_
    refine xm_aload_n dX0_settle_102 rfl ?_
    refine xm_aload_n dX0_settle_103 rfl ?_
    refine xb_getR (a := l0) (c := 0) (k := 2) dX0_settle_104 xcl0 (by decide) xw_60 rfl hf (fun x14 ex14 hf => ?_)
    refine xb_if hf (fun hb hf => ?_) (fun _ q => nomatch q)
    obtain ⟨p15, ep15, hf⟩ := xbind hf
    refine xb_callV (As := [.ref l3, .ref x14]) (v0 := none) (τ0 := p15) dX0_settle_107 (xc_X10_divideBy _ _) xcl10 xw_1097 xw_1098 xw_1099 hb rfl (Nat.le_of_ble_eq_true rfl) rfl (Nat.le_of_ble_eq_true rfl) (fun Q1 hq => m_X10_divideBy (d := d + 0) ep15 (fun g hg => by subst hg; exact hq)) ?_
    refine xm_aload_n dX0_settle_110 rfl ?_
    refine xm_astore dX0_settle_111 (by decide) (xm_stL (L' := [(5, .ref l2), (0, .ref l0), (1, .ref l1), (2, .ref l2), (3, .ref l3), (4, .int l4)]) rfl ?_)
    refine xm_aload_n dX0_settle_113 rfl ?_
    refine xm_astore_n dX0_settle_114 (by decide) (xm_stL (L' := [(2, .ref l3), (5, .ref l2), (0, .ref l0), (1, .ref l1), (3, .ref l3), (4, .int l4)]) rfl ?_)
    refine xm_aload dX0_settle_115 rfl ?_
    refine xm_astore_n dX0_settle_117 (by decide) (xm_stL (L' := [(3, .ref l2), (2, .ref l3), (5, .ref l2), (0, .ref l0), (1, .ref l1), (4, .int l4)]) rfl ?_)
    refine xb_iinc dX0_settle_118 rfl (by decide) (by decide) hf (fun v16 ev16 hf => xm_stL (L' := [(4, .int v16), (3, .ref l2), (2, .ref l3), (5, .ref l2), (0, .ref l0), (1, .ref l1)]) rfl ?_)
    refine xm_goto 73 dX0_settle_121 (by decide) ?_
    cases hf
    exact xm_sub [4, 5, 2, 1, 0] rfl (hC _ rfl)
def f_X0_settle_s73 (s : (Nat × Nat × Nat × Nat × Int32 × xM)) : Option (xM ⊕ ((Nat × Nat × Nat × Nat × xM) ⊕ (Nat × Nat × Nat × Nat × Int32 × xM))) :=
  xlet s.1 (fun l0 => xlet s.2.1 (fun l1 => xlet s.2.2.1 (fun l2 => xlet s.2.2.2.1 (fun l3 => xlet s.2.2.2.2.1 (fun l4 => xlet s.2.2.2.2.2 (fun σ => (if (100000 : Int32) ≤ l4 then some (Sum.inr (Sum.inl (l0, l1, l2, l3, σ))) else (if xk σ l2 10 = true then (f_X10_isShort σ l2).bind (fun p12 => (if p12 = (0 : Int32) then f_X0_settle_j94 σ l0 l1 l2 l3 l4 else (if xk σ l3 10 = true then (f_X10_isShort σ l3).bind (fun p17 => (if p17 = (0 : Int32) then f_X0_settle_j94 σ l0 l1 l2 l3 l4 else some (Sum.inr (Sum.inl (l0, l1, l2, l3, σ))))) else none))) else none))))))))
set_option maxHeartbeats 4000000 in
set_option maxRecDepth 20000 in
theorem L_X0_settle_s73 {G : xG} {π : Nat → Nat} {d C Z : Nat} {Q : xQ} (σ : xM) (l0 : Nat) (l1 : Nat) (l2 : Nat) (l3 : Nat) (l4 : Int32) {x : (xM ⊕ ((Nat × Nat × Nat × Nat × xM) ⊕ (Nat × Nat × Nat × Nat × Int32 × xM)))} (hf : f_X0_settle_s73 (l0, l1, l2, l3, l4, σ) = some x) (hR : ∀ g, x = Sum.inl (g) → Q (.inl none) (g) π) (hE : ∀ e : (Nat × Nat × Nat × Nat × xM), x = Sum.inr (Sum.inl e) → xMach G π J_X0_settle (d + 2) C Z 124 [(0, .ref e.1), (1, .ref e.2.1), (2, .ref e.2.2.1), (3, .ref e.2.2.2.1)] [] e.2.2.2.2 Q) (hC : ∀ e : (Nat × Nat × Nat × Nat × Int32 × xM), x = Sum.inr (Sum.inr e) → xMach G π J_X0_settle (d + 2) C Z 73 [(0, .ref e.1), (1, .ref e.2.1), (2, .ref e.2.2.1), (3, .ref e.2.2.2.1), (4, .int e.2.2.2.2.1)] [] e.2.2.2.2.2 Q) : xMach G π J_X0_settle (d + 2) C Z 73 [(0, .ref l0), (1, .ref l1), (2, .ref l2), (3, .ref l3), (4, .int l4)] [] σ Q := by
  have hf : (if (100000 : Int32) ≤ l4 then some (Sum.inr (Sum.inl (l0, l1, l2, l3, σ))) else (if xk σ l2 10 = true then (f_X10_isShort σ l2).bind (fun p12 => (if p12 = (0 : Int32) then f_X0_settle_j94 σ l0 l1 l2 l3 l4 else (if xk σ l3 10 = true then (f_X10_isShort σ l3).bind (fun p17 => (if p17 = (0 : Int32) then f_X0_settle_j94 σ l0 l1 l2 l3 l4 else some (Sum.inr (Sum.inl (l0, l1, l2, l3, σ))))) else none))) else none)) = some x := hf
  refine xm_iload dX0_settle_73 rfl ?_
  refine xm_ldc dX0_settle_75 (xws_in xw_1091) ?_
  refine xb_icmp_ge 124 dX0_settle_77 (by decide) hf (fun c hf => ?_) (fun c hf => ?_)
  · cases hf
    exact xm_sub [0, 1, 2, 3] rfl (hE _ rfl)
  · refine xm_aload_n dX0_settle_80 rfl ?_
    refine xb_if hf (fun hb hf => ?_) (fun _ q => nomatch q)
    obtain ⟨p12, ep12, hf⟩ := xbind hf
    refine xb_callV (As := []) (v0 := (some (.int p12))) (τ0 := σ) dX0_settle_81 (xc_X10_isShort _ _) xcl10 xw_1092 xw_1093 xw_1094 hb rfl (Nat.le_of_ble_eq_true rfl) rfl (Nat.le_of_ble_eq_true rfl) (fun Q1 hq => m_X10_isShort (d := d + 1) ep12 (fun g hg => by subst hg; exact hq)) ?_
    refine xb_if_eq 94 dX0_settle_84 (by decide) hf (fun c hf => ?_) (fun c hf => ?_)
    · exact xm_sub [0, 1, 2, 3, 4] rfl (L_X0_settle_j94 σ l0 l1 l2 l3 l4 hf hR hE hC)
    · refine xm_aload_n dX0_settle_87 rfl ?_
      refine xb_if hf (fun hb hf => ?_) (fun _ q => nomatch q)
      obtain ⟨p17, ep17, hf⟩ := xbind hf
      refine xb_callV (As := []) (v0 := (some (.int p17))) (τ0 := σ) dX0_settle_88 (xc_X10_isShort _ _) xcl10 xw_1092 xw_1093 xw_1094 hb rfl (Nat.le_of_ble_eq_true rfl) rfl (Nat.le_of_ble_eq_true rfl) (fun Q1 hq => m_X10_isShort (d := d + 1) ep17 (fun g hg => by subst hg; exact hq)) ?_
      refine xb_if_ne 124 dX0_settle_91 (by decide) hf (fun c hf => ?_) (fun c hf => ?_)
      · cases hf
        exact xm_sub [0, 1, 2, 3] rfl (hE _ rfl)
      · exact xm_sub [0, 1, 2, 3, 4] rfl (L_X0_settle_j94 σ l0 l1 l2 l3 l4 hf hR hE hC)
theorem L_X0_settle_l73 {G : xG} {π : Nat → Nat} {d C Z : Nat} {Q : xQ} {s0 : (Nat × Nat × Nat × Nat × Int32 × xM)} {x : (xM ⊕ (Nat × Nat × Nat × Nat × xM))} (h1 : xloop (f_X0_settle_s73) xF s0 = some x) (hR : ∀ g, x = Sum.inl g → Q (.inl none) (g) π) (hE : ∀ e : (Nat × Nat × Nat × Nat × xM), x = Sum.inr e → xMach G π J_X0_settle (d + 2) C Z 124 [(0, .ref e.1), (1, .ref e.2.1), (2, .ref e.2.2.1), (3, .ref e.2.2.2.1)] [] e.2.2.2.2 Q) : xMach G π J_X0_settle (d + 2) C Z 73 [(0, .ref s0.1), (1, .ref s0.2.1), (2, .ref s0.2.2.1), (3, .ref s0.2.2.2.1), (4, .int s0.2.2.2.2.1)] [] s0.2.2.2.2.2 Q := by
  refine xloop_run (M := (fun s : (Nat × Nat × Nat × Nat × Int32 × xM) => xMach G π J_X0_settle (d + 2) C Z 73 [(0, .ref s.1), (1, .ref s.2.1), (2, .ref s.2.2.1), (3, .ref s.2.2.2.1), (4, .int s.2.2.2.2.1)] [] s.2.2.2.2.2 Q)) (r := x) ?_ xF _ h1
  intro s y hs hx
  exact L_X0_settle_s73 s.2.2.2.2.2 s.1 s.2.1 s.2.2.1 s.2.2.2.1 s.2.2.2.2.1 (x := y) hs (fun g hg => by subst hg; exact hR g hx) (fun e he => by subst he; exact hE e hx) (fun e he => by subst he; exact hx)
def f_X0_settle_j221 (σ : xM)  : Option xM :=
  some σ
set_option maxHeartbeats 4000000 in
set_option maxRecDepth 20000 in
theorem L_X0_settle_j221 {G : xG} {π : Nat → Nat} {d C Z : Nat} {Q : xQ} (σ : xM)  {x : xM} (hf : f_X0_settle_j221 σ = some x) (hR : ∀ g, x = g → Q (.inl none) (g) π) : xMach G π J_X0_settle (d + 2) C Z 221 [] [] σ Q := by
  unfold f_X0_settle_j221 at hf
  cases hf
  exact xm_vret dX0_settle_221 rfl (hR _ rfl)
def f_X0_settle_j146 (σ : xM) (l0 : Nat) (l1 : Nat) (l2 : Nat) : Option xM :=
  (if xk σ l2 10 = true then (f_X10_isOne σ l2).bind (fun p19 => (if p19 = (0 : Int32) then (gR σ l0 0 3).bind (fun x20 => (gR σ l1 2 0).bind (fun x21 => (if xk σ x20 10 = true then (f_X10_copy σ x20 x21).bind (fun p22 => (gR p22 l0 0 3).bind (fun x23 => (gR p22 l0 0 2).bind (fun x24 => (if xk p22 x23 10 = true then (f_X10_divideBy p22 x23 l2 x24).bind (fun p25 => (gR p25 l1 2 0).bind (fun x26 => (gR p25 l0 0 2).bind (fun x27 => (if xk p25 x26 10 = true then (f_X10_copySize p25 x26 x27).bind (fun p28 => (gR p28 l0 0 3).bind (fun x29 => (gR p28 l1 2 1).bind (fun x30 => (if xk p28 x29 10 = true then (f_X10_copy p28 x29 x30).bind (fun p31 => (gR p31 l0 0 3).bind (fun x32 => (gR p31 l0 0 2).bind (fun x33 => (if xk p31 x32 10 = true then (f_X10_divideBy p31 x32 l2 x33).bind (fun p34 => (gR p34 l1 2 1).bind (fun x35 => (gR p34 l0 0 2).bind (fun x36 => (if xk p34 x35 10 = true then (f_X10_copySize p34 x35 x36).bind (fun p37 => f_X0_settle_j221 p37) else none)))) else none)))) else none)))) else none)))) else none)))) else none))) else f_X0_settle_j221 σ)) else none)
set_option maxHeartbeats 4000000 in
set_option maxRecDepth 20000 in
theorem L_X0_settle_j146 {G : xG} {π : Nat → Nat} {d C Z : Nat} {Q : xQ} (σ : xM) (l0 : Nat) (l1 : Nat) (l2 : Nat) {x : xM} (hf : f_X0_settle_j146 σ l0 l1 l2 = some x) (hR : ∀ g, x = g → Q (.inl none) (g) π) : xMach G π J_X0_settle (d + 2) C Z 146 [(0, .ref l0), (1, .ref l1), (2, .ref l2)] [] σ Q := by
  unfold f_X0_settle_j146 at hf
  refine xm_aload_n dX0_settle_146 rfl ?_
  refine xb_if hf (fun hb hf => ?_) (fun _ q => nomatch q)
  obtain ⟨p19, ep19, hf⟩ := xbind hf
  refine xb_callV (As := []) (v0 := (some (.int p19))) (τ0 := σ) dX0_settle_147 (xc_X10_isOne _ _) xcl10 xw_1121 xw_1034 xw_1035 hb rfl (Nat.le_of_ble_eq_true rfl) rfl (Nat.le_of_ble_eq_true rfl) (fun Q1 hq => m_X10_isOne (d := d + 1) ep19 (fun g hg => by subst hg; exact hq)) ?_
  refine xb_if_ne 221 dX0_settle_150 (by decide) hf (fun c hf => ?_) (fun c hf => ?_)
  · exact xm_sub [] rfl (L_X0_settle_j221 σ hf hR)
  · refine xm_aload_n dX0_settle_153 rfl ?_
    refine xb_getR (a := l0) (c := 0) (k := 3) dX0_settle_154 xcl0 (by decide) xw_61 rfl hf (fun x20 ex20 hf => ?_)
    refine xm_aload_n dX0_settle_157 rfl ?_
    refine xb_getR (a := l1) (c := 2) (k := 0) dX0_settle_158 xcl2 (by decide) xw_257 rfl hf (fun x21 ex21 hf => ?_)
    refine xb_if hf (fun hb hf => ?_) (fun _ q => nomatch q)
    obtain ⟨p22, ep22, hf⟩ := xbind hf
    refine xb_callV (As := [.ref x21]) (v0 := none) (τ0 := p22) dX0_settle_161 (xc_X10_copy _ _) xcl10 xw_1054 xw_969 xw_970 hb rfl (Nat.le_of_ble_eq_true rfl) rfl (Nat.le_of_ble_eq_true rfl) (fun Q1 hq => m_X10_copy (d := d + 0) ep22 (fun g hg => by subst hg; exact hq)) ?_
    refine xm_aload_n dX0_settle_164 rfl ?_
    refine xb_getR (a := l0) (c := 0) (k := 3) dX0_settle_165 xcl0 (by decide) xw_61 rfl hf (fun x23 ex23 hf => ?_)
    refine xm_aload_n dX0_settle_168 rfl ?_
    refine xm_aload_n dX0_settle_169 rfl ?_
    refine xb_getR (a := l0) (c := 0) (k := 2) dX0_settle_170 xcl0 (by decide) xw_60 rfl hf (fun x24 ex24 hf => ?_)
    refine xb_if hf (fun hb hf => ?_) (fun _ q => nomatch q)
    obtain ⟨p25, ep25, hf⟩ := xbind hf
    refine xb_callV (As := [.ref l2, .ref x24]) (v0 := none) (τ0 := p25) dX0_settle_173 (xc_X10_divideBy _ _) xcl10 xw_1097 xw_1098 xw_1099 hb rfl (Nat.le_of_ble_eq_true rfl) rfl (Nat.le_of_ble_eq_true rfl) (fun Q1 hq => m_X10_divideBy (d := d + 0) ep25 (fun g hg => by subst hg; exact hq)) ?_
    refine xm_aload_n dX0_settle_176 rfl ?_
    refine xb_getR (a := l1) (c := 2) (k := 0) dX0_settle_177 xcl2 (by decide) xw_257 rfl hf (fun x26 ex26 hf => ?_)
    refine xm_aload_n dX0_settle_180 rfl ?_
    refine xb_getR (a := l0) (c := 0) (k := 2) dX0_settle_181 xcl0 (by decide) xw_60 rfl hf (fun x27 ex27 hf => ?_)
    refine xb_if hf (fun hb hf => ?_) (fun _ q => nomatch q)
    obtain ⟨p28, ep28, hf⟩ := xbind hf
    refine xb_callV (As := [.ref x27]) (v0 := none) (τ0 := p28) dX0_settle_184 (xc_X10_copySize _ _) xcl10 xw_1122 xw_973 xw_974 hb rfl (Nat.le_of_ble_eq_true rfl) rfl (Nat.le_of_ble_eq_true rfl) (fun Q1 hq => m_X10_copySize (d := d + 1) ep28 (fun g hg => by subst hg; exact hq)) ?_
    refine xm_aload_n dX0_settle_187 rfl ?_
    refine xb_getR (a := l0) (c := 0) (k := 3) dX0_settle_188 xcl0 (by decide) xw_61 rfl hf (fun x29 ex29 hf => ?_)
    refine xm_aload_n dX0_settle_191 rfl ?_
    refine xb_getR (a := l1) (c := 2) (k := 1) dX0_settle_192 xcl2 (by decide) xw_262 rfl hf (fun x30 ex30 hf => ?_)
    refine xb_if hf (fun hb hf => ?_) (fun _ q => nomatch q)
    obtain ⟨p31, ep31, hf⟩ := xbind hf
    refine xb_callV (As := [.ref x30]) (v0 := none) (τ0 := p31) dX0_settle_195 (xc_X10_copy _ _) xcl10 xw_1054 xw_969 xw_970 hb rfl (Nat.le_of_ble_eq_true rfl) rfl (Nat.le_of_ble_eq_true rfl) (fun Q1 hq => m_X10_copy (d := d + 0) ep31 (fun g hg => by subst hg; exact hq)) ?_
    refine xm_aload_n dX0_settle_198 rfl ?_
    refine xb_getR (a := l0) (c := 0) (k := 3) dX0_settle_199 xcl0 (by decide) xw_61 rfl hf (fun x32 ex32 hf => ?_)
    refine xm_aload_n dX0_settle_202 rfl ?_
    refine xm_aload_n dX0_settle_203 rfl ?_
    refine xb_getR (a := l0) (c := 0) (k := 2) dX0_settle_204 xcl0 (by decide) xw_60 rfl hf (fun x33 ex33 hf => ?_)
    refine xb_if hf (fun hb hf => ?_) (fun _ q => nomatch q)
    obtain ⟨p34, ep34, hf⟩ := xbind hf
    refine xb_callV (As := [.ref l2, .ref x33]) (v0 := none) (τ0 := p34) dX0_settle_207 (xc_X10_divideBy _ _) xcl10 xw_1097 xw_1098 xw_1099 hb rfl (Nat.le_of_ble_eq_true rfl) rfl (Nat.le_of_ble_eq_true rfl) (fun Q1 hq => m_X10_divideBy (d := d + 0) ep34 (fun g hg => by subst hg; exact hq)) ?_
    refine xm_aload_n dX0_settle_210 rfl ?_
    refine xb_getR (a := l1) (c := 2) (k := 1) dX0_settle_211 xcl2 (by decide) xw_262 rfl hf (fun x35 ex35 hf => ?_)
    refine xm_aload_n dX0_settle_214 rfl ?_
    refine xb_getR (a := l0) (c := 0) (k := 2) dX0_settle_215 xcl0 (by decide) xw_60 rfl hf (fun x36 ex36 hf => ?_)
    refine xb_if hf (fun hb hf => ?_) (fun _ q => nomatch q)
    obtain ⟨p37, ep37, hf⟩ := xbind hf
    refine xb_callV (As := [.ref x36]) (v0 := none) (τ0 := p37) dX0_settle_218 (xc_X10_copySize _ _) xcl10 xw_1122 xw_973 xw_974 hb rfl (Nat.le_of_ble_eq_true rfl) rfl (Nat.le_of_ble_eq_true rfl) (fun Q1 hq => m_X10_copySize (d := d + 1) ep37 (fun g hg => by subst hg; exact hq)) ?_
    exact xm_sub [] rfl (L_X0_settle_j221 p37 hf hR)
def f_X0_settle_j124 (σ : xM) (l0 : Nat) (l1 : Nat) (l2 : Nat) (l3 : Nat) : Option xM :=
  (if xk σ l3 10 = true then (f_X10_isZero σ l3).bind (fun p18 => (if p18 = (0 : Int32) then (if xk σ l2 10 = true then (f_X10_shortSize σ l2).bind (fun p38 => (if xk σ l3 10 = true then (f_X10_shortSize σ l3).bind (fun p39 => (f_X0_commonDivisor σ p38 p39).bind (fun p40 => (if xk σ l2 10 = true then (f_X10_set σ l2 p40).bind (fun p41 => f_X0_settle_j146 p41 l0 l1 l2) else none))) else none)) else none) else f_X0_settle_j146 σ l0 l1 l2)) else none)
set_option maxHeartbeats 4000000 in
set_option maxRecDepth 20000 in
theorem L_X0_settle_j124 {G : xG} {π : Nat → Nat} {d C Z : Nat} {Q : xQ} (σ : xM) (l0 : Nat) (l1 : Nat) (l2 : Nat) (l3 : Nat) {x : xM} (hf : f_X0_settle_j124 σ l0 l1 l2 l3 = some x) (hR : ∀ g, x = g → Q (.inl none) (g) π) : xMach G π J_X0_settle (d + 2) C Z 124 [(0, .ref l0), (1, .ref l1), (2, .ref l2), (3, .ref l3)] [] σ Q := by
  unfold f_X0_settle_j124 at hf
  refine xm_aload_n dX0_settle_124 rfl ?_
  refine xb_if hf (fun hb hf => ?_) (fun _ q => nomatch q)
  obtain ⟨p18, ep18, hf⟩ := xbind hf
  refine xb_callV (As := []) (v0 := (some (.int p18))) (τ0 := σ) dX0_settle_125 (xc_X10_isZero _ _) xcl10 xw_1096 xw_994 xw_995 hb rfl (Nat.le_of_ble_eq_true rfl) rfl (Nat.le_of_ble_eq_true rfl) (fun Q1 hq => m_X10_isZero (d := d + 1) ep18 (fun g hg => by subst hg; exact hq)) ?_
  refine xb_if_ne 146 dX0_settle_128 (by decide) hf (fun c hf => ?_) (fun c hf => ?_)
  · exact xm_sub [0, 1, 2] rfl (L_X0_settle_j146 σ l0 l1 l2 hf hR)
  · refine xm_aload_n dX0_settle_131 rfl ?_
    refine xm_aload_n dX0_settle_132 rfl ?_
    refine xb_if hf (fun hb hf => ?_) (fun _ q => nomatch q)
    obtain ⟨p38, ep38, hf⟩ := xbind hf
    refine xb_callV (As := []) (v0 := (some (.long p38))) (τ0 := σ) dX0_settle_133 (xc_X10_shortSize _ _) xcl10 xw_1114 xw_1115 xw_1116 hb rfl (Nat.le_of_ble_eq_true rfl) rfl (Nat.le_of_ble_eq_true rfl) (fun Q1 hq => m_X10_shortSize (d := d + 1) ep38 (fun g hg => by subst hg; exact hq)) ?_
    refine xm_aload_n dX0_settle_136 rfl ?_
    refine xb_if hf (fun hb hf => ?_) (fun _ q => nomatch q)
    obtain ⟨p39, ep39, hf⟩ := xbind hf
    refine xb_callV (As := []) (v0 := (some (.long p39))) (τ0 := σ) dX0_settle_137 (xc_X10_shortSize _ _) xcl10 xw_1114 xw_1115 xw_1116 hb rfl (Nat.le_of_ble_eq_true rfl) rfl (Nat.le_of_ble_eq_true rfl) (fun Q1 hq => m_X10_shortSize (d := d + 1) ep39 (fun g hg => by subst hg; exact hq)) ?_
    obtain ⟨p40, ep40, hf⟩ := xbind hf
    refine xb_callS (As := [.long p38, .long p39]) (v0 := (some (.long p40))) (τ0 := σ) dX0_settle_140 (xc_X0_commonDivisor _ _) xw_1118 xw_1119 rfl (Nat.le_of_ble_eq_true rfl) rfl (Nat.le_of_ble_eq_true rfl) (fun Q1 hq => m_X0_commonDivisor (d := d + 1) ep40 (fun g hg => by subst hg; exact hq)) ?_
    refine xb_if hf (fun hb hf => ?_) (fun _ q => nomatch q)
    obtain ⟨p41, ep41, hf⟩ := xbind hf
    refine xb_callV (As := [.long p40]) (v0 := none) (τ0 := p41) dX0_settle_143 (xc_X10_set _ _) xcl10 xw_1055 xw_252 xw_253 hb rfl (Nat.le_of_ble_eq_true rfl) rfl (Nat.le_of_ble_eq_true rfl) (fun Q1 hq => m_X10_set (d := d + 1) ep41 (fun g hg => by subst hg; exact hq)) ?_
    exact xm_sub [0, 1, 2] rfl (L_X0_settle_j146 p41 l0 l1 l2 hf hR)
def f_X0_settle_j36 (σ : xM) (l0 : Nat) (l1 : Nat) : Option xM :=
  (if xk σ l1 2 = true then (f_X2_isWhole σ l1).bind (fun p4 => (if p4 = (0 : Int32) then (gR σ l0 0 0).bind (fun x5 => (gR σ l0 0 1).bind (fun x6 => (gR σ l1 2 0).bind (fun x7 => (if xk σ x5 10 = true then (f_X10_copy σ x5 x7).bind (fun p8 => (gR p8 l1 2 1).bind (fun x9 => (if xk p8 x6 10 = true then (f_X10_copy p8 x6 x9).bind (fun p10 => xlet (0 : Int32) (fun v11 => (xloop (f_X0_settle_s73 ) xF (l0, l1, x5, x6, v11, p10)).bind (Sum.elim (fun g => some g) (fun e => f_X0_settle_j124 e.2.2.2.2 e.1 e.2.1 e.2.2.1 e.2.2.2.1)))) else none))) else none)))) else some σ)) else none)
set_option maxHeartbeats 4000000 in
set_option maxRecDepth 20000 in
theorem L_X0_settle_j36 {G : xG} {π : Nat → Nat} {d C Z : Nat} {Q : xQ} (σ : xM) (l0 : Nat) (l1 : Nat) {x : xM} (hf : f_X0_settle_j36 σ l0 l1 = some x) (hR : ∀ g, x = g → Q (.inl none) (g) π) : xMach G π J_X0_settle (d + 2) C Z 36 [(0, .ref l0), (1, .ref l1)] [] σ Q := by
  unfold f_X0_settle_j36 at hf
  refine xm_aload_n dX0_settle_36 rfl ?_
  refine xb_if hf (fun hb hf => ?_) (fun _ q => nomatch q)
  obtain ⟨p4, ep4, hf⟩ := xbind hf
  refine xb_callV (As := []) (v0 := (some (.int p4))) (τ0 := σ) dX0_settle_37 (xc_X2_isWhole _ _) xcl2 xw_1041 xw_1030 xw_1031 hb rfl (Nat.le_of_ble_eq_true rfl) rfl (Nat.le_of_ble_eq_true rfl) (fun Q1 hq => m_X2_isWhole (d := d + 0) ep4 (fun g hg => by subst hg; exact hq)) ?_
  refine xb_if_eq 44 dX0_settle_40 (by decide) hf (fun c hf => ?_) (fun c hf => ?_)
  · refine xm_aload_n dX0_settle_44 rfl ?_
    refine xb_getR (a := l0) (c := 0) (k := 0) dX0_settle_45 xcl0 (by decide) xw_58 rfl hf (fun x5 ex5 hf => ?_)
    refine xm_astore_n dX0_settle_48 (by decide) (xm_stL (L' := [(2, .ref x5), (0, .ref l0), (1, .ref l1)]) rfl ?_)
    refine xm_aload_n dX0_settle_49 rfl ?_
    refine xb_getR (a := l0) (c := 0) (k := 1) dX0_settle_50 xcl0 (by decide) xw_59 rfl hf (fun x6 ex6 hf => ?_)
    refine xm_astore_n dX0_settle_53 (by decide) (xm_stL (L' := [(3, .ref x6), (2, .ref x5), (0, .ref l0), (1, .ref l1)]) rfl ?_)
    refine xm_aload_n dX0_settle_54 rfl ?_
    refine xm_aload_n dX0_settle_55 rfl ?_
    refine xb_getR (a := l1) (c := 2) (k := 0) dX0_settle_56 xcl2 (by decide) xw_257 rfl hf (fun x7 ex7 hf => ?_)
    refine xb_if hf (fun hb hf => ?_) (fun _ q => nomatch q)
    obtain ⟨p8, ep8, hf⟩ := xbind hf
    refine xb_callV (As := [.ref x7]) (v0 := none) (τ0 := p8) dX0_settle_59 (xc_X10_copy _ _) xcl10 xw_1054 xw_969 xw_970 hb rfl (Nat.le_of_ble_eq_true rfl) rfl (Nat.le_of_ble_eq_true rfl) (fun Q1 hq => m_X10_copy (d := d + 0) ep8 (fun g hg => by subst hg; exact hq)) ?_
    refine xm_aload_n dX0_settle_62 rfl ?_
    refine xm_aload_n dX0_settle_63 rfl ?_
    refine xb_getR (a := l1) (c := 2) (k := 1) dX0_settle_64 xcl2 (by decide) xw_262 rfl hf (fun x9 ex9 hf => ?_)
    refine xb_if hf (fun hb hf => ?_) (fun _ q => nomatch q)
    obtain ⟨p10, ep10, hf⟩ := xbind hf
    refine xb_callV (As := [.ref x9]) (v0 := none) (τ0 := p10) dX0_settle_67 (xc_X10_copy _ _) xcl10 xw_1054 xw_969 xw_970 hb rfl (Nat.le_of_ble_eq_true rfl) rfl (Nat.le_of_ble_eq_true rfl) (fun Q1 hq => m_X10_copy (d := d + 0) ep10 (fun g hg => by subst hg; exact hq)) ?_
    refine xm_iconst dX0_settle_70 (v := 0) (by decide) ?_
    refine xb_topi hf (fun v11 ev11 hf => ?_)
    refine xm_istore dX0_settle_71 (by decide) (xm_stL (L' := [(4, .int v11), (3, .ref x6), (2, .ref x5), (0, .ref l0), (1, .ref l1)]) rfl ?_)
    obtain ⟨o, h1, hf⟩ := xbind hf
    refine xm_sub [3, 4, 2, 1, 0] rfl (L_X0_settle_l73  h1 (fun g hg => ?_) (fun e he => ?_))
    · subst hg
      cases hf
      exact hR _ rfl
    · subst he
      rw [Sum.elim_inr] at hf
      have hf : f_X0_settle_j124 e.2.2.2.2 e.1 e.2.1 e.2.2.1 e.2.2.2.1 = some _ := hf
      exact xm_sub [0, 1, 2, 3] rfl (L_X0_settle_j124 e.2.2.2.2 e.1 e.2.1 e.2.2.1 e.2.2.2.1 hf hR)
  · cases hf
    exact xm_vret dX0_settle_43 rfl (hR _ rfl)
def f_X0_settle_j24 (σ : xM) (l0 : Nat) (l1 : Nat) : Option xM :=
  (if xk σ l1 2 = true then (f_X2_isZero σ l1).bind (fun p3 => (if p3 = (0 : Int32) then f_X0_settle_j36 σ l0 l1 else (if xk σ l1 2 = true then (f_X2_set σ l1 (0 : Int64)).bind (fun p42 => f_X0_settle_j36 p42 l0 l1) else none))) else none)
set_option maxHeartbeats 4000000 in
set_option maxRecDepth 20000 in
theorem L_X0_settle_j24 {G : xG} {π : Nat → Nat} {d C Z : Nat} {Q : xQ} (σ : xM) (l0 : Nat) (l1 : Nat) {x : xM} (hf : f_X0_settle_j24 σ l0 l1 = some x) (hR : ∀ g, x = g → Q (.inl none) (g) π) : xMach G π J_X0_settle (d + 2) C Z 24 [(0, .ref l0), (1, .ref l1)] [] σ Q := by
  unfold f_X0_settle_j24 at hf
  refine xm_aload_n dX0_settle_24 rfl ?_
  refine xb_if hf (fun hb hf => ?_) (fun _ q => nomatch q)
  obtain ⟨p3, ep3, hf⟩ := xbind hf
  refine xb_callV (As := []) (v0 := (some (.int p3))) (τ0 := σ) dX0_settle_25 (xc_X2_isZero _ _) xcl2 xw_1089 xw_990 xw_991 hb rfl (Nat.le_of_ble_eq_true rfl) rfl (Nat.le_of_ble_eq_true rfl) (fun Q1 hq => m_X2_isZero (d := d + 0) ep3 (fun g hg => by subst hg; exact hq)) ?_
  refine xb_if_eq 36 dX0_settle_28 (by decide) hf (fun c hf => ?_) (fun c hf => ?_)
  · exact xm_sub [0, 1] rfl (L_X0_settle_j36 σ l0 l1 hf hR)
  · refine xm_aload_n dX0_settle_31 rfl ?_
    refine xm_lconst dX0_settle_32 (v := 0) (by decide) ?_
    refine xb_if hf (fun hb hf => ?_) (fun _ q => nomatch q)
    obtain ⟨p42, ep42, hf⟩ := xbind hf
    refine xb_callV (As := [.long (0 : Int64)]) (v0 := none) (τ0 := p42) dX0_settle_33 (xc_X2_set _ _) xcl2 xw_1090 xw_1070 xw_1071 hb rfl (Nat.le_of_ble_eq_true rfl) rfl (Nat.le_of_ble_eq_true rfl) (fun Q1 hq => m_X2_set (d := d + 0) ep42 (fun g hg => by subst hg; exact hq)) ?_
    exact xm_sub [0, 1] rfl (L_X0_settle_j36 p42 l0 l1 hf hR)
def f_X0_settle (σ : xM) (l0 : Nat) (l1 : Nat) : Option xM :=
  (gR σ l1 2 1).bind (fun x1 => (gI σ x1 10 2).bind (fun x2 => (if x2 = (0 : Int32) then f_X0_settle_j24 σ l0 l1 else (gR σ l1 2 1).bind (fun x43 => (if xk σ x43 10 = true then (f_X10_flip σ x43).bind (fun p44 => (gR p44 l1 2 0).bind (fun x45 => (if xk p44 x45 10 = true then (f_X10_flip p44 x45).bind (fun p46 => f_X0_settle_j24 p46 l0 l1) else none))) else none)))))
set_option maxHeartbeats 4000000 in
set_option maxRecDepth 20000 in
theorem m_X0_settle {G : xG} {π : Nat → Nat} {d C Z : Nat} {Q : xQ} {σ : xM} {l0 : Nat} {l1 : Nat} {x : xM} (hf : f_X0_settle σ l0 l1 = some x) (hR : ∀ g, x = g → Q (.inl none) (g) π) : xMach G π J_X0_settle (d + 2) C Z 0 (lv_args 0 [.ref l0, .ref l1]) [] σ Q := by
  unfold f_X0_settle at hf
  refine xm_stL (L' := [(0, .ref l0), (1, .ref l1)]) rfl ?_
  refine xm_aload_n dX0_settle_0 rfl ?_
  refine xb_getR (a := l1) (c := 2) (k := 1) dX0_settle_1 xcl2 (by decide) xw_262 rfl hf (fun x1 ex1 hf => ?_)
  refine xb_getIN (host := "Rankwise") (a := x1) (c := 10) (k := 2) dX0_settle_4 xcl10 (by decide) (by decide +kernel) rfl hf (fun x2 ex2 hf => ?_)
  refine xb_if_eq 24 dX0_settle_7 (by decide) hf (fun c hf => ?_) (fun c hf => ?_)
  · exact xm_sub [0, 1] rfl (L_X0_settle_j24 σ l0 l1 hf hR)
  · refine xm_aload_n dX0_settle_10 rfl ?_
    refine xb_getR (a := l1) (c := 2) (k := 1) dX0_settle_11 xcl2 (by decide) xw_262 rfl hf (fun x43 ex43 hf => ?_)
    refine xb_if hf (fun hb hf => ?_) (fun _ q => nomatch q)
    obtain ⟨p44, ep44, hf⟩ := xbind hf
    refine xb_callV (As := []) (v0 := none) (τ0 := p44) dX0_settle_14 (xc_X10_flip _ _) xcl10 xw_1085 xw_1086 xw_1087 hb rfl (Nat.le_of_ble_eq_true rfl) rfl (Nat.le_of_ble_eq_true rfl) (fun Q1 hq => m_X10_flip (d := d + 1) ep44 (fun g hg => by subst hg; exact hq)) ?_
    refine xm_aload_n dX0_settle_17 rfl ?_
    refine xb_getR (a := l1) (c := 2) (k := 0) dX0_settle_18 xcl2 (by decide) xw_257 rfl hf (fun x45 ex45 hf => ?_)
    refine xb_if hf (fun hb hf => ?_) (fun _ q => nomatch q)
    obtain ⟨p46, ep46, hf⟩ := xbind hf
    refine xb_callV (As := []) (v0 := none) (τ0 := p46) dX0_settle_21 (xc_X10_flip _ _) xcl10 xw_1085 xw_1086 xw_1087 hb rfl (Nat.le_of_ble_eq_true rfl) rfl (Nat.le_of_ble_eq_true rfl) (fun Q1 hq => m_X10_flip (d := d + 1) ep46 (fun g hg => by subst hg; exact hq)) ?_
    exact xm_sub [0, 1] rfl (L_X0_settle_j24 p46 l0 l1 hf hR)
-- Rankwise$Arithmetic.times(LRankwise$Fraction;LRankwise$Fraction;LRankwise$Fraction;)V
def f_X0_times (σ : xM) (l0 : Nat) (l1 : Nat) (l2 : Nat) (l3 : Nat) : Option xM :=
  (gR σ l0 0 0).bind (fun x1 => (gR σ l2 2 0).bind (fun x2 => (gR σ l3 2 0).bind (fun x3 => (if xk σ x1 10 = true then (f_X10_multiply σ x1 x2 x3).bind (fun p4 => (gR p4 l0 0 1).bind (fun x5 => (gR p4 l2 2 1).bind (fun x6 => (gR p4 l3 2 1).bind (fun x7 => (if xk p4 x5 10 = true then (f_X10_multiply p4 x5 x6 x7).bind (fun p8 => (gR p8 l1 2 0).bind (fun x9 => (gR p8 l0 0 0).bind (fun x10 => (if xk p8 x9 10 = true then (f_X10_copy p8 x9 x10).bind (fun p11 => (gR p11 l1 2 1).bind (fun x12 => (gR p11 l0 0 1).bind (fun x13 => (if xk p11 x12 10 = true then (f_X10_copy p11 x12 x13).bind (fun p14 => some p14) else none)))) else none)))) else none))))) else none))))
set_option maxHeartbeats 4000000 in
set_option maxRecDepth 20000 in
theorem m_X0_times {G : xG} {π : Nat → Nat} {d C Z : Nat} {Q : xQ} {σ : xM} {l0 : Nat} {l1 : Nat} {l2 : Nat} {l3 : Nat} {x : xM} (hf : f_X0_times σ l0 l1 l2 l3 = some x) (hR : ∀ g, x = g → Q (.inl none) (g) π) : xMach G π J_X0_times (d + 2) C Z 0 (lv_args 0 [.ref l0, .ref l1, .ref l2, .ref l3]) [] σ Q := by
  unfold f_X0_times at hf
  refine xm_stL (L' := [(0, .ref l0), (1, .ref l1), (2, .ref l2), (3, .ref l3)]) rfl ?_
  refine xm_aload_n dX0_times_0 rfl ?_
  refine xb_getR (a := l0) (c := 0) (k := 0) dX0_times_1 xcl0 (by decide) xw_58 rfl hf (fun x1 ex1 hf => ?_)
  refine xm_aload_n dX0_times_4 rfl ?_
  refine xb_getR (a := l2) (c := 2) (k := 0) dX0_times_5 xcl2 (by decide) xw_257 rfl hf (fun x2 ex2 hf => ?_)
  refine xm_aload_n dX0_times_8 rfl ?_
  refine xb_getR (a := l3) (c := 2) (k := 0) dX0_times_9 xcl2 (by decide) xw_257 rfl hf (fun x3 ex3 hf => ?_)
  refine xb_if hf (fun hb hf => ?_) (fun _ q => nomatch q)
  obtain ⟨p4, ep4, hf⟩ := xbind hf
  refine xb_callV (As := [.ref x2, .ref x3]) (v0 := none) (τ0 := p4) dX0_times_12 (xc_X10_multiply _ _) xcl10 xw_1056 xw_1057 xw_1058 hb rfl (Nat.le_of_ble_eq_true rfl) rfl (Nat.le_of_ble_eq_true rfl) (fun Q1 hq => m_X10_multiply (d := d + 0) ep4 (fun g hg => by subst hg; exact hq)) ?_
  refine xm_aload_n dX0_times_15 rfl ?_
  refine xb_getR (a := l0) (c := 0) (k := 1) dX0_times_16 xcl0 (by decide) xw_59 rfl hf (fun x5 ex5 hf => ?_)
  refine xm_aload_n dX0_times_19 rfl ?_
  refine xb_getR (a := l2) (c := 2) (k := 1) dX0_times_20 xcl2 (by decide) xw_262 rfl hf (fun x6 ex6 hf => ?_)
  refine xm_aload_n dX0_times_23 rfl ?_
  refine xb_getR (a := l3) (c := 2) (k := 1) dX0_times_24 xcl2 (by decide) xw_262 rfl hf (fun x7 ex7 hf => ?_)
  refine xb_if hf (fun hb hf => ?_) (fun _ q => nomatch q)
  obtain ⟨p8, ep8, hf⟩ := xbind hf
  refine xb_callV (As := [.ref x6, .ref x7]) (v0 := none) (τ0 := p8) dX0_times_27 (xc_X10_multiply _ _) xcl10 xw_1056 xw_1057 xw_1058 hb rfl (Nat.le_of_ble_eq_true rfl) rfl (Nat.le_of_ble_eq_true rfl) (fun Q1 hq => m_X10_multiply (d := d + 0) ep8 (fun g hg => by subst hg; exact hq)) ?_
  refine xm_aload_n dX0_times_30 rfl ?_
  refine xb_getR (a := l1) (c := 2) (k := 0) dX0_times_31 xcl2 (by decide) xw_257 rfl hf (fun x9 ex9 hf => ?_)
  refine xm_aload_n dX0_times_34 rfl ?_
  refine xb_getR (a := l0) (c := 0) (k := 0) dX0_times_35 xcl0 (by decide) xw_58 rfl hf (fun x10 ex10 hf => ?_)
  refine xb_if hf (fun hb hf => ?_) (fun _ q => nomatch q)
  obtain ⟨p11, ep11, hf⟩ := xbind hf
  refine xb_callV (As := [.ref x10]) (v0 := none) (τ0 := p11) dX0_times_38 (xc_X10_copy _ _) xcl10 xw_1054 xw_969 xw_970 hb rfl (Nat.le_of_ble_eq_true rfl) rfl (Nat.le_of_ble_eq_true rfl) (fun Q1 hq => m_X10_copy (d := d + 0) ep11 (fun g hg => by subst hg; exact hq)) ?_
  refine xm_aload_n dX0_times_41 rfl ?_
  refine xb_getR (a := l1) (c := 2) (k := 1) dX0_times_42 xcl2 (by decide) xw_262 rfl hf (fun x12 ex12 hf => ?_)
  refine xm_aload_n dX0_times_45 rfl ?_
  refine xb_getR (a := l0) (c := 0) (k := 1) dX0_times_46 xcl0 (by decide) xw_59 rfl hf (fun x13 ex13 hf => ?_)
  refine xb_if hf (fun hb hf => ?_) (fun _ q => nomatch q)
  obtain ⟨p14, ep14, hf⟩ := xbind hf
  refine xb_callV (As := [.ref x13]) (v0 := none) (τ0 := p14) dX0_times_49 (xc_X10_copy _ _) xcl10 xw_1054 xw_969 xw_970 hb rfl (Nat.le_of_ble_eq_true rfl) rfl (Nat.le_of_ble_eq_true rfl) (fun Q1 hq => m_X10_copy (d := d + 0) ep14 (fun g hg => by subst hg; exact hq)) ?_
  cases hf
  exact xm_vret dX0_times_52 rfl (hR _ rfl)
-- Rankwise$Arithmetic.over(LRankwise$Fraction;LRankwise$Fraction;LRankwise$Fraction;)V
def f_X0_over (σ : xM) (l0 : Nat) (l1 : Nat) (l2 : Nat) (l3 : Nat) : Option xM :=
  (gR σ l0 0 0).bind (fun x1 => (gR σ l2 2 0).bind (fun x2 => (gR σ l3 2 1).bind (fun x3 => (if xk σ x1 10 = true then (f_X10_multiply σ x1 x2 x3).bind (fun p4 => (gR p4 l0 0 1).bind (fun x5 => (gR p4 l2 2 1).bind (fun x6 => (gR p4 l3 2 0).bind (fun x7 => (if xk p4 x5 10 = true then (f_X10_multiply p4 x5 x6 x7).bind (fun p8 => (gR p8 l1 2 0).bind (fun x9 => (gR p8 l0 0 0).bind (fun x10 => (if xk p8 x9 10 = true then (f_X10_copy p8 x9 x10).bind (fun p11 => (gR p11 l1 2 1).bind (fun x12 => (gR p11 l0 0 1).bind (fun x13 => (if xk p11 x12 10 = true then (f_X10_copy p11 x12 x13).bind (fun p14 => some p14) else none)))) else none)))) else none))))) else none))))
set_option maxHeartbeats 4000000 in
set_option maxRecDepth 20000 in
theorem m_X0_over {G : xG} {π : Nat → Nat} {d C Z : Nat} {Q : xQ} {σ : xM} {l0 : Nat} {l1 : Nat} {l2 : Nat} {l3 : Nat} {x : xM} (hf : f_X0_over σ l0 l1 l2 l3 = some x) (hR : ∀ g, x = g → Q (.inl none) (g) π) : xMach G π J_X0_over (d + 2) C Z 0 (lv_args 0 [.ref l0, .ref l1, .ref l2, .ref l3]) [] σ Q := by
  unfold f_X0_over at hf
  refine xm_stL (L' := [(0, .ref l0), (1, .ref l1), (2, .ref l2), (3, .ref l3)]) rfl ?_
  refine xm_aload_n dX0_over_0 rfl ?_
  refine xb_getR (a := l0) (c := 0) (k := 0) dX0_over_1 xcl0 (by decide) xw_58 rfl hf (fun x1 ex1 hf => ?_)
  refine xm_aload_n dX0_over_4 rfl ?_
  refine xb_getR (a := l2) (c := 2) (k := 0) dX0_over_5 xcl2 (by decide) xw_257 rfl hf (fun x2 ex2 hf => ?_)
  refine xm_aload_n dX0_over_8 rfl ?_
  refine xb_getR (a := l3) (c := 2) (k := 1) dX0_over_9 xcl2 (by decide) xw_262 rfl hf (fun x3 ex3 hf => ?_)
  refine xb_if hf (fun hb hf => ?_) (fun _ q => nomatch q)
  obtain ⟨p4, ep4, hf⟩ := xbind hf
  refine xb_callV (As := [.ref x2, .ref x3]) (v0 := none) (τ0 := p4) dX0_over_12 (xc_X10_multiply _ _) xcl10 xw_1056 xw_1057 xw_1058 hb rfl (Nat.le_of_ble_eq_true rfl) rfl (Nat.le_of_ble_eq_true rfl) (fun Q1 hq => m_X10_multiply (d := d + 0) ep4 (fun g hg => by subst hg; exact hq)) ?_
  refine xm_aload_n dX0_over_15 rfl ?_
  refine xb_getR (a := l0) (c := 0) (k := 1) dX0_over_16 xcl0 (by decide) xw_59 rfl hf (fun x5 ex5 hf => ?_)
  refine xm_aload_n dX0_over_19 rfl ?_
  refine xb_getR (a := l2) (c := 2) (k := 1) dX0_over_20 xcl2 (by decide) xw_262 rfl hf (fun x6 ex6 hf => ?_)
  refine xm_aload_n dX0_over_23 rfl ?_
  refine xb_getR (a := l3) (c := 2) (k := 0) dX0_over_24 xcl2 (by decide) xw_257 rfl hf (fun x7 ex7 hf => ?_)
  refine xb_if hf (fun hb hf => ?_) (fun _ q => nomatch q)
  obtain ⟨p8, ep8, hf⟩ := xbind hf
  refine xb_callV (As := [.ref x6, .ref x7]) (v0 := none) (τ0 := p8) dX0_over_27 (xc_X10_multiply _ _) xcl10 xw_1056 xw_1057 xw_1058 hb rfl (Nat.le_of_ble_eq_true rfl) rfl (Nat.le_of_ble_eq_true rfl) (fun Q1 hq => m_X10_multiply (d := d + 0) ep8 (fun g hg => by subst hg; exact hq)) ?_
  refine xm_aload_n dX0_over_30 rfl ?_
  refine xb_getR (a := l1) (c := 2) (k := 0) dX0_over_31 xcl2 (by decide) xw_257 rfl hf (fun x9 ex9 hf => ?_)
  refine xm_aload_n dX0_over_34 rfl ?_
  refine xb_getR (a := l0) (c := 0) (k := 0) dX0_over_35 xcl0 (by decide) xw_58 rfl hf (fun x10 ex10 hf => ?_)
  refine xb_if hf (fun hb hf => ?_) (fun _ q => nomatch q)
  obtain ⟨p11, ep11, hf⟩ := xbind hf
  refine xb_callV (As := [.ref x10]) (v0 := none) (τ0 := p11) dX0_over_38 (xc_X10_copy _ _) xcl10 xw_1054 xw_969 xw_970 hb rfl (Nat.le_of_ble_eq_true rfl) rfl (Nat.le_of_ble_eq_true rfl) (fun Q1 hq => m_X10_copy (d := d + 0) ep11 (fun g hg => by subst hg; exact hq)) ?_
  refine xm_aload_n dX0_over_41 rfl ?_
  refine xb_getR (a := l1) (c := 2) (k := 1) dX0_over_42 xcl2 (by decide) xw_262 rfl hf (fun x12 ex12 hf => ?_)
  refine xm_aload_n dX0_over_45 rfl ?_
  refine xb_getR (a := l0) (c := 0) (k := 1) dX0_over_46 xcl0 (by decide) xw_59 rfl hf (fun x13 ex13 hf => ?_)
  refine xb_if hf (fun hb hf => ?_) (fun _ q => nomatch q)
  obtain ⟨p14, ep14, hf⟩ := xbind hf
  refine xb_callV (As := [.ref x13]) (v0 := none) (τ0 := p14) dX0_over_49 (xc_X10_copy _ _) xcl10 xw_1054 xw_969 xw_970 hb rfl (Nat.le_of_ble_eq_true rfl) rfl (Nat.le_of_ble_eq_true rfl) (fun Q1 hq => m_X10_copy (d := d + 0) ep14 (fun g hg => by subst hg; exact hq)) ?_
  cases hf
  exact xm_vret dX0_over_52 rfl (hR _ rfl)
-- Rankwise$Arithmetic.remainder(LRankwise$Fraction;LRankwise$Fraction;LRankwise$Fraction;)V
def f_X0_remainder_j104 (σ : xM) (l1 : Nat) : Option xM :=
  (gR σ l1 2 1).bind (fun x18 => (if xk σ x18 10 = true then (f_X10_set σ x18 (1 : Int64)).bind (fun p19 => some p19) else none))
set_option maxHeartbeats 4000000 in
set_option maxRecDepth 20000 in
theorem L_X0_remainder_j104 {G : xG} {π : Nat → Nat} {d C Z : Nat} {Q : xQ} (σ : xM) (l1 : Nat) {x : xM} (hf : f_X0_remainder_j104 σ l1 = some x) (hR : ∀ g, x = g → Q (.inl none) (g) π) : xMach G π J_X0_remainder (d + 2) C Z 104 [(1, .ref l1)] [] σ Q := by
  unfold f_X0_remainder_j104 at hf
  refine xm_aload_n dX0_remainder_104 rfl ?_
  refine xb_getR (a := l1) (c := 2) (k := 1) dX0_remainder_105 xcl2 (by decide) xw_262 rfl hf (fun x18 ex18 hf => ?_)
  refine xm_lconst dX0_remainder_108 (v := 1) (by decide) ?_
  refine xb_if hf (fun hb hf => ?_) (fun _ q => nomatch q)
  obtain ⟨p19, ep19, hf⟩ := xbind hf
  refine xb_callV (As := [.long (1 : Int64)]) (v0 := none) (τ0 := p19) dX0_remainder_109 (xc_X10_set _ _) xcl10 xw_1055 xw_252 xw_253 hb rfl (Nat.le_of_ble_eq_true rfl) rfl (Nat.le_of_ble_eq_true rfl) (fun Q1 hq => m_X10_set (d := d + 1) ep19 (fun g hg => by subst hg; exact hq)) ?_
  cases hf
  exact xm_vret dX0_remainder_112 rfl (hR _ rfl)
def f_X0_remainder_j93 (σ : xM) (l0 : Nat) (l1 : Nat) : Option xM :=
  (gR σ l1 2 0).bind (fun x15 => (gR σ l0 0 0).bind (fun x16 => (if xk σ x15 10 = true then (f_X10_copy σ x15 x16).bind (fun p17 => f_X0_remainder_j104 p17 l1) else none)))
set_option maxHeartbeats 4000000 in
set_option maxRecDepth 20000 in
theorem L_X0_remainder_j93 {G : xG} {π : Nat → Nat} {d C Z : Nat} {Q : xQ} (σ : xM) (l0 : Nat) (l1 : Nat) {x : xM} (hf : f_X0_remainder_j93 σ l0 l1 = some x) (hR : ∀ g, x = g → Q (.inl none) (g) π) : xMach G π J_X0_remainder (d + 2) C Z 93 [(0, .ref l0), (1, .ref l1)] [] σ Q := by
  unfold f_X0_remainder_j93 at hf
  refine xm_aload_n dX0_remainder_93 rfl ?_
  refine xb_getR (a := l1) (c := 2) (k := 0) dX0_remainder_94 xcl2 (by decide) xw_257 rfl hf (fun x15 ex15 hf => ?_)
  refine xm_aload_n dX0_remainder_97 rfl ?_
  refine xb_getR (a := l0) (c := 0) (k := 0) dX0_remainder_98 xcl0 (by decide) xw_58 rfl hf (fun x16 ex16 hf => ?_)
  refine xb_if hf (fun hb hf => ?_) (fun _ q => nomatch q)
  obtain ⟨p17, ep17, hf⟩ := xbind hf
  refine xb_callV (As := [.ref x16]) (v0 := none) (τ0 := p17) dX0_remainder_101 (xc_X10_copy _ _) xcl10 xw_1054 xw_969 xw_970 hb rfl (Nat.le_of_ble_eq_true rfl) rfl (Nat.le_of_ble_eq_true rfl) (fun Q1 hq => m_X10_copy (d := d + 0) ep17 (fun g hg => by subst hg; exact hq)) ?_
  exact xm_sub [1] rfl (L_X0_remainder_j104 p17 l1 hf hR)
def f_X0_remainder_j54 (σ : xM) (l0 : Nat) (l1 : Nat) (l2 : Nat) : Option xM :=
  (gR σ l2 2 0).bind (fun x13 => (gI σ x13 10 2).bind (fun x14 => (if x14 = (0 : Int32) then f_X0_remainder_j93 σ l0 l1 else (gR σ l0 0 0).bind (fun x20 => (if xk σ x20 10 = true then (f_X10_isZero σ x20).bind (fun p21 => (if p21 = (0 : Int32) then (gR σ l1 2 0).bind (fun x22 => (gR σ l0 0 2).bind (fun x23 => (gR σ l0 0 0).bind (fun x24 => (if xk σ x22 10 = true then (f_X10_sum σ x22 x23 x24 (1 : Int32)).bind (fun p25 => f_X0_remainder_j104 p25 l1) else none)))) else f_X0_remainder_j93 σ l0 l1)) else none)))))
set_option maxHeartbeats 4000000 in
set_option maxRecDepth 20000 in
theorem L_X0_remainder_j54 {G : xG} {π : Nat → Nat} {d C Z : Nat} {Q : xQ} (σ : xM) (l0 : Nat) (l1 : Nat) (l2 : Nat) {x : xM} (hf : f_X0_remainder_j54 σ l0 l1 l2 = some x) (hR : ∀ g, x = g → Q (.inl none) (g) π) : xMach G π J_X0_remainder (d + 2) C Z 54 [(0, .ref l0), (1, .ref l1), (2, .ref l2)] [] σ Q := by
  unfold f_X0_remainder_j54 at hf
  refine xm_aload_n dX0_remainder_54 rfl ?_
  refine xb_getR (a := l2) (c := 2) (k := 0) dX0_remainder_55 xcl2 (by decide) xw_257 rfl hf (fun x13 ex13 hf => ?_)
  refine xb_getIN (host := "Rankwise") (a := x13) (c := 10) (k := 2) dX0_remainder_58 xcl10 (by decide) (by decide +kernel) rfl hf (fun x14 ex14 hf => ?_)
  refine xb_if_eq 93 dX0_remainder_61 (by decide) hf (fun c hf => ?_) (fun c hf => ?_)
  · exact xm_sub [0, 1] rfl (L_X0_remainder_j93 σ l0 l1 hf hR)
  · refine xm_aload_n dX0_remainder_64 rfl ?_
    refine xb_getR (a := l0) (c := 0) (k := 0) dX0_remainder_65 xcl0 (by decide) xw_58 rfl hf (fun x20 ex20 hf => ?_)
    refine xb_if hf (fun hb hf => ?_) (fun _ q => nomatch q)
    obtain ⟨p21, ep21, hf⟩ := xbind hf
    refine xb_callV (As := []) (v0 := (some (.int p21))) (τ0 := σ) dX0_remainder_68 (xc_X10_isZero _ _) xcl10 xw_1096 xw_994 xw_995 hb rfl (Nat.le_of_ble_eq_true rfl) rfl (Nat.le_of_ble_eq_true rfl) (fun Q1 hq => m_X10_isZero (d := d + 1) ep21 (fun g hg => by subst hg; exact hq)) ?_
    refine xb_if_ne 93 dX0_remainder_71 (by decide) hf (fun c hf => ?_) (fun c hf => ?_)
    · exact xm_sub [0, 1] rfl (L_X0_remainder_j93 σ l0 l1 hf hR)
    · refine xm_aload_n dX0_remainder_74 rfl ?_
      refine xb_getR (a := l1) (c := 2) (k := 0) dX0_remainder_75 xcl2 (by decide) xw_257 rfl hf (fun x22 ex22 hf => ?_)
      refine xm_aload_n dX0_remainder_78 rfl ?_
      refine xb_getR (a := l0) (c := 0) (k := 2) dX0_remainder_79 xcl0 (by decide) xw_60 rfl hf (fun x23 ex23 hf => ?_)
      refine xm_aload_n dX0_remainder_82 rfl ?_
      refine xb_getR (a := l0) (c := 0) (k := 0) dX0_remainder_83 xcl0 (by decide) xw_58 rfl hf (fun x24 ex24 hf => ?_)
      refine xm_iconst dX0_remainder_86 (v := 1) (by decide) ?_
      refine xb_if hf (fun hb hf => ?_) (fun _ q => nomatch q)
      obtain ⟨p25, ep25, hf⟩ := xbind hf
      refine xb_callV (As := [.ref x23, .ref x24, .int (1 : Int32)]) (v0 := none) (τ0 := p25) dX0_remainder_87 (xc_X10_sum _ _) xcl10 xw_1042 xw_1043 xw_1044 hb rfl (Nat.le_of_ble_eq_true rfl) rfl (Nat.le_of_ble_eq_true rfl) (fun Q1 hq => m_X10_sum (d := d + 0) ep25 (fun g hg => by subst hg; exact hq)) ?_
      refine xm_goto 104 dX0_remainder_90 (by decide) ?_
      exact xm_sub [1] rfl (L_X0_remainder_j104 p25 l1 hf hR)
def f_X0_remainder (σ : xM) (l0 : Nat) (l1 : Nat) (l2 : Nat) (l3 : Nat) : Option xM :=
  (gR σ l0 0 0).bind (fun x1 => (gR σ l2 2 0).bind (fun x2 => (if xk σ x1 10 = true then (f_X10_copy σ x1 x2).bind (fun p3 => (gR p3 l0 0 0).bind (fun x4 => (gR p3 l3 2 0).bind (fun x5 => (gR p3 l0 0 1).bind (fun x6 => (if xk p3 x4 10 = true then (f_X10_divideBy p3 x4 x5 x6).bind (fun p7 => (gR p7 l0 0 2).bind (fun x8 => (gR p7 l3 2 0).bind (fun x9 => (if xk p7 x8 10 = true then (f_X10_copy p7 x8 x9).bind (fun p10 => (gR p10 l0 0 2).bind (fun x11 => (gI p10 x11 10 2).bind (fun x12 => (if x12 = (0 : Int32) then f_X0_remainder_j54 p10 l0 l1 l2 else (gR p10 l0 0 2).bind (fun x26 => (if xk p10 x26 10 = true then (f_X10_flip p10 x26).bind (fun p27 => f_X0_remainder_j54 p27 l0 l1 l2) else none)))))) else none)))) else none))))) else none)))
set_option maxHeartbeats 4000000 in
set_option maxRecDepth 20000 in
theorem m_X0_remainder {G : xG} {π : Nat → Nat} {d C Z : Nat} {Q : xQ} {σ : xM} {l0 : Nat} {l1 : Nat} {l2 : Nat} {l3 : Nat} {x : xM} (hf : f_X0_remainder σ l0 l1 l2 l3 = some x) (hR : ∀ g, x = g → Q (.inl none) (g) π) : xMach G π J_X0_remainder (d + 2) C Z 0 (lv_args 0 [.ref l0, .ref l1, .ref l2, .ref l3]) [] σ Q := by
  unfold f_X0_remainder at hf
  refine xm_stL (L' := [(0, .ref l0), (1, .ref l1), (2, .ref l2), (3, .ref l3)]) rfl ?_
  refine xm_aload_n dX0_remainder_0 rfl ?_
  refine xb_getR (a := l0) (c := 0) (k := 0) dX0_remainder_1 xcl0 (by decide) xw_58 rfl hf (fun x1 ex1 hf => ?_)
  refine xm_aload_n dX0_remainder_4 rfl ?_
  refine xb_getR (a := l2) (c := 2) (k := 0) dX0_remainder_5 xcl2 (by decide) xw_257 rfl hf (fun x2 ex2 hf => ?_)
  refine xb_if hf (fun hb hf => ?_) (fun _ q => nomatch q)
  obtain ⟨p3, ep3, hf⟩ := xbind hf
  refine xb_callV (As := [.ref x2]) (v0 := none) (τ0 := p3) dX0_remainder_8 (xc_X10_copy _ _) xcl10 xw_1054 xw_969 xw_970 hb rfl (Nat.le_of_ble_eq_true rfl) rfl (Nat.le_of_ble_eq_true rfl) (fun Q1 hq => m_X10_copy (d := d + 0) ep3 (fun g hg => by subst hg; exact hq)) ?_
  refine xm_aload_n dX0_remainder_11 rfl ?_
  refine xb_getR (a := l0) (c := 0) (k := 0) dX0_remainder_12 xcl0 (by decide) xw_58 rfl hf (fun x4 ex4 hf => ?_)
  refine xm_aload_n dX0_remainder_15 rfl ?_
  refine xb_getR (a := l3) (c := 2) (k := 0) dX0_remainder_16 xcl2 (by decide) xw_257 rfl hf (fun x5 ex5 hf => ?_)
  refine xm_aload_n dX0_remainder_19 rfl ?_
  refine xb_getR (a := l0) (c := 0) (k := 1) dX0_remainder_20 xcl0 (by decide) xw_59 rfl hf (fun x6 ex6 hf => ?_)
  refine xb_if hf (fun hb hf => ?_) (fun _ q => nomatch q)
  obtain ⟨p7, ep7, hf⟩ := xbind hf
  refine xb_callV (As := [.ref x5, .ref x6]) (v0 := none) (τ0 := p7) dX0_remainder_23 (xc_X10_divideBy _ _) xcl10 xw_1097 xw_1098 xw_1099 hb rfl (Nat.le_of_ble_eq_true rfl) rfl (Nat.le_of_ble_eq_true rfl) (fun Q1 hq => m_X10_divideBy (d := d + 0) ep7 (fun g hg => by subst hg; exact hq)) ?_
  refine xm_aload_n dX0_remainder_26 rfl ?_
  refine xb_getR (a := l0) (c := 0) (k := 2) dX0_remainder_27 xcl0 (by decide) xw_60 rfl hf (fun x8 ex8 hf => ?_)
  refine xm_aload_n dX0_remainder_30 rfl ?_
  refine xb_getR (a := l3) (c := 2) (k := 0) dX0_remainder_31 xcl2 (by decide) xw_257 rfl hf (fun x9 ex9 hf => ?_)
  refine xb_if hf (fun hb hf => ?_) (fun _ q => nomatch q)
  obtain ⟨p10, ep10, hf⟩ := xbind hf
  refine xb_callV (As := [.ref x9]) (v0 := none) (τ0 := p10) dX0_remainder_34 (xc_X10_copy _ _) xcl10 xw_1054 xw_969 xw_970 hb rfl (Nat.le_of_ble_eq_true rfl) rfl (Nat.le_of_ble_eq_true rfl) (fun Q1 hq => m_X10_copy (d := d + 0) ep10 (fun g hg => by subst hg; exact hq)) ?_
  refine xm_aload_n dX0_remainder_37 rfl ?_
  refine xb_getR (a := l0) (c := 0) (k := 2) dX0_remainder_38 xcl0 (by decide) xw_60 rfl hf (fun x11 ex11 hf => ?_)
  refine xb_getIN (host := "Rankwise") (a := x11) (c := 10) (k := 2) dX0_remainder_41 xcl10 (by decide) (by decide +kernel) rfl hf (fun x12 ex12 hf => ?_)
  refine xb_if_eq 54 dX0_remainder_44 (by decide) hf (fun c hf => ?_) (fun c hf => ?_)
  · exact xm_sub [0, 1, 2] rfl (L_X0_remainder_j54 p10 l0 l1 l2 hf hR)
  · refine xm_aload_n dX0_remainder_47 rfl ?_
    refine xb_getR (a := l0) (c := 0) (k := 2) dX0_remainder_48 xcl0 (by decide) xw_60 rfl hf (fun x26 ex26 hf => ?_)
    refine xb_if hf (fun hb hf => ?_) (fun _ q => nomatch q)
    obtain ⟨p27, ep27, hf⟩ := xbind hf
    refine xb_callV (As := []) (v0 := none) (τ0 := p27) dX0_remainder_51 (xc_X10_flip _ _) xcl10 xw_1085 xw_1086 xw_1087 hb rfl (Nat.le_of_ble_eq_true rfl) rfl (Nat.le_of_ble_eq_true rfl) (fun Q1 hq => m_X10_flip (d := d + 1) ep27 (fun g hg => by subst hg; exact hq)) ?_
    exact xm_sub [0, 1, 2] rfl (L_X0_remainder_j54 p27 l0 l1 l2 hf hR)
-- Rankwise$Arithmetic.power(LRankwise$Fraction;LRankwise$Fraction;I)Z
def f_X0_power_s20 (s : (Nat × Nat × Nat × Int32 × Int32 × Int32 × xM)) : Option ((Int32 × xM) ⊕ (((xM) ⊕ (Nat × Nat × Int32 × xM)) ⊕ (Nat × Nat × Nat × Int32 × Int32 × Int32 × xM))) :=
  xlet s.1 (fun l0 => xlet s.2.1 (fun l1 => xlet s.2.2.1 (fun l2 => xlet s.2.2.2.1 (fun l3 => xlet s.2.2.2.2.1 (fun l4 => xlet s.2.2.2.2.2.1 (fun l5 => xlet s.2.2.2.2.2.2 (fun σ => (if l4 ≤ l5 then some (Sum.inr (Sum.inl (Sum.inr (l0, l1, l3, σ)))) else (gR σ l0 0 0).bind (fun x3 => (gR σ l1 2 0).bind (fun x4 => (gR σ l2 2 0).bind (fun x5 => (if xk σ x3 10 = true then (f_X10_multiply σ x3 x4 x5).bind (fun p6 => (gR p6 l0 0 1).bind (fun x7 => (gR p6 l1 2 1).bind (fun x8 => (gR p6 l2 2 1).bind (fun x9 => (if xk p6 x7 10 = true then (f_X10_multiply p6 x7 x8 x9).bind (fun p10 => (gR p10 l1 2 0).bind (fun x11 => (gR p10 l0 0 0).bind (fun x12 => (if xk p10 x11 10 = true then (f_X10_copy p10 x11 x12).bind (fun p13 => (gR p13 l1 2 1).bind (fun x14 => (gR p13 l0 0 1).bind (fun x15 => (if xk p13 x14 10 = true then (f_X10_copy p13 x14 x15).bind (fun p16 => (if xk p16 l1 2 = true then (f_X2_fits p16 l1).bind (fun p17 => (if p17 = (0 : Int32) then some (Sum.inr (Sum.inl (Sum.inl p16))) else xlet (l5 + (1 : Int32)) (fun v18 => some (Sum.inr (Sum.inr (l0, l1, l2, l3, l4, v18, p16)))))) else none)) else none)))) else none)))) else none))))) else none))))))))))))
set_option maxHeartbeats 4000000 in
set_option maxRecDepth 20000 in
theorem L_X0_power_s20 {G : xG} {π : Nat → Nat} {d C Z : Nat} {Q : xQ} (σ : xM) (l0 : Nat) (l1 : Nat) (l2 : Nat) (l3 : Int32) (l4 : Int32) (l5 : Int32) {x : ((Int32 × xM) ⊕ (((xM) ⊕ (Nat × Nat × Int32 × xM)) ⊕ (Nat × Nat × Nat × Int32 × Int32 × Int32 × xM)))} (hf : f_X0_power_s20 (l0, l1, l2, l3, l4, l5, σ) = some x) (hR : ∀ g, x = Sum.inl (g) → Q (.inl (some (.int g.1))) (g.2) π) (hE0 : ∀ e : (xM), x = Sum.inr (Sum.inl (Sum.inl e)) → xMach G π J_X0_power (d + 2) C Z 86 [] [] e Q) (hE1 : ∀ e : (Nat × Nat × Int32 × xM), x = Sum.inr (Sum.inl (Sum.inr e)) → xMach G π J_X0_power (d + 2) C Z 94 [(0, .ref e.1), (1, .ref e.2.1), (3, .int e.2.2.1)] [] e.2.2.2 Q) (hC : ∀ e : (Nat × Nat × Nat × Int32 × Int32 × Int32 × xM), x = Sum.inr (Sum.inr e) → xMach G π J_X0_power (d + 2) C Z 20 [(0, .ref e.1), (1, .ref e.2.1), (2, .ref e.2.2.1), (3, .int e.2.2.2.1), (4, .int e.2.2.2.2.1), (5, .int e.2.2.2.2.2.1)] [] e.2.2.2.2.2.2 Q) : xMach G π J_X0_power (d + 2) C Z 20 [(0, .ref l0), (1, .ref l1), (2, .ref l2), (3, .int l3), (4, .int l4), (5, .int l5)] [] σ Q := by
  have hf : (if l4 ≤ l5 then some (Sum.inr (Sum.inl (Sum.inr (l0, l1, l3, σ)))) else (gR σ l0 0 0).bind (fun x3 => (gR σ l1 2 0).bind (fun x4 => (gR σ l2 2 0).bind (fun x5 => (if xk σ x3 10 = true then (f_X10_multiply σ x3 x4 x5).bind (fun p6 => (gR p6 l0 0 1).bind (fun x7 => (gR p6 l1 2 1).bind (fun x8 => (gR p6 l2 2 1).bind (fun x9 => (if xk p6 x7 10 = true then (f_X10_multiply p6 x7 x8 x9).bind (fun p10 => (gR p10 l1 2 0).bind (fun x11 => (gR p10 l0 0 0).bind (fun x12 => (if xk p10 x11 10 = true then (f_X10_copy p10 x11 x12).bind (fun p13 => (gR p13 l1 2 1).bind (fun x14 => (gR p13 l0 0 1).bind (fun x15 => (if xk p13 x14 10 = true then (f_X10_copy p13 x14 x15).bind (fun p16 => (if xk p16 l1 2 = true then (f_X2_fits p16 l1).bind (fun p17 => (if p17 = (0 : Int32) then some (Sum.inr (Sum.inl (Sum.inl p16))) else xlet (l5 + (1 : Int32)) (fun v18 => some (Sum.inr (Sum.inr (l0, l1, l2, l3, l4, v18, p16)))))) else none)) else none)))) else none)))) else none))))) else none))))) = some x := hf
  refine xm_iload dX0_power_20 rfl ?_
  refine xm_iload dX0_power_22 rfl ?_
  refine xb_icmp_ge 94 dX0_power_24 (by decide) hf (fun c hf => ?_) (fun c hf => ?_)
  · cases hf
    exact xm_sub [0, 1, 3] rfl (hE1 _ rfl)
  · refine xm_aload_n dX0_power_27 rfl ?_
    refine xb_getR (a := l0) (c := 0) (k := 0) dX0_power_28 xcl0 (by decide) xw_58 rfl hf (fun x3 ex3 hf => ?_)
    refine xm_aload_n dX0_power_31 rfl ?_
    refine xb_getR (a := l1) (c := 2) (k := 0) dX0_power_32 xcl2 (by decide) xw_257 rfl hf (fun x4 ex4 hf => ?_)
    refine xm_aload_n dX0_power_35 rfl ?_
    refine xb_getR (a := l2) (c := 2) (k := 0) dX0_power_36 xcl2 (by decide) xw_257 rfl hf (fun x5 ex5 hf => ?_)
    refine xb_if hf (fun hb hf => ?_) (fun _ q => nomatch q)
    obtain ⟨p6, ep6, hf⟩ := xbind hf
    refine xb_callV (As := [.ref x4, .ref x5]) (v0 := none) (τ0 := p6) dX0_power_39 (xc_X10_multiply _ _) xcl10 xw_1056 xw_1057 xw_1058 hb rfl (Nat.le_of_ble_eq_true rfl) rfl (Nat.le_of_ble_eq_true rfl) (fun Q1 hq => m_X10_multiply (d := d + 0) ep6 (fun g hg => by subst hg; exact hq)) ?_
    refine xm_aload_n dX0_power_42 rfl ?_
    refine xb_getR (a := l0) (c := 0) (k := 1) dX0_power_43 xcl0 (by decide) xw_59 rfl hf (fun x7 ex7 hf => ?_)
    refine xm_aload_n dX0_power_46 rfl ?_
    refine xb_getR (a := l1) (c := 2) (k := 1) dX0_power_47 xcl2 (by decide) xw_262 rfl hf (fun x8 ex8 hf => ?_)
    refine xm_aload_n dX0_power_50 rfl ?_
    refine xb_getR (a := l2) (c := 2) (k := 1) dX0_power_51 xcl2 (by decide) xw_262 rfl hf (fun x9 ex9 hf => ?_)
    refine xb_if hf (fun hb hf => ?_) (fun _ q => nomatch q)
    obtain ⟨p10, ep10, hf⟩ := xbind hf
    refine xb_callV (As := [.ref x8, .ref x9]) (v0 := none) (τ0 := p10) dX0_power_54 (xc_X10_multiply _ _) xcl10 xw_1056 xw_1057 xw_1058 hb rfl (Nat.le_of_ble_eq_true rfl) rfl (Nat.le_of_ble_eq_true rfl) (fun Q1 hq => m_X10_multiply (d := d + 0) ep10 (fun g hg => by subst hg; exact hq)) ?_
    refine xm_aload_n dX0_power_57 rfl ?_
    refine xb_getR (a := l1) (c := 2) (k := 0) dX0_power_58 xcl2 (by decide) xw_257 rfl hf (fun x11 ex11 hf => ?_)
    refine xm_aload_n dX0_power_61 rfl ?_
    refine xb_getR (a := l0) (c := 0) (k := 0) dX0_power_62 xcl0 (by decide) xw_58 rfl hf (fun x12 ex12 hf => ?_)
    refine xb_if hf (fun hb hf => ?_) (fun _ q => nomatch q)
    obtain ⟨p13, ep13, hf⟩ := xbind hf
    refine xb_callV (As := [.ref x12]) (v0 := none) (τ0 := p13) dX0_power_65 (xc_X10_copy _ _) xcl10 xw_1054 xw_969 xw_970 hb rfl (Nat.le_of_ble_eq_true rfl) rfl (Nat.le_of_ble_eq_true rfl) (fun Q1 hq => m_X10_copy (d := d + 0) ep13 (fun g hg => by subst hg; exact hq)) ?_
    refine xm_aload_n dX0_power_68 rfl ?_
    refine xb_getR (a := l1) (c := 2) (k := 1) dX0_power_69 xcl2 (by decide) xw_262 rfl hf (fun x14 ex14 hf => ?_)
    refine xm_aload_n dX0_power_72 rfl ?_
    refine xb_getR (a := l0) (c := 0) (k := 1) dX0_power_73 xcl0 (by decide) xw_59 rfl hf (fun x15 ex15 hf => ?_)
    refine xb_if hf (fun hb hf => ?_) (fun _ q => nomatch q)
    obtain ⟨p16, ep16, hf⟩ := xbind hf
    refine xb_callV (As := [.ref x15]) (v0 := none) (τ0 := p16) dX0_power_76 (xc_X10_copy _ _) xcl10 xw_1054 xw_969 xw_970 hb rfl (Nat.le_of_ble_eq_true rfl) rfl (Nat.le_of_ble_eq_true rfl) (fun Q1 hq => m_X10_copy (d := d + 0) ep16 (fun g hg => by subst hg; exact hq)) ?_
    refine xm_aload_n dX0_power_79 rfl ?_
    refine xb_if hf (fun hb hf => ?_) (fun _ q => nomatch q)
    obtain ⟨p17, ep17, hf⟩ := xbind hf
    refine xb_callV (As := []) (v0 := (some (.int p17))) (τ0 := p16) dX0_power_80 (xc_X2_fits _ _) xcl2 xw_1175 xw_1124 xw_1125 hb rfl (Nat.le_of_ble_eq_true rfl) rfl (Nat.le_of_ble_eq_true rfl) (fun Q1 hq => m_X2_fits (d := d + 0) ep17 (fun g hg => by subst hg; exact hq)) ?_
    refine xb_if_ne 88 dX0_power_83 (by decide) hf (fun c hf => ?_) (fun c hf => ?_)
    · refine xb_iinc dX0_power_88 rfl (by decide) (by decide) hf (fun v18 ev18 hf => xm_stL (L' := [(5, .int v18), (0, .ref l0), (1, .ref l1), (2, .ref l2), (3, .int l3), (4, .int l4)]) rfl ?_)
      refine xm_goto 20 dX0_power_91 (by decide) ?_
      cases hf
      exact xm_sub [1, 2, 3, 4, 5, 0] rfl (hC _ rfl)
    · cases hf
      exact xm_sub [] rfl (hE0 _ rfl)
theorem L_X0_power_l20 {G : xG} {π : Nat → Nat} {d C Z : Nat} {Q : xQ} {s0 : (Nat × Nat × Nat × Int32 × Int32 × Int32 × xM)} {x : ((Int32 × xM) ⊕ ((xM) ⊕ (Nat × Nat × Int32 × xM)))} (h1 : xloop (f_X0_power_s20) xF s0 = some x) (hR : ∀ g, x = Sum.inl g → Q (.inl (some (.int g.1))) (g.2) π) (hE0 : ∀ e : (xM), x = Sum.inr (Sum.inl e) → xMach G π J_X0_power (d + 2) C Z 86 [] [] e Q) (hE1 : ∀ e : (Nat × Nat × Int32 × xM), x = Sum.inr (Sum.inr e) → xMach G π J_X0_power (d + 2) C Z 94 [(0, .ref e.1), (1, .ref e.2.1), (3, .int e.2.2.1)] [] e.2.2.2 Q) : xMach G π J_X0_power (d + 2) C Z 20 [(0, .ref s0.1), (1, .ref s0.2.1), (2, .ref s0.2.2.1), (3, .int s0.2.2.2.1), (4, .int s0.2.2.2.2.1), (5, .int s0.2.2.2.2.2.1)] [] s0.2.2.2.2.2.2 Q := by
  refine xloop_run (M := (fun s : (Nat × Nat × Nat × Int32 × Int32 × Int32 × xM) => xMach G π J_X0_power (d + 2) C Z 20 [(0, .ref s.1), (1, .ref s.2.1), (2, .ref s.2.2.1), (3, .int s.2.2.2.1), (4, .int s.2.2.2.2.1), (5, .int s.2.2.2.2.2.1)] [] s.2.2.2.2.2.2 Q)) (r := x) ?_ xF _ h1
  intro s y hs hx
  exact L_X0_power_s20 s.2.2.2.2.2.2 s.1 s.2.1 s.2.2.1 s.2.2.2.1 s.2.2.2.2.1 s.2.2.2.2.2.1 (x := y) hs (fun g hg => by subst hg; exact hR g hx) (fun e he => by subst he; exact hE0 e hx) (fun e he => by subst he; exact hE1 e hx) (fun e he => by subst he; exact hx)
def f_X0_power_j86 (σ : xM)  : Option (Int32 × xM) :=
  some ((0 : Int32), σ)
set_option maxHeartbeats 4000000 in
set_option maxRecDepth 20000 in
theorem L_X0_power_j86 {G : xG} {π : Nat → Nat} {d C Z : Nat} {Q : xQ} (σ : xM)  {x : (Int32 × xM)} (hf : f_X0_power_j86 σ = some x) (hR : ∀ g, x = g → Q (.inl (some (.int g.1))) (g.2) π) : xMach G π J_X0_power (d + 2) C Z 86 [] [] σ Q := by
  unfold f_X0_power_j86 at hf
  refine xm_iconst dX0_power_86 (v := 0) (by decide) ?_
  cases hf
  exact xm_zret dX0_power_87 rfl rfl (hR _ rfl)
def f_X0_power_j131 (σ : xM)  : Option (Int32 × xM) :=
  some ((1 : Int32), σ)
set_option maxHeartbeats 4000000 in
set_option maxRecDepth 20000 in
theorem L_X0_power_j131 {G : xG} {π : Nat → Nat} {d C Z : Nat} {Q : xQ} (σ : xM)  {x : (Int32 × xM)} (hf : f_X0_power_j131 σ = some x) (hR : ∀ g, x = g → Q (.inl (some (.int g.1))) (g.2) π) : xMach G π J_X0_power (d + 2) C Z 131 [] [] σ Q := by
  unfold f_X0_power_j131 at hf
  refine xm_iconst dX0_power_131 (v := 1) (by decide) ?_
  cases hf
  exact xm_zret dX0_power_132 rfl rfl (hR _ rfl)
def f_X0_power_j94 (σ : xM) (l0 : Nat) (l1 : Nat) (l3 : Int32) : Option (Int32 × xM) :=
  (if (0 : Int32) ≤ l3 then f_X0_power_j131 σ else (gR σ l0 0 0).bind (fun x19 => (gR σ l1 2 0).bind (fun x20 => (if xk σ x19 10 = true then (f_X10_copy σ x19 x20).bind (fun p21 => (gR p21 l1 2 0).bind (fun x22 => (gR p21 l1 2 1).bind (fun x23 => (if xk p21 x22 10 = true then (f_X10_copy p21 x22 x23).bind (fun p24 => (gR p24 l1 2 1).bind (fun x25 => (gR p24 l0 0 0).bind (fun x26 => (if xk p24 x25 10 = true then (f_X10_copy p24 x25 x26).bind (fun p27 => f_X0_power_j131 p27) else none)))) else none)))) else none))))
set_option maxHeartbeats 4000000 in
set_option maxRecDepth 20000 in
theorem L_X0_power_j94 {G : xG} {π : Nat → Nat} {d C Z : Nat} {Q : xQ} (σ : xM) (l0 : Nat) (l1 : Nat) (l3 : Int32) {x : (Int32 × xM)} (hf : f_X0_power_j94 σ l0 l1 l3 = some x) (hR : ∀ g, x = g → Q (.inl (some (.int g.1))) (g.2) π) : xMach G π J_X0_power (d + 2) C Z 94 [(0, .ref l0), (1, .ref l1), (3, .int l3)] [] σ Q := by
  unfold f_X0_power_j94 at hf
  refine xm_iload_n dX0_power_94 rfl ?_
  refine xb_if_ge 131 dX0_power_95 (by decide) hf (fun c hf => ?_) (fun c hf => ?_)
  · exact xm_sub [] rfl (L_X0_power_j131 σ hf hR)
  · refine xm_aload_n dX0_power_98 rfl ?_
    refine xb_getR (a := l0) (c := 0) (k := 0) dX0_power_99 xcl0 (by decide) xw_58 rfl hf (fun x19 ex19 hf => ?_)
    refine xm_aload_n dX0_power_102 rfl ?_
    refine xb_getR (a := l1) (c := 2) (k := 0) dX0_power_103 xcl2 (by decide) xw_257 rfl hf (fun x20 ex20 hf => ?_)
    refine xb_if hf (fun hb hf => ?_) (fun _ q => nomatch q)
    obtain ⟨p21, ep21, hf⟩ := xbind hf
    refine xb_callV (As := [.ref x20]) (v0 := none) (τ0 := p21) dX0_power_106 (xc_X10_copy _ _) xcl10 xw_1054 xw_969 xw_970 hb rfl (Nat.le_of_ble_eq_true rfl) rfl (Nat.le_of_ble_eq_true rfl) (fun Q1 hq => m_X10_copy (d := d + 0) ep21 (fun g hg => by subst hg; exact hq)) ?_
    refine xm_aload_n dX0_power_109 rfl ?_
    refine xb_getR (a := l1) (c := 2) (k := 0) dX0_power_110 xcl2 (by decide) xw_257 rfl hf (fun x22 ex22 hf => ?_)
    refine xm_aload_n dX0_power_113 rfl ?_
    refine xb_getR (a := l1) (c := 2) (k := 1) dX0_power_114 xcl2 (by decide) xw_262 rfl hf (fun x23 ex23 hf => ?_)
    refine xb_if hf (fun hb hf => ?_) (fun _ q => nomatch q)
    obtain ⟨p24, ep24, hf⟩ := xbind hf
    refine xb_callV (As := [.ref x23]) (v0 := none) (τ0 := p24) dX0_power_117 (xc_X10_copy _ _) xcl10 xw_1054 xw_969 xw_970 hb rfl (Nat.le_of_ble_eq_true rfl) rfl (Nat.le_of_ble_eq_true rfl) (fun Q1 hq => m_X10_copy (d := d + 0) ep24 (fun g hg => by subst hg; exact hq)) ?_
    refine xm_aload_n dX0_power_120 rfl ?_
    refine xb_getR (a := l1) (c := 2) (k := 1) dX0_power_121 xcl2 (by decide) xw_262 rfl hf (fun x25 ex25 hf => ?_)
    refine xm_aload_n dX0_power_124 rfl ?_
    refine xb_getR (a := l0) (c := 0) (k := 0) dX0_power_125 xcl0 (by decide) xw_58 rfl hf (fun x26 ex26 hf => ?_)
    refine xb_if hf (fun hb hf => ?_) (fun _ q => nomatch q)
    obtain ⟨p27, ep27, hf⟩ := xbind hf
    refine xb_callV (As := [.ref x26]) (v0 := none) (τ0 := p27) dX0_power_128 (xc_X10_copy _ _) xcl10 xw_1054 xw_969 xw_970 hb rfl (Nat.le_of_ble_eq_true rfl) rfl (Nat.le_of_ble_eq_true rfl) (fun Q1 hq => m_X10_copy (d := d + 0) ep27 (fun g hg => by subst hg; exact hq)) ?_
    exact xm_sub [] rfl (L_X0_power_j131 p27 hf hR)
def f_X0_power_j10 (σ : xM) (l0 : Nat) (l1 : Nat) (l2 : Nat) (l3 : Int32) (s0 : Int32) : Option (Int32 × xM) :=
  (if xk σ l1 2 = true then (f_X2_set σ l1 (1 : Int64)).bind (fun p1 => xlet (0 : Int32) (fun v2 => (xloop (f_X0_power_s20 ) xF (l0, l1, l2, l3, s0, v2, p1)).bind (Sum.elim (fun g => some g) (Sum.elim (fun e => f_X0_power_j86 e) (fun e => f_X0_power_j94 e.2.2.2 e.1 e.2.1 e.2.2.1))))) else none)
set_option maxHeartbeats 4000000 in
set_option maxRecDepth 20000 in
theorem L_X0_power_j10 {G : xG} {π : Nat → Nat} {d C Z : Nat} {Q : xQ} (σ : xM) (l0 : Nat) (l1 : Nat) (l2 : Nat) (l3 : Int32) (s0 : Int32) {x : (Int32 × xM)} (hf : f_X0_power_j10 σ l0 l1 l2 l3 s0 = some x) (hR : ∀ g, x = g → Q (.inl (some (.int g.1))) (g.2) π) : xMach G π J_X0_power (d + 2) C Z 10 [(0, .ref l0), (1, .ref l1), (2, .ref l2), (3, .int l3)] [.int s0] σ Q := by
  unfold f_X0_power_j10 at hf
  refine xm_istore dX0_power_10 (by decide) (xm_stL (L' := [(4, .int s0), (0, .ref l0), (1, .ref l1), (2, .ref l2), (3, .int l3)]) rfl ?_)
  refine xm_aload_n dX0_power_12 rfl ?_
  refine xm_lconst dX0_power_13 (v := 1) (by decide) ?_
  refine xb_if hf (fun hb hf => ?_) (fun _ q => nomatch q)
  obtain ⟨p1, ep1, hf⟩ := xbind hf
  refine xb_callV (As := [.long (1 : Int64)]) (v0 := none) (τ0 := p1) dX0_power_14 (xc_X2_set _ _) xcl2 xw_1090 xw_1070 xw_1071 hb rfl (Nat.le_of_ble_eq_true rfl) rfl (Nat.le_of_ble_eq_true rfl) (fun Q1 hq => m_X2_set (d := d + 0) ep1 (fun g hg => by subst hg; exact hq)) ?_
  refine xm_iconst dX0_power_17 (v := 0) (by decide) ?_
  refine xb_topi hf (fun v2 ev2 hf => ?_)
  refine xm_istore dX0_power_18 (by decide) (xm_stL (L' := [(5, .int v2), (4, .int s0), (0, .ref l0), (1, .ref l1), (2, .ref l2), (3, .int l3)]) rfl ?_)
  obtain ⟨o, h1, hf⟩ := xbind hf
  refine xm_sub [2, 3, 4, 5, 1, 0] rfl (L_X0_power_l20  h1 (fun g hg => ?_) (fun e he => ?_) (fun e he => ?_))
  · subst hg
    cases hf
    exact hR _ rfl
  · subst he
    rw [Sum.elim_inr, Sum.elim_inl] at hf
    have hf : f_X0_power_j86 e = some _ := hf
    exact xm_sub [] rfl (L_X0_power_j86 e hf hR)
  · subst he
    rw [Sum.elim_inr, Sum.elim_inr] at hf
    have hf : f_X0_power_j94 e.2.2.2 e.1 e.2.1 e.2.2.1 = some _ := hf
    exact xm_sub [0, 1, 2] rfl (L_X0_power_j94 e.2.2.2 e.1 e.2.1 e.2.2.1 hf hR)
def f_X0_power (σ : xM) (l0 : Nat) (l1 : Nat) (l2 : Nat) (l3 : Int32) : Option (Int32 × xM) :=
  (if (0 : Int32) ≤ l3 then f_X0_power_j10 σ l0 l1 l2 l3 l3 else f_X0_power_j10 σ l0 l1 l2 l3 (-l3))
set_option maxHeartbeats 4000000 in
set_option maxRecDepth 20000 in
theorem m_X0_power {G : xG} {π : Nat → Nat} {d C Z : Nat} {Q : xQ} {σ : xM} {l0 : Nat} {l1 : Nat} {l2 : Nat} {l3 : Int32} {x : (Int32 × xM)} (hf : f_X0_power σ l0 l1 l2 l3 = some x) (hR : ∀ g, x = g → Q (.inl (some (.int g.1))) (g.2) π) : xMach G π J_X0_power (d + 2) C Z 0 (lv_args 0 [.ref l0, .ref l1, .ref l2, .int l3]) [] σ Q := by
  unfold f_X0_power at hf
  refine xm_stL (L' := [(0, .ref l0), (1, .ref l1), (2, .ref l2), (3, .int l3)]) rfl ?_
  refine xm_iload_n dX0_power_0 rfl ?_
  refine xb_if_ge 9 dX0_power_1 (by decide) hf (fun c hf => ?_) (fun c hf => ?_)
  · refine xm_iload_n dX0_power_9 rfl ?_
    exact xm_sub [0, 1, 2, 3] rfl (L_X0_power_j10 σ l0 l1 l2 l3 l3 hf hR)
  · refine xm_iload_n dX0_power_4 rfl ?_
    refine xm_ineg dX0_power_5 ?_
    refine xm_goto 10 dX0_power_6 (by decide) ?_
    exact xm_sub [0, 1, 2, 3] rfl (L_X0_power_j10 σ l0 l1 l2 l3 (-l3) hf hR)
-- Rankwise$Arithmetic.compare(LRankwise$Fraction;LRankwise$Fraction;)I
def f_X0_compare (σ : xM) (l0 : Nat) (l1 : Nat) (l2 : Nat) : Option (Int32 × xM) :=
  (gR σ l0 0 0).bind (fun x1 => (gR σ l1 2 0).bind (fun x2 => (gR σ l2 2 1).bind (fun x3 => (if xk σ x1 10 = true then (f_X10_multiply σ x1 x2 x3).bind (fun p4 => (gR p4 l0 0 1).bind (fun x5 => (gR p4 l2 2 0).bind (fun x6 => (gR p4 l1 2 1).bind (fun x7 => (if xk p4 x5 10 = true then (f_X10_multiply p4 x5 x6 x7).bind (fun p8 => (gR p8 l0 0 0).bind (fun x9 => (gR p8 l0 0 1).bind (fun x10 => (f_X10_compareSigned p8 x9 x10).bind (fun p11 => some (p11, p8))))) else none))))) else none))))
set_option maxHeartbeats 4000000 in
set_option maxRecDepth 20000 in
theorem m_X0_compare {G : xG} {π : Nat → Nat} {d C Z : Nat} {Q : xQ} {σ : xM} {l0 : Nat} {l1 : Nat} {l2 : Nat} {x : (Int32 × xM)} (hf : f_X0_compare σ l0 l1 l2 = some x) (hR : ∀ g, x = g → Q (.inl (some (.int g.1))) (g.2) π) : xMach G π J_X0_compare (d + 2) C Z 0 (lv_args 0 [.ref l0, .ref l1, .ref l2]) [] σ Q := by
  unfold f_X0_compare at hf
  refine xm_stL (L' := [(0, .ref l0), (1, .ref l1), (2, .ref l2)]) rfl ?_
  refine xm_aload_n dX0_compare_0 rfl ?_
  refine xb_getR (a := l0) (c := 0) (k := 0) dX0_compare_1 xcl0 (by decide) xw_58 rfl hf (fun x1 ex1 hf => ?_)
  refine xm_aload_n dX0_compare_4 rfl ?_
  refine xb_getR (a := l1) (c := 2) (k := 0) dX0_compare_5 xcl2 (by decide) xw_257 rfl hf (fun x2 ex2 hf => ?_)
  refine xm_aload_n dX0_compare_8 rfl ?_
  refine xb_getR (a := l2) (c := 2) (k := 1) dX0_compare_9 xcl2 (by decide) xw_262 rfl hf (fun x3 ex3 hf => ?_)
  refine xb_if hf (fun hb hf => ?_) (fun _ q => nomatch q)
  obtain ⟨p4, ep4, hf⟩ := xbind hf
  refine xb_callV (As := [.ref x2, .ref x3]) (v0 := none) (τ0 := p4) dX0_compare_12 (xc_X10_multiply _ _) xcl10 xw_1056 xw_1057 xw_1058 hb rfl (Nat.le_of_ble_eq_true rfl) rfl (Nat.le_of_ble_eq_true rfl) (fun Q1 hq => m_X10_multiply (d := d + 0) ep4 (fun g hg => by subst hg; exact hq)) ?_
  refine xm_aload_n dX0_compare_15 rfl ?_
  refine xb_getR (a := l0) (c := 0) (k := 1) dX0_compare_16 xcl0 (by decide) xw_59 rfl hf (fun x5 ex5 hf => ?_)
  refine xm_aload_n dX0_compare_19 rfl ?_
  refine xb_getR (a := l2) (c := 2) (k := 0) dX0_compare_20 xcl2 (by decide) xw_257 rfl hf (fun x6 ex6 hf => ?_)
  refine xm_aload_n dX0_compare_23 rfl ?_
  refine xb_getR (a := l1) (c := 2) (k := 1) dX0_compare_24 xcl2 (by decide) xw_262 rfl hf (fun x7 ex7 hf => ?_)
  refine xb_if hf (fun hb hf => ?_) (fun _ q => nomatch q)
  obtain ⟨p8, ep8, hf⟩ := xbind hf
  refine xb_callV (As := [.ref x6, .ref x7]) (v0 := none) (τ0 := p8) dX0_compare_27 (xc_X10_multiply _ _) xcl10 xw_1056 xw_1057 xw_1058 hb rfl (Nat.le_of_ble_eq_true rfl) rfl (Nat.le_of_ble_eq_true rfl) (fun Q1 hq => m_X10_multiply (d := d + 0) ep8 (fun g hg => by subst hg; exact hq)) ?_
  refine xm_aload_n dX0_compare_30 rfl ?_
  refine xb_getR (a := l0) (c := 0) (k := 0) dX0_compare_31 xcl0 (by decide) xw_58 rfl hf (fun x9 ex9 hf => ?_)
  refine xm_aload_n dX0_compare_34 rfl ?_
  refine xb_getR (a := l0) (c := 0) (k := 1) dX0_compare_35 xcl0 (by decide) xw_59 rfl hf (fun x10 ex10 hf => ?_)
  obtain ⟨p11, ep11, hf⟩ := xbind hf
  refine xb_callS (As := [.ref x9, .ref x10]) (v0 := (some (.int p11))) (τ0 := p8) dX0_compare_38 (xc_X10_compareSigned _ _) xw_1180 xw_1181 rfl (Nat.le_of_ble_eq_true rfl) rfl (Nat.le_of_ble_eq_true rfl) (fun Q1 hq => m_X10_compareSigned (d := d + 0) ep11 (fun g hg => by subst hg; exact hq)) ?_
  cases hf
  exact xm_iret dX0_compare_41 rfl (hR _ rfl)
-- Rankwise$Arithmetic.factorial(LRankwise$Fraction;I)V
def f_X0_factorial_s7 (s : (Nat × Nat × Int32 × Int32 × xM)) : Option (xM ⊕ ((xM) ⊕ (Nat × Nat × Int32 × Int32 × xM))) :=
  xlet s.1 (fun l0 => xlet s.2.1 (fun l1 => xlet s.2.2.1 (fun l2 => xlet s.2.2.2.1 (fun l3 => xlet s.2.2.2.2 (fun σ => (if l2 < l3 then some (Sum.inr (Sum.inl σ)) else (gR σ l0 0 1).bind (fun x3 => (if xk σ x3 10 = true then (f_X10_set σ x3 ((l3).toInt64)).bind (fun p4 => (gR p4 l0 0 0).bind (fun x5 => (gR p4 l1 2 0).bind (fun x6 => (gR p4 l0 0 1).bind (fun x7 => (if xk p4 x5 10 = true then (f_X10_multiply p4 x5 x6 x7).bind (fun p8 => (gR p8 l1 2 0).bind (fun x9 => (gR p8 l0 0 0).bind (fun x10 => (if xk p8 x9 10 = true then (f_X10_copy p8 x9 x10).bind (fun p11 => xlet (l3 + (1 : Int32)) (fun v12 => some (Sum.inr (Sum.inr (l0, l1, l2, v12, p11))))) else none)))) else none))))) else none))))))))
set_option maxHeartbeats 4000000 in
set_option maxRecDepth 20000 in
theorem L_X0_factorial_s7 {G : xG} {π : Nat → Nat} {d C Z : Nat} {Q : xQ} (σ : xM) (l0 : Nat) (l1 : Nat) (l2 : Int32) (l3 : Int32) {x : (xM ⊕ ((xM) ⊕ (Nat × Nat × Int32 × Int32 × xM)))} (hf : f_X0_factorial_s7 (l0, l1, l2, l3, σ) = some x) (hR : ∀ g, x = Sum.inl (g) → Q (.inl none) (g) π) (hE : ∀ e : (xM), x = Sum.inr (Sum.inl e) → xMach G π J_X0_factorial (d + 2) C Z 53 [] [] e Q) (hC : ∀ e : (Nat × Nat × Int32 × Int32 × xM), x = Sum.inr (Sum.inr e) → xMach G π J_X0_factorial (d + 2) C Z 7 [(0, .ref e.1), (1, .ref e.2.1), (2, .int e.2.2.1), (3, .int e.2.2.2.1)] [] e.2.2.2.2 Q) : xMach G π J_X0_factorial (d + 2) C Z 7 [(0, .ref l0), (1, .ref l1), (2, .int l2), (3, .int l3)] [] σ Q := by
  have hf : (if l2 < l3 then some (Sum.inr (Sum.inl σ)) else (gR σ l0 0 1).bind (fun x3 => (if xk σ x3 10 = true then (f_X10_set σ x3 ((l3).toInt64)).bind (fun p4 => (gR p4 l0 0 0).bind (fun x5 => (gR p4 l1 2 0).bind (fun x6 => (gR p4 l0 0 1).bind (fun x7 => (if xk p4 x5 10 = true then (f_X10_multiply p4 x5 x6 x7).bind (fun p8 => (gR p8 l1 2 0).bind (fun x9 => (gR p8 l0 0 0).bind (fun x10 => (if xk p8 x9 10 = true then (f_X10_copy p8 x9 x10).bind (fun p11 => xlet (l3 + (1 : Int32)) (fun v12 => some (Sum.inr (Sum.inr (l0, l1, l2, v12, p11))))) else none)))) else none))))) else none))) = some x := hf
  refine xm_iload_n dX0_factorial_7 rfl ?_
  refine xm_iload_n dX0_factorial_8 rfl ?_
  refine xb_icmp_gt 53 dX0_factorial_9 (by decide) hf (fun c hf => ?_) (fun c hf => ?_)
  · cases hf
    exact xm_sub [] rfl (hE _ rfl)
  · refine xm_aload_n dX0_factorial_12 rfl ?_
    refine xb_getR (a := l0) (c := 0) (k := 1) dX0_factorial_13 xcl0 (by decide) xw_59 rfl hf (fun x3 ex3 hf => ?_)
    refine xm_iload_n dX0_factorial_16 rfl ?_
    refine xm_i2l dX0_factorial_17 rfl ?_
    refine xb_if hf (fun hb hf => ?_) (fun _ q => nomatch q)
    obtain ⟨p4, ep4, hf⟩ := xbind hf
    refine xb_callV (As := [.long ((l3).toInt64)]) (v0 := none) (τ0 := p4) dX0_factorial_18 (xc_X10_set _ _) xcl10 xw_1055 xw_252 xw_253 hb rfl (Nat.le_of_ble_eq_true rfl) rfl (Nat.le_of_ble_eq_true rfl) (fun Q1 hq => m_X10_set (d := d + 1) ep4 (fun g hg => by subst hg; exact hq)) ?_
    refine xm_aload_n dX0_factorial_21 rfl ?_
    refine xb_getR (a := l0) (c := 0) (k := 0) dX0_factorial_22 xcl0 (by decide) xw_58 rfl hf (fun x5 ex5 hf => ?_)
    refine xm_aload_n dX0_factorial_25 rfl ?_
    refine xb_getR (a := l1) (c := 2) (k := 0) dX0_factorial_26 xcl2 (by decide) xw_257 rfl hf (fun x6 ex6 hf => ?_)
    refine xm_aload_n dX0_factorial_29 rfl ?_
    refine xb_getR (a := l0) (c := 0) (k := 1) dX0_factorial_30 xcl0 (by decide) xw_59 rfl hf (fun x7 ex7 hf => ?_)
    refine xb_if hf (fun hb hf => ?_) (fun _ q => nomatch q)
    obtain ⟨p8, ep8, hf⟩ := xbind hf
    refine xb_callV (As := [.ref x6, .ref x7]) (v0 := none) (τ0 := p8) dX0_factorial_33 (xc_X10_multiply _ _) xcl10 xw_1056 xw_1057 xw_1058 hb rfl (Nat.le_of_ble_eq_true rfl) rfl (Nat.le_of_ble_eq_true rfl) (fun Q1 hq => m_X10_multiply (d := d + 0) ep8 (fun g hg => by subst hg; exact hq)) ?_
    refine xm_aload_n dX0_factorial_36 rfl ?_
    refine xb_getR (a := l1) (c := 2) (k := 0) dX0_factorial_37 xcl2 (by decide) xw_257 rfl hf (fun x9 ex9 hf => ?_)
    refine xm_aload_n dX0_factorial_40 rfl ?_
    refine xb_getR (a := l0) (c := 0) (k := 0) dX0_factorial_41 xcl0 (by decide) xw_58 rfl hf (fun x10 ex10 hf => ?_)
    refine xb_if hf (fun hb hf => ?_) (fun _ q => nomatch q)
    obtain ⟨p11, ep11, hf⟩ := xbind hf
    refine xb_callV (As := [.ref x10]) (v0 := none) (τ0 := p11) dX0_factorial_44 (xc_X10_copy _ _) xcl10 xw_1054 xw_969 xw_970 hb rfl (Nat.le_of_ble_eq_true rfl) rfl (Nat.le_of_ble_eq_true rfl) (fun Q1 hq => m_X10_copy (d := d + 0) ep11 (fun g hg => by subst hg; exact hq)) ?_
    refine xb_iinc dX0_factorial_47 rfl (by decide) (by decide) hf (fun v12 ev12 hf => xm_stL (L' := [(3, .int v12), (0, .ref l0), (1, .ref l1), (2, .int l2)]) rfl ?_)
    refine xm_goto 7 dX0_factorial_50 (by decide) ?_
    cases hf
    exact xm_sub [1, 2, 3, 0] rfl (hC _ rfl)
theorem L_X0_factorial_l7 {G : xG} {π : Nat → Nat} {d C Z : Nat} {Q : xQ} {s0 : (Nat × Nat × Int32 × Int32 × xM)} {x : (xM ⊕ (xM))} (h1 : xloop (f_X0_factorial_s7) xF s0 = some x) (hR : ∀ g, x = Sum.inl g → Q (.inl none) (g) π) (hE : ∀ e : (xM), x = Sum.inr e → xMach G π J_X0_factorial (d + 2) C Z 53 [] [] e Q) : xMach G π J_X0_factorial (d + 2) C Z 7 [(0, .ref s0.1), (1, .ref s0.2.1), (2, .int s0.2.2.1), (3, .int s0.2.2.2.1)] [] s0.2.2.2.2 Q := by
  refine xloop_run (M := (fun s : (Nat × Nat × Int32 × Int32 × xM) => xMach G π J_X0_factorial (d + 2) C Z 7 [(0, .ref s.1), (1, .ref s.2.1), (2, .int s.2.2.1), (3, .int s.2.2.2.1)] [] s.2.2.2.2 Q)) (r := x) ?_ xF _ h1
  intro s y hs hx
  exact L_X0_factorial_s7 s.2.2.2.2 s.1 s.2.1 s.2.2.1 s.2.2.2.1 (x := y) hs (fun g hg => by subst hg; exact hR g hx) (fun e he => by subst he; exact hE e hx) (fun e he => by subst he; exact hx)
def f_X0_factorial_j53 (σ : xM)  : Option xM :=
  some σ
set_option maxHeartbeats 4000000 in
set_option maxRecDepth 20000 in
theorem L_X0_factorial_j53 {G : xG} {π : Nat → Nat} {d C Z : Nat} {Q : xQ} (σ : xM)  {x : xM} (hf : f_X0_factorial_j53 σ = some x) (hR : ∀ g, x = g → Q (.inl none) (g) π) : xMach G π J_X0_factorial (d + 2) C Z 53 [] [] σ Q := by
  unfold f_X0_factorial_j53 at hf
  cases hf
  exact xm_vret dX0_factorial_53 rfl (hR _ rfl)
def f_X0_factorial (σ : xM) (l0 : Nat) (l1 : Nat) (l2 : Int32) : Option xM :=
  (if xk σ l1 2 = true then (f_X2_set σ l1 (1 : Int64)).bind (fun p1 => xlet (2 : Int32) (fun v2 => (xloop (f_X0_factorial_s7 ) xF (l0, l1, l2, v2, p1)).bind (Sum.elim (fun g => some g) (fun e => f_X0_factorial_j53 e)))) else none)
set_option maxHeartbeats 4000000 in
set_option maxRecDepth 20000 in
theorem m_X0_factorial {G : xG} {π : Nat → Nat} {d C Z : Nat} {Q : xQ} {σ : xM} {l0 : Nat} {l1 : Nat} {l2 : Int32} {x : xM} (hf : f_X0_factorial σ l0 l1 l2 = some x) (hR : ∀ g, x = g → Q (.inl none) (g) π) : xMach G π J_X0_factorial (d + 2) C Z 0 (lv_args 0 [.ref l0, .ref l1, .int l2]) [] σ Q := by
  unfold f_X0_factorial at hf
  refine xm_stL (L' := [(0, .ref l0), (1, .ref l1), (2, .int l2)]) rfl ?_
  refine xm_aload_n dX0_factorial_0 rfl ?_
  refine xm_lconst dX0_factorial_1 (v := 1) (by decide) ?_
  refine xb_if hf (fun hb hf => ?_) (fun _ q => nomatch q)
  obtain ⟨p1, ep1, hf⟩ := xbind hf
  refine xb_callV (As := [.long (1 : Int64)]) (v0 := none) (τ0 := p1) dX0_factorial_2 (xc_X2_set _ _) xcl2 xw_1090 xw_1070 xw_1071 hb rfl (Nat.le_of_ble_eq_true rfl) rfl (Nat.le_of_ble_eq_true rfl) (fun Q1 hq => m_X2_set (d := d + 0) ep1 (fun g hg => by subst hg; exact hq)) ?_
  refine xm_iconst dX0_factorial_5 (v := 2) (by decide) ?_
  refine xb_topi hf (fun v2 ev2 hf => ?_)
  refine xm_istore_n dX0_factorial_6 (by decide) (xm_stL (L' := [(3, .int v2), (0, .ref l0), (1, .ref l1), (2, .int l2)]) rfl ?_)
  obtain ⟨o, h1, hf⟩ := xbind hf
  refine xm_sub [1, 2, 3, 0] rfl (L_X0_factorial_l7  h1 (fun g hg => ?_) (fun e he => ?_))
  · subst hg
    cases hf
    exact hR _ rfl
  · subst he
    rw [Sum.elim_inr] at hf
    have hf : f_X0_factorial_j53 e = some _ := hf
    exact xm_sub [] rfl (L_X0_factorial_j53 e hf hR)
