-- Rankwise$Fraction.copy(LRankwise$Fraction;)V
def f_X2_copy (σ : xM) (l0 : Nat) (l1 : Nat) : Option xM :=
  (gR σ l0 2 0).bind (fun x1 => (gR σ l1 2 0).bind (fun x2 => (if xk σ x1 10 = true then (f_X10_copy σ x1 x2).bind (fun p3 => (gR p3 l0 2 1).bind (fun x4 => (gR p3 l1 2 1).bind (fun x5 => (if xk p3 x4 10 = true then (f_X10_copy p3 x4 x5).bind (fun p6 => some p6) else none)))) else none)))
set_option maxHeartbeats 4000000 in
set_option maxRecDepth 20000 in
theorem m_X2_copy {G : xG} {π : Nat → Nat} {d C Z : Nat} {Q : xQ} {σ : xM} {l0 : Nat} {l1 : Nat} {x : xM} (hf : f_X2_copy σ l0 l1 = some x) (hR : ∀ g, x = g → Q (.inl none) (g) π) : xMach G π J_X2_copy (d + 2) C Z 0 (lv_args 0 [.ref l0, .ref l1]) [] σ Q := by
  unfold f_X2_copy at hf
  refine xm_stL (L' := [(0, .ref l0), (1, .ref l1)]) rfl ?_
  refine xm_aload_n dX2_copy_0 rfl ?_
  refine xb_getR (a := l0) (c := 2) (k := 0) dX2_copy_1 xcl2 (by decide) xw_256 rfl hf (fun x1 ex1 hf => ?_)
  refine xm_aload_n dX2_copy_4 rfl ?_
  refine xb_getR (a := l1) (c := 2) (k := 0) dX2_copy_5 xcl2 (by decide) xw_256 rfl hf (fun x2 ex2 hf => ?_)
  refine xb_if hf (fun hb hf => ?_) (fun _ q => nomatch q)
  obtain ⟨p3, ep3, hf⟩ := xbind hf
  refine xb_callV (As := [.ref x2]) (v0 := none) (τ0 := p3) dX2_copy_8 (xc_X10_copy _ _) xcl10 xw_968 xw_969 xw_970 hb rfl (Nat.le_of_ble_eq_true rfl) rfl (Nat.le_of_ble_eq_true rfl) (fun Q1 hq => m_X10_copy (d := d + 0) ep3 (fun g hg => by subst hg; exact hq)) ?_
  refine xm_aload_n dX2_copy_11 rfl ?_
  refine xb_getR (a := l0) (c := 2) (k := 1) dX2_copy_12 xcl2 (by decide) xw_261 rfl hf (fun x4 ex4 hf => ?_)
  refine xm_aload_n dX2_copy_15 rfl ?_
  refine xb_getR (a := l1) (c := 2) (k := 1) dX2_copy_16 xcl2 (by decide) xw_261 rfl hf (fun x5 ex5 hf => ?_)
  refine xb_if hf (fun hb hf => ?_) (fun _ q => nomatch q)
  obtain ⟨p6, ep6, hf⟩ := xbind hf
  refine xb_callV (As := [.ref x5]) (v0 := none) (τ0 := p6) dX2_copy_19 (xc_X10_copy _ _) xcl10 xw_968 xw_969 xw_970 hb rfl (Nat.le_of_ble_eq_true rfl) rfl (Nat.le_of_ble_eq_true rfl) (fun Q1 hq => m_X10_copy (d := d + 0) ep6 (fun g hg => by subst hg; exact hq)) ?_
  cases hf
  exact xm_vret dX2_copy_22 rfl (hR _ rfl)
-- Rankwise$Fraction.isZero()Z
def f_X2_isZero (σ : xM) (l0 : Nat) : Option Int32 :=
  (gR σ l0 2 0).bind (fun x1 => (if xk σ x1 10 = true then (f_X10_isZero σ x1).bind (fun p2 => (xz p2).bind (fun b3 => some b3)) else none))
set_option maxHeartbeats 4000000 in
set_option maxRecDepth 20000 in
theorem m_X2_isZero {G : xG} {π : Nat → Nat} {d C Z : Nat} {Q : xQ} {σ : xM} {l0 : Nat} {x : Int32} (hf : f_X2_isZero σ l0 = some x) (hR : ∀ g, x = g → Q (.inl (some (.int g))) (σ) π) : xMach G π J_X2_isZero (d + 1) C Z 0 (lv_args 0 [.ref l0]) [] σ Q := by
  unfold f_X2_isZero at hf
  refine xm_stL (L' := [(0, .ref l0)]) rfl ?_
  refine xm_aload_n dX2_isZero_0 rfl ?_
  refine xb_getR (a := l0) (c := 2) (k := 0) dX2_isZero_1 xcl2 (by decide) xw_256 rfl hf (fun x1 ex1 hf => ?_)
  refine xb_if hf (fun hb hf => ?_) (fun _ q => nomatch q)
  obtain ⟨p2, ep2, hf⟩ := xbind hf
  refine xb_callV (As := []) (v0 := (some (.int p2))) (τ0 := σ) dX2_isZero_4 (xc_X10_isZero _ _) xcl10 xw_993 xw_994 xw_995 hb rfl (Nat.le_of_ble_eq_true rfl) rfl (Nat.le_of_ble_eq_true rfl) (fun Q1 hq => m_X10_isZero (d := d + 0) ep2 (fun g hg => by subst hg; exact hq)) ?_
  obtain ⟨b3, eb3, hf⟩ := xbind hf
  obtain ⟨rfl, hz⟩ := xz_of eb3
  cases hf
  exact xm_zret dX2_isZero_7 rfl hz (hR _ rfl)
-- Rankwise$Fraction.isWhole()Z
def f_X2_isWhole (σ : xM) (l0 : Nat) : Option Int32 :=
  (gR σ l0 2 1).bind (fun x1 => (if xk σ x1 10 = true then (f_X10_isOne σ x1).bind (fun p2 => (xz p2).bind (fun b3 => some b3)) else none))
set_option maxHeartbeats 4000000 in
set_option maxRecDepth 20000 in
theorem m_X2_isWhole {G : xG} {π : Nat → Nat} {d C Z : Nat} {Q : xQ} {σ : xM} {l0 : Nat} {x : Int32} (hf : f_X2_isWhole σ l0 = some x) (hR : ∀ g, x = g → Q (.inl (some (.int g))) (σ) π) : xMach G π J_X2_isWhole (d + 1) C Z 0 (lv_args 0 [.ref l0]) [] σ Q := by
  unfold f_X2_isWhole at hf
  refine xm_stL (L' := [(0, .ref l0)]) rfl ?_
  refine xm_aload_n dX2_isWhole_0 rfl ?_
  refine xb_getR (a := l0) (c := 2) (k := 1) dX2_isWhole_1 xcl2 (by decide) xw_261 rfl hf (fun x1 ex1 hf => ?_)
  refine xb_if hf (fun hb hf => ?_) (fun _ q => nomatch q)
  obtain ⟨p2, ep2, hf⟩ := xbind hf
  refine xb_callV (As := []) (v0 := (some (.int p2))) (τ0 := σ) dX2_isWhole_4 (xc_X10_isOne _ _) xcl10 xw_1033 xw_1034 xw_1035 hb rfl (Nat.le_of_ble_eq_true rfl) rfl (Nat.le_of_ble_eq_true rfl) (fun Q1 hq => m_X10_isOne (d := d + 0) ep2 (fun g hg => by subst hg; exact hq)) ?_
  obtain ⟨b3, eb3, hf⟩ := xbind hf
  obtain ⟨rfl, hz⟩ := xz_of eb3
  cases hf
  exact xm_zret dX2_isWhole_7 rfl hz (hR _ rfl)
-- Rankwise$Fraction.set(J)V
def f_X2_set (σ : xM) (l0 : Nat) (l1 : Int64) : Option xM :=
  (gR σ l0 2 0).bind (fun x1 => (if xk σ x1 10 = true then (f_X10_set σ x1 l1).bind (fun p2 => (gR p2 l0 2 1).bind (fun x3 => (if xk p2 x3 10 = true then (f_X10_set p2 x3 (1 : Int64)).bind (fun p4 => some p4) else none))) else none))
set_option maxHeartbeats 4000000 in
set_option maxRecDepth 20000 in
theorem m_X2_set {G : xG} {π : Nat → Nat} {d C Z : Nat} {Q : xQ} {σ : xM} {l0 : Nat} {l1 : Int64} {x : xM} (hf : f_X2_set σ l0 l1 = some x) (hR : ∀ g, x = g → Q (.inl none) (g) π) : xMach G π J_X2_set (d + 1) C Z 0 (lv_args 0 [.ref l0, .long l1]) [] σ Q := by
  unfold f_X2_set at hf
  refine xm_stL (L' := [(0, .ref l0), (1, .long l1)]) rfl ?_
  refine xm_aload_n dX2_set_0 rfl ?_
  refine xb_getR (a := l0) (c := 2) (k := 0) dX2_set_1 xcl2 (by decide) xw_256 rfl hf (fun x1 ex1 hf => ?_)
  refine xm_lload_n dX2_set_4 rfl ?_
  refine xb_if hf (fun hb hf => ?_) (fun _ q => nomatch q)
  obtain ⟨p2, ep2, hf⟩ := xbind hf
  refine xb_callV (As := [.long l1]) (v0 := none) (τ0 := p2) dX2_set_5 (xc_X10_set _ _) xcl10 xw_251 xw_252 xw_253 hb rfl (Nat.le_of_ble_eq_true rfl) rfl (Nat.le_of_ble_eq_true rfl) (fun Q1 hq => m_X10_set (d := d + 0) ep2 (fun g hg => by subst hg; exact hq)) ?_
  refine xm_aload_n dX2_set_8 rfl ?_
  refine xb_getR (a := l0) (c := 2) (k := 1) dX2_set_9 xcl2 (by decide) xw_261 rfl hf (fun x3 ex3 hf => ?_)
  refine xm_lconst dX2_set_12 (v := 1) (by decide) ?_
  refine xb_if hf (fun hb hf => ?_) (fun _ q => nomatch q)
  obtain ⟨p4, ep4, hf⟩ := xbind hf
  refine xb_callV (As := [.long (1 : Int64)]) (v0 := none) (τ0 := p4) dX2_set_13 (xc_X10_set _ _) xcl10 xw_251 xw_252 xw_253 hb rfl (Nat.le_of_ble_eq_true rfl) rfl (Nat.le_of_ble_eq_true rfl) (fun Q1 hq => m_X10_set (d := d + 0) ep4 (fun g hg => by subst hg; exact hq)) ?_
  cases hf
  exact xm_vret dX2_set_16 rfl (hR _ rfl)
-- Rankwise$Fraction.fits()Z
def f_X2_fits_j31 (σ : xM) (s0 : Int32) : Option Int32 :=
  (xz s0).bind (fun b3 => some b3)
set_option maxHeartbeats 4000000 in
set_option maxRecDepth 20000 in
theorem L_X2_fits_j31 {G : xG} {π : Nat → Nat} {d C Z : Nat} {Q : xQ} (σ : xM) (s0 : Int32) {x : Int32} (hf : f_X2_fits_j31 σ s0 = some x) (hR : ∀ g, x = g → Q (.inl (some (.int g))) (σ) π) : xMach G π J_X2_fits (d + 1) C Z 31 [] [.int s0] σ Q := by
  unfold f_X2_fits_j31 at hf
  obtain ⟨b3, eb3, hf⟩ := xbind hf
  obtain ⟨rfl, hz⟩ := xz_of eb3
  cases hf
  exact xm_zret dX2_fits_31 rfl hz (hR _ rfl)
def f_X2_fits_j30 (σ : xM)  : Option Int32 :=
  f_X2_fits_j31 σ (0 : Int32)
set_option maxHeartbeats 4000000 in
set_option maxRecDepth 20000 in
theorem L_X2_fits_j30 {G : xG} {π : Nat → Nat} {d C Z : Nat} {Q : xQ} (σ : xM)  {x : Int32} (hf : f_X2_fits_j30 σ = some x) (hR : ∀ g, x = g → Q (.inl (some (.int g))) (σ) π) : xMach G π J_X2_fits (d + 1) C Z 30 [] [] σ Q := by
  unfold f_X2_fits_j30 at hf
  refine xm_iconst dX2_fits_30 (v := 0) (by decide) ?_
  exact xm_sub [] rfl (L_X2_fits_j31 σ (0 : Int32) hf hR)
def f_X2_fits (σ : xM) (l0 : Nat) : Option Int32 :=
  (gR σ l0 2 0).bind (fun x1 => (if xk σ x1 10 = true then (f_X10_bits σ x1).bind (fun p2 => (if (200 : Int32) < p2 then f_X2_fits_j30 σ else (gR σ l0 2 1).bind (fun x4 => (if xk σ x4 10 = true then (f_X10_bits σ x4).bind (fun p5 => (if (200 : Int32) < p5 then f_X2_fits_j30 σ else f_X2_fits_j31 σ (1 : Int32))) else none)))) else none))
set_option maxHeartbeats 4000000 in
set_option maxRecDepth 20000 in
theorem m_X2_fits {G : xG} {π : Nat → Nat} {d C Z : Nat} {Q : xQ} {σ : xM} {l0 : Nat} {x : Int32} (hf : f_X2_fits σ l0 = some x) (hR : ∀ g, x = g → Q (.inl (some (.int g))) (σ) π) : xMach G π J_X2_fits (d + 1) C Z 0 (lv_args 0 [.ref l0]) [] σ Q := by
  unfold f_X2_fits at hf
  refine xm_stL (L' := [(0, .ref l0)]) rfl ?_
  refine xm_aload_n dX2_fits_0 rfl ?_
  refine xb_getR (a := l0) (c := 2) (k := 0) dX2_fits_1 xcl2 (by decide) xw_256 rfl hf (fun x1 ex1 hf => ?_)
  refine xb_if hf (fun hb hf => ?_) (fun _ q => nomatch q)
  obtain ⟨p2, ep2, hf⟩ := xbind hf
  refine xb_callV (As := []) (v0 := (some (.int p2))) (τ0 := σ) dX2_fits_4 (xc_X10_bits _ _) xcl10 xw_1127 xw_1128 xw_1129 hb rfl (Nat.le_of_ble_eq_true rfl) rfl (Nat.le_of_ble_eq_true rfl) (fun Q1 hq => m_X10_bits (d := d + 0) ep2 (fun g hg => by subst hg; exact hq)) ?_
  refine xm_sipush dX2_fits_7 (v := 200) (by decide) ?_
  refine xb_icmp_gt 30 dX2_fits_10 (by decide) hf (fun c hf => ?_) (fun c hf => ?_)
  · exact xm_sub [] rfl (L_X2_fits_j30 σ hf hR)
  · refine xm_aload_n dX2_fits_13 rfl ?_
    refine xb_getR (a := l0) (c := 2) (k := 1) dX2_fits_14 xcl2 (by decide) xw_261 rfl hf (fun x4 ex4 hf => ?_)
    refine xb_if hf (fun hb hf => ?_) (fun _ q => nomatch q)
    obtain ⟨p5, ep5, hf⟩ := xbind hf
    refine xb_callV (As := []) (v0 := (some (.int p5))) (τ0 := σ) dX2_fits_17 (xc_X10_bits _ _) xcl10 xw_1127 xw_1128 xw_1129 hb rfl (Nat.le_of_ble_eq_true rfl) rfl (Nat.le_of_ble_eq_true rfl) (fun Q1 hq => m_X10_bits (d := d + 0) ep5 (fun g hg => by subst hg; exact hq)) ?_
    refine xm_sipush dX2_fits_20 (v := 200) (by decide) ?_
    refine xb_icmp_gt 30 dX2_fits_23 (by decide) hf (fun c hf => ?_) (fun c hf => ?_)
    · exact xm_sub [] rfl (L_X2_fits_j30 σ hf hR)
    · refine xm_iconst dX2_fits_26 (v := 1) (by decide) ?_
      refine xm_goto 31 dX2_fits_27 (by decide) ?_
      exact xm_sub [] rfl (L_X2_fits_j31 σ (1 : Int32) hf hR)
-- Rankwise$Fraction.sameAs(LRankwise$Fraction;)Z
def f_X2_sameAs_j33 (σ : xM) (s0 : Int32) : Option Int32 :=
  (xz s0).bind (fun b4 => some b4)
set_option maxHeartbeats 4000000 in
set_option maxRecDepth 20000 in
theorem L_X2_sameAs_j33 {G : xG} {π : Nat → Nat} {d C Z : Nat} {Q : xQ} (σ : xM) (s0 : Int32) {x : Int32} (hf : f_X2_sameAs_j33 σ s0 = some x) (hR : ∀ g, x = g → Q (.inl (some (.int g))) (σ) π) : xMach G π J_X2_sameAs (d + 2) C Z 33 [] [.int s0] σ Q := by
  unfold f_X2_sameAs_j33 at hf
  obtain ⟨b4, eb4, hf⟩ := xbind hf
  obtain ⟨rfl, hz⟩ := xz_of eb4
  cases hf
  exact xm_zret dX2_sameAs_33 rfl hz (hR _ rfl)
def f_X2_sameAs_j32 (σ : xM)  : Option Int32 :=
  f_X2_sameAs_j33 σ (0 : Int32)
set_option maxHeartbeats 4000000 in
set_option maxRecDepth 20000 in
theorem L_X2_sameAs_j32 {G : xG} {π : Nat → Nat} {d C Z : Nat} {Q : xQ} (σ : xM)  {x : Int32} (hf : f_X2_sameAs_j32 σ = some x) (hR : ∀ g, x = g → Q (.inl (some (.int g))) (σ) π) : xMach G π J_X2_sameAs (d + 2) C Z 32 [] [] σ Q := by
  unfold f_X2_sameAs_j32 at hf
  refine xm_iconst dX2_sameAs_32 (v := 0) (by decide) ?_
  exact xm_sub [] rfl (L_X2_sameAs_j33 σ (0 : Int32) hf hR)
def f_X2_sameAs (σ : xM) (l0 : Nat) (l1 : Nat) : Option Int32 :=
  (gR σ l0 2 0).bind (fun x1 => (gR σ l1 2 0).bind (fun x2 => (f_X10_compareSigned σ x1 x2).bind (fun p3 => (if p3 = (0 : Int32) then (gR σ l0 2 1).bind (fun x5 => (gR σ l1 2 1).bind (fun x6 => (f_X10_compareSigned σ x5 x6).bind (fun p7 => (if p7 = (0 : Int32) then f_X2_sameAs_j33 σ (1 : Int32) else f_X2_sameAs_j32 σ)))) else f_X2_sameAs_j32 σ))))
set_option maxHeartbeats 4000000 in
set_option maxRecDepth 20000 in
theorem m_X2_sameAs {G : xG} {π : Nat → Nat} {d C Z : Nat} {Q : xQ} {σ : xM} {l0 : Nat} {l1 : Nat} {x : Int32} (hf : f_X2_sameAs σ l0 l1 = some x) (hR : ∀ g, x = g → Q (.inl (some (.int g))) (σ) π) : xMach G π J_X2_sameAs (d + 2) C Z 0 (lv_args 0 [.ref l0, .ref l1]) [] σ Q := by
  unfold f_X2_sameAs at hf
  refine xm_stL (L' := [(0, .ref l0), (1, .ref l1)]) rfl ?_
  refine xm_aload_n dX2_sameAs_0 rfl ?_
  refine xb_getR (a := l0) (c := 2) (k := 0) dX2_sameAs_1 xcl2 (by decide) xw_256 rfl hf (fun x1 ex1 hf => ?_)
  refine xm_aload_n dX2_sameAs_4 rfl ?_
  refine xb_getR (a := l1) (c := 2) (k := 0) dX2_sameAs_5 xcl2 (by decide) xw_256 rfl hf (fun x2 ex2 hf => ?_)
  obtain ⟨p3, ep3, hf⟩ := xbind hf
  refine xb_callS (As := [.ref x1, .ref x2]) (v0 := (some (.int p3))) (τ0 := σ) dX2_sameAs_8 (xc_X10_compareSigned _ _) xw_1187 xw_1181 rfl (Nat.le_of_ble_eq_true rfl) rfl (Nat.le_of_ble_eq_true rfl) (fun Q1 hq => m_X10_compareSigned (d := d + 0) ep3 (fun g hg => by subst hg; exact hq)) ?_
  refine xb_if_ne 32 dX2_sameAs_11 (by decide) hf (fun c hf => ?_) (fun c hf => ?_)
  · exact xm_sub [] rfl (L_X2_sameAs_j32 σ hf hR)
  · refine xm_aload_n dX2_sameAs_14 rfl ?_
    refine xb_getR (a := l0) (c := 2) (k := 1) dX2_sameAs_15 xcl2 (by decide) xw_261 rfl hf (fun x5 ex5 hf => ?_)
    refine xm_aload_n dX2_sameAs_18 rfl ?_
    refine xb_getR (a := l1) (c := 2) (k := 1) dX2_sameAs_19 xcl2 (by decide) xw_261 rfl hf (fun x6 ex6 hf => ?_)
    obtain ⟨p7, ep7, hf⟩ := xbind hf
    refine xb_callS (As := [.ref x5, .ref x6]) (v0 := (some (.int p7))) (τ0 := σ) dX2_sameAs_22 (xc_X10_compareSigned _ _) xw_1187 xw_1181 rfl (Nat.le_of_ble_eq_true rfl) rfl (Nat.le_of_ble_eq_true rfl) (fun Q1 hq => m_X10_compareSigned (d := d + 0) ep7 (fun g hg => by subst hg; exact hq)) ?_
    refine xb_if_ne 32 dX2_sameAs_25 (by decide) hf (fun c hf => ?_) (fun c hf => ?_)
    · exact xm_sub [] rfl (L_X2_sameAs_j32 σ hf hR)
    · refine xm_iconst dX2_sameAs_28 (v := 1) (by decide) ?_
      refine xm_goto 33 dX2_sameAs_29 (by decide) ?_
      exact xm_sub [] rfl (L_X2_sameAs_j33 σ (1 : Int32) hf hR)
