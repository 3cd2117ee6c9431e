-- RankwiseModel.multiplyValues(III)Z
def f_X12_multiplyValues (σ : xM) (l0 : Nat) (l1 : Int32) (l2 : Int32) (l3 : Int32) : Option (Int32 × xM) :=
  (if xk σ l0 12 = true then (f_X12_loadNumerator σ l0 (2 : Int32) l2).bind (fun p1 => (if xk p1 l0 12 = true then (f_X12_loadDenominator p1 l0 (3 : Int32) l2).bind (fun p2 => (if xk p2 l0 12 = true then (f_X12_loadNumerator p2 l0 (4 : Int32) l3).bind (fun p3 => (if xk p3 l0 12 = true then (f_X12_loadDenominator p3 l0 (5 : Int32) l3).bind (fun p4 => (if xk p4 l0 12 = true then (f_X12_times p4 l0 (0 : Int32) (2 : Int32) (4 : Int32)).bind (fun p5 => (if xk p5 l0 12 = true then (f_X12_times p5 l0 (1 : Int32) (3 : Int32) (5 : Int32)).bind (fun p6 => (if xk p6 l0 12 = true then (f_X12_sign p6 l0 l2).bind (fun p7 => (if xk p6 l0 12 = true then (f_X12_sign p6 l0 l3).bind (fun p8 => (if xk p6 l0 12 = true then (f_X12_store p6 l0 l1 (p7 * p8)).bind (fun p9 => (xz p9.1).bind (fun b10 => some (b10, p9.2))) else none)) else none)) else none)) else none)) else none)) else none)) else none)) else none)) else none)
set_option maxHeartbeats 4000000 in
set_option maxRecDepth 20000 in
theorem m_X12_multiplyValues {G : xG} {π : Nat → Nat} {d C Z : Nat} {Q : xQ} {σ : xM} {l0 : Nat} {l1 : Int32} {l2 : Int32} {l3 : Int32} {x : (Int32 × xM)} (hf : f_X12_multiplyValues σ l0 l1 l2 l3 = some x) (hR : ∀ g, x = g → Q (.inl (some (.int g.1))) (g.2) π) : xMach G π J_X12_multiplyValues (d + 5) C Z 0 (lv_args 0 [.ref l0, .int l1, .int l2, .int l3]) [] σ Q := by
  unfold f_X12_multiplyValues at hf
  refine xm_stL (L' := [(0, .ref l0), (1, .int l1), (2, .int l2), (3, .int l3)]) rfl ?_
  refine xm_aload_n dX12_multiplyValues_0 rfl ?_
  refine xm_iconst dX12_multiplyValues_1 (v := 2) (by decide) ?_
  refine xm_iload_n dX12_multiplyValues_2 rfl ?_
  refine xb_if hf (fun hb hf => ?_) (fun _ q => nomatch q)
  obtain ⟨p1, ep1, hf⟩ := xbind hf
  refine xb_callV (As := [.int (2 : Int32), .int l2]) (v0 := none) (τ0 := p1) dX12_multiplyValues_3 (xc_X12_loadNumerator _ _) xcl12 xw_2403 xw_2405 xs_145 hb rfl (Nat.le_of_ble_eq_true rfl) rfl (Nat.le_of_ble_eq_true rfl) (fun Q1 hq => m_X12_loadNumerator (d := d + 2) ep1 (fun g hg => by subst hg; exact hq)) ?_
  refine xm_aload_n dX12_multiplyValues_6 rfl ?_
  refine xm_iconst dX12_multiplyValues_7 (v := 3) (by decide) ?_
  refine xm_iload_n dX12_multiplyValues_8 rfl ?_
  refine xb_if hf (fun hb hf => ?_) (fun _ q => nomatch q)
  obtain ⟨p2, ep2, hf⟩ := xbind hf
  refine xb_callV (As := [.int (3 : Int32), .int l2]) (v0 := none) (τ0 := p2) dX12_multiplyValues_9 (xc_X12_loadDenominator _ _) xcl12 xw_2411 xw_2413 xs_147 hb rfl (Nat.le_of_ble_eq_true rfl) rfl (Nat.le_of_ble_eq_true rfl) (fun Q1 hq => m_X12_loadDenominator (d := d + 2) ep2 (fun g hg => by subst hg; exact hq)) ?_
  refine xm_aload_n dX12_multiplyValues_12 rfl ?_
  refine xm_iconst dX12_multiplyValues_13 (v := 4) (by decide) ?_
  refine xm_iload_n dX12_multiplyValues_14 rfl ?_
  refine xb_if hf (fun hb hf => ?_) (fun _ q => nomatch q)
  obtain ⟨p3, ep3, hf⟩ := xbind hf
  refine xb_callV (As := [.int (4 : Int32), .int l3]) (v0 := none) (τ0 := p3) dX12_multiplyValues_15 (xc_X12_loadNumerator _ _) xcl12 xw_2403 xw_2405 xs_145 hb rfl (Nat.le_of_ble_eq_true rfl) rfl (Nat.le_of_ble_eq_true rfl) (fun Q1 hq => m_X12_loadNumerator (d := d + 2) ep3 (fun g hg => by subst hg; exact hq)) ?_
  refine xm_aload_n dX12_multiplyValues_18 rfl ?_
  refine xm_iconst dX12_multiplyValues_19 (v := 5) (by decide) ?_
  refine xm_iload_n dX12_multiplyValues_20 rfl ?_
  refine xb_if hf (fun hb hf => ?_) (fun _ q => nomatch q)
  obtain ⟨p4, ep4, hf⟩ := xbind hf
  refine xb_callV (As := [.int (5 : Int32), .int l3]) (v0 := none) (τ0 := p4) dX12_multiplyValues_21 (xc_X12_loadDenominator _ _) xcl12 xw_2411 xw_2413 xs_147 hb rfl (Nat.le_of_ble_eq_true rfl) rfl (Nat.le_of_ble_eq_true rfl) (fun Q1 hq => m_X12_loadDenominator (d := d + 2) ep4 (fun g hg => by subst hg; exact hq)) ?_
  refine xm_aload_n dX12_multiplyValues_24 rfl ?_
  refine xm_iconst dX12_multiplyValues_25 (v := 0) (by decide) ?_
  refine xm_iconst dX12_multiplyValues_26 (v := 2) (by decide) ?_
  refine xm_iconst dX12_multiplyValues_27 (v := 4) (by decide) ?_
  refine xb_if hf (fun hb hf => ?_) (fun _ q => nomatch q)
  obtain ⟨p5, ep5, hf⟩ := xbind hf
  refine xb_callV (As := [.int (0 : Int32), .int (2 : Int32), .int (4 : Int32)]) (v0 := none) (τ0 := p5) dX12_multiplyValues_28 (xc_X12_times _ _) xcl12 xw_2415 xw_2417 xs_148 hb rfl (Nat.le_of_ble_eq_true rfl) rfl (Nat.le_of_ble_eq_true rfl) (fun Q1 hq => m_X12_times (d := d + 3) ep5 (fun g hg => by subst hg; exact hq)) ?_
  refine xm_aload_n dX12_multiplyValues_31 rfl ?_
  refine xm_iconst dX12_multiplyValues_32 (v := 1) (by decide) ?_
  refine xm_iconst dX12_multiplyValues_33 (v := 3) (by decide) ?_
  refine xm_iconst dX12_multiplyValues_34 (v := 5) (by decide) ?_
  refine xb_if hf (fun hb hf => ?_) (fun _ q => nomatch q)
  obtain ⟨p6, ep6, hf⟩ := xbind hf
  refine xb_callV (As := [.int (1 : Int32), .int (3 : Int32), .int (5 : Int32)]) (v0 := none) (τ0 := p6) dX12_multiplyValues_35 (xc_X12_times _ _) xcl12 xw_2415 xw_2417 xs_148 hb rfl (Nat.le_of_ble_eq_true rfl) rfl (Nat.le_of_ble_eq_true rfl) (fun Q1 hq => m_X12_times (d := d + 3) ep6 (fun g hg => by subst hg; exact hq)) ?_
  refine xm_aload_n dX12_multiplyValues_38 rfl ?_
  refine xm_iload_n dX12_multiplyValues_39 rfl ?_
  refine xm_aload_n dX12_multiplyValues_40 rfl ?_
  refine xm_iload_n dX12_multiplyValues_41 rfl ?_
  refine xb_if hf (fun hb hf => ?_) (fun _ q => nomatch q)
  obtain ⟨p7, ep7, hf⟩ := xbind hf
  refine xb_callV (As := [.int l2]) (v0 := (some (.int p7))) (τ0 := p6) dX12_multiplyValues_42 (xc_X12_sign _ _) xcl12 xw_2387 xw_2389 xs_141 hb rfl (Nat.le_of_ble_eq_true rfl) rfl (Nat.le_of_ble_eq_true rfl) (fun Q1 hq => m_X12_sign (d := d + 4) ep7 (fun g hg => by subst hg; exact hq)) ?_
  refine xm_aload_n dX12_multiplyValues_45 rfl ?_
  refine xm_iload_n dX12_multiplyValues_46 rfl ?_
  refine xb_if hf (fun hb hf => ?_) (fun _ q => nomatch q)
  obtain ⟨p8, ep8, hf⟩ := xbind hf
  refine xb_callV (As := [.int l3]) (v0 := (some (.int p8))) (τ0 := p6) dX12_multiplyValues_47 (xc_X12_sign _ _) xcl12 xw_2387 xw_2389 xs_141 hb rfl (Nat.le_of_ble_eq_true rfl) rfl (Nat.le_of_ble_eq_true rfl) (fun Q1 hq => m_X12_sign (d := d + 4) ep8 (fun g hg => by subst hg; exact hq)) ?_
  refine xm_imul dX12_multiplyValues_50 ?_
  refine xb_if hf (fun hb hf => ?_) (fun _ q => nomatch q)
  obtain ⟨p9, ep9, hf⟩ := xbind hf
  refine xb_callV (As := [.int l1, .int (p7 * p8)]) (v0 := (some (.int p9.1))) (τ0 := p9.2) dX12_multiplyValues_51 (xc_X12_store _ _) xcl12 xw_2440 xw_2442 xs_154 hb rfl (Nat.le_of_ble_eq_true rfl) rfl (Nat.le_of_ble_eq_true rfl) (fun Q1 hq => m_X12_store (d := d + 0) ep9 (fun g hg => by subst hg; exact hq)) ?_
  obtain ⟨b10, eb10, hf⟩ := xbind hf
  obtain ⟨rfl, hz⟩ := xz_of eb10
  cases hf
  exact xm_zret dX12_multiplyValues_54 rfl hz (hR _ rfl)
-- RankwiseModel.divideValues(III)Z
def f_X12_divideValues (σ : xM) (l0 : Nat) (l1 : Int32) (l2 : Int32) (l3 : Int32) : Option (Int32 × xM) :=
  (if xk σ l0 12 = true then (f_X12_loadNumerator σ l0 (2 : Int32) l2).bind (fun p1 => (if xk p1 l0 12 = true then (f_X12_loadDenominator p1 l0 (3 : Int32) l2).bind (fun p2 => (if xk p2 l0 12 = true then (f_X12_loadNumerator p2 l0 (4 : Int32) l3).bind (fun p3 => (if xk p3 l0 12 = true then (f_X12_loadDenominator p3 l0 (5 : Int32) l3).bind (fun p4 => (if xk p4 l0 12 = true then (f_X12_times p4 l0 (0 : Int32) (2 : Int32) (5 : Int32)).bind (fun p5 => (if xk p5 l0 12 = true then (f_X12_times p5 l0 (1 : Int32) (3 : Int32) (4 : Int32)).bind (fun p6 => (if xk p6 l0 12 = true then (f_X12_sign p6 l0 l2).bind (fun p7 => (if xk p6 l0 12 = true then (f_X12_sign p6 l0 l3).bind (fun p8 => (if xk p6 l0 12 = true then (f_X12_store p6 l0 l1 (p7 * p8)).bind (fun p9 => (xz p9.1).bind (fun b10 => some (b10, p9.2))) else none)) else none)) else none)) else none)) else none)) else none)) else none)) else none)) else none)
set_option maxHeartbeats 4000000 in
set_option maxRecDepth 20000 in
theorem m_X12_divideValues {G : xG} {π : Nat → Nat} {d C Z : Nat} {Q : xQ} {σ : xM} {l0 : Nat} {l1 : Int32} {l2 : Int32} {l3 : Int32} {x : (Int32 × xM)} (hf : f_X12_divideValues σ l0 l1 l2 l3 = some x) (hR : ∀ g, x = g → Q (.inl (some (.int g.1))) (g.2) π) : xMach G π J_X12_divideValues (d + 5) C Z 0 (lv_args 0 [.ref l0, .int l1, .int l2, .int l3]) [] σ Q := by
  unfold f_X12_divideValues at hf
  refine xm_stL (L' := [(0, .ref l0), (1, .int l1), (2, .int l2), (3, .int l3)]) rfl ?_
  refine xm_aload_n dX12_divideValues_0 rfl ?_
  refine xm_iconst dX12_divideValues_1 (v := 2) (by decide) ?_
  refine xm_iload_n dX12_divideValues_2 rfl ?_
  refine xb_if hf (fun hb hf => ?_) (fun _ q => nomatch q)
  obtain ⟨p1, ep1, hf⟩ := xbind hf
  refine xb_callV (As := [.int (2 : Int32), .int l2]) (v0 := none) (τ0 := p1) dX12_divideValues_3 (xc_X12_loadNumerator _ _) xcl12 xw_2403 xw_2405 xs_145 hb rfl (Nat.le_of_ble_eq_true rfl) rfl (Nat.le_of_ble_eq_true rfl) (fun Q1 hq => m_X12_loadNumerator (d := d + 2) ep1 (fun g hg => by subst hg; exact hq)) ?_
  refine xm_aload_n dX12_divideValues_6 rfl ?_
  refine xm_iconst dX12_divideValues_7 (v := 3) (by decide) ?_
  refine xm_iload_n dX12_divideValues_8 rfl ?_
  refine xb_if hf (fun hb hf => ?_) (fun _ q => nomatch q)
  obtain ⟨p2, ep2, hf⟩ := xbind hf
  refine xb_callV (As := [.int (3 : Int32), .int l2]) (v0 := none) (τ0 := p2) dX12_divideValues_9 (xc_X12_loadDenominator _ _) xcl12 xw_2411 xw_2413 xs_147 hb rfl (Nat.le_of_ble_eq_true rfl) rfl (Nat.le_of_ble_eq_true rfl) (fun Q1 hq => m_X12_loadDenominator (d := d + 2) ep2 (fun g hg => by subst hg; exact hq)) ?_
  refine xm_aload_n dX12_divideValues_12 rfl ?_
  refine xm_iconst dX12_divideValues_13 (v := 4) (by decide) ?_
  refine xm_iload_n dX12_divideValues_14 rfl ?_
  refine xb_if hf (fun hb hf => ?_) (fun _ q => nomatch q)
  obtain ⟨p3, ep3, hf⟩ := xbind hf
  refine xb_callV (As := [.int (4 : Int32), .int l3]) (v0 := none) (τ0 := p3) dX12_divideValues_15 (xc_X12_loadNumerator _ _) xcl12 xw_2403 xw_2405 xs_145 hb rfl (Nat.le_of_ble_eq_true rfl) rfl (Nat.le_of_ble_eq_true rfl) (fun Q1 hq => m_X12_loadNumerator (d := d + 2) ep3 (fun g hg => by subst hg; exact hq)) ?_
  refine xm_aload_n dX12_divideValues_18 rfl ?_
  refine xm_iconst dX12_divideValues_19 (v := 5) (by decide) ?_
  refine xm_iload_n dX12_divideValues_20 rfl ?_
  refine xb_if hf (fun hb hf => ?_) (fun _ q => nomatch q)
  obtain ⟨p4, ep4, hf⟩ := xbind hf
  refine xb_callV (As := [.int (5 : Int32), .int l3]) (v0 := none) (τ0 := p4) dX12_divideValues_21 (xc_X12_loadDenominator _ _) xcl12 xw_2411 xw_2413 xs_147 hb rfl (Nat.le_of_ble_eq_true rfl) rfl (Nat.le_of_ble_eq_true rfl) (fun Q1 hq => m_X12_loadDenominator (d := d + 2) ep4 (fun g hg => by subst hg; exact hq)) ?_
  refine xm_aload_n dX12_divideValues_24 rfl ?_
  refine xm_iconst dX12_divideValues_25 (v := 0) (by decide) ?_
  refine xm_iconst dX12_divideValues_26 (v := 2) (by decide) ?_
  refine xm_iconst dX12_divideValues_27 (v := 5) (by decide) ?_
  refine xb_if hf (fun hb hf => ?_) (fun _ q => nomatch q)
  obtain ⟨p5, ep5, hf⟩ := xbind hf
  refine xb_callV (As := [.int (0 : Int32), .int (2 : Int32), .int (5 : Int32)]) (v0 := none) (τ0 := p5) dX12_divideValues_28 (xc_X12_times _ _) xcl12 xw_2415 xw_2417 xs_148 hb rfl (Nat.le_of_ble_eq_true rfl) rfl (Nat.le_of_ble_eq_true rfl) (fun Q1 hq => m_X12_times (d := d + 3) ep5 (fun g hg => by subst hg; exact hq)) ?_
  refine xm_aload_n dX12_divideValues_31 rfl ?_
  refine xm_iconst dX12_divideValues_32 (v := 1) (by decide) ?_
  refine xm_iconst dX12_divideValues_33 (v := 3) (by decide) ?_
  refine xm_iconst dX12_divideValues_34 (v := 4) (by decide) ?_
  refine xb_if hf (fun hb hf => ?_) (fun _ q => nomatch q)
  obtain ⟨p6, ep6, hf⟩ := xbind hf
  refine xb_callV (As := [.int (1 : Int32), .int (3 : Int32), .int (4 : Int32)]) (v0 := none) (τ0 := p6) dX12_divideValues_35 (xc_X12_times _ _) xcl12 xw_2415 xw_2417 xs_148 hb rfl (Nat.le_of_ble_eq_true rfl) rfl (Nat.le_of_ble_eq_true rfl) (fun Q1 hq => m_X12_times (d := d + 3) ep6 (fun g hg => by subst hg; exact hq)) ?_
  refine xm_aload_n dX12_divideValues_38 rfl ?_
  refine xm_iload_n dX12_divideValues_39 rfl ?_
  refine xm_aload_n dX12_divideValues_40 rfl ?_
  refine xm_iload_n dX12_divideValues_41 rfl ?_
  refine xb_if hf (fun hb hf => ?_) (fun _ q => nomatch q)
  obtain ⟨p7, ep7, hf⟩ := xbind hf
  refine xb_callV (As := [.int l2]) (v0 := (some (.int p7))) (τ0 := p6) dX12_divideValues_42 (xc_X12_sign _ _) xcl12 xw_2387 xw_2389 xs_141 hb rfl (Nat.le_of_ble_eq_true rfl) rfl (Nat.le_of_ble_eq_true rfl) (fun Q1 hq => m_X12_sign (d := d + 4) ep7 (fun g hg => by subst hg; exact hq)) ?_
  refine xm_aload_n dX12_divideValues_45 rfl ?_
  refine xm_iload_n dX12_divideValues_46 rfl ?_
  refine xb_if hf (fun hb hf => ?_) (fun _ q => nomatch q)
  obtain ⟨p8, ep8, hf⟩ := xbind hf
  refine xb_callV (As := [.int l3]) (v0 := (some (.int p8))) (τ0 := p6) dX12_divideValues_47 (xc_X12_sign _ _) xcl12 xw_2387 xw_2389 xs_141 hb rfl (Nat.le_of_ble_eq_true rfl) rfl (Nat.le_of_ble_eq_true rfl) (fun Q1 hq => m_X12_sign (d := d + 4) ep8 (fun g hg => by subst hg; exact hq)) ?_
  refine xm_imul dX12_divideValues_50 ?_
  refine xb_if hf (fun hb hf => ?_) (fun _ q => nomatch q)
  obtain ⟨p9, ep9, hf⟩ := xbind hf
  refine xb_callV (As := [.int l1, .int (p7 * p8)]) (v0 := (some (.int p9.1))) (τ0 := p9.2) dX12_divideValues_51 (xc_X12_store _ _) xcl12 xw_2440 xw_2442 xs_154 hb rfl (Nat.le_of_ble_eq_true rfl) rfl (Nat.le_of_ble_eq_true rfl) (fun Q1 hq => m_X12_store (d := d + 0) ep9 (fun g hg => by subst hg; exact hq)) ?_
  obtain ⟨b10, eb10, hf⟩ := xbind hf
  obtain ⟨rfl, hz⟩ := xz_of eb10
  cases hf
  exact xm_zret dX12_divideValues_54 rfl hz (hR _ rfl)
-- RankwiseModel.compareValues(II)I
def f_X12_compareValues_j31 (σ : xM) (s0 : Int32) : Option (Int32 × xM) :=
  some (s0, σ)
set_option maxHeartbeats 4000000 in
set_option maxRecDepth 20000 in
theorem L_X12_compareValues_j31 {G : xG} {π : Nat → Nat} {d C Z : Nat} {Q : xQ} (σ : xM) (s0 : Int32) {x : (Int32 × xM)} (hf : f_X12_compareValues_j31 σ s0 = some x) (hR : ∀ g, x = g → Q (.inl (some (.int g.1))) (g.2) π) : xMach G π J_X12_compareValues (d + 3) C Z 31 [] [.int s0] σ Q := by
  unfold f_X12_compareValues_j31 at hf
  cases hf
  exact xm_iret dX12_compareValues_31 rfl (hR _ rfl)
def f_X12_compareValues (σ : xM) (l0 : Nat) (l1 : Int32) (l2 : Int32) : Option (Int32 × xM) :=
  (if xk σ l0 12 = true then (f_X12_sign σ l0 l1).bind (fun p1 => (if xk σ l0 12 = true then (f_X12_sign σ l0 l2).bind (fun p2 => (if p1 = p2 then (if xk σ l0 12 = true then (f_X12_loadNumerator σ l0 (2 : Int32) l1).bind (fun p3 => (if xk p3 l0 12 = true then (f_X12_loadDenominator p3 l0 (3 : Int32) l1).bind (fun p4 => (if xk p4 l0 12 = true then (f_X12_loadNumerator p4 l0 (4 : Int32) l2).bind (fun p5 => (if xk p5 l0 12 = true then (f_X12_loadDenominator p5 l0 (5 : Int32) l2).bind (fun p6 => (if xk p6 l0 12 = true then (f_X12_times p6 l0 (6 : Int32) (2 : Int32) (5 : Int32)).bind (fun p7 => (if xk p7 l0 12 = true then (f_X12_times p7 l0 (7 : Int32) (4 : Int32) (3 : Int32)).bind (fun p8 => (if xk p8 l0 12 = true then (f_X12_sign p8 l0 l1).bind (fun p9 => (if xk p8 l0 12 = true then (f_X12_compare p8 l0 (6 : Int32) (7 : Int32)).bind (fun p10 => some ((p9 * p10), p8)) else none)) else none)) else none)) else none)) else none)) else none)) else none)) else none) else (if xk σ l0 12 = true then (f_X12_sign σ l0 l1).bind (fun p11 => (if xk σ l0 12 = true then (f_X12_sign σ l0 l2).bind (fun p12 => (if p12 ≤ p11 then f_X12_compareValues_j31 σ (1 : Int32) else f_X12_compareValues_j31 σ (-1 : Int32))) else none)) else none))) else none)) else none)
set_option maxHeartbeats 4000000 in
set_option maxRecDepth 20000 in
theorem m_X12_compareValues {G : xG} {π : Nat → Nat} {d C Z : Nat} {Q : xQ} {σ : xM} {l0 : Nat} {l1 : Int32} {l2 : Int32} {x : (Int32 × xM)} (hf : f_X12_compareValues σ l0 l1 l2 = some x) (hR : ∀ g, x = g → Q (.inl (some (.int g.1))) (g.2) π) : xMach G π J_X12_compareValues (d + 3) C Z 0 (lv_args 0 [.ref l0, .int l1, .int l2]) [] σ Q := by
  unfold f_X12_compareValues at hf
  refine xm_stL (L' := [(0, .ref l0), (1, .int l1), (2, .int l2)]) rfl ?_
  refine xm_aload_n dX12_compareValues_0 rfl ?_
  refine xm_iload_n dX12_compareValues_1 rfl ?_
  refine xb_if hf (fun hb hf => ?_) (fun _ q => nomatch q)
  obtain ⟨p1, ep1, hf⟩ := xbind hf
  refine xb_callV (As := [.int l1]) (v0 := (some (.int p1))) (τ0 := σ) dX12_compareValues_2 (xc_X12_sign _ _) xcl12 xw_2387 xw_2389 xs_141 hb rfl (Nat.le_of_ble_eq_true rfl) rfl (Nat.le_of_ble_eq_true rfl) (fun Q1 hq => m_X12_sign (d := d + 2) ep1 (fun g hg => by subst hg; exact hq)) ?_
  refine xm_aload_n dX12_compareValues_5 rfl ?_
  refine xm_iload_n dX12_compareValues_6 rfl ?_
  refine xb_if hf (fun hb hf => ?_) (fun _ q => nomatch q)
  obtain ⟨p2, ep2, hf⟩ := xbind hf
  refine xb_callV (As := [.int l2]) (v0 := (some (.int p2))) (τ0 := σ) dX12_compareValues_7 (xc_X12_sign _ _) xcl12 xw_2387 xw_2389 xs_141 hb rfl (Nat.le_of_ble_eq_true rfl) rfl (Nat.le_of_ble_eq_true rfl) (fun Q1 hq => m_X12_sign (d := d + 2) ep2 (fun g hg => by subst hg; exact hq)) ?_
  refine xb_icmp_eq 32 dX12_compareValues_10 (by decide) hf (fun c hf => ?_) (fun c hf => ?_)
  · refine xm_aload_n dX12_compareValues_32 rfl ?_
    refine xm_iconst dX12_compareValues_33 (v := 2) (by decide) ?_
    refine xm_iload_n dX12_compareValues_34 rfl ?_
    refine xb_if hf (fun hb hf => ?_) (fun _ q => nomatch q)
    obtain ⟨p3, ep3, hf⟩ := xbind hf
    refine xb_callV (As := [.int (2 : Int32), .int l1]) (v0 := none) (τ0 := p3) dX12_compareValues_35 (xc_X12_loadNumerator _ _) xcl12 xw_2403 xw_2405 xs_145 hb rfl (Nat.le_of_ble_eq_true rfl) rfl (Nat.le_of_ble_eq_true rfl) (fun Q1 hq => m_X12_loadNumerator (d := d + 0) ep3 (fun g hg => by subst hg; exact hq)) ?_
    refine xm_aload_n dX12_compareValues_38 rfl ?_
    refine xm_iconst dX12_compareValues_39 (v := 3) (by decide) ?_
    refine xm_iload_n dX12_compareValues_40 rfl ?_
    refine xb_if hf (fun hb hf => ?_) (fun _ q => nomatch q)
    obtain ⟨p4, ep4, hf⟩ := xbind hf
    refine xb_callV (As := [.int (3 : Int32), .int l1]) (v0 := none) (τ0 := p4) dX12_compareValues_41 (xc_X12_loadDenominator _ _) xcl12 xw_2411 xw_2413 xs_147 hb rfl (Nat.le_of_ble_eq_true rfl) rfl (Nat.le_of_ble_eq_true rfl) (fun Q1 hq => m_X12_loadDenominator (d := d + 0) ep4 (fun g hg => by subst hg; exact hq)) ?_
    refine xm_aload_n dX12_compareValues_44 rfl ?_
    refine xm_iconst dX12_compareValues_45 (v := 4) (by decide) ?_
    refine xm_iload_n dX12_compareValues_46 rfl ?_
    refine xb_if hf (fun hb hf => ?_) (fun _ q => nomatch q)
    obtain ⟨p5, ep5, hf⟩ := xbind hf
    refine xb_callV (As := [.int (4 : Int32), .int l2]) (v0 := none) (τ0 := p5) dX12_compareValues_47 (xc_X12_loadNumerator _ _) xcl12 xw_2403 xw_2405 xs_145 hb rfl (Nat.le_of_ble_eq_true rfl) rfl (Nat.le_of_ble_eq_true rfl) (fun Q1 hq => m_X12_loadNumerator (d := d + 0) ep5 (fun g hg => by subst hg; exact hq)) ?_
    refine xm_aload_n dX12_compareValues_50 rfl ?_
    refine xm_iconst dX12_compareValues_51 (v := 5) (by decide) ?_
    refine xm_iload_n dX12_compareValues_52 rfl ?_
    refine xb_if hf (fun hb hf => ?_) (fun _ q => nomatch q)
    obtain ⟨p6, ep6, hf⟩ := xbind hf
    refine xb_callV (As := [.int (5 : Int32), .int l2]) (v0 := none) (τ0 := p6) dX12_compareValues_53 (xc_X12_loadDenominator _ _) xcl12 xw_2411 xw_2413 xs_147 hb rfl (Nat.le_of_ble_eq_true rfl) rfl (Nat.le_of_ble_eq_true rfl) (fun Q1 hq => m_X12_loadDenominator (d := d + 0) ep6 (fun g hg => by subst hg; exact hq)) ?_
    refine xm_aload_n dX12_compareValues_56 rfl ?_
    refine xm_bipush dX12_compareValues_57 (v := 6) (by decide) ?_
    refine xm_iconst dX12_compareValues_59 (v := 2) (by decide) ?_
    refine xm_iconst dX12_compareValues_60 (v := 5) (by decide) ?_
    refine xb_if hf (fun hb hf => ?_) (fun _ q => nomatch q)
    obtain ⟨p7, ep7, hf⟩ := xbind hf
    refine xb_callV (As := [.int (6 : Int32), .int (2 : Int32), .int (5 : Int32)]) (v0 := none) (τ0 := p7) dX12_compareValues_61 (xc_X12_times _ _) xcl12 xw_2415 xw_2417 xs_148 hb rfl (Nat.le_of_ble_eq_true rfl) rfl (Nat.le_of_ble_eq_true rfl) (fun Q1 hq => m_X12_times (d := d + 1) ep7 (fun g hg => by subst hg; exact hq)) ?_
    refine xm_aload_n dX12_compareValues_64 rfl ?_
    refine xm_bipush dX12_compareValues_65 (v := 7) (by decide) ?_
    refine xm_iconst dX12_compareValues_67 (v := 4) (by decide) ?_
    refine xm_iconst dX12_compareValues_68 (v := 3) (by decide) ?_
    refine xb_if hf (fun hb hf => ?_) (fun _ q => nomatch q)
    obtain ⟨p8, ep8, hf⟩ := xbind hf
    refine xb_callV (As := [.int (7 : Int32), .int (4 : Int32), .int (3 : Int32)]) (v0 := none) (τ0 := p8) dX12_compareValues_69 (xc_X12_times _ _) xcl12 xw_2415 xw_2417 xs_148 hb rfl (Nat.le_of_ble_eq_true rfl) rfl (Nat.le_of_ble_eq_true rfl) (fun Q1 hq => m_X12_times (d := d + 1) ep8 (fun g hg => by subst hg; exact hq)) ?_
    refine xm_aload_n dX12_compareValues_72 rfl ?_
    refine xm_iload_n dX12_compareValues_73 rfl ?_
    refine xb_if hf (fun hb hf => ?_) (fun _ q => nomatch q)
    obtain ⟨p9, ep9, hf⟩ := xbind hf
    refine xb_callV (As := [.int l1]) (v0 := (some (.int p9))) (τ0 := p8) dX12_compareValues_74 (xc_X12_sign _ _) xcl12 xw_2387 xw_2389 xs_141 hb rfl (Nat.le_of_ble_eq_true rfl) rfl (Nat.le_of_ble_eq_true rfl) (fun Q1 hq => m_X12_sign (d := d + 2) ep9 (fun g hg => by subst hg; exact hq)) ?_
    refine xm_aload_n dX12_compareValues_77 rfl ?_
    refine xm_bipush dX12_compareValues_78 (v := 6) (by decide) ?_
    refine xm_bipush dX12_compareValues_80 (v := 7) (by decide) ?_
    refine xb_if hf (fun hb hf => ?_) (fun _ q => nomatch q)
    obtain ⟨p10, ep10, hf⟩ := xbind hf
    refine xb_callV (As := [.int (6 : Int32), .int (7 : Int32)]) (v0 := (some (.int p10))) (τ0 := p8) dX12_compareValues_82 (xc_X12_compare _ _) xcl12 xw_2432 xw_2434 xs_152 hb rfl (Nat.le_of_ble_eq_true rfl) rfl (Nat.le_of_ble_eq_true rfl) (fun Q1 hq => m_X12_compare (d := d + 2) ep10 (fun g hg => by subst hg; exact hq)) ?_
    refine xm_imul dX12_compareValues_85 ?_
    cases hf
    exact xm_iret dX12_compareValues_86 rfl (hR _ rfl)
  · refine xm_aload_n dX12_compareValues_13 rfl ?_
    refine xm_iload_n dX12_compareValues_14 rfl ?_
    refine xb_if hf (fun hb hf => ?_) (fun _ q => nomatch q)
    obtain ⟨p11, ep11, hf⟩ := xbind hf
    refine xb_callV (As := [.int l1]) (v0 := (some (.int p11))) (τ0 := σ) dX12_compareValues_15 (xc_X12_sign _ _) xcl12 xw_2387 xw_2389 xs_141 hb rfl (Nat.le_of_ble_eq_true rfl) rfl (Nat.le_of_ble_eq_true rfl) (fun Q1 hq => m_X12_sign (d := d + 2) ep11 (fun g hg => by subst hg; exact hq)) ?_
    refine xm_aload_n dX12_compareValues_18 rfl ?_
    refine xm_iload_n dX12_compareValues_19 rfl ?_
    refine xb_if hf (fun hb hf => ?_) (fun _ q => nomatch q)
    obtain ⟨p12, ep12, hf⟩ := xbind hf
    refine xb_callV (As := [.int l2]) (v0 := (some (.int p12))) (τ0 := σ) dX12_compareValues_20 (xc_X12_sign _ _) xcl12 xw_2387 xw_2389 xs_141 hb rfl (Nat.le_of_ble_eq_true rfl) rfl (Nat.le_of_ble_eq_true rfl) (fun Q1 hq => m_X12_sign (d := d + 2) ep12 (fun g hg => by subst hg; exact hq)) ?_
    refine xb_icmp_ge 30 dX12_compareValues_23 (by decide) hf (fun c hf => ?_) (fun c hf => ?_)
    · refine xm_iconst dX12_compareValues_30 (v := 1) (by decide) ?_
      exact xm_sub [] rfl (L_X12_compareValues_j31 σ (1 : Int32) hf hR)
    · refine xm_iconst dX12_compareValues_26 (v := -1) (by decide) ?_
      refine xm_goto 31 dX12_compareValues_27 (by decide) ?_
      exact xm_sub [] rfl (L_X12_compareValues_j31 σ (-1 : Int32) hf hR)
-- RankwiseModel.isWhole(I)Z
def f_X12_isWhole_j60 (σ : xM) (l0 : Nat) (l1 : Int32) (l3 : Int32) (s0 : Int32) : Option (Int32 ⊕ ((Int32) ⊕ (Nat × Int32 × Int32 × Int32))) :=
  xlet (l3 + (1 : Int32)) (fun v6 => some (Sum.inr (Sum.inr (l0, l1, s0, v6))))
set_option maxHeartbeats 4000000 in
set_option maxRecDepth 20000 in
theorem L_X12_isWhole_j60 {G : xG} {π : Nat → Nat} {d C Z : Nat} {Q : xQ} (σ : xM) (l0 : Nat) (l1 : Int32) (l3 : Int32) (s0 : Int32) {x : (Int32 ⊕ ((Int32) ⊕ (Nat × Int32 × Int32 × Int32)))} (hf : f_X12_isWhole_j60 σ l0 l1 l3 s0 = some x) (hR : ∀ g, x = Sum.inl (g) → Q (.inl (some (.int g))) (σ) π) (hE : ∀ e : (Int32), x = Sum.inr (Sum.inl e) → xMach G π J_X12_isWhole (d + 0) C Z 67 [(2, .int e)] [] σ Q) (hC : ∀ e : (Nat × Int32 × Int32 × Int32), x = Sum.inr (Sum.inr e) → xMach G π J_X12_isWhole (d + 0) C Z 26 [(0, .ref e.1), (1, .int e.2.1), (2, .int e.2.2.1), (3, .int e.2.2.2)] [] σ Q) : xMach G π J_X12_isWhole (d + 0) C Z 60 [(0, .ref l0), (1, .int l1), (3, .int l3)] [.int s0] σ Q := by
  unfold f_X12_isWhole_j60 at hf
  refine xm_istore_n dX12_isWhole_60 (by decide) (xm_stL (L' := [(2, .int s0), (0, .ref l0), (1, .int l1), (3, .int l3)]) rfl ?_)
  refine xb_iinc dX12_isWhole_61 rfl (by decide) (by decide) hf (fun v6 ev6 hf => xm_stL (L' := [(3, .int v6), (2, .int s0), (0, .ref l0), (1, .int l1)]) rfl ?_)
  refine xm_goto 26 dX12_isWhole_64 (by decide) ?_
  cases hf
  exact xm_sub [2, 3, 1, 0] rfl (hC _ rfl)
def f_X12_isWhole_s26 (σ : xM) (s : (Nat × Int32 × Int32 × Int32)) : Option (Int32 ⊕ ((Int32) ⊕ (Nat × Int32 × Int32 × Int32))) :=
  xlet s.1 (fun l0 => xlet s.2.1 (fun l1 => xlet s.2.2.1 (fun l2 => xlet s.2.2.2 (fun l3 => (if (13 : Int32) ≤ l3 then some (Sum.inr (Sum.inl l2)) else (if l2 = (0 : Int32) then some (Sum.inr (Sum.inl l2)) else (gR σ l0 12 3).bind (fun x4 => (aI σ x4 14 (((((28 : Int32) * l1) + (1 : Int32)) + (13 : Int32)) + l3)).bind (fun x5 => (if x5 = (0 : Int32) then f_X12_isWhole_j60 σ l0 l1 l3 (1 : Int32) else f_X12_isWhole_j60 σ l0 l1 l3 (0 : Int32))))))))))
set_option maxHeartbeats 4000000 in
set_option maxRecDepth 20000 in
theorem L_X12_isWhole_s26 {G : xG} {π : Nat → Nat} {d C Z : Nat} {Q : xQ} (σ : xM) (l0 : Nat) (l1 : Int32) (l2 : Int32) (l3 : Int32) {x : (Int32 ⊕ ((Int32) ⊕ (Nat × Int32 × Int32 × Int32)))} (hf : f_X12_isWhole_s26 σ (l0, l1, l2, l3) = some x) (hR : ∀ g, x = Sum.inl (g) → Q (.inl (some (.int g))) (σ) π) (hE : ∀ e : (Int32), x = Sum.inr (Sum.inl e) → xMach G π J_X12_isWhole (d + 0) C Z 67 [(2, .int e)] [] σ Q) (hC : ∀ e : (Nat × Int32 × Int32 × Int32), x = Sum.inr (Sum.inr e) → xMach G π J_X12_isWhole (d + 0) C Z 26 [(0, .ref e.1), (1, .int e.2.1), (2, .int e.2.2.1), (3, .int e.2.2.2)] [] σ Q) : xMach G π J_X12_isWhole (d + 0) C Z 26 [(0, .ref l0), (1, .int l1), (2, .int l2), (3, .int l3)] [] σ Q := by
  have hf : (if (13 : Int32) ≤ l3 then some (Sum.inr (Sum.inl l2)) else (if l2 = (0 : Int32) then some (Sum.inr (Sum.inl l2)) else (gR σ l0 12 3).bind (fun x4 => (aI σ x4 14 (((((28 : Int32) * l1) + (1 : Int32)) + (13 : Int32)) + l3)).bind (fun x5 => (if x5 = (0 : Int32) then f_X12_isWhole_j60 σ l0 l1 l3 (1 : Int32) else f_X12_isWhole_j60 σ l0 l1 l3 (0 : Int32)))))) = some x := hf
  refine xm_iload_n dX12_isWhole_26 rfl ?_
  refine xm_bipush dX12_isWhole_27 (v := 13) (by decide) ?_
  refine xb_icmp_ge 67 dX12_isWhole_29 (by decide) hf (fun c hf => ?_) (fun c hf => ?_)
  · cases hf
    exact xm_sub [2] rfl (hE _ rfl)
  · refine xm_iload_n dX12_isWhole_32 rfl ?_
    refine xb_if_eq 67 dX12_isWhole_33 (by decide) hf (fun c hf => ?_) (fun c hf => ?_)
    · cases hf
      exact xm_sub [2] rfl (hE _ rfl)
    · refine xm_aload_n dX12_isWhole_36 rfl ?_
      refine xb_getR (a := l0) (c := 12) (k := 3) dX12_isWhole_37 xcl12 (by decide) xw_1840 rfl hf (fun x4 ex4 hf => ?_)
      refine xm_bipush dX12_isWhole_40 (v := 28) (by decide) ?_
      refine xm_iload_n dX12_isWhole_42 rfl ?_
      refine xm_imul dX12_isWhole_43 ?_
      refine xm_iconst dX12_isWhole_44 (v := 1) (by decide) ?_
      refine xm_iadd dX12_isWhole_45 ?_
      refine xm_bipush dX12_isWhole_46 (v := 13) (by decide) ?_
      refine xm_iadd dX12_isWhole_48 ?_
      refine xm_iload_n dX12_isWhole_49 rfl ?_
      refine xm_iadd dX12_isWhole_50 ?_
      refine xb_iald dX12_isWhole_51 hf (fun x5 ex5 hf => ?_)
      refine xb_if_ne 59 dX12_isWhole_52 (by decide) hf (fun c hf => ?_) (fun c hf => ?_)
      · refine xm_iconst dX12_isWhole_59 (v := 0) (by decide) ?_
        exact xm_sub [0, 1, 3] rfl (L_X12_isWhole_j60 σ l0 l1 l3 (0 : Int32) hf hR hE hC)
      · refine xm_iconst dX12_isWhole_55 (v := 1) (by decide) ?_
        refine xm_goto 60 dX12_isWhole_56 (by decide) ?_
        exact xm_sub [0, 1, 3] rfl (L_X12_isWhole_j60 σ l0 l1 l3 (1 : Int32) hf hR hE hC)
theorem L_X12_isWhole_l26 {G : xG} {π : Nat → Nat} {d C Z : Nat} {Q : xQ} (σ : xM) {s0 : (Nat × Int32 × Int32 × Int32)} {x : (Int32 ⊕ (Int32))} (h1 : xloop (f_X12_isWhole_s26 σ) xF s0 = some x) (hR : ∀ g, x = Sum.inl g → Q (.inl (some (.int g))) (σ) π) (hE : ∀ e : (Int32), x = Sum.inr e → xMach G π J_X12_isWhole (d + 0) C Z 67 [(2, .int e)] [] σ Q) : xMach G π J_X12_isWhole (d + 0) C Z 26 [(0, .ref s0.1), (1, .int s0.2.1), (2, .int s0.2.2.1), (3, .int s0.2.2.2)] [] σ Q := by
  refine xloop_run (M := (fun s : (Nat × Int32 × Int32 × Int32) => xMach G π J_X12_isWhole (d + 0) C Z 26 [(0, .ref s.1), (1, .int s.2.1), (2, .int s.2.2.1), (3, .int s.2.2.2)] [] σ Q)) (r := x) ?_ xF _ h1
  intro s y hs hx
  exact L_X12_isWhole_s26 σ s.1 s.2.1 s.2.2.1 s.2.2.2 (x := y) hs (fun g hg => by subst hg; exact hR g hx) (fun e he => by subst he; exact hE e hx) (fun e he => by subst he; exact hx)
def f_X12_isWhole_j67 (σ : xM) (l2 : Int32) : Option Int32 :=
  (xz l2).bind (fun b7 => some b7)
set_option maxHeartbeats 4000000 in
set_option maxRecDepth 20000 in
theorem L_X12_isWhole_j67 {G : xG} {π : Nat → Nat} {d C Z : Nat} {Q : xQ} (σ : xM) (l2 : Int32) {x : Int32} (hf : f_X12_isWhole_j67 σ l2 = some x) (hR : ∀ g, x = g → Q (.inl (some (.int g))) (σ) π) : xMach G π J_X12_isWhole (d + 0) C Z 67 [(2, .int l2)] [] σ Q := by
  unfold f_X12_isWhole_j67 at hf
  refine xm_iload_n dX12_isWhole_67 rfl ?_
  obtain ⟨b7, eb7, hf⟩ := xbind hf
  obtain ⟨rfl, hz⟩ := xz_of eb7
  cases hf
  exact xm_zret dX12_isWhole_68 rfl hz (hR _ rfl)
def f_X12_isWhole_j23 (σ : xM) (l0 : Nat) (l1 : Int32) (s0 : Int32) : Option Int32 :=
  xlet (1 : Int32) (fun v3 => (xloop (f_X12_isWhole_s26 σ ) xF (l0, l1, s0, v3)).bind (Sum.elim (fun g => some g) (fun e => f_X12_isWhole_j67 σ e)))
set_option maxHeartbeats 4000000 in
set_option maxRecDepth 20000 in
theorem L_X12_isWhole_j23 {G : xG} {π : Nat → Nat} {d C Z : Nat} {Q : xQ} (σ : xM) (l0 : Nat) (l1 : Int32) (s0 : Int32) {x : Int32} (hf : f_X12_isWhole_j23 σ l0 l1 s0 = some x) (hR : ∀ g, x = g → Q (.inl (some (.int g))) (σ) π) : xMach G π J_X12_isWhole (d + 0) C Z 23 [(0, .ref l0), (1, .int l1)] [.int s0] σ Q := by
  unfold f_X12_isWhole_j23 at hf
  refine xm_istore_n dX12_isWhole_23 (by decide) (xm_stL (L' := [(2, .int s0), (0, .ref l0), (1, .int l1)]) rfl ?_)
  refine xm_iconst dX12_isWhole_24 (v := 1) (by decide) ?_
  refine xb_topi hf (fun v3 ev3 hf => ?_)
  refine xm_istore_n dX12_isWhole_25 (by decide) (xm_stL (L' := [(3, .int v3), (2, .int s0), (0, .ref l0), (1, .int l1)]) rfl ?_)
  obtain ⟨o, h1, hf⟩ := xbind hf
  refine xm_sub [2, 3, 1, 0] rfl (L_X12_isWhole_l26 σ h1 (fun g hg => ?_) (fun e he => ?_))
  · subst hg
    cases hf
    exact hR _ rfl
  · subst he
    rw [Sum.elim_inr] at hf
    have hf : f_X12_isWhole_j67 σ e = some _ := hf
    exact xm_sub [0] rfl (L_X12_isWhole_j67 σ e hf hR)
def f_X12_isWhole (σ : xM) (l0 : Nat) (l1 : Int32) : Option Int32 :=
  (gR σ l0 12 3).bind (fun x1 => (aI σ x1 14 ((((28 : Int32) * l1) + (1 : Int32)) + (13 : Int32))).bind (fun x2 => (if x2 = (1 : Int32) then f_X12_isWhole_j23 σ l0 l1 (1 : Int32) else f_X12_isWhole_j23 σ l0 l1 (0 : Int32))))
set_option maxHeartbeats 4000000 in
set_option maxRecDepth 20000 in
theorem m_X12_isWhole {G : xG} {π : Nat → Nat} {d C Z : Nat} {Q : xQ} {σ : xM} {l0 : Nat} {l1 : Int32} {x : Int32} (hf : f_X12_isWhole σ l0 l1 = some x) (hR : ∀ g, x = g → Q (.inl (some (.int g))) (σ) π) : xMach G π J_X12_isWhole (d + 0) C Z 0 (lv_args 0 [.ref l0, .int l1]) [] σ Q := by
  unfold f_X12_isWhole at hf
  refine xm_stL (L' := [(0, .ref l0), (1, .int l1)]) rfl ?_
  refine xm_aload_n dX12_isWhole_0 rfl ?_
  refine xb_getR (a := l0) (c := 12) (k := 3) dX12_isWhole_1 xcl12 (by decide) xw_1840 rfl hf (fun x1 ex1 hf => ?_)
  refine xm_bipush dX12_isWhole_4 (v := 28) (by decide) ?_
  refine xm_iload_n dX12_isWhole_6 rfl ?_
  refine xm_imul dX12_isWhole_7 ?_
  refine xm_iconst dX12_isWhole_8 (v := 1) (by decide) ?_
  refine xm_iadd dX12_isWhole_9 ?_
  refine xm_bipush dX12_isWhole_10 (v := 13) (by decide) ?_
  refine xm_iadd dX12_isWhole_12 ?_
  refine xb_iald dX12_isWhole_13 hf (fun x2 ex2 hf => ?_)
  refine xm_iconst dX12_isWhole_14 (v := 1) (by decide) ?_
  refine xb_icmp_ne 22 dX12_isWhole_15 (by decide) hf (fun c hf => ?_) (fun c hf => ?_)
  · refine xm_iconst dX12_isWhole_22 (v := 0) (by decide) ?_
    exact xm_sub [0, 1] rfl (L_X12_isWhole_j23 σ l0 l1 (0 : Int32) hf hR)
  · refine xm_iconst dX12_isWhole_18 (v := 1) (by decide) ?_
    refine xm_goto 23 dX12_isWhole_19 (by decide) ?_
    exact xm_sub [0, 1] rfl (L_X12_isWhole_j23 σ l0 l1 (1 : Int32) hf hR)
-- RankwiseModel.small(I)I
def f_X12_small_j83 (σ : xM) (s0 : Int32) : Option (Int32 × xM) :=
  some (s0, σ)
set_option maxHeartbeats 4000000 in
set_option maxRecDepth 20000 in
theorem L_X12_small_j83 {G : xG} {π : Nat → Nat} {d C Z : Nat} {Q : xQ} (σ : xM) (s0 : Int32) {x : (Int32 × xM)} (hf : f_X12_small_j83 σ s0 = some x) (hR : ∀ g, x = g → Q (.inl (some (.int g.1))) (g.2) π) : xMach G π J_X12_small (d + 3) C Z 83 [] [.int s0] σ Q := by
  unfold f_X12_small_j83 at hf
  cases hf
  exact xm_iret dX12_small_83 rfl (hR _ rfl)
def f_X12_small_j68 (σ : xM) (l0 : Nat) (l1 : Int32) (s0 : Int32) : Option (Int32 × xM) :=
  (if xk σ l0 12 = true then (f_X12_sign σ l0 l1).bind (fun p7 => (if (0 : Int32) ≤ p7 then f_X12_small_j83 σ s0 else f_X12_small_j83 σ (-s0))) else none)
set_option maxHeartbeats 4000000 in
set_option maxRecDepth 20000 in
theorem L_X12_small_j68 {G : xG} {π : Nat → Nat} {d C Z : Nat} {Q : xQ} (σ : xM) (l0 : Nat) (l1 : Int32) (s0 : Int32) {x : (Int32 × xM)} (hf : f_X12_small_j68 σ l0 l1 s0 = some x) (hR : ∀ g, x = g → Q (.inl (some (.int g.1))) (g.2) π) : xMach G π J_X12_small (d + 3) C Z 68 [(0, .ref l0), (1, .int l1)] [.int s0] σ Q := by
  unfold f_X12_small_j68 at hf
  refine xm_istore_n dX12_small_68 (by decide) (xm_stL (L' := [(2, .int s0), (0, .ref l0), (1, .int l1)]) rfl ?_)
  refine xm_aload_n dX12_small_69 rfl ?_
  refine xm_iload_n dX12_small_70 rfl ?_
  refine xb_if hf (fun hb hf => ?_) (fun _ q => nomatch q)
  obtain ⟨p7, ep7, hf⟩ := xbind hf
  refine xb_callV (As := [.int l1]) (v0 := (some (.int p7))) (τ0 := σ) dX12_small_71 (xc_X12_sign _ _) xcl12 xw_2387 xw_2389 xs_141 hb rfl (Nat.le_of_ble_eq_true rfl) rfl (Nat.le_of_ble_eq_true rfl) (fun Q1 hq => m_X12_sign (d := d + 2) ep7 (fun g hg => by subst hg; exact hq)) ?_
  refine xb_if_ge 82 dX12_small_74 (by decide) hf (fun c hf => ?_) (fun c hf => ?_)
  · refine xm_iload_n dX12_small_82 rfl ?_
    exact xm_sub [] rfl (L_X12_small_j83 σ s0 hf hR)
  · refine xm_iload_n dX12_small_77 rfl ?_
    refine xm_ineg dX12_small_78 ?_
    refine xm_goto 83 dX12_small_79 (by decide) ?_
    exact xm_sub [] rfl (L_X12_small_j83 σ (-s0) hf hR)
def f_X12_small_j67 (σ : xM) (l0 : Nat) (l1 : Int32) (s0 : Int32) (s1 : Int32) : Option (Int32 × xM) :=
  f_X12_small_j68 σ l0 l1 (s1 + s0)
set_option maxHeartbeats 4000000 in
set_option maxRecDepth 20000 in
theorem L_X12_small_j67 {G : xG} {π : Nat → Nat} {d C Z : Nat} {Q : xQ} (σ : xM) (l0 : Nat) (l1 : Int32) (s0 : Int32) (s1 : Int32) {x : (Int32 × xM)} (hf : f_X12_small_j67 σ l0 l1 s0 s1 = some x) (hR : ∀ g, x = g → Q (.inl (some (.int g.1))) (g.2) π) : xMach G π J_X12_small (d + 3) C Z 67 [(0, .ref l0), (1, .int l1)] [.int s0, .int s1] σ Q := by
  unfold f_X12_small_j67 at hf
  refine xm_iadd dX12_small_67 ?_
  exact xm_sub [0, 1] rfl (L_X12_small_j68 σ l0 l1 (s1 + s0) hf hR)
def f_X12_small_j42 (σ : xM) (l0 : Nat) (l1 : Int32) (s0 : Int32) : Option (Int32 × xM) :=
  (gR σ l0 12 2).bind (fun x5 => (aI σ x5 14 (2 : Int32)).bind (fun x6 => (if x6 ≤ (1 : Int32) then f_X12_small_j67 σ l0 l1 (0 : Int32) s0 else (gR σ l0 12 1).bind (fun x8 => (aI σ x8 14 (881 : Int32)).bind (fun x9 => f_X12_small_j67 σ l0 l1 (x9 <<< ((16 : Int32) &&& 31)) s0)))))
set_option maxHeartbeats 4000000 in
set_option maxRecDepth 20000 in
theorem L_X12_small_j42 {G : xG} {π : Nat → Nat} {d C Z : Nat} {Q : xQ} (σ : xM) (l0 : Nat) (l1 : Int32) (s0 : Int32) {x : (Int32 × xM)} (hf : f_X12_small_j42 σ l0 l1 s0 = some x) (hR : ∀ g, x = g → Q (.inl (some (.int g.1))) (g.2) π) : xMach G π J_X12_small (d + 3) C Z 42 [(0, .ref l0), (1, .int l1)] [.int s0] σ Q := by
  unfold f_X12_small_j42 at hf
  refine xm_aload_n dX12_small_42 rfl ?_
  refine xb_getR (a := l0) (c := 12) (k := 2) dX12_small_43 xcl12 (by decide) xw_1839 rfl hf (fun x5 ex5 hf => ?_)
  refine xm_iconst dX12_small_46 (v := 2) (by decide) ?_
  refine xb_iald dX12_small_47 hf (fun x6 ex6 hf => ?_)
  refine xm_iconst dX12_small_48 (v := 1) (by decide) ?_
  refine xb_icmp_le 66 dX12_small_49 (by decide) hf (fun c hf => ?_) (fun c hf => ?_)
  · refine xm_iconst dX12_small_66 (v := 0) (by decide) ?_
    exact xm_sub [0, 1] rfl (L_X12_small_j67 σ l0 l1 (0 : Int32) s0 hf hR)
  · refine xm_aload_n dX12_small_52 rfl ?_
    refine xb_getR (a := l0) (c := 12) (k := 1) dX12_small_53 xcl12 (by decide) xw_1838 rfl hf (fun x8 ex8 hf => ?_)
    refine xm_sipush dX12_small_56 (v := 881) (by decide) ?_
    refine xb_iald dX12_small_59 hf (fun x9 ex9 hf => ?_)
    refine xm_bipush dX12_small_60 (v := 16) (by decide) ?_
    refine xm_ishl dX12_small_62 ?_
    refine xm_goto 67 dX12_small_63 (by decide) ?_
    exact xm_sub [0, 1] rfl (L_X12_small_j67 σ l0 l1 (x9 <<< ((16 : Int32) &&& 31)) s0 hf hR)
def f_X12_small (σ : xM) (l0 : Nat) (l1 : Int32) : Option (Int32 × xM) :=
  (if xk σ l0 12 = true then (f_X12_loadNumerator σ l0 (2 : Int32) l1).bind (fun p1 => (if xk p1 l0 12 = true then (f_X12_bits p1 l0 (2 : Int32)).bind (fun p2 => (if p2 ≤ (30 : Int32) then (gR p1 l0 12 2).bind (fun x3 => (aI p1 x3 14 (2 : Int32)).bind (fun x4 => (if x4 ≤ (0 : Int32) then f_X12_small_j42 p1 l0 l1 (0 : Int32) else (gR p1 l0 12 1).bind (fun x10 => (aI p1 x10 14 (880 : Int32)).bind (fun x11 => f_X12_small_j42 p1 l0 l1 x11))))) else f_X12_small_j68 p1 l0 l1 (1073741824 : Int32))) else none)) else none)
set_option maxHeartbeats 4000000 in
set_option maxRecDepth 20000 in
theorem m_X12_small {G : xG} {π : Nat → Nat} {d C Z : Nat} {Q : xQ} {σ : xM} {l0 : Nat} {l1 : Int32} {x : (Int32 × xM)} (hf : f_X12_small σ l0 l1 = some x) (hR : ∀ g, x = g → Q (.inl (some (.int g.1))) (g.2) π) : xMach G π J_X12_small (d + 3) C Z 0 (lv_args 0 [.ref l0, .int l1]) [] σ Q := by
  unfold f_X12_small at hf
  refine xm_stL (L' := [(0, .ref l0), (1, .int l1)]) rfl ?_
  refine xm_aload_n dX12_small_0 rfl ?_
  refine xm_iconst dX12_small_1 (v := 2) (by decide) ?_
  refine xm_iload_n dX12_small_2 rfl ?_
  refine xb_if hf (fun hb hf => ?_) (fun _ q => nomatch q)
  obtain ⟨p1, ep1, hf⟩ := xbind hf
  refine xb_callV (As := [.int (2 : Int32), .int l1]) (v0 := none) (τ0 := p1) dX12_small_3 (xc_X12_loadNumerator _ _) xcl12 xw_2403 xw_2405 xs_145 hb rfl (Nat.le_of_ble_eq_true rfl) rfl (Nat.le_of_ble_eq_true rfl) (fun Q1 hq => m_X12_loadNumerator (d := d + 0) ep1 (fun g hg => by subst hg; exact hq)) ?_
  refine xm_aload_n dX12_small_6 rfl ?_
  refine xm_iconst dX12_small_7 (v := 2) (by decide) ?_
  refine xb_if hf (fun hb hf => ?_) (fun _ q => nomatch q)
  obtain ⟨p2, ep2, hf⟩ := xbind hf
  refine xb_callV (As := [.int (2 : Int32)]) (v0 := (some (.int p2))) (τ0 := p1) dX12_small_8 (xc_X12_bits _ _) xcl12 xw_2468 xw_2470 xs_161 hb rfl (Nat.le_of_ble_eq_true rfl) rfl (Nat.le_of_ble_eq_true rfl) (fun Q1 hq => m_X12_bits (d := d + 2) ep2 (fun g hg => by subst hg; exact hq)) ?_
  refine xm_bipush dX12_small_11 (v := 30) (by decide) ?_
  refine xb_icmp_le 21 dX12_small_13 (by decide) hf (fun c hf => ?_) (fun c hf => ?_)
  · refine xm_aload_n dX12_small_21 rfl ?_
    refine xb_getR (a := l0) (c := 12) (k := 2) dX12_small_22 xcl12 (by decide) xw_1839 rfl hf (fun x3 ex3 hf => ?_)
    refine xm_iconst dX12_small_25 (v := 2) (by decide) ?_
    refine xb_iald dX12_small_26 hf (fun x4 ex4 hf => ?_)
    refine xb_if_le 41 dX12_small_27 (by decide) hf (fun c hf => ?_) (fun c hf => ?_)
    · refine xm_iconst dX12_small_41 (v := 0) (by decide) ?_
      exact xm_sub [0, 1] rfl (L_X12_small_j42 p1 l0 l1 (0 : Int32) hf hR)
    · refine xm_aload_n dX12_small_30 rfl ?_
      refine xb_getR (a := l0) (c := 12) (k := 1) dX12_small_31 xcl12 (by decide) xw_1838 rfl hf (fun x10 ex10 hf => ?_)
      refine xm_sipush dX12_small_34 (v := 880) (by decide) ?_
      refine xb_iald dX12_small_37 hf (fun x11 ex11 hf => ?_)
      refine xm_goto 42 dX12_small_38 (by decide) ?_
      exact xm_sub [0, 1] rfl (L_X12_small_j42 p1 l0 l1 x11 hf hR)
  · refine xm_ldc dX12_small_16 (xws_in xw_2488) ?_
    refine xm_goto 68 dX12_small_18 (by decide) ?_
    exact xm_sub [0, 1] rfl (L_X12_small_j68 p1 l0 l1 (1073741824 : Int32) hf hR)
-- RankwiseModel.remainder(III)I
def f_X12_remainder_j16 (σ : xM)  : Option (Int32 × xM) :=
  some ((2 : Int32), σ)
set_option maxHeartbeats 4000000 in
set_option maxRecDepth 20000 in
theorem L_X12_remainder_j16 {G : xG} {π : Nat → Nat} {d C Z : Nat} {Q : xQ} (σ : xM)  {x : (Int32 × xM)} (hf : f_X12_remainder_j16 σ = some x) (hR : ∀ g, x = g → Q (.inl (some (.int g.1))) (g.2) π) : xMach G π J_X12_remainder (d + 5) C Z 16 [] [] σ Q := by
  unfold f_X12_remainder_j16 at hf
  refine xm_iconst dX12_remainder_16 (v := 2) (by decide) ?_
  cases hf
  exact xm_iret dX12_remainder_17 rfl (hR _ rfl)
def f_X12_remainder_j91 (σ : xM) (l0 : Nat) (l1 : Int32) : Option (Int32 × xM) :=
  (if xk σ l0 12 = true then (f_X12_put σ l0 (1 : Int32) (1 : Int32)).bind (fun p9 => (if xk p9 l0 12 = true then (f_X12_store p9 l0 l1 (1 : Int32)).bind (fun p10 => some ((0 : Int32), p10.2)) else none)) else none)
set_option maxHeartbeats 4000000 in
set_option maxRecDepth 20000 in
theorem L_X12_remainder_j91 {G : xG} {π : Nat → Nat} {d C Z : Nat} {Q : xQ} (σ : xM) (l0 : Nat) (l1 : Int32) {x : (Int32 × xM)} (hf : f_X12_remainder_j91 σ l0 l1 = some x) (hR : ∀ g, x = g → Q (.inl (some (.int g.1))) (g.2) π) : xMach G π J_X12_remainder (d + 5) C Z 91 [(0, .ref l0), (1, .int l1)] [] σ Q := by
  unfold f_X12_remainder_j91 at hf
  refine xm_aload_n dX12_remainder_91 rfl ?_
  refine xm_iconst dX12_remainder_92 (v := 1) (by decide) ?_
  refine xm_iconst dX12_remainder_93 (v := 1) (by decide) ?_
  refine xb_if hf (fun hb hf => ?_) (fun _ q => nomatch q)
  obtain ⟨p9, ep9, hf⟩ := xbind hf
  refine xb_callV (As := [.int (1 : Int32), .int (1 : Int32)]) (v0 := none) (τ0 := p9) dX12_remainder_94 (xc_X12_put _ _) xcl12 xw_1824 xw_1826 xs_85 hb rfl (Nat.le_of_ble_eq_true rfl) rfl (Nat.le_of_ble_eq_true rfl) (fun Q1 hq => m_X12_put (d := d + 3) ep9 (fun g hg => by subst hg; exact hq)) ?_
  refine xm_aload_n dX12_remainder_97 rfl ?_
  refine xm_iload_n dX12_remainder_98 rfl ?_
  refine xm_iconst dX12_remainder_99 (v := 1) (by decide) ?_
  refine xb_if hf (fun hb hf => ?_) (fun _ q => nomatch q)
  obtain ⟨p10, ep10, hf⟩ := xbind hf
  refine xb_callV (As := [.int l1, .int (1 : Int32)]) (v0 := (some (.int p10.1))) (τ0 := p10.2) dX12_remainder_100 (xc_X12_store _ _) xcl12 xw_2440 xw_2442 xs_154 hb rfl (Nat.le_of_ble_eq_true rfl) rfl (Nat.le_of_ble_eq_true rfl) (fun Q1 hq => m_X12_store (d := d + 0) ep10 (fun g hg => by subst hg; exact hq)) ?_
  refine xm_pop dX12_remainder_103 rfl ?_
  refine xm_iconst dX12_remainder_104 (v := 0) (by decide) ?_
  cases hf
  exact xm_iret dX12_remainder_105 rfl (hR _ rfl)
def f_X12_remainder_j84 (σ : xM) (l0 : Nat) (l1 : Int32) : Option (Int32 × xM) :=
  (if xk σ l0 12 = true then (f_X12_copy σ l0 (0 : Int32) (7 : Int32)).bind (fun p8 => f_X12_remainder_j91 p8 l0 l1) else none)
set_option maxHeartbeats 4000000 in
set_option maxRecDepth 20000 in
theorem L_X12_remainder_j84 {G : xG} {π : Nat → Nat} {d C Z : Nat} {Q : xQ} (σ : xM) (l0 : Nat) (l1 : Int32) {x : (Int32 × xM)} (hf : f_X12_remainder_j84 σ l0 l1 = some x) (hR : ∀ g, x = g → Q (.inl (some (.int g.1))) (g.2) π) : xMach G π J_X12_remainder (d + 5) C Z 84 [(0, .ref l0), (1, .int l1)] [] σ Q := by
  unfold f_X12_remainder_j84 at hf
  refine xm_aload_n dX12_remainder_84 rfl ?_
  refine xm_iconst dX12_remainder_85 (v := 0) (by decide) ?_
  refine xm_bipush dX12_remainder_86 (v := 7) (by decide) ?_
  refine xb_if hf (fun hb hf => ?_) (fun _ q => nomatch q)
  obtain ⟨p8, ep8, hf⟩ := xbind hf
  refine xb_callV (As := [.int (0 : Int32), .int (7 : Int32)]) (v0 := none) (τ0 := p8) dX12_remainder_88 (xc_X12_copy _ _) xcl12 xw_2424 xw_2426 xs_150 hb rfl (Nat.le_of_ble_eq_true rfl) rfl (Nat.le_of_ble_eq_true rfl) (fun Q1 hq => m_X12_copy (d := d + 4) ep8 (fun g hg => by subst hg; exact hq)) ?_
  exact xm_sub [0, 1] rfl (L_X12_remainder_j91 p8 l0 l1 hf hR)
def f_X12_remainder (σ : xM) (l0 : Nat) (l1 : Int32) (l2 : Int32) (l3 : Int32) : Option (Int32 × xM) :=
  (if xk σ l0 12 = true then (f_X12_isWhole σ l0 l2).bind (fun p1 => (if p1 = (0 : Int32) then f_X12_remainder_j16 σ else (if xk σ l0 12 = true then (f_X12_isWhole σ l0 l3).bind (fun p2 => (if p2 = (0 : Int32) then f_X12_remainder_j16 σ else (if xk σ l0 12 = true then (f_X12_sign σ l0 l3).bind (fun p3 => (if p3 = (0 : Int32) then some ((1 : Int32), σ) else (if xk σ l0 12 = true then (f_X12_loadNumerator σ l0 (2 : Int32) l2).bind (fun p4 => (if xk p4 l0 12 = true then (f_X12_loadNumerator p4 l0 (4 : Int32) l3).bind (fun p5 => (if xk p5 l0 12 = true then (f_X12_divide p5 l0 (6 : Int32) (7 : Int32) (2 : Int32) (4 : Int32)).bind (fun p6 => (if xk p6 l0 12 = true then (f_X12_sign p6 l0 l2).bind (fun p7 => (if (0 : Int32) ≤ p7 then f_X12_remainder_j84 p6 l0 l1 else (gR p6 l0 12 2).bind (fun x11 => (aI p6 x11 14 (7 : Int32)).bind (fun x12 => (if x12 ≤ (0 : Int32) then f_X12_remainder_j84 p6 l0 l1 else (if xk p6 l0 12 = true then (f_X12_copy p6 l0 (0 : Int32) (4 : Int32)).bind (fun p13 => (if xk p13 l0 12 = true then (f_X12_minus p13 l0 (0 : Int32) (7 : Int32)).bind (fun p14 => f_X12_remainder_j91 p14 l0 l1) else none)) else none)))))) else none)) else none)) else none)) else none))) else none))) else none))) else none)
set_option maxHeartbeats 4000000 in
set_option maxRecDepth 20000 in
theorem m_X12_remainder {G : xG} {π : Nat → Nat} {d C Z : Nat} {Q : xQ} {σ : xM} {l0 : Nat} {l1 : Int32} {l2 : Int32} {l3 : Int32} {x : (Int32 × xM)} (hf : f_X12_remainder σ l0 l1 l2 l3 = some x) (hR : ∀ g, x = g → Q (.inl (some (.int g.1))) (g.2) π) : xMach G π J_X12_remainder (d + 5) C Z 0 (lv_args 0 [.ref l0, .int l1, .int l2, .int l3]) [] σ Q := by
  unfold f_X12_remainder at hf
  refine xm_stL (L' := [(0, .ref l0), (1, .int l1), (2, .int l2), (3, .int l3)]) rfl ?_
  refine xm_aload_n dX12_remainder_0 rfl ?_
  refine xm_iload_n dX12_remainder_1 rfl ?_
  refine xb_if hf (fun hb hf => ?_) (fun _ q => nomatch q)
  obtain ⟨p1, ep1, hf⟩ := xbind hf
  refine xb_callV (As := [.int l2]) (v0 := (some (.int p1))) (τ0 := σ) dX12_remainder_2 (xc_X12_isWhole _ _) xcl12 xw_2476 xw_2478 xs_163 hb rfl (Nat.le_of_ble_eq_true rfl) rfl (Nat.le_of_ble_eq_true rfl) (fun Q1 hq => m_X12_isWhole (d := d + 4) ep1 (fun g hg => by subst hg; exact hq)) ?_
  refine xb_if_eq 16 dX12_remainder_5 (by decide) hf (fun c hf => ?_) (fun c hf => ?_)
  · exact xm_sub [] rfl (L_X12_remainder_j16 σ hf hR)
  · refine xm_aload_n dX12_remainder_8 rfl ?_
    refine xm_iload_n dX12_remainder_9 rfl ?_
    refine xb_if hf (fun hb hf => ?_) (fun _ q => nomatch q)
    obtain ⟨p2, ep2, hf⟩ := xbind hf
    refine xb_callV (As := [.int l3]) (v0 := (some (.int p2))) (τ0 := σ) dX12_remainder_10 (xc_X12_isWhole _ _) xcl12 xw_2476 xw_2478 xs_163 hb rfl (Nat.le_of_ble_eq_true rfl) rfl (Nat.le_of_ble_eq_true rfl) (fun Q1 hq => m_X12_isWhole (d := d + 4) ep2 (fun g hg => by subst hg; exact hq)) ?_
    refine xb_if_ne 18 dX12_remainder_13 (by decide) hf (fun c hf => ?_) (fun c hf => ?_)
    · refine xm_aload_n dX12_remainder_18 rfl ?_
      refine xm_iload_n dX12_remainder_19 rfl ?_
      refine xb_if hf (fun hb hf => ?_) (fun _ q => nomatch q)
      obtain ⟨p3, ep3, hf⟩ := xbind hf
      refine xb_callV (As := [.int l3]) (v0 := (some (.int p3))) (τ0 := σ) dX12_remainder_20 (xc_X12_sign _ _) xcl12 xw_2387 xw_2389 xs_141 hb rfl (Nat.le_of_ble_eq_true rfl) rfl (Nat.le_of_ble_eq_true rfl) (fun Q1 hq => m_X12_sign (d := d + 4) ep3 (fun g hg => by subst hg; exact hq)) ?_
      refine xb_if_ne 28 dX12_remainder_23 (by decide) hf (fun c hf => ?_) (fun c hf => ?_)
      · refine xm_aload_n dX12_remainder_28 rfl ?_
        refine xm_iconst dX12_remainder_29 (v := 2) (by decide) ?_
        refine xm_iload_n dX12_remainder_30 rfl ?_
        refine xb_if hf (fun hb hf => ?_) (fun _ q => nomatch q)
        obtain ⟨p4, ep4, hf⟩ := xbind hf
        refine xb_callV (As := [.int (2 : Int32), .int l2]) (v0 := none) (τ0 := p4) dX12_remainder_31 (xc_X12_loadNumerator _ _) xcl12 xw_2403 xw_2405 xs_145 hb rfl (Nat.le_of_ble_eq_true rfl) rfl (Nat.le_of_ble_eq_true rfl) (fun Q1 hq => m_X12_loadNumerator (d := d + 2) ep4 (fun g hg => by subst hg; exact hq)) ?_
        refine xm_aload_n dX12_remainder_34 rfl ?_
        refine xm_iconst dX12_remainder_35 (v := 4) (by decide) ?_
        refine xm_iload_n dX12_remainder_36 rfl ?_
        refine xb_if hf (fun hb hf => ?_) (fun _ q => nomatch q)
        obtain ⟨p5, ep5, hf⟩ := xbind hf
        refine xb_callV (As := [.int (4 : Int32), .int l3]) (v0 := none) (τ0 := p5) dX12_remainder_37 (xc_X12_loadNumerator _ _) xcl12 xw_2403 xw_2405 xs_145 hb rfl (Nat.le_of_ble_eq_true rfl) rfl (Nat.le_of_ble_eq_true rfl) (fun Q1 hq => m_X12_loadNumerator (d := d + 2) ep5 (fun g hg => by subst hg; exact hq)) ?_
        refine xm_aload_n dX12_remainder_40 rfl ?_
        refine xm_bipush dX12_remainder_41 (v := 6) (by decide) ?_
        refine xm_bipush dX12_remainder_43 (v := 7) (by decide) ?_
        refine xm_iconst dX12_remainder_45 (v := 2) (by decide) ?_
        refine xm_iconst dX12_remainder_46 (v := 4) (by decide) ?_
        refine xb_if hf (fun hb hf => ?_) (fun _ q => nomatch q)
        obtain ⟨p6, ep6, hf⟩ := xbind hf
        refine xb_callV (As := [.int (6 : Int32), .int (7 : Int32), .int (2 : Int32), .int (4 : Int32)]) (v0 := none) (τ0 := p6) dX12_remainder_47 (xc_X12_divide _ _) xcl12 xw_2464 xw_2466 xs_160 hb rfl (Nat.le_of_ble_eq_true rfl) rfl (Nat.le_of_ble_eq_true rfl) (fun Q1 hq => m_X12_divide (d := d + 2) ep6 (fun g hg => by subst hg; exact hq)) ?_
        refine xm_aload_n dX12_remainder_50 rfl ?_
        refine xm_iload_n dX12_remainder_51 rfl ?_
        refine xb_if hf (fun hb hf => ?_) (fun _ q => nomatch q)
        obtain ⟨p7, ep7, hf⟩ := xbind hf
        refine xb_callV (As := [.int l2]) (v0 := (some (.int p7))) (τ0 := p6) dX12_remainder_52 (xc_X12_sign _ _) xcl12 xw_2387 xw_2389 xs_141 hb rfl (Nat.le_of_ble_eq_true rfl) rfl (Nat.le_of_ble_eq_true rfl) (fun Q1 hq => m_X12_sign (d := d + 4) ep7 (fun g hg => by subst hg; exact hq)) ?_
        refine xb_if_ge 84 dX12_remainder_55 (by decide) hf (fun c hf => ?_) (fun c hf => ?_)
        · exact xm_sub [0, 1] rfl (L_X12_remainder_j84 p6 l0 l1 hf hR)
        · refine xm_aload_n dX12_remainder_58 rfl ?_
          refine xb_getR (a := l0) (c := 12) (k := 2) dX12_remainder_59 xcl12 (by decide) xw_1839 rfl hf (fun x11 ex11 hf => ?_)
          refine xm_bipush dX12_remainder_62 (v := 7) (by decide) ?_
          refine xb_iald dX12_remainder_64 hf (fun x12 ex12 hf => ?_)
          refine xb_if_le 84 dX12_remainder_65 (by decide) hf (fun c hf => ?_) (fun c hf => ?_)
          · exact xm_sub [0, 1] rfl (L_X12_remainder_j84 p6 l0 l1 hf hR)
          · refine xm_aload_n dX12_remainder_68 rfl ?_
            refine xm_iconst dX12_remainder_69 (v := 0) (by decide) ?_
            refine xm_iconst dX12_remainder_70 (v := 4) (by decide) ?_
            refine xb_if hf (fun hb hf => ?_) (fun _ q => nomatch q)
            obtain ⟨p13, ep13, hf⟩ := xbind hf
            refine xb_callV (As := [.int (0 : Int32), .int (4 : Int32)]) (v0 := none) (τ0 := p13) dX12_remainder_71 (xc_X12_copy _ _) xcl12 xw_2424 xw_2426 xs_150 hb rfl (Nat.le_of_ble_eq_true rfl) rfl (Nat.le_of_ble_eq_true rfl) (fun Q1 hq => m_X12_copy (d := d + 4) ep13 (fun g hg => by subst hg; exact hq)) ?_
            refine xm_aload_n dX12_remainder_74 rfl ?_
            refine xm_iconst dX12_remainder_75 (v := 0) (by decide) ?_
            refine xm_bipush dX12_remainder_76 (v := 7) (by decide) ?_
            refine xb_if hf (fun hb hf => ?_) (fun _ q => nomatch q)
            obtain ⟨p14, ep14, hf⟩ := xbind hf
            refine xb_callV (As := [.int (0 : Int32), .int (7 : Int32)]) (v0 := none) (τ0 := p14) dX12_remainder_78 (xc_X12_minus _ _) xcl12 xw_2436 xw_2438 xs_153 hb rfl (Nat.le_of_ble_eq_true rfl) rfl (Nat.le_of_ble_eq_true rfl) (fun Q1 hq => m_X12_minus (d := d + 3) ep14 (fun g hg => by subst hg; exact hq)) ?_
            refine xm_goto 91 dX12_remainder_81 (by decide) ?_
            exact xm_sub [0, 1] rfl (L_X12_remainder_j91 p14 l0 l1 hf hR)
      · refine xm_iconst dX12_remainder_26 (v := 1) (by decide) ?_
        cases hf
        exact xm_iret dX12_remainder_27 rfl (hR _ rfl)
    · exact xm_sub [] rfl (L_X12_remainder_j16 σ hf hR)
-- RankwiseModel.raise(III)Z
def f_X12_raise_s12 (s : (Nat × Int32 × Int32 × Int32 × Int32 × Int32 × xM)) : Option ((Int32 × xM) ⊕ ((Int32 × xM) ⊕ (Nat × Int32 × Int32 × Int32 × Int32 × Int32 × xM))) :=
  xlet s.1 (fun l0 => xlet s.2.1 (fun l1 => xlet s.2.2.1 (fun l2 => xlet s.2.2.2.1 (fun l3 => xlet s.2.2.2.2.1 (fun l4 => xlet s.2.2.2.2.2.1 (fun l5 => xlet s.2.2.2.2.2.2 (fun σ => (if l3 ≤ l5 then some (Sum.inr (Sum.inl (l4, σ))) else (if l4 = (0 : Int32) then some (Sum.inr (Sum.inl (l4, σ))) else (if xk σ l0 12 = true then (f_X12_multiplyValues σ l0 l1 l1 l2).bind (fun p4 => xlet (l5 + (1 : Int32)) (fun v5 => some (Sum.inr (Sum.inr (l0, l1, l2, l3, p4.1, v5, p4.2))))) else none))))))))))
set_option maxHeartbeats 4000000 in
set_option maxRecDepth 20000 in
theorem L_X12_raise_s12 {G : xG} {π : Nat → Nat} {d C Z : Nat} {Q : xQ} (σ : xM) (l0 : Nat) (l1 : Int32) (l2 : Int32) (l3 : Int32) (l4 : Int32) (l5 : Int32) {x : ((Int32 × xM) ⊕ ((Int32 × xM) ⊕ (Nat × Int32 × Int32 × Int32 × Int32 × Int32 × xM)))} (hf : f_X12_raise_s12 (l0, l1, l2, l3, l4, l5, σ) = some x) (hR : ∀ g, x = Sum.inl (g) → Q (.inl (some (.int g.1))) (g.2) π) (hE : ∀ e : (Int32 × xM), x = Sum.inr (Sum.inl e) → xMach G π J_X12_raise (d + 6) C Z 38 [(4, .int e.1)] [] e.2 Q) (hC : ∀ e : (Nat × Int32 × Int32 × Int32 × Int32 × Int32 × xM), x = Sum.inr (Sum.inr e) → xMach G π J_X12_raise (d + 6) C Z 12 [(0, .ref e.1), (1, .int e.2.1), (2, .int e.2.2.1), (3, .int e.2.2.2.1), (4, .int e.2.2.2.2.1), (5, .int e.2.2.2.2.2.1)] [] e.2.2.2.2.2.2 Q) : xMach G π J_X12_raise (d + 6) C Z 12 [(0, .ref l0), (1, .int l1), (2, .int l2), (3, .int l3), (4, .int l4), (5, .int l5)] [] σ Q := by
  have hf : (if l3 ≤ l5 then some (Sum.inr (Sum.inl (l4, σ))) else (if l4 = (0 : Int32) then some (Sum.inr (Sum.inl (l4, σ))) else (if xk σ l0 12 = true then (f_X12_multiplyValues σ l0 l1 l1 l2).bind (fun p4 => xlet (l5 + (1 : Int32)) (fun v5 => some (Sum.inr (Sum.inr (l0, l1, l2, l3, p4.1, v5, p4.2))))) else none))) = some x := hf
  refine xm_iload dX12_raise_12 rfl ?_
  refine xm_iload_n dX12_raise_14 rfl ?_
  refine xb_icmp_ge 38 dX12_raise_15 (by decide) hf (fun c hf => ?_) (fun c hf => ?_)
  · cases hf
    exact xm_sub [4] rfl (hE _ rfl)
  · refine xm_iload dX12_raise_18 rfl ?_
    refine xb_if_eq 38 dX12_raise_20 (by decide) hf (fun c hf => ?_) (fun c hf => ?_)
    · cases hf
      exact xm_sub [4] rfl (hE _ rfl)
    · refine xm_aload_n dX12_raise_23 rfl ?_
      refine xm_iload_n dX12_raise_24 rfl ?_
      refine xm_iload_n dX12_raise_25 rfl ?_
      refine xm_iload_n dX12_raise_26 rfl ?_
      refine xb_if hf (fun hb hf => ?_) (fun _ q => nomatch q)
      obtain ⟨p4, ep4, hf⟩ := xbind hf
      refine xb_callV (As := [.int l1, .int l1, .int l2]) (v0 := (some (.int p4.1))) (τ0 := p4.2) dX12_raise_27 (xc_X12_multiplyValues _ _) xcl12 xw_2520 xw_2522 xs_173 hb rfl (Nat.le_of_ble_eq_true rfl) rfl (Nat.le_of_ble_eq_true rfl) (fun Q1 hq => m_X12_multiplyValues (d := d + 0) ep4 (fun g hg => by subst hg; exact hq)) ?_
      refine xm_istore dX12_raise_30 (by decide) (xm_stL (L' := [(4, .int p4.1), (0, .ref l0), (1, .int l1), (2, .int l2), (3, .int l3), (5, .int l5)]) rfl ?_)
      refine xb_iinc dX12_raise_32 rfl (by decide) (by decide) hf (fun v5 ev5 hf => xm_stL (L' := [(5, .int v5), (4, .int p4.1), (0, .ref l0), (1, .int l1), (2, .int l2), (3, .int l3)]) rfl ?_)
      refine xm_goto 12 dX12_raise_35 (by decide) ?_
      cases hf
      exact xm_sub [2, 3, 4, 5, 1, 0] rfl (hC _ rfl)
theorem L_X12_raise_l12 {G : xG} {π : Nat → Nat} {d C Z : Nat} {Q : xQ} {s0 : (Nat × Int32 × Int32 × Int32 × Int32 × Int32 × xM)} {x : ((Int32 × xM) ⊕ (Int32 × xM))} (h1 : xloop (f_X12_raise_s12) xF s0 = some x) (hR : ∀ g, x = Sum.inl g → Q (.inl (some (.int g.1))) (g.2) π) (hE : ∀ e : (Int32 × xM), x = Sum.inr e → xMach G π J_X12_raise (d + 6) C Z 38 [(4, .int e.1)] [] e.2 Q) : xMach G π J_X12_raise (d + 6) C Z 12 [(0, .ref s0.1), (1, .int s0.2.1), (2, .int s0.2.2.1), (3, .int s0.2.2.2.1), (4, .int s0.2.2.2.2.1), (5, .int s0.2.2.2.2.2.1)] [] s0.2.2.2.2.2.2 Q := by
  refine xloop_run (M := (fun s : (Nat × Int32 × Int32 × Int32 × Int32 × Int32 × xM) => xMach G π J_X12_raise (d + 6) C Z 12 [(0, .ref s.1), (1, .int s.2.1), (2, .int s.2.2.1), (3, .int s.2.2.2.1), (4, .int s.2.2.2.2.1), (5, .int s.2.2.2.2.2.1)] [] s.2.2.2.2.2.2 Q)) (r := x) ?_ xF _ h1
  intro s y hs hx
  exact L_X12_raise_s12 s.2.2.2.2.2.2 s.1 s.2.1 s.2.2.1 s.2.2.2.1 s.2.2.2.2.1 s.2.2.2.2.2.1 (x := y) hs (fun g hg => by subst hg; exact hR g hx) (fun e he => by subst he; exact hE e hx) (fun e he => by subst he; exact hx)
def f_X12_raise_j38 (σ : xM) (l4 : Int32) : Option (Int32 × xM) :=
  (xz l4).bind (fun b6 => some (b6, σ))
set_option maxHeartbeats 4000000 in
set_option maxRecDepth 20000 in
theorem L_X12_raise_j38 {G : xG} {π : Nat → Nat} {d C Z : Nat} {Q : xQ} (σ : xM) (l4 : Int32) {x : (Int32 × xM)} (hf : f_X12_raise_j38 σ l4 = some x) (hR : ∀ g, x = g → Q (.inl (some (.int g.1))) (g.2) π) : xMach G π J_X12_raise (d + 6) C Z 38 [(4, .int l4)] [] σ Q := by
  unfold f_X12_raise_j38 at hf
  refine xm_iload dX12_raise_38 rfl ?_
  obtain ⟨b6, eb6, hf⟩ := xbind hf
  obtain ⟨rfl, hz⟩ := xz_of eb6
  cases hf
  exact xm_zret dX12_raise_40 rfl hz (hR _ rfl)
def f_X12_raise (σ : xM) (l0 : Nat) (l1 : Int32) (l2 : Int32) (l3 : Int32) : Option (Int32 × xM) :=
  (if xk σ l0 12 = true then (f_X12_setInt σ l0 l1 (1 : Int32)).bind (fun p1 => xlet (1 : Int32) (fun v2 => xlet (0 : Int32) (fun v3 => (xloop (f_X12_raise_s12 ) xF (l0, l1, l2, l3, v2, v3, p1)).bind (Sum.elim (fun g => some g) (fun e => f_X12_raise_j38 e.2 e.1))))) else none)
set_option maxHeartbeats 4000000 in
set_option maxRecDepth 20000 in
theorem m_X12_raise {G : xG} {π : Nat → Nat} {d C Z : Nat} {Q : xQ} {σ : xM} {l0 : Nat} {l1 : Int32} {l2 : Int32} {l3 : Int32} {x : (Int32 × xM)} (hf : f_X12_raise σ l0 l1 l2 l3 = some x) (hR : ∀ g, x = g → Q (.inl (some (.int g.1))) (g.2) π) : xMach G π J_X12_raise (d + 6) C Z 0 (lv_args 0 [.ref l0, .int l1, .int l2, .int l3]) [] σ Q := by
  unfold f_X12_raise at hf
  refine xm_stL (L' := [(0, .ref l0), (1, .int l1), (2, .int l2), (3, .int l3)]) rfl ?_
  refine xm_aload_n dX12_raise_0 rfl ?_
  refine xm_iload_n dX12_raise_1 rfl ?_
  refine xm_iconst dX12_raise_2 (v := 1) (by decide) ?_
  refine xb_if hf (fun hb hf => ?_) (fun _ q => nomatch q)
  obtain ⟨p1, ep1, hf⟩ := xbind hf
  refine xb_callV (As := [.int l1, .int (1 : Int32)]) (v0 := none) (τ0 := p1) dX12_raise_3 (xc_X12_setInt _ _) xcl12 xw_1820 xw_1822 xs_84 hb rfl (Nat.le_of_ble_eq_true rfl) rfl (Nat.le_of_ble_eq_true rfl) (fun Q1 hq => m_X12_setInt (d := d + 3) ep1 (fun g hg => by subst hg; exact hq)) ?_
  refine xm_iconst dX12_raise_6 (v := 1) (by decide) ?_
  refine xb_topi hf (fun v2 ev2 hf => ?_)
  refine xm_istore dX12_raise_7 (by decide) (xm_stL (L' := [(4, .int v2), (0, .ref l0), (1, .int l1), (2, .int l2), (3, .int l3)]) rfl ?_)
  refine xm_iconst dX12_raise_9 (v := 0) (by decide) ?_
  refine xb_topi hf (fun v3 ev3 hf => ?_)
  refine xm_istore dX12_raise_10 (by decide) (xm_stL (L' := [(5, .int v3), (4, .int v2), (0, .ref l0), (1, .int l1), (2, .int l2), (3, .int l3)]) rfl ?_)
  obtain ⟨o, h1, hf⟩ := xbind hf
  refine xm_sub [2, 3, 4, 5, 1, 0] rfl (L_X12_raise_l12  h1 (fun g hg => ?_) (fun e he => ?_))
  · subst hg
    cases hf
    exact hR _ rfl
  · subst he
    rw [Sum.elim_inr] at hf
    have hf : f_X12_raise_j38 e.2 e.1 = some _ := hf
    exact xm_sub [0] rfl (L_X12_raise_j38 e.2 e.1 hf hR)
-- RankwiseModel.power(III)I
def f_X12_power_j125 (σ : xM) (s0 : Int32) : Option (Int32 × xM) :=
  some (s0, σ)
set_option maxHeartbeats 4000000 in
set_option maxRecDepth 20000 in
theorem L_X12_power_j125 {G : xG} {π : Nat → Nat} {d C Z : Nat} {Q : xQ} (σ : xM) (s0 : Int32) {x : (Int32 × xM)} (hf : f_X12_power_j125 σ s0 = some x) (hR : ∀ g, x = g → Q (.inl (some (.int g.1))) (g.2) π) : xMach G π J_X12_power (d + 7) C Z 125 [] [.int s0] σ Q := by
  unfold f_X12_power_j125 at hf
  cases hf
  exact xm_iret dX12_power_125 rfl (hR _ rfl)
def f_X12_power_j115 (σ : xM) (l5 : Int32) : Option (Int32 × xM) :=
  (if l5 = (0 : Int32) then f_X12_power_j125 σ (3 : Int32) else f_X12_power_j125 σ (0 : Int32))
set_option maxHeartbeats 4000000 in
set_option maxRecDepth 20000 in
theorem L_X12_power_j115 {G : xG} {π : Nat → Nat} {d C Z : Nat} {Q : xQ} (σ : xM) (l5 : Int32) {x : (Int32 × xM)} (hf : f_X12_power_j115 σ l5 = some x) (hR : ∀ g, x = g → Q (.inl (some (.int g.1))) (g.2) π) : xMach G π J_X12_power (d + 7) C Z 115 [(5, .int l5)] [] σ Q := by
  unfold f_X12_power_j115 at hf
  refine xm_iload dX12_power_115 rfl ?_
  refine xb_if_eq 124 dX12_power_117 (by decide) hf (fun c hf => ?_) (fun c hf => ?_)
  · refine xm_iconst dX12_power_124 (v := 3) (by decide) ?_
    exact xm_sub [] rfl (L_X12_power_j125 σ (3 : Int32) hf hR)
  · refine xm_iconst dX12_power_120 (v := 0) (by decide) ?_
    refine xm_goto 125 dX12_power_121 (by decide) ?_
    exact xm_sub [] rfl (L_X12_power_j125 σ (0 : Int32) hf hR)
def f_X12_power_j102 (σ : xM) (l0 : Nat) (l1 : Int32) (l5 : Int32) : Option (Int32 × xM) :=
  (if l5 = (0 : Int32) then f_X12_power_j115 σ l5 else (if xk σ l0 12 = true then (f_X12_copyValue σ l0 l1 (3600 : Int32)).bind (fun p6 => f_X12_power_j115 p6 l5) else none))
set_option maxHeartbeats 4000000 in
set_option maxRecDepth 20000 in
theorem L_X12_power_j102 {G : xG} {π : Nat → Nat} {d C Z : Nat} {Q : xQ} (σ : xM) (l0 : Nat) (l1 : Int32) (l5 : Int32) {x : (Int32 × xM)} (hf : f_X12_power_j102 σ l0 l1 l5 = some x) (hR : ∀ g, x = g → Q (.inl (some (.int g.1))) (g.2) π) : xMach G π J_X12_power (d + 7) C Z 102 [(0, .ref l0), (1, .int l1), (5, .int l5)] [] σ Q := by
  unfold f_X12_power_j102 at hf
  refine xm_iload dX12_power_102 rfl ?_
  refine xb_if_eq 115 dX12_power_104 (by decide) hf (fun c hf => ?_) (fun c hf => ?_)
  · exact xm_sub [2] rfl (L_X12_power_j115 σ l5 hf hR)
  · refine xm_aload_n dX12_power_107 rfl ?_
    refine xm_iload_n dX12_power_108 rfl ?_
    refine xm_sipush dX12_power_109 (v := 3600) (by decide) ?_
    refine xb_if hf (fun hb hf => ?_) (fun _ q => nomatch q)
    obtain ⟨p6, ep6, hf⟩ := xbind hf
    refine xb_callV (As := [.int l1, .int (3600 : Int32)]) (v0 := none) (τ0 := p6) dX12_power_112 (xc_X12_copyValue _ _) xcl12 xw_2100 xw_2102 xs_88 hb rfl (Nat.le_of_ble_eq_true rfl) rfl (Nat.le_of_ble_eq_true rfl) (fun Q1 hq => m_X12_copyValue (d := d + 6) ep6 (fun g hg => by subst hg; exact hq)) ?_
    exact xm_sub [2] rfl (L_X12_power_j115 p6 l5 hf hR)
def f_X12_power_j64 (σ : xM) (l0 : Nat) (l1 : Int32) (l4 : Int32) (s0 : Int32) (s1 : Int32) (s2 : Int32) (s3 : Nat) : Option (Int32 × xM) :=
  (if xk σ s3 12 = true then (f_X12_raise σ s3 s2 s1 s0).bind (fun p5 => (if p5.1 = (0 : Int32) then f_X12_power_j102 p5.2 l0 l1 p5.1 else (if (0 : Int32) ≤ l4 then f_X12_power_j102 p5.2 l0 l1 p5.1 else (if xk p5.2 l0 12 = true then (f_X12_setInt p5.2 l0 (3601 : Int32) (1 : Int32)).bind (fun p7 => (if xk p7 l0 12 = true then (f_X12_divideValues p7 l0 (3600 : Int32) (3601 : Int32) (3600 : Int32)).bind (fun p8 => f_X12_power_j102 p8.2 l0 l1 p8.1) else none)) else none)))) else none)
set_option maxHeartbeats 4000000 in
set_option maxRecDepth 20000 in
theorem L_X12_power_j64 {G : xG} {π : Nat → Nat} {d C Z : Nat} {Q : xQ} (σ : xM) (l0 : Nat) (l1 : Int32) (l4 : Int32) (s0 : Int32) (s1 : Int32) (s2 : Int32) (s3 : Nat) {x : (Int32 × xM)} (hf : f_X12_power_j64 σ l0 l1 l4 s0 s1 s2 s3 = some x) (hR : ∀ g, x = g → Q (.inl (some (.int g.1))) (g.2) π) : xMach G π J_X12_power (d + 7) C Z 64 [(0, .ref l0), (1, .int l1), (4, .int l4)] [.int s0, .int s1, .int s2, .ref s3] σ Q := by
  unfold f_X12_power_j64 at hf
  refine xb_if hf (fun hb hf => ?_) (fun _ q => nomatch q)
  obtain ⟨p5, ep5, hf⟩ := xbind hf
  refine xb_callV (As := [.int s2, .int s1, .int s0]) (v0 := (some (.int p5.1))) (τ0 := p5.2) dX12_power_64 (xc_X12_raise _ _) xcl12 xw_2540 xw_2542 xs_178 hb rfl (Nat.le_of_ble_eq_true rfl) rfl (Nat.le_of_ble_eq_true rfl) (fun Q1 hq => m_X12_raise (d := d + 0) ep5 (fun g hg => by subst hg; exact hq)) ?_
  refine xm_istore dX12_power_67 (by decide) (xm_stL (L' := [(5, .int p5.1), (0, .ref l0), (1, .int l1), (4, .int l4)]) rfl ?_)
  refine xm_iload dX12_power_69 rfl ?_
  refine xb_if_eq 102 dX12_power_71 (by decide) hf (fun c hf => ?_) (fun c hf => ?_)
  · exact xm_sub [1, 2, 0] rfl (L_X12_power_j102 p5.2 l0 l1 p5.1 hf hR)
  · refine xm_iload dX12_power_74 rfl ?_
    refine xb_if_ge 102 dX12_power_76 (by decide) hf (fun c hf => ?_) (fun c hf => ?_)
    · exact xm_sub [1, 2, 0] rfl (L_X12_power_j102 p5.2 l0 l1 p5.1 hf hR)
    · refine xm_aload_n dX12_power_79 rfl ?_
      refine xm_sipush dX12_power_80 (v := 3601) (by decide) ?_
      refine xm_iconst dX12_power_83 (v := 1) (by decide) ?_
      refine xb_if hf (fun hb hf => ?_) (fun _ q => nomatch q)
      obtain ⟨p7, ep7, hf⟩ := xbind hf
      refine xb_callV (As := [.int (3601 : Int32), .int (1 : Int32)]) (v0 := none) (τ0 := p7) dX12_power_84 (xc_X12_setInt _ _) xcl12 xw_1820 xw_1822 xs_84 hb rfl (Nat.le_of_ble_eq_true rfl) rfl (Nat.le_of_ble_eq_true rfl) (fun Q1 hq => m_X12_setInt (d := d + 4) ep7 (fun g hg => by subst hg; exact hq)) ?_
      refine xm_aload_n dX12_power_87 rfl ?_
      refine xm_sipush dX12_power_88 (v := 3600) (by decide) ?_
      refine xm_sipush dX12_power_91 (v := 3601) (by decide) ?_
      refine xm_sipush dX12_power_94 (v := 3600) (by decide) ?_
      refine xb_if hf (fun hb hf => ?_) (fun _ q => nomatch q)
      obtain ⟨p8, ep8, hf⟩ := xbind hf
      refine xb_callV (As := [.int (3600 : Int32), .int (3601 : Int32), .int (3600 : Int32)]) (v0 := (some (.int p8.1))) (τ0 := p8.2) dX12_power_97 (xc_X12_divideValues _ _) xcl12 xw_2528 xw_2530 xs_175 hb rfl (Nat.le_of_ble_eq_true rfl) rfl (Nat.le_of_ble_eq_true rfl) (fun Q1 hq => m_X12_divideValues (d := d + 1) ep8 (fun g hg => by subst hg; exact hq)) ?_
      refine xm_istore dX12_power_100 (by decide) (xm_stL (L' := [(5, .int p8.1), (0, .ref l0), (1, .int l1), (4, .int l4)]) rfl ?_)
      exact xm_sub [1, 2, 0] rfl (L_X12_power_j102 p8.2 l0 l1 p8.1 hf hR)
def f_X12_power_j32 (σ : xM) (l0 : Nat) (l1 : Int32) (l2 : Int32) (l4 : Int32) : Option (Int32 × xM) :=
  (f_X12_in σ l4 (-64 : Int32) (64 : Int32)).bind (fun p4 => (if p4 = (0 : Int32) then some ((3 : Int32), σ) else (if (0 : Int32) ≤ l4 then f_X12_power_j64 σ l0 l1 l4 l4 l2 (3600 : Int32) l0 else f_X12_power_j64 σ l0 l1 l4 (-l4) l2 (3600 : Int32) l0)))
set_option maxHeartbeats 4000000 in
set_option maxRecDepth 20000 in
theorem L_X12_power_j32 {G : xG} {π : Nat → Nat} {d C Z : Nat} {Q : xQ} (σ : xM) (l0 : Nat) (l1 : Int32) (l2 : Int32) (l4 : Int32) {x : (Int32 × xM)} (hf : f_X12_power_j32 σ l0 l1 l2 l4 = some x) (hR : ∀ g, x = g → Q (.inl (some (.int g.1))) (g.2) π) : xMach G π J_X12_power (d + 7) C Z 32 [(0, .ref l0), (1, .int l1), (2, .int l2), (4, .int l4)] [] σ Q := by
  unfold f_X12_power_j32 at hf
  refine xm_iload dX12_power_32 rfl ?_
  refine xm_bipush dX12_power_34 (v := -64) (by decide) ?_
  refine xm_bipush dX12_power_36 (v := 64) (by decide) ?_
  obtain ⟨p4, ep4, hf⟩ := xbind hf
  refine xb_callS (As := [.int l4, .int (-64 : Int32), .int (64 : Int32)]) (v0 := (some (.int p4))) (τ0 := σ) dX12_power_38 (xc_X12_in _ _) xw_2132 xw_2133 rfl (Nat.le_of_ble_eq_true rfl) rfl (Nat.le_of_ble_eq_true rfl) (fun Q1 hq => m_X12_in (d := d + 6) ep4 (fun g hg => by subst hg; exact hq)) ?_
  refine xb_if_ne 46 dX12_power_41 (by decide) hf (fun c hf => ?_) (fun c hf => ?_)
  · refine xm_aload_n dX12_power_46 rfl ?_
    refine xm_sipush dX12_power_47 (v := 3600) (by decide) ?_
    refine xm_iload_n dX12_power_50 rfl ?_
    refine xm_iload dX12_power_51 rfl ?_
    refine xb_if_ge 62 dX12_power_53 (by decide) hf (fun c hf => ?_) (fun c hf => ?_)
    · refine xm_iload dX12_power_62 rfl ?_
      exact xm_sub [0, 1, 3] rfl (L_X12_power_j64 σ l0 l1 l4 l4 l2 (3600 : Int32) l0 hf hR)
    · refine xm_iload dX12_power_56 rfl ?_
      refine xm_ineg dX12_power_58 ?_
      refine xm_goto 64 dX12_power_59 (by decide) ?_
      exact xm_sub [0, 1, 3] rfl (L_X12_power_j64 σ l0 l1 l4 (-l4) l2 (3600 : Int32) l0 hf hR)
  · refine xm_iconst dX12_power_44 (v := 3) (by decide) ?_
    cases hf
    exact xm_iret dX12_power_45 rfl (hR _ rfl)
def f_X12_power (σ : xM) (l0 : Nat) (l1 : Int32) (l2 : Int32) (l3 : Int32) : Option (Int32 × xM) :=
  (if xk σ l0 12 = true then (f_X12_isWhole σ l0 l3).bind (fun p1 => (if p1 = (0 : Int32) then some ((2 : Int32), σ) else (if xk σ l0 12 = true then (f_X12_small σ l0 l3).bind (fun p2 => (if xk p2.2 l0 12 = true then (f_X12_sign p2.2 l0 l2).bind (fun p3 => (if p3 = (0 : Int32) then (if (0 : Int32) ≤ p2.1 then f_X12_power_j32 p2.2 l0 l1 l2 p2.1 else some ((1 : Int32), p2.2)) else f_X12_power_j32 p2.2 l0 l1 l2 p2.1)) else none)) else none))) else none)
set_option maxHeartbeats 4000000 in
set_option maxRecDepth 20000 in
theorem m_X12_power {G : xG} {π : Nat → Nat} {d C Z : Nat} {Q : xQ} {σ : xM} {l0 : Nat} {l1 : Int32} {l2 : Int32} {l3 : Int32} {x : (Int32 × xM)} (hf : f_X12_power σ l0 l1 l2 l3 = some x) (hR : ∀ g, x = g → Q (.inl (some (.int g.1))) (g.2) π) : xMach G π J_X12_power (d + 7) C Z 0 (lv_args 0 [.ref l0, .int l1, .int l2, .int l3]) [] σ Q := by
  unfold f_X12_power at hf
  refine xm_stL (L' := [(0, .ref l0), (1, .int l1), (2, .int l2), (3, .int l3)]) rfl ?_
  refine xm_aload_n dX12_power_0 rfl ?_
  refine xm_iload_n dX12_power_1 rfl ?_
  refine xb_if hf (fun hb hf => ?_) (fun _ q => nomatch q)
  obtain ⟨p1, ep1, hf⟩ := xbind hf
  refine xb_callV (As := [.int l3]) (v0 := (some (.int p1))) (τ0 := σ) dX12_power_2 (xc_X12_isWhole _ _) xcl12 xw_2476 xw_2478 xs_163 hb rfl (Nat.le_of_ble_eq_true rfl) rfl (Nat.le_of_ble_eq_true rfl) (fun Q1 hq => m_X12_isWhole (d := d + 6) ep1 (fun g hg => by subst hg; exact hq)) ?_
  refine xb_if_ne 10 dX12_power_5 (by decide) hf (fun c hf => ?_) (fun c hf => ?_)
  · refine xm_aload_n dX12_power_10 rfl ?_
    refine xm_iload_n dX12_power_11 rfl ?_
    refine xb_if hf (fun hb hf => ?_) (fun _ q => nomatch q)
    obtain ⟨p2, ep2, hf⟩ := xbind hf
    refine xb_callV (As := [.int l3]) (v0 := (some (.int p2.1))) (τ0 := p2.2) dX12_power_12 (xc_X12_small _ _) xcl12 xw_2484 xw_2486 xs_165 hb rfl (Nat.le_of_ble_eq_true rfl) rfl (Nat.le_of_ble_eq_true rfl) (fun Q1 hq => m_X12_small (d := d + 3) ep2 (fun g hg => by subst hg; exact hq)) ?_
    refine xm_istore dX12_power_15 (by decide) (xm_stL (L' := [(4, .int p2.1), (0, .ref l0), (1, .int l1), (2, .int l2), (3, .int l3)]) rfl ?_)
    refine xm_aload_n dX12_power_17 rfl ?_
    refine xm_iload_n dX12_power_18 rfl ?_
    refine xb_if hf (fun hb hf => ?_) (fun _ q => nomatch q)
    obtain ⟨p3, ep3, hf⟩ := xbind hf
    refine xb_callV (As := [.int l2]) (v0 := (some (.int p3))) (τ0 := p2.2) dX12_power_19 (xc_X12_sign _ _) xcl12 xw_2387 xw_2389 xs_141 hb rfl (Nat.le_of_ble_eq_true rfl) rfl (Nat.le_of_ble_eq_true rfl) (fun Q1 hq => m_X12_sign (d := d + 6) ep3 (fun g hg => by subst hg; exact hq)) ?_
    refine xb_if_ne 32 dX12_power_22 (by decide) hf (fun c hf => ?_) (fun c hf => ?_)
    · exact xm_sub [1, 2, 3, 0] rfl (L_X12_power_j32 p2.2 l0 l1 l2 p2.1 hf hR)
    · refine xm_iload dX12_power_25 rfl ?_
      refine xb_if_ge 32 dX12_power_27 (by decide) hf (fun c hf => ?_) (fun c hf => ?_)
      · exact xm_sub [1, 2, 3, 0] rfl (L_X12_power_j32 p2.2 l0 l1 l2 p2.1 hf hR)
      · refine xm_iconst dX12_power_30 (v := 1) (by decide) ?_
        cases hf
        exact xm_iret dX12_power_31 rfl (hR _ rfl)
  · refine xm_iconst dX12_power_8 (v := 2) (by decide) ?_
    cases hf
    exact xm_iret dX12_power_9 rfl (hR _ rfl)
-- RankwiseModel.factorial(II)I
def f_X12_factorial_j16 (σ : xM)  : Option (Int32 × xM) :=
  some ((2 : Int32), σ)
set_option maxHeartbeats 4000000 in
set_option maxRecDepth 20000 in
theorem L_X12_factorial_j16 {G : xG} {π : Nat → Nat} {d C Z : Nat} {Q : xQ} (σ : xM)  {x : (Int32 × xM)} (hf : f_X12_factorial_j16 σ = some x) (hR : ∀ g, x = g → Q (.inl (some (.int g.1))) (g.2) π) : xMach G π J_X12_factorial (d + 6) C Z 16 [] [] σ Q := by
  unfold f_X12_factorial_j16 at hf
  refine xm_iconst dX12_factorial_16 (v := 2) (by decide) ?_
  cases hf
  exact xm_iret dX12_factorial_17 rfl (hR _ rfl)
def f_X12_factorial_s41 (s : (Nat × Int32 × Int32 × Int32 × xM)) : Option ((Int32 × xM) ⊕ ((xM) ⊕ (Nat × Int32 × Int32 × Int32 × xM))) :=
  xlet s.1 (fun l0 => xlet s.2.1 (fun l1 => xlet s.2.2.1 (fun l3 => xlet s.2.2.2.1 (fun l4 => xlet s.2.2.2.2 (fun σ => (if l3 < l4 then some (Sum.inr (Sum.inl σ)) else (if xk σ l0 12 = true then (f_X12_setInt σ l0 (3600 : Int32) l4).bind (fun p6 => (if xk p6 l0 12 = true then (f_X12_multiplyValues p6 l0 l1 l1 (3600 : Int32)).bind (fun p7 => xlet (l4 + (1 : Int32)) (fun v8 => some (Sum.inr (Sum.inr (l0, l1, l3, v8, p7.2))))) else none)) else none)))))))
set_option maxHeartbeats 4000000 in
set_option maxRecDepth 20000 in
theorem L_X12_factorial_s41 {G : xG} {π : Nat → Nat} {d C Z : Nat} {Q : xQ} (σ : xM) (l0 : Nat) (l1 : Int32) (l3 : Int32) (l4 : Int32) {x : ((Int32 × xM) ⊕ ((xM) ⊕ (Nat × Int32 × Int32 × Int32 × xM)))} (hf : f_X12_factorial_s41 (l0, l1, l3, l4, σ) = some x) (hR : ∀ g, x = Sum.inl (g) → Q (.inl (some (.int g.1))) (g.2) π) (hE : ∀ e : (xM), x = Sum.inr (Sum.inl e) → xMach G π J_X12_factorial (d + 6) C Z 72 [] [] e Q) (hC : ∀ e : (Nat × Int32 × Int32 × Int32 × xM), x = Sum.inr (Sum.inr e) → xMach G π J_X12_factorial (d + 6) C Z 41 [(0, .ref e.1), (1, .int e.2.1), (3, .int e.2.2.1), (4, .int e.2.2.2.1)] [] e.2.2.2.2 Q) : xMach G π J_X12_factorial (d + 6) C Z 41 [(0, .ref l0), (1, .int l1), (3, .int l3), (4, .int l4)] [] σ Q := by
  have hf : (if l3 < l4 then some (Sum.inr (Sum.inl σ)) else (if xk σ l0 12 = true then (f_X12_setInt σ l0 (3600 : Int32) l4).bind (fun p6 => (if xk p6 l0 12 = true then (f_X12_multiplyValues p6 l0 l1 l1 (3600 : Int32)).bind (fun p7 => xlet (l4 + (1 : Int32)) (fun v8 => some (Sum.inr (Sum.inr (l0, l1, l3, v8, p7.2))))) else none)) else none)) = some x := hf
  refine xm_iload dX12_factorial_41 rfl ?_
  refine xm_iload_n dX12_factorial_43 rfl ?_
  refine xb_icmp_gt 72 dX12_factorial_44 (by decide) hf (fun c hf => ?_) (fun c hf => ?_)
  · cases hf
    exact xm_sub [] rfl (hE _ rfl)
  · refine xm_aload_n dX12_factorial_47 rfl ?_
    refine xm_sipush dX12_factorial_48 (v := 3600) (by decide) ?_
    refine xm_iload dX12_factorial_51 rfl ?_
    refine xb_if hf (fun hb hf => ?_) (fun _ q => nomatch q)
    obtain ⟨p6, ep6, hf⟩ := xbind hf
    refine xb_callV (As := [.int (3600 : Int32), .int l4]) (v0 := none) (τ0 := p6) dX12_factorial_53 (xc_X12_setInt _ _) xcl12 xw_1820 xw_1822 xs_84 hb rfl (Nat.le_of_ble_eq_true rfl) rfl (Nat.le_of_ble_eq_true rfl) (fun Q1 hq => m_X12_setInt (d := d + 3) ep6 (fun g hg => by subst hg; exact hq)) ?_
    refine xm_aload_n dX12_factorial_56 rfl ?_
    refine xm_iload_n dX12_factorial_57 rfl ?_
    refine xm_iload_n dX12_factorial_58 rfl ?_
    refine xm_sipush dX12_factorial_59 (v := 3600) (by decide) ?_
    refine xb_if hf (fun hb hf => ?_) (fun _ q => nomatch q)
    obtain ⟨p7, ep7, hf⟩ := xbind hf
    refine xb_callV (As := [.int l1, .int l1, .int (3600 : Int32)]) (v0 := (some (.int p7.1))) (τ0 := p7.2) dX12_factorial_62 (xc_X12_multiplyValues _ _) xcl12 xw_2520 xw_2522 xs_173 hb rfl (Nat.le_of_ble_eq_true rfl) rfl (Nat.le_of_ble_eq_true rfl) (fun Q1 hq => m_X12_multiplyValues (d := d + 0) ep7 (fun g hg => by subst hg; exact hq)) ?_
    refine xm_pop dX12_factorial_65 rfl ?_
    refine xb_iinc dX12_factorial_66 rfl (by decide) (by decide) hf (fun v8 ev8 hf => xm_stL (L' := [(4, .int v8), (0, .ref l0), (1, .int l1), (3, .int l3)]) rfl ?_)
    refine xm_goto 41 dX12_factorial_69 (by decide) ?_
    cases hf
    exact xm_sub [1, 2, 3, 0] rfl (hC _ rfl)
theorem L_X12_factorial_l41 {G : xG} {π : Nat → Nat} {d C Z : Nat} {Q : xQ} {s0 : (Nat × Int32 × Int32 × Int32 × xM)} {x : ((Int32 × xM) ⊕ (xM))} (h1 : xloop (f_X12_factorial_s41) xF s0 = some x) (hR : ∀ g, x = Sum.inl g → Q (.inl (some (.int g.1))) (g.2) π) (hE : ∀ e : (xM), x = Sum.inr e → xMach G π J_X12_factorial (d + 6) C Z 72 [] [] e Q) : xMach G π J_X12_factorial (d + 6) C Z 41 [(0, .ref s0.1), (1, .int s0.2.1), (3, .int s0.2.2.1), (4, .int s0.2.2.2.1)] [] s0.2.2.2.2 Q := by
  refine xloop_run (M := (fun s : (Nat × Int32 × Int32 × Int32 × xM) => xMach G π J_X12_factorial (d + 6) C Z 41 [(0, .ref s.1), (1, .int s.2.1), (3, .int s.2.2.1), (4, .int s.2.2.2.1)] [] s.2.2.2.2 Q)) (r := x) ?_ xF _ h1
  intro s y hs hx
  exact L_X12_factorial_s41 s.2.2.2.2 s.1 s.2.1 s.2.2.1 s.2.2.2.1 (x := y) hs (fun g hg => by subst hg; exact hR g hx) (fun e he => by subst he; exact hE e hx) (fun e he => by subst he; exact hx)
def f_X12_factorial_j72 (σ : xM)  : Option (Int32 × xM) :=
  some ((0 : Int32), σ)
set_option maxHeartbeats 4000000 in
set_option maxRecDepth 20000 in
theorem L_X12_factorial_j72 {G : xG} {π : Nat → Nat} {d C Z : Nat} {Q : xQ} (σ : xM)  {x : (Int32 × xM)} (hf : f_X12_factorial_j72 σ = some x) (hR : ∀ g, x = g → Q (.inl (some (.int g.1))) (g.2) π) : xMach G π J_X12_factorial (d + 6) C Z 72 [] [] σ Q := by
  unfold f_X12_factorial_j72 at hf
  refine xm_iconst dX12_factorial_72 (v := 0) (by decide) ?_
  cases hf
  exact xm_iret dX12_factorial_73 rfl (hR _ rfl)
def f_X12_factorial (σ : xM) (l0 : Nat) (l1 : Int32) (l2 : Int32) : Option (Int32 × xM) :=
  (if xk σ l0 12 = true then (f_X12_isWhole σ l0 l2).bind (fun p1 => (if p1 = (0 : Int32) then f_X12_factorial_j16 σ else (if xk σ l0 12 = true then (f_X12_sign σ l0 l2).bind (fun p2 => (if (0 : Int32) ≤ p2 then (if xk σ l0 12 = true then (f_X12_small σ l0 l2).bind (fun p3 => (if p3.1 ≤ (30 : Int32) then (if xk p3.2 l0 12 = true then (f_X12_setInt p3.2 l0 l1 (1 : Int32)).bind (fun p4 => xlet (2 : Int32) (fun v5 => (xloop (f_X12_factorial_s41 ) xF (l0, l1, p3.1, v5, p4)).bind (Sum.elim (fun g => some g) (fun e => f_X12_factorial_j72 e)))) else none) else some ((3 : Int32), p3.2))) else none) else f_X12_factorial_j16 σ)) else none))) else none)
set_option maxHeartbeats 4000000 in
set_option maxRecDepth 20000 in
theorem m_X12_factorial {G : xG} {π : Nat → Nat} {d C Z : Nat} {Q : xQ} {σ : xM} {l0 : Nat} {l1 : Int32} {l2 : Int32} {x : (Int32 × xM)} (hf : f_X12_factorial σ l0 l1 l2 = some x) (hR : ∀ g, x = g → Q (.inl (some (.int g.1))) (g.2) π) : xMach G π J_X12_factorial (d + 6) C Z 0 (lv_args 0 [.ref l0, .int l1, .int l2]) [] σ Q := by
  unfold f_X12_factorial at hf
  refine xm_stL (L' := [(0, .ref l0), (1, .int l1), (2, .int l2)]) rfl ?_
  refine xm_aload_n dX12_factorial_0 rfl ?_
  refine xm_iload_n dX12_factorial_1 rfl ?_
  refine xb_if hf (fun hb hf => ?_) (fun _ q => nomatch q)
  obtain ⟨p1, ep1, hf⟩ := xbind hf
  refine xb_callV (As := [.int l2]) (v0 := (some (.int p1))) (τ0 := σ) dX12_factorial_2 (xc_X12_isWhole _ _) xcl12 xw_2476 xw_2478 xs_163 hb rfl (Nat.le_of_ble_eq_true rfl) rfl (Nat.le_of_ble_eq_true rfl) (fun Q1 hq => m_X12_isWhole (d := d + 5) ep1 (fun g hg => by subst hg; exact hq)) ?_
  refine xb_if_eq 16 dX12_factorial_5 (by decide) hf (fun c hf => ?_) (fun c hf => ?_)
  · exact xm_sub [] rfl (L_X12_factorial_j16 σ hf hR)
  · refine xm_aload_n dX12_factorial_8 rfl ?_
    refine xm_iload_n dX12_factorial_9 rfl ?_
    refine xb_if hf (fun hb hf => ?_) (fun _ q => nomatch q)
    obtain ⟨p2, ep2, hf⟩ := xbind hf
    refine xb_callV (As := [.int l2]) (v0 := (some (.int p2))) (τ0 := σ) dX12_factorial_10 (xc_X12_sign _ _) xcl12 xw_2387 xw_2389 xs_141 hb rfl (Nat.le_of_ble_eq_true rfl) rfl (Nat.le_of_ble_eq_true rfl) (fun Q1 hq => m_X12_sign (d := d + 5) ep2 (fun g hg => by subst hg; exact hq)) ?_
    refine xb_if_ge 18 dX12_factorial_13 (by decide) hf (fun c hf => ?_) (fun c hf => ?_)
    · refine xm_aload_n dX12_factorial_18 rfl ?_
      refine xm_iload_n dX12_factorial_19 rfl ?_
      refine xb_if hf (fun hb hf => ?_) (fun _ q => nomatch q)
      obtain ⟨p3, ep3, hf⟩ := xbind hf
      refine xb_callV (As := [.int l2]) (v0 := (some (.int p3.1))) (τ0 := p3.2) dX12_factorial_20 (xc_X12_small _ _) xcl12 xw_2484 xw_2486 xs_165 hb rfl (Nat.le_of_ble_eq_true rfl) rfl (Nat.le_of_ble_eq_true rfl) (fun Q1 hq => m_X12_small (d := d + 2) ep3 (fun g hg => by subst hg; exact hq)) ?_
      refine xm_istore_n dX12_factorial_23 (by decide) (xm_stL (L' := [(3, .int p3.1), (0, .ref l0), (1, .int l1), (2, .int l2)]) rfl ?_)
      refine xm_iload_n dX12_factorial_24 rfl ?_
      refine xm_bipush dX12_factorial_25 (v := 30) (by decide) ?_
      refine xb_icmp_le 32 dX12_factorial_27 (by decide) hf (fun c hf => ?_) (fun c hf => ?_)
      · refine xm_aload_n dX12_factorial_32 rfl ?_
        refine xm_iload_n dX12_factorial_33 rfl ?_
        refine xm_iconst dX12_factorial_34 (v := 1) (by decide) ?_
        refine xb_if hf (fun hb hf => ?_) (fun _ q => nomatch q)
        obtain ⟨p4, ep4, hf⟩ := xbind hf
        refine xb_callV (As := [.int l1, .int (1 : Int32)]) (v0 := none) (τ0 := p4) dX12_factorial_35 (xc_X12_setInt _ _) xcl12 xw_1820 xw_1822 xs_84 hb rfl (Nat.le_of_ble_eq_true rfl) rfl (Nat.le_of_ble_eq_true rfl) (fun Q1 hq => m_X12_setInt (d := d + 3) ep4 (fun g hg => by subst hg; exact hq)) ?_
        refine xm_iconst dX12_factorial_38 (v := 2) (by decide) ?_
        refine xb_topi hf (fun v5 ev5 hf => ?_)
        refine xm_istore dX12_factorial_39 (by decide) (xm_stL (L' := [(4, .int v5), (3, .int p3.1), (0, .ref l0), (1, .int l1), (2, .int l2)]) rfl ?_)
        obtain ⟨o, h1, hf⟩ := xbind hf
        refine xm_sub [2, 3, 1, 0] rfl (L_X12_factorial_l41  h1 (fun g hg => ?_) (fun e he => ?_))
        · subst hg
          cases hf
          exact hR _ rfl
        · subst he
          rw [Sum.elim_inr] at hf
          have hf : f_X12_factorial_j72 e = some _ := hf
          exact xm_sub [] rfl (L_X12_factorial_j72 e hf hR)
      · refine xm_iconst dX12_factorial_30 (v := 3) (by decide) ?_
        cases hf
        exact xm_iret dX12_factorial_31 rfl (hR _ rfl)
    · exact xm_sub [] rfl (L_X12_factorial_j16 σ hf hR)
-- RankwiseModel.one(II)I
def f_X12_one_j55 (σ : xM)  : Option (Int32 × xM) :=
  some ((0 : Int32), σ)
set_option maxHeartbeats 4000000 in
set_option maxRecDepth 20000 in
theorem L_X12_one_j55 {G : xG} {π : Nat → Nat} {d C Z : Nat} {Q : xQ} (σ : xM)  {x : (Int32 × xM)} (hf : f_X12_one_j55 σ = some x) (hR : ∀ g, x = g → Q (.inl (some (.int g.1))) (g.2) π) : xMach G π J_X12_one (d + 7) C Z 55 [] [] σ Q := by
  unfold f_X12_one_j55 at hf
  refine xm_iconst dX12_one_55 (v := 0) (by decide) ?_
  cases hf
  exact xm_iret dX12_one_56 rfl (hR _ rfl)
def f_X12_one_j52 (σ : xM) (s0 : Int32) (s1 : Int32) (s2 : Nat) : Option (Int32 × xM) :=
  (if xk σ s2 12 = true then (f_X12_setInt σ s2 s1 s0).bind (fun p2 => f_X12_one_j55 p2) else none)
set_option maxHeartbeats 4000000 in
set_option maxRecDepth 20000 in
theorem L_X12_one_j52 {G : xG} {π : Nat → Nat} {d C Z : Nat} {Q : xQ} (σ : xM) (s0 : Int32) (s1 : Int32) (s2 : Nat) {x : (Int32 × xM)} (hf : f_X12_one_j52 σ s0 s1 s2 = some x) (hR : ∀ g, x = g → Q (.inl (some (.int g.1))) (g.2) π) : xMach G π J_X12_one (d + 7) C Z 52 [] [.int s0, .int s1, .ref s2] σ Q := by
  unfold f_X12_one_j52 at hf
  refine xb_if hf (fun hb hf => ?_) (fun _ q => nomatch q)
  obtain ⟨p2, ep2, hf⟩ := xbind hf
  refine xb_callV (As := [.int s1, .int s0]) (v0 := none) (τ0 := p2) dX12_one_52 (xc_X12_setInt _ _) xcl12 xw_1820 xw_1822 xs_84 hb rfl (Nat.le_of_ble_eq_true rfl) rfl (Nat.le_of_ble_eq_true rfl) (fun Q1 hq => m_X12_setInt (d := d + 4) ep2 (fun g hg => by subst hg; exact hq)) ?_
  exact xm_sub [] rfl (L_X12_one_j55 p2 hf hR)
def f_X12_one (σ : xM) (l0 : Nat) (l1 : Int32) (l2 : Int32) : Option (Int32 × xM) :=
  (if l1 = (13 : Int32) then (if xk σ l0 12 = true then (f_X12_factorial σ l0 l2 l2).bind (fun p6 => some (p6.1, p6.2)) else none) else (if l1 = (11 : Int32) then (gR σ l0 12 3).bind (fun x3 => (if xk σ l0 12 = true then (f_X12_sign σ l0 l2).bind (fun p4 => (wI σ x3 ((28 : Int32) * l2) (-p4)).bind (fun σ5 => f_X12_one_j55 σ5)) else none)) else (if xk σ l0 12 = true then (f_X12_sign σ l0 l2).bind (fun p1 => (if p1 = (0 : Int32) then f_X12_one_j52 σ (1 : Int32) l2 l0 else f_X12_one_j52 σ (0 : Int32) l2 l0)) else none)))
set_option maxHeartbeats 4000000 in
set_option maxRecDepth 20000 in
theorem m_X12_one {G : xG} {π : Nat → Nat} {d C Z : Nat} {Q : xQ} {σ : xM} {l0 : Nat} {l1 : Int32} {l2 : Int32} {x : (Int32 × xM)} (hf : f_X12_one σ l0 l1 l2 = some x) (hR : ∀ g, x = g → Q (.inl (some (.int g.1))) (g.2) π) : xMach G π J_X12_one (d + 7) C Z 0 (lv_args 0 [.ref l0, .int l1, .int l2]) [] σ Q := by
  unfold f_X12_one at hf
  refine xm_stL (L' := [(0, .ref l0), (1, .int l1), (2, .int l2)]) rfl ?_
  refine xm_iload_n dX12_one_0 rfl ?_
  refine xm_bipush dX12_one_1 (v := 13) (by decide) ?_
  refine xb_icmp_ne 13 dX12_one_3 (by decide) hf (fun c hf => ?_) (fun c hf => ?_)
  · refine xm_iload_n dX12_one_13 rfl ?_
    refine xm_bipush dX12_one_14 (v := 11) (by decide) ?_
    refine xb_icmp_ne 37 dX12_one_16 (by decide) hf (fun c hf => ?_) (fun c hf => ?_)
    · refine xm_aload_n dX12_one_37 rfl ?_
      refine xm_iload_n dX12_one_38 rfl ?_
      refine xm_aload_n dX12_one_39 rfl ?_
      refine xm_iload_n dX12_one_40 rfl ?_
      refine xb_if hf (fun hb hf => ?_) (fun _ q => nomatch q)
      obtain ⟨p1, ep1, hf⟩ := xbind hf
      refine xb_callV (As := [.int l2]) (v0 := (some (.int p1))) (τ0 := σ) dX12_one_41 (xc_X12_sign _ _) xcl12 xw_2387 xw_2389 xs_141 hb rfl (Nat.le_of_ble_eq_true rfl) rfl (Nat.le_of_ble_eq_true rfl) (fun Q1 hq => m_X12_sign (d := d + 6) ep1 (fun g hg => by subst hg; exact hq)) ?_
      refine xb_if_ne 51 dX12_one_44 (by decide) hf (fun c hf => ?_) (fun c hf => ?_)
      · refine xm_iconst dX12_one_51 (v := 0) (by decide) ?_
        exact xm_sub [] rfl (L_X12_one_j52 σ (0 : Int32) l2 l0 hf hR)
      · refine xm_iconst dX12_one_47 (v := 1) (by decide) ?_
        refine xm_goto 52 dX12_one_48 (by decide) ?_
        exact xm_sub [] rfl (L_X12_one_j52 σ (1 : Int32) l2 l0 hf hR)
    · refine xm_aload_n dX12_one_19 rfl ?_
      refine xb_getR (a := l0) (c := 12) (k := 3) dX12_one_20 xcl12 (by decide) xw_1840 rfl hf (fun x3 ex3 hf => ?_)
      refine xm_bipush dX12_one_23 (v := 28) (by decide) ?_
      refine xm_iload_n dX12_one_25 rfl ?_
      refine xm_imul dX12_one_26 ?_
      refine xm_aload_n dX12_one_27 rfl ?_
      refine xm_iload_n dX12_one_28 rfl ?_
      refine xb_if hf (fun hb hf => ?_) (fun _ q => nomatch q)
      obtain ⟨p4, ep4, hf⟩ := xbind hf
      refine xb_callV (As := [.int l2]) (v0 := (some (.int p4))) (τ0 := σ) dX12_one_29 (xc_X12_sign _ _) xcl12 xw_2387 xw_2389 xs_141 hb rfl (Nat.le_of_ble_eq_true rfl) rfl (Nat.le_of_ble_eq_true rfl) (fun Q1 hq => m_X12_sign (d := d + 6) ep4 (fun g hg => by subst hg; exact hq)) ?_
      refine xm_ineg dX12_one_32 ?_
      refine xb_iast dX12_one_33 hf (fun σ5 eσ5 hf => ?_)
      refine xm_goto 55 dX12_one_34 (by decide) ?_
      exact xm_sub [] rfl (L_X12_one_j55 σ5 hf hR)
  · refine xm_aload_n dX12_one_6 rfl ?_
    refine xm_iload_n dX12_one_7 rfl ?_
    refine xm_iload_n dX12_one_8 rfl ?_
    refine xb_if hf (fun hb hf => ?_) (fun _ q => nomatch q)
    obtain ⟨p6, ep6, hf⟩ := xbind hf
    refine xb_callV (As := [.int l2, .int l2]) (v0 := (some (.int p6.1))) (τ0 := p6.2) dX12_one_9 (xc_X12_factorial _ _) xcl12 xw_2516 xw_2518 xs_172 hb rfl (Nat.le_of_ble_eq_true rfl) rfl (Nat.le_of_ble_eq_true rfl) (fun Q1 hq => m_X12_factorial (d := d + 0) ep6 (fun g hg => by subst hg; exact hq)) ?_
    cases hf
    exact xm_iret dX12_one_12 rfl (hR _ rfl)
-- RankwiseModel.two(III)I
def f_X12_two_j258 (σ : xM) (s0 : Int32) (s1 : Int32) (s2 : Nat) : Option (Int32 × xM) :=
  (if xk σ s2 12 = true then (f_X12_setInt σ s2 s1 s0).bind (fun p2 => some ((0 : Int32), p2)) else none)
set_option maxHeartbeats 4000000 in
set_option maxRecDepth 20000 in
theorem L_X12_two_j258 {G : xG} {π : Nat → Nat} {d C Z : Nat} {Q : xQ} (σ : xM) (s0 : Int32) (s1 : Int32) (s2 : Nat) {x : (Int32 × xM)} (hf : f_X12_two_j258 σ s0 s1 s2 = some x) (hR : ∀ g, x = g → Q (.inl (some (.int g.1))) (g.2) π) : xMach G π J_X12_two (d + 8) C Z 258 [] [.int s0, .int s1, .ref s2] σ Q := by
  unfold f_X12_two_j258 at hf
  refine xb_if hf (fun hb hf => ?_) (fun _ q => nomatch q)
  obtain ⟨p2, ep2, hf⟩ := xbind hf
  refine xb_callV (As := [.int s1, .int s0]) (v0 := none) (τ0 := p2) dX12_two_258 (xc_X12_setInt _ _) xcl12 xw_1820 xw_1822 xs_84 hb rfl (Nat.le_of_ble_eq_true rfl) rfl (Nat.le_of_ble_eq_true rfl) (fun Q1 hq => m_X12_setInt (d := d + 5) ep2 (fun g hg => by subst hg; exact hq)) ?_
  refine xm_iconst dX12_two_261 (v := 0) (by decide) ?_
  cases hf
  exact xm_iret dX12_two_262 rfl (hR _ rfl)
def f_X12_two_j257 (σ : xM) (s0 : Int32) (s1 : Nat) : Option (Int32 × xM) :=
  f_X12_two_j258 σ (0 : Int32) s0 s1
set_option maxHeartbeats 4000000 in
set_option maxRecDepth 20000 in
theorem L_X12_two_j257 {G : xG} {π : Nat → Nat} {d C Z : Nat} {Q : xQ} (σ : xM) (s0 : Int32) (s1 : Nat) {x : (Int32 × xM)} (hf : f_X12_two_j257 σ s0 s1 = some x) (hR : ∀ g, x = g → Q (.inl (some (.int g.1))) (g.2) π) : xMach G π J_X12_two (d + 8) C Z 257 [] [.int s0, .ref s1] σ Q := by
  unfold f_X12_two_j257 at hf
  refine xm_iconst dX12_two_257 (v := 0) (by decide) ?_
  exact xm_sub [] rfl (L_X12_two_j258 σ (0 : Int32) s0 s1 hf hR)
def f_X12_two_j253 (σ : xM) (s0 : Int32) (s1 : Nat) : Option (Int32 × xM) :=
  f_X12_two_j258 σ (1 : Int32) s0 s1
set_option maxHeartbeats 4000000 in
set_option maxRecDepth 20000 in
theorem L_X12_two_j253 {G : xG} {π : Nat → Nat} {d C Z : Nat} {Q : xQ} (σ : xM) (s0 : Int32) (s1 : Nat) {x : (Int32 × xM)} (hf : f_X12_two_j253 σ s0 s1 = some x) (hR : ∀ g, x = g → Q (.inl (some (.int g.1))) (g.2) π) : xMach G π J_X12_two (d + 8) C Z 253 [] [.int s0, .ref s1] σ Q := by
  unfold f_X12_two_j253 at hf
  refine xm_iconst dX12_two_253 (v := 1) (by decide) ?_
  refine xm_goto 258 dX12_two_254 (by decide) ?_
  exact xm_sub [] rfl (L_X12_two_j258 σ (1 : Int32) s0 s1 hf hR)
def f_X12_two_j242 (σ : xM) (l1 : Int32) (l4 : Int32) (s0 : Int32) (s1 : Nat) : Option (Int32 × xM) :=
  (if l1 = (8 : Int32) then (if l4 ≤ (0 : Int32) then f_X12_two_j257 σ s0 s1 else f_X12_two_j253 σ s0 s1) else f_X12_two_j257 σ s0 s1)
set_option maxHeartbeats 4000000 in
set_option maxRecDepth 20000 in
theorem L_X12_two_j242 {G : xG} {π : Nat → Nat} {d C Z : Nat} {Q : xQ} (σ : xM) (l1 : Int32) (l4 : Int32) (s0 : Int32) (s1 : Nat) {x : (Int32 × xM)} (hf : f_X12_two_j242 σ l1 l4 s0 s1 = some x) (hR : ∀ g, x = g → Q (.inl (some (.int g.1))) (g.2) π) : xMach G π J_X12_two (d + 8) C Z 242 [(1, .int l1), (4, .int l4)] [.int s0, .ref s1] σ Q := by
  unfold f_X12_two_j242 at hf
  refine xm_iload_n dX12_two_242 rfl ?_
  refine xm_bipush dX12_two_243 (v := 8) (by decide) ?_
  refine xb_icmp_ne 257 dX12_two_245 (by decide) hf (fun c hf => ?_) (fun c hf => ?_)
  · exact xm_sub [] rfl (L_X12_two_j257 σ s0 s1 hf hR)
  · refine xm_iload dX12_two_248 rfl ?_
    refine xb_if_le 257 dX12_two_250 (by decide) hf (fun c hf => ?_) (fun c hf => ?_)
    · exact xm_sub [] rfl (L_X12_two_j257 σ s0 s1 hf hR)
    · exact xm_sub [] rfl (L_X12_two_j253 σ s0 s1 hf hR)
def f_X12_two_j231 (σ : xM) (l1 : Int32) (l4 : Int32) (s0 : Int32) (s1 : Nat) : Option (Int32 × xM) :=
  (if l1 = (7 : Int32) then (if l4 = (0 : Int32) then f_X12_two_j253 σ s0 s1 else f_X12_two_j242 σ l1 l4 s0 s1) else f_X12_two_j242 σ l1 l4 s0 s1)
set_option maxHeartbeats 4000000 in
set_option maxRecDepth 20000 in
theorem L_X12_two_j231 {G : xG} {π : Nat → Nat} {d C Z : Nat} {Q : xQ} (σ : xM) (l1 : Int32) (l4 : Int32) (s0 : Int32) (s1 : Nat) {x : (Int32 × xM)} (hf : f_X12_two_j231 σ l1 l4 s0 s1 = some x) (hR : ∀ g, x = g → Q (.inl (some (.int g.1))) (g.2) π) : xMach G π J_X12_two (d + 8) C Z 231 [(1, .int l1), (4, .int l4)] [.int s0, .ref s1] σ Q := by
  unfold f_X12_two_j231 at hf
  refine xm_iload_n dX12_two_231 rfl ?_
  refine xm_bipush dX12_two_232 (v := 7) (by decide) ?_
  refine xb_icmp_ne 242 dX12_two_234 (by decide) hf (fun c hf => ?_) (fun c hf => ?_)
  · exact xm_sub [0, 1] rfl (L_X12_two_j242 σ l1 l4 s0 s1 hf hR)
  · refine xm_iload dX12_two_237 rfl ?_
    refine xb_if_eq 253 dX12_two_239 (by decide) hf (fun c hf => ?_) (fun c hf => ?_)
    · exact xm_sub [] rfl (L_X12_two_j253 σ s0 s1 hf hR)
    · exact xm_sub [0, 1] rfl (L_X12_two_j242 σ l1 l4 s0 s1 hf hR)
def f_X12_two_j210 (σ : xM) (l0 : Nat) (l1 : Int32) (l2 : Int32) (l3 : Int32) : Option (Int32 × xM) :=
  (if xk σ l0 12 = true then (f_X12_compareValues σ l0 l2 l3).bind (fun p1 => (if l1 = (6 : Int32) then (if p1.1 < (0 : Int32) then f_X12_two_j253 p1.2 l2 l0 else f_X12_two_j231 p1.2 l1 p1.1 l2 l0) else f_X12_two_j231 p1.2 l1 p1.1 l2 l0)) else none)
set_option maxHeartbeats 4000000 in
set_option maxRecDepth 20000 in
theorem L_X12_two_j210 {G : xG} {π : Nat → Nat} {d C Z : Nat} {Q : xQ} (σ : xM) (l0 : Nat) (l1 : Int32) (l2 : Int32) (l3 : Int32) {x : (Int32 × xM)} (hf : f_X12_two_j210 σ l0 l1 l2 l3 = some x) (hR : ∀ g, x = g → Q (.inl (some (.int g.1))) (g.2) π) : xMach G π J_X12_two (d + 8) C Z 210 [(0, .ref l0), (1, .int l1), (2, .int l2), (3, .int l3)] [] σ Q := by
  unfold f_X12_two_j210 at hf
  refine xm_aload_n dX12_two_210 rfl ?_
  refine xm_iload_n dX12_two_211 rfl ?_
  refine xm_iload_n dX12_two_212 rfl ?_
  refine xb_if hf (fun hb hf => ?_) (fun _ q => nomatch q)
  obtain ⟨p1, ep1, hf⟩ := xbind hf
  refine xb_callV (As := [.int l2, .int l3]) (v0 := (some (.int p1.1))) (τ0 := p1.2) dX12_two_213 (xc_X12_compareValues _ _) xcl12 xw_2480 xw_2482 xs_164 hb rfl (Nat.le_of_ble_eq_true rfl) rfl (Nat.le_of_ble_eq_true rfl) (fun Q1 hq => m_X12_compareValues (d := d + 4) ep1 (fun g hg => by subst hg; exact hq)) ?_
  refine xm_istore dX12_two_216 (by decide) (xm_stL (L' := [(4, .int p1.1), (0, .ref l0), (1, .int l1), (2, .int l2), (3, .int l3)]) rfl ?_)
  refine xm_aload_n dX12_two_218 rfl ?_
  refine xm_iload_n dX12_two_219 rfl ?_
  refine xm_iload_n dX12_two_220 rfl ?_
  refine xm_bipush dX12_two_221 (v := 6) (by decide) ?_
  refine xb_icmp_ne 231 dX12_two_223 (by decide) hf (fun c hf => ?_) (fun c hf => ?_)
  · exact xm_sub [2, 0] rfl (L_X12_two_j231 p1.2 l1 p1.1 l2 l0 hf hR)
  · refine xm_iload dX12_two_226 rfl ?_
    refine xb_if_lt 253 dX12_two_228 (by decide) hf (fun c hf => ?_) (fun c hf => ?_)
    · exact xm_sub [] rfl (L_X12_two_j253 p1.2 l2 l0 hf hR)
    · exact xm_sub [2, 0] rfl (L_X12_two_j231 p1.2 l1 p1.1 l2 l0 hf hR)
def f_X12_two_j76 (σ : xM) (s0 : Int32) : Option (Int32 × xM) :=
  some (s0, σ)
set_option maxHeartbeats 4000000 in
set_option maxRecDepth 20000 in
theorem L_X12_two_j76 {G : xG} {π : Nat → Nat} {d C Z : Nat} {Q : xQ} (σ : xM) (s0 : Int32) {x : (Int32 × xM)} (hf : f_X12_two_j76 σ s0 = some x) (hR : ∀ g, x = g → Q (.inl (some (.int g.1))) (g.2) π) : xMach G π J_X12_two (d + 8) C Z 76 [] [.int s0] σ Q := by
  unfold f_X12_two_j76 at hf
  cases hf
  exact xm_iret dX12_two_76 rfl (hR _ rfl)
def f_X12_two_j93 (σ : xM) (s0 : Int32) : Option (Int32 × xM) :=
  some (s0, σ)
set_option maxHeartbeats 4000000 in
set_option maxRecDepth 20000 in
theorem L_X12_two_j93 {G : xG} {π : Nat → Nat} {d C Z : Nat} {Q : xQ} (σ : xM) (s0 : Int32) {x : (Int32 × xM)} (hf : f_X12_two_j93 σ s0 = some x) (hR : ∀ g, x = g → Q (.inl (some (.int g.1))) (g.2) π) : xMach G π J_X12_two (d + 8) C Z 93 [] [.int s0] σ Q := by
  unfold f_X12_two_j93 at hf
  cases hf
  exact xm_iret dX12_two_93 rfl (hR _ rfl)
def f_X12_two_j109 (σ : xM) (s0 : Int32) : Option (Int32 × xM) :=
  some (s0, σ)
set_option maxHeartbeats 4000000 in
set_option maxRecDepth 20000 in
theorem L_X12_two_j109 {G : xG} {π : Nat → Nat} {d C Z : Nat} {Q : xQ} (σ : xM) (s0 : Int32) {x : (Int32 × xM)} (hf : f_X12_two_j109 σ s0 = some x) (hR : ∀ g, x = g → Q (.inl (some (.int g.1))) (g.2) π) : xMach G π J_X12_two (d + 8) C Z 109 [] [.int s0] σ Q := by
  unfold f_X12_two_j109 at hf
  cases hf
  exact xm_iret dX12_two_109 rfl (hR _ rfl)
def f_X12_two_j137 (σ : xM) (s0 : Int32) : Option (Int32 × xM) :=
  some (s0, σ)
set_option maxHeartbeats 4000000 in
set_option maxRecDepth 20000 in
theorem L_X12_two_j137 {G : xG} {π : Nat → Nat} {d C Z : Nat} {Q : xQ} (σ : xM) (s0 : Int32) {x : (Int32 × xM)} (hf : f_X12_two_j137 σ s0 = some x) (hR : ∀ g, x = g → Q (.inl (some (.int g.1))) (g.2) π) : xMach G π J_X12_two (d + 8) C Z 137 [] [.int s0] σ Q := by
  unfold f_X12_two_j137 at hf
  cases hf
  exact xm_iret dX12_two_137 rfl (hR _ rfl)
def f_X12_two_j177 (σ : xM) (s0 : Int32) (s1 : Int32) (s2 : Nat) : Option (Int32 × xM) :=
  (if xk σ s2 12 = true then (f_X12_setInt σ s2 s1 s0).bind (fun p11 => some ((0 : Int32), p11)) else none)
set_option maxHeartbeats 4000000 in
set_option maxRecDepth 20000 in
theorem L_X12_two_j177 {G : xG} {π : Nat → Nat} {d C Z : Nat} {Q : xQ} (σ : xM) (s0 : Int32) (s1 : Int32) (s2 : Nat) {x : (Int32 × xM)} (hf : f_X12_two_j177 σ s0 s1 s2 = some x) (hR : ∀ g, x = g → Q (.inl (some (.int g.1))) (g.2) π) : xMach G π J_X12_two (d + 8) C Z 177 [] [.int s0, .int s1, .ref s2] σ Q := by
  unfold f_X12_two_j177 at hf
  refine xb_if hf (fun hb hf => ?_) (fun _ q => nomatch q)
  obtain ⟨p11, ep11, hf⟩ := xbind hf
  refine xb_callV (As := [.int s1, .int s0]) (v0 := none) (τ0 := p11) dX12_two_177 (xc_X12_setInt _ _) xcl12 xw_1820 xw_1822 xs_84 hb rfl (Nat.le_of_ble_eq_true rfl) rfl (Nat.le_of_ble_eq_true rfl) (fun Q1 hq => m_X12_setInt (d := d + 5) ep11 (fun g hg => by subst hg; exact hq)) ?_
  refine xm_iconst dX12_two_180 (v := 0) (by decide) ?_
  cases hf
  exact xm_iret dX12_two_181 rfl (hR _ rfl)
def f_X12_two_j176 (σ : xM) (s0 : Int32) (s1 : Nat) : Option (Int32 × xM) :=
  f_X12_two_j177 σ (0 : Int32) s0 s1
set_option maxHeartbeats 4000000 in
set_option maxRecDepth 20000 in
theorem L_X12_two_j176 {G : xG} {π : Nat → Nat} {d C Z : Nat} {Q : xQ} (σ : xM) (s0 : Int32) (s1 : Nat) {x : (Int32 × xM)} (hf : f_X12_two_j176 σ s0 s1 = some x) (hR : ∀ g, x = g → Q (.inl (some (.int g.1))) (g.2) π) : xMach G π J_X12_two (d + 8) C Z 176 [] [.int s0, .ref s1] σ Q := by
  unfold f_X12_two_j176 at hf
  refine xm_iconst dX12_two_176 (v := 0) (by decide) ?_
  exact xm_sub [] rfl (L_X12_two_j177 σ (0 : Int32) s0 s1 hf hR)
def f_X12_two_j205 (σ : xM) (s0 : Int32) (s1 : Int32) (s2 : Nat) : Option (Int32 × xM) :=
  (if xk σ s2 12 = true then (f_X12_setInt σ s2 s1 s0).bind (fun p14 => some ((0 : Int32), p14)) else none)
set_option maxHeartbeats 4000000 in
set_option maxRecDepth 20000 in
theorem L_X12_two_j205 {G : xG} {π : Nat → Nat} {d C Z : Nat} {Q : xQ} (σ : xM) (s0 : Int32) (s1 : Int32) (s2 : Nat) {x : (Int32 × xM)} (hf : f_X12_two_j205 σ s0 s1 s2 = some x) (hR : ∀ g, x = g → Q (.inl (some (.int g.1))) (g.2) π) : xMach G π J_X12_two (d + 8) C Z 205 [] [.int s0, .int s1, .ref s2] σ Q := by
  unfold f_X12_two_j205 at hf
  refine xb_if hf (fun hb hf => ?_) (fun _ q => nomatch q)
  obtain ⟨p14, ep14, hf⟩ := xbind hf
  refine xb_callV (As := [.int s1, .int s0]) (v0 := none) (τ0 := p14) dX12_two_205 (xc_X12_setInt _ _) xcl12 xw_1820 xw_1822 xs_84 hb rfl (Nat.le_of_ble_eq_true rfl) rfl (Nat.le_of_ble_eq_true rfl) (fun Q1 hq => m_X12_setInt (d := d + 5) ep14 (fun g hg => by subst hg; exact hq)) ?_
  refine xm_iconst dX12_two_208 (v := 0) (by decide) ?_
  cases hf
  exact xm_iret dX12_two_209 rfl (hR _ rfl)
def f_X12_two_j200 (σ : xM) (s0 : Int32) (s1 : Nat) : Option (Int32 × xM) :=
  f_X12_two_j205 σ (1 : Int32) s0 s1
set_option maxHeartbeats 4000000 in
set_option maxRecDepth 20000 in
theorem L_X12_two_j200 {G : xG} {π : Nat → Nat} {d C Z : Nat} {Q : xQ} (σ : xM) (s0 : Int32) (s1 : Nat) {x : (Int32 × xM)} (hf : f_X12_two_j200 σ s0 s1 = some x) (hR : ∀ g, x = g → Q (.inl (some (.int g.1))) (g.2) π) : xMach G π J_X12_two (d + 8) C Z 200 [] [.int s0, .ref s1] σ Q := by
  unfold f_X12_two_j200 at hf
  refine xm_iconst dX12_two_200 (v := 1) (by decide) ?_
  refine xm_goto 205 dX12_two_201 (by decide) ?_
  exact xm_sub [] rfl (L_X12_two_j205 σ (1 : Int32) s0 s1 hf hR)
def f_X12_two (σ : xM) (l0 : Nat) (l1 : Int32) (l2 : Int32) (l3 : Int32) : Option (Int32 × xM) :=
  (if l1 = (0 : Int32) then (if xk σ l0 12 = true then (f_X12_addValues σ l0 l2 l2 l3 (1 : Int32)).bind (fun p3 => (if p3.1 = (0 : Int32) then f_X12_two_j76 p3.2 (3 : Int32) else f_X12_two_j76 p3.2 (0 : Int32))) else none) else (if l1 = (1 : Int32) then (if xk σ l0 12 = true then (f_X12_addValues σ l0 l2 l2 l3 (-1 : Int32)).bind (fun p4 => (if p4.1 = (0 : Int32) then f_X12_two_j93 p4.2 (3 : Int32) else f_X12_two_j93 p4.2 (0 : Int32))) else none) else (if l1 = (2 : Int32) then (if xk σ l0 12 = true then (f_X12_multiplyValues σ l0 l2 l2 l3).bind (fun p5 => (if p5.1 = (0 : Int32) then f_X12_two_j109 p5.2 (3 : Int32) else f_X12_two_j109 p5.2 (0 : Int32))) else none) else (if l1 = (3 : Int32) then (if xk σ l0 12 = true then (f_X12_sign σ l0 l3).bind (fun p6 => (if p6 = (0 : Int32) then f_X12_two_j137 σ (1 : Int32) else (if xk σ l0 12 = true then (f_X12_divideValues σ l0 l2 l2 l3).bind (fun p7 => (if p7.1 = (0 : Int32) then f_X12_two_j137 p7.2 (3 : Int32) else f_X12_two_j137 p7.2 (0 : Int32))) else none))) else none) else (if l1 = (4 : Int32) then (if xk σ l0 12 = true then (f_X12_remainder σ l0 l2 l2 l3).bind (fun p8 => some (p8.1, p8.2)) else none) else (if l1 = (5 : Int32) then (if xk σ l0 12 = true then (f_X12_power σ l0 l2 l2 l3).bind (fun p9 => some (p9.1, p9.2)) else none) else (if l1 = (6 : Int32) then f_X12_two_j210 σ l0 l1 l2 l3 else (if l1 = (7 : Int32) then f_X12_two_j210 σ l0 l1 l2 l3 else (if l1 = (8 : Int32) then f_X12_two_j210 σ l0 l1 l2 l3 else (if l1 = (9 : Int32) then (if xk σ l0 12 = true then (f_X12_sign σ l0 l2).bind (fun p10 => (if p10 = (0 : Int32) then f_X12_two_j176 σ l2 l0 else (if xk σ l0 12 = true then (f_X12_sign σ l0 l3).bind (fun p12 => (if p12 = (0 : Int32) then f_X12_two_j176 σ l2 l0 else f_X12_two_j177 σ (1 : Int32) l2 l0)) else none))) else none) else (if l1 = (10 : Int32) then (if xk σ l0 12 = true then (f_X12_sign σ l0 l2).bind (fun p13 => (if p13 = (0 : Int32) then (if xk σ l0 12 = true then (f_X12_sign σ l0 l3).bind (fun p15 => (if p15 = (0 : Int32) then f_X12_two_j205 σ (0 : Int32) l2 l0 else f_X12_two_j200 σ l2 l0)) else none) else f_X12_two_j200 σ l2 l0)) else none) else f_X12_two_j210 σ l0 l1 l2 l3)))))))))))
set_option maxHeartbeats 4000000 in
set_option maxRecDepth 20000 in
theorem m_X12_two {G : xG} {π : Nat → Nat} {d C Z : Nat} {Q : xQ} {σ : xM} {l0 : Nat} {l1 : Int32} {l2 : Int32} {l3 : Int32} {x : (Int32 × xM)} (hf : f_X12_two σ l0 l1 l2 l3 = some x) (hR : ∀ g, x = g → Q (.inl (some (.int g.1))) (g.2) π) : xMach G π J_X12_two (d + 8) C Z 0 (lv_args 0 [.ref l0, .int l1, .int l2, .int l3]) [] σ Q := by
  unfold f_X12_two at hf
  refine xm_stL (L' := [(0, .ref l0), (1, .int l1), (2, .int l2), (3, .int l3)]) rfl ?_
  refine xm_iload_n dX12_two_0 rfl ?_
  refine xb_if hf (fun c hf => ?_) (fun n0 hf => ?_)
  · refine xm_tableIn 60 dX12_two_1 (by rw [c]; decide) (by rw [c]; decide) (by rw [c]; rfl) (by decide) ?_
    refine xm_aload_n dX12_two_60 rfl ?_
    refine xm_iload_n dX12_two_61 rfl ?_
    refine xm_iload_n dX12_two_62 rfl ?_
    refine xm_iload_n dX12_two_63 rfl ?_
    refine xm_iconst dX12_two_64 (v := 1) (by decide) ?_
    refine xb_if hf (fun hb hf => ?_) (fun _ q => nomatch q)
    obtain ⟨p3, ep3, hf⟩ := xbind hf
    refine xb_callV (As := [.int l2, .int l2, .int l3, .int (1 : Int32)]) (v0 := (some (.int p3.1))) (τ0 := p3.2) dX12_two_65 (xc_X12_addValues _ _) xcl12 xw_2399 xw_2401 xs_144 hb rfl (Nat.le_of_ble_eq_true rfl) rfl (Nat.le_of_ble_eq_true rfl) (fun Q1 hq => m_X12_addValues (d := d + 2) ep3 (fun g hg => by subst hg; exact hq)) ?_
    refine xb_if_eq 75 dX12_two_68 (by decide) hf (fun c hf => ?_) (fun c hf => ?_)
    · refine xm_iconst dX12_two_75 (v := 3) (by decide) ?_
      exact xm_sub [] rfl (L_X12_two_j76 p3.2 (3 : Int32) hf hR)
    · refine xm_iconst dX12_two_71 (v := 0) (by decide) ?_
      refine xm_goto 76 dX12_two_72 (by decide) ?_
      exact xm_sub [] rfl (L_X12_two_j76 p3.2 (0 : Int32) hf hR)
  refine xb_if hf (fun c hf => ?_) (fun n1 hf => ?_)
  · refine xm_tableIn 77 dX12_two_1 (by rw [c]; decide) (by rw [c]; decide) (by rw [c]; rfl) (by decide) ?_
    refine xm_aload_n dX12_two_77 rfl ?_
    refine xm_iload_n dX12_two_78 rfl ?_
    refine xm_iload_n dX12_two_79 rfl ?_
    refine xm_iload_n dX12_two_80 rfl ?_
    refine xm_iconst dX12_two_81 (v := -1) (by decide) ?_
    refine xb_if hf (fun hb hf => ?_) (fun _ q => nomatch q)
    obtain ⟨p4, ep4, hf⟩ := xbind hf
    refine xb_callV (As := [.int l2, .int l2, .int l3, .int (-1 : Int32)]) (v0 := (some (.int p4.1))) (τ0 := p4.2) dX12_two_82 (xc_X12_addValues _ _) xcl12 xw_2399 xw_2401 xs_144 hb rfl (Nat.le_of_ble_eq_true rfl) rfl (Nat.le_of_ble_eq_true rfl) (fun Q1 hq => m_X12_addValues (d := d + 2) ep4 (fun g hg => by subst hg; exact hq)) ?_
    refine xb_if_eq 92 dX12_two_85 (by decide) hf (fun c hf => ?_) (fun c hf => ?_)
    · refine xm_iconst dX12_two_92 (v := 3) (by decide) ?_
      exact xm_sub [] rfl (L_X12_two_j93 p4.2 (3 : Int32) hf hR)
    · refine xm_iconst dX12_two_88 (v := 0) (by decide) ?_
      refine xm_goto 93 dX12_two_89 (by decide) ?_
      exact xm_sub [] rfl (L_X12_two_j93 p4.2 (0 : Int32) hf hR)
  refine xb_if hf (fun c hf => ?_) (fun n2 hf => ?_)
  · refine xm_tableIn 94 dX12_two_1 (by rw [c]; decide) (by rw [c]; decide) (by rw [c]; rfl) (by decide) ?_
    refine xm_aload_n dX12_two_94 rfl ?_
    refine xm_iload_n dX12_two_95 rfl ?_
    refine xm_iload_n dX12_two_96 rfl ?_
    refine xm_iload_n dX12_two_97 rfl ?_
    refine xb_if hf (fun hb hf => ?_) (fun _ q => nomatch q)
    obtain ⟨p5, ep5, hf⟩ := xbind hf
    refine xb_callV (As := [.int l2, .int l2, .int l3]) (v0 := (some (.int p5.1))) (τ0 := p5.2) dX12_two_98 (xc_X12_multiplyValues _ _) xcl12 xw_2520 xw_2522 xs_173 hb rfl (Nat.le_of_ble_eq_true rfl) rfl (Nat.le_of_ble_eq_true rfl) (fun Q1 hq => m_X12_multiplyValues (d := d + 2) ep5 (fun g hg => by subst hg; exact hq)) ?_
    refine xb_if_eq 108 dX12_two_101 (by decide) hf (fun c hf => ?_) (fun c hf => ?_)
    · refine xm_iconst dX12_two_108 (v := 3) (by decide) ?_
      exact xm_sub [] rfl (L_X12_two_j109 p5.2 (3 : Int32) hf hR)
    · refine xm_iconst dX12_two_104 (v := 0) (by decide) ?_
      refine xm_goto 109 dX12_two_105 (by decide) ?_
      exact xm_sub [] rfl (L_X12_two_j109 p5.2 (0 : Int32) hf hR)
  refine xb_if hf (fun c hf => ?_) (fun n3 hf => ?_)
  · refine xm_tableIn 110 dX12_two_1 (by rw [c]; decide) (by rw [c]; decide) (by rw [c]; rfl) (by decide) ?_
    refine xm_aload_n dX12_two_110 rfl ?_
    refine xm_iload_n dX12_two_111 rfl ?_
    refine xb_if hf (fun hb hf => ?_) (fun _ q => nomatch q)
    obtain ⟨p6, ep6, hf⟩ := xbind hf
    refine xb_callV (As := [.int l3]) (v0 := (some (.int p6))) (τ0 := σ) dX12_two_112 (xc_X12_sign _ _) xcl12 xw_2387 xw_2389 xs_141 hb rfl (Nat.le_of_ble_eq_true rfl) rfl (Nat.le_of_ble_eq_true rfl) (fun Q1 hq => m_X12_sign (d := d + 7) ep6 (fun g hg => by subst hg; exact hq)) ?_
    refine xb_if_ne 122 dX12_two_115 (by decide) hf (fun c hf => ?_) (fun c hf => ?_)
    · refine xm_aload_n dX12_two_122 rfl ?_
      refine xm_iload_n dX12_two_123 rfl ?_
      refine xm_iload_n dX12_two_124 rfl ?_
      refine xm_iload_n dX12_two_125 rfl ?_
      refine xb_if hf (fun hb hf => ?_) (fun _ q => nomatch q)
      obtain ⟨p7, ep7, hf⟩ := xbind hf
      refine xb_callV (As := [.int l2, .int l2, .int l3]) (v0 := (some (.int p7.1))) (τ0 := p7.2) dX12_two_126 (xc_X12_divideValues _ _) xcl12 xw_2528 xw_2530 xs_175 hb rfl (Nat.le_of_ble_eq_true rfl) rfl (Nat.le_of_ble_eq_true rfl) (fun Q1 hq => m_X12_divideValues (d := d + 2) ep7 (fun g hg => by subst hg; exact hq)) ?_
      refine xb_if_eq 136 dX12_two_129 (by decide) hf (fun c hf => ?_) (fun c hf => ?_)
      · refine xm_iconst dX12_two_136 (v := 3) (by decide) ?_
        exact xm_sub [] rfl (L_X12_two_j137 p7.2 (3 : Int32) hf hR)
      · refine xm_iconst dX12_two_132 (v := 0) (by decide) ?_
        refine xm_goto 137 dX12_two_133 (by decide) ?_
        exact xm_sub [] rfl (L_X12_two_j137 p7.2 (0 : Int32) hf hR)
    · refine xm_iconst dX12_two_118 (v := 1) (by decide) ?_
      refine xm_goto 137 dX12_two_119 (by decide) ?_
      exact xm_sub [] rfl (L_X12_two_j137 σ (1 : Int32) hf hR)
  refine xb_if hf (fun c hf => ?_) (fun n4 hf => ?_)
  · refine xm_tableIn 138 dX12_two_1 (by rw [c]; decide) (by rw [c]; decide) (by rw [c]; rfl) (by decide) ?_
    refine xm_aload_n dX12_two_138 rfl ?_
    refine xm_iload_n dX12_two_139 rfl ?_
    refine xm_iload_n dX12_two_140 rfl ?_
    refine xm_iload_n dX12_two_141 rfl ?_
    refine xb_if hf (fun hb hf => ?_) (fun _ q => nomatch q)
    obtain ⟨p8, ep8, hf⟩ := xbind hf
    refine xb_callV (As := [.int l2, .int l2, .int l3]) (v0 := (some (.int p8.1))) (τ0 := p8.2) dX12_two_142 (xc_X12_remainder _ _) xcl12 xw_2532 xw_2534 xs_176 hb rfl (Nat.le_of_ble_eq_true rfl) rfl (Nat.le_of_ble_eq_true rfl) (fun Q1 hq => m_X12_remainder (d := d + 2) ep8 (fun g hg => by subst hg; exact hq)) ?_
    cases hf
    exact xm_iret dX12_two_145 rfl (hR _ rfl)
  refine xb_if hf (fun c hf => ?_) (fun n5 hf => ?_)
  · refine xm_tableIn 146 dX12_two_1 (by rw [c]; decide) (by rw [c]; decide) (by rw [c]; rfl) (by decide) ?_
    refine xm_aload_n dX12_two_146 rfl ?_
    refine xm_iload_n dX12_two_147 rfl ?_
    refine xm_iload_n dX12_two_148 rfl ?_
    refine xm_iload_n dX12_two_149 rfl ?_
    refine xb_if hf (fun hb hf => ?_) (fun _ q => nomatch q)
    obtain ⟨p9, ep9, hf⟩ := xbind hf
    refine xb_callV (As := [.int l2, .int l2, .int l3]) (v0 := (some (.int p9.1))) (τ0 := p9.2) dX12_two_150 (xc_X12_power _ _) xcl12 xw_2536 xw_2538 xs_177 hb rfl (Nat.le_of_ble_eq_true rfl) rfl (Nat.le_of_ble_eq_true rfl) (fun Q1 hq => m_X12_power (d := d + 0) ep9 (fun g hg => by subst hg; exact hq)) ?_
    cases hf
    exact xm_iret dX12_two_153 rfl (hR _ rfl)
  refine xb_if hf (fun c hf => ?_) (fun n6 hf => ?_)
  · refine xm_tableIn 210 dX12_two_1 (by rw [c]; decide) (by rw [c]; decide) (by rw [c]; rfl) (by decide) ?_
    exact xm_sub [0, 1, 2, 3] rfl (L_X12_two_j210 σ l0 l1 l2 l3 hf hR)
  refine xb_if hf (fun c hf => ?_) (fun n7 hf => ?_)
  · refine xm_tableIn 210 dX12_two_1 (by rw [c]; decide) (by rw [c]; decide) (by rw [c]; rfl) (by decide) ?_
    exact xm_sub [0, 1, 2, 3] rfl (L_X12_two_j210 σ l0 l1 l2 l3 hf hR)
  refine xb_if hf (fun c hf => ?_) (fun n8 hf => ?_)
  · refine xm_tableIn 210 dX12_two_1 (by rw [c]; decide) (by rw [c]; decide) (by rw [c]; rfl) (by decide) ?_
    exact xm_sub [0, 1, 2, 3] rfl (L_X12_two_j210 σ l0 l1 l2 l3 hf hR)
  refine xb_if hf (fun c hf => ?_) (fun n9 hf => ?_)
  · refine xm_tableIn 154 dX12_two_1 (by rw [c]; decide) (by rw [c]; decide) (by rw [c]; rfl) (by decide) ?_
    refine xm_aload_n dX12_two_154 rfl ?_
    refine xm_iload_n dX12_two_155 rfl ?_
    refine xm_aload_n dX12_two_156 rfl ?_
    refine xm_iload_n dX12_two_157 rfl ?_
    refine xb_if hf (fun hb hf => ?_) (fun _ q => nomatch q)
    obtain ⟨p10, ep10, hf⟩ := xbind hf
    refine xb_callV (As := [.int l2]) (v0 := (some (.int p10))) (τ0 := σ) dX12_two_158 (xc_X12_sign _ _) xcl12 xw_2387 xw_2389 xs_141 hb rfl (Nat.le_of_ble_eq_true rfl) rfl (Nat.le_of_ble_eq_true rfl) (fun Q1 hq => m_X12_sign (d := d + 7) ep10 (fun g hg => by subst hg; exact hq)) ?_
    refine xb_if_eq 176 dX12_two_161 (by decide) hf (fun c hf => ?_) (fun c hf => ?_)
    · exact xm_sub [] rfl (L_X12_two_j176 σ l2 l0 hf hR)
    · refine xm_aload_n dX12_two_164 rfl ?_
      refine xm_iload_n dX12_two_165 rfl ?_
      refine xb_if hf (fun hb hf => ?_) (fun _ q => nomatch q)
      obtain ⟨p12, ep12, hf⟩ := xbind hf
      refine xb_callV (As := [.int l3]) (v0 := (some (.int p12))) (τ0 := σ) dX12_two_166 (xc_X12_sign _ _) xcl12 xw_2387 xw_2389 xs_141 hb rfl (Nat.le_of_ble_eq_true rfl) rfl (Nat.le_of_ble_eq_true rfl) (fun Q1 hq => m_X12_sign (d := d + 7) ep12 (fun g hg => by subst hg; exact hq)) ?_
      refine xb_if_eq 176 dX12_two_169 (by decide) hf (fun c hf => ?_) (fun c hf => ?_)
      · exact xm_sub [] rfl (L_X12_two_j176 σ l2 l0 hf hR)
      · refine xm_iconst dX12_two_172 (v := 1) (by decide) ?_
        refine xm_goto 177 dX12_two_173 (by decide) ?_
        exact xm_sub [] rfl (L_X12_two_j177 σ (1 : Int32) l2 l0 hf hR)
  refine xb_if hf (fun c hf => ?_) (fun n10 hf => ?_)
  · refine xm_tableIn 182 dX12_two_1 (by rw [c]; decide) (by rw [c]; decide) (by rw [c]; rfl) (by decide) ?_
    refine xm_aload_n dX12_two_182 rfl ?_
    refine xm_iload_n dX12_two_183 rfl ?_
    refine xm_aload_n dX12_two_184 rfl ?_
    refine xm_iload_n dX12_two_185 rfl ?_
    refine xb_if hf (fun hb hf => ?_) (fun _ q => nomatch q)
    obtain ⟨p13, ep13, hf⟩ := xbind hf
    refine xb_callV (As := [.int l2]) (v0 := (some (.int p13))) (τ0 := σ) dX12_two_186 (xc_X12_sign _ _) xcl12 xw_2387 xw_2389 xs_141 hb rfl (Nat.le_of_ble_eq_true rfl) rfl (Nat.le_of_ble_eq_true rfl) (fun Q1 hq => m_X12_sign (d := d + 7) ep13 (fun g hg => by subst hg; exact hq)) ?_
    refine xb_if_ne 200 dX12_two_189 (by decide) hf (fun c hf => ?_) (fun c hf => ?_)
    · exact xm_sub [] rfl (L_X12_two_j200 σ l2 l0 hf hR)
    · refine xm_aload_n dX12_two_192 rfl ?_
      refine xm_iload_n dX12_two_193 rfl ?_
      refine xb_if hf (fun hb hf => ?_) (fun _ q => nomatch q)
      obtain ⟨p15, ep15, hf⟩ := xbind hf
      refine xb_callV (As := [.int l3]) (v0 := (some (.int p15))) (τ0 := σ) dX12_two_194 (xc_X12_sign _ _) xcl12 xw_2387 xw_2389 xs_141 hb rfl (Nat.le_of_ble_eq_true rfl) rfl (Nat.le_of_ble_eq_true rfl) (fun Q1 hq => m_X12_sign (d := d + 7) ep15 (fun g hg => by subst hg; exact hq)) ?_
      refine xb_if_eq 204 dX12_two_197 (by decide) hf (fun c hf => ?_) (fun c hf => ?_)
      · refine xm_iconst dX12_two_204 (v := 0) (by decide) ?_
        exact xm_sub [] rfl (L_X12_two_j205 σ (0 : Int32) l2 l0 hf hR)
      · exact xm_sub [] rfl (L_X12_two_j200 σ l2 l0 hf hR)
  refine xm_tableOut 210 dX12_two_1 (by have q0 := lv_neT (a := 0) n0 (by decide); have q1 := lv_neT (a := 1) n1 (by decide); have q2 := lv_neT (a := 2) n2 (by decide); have q3 := lv_neT (a := 3) n3 (by decide); have q4 := lv_neT (a := 4) n4 (by decide); have q5 := lv_neT (a := 5) n5 (by decide); have q6 := lv_neT (a := 6) n6 (by decide); have q7 := lv_neT (a := 7) n7 (by decide); have q8 := lv_neT (a := 8) n8 (by decide); have q9 := lv_neT (a := 9) n9 (by decide); have q10 := lv_neT (a := 10) n10 (by decide); omega) (by decide) ?_
  exact xm_sub [0, 1, 2, 3] rfl (L_X12_two_j210 σ l0 l1 l2 l3 hf hR)
-- RankwiseModel.node(IIIII)V
def f_X12_node (σ : xM) (l0 : Nat) (l1 : Int32) (l2 : Int32) (l3 : Int32) (l4 : Int32) (l5 : Int32) : Option xM :=
  (gR σ l0 12 4).bind (fun x1 => (wI σ x1 l1 l2).bind (fun σ2 => (gR σ2 l0 12 5).bind (fun x3 => (wI σ2 x3 l1 l3).bind (fun σ4 => (gR σ4 l0 12 6).bind (fun x5 => (wI σ4 x5 l1 l4).bind (fun σ6 => (gR σ6 l0 12 7).bind (fun x7 => (wI σ6 x7 l1 l5).bind (fun σ8 => (gR σ8 l0 12 8).bind (fun x9 => (wI σ8 x9 l1 (1 : Int32)).bind (fun σ10 => some σ10))))))))))
set_option maxHeartbeats 4000000 in
set_option maxRecDepth 20000 in
theorem m_X12_node {G : xG} {π : Nat → Nat} {d C Z : Nat} {Q : xQ} {σ : xM} {l0 : Nat} {l1 : Int32} {l2 : Int32} {l3 : Int32} {l4 : Int32} {l5 : Int32} {x : xM} (hf : f_X12_node σ l0 l1 l2 l3 l4 l5 = some x) (hR : ∀ g, x = g → Q (.inl none) (g) π) : xMach G π J_X12_node (d + 0) C Z 0 (lv_args 0 [.ref l0, .int l1, .int l2, .int l3, .int l4, .int l5]) [] σ Q := by
  unfold f_X12_node at hf
  refine xm_stL (L' := [(0, .ref l0), (1, .int l1), (2, .int l2), (3, .int l3), (4, .int l4), (5, .int l5)]) rfl ?_
  refine xm_aload_n dX12_node_0 rfl ?_
  refine xb_getR (a := l0) (c := 12) (k := 4) dX12_node_1 xcl12 (by decide) xw_1841 rfl hf (fun x1 ex1 hf => ?_)
  refine xm_iload_n dX12_node_4 rfl ?_
  refine xm_iload_n dX12_node_5 rfl ?_
  refine xb_iast dX12_node_6 hf (fun σ2 eσ2 hf => ?_)
  refine xm_aload_n dX12_node_7 rfl ?_
  refine xb_getR (a := l0) (c := 12) (k := 5) dX12_node_8 xcl12 (by decide) xw_1842 rfl hf (fun x3 ex3 hf => ?_)
  refine xm_iload_n dX12_node_11 rfl ?_
  refine xm_iload_n dX12_node_12 rfl ?_
  refine xb_iast dX12_node_13 hf (fun σ4 eσ4 hf => ?_)
  refine xm_aload_n dX12_node_14 rfl ?_
  refine xb_getR (a := l0) (c := 12) (k := 6) dX12_node_15 xcl12 (by decide) xw_1843 rfl hf (fun x5 ex5 hf => ?_)
  refine xm_iload_n dX12_node_18 rfl ?_
  refine xm_iload dX12_node_19 rfl ?_
  refine xb_iast dX12_node_21 hf (fun σ6 eσ6 hf => ?_)
  refine xm_aload_n dX12_node_22 rfl ?_
  refine xb_getR (a := l0) (c := 12) (k := 7) dX12_node_23 xcl12 (by decide) xw_1844 rfl hf (fun x7 ex7 hf => ?_)
  refine xm_iload_n dX12_node_26 rfl ?_
  refine xm_iload dX12_node_27 rfl ?_
  refine xb_iast dX12_node_29 hf (fun σ8 eσ8 hf => ?_)
  refine xm_aload_n dX12_node_30 rfl ?_
  refine xb_getR (a := l0) (c := 12) (k := 8) dX12_node_31 xcl12 (by decide) xw_1845 rfl hf (fun x9 ex9 hf => ?_)
  refine xm_iload_n dX12_node_34 rfl ?_
  refine xm_iconst dX12_node_35 (v := 1) (by decide) ?_
  refine xb_iast dX12_node_36 hf (fun σ10 eσ10 hf => ?_)
  cases hf
  exact xm_vret dX12_node_37 rfl (hR _ rfl)
-- RankwiseModel.copyNodes(III)V
def f_X12_copyNodes_s3 (s : (Nat × Int32 × Int32 × Int32 × Int32 × xM)) : Option (xM ⊕ ((xM) ⊕ (Nat × Int32 × Int32 × Int32 × Int32 × xM))) :=
  xlet s.1 (fun l0 => xlet s.2.1 (fun l1 => xlet s.2.2.1 (fun l2 => xlet s.2.2.2.1 (fun l3 => xlet s.2.2.2.2.1 (fun l4 => xlet s.2.2.2.2.2 (fun σ => (if l3 ≤ l4 then some (Sum.inr (Sum.inl σ)) else (gR σ l0 12 4).bind (fun x2 => (gR σ l0 12 4).bind (fun x3 => (aI σ x3 14 (l2 + l4)).bind (fun x4 => (wI σ x2 (l1 + l4) x4).bind (fun σ5 => (gR σ5 l0 12 5).bind (fun x6 => (gR σ5 l0 12 5).bind (fun x7 => (aI σ5 x7 14 (l2 + l4)).bind (fun x8 => (wI σ5 x6 (l1 + l4) x8).bind (fun σ9 => (gR σ9 l0 12 6).bind (fun x10 => (gR σ9 l0 12 6).bind (fun x11 => (aI σ9 x11 14 (l2 + l4)).bind (fun x12 => (wI σ9 x10 (l1 + l4) x12).bind (fun σ13 => (gR σ13 l0 12 7).bind (fun x14 => (gR σ13 l0 12 7).bind (fun x15 => (aI σ13 x15 14 (l2 + l4)).bind (fun x16 => (wI σ13 x14 (l1 + l4) x16).bind (fun σ17 => (gR σ17 l0 12 8).bind (fun x18 => (gR σ17 l0 12 8).bind (fun x19 => (aI σ17 x19 14 (l2 + l4)).bind (fun x20 => (wI σ17 x18 (l1 + l4) x20).bind (fun σ21 => xlet (l4 + (1 : Int32)) (fun v22 => some (Sum.inr (Sum.inr (l0, l1, l2, l3, v22, σ21)))))))))))))))))))))))))))))))
set_option maxHeartbeats 4000000 in
set_option maxRecDepth 20000 in
theorem L_X12_copyNodes_s3 {G : xG} {π : Nat → Nat} {d C Z : Nat} {Q : xQ} (σ : xM) (l0 : Nat) (l1 : Int32) (l2 : Int32) (l3 : Int32) (l4 : Int32) {x : (xM ⊕ ((xM) ⊕ (Nat × Int32 × Int32 × Int32 × Int32 × xM)))} (hf : f_X12_copyNodes_s3 (l0, l1, l2, l3, l4, σ) = some x) (hR : ∀ g, x = Sum.inl (g) → Q (.inl none) (g) π) (hE : ∀ e : (xM), x = Sum.inr (Sum.inl e) → xMach G π J_X12_copyNodes (d + 0) C Z 105 [] [] e Q) (hC : ∀ e : (Nat × Int32 × Int32 × Int32 × Int32 × xM), x = Sum.inr (Sum.inr e) → xMach G π J_X12_copyNodes (d + 0) C Z 3 [(0, .ref e.1), (1, .int e.2.1), (2, .int e.2.2.1), (3, .int e.2.2.2.1), (4, .int e.2.2.2.2.1)] [] e.2.2.2.2.2 Q) : xMach G π J_X12_copyNodes (d + 0) C Z 3 [(0, .ref l0), (1, .int l1), (2, .int l2), (3, .int l3), (4, .int l4)] [] σ Q := by
  have hf : (if l3 ≤ l4 then some (Sum.inr (Sum.inl σ)) else (gR σ l0 12 4).bind (fun x2 => (gR σ l0 12 4).bind (fun x3 => (aI σ x3 14 (l2 + l4)).bind (fun x4 => (wI σ x2 (l1 + l4) x4).bind (fun σ5 => (gR σ5 l0 12 5).bind (fun x6 => (gR σ5 l0 12 5).bind (fun x7 => (aI σ5 x7 14 (l2 + l4)).bind (fun x8 => (wI σ5 x6 (l1 + l4) x8).bind (fun σ9 => (gR σ9 l0 12 6).bind (fun x10 => (gR σ9 l0 12 6).bind (fun x11 => (aI σ9 x11 14 (l2 + l4)).bind (fun x12 => (wI σ9 x10 (l1 + l4) x12).bind (fun σ13 => (gR σ13 l0 12 7).bind (fun x14 => (gR σ13 l0 12 7).bind (fun x15 => (aI σ13 x15 14 (l2 + l4)).bind (fun x16 => (wI σ13 x14 (l1 + l4) x16).bind (fun σ17 => (gR σ17 l0 12 8).bind (fun x18 => (gR σ17 l0 12 8).bind (fun x19 => (aI σ17 x19 14 (l2 + l4)).bind (fun x20 => (wI σ17 x18 (l1 + l4) x20).bind (fun σ21 => xlet (l4 + (1 : Int32)) (fun v22 => some (Sum.inr (Sum.inr (l0, l1, l2, l3, v22, σ21))))))))))))))))))))))))) = some x := hf
  refine xm_iload dX12_copyNodes_3 rfl ?_
  refine xm_iload_n dX12_copyNodes_5 rfl ?_
  refine xb_icmp_ge 105 dX12_copyNodes_6 (by decide) hf (fun c hf => ?_) (fun c hf => ?_)
  · cases hf
    exact xm_sub [] rfl (hE _ rfl)
  · refine xm_aload_n dX12_copyNodes_9 rfl ?_
    refine xb_getR (a := l0) (c := 12) (k := 4) dX12_copyNodes_10 xcl12 (by decide) xw_1841 rfl hf (fun x2 ex2 hf => ?_)
    refine xm_iload_n dX12_copyNodes_13 rfl ?_
    refine xm_iload dX12_copyNodes_14 rfl ?_
    refine xm_iadd dX12_copyNodes_16 ?_
    refine xm_aload_n dX12_copyNodes_17 rfl ?_
    refine xb_getR (a := l0) (c := 12) (k := 4) dX12_copyNodes_18 xcl12 (by decide) xw_1841 rfl hf (fun x3 ex3 hf => ?_)
    refine xm_iload_n dX12_copyNodes_21 rfl ?_
    refine xm_iload dX12_copyNodes_22 rfl ?_
    refine xm_iadd dX12_copyNodes_24 ?_
    refine xb_iald dX12_copyNodes_25 hf (fun x4 ex4 hf => ?_)
    refine xb_iast dX12_copyNodes_26 hf (fun σ5 eσ5 hf => ?_)
    refine xm_aload_n dX12_copyNodes_27 rfl ?_
    refine xb_getR (a := l0) (c := 12) (k := 5) dX12_copyNodes_28 xcl12 (by decide) xw_1842 rfl hf (fun x6 ex6 hf => ?_)
    refine xm_iload_n dX12_copyNodes_31 rfl ?_
    refine xm_iload dX12_copyNodes_32 rfl ?_
    refine xm_iadd dX12_copyNodes_34 ?_
    refine xm_aload_n dX12_copyNodes_35 rfl ?_
    refine xb_getR (a := l0) (c := 12) (k := 5) dX12_copyNodes_36 xcl12 (by decide) xw_1842 rfl hf (fun x7 ex7 hf => ?_)
    refine xm_iload_n dX12_copyNodes_39 rfl ?_
    refine xm_iload dX12_copyNodes_40 rfl ?_
    refine xm_iadd dX12_copyNodes_42 ?_
    refine xb_iald dX12_copyNodes_43 hf (fun x8 ex8 hf => ?_)
    refine xb_iast dX12_copyNodes_44 hf (fun σ9 eσ9 hf => ?_)
    refine xm_aload_n dX12_copyNodes_45 rfl ?_
    refine xb_getR (a := l0) (c := 12) (k := 6) dX12_copyNodes_46 xcl12 (by decide) xw_1843 rfl hf (fun x10 ex10 hf => ?_)
    refine xm_iload_n dX12_copyNodes_49 rfl ?_
    refine xm_iload dX12_copyNodes_50 rfl ?_
    refine xm_iadd dX12_copyNodes_52 ?_
    refine xm_aload_n dX12_copyNodes_53 rfl ?_
    refine xb_getR (a := l0) (c := 12) (k := 6) dX12_copyNodes_54 xcl12 (by decide) xw_1843 rfl hf (fun x11 ex11 hf => ?_)
    refine xm_iload_n dX12_copyNodes_57 rfl ?_
    refine xm_iload dX12_copyNodes_58 rfl ?_
    refine xm_iadd dX12_copyNodes_60 ?_
    refine xb_iald dX12_copyNodes_61 hf (fun x12 ex12 hf => ?_)
    refine xb_iast dX12_copyNodes_62 hf (fun σ13 eσ13 hf => ?_)
    refine xm_aload_n dX12_copyNodes_63 rfl ?_
    refine xb_getR (a := l0) (c := 12) (k := 7) dX12_copyNodes_64 xcl12 (by decide) xw_1844 rfl hf (fun x14 ex14 hf => ?_)
    refine xm_iload_n dX12_copyNodes_67 rfl ?_
    refine xm_iload dX12_copyNodes_68 rfl ?_
    refine xm_iadd dX12_copyNodes_70 ?_
    refine xm_aload_n dX12_copyNodes_71 rfl ?_
    refine xb_getR (a := l0) (c := 12) (k := 7) dX12_copyNodes_72 xcl12 (by decide) xw_1844 rfl hf (fun x15 ex15 hf => ?_)
    refine xm_iload_n dX12_copyNodes_75 rfl ?_
    refine xm_iload dX12_copyNodes_76 rfl ?_
    refine xm_iadd dX12_copyNodes_78 ?_
    refine xb_iald dX12_copyNodes_79 hf (fun x16 ex16 hf => ?_)
    refine xb_iast dX12_copyNodes_80 hf (fun σ17 eσ17 hf => ?_)
    refine xm_aload_n dX12_copyNodes_81 rfl ?_
    refine xb_getR (a := l0) (c := 12) (k := 8) dX12_copyNodes_82 xcl12 (by decide) xw_1845 rfl hf (fun x18 ex18 hf => ?_)
    refine xm_iload_n dX12_copyNodes_85 rfl ?_
    refine xm_iload dX12_copyNodes_86 rfl ?_
    refine xm_iadd dX12_copyNodes_88 ?_
    refine xm_aload_n dX12_copyNodes_89 rfl ?_
    refine xb_getR (a := l0) (c := 12) (k := 8) dX12_copyNodes_90 xcl12 (by decide) xw_1845 rfl hf (fun x19 ex19 hf => ?_)
    refine xm_iload_n dX12_copyNodes_93 rfl ?_
    refine xm_iload dX12_copyNodes_94 rfl ?_
    refine xm_iadd dX12_copyNodes_96 ?_
    refine xb_iald dX12_copyNodes_97 hf (fun x20 ex20 hf => ?_)
    refine xb_iast dX12_copyNodes_98 hf (fun σ21 eσ21 hf => ?_)
    refine xb_iinc dX12_copyNodes_99 rfl (by decide) (by decide) hf (fun v22 ev22 hf => xm_stL (L' := [(4, .int v22), (0, .ref l0), (1, .int l1), (2, .int l2), (3, .int l3)]) rfl ?_)
    refine xm_goto 3 dX12_copyNodes_102 (by decide) ?_
    cases hf
    exact xm_sub [1, 2, 3, 4, 0] rfl (hC _ rfl)
theorem L_X12_copyNodes_l3 {G : xG} {π : Nat → Nat} {d C Z : Nat} {Q : xQ} {s0 : (Nat × Int32 × Int32 × Int32 × Int32 × xM)} {x : (xM ⊕ (xM))} (h1 : xloop (f_X12_copyNodes_s3) xF s0 = some x) (hR : ∀ g, x = Sum.inl g → Q (.inl none) (g) π) (hE : ∀ e : (xM), x = Sum.inr e → xMach G π J_X12_copyNodes (d + 0) C Z 105 [] [] e Q) : xMach G π J_X12_copyNodes (d + 0) C Z 3 [(0, .ref s0.1), (1, .int s0.2.1), (2, .int s0.2.2.1), (3, .int s0.2.2.2.1), (4, .int s0.2.2.2.2.1)] [] s0.2.2.2.2.2 Q := by
  refine xloop_run (M := (fun s : (Nat × Int32 × Int32 × Int32 × Int32 × xM) => xMach G π J_X12_copyNodes (d + 0) C Z 3 [(0, .ref s.1), (1, .int s.2.1), (2, .int s.2.2.1), (3, .int s.2.2.2.1), (4, .int s.2.2.2.2.1)] [] s.2.2.2.2.2 Q)) (r := x) ?_ xF _ h1
  intro s y hs hx
  exact L_X12_copyNodes_s3 s.2.2.2.2.2 s.1 s.2.1 s.2.2.1 s.2.2.2.1 s.2.2.2.2.1 (x := y) hs (fun g hg => by subst hg; exact hR g hx) (fun e he => by subst he; exact hE e hx) (fun e he => by subst he; exact hx)
def f_X12_copyNodes_j105 (σ : xM)  : Option xM :=
  some σ
set_option maxHeartbeats 4000000 in
set_option maxRecDepth 20000 in
theorem L_X12_copyNodes_j105 {G : xG} {π : Nat → Nat} {d C Z : Nat} {Q : xQ} (σ : xM)  {x : xM} (hf : f_X12_copyNodes_j105 σ = some x) (hR : ∀ g, x = g → Q (.inl none) (g) π) : xMach G π J_X12_copyNodes (d + 0) C Z 105 [] [] σ Q := by
  unfold f_X12_copyNodes_j105 at hf
  cases hf
  exact xm_vret dX12_copyNodes_105 rfl (hR _ rfl)
def f_X12_copyNodes (σ : xM) (l0 : Nat) (l1 : Int32) (l2 : Int32) (l3 : Int32) : Option xM :=
  xlet (0 : Int32) (fun v1 => (xloop (f_X12_copyNodes_s3 ) xF (l0, l1, l2, l3, v1, σ)).bind (Sum.elim (fun g => some g) (fun e => f_X12_copyNodes_j105 e)))
set_option maxHeartbeats 4000000 in
set_option maxRecDepth 20000 in
theorem m_X12_copyNodes {G : xG} {π : Nat → Nat} {d C Z : Nat} {Q : xQ} {σ : xM} {l0 : Nat} {l1 : Int32} {l2 : Int32} {l3 : Int32} {x : xM} (hf : f_X12_copyNodes σ l0 l1 l2 l3 = some x) (hR : ∀ g, x = g → Q (.inl none) (g) π) : xMach G π J_X12_copyNodes (d + 0) C Z 0 (lv_args 0 [.ref l0, .int l1, .int l2, .int l3]) [] σ Q := by
  unfold f_X12_copyNodes at hf
  refine xm_stL (L' := [(0, .ref l0), (1, .int l1), (2, .int l2), (3, .int l3)]) rfl ?_
  refine xm_iconst dX12_copyNodes_0 (v := 0) (by decide) ?_
  refine xb_topi hf (fun v1 ev1 hf => ?_)
  refine xm_istore dX12_copyNodes_1 (by decide) (xm_stL (L' := [(4, .int v1), (0, .ref l0), (1, .int l1), (2, .int l2), (3, .int l3)]) rfl ?_)
  obtain ⟨o, h1, hf⟩ := xbind hf
  refine xm_sub [1, 2, 3, 4, 0] rfl (L_X12_copyNodes_l3  h1 (fun g hg => ?_) (fun e he => ?_))
  · subst hg
    cases hf
    exact hR _ rfl
  · subst he
    rw [Sum.elim_inr] at hf
    have hf : f_X12_copyNodes_j105 e = some _ := hf
    exact xm_sub [] rfl (L_X12_copyNodes_j105 e hf hR)
-- RankwiseModel.span(II)V
def f_X12_span_s18 (σ : xM) (s : (Nat × Int32 × Int32 × Int32 × Int32)) : Option (xM ⊕ ((Nat × Int32 × Int32 × Int32) ⊕ (Nat × Int32 × Int32 × Int32 × Int32))) :=
  xlet s.1 (fun l0 => xlet s.2.1 (fun l1 => xlet s.2.2.1 (fun l3 => xlet s.2.2.2.1 (fun l4 => xlet s.2.2.2.2 (fun l5 => (gR σ l0 12 7).bind (fun x4 => (aI σ x4 14 (l1 + l3)).bind (fun x5 => (if x5 ≤ l5 then some (Sum.inr (Sum.inl (l0, l1, l3, l4))) else (gR σ l0 12 8).bind (fun x6 => (aI σ x6 14 l4).bind (fun x7 => xlet (l4 + x7) (fun v8 => xlet (l5 + (1 : Int32)) (fun v9 => some (Sum.inr (Sum.inr (l0, l1, l3, v8, v9)))))))))))))))
set_option maxHeartbeats 4000000 in
set_option maxRecDepth 20000 in
theorem L_X12_span_s18 {G : xG} {π : Nat → Nat} {d C Z : Nat} {Q : xQ} (σ : xM) (l0 : Nat) (l1 : Int32) (l3 : Int32) (l4 : Int32) (l5 : Int32) {x : (xM ⊕ ((Nat × Int32 × Int32 × Int32) ⊕ (Nat × Int32 × Int32 × Int32 × Int32)))} (hf : f_X12_span_s18 σ (l0, l1, l3, l4, l5) = some x) (hR : ∀ g, x = Sum.inl (g) → Q (.inl none) (g) π) (hE : ∀ e : (Nat × Int32 × Int32 × Int32), x = Sum.inr (Sum.inl e) → xMach G π J_X12_span (d + 0) C Z 49 [(0, .ref e.1), (1, .int e.2.1), (3, .int e.2.2.1), (4, .int e.2.2.2)] [] σ Q) (hC : ∀ e : (Nat × Int32 × Int32 × Int32 × Int32), x = Sum.inr (Sum.inr e) → xMach G π J_X12_span (d + 0) C Z 18 [(0, .ref e.1), (1, .int e.2.1), (3, .int e.2.2.1), (4, .int e.2.2.2.1), (5, .int e.2.2.2.2)] [] σ Q) : xMach G π J_X12_span (d + 0) C Z 18 [(0, .ref l0), (1, .int l1), (3, .int l3), (4, .int l4), (5, .int l5)] [] σ Q := by
  have hf : (gR σ l0 12 7).bind (fun x4 => (aI σ x4 14 (l1 + l3)).bind (fun x5 => (if x5 ≤ l5 then some (Sum.inr (Sum.inl (l0, l1, l3, l4))) else (gR σ l0 12 8).bind (fun x6 => (aI σ x6 14 l4).bind (fun x7 => xlet (l4 + x7) (fun v8 => xlet (l5 + (1 : Int32)) (fun v9 => some (Sum.inr (Sum.inr (l0, l1, l3, v8, v9)))))))))) = some x := hf
  refine xm_iload dX12_span_18 rfl ?_
  refine xm_aload_n dX12_span_20 rfl ?_
  refine xb_getR (a := l0) (c := 12) (k := 7) dX12_span_21 xcl12 (by decide) xw_1844 rfl hf (fun x4 ex4 hf => ?_)
  refine xm_iload_n dX12_span_24 rfl ?_
  refine xm_iload_n dX12_span_25 rfl ?_
  refine xm_iadd dX12_span_26 ?_
  refine xb_iald dX12_span_27 hf (fun x5 ex5 hf => ?_)
  refine xb_icmp_ge 49 dX12_span_28 (by decide) hf (fun c hf => ?_) (fun c hf => ?_)
  · cases hf
    exact xm_sub [0, 1, 2, 3] rfl (hE _ rfl)
  · refine xm_iload dX12_span_31 rfl ?_
    refine xm_aload_n dX12_span_33 rfl ?_
    refine xb_getR (a := l0) (c := 12) (k := 8) dX12_span_34 xcl12 (by decide) xw_1845 rfl hf (fun x6 ex6 hf => ?_)
    refine xm_iload dX12_span_37 rfl ?_
    refine xb_iald dX12_span_39 hf (fun x7 ex7 hf => ?_)
    refine xm_iadd dX12_span_40 ?_
    refine xb_topi hf (fun v8 ev8 hf => ?_)
    refine xm_istore dX12_span_41 (by decide) (xm_stL (L' := [(4, .int v8), (0, .ref l0), (1, .int l1), (3, .int l3), (5, .int l5)]) rfl ?_)
    refine xb_iinc dX12_span_43 rfl (by decide) (by decide) hf (fun v9 ev9 hf => xm_stL (L' := [(5, .int v9), (4, .int v8), (0, .ref l0), (1, .int l1), (3, .int l3)]) rfl ?_)
    refine xm_goto 18 dX12_span_46 (by decide) ?_
    cases hf
    exact xm_sub [2, 3, 4, 1, 0] rfl (hC _ rfl)
theorem L_X12_span_l18 {G : xG} {π : Nat → Nat} {d C Z : Nat} {Q : xQ} (σ : xM) {s0 : (Nat × Int32 × Int32 × Int32 × Int32)} {x : (xM ⊕ (Nat × Int32 × Int32 × Int32))} (h1 : xloop (f_X12_span_s18 σ) xF s0 = some x) (hR : ∀ g, x = Sum.inl g → Q (.inl none) (g) π) (hE : ∀ e : (Nat × Int32 × Int32 × Int32), x = Sum.inr e → xMach G π J_X12_span (d + 0) C Z 49 [(0, .ref e.1), (1, .int e.2.1), (3, .int e.2.2.1), (4, .int e.2.2.2)] [] σ Q) : xMach G π J_X12_span (d + 0) C Z 18 [(0, .ref s0.1), (1, .int s0.2.1), (3, .int s0.2.2.1), (4, .int s0.2.2.2.1), (5, .int s0.2.2.2.2)] [] σ Q := by
  refine xloop_run (M := (fun s : (Nat × Int32 × Int32 × Int32 × Int32) => xMach G π J_X12_span (d + 0) C Z 18 [(0, .ref s.1), (1, .int s.2.1), (3, .int s.2.2.1), (4, .int s.2.2.2.1), (5, .int s.2.2.2.2)] [] σ Q)) (r := x) ?_ xF _ h1
  intro s y hs hx
  exact L_X12_span_s18 σ s.1 s.2.1 s.2.2.1 s.2.2.2.1 s.2.2.2.2 (x := y) hs (fun g hg => by subst hg; exact hR g hx) (fun e he => by subst he; exact hE e hx) (fun e he => by subst he; exact hx)
def f_X12_span_j49 (σ : xM) (l0 : Nat) (l1 : Int32) (l3 : Int32) (l4 : Int32) : Option (xM ⊕ ((xM) ⊕ (Nat × Int32 × Int32 × xM))) :=
  (gR σ l0 12 8).bind (fun x10 => (wI σ x10 (l1 + l3) ((l4 - l1) - l3)).bind (fun σ11 => xlet (l3 + (-1 : Int32)) (fun v12 => some (Sum.inr (Sum.inr (l0, l1, v12, σ11))))))
set_option maxHeartbeats 4000000 in
set_option maxRecDepth 20000 in
theorem L_X12_span_j49 {G : xG} {π : Nat → Nat} {d C Z : Nat} {Q : xQ} (σ : xM) (l0 : Nat) (l1 : Int32) (l3 : Int32) (l4 : Int32) {x : (xM ⊕ ((xM) ⊕ (Nat × Int32 × Int32 × xM)))} (hf : f_X12_span_j49 σ l0 l1 l3 l4 = some x) (hR : ∀ g, x = Sum.inl (g) → Q (.inl none) (g) π) (hE : ∀ e : (xM), x = Sum.inr (Sum.inl e) → xMach G π J_X12_span (d + 0) C Z 69 [] [] e Q) (hC : ∀ e : (Nat × Int32 × Int32 × xM), x = Sum.inr (Sum.inr e) → xMach G π J_X12_span (d + 0) C Z 4 [(0, .ref e.1), (1, .int e.2.1), (3, .int e.2.2.1)] [] e.2.2.2 Q) : xMach G π J_X12_span (d + 0) C Z 49 [(0, .ref l0), (1, .int l1), (3, .int l3), (4, .int l4)] [] σ Q := by
  unfold f_X12_span_j49 at hf
  refine xm_aload_n dX12_span_49 rfl ?_
  refine xb_getR (a := l0) (c := 12) (k := 8) dX12_span_50 xcl12 (by decide) xw_1845 rfl hf (fun x10 ex10 hf => ?_)
  refine xm_iload_n dX12_span_53 rfl ?_
  refine xm_iload_n dX12_span_54 rfl ?_
  refine xm_iadd dX12_span_55 ?_
  refine xm_iload dX12_span_56 rfl ?_
  refine xm_iload_n dX12_span_58 rfl ?_
  refine xm_isub dX12_span_59 ?_
  refine xm_iload_n dX12_span_60 rfl ?_
  refine xm_isub dX12_span_61 ?_
  refine xb_iast dX12_span_62 hf (fun σ11 eσ11 hf => ?_)
  refine xb_iinc dX12_span_63 rfl (by decide) (by decide) hf (fun v12 ev12 hf => xm_stL (L' := [(3, .int v12), (0, .ref l0), (1, .int l1), (4, .int l4)]) rfl ?_)
  refine xm_goto 4 dX12_span_66 (by decide) ?_
  cases hf
  exact xm_sub [1, 2, 0] rfl (hC _ rfl)
def f_X12_span_s4 (s : (Nat × Int32 × Int32 × xM)) : Option (xM ⊕ ((xM) ⊕ (Nat × Int32 × Int32 × xM))) :=
  xlet s.1 (fun l0 => xlet s.2.1 (fun l1 => xlet s.2.2.1 (fun l3 => xlet s.2.2.2 (fun σ => (if l3 < (0 : Int32) then some (Sum.inr (Sum.inl σ)) else xlet ((l1 + l3) + (1 : Int32)) (fun v2 => xlet (0 : Int32) (fun v3 => (xloop (f_X12_span_s18 σ ) xF (l0, l1, l3, v2, v3)).bind (Sum.elim (fun g => some (Sum.inl g)) (fun e => f_X12_span_j49 σ e.1 e.2.1 e.2.2.1 e.2.2.2)))))))))
set_option maxHeartbeats 4000000 in
set_option maxRecDepth 20000 in
theorem L_X12_span_s4 {G : xG} {π : Nat → Nat} {d C Z : Nat} {Q : xQ} (σ : xM) (l0 : Nat) (l1 : Int32) (l3 : Int32) {x : (xM ⊕ ((xM) ⊕ (Nat × Int32 × Int32 × xM)))} (hf : f_X12_span_s4 (l0, l1, l3, σ) = some x) (hR : ∀ g, x = Sum.inl (g) → Q (.inl none) (g) π) (hE : ∀ e : (xM), x = Sum.inr (Sum.inl e) → xMach G π J_X12_span (d + 0) C Z 69 [] [] e Q) (hC : ∀ e : (Nat × Int32 × Int32 × xM), x = Sum.inr (Sum.inr e) → xMach G π J_X12_span (d + 0) C Z 4 [(0, .ref e.1), (1, .int e.2.1), (3, .int e.2.2.1)] [] e.2.2.2 Q) : xMach G π J_X12_span (d + 0) C Z 4 [(0, .ref l0), (1, .int l1), (3, .int l3)] [] σ Q := by
  have hf : (if l3 < (0 : Int32) then some (Sum.inr (Sum.inl σ)) else xlet ((l1 + l3) + (1 : Int32)) (fun v2 => xlet (0 : Int32) (fun v3 => (xloop (f_X12_span_s18 σ ) xF (l0, l1, l3, v2, v3)).bind (Sum.elim (fun g => some (Sum.inl g)) (fun e => f_X12_span_j49 σ e.1 e.2.1 e.2.2.1 e.2.2.2))))) = some x := hf
  refine xm_iload_n dX12_span_4 rfl ?_
  refine xb_if_lt 69 dX12_span_5 (by decide) hf (fun c hf => ?_) (fun c hf => ?_)
  · cases hf
    exact xm_sub [] rfl (hE _ rfl)
  · refine xm_iload_n dX12_span_8 rfl ?_
    refine xm_iload_n dX12_span_9 rfl ?_
    refine xm_iadd dX12_span_10 ?_
    refine xm_iconst dX12_span_11 (v := 1) (by decide) ?_
    refine xm_iadd dX12_span_12 ?_
    refine xb_topi hf (fun v2 ev2 hf => ?_)
    refine xm_istore dX12_span_13 (by decide) (xm_stL (L' := [(4, .int v2), (0, .ref l0), (1, .int l1), (3, .int l3)]) rfl ?_)
    refine xm_iconst dX12_span_15 (v := 0) (by decide) ?_
    refine xb_topi hf (fun v3 ev3 hf => ?_)
    refine xm_istore dX12_span_16 (by decide) (xm_stL (L' := [(5, .int v3), (4, .int v2), (0, .ref l0), (1, .int l1), (3, .int l3)]) rfl ?_)
    obtain ⟨o, h1, hf⟩ := xbind hf
    refine xm_sub [2, 3, 4, 1, 0] rfl (L_X12_span_l18 σ h1 (fun g hg => ?_) (fun e he => ?_))
    · subst hg
      cases hf
      exact hR _ rfl
    · subst he
      rw [Sum.elim_inr] at hf
      have hf : f_X12_span_j49 σ e.1 e.2.1 e.2.2.1 e.2.2.2 = some _ := hf
      exact xm_sub [0, 1, 2, 3] rfl (L_X12_span_j49 σ e.1 e.2.1 e.2.2.1 e.2.2.2 hf hR hE hC)
theorem L_X12_span_l4 {G : xG} {π : Nat → Nat} {d C Z : Nat} {Q : xQ} {s0 : (Nat × Int32 × Int32 × xM)} {x : (xM ⊕ (xM))} (h1 : xloop (f_X12_span_s4) xF s0 = some x) (hR : ∀ g, x = Sum.inl g → Q (.inl none) (g) π) (hE : ∀ e : (xM), x = Sum.inr e → xMach G π J_X12_span (d + 0) C Z 69 [] [] e Q) : xMach G π J_X12_span (d + 0) C Z 4 [(0, .ref s0.1), (1, .int s0.2.1), (3, .int s0.2.2.1)] [] s0.2.2.2 Q := by
  refine xloop_run (M := (fun s : (Nat × Int32 × Int32 × xM) => xMach G π J_X12_span (d + 0) C Z 4 [(0, .ref s.1), (1, .int s.2.1), (3, .int s.2.2.1)] [] s.2.2.2 Q)) (r := x) ?_ xF _ h1
  intro s y hs hx
  exact L_X12_span_s4 s.2.2.2 s.1 s.2.1 s.2.2.1 (x := y) hs (fun g hg => by subst hg; exact hR g hx) (fun e he => by subst he; exact hE e hx) (fun e he => by subst he; exact hx)
def f_X12_span_j69 (σ : xM)  : Option xM :=
  some σ
set_option maxHeartbeats 4000000 in
set_option maxRecDepth 20000 in
theorem L_X12_span_j69 {G : xG} {π : Nat → Nat} {d C Z : Nat} {Q : xQ} (σ : xM)  {x : xM} (hf : f_X12_span_j69 σ = some x) (hR : ∀ g, x = g → Q (.inl none) (g) π) : xMach G π J_X12_span (d + 0) C Z 69 [] [] σ Q := by
  unfold f_X12_span_j69 at hf
  cases hf
  exact xm_vret dX12_span_69 rfl (hR _ rfl)
def f_X12_span (σ : xM) (l0 : Nat) (l1 : Int32) (l2 : Int32) : Option xM :=
  xlet (l2 - (1 : Int32)) (fun v1 => (xloop (f_X12_span_s4 ) xF (l0, l1, v1, σ)).bind (Sum.elim (fun g => some g) (fun e => f_X12_span_j69 e)))
set_option maxHeartbeats 4000000 in
set_option maxRecDepth 20000 in
theorem m_X12_span {G : xG} {π : Nat → Nat} {d C Z : Nat} {Q : xQ} {σ : xM} {l0 : Nat} {l1 : Int32} {l2 : Int32} {x : xM} (hf : f_X12_span σ l0 l1 l2 = some x) (hR : ∀ g, x = g → Q (.inl none) (g) π) : xMach G π J_X12_span (d + 0) C Z 0 (lv_args 0 [.ref l0, .int l1, .int l2]) [] σ Q := by
  unfold f_X12_span at hf
  refine xm_stL (L' := [(0, .ref l0), (1, .int l1), (2, .int l2)]) rfl ?_
  refine xm_iload_n dX12_span_0 rfl ?_
  refine xm_iconst dX12_span_1 (v := 1) (by decide) ?_
  refine xm_isub dX12_span_2 ?_
  refine xb_topi hf (fun v1 ev1 hf => ?_)
  refine xm_istore_n dX12_span_3 (by decide) (xm_stL (L' := [(3, .int v1), (0, .ref l0), (1, .int l1), (2, .int l2)]) rfl ?_)
  obtain ⟨o, h1, hf⟩ := xbind hf
  refine xm_sub [1, 2, 0] rfl (L_X12_span_l4  h1 (fun g hg => ?_) (fun e he => ?_))
  · subst hg
    cases hf
    exact hR _ rfl
  · subst he
    rw [Sum.elim_inr] at hf
    have hf : f_X12_span_j69 e = some _ := hf
    exact xm_sub [] rfl (L_X12_span_j69 e hf hR)
-- RankwiseModel.child(II)I
def f_X12_child_s7 (σ : xM) (s : (Nat × Int32 × Int32 × Int32)) : Option (Int32 ⊕ ((Int32) ⊕ (Nat × Int32 × Int32 × Int32))) :=
  xlet s.1 (fun l0 => xlet s.2.1 (fun l2 => xlet s.2.2.1 (fun l3 => xlet s.2.2.2 (fun l4 => (if l2 ≤ l4 then some (Sum.inr (Sum.inl l3)) else (gR σ l0 12 8).bind (fun x3 => (aI σ x3 14 l3).bind (fun x4 => xlet (l3 + x4) (fun v5 => xlet (l4 + (1 : Int32)) (fun v6 => some (Sum.inr (Sum.inr (l0, l2, v5, v6))))))))))))
set_option maxHeartbeats 4000000 in
set_option maxRecDepth 20000 in
theorem L_X12_child_s7 {G : xG} {π : Nat → Nat} {d C Z : Nat} {Q : xQ} (σ : xM) (l0 : Nat) (l2 : Int32) (l3 : Int32) (l4 : Int32) {x : (Int32 ⊕ ((Int32) ⊕ (Nat × Int32 × Int32 × Int32)))} (hf : f_X12_child_s7 σ (l0, l2, l3, l4) = some x) (hR : ∀ g, x = Sum.inl (g) → Q (.inl (some (.int g))) (σ) π) (hE : ∀ e : (Int32), x = Sum.inr (Sum.inl e) → xMach G π J_X12_child (d + 0) C Z 28 [(3, .int e)] [] σ Q) (hC : ∀ e : (Nat × Int32 × Int32 × Int32), x = Sum.inr (Sum.inr e) → xMach G π J_X12_child (d + 0) C Z 7 [(0, .ref e.1), (2, .int e.2.1), (3, .int e.2.2.1), (4, .int e.2.2.2)] [] σ Q) : xMach G π J_X12_child (d + 0) C Z 7 [(0, .ref l0), (2, .int l2), (3, .int l3), (4, .int l4)] [] σ Q := by
  have hf : (if l2 ≤ l4 then some (Sum.inr (Sum.inl l3)) else (gR σ l0 12 8).bind (fun x3 => (aI σ x3 14 l3).bind (fun x4 => xlet (l3 + x4) (fun v5 => xlet (l4 + (1 : Int32)) (fun v6 => some (Sum.inr (Sum.inr (l0, l2, v5, v6)))))))) = some x := hf
  refine xm_iload dX12_child_7 rfl ?_
  refine xm_iload_n dX12_child_9 rfl ?_
  refine xb_icmp_ge 28 dX12_child_10 (by decide) hf (fun c hf => ?_) (fun c hf => ?_)
  · cases hf
    exact xm_sub [2] rfl (hE _ rfl)
  · refine xm_iload_n dX12_child_13 rfl ?_
    refine xm_aload_n dX12_child_14 rfl ?_
    refine xb_getR (a := l0) (c := 12) (k := 8) dX12_child_15 xcl12 (by decide) xw_1845 rfl hf (fun x3 ex3 hf => ?_)
    refine xm_iload_n dX12_child_18 rfl ?_
    refine xb_iald dX12_child_19 hf (fun x4 ex4 hf => ?_)
    refine xm_iadd dX12_child_20 ?_
    refine xb_topi hf (fun v5 ev5 hf => ?_)
    refine xm_istore_n dX12_child_21 (by decide) (xm_stL (L' := [(3, .int v5), (0, .ref l0), (2, .int l2), (4, .int l4)]) rfl ?_)
    refine xb_iinc dX12_child_22 rfl (by decide) (by decide) hf (fun v6 ev6 hf => xm_stL (L' := [(4, .int v6), (3, .int v5), (0, .ref l0), (2, .int l2)]) rfl ?_)
    refine xm_goto 7 dX12_child_25 (by decide) ?_
    cases hf
    exact xm_sub [2, 3, 1, 0] rfl (hC _ rfl)
theorem L_X12_child_l7 {G : xG} {π : Nat → Nat} {d C Z : Nat} {Q : xQ} (σ : xM) {s0 : (Nat × Int32 × Int32 × Int32)} {x : (Int32 ⊕ (Int32))} (h1 : xloop (f_X12_child_s7 σ) xF s0 = some x) (hR : ∀ g, x = Sum.inl g → Q (.inl (some (.int g))) (σ) π) (hE : ∀ e : (Int32), x = Sum.inr e → xMach G π J_X12_child (d + 0) C Z 28 [(3, .int e)] [] σ Q) : xMach G π J_X12_child (d + 0) C Z 7 [(0, .ref s0.1), (2, .int s0.2.1), (3, .int s0.2.2.1), (4, .int s0.2.2.2)] [] σ Q := by
  refine xloop_run (M := (fun s : (Nat × Int32 × Int32 × Int32) => xMach G π J_X12_child (d + 0) C Z 7 [(0, .ref s.1), (2, .int s.2.1), (3, .int s.2.2.1), (4, .int s.2.2.2)] [] σ Q)) (r := x) ?_ xF _ h1
  intro s y hs hx
  exact L_X12_child_s7 σ s.1 s.2.1 s.2.2.1 s.2.2.2 (x := y) hs (fun g hg => by subst hg; exact hR g hx) (fun e he => by subst he; exact hE e hx) (fun e he => by subst he; exact hx)
def f_X12_child_j28 (σ : xM) (l3 : Int32) : Option Int32 :=
  some l3
set_option maxHeartbeats 4000000 in
set_option maxRecDepth 20000 in
theorem L_X12_child_j28 {G : xG} {π : Nat → Nat} {d C Z : Nat} {Q : xQ} (σ : xM) (l3 : Int32) {x : Int32} (hf : f_X12_child_j28 σ l3 = some x) (hR : ∀ g, x = g → Q (.inl (some (.int g))) (σ) π) : xMach G π J_X12_child (d + 0) C Z 28 [(3, .int l3)] [] σ Q := by
  unfold f_X12_child_j28 at hf
  refine xm_iload_n dX12_child_28 rfl ?_
  cases hf
  exact xm_iret dX12_child_29 rfl (hR _ rfl)
def f_X12_child (σ : xM) (l0 : Nat) (l1 : Int32) (l2 : Int32) : Option Int32 :=
  xlet (l1 + (1 : Int32)) (fun v1 => xlet (0 : Int32) (fun v2 => (xloop (f_X12_child_s7 σ ) xF (l0, l2, v1, v2)).bind (Sum.elim (fun g => some g) (fun e => f_X12_child_j28 σ e))))
set_option maxHeartbeats 4000000 in
set_option maxRecDepth 20000 in
theorem m_X12_child {G : xG} {π : Nat → Nat} {d C Z : Nat} {Q : xQ} {σ : xM} {l0 : Nat} {l1 : Int32} {l2 : Int32} {x : Int32} (hf : f_X12_child σ l0 l1 l2 = some x) (hR : ∀ g, x = g → Q (.inl (some (.int g))) (σ) π) : xMach G π J_X12_child (d + 0) C Z 0 (lv_args 0 [.ref l0, .int l1, .int l2]) [] σ Q := by
  unfold f_X12_child at hf
  refine xm_stL (L' := [(0, .ref l0), (1, .int l1), (2, .int l2)]) rfl ?_
  refine xm_iload_n dX12_child_0 rfl ?_
  refine xm_iconst dX12_child_1 (v := 1) (by decide) ?_
  refine xm_iadd dX12_child_2 ?_
  refine xb_topi hf (fun v1 ev1 hf => ?_)
  refine xm_istore_n dX12_child_3 (by decide) (xm_stL (L' := [(3, .int v1), (0, .ref l0), (1, .int l1), (2, .int l2)]) rfl ?_)
  refine xm_iconst dX12_child_4 (v := 0) (by decide) ?_
  refine xb_topi hf (fun v2 ev2 hf => ?_)
  refine xm_istore dX12_child_5 (by decide) (xm_stL (L' := [(4, .int v2), (3, .int v1), (0, .ref l0), (1, .int l1), (2, .int l2)]) rfl ?_)
  obtain ⟨o, h1, hf⟩ := xbind hf
  refine xm_sub [2, 4, 1, 0] rfl (L_X12_child_l7 σ h1 (fun g hg => ?_) (fun e he => ?_))
  · subst hg
    cases hf
    exact hR _ rfl
  · subst he
    rw [Sum.elim_inr] at hf
    have hf : f_X12_child_j28 σ e = some _ := hf
    exact xm_sub [0] rfl (L_X12_child_j28 σ e hf hR)
-- RankwiseModel.areSame(II)Z
def f_X12_areSame_j132 (σ : xM) (l0 : Nat) (l1 : Int32) (l2 : Int32) (l4 : Int32) (l5 : Int32) (s0 : Int32) : Option (Int32 ⊕ ((Int32) ⊕ (Nat × Int32 × Int32 × Int32 × Int32 × Int32))) :=
  xlet (l5 + (1 : Int32)) (fun v12 => some (Sum.inr (Sum.inr (l0, l1, l2, s0, l4, v12))))
set_option maxHeartbeats 4000000 in
set_option maxRecDepth 20000 in
theorem L_X12_areSame_j132 {G : xG} {π : Nat → Nat} {d C Z : Nat} {Q : xQ} (σ : xM) (l0 : Nat) (l1 : Int32) (l2 : Int32) (l4 : Int32) (l5 : Int32) (s0 : Int32) {x : (Int32 ⊕ ((Int32) ⊕ (Nat × Int32 × Int32 × Int32 × Int32 × Int32)))} (hf : f_X12_areSame_j132 σ l0 l1 l2 l4 l5 s0 = some x) (hR : ∀ g, x = Sum.inl (g) → Q (.inl (some (.int g))) (σ) π) (hE : ∀ e : (Int32), x = Sum.inr (Sum.inl e) → xMach G π J_X12_areSame (d + 0) C Z 139 [(3, .int e)] [] σ Q) (hC : ∀ e : (Nat × Int32 × Int32 × Int32 × Int32 × Int32), x = Sum.inr (Sum.inr e) → xMach G π J_X12_areSame (d + 0) C Z 32 [(0, .ref e.1), (1, .int e.2.1), (2, .int e.2.2.1), (3, .int e.2.2.2.1), (4, .int e.2.2.2.2.1), (5, .int e.2.2.2.2.2)] [] σ Q) : xMach G π J_X12_areSame (d + 0) C Z 132 [(0, .ref l0), (1, .int l1), (2, .int l2), (4, .int l4), (5, .int l5)] [.int s0] σ Q := by
  unfold f_X12_areSame_j132 at hf
  refine xm_istore_n dX12_areSame_132 (by decide) (xm_stL (L' := [(3, .int s0), (0, .ref l0), (1, .int l1), (2, .int l2), (4, .int l4), (5, .int l5)]) rfl ?_)
  refine xb_iinc dX12_areSame_133 rfl (by decide) (by decide) hf (fun v12 ev12 hf => xm_stL (L' := [(5, .int v12), (3, .int s0), (0, .ref l0), (1, .int l1), (2, .int l2), (4, .int l4)]) rfl ?_)
  refine xm_goto 32 dX12_areSame_136 (by decide) ?_
  cases hf
  exact xm_sub [2, 3, 4, 1, 5, 0] rfl (hC _ rfl)
def f_X12_areSame_j131 (σ : xM) (l0 : Nat) (l1 : Int32) (l2 : Int32) (l4 : Int32) (l5 : Int32) : Option (Int32 ⊕ ((Int32) ⊕ (Nat × Int32 × Int32 × Int32 × Int32 × Int32))) :=
  f_X12_areSame_j132 σ l0 l1 l2 l4 l5 (0 : Int32)
set_option maxHeartbeats 4000000 in
set_option maxRecDepth 20000 in
theorem L_X12_areSame_j131 {G : xG} {π : Nat → Nat} {d C Z : Nat} {Q : xQ} (σ : xM) (l0 : Nat) (l1 : Int32) (l2 : Int32) (l4 : Int32) (l5 : Int32) {x : (Int32 ⊕ ((Int32) ⊕ (Nat × Int32 × Int32 × Int32 × Int32 × Int32)))} (hf : f_X12_areSame_j131 σ l0 l1 l2 l4 l5 = some x) (hR : ∀ g, x = Sum.inl (g) → Q (.inl (some (.int g))) (σ) π) (hE : ∀ e : (Int32), x = Sum.inr (Sum.inl e) → xMach G π J_X12_areSame (d + 0) C Z 139 [(3, .int e)] [] σ Q) (hC : ∀ e : (Nat × Int32 × Int32 × Int32 × Int32 × Int32), x = Sum.inr (Sum.inr e) → xMach G π J_X12_areSame (d + 0) C Z 32 [(0, .ref e.1), (1, .int e.2.1), (2, .int e.2.2.1), (3, .int e.2.2.2.1), (4, .int e.2.2.2.2.1), (5, .int e.2.2.2.2.2)] [] σ Q) : xMach G π J_X12_areSame (d + 0) C Z 131 [(0, .ref l0), (1, .int l1), (2, .int l2), (4, .int l4), (5, .int l5)] [] σ Q := by
  unfold f_X12_areSame_j131 at hf
  refine xm_iconst dX12_areSame_131 (v := 0) (by decide) ?_
  exact xm_sub [0, 1, 2, 3, 4] rfl (L_X12_areSame_j132 σ l0 l1 l2 l4 l5 (0 : Int32) hf hR hE hC)
def f_X12_areSame_s32 (σ : xM) (s : (Nat × Int32 × Int32 × Int32 × Int32 × Int32)) : Option (Int32 ⊕ ((Int32) ⊕ (Nat × Int32 × Int32 × Int32 × Int32 × Int32))) :=
  xlet s.1 (fun l0 => xlet s.2.1 (fun l1 => xlet s.2.2.1 (fun l2 => xlet s.2.2.2.1 (fun l3 => xlet s.2.2.2.2.1 (fun l4 => xlet s.2.2.2.2.2 (fun l5 => (if l4 ≤ l5 then some (Sum.inr (Sum.inl l3)) else (if l3 = (0 : Int32) then some (Sum.inr (Sum.inl l3)) else (gR σ l0 12 4).bind (fun x8 => (aI σ x8 14 (l1 + l5)).bind (fun x9 => (gR σ l0 12 4).bind (fun x10 => (aI σ x10 14 (l2 + l5)).bind (fun x11 => (if x9 = x11 then (gR σ l0 12 5).bind (fun x13 => (aI σ x13 14 (l1 + l5)).bind (fun x14 => (gR σ l0 12 5).bind (fun x15 => (aI σ x15 14 (l2 + l5)).bind (fun x16 => (if x14 = x16 then (gR σ l0 12 6).bind (fun x17 => (aI σ x17 14 (l1 + l5)).bind (fun x18 => (gR σ l0 12 6).bind (fun x19 => (aI σ x19 14 (l2 + l5)).bind (fun x20 => (if x18 = x20 then (gR σ l0 12 7).bind (fun x21 => (aI σ x21 14 (l1 + l5)).bind (fun x22 => (gR σ l0 12 7).bind (fun x23 => (aI σ x23 14 (l2 + l5)).bind (fun x24 => (if x22 = x24 then f_X12_areSame_j132 σ l0 l1 l2 l4 l5 (1 : Int32) else f_X12_areSame_j131 σ l0 l1 l2 l4 l5))))) else f_X12_areSame_j131 σ l0 l1 l2 l4 l5))))) else f_X12_areSame_j131 σ l0 l1 l2 l4 l5))))) else f_X12_areSame_j131 σ l0 l1 l2 l4 l5)))))))))))))
set_option maxHeartbeats 4000000 in
set_option maxRecDepth 20000 in
theorem L_X12_areSame_s32 {G : xG} {π : Nat → Nat} {d C Z : Nat} {Q : xQ} (σ : xM) (l0 : Nat) (l1 : Int32) (l2 : Int32) (l3 : Int32) (l4 : Int32) (l5 : Int32) {x : (Int32 ⊕ ((Int32) ⊕ (Nat × Int32 × Int32 × Int32 × Int32 × Int32)))} (hf : f_X12_areSame_s32 σ (l0, l1, l2, l3, l4, l5) = some x) (hR : ∀ g, x = Sum.inl (g) → Q (.inl (some (.int g))) (σ) π) (hE : ∀ e : (Int32), x = Sum.inr (Sum.inl e) → xMach G π J_X12_areSame (d + 0) C Z 139 [(3, .int e)] [] σ Q) (hC : ∀ e : (Nat × Int32 × Int32 × Int32 × Int32 × Int32), x = Sum.inr (Sum.inr e) → xMach G π J_X12_areSame (d + 0) C Z 32 [(0, .ref e.1), (1, .int e.2.1), (2, .int e.2.2.1), (3, .int e.2.2.2.1), (4, .int e.2.2.2.2.1), (5, .int e.2.2.2.2.2)] [] σ Q) : xMach G π J_X12_areSame (d + 0) C Z 32 [(0, .ref l0), (1, .int l1), (2, .int l2), (3, .int l3), (4, .int l4), (5, .int l5)] [] σ Q := by
  have hf : (if l4 ≤ l5 then some (Sum.inr (Sum.inl l3)) else (if l3 = (0 : Int32) then some (Sum.inr (Sum.inl l3)) else (gR σ l0 12 4).bind (fun x8 => (aI σ x8 14 (l1 + l5)).bind (fun x9 => (gR σ l0 12 4).bind (fun x10 => (aI σ x10 14 (l2 + l5)).bind (fun x11 => (if x9 = x11 then (gR σ l0 12 5).bind (fun x13 => (aI σ x13 14 (l1 + l5)).bind (fun x14 => (gR σ l0 12 5).bind (fun x15 => (aI σ x15 14 (l2 + l5)).bind (fun x16 => (if x14 = x16 then (gR σ l0 12 6).bind (fun x17 => (aI σ x17 14 (l1 + l5)).bind (fun x18 => (gR σ l0 12 6).bind (fun x19 => (aI σ x19 14 (l2 + l5)).bind (fun x20 => (if x18 = x20 then (gR σ l0 12 7).bind (fun x21 => (aI σ x21 14 (l1 + l5)).bind (fun x22 => (gR σ l0 12 7).bind (fun x23 => (aI σ x23 14 (l2 + l5)).bind (fun x24 => (if x22 = x24 then f_X12_areSame_j132 σ l0 l1 l2 l4 l5 (1 : Int32) else f_X12_areSame_j131 σ l0 l1 l2 l4 l5))))) else f_X12_areSame_j131 σ l0 l1 l2 l4 l5))))) else f_X12_areSame_j131 σ l0 l1 l2 l4 l5))))) else f_X12_areSame_j131 σ l0 l1 l2 l4 l5))))))) = some x := hf
  refine xm_iload dX12_areSame_32 rfl ?_
  refine xm_iload dX12_areSame_34 rfl ?_
  refine xb_icmp_ge 139 dX12_areSame_36 (by decide) hf (fun c hf => ?_) (fun c hf => ?_)
  · cases hf
    exact xm_sub [3] rfl (hE _ rfl)
  · refine xm_iload_n dX12_areSame_39 rfl ?_
    refine xb_if_eq 139 dX12_areSame_40 (by decide) hf (fun c hf => ?_) (fun c hf => ?_)
    · cases hf
      exact xm_sub [3] rfl (hE _ rfl)
    · refine xm_aload_n dX12_areSame_43 rfl ?_
      refine xb_getR (a := l0) (c := 12) (k := 4) dX12_areSame_44 xcl12 (by decide) xw_1841 rfl hf (fun x8 ex8 hf => ?_)
      refine xm_iload_n dX12_areSame_47 rfl ?_
      refine xm_iload dX12_areSame_48 rfl ?_
      refine xm_iadd dX12_areSame_50 ?_
      refine xb_iald dX12_areSame_51 hf (fun x9 ex9 hf => ?_)
      refine xm_aload_n dX12_areSame_52 rfl ?_
      refine xb_getR (a := l0) (c := 12) (k := 4) dX12_areSame_53 xcl12 (by decide) xw_1841 rfl hf (fun x10 ex10 hf => ?_)
      refine xm_iload_n dX12_areSame_56 rfl ?_
      refine xm_iload dX12_areSame_57 rfl ?_
      refine xm_iadd dX12_areSame_59 ?_
      refine xb_iald dX12_areSame_60 hf (fun x11 ex11 hf => ?_)
      refine xb_icmp_ne 131 dX12_areSame_61 (by decide) hf (fun c hf => ?_) (fun c hf => ?_)
      · exact xm_sub [0, 1, 2, 4, 5] rfl (L_X12_areSame_j131 σ l0 l1 l2 l4 l5 hf hR hE hC)
      · refine xm_aload_n dX12_areSame_64 rfl ?_
        refine xb_getR (a := l0) (c := 12) (k := 5) dX12_areSame_65 xcl12 (by decide) xw_1842 rfl hf (fun x13 ex13 hf => ?_)
        refine xm_iload_n dX12_areSame_68 rfl ?_
        refine xm_iload dX12_areSame_69 rfl ?_
        refine xm_iadd dX12_areSame_71 ?_
        refine xb_iald dX12_areSame_72 hf (fun x14 ex14 hf => ?_)
        refine xm_aload_n dX12_areSame_73 rfl ?_
        refine xb_getR (a := l0) (c := 12) (k := 5) dX12_areSame_74 xcl12 (by decide) xw_1842 rfl hf (fun x15 ex15 hf => ?_)
        refine xm_iload_n dX12_areSame_77 rfl ?_
        refine xm_iload dX12_areSame_78 rfl ?_
        refine xm_iadd dX12_areSame_80 ?_
        refine xb_iald dX12_areSame_81 hf (fun x16 ex16 hf => ?_)
        refine xb_icmp_ne 131 dX12_areSame_82 (by decide) hf (fun c hf => ?_) (fun c hf => ?_)
        · exact xm_sub [0, 1, 2, 4, 5] rfl (L_X12_areSame_j131 σ l0 l1 l2 l4 l5 hf hR hE hC)
        · refine xm_aload_n dX12_areSame_85 rfl ?_
          refine xb_getR (a := l0) (c := 12) (k := 6) dX12_areSame_86 xcl12 (by decide) xw_1843 rfl hf (fun x17 ex17 hf => ?_)
          refine xm_iload_n dX12_areSame_89 rfl ?_
          refine xm_iload dX12_areSame_90 rfl ?_
          refine xm_iadd dX12_areSame_92 ?_
          refine xb_iald dX12_areSame_93 hf (fun x18 ex18 hf => ?_)
          refine xm_aload_n dX12_areSame_94 rfl ?_
          refine xb_getR (a := l0) (c := 12) (k := 6) dX12_areSame_95 xcl12 (by decide) xw_1843 rfl hf (fun x19 ex19 hf => ?_)
          refine xm_iload_n dX12_areSame_98 rfl ?_
          refine xm_iload dX12_areSame_99 rfl ?_
          refine xm_iadd dX12_areSame_101 ?_
          refine xb_iald dX12_areSame_102 hf (fun x20 ex20 hf => ?_)
          refine xb_icmp_ne 131 dX12_areSame_103 (by decide) hf (fun c hf => ?_) (fun c hf => ?_)
          · exact xm_sub [0, 1, 2, 4, 5] rfl (L_X12_areSame_j131 σ l0 l1 l2 l4 l5 hf hR hE hC)
          · refine xm_aload_n dX12_areSame_106 rfl ?_
            refine xb_getR (a := l0) (c := 12) (k := 7) dX12_areSame_107 xcl12 (by decide) xw_1844 rfl hf (fun x21 ex21 hf => ?_)
            refine xm_iload_n dX12_areSame_110 rfl ?_
            refine xm_iload dX12_areSame_111 rfl ?_
            refine xm_iadd dX12_areSame_113 ?_
            refine xb_iald dX12_areSame_114 hf (fun x22 ex22 hf => ?_)
            refine xm_aload_n dX12_areSame_115 rfl ?_
            refine xb_getR (a := l0) (c := 12) (k := 7) dX12_areSame_116 xcl12 (by decide) xw_1844 rfl hf (fun x23 ex23 hf => ?_)
            refine xm_iload_n dX12_areSame_119 rfl ?_
            refine xm_iload dX12_areSame_120 rfl ?_
            refine xm_iadd dX12_areSame_122 ?_
            refine xb_iald dX12_areSame_123 hf (fun x24 ex24 hf => ?_)
            refine xb_icmp_ne 131 dX12_areSame_124 (by decide) hf (fun c hf => ?_) (fun c hf => ?_)
            · exact xm_sub [0, 1, 2, 4, 5] rfl (L_X12_areSame_j131 σ l0 l1 l2 l4 l5 hf hR hE hC)
            · refine xm_iconst dX12_areSame_127 (v := 1) (by decide) ?_
              refine xm_goto 132 dX12_areSame_128 (by decide) ?_
              exact xm_sub [0, 1, 2, 4, 5] rfl (L_X12_areSame_j132 σ l0 l1 l2 l4 l5 (1 : Int32) hf hR hE hC)
theorem L_X12_areSame_l32 {G : xG} {π : Nat → Nat} {d C Z : Nat} {Q : xQ} (σ : xM) {s0 : (Nat × Int32 × Int32 × Int32 × Int32 × Int32)} {x : (Int32 ⊕ (Int32))} (h1 : xloop (f_X12_areSame_s32 σ) xF s0 = some x) (hR : ∀ g, x = Sum.inl g → Q (.inl (some (.int g))) (σ) π) (hE : ∀ e : (Int32), x = Sum.inr e → xMach G π J_X12_areSame (d + 0) C Z 139 [(3, .int e)] [] σ Q) : xMach G π J_X12_areSame (d + 0) C Z 32 [(0, .ref s0.1), (1, .int s0.2.1), (2, .int s0.2.2.1), (3, .int s0.2.2.2.1), (4, .int s0.2.2.2.2.1), (5, .int s0.2.2.2.2.2)] [] σ Q := by
  refine xloop_run (M := (fun s : (Nat × Int32 × Int32 × Int32 × Int32 × Int32) => xMach G π J_X12_areSame (d + 0) C Z 32 [(0, .ref s.1), (1, .int s.2.1), (2, .int s.2.2.1), (3, .int s.2.2.2.1), (4, .int s.2.2.2.2.1), (5, .int s.2.2.2.2.2)] [] σ Q)) (r := x) ?_ xF _ h1
  intro s y hs hx
  exact L_X12_areSame_s32 σ s.1 s.2.1 s.2.2.1 s.2.2.2.1 s.2.2.2.2.1 s.2.2.2.2.2 (x := y) hs (fun g hg => by subst hg; exact hR g hx) (fun e he => by subst he; exact hE e hx) (fun e he => by subst he; exact hx)
def f_X12_areSame_j139 (σ : xM) (l3 : Int32) : Option Int32 :=
  (xz l3).bind (fun b25 => some b25)
set_option maxHeartbeats 4000000 in
set_option maxRecDepth 20000 in
theorem L_X12_areSame_j139 {G : xG} {π : Nat → Nat} {d C Z : Nat} {Q : xQ} (σ : xM) (l3 : Int32) {x : Int32} (hf : f_X12_areSame_j139 σ l3 = some x) (hR : ∀ g, x = g → Q (.inl (some (.int g))) (σ) π) : xMach G π J_X12_areSame (d + 0) C Z 139 [(3, .int l3)] [] σ Q := by
  unfold f_X12_areSame_j139 at hf
  refine xm_iload_n dX12_areSame_139 rfl ?_
  obtain ⟨b25, eb25, hf⟩ := xbind hf
  obtain ⟨rfl, hz⟩ := xz_of eb25
  cases hf
  exact xm_zret dX12_areSame_140 rfl hz (hR _ rfl)
def f_X12_areSame_j20 (σ : xM) (l0 : Nat) (l1 : Int32) (l2 : Int32) (s0 : Int32) : Option Int32 :=
  (gR σ l0 12 8).bind (fun x5 => (aI σ x5 14 l1).bind (fun x6 => xlet (0 : Int32) (fun v7 => (xloop (f_X12_areSame_s32 σ ) xF (l0, l1, l2, s0, x6, v7)).bind (Sum.elim (fun g => some g) (fun e => f_X12_areSame_j139 σ e)))))
set_option maxHeartbeats 4000000 in
set_option maxRecDepth 20000 in
theorem L_X12_areSame_j20 {G : xG} {π : Nat → Nat} {d C Z : Nat} {Q : xQ} (σ : xM) (l0 : Nat) (l1 : Int32) (l2 : Int32) (s0 : Int32) {x : Int32} (hf : f_X12_areSame_j20 σ l0 l1 l2 s0 = some x) (hR : ∀ g, x = g → Q (.inl (some (.int g))) (σ) π) : xMach G π J_X12_areSame (d + 0) C Z 20 [(0, .ref l0), (1, .int l1), (2, .int l2)] [.int s0] σ Q := by
  unfold f_X12_areSame_j20 at hf
  refine xm_istore_n dX12_areSame_20 (by decide) (xm_stL (L' := [(3, .int s0), (0, .ref l0), (1, .int l1), (2, .int l2)]) rfl ?_)
  refine xm_aload_n dX12_areSame_21 rfl ?_
  refine xb_getR (a := l0) (c := 12) (k := 8) dX12_areSame_22 xcl12 (by decide) xw_1845 rfl hf (fun x5 ex5 hf => ?_)
  refine xm_iload_n dX12_areSame_25 rfl ?_
  refine xb_iald dX12_areSame_26 hf (fun x6 ex6 hf => ?_)
  refine xm_istore dX12_areSame_27 (by decide) (xm_stL (L' := [(4, .int x6), (3, .int s0), (0, .ref l0), (1, .int l1), (2, .int l2)]) rfl ?_)
  refine xm_iconst dX12_areSame_29 (v := 0) (by decide) ?_
  refine xb_topi hf (fun v7 ev7 hf => ?_)
  refine xm_istore dX12_areSame_30 (by decide) (xm_stL (L' := [(5, .int v7), (4, .int x6), (3, .int s0), (0, .ref l0), (1, .int l1), (2, .int l2)]) rfl ?_)
  obtain ⟨o, h1, hf⟩ := xbind hf
  refine xm_sub [3, 4, 5, 2, 1, 0] rfl (L_X12_areSame_l32 σ h1 (fun g hg => ?_) (fun e he => ?_))
  · subst hg
    cases hf
    exact hR _ rfl
  · subst he
    rw [Sum.elim_inr] at hf
    have hf : f_X12_areSame_j139 σ e = some _ := hf
    exact xm_sub [0] rfl (L_X12_areSame_j139 σ e hf hR)
def f_X12_areSame (σ : xM) (l0 : Nat) (l1 : Int32) (l2 : Int32) : Option Int32 :=
  (gR σ l0 12 8).bind (fun x1 => (aI σ x1 14 l1).bind (fun x2 => (gR σ l0 12 8).bind (fun x3 => (aI σ x3 14 l2).bind (fun x4 => (if x2 = x4 then f_X12_areSame_j20 σ l0 l1 l2 (1 : Int32) else f_X12_areSame_j20 σ l0 l1 l2 (0 : Int32))))))
set_option maxHeartbeats 4000000 in
set_option maxRecDepth 20000 in
theorem m_X12_areSame {G : xG} {π : Nat → Nat} {d C Z : Nat} {Q : xQ} {σ : xM} {l0 : Nat} {l1 : Int32} {l2 : Int32} {x : Int32} (hf : f_X12_areSame σ l0 l1 l2 = some x) (hR : ∀ g, x = g → Q (.inl (some (.int g))) (σ) π) : xMach G π J_X12_areSame (d + 0) C Z 0 (lv_args 0 [.ref l0, .int l1, .int l2]) [] σ Q := by
  unfold f_X12_areSame at hf
  refine xm_stL (L' := [(0, .ref l0), (1, .int l1), (2, .int l2)]) rfl ?_
  refine xm_aload_n dX12_areSame_0 rfl ?_
  refine xb_getR (a := l0) (c := 12) (k := 8) dX12_areSame_1 xcl12 (by decide) xw_1845 rfl hf (fun x1 ex1 hf => ?_)
  refine xm_iload_n dX12_areSame_4 rfl ?_
  refine xb_iald dX12_areSame_5 hf (fun x2 ex2 hf => ?_)
  refine xm_aload_n dX12_areSame_6 rfl ?_
  refine xb_getR (a := l0) (c := 12) (k := 8) dX12_areSame_7 xcl12 (by decide) xw_1845 rfl hf (fun x3 ex3 hf => ?_)
  refine xm_iload_n dX12_areSame_10 rfl ?_
  refine xb_iald dX12_areSame_11 hf (fun x4 ex4 hf => ?_)
  refine xb_icmp_ne 19 dX12_areSame_12 (by decide) hf (fun c hf => ?_) (fun c hf => ?_)
  · refine xm_iconst dX12_areSame_19 (v := 0) (by decide) ?_
    exact xm_sub [0, 1, 2] rfl (L_X12_areSame_j20 σ l0 l1 l2 (0 : Int32) hf hR)
  · refine xm_iconst dX12_areSame_15 (v := 1) (by decide) ?_
    refine xm_goto 20 dX12_areSame_16 (by decide) ?_
    exact xm_sub [0, 1, 2] rfl (L_X12_areSame_j20 σ l0 l1 l2 (1 : Int32) hf hR)
-- RankwiseModel.inOrder(I)I
def f_X12_inOrder_j54 (σ : xM) (l0 : Nat) (l1 : Int32) (l2 : Int32) (l3 : Int32) (l4 : Int32) : Option ((Int32 × xM) ⊕ ((Nat × Int32 × Int32 × Int32 × xM) ⊕ (Nat × Int32 × Int32 × Int32 × Int32 × xM))) :=
  xlet (l4 + (-1 : Int32)) (fun v8 => some (Sum.inr (Sum.inr (l0, l1, l2, l3, v8, σ))))
set_option maxHeartbeats 4000000 in
set_option maxRecDepth 20000 in
theorem L_X12_inOrder_j54 {G : xG} {π : Nat → Nat} {d C Z : Nat} {Q : xQ} (σ : xM) (l0 : Nat) (l1 : Int32) (l2 : Int32) (l3 : Int32) (l4 : Int32) {x : ((Int32 × xM) ⊕ ((Nat × Int32 × Int32 × Int32 × xM) ⊕ (Nat × Int32 × Int32 × Int32 × Int32 × xM)))} (hf : f_X12_inOrder_j54 σ l0 l1 l2 l3 l4 = some x) (hR : ∀ g, x = Sum.inl (g) → Q (.inl (some (.int g.1))) (g.2) π) (hE : ∀ e : (Nat × Int32 × Int32 × Int32 × xM), x = Sum.inr (Sum.inl e) → xMach G π J_X12_inOrder (d + 0) C Z 60 [(0, .ref e.1), (1, .int e.2.1), (2, .int e.2.2.1), (3, .int e.2.2.2.1)] [] e.2.2.2.2 Q) (hC : ∀ e : (Nat × Int32 × Int32 × Int32 × Int32 × xM), x = Sum.inr (Sum.inr e) → xMach G π J_X12_inOrder (d + 0) C Z 23 [(0, .ref e.1), (1, .int e.2.1), (2, .int e.2.2.1), (3, .int e.2.2.2.1), (4, .int e.2.2.2.2.1)] [] e.2.2.2.2.2 Q) : xMach G π J_X12_inOrder (d + 0) C Z 54 [(0, .ref l0), (1, .int l1), (2, .int l2), (3, .int l3), (4, .int l4)] [] σ Q := by
  unfold f_X12_inOrder_j54 at hf
  refine xb_iinc dX12_inOrder_54 rfl (by decide) (by decide) hf (fun v8 ev8 hf => xm_stL (L' := [(4, .int v8), (0, .ref l0), (1, .int l1), (2, .int l2), (3, .int l3)]) rfl ?_)
  refine xm_goto 23 dX12_inOrder_57 (by decide) ?_
  cases hf
  exact xm_sub [1, 2, 3, 4, 0] rfl (hC _ rfl)
def f_X12_inOrder_s23 (s : (Nat × Int32 × Int32 × Int32 × Int32 × xM)) : Option ((Int32 × xM) ⊕ ((Nat × Int32 × Int32 × Int32 × xM) ⊕ (Nat × Int32 × Int32 × Int32 × Int32 × xM))) :=
  xlet s.1 (fun l0 => xlet s.2.1 (fun l1 => xlet s.2.2.1 (fun l2 => xlet s.2.2.2.1 (fun l3 => xlet s.2.2.2.2.1 (fun l4 => xlet s.2.2.2.2.2 (fun σ => (if l4 < l1 then some (Sum.inr (Sum.inl (l0, l1, l2, l3, σ))) else (gR σ l0 12 8).bind (fun x6 => (aI σ x6 14 l4).bind (fun x7 => (if (l4 + x7) = l3 then (gR σ l0 12 14).bind (fun x9 => (wI σ x9 l2 l4).bind (fun σ10 => xlet (l2 + (1 : Int32)) (fun v11 => f_X12_inOrder_j54 σ10 l0 l1 v11 l3 l4))) else f_X12_inOrder_j54 σ l0 l1 l2 l3 l4))))))))))
set_option maxHeartbeats 4000000 in
set_option maxRecDepth 20000 in
theorem L_X12_inOrder_s23 {G : xG} {π : Nat → Nat} {d C Z : Nat} {Q : xQ} (σ : xM) (l0 : Nat) (l1 : Int32) (l2 : Int32) (l3 : Int32) (l4 : Int32) {x : ((Int32 × xM) ⊕ ((Nat × Int32 × Int32 × Int32 × xM) ⊕ (Nat × Int32 × Int32 × Int32 × Int32 × xM)))} (hf : f_X12_inOrder_s23 (l0, l1, l2, l3, l4, σ) = some x) (hR : ∀ g, x = Sum.inl (g) → Q (.inl (some (.int g.1))) (g.2) π) (hE : ∀ e : (Nat × Int32 × Int32 × Int32 × xM), x = Sum.inr (Sum.inl e) → xMach G π J_X12_inOrder (d + 0) C Z 60 [(0, .ref e.1), (1, .int e.2.1), (2, .int e.2.2.1), (3, .int e.2.2.2.1)] [] e.2.2.2.2 Q) (hC : ∀ e : (Nat × Int32 × Int32 × Int32 × Int32 × xM), x = Sum.inr (Sum.inr e) → xMach G π J_X12_inOrder (d + 0) C Z 23 [(0, .ref e.1), (1, .int e.2.1), (2, .int e.2.2.1), (3, .int e.2.2.2.1), (4, .int e.2.2.2.2.1)] [] e.2.2.2.2.2 Q) : xMach G π J_X12_inOrder (d + 0) C Z 23 [(0, .ref l0), (1, .int l1), (2, .int l2), (3, .int l3), (4, .int l4)] [] σ Q := by
  have hf : (if l4 < l1 then some (Sum.inr (Sum.inl (l0, l1, l2, l3, σ))) else (gR σ l0 12 8).bind (fun x6 => (aI σ x6 14 l4).bind (fun x7 => (if (l4 + x7) = l3 then (gR σ l0 12 14).bind (fun x9 => (wI σ x9 l2 l4).bind (fun σ10 => xlet (l2 + (1 : Int32)) (fun v11 => f_X12_inOrder_j54 σ10 l0 l1 v11 l3 l4))) else f_X12_inOrder_j54 σ l0 l1 l2 l3 l4)))) = some x := hf
  refine xm_iload dX12_inOrder_23 rfl ?_
  refine xm_iload_n dX12_inOrder_25 rfl ?_
  refine xb_icmp_lt 60 dX12_inOrder_26 (by decide) hf (fun c hf => ?_) (fun c hf => ?_)
  · cases hf
    exact xm_sub [0, 1, 2, 3] rfl (hE _ rfl)
  · refine xm_iload dX12_inOrder_29 rfl ?_
    refine xm_aload_n dX12_inOrder_31 rfl ?_
    refine xb_getR (a := l0) (c := 12) (k := 8) dX12_inOrder_32 xcl12 (by decide) xw_1845 rfl hf (fun x6 ex6 hf => ?_)
    refine xm_iload dX12_inOrder_35 rfl ?_
    refine xb_iald dX12_inOrder_37 hf (fun x7 ex7 hf => ?_)
    refine xm_iadd dX12_inOrder_38 ?_
    refine xm_iload_n dX12_inOrder_39 rfl ?_
    refine xb_icmp_ne 54 dX12_inOrder_40 (by decide) hf (fun c hf => ?_) (fun c hf => ?_)
    · exact xm_sub [0, 1, 2, 3, 4] rfl (L_X12_inOrder_j54 σ l0 l1 l2 l3 l4 hf hR hE hC)
    · refine xm_aload_n dX12_inOrder_43 rfl ?_
      refine xb_getR (a := l0) (c := 12) (k := 14) dX12_inOrder_44 xcl12 (by decide) xw_1851 rfl hf (fun x9 ex9 hf => ?_)
      refine xm_iload_n dX12_inOrder_47 rfl ?_
      refine xm_iload dX12_inOrder_48 rfl ?_
      refine xb_iast dX12_inOrder_50 hf (fun σ10 eσ10 hf => ?_)
      refine xb_iinc dX12_inOrder_51 rfl (by decide) (by decide) hf (fun v11 ev11 hf => xm_stL (L' := [(2, .int v11), (0, .ref l0), (1, .int l1), (3, .int l3), (4, .int l4)]) rfl ?_)
      exact xm_sub [1, 2, 0, 3, 4] rfl (L_X12_inOrder_j54 σ10 l0 l1 v11 l3 l4 hf hR hE hC)
theorem L_X12_inOrder_l23 {G : xG} {π : Nat → Nat} {d C Z : Nat} {Q : xQ} {s0 : (Nat × Int32 × Int32 × Int32 × Int32 × xM)} {x : ((Int32 × xM) ⊕ (Nat × Int32 × Int32 × Int32 × xM))} (h1 : xloop (f_X12_inOrder_s23) xF s0 = some x) (hR : ∀ g, x = Sum.inl g → Q (.inl (some (.int g.1))) (g.2) π) (hE : ∀ e : (Nat × Int32 × Int32 × Int32 × xM), x = Sum.inr e → xMach G π J_X12_inOrder (d + 0) C Z 60 [(0, .ref e.1), (1, .int e.2.1), (2, .int e.2.2.1), (3, .int e.2.2.2.1)] [] e.2.2.2.2 Q) : xMach G π J_X12_inOrder (d + 0) C Z 23 [(0, .ref s0.1), (1, .int s0.2.1), (2, .int s0.2.2.1), (3, .int s0.2.2.2.1), (4, .int s0.2.2.2.2.1)] [] s0.2.2.2.2.2 Q := by
  refine xloop_run (M := (fun s : (Nat × Int32 × Int32 × Int32 × Int32 × xM) => xMach G π J_X12_inOrder (d + 0) C Z 23 [(0, .ref s.1), (1, .int s.2.1), (2, .int s.2.2.1), (3, .int s.2.2.2.1), (4, .int s.2.2.2.2.1)] [] s.2.2.2.2.2 Q)) (r := x) ?_ xF _ h1
  intro s y hs hx
  exact L_X12_inOrder_s23 s.2.2.2.2.2 s.1 s.2.1 s.2.2.1 s.2.2.2.1 s.2.2.2.2.1 (x := y) hs (fun g hg => by subst hg; exact hR g hx) (fun e he => by subst he; exact hE e hx) (fun e he => by subst he; exact hx)
def f_X12_inOrder_j60 (σ : xM) (l0 : Nat) (l1 : Int32) (l2 : Int32) (l3 : Int32) : Option ((Int32 × xM) ⊕ ((Int32 × xM) ⊕ (Nat × Int32 × Int32 × Int32 × xM))) :=
  xlet (l3 + (1 : Int32)) (fun v12 => some (Sum.inr (Sum.inr (l0, l1, l2, v12, σ))))
set_option maxHeartbeats 4000000 in
set_option maxRecDepth 20000 in
theorem L_X12_inOrder_j60 {G : xG} {π : Nat → Nat} {d C Z : Nat} {Q : xQ} (σ : xM) (l0 : Nat) (l1 : Int32) (l2 : Int32) (l3 : Int32) {x : ((Int32 × xM) ⊕ ((Int32 × xM) ⊕ (Nat × Int32 × Int32 × Int32 × xM)))} (hf : f_X12_inOrder_j60 σ l0 l1 l2 l3 = some x) (hR : ∀ g, x = Sum.inl (g) → Q (.inl (some (.int g.1))) (g.2) π) (hE : ∀ e : (Int32 × xM), x = Sum.inr (Sum.inl e) → xMach G π J_X12_inOrder (d + 0) C Z 66 [(2, .int e.1)] [] e.2 Q) (hC : ∀ e : (Nat × Int32 × Int32 × Int32 × xM), x = Sum.inr (Sum.inr e) → xMach G π J_X12_inOrder (d + 0) C Z 6 [(0, .ref e.1), (1, .int e.2.1), (2, .int e.2.2.1), (3, .int e.2.2.2.1)] [] e.2.2.2.2 Q) : xMach G π J_X12_inOrder (d + 0) C Z 60 [(0, .ref l0), (1, .int l1), (2, .int l2), (3, .int l3)] [] σ Q := by
  unfold f_X12_inOrder_j60 at hf
  refine xb_iinc dX12_inOrder_60 rfl (by decide) (by decide) hf (fun v12 ev12 hf => xm_stL (L' := [(3, .int v12), (0, .ref l0), (1, .int l1), (2, .int l2)]) rfl ?_)
  refine xm_goto 6 dX12_inOrder_63 (by decide) ?_
  cases hf
  exact xm_sub [1, 2, 3, 0] rfl (hC _ rfl)
def f_X12_inOrder_s6 (s : (Nat × Int32 × Int32 × Int32 × xM)) : Option ((Int32 × xM) ⊕ ((Int32 × xM) ⊕ (Nat × Int32 × Int32 × Int32 × xM))) :=
  xlet s.1 (fun l0 => xlet s.2.1 (fun l1 => xlet s.2.2.1 (fun l2 => xlet s.2.2.2.1 (fun l3 => xlet s.2.2.2.2 (fun σ => (gR σ l0 12 8).bind (fun x3 => (aI σ x3 14 l1).bind (fun x4 => (if (l1 + x4) < l3 then some (Sum.inr (Sum.inl (l2, σ))) else xlet (l3 - (1 : Int32)) (fun v5 => (xloop (f_X12_inOrder_s23 ) xF (l0, l1, l2, l3, v5, σ)).bind (Sum.elim (fun g => some (Sum.inl g)) (fun e => f_X12_inOrder_j60 e.2.2.2.2 e.1 e.2.1 e.2.2.1 e.2.2.2.1)))))))))))
set_option maxHeartbeats 4000000 in
set_option maxRecDepth 20000 in
theorem L_X12_inOrder_s6 {G : xG} {π : Nat → Nat} {d C Z : Nat} {Q : xQ} (σ : xM) (l0 : Nat) (l1 : Int32) (l2 : Int32) (l3 : Int32) {x : ((Int32 × xM) ⊕ ((Int32 × xM) ⊕ (Nat × Int32 × Int32 × Int32 × xM)))} (hf : f_X12_inOrder_s6 (l0, l1, l2, l3, σ) = some x) (hR : ∀ g, x = Sum.inl (g) → Q (.inl (some (.int g.1))) (g.2) π) (hE : ∀ e : (Int32 × xM), x = Sum.inr (Sum.inl e) → xMach G π J_X12_inOrder (d + 0) C Z 66 [(2, .int e.1)] [] e.2 Q) (hC : ∀ e : (Nat × Int32 × Int32 × Int32 × xM), x = Sum.inr (Sum.inr e) → xMach G π J_X12_inOrder (d + 0) C Z 6 [(0, .ref e.1), (1, .int e.2.1), (2, .int e.2.2.1), (3, .int e.2.2.2.1)] [] e.2.2.2.2 Q) : xMach G π J_X12_inOrder (d + 0) C Z 6 [(0, .ref l0), (1, .int l1), (2, .int l2), (3, .int l3)] [] σ Q := by
  have hf : (gR σ l0 12 8).bind (fun x3 => (aI σ x3 14 l1).bind (fun x4 => (if (l1 + x4) < l3 then some (Sum.inr (Sum.inl (l2, σ))) else xlet (l3 - (1 : Int32)) (fun v5 => (xloop (f_X12_inOrder_s23 ) xF (l0, l1, l2, l3, v5, σ)).bind (Sum.elim (fun g => some (Sum.inl g)) (fun e => f_X12_inOrder_j60 e.2.2.2.2 e.1 e.2.1 e.2.2.1 e.2.2.2.1)))))) = some x := hf
  refine xm_iload_n dX12_inOrder_6 rfl ?_
  refine xm_iload_n dX12_inOrder_7 rfl ?_
  refine xm_aload_n dX12_inOrder_8 rfl ?_
  refine xb_getR (a := l0) (c := 12) (k := 8) dX12_inOrder_9 xcl12 (by decide) xw_1845 rfl hf (fun x3 ex3 hf => ?_)
  refine xm_iload_n dX12_inOrder_12 rfl ?_
  refine xb_iald dX12_inOrder_13 hf (fun x4 ex4 hf => ?_)
  refine xm_iadd dX12_inOrder_14 ?_
  refine xb_icmp_gt 66 dX12_inOrder_15 (by decide) hf (fun c hf => ?_) (fun c hf => ?_)
  · cases hf
    exact xm_sub [2] rfl (hE _ rfl)
  · refine xm_iload_n dX12_inOrder_18 rfl ?_
    refine xm_iconst dX12_inOrder_19 (v := 1) (by decide) ?_
    refine xm_isub dX12_inOrder_20 ?_
    refine xb_topi hf (fun v5 ev5 hf => ?_)
    refine xm_istore dX12_inOrder_21 (by decide) (xm_stL (L' := [(4, .int v5), (0, .ref l0), (1, .int l1), (2, .int l2), (3, .int l3)]) rfl ?_)
    obtain ⟨o, h1, hf⟩ := xbind hf
    refine xm_sub [1, 2, 3, 4, 0] rfl (L_X12_inOrder_l23  h1 (fun g hg => ?_) (fun e he => ?_))
    · subst hg
      cases hf
      exact hR _ rfl
    · subst he
      rw [Sum.elim_inr] at hf
      have hf : f_X12_inOrder_j60 e.2.2.2.2 e.1 e.2.1 e.2.2.1 e.2.2.2.1 = some _ := hf
      exact xm_sub [0, 1, 2, 3] rfl (L_X12_inOrder_j60 e.2.2.2.2 e.1 e.2.1 e.2.2.1 e.2.2.2.1 hf hR hE hC)
theorem L_X12_inOrder_l6 {G : xG} {π : Nat → Nat} {d C Z : Nat} {Q : xQ} {s0 : (Nat × Int32 × Int32 × Int32 × xM)} {x : ((Int32 × xM) ⊕ (Int32 × xM))} (h1 : xloop (f_X12_inOrder_s6) xF s0 = some x) (hR : ∀ g, x = Sum.inl g → Q (.inl (some (.int g.1))) (g.2) π) (hE : ∀ e : (Int32 × xM), x = Sum.inr e → xMach G π J_X12_inOrder (d + 0) C Z 66 [(2, .int e.1)] [] e.2 Q) : xMach G π J_X12_inOrder (d + 0) C Z 6 [(0, .ref s0.1), (1, .int s0.2.1), (2, .int s0.2.2.1), (3, .int s0.2.2.2.1)] [] s0.2.2.2.2 Q := by
  refine xloop_run (M := (fun s : (Nat × Int32 × Int32 × Int32 × xM) => xMach G π J_X12_inOrder (d + 0) C Z 6 [(0, .ref s.1), (1, .int s.2.1), (2, .int s.2.2.1), (3, .int s.2.2.2.1)] [] s.2.2.2.2 Q)) (r := x) ?_ xF _ h1
  intro s y hs hx
  exact L_X12_inOrder_s6 s.2.2.2.2 s.1 s.2.1 s.2.2.1 s.2.2.2.1 (x := y) hs (fun g hg => by subst hg; exact hR g hx) (fun e he => by subst he; exact hE e hx) (fun e he => by subst he; exact hx)
def f_X12_inOrder_j66 (σ : xM) (l2 : Int32) : Option (Int32 × xM) :=
  some (l2, σ)
set_option maxHeartbeats 4000000 in
set_option maxRecDepth 20000 in
theorem L_X12_inOrder_j66 {G : xG} {π : Nat → Nat} {d C Z : Nat} {Q : xQ} (σ : xM) (l2 : Int32) {x : (Int32 × xM)} (hf : f_X12_inOrder_j66 σ l2 = some x) (hR : ∀ g, x = g → Q (.inl (some (.int g.1))) (g.2) π) : xMach G π J_X12_inOrder (d + 0) C Z 66 [(2, .int l2)] [] σ Q := by
  unfold f_X12_inOrder_j66 at hf
  refine xm_iload_n dX12_inOrder_66 rfl ?_
  cases hf
  exact xm_iret dX12_inOrder_67 rfl (hR _ rfl)
def f_X12_inOrder (σ : xM) (l0 : Nat) (l1 : Int32) : Option (Int32 × xM) :=
  xlet (0 : Int32) (fun v1 => xlet (l1 + (1 : Int32)) (fun v2 => (xloop (f_X12_inOrder_s6 ) xF (l0, l1, v1, v2, σ)).bind (Sum.elim (fun g => some g) (fun e => f_X12_inOrder_j66 e.2 e.1))))
set_option maxHeartbeats 4000000 in
set_option maxRecDepth 20000 in
theorem m_X12_inOrder {G : xG} {π : Nat → Nat} {d C Z : Nat} {Q : xQ} {σ : xM} {l0 : Nat} {l1 : Int32} {x : (Int32 × xM)} (hf : f_X12_inOrder σ l0 l1 = some x) (hR : ∀ g, x = g → Q (.inl (some (.int g.1))) (g.2) π) : xMach G π J_X12_inOrder (d + 0) C Z 0 (lv_args 0 [.ref l0, .int l1]) [] σ Q := by
  unfold f_X12_inOrder at hf
  refine xm_stL (L' := [(0, .ref l0), (1, .int l1)]) rfl ?_
  refine xm_iconst dX12_inOrder_0 (v := 0) (by decide) ?_
  refine xb_topi hf (fun v1 ev1 hf => ?_)
  refine xm_istore_n dX12_inOrder_1 (by decide) (xm_stL (L' := [(2, .int v1), (0, .ref l0), (1, .int l1)]) rfl ?_)
  refine xm_iload_n dX12_inOrder_2 rfl ?_
  refine xm_iconst dX12_inOrder_3 (v := 1) (by decide) ?_
  refine xm_iadd dX12_inOrder_4 ?_
  refine xb_topi hf (fun v2 ev2 hf => ?_)
  refine xm_istore_n dX12_inOrder_5 (by decide) (xm_stL (L' := [(3, .int v2), (2, .int v1), (0, .ref l0), (1, .int l1)]) rfl ?_)
  obtain ⟨o, h1, hf⟩ := xbind hf
  refine xm_sub [2, 3, 1, 0] rfl (L_X12_inOrder_l6  h1 (fun g hg => ?_) (fun e he => ?_))
  · subst hg
    cases hf
    exact hR _ rfl
  · subst he
    rw [Sum.elim_inr] at hf
    have hf : f_X12_inOrder_j66 e.2 e.1 = some _ := hf
    exact xm_sub [0] rfl (L_X12_inOrder_j66 e.2 e.1 hf hR)
-- RankwiseModel.signOf(I)I
def f_X12_signOf (σ : xM) (l0 : Int32) : Option Int32 :=
  (if l0 = (33 : Int32) then some (6 : Int32) else (if l0 = (35 : Int32) then some (14 : Int32) else (if l0 = (37 : Int32) then some (4 : Int32) else (if l0 = (38 : Int32) then some (7 : Int32) else (if l0 = (42 : Int32) then some (2 : Int32) else (if l0 = (43 : Int32) then some (0 : Int32) else (if l0 = (45 : Int32) then some (1 : Int32) else (if l0 = (47 : Int32) then some (3 : Int32) else (if l0 = (60 : Int32) then some (9 : Int32) else (if l0 = (61 : Int32) then some (11 : Int32) else (if l0 = (62 : Int32) then some (10 : Int32) else (if l0 = (63 : Int32) then some (15 : Int32) else (if l0 = (64 : Int32) then some (13 : Int32) else (if l0 = (94 : Int32) then some (5 : Int32) else (if l0 = (124 : Int32) then some (8 : Int32) else (if l0 = (126 : Int32) then some (12 : Int32) else some (-1 : Int32)))))))))))))))))
set_option maxHeartbeats 4000000 in
set_option maxRecDepth 20000 in
theorem m_X12_signOf {G : xG} {π : Nat → Nat} {d C Z : Nat} {Q : xQ} {σ : xM} {l0 : Int32} {x : Int32} (hf : f_X12_signOf σ l0 = some x) (hR : ∀ g, x = g → Q (.inl (some (.int g))) (σ) π) : xMach G π J_X12_signOf (d + 0) C Z 0 (lv_args 0 [.int l0]) [] σ Q := by
  unfold f_X12_signOf at hf
  refine xm_stL (L' := [(0, .int l0)]) rfl ?_
  refine xm_iload_n dX12_signOf_0 rfl ?_
  refine xb_if hf (fun c hf => ?_) (fun n0 hf => ?_)
  · refine xm_lookup (off := 151) 152 dX12_signOf_1 (by decide) (by rw [c] <;> rfl) (by decide) ?_
    refine xm_bipush dX12_signOf_152 (v := 6) (by decide) ?_
    cases hf
    exact xm_iret dX12_signOf_154 rfl (hR _ rfl)
  refine xb_if hf (fun c hf => ?_) (fun n1 hf => ?_)
  · refine xm_lookup (off := 175) 176 dX12_signOf_1 (by decide) (by rw [c] <;> rfl) (by decide) ?_
    refine xm_bipush dX12_signOf_176 (v := 14) (by decide) ?_
    cases hf
    exact xm_iret dX12_signOf_178 rfl (hR _ rfl)
  refine xb_if hf (fun c hf => ?_) (fun n2 hf => ?_)
  · refine xm_lookup (off := 147) 148 dX12_signOf_1 (by decide) (by rw [c] <;> rfl) (by decide) ?_
    refine xm_iconst dX12_signOf_148 (v := 4) (by decide) ?_
    cases hf
    exact xm_iret dX12_signOf_149 rfl (hR _ rfl)
  refine xb_if hf (fun c hf => ?_) (fun n3 hf => ?_)
  · refine xm_lookup (off := 154) 155 dX12_signOf_1 (by decide) (by rw [c] <;> rfl) (by decide) ?_
    refine xm_bipush dX12_signOf_155 (v := 7) (by decide) ?_
    cases hf
    exact xm_iret dX12_signOf_157 rfl (hR _ rfl)
  refine xb_if hf (fun c hf => ?_) (fun n4 hf => ?_)
  · refine xm_lookup (off := 143) 144 dX12_signOf_1 (by decide) (by rw [c] <;> rfl) (by decide) ?_
    refine xm_iconst dX12_signOf_144 (v := 2) (by decide) ?_
    cases hf
    exact xm_iret dX12_signOf_145 rfl (hR _ rfl)
  refine xb_if hf (fun c hf => ?_) (fun n5 hf => ?_)
  · refine xm_lookup (off := 139) 140 dX12_signOf_1 (by decide) (by rw [c] <;> rfl) (by decide) ?_
    refine xm_iconst dX12_signOf_140 (v := 0) (by decide) ?_
    cases hf
    exact xm_iret dX12_signOf_141 rfl (hR _ rfl)
  refine xb_if hf (fun c hf => ?_) (fun n6 hf => ?_)
  · refine xm_lookup (off := 141) 142 dX12_signOf_1 (by decide) (by rw [c] <;> rfl) (by decide) ?_
    refine xm_iconst dX12_signOf_142 (v := 1) (by decide) ?_
    cases hf
    exact xm_iret dX12_signOf_143 rfl (hR _ rfl)
  refine xb_if hf (fun c hf => ?_) (fun n7 hf => ?_)
  · refine xm_lookup (off := 145) 146 dX12_signOf_1 (by decide) (by rw [c] <;> rfl) (by decide) ?_
    refine xm_iconst dX12_signOf_146 (v := 3) (by decide) ?_
    cases hf
    exact xm_iret dX12_signOf_147 rfl (hR _ rfl)
  refine xb_if hf (fun c hf => ?_) (fun n8 hf => ?_)
  · refine xm_lookup (off := 160) 161 dX12_signOf_1 (by decide) (by rw [c] <;> rfl) (by decide) ?_
    refine xm_bipush dX12_signOf_161 (v := 9) (by decide) ?_
    cases hf
    exact xm_iret dX12_signOf_163 rfl (hR _ rfl)
  refine xb_if hf (fun c hf => ?_) (fun n9 hf => ?_)
  · refine xm_lookup (off := 166) 167 dX12_signOf_1 (by decide) (by rw [c] <;> rfl) (by decide) ?_
    refine xm_bipush dX12_signOf_167 (v := 11) (by decide) ?_
    cases hf
    exact xm_iret dX12_signOf_169 rfl (hR _ rfl)
  refine xb_if hf (fun c hf => ?_) (fun n10 hf => ?_)
  · refine xm_lookup (off := 163) 164 dX12_signOf_1 (by decide) (by rw [c] <;> rfl) (by decide) ?_
    refine xm_bipush dX12_signOf_164 (v := 10) (by decide) ?_
    cases hf
    exact xm_iret dX12_signOf_166 rfl (hR _ rfl)
  refine xb_if hf (fun c hf => ?_) (fun n11 hf => ?_)
  · refine xm_lookup (off := 178) 179 dX12_signOf_1 (by decide) (by rw [c] <;> rfl) (by decide) ?_
    refine xm_bipush dX12_signOf_179 (v := 15) (by decide) ?_
    cases hf
    exact xm_iret dX12_signOf_181 rfl (hR _ rfl)
  refine xb_if hf (fun c hf => ?_) (fun n12 hf => ?_)
  · refine xm_lookup (off := 172) 173 dX12_signOf_1 (by decide) (by rw [c] <;> rfl) (by decide) ?_
    refine xm_bipush dX12_signOf_173 (v := 13) (by decide) ?_
    cases hf
    exact xm_iret dX12_signOf_175 rfl (hR _ rfl)
  refine xb_if hf (fun c hf => ?_) (fun n13 hf => ?_)
  · refine xm_lookup (off := 149) 150 dX12_signOf_1 (by decide) (by rw [c] <;> rfl) (by decide) ?_
    refine xm_iconst dX12_signOf_150 (v := 5) (by decide) ?_
    cases hf
    exact xm_iret dX12_signOf_151 rfl (hR _ rfl)
  refine xb_if hf (fun c hf => ?_) (fun n14 hf => ?_)
  · refine xm_lookup (off := 157) 158 dX12_signOf_1 (by decide) (by rw [c] <;> rfl) (by decide) ?_
    refine xm_bipush dX12_signOf_158 (v := 8) (by decide) ?_
    cases hf
    exact xm_iret dX12_signOf_160 rfl (hR _ rfl)
  refine xb_if hf (fun c hf => ?_) (fun n15 hf => ?_)
  · refine xm_lookup (off := 169) 170 dX12_signOf_1 (by decide) (by rw [c] <;> rfl) (by decide) ?_
    refine xm_bipush dX12_signOf_170 (v := 12) (by decide) ?_
    cases hf
    exact xm_iret dX12_signOf_172 rfl (hR _ rfl)
  refine xm_lookup (off := 181) 182 dX12_signOf_1 (by decide) (by refine (lv_osw n0 (by decide)).trans ?_; refine (lv_osw n1 (by decide)).trans ?_; refine (lv_osw n2 (by decide)).trans ?_; refine (lv_osw n3 (by decide)).trans ?_; refine (lv_osw n4 (by decide)).trans ?_; refine (lv_osw n5 (by decide)).trans ?_; refine (lv_osw n6 (by decide)).trans ?_; refine (lv_osw n7 (by decide)).trans ?_; refine (lv_osw n8 (by decide)).trans ?_; refine (lv_osw n9 (by decide)).trans ?_; refine (lv_osw n10 (by decide)).trans ?_; refine (lv_osw n11 (by decide)).trans ?_; refine (lv_osw n12 (by decide)).trans ?_; refine (lv_osw n13 (by decide)).trans ?_; refine (lv_osw n14 (by decide)).trans ?_; refine (lv_osw n15 (by decide)).trans ?_; rfl) (by decide) ?_
  refine xm_iconst dX12_signOf_182 (v := -1) (by decide) ?_
  cases hf
  exact xm_iret dX12_signOf_183 rfl (hR _ rfl)
-- RankwiseModel.tellFirst(IIIII)V
def f_X12_tellFirst (σ : xM) (l0 : Nat) (l1 : Int32) (l2 : Int32) (l3 : Int32) (l4 : Int32) (l5 : Int32) : Option xM :=
  (gR σ l0 12 15).bind (fun x1 => (f_X12_signOf σ l1).bind (fun p2 => (wI σ x1 (((3 : Int32) * p2) + l2) l3).bind (fun σ3 => (gR σ3 l0 12 16).bind (fun x4 => (f_X12_signOf σ3 l1).bind (fun p5 => (wI σ3 x4 (((3 : Int32) * p5) + l2) l4).bind (fun σ6 => (gR σ6 l0 12 17).bind (fun x7 => (f_X12_signOf σ6 l1).bind (fun p8 => (wI σ6 x7 (((3 : Int32) * p8) + l2) l5).bind (fun σ9 => some σ9)))))))))
set_option maxHeartbeats 4000000 in
set_option maxRecDepth 20000 in
theorem m_X12_tellFirst {G : xG} {π : Nat → Nat} {d C Z : Nat} {Q : xQ} {σ : xM} {l0 : Nat} {l1 : Int32} {l2 : Int32} {l3 : Int32} {l4 : Int32} {l5 : Int32} {x : xM} (hf : f_X12_tellFirst σ l0 l1 l2 l3 l4 l5 = some x) (hR : ∀ g, x = g → Q (.inl none) (g) π) : xMach G π J_X12_tellFirst (d + 1) C Z 0 (lv_args 0 [.ref l0, .int l1, .int l2, .int l3, .int l4, .int l5]) [] σ Q := by
  unfold f_X12_tellFirst at hf
  refine xm_stL (L' := [(0, .ref l0), (1, .int l1), (2, .int l2), (3, .int l3), (4, .int l4), (5, .int l5)]) rfl ?_
  refine xm_aload_n dX12_tellFirst_0 rfl ?_
  refine xb_getR (a := l0) (c := 12) (k := 15) dX12_tellFirst_1 xcl12 (by decide) xw_1852 rfl hf (fun x1 ex1 hf => ?_)
  refine xm_iconst dX12_tellFirst_4 (v := 3) (by decide) ?_
  refine xm_iload_n dX12_tellFirst_5 rfl ?_
  obtain ⟨p2, ep2, hf⟩ := xbind hf
  refine xb_callS (As := [.int l1]) (v0 := (some (.int p2))) (τ0 := σ) dX12_tellFirst_6 (xc_X12_signOf _ _) xw_1817 xw_1818 rfl (Nat.le_of_ble_eq_true rfl) rfl (Nat.le_of_ble_eq_true rfl) (fun Q1 hq => m_X12_signOf (d := d + 0) ep2 (fun g hg => by subst hg; exact hq)) ?_
  refine xm_imul dX12_tellFirst_9 ?_
  refine xm_iload_n dX12_tellFirst_10 rfl ?_
  refine xm_iadd dX12_tellFirst_11 ?_
  refine xm_iload_n dX12_tellFirst_12 rfl ?_
  refine xb_iast dX12_tellFirst_13 hf (fun σ3 eσ3 hf => ?_)
  refine xm_aload_n dX12_tellFirst_14 rfl ?_
  refine xb_getR (a := l0) (c := 12) (k := 16) dX12_tellFirst_15 xcl12 (by decide) xw_1853 rfl hf (fun x4 ex4 hf => ?_)
  refine xm_iconst dX12_tellFirst_18 (v := 3) (by decide) ?_
  refine xm_iload_n dX12_tellFirst_19 rfl ?_
  obtain ⟨p5, ep5, hf⟩ := xbind hf
  refine xb_callS (As := [.int l1]) (v0 := (some (.int p5))) (τ0 := σ3) dX12_tellFirst_20 (xc_X12_signOf _ _) xw_1817 xw_1818 rfl (Nat.le_of_ble_eq_true rfl) rfl (Nat.le_of_ble_eq_true rfl) (fun Q1 hq => m_X12_signOf (d := d + 0) ep5 (fun g hg => by subst hg; exact hq)) ?_
  refine xm_imul dX12_tellFirst_23 ?_
  refine xm_iload_n dX12_tellFirst_24 rfl ?_
  refine xm_iadd dX12_tellFirst_25 ?_
  refine xm_iload dX12_tellFirst_26 rfl ?_
  refine xb_iast dX12_tellFirst_28 hf (fun σ6 eσ6 hf => ?_)
  refine xm_aload_n dX12_tellFirst_29 rfl ?_
  refine xb_getR (a := l0) (c := 12) (k := 17) dX12_tellFirst_30 xcl12 (by decide) xw_1854 rfl hf (fun x7 ex7 hf => ?_)
  refine xm_iconst dX12_tellFirst_33 (v := 3) (by decide) ?_
  refine xm_iload_n dX12_tellFirst_34 rfl ?_
  obtain ⟨p8, ep8, hf⟩ := xbind hf
  refine xb_callS (As := [.int l1]) (v0 := (some (.int p8))) (τ0 := σ6) dX12_tellFirst_35 (xc_X12_signOf _ _) xw_1817 xw_1818 rfl (Nat.le_of_ble_eq_true rfl) rfl (Nat.le_of_ble_eq_true rfl) (fun Q1 hq => m_X12_signOf (d := d + 0) ep8 (fun g hg => by subst hg; exact hq)) ?_
  refine xm_imul dX12_tellFirst_38 ?_
  refine xm_iload_n dX12_tellFirst_39 rfl ?_
  refine xm_iadd dX12_tellFirst_40 ?_
  refine xm_iload dX12_tellFirst_41 rfl ?_
  refine xb_iast dX12_tellFirst_43 hf (fun σ9 eσ9 hf => ?_)
  cases hf
  exact xm_vret dX12_tellFirst_44 rfl (hR _ rfl)
-- RankwiseModel.rankOf(II)I
def f_X12_rankOf (σ : xM) (l0 : Nat) (l1 : Int32) (l2 : Int32) : Option Int32 :=
  (gR σ l0 12 15).bind (fun x1 => (f_X12_signOf σ l1).bind (fun p2 => (aI σ x1 14 (((3 : Int32) * p2) + l2)).bind (fun x3 => some x3)))
set_option maxHeartbeats 4000000 in
set_option maxRecDepth 20000 in
theorem m_X12_rankOf {G : xG} {π : Nat → Nat} {d C Z : Nat} {Q : xQ} {σ : xM} {l0 : Nat} {l1 : Int32} {l2 : Int32} {x : Int32} (hf : f_X12_rankOf σ l0 l1 l2 = some x) (hR : ∀ g, x = g → Q (.inl (some (.int g))) (σ) π) : xMach G π J_X12_rankOf (d + 1) C Z 0 (lv_args 0 [.ref l0, .int l1, .int l2]) [] σ Q := by
  unfold f_X12_rankOf at hf
  refine xm_stL (L' := [(0, .ref l0), (1, .int l1), (2, .int l2)]) rfl ?_
  refine xm_aload_n dX12_rankOf_0 rfl ?_
  refine xb_getR (a := l0) (c := 12) (k := 15) dX12_rankOf_1 xcl12 (by decide) xw_1852 rfl hf (fun x1 ex1 hf => ?_)
  refine xm_iconst dX12_rankOf_4 (v := 3) (by decide) ?_
  refine xm_iload_n dX12_rankOf_5 rfl ?_
  obtain ⟨p2, ep2, hf⟩ := xbind hf
  refine xb_callS (As := [.int l1]) (v0 := (some (.int p2))) (τ0 := σ) dX12_rankOf_6 (xc_X12_signOf _ _) xw_1817 xw_1818 rfl (Nat.le_of_ble_eq_true rfl) rfl (Nat.le_of_ble_eq_true rfl) (fun Q1 hq => m_X12_signOf (d := d + 0) ep2 (fun g hg => by subst hg; exact hq)) ?_
  refine xm_imul dX12_rankOf_9 ?_
  refine xm_iload_n dX12_rankOf_10 rfl ?_
  refine xm_iadd dX12_rankOf_11 ?_
  refine xb_iald dX12_rankOf_12 hf (fun x3 ex3 hf => ?_)
  cases hf
  exact xm_iret dX12_rankOf_13 rfl (hR _ rfl)
-- RankwiseModel.meaningAt(I)I
def f_X12_meaningAt_j37 (σ : xM) (s0 : Int32) : Option Int32 :=
  some s0
set_option maxHeartbeats 4000000 in
set_option maxRecDepth 20000 in
theorem L_X12_meaningAt_j37 {G : xG} {π : Nat → Nat} {d C Z : Nat} {Q : xQ} (σ : xM) (s0 : Int32) {x : Int32} (hf : f_X12_meaningAt_j37 σ s0 = some x) (hR : ∀ g, x = g → Q (.inl (some (.int g))) (σ) π) : xMach G π J_X12_meaningAt (d + 1) C Z 37 [] [.int s0] σ Q := by
  unfold f_X12_meaningAt_j37 at hf
  cases hf
  exact xm_iret dX12_meaningAt_37 rfl (hR _ rfl)
def f_X12_meaningAt (σ : xM) (l0 : Nat) (l1 : Int32) : Option Int32 :=
  (gR σ l0 12 4).bind (fun x1 => (aI σ x1 14 l1).bind (fun x2 => (if x2 = (3 : Int32) then (gR σ l0 12 17).bind (fun x3 => (gR σ l0 12 5).bind (fun x4 => (aI σ x4 14 l1).bind (fun x5 => (f_X12_signOf σ x5).bind (fun p6 => (gR σ l0 12 6).bind (fun x7 => (aI σ x7 14 l1).bind (fun x8 => (aI σ x3 14 (((3 : Int32) * p6) + x8)).bind (fun x9 => f_X12_meaningAt_j37 σ x9))))))) else f_X12_meaningAt_j37 σ (-1 : Int32))))
set_option maxHeartbeats 4000000 in
set_option maxRecDepth 20000 in
theorem m_X12_meaningAt {G : xG} {π : Nat → Nat} {d C Z : Nat} {Q : xQ} {σ : xM} {l0 : Nat} {l1 : Int32} {x : Int32} (hf : f_X12_meaningAt σ l0 l1 = some x) (hR : ∀ g, x = g → Q (.inl (some (.int g))) (σ) π) : xMach G π J_X12_meaningAt (d + 1) C Z 0 (lv_args 0 [.ref l0, .int l1]) [] σ Q := by
  unfold f_X12_meaningAt at hf
  refine xm_stL (L' := [(0, .ref l0), (1, .int l1)]) rfl ?_
  refine xm_aload_n dX12_meaningAt_0 rfl ?_
  refine xb_getR (a := l0) (c := 12) (k := 4) dX12_meaningAt_1 xcl12 (by decide) xw_1841 rfl hf (fun x1 ex1 hf => ?_)
  refine xm_iload_n dX12_meaningAt_4 rfl ?_
  refine xb_iald dX12_meaningAt_5 hf (fun x2 ex2 hf => ?_)
  refine xm_iconst dX12_meaningAt_6 (v := 3) (by decide) ?_
  refine xb_icmp_ne 36 dX12_meaningAt_7 (by decide) hf (fun c hf => ?_) (fun c hf => ?_)
  · refine xm_iconst dX12_meaningAt_36 (v := -1) (by decide) ?_
    exact xm_sub [] rfl (L_X12_meaningAt_j37 σ (-1 : Int32) hf hR)
  · refine xm_aload_n dX12_meaningAt_10 rfl ?_
    refine xb_getR (a := l0) (c := 12) (k := 17) dX12_meaningAt_11 xcl12 (by decide) xw_1854 rfl hf (fun x3 ex3 hf => ?_)
    refine xm_iconst dX12_meaningAt_14 (v := 3) (by decide) ?_
    refine xm_aload_n dX12_meaningAt_15 rfl ?_
    refine xb_getR (a := l0) (c := 12) (k := 5) dX12_meaningAt_16 xcl12 (by decide) xw_1842 rfl hf (fun x4 ex4 hf => ?_)
    refine xm_iload_n dX12_meaningAt_19 rfl ?_
    refine xb_iald dX12_meaningAt_20 hf (fun x5 ex5 hf => ?_)
    obtain ⟨p6, ep6, hf⟩ := xbind hf
    refine xb_callS (As := [.int x5]) (v0 := (some (.int p6))) (τ0 := σ) dX12_meaningAt_21 (xc_X12_signOf _ _) xw_1817 xw_1818 rfl (Nat.le_of_ble_eq_true rfl) rfl (Nat.le_of_ble_eq_true rfl) (fun Q1 hq => m_X12_signOf (d := d + 0) ep6 (fun g hg => by subst hg; exact hq)) ?_
    refine xm_imul dX12_meaningAt_24 ?_
    refine xm_aload_n dX12_meaningAt_25 rfl ?_
    refine xb_getR (a := l0) (c := 12) (k := 6) dX12_meaningAt_26 xcl12 (by decide) xw_1843 rfl hf (fun x7 ex7 hf => ?_)
    refine xm_iload_n dX12_meaningAt_29 rfl ?_
    refine xb_iald dX12_meaningAt_30 hf (fun x8 ex8 hf => ?_)
    refine xm_iadd dX12_meaningAt_31 ?_
    refine xb_iald dX12_meaningAt_32 hf (fun x9 ex9 hf => ?_)
    refine xm_goto 37 dX12_meaningAt_33 (by decide) ?_
    exact xm_sub [] rfl (L_X12_meaningAt_j37 σ x9 hf hR)
-- RankwiseModel.word(III)V
def f_X12_word (σ : xM) (l0 : Nat) (l1 : Int32) (l2 : Int32) (l3 : Int32) : Option xM :=
  (gR σ l0 12 20).bind (fun x1 => (gI σ l0 12 25).bind (fun x2 => (wI σ x1 x2 l1).bind (fun σ3 => (gR σ3 l0 12 21).bind (fun x4 => (gI σ3 l0 12 25).bind (fun x5 => (wI σ3 x4 x5 l2).bind (fun σ6 => (gR σ6 l0 12 22).bind (fun x7 => (gI σ6 l0 12 25).bind (fun x8 => (wI σ6 x7 x8 l3).bind (fun σ9 => (gR σ9 l0 12 23).bind (fun x10 => (gI σ9 l0 12 25).bind (fun x11 => (wI σ9 x10 x11 (-1 : Int32)).bind (fun σ12 => (gR σ12 l0 12 24).bind (fun x13 => (gI σ12 l0 12 25).bind (fun x14 => (wZ σ12 x13 x14 (0 : Int32)).bind (fun σ15 => (gI σ15 l0 12 25).bind (fun x16 => (sI σ15 l0 12 25 (x16 + (1 : Int32))).bind (fun σ17 => some σ17)))))))))))))))))
set_option maxHeartbeats 4000000 in
set_option maxRecDepth 20000 in
theorem m_X12_word {G : xG} {π : Nat → Nat} {d C Z : Nat} {Q : xQ} {σ : xM} {l0 : Nat} {l1 : Int32} {l2 : Int32} {l3 : Int32} {x : xM} (hf : f_X12_word σ l0 l1 l2 l3 = some x) (hR : ∀ g, x = g → Q (.inl none) (g) π) : xMach G π J_X12_word (d + 0) C Z 0 (lv_args 0 [.ref l0, .int l1, .int l2, .int l3]) [] σ Q := by
  unfold f_X12_word at hf
  refine xm_stL (L' := [(0, .ref l0), (1, .int l1), (2, .int l2), (3, .int l3)]) rfl ?_
  refine xm_aload_n dX12_word_0 rfl ?_
  refine xb_getR (a := l0) (c := 12) (k := 20) dX12_word_1 xcl12 (by decide) xw_1857 rfl hf (fun x1 ex1 hf => ?_)
  refine xm_aload_n dX12_word_4 rfl ?_
  refine xb_getI (a := l0) (c := 12) (k := 25) dX12_word_5 xcl12 (by decide) xw_1862 rfl hf (fun x2 ex2 hf => ?_)
  refine xm_iload_n dX12_word_8 rfl ?_
  refine xb_iast dX12_word_9 hf (fun σ3 eσ3 hf => ?_)
  refine xm_aload_n dX12_word_10 rfl ?_
  refine xb_getR (a := l0) (c := 12) (k := 21) dX12_word_11 xcl12 (by decide) xw_1858 rfl hf (fun x4 ex4 hf => ?_)
  refine xm_aload_n dX12_word_14 rfl ?_
  refine xb_getI (a := l0) (c := 12) (k := 25) dX12_word_15 xcl12 (by decide) xw_1862 rfl hf (fun x5 ex5 hf => ?_)
  refine xm_iload_n dX12_word_18 rfl ?_
  refine xb_iast dX12_word_19 hf (fun σ6 eσ6 hf => ?_)
  refine xm_aload_n dX12_word_20 rfl ?_
  refine xb_getR (a := l0) (c := 12) (k := 22) dX12_word_21 xcl12 (by decide) xw_1859 rfl hf (fun x7 ex7 hf => ?_)
  refine xm_aload_n dX12_word_24 rfl ?_
  refine xb_getI (a := l0) (c := 12) (k := 25) dX12_word_25 xcl12 (by decide) xw_1862 rfl hf (fun x8 ex8 hf => ?_)
  refine xm_iload_n dX12_word_28 rfl ?_
  refine xb_iast dX12_word_29 hf (fun σ9 eσ9 hf => ?_)
  refine xm_aload_n dX12_word_30 rfl ?_
  refine xb_getR (a := l0) (c := 12) (k := 23) dX12_word_31 xcl12 (by decide) xw_1860 rfl hf (fun x10 ex10 hf => ?_)
  refine xm_aload_n dX12_word_34 rfl ?_
  refine xb_getI (a := l0) (c := 12) (k := 25) dX12_word_35 xcl12 (by decide) xw_1862 rfl hf (fun x11 ex11 hf => ?_)
  refine xm_iconst dX12_word_38 (v := -1) (by decide) ?_
  refine xb_iast dX12_word_39 hf (fun σ12 eσ12 hf => ?_)
  refine xm_aload_n dX12_word_40 rfl ?_
  refine xb_getR (a := l0) (c := 12) (k := 24) dX12_word_41 xcl12 (by decide) xw_1861 rfl hf (fun x13 ex13 hf => ?_)
  refine xm_aload_n dX12_word_44 rfl ?_
  refine xb_getI (a := l0) (c := 12) (k := 25) dX12_word_45 xcl12 (by decide) xw_1862 rfl hf (fun x14 ex14 hf => ?_)
  refine xm_iconst dX12_word_48 (v := 0) (by decide) ?_
  refine xb_zast dX12_word_49 hf (fun σ15 eσ15 hf => ?_)
  refine xm_aload_n dX12_word_50 rfl ?_
  refine xm_dup dX12_word_51 rfl ?_
  refine xb_getI (a := l0) (c := 12) (k := 25) dX12_word_52 xcl12 (by decide) xw_1862 rfl hf (fun x16 ex16 hf => ?_)
  refine xm_iconst dX12_word_55 (v := 1) (by decide) ?_
  refine xm_iadd dX12_word_56 ?_
  refine xb_putI (a := l0) (c := 12) (k := 25) dX12_word_57 xcl12 (by decide) xw_1862 rfl rfl hf (fun σ17 eσ17 hf => ?_)
  cases hf
  exact xm_vret dX12_word_60 rfl (hR _ rfl)
-- RankwiseModel.digit(II)I
def f_X12_digit_j51 (σ : xM) (s0 : Int32) : Option Int32 :=
  some s0
set_option maxHeartbeats 4000000 in
set_option maxRecDepth 20000 in
theorem L_X12_digit_j51 {G : xG} {π : Nat → Nat} {d C Z : Nat} {Q : xQ} (σ : xM) (s0 : Int32) {x : Int32} (hf : f_X12_digit_j51 σ s0 = some x) (hR : ∀ g, x = g → Q (.inl (some (.int g))) (σ) π) : xMach G π J_X12_digit (d + 1) C Z 51 [] [.int s0] σ Q := by
  unfold f_X12_digit_j51 at hf
  cases hf
  exact xm_iret dX12_digit_51 rfl (hR _ rfl)
def f_X12_digit_j40 (σ : xM) (l1 : Int32) (s0 : Int32) : Option Int32 :=
  (if l1 ≤ s0 then f_X12_digit_j51 σ (-1 : Int32) else f_X12_digit_j51 σ s0)
set_option maxHeartbeats 4000000 in
set_option maxRecDepth 20000 in
theorem L_X12_digit_j40 {G : xG} {π : Nat → Nat} {d C Z : Nat} {Q : xQ} (σ : xM) (l1 : Int32) (s0 : Int32) {x : Int32} (hf : f_X12_digit_j40 σ l1 s0 = some x) (hR : ∀ g, x = g → Q (.inl (some (.int g))) (σ) π) : xMach G π J_X12_digit (d + 1) C Z 40 [(1, .int l1)] [.int s0] σ Q := by
  unfold f_X12_digit_j40 at hf
  refine xm_istore_n dX12_digit_40 (by decide) (xm_stL (L' := [(2, .int s0), (1, .int l1)]) rfl ?_)
  refine xm_iload_n dX12_digit_41 rfl ?_
  refine xm_iload_n dX12_digit_42 rfl ?_
  refine xb_icmp_ge 50 dX12_digit_43 (by decide) hf (fun c hf => ?_) (fun c hf => ?_)
  · refine xm_iconst dX12_digit_50 (v := -1) (by decide) ?_
    exact xm_sub [] rfl (L_X12_digit_j51 σ (-1 : Int32) hf hR)
  · refine xm_iload_n dX12_digit_46 rfl ?_
    refine xm_goto 51 dX12_digit_47 (by decide) ?_
    exact xm_sub [] rfl (L_X12_digit_j51 σ s0 hf hR)
def f_X12_digit (σ : xM) (l0 : Int32) (l1 : Int32) : Option Int32 :=
  (f_X12_in σ l0 (48 : Int32) (57 : Int32)).bind (fun p1 => (if p1 = (0 : Int32) then (f_X12_in σ l0 (97 : Int32) (102 : Int32)).bind (fun p2 => (if p2 = (0 : Int32) then f_X12_digit_j40 σ l1 (-1 : Int32) else f_X12_digit_j40 σ l1 ((l0 - (97 : Int32)) + (10 : Int32)))) else f_X12_digit_j40 σ l1 (l0 - (48 : Int32))))
set_option maxHeartbeats 4000000 in
set_option maxRecDepth 20000 in
theorem m_X12_digit {G : xG} {π : Nat → Nat} {d C Z : Nat} {Q : xQ} {σ : xM} {l0 : Int32} {l1 : Int32} {x : Int32} (hf : f_X12_digit σ l0 l1 = some x) (hR : ∀ g, x = g → Q (.inl (some (.int g))) (σ) π) : xMach G π J_X12_digit (d + 1) C Z 0 (lv_args 0 [.int l0, .int l1]) [] σ Q := by
  unfold f_X12_digit at hf
  refine xm_stL (L' := [(0, .int l0), (1, .int l1)]) rfl ?_
  refine xm_iload_n dX12_digit_0 rfl ?_
  refine xm_bipush dX12_digit_1 (v := 48) (by decide) ?_
  refine xm_bipush dX12_digit_3 (v := 57) (by decide) ?_
  obtain ⟨p1, ep1, hf⟩ := xbind hf
  refine xb_callS (As := [.int l0, .int (48 : Int32), .int (57 : Int32)]) (v0 := (some (.int p1))) (τ0 := σ) dX12_digit_5 (xc_X12_in _ _) xw_2132 xw_2133 rfl (Nat.le_of_ble_eq_true rfl) rfl (Nat.le_of_ble_eq_true rfl) (fun Q1 hq => m_X12_in (d := d + 0) ep1 (fun g hg => by subst hg; exact hq)) ?_
  refine xb_if_eq 18 dX12_digit_8 (by decide) hf (fun c hf => ?_) (fun c hf => ?_)
  · refine xm_iload_n dX12_digit_18 rfl ?_
    refine xm_bipush dX12_digit_19 (v := 97) (by decide) ?_
    refine xm_bipush dX12_digit_21 (v := 102) (by decide) ?_
    obtain ⟨p2, ep2, hf⟩ := xbind hf
    refine xb_callS (As := [.int l0, .int (97 : Int32), .int (102 : Int32)]) (v0 := (some (.int p2))) (τ0 := σ) dX12_digit_23 (xc_X12_in _ _) xw_2132 xw_2133 rfl (Nat.le_of_ble_eq_true rfl) rfl (Nat.le_of_ble_eq_true rfl) (fun Q1 hq => m_X12_in (d := d + 0) ep2 (fun g hg => by subst hg; exact hq)) ?_
    refine xb_if_eq 39 dX12_digit_26 (by decide) hf (fun c hf => ?_) (fun c hf => ?_)
    · refine xm_iconst dX12_digit_39 (v := -1) (by decide) ?_
      exact xm_sub [1] rfl (L_X12_digit_j40 σ l1 (-1 : Int32) hf hR)
    · refine xm_iload_n dX12_digit_29 rfl ?_
      refine xm_bipush dX12_digit_30 (v := 97) (by decide) ?_
      refine xm_isub dX12_digit_32 ?_
      refine xm_bipush dX12_digit_33 (v := 10) (by decide) ?_
      refine xm_iadd dX12_digit_35 ?_
      refine xm_goto 40 dX12_digit_36 (by decide) ?_
      exact xm_sub [1] rfl (L_X12_digit_j40 σ l1 ((l0 - (97 : Int32)) + (10 : Int32)) hf hR)
  · refine xm_iload_n dX12_digit_11 rfl ?_
    refine xm_bipush dX12_digit_12 (v := 48) (by decide) ?_
    refine xm_isub dX12_digit_14 ?_
    refine xm_goto 40 dX12_digit_15 (by decide) ?_
    exact xm_sub [1] rfl (L_X12_digit_j40 σ l1 (l0 - (48 : Int32)) hf hR)
-- RankwiseModel.typedAt(I)I
def f_X12_typedAt_j18 (σ : xM) (s0 : Int32) : Option Int32 :=
  some s0
set_option maxHeartbeats 4000000 in
set_option maxRecDepth 20000 in
theorem L_X12_typedAt_j18 {G : xG} {π : Nat → Nat} {d C Z : Nat} {Q : xQ} (σ : xM) (s0 : Int32) {x : Int32} (hf : f_X12_typedAt_j18 σ s0 = some x) (hR : ∀ g, x = g → Q (.inl (some (.int g))) (σ) π) : xMach G π J_X12_typedAt (d + 0) C Z 18 [] [.int s0] σ Q := by
  unfold f_X12_typedAt_j18 at hf
  cases hf
  exact xm_iret dX12_typedAt_18 rfl (hR _ rfl)
def f_X12_typedAt (σ : xM) (l0 : Nat) (l1 : Int32) : Option Int32 :=
  (gI σ l0 12 19).bind (fun x1 => (if x1 ≤ l1 then f_X12_typedAt_j18 σ (-1 : Int32) else (gR σ l0 12 18).bind (fun x2 => (aI σ x2 14 l1).bind (fun x3 => f_X12_typedAt_j18 σ x3))))
set_option maxHeartbeats 4000000 in
set_option maxRecDepth 20000 in
theorem m_X12_typedAt {G : xG} {π : Nat → Nat} {d C Z : Nat} {Q : xQ} {σ : xM} {l0 : Nat} {l1 : Int32} {x : Int32} (hf : f_X12_typedAt σ l0 l1 = some x) (hR : ∀ g, x = g → Q (.inl (some (.int g))) (σ) π) : xMach G π J_X12_typedAt (d + 0) C Z 0 (lv_args 0 [.ref l0, .int l1]) [] σ Q := by
  unfold f_X12_typedAt at hf
  refine xm_stL (L' := [(0, .ref l0), (1, .int l1)]) rfl ?_
  refine xm_iload_n dX12_typedAt_0 rfl ?_
  refine xm_aload_n dX12_typedAt_1 rfl ?_
  refine xb_getI (a := l0) (c := 12) (k := 19) dX12_typedAt_2 xcl12 (by decide) xw_1856 rfl hf (fun x1 ex1 hf => ?_)
  refine xb_icmp_ge 17 dX12_typedAt_5 (by decide) hf (fun c hf => ?_) (fun c hf => ?_)
  · refine xm_iconst dX12_typedAt_17 (v := -1) (by decide) ?_
    exact xm_sub [] rfl (L_X12_typedAt_j18 σ (-1 : Int32) hf hR)
  · refine xm_aload_n dX12_typedAt_8 rfl ?_
    refine xb_getR (a := l0) (c := 12) (k := 18) dX12_typedAt_9 xcl12 (by decide) xw_1855 rfl hf (fun x2 ex2 hf => ?_)
    refine xm_iload_n dX12_typedAt_12 rfl ?_
    refine xb_iald dX12_typedAt_13 hf (fun x3 ex3 hf => ?_)
    refine xm_goto 18 dX12_typedAt_14 (by decide) ?_
    exact xm_sub [] rfl (L_X12_typedAt_j18 σ x3 hf hR)
-- RankwiseModel.number(I)I
def f_X12_number_s95 (σ : xM) (s : (Nat × Int32 × Int32 × Int32 × Int32 × Int32 × Int32)) : Option ((Int32 × xM) ⊕ ((Nat × Int32 × Int32 × Int32 × Int32) ⊕ (Nat × Int32 × Int32 × Int32 × Int32 × Int32 × Int32))) :=
  xlet s.1 (fun l0 => xlet s.2.1 (fun l1 => xlet s.2.2.1 (fun l3 => xlet s.2.2.2.1 (fun l4 => xlet s.2.2.2.2.1 (fun l5 => xlet s.2.2.2.2.2.1 (fun l6 => xlet s.2.2.2.2.2.2 (fun l7 => (if l5 ≤ (l4 - l6) then some (Sum.inr (Sum.inl (l0, l1, l4, l6, l7))) else (gI σ l0 12 19).bind (fun x4 => (if x4 ≤ l4 then some (Sum.inr (Sum.inl (l0, l1, l4, l6, l7))) else (gR σ l0 12 18).bind (fun x5 => (aI σ x5 14 l4).bind (fun x6 => (f_X12_digit σ x6 l3).bind (fun p7 => (if p7 < (0 : Int32) then some (Sum.inr (Sum.inl (l0, l1, l4, l6, l7))) else (gR σ l0 12 18).bind (fun x8 => (aI σ x8 14 l4).bind (fun x9 => (f_X12_digit σ x9 l3).bind (fun p10 => xlet ((l3 * l7) + p10) (fun v11 => xlet (l4 + (1 : Int32)) (fun v12 => some (Sum.inr (Sum.inr (l0, l1, l3, v12, l5, l6, v11))))))))))))))))))))))
set_option maxHeartbeats 4000000 in
set_option maxRecDepth 20000 in
theorem L_X12_number_s95 {G : xG} {π : Nat → Nat} {d C Z : Nat} {Q : xQ} (σ : xM) (l0 : Nat) (l1 : Int32) (l3 : Int32) (l4 : Int32) (l5 : Int32) (l6 : Int32) (l7 : Int32) {x : ((Int32 × xM) ⊕ ((Nat × Int32 × Int32 × Int32 × Int32) ⊕ (Nat × Int32 × Int32 × Int32 × Int32 × Int32 × Int32)))} (hf : f_X12_number_s95 σ (l0, l1, l3, l4, l5, l6, l7) = some x) (hR : ∀ g, x = Sum.inl (g) → Q (.inl (some (.int g.1))) (g.2) π) (hE : ∀ e : (Nat × Int32 × Int32 × Int32 × Int32), x = Sum.inr (Sum.inl e) → xMach G π J_X12_number (d + 2) C Z 152 [(0, .ref e.1), (1, .int e.2.1), (4, .int e.2.2.1), (6, .int e.2.2.2.1), (7, .int e.2.2.2.2)] [] σ Q) (hC : ∀ e : (Nat × Int32 × Int32 × Int32 × Int32 × Int32 × Int32), x = Sum.inr (Sum.inr e) → xMach G π J_X12_number (d + 2) C Z 95 [(0, .ref e.1), (1, .int e.2.1), (3, .int e.2.2.1), (4, .int e.2.2.2.1), (5, .int e.2.2.2.2.1), (6, .int e.2.2.2.2.2.1), (7, .int e.2.2.2.2.2.2)] [] σ Q) : xMach G π J_X12_number (d + 2) C Z 95 [(0, .ref l0), (1, .int l1), (3, .int l3), (4, .int l4), (5, .int l5), (6, .int l6), (7, .int l7)] [] σ Q := by
  have hf : (if l5 ≤ (l4 - l6) then some (Sum.inr (Sum.inl (l0, l1, l4, l6, l7))) else (gI σ l0 12 19).bind (fun x4 => (if x4 ≤ l4 then some (Sum.inr (Sum.inl (l0, l1, l4, l6, l7))) else (gR σ l0 12 18).bind (fun x5 => (aI σ x5 14 l4).bind (fun x6 => (f_X12_digit σ x6 l3).bind (fun p7 => (if p7 < (0 : Int32) then some (Sum.inr (Sum.inl (l0, l1, l4, l6, l7))) else (gR σ l0 12 18).bind (fun x8 => (aI σ x8 14 l4).bind (fun x9 => (f_X12_digit σ x9 l3).bind (fun p10 => xlet ((l3 * l7) + p10) (fun v11 => xlet (l4 + (1 : Int32)) (fun v12 => some (Sum.inr (Sum.inr (l0, l1, l3, v12, l5, l6, v11))))))))))))))) = some x := hf
  refine xm_iload dX12_number_95 rfl ?_
  refine xm_iload dX12_number_97 rfl ?_
  refine xm_isub dX12_number_99 ?_
  refine xm_iload dX12_number_100 rfl ?_
  refine xb_icmp_ge 152 dX12_number_102 (by decide) hf (fun c hf => ?_) (fun c hf => ?_)
  · cases hf
    exact xm_sub [0, 1, 3, 5, 6] rfl (hE _ rfl)
  · refine xm_iload dX12_number_105 rfl ?_
    refine xm_aload_n dX12_number_107 rfl ?_
    refine xb_getI (a := l0) (c := 12) (k := 19) dX12_number_108 xcl12 (by decide) xw_1856 rfl hf (fun x4 ex4 hf => ?_)
    refine xb_icmp_ge 152 dX12_number_111 (by decide) hf (fun c hf => ?_) (fun c hf => ?_)
    · cases hf
      exact xm_sub [0, 1, 3, 5, 6] rfl (hE _ rfl)
    · refine xm_aload_n dX12_number_114 rfl ?_
      refine xb_getR (a := l0) (c := 12) (k := 18) dX12_number_115 xcl12 (by decide) xw_1855 rfl hf (fun x5 ex5 hf => ?_)
      refine xm_iload dX12_number_118 rfl ?_
      refine xb_iald dX12_number_120 hf (fun x6 ex6 hf => ?_)
      refine xm_iload_n dX12_number_121 rfl ?_
      obtain ⟨p7, ep7, hf⟩ := xbind hf
      refine xb_callS (As := [.int x6, .int l3]) (v0 := (some (.int p7))) (τ0 := σ) dX12_number_122 (xc_X12_digit _ _) xw_2143 xw_2144 rfl (Nat.le_of_ble_eq_true rfl) rfl (Nat.le_of_ble_eq_true rfl) (fun Q1 hq => m_X12_digit (d := d + 0) ep7 (fun g hg => by subst hg; exact hq)) ?_
      refine xb_if_lt 152 dX12_number_125 (by decide) hf (fun c hf => ?_) (fun c hf => ?_)
      · cases hf
        exact xm_sub [0, 1, 3, 5, 6] rfl (hE _ rfl)
      · refine xm_iload_n dX12_number_128 rfl ?_
        refine xm_iload dX12_number_129 rfl ?_
        refine xm_imul dX12_number_131 ?_
        refine xm_aload_n dX12_number_132 rfl ?_
        refine xb_getR (a := l0) (c := 12) (k := 18) dX12_number_133 xcl12 (by decide) xw_1855 rfl hf (fun x8 ex8 hf => ?_)
        refine xm_iload dX12_number_136 rfl ?_
        refine xb_iald dX12_number_138 hf (fun x9 ex9 hf => ?_)
        refine xm_iload_n dX12_number_139 rfl ?_
        obtain ⟨p10, ep10, hf⟩ := xbind hf
        refine xb_callS (As := [.int x9, .int l3]) (v0 := (some (.int p10))) (τ0 := σ) dX12_number_140 (xc_X12_digit _ _) xw_2143 xw_2144 rfl (Nat.le_of_ble_eq_true rfl) rfl (Nat.le_of_ble_eq_true rfl) (fun Q1 hq => m_X12_digit (d := d + 0) ep10 (fun g hg => by subst hg; exact hq)) ?_
        refine xm_iadd dX12_number_143 ?_
        refine xb_topi hf (fun v11 ev11 hf => ?_)
        refine xm_istore dX12_number_144 (by decide) (xm_stL (L' := [(7, .int v11), (0, .ref l0), (1, .int l1), (3, .int l3), (4, .int l4), (5, .int l5), (6, .int l6)]) rfl ?_)
        refine xb_iinc dX12_number_146 rfl (by decide) (by decide) hf (fun v12 ev12 hf => xm_stL (L' := [(4, .int v12), (7, .int v11), (0, .ref l0), (1, .int l1), (3, .int l3), (5, .int l5), (6, .int l6)]) rfl ?_)
        refine xm_goto 95 dX12_number_149 (by decide) ?_
        cases hf
        exact xm_sub [2, 3, 4, 0, 5, 6, 1] rfl (hC _ rfl)
theorem L_X12_number_l95 {G : xG} {π : Nat → Nat} {d C Z : Nat} {Q : xQ} (σ : xM) {s0 : (Nat × Int32 × Int32 × Int32 × Int32 × Int32 × Int32)} {x : ((Int32 × xM) ⊕ (Nat × Int32 × Int32 × Int32 × Int32))} (h1 : xloop (f_X12_number_s95 σ) xF s0 = some x) (hR : ∀ g, x = Sum.inl g → Q (.inl (some (.int g.1))) (g.2) π) (hE : ∀ e : (Nat × Int32 × Int32 × Int32 × Int32), x = Sum.inr e → xMach G π J_X12_number (d + 2) C Z 152 [(0, .ref e.1), (1, .int e.2.1), (4, .int e.2.2.1), (6, .int e.2.2.2.1), (7, .int e.2.2.2.2)] [] σ Q) : xMach G π J_X12_number (d + 2) C Z 95 [(0, .ref s0.1), (1, .int s0.2.1), (3, .int s0.2.2.1), (4, .int s0.2.2.2.1), (5, .int s0.2.2.2.2.1), (6, .int s0.2.2.2.2.2.1), (7, .int s0.2.2.2.2.2.2)] [] σ Q := by
  refine xloop_run (M := (fun s : (Nat × Int32 × Int32 × Int32 × Int32 × Int32 × Int32) => xMach G π J_X12_number (d + 2) C Z 95 [(0, .ref s.1), (1, .int s.2.1), (3, .int s.2.2.1), (4, .int s.2.2.2.1), (5, .int s.2.2.2.2.1), (6, .int s.2.2.2.2.2.1), (7, .int s.2.2.2.2.2.2)] [] σ Q)) (r := x) ?_ xF _ h1
  intro s y hs hx
  exact L_X12_number_s95 σ s.1 s.2.1 s.2.2.1 s.2.2.2.1 s.2.2.2.2.1 s.2.2.2.2.2.1 s.2.2.2.2.2.2 (x := y) hs (fun g hg => by subst hg; exact hR g hx) (fun e he => by subst he; exact hE e hx) (fun e he => by subst he; exact hx)
def f_X12_number_j175 (σ : xM) (s0 : Int32) : Option (Int32 × xM) :=
  some (s0, σ)
set_option maxHeartbeats 4000000 in
set_option maxRecDepth 20000 in
theorem L_X12_number_j175 {G : xG} {π : Nat → Nat} {d C Z : Nat} {Q : xQ} (σ : xM) (s0 : Int32) {x : (Int32 × xM)} (hf : f_X12_number_j175 σ s0 = some x) (hR : ∀ g, x = g → Q (.inl (some (.int g.1))) (g.2) π) : xMach G π J_X12_number (d + 2) C Z 175 [] [.int s0] σ Q := by
  unfold f_X12_number_j175 at hf
  cases hf
  exact xm_iret dX12_number_175 rfl (hR _ rfl)
def f_X12_number_j152 (σ : xM) (l0 : Nat) (l1 : Int32) (l4 : Int32) (l6 : Int32) (l7 : Int32) : Option (Int32 × xM) :=
  (if xk σ l0 12 = true then (f_X12_word σ l0 (0 : Int32) l7 l1).bind (fun p13 => (if l4 = l6 then f_X12_number_j175 p13 (-l4) else f_X12_number_j175 p13 l4)) else none)
set_option maxHeartbeats 4000000 in
set_option maxRecDepth 20000 in
theorem L_X12_number_j152 {G : xG} {π : Nat → Nat} {d C Z : Nat} {Q : xQ} (σ : xM) (l0 : Nat) (l1 : Int32) (l4 : Int32) (l6 : Int32) (l7 : Int32) {x : (Int32 × xM)} (hf : f_X12_number_j152 σ l0 l1 l4 l6 l7 = some x) (hR : ∀ g, x = g → Q (.inl (some (.int g.1))) (g.2) π) : xMach G π J_X12_number (d + 2) C Z 152 [(0, .ref l0), (1, .int l1), (4, .int l4), (6, .int l6), (7, .int l7)] [] σ Q := by
  unfold f_X12_number_j152 at hf
  refine xm_aload_n dX12_number_152 rfl ?_
  refine xm_iconst dX12_number_153 (v := 0) (by decide) ?_
  refine xm_iload dX12_number_154 rfl ?_
  refine xm_iload_n dX12_number_156 rfl ?_
  refine xb_if hf (fun hb hf => ?_) (fun _ q => nomatch q)
  obtain ⟨p13, ep13, hf⟩ := xbind hf
  refine xb_callV (As := [.int (0 : Int32), .int l7, .int l1]) (v0 := none) (τ0 := p13) dX12_number_157 (xc_X12_word _ _) xcl12 xw_2146 xw_2148 xs_95 hb rfl (Nat.le_of_ble_eq_true rfl) rfl (Nat.le_of_ble_eq_true rfl) (fun Q1 hq => m_X12_word (d := d + 1) ep13 (fun g hg => by subst hg; exact hq)) ?_
  refine xm_iload dX12_number_160 rfl ?_
  refine xm_iload dX12_number_162 rfl ?_
  refine xb_icmp_ne 173 dX12_number_164 (by decide) hf (fun c hf => ?_) (fun c hf => ?_)
  · refine xm_iload dX12_number_173 rfl ?_
    exact xm_sub [] rfl (L_X12_number_j175 p13 l4 hf hR)
  · refine xm_iload dX12_number_167 rfl ?_
    refine xm_ineg dX12_number_169 ?_
    refine xm_goto 175 dX12_number_170 (by decide) ?_
    exact xm_sub [] rfl (L_X12_number_j175 p13 (-l4) hf hR)
def f_X12_number_j86 (σ : xM) (l0 : Nat) (l1 : Int32) (l3 : Int32) (l4 : Int32) (s0 : Int32) : Option (Int32 × xM) :=
  xlet (0 : Int32) (fun v3 => (xloop (f_X12_number_s95 σ ) xF (l0, l1, l3, l4, s0, l4, v3)).bind (Sum.elim (fun g => some g) (fun e => f_X12_number_j152 σ e.1 e.2.1 e.2.2.1 e.2.2.2.1 e.2.2.2.2)))
set_option maxHeartbeats 4000000 in
set_option maxRecDepth 20000 in
theorem L_X12_number_j86 {G : xG} {π : Nat → Nat} {d C Z : Nat} {Q : xQ} (σ : xM) (l0 : Nat) (l1 : Int32) (l3 : Int32) (l4 : Int32) (s0 : Int32) {x : (Int32 × xM)} (hf : f_X12_number_j86 σ l0 l1 l3 l4 s0 = some x) (hR : ∀ g, x = g → Q (.inl (some (.int g.1))) (g.2) π) : xMach G π J_X12_number (d + 2) C Z 86 [(0, .ref l0), (1, .int l1), (3, .int l3), (4, .int l4)] [.int s0] σ Q := by
  unfold f_X12_number_j86 at hf
  refine xm_istore dX12_number_86 (by decide) (xm_stL (L' := [(5, .int s0), (0, .ref l0), (1, .int l1), (3, .int l3), (4, .int l4)]) rfl ?_)
  refine xm_iload dX12_number_88 rfl ?_
  refine xm_istore dX12_number_90 (by decide) (xm_stL (L' := [(6, .int l4), (5, .int s0), (0, .ref l0), (1, .int l1), (3, .int l3), (4, .int l4)]) rfl ?_)
  refine xm_iconst dX12_number_92 (v := 0) (by decide) ?_
  refine xb_topi hf (fun v3 ev3 hf => ?_)
  refine xm_istore dX12_number_93 (by decide) (xm_stL (L' := [(7, .int v3), (6, .int l4), (5, .int s0), (0, .ref l0), (1, .int l1), (3, .int l3), (4, .int l4)]) rfl ?_)
  obtain ⟨o, h1, hf⟩ := xbind hf
  refine xm_sub [3, 4, 5, 6, 2, 1, 0] rfl (L_X12_number_l95 σ h1 (fun g hg => ?_) (fun e he => ?_))
  · subst hg
    cases hf
    exact hR _ rfl
  · subst he
    rw [Sum.elim_inr] at hf
    have hf : f_X12_number_j152 σ e.1 e.2.1 e.2.2.1 e.2.2.2.1 e.2.2.2.2 = some _ := hf
    exact xm_sub [0, 1, 2, 3, 4] rfl (L_X12_number_j152 σ e.1 e.2.1 e.2.2.1 e.2.2.2.1 e.2.2.2.2 hf hR)
def f_X12_number_j71 (σ : xM) (l0 : Nat) (l1 : Int32) (l3 : Int32) (s0 : Int32) : Option (Int32 × xM) :=
  (if l3 = (10 : Int32) then f_X12_number_j86 σ l0 l1 l3 s0 (9 : Int32) else f_X12_number_j86 σ l0 l1 l3 s0 (7 : Int32))
set_option maxHeartbeats 4000000 in
set_option maxRecDepth 20000 in
theorem L_X12_number_j71 {G : xG} {π : Nat → Nat} {d C Z : Nat} {Q : xQ} (σ : xM) (l0 : Nat) (l1 : Int32) (l3 : Int32) (s0 : Int32) {x : (Int32 × xM)} (hf : f_X12_number_j71 σ l0 l1 l3 s0 = some x) (hR : ∀ g, x = g → Q (.inl (some (.int g.1))) (g.2) π) : xMach G π J_X12_number (d + 2) C Z 71 [(0, .ref l0), (1, .int l1), (3, .int l3)] [.int s0] σ Q := by
  unfold f_X12_number_j71 at hf
  refine xm_istore dX12_number_71 (by decide) (xm_stL (L' := [(4, .int s0), (0, .ref l0), (1, .int l1), (3, .int l3)]) rfl ?_)
  refine xm_iload_n dX12_number_73 rfl ?_
  refine xm_bipush dX12_number_74 (v := 10) (by decide) ?_
  refine xb_icmp_ne 84 dX12_number_76 (by decide) hf (fun c hf => ?_) (fun c hf => ?_)
  · refine xm_bipush dX12_number_84 (v := 7) (by decide) ?_
    exact xm_sub [1, 2, 3, 0] rfl (L_X12_number_j86 σ l0 l1 l3 s0 (7 : Int32) hf hR)
  · refine xm_bipush dX12_number_79 (v := 9) (by decide) ?_
    refine xm_goto 86 dX12_number_81 (by decide) ?_
    exact xm_sub [1, 2, 3, 0] rfl (L_X12_number_j86 σ l0 l1 l3 s0 (9 : Int32) hf hR)
def f_X12_number_j57 (σ : xM) (l0 : Nat) (l1 : Int32) (s0 : Int32) : Option (Int32 × xM) :=
  (if s0 = (10 : Int32) then f_X12_number_j71 σ l0 l1 s0 l1 else f_X12_number_j71 σ l0 l1 s0 (l1 + (2 : Int32)))
set_option maxHeartbeats 4000000 in
set_option maxRecDepth 20000 in
theorem L_X12_number_j57 {G : xG} {π : Nat → Nat} {d C Z : Nat} {Q : xQ} (σ : xM) (l0 : Nat) (l1 : Int32) (s0 : Int32) {x : (Int32 × xM)} (hf : f_X12_number_j57 σ l0 l1 s0 = some x) (hR : ∀ g, x = g → Q (.inl (some (.int g.1))) (g.2) π) : xMach G π J_X12_number (d + 2) C Z 57 [(0, .ref l0), (1, .int l1)] [.int s0] σ Q := by
  unfold f_X12_number_j57 at hf
  refine xm_istore_n dX12_number_57 (by decide) (xm_stL (L' := [(3, .int s0), (0, .ref l0), (1, .int l1)]) rfl ?_)
  refine xm_iload_n dX12_number_58 rfl ?_
  refine xm_bipush dX12_number_59 (v := 10) (by decide) ?_
  refine xb_icmp_ne 68 dX12_number_61 (by decide) hf (fun c hf => ?_) (fun c hf => ?_)
  · refine xm_iload_n dX12_number_68 rfl ?_
    refine xm_iconst dX12_number_69 (v := 2) (by decide) ?_
    refine xm_iadd dX12_number_70 ?_
    exact xm_sub [1, 2, 0] rfl (L_X12_number_j71 σ l0 l1 s0 (l1 + (2 : Int32)) hf hR)
  · refine xm_iload_n dX12_number_64 rfl ?_
    refine xm_goto 71 dX12_number_65 (by decide) ?_
    exact xm_sub [1, 2, 0] rfl (L_X12_number_j71 σ l0 l1 s0 l1 hf hR)
def f_X12_number (σ : xM) (l0 : Nat) (l1 : Int32) : Option (Int32 × xM) :=
  (if xk σ l0 12 = true then (f_X12_typedAt σ l0 (l1 + (1 : Int32))).bind (fun p1 => (if xk σ l0 12 = true then (f_X12_typedAt σ l0 l1).bind (fun p2 => (if p2 = (48 : Int32) then (if p1 = (120 : Int32) then f_X12_number_j57 σ l0 l1 (16 : Int32) else (if p1 = (111 : Int32) then f_X12_number_j57 σ l0 l1 (8 : Int32) else (if p1 = (98 : Int32) then f_X12_number_j57 σ l0 l1 (2 : Int32) else f_X12_number_j57 σ l0 l1 (10 : Int32)))) else f_X12_number_j57 σ l0 l1 (10 : Int32))) else none)) else none)
set_option maxHeartbeats 4000000 in
set_option maxRecDepth 20000 in
theorem m_X12_number {G : xG} {π : Nat → Nat} {d C Z : Nat} {Q : xQ} {σ : xM} {l0 : Nat} {l1 : Int32} {x : (Int32 × xM)} (hf : f_X12_number σ l0 l1 = some x) (hR : ∀ g, x = g → Q (.inl (some (.int g.1))) (g.2) π) : xMach G π J_X12_number (d + 2) C Z 0 (lv_args 0 [.ref l0, .int l1]) [] σ Q := by
  unfold f_X12_number at hf
  refine xm_stL (L' := [(0, .ref l0), (1, .int l1)]) rfl ?_
  refine xm_aload_n dX12_number_0 rfl ?_
  refine xm_iload_n dX12_number_1 rfl ?_
  refine xm_iconst dX12_number_2 (v := 1) (by decide) ?_
  refine xm_iadd dX12_number_3 ?_
  refine xb_if hf (fun hb hf => ?_) (fun _ q => nomatch q)
  obtain ⟨p1, ep1, hf⟩ := xbind hf
  refine xb_callV (As := [.int (l1 + (1 : Int32))]) (v0 := (some (.int p1))) (τ0 := σ) dX12_number_4 (xc_X12_typedAt _ _) xcl12 xw_2139 xw_2141 xs_94 hb rfl (Nat.le_of_ble_eq_true rfl) rfl (Nat.le_of_ble_eq_true rfl) (fun Q1 hq => m_X12_typedAt (d := d + 1) ep1 (fun g hg => by subst hg; exact hq)) ?_
  refine xm_istore_n dX12_number_7 (by decide) (xm_stL (L' := [(2, .int p1), (0, .ref l0), (1, .int l1)]) rfl ?_)
  refine xm_aload_n dX12_number_8 rfl ?_
  refine xm_iload_n dX12_number_9 rfl ?_
  refine xb_if hf (fun hb hf => ?_) (fun _ q => nomatch q)
  obtain ⟨p2, ep2, hf⟩ := xbind hf
  refine xb_callV (As := [.int l1]) (v0 := (some (.int p2))) (τ0 := σ) dX12_number_10 (xc_X12_typedAt _ _) xcl12 xw_2139 xw_2141 xs_94 hb rfl (Nat.le_of_ble_eq_true rfl) rfl (Nat.le_of_ble_eq_true rfl) (fun Q1 hq => m_X12_typedAt (d := d + 1) ep2 (fun g hg => by subst hg; exact hq)) ?_
  refine xm_bipush dX12_number_13 (v := 48) (by decide) ?_
  refine xb_icmp_eq 23 dX12_number_15 (by decide) hf (fun c hf => ?_) (fun c hf => ?_)
  · refine xm_iload_n dX12_number_23 rfl ?_
    refine xm_bipush dX12_number_24 (v := 120) (by decide) ?_
    refine xb_icmp_ne 34 dX12_number_26 (by decide) hf (fun c hf => ?_) (fun c hf => ?_)
    · refine xm_iload_n dX12_number_34 rfl ?_
      refine xm_bipush dX12_number_35 (v := 111) (by decide) ?_
      refine xb_icmp_ne 45 dX12_number_37 (by decide) hf (fun c hf => ?_) (fun c hf => ?_)
      · refine xm_iload_n dX12_number_45 rfl ?_
        refine xm_bipush dX12_number_46 (v := 98) (by decide) ?_
        refine xb_icmp_ne 55 dX12_number_48 (by decide) hf (fun c hf => ?_) (fun c hf => ?_)
        · refine xm_bipush dX12_number_55 (v := 10) (by decide) ?_
          exact xm_sub [1, 2] rfl (L_X12_number_j57 σ l0 l1 (10 : Int32) hf hR)
        · refine xm_iconst dX12_number_51 (v := 2) (by decide) ?_
          refine xm_goto 57 dX12_number_52 (by decide) ?_
          exact xm_sub [1, 2] rfl (L_X12_number_j57 σ l0 l1 (2 : Int32) hf hR)
      · refine xm_bipush dX12_number_40 (v := 8) (by decide) ?_
        refine xm_goto 57 dX12_number_42 (by decide) ?_
        exact xm_sub [1, 2] rfl (L_X12_number_j57 σ l0 l1 (8 : Int32) hf hR)
    · refine xm_bipush dX12_number_29 (v := 16) (by decide) ?_
      refine xm_goto 57 dX12_number_31 (by decide) ?_
      exact xm_sub [1, 2] rfl (L_X12_number_j57 σ l0 l1 (16 : Int32) hf hR)
  · refine xm_bipush dX12_number_18 (v := 10) (by decide) ?_
    refine xm_goto 57 dX12_number_20 (by decide) ?_
    exact xm_sub [1, 2] rfl (L_X12_number_j57 σ l0 l1 (10 : Int32) hf hR)
-- RankwiseModel.lex()V
def f_X12_lex_j182 (σ : xM) (l0 : Nat) (l1 : Int32) : Option (xM ⊕ (((Nat × Int32 × xM) ⊕ ((xM) ⊕ (xM))) ⊕ (Nat × Int32 × xM))) :=
  some (Sum.inr (Sum.inr (l0, l1, σ)))
set_option maxHeartbeats 4000000 in
set_option maxRecDepth 20000 in
theorem L_X12_lex_j182 {G : xG} {π : Nat → Nat} {d C Z : Nat} {Q : xQ} (σ : xM) (l0 : Nat) (l1 : Int32) {x : (xM ⊕ (((Nat × Int32 × xM) ⊕ ((xM) ⊕ (xM))) ⊕ (Nat × Int32 × xM)))} (hf : f_X12_lex_j182 σ l0 l1 = some x) (hR : ∀ g, x = Sum.inl (g) → Q (.inl none) (g) π) (hE0 : ∀ e : (Nat × Int32 × xM), x = Sum.inr (Sum.inl (Sum.inl e)) → xMach G π J_X12_lex (d + 3) C Z 60 [(0, .ref e.1), (3, .int e.2.1)] [] e.2.2 Q) (hE1 : ∀ e : (xM), x = Sum.inr (Sum.inl (Sum.inr (Sum.inl e))) → xMach G π J_X12_lex (d + 3) C Z 178 [] [] e Q) (hE2 : ∀ e : (xM), x = Sum.inr (Sum.inl (Sum.inr (Sum.inr e))) → xMach G π J_X12_lex (d + 3) C Z 185 [] [] e Q) (hC : ∀ e : (Nat × Int32 × xM), x = Sum.inr (Sum.inr e) → xMach G π J_X12_lex (d + 3) C Z 12 [(0, .ref e.1), (1, .int e.2.1)] [] e.2.2 Q) : xMach G π J_X12_lex (d + 3) C Z 182 [(0, .ref l0), (1, .int l1)] [] σ Q := by
  unfold f_X12_lex_j182 at hf
  refine xm_goto 12 dX12_lex_182 (by decide) ?_
  cases hf
  exact xm_sub [0, 1] rfl (hC _ rfl)
def f_X12_lex_j158 (σ : xM) (l0 : Nat) (l1 : Int32) (l2 : Int32) (s0 : Int32) (s1 : Nat) : Option (xM ⊕ (((Nat × Int32 × xM) ⊕ ((xM) ⊕ (xM))) ⊕ (Nat × Int32 × xM))) :=
  (if xk σ s1 12 = true then (f_X12_word σ s1 s0 l2 l1).bind (fun p10 => (gR p10 l0 12 20).bind (fun x11 => (gI p10 l0 12 25).bind (fun x12 => (aI p10 x11 14 (x12 - (1 : Int32))).bind (fun x13 => (if x13 = (-1 : Int32) then some (Sum.inr (Sum.inl (Sum.inr (Sum.inl p10)))) else xlet (l1 + (1 : Int32)) (fun v14 => f_X12_lex_j182 p10 l0 v14)))))) else none)
set_option maxHeartbeats 4000000 in
set_option maxRecDepth 20000 in
theorem L_X12_lex_j158 {G : xG} {π : Nat → Nat} {d C Z : Nat} {Q : xQ} (σ : xM) (l0 : Nat) (l1 : Int32) (l2 : Int32) (s0 : Int32) (s1 : Nat) {x : (xM ⊕ (((Nat × Int32 × xM) ⊕ ((xM) ⊕ (xM))) ⊕ (Nat × Int32 × xM)))} (hf : f_X12_lex_j158 σ l0 l1 l2 s0 s1 = some x) (hR : ∀ g, x = Sum.inl (g) → Q (.inl none) (g) π) (hE0 : ∀ e : (Nat × Int32 × xM), x = Sum.inr (Sum.inl (Sum.inl e)) → xMach G π J_X12_lex (d + 3) C Z 60 [(0, .ref e.1), (3, .int e.2.1)] [] e.2.2 Q) (hE1 : ∀ e : (xM), x = Sum.inr (Sum.inl (Sum.inr (Sum.inl e))) → xMach G π J_X12_lex (d + 3) C Z 178 [] [] e Q) (hE2 : ∀ e : (xM), x = Sum.inr (Sum.inl (Sum.inr (Sum.inr e))) → xMach G π J_X12_lex (d + 3) C Z 185 [] [] e Q) (hC : ∀ e : (Nat × Int32 × xM), x = Sum.inr (Sum.inr e) → xMach G π J_X12_lex (d + 3) C Z 12 [(0, .ref e.1), (1, .int e.2.1)] [] e.2.2 Q) : xMach G π J_X12_lex (d + 3) C Z 158 [(0, .ref l0), (1, .int l1), (2, .int l2)] [.int s0, .ref s1] σ Q := by
  unfold f_X12_lex_j158 at hf
  refine xm_iload_n dX12_lex_158 rfl ?_
  refine xm_iload_n dX12_lex_159 rfl ?_
  refine xb_if hf (fun hb hf => ?_) (fun _ q => nomatch q)
  obtain ⟨p10, ep10, hf⟩ := xbind hf
  refine xb_callV (As := [.int s0, .int l2, .int l1]) (v0 := none) (τ0 := p10) dX12_lex_160 (xc_X12_word _ _) xcl12 xw_2146 xw_2148 xs_95 hb rfl (Nat.le_of_ble_eq_true rfl) rfl (Nat.le_of_ble_eq_true rfl) (fun Q1 hq => m_X12_word (d := d + 2) ep10 (fun g hg => by subst hg; exact hq)) ?_
  refine xm_aload_n dX12_lex_163 rfl ?_
  refine xb_getR (a := l0) (c := 12) (k := 20) dX12_lex_164 xcl12 (by decide) xw_1857 rfl hf (fun x11 ex11 hf => ?_)
  refine xm_aload_n dX12_lex_167 rfl ?_
  refine xb_getI (a := l0) (c := 12) (k := 25) dX12_lex_168 xcl12 (by decide) xw_1862 rfl hf (fun x12 ex12 hf => ?_)
  refine xm_iconst dX12_lex_171 (v := 1) (by decide) ?_
  refine xm_isub dX12_lex_172 ?_
  refine xb_iald dX12_lex_173 hf (fun x13 ex13 hf => ?_)
  refine xm_iconst dX12_lex_174 (v := -1) (by decide) ?_
  refine xb_icmp_ne 179 dX12_lex_175 (by decide) hf (fun c hf => ?_) (fun c hf => ?_)
  · refine xb_iinc dX12_lex_179 rfl (by decide) (by decide) hf (fun v14 ev14 hf => xm_stL (L' := [(1, .int v14), (0, .ref l0), (2, .int l2)]) rfl ?_)
    exact xm_sub [1, 0] rfl (L_X12_lex_j182 p10 l0 v14 hf hR hE0 hE1 hE2 hC)
  · cases hf
    exact xm_sub [] rfl (hE1 _ rfl)
def f_X12_lex_s12 (s : (Nat × Int32 × xM)) : Option (xM ⊕ (((Nat × Int32 × xM) ⊕ ((xM) ⊕ (xM))) ⊕ (Nat × Int32 × xM))) :=
  xlet s.1 (fun l0 => xlet s.2.1 (fun l1 => xlet s.2.2 (fun σ => (gI σ l0 12 19).bind (fun x4 => (if x4 ≤ l1 then some (Sum.inr (Sum.inl (Sum.inr (Sum.inr σ)))) else (gR σ l0 12 18).bind (fun x5 => (aI σ x5 14 l1).bind (fun x6 => (if x6 = (32 : Int32) then xlet (l1 + (1 : Int32)) (fun v16 => f_X12_lex_j182 σ l0 v16) else (f_X12_in σ x6 (48 : Int32) (57 : Int32)).bind (fun p7 => (if p7 = (0 : Int32) then (f_X12_in σ x6 (97 : Int32) (122 : Int32)).bind (fun p8 => (if p8 = (0 : Int32) then (if x6 = (40 : Int32) then f_X12_lex_j158 σ l0 l1 x6 (3 : Int32) l0 else (if x6 = (41 : Int32) then f_X12_lex_j158 σ l0 l1 x6 (4 : Int32) l0 else (if x6 = (44 : Int32) then f_X12_lex_j158 σ l0 l1 x6 (5 : Int32) l0 else (f_X12_signOf σ x6).bind (fun p9 => (if p9 = (-1 : Int32) then f_X12_lex_j158 σ l0 l1 x6 (-1 : Int32) l0 else f_X12_lex_j158 σ l0 l1 x6 (2 : Int32) l0))))) else f_X12_lex_j158 σ l0 l1 x6 (1 : Int32) l0)) else (if xk σ l0 12 = true then (f_X12_number σ l0 l1).bind (fun p15 => (if (0 : Int32) ≤ p15.1 then f_X12_lex_j182 p15.2 l0 p15.1 else some (Sum.inr (Sum.inl (Sum.inl (l0, p15.1, p15.2)))))) else none)))))))))))
set_option maxHeartbeats 4000000 in
set_option maxRecDepth 20000 in
theorem L_X12_lex_s12 {G : xG} {π : Nat → Nat} {d C Z : Nat} {Q : xQ} (σ : xM) (l0 : Nat) (l1 : Int32) {x : (xM ⊕ (((Nat × Int32 × xM) ⊕ ((xM) ⊕ (xM))) ⊕ (Nat × Int32 × xM)))} (hf : f_X12_lex_s12 (l0, l1, σ) = some x) (hR : ∀ g, x = Sum.inl (g) → Q (.inl none) (g) π) (hE0 : ∀ e : (Nat × Int32 × xM), x = Sum.inr (Sum.inl (Sum.inl e)) → xMach G π J_X12_lex (d + 3) C Z 60 [(0, .ref e.1), (3, .int e.2.1)] [] e.2.2 Q) (hE1 : ∀ e : (xM), x = Sum.inr (Sum.inl (Sum.inr (Sum.inl e))) → xMach G π J_X12_lex (d + 3) C Z 178 [] [] e Q) (hE2 : ∀ e : (xM), x = Sum.inr (Sum.inl (Sum.inr (Sum.inr e))) → xMach G π J_X12_lex (d + 3) C Z 185 [] [] e Q) (hC : ∀ e : (Nat × Int32 × xM), x = Sum.inr (Sum.inr e) → xMach G π J_X12_lex (d + 3) C Z 12 [(0, .ref e.1), (1, .int e.2.1)] [] e.2.2 Q) : xMach G π J_X12_lex (d + 3) C Z 12 [(0, .ref l0), (1, .int l1)] [] σ Q := by
  have hf : (gI σ l0 12 19).bind (fun x4 => (if x4 ≤ l1 then some (Sum.inr (Sum.inl (Sum.inr (Sum.inr σ)))) else (gR σ l0 12 18).bind (fun x5 => (aI σ x5 14 l1).bind (fun x6 => (if x6 = (32 : Int32) then xlet (l1 + (1 : Int32)) (fun v16 => f_X12_lex_j182 σ l0 v16) else (f_X12_in σ x6 (48 : Int32) (57 : Int32)).bind (fun p7 => (if p7 = (0 : Int32) then (f_X12_in σ x6 (97 : Int32) (122 : Int32)).bind (fun p8 => (if p8 = (0 : Int32) then (if x6 = (40 : Int32) then f_X12_lex_j158 σ l0 l1 x6 (3 : Int32) l0 else (if x6 = (41 : Int32) then f_X12_lex_j158 σ l0 l1 x6 (4 : Int32) l0 else (if x6 = (44 : Int32) then f_X12_lex_j158 σ l0 l1 x6 (5 : Int32) l0 else (f_X12_signOf σ x6).bind (fun p9 => (if p9 = (-1 : Int32) then f_X12_lex_j158 σ l0 l1 x6 (-1 : Int32) l0 else f_X12_lex_j158 σ l0 l1 x6 (2 : Int32) l0))))) else f_X12_lex_j158 σ l0 l1 x6 (1 : Int32) l0)) else (if xk σ l0 12 = true then (f_X12_number σ l0 l1).bind (fun p15 => (if (0 : Int32) ≤ p15.1 then f_X12_lex_j182 p15.2 l0 p15.1 else some (Sum.inr (Sum.inl (Sum.inl (l0, p15.1, p15.2)))))) else none)))))))) = some x := hf
  refine xm_iload_n dX12_lex_12 rfl ?_
  refine xm_aload_n dX12_lex_13 rfl ?_
  refine xb_getI (a := l0) (c := 12) (k := 19) dX12_lex_14 xcl12 (by decide) xw_1856 rfl hf (fun x4 ex4 hf => ?_)
  refine xb_icmp_ge 185 dX12_lex_17 (by decide) hf (fun c hf => ?_) (fun c hf => ?_)
  · cases hf
    exact xm_sub [] rfl (hE2 _ rfl)
  · refine xm_aload_n dX12_lex_20 rfl ?_
    refine xb_getR (a := l0) (c := 12) (k := 18) dX12_lex_21 xcl12 (by decide) xw_1855 rfl hf (fun x5 ex5 hf => ?_)
    refine xm_iload_n dX12_lex_24 rfl ?_
    refine xb_iald dX12_lex_25 hf (fun x6 ex6 hf => ?_)
    refine xm_istore_n dX12_lex_26 (by decide) (xm_stL (L' := [(2, .int x6), (0, .ref l0), (1, .int l1)]) rfl ?_)
    refine xm_iload_n dX12_lex_27 rfl ?_
    refine xm_bipush dX12_lex_28 (v := 32) (by decide) ?_
    refine xb_icmp_ne 39 dX12_lex_30 (by decide) hf (fun c hf => ?_) (fun c hf => ?_)
    · refine xm_iload_n dX12_lex_39 rfl ?_
      refine xm_bipush dX12_lex_40 (v := 48) (by decide) ?_
      refine xm_bipush dX12_lex_42 (v := 57) (by decide) ?_
      obtain ⟨p7, ep7, hf⟩ := xbind hf
      refine xb_callS (As := [.int x6, .int (48 : Int32), .int (57 : Int32)]) (v0 := (some (.int p7))) (τ0 := σ) dX12_lex_44 (xc_X12_in _ _) xw_2132 xw_2133 rfl (Nat.le_of_ble_eq_true rfl) rfl (Nat.le_of_ble_eq_true rfl) (fun Q1 hq => m_X12_in (d := d + 2) ep7 (fun g hg => by subst hg; exact hq)) ?_
      refine xb_if_eq 99 dX12_lex_47 (by decide) hf (fun c hf => ?_) (fun c hf => ?_)
      · refine xm_aload_n dX12_lex_99 rfl ?_
        refine xm_iload_n dX12_lex_100 rfl ?_
        refine xm_bipush dX12_lex_101 (v := 97) (by decide) ?_
        refine xm_bipush dX12_lex_103 (v := 122) (by decide) ?_
        obtain ⟨p8, ep8, hf⟩ := xbind hf
        refine xb_callS (As := [.int x6, .int (97 : Int32), .int (122 : Int32)]) (v0 := (some (.int p8))) (τ0 := σ) dX12_lex_105 (xc_X12_in _ _) xw_2132 xw_2133 rfl (Nat.le_of_ble_eq_true rfl) rfl (Nat.le_of_ble_eq_true rfl) (fun Q1 hq => m_X12_in (d := d + 2) ep8 (fun g hg => by subst hg; exact hq)) ?_
        refine xb_if_eq 115 dX12_lex_108 (by decide) hf (fun c hf => ?_) (fun c hf => ?_)
        · refine xm_iload_n dX12_lex_115 rfl ?_
          refine xm_bipush dX12_lex_116 (v := 40) (by decide) ?_
          refine xb_icmp_ne 125 dX12_lex_118 (by decide) hf (fun c hf => ?_) (fun c hf => ?_)
          · refine xm_iload_n dX12_lex_125 rfl ?_
            refine xm_bipush dX12_lex_126 (v := 41) (by decide) ?_
            refine xb_icmp_ne 135 dX12_lex_128 (by decide) hf (fun c hf => ?_) (fun c hf => ?_)
            · refine xm_iload_n dX12_lex_135 rfl ?_
              refine xm_bipush dX12_lex_136 (v := 44) (by decide) ?_
              refine xb_icmp_ne 145 dX12_lex_138 (by decide) hf (fun c hf => ?_) (fun c hf => ?_)
              · refine xm_iload_n dX12_lex_145 rfl ?_
                obtain ⟨p9, ep9, hf⟩ := xbind hf
                refine xb_callS (As := [.int x6]) (v0 := (some (.int p9))) (τ0 := σ) dX12_lex_146 (xc_X12_signOf _ _) xw_1817 xw_1818 rfl (Nat.le_of_ble_eq_true rfl) rfl (Nat.le_of_ble_eq_true rfl) (fun Q1 hq => m_X12_signOf (d := d + 2) ep9 (fun g hg => by subst hg; exact hq)) ?_
                refine xm_iconst dX12_lex_149 (v := -1) (by decide) ?_
                refine xb_icmp_eq 157 dX12_lex_150 (by decide) hf (fun c hf => ?_) (fun c hf => ?_)
                · refine xm_iconst dX12_lex_157 (v := -1) (by decide) ?_
                  exact xm_sub [1, 2, 0] rfl (L_X12_lex_j158 σ l0 l1 x6 (-1 : Int32) l0 hf hR hE0 hE1 hE2 hC)
                · refine xm_iconst dX12_lex_153 (v := 2) (by decide) ?_
                  refine xm_goto 158 dX12_lex_154 (by decide) ?_
                  exact xm_sub [1, 2, 0] rfl (L_X12_lex_j158 σ l0 l1 x6 (2 : Int32) l0 hf hR hE0 hE1 hE2 hC)
              · refine xm_iconst dX12_lex_141 (v := 5) (by decide) ?_
                refine xm_goto 158 dX12_lex_142 (by decide) ?_
                exact xm_sub [1, 2, 0] rfl (L_X12_lex_j158 σ l0 l1 x6 (5 : Int32) l0 hf hR hE0 hE1 hE2 hC)
            · refine xm_iconst dX12_lex_131 (v := 4) (by decide) ?_
              refine xm_goto 158 dX12_lex_132 (by decide) ?_
              exact xm_sub [1, 2, 0] rfl (L_X12_lex_j158 σ l0 l1 x6 (4 : Int32) l0 hf hR hE0 hE1 hE2 hC)
          · refine xm_iconst dX12_lex_121 (v := 3) (by decide) ?_
            refine xm_goto 158 dX12_lex_122 (by decide) ?_
            exact xm_sub [1, 2, 0] rfl (L_X12_lex_j158 σ l0 l1 x6 (3 : Int32) l0 hf hR hE0 hE1 hE2 hC)
        · refine xm_iconst dX12_lex_111 (v := 1) (by decide) ?_
          refine xm_goto 158 dX12_lex_112 (by decide) ?_
          exact xm_sub [1, 2, 0] rfl (L_X12_lex_j158 σ l0 l1 x6 (1 : Int32) l0 hf hR hE0 hE1 hE2 hC)
      · refine xm_aload_n dX12_lex_50 rfl ?_
        refine xm_iload_n dX12_lex_51 rfl ?_
        refine xb_if hf (fun hb hf => ?_) (fun _ q => nomatch q)
        obtain ⟨p15, ep15, hf⟩ := xbind hf
        refine xb_callV (As := [.int l1]) (v0 := (some (.int p15.1))) (τ0 := p15.2) dX12_lex_52 (xc_X12_number _ _) xcl12 xw_2135 xw_2137 xs_93 hb rfl (Nat.le_of_ble_eq_true rfl) rfl (Nat.le_of_ble_eq_true rfl) (fun Q1 hq => m_X12_number (d := d + 0) ep15 (fun g hg => by subst hg; exact hq)) ?_
        refine xm_istore_n dX12_lex_55 (by decide) (xm_stL (L' := [(3, .int p15.1), (2, .int x6), (0, .ref l0), (1, .int l1)]) rfl ?_)
        refine xm_iload_n dX12_lex_56 rfl ?_
        refine xb_if_ge 94 dX12_lex_57 (by decide) hf (fun c hf => ?_) (fun c hf => ?_)
        · refine xm_iload_n dX12_lex_94 rfl ?_
          refine xm_istore_n dX12_lex_95 (by decide) (xm_stL (L' := [(1, .int p15.1), (3, .int p15.1), (2, .int x6), (0, .ref l0)]) rfl ?_)
          refine xm_goto 182 dX12_lex_96 (by decide) ?_
          exact xm_sub [3, 0] rfl (L_X12_lex_j182 p15.2 l0 p15.1 hf hR hE0 hE1 hE2 hC)
        · cases hf
          exact xm_sub [2, 0] rfl (hE0 _ rfl)
    · refine xb_iinc dX12_lex_33 rfl (by decide) (by decide) hf (fun v16 ev16 hf => xm_stL (L' := [(1, .int v16), (2, .int x6), (0, .ref l0)]) rfl ?_)
      refine xm_goto 182 dX12_lex_36 (by decide) ?_
      exact xm_sub [2, 0] rfl (L_X12_lex_j182 σ l0 v16 hf hR hE0 hE1 hE2 hC)
theorem L_X12_lex_l12 {G : xG} {π : Nat → Nat} {d C Z : Nat} {Q : xQ} {s0 : (Nat × Int32 × xM)} {x : (xM ⊕ ((Nat × Int32 × xM) ⊕ ((xM) ⊕ (xM))))} (h1 : xloop (f_X12_lex_s12) xF s0 = some x) (hR : ∀ g, x = Sum.inl g → Q (.inl none) (g) π) (hE0 : ∀ e : (Nat × Int32 × xM), x = Sum.inr (Sum.inl e) → xMach G π J_X12_lex (d + 3) C Z 60 [(0, .ref e.1), (3, .int e.2.1)] [] e.2.2 Q) (hE1 : ∀ e : (xM), x = Sum.inr (Sum.inr (Sum.inl e)) → xMach G π J_X12_lex (d + 3) C Z 178 [] [] e Q) (hE2 : ∀ e : (xM), x = Sum.inr (Sum.inr (Sum.inr e)) → xMach G π J_X12_lex (d + 3) C Z 185 [] [] e Q) : xMach G π J_X12_lex (d + 3) C Z 12 [(0, .ref s0.1), (1, .int s0.2.1)] [] s0.2.2 Q := by
  refine xloop_run (M := (fun s : (Nat × Int32 × xM) => xMach G π J_X12_lex (d + 3) C Z 12 [(0, .ref s.1), (1, .int s.2.1)] [] s.2.2 Q)) (r := x) ?_ xF _ h1
  intro s y hs hx
  exact L_X12_lex_s12 s.2.2 s.1 s.2.1 (x := y) hs (fun g hg => by subst hg; exact hR g hx) (fun e he => by subst he; exact hE0 e hx) (fun e he => by subst he; exact hE1 e hx) (fun e he => by subst he; exact hE2 e hx) (fun e he => by subst he; exact hx)
def f_X12_lex_j93 (σ : xM)  : Option xM :=
  some σ
set_option maxHeartbeats 4000000 in
set_option maxRecDepth 20000 in
theorem L_X12_lex_j93 {G : xG} {π : Nat → Nat} {d C Z : Nat} {Q : xQ} (σ : xM)  {x : xM} (hf : f_X12_lex_j93 σ = some x) (hR : ∀ g, x = g → Q (.inl none) (g) π) : xMach G π J_X12_lex (d + 3) C Z 93 [] [] σ Q := by
  unfold f_X12_lex_j93 at hf
  cases hf
  exact xm_vret dX12_lex_93 rfl (hR _ rfl)
def f_X12_lex_j75 (σ : xM) (l0 : Nat) (l3 : Int32) (s0 : Int32) (s1 : Nat) : Option xM :=
  (sZ σ s1 12 26 s0).bind (fun σ18 => (gI σ18 l0 12 26).bind (fun x19 => (if x19 = (0 : Int32) then (if xk σ18 l0 12 = true then (f_X12_word σ18 l0 (-1 : Int32) (0 : Int32) (-l3)).bind (fun p20 => f_X12_lex_j93 p20) else none) else f_X12_lex_j93 σ18)))
set_option maxHeartbeats 4000000 in
set_option maxRecDepth 20000 in
theorem L_X12_lex_j75 {G : xG} {π : Nat → Nat} {d C Z : Nat} {Q : xQ} (σ : xM) (l0 : Nat) (l3 : Int32) (s0 : Int32) (s1 : Nat) {x : xM} (hf : f_X12_lex_j75 σ l0 l3 s0 s1 = some x) (hR : ∀ g, x = g → Q (.inl none) (g) π) : xMach G π J_X12_lex (d + 3) C Z 75 [(0, .ref l0), (3, .int l3)] [.int s0, .ref s1] σ Q := by
  unfold f_X12_lex_j75 at hf
  refine xb_putZ (a := s1) (c := 12) (k := 26) dX12_lex_75 xcl12 (by decide) xw_1863 rfl rfl hf (fun σ18 eσ18 hf => ?_)
  refine xm_aload_n dX12_lex_78 rfl ?_
  refine xb_getI (a := l0) (c := 12) (k := 26) dX12_lex_79 xcl12 (by decide) xw_1863 rfl hf (fun x19 ex19 hf => ?_)
  refine xb_if_ne 93 dX12_lex_82 (by decide) hf (fun c hf => ?_) (fun c hf => ?_)
  · exact xm_sub [] rfl (L_X12_lex_j93 σ18 hf hR)
  · refine xm_aload_n dX12_lex_85 rfl ?_
    refine xm_iconst dX12_lex_86 (v := -1) (by decide) ?_
    refine xm_iconst dX12_lex_87 (v := 0) (by decide) ?_
    refine xm_iload_n dX12_lex_88 rfl ?_
    refine xm_ineg dX12_lex_89 ?_
    refine xb_if hf (fun hb hf => ?_) (fun _ q => nomatch q)
    obtain ⟨p20, ep20, hf⟩ := xbind hf
    refine xb_callV (As := [.int (-1 : Int32), .int (0 : Int32), .int (-l3)]) (v0 := none) (τ0 := p20) dX12_lex_90 (xc_X12_word _ _) xcl12 xw_2146 xw_2148 xs_95 hb rfl (Nat.le_of_ble_eq_true rfl) rfl (Nat.le_of_ble_eq_true rfl) (fun Q1 hq => m_X12_word (d := d + 2) ep20 (fun g hg => by subst hg; exact hq)) ?_
    exact xm_sub [] rfl (L_X12_lex_j93 p20 hf hR)
def f_X12_lex_j60 (σ : xM) (l0 : Nat) (l3 : Int32) : Option xM :=
  (gI σ l0 12 19).bind (fun x17 => (if (-l3) = x17 then f_X12_lex_j75 σ l0 l3 (1 : Int32) l0 else f_X12_lex_j75 σ l0 l3 (0 : Int32) l0))
set_option maxHeartbeats 4000000 in
set_option maxRecDepth 20000 in
theorem L_X12_lex_j60 {G : xG} {π : Nat → Nat} {d C Z : Nat} {Q : xQ} (σ : xM) (l0 : Nat) (l3 : Int32) {x : xM} (hf : f_X12_lex_j60 σ l0 l3 = some x) (hR : ∀ g, x = g → Q (.inl none) (g) π) : xMach G π J_X12_lex (d + 3) C Z 60 [(0, .ref l0), (3, .int l3)] [] σ Q := by
  unfold f_X12_lex_j60 at hf
  refine xm_aload_n dX12_lex_60 rfl ?_
  refine xm_iload_n dX12_lex_61 rfl ?_
  refine xm_ineg dX12_lex_62 ?_
  refine xm_aload_n dX12_lex_63 rfl ?_
  refine xb_getI (a := l0) (c := 12) (k := 19) dX12_lex_64 xcl12 (by decide) xw_1856 rfl hf (fun x17 ex17 hf => ?_)
  refine xb_icmp_ne 74 dX12_lex_67 (by decide) hf (fun c hf => ?_) (fun c hf => ?_)
  · refine xm_iconst dX12_lex_74 (v := 0) (by decide) ?_
    exact xm_sub [0, 1] rfl (L_X12_lex_j75 σ l0 l3 (0 : Int32) l0 hf hR)
  · refine xm_iconst dX12_lex_70 (v := 1) (by decide) ?_
    refine xm_goto 75 dX12_lex_71 (by decide) ?_
    exact xm_sub [0, 1] rfl (L_X12_lex_j75 σ l0 l3 (1 : Int32) l0 hf hR)
def f_X12_lex_j178 (σ : xM)  : Option xM :=
  some σ
set_option maxHeartbeats 4000000 in
set_option maxRecDepth 20000 in
theorem L_X12_lex_j178 {G : xG} {π : Nat → Nat} {d C Z : Nat} {Q : xQ} (σ : xM)  {x : xM} (hf : f_X12_lex_j178 σ = some x) (hR : ∀ g, x = g → Q (.inl none) (g) π) : xMach G π J_X12_lex (d + 3) C Z 178 [] [] σ Q := by
  unfold f_X12_lex_j178 at hf
  cases hf
  exact xm_vret dX12_lex_178 rfl (hR _ rfl)
def f_X12_lex_j185 (σ : xM)  : Option xM :=
  some σ
set_option maxHeartbeats 4000000 in
set_option maxRecDepth 20000 in
theorem L_X12_lex_j185 {G : xG} {π : Nat → Nat} {d C Z : Nat} {Q : xQ} (σ : xM)  {x : xM} (hf : f_X12_lex_j185 σ = some x) (hR : ∀ g, x = g → Q (.inl none) (g) π) : xMach G π J_X12_lex (d + 3) C Z 185 [] [] σ Q := by
  unfold f_X12_lex_j185 at hf
  cases hf
  exact xm_vret dX12_lex_185 rfl (hR _ rfl)
def f_X12_lex (σ : xM) (l0 : Nat) : Option xM :=
  (sI σ l0 12 25 (0 : Int32)).bind (fun σ1 => (sZ σ1 l0 12 26 (0 : Int32)).bind (fun σ2 => xlet (0 : Int32) (fun v3 => (xloop (f_X12_lex_s12 ) xF (l0, v3, σ2)).bind (Sum.elim (fun g => some g) (Sum.elim (fun e => f_X12_lex_j60 e.2.2 e.1 e.2.1) (Sum.elim (fun e => f_X12_lex_j178 e) (fun e => f_X12_lex_j185 e)))))))
set_option maxHeartbeats 4000000 in
set_option maxRecDepth 20000 in
theorem m_X12_lex {G : xG} {π : Nat → Nat} {d C Z : Nat} {Q : xQ} {σ : xM} {l0 : Nat} {x : xM} (hf : f_X12_lex σ l0 = some x) (hR : ∀ g, x = g → Q (.inl none) (g) π) : xMach G π J_X12_lex (d + 3) C Z 0 (lv_args 0 [.ref l0]) [] σ Q := by
  unfold f_X12_lex at hf
  refine xm_stL (L' := [(0, .ref l0)]) rfl ?_
  refine xm_aload_n dX12_lex_0 rfl ?_
  refine xm_iconst dX12_lex_1 (v := 0) (by decide) ?_
  refine xb_putI (a := l0) (c := 12) (k := 25) dX12_lex_2 xcl12 (by decide) xw_1862 rfl rfl hf (fun σ1 eσ1 hf => ?_)
  refine xm_aload_n dX12_lex_5 rfl ?_
  refine xm_iconst dX12_lex_6 (v := 0) (by decide) ?_
  refine xb_putZ (a := l0) (c := 12) (k := 26) dX12_lex_7 xcl12 (by decide) xw_1863 rfl rfl hf (fun σ2 eσ2 hf => ?_)
  refine xm_iconst dX12_lex_10 (v := 0) (by decide) ?_
  refine xb_topi hf (fun v3 ev3 hf => ?_)
  refine xm_istore_n dX12_lex_11 (by decide) (xm_stL (L' := [(1, .int v3), (0, .ref l0)]) rfl ?_)
  obtain ⟨o, h1, hf⟩ := xbind hf
  refine xm_sub [1, 0] rfl (L_X12_lex_l12  h1 (fun g hg => ?_) (fun e he => ?_) (fun e he => ?_) (fun e he => ?_))
  · subst hg
    cases hf
    exact hR _ rfl
  · subst he
    rw [Sum.elim_inr, Sum.elim_inl] at hf
    have hf : f_X12_lex_j60 e.2.2 e.1 e.2.1 = some _ := hf
    exact xm_sub [0, 1] rfl (L_X12_lex_j60 e.2.2 e.1 e.2.1 hf hR)
  · subst he
    rw [Sum.elim_inr, Sum.elim_inr, Sum.elim_inl] at hf
    have hf : f_X12_lex_j178 e = some _ := hf
    exact xm_sub [] rfl (L_X12_lex_j178 e hf hR)
  · subst he
    rw [Sum.elim_inr, Sum.elim_inr, Sum.elim_inr] at hf
    have hf : f_X12_lex_j185 e = some _ := hf
    exact xm_sub [] rfl (L_X12_lex_j185 e hf hR)

