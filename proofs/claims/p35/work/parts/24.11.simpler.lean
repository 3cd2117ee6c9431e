def f_L_simpler_j296 (σ : xM) (s0 : Int32) : Option (Int32 × xM) :=
  (xz s0).bind (fun b21 => some (b21, σ))
set_option maxHeartbeats 4000000 in
set_option maxRecDepth 20000 in
theorem L_L_simpler_j296 {G : xG} {π : Nat → Nat} {d C Z : Nat} {Q : xQ} (σ : xM) (s0 : Int32) {x : (Int32 × xM)} (hf : f_L_simpler_j296 σ s0 = some x) (hR : ∀ g, x = g → Q (.inl (some (.int g.1))) (g.2) π) : xMach G π J_L_simpler (d + 9) C Z 296 [] [.int s0] σ Q := by
  unfold f_L_simpler_j296 at hf
  obtain ⟨b21, eb21, hf⟩ := xbind hf
  obtain ⟨rfl, hz⟩ := xz_of eb21
  cases hf
  exact xm_zret dL_simpler_296 rfl hz (hR _ rfl)
def f_L_simpler_j295 (σ : xM)  : Option (Int32 × xM) :=
  f_L_simpler_j296 σ (0 : Int32)
set_option maxHeartbeats 4000000 in
set_option maxRecDepth 20000 in
theorem L_L_simpler_j295 {G : xG} {π : Nat → Nat} {d C Z : Nat} {Q : xQ} (σ : xM)  {x : (Int32 × xM)} (hf : f_L_simpler_j295 σ = some x) (hR : ∀ g, x = g → Q (.inl (some (.int g.1))) (g.2) π) : xMach G π J_L_simpler (d + 9) C Z 295 [] [] σ Q := by
  unfold f_L_simpler_j295 at hf
  refine xm_iconst dL_simpler_295 (v := 0) (by decide) ?_
  exact xm_sub [] rfl (L_L_simpler_j296 σ (0 : Int32) hf hR)
def f_L_simpler_j270 (σ : xM) (l0 : Nat) (s0 : Int32) : Option (Int32 × xM) :=
  (if s0 = (0 : Int32) then f_L_simpler_j295 σ else (if xk σ l0 11 = true then (f_X11_undo σ l0).bind (fun p22 => (if p22.1 = (0 : Int32) then (if xk p22.2 l0 11 = true then (f_X11_undo p22.2 l0).bind (fun p23 => (if p23.1 = (0 : Int32) then f_L_simpler_j296 p23.2 (1 : Int32) else f_L_simpler_j295 p23.2)) else none) else f_L_simpler_j295 p22.2)) else none))
set_option maxHeartbeats 4000000 in
set_option maxRecDepth 20000 in
theorem L_L_simpler_j270 {G : xG} {π : Nat → Nat} {d C Z : Nat} {Q : xQ} (σ : xM) (l0 : Nat) (s0 : Int32) {x : (Int32 × xM)} (hf : f_L_simpler_j270 σ l0 s0 = some x) (hR : ∀ g, x = g → Q (.inl (some (.int g.1))) (g.2) π) : xMach G π J_L_simpler (d + 9) C Z 270 [(0, .ref l0)] [.int s0] σ Q := by
  unfold f_L_simpler_j270 at hf
  refine xm_istore dL_simpler_270 (by decide) (xm_stL (L' := [(7, .int s0), (0, .ref l0)]) rfl ?_)
  refine xm_iload dL_simpler_272 rfl ?_
  refine xb_if_eq 295 dL_simpler_274 (by decide) hf (fun c hf => ?_) (fun c hf => ?_)
  · exact xm_sub [] rfl (L_L_simpler_j295 σ hf hR)
  · refine xm_aload_n dL_simpler_277 rfl ?_
    refine xb_if hf (fun hb hf => ?_) (fun _ q => nomatch q)
    obtain ⟨p22, ep22, hf⟩ := xbind hf
    refine xb_callV (As := []) (v0 := (some (.int p22.1))) (τ0 := p22.2) dL_simpler_278 (xc_X11_undo _ _) xcl11 xw_1211 xw_1212 xw_1213 hb rfl (Nat.le_of_ble_eq_true rfl) rfl (Nat.le_of_ble_eq_true rfl) (fun Q1 hq => m_X11_undo (d := d + 4) ep22 (fun g hg => by subst hg; exact hq)) ?_
    refine xb_if_ne 295 dL_simpler_281 (by decide) hf (fun c hf => ?_) (fun c hf => ?_)
    · exact xm_sub [] rfl (L_L_simpler_j295 p22.2 hf hR)
    · refine xm_aload_n dL_simpler_284 rfl ?_
      refine xb_if hf (fun hb hf => ?_) (fun _ q => nomatch q)
      obtain ⟨p23, ep23, hf⟩ := xbind hf
      refine xb_callV (As := []) (v0 := (some (.int p23.1))) (τ0 := p23.2) dL_simpler_285 (xc_X11_undo _ _) xcl11 xw_1211 xw_1212 xw_1213 hb rfl (Nat.le_of_ble_eq_true rfl) rfl (Nat.le_of_ble_eq_true rfl) (fun Q1 hq => m_X11_undo (d := d + 4) ep23 (fun g hg => by subst hg; exact hq)) ?_
      refine xb_if_ne 295 dL_simpler_288 (by decide) hf (fun c hf => ?_) (fun c hf => ?_)
      · exact xm_sub [] rfl (L_L_simpler_j295 p23.2 hf hR)
      · refine xm_iconst dL_simpler_291 (v := 1) (by decide) ?_
        refine xm_goto 296 dL_simpler_292 (by decide) ?_
        exact xm_sub [] rfl (L_L_simpler_j296 p23.2 (1 : Int32) hf hR)
def f_L_simpler_j269 (σ : xM) (l0 : Nat) : Option (Int32 × xM) :=
  f_L_simpler_j270 σ l0 (0 : Int32)
set_option maxHeartbeats 4000000 in
set_option maxRecDepth 20000 in
theorem L_L_simpler_j269 {G : xG} {π : Nat → Nat} {d C Z : Nat} {Q : xQ} (σ : xM) (l0 : Nat) {x : (Int32 × xM)} (hf : f_L_simpler_j269 σ l0 = some x) (hR : ∀ g, x = g → Q (.inl (some (.int g.1))) (g.2) π) : xMach G π J_L_simpler (d + 9) C Z 269 [(0, .ref l0)] [] σ Q := by
  unfold f_L_simpler_j269 at hf
  refine xm_iconst dL_simpler_269 (v := 0) (by decide) ?_
  exact xm_sub [0] rfl (L_L_simpler_j270 σ l0 (0 : Int32) hf hR)
def f_L_simpler_j265 (σ : xM) (l0 : Nat) : Option (Int32 × xM) :=
  f_L_simpler_j270 σ l0 (1 : Int32)
set_option maxHeartbeats 4000000 in
set_option maxRecDepth 20000 in
theorem L_L_simpler_j265 {G : xG} {π : Nat → Nat} {d C Z : Nat} {Q : xQ} (σ : xM) (l0 : Nat) {x : (Int32 × xM)} (hf : f_L_simpler_j265 σ l0 = some x) (hR : ∀ g, x = g → Q (.inl (some (.int g.1))) (g.2) π) : xMach G π J_L_simpler (d + 9) C Z 265 [(0, .ref l0)] [] σ Q := by
  unfold f_L_simpler_j265 at hf
  refine xm_iconst dL_simpler_265 (v := 1) (by decide) ?_
  refine xm_goto 270 dL_simpler_266 (by decide) ?_
  exact xm_sub [0] rfl (L_L_simpler_j270 σ l0 (1 : Int32) hf hR)
def f_L_simpler_j225 (σ : xM) (l0 : Nat) (l4 : Int32) (l9 : Int32) (s0 : Int32) : Option (Int32 × xM) :=
  (if xk σ l0 11 = true then (f_X11_simplify σ l0 l9).bind (fun p18 => xlet p18.2 (fun σ20 => Sum.elim (fun w19 => (if s0 = (0 : Int32) then f_L_simpler_j269 σ20 l0 else (if xk σ20 l0 11 = true then (f_X11_isSame σ20 l0 w19 l4).bind (fun p24 => Sum.elim (fun w25 => (if w25 = (0 : Int32) then f_L_simpler_j269 σ20 l0 else (if w19 = l9 then f_L_simpler_j265 σ20 l0 else (if xk σ20 l0 11 = true then (f_X11_undo σ20 l0).bind (fun p26 => (if p26.1 = (0 : Int32) then f_L_simpler_j265 p26.2 l0 else f_L_simpler_j269 p26.2 l0)) else none)))) (fun _ => none) p24) else none))) (fun _ => none) p18.1)) else none)
set_option maxHeartbeats 4000000 in
set_option maxRecDepth 20000 in
theorem L_L_simpler_j225 {G : xG} {π : Nat → Nat} {d C Z : Nat} {Q : xQ} (σ : xM) (l0 : Nat) (l4 : Int32) (l9 : Int32) (s0 : Int32) {x : (Int32 × xM)} (hf : f_L_simpler_j225 σ l0 l4 l9 s0 = some x) (hR : ∀ g, x = g → Q (.inl (some (.int g.1))) (g.2) π) : xMach G π J_L_simpler (d + 9) C Z 225 [(0, .ref l0), (4, .int l4), (9, .int l9)] [.int s0] σ Q := by
  unfold f_L_simpler_j225 at hf
  refine xm_istore dL_simpler_225 (by decide) (xm_stL (L' := [(7, .int s0), (0, .ref l0), (4, .int l4), (9, .int l9)]) rfl ?_)
  refine xm_aload_n dL_simpler_227 rfl ?_
  refine xm_iload dL_simpler_228 rfl ?_
  refine xb_if hf (fun hb hf => ?_) (fun _ q => nomatch q)
  obtain ⟨p18, ep18, hf⟩ := xbind hf
  rcases p18 with ⟨w19 | E, σ20⟩
  · have hf : (if s0 = (0 : Int32) then f_L_simpler_j269 σ20 l0 else (if xk σ20 l0 11 = true then (f_X11_isSame σ20 l0 w19 l4).bind (fun p24 => Sum.elim (fun w25 => (if w25 = (0 : Int32) then f_L_simpler_j269 σ20 l0 else (if w19 = l9 then f_L_simpler_j265 σ20 l0 else (if xk σ20 l0 11 = true then (f_X11_undo σ20 l0).bind (fun p26 => (if p26.1 = (0 : Int32) then f_L_simpler_j265 p26.2 l0 else f_L_simpler_j269 p26.2 l0)) else none)))) (fun _ => none) p24) else none)) = some _ := hf
    refine xb_callV (As := [.int l9]) (v0 := (some (.int w19))) (τ0 := σ20) dL_simpler_230 (xc_X11_simplify _ _) xcl11 xw_1577 xw_1578 xw_1579 hb rfl (Nat.le_of_ble_eq_true rfl) rfl (Nat.le_of_ble_eq_true rfl) (fun Q1 hq => m_X11_simplify (d := d + 0) ep18 (fun g hg => by subst hg; exact hq)) ?_
    refine xm_istore dL_simpler_233 (by decide) (xm_stL (L' := [(10, .int w19), (7, .int s0), (0, .ref l0), (4, .int l4), (9, .int l9)]) rfl ?_)
    refine xm_iload dL_simpler_235 rfl ?_
    refine xb_if_eq 269 dL_simpler_237 (by decide) hf (fun c hf => ?_) (fun c hf => ?_)
    · exact xm_sub [2] rfl (L_L_simpler_j269 σ20 l0 hf hR)
    · refine xm_aload_n dL_simpler_240 rfl ?_
      refine xm_iload dL_simpler_241 rfl ?_
      refine xm_iload dL_simpler_243 rfl ?_
      refine xb_if hf (fun hb hf => ?_) (fun _ q => nomatch q)
      obtain ⟨p24, ep24, hf⟩ := xbind hf
      rcases p24 with w25 | E
      · rw [Sum.elim_inl] at hf
        have hf : (if w25 = (0 : Int32) then f_L_simpler_j269 σ20 l0 else (if w19 = l9 then f_L_simpler_j265 σ20 l0 else (if xk σ20 l0 11 = true then (f_X11_undo σ20 l0).bind (fun p26 => (if p26.1 = (0 : Int32) then f_L_simpler_j265 p26.2 l0 else f_L_simpler_j269 p26.2 l0)) else none))) = some _ := hf
        refine xb_callV (As := [.int w19, .int l4]) (v0 := (some (.int w25))) (τ0 := σ20) dL_simpler_245 (xc_X11_isSame _ _) xcl11 xw_1263 xw_1264 xw_1265 hb rfl (Nat.le_of_ble_eq_true rfl) rfl (Nat.le_of_ble_eq_true rfl) (fun Q1 hq => m_X11_isSame (d := d + 0) ep24 (fun g hg => by subst hg; exact hq)) ?_
        refine xb_if_eq 269 dL_simpler_248 (by decide) hf (fun c hf => ?_) (fun c hf => ?_)
        · exact xm_sub [2] rfl (L_L_simpler_j269 σ20 l0 hf hR)
        · refine xm_iload dL_simpler_251 rfl ?_
          refine xm_iload dL_simpler_253 rfl ?_
          refine xb_icmp_eq 265 dL_simpler_255 (by decide) hf (fun c hf => ?_) (fun c hf => ?_)
          · exact xm_sub [2] rfl (L_L_simpler_j265 σ20 l0 hf hR)
          · refine xm_aload_n dL_simpler_258 rfl ?_
            refine xb_if hf (fun hb hf => ?_) (fun _ q => nomatch q)
            obtain ⟨p26, ep26, hf⟩ := xbind hf
            refine xb_callV (As := []) (v0 := (some (.int p26.1))) (τ0 := p26.2) dL_simpler_259 (xc_X11_undo _ _) xcl11 xw_1211 xw_1212 xw_1213 hb rfl (Nat.le_of_ble_eq_true rfl) rfl (Nat.le_of_ble_eq_true rfl) (fun Q1 hq => m_X11_undo (d := d + 4) ep26 (fun g hg => by subst hg; exact hq)) ?_
            refine xb_if_ne 269 dL_simpler_262 (by decide) hf (fun c hf => ?_) (fun c hf => ?_)
            · exact xm_sub [2] rfl (L_L_simpler_j269 p26.2 l0 hf hR)
            · exact xm_sub [2] rfl (L_L_simpler_j265 p26.2 l0 hf hR)
      · cases hf
  · cases hf
def f_L_simpler_j224 (σ : xM) (l0 : Nat) (l4 : Int32) (l9 : Int32) : Option (Int32 × xM) :=
  f_L_simpler_j225 σ l0 l4 l9 (0 : Int32)
set_option maxHeartbeats 4000000 in
set_option maxRecDepth 20000 in
theorem L_L_simpler_j224 {G : xG} {π : Nat → Nat} {d C Z : Nat} {Q : xQ} (σ : xM) (l0 : Nat) (l4 : Int32) (l9 : Int32) {x : (Int32 × xM)} (hf : f_L_simpler_j224 σ l0 l4 l9 = some x) (hR : ∀ g, x = g → Q (.inl (some (.int g.1))) (g.2) π) : xMach G π J_L_simpler (d + 9) C Z 224 [(0, .ref l0), (4, .int l4), (9, .int l9)] [] σ Q := by
  unfold f_L_simpler_j224 at hf
  refine xm_iconst dL_simpler_224 (v := 0) (by decide) ?_
  exact xm_sub [0, 1, 2] rfl (L_L_simpler_j225 σ l0 l4 l9 (0 : Int32) hf hR)
def f_L_simpler_j163 (σ : xM) (l0 : Nat) (l1 : Int32) (l4 : Int32) (l5 : Int32) (l6 : Int32) (s0 : Int32) : Option (Int32 × xM) :=
  (if xk σ l0 11 = true then (f_X11_step σ l0 l1).bind (fun p15 => xlet p15.2 (fun σ17 => Sum.elim (fun w16 => (if s0 = (0 : Int32) then f_L_simpler_j224 σ17 l0 l4 w16 else (if xk σ17 l0 11 = true then (f_X11_trace σ17 l0 (0 : Int32) (0 : Int32)).bind (fun p27 => Sum.elim (fun w28 => (if w28 = l5 then (if xk σ17 l0 11 = true then (f_X11_trace σ17 l0 (0 : Int32) (1 : Int32)).bind (fun p29 => Sum.elim (fun w30 => (if w30 = l6 then (if xk σ17 l0 11 = true then (f_X11_trace σ17 l0 (1 : Int32) (0 : Int32)).bind (fun p31 => Sum.elim (fun w32 => (if w32 = (-1 : Int32) then (if xk σ17 l0 11 = true then (f_X11_simplify σ17 l0 l4).bind (fun p33 => xlet p33.2 (fun σ35 => Sum.elim (fun w34 => (if w34 = l4 then f_L_simpler_j225 σ35 l0 l4 w16 (1 : Int32) else f_L_simpler_j224 σ35 l0 l4 w16)) (fun _ => none) p33.1)) else none) else f_L_simpler_j224 σ17 l0 l4 w16)) (fun _ => none) p31) else none) else f_L_simpler_j224 σ17 l0 l4 w16)) (fun _ => none) p29) else none) else f_L_simpler_j224 σ17 l0 l4 w16)) (fun _ => none) p27) else none))) (fun _ => none) p15.1)) else none)
set_option maxHeartbeats 4000000 in
set_option maxRecDepth 20000 in
theorem L_L_simpler_j163 {G : xG} {π : Nat → Nat} {d C Z : Nat} {Q : xQ} (σ : xM) (l0 : Nat) (l1 : Int32) (l4 : Int32) (l5 : Int32) (l6 : Int32) (s0 : Int32) {x : (Int32 × xM)} (hf : f_L_simpler_j163 σ l0 l1 l4 l5 l6 s0 = some x) (hR : ∀ g, x = g → Q (.inl (some (.int g.1))) (g.2) π) : xMach G π J_L_simpler (d + 9) C Z 163 [(0, .ref l0), (1, .int l1), (4, .int l4), (5, .int l5), (6, .int l6)] [.int s0] σ Q := by
  unfold f_L_simpler_j163 at hf
  refine xm_istore dL_simpler_163 (by decide) (xm_stL (L' := [(7, .int s0), (0, .ref l0), (1, .int l1), (4, .int l4), (5, .int l5), (6, .int l6)]) rfl ?_)
  refine xm_aload_n dL_simpler_165 rfl ?_
  refine xm_iload_n dL_simpler_166 rfl ?_
  refine xb_if hf (fun hb hf => ?_) (fun _ q => nomatch q)
  obtain ⟨p15, ep15, hf⟩ := xbind hf
  rcases p15 with ⟨w16 | E, σ17⟩
  · have hf : (if s0 = (0 : Int32) then f_L_simpler_j224 σ17 l0 l4 w16 else (if xk σ17 l0 11 = true then (f_X11_trace σ17 l0 (0 : Int32) (0 : Int32)).bind (fun p27 => Sum.elim (fun w28 => (if w28 = l5 then (if xk σ17 l0 11 = true then (f_X11_trace σ17 l0 (0 : Int32) (1 : Int32)).bind (fun p29 => Sum.elim (fun w30 => (if w30 = l6 then (if xk σ17 l0 11 = true then (f_X11_trace σ17 l0 (1 : Int32) (0 : Int32)).bind (fun p31 => Sum.elim (fun w32 => (if w32 = (-1 : Int32) then (if xk σ17 l0 11 = true then (f_X11_simplify σ17 l0 l4).bind (fun p33 => xlet p33.2 (fun σ35 => Sum.elim (fun w34 => (if w34 = l4 then f_L_simpler_j225 σ35 l0 l4 w16 (1 : Int32) else f_L_simpler_j224 σ35 l0 l4 w16)) (fun _ => none) p33.1)) else none) else f_L_simpler_j224 σ17 l0 l4 w16)) (fun _ => none) p31) else none) else f_L_simpler_j224 σ17 l0 l4 w16)) (fun _ => none) p29) else none) else f_L_simpler_j224 σ17 l0 l4 w16)) (fun _ => none) p27) else none)) = some _ := hf
    refine xb_callV (As := [.int l1]) (v0 := (some (.int w16))) (τ0 := σ17) dL_simpler_167 (xc_X11_step _ _) xcl11 xw_1590 xw_1591 xw_1592 hb rfl (Nat.le_of_ble_eq_true rfl) rfl (Nat.le_of_ble_eq_true rfl) (fun Q1 hq => m_X11_step (d := d + 0) ep15 (fun g hg => by subst hg; exact hq)) ?_
    refine xm_istore dL_simpler_170 (by decide) (xm_stL (L' := [(9, .int w16), (7, .int s0), (0, .ref l0), (1, .int l1), (4, .int l4), (5, .int l5), (6, .int l6)]) rfl ?_)
    refine xm_iload dL_simpler_172 rfl ?_
    refine xb_if_eq 224 dL_simpler_174 (by decide) hf (fun c hf => ?_) (fun c hf => ?_)
    · exact xm_sub [2, 4, 0] rfl (L_L_simpler_j224 σ17 l0 l4 w16 hf hR)
    · refine xm_aload_n dL_simpler_177 rfl ?_
      refine xm_iconst dL_simpler_178 (v := 0) (by decide) ?_
      refine xm_iconst dL_simpler_179 (v := 0) (by decide) ?_
      refine xb_if hf (fun hb hf => ?_) (fun _ q => nomatch q)
      obtain ⟨p27, ep27, hf⟩ := xbind hf
      rcases p27 with w28 | E
      · rw [Sum.elim_inl] at hf
        have hf : (if w28 = l5 then (if xk σ17 l0 11 = true then (f_X11_trace σ17 l0 (0 : Int32) (1 : Int32)).bind (fun p29 => Sum.elim (fun w30 => (if w30 = l6 then (if xk σ17 l0 11 = true then (f_X11_trace σ17 l0 (1 : Int32) (0 : Int32)).bind (fun p31 => Sum.elim (fun w32 => (if w32 = (-1 : Int32) then (if xk σ17 l0 11 = true then (f_X11_simplify σ17 l0 l4).bind (fun p33 => xlet p33.2 (fun σ35 => Sum.elim (fun w34 => (if w34 = l4 then f_L_simpler_j225 σ35 l0 l4 w16 (1 : Int32) else f_L_simpler_j224 σ35 l0 l4 w16)) (fun _ => none) p33.1)) else none) else f_L_simpler_j224 σ17 l0 l4 w16)) (fun _ => none) p31) else none) else f_L_simpler_j224 σ17 l0 l4 w16)) (fun _ => none) p29) else none) else f_L_simpler_j224 σ17 l0 l4 w16) = some _ := hf
        refine xb_callV (As := [.int (0 : Int32), .int (0 : Int32)]) (v0 := (some (.int w28))) (τ0 := σ17) dL_simpler_180 (xc_X11_trace _ _) xcl11 xw_1585 xw_1586 xw_1587 hb rfl (Nat.le_of_ble_eq_true rfl) rfl (Nat.le_of_ble_eq_true rfl) (fun Q1 hq => m_X11_trace (d := d + 1) ep27 (fun g hg => by subst hg; exact hq)) ?_
        refine xm_iload dL_simpler_183 rfl ?_
        refine xb_icmp_ne 224 dL_simpler_185 (by decide) hf (fun c hf => ?_) (fun c hf => ?_)
        · exact xm_sub [2, 4, 0] rfl (L_L_simpler_j224 σ17 l0 l4 w16 hf hR)
        · refine xm_aload_n dL_simpler_188 rfl ?_
          refine xm_iconst dL_simpler_189 (v := 0) (by decide) ?_
          refine xm_iconst dL_simpler_190 (v := 1) (by decide) ?_
          refine xb_if hf (fun hb hf => ?_) (fun _ q => nomatch q)
          obtain ⟨p29, ep29, hf⟩ := xbind hf
          rcases p29 with w30 | E
          · rw [Sum.elim_inl] at hf
            have hf : (if w30 = l6 then (if xk σ17 l0 11 = true then (f_X11_trace σ17 l0 (1 : Int32) (0 : Int32)).bind (fun p31 => Sum.elim (fun w32 => (if w32 = (-1 : Int32) then (if xk σ17 l0 11 = true then (f_X11_simplify σ17 l0 l4).bind (fun p33 => xlet p33.2 (fun σ35 => Sum.elim (fun w34 => (if w34 = l4 then f_L_simpler_j225 σ35 l0 l4 w16 (1 : Int32) else f_L_simpler_j224 σ35 l0 l4 w16)) (fun _ => none) p33.1)) else none) else f_L_simpler_j224 σ17 l0 l4 w16)) (fun _ => none) p31) else none) else f_L_simpler_j224 σ17 l0 l4 w16) = some _ := hf
            refine xb_callV (As := [.int (0 : Int32), .int (1 : Int32)]) (v0 := (some (.int w30))) (τ0 := σ17) dL_simpler_191 (xc_X11_trace _ _) xcl11 xw_1585 xw_1586 xw_1587 hb rfl (Nat.le_of_ble_eq_true rfl) rfl (Nat.le_of_ble_eq_true rfl) (fun Q1 hq => m_X11_trace (d := d + 1) ep29 (fun g hg => by subst hg; exact hq)) ?_
            refine xm_iload dL_simpler_194 rfl ?_
            refine xb_icmp_ne 224 dL_simpler_196 (by decide) hf (fun c hf => ?_) (fun c hf => ?_)
            · exact xm_sub [2, 4, 0] rfl (L_L_simpler_j224 σ17 l0 l4 w16 hf hR)
            · refine xm_aload_n dL_simpler_199 rfl ?_
              refine xm_iconst dL_simpler_200 (v := 1) (by decide) ?_
              refine xm_iconst dL_simpler_201 (v := 0) (by decide) ?_
              refine xb_if hf (fun hb hf => ?_) (fun _ q => nomatch q)
              obtain ⟨p31, ep31, hf⟩ := xbind hf
              rcases p31 with w32 | E
              · rw [Sum.elim_inl] at hf
                have hf : (if w32 = (-1 : Int32) then (if xk σ17 l0 11 = true then (f_X11_simplify σ17 l0 l4).bind (fun p33 => xlet p33.2 (fun σ35 => Sum.elim (fun w34 => (if w34 = l4 then f_L_simpler_j225 σ35 l0 l4 w16 (1 : Int32) else f_L_simpler_j224 σ35 l0 l4 w16)) (fun _ => none) p33.1)) else none) else f_L_simpler_j224 σ17 l0 l4 w16) = some _ := hf
                refine xb_callV (As := [.int (1 : Int32), .int (0 : Int32)]) (v0 := (some (.int w32))) (τ0 := σ17) dL_simpler_202 (xc_X11_trace _ _) xcl11 xw_1585 xw_1586 xw_1587 hb rfl (Nat.le_of_ble_eq_true rfl) rfl (Nat.le_of_ble_eq_true rfl) (fun Q1 hq => m_X11_trace (d := d + 1) ep31 (fun g hg => by subst hg; exact hq)) ?_
                refine xm_iconst dL_simpler_205 (v := -1) (by decide) ?_
                refine xb_icmp_ne 224 dL_simpler_206 (by decide) hf (fun c hf => ?_) (fun c hf => ?_)
                · exact xm_sub [2, 4, 0] rfl (L_L_simpler_j224 σ17 l0 l4 w16 hf hR)
                · refine xm_aload_n dL_simpler_209 rfl ?_
                  refine xm_iload dL_simpler_210 rfl ?_
                  refine xb_if hf (fun hb hf => ?_) (fun _ q => nomatch q)
                  obtain ⟨p33, ep33, hf⟩ := xbind hf
                  rcases p33 with ⟨w34 | E, σ35⟩
                  · have hf : (if w34 = l4 then f_L_simpler_j225 σ35 l0 l4 w16 (1 : Int32) else f_L_simpler_j224 σ35 l0 l4 w16) = some _ := hf
                    refine xb_callV (As := [.int l4]) (v0 := (some (.int w34))) (τ0 := σ35) dL_simpler_212 (xc_X11_simplify _ _) xcl11 xw_1577 xw_1578 xw_1579 hb rfl (Nat.le_of_ble_eq_true rfl) rfl (Nat.le_of_ble_eq_true rfl) (fun Q1 hq => m_X11_simplify (d := d + 0) ep33 (fun g hg => by subst hg; exact hq)) ?_
                    refine xm_iload dL_simpler_215 rfl ?_
                    refine xb_icmp_ne 224 dL_simpler_217 (by decide) hf (fun c hf => ?_) (fun c hf => ?_)
                    · exact xm_sub [2, 4, 0] rfl (L_L_simpler_j224 σ35 l0 l4 w16 hf hR)
                    · refine xm_iconst dL_simpler_220 (v := 1) (by decide) ?_
                      refine xm_goto 225 dL_simpler_221 (by decide) ?_
                      exact xm_sub [2, 4, 0] rfl (L_L_simpler_j225 σ35 l0 l4 w16 (1 : Int32) hf hR)
                  · cases hf
              · cases hf
          · cases hf
      · cases hf
  · cases hf
def f_L_simpler_j162 (σ : xM) (l0 : Nat) (l1 : Int32) (l4 : Int32) (l5 : Int32) (l6 : Int32) : Option (Int32 × xM) :=
  f_L_simpler_j163 σ l0 l1 l4 l5 l6 (0 : Int32)
set_option maxHeartbeats 4000000 in
set_option maxRecDepth 20000 in
theorem L_L_simpler_j162 {G : xG} {π : Nat → Nat} {d C Z : Nat} {Q : xQ} (σ : xM) (l0 : Nat) (l1 : Int32) (l4 : Int32) (l5 : Int32) (l6 : Int32) {x : (Int32 × xM)} (hf : f_L_simpler_j162 σ l0 l1 l4 l5 l6 = some x) (hR : ∀ g, x = g → Q (.inl (some (.int g.1))) (g.2) π) : xMach G π J_L_simpler (d + 9) C Z 162 [(0, .ref l0), (1, .int l1), (4, .int l4), (5, .int l5), (6, .int l6)] [] σ Q := by
  unfold f_L_simpler_j162 at hf
  refine xm_iconst dL_simpler_162 (v := 0) (by decide) ?_
  exact xm_sub [0, 1, 2, 3, 4] rfl (L_L_simpler_j163 σ l0 l1 l4 l5 l6 (0 : Int32) hf hR)
def f_L_simpler_j158 (σ : xM) (l0 : Nat) (l1 : Int32) (l4 : Int32) (l5 : Int32) (l6 : Int32) : Option (Int32 × xM) :=
  f_L_simpler_j163 σ l0 l1 l4 l5 l6 (1 : Int32)
set_option maxHeartbeats 4000000 in
set_option maxRecDepth 20000 in
theorem L_L_simpler_j158 {G : xG} {π : Nat → Nat} {d C Z : Nat} {Q : xQ} (σ : xM) (l0 : Nat) (l1 : Int32) (l4 : Int32) (l5 : Int32) (l6 : Int32) {x : (Int32 × xM)} (hf : f_L_simpler_j158 σ l0 l1 l4 l5 l6 = some x) (hR : ∀ g, x = g → Q (.inl (some (.int g.1))) (g.2) π) : xMach G π J_L_simpler (d + 9) C Z 158 [(0, .ref l0), (1, .int l1), (4, .int l4), (5, .int l5), (6, .int l6)] [] σ Q := by
  unfold f_L_simpler_j158 at hf
  refine xm_iconst dL_simpler_158 (v := 1) (by decide) ?_
  refine xm_goto 163 dL_simpler_159 (by decide) ?_
  exact xm_sub [0, 1, 2, 3, 4] rfl (L_L_simpler_j163 σ l0 l1 l4 l5 l6 (1 : Int32) hf hR)
def f_L_simpler_j134 (σ : xM) (l0 : Nat) (l1 : Int32) (l2 : Int32) (l3 : Int32) (l4 : Int32) (l5 : Int32) (l6 : Int32) (l7 : Int32) (s0 : Int32) : Option (Int32 × xM) :=
  (if l7 = (0 : Int32) then f_L_simpler_j162 σ l0 l1 l4 l5 l6 else (if l2 = (0 : Int32) then (if s0 = (0 : Int32) then f_L_simpler_j158 σ l0 l1 l4 l5 l6 else (f_L_sum σ l0).bind (fun p36 => (if p36.1 = l3 then f_L_simpler_j158 p36.2 l0 l1 l4 l5 l6 else f_L_simpler_j162 p36.2 l0 l1 l4 l5 l6))) else f_L_simpler_j158 σ l0 l1 l4 l5 l6))
set_option maxHeartbeats 4000000 in
set_option maxRecDepth 20000 in
theorem L_L_simpler_j134 {G : xG} {π : Nat → Nat} {d C Z : Nat} {Q : xQ} (σ : xM) (l0 : Nat) (l1 : Int32) (l2 : Int32) (l3 : Int32) (l4 : Int32) (l5 : Int32) (l6 : Int32) (l7 : Int32) (s0 : Int32) {x : (Int32 × xM)} (hf : f_L_simpler_j134 σ l0 l1 l2 l3 l4 l5 l6 l7 s0 = some x) (hR : ∀ g, x = g → Q (.inl (some (.int g.1))) (g.2) π) : xMach G π J_L_simpler (d + 9) C Z 134 [(0, .ref l0), (1, .int l1), (2, .int l2), (3, .int l3), (4, .int l4), (5, .int l5), (6, .int l6), (7, .int l7)] [.int s0] σ Q := by
  unfold f_L_simpler_j134 at hf
  refine xm_istore dL_simpler_134 (by decide) (xm_stL (L' := [(8, .int s0), (0, .ref l0), (1, .int l1), (2, .int l2), (3, .int l3), (4, .int l4), (5, .int l5), (6, .int l6), (7, .int l7)]) rfl ?_)
  refine xm_iload dL_simpler_136 rfl ?_
  refine xb_if_eq 162 dL_simpler_138 (by decide) hf (fun c hf => ?_) (fun c hf => ?_)
  · exact xm_sub [1, 2, 5, 6, 7] rfl (L_L_simpler_j162 σ l0 l1 l4 l5 l6 hf hR)
  · refine xm_iload_n dL_simpler_141 rfl ?_
    refine xb_if_ne 158 dL_simpler_142 (by decide) hf (fun c hf => ?_) (fun c hf => ?_)
    · exact xm_sub [1, 2, 5, 6, 7] rfl (L_L_simpler_j158 σ l0 l1 l4 l5 l6 hf hR)
    · refine xm_iload dL_simpler_145 rfl ?_
      refine xb_if_eq 158 dL_simpler_147 (by decide) hf (fun c hf => ?_) (fun c hf => ?_)
      · exact xm_sub [1, 2, 5, 6, 7] rfl (L_L_simpler_j158 σ l0 l1 l4 l5 l6 hf hR)
      · refine xm_aload_n dL_simpler_150 rfl ?_
        obtain ⟨p36, ep36, hf⟩ := xbind hf
        refine xb_callS (As := [.ref l0]) (v0 := (some (.int p36.1))) (τ0 := p36.2) dL_simpler_151 (xc_L_sum _ _) xw_1541 xw_1542 rfl (Nat.le_of_ble_eq_true rfl) rfl (Nat.le_of_ble_eq_true rfl) (fun Q1 hq => m_L_sum (d := d + 0) (C := 0) (Z := 0) ep36 (fun g hg => by subst hg; exact hq)) ?_
        refine xm_iload_n dL_simpler_154 rfl ?_
        refine xb_icmp_ne 162 dL_simpler_155 (by decide) hf (fun c hf => ?_) (fun c hf => ?_)
        · exact xm_sub [1, 2, 5, 6, 7] rfl (L_L_simpler_j162 p36.2 l0 l1 l4 l5 l6 hf hR)
        · exact xm_sub [1, 2, 5, 6, 7] rfl (L_L_simpler_j158 p36.2 l0 l1 l4 l5 l6 hf hR)
def f_L_simpler_j118 (σ : xM) (l0 : Nat) (l1 : Int32) (l2 : Int32) (l3 : Int32) (l4 : Int32) (l5 : Int32) (l6 : Int32) (s0 : Int32) : Option (Int32 × xM) :=
  (if xk σ l0 11 = true then (f_X11_evaluate σ l0 l4).bind (fun p12 => xlet p12.2 (fun σ14 => Sum.elim (fun w13 => (if w13 = (0 : Int32) then f_L_simpler_j134 σ14 l0 l1 l2 l3 l4 l5 l6 s0 (1 : Int32) else f_L_simpler_j134 σ14 l0 l1 l2 l3 l4 l5 l6 s0 (0 : Int32))) (fun _ => none) p12.1)) else none)
set_option maxHeartbeats 4000000 in
set_option maxRecDepth 20000 in
theorem L_L_simpler_j118 {G : xG} {π : Nat → Nat} {d C Z : Nat} {Q : xQ} (σ : xM) (l0 : Nat) (l1 : Int32) (l2 : Int32) (l3 : Int32) (l4 : Int32) (l5 : Int32) (l6 : Int32) (s0 : Int32) {x : (Int32 × xM)} (hf : f_L_simpler_j118 σ l0 l1 l2 l3 l4 l5 l6 s0 = some x) (hR : ∀ g, x = g → Q (.inl (some (.int g.1))) (g.2) π) : xMach G π J_L_simpler (d + 9) C Z 118 [(0, .ref l0), (1, .int l1), (2, .int l2), (3, .int l3), (4, .int l4), (5, .int l5), (6, .int l6)] [.int s0] σ Q := by
  unfold f_L_simpler_j118 at hf
  refine xm_istore dL_simpler_118 (by decide) (xm_stL (L' := [(7, .int s0), (0, .ref l0), (1, .int l1), (2, .int l2), (3, .int l3), (4, .int l4), (5, .int l5), (6, .int l6)]) rfl ?_)
  refine xm_aload_n dL_simpler_120 rfl ?_
  refine xm_iload dL_simpler_121 rfl ?_
  refine xb_if hf (fun hb hf => ?_) (fun _ q => nomatch q)
  obtain ⟨p12, ep12, hf⟩ := xbind hf
  rcases p12 with ⟨w13 | E, σ14⟩
  · have hf : (if w13 = (0 : Int32) then f_L_simpler_j134 σ14 l0 l1 l2 l3 l4 l5 l6 s0 (1 : Int32) else f_L_simpler_j134 σ14 l0 l1 l2 l3 l4 l5 l6 s0 (0 : Int32)) = some _ := hf
    refine xb_callV (As := [.int l4]) (v0 := (some (.int w13))) (τ0 := σ14) dL_simpler_123 (xc_X11_evaluate _ _) xcl11 xw_1533 xw_1534 xw_1535 hb rfl (Nat.le_of_ble_eq_true rfl) rfl (Nat.le_of_ble_eq_true rfl) (fun Q1 hq => m_X11_evaluate (d := d + 0) ep12 (fun g hg => by subst hg; exact hq)) ?_
    refine xb_if_ne 133 dL_simpler_126 (by decide) hf (fun c hf => ?_) (fun c hf => ?_)
    · refine xm_iconst dL_simpler_133 (v := 0) (by decide) ?_
      exact xm_sub [1, 2, 3, 4, 5, 6, 7, 0] rfl (L_L_simpler_j134 σ14 l0 l1 l2 l3 l4 l5 l6 s0 (0 : Int32) hf hR)
    · refine xm_iconst dL_simpler_129 (v := 1) (by decide) ?_
      refine xm_goto 134 dL_simpler_130 (by decide) ?_
      exact xm_sub [1, 2, 3, 4, 5, 6, 7, 0] rfl (L_L_simpler_j134 σ14 l0 l1 l2 l3 l4 l5 l6 s0 (1 : Int32) hf hR)
  · cases hf
def f_L_simpler_j117 (σ : xM) (l0 : Nat) (l1 : Int32) (l2 : Int32) (l3 : Int32) (l4 : Int32) (l5 : Int32) (l6 : Int32) : Option (Int32 × xM) :=
  f_L_simpler_j118 σ l0 l1 l2 l3 l4 l5 l6 (0 : Int32)
set_option maxHeartbeats 4000000 in
set_option maxRecDepth 20000 in
theorem L_L_simpler_j117 {G : xG} {π : Nat → Nat} {d C Z : Nat} {Q : xQ} (σ : xM) (l0 : Nat) (l1 : Int32) (l2 : Int32) (l3 : Int32) (l4 : Int32) (l5 : Int32) (l6 : Int32) {x : (Int32 × xM)} (hf : f_L_simpler_j117 σ l0 l1 l2 l3 l4 l5 l6 = some x) (hR : ∀ g, x = g → Q (.inl (some (.int g.1))) (g.2) π) : xMach G π J_L_simpler (d + 9) C Z 117 [(0, .ref l0), (1, .int l1), (2, .int l2), (3, .int l3), (4, .int l4), (5, .int l5), (6, .int l6)] [] σ Q := by
  unfold f_L_simpler_j117 at hf
  refine xm_iconst dL_simpler_117 (v := 0) (by decide) ?_
  exact xm_sub [0, 1, 2, 3, 4, 5, 6] rfl (L_L_simpler_j118 σ l0 l1 l2 l3 l4 l5 l6 (0 : Int32) hf hR)
def f_L_simpler_j48 (σ : xM) (s0 : Int32) : Option (Int32 × xM) :=
  (xz s0).bind (fun b45 => some (b45, σ))
set_option maxHeartbeats 4000000 in
set_option maxRecDepth 20000 in
theorem L_L_simpler_j48 {G : xG} {π : Nat → Nat} {d C Z : Nat} {Q : xQ} (σ : xM) (s0 : Int32) {x : (Int32 × xM)} (hf : f_L_simpler_j48 σ s0 = some x) (hR : ∀ g, x = g → Q (.inl (some (.int g.1))) (g.2) π) : xMach G π J_L_simpler (d + 9) C Z 48 [] [.int s0] σ Q := by
  unfold f_L_simpler_j48 at hf
  obtain ⟨b45, eb45, hf⟩ := xbind hf
  obtain ⟨rfl, hz⟩ := xz_of eb45
  cases hf
  exact xm_zret dL_simpler_48 rfl hz (hR _ rfl)
def f_L_simpler_j47 (σ : xM)  : Option (Int32 × xM) :=
  f_L_simpler_j48 σ (0 : Int32)
set_option maxHeartbeats 4000000 in
set_option maxRecDepth 20000 in
theorem L_L_simpler_j47 {G : xG} {π : Nat → Nat} {d C Z : Nat} {Q : xQ} (σ : xM)  {x : (Int32 × xM)} (hf : f_L_simpler_j47 σ = some x) (hR : ∀ g, x = g → Q (.inl (some (.int g.1))) (g.2) π) : xMach G π J_L_simpler (d + 9) C Z 47 [] [] σ Q := by
  unfold f_L_simpler_j47 at hf
  refine xm_iconst dL_simpler_47 (v := 0) (by decide) ?_
  exact xm_sub [] rfl (L_L_simpler_j48 σ (0 : Int32) hf hR)
def f_L_simpler (σ : xM) (l0 : Nat) (l1 : Int32) : Option (Int32 × xM) :=
  (if xk σ l0 11 = true then (f_X11_evaluate σ l0 l1).bind (fun p1 => xlet p1.2 (fun σ3 => Sum.elim (fun w2 => (f_L_sum σ3 l0).bind (fun p4 => (if xk p4.2 l0 11 = true then (f_X11_simplify p4.2 l0 l1).bind (fun p5 => xlet p5.2 (fun σ7 => Sum.elim (fun w6 => (if w6 = l1 then (if xk σ7 l0 11 = true then (f_X11_trace σ7 l0 (0 : Int32) (0 : Int32)).bind (fun p43 => Sum.elim (fun w44 => (if w44 = (-1 : Int32) then (if xk σ7 l0 11 = true then (f_X11_step σ7 l0 l1).bind (fun p46 => xlet p46.2 (fun σ48 => Sum.elim (fun w47 => (if w47 = (-1 : Int32) then f_L_simpler_j48 σ48 (1 : Int32) else f_L_simpler_j47 σ48)) (fun _ => none) p46.1)) else none) else f_L_simpler_j47 σ7)) (fun _ => none) p43) else none) else (if xk σ7 l0 11 = true then (f_X11_trace σ7 l0 (0 : Int32) (0 : Int32)).bind (fun p8 => Sum.elim (fun w9 => (if xk σ7 l0 11 = true then (f_X11_trace σ7 l0 (0 : Int32) (1 : Int32)).bind (fun p10 => Sum.elim (fun w11 => (if w9 < (1 : Int32) then f_L_simpler_j117 σ7 l0 l1 w2 p4.1 w6 w9 w11 else (if (7 : Int32) < w9 then f_L_simpler_j117 σ7 l0 l1 w2 p4.1 w6 w9 w11 else (if w11 < (0 : Int32) then f_L_simpler_j117 σ7 l0 l1 w2 p4.1 w6 w9 w11 else (if xk σ7 l0 11 = true then (f_X11_node σ7 l0 l1 (0 : Int32) (5 : Int32)).bind (fun p37 => Sum.elim (fun w38 => (if w38 ≤ w11 then f_L_simpler_j117 σ7 l0 l1 w2 p4.1 w6 w9 w11 else (if xk σ7 l0 11 = true then (f_X11_node σ7 l0 w6 (0 : Int32) (5 : Int32)).bind (fun p39 => Sum.elim (fun w40 => (if xk σ7 l0 11 = true then (f_X11_node σ7 l0 l1 (0 : Int32) (5 : Int32)).bind (fun p41 => Sum.elim (fun w42 => (if w42 ≤ w40 then f_L_simpler_j117 σ7 l0 l1 w2 p4.1 w6 w9 w11 else f_L_simpler_j118 σ7 l0 l1 w2 p4.1 w6 w9 w11 (1 : Int32))) (fun _ => none) p41) else none)) (fun _ => none) p39) else none))) (fun _ => none) p37) else none))))) (fun _ => none) p10) else none)) (fun _ => none) p8) else none))) (fun _ => none) p5.1)) else none))) (fun _ => none) p1.1)) else none)
set_option maxHeartbeats 4000000 in
set_option maxRecDepth 20000 in
theorem m_L_simpler {G : xG} {π : Nat → Nat} {d C Z : Nat} {Q : xQ} {σ : xM} {l0 : Nat} {l1 : Int32} {x : (Int32 × xM)} (hf : f_L_simpler σ l0 l1 = some x) (hR : ∀ g, x = g → Q (.inl (some (.int g.1))) (g.2) π) : xMach G π J_L_simpler (d + 9) C Z 0 (lv_args 0 [.ref l0, .int l1]) [] σ Q := by
  unfold f_L_simpler at hf
  refine xm_stL (L' := [(0, .ref l0), (1, .int l1)]) rfl ?_
  refine xm_aload_n dL_simpler_0 rfl ?_
  refine xm_iload_n dL_simpler_1 rfl ?_
  refine xb_if hf (fun hb hf => ?_) (fun _ q => nomatch q)
  obtain ⟨p1, ep1, hf⟩ := xbind hf
  rcases p1 with ⟨w2 | E, σ3⟩
  · have hf : (f_L_sum σ3 l0).bind (fun p4 => (if xk p4.2 l0 11 = true then (f_X11_simplify p4.2 l0 l1).bind (fun p5 => xlet p5.2 (fun σ7 => Sum.elim (fun w6 => (if w6 = l1 then (if xk σ7 l0 11 = true then (f_X11_trace σ7 l0 (0 : Int32) (0 : Int32)).bind (fun p43 => Sum.elim (fun w44 => (if w44 = (-1 : Int32) then (if xk σ7 l0 11 = true then (f_X11_step σ7 l0 l1).bind (fun p46 => xlet p46.2 (fun σ48 => Sum.elim (fun w47 => (if w47 = (-1 : Int32) then f_L_simpler_j48 σ48 (1 : Int32) else f_L_simpler_j47 σ48)) (fun _ => none) p46.1)) else none) else f_L_simpler_j47 σ7)) (fun _ => none) p43) else none) else (if xk σ7 l0 11 = true then (f_X11_trace σ7 l0 (0 : Int32) (0 : Int32)).bind (fun p8 => Sum.elim (fun w9 => (if xk σ7 l0 11 = true then (f_X11_trace σ7 l0 (0 : Int32) (1 : Int32)).bind (fun p10 => Sum.elim (fun w11 => (if w9 < (1 : Int32) then f_L_simpler_j117 σ7 l0 l1 w2 p4.1 w6 w9 w11 else (if (7 : Int32) < w9 then f_L_simpler_j117 σ7 l0 l1 w2 p4.1 w6 w9 w11 else (if w11 < (0 : Int32) then f_L_simpler_j117 σ7 l0 l1 w2 p4.1 w6 w9 w11 else (if xk σ7 l0 11 = true then (f_X11_node σ7 l0 l1 (0 : Int32) (5 : Int32)).bind (fun p37 => Sum.elim (fun w38 => (if w38 ≤ w11 then f_L_simpler_j117 σ7 l0 l1 w2 p4.1 w6 w9 w11 else (if xk σ7 l0 11 = true then (f_X11_node σ7 l0 w6 (0 : Int32) (5 : Int32)).bind (fun p39 => Sum.elim (fun w40 => (if xk σ7 l0 11 = true then (f_X11_node σ7 l0 l1 (0 : Int32) (5 : Int32)).bind (fun p41 => Sum.elim (fun w42 => (if w42 ≤ w40 then f_L_simpler_j117 σ7 l0 l1 w2 p4.1 w6 w9 w11 else f_L_simpler_j118 σ7 l0 l1 w2 p4.1 w6 w9 w11 (1 : Int32))) (fun _ => none) p41) else none)) (fun _ => none) p39) else none))) (fun _ => none) p37) else none))))) (fun _ => none) p10) else none)) (fun _ => none) p8) else none))) (fun _ => none) p5.1)) else none)) = some _ := hf
    refine xb_callV (As := [.int l1]) (v0 := (some (.int w2))) (τ0 := σ3) dL_simpler_2 (xc_X11_evaluate _ _) xcl11 xw_1533 xw_1534 xw_1535 hb rfl (Nat.le_of_ble_eq_true rfl) rfl (Nat.le_of_ble_eq_true rfl) (fun Q1 hq => m_X11_evaluate (d := d + 0) ep1 (fun g hg => by subst hg; exact hq)) ?_
    refine xm_istore_n dL_simpler_5 (by decide) (xm_stL (L' := [(2, .int w2), (0, .ref l0), (1, .int l1)]) rfl ?_)
    refine xm_aload_n dL_simpler_6 rfl ?_
    obtain ⟨p4, ep4, hf⟩ := xbind hf
    refine xb_callS (As := [.ref l0]) (v0 := (some (.int p4.1))) (τ0 := p4.2) dL_simpler_7 (xc_L_sum _ _) xw_1541 xw_1542 rfl (Nat.le_of_ble_eq_true rfl) rfl (Nat.le_of_ble_eq_true rfl) (fun Q1 hq => m_L_sum (d := d + 0) (C := 0) (Z := 0) ep4 (fun g hg => by subst hg; exact hq)) ?_
    refine xm_istore_n dL_simpler_10 (by decide) (xm_stL (L' := [(3, .int p4.1), (2, .int w2), (0, .ref l0), (1, .int l1)]) rfl ?_)
    refine xm_aload_n dL_simpler_11 rfl ?_
    refine xm_iload_n dL_simpler_12 rfl ?_
    refine xb_if hf (fun hb hf => ?_) (fun _ q => nomatch q)
    obtain ⟨p5, ep5, hf⟩ := xbind hf
    rcases p5 with ⟨w6 | E, σ7⟩
    · have hf : (if w6 = l1 then (if xk σ7 l0 11 = true then (f_X11_trace σ7 l0 (0 : Int32) (0 : Int32)).bind (fun p43 => Sum.elim (fun w44 => (if w44 = (-1 : Int32) then (if xk σ7 l0 11 = true then (f_X11_step σ7 l0 l1).bind (fun p46 => xlet p46.2 (fun σ48 => Sum.elim (fun w47 => (if w47 = (-1 : Int32) then f_L_simpler_j48 σ48 (1 : Int32) else f_L_simpler_j47 σ48)) (fun _ => none) p46.1)) else none) else f_L_simpler_j47 σ7)) (fun _ => none) p43) else none) else (if xk σ7 l0 11 = true then (f_X11_trace σ7 l0 (0 : Int32) (0 : Int32)).bind (fun p8 => Sum.elim (fun w9 => (if xk σ7 l0 11 = true then (f_X11_trace σ7 l0 (0 : Int32) (1 : Int32)).bind (fun p10 => Sum.elim (fun w11 => (if w9 < (1 : Int32) then f_L_simpler_j117 σ7 l0 l1 w2 p4.1 w6 w9 w11 else (if (7 : Int32) < w9 then f_L_simpler_j117 σ7 l0 l1 w2 p4.1 w6 w9 w11 else (if w11 < (0 : Int32) then f_L_simpler_j117 σ7 l0 l1 w2 p4.1 w6 w9 w11 else (if xk σ7 l0 11 = true then (f_X11_node σ7 l0 l1 (0 : Int32) (5 : Int32)).bind (fun p37 => Sum.elim (fun w38 => (if w38 ≤ w11 then f_L_simpler_j117 σ7 l0 l1 w2 p4.1 w6 w9 w11 else (if xk σ7 l0 11 = true then (f_X11_node σ7 l0 w6 (0 : Int32) (5 : Int32)).bind (fun p39 => Sum.elim (fun w40 => (if xk σ7 l0 11 = true then (f_X11_node σ7 l0 l1 (0 : Int32) (5 : Int32)).bind (fun p41 => Sum.elim (fun w42 => (if w42 ≤ w40 then f_L_simpler_j117 σ7 l0 l1 w2 p4.1 w6 w9 w11 else f_L_simpler_j118 σ7 l0 l1 w2 p4.1 w6 w9 w11 (1 : Int32))) (fun _ => none) p41) else none)) (fun _ => none) p39) else none))) (fun _ => none) p37) else none))))) (fun _ => none) p10) else none)) (fun _ => none) p8) else none)) = some _ := hf
      refine xb_callV (As := [.int l1]) (v0 := (some (.int w6))) (τ0 := σ7) dL_simpler_13 (xc_X11_simplify _ _) xcl11 xw_1577 xw_1578 xw_1579 hb rfl (Nat.le_of_ble_eq_true rfl) rfl (Nat.le_of_ble_eq_true rfl) (fun Q1 hq => m_X11_simplify (d := d + 0) ep5 (fun g hg => by subst hg; exact hq)) ?_
      refine xm_istore dL_simpler_16 (by decide) (xm_stL (L' := [(4, .int w6), (3, .int p4.1), (2, .int w2), (0, .ref l0), (1, .int l1)]) rfl ?_)
      refine xm_iload dL_simpler_18 rfl ?_
      refine xm_iload_n dL_simpler_20 rfl ?_
      refine xb_icmp_ne 49 dL_simpler_21 (by decide) hf (fun c hf => ?_) (fun c hf => ?_)
      · refine xm_aload_n dL_simpler_49 rfl ?_
        refine xm_iconst dL_simpler_50 (v := 0) (by decide) ?_
        refine xm_iconst dL_simpler_51 (v := 0) (by decide) ?_
        refine xb_if hf (fun hb hf => ?_) (fun _ q => nomatch q)
        obtain ⟨p8, ep8, hf⟩ := xbind hf
        rcases p8 with w9 | E
        · rw [Sum.elim_inl] at hf
          have hf : (if xk σ7 l0 11 = true then (f_X11_trace σ7 l0 (0 : Int32) (1 : Int32)).bind (fun p10 => Sum.elim (fun w11 => (if w9 < (1 : Int32) then f_L_simpler_j117 σ7 l0 l1 w2 p4.1 w6 w9 w11 else (if (7 : Int32) < w9 then f_L_simpler_j117 σ7 l0 l1 w2 p4.1 w6 w9 w11 else (if w11 < (0 : Int32) then f_L_simpler_j117 σ7 l0 l1 w2 p4.1 w6 w9 w11 else (if xk σ7 l0 11 = true then (f_X11_node σ7 l0 l1 (0 : Int32) (5 : Int32)).bind (fun p37 => Sum.elim (fun w38 => (if w38 ≤ w11 then f_L_simpler_j117 σ7 l0 l1 w2 p4.1 w6 w9 w11 else (if xk σ7 l0 11 = true then (f_X11_node σ7 l0 w6 (0 : Int32) (5 : Int32)).bind (fun p39 => Sum.elim (fun w40 => (if xk σ7 l0 11 = true then (f_X11_node σ7 l0 l1 (0 : Int32) (5 : Int32)).bind (fun p41 => Sum.elim (fun w42 => (if w42 ≤ w40 then f_L_simpler_j117 σ7 l0 l1 w2 p4.1 w6 w9 w11 else f_L_simpler_j118 σ7 l0 l1 w2 p4.1 w6 w9 w11 (1 : Int32))) (fun _ => none) p41) else none)) (fun _ => none) p39) else none))) (fun _ => none) p37) else none))))) (fun _ => none) p10) else none) = some _ := hf
          refine xb_callV (As := [.int (0 : Int32), .int (0 : Int32)]) (v0 := (some (.int w9))) (τ0 := σ7) dL_simpler_52 (xc_X11_trace _ _) xcl11 xw_1585 xw_1586 xw_1587 hb rfl (Nat.le_of_ble_eq_true rfl) rfl (Nat.le_of_ble_eq_true rfl) (fun Q1 hq => m_X11_trace (d := d + 1) ep8 (fun g hg => by subst hg; exact hq)) ?_
          refine xm_istore dL_simpler_55 (by decide) (xm_stL (L' := [(5, .int w9), (4, .int w6), (3, .int p4.1), (2, .int w2), (0, .ref l0), (1, .int l1)]) rfl ?_)
          refine xm_aload_n dL_simpler_57 rfl ?_
          refine xm_iconst dL_simpler_58 (v := 0) (by decide) ?_
          refine xm_iconst dL_simpler_59 (v := 1) (by decide) ?_
          refine xb_if hf (fun hb hf => ?_) (fun _ q => nomatch q)
          obtain ⟨p10, ep10, hf⟩ := xbind hf
          rcases p10 with w11 | E
          · rw [Sum.elim_inl] at hf
            have hf : (if w9 < (1 : Int32) then f_L_simpler_j117 σ7 l0 l1 w2 p4.1 w6 w9 w11 else (if (7 : Int32) < w9 then f_L_simpler_j117 σ7 l0 l1 w2 p4.1 w6 w9 w11 else (if w11 < (0 : Int32) then f_L_simpler_j117 σ7 l0 l1 w2 p4.1 w6 w9 w11 else (if xk σ7 l0 11 = true then (f_X11_node σ7 l0 l1 (0 : Int32) (5 : Int32)).bind (fun p37 => Sum.elim (fun w38 => (if w38 ≤ w11 then f_L_simpler_j117 σ7 l0 l1 w2 p4.1 w6 w9 w11 else (if xk σ7 l0 11 = true then (f_X11_node σ7 l0 w6 (0 : Int32) (5 : Int32)).bind (fun p39 => Sum.elim (fun w40 => (if xk σ7 l0 11 = true then (f_X11_node σ7 l0 l1 (0 : Int32) (5 : Int32)).bind (fun p41 => Sum.elim (fun w42 => (if w42 ≤ w40 then f_L_simpler_j117 σ7 l0 l1 w2 p4.1 w6 w9 w11 else f_L_simpler_j118 σ7 l0 l1 w2 p4.1 w6 w9 w11 (1 : Int32))) (fun _ => none) p41) else none)) (fun _ => none) p39) else none))) (fun _ => none) p37) else none)))) = some _ := hf
            refine xb_callV (As := [.int (0 : Int32), .int (1 : Int32)]) (v0 := (some (.int w11))) (τ0 := σ7) dL_simpler_60 (xc_X11_trace _ _) xcl11 xw_1585 xw_1586 xw_1587 hb rfl (Nat.le_of_ble_eq_true rfl) rfl (Nat.le_of_ble_eq_true rfl) (fun Q1 hq => m_X11_trace (d := d + 1) ep10 (fun g hg => by subst hg; exact hq)) ?_
            refine xm_istore dL_simpler_63 (by decide) (xm_stL (L' := [(6, .int w11), (5, .int w9), (4, .int w6), (3, .int p4.1), (2, .int w2), (0, .ref l0), (1, .int l1)]) rfl ?_)
            refine xm_iload dL_simpler_65 rfl ?_
            refine xm_iconst dL_simpler_67 (v := 1) (by decide) ?_
            refine xb_icmp_lt 117 dL_simpler_68 (by decide) hf (fun c hf => ?_) (fun c hf => ?_)
            · exact xm_sub [5, 6, 4, 3, 2, 1, 0] rfl (L_L_simpler_j117 σ7 l0 l1 w2 p4.1 w6 w9 w11 hf hR)
            · refine xm_iload dL_simpler_71 rfl ?_
              refine xm_bipush dL_simpler_73 (v := 7) (by decide) ?_
              refine xb_icmp_gt 117 dL_simpler_75 (by decide) hf (fun c hf => ?_) (fun c hf => ?_)
              · exact xm_sub [5, 6, 4, 3, 2, 1, 0] rfl (L_L_simpler_j117 σ7 l0 l1 w2 p4.1 w6 w9 w11 hf hR)
              · refine xm_iload dL_simpler_78 rfl ?_
                refine xb_if_lt 117 dL_simpler_80 (by decide) hf (fun c hf => ?_) (fun c hf => ?_)
                · exact xm_sub [5, 6, 4, 3, 2, 1, 0] rfl (L_L_simpler_j117 σ7 l0 l1 w2 p4.1 w6 w9 w11 hf hR)
                · refine xm_iload dL_simpler_83 rfl ?_
                  refine xm_aload_n dL_simpler_85 rfl ?_
                  refine xm_iload_n dL_simpler_86 rfl ?_
                  refine xm_iconst dL_simpler_87 (v := 0) (by decide) ?_
                  refine xm_iconst dL_simpler_88 (v := 5) (by decide) ?_
                  refine xb_if hf (fun hb hf => ?_) (fun _ q => nomatch q)
                  obtain ⟨p37, ep37, hf⟩ := xbind hf
                  rcases p37 with w38 | E
                  · rw [Sum.elim_inl] at hf
                    have hf : (if w38 ≤ w11 then f_L_simpler_j117 σ7 l0 l1 w2 p4.1 w6 w9 w11 else (if xk σ7 l0 11 = true then (f_X11_node σ7 l0 w6 (0 : Int32) (5 : Int32)).bind (fun p39 => Sum.elim (fun w40 => (if xk σ7 l0 11 = true then (f_X11_node σ7 l0 l1 (0 : Int32) (5 : Int32)).bind (fun p41 => Sum.elim (fun w42 => (if w42 ≤ w40 then f_L_simpler_j117 σ7 l0 l1 w2 p4.1 w6 w9 w11 else f_L_simpler_j118 σ7 l0 l1 w2 p4.1 w6 w9 w11 (1 : Int32))) (fun _ => none) p41) else none)) (fun _ => none) p39) else none)) = some _ := hf
                    refine xb_callV (As := [.int l1, .int (0 : Int32), .int (5 : Int32)]) (v0 := (some (.int w38))) (τ0 := σ7) dL_simpler_89 (xc_X11_node _ _) xcl11 xw_1249 xw_1250 xw_1251 hb rfl (Nat.le_of_ble_eq_true rfl) rfl (Nat.le_of_ble_eq_true rfl) (fun Q1 hq => m_X11_node (d := d + 0) ep37 (fun g hg => by subst hg; exact hq)) ?_
                    refine xb_icmp_ge 117 dL_simpler_92 (by decide) hf (fun c hf => ?_) (fun c hf => ?_)
                    · exact xm_sub [5, 6, 4, 3, 2, 1, 0] rfl (L_L_simpler_j117 σ7 l0 l1 w2 p4.1 w6 w9 w11 hf hR)
                    · refine xm_aload_n dL_simpler_95 rfl ?_
                      refine xm_iload dL_simpler_96 rfl ?_
                      refine xm_iconst dL_simpler_98 (v := 0) (by decide) ?_
                      refine xm_iconst dL_simpler_99 (v := 5) (by decide) ?_
                      refine xb_if hf (fun hb hf => ?_) (fun _ q => nomatch q)
                      obtain ⟨p39, ep39, hf⟩ := xbind hf
                      rcases p39 with w40 | E
                      · rw [Sum.elim_inl] at hf
                        have hf : (if xk σ7 l0 11 = true then (f_X11_node σ7 l0 l1 (0 : Int32) (5 : Int32)).bind (fun p41 => Sum.elim (fun w42 => (if w42 ≤ w40 then f_L_simpler_j117 σ7 l0 l1 w2 p4.1 w6 w9 w11 else f_L_simpler_j118 σ7 l0 l1 w2 p4.1 w6 w9 w11 (1 : Int32))) (fun _ => none) p41) else none) = some _ := hf
                        refine xb_callV (As := [.int w6, .int (0 : Int32), .int (5 : Int32)]) (v0 := (some (.int w40))) (τ0 := σ7) dL_simpler_100 (xc_X11_node _ _) xcl11 xw_1249 xw_1250 xw_1251 hb rfl (Nat.le_of_ble_eq_true rfl) rfl (Nat.le_of_ble_eq_true rfl) (fun Q1 hq => m_X11_node (d := d + 0) ep39 (fun g hg => by subst hg; exact hq)) ?_
                        refine xm_aload_n dL_simpler_103 rfl ?_
                        refine xm_iload_n dL_simpler_104 rfl ?_
                        refine xm_iconst dL_simpler_105 (v := 0) (by decide) ?_
                        refine xm_iconst dL_simpler_106 (v := 5) (by decide) ?_
                        refine xb_if hf (fun hb hf => ?_) (fun _ q => nomatch q)
                        obtain ⟨p41, ep41, hf⟩ := xbind hf
                        rcases p41 with w42 | E
                        · rw [Sum.elim_inl] at hf
                          have hf : (if w42 ≤ w40 then f_L_simpler_j117 σ7 l0 l1 w2 p4.1 w6 w9 w11 else f_L_simpler_j118 σ7 l0 l1 w2 p4.1 w6 w9 w11 (1 : Int32)) = some _ := hf
                          refine xb_callV (As := [.int l1, .int (0 : Int32), .int (5 : Int32)]) (v0 := (some (.int w42))) (τ0 := σ7) dL_simpler_107 (xc_X11_node _ _) xcl11 xw_1249 xw_1250 xw_1251 hb rfl (Nat.le_of_ble_eq_true rfl) rfl (Nat.le_of_ble_eq_true rfl) (fun Q1 hq => m_X11_node (d := d + 0) ep41 (fun g hg => by subst hg; exact hq)) ?_
                          refine xb_icmp_ge 117 dL_simpler_110 (by decide) hf (fun c hf => ?_) (fun c hf => ?_)
                          · exact xm_sub [5, 6, 4, 3, 2, 1, 0] rfl (L_L_simpler_j117 σ7 l0 l1 w2 p4.1 w6 w9 w11 hf hR)
                          · refine xm_iconst dL_simpler_113 (v := 1) (by decide) ?_
                            refine xm_goto 118 dL_simpler_114 (by decide) ?_
                            exact xm_sub [5, 6, 4, 3, 2, 1, 0] rfl (L_L_simpler_j118 σ7 l0 l1 w2 p4.1 w6 w9 w11 (1 : Int32) hf hR)
                        · cases hf
                      · cases hf
                  · cases hf
          · cases hf
        · cases hf
      · refine xm_aload_n dL_simpler_24 rfl ?_
        refine xm_iconst dL_simpler_25 (v := 0) (by decide) ?_
        refine xm_iconst dL_simpler_26 (v := 0) (by decide) ?_
        refine xb_if hf (fun hb hf => ?_) (fun _ q => nomatch q)
        obtain ⟨p43, ep43, hf⟩ := xbind hf
        rcases p43 with w44 | E
        · rw [Sum.elim_inl] at hf
          have hf : (if w44 = (-1 : Int32) then (if xk σ7 l0 11 = true then (f_X11_step σ7 l0 l1).bind (fun p46 => xlet p46.2 (fun σ48 => Sum.elim (fun w47 => (if w47 = (-1 : Int32) then f_L_simpler_j48 σ48 (1 : Int32) else f_L_simpler_j47 σ48)) (fun _ => none) p46.1)) else none) else f_L_simpler_j47 σ7) = some _ := hf
          refine xb_callV (As := [.int (0 : Int32), .int (0 : Int32)]) (v0 := (some (.int w44))) (τ0 := σ7) dL_simpler_27 (xc_X11_trace _ _) xcl11 xw_1585 xw_1586 xw_1587 hb rfl (Nat.le_of_ble_eq_true rfl) rfl (Nat.le_of_ble_eq_true rfl) (fun Q1 hq => m_X11_trace (d := d + 1) ep43 (fun g hg => by subst hg; exact hq)) ?_
          refine xm_iconst dL_simpler_30 (v := -1) (by decide) ?_
          refine xb_icmp_ne 47 dL_simpler_31 (by decide) hf (fun c hf => ?_) (fun c hf => ?_)
          · exact xm_sub [] rfl (L_L_simpler_j47 σ7 hf hR)
          · refine xm_aload_n dL_simpler_34 rfl ?_
            refine xm_iload_n dL_simpler_35 rfl ?_
            refine xb_if hf (fun hb hf => ?_) (fun _ q => nomatch q)
            obtain ⟨p46, ep46, hf⟩ := xbind hf
            rcases p46 with ⟨w47 | E, σ48⟩
            · have hf : (if w47 = (-1 : Int32) then f_L_simpler_j48 σ48 (1 : Int32) else f_L_simpler_j47 σ48) = some _ := hf
              refine xb_callV (As := [.int l1]) (v0 := (some (.int w47))) (τ0 := σ48) dL_simpler_36 (xc_X11_step _ _) xcl11 xw_1590 xw_1591 xw_1592 hb rfl (Nat.le_of_ble_eq_true rfl) rfl (Nat.le_of_ble_eq_true rfl) (fun Q1 hq => m_X11_step (d := d + 0) ep46 (fun g hg => by subst hg; exact hq)) ?_
              refine xm_iconst dL_simpler_39 (v := -1) (by decide) ?_
              refine xb_icmp_ne 47 dL_simpler_40 (by decide) hf (fun c hf => ?_) (fun c hf => ?_)
              · exact xm_sub [] rfl (L_L_simpler_j47 σ48 hf hR)
              · refine xm_iconst dL_simpler_43 (v := 1) (by decide) ?_
                refine xm_goto 48 dL_simpler_44 (by decide) ?_
                exact xm_sub [] rfl (L_L_simpler_j48 σ48 (1 : Int32) hf hR)
            · cases hf
        · cases hf
    · cases hf
  · cases hf
-- law: sound
