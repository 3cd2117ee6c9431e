/-! tell, at any state -/
section EW
variable {I : Nat → Nat → Int32} {J : Nat → Nat → Int64} {R : Nat → Nat → Option Nat}
theorem g_tell {P : xM → Prop} (hP0 : P (mg 4625 (thI I 1) J R)) (hP1 : P (mg 4625 (thI I 2) J R)) (hG : ∀ (x1 : Int32) (k p fx : Nat) (rk sd mn : Int32), ch x1 = Int32.ofNat k → k < 128 → plc k = Int32.ofNat p → p < 16 → fx ≤ 2 → OpOK fx rk sd mn → ¬ Hind I fx p rk sd → (∀ r, (f_X1_tellOperator (mg 4625 I J R) 11 (Int32.ofNat k) (Int32.ofNat fx) rk sd mn).bind (fun p10 => some ((Sum.inl (I 13 (fx * 16 + p)) : Int32 ⊕ String), p10)) = r → f_X11_tell (mg 4625 I J R) 0 (ch x1) (Int32.ofNat fx) rk sd mn = r) → (∀ J I, f_X12_tell (mg 4625 I J R) 4561 (ch x1) (Int32.ofNat fx) rk sd mn = f_X12_tell_j64 (mg 4625 I J R) 4561 (Int32.ofNat fx) rk sd mn (Int32.ofNat (sgp p)) 1) → opW P (f_L_tell (mg 4625 I J R) 0 (ch x1) (Int32.ofNat fx) rk sd mn 4624) (fun σ => f_X12_tell σ 4561 (ch x1) (Int32.ofNat fx) rk sd mn))
    (hR : RA R) (h12 : I 12 = plc) (tr : TabRel I) : op_tell P (mg 4625 I J R) := by
  intro x1 x2 x3 x4 x5
  have bad : f_X11_tell (mg 4625 I J R) 0 (ch x1) x2 x3 x4 x5 = some (.inr "java/lang/IllegalArgumentException", mg 4625 I J R) → f_X12_tell (mg 4625 I J R) 4561 (ch x1) x2 x3 x4 x5 = some (0, mg 4625 (thI I 1) J R) → opW P (f_L_tell (mg 4625 I J R) 0 (ch x1) x2 x3 x4 x5 4624) (fun σ => f_X12_tell σ 4561 (ch x1) x2 x3 x4 x5) := fun e0 e2 => by
    have e1 : f_L_tell (mg 4625 I J R) 0 (ch x1) x2 x3 x4 x5 4624 = some (1, mg 4625 I J R) := by
      unfold f_L_tell
      refine xb_iq ok_0 (xb_eq e0 ?_)
      simp only [xlet, Sum.elim_inr, ↓reduceIte, String.reduceEq]
    exact op_ex e1 e2 thI_0 (by decide) hP0
  obtain ⟨k, hk, ek⟩ := ch_dom x1
  rcases sgn_dom hk with ⟨h1, h2⟩ | ⟨p, hp, hk1, h1, h2⟩
  · refine bad ?_ ?_
    · rw [ek]
      unfold f_X11_tell
      refine xb_eq (ogR_0_2 hR) (xb_iq ok_11 (xb_eq (c_isSign0 hR h12 hk h1) ?_))
      rw [if_pos rfl]
      rfl
    · rw [ek]
      unfold f_X12_tell
      refine xb_eq (h2 _) ?_
      rw [if_pos rfl]
      exact m_tell_bad
  · have hneg : ¬ (Int32.ofNat (sgp p) = -1) := fun q => by
      have := i32_0le (k := sgp p) (by have := sgp_lt p hp; omega)
      rw [q] at this
      exact absurd this (by decide)
    by_cases hf0 : (0 : Int32) ≤ x2 ∧ x2 ≤ (2 : Int32)
    · obtain ⟨fx, hfx, rfl⟩ := rng_dom (m := 2) (by decide) hf0.1 hf0.2
      by_cases hop : OpOK fx x3 x4 x5
      · -- an operator
        have m1 : ∀ J I, f_X12_tell (mg 4625 I J R) 4561 (ch x1) (Int32.ofNat fx) x3 x4 x5 = f_X12_tell_j64 (mg 4625 I J R) 4561 (Int32.ofNat fx) x3 x4 x5 (Int32.ofNat (sgp p)) 1 := fun J I => by
          rw [ek]
          unfold f_X12_tell
          refine xb_eq (h2 _) ?_
          rw [if_neg hneg]
          refine xb_eq (m_in1 hf0.1 hf0.2) ?_
          rw [if_neg (by decide)]
          refine xb_eq (m_in1 hop.1.1 hop.1.2) ?_
          rw [if_neg (by decide)]
          have j44 : ∀ c : Int32, c = (if fx = 2 then 2 else 0) → f_X12_tell_j44 (mg 4625 I J R) 4561 (Int32.ofNat fx) x3 x4 x5 (Int32.ofNat (sgp p)) c 0 x4 = f_X12_tell_j64 (mg 4625 I J R) 4561 (Int32.ofNat fx) x3 x4 x5 (Int32.ofNat (sgp p)) 1 := fun c hc => by
            unfold f_X12_tell_j44
            refine xb_eq (m_in1 hop.2.1.1 (hc ▸ hop.2.1.2)) ?_
            rw [if_neg (by decide)]
            refine xb_eq ((m_mean hfx).1 hop.2.2) ?_
            rw [if_neg (by decide)]
          by_cases h5 : fx = 2
          · rw [if_pos (by rw [h5]; rfl)]
            exact j44 2 (by rw [if_pos h5])
          · rw [if_neg (show ¬ (Int32.ofNat fx = 2) from i32_neq (m := 2) (by omega) (by omega) h5)]
            exact j44 0 (by rw [if_neg h5])
        have c1 : ∀ r, (if xk (mg 4625 I J R) 11 1 = true then (f_X1_clashes (mg 4625 I J R) 11 (Int32.ofNat k) (Int32.ofNat fx) x3 x4).bind (fun p6 => (if p6 = (0 : Int32) then (gR (mg 4625 I J R) 0 11 2).bind (fun x7 => (if xk (mg 4625 I J R) x7 1 = true then (f_X1_rank (mg 4625 I J R) x7 (Int32.ofNat k) (Int32.ofNat fx)).bind (fun p8 => (gR (mg 4625 I J R) 0 11 2).bind (fun x9 => (if xk (mg 4625 I J R) x9 1 = true then (f_X1_tellOperator (mg 4625 I J R) x9 (Int32.ofNat k) (Int32.ofNat fx) x3 x4 x5).bind (fun p10 => some ((Sum.inl p8), p10)) else none))) else none)) else some ((Sum.inr "java/lang/IllegalStateException"), (mg 4625 I J R)))) else none) = r → f_X11_tell (mg 4625 I J R) 0 (ch x1) (Int32.ofNat fx) x3 x4 x5 = r := fun r hr => by
          rw [ek]
          unfold f_X11_tell
          refine xb_eq (ogR_0_2 hR) (xb_iq ok_11 (xb_eq (c_isSign1 hR h12 hk1 h1 hp) ?_))
          rw [if_neg (by decide)]
          refine xb_eq (c_isFix1 hf0.1 hf0.2) ?_
          rw [if_neg (by decide)]
          refine xb_eq ((c_isOp hfx).1 hop) ?_
          rw [if_neg (by decide)]
          exact xb_eq (ogR_0_2 hR) hr
        have cc := c_clashes (I := I) (J := J) (rk := x3) (sd := x4) hR h12 hk1 h1 hp hfx
        have mh := fun J => m_hind (I := I) (J := J) (rk := x3) (sd := x4) (mn := x5) hR tr hp hfx
        by_cases hh : Hind I fx p x3 x4
        · have e0 := c1 (some (.inr "java/lang/IllegalStateException", mg 4625 I J R)) (by
            refine xb_iq ok_11 (xb_eq (cc.1 hh) ?_)
            rw [if_neg (by decide)])
          have e1 : f_L_tell (mg 4625 I J R) 0 (ch x1) (Int32.ofNat fx) x3 x4 x5 4624 = some (2, mg 4625 I J R) := by
            unfold f_L_tell
            refine xb_iq ok_0 (xb_eq e0 ?_)
            simp only [xlet, Sum.elim_inr, ↓reduceIte, String.reduceEq]
          refine op_ex (b := 0) (I2 := thI I 2) (J2 := J) (R2 := R) e1 ((m1 J I).trans (((mh J).1 hh).trans ?_)) thI_0 (by decide) hP1
          unfold f_X12_tell_j133
          exact xb_iq ok_4561 (m_refY.trans rfl)
        · have hsl : fx * 16 + p < 48 := by omega
          have hs := c_slot1 (I := I) (J := J) hR h12 hk1 h1 hp hfx
          refine hG x1 k p fx x3 x4 x5 ek hk1 h1 hp hfx hop hh (fun r hr => c1 r ?_) m1
          refine xb_iq ok_11 (xb_eq (cc.2 hh) ?_)
          rw [if_pos rfl]
          exact xb_eq (ogR_0_2 hR) (xb_iq ok_11 (xb_eq (c_rank1 hR hsl hs) (xb_eq (ogR_0_2 hR) (xb_iq ok_11 hr))))
      · refine bad ?_ ?_
        · rw [ek]
          unfold f_X11_tell
          refine xb_eq (ogR_0_2 hR) (xb_iq ok_11 (xb_eq (c_isSign1 hR h12 hk1 h1 hp) ?_))
          rw [if_neg (by decide)]
          refine xb_eq (c_isFix1 hf0.1 hf0.2) ?_
          rw [if_neg (by decide)]
          refine xb_eq ((c_isOp hfx).2 hop) ?_
          rw [if_pos rfl]
          rfl
        · rw [ek]
          unfold f_X12_tell
          refine xb_eq (h2 _) ?_
          rw [if_neg hneg]
          refine xb_eq (m_in1 hf0.1 hf0.2) ?_
          rw [if_neg (by decide)]
          by_cases h3 : (1 : Int32) ≤ x3 ∧ x3 ≤ 9
          · refine xb_eq (m_in1 h3.1 h3.2) ?_
            rw [if_neg (by decide)]
            have j44 : ∀ c : Int32, c = (if fx = 2 then 2 else 0) → f_X12_tell_j44 (mg 4625 I J R) 4561 (Int32.ofNat fx) x3 x4 x5 (Int32.ofNat (sgp p)) c 0 x4 = some (0, mg 4625 (thI I 1) J R) := fun c hc => by
              unfold f_X12_tell_j44
              by_cases h4 : (0 : Int32) ≤ x4 ∧ x4 ≤ c
              · refine xb_eq (m_in1 h4.1 h4.2) ?_
                rw [if_neg (by decide)]
                refine xb_eq ((m_mean hfx).2 (fun z => hop ⟨h3, ⟨h4.1, hc ▸ h4.2⟩, z⟩)) ?_
                rw [if_pos rfl]
                exact m_tell_bad
              · refine xb_eq (m_in0 h4) ?_
                rw [if_pos rfl]
                exact m_tell_bad
            by_cases h5 : fx = 2
            · rw [if_pos (by rw [h5]; rfl)]
              exact j44 2 (by rw [if_pos h5])
            · rw [if_neg (show ¬ (Int32.ofNat fx = 2) from i32_neq (m := 2) (by omega) (by omega) h5)]
              exact j44 0 (by rw [if_neg h5])
          · refine xb_eq (m_in0 h3) ?_
            rw [if_pos rfl]
            exact m_tell_bad
    · refine bad ?_ ?_
      · rw [ek]
        unfold f_X11_tell
        refine xb_eq (ogR_0_2 hR) (xb_iq ok_11 (xb_eq (c_isSign1 hR h12 hk1 h1 hp) ?_))
        rw [if_neg (by decide)]
        refine xb_eq (c_isFix0 hf0) ?_
        rw [if_pos rfl]
        rfl
      · rw [ek]
        unfold f_X12_tell
        refine xb_eq (h2 _) ?_
        rw [if_neg hneg]
        refine xb_eq (m_in0 hf0) ?_
        rw [if_pos rfl]
        exact m_tell_bad
end EW
section OT
variable {I : Nat → Nat → Int32} {J : Nat → Nat → Int64} {R : Nat → Nat → Option Nat} {t : GT} {s : GS} {b : GB} {n : GN} {f : GF} {v : GV} {q : Nat → GV} {p : GT} {r : GR} {h : GH} {β : Type}
theorem TabRel_of (hC : CTb I b) (hM : MTb I b) : TabRel I := fun p fx hp hf => by
  have a := hC.2 (fx * 16 + p) (by omega)
  have c := hM p fx hp hf
  rw [← c] at a
  exact ⟨congrArg (fun z => z.1) a, congrArg (fun z => z.2.1) a, congrArg (fun z => z.2.2) a⟩
/-- the row that a told operator leaves in the ring -/
def bRow (x : Int32 × Int32 × Int32) : Nat → Int32 := fun k => if k = 0 then x.1 else if k = 1 then x.2.1 else x.2.2
def hTab (h : GH) (sl : Nat) (x : Int32 × Int32 × Int32) : GH := pushH h 1 sl (bRow x) (0, 1)
def STl (u sl : Nat) : Nat → Nat → Prop := fun a k => (a = 11 ∧ (k = 13 ∨ k = 14)) ∨ ((a = 46 ∨ a = 47) ∧ k = u) ∨ (a = 49 + u ∧ k < 3) ∨ (13 ≤ a ∧ a ≤ 15 ∧ k = sl)
theorem C_tell {c sl : Nat} {fx rk sd mn : Int32} (hR : RA R) (H : InvC I t s b n f v q p r h) (hs : sl < 48) (hsl : ∀ I', I' 12 = plc → f_X1_slot (mg 4625 I' J R) 11 (Int32.ofNat c) fx = some (Int32.ofNat sl)) : QK (f_X1_tellOperator (mg 4625 I J R) 11 (Int32.ofNat c) fx rk sd mn) (fun x => ∃ I', x = mg 4625 I' J R ∧ InvC I' t s (upB b sl (rk, sd, mn)) n f v q p r (hTab h sl (b sl)) ∧ FrK (STl (nu h) sl) I I') := by
  obtain ⟨h1, h2, h3, h4, h5, h6, h7, h8, h9, h10⟩ := H
  have ul := nu_lt h
  have eb := h3.2 sl hs
  unfold f_X1_tellOperator
  rw [if_pos ok_11, hsl I h3.1, Option.bind_some, if_pos (i32_0le (by omega)), gr_11_11 hR, if_pos ok_11]
  refine q_bind (C_note (kd := 1) (ky := sl) (h := h) hR h10.1 h10.2.1 h10.2.2.1 h10.2.2.2.1) ?_
  rintro x ⟨I1, rfl, hF1, e13, e14, e46, e47⟩
  have f1 : ∀ a k, a ≠ 11 → a ≠ 46 → a ≠ 47 → I1 a k = I a k := fun a k g1 g2 g3 => hF1 a k (by omega)
  have kk : KK (49 + nu h) = (14, 10) := KK_49 _ ul
  have wr : ∀ (I' : Nat → Nat → Int32) (k : Nat) (w : Int32) (F : xM → Option xM), k < 10 → (wI (mg 4625 I' J R) (49 + nu h) (Int32.ofNat k) w).bind F = F (mg 4625 (up I' (49 + nu h) k w) J R) := fun I' k w F hk => by
    rw [e_wI (by omega) kk hk (by decide)]
    rfl
  rw [g_crow hR ul, gr_11_1 hR, ga_13 (by omega), f1 13 sl (by omega) (by omega) (by omega), show (0 : Int32) = Int32.ofNat 0 from rfl, wr _ 0 _ _ (by decide), gr_11_2 hR, ga_14 (by omega), up_n (by omega), f1 14 sl (by omega) (by omega) (by omega), show (1 : Int32) = Int32.ofNat 1 from rfl, wr _ 1 _ _ (by decide), gr_11_3 hR, ga_15 (by omega), up_n (by omega), up_n (by omega), f1 15 sl (by omega) (by omega) (by omega), show (2 : Int32) = Int32.ofNat 2 from rfl, wr _ 2 _ _ (by decide), if_pos ok_11]
  unfold f_X1_putOperator f_X1_putOperator_j35
  rw [if_neg (i32_nlt0 (by omega)), gr_11_1 hR, ogL_13, Option.bind_some, if_neg (show ¬ (48 : Int32) ≤ Int32.ofNat sl from fun z => absurd ((i32_le (k := 48) (by omega) (by omega)).mp z) (by omega)), gr_11_1 hR, gw_13 (by omega), gr_11_2 hR, gw_14 (by omega), gr_11_3 hR, gw_15 (by omega), Option.bind_some]
  have e1 : (b sl).1 = I 13 sl := by rw [← eb]
  have e2 : (b sl).2.1 = I 14 sl := by rw [← eb]
  have e3 : (b sl).2.2 = I 15 sl := by rw [← eb]
  generalize hI2 : (up (up (up (up (up (up I1 (49 + nu h) 0 (I 13 sl)) (49 + nu h) 1 (I 14 sl)) (49 + nu h) 2 (I 15 sl)) 13 sl rk) 14 sl sd) 15 sl mn) = I2
  have g0 : ∀ a k, ¬ (a = 49 + nu h ∧ k < 3) → ¬ (13 ≤ a ∧ a ≤ 15 ∧ k = sl) → I2 a k = I1 a k := fun a k g1 g2 => by
    rw [← hI2, up_n (by omega), up_n (by omega), up_n (by omega), up_n (by omega), up_n (by omega), up_n (by omega)]
  have gf : ∀ a k, ¬ STl (nu h) sl a k → I2 a k = I a k := fun a k g => by
    unfold STl at g
    rw [g0 a k (by omega) (by omega), hF1 a k (by omega)]
  have gr : ∀ x, x ≠ 11 → ¬ (13 ≤ x ∧ x ≤ 15) → ¬ (46 ≤ x ∧ x < 69) → I2 x = I x := fun x g1 g2 g3 => funext (fun k => gf x k (by unfold STl; omega))
  have t13 : I2 13 sl = rk := by rw [← hI2, up_n (by omega), up_n (by omega), up_s]
  have t14 : I2 14 sl = sd := by rw [← hI2, up_n (by omega), up_s]
  have t15 : I2 15 sl = mn := by rw [← hI2, up_s]
  refine q_ok ⟨I2, rfl, ⟨CTy_keep h1 ?_, ?_, ?_, CNm_keep h4 ?_, CFn_keep h5 ?_, CV_keep h6 ?_, CKp_keep h7 ?_, CPr_keep h8 ?_, CTr_keep h9 ?_, ?_⟩, gf⟩
  case refine_2 =>
    refine ⟨h2.1, (gf 11 5 (by unfold STl; omega)).trans h2.2.1, fun k hk => CT_keep (h2.2.2 k hk) (fun x a b => gr x (by omega) (by omega) (by have := h2.1; omega))⟩
  case refine_3 =>
    refine ⟨(gr 12 (by omega) (by omega) (by omega)).trans h3.1, fun k hk => ?_⟩
    unfold upB
    by_cases z : k = sl
    · rw [if_pos z, z, t13, t14, t15]
    · rw [if_neg z, gf 13 k (by unfold STl; omega), gf 14 k (by unfold STl; omega), gf 15 k (by unfold STl; omega)]
      exact h3.2 k hk
  case refine_10 =>
    refine CHs_push h10 ((g0 11 13 (by omega) (by omega)).trans e13) ((g0 11 14 (by omega) (by omega)).trans e14) (fun u hu => gf 46 u (by unfold STl; omega)) ((g0 46 _ (by omega) (by omega)).trans e46) (fun u hu => gf 47 u (by unfold STl; omega)) ((g0 47 _ (by omega) (by omega)).trans e47) (fun u hu g => funext (fun k => gf _ k (by unfold STl; omega))) (fun x a b _ => gr x (by omega) (by omega) (by omega)) (fun _ k hk => ?_) (fun z => absurd z (by omega)) (fun z => absurd z (by omega))
    unfold bRow
    rw [← hI2, up_n (by omega), up_n (by omega), up_n (by omega)]
    rcases (by omega : k = 0 ∨ k = 1 ∨ k = 2) with rfl | rfl | rfl
    · rw [up_n (by omega), up_n (by omega), up_s, if_pos rfl, e1]
    · rw [up_n (by omega), up_s, if_neg (by decide), if_pos rfl, e2]
    · rw [up_s, if_neg (by decide), if_neg (by decide), e3]
  case refine_6 =>
    intro x g1 g2
    exact gr x (by omega) (by omega) (by omega)
  all_goals
    intro x hx
    exact gr x (by omega) (by omega) (by omega)
def SMt (u pl : Nat) : Nat → Nat → Prop := fun a k => (a = 4561 ∧ (k = 83 ∨ k = 84)) ∨ ((4617 ≤ a ∧ a ≤ 4621) ∧ k = u) ∨ (4575 ≤ a ∧ a ≤ 4577 ∧ k = pl)
theorem M_tell {p' fx : Nat} {rk sd mn : Int32} (hR : RA R) (H : InvM I t s b n f v q p r h) (hCs : s.1 ≤ 30) (h80 : ∀ t, t < s.1 → s.2.1 t ≤ 80) (h20 : h.1 ≤ 20) (hf : h.2.1 < 20) (hp : p' < 16) (hfx : fx ≤ 2) : QK (f_X12_tell_j133 (mg 4625 I J R) 4561 (Int32.ofNat fx) rk sd mn (Int32.ofNat (sgp p')) 0 0 4561) (fun x => ∃ I', x = ((b (fx * 16 + p')).1, mg 4625 I' J R) ∧ InvM I' t s (upB b (fx * 16 + p') (rk, sd, mn)) n f v q p r (hTab h (fx * 16 + p') (b (fx * 16 + p'))) ∧ (∀ a k, a < 4561 → I' a k = I a k) ∧ I' 4561 0 = 0) := by
  have hM2 : InvM (thI I 0) t s b n f v q p r h := InvM_keep H hCs h80 (fun x k hx => thI_n (by unfold DM at hx; omega))
  obtain ⟨h1, h2, h3, h4, h5, h6, h7, h8, h9, h10⟩ := hM2
  have ul := nu_lt h
  have sl := sgp_lt p' hp
  have eb := h3 p' fx hp (by omega)
  unfold f_X12_tell_j133
  rw [if_pos ok_4561, m_refO, q_let, show (3 : Int32) * Int32.ofNat (sgp p') = Int32.ofNat (3 * sgp p') from n_mul 3 _, n_add]
  generalize hpl : 3 * sgp p' + fx = pl at eb ⊢
  have hpl2 : pl < 48 := by omega
  rw [gr_4561_15 hR, ga_4575 (by omega), gr_4561_15 hR, ga_4575 (by omega), gr_4561_16 hR, ga_4576 (by omega), gr_4561_17 hR, ga_4577 (by omega), if_pos ok_4561]
  refine q_bind (M_note (h := h) hR h10.1 h10.2.1 h20 hf) ?_
  rintro _ ⟨I1, rfl, hF1, e13, e14, n0, n1, n2, n3, n4⟩
  rw [gr_4561_15 hR, gw_4575 (by omega), gr_4561_16 hR, gw_4576 (by omega), gr_4561_17 hR, gw_4577 (by omega)]
  generalize hI2 : (up (up (up I1 4575 pl rk) 4576 pl sd) 4577 pl mn) = I2
  have g0 : ∀ a k, ¬ (4575 ≤ a ∧ a ≤ 4577 ∧ k = pl) → I2 a k = I1 a k := fun a k g => by
    rw [← hI2, up_n (by omega), up_n (by omega), up_n (by omega)]
  have gf : ∀ a k, ¬ SMt (nu h) pl a k → I2 a k = thI I 0 a k := fun a k g => by
    unfold SMt at g
    rw [g0 a k (by omega), hF1 a k (by unfold Snt; omega)]
  have t5 : I2 4575 pl = rk := by rw [← hI2, up_n (by omega), up_n (by omega), up_s]
  have t6 : I2 4576 pl = sd := by rw [← hI2, up_n (by omega), up_s]
  have t7 : I2 4577 pl = mn := by rw [← hI2, up_s]
  have e1 : (b (fx * 16 + p')).1 = thI I 0 4575 pl := by rw [← eb]
  have e2 : (b (fx * 16 + p')).2.1 = thI I 0 4576 pl := by rw [← eb]
  have e3 : (b (fx * 16 + p')).2.2 = thI I 0 4577 pl := by rw [← eb]
  refine q_ok ⟨I2, by rw [e1], ⟨MTy_keep h1 ?_, MSh_keep h2 hCs ?_ h80, ?_, MNm_keep h4 ?_, MFn_keep h5 ?_, MV_keep h6 ?_, MKp_keep h7 ?_, MPr_keep h8 ?_, MTr_keep h9 ?_, ?_⟩, fun a k ha => ?_, ?_⟩
  case refine_3 =>
    intro p2 fx2 hp2 hf2
    have s2 := sgp_lt p2 hp2
    unfold upB
    by_cases z : fx2 * 16 + p2 = fx * 16 + p'
    · obtain ⟨z1, z2⟩ : fx2 = fx ∧ p2 = p' := by omega
      subst z1 z2
      rw [if_pos rfl, hpl, t5, t6, t7]
    · have : 3 * sgp p2 + fx2 ≠ pl := fun y => by
        have y1 : fx2 = fx := by omega
        have y2 : sgp p2 = sgp p' := by omega
        exact z (by rw [y1, sgp_inj p2 hp2 p' hp y2])
      rw [if_neg z, gf 4575 _ (by unfold SMt; omega), gf 4576 _ (by unfold SMt; omega), gf 4577 _ (by unfold SMt; omega)]
      exact h3 p2 fx2 hp2 hf2
  case refine_10 =>
    refine MHs_push h10 h20 hf ((g0 _ _ (by omega)).trans e13) ((g0 _ _ (by omega)).trans e14) (fun a u g1 g2 g3 => gf a u (by unfold SMt; omega)) (fun k g => gf _ _ (by unfold SMt; omega)) (fun k g1 g2 g3 => gf _ _ (by unfold SMt; omega)) (fun a k g1 g2 g3 g4 g5 => gf _ _ (by unfold SMt; omega)) ((g0 _ _ (by omega)).trans n0) (fun _ => ⟨⟨p', fx, hp, by omega, rfl, (g0 _ _ (by omega)).trans (n1.trans (by rw [hpl]))⟩, (g0 _ _ (by omega)).trans (n2.trans e1.symm), (g0 _ _ (by omega)).trans (n3.trans e2.symm), (g0 _ _ (by omega)).trans (n4.trans e3.symm)⟩) (fun z => absurd z (by omega)) (fun z => absurd z (by omega))
  case refine_6 =>
    intro k g1 g2
    exact gf _ _ (by unfold SMt; omega)
  case refine_11 =>
    rw [gf a k (by unfold SMt; omega), thI_n (by omega)]
  case refine_12 =>
    rw [gf _ _ (by unfold SMt; omega)]
    exact thI_0
  all_goals
    intro a k g
    exact gf a k (by unfold SMt; omega)
theorem TbOK_up {fx p' : Nat} {rk sd mn : Int32} (H : TbOK b) (hC : CTb I b) (hp : p' < 16) (hf : fx ≤ 2) (hop : OpOK fx rk sd mn) (hh : ¬ Hind I fx p' rk sd) : TbOK (upB b (fx * 16 + p') (rk, sd, mn)) := by
  obtain ⟨a1, a2, a3⟩ := H
  have rk0 : rk ≠ 0 := fun z => by
    have := hop.1.1
    rw [z] at this
    exact absurd this (by decide)
  have pos : ∀ q' gx, q' < 16 → gx < 3 → (b (gx * 16 + q')).1 ≠ 0 → 0 < (b (gx * 16 + q')).1 := fun q' gx h1 h2 h3 => by
    rcases a1 q' gx h1 h2 with z | z
    · exact absurd z h3
    · exact Int32.lt_of_lt_of_le (by decide) z.1.1
  have c13 : ∀ k, k < 48 → I 13 k = (b k).1 ∧ I 14 k = (b k).2.1 := fun k hk => by
    rw [← hC.2 k hk]
    exact ⟨rfl, rfl⟩
  have nb : ∀ k, k ≠ fx * 16 + p' → upB b (fx * 16 + p') (rk, sd, mn) k = b k := fun k hk => if_neg hk
  have nw : upB b (fx * 16 + p') (rk, sd, mn) (fx * 16 + p') = (rk, sd, mn) := if_pos rfl
  refine ⟨fun p2 fx2 h1 h2 => ?_, fun p2 h1 => ?_, fun p2 q2 h1 h2 g1 g2 => ?_⟩
  · by_cases z : fx2 * 16 + p2 = fx * 16 + p'
    · obtain ⟨z1, z2⟩ : fx2 = fx ∧ p2 = p' := by omega
      subst z1 z2
      rw [nw]
      exact Or.inr hop
    · rw [nb _ z]
      exact a1 p2 fx2 h1 h2
  · by_cases z : p2 = p'
    · subst z
      rcases (by omega : fx = 0 ∨ fx = 1 ∨ fx = 2) with rfl | rfl | rfl
      · rw [nb _ (by omega), nb _ (by omega)]
        exact a2 p2 h1
      · right
        rw [nb _ (by omega)]
        by_cases y : (b (32 + p2)).1 = 0
        · exact y
        · exact absurd (Or.inl ⟨rfl, by rw [(c13 _ (by omega)).1]; exact pos p2 2 h1 (by omega) y⟩) hh
      · left
        rw [nb _ (by omega)]
        by_cases y : (b (16 + p2)).1 = 0
        · exact y
        · refine absurd (Or.inr ⟨rfl, Or.inl ?_⟩) hh
          rw [(c13 _ (by omega)).1]
          have := pos p2 1 h1 (by omega)
          rw [Nat.one_mul] at this
          exact this y
    · rw [nb _ (by omega), nb _ (by omega)]
      exact a2 p2 h1
  · by_cases zf : fx = 2
    · subst zf
      have key : ∀ q', q' < 16 → q' ≠ p' → (b (32 + q')).1 = rk → (b (32 + q')).2.1 = sd := fun q' w1 w2 w3 => by
        by_cases y : (b (32 + q')).2.1 = sd
        · exact y
        · refine absurd (Or.inr ⟨rfl, Or.inr ⟨q', w1, w2, ?_, ?_⟩⟩) hh
          · rw [(c13 _ (by omega)).1, w3]
          · rw [(c13 _ (by omega)).2]
            exact y
      by_cases z1 : p2 = p'
      · by_cases z2 : q2 = p'
        · rw [z1, z2]
        · rw [z1, show 32 + p' = 2 * 16 + p' by omega, nw, nb _ (by omega)] at g2 ⊢
          exact (key q2 h2 z2 g2.symm).symm
      · by_cases z2 : q2 = p'
        · rw [z2, show 32 + p' = 2 * 16 + p' by omega, nw, nb _ (by omega)] at g2 ⊢
          exact key p2 h1 z1 g2
        · rw [nb _ (by omega), nb _ (by omega)] at g2 ⊢
          rw [nb _ (by omega)] at g1
          exact a3 p2 q2 h1 h2 g1 g2
    · rw [nb _ (by omega), nb _ (by omega)] at g2 ⊢
      rw [nb _ (by omega)] at g1
      exact a3 p2 q2 h1 h2 g1 g2
theorem NV_up {sl : Nat} {x : Int32 × Int32 × Int32} {nd : Nd} (H : NV b nd) (hx : x.1 ≠ 0) : NV (upB b sl x) nd := by
  rcases H with z | z | z | ⟨z1, p', fx, w1, w2, w3, w4, w5, w6⟩
  · exact Or.inl z
  · exact Or.inr (Or.inl z)
  · exact Or.inr (Or.inr (Or.inl z))
  · refine Or.inr (Or.inr (Or.inr ⟨z1, p', fx, w1, w2, w3, w4, w5, ?_⟩))
    unfold upB
    split
    · exact hx
    · exact w6
theorem o_tell (hR : RA R) (H : Inv I) : op_tell Pinv (mg 4625 I J R) := by
  obtain ⟨t, s, b, n, f, v, q, p, r, h, hC, hM, hO⟩ := H
  have h20 := hC.2.2.2.2.2.2.2.2.2.1
  have hf := hC.2.2.2.2.2.2.2.2.2.2.1
  have tr := TabRel_of hC.2.2.1 hM.2.2.1
  refine g_tell (Pinv_th hR hC hM hO (fun x _ => rfl)) (Pinv_th hR hC hM hO (fun x _ => rfl)) ?_ hR hC.2.2.1.1 tr
  intro x1 k p' fx rk sd mn ek hk1 h1 hp hfx hop hh c1 m1
  obtain ⟨_, e1, I2, rfl, hC2, hF2⟩ := C_tell (c := k) (fx := Int32.ofNat fx) (rk := rk) (sd := sd) (mn := mn) hR hC (by omega) (fun I' hI' => c_slot1 (I := I') (J := J) hR hI' hk1 h1 hp hfx)
  have e0 := c1 (some (.inl (I 13 (fx * 16 + p')), mg 4625 I2 J R)) (by rw [e1]; rfl)
  have fM : ∀ a k, 4561 ≤ a → I2 a k = I a k := fun a k ha => hF2 a k (by
    have := nu_lt h
    unfold STl
    omega)
  have hM2 : InvM I2 t s b n f v q p r h := InvM_C hM hC.2.1 (fun x k hx _ => fM x k hx)
  obtain ⟨_, e2, I3, rfl, hM3, g1, g2⟩ := M_tell (J := oJ J (I 13 (fx * 16 + p')).toInt64) (rk := rk) (sd := sd) (mn := mn) hR hM2 hC.2.1.1 (CSh_80 hC.2.1) h20 hf hp hfx
  have eb : (b (fx * 16 + p')).1 = I 13 (fx * 16 + p') := by rw [← hC.2.2.1.2 (fx * 16 + p') (by omega)]
  rw [eb] at e2
  refine op_ok (l_tell e0) (((m1 _ _).trans ((m_hindB (I := I) hR (funext (fun k => fM 4575 k (by omega))) (funext (fun k => fM 4576 k (by omega))) tr hp hfx).2 hh)).trans e2) g2 ?_
  have rk0 : rk ≠ 0 := fun z => by
    have := hop.1.1
    rw [z] at this
    exact absurd this (by decide)
  have top := OKH_top hO
  refine Pinv_mk hR (InvC_M hC2 (fun x k hx => g1 x k hx)) hM3 (OKH_push hO h20 hf (fun t ht => ⟨ht, rfl, rfl, rfl⟩) ⟨TbOK_up top.1 hC.2.2.1 hp hfx hop hh, fun t i ht hi => NV_up (top.2.1 t i ht hi) rk0, top.2.2⟩ (Or.inr (Or.inl ⟨rfl, rfl, rfl, by omega, ?_⟩)))
  funext y
  unfold upB bRow
  by_cases z : y = fx * 16 + p'
  · rw [if_pos z, z]
    rfl
  · rw [if_neg z, if_neg z]
end OT
