/-! undo, at any state -/
section OU
variable {I : Nat → Nat → Int32} {J : Nat → Nat → Int64} {R : Nat → Nat → Option Nat} {t : GT} {s s' : GS} {b b' : GB} {n n' : GN} {f f' : GF} {v : GV} {q : Nat → GV} {p : GT} {r : GR} {h : GH} {β : Type}
/-- what is there when the latest change is taken back -/
def Und (s : GS) (b : GB) (n : GN) (f : GF) (h : GH) (s' : GS) (b' : GB) (n' : GN) (f' : GF) : Prop := (h.2.2.1 (lu h) = 0 ∧ 0 < s.1 ∧ (s.1 - 1, s.2) = s' ∧ b = b' ∧ n = n' ∧ f = f') ∨ (h.2.2.1 (lu h) = 1 ∧ h.2.2.2.1 (lu h) < 48 ∧ s = s' ∧ upB b (h.2.2.2.1 (lu h)) (h.2.2.2.2.1 (lu h) 0, h.2.2.2.2.1 (lu h) 1, h.2.2.2.2.1 (lu h) 2) = b' ∧ n = n' ∧ f = f') ∨ (h.2.2.1 (lu h) = 2 ∧ h.2.2.2.1 (lu h) < 26 ∧ (h.2.2.2.2.1 (lu h) 0 = 0 ∨ h.2.2.2.2.1 (lu h) 0 = 1) ∧ s = s' ∧ b = b' ∧ (upN n.1 (h.2.2.2.1 (lu h)) (h.2.2.2.2.1 (lu h) 0), upN n.2 (h.2.2.2.1 (lu h)) (h.2.2.2.2.2 (lu h))) = n' ∧ f = f') ∨ (h.2.2.1 (lu h) = 3 ∧ h.2.2.2.1 (lu h) < 26 ∧ s = s' ∧ b = b' ∧ n = n' ∧ upF f (h.2.2.2.1 (lu h)) (h.2.2.2.2.1 (lu h)) = f')
theorem Und_of (H : OKH s b f h) (h0 : 0 < h.1) : ∃ s' b' n' f', Und s b n f h s' b' n' f' ∧ OKH s' b' f' (popH h) := by
  rcases OKH_pop H h0 with ⟨z, T, z1, z2⟩ | ⟨z, z1, z2⟩ | ⟨z, z1, z2, z3⟩ | ⟨z, z1, z2⟩
  · refine ⟨(s.1 - 1, s.2), b, n, f, Or.inl ⟨z, by omega, rfl, rfl, rfl, rfl⟩, ?_⟩
    rw [z1, Nat.add_sub_cancel]
    exact z2
  · exact ⟨_, _, _, _, Or.inr (Or.inl ⟨z, z1, rfl, rfl, rfl, rfl⟩), z2⟩
  · exact ⟨_, _, _, _, Or.inr (Or.inr (Or.inl ⟨z, z1, z2, rfl, rfl, rfl, rfl⟩)), z3⟩
  · exact ⟨_, _, _, _, Or.inr (Or.inr (Or.inr ⟨z, z1, rfl, rfl, rfl, rfl⟩)), z2⟩
theorem ru_lu {j : Nat} : ru (popH h) j = ru h j := rfl
theorem C_takeBack (hR : RA R) (H : InvC I t s b n f v q p r h) (h0 : 0 < h.1) (hU : Und s b n f h s' b' n' f') (hv : h.2.2.1 (lu h) = 2 → (h.2.2.2.2.2 (lu h)).1.natAbs < Bw 7 ∧ ((h.2.2.2.2.2 (lu h)).2 : Int).natAbs < Bw 7) : QK (f_X1_takeBack (mg 4625 I J R) 11) (fun x => ∃ I', x = ((Int32.ofNat (h.2.2.1 (lu h))), mg 4625 I' J R) ∧ InvC I' t s' b' n' f' v q p r (popH h) ∧ ∀ x, 540 ≤ x → I' x = I x) := by
  obtain ⟨h1, h2, h3, h4, h5, h6, h7, h8, h9, h10⟩ := H
  have ul : lu h < 20 := ru_lt h _
  have hm := h10.1
  obtain ⟨a1, a2, a3, a4, a5⟩ := h10.2.2.2.2 (h.1 - 1) (by omega)
  rw [show ru h (h.1 - 1) = lu h from rfl] at a1 a2 a3 a4 a5
  have fl := h10.2.1
  unfold f_X1_takeBack
  rw [gi_11, h10.2.2.2.1, if_pos (show (0 : Int32) < (Int32.ofNat (h.1)) from (i32_lt (k := 0) (by omega) (by omega)).mpr h0), gi_11, h10.2.2.2.1, show (Int32.ofNat (h.1)) - 1 = (Int32.ofNat (h.1 - 1)) from n_sub (a := h.1) (b := 1) (by omega), gs_11, gi_11, up_n (by omega), h10.2.2.1, gi_11, up_s, n_add, n_mod20 (by omega), q_let, show (h.2.1 + (h.1 - 1)) % 20 = lu h from rfl, gr_11_10 hR, ga_47 ul, up_n (by omega), a2, gr_11_11 hR, g_crow hR ul, gr_11_9 hR, ga_46 ul, up_n (by omega), a1]
  generalize hI0 : up I 11 14 (Int32.ofNat (h.1 - 1)) = I0
  have g0 : ∀ x, x ≠ 11 → I0 x = I x := fun x hx => by rw [← hI0, up_r hx]
  have g11 : ∀ k, k ≠ 14 → I0 11 k = I 11 k := fun k hk => by rw [← hI0, up_n (by omega)]
  have g14 : I0 11 14 = (Int32.ofNat (h.1 - 1)) := by rw [← hI0, up_s]
  have j156 : ∀ I', I' 46 = I 46 → f_X1_takeBack_j156 (mg 4625 I' J R) 11 (Int32.ofNat (lu h)) = some ((Int32.ofNat (h.2.2.1 (lu h))), mg 4625 I' J R) := fun I' e => by
    unfold f_X1_takeBack_j156
    rw [gr_11_9 hR, ga_46 ul, e, a1]
  have pop : ∀ I', (∀ x, 46 ≤ x → x < 540 → ¬ (70 ≤ x ∧ x < 440) → I' x = I x) → I' 11 13 = I 11 13 → I' 11 14 = (Int32.ofNat (h.1 - 1)) → CHs I' (popH h) := fun I' e e1 e2 => CHs_pop h10 (e1.trans h10.2.2.1) e2 (fun x hx => e x (by omega) (by omega) (by omega))
  rcases hU with ⟨z, z1, rfl, rfl, rfl, rfl⟩ | ⟨z, z1, rfl, rfl, rfl, rfl⟩ | ⟨z, z1, z2, rfl, rfl, rfl, rfl⟩ | ⟨z, z1, rfl, rfl, rfl, rfl⟩
  · have e5 := h2.2.1
    rw [z, if_pos (show (Int32.ofNat (0)) = (0 : Int32) from rfl), gi_11, g11 5 (by decide), e5, show (Int32.ofNat (s.1)) - 1 = (Int32.ofNat (s.1 - 1)) from n_sub (a := s.1) (b := 1) (by omega), gs_11, j156 _ (by rw [up_r (by omega), g0 _ (by omega)]), z]
    have go : ∀ x, x ≠ 11 → up I0 11 5 (Int32.ofNat (s.1 - 1)) x = I x := fun x hx => by rw [up_r hx, g0 x hx]
    refine q_ok ⟨_, rfl, ⟨CTy_keep h1 (fun x g => go x (by omega)), ⟨?_, up_s, fun k hk => CT_keep (h2.2.2 k ?_) (fun x g g' => go x (by omega))⟩, CTb_keep h3 (fun x g => go x (by omega)), CNm_keep h4 (fun x g => go x (by omega)), CFn_keep h5 (fun x g => go x (by omega)), CV_keep h6 (fun x g g' => go x (by omega)), CKp_keep h7 (fun x g => go x (by omega)), CPr_keep h8 (fun x g => go x (by omega)), CTr_keep h9 (fun x g => go x (by omega)), pop _ (fun x g g' _ => go x (by omega)) ?_ ?_⟩, fun x hx => go x (by omega)⟩
    · show s.1 - 1 ≤ 30
      have := h2.1
      omega
    · have : k < s.1 - 1 := hk
      omega
    · rw [up_n (by omega), g11 13 (by decide)]
    · rw [up_n (by omega), g14]
  · have b0 := a3 z 0 (by decide)
    have b1 := a3 z 1 (by decide)
    have b2 := a3 z 2 (by decide)
    rw [z, if_neg (by decide), if_pos (show (Int32.ofNat (1)) = (1 : Int32) from rfl), show (0 : Int32) = (Int32.ofNat (0)) from rfl, ga_row ⟨ul, by decide⟩, show (1 : Int32) = (Int32.ofNat (1)) from rfl, ga_row ⟨ul, by decide⟩, show (2 : Int32) = (Int32.ofNat (2)) from rfl, ga_row ⟨ul, by decide⟩, g0 (49 + lu h) (by omega), b0, b1, b2, if_pos ok_11]
    unfold f_X1_putOperator f_X1_putOperator_j35
    rw [if_neg (show ¬ (Int32.ofNat (h.2.2.2.1 (lu h))) < 0 from i32_nlt0 (by omega)), gr_11_1 hR, ogL_13, Option.bind_some, if_neg (show ¬ (48 : Int32) ≤ (Int32.ofNat (h.2.2.2.1 (lu h))) from fun y => absurd ((i32_le (k := 48) (by omega) (by omega)).mp y) (by omega)), gr_11_1 hR, gw_13 z1, gr_11_2 hR, gw_14 z1, gr_11_3 hR, gw_15 z1, Option.bind_some]
    generalize hI2 : up (up (up I0 13 (h.2.2.2.1 (lu h)) (h.2.2.2.2.1 (lu h) 0)) 14 (h.2.2.2.1 (lu h)) (h.2.2.2.2.1 (lu h) 1)) 15 (h.2.2.2.1 (lu h)) (h.2.2.2.2.1 (lu h) 2) = I2
    have gf : ∀ a k, ¬ (13 ≤ a ∧ a ≤ 15 ∧ k = h.2.2.2.1 (lu h)) → I2 a k = I0 a k := fun a k g => by
      rw [← hI2, up_n (by omega), up_n (by omega), up_n (by omega)]
    have gr : ∀ x, ¬ (13 ≤ x ∧ x ≤ 15) → x ≠ 11 → I2 x = I x := fun x g g' => by
      rw [← g0 x g']
      exact funext (fun k => gf x k (by omega))
    have g11' : ∀ k, I2 11 k = I0 11 k := fun k => gf 11 k (by omega)
    rw [j156 _ (gr 46 (by omega) (by omega)), z]
    refine q_ok ⟨_, rfl, ⟨CTy_keep h1 (fun x g => gr x (by omega) (by omega)), ⟨h2.1, ((g11' 5).trans (g11 5 (by decide))).trans h2.2.1, fun k hk => CT_keep (h2.2.2 k hk) (fun x g g' => gr x (by omega) (by omega))⟩, ⟨(gr 12 (by omega) (by omega)).trans h3.1, fun k hk => ?_⟩, CNm_keep h4 (fun x g => gr x (by omega) (by omega)), CFn_keep h5 (fun x g => gr x (by omega) (by omega)), CV_keep h6 (fun x g g' => gr x (by omega) (by omega)), CKp_keep h7 (fun x g => gr x (by omega) (by omega)), CPr_keep h8 (fun x g => gr x (by omega) (by omega)), CTr_keep h9 (fun x g => gr x (by omega) (by omega)), pop _ (fun x g g' _ => gr x (by omega) (by omega)) ?_ ?_⟩, fun x hx => gr x (by omega) (by omega)⟩
    · unfold upB
      by_cases y : k = h.2.2.2.1 (lu h)
      · rw [if_pos y, y, ← hI2, up_n (by omega), up_n (by omega), up_s, up_n (by omega), up_s, up_s]
      · rw [if_neg y, gf 13 k (by omega), gf 14 k (by omega), gf 15 k (by omega), g0 13 (by omega), g0 14 (by omega), g0 15 (by omega)]
        exact h3.2 k hk
    · rw [g11', g11 13 (by decide)]
    · rw [g11', g14]
  · obtain ⟨b0, b1⟩ := a4 z
    obtain ⟨v1, v2⟩ := hv z
    generalize hl : h.2.2.2.1 (lu h) = l at z1 ⊢
    generalize hx : h.2.2.2.2.1 (lu h) 0 = x at z2 b0 ⊢
    have h4l := h4 l z1
    rw [z, if_neg (by decide), if_neg (by decide), if_pos (show (Int32.ofNat (2)) = (2 : Int32) from rfl), gr_11_7 hR, show (0 : Int32) = (Int32.ofNat (0)) from rfl, ga_row ⟨ul, by decide⟩, g0 (49 + lu h) (by omega), b0]
    have j127 : ∀ y : Int32, y = x → QK (f_X1_takeBack_j127 (mg 4625 I0 J R) 11 (Int32.ofNat (lu h)) (Int32.ofNat (l)) y (Int32.ofNat (l)) 18) (fun z => ∃ I', z = ((Int32.ofNat (2)), mg 4625 I' J R) ∧ InvC I' t s b (upN n.1 l x, upN n.2 l (h.2.2.2.2.2 (lu h))) f v q p r (popH h) ∧ ∀ x, 540 ≤ x → I' x = I x) := by
      intro y hy
      rw [hy]
      clear hy
      unfold f_X1_takeBack_j127
      rw [gz_18 z1 (by rcases z2 with z2 | z2 <;> rw [z2] <;> rfl), gr_11_6 hR, g_name hR z1, gr_11_12 hR, g_cval hR ul, if_pos (bF_xk (isF_310 z1))]
      have c1 : CV (up I0 18 l x) (440 + 5 * lu h) (h.2.2.2.2.2 (lu h)) := CV_keep b1 (fun y _ _ => by rw [up_r (by omega), g0 y (by omega)])
      refine q_bind (F_copy hR (isF_310 z1) c1 v1 v2 (by omega)) ?_
      rintro _ ⟨I2, rfl, hF2, hT2⟩
      have gr : ∀ y, y ≠ 11 → y ≠ 18 → ¬ (310 + 5 * l ≤ y ∧ y < 310 + 5 * l + 5) → I2 y = I y := fun y g1 g2 g3 => by
        rw [hF2 y (by unfold Sf; exact g3), up_r g2, g0 y g1]
      have g11' : ∀ k, I2 11 k = I0 11 k := fun k => by rw [hF2 11 (by unfold Sf; omega), up_r (by omega)]
      have g18 : I2 18 = up I0 18 l x 18 := hF2 18 (by unfold Sf; omega)
      rw [j156 _ (gr 46 (by omega) (by omega) (by omega)), z]
      refine q_ok ⟨_, rfl, ⟨CTy_keep h1 (fun x g => gr x (by omega) (by omega) (by omega)), ⟨h2.1, ((g11' 5).trans (g11 5 (by decide))).trans h2.2.1, fun k hk => CT_keep (h2.2.2 k hk) (fun x g g' => gr x (by omega) (by omega) (by have := h2.1; omega))⟩, CTb_keep h3 (fun x g => gr x (by omega) (by omega) (by omega)), fun k hk => ?_, CFn_keep h5 (fun x g => gr x (by omega) (by omega) (by omega)), CV_keep h6 (fun x g g' => gr x (by omega) (by omega) (by omega)), CKp_keep h7 (fun x g => gr x (by omega) (by omega) (by omega)), CPr_keep h8 (fun x g => gr x (by omega) (by omega) (by omega)), CTr_keep h9 (fun x g => gr x (by omega) (by omega) (by omega)), pop _ (fun x g g' g'' => gr x (by omega) (by omega) (by omega)) ?_ ?_⟩, fun x hx => gr x (by omega) (by omega) (by omega)⟩
      · show I2 18 k = upN n.1 l x k ∧ (upN n.1 l x k = 0 ∨ upN n.1 l x k = 1) ∧ CV I2 (310 + 5 * k) (upN n.2 l (h.2.2.2.2.2 (lu h)) k)
        rw [g18]
        by_cases y : k = l
        · subst y
          rw [upN_s, upN_s, up_s]
          exact ⟨rfl, z2, hT2⟩
        · rw [upN_n y, upN_n y, up_n (Or.inr y), g0 18 (by omega)]
          obtain ⟨c1, c2, c3⟩ := h4 k hk
          exact ⟨c1, c2, CV_keep c3 (fun x g g' => gr x (by omega) (by omega) (by omega))⟩
      · rw [g11', g11 13 (by decide)]
      · rw [g11', g14]
    by_cases y : x = 1
    · rw [if_pos y]
      exact j127 _ y.symm
    · rw [if_neg y]
      exact j127 _ (z2.resolve_right y).symm
  · have b0 := a5 z
    generalize hl : h.2.2.2.1 (lu h) = l at z1 ⊢
    rw [z, if_neg (by decide), if_neg (by decide), if_neg (by decide), gr_11_8 hR, g_fun hR z1]
    refine q_bind (C_copyRow ⟨by omega, KK_49 _ ul⟩ ⟨by omega, KK_20 l z1⟩ (by omega)) ?_
    rintro _ ⟨I2, rfl, hF2, hT2⟩
    have gr : ∀ y, y ≠ 11 → y ≠ 20 + l → I2 y = I y := fun y g1 g2 => by rw [hF2 y g2, g0 y g1]
    have g11' : ∀ k, I2 11 k = I0 11 k := fun k => by rw [hF2 11 (by omega)]
    rw [j156 _ (gr 46 (by omega) (by omega)), z]
    refine q_ok ⟨_, rfl, ⟨CTy_keep h1 (fun x g => gr x (by omega) (by omega)), ⟨h2.1, ((g11' 5).trans (g11 5 (by decide))).trans h2.2.1, fun k hk => CT_keep (h2.2.2 k hk) (fun x g g' => gr x (by omega) (by omega))⟩, CTb_keep h3 (fun x g => gr x (by omega) (by omega)), CNm_keep h4 (fun x g => gr x (by omega) (by omega)), fun k j hk hj => ?_, CV_keep h6 (fun x g g' => gr x (by omega) (by omega)), CKp_keep h7 (fun x g => gr x (by omega) (by omega)), CPr_keep h8 (fun x g => gr x (by omega) (by omega)), CTr_keep h9 (fun x g => gr x (by omega) (by omega)), pop _ (fun x g g' g'' => gr x (by omega) (by omega)) ?_ ?_⟩, fun x hx => gr x (by omega) (by omega)⟩
    · unfold upF
      by_cases y : k = l
      · rw [if_pos y, y, hT2 j hj, g0 _ (by omega)]
        exact b0 j hj
      · rw [if_neg y, gr _ (by omega) (by omega)]
        exact h5 k j hk hj
    · rw [g11', g11 13 (by decide)]
    · rw [g11', g14]
theorem MHs_val (H : MHs I s h) (h0 : 0 < h.1) (hz : h.2.2.1 (lu h) = 2) : (h.2.2.2.2.2 (lu h)).1.natAbs < Bw 7 ∧ ((h.2.2.2.2.2 (lu h)).2 : Int).natAbs < Bw 7 := MV_b ((H.2.2 (h.1 - 1) (by omega)).2.2.1 hz).2.2
theorem MHs_down {T : Nat} (H : MHs I s h) (HO : OKH (T, s.2) b f h) (hle : T ≤ s.1) (h30 : s.1 ≤ 30) : MHs I (T, s.2) h := by
  refine ⟨H.1, H.2.1, fun j hj => ?_⟩
  obtain ⟨a1, a2, a3, a4⟩ := H.2.2 j hj
  refine ⟨a1, a2, a3, fun z => ⟨(a4 z).1, ?_⟩⟩
  obtain ⟨T', t1, t2⟩ := MHs_row HO hj z
  have t3 : T' ≤ T := t1
  exact FM_ext (a4 z).2 (fun t ht => ⟨by show t < T; omega, rfl, rfl, rfl⟩) h30 t2 (by omega)
theorem M_undo {I9 : Nat → Nat → Int32} (hR : RA R) (H : InvM I t s b n f v q p r h) (hC : CSh I9 s) (h0 : 0 < h.1) (hm : h.1 ≤ 20) (hf : h.2.1 < 20) (hU : Und s b n f h s' b' n' f') (hO' : OKH s' b' f' (popH h)) : QK (f_X12_undo (mg 4625 I J R) 4561) (fun x => ∃ I', x = ((Int32.ofNat (h.2.2.1 (lu h))), mg 4625 I' J R) ∧ InvM I' t s' b' n' f' v q p r (popH h) ∧ ∀ a k, a < 4561 → I' a k = I a k) := by
  have hM2 : InvM (thI I 0) t s b n f v q p r h := InvM_C H hC (fun x k hx hk => thI_n hk)
  obtain ⟨h1, h2, h3, h4, h5, h6, h7, h8, h9, h10⟩ := hM2
  have ul : lu h < 20 := ru_lt h _
  have h30 := hC.1
  have h80 := CSh_80 hC
  obtain ⟨a1, a3, a4, a5⟩ := h10.2.2 (h.1 - 1) (by omega)
  rw [show ru h (h.1 - 1) = lu h from rfl] at a1 a3 a4 a5
  unfold f_X12_undo
  rw [gs_4561, show up I 4561 0 0 = thI I 0 from rfl, gi_4561, h10.2.1, if_neg (show ¬ (Int32.ofNat (h.1)) = (0 : Int32) from fun y => absurd ((i32_eq (m := 0) (by omega) (by omega)).mp y) (by omega)), gi_4561, h10.2.1, show (Int32.ofNat (h.1)) - 1 = (Int32.ofNat (h.1 - 1)) from n_sub (a := h.1) (b := 1) (by omega), gs_4561, gi_4561, up_n (by omega), h10.1, gi_4561, up_s, n_add, n_mod20 (by omega), q_let, show (h.2.1 + (h.1 - 1)) % 20 = lu h from rfl, gr_4561_78 hR, ga_4618 ul, gr_4561_77 hR, ga_4617 ul]
  generalize hI0 : up (thI I 0) 4561 84 (Int32.ofNat (h.1 - 1)) = I0
  have g0 : ∀ a k, ¬ (a = 4561 ∧ k = 84) → I0 a k = thI I 0 a k := fun a k g => by rw [← hI0, up_n (by omega)]
  have g84 : I0 4561 84 = (Int32.ofNat (h.1 - 1)) := by rw [← hI0, up_s]
  rw [g0 4618 _ (by omega), g0 4617 _ (by omega), a1]
  have j262 : ∀ I', I' 4617 (lu h) = (Int32.ofNat (h.2.2.1 (lu h))) → f_X12_undo_j262 (mg 4625 I' J R) 4561 (Int32.ofNat (lu h)) = some ((Int32.ofNat (h.2.2.1 (lu h))), mg 4625 I' J R) := fun I' e => by
    unfold f_X12_undo_j262
    rw [gr_4561_77 hR, ga_4617 ul, e]
  rcases hU with ⟨z, z1, rfl, rfl, rfl, rfl⟩ | ⟨z, z1, rfl, rfl, rfl, rfl⟩ | ⟨z, z1, z2, rfl, rfl, rfl, rfl⟩ | ⟨z, z1, rfl, rfl, rfl, rfl⟩
  · rw [z, if_pos (show (Int32.ofNat (0)) = (0 : Int32) from rfl), gi_4561, g0 _ _ (by omega), h2.1, show (Int32.ofNat (s.1)) - 1 = (Int32.ofNat (s.1 - 1)) from n_sub (a := s.1) (b := 1) (by omega), gs_4561]
    have go : ∀ a k, ¬ (a = 4561 ∧ (k = 84 ∨ k = 10)) → up I0 4561 10 (Int32.ofNat (s.1 - 1)) a k = thI I 0 a k := fun a k g => by rw [up_n (by omega), g0 a k (by omega)]
    rw [j262 _ (by rw [go _ _ (by omega), a1]), z]
    have ex : Ext (s.1 - 1) s (s.1 - 1, s.2) := fun t ht => ⟨ht, rfl, rfl, rfl⟩
    refine q_ok ⟨_, rfl, ⟨MTy_keep h1 (fun a k g => go a k (by omega)), ⟨up_s, fun k hk => ?_⟩, MTb_keep h3 (fun a k g => go a k (by omega)), MNm_keep h4 (fun a k g => go a k (by omega)), ?_, MV_keep h6 (fun k g g' => go _ k (by omega)), MKp_keep h7 (fun a k g => go a k (by omega)), MPr_keep h8 (fun a k g => go a k (by omega)), MTr_keep h9 (fun a k g => go a k (by omega)), ?_⟩, fun a k ha => by rw [go a k (by omega), thI_n (by omega)]⟩
    · have hk' : k < s.1 - 1 := hk
      obtain ⟨m1, m2⟩ := h2.2 k (by omega)
      have := h80 k (by omega)
      exact ⟨(go _ _ (by omega)).trans m1, MT_keep m2 (fun a k g1 g2 g3 g4 => go a k (by omega))⟩
    · exact MFn_keep (fun l hl => FM_ext (h5 l hl) ex h30 ((OKH_top hO').2.2 l hl) (by omega)) (fun a k g => go a k (by omega))
    · exact MHs_down (MHs_pop h10 ((go _ _ (by omega)).trans h10.1) ((up_n (by omega)).trans g84) (fun a k g => go a k (by omega))) hO' (by omega) h30
  · obtain ⟨⟨p', fx, hp, hfx, ek, e18⟩, e19, e20, e21⟩ := a3 z
    have sl := sgp_lt p' hp
    generalize hpl : 3 * sgp p' + fx = pl at e18
    have hpl2 : pl < 48 := by omega
    rw [z, if_neg (by decide), if_pos (show (Int32.ofNat (1)) = (1 : Int32) from rfl), e18, gr_4561_15 hR, gr_4561_79 hR, ga_4619 ul, gw_4575 hpl2, gr_4561_16 hR, gr_4561_80 hR, ga_4620 ul, gw_4576 hpl2, gr_4561_17 hR, gr_4561_81 hR, ga_4621 ul, gw_4577 hpl2, up_n (a := 4575) (by omega), up_n (a := 4576) (by omega), up_n (a := 4575) (by omega), g0 4619 _ (by omega), g0 4620 _ (by omega), g0 4621 _ (by omega), e19, e20, e21]
    generalize hI2 : up (up (up I0 4575 pl (h.2.2.2.2.1 (lu h) 0)) 4576 pl (h.2.2.2.2.1 (lu h) 1)) 4577 pl (h.2.2.2.2.1 (lu h) 2) = I2
    have g1 : ∀ a k, ¬ (4575 ≤ a ∧ a ≤ 4577 ∧ k = pl) → I2 a k = I0 a k := fun a k g => by
      rw [← hI2, up_n (by omega), up_n (by omega), up_n (by omega)]
    have go : ∀ a k, ¬ (4575 ≤ a ∧ a ≤ 4577 ∧ k = pl) → ¬ (a = 4561 ∧ k = 84) → I2 a k = thI I 0 a k := fun a k g g' => by rw [g1 a k g, g0 a k g']
    have t5 : I2 4575 pl = h.2.2.2.2.1 (lu h) 0 := by rw [← hI2, up_n (by omega), up_n (by omega), up_s]
    have t6 : I2 4576 pl = h.2.2.2.2.1 (lu h) 1 := by rw [← hI2, up_n (by omega), up_s]
    have t7 : I2 4577 pl = h.2.2.2.2.1 (lu h) 2 := by rw [← hI2, up_s]
    rw [j262 _ (by rw [go _ _ (by omega) (by omega), a1]), z]
    refine q_ok ⟨_, rfl, ⟨MTy_keep h1 (fun a k g => go a k (by omega) (by omega)), MSh_keep h2 h30 (fun a k g => go a k (by omega) (by omega)) h80, fun p2 fx2 hp2 hf2 => ?_, MNm_keep h4 (fun a k g => go a k (by omega) (by omega)), MFn_keep h5 (fun a k g => go a k (by omega) (by omega)), MV_keep h6 (fun k g g' => go _ k (by omega) (by omega)), MKp_keep h7 (fun a k g => go a k (by omega) (by omega)), MPr_keep h8 (fun a k g => go a k (by omega) (by omega)), MTr_keep h9 (fun a k g => go a k (by omega) (by omega)), MHs_pop h10 ((go _ _ (by omega) (by omega)).trans h10.1) ((g1 _ _ (by omega)).trans g84) (fun a k g => go a k (by omega) (by omega))⟩, fun a k ha => by rw [go a k (by omega) (by omega), thI_n (by omega)]⟩
    have s2 := sgp_lt p2 hp2
    unfold upB
    rw [ek]
    by_cases y : fx2 * 16 + p2 = fx * 16 + p'
    · obtain ⟨y1, y2⟩ : fx2 = fx ∧ p2 = p' := by omega
      subst y1 y2
      rw [if_pos rfl, hpl, t5, t6, t7]
    · have : 3 * sgp p2 + fx2 ≠ pl := fun w => by
        have w1 : fx2 = fx := by omega
        have w2 : sgp p2 = sgp p' := by omega
        exact y (by rw [w1, sgp_inj p2 hp2 p' hp w2])
      rw [if_neg y, go 4575 _ (by omega) (by omega), go 4576 _ (by omega) (by omega), go 4577 _ (by omega) (by omega)]
      exact h3 p2 fx2 hp2 hf2
  · obtain ⟨e18, b0, b1⟩ := a4 z
    generalize hl : h.2.2.2.1 (lu h) = l at z1 e18 ⊢
    generalize hx : h.2.2.2.2.1 (lu h) 0 = x at z2 b0 ⊢
    rw [z, if_neg (by decide), if_neg (by decide), if_pos (show (Int32.ofNat (2)) = (2 : Int32) from rfl), gr_4561_47 hR, gr_4561_79 hR, ga_4619 ul, g0 4619 _ (by omega), b0, e18]
    have j148 : ∀ y : Int32, y = x → QK (f_X12_undo_j148 (mg 4625 I0 J R) 4561 (Int32.ofNat (lu h)) (Int32.ofNat (l)) y (Int32.ofNat (l)) 4599) (fun w => ∃ I', w = ((Int32.ofNat (2)), mg 4625 I' J R) ∧ InvM I' t s b (upN n.1 l x, upN n.2 l (h.2.2.2.2.2 (lu h))) f v q p r (popH h) ∧ ∀ a k, a < 4561 → I' a k = I a k) := by
      intro y hy
      rw [hy]
      clear hy
      unfold f_X12_undo_j148
      have c1 : Vv (up I0 4599 l x 4564) (27 + lu h) (h.2.2.2.2.2 (lu h)).1 (h.2.2.2.2.2 (lu h)).2 := MV_keep (I' := up I0 4599 l x) b1 (fun k _ _ => by rw [up_n (by omega), g0 _ _ (by omega)])
      rw [gz_4599 z1 (by rcases z2 with z2 | z2 <;> rw [z2] <;> rfl), if_pos ok_4561, show (27 : Int32) + (Int32.ofNat (lu h)) = (Int32.ofNat (27 + lu h)) from n_add 27 _]
      refine q_bind (M_copy hR (by omega) (by omega) (by omega) c1) ?_
      rintro _ ⟨I2, rfl, r3, e2, e3, hK, hv⟩
      have g2 : ∀ a k, a ≠ 4562 → a ≠ 4563 → (a = 4564 → k / 28 ≠ l) → I2 a k = up I0 4599 l x a k := fun a k w1 w2 w3 => by
        by_cases w : a = 4564
        · subst w
          exact hK k (by have := w3 rfl; omega)
        · rw [r3.1 a (fun y => y.elim w1 (fun y => y.elim w2 w))]
      have go : ∀ a k, a ≠ 4562 → a ≠ 4563 → (a = 4564 → k / 28 ≠ l) → ¬ (a = 4599 ∧ k = l) → ¬ (a = 4561 ∧ k = 84) → I2 a k = thI I 0 a k := fun a k w1 w2 w3 w4 w5 => by
        rw [g2 a k w1 w2 w3, up_n (by omega), g0 a k w5]
      rw [j262 _ (by rw [go _ _ (by omega) (by omega) (by omega) (by omega) (by omega), a1]), z]
      refine q_ok ⟨_, rfl, ⟨MTy_keep h1 (fun a k g => go a k (by omega) (by omega) (by omega) (by omega) (by omega)), MSh_keep h2 h30 (fun a k g => go a k (by omega) (by omega) (by omega) (by omega) (by omega)) h80, MTb_keep h3 (fun a k g => go a k (by omega) (by omega) (by omega) (by omega) (by omega)), fun k hk => ?_, MFn_keep h5 (fun a k g => go a k (by omega) (by omega) (by omega) (by omega) (by omega)), MV_keep h6 (fun k g g' => go _ k (by omega) (by omega) (by omega) (by omega) (by omega)), MKp_keep h7 (fun a k g => go a k (by omega) (by omega) (by omega) (by omega) (by omega)), MPr_keep h8 (fun a k g => go a k (by omega) (by omega) (by omega) (by omega) (by omega)), MTr_keep h9 (fun a k g => go a k (by omega) (by omega) (by omega) (by omega) (by omega)), MHs_pop h10 ((go _ _ (by omega) (by omega) (by omega) (by omega) (by omega)).trans h10.1) ?_ (fun a k g => go a k (by omega) (by omega) (by omega) (by omega) (by omega))⟩, fun a k ha => by rw [go a k (by omega) (by omega) (by omega) (by omega) (by omega), thI_n (by omega)]⟩
      · show I2 4599 k = upN n.1 l x k ∧ MV I2 k (upN n.2 l (h.2.2.2.2.2 (lu h)) k)
        by_cases y : k = l
        · subst y
          rw [upN_s, upN_s, g2 4599 _ (by omega) (by omega) (by omega), up_s]
          exact ⟨rfl, hv⟩
        · rw [upN_n y, upN_n y]
          obtain ⟨m1, m2⟩ := h4 k hk
          exact ⟨(go _ _ (by omega) (by omega) (by omega) (by omega) (by omega)).trans m1, MV_keep m2 (fun j _ _ => go _ _ (by omega) (by omega) (by omega) (by omega) (by omega))⟩
      · rw [g2 _ _ (by omega) (by omega) (by omega), up_n (by omega), g84]
    by_cases y : x = 1
    · rw [if_pos y]
      exact j148 _ y.symm
    · rw [if_neg y]
      exact j148 _ (z2.resolve_right y).symm
  · obtain ⟨e18, b0⟩ := a5 z
    generalize hl : h.2.2.2.1 (lu h) = l at z1 e18 ⊢
    rw [z, if_neg (by decide), if_neg (by decide), if_neg (by decide), e18, gr_4561_11 hR, gr_4561_79 hR, ga_4619 ul, gw_4571 z1, gr_4561_12 hR, gr_4561_80 hR, ga_4620 ul, gw_4572 z1, up_n (by omega), g0 4619 _ (by omega), g0 4620 _ (by omega), q_let]
    generalize hI1 : up (up I0 4571 l (thI I 0 4619 (lu h))) 4572 l (thI I 0 4620 (lu h)) = I1
    have g1 : ∀ a k, ¬ ((a = 4571 ∨ a = 4572) ∧ k = l) → I1 a k = I0 a k := fun a k g => by rw [← hI1, up_n (by omega), up_n (by omega)]
    have b1 : FM I1 s (h.2.2.2.2.1 (lu h)) (thI I 0 4619 (lu h)) (thI I 0 4620 (lu h)) (fun k => I1 4622 (8 * lu h + k)) (8640 + 240 * lu h) := FM_keep b0 (fun a k _ _ _ _ => by rw [g1 a k (by omega), g0 a k (by omega)]) (fun k _ => by rw [g1 _ _ (by omega), g0 _ _ (by omega)])
    refine q_bind (M_undoLoop hR z1 ul (fun k hk => FM_sz b1 hk)) ?_
    rintro _ ⟨I2, rfl, hF2, m1, m2⟩
    have g2 : ∀ a k, ¬ Sun l a k → I2 a k = I1 a k := hF2
    have go : ∀ a k, ¬ Sun l a k → ¬ ((a = 4571 ∨ a = 4572) ∧ k = l) → ¬ (a = 4561 ∧ k = 84) → I2 a k = thI I 0 a k := fun a k w1 w2 w3 => by rw [g2 a k w1, g1 a k w2, g0 a k w3]
    simp only [Sum.elim_inr]
    rw [j262 _ (by rw [go _ _ (by unfold Sun; omega) (by omega) (by omega), a1]), z]
    refine q_ok ⟨_, rfl, ⟨MTy_keep h1 (fun a k g => go a k (by unfold Sun; omega) (by omega) (by omega)), MSh_keep h2 h30 (fun a k g => go a k (by unfold Sun; omega) (by omega) (by omega)) h80, MTb_keep h3 (fun a k g => go a k (by unfold Sun; omega) (by omega) (by omega)), MNm_keep h4 (fun a k g => go a k (by unfold Sun; omega) (by omega) (by omega)), fun k hk => ?_, MV_keep h6 (fun k g g' => go _ k (by unfold Sun; omega) (by omega) (by omega)), MKp_keep h7 (fun a k g => go a k (by unfold Sun; omega) (by omega) (by omega)), MPr_keep h8 (fun a k g => go a k (by unfold Sun; omega) (by omega) (by omega)), MTr_keep h9 (fun a k g => go a k (by unfold Sun; omega) (by omega) (by omega)), MHs_pop h10 ((go _ _ (by unfold Sun; omega) (by omega) (by omega)).trans h10.1) ?_ (fun a k g => go a k (by unfold Sun; omega) (by omega) (by omega))⟩, fun a k ha => by rw [go a k (by unfold Sun; omega) (by omega) (by omega), thI_n (by omega)]⟩
    · unfold upF
      by_cases y : k = l
      · subst y
        rw [if_pos rfl, g2 4571 _ (by unfold Sun; omega), g2 4572 _ (by unfold Sun; omega), ← hI1, up_n (by omega), up_s, up_s]
        exact FM_move b1 (by omega) m1 m2
      · rw [if_neg y, go 4571 _ (by unfold Sun; omega) (by omega) (by omega), go 4572 _ (by unfold Sun; omega) (by omega) (by omega)]
        exact FM_keep (h5 k hk) (fun a j _ _ _ _ => go a j (by unfold Sun; omega) (by omega) (by omega)) (fun j hj => go _ _ (by unfold Sun; omega) (by omega) (by omega))
    · rw [g2 _ _ (by unfold Sun; omega), g1 _ _ (by omega), g84]
theorem o_undo (hR : RA R) (H : Inv I) : op_undo Pinv (mg 4625 I J R) := by
  obtain ⟨t, s, b, n, f, v, q, p, r, h, hC, hM, hO⟩ := H
  have h20 := hC.2.2.2.2.2.2.2.2.2.1
  have hf := hC.2.2.2.2.2.2.2.2.2.2.1
  have e14 := hC.2.2.2.2.2.2.2.2.2.2.2.2.1
  by_cases h0 : 0 < h.1
  · obtain ⟨s', b', n', f', hU, hO'⟩ := Und_of (n := n) hO h0
    obtain ⟨_, e1, I2, rfl, hC2, hF2⟩ := C_takeBack (J := J) hR hC h0 hU (fun z => MHs_val hM.2.2.2.2.2.2.2.2.2 h0 z)
    have hM2 : InvM I2 t s b n f v q p r h := InvM_C hM hC.2.1 (fun x k hx _ => by rw [hF2 x (by omega)])
    obtain ⟨_, e2, I3, rfl, hM3, g1⟩ := M_undo (J := J) hR hM2 hC.2.1 h0 h20 hf hU hO'
    refine ⟨(Int32.ofNat (h.2.2.1 (lu h))), mg 4625 I2 J R, mg 4625 I3 J R, ?_, ok_4561, e2, Pinv_mk hR (InvC_M hC2 g1) hM3 hO'⟩
    unfold f_X11_undo
    rw [gr_0_2 hR, if_pos ok_11, e1]
    rfl
  · have z : h.1 = 0 := by omega
    refine ⟨-1, mg 4625 I J R, mg 4625 (thI I 0) J R, ?_, ok_4561, ?_, Pinv_th hR hC hM hO (fun x _ => rfl)⟩
    · unfold f_X11_undo f_X1_takeBack
      rw [gr_0_2 hR, if_pos ok_11, gi_11, e14, z, if_neg (by decide)]
      rfl
    · show f_X12_undo _ 4561 = _
      unfold f_X12_undo
      rw [gs_4561, show up I 4561 0 0 = thI I 0 from rfl, gi_4561, thI_n (by omega), hM.2.2.2.2.2.2.2.2.2.2.1, z, if_pos (show (Int32.ofNat (0)) = (0 : Int32) from rfl)]
end OU
