/-! undo, at any state -/
section OU
variable {I : Nat → Nat → Int32} {J : Nat → Nat → Int64} {R : Nat → Nat → Option Nat} {t : GT} {s s' : GS} {b b' : GB} {n n' : GN} {f f' : GF} {v : GV} {q : Nat → GV} {p : GT} {r : GR} {h : GH} {β : Type}
/-- what is there when the latest change is taken back -/
def Und (s : GS) (b : GB) (n : GN) (f : GF) (h : GH) (s' : GS) (b' : GB) (n' : GN) (f' : GF) : Prop := (h.2.2.1 (lu h) = 0 ∧ 0 < s.1 ∧ (s.1 - 1, s.2) = s' ∧ b = b' ∧ n = n' ∧ f = f') ∨ (h.2.2.1 (lu h) = 1 ∧ h.2.2.2.1 (lu h) < 48 ∧ s = s' ∧ upB b (h.2.2.2.1 (lu h)) (h.2.2.2.2.1 (lu h) 0, h.2.2.2.2.1 (lu h) 1, h.2.2.2.2.1 (lu h) 2) = b' ∧ n = n' ∧ f = f') ∨ (h.2.2.1 (lu h) = 2 ∧ h.2.2.2.1 (lu h) < 26 ∧ (h.2.2.2.2.1 (lu h) 0 = 0 ∨ h.2.2.2.2.1 (lu h) 0 = 1) ∧ s = s' ∧ b = b' ∧ (upN n.1 (h.2.2.2.1 (lu h)) (h.2.2.2.2.1 (lu h) 0), upN n.2 (h.2.2.2.1 (lu h)) (h.2.2.2.2.2 (lu h))) = n' ∧ f = f') ∨ (h.2.2.1 (lu h) = 3 ∧ h.2.2.2.1 (lu h) < 26 ∧ s = s' ∧ b = b' ∧ n = n' ∧ upF f (h.2.2.2.1 (lu h)) (h.2.2.2.2.1 (lu h)) = f')
theorem Und_of (H : OKH s b f h) (h0 : 0 < h.1) : ∃ s' b' n' f', Und s b n f h s' b' n' f' ∧ OKH s' b' f' (popH h) := by
  rcases OKH_pop H h0 with ⟨z, T, z1, z2⟩ | ⟨z, z1, z2⟩ | ⟨z, z1, z2, z3⟩ | ⟨z, z1, z2⟩
  · refine ⟨(s.1 - 1, s.2), b, n, f, Or.inl ⟨z, by omega, rfl, rfl, rfl, rfl⟩, ?_⟩
    rw [z1, Nat.add_sub_cancel]
    exact z2
  · exact ⟨_, _, _, _, Or.inr (Or.inl ⟨z, z1, rfl, rfl, rfl, rfl⟩), z2⟩
  · exact ⟨_, _, _, _, Or.inr (Or.inr (Or.inl ⟨z, z1, z2, rfl, rfl, rfl, rfl⟩)), z3⟩
  · exact ⟨_, _, _, _, Or.inr (Or.inr (Or.inr ⟨z, z1, rfl, rfl, rfl, rfl⟩)), z2⟩
theorem C_takeBack (hR : RA R) (H : InvC I t s b n f v q p r h) (h0 : 0 < h.1) (hU : Und s b n f h s' b' n' f') (hv : h.2.2.1 (lu h) = 2 → (h.2.2.2.2.2 (lu h)).1.natAbs < Bw 7 ∧ ((h.2.2.2.2.2 (lu h)).2 : Int).natAbs < Bw 7) : QK (f_X1_takeBack (mg (4562 + zn J) I J R) 11) (fun x => ∃ I', x = ((Int32.ofNat (h.2.2.1 (lu h))), mg (4562 + zn J) I' J R) ∧ InvC I' t s' b' n' f' v q p r (popH h) ∧ ∀ x, 540 ≤ x → I' x = I x) := by
  obtain ⟨h1, h2, h3, h4, h5, h6, h7, h8, h9, h10⟩ := H
  have ul : lu h < 20 := ru_lt h _
  have hm := h10.1
  obtain ⟨a1, a2, a3, a4, a5⟩ := h10.2.2.2.2 (h.1 - 1) (by omega)
  rw [show ru h (h.1 - 1) = lu h from rfl] at a1 a2 a3 a4 a5
  have fl := h10.2.1
  unfold f_X1_takeBack
  rw [gi_11, h10.2.2.2.1, if_pos (show (0 : Int32) < (Int32.ofNat (h.1)) from (i32_lt (k := 0) (by omega) (by omega)).mpr h0), gi_11, h10.2.2.2.1, show (Int32.ofNat (h.1)) - 1 = (Int32.ofNat (h.1 - 1)) from n_sub (a := h.1) (b := 1) (by omega), gs_11, gi_11, up_n (by omega), h10.2.2.1, gi_11, up_s, n_add, n_mod20 (by omega), q_let, show (h.2.1 + (h.1 - 1)) % 20 = lu h from rfl, gr_11_10 hR, ga_47 ul, up_n (by omega), a2, gr_11_11 hR, g_crow hR ul, gr_11_9 hR, ga_46 ul, up_n (by omega), a1]
  generalize hI0 : up I 11 14 (Int32.ofNat (h.1 - 1)) = I0
  have g0 : ∀ x, x ≠ 11 → I0 x = I x := fun x hx => by rw [← hI0, up_r hx]
  have g11 : ∀ k, k ≠ 14 → I0 11 k = I 11 k := fun k hk => by rw [← hI0, up_n (by omega)]
  have g14 : I0 11 14 = (Int32.ofNat (h.1 - 1)) := by rw [← hI0, up_s]
  have j156 : ∀ I', I' 46 = I 46 → f_X1_takeBack_j156 (mg (4562 + zn J) I' J R) 11 (Int32.ofNat (lu h)) = some ((Int32.ofNat (h.2.2.1 (lu h))), mg (4562 + zn J) I' J R) := fun I' e => by
    unfold f_X1_takeBack_j156
    rw [gr_11_9 hR, ga_46 ul, e, a1]
  have pop : ∀ I', (∀ x, 46 ≤ x → x < 540 → ¬ (70 ≤ x ∧ x < 440) → I' x = I x) → I' 11 13 = I 11 13 → I' 11 14 = (Int32.ofNat (h.1 - 1)) → CHs I' (popH h) := fun I' e e1 e2 => CHs_pop h10 (e1.trans h10.2.2.1) e2 (fun x hx => e x (by omega) (by omega) (by omega))
  rcases hU with ⟨z, z1, rfl, rfl, rfl, rfl⟩ | ⟨z, z1, rfl, rfl, rfl, rfl⟩ | ⟨z, z1, z2, rfl, rfl, rfl, rfl⟩ | ⟨z, z1, rfl, rfl, rfl, rfl⟩
  · have e5 := h2.2.1
    rw [z, if_pos (show (Int32.ofNat (0)) = (0 : Int32) from rfl), gi_11, g11 5 (by first | decide | omega), e5, show (Int32.ofNat (s.1)) - 1 = (Int32.ofNat (s.1 - 1)) from n_sub (a := s.1) (b := 1) (by omega), gs_11, j156 _ (by rw [up_r (by omega), g0 _ (by omega)]), z]
    have go : ∀ x, x ≠ 11 → up I0 11 5 (Int32.ofNat (s.1 - 1)) x = I x := fun x hx => by rw [up_r hx, g0 x hx]
    refine q_ok ⟨_, rfl, ⟨CTy_keep h1 (fun x g => go x (by omega)), ⟨?_, up_s, fun k hk => CT_keep (h2.2.2 k ?_) (fun x g g' => go x (by omega))⟩, CTb_keep h3 (fun x g => go x (by omega)), CNm_keep h4 (fun x g => go x (by omega)), CFn_keep h5 (fun x g => go x (by omega)), CV_keep h6 (fun x g g' => go x (by omega)), CKp_keep h7 (fun x g => go x (by omega)), CPr_keep h8 (fun x g => go x (by omega)), CTr_keep h9 (fun x g => go x (by omega)), pop _ (fun x g g' _ => go x (by omega)) ?_ ?_⟩, fun x hx => go x (by omega)⟩
    · show s.1 - 1 ≤ 30
      have := h2.1
      omega
    · have : k < s.1 - 1 := hk
      omega
    · rw [up_n (by omega), g11 13 (by first | decide | omega)]
    · rw [up_n (by omega), g14]
  · have b0 := a3 z 0 (by first | decide | omega)
    have b1 := a3 z 1 (by first | decide | omega)
    have b2 := a3 z 2 (by first | decide | omega)
    rw [z, if_neg (by first | decide | omega), if_pos (show (Int32.ofNat (1)) = (1 : Int32) from rfl), show (0 : Int32) = (Int32.ofNat (0)) from rfl, ga_row ⟨ul, by decide⟩, show (1 : Int32) = (Int32.ofNat (1)) from rfl, ga_row ⟨ul, by decide⟩, show (2 : Int32) = (Int32.ofNat (2)) from rfl, ga_row ⟨ul, by decide⟩, g0 (49 + lu h) (by omega), b0, b1, b2, if_pos ok_11]
    unfold f_X1_putOperator f_X1_putOperator_j35
    rw [if_neg (show ¬ (Int32.ofNat (h.2.2.2.1 (lu h))) < 0 from i32_nlt0 (by omega)), gr_11_1 hR, ogL_13, Option.bind_some, if_neg (show ¬ (48 : Int32) ≤ (Int32.ofNat (h.2.2.2.1 (lu h))) from fun y => absurd ((i32_le (k := 48) (by omega) (by omega)).mp y) (by omega)), gr_11_1 hR, gw_13 z1, gr_11_2 hR, gw_14 z1, gr_11_3 hR, gw_15 z1, Option.bind_some]
    generalize hI2 : up (up (up I0 13 (h.2.2.2.1 (lu h)) (h.2.2.2.2.1 (lu h) 0)) 14 (h.2.2.2.1 (lu h)) (h.2.2.2.2.1 (lu h) 1)) 15 (h.2.2.2.1 (lu h)) (h.2.2.2.2.1 (lu h) 2) = I2
    have gf : ∀ a k, ¬ (13 ≤ a ∧ a ≤ 15 ∧ k = h.2.2.2.1 (lu h)) → I2 a k = I0 a k := fun a k g => by
      rw [← hI2, up_n (by omega), up_n (by omega), up_n (by omega)]
    have gr : ∀ x, ¬ (13 ≤ x ∧ x ≤ 15) → x ≠ 11 → I2 x = I x := fun x g g' => by
      rw [← g0 x g']
      exact funext (fun k => gf x k (by omega))
    have g11' : ∀ k, I2 11 k = I0 11 k := fun k => gf 11 k (by omega)
    rw [j156 _ (gr 46 (by omega) (by omega)), z]
    refine q_ok ⟨_, rfl, ⟨CTy_keep h1 (fun x g => gr x (by omega) (by omega)), ⟨h2.1, ((g11' 5).trans (g11 5 (by first | decide | omega))).trans h2.2.1, fun k hk => CT_keep (h2.2.2 k hk) (fun x g g' => gr x (by omega) (by omega))⟩, ⟨(gr 12 (by omega) (by omega)).trans h3.1, fun k hk => ?_⟩, CNm_keep h4 (fun x g => gr x (by omega) (by omega)), CFn_keep h5 (fun x g => gr x (by omega) (by omega)), CV_keep h6 (fun x g g' => gr x (by omega) (by omega)), CKp_keep h7 (fun x g => gr x (by omega) (by omega)), CPr_keep h8 (fun x g => gr x (by omega) (by omega)), CTr_keep h9 (fun x g => gr x (by omega) (by omega)), pop _ (fun x g g' _ => gr x (by omega) (by omega)) ?_ ?_⟩, fun x hx => gr x (by omega) (by omega)⟩
    · unfold upB
      by_cases y : k = h.2.2.2.1 (lu h)
      · rw [if_pos y, y, ← hI2, up_n (by omega), up_n (by omega), up_s, up_n (by omega), up_s, up_s]
      · rw [if_neg y, gf 13 k (by omega), gf 14 k (by omega), gf 15 k (by omega), g0 13 (by omega), g0 14 (by omega), g0 15 (by omega)]
        exact h3.2 k hk
    · rw [g11', g11 13 (by first | decide | omega)]
    · rw [g11', g14]
  · obtain ⟨b0, b1⟩ := a4 z
    obtain ⟨v1, v2⟩ := hv z
    generalize hl : h.2.2.2.1 (lu h) = l at z1 ⊢
    generalize hx : h.2.2.2.2.1 (lu h) 0 = x at z2 b0 ⊢
    have h4l := h4 l z1
    rw [z, if_neg (by first | decide | omega), if_neg (by first | decide | omega), if_pos (show (Int32.ofNat (2)) = (2 : Int32) from rfl), gr_11_7 hR, show (0 : Int32) = (Int32.ofNat (0)) from rfl, ga_row ⟨ul, by decide⟩, g0 (49 + lu h) (by omega), b0]
    have j127 : ∀ y : Int32, y = x → QK (f_X1_takeBack_j127 (mg (4562 + zn J) I0 J R) 11 (Int32.ofNat (lu h)) (Int32.ofNat (l)) y (Int32.ofNat (l)) 18) (fun z => ∃ I', z = ((Int32.ofNat (2)), mg (4562 + zn J) I' J R) ∧ InvC I' t s b (upN n.1 l x, upN n.2 l (h.2.2.2.2.2 (lu h))) f v q p r (popH h) ∧ ∀ x, 540 ≤ x → I' x = I x) := by
      intro y hy
      rw [hy]
      clear hy
      unfold f_X1_takeBack_j127
      rw [gz_18 z1 (by rcases z2 with z2 | z2 <;> rw [z2] <;> rfl), gr_11_6 hR, g_name hR z1, gr_11_12 hR, g_cval hR ul, if_pos (bF_xk (isF_310 z1))]
      have c1 : CV (up I0 18 l x) (440 + 5 * lu h) (h.2.2.2.2.2 (lu h)) := CV_keep b1 (fun y _ _ => by rw [up_r (by omega), g0 y (by omega)])
      refine q_bind (F_copy hR (isF_310 z1) c1 v1 v2 (by omega)) ?_
      rintro _ ⟨I2, rfl, hF2, hT2⟩
      have gr : ∀ y, y ≠ 11 → y ≠ 18 → ¬ (310 + 5 * l ≤ y ∧ y < 310 + 5 * l + 5) → I2 y = I y := fun y g1 g2 g3 => by
        rw [hF2 y (by unfold Sf; exact g3), up_r g2, g0 y g1]
      have g11' : ∀ k, I2 11 k = I0 11 k := fun k => by rw [hF2 11 (by unfold Sf; omega), up_r (by omega)]
      have g18 : I2 18 = up I0 18 l x 18 := hF2 18 (by unfold Sf; omega)
      rw [j156 _ (gr 46 (by omega) (by omega) (by omega)), z]
      refine q_ok ⟨_, rfl, ⟨CTy_keep h1 (fun x g => gr x (by omega) (by omega) (by omega)), ⟨h2.1, ((g11' 5).trans (g11 5 (by first | decide | omega))).trans h2.2.1, fun k hk => CT_keep (h2.2.2 k hk) (fun x g g' => gr x (by omega) (by omega) (by have := h2.1; omega))⟩, CTb_keep h3 (fun x g => gr x (by omega) (by omega) (by omega)), fun k hk => ?_, CFn_keep h5 (fun x g => gr x (by omega) (by omega) (by omega)), CV_keep h6 (fun x g g' => gr x (by omega) (by omega) (by omega)), CKp_keep h7 (fun x g => gr x (by omega) (by omega) (by omega)), CPr_keep h8 (fun x g => gr x (by omega) (by omega) (by omega)), CTr_keep h9 (fun x g => gr x (by omega) (by omega) (by omega)), pop _ (fun x g g' g'' => gr x (by omega) (by omega) (by omega)) ?_ ?_⟩, fun x hx => gr x (by omega) (by omega) (by omega)⟩
      · show I2 18 k = upN n.1 l x k ∧ (upN n.1 l x k = 0 ∨ upN n.1 l x k = 1) ∧ CV I2 (310 + 5 * k) (upN n.2 l (h.2.2.2.2.2 (lu h)) k)
        rw [g18]
        by_cases y : k = l
        · subst y
          rw [upN_s, upN_s, up_s]
          exact ⟨rfl, z2, hT2⟩
        · rw [upN_n y, upN_n y, up_n (Or.inr y), g0 18 (by omega)]
          obtain ⟨c1, c2, c3⟩ := h4 k hk
          exact ⟨c1, c2, CV_keep c3 (fun x g g' => gr x (by omega) (by omega) (by omega))⟩
      · rw [g11', g11 13 (by first | decide | omega)]
      · rw [g11', g14]
    by_cases y : x = 1
    · rw [if_pos y]
      exact j127 _ y.symm
    · rw [if_neg y]
      exact j127 _ (z2.resolve_right y).symm
  · have b0 := a5 z
    generalize hl : h.2.2.2.1 (lu h) = l at z1 ⊢
    rw [z, if_neg (by first | decide | omega), if_neg (by first | decide | omega), if_neg (by first | decide | omega), gr_11_8 hR, g_fun hR z1]
    refine q_bind (C_copyRow ⟨by omega, KK_49 _ ul⟩ ⟨by omega, KK_20 l z1⟩ (by omega)) ?_
    rintro _ ⟨I2, rfl, hF2, hT2⟩
    have gr : ∀ y, y ≠ 11 → y ≠ 20 + l → I2 y = I y := fun y g1 g2 => by rw [hF2 y g2, g0 y g1]
    have g11' : ∀ k, I2 11 k = I0 11 k := fun k => by rw [hF2 11 (by omega)]
    rw [j156 _ (gr 46 (by omega) (by omega)), z]
    refine q_ok ⟨_, rfl, ⟨CTy_keep h1 (fun x g => gr x (by omega) (by omega)), ⟨h2.1, ((g11' 5).trans (g11 5 (by first | decide | omega))).trans h2.2.1, fun k hk => CT_keep (h2.2.2 k hk) (fun x g g' => gr x (by omega) (by omega))⟩, CTb_keep h3 (fun x g => gr x (by omega) (by omega)), CNm_keep h4 (fun x g => gr x (by omega) (by omega)), fun k j hk hj => ?_, CV_keep h6 (fun x g g' => gr x (by omega) (by omega)), CKp_keep h7 (fun x g => gr x (by omega) (by omega)), CPr_keep h8 (fun x g => gr x (by omega) (by omega)), CTr_keep h9 (fun x g => gr x (by omega) (by omega)), pop _ (fun x g g' g'' => gr x (by omega) (by omega)) ?_ ?_⟩, fun x hx => gr x (by omega) (by omega)⟩
    · unfold upF
      by_cases y : k = l
      · rw [if_pos y, y, hT2 j hj, g0 _ (by omega)]
        exact b0 j hj
      · rw [if_neg y, gr _ (by omega) (by omega)]
        exact h5 k j hk hj
    · rw [g11', g11 13 (by first | decide | omega)]
    · rw [g11', g14]
end OU
