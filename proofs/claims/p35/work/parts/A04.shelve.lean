/-! rows of objects -/
theorem dTr : ∀ t, t < 30 → KK (70 + 8 * t) = (9, 0) ∧ RR 16 t = some (70 + 8 * t) ∧ ∀ k, k < 7 → RR (70 + 8 * t) k = some (70 + 8 * t + (k + 1)) ∧ KK (70 + 8 * t + (k + 1)) = (14, 80) := by decide +kernel
theorem isTr_70 {t : Nat} (h : t < 30) : isTr (70 + 8 * t) := ⟨by omega, by omega, (dTr t h).1, (dTr t h).2.2⟩
theorem dFr1 : ∀ t, t < 26 → (KK (310 + 5 * t) = (2, 0) ∧ RR (310 + 5 * t) 0 = some (310 + 5 * t + 1) ∧ RR (310 + 5 * t) 1 = some (310 + 5 * t + 3) ∧ KK (310 + 5 * t + 1) = (10, 0) ∧ RR (310 + 5 * t + 1) 0 = some (310 + 5 * t + 1 + 1) ∧ KK (310 + 5 * t + 1 + 1) = (14, 7) ∧ KK (310 + 5 * t + 3) = (10, 0) ∧ RR (310 + 5 * t + 3) 0 = some (310 + 5 * t + 3 + 1) ∧ KK (310 + 5 * t + 3 + 1) = (14, 7)) ∧ RR 17 t = some (310 + 5 * t) ∧ RR 19 t = some (20 + t) := by decide +kernel
theorem dFr2 : ∀ t, t < 20 → (KK (440 + 5 * t) = (2, 0) ∧ RR (440 + 5 * t) 0 = some (440 + 5 * t + 1) ∧ RR (440 + 5 * t) 1 = some (440 + 5 * t + 3) ∧ KK (440 + 5 * t + 1) = (10, 0) ∧ RR (440 + 5 * t + 1) 0 = some (440 + 5 * t + 1 + 1) ∧ KK (440 + 5 * t + 1 + 1) = (14, 7) ∧ KK (440 + 5 * t + 3) = (10, 0) ∧ RR (440 + 5 * t + 3) 0 = some (440 + 5 * t + 3 + 1) ∧ KK (440 + 5 * t + 3 + 1) = (14, 7)) ∧ RR 69 t = some (440 + 5 * t) ∧ RR 48 t = some (49 + t) := by decide +kernel
theorem isF_of {f : Nat} (h : 10 ≤ f ∧ f + 4 < 4561) (g : KK f = (2, 0) ∧ RR f 0 = some (f + 1) ∧ RR f 1 = some (f + 3) ∧ KK (f + 1) = (10, 0) ∧ RR (f + 1) 0 = some (f + 1 + 1) ∧ KK (f + 1 + 1) = (14, 7) ∧ KK (f + 3) = (10, 0) ∧ RR (f + 3) 0 = some (f + 3 + 1) ∧ KK (f + 3 + 1) = (14, 7)) : isF f 7 :=
  ⟨h.1, h.2, g.1, g.2.1, g.2.2.1, ⟨by omega, g.2.2.2.1, g.2.2.2.2.1, g.2.2.2.2.2.1, by decide, by decide⟩, ⟨by omega, g.2.2.2.2.2.2.1, g.2.2.2.2.2.2.2.1, g.2.2.2.2.2.2.2.2, by decide, by decide⟩⟩
theorem isF_310 {t : Nat} (h : t < 26) : isF (310 + 5 * t) 7 := isF_of (by omega) (dFr1 t h).1
theorem isF_440 {t : Nat} (h : t < 20) : isF (440 + 5 * t) 7 := isF_of (by omega) (dFr2 t h).1
theorem isF_4541 : isF 4541 7 := isF_of (by omega) (by decide +kernel)
theorem isF_4546 : isF 4546 7 := isF_of (by omega) (by decide +kernel)
section SV
variable {I : Nat → Nat → Int32} {J : Nat → Nat → Int64} {R : Nat → Nat → Option Nat} {t : GT} {s : GS} {b : GB} {n : GN} {f : GF} {v : GV} {q : Nat → GV} {p : GT} {r : GR} {h : GH} {β : Type}
theorem g_shelf {k : Nat} {F : Nat → Option β} (hR : RA R) (hk : k < 30) : ((aR (mg (4562 + zn J) I J R) 16 17 (Int32.ofNat (k))).bind id).bind F = F (70 + 8 * k) := by
  rw [oaR_16, if_pos (xvi_nat hk (by first | decide | omega)), i32_nat (by omega), hR.get (by first | decide | omega) (show k < kb 16 from hk) (dTr k hk).2.1]
  rfl
theorem g_name {k : Nat} {F : Nat → Option β} (hR : RA R) (hk : k < 26) : ((aR (mg (4562 + zn J) I J R) 17 16 (Int32.ofNat (k))).bind id).bind F = F (310 + 5 * k) := by
  rw [oaR_17, if_pos (xvi_nat hk (by first | decide | omega)), i32_nat (by omega), hR.get (by first | decide | omega) (show k < kb 17 from hk) (dFr1 k hk).2.1]
  rfl
theorem g_fun {k : Nat} {F : Nat → Option β} (hR : RA R) (hk : k < 26) : ((aR (mg (4562 + zn J) I J R) 19 18 (Int32.ofNat (k))).bind id).bind F = F (20 + k) := by
  rw [oaR_19, if_pos (xvi_nat hk (by first | decide | omega)), i32_nat (by omega), hR.get (by first | decide | omega) (show k < kb 19 from hk) (dFr1 k hk).2.2]
  rfl
theorem g_cval {k : Nat} {F : Nat → Option β} (hR : RA R) (hk : k < 20) : ((aR (mg (4562 + zn J) I J R) 69 16 (Int32.ofNat (k))).bind id).bind F = F (440 + 5 * k) := by
  rw [oaR_69, if_pos (xvi_nat hk (by first | decide | omega)), i32_nat (by omega), hR.get (by first | decide | omega) (show k < kb 69 from hk) (dFr2 k hk).2.1]
  rfl
theorem g_crow {k : Nat} {F : Nat → Option β} (hR : RA R) (hk : k < 20) : ((aR (mg (4562 + zn J) I J R) 48 18 (Int32.ofNat (k))).bind id).bind F = F (49 + k) := by
  rw [oaR_48, if_pos (xvi_nat hk (by first | decide | omega)), i32_nat (by omega), hR.get (by first | decide | omega) (show k < kb 48 from hk) (dFr2 k hk).2.2]
  rfl
def sPush (s : GS) (m : Nat) (nd : Nat → Nd) (sp : Nat → Nat) : GS := (s.1 + 1, upN s.2.1 s.1 m, upN s.2.2.1 s.1 nd, upN s.2.2.2 s.1 sp)
def hShelf (h : GH) : GH := pushH h 0 0 (fun _ => 0) (0, 1)
theorem C_shelve {w m : Nat} {nd : Nat → Nd} {sp : Nat → Nat} (hR : RA R) (H : InvC I t s b n f v q p r h) (hw : CT I w m nd sp) (h30 : s.1 < 30) (hw2 : 310 ≤ w) : QK (f_X1_shelve (mg (4562 + zn J) I J R) 11 w) (fun x => ∃ I', x = ((Int32.ofNat (s.1)), mg (4562 + zn J) I' J R) ∧ InvC I' t (sPush s m nd sp) b n f v q p r (hShelf h) ∧ FrS (fun x => x = 11 ∨ (46 ≤ x ∧ x < 48) ∨ (70 ≤ x ∧ x < 310)) I I') := by
  obtain ⟨h1, h2, h3, h4, h5, h6, h7, h8, h9, h10⟩ := H
  have e5 := h2.2.1
  have it := isTr_70 h30
  unfold f_X1_shelve
  rw [gi_11, e5, if_pos (show (Int32.ofNat (s.1)) < (30 : Int32) from (i32_lt (m := 30) (by omega) (by omega)).mpr h30), gr_11_4 hR, gi_11, e5, g_shelf hR h30, if_pos (bT_xk it)]
  refine q_bind (T_copy hR it hw (by omega)) ?_
  rintro x ⟨I1, rfl, hF1, hC1⟩
  have f11 : I1 11 = I 11 := hF1 11 (by unfold St; omega)
  rw [gi_11, f11, e5, show (Int32.ofNat (s.1)) + 1 = (Int32.ofNat (s.1 + 1)) from n_add s.1 1, gs_11, if_pos ok_11]
  refine q_bind (C_note (kd := 0) (ky := 0) (h := h) hR h10.1 h10.2.1 (by rw [up_n (by omega), f11]; exact h10.2.2.1) (by rw [up_n (by omega), f11]; exact h10.2.2.2.1)) ?_
  rintro x ⟨I2, rfl, hF2, e13, e14, e46, e47⟩
  have g11 : ∀ k, k ≠ 13 → k ≠ 14 → k ≠ 5 → I2 11 k = I 11 k := fun k a b c => by
    rw [hF2 11 k (by omega), up_n (by omega), f11]
  have g5 : I2 11 5 = (Int32.ofNat (s.1 + 1)) := by rw [hF2 11 5 (by omega), up_s]
  have gr : ∀ x, x ≠ 11 → x ≠ 46 → x ≠ 47 → I2 x = I1 x := fun x a b c => by
    funext k
    rw [hF2 x k (by omega), up_n (by omega)]
  have go : ∀ x, x ≠ 11 → x ≠ 46 → x ≠ 47 → ¬ (70 + 8 * s.1 ≤ x ∧ x < 70 + 8 * s.1 + 8) → I2 x = I x := fun x a b c d => by
    rw [gr x a b c, hF1 x (by unfold St; exact d)]
  rw [gi_11, g5, show (Int32.ofNat (s.1 + 1)) - 1 = (Int32.ofNat (s.1)) from n_sub (a := s.1 + 1) (b := 1) (by omega)]
  refine q_ok ⟨I2, rfl, ⟨CTy_keep h1 ?_, ?_, CTb_keep h3 ?_, CNm_keep h4 ?_, CFn_keep h5 ?_, CV_keep h6 ?_, CKp_keep h7 ?_, CPr_keep h8 ?_, CTr_keep h9 ?_, ?_⟩, ?_⟩
  case refine_2 =>
    refine ⟨by show s.1 + 1 ≤ 30; omega, g5, fun k hk => ?_⟩
    have hk' : k < s.1 + 1 := hk
    show CT I2 (70 + 8 * k) (upN s.2.1 s.1 m k) (upN s.2.2.1 s.1 nd k) (upN s.2.2.2 s.1 sp k)
    by_cases z : k = s.1
    · subst z
      rw [upN_s, upN_s, upN_s]
      exact CT_keep hC1 (fun x a b => gr x (by omega) (by omega) (by omega))
    · rw [upN_n z, upN_n z, upN_n z]
      exact CT_keep (h2.2.2 k (by omega)) (fun x a b => go x (by omega) (by omega) (by omega) (by omega))
  case refine_10 =>
    refine CHs_push h10 e13 e14 (fun u hu => ?_) e46 (fun u hu => ?_) e47 (fun u hu _ => ?_) (fun x a b _ => ?_) (fun z => absurd z (by omega)) (fun z => absurd z (by omega)) (fun z => absurd z (by omega))
    · rw [hF2 46 u (by omega), up_n (by omega), hF1 46 (by unfold St; omega)]
    · rw [hF2 47 u (by omega), up_n (by omega), hF1 47 (by unfold St; omega)]
    · exact go _ (by omega) (by omega) (by omega) (by omega)
    · exact go _ (by omega) (by omega) (by omega) (by omega)
  case refine_11 =>
    intro x hx
    exact go x (by omega) (by omega) (by omega) (by omega)
  case refine_6 =>
    intro x g1 g2
    exact go x (by omega) (by omega) (by omega) (by omega)
  all_goals
    intro x hx
    exact go x (by omega) (by omega) (by omega) (by omega)
end SV
