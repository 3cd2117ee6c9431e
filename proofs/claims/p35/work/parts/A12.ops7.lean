/-! a name's value noted; unlet -/
section OG
variable {I : Nat → Nat → Int32} {J : Nat → Nat → Int64} {R : Nat → Nat → Option Nat} {t : GT} {s : GS} {b : GB} {n : GN} {f : GF} {v w : GV} {q : Nat → GV} {p : GT} {r : GR} {h : GH} {β : Type}
theorem gw_row {u k : Nat} {x : Int32} {F : xM → Option β} (h : u < 20 ∧ k < 10) : (wI (mg (4562 + zn J) I J R) (49 + u) (Int32.ofNat (k)) x).bind F = F (mg (4562 + zn J) (up I (49 + u) k x) J R) := by
  rw [e_wI (len := 10) (by omega) (KK_49 u h.1) h.2 (by first | decide | omega)]
  rfl
theorem ga_row {u k : Nat} {F : Int32 → Option β} (h : u < 20 ∧ k < 10) : (aI (mg (4562 + zn J) I J R) (49 + u) 14 (Int32.ofNat (k))).bind F = F (I (49 + u) k) := by
  rw [e_aI (len := 10) (by omega) (KK_49 u h.1) h.2 (by first | decide | omega)]
  rfl
theorem ga_fn {u k : Nat} {F : Int32 → Option β} (h : u < 26 ∧ k < 10) : (aI (mg (4562 + zn J) I J R) (20 + u) 14 (Int32.ofNat (k))).bind F = F (I (20 + u) k) := by
  rw [e_aI (len := 10) (by omega) (KK_20 u h.1) h.2 (by first | decide | omega)]
  rfl
def hName (h : GH) (n : GN) (l : Nat) : GH := pushH h 2 l (fun _ => n.1 l) (n.2 l)
theorem C_noteName {l : Nat} (hR : RA R) (H : InvC I t s b n f v q p r h) (hl : l < 26) (hb : (n.2 l).1.natAbs < Bw 7 ∧ ((n.2 l).2 : Int).natAbs < Bw 7) : QK (f_X1_noteName (mg (4562 + zn J) I J R) 11 (Int32.ofNat (l))) (fun x => ∃ I', x = mg (4562 + zn J) I' J R ∧ InvC I' t s b n f v q p r (hName h n l) ∧ FrS (fun x => x = 11 ∨ (46 ≤ x ∧ x < 69) ∨ (440 ≤ x ∧ x < 540)) I I') := by
  obtain ⟨h1, h2, h3, h4, h5, h6, h7, h8, h9, h10⟩ := H
  have ul := nu_lt h
  obtain ⟨c1, c2, c3⟩ := h4 l hl
  unfold f_X1_noteName
  rw [if_pos ok_11]
  refine q_bind (C_note (kd := 2) (ky := l) (h := h) hR h10.1 h10.2.1 h10.2.2.1 h10.2.2.2.1) ?_
  rintro _ ⟨I1, rfl, hF1, e13, e14, e46, e47⟩
  have f1 : ∀ x, x ≠ 11 → x ≠ 46 → x ≠ 47 → I1 x = I x := fun x a c d => funext (fun k => hF1 x k (by omega))
  have j28 : ∀ u : Int32, u = n.1 l → QK (f_X1_noteName_j28 (mg (4562 + zn J) I1 J R) 11 (Int32.ofNat (l)) (Int32.ofNat (nu h)) u 0 (49 + nu h)) (fun x => ∃ I', x = mg (4562 + zn J) I' J R ∧ InvC I' t s b n f v q p r (hName h n l) ∧ FrS (fun x => x = 11 ∨ (46 ≤ x ∧ x < 69) ∨ (440 ≤ x ∧ x < 540)) I I') := by
    intro u hu
    unfold f_X1_noteName_j28
    rw [show (0 : Int32) = (Int32.ofNat (0)) from rfl, gw_row ⟨ul, by omega⟩, gr_11_12 hR, g_cval hR ul, gr_11_6 hR, g_name hR hl, if_pos (bF_xk (isF_440 ul))]
    have c3' : CV (up I1 (49 + nu h) 0 u) (310 + 5 * l) (n.2 l) := CV_keep c3 (fun x a c => by rw [up_r (by omega), f1 x (by omega) (by omega) (by omega)])
    refine q_bind (F_copy hR (isF_440 ul) c3' hb.1 hb.2 (by omega)) ?_
    rintro _ ⟨I2, rfl, hF2, hT2⟩
    have g2 : ∀ x, ¬ (440 + 5 * nu h ≤ x ∧ x < 440 + 5 * nu h + 5) → I2 x = up I1 (49 + nu h) 0 u x := fun x y => hF2 x (fun z => y (by unfold Sf at z; omega))
    have go : ∀ x, x ≠ 11 → x ≠ 46 → x ≠ 47 → x ≠ 49 + nu h → ¬ (440 + 5 * nu h ≤ x ∧ x < 440 + 5 * nu h + 5) → I2 x = I x := fun x a c d e y => by
      rw [g2 x y, up_r e, f1 x a c d]
    have g5 : ∀ k, k ≠ 13 → k ≠ 14 → I2 11 k = I 11 k := fun k a c => by
      rw [g2 11 (by omega), up_n (by omega), hF1 11 k (by omega)]
    refine q_ok ⟨I2, rfl, ⟨CTy_keep h1 ?_, ⟨h2.1, (g5 5 (by first | decide | omega) (by first | decide | omega)).trans h2.2.1, fun k hk => CT_keep (h2.2.2 k hk) ?_⟩, CTb_keep h3 ?_, CNm_keep h4 ?_, CFn_keep h5 ?_, CV_keep h6 ?_, CKp_keep h7 ?_, CPr_keep h8 ?_, CTr_keep h9 ?_, ?_⟩, ?_⟩
    case refine_2 =>
      intro x a c
      have := h2.1
      exact go x (by omega) (by omega) (by omega) (by omega) (by omega)
    case refine_6 =>
      intro x a c
      exact go x (by omega) (by omega) (by omega) (by omega) (by omega)
    case refine_10 =>
      refine CHs_push h10 ?_ ?_ (fun u hu => ?_) ?_ (fun u hu => ?_) ?_ (fun u hu hu' => ?_) (fun x a c d => ?_) (fun z => absurd z (by omega)) (fun _ => ⟨?_, hT2⟩) (fun z => absurd z (by omega))
      · rw [g2 11 (by omega), up_n (by omega), e13]
      · rw [g2 11 (by omega), up_n (by omega), e14]
      · rw [g2 46 (by omega), up_n (by omega), hF1 46 u (by omega)]
      · rw [g2 46 (by omega), up_n (by omega), e46]
      · rw [g2 47 (by omega), up_n (by omega), hF1 47 u (by omega)]
      · rw [g2 47 (by omega), up_n (by omega), e47]
      · exact go _ (by omega) (by omega) (by omega) (by omega) (by omega)
      · exact go _ (by omega) (by omega) (by omega) (by omega) (by omega)
      · rw [g2 _ (by omega), up_s]
        exact hu
    case refine_11 =>
      intro x hx
      exact go x (by omega) (by omega) (by omega) (by omega) (by omega)
    all_goals
      intro x hx
      exact go x (by omega) (by omega) (by omega) (by omega) (by omega)
  rw [gr_11_11 hR, g_crow hR ul, gr_11_7 hR, ga_18 hl, f1 18 (by omega) (by omega) (by omega), c1]
  by_cases z : n.1 l = 0
  · rw [if_pos z]
    exact j28 0 z.symm
  · rw [if_neg z]
    exact j28 1 (c2.resolve_left z).symm
end OG
