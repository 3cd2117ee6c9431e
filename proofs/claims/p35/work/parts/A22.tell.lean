/-! tell, at any state -/
section EW
variable {I : Nat → Nat → Int32} {J : Nat → Nat → Int64} {R : Nat → Nat → Option Nat}
end EW
section OT
variable {I : Nat → Nat → Int32} {J : Nat → Nat → Int64} {R : Nat → Nat → Option Nat} {t : GT} {s : GS} {b : GB} {n : GN} {f : GF} {v : GV} {q : Nat → GV} {p : GT} {r : GR} {h : GH} {β : Type}
/-- the row that a told operator leaves in the ring -/
def bRow (x : Int32 × Int32 × Int32) : Nat → Int32 := fun k => if k = 0 then x.1 else if k = 1 then x.2.1 else x.2.2
def hTab (h : GH) (sl : Nat) (x : Int32 × Int32 × Int32) : GH := pushH h 1 sl (bRow x) (0, 1)
def STl (u sl : Nat) : Nat → Nat → Prop := fun a k => (a = 11 ∧ (k = 13 ∨ k = 14)) ∨ ((a = 46 ∨ a = 47) ∧ k = u) ∨ (a = 49 + u ∧ k < 3) ∨ (13 ≤ a ∧ a ≤ 15 ∧ k = sl)
theorem C_tell {c sl : Nat} {fx rk sd mn : Int32} (hR : RA R) (H : InvC I t s b n f v q p r h) (hs : sl < 48) (hsl : ∀ I', I' 12 = plc → f_X1_slot (mg (4562 + zn J) I' J R) 11 (Int32.ofNat c) fx = some (Int32.ofNat sl)) : QK (f_X1_tellOperator (mg (4562 + zn J) I J R) 11 (Int32.ofNat c) fx rk sd mn) (fun x => ∃ I', x = mg (4562 + zn J) I' J R ∧ InvC I' t s (upB b sl (rk, sd, mn)) n f v q p r (hTab h sl (b sl)) ∧ FrK (STl (nu h) sl) I I') := by
  obtain ⟨h1, h2, h3, h4, h5, h6, h7, h8, h9, h10⟩ := H
  have ul := nu_lt h
  have eb := h3.2 sl hs
  unfold f_X1_tellOperator
  rw [if_pos ok_11, hsl I h3.1, Option.bind_some, if_pos (i32_0le (by omega)), gr_11_11 hR, if_pos ok_11]
  refine q_bind (C_note (kd := 1) (ky := sl) (h := h) hR h10.1 h10.2.1 h10.2.2.1 h10.2.2.2.1) ?_
  rintro x ⟨I1, rfl, hF1, e13, e14, e46, e47⟩
  have f1 : ∀ a k, a ≠ 11 → a ≠ 46 → a ≠ 47 → I1 a k = I a k := fun a k g1 g2 g3 => hF1 a k (by omega)
  have kk : KK (49 + nu h) = (14, 10) := KK_49 _ ul
  have wr : ∀ (I' : Nat → Nat → Int32) (k : Nat) (w : Int32) (F : xM → Option xM), k < 10 → (wI (mg (4562 + zn J) I' J R) (49 + nu h) (Int32.ofNat k) w).bind F = F (mg (4562 + zn J) (up I' (49 + nu h) k w) J R) := fun I' k w F hk => by
    rw [e_wI (by omega) kk hk (by first | decide | omega)]
    rfl
  rw [g_crow hR ul, gr_11_1 hR, ga_13 (by omega), f1 13 sl (by omega) (by omega) (by omega), show (0 : Int32) = Int32.ofNat 0 from rfl, wr _ 0 _ _ (by first | decide | omega), gr_11_2 hR, ga_14 (by omega), up_n (by omega), f1 14 sl (by omega) (by omega) (by omega), show (1 : Int32) = Int32.ofNat 1 from rfl, wr _ 1 _ _ (by first | decide | omega), gr_11_3 hR, ga_15 (by omega), up_n (by omega), up_n (by omega), f1 15 sl (by omega) (by omega) (by omega), show (2 : Int32) = Int32.ofNat 2 from rfl, wr _ 2 _ _ (by first | decide | omega), if_pos ok_11]
  unfold f_X1_putOperator f_X1_putOperator_j35
  rw [if_neg (i32_nlt0 (by omega)), gr_11_1 hR, ogL_13, Option.bind_some, if_neg (show ¬ (48 : Int32) ≤ Int32.ofNat sl from fun z => absurd ((i32_le (k := 48) (by omega) (by omega)).mp z) (by omega)), gr_11_1 hR, gw_13 (by omega), gr_11_2 hR, gw_14 (by omega), gr_11_3 hR, gw_15 (by omega), Option.bind_some]
  have e1 : (b sl).1 = I 13 sl := by rw [← eb]
  have e2 : (b sl).2.1 = I 14 sl := by rw [← eb]
  have e3 : (b sl).2.2 = I 15 sl := by rw [← eb]
  generalize hI2 : (up (up (up (up (up (up I1 (49 + nu h) 0 (I 13 sl)) (49 + nu h) 1 (I 14 sl)) (49 + nu h) 2 (I 15 sl)) 13 sl rk) 14 sl sd) 15 sl mn) = I2
  have g0 : ∀ a k, ¬ (a = 49 + nu h ∧ k < 3) → ¬ (13 ≤ a ∧ a ≤ 15 ∧ k = sl) → I2 a k = I1 a k := fun a k g1 g2 => by
    rw [← hI2, up_n (by omega), up_n (by omega), up_n (by omega), up_n (by omega), up_n (by omega), up_n (by omega)]
  have gf : ∀ a k, ¬ STl (nu h) sl a k → I2 a k = I a k := fun a k g => by
    unfold STl at g
    rw [g0 a k (by omega) (by omega), hF1 a k (by omega)]
  have gr : ∀ x, x ≠ 11 → ¬ (13 ≤ x ∧ x ≤ 15) → ¬ (46 ≤ x ∧ x < 69) → I2 x = I x := fun x g1 g2 g3 => funext (fun k => gf x k (by unfold STl; omega))
  have t13 : I2 13 sl = rk := by rw [← hI2, up_n (by omega), up_n (by omega), up_s]
  have t14 : I2 14 sl = sd := by rw [← hI2, up_n (by omega), up_s]
  have t15 : I2 15 sl = mn := by rw [← hI2, up_s]
  refine q_ok ⟨I2, rfl, ⟨CTy_keep h1 ?_, ?_, ?_, CNm_keep h4 ?_, CFn_keep h5 ?_, CV_keep h6 ?_, CKp_keep h7 ?_, CPr_keep h8 ?_, CTr_keep h9 ?_, ?_⟩, gf⟩
  case refine_2 =>
    refine ⟨h2.1, (gf 11 5 (by unfold STl; omega)).trans h2.2.1, fun k hk => CT_keep (h2.2.2 k hk) (fun x a b => gr x (by omega) (by omega) (by have := h2.1; omega))⟩
  case refine_3 =>
    refine ⟨(gr 12 (by omega) (by omega) (by omega)).trans h3.1, fun k hk => ?_⟩
    unfold upB
    by_cases z : k = sl
    · rw [if_pos z, z, t13, t14, t15]
    · rw [if_neg z, gf 13 k (by unfold STl; omega), gf 14 k (by unfold STl; omega), gf 15 k (by unfold STl; omega)]
      exact h3.2 k hk
  case refine_10 =>
    refine CHs_push h10 ((g0 11 13 (by omega) (by omega)).trans e13) ((g0 11 14 (by omega) (by omega)).trans e14) (fun u hu => gf 46 u (by unfold STl; omega)) ((g0 46 _ (by omega) (by omega)).trans e46) (fun u hu => gf 47 u (by unfold STl; omega)) ((g0 47 _ (by omega) (by omega)).trans e47) (fun u hu g => funext (fun k => gf _ k (by unfold STl; omega))) (fun x a b _ => gr x (by omega) (by omega) (by omega)) (fun _ k hk => ?_) (fun z => absurd z (by omega)) (fun z => absurd z (by omega))
    unfold bRow
    rw [← hI2, up_n (by omega), up_n (by omega), up_n (by omega)]
    rcases (by omega : k = 0 ∨ k = 1 ∨ k = 2) with rfl | rfl | rfl
    · rw [up_n (by omega), up_n (by omega), up_s, if_pos rfl, e1]
    · rw [up_n (by omega), up_s, if_neg (by first | decide | omega), if_pos rfl, e2]
    · rw [up_s, if_neg (by first | decide | omega), if_neg (by first | decide | omega), e3]
  case refine_6 =>
    intro x g1 g2
    exact gr x (by omega) (by omega) (by omega)
  all_goals
    intro x hx
    exact gr x (by omega) (by omega) (by omega)
theorem TbOK_up {fx p' : Nat} {rk sd mn : Int32} (H : TbOK b) (hC : CTb I b) (hp : p' < 16) (hf : fx ≤ 2) (hop : OpOK fx rk sd mn) (hh : ¬ Hind I fx p' rk sd) : TbOK (upB b (fx * 16 + p') (rk, sd, mn)) := by
  obtain ⟨a1, a2, a3⟩ := H
  have rk0 : rk ≠ 0 := fun z => by
    have := hop.1.1
    rw [z] at this
    exact absurd this (by first | decide | omega)
  have pos : ∀ q' gx, q' < 16 → gx < 3 → (b (gx * 16 + q')).1 ≠ 0 → 0 < (b (gx * 16 + q')).1 := fun q' gx h1 h2 h3 => by
    rcases a1 q' gx h1 h2 with z | z
    · exact absurd z h3
    · exact Int32.lt_of_lt_of_le (by first | decide | omega) z.1.1
  have c13 : ∀ k, k < 48 → I 13 k = (b k).1 ∧ I 14 k = (b k).2.1 := fun k hk => by
    rw [← hC.2 k hk]
    exact ⟨rfl, rfl⟩
  have nb : ∀ k, k ≠ fx * 16 + p' → upB b (fx * 16 + p') (rk, sd, mn) k = b k := fun k hk => if_neg hk
  have nw : upB b (fx * 16 + p') (rk, sd, mn) (fx * 16 + p') = (rk, sd, mn) := if_pos rfl
  refine ⟨fun p2 fx2 h1 h2 => ?_, fun p2 h1 => ?_, fun p2 q2 h1 h2 g1 g2 => ?_⟩
  · by_cases z : fx2 * 16 + p2 = fx * 16 + p'
    · obtain ⟨z1, z2⟩ : fx2 = fx ∧ p2 = p' := by omega
      subst z1 z2
      rw [nw]
      exact Or.inr hop
    · rw [nb _ z]
      exact a1 p2 fx2 h1 h2
  · by_cases z : p2 = p'
    · subst z
      rcases (by omega : fx = 0 ∨ fx = 1 ∨ fx = 2) with rfl | rfl | rfl
      · rw [nb _ (by omega), nb _ (by omega)]
        exact a2 p2 h1
      · right
        rw [nb _ (by omega)]
        by_cases y : (b (32 + p2)).1 = 0
        · exact y
        · exact absurd (Or.inl ⟨rfl, by rw [(c13 _ (by omega)).1]; exact pos p2 2 h1 (by omega) y⟩) hh
      · left
        rw [nb _ (by omega)]
        by_cases y : (b (16 + p2)).1 = 0
        · exact y
        · refine absurd (Or.inr ⟨rfl, Or.inl ?_⟩) hh
          rw [(c13 _ (by omega)).1]
          have := pos p2 1 h1 (by omega)
          rw [Nat.one_mul] at this
          exact this y
    · rw [nb _ (by omega), nb _ (by omega)]
      exact a2 p2 h1
  · by_cases zf : fx = 2
    · subst zf
      have key : ∀ q', q' < 16 → q' ≠ p' → (b (32 + q')).1 = rk → (b (32 + q')).2.1 = sd := fun q' w1 w2 w3 => by
        by_cases y : (b (32 + q')).2.1 = sd
        · exact y
        · refine absurd (Or.inr ⟨rfl, Or.inr ⟨q', w1, w2, ?_, ?_⟩⟩) hh
          · rw [(c13 _ (by omega)).1, w3]
          · rw [(c13 _ (by omega)).2]
            exact y
      by_cases z1 : p2 = p'
      · by_cases z2 : q2 = p'
        · rw [z1, z2]
        · rw [z1, show 32 + p' = 2 * 16 + p' by omega, nw, nb _ (by omega)] at g2 ⊢
          exact (key q2 h2 z2 g2.symm).symm
      · by_cases z2 : q2 = p'
        · rw [z2, show 32 + p' = 2 * 16 + p' by omega, nw, nb _ (by omega)] at g2 ⊢
          exact key p2 h1 z1 g2
        · rw [nb _ (by omega), nb _ (by omega)] at g2 ⊢
          rw [nb _ (by omega)] at g1
          exact a3 p2 q2 h1 h2 g1 g2
    · rw [nb _ (by omega), nb _ (by omega)] at g2 ⊢
      rw [nb _ (by omega)] at g1
      exact a3 p2 q2 h1 h2 g1 g2
theorem NV_up {sl : Nat} {x : Int32 × Int32 × Int32} {nd : Nd} (H : NV b nd) (hx : x.1 ≠ 0) : NV (upB b sl x) nd := by
  rcases H with z | z | z | ⟨z1, p', fx, w1, w2, w3, w4, w5, w6⟩
  · exact Or.inl z
  · exact Or.inr (Or.inl z)
  · exact Or.inr (Or.inr (Or.inl z))
  · refine Or.inr (Or.inr (Or.inr ⟨z1, p', fx, w1, w2, w3, w4, w5, ?_⟩))
    unfold upB
    split
    · exact hx
    · exact w6
end OT
