/-! equations: the reference puts a wide sum aside -/
def As (I : Nat → Nat → Int32) (k8 n k9 d : Nat) : Prop := I 4623 120 = (Int32.ofNat (k8)) ∧ I 4623 121 = (Int32.ofNat (k9)) ∧ (k8 ≤ 60 ∧ n < Bp k8 ∧ (k8 = 0 ∨ Bp (k8 - 1) ≤ n)) ∧ (k9 ≤ 60 ∧ d < Bp k9 ∧ (k9 = 0 ∨ Bp (k9 - 1) ≤ d)) ∧ (∀ j, j < k8 → I 4623 j = (Int32.ofNat (dg n j))) ∧ ∀ j, j < k9 → I 4623 (60 + j) = (Int32.ofNat (dg d j))
theorem As_fr {I I' : Nat → Nat → Int32} {k8 n k9 d : Nat} (h : As I k8 n k9 d) (e : I' 4623 = I 4623) : As I' k8 n k9 d := by
  unfold As
  rw [e]
  exact h
section ASD
variable {I : Nat → Nat → Int32} {J : Nat → Nat → Int64} {R : Nat → Nat → Option Nat} {β : Type} {k8 n k9 d : Nat}
theorem M_copyAside (hR : RA R) (h8 : Rg (I 4562) (I 4563) 8 k8 n) (h9 : Rg (I 4562) (I 4563) 9 k9 d) (b8 : k8 ≤ 60) (b9 : k9 ≤ 60) : QK (f_X12_copyWideAside (mg 4625 I J R) 4561) (fun y => ∃ I', y = mg 4625 I' J R ∧ FrS (fun x => x = 4623) I I' ∧ As I' k8 n k9 d) := by
  obtain ⟨a1, a2, a3, a4, a5⟩ := h8
  obtain ⟨c1, c2, c3, c4, c5⟩ := h9
  unfold f_X12_copyWideAside
  rw [gr_4561_85 hR, gr_4561_2 hR, show (8 : Int32) = (Int32.ofNat (8)) from rfl, ga_4563 (by omega), show (120 : Int32) = (Int32.ofNat (120)) from rfl, gw_4623 (by omega), gr_4561_85 hR, gr_4561_2 hR, show (9 : Int32) = (Int32.ofNat (9)) from rfl, ga_4563 (by omega), show (121 : Int32) = (Int32.ofNat (121)) from rfl, gw_4623 (by omega), q_let, a1, show up I 4623 120 (Int32.ofNat (k8)) 4563 9 = (Int32.ofNat (k9)) from (up_n (by omega)).trans c1]
  have f1 : FrS (fun x => x = 4623) I (up (up I 4623 120 (Int32.ofNat (k8))) 4623 121 (Int32.ofNat (k9))) := fun x hx => by rw [up_r hx, up_r hx]
  have t1 : up (up I 4623 120 (Int32.ofNat (k8))) 4623 121 (Int32.ofNat (k9)) 4623 120 = (Int32.ofNat (k8)) := (up_n (by omega)).trans up_s
  have t2 : up (up I 4623 120 (Int32.ofNat (k8))) 4623 121 (Int32.ofNat (k9)) 4623 121 = (Int32.ofNat (k9)) := up_s
  generalize up (up I 4623 120 (Int32.ofNat (k8))) 4623 121 (Int32.ofNat (k9)) = I1 at *
  refine q_bind (P := fun x => ∃ I', x = .inr (mg 4625 I' J R) ∧ FrS (fun x => x = 4623) I I' ∧ As I' k8 n k9 d) ?_ ?_
  · refine q_for 60 (fun i s => ∃ I', s = (4561, (Int32.ofNat (i)), mg 4625 I' J R) ∧ FrS (fun x => x = 4623) I I' ∧ I' 4623 120 = (Int32.ofNat (k8)) ∧ I' 4623 121 = (Int32.ofNat (k9)) ∧ (∀ j, j < i → j < k8 → I' 4623 j = (Int32.ofNat (dg n j))) ∧ ∀ j, j < i → j < k9 → I' 4623 (60 + j) = (Int32.ofNat (dg d j))) ?_ ?_ (i := 0) ⟨I1, rfl, f1, t1, t2, fun j hj => absurd hj (Nat.not_lt_zero _), fun j hj => absurd hj (Nat.not_lt_zero _)⟩ (by omega) (by unfold xF; omega)
    · rintro i s hi ⟨I2, rfl, f2, u1, u2, g1, g2⟩
      have e8 : I2 4563 8 = (Int32.ofNat (k8)) := by rw [f2 4563 (by omega)]; exact a1
      unfold f_X12_copyWideAside_s30
      dsimp only
      rw [q_let, q_let, q_let, if_neg (show ¬ (60 : Int32) ≤ (Int32.ofNat (i)) from fun y => absurd ((i32_le (k := 60) (by omega) (by omega)).mp y) (by omega)), gr_4561_85 hR, gr_4561_2 hR, show (8 : Int32) = (Int32.ofNat (8)) from rfl, ga_4563 (by omega), e8]
      have j66 : ∀ v : Int32, (i < k8 → v = (Int32.ofNat (dg n i))) → QK (f_X12_copyWideAside_j66 (mg 4625 I2 J R) 4561 (Int32.ofNat (i)) v (Int32.ofNat (i)) 4623) (qS (fun s => ∃ I', s = (4561, (Int32.ofNat (i + 1)), mg 4625 I' J R) ∧ FrS (fun x => x = 4623) I I' ∧ I' 4623 120 = (Int32.ofNat (k8)) ∧ I' 4623 121 = (Int32.ofNat (k9)) ∧ (∀ j, j < i + 1 → j < k8 → I' 4623 j = (Int32.ofNat (dg n j))) ∧ ∀ j, j < i + 1 → j < k9 → I' 4623 (60 + j) = (Int32.ofNat (dg d j))) (fun x => ∃ I', x = .inr (mg 4625 I' J R) ∧ FrS (fun x => x = 4623) I I' ∧ As I' k8 n k9 d)) := fun v hv => by
        unfold f_X12_copyWideAside_j66
        rw [gw_4623 (by omega)]
        have f3 : FrS (fun x => x = 4623) I (up I2 4623 i v) := fun x hx => by rw [up_r hx]; exact f2 x hx
        have w1 : up I2 4623 i v 4623 120 = (Int32.ofNat (k8)) := (up_n (by omega)).trans u1
        have w2 : up I2 4623 i v 4623 121 = (Int32.ofNat (k9)) := (up_n (by omega)).trans u2
        have w3 : ∀ j, j < i + 1 → j < k8 → up I2 4623 i v 4623 j = (Int32.ofNat (dg n j)) := fun j hj hk => by
          by_cases z : j = i
          · subst z
            rw [up_s]
            exact hv hk
          · rw [up_n (by omega)]
            exact g1 j (by omega) hk
        have w4 : ∀ j, j < i → j < k9 → up I2 4623 i v 4623 (60 + j) = (Int32.ofNat (dg d j)) := fun j hj hk => by
          rw [up_n (by omega)]
          exact g2 j hj hk
        generalize up I2 4623 i v = I3 at *
        have e9 : I3 4563 9 = (Int32.ofNat (k9)) := by rw [f3 4563 (by omega)]; exact c1
        rw [gr_4561_85 hR, gr_4561_2 hR, show (9 : Int32) = (Int32.ofNat (9)) from rfl, ga_4563 (by omega), e9, show (60 : Int32) + (Int32.ofNat (i)) = (Int32.ofNat (60 + i)) from n_add 60 i]
        have j100 : ∀ v : Int32, (i < k9 → v = (Int32.ofNat (dg d i))) → QK (f_X12_copyWideAside_j100 (mg 4625 I3 J R) 4561 (Int32.ofNat (i)) v (Int32.ofNat (60 + i)) 4623) (qS (fun s => ∃ I', s = (4561, (Int32.ofNat (i + 1)), mg 4625 I' J R) ∧ FrS (fun x => x = 4623) I I' ∧ I' 4623 120 = (Int32.ofNat (k8)) ∧ I' 4623 121 = (Int32.ofNat (k9)) ∧ (∀ j, j < i + 1 → j < k8 → I' 4623 j = (Int32.ofNat (dg n j))) ∧ ∀ j, j < i + 1 → j < k9 → I' 4623 (60 + j) = (Int32.ofNat (dg d j))) (fun x => ∃ I', x = .inr (mg 4625 I' J R) ∧ FrS (fun x => x = 4623) I I' ∧ As I' k8 n k9 d)) := fun v hv => by
          unfold f_X12_copyWideAside_j100
          rw [gw_4623 (by omega), q_let, show (Int32.ofNat (i)) + (1 : Int32) = (Int32.ofNat (i + 1)) from n_add i 1]
          refine q_go ⟨_, rfl, fun x hx => by rw [up_r hx]; exact f3 x hx, (up_n (by omega)).trans w1, (up_n (by omega)).trans w2, fun j hj hk => (up_n (by omega)).trans (w3 j hj hk), fun j hj hk => ?_⟩
          by_cases z : j = i
          · subst z
            rw [up_s]
            exact hv hk
          · rw [up_n (by omega)]
            exact w4 j (by omega) hk
        by_cases z : k9 ≤ i
        · rw [if_pos ((i32_le (by omega) (by omega)).mpr z)]
          exact j100 0 (fun y => by omega)
        · rw [if_neg (show ¬ (Int32.ofNat (k9)) ≤ (Int32.ofNat (i)) from fun y => z ((i32_le (by omega) (by omega)).mp y)), gr_4561_1 hR, show (3960 : Int32) + (Int32.ofNat (i)) = (Int32.ofNat (3960 + i)) from n_add 3960 i, ga_4562 (by omega)]
          refine j100 _ (fun y => ?_)
          rw [f3 4562 (by omega)]
          exact c5 i y
      by_cases z : k8 ≤ i
      · rw [if_pos ((i32_le (by omega) (by omega)).mpr z)]
        exact j66 0 (fun y => by omega)
      · rw [if_neg (show ¬ (Int32.ofNat (k8)) ≤ (Int32.ofNat (i)) from fun y => z ((i32_le (by omega) (by omega)).mp y)), gr_4561_1 hR, show (3520 : Int32) + (Int32.ofNat (i)) = (Int32.ofNat (3520 + i)) from n_add 3520 i, ga_4562 (by omega)]
        refine j66 _ (fun y => ?_)
        rw [f2 4562 (by omega)]
        exact a5 i y
    · rintro s ⟨I2, rfl, f2, u1, u2, g1, g2⟩
      unfold f_X12_copyWideAside_s30
      dsimp only
      rw [q_let, q_let, q_let, if_pos (by decide)]
      exact q_ex ⟨I2, rfl, f2, u1, u2, ⟨b8, a3, a4⟩, ⟨b9, c3, c4⟩, fun j hj => g1 j (by omega) hj, fun j hj => g2 j (by omega) hj⟩
  · rintro _ ⟨I2, rfl, f2, g2⟩
    simp only [Sum.elim_inr]
    unfold f_X12_copyWideAside_j107
    exact q_ok ⟨I2, rfl, f2, g2⟩
theorem M_loadAside (hR : RA R) (h : As I k8 n k9 d) : QK (f_X12_loadAside (mg 4625 I J R) 4561) (fun y => ∃ I', y = mg 4625 I' J R ∧ FR2 I I' ∧ Rg (I' 4562) (I' 4563) 2 k8 n ∧ Rg (I' 4562) (I' 4563) 3 k9 d ∧ Kl (I 4562) (I 4563) (I' 4562) (I' 4563) [2, 3]) := by
  obtain ⟨h1, h2, ⟨a1, a2, a3⟩, ⟨c1, c2, c3⟩, h5, h6⟩ := h
  have F0 : ∀ x y, ¬ ((x = 4563 ∧ (y = 2 ∨ y = 3)) ∨ (x = 4562 ∧ ((880 ≤ y ∧ y < 1320) ∨ (1320 ≤ y ∧ y < 1760)))) → up (up I 4563 2 (Int32.ofNat (k8))) 4563 3 (Int32.ofNat (k9)) x y = I x y := fun x y hx => by rw [up_n (by omega), up_n (by omega)]
  have s1 : up (up I 4563 2 (Int32.ofNat (k8))) 4563 3 (Int32.ofNat (k9)) 4563 2 = (Int32.ofNat (k8)) := (up_n (by omega)).trans up_s
  have s2 : up (up I 4563 2 (Int32.ofNat (k8))) 4563 3 (Int32.ofNat (k9)) 4563 3 = (Int32.ofNat (k9)) := up_s
  unfold f_X12_loadAside
  rw [gr_4561_2 hR, gr_4561_85 hR, show (120 : Int32) = (Int32.ofNat (120)) from rfl, ga_4623 (by omega), h1, show (2 : Int32) = (Int32.ofNat (2)) from rfl, gw_4563 (by omega), gr_4561_2 hR, gr_4561_85 hR, show (121 : Int32) = (Int32.ofNat (121)) from rfl, ga_4623 (by omega), show up I 4563 2 (Int32.ofNat (k8)) 4623 121 = (Int32.ofNat (k9)) from (up_n (by omega)).trans h2, show (3 : Int32) = (Int32.ofNat (3)) from rfl, gw_4563 (by omega), q_let]
  generalize up (up I 4563 2 (Int32.ofNat (k8))) 4563 3 (Int32.ofNat (k9)) = I1 at *
  refine q_bind (P := fun x => ∃ I', x = .inr (mg 4625 I' J R) ∧ FrK (fun x y => (x = 4563 ∧ (y = 2 ∨ y = 3)) ∨ (x = 4562 ∧ ((880 ≤ y ∧ y < 1320) ∨ (1320 ≤ y ∧ y < 1760)))) I I' ∧ I' 4563 2 = (Int32.ofNat (k8)) ∧ I' 4563 3 = (Int32.ofNat (k9)) ∧ (∀ j, j < k8 → I' 4562 (880 + j) = (Int32.ofNat (dg n j))) ∧ ∀ j, j < k9 → I' 4562 (1320 + j) = (Int32.ofNat (dg d j))) ?_ ?_
  · refine q_for 60 (fun i s => ∃ I', s = (4561, (Int32.ofNat (i)), mg 4625 I' J R) ∧ FrK (fun x y => (x = 4563 ∧ (y = 2 ∨ y = 3)) ∨ (x = 4562 ∧ ((880 ≤ y ∧ y < 1320) ∨ (1320 ≤ y ∧ y < 1760)))) I I' ∧ I' 4563 2 = (Int32.ofNat (k8)) ∧ I' 4563 3 = (Int32.ofNat (k9)) ∧ (∀ j, j < i → j < k8 → I' 4562 (880 + j) = (Int32.ofNat (dg n j))) ∧ ∀ j, j < i → j < k9 → I' 4562 (1320 + j) = (Int32.ofNat (dg d j))) ?_ ?_ (i := 0) ⟨I1, rfl, F0, s1, s2, fun j hj => absurd hj (Nat.not_lt_zero _), fun j hj => absurd hj (Nat.not_lt_zero _)⟩ (by omega) (by unfold xF; omega)
    · rintro i s hi ⟨I2, rfl, f2, u1, u2, g1, g2⟩
      have r1 : I2 4623 i = I 4623 i := f2 4623 i (by omega)
      unfold f_X12_loadAside_s28
      dsimp only
      rw [q_let, q_let, q_let, if_neg (show ¬ (60 : Int32) ≤ (Int32.ofNat (i)) from fun y => absurd ((i32_le (k := 60) (by omega) (by omega)).mp y) (by omega)), gr_4561_1 hR, gr_4561_85 hR, ga_4623 (by omega), show (880 : Int32) + (Int32.ofNat (i)) = (Int32.ofNat (880 + i)) from n_add 880 i, gw_4562 (by omega), gr_4561_1 hR, gr_4561_85 hR, show (60 : Int32) + (Int32.ofNat (i)) = (Int32.ofNat (60 + i)) from n_add 60 i, ga_4623 (by omega), show up I2 4562 (880 + i) (I2 4623 i) 4623 (60 + i) = I 4623 (60 + i) from (up_n (by omega)).trans (f2 4623 _ (by omega)), show (1320 : Int32) + (Int32.ofNat (i)) = (Int32.ofNat (1320 + i)) from n_add 1320 i, gw_4562 (by omega), q_let, show (Int32.ofNat (i)) + (1 : Int32) = (Int32.ofNat (i + 1)) from n_add i 1, r1]
      refine q_go ⟨_, rfl, FrK_up (FrK_up f2 (Or.inr ⟨rfl, Or.inl ⟨by omega, by omega⟩⟩)) (Or.inr ⟨rfl, Or.inr ⟨by omega, by omega⟩⟩), ?_, ?_, fun j hj hk => ?_, fun j hj hk => ?_⟩
      · rw [up_n (by omega), up_n (by omega)]
        exact u1
      · rw [up_n (by omega), up_n (by omega)]
        exact u2
      · rw [up_n (by omega)]
        by_cases z : j = i
        · subst z
          rw [up_s]
          exact h5 j hk
        · rw [up_n (by omega)]
          exact g1 j (by omega) hk
      · by_cases z : j = i
        · subst z
          rw [up_s]
          exact h6 j hk
        · rw [up_n (by omega), up_n (by omega)]
          exact g2 j (by omega) hk
    · rintro s ⟨I2, rfl, f2, u1, u2, g1, g2⟩
      unfold f_X12_loadAside_s28
      dsimp only
      rw [q_let, q_let, q_let, if_pos (by decide)]
      exact q_ex ⟨I2, rfl, f2, u1, u2, fun j hj => g1 j (by omega) hj, fun j hj => g2 j (by omega) hj⟩
  · rintro _ ⟨I2, rfl, f2, u1, u2, g1, g2⟩
    simp only [Sum.elim_inr]
    unfold f_X12_loadAside_j75
    refine q_ok ⟨I2, rfl, fun x hx => ?_, ⟨u1, by omega, a2, a3, g1⟩, ⟨u2, by omega, c2, c3, g2⟩, fun x hx => ?_, fun x hx => ?_⟩
    · funext y
      exact f2 x y (by omega)
    · have h1 : x ≠ 2 := fun e => hx (by rw [e]; decide)
      have h2 : x ≠ 3 := fun e => hx (by rw [e]; decide)
      exact f2 4563 x (by omega)
    · have h1 := hx 2 (by decide)
      have h2 := hx 3 (by decide)
      exact f2 4562 x (by omega)
end ASD
