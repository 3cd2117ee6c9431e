/-! the reference's values: whole ones, small ones, what remains, powers -/
def sml (z : Int) : Int := if z.natAbs < 1073741824 then z else if z < 0 then -1073741824 else 1073741824
theorem dg_all0 {d : Nat} (hd : d < Bp 13) (h0 : dg d 0 = 1) (h : ∀ j, 1 ≤ j → j < 13 → dg d j = 0) : d = 1 := by
  have key : ∀ k, 1 ≤ k → k ≤ 13 → d % Bp k = 1 := by
    intro k
    induction k with
    | zero => intro h; omega
    | succ k ih =>
      intro _ h2
      rw [mod_s]
      by_cases q : k = 0
      · subst q
        rw [h0]
        rw [show Bp 0 = 1 from rfl, Nat.mod_one]
      · rw [ih (by omega) (by omega), h k (by omega) (by omega), Nat.mul_zero]
  have := key 13 (by omega) (by omega)
  rw [Nat.mod_eq_of_lt hd] at this
  exact this
theorem dg_1 {j : Nat} : dg 1 j = if j = 0 then 1 else 0 := by
  by_cases h : j = 0
  · rw [h]; rfl
  · rw [if_neg h]
    exact dg_big (k := 1) (by decide) (by omega)
section MX
variable {I : Nat → Nat → Int32} {J : Nat → Nat → Int64} {R : Nat → Nat → Option Nat}
theorem M_isWhole {i d : Nat} {z : Int} (hR : RA R) (hi : i < 3700) (A : Vv (I 4564) i z d) : f_X12_isWhole (mg 4625 I J R) 4561 (Int32.ofNat (i)) = some (if d = 1 then 1 else 0) := by
  have hd := p200 A.2.2.2.2.2.1
  have val : ∀ j, j < 13 → aI (mg 4625 I J R) 4564 14 (Int32.ofNat (28 * i + 14 + j)) = some (Int32.ofNat (dg d j)) := fun j hj => by
    rw [bM_id, m_av (by decide) (by omega), A.2.2.1 j hj]
  have ex : ∀ j, (28 : Int32) * (Int32.ofNat (i)) + 1 + 13 + (Int32.ofNat (j)) = (Int32.ofNat (28 * i + 14 + j)) := fun j => by
    rw [show (28 : Int32) = (Int32.ofNat (28)) from rfl, n_mul, show (1 : Int32) = (Int32.ofNat (1)) from rfl, n_add, show (13 : Int32) = (Int32.ofNat (13)) from rfl, n_add, n_add]
  have ex0 : (28 : Int32) * (Int32.ofNat (i)) + 1 + 13 = (Int32.ofNat (28 * i + 14 + 0)) := by
    rw [show (28 : Int32) = (Int32.ofNat (28)) from rfl, n_mul, show (1 : Int32) = (Int32.ofNat (1)) from rfl, n_add, show (13 : Int32) = (Int32.ofNat (13)) from rfl, n_add]
  have loop : ∀ b0, (b0 = true ↔ dg d 0 = 1) → QK (xloop (f_X12_isWhole_s26 (mg 4625 I J R)) xF (4561, (Int32.ofNat (i)), (if b0 = true then 1 else 0 : Int32), (1 : Int32))) (fun r => r = .inr (if d = 1 then 1 else 0)) := by
    intro b0 hb0
    refine q_loop (fun m s => ∃ k b, s = (4561, (Int32.ofNat (i)), (if b = true then 1 else 0 : Int32), (Int32.ofNat (k))) ∧ k + m = 13 ∧ 1 ≤ k ∧ (b = true ↔ dg d 0 = 1 ∧ ∀ j, 1 ≤ j → j < k → dg d j = 0)) ?_ (m := 12) ⟨1, b0, rfl, rfl, by omega, by rw [hb0]; exact ⟨fun h => ⟨h, fun j h1 h2 => by omega⟩, fun h => h.1⟩⟩ (by unfold xF; omega)
    rintro m s ⟨k, b, rfl, hk, hk1, hb⟩
    have fin : (k = 13 ∨ b = false) → (if b = true then 1 else 0 : Int32) = if d = 1 then 1 else 0 := by
      intro h
      by_cases q : d = 1
      · have : b = true := hb.mpr ⟨by rw [q, dg_1]; rfl, fun j h1 _ => by rw [q, dg_1, if_neg (by omega)]⟩
        rw [if_pos this, if_pos q]
      · rw [if_neg q]
        by_cases w : b = true
        · exfalso
          rcases h with h | h
          · obtain ⟨g1, g2⟩ := hb.mp w
            exact q (dg_all0 hd g1 (fun j h1 h2 => g2 j h1 (by omega)))
          · rw [h] at w
            exact absurd w (by decide)
        · rw [if_neg w]
    unfold f_X12_isWhole_s26 xlet
    dsimp only
    by_cases q : 13 ≤ k
    · rw [if_pos (show (13 : Int32) ≤ (Int32.ofNat (k)) from (i32_le (k := 13) (by omega) (by omega)).mpr q)]
      refine q_ex ?_
      rw [fin (Or.inl (by omega))]
    · rw [if_neg (show ¬ (13 : Int32) ≤ (Int32.ofNat (k)) from fun w => q ((i32_le (k := 13) (by omega) (by omega)).mp w))]
      by_cases w : b = true
      · rw [if_pos w, if_neg (by decide), ogR_4561_3 hR, Option.bind_some, ex k, val k (by omega), Option.bind_some]
        unfold f_X12_isWhole_j60 xlet
        have dl := dg_lt d k
        by_cases g : dg d k = 0
        · rw [if_pos (show (Int32.ofNat (dg d k)) = 0 by rw [g]; rfl), show (Int32.ofNat (k)) + 1 = (Int32.ofNat (k + 1)) from n_add k 1]
          refine q_go ⟨m - 1, by omega, k + 1, true, rfl, by omega, by omega, ⟨fun _ => ⟨(hb.mp w).1, fun j h1 h2 => ?_⟩, fun _ => rfl⟩⟩
          by_cases y : j = k
          · rw [y]; exact g
          · exact (hb.mp w).2 j h1 (by omega)
        · rw [if_neg (show ¬ (Int32.ofNat (dg d k)) = 0 from fun y => g ((i32_eq (m := 0) (by omega) (by omega)).mp y)), show (Int32.ofNat (k)) + 1 = (Int32.ofNat (k + 1)) from n_add k 1]
          refine q_go ⟨m - 1, by omega, k + 1, false, rfl, by omega, by omega, ⟨fun y => absurd y (by decide), fun y => absurd (y.2 k (by omega) (by omega)) g⟩⟩
      · rw [if_neg w, if_pos rfl]
        refine q_ex ?_
        have := fin (Or.inr (by cases b <;> simp_all))
        rw [if_neg w] at this
        exact congrArg Sum.inr this
  unfold f_X12_isWhole
  rw [ogR_4561_3 hR, Option.bind_some, ex0, val 0 (by omega), Option.bind_some]
  unfold f_X12_isWhole_j23 f_X12_isWhole_j67
  have dl := dg_lt d 0
  by_cases q : dg d 0 = 1
  · rw [if_pos (show (Int32.ofNat (dg d 0)) = 1 by rw [q]; rfl), q_let]
    obtain ⟨r, er, rfl⟩ := loop true (by simp [q])
    rw [if_pos rfl] at er
    rw [er, Option.bind_some, Sum.elim_inr]
    split <;> rfl
  · rw [if_neg (show ¬ (Int32.ofNat (dg d 0)) = 1 from fun y => q ((i32_eq (m := 1) (by omega) (by omega)).mp y)), q_let]
    obtain ⟨r, er, rfl⟩ := loop false (by simp [q])
    rw [if_neg (by decide)] at er
    rw [er, Option.bind_some, Sum.elim_inr]
    split <;> rfl
theorem M_small {i d : Nat} {z : Int} (hR : RA R) (hi : i < 3700) (A : Vv (I 4564) i z d) : QK (f_X12_small (mg 4625 I J R) 4561 (Int32.ofNat (i))) (fun r => ∃ I', r = (Int32.ofInt (sml z), mg 4625 I' J R) ∧ R3 I I' ∧ I' 4564 = I 4564) := by
  unfold f_X12_small
  rw [if_pos ok_4561, bM_id]
  obtain ⟨l1, s1, k, a1, a2, a3, a4⟩ := m_loadN (I := I) (J := J) (l := I 4562) (s := I 4563) (v := I 4564) (r := 2) hR (by decide) hi A
  refine q_eq a1 ?_
  obtain ⟨w, b1, b2, b3, b4⟩ := m_bitsR (I := I) (J := J) (v := I 4564) hR (by decide) a2
  rw [if_pos ok_4561]
  refine q_eq b1 ?_
  have hR3 : R3 I (u3 I l1 s1 (I 4564)) := R3_u3 (a4.kl (by decide))
  have fin : ∀ m : Nat, m ≤ 1073741824 → (m : Int) = (sml z).natAbs → (z < 0 ∧ sml z < 0 ∨ ¬ z < 0 ∧ 0 ≤ sml z) → QK (f_X12_small_j68 (bM I l1 s1 (I 4564) J R) 4561 (Int32.ofNat (i)) (Int32.ofNat (m))) (fun r => ∃ I', r = (Int32.ofInt (sml z), mg 4625 I' J R) ∧ R3 I I' ∧ I' 4564 = I 4564) := by
    intro m hm em es
    unfold f_X12_small_j68 f_X12_small_j83
    rw [if_pos ok_4561, m_signV hR hi A, Option.bind_some]
    rcases es with ⟨q, es⟩ | ⟨q, es⟩
    · rw [sg_neg q, if_neg (by decide)]
      refine q_ok ⟨_, ?_, hR3, u3_4564⟩
      rw [Int32.neg_ofNat]
      congr 2
      omega
    · have : (0 : Int32) ≤ Int32.ofInt z.sign := by
        by_cases y : z = 0
        · rw [y]; decide
        · rw [sg_pos (by omega)]; decide
      rw [if_pos this]
      refine q_ok ⟨_, ?_, hR3, u3_4564⟩
      rw [← Int32.ofInt_eq_ofNat]
      congr 2
      omega
  have cz : (z.natAbs < 1073741824 ∧ sml z = z) ∨ (¬ z.natAbs < 1073741824 ∧ sml z = if z < 0 then -1073741824 else 1073741824) := by
    unfold sml
    by_cases q : z.natAbs < 1073741824
    · exact Or.inl ⟨q, if_pos q⟩
    · exact Or.inr ⟨q, if_neg q⟩
  have hk0 := Rg_zero a2
  have dl0 := dg_lt z.natAbs 0
  have dl1 := dg_lt z.natAbs 1
  have d0 : dg z.natAbs 0 = z.natAbs % 65536 := by
    unfold dg
    rw [show Bp 0 = 1 from rfl, Nat.div_one]
  have d1 : dg z.natAbs 1 = z.natAbs / 65536 % 65536 := by
    unfold dg
    rw [show Bp 1 = 65536 from rfl]
  by_cases q : w ≤ 30
  · have hz : z.natAbs < 1073741824 := Nat.lt_of_lt_of_le b3 (show 2 ^ w ≤ 2 ^ 30 from Nat.pow_le_pow_right (by decide) q)
    have e := (cz.resolve_right (fun y => y.1 hz)).2
    have fin' := fin z.natAbs (by omega) (by rw [e]) (by rw [e]; omega)
    rw [if_pos (show (Int32.ofNat (w)) ≤ 30 from (i32_le (m := 30) (by omega) (by omega)).mpr q)]
    refine q_eq (m_g2 (by decide) hR) ?_
    refine q_eq (m_as (k := 2) (by decide) (by decide)) ?_
    rw [a2.1]
    have j42 : QK (f_X12_small_j42 (bM I l1 s1 (I 4564) J R) 4561 (Int32.ofNat (i)) (Int32.ofNat (dg z.natAbs 0))) (fun r => ∃ I', r = (Int32.ofInt (sml z), mg 4625 I' J R) ∧ R3 I I' ∧ I' 4564 = I 4564) := by
      unfold f_X12_small_j42 f_X12_small_j67
      refine q_eq (m_g2 (by decide) hR) ?_
      refine q_eq (m_as (k := 2) (by decide) (by decide)) ?_
      rw [a2.1]
      by_cases k2 : k ≤ 1
      · rw [if_pos (show (Int32.ofNat (k)) ≤ 1 from (i32_le (m := 1) (by omega) (by omega)).mpr k2)]
        have : z.natAbs < 65536 := Nat.lt_of_lt_of_le a2.2.2.1 (Bp_le k2)
        rw [show ((Int32.ofNat (dg z.natAbs 0)) + 0 : Int32) = (Int32.ofNat (z.natAbs)) by
          rw [show (0 : Int32) = (Int32.ofNat (0)) from rfl, n_add, d0]
          congr 1
          omega]
        exact fin'
      · rw [if_neg (show ¬ (Int32.ofNat (k)) ≤ 1 from fun y => k2 ((i32_le (m := 1) (by omega) (by omega)).mp y))]
        refine q_eq (m_g1 (by decide) hR) ?_
        refine q_eq (m_al (k := 881) (by decide) (by decide)) ?_
        rw [a2.2.2.2.2 1 (by omega), show ((Int32.ofNat (dg z.natAbs 0)) + (Int32.ofNat (dg z.natAbs 1)) <<< ((16 : Int32) &&& 31) : Int32) = (Int32.ofNat (z.natAbs)) by
          rw [show (Int32.ofNat (dg z.natAbs 1)) <<< ((16 : Int32) &&& 31) = (Int32.ofNat (65536 * dg z.natAbs 1)) from by
            exact (pk_shlN ((16 : Int32) &&& 31) 16 (by decide) (show dg z.natAbs 1 * 2 ^ 16 < 2 ^ 32 by omega)).trans (congrArg Int32.ofNat (Nat.mul_comm _ _)), n_add, d0, d1]
          congr 1
          omega]
        exact fin'
    by_cases k0 : k ≤ 0
    · rw [if_pos (show (Int32.ofNat (k)) ≤ 0 from (i32_le (m := 0) (by omega) (by omega)).mpr k0)]
      have z0 : z.natAbs = 0 := hk0.mp (by omega)
      have e0 : dg z.natAbs 0 = 0 := by rw [d0, z0]
      rw [e0] at j42
      exact j42
    · rw [if_neg (show ¬ (Int32.ofNat (k)) ≤ 0 from fun y => k0 ((i32_le (m := 0) (by omega) (by omega)).mp y))]
      refine q_eq (m_g1 (by decide) hR) ?_
      refine q_eq (m_al (k := 880) (by decide) (by decide)) ?_
      rw [a2.2.2.2.2 0 (by omega)]
      exact j42
  · have hz : ¬ z.natAbs < 1073741824 := fun y => by
      have h1 : 2 ^ 30 ≤ 2 ^ (w - 1) := Nat.pow_le_pow_right (by decide) (by omega)
      have h2 := b4.resolve_left (by omega)
      omega
    rw [if_neg (show ¬ (Int32.ofNat (w)) ≤ 30 from fun y => q ((i32_le (m := 30) (by omega) (by omega)).mp y))]
    have e := (cz.resolve_left (fun y => hz y.1)).2
    refine fin 1073741824 (by omega) ?_ ?_
    · rw [e]; split <;> rfl
    · rw [e]; split <;> omega
end MX
