/-! tell -/
section EW
variable {I : Nat → Nat → Int32} {J : Nat → Nat → Int64} {R : Nat → Nat → Option Nat}
theorem c_isSign0 {k : Nat} (hR : RA R) (h12 : I 12 = plc) (hk : k < 65536) (h : 128 ≤ k ∨ plc k = -1) : f_X1_isSign (mg (4562 + zn J) I J R) 11 (Int32.ofNat k) = some 0 := by
  unfold f_X1_isSign
  refine xb_iq ok_11 (xb_eq (c_slot0 hR h12 hk h) ?_)
  rw [if_pos (by first | decide | omega)]
  rfl
theorem c_isSign1 {k p : Nat} (hR : RA R) (h12 : I 12 = plc) (hk : k < 128) (hp : plc k = Int32.ofNat p) (hp2 : p < 16) : f_X1_isSign (mg (4562 + zn J) I J R) 11 (Int32.ofNat k) = some 1 := by
  unfold f_X1_isSign
  refine xb_iq ok_11 (xb_eq (c_slot1 (fx := 0) hR h12 hk hp hp2 (by first | decide | omega)) ?_)
  rw [if_neg (i32_nlt0 (by omega))]
  rfl
def Hind (I : Nat → Nat → Int32) (fx p : Nat) (rk sd : Int32) : Prop := (fx = 1 ∧ 0 < I 13 (32 + p)) ∨ (fx = 2 ∧ (0 < I 13 (16 + p) ∨ ∃ q, q < 16 ∧ Cl I p rk sd q))
theorem c_clashes {k p fx : Nat} {rk sd : Int32} (hR : RA R) (h12 : I 12 = plc) (hk : k < 128) (hp : plc k = Int32.ofNat p) (hp2 : p < 16) (hf : fx ≤ 2) : (Hind I fx p rk sd → f_X1_clashes (mg (4562 + zn J) I J R) 11 (Int32.ofNat k) (Int32.ofNat fx) rk sd = some 1) ∧ (¬ Hind I fx p rk sd → f_X1_clashes (mg (4562 + zn J) I J R) 11 (Int32.ofNat k) (Int32.ofNat fx) rk sd = some 0) := by
  have r2 : f_X1_rank (mg (4562 + zn J) I J R) 11 (Int32.ofNat k) 2 = some (I 13 (32 + p)) := c_rank1 hR (s := 32 + p) (by omega) (by
    have := c_slot1 (I := I) (J := J) (fx := 2) hR h12 hk hp hp2 (by first | decide | omega)
    exact this)
  have s2 : f_X1_slot (mg (4562 + zn J) I J R) 11 (Int32.ofNat k) 2 = some (Int32.ofNat (32 + p)) := by
    have := c_slot1 (I := I) (J := J) (fx := 2) hR h12 hk hp hp2 (by first | decide | omega)
    exact this
  have r1 : f_X1_rank (mg (4562 + zn J) I J R) 11 (Int32.ofNat k) 1 = some (I 13 (16 + p)) := c_rank1 hR (s := 16 + p) (by omega) (by
    have := c_slot1 (I := I) (J := J) (fx := 1) hR h12 hk hp hp2 (by first | decide | omega)
    exact this)
  have lp := c_cl_loop (I := I) (J := J) (rk := rk) (sd := sd) hR hp2 16 0 xF rfl (by first | decide | omega)
  unfold f_X1_clashes Hind
  rcases (by omega : fx = 0 ∨ fx = 1 ∨ fx = 2) with rfl | rfl | rfl
  · rw [if_pos (show Int32.ofNat 0 = 0 from rfl)]
    exact ⟨fun q => q.elim (fun q => absurd q.1 (by first | decide | omega)) (fun q => absurd q.1 (by first | decide | omega)), fun _ => rfl⟩
  · rw [if_neg (show ¬ Int32.ofNat 1 = 0 by decide), if_pos (show Int32.ofNat 1 = 1 from rfl), if_pos ok_11, r2]
    dsimp only [Option.bind_some]
    by_cases h : I 13 (32 + p) ≤ 0
    · rw [if_pos h]
      exact ⟨fun q => q.elim (fun q => absurd q.2 (Int32.not_lt.mpr h)) (fun q => absurd q.1 (by first | decide | omega)), fun _ => rfl⟩
    · rw [if_neg h]
      exact ⟨fun _ => rfl, fun q => absurd (Or.inl ⟨rfl, Int32.not_le.mp h⟩) q⟩
  · rw [if_neg (show ¬ Int32.ofNat 2 = 0 by decide), if_neg (show ¬ Int32.ofNat 2 = 1 by decide), if_pos ok_11, r1]
    dsimp only [Option.bind_some]
    by_cases h : I 13 (16 + p) ≤ 0
    · rw [if_pos h, if_pos ok_11, s2]
      dsimp only [Option.bind_some]
      unfold xlet
      constructor
      · intro q
        refine xb_eq (lp.1 ?_) rfl
        rcases q with q | ⟨-, q | ⟨q, h1, h2⟩⟩
        · exact absurd q.1 (by first | decide | omega)
        · exact absurd q (Int32.not_lt.mpr h)
        · exact ⟨q, by omega, h1, h2⟩
      · intro q
        exact xb_eq (lp.2 (fun z _ h1 h2 => q (Or.inr ⟨rfl, Or.inr ⟨z, h1, h2⟩⟩))) rfl
    · rw [if_neg h]
      exact ⟨fun _ => rfl, fun q => absurd (Or.inr ⟨rfl, Or.inl (Int32.not_le.mp h)⟩) q⟩
end EW
