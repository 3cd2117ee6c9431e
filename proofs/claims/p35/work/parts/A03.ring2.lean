/-! the ring of changes: the reference's, and a note -/
theorem n_mod20 {a : Nat} (h : a < 40) : (Int32.ofNat (a)) - (Int32.ofNat (a)) / 20 * 20 = (Int32.ofNat (a % 20)) := i32_mod20 a h
section NT
variable {I : Nat → Nat → Int32} {J : Nat → Nat → Int64} {R : Nat → Nat → Option Nat} {h : GH} {s : GS} {β : Type}
theorem C_note {kd ky : Nat} (hR : RA R) (h20 : h.1 ≤ 20) (hf : h.2.1 < 20) (e13 : I 11 13 = (Int32.ofNat (h.2.1))) (e14 : I 11 14 = (Int32.ofNat (h.1))) : QK (f_X1_note (mg (4562 + zn J) I J R) 11 (Int32.ofNat (kd)) (Int32.ofNat (ky))) (fun r => ∃ I', r = ((Int32.ofNat (nu h)), mg (4562 + zn J) I' J R) ∧ FrK (fun a k => (a = 11 ∧ (k = 13 ∨ k = 14)) ∨ ((a = 46 ∨ a = 47) ∧ k = nu h)) I I' ∧ I' 11 13 = (Int32.ofNat (nf h)) ∧ I' 11 14 = (Int32.ofNat (nm h + 1)) ∧ I' 46 (nu h) = (Int32.ofNat (kd)) ∧ I' 47 (nu h) = (Int32.ofNat (ky))) := by
  have fl := nf_lt hf
  have ml := nm_lt20 h
  have ul := nu_lt h
  have j32 : ∀ I1 : Nat → Nat → Int32, FrK (fun a k => (a = 11 ∧ (k = 13 ∨ k = 14)) ∨ ((a = 46 ∨ a = 47) ∧ k = nu h)) I I1 → I1 11 13 = (Int32.ofNat (nf h)) → I1 11 14 = (Int32.ofNat (nm h)) → QK (f_X1_note_j32 (mg (4562 + zn J) I1 J R) 11 (Int32.ofNat (kd)) (Int32.ofNat (ky))) (fun r => ∃ I', r = ((Int32.ofNat (nu h)), mg (4562 + zn J) I' J R) ∧ FrK (fun a k => (a = 11 ∧ (k = 13 ∨ k = 14)) ∨ ((a = 46 ∨ a = 47) ∧ k = nu h)) I I' ∧ I' 11 13 = (Int32.ofNat (nf h)) ∧ I' 11 14 = (Int32.ofNat (nm h + 1)) ∧ I' 46 (nu h) = (Int32.ofNat (kd)) ∧ I' 47 (nu h) = (Int32.ofNat (ky))) := by
    intro I1 hF g1 g2
    unfold f_X1_note_j32
    rw [gi_11, gi_11, g1, g2, n_add, n_mod20 (by omega), q_let, show (nf h + nm h) % 20 = nu h from rfl, gr_11_9 hR, gw_46 (by omega), gr_11_10 hR, gw_47 (by omega), gi_11, up_n (by omega), up_n (by omega), g2, gs_11]
    refine q_ok ⟨_, rfl, FrK_up (FrK_up (FrK_up hF (Or.inr ⟨Or.inl rfl, rfl⟩)) (Or.inr ⟨Or.inr rfl, rfl⟩)) (Or.inl ⟨rfl, Or.inr rfl⟩), ?_, ?_, ?_, ?_⟩
    · rw [up_n (by omega), up_n (by omega), up_n (by omega), g1]
    · rw [up_s]
      exact n_add (nm h) 1
    · rw [up_n (by omega), up_n (by omega), up_s]
    · rw [up_n (by omega), up_s]
  unfold f_X1_note
  rw [gi_11, e14]
  by_cases q : h.1 < 20
  · rw [if_pos (show (Int32.ofNat (h.1)) < (20 : Int32) from (i32_lt (m := 20) (by omega) (by omega)).mpr q)]
    refine j32 I FrK_rfl ?_ ?_
    · rw [e13]
      unfold nf
      rw [if_pos q]
    · rw [e14]
      unfold nm
      rw [if_pos q]
  · rw [if_neg (show ¬ (Int32.ofNat (h.1)) < (20 : Int32) from fun z => q ((i32_lt (m := 20) (by omega) (by omega)).mp z)), gi_11, e13, show (Int32.ofNat (h.2.1)) + 1 = (Int32.ofNat (h.2.1 + 1)) from n_add h.2.1 1, n_mod20 (by omega), gs_11, gi_11, up_n (by omega), e14, gs_11]
    refine j32 _ (FrK_up (FrK_up FrK_rfl (Or.inl ⟨rfl, Or.inl rfl⟩)) (Or.inl ⟨rfl, Or.inr rfl⟩)) ?_ ?_
    · rw [up_n (by omega), up_s]
      unfold nf
      rw [if_neg q]
    · rw [up_s, show (Int32.ofNat (h.1)) - 1 = (Int32.ofNat (h.1 - 1)) from n_sub (a := h.1) (b := 1) (by omega)]
      unfold nm
      rw [if_neg q, show h.1 - 1 = 19 by omega]
end NT
