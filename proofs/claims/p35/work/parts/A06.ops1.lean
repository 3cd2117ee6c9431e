/-! calls: typing, trees asked -/
theorem nar_ch {c : Nat} (h : c < 65536) : vp_nar .char (Int32.ofNat (c)) = (Int32.ofNat (c)) := by
  have e : vp_nar .char (Int32.ofNat (c)) = ((Int32.ofNat (c)).toUInt32 % 65536).toInt32 := rfl
  rw [e, u32_nat]
  congr 1
  rw [UInt32.toNat_mod]
  show (BitVec.ofNat 32 c).toNat % 65536 = c
  rw [BitVec.toNat_ofNat]
  omega
theorem i32_two (T : Nat) (hT : T < 2147483648) (x : Int32) : (∃ t, t < T ∧ x = (Int32.ofNat (t))) ∨ (x < 0 ∨ (Int32.ofNat (T)) ≤ x) := by
  by_cases h : x < 0
  · exact Or.inr (Or.inl h)
  · by_cases h2 : (Int32.ofNat (T)) ≤ x
    · exact Or.inr (Or.inr h2)
    · left
      by_cases z : T = 0
      · subst z
        exact absurd (Int32.not_lt.mp h) h2
      · obtain ⟨j, a, b⟩ := rng_dom (m := T) hT (Int32.not_lt.mp h) (Int32.le_of_lt (Int32.not_le.mp h2))
        refine ⟨j, ?_, b⟩
        rw [b] at h2
        by_cases y : j < T
        · exact y
        · exact absurd ((i32_le hT (by omega)).mpr (by omega)) h2
section OA
variable {I : Nat → Nat → Int32} {J : Nat → Nat → Int64} {R : Nat → Nat → Option Nat} {t : GT} {s : GS} {b : GB} {n : GN} {f : GF} {v : GV} {q : Nat → GV} {p : GT} {r : GR} {h : GH} {β : Type}
theorem C_treeAt1 {k : Nat} {F : Nat ⊕ String → Option β} (hR : RA R) (H : CSh I s) (hk : k < s.1) : (f_X11_treeAt (mg (4562 + zn J) I J R) 0 (Int32.ofNat (k))).bind F = F (.inl (70 + 8 * k)) := by
  have h30 := H.1
  unfold f_X11_treeAt
  rw [if_neg (i32_nlt0 (by omega)), gr_0_2 hR, gi_11, H.2.1, if_neg (fun z => absurd ((i32_le (by omega) (by omega)).mp z) (by omega)), gr_0_2 hR, gr_11_4 hR, ogL_16, Option.bind_some, if_pos (show (Int32.ofNat (k)) < (30 : Int32) from (i32_lt (m := 30) (by omega) (by omega)).mpr (by omega)), gr_0_2 hR, gr_11_4 hR, g_shelf hR (by omega)]
  rfl
theorem C_needNode1 {a k m : Nat} {nd : Nat → Nd} {F : Unit ⊕ String → Option β} (H : CN I a m nd) (hk : k < m) : (f_X11_needNode (mg (4562 + zn J) I J R) 0 a (Int32.ofNat (k))).bind F = F (.inl ()) := by
  have := H.2.2.1
  unfold f_X11_needNode
  rw [if_neg (i32_nlt0 (by omega)), bT_gI H.1, H.2.1, if_pos ((i32_lt (by omega) (by omega)).mpr hk)]
  rfl
end OA
