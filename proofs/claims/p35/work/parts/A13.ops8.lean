/-! calls: unlet -/
section OH
variable {I : Nat → Nat → Int32} {J : Nat → Nat → Int64} {R : Nat → Nat → Option Nat} {t : GT} {s : GS} {b : GB} {n : GN} {f : GF} {v w : GV} {q : Nat → GV} {p : GT} {r : GR} {h : GH} {β : Type}
/-- whether a name has a value is told anew, and its value -/
theorem C_known {l : Nat} {x : Int32} {I' : Nat → Nat → Int32} (H : InvC I t s b n f v q p r h) (hl : l < 26) (hx : x = 0 ∨ x = 1) (e : ∀ y, y ≠ 18 → DC y → ¬ (310 + 5 * l ≤ y ∧ y < 310 + 5 * l + 5) → I' y = I y) (e1 : ∀ k, k ≠ l → I' 18 k = I 18 k) (e2 : I' 18 l = x) (e3 : CV I' (310 + 5 * l) w) : InvC I' t s b (upN n.1 l x, upN n.2 l w) f v q p r h := by
  obtain ⟨h1, h2, h3, h4, h5, h6, h7, h8, h9, h10⟩ := H
  refine ⟨CTy_keep h1 ?_, CSh_keep h2 ?_, CTb_keep h3 ?_, fun k hk => ?_, CFn_keep h5 ?_, CV_keep h6 ?_, CKp_keep h7 ?_, CPr_keep h8 ?_, CTr_keep h9 ?_, CHs_keep h10 ?_⟩
  case refine_4 =>
    show I' 18 k = upN n.1 l x k ∧ (upN n.1 l x k = 0 ∨ upN n.1 l x k = 1) ∧ CV I' (310 + 5 * k) (upN n.2 l w k)
    by_cases z : k = l
    · subst z
      rw [upN_s, upN_s]
      exact ⟨e2, hx, e3⟩
    · rw [upN_n z, upN_n z, e1 k z]
      obtain ⟨a1, a2, a3⟩ := h4 k hk
      exact ⟨a1, a2, CV_keep a3 (fun y g1 g2 => e y (by omega) (by unfold DC; omega) (by omega))⟩
  case refine_6 =>
    intro y g1 g2
    exact e y (by omega) (by unfold DC; omega) (by omega)
  all_goals
    intro y g
    exact e y (by omega) (by unfold DC; omega) (by omega)
end OH
