/-! making simpler: the reference's steps; traces in the invariant -/
section MST
variable {I : Nat → Nat → Int32} {J : Nat → Nat → Int64} {R : Nat → Nat → Option Nat} {b : GB} {T : Tt}
end MST
section TRC
variable {I I' : Nat → Nat → Int32} {t : GT} {s : GS} {b : GB} {n : GN} {f : GF} {v : GV} {q : Nat → GV} {p : GT} {r r' : GR} {h : GH}
theorem C_traced (H : InvC I t s b n f v q p r h) (e : ∀ x, DC x → x ≠ 0 → x ≠ 4559 → x ≠ 4560 → I' x = I x) (e0 : ∀ k, k ≠ 15 → I' 0 k = I 0 k) (hr : CTr I' r') : InvC I' t s b n f v q p r' h := by
  obtain ⟨h1, h2, h3, h4, h5, h6, h7, h8, h9, h10⟩ := H
  refine ⟨?_, CSh_keep h2 ?_, CTb_keep h3 ?_, CNm_keep h4 ?_, CFn_keep h5 ?_, CV_keep h6 ?_, CKp_keep h7 ?_, CPr_keep h8 ?_, hr, CHs_keep h10 ?_⟩
  case refine_1 =>
    unfold CTy
    rw [e0 1 (by first | decide | omega), e 10 (by unfold DC; omega) (by first | decide | omega) (by first | decide | omega) (by first | decide | omega)]
    exact h1
  case refine_6 => intro x g1 g2; exact e x (by unfold DC; omega) (by omega) (by omega) (by omega)
  all_goals (intro x g; exact e x (by unfold DC; omega) (by omega) (by omega) (by omega))
theorem TrS_CTr {l : List (Nat × Nat)} (h : TrS I l) (h80 : l.length ≤ 80) : CTr I (trG l) := ⟨h80, h.1, h.2⟩
end TRC
