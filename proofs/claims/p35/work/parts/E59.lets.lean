/-! the law: three names get values -/
section LET1
variable {C : Nat → Nat → Int32} {Z : Nat} {t : GT} {s : GS} {b : GB} {n : GN} {f : GF} {v : GV} {p : GT} {r : GR} {h : GH} {σ : xM} {aC : Nat → ClassId}
def dvL (pl d e : Nat) : List Ln := [(opNd pl 2, 3), ((0, (Int32.ofNat (e)), -1, 0), 1), ((0, (Int32.ofNat (d)), -1, 0), 1)]
theorem acc_div {pl d e : Nat} (hB : DivB b pl) : acc (run b (visl [((0, e), 2), ((3, pl), 1), ((0, d), 0)]) st0) = some (dvL pl d e) := by
  have vv : visl [((0, e), 2), ((3, pl), 1), ((0, d), 0)] = [(0, (0, d)), (1, (3, pl)), (2, (0, e))] := rfl
  obtain ⟨-, b1, b2, -⟩ := hB
  have s2 : stA b (3, pl) ([], [(0, 1)], [((0, (Int32.ofNat (d)), -1, 0), 1)], false) = some ([(3, pl, (if sdN b pl = 1 then rkN b pl 2 else rkN b pl 2 + 1), if sdN b pl = 2 then rkN b pl 2 else 0)], [(0, 1)], [((0, (Int32.ofNat (d)), -1, 0), 1)], true) := by
    show stS b pl ([], [(0, 1)], [((0, (Int32.ofNat (d)), -1, 0), 1)], false) = _
    unfold stS
    rw [if_neg (by omega), if_neg (by omega)]
    show (if (0 : Nat) = rkN b pl 2 then none else _) = _
    rw [if_neg (by omega)]
    rfl
  rw [vv, acc_w (isCl_k (by show (0 : Nat) ≠ 1; decide) _) (st' := ([], [(0, 1)], [((0, (Int32.ofNat (d)), -1, 0), 1)], false)) rfl, acc_w (isCl_f rfl _) s2, acc_w (isCl_k (by show (0 : Nat) ≠ 1; decide) _) (st' := ([(3, pl, (if sdN b pl = 1 then rkN b pl 2 else rkN b pl 2 + 1), if sdN b pl = 2 then rkN b pl 2 else 0)], [(0, 1), (0, 1)], [((0, (Int32.ofNat (e)), -1, 0), 1), ((0, (Int32.ofNat (d)), -1, 0), 1)], false)) rfl]
  show (match red 0 [(3, pl, (if sdN b pl = 1 then rkN b pl 2 else rkN b pl 2 + 1), if sdN b pl = 2 then rkN b pl 2 else 0)] [(0, 1), (0, 1)] [((0, (Int32.ofNat (e)), -1, 0), 1), ((0, (Int32.ofNat (d)), -1, 0), 1)] with
    | ([], _, ln) => some ln
    | _ => none) = _
  unfold red
  rw [if_pos (show 0 < (if sdN b pl = 1 then rkN b pl 2 else rkN b pl 2 + 1) by split <;> omega)]
  rfl
/-- the tree of d / e -/
theorem div_tree {R : Nat → Nat → Option Nat} (hR : RA R) {q d e : Nat} {nd : Nat → Nd} {sp : Nat → Nat} (hw : WT 3 (aro nd) sp) (hl : ∀ x, x < 3 → lnF (dvL q d e) (pl sp x) = nd x) : nd 0 = opNd q 2 ∧ nd 1 = (0, (Int32.ofNat (d)), -1, 0) ∧ nd 2 = (0, (Int32.ofNat (e)), -1, 0) ∧ sp 1 = 1 := by
  have w0 : WT 3 (aro (fun x => if x = 0 then opNd q 2 else if x = 1 then (0, (Int32.ofNat (d)), -1, 0) else (0, (Int32.ofNat (e)), -1, 0))) (fun x => if x = 0 then 3 else 1) := by
    refine ⟨by decide, by decide, rfl, fun i hi => ?_⟩
    rcases (by omega : i = 0 ∨ i = 1 ∨ i = 2) with rfl | rfl | rfl
    · refine ⟨by decide, by decide, rfl, fun k hk => ?_⟩
      have hk : k < 2 := hk
      rcases (by omega : k = 0 ∨ k = 1) with rfl | rfl
      · decide
      · decide
    · exact ⟨by decide, by decide, rfl, fun k hk => absurd hk (Nat.not_lt_zero k)⟩
    · exact ⟨by decide, by decide, rfl, fun k hk => absurd hk (Nat.not_lt_zero k)⟩
  have l0 : ∀ x, x < 3 → lnF (dvL q d e) (pl (fun x => if x = 0 then 3 else 1) x) = (fun x => if x = 0 then opNd q 2 else if x = 1 then (0, (Int32.ofNat (d)), -1, 0) else (0, (Int32.ofNat (e)), -1, 0) : Nat → Nd) x := fun x hx => by
    rcases (by omega : x = 0 ∨ x = 1 ∨ x = 2) with rfl | rfl | rfl <;> rfl
  have h4 : ∀ x, x < 3 → aro (fun x => if x = 0 then opNd q 2 else if x = 1 then (0, (Int32.ofNat (d)), -1, 0) else (0, (Int32.ofNat (e)), -1, 0)) x ≤ 4 := fun x hx => by
    rcases (by omega : x = 0 ∨ x = 1 ∨ x = 2) with rfl | rfl | rfl
    · show (2 : Nat) ≤ 4; decide
    · show (0 : Nat) ≤ 4; decide
    · show (0 : Nat) ≤ 4; decide
  have un := line_uniq (J := fun _ _ => 0) hR (ln := lnF (dvL q d e)) (by decide) w0 hw h4 l0 hl
  have us := sp_uniq w0 hw un
  exact ⟨(un 0 (by decide)).symm, (un 1 (by decide)).symm, (un 2 (by decide)).symm, (us 1 (by decide)).symm⟩
end LET1
