/-! the aims of derivatives -/
section AIM
variable {b : GB} {n : GN} {f : GF} {s : GS} {T : Tt}
theorem rhN_at {l : Nat} (h : n.1 l ≠ 0) : rhN n (97 + l) = some (tR (n.2 l)) := by
  have e : lkN n [] (97 + l) = some (n.2 l) := by
    show (if n.1 (97 + l - 97) = 0 then none else some (n.2 (97 + l - 97))) = _
    rw [Nat.add_sub_cancel_left, if_neg h]
  unfold rhN
  rw [e]
  rfl
theorem daT_1 (hE : EnvOK b n f s) (hf : ∀ l, prmN f l = 0) (hT : TtO b T) (h80 : T.1 ≤ 80) (nm : Nat) : daT b n f s T nm = 1 := by
  unfold daT
  by_cases ht : ∀ i, i < T.1 → told b T i
  · rw [if_pos ht]
    cases e : dvF b T nm 200 0 with
    | none => rfl
    | some A =>
      dsimp only
      obtain ⟨o1, o2⟩ := dvF_ok hE.1 hT h80 ht 200 0 A hT.1.1 e
      have l80 := dvF_len e
      have w := spL_WT o1.1
      cases e1 : evT b n f s (nlN A) (spL A) with
      | inl x => rfl
      | inr r =>
        obtain ⟨v, c⟩ := r
        dsimp only
        cases e2 : slF b n nm T 100 0 with
        | inl x => rfl
        | inr r =>
          obtain ⟨u, q⟩ := r
          dsimp only
          have tr : TrO b A.length (nlN A) (spL A) := ⟨w, fun i hi => o1.2 _ (by
            unfold nlN
            rw [List.getD_eq_getElem?_getD, List.getElem?_eq_getElem hi]
            exact List.getElem_mem hi)⟩
          obtain ⟨g1, g2⟩ := evT_VV hE hf tr l80 e1
          have g3 := dv_slope (nm := nm) (ρ := rhN n) hE.1 hT h80 ht hE.2.2.2.1 (fun l hl h => rhN_at h) 200 0 A hT.1.1 e (tR v) g1 100 u q e2
          have g4 := slF_O (nm := nm) hE.1 hT ht hE.2.2.2.1 100 0 hT.1.1
          rw [e2] at g4
          unfold eqV
          exact if_pos (tR_inj g2 g4.2.1 g3.symm)
  · exact if_neg ht
theorem auD_1 (hE : EnvOK b n f s) (hf : ∀ l, prmN f l = 0) (hT : TtO b T) (h80 : T.1 ≤ 80) : auD b n f s T = 1 := by
  unfold auD
  rw [daT_1 hE hf hT h80, daT_1 hE hf hT h80, daT_1 hE hf hT h80]
  rfl
end AIM
