/-! what is reckoned of a tree and of the simpler one -/
section STV
variable {b : GB} {n : GN} {f : GF} {s : GS} {T : Tt}
noncomputable def rhN (n : GN) : En := fun x => (lkN n [] x).map tR
theorem EnL_0 : EnL n [] (rhN n) := ⟨fun e he => absurd he List.not_mem_nil, fun _ => rfl⟩
theorem evT_VV (hE : EnvOK b n f s) (hf : ∀ l, prmN f l = 0) {nn : Nat} {nd : Nat → Nd} {sp : Nat → Nat} (hT : TrO b nn nd sp) (h80 : nn ≤ 80) {v : GV} {c : Nat} (e : evT b n f s nd sp = .inr (v, c)) : VV b nd sp 0 (rhN n) = some (tR v) ∧ Gd v := by
  have s0 := hT.1.2.2.1
  have ro := evT_RO hE hT h80
  rw [e] at ro
  refine ⟨?_, ro.2.2⟩
  have key := ev_dv hE hf 452 nn nd sp 0 [] 0 0 (rhN n) v c hT hT.1.1 (fun e he => absurd he List.not_mem_nil) (by omega) (by omega) EnL_0 e
  exact VV_of hT.1 (by omega) hT.1.1 key
theorem st_same (hE : EnvOK b n f s) (hf : ∀ l, prmN f l = 0) (hT : TtO b T) (h80 : T.1 ≤ 80) {m : Nat} {v w : GV} {c c' : Nat} (e : evT b n f s T.2.1 T.2.2 = .inr (v, c)) (e' : evT b n f s (stN b m T).2.2.1 (stN b m T).2.2.2 = .inr (w, c')) : v = w := by
  obtain ⟨o1, o2, -⟩ := stN_O hE.1 m T hT h80
  obtain ⟨e1, g1⟩ := evT_VV hE hf hT h80 e
  obtain ⟨e2, g2⟩ := evT_VV hE hf o1 (by omega) e'
  have := stN_val hE.1 m T hT h80 (rhN n) (tR v) e1
  rw [this] at e2
  exact tR_inj g1 g2 (Option.some.inj e2)
theorem saT_1 (hE : EnvOK b n f s) (hf : ∀ l, prmN f l = 0) (hT : TtO b T) (h80 : T.1 ≤ 80) : saT b n f s T = 1 := by
  unfold saT
  cases e : evT b n f s T.2.1 T.2.2 with
  | inl x => rfl
  | inr r =>
    obtain ⟨v, c⟩ := r
    dsimp only
    cases e' : evT b n f s (stN b 80 T).2.2.1 (stN b 80 T).2.2.2 with
    | inl x => rfl
    | inr r' =>
      obtain ⟨w, c'⟩ := r'
      dsimp only
      rw [st_same hE hf hT h80 e e']
      exact if_pos rfl
end STV
