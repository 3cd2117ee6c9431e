/-! the value of a list of nodes -/
/-- nodes alike in the same order, in two trees -/
theorem sp_win {n n' : Nat} {nd nd' : Nat → Nd} {sp sp' : Nat → Nat} (h : WT n (aro nd) sp) (h' : WT n' (aro nd') sp') {i i' : Nat} (hi : i < n) (hi' : i' + sp i ≤ n') (he : ∀ k, k < sp i → nd' (i' + k) = nd (i + k)) : ∀ d k, k + d = sp i → 0 < d → sp' (i' + k) = sp (i + k) := by
  intro d
  induction d using Nat.strongRecOn with
  | ind d ih =>
    intro k hk hd
    have wp := h.2.2.2 i hi
    have hp' : i + k < n := by omega
    have hq' : i' + k < n' := by omega
    have ea : aro nd' (i' + k) = aro nd (i + k) := by unfold aro; rw [he k (by omega)]
    have lp : i + k + sp (i + k) ≤ i + sp i := by
      by_cases z : k = 0
      · subst z
        rw [Nat.add_zero]
        exact Nat.le_refl _
      · exact lam' h hi (show i < i + k by omega) (by omega)
    have key : ∀ j, j ≤ aro nd (i + k) → kid sp (i + k) j + i' = kid sp' (i' + k) j + i := by
      intro j
      induction j with
      | zero => intro _; show i + k + 1 + i' = i' + k + 1 + i; omega
      | succ j ihj =>
        intro hj
        have e1 := ihj (by omega)
        obtain ⟨g1, g2, g3⟩ := kid_in h hp' (show j < aro nd (i + k) by omega)
        have g4 := (h.2.2.2 _ g2).1
        have e2 := ih (sp i - (kid sp (i + k) j - i)) (by omega) (kid sp (i + k) j - i) (by omega) (by omega)
        rw [show i + (kid sp (i + k) j - i) = kid sp (i + k) j by omega, show i' + (kid sp (i + k) j - i) = kid sp' (i' + k) j by omega] at e2
        show kid sp (i + k) j + sp (kid sp (i + k) j) + i' = kid sp' (i' + k) j + sp' (kid sp' (i' + k) j) + i
        omega
    have e3 := key _ (Nat.le_refl _)
    have a1 := (h.2.2.2 _ hp').2.2.1
    have a2 := (h'.2.2.2 _ hq').2.2.1
    rw [ea] at a2
    omega
section VLS
variable {b : GB} {T : Tt} {ρ : En}
noncomputable def VL (b : GB) (L : NL) (ρ : En) : Option Rat := VV b (nlN L) (spL L) 0 ρ
theorem VV_win {n n' : Nat} {nd nd' : Nat → Nd} {sp sp' : Nat → Nat} (h : WT n (aro nd) sp) (h' : WT n' (aro nd') sp') (h99 : n' ≤ 99) {i i' : Nat} (hi : i < n) (hi' : i' + sp i ≤ n') (he : ∀ k, k < sp i → nd' (i' + k) = nd (i + k)) {v : Rat} (e : VV b nd sp i ρ = some v) : VV b nd' sp' i' ρ = some v := by
  have s1 := (h.2.2.2 i hi).1
  exact VV_shift h h' h99 (sp i) i i' (Nat.le_refl _) hi (by omega) (fun j hj => ⟨he j hj, sp_win h h' hi hi' he (sp i - j) j (by omega) (by omega)⟩) ρ v e
theorem VL_num {k : Nat} (hk : k ≤ 999999999) : VL b (numL k) ρ = some (NR k) := by
  unfold VL
  rw [VV_num rfl rfl]
  show some (mkRat (((Int32.ofNat (k)).toNatClampNeg : Nat) : Int) 1) = _
  rw [i32_nat (by omega)]
  rfl
theorem subL_of {p : Nat} {v : Rat} (hT : TtO b T) (h80 : T.1 ≤ 80) (hp : p < T.1) (e : VL b (subL T p) ρ = some v) : VV b T.2.1 T.2.2 p ρ = some v := by
  have w := spL_WT (subL_NPT hT hp)
  have wp := hT.1.2.2.2 p hp
  have s0 := w.2.2.1
  rw [subL_len] at w s0
  exact VV_win w hT.1 (by omega) w.1 (by omega) (fun k hk => by rw [Nat.zero_add, subL_at (by omega)]) e
theorem VL_bi {x : Nd} {A B : NL} {v : Rat} {m : Nat} (hx : x.1 = 3) (h2 : x.2.2.2 = 2) (hm : mgN b x = m) (hm10 : m ≤ 10) (hA : NPT A) (hB : NPT B) (hn : A.length + B.length ≤ 90) (e : VL b (x :: (A ++ B)) ρ = some v) : ∃ a c, VL b A ρ = some a ∧ VL b B ρ = some c ∧ d2 m a c = some v := by
  have w := spL_WT (NPT_bi h2 hA hB (by omega))
  have wA := spL_WT hA
  have wB := spL_WT hB
  have a0 := wA.1
  have b0 := wB.1
  have len : (x :: (A ++ B)).length = 1 + A.length + B.length := by rw [List.length_cons, List.length_append]; omega
  rw [len] at w
  have eA : ∀ k, k < A.length → nlN (x :: (A ++ B)) (1 + k) = nlN A k := fun k hk => by
    rw [Nat.add_comm, nlN_s, nlN_l hk]
  have eB : ∀ k, k < B.length → nlN (x :: (A ++ B)) (1 + A.length + k) = nlN B k := fun k hk => by
    rw [show 1 + A.length + k = A.length + k + 1 by omega, nlN_s, nlN_r]
  have s1 := sp_win wA w (i := 0) (i' := 1) a0 (by rw [wA.2.2.1]; omega) (fun k hk => by rw [Nat.zero_add]; exact eA k (by rw [wA.2.2.1] at hk; exact hk)) A.length 0 (by rw [wA.2.2.1]; omega) a0
  rw [Nat.add_zero, Nat.add_zero, wA.2.2.1] at s1
  have s2 := sp_win wB w (i := 0) (i' := 1 + A.length) b0 (by rw [wB.2.2.1]; omega) (fun k hk => by rw [Nat.zero_add]; exact eB k (by rw [wB.2.2.1] at hk; exact hk)) B.length 0 (by rw [wB.2.2.1]; omega) b0
  rw [Nat.add_zero, Nat.add_zero, wB.2.2.1] at s2
  have k1 : kid (spL (x :: (A ++ B))) 0 1 = 1 + A.length := by
    show 0 + 1 + spL (x :: (A ++ B)) (0 + 1) = _
    rw [Nat.zero_add, s1]
  have x0 : nlN (x :: (A ++ B)) 0 = x := rfl
  obtain ⟨a, c, e1, e2, e3⟩ := (VV_two (i := 0) w (by omega) (by omega) (by rw [x0]; exact hx) (by unfold aro; rw [x0]; exact h2) (by rw [x0, hm]; exact hm10)).mp e
  rw [k1] at e2
  rw [x0, hm] at e3
  rw [Nat.zero_add] at e1
  refine ⟨a, c, ?_, ?_, e3⟩
  · exact VV_win (i := 1) (i' := 0) w wA (by omega) (by omega) (by rw [s1]; omega) (fun k hk => by rw [Nat.zero_add]; exact (eA k (by rw [s1] at hk; exact hk)).symm) e1
  · exact VV_win (i := 1 + A.length) (i' := 0) w wB (by omega) (by omega) (by rw [s2]; omega) (fun k hk => by rw [Nat.zero_add]; exact (eB k (by rw [s2] at hk; exact hk)).symm) e2
theorem VL_un {x : Nd} {A : NL} {v : Rat} {m : Nat} (hx : x.1 = 3) (h2 : x.2.2.2 = 1) (hm : mgN b x = m) (hm1 : 11 ≤ m) (hm2 : m < 100) (hA : NPT A) (hn : A.length ≤ 90) (e : VL b (x :: A) ρ = some v) : ∃ a, VL b A ρ = some a ∧ d1 m a = some v := by
  have w := spL_WT (NPT_un h2 hA (by omega))
  have wA := spL_WT hA
  have a0 := wA.1
  have len : (x :: A).length = 1 + A.length := by rw [List.length_cons]; omega
  rw [len] at w
  have eA : ∀ k, k < A.length → nlN (x :: A) (1 + k) = nlN A k := fun k hk => by
    rw [Nat.add_comm, nlN_s]
  have s1 := sp_win wA w (i := 0) (i' := 1) a0 (by rw [wA.2.2.1]; omega) (fun k hk => by rw [Nat.zero_add]; exact eA k (by rw [wA.2.2.1] at hk; exact hk)) A.length 0 (by rw [wA.2.2.1]; omega) a0
  rw [Nat.add_zero, Nat.add_zero, wA.2.2.1] at s1
  have x0 : nlN (x :: A) 0 = x := rfl
  obtain ⟨a, e1, e2⟩ := (VV_one (i := 0) w (by omega) (by omega) (by rw [x0]; exact hx) (by unfold aro; rw [x0]; exact h2) (by rw [x0, hm]; exact hm1) (by rw [x0, hm]; exact hm2)).mp e
  rw [x0, hm] at e2
  rw [Nat.zero_add] at e1
  exact ⟨a, VV_win (i := 1) (i' := 0) w wA (by omega) (by omega) (by rw [s1]; omega) (fun k hk => by rw [Nat.zero_add]; exact (eA k (by rw [s1] at hk; exact hk)).symm) e1, e2⟩
theorem wnF_mg {m : Nat} {A : NL} (hm : m < 1000) (h : wnF b m = some A) : ∃ p, A = [wnd p] ∧ NV b (wnd p) ∧ mgN b (wnd p) = m := by
  obtain ⟨p, e1, e2⟩ := wnF_ok h
  refine ⟨p, e1, e2, ?_⟩
  unfold wnF at h
  obtain ⟨p', h1, h2⟩ := Option.map_eq_some_iff.mp h
  obtain ⟨g1, g2, g3⟩ := lbF_ok h1
  rw [e1] at h2
  have ew : wnd p' = wnd p := (List.cons.inj h2).1
  rw [← ew]
  unfold mgN
  have ev : vN (wnd p') = sgc p' := by
    show ((Int32.ofNat (sgc p'))).toNatClampNeg = _
    rw [i32_nat (by have := (sgc_ok p' g1).1; omega)]
  rw [ev, sgj_sgc p' g1, show (wnd p').2.2.1.toNatClampNeg = 2 from rfl, show 2 * 16 + p' = 32 + p' by omega, g3, i32_nat (by omega)]
end VLS
