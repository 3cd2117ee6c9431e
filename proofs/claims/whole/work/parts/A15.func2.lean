/-! functions: the reference notes one -/
section OJ
variable {I : Nat → Nat → Int32} {J : Nat → Nat → Int64} {R : Nat → Nat → Option Nat} {t : GT} {s : GS} {b : GB} {n : GN} {f : GF} {v w : GV} {q : Nat → GV} {p : GT} {r : GR} {h : GH} {β : Type}
def Sfn (u : Nat) : Nat → Nat → Prop := fun a k => (a = 4622 ∧ 8 * u ≤ k ∧ k < 8 * u + 8) ∨ (4565 ≤ a ∧ a ≤ 4569 ∧ 8640 + 240 * u ≤ k ∧ k < 8880 + 240 * u)
theorem M_noteLoop {l u : Nat} (hR : RA R) (hl : l < 26) (hu : u < 20) (hz : ∀ k, k < 8 → ∃ z, z ≤ 30 ∧ I 4573 (8 * l + k) = (Int32.ofNat (z))) : QK (xloop f_X12_noteFunction_s22 xF (4561, (Int32.ofNat (l)), (Int32.ofNat (u)), 0, mg 4625 I J R)) (fun x => ∃ I', x = .inr (mg 4625 I' J R) ∧ FrK (Sfn u) I I' ∧ (∀ k, k < 8 → I' 4622 (8 * u + k) = I 4573 (8 * l + k)) ∧ ∀ k z, k < 8 → z ≤ 30 → I 4573 (8 * l + k) = (Int32.ofNat (z)) → ∀ a x, 4565 ≤ a → a ≤ 4569 → x < z → I' a (8640 + 240 * u + 30 * k + x) = I a (2400 + 240 * l + 30 * k + x)) := by
  refine q_for 8 (fun k st => ∃ I', st = (4561, (Int32.ofNat (l)), (Int32.ofNat (u)), (Int32.ofNat (k)), mg 4625 I' J R) ∧ FrK (Sfn u) I I' ∧ (∀ j, j < k → I' 4622 (8 * u + j) = I 4573 (8 * l + j)) ∧ ∀ j z, j < k → z ≤ 30 → I 4573 (8 * l + j) = (Int32.ofNat (z)) → ∀ a x, 4565 ≤ a → a ≤ 4569 → x < z → I' a (8640 + 240 * u + 30 * j + x) = I a (2400 + 240 * l + 30 * j + x)) ?_ ?_ (i := 0) ⟨I, rfl, FrK_rfl, fun j hj => absurd hj (Nat.not_lt_zero j), fun j z hj => absurd hj (Nat.not_lt_zero j)⟩ (by omega) (by unfold xF; omega)
  · rintro k st hk ⟨I', rfl, hF, h1, h2⟩
    obtain ⟨z, hz1, hz2⟩ := hz k hk
    have e3 : I' 4573 (8 * l + k) = (Int32.ofNat (z)) := by rw [hF _ _ (fun y => by unfold Sfn at y; omega), hz2]
    unfold f_X12_noteFunction_s22
    dsimp only
    rw [q_let, q_let, q_let, q_let, q_let, if_neg (show ¬ (8 : Int32) ≤ (Int32.ofNat (k)) from fun y => absurd ((i32_le (k := 8) (by omega) (by omega)).mp y) (by omega)), gr_4561_82 hR, gr_4561_13 hR, show (8 : Int32) * (Int32.ofNat (l)) = (Int32.ofNat (8 * l)) from n_mul 8 l, show (8 : Int32) * (Int32.ofNat (u)) = (Int32.ofNat (8 * u)) from n_mul 8 u, n_add, n_add, ga_4573 (by omega), e3, gw_4622 (by omega), gr_4561_13 hR, ga_4573 (by omega), up_n (by omega), e3, if_pos ok_4561, show (30 : Int32) * (Int32.ofNat (8 * u + k)) = (Int32.ofNat (30 * (8 * u + k))) from n_mul 30 _, show (30 : Int32) * (Int32.ofNat (8 * l + k)) = (Int32.ofNat (30 * (8 * l + k))) from n_mul 30 _, show (8640 : Int32) + (Int32.ofNat (30 * (8 * u + k))) = (Int32.ofNat (8640 + 30 * (8 * u + k))) from n_add 8640 _, show (2400 : Int32) + (Int32.ofNat (30 * (8 * l + k))) = (Int32.ofNat (2400 + 30 * (8 * l + k))) from n_add 2400 _]
    refine q_bind (M_copyNodes hR (by omega) (by omega) (by omega)) ?_
    rintro _ ⟨I2, rfl, hF2, hC2⟩
    rw [q_let, show (Int32.ofNat (k)) + 1 = (Int32.ofNat (k + 1)) from n_add k 1]
    refine q_go ⟨I2, rfl, FrK_tr (FrK_up hF (Or.inl (by omega))) (FrK_mono hF2 (fun a j y => by unfold Sm at y; unfold Sfn; omega)), fun j hj => ?_, fun j z' hj hz' ez a x ha ha' hx => ?_⟩
    · rw [hF2 _ _ (fun y => by unfold Sm at y; omega)]
      by_cases y : j = k
      · rw [y, up_s, hz2]
      · rw [up_n (by omega)]
        exact h1 j (by omega)
    · by_cases y : j = k
      · subst y
        have ezz : z' = z := (i32_eq (by omega) (by omega)).mp (ez.symm.trans hz2)
        subst ezz
        have := hC2 a x ha ha' hx
        rw [show 8640 + 240 * u + 30 * j + x = 8640 + 30 * (8 * u + j) + x by omega, this, show 2400 + 30 * (8 * l + j) + x = 2400 + 240 * l + 30 * j + x by omega, up_n (by omega), hF _ _ (fun y => by unfold Sfn at y; omega)]
      · rw [hF2 _ _ (fun y => by unfold Sm at y; omega), up_n (by omega)]
        exact h2 j z' (by omega) hz' ez a x ha ha' hx
  · rintro st ⟨I', rfl, hF, h1, h2⟩
    unfold f_X12_noteFunction_s22
    dsimp only
    rw [q_let, q_let, q_let, q_let, q_let, if_pos (show (8 : Int32) ≤ (Int32.ofNat (8)) by decide)]
    exact q_ex ⟨I', rfl, hF, h1, h2⟩
theorem M_noteFunction {l : Nat} (hR : RA R) (H : InvM I t s b n f v q p r h) (hC : CSh I s) (h20 : h.1 ≤ 20) (hf : h.2.1 < 20) (hl : l < 26) : QK (f_X12_noteFunction (mg 4625 I J R) 4561 (Int32.ofNat (l))) (fun x => ∃ I', x = mg 4625 I' J R ∧ InvM I' t s b n f v q p r (hFun h f l) ∧ (∀ a k, a < 4561 → I' a k = I a k) ∧ I' 4561 0 = I 4561 0) := by
  obtain ⟨h1, h2, h3, h4, h5, h6, h7, h8, h9, h10⟩ := H
  have ul := nu_lt h
  have fl := h5 l hl
  unfold f_X12_noteFunction
  rw [gr_4561_11 hR, ga_4571 hl, gr_4561_12 hR, ga_4572 hl, if_pos ok_4561]
  refine q_bind (M_note (h := h) hR h10.1 h10.2.1 h20 hf) ?_
  rintro _ ⟨I1, rfl, hF1, e83, e84, e17, e18, e19, e20, e21⟩
  have fl1 : FM I1 s (f l) (I 4571 l) (I 4572 l) (fun k => I1 4573 (8 * l + k)) (2400 + 240 * l) := FM_keep fl (fun a k a1 a2 a3 a4 => hF1 _ _ (fun y => by unfold Snt at y; omega)) (fun k _ => hF1 _ _ (fun y => by unfold Snt at y; omega))
  rw [q_let]
  refine q_bind (M_noteLoop hR hl ul (fun k hk => FM_sz fl1 hk)) ?_
  rintro _ ⟨I2, rfl, hF2, g1, g2⟩
  have go : ∀ a k, ¬ (a = 4561 ∧ (k = 83 ∨ k = 84)) → ¬ (4617 ≤ a ∧ a ≤ 4621 ∧ k = nu h) → ¬ (a = 4622 ∧ k / 8 = nu h) → ¬ (4565 ≤ a ∧ a ≤ 4569 ∧ 8640 + 240 * nu h ≤ k ∧ k < 8880 + 240 * nu h) → I2 a k = I a k := fun a k y1 y2 y3 y4 => by
    rw [hF2 a k (fun y => by unfold Sfn at y; omega)]
    exact hF1 a k (fun y => by unfold Snt at y; omega)
  have gn : ∀ a k, a ≤ 4621 → ¬ (4565 ≤ a ∧ a ≤ 4569) → I2 a k = I1 a k := fun a k y1 y2 => hF2 a k (fun y => by unfold Sfn at y; omega)
  simp only [Sum.elim_inr]
  unfold f_X12_noteFunction_j97
  refine q_ok ⟨I2, rfl, ⟨MTy_keep h1 ?_, MSh_keep h2 hC.1 ?_ (CSh_80 hC), MTb_keep h3 ?_, MNm_keep h4 ?_, MFn_keep h5 ?_, MV_keep h6 ?_, MKp_keep h7 ?_, MPr_keep h8 ?_, MTr_keep h9 ?_, ?_⟩, ?_, ?_⟩
  case refine_10 =>
    refine MHs_push h10 h20 hf ?_ ?_ (fun a u y1 y2 y3 => go a u (by omega) (by omega) (by omega) (by omega)) (fun k y => go _ _ (by omega) (by omega) (by omega) (by omega)) (fun k y1 y2 y3 => go _ _ (by omega) (by omega) (by omega) (by omega)) (fun a k y1 y2 y3 y4 y5 => go _ _ (by omega) (by omega) (by omega) (by omega)) ?_ (fun z => absurd z (by omega)) (fun z => absurd z (by omega)) (fun _ => ⟨?_, ?_⟩)
    · rw [gn _ _ (by omega) (by omega), e83]
    · rw [gn _ _ (by omega) (by omega), e84]
    · rw [gn _ _ (by omega) (by omega), e17]
      rfl
    · rw [gn _ _ (by omega) (by omega), e18]
    · rw [gn 4619 _ (by omega) (by omega), gn 4620 _ (by omega) (by omega), e19, e20]
      exact FM_move fl1 (by omega) g1 g2
  case refine_11 =>
    intro a k y
    exact go a k (by omega) (by omega) (by omega) (by omega)
  case refine_12 => exact go _ _ (by omega) (by omega) (by omega) (by omega)
  case refine_6 =>
    intro k y1 y2
    exact go _ k (by omega) (by omega) (by omega) (by omega)
  all_goals
    intro a k y
    exact go a k (by omega) (by omega) (by omega) (by omega)
end OJ
