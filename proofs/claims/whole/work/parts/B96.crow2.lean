/-! polynomials: the class's sums, quotients, negations -/
def Fga (h : Nat) : Nat → Nat → Prop := fun x k => (2 ≤ x ∧ x < 10) ∨ (2220 ≤ x ∧ x < 2230) ∨ (x = 2217 ∧ h ≤ k) ∨ (2246 + 45 * h ≤ x ∧ x < 4406) ∨ (4406 ≤ x ∧ x < 4541 ∧ (x - 4406) % 15 < 10)
def Fgc (h : Nat) : Nat → Nat → Prop := fun x k => Fga h x k ∨ (x = 2215 ∧ k = 4)
theorem Fgc_mono {h h' : Nat} {I I' : Nat → Nat → Int32} (H : FrK (Fgc h) I I') (hh : h' ≤ h) : FrK (Fgc h') I I' := FrK_mono H (fun x k y => by unfold Fgc Fga at y ⊢; omega)
theorem Fga_Fgc {h : Nat} {I I' : Nat → Nat → Int32} (H : FrK (Fga h) I I') : FrK (Fgc h) I I' := FrK_mono H (fun x k y => Or.inl y)
theorem Fga_mono {h h' : Nat} {I I' : Nat → Nat → Int32} (H : FrK (Fga h) I I') (hh : h' ≤ h) : FrK (Fga h') I I' := FrK_mono H (fun x k y => by unfold Fga at y ⊢; omega)
theorem Sa_Fga {h : Nat} {I I' : Nat → Nat → Int32} {t : Nat} (ht : t = 2220 ∨ t = 2225) (H : FrS (Sa t) I I') : FrK (Fga h) I I' := fun x k y => by
  rw [H x (fun z => by unfold Sa at z; unfold Fga at y; omega)]
theorem Fit_7 {x : Rat} (h : Fit x) : x.num.natAbs < Bw 7 ∧ ((x.den : Nat) : Int).natAbs < Bw 7 := ⟨b200 h.1, by rw [Int.natAbs_natCast]; exact b200 h.2⟩
theorem Fit_0 : Fit (0 : Rat) := ⟨by decide, by decide⟩
theorem Fit_neg {x : Rat} (h : Fit x) : Fit (-x) := ⟨by rw [Rat.neg_num, Int.natAbs_neg]; exact h.1, by rw [Rat.neg_den]; exact h.2⟩
section CR2
variable {I : Nat → Nat → Int32} {J : Nat → Nat → Int64} {R : Nat → Nat → Option Nat} {β : Type} {r : Nat} {p q : Po}
theorem C_settled {w D : Nat} {A : Int} {x : Rat} (hR : RA R) (hW : FU I w 100 A D) (hD : 0 < D) (hx : mkRat A D = x) : QK (f_X0_settle (mg 4625 I J R) 1 w) (fun σ => ∃ I', σ = mg 4625 I' J R ∧ FrS (Sa w) I I' ∧ FU I' w 100 x.num x.den) := by
  refine q_mono (A_settle hR hW (by omega)) ?_
  rintro _ ⟨I1, rfl, f1, W1⟩
  rw [show ((D : Int)).sign = 1 from Int.sign_eq_one_of_pos (by omega), Int.mul_one, Int.natAbs_natCast] at W1
  obtain ⟨e1, e2⟩ := rat_rz (z := A) hD
  rw [← e1, ← e2, hx] at W1
  exact ⟨I1, rfl, f1, W1⟩
def sgP (s' : Int) (p q : Po) : Po := fun i => if s' = 1 then p i + q i else p i - q i
theorem C_addRows {m : Int32} {s' : Int} (hR : RA R) (hr : r + 1 < 48) (hP : CRow I r p) (hQ : CRow I (r + 1) q) (fp : FitA p) (fq : FitA q) (hm : (m = 0 ∧ s' = 1) ∨ (m = 1 ∧ s' = -1)) : QK (f_X3_addRows (mg 4625 I J R) 2215 (Int32.ofNat (r)) m) (fun y => ∃ I', FrK (Fga r) I I' ∧ ((FitA (sgP s' p q) ∧ y = (1, mg 4625 I' J R) ∧ CRow I' r (sgP s' p q)) ∨ (¬ FitA (sgP s' p q) ∧ y = (0, mg 4625 I' J R)))) := by
  have hs : s' = 1 ∨ s' = -1 := by omega
  have d1 := dgF_le p 8
  have d2 := dgF_le q 8
  have sg : ∀ i, mkRat ((p i).num * (q i).den + s' * ((q i).num * (p i).den)) ((p i).den * (q i).den) = sgP s' p q i := fun i => add_rat hs
  have hi0 : ∀ i, i < 9 → max (dgP p) (dgP q) < i → p i = 0 ∧ q i = 0 ∧ sgP s' p q i = 0 := fun i h1 h2 => by
    have e1 : p i = 0 := dgF_0 p 8 i (by unfold dgP at h2; omega) (by omega)
    have e2 : q i = 0 := dgF_0 q 8 i (by unfold dgP at h2; omega) (by omega)
    refine ⟨e1, e2, ?_⟩
    unfold sgP
    rw [e1, e2]
    split
    · exact Rat.add_zero 0
    · exact Rat.sub_self
  have hmx : max (dgP p) (dgP q) ≤ 8 := by unfold dgP; omega
  have emx : (if (Int32.ofNat (dgP p)) < (Int32.ofNat (dgP q)) then (Int32.ofNat (dgP q)) else (Int32.ofNat (dgP p))) = (Int32.ofNat (max (dgP p) (dgP q))) := by
    have e8p : dgP p ≤ 8 := d1
    have e8q : dgP q ≤ 8 := d2
    by_cases z : dgP p < dgP q
    · rw [if_pos ((i32_lt (by omega) (by omega)).mpr z), Nat.max_eq_right (by omega)]
    · rw [if_neg (fun y => z ((i32_lt (by omega) (by omega)).mp y)), Nat.max_eq_left (by omega)]
  unfold f_X3_addRows
  rw [q_let, show (Int32.ofNat (r)) * (9 : Int32) = (Int32.ofNat (r * 9)) from n_mul r 9, gr_2215_3 hR, ga_2217 (by omega), hP.2, gr_2215_3 hR, show (Int32.ofNat (r)) + (1 : Int32) = (Int32.ofNat (r + 1)) from n_add r 1, ga_2217 (by omega), hQ.2, q_let, emx, q_let]
  generalize hH : max (dgP p) (dgP q) = H at *
  refine q_bind (P := fun x => (∃ I', x = .inr (.inr (2215, (Int32.ofNat (r)), (Int32.ofNat (H)), mg 4625 I' J R)) ∧ FrK (Fga r) I I' ∧ FitA (sgP s' p q) ∧ (∀ i, i < 9 → FU I' (2246 + 5 * (9 * r + i)) 7 (sgP s' p q i).num (sgP s' p q i).den)) ∨ ∃ I', x = .inr (.inl (mg 4625 I' J R)) ∧ FrK (Fga r) I I' ∧ ¬ FitA (sgP s' p q)) ?_ ?_
  · refine q_for (H + 1) (fun i s => ∃ I', s = (2215, (Int32.ofNat (r)), m, (Int32.ofNat (r * 9)), (Int32.ofNat (H)), (Int32.ofNat (i)), mg 4625 I' J R) ∧ FrK (Fga r) I I' ∧ (∀ j, j < i → Fit (sgP s' p q j)) ∧ (∀ j, j < 9 → FU I' (2246 + 5 * (9 * r + j)) 7 (if j < i then (sgP s' p q j).num else (p j).num) (if j < i then (sgP s' p q j).den else (p j).den)) ∧ ∀ j, j < 9 → FU I' (2246 + 5 * (9 * (r + 1) + j)) 7 (q j).num (q j).den) ?_ ?_ (i := 0) ⟨I, rfl, FrK_rfl, fun j hj => absurd hj (Nat.not_lt_zero _), fun j hj => hP.1 j hj, hQ.1⟩ (by omega) (by unfold xF; omega)
    · rintro i s hi ⟨I1, rfl, f1, g1, g2, g3⟩
      have i9 : i < 9 := by omega
      have P1 := g2 i i9
      rw [if_neg (by omega), if_neg (by omega)] at P1
      have Q1 := g3 i i9
      unfold f_X3_addRows_s27
      dsimp only
      rw [q_let, q_let, q_let, q_let, q_let, q_let, q_let, if_neg (show ¬ (Int32.ofNat (H)) < (Int32.ofNat (i)) from fun y => absurd ((i32_lt (by omega) (by omega)).mp y) (by omega)), if_neg (show ¬ (9 : Int32) ≤ (Int32.ofNat (i)) from fun y => absurd ((i32_le (k := 9) (by omega) (by omega)).mp y) (by omega)), gr_2215_1 hR, gr_2215_7 hR, gr_2215_2 hR, n_add, C_rw hR (by omega), gr_2215_2 hR, show (Int32.ofNat (r * 9)) + (9 : Int32) = (Int32.ofNat (r * 9 + 9)) from n_add _ 9, n_add, C_rw hR (by omega), if_pos (show xk (mg 4625 I1 J R) 1 0 = true from ok_1), show r * 9 + i = 9 * r + i by omega, show r * 9 + 9 + i = 9 * (r + 1) + i by omega]
      refine q_bind (A_sum (p := 7) (q := 7) (s' := s') hR isF_2220 P1 Q1 (Fit_7 (fp i i9)).1 (Fit_7 (fp i i9)).2 (Fit_7 (fq i i9)).1 (Fit_7 (fq i i9)).2 (by decide) hm) ?_
      rintro _ ⟨I2, rfl, f2, W2⟩
      rw [gr_2215_1 hR, gr_2215_7 hR, if_pos (show xk (mg 4625 I2 J R) 1 0 = true from ok_1)]
      have D0 : 0 < (p i).den * (q i).den := Nat.mul_pos (Nat.pos_of_ne_zero (p i).den_nz) (Nat.pos_of_ne_zero (q i).den_nz)
      rw [← Int.natCast_mul] at W2
      refine q_bind (C_settled hR W2 D0 (sg i)) ?_
      rintro _ ⟨I3, rfl, f3, W3⟩
      have f13 : FrK (Fga r) I I3 := FrK_tr f1 (FrK_tr (Sa_Fga (Or.inl rfl) f2) (Sa_Fga (Or.inl rfl) f3))
      rw [gr_2215_7 hR, if_pos (bF_xk isF_2220), F_fits hR W3, Option.bind_some, Int.natAbs_natCast]
      by_cases ft : Fit (sgP s' p q i)
      · rw [if_pos ft, if_neg (by decide), gr_2215_2 hR, C_rw hR (by omega), gr_2215_7 hR, if_pos (bF_xk (isF_row (by omega)))]
        refine q_bind (F_copy hR (isF_row (by omega)) W3 (Fit_7 ft).1 (Fit_7 ft).2 (by omega)) ?_
        rintro _ ⟨I4, rfl, f4, W4⟩
        rw [q_let, show (Int32.ofNat (i)) + (1 : Int32) = (Int32.ofNat (i + 1)) from n_add i 1]
        have k4 : ∀ x, 2246 ≤ x → (x < 2246 + 5 * (9 * r + i) ∨ 2246 + 5 * (9 * r + i) + 5 ≤ x) → I4 x = I1 x := fun x h1 h2 => by
          rw [f4 x (fun z => by unfold Sf at z; omega), f3 x (fun z => by unfold Sa at z; omega), f2 x (fun z => by unfold Sa at z; omega)]
        refine q_go ⟨I4, rfl, ?_, fun j hj => ?_, fun j hj => ?_, fun j hj => ?_⟩
        · refine FrK_tr f13 (fun x k y => ?_)
          rw [f4 x (fun z => by unfold Sf at z; unfold Fga at y; omega)]
        · by_cases z : j < i
          · exact g1 j z
          · rw [show j = i by omega]; exact ft
        · by_cases z : j = i
          · subst z
            rw [if_pos (by omega), if_pos (by omega)]
            exact W4
          · have := FU_keep (g2 j hj) (I' := I4) (fun x h1 h2 => k4 x (by omega) (by omega))
            by_cases z2 : j < i
            · rw [if_pos z2, if_pos z2] at this
              rw [if_pos (by omega), if_pos (by omega)]
              exact this
            · rw [if_neg z2, if_neg z2] at this
              rw [if_neg (by omega), if_neg (by omega)]
              exact this
        · exact FU_keep (g3 j hj) (fun x h1 h2 => k4 x (by omega) (by omega))
      · rw [if_neg ft, if_pos rfl]
        exact q_ex (Or.inr ⟨I3, rfl, f13, fun y => ft (y i i9)⟩)
    · rintro s ⟨I1, rfl, f1, g1, g2, g3⟩
      unfold f_X3_addRows_s27
      dsimp only
      rw [q_let, q_let, q_let, q_let, q_let, q_let, q_let, if_pos ((i32_lt (by omega) (by omega)).mpr (Nat.lt_succ_self _))]
      refine q_ex (Or.inl ⟨I1, rfl, f1, fun j hj => ?_, fun j hj => ?_⟩)
      · by_cases z : j < H + 1
        · exact g1 j z
        · rw [(hi0 j hj (by omega)).2.2]
          exact Fit_0
      · have := g2 j hj
        by_cases z : j < H + 1
        · rw [if_pos z, if_pos z] at this
          exact this
        · rw [if_neg z, if_neg z] at this
          obtain ⟨e1, -, e3⟩ := hi0 j hj (by omega)
          rw [e3]
          rw [e1] at this
          exact this
  · rintro x (⟨I1, rfl, f1, fa, g1⟩ | ⟨I1, rfl, f1, fa⟩)
    · simp only [Sum.elim_inr]
      unfold f_X3_addRows_j119
      rw [gr_2215_3 hR, if_pos ok_2215, C_degreeFrom hR (by omega) hmx g1, Option.bind_some, gw_2217 (by omega)]
      have ed : dgF (sgP s' p q) H = dgP (sgP s' p q) := (dgF_up (sgP s' p q) 8 hmx (fun j h1 h2 => (hi0 j (by omega) h1).2.2)).symm
      rw [ed]
      refine q_ok ⟨_, FrK_up f1 (by unfold Fga; omega), Or.inl ⟨fa, rfl, fun i hi => FU_keep (g1 i hi) (fun x h1 h2 => up_r (by omega)), up_s⟩⟩
    · simp only [Sum.elim_inr, Sum.elim_inl]
      unfold f_X3_addRows_j95
      exact q_ok ⟨I1, f1, Or.inr ⟨fa, rfl⟩⟩
end CR2
