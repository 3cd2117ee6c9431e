/-! polynomials: the class's rows -/
theorem dFr_row : ∀ t, t < 432 → (KK (2246 + 5 * t) = (2, 0) ∧ RR (2246 + 5 * t) 0 = some (2246 + 5 * t + 1) ∧ RR (2246 + 5 * t) 1 = some (2246 + 5 * t + 3) ∧ KK (2246 + 5 * t + 1) = (10, 0) ∧ RR (2246 + 5 * t + 1) 0 = some (2246 + 5 * t + 1 + 1) ∧ KK (2246 + 5 * t + 1 + 1) = (14, 7) ∧ KK (2246 + 5 * t + 3) = (10, 0) ∧ RR (2246 + 5 * t + 3) 0 = some (2246 + 5 * t + 3 + 1) ∧ KK (2246 + 5 * t + 3 + 1) = (14, 7)) ∧ RR 2216 t = some (2246 + 5 * t) := by decide +kernel
theorem isF_row {t : Nat} (h : t < 432) : isF (2246 + 5 * t) 7 := isF_of (by omega) (dFr_row t h).1
theorem isF_2231 : isF 2231 7 := isF_of (by omega) (by decide +kernel)
theorem isF_2236 : isF 2236 7 := isF_of (by omega) (by decide +kernel)
theorem isF_2241 : isF 2241 7 := isF_of (by omega) (by decide +kernel)
theorem isF_2220 : isF 2220 100 := by
  refine ⟨by decide, by decide, by decide +kernel, by decide +kernel, by decide +kernel, ⟨by decide, by decide +kernel, by decide +kernel, by decide +kernel, by decide, by decide⟩, ⟨by decide, by decide +kernel, by decide +kernel, by decide +kernel, by decide, by decide⟩⟩
theorem isF_2225 : isF 2225 100 := by
  refine ⟨by decide, by decide, by decide +kernel, by decide +kernel, by decide +kernel, ⟨by decide, by decide +kernel, by decide +kernel, by decide +kernel, by decide, by decide⟩, ⟨by decide, by decide +kernel, by decide +kernel, by decide +kernel, by decide, by decide⟩⟩
theorem dFr_pro : ∀ t, t < 9 → (KK (4406 + 15 * t) = (2, 0) ∧ RR (4406 + 15 * t) 0 = some (4406 + 15 * t + 1) ∧ RR (4406 + 15 * t) 1 = some (4406 + 15 * t + 3) ∧ KK (4406 + 15 * t + 1) = (10, 0) ∧ RR (4406 + 15 * t + 1) 0 = some (4406 + 15 * t + 1 + 1) ∧ KK (4406 + 15 * t + 1 + 1) = (14, 100) ∧ KK (4406 + 15 * t + 3) = (10, 0) ∧ RR (4406 + 15 * t + 3) 0 = some (4406 + 15 * t + 3 + 1) ∧ KK (4406 + 15 * t + 3 + 1) = (14, 100)) ∧ RR 2218 t = some (4406 + 15 * t) := by decide +kernel
theorem dFr_fac : ∀ t, t < 9 → (KK (4411 + 15 * t) = (2, 0) ∧ RR (4411 + 15 * t) 0 = some (4411 + 15 * t + 1) ∧ RR (4411 + 15 * t) 1 = some (4411 + 15 * t + 3) ∧ KK (4411 + 15 * t + 1) = (10, 0) ∧ RR (4411 + 15 * t + 1) 0 = some (4411 + 15 * t + 1 + 1) ∧ KK (4411 + 15 * t + 1 + 1) = (14, 100) ∧ KK (4411 + 15 * t + 3) = (10, 0) ∧ RR (4411 + 15 * t + 3) 0 = some (4411 + 15 * t + 3 + 1) ∧ KK (4411 + 15 * t + 3 + 1) = (14, 100)) ∧ RR 2219 t = some (4411 + 15 * t) := by decide +kernel
theorem isF_pro {t : Nat} (h : t < 9) : isF (4406 + 15 * t) 100 := by
  obtain ⟨⟨k1, k2, k3, k4, k5, k6, k7, k8, k9⟩, -⟩ := dFr_pro t h
  exact ⟨by omega, by omega, k1, k2, k3, ⟨by omega, k4, k5, k6, by omega, by omega⟩, ⟨by omega, k7, k8, k9, by omega, by omega⟩⟩
theorem isF_fac {t : Nat} (h : t < 9) : isF (4411 + 15 * t) 100 := by
  obtain ⟨⟨k1, k2, k3, k4, k5, k6, k7, k8, k9⟩, -⟩ := dFr_fac t h
  exact ⟨by omega, by omega, k1, k2, k3, ⟨by omega, k4, k5, k6, by omega, by omega⟩, ⟨by omega, k7, k8, k9, by omega, by omega⟩⟩
/-- a row of coefficients -/
def CRow (I : Nat → Nat → Int32) (r : Nat) (p : Po) : Prop := (∀ i, i < 9 → FU I (2246 + 5 * (9 * r + i)) 7 (p i).num (p i).den) ∧ I 2217 r = (Int32.ofNat (dgP p))
def PoK (p : Po) : Prop := FitA p ∧ ∀ i, 9 ≤ i → p i = 0
section CRW
variable {I : Nat → Nat → Int32} {J : Nat → Nat → Int64} {R : Nat → Nat → Option Nat} {β : Type} {r : Nat} {p q : Po}
theorem C_rw {k : Nat} {F : Nat → Option β} (hR : RA R) (hk : k < 432) : ((aR (mg 4625 I J R) 2216 16 (Int32.ofNat (k))).bind id).bind F = F (2246 + 5 * k) := by
  rw [oaR_2216, if_pos (xvi_nat hk (by decide)), i32_nat (by omega), hR.get (by decide) (show k < kb 2216 from hk) (dFr_row k hk).2]
  rfl
theorem C_pro {k : Nat} {F : Nat → Option β} (hR : RA R) (hk : k < 9) : ((aR (mg 4625 I J R) 2218 16 (Int32.ofNat (k))).bind id).bind F = F (4406 + 15 * k) := by
  rw [oaR_2218, if_pos (xvi_nat hk (by decide)), i32_nat (by omega), hR.get (by decide) (show k < kb 2218 from hk) (dFr_pro k hk).2]
  rfl
theorem C_fac {k : Nat} {F : Nat → Option β} (hR : RA R) (hk : k < 9) : ((aR (mg 4625 I J R) 2219 16 (Int32.ofNat (k))).bind id).bind F = F (4411 + 15 * k) := by
  rw [oaR_2219, if_pos (xvi_nat hk (by decide)), i32_nat (by omega), hR.get (by decide) (show k < kb 2219 from hk) (dFr_fac k hk).2]
  rfl
theorem rat_0 {x : Rat} : x.num = 0 ↔ x = 0 := gv_0
/-- the degree, looked for from above -/
theorem C_degreeFrom {h : Nat} (hR : RA R) (hr : r < 48) (hh : h ≤ 8) (hp : ∀ i, i < 9 → FU I (2246 + 5 * (9 * r + i)) 7 (p i).num (p i).den) : f_X3_degreeFrom (mg 4625 I J R) 2215 (Int32.ofNat (r)) (Int32.ofNat (h)) = some (Int32.ofNat (dgF p h)) := by
  have key : ∀ m, m ≤ 8 → QK (xloop (f_X3_degreeFrom_s5 (mg 4625 I J R)) xF (2215, (Int32.ofNat (r)), (Int32.ofNat (m)), (Int32.ofNat (m)))) (fun x => x = .inr (Int32.ofNat (dgF p m))) := by
    intro m hm
    refine q_loop (fun d s => d ≤ 8 ∧ s = (2215, (Int32.ofNat (r)), (Int32.ofNat (d)), (Int32.ofNat (d))) ∧ dgF p d = dgF p m) ?_ (m := m) ⟨hm, rfl, rfl⟩ (by unfold xF; omega)
    rintro d s ⟨hd, rfl, ed⟩
    unfold f_X3_degreeFrom_s5
    dsimp only
    rw [q_let, q_let, q_let, q_let]
    cases d with
    | zero =>
      rw [if_pos (show (Int32.ofNat (0)) ≤ (0 : Int32) by decide)]
      refine q_ex ?_
      rw [← ed]
      rfl
    | succ d =>
      rw [if_neg (show ¬ (Int32.ofNat (d + 1)) ≤ (0 : Int32) from fun y => absurd ((i32_le (m := 0) (by omega) (by omega)).mp y) (by omega)), gr_2215_2 hR, show (Int32.ofNat (r)) * (9 : Int32) = (Int32.ofNat (r * 9)) from n_mul r 9, n_add, C_rw hR (by omega), show r * 9 + (d + 1) = 9 * r + (d + 1) by omega, if_pos (bF_xk (hp (d + 1) (by omega)).1), F_isZero hR (hp (d + 1) (by omega)), Option.bind_some]
      by_cases z : p (d + 1) = 0
      · rw [if_pos (rat_0.mpr z), if_neg (by decide), q_let, q_let, show (Int32.ofNat (d + 1)) - (1 : Int32) = (Int32.ofNat (d)) from (n_sub (a := d + 1) (b := 1) (by omega)).trans rfl, n_m1]
        refine q_go ⟨d, Nat.lt_succ_self _, by omega, rfl, ?_⟩
        rw [← ed]
        show _ = if p (d + 1) = 0 then dgF p d else d + 1
        rw [if_pos z]
      · rw [if_neg (fun y => z (rat_0.mp y)), if_pos rfl]
        refine q_ex ?_
        rw [← ed]
        show _ = Sum.inr (Int32.ofNat (if p (d + 1) = 0 then dgF p d else d + 1))
        rw [if_neg z]
  obtain ⟨x, ex, rfl⟩ := key h hh
  unfold f_X3_degreeFrom f_X3_degreeFrom_j39
  rw [ex]
  rfl
/-- a wide fraction is brought to lowest terms and tried -/
theorem C_settleFit {β : Type} {w : Nat} {A : Int} {D : Nat} {x : Rat} {S : β → Prop} {K1 K0 : xM → Option β} (hR : RA R) (hW : FU I w 100 A D) (hD : 0 < D) (hx : mkRat A D = x) (h1 : ∀ I', FrS (Sa w) I I' → FU I' w 100 x.num x.den → Fit x → QK (K1 (mg 4625 I' J R)) S) (h0 : ∀ I', FrS (Sa w) I I' → FU I' w 100 x.num x.den → ¬ Fit x → QK (K0 (mg 4625 I' J R)) S) : QK ((f_X0_settle (mg 4625 I J R) 1 w).bind (fun p => (if xk p w 2 = true then (f_X2_fits p w).bind (fun y => if y = (0 : Int32) then K0 p else K1 p) else none))) S := by
  refine q_bind (A_settle hR hW (by omega)) ?_
  rintro _ ⟨I1, rfl, f1, W1⟩
  rw [show ((D : Int)).sign = 1 from Int.sign_eq_one_of_pos (by omega), Int.mul_one, Int.natAbs_natCast] at W1
  obtain ⟨e1, e2⟩ := rat_rz (z := A) hD
  rw [← e1, ← e2, hx] at W1
  rw [if_pos (bF_xk W1.1), F_fits hR W1, Option.bind_some, Int.natAbs_natCast]
  by_cases z : Fit x
  · rw [if_pos z, if_neg (by decide)]
    exact h1 I1 f1 W1 z
  · rw [if_neg z, if_pos rfl]
    exact h0 I1 f1 W1 z
theorem add_rat {x y : Rat} {s' : Int} (hs : s' = 1 ∨ s' = -1) : mkRat (x.num * y.den + s' * (y.num * x.den)) (x.den * y.den) = if s' = 1 then x + y else x - y := by
  rcases hs with rfl | rfl
  · rw [if_pos rfl, Int.one_mul, Rat.add_def']
  · rw [if_neg (by decide), Rat.sub_def', Int.neg_one_mul, ← Int.sub_eq_add_neg]
end CRW
