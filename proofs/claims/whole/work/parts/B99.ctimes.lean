/-! polynomials: the class multiplies -/
theorem add_mul_rat {s x y : Rat} : mkRat (s.num * ((x.den * y.den : Nat) : Int) + 1 * (x.num * y.num * (s.den : Int))) (s.den * (x.den * y.den)) = s + x * y := by
  have h1 : (x.den * y.den) ≠ 0 := Nat.mul_ne_zero x.den_nz y.den_nz
  have h2 := Rat.mkRat_add_mkRat s.num (x.num * y.num) s.den_nz h1
  rw [Rat.mkRat_self, ← Rat.mul_def'] at h2
  rw [h2, Int.one_mul]
def CPro (I : Nat → Nat → Int32) (p : Po) : Prop := ∀ i, i < 9 → FU I (4406 + 15 * i) 100 (p i).num (p i).den
def CFac (I : Nat → Nat → Int32) (p : Po) : Prop := ∀ i, i < 9 → FU I (4411 + 15 * i) 100 (p i).num (p i).den
def Ftm : Nat → Prop := fun x => (2 ≤ x ∧ x < 10) ∨ (2220 ≤ x ∧ x < 2225) ∨ (4406 ≤ x ∧ x < 4541 ∧ (x - 4406) % 15 < 5)
theorem Ftm_Fga {h : Nat} {I I' : Nat → Nat → Int32} (H : FrS Ftm I I') : FrK (Fga h) I I' := fun x k y => by
  rw [H x (fun z => by unfold Ftm at z; unfold Fga at y; omega)]
section CTM
variable {I : Nat → Nat → Int32} {J : Nat → Nat → Int64} {R : Nat → Nat → Option Nat} {β : Type} {r d P Q : Nat} {f p : Po}
theorem C_timesIn {i : Nat} {I0 : Nat → Nat → Int32} (hR : RA R) (hr : r < 48) (hi : i < 9) (hd : d ≤ 8) (hF : ∀ j, j < 9 → (f j).num.natAbs < Bw Q ∧ (f j).den < Bw Q) (fp : FitA p) (hS : ∀ m, m ≤ i + 1 → (suR (fun j => f j * p (i - j)) m).num.natAbs < Bw P ∧ (suR (fun j => f j * p (i - j)) m).den < Bw P) (hb : P + Q + 8 ≤ 100) (hd0 : ∀ j, d < j → j < 9 → f j = 0) : ∀ (m lo : Nat) (I : Nat → Nat → Int32), lo + m = 10 → CFac I f → (∀ j, j < 9 → FU I (2246 + 5 * (9 * r + j)) 7 (p j).num (p j).den) → FU I (4406 + 15 * i) 100 (suR (fun j => f j * p (i - j)) lo).num (suR (fun j => f j * p (i - j)) lo).den → lo ≤ i + 1 → ∀ F, m + 3 ≤ F → QK (xloop f_X3_timesRow_s41 F (2215, (Int32.ofNat (r)), (Int32.ofNat (d)), (Int32.ofNat (r * 9)), (Int32.ofNat (i)), (Int32.ofNat (lo)), mg 4625 I J R)) (fun x => ∃ I', x = .inr (2215, (Int32.ofNat (r)), (Int32.ofNat (d)), (Int32.ofNat (r * 9)), (Int32.ofNat (i)), mg 4625 I' J R) ∧ FrS (fun x => (2 ≤ x ∧ x < 10) ∨ (2220 ≤ x ∧ x < 2225) ∨ (4406 + 15 * i ≤ x ∧ x < 4411 + 15 * i)) I I' ∧ FU I' (4406 + 15 * i) 100 (mulP f p i).num (mulP f p i).den) := by
  intro m
  induction m with
  | zero => intro lo I h1 h2 h3 h4 h5; omega
  | succ m ih =>
    intro lo I h1 hf hp hs h5 F hFu
    have fin : suR (fun j => f j * p (i - j)) lo = mulP f p i → f_X3_timesRow_s41 (2215, (Int32.ofNat (r)), (Int32.ofNat (d)), (Int32.ofNat (r * 9)), (Int32.ofNat (i)), (Int32.ofNat (lo)), mg 4625 I J R) = some (.inr (.inl (2215, (Int32.ofNat (r)), (Int32.ofNat (d)), (Int32.ofNat (r * 9)), (Int32.ofNat (i)), mg 4625 I J R))) → QK (xloop f_X3_timesRow_s41 F (2215, (Int32.ofNat (r)), (Int32.ofNat (d)), (Int32.ofNat (r * 9)), (Int32.ofNat (i)), (Int32.ofNat (lo)), mg 4625 I J R)) (fun x => ∃ I', x = .inr (2215, (Int32.ofNat (r)), (Int32.ofNat (d)), (Int32.ofNat (r * 9)), (Int32.ofNat (i)), mg 4625 I' J R) ∧ FrS (fun x => (2 ≤ x ∧ x < 10) ∨ (2220 ≤ x ∧ x < 2225) ∨ (4406 + 15 * i ≤ x ∧ x < 4411 + 15 * i)) I I' ∧ FU I' (4406 + 15 * i) 100 (mulP f p i).num (mulP f p i).den) := fun e st => by
      rw [e] at hs
      exact ⟨_, xl_e (by omega) st, I, rfl, FrS_rfl, hs⟩
    by_cases q1 : i < lo
    · have el : lo = i + 1 := by omega
      refine fin (by rw [el]; rfl) ?_
      unfold f_X3_timesRow_s41
      dsimp only
      rw [q_let, q_let, q_let, q_let, q_let, q_let, q_let, if_pos ((i32_lt (by omega) (by omega)).mpr q1)]
    by_cases q2 : d < lo
    · have tl : ∀ k, suR (fun j => f j * p (i - j)) (lo + k) = suR (fun j => f j * p (i - j)) lo ∨ 9 < lo + k := by
        intro k
        induction k with
        | zero => exact Or.inl rfl
        | succ k ihk =>
          by_cases z : lo + k < 9
          · left
            show suR (fun j => f j * p (i - j)) (lo + k) + f (lo + k) * p (i - (lo + k)) = _
            rw [hd0 (lo + k) (by omega) z, Rat.zero_mul, Rat.add_zero]
            rcases ihk with y | y
            · exact y
            · omega
          · exact Or.inr (by omega)
      refine fin ?_ ?_
      · have := tl (i + 1 - lo)
        rw [show lo + (i + 1 - lo) = i + 1 by omega] at this
        rcases this with y | y
        · exact y.symm
        · omega
      · unfold f_X3_timesRow_s41
        dsimp only
        rw [q_let, q_let, q_let, q_let, q_let, q_let, q_let, if_neg (fun y => q1 ((i32_lt (by omega) (by omega)).mp y)), if_pos ((i32_lt (by omega) (by omega)).mpr q2)]
    have lo9 : lo < 9 := by omega
    have hfl := hf lo lo9
    have hpl := hp (i - lo) (by omega)
    have pre : ∀ y, (if (if (f lo).num = 0 then (1 : Int32) else 0) = (0 : Int32) then (gR (mg 4625 I J R) 2215 3 2).bind (fun x13 => ((aR (mg 4625 I J R) x13 16 (((Int32.ofNat (r * 9)) + (Int32.ofNat (i))) - (Int32.ofNat (lo)))).bind id).bind (fun x14 => (if xk (mg 4625 I J R) x14 2 = true then (f_X2_isZero (mg 4625 I J R) x14).bind (fun p15 => (if p15 = (0 : Int32) then (gR (mg 4625 I J R) 2215 3 1).bind (fun x16 => (gR (mg 4625 I J R) 2215 3 7).bind (fun x17 => (gR (mg 4625 I J R) 2215 3 6).bind (fun x18 => ((aR (mg 4625 I J R) x18 16 (Int32.ofNat (lo))).bind id).bind (fun x19 => (gR (mg 4625 I J R) 2215 3 2).bind (fun x20 => ((aR (mg 4625 I J R) x20 16 (((Int32.ofNat (r * 9)) + (Int32.ofNat (i))) - (Int32.ofNat (lo)))).bind id).bind (fun x21 => (if xk (mg 4625 I J R) x16 0 = true then (f_X0_times (mg 4625 I J R) x16 x17 x19 x21).bind (fun p22 => (gR p22 2215 3 1).bind (fun x23 => (gR p22 2215 3 5).bind (fun x24 => ((aR p22 x24 16 (Int32.ofNat (i))).bind id).bind (fun x25 => (gR p22 2215 3 5).bind (fun x26 => ((aR p22 x26 16 (Int32.ofNat (i))).bind id).bind (fun x27 => (gR p22 2215 3 7).bind (fun x28 => (if xk p22 x23 0 = true then (f_X0_sum p22 x23 x25 x27 x28 (0 : Int32)).bind (fun p29 => (gR p29 2215 3 1).bind (fun x30 => (gR p29 2215 3 5).bind (fun x31 => ((aR p29 x31 16 (Int32.ofNat (i))).bind id).bind (fun x32 => (if xk p29 x30 0 = true then (f_X0_settle p29 x30 x32).bind (fun p33 => f_X3_timesRow_j155 p33 2215 (Int32.ofNat (r)) (Int32.ofNat (d)) (Int32.ofNat (r * 9)) (Int32.ofNat (i)) (Int32.ofNat (lo))) else none))))) else none)))))))) else none))))))) else f_X3_timesRow_j155 (mg 4625 I J R) 2215 (Int32.ofNat (r)) (Int32.ofNat (d)) (Int32.ofNat (r * 9)) (Int32.ofNat (i)) (Int32.ofNat (lo)))) else none))) else f_X3_timesRow_j155 (mg 4625 I J R) 2215 (Int32.ofNat (r)) (Int32.ofNat (d)) (Int32.ofNat (r * 9)) (Int32.ofNat (i)) (Int32.ofNat (lo))) = y → f_X3_timesRow_s41 (2215, (Int32.ofNat (r)), (Int32.ofNat (d)), (Int32.ofNat (r * 9)), (Int32.ofNat (i)), (Int32.ofNat (lo)), mg 4625 I J R) = y := fun y hy => by
      unfold f_X3_timesRow_s41
      dsimp only
      rw [q_let, q_let, q_let, q_let, q_let, q_let, q_let, if_neg (fun y => q1 ((i32_lt (by omega) (by omega)).mp y)), if_neg (fun y => q2 ((i32_lt (by omega) (by omega)).mp y)), gr_2215_6 hR, C_fac hR lo9, if_pos (bF_xk hfl.1), F_isZero hR hfl, Option.bind_some]
      exact hy
    have nx : ∀ I1 : Nat → Nat → Int32, f_X3_timesRow_j155 (mg 4625 I1 J R) 2215 (Int32.ofNat (r)) (Int32.ofNat (d)) (Int32.ofNat (r * 9)) (Int32.ofNat (i)) (Int32.ofNat (lo)) = some (.inr (.inr (2215, (Int32.ofNat (r)), (Int32.ofNat (d)), (Int32.ofNat (r * 9)), (Int32.ofNat (i)), (Int32.ofNat (lo + 1)), mg 4625 I1 J R))) := fun I1 => by
      unfold f_X3_timesRow_j155
      rw [q_let, show (Int32.ofNat (lo)) + (1 : Int32) = (Int32.ofNat (lo + 1)) from n_add lo 1]
    have skip : f lo * p (i - lo) = 0 → f_X3_timesRow_s41 (2215, (Int32.ofNat (r)), (Int32.ofNat (d)), (Int32.ofNat (r * 9)), (Int32.ofNat (i)), (Int32.ofNat (lo)), mg 4625 I J R) = some (.inr (.inr (2215, (Int32.ofNat (r)), (Int32.ofNat (d)), (Int32.ofNat (r * 9)), (Int32.ofNat (i)), (Int32.ofNat (lo + 1)), mg 4625 I J R))) → QK (xloop f_X3_timesRow_s41 F (2215, (Int32.ofNat (r)), (Int32.ofNat (d)), (Int32.ofNat (r * 9)), (Int32.ofNat (i)), (Int32.ofNat (lo)), mg 4625 I J R)) (fun x => ∃ I', x = .inr (2215, (Int32.ofNat (r)), (Int32.ofNat (d)), (Int32.ofNat (r * 9)), (Int32.ofNat (i)), mg 4625 I' J R) ∧ FrS (fun x => (2 ≤ x ∧ x < 10) ∨ (2220 ≤ x ∧ x < 2225) ∨ (4406 + 15 * i ≤ x ∧ x < 4411 + 15 * i)) I I' ∧ FU I' (4406 + 15 * i) 100 (mulP f p i).num (mulP f p i).den) := fun e st => by
      rw [xl_s (by omega) st]
      refine ih (lo + 1) I (by omega) hf hp ?_ (by omega) (F - 1) (by omega)
      have : suR (fun j => f j * p (i - j)) (lo + 1) = suR (fun j => f j * p (i - j)) lo := by
        show suR (fun j => f j * p (i - j)) lo + f lo * p (i - lo) = _
        rw [e, Rat.add_zero]
      rw [this]
      exact hs
    by_cases z1 : f lo = 0
    · refine skip (by rw [z1, Rat.zero_mul]) (pre _ ?_)
      rw [if_pos (rat_0.mpr z1), if_neg (by decide), nx]
    by_cases z2 : p (i - lo) = 0
    · refine skip (by rw [z2, Rat.mul_zero]) (pre _ ?_)
      rw [if_neg (fun y => z1 (rat_0.mp y)), if_pos rfl, gr_2215_2 hR, n_add, n_sub (by omega), C_rw hR (by omega), show r * 9 + i - lo = 9 * r + (i - lo) by omega, if_pos (bF_xk hpl.1), F_isZero hR hpl, Option.bind_some, if_pos (rat_0.mpr z2), if_neg (by decide), nx]
    obtain ⟨b1, b2⟩ := hF lo lo9
    obtain ⟨b3, b4⟩ := Fit_7 (fp (i - lo) (by omega))
    obtain ⟨b5, b6⟩ := hS lo (by omega)
    obtain ⟨_, e2, I2, rfl, f2, W2⟩ := A_times (J := J) (p := Q) (q := 7) hR isF_2220 hfl hpl b1 (by rw [Int.natAbs_natCast]; exact b2) b3 b4 (by omega)
    have S2 : FU I2 (4406 + 15 * i) 100 (suR (fun j => f j * p (i - j)) lo).num (suR (fun j => f j * p (i - j)) lo).den := FU_keep hs (fun x g1 g2 => f2 x (fun z => by unfold Sa at z; omega))
    obtain ⟨_, e3, I3, rfl, f3, W3⟩ := A_sum (J := J) (p := P) (q := Q + 7) (m := 0) (s' := 1) hR (isF_pro hi) S2 W2 b5 (by rw [Int.natAbs_natCast]; exact b6) (nm_lt b1 b3) (nm_lt (by rw [Int.natAbs_natCast]; exact b2) b4) (by omega) (Or.inl ⟨rfl, rfl⟩)
    rw [← Int.natCast_mul, ← Int.natCast_mul] at W3
    have D0 : 0 < (suR (fun j => f j * p (i - j)) lo).den * ((f lo).den * (p (i - lo)).den) := Nat.mul_pos (Nat.pos_of_ne_zero (Rat.den_nz _)) (Nat.mul_pos (Nat.pos_of_ne_zero (Rat.den_nz _)) (Nat.pos_of_ne_zero (Rat.den_nz _)))
    obtain ⟨_, e4, I4, rfl, f4, W4⟩ := C_settled (J := J) hR W3 D0 add_mul_rat
    have st : f_X3_timesRow_s41 (2215, (Int32.ofNat (r)), (Int32.ofNat (d)), (Int32.ofNat (r * 9)), (Int32.ofNat (i)), (Int32.ofNat (lo)), mg 4625 I J R) = some (.inr (.inr (2215, (Int32.ofNat (r)), (Int32.ofNat (d)), (Int32.ofNat (r * 9)), (Int32.ofNat (i)), (Int32.ofNat (lo + 1)), mg 4625 I4 J R))) := by
      refine pre _ ?_
      rw [if_neg (fun y => z1 (rat_0.mp y)), if_pos rfl, gr_2215_2 hR, n_add, n_sub (by omega), C_rw hR (by omega), show r * 9 + i - lo = 9 * r + (i - lo) by omega, if_pos (bF_xk hpl.1), F_isZero hR hpl, Option.bind_some, if_neg (fun y => z2 (rat_0.mp y)), if_pos rfl, gr_2215_1 hR, gr_2215_7 hR, gr_2215_6 hR, C_fac hR lo9, gr_2215_2 hR, C_rw hR (by omega), if_pos (show xk (mg 4625 I J R) 1 0 = true from ok_1), e2, Option.bind_some, gr_2215_1 hR, gr_2215_5 hR, C_pro hR hi, gr_2215_5 hR, C_pro hR hi, gr_2215_7 hR, if_pos (show xk (mg 4625 I2 J R) 1 0 = true from ok_1), e3, Option.bind_some, gr_2215_1 hR, gr_2215_5 hR, C_pro hR hi, if_pos (show xk (mg 4625 I3 J R) 1 0 = true from ok_1), e4, Option.bind_some, nx]
    have f24 : FrS (fun x => (2 ≤ x ∧ x < 10) ∨ (2220 ≤ x ∧ x < 2225) ∨ (4406 + 15 * i ≤ x ∧ x < 4411 + 15 * i)) I I4 := fun x y => by
      rw [f4 x (fun z => by unfold Sa at z; omega), f3 x (fun z => by unfold Sa at z; omega), f2 x (fun z => by unfold Sa at z; omega)]
    rw [xl_s (by omega) st]
    obtain ⟨x, ex, I5, rfl, f5, W5⟩ := ih (lo + 1) I4 (by omega) (fun j hj => FU_keep (hf j hj) (fun x g1 g2 => f24 x (by omega))) (fun j hj => FU_keep (hp j hj) (fun x g1 g2 => f24 x (by omega))) W4 (by omega) (F - 1) (by omega)
    exact ⟨_, ex, I5, rfl, FrS_tr f24 f5, W5⟩
end CTM
