/-! making simpler: the class's rules -/
section CRU
variable {I : Nat → Nat → Int32} {J : Nat → Nat → Int64} {R : Nat → Nat → Option Nat} {β : Type} {a p : Nat} {b : GB} {T : Tt}
theorem C_meaningOf {nn i : Nat} {nd : Nat → Nd} {sp : Nat → Nat} {G : Int32 → Option β} (hR : RA R) (hA : CT I a nn nd sp) (hi : i < nn) (hn : NV b (nd i)) (hB : CTb I b) (hO : TbOK b) : (f_X7_meaningOf (mg (4562 + zn J) I J R) 2206 a (Int32.ofNat (i))).bind G = G (mi (mz b (nd i))) := by
  have ta := hA.1.1
  have nn80 := (CT_n hA).2
  obtain ⟨y1, y2, y3, y4, y5⟩ := hA.1.2.2.2 i hi
  unfold f_X7_meaningOf f_X7_meaningOf_j33 mz
  rw [bT_g0 ta hR, bT_aI ta (by omega), y1]
  by_cases q : (nd i).1 = 3
  · obtain ⟨p, fx, p1, p2, p3, p4, p5, p6, p7, p8⟩ := mg_i hO hn q
    rw [if_pos q, if_pos q, gr_2206_0 hR, bT_g1 ta hR, bT_aI ta (by omega), y2, bT_g2 ta hR, bT_aI ta (by omega), y3, if_pos ok_11, p3, p4, C_meaning hR hB p1 (by omega) p6 p7, mi_s (by omega)]
    rfl
  · rw [if_neg q, if_neg q]
    rfl
theorem wh_fin {σ : xM} {x : Int64} : f_X7_wholeOf_j171 σ x = some (if 0 ≤ x.toInt ∧ x.toInt ≤ 999999999 then (Int32.ofNat (x.toInt.toNat)) else -1) := by
  unfold f_X7_wholeOf_j171 f_X7_wholeOf_j193 f_X7_wholeOf_j194
  have e0 : (0 : Int64).toInt = 0 := rfl
  have e9 : (999999999 : Int64).toInt = 999999999 := by decide
  by_cases q : x < 0
  · rw [if_pos ((lg_cmp_lt x 0).mpr q), if_neg (fun y => by
      rw [Int64.lt_iff_toInt_lt, e0] at q
      omega)]
  · rw [if_neg (fun y => q ((lg_cmp_lt x 0).mp y))]
    rw [Int64.lt_iff_toInt_lt, e0] at q
    by_cases q2 : (999999999 : Int64) < x
    · rw [if_pos ((lg_cmp_gt x 999999999).mpr q2), if_neg (fun y => by
        rw [Int64.lt_iff_toInt_lt, e9] at q2
        omega)]
    · rw [if_neg (fun y => q2 ((lg_cmp_gt x 999999999).mp y))]
      rw [Int64.lt_iff_toInt_lt, e9] at q2
      rw [if_pos ⟨by omega, by omega⟩]
      have ex : x = Int64.ofNat x.toInt.toNat := by
        apply Int64.toInt_inj.mp
        rw [j_toInt (by omega)]
        omega
      congr 1
      conv => lhs; rw [ex]
      exact j_32 _
theorem wh_nat {σ : xM} {v : Nat} (h : v < 9223372036854775808) : f_X7_wholeOf_j171 σ (Int64.ofNat v) = some (match capN (some v) with
    | none => -1
    | some w => (Int32.ofNat (w))) := by
  rw [wh_fin, j_toInt h]
  unfold capN
  dsimp only
  by_cases q : v ≤ 999999999
  · rw [if_pos (by omega), if_pos q]
    rfl
  · rw [if_neg (by omega), if_neg q]
theorem wh_neg {σ : xM} {x : Int64} (h : x.toInt < 0) : f_X7_wholeOf_j171 σ x = some (-1) := by
  rw [wh_fin, if_neg (by omega)]
def wI0 (o : Option Nat) : Int32 := match o with
  | none => -1
  | some v => (Int32.ofNat (v))
theorem sub_neg {x y : Nat} (hx : x ≤ 999999999) (hy : y ≤ 999999999) (h : x < y) : (Int64.ofNat x - Int64.ofNat y).toInt < 0 := by
  rw [Int64.toInt_sub, j_toInt (by omega), j_toInt (by omega), Int.bmod_def]
  split <;> omega
theorem C_powerOf {σ : xM} {x y : Nat} (hx : x ≤ 999999999) (hy : y ≤ 999999999) : f_X7_powerOf σ (Int64.ofNat x) (Int64.ofNat y) = some (Int64.ofNat (pwN x y)) := by
  have key : QK (xloop (f_X7_powerOf_s6 σ) xF (Int64.ofNat x, Int64.ofNat y, Int64.ofNat 1, Int64.ofNat 0)) (fun r => r = .inr (Int64.ofNat (pwN x y))) := by
    refine q_for y (fun k s => s = (Int64.ofNat x, Int64.ofNat y, Int64.ofNat (pwN x k), Int64.ofNat k)) ?_ ?_ (i := 0) rfl (by omega) (by unfold xF; omega)
    · rintro k s hk rfl
      have pk := pwN_le x hx k
      unfold f_X7_powerOf_s6
      dsimp only
      rw [q_let, q_let, q_let, q_let, if_neg (show ¬ (0 : Int32) ≤ lg_cmp (Int64.ofNat k) (Int64.ofNat y) from fun z => absurd ((j_le (by omega) (by omega)).mp ((lg_cmp_ge _ _).mp z)) (by omega))]
      by_cases q : pwN x k ≤ 999999999
      · rw [if_neg (show ¬ (0 : Int32) < lg_cmp (Int64.ofNat (pwN x k)) 999999999 from fun z => absurd ((j_lt (a := 999999999) (by omega) (by omega)).mp ((lg_cmp_gt _ _).mp z)) (by omega)), q_let, q_let, i64_mul, show Int64.ofNat k + (1 : Int64) = Int64.ofNat (k + 1) from i64_add k 1]
        refine q_go ?_
        show _ = (Int64.ofNat x, Int64.ofNat y, Int64.ofNat (if pwN x k ≤ 999999999 then pwN x k * x else pwN x k), Int64.ofNat (k + 1))
        rw [if_pos q]
      · rw [if_pos (show (0 : Int32) < lg_cmp (Int64.ofNat (pwN x k)) 999999999 from (lg_cmp_gt _ _).mpr ((j_lt (a := 999999999) (by omega) (by omega)).mpr (by omega)))]
        refine q_ex ?_
        rw [show y = k + (y - k) by omega, pwN_st x (by omega)]
    · rintro s rfl
      unfold f_X7_powerOf_s6
      dsimp only
      rw [q_let, q_let, q_let, q_let, if_pos (show (0 : Int32) ≤ lg_cmp (Int64.ofNat y) (Int64.ofNat y) from (lg_cmp_ge _ _).mpr ((j_le (by omega) (by omega)).mpr (Nat.le_refl _)))]
      exact q_ex rfl
  obtain ⟨r, er, rfl⟩ := key
  unfold f_X7_powerOf f_X7_powerOf_j37
  rw [q_let, q_let, show xloop (f_X7_powerOf_s6 σ) xF (Int64.ofNat x, Int64.ofNat y, 1, 0) = _ from er]
  rfl
theorem C_wholeOf {m l c : Nat} (hR : RA R) (hA : CT I a T.1 T.2.1 T.2.2) (hl : l < T.1) (hc : c < T.1) (nl : NV b (T.2.1 l)) (nc : NV b (T.2.1 c)) (hm : m ≤ 5) : f_X7_wholeOf (mg (4562 + zn J) I J R) a (Int32.ofNat (m)) (Int32.ofNat (l)) (Int32.ofNat (c)) = some (wI0 (if (T.2.1 l).1 = 0 ∧ (T.2.1 c).1 = 0 then whN m (vN (T.2.1 l)) (vN (T.2.1 c)) else none)) := by
  have ta := hA.1.1
  have nn80 := (CT_n hA).2
  obtain ⟨y1, y2, y3, y4, y5⟩ := hA.1.2.2.2 l hl
  obtain ⟨z1, z2, z3, z4, z5⟩ := hA.1.2.2.2 c hc
  obtain ⟨v1, v2, -⟩ := NV_v nl
  obtain ⟨w1, w2, -⟩ := NV_v nc
  unfold f_X7_wholeOf f_X7_wholeOf_j18 f_X7_wholeOf_j131 f_X7_wholeOf_j134 f_X7_wholeOf_j166 f_X7_wholeOf_j161
  rw [bT_g0 ta hR, bT_aI ta (by omega), y1]
  by_cases q0 : (T.2.1 l).1 = 0
  rotate_left
  · rw [if_neg q0, if_neg (fun y => q0 y.1)]
    rfl
  rw [if_pos q0, bT_g0 ta hR, bT_aI ta (by omega), z1]
  by_cases q1 : (T.2.1 c).1 = 0
  rotate_left
  · rw [if_neg q1, if_neg (fun y => q1 y.2)]
    rfl
  rw [if_pos q1, if_pos ⟨q0, q1⟩, bT_g1 ta hR, bT_aI ta (by omega), y2, q_let, bT_g1 ta hR, bT_aI ta (by omega), z2, q_let, v1, w1, j_of32 (by omega), j_of32 (by omega)]
  generalize vN (T.2.1 l) = x at *
  generalize vN (T.2.1 c) = y at *
  unfold whN whRw
  by_cases m0 : m = 0
  · rw [if_pos (show (Int32.ofNat (m)) = (0 : Int32) by rw [m0]; rfl), if_pos m0, q_let, i64_add, wh_nat (by omega)]
    rfl
  rw [if_neg (show ¬ (Int32.ofNat (m)) = (0 : Int32) from i32_ne (b := 0) (by omega) (by omega) m0), if_neg m0]
  by_cases m1 : m = 1
  · rw [if_pos (show (Int32.ofNat (m)) = (1 : Int32) by rw [m1]; rfl), if_pos m1, q_let]
    by_cases q : y ≤ x
    · rw [if_pos q, jn_sub q, wh_nat (by omega)]
      rfl
    · rw [if_neg q, wh_neg (sub_neg v2 w2 (by omega))]
      rfl
  rw [if_neg (show ¬ (Int32.ofNat (m)) = (1 : Int32) from i32_ne (b := 1) (by omega) (by omega) m1), if_neg m1]
  by_cases m2 : m = 2
  · have le : x * y ≤ 999999999 * 999999999 := Nat.mul_le_mul v2 w2
    rw [if_pos (show (Int32.ofNat (m)) = (2 : Int32) by rw [m2]; rfl), if_pos m2, q_let, i64_mul, wh_nat (by omega)]
    rfl
  rw [if_neg (show ¬ (Int32.ofNat (m)) = (2 : Int32) from i32_ne (b := 2) (by omega) (by omega) m2), if_neg m2]
  by_cases m3 : m = 3
  · rw [if_pos (show (Int32.ofNat (m)) = (3 : Int32) by rw [m3]; rfl), if_pos m3]
    by_cases q : y = 0
    · rw [if_pos (show lg_cmp (Int64.ofNat y) 0 ≤ (0 : Int32) from (lg_cmp_le _ _).mpr ((j_le (b := 0) (by omega) (by omega)).mpr (by omega))), if_neg (fun z => z.1 q), wh_neg (by first | decide | omega)]
      rfl
    · have ny : ¬ Int64.ofNat y = 0 := fun z => by
        have := congrArg Int64.toInt z
        rw [j_toInt (by omega), show (0 : Int64).toInt = 0 from rfl] at this
        omega
      rw [if_neg (show ¬ lg_cmp (Int64.ofNat y) 0 ≤ (0 : Int32) from fun z => absurd ((j_le (b := 0) (by omega) (by omega)).mp ((lg_cmp_le _ _).mp z)) (by omega)), if_neg ny, j_rem (by omega) (by omega) (by omega)]
      have md : x % y < y := Nat.mod_lt _ (by omega)
      by_cases q2 : x % y = 0
      · rw [if_pos (show lg_cmp (Int64.ofNat (x % y)) 0 = (0 : Int32) from (lg_cmp_eq _ _).mpr (by rw [q2]; rfl)), if_neg ny, if_pos ⟨q, q2⟩, j_div (by omega) (by omega) (by omega), wh_nat (by have := Nat.div_le_self x y; omega)]
        rfl
      · rw [if_neg (show ¬ lg_cmp (Int64.ofNat (x % y)) 0 = (0 : Int32) from fun z => by
          have := congrArg Int64.toInt ((lg_cmp_eq _ _).mp z)
          rw [j_toInt (by omega), show (0 : Int64).toInt = 0 from rfl] at this
          omega), if_neg (fun z => q2 z.2), wh_neg (by first | decide | omega)]
        rfl
  rw [if_neg (show ¬ (Int32.ofNat (m)) = (3 : Int32) from i32_ne (b := 3) (by omega) (by omega) m3), if_neg m3]
  by_cases m4 : m = 4
  · rw [if_pos (show (Int32.ofNat (m)) = (4 : Int32) by rw [m4]; rfl), if_neg (by omega), q_let, wh_neg (by first | decide | omega)]
    rfl
  have m5 : m = 5 := by omega
  rw [if_neg (show ¬ (Int32.ofNat (m)) = (4 : Int32) from i32_ne (b := 4) (by omega) (by omega) m4), if_pos (show (Int32.ofNat (m)) = (5 : Int32) by rw [m5]; rfl), if_pos m5]
  by_cases q : y ≤ 64
  · have pk := pwN_le x v2 y
    rw [if_neg (show ¬ (0 : Int32) < lg_cmp (Int64.ofNat y) 64 from fun z => absurd ((j_lt (a := 64) (by omega) (by omega)).mp ((lg_cmp_gt _ _).mp z)) (by omega)), if_pos q, C_powerOf v2 w2, Option.bind_some, wh_nat (by omega)]
    rfl
  · rw [if_pos (show (0 : Int32) < lg_cmp (Int64.ofNat y) 64 from (lg_cmp_gt _ _).mpr ((j_lt (a := 64) (by omega) (by omega)).mpr (by omega))), if_neg q, wh_neg (by first | decide | omega)]
    rfl
/-- what a rule leaves -/
def RuP (I : Nat → Nat → Int32) (J : Nat → Nat → Int64) (R : Nat → Nat → Option Nat) (a : Nat) (o : Option (Nat × Tt)) (r : Int32 × xM) : Prop := match o with
  | none => r = (0, mg (4562 + zn J) I J R)
  | some (k, T') => ∃ I', r = ((Int32.ofNat (k)), mg (4562 + zn J) I' J R) ∧ FrS (St a) I I' ∧ CT I' a T'.1 T'.2.1 T'.2.2
theorem nm_iff {i v : Nat} (hn : NV b (T.2.1 i)) (hv : v < 2147483648) : ((T.2.1 i).1 = 0 ∧ (T.2.1 i).2.1 = (Int32.ofNat (v))) ↔ isNm (T.2.1 i) v := by
  obtain ⟨v1, v2, -⟩ := NV_v hn
  unfold isNm
  rw [v1]
  constructor
  · rintro ⟨h1, h2⟩
    exact ⟨h1, (i32_eq (by omega) hv).mp h2⟩
  · rintro ⟨h1, h2⟩
    exact ⟨h1, by rw [h2]⟩
theorem C_applyNeutral {m : Nat} (hR : RA R) (hA : CT I a T.1 T.2.1 T.2.2) (hT : TtO b T) (hp : p < T.1) (h2 : aro T.2.1 p = 2) (hm : m ≤ 5) : QK (f_X7_applyNeutral (mg (4562 + zn J) I J R) a (Int32.ofNat (p)) (Int32.ofNat (m))) (RuP I J R a (if m = 0 ∧ isNm (T.2.1 (p + 1)) 0 then some (2, tIn T p (kid T.2.2 p 1))
    else if (m = 0 ∨ m = 1) ∧ isNm (T.2.1 (kid T.2.2 p 1)) 0 then some (2, tIn T p (p + 1))
    else if m = 2 ∧ isNm (T.2.1 (p + 1)) 1 then some (3, tIn T p (kid T.2.2 p 1))
    else if (m = 2 ∨ m = 3 ∨ m = 5) ∧ isNm (T.2.1 (kid T.2.2 p 1)) 1 then some (3, tIn T p (p + 1)) else none)) := by
  obtain ⟨e0, a1, b1, c1, c2, c3, c4, c5⟩ := two_kids hT hp h2
  have ta := hA.1.1
  have nn80 := (CT_n hA).2
  have n1 := hT.2 _ a1
  have n2 := hT.2 _ b1
  have i10 : ((T.2.1 (p + 1)).1 = 0 ∧ (T.2.1 (p + 1)).2.1 = (0 : Int32)) ↔ isNm (T.2.1 (p + 1)) 0 := nm_iff (v := 0) n1 (by omega)
  have i11 : ((T.2.1 (p + 1)).1 = 0 ∧ (T.2.1 (p + 1)).2.1 = (1 : Int32)) ↔ isNm (T.2.1 (p + 1)) 1 := nm_iff (v := 1) n1 (by omega)
  have i20 : ((T.2.1 (kid T.2.2 p 1)).1 = 0 ∧ (T.2.1 (kid T.2.2 p 1)).2.1 = (0 : Int32)) ↔ isNm (T.2.1 (kid T.2.2 p 1)) 0 := nm_iff (v := 0) n2 (by omega)
  have i21 : ((T.2.1 (kid T.2.2 p 1)).1 = 0 ∧ (T.2.1 (kid T.2.2 p 1)).2.1 = (1 : Int32)) ↔ isNm (T.2.1 (kid T.2.2 p 1)) 1 := nm_iff (v := 1) n2 (by omega)
  have ch0 : f_X9_child (mg (4562 + zn J) I J R) a (Int32.ofNat (p)) 0 = some (Int32.ofNat (p + 1)) := T_child hR hA hp (show 0 < aro T.2.1 p by omega)
  have ch1 : f_X9_child (mg (4562 + zn J) I J R) a (Int32.ofNat (p)) 1 = some (Int32.ofNat (kid T.2.2 p 1)) := T_child hR hA hp (show 1 < aro T.2.1 p by omega)
  obtain ⟨_, ek, I1, rfl, f1, A1⟩ := T_keepOnly (J := J) hR hA hp (show p < p + 1 by omega) c1
  obtain ⟨_, ek2, I2, rfl, f2, A2⟩ := T_keepOnly (J := J) hR hA hp c2 c3
  unfold f_X7_applyNeutral f_X7_applyNeutral_j24 f_X7_applyNeutral_j29 f_X7_applyNeutral_j53 f_X7_applyNeutral_j63 f_X7_applyNeutral_j74 f_X7_applyNeutral_j94 f_X7_applyNeutral_j116 f_X7_applyNeutral_j126
  rw [if_pos (bT_xk ta), ch0, Option.bind_some, if_pos (bT_xk ta), ch1, Option.bind_some]
  have nb1 := fun v => T_isNumber (J := J) (c := v) hR hA.1 a1
  have nb2 := fun v => T_isNumber (J := J) (c := v) hR hA.1 b1
  generalize kid T.2.2 p 1 = c at *
  by_cases m0 : m = 0
  · rw [if_pos (show (Int32.ofNat (m)) = (0 : Int32) by rw [m0]; rfl), if_neg (show ¬ (1 : Int32) = 0 by decide), if_neg (show ¬ (1 : Int32) = 0 by decide), if_pos (show (Int32.ofNat (m)) = (0 : Int32) by rw [m0]; rfl), if_pos (bT_xk ta), nb1, Option.bind_some]
    by_cases q1 : isNm (T.2.1 (p + 1)) 0
    · rw [if_pos (i10.mpr q1), if_neg (show ¬ (1 : Int32) = 0 by decide), if_pos (bT_xk ta), ek2, Option.bind_some, if_neg (show ¬ (1 : Int32) = 0 by decide), if_pos ⟨m0, q1⟩]
      exact q_ok ⟨I2, rfl, f2, A2⟩
    rw [if_neg (fun y => q1 (i10.mp y)), if_pos rfl, if_pos (bT_xk ta), nb2, Option.bind_some, if_neg (show ¬ (m = 0 ∧ isNm (T.2.1 (p + 1)) 0) from fun y => q1 y.2)]
    by_cases q2 : isNm (T.2.1 c) 0
    · rw [if_pos (i20.mpr q2), if_neg (show ¬ (1 : Int32) = 0 by decide), if_pos (bT_xk ta), ek, Option.bind_some, if_neg (show ¬ (1 : Int32) = 0 by decide), if_pos ⟨Or.inl m0, q2⟩]
      exact q_ok ⟨I1, rfl, f1, A1⟩
    · rw [if_neg (fun y => q2 (i20.mp y)), if_pos rfl, if_neg (show ¬ ((m = 0 ∨ m = 1) ∧ isNm (T.2.1 c) 0) from fun y => q2 y.2), if_neg (show ¬ (m = 2 ∧ isNm (T.2.1 (p + 1)) 1) from fun y => by omega), if_neg (show ¬ ((m = 2 ∨ m = 3 ∨ m = 5) ∧ isNm (T.2.1 c) 1) from fun y => by omega)]
      exact q_ok rfl
  rw [if_neg (show ¬ (Int32.ofNat (m)) = (0 : Int32) from i32_ne (b := 0) (by omega) (by omega) m0), if_neg (show ¬ (m = 0 ∧ isNm (T.2.1 (p + 1)) 0) from fun y => m0 y.1)]
  by_cases m1 : m = 1
  · rw [if_pos (show (Int32.ofNat (m)) = (1 : Int32) by rw [m1]; rfl), if_neg (show ¬ (1 : Int32) = 0 by decide), if_neg (show ¬ (1 : Int32) = 0 by decide), if_neg (show ¬ (Int32.ofNat (m)) = (0 : Int32) from i32_ne (b := 0) (by omega) (by omega) m0), if_neg (show ¬ (Int32.ofNat (m)) = (2 : Int32) from i32_ne (b := 2) (by omega) (by omega) (by omega)), if_pos (bT_xk ta), nb2, Option.bind_some]
    by_cases q2 : isNm (T.2.1 c) 0
    · rw [if_pos (i20.mpr q2), if_neg (show ¬ (1 : Int32) = 0 by decide), if_pos (bT_xk ta), ek, Option.bind_some, if_neg (show ¬ (1 : Int32) = 0 by decide), if_pos ⟨Or.inr m1, q2⟩]
      exact q_ok ⟨I1, rfl, f1, A1⟩
    · rw [if_neg (fun y => q2 (i20.mp y)), if_pos rfl, if_neg (show ¬ ((m = 0 ∨ m = 1) ∧ isNm (T.2.1 c) 0) from fun y => q2 y.2), if_neg (show ¬ (m = 2 ∧ isNm (T.2.1 (p + 1)) 1) from fun y => by omega), if_neg (show ¬ ((m = 2 ∨ m = 3 ∨ m = 5) ∧ isNm (T.2.1 c) 1) from fun y => by omega)]
      exact q_ok rfl
  rw [if_neg (show ¬ (Int32.ofNat (m)) = (1 : Int32) from i32_ne (b := 1) (by omega) (by omega) m1), if_pos (show (0 : Int32) = 0 from rfl), if_neg (show ¬ ((m = 0 ∨ m = 1) ∧ isNm (T.2.1 c) 0) from fun y => by omega)]
  by_cases m2 : m = 2
  · rw [if_pos (show (Int32.ofNat (m)) = (2 : Int32) by rw [m2]; rfl), if_pos (show (0 : Int32) = 0 from rfl), if_neg (show ¬ (Int32.ofNat (m)) = (0 : Int32) from i32_ne (b := 0) (by omega) (by omega) m0), if_pos (show (Int32.ofNat (m)) = (2 : Int32) by rw [m2]; rfl), if_pos (bT_xk ta), nb1, Option.bind_some]
    by_cases q1 : isNm (T.2.1 (p + 1)) 1
    · rw [if_pos (i11.mpr q1), if_neg (show ¬ (1 : Int32) = 0 by decide), if_pos (bT_xk ta), ek2, Option.bind_some, if_pos (show (0 : Int32) = 0 from rfl), if_pos ⟨m2, q1⟩]
      exact q_ok ⟨I2, rfl, f2, A2⟩
    rw [if_neg (fun y => q1 (i11.mp y)), if_pos rfl, if_pos (bT_xk ta), nb2, Option.bind_some, if_neg (show ¬ (m = 2 ∧ isNm (T.2.1 (p + 1)) 1) from fun y => q1 y.2)]
    by_cases q2 : isNm (T.2.1 c) 1
    · rw [if_pos (i21.mpr q2), if_neg (show ¬ (1 : Int32) = 0 by decide), if_pos (bT_xk ta), ek, Option.bind_some, if_pos (show (0 : Int32) = 0 from rfl), if_pos ⟨Or.inl m2, q2⟩]
      exact q_ok ⟨I1, rfl, f1, A1⟩
    · rw [if_neg (fun y => q2 (i21.mp y)), if_pos rfl, if_neg (show ¬ ((m = 2 ∨ m = 3 ∨ m = 5) ∧ isNm (T.2.1 c) 1) from fun y => q2 y.2)]
      exact q_ok rfl
  rw [if_neg (show ¬ (Int32.ofNat (m)) = (2 : Int32) from i32_ne (b := 2) (by omega) (by omega) m2), if_neg (show ¬ (m = 2 ∧ isNm (T.2.1 (p + 1)) 1) from fun y => m2 y.1)]
  have tail : (m = 3 ∨ m = 5) → QK (if xk (mg (4562 + zn J) I J R) a 9 = true then (f_X9_isNumber (mg (4562 + zn J) I J R) a (Int32.ofNat (c)) 1).bind (fun p4 => (if p4 = (0 : Int32) then some ((0 : Int32), mg (4562 + zn J) I J R) else (if xk (mg (4562 + zn J) I J R) a 9 = true then (f_X9_keepOnly (mg (4562 + zn J) I J R) a (Int32.ofNat (p)) (Int32.ofNat (p + 1))).bind (fun p5 => (if (0 : Int32) = (0 : Int32) then some ((3 : Int32), p5) else some ((2 : Int32), p5))) else none))) else none) (RuP I J R a (if (m = 2 ∨ m = 3 ∨ m = 5) ∧ isNm (T.2.1 c) 1 then some (3, tIn T p (p + 1)) else none)) := fun hm2 => by
    rw [if_pos (bT_xk ta), nb2, Option.bind_some]
    by_cases q2 : isNm (T.2.1 c) 1
    · rw [if_pos (i21.mpr q2), if_neg (show ¬ (1 : Int32) = 0 by decide), if_pos (bT_xk ta), ek, Option.bind_some, if_pos rfl, if_pos ⟨Or.inr hm2, q2⟩]
      exact q_ok ⟨I1, rfl, f1, A1⟩
    · rw [if_neg (fun y => q2 (i21.mp y)), if_pos rfl, if_neg (show ¬ ((m = 2 ∨ m = 3 ∨ m = 5) ∧ isNm (T.2.1 c) 1) from fun y => q2 y.2)]
      exact q_ok rfl
  by_cases m3 : m = 3
  · rw [if_pos (show (Int32.ofNat (m)) = (3 : Int32) by rw [m3]; rfl), if_pos (show (0 : Int32) = 0 from rfl), if_neg (show ¬ (Int32.ofNat (m)) = (0 : Int32) from i32_ne (b := 0) (by omega) (by omega) m0), if_neg (show ¬ (Int32.ofNat (m)) = (2 : Int32) from i32_ne (b := 2) (by omega) (by omega) m2)]
    exact tail (Or.inl m3)
  rw [if_neg (show ¬ (Int32.ofNat (m)) = (3 : Int32) from i32_ne (b := 3) (by omega) (by omega) m3)]
  by_cases m5 : m = 5
  · rw [if_pos (show (Int32.ofNat (m)) = (5 : Int32) by rw [m5]; rfl), if_pos (show (0 : Int32) = 0 from rfl), if_neg (show ¬ (Int32.ofNat (m)) = (0 : Int32) from i32_ne (b := 0) (by omega) (by omega) m0), if_neg (show ¬ (Int32.ofNat (m)) = (2 : Int32) from i32_ne (b := 2) (by omega) (by omega) m2)]
    exact tail (Or.inr m5)
  · rw [if_neg (show ¬ (Int32.ofNat (m)) = (5 : Int32) from i32_ne (b := 5) (by omega) (by omega) m5), if_neg (show ¬ ((m = 2 ∨ m = 3 ∨ m = 5) ∧ isNm (T.2.1 c) 1) from fun y => by omega)]
    exact q_ok rfl
end CRU
