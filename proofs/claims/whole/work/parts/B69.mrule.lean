/-! making simpler: the reference's rules -/
section MRU
variable {I : Nat → Nat → Int32} {J : Nat → Nat → Int64} {R : Nat → Nat → Option Nat} {β : Type} {p : Nat} {b : GB} {T : Tt}
theorem M_mi {nn i a : Nat} {nd : Nat → Nd} {sp : Nat → Nat} {G : Int32 → Option β} (hR : RA R) (hA : MT I a nn nd sp) (hi : i < nn) (hn : NV b (nd i)) (hB : MTb I b) (hO : TbOK b) : (f_X12_meaningAt (mg 4625 I J R) 4561 (Int32.ofNat (a + i))).bind G = G (mi (mz b (nd i))) := by
  unfold mz
  by_cases q : (nd i).1 = 3
  · obtain ⟨p, fx, p1, p2, p3, p4, p5, p6, p7, p8⟩ := mg_i hO hn q
    rw [if_pos q, M_meaningAt hR hA hi hn hB hO q, mi_s (by omega)]
  · rw [if_neg q, M_meaningAtN hR hA hi q]
    rfl
theorem mh_fin {σ : xM} {x : Int64} : f_X12_whole_j124 σ x = some (if 0 ≤ x.toInt ∧ x.toInt ≤ 999999999 then (Int32.ofNat (x.toInt.toNat)) else -1) := by
  have h := wh_fin (σ := σ) (x := x)
  unfold f_X7_wholeOf_j171 f_X7_wholeOf_j193 f_X7_wholeOf_j194 at h
  unfold f_X12_whole_j124 f_X12_whole_j146 f_X12_whole_j147
  exact h
theorem mh_nat {σ : xM} {v : Nat} (h : v < 9223372036854775808) : f_X12_whole_j124 σ (Int64.ofNat v) = some (wI0 (capN (some v))) := by
  rw [mh_fin, ← wh_fin (σ := σ), wh_nat h]
  rfl
theorem mh_neg {σ : xM} {x : Int64} (h : x.toInt < 0) : f_X12_whole_j124 σ x = some (-1) := by
  rw [mh_fin, if_neg (by omega)]
theorem M_powLoop {σ : xM} {x y : Nat} (hx : x ≤ 999999999) (hy : y ≤ 999999999) : xloop (f_X12_whole_s96 σ) xF ((Int32.ofNat (x)), (Int32.ofNat (y)), 1, 0) = some (.inr (Int64.ofNat (pwN x y))) := by
  have key : QK (xloop (f_X12_whole_s96 σ) xF ((Int32.ofNat (x)), (Int32.ofNat (y)), Int64.ofNat 1, (Int32.ofNat (0)))) (fun r => r = .inr (Int64.ofNat (pwN x y))) := by
    refine q_for y (fun k s => s = ((Int32.ofNat (x)), (Int32.ofNat (y)), Int64.ofNat (pwN x k), (Int32.ofNat (k)))) ?_ ?_ (i := 0) rfl (by omega) (by unfold xF; omega)
    · rintro k s hk rfl
      have pk := pwN_le x hx k
      unfold f_X12_whole_s96
      dsimp only
      rw [q_let, q_let, q_let, q_let, if_neg (show ¬ (Int32.ofNat (y)) ≤ (Int32.ofNat (k)) from fun z => absurd ((i32_le (by omega) (by omega)).mp z) (by omega))]
      by_cases q : pwN x k ≤ 999999999
      · rw [if_neg (show ¬ (0 : Int32) < lg_cmp (Int64.ofNat (pwN x k)) 999999999 from fun z => absurd ((j_lt (a := 999999999) (by omega) (by omega)).mp ((lg_cmp_gt _ _).mp z)) (by omega)), q_let, q_let, j_of32 (by omega), i64_mul, show (Int32.ofNat (k)) + (1 : Int32) = (Int32.ofNat (k + 1)) from n_add k 1]
        refine q_go ?_
        show _ = ((Int32.ofNat (x)), (Int32.ofNat (y)), Int64.ofNat (if pwN x k ≤ 999999999 then pwN x k * x else pwN x k), (Int32.ofNat (k + 1)))
        rw [if_pos q]
      · rw [if_pos (show (0 : Int32) < lg_cmp (Int64.ofNat (pwN x k)) 999999999 from (lg_cmp_gt _ _).mpr ((j_lt (a := 999999999) (by omega) (by omega)).mpr (by omega)))]
        refine q_ex ?_
        rw [show y = k + (y - k) by omega, pwN_st x (by omega)]
    · rintro s rfl
      unfold f_X12_whole_s96
      dsimp only
      rw [q_let, q_let, q_let, q_let, if_pos ((i32_le (by omega) (by omega)).mpr (Nat.le_refl _))]
      exact q_ex rfl
  obtain ⟨r, er, rfl⟩ := key
  exact er
theorem M_whole {m x y : Nat} (v2 : x ≤ 999999999) (w2 : y ≤ 999999999) (hm : m ≤ 5) {σ : xM} : f_X12_whole σ 4561 (Int32.ofNat (m)) (Int32.ofNat (x)) (Int32.ofNat (y)) = some (wI0 (whN m x y)) := by
  unfold f_X12_whole f_X12_whole_j71 f_X12_whole_j74
  rw [q_let, j_of32 (by omega), j_of32 (by omega)]
  unfold whN whRw
  by_cases m0 : m = 0
  · rw [if_pos (show (Int32.ofNat (m)) = (0 : Int32) by rw [m0]; rfl), if_pos m0, q_let, i64_add, mh_nat (by omega)]
  rw [if_neg (show ¬ (Int32.ofNat (m)) = (0 : Int32) from i32_ne (b := 0) (by omega) (by omega) m0), if_neg m0]
  by_cases m1 : m = 1
  · rw [if_pos (show (Int32.ofNat (m)) = (1 : Int32) by rw [m1]; rfl), if_pos m1, q_let]
    by_cases q : y ≤ x
    · rw [if_pos q, jn_sub q, mh_nat (by omega)]
    · rw [if_neg q, mh_neg (sub_neg v2 w2 (by omega))]
      rfl
  rw [if_neg (show ¬ (Int32.ofNat (m)) = (1 : Int32) from i32_ne (b := 1) (by omega) (by omega) m1), if_neg m1]
  by_cases m2 : m = 2
  · have le : x * y ≤ 999999999 * 999999999 := Nat.mul_le_mul v2 w2
    rw [if_pos (show (Int32.ofNat (m)) = (2 : Int32) by rw [m2]; rfl), if_pos m2, q_let, i64_mul, mh_nat (by omega)]
  rw [if_neg (show ¬ (Int32.ofNat (m)) = (2 : Int32) from i32_ne (b := 2) (by omega) (by omega) m2), if_neg m2]
  by_cases m3 : m = 3
  · rw [if_pos (show (Int32.ofNat (m)) = (3 : Int32) by rw [m3]; rfl), if_pos m3]
    by_cases q : y = 0
    · rw [if_pos (show (Int32.ofNat (y)) = (0 : Int32) by rw [q]; rfl), if_neg (show ¬ (y ≠ 0 ∧ x % y = 0) from fun z => z.1 q), mh_neg (by decide)]
      rfl
    · have ny : ¬ (Int32.ofNat (y)) = (0 : Int32) := i32_ne (b := 0) (by omega) (by omega) q
      have md : x % y < y := Nat.mod_lt _ (by omega)
      have em : (Int32.ofNat (x)) - (Int32.ofNat (x)) / (Int32.ofNat (y)) * (Int32.ofNat (y)) = (Int32.ofNat (x % y)) := by
        rw [n_div (by omega) (by omega), n_mul, n_sub (Nat.div_mul_le_self x y)]
        congr 1
        have := Nat.div_add_mod x y
        rw [Nat.mul_comm] at this
        omega
      rw [if_neg ny, if_neg ny, em]
      by_cases q2 : x % y = 0
      · rw [if_pos (show (Int32.ofNat (x % y)) = (0 : Int32) by rw [q2]; rfl), if_neg ny, if_pos (show y ≠ 0 ∧ x % y = 0 from ⟨q, q2⟩), n_div (by omega) (by omega), j_of32 (by have := Nat.div_le_self x y; omega), mh_nat (by have := Nat.div_le_self x y; omega)]
      · rw [if_neg (show ¬ (Int32.ofNat (x % y)) = (0 : Int32) from i32_ne (b := 0) (by omega) (by omega) q2), if_neg (show ¬ (y ≠ 0 ∧ x % y = 0) from fun z => q2 z.2), mh_neg (by decide)]
        rfl
  rw [if_neg (show ¬ (Int32.ofNat (m)) = (3 : Int32) from i32_ne (b := 3) (by omega) (by omega) m3), if_neg m3]
  by_cases m5 : m = 5
  · rw [if_pos (show (Int32.ofNat (m)) = (5 : Int32) by rw [m5]; rfl), if_pos m5]
    by_cases q : y ≤ 64
    · have pk := pwN_le x v2 y
      rw [if_neg (show ¬ (64 : Int32) < (Int32.ofNat (y)) from fun z => absurd ((i32_lt (k := 64) (by omega) (by omega)).mp z) (by omega)), if_pos q, q_let, q_let, M_powLoop v2 w2, Option.bind_some, Sum.elim_inr, mh_nat (by omega)]
    · rw [if_pos (show (64 : Int32) < (Int32.ofNat (y)) from (i32_lt (k := 64) (by omega) (by omega)).mpr (by omega)), if_neg q, mh_neg (by decide)]
      rfl
  · rw [if_neg (show ¬ (Int32.ofNat (m)) = (5 : Int32) from i32_ne (b := 5) (by omega) (by omega) m5), if_neg m5, mh_neg (by decide)]
    rfl
theorem M_isNumber {nn i a v : Nat} {nd : Nat → Nd} {sp : Nat → Nat} (hR : RA R) (hA : MT I a nn nd sp) (hi : i < nn) (hn : NV b (nd i)) (hv : v < 2147483648) : f_X12_isNumber (mg 4625 I J R) 4561 (Int32.ofNat (a + i)) (Int32.ofNat (v)) = some (if isNm (nd i) v then 1 else 0) := by
  obtain ⟨v1, v2, -⟩ := NV_v hn
  unfold f_X12_isNumber f_X12_isNumber_j23 f_X12_isNumber_j24 isNm
  rw [mk_0 hA hi hR]
  by_cases q : (nd i).1 = 0
  · rw [if_pos q, mk_1 hA hi hR, v1]
    by_cases q2 : vN (nd i) = v
    · rw [if_pos (show (Int32.ofNat (vN (nd i))) = (Int32.ofNat (v)) by rw [q2]), if_pos ⟨q, q2⟩]
      rfl
    · rw [if_neg (show ¬ (Int32.ofNat (vN (nd i))) = (Int32.ofNat (v)) from i32_ne (by omega) hv q2), if_neg (fun y => q2 y.2)]
      rfl
  · rw [if_neg q, if_neg (fun y => q y.1)]
    rfl
/-- the tree at work -/
def WkM (I : Nat → Nat → Int32) (T : Tt) : Prop := MT I 13540 T.1 T.2.1 T.2.2 ∧ I 4561 64 = (Int32.ofNat (T.1))
/-- what a rule leaves, in the reference -/
def RuQ (I : Nat → Nat → Int32) (J : Nat → Nat → Int64) (R : Nat → Nat → Option Nat) (o : Option (Nat × Tt)) (r : Int32 × xM) : Prop := match o with
  | none => r = (0, mg 4625 I J R)
  | some (k, T') => ∃ I', r = ((Int32.ofNat (k)), mg 4625 I' J R) ∧ FrK Sw2 I I' ∧ WkM I' T'
theorem M_isProduct {q : Nat} (hR : RA R) (hB : MTb I b) (hO : TbOK b) (hA : WkM I T) (hT : TtO b T) (hq : q < T.1) (hn : T.1 ≤ 80) : f_X12_isProduct (mg 4625 I J R) 4561 (Int32.ofNat (13540 + q)) = some (if mz b (T.2.1 q) = 2 ∧ (T.2.1 (q + 1)).1 = 0 then 1 else 0) := by
  have np := hT.2 q hq
  have mb := mz_b hO np
  unfold f_X12_isProduct f_X12_isProduct_j24 f_X12_isProduct_j25
  rw [if_pos ok_4561, M_mi hR hA.1 hq np hB hO]
  by_cases q1 : mz b (T.2.1 q) = 2
  · have h2 : aro T.2.1 q = 2 := (mz_two hO np (by omega)).2
    obtain ⟨-, a1, -⟩ := two_kids hT hq h2
    rw [if_pos (show mi (mz b (T.2.1 q)) = (2 : Int32) from (mi_eq (k := 2) (by omega) (by omega)).mpr q1), show (Int32.ofNat (13540 + q)) + (1 : Int32) = (Int32.ofNat (13540 + (q + 1))) from n_add (13540 + q) 1, mk_0 hA.1 a1 hR]
    by_cases q2 : (T.2.1 (q + 1)).1 = 0
    · rw [if_pos q2, if_pos ⟨q1, q2⟩]
      rfl
    · rw [if_neg q2, if_neg (fun y => q2 y.2)]
      rfl
  · rw [if_neg (show ¬ mi (mz b (T.2.1 q)) = (2 : Int32) from fun y => q1 ((mi_eq (k := 2) (by omega) (by omega)).mp y)), if_neg (fun y => q1 y.1)]
    rfl
theorem M_gathered (hR : RA R) (hB : MTb I b) (hO : TbOK b) (hA : WkM I T) (hT : TtO b T) (hp : p < T.1) (hn : T.1 ≤ 80) (h2 : aro T.2.1 p = 2) : f_X12_gathered (mg 4625 I J R) 4561 (Int32.ofNat (13540 + (p + 1))) (Int32.ofNat (13540 + kid T.2.2 p 1)) = some (if alk b T (p + 1) (kid T.2.2 p 1) then (Int32.ofNat (vN (T.2.1 (p + 1 + 1)) + vN (T.2.1 (kid T.2.2 p 1 + 1)))) else -1) := by
  obtain ⟨e0, a1, b1, c1, c2, c3, c4, c5⟩ := two_kids hT hp h2
  generalize kid T.2.2 p 1 = c at *
  unfold f_X12_gathered f_X12_gathered_j29 f_X12_gathered_j61
  rw [if_pos ok_4561, M_isProduct hR hB hO hA hT a1 hn, Option.bind_some]
  by_cases q1 : mz b (T.2.1 (p + 1)) = 2 ∧ (T.2.1 (p + 1 + 1)).1 = 0
  rotate_left
  · rw [if_neg q1, if_pos rfl, if_neg (fun y => q1 ⟨y.1, y.2.2.1⟩)]
  rw [if_pos q1, if_neg (show ¬ (1 : Int32) = 0 by decide), if_pos ok_4561, M_isProduct hR hB hO hA hT b1 hn, Option.bind_some]
  by_cases q2 : mz b (T.2.1 c) = 2 ∧ (T.2.1 (c + 1)).1 = 0
  rotate_left
  · rw [if_neg q2, if_pos rfl, if_neg (fun y => q2 ⟨y.2.1, y.2.2.2.1⟩)]
  obtain ⟨-, d1, -, -, x2⟩ := alk_kids hT hO a1 q1.1 q1.2
  obtain ⟨-, d2, -, -, x4⟩ := alk_kids hT hO b1 q2.1 q2.2
  obtain ⟨v1, v2, -⟩ := NV_v (hT.2 _ d1)
  obtain ⟨w1, w2, -⟩ := NV_v (hT.2 _ d2)
  rw [if_pos q2, if_neg (show ¬ (1 : Int32) = 0 by decide), if_pos ok_4561, show (Int32.ofNat (13540 + (p + 1))) + (2 : Int32) = (Int32.ofNat (13540 + (p + 1 + 2))) from n_add (13540 + (p + 1)) 2, show (Int32.ofNat (13540 + c)) + (2 : Int32) = (Int32.ofNat (13540 + (c + 2))) from n_add (13540 + c) 2, M_areSame hR hA.1 hA.1 x2 x4, Option.bind_some]
  by_cases q3 : smP T (p + 1 + 2) (c + 2)
  rotate_left
  · rw [if_neg q3, if_pos rfl, if_neg (fun y => q3 y.2.2.2.2.1)]
  rw [if_pos q3, if_neg (show ¬ (1 : Int32) = 0 by decide), show (Int32.ofNat (13540 + (p + 1))) + (1 : Int32) = (Int32.ofNat (13540 + (p + 1 + 1))) from n_add (13540 + (p + 1)) 1, mk_1 hA.1 d1 hR, show (Int32.ofNat (13540 + c)) + (1 : Int32) = (Int32.ofNat (13540 + (c + 1))) from n_add (13540 + c) 1, mk_1 hA.1 d2 hR, v1, w1, n_add, q_let]
  by_cases q4 : vN (T.2.1 (p + 1 + 1)) + vN (T.2.1 (c + 1)) ≤ 999999999
  · rw [if_neg (show ¬ (999999999 : Int32) < (Int32.ofNat (vN (T.2.1 (p + 1 + 1)) + vN (T.2.1 (c + 1)))) from fun y => absurd ((i32_lt (k := 999999999) (by omega) (by omega)).mp y) (by omega)), if_pos ⟨q1.1, q2.1, q1.2, q2.2, q3, q4⟩]
  · rw [if_pos (show (999999999 : Int32) < (Int32.ofNat (vN (T.2.1 (p + 1 + 1)) + vN (T.2.1 (c + 1)))) from (i32_lt (k := 999999999) (by omega) (by omega)).mpr (by omega)), if_neg (fun y => q4 y.2.2.2.2.2)]
/-- a node becomes a number, or one beneath it -/
theorem M_num {v : Nat} (hR : RA R) (hA : WkM I T) (hp : p < T.1) (hn : T.1 ≤ 80) : ∃ I', f_X12_becomes (mg 4625 I J R) 4561 (Int32.ofNat (13540 + p)) (Int32.ofNat (v)) = some (mg 4625 I' J R) ∧ FrK Sw2 I I' ∧ WkM I' (tNum T p v) := by
  obtain ⟨_, e, I', rfl, f1, w1, m1⟩ := M_becomes (J := J) (v := (Int32.ofNat (v))) hR hA.1 hp (by omega) hA.2
  exact ⟨I', e, f1, m1, w1⟩
theorem M_inn {q : Nat} (hR : RA R) (hA : WkM I T) (hp : p < T.1) (hn : T.1 ≤ 80) (h1 : p < q) (h2 : q < p + T.2.2 p) : ∃ I', f_X12_becomesInner (mg 4625 I J R) 4561 (Int32.ofNat (13540 + p)) (Int32.ofNat (13540 + q)) = some (mg 4625 I' J R) ∧ FrK Sw2 I I' ∧ WkM I' (tIn T p q) := by
  obtain ⟨_, e, I', rfl, f1, w1, m1⟩ := M_becomesInner (J := J) hR hA.1 hp (by omega) hA.2 h1 h2
  exact ⟨I', e, f1, m1, w1⟩
end MRU
