/-! the reference's run: leaves, calls begin -/
def SimP (J : Nat → Nat → Int64) (R : Nat → Nat → Option Nat) (r : Rs) (c h t d w u : Nat) (I : Nat → Nat → Int32) : Prop := match r with
  | .inl e => ∃ k I', u + k ≤ 1000000 ∧ RQ k (4561, 0, mg 4625 I J R) (4561, (Int32.ofNat (e)), mg 4625 I' J R) ∧ FrK (Fx h t w) I I'
  | .inr (v, c') => ∃ k I', k + 24 * c + 10 ≤ 24 * c' ∧ RQ k (4561, 0, mg 4625 I J R) (4561, 0, mg 4625 I' J R) ∧ FrK (Fx h t w) I I' ∧ RSt I' (h + 1) t c' d w ∧ MV I' (60 + h) v
section RL
variable {I : Nat → Nat → Int32} {J : Nat → Nat → Int64} {R : Nat → Nat → Option Nat} {β : Type} {h t c d w u a nn i m l : Nat} {nd : Nat → Nd} {sp : Nat → Nat} {b : GB} {n : GN} {f : GF} {s : GS} {z stage : Int32} {F : Nat} {rec : Rc} {ch : Ch} {vs : List GV}
theorem M_leaf (hR : RA R) (hE : MEnv I b n f s) (hA : MT I a nn nd sp) (hT : TrO b nn nd sp) (hi : i < nn) (hlf : (nd i).1 = 0 ∨ (nd i).1 = 1) (hS : RSt I h (t + 1) c d w) (hK : RTk I t (Int32.ofNat (a + i)) stage z) (hC : MCh I w ch z) (h1 : h ≤ c) (h2 : w ≤ c) (h3 : c ≤ 200) (ht : t < 800) (hu : u + 1 ≤ 1000000) : SimP J R (evG rec b n f s (nd i) ch vs c d) c h t d w u I := by
  have nv := hT.2 i hi
  obtain ⟨x1, x2, x3, x4, x5, x6, x7⟩ := NV_v nv
  have turn : ∀ p : Int32 × xM, f_X12_leaf (mg 4625 I J R) 4561 (Int32.ofNat (a + i)) z = some p → f_X12_run_s33 (4561, 0, mg 4625 I J R) = some (.inr (.inr (4561, p.1, p.2))) := fun p hp => by
    rw [run_top hR hA hi nv hS hK ht, if_pos hlf, gr_4561_50 hR, ga_4602 ht, hK.2.2, hp, Option.bind_some]
  unfold evG
  unfold f_X12_leaf f_X12_leaf_j84 at turn
  rw [if_pos ok_4561] at turn
  by_cases q : 200 ≤ c
  · rw [if_pos q]
    rw [M_count9 hS (by omega), Option.bind_some, if_neg (show ¬ (9 : Int32) ≤ 0 by decide)] at turn
    exact ⟨1, I, by omega, RQ_1 (turn _ rfl), FrK_rfl⟩
  rw [if_neg q]
  obtain ⟨_, e1, I1, rfl, f1, S1, o1⟩ := M_count (J := J) (R := R) hS (show c < 200 by omega)
  rw [e1, Option.bind_some, if_pos (show (0 : Int32) ≤ 0 by decide), gi_4561, S1.2.1, show (Int32.ofNat (t + 1)) - (1 : Int32) = (Int32.ofNat (t)) from n_sub (b := 1) (by omega), gs_4561] at turn
  have f2 : FrK (Fx h t w) I (up I1 4561 56 (Int32.ofNat (t))) := fun x j y => by
    have y2 := y
    unfold Fx at y
    rw [up_n (by omega)]
    exact f1 x j (by unfold Fx; omega)
  have S2 : RSt (up I1 4561 56 (Int32.ofNat (t))) h t (c + 1) d w := by
    obtain ⟨z1, z2, z3, z4, z5⟩ := S1
    exact ⟨by rw [up_n (by omega)]; exact z1, up_s, by rw [up_n (by omega)]; exact z3, by rw [up_n (by omega)]; exact z4, by rw [up_n (by omega)]; exact z5⟩
  have A2 := MT_m hA f2
  have E2 := MEnv_keep hE f2
  have C2 := MCh_keep (by omega) (by omega) ch w z hC (Nat.le_refl _) f2
  generalize up I1 4561 56 (Int32.ofNat (t)) = I2 at *
  rw [mk_0 A2 hi hR] at turn
  -- the value is put on top
  have fin : ∀ (v : GV) (I3 : Nat → Nat → Int32), R3 I2 I3 → Kv (I2 4564) (I3 4564) (60 + h) → Vv (I3 4564) (60 + h) v.1 v.2 → FrK (Fx h t w) I (up I3 4561 61 (Int32.ofNat (h + 1))) ∧ RSt (up I3 4561 61 (Int32.ofNat (h + 1))) (h + 1) t (c + 1) d w ∧ MV (up I3 4561 61 (Int32.ofNat (h + 1))) (60 + h) v ∧ I3 4561 61 = (Int32.ofNat (h)) := fun v I3 r3 kv vv => by
    have f3 : FrK (Fx h t w) I2 I3 := Fx_R3 (S := fun x => x = 60 + h) r3 (Kv_s kv rfl) (fun y hy => by omega)
    have k3 : ∀ j, I3 4561 j = I2 4561 j := fun j => by rw [r3.1 4561 (by omega)]
    obtain ⟨z1, z2, z3, z4, z5⟩ := S2
    refine ⟨fun x j y => ?_, ⟨up_s, ?_, ?_, ?_, ?_⟩, MV_keep vv (fun k _ _ => up_n (by omega)), by rw [k3]; exact z1⟩
    · have y2 := y
      unfold Fx at y
      rw [up_n (by omega), f3 x j y2, f2 x j y2]
    · rw [up_n (by omega), k3]; exact z2
    · rw [up_n (by omega), k3]; exact z3
    · rw [up_n (by omega), k3]; exact z4
    · rw [up_n (by omega), k3]; exact z5
  rcases hlf with q0 | q0
  · rw [if_pos q0]
    obtain ⟨_, e3, I3, rfl, r3, kv, vv⟩ := M_setInt (J := J) (I := I2) (i := 60 + h) (m := vN (nd i)) hR (by omega) (by omega)
    rw [if_pos q0, gi_4561, S2.1, mk_1 A2 hi hR, if_pos ok_4561, x1, show (60 : Int32) + (Int32.ofNat (h)) = (Int32.ofNat (60 + h)) from n_add 60 h, e3, Option.bind_some] at turn
    obtain ⟨g1, g2, g3, g4⟩ := fin ((vN (nd i) : Int), 1) I3 r3 kv vv
    rw [gi_4561, g4, show (Int32.ofNat (h)) + (1 : Int32) = (Int32.ofNat (h + 1)) from n_add h 1, gs_4561] at turn
    exact ⟨1, _, by omega, RQ_1 (turn _ rfl), g1, g2, g3⟩
  · have q9 : ¬ (nd i).1 = 0 := by rw [q0]; decide
    rw [if_neg q9, if_pos q0]
    have ll : 97 ≤ vN (nd i) ∧ vN (nd i) < 123 := by
      rcases nv with y | ⟨y, ⟨l, hl, e⟩, _⟩ | y | y
      · exact absurd y.1 q9
      · have : vN (nd i) = 97 + l := by
          unfold vN
          rw [e, i32_nat (by omega)]
        omega
      · rw [y.1] at q0; exact absurd q0 (by decide)
      · rw [y.1] at q0; exact absurd q0 (by decide)
    obtain ⟨r, e3, hr⟩ := M_look (J := J) hR E2.2.1 ll (by omega) C2
    rw [if_neg q9, mk_1 A2 hi hR, if_pos ok_4561, x1, e3, Option.bind_some] at turn
    cases el : lkN n ch (vN (nd i)) with
    | none =>
      rw [el] at hr
      have hr : r = -1 := hr
      rw [hr, if_pos rfl] at turn
      exact ⟨1, I2, by omega, RQ_1 (turn _ rfl), f2⟩
    | some v =>
      rw [el] at hr
      obtain ⟨j, ej, hj, hv⟩ := hr
      obtain ⟨_, e4, I3, rfl, r3, -, -, kv, vv⟩ := M_copy (J := J) (I := I2) (a := 60 + h) (b := j) hR (by omega) (by omega) (by omega) hv
      rw [ej, if_neg (i32_m1 (by omega)), gi_4561, S2.1, if_pos ok_4561, show (60 : Int32) + (Int32.ofNat (h)) = (Int32.ofNat (60 + h)) from n_add 60 h, e4, Option.bind_some] at turn
      obtain ⟨g1, g2, g3, g4⟩ := fin v I3 r3 kv vv
      rw [gi_4561, g4, show (Int32.ofNat (h)) + (1 : Int32) = (Int32.ofNat (h + 1)) from n_add h 1, gs_4561] at turn
      exact ⟨1, _, by omega, RQ_1 (turn _ rfl), g1, g2, g3⟩
/-- a function is called -/
theorem M_callFunction (hR : RA R) (hE : MEnv I b n f s) (hA : MT I a nn nd sp) (hi : i < nn) (hl : l < 26) (hm : vs.length = m) (hm1 : 1 ≤ m) (hm4 : m ≤ 4) (hm2 : aro nd i = m) (hS : RSt I (h + m) (t + 1) c d w) (hK : RTk I t (Int32.ofNat (a + i)) (Int32.ofNat (m)) z) (hh : h + m ≤ 240) (ht : t < 480) (hw : w < 480) (hd : d ≤ 12) (hv : ∀ j v, vs.reverse[j]? = some v → MV I (60 + h + j) v) : QK (f_X12_callFunction (mg 4625 I J R) 4561 (Int32.ofNat (t)) (Int32.ofNat (a + i)) (Int32.ofNat (l))) (fun r => (prmN f l ≠ m ∧ r = (5, mg 4625 I J R)) ∨ (prmN f l = m ∧ 12 ≤ d ∧ r = (8, mg 4625 I J R)) ∨ (prmN f l = m ∧ d < 12 ∧ ∃ I', r = (0, mg 4625 I' J R) ∧ FrK (Fx h t w) I I' ∧ RSt I' h (t + 1) c (d + 1) (w + 1) ∧ RTk I' t (Int32.ofNat (a + i)) (Int32.ofNat (m + 1)) z ∧ RTo I' t (Int32.ofNat (w)) (Int32.ofNat (l)) (Int32.ofNat (0)) (-1) (Int32.ofNat (0)) ∧ MCh I' (w + 1) [(0, vs.reverse)] (Int32.ofNat (w)))) := by
  obtain ⟨⟨p, p3, ep⟩, -, -, -⟩ := fn_c (hE.2.2.2.2.2.1 l hl) hE.2.2.2.2.2.2.2
  have epn : prmN f l = p := by
    unfold prmN
    rw [ep, i32_nat (by omega)]
  have hp : I 4571 l = (Int32.ofNat (p)) := by
    rw [← ep]
    exact (hE.2.2.1 l hl).1
  obtain ⟨s1, s2, s3, s4, s5⟩ := hS
  obtain ⟨k1, k2, k3⟩ := hK
  unfold f_X12_callFunction f_X12_callFunction_j24
  rw [mk_3 hA hi hR, hm2, gr_4561_11 hR, ga_4571 hl, hp, epn]
  by_cases q : p = m
  rotate_left
  · rw [if_neg (show ¬ (Int32.ofNat (p)) = (Int32.ofNat (m)) from i32_ne (by omega) (by omega) q)]
    exact q_ok (Or.inl ⟨q, rfl⟩)
  rw [if_pos (show (Int32.ofNat (p)) = (Int32.ofNat (m)) by rw [q]), if_neg (show ¬ (Int32.ofNat (m)) = (0 : Int32) from i32_ne (b := 0) (by omega) (by omega) (by omega)), gi_4561, s4]
  by_cases q2 : d < 12
  rotate_left
  · rw [if_pos (show (Int32.ofNat (d)) = (12 : Int32) by rw [show d = 12 by omega]; rfl)]
    exact q_ok (Or.inr (Or.inl ⟨q, by omega, rfl⟩))
  rw [if_neg (show ¬ (Int32.ofNat (d)) = (12 : Int32) from i32_ne (b := 12) (by omega) (by omega) (by omega)), gi_4561, s4, show (Int32.ofNat (d)) + (1 : Int32) = (Int32.ofNat (d + 1)) from n_add d 1, gs_4561]
  have e1 : up I 4561 63 (Int32.ofNat (d + 1)) 4561 60 = (Int32.ofNat (w)) := by rw [up_n (by omega)]; exact s5
  rw [gr_4561_51 hR, gi_4561, e1, gw_4603 (by omega), gr_4561_58 hR, gi_4561, up_n (by omega), e1, gw_4609 (by omega), gr_4561_57 hR, gi_4561, up_n (by omega), up_n (by omega), e1, gw_4608 (by omega), gr_4561_59 hR, gi_4561, up_n (by omega), up_n (by omega), up_n (by omega), e1, gw_4610 (by omega), gi_4561, up_n (by omega), up_n (by omega), up_n (by omega), up_n (by omega), up_n (by omega), s1, n_sub (by omega), Nat.add_sub_cancel, gs_4561, q_let]
  have c1 : ∀ x k, x ≠ 4561 → x ≠ 4603 → ¬ (4608 ≤ x ∧ x ≤ 4610) → up (up (up (up (up (up I 4561 63 (Int32.ofNat (d + 1))) 4603 t (Int32.ofNat (w))) 4609 w (Int32.ofNat (m))) 4608 w 0) 4610 w (-1)) 4561 61 (Int32.ofNat (h)) x k = I x k := fun x k g1 g2 g3 => by
    rw [up_n (by omega), up_n (by omega), up_n (by omega), up_n (by omega), up_n (by omega), up_n (by omega)]
  have f1 : FrK (Fx h t w) I (up (up (up (up (up (up I 4561 63 (Int32.ofNat (d + 1))) 4603 t (Int32.ofNat (w))) 4609 w (Int32.ofNat (m))) 4608 w 0) 4610 w (-1)) 4561 61 (Int32.ofNat (h))) := fun x k y => by
    unfold Fx at y
    rw [up_n (by omega), up_n (by omega), up_n (by omega), up_n (by omega), up_n (by omega), up_n (by omega)]
  have S1 : RSt (up (up (up (up (up (up I 4561 63 (Int32.ofNat (d + 1))) 4603 t (Int32.ofNat (w))) 4609 w (Int32.ofNat (m))) 4608 w 0) 4610 w (-1)) 4561 61 (Int32.ofNat (h))) h (t + 1) c (d + 1) w := by
    refine ⟨up_s, ?_, ?_, ?_, ?_⟩
    · rw [up_n (by omega), up_n (by omega), up_n (by omega), up_n (by omega), up_n (by omega), up_n (by omega)]; exact s2
    · rw [up_n (by omega), up_n (by omega), up_n (by omega), up_n (by omega), up_n (by omega), up_n (by omega)]; exact s3
    · rw [up_n (by omega), up_n (by omega), up_n (by omega), up_n (by omega), up_n (by omega), up_s]
    · rw [up_n (by omega), up_n (by omega), up_n (by omega), up_n (by omega), up_n (by omega)]; exact e1
  have w1 : ∀ k1 : Nat, k1 = t → up (up (up (up (up (up I 4561 63 (Int32.ofNat (d + 1))) 4603 t (Int32.ofNat (w))) 4609 w (Int32.ofNat (m))) 4608 w 0) 4610 w (-1)) 4561 61 (Int32.ofNat (h)) 4603 k1 = (Int32.ofNat (w)) := fun k1 hk => by
    rw [hk, up_n (by omega), up_n (by omega), up_n (by omega), up_n (by omega), up_s]
  have w2 : up (up (up (up (up (up I 4561 63 (Int32.ofNat (d + 1))) 4603 t (Int32.ofNat (w))) 4609 w (Int32.ofNat (m))) 4608 w 0) 4610 w (-1)) 4561 61 (Int32.ofNat (h)) 4609 w = (Int32.ofNat (m)) := by
    rw [up_n (by omega), up_n (by omega), up_n (by omega), up_s]
  generalize up (up (up (up (up (up I 4561 63 (Int32.ofNat (d + 1))) 4603 t (Int32.ofNat (w))) 4609 w (Int32.ofNat (m))) 4608 w 0) 4610 w (-1)) 4561 61 (Int32.ofNat (h)) = I1 at *
  have w1 := w1 t rfl
  -- the arguments are copied
  have key : QK (xloop f_X12_callFunction_s103 xF (4561, (Int32.ofNat (t)), (Int32.ofNat (l)), (Int32.ofNat (m)), 0, mg 4625 I1 J R)) (fun r => ∃ I2, r = .inr (4561, (Int32.ofNat (t)), (Int32.ofNat (l)), (Int32.ofNat (m)), mg 4625 I2 J R) ∧ R3 I1 I2 ∧ Kvs (fun x => 1000 + 3 * w ≤ x ∧ x < 1000 + 3 * w + 3) (I1 4564) (I2 4564) ∧ ∀ j v, j < m → vs.reverse[j]? = some v → MV I2 (1000 + 3 * w + j) v) := by
    refine q_for m (fun k x => ∃ I2, x = (4561, (Int32.ofNat (t)), (Int32.ofNat (l)), (Int32.ofNat (m)), (Int32.ofNat (k)), mg 4625 I2 J R) ∧ R3 I1 I2 ∧ Kvs (fun x => 1000 + 3 * w ≤ x ∧ x < 1000 + 3 * w + 3) (I1 4564) (I2 4564) ∧ ∀ j v, j < k → vs.reverse[j]? = some v → MV I2 (1000 + 3 * w + j) v) ?_ ?_ (i := 0) ⟨I1, rfl, R3_rfl, Kvs_rfl, fun j v hj => by omega⟩ (by omega) (by unfold xF; omega)
    · rintro k x hk ⟨I2, rfl, r3, kv, hvs⟩
      have k2 : ∀ j, I2 4561 j = I1 4561 j := fun j => by rw [r3.1 4561 (by omega)]
      have el : vs.reverse[k]? = some (vs.reverse[k]'(by rw [List.length_reverse, hm]; exact hk)) := List.getElem?_eq_getElem _
      have hvk : MV I2 (60 + h + k) (vs.reverse[k]'(by rw [List.length_reverse, hm]; exact hk)) := by
        refine MV_keep (hv k _ el) (fun y g1 g2 => ?_)
        rw [kv y (by omega), c1 4564 y (by decide) (by decide) (by decide)]
      generalize vs.reverse[k]'(by rw [List.length_reverse, hm]; exact hk) = vk at *
      unfold f_X12_callFunction_s103
      dsimp only
      rw [q_let, q_let, q_let, q_let, q_let, q_let, if_neg (show ¬ (Int32.ofNat (m)) ≤ (Int32.ofNat (k)) from fun y => absurd ((i32_le (by omega) (by omega)).mp y) (by omega)), gi_4561, k2, S1.2.2.2.2, gi_4561, k2, S1.1, if_pos ok_4561, show (3 : Int32) * (Int32.ofNat (w)) = (Int32.ofNat (3 * w)) from n_mul 3 w, show (1000 : Int32) + (Int32.ofNat (3 * w)) = (Int32.ofNat (1000 + 3 * w)) from n_add 1000 (3 * w), n_add, show (60 : Int32) + (Int32.ofNat (h)) = (Int32.ofNat (60 + h)) from n_add 60 h, n_add]
      refine q_bind (M_copy (a := 1000 + 3 * w + k) (b := 60 + h + k) hR (by omega) (by omega) (by omega) hvk) ?_
      rintro _ ⟨I3, rfl, r3', -, -, kv', vv⟩
      rw [q_let, show (Int32.ofNat (k)) + (1 : Int32) = (Int32.ofNat (k + 1)) from n_add k 1]
      refine q_go ⟨I3, rfl, R3_tr r3 r3', Kvs_tr kv (Kv_s kv' (by omega)), fun j v hj hjv => ?_⟩
      by_cases qj : j = k
      · rw [qj] at hjv
        rw [el] at hjv
        rw [qj, ← Option.some.inj hjv]
        exact vv
      · exact MV_keep (hvs j v (by omega) hjv) (fun y g1 g2 => kv' y (by omega))
    · rintro x ⟨I2, rfl, r3, kv, hvs⟩
      unfold f_X12_callFunction_s103
      dsimp only
      rw [q_let, q_let, q_let, q_let, q_let, q_let, if_pos ((i32_le (by omega) (by omega)).mpr (Nat.le_refl _))]
      exact q_ex ⟨I2, rfl, r3, kv, hvs⟩
  refine q_bind key ?_
  rintro _ ⟨I2, rfl, r3, kv, hvs⟩
  simp only [Sum.elim_inr]
  have f2 : FrK (Fx h t w) I1 I2 := Fx_R3 r3 kv (fun y hy => by omega)
  have c2 : ∀ x k, x ≠ 4562 → x ≠ 4563 → x ≠ 4564 → I2 x k = I1 x k := fun x k g1 g2 g3 => by rw [r3.1 x (by omega)]
  unfold f_X12_callFunction_j143
  rw [gi_4561, c2 4561 60 (by decide) (by decide) (by decide), S1.2.2.2.2, gs_4561, show (Int32.ofNat (w)) + (1 : Int32) = (Int32.ofNat (w + 1)) from n_add w 1, gr_4561_52 hR, gw_4604 (by omega), gr_4561_53 hR, gw_4605 (by omega), gr_4561_54 hR, gw_4606 (by omega), gr_4561_55 hR, gw_4607 (by omega), gr_4561_49 hR, gw_4601 (by omega), show (Int32.ofNat (m)) + (1 : Int32) = (Int32.ofNat (m + 1)) from n_add m 1]
  obtain ⟨z1, z2, z3, z4, z5⟩ := S1
  refine q_ok (Or.inr (Or.inr ⟨q, q2, _, rfl, fun x k y => ?_, ⟨?_, ?_, ?_, ?_, ?_⟩, ⟨?_, up_s, ?_⟩, ⟨?_, ?_, ?_, ?_, ?_⟩, w, by omega, rfl, Or.inl ⟨rfl, ?_, ?_, ?_, rfl, fun j v hj => ?_⟩⟩))
  · have y2 := y
    unfold Fx at y
    rw [up_n (by omega), up_n (by omega), up_n (by omega), up_n (by omega), up_n (by omega), up_n (by omega), f2 x k y2, f1 x k y2]
  · rw [up_n (by omega), up_n (by omega), up_n (by omega), up_n (by omega), up_n (by omega), up_n (by omega), c2 _ _ (by decide) (by decide) (by decide)]; exact z1
  · rw [up_n (by omega), up_n (by omega), up_n (by omega), up_n (by omega), up_n (by omega), up_n (by omega), c2 _ _ (by decide) (by decide) (by decide)]; exact z2
  · rw [up_n (by omega), up_n (by omega), up_n (by omega), up_n (by omega), up_n (by omega), up_n (by omega), c2 _ _ (by decide) (by decide) (by decide)]; exact z3
  · rw [up_n (by omega), up_n (by omega), up_n (by omega), up_n (by omega), up_n (by omega), up_n (by omega), c2 _ _ (by decide) (by decide) (by decide)]; exact z4
  · rw [up_n (by omega), up_n (by omega), up_n (by omega), up_n (by omega), up_n (by omega), up_s]
  · rw [up_n (by omega), up_n (by omega), up_n (by omega), up_n (by omega), up_n (by omega), up_n (by omega), c2 _ _ (by decide) (by decide) (by decide), c1 _ _ (by decide) (by decide) (by decide)]; exact k1
  · rw [up_n (by omega), up_n (by omega), up_n (by omega), up_n (by omega), up_n (by omega), up_n (by omega), c2 _ _ (by decide) (by decide) (by decide), c1 _ _ (by decide) (by decide) (by decide)]; exact k3
  · rw [up_n (by omega), up_n (by omega), up_n (by omega), up_n (by omega), up_n (by omega), up_n (by omega), c2 _ _ (by decide) (by decide) (by decide)]; exact w1
  · rw [up_n (by omega), up_n (by omega), up_n (by omega), up_n (by omega), up_s]
  · rw [up_n (by omega), up_n (by omega), up_n (by omega), up_s]; rfl
  · rw [up_n (by omega), up_n (by omega), up_s]
  · rw [up_n (by omega), up_s]; rfl
  · show 1 ≤ vs.reverse.length
    rw [List.length_reverse, hm]
    exact hm1
  · show vs.reverse.length ≤ 3
    rw [List.length_reverse, hm]
    omega
  · rw [up_n (by omega), up_n (by omega), up_n (by omega), up_n (by omega), up_n (by omega), up_n (by omega), c2 _ _ (by decide) (by decide) (by decide), w2]
    show (Int32.ofNat (m)) = (Int32.ofNat (vs.reverse.length))
    rw [List.length_reverse, hm]
  · have hj : vs.reverse[j]? = some v := hj
    have jl := (List.getElem?_eq_some_iff.mp hj).1
    rw [List.length_reverse, hm] at jl
    exact MV_keep (hvs j v jl hj) (fun y g1 g2 => by rw [up_n (by omega), up_n (by omega), up_n (by omega), up_n (by omega), up_n (by omega), up_n (by omega)])
end RL
