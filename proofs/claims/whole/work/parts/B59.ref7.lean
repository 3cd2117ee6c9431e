/-! the reference's run: a sum begins, goes on -/
section RSU
variable {I : Nat → Nat → Int32} {J : Nat → Nat → Int64} {R : Nat → Nat → Option Nat} {β : Type} {h t c d w u a nn i : Nat} {nd : Nat → Nd} {sp : Nat → Nat} {b : GB} {z : Int32}
theorem sml_1 {z : Int} (h0 : 0 ≤ z) : (Int32.ofInt (sml z) + 1 ≤ (30 : Int32) ↔ z < 30) ∧ (z < 30 → Int32.ofInt (sml z) + 1 = (Int32.ofNat (z.toNat + 1))) := by
  obtain ⟨c1, c2, c3, c4, c5⟩ := sml_cmp (z := z) (k := 0) (by omega)
  obtain ⟨d1, d2, d3, d4, -⟩ := sml_cmp (z := z) (k := 30) (by omega)
  have e1 : Int32.ofInt (sml z) + 1 = Int32.ofInt (sml z + 1) := by
    rw [show (1 : Int32) = Int32.ofInt 1 from rfl, ← Int32.ofInt_add]
  refine ⟨?_, fun h => ?_⟩
  · rw [e1, show (30 : Int32) = Int32.ofInt 30 by decide, ofInt_le (by omega)]
    omega
  · rw [c5 (by omega)]
    obtain ⟨m, rfl⟩ := Int.eq_ofNat_of_zero_le h0
    show (Int32.ofNat (m)) + 1 = (Int32.ofNat ((m : Int).toNat + 1))
    rw [Int.toNat_natCast]
    exact n_add m 1
/-- a sum's first number begins -/
theorem M_sumGo {lo : GV} {s0 : Int32} (hR : RA R) (hA : MT I a nn nd sp) (hi' : i < nn) (h4 : aro nd i = 4) (hS : RSt I (h + 2) (t + 1) c d w) (hK : RTk I t (Int32.ofNat (a + i)) (Int32.ofNat (2)) z) (ht : t + 1 < 480) (hh : h + 2 ≤ 240) (hw : w < 480) (V0 : MV I (60 + h) lo) (g2 : s0 ≤ (30 : Int32)) : QK (f_X12_beginSum_j105 (mg 4625 I J R) 4561 (Int32.ofNat (t)) (Int32.ofNat (a + i)) (Int32.ofNat (60 + h)) s0) (fun r => ∃ I', r = (0, mg 4625 I' J R) ∧ FrK (Fx h t w) I I' ∧ RSt I' (h + 1) (t + 2) c d (w + 1) ∧ RTk I' t (Int32.ofNat (a + i)) (Int32.ofNat (3)) z ∧ I' 4603 t = (Int32.ofNat (w)) ∧ I' 4607 t = s0 ∧ RTk I' (t + 1) (Int32.ofNat (a + kid sp i 3)) 0 (Int32.ofNat (w)) ∧ MV I' (1000 + 3 * w) lo ∧ MV I' (60 + h) (0, 1) ∧ I' 4608 w = (nd (i + 1)).2.1 ∧ I' 4609 w = 0 ∧ I' 4610 w = z) := by
  have hb := hA.1.1
  have i1 : i + 1 < nn := (kid_in hA.2.1 hi' (show 0 < aro nd i by omega)).2.1
  unfold f_X12_beginSum_j105
  have w3 : I 4561 60 = (Int32.ofNat (w)) := hS.2.2.2.2
  have z3 : I 4602 t = z := hK.2.2
  have n3 : I 4566 (a + i + 1) = (nd (i + 1)).2.1 := by
    rw [Nat.add_assoc]
    exact (hA.1.2 (i + 1) i1).2.1
  rw [if_pos g2, gr_4561_51 hR, gi_4561, w3, gw_4603 (by omega), gr_4561_57 hR, gi_4561, up_n (by omega), w3, gr_4561_5 hR, show (Int32.ofNat (a + i)) + (1 : Int32) = (Int32.ofNat (a + i + 1)) from n_add (a + i) 1, ga_4566 (by omega), up_n (by omega), n3, gw_4608 (by omega), gr_4561_58 hR, gi_4561, up_n (by omega), up_n (by omega), w3, gw_4609 (by omega), gr_4561_59 hR, gi_4561, up_n (by omega), up_n (by omega), up_n (by omega), w3, gr_4561_50 hR, ga_4602 (by omega), up_n (by omega), up_n (by omega), up_n (by omega), z3, gw_4610 (by omega), gi_4561, up_n (by omega), up_n (by omega), up_n (by omega), up_n (by omega), w3, show (3 : Int32) * (Int32.ofNat (w)) = (Int32.ofNat (3 * w)) from n_mul 3 w, show (1000 : Int32) + (Int32.ofNat (3 * w)) = (Int32.ofNat (1000 + 3 * w)) from n_add 1000 (3 * w), if_pos ok_4561]
  have f4 : FrK (Fx h t w) I (up (up (up (up I 4603 t (Int32.ofNat (w))) 4608 w (nd (i + 1)).2.1) 4609 w 0) 4610 w z) := fun x j y => by
    have y2 := y
    unfold Fx at y
    rw [up_n (by omega), up_n (by omega), up_n (by omega), up_n (by omega)]
  have V04 : MV (up (up (up (up I 4603 t (Int32.ofNat (w))) 4608 w (nd (i + 1)).2.1) 4609 w 0) 4610 w z) (60 + h) lo := MV_keep V0 (fun k _ _ => by rw [up_n (by omega), up_n (by omega), up_n (by omega), up_n (by omega)])
  have k4 : ∀ x j, x ≠ 4562 → x ≠ 4563 → x ≠ 4564 → x ≠ 4603 → ¬ (4608 ≤ x ∧ x ≤ 4610) → up (up (up (up I 4603 t (Int32.ofNat (w))) 4608 w (nd (i + 1)).2.1) 4609 w 0) 4610 w z x j = I x j := fun x j g1 g2 g3 g4 g5 => by
    rw [up_n (by omega), up_n (by omega), up_n (by omega), up_n (by omega)]
  have c3 : up (up (up (up I 4603 t (Int32.ofNat (w))) 4608 w (nd (i + 1)).2.1) 4609 w 0) 4610 w z 4603 t = (Int32.ofNat (w)) := by
    rw [up_n (by omega), up_n (by omega), up_n (by omega), up_s]
  have c8 : up (up (up (up I 4603 t (Int32.ofNat (w))) 4608 w (nd (i + 1)).2.1) 4609 w 0) 4610 w z 4608 w = (nd (i + 1)).2.1 := by
    rw [up_n (by omega), up_n (by omega), up_s]
  have c9 : up (up (up (up I 4603 t (Int32.ofNat (w))) 4608 w (nd (i + 1)).2.1) 4609 w 0) 4610 w z 4609 w = 0 := by
    rw [up_n (by omega), up_s]
  have c10 : up (up (up (up I 4603 t (Int32.ofNat (w))) 4608 w (nd (i + 1)).2.1) 4609 w 0) 4610 w z 4610 w = z := up_s
  generalize up (up (up (up I 4603 t (Int32.ofNat (w))) 4608 w (nd (i + 1)).2.1) 4609 w 0) 4610 w z = I4 at *
  refine q_bind (M_copy (a := 1000 + 3 * w) (b := 60 + h) hR (by omega) (by omega) (by omega) (MV_Vv V04)) ?_
  rintro _ ⟨I5, rfl, r5, -, -, kv5, vv5⟩
  have f5 : FrK (Fx h t w) I4 I5 := Fx_R3 (S := fun x => x = 1000 + 3 * w) r5 (Kv_s kv5 rfl) (fun y hy => by omega)
  have k5 : ∀ x j, x ≠ 4562 → x ≠ 4563 → x ≠ 4564 → I5 x j = I4 x j := fun x j g1 g2 g3 => by rw [r5.1 x (by omega)]
  obtain ⟨z1, z2, z3', z4, z5⟩ := hS
  have w5 : I5 4561 60 = (Int32.ofNat (w)) := by rw [k5 _ _ (by decide) (by decide) (by decide), k4 _ _ (by decide) (by decide) (by decide) (by decide) (by decide)]; exact z5
  have h5 : I5 4561 61 = (Int32.ofNat (h + 2)) := by rw [k5 _ _ (by decide) (by decide) (by decide), k4 _ _ (by decide) (by decide) (by decide) (by decide) (by decide)]; exact z1
  rw [gi_4561, w5, show (Int32.ofNat (w)) + (1 : Int32) = (Int32.ofNat (w + 1)) from n_add w 1, gs_4561, gi_4561, up_n (by omega), h5, show (Int32.ofNat (h + 2)) - (1 : Int32) = (Int32.ofNat (h + 1)) from n_sub (b := 1) (by omega), gs_4561, if_pos ok_4561]
  have S6 : RSt (up (up I5 4561 60 (Int32.ofNat (w + 1))) 4561 61 (Int32.ofNat (h + 1))) (h + 1) (t + 1) c d (w + 1) := by
    refine ⟨up_s, ?_, ?_, ?_, ?_⟩
    · rw [up_n (by omega), up_n (by omega), k5 _ _ (by decide) (by decide) (by decide), k4 _ _ (by decide) (by decide) (by decide) (by decide) (by decide)]; exact z2
    · rw [up_n (by omega), up_n (by omega), k5 _ _ (by decide) (by decide) (by decide), k4 _ _ (by decide) (by decide) (by decide) (by decide) (by decide)]; exact z3'
    · rw [up_n (by omega), up_n (by omega), k5 _ _ (by decide) (by decide) (by decide), k4 _ _ (by decide) (by decide) (by decide) (by decide) (by decide)]; exact z4
    · rw [up_n (by omega), up_s]
  have f6 : FrK (Fx h t w) I5 (up (up I5 4561 60 (Int32.ofNat (w + 1))) 4561 61 (Int32.ofNat (h + 1))) := fun x j y => by
    unfold Fx at y
    rw [up_n (by omega), up_n (by omega)]
  have k6 : ∀ x j, x ≠ 4561 → up (up I5 4561 60 (Int32.ofNat (w + 1))) 4561 61 (Int32.ofNat (h + 1)) x j = I5 x j := fun x j hx => by rw [up_n (by omega), up_n (by omega)]
  generalize up (up I5 4561 60 (Int32.ofNat (w + 1))) 4561 61 (Int32.ofNat (h + 1)) = I6 at *
  rw [M_top S6, if_pos ok_4561]
  refine q_bind (M_setInt (m := 0) hR (show 60 + h < 3700 by omega) (by omega)) ?_
  rintro _ ⟨I7, rfl, r7, kv7, vv7⟩
  have f7 : FrK (Fx h t w) I6 I7 := Fx_R3 (S := fun x => x = 60 + h) r7 (Kv_s kv7 rfl) (fun y hy => by omega)
  have k7 : ∀ x j, x ≠ 4562 → x ≠ 4563 → x ≠ 4564 → I7 x j = I6 x j := fun x j g1 g2 g3 => by rw [r7.1 x (by omega)]
  have S7 : RSt I7 (h + 1) (t + 1) c d (w + 1) := by
    unfold RSt
    rw [k7 4561 _ (by decide) (by decide) (by decide), k7 4561 _ (by decide) (by decide) (by decide), k7 4561 _ (by decide) (by decide) (by decide), k7 4561 _ (by decide) (by decide) (by decide), k7 4561 _ (by decide) (by decide) (by decide)]
    exact S6
  have V7 : MV I7 (1000 + 3 * w) lo := MV_keep vv5 (fun k g1 g2 => by rw [kv7 k (by omega), k6 4564 k (by decide)])
  have f17 : FrK (Fx h t w) I I7 := FrK_tr f4 (FrK_tr f5 (FrK_tr f6 f7))
  have up7 : ∀ x j, x ≠ 4561 → x ≠ 4562 → x ≠ 4563 → x ≠ 4564 → I7 x j = I4 x j := fun x j g0 g1 g2 g3 => by rw [k7 x j g1 g2 g3, k6 x j g0, k5 x j g1 g2 g3]
  have K7 : RTk I7 t (Int32.ofNat (a + i)) (Int32.ofNat (2)) z := ⟨by rw [up7 _ _ (by decide) (by decide) (by decide) (by decide), k4 _ _ (by decide) (by decide) (by decide) (by decide) (by decide)]; exact hK.1, by rw [up7 _ _ (by decide) (by decide) (by decide) (by decide), k4 _ _ (by decide) (by decide) (by decide) (by decide) (by decide)]; exact hK.2.1, by rw [up7 _ _ (by decide) (by decide) (by decide) (by decide), k4 _ _ (by decide) (by decide) (by decide) (by decide) (by decide)]; exact hK.2.2⟩
  have S8 : RSt (up I7 4607 t s0) (h + 1) (t + 1) c d (w + 1) := by
    obtain ⟨y1, y2, y3, y4, y5⟩ := S7
    exact ⟨by rw [up_n (by omega)]; exact y1, by rw [up_n (by omega)]; exact y2, by rw [up_n (by omega)]; exact y3, by rw [up_n (by omega)]; exact y4, by rw [up_n (by omega)]; exact y5⟩
  have K8 : RTk (up I7 4607 t s0) t (Int32.ofNat (a + i)) (Int32.ofNat (2)) z := ⟨by rw [up_n (by omega)]; exact K7.1, by rw [up_n (by omega)]; exact K7.2.1, by rw [up_n (by omega)]; exact K7.2.2⟩
  obtain ⟨g7, g8, g9⟩ := RTk_stage (stage' := (Int32.ofNat (3))) S8 K8
  rw [gr_4561_55 hR, gw_4607 (by omega), gr_4561_49 hR, show (3 : Int32) = (Int32.ofNat (3)) from rfl, gw_4601 (by omega), if_pos ok_4561]
  have f8 : FrK (Fx h t w) I (up (up I7 4607 t s0) 4601 t (Int32.ofNat (3))) := fun x j y => by
    have y2 := y
    unfold Fx at y
    rw [up_n (by omega), up_n (by omega)]
    exact f17 x j y2
  have o3 : up (up I7 4607 t s0) 4601 t (Int32.ofNat (3)) 4603 t = (Int32.ofNat (w)) := by rw [up_n (by omega), up_n (by omega), up7 _ _ (by decide) (by decide) (by decide) (by decide)]; exact c3
  have o7 : up (up I7 4607 t s0) 4601 t (Int32.ofNat (3)) 4607 t = s0 := by rw [up_n (by omega), up_s]
  have o8 : up (up I7 4607 t s0) 4601 t (Int32.ofNat (3)) 4608 w = (nd (i + 1)).2.1 := by rw [up_n (by omega), up_n (by omega), up7 _ _ (by decide) (by decide) (by decide) (by decide)]; exact c8
  have o9 : up (up I7 4607 t s0) 4601 t (Int32.ofNat (3)) 4609 w = 0 := by rw [up_n (by omega), up_n (by omega), up7 _ _ (by decide) (by decide) (by decide) (by decide)]; exact c9
  have o10 : up (up I7 4607 t s0) 4601 t (Int32.ofNat (3)) 4610 w = z := by rw [up_n (by omega), up_n (by omega), up7 _ _ (by decide) (by decide) (by decide) (by decide)]; exact c10
  have V8 : MV (up (up I7 4607 t s0) 4601 t (Int32.ofNat (3))) (1000 + 3 * w) lo := MV_keep V7 (fun k _ _ => by rw [up_n (by omega), up_n (by omega)])
  have T8 : MV (up (up I7 4607 t s0) 4601 t (Int32.ofNat (3))) (60 + h) (0, 1) := MV_keep vv7 (fun k _ _ => by rw [up_n (by omega), up_n (by omega)])
  have A8 := MT_m hA f8
  generalize up (up I7 4607 t s0) 4601 t (Int32.ofNat (3)) = I8 at *
  rw [M_child hR A8 hi' (by omega), Option.bind_some, gr_4561_51 hR, ga_4603 (by omega), o3, if_pos ok_4561]
  refine q_bind (M_enter hR g8 (by omega)) ?_
  rintro _ ⟨I9, rfl, f9, S9, K9⟩
  have f9' : FrK (Fx (h + 1) (t + 1) (w + 1)) I8 I9 := f9
  refine q_ok ⟨I9, rfl, FrK_tr f8 (Fx_mono f9 (by omega) (by omega) (by omega)), S9, RTk_keep g9 f9, ?_, ?_, K9, MV_m V8 f9 (by omega) (by omega) (by omega), MV_m T8 f9 (by omega) (by omega) (by omega), ?_, ?_, ?_⟩
  · rw [f9 4603 t (by unfold Fx; omega)]; exact o3
  · rw [f9 4607 t (by unfold Fx; omega), o7]
  · rw [f9 4608 w (by unfold Fx; omega)]; exact o8
  · rw [f9 4609 w (by unfold Fx; omega)]; exact o9
  · rw [f9 4610 w (by unfold Fx; omega)]; exact o10
/-- both bounds are there -/
theorem M_beginSum {lo hi : GV} (hR : RA R) (hA : MT I a nn nd sp) (hi' : i < nn) (h4 : aro nd i = 4) (hS : RSt I (h + 2) (t + 1) c d w) (hK : RTk I t (Int32.ofNat (a + i)) (Int32.ofNat (2)) z) (ht : t + 1 < 480) (hh : h + 2 ≤ 240) (hw : w < 480) (V0 : MV I (60 + h) lo) (V1 : MV I (60 + h + 1) hi) : QK (f_X12_beginSum (mg 4625 I J R) 4561 (Int32.ofNat (t)) (Int32.ofNat (a + i))) (fun r => ((lo.2 ≠ 1 ∨ hi.2 ≠ 1) ∧ r = (2, mg 4625 I J R)) ∨ (¬ (lo.2 ≠ 1 ∨ hi.2 ≠ 1) ∧ hi.1 < lo.1 ∧ ∃ I', r = (0, mg 4625 I' J R) ∧ FrK (Fx h t w) I I' ∧ RSt I' (h + 1) t c d w ∧ MV I' (60 + h) (0, 1)) ∨ (¬ (lo.2 ≠ 1 ∨ hi.2 ≠ 1) ∧ ¬ hi.1 < lo.1 ∧ 30 ≤ hi.1 - lo.1 ∧ ∃ I', r = (3, mg 4625 I' J R) ∧ FrK (Fx h t w) I I') ∨ (¬ (lo.2 ≠ 1 ∨ hi.2 ≠ 1) ∧ ¬ hi.1 < lo.1 ∧ ¬ 30 ≤ hi.1 - lo.1 ∧ ∃ I', r = (0, mg 4625 I' J R) ∧ FrK (Fx h t w) I I' ∧ RSt I' (h + 1) (t + 2) c d (w + 1) ∧ RTk I' t (Int32.ofNat (a + i)) (Int32.ofNat (3)) z ∧ I' 4603 t = (Int32.ofNat (w)) ∧ I' 4607 t = (Int32.ofNat ((hi.1 - lo.1 + 1).toNat)) ∧ RTk I' (t + 1) (Int32.ofNat (a + kid sp i 3)) 0 (Int32.ofNat (w)) ∧ MV I' (1000 + 3 * w) lo ∧ MV I' (60 + h) (0, 1) ∧ I' 4608 w = (nd (i + 1)).2.1 ∧ I' 4609 w = 0 ∧ I' 4610 w = z)) := by
  have hb := hA.1.1
  have i1 : i + 1 < nn := by
    have := (kid_in hA.2.1 hi' (show 0 < aro nd i by omega)).2.1
    exact this
  unfold f_X12_beginSum f_X12_beginSum_j30
  have wl := M_isWhole (J := J) hR (by omega) (MV_Vv V0)
  have wh := M_isWhole (J := J) hR (by omega) (MV_Vv V1)
  have t1 : ∀ {γ : Type} {G : Int32 → Option γ}, (f_X12_top (mg 4625 I J R) 4561).bind G = G (Int32.ofNat (60 + h + 1)) := fun {γ G} => M_top (h := h + 1) hS
  rw [if_pos ok_4561, t1, q_let, if_pos ok_4561, t1, if_pos ok_4561, show (Int32.ofNat (60 + h + 1)) - (1 : Int32) = (Int32.ofNat (60 + h)) from n_sub (b := 1) (by omega), wl, Option.bind_some]
  by_cases q1 : lo.2 = 1
  rotate_left
  · rw [if_neg q1, if_pos rfl]
    exact q_ok (Or.inl ⟨Or.inl q1, rfl⟩)
  rw [if_pos q1, if_neg (by decide), if_pos ok_4561, wh, Option.bind_some]
  by_cases q2 : hi.2 = 1
  rotate_left
  · rw [if_neg q2, if_pos rfl]
    exact q_ok (Or.inl ⟨Or.inr q2, rfl⟩)
  have nn0 : ¬ (lo.2 ≠ 1 ∨ hi.2 ≠ 1) := by omega
  rw [if_pos q2, if_neg (by decide), if_pos ok_4561]
  refine q_bind (M_cmp hR (by omega) (by omega) (MV_Vv V0) (MV_Vv V1)) ?_
  rintro _ ⟨I1, y, rfl, r1, e4, sg⟩
  have sg : SgT y (lo.1 - hi.1) := by
    have e : lo.1 * (hi.2 : Int) - hi.1 * (lo.2 : Int) = lo.1 - hi.1 := by
      rw [q1, q2]
      omega
    rw [e] at sg
    exact sg
  have f1 : FrK (Fx h t w) I I1 := Fx_R3 (S := fun _ => False) r1 (Kvs_eq e4) (fun x hx => hx.elim)
  have k1 : ∀ x j, x ≠ 4562 → x ≠ 4563 → x ≠ 4564 → I1 x j = I x j := fun x j g1 g2 g3 => by rw [r1.1 x (by omega)]
  have S1 : RSt I1 (h + 2) (t + 1) c d w := by
    unfold RSt
    rw [k1 4561 _ (by decide) (by decide) (by decide), k1 4561 _ (by decide) (by decide) (by decide), k1 4561 _ (by decide) (by decide) (by decide), k1 4561 _ (by decide) (by decide) (by decide), k1 4561 _ (by decide) (by decide) (by decide)]
    exact hS
  have V01 : MV I1 (60 + h) lo := MV_keep V0 (fun k _ _ => by rw [e4])
  have V11 : MV I1 (60 + h + 1) hi := MV_keep V1 (fun k _ _ => by rw [e4])
  have K1 : RTk I1 t (Int32.ofNat (a + i)) (Int32.ofNat (2)) z := ⟨by rw [k1 _ _ (by decide) (by decide) (by decide)]; exact hK.1, by rw [k1 _ _ (by decide) (by decide) (by decide)]; exact hK.2.1, by rw [k1 _ _ (by decide) (by decide) (by decide)]; exact hK.2.2⟩
  have yle : y ≤ 0 ↔ ¬ hi.1 < lo.1 := by
    rw [Int32.le_iff_toInt_le, show (0 : Int32).toInt = 0 from rfl]
    rcases sg with ⟨g1, g2⟩ | ⟨g1, g2⟩ | ⟨g1, g2⟩
    · omega
    · rw [g2, show (0 : Int32).toInt = 0 from rfl]
      omega
    · omega
  dsimp only
  by_cases q3 : hi.1 < lo.1
  · rw [if_neg (fun y2 => yle.mp y2 q3), gi_4561, S1.1, show (Int32.ofNat (h + 2)) - (1 : Int32) = (Int32.ofNat (h + 1)) from n_sub (b := 1) (by omega), gs_4561, if_pos ok_4561]
    have f2 : FrK (Fx h t w) I1 (up I1 4561 61 (Int32.ofNat (h + 1))) := fun x j y => by
      unfold Fx at y
      rw [up_n (by omega)]
    have S2 : RSt (up I1 4561 61 (Int32.ofNat (h + 1))) (h + 1) (t + 1) c d w := by
      obtain ⟨z1, z2, z3, z4, z5⟩ := S1
      exact ⟨up_s, by rw [up_n (by omega)]; exact z2, by rw [up_n (by omega)]; exact z3, by rw [up_n (by omega)]; exact z4, by rw [up_n (by omega)]; exact z5⟩
    generalize up I1 4561 61 (Int32.ofNat (h + 1)) = I2 at *
    rw [M_top S2, if_pos ok_4561]
    refine q_bind (M_setInt (m := 0) hR (by omega) (by omega)) ?_
    rintro _ ⟨I3, rfl, r3, kv, vv⟩
    have f3 : FrK (Fx h t w) I2 I3 := Fx_R3 (S := fun x => x = 60 + h) r3 (Kv_s kv rfl) (fun y hy => by omega)
    have k3 : ∀ j, I3 4561 j = I2 4561 j := fun j => by rw [r3.1 4561 (by omega)]
    obtain ⟨z1, z2, z3, z4, z5⟩ := S2
    rw [gi_4561, k3, z2, show (Int32.ofNat (t + 1)) - (1 : Int32) = (Int32.ofNat (t)) from n_sub (b := 1) (by omega), gs_4561]
    refine q_ok (Or.inr (Or.inl ⟨nn0, q3, _, rfl, fun x j y => ?_, ⟨?_, up_s, ?_, ?_, ?_⟩, MV_keep vv (fun k _ _ => up_n (by omega))⟩))
    · have y2 := y
      unfold Fx at y
      rw [up_n (by omega), f3 x j y2, f2 x j y2, f1 x j y2]
    · rw [up_n (by omega), k3]; exact z1
    · rw [up_n (by omega), k3]; exact z3
    · rw [up_n (by omega), k3]; exact z4
    · rw [up_n (by omega), k3]; exact z5
  rw [if_pos (yle.mpr q3), if_pos ok_4561]
  rw [show (-1 : Int32) = Int32.ofInt (-1) by decide]
  refine q_bind (M_add (i := 3600) (e := -1) hR (by omega) (by omega) (by omega) (Or.inr rfl) (MV_Vv V11) (MV_Vv V01)) ?_
  rintro _ ⟨I2, y2, rfl, r2, sto⟩
  have dz : hi.1 * (lo.2 : Int) + -1 * lo.1 * (hi.2 : Int) = hi.1 - lo.1 := by
    rw [q1, q2]
    omega
  have dd : hi.2 * lo.2 = 1 := by rw [q1, q2]
  rw [dz, dd] at sto
  have kv2 := Sto_kv sto
  have f2 : FrK (Fx h t w) I1 I2 := Fx_R3 (S := fun x => x = 3600) r2 (Kv_s kv2 rfl) (fun y hy => by omega)
  have k2 : ∀ x j, x ≠ 4562 → x ≠ 4563 → x ≠ 4564 → I2 x j = I1 x j := fun x j g1 g2 g3 => by rw [r2.1 x (by omega)]
  have f12 := FrK_tr f1 f2
  have dn : ¬ hi.1 - lo.1 < 0 := by omega
  -- too many or not
  have cont : ∀ (I3 : Nat → Nat → Int32) (s0 : Int32), R3 I2 I3 → I3 4564 = I2 4564 → ((30 ≤ hi.1 - lo.1 ∧ ¬ s0 ≤ (30 : Int32)) ∨ (¬ 30 ≤ hi.1 - lo.1 ∧ s0 ≤ (30 : Int32) ∧ s0 = (Int32.ofNat ((hi.1 - lo.1 + 1).toNat)))) → QK (f_X12_beginSum_j105 (mg 4625 I3 J R) 4561 (Int32.ofNat (t)) (Int32.ofNat (a + i)) (Int32.ofNat (60 + h)) s0) (fun r => ((lo.2 ≠ 1 ∨ hi.2 ≠ 1) ∧ r = (2, mg 4625 I J R)) ∨ (¬ (lo.2 ≠ 1 ∨ hi.2 ≠ 1) ∧ hi.1 < lo.1 ∧ ∃ I', r = (0, mg 4625 I' J R) ∧ FrK (Fx h t w) I I' ∧ RSt I' (h + 1) t c d w ∧ MV I' (60 + h) (0, 1)) ∨ (¬ (lo.2 ≠ 1 ∨ hi.2 ≠ 1) ∧ ¬ hi.1 < lo.1 ∧ 30 ≤ hi.1 - lo.1 ∧ ∃ I', r = (3, mg 4625 I' J R) ∧ FrK (Fx h t w) I I') ∨ (¬ (lo.2 ≠ 1 ∨ hi.2 ≠ 1) ∧ ¬ hi.1 < lo.1 ∧ ¬ 30 ≤ hi.1 - lo.1 ∧ ∃ I', r = (0, mg 4625 I' J R) ∧ FrK (Fx h t w) I I' ∧ RSt I' (h + 1) (t + 2) c d (w + 1) ∧ RTk I' t (Int32.ofNat (a + i)) (Int32.ofNat (3)) z ∧ I' 4603 t = (Int32.ofNat (w)) ∧ I' 4607 t = (Int32.ofNat ((hi.1 - lo.1 + 1).toNat)) ∧ RTk I' (t + 1) (Int32.ofNat (a + kid sp i 3)) 0 (Int32.ofNat (w)) ∧ MV I' (1000 + 3 * w) lo ∧ MV I' (60 + h) (0, 1) ∧ I' 4608 w = (nd (i + 1)).2.1 ∧ I' 4609 w = 0 ∧ I' 4610 w = z)) := by
    intro I3 s0 r3 e3 hs
    have f3 : FrK (Fx h t w) I I3 := FrK_tr f12 (Fx_R3 (S := fun _ => False) r3 (Kvs_eq e3) (fun x hx => hx.elim))
    have k3 : ∀ x j, x ≠ 4562 → x ≠ 4563 → x ≠ 4564 → I3 x j = I1 x j := fun x j g1 g2 g3 => by rw [r3.1 x (by omega), k2 x j g1 g2 g3]
    have A3 := MT_m hA f3
    have V03 : MV I3 (60 + h) lo := MV_keep V01 (fun k _ _ => by rw [e3, kv2 k (by omega)])
    rcases hs with ⟨g1, g2⟩ | ⟨g1, g2, g3⟩
    · unfold f_X12_beginSum_j105
      rw [if_neg g2]
      exact q_ok (Or.inr (Or.inr (Or.inl ⟨nn0, q3, g1, I3, rfl, f3⟩)))
    have S3 : RSt I3 (h + 2) (t + 1) c d w := by
      unfold RSt
      rw [k3 4561 _ (by decide) (by decide) (by decide), k3 4561 _ (by decide) (by decide) (by decide), k3 4561 _ (by decide) (by decide) (by decide), k3 4561 _ (by decide) (by decide) (by decide), k3 4561 _ (by decide) (by decide) (by decide)]
      exact S1
    have K3 : RTk I3 t (Int32.ofNat (a + i)) (Int32.ofNat (2)) z := ⟨by rw [k3 _ _ (by decide) (by decide) (by decide)]; exact K1.1, by rw [k3 _ _ (by decide) (by decide) (by decide)]; exact K1.2.1, by rw [k3 _ _ (by decide) (by decide) (by decide)]; exact K1.2.2⟩
    obtain ⟨_, eg, I9, rfl, f9, S9, K9, o1, o2, o3⟩ := M_sumGo (J := J) hR A3 hi' h4 S3 K3 ht hh hw V03 g2
    rw [eg]
    exact q_ok (Or.inr (Or.inr (Or.inr ⟨nn0, q3, g1, I9, rfl, FrK_tr f3 f9, S9, K9, o1, by rw [o2]; exact g3, o3⟩)))
  obtain ⟨s1', s2'⟩ := sml_1 (z := hi.1 - lo.1) (by omega)
  rcases sto with ⟨ft, ey, vv, -⟩ | ⟨nft, ey, -⟩
  · rw [ey, if_neg (show ¬ (1 : Int32) = 0 by decide), if_pos ok_4561]
    have rz1 : rz (hi.1 - lo.1) 1 = hi.1 - lo.1 := (rz_cop1 (Nat.gcd_one_right _)).1
    rw [rz1] at vv
    refine q_bind (M_small (i := 3600) hR (by omega) vv) ?_
    rintro _ ⟨I3, rfl, r3, e3⟩
    refine cont I3 _ r3 e3 ?_
    by_cases q4 : 30 ≤ hi.1 - lo.1
    · exact Or.inl ⟨q4, fun y => absurd (s1'.mp y) (by omega)⟩
    · refine Or.inr ⟨q4, s1'.mpr (by omega), ?_⟩
      rw [s2' (by omega)]
      congr 1
      omega
  · rw [ey, if_pos rfl]
    refine cont I2 31 R3_rfl rfl (Or.inl ⟨?_, by decide⟩)
    have nb : ¬ ((hi.1 - lo.1).natAbs < 2 ^ 200 ∧ 1 < 2 ^ 200) := fun y => nft ((rz_cop1 (Nat.gcd_one_right _)).2.2.mpr y)
    have big : ¬ (hi.1 - lo.1).natAbs < 2 ^ 200 := fun y => nb ⟨y, by decide⟩
    have b30 : (30 : Nat) < 2 ^ 200 := by decide
    omega
end RSU
