/-! slopes: the reference's nodes and walk -/
section MPN
variable {I : Nat → Nat → Int32} {J : Nat → Nat → Int64} {R : Nat → Nat → Option Nat} {a i h m nm : Nat} {b : GB} {n : GN} {T : Tt} {v p w r : GV}
theorem vAt {σ : xM} {k : Nat} : f_X12_valueAt σ (Int32.ofNat (k)) = some (Int32.ofNat (2500 + 2 * k)) := by
  unfold f_X12_valueAt
  rw [show (2 : Int32) * (Int32.ofNat (k)) = (Int32.ofNat (2 * k)) from n_mul 2 k, show (2500 : Int32) + (Int32.ofNat (2 * k)) = (Int32.ofNat (2500 + 2 * k)) from n_add 2500 _]
theorem pAt {σ : xM} {k : Nat} : f_X12_partAt σ (Int32.ofNat (k)) = some (Int32.ofNat (2501 + 2 * k)) := by
  unfold f_X12_partAt
  rw [show (2 : Int32) * (Int32.ofNat (k)) = (Int32.ofNat (2 * k)) from n_mul 2 k, show (2500 : Int32) + (Int32.ofNat (2 * k)) = (Int32.ofNat (2500 + 2 * k)) from n_add 2500 _]
  exact congrArg some ((n_add _ 1).trans (by congr 1 <;> omega))
theorem Vv_neg {u : Nat → Int32} {j d : Nat} {z : Int} (A : Vv u j z d) : Vv (va_up u (28 * j) (-Int32.ofInt z.sign)) j (-z) d := by
  obtain ⟨h1, h2, h3, h4⟩ := A
  refine ⟨?_, fun k hk => ?_, fun k hk => ?_, by rw [Int.natAbs_neg]; exact h4⟩
  · rw [va_up_self, Int.sign_neg, ← Int32.ofInt_neg]
  · rw [va_up_ne _ _ (by omega), Int.natAbs_neg]
    exact h2 k hk
  · rw [va_up_ne _ _ (by omega)]
    exact h3 k hk
theorem up_row {j : Nat} {x : Int32} : up I 4564 j x 4564 = va_up (I 4564) j x := va_up_self _ _ _
theorem R4_up {j : Nat} {x : Int32} : R4 I (up I 4564 j x) := fun y k _ _ h _ => by rw [up_n (by omega)]
theorem M_pairNode {o : Nat ⊕ (GV × GV)} (hR : RA R) (hB : MTb I b) (hO : TbOK b) (hN : MNm I n) (hA : MT I a T.1 T.2.1 T.2.2) (hT : TtO b T) (hi : i < T.1) (hnm : nm < 1000) (hh : h < 98) (h76 : I 4561 76 = (Int32.ofNat (h + m)))
    (hk : ((T.2.1 i).1 = 0 ∧ m = 0 ∧ o = .inr (((vN (T.2.1 i) : Int), 1), (0, 1))) ∨ ((T.2.1 i).1 = 1 ∧ m = 0 ∧ o = (if n.1 (vN (T.2.1 i) - 97) = 0 then .inl 4 else .inr (n.2 (vN (T.2.1 i) - 97), ((if vN (T.2.1 i) = nm then 1 else 0 : Int), 1)))) ∨ (mz b (T.2.1 i) = 11 ∧ m = 1 ∧ ∃ v p : GV, Vv (I 4564) (2500 + 2 * h) v.1 v.2 ∧ Vv (I 4564) (2501 + 2 * h) p.1 p.2 ∧ o = .inr ((-v.1, v.2), (-p.1, p.2))) ∨ ((mz b (T.2.1 i) ≤ 3 ∨ mz b (T.2.1 i) = 5) ∧ m = 2 ∧ ∃ v p w r : GV, Vv (I 4564) (2500 + 2 * h) v.1 v.2 ∧ Vv (I 4564) (2501 + 2 * h) p.1 p.2 ∧ Vv (I 4564) (2502 + 2 * h) w.1 w.2 ∧ Vv (I 4564) (2503 + 2 * h) r.1 r.2 ∧ (mz b (T.2.1 i) = 5 → w = ((vN (T.2.1 (kid T.2.2 i 1)) : Int), 1)) ∧ o = slT (mz b (T.2.1 i)) (v, p) (w, r))) : QK (f_X12_pairNode (mg 4625 I J R) 4561 (Int32.ofNat (a + i)) (Int32.ofNat (nm))) (PaQ J R I h o) := by
  have nv := hT.2 i hi
  obtain ⟨x1, x2, x3, x4, -⟩ := NV_v nv
  unfold f_X12_pairNode f_X12_pairNode_j31
  rw [mk_0 hA hi hR]
  rcases hk with hk | hk | ⟨q11, rfl, v, p, hv, hp, rfl⟩ | ⟨q5, rfl, v, p, w, r, hv, hp, hw, hr, h5, rfl⟩
  rotate_left
  rotate_left
  · obtain ⟨k3, h1⟩ := mz_one hO nv (show 11 ≤ mz b (T.2.1 i) by omega) (by omega)
    have h1 : aro T.2.1 i = 1 := h1
    have hb : 28 * (2501 + 2 * h) < 104160 := by omega
    rw [if_pos k3, mk_3 hA hi hR, if_neg (show ¬ (Int32.ofNat (aro T.2.1 i)) = (2 : Int32) by rw [h1]; decide), mk_0 hA hi hR, if_pos k3, gr_4561_3 hR, gi_4561, h76, show (Int32.ofNat (h + 1)) - (1 : Int32) = (Int32.ofNat (h)) from n_sub (b := 1) (by omega), vAt, Option.bind_some, gi_4561, h76, show (Int32.ofNat (h + 1)) - (1 : Int32) = (Int32.ofNat (h)) from n_sub (b := 1) (by omega), vAt, Option.bind_some, if_pos ok_4561, M_sign hR (by omega) hv, Option.bind_some, show (28 : Int32) * (Int32.ofNat (2500 + 2 * h)) = (Int32.ofNat (28 * (2500 + 2 * h))) from n_mul 28 _, gw_4564 (by omega)]
    have f1 : FrK (Frp h) I (up I 4564 (28 * (2500 + 2 * h)) (-Int32.ofInt v.1.sign)) := FrK_up FrK_rfl (by unfold Frp; omega)
    have V1 : Vv (up I 4564 (28 * (2500 + 2 * h)) (-Int32.ofInt v.1.sign) 4564) (2500 + 2 * h) (-v.1) v.2 := by
      rw [up_row]
      exact Vv_neg hv
    have P1 : Vv (up I 4564 (28 * (2500 + 2 * h)) (-Int32.ofInt v.1.sign) 4564) (2501 + 2 * h) p.1 p.2 := by
      rw [up_row]
      exact hp.keep (i := 2500 + 2 * h) (fun x hx => va_up_ne _ _ (by omega)) (by omega)
    have t1 : up I 4564 (28 * (2500 + 2 * h)) (-Int32.ofInt v.1.sign) 4561 76 = (Int32.ofNat (h + 1)) := by
      rw [up_n (by omega)]
      exact h76
    generalize up I 4564 (28 * (2500 + 2 * h)) (-Int32.ofInt v.1.sign) = I1 at *
    rw [gr_4561_3 hR, gi_4561, t1, show (Int32.ofNat (h + 1)) - (1 : Int32) = (Int32.ofNat (h)) from n_sub (b := 1) (by omega), pAt, Option.bind_some, gi_4561, t1, show (Int32.ofNat (h + 1)) - (1 : Int32) = (Int32.ofNat (h)) from n_sub (b := 1) (by omega), pAt, Option.bind_some, if_pos ok_4561, M_sign hR (by omega) P1, Option.bind_some, show (28 : Int32) * (Int32.ofNat (2501 + 2 * h)) = (Int32.ofNat (28 * (2501 + 2 * h))) from n_mul 28 _, gw_4564 (by omega)]
    refine q_ok ⟨_, FrK_up f1 (by unfold Frp; omega), Or.inl ⟨_, _, rfl, rfl, ?_, ?_, ?_⟩⟩
    · rw [up_n (by omega)]
      exact t1
    · rw [up_row]
      exact V1.keep (i := 2501 + 2 * h) (fun x hx => va_up_ne _ _ (by omega)) (by omega)
    · rw [up_row]
      exact Vv_neg P1
  · obtain ⟨k3, h2⟩ := mz_two hO nv (show mz b (T.2.1 i) ≤ 10 by omega)
    have h2 : aro T.2.1 i = 2 := h2
    rw [if_pos k3, mk_3 hA hi hR, if_pos (show (Int32.ofNat (aro T.2.1 i)) = (2 : Int32) by rw [h2]; rfl), if_pos ok_4561, M_mi hR hA hi nv hB hO, mi_s (by omega), if_pos ok_4561]
    refine q_bind (M_pairTwo hR hA hT hi h2 q5 hh h76 hv hp hw hr h5) ?_
    rintro y hy
    exact q_ok hy
  all_goals
    have h01 : (T.2.1 i).1 = 0 ∨ (T.2.1 i).1 = 1 := by
      rcases hk with ⟨z, -⟩
      first | exact Or.inl z | exact Or.inr z
    have k3 : ¬ (T.2.1 i).1 = 3 := fun y => by
      rw [y] at h01
      exact absurd h01 (by decide)
    have m0 : m = 0 := hk.2.1
    subst m0
    have h76 : I 4561 76 = (Int32.ofNat (h)) := h76
    rw [if_neg k3, mk_0 hA hi hR, if_neg k3, mk_0 hA hi hR]
    unfold f_X12_pairNode_j120
    -- the part of a leaf
    have leaf : ∀ (I1 : Nat → Nat → Int32) (s0 : Int32) (u : Nat), FrK (Frp h) I I1 → I1 4561 76 = (Int32.ofNat (h)) → u ≤ 1 → ∀ x : GV, Vv (I1 4564) (2500 + 2 * h) x.1 x.2 → o = .inr (x, ((u : Int), 1)) → QK (f_X12_pairNode_j215 (mg 4625 I1 J R) 4561 (Int32.ofNat (u)) (Int32.ofNat (2501 + 2 * h)) 4561) (PaQ J R I h o) := fun I1 s0 u f1 t1 hu x hx eo => by
      unfold f_X12_pairNode_j215
      rw [if_pos ok_4561]
      refine q_bind (M_setInt (i := 2501 + 2 * h) hR (by omega) (by omega)) ?_
      rintro _ ⟨I2, rfl, r2, kv2, V2⟩
      have t2 : I2 4561 76 = (Int32.ofNat (h)) := by rw [r2.1 4561 (by omega)]; exact t1
      rw [gi_4561, t2, gs_4561, show (Int32.ofNat (h)) + (1 : Int32) = (Int32.ofNat (h + 1)) from n_add h 1]
      have f2 := FrK_tr f1 (R4_Frp (h := h) (R3_R4 r2) (Kv_s (S := fun x => x = 2501 + 2 * h) kv2 rfl) (fun x hx => by omega))
      refine q_ok ⟨_, FrK_up f2 (by unfold Frp; omega), Or.inl ⟨x, _, eo, rfl, up_s, ?_, ?_⟩⟩
      · rw [show up I2 4561 76 (Int32.ofNat (h + 1)) 4564 = I2 4564 from up_r (by decide)]
        exact hx.keep kv2 (by omega)
      · rw [show up I2 4561 76 (Int32.ofNat (h + 1)) 4564 = I2 4564 from up_r (by decide)]
        exact V2
  · obtain ⟨q0, -, eo⟩ := hk
    rw [if_neg (by rw [q0]; decide), if_pos rfl]
    unfold f_X12_pairNode_j144
    rw [if_pos rfl, gi_4561, h76, vAt, Option.bind_some, mk_1 hA hi hR, x1, if_pos ok_4561]
    refine q_bind (M_setInt (i := 2500 + 2 * h) hR (by omega) (by omega)) ?_
    rintro _ ⟨I1, rfl, r1, kv1, V1⟩
    have t1 : I1 4561 76 = (Int32.ofNat (h)) := by rw [r1.1 4561 (by omega)]; exact h76
    unfold f_X12_pairNode_j188 f_X12_pairNode_j214
    rw [gi_4561, t1, pAt, Option.bind_some, if_pos rfl]
    exact leaf I1 0 0 (R4_Frp (R3_R4 r1) (Kv_s (S := fun x => x = 2500 + 2 * h) kv1 rfl) (fun x hx => by omega)) t1 (by decide) ((vN (T.2.1 i) : Int), 1) V1 eo
  · obtain ⟨q1, -, eo⟩ := hk
    obtain ⟨l, l1, l2⟩ : ∃ l, l < 26 ∧ vN (T.2.1 i) = 97 + l := by
      rcases nv with y | y | y | y
      · exact absurd (q1.symm.trans y.1) (by decide)
      · obtain ⟨-, ⟨l, l1, l2⟩, -⟩ := y
        have := x3 (by rw [q1]; decide)
        exact ⟨l, l1, (i32_eq (by omega) (by omega)).mp (x1.symm.trans l2)⟩
      · exact absurd (q1.symm.trans y.1) (by decide)
      · exact absurd (q1.symm.trans y.1) (by decide)
    rw [l2, Nat.add_sub_cancel_left] at eo
    obtain ⟨n1, n2⟩ := hN l l1
    rw [if_pos q1, if_neg (by decide), gr_4561_47 hR, mk_1 hA hi hR, x1, l2, show (Int32.ofNat (97 + l)) - (97 : Int32) = (Int32.ofNat (l)) from (n_sub (b := 97) (by omega)).trans (by rw [Nat.add_sub_cancel_left]), ga_4599 l1, n1]
    by_cases z : n.1 l = 0
    · rw [if_pos z]
      rw [if_pos z] at eo
      exact q_ok ⟨I, FrK_rfl, Or.inr ⟨4, eo, by decide, by decide, rfl⟩⟩
    · rw [if_neg z]
      rw [if_neg z] at eo
      unfold f_X12_pairNode_j144
      rw [if_neg (by decide), gi_4561, h76, vAt, Option.bind_some, mk_1 hA hi hR, x1, l2, if_pos ok_4561, show (Int32.ofNat (97 + l)) - (97 : Int32) = (Int32.ofNat (l)) from (n_sub (b := 97) (by omega)).trans (by rw [Nat.add_sub_cancel_left])]
      refine q_bind (M_copy (a := 2500 + 2 * h) (b := l) hR (by omega) (by omega) (by omega) n2) ?_
      rintro _ ⟨I1, rfl, r1, -, -, kv1, V1⟩
      have t1 : I1 4561 76 = (Int32.ofNat (h)) := by rw [r1.1 4561 (by omega)]; exact h76
      have f1 : FrK (Frp h) I I1 := R4_Frp (R3_R4 r1) (Kv_s (S := fun x => x = 2500 + 2 * h) kv1 rfl) (fun x hx => by omega)
      have A1 : MT I1 a T.1 T.2.1 T.2.2 := MT_keep hA (fun x k g1 g2 g3 g4 => f1 x k (by unfold Frp; omega))
      unfold f_X12_pairNode_j188 f_X12_pairNode_j214
      rw [gi_4561, t1, pAt, Option.bind_some, if_neg (by decide), mk_1 A1 hi hR, x1, l2]
      by_cases z2 : 97 + l = nm
      · rw [if_pos (show (Int32.ofNat (97 + l)) = (Int32.ofNat (nm)) by rw [z2])]
        rw [if_pos z2] at eo
        exact leaf I1 0 1 f1 t1 (by decide) (n.2 l) V1 eo
      · rw [if_neg (show ¬ (Int32.ofNat (97 + l)) = (Int32.ofNat (nm)) from i32_ne (by omega) (by omega) z2)]
        rw [if_neg z2] at eo
        exact leaf I1 0 0 f1 t1 (by decide) (n.2 l) V1 eo
end MPN
