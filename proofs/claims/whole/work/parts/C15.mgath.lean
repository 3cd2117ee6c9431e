/-! gathering: the reference's nodes -/
def Fgm (h : Nat) : Nat → Nat → Prop := fun x k => x = 4562 ∨ x = 4563 ∨ (x = 4564 ∧ 28 * (2700 + 9 * h) ≤ k) ∨ (x = 4561 ∧ (k = 68 ∨ k = 69)) ∨ (4613 ≤ x ∧ x ≤ 4615)
theorem Fgm_mono {h h' : Nat} {I I' : Nat → Nat → Int32} (H : FrK (Fgm h) I I') (hh : h' ≤ h) : FrK (Fgm h') I I' := FrK_mono H (fun x k y => by unfold Fgm at y ⊢; omega)
theorem FrS_Fgm {h : Nat} {S : Nat → Prop} {I I' : Nat → Nat → Int32} (h1 : FrS (fun x => (4562 ≤ x ∧ x ≤ 4564) ∨ (4613 ≤ x ∧ x ≤ 4615)) I I') (h2 : Kvs S (I 4564) (I' 4564)) (hS : ∀ x, S x → 2700 + 9 * h ≤ x) : FrK (Fgm h) I I' := fun x k y => by
  unfold Fgm at y
  by_cases z : x = 4564
  · subst z
    exact h2 k (fun w => by have := hS _ w; omega)
  · rw [h1 x (by omega)]
theorem R4_Fgm {h : Nat} {S : Nat → Prop} {I I' : Nat → Nat → Int32} (h1 : R4 I I') (h2 : Kvs S (I 4564) (I' 4564)) (hS : ∀ x, S x → 2700 + 9 * h ≤ x) : FrK (Fgm h) I I' := fun x k y => by
  unfold Fgm at y
  by_cases z : x = 4564
  · subst z
    exact h2 k (fun w => by have := hS _ w; omega)
  · exact h1 x k (by omega) (by omega) z (by omega)
theorem MRow_ks {S : Nat → Prop} {I I' : Nat → Nat → Int32} {r : Nat} {p : Po} (h : MRow I r p) (hk : Kvs S (I 4564) (I' 4564)) (hS : ∀ j, j < 9 → ¬ S (2700 + 9 * r + j)) : MRow I' r p := fun j hj => Vv_ks (h j hj) hk (hS j hj)
theorem MRow_eq {I I' : Nat → Nat → Int32} {r : Nat} {p : Po} (h : MRow I r p) (e : I' 4564 = I 4564) : MRow I' r p := fun j hj => by
  rw [e]
  exact h j hj
def PgQ (J : Nat → Nat → Int64) (R : Nat → Nat → Option Nat) (I : Nat → Nat → Int32) (h : Nat) (o : Option Po) (r : Int32 × xM) : Prop := ∃ I', FrK (Fgm h) I I' ∧ ((∃ p, o = some p ∧ r = (1, mg 4625 I' J R) ∧ MRow I' h p ∧ I' 4561 68 = (Int32.ofNat (h + 1))) ∨ (o = none ∧ r = (0, mg 4625 I' J R)))
section MGN
variable {I : Nat → Nat → Int32} {J : Nat → Nat → Int64} {R : Nat → Nat → Option Nat} {β : Type} {a h nm i m : Nat} {b : GB} {n : GN} {T : Tt} {p q : Po}
theorem M_gaTwo (hR : RA R) (hA : MT I a T.1 T.2.1 T.2.2) (hT : TtO b T) (hi : i < T.1) (h2 : aro T.2.1 i = 2) (hm : m ≤ 3 ∨ m = 5) (hh : h + 2 < 90) (h68 : I 4561 68 = (Int32.ofNat (h + 2))) (hP : MRow I h p) (hQ : MRow I (h + 1) q) (kp : PoK p) (kq : PoK q) : QK (f_X12_gatherTwo (mg 4625 I J R) 4561 (Int32.ofNat (a + i)) (Int32.ofNat (m))) (PgQ J R I h (gaT m (T.2.1 (kid T.2.2 i 1)) p q)) := by
  obtain ⟨f0, a1, kc, -⟩ := two_kids hT hi h2
  unfold f_X12_gatherTwo
  rw [gi_4561, h68, show (Int32.ofNat (h + 2)) - (1 : Int32) = (Int32.ofNat (h + 1)) from n_sub (b := 1) (by omega), gs_4561]
  have f1 : FrK (Fgm h) I (up I 4561 68 (Int32.ofNat (h + 1))) := FrK_up FrK_rfl (by unfold Fgm; omega)
  have t1 : up I 4561 68 (Int32.ofNat (h + 1)) 4561 68 = (Int32.ofNat (h + 1)) := up_s
  have A1 : MT (up I 4561 68 (Int32.ofNat (h + 1))) a T.1 T.2.1 T.2.2 := MT_keep hA (fun x k g1 g2 g3 g4 => up_n (by omega))
  have P1 : MRow (up I 4561 68 (Int32.ofNat (h + 1))) h p := MRow_eq hP (up_r (by omega))
  have Q1 : MRow (up I 4561 68 (Int32.ofNat (h + 1))) (h + 1) q := MRow_eq hQ (up_r (by omega))
  generalize up I 4561 68 (Int32.ofNat (h + 1)) = I1 at *
  rw [gi_4561, t1, show (Int32.ofNat (h + 1)) - (1 : Int32) = (Int32.ofNat (h)) from n_sub (b := 1) (by omega), q_let, gi_4561, t1, q_let]
  have lit : ∀ k : Nat, k ≤ 5 → ((Int32.ofNat (m)) = (Int32.ofNat (k)) ↔ m = k) := fun k hk => i32_eq (by omega) (by omega)
  -- the end of each
  have fin : ∀ {I2 : Nat → Nat → Int32} {y : Int32 × xM} {S : Po} {c : Prop}, FrK (Fgm h) I1 I2 → I2 4561 68 = (Int32.ofNat (h + 1)) → (((c ∧ FitA S) ∧ y = (1, mg 4625 I2 J R) ∧ MRow I2 h S) ∨ (¬ (c ∧ FitA S) ∧ y = (0, mg 4625 I2 J R))) → gaT m (T.2.1 (kid T.2.2 i 1)) p q = (@ite _ c (Classical.propDecidable _) (chk S) none) → PgQ J R I h (gaT m (T.2.1 (kid T.2.2 i 1)) p q) y := fun {I2 y S c} f t hu eg => by
    rw [eg]
    refine ⟨I2, FrK_tr f1 f, ?_⟩
    rcases hu with ⟨⟨hc, fa⟩, ey, cr⟩ | ⟨nf, ey⟩
    · rw [@if_pos _ (Classical.propDecidable _) hc, chk_y fa]
      exact Or.inl ⟨S, rfl, ey, cr, t⟩
    · right
      refine ⟨?_, ey⟩
      by_cases hc : c
      · rw [@if_pos _ (Classical.propDecidable _) hc]
        exact chk_n (fun y => nf ⟨hc, y⟩)
      · rw [@if_neg _ (Classical.propDecidable _) hc]
  have r3t : ∀ {I2 : Nat → Nat → Int32}, R3 I1 I2 → I2 4561 68 = (Int32.ofNat (h + 1)) := fun r => by rw [r.1 4561 (by omega)]; exact t1
  have r4t : ∀ {I2 : Nat → Nat → Int32}, R4 I1 I2 → I2 4561 68 = (Int32.ofNat (h + 1)) := fun r => by rw [r 4561 68 (by omega) (by omega) (by omega) (by omega)]; exact t1
  by_cases c0 : m = 0
  · have eg : gaT m (T.2.1 (kid T.2.2 i 1)) p q = (@ite _ True (Classical.propDecidable _) (chk (sgP 1 p q)) none) := by
      rw [@if_pos _ (Classical.propDecidable _) trivial]
      exact if_pos c0
    rw [if_pos (show (Int32.ofNat (m)) = (0 : Int32) from (lit 0 (by decide)).mpr c0)]
    refine q_mono (M_sumRows (m := m) (s' := 1) hR (by omega) P1 Q1 (Or.inl ⟨c0, rfl⟩)) ?_
    rintro y ⟨I2, r2, k2, hy⟩
    refine fin (S := sgP 1 p q) (c := True) (R4_Fgm (R3_R4 r2) k2 (fun x hx => hx.1)) (r3t r2) ?_ eg
    rcases hy with ⟨fa, ey, cr⟩ | ⟨fa, ey⟩
    · exact Or.inl ⟨⟨trivial, fa⟩, ey, cr⟩
    · exact Or.inr ⟨fun z => fa z.2, ey⟩
  rw [if_neg (show ¬ (Int32.ofNat (m)) = (0 : Int32) from fun y => c0 ((lit 0 (by decide)).mp y))]
  by_cases c1 : m = 1
  · have eg : gaT m (T.2.1 (kid T.2.2 i 1)) p q = (@ite _ True (Classical.propDecidable _) (chk (sgP (-1) p q)) none) := by
      rw [@if_pos _ (Classical.propDecidable _) trivial]
      exact (if_neg c0).trans (if_pos c1)
    rw [if_pos (show (Int32.ofNat (m)) = (1 : Int32) from (lit 1 (by decide)).mpr c1)]
    refine q_mono (M_sumRows (m := m) (s' := -1) hR (by omega) P1 Q1 (Or.inr ⟨c1, rfl⟩)) ?_
    rintro y ⟨I2, r2, k2, hy⟩
    refine fin (S := sgP (-1) p q) (c := True) (R4_Fgm (R3_R4 r2) k2 (fun x hx => hx.1)) (r3t r2) ?_ eg
    rcases hy with ⟨fa, ey, cr⟩ | ⟨fa, ey⟩
    · exact Or.inl ⟨⟨trivial, fa⟩, ey, cr⟩
    · exact Or.inr ⟨fun z => fa z.2, ey⟩
  rw [if_neg (show ¬ (Int32.ofNat (m)) = (1 : Int32) from fun y => c1 ((lit 1 (by decide)).mp y))]
  by_cases c2 : m = 2
  · have eg : gaT m (T.2.1 (kid T.2.2 i 1)) p q = (@ite _ (dgP p + dgP q ≤ 8) (Classical.propDecidable _) (chk (mulP q p)) none) := by
      refine (if_neg c0).trans ((if_neg c1).trans ((if_pos c2).trans ?_))
      by_cases d : dgP p + dgP q ≤ 8
      · rw [if_pos d, @if_pos _ (Classical.propDecidable _) d]
      · rw [if_neg d, @if_neg _ (Classical.propDecidable _) d]
    have ec : mulP p q = mulP q p := funext (fun _ => mulP_comm)
    rw [if_pos (show (Int32.ofNat (m)) = (2 : Int32) from (lit 2 (by decide)).mpr c2), if_pos ok_4561, show (Int32.ofNat (h + 1)) + (1 : Int32) = (Int32.ofNat (h + 2)) from n_add (h + 1) 1]
    refine q_bind (M_mulRows hR hh P1 Q1) ?_
    rintro y ⟨I2, r2, k2, hy⟩
    have ey : y.2 = mg 4625 I2 J R := by
      rcases hy with ⟨-, rfl, -⟩ | ⟨-, rfl⟩ <;> rfl
    rw [ey, if_pos ok_4561]
    refine q_bind (M_copyRow (r := h) (t := h + 2) hR (by omega) hh (by omega)) ?_
    rintro _ ⟨I3, rfl, r3, k3, cp⟩
    have f3 : FrK (Fgm h) I1 I3 := FrK_tr (R4_Fgm r2 k2 (fun x hx => by omega)) (R4_Fgm (R3_R4 r3) k3 (fun x hx => hx.1))
    rcases hy with ⟨⟨d, fa⟩, rfl, cr⟩ | ⟨nf, rfl⟩
    · rw [ec] at fa cr
      exact q_ok (fin f3 (r4t (R4_tr r2 (R3_R4 r3))) (Or.inl ⟨⟨d, fa⟩, rfl, cp _ cr⟩) eg)
    · rw [ec] at nf
      exact q_ok (fin f3 (r4t (R4_tr r2 (R3_R4 r3))) (Or.inr ⟨nf, rfl⟩) eg)
  rw [if_neg (show ¬ (Int32.ofNat (m)) = (2 : Int32) from fun y => c2 ((lit 2 (by decide)).mp y))]
  by_cases c3 : m = 3
  · have eg : gaT m (T.2.1 (kid T.2.2 i 1)) p q = (@ite _ (dgP q = 0 ∧ q 0 ≠ 0) (Classical.propDecidable _) (chk (sclP p (q 0))) none) := by
      refine (if_neg c0).trans ((if_neg c1).trans ((if_neg c2).trans ((if_pos c3).trans ?_)))
      by_cases d : dgP q = 0 ∧ q 0 ≠ 0
      · rw [if_pos d, @if_pos _ (Classical.propDecidable _) d]
      · rw [if_neg d, @if_neg _ (Classical.propDecidable _) d]
    rw [if_pos (show (Int32.ofNat (m)) = (3 : Int32) from (lit 3 (by decide)).mpr c3), if_pos ok_4561]
    refine q_bind (M_scaleRows hR (by omega) P1 Q1) ?_
    rintro y ⟨I2, r2, k2, hy⟩
    have f2 : FrK (Fgm h) I1 I2 := R4_Fgm (R3_R4 r2) k2 (fun x hx => hx.1)
    rcases hy with ⟨cf, rfl, cr⟩ | ⟨nf, rfl⟩
    · exact q_ok (fin f2 (r3t r2) (Or.inl ⟨cf, rfl, cr⟩) eg)
    · exact q_ok (fin f2 (r3t r2) (Or.inr ⟨nf, rfl⟩) eg)
  rw [if_neg (show ¬ (Int32.ofNat (m)) = (3 : Int32) from fun y => c3 ((lit 3 (by decide)).mp y)), if_neg (show ¬ (Int32.ofNat (m)) = (4 : Int32) from fun y => absurd ((lit 4 (by decide)).mp y) (by omega)), if_pos (show (Int32.ofNat (m)) = (5 : Int32) from (lit 5 (by decide)).mpr (by omega)), if_pos ok_4561]
  have nv := hT.2 _ kc
  obtain ⟨v1, v2, v3, v4, -⟩ := NV_v nv
  rw [show (1 : Int32) = (Int32.ofNat (1)) from rfl, M_child (k := 1) hR A1 hi (by omega), Option.bind_some, mk_0 A1 kc hR]
  have eg : gaT m (T.2.1 (kid T.2.2 i 1)) p q = (@ite _ ((T.2.1 (kid T.2.2 i 1)).1 = 0 ∧ vN (T.2.1 (kid T.2.2 i 1)) ≤ 8 ∧ dgP p * vN (T.2.1 (kid T.2.2 i 1)) ≤ 8) (Classical.propDecidable _) (chk (powP p (vN (T.2.1 (kid T.2.2 i 1))))) none) := by
    refine (if_neg c0).trans ((if_neg c1).trans ((if_neg c2).trans ((if_neg c3).trans ?_)))
    by_cases d : (T.2.1 (kid T.2.2 i 1)).1 = 0 ∧ vN (T.2.1 (kid T.2.2 i 1)) ≤ 8 ∧ dgP p * vN (T.2.1 (kid T.2.2 i 1)) ≤ 8
    · rw [if_pos d, @if_pos _ (Classical.propDecidable _) d]
    · rw [if_neg d, @if_neg _ (Classical.propDecidable _) d]
  have no : ∀ {I2 : Nat → Nat → Int32}, FrK (Fgm h) I1 I2 → I2 4561 68 = (Int32.ofNat (h + 1)) → ¬ (((T.2.1 (kid T.2.2 i 1)).1 = 0 ∧ vN (T.2.1 (kid T.2.2 i 1)) ≤ 8 ∧ dgP p * vN (T.2.1 (kid T.2.2 i 1)) ≤ 8) ∧ FitA (powP p (vN (T.2.1 (kid T.2.2 i 1))))) → QK (f_X12_gatherTwo_j204 (mg 4625 I2 J R)) (PgQ J R I h (gaT m (T.2.1 (kid T.2.2 i 1)) p q)) := fun f t nd => by
    unfold f_X12_gatherTwo_j204 f_X12_gatherTwo_j205
    exact q_ok (fin f t (Or.inr ⟨nd, rfl⟩) eg)
  by_cases k0 : (T.2.1 (kid T.2.2 i 1)).1 = 0
  rotate_left
  · rw [if_neg k0]
    exact no FrK_rfl t1 (fun y => k0 y.1.1)
  rw [if_pos k0, mk_1 A1 kc hR, v1]
  by_cases k8 : vN (T.2.1 (kid T.2.2 i 1)) ≤ 8
  rotate_left
  · rw [if_pos (show (8 : Int32) < (Int32.ofNat (vN (T.2.1 (kid T.2.2 i 1)))) from (i32_lt (k := 8) (by omega) (by omega)).mpr (by omega))]
    exact no FrK_rfl t1 (fun y => k8 y.1.2.1)
  rw [if_neg (show ¬ (8 : Int32) < (Int32.ofNat (vN (T.2.1 (kid T.2.2 i 1)))) from fun y => absurd ((i32_lt (k := 8) (by omega) (by omega)).mp y) (by omega)), mk_1 A1 kc hR, v1, if_pos ok_4561]
  refine q_bind (M_raiseRow hR (by omega) P1 kp k8) ?_
  rintro y ⟨I2, f2, k2, hy⟩
  have f12 : FrK (Fgm h) I1 I2 := FrS_Fgm f2 k2 (fun x hx => hx.1)
  have t2 : I2 4561 68 = (Int32.ofNat (h + 1)) := by rw [f2 4561 (by omega)]; exact t1
  rcases hy with ⟨⟨dd, fa⟩, rfl, cr⟩ | ⟨nf, rfl⟩
  · rw [show (((1 : Int32), mg 4625 I2 J R) : Int32 × xM).1 = 1 from rfl, if_neg (show ¬ (1 : Int32) = 0 by decide)]
    unfold f_X12_gatherTwo_j205
    exact q_ok (fin f12 t2 (Or.inl ⟨⟨⟨k0, k8, dd⟩, fa⟩, rfl, cr⟩) eg)
  · rw [show (((0 : Int32), mg 4625 I2 J R) : Int32 × xM).1 = 0 from rfl, if_pos rfl]
    exact no f12 t2 (fun y => nf ⟨y.1.2.2, y.2⟩)
/-- another operator -/
theorem M_gaNot {l2 : Int32} {j : Nat} (hR : RA R) (h0 : l2 ≠ 0) (h1 : l2 ≠ 1) (h2 : l2 ≠ 2) (h3 : l2 ≠ 3) (h5 : l2 ≠ 5) : QK (f_X12_gatherTwo (mg 4625 I J R) 4561 (Int32.ofNat (j)) l2) (PgQ J R I h none) := by
  unfold f_X12_gatherTwo
  rw [gi_4561, gs_4561]
  have f1 : FrK (Fgm h) I (up I 4561 68 (I 4561 68 - 1)) := FrK_up FrK_rfl (by unfold Fgm; omega)
  generalize up I 4561 68 (I 4561 68 - 1) = I1 at *
  rw [gi_4561, q_let, gi_4561, q_let, if_neg h0, if_neg h1, if_neg h2, if_neg h3, if_neg h5]
  have e : f_X12_gatherTwo_j206 (mg 4625 I1 J R) = some (0, mg 4625 I1 J R) := rfl
  rw [e]
  split <;> exact q_ok ⟨I1, f1, Or.inr ⟨rfl, rfl⟩⟩
end MGN
