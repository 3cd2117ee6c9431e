/-! audit, part 0: whether all brackets that are left are needed -/
noncomputable def ndB (p : Prop) : Int32 := @ite Int32 p (Classical.propDecidable _) 0 1
theorem ndB_t {p : Prop} (h : p) : ndB p = 0 := if_pos h
theorem ndB_f {p : Prop} (h : ¬ p) : ndB p = 1 := if_neg h
theorem ndB_c {p q : Prop} (h : p ↔ q) : ndB p = ndB q := by rw [propext h]
theorem hs_back {j c : Nat} {v : Bool} {g : Nat → Bool} (h1 : g j = false) (h2 : g c = false) : hs j c false (hs j c v g) = g := by rw [hs_hs, hs_same h1 h2]
section NAB
variable {I : Nat → Nat → Int32} {J : Nat → Nat → Int64} {R : Nat → Nat → Option Nat} {b : GB} {m a n len : Nat} {W : Nat → Wd} {P P2 : Nat → Nat} {g : Nat → Bool} {nd : Nat → Nd} {sp : Nat → Nat} {β : Type}
def badC (b : GB) (W : Nat → Wd) (m n : Nat) (nd : Nat → Nd) (sp : Nat → Nat) (k : Nat) : Prop := ∃ c, prd W m k c ∧ GoodW b W m n nd sp (hs k c true (fun _ => false))
theorem C_needsAll (hR : RA R) (hC : CTb I b) (hT : TbOK b) (hW : CWd I m W P (fun _ => false)) (h6 : I 540 6 = (Int32.ofNat (len))) (hlen : len < 1000) (hn : nws (vis W (fun _ => false) m 0) ≤ 80) (hA : CT I a n nd sp) (ha : a + 8 ≤ 540 ∨ 559 ≤ a) (hP : ∀ j, j < m → ¬ opn W j ∨ ∃ c, prd W m j c) : QK (f_X6_needsAllBrackets (mg (4562 + zn J) I J R) 540 a) (fun y => ∃ I', y = (ndB (∃ k, k < m ∧ badC b W m n nd sp k), mg (4562 + zn J) I' J R) ∧ FrK Fdb I I') := by
  have m300 := hW.1
  unfold f_X6_needsAllBrackets
  rw [q_let, q_let]
  refine q_bind (P := fun r => ∃ I', r = .inr (ndB (∃ k, k < m ∧ badC b W m n nd sp k), mg (4562 + zn J) I' J R) ∧ FrK Fdb I I') ?_ ?_
  rotate_left
  · rintro _ ⟨I', rfl, hF⟩
    simp only [Sum.elim_inr]
    unfold f_X6_needsAllBrackets_j67
    by_cases z : ∃ k, k < m ∧ badC b W m n nd sp k
    · rw [ndB_t z, q_xz0]
      exact q_ok ⟨I', rfl, hF⟩
    · rw [ndB_f z, q_xz1]
      exact q_ok ⟨I', rfl, hF⟩
  refine q_for m (fun j s => ∃ I', s = (540, a, ndB (∃ k, k < j ∧ badC b W m n nd sp k), (Int32.ofNat (j)), mg (4562 + zn J) I' J R) ∧ FrK Fdb I I' ∧ CWd I' m W P (fun _ => false)) ?_ ?_ (i := 0) ⟨I, by rw [ndB_f (fun y => by obtain ⟨k, y, -⟩ := y; exact absurd y (Nat.not_lt_zero _))]; rfl, FrK_rfl, hW⟩ (Nat.zero_le _) (by unfold xF; omega)
  · rintro j s hj ⟨I1, rfl, hF1, hW1⟩
    unfold f_X6_needsAllBrackets_s4
    dsimp only
    rw [q_let, q_let, q_let, q_let, q_let, gi_540, hW1.2.1, if_neg (show ¬ (Int32.ofNat (m)) ≤ (Int32.ofNat (j)) from fun y => absurd ((i32_le (by omega) (by omega)).mp y) (by omega))]
    by_cases z : ∃ k, k < j ∧ badC b W m n nd sp k
    · rw [ndB_t z, if_pos rfl]
      refine q_ex ⟨I1, ?_, hF1⟩
      obtain ⟨k, z1, z2⟩ := z
      rw [ndB_t ⟨k, by omega, z2⟩]
    rw [ndB_f z, if_neg (by first | decide | omega), if_pos ok_540]
    have next : ∀ (I2 : Nat → Nat → Int32) (p : Prop), FrK Fdb I I2 → CWd I2 m W P (fun _ => false) → ((∃ k, k < j + 1 ∧ badC b W m n nd sp k) ↔ p) → QK (f_X6_needsAllBrackets_j61 (mg (4562 + zn J) I2 J R) 540 a (ndB p) (Int32.ofNat (j))) (qS (fun s => ∃ I', s = (540, a, ndB (∃ k, k < j + 1 ∧ badC b W m n nd sp k), (Int32.ofNat (j + 1)), mg (4562 + zn J) I' J R) ∧ FrK Fdb I I' ∧ CWd I' m W P (fun _ => false)) (fun r => ∃ I', r = .inr (ndB (∃ k, k < m ∧ badC b W m n nd sp k), mg (4562 + zn J) I' J R) ∧ FrK Fdb I I')) := fun I2 p hF2 hW2 hp => by
      unfold f_X6_needsAllBrackets_j61
      rw [q_let, show (Int32.ofNat (j)) + (1 : Int32) = (Int32.ofNat (j + 1)) from n_add j 1, ← ndB_c hp]
      exact q_go ⟨I2, rfl, hF2, hW2⟩
    have last : ∀ (p : Prop), (badC b W m n nd sp j ↔ p) → ((∃ k, k < j + 1 ∧ badC b W m n nd sp k) ↔ p) := fun p hp => by
      constructor
      · rintro ⟨k, k1, k2⟩
        by_cases e : k = j
        · rw [e] at k2
          exact hp.mp k2
        · exact absurd ⟨k, by omega, k2⟩ z
      · exact fun y => ⟨j, by omega, hp.mpr y⟩
    rcases hP j hj with np | ⟨c, pp⟩
    · rw [C_opens0 hR hW1 hj np, if_pos rfl]
      have := next I1 False hF1 hW1 (last False ⟨fun ⟨c, y, _⟩ => np y.1, fun y => y.elim⟩)
      rw [ndB_f (fun y => y)] at this
      exact this
    · have pc := pp.2.2.1
      rw [C_opens1 hR hW1 hj pp.1, if_neg (by first | decide | omega), if_pos ok_540, C_partnerOf hR hW1 pp, if_pos ok_540]
      refine q_bind (C_hide (v := true) hR hW1 hj pc) ?_
      rintro _ ⟨I2, rfl, hF2, hW2⟩
      have hF2' : FrK Fdb I I2 := FrK_tr hF1 (FrK_mono hF2 (fun x k y => by unfold Fdb; omega))
      rw [if_pos ok_540]
      refine q_bind (C_stacksGive (a := a) (n := n) (nd := nd) (sp := sp) (len := len) hR (CTb_keep hC (fun x y => by funext k; exact hF2' x k (by unfold Fdb; omega))) hT hW2 (by rw [hF2' _ _ (by unfold Fdb; omega)]; exact h6) hlen (Nat.le_trans (vis_nws (k := 0) _ _) hn) (CT_keep hA (fun x g1 g2 => by funext k; exact hF2' x k (by unfold Fdb; omega))) ha) ?_
      rintro _ ⟨I3, hr, hF3⟩
      have hF3' : FrK Fdb I I3 := FrK_tr hF2' (FrK_mono hF3 (fun x k y => by unfold SRd at y; unfold Fdb; omega))
      have hW3 : CWd I3 m W P (hs j c true (fun _ => false)) := CWd_keep hW2 (fun x k y => hF3 x k (by unfold SRd; omega))
      have bd : badC b W m n nd sp j ↔ GoodW b W m n nd sp (hs j c true (fun _ => false)) := by
        constructor
        · rintro ⟨c', y1, y2⟩
          rw [mt_c (prd_mt pp) (prd_mt y1)]
          exact y2
        · exact fun y => ⟨c, pp, y⟩
      have bk : hs j c false (hs j c true (fun _ => false)) = (fun _ => false) := hs_back rfl rfl
      have fin : ∀ p : Prop, (badC b W m n nd sp j ↔ p) → QK (f_X6_needsAllBrackets_j52 (mg (4562 + zn J) I3 J R) 540 a (Int32.ofNat (j)) (Int32.ofNat (c)) (ndB p)) (qS (fun s => ∃ I', s = (540, a, ndB (∃ k, k < j + 1 ∧ badC b W m n nd sp k), (Int32.ofNat (j + 1)), mg (4562 + zn J) I' J R) ∧ FrK Fdb I I' ∧ CWd I' m W P (fun _ => false)) (fun r => ∃ I', r = .inr (ndB (∃ k, k < m ∧ badC b W m n nd sp k), mg (4562 + zn J) I' J R) ∧ FrK Fdb I I')) := fun p hp => by
        unfold f_X6_needsAllBrackets_j52
        rw [if_pos ok_540]
        refine q_bind (C_hide (v := false) hR hW3 hj pc) ?_
        rintro _ ⟨I4, rfl, hF4, hW4⟩
        rw [bk] at hW4
        exact next I4 p (FrK_tr hF3' (FrK_mono hF4 (fun x k y => by unfold Fdb; omega))) hW4 (last p hp)
      rcases hr with ⟨gd, rfl⟩ | ⟨gd, rfl⟩
      · rw [if_neg p10]
        have := fin True ⟨fun _ => trivial, fun _ => bd.mpr gd⟩
        rw [ndB_t trivial] at this
        exact this
      · rw [if_pos (show ((0 : Int32), mg (4562 + zn J) I3 J R).1 = 0 from rfl)]
        have := fin False ⟨fun y => gd (bd.mp y), fun y => y.elim⟩
        rw [ndB_f (fun y => y)] at this
        exact this
  · rintro s ⟨I1, rfl, hF1, hW1⟩
    unfold f_X6_needsAllBrackets_s4
    dsimp only
    rw [q_let, q_let, q_let, q_let, q_let, gi_540, hW1.2.1, if_pos (show (Int32.ofNat (m)) ≤ (Int32.ofNat (m)) from Int32.le_refl _)]
    exact q_ex ⟨I1, rfl, hF1⟩
/-- the reference's -/
def badM (b : GB) (W : Nat → Wd) (P2 : Nat → Nat) (g : Nat → Bool) (m n : Nat) (nd : Nat → Nd) (sp : Nat → Nat) (k : Nat) : Prop := P2 k ≠ 0 ∧ g k = false ∧ GoodW b W m n nd sp (hs k (P2 k) true g)
end NAB
