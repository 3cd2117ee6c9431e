/-! gathering: the class collects a part, and keeps it -/
section CCO
variable {I : Nat → Nat → Int32} {J : Nat → Nat → Int64} {R : Nat → Nat → Option Nat} {β : Type} {a nm i : Nat} {b : GB} {n : GN} {T : Tt}
theorem sub_1 {x y : Nat} (h : y ≤ x + 1) : (Int32.ofNat (x)) - (Int32.ofNat (y)) + (1 : Int32) = (Int32.ofNat (x + 1 - y)) := by
  rw [Int32.sub_eq_add_neg, show (Int32.ofNat (x)) + -(Int32.ofNat (y)) + (1 : Int32) = (Int32.ofNat (x)) + 1 + -(Int32.ofNat (y)) by ac_rfl, ← Int32.sub_eq_add_neg, show (Int32.ofNat (x)) + (1 : Int32) = (Int32.ofNat (x + 1)) from n_add x 1]
  exact n_sub h
theorem C_collect (hR : RA R) (hO : TbOK b) (hg : ∀ l, l < 26 → Gd (n.2 l)) (ha : 10 ≤ a ∧ a + 8 ≤ 567) (hT : TtO b T) (h80 : T.1 ≤ 80) (hnm : nm < 1000) (hi : i < T.1) (hB : CTb I b) (hN : CNm I n) (hA : CTT I a T) : QK (f_X3_collect (mg 4625 I J R) 2215 a (Int32.ofNat (i)) (Int32.ofNat (nm))) (fun y => ∃ I', FrK (Fgc 0) I I' ∧ ((∃ p, gaF b n nm T 100 i = some p ∧ y = ((Int32.ofNat (dgP p)), mg 4625 I' J R) ∧ CRow I' 0 p) ∨ (gaF b n nm T 100 i = none ∧ y = (-1, mg 4625 I' J R)))) := by
  have ta := hA.1.1
  have s1 := (hT.1.2.2.2 i hi).1
  have s2 := (hT.1.2.2.2 i hi).2.1
  have lt := pl_lt hT.1 hi
  have plg := pl_ge hT.1 hi
  unfold f_X3_collect
  rw [gs_2215]
  have f1 : FrK (Fgc 0) I (up I 2215 4 0) := FrK_up FrK_rfl (Or.inr ⟨rfl, rfl⟩)
  have t1 : up I 2215 4 0 2215 4 = (Int32.ofNat (0)) := up_s
  have A1 : CTT (up I 2215 4 0) a T := CT_keep hA (fun x g1 g2 => up_r (by omega))
  have B1 : CTb (up I 2215 4 0) b := CTb_keep hB (fun x g => up_r (by omega))
  have N1 : CNm (up I 2215 4 0) n := CNm_keep hN (fun x g => up_r (by omega))
  generalize up I 2215 4 0 = I1 at *
  obtain ⟨e5, e6, -⟩ := A1.2.2 i hi
  rw [bT_g5 ta hR, bT_aI ta (by omega), e6, bT_g4 ta hR, bT_aI ta (by omega), e5, sub_1 (by omega), q_let]
  obtain ⟨I2, f2, g⟩ := C_gW (J := J) (nm := nm) hR hO hg ha hT h80 hnm lt 100 i 0 I1 hi (by omega) (Nat.le_refl _) B1 N1 A1 t1 (Nat.zero_le _)
  have f12 := FrK_tr f1 f2
  rcases g with ⟨p, ep, -, rx, cr, t4⟩ | ⟨ho, k, s', hk, rx, st⟩
  · have en : f_X3_collect_s26 (2215, a, (Int32.ofNat (nm)), (Int32.ofNat (pl T.2.2 i)), (Int32.ofNat (pl T.2.2 i + 1)), mg 4625 I2 J R) = some (.inr (.inl (.inr (2215, mg 4625 I2 J R)))) := by
      unfold f_X3_collect_s26
      dsimp only
      rw [q_let, q_let, q_let, q_let, q_let, q_let, if_pos ((i32_lt (by omega) (by omega)).mpr (Nat.lt_succ_self _))]
    have r1 := rx (xF - T.2.2 i)
    rw [show xF - T.2.2 i + T.2.2 i = xF by unfold xF; omega, xl_e (by unfold xF; omega) en] at r1
    rw [r1, Option.bind_some]
    simp only [Sum.elim_inr]
    unfold f_X3_collect_j56 f_X3_collect_j74
    rw [gi_2215, t4, if_pos (show (Int32.ofNat (0 + 1)) = (1 : Int32) from rfl), gr_2215_3 hR, show (0 : Int32) = (Int32.ofNat (0)) from rfl, ga_2217 (by decide), cr.2]
    exact q_ok ⟨I2, f12, Or.inl ⟨p, ep, rfl, cr⟩⟩
  · have hn : gaF b n nm T 100 i = none := by
      rcases ho with z | z
      · exact z
      · omega
    have r1 := rx (xF - k)
    rw [show xF - k + k = xF by unfold xF; omega, xl_e (by unfold xF; omega) st] at r1
    rw [r1, Option.bind_some]
    simp only [Sum.elim_inr, Sum.elim_inl]
    unfold f_X3_collect_j48
    exact q_ok ⟨I2, f12, Or.inr ⟨hn, rfl⟩⟩
theorem C_keep {p : Po} (hR : RA R) (kp : PoK p) (hP : CRow I 0 p) : QK (f_X3_keep (mg 4625 I J R) 2215) (fun x => ∃ I', x = mg 4625 I' J R ∧ FrS (fun x => 4416 ≤ x ∧ x < 4541 ∧ (x - 4416) % 15 < 5) I I' ∧ ∀ k, k < 9 → CV I' (4416 + 15 * k) (gv (p k))) := by
  unfold f_X3_keep
  rw [q_let]
  refine q_bind (P := fun x => ∃ I', x = .inr (mg 4625 I' J R) ∧ FrS (fun x => 4416 ≤ x ∧ x < 4541 ∧ (x - 4416) % 15 < 5) I I' ∧ ∀ k, k < 9 → CV I' (4416 + 15 * k) (gv (p k))) ?_ ?_
  · refine q_for 9 (fun i s => ∃ I', s = (2215, (Int32.ofNat (i)), mg 4625 I' J R) ∧ FrS (fun x => 4416 ≤ x ∧ x < 4541 ∧ (x - 4416) % 15 < 5) I I' ∧ ∀ k, k < i → CV I' (4416 + 15 * k) (gv (p k))) ?_ ?_ (i := 0) ⟨I, rfl, FrS_rfl, fun j hj => absurd hj (Nat.not_lt_zero _)⟩ (by omega) (by unfold xF; omega)
    · rintro i s hi ⟨I1, rfl, f1, g1⟩
      unfold f_X3_keep_s2
      dsimp only
      have W : FU I1 (2246 + 5 * (9 * 0 + i)) 7 (p i).num (p i).den := FU_keep (hP.1 i hi) (fun x g1 g2 => f1 x (by omega))
      rw [q_let, q_let, q_let, if_neg (show ¬ (9 : Int32) ≤ (Int32.ofNat (i)) from fun y => absurd ((i32_le (k := 9) (by omega) (by omega)).mp y) (by omega)), gr_2215_9 hR, g_kept hR hi, gr_2215_2 hR, C_rw hR (by omega), if_pos (bF_xk (isF_4416 hi)), show 2246 + 5 * i = 2246 + 5 * (9 * 0 + i) by omega]
      refine q_bind (F_copy hR (isF_4416 hi) W (Fit_7 (kp.1 i hi)).1 (Fit_7 (kp.1 i hi)).2 (by omega)) ?_
      rintro _ ⟨I2, rfl, f2, W2⟩
      rw [q_let, show (Int32.ofNat (i)) + (1 : Int32) = (Int32.ofNat (i + 1)) from n_add i 1]
      refine q_go ⟨I2, rfl, FrS_tr f1 (fun x y => f2 x (fun z => by unfold Sf at z; omega)), fun j hj => ?_⟩
      by_cases z : j = i
      · subst z
        exact W2
      · exact CV_keep (g1 j (by omega)) (fun x g1 g2 => f2 x (fun z => by unfold Sf at z; omega))
    · rintro s ⟨I1, rfl, f1, g1⟩
      unfold f_X3_keep_s2
      dsimp only
      rw [q_let, q_let, q_let, if_pos (by decide)]
      exact q_ex ⟨I1, rfl, f1, g1⟩
  · rintro _ ⟨I1, rfl, f1, g1⟩
    simp only [Sum.elim_inr]
    unfold f_X3_keep_j29
    exact q_ok ⟨I1, rfl, f1, g1⟩
end CCO
