/-! gathering: the reference's walk -/
def sbT (T : Tt) (i : Nat) : Tt := (T.2.2 i, fun j => T.2.1 (i + j), fun j => T.2.2 (i + j))
theorem gaF_sb {b : GB} {n : GN} {nm : Nat} {T : Tt} {i : Nat} : ∀ F j, gaF b n nm (sbT T i) F j = gaF b n nm T F (i + j) := by
  intro F
  induction F with
  | zero => intro j; rfl
  | succ F ih =>
    intro j
    have e1 := ih (j + 1)
    have e2 := ih (kid (sbT T i).2.2 j 1)
    have k1 : i + kid (sbT T i).2.2 j 1 = kid T.2.2 (i + j) 1 := by
      show i + (j + 1 + T.2.2 (i + (j + 1))) = i + j + 1 + T.2.2 (i + j + 1)
      rw [show i + (j + 1) = i + j + 1 by omega]
      omega
    rw [k1] at e2
    have e1 : gaF b n nm (sbT T i) F (j + 1) = gaF b n nm T F (i + j + 1) := e1
    show gaN b n nm (sbT T i) (gaF b n nm (sbT T i) F) j = gaN b n nm T (gaF b n nm T F) (i + j)
    unfold gaN
    rw [e1, e2]
    have e3 : (sbT T i).2.1 (kid (sbT T i).2.2 j 1) = T.2.1 (kid T.2.2 (i + j) 1) := by
      show T.2.1 (i + kid (sbT T i).2.2 j 1) = _
      rw [k1]
    rw [e3]
    rfl
theorem MT_sb {I : Nat → Nat → Int32} {a i : Nat} {T : Tt} (h : MT I a T.1 T.2.1 T.2.2) (hi : i < T.1) : MT I (a + i) (sbT T i).1 (sbT T i).2.1 (sbT T i).2.2 := by
  have s2 := (h.2.1.2.2.2 i hi).2.1
  refine ⟨⟨by have := h.1.1; show a + i + T.2.2 i ≤ 20300; omega, fun j hj => ?_⟩, WT_sub h.2.1 hi, fun j hj => ?_⟩
  · have hj : j < T.2.2 i := hj
    rw [Nat.add_assoc]
    exact h.1.2 (i + j) (by omega)
  · have hj : j < T.2.2 i := hj
    rw [Nat.add_assoc]
    exact h.2.2 (i + j) (by omega)
theorem TtO_sb {b : GB} {i : Nat} {T : Tt} (h : TtO b T) (hi : i < T.1) : TtO b (sbT T i) := by
  have s2 := (h.1.2.2.2 i hi).2.1
  exact ⟨WT_sub h.1 hi, fun j hj => h.2 (i + j) (by have hj : j < T.2.2 i := hj; omega)⟩
section MGW
variable {I : Nat → Nat → Int32} {J : Nat → Nat → Int64} {R : Nat → Nat → Option Nat} {β : Type} {a nm : Nat} {b : GB} {n : GN} {T : Tt}
def SimGm (J : Nat → Nat → Int64) (R : Nat → Nat → Option Nat) (I : Nat → Nat → Int32) (T : Tt) (nm h i : Nat) (o : Option Po) : Prop := ∃ I', FrK (Fgm h) I I' ∧ ((∃ p, o = some p ∧ RX f_X12_gathers_s12 (T.2.2 i) (4561, (Int32.ofNat (nm)), (Int32.ofNat (T.1)), 1, (Int32.ofNat (pl T.2.2 i + 1 - T.2.2 i)), mg 4625 I J R) (4561, (Int32.ofNat (nm)), (Int32.ofNat (T.1)), 1, (Int32.ofNat (pl T.2.2 i + 1)), mg 4625 I' J R) ∧ MRow I' h p ∧ I' 4561 68 = (Int32.ofNat (h + 1))) ∨ (o = none ∧ ∃ k q', k ≤ T.2.2 i ∧ q' ≤ T.1 ∧ RX f_X12_gathers_s12 k (4561, (Int32.ofNat (nm)), (Int32.ofNat (T.1)), 1, (Int32.ofNat (pl T.2.2 i + 1 - T.2.2 i)), mg 4625 I J R) (4561, (Int32.ofNat (nm)), (Int32.ofNat (T.1)), 0, (Int32.ofNat (q')), mg 4625 I' J R)))
theorem PgQ_sim {h i k : Nat} {o : Option Po} {I1 : Nat → Nat → Int32} (hR : RA R) (h80 : T.1 ≤ 80) (hi : i < T.1) (hod : Od I1 a T.1 T.2.2) (hk : k + 1 = T.2.2 i) (hl : pl T.2.2 i < T.1) (hf : FrK (Fgm h) I I1) (h0 : RX f_X12_gathers_s12 k (4561, (Int32.ofNat (nm)), (Int32.ofNat (T.1)), 1, (Int32.ofNat (pl T.2.2 i + 1 - T.2.2 i)), mg 4625 I J R) (4561, (Int32.ofNat (nm)), (Int32.ofNat (T.1)), 1, (Int32.ofNat (pl T.2.2 i)), mg 4625 I1 J R)) (hs : QK (f_X12_gatherNode (mg 4625 I1 J R) 4561 (Int32.ofNat (a + i)) (Int32.ofNat (nm))) (PgQ J R I1 h o)) : SimGm J R I T nm h i o := by
  obtain ⟨r, er, I2, f2, hr⟩ := hs
  have stp : f_X12_gathers_s12 (4561, (Int32.ofNat (nm)), (Int32.ofNat (T.1)), 1, (Int32.ofNat (pl T.2.2 i)), mg 4625 I1 J R) = some (.inr (.inr (4561, (Int32.ofNat (nm)), (Int32.ofNat (T.1)), r.1, (Int32.ofNat (pl T.2.2 i + 1)), r.2))) := by
    unfold f_X12_gathers_s12
    dsimp only
    rw [q_let, q_let, q_let, q_let, q_let, q_let, if_neg (show ¬ (Int32.ofNat (T.1)) ≤ (Int32.ofNat (pl T.2.2 i)) from fun y => absurd ((i32_le (by omega) (by omega)).mp y) (by omega)), if_neg (by decide), gr_4561_14 hR, ga_4574 (by omega), hod i hi, if_pos ok_4561, er, Option.bind_some, q_let, show (Int32.ofNat (pl T.2.2 i)) + (1 : Int32) = (Int32.ofNat (pl T.2.2 i + 1)) from n_add _ 1]
  have h1 := RX_tr h0 (RX_1 stp)
  rcases hr with ⟨p, rfl, rfl, g2, g3⟩ | ⟨rfl, rfl⟩
  · refine ⟨I2, FrK_tr hf f2, Or.inl ⟨p, rfl, ?_, g2, g3⟩⟩
    rw [hk] at h1
    exact h1
  · exact ⟨I2, FrK_tr hf f2, Or.inr ⟨rfl, k + 1, pl T.2.2 i + 1, by omega, by omega, h1⟩⟩
theorem M_gaW (hR : RA R) (hO : TbOK b) (hg : ∀ l, l < 26 → Gd (n.2 l)) (hT : TtO b T) (h80 : T.1 ≤ 80) (hnm : nm < 1000) {h0 : Nat} (hh0 : h0 ≤ 1) : ∀ (F i h : Nat) (I : Nat → Nat → Int32), i < T.1 → T.2.2 i ≤ F → MTb I b → MNm I n → MT I a T.1 T.2.1 T.2.2 → Od I a T.1 T.2.2 → I 4561 68 = (Int32.ofNat (h)) → h ≤ h0 + (pl T.2.2 i + 1 - T.2.2 i) → SimGm J R I T nm h i (gaF b n nm T F i) := by
  intro F
  induction F with
  | zero =>
    intro i h I hi hF
    have := (hT.1.2.2.2 i hi).1
    omega
  | succ F ih =>
    intro i h I hi hF hB hN hA hod h3 hh
    have s1 := (hT.1.2.2.2 i hi).1
    have ke := (hT.1.2.2.2 i hi).2.2.1
    have nv := hT.2 i hi
    obtain ⟨v1, v2, v3, v4, -⟩ := NV_v nv
    have a4 : aro T.2.1 i ≤ 4 := v4
    have lt := pl_lt hT.1 hi
    have plg := pl_ge hT.1 hi
    have keep : ∀ {I1 : Nat → Nat → Int32}, FrK (Fgm h) I I1 → MTb I1 b ∧ MNm I1 n ∧ MT I1 a T.1 T.2.1 T.2.2 ∧ Od I1 a T.1 T.2.2 := fun f => ⟨MTb_keep hB (fun x k g => f x k (by unfold Fgm; omega)), MNm_keep hN (fun x k g => f x k (by unfold Fgm; omega)), MT_keep hA (fun x k g1 g2 g3 g4 => f x k (by unfold Fgm; omega)), fun j hj => (f 4574 _ (by unfold Fgm; omega)).trans (hod j hj)⟩
    -- the operands
    have kids : ∀ K, K ≤ aro T.2.1 i → K + i + 1 ≤ kid T.2.2 i K ∧ ∃ I', FrK (Fgm h) I I' ∧ ((∃ ps : Nat → Po, (∀ j, j < K → gaF b n nm T F (kid T.2.2 i j) = some (ps j) ∧ MRow I' (h + j) (ps j)) ∧ RX f_X12_gathers_s12 (kid T.2.2 i K - i - 1) (4561, (Int32.ofNat (nm)), (Int32.ofNat (T.1)), 1, (Int32.ofNat (pl T.2.2 i + 1 - T.2.2 i)), mg 4625 I J R) (4561, (Int32.ofNat (nm)), (Int32.ofNat (T.1)), 1, (Int32.ofNat (pl T.2.2 i + 1 - T.2.2 i + (kid T.2.2 i K - i - 1))), mg 4625 I' J R) ∧ I' 4561 68 = (Int32.ofNat (h + K))) ∨ ((∃ j, j < K ∧ gaF b n nm T F (kid T.2.2 i j) = none) ∧ ∃ k q', k ≤ T.2.2 i ∧ q' ≤ T.1 ∧ RX f_X12_gathers_s12 k (4561, (Int32.ofNat (nm)), (Int32.ofNat (T.1)), 1, (Int32.ofNat (pl T.2.2 i + 1 - T.2.2 i)), mg 4625 I J R) (4561, (Int32.ofNat (nm)), (Int32.ofNat (T.1)), 0, (Int32.ofNat (q')), mg 4625 I' J R))) := by
      intro K
      induction K with
      | zero =>
        intro _
        refine ⟨by show 0 + i + 1 ≤ i + 1; omega, I, FrK_rfl, Or.inl ⟨fun _ => conP 0, fun j hj => absurd hj (Nat.not_lt_zero _), ?_, h3⟩⟩
        rw [show kid T.2.2 i 0 - i - 1 = 0 by show i + 1 - i - 1 = 0; omega, Nat.add_zero]
        exact RX_0 _
      | succ K ihK =>
        intro hK
        obtain ⟨kg, I1, f1, g⟩ := ihK (by omega)
        obtain ⟨a1, a2, a3⟩ := kid_sp hT.1 hi (show K < aro T.2.1 i by omega)
        have kin := kid_in hT.1 hi (show K < aro T.2.1 i by omega)
        have pc := pl_child hT.1 hi (show K < aro T.2.1 i by omega)
        have ek : kid T.2.2 i (K + 1) = kid T.2.2 i K + T.2.2 (kid T.2.2 i K) := rfl
        refine ⟨by omega, ?_⟩
        rcases g with ⟨ps, hps, rx, t4⟩ | ⟨⟨j, hj, hjo⟩, k, q', hk, hq, rx⟩
        rotate_left
        · exact ⟨I1, f1, Or.inr ⟨⟨j, by omega, hjo⟩, k, q', hk, hq, rx⟩⟩
        obtain ⟨k1, k2, k3, k4⟩ := keep f1
        have e0 : pl T.2.2 (kid T.2.2 i K) + 1 - T.2.2 (kid T.2.2 i K) = pl T.2.2 i + 1 - T.2.2 i + (kid T.2.2 i K - i - 1) := by omega
        have gg := ih (kid T.2.2 i K) (h + K) I1 a1 (by omega) k1 k2 k3 k4 t4 (by omega)
        obtain ⟨I2, f2, gg⟩ := gg
        rw [e0] at gg
        have f12 := FrK_tr f1 (Fgm_mono f2 (show h ≤ h + K by omega))
        rcases gg with ⟨p, e, rx2, cr, t5⟩ | ⟨ho, k, q', hk, hq, rx2⟩
        · refine ⟨I2, f12, Or.inl ⟨fun j => if j = K then p else ps j, fun j hj => ?_, ?_, t5⟩⟩
          · dsimp only
            by_cases z : j = K
            · subst z
              rw [if_pos rfl]
              exact ⟨e, cr⟩
            · rw [if_neg z]
              obtain ⟨y1, y3⟩ := hps j (by omega)
              exact ⟨y1, fun x hx => Vv_ks (S := fun x => 2700 + 9 * (h + K) ≤ x) (y3 x hx) (fun u hu => f2 4564 u (by unfold Fgm; omega)) (by omega)⟩
          · have := RX_tr rx rx2
            rw [show kid T.2.2 i K - i - 1 + T.2.2 (kid T.2.2 i K) = kid T.2.2 i (K + 1) - i - 1 by omega] at this
            rw [show pl T.2.2 i + 1 - T.2.2 i + (kid T.2.2 i (K + 1) - i - 1) = pl T.2.2 (kid T.2.2 i K) + 1 by omega]
            exact this
        · exact ⟨I2, f12, Or.inr ⟨⟨K, Nat.lt_succ_self _, ho⟩, kid T.2.2 i K - i - 1 + k, q', by omega, hq, RX_tr rx rx2⟩⟩
    obtain ⟨-, I1, f1, g⟩ := kids (aro T.2.1 i) (Nat.le_refl _)
    show SimGm J R I T nm h i (gaN b n nm T (gaF b n nm T F) i)
    rcases g with ⟨ps, hps, rx, t4⟩ | ⟨⟨j, hj, hjo⟩, k, q', hk, hq, rx⟩
    rotate_left
    · refine ⟨I1, f1, Or.inr ⟨?_, k, q', hk, hq, rx⟩⟩
      unfold gaN
      by_cases k3 : (T.2.1 i).1 ≠ 3
      · rw [if_pos k3, if_neg (by omega)]
      rw [if_neg k3]
      have k3 : (T.2.1 i).1 = 3 := Classical.byContradiction k3
      by_cases q11 : mz b (T.2.1 i) = 11
      · have h1 : aro T.2.1 i = 1 := (mz_one hO nv (by omega) (by omega)).2
        have j0 : j = 0 := by omega
        subst j0
        have hjo : gaF b n nm T F (i + 1) = none := hjo
        rw [if_pos q11, hjo]
      rw [if_neg q11]
      by_cases q5 : mz b (T.2.1 i) ≤ 3 ∨ mz b (T.2.1 i) = 5
      · have h2 : aro T.2.1 i = 2 := (mz_two hO nv (by omega)).2
        rw [if_pos q5]
        rcases (by omega : j = 0 ∨ j = 1) with e | e
        · subst e
          have hjo : gaF b n nm T F (i + 1) = none := hjo
          rw [hjo]
        · subst e
          cases gaF b n nm T F (i + 1) with
          | none => rfl
          | some u =>
            dsimp only
            rw [hjo]
      · rw [if_neg q5]
    · have e1 : pl T.2.2 i + 1 - T.2.2 i + (kid T.2.2 i (aro T.2.1 i) - i - 1) = pl T.2.2 i := by omega
      have e2 : kid T.2.2 i (aro T.2.1 i) - i - 1 + 1 = T.2.2 i := by omega
      rw [e1] at rx
      obtain ⟨k1, k2, k3', k4⟩ := keep f1
      refine PgQ_sim hR h80 hi k4 e2 lt f1 rx ?_
      by_cases k3 : (T.2.1 i).1 = 3
      · have nk : ¬ (T.2.1 i).1 ≠ 3 := fun y => y k3
        have gK := fun j p (hj : j < T.1) => gaF_K (nm := nm) hT hO hg F j p hj
        by_cases q11 : mz b (T.2.1 i) = 11
        · have h1 : aro T.2.1 i = 1 := (mz_one hO nv (by omega) (by omega)).2
          obtain ⟨y1, y3⟩ := hps 0 (by omega)
          have y1 : gaF b n nm T F (i + 1) = some (ps 0) := y1
          have eo : gaN b n nm T (gaF b n nm T F) i = some (negP (ps 0)) := by
            unfold gaN
            rw [if_neg nk, if_pos q11, y1]
          rw [eo]
          exact M_gaNeg hR k3' k1 hO hT hi q11 (by omega) (by rw [t4, h1]) y3
        · by_cases q5 : mz b (T.2.1 i) ≤ 3 ∨ mz b (T.2.1 i) = 5
          · have h2 : aro T.2.1 i = 2 := (mz_two hO nv (by omega)).2
            obtain ⟨f0, a1, c1, -⟩ := two_kids hT hi h2
            obtain ⟨y1, y3⟩ := hps 0 (by omega)
            obtain ⟨w1, w3⟩ := hps 1 (by omega)
            have y1 : gaF b n nm T F (i + 1) = some (ps 0) := y1
            have eo : gaN b n nm T (gaF b n nm T F) i = gaT (mz b (T.2.1 i)) (T.2.1 (kid T.2.2 i 1)) (ps 0) (ps 1) := by
              unfold gaN
              rw [if_neg nk, if_neg q11, if_pos q5, y1]
              dsimp only
              rw [w1]
            rw [eo]
            exact M_gaBin hR k3' k1 hO hT hi q5 (by omega) (by rw [t4, h2]) y3 w3 (gK _ _ a1 y1) (gK _ _ c1 w1)
          · have eo : gaN b n nm T (gaF b n nm T F) i = none := by
              unfold gaN
              rw [if_neg nk, if_neg q11, if_neg q5]
            rw [eo]
            exact M_gaElse hR k3' k1 hO hT hi (Or.inr ⟨k3, q11, q5⟩)
      · have eo : gaN b n nm T (gaF b n nm T F) i = if aro T.2.1 i = 0 then lfP n nm (T.2.1 i) else none := if_pos k3
        rw [eo]
        rcases nv with y | y | y | y
        · have a0 : aro T.2.1 i = 0 := y.2.2.2
          rw [if_pos a0]
          exact M_gaLeaf hR k3' k2 hg hT hi hnm (Or.inl y.1) (by omega) (by rw [t4, a0]; rfl)
        · have a0 : aro T.2.1 i = 0 := y.2.2.2
          rw [if_pos a0]
          exact M_gaLeaf hR k3' k2 hg hT hi hnm (Or.inr y.1) (by omega) (by rw [t4, a0]; rfl)
        · have ln : (if aro T.2.1 i = 0 then lfP n nm (T.2.1 i) else none) = none := by
            unfold lfP
            rw [if_neg (show ¬ (T.2.1 i).1 = 0 by rw [y.1]; decide), if_neg (show ¬ (T.2.1 i).1 = 1 by rw [y.1]; decide)]
            split <;> rfl
          rw [ln]
          exact M_gaElse hR k3' k1 hO hT hi (Or.inl y.1)
        · exact absurd y.1 k3
/-- a part gathered onto the stack -/
theorem M_gathers {h0 : Nat} (hR : RA R) (hO : TbOK b) (hg : ∀ l, l < 26 → Gd (n.2 l)) (hT : TtO b T) (h80 : T.1 ≤ 80) (hnm : nm < 1000) (hh0 : h0 ≤ 1) (hB : MTb I b) (hN : MNm I n) (hA : MT I a T.1 T.2.1 T.2.2) (h68 : I 4561 68 = (Int32.ofNat (h0))) : QK (f_X12_gathers (mg 4625 I J R) 4561 (Int32.ofNat (a)) (Int32.ofNat (nm))) (fun r => ∃ I', FrK (fun x k => Fgm h0 x k ∨ x = 4574) I I' ∧ ((∃ p, gaF b n nm T 100 0 = some p ∧ r = (1, mg 4625 I' J R) ∧ MRow I' h0 p ∧ I' 4561 68 = (Int32.ofNat (h0 + 1))) ∨ (gaF b n nm T 100 0 = none ∧ r = (0, mg 4625 I' J R)))) := by
  have n0 := hT.1.1
  have s0 := hT.1.2.2.1
  have p0 := pl_0 hT.1
  have q0 : pl T.2.2 0 + 1 - T.2.2 0 = 0 := by omega
  unfold f_X12_gathers
  rw [if_pos ok_4561]
  refine q_bind (M_inOrder hR hA (by omega)) ?_
  rintro _ ⟨I2, rfl, f2, od⟩
  rw [q_let, q_let]
  have f12 : FrK (fun x k => Fgm h0 x k ∨ x = 4574) I I2 := fun x k y => by
    rw [f2 x (fun z => y (Or.inr z))]
  have t2 : I2 4561 68 = (Int32.ofNat (h0)) := by rw [f2 4561 (by decide)]; exact h68
  have g := M_gaW (J := J) (nm := nm) (a := a) hR hO hg hT h80 hnm hh0 100 0 h0 I2 n0 (by omega) (MTb_keep hB (fun x k g => f12 x k (by unfold Fgm; omega))) (MNm_keep hN (fun x k g => f12 x k (by unfold Fgm; omega))) (MT_keep hA (fun x k g1 g2 g3 g4 => f12 x k (by unfold Fgm; omega))) od t2 (by omega)
  obtain ⟨I3, f3, g⟩ := g
  rw [q0] at g
  have f23 : FrK (fun x k => Fgm h0 x k ∨ x = 4574) I I3 := FrK_tr f12 (FrK_mono f3 (fun x k y => Or.inl y))
  rcases g with ⟨p, e, g1, g3, g4⟩ | ⟨e, k, q', g3, g4, g5⟩
  · have en : f_X12_gathers_s12 (4561, (Int32.ofNat (nm)), (Int32.ofNat (T.1)), 1, (Int32.ofNat (pl T.2.2 0 + 1)), mg 4625 I3 J R) = some (.inr (.inl (1, mg 4625 I3 J R))) := by
      unfold f_X12_gathers_s12
      dsimp only
      rw [q_let, q_let, q_let, q_let, q_let, q_let, if_pos ((i32_le (by omega) (by omega)).mpr (by omega))]
    have r1 := g1 (xF - T.2.2 0)
    rw [show xF - T.2.2 0 + T.2.2 0 = xF by unfold xF; omega, xl_e (by unfold xF; omega) en] at r1
    rw [show xloop f_X12_gathers_s12 xF (4561, (Int32.ofNat (nm)), (Int32.ofNat (T.1)), 1, 0, mg 4625 I2 J R) = _ from r1, Option.bind_some]
    exact q_ok ⟨I3, f23, Or.inl ⟨p, e, rfl, g3, g4⟩⟩
  · have en : f_X12_gathers_s12 (4561, (Int32.ofNat (nm)), (Int32.ofNat (T.1)), 0, (Int32.ofNat (q')), mg 4625 I3 J R) = some (.inr (.inl (0, mg 4625 I3 J R))) := by
      unfold f_X12_gathers_s12
      dsimp only
      rw [q_let, q_let, q_let, q_let, q_let, q_let]
      by_cases z : (Int32.ofNat (T.1)) ≤ (Int32.ofNat (q'))
      · rw [if_pos z]
      · rw [if_neg z, if_pos rfl]
    have r1 := g5 (xF - k)
    rw [show xF - k + k = xF by unfold xF; omega, xl_e (by unfold xF; omega) en] at r1
    rw [show xloop f_X12_gathers_s12 xF (4561, (Int32.ofNat (nm)), (Int32.ofNat (T.1)), 1, 0, mg 4625 I2 J R) = _ from r1, Option.bind_some]
    exact q_ok ⟨I3, f23, Or.inr ⟨e, rfl⟩⟩
end MGW
