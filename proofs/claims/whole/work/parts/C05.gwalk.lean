/-! gathering: the class's walk -/
section CGW
variable {I : Nat → Nat → Int32} {J : Nat → Nat → Int64} {R : Nat → Nat → Option Nat} {β : Type} {a nm : Nat} {b : GB} {n : GN} {T : Tt}
def SimGc (J : Nat → Nat → Int64) (R : Nat → Nat → Option Nat) (I : Nat → Nat → Int32) (T : Tt) (a nm last h i : Nat) (o : Option Po) : Prop := ∃ I', FrK (Fgc h) I I' ∧ ((∃ p, o = some p ∧ h < 48 ∧ RX f_X3_collect_s26 (T.2.2 i) (2215, a, (Int32.ofNat (nm)), (Int32.ofNat (last)), (Int32.ofNat (pl T.2.2 i + 1 - T.2.2 i)), mg 4625 I J R) (2215, a, (Int32.ofNat (nm)), (Int32.ofNat (last)), (Int32.ofNat (pl T.2.2 i + 1)), mg 4625 I' J R) ∧ CRow I' h p ∧ I' 2215 4 = (Int32.ofNat (h + 1))) ∨ ((o = none ∨ 80 < 2 * h + T.2.2 i) ∧ ∃ k s', k < T.2.2 i ∧ RX f_X3_collect_s26 k (2215, a, (Int32.ofNat (nm)), (Int32.ofNat (last)), (Int32.ofNat (pl T.2.2 i + 1 - T.2.2 i)), mg 4625 I J R) s' ∧ f_X3_collect_s26 s' = some (.inr (.inl (.inl (mg 4625 I' J R))))))
theorem gn_step {i last : Nat} {y : Int32 × xM} (hR : RA R) (hA : CTT I a T) (hi : i < T.1) (hl : pl T.2.2 i ≤ last) (hl80 : last < 1000) (hy : f_X3_addNode (mg 4625 I J R) 2215 a (Int32.ofNat (i)) (Int32.ofNat (nm)) = some y) : f_X3_collect_s26 (2215, a, (Int32.ofNat (nm)), (Int32.ofNat (last)), (Int32.ofNat (pl T.2.2 i)), mg 4625 I J R) = if y.1 = 0 then some (.inr (.inl (.inl y.2))) else some (.inr (.inr (2215, a, (Int32.ofNat (nm)), (Int32.ofNat (last)), (Int32.ofNat (pl T.2.2 i + 1)), y.2))) := by
  have ta := hA.1.1
  unfold f_X3_collect_s26
  dsimp only
  rw [q_let, q_let, q_let, q_let, q_let, q_let, if_neg (show ¬ (Int32.ofNat (last)) < (Int32.ofNat (pl T.2.2 i)) from fun y => absurd ((i32_lt (by omega) (by omega)).mp y) (by omega)), if_pos (bT_xk ta), T_nodeAt hR hA hi rfl, Option.bind_some, if_pos ok_2215, hy, Option.bind_some, q_let, show (Int32.ofNat (pl T.2.2 i)) + (1 : Int32) = (Int32.ofNat (pl T.2.2 i + 1)) from n_add _ 1]
theorem C_gW (hR : RA R) (hO : TbOK b) (hg : ∀ l, l < 26 → Gd (n.2 l)) (ha : 10 ≤ a ∧ a + 8 ≤ 567) (hT : TtO b T) (h80 : T.1 ≤ 80) (hnm : nm < 1000) {last : Nat} (hl80 : last < T.1) : ∀ (F i h : Nat) (I : Nat → Nat → Int32), i < T.1 → T.2.2 i ≤ F → pl T.2.2 i ≤ last → CTb I b → CNm I n → CTT I a T → I 2215 4 = (Int32.ofNat (h)) → h ≤ pl T.2.2 i + 1 - T.2.2 i → SimGc J R I T a nm last h i (gaF b n nm T F i) := by
  intro F
  induction F with
  | zero =>
    intro i h I hi hF
    have := (hT.1.2.2.2 i hi).1
    omega
  | succ F ih =>
    intro i h I hi hF hll hB hN hA h4 hh
    have s1 := (hT.1.2.2.2 i hi).1
    have ke := (hT.1.2.2.2 i hi).2.2.1
    have nv := hT.2 i hi
    obtain ⟨v1, v2, v3, v4, -⟩ := NV_v nv
    have a4 : aro T.2.1 i ≤ 4 := v4
    have lt := pl_lt hT.1 hi
    have plg := pl_ge hT.1 hi
    have keep : ∀ {I1 : Nat → Nat → Int32}, FrK (Fgc h) I I1 → CTb I1 b ∧ CNm I1 n ∧ CTT I1 a T := fun f => ⟨CTb_keep hB (fun x g => by funext k; rw [f x k (by unfold Fgc Fga; omega)]), CNm_keep hN (fun x g => by funext k; rw [f x k (by unfold Fgc Fga; omega)]), CT_keep hA (fun x g1 g2 => by funext k; rw [f x k (by unfold Fgc Fga; omega)])⟩
    -- the operands
    have kids : ∀ K, K ≤ aro T.2.1 i → K + i + 1 ≤ kid T.2.2 i K ∧ ∃ I', FrK (Fgc h) I I' ∧ ((∃ ps : Nat → Po, (∀ j, j < K → gaF b n nm T F (kid T.2.2 i j) = some (ps j) ∧ h + j < 48 ∧ CRow I' (h + j) (ps j)) ∧ RX f_X3_collect_s26 (kid T.2.2 i K - i - 1) (2215, a, (Int32.ofNat (nm)), (Int32.ofNat (last)), (Int32.ofNat (pl T.2.2 i + 1 - T.2.2 i)), mg 4625 I J R) (2215, a, (Int32.ofNat (nm)), (Int32.ofNat (last)), (Int32.ofNat (pl T.2.2 i + 1 - T.2.2 i + (kid T.2.2 i K - i - 1))), mg 4625 I' J R) ∧ I' 2215 4 = (Int32.ofNat (h + K))) ∨ ((∃ j, j < K ∧ (gaF b n nm T F (kid T.2.2 i j) = none ∨ 80 < 2 * (h + j) + T.2.2 (kid T.2.2 i j))) ∧ ∃ k s', k < T.2.2 i ∧ RX f_X3_collect_s26 k (2215, a, (Int32.ofNat (nm)), (Int32.ofNat (last)), (Int32.ofNat (pl T.2.2 i + 1 - T.2.2 i)), mg 4625 I J R) s' ∧ f_X3_collect_s26 s' = some (.inr (.inl (.inl (mg 4625 I' J R)))))) := by
      intro K
      induction K with
      | zero =>
        intro _
        refine ⟨by show 0 + i + 1 ≤ i + 1; omega, I, FrK_rfl, Or.inl ⟨fun _ => conP 0, fun j hj => absurd hj (Nat.not_lt_zero _), ?_, h4⟩⟩
        rw [show kid T.2.2 i 0 - i - 1 = 0 by show i + 1 - i - 1 = 0; omega, Nat.add_zero]
        exact RX_0 _
      | succ K ihK =>
        intro hK
        obtain ⟨kg, I1, f1, g⟩ := ihK (by omega)
        obtain ⟨a1, a2, a3⟩ := kid_sp hT.1 hi (show K < aro T.2.1 i by omega)
        have kin := kid_in hT.1 hi (show K < aro T.2.1 i by omega)
        have pc := pl_child hT.1 hi (show K < aro T.2.1 i by omega)
        have ek : kid T.2.2 i (K + 1) = kid T.2.2 i K + T.2.2 (kid T.2.2 i K) := rfl
        refine ⟨by omega, ?_⟩
        rcases g with ⟨ps, hps, rx, t4⟩ | ⟨⟨j, hj, hjo⟩, k, s', hk, rx, st⟩
        rotate_left
        · exact ⟨I1, f1, Or.inr ⟨⟨j, by omega, hjo⟩, k, s', hk, rx, st⟩⟩
        obtain ⟨k1, k2, k3⟩ := keep f1
        have e0 : pl T.2.2 (kid T.2.2 i K) + 1 - T.2.2 (kid T.2.2 i K) = pl T.2.2 i + 1 - T.2.2 i + (kid T.2.2 i K - i - 1) := by omega
        have gg := ih (kid T.2.2 i K) (h + K) I1 a1 (by omega) (by omega) k1 k2 k3 t4 (by omega)
        obtain ⟨I2, f2, gg⟩ := gg
        rw [e0] at gg
        have f12 := FrK_tr f1 (Fgc_mono f2 (show h ≤ h + K by omega))
        rcases gg with ⟨p, e, hh2, rx2, cr, t5⟩ | ⟨ho, k, s', hk, rx2, st⟩
        · refine ⟨I2, f12, Or.inl ⟨fun j => if j = K then p else ps j, fun j hj => ?_, ?_, t5⟩⟩
          · dsimp only
            by_cases z : j = K
            · subst z
              rw [if_pos rfl]
              exact ⟨e, hh2, cr⟩
            · rw [if_neg z]
              obtain ⟨y1, y2, y3⟩ := hps j (by omega)
              refine ⟨y1, y2, fun x hx => FU_keep (y3.1 x hx) (fun u g1 g2 => by funext w; rw [f2 u w (by unfold Fgc Fga; omega)]), (f2 2217 (h + j) (by unfold Fgc Fga; omega)).trans y3.2⟩
          · have := RX_tr rx rx2
            rw [show kid T.2.2 i K - i - 1 + T.2.2 (kid T.2.2 i K) = kid T.2.2 i (K + 1) - i - 1 by omega] at this
            rw [show pl T.2.2 i + 1 - T.2.2 i + (kid T.2.2 i (K + 1) - i - 1) = pl T.2.2 (kid T.2.2 i K) + 1 by omega]
            exact this
        · exact ⟨I2, f12, Or.inr ⟨⟨K, Nat.lt_succ_self _, ho⟩, kid T.2.2 i K - i - 1 + k, s', by omega, RX_tr rx rx2, st⟩⟩
    obtain ⟨-, I1, f1, g⟩ := kids (aro T.2.1 i) (Nat.le_refl _)
    show SimGc J R I T a nm last h i (gaN b n nm T (gaF b n nm T F) i)
    rcases g with ⟨ps, hps, rx, t4⟩ | ⟨⟨j, hj, hjo⟩, k, s', hk, rx, st⟩
    rotate_left
    · refine ⟨I1, f1, Or.inr ⟨?_, k, s', hk, rx, st⟩⟩
      unfold gaN
      by_cases k3 : (T.2.1 i).1 ≠ 3
      · rw [if_pos k3, if_neg (by omega)]
        exact Or.inl rfl
      rw [if_neg k3]
      have k3 : (T.2.1 i).1 = 3 := Classical.byContradiction k3
      by_cases q11 : mz b (T.2.1 i) = 11
      · have h1 : aro T.2.1 i = 1 := (mz_one hO nv (by omega) (by omega)).2
        obtain ⟨a1, a2, a3⟩ := kid_sp hT.1 hi (show 0 < aro T.2.1 i by omega)
        have j0 : j = 0 := by omega
        subst j0
        have a3 : T.2.2 (i + 1) < T.2.2 i := a3
        have hjo : gaF b n nm T F (i + 1) = none ∨ 80 < 2 * (h + 0) + T.2.2 (i + 1) := hjo
        rw [if_pos q11]
        rcases hjo with e | e
        · rw [e]
          exact Or.inl rfl
        · exact Or.inr (by omega)
      rw [if_neg q11]
      by_cases q5 : mz b (T.2.1 i) ≤ 3 ∨ mz b (T.2.1 i) = 5
      · have h2 : aro T.2.1 i = 2 := (mz_two hO nv (by omega)).2
        obtain ⟨f0, a1, c1, c2, c3, c4, c5, c6⟩ := two_kids hT hi h2
        have kd : kid T.2.2 i 1 = i + 1 + T.2.2 (i + 1) := rfl
        have s2 := (hT.1.2.2.2 _ c1).1
        have s3 := (hT.1.2.2.2 _ a1).1
        rw [if_pos q5]
        rcases (by omega : j = 0 ∨ j = 1) with e | e
        · subst e
          have hjo : gaF b n nm T F (i + 1) = none ∨ 80 < 2 * (h + 0) + T.2.2 (i + 1) := hjo
          rcases hjo with e | e
          · rw [e]
            exact Or.inl rfl
          · exact Or.inr (by omega)
        · subst e
          rcases hjo with e | e
          · left
            cases gaF b n nm T F (i + 1) with
            | none => rfl
            | some u =>
              dsimp only
              rw [e]
          · exact Or.inr (by omega)
      · rw [if_neg q5]
        exact Or.inl rfl
    · have e1 : pl T.2.2 i + 1 - T.2.2 i + (kid T.2.2 i (aro T.2.1 i) - i - 1) = pl T.2.2 i := by omega
      have e2 : kid T.2.2 i (aro T.2.1 i) - i - 1 + 1 = T.2.2 i := by omega
      rw [e1] at rx
      obtain ⟨k1, k2, k3'⟩ := keep f1
      -- the end, by what adding the node gave
      have fin : ∀ {o : Option Po} {y : Int32 × xM}, f_X3_addNode (mg 4625 I1 J R) 2215 a (Int32.ofNat (i)) (Int32.ofNat (nm)) = some y → (∃ I2, FrK (Fgc h) I1 I2 ∧ ((∃ p, o = some p ∧ h < 48 ∧ y = (1, mg 4625 I2 J R) ∧ CRow I2 h p ∧ I2 2215 4 = (Int32.ofNat (h + 1))) ∨ ((o = none ∨ 80 < 2 * h + T.2.2 i) ∧ y = (0, mg 4625 I2 J R)))) → SimGc J R I T a nm last h i o := fun {o y} ey hy => by
        have stp := gn_step (J := J) hR k3' hi hll (by omega) ey
        obtain ⟨I2, f2, ⟨p, eo, h48, rfl, cr, t5⟩ | ⟨ho, rfl⟩⟩ := hy
        · refine ⟨I2, FrK_tr f1 f2, Or.inl ⟨p, eo, h48, ?_, cr, t5⟩⟩
          rw [if_neg (show ¬ (1 : Int32) = 0 by decide)] at stp
          have := RX_tr rx (RX_1 stp)
          rw [e2] at this
          exact this
        · rw [if_pos rfl] at stp
          exact ⟨I2, FrK_tr f1 f2, Or.inr ⟨ho, _, _, by omega, rx, stp⟩⟩
      by_cases k3 : (T.2.1 i).1 = 3
      · have nk : ¬ (T.2.1 i).1 ≠ 3 := fun y => y k3
        have gK := fun j p (hj : j < T.1) => gaF_K (nm := nm) hT hO hg F j p hj
        by_cases q11 : mz b (T.2.1 i) = 11
        · have h1 : aro T.2.1 i = 1 := (mz_one hO nv (by omega) (by omega)).2
          obtain ⟨y1, y2, y3⟩ := hps 0 (by omega)
          have y1 : gaF b n nm T F (i + 1) = some (ps 0) := y1
          obtain ⟨y, ey, hy⟩ := C_gaOp (J := J) (h := h) (nm := nm) (p := ps 0) (q := conP 0) hR k1 hO k3' ha hT hi k3 (H := h + 1) (by rw [t4, h1]) (by omega) (Or.inl ⟨q11, rfl, by omega, y3⟩)
          have eo : gaN b n nm T (gaF b n nm T F) i = some (negP (ps 0)) := by
            unfold gaN
            rw [if_neg nk, if_pos q11, y1]
          rw [eo]
          refine fin ey ?_
          rcases hy with ⟨-, I2, f2, ⟨p, ep, e, cr, t5⟩ | ⟨ep, -⟩⟩ | ⟨q5, -⟩ | ⟨q, -⟩
          · exact ⟨I2, f2, Or.inl ⟨p, ep, by omega, e, cr, t5⟩⟩
          · cases ep
          · exact absurd q11 (by omega)
          · exact absurd q11 q
        · by_cases q5 : mz b (T.2.1 i) ≤ 3 ∨ mz b (T.2.1 i) = 5
          · have h2 : aro T.2.1 i = 2 := (mz_two hO nv (by omega)).2
            obtain ⟨f0, a1, c1, -⟩ := two_kids hT hi h2
            obtain ⟨y1, y2, y3⟩ := hps 0 (by omega)
            obtain ⟨w1, w2, w3⟩ := hps 1 (by omega)
            have y1 : gaF b n nm T F (i + 1) = some (ps 0) := y1
            obtain ⟨y, ey, hy⟩ := C_gaOp (J := J) (h := h) (nm := nm) (p := ps 0) (q := ps 1) hR k1 hO k3' ha hT hi k3 (H := h + 2) (by rw [t4, h2]) (by omega) (Or.inr (Or.inl ⟨q5, rfl, by omega, y3, w3, gK _ _ a1 y1, gK _ _ c1 w1⟩))
            have eo : gaN b n nm T (gaF b n nm T F) i = gaT (mz b (T.2.1 i)) (T.2.1 (kid T.2.2 i 1)) (ps 0) (ps 1) := by
              unfold gaN
              rw [if_neg nk, if_neg q11, if_pos q5, y1]
              dsimp only
              rw [w1]
            rw [eo]
            refine fin ey ?_
            rcases hy with ⟨q, -⟩ | ⟨-, I2, f2, ⟨p, ep, e, cr, t5⟩ | ⟨ep, e⟩⟩ | ⟨-, q, -⟩
            · exact absurd q q11
            · exact ⟨I2, f2, Or.inl ⟨p, ep, by omega, e, cr, t5⟩⟩
            · exact ⟨I2, f2, Or.inr ⟨Or.inl ep, e⟩⟩
            · exact absurd q5 q
          · obtain ⟨y, ey, hy⟩ := C_gaOp (J := J) (h := h) (nm := nm) (p := conP 0) (q := conP 0) hR k1 hO k3' ha hT hi k3 (H := h + aro T.2.1 i) t4 (by omega) (Or.inr (Or.inr ⟨q11, q5⟩))
            have eo : gaN b n nm T (gaF b n nm T F) i = none := by
              unfold gaN
              rw [if_neg nk, if_neg q11, if_neg q5]
            rw [eo]
            refine fin ey ?_
            rcases hy with ⟨q, -⟩ | ⟨q, -⟩ | ⟨-, -, e⟩
            · exact absurd q q11
            · exact absurd q q5
            · exact ⟨I1, FrK_rfl, Or.inr ⟨Or.inl rfl, e⟩⟩
      · have ta := hA.1.1
        have nn80 := (CT_n hA).2
        obtain ⟨u1, -⟩ := k3'.1.2.2.2 i hi
        obtain ⟨y, ey, I2, f2, hy⟩ := C_gaLeaf (J := J) (nm := nm) (h := h + aro T.2.1 i) hR k3' ha k2 hg hT hi k3 hnm t4 (by omega)
        have en : f_X3_addNode (mg 4625 I1 J R) 2215 a (Int32.ofNat (i)) (Int32.ofNat (nm)) = some y := by
          unfold f_X3_addNode
          rw [bT_g0 ta hR, bT_aI ta (by omega), u1, if_neg k3, if_pos ok_2215, ey, Option.bind_some]
          rcases hy with ⟨-, p, -, rfl, -⟩ | ⟨-, rfl⟩
          · rfl
          · rfl
        have eo : gaN b n nm T (gaF b n nm T F) i = if aro T.2.1 i = 0 then lfP n nm (T.2.1 i) else none := if_pos k3
        rw [eo]
        refine fin en ?_
        by_cases a0 : aro T.2.1 i = 0
        · rw [a0, Nat.add_zero] at f2 hy
          rw [if_pos a0]
          rcases hy with ⟨h48, p, ep, e, cr, t5⟩ | ⟨ho, e⟩
          · exact ⟨I2, f2, Or.inl ⟨p, ep, h48, e, cr, t5⟩⟩
          · exact ⟨I2, f2, Or.inr ⟨by
              rcases ho with z | z
              · exact Or.inr (by omega)
              · exact Or.inl z, e⟩⟩
        · rw [if_neg a0]
          have ln : lfP n nm (T.2.1 i) = none := by
            unfold lfP
            rcases nv with z | z | z | z
            · exact absurd z.2.2.2 a0
            · exact absurd z.2.2.2 a0
            · rw [if_neg (by rw [z.1]; decide), if_neg (by rw [z.1]; decide)]
            · exact absurd z.1 k3
          rcases hy with ⟨h48, p, ep, -⟩ | ⟨ho, e⟩
          · rw [ln] at ep
            cases ep
          · exact ⟨I2, Fgc_mono f2 (by omega), Or.inr ⟨Or.inl rfl, e⟩⟩
end CGW
