/-! calls: derive -/
section ODV
variable {I : Nat → Nat → Int32} {J : Nat → Nat → Int64} {R : Nat → Nat → Option Nat} {t : GT} {s : GS} {b : GB} {n : GN} {f : GF} {v : GV} {q : Nat → GV} {p : GT} {r : GR} {h : GH} {β : Type}
theorem l_derive {w x y : Int32} {I1 : Nat → Nat → Int32} (h : f_X11_derive (mg 4625 I J R) 0 x y = some (.inl w, mg 4625 I1 J R)) : f_L_derive (mg 4625 I J R) 0 x y 4624 = some (0, mg 4625 I1 (oJ J w.toInt64) R) := by
  unfold f_L_derive
  rw [if_pos ok_0, h, Option.bind_some, q_let, Sum.elim_inl, owJ0]
  rfl
theorem o_derive (hR : RA R) (H : Inv I) : op_derive Pinv (mg 4625 I J R) := by
  obtain ⟨t, s, b, n, f, v, q, p, r, h, hC, hM, hO⟩ := H
  intro x y0
  have h30 := hC.2.1.1
  have hOb := (OKH_top hO).1
  have h20 := hC.2.2.2.2.2.2.2.2.2.1
  have hf := hC.2.2.2.2.2.2.2.2.2.2.1
  show opW Pinv (f_L_derive (mg 4625 I J R) 0 x (ch y0) 4624) (fun σ => f_X12_derive σ 4561 x (ch y0))
  generalize ch y0 = y
  rcases i32_two s.1 (by omega) x with ⟨k, hk, rfl⟩ | hx
  rotate_left
  · have e3 : f_L_derive (mg 4625 I J R) 0 x y 4624 = some (1, mg 4625 I J R) := by
      unfold f_L_derive f_X11_derive
      rw [if_pos ok_0, if_pos ok_0, C_treeAt0 hR hC.2.1 hx, Sum.elim_inr, Option.bind_some, q_let, Sum.elim_inr, if_pos rfl]
    have e2 : f_X12_derive (mg 4625 I J R) 4561 x y = some (0, mg 4625 (thI I 1) J R) := by
      unfold f_X12_derive f_X12_derive_j14 f_X12_derive_j26
      rw [if_pos ok_4561, M_isTree0 hM.2.1 h30 hx, if_pos rfl]
      rcases m_isNameE (σ := mg 4625 I J R) (c := y) with e | e
      · rw [e, Option.bind_some, if_pos rfl, if_pos ok_4561, m_refX]
      · rw [e, Option.bind_some, if_neg (by decide), if_pos ok_4561, m_refX]
    exact op_ex e3 e2 thI_0 (by decide) (Pinv_th hR hC hM hO (fun x _ => rfl))
  have ct := hC.2.1.2.2 k hk
  have n80 := (CT_n ct).2
  have hT : TtO b (shT s k) := tro_of hC hO hk
  by_cases hy : (97 : Int32) ≤ y ∧ y ≤ (122 : Int32)
  rotate_left
  · have e3 : f_L_derive (mg 4625 I J R) 0 (Int32.ofNat (k)) y 4624 = some (2, mg 4625 I J R) := by
      unfold f_L_derive f_X11_derive
      rw [if_pos ok_0, if_pos ok_0, C_treeAt1 hR hC.2.1 hk, Sum.elim_inl, if_pos ok_0, c_needName0 hy, Option.bind_some, Sum.elim_inr, Option.bind_some, q_let, Sum.elim_inr, if_neg (by decide), if_pos rfl]
    have e2 : f_X12_derive (mg 4625 I J R) 4561 (Int32.ofNat (k)) y = some (0, mg 4625 (thI I 2) J R) := by
      unfold f_X12_derive f_X12_derive_j14 f_X12_derive_j26
      rw [if_pos ok_4561, M_isTree1 hM.2.1 h30 hk, if_neg (by decide), m_isName0 hy, Option.bind_some, if_pos rfl, if_pos ok_4561, m_refY]
    exact op_ex e3 e2 thI_0 (by decide) (Pinv_th hR hC hM hO (fun x _ => rfl))
  obtain ⟨nm, h1, rfl⟩ : ∃ nm, nm < 123 ∧ y = (Int32.ofNat (nm)) := by
    rcases i32_two 123 (by omega) y with ⟨m, hm, rfl⟩ | z | z
    · exact ⟨m, hm, rfl⟩
    · exact absurd (Int32.lt_of_le_of_lt hy.1 z) (by decide)
    · exact absurd (Int32.le_trans z hy.2) (by decide)
  -- the reference makes the derivative
  have der : ∀ (J : Nat → Nat → Int64) (I2 : Nat → Nat → Int32), (∀ x k, 4561 ≤ x → I2 x k = I x k) → QK (f_X12_derive (mg 4625 I2 J R) 4561 (Int32.ofNat (k)) (Int32.ofNat (nm))) (fun z => ∃ I3, FrK Fdv (thI I2 0) I3 ∧ InvM I3 t s b n f v q p r h ∧ (((∀ i, i < (shT s k).1 → told b (shT s k) i) ∧ ∃ A, dvF b (shT s k) nm 200 0 = some A ∧ MT I3 13740 A.length (nlN A) (spL A) ∧ (if (Int32.ofNat (s.1)) = (30 : Int32) then f_X12_derive_j62 (mg 4625 I3 J R) 4561 (Int32.ofNat (A.length)) 0 0 4561 else f_X12_derive_j67 (mg 4625 I3 J R) 4561 (Int32.ofNat (A.length)) 0 0 0 4561) = some z) ∨ (¬ ((∀ i, i < (shT s k).1 → told b (shT s k) i) ∧ ∃ A, dvF b (shT s k) nm 200 0 = some A) ∧ f_X12_derive_j62 (mg 4625 I3 J R) 4561 (-1) 0 0 4561 = some z))) := by
    intro J I2 k2
    have hM2 : InvM I2 t s b n f v q p r h := InvM_C hM hC.2.1 (fun x k hx _ => k2 x k hx)
    have hM3 : InvM (thI I2 0) t s b n f v q p r h := InvM_C hM2 hC.2.1 (fun x k hx hk => thI_n hk)
    unfold f_X12_derive f_X12_derive_j14 f_X12_derive_j26
    rw [if_pos ok_4561, M_isTree1 hM2.2.1 h30 hk, if_neg (by decide), m_isName1 hy.1 hy.2, Option.bind_some, if_neg (by decide), if_pos ok_4561, m_refO, M_shelf, if_pos ok_4561]
    refine q_bind (M_derives (T := shT s k) (nm := nm) hR (hM3.2.1.2 k hk).2 hM3.2.2.1 hOb hT n80 (by show 80 * k + s.2.1 k ≤ 13740; omega) (by omega)) ?_
    rintro z ⟨I3, f3, hz⟩
    have hM4 : InvM I3 t s b n f v q p r h := InvM_keep hM3 h30 (CSh_80 hC.2.1) (fun a x hx => f3 a x (fun w => by unfold Fdv Sm at w; unfold DM at hx; omega))
    have j62 : ∀ w : Int32, ∃ z, f_X12_derive_j62 (mg 4625 I3 J R) 4561 w 0 0 4561 = some z := fun w => by
      unfold f_X12_derive_j62 f_X12_derive_j67
      rw [if_pos ok_4561, m_refZ]
      exact ⟨_, rfl⟩
    rcases hz with ⟨ht, A, eA, rfl, mA⟩ | ⟨nt, rfl⟩
    · have nn : ¬ (Int32.ofNat (A.length)) = (-1 : Int32) := fun w => by
        have := mA.1.1
        have := i32_0le (k := A.length) (by omega)
        rw [w] at this
        exact absurd this (by decide)
      rw [if_neg nn, gi_4561, hM4.2.1.1]
      have ex : ∃ z, (if (Int32.ofNat (s.1)) = (30 : Int32) then f_X12_derive_j62 (mg 4625 I3 J R) 4561 (Int32.ofNat (A.length)) 0 0 4561 else f_X12_derive_j67 (mg 4625 I3 J R) 4561 (Int32.ofNat (A.length)) 0 0 0 4561) = some z := by
        by_cases z : s.1 < 30
        · rw [if_neg (show ¬ (Int32.ofNat (s.1)) = (30 : Int32) from i32_ne (b := 30) (by omega) (by omega) (by omega))]
          unfold f_X12_derive_j67
          rw [if_pos ok_4561, m_refO, if_pos ok_4561]
          have hM5 : InvM (thI I3 0) t s b n f v q p r h := InvM_C hM4 hC.2.1 (fun x k hx hk => thI_n hk)
          have mA5 : MT (thI I3 0) 13740 A.length (nlN A) (spL A) := MT_keep mA (fun a x g1 g2 g3 g4 => thI_n (by omega))
          obtain ⟨_, e, I5, rfl, -⟩ := M_shelve (J := J) hR hM5 hO h20 hf mA5.1 mA5.2.1 z (CSh_80 hC.2.1) (dvF_len eA) (Or.inl (by omega))
          have e : f_X12_shelve ((0 : Int32), mg 4625 (thI I3 0) J R).snd 4561 13740 (Int32.ofNat (A.length)) = some ((Int32.ofNat (s.1)), mg 4625 I5 J R) := e
          rw [e, Option.bind_some]
          exact ⟨_, rfl⟩
        · rw [if_pos (show (Int32.ofNat (s.1)) = (30 : Int32) by rw [show s.1 = 30 by omega]; rfl)]
          exact j62 _
      obtain ⟨z, ez⟩ := ex
      exact ⟨z, ez, I3, f3, hM4, Or.inl ⟨ht, A, eA, mA, ez⟩⟩
    · rw [if_pos rfl]
      obtain ⟨z, ez⟩ := j62 (-1)
      exact ⟨z, ez, I3, f3, hM4, Or.inr ⟨nt, ez⟩⟩
  have kF : ∀ (I2 I3 : Nat → Nat → Int32), FrK Fdv (thI I2 0) I3 → ∀ a x, a < 4561 → I3 a x = I2 a x := fun I2 I3 f3 a x ha => by
    rw [f3 a x (by unfold Fdv Sm; omega), thI_n (by omega)]
  -- refused with the third fault
  have bad : ∀ I2 : Nat → Nat → Int32, (∀ x k, 4561 ≤ x → I2 x k = I x k) → InvC I2 t s b n f v q p r h → f_L_derive (mg 4625 I J R) 0 (Int32.ofNat (k)) (Int32.ofNat (nm)) 4624 = some (3, mg 4625 I2 J R) → (s.1 = 30 ∨ ¬ ((∀ i, i < (shT s k).1 → told b (shT s k) i) ∧ ∃ A, dvF b (shT s k) nm 200 0 = some A)) → opW Pinv (f_L_derive (mg 4625 I J R) 0 (Int32.ofNat (k)) (Int32.ofNat (nm)) 4624) (fun σ => f_X12_derive σ 4561 (Int32.ofNat (k)) (Int32.ofNat (nm))) := fun I2 k2 hC2 e3 nb => by
    obtain ⟨z, e2, I3, f3, hM4, hz⟩ := der J I2 k2
    have fin : ∀ w : Int32, f_X12_derive_j62 (mg 4625 I3 J R) 4561 w 0 0 4561 = some z → z = (0, mg 4625 (thI I3 3) J R) := fun w hw => by
      unfold f_X12_derive_j62 f_X12_derive_j67 at hw
      rw [if_pos ok_4561, m_refZ] at hw
      exact (Option.some.inj hw).symm
    have ez : z = (0, mg 4625 (thI I3 3) J R) := by
      rcases hz with ⟨ht, A, eA, mA, ez⟩ | ⟨nt, ez⟩
      · rcases nb with nb | nb
        · rw [if_pos (show (Int32.ofNat (s.1)) = (30 : Int32) by rw [nb]; rfl)] at ez
          exact fin _ ez
        · exact absurd ⟨ht, A, eA⟩ nb
      · exact fin _ ez
    rw [ez] at e2
    exact op_ex e3 e2 thI_0 (by decide) (Pinv_mk hR (InvC_M hC2 (fun a x ha => by rw [thI_n (by omega)]; exact kF I2 I3 f3 a x ha)) (InvM_C hM4 hC.2.1 (fun x k hx hk => thI_n hk)) hO)
  by_cases z : s.1 < 30
  rotate_left
  · have e3 : f_L_derive (mg 4625 I J R) 0 (Int32.ofNat (k)) (Int32.ofNat (nm)) 4624 = some (3, mg 4625 I J R) := by
      unfold f_L_derive f_X11_derive
      rw [if_pos ok_0, if_pos ok_0, C_treeAt1 hR hC.2.1 hk, Sum.elim_inl, if_pos ok_0, c_needName1 hy.1 hy.2, Option.bind_some, Sum.elim_inl, if_pos ok_0, C_room0 hR hC.2.1 (by omega), Sum.elim_inr, Option.bind_some, q_let, Sum.elim_inr, if_neg (by decide), if_neg (by decide), if_pos rfl]
    exact bad I (fun x k _ => rfl) hC e3 (Or.inl (by omega))
  have key := C_differentiate (J := J) (T := shT s k) (a := 70 + 8 * k) (nm := nm) hR hC.2.2.1 hOb ct hT (by omega) (by omega)
  obtain ⟨_, e1, I1, f1, hy2⟩ := key
  have hC1 : InvC I1 t s b n f v q p r h := InvC_keep hC (fun x hx => funext (fun j => congrFun (f1 x (by unfold DC at hx; unfold St; omega)) j))
  have k1 : ∀ x j, 4561 ≤ x → I1 x j = I x j := fun x j hx => congrFun (f1 x (by unfold St; omega)) j
  rcases hy2 with ⟨ht, A, eA, rfl, cA⟩ | ⟨nt, rfl⟩
  rotate_left
  · have e3 : f_L_derive (mg 4625 I J R) 0 (Int32.ofNat (k)) (Int32.ofNat (nm)) 4624 = some (3, mg 4625 I1 J R) := by
      unfold f_L_derive f_X11_derive
      rw [if_pos ok_0, if_pos ok_0, C_treeAt1 hR hC.2.1 hk, Sum.elim_inl, if_pos ok_0, c_needName1 hy.1 hy.2, Option.bind_some, Sum.elim_inl, if_pos ok_0, C_room1 hR hC.2.1 z, Sum.elim_inl, gr_0_8 hR, if_pos ok_2206, e1, Option.bind_some, if_pos rfl, Option.bind_some, q_let, Sum.elim_inr, if_neg (by decide), if_neg (by decide), if_pos rfl]
    exact bad I1 k1 hC1 e3 (Or.inr nt)
  obtain ⟨o1, o2⟩ := dvF_ok hOb hT n80 ht 200 0 A hT.1.1 eA
  obtain ⟨_, e4, I4, rfl, hC4, f4⟩ := C_shelve (J := J) hR hC1 cA z (by omega)
  have e3 : f_X11_derive (mg 4625 I J R) 0 (Int32.ofNat (k)) (Int32.ofNat (nm)) = some (.inl (Int32.ofNat (s.1)), mg 4625 I4 J R) := by
    unfold f_X11_derive
    rw [if_pos ok_0, C_treeAt1 hR hC.2.1 hk, Sum.elim_inl, if_pos ok_0, c_needName1 hy.1 hy.2, Option.bind_some, Sum.elim_inl, if_pos ok_0, C_room1 hR hC.2.1 z, Sum.elim_inl, gr_0_8 hR, if_pos ok_2206, e1, Option.bind_some, if_neg (show ¬ (1 : Int32) = 0 by decide), gr_0_2 hR, gr_0_8 hR, gr_2206_2 hR, if_pos ok_11, e4]
    rfl
  have k4 : ∀ x j, 4561 ≤ x → I4 x j = I x j := fun x j hx => by
    rw [f4 x (by omega)]
    exact k1 x j hx
  obtain ⟨zz, e2, I5, f5, hM5, hz⟩ := der (oJ J ((Int32.ofNat (s.1))).toInt64) I4 k4
  rcases hz with ⟨-, A', eA', mA, ez⟩ | ⟨nt, -⟩
  rotate_left
  · exact absurd ⟨ht, A, eA⟩ nt
  have eAA : A' = A := Option.some.inj (eA'.symm.trans eA)
  subst eAA
  rw [if_neg (show ¬ (Int32.ofNat (s.1)) = (30 : Int32) from i32_ne (b := 30) (by omega) (by omega) (by omega))] at ez
  unfold f_X12_derive_j67 at ez
  rw [if_pos ok_4561, m_refO, if_pos ok_4561] at ez
  have hM6 : InvM (thI I5 0) t s b n f v q p r h := InvM_C hM5 hC.2.1 (fun x k hx hk => thI_n hk)
  have mA5 : MT (thI I5 0) 13740 A'.length (nlN A') (spL A') := MT_keep mA (fun a x g1 g2 g3 g4 => thI_n (by omega))
  obtain ⟨_, e, I7, rfl, hM7, g1, g2⟩ := M_shelve (J := oJ J ((Int32.ofNat (s.1))).toInt64) hR hM6 hO h20 hf mA5.1 mA5.2.1 z (CSh_80 hC.2.1) (dvF_len eA) (Or.inl (by omega))
  have e : f_X12_shelve ((0 : Int32), mg 4625 (thI I5 0) (oJ J ((Int32.ofNat (s.1))).toInt64) R).snd 4561 13740 (Int32.ofNat (A'.length)) = some ((Int32.ofNat (s.1)), mg 4625 I7 (oJ J ((Int32.ofNat (s.1))).toInt64) R) := e
  rw [e, Option.bind_some] at ez
  have ez := Option.some.inj ez
  rw [← ez] at e2
  refine op_ok (l_derive e3) e2 (by rw [g2]; exact thI_0) (Pinv_sh hR hC4 hM7 (fun a x ha => ?_) hO h20 hf (fun i hi => ?_))
  · rw [g1 a x ha, thI_n (by omega)]
    exact kF I4 I5 f5 a x ha
  · have : nlN A' i = A'[i] := by
      unfold nlN
      rw [List.getD_eq_getElem?_getD, List.getElem?_eq_getElem hi]
      rfl
    rw [this]
    exact o1.2 _ (List.getElem_mem hi)
end ODV
