/-! call: print -/
section OPR
variable {I : Nat → Nat → Int32} {J : Nat → Nat → Int64} {R : Nat → Nat → Option Nat} {t : GT} {s : GS} {b : GB} {n : GN} {f : GF} {v : GV} {q : Nat → GV} {p : GT} {r : GR} {h : GH} {β : Type}
theorem l_print {x w : Int32} {I1 : Nat → Nat → Int32} (h : f_X11_print (mg 4625 I J R) 0 x = some (.inl w, mg 4625 I1 J R)) : f_L_print (mg 4625 I J R) 0 x 4624 = some (0, mg 4625 I1 (oJ J w.toInt64) R) := by
  unfold f_L_print
  rw [if_pos ok_0, h, Option.bind_some, q_let, Sum.elim_inl, owJ0]
  rfl
theorem o_print (hR : RA R) (H : Inv I) : op_print Pinv (mg 4625 I J R) := by
  obtain ⟨t, s, b, n, f, v, q, p, r, h, hC, hM, hO⟩ := H
  intro x
  have h30 := hC.2.1.1
  have hT := (OKH_top hO).1
  rcases i32_two s.1 (by omega) x with ⟨k, hk, rfl⟩ | hx
  · have c1 := hC.2.1.2.2 k hk
    have n1 := CT_n c1
    have nv := fun i hi => (OKH_top hO).2.1 k i hk hi
    have hP : isP 559 562 := Or.inl ⟨rfl, rfl⟩
    obtain ⟨_, e5, I2, rfl, hF2, hW2, hX2⟩ := C_fewest (J := J) hR hP hC.2.2.1 hT c1 (by omega) nv
    have e1 : f_X11_print (mg 4625 I J R) 0 (Int32.ofNat (k)) = some (.inl (Int32.ofNat ((prtT b (s.2.1 k) (s.2.2.1 k) (s.2.2.2 k)).length)), mg 4625 I2 J R) := by
      unfold f_X11_print
      rw [gr_0_4 hR, if_pos ok_0, C_treeAt1 hR hC.2.1 hk, Sum.elim_inl, if_pos ok_559, e5, Option.bind_some, gr_0_4 hR, gi_559, hX2.1]
    have hM2 : InvM I2 t s b n f v q p r h := InvM_C hM hC.2.1 (fun x k hx _ => hF2 x k (by unfold Ffw; omega))
    have m2 := (hM2.2.1.2 k hk).2
    obtain ⟨p1, p2, p3⟩ := spl_pairs c1.2.1 nv (f := 200) (by omega)
    have tl := tlW_len (spl (s.2.2.1 k) (s.2.2.2 k) 200 0 S0).1
    have ref : ∀ J, QK (f_X12_print (mg 4625 I2 J R) 4561 (Int32.ofNat (k))) (fun x => ∃ I3, x = ((Int32.ofNat ((prtT b (s.2.1 k) (s.2.2.1 k) (s.2.2.2 k)).length)), mg 4625 I3 J R) ∧ InvM I3 t s b n f v q (txP (prtT b (s.2.1 k) (s.2.2.1 k) (s.2.2.2 k))) r h ∧ (∀ a k, a < 4561 → I3 a k = I2 a k) ∧ I3 4561 0 = 0) := by
      intro J
      unfold f_X12_print f_X12_print_j14
      rw [if_pos ok_4561, M_isTree1 hM2.2.1 h30 hk, if_neg (by decide), if_pos ok_4561, m_refO, M_shelf, if_pos ok_4561]
      have m3 : MT (thI I2 0) (80 * k) (s.2.1 k) (s.2.2.1 k) (s.2.2.2 k) := MT_keep m2 (fun a j y1 y2 _ _ => thI_n (by omega))
      refine q_bind (M_fewest hR (MTb_keep hM2.2.2.1 (fun a j y => thI_n (by omega))) hT m3 n1.2 (by omega) nv) ?_
      rintro _ ⟨I3, rfl, hF3, hW3, -⟩
      rw [if_pos ok_4561]
      refine q_bind (M_outWords hR hW3 (by omega)) ?_
      rintro _ ⟨I4, rfl, hF4, hX4⟩
      rw [gi_4561, hX4.1]
      have go : ∀ a k, ¬ Fmf a k → (a = 4561 → k ≠ 0) → I4 a k = I2 a k := fun a k y1 y3 => by
        rw [hF4 a k (fun z => y1 (Or.inr (Or.inr z))), hF3 a k y1, thI_n y3]
      refine q_ok ⟨I4, rfl, M_printed hM2 hC.2.1 (fun a k g1 g2 g3 => go a k (by unfold DM at g1; unfold Fmf Fmk Fwo FMx; omega) (by unfold DM at g1; omega)) (MX_MPr hX4), fun a x ha => go a x (by unfold Fmf Fmk Fwo FMx; omega) (by omega), ?_⟩
      rw [hF4 _ _ (by unfold FMx; omega), hF3 _ _ (by unfold Fmf Fmk Fwo FMx; omega)]
      exact thI_0
    obtain ⟨_, e2, I3, rfl, hM3, g1, g2⟩ := ref (oJ J ((Int32.ofNat ((prtT b (s.2.1 k) (s.2.2.1 k) (s.2.2.2 k)).length))).toInt64)
    refine op_ok (l_print e1) e2 g2 (Pinv_mk hR (InvC_M (C_printed hC (fun x hx y1 y2 => ?_) (CX_CPr hX2)) g1) hM3 hO)
    funext j
    exact hF2 x j (by unfold DC at hx; unfold Ffw; omega)
  · have e3 : f_L_print (mg 4625 I J R) 0 x 4624 = some (1, mg 4625 I J R) := by
      unfold f_L_print f_X11_print
      rw [if_pos ok_0, gr_0_4 hR, if_pos ok_0, C_treeAt0 hR hC.2.1 hx, Sum.elim_inr, Option.bind_some, q_let, Sum.elim_inr, if_pos rfl]
    have e2 : f_X12_print (mg 4625 I J R) 4561 x = some (0, mg 4625 (thI I 1) J R) := by
      unfold f_X12_print f_X12_print_j14
      rw [if_pos ok_4561, M_isTree0 hM.2.1 h30 hx, if_pos rfl, if_pos ok_4561, m_refX]
    exact op_ex e3 e2 thI_0 (by decide) (Pinv_th hR hC hM hO (fun x _ => rfl))
end OPR
