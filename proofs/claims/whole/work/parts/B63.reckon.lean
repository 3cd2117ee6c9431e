/-! calls: reckon -/
section ORK
variable {I : Nat → Nat → Int32} {J : Nat → Nat → Int64} {R : Nat → Nat → Option Nat} {t : GT} {s : GS} {b : GB} {n : GN} {f : GF} {v : GV} {q : Nat → GV} {p : GT} {r : GR} {h : GH} {β : Type}
theorem lazy_bk {x : Nd} (hn : NV b x) : lazyNd x ∨ bkN x = 0 := by
  obtain ⟨b1, b2, b3⟩ := NV_bk hn
  rcases b3 with y | y | y
  · exact Or.inr y
  · exact Or.inl ⟨(b1.mp y).1, Or.inl (b1.mp y).2⟩
  · exact Or.inl ⟨(b2.mp y).1, Or.inr (b2.mp y).2⟩
theorem l_reckon {x w : Int32} {I1 : Nat → Nat → Int32} {R1 : Nat → Nat → Option Nat} (h : f_X11_reckon (mg 4625 I J R) 0 x = some (.inl w, mg 4625 I1 J R1)) : f_L_reckon (mg 4625 I J R) 0 x 4624 = some (0, mg 4625 I1 (oJ J w.toInt64) R1) := by
  unfold f_L_reckon
  rw [if_pos ok_0, h, Option.bind_some, q_let, Sum.elim_inl, owJ0]
  rfl
theorem o_reckon (hR : RA R) (H : Inv I) : op_reckon Pinv (mg 4625 I J R) := by
  obtain ⟨t, s, b, n, f, v, q, p, r, h, hC, hM, hO⟩ := H
  intro x
  have h30 := hC.2.1.1
  have hE := env_of hC hM hO
  rcases i32_two s.1 (by omega) x with ⟨k, hk, rfl⟩ | hx
  · have c1 := hC.2.1.2.2 k hk
    have n1 := CT_n c1
    have hT := tro_of hC hO hk
    have ro := evT_RO hE hT n1.2
    have m1 := (hM.2.1.2 k hk).2
    obtain ⟨_, e0, hz⟩ := T_hasLazy (J := J) hR c1.1
    by_cases zz : ∃ i, i < s.2.1 k ∧ lazyNd (s.2.2.1 k i)
    · obtain rfl := (hz.resolve_right (fun y => y.2 zz)).1
      have e3 : f_L_reckon (mg 4625 I J R) 0 (Int32.ofNat (k)) 4624 = some (2, mg 4625 I J R) := by
        unfold f_L_reckon f_X11_reckon f_X11_needNoLazyCall
        rw [if_pos ok_0, if_pos ok_0, C_treeAt1 hR hC.2.1 hk, Sum.elim_inl, if_pos ok_0, if_pos (bT_xk c1.1.1), e0, Option.bind_some, if_neg (by decide), Option.bind_some, Sum.elim_inr, Option.bind_some, q_let, Sum.elim_inr, if_neg (by decide), if_pos rfl]
      obtain ⟨_, e4, hy⟩ := M_hasOwn (J := J) hR m1 n1.2
      obtain rfl := (hy.resolve_right (fun y => y.2 zz)).1
      have e2 : f_X12_reckon (mg 4625 I J R) 4561 (Int32.ofNat (k)) = some (0, mg 4625 (thI I 2) J R) := by
        unfold f_X12_reckon f_X12_reckon_j14 f_X12_reckon_j38 f_X12_reckon_j57
        rw [if_pos ok_4561, M_isTree1 hM.2.1 h30 hk, if_neg (by decide), if_pos ok_4561, M_isTree1 hM.2.1 h30 hk, if_neg (by decide), M_shelf, if_pos ok_4561, e4, Option.bind_some, if_neg (by decide), if_pos ok_4561, m_refY]
      exact op_ex e3 e2 thI_0 (by decide) (Pinv_th hR hC hM hO (fun x _ => rfl))
    · obtain rfl := (hz.resolve_left (fun y => zz y.2)).1
      have hlz : ∀ i, i < s.2.1 k → bkN (s.2.2.1 k i) = 0 := fun i hi => (lazy_bk (hT.2 i hi)).resolve_left (fun y => zz ⟨i, hi, y⟩)
      have key : QK (f_X11_reckon (mg 4625 I J R) 0 (Int32.ofNat (k))) (EvPost J (evT b n f s (s.2.2.1 k) (s.2.2.2 k)) I t s b n f v q p r h) := by
        unfold f_X11_reckon f_X11_needNoLazyCall
        rw [if_pos ok_0, C_treeAt1 hR hC.2.1 hk, Sum.elim_inl, if_pos ok_0, if_pos (bT_xk c1.1.1), e0, Option.bind_some, if_pos rfl, Option.bind_some, Sum.elim_inl, gr_0_6 hR, if_pos ok_567]
        refine q_bind (C_reckonLine hR (CEnv_of hC hE) c1 (by omega) hT n1.2 hlz) ?_
        rintro _ ⟨I1, R1, rfl, hR1, f1, hw⟩
        exact C_evTail ro hR1 (InvC_Fm hC f1) (fun a k ha => f1 a k (by unfold Fm; omega)) hw
      refine ev_fin hC hM hO key (fun w I1 R1 e => l_reckon e) ?_
      intro I2 J R2 hR2 hM2 hC2
      have hM3 : InvM (thI I2 0) t s b n f v q p r h := InvM_C hM2 hC.2.1 (fun x k hx hk => thI_n hk)
      show QK (f_X12_reckon (mg 4625 I2 J R2) 4561 (Int32.ofNat (k))) _
      obtain ⟨_, e4, hy⟩ := M_hasOwn (J := J) hR2 (hM2.2.1.2 k hk).2 n1.2
      obtain rfl := (hy.resolve_left (fun y => zz y.2)).1
      unfold f_X12_reckon f_X12_reckon_j14 f_X12_reckon_j37 f_X12_reckon_j38 f_X12_reckon_j57
      rw [if_pos ok_4561, M_isTree1 hM2.2.1 h30 hk, if_neg (by decide), if_pos ok_4561, M_isTree1 hM2.2.1 h30 hk, if_neg (by decide), M_shelf, if_pos ok_4561, e4, Option.bind_some, if_pos rfl, if_pos ok_4561, m_refO, M_shelf, if_pos ok_4561]
      refine q_bind (M_answers hR2 hM3 (CSh_th hC2) hE (hM3.2.1.2 k hk).2 hT n1.2 (fun x hx => rfl)) ?_
      rintro ⟨y1, y2⟩ ⟨I4, k1, k4, hy4⟩
      exact q_ok ⟨I4, fun a x ha => by rw [k1 a x ha, thI_n (by omega)], by rw [k4]; exact thI_0, hy4⟩
  · have e3 : f_L_reckon (mg 4625 I J R) 0 x 4624 = some (1, mg 4625 I J R) := by
      unfold f_L_reckon f_X11_reckon
      rw [if_pos ok_0, if_pos ok_0, C_treeAt0 hR hC.2.1 hx, Sum.elim_inr, Option.bind_some, q_let, Sum.elim_inr, if_pos rfl]
    have e2 : f_X12_reckon (mg 4625 I J R) 4561 x = some (0, mg 4625 (thI I 1) J R) := by
      unfold f_X12_reckon f_X12_reckon_j14 f_X12_reckon_j37 f_X12_reckon_j38 f_X12_reckon_j57
      rw [if_pos ok_4561, M_isTree0 hM.2.1 h30 hx, if_pos rfl, if_pos ok_4561, M_isTree0 hM.2.1 h30 hx, if_pos rfl, if_pos ok_4561, m_refX]
    exact op_ex e3 e2 thI_0 (by decide) (Pinv_th hR hC hM hO (fun x _ => rfl))
end ORK
