/-! calls: part, graft -/
theorem dWk : KK 4551 = (9, 0) ∧ ∀ k, k < 7 → RR 4551 k = some (4551 + (k + 1)) ∧ KK (4551 + (k + 1)) = (14, 80) := by decide +kernel
theorem isTr_4551 : isTr 4551 := ⟨by omega, by omega, dWk.1, dWk.2⟩
theorem FnOK_mono {T T' : Nat} {tn : Nat → Nat} {row : Nat → Int32} (H : FnOK T tn row) (h : T ≤ T') : FnOK T' tn row := by
  obtain ⟨h0, c, h1, h2, h3⟩ := H
  refine ⟨h0, c, h1, h2, fun k hk => ⟨?_, ?_⟩⟩
  · rcases (h3 k hk).1 with g | ⟨t, a, b, d⟩
    · exact Or.inl g
    · exact Or.inr ⟨t, by omega, b, d⟩
  · obtain ⟨t, a, b, d⟩ := (h3 k hk).2
    exact ⟨t, by omega, b, d⟩
theorem gb_all {Q : Nd → Prop} {nd nd' : Nat → Nd} {c : Int32} {m : Nat} (h' : ∀ x, x < m → Q (nd' x)) : ∀ n, (∀ x, x < n → Q (nd x)) → ∀ i, i < gc nd c m n → Q (gb nd c m nd' n i) := by
  intro n
  induction n with
  | zero => intro _ i hi; exact absurd hi (Nat.not_lt_zero i)
  | succ n ih =>
    intro h i hi
    have hi' : i < gc nd c m n + (if repl nd c n = true then m else 1) := hi
    show Q ((if repl nd c n = true then app (gb nd c m nd' n) (gc nd c m n) nd' 0 else ext (gb nd c m nd' n) (gc nd c m n) (nd n)) i)
    by_cases z : repl nd c n = true
    · rw [if_pos z] at hi' ⊢
      unfold app
      by_cases y : i < gc nd c m n
      · rw [if_pos y]
        exact ih (fun x hx => h x (by omega)) i y
      · rw [if_neg y]
        exact h' _ (by omega)
    · rw [if_neg z] at hi' ⊢
      unfold ext
      by_cases y : i = gc nd c m n
      · rw [if_pos y]
        exact h n (by omega)
      · rw [if_neg y]
        exact ih (fun x hx => h x (by omega)) i (by omega)
section OD
variable {I : Nat → Nat → Int32} {J : Nat → Nat → Int64} {R : Nat → Nat → Option Nat} {t : GT} {s : GS} {b : GB} {n : GN} {f : GF} {v : GV} {q : Nat → GV} {p : GT} {r : GR} {h : GH} {β : Type}
theorem OKH_shelf {m : Nat} {nd : Nat → Nd} {sp : Nat → Nat} (H : OKH s b f h) (hm : h.1 ≤ 20) (hf : h.2.1 < 20) (hn : ∀ i, i < m → NV b (nd i)) : OKH (sPush s m nd sp) b f (hShelf h) := by
  have top := OKH_top H
  refine OKH_push H hm hf Ext_push ⟨top.1, fun k i hk hi => ?_, fun l hl => FnOK_mono (FnOK_ext (top.2.2 l hl) Ext_push) (by show s.1 ≤ s.1 + 1; omega)⟩ (Or.inl ⟨rfl, rfl, rfl, rfl⟩)
  have hk' : k < s.1 + 1 := hk
  have hi' : i < upN s.2.1 s.1 m k := hi
  show NV b (upN s.2.2.1 s.1 nd k i)
  by_cases z : k = s.1
  · rw [z, upN_s] at hi' ⊢
    exact hn i hi'
  · rw [upN_n z] at hi' ⊢
    exact top.2.1 k i (by omega) hi'
theorem C_room1 {F : Unit ⊕ String → Option β} (hR : RA R) (H : CSh I s) (hk : s.1 < 30) : (f_X11_needRoom (mg 4625 I J R) 0).bind F = F (.inl ()) := by
  unfold f_X11_needRoom
  rw [gr_0_2 hR, gi_11, H.2.1, gr_0_2 hR, gr_11_4 hR, ogL_16, Option.bind_some, if_pos (show (Int32.ofNat (s.1)) < (30 : Int32) from (i32_lt (m := 30) (by omega) (by omega)).mpr hk)]
  rfl
theorem C_room0 {F : Unit ⊕ String → Option β} (hR : RA R) (H : CSh I s) (hk : s.1 = 30) : (f_X11_needRoom (mg 4625 I J R) 0).bind F = F (.inr "java/lang/IllegalStateException") := by
  unfold f_X11_needRoom
  rw [gr_0_2 hR, gi_11, H.2.1, gr_0_2 hR, gr_11_4 hR, ogL_16, Option.bind_some, hk, if_neg (by decide)]
  rfl
/-- both shelve the same tree -/
theorem Pinv_sh {m : Nat} {nd : Nat → Nd} {sp : Nat → Nat} {I2 I3 : Nat → Nat → Int32} (hR : RA R) (hC : InvC I2 t (sPush s m nd sp) b n f v q p r (hShelf h)) (hM : InvM I3 t (sPush s m nd sp) b n f v q p r (hShelf h)) (e : ∀ a k, a < 4561 → I3 a k = I2 a k) (hO : OKH s b f h) (hm : h.1 ≤ 20) (hf : h.2.1 < 20) (hn : ∀ i, i < m → NV b (nd i)) : Pinv (mg 4625 I3 J R) :=
  Pinv_mk hR (InvC_M hC e) hM (OKH_shelf hO hm hf hn)
theorem l_part {w x y : Int32} {I1 : Nat → Nat → Int32} (h : f_X11_part (mg 4625 I J R) 0 x y = some (.inl w, mg 4625 I1 J R)) : f_L_part (mg 4625 I J R) 0 x y 4624 = some (0, mg 4625 I1 (oJ J w.toInt64) R) := by
  unfold f_L_part
  rw [if_pos ok_0, h, Option.bind_some, q_let, Sum.elim_inl, owJ0]
  rfl
theorem o_part (hR : RA R) (H : Inv I) : op_part Pinv (mg 4625 I J R) := by
  obtain ⟨t, s, b, n, f, v, q, p, r, h, hC, hM, hO⟩ := H
  intro x y
  have h30 := hC.2.1.1
  have h20 := hC.2.2.2.2.2.2.2.2.2.1
  have hf := hC.2.2.2.2.2.2.2.2.2.2.1
  have bad1 : f_X11_part (mg 4625 I J R) 0 x y = some (.inr "java/lang/IndexOutOfBoundsException", mg 4625 I J R) → f_X12_part (mg 4625 I J R) 4561 x y = some (0, mg 4625 (thI I 1) J R) → opW Pinv (f_L_part (mg 4625 I J R) 0 x y 4624) (fun σ => f_X12_part σ 4561 x y) := by
    intro e1 e2
    have e3 : f_L_part (mg 4625 I J R) 0 x y 4624 = some (1, mg 4625 I J R) := by
      unfold f_L_part
      rw [if_pos ok_0, e1, Option.bind_some, q_let, Sum.elim_inr, if_pos rfl]
    exact op_ex e3 e2 thI_0 (by decide) (Pinv_th hR hC hM hO (fun x _ => rfl))
  have j15 : ∀ x y, f_X12_part_j15 (mg 4625 I J R) 4561 x y 1 4561 = some (0, mg 4625 (thI I 1) J R) := by
    intro x y
    unfold f_X12_part_j15 f_X12_part_j29
    rw [gi_4561]
    split <;> rw [if_pos ok_4561, m_refX]
  rcases i32_two s.1 (by omega) x with ⟨k, hk, rfl⟩ | hx
  · have c1 := hC.2.1.2.2 k hk
    have n1 := CT_n c1
    rcases i32_two (s.2.1 k) (by omega) y with ⟨i, hi, rfl⟩ | hy
    · have wi := c1.2.1.2.2.2 i hi
      by_cases z : s.1 < 30
      · have key : QK (f_X11_part (mg 4625 I J R) 0 (Int32.ofNat (k)) (Int32.ofNat (i))) (fun x => ∃ I2, x = (.inl (Int32.ofNat (s.1)), mg 4625 I2 J R) ∧ InvC I2 t (sPush s (s.2.2.2 k i) (fun j => s.2.2.1 k (i + j)) (fun j => s.2.2.2 k (i + j))) b n f v q p r (hShelf h) ∧ ∀ x, 4561 ≤ x → I2 x = I x) := by
          unfold f_X11_part
          rw [if_pos ok_0, C_treeAt1 hR hC.2.1 hk, Sum.elim_inl, if_pos ok_0, C_needNode1 c1.1 hi, Sum.elim_inl, if_pos ok_0, C_room1 hR hC.2.1 z, Sum.elim_inl, gr_0_12 hR, if_pos (bT_xk isTr_4551)]
          refine q_bind (T_clear (nd := s.2.2.1 k) isTr_4551) ?_
          rintro _ ⟨I1, rfl, hF1, hN1⟩
          have c2 : CT I1 (70 + 8 * k) (s.2.1 k) (s.2.2.1 k) (s.2.2.2 k) := CT_keep c1 (fun x g1 g2 => hF1 x (by omega))
          rw [gr_0_12 hR, if_pos (bT_xk isTr_4551)]
          refine q_bind (T_addPart hR hN1 c2 hi (by omega)) ?_
          rintro _ (⟨l1, I2, rfl, hF2, hN2⟩ | ⟨l1, -⟩)
          · rw [gr_0_12 hR, if_pos (bT_xk isTr_4551)]
            have e0 : ∀ j, app (s.2.2.1 k) 0 (s.2.2.1 k) i j = s.2.2.1 k (i + j) := fun j => by
              unfold app
              rw [if_neg (Nat.not_lt_zero j), Nat.sub_zero]
            have hN3 : CN I2 4551 (s.2.2.2 k i) (fun j => s.2.2.1 k (i + j)) := by
              rw [Nat.zero_add] at hN2
              exact CN_congr hN2 (fun j _ => e0 j)
            refine q_bind (T_measure hR hN3 (WT_sub c1.2.1 hi)) ?_
            rintro _ ⟨I3, rfl, hF3, hT3⟩
            have fr : ∀ x, ¬ (4551 ≤ x ∧ x < 4559) → I3 x = I x := fun x g => by
              rw [hF3 x (fun w => g (by omega)), hF2 x (fun w => g (by omega)), hF1 x (fun w => g (by omega))]
            rw [gr_0_2 hR, gr_0_12 hR, if_pos ok_11]
            refine q_bind (C_shelve hR (InvC_keep hC (fun x hx => fr x (by unfold DC at hx; omega))) hT3 z (by omega)) ?_
            rintro _ ⟨I4, rfl, hC4, hF4⟩
            refine q_ok ⟨I4, rfl, hC4, fun x hx => ?_⟩
            rw [hF4 x (by omega), fr x (by omega)]
          · omega
        obtain ⟨_, e1, I2, rfl, hC2, hF2⟩ := key
        have ref : ∀ J, QK (f_X12_part (mg 4625 I2 J R) 4561 (Int32.ofNat (k)) (Int32.ofNat (i))) (fun x => ∃ I3, x = ((Int32.ofNat (s.1)), mg 4625 I3 J R) ∧ InvM I3 t (sPush s (s.2.2.2 k i) (fun j => s.2.2.1 k (i + j)) (fun j => s.2.2.2 k (i + j))) b n f v q p r (hShelf h) ∧ (∀ a k, a < 4561 → I3 a k = I2 a k) ∧ I3 4561 0 = 0) := by
          intro J
          have hM2 : InvM I2 t s b n f v q p r h := InvM_C hM hC.2.1 (fun x k hx _ => by rw [hF2 x hx])
          have hM3 : InvM (thI I2 0) t s b n f v q p r h := InvM_C hM2 hC.2.1 (fun x k hx hk => thI_n hk)
          have mt := (hM3.2.1.2 k hk).2
          have hNb : MN (thI I2 0) (80 * k + i) (s.2.2.2 k i) (fun j => s.2.2.1 k (i + j)) := ⟨by omega, fun j hj => by
            have := mt.1.2 (i + j) (by omega)
            rw [← Nat.add_assoc] at this
            exact this⟩
          unfold f_X12_part f_X12_part_j15 f_X12_part_j29
          rw [if_pos ok_4561, M_isNode1 hR hM2.2.1 h30 hk hi n1.2, if_neg (by decide), gi_4561, hM2.2.1.1, if_neg (show ¬ (Int32.ofNat (s.1)) = (30 : Int32) from fun y => absurd ((i32_eq (m := 30) (by omega) (by omega)).mp y) (by omega)), if_pos ok_4561, m_refO, M_shelf, gr_4561_8 hR, M_shelf, n_add, ga_4569 (by omega), mt.2.2 i hi, if_pos ok_4561]
          refine q_bind (M_shelve hR hM3 hO h20 hf hNb (WT_sub c1.2.1 hi) z (CSh_80 hC.2.1) (by omega) (by omega)) ?_
          rintro _ ⟨I3, rfl, hM4, g1, g2⟩
          exact q_ok ⟨I3, rfl, hM4, fun a x ha => by rw [g1 a x ha, thI_n (by omega)], by rw [g2]; exact thI_0⟩
        obtain ⟨_, e2, I3, rfl, hM4, g1, g2⟩ := ref (oJ J ((Int32.ofNat (s.1))).toInt64)
        exact op_ok (l_part e1) e2 g2 (Pinv_sh hR hC2 hM4 g1 hO h20 hf (fun j hj => (OKH_top hO).2.1 k (i + j) hk (by omega)))
      · have e3 : f_L_part (mg 4625 I J R) 0 (Int32.ofNat (k)) (Int32.ofNat (i)) 4624 = some (2, mg 4625 I J R) := by
          unfold f_L_part f_X11_part
          rw [if_pos ok_0, if_pos ok_0, C_treeAt1 hR hC.2.1 hk, Sum.elim_inl, if_pos ok_0, C_needNode1 c1.1 hi, Sum.elim_inl, if_pos ok_0, C_room0 hR hC.2.1 (by omega), Sum.elim_inr, Option.bind_some, q_let, Sum.elim_inr, if_neg (by decide), if_pos rfl]
        have e2 : f_X12_part (mg 4625 I J R) 4561 (Int32.ofNat (k)) (Int32.ofNat (i)) = some (0, mg 4625 (thI I 2) J R) := by
          unfold f_X12_part f_X12_part_j15 f_X12_part_j29
          rw [if_pos ok_4561, M_isNode1 hR hM.2.1 h30 hk hi n1.2, if_neg (by decide), gi_4561, hM.2.1.1, if_pos (show (Int32.ofNat (s.1)) = (30 : Int32) by rw [show s.1 = 30 by omega]; rfl), if_pos ok_4561, m_refY]
        exact op_ex e3 e2 thI_0 (by decide) (Pinv_th hR hC hM hO (fun x _ => rfl))
    · refine bad1 ?_ ?_
      · unfold f_X11_part
        rw [if_pos ok_0, C_treeAt1 hR hC.2.1 hk, Sum.elim_inl, if_pos ok_0, C_needNode0 c1.1 hy, Sum.elim_inr]
      · unfold f_X12_part
        rw [if_pos ok_4561, M_isNode0 hR hM.2.1 h30 hk hy n1.2, if_pos rfl]
        exact j15 _ _
  · refine bad1 ?_ ?_
    · unfold f_X11_part
      rw [if_pos ok_0, C_treeAt0 hR hC.2.1 hx, Sum.elim_inr]
    · unfold f_X12_part
      rw [if_pos ok_4561, M_isNodeT hM.2.1 h30 hx, if_pos rfl]
      exact j15 _ _
end OD
