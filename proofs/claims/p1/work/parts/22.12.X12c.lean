-- RankwiseModel.does(IIII)V
def f_X12_does_s47 (σ : xM) (s : (Nat × Int32 × Int32 × Int32)) : Option (xM ⊕ ((Nat × Int32 × Int32) ⊕ (Nat × Int32 × Int32 × Int32))) :=
  xlet s.1 (fun l0 => xlet s.2.1 (fun l4 => xlet s.2.2.1 (fun l5 => xlet s.2.2.2 (fun l6 => (if l4 ≤ l6 then some (Sum.inr (Sum.inl (l0, l4, l5))) else (gR σ l0 12 31).bind (fun x15 => (gR σ l0 12 34).bind (fun x16 => (gI σ l0 12 36).bind (fun x17 => (aI σ x16 14 ((x17 - (1 : Int32)) - l6)).bind (fun x18 => (aI σ x15 14 x18).bind (fun x19 => xlet (l5 + x19) (fun v20 => xlet (l6 + (1 : Int32)) (fun v21 => some (Sum.inr (Sum.inr (l0, l4, v20, v21)))))))))))))))
set_option maxHeartbeats 4000000 in
set_option maxRecDepth 20000 in
theorem L_X12_does_s47 {G : xG} {π : Nat → Nat} {d C Z : Nat} {Q : xQ} (σ : xM) (l0 : Nat) (l4 : Int32) (l5 : Int32) (l6 : Int32) {x : (xM ⊕ ((Nat × Int32 × Int32) ⊕ (Nat × Int32 × Int32 × Int32)))} (hf : f_X12_does_s47 σ (l0, l4, l5, l6) = some x) (hR : ∀ g, x = Sum.inl (g) → Q (.inl none) (g) π) (hE : ∀ e : (Nat × Int32 × Int32), x = Sum.inr (Sum.inl e) → xMach G π J_X12_does (d + 0) C Z 84 [(0, .ref e.1), (4, .int e.2.1), (5, .int e.2.2)] [] σ Q) (hC : ∀ e : (Nat × Int32 × Int32 × Int32), x = Sum.inr (Sum.inr e) → xMach G π J_X12_does (d + 0) C Z 47 [(0, .ref e.1), (4, .int e.2.1), (5, .int e.2.2.1), (6, .int e.2.2.2)] [] σ Q) : xMach G π J_X12_does (d + 0) C Z 47 [(0, .ref l0), (4, .int l4), (5, .int l5), (6, .int l6)] [] σ Q := by
  have hf : (if l4 ≤ l6 then some (Sum.inr (Sum.inl (l0, l4, l5))) else (gR σ l0 12 31).bind (fun x15 => (gR σ l0 12 34).bind (fun x16 => (gI σ l0 12 36).bind (fun x17 => (aI σ x16 14 ((x17 - (1 : Int32)) - l6)).bind (fun x18 => (aI σ x15 14 x18).bind (fun x19 => xlet (l5 + x19) (fun v20 => xlet (l6 + (1 : Int32)) (fun v21 => some (Sum.inr (Sum.inr (l0, l4, v20, v21))))))))))) = some x := hf
  refine xm_iload dX12_does_47 rfl ?_
  refine xm_iload dX12_does_49 rfl ?_
  refine xb_icmp_ge 84 dX12_does_51 (by decide) hf (fun c hf => ?_) (fun c hf => ?_)
  · cases hf
    exact xm_sub [0, 1, 2] rfl (hE _ rfl)
  · refine xm_iload dX12_does_54 rfl ?_
    refine xm_aload_n dX12_does_56 rfl ?_
    refine xb_getR (a := l0) (c := 12) (k := 31) dX12_does_57 xcl12 (by decide) xw_1868 rfl hf (fun x15 ex15 hf => ?_)
    refine xm_aload_n dX12_does_60 rfl ?_
    refine xb_getR (a := l0) (c := 12) (k := 34) dX12_does_61 xcl12 (by decide) xw_1871 rfl hf (fun x16 ex16 hf => ?_)
    refine xm_aload_n dX12_does_64 rfl ?_
    refine xb_getI (a := l0) (c := 12) (k := 36) dX12_does_65 xcl12 (by decide) xw_1873 rfl hf (fun x17 ex17 hf => ?_)
    refine xm_iconst dX12_does_68 (v := 1) (by decide) ?_
    refine xm_isub dX12_does_69 ?_
    refine xm_iload dX12_does_70 rfl ?_
    refine xm_isub dX12_does_72 ?_
    refine xb_iald dX12_does_73 hf (fun x18 ex18 hf => ?_)
    refine xb_iald dX12_does_74 hf (fun x19 ex19 hf => ?_)
    refine xm_iadd dX12_does_75 ?_
    refine xb_topi hf (fun v20 ev20 hf => ?_)
    refine xm_istore dX12_does_76 (by decide) (xm_stL (L' := [(5, .int v20), (0, .ref l0), (4, .int l4), (6, .int l6)]) rfl ?_)
    refine xb_iinc dX12_does_78 rfl (by decide) (by decide) hf (fun v21 ev21 hf => xm_stL (L' := [(6, .int v21), (5, .int v20), (0, .ref l0), (4, .int l4)]) rfl ?_)
    refine xm_goto 47 dX12_does_81 (by decide) ?_
    cases hf
    exact xm_sub [2, 3, 1, 0] rfl (hC _ rfl)
theorem L_X12_does_l47 {G : xG} {π : Nat → Nat} {d C Z : Nat} {Q : xQ} (σ : xM) {s0 : (Nat × Int32 × Int32 × Int32)} {x : (xM ⊕ (Nat × Int32 × Int32))} (h1 : xloop (f_X12_does_s47 σ) xF s0 = some x) (hR : ∀ g, x = Sum.inl g → Q (.inl none) (g) π) (hE : ∀ e : (Nat × Int32 × Int32), x = Sum.inr e → xMach G π J_X12_does (d + 0) C Z 84 [(0, .ref e.1), (4, .int e.2.1), (5, .int e.2.2)] [] σ Q) : xMach G π J_X12_does (d + 0) C Z 47 [(0, .ref s0.1), (4, .int s0.2.1), (5, .int s0.2.2.1), (6, .int s0.2.2.2)] [] σ Q := by
  refine xloop_run (M := (fun s : (Nat × Int32 × Int32 × Int32) => xMach G π J_X12_does (d + 0) C Z 47 [(0, .ref s.1), (4, .int s.2.1), (5, .int s.2.2.1), (6, .int s.2.2.2)] [] σ Q)) (r := x) ?_ xF _ h1
  intro s y hs hx
  exact L_X12_does_s47 σ s.1 s.2.1 s.2.2.1 s.2.2.2 (x := y) hs (fun g hg => by subst hg; exact hR g hx) (fun e he => by subst he; exact hE e hx) (fun e he => by subst he; exact hx)
def f_X12_does_j84 (σ : xM) (l0 : Nat) (l4 : Int32) (l5 : Int32) : Option xM :=
  (gR σ l0 12 31).bind (fun x22 => (gI σ l0 12 33).bind (fun x23 => (wI σ x22 x23 l5).bind (fun σ24 => (gI σ24 l0 12 36).bind (fun x25 => (sI σ24 l0 12 36 (x25 - l4)).bind (fun σ26 => (gR σ26 l0 12 34).bind (fun x27 => (gI σ26 l0 12 36).bind (fun x28 => (gI σ26 l0 12 33).bind (fun x29 => (wI σ26 x27 x28 x29).bind (fun σ30 => (gR σ30 l0 12 35).bind (fun x31 => (gI σ30 l0 12 36).bind (fun x32 => (wZ σ30 x31 x32 (0 : Int32)).bind (fun σ33 => (gI σ33 l0 12 36).bind (fun x34 => (sI σ33 l0 12 36 (x34 + (1 : Int32))).bind (fun σ35 => (gI σ35 l0 12 33).bind (fun x36 => (sI σ35 l0 12 33 (x36 + (1 : Int32))).bind (fun σ37 => some σ37))))))))))))))))
set_option maxHeartbeats 4000000 in
set_option maxRecDepth 20000 in
theorem L_X12_does_j84 {G : xG} {π : Nat → Nat} {d C Z : Nat} {Q : xQ} (σ : xM) (l0 : Nat) (l4 : Int32) (l5 : Int32) {x : xM} (hf : f_X12_does_j84 σ l0 l4 l5 = some x) (hR : ∀ g, x = g → Q (.inl none) (g) π) : xMach G π J_X12_does (d + 0) C Z 84 [(0, .ref l0), (4, .int l4), (5, .int l5)] [] σ Q := by
  unfold f_X12_does_j84 at hf
  refine xm_aload_n dX12_does_84 rfl ?_
  refine xb_getR (a := l0) (c := 12) (k := 31) dX12_does_85 xcl12 (by decide) xw_1868 rfl hf (fun x22 ex22 hf => ?_)
  refine xm_aload_n dX12_does_88 rfl ?_
  refine xb_getI (a := l0) (c := 12) (k := 33) dX12_does_89 xcl12 (by decide) xw_1870 rfl hf (fun x23 ex23 hf => ?_)
  refine xm_iload dX12_does_92 rfl ?_
  refine xb_iast dX12_does_94 hf (fun σ24 eσ24 hf => ?_)
  refine xm_aload_n dX12_does_95 rfl ?_
  refine xm_dup dX12_does_96 rfl ?_
  refine xb_getI (a := l0) (c := 12) (k := 36) dX12_does_97 xcl12 (by decide) xw_1873 rfl hf (fun x25 ex25 hf => ?_)
  refine xm_iload dX12_does_100 rfl ?_
  refine xm_isub dX12_does_102 ?_
  refine xb_putI (a := l0) (c := 12) (k := 36) dX12_does_103 xcl12 (by decide) xw_1873 rfl rfl hf (fun σ26 eσ26 hf => ?_)
  refine xm_aload_n dX12_does_106 rfl ?_
  refine xb_getR (a := l0) (c := 12) (k := 34) dX12_does_107 xcl12 (by decide) xw_1871 rfl hf (fun x27 ex27 hf => ?_)
  refine xm_aload_n dX12_does_110 rfl ?_
  refine xb_getI (a := l0) (c := 12) (k := 36) dX12_does_111 xcl12 (by decide) xw_1873 rfl hf (fun x28 ex28 hf => ?_)
  refine xm_aload_n dX12_does_114 rfl ?_
  refine xb_getI (a := l0) (c := 12) (k := 33) dX12_does_115 xcl12 (by decide) xw_1870 rfl hf (fun x29 ex29 hf => ?_)
  refine xb_iast dX12_does_118 hf (fun σ30 eσ30 hf => ?_)
  refine xm_aload_n dX12_does_119 rfl ?_
  refine xb_getR (a := l0) (c := 12) (k := 35) dX12_does_120 xcl12 (by decide) xw_1872 rfl hf (fun x31 ex31 hf => ?_)
  refine xm_aload_n dX12_does_123 rfl ?_
  refine xb_getI (a := l0) (c := 12) (k := 36) dX12_does_124 xcl12 (by decide) xw_1873 rfl hf (fun x32 ex32 hf => ?_)
  refine xm_iconst dX12_does_127 (v := 0) (by decide) ?_
  refine xb_zast dX12_does_128 hf (fun σ33 eσ33 hf => ?_)
  refine xm_aload_n dX12_does_129 rfl ?_
  refine xm_dup dX12_does_130 rfl ?_
  refine xb_getI (a := l0) (c := 12) (k := 36) dX12_does_131 xcl12 (by decide) xw_1873 rfl hf (fun x34 ex34 hf => ?_)
  refine xm_iconst dX12_does_134 (v := 1) (by decide) ?_
  refine xm_iadd dX12_does_135 ?_
  refine xb_putI (a := l0) (c := 12) (k := 36) dX12_does_136 xcl12 (by decide) xw_1873 rfl rfl hf (fun σ35 eσ35 hf => ?_)
  refine xm_aload_n dX12_does_139 rfl ?_
  refine xm_dup dX12_does_140 rfl ?_
  refine xb_getI (a := l0) (c := 12) (k := 33) dX12_does_141 xcl12 (by decide) xw_1870 rfl hf (fun x36 ex36 hf => ?_)
  refine xm_iconst dX12_does_144 (v := 1) (by decide) ?_
  refine xm_iadd dX12_does_145 ?_
  refine xb_putI (a := l0) (c := 12) (k := 33) dX12_does_146 xcl12 (by decide) xw_1870 rfl rfl hf (fun σ37 eσ37 hf => ?_)
  cases hf
  exact xm_vret dX12_does_149 rfl (hR _ rfl)
def f_X12_does (σ : xM) (l0 : Nat) (l1 : Int32) (l2 : Int32) (l3 : Int32) (l4 : Int32) : Option xM :=
  (gR σ l0 12 27).bind (fun x1 => (gI σ l0 12 33).bind (fun x2 => (wI σ x1 x2 l1).bind (fun σ3 => (gR σ3 l0 12 28).bind (fun x4 => (gI σ3 l0 12 33).bind (fun x5 => (wI σ3 x4 x5 l2).bind (fun σ6 => (gR σ6 l0 12 29).bind (fun x7 => (gI σ6 l0 12 33).bind (fun x8 => (wI σ6 x7 x8 l3).bind (fun σ9 => (gR σ9 l0 12 30).bind (fun x10 => (gI σ9 l0 12 33).bind (fun x11 => (wI σ9 x10 x11 l4).bind (fun σ12 => xlet (1 : Int32) (fun v13 => xlet (0 : Int32) (fun v14 => (xloop (f_X12_does_s47 σ12 ) xF (l0, l4, v13, v14)).bind (Sum.elim (fun g => some g) (fun e => f_X12_does_j84 σ12 e.1 e.2.1 e.2.2))))))))))))))))
set_option maxHeartbeats 4000000 in
set_option maxRecDepth 20000 in
theorem m_X12_does {G : xG} {π : Nat → Nat} {d C Z : Nat} {Q : xQ} {σ : xM} {l0 : Nat} {l1 : Int32} {l2 : Int32} {l3 : Int32} {l4 : Int32} {x : xM} (hf : f_X12_does σ l0 l1 l2 l3 l4 = some x) (hR : ∀ g, x = g → Q (.inl none) (g) π) : xMach G π J_X12_does (d + 0) C Z 0 (lv_args 0 [.ref l0, .int l1, .int l2, .int l3, .int l4]) [] σ Q := by
  unfold f_X12_does at hf
  refine xm_stL (L' := [(0, .ref l0), (1, .int l1), (2, .int l2), (3, .int l3), (4, .int l4)]) rfl ?_
  refine xm_aload_n dX12_does_0 rfl ?_
  refine xb_getR (a := l0) (c := 12) (k := 27) dX12_does_1 xcl12 (by decide) xw_1864 rfl hf (fun x1 ex1 hf => ?_)
  refine xm_aload_n dX12_does_4 rfl ?_
  refine xb_getI (a := l0) (c := 12) (k := 33) dX12_does_5 xcl12 (by decide) xw_1870 rfl hf (fun x2 ex2 hf => ?_)
  refine xm_iload_n dX12_does_8 rfl ?_
  refine xb_iast dX12_does_9 hf (fun σ3 eσ3 hf => ?_)
  refine xm_aload_n dX12_does_10 rfl ?_
  refine xb_getR (a := l0) (c := 12) (k := 28) dX12_does_11 xcl12 (by decide) xw_1865 rfl hf (fun x4 ex4 hf => ?_)
  refine xm_aload_n dX12_does_14 rfl ?_
  refine xb_getI (a := l0) (c := 12) (k := 33) dX12_does_15 xcl12 (by decide) xw_1870 rfl hf (fun x5 ex5 hf => ?_)
  refine xm_iload_n dX12_does_18 rfl ?_
  refine xb_iast dX12_does_19 hf (fun σ6 eσ6 hf => ?_)
  refine xm_aload_n dX12_does_20 rfl ?_
  refine xb_getR (a := l0) (c := 12) (k := 29) dX12_does_21 xcl12 (by decide) xw_1866 rfl hf (fun x7 ex7 hf => ?_)
  refine xm_aload_n dX12_does_24 rfl ?_
  refine xb_getI (a := l0) (c := 12) (k := 33) dX12_does_25 xcl12 (by decide) xw_1870 rfl hf (fun x8 ex8 hf => ?_)
  refine xm_iload_n dX12_does_28 rfl ?_
  refine xb_iast dX12_does_29 hf (fun σ9 eσ9 hf => ?_)
  refine xm_aload_n dX12_does_30 rfl ?_
  refine xb_getR (a := l0) (c := 12) (k := 30) dX12_does_31 xcl12 (by decide) xw_1867 rfl hf (fun x10 ex10 hf => ?_)
  refine xm_aload_n dX12_does_34 rfl ?_
  refine xb_getI (a := l0) (c := 12) (k := 33) dX12_does_35 xcl12 (by decide) xw_1870 rfl hf (fun x11 ex11 hf => ?_)
  refine xm_iload dX12_does_38 rfl ?_
  refine xb_iast dX12_does_40 hf (fun σ12 eσ12 hf => ?_)
  refine xm_iconst dX12_does_41 (v := 1) (by decide) ?_
  refine xb_topi hf (fun v13 ev13 hf => ?_)
  refine xm_istore dX12_does_42 (by decide) (xm_stL (L' := [(5, .int v13), (0, .ref l0), (1, .int l1), (2, .int l2), (3, .int l3), (4, .int l4)]) rfl ?_)
  refine xm_iconst dX12_does_44 (v := 0) (by decide) ?_
  refine xb_topi hf (fun v14 ev14 hf => ?_)
  refine xm_istore dX12_does_45 (by decide) (xm_stL (L' := [(6, .int v14), (5, .int v13), (0, .ref l0), (1, .int l1), (2, .int l2), (3, .int l3), (4, .int l4)]) rfl ?_)
  obtain ⟨o, h1, hf⟩ := xbind hf
  refine xm_sub [2, 6, 1, 0] rfl (L_X12_does_l47 σ12 h1 (fun g hg => ?_) (fun e he => ?_))
  · subst hg
    cases hf
    exact hR _ rfl
  · subst he
    rw [Sum.elim_inr] at hf
    have hf : f_X12_does_j84 σ12 e.1 e.2.1 e.2.2 = some _ := hf
    exact xm_sub [0, 1, 2] rfl (L_X12_does_j84 σ12 e.1 e.2.1 e.2.2 hf hR)
-- RankwiseModel.opens(III)V
def f_X12_opens (σ : xM) (l0 : Nat) (l1 : Int32) (l2 : Int32) (l3 : Int32) : Option xM :=
  (gR σ l0 12 37).bind (fun x1 => (gI σ l0 12 40).bind (fun x2 => (wI σ x1 x2 l1).bind (fun σ3 => (gR σ3 l0 12 38).bind (fun x4 => (gI σ3 l0 12 40).bind (fun x5 => (wI σ3 x4 x5 l2).bind (fun σ6 => (gR σ6 l0 12 39).bind (fun x7 => (gI σ6 l0 12 40).bind (fun x8 => (wI σ6 x7 x8 l3).bind (fun σ9 => (gI σ9 l0 12 40).bind (fun x10 => (sI σ9 l0 12 40 (x10 + (1 : Int32))).bind (fun σ11 => some σ11)))))))))))
set_option maxHeartbeats 4000000 in
set_option maxRecDepth 20000 in
theorem m_X12_opens {G : xG} {π : Nat → Nat} {d C Z : Nat} {Q : xQ} {σ : xM} {l0 : Nat} {l1 : Int32} {l2 : Int32} {l3 : Int32} {x : xM} (hf : f_X12_opens σ l0 l1 l2 l3 = some x) (hR : ∀ g, x = g → Q (.inl none) (g) π) : xMach G π J_X12_opens (d + 0) C Z 0 (lv_args 0 [.ref l0, .int l1, .int l2, .int l3]) [] σ Q := by
  unfold f_X12_opens at hf
  refine xm_stL (L' := [(0, .ref l0), (1, .int l1), (2, .int l2), (3, .int l3)]) rfl ?_
  refine xm_aload_n dX12_opens_0 rfl ?_
  refine xb_getR (a := l0) (c := 12) (k := 37) dX12_opens_1 xcl12 (by decide) xw_1874 rfl hf (fun x1 ex1 hf => ?_)
  refine xm_aload_n dX12_opens_4 rfl ?_
  refine xb_getI (a := l0) (c := 12) (k := 40) dX12_opens_5 xcl12 (by decide) xw_1877 rfl hf (fun x2 ex2 hf => ?_)
  refine xm_iload_n dX12_opens_8 rfl ?_
  refine xb_iast dX12_opens_9 hf (fun σ3 eσ3 hf => ?_)
  refine xm_aload_n dX12_opens_10 rfl ?_
  refine xb_getR (a := l0) (c := 12) (k := 38) dX12_opens_11 xcl12 (by decide) xw_1875 rfl hf (fun x4 ex4 hf => ?_)
  refine xm_aload_n dX12_opens_14 rfl ?_
  refine xb_getI (a := l0) (c := 12) (k := 40) dX12_opens_15 xcl12 (by decide) xw_1877 rfl hf (fun x5 ex5 hf => ?_)
  refine xm_iload_n dX12_opens_18 rfl ?_
  refine xb_iast dX12_opens_19 hf (fun σ6 eσ6 hf => ?_)
  refine xm_aload_n dX12_opens_20 rfl ?_
  refine xb_getR (a := l0) (c := 12) (k := 39) dX12_opens_21 xcl12 (by decide) xw_1876 rfl hf (fun x7 ex7 hf => ?_)
  refine xm_aload_n dX12_opens_24 rfl ?_
  refine xb_getI (a := l0) (c := 12) (k := 40) dX12_opens_25 xcl12 (by decide) xw_1877 rfl hf (fun x8 ex8 hf => ?_)
  refine xm_iload_n dX12_opens_28 rfl ?_
  refine xb_iast dX12_opens_29 hf (fun σ9 eσ9 hf => ?_)
  refine xm_aload_n dX12_opens_30 rfl ?_
  refine xm_dup dX12_opens_31 rfl ?_
  refine xb_getI (a := l0) (c := 12) (k := 40) dX12_opens_32 xcl12 (by decide) xw_1877 rfl hf (fun x10 ex10 hf => ?_)
  refine xm_iconst dX12_opens_35 (v := 1) (by decide) ?_
  refine xm_iadd dX12_opens_36 ?_
  refine xb_putI (a := l0) (c := 12) (k := 40) dX12_opens_37 xcl12 (by decide) xw_1877 rfl rfl hf (fun σ11 eσ11 hf => ?_)
  cases hf
  exact xm_vret dX12_opens_40 rfl (hR _ rfl)
-- RankwiseModel.reduce(I)V
def f_X12_reduce_j95 (σ : xM) (l0 : Nat) (l1 : Int32) (s0 : Int32) (s1 : Int32) (s2 : Int32) (s3 : Int32) (s4 : Nat) : Option (xM ⊕ ((xM) ⊕ (Nat × Int32 × xM))) :=
  (if xk σ s4 12 = true then (f_X12_does σ s4 s3 s2 s1 s0).bind (fun p16 => some (Sum.inr (Sum.inr (l0, l1, p16)))) else none)
set_option maxHeartbeats 4000000 in
set_option maxRecDepth 20000 in
theorem L_X12_reduce_j95 {G : xG} {π : Nat → Nat} {d C Z : Nat} {Q : xQ} (σ : xM) (l0 : Nat) (l1 : Int32) (s0 : Int32) (s1 : Int32) (s2 : Int32) (s3 : Int32) (s4 : Nat) {x : (xM ⊕ ((xM) ⊕ (Nat × Int32 × xM)))} (hf : f_X12_reduce_j95 σ l0 l1 s0 s1 s2 s3 s4 = some x) (hR : ∀ g, x = Sum.inl (g) → Q (.inl none) (g) π) (hE : ∀ e : (xM), x = Sum.inr (Sum.inl e) → xMach G π J_X12_reduce (d + 1) C Z 101 [] [] e Q) (hC : ∀ e : (Nat × Int32 × xM), x = Sum.inr (Sum.inr e) → xMach G π J_X12_reduce (d + 1) C Z 0 [(0, .ref e.1), (1, .int e.2.1)] [] e.2.2 Q) : xMach G π J_X12_reduce (d + 1) C Z 95 [(0, .ref l0), (1, .int l1)] [.int s0, .int s1, .int s2, .int s3, .ref s4] σ Q := by
  unfold f_X12_reduce_j95 at hf
  refine xb_if hf (fun hb hf => ?_) (fun _ q => nomatch q)
  obtain ⟨p16, ep16, hf⟩ := xbind hf
  refine xb_callV (As := [.int s3, .int s2, .int s1, .int s0]) (v0 := none) (τ0 := p16) dX12_reduce_95 (xc_X12_does _ _) xcl12 xw_2162 xw_2164 xs_99 hb rfl (Nat.le_of_ble_eq_true rfl) rfl (Nat.le_of_ble_eq_true rfl) (fun Q1 hq => m_X12_does (d := d + 0) ep16 (fun g hg => by subst hg; exact hq)) ?_
  refine xm_goto 0 dX12_reduce_98 (by decide) ?_
  cases hf
  exact xm_sub [0, 1] rfl (hC _ rfl)
def f_X12_reduce_j86 (σ : xM) (l0 : Nat) (l1 : Int32) (l2 : Int32) (s0 : Int32) (s1 : Int32) (s2 : Int32) (s3 : Nat) : Option (xM ⊕ ((xM) ⊕ (Nat × Int32 × xM))) :=
  (if l2 = (0 : Int32) then f_X12_reduce_j95 σ l0 l1 (2 : Int32) s0 s1 s2 s3 else f_X12_reduce_j95 σ l0 l1 (1 : Int32) s0 s1 s2 s3)
set_option maxHeartbeats 4000000 in
set_option maxRecDepth 20000 in
theorem L_X12_reduce_j86 {G : xG} {π : Nat → Nat} {d C Z : Nat} {Q : xQ} (σ : xM) (l0 : Nat) (l1 : Int32) (l2 : Int32) (s0 : Int32) (s1 : Int32) (s2 : Int32) (s3 : Nat) {x : (xM ⊕ ((xM) ⊕ (Nat × Int32 × xM)))} (hf : f_X12_reduce_j86 σ l0 l1 l2 s0 s1 s2 s3 = some x) (hR : ∀ g, x = Sum.inl (g) → Q (.inl none) (g) π) (hE : ∀ e : (xM), x = Sum.inr (Sum.inl e) → xMach G π J_X12_reduce (d + 1) C Z 101 [] [] e Q) (hC : ∀ e : (Nat × Int32 × xM), x = Sum.inr (Sum.inr e) → xMach G π J_X12_reduce (d + 1) C Z 0 [(0, .ref e.1), (1, .int e.2.1)] [] e.2.2 Q) : xMach G π J_X12_reduce (d + 1) C Z 86 [(0, .ref l0), (1, .int l1), (2, .int l2)] [.int s0, .int s1, .int s2, .ref s3] σ Q := by
  unfold f_X12_reduce_j86 at hf
  refine xm_iload_n dX12_reduce_86 rfl ?_
  refine xb_if_eq 94 dX12_reduce_87 (by decide) hf (fun c hf => ?_) (fun c hf => ?_)
  · refine xm_iconst dX12_reduce_94 (v := 2) (by decide) ?_
    exact xm_sub [0, 1] rfl (L_X12_reduce_j95 σ l0 l1 (2 : Int32) s0 s1 s2 s3 hf hR hE hC)
  · refine xm_iconst dX12_reduce_90 (v := 1) (by decide) ?_
    refine xm_goto 95 dX12_reduce_91 (by decide) ?_
    exact xm_sub [0, 1] rfl (L_X12_reduce_j95 σ l0 l1 (1 : Int32) s0 s1 s2 s3 hf hR hE hC)
def f_X12_reduce_j65 (σ : xM) (l0 : Nat) (l1 : Int32) (s0 : Int32) : Option (xM ⊕ ((xM) ⊕ (Nat × Int32 × xM))) :=
  (gR σ l0 12 38).bind (fun x13 => (gI σ l0 12 40).bind (fun x14 => (aI σ x13 14 x14).bind (fun x15 => (if s0 = (0 : Int32) then f_X12_reduce_j86 σ l0 l1 s0 (2 : Int32) x15 (3 : Int32) l0 else f_X12_reduce_j86 σ l0 l1 s0 (0 : Int32) x15 (3 : Int32) l0))))
set_option maxHeartbeats 4000000 in
set_option maxRecDepth 20000 in
theorem L_X12_reduce_j65 {G : xG} {π : Nat → Nat} {d C Z : Nat} {Q : xQ} (σ : xM) (l0 : Nat) (l1 : Int32) (s0 : Int32) {x : (xM ⊕ ((xM) ⊕ (Nat × Int32 × xM)))} (hf : f_X12_reduce_j65 σ l0 l1 s0 = some x) (hR : ∀ g, x = Sum.inl (g) → Q (.inl none) (g) π) (hE : ∀ e : (xM), x = Sum.inr (Sum.inl e) → xMach G π J_X12_reduce (d + 1) C Z 101 [] [] e Q) (hC : ∀ e : (Nat × Int32 × xM), x = Sum.inr (Sum.inr e) → xMach G π J_X12_reduce (d + 1) C Z 0 [(0, .ref e.1), (1, .int e.2.1)] [] e.2.2 Q) : xMach G π J_X12_reduce (d + 1) C Z 65 [(0, .ref l0), (1, .int l1)] [.int s0] σ Q := by
  unfold f_X12_reduce_j65 at hf
  refine xm_istore_n dX12_reduce_65 (by decide) (xm_stL (L' := [(2, .int s0), (0, .ref l0), (1, .int l1)]) rfl ?_)
  refine xm_aload_n dX12_reduce_66 rfl ?_
  refine xm_iconst dX12_reduce_67 (v := 3) (by decide) ?_
  refine xm_aload_n dX12_reduce_68 rfl ?_
  refine xb_getR (a := l0) (c := 12) (k := 38) dX12_reduce_69 xcl12 (by decide) xw_1875 rfl hf (fun x13 ex13 hf => ?_)
  refine xm_aload_n dX12_reduce_72 rfl ?_
  refine xb_getI (a := l0) (c := 12) (k := 40) dX12_reduce_73 xcl12 (by decide) xw_1877 rfl hf (fun x14 ex14 hf => ?_)
  refine xb_iald dX12_reduce_76 hf (fun x15 ex15 hf => ?_)
  refine xm_iload_n dX12_reduce_77 rfl ?_
  refine xb_if_eq 85 dX12_reduce_78 (by decide) hf (fun c hf => ?_) (fun c hf => ?_)
  · refine xm_iconst dX12_reduce_85 (v := 2) (by decide) ?_
    exact xm_sub [1, 2, 0] rfl (L_X12_reduce_j86 σ l0 l1 s0 (2 : Int32) x15 (3 : Int32) l0 hf hR hE hC)
  · refine xm_iconst dX12_reduce_81 (v := 0) (by decide) ?_
    refine xm_goto 86 dX12_reduce_82 (by decide) ?_
    exact xm_sub [1, 2, 0] rfl (L_X12_reduce_j86 σ l0 l1 s0 (0 : Int32) x15 (3 : Int32) l0 hf hR hE hC)
def f_X12_reduce_s0 (s : (Nat × Int32 × xM)) : Option (xM ⊕ ((xM) ⊕ (Nat × Int32 × xM))) :=
  xlet s.1 (fun l0 => xlet s.2.1 (fun l1 => xlet s.2.2 (fun σ => (gI σ l0 12 40).bind (fun x1 => (if x1 ≤ (0 : Int32) then some (Sum.inr (Sum.inl σ)) else (gR σ l0 12 37).bind (fun x2 => (gI σ l0 12 40).bind (fun x3 => (aI σ x2 14 (x3 - (1 : Int32))).bind (fun x4 => (if x4 < (2 : Int32) then some (Sum.inr (Sum.inl σ)) else (gR σ l0 12 39).bind (fun x5 => (gI σ l0 12 40).bind (fun x6 => (aI σ x5 14 (x6 - (1 : Int32))).bind (fun x7 => (if x7 ≤ l1 then some (Sum.inr (Sum.inl σ)) else (gI σ l0 12 40).bind (fun x8 => (sI σ l0 12 40 (x8 - (1 : Int32))).bind (fun σ9 => (gR σ9 l0 12 37).bind (fun x10 => (gI σ9 l0 12 40).bind (fun x11 => (aI σ9 x10 14 x11).bind (fun x12 => (if x12 = (2 : Int32) then f_X12_reduce_j65 σ9 l0 l1 (1 : Int32) else f_X12_reduce_j65 σ9 l0 l1 (0 : Int32))))))))))))))))))))
set_option maxHeartbeats 4000000 in
set_option maxRecDepth 20000 in
theorem L_X12_reduce_s0 {G : xG} {π : Nat → Nat} {d C Z : Nat} {Q : xQ} (σ : xM) (l0 : Nat) (l1 : Int32) {x : (xM ⊕ ((xM) ⊕ (Nat × Int32 × xM)))} (hf : f_X12_reduce_s0 (l0, l1, σ) = some x) (hR : ∀ g, x = Sum.inl (g) → Q (.inl none) (g) π) (hE : ∀ e : (xM), x = Sum.inr (Sum.inl e) → xMach G π J_X12_reduce (d + 1) C Z 101 [] [] e Q) (hC : ∀ e : (Nat × Int32 × xM), x = Sum.inr (Sum.inr e) → xMach G π J_X12_reduce (d + 1) C Z 0 [(0, .ref e.1), (1, .int e.2.1)] [] e.2.2 Q) : xMach G π J_X12_reduce (d + 1) C Z 0 [(0, .ref l0), (1, .int l1)] [] σ Q := by
  have hf : (gI σ l0 12 40).bind (fun x1 => (if x1 ≤ (0 : Int32) then some (Sum.inr (Sum.inl σ)) else (gR σ l0 12 37).bind (fun x2 => (gI σ l0 12 40).bind (fun x3 => (aI σ x2 14 (x3 - (1 : Int32))).bind (fun x4 => (if x4 < (2 : Int32) then some (Sum.inr (Sum.inl σ)) else (gR σ l0 12 39).bind (fun x5 => (gI σ l0 12 40).bind (fun x6 => (aI σ x5 14 (x6 - (1 : Int32))).bind (fun x7 => (if x7 ≤ l1 then some (Sum.inr (Sum.inl σ)) else (gI σ l0 12 40).bind (fun x8 => (sI σ l0 12 40 (x8 - (1 : Int32))).bind (fun σ9 => (gR σ9 l0 12 37).bind (fun x10 => (gI σ9 l0 12 40).bind (fun x11 => (aI σ9 x10 14 x11).bind (fun x12 => (if x12 = (2 : Int32) then f_X12_reduce_j65 σ9 l0 l1 (1 : Int32) else f_X12_reduce_j65 σ9 l0 l1 (0 : Int32))))))))))))))))) = some x := hf
  refine xm_aload_n dX12_reduce_0 rfl ?_
  refine xb_getI (a := l0) (c := 12) (k := 40) dX12_reduce_1 xcl12 (by decide) xw_1877 rfl hf (fun x1 ex1 hf => ?_)
  refine xb_if_le 101 dX12_reduce_4 (by decide) hf (fun c hf => ?_) (fun c hf => ?_)
  · cases hf
    exact xm_sub [] rfl (hE _ rfl)
  · refine xm_aload_n dX12_reduce_7 rfl ?_
    refine xb_getR (a := l0) (c := 12) (k := 37) dX12_reduce_8 xcl12 (by decide) xw_1874 rfl hf (fun x2 ex2 hf => ?_)
    refine xm_aload_n dX12_reduce_11 rfl ?_
    refine xb_getI (a := l0) (c := 12) (k := 40) dX12_reduce_12 xcl12 (by decide) xw_1877 rfl hf (fun x3 ex3 hf => ?_)
    refine xm_iconst dX12_reduce_15 (v := 1) (by decide) ?_
    refine xm_isub dX12_reduce_16 ?_
    refine xb_iald dX12_reduce_17 hf (fun x4 ex4 hf => ?_)
    refine xm_iconst dX12_reduce_18 (v := 2) (by decide) ?_
    refine xb_icmp_lt 101 dX12_reduce_19 (by decide) hf (fun c hf => ?_) (fun c hf => ?_)
    · cases hf
      exact xm_sub [] rfl (hE _ rfl)
    · refine xm_aload_n dX12_reduce_22 rfl ?_
      refine xb_getR (a := l0) (c := 12) (k := 39) dX12_reduce_23 xcl12 (by decide) xw_1876 rfl hf (fun x5 ex5 hf => ?_)
      refine xm_aload_n dX12_reduce_26 rfl ?_
      refine xb_getI (a := l0) (c := 12) (k := 40) dX12_reduce_27 xcl12 (by decide) xw_1877 rfl hf (fun x6 ex6 hf => ?_)
      refine xm_iconst dX12_reduce_30 (v := 1) (by decide) ?_
      refine xm_isub dX12_reduce_31 ?_
      refine xb_iald dX12_reduce_32 hf (fun x7 ex7 hf => ?_)
      refine xm_iload_n dX12_reduce_33 rfl ?_
      refine xb_icmp_le 101 dX12_reduce_34 (by decide) hf (fun c hf => ?_) (fun c hf => ?_)
      · cases hf
        exact xm_sub [] rfl (hE _ rfl)
      · refine xm_aload_n dX12_reduce_37 rfl ?_
        refine xm_dup dX12_reduce_38 rfl ?_
        refine xb_getI (a := l0) (c := 12) (k := 40) dX12_reduce_39 xcl12 (by decide) xw_1877 rfl hf (fun x8 ex8 hf => ?_)
        refine xm_iconst dX12_reduce_42 (v := 1) (by decide) ?_
        refine xm_isub dX12_reduce_43 ?_
        refine xb_putI (a := l0) (c := 12) (k := 40) dX12_reduce_44 xcl12 (by decide) xw_1877 rfl rfl hf (fun σ9 eσ9 hf => ?_)
        refine xm_aload_n dX12_reduce_47 rfl ?_
        refine xb_getR (a := l0) (c := 12) (k := 37) dX12_reduce_48 xcl12 (by decide) xw_1874 rfl hf (fun x10 ex10 hf => ?_)
        refine xm_aload_n dX12_reduce_51 rfl ?_
        refine xb_getI (a := l0) (c := 12) (k := 40) dX12_reduce_52 xcl12 (by decide) xw_1877 rfl hf (fun x11 ex11 hf => ?_)
        refine xb_iald dX12_reduce_55 hf (fun x12 ex12 hf => ?_)
        refine xm_iconst dX12_reduce_56 (v := 2) (by decide) ?_
        refine xb_icmp_ne 64 dX12_reduce_57 (by decide) hf (fun c hf => ?_) (fun c hf => ?_)
        · refine xm_iconst dX12_reduce_64 (v := 0) (by decide) ?_
          exact xm_sub [0, 1] rfl (L_X12_reduce_j65 σ9 l0 l1 (0 : Int32) hf hR hE hC)
        · refine xm_iconst dX12_reduce_60 (v := 1) (by decide) ?_
          refine xm_goto 65 dX12_reduce_61 (by decide) ?_
          exact xm_sub [0, 1] rfl (L_X12_reduce_j65 σ9 l0 l1 (1 : Int32) hf hR hE hC)
theorem L_X12_reduce_l0 {G : xG} {π : Nat → Nat} {d C Z : Nat} {Q : xQ} {s0 : (Nat × Int32 × xM)} {x : (xM ⊕ (xM))} (h1 : xloop (f_X12_reduce_s0) xF s0 = some x) (hR : ∀ g, x = Sum.inl g → Q (.inl none) (g) π) (hE : ∀ e : (xM), x = Sum.inr e → xMach G π J_X12_reduce (d + 1) C Z 101 [] [] e Q) : xMach G π J_X12_reduce (d + 1) C Z 0 [(0, .ref s0.1), (1, .int s0.2.1)] [] s0.2.2 Q := by
  refine xloop_run (M := (fun s : (Nat × Int32 × xM) => xMach G π J_X12_reduce (d + 1) C Z 0 [(0, .ref s.1), (1, .int s.2.1)] [] s.2.2 Q)) (r := x) ?_ xF _ h1
  intro s y hs hx
  exact L_X12_reduce_s0 s.2.2 s.1 s.2.1 (x := y) hs (fun g hg => by subst hg; exact hR g hx) (fun e he => by subst he; exact hE e hx) (fun e he => by subst he; exact hx)
def f_X12_reduce_j101 (σ : xM)  : Option xM :=
  some σ
set_option maxHeartbeats 4000000 in
set_option maxRecDepth 20000 in
theorem L_X12_reduce_j101 {G : xG} {π : Nat → Nat} {d C Z : Nat} {Q : xQ} (σ : xM)  {x : xM} (hf : f_X12_reduce_j101 σ = some x) (hR : ∀ g, x = g → Q (.inl none) (g) π) : xMach G π J_X12_reduce (d + 1) C Z 101 [] [] σ Q := by
  unfold f_X12_reduce_j101 at hf
  cases hf
  exact xm_vret dX12_reduce_101 rfl (hR _ rfl)
def f_X12_reduce (σ : xM) (l0 : Nat) (l1 : Int32) : Option xM :=
  (xloop (f_X12_reduce_s0 ) xF (l0, l1, σ)).bind (Sum.elim (fun g => some g) (fun e => f_X12_reduce_j101 e))
set_option maxHeartbeats 4000000 in
set_option maxRecDepth 20000 in
theorem m_X12_reduce {G : xG} {π : Nat → Nat} {d C Z : Nat} {Q : xQ} {σ : xM} {l0 : Nat} {l1 : Int32} {x : xM} (hf : f_X12_reduce σ l0 l1 = some x) (hR : ∀ g, x = g → Q (.inl none) (g) π) : xMach G π J_X12_reduce (d + 1) C Z 0 (lv_args 0 [.ref l0, .int l1]) [] σ Q := by
  unfold f_X12_reduce at hf
  refine xm_stL (L' := [(0, .ref l0), (1, .int l1)]) rfl ?_
  obtain ⟨o, h1, hf⟩ := xbind hf
  refine xm_sub [0, 1] rfl (L_X12_reduce_l0  h1 (fun g hg => ?_) (fun e he => ?_))
  · subst hg
    cases hf
    exact hR _ rfl
  · subst he
    rw [Sum.elim_inr] at hf
    have hf : f_X12_reduce_j101 e = some _ := hf
    exact xm_sub [] rfl (L_X12_reduce_j101 e hf hR)
-- RankwiseModel.isNeither(I)Z
def f_X12_isNeither_j66 (σ : xM) (s0 : Int32) : Option Int32 :=
  (xz s0).bind (fun b7 => some b7)
set_option maxHeartbeats 4000000 in
set_option maxRecDepth 20000 in
theorem L_X12_isNeither_j66 {G : xG} {π : Nat → Nat} {d C Z : Nat} {Q : xQ} (σ : xM) (s0 : Int32) {x : Int32} (hf : f_X12_isNeither_j66 σ s0 = some x) (hR : ∀ g, x = g → Q (.inl (some (.int g))) (σ) π) : xMach G π J_X12_isNeither (d + 2) C Z 66 [] [.int s0] σ Q := by
  unfold f_X12_isNeither_j66 at hf
  obtain ⟨b7, eb7, hf⟩ := xbind hf
  obtain ⟨rfl, hz⟩ := xz_of eb7
  cases hf
  exact xm_zret dX12_isNeither_66 rfl hz (hR _ rfl)
def f_X12_isNeither_j65 (σ : xM)  : Option Int32 :=
  f_X12_isNeither_j66 σ (0 : Int32)
set_option maxHeartbeats 4000000 in
set_option maxRecDepth 20000 in
theorem L_X12_isNeither_j65 {G : xG} {π : Nat → Nat} {d C Z : Nat} {Q : xQ} (σ : xM)  {x : Int32} (hf : f_X12_isNeither_j65 σ = some x) (hR : ∀ g, x = g → Q (.inl (some (.int g))) (σ) π) : xMach G π J_X12_isNeither (d + 2) C Z 65 [] [] σ Q := by
  unfold f_X12_isNeither_j65 at hf
  refine xm_iconst dX12_isNeither_65 (v := 0) (by decide) ?_
  exact xm_sub [] rfl (L_X12_isNeither_j66 σ (0 : Int32) hf hR)
def f_X12_isNeither (σ : xM) (l0 : Nat) (l1 : Int32) : Option Int32 :=
  (gR σ l0 12 34).bind (fun x1 => (gI σ l0 12 36).bind (fun x2 => (aI σ x1 14 (x2 - (1 : Int32))).bind (fun x3 => (gR σ l0 12 35).bind (fun x4 => (gI σ l0 12 36).bind (fun x5 => (aI σ x4 15 (x5 - (1 : Int32))).bind (fun x6 => (if x6 = (0 : Int32) then (gR σ l0 12 27).bind (fun x8 => (aI σ x8 14 x3).bind (fun x9 => (if x9 = (3 : Int32) then (gR σ l0 12 29).bind (fun x10 => (aI σ x10 14 x3).bind (fun x11 => (if x11 = (2 : Int32) then (gR σ l0 12 28).bind (fun x12 => (aI σ x12 14 x3).bind (fun x13 => (if xk σ l0 12 = true then (f_X12_rankOf σ l0 x13 (2 : Int32)).bind (fun p14 => (if p14 = l1 then f_X12_isNeither_j66 σ (1 : Int32) else f_X12_isNeither_j65 σ)) else none))) else f_X12_isNeither_j65 σ))) else f_X12_isNeither_j65 σ))) else f_X12_isNeither_j65 σ)))))))
set_option maxHeartbeats 4000000 in
set_option maxRecDepth 20000 in
theorem m_X12_isNeither {G : xG} {π : Nat → Nat} {d C Z : Nat} {Q : xQ} {σ : xM} {l0 : Nat} {l1 : Int32} {x : Int32} (hf : f_X12_isNeither σ l0 l1 = some x) (hR : ∀ g, x = g → Q (.inl (some (.int g))) (σ) π) : xMach G π J_X12_isNeither (d + 2) C Z 0 (lv_args 0 [.ref l0, .int l1]) [] σ Q := by
  unfold f_X12_isNeither at hf
  refine xm_stL (L' := [(0, .ref l0), (1, .int l1)]) rfl ?_
  refine xm_aload_n dX12_isNeither_0 rfl ?_
  refine xb_getR (a := l0) (c := 12) (k := 34) dX12_isNeither_1 xcl12 (by decide) xw_1871 rfl hf (fun x1 ex1 hf => ?_)
  refine xm_aload_n dX12_isNeither_4 rfl ?_
  refine xb_getI (a := l0) (c := 12) (k := 36) dX12_isNeither_5 xcl12 (by decide) xw_1873 rfl hf (fun x2 ex2 hf => ?_)
  refine xm_iconst dX12_isNeither_8 (v := 1) (by decide) ?_
  refine xm_isub dX12_isNeither_9 ?_
  refine xb_iald dX12_isNeither_10 hf (fun x3 ex3 hf => ?_)
  refine xm_istore_n dX12_isNeither_11 (by decide) (xm_stL (L' := [(2, .int x3), (0, .ref l0), (1, .int l1)]) rfl ?_)
  refine xm_aload_n dX12_isNeither_12 rfl ?_
  refine xb_getR (a := l0) (c := 12) (k := 35) dX12_isNeither_13 xcl12 (by decide) xw_1872 rfl hf (fun x4 ex4 hf => ?_)
  refine xm_aload_n dX12_isNeither_16 rfl ?_
  refine xb_getI (a := l0) (c := 12) (k := 36) dX12_isNeither_17 xcl12 (by decide) xw_1873 rfl hf (fun x5 ex5 hf => ?_)
  refine xm_iconst dX12_isNeither_20 (v := 1) (by decide) ?_
  refine xm_isub dX12_isNeither_21 ?_
  refine xb_zald dX12_isNeither_22 hf (fun x6 ex6 hf => ?_)
  refine xb_if_ne 65 dX12_isNeither_23 (by decide) hf (fun c hf => ?_) (fun c hf => ?_)
  · exact xm_sub [] rfl (L_X12_isNeither_j65 σ hf hR)
  · refine xm_aload_n dX12_isNeither_26 rfl ?_
    refine xb_getR (a := l0) (c := 12) (k := 27) dX12_isNeither_27 xcl12 (by decide) xw_1864 rfl hf (fun x8 ex8 hf => ?_)
    refine xm_iload_n dX12_isNeither_30 rfl ?_
    refine xb_iald dX12_isNeither_31 hf (fun x9 ex9 hf => ?_)
    refine xm_iconst dX12_isNeither_32 (v := 3) (by decide) ?_
    refine xb_icmp_ne 65 dX12_isNeither_33 (by decide) hf (fun c hf => ?_) (fun c hf => ?_)
    · exact xm_sub [] rfl (L_X12_isNeither_j65 σ hf hR)
    · refine xm_aload_n dX12_isNeither_36 rfl ?_
      refine xb_getR (a := l0) (c := 12) (k := 29) dX12_isNeither_37 xcl12 (by decide) xw_1866 rfl hf (fun x10 ex10 hf => ?_)
      refine xm_iload_n dX12_isNeither_40 rfl ?_
      refine xb_iald dX12_isNeither_41 hf (fun x11 ex11 hf => ?_)
      refine xm_iconst dX12_isNeither_42 (v := 2) (by decide) ?_
      refine xb_icmp_ne 65 dX12_isNeither_43 (by decide) hf (fun c hf => ?_) (fun c hf => ?_)
      · exact xm_sub [] rfl (L_X12_isNeither_j65 σ hf hR)
      · refine xm_aload_n dX12_isNeither_46 rfl ?_
        refine xm_aload_n dX12_isNeither_47 rfl ?_
        refine xb_getR (a := l0) (c := 12) (k := 28) dX12_isNeither_48 xcl12 (by decide) xw_1865 rfl hf (fun x12 ex12 hf => ?_)
        refine xm_iload_n dX12_isNeither_51 rfl ?_
        refine xb_iald dX12_isNeither_52 hf (fun x13 ex13 hf => ?_)
        refine xm_iconst dX12_isNeither_53 (v := 2) (by decide) ?_
        refine xb_if hf (fun hb hf => ?_) (fun _ q => nomatch q)
        obtain ⟨p14, ep14, hf⟩ := xbind hf
        refine xb_callV (As := [.int x13, .int (2 : Int32)]) (v0 := (some (.int p14))) (τ0 := σ) dX12_isNeither_54 (xc_X12_rankOf _ _) xcl12 xw_2170 xw_2172 xs_101 hb rfl (Nat.le_of_ble_eq_true rfl) rfl (Nat.le_of_ble_eq_true rfl) (fun Q1 hq => m_X12_rankOf (d := d + 0) ep14 (fun g hg => by subst hg; exact hq)) ?_
        refine xm_iload_n dX12_isNeither_57 rfl ?_
        refine xb_icmp_ne 65 dX12_isNeither_58 (by decide) hf (fun c hf => ?_) (fun c hf => ?_)
        · exact xm_sub [] rfl (L_X12_isNeither_j65 σ hf hR)
        · refine xm_iconst dX12_isNeither_61 (v := 1) (by decide) ?_
          refine xm_goto 66 dX12_isNeither_62 (by decide) ?_
          exact xm_sub [] rfl (L_X12_isNeither_j66 σ (1 : Int32) hf hR)
-- RankwiseModel.nextWord(I)I
def f_X12_nextWord_s4 (σ : xM) (s : (Nat × Int32)) : Option (Int32 ⊕ ((Int32) ⊕ (Nat × Int32))) :=
  xlet s.1 (fun l0 => xlet s.2 (fun l2 => (gI σ l0 12 25).bind (fun x2 => (if x2 ≤ l2 then some (Sum.inr (Sum.inl l2)) else (gR σ l0 12 24).bind (fun x3 => (aI σ x3 15 l2).bind (fun x4 => (if x4 = (0 : Int32) then some (Sum.inr (Sum.inl l2)) else xlet (l2 + (1 : Int32)) (fun v5 => some (Sum.inr (Sum.inr (l0, v5)))))))))))
set_option maxHeartbeats 4000000 in
set_option maxRecDepth 20000 in
theorem L_X12_nextWord_s4 {G : xG} {π : Nat → Nat} {d C Z : Nat} {Q : xQ} (σ : xM) (l0 : Nat) (l2 : Int32) {x : (Int32 ⊕ ((Int32) ⊕ (Nat × Int32)))} (hf : f_X12_nextWord_s4 σ (l0, l2) = some x) (hR : ∀ g, x = Sum.inl (g) → Q (.inl (some (.int g))) (σ) π) (hE : ∀ e : (Int32), x = Sum.inr (Sum.inl e) → xMach G π J_X12_nextWord (d + 0) C Z 27 [(2, .int e)] [] σ Q) (hC : ∀ e : (Nat × Int32), x = Sum.inr (Sum.inr e) → xMach G π J_X12_nextWord (d + 0) C Z 4 [(0, .ref e.1), (2, .int e.2)] [] σ Q) : xMach G π J_X12_nextWord (d + 0) C Z 4 [(0, .ref l0), (2, .int l2)] [] σ Q := by
  have hf : (gI σ l0 12 25).bind (fun x2 => (if x2 ≤ l2 then some (Sum.inr (Sum.inl l2)) else (gR σ l0 12 24).bind (fun x3 => (aI σ x3 15 l2).bind (fun x4 => (if x4 = (0 : Int32) then some (Sum.inr (Sum.inl l2)) else xlet (l2 + (1 : Int32)) (fun v5 => some (Sum.inr (Sum.inr (l0, v5))))))))) = some x := hf
  refine xm_iload_n dX12_nextWord_4 rfl ?_
  refine xm_aload_n dX12_nextWord_5 rfl ?_
  refine xb_getI (a := l0) (c := 12) (k := 25) dX12_nextWord_6 xcl12 (by decide) xw_1862 rfl hf (fun x2 ex2 hf => ?_)
  refine xb_icmp_ge 27 dX12_nextWord_9 (by decide) hf (fun c hf => ?_) (fun c hf => ?_)
  · cases hf
    exact xm_sub [1] rfl (hE _ rfl)
  · refine xm_aload_n dX12_nextWord_12 rfl ?_
    refine xb_getR (a := l0) (c := 12) (k := 24) dX12_nextWord_13 xcl12 (by decide) xw_1861 rfl hf (fun x3 ex3 hf => ?_)
    refine xm_iload_n dX12_nextWord_16 rfl ?_
    refine xb_zald dX12_nextWord_17 hf (fun x4 ex4 hf => ?_)
    refine xb_if_eq 27 dX12_nextWord_18 (by decide) hf (fun c hf => ?_) (fun c hf => ?_)
    · cases hf
      exact xm_sub [1] rfl (hE _ rfl)
    · refine xb_iinc dX12_nextWord_21 rfl (by decide) (by decide) hf (fun v5 ev5 hf => xm_stL (L' := [(2, .int v5), (0, .ref l0)]) rfl ?_)
      refine xm_goto 4 dX12_nextWord_24 (by decide) ?_
      cases hf
      exact xm_sub [1, 0] rfl (hC _ rfl)
theorem L_X12_nextWord_l4 {G : xG} {π : Nat → Nat} {d C Z : Nat} {Q : xQ} (σ : xM) {s0 : (Nat × Int32)} {x : (Int32 ⊕ (Int32))} (h1 : xloop (f_X12_nextWord_s4 σ) xF s0 = some x) (hR : ∀ g, x = Sum.inl g → Q (.inl (some (.int g))) (σ) π) (hE : ∀ e : (Int32), x = Sum.inr e → xMach G π J_X12_nextWord (d + 0) C Z 27 [(2, .int e)] [] σ Q) : xMach G π J_X12_nextWord (d + 0) C Z 4 [(0, .ref s0.1), (2, .int s0.2)] [] σ Q := by
  refine xloop_run (M := (fun s : (Nat × Int32) => xMach G π J_X12_nextWord (d + 0) C Z 4 [(0, .ref s.1), (2, .int s.2)] [] σ Q)) (r := x) ?_ xF _ h1
  intro s y hs hx
  exact L_X12_nextWord_s4 σ s.1 s.2 (x := y) hs (fun g hg => by subst hg; exact hR g hx) (fun e he => by subst he; exact hE e hx) (fun e he => by subst he; exact hx)
def f_X12_nextWord_j27 (σ : xM) (l2 : Int32) : Option Int32 :=
  some l2
set_option maxHeartbeats 4000000 in
set_option maxRecDepth 20000 in
theorem L_X12_nextWord_j27 {G : xG} {π : Nat → Nat} {d C Z : Nat} {Q : xQ} (σ : xM) (l2 : Int32) {x : Int32} (hf : f_X12_nextWord_j27 σ l2 = some x) (hR : ∀ g, x = g → Q (.inl (some (.int g))) (σ) π) : xMach G π J_X12_nextWord (d + 0) C Z 27 [(2, .int l2)] [] σ Q := by
  unfold f_X12_nextWord_j27 at hf
  refine xm_iload_n dX12_nextWord_27 rfl ?_
  cases hf
  exact xm_iret dX12_nextWord_28 rfl (hR _ rfl)
def f_X12_nextWord (σ : xM) (l0 : Nat) (l1 : Int32) : Option Int32 :=
  xlet (l1 + (1 : Int32)) (fun v1 => (xloop (f_X12_nextWord_s4 σ ) xF (l0, v1)).bind (Sum.elim (fun g => some g) (fun e => f_X12_nextWord_j27 σ e)))
set_option maxHeartbeats 4000000 in
set_option maxRecDepth 20000 in
theorem m_X12_nextWord {G : xG} {π : Nat → Nat} {d C Z : Nat} {Q : xQ} {σ : xM} {l0 : Nat} {l1 : Int32} {x : Int32} (hf : f_X12_nextWord σ l0 l1 = some x) (hR : ∀ g, x = g → Q (.inl (some (.int g))) (σ) π) : xMach G π J_X12_nextWord (d + 0) C Z 0 (lv_args 0 [.ref l0, .int l1]) [] σ Q := by
  unfold f_X12_nextWord at hf
  refine xm_stL (L' := [(0, .ref l0), (1, .int l1)]) rfl ?_
  refine xm_iload_n dX12_nextWord_0 rfl ?_
  refine xm_iconst dX12_nextWord_1 (v := 1) (by decide) ?_
  refine xm_iadd dX12_nextWord_2 ?_
  refine xb_topi hf (fun v1 ev1 hf => ?_)
  refine xm_istore_n dX12_nextWord_3 (by decide) (xm_stL (L' := [(2, .int v1), (0, .ref l0), (1, .int l1)]) rfl ?_)
  obtain ⟨o, h1, hf⟩ := xbind hf
  refine xm_sub [1, 0] rfl (L_X12_nextWord_l4 σ h1 (fun g hg => ?_) (fun e he => ?_))
  · subst hg
    cases hf
    exact hR _ rfl
  · subst he
    rw [Sum.elim_inr] at hf
    have hf : f_X12_nextWord_j27 σ e = some _ := hf
    exact xm_sub [0] rfl (L_X12_nextWord_j27 σ e hf hR)
-- RankwiseModel.operand(I)Z
def f_X12_operand_j103 (σ : xM)  : Option (Int32 × xM) :=
  some ((1 : Int32), σ)
set_option maxHeartbeats 4000000 in
set_option maxRecDepth 20000 in
theorem L_X12_operand_j103 {G : xG} {π : Nat → Nat} {d C Z : Nat} {Q : xQ} (σ : xM)  {x : (Int32 × xM)} (hf : f_X12_operand_j103 σ = some x) (hR : ∀ g, x = g → Q (.inl (some (.int g.1))) (g.2) π) : xMach G π J_X12_operand (d + 2) C Z 103 [] [] σ Q := by
  unfold f_X12_operand_j103 at hf
  refine xm_iconst dX12_operand_103 (v := 1) (by decide) ?_
  cases hf
  exact xm_zret dX12_operand_104 rfl rfl (hR _ rfl)
def f_X12_operand_j90 (σ : xM) (l0 : Nat) (l1 : Int32) : Option (Int32 × xM) :=
  (gR σ l0 12 21).bind (fun x8 => (aI σ x8 14 l1).bind (fun x9 => (if xk σ l0 12 = true then (f_X12_does σ l0 (1 : Int32) x9 (-1 : Int32) (0 : Int32)).bind (fun p10 => f_X12_operand_j103 p10) else none)))
set_option maxHeartbeats 4000000 in
set_option maxRecDepth 20000 in
theorem L_X12_operand_j90 {G : xG} {π : Nat → Nat} {d C Z : Nat} {Q : xQ} (σ : xM) (l0 : Nat) (l1 : Int32) {x : (Int32 × xM)} (hf : f_X12_operand_j90 σ l0 l1 = some x) (hR : ∀ g, x = g → Q (.inl (some (.int g.1))) (g.2) π) : xMach G π J_X12_operand (d + 2) C Z 90 [(0, .ref l0), (1, .int l1)] [] σ Q := by
  unfold f_X12_operand_j90 at hf
  refine xm_aload_n dX12_operand_90 rfl ?_
  refine xm_iconst dX12_operand_91 (v := 1) (by decide) ?_
  refine xm_aload_n dX12_operand_92 rfl ?_
  refine xb_getR (a := l0) (c := 12) (k := 21) dX12_operand_93 xcl12 (by decide) xw_1858 rfl hf (fun x8 ex8 hf => ?_)
  refine xm_iload_n dX12_operand_96 rfl ?_
  refine xb_iald dX12_operand_97 hf (fun x9 ex9 hf => ?_)
  refine xm_iconst dX12_operand_98 (v := -1) (by decide) ?_
  refine xm_iconst dX12_operand_99 (v := 0) (by decide) ?_
  refine xb_if hf (fun hb hf => ?_) (fun _ q => nomatch q)
  obtain ⟨p10, ep10, hf⟩ := xbind hf
  refine xb_callV (As := [.int (1 : Int32), .int x9, .int (-1 : Int32), .int (0 : Int32)]) (v0 := none) (τ0 := p10) dX12_operand_100 (xc_X12_does _ _) xcl12 xw_2162 xw_2164 xs_99 hb rfl (Nat.le_of_ble_eq_true rfl) rfl (Nat.le_of_ble_eq_true rfl) (fun Q1 hq => m_X12_does (d := d + 1) ep10 (fun g hg => by subst hg; exact hq)) ?_
  exact xm_sub [] rfl (L_X12_operand_j103 p10 hf hR)
def f_X12_operand_j153 (σ : xM) (s0 : Int32) : Option (Int32 × xM) :=
  (xz s0).bind (fun b19 => some (b19, σ))
set_option maxHeartbeats 4000000 in
set_option maxRecDepth 20000 in
theorem L_X12_operand_j153 {G : xG} {π : Nat → Nat} {d C Z : Nat} {Q : xQ} (σ : xM) (s0 : Int32) {x : (Int32 × xM)} (hf : f_X12_operand_j153 σ s0 = some x) (hR : ∀ g, x = g → Q (.inl (some (.int g.1))) (g.2) π) : xMach G π J_X12_operand (d + 2) C Z 153 [] [.int s0] σ Q := by
  unfold f_X12_operand_j153 at hf
  obtain ⟨b19, eb19, hf⟩ := xbind hf
  obtain ⟨rfl, hz⟩ := xz_of eb19
  cases hf
  exact xm_zret dX12_operand_153 rfl hz (hR _ rfl)
def f_X12_operand_j144 (σ : xM) (l3 : Int32) : Option (Int32 × xM) :=
  (if l3 ≤ (0 : Int32) then f_X12_operand_j153 σ (0 : Int32) else f_X12_operand_j153 σ (1 : Int32))
set_option maxHeartbeats 4000000 in
set_option maxRecDepth 20000 in
theorem L_X12_operand_j144 {G : xG} {π : Nat → Nat} {d C Z : Nat} {Q : xQ} (σ : xM) (l3 : Int32) {x : (Int32 × xM)} (hf : f_X12_operand_j144 σ l3 = some x) (hR : ∀ g, x = g → Q (.inl (some (.int g.1))) (g.2) π) : xMach G π J_X12_operand (d + 2) C Z 144 [(3, .int l3)] [] σ Q := by
  unfold f_X12_operand_j144 at hf
  refine xm_iload_n dX12_operand_144 rfl ?_
  refine xb_if_le 152 dX12_operand_145 (by decide) hf (fun c hf => ?_) (fun c hf => ?_)
  · refine xm_iconst dX12_operand_152 (v := 0) (by decide) ?_
    exact xm_sub [] rfl (L_X12_operand_j153 σ (0 : Int32) hf hR)
  · refine xm_iconst dX12_operand_148 (v := 1) (by decide) ?_
    refine xm_goto 153 dX12_operand_149 (by decide) ?_
    exact xm_sub [] rfl (L_X12_operand_j153 σ (1 : Int32) hf hR)
def f_X12_operand (σ : xM) (l0 : Nat) (l1 : Int32) : Option (Int32 × xM) :=
  (gR σ l0 12 20).bind (fun x1 => (aI σ x1 14 l1).bind (fun x2 => (if x2 = (0 : Int32) then (gR σ l0 12 21).bind (fun x3 => (aI σ x3 14 l1).bind (fun x4 => (if xk σ l0 12 = true then (f_X12_does σ l0 (0 : Int32) x4 (-1 : Int32) (0 : Int32)).bind (fun p5 => some ((1 : Int32), p5)) else none))) else (if x2 = (1 : Int32) then (if xk σ l0 12 = true then (f_X12_nextWord σ l0 l1).bind (fun p6 => (gI σ l0 12 25).bind (fun x7 => (if x7 ≤ p6 then f_X12_operand_j90 σ l0 l1 else (gR σ l0 12 20).bind (fun x11 => (aI σ x11 14 p6).bind (fun x12 => (if x12 = (3 : Int32) then (gR σ l0 12 21).bind (fun x13 => (aI σ x13 14 l1).bind (fun x14 => (if xk σ l0 12 = true then (f_X12_opens σ l0 (1 : Int32) x14 (1 : Int32)).bind (fun p15 => f_X12_operand_j103 p15) else none))) else f_X12_operand_j90 σ l0 l1)))))) else none) else (if x2 = (2 : Int32) then (gR σ l0 12 21).bind (fun x16 => (aI σ x16 14 l1).bind (fun x17 => (if xk σ l0 12 = true then (f_X12_rankOf σ l0 x17 (0 : Int32)).bind (fun p18 => (if p18 ≤ (0 : Int32) then f_X12_operand_j144 σ p18 else (gR σ l0 12 21).bind (fun x20 => (aI σ x20 14 l1).bind (fun x21 => (if xk σ l0 12 = true then (f_X12_opens σ l0 (2 : Int32) x21 (p18 + (1 : Int32))).bind (fun p22 => f_X12_operand_j144 p22 p18) else none))))) else none))) else (if x2 = (3 : Int32) then (if xk σ l0 12 = true then (f_X12_opens σ l0 (0 : Int32) (0 : Int32) (0 : Int32)).bind (fun p23 => some ((1 : Int32), p23)) else none) else some ((0 : Int32), σ)))))))
set_option maxHeartbeats 4000000 in
set_option maxRecDepth 20000 in
theorem m_X12_operand {G : xG} {π : Nat → Nat} {d C Z : Nat} {Q : xQ} {σ : xM} {l0 : Nat} {l1 : Int32} {x : (Int32 × xM)} (hf : f_X12_operand σ l0 l1 = some x) (hR : ∀ g, x = g → Q (.inl (some (.int g.1))) (g.2) π) : xMach G π J_X12_operand (d + 2) C Z 0 (lv_args 0 [.ref l0, .int l1]) [] σ Q := by
  unfold f_X12_operand at hf
  refine xm_stL (L' := [(0, .ref l0), (1, .int l1)]) rfl ?_
  refine xm_aload_n dX12_operand_0 rfl ?_
  refine xb_getR (a := l0) (c := 12) (k := 20) dX12_operand_1 xcl12 (by decide) xw_1857 rfl hf (fun x1 ex1 hf => ?_)
  refine xm_iload_n dX12_operand_4 rfl ?_
  refine xb_iald dX12_operand_5 hf (fun x2 ex2 hf => ?_)
  refine xb_if hf (fun c hf => ?_) (fun n0 hf => ?_)
  · refine xm_tableIn 36 dX12_operand_6 (by rw [c]; decide) (by rw [c]; decide) (by rw [c]; rfl) (by decide) ?_
    refine xm_aload_n dX12_operand_36 rfl ?_
    refine xm_iconst dX12_operand_37 (v := 0) (by decide) ?_
    refine xm_aload_n dX12_operand_38 rfl ?_
    refine xb_getR (a := l0) (c := 12) (k := 21) dX12_operand_39 xcl12 (by decide) xw_1858 rfl hf (fun x3 ex3 hf => ?_)
    refine xm_iload_n dX12_operand_42 rfl ?_
    refine xb_iald dX12_operand_43 hf (fun x4 ex4 hf => ?_)
    refine xm_iconst dX12_operand_44 (v := -1) (by decide) ?_
    refine xm_iconst dX12_operand_45 (v := 0) (by decide) ?_
    refine xb_if hf (fun hb hf => ?_) (fun _ q => nomatch q)
    obtain ⟨p5, ep5, hf⟩ := xbind hf
    refine xb_callV (As := [.int (0 : Int32), .int x4, .int (-1 : Int32), .int (0 : Int32)]) (v0 := none) (τ0 := p5) dX12_operand_46 (xc_X12_does _ _) xcl12 xw_2162 xw_2164 xs_99 hb rfl (Nat.le_of_ble_eq_true rfl) rfl (Nat.le_of_ble_eq_true rfl) (fun Q1 hq => m_X12_does (d := d + 1) ep5 (fun g hg => by subst hg; exact hq)) ?_
    refine xm_iconst dX12_operand_49 (v := 1) (by decide) ?_
    cases hf
    exact xm_zret dX12_operand_50 rfl rfl (hR _ rfl)
  refine xb_if hf (fun c hf => ?_) (fun n1 hf => ?_)
  · refine xm_tableIn 51 dX12_operand_6 (by rw [c]; decide) (by rw [c]; decide) (by rw [c]; rfl) (by decide) ?_
    refine xm_aload_n dX12_operand_51 rfl ?_
    refine xm_iload_n dX12_operand_52 rfl ?_
    refine xb_if hf (fun hb hf => ?_) (fun _ q => nomatch q)
    obtain ⟨p6, ep6, hf⟩ := xbind hf
    refine xb_callV (As := [.int l1]) (v0 := (some (.int p6))) (τ0 := σ) dX12_operand_53 (xc_X12_nextWord _ _) xcl12 xw_2154 xw_2156 xs_97 hb rfl (Nat.le_of_ble_eq_true rfl) rfl (Nat.le_of_ble_eq_true rfl) (fun Q1 hq => m_X12_nextWord (d := d + 1) ep6 (fun g hg => by subst hg; exact hq)) ?_
    refine xm_istore_n dX12_operand_56 (by decide) (xm_stL (L' := [(2, .int p6), (0, .ref l0), (1, .int l1)]) rfl ?_)
    refine xm_iload_n dX12_operand_57 rfl ?_
    refine xm_aload_n dX12_operand_58 rfl ?_
    refine xb_getI (a := l0) (c := 12) (k := 25) dX12_operand_59 xcl12 (by decide) xw_1862 rfl hf (fun x7 ex7 hf => ?_)
    refine xb_icmp_ge 90 dX12_operand_62 (by decide) hf (fun c hf => ?_) (fun c hf => ?_)
    · exact xm_sub [1, 2] rfl (L_X12_operand_j90 σ l0 l1 hf hR)
    · refine xm_aload_n dX12_operand_65 rfl ?_
      refine xb_getR (a := l0) (c := 12) (k := 20) dX12_operand_66 xcl12 (by decide) xw_1857 rfl hf (fun x11 ex11 hf => ?_)
      refine xm_iload_n dX12_operand_69 rfl ?_
      refine xb_iald dX12_operand_70 hf (fun x12 ex12 hf => ?_)
      refine xm_iconst dX12_operand_71 (v := 3) (by decide) ?_
      refine xb_icmp_ne 90 dX12_operand_72 (by decide) hf (fun c hf => ?_) (fun c hf => ?_)
      · exact xm_sub [1, 2] rfl (L_X12_operand_j90 σ l0 l1 hf hR)
      · refine xm_aload_n dX12_operand_75 rfl ?_
        refine xm_iconst dX12_operand_76 (v := 1) (by decide) ?_
        refine xm_aload_n dX12_operand_77 rfl ?_
        refine xb_getR (a := l0) (c := 12) (k := 21) dX12_operand_78 xcl12 (by decide) xw_1858 rfl hf (fun x13 ex13 hf => ?_)
        refine xm_iload_n dX12_operand_81 rfl ?_
        refine xb_iald dX12_operand_82 hf (fun x14 ex14 hf => ?_)
        refine xm_iconst dX12_operand_83 (v := 1) (by decide) ?_
        refine xb_if hf (fun hb hf => ?_) (fun _ q => nomatch q)
        obtain ⟨p15, ep15, hf⟩ := xbind hf
        refine xb_callV (As := [.int (1 : Int32), .int x14, .int (1 : Int32)]) (v0 := none) (τ0 := p15) dX12_operand_84 (xc_X12_opens _ _) xcl12 xw_2166 xw_2168 xs_100 hb rfl (Nat.le_of_ble_eq_true rfl) rfl (Nat.le_of_ble_eq_true rfl) (fun Q1 hq => m_X12_opens (d := d + 1) ep15 (fun g hg => by subst hg; exact hq)) ?_
        refine xm_goto 103 dX12_operand_87 (by decide) ?_
        exact xm_sub [] rfl (L_X12_operand_j103 p15 hf hR)
  refine xb_if hf (fun c hf => ?_) (fun n2 hf => ?_)
  · refine xm_tableIn 114 dX12_operand_6 (by rw [c]; decide) (by rw [c]; decide) (by rw [c]; rfl) (by decide) ?_
    refine xm_aload_n dX12_operand_114 rfl ?_
    refine xm_aload_n dX12_operand_115 rfl ?_
    refine xb_getR (a := l0) (c := 12) (k := 21) dX12_operand_116 xcl12 (by decide) xw_1858 rfl hf (fun x16 ex16 hf => ?_)
    refine xm_iload_n dX12_operand_119 rfl ?_
    refine xb_iald dX12_operand_120 hf (fun x17 ex17 hf => ?_)
    refine xm_iconst dX12_operand_121 (v := 0) (by decide) ?_
    refine xb_if hf (fun hb hf => ?_) (fun _ q => nomatch q)
    obtain ⟨p18, ep18, hf⟩ := xbind hf
    refine xb_callV (As := [.int x17, .int (0 : Int32)]) (v0 := (some (.int p18))) (τ0 := σ) dX12_operand_122 (xc_X12_rankOf _ _) xcl12 xw_2170 xw_2172 xs_101 hb rfl (Nat.le_of_ble_eq_true rfl) rfl (Nat.le_of_ble_eq_true rfl) (fun Q1 hq => m_X12_rankOf (d := d + 0) ep18 (fun g hg => by subst hg; exact hq)) ?_
    refine xm_istore_n dX12_operand_125 (by decide) (xm_stL (L' := [(3, .int p18), (0, .ref l0), (1, .int l1)]) rfl ?_)
    refine xm_iload_n dX12_operand_126 rfl ?_
    refine xb_if_le 144 dX12_operand_127 (by decide) hf (fun c hf => ?_) (fun c hf => ?_)
    · exact xm_sub [0] rfl (L_X12_operand_j144 σ p18 hf hR)
    · refine xm_aload_n dX12_operand_130 rfl ?_
      refine xm_iconst dX12_operand_131 (v := 2) (by decide) ?_
      refine xm_aload_n dX12_operand_132 rfl ?_
      refine xb_getR (a := l0) (c := 12) (k := 21) dX12_operand_133 xcl12 (by decide) xw_1858 rfl hf (fun x20 ex20 hf => ?_)
      refine xm_iload_n dX12_operand_136 rfl ?_
      refine xb_iald dX12_operand_137 hf (fun x21 ex21 hf => ?_)
      refine xm_iload_n dX12_operand_138 rfl ?_
      refine xm_iconst dX12_operand_139 (v := 1) (by decide) ?_
      refine xm_iadd dX12_operand_140 ?_
      refine xb_if hf (fun hb hf => ?_) (fun _ q => nomatch q)
      obtain ⟨p22, ep22, hf⟩ := xbind hf
      refine xb_callV (As := [.int (2 : Int32), .int x21, .int (p18 + (1 : Int32))]) (v0 := none) (τ0 := p22) dX12_operand_141 (xc_X12_opens _ _) xcl12 xw_2166 xw_2168 xs_100 hb rfl (Nat.le_of_ble_eq_true rfl) rfl (Nat.le_of_ble_eq_true rfl) (fun Q1 hq => m_X12_opens (d := d + 1) ep22 (fun g hg => by subst hg; exact hq)) ?_
      exact xm_sub [0] rfl (L_X12_operand_j144 p22 p18 hf hR)
  refine xb_if hf (fun c hf => ?_) (fun n3 hf => ?_)
  · refine xm_tableIn 105 dX12_operand_6 (by rw [c]; decide) (by rw [c]; decide) (by rw [c]; rfl) (by decide) ?_
    refine xm_aload_n dX12_operand_105 rfl ?_
    refine xm_iconst dX12_operand_106 (v := 0) (by decide) ?_
    refine xm_iconst dX12_operand_107 (v := 0) (by decide) ?_
    refine xm_iconst dX12_operand_108 (v := 0) (by decide) ?_
    refine xb_if hf (fun hb hf => ?_) (fun _ q => nomatch q)
    obtain ⟨p23, ep23, hf⟩ := xbind hf
    refine xb_callV (As := [.int (0 : Int32), .int (0 : Int32), .int (0 : Int32)]) (v0 := none) (τ0 := p23) dX12_operand_109 (xc_X12_opens _ _) xcl12 xw_2166 xw_2168 xs_100 hb rfl (Nat.le_of_ble_eq_true rfl) rfl (Nat.le_of_ble_eq_true rfl) (fun Q1 hq => m_X12_opens (d := d + 1) ep23 (fun g hg => by subst hg; exact hq)) ?_
    refine xm_iconst dX12_operand_112 (v := 1) (by decide) ?_
    cases hf
    exact xm_zret dX12_operand_113 rfl rfl (hR _ rfl)
  refine xm_tableOut 154 dX12_operand_6 (by have q0 := lv_neT (a := 0) n0 (by decide); have q1 := lv_neT (a := 1) n1 (by decide); have q2 := lv_neT (a := 2) n2 (by decide); have q3 := lv_neT (a := 3) n3 (by decide); omega) (by decide) ?_
  refine xm_iconst dX12_operand_154 (v := 0) (by decide) ?_
  cases hf
  exact xm_zret dX12_operand_155 rfl rfl (hR _ rfl)
-- RankwiseModel.sign(II)Z
def f_X12_sign__j117 (σ : xM) (s0 : Int32) : Option (Int32 × xM) :=
  (xz s0).bind (fun b3 => some (b3, σ))
set_option maxHeartbeats 4000000 in
set_option maxRecDepth 20000 in
theorem L_X12_sign__j117 {G : xG} {π : Nat → Nat} {d C Z : Nat} {Q : xQ} (σ : xM) (s0 : Int32) {x : (Int32 × xM)} (hf : f_X12_sign__j117 σ s0 = some x) (hR : ∀ g, x = g → Q (.inl (some (.int g.1))) (g.2) π) : xMach G π J_X12_sign_ (d + 3) C Z 117 [] [.int s0] σ Q := by
  unfold f_X12_sign__j117 at hf
  obtain ⟨b3, eb3, hf⟩ := xbind hf
  obtain ⟨rfl, hz⟩ := xz_of eb3
  cases hf
  exact xm_zret dX12_sign__117 rfl hz (hR _ rfl)
def f_X12_sign__j112 (σ : xM)  : Option (Int32 × xM) :=
  f_X12_sign__j117 σ (1 : Int32)
set_option maxHeartbeats 4000000 in
set_option maxRecDepth 20000 in
theorem L_X12_sign__j112 {G : xG} {π : Nat → Nat} {d C Z : Nat} {Q : xQ} (σ : xM)  {x : (Int32 × xM)} (hf : f_X12_sign__j112 σ = some x) (hR : ∀ g, x = g → Q (.inl (some (.int g.1))) (g.2) π) : xMach G π J_X12_sign_ (d + 3) C Z 112 [] [] σ Q := by
  unfold f_X12_sign__j112 at hf
  refine xm_iconst dX12_sign__112 (v := 1) (by decide) ?_
  refine xm_goto 117 dX12_sign__113 (by decide) ?_
  exact xm_sub [] rfl (L_X12_sign__j117 σ (1 : Int32) hf hR)
def f_X12_sign__j103 (σ : xM) (l3 : Int32) (l4 : Int32) : Option (Int32 × xM) :=
  (if (0 : Int32) < l3 then f_X12_sign__j112 σ else (if l4 ≤ (0 : Int32) then f_X12_sign__j117 σ (0 : Int32) else f_X12_sign__j112 σ))
set_option maxHeartbeats 4000000 in
set_option maxRecDepth 20000 in
theorem L_X12_sign__j103 {G : xG} {π : Nat → Nat} {d C Z : Nat} {Q : xQ} (σ : xM) (l3 : Int32) (l4 : Int32) {x : (Int32 × xM)} (hf : f_X12_sign__j103 σ l3 l4 = some x) (hR : ∀ g, x = g → Q (.inl (some (.int g.1))) (g.2) π) : xMach G π J_X12_sign_ (d + 3) C Z 103 [(3, .int l3), (4, .int l4)] [] σ Q := by
  unfold f_X12_sign__j103 at hf
  refine xm_iload_n dX12_sign__103 rfl ?_
  refine xb_if_gt 112 dX12_sign__104 (by decide) hf (fun c hf => ?_) (fun c hf => ?_)
  · exact xm_sub [] rfl (L_X12_sign__j112 σ hf hR)
  · refine xm_iload dX12_sign__107 rfl ?_
    refine xb_if_le 116 dX12_sign__109 (by decide) hf (fun c hf => ?_) (fun c hf => ?_)
    · refine xm_iconst dX12_sign__116 (v := 0) (by decide) ?_
      exact xm_sub [] rfl (L_X12_sign__j117 σ (0 : Int32) hf hR)
    · exact xm_sub [] rfl (L_X12_sign__j112 σ hf hR)
def f_X12_sign__j78 (σ : xM) (l3 : Int32) (l4 : Int32) (s0 : Int32) (s1 : Int32) (s2 : Int32) (s3 : Nat) : Option (Int32 × xM) :=
  (if xk σ s3 12 = true then (f_X12_opens σ s3 s2 s1 s0).bind (fun p13 => f_X12_sign__j103 p13 l3 l4) else none)
set_option maxHeartbeats 4000000 in
set_option maxRecDepth 20000 in
theorem L_X12_sign__j78 {G : xG} {π : Nat → Nat} {d C Z : Nat} {Q : xQ} (σ : xM) (l3 : Int32) (l4 : Int32) (s0 : Int32) (s1 : Int32) (s2 : Int32) (s3 : Nat) {x : (Int32 × xM)} (hf : f_X12_sign__j78 σ l3 l4 s0 s1 s2 s3 = some x) (hR : ∀ g, x = g → Q (.inl (some (.int g.1))) (g.2) π) : xMach G π J_X12_sign_ (d + 3) C Z 78 [(3, .int l3), (4, .int l4)] [.int s0, .int s1, .int s2, .ref s3] σ Q := by
  unfold f_X12_sign__j78 at hf
  refine xb_if hf (fun hb hf => ?_) (fun _ q => nomatch q)
  obtain ⟨p13, ep13, hf⟩ := xbind hf
  refine xb_callV (As := [.int s2, .int s1, .int s0]) (v0 := none) (τ0 := p13) dX12_sign__78 (xc_X12_opens _ _) xcl12 xw_2166 xw_2168 xs_100 hb rfl (Nat.le_of_ble_eq_true rfl) rfl (Nat.le_of_ble_eq_true rfl) (fun Q1 hq => m_X12_opens (d := d + 2) ep13 (fun g hg => by subst hg; exact hq)) ?_
  refine xm_goto 103 dX12_sign__81 (by decide) ?_
  exact xm_sub [0, 1] rfl (L_X12_sign__j103 p13 l3 l4 hf hR)
def f_X12_sign__j51 (σ : xM) (l0 : Nat) (l2 : Int32) (l3 : Int32) (l4 : Int32) : Option (Int32 × xM) :=
  (gR σ l0 12 16).bind (fun x10 => (f_X12_signOf σ l2).bind (fun p11 => (aI σ x10 14 (((3 : Int32) * p11) + (2 : Int32))).bind (fun x12 => (if x12 = (1 : Int32) then f_X12_sign__j78 σ l3 l4 l3 l2 (3 : Int32) l0 else f_X12_sign__j78 σ l3 l4 (l3 + (1 : Int32)) l2 (3 : Int32) l0))))
set_option maxHeartbeats 4000000 in
set_option maxRecDepth 20000 in
theorem L_X12_sign__j51 {G : xG} {π : Nat → Nat} {d C Z : Nat} {Q : xQ} (σ : xM) (l0 : Nat) (l2 : Int32) (l3 : Int32) (l4 : Int32) {x : (Int32 × xM)} (hf : f_X12_sign__j51 σ l0 l2 l3 l4 = some x) (hR : ∀ g, x = g → Q (.inl (some (.int g.1))) (g.2) π) : xMach G π J_X12_sign_ (d + 3) C Z 51 [(0, .ref l0), (2, .int l2), (3, .int l3), (4, .int l4)] [] σ Q := by
  unfold f_X12_sign__j51 at hf
  refine xm_aload_n dX12_sign__51 rfl ?_
  refine xm_iconst dX12_sign__52 (v := 3) (by decide) ?_
  refine xm_iload_n dX12_sign__53 rfl ?_
  refine xm_aload_n dX12_sign__54 rfl ?_
  refine xb_getR (a := l0) (c := 12) (k := 16) dX12_sign__55 xcl12 (by decide) xw_1853 rfl hf (fun x10 ex10 hf => ?_)
  refine xm_iconst dX12_sign__58 (v := 3) (by decide) ?_
  refine xm_iload_n dX12_sign__59 rfl ?_
  obtain ⟨p11, ep11, hf⟩ := xbind hf
  refine xb_callS (As := [.int l2]) (v0 := (some (.int p11))) (τ0 := σ) dX12_sign__60 (xc_X12_signOf _ _) xw_1817 xw_1818 rfl (Nat.le_of_ble_eq_true rfl) rfl (Nat.le_of_ble_eq_true rfl) (fun Q1 hq => m_X12_signOf (d := d + 2) ep11 (fun g hg => by subst hg; exact hq)) ?_
  refine xm_imul dX12_sign__63 ?_
  refine xm_iconst dX12_sign__64 (v := 2) (by decide) ?_
  refine xm_iadd dX12_sign__65 ?_
  refine xb_iald dX12_sign__66 hf (fun x12 ex12 hf => ?_)
  refine xm_iconst dX12_sign__67 (v := 1) (by decide) ?_
  refine xb_icmp_ne 75 dX12_sign__68 (by decide) hf (fun c hf => ?_) (fun c hf => ?_)
  · refine xm_iload_n dX12_sign__75 rfl ?_
    refine xm_iconst dX12_sign__76 (v := 1) (by decide) ?_
    refine xm_iadd dX12_sign__77 ?_
    exact xm_sub [2, 3] rfl (L_X12_sign__j78 σ l3 l4 (l3 + (1 : Int32)) l2 (3 : Int32) l0 hf hR)
  · refine xm_iload_n dX12_sign__71 rfl ?_
    refine xm_goto 78 dX12_sign__72 (by decide) ?_
    exact xm_sub [2, 3] rfl (L_X12_sign__j78 σ l3 l4 l3 l2 (3 : Int32) l0 hf hR)
def f_X12_sign_ (σ : xM) (l0 : Nat) (l1 : Int32) (l2 : Int32) : Option (Int32 × xM) :=
  (if xk σ l0 12 = true then (f_X12_rankOf σ l0 l2 (2 : Int32)).bind (fun p1 => (if xk σ l0 12 = true then (f_X12_rankOf σ l0 l2 (1 : Int32)).bind (fun p2 => (if p1 ≤ (0 : Int32) then (if p2 ≤ (0 : Int32) then f_X12_sign__j103 σ p1 p2 else (if xk σ l0 12 = true then (f_X12_reduce σ l0 p2).bind (fun p4 => (if xk p4 l0 12 = true then (f_X12_does p4 l0 (3 : Int32) l2 (1 : Int32) (1 : Int32)).bind (fun p5 => f_X12_sign__j103 p5 p1 p2) else none)) else none)) else (if xk σ l0 12 = true then (f_X12_reduce σ l0 p1).bind (fun p6 => (gR p6 l0 12 16).bind (fun x7 => (f_X12_signOf p6 l2).bind (fun p8 => (aI p6 x7 14 (((3 : Int32) * p8) + (2 : Int32))).bind (fun x9 => (if x9 = (2 : Int32) then (if xk p6 l0 12 = true then (f_X12_isNeither p6 l0 p1).bind (fun p14 => (if p14 = (0 : Int32) then f_X12_sign__j51 p6 l0 l2 p1 p2 else some ((0 : Int32), p6))) else none) else f_X12_sign__j51 p6 l0 l2 p1 p2))))) else none))) else none)) else none)
set_option maxHeartbeats 4000000 in
set_option maxRecDepth 20000 in
theorem m_X12_sign_ {G : xG} {π : Nat → Nat} {d C Z : Nat} {Q : xQ} {σ : xM} {l0 : Nat} {l1 : Int32} {l2 : Int32} {x : (Int32 × xM)} (hf : f_X12_sign_ σ l0 l1 l2 = some x) (hR : ∀ g, x = g → Q (.inl (some (.int g.1))) (g.2) π) : xMach G π J_X12_sign_ (d + 3) C Z 0 (lv_args 0 [.ref l0, .int l1, .int l2]) [] σ Q := by
  unfold f_X12_sign_ at hf
  refine xm_stL (L' := [(0, .ref l0), (1, .int l1), (2, .int l2)]) rfl ?_
  refine xm_aload_n dX12_sign__0 rfl ?_
  refine xm_iload_n dX12_sign__1 rfl ?_
  refine xm_iconst dX12_sign__2 (v := 2) (by decide) ?_
  refine xb_if hf (fun hb hf => ?_) (fun _ q => nomatch q)
  obtain ⟨p1, ep1, hf⟩ := xbind hf
  refine xb_callV (As := [.int l2, .int (2 : Int32)]) (v0 := (some (.int p1))) (τ0 := σ) dX12_sign__3 (xc_X12_rankOf _ _) xcl12 xw_2170 xw_2172 xs_101 hb rfl (Nat.le_of_ble_eq_true rfl) rfl (Nat.le_of_ble_eq_true rfl) (fun Q1 hq => m_X12_rankOf (d := d + 1) ep1 (fun g hg => by subst hg; exact hq)) ?_
  refine xm_istore_n dX12_sign__6 (by decide) (xm_stL (L' := [(3, .int p1), (0, .ref l0), (1, .int l1), (2, .int l2)]) rfl ?_)
  refine xm_aload_n dX12_sign__7 rfl ?_
  refine xm_iload_n dX12_sign__8 rfl ?_
  refine xm_iconst dX12_sign__9 (v := 1) (by decide) ?_
  refine xb_if hf (fun hb hf => ?_) (fun _ q => nomatch q)
  obtain ⟨p2, ep2, hf⟩ := xbind hf
  refine xb_callV (As := [.int l2, .int (1 : Int32)]) (v0 := (some (.int p2))) (τ0 := σ) dX12_sign__10 (xc_X12_rankOf _ _) xcl12 xw_2170 xw_2172 xs_101 hb rfl (Nat.le_of_ble_eq_true rfl) rfl (Nat.le_of_ble_eq_true rfl) (fun Q1 hq => m_X12_rankOf (d := d + 1) ep2 (fun g hg => by subst hg; exact hq)) ?_
  refine xm_istore dX12_sign__13 (by decide) (xm_stL (L' := [(4, .int p2), (3, .int p1), (0, .ref l0), (1, .int l1), (2, .int l2)]) rfl ?_)
  refine xm_iload_n dX12_sign__15 rfl ?_
  refine xb_if_le 84 dX12_sign__16 (by decide) hf (fun c hf => ?_) (fun c hf => ?_)
  · refine xm_iload dX12_sign__84 rfl ?_
    refine xb_if_le 103 dX12_sign__86 (by decide) hf (fun c hf => ?_) (fun c hf => ?_)
    · exact xm_sub [1, 0] rfl (L_X12_sign__j103 σ p1 p2 hf hR)
    · refine xm_aload_n dX12_sign__89 rfl ?_
      refine xm_iload dX12_sign__90 rfl ?_
      refine xb_if hf (fun hb hf => ?_) (fun _ q => nomatch q)
      obtain ⟨p4, ep4, hf⟩ := xbind hf
      refine xb_callV (As := [.int p2]) (v0 := none) (τ0 := p4) dX12_sign__92 (xc_X12_reduce _ _) xcl12 xw_2186 xw_2188 xs_105 hb rfl (Nat.le_of_ble_eq_true rfl) rfl (Nat.le_of_ble_eq_true rfl) (fun Q1 hq => m_X12_reduce (d := d + 1) ep4 (fun g hg => by subst hg; exact hq)) ?_
      refine xm_aload_n dX12_sign__95 rfl ?_
      refine xm_iconst dX12_sign__96 (v := 3) (by decide) ?_
      refine xm_iload_n dX12_sign__97 rfl ?_
      refine xm_iconst dX12_sign__98 (v := 1) (by decide) ?_
      refine xm_iconst dX12_sign__99 (v := 1) (by decide) ?_
      refine xb_if hf (fun hb hf => ?_) (fun _ q => nomatch q)
      obtain ⟨p5, ep5, hf⟩ := xbind hf
      refine xb_callV (As := [.int (3 : Int32), .int l2, .int (1 : Int32), .int (1 : Int32)]) (v0 := none) (τ0 := p5) dX12_sign__100 (xc_X12_does _ _) xcl12 xw_2162 xw_2164 xs_99 hb rfl (Nat.le_of_ble_eq_true rfl) rfl (Nat.le_of_ble_eq_true rfl) (fun Q1 hq => m_X12_does (d := d + 2) ep5 (fun g hg => by subst hg; exact hq)) ?_
      exact xm_sub [1, 0] rfl (L_X12_sign__j103 p5 p1 p2 hf hR)
  · refine xm_aload_n dX12_sign__19 rfl ?_
    refine xm_iload_n dX12_sign__20 rfl ?_
    refine xb_if hf (fun hb hf => ?_) (fun _ q => nomatch q)
    obtain ⟨p6, ep6, hf⟩ := xbind hf
    refine xb_callV (As := [.int p1]) (v0 := none) (τ0 := p6) dX12_sign__21 (xc_X12_reduce _ _) xcl12 xw_2186 xw_2188 xs_105 hb rfl (Nat.le_of_ble_eq_true rfl) rfl (Nat.le_of_ble_eq_true rfl) (fun Q1 hq => m_X12_reduce (d := d + 1) ep6 (fun g hg => by subst hg; exact hq)) ?_
    refine xm_aload_n dX12_sign__24 rfl ?_
    refine xb_getR (a := l0) (c := 12) (k := 16) dX12_sign__25 xcl12 (by decide) xw_1853 rfl hf (fun x7 ex7 hf => ?_)
    refine xm_iconst dX12_sign__28 (v := 3) (by decide) ?_
    refine xm_iload_n dX12_sign__29 rfl ?_
    obtain ⟨p8, ep8, hf⟩ := xbind hf
    refine xb_callS (As := [.int l2]) (v0 := (some (.int p8))) (τ0 := p6) dX12_sign__30 (xc_X12_signOf _ _) xw_1817 xw_1818 rfl (Nat.le_of_ble_eq_true rfl) rfl (Nat.le_of_ble_eq_true rfl) (fun Q1 hq => m_X12_signOf (d := d + 2) ep8 (fun g hg => by subst hg; exact hq)) ?_
    refine xm_imul dX12_sign__33 ?_
    refine xm_iconst dX12_sign__34 (v := 2) (by decide) ?_
    refine xm_iadd dX12_sign__35 ?_
    refine xb_iald dX12_sign__36 hf (fun x9 ex9 hf => ?_)
    refine xm_iconst dX12_sign__37 (v := 2) (by decide) ?_
    refine xb_icmp_ne 51 dX12_sign__38 (by decide) hf (fun c hf => ?_) (fun c hf => ?_)
    · exact xm_sub [2, 4, 1, 0] rfl (L_X12_sign__j51 p6 l0 l2 p1 p2 hf hR)
    · refine xm_aload_n dX12_sign__41 rfl ?_
      refine xm_iload_n dX12_sign__42 rfl ?_
      refine xb_if hf (fun hb hf => ?_) (fun _ q => nomatch q)
      obtain ⟨p14, ep14, hf⟩ := xbind hf
      refine xb_callV (As := [.int p1]) (v0 := (some (.int p14))) (τ0 := p6) dX12_sign__43 (xc_X12_isNeither _ _) xcl12 xw_2190 xw_2192 xs_106 hb rfl (Nat.le_of_ble_eq_true rfl) rfl (Nat.le_of_ble_eq_true rfl) (fun Q1 hq => m_X12_isNeither (d := d + 0) ep14 (fun g hg => by subst hg; exact hq)) ?_
      refine xb_if_eq 51 dX12_sign__46 (by decide) hf (fun c hf => ?_) (fun c hf => ?_)
      · exact xm_sub [2, 4, 1, 0] rfl (L_X12_sign__j51 p6 l0 l2 p1 p2 hf hR)
      · refine xm_iconst dX12_sign__49 (v := 0) (by decide) ?_
        cases hf
        exact xm_zret dX12_sign__50 rfl rfl (hR _ rfl)
-- RankwiseModel.operator(I)Z
def f_X12_operator_j181 (σ : xM)  : Option (Int32 × xM) :=
  some ((1 : Int32), σ)
set_option maxHeartbeats 4000000 in
set_option maxRecDepth 20000 in
theorem L_X12_operator_j181 {G : xG} {π : Nat → Nat} {d C Z : Nat} {Q : xQ} (σ : xM)  {x : (Int32 × xM)} (hf : f_X12_operator_j181 σ = some x) (hR : ∀ g, x = g → Q (.inl (some (.int g.1))) (g.2) π) : xMach G π J_X12_operator (d + 4) C Z 181 [] [] σ Q := by
  unfold f_X12_operator_j181 at hf
  refine xm_iconst dX12_operator_181 (v := 1) (by decide) ?_
  cases hf
  exact xm_zret dX12_operator_182 rfl rfl (hR _ rfl)
def f_X12_operator_j118 (σ : xM) (s0 : Int32) : Option (Int32 × xM) :=
  (xz s0).bind (fun b32 => some (b32, σ))
set_option maxHeartbeats 4000000 in
set_option maxRecDepth 20000 in
theorem L_X12_operator_j118 {G : xG} {π : Nat → Nat} {d C Z : Nat} {Q : xQ} (σ : xM) (s0 : Int32) {x : (Int32 × xM)} (hf : f_X12_operator_j118 σ s0 = some x) (hR : ∀ g, x = g → Q (.inl (some (.int g.1))) (g.2) π) : xMach G π J_X12_operator (d + 4) C Z 118 [] [.int s0] σ Q := by
  unfold f_X12_operator_j118 at hf
  obtain ⟨b32, eb32, hf⟩ := xbind hf
  obtain ⟨rfl, hz⟩ := xz_of eb32
  cases hf
  exact xm_zret dX12_operator_118 rfl hz (hR _ rfl)
def f_X12_operator_j117 (σ : xM)  : Option (Int32 × xM) :=
  f_X12_operator_j118 σ (0 : Int32)
set_option maxHeartbeats 4000000 in
set_option maxRecDepth 20000 in
theorem L_X12_operator_j117 {G : xG} {π : Nat → Nat} {d C Z : Nat} {Q : xQ} (σ : xM)  {x : (Int32 × xM)} (hf : f_X12_operator_j117 σ = some x) (hR : ∀ g, x = g → Q (.inl (some (.int g.1))) (g.2) π) : xMach G π J_X12_operator (d + 4) C Z 117 [] [] σ Q := by
  unfold f_X12_operator_j117 at hf
  refine xm_iconst dX12_operator_117 (v := 0) (by decide) ?_
  exact xm_sub [] rfl (L_X12_operator_j118 σ (0 : Int32) hf hR)
def f_X12_operator_j44 (σ : xM) (l0 : Nat) (l1 : Int32) : Option (Int32 × xM) :=
  (if xk σ l0 12 = true then (f_X12_reduce σ l0 (0 : Int32)).bind (fun p5 => (gI p5 l0 12 40).bind (fun x6 => (if x6 = (0 : Int32) then some ((0 : Int32), p5) else (gR p5 l0 12 20).bind (fun x7 => (aI p5 x7 14 l1).bind (fun x8 => (if x8 = (5 : Int32) then (gR p5 l0 12 39).bind (fun x24 => (gI p5 l0 12 40).bind (fun x25 => xlet (x25 - (1 : Int32)) (fun v26 => (aI p5 x24 14 v26).bind (fun x27 => (wI p5 x24 v26 (x27 + (1 : Int32))).bind (fun σ28 => (gR σ28 l0 12 37).bind (fun x29 => (gI σ28 l0 12 40).bind (fun x30 => (aI σ28 x29 14 (x30 - (1 : Int32))).bind (fun x31 => (if x31 = (1 : Int32) then (gR σ28 l0 12 39).bind (fun x33 => (gI σ28 l0 12 40).bind (fun x34 => (aI σ28 x33 14 (x34 - (1 : Int32))).bind (fun x35 => (if (4 : Int32) < x35 then f_X12_operator_j117 σ28 else f_X12_operator_j118 σ28 (1 : Int32))))) else f_X12_operator_j117 σ28))))))))) else (gI p5 l0 12 40).bind (fun x9 => (sI p5 l0 12 40 (x9 - (1 : Int32))).bind (fun σ10 => (gR σ10 l0 12 37).bind (fun x11 => (gI σ10 l0 12 40).bind (fun x12 => (aI σ10 x11 14 x12).bind (fun x13 => (if x13 = (1 : Int32) then (gR σ10 l0 12 38).bind (fun x17 => (gI σ10 l0 12 40).bind (fun x18 => (aI σ10 x17 14 x18).bind (fun x19 => (gR σ10 l0 12 39).bind (fun x20 => (gI σ10 l0 12 40).bind (fun x21 => (aI σ10 x20 14 x21).bind (fun x22 => (if xk σ10 l0 12 = true then (f_X12_does σ10 l0 (2 : Int32) x19 (-1 : Int32) x22).bind (fun p23 => f_X12_operator_j181 p23) else none))))))) else (gR σ10 l0 12 35).bind (fun x14 => (gI σ10 l0 12 36).bind (fun x15 => (wZ σ10 x14 (x15 - (1 : Int32)) (1 : Int32)).bind (fun σ16 => f_X12_operator_j181 σ16))))))))))))))) else none)
set_option maxHeartbeats 4000000 in
set_option maxRecDepth 20000 in
theorem L_X12_operator_j44 {G : xG} {π : Nat → Nat} {d C Z : Nat} {Q : xQ} (σ : xM) (l0 : Nat) (l1 : Int32) {x : (Int32 × xM)} (hf : f_X12_operator_j44 σ l0 l1 = some x) (hR : ∀ g, x = g → Q (.inl (some (.int g.1))) (g.2) π) : xMach G π J_X12_operator (d + 4) C Z 44 [(0, .ref l0), (1, .int l1)] [] σ Q := by
  unfold f_X12_operator_j44 at hf
  refine xm_aload_n dX12_operator_44 rfl ?_
  refine xm_iconst dX12_operator_45 (v := 0) (by decide) ?_
  refine xb_if hf (fun hb hf => ?_) (fun _ q => nomatch q)
  obtain ⟨p5, ep5, hf⟩ := xbind hf
  refine xb_callV (As := [.int (0 : Int32)]) (v0 := none) (τ0 := p5) dX12_operator_46 (xc_X12_reduce _ _) xcl12 xw_2186 xw_2188 xs_105 hb rfl (Nat.le_of_ble_eq_true rfl) rfl (Nat.le_of_ble_eq_true rfl) (fun Q1 hq => m_X12_reduce (d := d + 2) ep5 (fun g hg => by subst hg; exact hq)) ?_
  refine xm_aload_n dX12_operator_49 rfl ?_
  refine xb_getI (a := l0) (c := 12) (k := 40) dX12_operator_50 xcl12 (by decide) xw_1877 rfl hf (fun x6 ex6 hf => ?_)
  refine xb_if_ne 58 dX12_operator_53 (by decide) hf (fun c hf => ?_) (fun c hf => ?_)
  · refine xm_aload_n dX12_operator_58 rfl ?_
    refine xb_getR (a := l0) (c := 12) (k := 20) dX12_operator_59 xcl12 (by decide) xw_1857 rfl hf (fun x7 ex7 hf => ?_)
    refine xm_iload_n dX12_operator_62 rfl ?_
    refine xb_iald dX12_operator_63 hf (fun x8 ex8 hf => ?_)
    refine xm_iconst dX12_operator_64 (v := 5) (by decide) ?_
    refine xb_icmp_ne 119 dX12_operator_65 (by decide) hf (fun c hf => ?_) (fun c hf => ?_)
    · refine xm_aload_n dX12_operator_119 rfl ?_
      refine xm_dup dX12_operator_120 rfl ?_
      refine xb_getI (a := l0) (c := 12) (k := 40) dX12_operator_121 xcl12 (by decide) xw_1877 rfl hf (fun x9 ex9 hf => ?_)
      refine xm_iconst dX12_operator_124 (v := 1) (by decide) ?_
      refine xm_isub dX12_operator_125 ?_
      refine xb_putI (a := l0) (c := 12) (k := 40) dX12_operator_126 xcl12 (by decide) xw_1877 rfl rfl hf (fun σ10 eσ10 hf => ?_)
      refine xm_aload_n dX12_operator_129 rfl ?_
      refine xb_getR (a := l0) (c := 12) (k := 37) dX12_operator_130 xcl12 (by decide) xw_1874 rfl hf (fun x11 ex11 hf => ?_)
      refine xm_aload_n dX12_operator_133 rfl ?_
      refine xb_getI (a := l0) (c := 12) (k := 40) dX12_operator_134 xcl12 (by decide) xw_1877 rfl hf (fun x12 ex12 hf => ?_)
      refine xb_iald dX12_operator_137 hf (fun x13 ex13 hf => ?_)
      refine xm_iconst dX12_operator_138 (v := 1) (by decide) ?_
      refine xb_icmp_ne 169 dX12_operator_139 (by decide) hf (fun c hf => ?_) (fun c hf => ?_)
      · refine xm_aload_n dX12_operator_169 rfl ?_
        refine xb_getR (a := l0) (c := 12) (k := 35) dX12_operator_170 xcl12 (by decide) xw_1872 rfl hf (fun x14 ex14 hf => ?_)
        refine xm_aload_n dX12_operator_173 rfl ?_
        refine xb_getI (a := l0) (c := 12) (k := 36) dX12_operator_174 xcl12 (by decide) xw_1873 rfl hf (fun x15 ex15 hf => ?_)
        refine xm_iconst dX12_operator_177 (v := 1) (by decide) ?_
        refine xm_isub dX12_operator_178 ?_
        refine xm_iconst dX12_operator_179 (v := 1) (by decide) ?_
        refine xb_zast dX12_operator_180 hf (fun σ16 eσ16 hf => ?_)
        exact xm_sub [] rfl (L_X12_operator_j181 σ16 hf hR)
      · refine xm_aload_n dX12_operator_142 rfl ?_
        refine xm_iconst dX12_operator_143 (v := 2) (by decide) ?_
        refine xm_aload_n dX12_operator_144 rfl ?_
        refine xb_getR (a := l0) (c := 12) (k := 38) dX12_operator_145 xcl12 (by decide) xw_1875 rfl hf (fun x17 ex17 hf => ?_)
        refine xm_aload_n dX12_operator_148 rfl ?_
        refine xb_getI (a := l0) (c := 12) (k := 40) dX12_operator_149 xcl12 (by decide) xw_1877 rfl hf (fun x18 ex18 hf => ?_)
        refine xb_iald dX12_operator_152 hf (fun x19 ex19 hf => ?_)
        refine xm_iconst dX12_operator_153 (v := -1) (by decide) ?_
        refine xm_aload_n dX12_operator_154 rfl ?_
        refine xb_getR (a := l0) (c := 12) (k := 39) dX12_operator_155 xcl12 (by decide) xw_1876 rfl hf (fun x20 ex20 hf => ?_)
        refine xm_aload_n dX12_operator_158 rfl ?_
        refine xb_getI (a := l0) (c := 12) (k := 40) dX12_operator_159 xcl12 (by decide) xw_1877 rfl hf (fun x21 ex21 hf => ?_)
        refine xb_iald dX12_operator_162 hf (fun x22 ex22 hf => ?_)
        refine xb_if hf (fun hb hf => ?_) (fun _ q => nomatch q)
        obtain ⟨p23, ep23, hf⟩ := xbind hf
        refine xb_callV (As := [.int (2 : Int32), .int x19, .int (-1 : Int32), .int x22]) (v0 := none) (τ0 := p23) dX12_operator_163 (xc_X12_does _ _) xcl12 xw_2162 xw_2164 xs_99 hb rfl (Nat.le_of_ble_eq_true rfl) rfl (Nat.le_of_ble_eq_true rfl) (fun Q1 hq => m_X12_does (d := d + 3) ep23 (fun g hg => by subst hg; exact hq)) ?_
        refine xm_goto 181 dX12_operator_166 (by decide) ?_
        exact xm_sub [] rfl (L_X12_operator_j181 p23 hf hR)
    · refine xm_aload_n dX12_operator_68 rfl ?_
      refine xb_getR (a := l0) (c := 12) (k := 39) dX12_operator_69 xcl12 (by decide) xw_1876 rfl hf (fun x24 ex24 hf => ?_)
      refine xm_aload_n dX12_operator_72 rfl ?_
      refine xb_getI (a := l0) (c := 12) (k := 40) dX12_operator_73 xcl12 (by decide) xw_1877 rfl hf (fun x25 ex25 hf => ?_)
      refine xm_iconst dX12_operator_76 (v := 1) (by decide) ?_
      refine xm_isub dX12_operator_77 ?_
      refine xb_topi hf (fun v26 ev26 hf => ?_)
      refine xm_dup2 dX12_operator_78 rfl rfl ?_
      refine xb_iald dX12_operator_79 hf (fun x27 ex27 hf => ?_)
      refine xm_iconst dX12_operator_80 (v := 1) (by decide) ?_
      refine xm_iadd dX12_operator_81 ?_
      refine xb_iast dX12_operator_82 hf (fun σ28 eσ28 hf => ?_)
      refine xm_aload_n dX12_operator_83 rfl ?_
      refine xb_getR (a := l0) (c := 12) (k := 37) dX12_operator_84 xcl12 (by decide) xw_1874 rfl hf (fun x29 ex29 hf => ?_)
      refine xm_aload_n dX12_operator_87 rfl ?_
      refine xb_getI (a := l0) (c := 12) (k := 40) dX12_operator_88 xcl12 (by decide) xw_1877 rfl hf (fun x30 ex30 hf => ?_)
      refine xm_iconst dX12_operator_91 (v := 1) (by decide) ?_
      refine xm_isub dX12_operator_92 ?_
      refine xb_iald dX12_operator_93 hf (fun x31 ex31 hf => ?_)
      refine xm_iconst dX12_operator_94 (v := 1) (by decide) ?_
      refine xb_icmp_ne 117 dX12_operator_95 (by decide) hf (fun c hf => ?_) (fun c hf => ?_)
      · exact xm_sub [] rfl (L_X12_operator_j117 σ28 hf hR)
      · refine xm_aload_n dX12_operator_98 rfl ?_
        refine xb_getR (a := l0) (c := 12) (k := 39) dX12_operator_99 xcl12 (by decide) xw_1876 rfl hf (fun x33 ex33 hf => ?_)
        refine xm_aload_n dX12_operator_102 rfl ?_
        refine xb_getI (a := l0) (c := 12) (k := 40) dX12_operator_103 xcl12 (by decide) xw_1877 rfl hf (fun x34 ex34 hf => ?_)
        refine xm_iconst dX12_operator_106 (v := 1) (by decide) ?_
        refine xm_isub dX12_operator_107 ?_
        refine xb_iald dX12_operator_108 hf (fun x35 ex35 hf => ?_)
        refine xm_iconst dX12_operator_109 (v := 4) (by decide) ?_
        refine xb_icmp_gt 117 dX12_operator_110 (by decide) hf (fun c hf => ?_) (fun c hf => ?_)
        · exact xm_sub [] rfl (L_X12_operator_j117 σ28 hf hR)
        · refine xm_iconst dX12_operator_113 (v := 1) (by decide) ?_
          refine xm_goto 118 dX12_operator_114 (by decide) ?_
          exact xm_sub [] rfl (L_X12_operator_j118 σ28 (1 : Int32) hf hR)
  · refine xm_iconst dX12_operator_56 (v := 0) (by decide) ?_
    cases hf
    exact xm_zret dX12_operator_57 rfl rfl (hR _ rfl)
def f_X12_operator (σ : xM) (l0 : Nat) (l1 : Int32) : Option (Int32 × xM) :=
  (gR σ l0 12 20).bind (fun x1 => (aI σ x1 14 l1).bind (fun x2 => (if x2 = (2 : Int32) then (gR σ l0 12 21).bind (fun x38 => (aI σ x38 14 l1).bind (fun x39 => (if xk σ l0 12 = true then (f_X12_sign_ σ l0 l1 x39).bind (fun p40 => (xz p40.1).bind (fun b41 => some (b41, p40.2))) else none))) else (gR σ l0 12 20).bind (fun x3 => (aI σ x3 14 l1).bind (fun x4 => (if x4 = (4 : Int32) then f_X12_operator_j44 σ l0 l1 else (gR σ l0 12 20).bind (fun x36 => (aI σ x36 14 l1).bind (fun x37 => (if x37 = (5 : Int32) then f_X12_operator_j44 σ l0 l1 else some ((0 : Int32), σ))))))))))
set_option maxHeartbeats 4000000 in
set_option maxRecDepth 20000 in
theorem m_X12_operator {G : xG} {π : Nat → Nat} {d C Z : Nat} {Q : xQ} {σ : xM} {l0 : Nat} {l1 : Int32} {x : (Int32 × xM)} (hf : f_X12_operator σ l0 l1 = some x) (hR : ∀ g, x = g → Q (.inl (some (.int g.1))) (g.2) π) : xMach G π J_X12_operator (d + 4) C Z 0 (lv_args 0 [.ref l0, .int l1]) [] σ Q := by
  unfold f_X12_operator at hf
  refine xm_stL (L' := [(0, .ref l0), (1, .int l1)]) rfl ?_
  refine xm_aload_n dX12_operator_0 rfl ?_
  refine xb_getR (a := l0) (c := 12) (k := 20) dX12_operator_1 xcl12 (by decide) xw_1857 rfl hf (fun x1 ex1 hf => ?_)
  refine xm_iload_n dX12_operator_4 rfl ?_
  refine xb_iald dX12_operator_5 hf (fun x2 ex2 hf => ?_)
  refine xm_iconst dX12_operator_6 (v := 2) (by decide) ?_
  refine xb_icmp_ne 22 dX12_operator_7 (by decide) hf (fun c hf => ?_) (fun c hf => ?_)
  · refine xm_aload_n dX12_operator_22 rfl ?_
    refine xb_getR (a := l0) (c := 12) (k := 20) dX12_operator_23 xcl12 (by decide) xw_1857 rfl hf (fun x3 ex3 hf => ?_)
    refine xm_iload_n dX12_operator_26 rfl ?_
    refine xb_iald dX12_operator_27 hf (fun x4 ex4 hf => ?_)
    refine xm_iconst dX12_operator_28 (v := 4) (by decide) ?_
    refine xb_icmp_eq 44 dX12_operator_29 (by decide) hf (fun c hf => ?_) (fun c hf => ?_)
    · exact xm_sub [0, 1] rfl (L_X12_operator_j44 σ l0 l1 hf hR)
    · refine xm_aload_n dX12_operator_32 rfl ?_
      refine xb_getR (a := l0) (c := 12) (k := 20) dX12_operator_33 xcl12 (by decide) xw_1857 rfl hf (fun x36 ex36 hf => ?_)
      refine xm_iload_n dX12_operator_36 rfl ?_
      refine xb_iald dX12_operator_37 hf (fun x37 ex37 hf => ?_)
      refine xm_iconst dX12_operator_38 (v := 5) (by decide) ?_
      refine xb_icmp_eq 44 dX12_operator_39 (by decide) hf (fun c hf => ?_) (fun c hf => ?_)
      · exact xm_sub [0, 1] rfl (L_X12_operator_j44 σ l0 l1 hf hR)
      · refine xm_iconst dX12_operator_42 (v := 0) (by decide) ?_
        cases hf
        exact xm_zret dX12_operator_43 rfl rfl (hR _ rfl)
  · refine xm_aload_n dX12_operator_10 rfl ?_
    refine xm_iload_n dX12_operator_11 rfl ?_
    refine xm_aload_n dX12_operator_12 rfl ?_
    refine xb_getR (a := l0) (c := 12) (k := 21) dX12_operator_13 xcl12 (by decide) xw_1858 rfl hf (fun x38 ex38 hf => ?_)
    refine xm_iload_n dX12_operator_16 rfl ?_
    refine xb_iald dX12_operator_17 hf (fun x39 ex39 hf => ?_)
    refine xb_if hf (fun hb hf => ?_) (fun _ q => nomatch q)
    obtain ⟨p40, ep40, hf⟩ := xbind hf
    refine xb_callV (As := [.int l1, .int x39]) (v0 := (some (.int p40.1))) (τ0 := p40.2) dX12_operator_18 (xc_X12_sign_ _ _) xcl12 xw_2182 xw_2184 xs_104 hb rfl (Nat.le_of_ble_eq_true rfl) rfl (Nat.le_of_ble_eq_true rfl) (fun Q1 hq => m_X12_sign_ (d := d + 0) ep40 (fun g hg => by subst hg; exact hq)) ?_
    obtain ⟨b41, eb41, hf⟩ := xbind hf
    obtain ⟨rfl, hz⟩ := xz_of eb41
    cases hf
    exact xm_zret dX12_operator_21 rfl hz (hR _ rfl)
-- RankwiseModel.opensCall(I)Z
def f_X12_opensCall_j29 (σ : xM) (s0 : Int32) : Option Int32 :=
  (xz s0).bind (fun b3 => some b3)
set_option maxHeartbeats 4000000 in
set_option maxRecDepth 20000 in
theorem L_X12_opensCall_j29 {G : xG} {π : Nat → Nat} {d C Z : Nat} {Q : xQ} (σ : xM) (s0 : Int32) {x : Int32} (hf : f_X12_opensCall_j29 σ s0 = some x) (hR : ∀ g, x = g → Q (.inl (some (.int g))) (σ) π) : xMach G π J_X12_opensCall (d + 1) C Z 29 [] [.int s0] σ Q := by
  unfold f_X12_opensCall_j29 at hf
  obtain ⟨b3, eb3, hf⟩ := xbind hf
  obtain ⟨rfl, hz⟩ := xz_of eb3
  cases hf
  exact xm_zret dX12_opensCall_29 rfl hz (hR _ rfl)
def f_X12_opensCall_j28 (σ : xM)  : Option Int32 :=
  f_X12_opensCall_j29 σ (0 : Int32)
set_option maxHeartbeats 4000000 in
set_option maxRecDepth 20000 in
theorem L_X12_opensCall_j28 {G : xG} {π : Nat → Nat} {d C Z : Nat} {Q : xQ} (σ : xM)  {x : Int32} (hf : f_X12_opensCall_j28 σ = some x) (hR : ∀ g, x = g → Q (.inl (some (.int g))) (σ) π) : xMach G π J_X12_opensCall (d + 1) C Z 28 [] [] σ Q := by
  unfold f_X12_opensCall_j28 at hf
  refine xm_iconst dX12_opensCall_28 (v := 0) (by decide) ?_
  exact xm_sub [] rfl (L_X12_opensCall_j29 σ (0 : Int32) hf hR)
def f_X12_opensCall (σ : xM) (l0 : Nat) (l1 : Int32) : Option Int32 :=
  (if xk σ l0 12 = true then (f_X12_nextWord σ l0 l1).bind (fun p1 => (gI σ l0 12 25).bind (fun x2 => (if x2 ≤ p1 then f_X12_opensCall_j28 σ else (gR σ l0 12 20).bind (fun x4 => (aI σ x4 14 p1).bind (fun x5 => (if x5 = (3 : Int32) then f_X12_opensCall_j29 σ (1 : Int32) else f_X12_opensCall_j28 σ)))))) else none)
set_option maxHeartbeats 4000000 in
set_option maxRecDepth 20000 in
theorem m_X12_opensCall {G : xG} {π : Nat → Nat} {d C Z : Nat} {Q : xQ} {σ : xM} {l0 : Nat} {l1 : Int32} {x : Int32} (hf : f_X12_opensCall σ l0 l1 = some x) (hR : ∀ g, x = g → Q (.inl (some (.int g))) (σ) π) : xMach G π J_X12_opensCall (d + 1) C Z 0 (lv_args 0 [.ref l0, .int l1]) [] σ Q := by
  unfold f_X12_opensCall at hf
  refine xm_stL (L' := [(0, .ref l0), (1, .int l1)]) rfl ?_
  refine xm_aload_n dX12_opensCall_0 rfl ?_
  refine xm_iload_n dX12_opensCall_1 rfl ?_
  refine xb_if hf (fun hb hf => ?_) (fun _ q => nomatch q)
  obtain ⟨p1, ep1, hf⟩ := xbind hf
  refine xb_callV (As := [.int l1]) (v0 := (some (.int p1))) (τ0 := σ) dX12_opensCall_2 (xc_X12_nextWord _ _) xcl12 xw_2154 xw_2156 xs_97 hb rfl (Nat.le_of_ble_eq_true rfl) rfl (Nat.le_of_ble_eq_true rfl) (fun Q1 hq => m_X12_nextWord (d := d + 0) ep1 (fun g hg => by subst hg; exact hq)) ?_
  refine xm_istore_n dX12_opensCall_5 (by decide) (xm_stL (L' := [(2, .int p1), (0, .ref l0), (1, .int l1)]) rfl ?_)
  refine xm_iload_n dX12_opensCall_6 rfl ?_
  refine xm_aload_n dX12_opensCall_7 rfl ?_
  refine xb_getI (a := l0) (c := 12) (k := 25) dX12_opensCall_8 xcl12 (by decide) xw_1862 rfl hf (fun x2 ex2 hf => ?_)
  refine xb_icmp_ge 28 dX12_opensCall_11 (by decide) hf (fun c hf => ?_) (fun c hf => ?_)
  · exact xm_sub [] rfl (L_X12_opensCall_j28 σ hf hR)
  · refine xm_aload_n dX12_opensCall_14 rfl ?_
    refine xb_getR (a := l0) (c := 12) (k := 20) dX12_opensCall_15 xcl12 (by decide) xw_1857 rfl hf (fun x4 ex4 hf => ?_)
    refine xm_iload_n dX12_opensCall_18 rfl ?_
    refine xb_iald dX12_opensCall_19 hf (fun x5 ex5 hf => ?_)
    refine xm_iconst dX12_opensCall_20 (v := 3) (by decide) ?_
    refine xb_icmp_ne 28 dX12_opensCall_21 (by decide) hf (fun c hf => ?_) (fun c hf => ?_)
    · exact xm_sub [] rfl (L_X12_opensCall_j28 σ hf hR)
    · refine xm_iconst dX12_opensCall_24 (v := 1) (by decide) ?_
      refine xm_goto 29 dX12_opensCall_25 (by decide) ?_
      exact xm_sub [] rfl (L_X12_opensCall_j29 σ (1 : Int32) hf hR)
-- RankwiseModel.parse()I
def f_X12_parse_j166 (σ : xM) (l0 : Nat) (l1 : Int32) (l2 : Int32) : Option ((Int32 × xM) ⊕ (((Int32 × xM) ⊕ ((Int32 × xM) ⊕ (Nat × Int32 × xM))) ⊕ (Nat × Int32 × Int32 × xM))) :=
  (if xk σ l0 12 = true then (f_X12_nextWord σ l0 l2).bind (fun p10 => some (Sum.inr (Sum.inr (l0, l1, p10, σ)))) else none)
set_option maxHeartbeats 4000000 in
set_option maxRecDepth 20000 in
theorem L_X12_parse_j166 {G : xG} {π : Nat → Nat} {d C Z : Nat} {Q : xQ} (σ : xM) (l0 : Nat) (l1 : Int32) (l2 : Int32) {x : ((Int32 × xM) ⊕ (((Int32 × xM) ⊕ ((Int32 × xM) ⊕ (Nat × Int32 × xM))) ⊕ (Nat × Int32 × Int32 × xM)))} (hf : f_X12_parse_j166 σ l0 l1 l2 = some x) (hR : ∀ g, x = Sum.inl (g) → Q (.inl (some (.int g.1))) (g.2) π) (hE0 : ∀ e : (Int32 × xM), x = Sum.inr (Sum.inl (Sum.inl e)) → xMach G π J_X12_parse (d + 5) C Z 43 [(2, .int e.1)] [] e.2 Q) (hE1 : ∀ e : (Int32 × xM), x = Sum.inr (Sum.inl (Sum.inr (Sum.inl e))) → xMach G π J_X12_parse (d + 5) C Z 124 [(2, .int e.1)] [] e.2 Q) (hE2 : ∀ e : (Nat × Int32 × xM), x = Sum.inr (Sum.inl (Sum.inr (Sum.inr e))) → xMach G π J_X12_parse (d + 5) C Z 175 [(0, .ref e.1), (1, .int e.2.1)] [] e.2.2 Q) (hC : ∀ e : (Nat × Int32 × Int32 × xM), x = Sum.inr (Sum.inr e) → xMach G π J_X12_parse (d + 5) C Z 23 [(0, .ref e.1), (1, .int e.2.1), (2, .int e.2.2.1)] [] e.2.2.2 Q) : xMach G π J_X12_parse (d + 5) C Z 166 [(0, .ref l0), (1, .int l1), (2, .int l2)] [] σ Q := by
  unfold f_X12_parse_j166 at hf
  refine xm_aload_n dX12_parse_166 rfl ?_
  refine xm_iload_n dX12_parse_167 rfl ?_
  refine xb_if hf (fun hb hf => ?_) (fun _ q => nomatch q)
  obtain ⟨p10, ep10, hf⟩ := xbind hf
  refine xb_callV (As := [.int l2]) (v0 := (some (.int p10))) (τ0 := σ) dX12_parse_168 (xc_X12_nextWord _ _) xcl12 xw_2154 xw_2156 xs_97 hb rfl (Nat.le_of_ble_eq_true rfl) rfl (Nat.le_of_ble_eq_true rfl) (fun Q1 hq => m_X12_nextWord (d := d + 4) ep10 (fun g hg => by subst hg; exact hq)) ?_
  refine xm_istore_n dX12_parse_171 (by decide) (xm_stL (L' := [(2, .int p10), (0, .ref l0), (1, .int l1)]) rfl ?_)
  refine xm_goto 23 dX12_parse_172 (by decide) ?_
  cases hf
  exact xm_sub [1, 2, 0] rfl (hC _ rfl)
def f_X12_parse_j165 (σ : xM) (l0 : Nat) (l2 : Int32) (s0 : Int32) : Option ((Int32 × xM) ⊕ (((Int32 × xM) ⊕ ((Int32 × xM) ⊕ (Nat × Int32 × xM))) ⊕ (Nat × Int32 × Int32 × xM))) :=
  f_X12_parse_j166 σ l0 s0 l2
set_option maxHeartbeats 4000000 in
set_option maxRecDepth 20000 in
theorem L_X12_parse_j165 {G : xG} {π : Nat → Nat} {d C Z : Nat} {Q : xQ} (σ : xM) (l0 : Nat) (l2 : Int32) (s0 : Int32) {x : ((Int32 × xM) ⊕ (((Int32 × xM) ⊕ ((Int32 × xM) ⊕ (Nat × Int32 × xM))) ⊕ (Nat × Int32 × Int32 × xM)))} (hf : f_X12_parse_j165 σ l0 l2 s0 = some x) (hR : ∀ g, x = Sum.inl (g) → Q (.inl (some (.int g.1))) (g.2) π) (hE0 : ∀ e : (Int32 × xM), x = Sum.inr (Sum.inl (Sum.inl e)) → xMach G π J_X12_parse (d + 5) C Z 43 [(2, .int e.1)] [] e.2 Q) (hE1 : ∀ e : (Int32 × xM), x = Sum.inr (Sum.inl (Sum.inr (Sum.inl e))) → xMach G π J_X12_parse (d + 5) C Z 124 [(2, .int e.1)] [] e.2 Q) (hE2 : ∀ e : (Nat × Int32 × xM), x = Sum.inr (Sum.inl (Sum.inr (Sum.inr e))) → xMach G π J_X12_parse (d + 5) C Z 175 [(0, .ref e.1), (1, .int e.2.1)] [] e.2.2 Q) (hC : ∀ e : (Nat × Int32 × Int32 × xM), x = Sum.inr (Sum.inr e) → xMach G π J_X12_parse (d + 5) C Z 23 [(0, .ref e.1), (1, .int e.2.1), (2, .int e.2.2.1)] [] e.2.2.2 Q) : xMach G π J_X12_parse (d + 5) C Z 165 [(0, .ref l0), (2, .int l2)] [.int s0] σ Q := by
  unfold f_X12_parse_j165 at hf
  refine xm_istore_n dX12_parse_165 (by decide) (xm_stL (L' := [(1, .int s0), (0, .ref l0), (2, .int l2)]) rfl ?_)
  exact xm_sub [1, 0, 2] rfl (L_X12_parse_j166 σ l0 s0 l2 hf hR hE0 hE1 hE2 hC)
def f_X12_parse_j160 (σ : xM) (l0 : Nat) (l2 : Int32) : Option ((Int32 × xM) ⊕ (((Int32 × xM) ⊕ ((Int32 × xM) ⊕ (Nat × Int32 × xM))) ⊕ (Nat × Int32 × Int32 × xM))) :=
  f_X12_parse_j165 σ l0 l2 (1 : Int32)
set_option maxHeartbeats 4000000 in
set_option maxRecDepth 20000 in
theorem L_X12_parse_j160 {G : xG} {π : Nat → Nat} {d C Z : Nat} {Q : xQ} (σ : xM) (l0 : Nat) (l2 : Int32) {x : ((Int32 × xM) ⊕ (((Int32 × xM) ⊕ ((Int32 × xM) ⊕ (Nat × Int32 × xM))) ⊕ (Nat × Int32 × Int32 × xM)))} (hf : f_X12_parse_j160 σ l0 l2 = some x) (hR : ∀ g, x = Sum.inl (g) → Q (.inl (some (.int g.1))) (g.2) π) (hE0 : ∀ e : (Int32 × xM), x = Sum.inr (Sum.inl (Sum.inl e)) → xMach G π J_X12_parse (d + 5) C Z 43 [(2, .int e.1)] [] e.2 Q) (hE1 : ∀ e : (Int32 × xM), x = Sum.inr (Sum.inl (Sum.inr (Sum.inl e))) → xMach G π J_X12_parse (d + 5) C Z 124 [(2, .int e.1)] [] e.2 Q) (hE2 : ∀ e : (Nat × Int32 × xM), x = Sum.inr (Sum.inl (Sum.inr (Sum.inr e))) → xMach G π J_X12_parse (d + 5) C Z 175 [(0, .ref e.1), (1, .int e.2.1)] [] e.2.2 Q) (hC : ∀ e : (Nat × Int32 × Int32 × xM), x = Sum.inr (Sum.inr e) → xMach G π J_X12_parse (d + 5) C Z 23 [(0, .ref e.1), (1, .int e.2.1), (2, .int e.2.2.1)] [] e.2.2.2 Q) : xMach G π J_X12_parse (d + 5) C Z 160 [(0, .ref l0), (2, .int l2)] [] σ Q := by
  unfold f_X12_parse_j160 at hf
  refine xm_iconst dX12_parse_160 (v := 1) (by decide) ?_
  refine xm_goto 165 dX12_parse_161 (by decide) ?_
  exact xm_sub [0, 1] rfl (L_X12_parse_j165 σ l0 l2 (1 : Int32) hf hR hE0 hE1 hE2 hC)
def f_X12_parse_j164 (σ : xM) (l0 : Nat) (l2 : Int32) : Option ((Int32 × xM) ⊕ (((Int32 × xM) ⊕ ((Int32 × xM) ⊕ (Nat × Int32 × xM))) ⊕ (Nat × Int32 × Int32 × xM))) :=
  f_X12_parse_j165 σ l0 l2 (0 : Int32)
set_option maxHeartbeats 4000000 in
set_option maxRecDepth 20000 in
theorem L_X12_parse_j164 {G : xG} {π : Nat → Nat} {d C Z : Nat} {Q : xQ} (σ : xM) (l0 : Nat) (l2 : Int32) {x : ((Int32 × xM) ⊕ (((Int32 × xM) ⊕ ((Int32 × xM) ⊕ (Nat × Int32 × xM))) ⊕ (Nat × Int32 × Int32 × xM)))} (hf : f_X12_parse_j164 σ l0 l2 = some x) (hR : ∀ g, x = Sum.inl (g) → Q (.inl (some (.int g.1))) (g.2) π) (hE0 : ∀ e : (Int32 × xM), x = Sum.inr (Sum.inl (Sum.inl e)) → xMach G π J_X12_parse (d + 5) C Z 43 [(2, .int e.1)] [] e.2 Q) (hE1 : ∀ e : (Int32 × xM), x = Sum.inr (Sum.inl (Sum.inr (Sum.inl e))) → xMach G π J_X12_parse (d + 5) C Z 124 [(2, .int e.1)] [] e.2 Q) (hE2 : ∀ e : (Nat × Int32 × xM), x = Sum.inr (Sum.inl (Sum.inr (Sum.inr e))) → xMach G π J_X12_parse (d + 5) C Z 175 [(0, .ref e.1), (1, .int e.2.1)] [] e.2.2 Q) (hC : ∀ e : (Nat × Int32 × Int32 × xM), x = Sum.inr (Sum.inr e) → xMach G π J_X12_parse (d + 5) C Z 23 [(0, .ref e.1), (1, .int e.2.1), (2, .int e.2.2.1)] [] e.2.2.2 Q) : xMach G π J_X12_parse (d + 5) C Z 164 [(0, .ref l0), (2, .int l2)] [] σ Q := by
  unfold f_X12_parse_j164 at hf
  refine xm_iconst dX12_parse_164 (v := 0) (by decide) ?_
  exact xm_sub [0, 1] rfl (L_X12_parse_j165 σ l0 l2 (0 : Int32) hf hR hE0 hE1 hE2 hC)
def f_X12_parse_j112 (σ : xM) (l0 : Nat) (l2 : Int32) (s0 : Int32) : Option ((Int32 × xM) ⊕ (((Int32 × xM) ⊕ ((Int32 × xM) ⊕ (Nat × Int32 × xM))) ⊕ (Nat × Int32 × Int32 × xM))) :=
  f_X12_parse_j166 σ l0 s0 l2
set_option maxHeartbeats 4000000 in
set_option maxRecDepth 20000 in
theorem L_X12_parse_j112 {G : xG} {π : Nat → Nat} {d C Z : Nat} {Q : xQ} (σ : xM) (l0 : Nat) (l2 : Int32) (s0 : Int32) {x : ((Int32 × xM) ⊕ (((Int32 × xM) ⊕ ((Int32 × xM) ⊕ (Nat × Int32 × xM))) ⊕ (Nat × Int32 × Int32 × xM)))} (hf : f_X12_parse_j112 σ l0 l2 s0 = some x) (hR : ∀ g, x = Sum.inl (g) → Q (.inl (some (.int g.1))) (g.2) π) (hE0 : ∀ e : (Int32 × xM), x = Sum.inr (Sum.inl (Sum.inl e)) → xMach G π J_X12_parse (d + 5) C Z 43 [(2, .int e.1)] [] e.2 Q) (hE1 : ∀ e : (Int32 × xM), x = Sum.inr (Sum.inl (Sum.inr (Sum.inl e))) → xMach G π J_X12_parse (d + 5) C Z 124 [(2, .int e.1)] [] e.2 Q) (hE2 : ∀ e : (Nat × Int32 × xM), x = Sum.inr (Sum.inl (Sum.inr (Sum.inr e))) → xMach G π J_X12_parse (d + 5) C Z 175 [(0, .ref e.1), (1, .int e.2.1)] [] e.2.2 Q) (hC : ∀ e : (Nat × Int32 × Int32 × xM), x = Sum.inr (Sum.inr e) → xMach G π J_X12_parse (d + 5) C Z 23 [(0, .ref e.1), (1, .int e.2.1), (2, .int e.2.2.1)] [] e.2.2.2 Q) : xMach G π J_X12_parse (d + 5) C Z 112 [(0, .ref l0), (2, .int l2)] [.int s0] σ Q := by
  unfold f_X12_parse_j112 at hf
  refine xm_istore_n dX12_parse_112 (by decide) (xm_stL (L' := [(1, .int s0), (0, .ref l0), (2, .int l2)]) rfl ?_)
  refine xm_goto 166 dX12_parse_113 (by decide) ?_
  exact xm_sub [1, 0, 2] rfl (L_X12_parse_j166 σ l0 s0 l2 hf hR hE0 hE1 hE2 hC)
def f_X12_parse_j107 (σ : xM) (l0 : Nat) (l2 : Int32) : Option ((Int32 × xM) ⊕ (((Int32 × xM) ⊕ ((Int32 × xM) ⊕ (Nat × Int32 × xM))) ⊕ (Nat × Int32 × Int32 × xM))) :=
  f_X12_parse_j112 σ l0 l2 (1 : Int32)
set_option maxHeartbeats 4000000 in
set_option maxRecDepth 20000 in
theorem L_X12_parse_j107 {G : xG} {π : Nat → Nat} {d C Z : Nat} {Q : xQ} (σ : xM) (l0 : Nat) (l2 : Int32) {x : ((Int32 × xM) ⊕ (((Int32 × xM) ⊕ ((Int32 × xM) ⊕ (Nat × Int32 × xM))) ⊕ (Nat × Int32 × Int32 × xM)))} (hf : f_X12_parse_j107 σ l0 l2 = some x) (hR : ∀ g, x = Sum.inl (g) → Q (.inl (some (.int g.1))) (g.2) π) (hE0 : ∀ e : (Int32 × xM), x = Sum.inr (Sum.inl (Sum.inl e)) → xMach G π J_X12_parse (d + 5) C Z 43 [(2, .int e.1)] [] e.2 Q) (hE1 : ∀ e : (Int32 × xM), x = Sum.inr (Sum.inl (Sum.inr (Sum.inl e))) → xMach G π J_X12_parse (d + 5) C Z 124 [(2, .int e.1)] [] e.2 Q) (hE2 : ∀ e : (Nat × Int32 × xM), x = Sum.inr (Sum.inl (Sum.inr (Sum.inr e))) → xMach G π J_X12_parse (d + 5) C Z 175 [(0, .ref e.1), (1, .int e.2.1)] [] e.2.2 Q) (hC : ∀ e : (Nat × Int32 × Int32 × xM), x = Sum.inr (Sum.inr e) → xMach G π J_X12_parse (d + 5) C Z 23 [(0, .ref e.1), (1, .int e.2.1), (2, .int e.2.2.1)] [] e.2.2.2 Q) : xMach G π J_X12_parse (d + 5) C Z 107 [(0, .ref l0), (2, .int l2)] [] σ Q := by
  unfold f_X12_parse_j107 at hf
  refine xm_iconst dX12_parse_107 (v := 1) (by decide) ?_
  refine xm_goto 112 dX12_parse_108 (by decide) ?_
  exact xm_sub [0, 1] rfl (L_X12_parse_j112 σ l0 l2 (1 : Int32) hf hR hE0 hE1 hE2 hC)
def f_X12_parse_j82 (σ : xM) (l0 : Nat) (l3 : Int32) (s0 : Int32) : Option ((Int32 × xM) ⊕ (((Int32 × xM) ⊕ ((Int32 × xM) ⊕ (Nat × Int32 × xM))) ⊕ (Nat × Int32 × Int32 × xM))) :=
  (if l3 = (0 : Int32) then (gR σ l0 12 20).bind (fun x19 => (aI σ x19 14 s0).bind (fun x20 => (if x20 = (3 : Int32) then f_X12_parse_j107 σ l0 s0 else (gR σ l0 12 20).bind (fun x21 => (aI σ x21 14 s0).bind (fun x22 => (if x22 = (2 : Int32) then f_X12_parse_j107 σ l0 s0 else f_X12_parse_j112 σ l0 s0 (0 : Int32))))))) else f_X12_parse_j107 σ l0 s0)
set_option maxHeartbeats 4000000 in
set_option maxRecDepth 20000 in
theorem L_X12_parse_j82 {G : xG} {π : Nat → Nat} {d C Z : Nat} {Q : xQ} (σ : xM) (l0 : Nat) (l3 : Int32) (s0 : Int32) {x : ((Int32 × xM) ⊕ (((Int32 × xM) ⊕ ((Int32 × xM) ⊕ (Nat × Int32 × xM))) ⊕ (Nat × Int32 × Int32 × xM)))} (hf : f_X12_parse_j82 σ l0 l3 s0 = some x) (hR : ∀ g, x = Sum.inl (g) → Q (.inl (some (.int g.1))) (g.2) π) (hE0 : ∀ e : (Int32 × xM), x = Sum.inr (Sum.inl (Sum.inl e)) → xMach G π J_X12_parse (d + 5) C Z 43 [(2, .int e.1)] [] e.2 Q) (hE1 : ∀ e : (Int32 × xM), x = Sum.inr (Sum.inl (Sum.inr (Sum.inl e))) → xMach G π J_X12_parse (d + 5) C Z 124 [(2, .int e.1)] [] e.2 Q) (hE2 : ∀ e : (Nat × Int32 × xM), x = Sum.inr (Sum.inl (Sum.inr (Sum.inr e))) → xMach G π J_X12_parse (d + 5) C Z 175 [(0, .ref e.1), (1, .int e.2.1)] [] e.2.2 Q) (hC : ∀ e : (Nat × Int32 × Int32 × xM), x = Sum.inr (Sum.inr e) → xMach G π J_X12_parse (d + 5) C Z 23 [(0, .ref e.1), (1, .int e.2.1), (2, .int e.2.2.1)] [] e.2.2.2 Q) : xMach G π J_X12_parse (d + 5) C Z 82 [(0, .ref l0), (3, .int l3)] [.int s0] σ Q := by
  unfold f_X12_parse_j82 at hf
  refine xm_istore_n dX12_parse_82 (by decide) (xm_stL (L' := [(2, .int s0), (0, .ref l0), (3, .int l3)]) rfl ?_)
  refine xm_iload_n dX12_parse_83 rfl ?_
  refine xb_if_ne 107 dX12_parse_84 (by decide) hf (fun c hf => ?_) (fun c hf => ?_)
  · exact xm_sub [1, 0] rfl (L_X12_parse_j107 σ l0 s0 hf hR hE0 hE1 hE2 hC)
  · refine xm_aload_n dX12_parse_87 rfl ?_
    refine xb_getR (a := l0) (c := 12) (k := 20) dX12_parse_88 xcl12 (by decide) xw_1857 rfl hf (fun x19 ex19 hf => ?_)
    refine xm_iload_n dX12_parse_91 rfl ?_
    refine xb_iald dX12_parse_92 hf (fun x20 ex20 hf => ?_)
    refine xm_iconst dX12_parse_93 (v := 3) (by decide) ?_
    refine xb_icmp_eq 107 dX12_parse_94 (by decide) hf (fun c hf => ?_) (fun c hf => ?_)
    · exact xm_sub [1, 0] rfl (L_X12_parse_j107 σ l0 s0 hf hR hE0 hE1 hE2 hC)
    · refine xm_aload_n dX12_parse_97 rfl ?_
      refine xb_getR (a := l0) (c := 12) (k := 20) dX12_parse_98 xcl12 (by decide) xw_1857 rfl hf (fun x21 ex21 hf => ?_)
      refine xm_iload_n dX12_parse_101 rfl ?_
      refine xb_iald dX12_parse_102 hf (fun x22 ex22 hf => ?_)
      refine xm_iconst dX12_parse_103 (v := 2) (by decide) ?_
      refine xb_icmp_ne 111 dX12_parse_104 (by decide) hf (fun c hf => ?_) (fun c hf => ?_)
      · refine xm_iconst dX12_parse_111 (v := 0) (by decide) ?_
        exact xm_sub [1, 0] rfl (L_X12_parse_j112 σ l0 s0 (0 : Int32) hf hR hE0 hE1 hE2 hC)
      · exact xm_sub [1, 0] rfl (L_X12_parse_j107 σ l0 s0 hf hR hE0 hE1 hE2 hC)
def f_X12_parse_j68 (σ : xM) (l0 : Nat) (l2 : Int32) (s0 : Int32) : Option ((Int32 × xM) ⊕ (((Int32 × xM) ⊕ ((Int32 × xM) ⊕ (Nat × Int32 × xM))) ⊕ (Nat × Int32 × Int32 × xM))) :=
  (if s0 = (0 : Int32) then f_X12_parse_j82 σ l0 s0 l2 else (if xk σ l0 12 = true then (f_X12_nextWord σ l0 l2).bind (fun p23 => f_X12_parse_j82 σ l0 s0 p23) else none))
set_option maxHeartbeats 4000000 in
set_option maxRecDepth 20000 in
theorem L_X12_parse_j68 {G : xG} {π : Nat → Nat} {d C Z : Nat} {Q : xQ} (σ : xM) (l0 : Nat) (l2 : Int32) (s0 : Int32) {x : ((Int32 × xM) ⊕ (((Int32 × xM) ⊕ ((Int32 × xM) ⊕ (Nat × Int32 × xM))) ⊕ (Nat × Int32 × Int32 × xM)))} (hf : f_X12_parse_j68 σ l0 l2 s0 = some x) (hR : ∀ g, x = Sum.inl (g) → Q (.inl (some (.int g.1))) (g.2) π) (hE0 : ∀ e : (Int32 × xM), x = Sum.inr (Sum.inl (Sum.inl e)) → xMach G π J_X12_parse (d + 5) C Z 43 [(2, .int e.1)] [] e.2 Q) (hE1 : ∀ e : (Int32 × xM), x = Sum.inr (Sum.inl (Sum.inr (Sum.inl e))) → xMach G π J_X12_parse (d + 5) C Z 124 [(2, .int e.1)] [] e.2 Q) (hE2 : ∀ e : (Nat × Int32 × xM), x = Sum.inr (Sum.inl (Sum.inr (Sum.inr e))) → xMach G π J_X12_parse (d + 5) C Z 175 [(0, .ref e.1), (1, .int e.2.1)] [] e.2.2 Q) (hC : ∀ e : (Nat × Int32 × Int32 × xM), x = Sum.inr (Sum.inr e) → xMach G π J_X12_parse (d + 5) C Z 23 [(0, .ref e.1), (1, .int e.2.1), (2, .int e.2.2.1)] [] e.2.2.2 Q) : xMach G π J_X12_parse (d + 5) C Z 68 [(0, .ref l0), (2, .int l2)] [.int s0] σ Q := by
  unfold f_X12_parse_j68 at hf
  refine xm_istore_n dX12_parse_68 (by decide) (xm_stL (L' := [(3, .int s0), (0, .ref l0), (2, .int l2)]) rfl ?_)
  refine xm_iload_n dX12_parse_69 rfl ?_
  refine xb_if_eq 81 dX12_parse_70 (by decide) hf (fun c hf => ?_) (fun c hf => ?_)
  · refine xm_iload_n dX12_parse_81 rfl ?_
    exact xm_sub [1, 0] rfl (L_X12_parse_j82 σ l0 s0 l2 hf hR hE0 hE1 hE2 hC)
  · refine xm_aload_n dX12_parse_73 rfl ?_
    refine xm_iload_n dX12_parse_74 rfl ?_
    refine xb_if hf (fun hb hf => ?_) (fun _ q => nomatch q)
    obtain ⟨p23, ep23, hf⟩ := xbind hf
    refine xb_callV (As := [.int l2]) (v0 := (some (.int p23))) (τ0 := σ) dX12_parse_75 (xc_X12_nextWord _ _) xcl12 xw_2154 xw_2156 xs_97 hb rfl (Nat.le_of_ble_eq_true rfl) rfl (Nat.le_of_ble_eq_true rfl) (fun Q1 hq => m_X12_nextWord (d := d + 4) ep23 (fun g hg => by subst hg; exact hq)) ?_
    refine xm_goto 82 dX12_parse_78 (by decide) ?_
    exact xm_sub [1, 0] rfl (L_X12_parse_j82 σ l0 s0 p23 hf hR hE0 hE1 hE2 hC)
def f_X12_parse_j67 (σ : xM) (l0 : Nat) (l2 : Int32) : Option ((Int32 × xM) ⊕ (((Int32 × xM) ⊕ ((Int32 × xM) ⊕ (Nat × Int32 × xM))) ⊕ (Nat × Int32 × Int32 × xM))) :=
  f_X12_parse_j68 σ l0 l2 (0 : Int32)
set_option maxHeartbeats 4000000 in
set_option maxRecDepth 20000 in
theorem L_X12_parse_j67 {G : xG} {π : Nat → Nat} {d C Z : Nat} {Q : xQ} (σ : xM) (l0 : Nat) (l2 : Int32) {x : ((Int32 × xM) ⊕ (((Int32 × xM) ⊕ ((Int32 × xM) ⊕ (Nat × Int32 × xM))) ⊕ (Nat × Int32 × Int32 × xM)))} (hf : f_X12_parse_j67 σ l0 l2 = some x) (hR : ∀ g, x = Sum.inl (g) → Q (.inl (some (.int g.1))) (g.2) π) (hE0 : ∀ e : (Int32 × xM), x = Sum.inr (Sum.inl (Sum.inl e)) → xMach G π J_X12_parse (d + 5) C Z 43 [(2, .int e.1)] [] e.2 Q) (hE1 : ∀ e : (Int32 × xM), x = Sum.inr (Sum.inl (Sum.inr (Sum.inl e))) → xMach G π J_X12_parse (d + 5) C Z 124 [(2, .int e.1)] [] e.2 Q) (hE2 : ∀ e : (Nat × Int32 × xM), x = Sum.inr (Sum.inl (Sum.inr (Sum.inr e))) → xMach G π J_X12_parse (d + 5) C Z 175 [(0, .ref e.1), (1, .int e.2.1)] [] e.2.2 Q) (hC : ∀ e : (Nat × Int32 × Int32 × xM), x = Sum.inr (Sum.inr e) → xMach G π J_X12_parse (d + 5) C Z 23 [(0, .ref e.1), (1, .int e.2.1), (2, .int e.2.2.1)] [] e.2.2.2 Q) : xMach G π J_X12_parse (d + 5) C Z 67 [(0, .ref l0), (2, .int l2)] [] σ Q := by
  unfold f_X12_parse_j67 at hf
  refine xm_iconst dX12_parse_67 (v := 0) (by decide) ?_
  exact xm_sub [0, 1] rfl (L_X12_parse_j68 σ l0 l2 (0 : Int32) hf hR hE0 hE1 hE2 hC)
def f_X12_parse_s23 (s : (Nat × Int32 × Int32 × xM)) : Option ((Int32 × xM) ⊕ (((Int32 × xM) ⊕ ((Int32 × xM) ⊕ (Nat × Int32 × xM))) ⊕ (Nat × Int32 × Int32 × xM))) :=
  xlet s.1 (fun l0 => xlet s.2.1 (fun l1 => xlet s.2.2.1 (fun l2 => xlet s.2.2.2 (fun σ => (gI σ l0 12 25).bind (fun x6 => (if x6 ≤ l2 then some (Sum.inr (Sum.inl (Sum.inr (Sum.inr (l0, l1, σ))))) else (if l1 = (0 : Int32) then (if xk σ l0 12 = true then (f_X12_operator σ l0 l2).bind (fun p7 => (if p7.1 = (0 : Int32) then some (Sum.inr (Sum.inl (Sum.inr (Sum.inl (l2, p7.2))))) else (gR p7.2 l0 12 20).bind (fun x8 => (aI p7.2 x8 14 l2).bind (fun x9 => (if x9 = (5 : Int32) then f_X12_parse_j160 p7.2 l0 l2 else (gR p7.2 l0 12 20).bind (fun x11 => (aI p7.2 x11 14 l2).bind (fun x12 => (if x12 = (2 : Int32) then (gR p7.2 l0 12 21).bind (fun x13 => (aI p7.2 x13 14 l2).bind (fun x14 => (if xk p7.2 l0 12 = true then (f_X12_rankOf p7.2 l0 x14 (2 : Int32)).bind (fun p15 => (if p15 ≤ (0 : Int32) then f_X12_parse_j164 p7.2 l0 l2 else f_X12_parse_j160 p7.2 l0 l2)) else none))) else f_X12_parse_j164 p7.2 l0 l2)))))))) else none) else (if xk σ l0 12 = true then (f_X12_operand σ l0 l2).bind (fun p16 => (if p16.1 = (0 : Int32) then some (Sum.inr (Sum.inl (Sum.inl (l2, p16.2)))) else (gR p16.2 l0 12 20).bind (fun x17 => (aI p16.2 x17 14 l2).bind (fun x18 => (if x18 = (1 : Int32) then (if xk p16.2 l0 12 = true then (f_X12_opensCall p16.2 l0 l2).bind (fun p24 => (if p24 = (0 : Int32) then f_X12_parse_j67 p16.2 l0 l2 else f_X12_parse_j68 p16.2 l0 l2 (1 : Int32))) else none) else f_X12_parse_j67 p16.2 l0 l2))))) else none))))))))
set_option maxHeartbeats 4000000 in
set_option maxRecDepth 20000 in
theorem L_X12_parse_s23 {G : xG} {π : Nat → Nat} {d C Z : Nat} {Q : xQ} (σ : xM) (l0 : Nat) (l1 : Int32) (l2 : Int32) {x : ((Int32 × xM) ⊕ (((Int32 × xM) ⊕ ((Int32 × xM) ⊕ (Nat × Int32 × xM))) ⊕ (Nat × Int32 × Int32 × xM)))} (hf : f_X12_parse_s23 (l0, l1, l2, σ) = some x) (hR : ∀ g, x = Sum.inl (g) → Q (.inl (some (.int g.1))) (g.2) π) (hE0 : ∀ e : (Int32 × xM), x = Sum.inr (Sum.inl (Sum.inl e)) → xMach G π J_X12_parse (d + 5) C Z 43 [(2, .int e.1)] [] e.2 Q) (hE1 : ∀ e : (Int32 × xM), x = Sum.inr (Sum.inl (Sum.inr (Sum.inl e))) → xMach G π J_X12_parse (d + 5) C Z 124 [(2, .int e.1)] [] e.2 Q) (hE2 : ∀ e : (Nat × Int32 × xM), x = Sum.inr (Sum.inl (Sum.inr (Sum.inr e))) → xMach G π J_X12_parse (d + 5) C Z 175 [(0, .ref e.1), (1, .int e.2.1)] [] e.2.2 Q) (hC : ∀ e : (Nat × Int32 × Int32 × xM), x = Sum.inr (Sum.inr e) → xMach G π J_X12_parse (d + 5) C Z 23 [(0, .ref e.1), (1, .int e.2.1), (2, .int e.2.2.1)] [] e.2.2.2 Q) : xMach G π J_X12_parse (d + 5) C Z 23 [(0, .ref l0), (1, .int l1), (2, .int l2)] [] σ Q := by
  have hf : (gI σ l0 12 25).bind (fun x6 => (if x6 ≤ l2 then some (Sum.inr (Sum.inl (Sum.inr (Sum.inr (l0, l1, σ))))) else (if l1 = (0 : Int32) then (if xk σ l0 12 = true then (f_X12_operator σ l0 l2).bind (fun p7 => (if p7.1 = (0 : Int32) then some (Sum.inr (Sum.inl (Sum.inr (Sum.inl (l2, p7.2))))) else (gR p7.2 l0 12 20).bind (fun x8 => (aI p7.2 x8 14 l2).bind (fun x9 => (if x9 = (5 : Int32) then f_X12_parse_j160 p7.2 l0 l2 else (gR p7.2 l0 12 20).bind (fun x11 => (aI p7.2 x11 14 l2).bind (fun x12 => (if x12 = (2 : Int32) then (gR p7.2 l0 12 21).bind (fun x13 => (aI p7.2 x13 14 l2).bind (fun x14 => (if xk p7.2 l0 12 = true then (f_X12_rankOf p7.2 l0 x14 (2 : Int32)).bind (fun p15 => (if p15 ≤ (0 : Int32) then f_X12_parse_j164 p7.2 l0 l2 else f_X12_parse_j160 p7.2 l0 l2)) else none))) else f_X12_parse_j164 p7.2 l0 l2)))))))) else none) else (if xk σ l0 12 = true then (f_X12_operand σ l0 l2).bind (fun p16 => (if p16.1 = (0 : Int32) then some (Sum.inr (Sum.inl (Sum.inl (l2, p16.2)))) else (gR p16.2 l0 12 20).bind (fun x17 => (aI p16.2 x17 14 l2).bind (fun x18 => (if x18 = (1 : Int32) then (if xk p16.2 l0 12 = true then (f_X12_opensCall p16.2 l0 l2).bind (fun p24 => (if p24 = (0 : Int32) then f_X12_parse_j67 p16.2 l0 l2 else f_X12_parse_j68 p16.2 l0 l2 (1 : Int32))) else none) else f_X12_parse_j67 p16.2 l0 l2))))) else none)))) = some x := hf
  refine xm_iload_n dX12_parse_23 rfl ?_
  refine xm_aload_n dX12_parse_24 rfl ?_
  refine xb_getI (a := l0) (c := 12) (k := 25) dX12_parse_25 xcl12 (by decide) xw_1862 rfl hf (fun x6 ex6 hf => ?_)
  refine xb_icmp_ge 175 dX12_parse_28 (by decide) hf (fun c hf => ?_) (fun c hf => ?_)
  · cases hf
    exact xm_sub [0, 1] rfl (hE2 _ rfl)
  · refine xm_iload_n dX12_parse_31 rfl ?_
    refine xb_if_eq 116 dX12_parse_32 (by decide) hf (fun c hf => ?_) (fun c hf => ?_)
    · refine xm_aload_n dX12_parse_116 rfl ?_
      refine xm_iload_n dX12_parse_117 rfl ?_
      refine xb_if hf (fun hb hf => ?_) (fun _ q => nomatch q)
      obtain ⟨p7, ep7, hf⟩ := xbind hf
      refine xb_callV (As := [.int l2]) (v0 := (some (.int p7.1))) (τ0 := p7.2) dX12_parse_118 (xc_X12_operator _ _) xcl12 xw_2178 xw_2180 xs_103 hb rfl (Nat.le_of_ble_eq_true rfl) rfl (Nat.le_of_ble_eq_true rfl) (fun Q1 hq => m_X12_operator (d := d + 0) ep7 (fun g hg => by subst hg; exact hq)) ?_
      refine xb_if_ne 126 dX12_parse_121 (by decide) hf (fun c hf => ?_) (fun c hf => ?_)
      · refine xm_aload_n dX12_parse_126 rfl ?_
        refine xb_getR (a := l0) (c := 12) (k := 20) dX12_parse_127 xcl12 (by decide) xw_1857 rfl hf (fun x8 ex8 hf => ?_)
        refine xm_iload_n dX12_parse_130 rfl ?_
        refine xb_iald dX12_parse_131 hf (fun x9 ex9 hf => ?_)
        refine xm_iconst dX12_parse_132 (v := 5) (by decide) ?_
        refine xb_icmp_eq 160 dX12_parse_133 (by decide) hf (fun c hf => ?_) (fun c hf => ?_)
        · exact xm_sub [0, 2] rfl (L_X12_parse_j160 p7.2 l0 l2 hf hR hE0 hE1 hE2 hC)
        · refine xm_aload_n dX12_parse_136 rfl ?_
          refine xb_getR (a := l0) (c := 12) (k := 20) dX12_parse_137 xcl12 (by decide) xw_1857 rfl hf (fun x11 ex11 hf => ?_)
          refine xm_iload_n dX12_parse_140 rfl ?_
          refine xb_iald dX12_parse_141 hf (fun x12 ex12 hf => ?_)
          refine xm_iconst dX12_parse_142 (v := 2) (by decide) ?_
          refine xb_icmp_ne 164 dX12_parse_143 (by decide) hf (fun c hf => ?_) (fun c hf => ?_)
          · exact xm_sub [0, 2] rfl (L_X12_parse_j164 p7.2 l0 l2 hf hR hE0 hE1 hE2 hC)
          · refine xm_aload_n dX12_parse_146 rfl ?_
            refine xm_aload_n dX12_parse_147 rfl ?_
            refine xb_getR (a := l0) (c := 12) (k := 21) dX12_parse_148 xcl12 (by decide) xw_1858 rfl hf (fun x13 ex13 hf => ?_)
            refine xm_iload_n dX12_parse_151 rfl ?_
            refine xb_iald dX12_parse_152 hf (fun x14 ex14 hf => ?_)
            refine xm_iconst dX12_parse_153 (v := 2) (by decide) ?_
            refine xb_if hf (fun hb hf => ?_) (fun _ q => nomatch q)
            obtain ⟨p15, ep15, hf⟩ := xbind hf
            refine xb_callV (As := [.int x14, .int (2 : Int32)]) (v0 := (some (.int p15))) (τ0 := p7.2) dX12_parse_154 (xc_X12_rankOf _ _) xcl12 xw_2170 xw_2172 xs_101 hb rfl (Nat.le_of_ble_eq_true rfl) rfl (Nat.le_of_ble_eq_true rfl) (fun Q1 hq => m_X12_rankOf (d := d + 3) ep15 (fun g hg => by subst hg; exact hq)) ?_
            refine xb_if_le 164 dX12_parse_157 (by decide) hf (fun c hf => ?_) (fun c hf => ?_)
            · exact xm_sub [0, 2] rfl (L_X12_parse_j164 p7.2 l0 l2 hf hR hE0 hE1 hE2 hC)
            · exact xm_sub [0, 2] rfl (L_X12_parse_j160 p7.2 l0 l2 hf hR hE0 hE1 hE2 hC)
      · cases hf
        exact xm_sub [2] rfl (hE1 _ rfl)
    · refine xm_aload_n dX12_parse_35 rfl ?_
      refine xm_iload_n dX12_parse_36 rfl ?_
      refine xb_if hf (fun hb hf => ?_) (fun _ q => nomatch q)
      obtain ⟨p16, ep16, hf⟩ := xbind hf
      refine xb_callV (As := [.int l2]) (v0 := (some (.int p16.1))) (τ0 := p16.2) dX12_parse_37 (xc_X12_operand _ _) xcl12 xw_2158 xw_2160 xs_98 hb rfl (Nat.le_of_ble_eq_true rfl) rfl (Nat.le_of_ble_eq_true rfl) (fun Q1 hq => m_X12_operand (d := d + 2) ep16 (fun g hg => by subst hg; exact hq)) ?_
      refine xb_if_ne 45 dX12_parse_40 (by decide) hf (fun c hf => ?_) (fun c hf => ?_)
      · refine xm_aload_n dX12_parse_45 rfl ?_
        refine xb_getR (a := l0) (c := 12) (k := 20) dX12_parse_46 xcl12 (by decide) xw_1857 rfl hf (fun x17 ex17 hf => ?_)
        refine xm_iload_n dX12_parse_49 rfl ?_
        refine xb_iald dX12_parse_50 hf (fun x18 ex18 hf => ?_)
        refine xm_iconst dX12_parse_51 (v := 1) (by decide) ?_
        refine xb_icmp_ne 67 dX12_parse_52 (by decide) hf (fun c hf => ?_) (fun c hf => ?_)
        · exact xm_sub [0, 2] rfl (L_X12_parse_j67 p16.2 l0 l2 hf hR hE0 hE1 hE2 hC)
        · refine xm_aload_n dX12_parse_55 rfl ?_
          refine xm_iload_n dX12_parse_56 rfl ?_
          refine xb_if hf (fun hb hf => ?_) (fun _ q => nomatch q)
          obtain ⟨p24, ep24, hf⟩ := xbind hf
          refine xb_callV (As := [.int l2]) (v0 := (some (.int p24))) (τ0 := p16.2) dX12_parse_57 (xc_X12_opensCall _ _) xcl12 xw_2174 xw_2176 xs_102 hb rfl (Nat.le_of_ble_eq_true rfl) rfl (Nat.le_of_ble_eq_true rfl) (fun Q1 hq => m_X12_opensCall (d := d + 3) ep24 (fun g hg => by subst hg; exact hq)) ?_
          refine xb_if_eq 67 dX12_parse_60 (by decide) hf (fun c hf => ?_) (fun c hf => ?_)
          · exact xm_sub [0, 2] rfl (L_X12_parse_j67 p16.2 l0 l2 hf hR hE0 hE1 hE2 hC)
          · refine xm_iconst dX12_parse_63 (v := 1) (by decide) ?_
            refine xm_goto 68 dX12_parse_64 (by decide) ?_
            exact xm_sub [0, 2] rfl (L_X12_parse_j68 p16.2 l0 l2 (1 : Int32) hf hR hE0 hE1 hE2 hC)
      · cases hf
        exact xm_sub [2] rfl (hE0 _ rfl)
theorem L_X12_parse_l23 {G : xG} {π : Nat → Nat} {d C Z : Nat} {Q : xQ} {s0 : (Nat × Int32 × Int32 × xM)} {x : ((Int32 × xM) ⊕ ((Int32 × xM) ⊕ ((Int32 × xM) ⊕ (Nat × Int32 × xM))))} (h1 : xloop (f_X12_parse_s23) xF s0 = some x) (hR : ∀ g, x = Sum.inl g → Q (.inl (some (.int g.1))) (g.2) π) (hE0 : ∀ e : (Int32 × xM), x = Sum.inr (Sum.inl e) → xMach G π J_X12_parse (d + 5) C Z 43 [(2, .int e.1)] [] e.2 Q) (hE1 : ∀ e : (Int32 × xM), x = Sum.inr (Sum.inr (Sum.inl e)) → xMach G π J_X12_parse (d + 5) C Z 124 [(2, .int e.1)] [] e.2 Q) (hE2 : ∀ e : (Nat × Int32 × xM), x = Sum.inr (Sum.inr (Sum.inr e)) → xMach G π J_X12_parse (d + 5) C Z 175 [(0, .ref e.1), (1, .int e.2.1)] [] e.2.2 Q) : xMach G π J_X12_parse (d + 5) C Z 23 [(0, .ref s0.1), (1, .int s0.2.1), (2, .int s0.2.2.1)] [] s0.2.2.2 Q := by
  refine xloop_run (M := (fun s : (Nat × Int32 × Int32 × xM) => xMach G π J_X12_parse (d + 5) C Z 23 [(0, .ref s.1), (1, .int s.2.1), (2, .int s.2.2.1)] [] s.2.2.2 Q)) (r := x) ?_ xF _ h1
  intro s y hs hx
  exact L_X12_parse_s23 s.2.2.2 s.1 s.2.1 s.2.2.1 (x := y) hs (fun g hg => by subst hg; exact hR g hx) (fun e he => by subst he; exact hE0 e hx) (fun e he => by subst he; exact hE1 e hx) (fun e he => by subst he; exact hE2 e hx) (fun e he => by subst he; exact hx)
def f_X12_parse_j43 (σ : xM) (l2 : Int32) : Option (Int32 × xM) :=
  some (l2, σ)
set_option maxHeartbeats 4000000 in
set_option maxRecDepth 20000 in
theorem L_X12_parse_j43 {G : xG} {π : Nat → Nat} {d C Z : Nat} {Q : xQ} (σ : xM) (l2 : Int32) {x : (Int32 × xM)} (hf : f_X12_parse_j43 σ l2 = some x) (hR : ∀ g, x = g → Q (.inl (some (.int g.1))) (g.2) π) : xMach G π J_X12_parse (d + 5) C Z 43 [(2, .int l2)] [] σ Q := by
  unfold f_X12_parse_j43 at hf
  refine xm_iload_n dX12_parse_43 rfl ?_
  cases hf
  exact xm_iret dX12_parse_44 rfl (hR _ rfl)
def f_X12_parse_j124 (σ : xM) (l2 : Int32) : Option (Int32 × xM) :=
  some (l2, σ)
set_option maxHeartbeats 4000000 in
set_option maxRecDepth 20000 in
theorem L_X12_parse_j124 {G : xG} {π : Nat → Nat} {d C Z : Nat} {Q : xQ} (σ : xM) (l2 : Int32) {x : (Int32 × xM)} (hf : f_X12_parse_j124 σ l2 = some x) (hR : ∀ g, x = g → Q (.inl (some (.int g.1))) (g.2) π) : xMach G π J_X12_parse (d + 5) C Z 124 [(2, .int l2)] [] σ Q := by
  unfold f_X12_parse_j124 at hf
  refine xm_iload_n dX12_parse_124 rfl ?_
  cases hf
  exact xm_iret dX12_parse_125 rfl (hR _ rfl)
def f_X12_parse_j204 (σ : xM) (s0 : Int32) : Option (Int32 × xM) :=
  some (s0, σ)
set_option maxHeartbeats 4000000 in
set_option maxRecDepth 20000 in
theorem L_X12_parse_j204 {G : xG} {π : Nat → Nat} {d C Z : Nat} {Q : xQ} (σ : xM) (s0 : Int32) {x : (Int32 × xM)} (hf : f_X12_parse_j204 σ s0 = some x) (hR : ∀ g, x = g → Q (.inl (some (.int g.1))) (g.2) π) : xMach G π J_X12_parse (d + 5) C Z 204 [] [.int s0] σ Q := by
  unfold f_X12_parse_j204 at hf
  cases hf
  exact xm_iret dX12_parse_204 rfl (hR _ rfl)
def f_X12_parse_j175 (σ : xM) (l0 : Nat) (l1 : Int32) : Option (Int32 × xM) :=
  (if l1 = (0 : Int32) then (if xk σ l0 12 = true then (f_X12_reduce σ l0 (0 : Int32)).bind (fun p25 => (gI p25 l0 12 40).bind (fun x26 => (if x26 ≤ (0 : Int32) then f_X12_parse_j204 p25 (-1 : Int32) else (gI p25 l0 12 25).bind (fun x27 => f_X12_parse_j204 p25 x27)))) else none) else (gI σ l0 12 25).bind (fun x28 => some (x28, σ)))
set_option maxHeartbeats 4000000 in
set_option maxRecDepth 20000 in
theorem L_X12_parse_j175 {G : xG} {π : Nat → Nat} {d C Z : Nat} {Q : xQ} (σ : xM) (l0 : Nat) (l1 : Int32) {x : (Int32 × xM)} (hf : f_X12_parse_j175 σ l0 l1 = some x) (hR : ∀ g, x = g → Q (.inl (some (.int g.1))) (g.2) π) : xMach G π J_X12_parse (d + 5) C Z 175 [(0, .ref l0), (1, .int l1)] [] σ Q := by
  unfold f_X12_parse_j175 at hf
  refine xm_iload_n dX12_parse_175 rfl ?_
  refine xb_if_eq 184 dX12_parse_176 (by decide) hf (fun c hf => ?_) (fun c hf => ?_)
  · refine xm_aload_n dX12_parse_184 rfl ?_
    refine xm_iconst dX12_parse_185 (v := 0) (by decide) ?_
    refine xb_if hf (fun hb hf => ?_) (fun _ q => nomatch q)
    obtain ⟨p25, ep25, hf⟩ := xbind hf
    refine xb_callV (As := [.int (0 : Int32)]) (v0 := none) (τ0 := p25) dX12_parse_186 (xc_X12_reduce _ _) xcl12 xw_2186 xw_2188 xs_105 hb rfl (Nat.le_of_ble_eq_true rfl) rfl (Nat.le_of_ble_eq_true rfl) (fun Q1 hq => m_X12_reduce (d := d + 3) ep25 (fun g hg => by subst hg; exact hq)) ?_
    refine xm_aload_n dX12_parse_189 rfl ?_
    refine xb_getI (a := l0) (c := 12) (k := 40) dX12_parse_190 xcl12 (by decide) xw_1877 rfl hf (fun x26 ex26 hf => ?_)
    refine xb_if_le 203 dX12_parse_193 (by decide) hf (fun c hf => ?_) (fun c hf => ?_)
    · refine xm_iconst dX12_parse_203 (v := -1) (by decide) ?_
      exact xm_sub [] rfl (L_X12_parse_j204 p25 (-1 : Int32) hf hR)
    · refine xm_aload_n dX12_parse_196 rfl ?_
      refine xb_getI (a := l0) (c := 12) (k := 25) dX12_parse_197 xcl12 (by decide) xw_1862 rfl hf (fun x27 ex27 hf => ?_)
      refine xm_goto 204 dX12_parse_200 (by decide) ?_
      exact xm_sub [] rfl (L_X12_parse_j204 p25 x27 hf hR)
  · refine xm_aload_n dX12_parse_179 rfl ?_
    refine xb_getI (a := l0) (c := 12) (k := 25) dX12_parse_180 xcl12 (by decide) xw_1862 rfl hf (fun x28 ex28 hf => ?_)
    cases hf
    exact xm_iret dX12_parse_183 rfl (hR _ rfl)
def f_X12_parse (σ : xM) (l0 : Nat) : Option (Int32 × xM) :=
  (sI σ l0 12 33 (0 : Int32)).bind (fun σ1 => (sI σ1 l0 12 36 (0 : Int32)).bind (fun σ2 => (sI σ2 l0 12 40 (0 : Int32)).bind (fun σ3 => xlet (1 : Int32) (fun v4 => (if xk σ3 l0 12 = true then (f_X12_nextWord σ3 l0 (-1 : Int32)).bind (fun p5 => (xloop (f_X12_parse_s23 ) xF (l0, v4, p5, σ3)).bind (Sum.elim (fun g => some g) (Sum.elim (fun e => f_X12_parse_j43 e.2 e.1) (Sum.elim (fun e => f_X12_parse_j124 e.2 e.1) (fun e => f_X12_parse_j175 e.2.2 e.1 e.2.1))))) else none)))))
set_option maxHeartbeats 4000000 in
set_option maxRecDepth 20000 in
theorem m_X12_parse {G : xG} {π : Nat → Nat} {d C Z : Nat} {Q : xQ} {σ : xM} {l0 : Nat} {x : (Int32 × xM)} (hf : f_X12_parse σ l0 = some x) (hR : ∀ g, x = g → Q (.inl (some (.int g.1))) (g.2) π) : xMach G π J_X12_parse (d + 5) C Z 0 (lv_args 0 [.ref l0]) [] σ Q := by
  unfold f_X12_parse at hf
  refine xm_stL (L' := [(0, .ref l0)]) rfl ?_
  refine xm_aload_n dX12_parse_0 rfl ?_
  refine xm_iconst dX12_parse_1 (v := 0) (by decide) ?_
  refine xb_putI (a := l0) (c := 12) (k := 33) dX12_parse_2 xcl12 (by decide) xw_1870 rfl rfl hf (fun σ1 eσ1 hf => ?_)
  refine xm_aload_n dX12_parse_5 rfl ?_
  refine xm_iconst dX12_parse_6 (v := 0) (by decide) ?_
  refine xb_putI (a := l0) (c := 12) (k := 36) dX12_parse_7 xcl12 (by decide) xw_1873 rfl rfl hf (fun σ2 eσ2 hf => ?_)
  refine xm_aload_n dX12_parse_10 rfl ?_
  refine xm_iconst dX12_parse_11 (v := 0) (by decide) ?_
  refine xb_putI (a := l0) (c := 12) (k := 40) dX12_parse_12 xcl12 (by decide) xw_1877 rfl rfl hf (fun σ3 eσ3 hf => ?_)
  refine xm_iconst dX12_parse_15 (v := 1) (by decide) ?_
  refine xb_topi hf (fun v4 ev4 hf => ?_)
  refine xm_istore_n dX12_parse_16 (by decide) (xm_stL (L' := [(1, .int v4), (0, .ref l0)]) rfl ?_)
  refine xm_aload_n dX12_parse_17 rfl ?_
  refine xm_iconst dX12_parse_18 (v := -1) (by decide) ?_
  refine xb_if hf (fun hb hf => ?_) (fun _ q => nomatch q)
  obtain ⟨p5, ep5, hf⟩ := xbind hf
  refine xb_callV (As := [.int (-1 : Int32)]) (v0 := (some (.int p5))) (τ0 := σ3) dX12_parse_19 (xc_X12_nextWord _ _) xcl12 xw_2154 xw_2156 xs_97 hb rfl (Nat.le_of_ble_eq_true rfl) rfl (Nat.le_of_ble_eq_true rfl) (fun Q1 hq => m_X12_nextWord (d := d + 4) ep5 (fun g hg => by subst hg; exact hq)) ?_
  refine xm_istore_n dX12_parse_22 (by decide) (xm_stL (L' := [(2, .int p5), (1, .int v4), (0, .ref l0)]) rfl ?_)
  obtain ⟨o, h1, hf⟩ := xbind hf
  refine xm_sub [2, 1, 0] rfl (L_X12_parse_l23  h1 (fun g hg => ?_) (fun e he => ?_) (fun e he => ?_) (fun e he => ?_))
  · subst hg
    cases hf
    exact hR _ rfl
  · subst he
    rw [Sum.elim_inr, Sum.elim_inl] at hf
    have hf : f_X12_parse_j43 e.2 e.1 = some _ := hf
    exact xm_sub [0] rfl (L_X12_parse_j43 e.2 e.1 hf hR)
  · subst he
    rw [Sum.elim_inr, Sum.elim_inr, Sum.elim_inl] at hf
    have hf : f_X12_parse_j124 e.2 e.1 = some _ := hf
    exact xm_sub [0] rfl (L_X12_parse_j124 e.2 e.1 hf hR)
  · subst he
    rw [Sum.elim_inr, Sum.elim_inr, Sum.elim_inr] at hf
    have hf : f_X12_parse_j175 e.2.2 e.1 e.2.1 = some _ := hf
    exact xm_sub [0, 1] rfl (L_X12_parse_j175 e.2.2 e.1 e.2.1 hf hR)
-- RankwiseModel.lay(I)I
def f_X12_lay_s79 (s : (Nat × Int32 × Int32 × Int32 × Int32 × Int32 × xM)) : Option ((Int32 × xM) ⊕ ((Nat × Int32 × Int32 × xM) ⊕ (Nat × Int32 × Int32 × Int32 × Int32 × Int32 × xM))) :=
  xlet s.1 (fun l0 => xlet s.2.1 (fun l1 => xlet s.2.2.1 (fun l2 => xlet s.2.2.2.1 (fun l4 => xlet s.2.2.2.2.1 (fun l5 => xlet s.2.2.2.2.2.1 (fun l6 => xlet s.2.2.2.2.2.2 (fun σ => (gR σ l0 12 30).bind (fun x22 => (aI σ x22 14 l2).bind (fun x23 => (if x23 ≤ l6 then some (Sum.inr (Sum.inl (l0, l1, l2, σ))) else (gR σ l0 12 31).bind (fun x24 => (aI σ x24 14 l4).bind (fun x25 => xlet (l5 - x25) (fun v26 => (gR σ l0 12 32).bind (fun x27 => (wI σ x27 l4 v26).bind (fun σ28 => (gR σ28 l0 12 31).bind (fun x29 => (aI σ28 x29 14 l4).bind (fun x30 => xlet (l4 - x30) (fun v31 => xlet (l6 + (1 : Int32)) (fun v32 => some (Sum.inr (Sum.inr (l0, l1, l2, v31, v26, v32, σ28))))))))))))))))))))))
set_option maxHeartbeats 4000000 in
set_option maxRecDepth 20000 in
theorem L_X12_lay_s79 {G : xG} {π : Nat → Nat} {d C Z : Nat} {Q : xQ} (σ : xM) (l0 : Nat) (l1 : Int32) (l2 : Int32) (l4 : Int32) (l5 : Int32) (l6 : Int32) {x : ((Int32 × xM) ⊕ ((Nat × Int32 × Int32 × xM) ⊕ (Nat × Int32 × Int32 × Int32 × Int32 × Int32 × xM)))} (hf : f_X12_lay_s79 (l0, l1, l2, l4, l5, l6, σ) = some x) (hR : ∀ g, x = Sum.inl (g) → Q (.inl (some (.int g.1))) (g.2) π) (hE : ∀ e : (Nat × Int32 × Int32 × xM), x = Sum.inr (Sum.inl e) → xMach G π J_X12_lay (d + 1) C Z 129 [(0, .ref e.1), (1, .int e.2.1), (2, .int e.2.2.1)] [] e.2.2.2 Q) (hC : ∀ e : (Nat × Int32 × Int32 × Int32 × Int32 × Int32 × xM), x = Sum.inr (Sum.inr e) → xMach G π J_X12_lay (d + 1) C Z 79 [(0, .ref e.1), (1, .int e.2.1), (2, .int e.2.2.1), (4, .int e.2.2.2.1), (5, .int e.2.2.2.2.1), (6, .int e.2.2.2.2.2.1)] [] e.2.2.2.2.2.2 Q) : xMach G π J_X12_lay (d + 1) C Z 79 [(0, .ref l0), (1, .int l1), (2, .int l2), (4, .int l4), (5, .int l5), (6, .int l6)] [] σ Q := by
  have hf : (gR σ l0 12 30).bind (fun x22 => (aI σ x22 14 l2).bind (fun x23 => (if x23 ≤ l6 then some (Sum.inr (Sum.inl (l0, l1, l2, σ))) else (gR σ l0 12 31).bind (fun x24 => (aI σ x24 14 l4).bind (fun x25 => xlet (l5 - x25) (fun v26 => (gR σ l0 12 32).bind (fun x27 => (wI σ x27 l4 v26).bind (fun σ28 => (gR σ28 l0 12 31).bind (fun x29 => (aI σ28 x29 14 l4).bind (fun x30 => xlet (l4 - x30) (fun v31 => xlet (l6 + (1 : Int32)) (fun v32 => some (Sum.inr (Sum.inr (l0, l1, l2, v31, v26, v32, σ28))))))))))))))) = some x := hf
  refine xm_iload dX12_lay_79 rfl ?_
  refine xm_aload_n dX12_lay_81 rfl ?_
  refine xb_getR (a := l0) (c := 12) (k := 30) dX12_lay_82 xcl12 (by decide) xw_1867 rfl hf (fun x22 ex22 hf => ?_)
  refine xm_iload_n dX12_lay_85 rfl ?_
  refine xb_iald dX12_lay_86 hf (fun x23 ex23 hf => ?_)
  refine xb_icmp_ge 129 dX12_lay_87 (by decide) hf (fun c hf => ?_) (fun c hf => ?_)
  · cases hf
    exact xm_sub [0, 1, 2] rfl (hE _ rfl)
  · refine xm_iload dX12_lay_90 rfl ?_
    refine xm_aload_n dX12_lay_92 rfl ?_
    refine xb_getR (a := l0) (c := 12) (k := 31) dX12_lay_93 xcl12 (by decide) xw_1868 rfl hf (fun x24 ex24 hf => ?_)
    refine xm_iload dX12_lay_96 rfl ?_
    refine xb_iald dX12_lay_98 hf (fun x25 ex25 hf => ?_)
    refine xm_isub dX12_lay_99 ?_
    refine xb_topi hf (fun v26 ev26 hf => ?_)
    refine xm_istore dX12_lay_100 (by decide) (xm_stL (L' := [(5, .int v26), (0, .ref l0), (1, .int l1), (2, .int l2), (4, .int l4), (6, .int l6)]) rfl ?_)
    refine xm_aload_n dX12_lay_102 rfl ?_
    refine xb_getR (a := l0) (c := 12) (k := 32) dX12_lay_103 xcl12 (by decide) xw_1869 rfl hf (fun x27 ex27 hf => ?_)
    refine xm_iload dX12_lay_106 rfl ?_
    refine xm_iload dX12_lay_108 rfl ?_
    refine xb_iast dX12_lay_110 hf (fun σ28 eσ28 hf => ?_)
    refine xm_iload dX12_lay_111 rfl ?_
    refine xm_aload_n dX12_lay_113 rfl ?_
    refine xb_getR (a := l0) (c := 12) (k := 31) dX12_lay_114 xcl12 (by decide) xw_1868 rfl hf (fun x29 ex29 hf => ?_)
    refine xm_iload dX12_lay_117 rfl ?_
    refine xb_iald dX12_lay_119 hf (fun x30 ex30 hf => ?_)
    refine xm_isub dX12_lay_120 ?_
    refine xb_topi hf (fun v31 ev31 hf => ?_)
    refine xm_istore dX12_lay_121 (by decide) (xm_stL (L' := [(4, .int v31), (5, .int v26), (0, .ref l0), (1, .int l1), (2, .int l2), (6, .int l6)]) rfl ?_)
    refine xb_iinc dX12_lay_123 rfl (by decide) (by decide) hf (fun v32 ev32 hf => xm_stL (L' := [(6, .int v32), (4, .int v31), (5, .int v26), (0, .ref l0), (1, .int l1), (2, .int l2)]) rfl ?_)
    refine xm_goto 79 dX12_lay_126 (by decide) ?_
    cases hf
    exact xm_sub [3, 4, 5, 1, 2, 0] rfl (hC _ rfl)
theorem L_X12_lay_l79 {G : xG} {π : Nat → Nat} {d C Z : Nat} {Q : xQ} {s0 : (Nat × Int32 × Int32 × Int32 × Int32 × Int32 × xM)} {x : ((Int32 × xM) ⊕ (Nat × Int32 × Int32 × xM))} (h1 : xloop (f_X12_lay_s79) xF s0 = some x) (hR : ∀ g, x = Sum.inl g → Q (.inl (some (.int g.1))) (g.2) π) (hE : ∀ e : (Nat × Int32 × Int32 × xM), x = Sum.inr e → xMach G π J_X12_lay (d + 1) C Z 129 [(0, .ref e.1), (1, .int e.2.1), (2, .int e.2.2.1)] [] e.2.2.2 Q) : xMach G π J_X12_lay (d + 1) C Z 79 [(0, .ref s0.1), (1, .int s0.2.1), (2, .int s0.2.2.1), (4, .int s0.2.2.2.1), (5, .int s0.2.2.2.2.1), (6, .int s0.2.2.2.2.2.1)] [] s0.2.2.2.2.2.2 Q := by
  refine xloop_run (M := (fun s : (Nat × Int32 × Int32 × Int32 × Int32 × Int32 × xM) => xMach G π J_X12_lay (d + 1) C Z 79 [(0, .ref s.1), (1, .int s.2.1), (2, .int s.2.2.1), (4, .int s.2.2.2.1), (5, .int s.2.2.2.2.1), (6, .int s.2.2.2.2.2.1)] [] s.2.2.2.2.2.2 Q)) (r := x) ?_ xF _ h1
  intro s y hs hx
  exact L_X12_lay_s79 s.2.2.2.2.2.2 s.1 s.2.1 s.2.2.1 s.2.2.2.1 s.2.2.2.2.1 s.2.2.2.2.2.1 (x := y) hs (fun g hg => by subst hg; exact hR g hx) (fun e he => by subst he; exact hE e hx) (fun e he => by subst he; exact hx)
def f_X12_lay_j129 (σ : xM) (l0 : Nat) (l1 : Int32) (l2 : Int32) : Option ((Int32 × xM) ⊕ ((Nat × Int32 × xM) ⊕ (Nat × Int32 × Int32 × xM))) :=
  xlet (l2 + (-1 : Int32)) (fun v33 => some (Sum.inr (Sum.inr (l0, l1, v33, σ))))
set_option maxHeartbeats 4000000 in
set_option maxRecDepth 20000 in
theorem L_X12_lay_j129 {G : xG} {π : Nat → Nat} {d C Z : Nat} {Q : xQ} (σ : xM) (l0 : Nat) (l1 : Int32) (l2 : Int32) {x : ((Int32 × xM) ⊕ ((Nat × Int32 × xM) ⊕ (Nat × Int32 × Int32 × xM)))} (hf : f_X12_lay_j129 σ l0 l1 l2 = some x) (hR : ∀ g, x = Sum.inl (g) → Q (.inl (some (.int g.1))) (g.2) π) (hE : ∀ e : (Nat × Int32 × xM), x = Sum.inr (Sum.inl e) → xMach G π J_X12_lay (d + 1) C Z 135 [(0, .ref e.1), (1, .int e.2.1)] [] e.2.2 Q) (hC : ∀ e : (Nat × Int32 × Int32 × xM), x = Sum.inr (Sum.inr e) → xMach G π J_X12_lay (d + 1) C Z 19 [(0, .ref e.1), (1, .int e.2.1), (2, .int e.2.2.1)] [] e.2.2.2 Q) : xMach G π J_X12_lay (d + 1) C Z 129 [(0, .ref l0), (1, .int l1), (2, .int l2)] [] σ Q := by
  unfold f_X12_lay_j129 at hf
  refine xb_iinc dX12_lay_129 rfl (by decide) (by decide) hf (fun v33 ev33 hf => xm_stL (L' := [(2, .int v33), (0, .ref l0), (1, .int l1)]) rfl ?_)
  refine xm_goto 19 dX12_lay_132 (by decide) ?_
  cases hf
  exact xm_sub [1, 2, 0] rfl (hC _ rfl)
def f_X12_lay_s19 (s : (Nat × Int32 × Int32 × xM)) : Option ((Int32 × xM) ⊕ ((Nat × Int32 × xM) ⊕ (Nat × Int32 × Int32 × xM))) :=
  xlet s.1 (fun l0 => xlet s.2.1 (fun l1 => xlet s.2.2.1 (fun l2 => xlet s.2.2.2 (fun σ => (if l2 < (0 : Int32) then some (Sum.inr (Sum.inl (l0, l1, σ))) else (gR σ l0 12 32).bind (fun x6 => (aI σ x6 14 l2).bind (fun x7 => (gR σ l0 12 27).bind (fun x8 => (aI σ x8 14 l2).bind (fun x9 => (gR σ l0 12 28).bind (fun x10 => (aI σ x10 14 l2).bind (fun x11 => (gR σ l0 12 29).bind (fun x12 => (aI σ x12 14 l2).bind (fun x13 => (gR σ l0 12 30).bind (fun x14 => (aI σ x14 14 l2).bind (fun x15 => (if xk σ l0 12 = true then (f_X12_node σ l0 (l1 + x7) x9 x11 x13 x15).bind (fun p16 => xlet (l2 - (1 : Int32)) (fun v17 => (gR p16 l0 12 31).bind (fun x18 => (aI p16 x18 14 l2).bind (fun x19 => xlet (x7 + x19) (fun v20 => xlet (0 : Int32) (fun v21 => (xloop (f_X12_lay_s79 ) xF (l0, l1, l2, v17, v20, v21, p16)).bind (Sum.elim (fun g => some (Sum.inl g)) (fun e => f_X12_lay_j129 e.2.2.2 e.1 e.2.1 e.2.2.1)))))))) else none))))))))))))))))
set_option maxHeartbeats 4000000 in
set_option maxRecDepth 20000 in
theorem L_X12_lay_s19 {G : xG} {π : Nat → Nat} {d C Z : Nat} {Q : xQ} (σ : xM) (l0 : Nat) (l1 : Int32) (l2 : Int32) {x : ((Int32 × xM) ⊕ ((Nat × Int32 × xM) ⊕ (Nat × Int32 × Int32 × xM)))} (hf : f_X12_lay_s19 (l0, l1, l2, σ) = some x) (hR : ∀ g, x = Sum.inl (g) → Q (.inl (some (.int g.1))) (g.2) π) (hE : ∀ e : (Nat × Int32 × xM), x = Sum.inr (Sum.inl e) → xMach G π J_X12_lay (d + 1) C Z 135 [(0, .ref e.1), (1, .int e.2.1)] [] e.2.2 Q) (hC : ∀ e : (Nat × Int32 × Int32 × xM), x = Sum.inr (Sum.inr e) → xMach G π J_X12_lay (d + 1) C Z 19 [(0, .ref e.1), (1, .int e.2.1), (2, .int e.2.2.1)] [] e.2.2.2 Q) : xMach G π J_X12_lay (d + 1) C Z 19 [(0, .ref l0), (1, .int l1), (2, .int l2)] [] σ Q := by
  have hf : (if l2 < (0 : Int32) then some (Sum.inr (Sum.inl (l0, l1, σ))) else (gR σ l0 12 32).bind (fun x6 => (aI σ x6 14 l2).bind (fun x7 => (gR σ l0 12 27).bind (fun x8 => (aI σ x8 14 l2).bind (fun x9 => (gR σ l0 12 28).bind (fun x10 => (aI σ x10 14 l2).bind (fun x11 => (gR σ l0 12 29).bind (fun x12 => (aI σ x12 14 l2).bind (fun x13 => (gR σ l0 12 30).bind (fun x14 => (aI σ x14 14 l2).bind (fun x15 => (if xk σ l0 12 = true then (f_X12_node σ l0 (l1 + x7) x9 x11 x13 x15).bind (fun p16 => xlet (l2 - (1 : Int32)) (fun v17 => (gR p16 l0 12 31).bind (fun x18 => (aI p16 x18 14 l2).bind (fun x19 => xlet (x7 + x19) (fun v20 => xlet (0 : Int32) (fun v21 => (xloop (f_X12_lay_s79 ) xF (l0, l1, l2, v17, v20, v21, p16)).bind (Sum.elim (fun g => some (Sum.inl g)) (fun e => f_X12_lay_j129 e.2.2.2 e.1 e.2.1 e.2.2.1)))))))) else none)))))))))))) = some x := hf
  refine xm_iload_n dX12_lay_19 rfl ?_
  refine xb_if_lt 135 dX12_lay_20 (by decide) hf (fun c hf => ?_) (fun c hf => ?_)
  · cases hf
    exact xm_sub [0, 1] rfl (hE _ rfl)
  · refine xm_aload_n dX12_lay_23 rfl ?_
    refine xb_getR (a := l0) (c := 12) (k := 32) dX12_lay_24 xcl12 (by decide) xw_1869 rfl hf (fun x6 ex6 hf => ?_)
    refine xm_iload_n dX12_lay_27 rfl ?_
    refine xb_iald dX12_lay_28 hf (fun x7 ex7 hf => ?_)
    refine xm_istore_n dX12_lay_29 (by decide) (xm_stL (L' := [(3, .int x7), (0, .ref l0), (1, .int l1), (2, .int l2)]) rfl ?_)
    refine xm_aload_n dX12_lay_30 rfl ?_
    refine xm_iload_n dX12_lay_31 rfl ?_
    refine xm_iload_n dX12_lay_32 rfl ?_
    refine xm_iadd dX12_lay_33 ?_
    refine xm_aload_n dX12_lay_34 rfl ?_
    refine xb_getR (a := l0) (c := 12) (k := 27) dX12_lay_35 xcl12 (by decide) xw_1864 rfl hf (fun x8 ex8 hf => ?_)
    refine xm_iload_n dX12_lay_38 rfl ?_
    refine xb_iald dX12_lay_39 hf (fun x9 ex9 hf => ?_)
    refine xm_aload_n dX12_lay_40 rfl ?_
    refine xb_getR (a := l0) (c := 12) (k := 28) dX12_lay_41 xcl12 (by decide) xw_1865 rfl hf (fun x10 ex10 hf => ?_)
    refine xm_iload_n dX12_lay_44 rfl ?_
    refine xb_iald dX12_lay_45 hf (fun x11 ex11 hf => ?_)
    refine xm_aload_n dX12_lay_46 rfl ?_
    refine xb_getR (a := l0) (c := 12) (k := 29) dX12_lay_47 xcl12 (by decide) xw_1866 rfl hf (fun x12 ex12 hf => ?_)
    refine xm_iload_n dX12_lay_50 rfl ?_
    refine xb_iald dX12_lay_51 hf (fun x13 ex13 hf => ?_)
    refine xm_aload_n dX12_lay_52 rfl ?_
    refine xb_getR (a := l0) (c := 12) (k := 30) dX12_lay_53 xcl12 (by decide) xw_1867 rfl hf (fun x14 ex14 hf => ?_)
    refine xm_iload_n dX12_lay_56 rfl ?_
    refine xb_iald dX12_lay_57 hf (fun x15 ex15 hf => ?_)
    refine xb_if hf (fun hb hf => ?_) (fun _ q => nomatch q)
    obtain ⟨p16, ep16, hf⟩ := xbind hf
    refine xb_callV (As := [.int (l1 + x7), .int x9, .int x11, .int x13, .int x15]) (v0 := none) (τ0 := p16) dX12_lay_58 (xc_X12_node _ _) xcl12 xw_2202 xw_2204 xs_108 hb rfl (Nat.le_of_ble_eq_true rfl) rfl (Nat.le_of_ble_eq_true rfl) (fun Q1 hq => m_X12_node (d := d + 0) ep16 (fun g hg => by subst hg; exact hq)) ?_
    refine xm_iload_n dX12_lay_61 rfl ?_
    refine xm_iconst dX12_lay_62 (v := 1) (by decide) ?_
    refine xm_isub dX12_lay_63 ?_
    refine xb_topi hf (fun v17 ev17 hf => ?_)
    refine xm_istore dX12_lay_64 (by decide) (xm_stL (L' := [(4, .int v17), (3, .int x7), (0, .ref l0), (1, .int l1), (2, .int l2)]) rfl ?_)
    refine xm_iload_n dX12_lay_66 rfl ?_
    refine xm_aload_n dX12_lay_67 rfl ?_
    refine xb_getR (a := l0) (c := 12) (k := 31) dX12_lay_68 xcl12 (by decide) xw_1868 rfl hf (fun x18 ex18 hf => ?_)
    refine xm_iload_n dX12_lay_71 rfl ?_
    refine xb_iald dX12_lay_72 hf (fun x19 ex19 hf => ?_)
    refine xm_iadd dX12_lay_73 ?_
    refine xb_topi hf (fun v20 ev20 hf => ?_)
    refine xm_istore dX12_lay_74 (by decide) (xm_stL (L' := [(5, .int v20), (4, .int v17), (3, .int x7), (0, .ref l0), (1, .int l1), (2, .int l2)]) rfl ?_)
    refine xm_iconst dX12_lay_76 (v := 0) (by decide) ?_
    refine xb_topi hf (fun v21 ev21 hf => ?_)
    refine xm_istore dX12_lay_77 (by decide) (xm_stL (L' := [(6, .int v21), (5, .int v20), (4, .int v17), (3, .int x7), (0, .ref l0), (1, .int l1), (2, .int l2)]) rfl ?_)
    obtain ⟨o, h1, hf⟩ := xbind hf
    refine xm_sub [4, 5, 6, 2, 1, 0] rfl (L_X12_lay_l79  h1 (fun g hg => ?_) (fun e he => ?_))
    · subst hg
      cases hf
      exact hR _ rfl
    · subst he
      rw [Sum.elim_inr] at hf
      have hf : f_X12_lay_j129 e.2.2.2 e.1 e.2.1 e.2.2.1 = some _ := hf
      exact xm_sub [0, 1, 2] rfl (L_X12_lay_j129 e.2.2.2 e.1 e.2.1 e.2.2.1 hf hR hE hC)
theorem L_X12_lay_l19 {G : xG} {π : Nat → Nat} {d C Z : Nat} {Q : xQ} {s0 : (Nat × Int32 × Int32 × xM)} {x : ((Int32 × xM) ⊕ (Nat × Int32 × xM))} (h1 : xloop (f_X12_lay_s19) xF s0 = some x) (hR : ∀ g, x = Sum.inl g → Q (.inl (some (.int g.1))) (g.2) π) (hE : ∀ e : (Nat × Int32 × xM), x = Sum.inr e → xMach G π J_X12_lay (d + 1) C Z 135 [(0, .ref e.1), (1, .int e.2.1)] [] e.2.2 Q) : xMach G π J_X12_lay (d + 1) C Z 19 [(0, .ref s0.1), (1, .int s0.2.1), (2, .int s0.2.2.1)] [] s0.2.2.2 Q := by
  refine xloop_run (M := (fun s : (Nat × Int32 × Int32 × xM) => xMach G π J_X12_lay (d + 1) C Z 19 [(0, .ref s.1), (1, .int s.2.1), (2, .int s.2.2.1)] [] s.2.2.2 Q)) (r := x) ?_ xF _ h1
  intro s y hs hx
  exact L_X12_lay_s19 s.2.2.2 s.1 s.2.1 s.2.2.1 (x := y) hs (fun g hg => by subst hg; exact hR g hx) (fun e he => by subst he; exact hE e hx) (fun e he => by subst he; exact hx)
def f_X12_lay_j135 (σ : xM) (l0 : Nat) (l1 : Int32) : Option (Int32 × xM) :=
  (gI σ l0 12 33).bind (fun x34 => (if xk σ l0 12 = true then (f_X12_span σ l0 l1 x34).bind (fun p35 => (gI p35 l0 12 33).bind (fun x36 => some (x36, p35))) else none))
set_option maxHeartbeats 4000000 in
set_option maxRecDepth 20000 in
theorem L_X12_lay_j135 {G : xG} {π : Nat → Nat} {d C Z : Nat} {Q : xQ} (σ : xM) (l0 : Nat) (l1 : Int32) {x : (Int32 × xM)} (hf : f_X12_lay_j135 σ l0 l1 = some x) (hR : ∀ g, x = g → Q (.inl (some (.int g.1))) (g.2) π) : xMach G π J_X12_lay (d + 1) C Z 135 [(0, .ref l0), (1, .int l1)] [] σ Q := by
  unfold f_X12_lay_j135 at hf
  refine xm_aload_n dX12_lay_135 rfl ?_
  refine xm_iload_n dX12_lay_136 rfl ?_
  refine xm_aload_n dX12_lay_137 rfl ?_
  refine xb_getI (a := l0) (c := 12) (k := 33) dX12_lay_138 xcl12 (by decide) xw_1870 rfl hf (fun x34 ex34 hf => ?_)
  refine xb_if hf (fun hb hf => ?_) (fun _ q => nomatch q)
  obtain ⟨p35, ep35, hf⟩ := xbind hf
  refine xb_callV (As := [.int l1, .int x34]) (v0 := none) (τ0 := p35) dX12_lay_141 (xc_X12_span _ _) xcl12 xw_2206 xw_2208 xs_109 hb rfl (Nat.le_of_ble_eq_true rfl) rfl (Nat.le_of_ble_eq_true rfl) (fun Q1 hq => m_X12_span (d := d + 0) ep35 (fun g hg => by subst hg; exact hq)) ?_
  refine xm_aload_n dX12_lay_144 rfl ?_
  refine xb_getI (a := l0) (c := 12) (k := 33) dX12_lay_145 xcl12 (by decide) xw_1870 rfl hf (fun x36 ex36 hf => ?_)
  cases hf
  exact xm_iret dX12_lay_148 rfl (hR _ rfl)
def f_X12_lay (σ : xM) (l0 : Nat) (l1 : Int32) : Option (Int32 × xM) :=
  (gR σ l0 12 32).bind (fun x1 => (gI σ l0 12 33).bind (fun x2 => (wI σ x1 (x2 - (1 : Int32)) (0 : Int32)).bind (fun σ3 => (gI σ3 l0 12 33).bind (fun x4 => xlet (x4 - (1 : Int32)) (fun v5 => (xloop (f_X12_lay_s19 ) xF (l0, l1, v5, σ3)).bind (Sum.elim (fun g => some g) (fun e => f_X12_lay_j135 e.2.2 e.1 e.2.1)))))))
set_option maxHeartbeats 4000000 in
set_option maxRecDepth 20000 in
theorem m_X12_lay {G : xG} {π : Nat → Nat} {d C Z : Nat} {Q : xQ} {σ : xM} {l0 : Nat} {l1 : Int32} {x : (Int32 × xM)} (hf : f_X12_lay σ l0 l1 = some x) (hR : ∀ g, x = g → Q (.inl (some (.int g.1))) (g.2) π) : xMach G π J_X12_lay (d + 1) C Z 0 (lv_args 0 [.ref l0, .int l1]) [] σ Q := by
  unfold f_X12_lay at hf
  refine xm_stL (L' := [(0, .ref l0), (1, .int l1)]) rfl ?_
  refine xm_aload_n dX12_lay_0 rfl ?_
  refine xb_getR (a := l0) (c := 12) (k := 32) dX12_lay_1 xcl12 (by decide) xw_1869 rfl hf (fun x1 ex1 hf => ?_)
  refine xm_aload_n dX12_lay_4 rfl ?_
  refine xb_getI (a := l0) (c := 12) (k := 33) dX12_lay_5 xcl12 (by decide) xw_1870 rfl hf (fun x2 ex2 hf => ?_)
  refine xm_iconst dX12_lay_8 (v := 1) (by decide) ?_
  refine xm_isub dX12_lay_9 ?_
  refine xm_iconst dX12_lay_10 (v := 0) (by decide) ?_
  refine xb_iast dX12_lay_11 hf (fun σ3 eσ3 hf => ?_)
  refine xm_aload_n dX12_lay_12 rfl ?_
  refine xb_getI (a := l0) (c := 12) (k := 33) dX12_lay_13 xcl12 (by decide) xw_1870 rfl hf (fun x4 ex4 hf => ?_)
  refine xm_iconst dX12_lay_16 (v := 1) (by decide) ?_
  refine xm_isub dX12_lay_17 ?_
  refine xb_topi hf (fun v5 ev5 hf => ?_)
  refine xm_istore_n dX12_lay_18 (by decide) (xm_stL (L' := [(2, .int v5), (0, .ref l0), (1, .int l1)]) rfl ?_)
  obtain ⟨o, h1, hf⟩ := xbind hf
  refine xm_sub [1, 2, 0] rfl (L_X12_lay_l19  h1 (fun g hg => ?_) (fun e he => ?_))
  · subst hg
    cases hf
    exact hR _ rfl
  · subst he
    rw [Sum.elim_inr] at hf
    have hf : f_X12_lay_j135 e.2.2 e.1 e.2.1 = some _ := hf
    exact xm_sub [0, 1] rfl (L_X12_lay_j135 e.2.2 e.1 e.2.1 hf hR)
-- RankwiseModel.faultOf()I
def f_X12_faultOf_j53 (σ : xM) (s0 : Int32) : Option (Int32 × xM) :=
  some (s0, σ)
set_option maxHeartbeats 4000000 in
set_option maxRecDepth 20000 in
theorem L_X12_faultOf_j53 {G : xG} {π : Nat → Nat} {d C Z : Nat} {Q : xQ} (σ : xM) (s0 : Int32) {x : (Int32 × xM)} (hf : f_X12_faultOf_j53 σ s0 = some x) (hR : ∀ g, x = g → Q (.inl (some (.int g.1))) (g.2) π) : xMach G π J_X12_faultOf (d + 6) C Z 53 [] [.int s0] σ Q := by
  unfold f_X12_faultOf_j53 at hf
  cases hf
  exact xm_iret dX12_faultOf_53 rfl (hR _ rfl)
def f_X12_faultOf (σ : xM) (l0 : Nat) : Option (Int32 × xM) :=
  (if xk σ l0 12 = true then (f_X12_lex σ l0).bind (fun p1 => (if xk p1 l0 12 = true then (f_X12_parse p1 l0).bind (fun p2 => (if p2.1 = (-1 : Int32) then (gI p2.2 l0 12 26).bind (fun x7 => (if x7 = (0 : Int32) then f_X12_faultOf_j53 p2.2 (-1 : Int32) else (gI p2.2 l0 12 19).bind (fun x8 => f_X12_faultOf_j53 p2.2 x8))) else (gI p2.2 l0 12 25).bind (fun x3 => (if x3 ≤ p2.1 then (gI p2.2 l0 12 19).bind (fun x4 => f_X12_faultOf_j53 p2.2 x4) else (gR p2.2 l0 12 22).bind (fun x5 => (aI p2.2 x5 14 p2.1).bind (fun x6 => f_X12_faultOf_j53 p2.2 x6)))))) else none)) else none)
set_option maxHeartbeats 4000000 in
set_option maxRecDepth 20000 in
theorem m_X12_faultOf {G : xG} {π : Nat → Nat} {d C Z : Nat} {Q : xQ} {σ : xM} {l0 : Nat} {x : (Int32 × xM)} (hf : f_X12_faultOf σ l0 = some x) (hR : ∀ g, x = g → Q (.inl (some (.int g.1))) (g.2) π) : xMach G π J_X12_faultOf (d + 6) C Z 0 (lv_args 0 [.ref l0]) [] σ Q := by
  unfold f_X12_faultOf at hf
  refine xm_stL (L' := [(0, .ref l0)]) rfl ?_
  refine xm_aload_n dX12_faultOf_0 rfl ?_
  refine xb_if hf (fun hb hf => ?_) (fun _ q => nomatch q)
  obtain ⟨p1, ep1, hf⟩ := xbind hf
  refine xb_callV (As := []) (v0 := none) (τ0 := p1) dX12_faultOf_1 (xc_X12_lex _ _) xcl12 xw_2128 xw_2130 xs_92 hb rfl (Nat.le_of_ble_eq_true rfl) rfl (Nat.le_of_ble_eq_true rfl) (fun Q1 hq => m_X12_lex (d := d + 2) ep1 (fun g hg => by subst hg; exact hq)) ?_
  refine xm_aload_n dX12_faultOf_4 rfl ?_
  refine xb_if hf (fun hb hf => ?_) (fun _ q => nomatch q)
  obtain ⟨p2, ep2, hf⟩ := xbind hf
  refine xb_callV (As := []) (v0 := (some (.int p2.1))) (τ0 := p2.2) dX12_faultOf_5 (xc_X12_parse _ _) xcl12 xw_2150 xw_2152 xs_96 hb rfl (Nat.le_of_ble_eq_true rfl) rfl (Nat.le_of_ble_eq_true rfl) (fun Q1 hq => m_X12_parse (d := d + 0) ep2 (fun g hg => by subst hg; exact hq)) ?_
  refine xm_istore_n dX12_faultOf_8 (by decide) (xm_stL (L' := [(1, .int p2.1), (0, .ref l0)]) rfl ?_)
  refine xm_iload_n dX12_faultOf_9 rfl ?_
  refine xm_iconst dX12_faultOf_10 (v := -1) (by decide) ?_
  refine xb_icmp_ne 32 dX12_faultOf_11 (by decide) hf (fun c hf => ?_) (fun c hf => ?_)
  · refine xm_iload_n dX12_faultOf_32 rfl ?_
    refine xm_aload_n dX12_faultOf_33 rfl ?_
    refine xb_getI (a := l0) (c := 12) (k := 25) dX12_faultOf_34 xcl12 (by decide) xw_1862 rfl hf (fun x3 ex3 hf => ?_)
    refine xb_icmp_ge 49 dX12_faultOf_37 (by decide) hf (fun c hf => ?_) (fun c hf => ?_)
    · refine xm_aload_n dX12_faultOf_49 rfl ?_
      refine xb_getI (a := l0) (c := 12) (k := 19) dX12_faultOf_50 xcl12 (by decide) xw_1856 rfl hf (fun x4 ex4 hf => ?_)
      exact xm_sub [] rfl (L_X12_faultOf_j53 p2.2 x4 hf hR)
    · refine xm_aload_n dX12_faultOf_40 rfl ?_
      refine xb_getR (a := l0) (c := 12) (k := 22) dX12_faultOf_41 xcl12 (by decide) xw_1859 rfl hf (fun x5 ex5 hf => ?_)
      refine xm_iload_n dX12_faultOf_44 rfl ?_
      refine xb_iald dX12_faultOf_45 hf (fun x6 ex6 hf => ?_)
      refine xm_goto 53 dX12_faultOf_46 (by decide) ?_
      exact xm_sub [] rfl (L_X12_faultOf_j53 p2.2 x6 hf hR)
  · refine xm_aload_n dX12_faultOf_14 rfl ?_
    refine xb_getI (a := l0) (c := 12) (k := 26) dX12_faultOf_15 xcl12 (by decide) xw_1863 rfl hf (fun x7 ex7 hf => ?_)
    refine xb_if_eq 28 dX12_faultOf_18 (by decide) hf (fun c hf => ?_) (fun c hf => ?_)
    · refine xm_iconst dX12_faultOf_28 (v := -1) (by decide) ?_
      refine xm_goto 53 dX12_faultOf_29 (by decide) ?_
      exact xm_sub [] rfl (L_X12_faultOf_j53 p2.2 (-1 : Int32) hf hR)
    · refine xm_aload_n dX12_faultOf_21 rfl ?_
      refine xb_getI (a := l0) (c := 12) (k := 19) dX12_faultOf_22 xcl12 (by decide) xw_1856 rfl hf (fun x8 ex8 hf => ?_)
      refine xm_goto 53 dX12_faultOf_25 (by decide) ?_
      exact xm_sub [] rfl (L_X12_faultOf_j53 p2.2 x8 hf hR)
-- RankwiseModel.task(II)V
def f_X12_task (σ : xM) (l0 : Nat) (l1 : Int32) (l2 : Int32) : Option xM :=
  (gR σ l0 12 43).bind (fun x1 => (gI σ l0 12 45).bind (fun x2 => (wI σ x1 x2 l1).bind (fun σ3 => (gR σ3 l0 12 44).bind (fun x4 => (gI σ3 l0 12 45).bind (fun x5 => (wI σ3 x4 x5 l2).bind (fun σ6 => (gI σ6 l0 12 45).bind (fun x7 => (sI σ6 l0 12 45 (x7 + (1 : Int32))).bind (fun σ8 => some σ8))))))))
set_option maxHeartbeats 4000000 in
set_option maxRecDepth 20000 in
theorem m_X12_task {G : xG} {π : Nat → Nat} {d C Z : Nat} {Q : xQ} {σ : xM} {l0 : Nat} {l1 : Int32} {l2 : Int32} {x : xM} (hf : f_X12_task σ l0 l1 l2 = some x) (hR : ∀ g, x = g → Q (.inl none) (g) π) : xMach G π J_X12_task (d + 0) C Z 0 (lv_args 0 [.ref l0, .int l1, .int l2]) [] σ Q := by
  unfold f_X12_task at hf
  refine xm_stL (L' := [(0, .ref l0), (1, .int l1), (2, .int l2)]) rfl ?_
  refine xm_aload_n dX12_task_0 rfl ?_
  refine xb_getR (a := l0) (c := 12) (k := 43) dX12_task_1 xcl12 (by decide) xw_1880 rfl hf (fun x1 ex1 hf => ?_)
  refine xm_aload_n dX12_task_4 rfl ?_
  refine xb_getI (a := l0) (c := 12) (k := 45) dX12_task_5 xcl12 (by decide) xw_1882 rfl hf (fun x2 ex2 hf => ?_)
  refine xm_iload_n dX12_task_8 rfl ?_
  refine xb_iast dX12_task_9 hf (fun σ3 eσ3 hf => ?_)
  refine xm_aload_n dX12_task_10 rfl ?_
  refine xb_getR (a := l0) (c := 12) (k := 44) dX12_task_11 xcl12 (by decide) xw_1881 rfl hf (fun x4 ex4 hf => ?_)
  refine xm_aload_n dX12_task_14 rfl ?_
  refine xb_getI (a := l0) (c := 12) (k := 45) dX12_task_15 xcl12 (by decide) xw_1882 rfl hf (fun x5 ex5 hf => ?_)
  refine xm_iload_n dX12_task_18 rfl ?_
  refine xb_iast dX12_task_19 hf (fun σ6 eσ6 hf => ?_)
  refine xm_aload_n dX12_task_20 rfl ?_
  refine xm_dup dX12_task_21 rfl ?_
  refine xb_getI (a := l0) (c := 12) (k := 45) dX12_task_22 xcl12 (by decide) xw_1882 rfl hf (fun x7 ex7 hf => ?_)
  refine xm_iconst dX12_task_25 (v := 1) (by decide) ?_
  refine xm_iadd dX12_task_26 ?_
  refine xb_putI (a := l0) (c := 12) (k := 45) dX12_task_27 xcl12 (by decide) xw_1882 rfl rfl hf (fun σ8 eσ8 hf => ?_)
  cases hf
  exact xm_vret dX12_task_30 rfl (hR _ rfl)
-- RankwiseModel.operandTask(I)V
def f_X12_operandTask_j45 (σ : xM)  : Option xM :=
  some σ
set_option maxHeartbeats 4000000 in
set_option maxRecDepth 20000 in
theorem L_X12_operandTask_j45 {G : xG} {π : Nat → Nat} {d C Z : Nat} {Q : xQ} (σ : xM)  {x : xM} (hf : f_X12_operandTask_j45 σ = some x) (hR : ∀ g, x = g → Q (.inl none) (g) π) : xMach G π J_X12_operandTask (d + 1) C Z 45 [] [] σ Q := by
  unfold f_X12_operandTask_j45 at hf
  cases hf
  exact xm_vret dX12_operandTask_45 rfl (hR _ rfl)
def f_X12_operandTask_j27 (σ : xM) (l0 : Nat) (l1 : Int32) (l2 : Int32) : Option xM :=
  (if xk σ l0 12 = true then (f_X12_task σ l0 (10 : Int32) l1).bind (fun p3 => (if l2 = (0 : Int32) then f_X12_operandTask_j45 p3 else (if xk p3 l0 12 = true then (f_X12_task p3 l0 (11 : Int32) (0 : Int32)).bind (fun p4 => f_X12_operandTask_j45 p4) else none))) else none)
set_option maxHeartbeats 4000000 in
set_option maxRecDepth 20000 in
theorem L_X12_operandTask_j27 {G : xG} {π : Nat → Nat} {d C Z : Nat} {Q : xQ} (σ : xM) (l0 : Nat) (l1 : Int32) (l2 : Int32) {x : xM} (hf : f_X12_operandTask_j27 σ l0 l1 l2 = some x) (hR : ∀ g, x = g → Q (.inl none) (g) π) : xMach G π J_X12_operandTask (d + 1) C Z 27 [(0, .ref l0), (1, .int l1), (2, .int l2)] [] σ Q := by
  unfold f_X12_operandTask_j27 at hf
  refine xm_aload_n dX12_operandTask_27 rfl ?_
  refine xm_bipush dX12_operandTask_28 (v := 10) (by decide) ?_
  refine xm_iload_n dX12_operandTask_30 rfl ?_
  refine xb_if hf (fun hb hf => ?_) (fun _ q => nomatch q)
  obtain ⟨p3, ep3, hf⟩ := xbind hf
  refine xb_callV (As := [.int (10 : Int32), .int l1]) (v0 := none) (τ0 := p3) dX12_operandTask_31 (xc_X12_task _ _) xcl12 xw_2295 xw_2297 xs_121 hb rfl (Nat.le_of_ble_eq_true rfl) rfl (Nat.le_of_ble_eq_true rfl) (fun Q1 hq => m_X12_task (d := d + 0) ep3 (fun g hg => by subst hg; exact hq)) ?_
  refine xm_iload_n dX12_operandTask_34 rfl ?_
  refine xb_if_eq 45 dX12_operandTask_35 (by decide) hf (fun c hf => ?_) (fun c hf => ?_)
  · exact xm_sub [] rfl (L_X12_operandTask_j45 p3 hf hR)
  · refine xm_aload_n dX12_operandTask_38 rfl ?_
    refine xm_bipush dX12_operandTask_39 (v := 11) (by decide) ?_
    refine xm_iconst dX12_operandTask_41 (v := 0) (by decide) ?_
    refine xb_if hf (fun hb hf => ?_) (fun _ q => nomatch q)
    obtain ⟨p4, ep4, hf⟩ := xbind hf
    refine xb_callV (As := [.int (11 : Int32), .int (0 : Int32)]) (v0 := none) (τ0 := p4) dX12_operandTask_42 (xc_X12_task _ _) xcl12 xw_2295 xw_2297 xs_121 hb rfl (Nat.le_of_ble_eq_true rfl) rfl (Nat.le_of_ble_eq_true rfl) (fun Q1 hq => m_X12_task (d := d + 0) ep4 (fun g hg => by subst hg; exact hq)) ?_
    exact xm_sub [] rfl (L_X12_operandTask_j45 p4 hf hR)
def f_X12_operandTask_j15 (σ : xM) (l0 : Nat) (l1 : Int32) (s0 : Int32) : Option xM :=
  (if s0 = (0 : Int32) then f_X12_operandTask_j27 σ l0 l1 s0 else (if xk σ l0 12 = true then (f_X12_task σ l0 (12 : Int32) (0 : Int32)).bind (fun p5 => f_X12_operandTask_j27 p5 l0 l1 s0) else none))
set_option maxHeartbeats 4000000 in
set_option maxRecDepth 20000 in
theorem L_X12_operandTask_j15 {G : xG} {π : Nat → Nat} {d C Z : Nat} {Q : xQ} (σ : xM) (l0 : Nat) (l1 : Int32) (s0 : Int32) {x : xM} (hf : f_X12_operandTask_j15 σ l0 l1 s0 = some x) (hR : ∀ g, x = g → Q (.inl none) (g) π) : xMach G π J_X12_operandTask (d + 1) C Z 15 [(0, .ref l0), (1, .int l1)] [.int s0] σ Q := by
  unfold f_X12_operandTask_j15 at hf
  refine xm_istore_n dX12_operandTask_15 (by decide) (xm_stL (L' := [(2, .int s0), (0, .ref l0), (1, .int l1)]) rfl ?_)
  refine xm_iload_n dX12_operandTask_16 rfl ?_
  refine xb_if_eq 27 dX12_operandTask_17 (by decide) hf (fun c hf => ?_) (fun c hf => ?_)
  · exact xm_sub [1, 2, 0] rfl (L_X12_operandTask_j27 σ l0 l1 s0 hf hR)
  · refine xm_aload_n dX12_operandTask_20 rfl ?_
    refine xm_bipush dX12_operandTask_21 (v := 12) (by decide) ?_
    refine xm_iconst dX12_operandTask_23 (v := 0) (by decide) ?_
    refine xb_if hf (fun hb hf => ?_) (fun _ q => nomatch q)
    obtain ⟨p5, ep5, hf⟩ := xbind hf
    refine xb_callV (As := [.int (12 : Int32), .int (0 : Int32)]) (v0 := none) (τ0 := p5) dX12_operandTask_24 (xc_X12_task _ _) xcl12 xw_2295 xw_2297 xs_121 hb rfl (Nat.le_of_ble_eq_true rfl) rfl (Nat.le_of_ble_eq_true rfl) (fun Q1 hq => m_X12_task (d := d + 0) ep5 (fun g hg => by subst hg; exact hq)) ?_
    exact xm_sub [1, 2, 0] rfl (L_X12_operandTask_j27 p5 l0 l1 s0 hf hR)
def f_X12_operandTask (σ : xM) (l0 : Nat) (l1 : Int32) : Option xM :=
  (gR σ l0 12 4).bind (fun x1 => (aI σ x1 14 l1).bind (fun x2 => (if x2 = (3 : Int32) then f_X12_operandTask_j15 σ l0 l1 (1 : Int32) else f_X12_operandTask_j15 σ l0 l1 (0 : Int32))))
set_option maxHeartbeats 4000000 in
set_option maxRecDepth 20000 in
theorem m_X12_operandTask {G : xG} {π : Nat → Nat} {d C Z : Nat} {Q : xQ} {σ : xM} {l0 : Nat} {l1 : Int32} {x : xM} (hf : f_X12_operandTask σ l0 l1 = some x) (hR : ∀ g, x = g → Q (.inl none) (g) π) : xMach G π J_X12_operandTask (d + 1) C Z 0 (lv_args 0 [.ref l0, .int l1]) [] σ Q := by
  unfold f_X12_operandTask at hf
  refine xm_stL (L' := [(0, .ref l0), (1, .int l1)]) rfl ?_
  refine xm_aload_n dX12_operandTask_0 rfl ?_
  refine xb_getR (a := l0) (c := 12) (k := 4) dX12_operandTask_1 xcl12 (by decide) xw_1841 rfl hf (fun x1 ex1 hf => ?_)
  refine xm_iload_n dX12_operandTask_4 rfl ?_
  refine xb_iald dX12_operandTask_5 hf (fun x2 ex2 hf => ?_)
  refine xm_iconst dX12_operandTask_6 (v := 3) (by decide) ?_
  refine xb_icmp_ne 14 dX12_operandTask_7 (by decide) hf (fun c hf => ?_) (fun c hf => ?_)
  · refine xm_iconst dX12_operandTask_14 (v := 0) (by decide) ?_
    exact xm_sub [0, 1] rfl (L_X12_operandTask_j15 σ l0 l1 (0 : Int32) hf hR)
  · refine xm_iconst dX12_operandTask_10 (v := 1) (by decide) ?_
    refine xm_goto 15 dX12_operandTask_11 (by decide) ?_
    exact xm_sub [0, 1] rfl (L_X12_operandTask_j15 σ l0 l1 (1 : Int32) hf hR)
-- RankwiseModel.tasksOf(I)V
def f_X12_tasksOf_j225 (σ : xM)  : Option xM :=
  some σ
set_option maxHeartbeats 4000000 in
set_option maxRecDepth 20000 in
theorem L_X12_tasksOf_j225 {G : xG} {π : Nat → Nat} {d C Z : Nat} {Q : xQ} (σ : xM)  {x : xM} (hf : f_X12_tasksOf_j225 σ = some x) (hR : ∀ g, x = g → Q (.inl none) (g) π) : xMach G π J_X12_tasksOf (d + 2) C Z 225 [] [] σ Q := by
  unfold f_X12_tasksOf_j225 at hf
  cases hf
  exact xm_vret dX12_tasksOf_225 rfl (hR _ rfl)
def f_X12_tasksOf_j113 (σ : xM) (l0 : Nat) (l1 : Int32) (l2 : Int32) (s0 : Int32) (s1 : Int32) (s2 : Nat) : Option (xM ⊕ ((Nat × Int32 × xM) ⊕ (Nat × Int32 × Int32 × xM))) :=
  (if xk σ s2 12 = true then (f_X12_task σ s2 s1 s0).bind (fun p33 => xlet (l2 + (-1 : Int32)) (fun v34 => some (Sum.inr (Sum.inr (l0, l1, v34, p33))))) else none)
set_option maxHeartbeats 4000000 in
set_option maxRecDepth 20000 in
theorem L_X12_tasksOf_j113 {G : xG} {π : Nat → Nat} {d C Z : Nat} {Q : xQ} (σ : xM) (l0 : Nat) (l1 : Int32) (l2 : Int32) (s0 : Int32) (s1 : Int32) (s2 : Nat) {x : (xM ⊕ ((Nat × Int32 × xM) ⊕ (Nat × Int32 × Int32 × xM)))} (hf : f_X12_tasksOf_j113 σ l0 l1 l2 s0 s1 s2 = some x) (hR : ∀ g, x = Sum.inl (g) → Q (.inl none) (g) π) (hE : ∀ e : (Nat × Int32 × xM), x = Sum.inr (Sum.inl e) → xMach G π J_X12_tasksOf (d + 2) C Z 122 [(0, .ref e.1), (1, .int e.2.1)] [] e.2.2 Q) (hC : ∀ e : (Nat × Int32 × Int32 × xM), x = Sum.inr (Sum.inr e) → xMach G π J_X12_tasksOf (d + 2) C Z 76 [(0, .ref e.1), (1, .int e.2.1), (2, .int e.2.2.1)] [] e.2.2.2 Q) : xMach G π J_X12_tasksOf (d + 2) C Z 113 [(0, .ref l0), (1, .int l1), (2, .int l2)] [.int s0, .int s1, .ref s2] σ Q := by
  unfold f_X12_tasksOf_j113 at hf
  refine xb_if hf (fun hb hf => ?_) (fun _ q => nomatch q)
  obtain ⟨p33, ep33, hf⟩ := xbind hf
  refine xb_callV (As := [.int s1, .int s0]) (v0 := none) (τ0 := p33) dX12_tasksOf_113 (xc_X12_task _ _) xcl12 xw_2295 xw_2297 xs_121 hb rfl (Nat.le_of_ble_eq_true rfl) rfl (Nat.le_of_ble_eq_true rfl) (fun Q1 hq => m_X12_task (d := d + 1) ep33 (fun g hg => by subst hg; exact hq)) ?_
  refine xb_iinc dX12_tasksOf_116 rfl (by decide) (by decide) hf (fun v34 ev34 hf => xm_stL (L' := [(2, .int v34), (0, .ref l0), (1, .int l1)]) rfl ?_)
  refine xm_goto 76 dX12_tasksOf_119 (by decide) ?_
  cases hf
  exact xm_sub [1, 2, 0] rfl (hC _ rfl)
def f_X12_tasksOf_j102 (σ : xM) (l0 : Nat) (l1 : Int32) (l2 : Int32) (s0 : Int32) (s1 : Nat) : Option (xM ⊕ ((Nat × Int32 × xM) ⊕ (Nat × Int32 × Int32 × xM))) :=
  (if l2 ≤ (0 : Int32) then f_X12_tasksOf_j113 σ l0 l1 l2 (40 : Int32) s0 s1 else f_X12_tasksOf_j113 σ l0 l1 l2 (44 : Int32) s0 s1)
set_option maxHeartbeats 4000000 in
set_option maxRecDepth 20000 in
theorem L_X12_tasksOf_j102 {G : xG} {π : Nat → Nat} {d C Z : Nat} {Q : xQ} (σ : xM) (l0 : Nat) (l1 : Int32) (l2 : Int32) (s0 : Int32) (s1 : Nat) {x : (xM ⊕ ((Nat × Int32 × xM) ⊕ (Nat × Int32 × Int32 × xM)))} (hf : f_X12_tasksOf_j102 σ l0 l1 l2 s0 s1 = some x) (hR : ∀ g, x = Sum.inl (g) → Q (.inl none) (g) π) (hE : ∀ e : (Nat × Int32 × xM), x = Sum.inr (Sum.inl e) → xMach G π J_X12_tasksOf (d + 2) C Z 122 [(0, .ref e.1), (1, .int e.2.1)] [] e.2.2 Q) (hC : ∀ e : (Nat × Int32 × Int32 × xM), x = Sum.inr (Sum.inr e) → xMach G π J_X12_tasksOf (d + 2) C Z 76 [(0, .ref e.1), (1, .int e.2.1), (2, .int e.2.2.1)] [] e.2.2.2 Q) : xMach G π J_X12_tasksOf (d + 2) C Z 102 [(0, .ref l0), (1, .int l1), (2, .int l2)] [.int s0, .ref s1] σ Q := by
  unfold f_X12_tasksOf_j102 at hf
  refine xm_iload_n dX12_tasksOf_102 rfl ?_
  refine xb_if_le 111 dX12_tasksOf_103 (by decide) hf (fun c hf => ?_) (fun c hf => ?_)
  · refine xm_bipush dX12_tasksOf_111 (v := 40) (by decide) ?_
    exact xm_sub [0, 1, 2] rfl (L_X12_tasksOf_j113 σ l0 l1 l2 (40 : Int32) s0 s1 hf hR hE hC)
  · refine xm_bipush dX12_tasksOf_106 (v := 44) (by decide) ?_
    refine xm_goto 113 dX12_tasksOf_108 (by decide) ?_
    exact xm_sub [0, 1, 2] rfl (L_X12_tasksOf_j113 σ l0 l1 l2 (44 : Int32) s0 s1 hf hR hE hC)
def f_X12_tasksOf_s76 (s : (Nat × Int32 × Int32 × xM)) : Option (xM ⊕ ((Nat × Int32 × xM) ⊕ (Nat × Int32 × Int32 × xM))) :=
  xlet s.1 (fun l0 => xlet s.2.1 (fun l1 => xlet s.2.2.1 (fun l2 => xlet s.2.2.2 (fun σ => (if l2 < (0 : Int32) then some (Sum.inr (Sum.inl (l0, l1, σ))) else (if xk σ l0 12 = true then (f_X12_child σ l0 l1 l2).bind (fun p31 => (if xk σ l0 12 = true then (f_X12_task σ l0 (10 : Int32) p31).bind (fun p32 => (if l2 ≤ (0 : Int32) then f_X12_tasksOf_j102 p32 l0 l1 l2 (3 : Int32) l0 else f_X12_tasksOf_j102 p32 l0 l1 l2 (5 : Int32) l0)) else none)) else none))))))
set_option maxHeartbeats 4000000 in
set_option maxRecDepth 20000 in
theorem L_X12_tasksOf_s76 {G : xG} {π : Nat → Nat} {d C Z : Nat} {Q : xQ} (σ : xM) (l0 : Nat) (l1 : Int32) (l2 : Int32) {x : (xM ⊕ ((Nat × Int32 × xM) ⊕ (Nat × Int32 × Int32 × xM)))} (hf : f_X12_tasksOf_s76 (l0, l1, l2, σ) = some x) (hR : ∀ g, x = Sum.inl (g) → Q (.inl none) (g) π) (hE : ∀ e : (Nat × Int32 × xM), x = Sum.inr (Sum.inl e) → xMach G π J_X12_tasksOf (d + 2) C Z 122 [(0, .ref e.1), (1, .int e.2.1)] [] e.2.2 Q) (hC : ∀ e : (Nat × Int32 × Int32 × xM), x = Sum.inr (Sum.inr e) → xMach G π J_X12_tasksOf (d + 2) C Z 76 [(0, .ref e.1), (1, .int e.2.1), (2, .int e.2.2.1)] [] e.2.2.2 Q) : xMach G π J_X12_tasksOf (d + 2) C Z 76 [(0, .ref l0), (1, .int l1), (2, .int l2)] [] σ Q := by
  have hf : (if l2 < (0 : Int32) then some (Sum.inr (Sum.inl (l0, l1, σ))) else (if xk σ l0 12 = true then (f_X12_child σ l0 l1 l2).bind (fun p31 => (if xk σ l0 12 = true then (f_X12_task σ l0 (10 : Int32) p31).bind (fun p32 => (if l2 ≤ (0 : Int32) then f_X12_tasksOf_j102 p32 l0 l1 l2 (3 : Int32) l0 else f_X12_tasksOf_j102 p32 l0 l1 l2 (5 : Int32) l0)) else none)) else none)) = some x := hf
  refine xm_iload_n dX12_tasksOf_76 rfl ?_
  refine xb_if_lt 122 dX12_tasksOf_77 (by decide) hf (fun c hf => ?_) (fun c hf => ?_)
  · cases hf
    exact xm_sub [0, 1] rfl (hE _ rfl)
  · refine xm_aload_n dX12_tasksOf_80 rfl ?_
    refine xm_bipush dX12_tasksOf_81 (v := 10) (by decide) ?_
    refine xm_aload_n dX12_tasksOf_83 rfl ?_
    refine xm_iload_n dX12_tasksOf_84 rfl ?_
    refine xm_iload_n dX12_tasksOf_85 rfl ?_
    refine xb_if hf (fun hb hf => ?_) (fun _ q => nomatch q)
    obtain ⟨p31, ep31, hf⟩ := xbind hf
    refine xb_callV (As := [.int l1, .int l2]) (v0 := (some (.int p31))) (τ0 := σ) dX12_tasksOf_86 (xc_X12_child _ _) xcl12 xw_2303 xw_2305 xs_123 hb rfl (Nat.le_of_ble_eq_true rfl) rfl (Nat.le_of_ble_eq_true rfl) (fun Q1 hq => m_X12_child (d := d + 1) ep31 (fun g hg => by subst hg; exact hq)) ?_
    refine xb_if hf (fun hb hf => ?_) (fun _ q => nomatch q)
    obtain ⟨p32, ep32, hf⟩ := xbind hf
    refine xb_callV (As := [.int (10 : Int32), .int p31]) (v0 := none) (τ0 := p32) dX12_tasksOf_89 (xc_X12_task _ _) xcl12 xw_2295 xw_2297 xs_121 hb rfl (Nat.le_of_ble_eq_true rfl) rfl (Nat.le_of_ble_eq_true rfl) (fun Q1 hq => m_X12_task (d := d + 1) ep32 (fun g hg => by subst hg; exact hq)) ?_
    refine xm_aload_n dX12_tasksOf_92 rfl ?_
    refine xm_iload_n dX12_tasksOf_93 rfl ?_
    refine xb_if_le 101 dX12_tasksOf_94 (by decide) hf (fun c hf => ?_) (fun c hf => ?_)
    · refine xm_iconst dX12_tasksOf_101 (v := 3) (by decide) ?_
      exact xm_sub [0, 1, 2] rfl (L_X12_tasksOf_j102 p32 l0 l1 l2 (3 : Int32) l0 hf hR hE hC)
    · refine xm_iconst dX12_tasksOf_97 (v := 5) (by decide) ?_
      refine xm_goto 102 dX12_tasksOf_98 (by decide) ?_
      exact xm_sub [0, 1, 2] rfl (L_X12_tasksOf_j102 p32 l0 l1 l2 (5 : Int32) l0 hf hR hE hC)
theorem L_X12_tasksOf_l76 {G : xG} {π : Nat → Nat} {d C Z : Nat} {Q : xQ} {s0 : (Nat × Int32 × Int32 × xM)} {x : (xM ⊕ (Nat × Int32 × xM))} (h1 : xloop (f_X12_tasksOf_s76) xF s0 = some x) (hR : ∀ g, x = Sum.inl g → Q (.inl none) (g) π) (hE : ∀ e : (Nat × Int32 × xM), x = Sum.inr e → xMach G π J_X12_tasksOf (d + 2) C Z 122 [(0, .ref e.1), (1, .int e.2.1)] [] e.2.2 Q) : xMach G π J_X12_tasksOf (d + 2) C Z 76 [(0, .ref s0.1), (1, .int s0.2.1), (2, .int s0.2.2.1)] [] s0.2.2.2 Q := by
  refine xloop_run (M := (fun s : (Nat × Int32 × Int32 × xM) => xMach G π J_X12_tasksOf (d + 2) C Z 76 [(0, .ref s.1), (1, .int s.2.1), (2, .int s.2.2.1)] [] s.2.2.2 Q)) (r := x) ?_ xF _ h1
  intro s y hs hx
  exact L_X12_tasksOf_s76 s.2.2.2 s.1 s.2.1 s.2.2.1 (x := y) hs (fun g hg => by subst hg; exact hR g hx) (fun e he => by subst he; exact hE e hx) (fun e he => by subst he; exact hx)
def f_X12_tasksOf_j122 (σ : xM) (l0 : Nat) (l1 : Int32) : Option xM :=
  (gR σ l0 12 5).bind (fun x35 => (aI σ x35 14 l1).bind (fun x36 => (if xk σ l0 12 = true then (f_X12_task σ l0 (1 : Int32) x36).bind (fun p37 => f_X12_tasksOf_j225 p37) else none)))
set_option maxHeartbeats 4000000 in
set_option maxRecDepth 20000 in
theorem L_X12_tasksOf_j122 {G : xG} {π : Nat → Nat} {d C Z : Nat} {Q : xQ} (σ : xM) (l0 : Nat) (l1 : Int32) {x : xM} (hf : f_X12_tasksOf_j122 σ l0 l1 = some x) (hR : ∀ g, x = g → Q (.inl none) (g) π) : xMach G π J_X12_tasksOf (d + 2) C Z 122 [(0, .ref l0), (1, .int l1)] [] σ Q := by
  unfold f_X12_tasksOf_j122 at hf
  refine xm_aload_n dX12_tasksOf_122 rfl ?_
  refine xm_iconst dX12_tasksOf_123 (v := 1) (by decide) ?_
  refine xm_aload_n dX12_tasksOf_124 rfl ?_
  refine xb_getR (a := l0) (c := 12) (k := 5) dX12_tasksOf_125 xcl12 (by decide) xw_1842 rfl hf (fun x35 ex35 hf => ?_)
  refine xm_iload_n dX12_tasksOf_128 rfl ?_
  refine xb_iald dX12_tasksOf_129 hf (fun x36 ex36 hf => ?_)
  refine xb_if hf (fun hb hf => ?_) (fun _ q => nomatch q)
  obtain ⟨p37, ep37, hf⟩ := xbind hf
  refine xb_callV (As := [.int (1 : Int32), .int x36]) (v0 := none) (τ0 := p37) dX12_tasksOf_130 (xc_X12_task _ _) xcl12 xw_2295 xw_2297 xs_121 hb rfl (Nat.le_of_ble_eq_true rfl) rfl (Nat.le_of_ble_eq_true rfl) (fun Q1 hq => m_X12_task (d := d + 1) ep37 (fun g hg => by subst hg; exact hq)) ?_
  refine xm_goto 225 dX12_tasksOf_133 (by decide) ?_
  exact xm_sub [] rfl (L_X12_tasksOf_j225 p37 hf hR)
def f_X12_tasksOf (σ : xM) (l0 : Nat) (l1 : Int32) : Option xM :=
  (gR σ l0 12 4).bind (fun x1 => (aI σ x1 14 l1).bind (fun x2 => (if x2 = (0 : Int32) then (gR σ l0 12 5).bind (fun x21 => (aI σ x21 14 l1).bind (fun x22 => (if xk σ l0 12 = true then (f_X12_task σ l0 (0 : Int32) x22).bind (fun p23 => f_X12_tasksOf_j225 p23) else none))) else (if x2 = (1 : Int32) then (gR σ l0 12 5).bind (fun x24 => (aI σ x24 14 l1).bind (fun x25 => (if xk σ l0 12 = true then (f_X12_task σ l0 (1 : Int32) x25).bind (fun p26 => f_X12_tasksOf_j225 p26) else none))) else (if x2 = (2 : Int32) then (if xk σ l0 12 = true then (f_X12_task σ l0 (4 : Int32) (41 : Int32)).bind (fun p27 => (gR p27 l0 12 7).bind (fun x28 => (aI p27 x28 14 l1).bind (fun x29 => xlet (x29 - (1 : Int32)) (fun v30 => (xloop (f_X12_tasksOf_s76 ) xF (l0, l1, v30, p27)).bind (Sum.elim (fun g => some g) (fun e => f_X12_tasksOf_j122 e.2.2 e.1 e.2.1)))))) else none) else (gR σ l0 12 6).bind (fun x3 => (aI σ x3 14 l1).bind (fun x4 => (if x4 = (2 : Int32) then (if xk σ l0 12 = true then (f_X12_child σ l0 l1 (1 : Int32)).bind (fun p15 => (if xk σ l0 12 = true then (f_X12_operandTask σ l0 p15).bind (fun p16 => (gR p16 l0 12 5).bind (fun x17 => (aI p16 x17 14 l1).bind (fun x18 => (if xk p16 l0 12 = true then (f_X12_task p16 l0 (2 : Int32) x18).bind (fun p19 => (if xk p19 l0 12 = true then (f_X12_operandTask p19 l0 (l1 + (1 : Int32))).bind (fun p20 => f_X12_tasksOf_j225 p20) else none)) else none)))) else none)) else none) else (gR σ l0 12 6).bind (fun x5 => (aI σ x5 14 l1).bind (fun x6 => (if x6 = (0 : Int32) then (if xk σ l0 12 = true then (f_X12_operandTask σ l0 (l1 + (1 : Int32))).bind (fun p11 => (gR p11 l0 12 5).bind (fun x12 => (aI p11 x12 14 l1).bind (fun x13 => (if xk p11 l0 12 = true then (f_X12_task p11 l0 (2 : Int32) x13).bind (fun p14 => f_X12_tasksOf_j225 p14) else none)))) else none) else (gR σ l0 12 5).bind (fun x7 => (aI σ x7 14 l1).bind (fun x8 => (if xk σ l0 12 = true then (f_X12_task σ l0 (2 : Int32) x8).bind (fun p9 => (if xk p9 l0 12 = true then (f_X12_operandTask p9 l0 (l1 + (1 : Int32))).bind (fun p10 => f_X12_tasksOf_j225 p10) else none)) else none))))))))))))))
set_option maxHeartbeats 4000000 in
set_option maxRecDepth 20000 in
theorem m_X12_tasksOf {G : xG} {π : Nat → Nat} {d C Z : Nat} {Q : xQ} {σ : xM} {l0 : Nat} {l1 : Int32} {x : xM} (hf : f_X12_tasksOf σ l0 l1 = some x) (hR : ∀ g, x = g → Q (.inl none) (g) π) : xMach G π J_X12_tasksOf (d + 2) C Z 0 (lv_args 0 [.ref l0, .int l1]) [] σ Q := by
  unfold f_X12_tasksOf at hf
  refine xm_stL (L' := [(0, .ref l0), (1, .int l1)]) rfl ?_
  refine xm_aload_n dX12_tasksOf_0 rfl ?_
  refine xb_getR (a := l0) (c := 12) (k := 4) dX12_tasksOf_1 xcl12 (by decide) xw_1841 rfl hf (fun x1 ex1 hf => ?_)
  refine xm_iload_n dX12_tasksOf_4 rfl ?_
  refine xb_iald dX12_tasksOf_5 hf (fun x2 ex2 hf => ?_)
  refine xb_if hf (fun c hf => ?_) (fun n0 hf => ?_)
  · refine xm_tableIn 32 dX12_tasksOf_6 (by rw [c]; decide) (by rw [c]; decide) (by rw [c]; rfl) (by decide) ?_
    refine xm_aload_n dX12_tasksOf_32 rfl ?_
    refine xm_iconst dX12_tasksOf_33 (v := 0) (by decide) ?_
    refine xm_aload_n dX12_tasksOf_34 rfl ?_
    refine xb_getR (a := l0) (c := 12) (k := 5) dX12_tasksOf_35 xcl12 (by decide) xw_1842 rfl hf (fun x21 ex21 hf => ?_)
    refine xm_iload_n dX12_tasksOf_38 rfl ?_
    refine xb_iald dX12_tasksOf_39 hf (fun x22 ex22 hf => ?_)
    refine xb_if hf (fun hb hf => ?_) (fun _ q => nomatch q)
    obtain ⟨p23, ep23, hf⟩ := xbind hf
    refine xb_callV (As := [.int (0 : Int32), .int x22]) (v0 := none) (τ0 := p23) dX12_tasksOf_40 (xc_X12_task _ _) xcl12 xw_2295 xw_2297 xs_121 hb rfl (Nat.le_of_ble_eq_true rfl) rfl (Nat.le_of_ble_eq_true rfl) (fun Q1 hq => m_X12_task (d := d + 1) ep23 (fun g hg => by subst hg; exact hq)) ?_
    refine xm_goto 225 dX12_tasksOf_43 (by decide) ?_
    exact xm_sub [] rfl (L_X12_tasksOf_j225 p23 hf hR)
  refine xb_if hf (fun c hf => ?_) (fun n1 hf => ?_)
  · refine xm_tableIn 46 dX12_tasksOf_6 (by rw [c]; decide) (by rw [c]; decide) (by rw [c]; rfl) (by decide) ?_
    refine xm_aload_n dX12_tasksOf_46 rfl ?_
    refine xm_iconst dX12_tasksOf_47 (v := 1) (by decide) ?_
    refine xm_aload_n dX12_tasksOf_48 rfl ?_
    refine xb_getR (a := l0) (c := 12) (k := 5) dX12_tasksOf_49 xcl12 (by decide) xw_1842 rfl hf (fun x24 ex24 hf => ?_)
    refine xm_iload_n dX12_tasksOf_52 rfl ?_
    refine xb_iald dX12_tasksOf_53 hf (fun x25 ex25 hf => ?_)
    refine xb_if hf (fun hb hf => ?_) (fun _ q => nomatch q)
    obtain ⟨p26, ep26, hf⟩ := xbind hf
    refine xb_callV (As := [.int (1 : Int32), .int x25]) (v0 := none) (τ0 := p26) dX12_tasksOf_54 (xc_X12_task _ _) xcl12 xw_2295 xw_2297 xs_121 hb rfl (Nat.le_of_ble_eq_true rfl) rfl (Nat.le_of_ble_eq_true rfl) (fun Q1 hq => m_X12_task (d := d + 1) ep26 (fun g hg => by subst hg; exact hq)) ?_
    refine xm_goto 225 dX12_tasksOf_57 (by decide) ?_
    exact xm_sub [] rfl (L_X12_tasksOf_j225 p26 hf hR)
  refine xb_if hf (fun c hf => ?_) (fun n2 hf => ?_)
  · refine xm_tableIn 60 dX12_tasksOf_6 (by rw [c]; decide) (by rw [c]; decide) (by rw [c]; rfl) (by decide) ?_
    refine xm_aload_n dX12_tasksOf_60 rfl ?_
    refine xm_iconst dX12_tasksOf_61 (v := 4) (by decide) ?_
    refine xm_bipush dX12_tasksOf_62 (v := 41) (by decide) ?_
    refine xb_if hf (fun hb hf => ?_) (fun _ q => nomatch q)
    obtain ⟨p27, ep27, hf⟩ := xbind hf
    refine xb_callV (As := [.int (4 : Int32), .int (41 : Int32)]) (v0 := none) (τ0 := p27) dX12_tasksOf_64 (xc_X12_task _ _) xcl12 xw_2295 xw_2297 xs_121 hb rfl (Nat.le_of_ble_eq_true rfl) rfl (Nat.le_of_ble_eq_true rfl) (fun Q1 hq => m_X12_task (d := d + 1) ep27 (fun g hg => by subst hg; exact hq)) ?_
    refine xm_aload_n dX12_tasksOf_67 rfl ?_
    refine xb_getR (a := l0) (c := 12) (k := 7) dX12_tasksOf_68 xcl12 (by decide) xw_1844 rfl hf (fun x28 ex28 hf => ?_)
    refine xm_iload_n dX12_tasksOf_71 rfl ?_
    refine xb_iald dX12_tasksOf_72 hf (fun x29 ex29 hf => ?_)
    refine xm_iconst dX12_tasksOf_73 (v := 1) (by decide) ?_
    refine xm_isub dX12_tasksOf_74 ?_
    refine xb_topi hf (fun v30 ev30 hf => ?_)
    refine xm_istore_n dX12_tasksOf_75 (by decide) (xm_stL (L' := [(2, .int v30), (0, .ref l0), (1, .int l1)]) rfl ?_)
    obtain ⟨o, h1, hf⟩ := xbind hf
    refine xm_sub [1, 2, 0] rfl (L_X12_tasksOf_l76  h1 (fun g hg => ?_) (fun e he => ?_))
    · subst hg
      cases hf
      exact hR _ rfl
    · subst he
      rw [Sum.elim_inr] at hf
      have hf : f_X12_tasksOf_j122 e.2.2 e.1 e.2.1 = some _ := hf
      exact xm_sub [0, 1] rfl (L_X12_tasksOf_j122 e.2.2 e.1 e.2.1 hf hR)
  refine xm_tableOut 136 dX12_tasksOf_6 (by have q0 := lv_neT (a := 0) n0 (by decide); have q1 := lv_neT (a := 1) n1 (by decide); have q2 := lv_neT (a := 2) n2 (by decide); omega) (by decide) ?_
  refine xm_aload_n dX12_tasksOf_136 rfl ?_
  refine xb_getR (a := l0) (c := 12) (k := 6) dX12_tasksOf_137 xcl12 (by decide) xw_1843 rfl hf (fun x3 ex3 hf => ?_)
  refine xm_iload_n dX12_tasksOf_140 rfl ?_
  refine xb_iald dX12_tasksOf_141 hf (fun x4 ex4 hf => ?_)
  refine xm_iconst dX12_tasksOf_142 (v := 2) (by decide) ?_
  refine xb_icmp_ne 177 dX12_tasksOf_143 (by decide) hf (fun c hf => ?_) (fun c hf => ?_)
  · refine xm_aload_n dX12_tasksOf_177 rfl ?_
    refine xb_getR (a := l0) (c := 12) (k := 6) dX12_tasksOf_178 xcl12 (by decide) xw_1843 rfl hf (fun x5 ex5 hf => ?_)
    refine xm_iload_n dX12_tasksOf_181 rfl ?_
    refine xb_iald dX12_tasksOf_182 hf (fun x6 ex6 hf => ?_)
    refine xb_if_ne 207 dX12_tasksOf_183 (by decide) hf (fun c hf => ?_) (fun c hf => ?_)
    · refine xm_aload_n dX12_tasksOf_207 rfl ?_
      refine xm_iconst dX12_tasksOf_208 (v := 2) (by decide) ?_
      refine xm_aload_n dX12_tasksOf_209 rfl ?_
      refine xb_getR (a := l0) (c := 12) (k := 5) dX12_tasksOf_210 xcl12 (by decide) xw_1842 rfl hf (fun x7 ex7 hf => ?_)
      refine xm_iload_n dX12_tasksOf_213 rfl ?_
      refine xb_iald dX12_tasksOf_214 hf (fun x8 ex8 hf => ?_)
      refine xb_if hf (fun hb hf => ?_) (fun _ q => nomatch q)
      obtain ⟨p9, ep9, hf⟩ := xbind hf
      refine xb_callV (As := [.int (2 : Int32), .int x8]) (v0 := none) (τ0 := p9) dX12_tasksOf_215 (xc_X12_task _ _) xcl12 xw_2295 xw_2297 xs_121 hb rfl (Nat.le_of_ble_eq_true rfl) rfl (Nat.le_of_ble_eq_true rfl) (fun Q1 hq => m_X12_task (d := d + 1) ep9 (fun g hg => by subst hg; exact hq)) ?_
      refine xm_aload_n dX12_tasksOf_218 rfl ?_
      refine xm_iload_n dX12_tasksOf_219 rfl ?_
      refine xm_iconst dX12_tasksOf_220 (v := 1) (by decide) ?_
      refine xm_iadd dX12_tasksOf_221 ?_
      refine xb_if hf (fun hb hf => ?_) (fun _ q => nomatch q)
      obtain ⟨p10, ep10, hf⟩ := xbind hf
      refine xb_callV (As := [.int (l1 + (1 : Int32))]) (v0 := none) (τ0 := p10) dX12_tasksOf_222 (xc_X12_operandTask _ _) xcl12 xw_2307 xw_2309 xs_124 hb rfl (Nat.le_of_ble_eq_true rfl) rfl (Nat.le_of_ble_eq_true rfl) (fun Q1 hq => m_X12_operandTask (d := d + 0) ep10 (fun g hg => by subst hg; exact hq)) ?_
      exact xm_sub [] rfl (L_X12_tasksOf_j225 p10 hf hR)
    · refine xm_aload_n dX12_tasksOf_186 rfl ?_
      refine xm_iload_n dX12_tasksOf_187 rfl ?_
      refine xm_iconst dX12_tasksOf_188 (v := 1) (by decide) ?_
      refine xm_iadd dX12_tasksOf_189 ?_
      refine xb_if hf (fun hb hf => ?_) (fun _ q => nomatch q)
      obtain ⟨p11, ep11, hf⟩ := xbind hf
      refine xb_callV (As := [.int (l1 + (1 : Int32))]) (v0 := none) (τ0 := p11) dX12_tasksOf_190 (xc_X12_operandTask _ _) xcl12 xw_2307 xw_2309 xs_124 hb rfl (Nat.le_of_ble_eq_true rfl) rfl (Nat.le_of_ble_eq_true rfl) (fun Q1 hq => m_X12_operandTask (d := d + 0) ep11 (fun g hg => by subst hg; exact hq)) ?_
      refine xm_aload_n dX12_tasksOf_193 rfl ?_
      refine xm_iconst dX12_tasksOf_194 (v := 2) (by decide) ?_
      refine xm_aload_n dX12_tasksOf_195 rfl ?_
      refine xb_getR (a := l0) (c := 12) (k := 5) dX12_tasksOf_196 xcl12 (by decide) xw_1842 rfl hf (fun x12 ex12 hf => ?_)
      refine xm_iload_n dX12_tasksOf_199 rfl ?_
      refine xb_iald dX12_tasksOf_200 hf (fun x13 ex13 hf => ?_)
      refine xb_if hf (fun hb hf => ?_) (fun _ q => nomatch q)
      obtain ⟨p14, ep14, hf⟩ := xbind hf
      refine xb_callV (As := [.int (2 : Int32), .int x13]) (v0 := none) (τ0 := p14) dX12_tasksOf_201 (xc_X12_task _ _) xcl12 xw_2295 xw_2297 xs_121 hb rfl (Nat.le_of_ble_eq_true rfl) rfl (Nat.le_of_ble_eq_true rfl) (fun Q1 hq => m_X12_task (d := d + 1) ep14 (fun g hg => by subst hg; exact hq)) ?_
      refine xm_goto 225 dX12_tasksOf_204 (by decide) ?_
      exact xm_sub [] rfl (L_X12_tasksOf_j225 p14 hf hR)
  · refine xm_aload_n dX12_tasksOf_146 rfl ?_
    refine xm_aload_n dX12_tasksOf_147 rfl ?_
    refine xm_iload_n dX12_tasksOf_148 rfl ?_
    refine xm_iconst dX12_tasksOf_149 (v := 1) (by decide) ?_
    refine xb_if hf (fun hb hf => ?_) (fun _ q => nomatch q)
    obtain ⟨p15, ep15, hf⟩ := xbind hf
    refine xb_callV (As := [.int l1, .int (1 : Int32)]) (v0 := (some (.int p15))) (τ0 := σ) dX12_tasksOf_150 (xc_X12_child _ _) xcl12 xw_2303 xw_2305 xs_123 hb rfl (Nat.le_of_ble_eq_true rfl) rfl (Nat.le_of_ble_eq_true rfl) (fun Q1 hq => m_X12_child (d := d + 1) ep15 (fun g hg => by subst hg; exact hq)) ?_
    refine xb_if hf (fun hb hf => ?_) (fun _ q => nomatch q)
    obtain ⟨p16, ep16, hf⟩ := xbind hf
    refine xb_callV (As := [.int p15]) (v0 := none) (τ0 := p16) dX12_tasksOf_153 (xc_X12_operandTask _ _) xcl12 xw_2307 xw_2309 xs_124 hb rfl (Nat.le_of_ble_eq_true rfl) rfl (Nat.le_of_ble_eq_true rfl) (fun Q1 hq => m_X12_operandTask (d := d + 0) ep16 (fun g hg => by subst hg; exact hq)) ?_
    refine xm_aload_n dX12_tasksOf_156 rfl ?_
    refine xm_iconst dX12_tasksOf_157 (v := 2) (by decide) ?_
    refine xm_aload_n dX12_tasksOf_158 rfl ?_
    refine xb_getR (a := l0) (c := 12) (k := 5) dX12_tasksOf_159 xcl12 (by decide) xw_1842 rfl hf (fun x17 ex17 hf => ?_)
    refine xm_iload_n dX12_tasksOf_162 rfl ?_
    refine xb_iald dX12_tasksOf_163 hf (fun x18 ex18 hf => ?_)
    refine xb_if hf (fun hb hf => ?_) (fun _ q => nomatch q)
    obtain ⟨p19, ep19, hf⟩ := xbind hf
    refine xb_callV (As := [.int (2 : Int32), .int x18]) (v0 := none) (τ0 := p19) dX12_tasksOf_164 (xc_X12_task _ _) xcl12 xw_2295 xw_2297 xs_121 hb rfl (Nat.le_of_ble_eq_true rfl) rfl (Nat.le_of_ble_eq_true rfl) (fun Q1 hq => m_X12_task (d := d + 1) ep19 (fun g hg => by subst hg; exact hq)) ?_
    refine xm_aload_n dX12_tasksOf_167 rfl ?_
    refine xm_iload_n dX12_tasksOf_168 rfl ?_
    refine xm_iconst dX12_tasksOf_169 (v := 1) (by decide) ?_
    refine xm_iadd dX12_tasksOf_170 ?_
    refine xb_if hf (fun hb hf => ?_) (fun _ q => nomatch q)
    obtain ⟨p20, ep20, hf⟩ := xbind hf
    refine xb_callV (As := [.int (l1 + (1 : Int32))]) (v0 := none) (τ0 := p20) dX12_tasksOf_171 (xc_X12_operandTask _ _) xcl12 xw_2307 xw_2309 xs_124 hb rfl (Nat.le_of_ble_eq_true rfl) rfl (Nat.le_of_ble_eq_true rfl) (fun Q1 hq => m_X12_operandTask (d := d + 0) ep20 (fun g hg => by subst hg; exact hq)) ?_
    refine xm_goto 225 dX12_tasksOf_174 (by decide) ?_
    exact xm_sub [] rfl (L_X12_tasksOf_j225 p20 hf hR)
-- RankwiseModel.wordsOf(I)V
def f_X12_wordsOf_j156 (σ : xM) (l0 : Nat) (l2 : Int32) : Option (xM ⊕ ((xM) ⊕ (Nat × Int32 × xM))) :=
  some (Sum.inr (Sum.inr (l0, l2, σ)))
set_option maxHeartbeats 4000000 in
set_option maxRecDepth 20000 in
theorem L_X12_wordsOf_j156 {G : xG} {π : Nat → Nat} {d C Z : Nat} {Q : xQ} (σ : xM) (l0 : Nat) (l2 : Int32) {x : (xM ⊕ ((xM) ⊕ (Nat × Int32 × xM)))} (hf : f_X12_wordsOf_j156 σ l0 l2 = some x) (hR : ∀ g, x = Sum.inl (g) → Q (.inl none) (g) π) (hE : ∀ e : (xM), x = Sum.inr (Sum.inl e) → xMach G π J_X12_wordsOf (d + 3) C Z 159 [] [] e Q) (hC : ∀ e : (Nat × Int32 × xM), x = Sum.inr (Sum.inr e) → xMach G π J_X12_wordsOf (d + 3) C Z 19 [(0, .ref e.1), (2, .int e.2.1)] [] e.2.2 Q) : xMach G π J_X12_wordsOf (d + 3) C Z 156 [(0, .ref l0), (2, .int l2)] [] σ Q := by
  unfold f_X12_wordsOf_j156 at hf
  refine xm_goto 19 dX12_wordsOf_156 (by decide) ?_
  cases hf
  exact xm_sub [0, 1] rfl (hC _ rfl)
def f_X12_wordsOf_s19 (s : (Nat × Int32 × xM)) : Option (xM ⊕ ((xM) ⊕ (Nat × Int32 × xM))) :=
  xlet s.1 (fun l0 => xlet s.2.1 (fun l2 => xlet s.2.2 (fun σ => (gI σ l0 12 45).bind (fun x5 => (if x5 ≤ (0 : Int32) then some (Sum.inr (Sum.inl σ)) else (gI σ l0 12 45).bind (fun x6 => (sI σ l0 12 45 (x6 - (1 : Int32))).bind (fun σ7 => (gR σ7 l0 12 44).bind (fun x8 => (gI σ7 l0 12 45).bind (fun x9 => (aI σ7 x8 14 x9).bind (fun x10 => (gR σ7 l0 12 43).bind (fun x11 => (gI σ7 l0 12 45).bind (fun x12 => (aI σ7 x11 14 x12).bind (fun x13 => (if x13 = (10 : Int32) then (if xk σ7 l0 12 = true then (f_X12_tasksOf σ7 l0 x10).bind (fun p18 => f_X12_wordsOf_j156 p18 l0 l2) else none) else (if x13 = (11 : Int32) then (gR σ7 l0 12 46).bind (fun x19 => (gI σ7 l0 12 25).bind (fun x20 => (wI σ7 x19 l2 x20).bind (fun σ21 => xlet (l2 + (1 : Int32)) (fun v22 => (if xk σ21 l0 12 = true then (f_X12_word σ21 l0 (3 : Int32) (40 : Int32) (0 : Int32)).bind (fun p23 => f_X12_wordsOf_j156 p23 l0 v22) else none))))) else (if x13 = (12 : Int32) then xlet (l2 + (-1 : Int32)) (fun v24 => (gR σ7 l0 12 23).bind (fun x25 => (gR σ7 l0 12 46).bind (fun x26 => (aI σ7 x26 14 v24).bind (fun x27 => (gI σ7 l0 12 25).bind (fun x28 => (wI σ7 x25 x27 x28).bind (fun σ29 => (if xk σ29 l0 12 = true then (f_X12_word σ29 l0 (4 : Int32) (41 : Int32) (0 : Int32)).bind (fun p30 => f_X12_wordsOf_j156 p30 l0 v24) else none))))))) else (gR σ7 l0 12 43).bind (fun x14 => (gI σ7 l0 12 45).bind (fun x15 => (aI σ7 x14 14 x15).bind (fun x16 => (if xk σ7 l0 12 = true then (f_X12_word σ7 l0 x16 x10 (0 : Int32)).bind (fun p17 => f_X12_wordsOf_j156 p17 l0 l2) else none))))))))))))))))))))
set_option maxHeartbeats 4000000 in
set_option maxRecDepth 20000 in
theorem L_X12_wordsOf_s19 {G : xG} {π : Nat → Nat} {d C Z : Nat} {Q : xQ} (σ : xM) (l0 : Nat) (l2 : Int32) {x : (xM ⊕ ((xM) ⊕ (Nat × Int32 × xM)))} (hf : f_X12_wordsOf_s19 (l0, l2, σ) = some x) (hR : ∀ g, x = Sum.inl (g) → Q (.inl none) (g) π) (hE : ∀ e : (xM), x = Sum.inr (Sum.inl e) → xMach G π J_X12_wordsOf (d + 3) C Z 159 [] [] e Q) (hC : ∀ e : (Nat × Int32 × xM), x = Sum.inr (Sum.inr e) → xMach G π J_X12_wordsOf (d + 3) C Z 19 [(0, .ref e.1), (2, .int e.2.1)] [] e.2.2 Q) : xMach G π J_X12_wordsOf (d + 3) C Z 19 [(0, .ref l0), (2, .int l2)] [] σ Q := by
  have hf : (gI σ l0 12 45).bind (fun x5 => (if x5 ≤ (0 : Int32) then some (Sum.inr (Sum.inl σ)) else (gI σ l0 12 45).bind (fun x6 => (sI σ l0 12 45 (x6 - (1 : Int32))).bind (fun σ7 => (gR σ7 l0 12 44).bind (fun x8 => (gI σ7 l0 12 45).bind (fun x9 => (aI σ7 x8 14 x9).bind (fun x10 => (gR σ7 l0 12 43).bind (fun x11 => (gI σ7 l0 12 45).bind (fun x12 => (aI σ7 x11 14 x12).bind (fun x13 => (if x13 = (10 : Int32) then (if xk σ7 l0 12 = true then (f_X12_tasksOf σ7 l0 x10).bind (fun p18 => f_X12_wordsOf_j156 p18 l0 l2) else none) else (if x13 = (11 : Int32) then (gR σ7 l0 12 46).bind (fun x19 => (gI σ7 l0 12 25).bind (fun x20 => (wI σ7 x19 l2 x20).bind (fun σ21 => xlet (l2 + (1 : Int32)) (fun v22 => (if xk σ21 l0 12 = true then (f_X12_word σ21 l0 (3 : Int32) (40 : Int32) (0 : Int32)).bind (fun p23 => f_X12_wordsOf_j156 p23 l0 v22) else none))))) else (if x13 = (12 : Int32) then xlet (l2 + (-1 : Int32)) (fun v24 => (gR σ7 l0 12 23).bind (fun x25 => (gR σ7 l0 12 46).bind (fun x26 => (aI σ7 x26 14 v24).bind (fun x27 => (gI σ7 l0 12 25).bind (fun x28 => (wI σ7 x25 x27 x28).bind (fun σ29 => (if xk σ29 l0 12 = true then (f_X12_word σ29 l0 (4 : Int32) (41 : Int32) (0 : Int32)).bind (fun p30 => f_X12_wordsOf_j156 p30 l0 v24) else none))))))) else (gR σ7 l0 12 43).bind (fun x14 => (gI σ7 l0 12 45).bind (fun x15 => (aI σ7 x14 14 x15).bind (fun x16 => (if xk σ7 l0 12 = true then (f_X12_word σ7 l0 x16 x10 (0 : Int32)).bind (fun p17 => f_X12_wordsOf_j156 p17 l0 l2) else none))))))))))))))))) = some x := hf
  refine xm_aload_n dX12_wordsOf_19 rfl ?_
  refine xb_getI (a := l0) (c := 12) (k := 45) dX12_wordsOf_20 xcl12 (by decide) xw_1882 rfl hf (fun x5 ex5 hf => ?_)
  refine xb_if_le 159 dX12_wordsOf_23 (by decide) hf (fun c hf => ?_) (fun c hf => ?_)
  · cases hf
    exact xm_sub [] rfl (hE _ rfl)
  · refine xm_aload_n dX12_wordsOf_26 rfl ?_
    refine xm_dup dX12_wordsOf_27 rfl ?_
    refine xb_getI (a := l0) (c := 12) (k := 45) dX12_wordsOf_28 xcl12 (by decide) xw_1882 rfl hf (fun x6 ex6 hf => ?_)
    refine xm_iconst dX12_wordsOf_31 (v := 1) (by decide) ?_
    refine xm_isub dX12_wordsOf_32 ?_
    refine xb_putI (a := l0) (c := 12) (k := 45) dX12_wordsOf_33 xcl12 (by decide) xw_1882 rfl rfl hf (fun σ7 eσ7 hf => ?_)
    refine xm_aload_n dX12_wordsOf_36 rfl ?_
    refine xb_getR (a := l0) (c := 12) (k := 44) dX12_wordsOf_37 xcl12 (by decide) xw_1881 rfl hf (fun x8 ex8 hf => ?_)
    refine xm_aload_n dX12_wordsOf_40 rfl ?_
    refine xb_getI (a := l0) (c := 12) (k := 45) dX12_wordsOf_41 xcl12 (by decide) xw_1882 rfl hf (fun x9 ex9 hf => ?_)
    refine xb_iald dX12_wordsOf_44 hf (fun x10 ex10 hf => ?_)
    refine xm_istore_n dX12_wordsOf_45 (by decide) (xm_stL (L' := [(3, .int x10), (0, .ref l0), (2, .int l2)]) rfl ?_)
    refine xm_aload_n dX12_wordsOf_46 rfl ?_
    refine xb_getR (a := l0) (c := 12) (k := 43) dX12_wordsOf_47 xcl12 (by decide) xw_1880 rfl hf (fun x11 ex11 hf => ?_)
    refine xm_aload_n dX12_wordsOf_50 rfl ?_
    refine xb_getI (a := l0) (c := 12) (k := 45) dX12_wordsOf_51 xcl12 (by decide) xw_1882 rfl hf (fun x12 ex12 hf => ?_)
    refine xb_iald dX12_wordsOf_54 hf (fun x13 ex13 hf => ?_)
    refine xb_if hf (fun c hf => ?_) (fun n0 hf => ?_)
    · refine xm_tableIn 80 dX12_wordsOf_55 (by rw [c]; decide) (by rw [c]; decide) (by rw [c]; rfl) (by decide) ?_
      refine xm_aload_n dX12_wordsOf_80 rfl ?_
      refine xm_iload_n dX12_wordsOf_81 rfl ?_
      refine xb_if hf (fun hb hf => ?_) (fun _ q => nomatch q)
      obtain ⟨p18, ep18, hf⟩ := xbind hf
      refine xb_callV (As := [.int x10]) (v0 := none) (τ0 := p18) dX12_wordsOf_82 (xc_X12_tasksOf _ _) xcl12 xw_2299 xw_2301 xs_122 hb rfl (Nat.le_of_ble_eq_true rfl) rfl (Nat.le_of_ble_eq_true rfl) (fun Q1 hq => m_X12_tasksOf (d := d + 0) ep18 (fun g hg => by subst hg; exact hq)) ?_
      refine xm_goto 156 dX12_wordsOf_85 (by decide) ?_
      exact xm_sub [1, 2] rfl (L_X12_wordsOf_j156 p18 l0 l2 hf hR hE hC)
    refine xb_if hf (fun c hf => ?_) (fun n1 hf => ?_)
    · refine xm_tableIn 88 dX12_wordsOf_55 (by rw [c]; decide) (by rw [c]; decide) (by rw [c]; rfl) (by decide) ?_
      refine xm_aload_n dX12_wordsOf_88 rfl ?_
      refine xb_getR (a := l0) (c := 12) (k := 46) dX12_wordsOf_89 xcl12 (by decide) xw_1883 rfl hf (fun x19 ex19 hf => ?_)
      refine xm_iload_n dX12_wordsOf_92 rfl ?_
      refine xm_aload_n dX12_wordsOf_93 rfl ?_
      refine xb_getI (a := l0) (c := 12) (k := 25) dX12_wordsOf_94 xcl12 (by decide) xw_1862 rfl hf (fun x20 ex20 hf => ?_)
      refine xb_iast dX12_wordsOf_97 hf (fun σ21 eσ21 hf => ?_)
      refine xb_iinc dX12_wordsOf_98 rfl (by decide) (by decide) hf (fun v22 ev22 hf => xm_stL (L' := [(2, .int v22), (3, .int x10), (0, .ref l0)]) rfl ?_)
      refine xm_aload_n dX12_wordsOf_101 rfl ?_
      refine xm_iconst dX12_wordsOf_102 (v := 3) (by decide) ?_
      refine xm_bipush dX12_wordsOf_103 (v := 40) (by decide) ?_
      refine xm_iconst dX12_wordsOf_105 (v := 0) (by decide) ?_
      refine xb_if hf (fun hb hf => ?_) (fun _ q => nomatch q)
      obtain ⟨p23, ep23, hf⟩ := xbind hf
      refine xb_callV (As := [.int (3 : Int32), .int (40 : Int32), .int (0 : Int32)]) (v0 := none) (τ0 := p23) dX12_wordsOf_106 (xc_X12_word _ _) xcl12 xw_2146 xw_2148 xs_95 hb rfl (Nat.le_of_ble_eq_true rfl) rfl (Nat.le_of_ble_eq_true rfl) (fun Q1 hq => m_X12_word (d := d + 2) ep23 (fun g hg => by subst hg; exact hq)) ?_
      refine xm_goto 156 dX12_wordsOf_109 (by decide) ?_
      exact xm_sub [2, 0] rfl (L_X12_wordsOf_j156 p23 l0 v22 hf hR hE hC)
    refine xb_if hf (fun c hf => ?_) (fun n2 hf => ?_)
    · refine xm_tableIn 112 dX12_wordsOf_55 (by rw [c]; decide) (by rw [c]; decide) (by rw [c]; rfl) (by decide) ?_
      refine xb_iinc dX12_wordsOf_112 rfl (by decide) (by decide) hf (fun v24 ev24 hf => xm_stL (L' := [(2, .int v24), (3, .int x10), (0, .ref l0)]) rfl ?_)
      refine xm_aload_n dX12_wordsOf_115 rfl ?_
      refine xb_getR (a := l0) (c := 12) (k := 23) dX12_wordsOf_116 xcl12 (by decide) xw_1860 rfl hf (fun x25 ex25 hf => ?_)
      refine xm_aload_n dX12_wordsOf_119 rfl ?_
      refine xb_getR (a := l0) (c := 12) (k := 46) dX12_wordsOf_120 xcl12 (by decide) xw_1883 rfl hf (fun x26 ex26 hf => ?_)
      refine xm_iload_n dX12_wordsOf_123 rfl ?_
      refine xb_iald dX12_wordsOf_124 hf (fun x27 ex27 hf => ?_)
      refine xm_aload_n dX12_wordsOf_125 rfl ?_
      refine xb_getI (a := l0) (c := 12) (k := 25) dX12_wordsOf_126 xcl12 (by decide) xw_1862 rfl hf (fun x28 ex28 hf => ?_)
      refine xb_iast dX12_wordsOf_129 hf (fun σ29 eσ29 hf => ?_)
      refine xm_aload_n dX12_wordsOf_130 rfl ?_
      refine xm_iconst dX12_wordsOf_131 (v := 4) (by decide) ?_
      refine xm_bipush dX12_wordsOf_132 (v := 41) (by decide) ?_
      refine xm_iconst dX12_wordsOf_134 (v := 0) (by decide) ?_
      refine xb_if hf (fun hb hf => ?_) (fun _ q => nomatch q)
      obtain ⟨p30, ep30, hf⟩ := xbind hf
      refine xb_callV (As := [.int (4 : Int32), .int (41 : Int32), .int (0 : Int32)]) (v0 := none) (τ0 := p30) dX12_wordsOf_135 (xc_X12_word _ _) xcl12 xw_2146 xw_2148 xs_95 hb rfl (Nat.le_of_ble_eq_true rfl) rfl (Nat.le_of_ble_eq_true rfl) (fun Q1 hq => m_X12_word (d := d + 2) ep30 (fun g hg => by subst hg; exact hq)) ?_
      refine xm_goto 156 dX12_wordsOf_138 (by decide) ?_
      exact xm_sub [2, 0] rfl (L_X12_wordsOf_j156 p30 l0 v24 hf hR hE hC)
    refine xm_tableOut 141 dX12_wordsOf_55 (by have q0 := lv_neT (a := 10) n0 (by decide); have q1 := lv_neT (a := 11) n1 (by decide); have q2 := lv_neT (a := 12) n2 (by decide); omega) (by decide) ?_
    refine xm_aload_n dX12_wordsOf_141 rfl ?_
    refine xm_aload_n dX12_wordsOf_142 rfl ?_
    refine xb_getR (a := l0) (c := 12) (k := 43) dX12_wordsOf_143 xcl12 (by decide) xw_1880 rfl hf (fun x14 ex14 hf => ?_)
    refine xm_aload_n dX12_wordsOf_146 rfl ?_
    refine xb_getI (a := l0) (c := 12) (k := 45) dX12_wordsOf_147 xcl12 (by decide) xw_1882 rfl hf (fun x15 ex15 hf => ?_)
    refine xb_iald dX12_wordsOf_150 hf (fun x16 ex16 hf => ?_)
    refine xm_iload_n dX12_wordsOf_151 rfl ?_
    refine xm_iconst dX12_wordsOf_152 (v := 0) (by decide) ?_
    refine xb_if hf (fun hb hf => ?_) (fun _ q => nomatch q)
    obtain ⟨p17, ep17, hf⟩ := xbind hf
    refine xb_callV (As := [.int x16, .int x10, .int (0 : Int32)]) (v0 := none) (τ0 := p17) dX12_wordsOf_153 (xc_X12_word _ _) xcl12 xw_2146 xw_2148 xs_95 hb rfl (Nat.le_of_ble_eq_true rfl) rfl (Nat.le_of_ble_eq_true rfl) (fun Q1 hq => m_X12_word (d := d + 2) ep17 (fun g hg => by subst hg; exact hq)) ?_
    exact xm_sub [1, 2] rfl (L_X12_wordsOf_j156 p17 l0 l2 hf hR hE hC)
theorem L_X12_wordsOf_l19 {G : xG} {π : Nat → Nat} {d C Z : Nat} {Q : xQ} {s0 : (Nat × Int32 × xM)} {x : (xM ⊕ (xM))} (h1 : xloop (f_X12_wordsOf_s19) xF s0 = some x) (hR : ∀ g, x = Sum.inl g → Q (.inl none) (g) π) (hE : ∀ e : (xM), x = Sum.inr e → xMach G π J_X12_wordsOf (d + 3) C Z 159 [] [] e Q) : xMach G π J_X12_wordsOf (d + 3) C Z 19 [(0, .ref s0.1), (2, .int s0.2.1)] [] s0.2.2 Q := by
  refine xloop_run (M := (fun s : (Nat × Int32 × xM) => xMach G π J_X12_wordsOf (d + 3) C Z 19 [(0, .ref s.1), (2, .int s.2.1)] [] s.2.2 Q)) (r := x) ?_ xF _ h1
  intro s y hs hx
  exact L_X12_wordsOf_s19 s.2.2 s.1 s.2.1 (x := y) hs (fun g hg => by subst hg; exact hR g hx) (fun e he => by subst he; exact hE e hx) (fun e he => by subst he; exact hx)
def f_X12_wordsOf_j159 (σ : xM)  : Option xM :=
  some σ
set_option maxHeartbeats 4000000 in
set_option maxRecDepth 20000 in
theorem L_X12_wordsOf_j159 {G : xG} {π : Nat → Nat} {d C Z : Nat} {Q : xQ} (σ : xM)  {x : xM} (hf : f_X12_wordsOf_j159 σ = some x) (hR : ∀ g, x = g → Q (.inl none) (g) π) : xMach G π J_X12_wordsOf (d + 3) C Z 159 [] [] σ Q := by
  unfold f_X12_wordsOf_j159 at hf
  cases hf
  exact xm_vret dX12_wordsOf_159 rfl (hR _ rfl)
def f_X12_wordsOf (σ : xM) (l0 : Nat) (l1 : Int32) : Option xM :=
  (sI σ l0 12 25 (0 : Int32)).bind (fun σ1 => (sI σ1 l0 12 45 (0 : Int32)).bind (fun σ2 => xlet (0 : Int32) (fun v3 => (if xk σ2 l0 12 = true then (f_X12_task σ2 l0 (10 : Int32) l1).bind (fun p4 => (xloop (f_X12_wordsOf_s19 ) xF (l0, v3, p4)).bind (Sum.elim (fun g => some g) (fun e => f_X12_wordsOf_j159 e))) else none))))
set_option maxHeartbeats 4000000 in
set_option maxRecDepth 20000 in
theorem m_X12_wordsOf {G : xG} {π : Nat → Nat} {d C Z : Nat} {Q : xQ} {σ : xM} {l0 : Nat} {l1 : Int32} {x : xM} (hf : f_X12_wordsOf σ l0 l1 = some x) (hR : ∀ g, x = g → Q (.inl none) (g) π) : xMach G π J_X12_wordsOf (d + 3) C Z 0 (lv_args 0 [.ref l0, .int l1]) [] σ Q := by
  unfold f_X12_wordsOf at hf
  refine xm_stL (L' := [(0, .ref l0), (1, .int l1)]) rfl ?_
  refine xm_aload_n dX12_wordsOf_0 rfl ?_
  refine xm_iconst dX12_wordsOf_1 (v := 0) (by decide) ?_
  refine xb_putI (a := l0) (c := 12) (k := 25) dX12_wordsOf_2 xcl12 (by decide) xw_1862 rfl rfl hf (fun σ1 eσ1 hf => ?_)
  refine xm_aload_n dX12_wordsOf_5 rfl ?_
  refine xm_iconst dX12_wordsOf_6 (v := 0) (by decide) ?_
  refine xb_putI (a := l0) (c := 12) (k := 45) dX12_wordsOf_7 xcl12 (by decide) xw_1882 rfl rfl hf (fun σ2 eσ2 hf => ?_)
  refine xm_iconst dX12_wordsOf_10 (v := 0) (by decide) ?_
  refine xb_topi hf (fun v3 ev3 hf => ?_)
  refine xm_istore_n dX12_wordsOf_11 (by decide) (xm_stL (L' := [(2, .int v3), (0, .ref l0), (1, .int l1)]) rfl ?_)
  refine xm_aload_n dX12_wordsOf_12 rfl ?_
  refine xm_bipush dX12_wordsOf_13 (v := 10) (by decide) ?_
  refine xm_iload_n dX12_wordsOf_15 rfl ?_
  refine xb_if hf (fun hb hf => ?_) (fun _ q => nomatch q)
  obtain ⟨p4, ep4, hf⟩ := xbind hf
  refine xb_callV (As := [.int (10 : Int32), .int l1]) (v0 := none) (τ0 := p4) dX12_wordsOf_16 (xc_X12_task _ _) xcl12 xw_2295 xw_2297 xs_121 hb rfl (Nat.le_of_ble_eq_true rfl) rfl (Nat.le_of_ble_eq_true rfl) (fun Q1 hq => m_X12_task (d := d + 2) ep4 (fun g hg => by subst hg; exact hq)) ?_
  obtain ⟨o, h1, hf⟩ := xbind hf
  refine xm_sub [1, 0] rfl (L_X12_wordsOf_l19  h1 (fun g hg => ?_) (fun e he => ?_))
  · subst hg
    cases hf
    exact hR _ rfl
  · subst he
    rw [Sum.elim_inr] at hf
    have hf : f_X12_wordsOf_j159 e = some _ := hf
    exact xm_sub [] rfl (L_X12_wordsOf_j159 e hf hR)
-- RankwiseModel.setGone(IZ)V
def f_X12_setGone (σ : xM) (l0 : Nat) (l1 : Int32) (l2 : Int32) : Option xM :=
  (gR σ l0 12 24).bind (fun x1 => (wZ σ x1 l1 l2).bind (fun σ2 => (gR σ2 l0 12 24).bind (fun x3 => (gR σ2 l0 12 23).bind (fun x4 => (aI σ2 x4 14 l1).bind (fun x5 => (wZ σ2 x3 x5 l2).bind (fun σ6 => some σ6))))))
set_option maxHeartbeats 4000000 in
set_option maxRecDepth 20000 in
theorem m_X12_setGone {G : xG} {π : Nat → Nat} {d C Z : Nat} {Q : xQ} {σ : xM} {l0 : Nat} {l1 : Int32} {l2 : Int32} {x : xM} (hf : f_X12_setGone σ l0 l1 l2 = some x) (hR : ∀ g, x = g → Q (.inl none) (g) π) : xMach G π J_X12_setGone (d + 0) C Z 0 (lv_args 0 [.ref l0, .int l1, .int l2]) [] σ Q := by
  unfold f_X12_setGone at hf
  refine xm_stL (L' := [(0, .ref l0), (1, .int l1), (2, .int l2)]) rfl ?_
  refine xm_aload_n dX12_setGone_0 rfl ?_
  refine xb_getR (a := l0) (c := 12) (k := 24) dX12_setGone_1 xcl12 (by decide) xw_1861 rfl hf (fun x1 ex1 hf => ?_)
  refine xm_iload_n dX12_setGone_4 rfl ?_
  refine xm_iload_n dX12_setGone_5 rfl ?_
  refine xb_zast dX12_setGone_6 hf (fun σ2 eσ2 hf => ?_)
  refine xm_aload_n dX12_setGone_7 rfl ?_
  refine xb_getR (a := l0) (c := 12) (k := 24) dX12_setGone_8 xcl12 (by decide) xw_1861 rfl hf (fun x3 ex3 hf => ?_)
  refine xm_aload_n dX12_setGone_11 rfl ?_
  refine xb_getR (a := l0) (c := 12) (k := 23) dX12_setGone_12 xcl12 (by decide) xw_1860 rfl hf (fun x4 ex4 hf => ?_)
  refine xm_iload_n dX12_setGone_15 rfl ?_
  refine xb_iald dX12_setGone_16 hf (fun x5 ex5 hf => ?_)
  refine xm_iload_n dX12_setGone_17 rfl ?_
  refine xb_zast dX12_setGone_18 hf (fun σ6 eσ6 hf => ?_)
  cases hf
  exact xm_vret dX12_setGone_19 rfl (hR _ rfl)
-- RankwiseModel.makes(I)Z
def f_X12_makes (σ : xM) (l0 : Nat) (l1 : Int32) : Option (Int32 × xM) :=
  (if xk σ l0 12 = true then (f_X12_parse σ l0).bind (fun p1 => (if p1.1 = (-1 : Int32) then (if xk p1.2 l0 12 = true then (f_X12_lay p1.2 l0 (13440 : Int32)).bind (fun p2 => (if xk p2.2 l0 12 = true then (f_X12_areSame p2.2 l0 (13440 : Int32) l1).bind (fun p3 => (xz p3).bind (fun b4 => some (b4, p2.2))) else none)) else none) else some ((0 : Int32), p1.2))) else none)
set_option maxHeartbeats 4000000 in
set_option maxRecDepth 20000 in
theorem m_X12_makes {G : xG} {π : Nat → Nat} {d C Z : Nat} {Q : xQ} {σ : xM} {l0 : Nat} {l1 : Int32} {x : (Int32 × xM)} (hf : f_X12_makes σ l0 l1 = some x) (hR : ∀ g, x = g → Q (.inl (some (.int g.1))) (g.2) π) : xMach G π J_X12_makes (d + 6) C Z 0 (lv_args 0 [.ref l0, .int l1]) [] σ Q := by
  unfold f_X12_makes at hf
  refine xm_stL (L' := [(0, .ref l0), (1, .int l1)]) rfl ?_
  refine xm_aload_n dX12_makes_0 rfl ?_
  refine xb_if hf (fun hb hf => ?_) (fun _ q => nomatch q)
  obtain ⟨p1, ep1, hf⟩ := xbind hf
  refine xb_callV (As := []) (v0 := (some (.int p1.1))) (τ0 := p1.2) dX12_makes_1 (xc_X12_parse _ _) xcl12 xw_2150 xw_2152 xs_96 hb rfl (Nat.le_of_ble_eq_true rfl) rfl (Nat.le_of_ble_eq_true rfl) (fun Q1 hq => m_X12_parse (d := d + 0) ep1 (fun g hg => by subst hg; exact hq)) ?_
  refine xm_iconst dX12_makes_4 (v := -1) (by decide) ?_
  refine xb_icmp_eq 10 dX12_makes_5 (by decide) hf (fun c hf => ?_) (fun c hf => ?_)
  · refine xm_aload_n dX12_makes_10 rfl ?_
    refine xm_sipush dX12_makes_11 (v := 13440) (by decide) ?_
    refine xb_if hf (fun hb hf => ?_) (fun _ q => nomatch q)
    obtain ⟨p2, ep2, hf⟩ := xbind hf
    refine xb_callV (As := [.int (13440 : Int32)]) (v0 := (some (.int p2.1))) (τ0 := p2.2) dX12_makes_14 (xc_X12_lay _ _) xcl12 xw_2198 xw_2200 xs_107 hb rfl (Nat.le_of_ble_eq_true rfl) rfl (Nat.le_of_ble_eq_true rfl) (fun Q1 hq => m_X12_lay (d := d + 4) ep2 (fun g hg => by subst hg; exact hq)) ?_
    refine xm_pop dX12_makes_17 rfl ?_
    refine xm_aload_n dX12_makes_18 rfl ?_
    refine xm_sipush dX12_makes_19 (v := 13440) (by decide) ?_
    refine xm_iload_n dX12_makes_22 rfl ?_
    refine xb_if hf (fun hb hf => ?_) (fun _ q => nomatch q)
    obtain ⟨p3, ep3, hf⟩ := xbind hf
    refine xb_callV (As := [.int (13440 : Int32), .int l1]) (v0 := (some (.int p3))) (τ0 := p2.2) dX12_makes_23 (xc_X12_areSame _ _) xcl12 xw_2245 xw_2247 xs_115 hb rfl (Nat.le_of_ble_eq_true rfl) rfl (Nat.le_of_ble_eq_true rfl) (fun Q1 hq => m_X12_areSame (d := d + 5) ep3 (fun g hg => by subst hg; exact hq)) ?_
    obtain ⟨b4, eb4, hf⟩ := xbind hf
    obtain ⟨rfl, hz⟩ := xz_of eb4
    cases hf
    exact xm_zret dX12_makes_26 rfl hz (hR _ rfl)
  · refine xm_iconst dX12_makes_8 (v := 0) (by decide) ?_
    cases hf
    exact xm_zret dX12_makes_9 rfl rfl (hR _ rfl)
-- RankwiseModel.fewest(I)V
def f_X12_fewest_j45 (σ : xM) (l0 : Nat) (l1 : Int32) (l2 : Int32) : Option (xM ⊕ ((xM) ⊕ (Nat × Int32 × Int32 × xM))) :=
  xlet (l2 + (1 : Int32)) (fun v6 => some (Sum.inr (Sum.inr (l0, l1, v6, σ))))
set_option maxHeartbeats 4000000 in
set_option maxRecDepth 20000 in
theorem L_X12_fewest_j45 {G : xG} {π : Nat → Nat} {d C Z : Nat} {Q : xQ} (σ : xM) (l0 : Nat) (l1 : Int32) (l2 : Int32) {x : (xM ⊕ ((xM) ⊕ (Nat × Int32 × Int32 × xM)))} (hf : f_X12_fewest_j45 σ l0 l1 l2 = some x) (hR : ∀ g, x = Sum.inl (g) → Q (.inl none) (g) π) (hE : ∀ e : (xM), x = Sum.inr (Sum.inl e) → xMach G π J_X12_fewest (d + 7) C Z 51 [] [] e Q) (hC : ∀ e : (Nat × Int32 × Int32 × xM), x = Sum.inr (Sum.inr e) → xMach G π J_X12_fewest (d + 7) C Z 7 [(0, .ref e.1), (1, .int e.2.1), (2, .int e.2.2.1)] [] e.2.2.2 Q) : xMach G π J_X12_fewest (d + 7) C Z 45 [(0, .ref l0), (1, .int l1), (2, .int l2)] [] σ Q := by
  unfold f_X12_fewest_j45 at hf
  refine xb_iinc dX12_fewest_45 rfl (by decide) (by decide) hf (fun v6 ev6 hf => xm_stL (L' := [(2, .int v6), (0, .ref l0), (1, .int l1)]) rfl ?_)
  refine xm_goto 7 dX12_fewest_48 (by decide) ?_
  cases hf
  exact xm_sub [1, 2, 0] rfl (hC _ rfl)
def f_X12_fewest_s7 (s : (Nat × Int32 × Int32 × xM)) : Option (xM ⊕ ((xM) ⊕ (Nat × Int32 × Int32 × xM))) :=
  xlet s.1 (fun l0 => xlet s.2.1 (fun l1 => xlet s.2.2.1 (fun l2 => xlet s.2.2.2 (fun σ => (gI σ l0 12 25).bind (fun x3 => (if x3 ≤ l2 then some (Sum.inr (Sum.inl σ)) else (gR σ l0 12 23).bind (fun x4 => (aI σ x4 14 l2).bind (fun x5 => (if x5 = (-1 : Int32) then f_X12_fewest_j45 σ l0 l1 l2 else (if xk σ l0 12 = true then (f_X12_setGone σ l0 l2 (1 : Int32)).bind (fun p7 => (if xk p7 l0 12 = true then (f_X12_makes p7 l0 l1).bind (fun p8 => (if p8.1 = (0 : Int32) then (if xk p8.2 l0 12 = true then (f_X12_setGone p8.2 l0 l2 (0 : Int32)).bind (fun p9 => f_X12_fewest_j45 p9 l0 l1 l2) else none) else f_X12_fewest_j45 p8.2 l0 l1 l2)) else none)) else none))))))))))
set_option maxHeartbeats 4000000 in
set_option maxRecDepth 20000 in
theorem L_X12_fewest_s7 {G : xG} {π : Nat → Nat} {d C Z : Nat} {Q : xQ} (σ : xM) (l0 : Nat) (l1 : Int32) (l2 : Int32) {x : (xM ⊕ ((xM) ⊕ (Nat × Int32 × Int32 × xM)))} (hf : f_X12_fewest_s7 (l0, l1, l2, σ) = some x) (hR : ∀ g, x = Sum.inl (g) → Q (.inl none) (g) π) (hE : ∀ e : (xM), x = Sum.inr (Sum.inl e) → xMach G π J_X12_fewest (d + 7) C Z 51 [] [] e Q) (hC : ∀ e : (Nat × Int32 × Int32 × xM), x = Sum.inr (Sum.inr e) → xMach G π J_X12_fewest (d + 7) C Z 7 [(0, .ref e.1), (1, .int e.2.1), (2, .int e.2.2.1)] [] e.2.2.2 Q) : xMach G π J_X12_fewest (d + 7) C Z 7 [(0, .ref l0), (1, .int l1), (2, .int l2)] [] σ Q := by
  have hf : (gI σ l0 12 25).bind (fun x3 => (if x3 ≤ l2 then some (Sum.inr (Sum.inl σ)) else (gR σ l0 12 23).bind (fun x4 => (aI σ x4 14 l2).bind (fun x5 => (if x5 = (-1 : Int32) then f_X12_fewest_j45 σ l0 l1 l2 else (if xk σ l0 12 = true then (f_X12_setGone σ l0 l2 (1 : Int32)).bind (fun p7 => (if xk p7 l0 12 = true then (f_X12_makes p7 l0 l1).bind (fun p8 => (if p8.1 = (0 : Int32) then (if xk p8.2 l0 12 = true then (f_X12_setGone p8.2 l0 l2 (0 : Int32)).bind (fun p9 => f_X12_fewest_j45 p9 l0 l1 l2) else none) else f_X12_fewest_j45 p8.2 l0 l1 l2)) else none)) else none)))))) = some x := hf
  refine xm_iload_n dX12_fewest_7 rfl ?_
  refine xm_aload_n dX12_fewest_8 rfl ?_
  refine xb_getI (a := l0) (c := 12) (k := 25) dX12_fewest_9 xcl12 (by decide) xw_1862 rfl hf (fun x3 ex3 hf => ?_)
  refine xb_icmp_ge 51 dX12_fewest_12 (by decide) hf (fun c hf => ?_) (fun c hf => ?_)
  · cases hf
    exact xm_sub [] rfl (hE _ rfl)
  · refine xm_aload_n dX12_fewest_15 rfl ?_
    refine xb_getR (a := l0) (c := 12) (k := 23) dX12_fewest_16 xcl12 (by decide) xw_1860 rfl hf (fun x4 ex4 hf => ?_)
    refine xm_iload_n dX12_fewest_19 rfl ?_
    refine xb_iald dX12_fewest_20 hf (fun x5 ex5 hf => ?_)
    refine xm_iconst dX12_fewest_21 (v := -1) (by decide) ?_
    refine xb_icmp_eq 45 dX12_fewest_22 (by decide) hf (fun c hf => ?_) (fun c hf => ?_)
    · exact xm_sub [0, 1, 2] rfl (L_X12_fewest_j45 σ l0 l1 l2 hf hR hE hC)
    · refine xm_aload_n dX12_fewest_25 rfl ?_
      refine xm_iload_n dX12_fewest_26 rfl ?_
      refine xm_iconst dX12_fewest_27 (v := 1) (by decide) ?_
      refine xb_if hf (fun hb hf => ?_) (fun _ q => nomatch q)
      obtain ⟨p7, ep7, hf⟩ := xbind hf
      refine xb_callV (As := [.int l2, .int (1 : Int32)]) (v0 := none) (τ0 := p7) dX12_fewest_28 (xc_X12_setGone _ _) xcl12 xw_2311 xw_2313 xs_125 hb rfl (Nat.le_of_ble_eq_true rfl) rfl (Nat.le_of_ble_eq_true rfl) (fun Q1 hq => m_X12_setGone (d := d + 6) ep7 (fun g hg => by subst hg; exact hq)) ?_
      refine xm_aload_n dX12_fewest_31 rfl ?_
      refine xm_iload_n dX12_fewest_32 rfl ?_
      refine xb_if hf (fun hb hf => ?_) (fun _ q => nomatch q)
      obtain ⟨p8, ep8, hf⟩ := xbind hf
      refine xb_callV (As := [.int l1]) (v0 := (some (.int p8.1))) (τ0 := p8.2) dX12_fewest_33 (xc_X12_makes _ _) xcl12 xw_2315 xw_2317 xs_126 hb rfl (Nat.le_of_ble_eq_true rfl) rfl (Nat.le_of_ble_eq_true rfl) (fun Q1 hq => m_X12_makes (d := d + 0) ep8 (fun g hg => by subst hg; exact hq)) ?_
      refine xb_if_ne 45 dX12_fewest_36 (by decide) hf (fun c hf => ?_) (fun c hf => ?_)
      · exact xm_sub [0, 1, 2] rfl (L_X12_fewest_j45 p8.2 l0 l1 l2 hf hR hE hC)
      · refine xm_aload_n dX12_fewest_39 rfl ?_
        refine xm_iload_n dX12_fewest_40 rfl ?_
        refine xm_iconst dX12_fewest_41 (v := 0) (by decide) ?_
        refine xb_if hf (fun hb hf => ?_) (fun _ q => nomatch q)
        obtain ⟨p9, ep9, hf⟩ := xbind hf
        refine xb_callV (As := [.int l2, .int (0 : Int32)]) (v0 := none) (τ0 := p9) dX12_fewest_42 (xc_X12_setGone _ _) xcl12 xw_2311 xw_2313 xs_125 hb rfl (Nat.le_of_ble_eq_true rfl) rfl (Nat.le_of_ble_eq_true rfl) (fun Q1 hq => m_X12_setGone (d := d + 6) ep9 (fun g hg => by subst hg; exact hq)) ?_
        exact xm_sub [0, 1, 2] rfl (L_X12_fewest_j45 p9 l0 l1 l2 hf hR hE hC)
theorem L_X12_fewest_l7 {G : xG} {π : Nat → Nat} {d C Z : Nat} {Q : xQ} {s0 : (Nat × Int32 × Int32 × xM)} {x : (xM ⊕ (xM))} (h1 : xloop (f_X12_fewest_s7) xF s0 = some x) (hR : ∀ g, x = Sum.inl g → Q (.inl none) (g) π) (hE : ∀ e : (xM), x = Sum.inr e → xMach G π J_X12_fewest (d + 7) C Z 51 [] [] e Q) : xMach G π J_X12_fewest (d + 7) C Z 7 [(0, .ref s0.1), (1, .int s0.2.1), (2, .int s0.2.2.1)] [] s0.2.2.2 Q := by
  refine xloop_run (M := (fun s : (Nat × Int32 × Int32 × xM) => xMach G π J_X12_fewest (d + 7) C Z 7 [(0, .ref s.1), (1, .int s.2.1), (2, .int s.2.2.1)] [] s.2.2.2 Q)) (r := x) ?_ xF _ h1
  intro s y hs hx
  exact L_X12_fewest_s7 s.2.2.2 s.1 s.2.1 s.2.2.1 (x := y) hs (fun g hg => by subst hg; exact hR g hx) (fun e he => by subst he; exact hE e hx) (fun e he => by subst he; exact hx)
def f_X12_fewest_j51 (σ : xM)  : Option xM :=
  some σ
set_option maxHeartbeats 4000000 in
set_option maxRecDepth 20000 in
theorem L_X12_fewest_j51 {G : xG} {π : Nat → Nat} {d C Z : Nat} {Q : xQ} (σ : xM)  {x : xM} (hf : f_X12_fewest_j51 σ = some x) (hR : ∀ g, x = g → Q (.inl none) (g) π) : xMach G π J_X12_fewest (d + 7) C Z 51 [] [] σ Q := by
  unfold f_X12_fewest_j51 at hf
  cases hf
  exact xm_vret dX12_fewest_51 rfl (hR _ rfl)
def f_X12_fewest (σ : xM) (l0 : Nat) (l1 : Int32) : Option xM :=
  (if xk σ l0 12 = true then (f_X12_wordsOf σ l0 l1).bind (fun p1 => xlet (0 : Int32) (fun v2 => (xloop (f_X12_fewest_s7 ) xF (l0, l1, v2, p1)).bind (Sum.elim (fun g => some g) (fun e => f_X12_fewest_j51 e)))) else none)
set_option maxHeartbeats 4000000 in
set_option maxRecDepth 20000 in
theorem m_X12_fewest {G : xG} {π : Nat → Nat} {d C Z : Nat} {Q : xQ} {σ : xM} {l0 : Nat} {l1 : Int32} {x : xM} (hf : f_X12_fewest σ l0 l1 = some x) (hR : ∀ g, x = g → Q (.inl none) (g) π) : xMach G π J_X12_fewest (d + 7) C Z 0 (lv_args 0 [.ref l0, .int l1]) [] σ Q := by
  unfold f_X12_fewest at hf
  refine xm_stL (L' := [(0, .ref l0), (1, .int l1)]) rfl ?_
  refine xm_aload_n dX12_fewest_0 rfl ?_
  refine xm_iload_n dX12_fewest_1 rfl ?_
  refine xb_if hf (fun hb hf => ?_) (fun _ q => nomatch q)
  obtain ⟨p1, ep1, hf⟩ := xbind hf
  refine xb_callV (As := [.int l1]) (v0 := none) (τ0 := p1) dX12_fewest_2 (xc_X12_wordsOf _ _) xcl12 xw_2291 xw_2293 xs_120 hb rfl (Nat.le_of_ble_eq_true rfl) rfl (Nat.le_of_ble_eq_true rfl) (fun Q1 hq => m_X12_wordsOf (d := d + 3) ep1 (fun g hg => by subst hg; exact hq)) ?_
  refine xm_iconst dX12_fewest_5 (v := 0) (by decide) ?_
  refine xb_topi hf (fun v2 ev2 hf => ?_)
  refine xm_istore_n dX12_fewest_6 (by decide) (xm_stL (L' := [(2, .int v2), (0, .ref l0), (1, .int l1)]) rfl ?_)
  obtain ⟨o, h1, hf⟩ := xbind hf
  refine xm_sub [1, 2, 0] rfl (L_X12_fewest_l7  h1 (fun g hg => ?_) (fun e he => ?_))
  · subst hg
    cases hf
    exact hR _ rfl
  · subst he
    rw [Sum.elim_inr] at hf
    have hf : f_X12_fewest_j51 e = some _ := hf
    exact xm_sub [] rfl (L_X12_fewest_j51 e hf hR)
-- RankwiseModel.prints(I)V
def f_X12_prints (σ : xM) (l0 : Nat) (l1 : Int32) : Option xM :=
  (gR σ l0 12 41).bind (fun x1 => (gI σ l0 12 42).bind (fun x2 => (wI σ x1 x2 l1).bind (fun σ3 => (gI σ3 l0 12 42).bind (fun x4 => (sI σ3 l0 12 42 (x4 + (1 : Int32))).bind (fun σ5 => some σ5)))))
set_option maxHeartbeats 4000000 in
set_option maxRecDepth 20000 in
theorem m_X12_prints {G : xG} {π : Nat → Nat} {d C Z : Nat} {Q : xQ} {σ : xM} {l0 : Nat} {l1 : Int32} {x : xM} (hf : f_X12_prints σ l0 l1 = some x) (hR : ∀ g, x = g → Q (.inl none) (g) π) : xMach G π J_X12_prints (d + 0) C Z 0 (lv_args 0 [.ref l0, .int l1]) [] σ Q := by
  unfold f_X12_prints at hf
  refine xm_stL (L' := [(0, .ref l0), (1, .int l1)]) rfl ?_
  refine xm_aload_n dX12_prints_0 rfl ?_
  refine xb_getR (a := l0) (c := 12) (k := 41) dX12_prints_1 xcl12 (by decide) xw_1878 rfl hf (fun x1 ex1 hf => ?_)
  refine xm_aload_n dX12_prints_4 rfl ?_
  refine xb_getI (a := l0) (c := 12) (k := 42) dX12_prints_5 xcl12 (by decide) xw_1879 rfl hf (fun x2 ex2 hf => ?_)
  refine xm_iload_n dX12_prints_8 rfl ?_
  refine xb_iast dX12_prints_9 hf (fun σ3 eσ3 hf => ?_)
  refine xm_aload_n dX12_prints_10 rfl ?_
  refine xm_dup dX12_prints_11 rfl ?_
  refine xb_getI (a := l0) (c := 12) (k := 42) dX12_prints_12 xcl12 (by decide) xw_1879 rfl hf (fun x4 ex4 hf => ?_)
  refine xm_iconst dX12_prints_15 (v := 1) (by decide) ?_
  refine xm_iadd dX12_prints_16 ?_
  refine xb_putI (a := l0) (c := 12) (k := 42) dX12_prints_17 xcl12 (by decide) xw_1879 rfl rfl hf (fun σ5 eσ5 hf => ?_)
  cases hf
  exact xm_vret dX12_prints_20 rfl (hR _ rfl)
-- RankwiseModel.outNumber(I)V
def f_X12_outNumber_s2 (σ : xM) (s : (Nat × Int32 × Int32)) : Option (xM ⊕ ((Nat × Int32 × Int32) ⊕ (Nat × Int32 × Int32))) :=
  xlet s.1 (fun l0 => xlet s.2.1 (fun l1 => xlet s.2.2 (fun l2 => (if l2 = 0 then none else (if (l1 / l2) < (10 : Int32) then some (Sum.inr (Sum.inl (l0, l1, l2))) else xlet (l2 * (10 : Int32)) (fun v2 => some (Sum.inr (Sum.inr (l0, l1, v2)))))))))
set_option maxHeartbeats 4000000 in
set_option maxRecDepth 20000 in
theorem L_X12_outNumber_s2 {G : xG} {π : Nat → Nat} {d C Z : Nat} {Q : xQ} (σ : xM) (l0 : Nat) (l1 : Int32) (l2 : Int32) {x : (xM ⊕ ((Nat × Int32 × Int32) ⊕ (Nat × Int32 × Int32)))} (hf : f_X12_outNumber_s2 σ (l0, l1, l2) = some x) (hR : ∀ g, x = Sum.inl (g) → Q (.inl none) (g) π) (hE : ∀ e : (Nat × Int32 × Int32), x = Sum.inr (Sum.inl e) → xMach G π J_X12_outNumber (d + 1) C Z 18 [(0, .ref e.1), (1, .int e.2.1), (2, .int e.2.2)] [] σ Q) (hC : ∀ e : (Nat × Int32 × Int32), x = Sum.inr (Sum.inr e) → xMach G π J_X12_outNumber (d + 1) C Z 2 [(0, .ref e.1), (1, .int e.2.1), (2, .int e.2.2)] [] σ Q) : xMach G π J_X12_outNumber (d + 1) C Z 2 [(0, .ref l0), (1, .int l1), (2, .int l2)] [] σ Q := by
  have hf : (if l2 = 0 then none else (if (l1 / l2) < (10 : Int32) then some (Sum.inr (Sum.inl (l0, l1, l2))) else xlet (l2 * (10 : Int32)) (fun v2 => some (Sum.inr (Sum.inr (l0, l1, v2)))))) = some x := hf
  refine xm_iload_n dX12_outNumber_2 rfl ?_
  refine xm_iload_n dX12_outNumber_3 rfl ?_
  refine xb_idiv dX12_outNumber_4 hf (fun c hf => ?_)
  refine xm_bipush dX12_outNumber_5 (v := 10) (by decide) ?_
  refine xb_icmp_lt 18 dX12_outNumber_7 (by decide) hf (fun c hf => ?_) (fun c hf => ?_)
  · cases hf
    exact xm_sub [0, 1, 2] rfl (hE _ rfl)
  · refine xm_iload_n dX12_outNumber_10 rfl ?_
    refine xm_bipush dX12_outNumber_11 (v := 10) (by decide) ?_
    refine xm_imul dX12_outNumber_13 ?_
    refine xb_topi hf (fun v2 ev2 hf => ?_)
    refine xm_istore_n dX12_outNumber_14 (by decide) (xm_stL (L' := [(2, .int v2), (0, .ref l0), (1, .int l1)]) rfl ?_)
    refine xm_goto 2 dX12_outNumber_15 (by decide) ?_
    cases hf
    exact xm_sub [1, 2, 0] rfl (hC _ rfl)
theorem L_X12_outNumber_l2 {G : xG} {π : Nat → Nat} {d C Z : Nat} {Q : xQ} (σ : xM) {s0 : (Nat × Int32 × Int32)} {x : (xM ⊕ (Nat × Int32 × Int32))} (h1 : xloop (f_X12_outNumber_s2 σ) xF s0 = some x) (hR : ∀ g, x = Sum.inl g → Q (.inl none) (g) π) (hE : ∀ e : (Nat × Int32 × Int32), x = Sum.inr e → xMach G π J_X12_outNumber (d + 1) C Z 18 [(0, .ref e.1), (1, .int e.2.1), (2, .int e.2.2)] [] σ Q) : xMach G π J_X12_outNumber (d + 1) C Z 2 [(0, .ref s0.1), (1, .int s0.2.1), (2, .int s0.2.2)] [] σ Q := by
  refine xloop_run (M := (fun s : (Nat × Int32 × Int32) => xMach G π J_X12_outNumber (d + 1) C Z 2 [(0, .ref s.1), (1, .int s.2.1), (2, .int s.2.2)] [] σ Q)) (r := x) ?_ xF _ h1
  intro s y hs hx
  exact L_X12_outNumber_s2 σ s.1 s.2.1 s.2.2 (x := y) hs (fun g hg => by subst hg; exact hR g hx) (fun e he => by subst he; exact hE e hx) (fun e he => by subst he; exact hx)
def f_X12_outNumber_s18 (s : (Nat × Int32 × Int32 × xM)) : Option (xM ⊕ ((xM) ⊕ (Nat × Int32 × Int32 × xM))) :=
  xlet s.1 (fun l0 => xlet s.2.1 (fun l1 => xlet s.2.2.1 (fun l2 => xlet s.2.2.2 (fun σ => (if l2 ≤ (0 : Int32) then some (Sum.inr (Sum.inl σ)) else (if l2 = 0 then none else (if xk σ l0 12 = true then (f_X12_prints σ l0 ((48 : Int32) + ((l1 / l2) - (l1 / l2) / (10 : Int32) * (10 : Int32)))).bind (fun p3 => xlet (l2 / (10 : Int32)) (fun v4 => some (Sum.inr (Sum.inr (l0, l1, v4, p3))))) else none)))))))
set_option maxHeartbeats 4000000 in
set_option maxRecDepth 20000 in
theorem L_X12_outNumber_s18 {G : xG} {π : Nat → Nat} {d C Z : Nat} {Q : xQ} (σ : xM) (l0 : Nat) (l1 : Int32) (l2 : Int32) {x : (xM ⊕ ((xM) ⊕ (Nat × Int32 × Int32 × xM)))} (hf : f_X12_outNumber_s18 (l0, l1, l2, σ) = some x) (hR : ∀ g, x = Sum.inl (g) → Q (.inl none) (g) π) (hE : ∀ e : (xM), x = Sum.inr (Sum.inl e) → xMach G π J_X12_outNumber (d + 1) C Z 43 [] [] e Q) (hC : ∀ e : (Nat × Int32 × Int32 × xM), x = Sum.inr (Sum.inr e) → xMach G π J_X12_outNumber (d + 1) C Z 18 [(0, .ref e.1), (1, .int e.2.1), (2, .int e.2.2.1)] [] e.2.2.2 Q) : xMach G π J_X12_outNumber (d + 1) C Z 18 [(0, .ref l0), (1, .int l1), (2, .int l2)] [] σ Q := by
  have hf : (if l2 ≤ (0 : Int32) then some (Sum.inr (Sum.inl σ)) else (if l2 = 0 then none else (if xk σ l0 12 = true then (f_X12_prints σ l0 ((48 : Int32) + ((l1 / l2) - (l1 / l2) / (10 : Int32) * (10 : Int32)))).bind (fun p3 => xlet (l2 / (10 : Int32)) (fun v4 => some (Sum.inr (Sum.inr (l0, l1, v4, p3))))) else none))) = some x := hf
  refine xm_iload_n dX12_outNumber_18 rfl ?_
  refine xb_if_le 43 dX12_outNumber_19 (by decide) hf (fun c hf => ?_) (fun c hf => ?_)
  · cases hf
    exact xm_sub [] rfl (hE _ rfl)
  · refine xm_aload_n dX12_outNumber_22 rfl ?_
    refine xm_bipush dX12_outNumber_23 (v := 48) (by decide) ?_
    refine xm_iload_n dX12_outNumber_25 rfl ?_
    refine xm_iload_n dX12_outNumber_26 rfl ?_
    refine xb_idiv dX12_outNumber_27 hf (fun c hf => ?_)
    refine xm_bipush dX12_outNumber_28 (v := 10) (by decide) ?_
    refine xm_irem dX12_outNumber_30 (by decide) ?_
    refine xm_iadd dX12_outNumber_31 ?_
    refine xb_if hf (fun hb hf => ?_) (fun _ q => nomatch q)
    obtain ⟨p3, ep3, hf⟩ := xbind hf
    refine xb_callV (As := [.int ((48 : Int32) + ((l1 / l2) - (l1 / l2) / (10 : Int32) * (10 : Int32)))]) (v0 := none) (τ0 := p3) dX12_outNumber_32 (xc_X12_prints _ _) xcl12 xw_2327 xw_2329 xs_129 hb rfl (Nat.le_of_ble_eq_true rfl) rfl (Nat.le_of_ble_eq_true rfl) (fun Q1 hq => m_X12_prints (d := d + 0) ep3 (fun g hg => by subst hg; exact hq)) ?_
    refine xm_iload_n dX12_outNumber_35 rfl ?_
    refine xm_bipush dX12_outNumber_36 (v := 10) (by decide) ?_
    refine xm_idiv dX12_outNumber_38 (by decide) ?_
    refine xb_topi hf (fun v4 ev4 hf => ?_)
    refine xm_istore_n dX12_outNumber_39 (by decide) (xm_stL (L' := [(2, .int v4), (0, .ref l0), (1, .int l1)]) rfl ?_)
    refine xm_goto 18 dX12_outNumber_40 (by decide) ?_
    cases hf
    exact xm_sub [1, 2, 0] rfl (hC _ rfl)
theorem L_X12_outNumber_l18 {G : xG} {π : Nat → Nat} {d C Z : Nat} {Q : xQ} {s0 : (Nat × Int32 × Int32 × xM)} {x : (xM ⊕ (xM))} (h1 : xloop (f_X12_outNumber_s18) xF s0 = some x) (hR : ∀ g, x = Sum.inl g → Q (.inl none) (g) π) (hE : ∀ e : (xM), x = Sum.inr e → xMach G π J_X12_outNumber (d + 1) C Z 43 [] [] e Q) : xMach G π J_X12_outNumber (d + 1) C Z 18 [(0, .ref s0.1), (1, .int s0.2.1), (2, .int s0.2.2.1)] [] s0.2.2.2 Q := by
  refine xloop_run (M := (fun s : (Nat × Int32 × Int32 × xM) => xMach G π J_X12_outNumber (d + 1) C Z 18 [(0, .ref s.1), (1, .int s.2.1), (2, .int s.2.2.1)] [] s.2.2.2 Q)) (r := x) ?_ xF _ h1
  intro s y hs hx
  exact L_X12_outNumber_s18 s.2.2.2 s.1 s.2.1 s.2.2.1 (x := y) hs (fun g hg => by subst hg; exact hR g hx) (fun e he => by subst he; exact hE e hx) (fun e he => by subst he; exact hx)
def f_X12_outNumber_j43 (σ : xM)  : Option xM :=
  some σ
set_option maxHeartbeats 4000000 in
set_option maxRecDepth 20000 in
theorem L_X12_outNumber_j43 {G : xG} {π : Nat → Nat} {d C Z : Nat} {Q : xQ} (σ : xM)  {x : xM} (hf : f_X12_outNumber_j43 σ = some x) (hR : ∀ g, x = g → Q (.inl none) (g) π) : xMach G π J_X12_outNumber (d + 1) C Z 43 [] [] σ Q := by
  unfold f_X12_outNumber_j43 at hf
  cases hf
  exact xm_vret dX12_outNumber_43 rfl (hR _ rfl)
def f_X12_outNumber (σ : xM) (l0 : Nat) (l1 : Int32) : Option xM :=
  xlet (1 : Int32) (fun v1 => (xloop (f_X12_outNumber_s2 σ ) xF (l0, l1, v1)).bind (Sum.elim (fun g => some g) (fun e => (xloop (f_X12_outNumber_s18 ) xF (e.1, e.2.1, e.2.2, σ)).bind (Sum.elim (fun g => some g) (fun e => f_X12_outNumber_j43 e)))))
set_option maxHeartbeats 4000000 in
set_option maxRecDepth 20000 in
theorem m_X12_outNumber {G : xG} {π : Nat → Nat} {d C Z : Nat} {Q : xQ} {σ : xM} {l0 : Nat} {l1 : Int32} {x : xM} (hf : f_X12_outNumber σ l0 l1 = some x) (hR : ∀ g, x = g → Q (.inl none) (g) π) : xMach G π J_X12_outNumber (d + 1) C Z 0 (lv_args 0 [.ref l0, .int l1]) [] σ Q := by
  unfold f_X12_outNumber at hf
  refine xm_stL (L' := [(0, .ref l0), (1, .int l1)]) rfl ?_
  refine xm_iconst dX12_outNumber_0 (v := 1) (by decide) ?_
  refine xb_topi hf (fun v1 ev1 hf => ?_)
  refine xm_istore_n dX12_outNumber_1 (by decide) (xm_stL (L' := [(2, .int v1), (0, .ref l0), (1, .int l1)]) rfl ?_)
  obtain ⟨o, h1, hf⟩ := xbind hf
  refine xm_sub [1, 2, 0] rfl (L_X12_outNumber_l2 σ h1 (fun g hg => ?_) (fun e he => ?_))
  · subst hg
    cases hf
    exact hR _ rfl
  · subst he
    rw [Sum.elim_inr] at hf
    have hf : (xloop (f_X12_outNumber_s18 ) xF (e.1, e.2.1, e.2.2, σ)).bind (Sum.elim (fun g => some g) (fun e => f_X12_outNumber_j43 e)) = some _ := hf
    obtain ⟨o, h1, hf⟩ := xbind hf
    refine xm_sub [0, 1, 2] rfl (L_X12_outNumber_l18  h1 (fun g hg => ?_) (fun e he => ?_))
    · subst hg
      cases hf
      exact hR _ rfl
    · subst he
      rw [Sum.elim_inr] at hf
      have hf : f_X12_outNumber_j43 e = some _ := hf
      exact xm_sub [] rfl (L_X12_outNumber_j43 e hf hR)
-- RankwiseModel.outWords()V
def f_X12_outWords_j65 (σ : xM) (l0 : Nat) (l1 : Int32) : Option (xM ⊕ ((xM) ⊕ (Nat × Int32 × xM))) :=
  xlet (l1 + (1 : Int32)) (fun v8 => some (Sum.inr (Sum.inr (l0, v8, σ))))
set_option maxHeartbeats 4000000 in
set_option maxRecDepth 20000 in
theorem L_X12_outWords_j65 {G : xG} {π : Nat → Nat} {d C Z : Nat} {Q : xQ} (σ : xM) (l0 : Nat) (l1 : Int32) {x : (xM ⊕ ((xM) ⊕ (Nat × Int32 × xM)))} (hf : f_X12_outWords_j65 σ l0 l1 = some x) (hR : ∀ g, x = Sum.inl (g) → Q (.inl none) (g) π) (hE : ∀ e : (xM), x = Sum.inr (Sum.inl e) → xMach G π J_X12_outWords (d + 2) C Z 71 [] [] e Q) (hC : ∀ e : (Nat × Int32 × xM), x = Sum.inr (Sum.inr e) → xMach G π J_X12_outWords (d + 2) C Z 7 [(0, .ref e.1), (1, .int e.2.1)] [] e.2.2 Q) : xMach G π J_X12_outWords (d + 2) C Z 65 [(0, .ref l0), (1, .int l1)] [] σ Q := by
  unfold f_X12_outWords_j65 at hf
  refine xb_iinc dX12_outWords_65 rfl (by decide) (by decide) hf (fun v8 ev8 hf => xm_stL (L' := [(1, .int v8), (0, .ref l0)]) rfl ?_)
  refine xm_goto 7 dX12_outWords_68 (by decide) ?_
  cases hf
  exact xm_sub [1, 0] rfl (hC _ rfl)
def f_X12_outWords_j46 (σ : xM) (l0 : Nat) (l1 : Int32) : Option (xM ⊕ ((xM) ⊕ (Nat × Int32 × xM))) :=
  (gR σ l0 12 24).bind (fun x6 => (aI σ x6 15 l1).bind (fun x7 => (if x7 = (0 : Int32) then (gR σ l0 12 21).bind (fun x9 => (aI σ x9 14 l1).bind (fun x10 => (if xk σ l0 12 = true then (f_X12_prints σ l0 x10).bind (fun p11 => f_X12_outWords_j65 p11 l0 l1) else none))) else f_X12_outWords_j65 σ l0 l1)))
set_option maxHeartbeats 4000000 in
set_option maxRecDepth 20000 in
theorem L_X12_outWords_j46 {G : xG} {π : Nat → Nat} {d C Z : Nat} {Q : xQ} (σ : xM) (l0 : Nat) (l1 : Int32) {x : (xM ⊕ ((xM) ⊕ (Nat × Int32 × xM)))} (hf : f_X12_outWords_j46 σ l0 l1 = some x) (hR : ∀ g, x = Sum.inl (g) → Q (.inl none) (g) π) (hE : ∀ e : (xM), x = Sum.inr (Sum.inl e) → xMach G π J_X12_outWords (d + 2) C Z 71 [] [] e Q) (hC : ∀ e : (Nat × Int32 × xM), x = Sum.inr (Sum.inr e) → xMach G π J_X12_outWords (d + 2) C Z 7 [(0, .ref e.1), (1, .int e.2.1)] [] e.2.2 Q) : xMach G π J_X12_outWords (d + 2) C Z 46 [(0, .ref l0), (1, .int l1)] [] σ Q := by
  unfold f_X12_outWords_j46 at hf
  refine xm_aload_n dX12_outWords_46 rfl ?_
  refine xb_getR (a := l0) (c := 12) (k := 24) dX12_outWords_47 xcl12 (by decide) xw_1861 rfl hf (fun x6 ex6 hf => ?_)
  refine xm_iload_n dX12_outWords_50 rfl ?_
  refine xb_zald dX12_outWords_51 hf (fun x7 ex7 hf => ?_)
  refine xb_if_ne 65 dX12_outWords_52 (by decide) hf (fun c hf => ?_) (fun c hf => ?_)
  · exact xm_sub [0, 1] rfl (L_X12_outWords_j65 σ l0 l1 hf hR hE hC)
  · refine xm_aload_n dX12_outWords_55 rfl ?_
    refine xm_aload_n dX12_outWords_56 rfl ?_
    refine xb_getR (a := l0) (c := 12) (k := 21) dX12_outWords_57 xcl12 (by decide) xw_1858 rfl hf (fun x9 ex9 hf => ?_)
    refine xm_iload_n dX12_outWords_60 rfl ?_
    refine xb_iald dX12_outWords_61 hf (fun x10 ex10 hf => ?_)
    refine xb_if hf (fun hb hf => ?_) (fun _ q => nomatch q)
    obtain ⟨p11, ep11, hf⟩ := xbind hf
    refine xb_callV (As := [.int x10]) (v0 := none) (τ0 := p11) dX12_outWords_62 (xc_X12_prints _ _) xcl12 xw_2327 xw_2329 xs_129 hb rfl (Nat.le_of_ble_eq_true rfl) rfl (Nat.le_of_ble_eq_true rfl) (fun Q1 hq => m_X12_prints (d := d + 1) ep11 (fun g hg => by subst hg; exact hq)) ?_
    exact xm_sub [0, 1] rfl (L_X12_outWords_j65 p11 l0 l1 hf hR hE hC)
def f_X12_outWords_s7 (s : (Nat × Int32 × xM)) : Option (xM ⊕ ((xM) ⊕ (Nat × Int32 × xM))) :=
  xlet s.1 (fun l0 => xlet s.2.1 (fun l1 => xlet s.2.2 (fun σ => (gI σ l0 12 25).bind (fun x3 => (if x3 ≤ l1 then some (Sum.inr (Sum.inl σ)) else (gR σ l0 12 24).bind (fun x4 => (aI σ x4 15 l1).bind (fun x5 => (if x5 = (0 : Int32) then (gR σ l0 12 20).bind (fun x12 => (aI σ x12 14 l1).bind (fun x13 => (if x13 = (0 : Int32) then (gR σ l0 12 21).bind (fun x14 => (aI σ x14 14 l1).bind (fun x15 => (if xk σ l0 12 = true then (f_X12_outNumber σ l0 x15).bind (fun p16 => f_X12_outWords_j65 p16 l0 l1) else none))) else f_X12_outWords_j46 σ l0 l1))) else f_X12_outWords_j46 σ l0 l1))))))))
set_option maxHeartbeats 4000000 in
set_option maxRecDepth 20000 in
theorem L_X12_outWords_s7 {G : xG} {π : Nat → Nat} {d C Z : Nat} {Q : xQ} (σ : xM) (l0 : Nat) (l1 : Int32) {x : (xM ⊕ ((xM) ⊕ (Nat × Int32 × xM)))} (hf : f_X12_outWords_s7 (l0, l1, σ) = some x) (hR : ∀ g, x = Sum.inl (g) → Q (.inl none) (g) π) (hE : ∀ e : (xM), x = Sum.inr (Sum.inl e) → xMach G π J_X12_outWords (d + 2) C Z 71 [] [] e Q) (hC : ∀ e : (Nat × Int32 × xM), x = Sum.inr (Sum.inr e) → xMach G π J_X12_outWords (d + 2) C Z 7 [(0, .ref e.1), (1, .int e.2.1)] [] e.2.2 Q) : xMach G π J_X12_outWords (d + 2) C Z 7 [(0, .ref l0), (1, .int l1)] [] σ Q := by
  have hf : (gI σ l0 12 25).bind (fun x3 => (if x3 ≤ l1 then some (Sum.inr (Sum.inl σ)) else (gR σ l0 12 24).bind (fun x4 => (aI σ x4 15 l1).bind (fun x5 => (if x5 = (0 : Int32) then (gR σ l0 12 20).bind (fun x12 => (aI σ x12 14 l1).bind (fun x13 => (if x13 = (0 : Int32) then (gR σ l0 12 21).bind (fun x14 => (aI σ x14 14 l1).bind (fun x15 => (if xk σ l0 12 = true then (f_X12_outNumber σ l0 x15).bind (fun p16 => f_X12_outWords_j65 p16 l0 l1) else none))) else f_X12_outWords_j46 σ l0 l1))) else f_X12_outWords_j46 σ l0 l1))))) = some x := hf
  refine xm_iload_n dX12_outWords_7 rfl ?_
  refine xm_aload_n dX12_outWords_8 rfl ?_
  refine xb_getI (a := l0) (c := 12) (k := 25) dX12_outWords_9 xcl12 (by decide) xw_1862 rfl hf (fun x3 ex3 hf => ?_)
  refine xb_icmp_ge 71 dX12_outWords_12 (by decide) hf (fun c hf => ?_) (fun c hf => ?_)
  · cases hf
    exact xm_sub [] rfl (hE _ rfl)
  · refine xm_aload_n dX12_outWords_15 rfl ?_
    refine xb_getR (a := l0) (c := 12) (k := 24) dX12_outWords_16 xcl12 (by decide) xw_1861 rfl hf (fun x4 ex4 hf => ?_)
    refine xm_iload_n dX12_outWords_19 rfl ?_
    refine xb_zald dX12_outWords_20 hf (fun x5 ex5 hf => ?_)
    refine xb_if_ne 46 dX12_outWords_21 (by decide) hf (fun c hf => ?_) (fun c hf => ?_)
    · exact xm_sub [0, 1] rfl (L_X12_outWords_j46 σ l0 l1 hf hR hE hC)
    · refine xm_aload_n dX12_outWords_24 rfl ?_
      refine xb_getR (a := l0) (c := 12) (k := 20) dX12_outWords_25 xcl12 (by decide) xw_1857 rfl hf (fun x12 ex12 hf => ?_)
      refine xm_iload_n dX12_outWords_28 rfl ?_
      refine xb_iald dX12_outWords_29 hf (fun x13 ex13 hf => ?_)
      refine xb_if_ne 46 dX12_outWords_30 (by decide) hf (fun c hf => ?_) (fun c hf => ?_)
      · exact xm_sub [0, 1] rfl (L_X12_outWords_j46 σ l0 l1 hf hR hE hC)
      · refine xm_aload_n dX12_outWords_33 rfl ?_
        refine xm_aload_n dX12_outWords_34 rfl ?_
        refine xb_getR (a := l0) (c := 12) (k := 21) dX12_outWords_35 xcl12 (by decide) xw_1858 rfl hf (fun x14 ex14 hf => ?_)
        refine xm_iload_n dX12_outWords_38 rfl ?_
        refine xb_iald dX12_outWords_39 hf (fun x15 ex15 hf => ?_)
        refine xb_if hf (fun hb hf => ?_) (fun _ q => nomatch q)
        obtain ⟨p16, ep16, hf⟩ := xbind hf
        refine xb_callV (As := [.int x15]) (v0 := none) (τ0 := p16) dX12_outWords_40 (xc_X12_outNumber _ _) xcl12 xw_2323 xw_2325 xs_128 hb rfl (Nat.le_of_ble_eq_true rfl) rfl (Nat.le_of_ble_eq_true rfl) (fun Q1 hq => m_X12_outNumber (d := d + 0) ep16 (fun g hg => by subst hg; exact hq)) ?_
        refine xm_goto 65 dX12_outWords_43 (by decide) ?_
        exact xm_sub [0, 1] rfl (L_X12_outWords_j65 p16 l0 l1 hf hR hE hC)
theorem L_X12_outWords_l7 {G : xG} {π : Nat → Nat} {d C Z : Nat} {Q : xQ} {s0 : (Nat × Int32 × xM)} {x : (xM ⊕ (xM))} (h1 : xloop (f_X12_outWords_s7) xF s0 = some x) (hR : ∀ g, x = Sum.inl g → Q (.inl none) (g) π) (hE : ∀ e : (xM), x = Sum.inr e → xMach G π J_X12_outWords (d + 2) C Z 71 [] [] e Q) : xMach G π J_X12_outWords (d + 2) C Z 7 [(0, .ref s0.1), (1, .int s0.2.1)] [] s0.2.2 Q := by
  refine xloop_run (M := (fun s : (Nat × Int32 × xM) => xMach G π J_X12_outWords (d + 2) C Z 7 [(0, .ref s.1), (1, .int s.2.1)] [] s.2.2 Q)) (r := x) ?_ xF _ h1
  intro s y hs hx
  exact L_X12_outWords_s7 s.2.2 s.1 s.2.1 (x := y) hs (fun g hg => by subst hg; exact hR g hx) (fun e he => by subst he; exact hE e hx) (fun e he => by subst he; exact hx)
def f_X12_outWords_j71 (σ : xM)  : Option xM :=
  some σ
set_option maxHeartbeats 4000000 in
set_option maxRecDepth 20000 in
theorem L_X12_outWords_j71 {G : xG} {π : Nat → Nat} {d C Z : Nat} {Q : xQ} (σ : xM)  {x : xM} (hf : f_X12_outWords_j71 σ = some x) (hR : ∀ g, x = g → Q (.inl none) (g) π) : xMach G π J_X12_outWords (d + 2) C Z 71 [] [] σ Q := by
  unfold f_X12_outWords_j71 at hf
  cases hf
  exact xm_vret dX12_outWords_71 rfl (hR _ rfl)
def f_X12_outWords (σ : xM) (l0 : Nat) : Option xM :=
  (sI σ l0 12 42 (0 : Int32)).bind (fun σ1 => xlet (0 : Int32) (fun v2 => (xloop (f_X12_outWords_s7 ) xF (l0, v2, σ1)).bind (Sum.elim (fun g => some g) (fun e => f_X12_outWords_j71 e))))
set_option maxHeartbeats 4000000 in
set_option maxRecDepth 20000 in
theorem m_X12_outWords {G : xG} {π : Nat → Nat} {d C Z : Nat} {Q : xQ} {σ : xM} {l0 : Nat} {x : xM} (hf : f_X12_outWords σ l0 = some x) (hR : ∀ g, x = g → Q (.inl none) (g) π) : xMach G π J_X12_outWords (d + 2) C Z 0 (lv_args 0 [.ref l0]) [] σ Q := by
  unfold f_X12_outWords at hf
  refine xm_stL (L' := [(0, .ref l0)]) rfl ?_
  refine xm_aload_n dX12_outWords_0 rfl ?_
  refine xm_iconst dX12_outWords_1 (v := 0) (by decide) ?_
  refine xb_putI (a := l0) (c := 12) (k := 42) dX12_outWords_2 xcl12 (by decide) xw_1879 rfl rfl hf (fun σ1 eσ1 hf => ?_)
  refine xm_iconst dX12_outWords_5 (v := 0) (by decide) ?_
  refine xb_topi hf (fun v2 ev2 hf => ?_)
  refine xm_istore_n dX12_outWords_6 (by decide) (xm_stL (L' := [(1, .int v2), (0, .ref l0)]) rfl ?_)
  obtain ⟨o, h1, hf⟩ := xbind hf
  refine xm_sub [1, 0] rfl (L_X12_outWords_l7  h1 (fun g hg => ?_) (fun e he => ?_))
  · subst hg
    cases hf
    exact hR _ rfl
  · subst he
    rw [Sum.elim_inr] at hf
    have hf : f_X12_outWords_j71 e = some _ := hf
    exact xm_sub [] rfl (L_X12_outWords_j71 e hf hR)
-- RankwiseModel.hasOwnCall(I)Z
def f_X12_hasOwnCall_j57 (σ : xM) (l0 : Nat) (l1 : Int32) (l3 : Int32) (s0 : Int32) : Option (Int32 ⊕ ((Int32) ⊕ (Nat × Int32 × Int32 × Int32))) :=
  xlet (l3 + (1 : Int32)) (fun v4 => some (Sum.inr (Sum.inr (l0, l1, s0, v4))))
set_option maxHeartbeats 4000000 in
set_option maxRecDepth 20000 in
theorem L_X12_hasOwnCall_j57 {G : xG} {π : Nat → Nat} {d C Z : Nat} {Q : xQ} (σ : xM) (l0 : Nat) (l1 : Int32) (l3 : Int32) (s0 : Int32) {x : (Int32 ⊕ ((Int32) ⊕ (Nat × Int32 × Int32 × Int32)))} (hf : f_X12_hasOwnCall_j57 σ l0 l1 l3 s0 = some x) (hR : ∀ g, x = Sum.inl (g) → Q (.inl (some (.int g))) (σ) π) (hE : ∀ e : (Int32), x = Sum.inr (Sum.inl e) → xMach G π J_X12_hasOwnCall (d + 0) C Z 64 [(2, .int e)] [] σ Q) (hC : ∀ e : (Nat × Int32 × Int32 × Int32), x = Sum.inr (Sum.inr e) → xMach G π J_X12_hasOwnCall (d + 0) C Z 4 [(0, .ref e.1), (1, .int e.2.1), (2, .int e.2.2.1), (3, .int e.2.2.2)] [] σ Q) : xMach G π J_X12_hasOwnCall (d + 0) C Z 57 [(0, .ref l0), (1, .int l1), (3, .int l3)] [.int s0] σ Q := by
  unfold f_X12_hasOwnCall_j57 at hf
  refine xm_istore_n dX12_hasOwnCall_57 (by decide) (xm_stL (L' := [(2, .int s0), (0, .ref l0), (1, .int l1), (3, .int l3)]) rfl ?_)
  refine xb_iinc dX12_hasOwnCall_58 rfl (by decide) (by decide) hf (fun v4 ev4 hf => xm_stL (L' := [(3, .int v4), (2, .int s0), (0, .ref l0), (1, .int l1)]) rfl ?_)
  refine xm_goto 4 dX12_hasOwnCall_61 (by decide) ?_
  cases hf
  exact xm_sub [2, 3, 1, 0] rfl (hC _ rfl)
def f_X12_hasOwnCall_j52 (σ : xM) (l0 : Nat) (l1 : Int32) (l3 : Int32) : Option (Int32 ⊕ ((Int32) ⊕ (Nat × Int32 × Int32 × Int32))) :=
  f_X12_hasOwnCall_j57 σ l0 l1 l3 (1 : Int32)
set_option maxHeartbeats 4000000 in
set_option maxRecDepth 20000 in
theorem L_X12_hasOwnCall_j52 {G : xG} {π : Nat → Nat} {d C Z : Nat} {Q : xQ} (σ : xM) (l0 : Nat) (l1 : Int32) (l3 : Int32) {x : (Int32 ⊕ ((Int32) ⊕ (Nat × Int32 × Int32 × Int32)))} (hf : f_X12_hasOwnCall_j52 σ l0 l1 l3 = some x) (hR : ∀ g, x = Sum.inl (g) → Q (.inl (some (.int g))) (σ) π) (hE : ∀ e : (Int32), x = Sum.inr (Sum.inl e) → xMach G π J_X12_hasOwnCall (d + 0) C Z 64 [(2, .int e)] [] σ Q) (hC : ∀ e : (Nat × Int32 × Int32 × Int32), x = Sum.inr (Sum.inr e) → xMach G π J_X12_hasOwnCall (d + 0) C Z 4 [(0, .ref e.1), (1, .int e.2.1), (2, .int e.2.2.1), (3, .int e.2.2.2)] [] σ Q) : xMach G π J_X12_hasOwnCall (d + 0) C Z 52 [(0, .ref l0), (1, .int l1), (3, .int l3)] [] σ Q := by
  unfold f_X12_hasOwnCall_j52 at hf
  refine xm_iconst dX12_hasOwnCall_52 (v := 1) (by decide) ?_
  refine xm_goto 57 dX12_hasOwnCall_53 (by decide) ?_
  exact xm_sub [0, 1, 2] rfl (L_X12_hasOwnCall_j57 σ l0 l1 l3 (1 : Int32) hf hR hE hC)
def f_X12_hasOwnCall_j56 (σ : xM) (l0 : Nat) (l1 : Int32) (l3 : Int32) : Option (Int32 ⊕ ((Int32) ⊕ (Nat × Int32 × Int32 × Int32))) :=
  f_X12_hasOwnCall_j57 σ l0 l1 l3 (0 : Int32)
set_option maxHeartbeats 4000000 in
set_option maxRecDepth 20000 in
theorem L_X12_hasOwnCall_j56 {G : xG} {π : Nat → Nat} {d C Z : Nat} {Q : xQ} (σ : xM) (l0 : Nat) (l1 : Int32) (l3 : Int32) {x : (Int32 ⊕ ((Int32) ⊕ (Nat × Int32 × Int32 × Int32)))} (hf : f_X12_hasOwnCall_j56 σ l0 l1 l3 = some x) (hR : ∀ g, x = Sum.inl (g) → Q (.inl (some (.int g))) (σ) π) (hE : ∀ e : (Int32), x = Sum.inr (Sum.inl e) → xMach G π J_X12_hasOwnCall (d + 0) C Z 64 [(2, .int e)] [] σ Q) (hC : ∀ e : (Nat × Int32 × Int32 × Int32), x = Sum.inr (Sum.inr e) → xMach G π J_X12_hasOwnCall (d + 0) C Z 4 [(0, .ref e.1), (1, .int e.2.1), (2, .int e.2.2.1), (3, .int e.2.2.2)] [] σ Q) : xMach G π J_X12_hasOwnCall (d + 0) C Z 56 [(0, .ref l0), (1, .int l1), (3, .int l3)] [] σ Q := by
  unfold f_X12_hasOwnCall_j56 at hf
  refine xm_iconst dX12_hasOwnCall_56 (v := 0) (by decide) ?_
  exact xm_sub [0, 1, 2] rfl (L_X12_hasOwnCall_j57 σ l0 l1 l3 (0 : Int32) hf hR hE hC)
def f_X12_hasOwnCall_s4 (σ : xM) (s : (Nat × Int32 × Int32 × Int32)) : Option (Int32 ⊕ ((Int32) ⊕ (Nat × Int32 × Int32 × Int32))) :=
  xlet s.1 (fun l0 => xlet s.2.1 (fun l1 => xlet s.2.2.1 (fun l2 => xlet s.2.2.2 (fun l3 => (gR σ l0 12 8).bind (fun x2 => (aI σ x2 14 l1).bind (fun x3 => (if (l1 + x3) ≤ l3 then some (Sum.inr (Sum.inl l2)) else (if l2 = (0 : Int32) then (gR σ l0 12 4).bind (fun x5 => (aI σ x5 14 l3).bind (fun x6 => (if x6 = (2 : Int32) then (gR σ l0 12 5).bind (fun x7 => (aI σ x7 14 l3).bind (fun x8 => (if x8 = (105 : Int32) then f_X12_hasOwnCall_j52 σ l0 l1 l3 else (gR σ l0 12 5).bind (fun x9 => (aI σ x9 14 l3).bind (fun x10 => (if x10 = (115 : Int32) then f_X12_hasOwnCall_j52 σ l0 l1 l3 else f_X12_hasOwnCall_j56 σ l0 l1 l3)))))) else f_X12_hasOwnCall_j56 σ l0 l1 l3))) else f_X12_hasOwnCall_j52 σ l0 l1 l3))))))))
set_option maxHeartbeats 4000000 in
set_option maxRecDepth 20000 in
theorem L_X12_hasOwnCall_s4 {G : xG} {π : Nat → Nat} {d C Z : Nat} {Q : xQ} (σ : xM) (l0 : Nat) (l1 : Int32) (l2 : Int32) (l3 : Int32) {x : (Int32 ⊕ ((Int32) ⊕ (Nat × Int32 × Int32 × Int32)))} (hf : f_X12_hasOwnCall_s4 σ (l0, l1, l2, l3) = some x) (hR : ∀ g, x = Sum.inl (g) → Q (.inl (some (.int g))) (σ) π) (hE : ∀ e : (Int32), x = Sum.inr (Sum.inl e) → xMach G π J_X12_hasOwnCall (d + 0) C Z 64 [(2, .int e)] [] σ Q) (hC : ∀ e : (Nat × Int32 × Int32 × Int32), x = Sum.inr (Sum.inr e) → xMach G π J_X12_hasOwnCall (d + 0) C Z 4 [(0, .ref e.1), (1, .int e.2.1), (2, .int e.2.2.1), (3, .int e.2.2.2)] [] σ Q) : xMach G π J_X12_hasOwnCall (d + 0) C Z 4 [(0, .ref l0), (1, .int l1), (2, .int l2), (3, .int l3)] [] σ Q := by
  have hf : (gR σ l0 12 8).bind (fun x2 => (aI σ x2 14 l1).bind (fun x3 => (if (l1 + x3) ≤ l3 then some (Sum.inr (Sum.inl l2)) else (if l2 = (0 : Int32) then (gR σ l0 12 4).bind (fun x5 => (aI σ x5 14 l3).bind (fun x6 => (if x6 = (2 : Int32) then (gR σ l0 12 5).bind (fun x7 => (aI σ x7 14 l3).bind (fun x8 => (if x8 = (105 : Int32) then f_X12_hasOwnCall_j52 σ l0 l1 l3 else (gR σ l0 12 5).bind (fun x9 => (aI σ x9 14 l3).bind (fun x10 => (if x10 = (115 : Int32) then f_X12_hasOwnCall_j52 σ l0 l1 l3 else f_X12_hasOwnCall_j56 σ l0 l1 l3)))))) else f_X12_hasOwnCall_j56 σ l0 l1 l3))) else f_X12_hasOwnCall_j52 σ l0 l1 l3)))) = some x := hf
  refine xm_iload_n dX12_hasOwnCall_4 rfl ?_
  refine xm_iload_n dX12_hasOwnCall_5 rfl ?_
  refine xm_aload_n dX12_hasOwnCall_6 rfl ?_
  refine xb_getR (a := l0) (c := 12) (k := 8) dX12_hasOwnCall_7 xcl12 (by decide) xw_1845 rfl hf (fun x2 ex2 hf => ?_)
  refine xm_iload_n dX12_hasOwnCall_10 rfl ?_
  refine xb_iald dX12_hasOwnCall_11 hf (fun x3 ex3 hf => ?_)
  refine xm_iadd dX12_hasOwnCall_12 ?_
  refine xb_icmp_ge 64 dX12_hasOwnCall_13 (by decide) hf (fun c hf => ?_) (fun c hf => ?_)
  · cases hf
    exact xm_sub [2] rfl (hE _ rfl)
  · refine xm_iload_n dX12_hasOwnCall_16 rfl ?_
    refine xb_if_ne 52 dX12_hasOwnCall_17 (by decide) hf (fun c hf => ?_) (fun c hf => ?_)
    · exact xm_sub [0, 1, 3] rfl (L_X12_hasOwnCall_j52 σ l0 l1 l3 hf hR hE hC)
    · refine xm_aload_n dX12_hasOwnCall_20 rfl ?_
      refine xb_getR (a := l0) (c := 12) (k := 4) dX12_hasOwnCall_21 xcl12 (by decide) xw_1841 rfl hf (fun x5 ex5 hf => ?_)
      refine xm_iload_n dX12_hasOwnCall_24 rfl ?_
      refine xb_iald dX12_hasOwnCall_25 hf (fun x6 ex6 hf => ?_)
      refine xm_iconst dX12_hasOwnCall_26 (v := 2) (by decide) ?_
      refine xb_icmp_ne 56 dX12_hasOwnCall_27 (by decide) hf (fun c hf => ?_) (fun c hf => ?_)
      · exact xm_sub [0, 1, 3] rfl (L_X12_hasOwnCall_j56 σ l0 l1 l3 hf hR hE hC)
      · refine xm_aload_n dX12_hasOwnCall_30 rfl ?_
        refine xb_getR (a := l0) (c := 12) (k := 5) dX12_hasOwnCall_31 xcl12 (by decide) xw_1842 rfl hf (fun x7 ex7 hf => ?_)
        refine xm_iload_n dX12_hasOwnCall_34 rfl ?_
        refine xb_iald dX12_hasOwnCall_35 hf (fun x8 ex8 hf => ?_)
        refine xm_bipush dX12_hasOwnCall_36 (v := 105) (by decide) ?_
        refine xb_icmp_eq 52 dX12_hasOwnCall_38 (by decide) hf (fun c hf => ?_) (fun c hf => ?_)
        · exact xm_sub [0, 1, 3] rfl (L_X12_hasOwnCall_j52 σ l0 l1 l3 hf hR hE hC)
        · refine xm_aload_n dX12_hasOwnCall_41 rfl ?_
          refine xb_getR (a := l0) (c := 12) (k := 5) dX12_hasOwnCall_42 xcl12 (by decide) xw_1842 rfl hf (fun x9 ex9 hf => ?_)
          refine xm_iload_n dX12_hasOwnCall_45 rfl ?_
          refine xb_iald dX12_hasOwnCall_46 hf (fun x10 ex10 hf => ?_)
          refine xm_bipush dX12_hasOwnCall_47 (v := 115) (by decide) ?_
          refine xb_icmp_ne 56 dX12_hasOwnCall_49 (by decide) hf (fun c hf => ?_) (fun c hf => ?_)
          · exact xm_sub [0, 1, 3] rfl (L_X12_hasOwnCall_j56 σ l0 l1 l3 hf hR hE hC)
          · exact xm_sub [0, 1, 3] rfl (L_X12_hasOwnCall_j52 σ l0 l1 l3 hf hR hE hC)
theorem L_X12_hasOwnCall_l4 {G : xG} {π : Nat → Nat} {d C Z : Nat} {Q : xQ} (σ : xM) {s0 : (Nat × Int32 × Int32 × Int32)} {x : (Int32 ⊕ (Int32))} (h1 : xloop (f_X12_hasOwnCall_s4 σ) xF s0 = some x) (hR : ∀ g, x = Sum.inl g → Q (.inl (some (.int g))) (σ) π) (hE : ∀ e : (Int32), x = Sum.inr e → xMach G π J_X12_hasOwnCall (d + 0) C Z 64 [(2, .int e)] [] σ Q) : xMach G π J_X12_hasOwnCall (d + 0) C Z 4 [(0, .ref s0.1), (1, .int s0.2.1), (2, .int s0.2.2.1), (3, .int s0.2.2.2)] [] σ Q := by
  refine xloop_run (M := (fun s : (Nat × Int32 × Int32 × Int32) => xMach G π J_X12_hasOwnCall (d + 0) C Z 4 [(0, .ref s.1), (1, .int s.2.1), (2, .int s.2.2.1), (3, .int s.2.2.2)] [] σ Q)) (r := x) ?_ xF _ h1
  intro s y hs hx
  exact L_X12_hasOwnCall_s4 σ s.1 s.2.1 s.2.2.1 s.2.2.2 (x := y) hs (fun g hg => by subst hg; exact hR g hx) (fun e he => by subst he; exact hE e hx) (fun e he => by subst he; exact hx)
def f_X12_hasOwnCall_j64 (σ : xM) (l2 : Int32) : Option Int32 :=
  (xz l2).bind (fun b11 => some b11)
set_option maxHeartbeats 4000000 in
set_option maxRecDepth 20000 in
theorem L_X12_hasOwnCall_j64 {G : xG} {π : Nat → Nat} {d C Z : Nat} {Q : xQ} (σ : xM) (l2 : Int32) {x : Int32} (hf : f_X12_hasOwnCall_j64 σ l2 = some x) (hR : ∀ g, x = g → Q (.inl (some (.int g))) (σ) π) : xMach G π J_X12_hasOwnCall (d + 0) C Z 64 [(2, .int l2)] [] σ Q := by
  unfold f_X12_hasOwnCall_j64 at hf
  refine xm_iload_n dX12_hasOwnCall_64 rfl ?_
  obtain ⟨b11, eb11, hf⟩ := xbind hf
  obtain ⟨rfl, hz⟩ := xz_of eb11
  cases hf
  exact xm_zret dX12_hasOwnCall_65 rfl hz (hR _ rfl)
def f_X12_hasOwnCall (σ : xM) (l0 : Nat) (l1 : Int32) : Option Int32 :=
  xlet (0 : Int32) (fun v1 => (xloop (f_X12_hasOwnCall_s4 σ ) xF (l0, l1, v1, l1)).bind (Sum.elim (fun g => some g) (fun e => f_X12_hasOwnCall_j64 σ e)))
set_option maxHeartbeats 4000000 in
set_option maxRecDepth 20000 in
theorem m_X12_hasOwnCall {G : xG} {π : Nat → Nat} {d C Z : Nat} {Q : xQ} {σ : xM} {l0 : Nat} {l1 : Int32} {x : Int32} (hf : f_X12_hasOwnCall σ l0 l1 = some x) (hR : ∀ g, x = g → Q (.inl (some (.int g))) (σ) π) : xMach G π J_X12_hasOwnCall (d + 0) C Z 0 (lv_args 0 [.ref l0, .int l1]) [] σ Q := by
  unfold f_X12_hasOwnCall at hf
  refine xm_stL (L' := [(0, .ref l0), (1, .int l1)]) rfl ?_
  refine xm_iconst dX12_hasOwnCall_0 (v := 0) (by decide) ?_
  refine xb_topi hf (fun v1 ev1 hf => ?_)
  refine xm_istore_n dX12_hasOwnCall_1 (by decide) (xm_stL (L' := [(2, .int v1), (0, .ref l0), (1, .int l1)]) rfl ?_)
  refine xm_iload_n dX12_hasOwnCall_2 rfl ?_
  refine xm_istore_n dX12_hasOwnCall_3 (by decide) (xm_stL (L' := [(3, .int l1), (2, .int v1), (0, .ref l0), (1, .int l1)]) rfl ?_)
  obtain ⟨o, h1, hf⟩ := xbind hf
  refine xm_sub [2, 3, 1, 0] rfl (L_X12_hasOwnCall_l4 σ h1 (fun g hg => ?_) (fun e he => ?_))
  · subst hg
    cases hf
    exact hR _ rfl
  · subst he
    rw [Sum.elim_inr] at hf
    have hf : f_X12_hasOwnCall_j64 σ e = some _ := hf
    exact xm_sub [0] rfl (L_X12_hasOwnCall_j64 σ e hf hR)

