-- RankwiseModel.addCase(CII)I
def f_X12_addCase_j134 (σ : xM) (l0 : Nat) (l2 : Int32) (l3 : Int32) (l5 : Int32) (s0 : Int32) (s1 : Int32) (s2 : Int32) (s3 : Nat) : Option (Int32 × xM) :=
  (if xk σ s3 12 = true then (f_X12_refused σ s3 s2 s1 s0).bind (fun p9 => (if p9.1 = (0 : Int32) then (if xk p9.2 l0 12 = true then (f_X12_noteFunction p9.2 l0 l5).bind (fun p10 => (if xk p10 l0 12 = true then (f_X12_layCase p10 l0 l5 (0 : Int32) l2).bind (fun p11 => (if xk p11 l0 12 = true then (f_X12_layCase p11 l0 l5 (1 : Int32) l3).bind (fun p12 => (gR p12 l0 12 12).bind (fun x13 => (aI p12 x13 14 l5).bind (fun x14 => (wI p12 x13 l5 (x14 + (1 : Int32))).bind (fun σ15 => (gR σ15 l0 12 12).bind (fun x16 => (aI σ15 x16 14 l5).bind (fun x17 => some (x17, σ15))))))) else none)) else none)) else none) else some ((0 : Int32), p9.2))) else none)
set_option maxHeartbeats 4000000 in
set_option maxRecDepth 20000 in
theorem L_X12_addCase_j134 {G : xG} {π : Nat → Nat} {d C Z : Nat} {Q : xQ} (σ : xM) (l0 : Nat) (l2 : Int32) (l3 : Int32) (l5 : Int32) (s0 : Int32) (s1 : Int32) (s2 : Int32) (s3 : Nat) {x : (Int32 × xM)} (hf : f_X12_addCase_j134 σ l0 l2 l3 l5 s0 s1 s2 s3 = some x) (hR : ∀ g, x = g → Q (.inl (some (.int g.1))) (g.2) π) : xMach G π J_X12_addCase (d + 2) C Z 134 [(0, .ref l0), (2, .int l2), (3, .int l3), (5, .int l5)] [.int s0, .int s1, .int s2, .ref s3] σ Q := by
  unfold f_X12_addCase_j134 at hf
  refine xb_if hf (fun hb hf => ?_) (fun _ q => nomatch q)
  obtain ⟨p9, ep9, hf⟩ := xbind hf
  refine xb_callV (As := [.int s2, .int s1, .int s0]) (v0 := (some (.int p9.1))) (τ0 := p9.2) dX12_addCase_134 (xc_X12_refused _ _) xcl12 xw_2112 xw_2114 xs_90 hb rfl (Nat.le_of_ble_eq_true rfl) rfl (Nat.le_of_ble_eq_true rfl) (fun Q1 hq => m_X12_refused (d := d + 1) ep9 (fun g hg => by subst hg; exact hq)) ?_
  refine xb_if_eq 142 dX12_addCase_137 (by decide) hf (fun c hf => ?_) (fun c hf => ?_)
  · refine xm_aload_n dX12_addCase_142 rfl ?_
    refine xm_iload dX12_addCase_143 rfl ?_
    refine xb_if hf (fun hb hf => ?_) (fun _ q => nomatch q)
    obtain ⟨p10, ep10, hf⟩ := xbind hf
    refine xb_callV (As := [.int l5]) (v0 := none) (τ0 := p10) dX12_addCase_145 (xc_X12_noteFunction _ _) xcl12 xw_2572 xw_2574 xs_180 hb rfl (Nat.le_of_ble_eq_true rfl) rfl (Nat.le_of_ble_eq_true rfl) (fun Q1 hq => m_X12_noteFunction (d := d + 0) ep10 (fun g hg => by subst hg; exact hq)) ?_
    refine xm_aload_n dX12_addCase_148 rfl ?_
    refine xm_iload dX12_addCase_149 rfl ?_
    refine xm_iconst dX12_addCase_151 (v := 0) (by decide) ?_
    refine xm_iload_n dX12_addCase_152 rfl ?_
    refine xb_if hf (fun hb hf => ?_) (fun _ q => nomatch q)
    obtain ⟨p11, ep11, hf⟩ := xbind hf
    refine xb_callV (As := [.int l5, .int (0 : Int32), .int l2]) (v0 := none) (τ0 := p11) dX12_addCase_153 (xc_X12_layCase _ _) xcl12 xw_2580 xw_2582 xs_181 hb rfl (Nat.le_of_ble_eq_true rfl) rfl (Nat.le_of_ble_eq_true rfl) (fun Q1 hq => m_X12_layCase (d := d + 0) ep11 (fun g hg => by subst hg; exact hq)) ?_
    refine xm_aload_n dX12_addCase_156 rfl ?_
    refine xm_iload dX12_addCase_157 rfl ?_
    refine xm_iconst dX12_addCase_159 (v := 1) (by decide) ?_
    refine xm_iload_n dX12_addCase_160 rfl ?_
    refine xb_if hf (fun hb hf => ?_) (fun _ q => nomatch q)
    obtain ⟨p12, ep12, hf⟩ := xbind hf
    refine xb_callV (As := [.int l5, .int (1 : Int32), .int l3]) (v0 := none) (τ0 := p12) dX12_addCase_161 (xc_X12_layCase _ _) xcl12 xw_2580 xw_2582 xs_181 hb rfl (Nat.le_of_ble_eq_true rfl) rfl (Nat.le_of_ble_eq_true rfl) (fun Q1 hq => m_X12_layCase (d := d + 0) ep12 (fun g hg => by subst hg; exact hq)) ?_
    refine xm_aload_n dX12_addCase_164 rfl ?_
    refine xb_getR (a := l0) (c := 12) (k := 12) dX12_addCase_165 xcl12 (by decide) xw_1849 rfl hf (fun x13 ex13 hf => ?_)
    refine xm_iload dX12_addCase_168 rfl ?_
    refine xm_dup2 dX12_addCase_170 rfl rfl ?_
    refine xb_iald dX12_addCase_171 hf (fun x14 ex14 hf => ?_)
    refine xm_iconst dX12_addCase_172 (v := 1) (by decide) ?_
    refine xm_iadd dX12_addCase_173 ?_
    refine xb_iast dX12_addCase_174 hf (fun σ15 eσ15 hf => ?_)
    refine xm_aload_n dX12_addCase_175 rfl ?_
    refine xb_getR (a := l0) (c := 12) (k := 12) dX12_addCase_176 xcl12 (by decide) xw_1849 rfl hf (fun x16 ex16 hf => ?_)
    refine xm_iload dX12_addCase_179 rfl ?_
    refine xb_iald dX12_addCase_181 hf (fun x17 ex17 hf => ?_)
    cases hf
    exact xm_iret dX12_addCase_182 rfl (hR _ rfl)
  · refine xm_iconst dX12_addCase_140 (v := 0) (by decide) ?_
    cases hf
    exact xm_iret dX12_addCase_141 rfl (hR _ rfl)
def f_X12_addCase_j129 (σ : xM) (l0 : Nat) (l2 : Int32) (l3 : Int32) (l5 : Int32) (s0 : Int32) (s1 : Int32) (s2 : Nat) : Option (Int32 × xM) :=
  f_X12_addCase_j134 σ l0 l2 l3 l5 (1 : Int32) s0 s1 s2
set_option maxHeartbeats 4000000 in
set_option maxRecDepth 20000 in
theorem L_X12_addCase_j129 {G : xG} {π : Nat → Nat} {d C Z : Nat} {Q : xQ} (σ : xM) (l0 : Nat) (l2 : Int32) (l3 : Int32) (l5 : Int32) (s0 : Int32) (s1 : Int32) (s2 : Nat) {x : (Int32 × xM)} (hf : f_X12_addCase_j129 σ l0 l2 l3 l5 s0 s1 s2 = some x) (hR : ∀ g, x = g → Q (.inl (some (.int g.1))) (g.2) π) : xMach G π J_X12_addCase (d + 2) C Z 129 [(0, .ref l0), (2, .int l2), (3, .int l3), (5, .int l5)] [.int s0, .int s1, .ref s2] σ Q := by
  unfold f_X12_addCase_j129 at hf
  refine xm_iconst dX12_addCase_129 (v := 1) (by decide) ?_
  refine xm_goto 134 dX12_addCase_130 (by decide) ?_
  exact xm_sub [0, 1, 2, 3] rfl (L_X12_addCase_j134 σ l0 l2 l3 l5 (1 : Int32) s0 s1 s2 hf hR)
def f_X12_addCase_j98 (σ : xM) (l0 : Nat) (l2 : Int32) (l3 : Int32) (l5 : Int32) (s0 : Int32) : Option (Int32 × xM) :=
  (gR σ l0 12 11).bind (fun x7 => (aI σ x7 14 l5).bind (fun x8 => (if x8 = (0 : Int32) then f_X12_addCase_j129 σ l0 l2 l3 l5 (0 : Int32) (0 : Int32) l0 else (gR σ l0 12 12).bind (fun x18 => (aI σ x18 14 l5).bind (fun x19 => (if x19 = (4 : Int32) then f_X12_addCase_j129 σ l0 l2 l3 l5 (0 : Int32) (0 : Int32) l0 else (if s0 = (0 : Int32) then f_X12_addCase_j134 σ l0 l2 l3 l5 (0 : Int32) (0 : Int32) (0 : Int32) l0 else f_X12_addCase_j129 σ l0 l2 l3 l5 (0 : Int32) (0 : Int32) l0)))))))
set_option maxHeartbeats 4000000 in
set_option maxRecDepth 20000 in
theorem L_X12_addCase_j98 {G : xG} {π : Nat → Nat} {d C Z : Nat} {Q : xQ} (σ : xM) (l0 : Nat) (l2 : Int32) (l3 : Int32) (l5 : Int32) (s0 : Int32) {x : (Int32 × xM)} (hf : f_X12_addCase_j98 σ l0 l2 l3 l5 s0 = some x) (hR : ∀ g, x = g → Q (.inl (some (.int g.1))) (g.2) π) : xMach G π J_X12_addCase (d + 2) C Z 98 [(0, .ref l0), (2, .int l2), (3, .int l3), (5, .int l5)] [.int s0] σ Q := by
  unfold f_X12_addCase_j98 at hf
  refine xm_istore dX12_addCase_98 (by decide) (xm_stL (L' := [(6, .int s0), (0, .ref l0), (2, .int l2), (3, .int l3), (5, .int l5)]) rfl ?_)
  refine xm_aload_n dX12_addCase_100 rfl ?_
  refine xm_iconst dX12_addCase_101 (v := 0) (by decide) ?_
  refine xm_iconst dX12_addCase_102 (v := 0) (by decide) ?_
  refine xm_aload_n dX12_addCase_103 rfl ?_
  refine xb_getR (a := l0) (c := 12) (k := 11) dX12_addCase_104 xcl12 (by decide) xw_1848 rfl hf (fun x7 ex7 hf => ?_)
  refine xm_iload dX12_addCase_107 rfl ?_
  refine xb_iald dX12_addCase_109 hf (fun x8 ex8 hf => ?_)
  refine xb_if_eq 129 dX12_addCase_110 (by decide) hf (fun c hf => ?_) (fun c hf => ?_)
  · exact xm_sub [1, 2, 3, 4] rfl (L_X12_addCase_j129 σ l0 l2 l3 l5 (0 : Int32) (0 : Int32) l0 hf hR)
  · refine xm_aload_n dX12_addCase_113 rfl ?_
    refine xb_getR (a := l0) (c := 12) (k := 12) dX12_addCase_114 xcl12 (by decide) xw_1849 rfl hf (fun x18 ex18 hf => ?_)
    refine xm_iload dX12_addCase_117 rfl ?_
    refine xb_iald dX12_addCase_119 hf (fun x19 ex19 hf => ?_)
    refine xm_iconst dX12_addCase_120 (v := 4) (by decide) ?_
    refine xb_icmp_eq 129 dX12_addCase_121 (by decide) hf (fun c hf => ?_) (fun c hf => ?_)
    · exact xm_sub [1, 2, 3, 4] rfl (L_X12_addCase_j129 σ l0 l2 l3 l5 (0 : Int32) (0 : Int32) l0 hf hR)
    · refine xm_iload dX12_addCase_124 rfl ?_
      refine xb_if_eq 133 dX12_addCase_126 (by decide) hf (fun c hf => ?_) (fun c hf => ?_)
      · refine xm_iconst dX12_addCase_133 (v := 0) (by decide) ?_
        exact xm_sub [1, 2, 3, 4] rfl (L_X12_addCase_j134 σ l0 l2 l3 l5 (0 : Int32) (0 : Int32) (0 : Int32) l0 hf hR)
      · exact xm_sub [1, 2, 3, 4] rfl (L_X12_addCase_j129 σ l0 l2 l3 l5 (0 : Int32) (0 : Int32) l0 hf hR)
def f_X12_addCase_j93 (σ : xM) (l0 : Nat) (l2 : Int32) (l3 : Int32) (l5 : Int32) : Option (Int32 × xM) :=
  f_X12_addCase_j98 σ l0 l2 l3 l5 (1 : Int32)
set_option maxHeartbeats 4000000 in
set_option maxRecDepth 20000 in
theorem L_X12_addCase_j93 {G : xG} {π : Nat → Nat} {d C Z : Nat} {Q : xQ} (σ : xM) (l0 : Nat) (l2 : Int32) (l3 : Int32) (l5 : Int32) {x : (Int32 × xM)} (hf : f_X12_addCase_j93 σ l0 l2 l3 l5 = some x) (hR : ∀ g, x = g → Q (.inl (some (.int g.1))) (g.2) π) : xMach G π J_X12_addCase (d + 2) C Z 93 [(0, .ref l0), (2, .int l2), (3, .int l3), (5, .int l5)] [] σ Q := by
  unfold f_X12_addCase_j93 at hf
  refine xm_iconst dX12_addCase_93 (v := 1) (by decide) ?_
  refine xm_goto 98 dX12_addCase_94 (by decide) ?_
  exact xm_sub [0, 1, 2, 3] rfl (L_X12_addCase_j98 σ l0 l2 l3 l5 (1 : Int32) hf hR)
def f_X12_addCase_j97 (σ : xM) (l0 : Nat) (l2 : Int32) (l3 : Int32) (l5 : Int32) : Option (Int32 × xM) :=
  f_X12_addCase_j98 σ l0 l2 l3 l5 (0 : Int32)
set_option maxHeartbeats 4000000 in
set_option maxRecDepth 20000 in
theorem L_X12_addCase_j97 {G : xG} {π : Nat → Nat} {d C Z : Nat} {Q : xQ} (σ : xM) (l0 : Nat) (l2 : Int32) (l3 : Int32) (l5 : Int32) {x : (Int32 × xM)} (hf : f_X12_addCase_j97 σ l0 l2 l3 l5 = some x) (hR : ∀ g, x = g → Q (.inl (some (.int g.1))) (g.2) π) : xMach G π J_X12_addCase (d + 2) C Z 97 [(0, .ref l0), (2, .int l2), (3, .int l3), (5, .int l5)] [] σ Q := by
  unfold f_X12_addCase_j97 at hf
  refine xm_iconst dX12_addCase_97 (v := 0) (by decide) ?_
  exact xm_sub [0, 1, 2, 3] rfl (L_X12_addCase_j98 σ l0 l2 l3 l5 (0 : Int32) hf hR)
def f_X12_addCase_j51 (σ : xM) (l0 : Nat) (l1 : Int32) (l2 : Int32) (l3 : Int32) (s0 : Int32) (s1 : Int32) (s2 : Nat) : Option (Int32 × xM) :=
  (if xk σ s2 12 = true then (f_X12_refused σ s2 s1 s0 (0 : Int32)).bind (fun p3 => (if p3.1 = (0 : Int32) then xlet (l1 - (97 : Int32)) (fun v4 => (gR p3.2 l0 12 9).bind (fun x5 => (aI p3.2 x5 14 l3).bind (fun x6 => (if (30 : Int32) < x6 then f_X12_addCase_j93 p3.2 l0 l2 l3 v4 else (if l2 = (-1 : Int32) then f_X12_addCase_j97 p3.2 l0 l2 l3 v4 else (gR p3.2 l0 12 9).bind (fun x20 => (aI p3.2 x20 14 l2).bind (fun x21 => (if x21 ≤ (30 : Int32) then f_X12_addCase_j97 p3.2 l0 l2 l3 v4 else f_X12_addCase_j93 p3.2 l0 l2 l3 v4)))))))) else some ((0 : Int32), p3.2))) else none)
set_option maxHeartbeats 4000000 in
set_option maxRecDepth 20000 in
theorem L_X12_addCase_j51 {G : xG} {π : Nat → Nat} {d C Z : Nat} {Q : xQ} (σ : xM) (l0 : Nat) (l1 : Int32) (l2 : Int32) (l3 : Int32) (s0 : Int32) (s1 : Int32) (s2 : Nat) {x : (Int32 × xM)} (hf : f_X12_addCase_j51 σ l0 l1 l2 l3 s0 s1 s2 = some x) (hR : ∀ g, x = g → Q (.inl (some (.int g.1))) (g.2) π) : xMach G π J_X12_addCase (d + 2) C Z 51 [(0, .ref l0), (1, .int l1), (2, .int l2), (3, .int l3)] [.int s0, .int s1, .ref s2] σ Q := by
  unfold f_X12_addCase_j51 at hf
  refine xm_iconst dX12_addCase_51 (v := 0) (by decide) ?_
  refine xb_if hf (fun hb hf => ?_) (fun _ q => nomatch q)
  obtain ⟨p3, ep3, hf⟩ := xbind hf
  refine xb_callV (As := [.int s1, .int s0, .int (0 : Int32)]) (v0 := (some (.int p3.1))) (τ0 := p3.2) dX12_addCase_52 (xc_X12_refused _ _) xcl12 xw_2112 xw_2114 xs_90 hb rfl (Nat.le_of_ble_eq_true rfl) rfl (Nat.le_of_ble_eq_true rfl) (fun Q1 hq => m_X12_refused (d := d + 1) ep3 (fun g hg => by subst hg; exact hq)) ?_
  refine xb_if_eq 60 dX12_addCase_55 (by decide) hf (fun c hf => ?_) (fun c hf => ?_)
  · refine xm_iload_n dX12_addCase_60 rfl ?_
    refine xm_bipush dX12_addCase_61 (v := 97) (by decide) ?_
    refine xm_isub dX12_addCase_63 ?_
    refine xb_topi hf (fun v4 ev4 hf => ?_)
    refine xm_istore dX12_addCase_64 (by decide) (xm_stL (L' := [(5, .int v4), (0, .ref l0), (1, .int l1), (2, .int l2), (3, .int l3)]) rfl ?_)
    refine xm_aload_n dX12_addCase_66 rfl ?_
    refine xb_getR (a := l0) (c := 12) (k := 9) dX12_addCase_67 xcl12 (by decide) xw_1846 rfl hf (fun x5 ex5 hf => ?_)
    refine xm_iload_n dX12_addCase_70 rfl ?_
    refine xb_iald dX12_addCase_71 hf (fun x6 ex6 hf => ?_)
    refine xm_bipush dX12_addCase_72 (v := 30) (by decide) ?_
    refine xb_icmp_gt 93 dX12_addCase_74 (by decide) hf (fun c hf => ?_) (fun c hf => ?_)
    · exact xm_sub [1, 3, 4, 0] rfl (L_X12_addCase_j93 p3.2 l0 l2 l3 v4 hf hR)
    · refine xm_iload_n dX12_addCase_77 rfl ?_
      refine xm_iconst dX12_addCase_78 (v := -1) (by decide) ?_
      refine xb_icmp_eq 97 dX12_addCase_79 (by decide) hf (fun c hf => ?_) (fun c hf => ?_)
      · exact xm_sub [1, 3, 4, 0] rfl (L_X12_addCase_j97 p3.2 l0 l2 l3 v4 hf hR)
      · refine xm_aload_n dX12_addCase_82 rfl ?_
        refine xb_getR (a := l0) (c := 12) (k := 9) dX12_addCase_83 xcl12 (by decide) xw_1846 rfl hf (fun x20 ex20 hf => ?_)
        refine xm_iload_n dX12_addCase_86 rfl ?_
        refine xb_iald dX12_addCase_87 hf (fun x21 ex21 hf => ?_)
        refine xm_bipush dX12_addCase_88 (v := 30) (by decide) ?_
        refine xb_icmp_le 97 dX12_addCase_90 (by decide) hf (fun c hf => ?_) (fun c hf => ?_)
        · exact xm_sub [1, 3, 4, 0] rfl (L_X12_addCase_j97 p3.2 l0 l2 l3 v4 hf hR)
        · exact xm_sub [1, 3, 4, 0] rfl (L_X12_addCase_j93 p3.2 l0 l2 l3 v4 hf hR)
  · refine xm_iconst dX12_addCase_58 (v := 0) (by decide) ?_
    cases hf
    exact xm_iret dX12_addCase_59 rfl (hR _ rfl)
def f_X12_addCase_j41 (σ : xM) (l0 : Nat) (l1 : Int32) (l2 : Int32) (l3 : Int32) (l4 : Int32) (s0 : Int32) (s1 : Nat) : Option (Int32 × xM) :=
  (if l4 = (0 : Int32) then f_X12_addCase_j51 σ l0 l1 l2 l3 (1 : Int32) s0 s1 else f_X12_addCase_j51 σ l0 l1 l2 l3 (0 : Int32) s0 s1)
set_option maxHeartbeats 4000000 in
set_option maxRecDepth 20000 in
theorem L_X12_addCase_j41 {G : xG} {π : Nat → Nat} {d C Z : Nat} {Q : xQ} (σ : xM) (l0 : Nat) (l1 : Int32) (l2 : Int32) (l3 : Int32) (l4 : Int32) (s0 : Int32) (s1 : Nat) {x : (Int32 × xM)} (hf : f_X12_addCase_j41 σ l0 l1 l2 l3 l4 s0 s1 = some x) (hR : ∀ g, x = g → Q (.inl (some (.int g.1))) (g.2) π) : xMach G π J_X12_addCase (d + 2) C Z 41 [(0, .ref l0), (1, .int l1), (2, .int l2), (3, .int l3), (4, .int l4)] [.int s0, .ref s1] σ Q := by
  unfold f_X12_addCase_j41 at hf
  refine xm_iload dX12_addCase_41 rfl ?_
  refine xb_if_ne 50 dX12_addCase_43 (by decide) hf (fun c hf => ?_) (fun c hf => ?_)
  · refine xm_iconst dX12_addCase_50 (v := 0) (by decide) ?_
    exact xm_sub [0, 1, 2, 3] rfl (L_X12_addCase_j51 σ l0 l1 l2 l3 (0 : Int32) s0 s1 hf hR)
  · refine xm_iconst dX12_addCase_46 (v := 1) (by decide) ?_
    refine xm_goto 51 dX12_addCase_47 (by decide) ?_
    exact xm_sub [0, 1, 2, 3] rfl (L_X12_addCase_j51 σ l0 l1 l2 l3 (1 : Int32) s0 s1 hf hR)
def f_X12_addCase_j26 (σ : xM) (l0 : Nat) (l1 : Int32) (l2 : Int32) (l3 : Int32) (s0 : Int32) : Option (Int32 × xM) :=
  (f_X12_isName σ l1).bind (fun p2 => (if p2 = (0 : Int32) then f_X12_addCase_j41 σ l0 l1 l2 l3 s0 (1 : Int32) l0 else f_X12_addCase_j41 σ l0 l1 l2 l3 s0 (0 : Int32) l0))
set_option maxHeartbeats 4000000 in
set_option maxRecDepth 20000 in
theorem L_X12_addCase_j26 {G : xG} {π : Nat → Nat} {d C Z : Nat} {Q : xQ} (σ : xM) (l0 : Nat) (l1 : Int32) (l2 : Int32) (l3 : Int32) (s0 : Int32) {x : (Int32 × xM)} (hf : f_X12_addCase_j26 σ l0 l1 l2 l3 s0 = some x) (hR : ∀ g, x = g → Q (.inl (some (.int g.1))) (g.2) π) : xMach G π J_X12_addCase (d + 2) C Z 26 [(0, .ref l0), (1, .int l1), (2, .int l2), (3, .int l3)] [.int s0] σ Q := by
  unfold f_X12_addCase_j26 at hf
  refine xm_istore dX12_addCase_26 (by decide) (xm_stL (L' := [(4, .int s0), (0, .ref l0), (1, .int l1), (2, .int l2), (3, .int l3)]) rfl ?_)
  refine xm_aload_n dX12_addCase_28 rfl ?_
  refine xm_iload_n dX12_addCase_29 rfl ?_
  obtain ⟨p2, ep2, hf⟩ := xbind hf
  refine xb_callS (As := [.int l1]) (v0 := (some (.int p2))) (τ0 := σ) dX12_addCase_30 (xc_X12_isName _ _) xw_2257 xw_2258 rfl (Nat.le_of_ble_eq_true rfl) rfl (Nat.le_of_ble_eq_true rfl) (fun Q1 hq => m_X12_isName (d := d + 0) ep2 (fun g hg => by subst hg; exact hq)) ?_
  refine xb_if_ne 40 dX12_addCase_33 (by decide) hf (fun c hf => ?_) (fun c hf => ?_)
  · refine xm_iconst dX12_addCase_40 (v := 0) (by decide) ?_
    exact xm_sub [1, 2, 3, 4, 0] rfl (L_X12_addCase_j41 σ l0 l1 l2 l3 s0 (0 : Int32) l0 hf hR)
  · refine xm_iconst dX12_addCase_36 (v := 1) (by decide) ?_
    refine xm_goto 41 dX12_addCase_37 (by decide) ?_
    exact xm_sub [1, 2, 3, 4, 0] rfl (L_X12_addCase_j41 σ l0 l1 l2 l3 s0 (1 : Int32) l0 hf hR)
def f_X12_addCase_j25 (σ : xM) (l0 : Nat) (l1 : Int32) (l2 : Int32) (l3 : Int32) : Option (Int32 × xM) :=
  f_X12_addCase_j26 σ l0 l1 l2 l3 (0 : Int32)
set_option maxHeartbeats 4000000 in
set_option maxRecDepth 20000 in
theorem L_X12_addCase_j25 {G : xG} {π : Nat → Nat} {d C Z : Nat} {Q : xQ} (σ : xM) (l0 : Nat) (l1 : Int32) (l2 : Int32) (l3 : Int32) {x : (Int32 × xM)} (hf : f_X12_addCase_j25 σ l0 l1 l2 l3 = some x) (hR : ∀ g, x = g → Q (.inl (some (.int g.1))) (g.2) π) : xMach G π J_X12_addCase (d + 2) C Z 25 [(0, .ref l0), (1, .int l1), (2, .int l2), (3, .int l3)] [] σ Q := by
  unfold f_X12_addCase_j25 at hf
  refine xm_iconst dX12_addCase_25 (v := 0) (by decide) ?_
  exact xm_sub [0, 1, 2, 3] rfl (L_X12_addCase_j26 σ l0 l1 l2 l3 (0 : Int32) hf hR)
def f_X12_addCase_j21 (σ : xM) (l0 : Nat) (l1 : Int32) (l2 : Int32) (l3 : Int32) : Option (Int32 × xM) :=
  f_X12_addCase_j26 σ l0 l1 l2 l3 (1 : Int32)
set_option maxHeartbeats 4000000 in
set_option maxRecDepth 20000 in
theorem L_X12_addCase_j21 {G : xG} {π : Nat → Nat} {d C Z : Nat} {Q : xQ} (σ : xM) (l0 : Nat) (l1 : Int32) (l2 : Int32) (l3 : Int32) {x : (Int32 × xM)} (hf : f_X12_addCase_j21 σ l0 l1 l2 l3 = some x) (hR : ∀ g, x = g → Q (.inl (some (.int g.1))) (g.2) π) : xMach G π J_X12_addCase (d + 2) C Z 21 [(0, .ref l0), (1, .int l1), (2, .int l2), (3, .int l3)] [] σ Q := by
  unfold f_X12_addCase_j21 at hf
  refine xm_iconst dX12_addCase_21 (v := 1) (by decide) ?_
  refine xm_goto 26 dX12_addCase_22 (by decide) ?_
  exact xm_sub [0, 1, 2, 3] rfl (L_X12_addCase_j26 σ l0 l1 l2 l3 (1 : Int32) hf hR)
def f_X12_addCase (σ : xM) (l0 : Nat) (l1 : Int32) (l2 : Int32) (l3 : Int32) : Option (Int32 × xM) :=
  (if xk σ l0 12 = true then (f_X12_isTree σ l0 l3).bind (fun p1 => (if p1 = (0 : Int32) then f_X12_addCase_j25 σ l0 l1 l2 l3 else (if l2 = (-1 : Int32) then f_X12_addCase_j21 σ l0 l1 l2 l3 else (if xk σ l0 12 = true then (f_X12_isTree σ l0 l2).bind (fun p22 => (if p22 = (0 : Int32) then f_X12_addCase_j25 σ l0 l1 l2 l3 else f_X12_addCase_j21 σ l0 l1 l2 l3)) else none)))) else none)
set_option maxHeartbeats 4000000 in
set_option maxRecDepth 20000 in
theorem m_X12_addCase {G : xG} {π : Nat → Nat} {d C Z : Nat} {Q : xQ} {σ : xM} {l0 : Nat} {l1 : Int32} {l2 : Int32} {l3 : Int32} {x : (Int32 × xM)} (hf : f_X12_addCase σ l0 l1 l2 l3 = some x) (hR : ∀ g, x = g → Q (.inl (some (.int g.1))) (g.2) π) : xMach G π J_X12_addCase (d + 2) C Z 0 (lv_args 0 [.ref l0, .int l1, .int l2, .int l3]) [] σ Q := by
  unfold f_X12_addCase at hf
  refine xm_stL (L' := [(0, .ref l0), (1, .int l1), (2, .int l2), (3, .int l3)]) rfl ?_
  refine xm_aload_n dX12_addCase_0 rfl ?_
  refine xm_iload_n dX12_addCase_1 rfl ?_
  refine xb_if hf (fun hb hf => ?_) (fun _ q => nomatch q)
  obtain ⟨p1, ep1, hf⟩ := xbind hf
  refine xb_callV (As := [.int l3]) (v0 := (some (.int p1))) (τ0 := σ) dX12_addCase_2 (xc_X12_isTree _ _) xcl12 xw_2233 xw_2235 xs_113 hb rfl (Nat.le_of_ble_eq_true rfl) rfl (Nat.le_of_ble_eq_true rfl) (fun Q1 hq => m_X12_isTree (d := d + 0) ep1 (fun g hg => by subst hg; exact hq)) ?_
  refine xb_if_eq 25 dX12_addCase_5 (by decide) hf (fun c hf => ?_) (fun c hf => ?_)
  · exact xm_sub [0, 1, 2, 3] rfl (L_X12_addCase_j25 σ l0 l1 l2 l3 hf hR)
  · refine xm_iload_n dX12_addCase_8 rfl ?_
    refine xm_iconst dX12_addCase_9 (v := -1) (by decide) ?_
    refine xb_icmp_eq 21 dX12_addCase_10 (by decide) hf (fun c hf => ?_) (fun c hf => ?_)
    · exact xm_sub [0, 1, 2, 3] rfl (L_X12_addCase_j21 σ l0 l1 l2 l3 hf hR)
    · refine xm_aload_n dX12_addCase_13 rfl ?_
      refine xm_iload_n dX12_addCase_14 rfl ?_
      refine xb_if hf (fun hb hf => ?_) (fun _ q => nomatch q)
      obtain ⟨p22, ep22, hf⟩ := xbind hf
      refine xb_callV (As := [.int l2]) (v0 := (some (.int p22))) (τ0 := σ) dX12_addCase_15 (xc_X12_isTree _ _) xcl12 xw_2233 xw_2235 xs_113 hb rfl (Nat.le_of_ble_eq_true rfl) rfl (Nat.le_of_ble_eq_true rfl) (fun Q1 hq => m_X12_isTree (d := d + 0) ep22 (fun g hg => by subst hg; exact hq)) ?_
      refine xb_if_eq 25 dX12_addCase_18 (by decide) hf (fun c hf => ?_) (fun c hf => ?_)
      · exact xm_sub [0, 1, 2, 3] rfl (L_X12_addCase_j25 σ l0 l1 l2 l3 hf hR)
      · exact xm_sub [0, 1, 2, 3] rfl (L_X12_addCase_j21 σ l0 l1 l2 l3 hf hR)
-- RankwiseModel.step(I)I
def f_X12_step_j72 (σ : xM) (s0 : Int32) : Option (Int32 × xM) :=
  some (s0, σ)
set_option maxHeartbeats 4000000 in
set_option maxRecDepth 20000 in
theorem L_X12_step_j72 {G : xG} {π : Nat → Nat} {d C Z : Nat} {Q : xQ} (σ : xM) (s0 : Int32) {x : (Int32 × xM)} (hf : f_X12_step_j72 σ s0 = some x) (hR : ∀ g, x = g → Q (.inl (some (.int g.1))) (g.2) π) : xMach G π J_X12_step (d + 7) C Z 72 [] [.int s0] σ Q := by
  unfold f_X12_step_j72 at hf
  cases hf
  exact xm_iret dX12_step_72 rfl (hR _ rfl)
def f_X12_step_j28 (σ : xM) (l0 : Nat) (l1 : Int32) (s0 : Int32) (s1 : Int32) (s2 : Nat) : Option (Int32 × xM) :=
  (if xk σ s2 12 = true then (f_X12_refused σ s2 s1 s0 (0 : Int32)).bind (fun p3 => (if p3.1 = (0 : Int32) then (f_X12_shelf p3.2 l1).bind (fun p4 => (if xk p3.2 l0 12 = true then (f_X12_takeWork p3.2 l0 p4).bind (fun p5 => (sI p5 l0 12 67 (0 : Int32)).bind (fun σ6 => (if xk σ6 l0 12 = true then (f_X12_stepWork σ6 l0).bind (fun p7 => (if p7.1 = (0 : Int32) then f_X12_step_j72 p7.2 (-1 : Int32) else (gI p7.2 l0 12 64).bind (fun x8 => (if xk p7.2 l0 12 = true then (f_X12_shelve p7.2 l0 (13540 : Int32) x8).bind (fun p9 => f_X12_step_j72 p9.2 p9.1) else none)))) else none))) else none)) else some ((0 : Int32), p3.2))) else none)
set_option maxHeartbeats 4000000 in
set_option maxRecDepth 20000 in
theorem L_X12_step_j28 {G : xG} {π : Nat → Nat} {d C Z : Nat} {Q : xQ} (σ : xM) (l0 : Nat) (l1 : Int32) (s0 : Int32) (s1 : Int32) (s2 : Nat) {x : (Int32 × xM)} (hf : f_X12_step_j28 σ l0 l1 s0 s1 s2 = some x) (hR : ∀ g, x = g → Q (.inl (some (.int g.1))) (g.2) π) : xMach G π J_X12_step (d + 7) C Z 28 [(0, .ref l0), (1, .int l1)] [.int s0, .int s1, .ref s2] σ Q := by
  unfold f_X12_step_j28 at hf
  refine xm_iconst dX12_step_28 (v := 0) (by decide) ?_
  refine xb_if hf (fun hb hf => ?_) (fun _ q => nomatch q)
  obtain ⟨p3, ep3, hf⟩ := xbind hf
  refine xb_callV (As := [.int s1, .int s0, .int (0 : Int32)]) (v0 := (some (.int p3.1))) (τ0 := p3.2) dX12_step_29 (xc_X12_refused _ _) xcl12 xw_2112 xw_2114 xs_90 hb rfl (Nat.le_of_ble_eq_true rfl) rfl (Nat.le_of_ble_eq_true rfl) (fun Q1 hq => m_X12_refused (d := d + 6) ep3 (fun g hg => by subst hg; exact hq)) ?_
  refine xb_if_eq 37 dX12_step_32 (by decide) hf (fun c hf => ?_) (fun c hf => ?_)
  · refine xm_aload_n dX12_step_37 rfl ?_
    refine xm_iload_n dX12_step_38 rfl ?_
    obtain ⟨p4, ep4, hf⟩ := xbind hf
    refine xb_callS (As := [.int l1]) (v0 := (some (.int p4))) (τ0 := p3.2) dX12_step_39 (xc_X12_shelf _ _) xw_2214 xw_2215 rfl (Nat.le_of_ble_eq_true rfl) rfl (Nat.le_of_ble_eq_true rfl) (fun Q1 hq => m_X12_shelf (d := d + 6) ep4 (fun g hg => by subst hg; exact hq)) ?_
    refine xb_if hf (fun hb hf => ?_) (fun _ q => nomatch q)
    obtain ⟨p5, ep5, hf⟩ := xbind hf
    refine xb_callV (As := [.int p4]) (v0 := none) (τ0 := p5) dX12_step_42 (xc_X12_takeWork _ _) xcl12 xw_2588 xw_2590 xs_182 hb rfl (Nat.le_of_ble_eq_true rfl) rfl (Nat.le_of_ble_eq_true rfl) (fun Q1 hq => m_X12_takeWork (d := d + 5) ep5 (fun g hg => by subst hg; exact hq)) ?_
    refine xm_aload_n dX12_step_45 rfl ?_
    refine xm_iconst dX12_step_46 (v := 0) (by decide) ?_
    refine xb_putI (a := l0) (c := 12) (k := 67) dX12_step_47 xcl12 (by decide) xw_1904 rfl rfl hf (fun σ6 eσ6 hf => ?_)
    refine xm_aload_n dX12_step_50 rfl ?_
    refine xb_if hf (fun hb hf => ?_) (fun _ q => nomatch q)
    obtain ⟨p7, ep7, hf⟩ := xbind hf
    refine xb_callV (As := []) (v0 := (some (.int p7.1))) (τ0 := p7.2) dX12_step_51 (xc_X12_stepWork _ _) xcl12 xw_2592 xw_2594 xs_183 hb rfl (Nat.le_of_ble_eq_true rfl) rfl (Nat.le_of_ble_eq_true rfl) (fun Q1 hq => m_X12_stepWork (d := d + 0) ep7 (fun g hg => by subst hg; exact hq)) ?_
    refine xb_if_eq 71 dX12_step_54 (by decide) hf (fun c hf => ?_) (fun c hf => ?_)
    · refine xm_iconst dX12_step_71 (v := -1) (by decide) ?_
      exact xm_sub [] rfl (L_X12_step_j72 p7.2 (-1 : Int32) hf hR)
    · refine xm_aload_n dX12_step_57 rfl ?_
      refine xm_sipush dX12_step_58 (v := 13540) (by decide) ?_
      refine xm_aload_n dX12_step_61 rfl ?_
      refine xb_getI (a := l0) (c := 12) (k := 64) dX12_step_62 xcl12 (by decide) xw_1901 rfl hf (fun x8 ex8 hf => ?_)
      refine xb_if hf (fun hb hf => ?_) (fun _ q => nomatch q)
      obtain ⟨p9, ep9, hf⟩ := xbind hf
      refine xb_callV (As := [.int (13540 : Int32), .int x8]) (v0 := (some (.int p9.1))) (τ0 := p9.2) dX12_step_65 (xc_X12_shelve _ _) xcl12 xw_2210 xw_2212 xs_110 hb rfl (Nat.le_of_ble_eq_true rfl) rfl (Nat.le_of_ble_eq_true rfl) (fun Q1 hq => m_X12_shelve (d := d + 5) ep9 (fun g hg => by subst hg; exact hq)) ?_
      refine xm_goto 72 dX12_step_68 (by decide) ?_
      exact xm_sub [] rfl (L_X12_step_j72 p9.2 p9.1 hf hR)
  · refine xm_iconst dX12_step_35 (v := 0) (by decide) ?_
    cases hf
    exact xm_iret dX12_step_36 rfl (hR _ rfl)
def f_X12_step_j14 (σ : xM) (l0 : Nat) (l1 : Int32) (s0 : Int32) (s1 : Nat) : Option (Int32 × xM) :=
  (gI σ l0 12 10).bind (fun x2 => (if x2 = (30 : Int32) then f_X12_step_j28 σ l0 l1 (1 : Int32) s0 s1 else f_X12_step_j28 σ l0 l1 (0 : Int32) s0 s1))
set_option maxHeartbeats 4000000 in
set_option maxRecDepth 20000 in
theorem L_X12_step_j14 {G : xG} {π : Nat → Nat} {d C Z : Nat} {Q : xQ} (σ : xM) (l0 : Nat) (l1 : Int32) (s0 : Int32) (s1 : Nat) {x : (Int32 × xM)} (hf : f_X12_step_j14 σ l0 l1 s0 s1 = some x) (hR : ∀ g, x = g → Q (.inl (some (.int g.1))) (g.2) π) : xMach G π J_X12_step (d + 7) C Z 14 [(0, .ref l0), (1, .int l1)] [.int s0, .ref s1] σ Q := by
  unfold f_X12_step_j14 at hf
  refine xm_aload_n dX12_step_14 rfl ?_
  refine xb_getI (a := l0) (c := 12) (k := 10) dX12_step_15 xcl12 (by decide) xw_1847 rfl hf (fun x2 ex2 hf => ?_)
  refine xm_bipush dX12_step_18 (v := 30) (by decide) ?_
  refine xb_icmp_ne 27 dX12_step_20 (by decide) hf (fun c hf => ?_) (fun c hf => ?_)
  · refine xm_iconst dX12_step_27 (v := 0) (by decide) ?_
    exact xm_sub [0, 1] rfl (L_X12_step_j28 σ l0 l1 (0 : Int32) s0 s1 hf hR)
  · refine xm_iconst dX12_step_23 (v := 1) (by decide) ?_
    refine xm_goto 28 dX12_step_24 (by decide) ?_
    exact xm_sub [0, 1] rfl (L_X12_step_j28 σ l0 l1 (1 : Int32) s0 s1 hf hR)
def f_X12_step (σ : xM) (l0 : Nat) (l1 : Int32) : Option (Int32 × xM) :=
  (if xk σ l0 12 = true then (f_X12_isTree σ l0 l1).bind (fun p1 => (if p1 = (0 : Int32) then f_X12_step_j14 σ l0 l1 (1 : Int32) l0 else f_X12_step_j14 σ l0 l1 (0 : Int32) l0)) else none)
set_option maxHeartbeats 4000000 in
set_option maxRecDepth 20000 in
theorem m_X12_step {G : xG} {π : Nat → Nat} {d C Z : Nat} {Q : xQ} {σ : xM} {l0 : Nat} {l1 : Int32} {x : (Int32 × xM)} (hf : f_X12_step σ l0 l1 = some x) (hR : ∀ g, x = g → Q (.inl (some (.int g.1))) (g.2) π) : xMach G π J_X12_step (d + 7) C Z 0 (lv_args 0 [.ref l0, .int l1]) [] σ Q := by
  unfold f_X12_step at hf
  refine xm_stL (L' := [(0, .ref l0), (1, .int l1)]) rfl ?_
  refine xm_aload_n dX12_step_0 rfl ?_
  refine xm_aload_n dX12_step_1 rfl ?_
  refine xm_iload_n dX12_step_2 rfl ?_
  refine xb_if hf (fun hb hf => ?_) (fun _ q => nomatch q)
  obtain ⟨p1, ep1, hf⟩ := xbind hf
  refine xb_callV (As := [.int l1]) (v0 := (some (.int p1))) (τ0 := σ) dX12_step_3 (xc_X12_isTree _ _) xcl12 xw_2233 xw_2235 xs_113 hb rfl (Nat.le_of_ble_eq_true rfl) rfl (Nat.le_of_ble_eq_true rfl) (fun Q1 hq => m_X12_isTree (d := d + 5) ep1 (fun g hg => by subst hg; exact hq)) ?_
  refine xb_if_ne 13 dX12_step_6 (by decide) hf (fun c hf => ?_) (fun c hf => ?_)
  · refine xm_iconst dX12_step_13 (v := 0) (by decide) ?_
    exact xm_sub [0, 1] rfl (L_X12_step_j14 σ l0 l1 (0 : Int32) l0 hf hR)
  · refine xm_iconst dX12_step_9 (v := 1) (by decide) ?_
    refine xm_goto 14 dX12_step_10 (by decide) ?_
    exact xm_sub [0, 1] rfl (L_X12_step_j14 σ l0 l1 (1 : Int32) l0 hf hR)
-- RankwiseModel.simplify(I)I
def f_X12_simplify_s55 (s : (Nat × Int32 × Int32 × xM)) : Option ((Int32 × xM) ⊕ ((Nat × Int32 × xM) ⊕ (Nat × Int32 × Int32 × xM))) :=
  xlet s.1 (fun l0 => xlet s.2.1 (fun l1 => xlet s.2.2.1 (fun l2 => xlet s.2.2.2 (fun σ => (if l2 = (0 : Int32) then some (Sum.inr (Sum.inl (l0, l1, σ))) else (if xk σ l0 12 = true then (f_X12_stepWork σ l0).bind (fun p8 => some (Sum.inr (Sum.inr (l0, l1, p8.1, p8.2)))) else none))))))
set_option maxHeartbeats 4000000 in
set_option maxRecDepth 20000 in
theorem L_X12_simplify_s55 {G : xG} {π : Nat → Nat} {d C Z : Nat} {Q : xQ} (σ : xM) (l0 : Nat) (l1 : Int32) (l2 : Int32) {x : ((Int32 × xM) ⊕ ((Nat × Int32 × xM) ⊕ (Nat × Int32 × Int32 × xM)))} (hf : f_X12_simplify_s55 (l0, l1, l2, σ) = some x) (hR : ∀ g, x = Sum.inl (g) → Q (.inl (some (.int g.1))) (g.2) π) (hE : ∀ e : (Nat × Int32 × xM), x = Sum.inr (Sum.inl e) → xMach G π J_X12_simplify (d + 7) C Z 67 [(0, .ref e.1), (1, .int e.2.1)] [] e.2.2 Q) (hC : ∀ e : (Nat × Int32 × Int32 × xM), x = Sum.inr (Sum.inr e) → xMach G π J_X12_simplify (d + 7) C Z 55 [(0, .ref e.1), (1, .int e.2.1), (2, .int e.2.2.1)] [] e.2.2.2 Q) : xMach G π J_X12_simplify (d + 7) C Z 55 [(0, .ref l0), (1, .int l1), (2, .int l2)] [] σ Q := by
  have hf : (if l2 = (0 : Int32) then some (Sum.inr (Sum.inl (l0, l1, σ))) else (if xk σ l0 12 = true then (f_X12_stepWork σ l0).bind (fun p8 => some (Sum.inr (Sum.inr (l0, l1, p8.1, p8.2)))) else none)) = some x := hf
  refine xm_iload_n dX12_simplify_55 rfl ?_
  refine xb_if_eq 67 dX12_simplify_56 (by decide) hf (fun c hf => ?_) (fun c hf => ?_)
  · cases hf
    exact xm_sub [0, 1] rfl (hE _ rfl)
  · refine xm_aload_n dX12_simplify_59 rfl ?_
    refine xb_if hf (fun hb hf => ?_) (fun _ q => nomatch q)
    obtain ⟨p8, ep8, hf⟩ := xbind hf
    refine xb_callV (As := []) (v0 := (some (.int p8.1))) (τ0 := p8.2) dX12_simplify_60 (xc_X12_stepWork _ _) xcl12 xw_2592 xw_2594 xs_183 hb rfl (Nat.le_of_ble_eq_true rfl) rfl (Nat.le_of_ble_eq_true rfl) (fun Q1 hq => m_X12_stepWork (d := d + 0) ep8 (fun g hg => by subst hg; exact hq)) ?_
    refine xm_istore_n dX12_simplify_63 (by decide) (xm_stL (L' := [(2, .int p8.1), (0, .ref l0), (1, .int l1)]) rfl ?_)
    refine xm_goto 55 dX12_simplify_64 (by decide) ?_
    cases hf
    exact xm_sub [1, 2, 0] rfl (hC _ rfl)
theorem L_X12_simplify_l55 {G : xG} {π : Nat → Nat} {d C Z : Nat} {Q : xQ} {s0 : (Nat × Int32 × Int32 × xM)} {x : ((Int32 × xM) ⊕ (Nat × Int32 × xM))} (h1 : xloop (f_X12_simplify_s55) xF s0 = some x) (hR : ∀ g, x = Sum.inl g → Q (.inl (some (.int g.1))) (g.2) π) (hE : ∀ e : (Nat × Int32 × xM), x = Sum.inr e → xMach G π J_X12_simplify (d + 7) C Z 67 [(0, .ref e.1), (1, .int e.2.1)] [] e.2.2 Q) : xMach G π J_X12_simplify (d + 7) C Z 55 [(0, .ref s0.1), (1, .int s0.2.1), (2, .int s0.2.2.1)] [] s0.2.2.2 Q := by
  refine xloop_run (M := (fun s : (Nat × Int32 × Int32 × xM) => xMach G π J_X12_simplify (d + 7) C Z 55 [(0, .ref s.1), (1, .int s.2.1), (2, .int s.2.2.1)] [] s.2.2.2 Q)) (r := x) ?_ xF _ h1
  intro s y hs hx
  exact L_X12_simplify_s55 s.2.2.2 s.1 s.2.1 s.2.2.1 (x := y) hs (fun g hg => by subst hg; exact hR g hx) (fun e he => by subst he; exact hE e hx) (fun e he => by subst he; exact hx)
def f_X12_simplify_j89 (σ : xM) (s0 : Int32) : Option (Int32 × xM) :=
  some (s0, σ)
set_option maxHeartbeats 4000000 in
set_option maxRecDepth 20000 in
theorem L_X12_simplify_j89 {G : xG} {π : Nat → Nat} {d C Z : Nat} {Q : xQ} (σ : xM) (s0 : Int32) {x : (Int32 × xM)} (hf : f_X12_simplify_j89 σ s0 = some x) (hR : ∀ g, x = g → Q (.inl (some (.int g.1))) (g.2) π) : xMach G π J_X12_simplify (d + 7) C Z 89 [] [.int s0] σ Q := by
  unfold f_X12_simplify_j89 at hf
  cases hf
  exact xm_iret dX12_simplify_89 rfl (hR _ rfl)
def f_X12_simplify_j67 (σ : xM) (l0 : Nat) (l1 : Int32) : Option (Int32 × xM) :=
  (gI σ l0 12 67).bind (fun x9 => (if x9 ≤ (0 : Int32) then f_X12_simplify_j89 σ l1 else (gI σ l0 12 64).bind (fun x10 => (if xk σ l0 12 = true then (f_X12_shelve σ l0 (13540 : Int32) x10).bind (fun p11 => f_X12_simplify_j89 p11.2 p11.1) else none))))
set_option maxHeartbeats 4000000 in
set_option maxRecDepth 20000 in
theorem L_X12_simplify_j67 {G : xG} {π : Nat → Nat} {d C Z : Nat} {Q : xQ} (σ : xM) (l0 : Nat) (l1 : Int32) {x : (Int32 × xM)} (hf : f_X12_simplify_j67 σ l0 l1 = some x) (hR : ∀ g, x = g → Q (.inl (some (.int g.1))) (g.2) π) : xMach G π J_X12_simplify (d + 7) C Z 67 [(0, .ref l0), (1, .int l1)] [] σ Q := by
  unfold f_X12_simplify_j67 at hf
  refine xm_aload_n dX12_simplify_67 rfl ?_
  refine xb_getI (a := l0) (c := 12) (k := 67) dX12_simplify_68 xcl12 (by decide) xw_1904 rfl hf (fun x9 ex9 hf => ?_)
  refine xb_if_le 88 dX12_simplify_71 (by decide) hf (fun c hf => ?_) (fun c hf => ?_)
  · refine xm_iload_n dX12_simplify_88 rfl ?_
    exact xm_sub [] rfl (L_X12_simplify_j89 σ l1 hf hR)
  · refine xm_aload_n dX12_simplify_74 rfl ?_
    refine xm_sipush dX12_simplify_75 (v := 13540) (by decide) ?_
    refine xm_aload_n dX12_simplify_78 rfl ?_
    refine xb_getI (a := l0) (c := 12) (k := 64) dX12_simplify_79 xcl12 (by decide) xw_1901 rfl hf (fun x10 ex10 hf => ?_)
    refine xb_if hf (fun hb hf => ?_) (fun _ q => nomatch q)
    obtain ⟨p11, ep11, hf⟩ := xbind hf
    refine xb_callV (As := [.int (13540 : Int32), .int x10]) (v0 := (some (.int p11.1))) (τ0 := p11.2) dX12_simplify_82 (xc_X12_shelve _ _) xcl12 xw_2210 xw_2212 xs_110 hb rfl (Nat.le_of_ble_eq_true rfl) rfl (Nat.le_of_ble_eq_true rfl) (fun Q1 hq => m_X12_shelve (d := d + 5) ep11 (fun g hg => by subst hg; exact hq)) ?_
    refine xm_goto 89 dX12_simplify_85 (by decide) ?_
    exact xm_sub [] rfl (L_X12_simplify_j89 p11.2 p11.1 hf hR)
def f_X12_simplify_j28 (σ : xM) (l0 : Nat) (l1 : Int32) (s0 : Int32) (s1 : Int32) (s2 : Nat) : Option (Int32 × xM) :=
  (if xk σ s2 12 = true then (f_X12_refused σ s2 s1 s0 (0 : Int32)).bind (fun p3 => (if p3.1 = (0 : Int32) then (f_X12_shelf p3.2 l1).bind (fun p4 => (if xk p3.2 l0 12 = true then (f_X12_takeWork p3.2 l0 p4).bind (fun p5 => (sI p5 l0 12 67 (0 : Int32)).bind (fun σ6 => (if xk σ6 l0 12 = true then (f_X12_stepWork σ6 l0).bind (fun p7 => (xloop (f_X12_simplify_s55 ) xF (l0, l1, p7.1, p7.2)).bind (Sum.elim (fun g => some g) (fun e => f_X12_simplify_j67 e.2.2 e.1 e.2.1))) else none))) else none)) else some ((0 : Int32), p3.2))) else none)
set_option maxHeartbeats 4000000 in
set_option maxRecDepth 20000 in
theorem L_X12_simplify_j28 {G : xG} {π : Nat → Nat} {d C Z : Nat} {Q : xQ} (σ : xM) (l0 : Nat) (l1 : Int32) (s0 : Int32) (s1 : Int32) (s2 : Nat) {x : (Int32 × xM)} (hf : f_X12_simplify_j28 σ l0 l1 s0 s1 s2 = some x) (hR : ∀ g, x = g → Q (.inl (some (.int g.1))) (g.2) π) : xMach G π J_X12_simplify (d + 7) C Z 28 [(0, .ref l0), (1, .int l1)] [.int s0, .int s1, .ref s2] σ Q := by
  unfold f_X12_simplify_j28 at hf
  refine xm_iconst dX12_simplify_28 (v := 0) (by decide) ?_
  refine xb_if hf (fun hb hf => ?_) (fun _ q => nomatch q)
  obtain ⟨p3, ep3, hf⟩ := xbind hf
  refine xb_callV (As := [.int s1, .int s0, .int (0 : Int32)]) (v0 := (some (.int p3.1))) (τ0 := p3.2) dX12_simplify_29 (xc_X12_refused _ _) xcl12 xw_2112 xw_2114 xs_90 hb rfl (Nat.le_of_ble_eq_true rfl) rfl (Nat.le_of_ble_eq_true rfl) (fun Q1 hq => m_X12_refused (d := d + 6) ep3 (fun g hg => by subst hg; exact hq)) ?_
  refine xb_if_eq 37 dX12_simplify_32 (by decide) hf (fun c hf => ?_) (fun c hf => ?_)
  · refine xm_aload_n dX12_simplify_37 rfl ?_
    refine xm_iload_n dX12_simplify_38 rfl ?_
    obtain ⟨p4, ep4, hf⟩ := xbind hf
    refine xb_callS (As := [.int l1]) (v0 := (some (.int p4))) (τ0 := p3.2) dX12_simplify_39 (xc_X12_shelf _ _) xw_2214 xw_2215 rfl (Nat.le_of_ble_eq_true rfl) rfl (Nat.le_of_ble_eq_true rfl) (fun Q1 hq => m_X12_shelf (d := d + 6) ep4 (fun g hg => by subst hg; exact hq)) ?_
    refine xb_if hf (fun hb hf => ?_) (fun _ q => nomatch q)
    obtain ⟨p5, ep5, hf⟩ := xbind hf
    refine xb_callV (As := [.int p4]) (v0 := none) (τ0 := p5) dX12_simplify_42 (xc_X12_takeWork _ _) xcl12 xw_2588 xw_2590 xs_182 hb rfl (Nat.le_of_ble_eq_true rfl) rfl (Nat.le_of_ble_eq_true rfl) (fun Q1 hq => m_X12_takeWork (d := d + 5) ep5 (fun g hg => by subst hg; exact hq)) ?_
    refine xm_aload_n dX12_simplify_45 rfl ?_
    refine xm_iconst dX12_simplify_46 (v := 0) (by decide) ?_
    refine xb_putI (a := l0) (c := 12) (k := 67) dX12_simplify_47 xcl12 (by decide) xw_1904 rfl rfl hf (fun σ6 eσ6 hf => ?_)
    refine xm_aload_n dX12_simplify_50 rfl ?_
    refine xb_if hf (fun hb hf => ?_) (fun _ q => nomatch q)
    obtain ⟨p7, ep7, hf⟩ := xbind hf
    refine xb_callV (As := []) (v0 := (some (.int p7.1))) (τ0 := p7.2) dX12_simplify_51 (xc_X12_stepWork _ _) xcl12 xw_2592 xw_2594 xs_183 hb rfl (Nat.le_of_ble_eq_true rfl) rfl (Nat.le_of_ble_eq_true rfl) (fun Q1 hq => m_X12_stepWork (d := d + 0) ep7 (fun g hg => by subst hg; exact hq)) ?_
    refine xm_istore_n dX12_simplify_54 (by decide) (xm_stL (L' := [(2, .int p7.1), (0, .ref l0), (1, .int l1)]) rfl ?_)
    obtain ⟨o, h1, hf⟩ := xbind hf
    refine xm_sub [1, 2, 0] rfl (L_X12_simplify_l55  h1 (fun g hg => ?_) (fun e he => ?_))
    · subst hg
      cases hf
      exact hR _ rfl
    · subst he
      rw [Sum.elim_inr] at hf
      have hf : f_X12_simplify_j67 e.2.2 e.1 e.2.1 = some _ := hf
      exact xm_sub [0, 1] rfl (L_X12_simplify_j67 e.2.2 e.1 e.2.1 hf hR)
  · refine xm_iconst dX12_simplify_35 (v := 0) (by decide) ?_
    cases hf
    exact xm_iret dX12_simplify_36 rfl (hR _ rfl)
def f_X12_simplify_j14 (σ : xM) (l0 : Nat) (l1 : Int32) (s0 : Int32) (s1 : Nat) : Option (Int32 × xM) :=
  (gI σ l0 12 10).bind (fun x2 => (if x2 = (30 : Int32) then f_X12_simplify_j28 σ l0 l1 (1 : Int32) s0 s1 else f_X12_simplify_j28 σ l0 l1 (0 : Int32) s0 s1))
set_option maxHeartbeats 4000000 in
set_option maxRecDepth 20000 in
theorem L_X12_simplify_j14 {G : xG} {π : Nat → Nat} {d C Z : Nat} {Q : xQ} (σ : xM) (l0 : Nat) (l1 : Int32) (s0 : Int32) (s1 : Nat) {x : (Int32 × xM)} (hf : f_X12_simplify_j14 σ l0 l1 s0 s1 = some x) (hR : ∀ g, x = g → Q (.inl (some (.int g.1))) (g.2) π) : xMach G π J_X12_simplify (d + 7) C Z 14 [(0, .ref l0), (1, .int l1)] [.int s0, .ref s1] σ Q := by
  unfold f_X12_simplify_j14 at hf
  refine xm_aload_n dX12_simplify_14 rfl ?_
  refine xb_getI (a := l0) (c := 12) (k := 10) dX12_simplify_15 xcl12 (by decide) xw_1847 rfl hf (fun x2 ex2 hf => ?_)
  refine xm_bipush dX12_simplify_18 (v := 30) (by decide) ?_
  refine xb_icmp_ne 27 dX12_simplify_20 (by decide) hf (fun c hf => ?_) (fun c hf => ?_)
  · refine xm_iconst dX12_simplify_27 (v := 0) (by decide) ?_
    exact xm_sub [0, 1] rfl (L_X12_simplify_j28 σ l0 l1 (0 : Int32) s0 s1 hf hR)
  · refine xm_iconst dX12_simplify_23 (v := 1) (by decide) ?_
    refine xm_goto 28 dX12_simplify_24 (by decide) ?_
    exact xm_sub [0, 1] rfl (L_X12_simplify_j28 σ l0 l1 (1 : Int32) s0 s1 hf hR)
def f_X12_simplify (σ : xM) (l0 : Nat) (l1 : Int32) : Option (Int32 × xM) :=
  (if xk σ l0 12 = true then (f_X12_isTree σ l0 l1).bind (fun p1 => (if p1 = (0 : Int32) then f_X12_simplify_j14 σ l0 l1 (1 : Int32) l0 else f_X12_simplify_j14 σ l0 l1 (0 : Int32) l0)) else none)
set_option maxHeartbeats 4000000 in
set_option maxRecDepth 20000 in
theorem m_X12_simplify {G : xG} {π : Nat → Nat} {d C Z : Nat} {Q : xQ} {σ : xM} {l0 : Nat} {l1 : Int32} {x : (Int32 × xM)} (hf : f_X12_simplify σ l0 l1 = some x) (hR : ∀ g, x = g → Q (.inl (some (.int g.1))) (g.2) π) : xMach G π J_X12_simplify (d + 7) C Z 0 (lv_args 0 [.ref l0, .int l1]) [] σ Q := by
  unfold f_X12_simplify at hf
  refine xm_stL (L' := [(0, .ref l0), (1, .int l1)]) rfl ?_
  refine xm_aload_n dX12_simplify_0 rfl ?_
  refine xm_aload_n dX12_simplify_1 rfl ?_
  refine xm_iload_n dX12_simplify_2 rfl ?_
  refine xb_if hf (fun hb hf => ?_) (fun _ q => nomatch q)
  obtain ⟨p1, ep1, hf⟩ := xbind hf
  refine xb_callV (As := [.int l1]) (v0 := (some (.int p1))) (τ0 := σ) dX12_simplify_3 (xc_X12_isTree _ _) xcl12 xw_2233 xw_2235 xs_113 hb rfl (Nat.le_of_ble_eq_true rfl) rfl (Nat.le_of_ble_eq_true rfl) (fun Q1 hq => m_X12_isTree (d := d + 5) ep1 (fun g hg => by subst hg; exact hq)) ?_
  refine xb_if_ne 13 dX12_simplify_6 (by decide) hf (fun c hf => ?_) (fun c hf => ?_)
  · refine xm_iconst dX12_simplify_13 (v := 0) (by decide) ?_
    exact xm_sub [0, 1] rfl (L_X12_simplify_j14 σ l0 l1 (0 : Int32) l0 hf hR)
  · refine xm_iconst dX12_simplify_9 (v := 1) (by decide) ?_
    refine xm_goto 14 dX12_simplify_10 (by decide) ?_
    exact xm_sub [0, 1] rfl (L_X12_simplify_j14 σ l0 l1 (1 : Int32) l0 hf hR)
-- RankwiseModel.trace(II)I
def f_X12_trace_j62 (σ : xM) (s0 : Int32) : Option (Int32 × xM) :=
  some (s0, σ)
set_option maxHeartbeats 4000000 in
set_option maxRecDepth 20000 in
theorem L_X12_trace_j62 {G : xG} {π : Nat → Nat} {d C Z : Nat} {Q : xQ} (σ : xM) (s0 : Int32) {x : (Int32 × xM)} (hf : f_X12_trace_j62 σ s0 = some x) (hR : ∀ g, x = g → Q (.inl (some (.int g.1))) (g.2) π) : xMach G π J_X12_trace (d + 1) C Z 62 [] [.int s0] σ Q := by
  unfold f_X12_trace_j62 at hf
  cases hf
  exact xm_iret dX12_trace_62 rfl (hR _ rfl)
def f_X12_trace_j15 (σ : xM) (l0 : Nat) (l1 : Int32) (l2 : Int32) (s0 : Int32) (s1 : Nat) : Option (Int32 × xM) :=
  (if xk σ s1 12 = true then (f_X12_refused σ s1 s0 (0 : Int32) (0 : Int32)).bind (fun p2 => (if p2.1 = (0 : Int32) then (gI p2.2 l0 12 67).bind (fun x3 => (f_X12_in p2.2 l1 (0 : Int32) (x3 - (1 : Int32))).bind (fun p4 => (if p4 = (0 : Int32) then f_X12_trace_j62 p2.2 (-1 : Int32) else (if l2 = (0 : Int32) then (gR p2.2 l0 12 65).bind (fun x7 => (aI p2.2 x7 14 l1).bind (fun x8 => f_X12_trace_j62 p2.2 x8)) else (gR p2.2 l0 12 66).bind (fun x5 => (aI p2.2 x5 14 l1).bind (fun x6 => f_X12_trace_j62 p2.2 x6)))))) else some ((0 : Int32), p2.2))) else none)
set_option maxHeartbeats 4000000 in
set_option maxRecDepth 20000 in
theorem L_X12_trace_j15 {G : xG} {π : Nat → Nat} {d C Z : Nat} {Q : xQ} (σ : xM) (l0 : Nat) (l1 : Int32) (l2 : Int32) (s0 : Int32) (s1 : Nat) {x : (Int32 × xM)} (hf : f_X12_trace_j15 σ l0 l1 l2 s0 s1 = some x) (hR : ∀ g, x = g → Q (.inl (some (.int g.1))) (g.2) π) : xMach G π J_X12_trace (d + 1) C Z 15 [(0, .ref l0), (1, .int l1), (2, .int l2)] [.int s0, .ref s1] σ Q := by
  unfold f_X12_trace_j15 at hf
  refine xm_iconst dX12_trace_15 (v := 0) (by decide) ?_
  refine xm_iconst dX12_trace_16 (v := 0) (by decide) ?_
  refine xb_if hf (fun hb hf => ?_) (fun _ q => nomatch q)
  obtain ⟨p2, ep2, hf⟩ := xbind hf
  refine xb_callV (As := [.int s0, .int (0 : Int32), .int (0 : Int32)]) (v0 := (some (.int p2.1))) (τ0 := p2.2) dX12_trace_17 (xc_X12_refused _ _) xcl12 xw_2112 xw_2114 xs_90 hb rfl (Nat.le_of_ble_eq_true rfl) rfl (Nat.le_of_ble_eq_true rfl) (fun Q1 hq => m_X12_refused (d := d + 0) ep2 (fun g hg => by subst hg; exact hq)) ?_
  refine xb_if_eq 25 dX12_trace_20 (by decide) hf (fun c hf => ?_) (fun c hf => ?_)
  · refine xm_iload_n dX12_trace_25 rfl ?_
    refine xm_iconst dX12_trace_26 (v := 0) (by decide) ?_
    refine xm_aload_n dX12_trace_27 rfl ?_
    refine xb_getI (a := l0) (c := 12) (k := 67) dX12_trace_28 xcl12 (by decide) xw_1904 rfl hf (fun x3 ex3 hf => ?_)
    refine xm_iconst dX12_trace_31 (v := 1) (by decide) ?_
    refine xm_isub dX12_trace_32 ?_
    obtain ⟨p4, ep4, hf⟩ := xbind hf
    refine xb_callS (As := [.int l1, .int (0 : Int32), .int (x3 - (1 : Int32))]) (v0 := (some (.int p4))) (τ0 := p2.2) dX12_trace_33 (xc_X12_in _ _) xw_2132 xw_2133 rfl (Nat.le_of_ble_eq_true rfl) rfl (Nat.le_of_ble_eq_true rfl) (fun Q1 hq => m_X12_in (d := d + 0) ep4 (fun g hg => by subst hg; exact hq)) ?_
    refine xb_if_ne 43 dX12_trace_36 (by decide) hf (fun c hf => ?_) (fun c hf => ?_)
    · refine xm_iload_n dX12_trace_43 rfl ?_
      refine xb_if_ne 56 dX12_trace_44 (by decide) hf (fun c hf => ?_) (fun c hf => ?_)
      · refine xm_aload_n dX12_trace_56 rfl ?_
        refine xb_getR (a := l0) (c := 12) (k := 66) dX12_trace_57 xcl12 (by decide) xw_1903 rfl hf (fun x5 ex5 hf => ?_)
        refine xm_iload_n dX12_trace_60 rfl ?_
        refine xb_iald dX12_trace_61 hf (fun x6 ex6 hf => ?_)
        exact xm_sub [] rfl (L_X12_trace_j62 p2.2 x6 hf hR)
      · refine xm_aload_n dX12_trace_47 rfl ?_
        refine xb_getR (a := l0) (c := 12) (k := 65) dX12_trace_48 xcl12 (by decide) xw_1902 rfl hf (fun x7 ex7 hf => ?_)
        refine xm_iload_n dX12_trace_51 rfl ?_
        refine xb_iald dX12_trace_52 hf (fun x8 ex8 hf => ?_)
        refine xm_goto 62 dX12_trace_53 (by decide) ?_
        exact xm_sub [] rfl (L_X12_trace_j62 p2.2 x8 hf hR)
    · refine xm_iconst dX12_trace_39 (v := -1) (by decide) ?_
      refine xm_goto 62 dX12_trace_40 (by decide) ?_
      exact xm_sub [] rfl (L_X12_trace_j62 p2.2 (-1 : Int32) hf hR)
  · refine xm_iconst dX12_trace_23 (v := 0) (by decide) ?_
    cases hf
    exact xm_iret dX12_trace_24 rfl (hR _ rfl)
def f_X12_trace (σ : xM) (l0 : Nat) (l1 : Int32) (l2 : Int32) : Option (Int32 × xM) :=
  (f_X12_in σ l2 (0 : Int32) (1 : Int32)).bind (fun p1 => (if p1 = (0 : Int32) then f_X12_trace_j15 σ l0 l1 l2 (1 : Int32) l0 else f_X12_trace_j15 σ l0 l1 l2 (0 : Int32) l0))
set_option maxHeartbeats 4000000 in
set_option maxRecDepth 20000 in
theorem m_X12_trace {G : xG} {π : Nat → Nat} {d C Z : Nat} {Q : xQ} {σ : xM} {l0 : Nat} {l1 : Int32} {l2 : Int32} {x : (Int32 × xM)} (hf : f_X12_trace σ l0 l1 l2 = some x) (hR : ∀ g, x = g → Q (.inl (some (.int g.1))) (g.2) π) : xMach G π J_X12_trace (d + 1) C Z 0 (lv_args 0 [.ref l0, .int l1, .int l2]) [] σ Q := by
  unfold f_X12_trace at hf
  refine xm_stL (L' := [(0, .ref l0), (1, .int l1), (2, .int l2)]) rfl ?_
  refine xm_aload_n dX12_trace_0 rfl ?_
  refine xm_iload_n dX12_trace_1 rfl ?_
  refine xm_iconst dX12_trace_2 (v := 0) (by decide) ?_
  refine xm_iconst dX12_trace_3 (v := 1) (by decide) ?_
  obtain ⟨p1, ep1, hf⟩ := xbind hf
  refine xb_callS (As := [.int l2, .int (0 : Int32), .int (1 : Int32)]) (v0 := (some (.int p1))) (τ0 := σ) dX12_trace_4 (xc_X12_in _ _) xw_2132 xw_2133 rfl (Nat.le_of_ble_eq_true rfl) rfl (Nat.le_of_ble_eq_true rfl) (fun Q1 hq => m_X12_in (d := d + 0) ep1 (fun g hg => by subst hg; exact hq)) ?_
  refine xb_if_ne 14 dX12_trace_7 (by decide) hf (fun c hf => ?_) (fun c hf => ?_)
  · refine xm_iconst dX12_trace_14 (v := 0) (by decide) ?_
    exact xm_sub [0, 1, 2] rfl (L_X12_trace_j15 σ l0 l1 l2 (0 : Int32) l0 hf hR)
  · refine xm_iconst dX12_trace_10 (v := 1) (by decide) ?_
    refine xm_goto 15 dX12_trace_11 (by decide) ?_
    exact xm_sub [0, 1, 2] rfl (L_X12_trace_j15 σ l0 l1 l2 (1 : Int32) l0 hf hR)
-- RankwiseModel.gather(IC)I
def f_X12_gather_s56 (s : (Nat × Int32 × xM)) : Option ((Int32 × xM) ⊕ ((Nat × xM) ⊕ (Nat × Int32 × xM))) :=
  xlet s.1 (fun l0 => xlet s.2.1 (fun l3 => xlet s.2.2 (fun σ => (if (9 : Int32) ≤ l3 then some (Sum.inr (Sum.inl (l0, σ))) else (f_X12_coefficientAt σ (0 : Int32) l3).bind (fun p8 => (if xk σ l0 12 = true then (f_X12_copyValue σ l0 ((47 : Int32) + l3) p8).bind (fun p9 => xlet (l3 + (1 : Int32)) (fun v10 => some (Sum.inr (Sum.inr (l0, v10, p9))))) else none))))))
set_option maxHeartbeats 4000000 in
set_option maxRecDepth 20000 in
theorem L_X12_gather_s56 {G : xG} {π : Nat → Nat} {d C Z : Nat} {Q : xQ} (σ : xM) (l0 : Nat) (l3 : Int32) {x : ((Int32 × xM) ⊕ ((Nat × xM) ⊕ (Nat × Int32 × xM)))} (hf : f_X12_gather_s56 (l0, l3, σ) = some x) (hR : ∀ g, x = Sum.inl (g) → Q (.inl (some (.int g.1))) (g.2) π) (hE : ∀ e : (Nat × xM), x = Sum.inr (Sum.inl e) → xMach G π J_X12_gather (d + 10) C Z 81 [(0, .ref e.1)] [] e.2 Q) (hC : ∀ e : (Nat × Int32 × xM), x = Sum.inr (Sum.inr e) → xMach G π J_X12_gather (d + 10) C Z 56 [(0, .ref e.1), (3, .int e.2.1)] [] e.2.2 Q) : xMach G π J_X12_gather (d + 10) C Z 56 [(0, .ref l0), (3, .int l3)] [] σ Q := by
  have hf : (if (9 : Int32) ≤ l3 then some (Sum.inr (Sum.inl (l0, σ))) else (f_X12_coefficientAt σ (0 : Int32) l3).bind (fun p8 => (if xk σ l0 12 = true then (f_X12_copyValue σ l0 ((47 : Int32) + l3) p8).bind (fun p9 => xlet (l3 + (1 : Int32)) (fun v10 => some (Sum.inr (Sum.inr (l0, v10, p9))))) else none))) = some x := hf
  refine xm_iload_n dX12_gather_56 rfl ?_
  refine xm_bipush dX12_gather_57 (v := 9) (by decide) ?_
  refine xb_icmp_ge 81 dX12_gather_59 (by decide) hf (fun c hf => ?_) (fun c hf => ?_)
  · cases hf
    exact xm_sub [0] rfl (hE _ rfl)
  · refine xm_aload_n dX12_gather_62 rfl ?_
    refine xm_bipush dX12_gather_63 (v := 47) (by decide) ?_
    refine xm_iload_n dX12_gather_65 rfl ?_
    refine xm_iadd dX12_gather_66 ?_
    refine xm_iconst dX12_gather_67 (v := 0) (by decide) ?_
    refine xm_iload_n dX12_gather_68 rfl ?_
    obtain ⟨p8, ep8, hf⟩ := xbind hf
    refine xb_callS (As := [.int (0 : Int32), .int l3]) (v0 := (some (.int p8))) (τ0 := σ) dX12_gather_69 (xc_X12_coefficientAt _ _) xw_2655 xw_2656 rfl (Nat.le_of_ble_eq_true rfl) rfl (Nat.le_of_ble_eq_true rfl) (fun Q1 hq => m_X12_coefficientAt (d := d + 9) ep8 (fun g hg => by subst hg; exact hq)) ?_
    refine xb_if hf (fun hb hf => ?_) (fun _ q => nomatch q)
    obtain ⟨p9, ep9, hf⟩ := xbind hf
    refine xb_callV (As := [.int ((47 : Int32) + l3), .int p8]) (v0 := none) (τ0 := p9) dX12_gather_72 (xc_X12_copyValue _ _) xcl12 xw_2100 xw_2102 xs_88 hb rfl (Nat.le_of_ble_eq_true rfl) rfl (Nat.le_of_ble_eq_true rfl) (fun Q1 hq => m_X12_copyValue (d := d + 9) ep9 (fun g hg => by subst hg; exact hq)) ?_
    refine xb_iinc dX12_gather_75 rfl (by decide) (by decide) hf (fun v10 ev10 hf => xm_stL (L' := [(3, .int v10), (0, .ref l0)]) rfl ?_)
    refine xm_goto 56 dX12_gather_78 (by decide) ?_
    cases hf
    exact xm_sub [1, 0] rfl (hC _ rfl)
theorem L_X12_gather_l56 {G : xG} {π : Nat → Nat} {d C Z : Nat} {Q : xQ} {s0 : (Nat × Int32 × xM)} {x : ((Int32 × xM) ⊕ (Nat × xM))} (h1 : xloop (f_X12_gather_s56) xF s0 = some x) (hR : ∀ g, x = Sum.inl g → Q (.inl (some (.int g.1))) (g.2) π) (hE : ∀ e : (Nat × xM), x = Sum.inr e → xMach G π J_X12_gather (d + 10) C Z 81 [(0, .ref e.1)] [] e.2 Q) : xMach G π J_X12_gather (d + 10) C Z 56 [(0, .ref s0.1), (3, .int s0.2.1)] [] s0.2.2 Q := by
  refine xloop_run (M := (fun s : (Nat × Int32 × xM) => xMach G π J_X12_gather (d + 10) C Z 56 [(0, .ref s.1), (3, .int s.2.1)] [] s.2.2 Q)) (r := x) ?_ xF _ h1
  intro s y hs hx
  exact L_X12_gather_s56 s.2.2 s.1 s.2.1 (x := y) hs (fun g hg => by subst hg; exact hR g hx) (fun e he => by subst he; exact hE e hx) (fun e he => by subst he; exact hx)
def f_X12_gather_j81 (σ : xM) (l0 : Nat) : Option (Int32 × xM) :=
  (if xk σ l0 12 = true then (f_X12_degreeOf σ l0 (0 : Int32)).bind (fun p11 => some (p11, σ)) else none)
set_option maxHeartbeats 4000000 in
set_option maxRecDepth 20000 in
theorem L_X12_gather_j81 {G : xG} {π : Nat → Nat} {d C Z : Nat} {Q : xQ} (σ : xM) (l0 : Nat) {x : (Int32 × xM)} (hf : f_X12_gather_j81 σ l0 = some x) (hR : ∀ g, x = g → Q (.inl (some (.int g.1))) (g.2) π) : xMach G π J_X12_gather (d + 10) C Z 81 [(0, .ref l0)] [] σ Q := by
  unfold f_X12_gather_j81 at hf
  refine xm_aload_n dX12_gather_81 rfl ?_
  refine xm_iconst dX12_gather_82 (v := 0) (by decide) ?_
  refine xb_if hf (fun hb hf => ?_) (fun _ q => nomatch q)
  obtain ⟨p11, ep11, hf⟩ := xbind hf
  refine xb_callV (As := [.int (0 : Int32)]) (v0 := (some (.int p11))) (τ0 := σ) dX12_gather_83 (xc_X12_degreeOf _ _) xcl12 xw_2666 xw_2668 xs_197 hb rfl (Nat.le_of_ble_eq_true rfl) rfl (Nat.le_of_ble_eq_true rfl) (fun Q1 hq => m_X12_degreeOf (d := d + 8) ep11 (fun g hg => by subst hg; exact hq)) ?_
  cases hf
  exact xm_iret dX12_gather_86 rfl (hR _ rfl)
def f_X12_gather_j26 (σ : xM) (l0 : Nat) (l1 : Int32) (l2 : Int32) (s0 : Int32) (s1 : Int32) (s2 : Nat) : Option (Int32 × xM) :=
  (if xk σ s2 12 = true then (f_X12_refused σ s2 s1 s0 (0 : Int32)).bind (fun p3 => (if p3.1 = (0 : Int32) then (sI p3.2 l0 12 68 (0 : Int32)).bind (fun σ4 => (f_X12_shelf σ4 l1).bind (fun p5 => (if xk σ4 l0 12 = true then (f_X12_gathers σ4 l0 p5 l2).bind (fun p6 => (if p6.1 = (0 : Int32) then some ((-1 : Int32), p6.2) else xlet (0 : Int32) (fun v7 => (xloop (f_X12_gather_s56 ) xF (l0, v7, p6.2)).bind (Sum.elim (fun g => some g) (fun e => f_X12_gather_j81 e.2 e.1))))) else none))) else some ((0 : Int32), p3.2))) else none)
set_option maxHeartbeats 4000000 in
set_option maxRecDepth 20000 in
theorem L_X12_gather_j26 {G : xG} {π : Nat → Nat} {d C Z : Nat} {Q : xQ} (σ : xM) (l0 : Nat) (l1 : Int32) (l2 : Int32) (s0 : Int32) (s1 : Int32) (s2 : Nat) {x : (Int32 × xM)} (hf : f_X12_gather_j26 σ l0 l1 l2 s0 s1 s2 = some x) (hR : ∀ g, x = g → Q (.inl (some (.int g.1))) (g.2) π) : xMach G π J_X12_gather (d + 10) C Z 26 [(0, .ref l0), (1, .int l1), (2, .int l2)] [.int s0, .int s1, .ref s2] σ Q := by
  unfold f_X12_gather_j26 at hf
  refine xm_iconst dX12_gather_26 (v := 0) (by decide) ?_
  refine xb_if hf (fun hb hf => ?_) (fun _ q => nomatch q)
  obtain ⟨p3, ep3, hf⟩ := xbind hf
  refine xb_callV (As := [.int s1, .int s0, .int (0 : Int32)]) (v0 := (some (.int p3.1))) (τ0 := p3.2) dX12_gather_27 (xc_X12_refused _ _) xcl12 xw_2112 xw_2114 xs_90 hb rfl (Nat.le_of_ble_eq_true rfl) rfl (Nat.le_of_ble_eq_true rfl) (fun Q1 hq => m_X12_refused (d := d + 9) ep3 (fun g hg => by subst hg; exact hq)) ?_
  refine xb_if_eq 35 dX12_gather_30 (by decide) hf (fun c hf => ?_) (fun c hf => ?_)
  · refine xm_aload_n dX12_gather_35 rfl ?_
    refine xm_iconst dX12_gather_36 (v := 0) (by decide) ?_
    refine xb_putI (a := l0) (c := 12) (k := 68) dX12_gather_37 xcl12 (by decide) xw_1905 rfl rfl hf (fun σ4 eσ4 hf => ?_)
    refine xm_aload_n dX12_gather_40 rfl ?_
    refine xm_iload_n dX12_gather_41 rfl ?_
    obtain ⟨p5, ep5, hf⟩ := xbind hf
    refine xb_callS (As := [.int l1]) (v0 := (some (.int p5))) (τ0 := σ4) dX12_gather_42 (xc_X12_shelf _ _) xw_2214 xw_2215 rfl (Nat.le_of_ble_eq_true rfl) rfl (Nat.le_of_ble_eq_true rfl) (fun Q1 hq => m_X12_shelf (d := d + 9) ep5 (fun g hg => by subst hg; exact hq)) ?_
    refine xm_iload_n dX12_gather_45 rfl ?_
    refine xb_if hf (fun hb hf => ?_) (fun _ q => nomatch q)
    obtain ⟨p6, ep6, hf⟩ := xbind hf
    refine xb_callV (As := [.int p5, .int l2]) (v0 := (some (.int p6.1))) (τ0 := p6.2) dX12_gather_46 (xc_X12_gathers _ _) xcl12 xw_2643 xw_2645 xs_192 hb rfl (Nat.le_of_ble_eq_true rfl) rfl (Nat.le_of_ble_eq_true rfl) (fun Q1 hq => m_X12_gathers (d := d + 0) ep6 (fun g hg => by subst hg; exact hq)) ?_
    refine xb_if_ne 54 dX12_gather_49 (by decide) hf (fun c hf => ?_) (fun c hf => ?_)
    · refine xm_iconst dX12_gather_54 (v := 0) (by decide) ?_
      refine xb_topi hf (fun v7 ev7 hf => ?_)
      refine xm_istore_n dX12_gather_55 (by decide) (xm_stL (L' := [(3, .int v7), (0, .ref l0), (1, .int l1), (2, .int l2)]) rfl ?_)
      obtain ⟨o, h1, hf⟩ := xbind hf
      refine xm_sub [1, 0] rfl (L_X12_gather_l56  h1 (fun g hg => ?_) (fun e he => ?_))
      · subst hg
        cases hf
        exact hR _ rfl
      · subst he
        rw [Sum.elim_inr] at hf
        have hf : f_X12_gather_j81 e.2 e.1 = some _ := hf
        exact xm_sub [0] rfl (L_X12_gather_j81 e.2 e.1 hf hR)
    · refine xm_iconst dX12_gather_52 (v := -1) (by decide) ?_
      cases hf
      exact xm_iret dX12_gather_53 rfl (hR _ rfl)
  · refine xm_iconst dX12_gather_33 (v := 0) (by decide) ?_
    cases hf
    exact xm_iret dX12_gather_34 rfl (hR _ rfl)
def f_X12_gather_j14 (σ : xM) (l0 : Nat) (l1 : Int32) (l2 : Int32) (s0 : Int32) (s1 : Nat) : Option (Int32 × xM) :=
  (f_X12_isName σ l2).bind (fun p2 => (if p2 = (0 : Int32) then f_X12_gather_j26 σ l0 l1 l2 (1 : Int32) s0 s1 else f_X12_gather_j26 σ l0 l1 l2 (0 : Int32) s0 s1))
set_option maxHeartbeats 4000000 in
set_option maxRecDepth 20000 in
theorem L_X12_gather_j14 {G : xG} {π : Nat → Nat} {d C Z : Nat} {Q : xQ} (σ : xM) (l0 : Nat) (l1 : Int32) (l2 : Int32) (s0 : Int32) (s1 : Nat) {x : (Int32 × xM)} (hf : f_X12_gather_j14 σ l0 l1 l2 s0 s1 = some x) (hR : ∀ g, x = g → Q (.inl (some (.int g.1))) (g.2) π) : xMach G π J_X12_gather (d + 10) C Z 14 [(0, .ref l0), (1, .int l1), (2, .int l2)] [.int s0, .ref s1] σ Q := by
  unfold f_X12_gather_j14 at hf
  refine xm_iload_n dX12_gather_14 rfl ?_
  obtain ⟨p2, ep2, hf⟩ := xbind hf
  refine xb_callS (As := [.int l2]) (v0 := (some (.int p2))) (τ0 := σ) dX12_gather_15 (xc_X12_isName _ _) xw_2257 xw_2258 rfl (Nat.le_of_ble_eq_true rfl) rfl (Nat.le_of_ble_eq_true rfl) (fun Q1 hq => m_X12_isName (d := d + 8) ep2 (fun g hg => by subst hg; exact hq)) ?_
  refine xb_if_ne 25 dX12_gather_18 (by decide) hf (fun c hf => ?_) (fun c hf => ?_)
  · refine xm_iconst dX12_gather_25 (v := 0) (by decide) ?_
    exact xm_sub [0, 1, 2] rfl (L_X12_gather_j26 σ l0 l1 l2 (0 : Int32) s0 s1 hf hR)
  · refine xm_iconst dX12_gather_21 (v := 1) (by decide) ?_
    refine xm_goto 26 dX12_gather_22 (by decide) ?_
    exact xm_sub [0, 1, 2] rfl (L_X12_gather_j26 σ l0 l1 l2 (1 : Int32) s0 s1 hf hR)
def f_X12_gather (σ : xM) (l0 : Nat) (l1 : Int32) (l2 : Int32) : Option (Int32 × xM) :=
  (if xk σ l0 12 = true then (f_X12_isTree σ l0 l1).bind (fun p1 => (if p1 = (0 : Int32) then f_X12_gather_j14 σ l0 l1 l2 (1 : Int32) l0 else f_X12_gather_j14 σ l0 l1 l2 (0 : Int32) l0)) else none)
set_option maxHeartbeats 4000000 in
set_option maxRecDepth 20000 in
theorem m_X12_gather {G : xG} {π : Nat → Nat} {d C Z : Nat} {Q : xQ} {σ : xM} {l0 : Nat} {l1 : Int32} {l2 : Int32} {x : (Int32 × xM)} (hf : f_X12_gather σ l0 l1 l2 = some x) (hR : ∀ g, x = g → Q (.inl (some (.int g.1))) (g.2) π) : xMach G π J_X12_gather (d + 10) C Z 0 (lv_args 0 [.ref l0, .int l1, .int l2]) [] σ Q := by
  unfold f_X12_gather at hf
  refine xm_stL (L' := [(0, .ref l0), (1, .int l1), (2, .int l2)]) rfl ?_
  refine xm_aload_n dX12_gather_0 rfl ?_
  refine xm_aload_n dX12_gather_1 rfl ?_
  refine xm_iload_n dX12_gather_2 rfl ?_
  refine xb_if hf (fun hb hf => ?_) (fun _ q => nomatch q)
  obtain ⟨p1, ep1, hf⟩ := xbind hf
  refine xb_callV (As := [.int l1]) (v0 := (some (.int p1))) (τ0 := σ) dX12_gather_3 (xc_X12_isTree _ _) xcl12 xw_2233 xw_2235 xs_113 hb rfl (Nat.le_of_ble_eq_true rfl) rfl (Nat.le_of_ble_eq_true rfl) (fun Q1 hq => m_X12_isTree (d := d + 8) ep1 (fun g hg => by subst hg; exact hq)) ?_
  refine xb_if_ne 13 dX12_gather_6 (by decide) hf (fun c hf => ?_) (fun c hf => ?_)
  · refine xm_iconst dX12_gather_13 (v := 0) (by decide) ?_
    exact xm_sub [0, 1, 2] rfl (L_X12_gather_j14 σ l0 l1 l2 (0 : Int32) l0 hf hR)
  · refine xm_iconst dX12_gather_9 (v := 1) (by decide) ?_
    refine xm_goto 14 dX12_gather_10 (by decide) ?_
    exact xm_sub [0, 1, 2] rfl (L_X12_gather_j14 σ l0 l1 l2 (1 : Int32) l0 hf hR)
-- RankwiseModel.coefficient(I)Z
def f_X12_coefficient_j50 (σ : xM) (s0 : Int32) : Option (Int32 × xM) :=
  (xz s0).bind (fun b5 => some (b5, σ))
set_option maxHeartbeats 4000000 in
set_option maxRecDepth 20000 in
theorem L_X12_coefficient_j50 {G : xG} {π : Nat → Nat} {d C Z : Nat} {Q : xQ} (σ : xM) (s0 : Int32) {x : (Int32 × xM)} (hf : f_X12_coefficient_j50 σ s0 = some x) (hR : ∀ g, x = g → Q (.inl (some (.int g.1))) (g.2) π) : xMach G π J_X12_coefficient (d + 1) C Z 50 [] [.int s0] σ Q := by
  unfold f_X12_coefficient_j50 at hf
  obtain ⟨b5, eb5, hf⟩ := xbind hf
  obtain ⟨rfl, hz⟩ := xz_of eb5
  cases hf
  exact xm_zret dX12_coefficient_50 rfl hz (hR _ rfl)
def f_X12_coefficient_j16 (σ : xM) (l0 : Nat) (l1 : Int32) (s0 : Int32) (s1 : Nat) : Option (Int32 × xM) :=
  (if xk σ s1 12 = true then (f_X12_refused σ s1 s0 (0 : Int32) (0 : Int32)).bind (fun p2 => (if p2.1 = (0 : Int32) then (if xk p2.2 l0 12 = true then (f_X12_copyValue p2.2 l0 (26 : Int32) ((47 : Int32) + l1)).bind (fun p3 => (if xk p3 l0 12 = true then (f_X12_sign p3 l0 (26 : Int32)).bind (fun p4 => (if p4 = (0 : Int32) then f_X12_coefficient_j50 p3 (0 : Int32) else f_X12_coefficient_j50 p3 (1 : Int32))) else none)) else none) else some ((0 : Int32), p2.2))) else none)
set_option maxHeartbeats 4000000 in
set_option maxRecDepth 20000 in
theorem L_X12_coefficient_j16 {G : xG} {π : Nat → Nat} {d C Z : Nat} {Q : xQ} (σ : xM) (l0 : Nat) (l1 : Int32) (s0 : Int32) (s1 : Nat) {x : (Int32 × xM)} (hf : f_X12_coefficient_j16 σ l0 l1 s0 s1 = some x) (hR : ∀ g, x = g → Q (.inl (some (.int g.1))) (g.2) π) : xMach G π J_X12_coefficient (d + 1) C Z 16 [(0, .ref l0), (1, .int l1)] [.int s0, .ref s1] σ Q := by
  unfold f_X12_coefficient_j16 at hf
  refine xm_iconst dX12_coefficient_16 (v := 0) (by decide) ?_
  refine xm_iconst dX12_coefficient_17 (v := 0) (by decide) ?_
  refine xb_if hf (fun hb hf => ?_) (fun _ q => nomatch q)
  obtain ⟨p2, ep2, hf⟩ := xbind hf
  refine xb_callV (As := [.int s0, .int (0 : Int32), .int (0 : Int32)]) (v0 := (some (.int p2.1))) (τ0 := p2.2) dX12_coefficient_18 (xc_X12_refused _ _) xcl12 xw_2112 xw_2114 xs_90 hb rfl (Nat.le_of_ble_eq_true rfl) rfl (Nat.le_of_ble_eq_true rfl) (fun Q1 hq => m_X12_refused (d := d + 0) ep2 (fun g hg => by subst hg; exact hq)) ?_
  refine xb_if_eq 26 dX12_coefficient_21 (by decide) hf (fun c hf => ?_) (fun c hf => ?_)
  · refine xm_aload_n dX12_coefficient_26 rfl ?_
    refine xm_bipush dX12_coefficient_27 (v := 26) (by decide) ?_
    refine xm_bipush dX12_coefficient_29 (v := 47) (by decide) ?_
    refine xm_iload_n dX12_coefficient_31 rfl ?_
    refine xm_iadd dX12_coefficient_32 ?_
    refine xb_if hf (fun hb hf => ?_) (fun _ q => nomatch q)
    obtain ⟨p3, ep3, hf⟩ := xbind hf
    refine xb_callV (As := [.int (26 : Int32), .int ((47 : Int32) + l1)]) (v0 := none) (τ0 := p3) dX12_coefficient_33 (xc_X12_copyValue _ _) xcl12 xw_2100 xw_2102 xs_88 hb rfl (Nat.le_of_ble_eq_true rfl) rfl (Nat.le_of_ble_eq_true rfl) (fun Q1 hq => m_X12_copyValue (d := d + 0) ep3 (fun g hg => by subst hg; exact hq)) ?_
    refine xm_aload_n dX12_coefficient_36 rfl ?_
    refine xm_bipush dX12_coefficient_37 (v := 26) (by decide) ?_
    refine xb_if hf (fun hb hf => ?_) (fun _ q => nomatch q)
    obtain ⟨p4, ep4, hf⟩ := xbind hf
    refine xb_callV (As := [.int (26 : Int32)]) (v0 := (some (.int p4))) (τ0 := p3) dX12_coefficient_39 (xc_X12_sign _ _) xcl12 xw_2387 xw_2389 xs_141 hb rfl (Nat.le_of_ble_eq_true rfl) rfl (Nat.le_of_ble_eq_true rfl) (fun Q1 hq => m_X12_sign (d := d + 0) ep4 (fun g hg => by subst hg; exact hq)) ?_
    refine xb_if_eq 49 dX12_coefficient_42 (by decide) hf (fun c hf => ?_) (fun c hf => ?_)
    · refine xm_iconst dX12_coefficient_49 (v := 0) (by decide) ?_
      exact xm_sub [] rfl (L_X12_coefficient_j50 p3 (0 : Int32) hf hR)
    · refine xm_iconst dX12_coefficient_45 (v := 1) (by decide) ?_
      refine xm_goto 50 dX12_coefficient_46 (by decide) ?_
      exact xm_sub [] rfl (L_X12_coefficient_j50 p3 (1 : Int32) hf hR)
  · refine xm_iconst dX12_coefficient_24 (v := 0) (by decide) ?_
    cases hf
    exact xm_zret dX12_coefficient_25 rfl rfl (hR _ rfl)
def f_X12_coefficient (σ : xM) (l0 : Nat) (l1 : Int32) : Option (Int32 × xM) :=
  (f_X12_in σ l1 (0 : Int32) (8 : Int32)).bind (fun p1 => (if p1 = (0 : Int32) then f_X12_coefficient_j16 σ l0 l1 (1 : Int32) l0 else f_X12_coefficient_j16 σ l0 l1 (0 : Int32) l0))
set_option maxHeartbeats 4000000 in
set_option maxRecDepth 20000 in
theorem m_X12_coefficient {G : xG} {π : Nat → Nat} {d C Z : Nat} {Q : xQ} {σ : xM} {l0 : Nat} {l1 : Int32} {x : (Int32 × xM)} (hf : f_X12_coefficient σ l0 l1 = some x) (hR : ∀ g, x = g → Q (.inl (some (.int g.1))) (g.2) π) : xMach G π J_X12_coefficient (d + 1) C Z 0 (lv_args 0 [.ref l0, .int l1]) [] σ Q := by
  unfold f_X12_coefficient at hf
  refine xm_stL (L' := [(0, .ref l0), (1, .int l1)]) rfl ?_
  refine xm_aload_n dX12_coefficient_0 rfl ?_
  refine xm_iload_n dX12_coefficient_1 rfl ?_
  refine xm_iconst dX12_coefficient_2 (v := 0) (by decide) ?_
  refine xm_bipush dX12_coefficient_3 (v := 8) (by decide) ?_
  obtain ⟨p1, ep1, hf⟩ := xbind hf
  refine xb_callS (As := [.int l1, .int (0 : Int32), .int (8 : Int32)]) (v0 := (some (.int p1))) (τ0 := σ) dX12_coefficient_5 (xc_X12_in _ _) xw_2132 xw_2133 rfl (Nat.le_of_ble_eq_true rfl) rfl (Nat.le_of_ble_eq_true rfl) (fun Q1 hq => m_X12_in (d := d + 0) ep1 (fun g hg => by subst hg; exact hq)) ?_
  refine xb_if_ne 15 dX12_coefficient_8 (by decide) hf (fun c hf => ?_) (fun c hf => ?_)
  · refine xm_iconst dX12_coefficient_15 (v := 0) (by decide) ?_
    exact xm_sub [0, 1] rfl (L_X12_coefficient_j16 σ l0 l1 (0 : Int32) l0 hf hR)
  · refine xm_iconst dX12_coefficient_11 (v := 1) (by decide) ?_
    refine xm_goto 16 dX12_coefficient_12 (by decide) ?_
    exact xm_sub [0, 1] rfl (L_X12_coefficient_j16 σ l0 l1 (1 : Int32) l0 hf hR)
-- RankwiseModel.derive(IC)I
def f_X12_derive_j67 (σ : xM) (l0 : Nat) (l3 : Int32) (s0 : Int32) (s1 : Int32) (s2 : Int32) (s3 : Nat) : Option (Int32 × xM) :=
  (if xk σ s3 12 = true then (f_X12_refused σ s3 s2 s1 s0).bind (fun p6 => (if p6.1 = (0 : Int32) then (if xk p6.2 l0 12 = true then (f_X12_shelve p6.2 l0 (13740 : Int32) l3).bind (fun p7 => some (p7.1, p7.2)) else none) else some ((0 : Int32), p6.2))) else none)
set_option maxHeartbeats 4000000 in
set_option maxRecDepth 20000 in
theorem L_X12_derive_j67 {G : xG} {π : Nat → Nat} {d C Z : Nat} {Q : xQ} (σ : xM) (l0 : Nat) (l3 : Int32) (s0 : Int32) (s1 : Int32) (s2 : Int32) (s3 : Nat) {x : (Int32 × xM)} (hf : f_X12_derive_j67 σ l0 l3 s0 s1 s2 s3 = some x) (hR : ∀ g, x = g → Q (.inl (some (.int g.1))) (g.2) π) : xMach G π J_X12_derive (d + 5) C Z 67 [(0, .ref l0), (3, .int l3)] [.int s0, .int s1, .int s2, .ref s3] σ Q := by
  unfold f_X12_derive_j67 at hf
  refine xb_if hf (fun hb hf => ?_) (fun _ q => nomatch q)
  obtain ⟨p6, ep6, hf⟩ := xbind hf
  refine xb_callV (As := [.int s2, .int s1, .int s0]) (v0 := (some (.int p6.1))) (τ0 := p6.2) dX12_derive_67 (xc_X12_refused _ _) xcl12 xw_2112 xw_2114 xs_90 hb rfl (Nat.le_of_ble_eq_true rfl) rfl (Nat.le_of_ble_eq_true rfl) (fun Q1 hq => m_X12_refused (d := d + 4) ep6 (fun g hg => by subst hg; exact hq)) ?_
  refine xb_if_eq 75 dX12_derive_70 (by decide) hf (fun c hf => ?_) (fun c hf => ?_)
  · refine xm_aload_n dX12_derive_75 rfl ?_
    refine xm_sipush dX12_derive_76 (v := 13740) (by decide) ?_
    refine xm_iload_n dX12_derive_79 rfl ?_
    refine xb_if hf (fun hb hf => ?_) (fun _ q => nomatch q)
    obtain ⟨p7, ep7, hf⟩ := xbind hf
    refine xb_callV (As := [.int (13740 : Int32), .int l3]) (v0 := (some (.int p7.1))) (τ0 := p7.2) dX12_derive_80 (xc_X12_shelve _ _) xcl12 xw_2210 xw_2212 xs_110 hb rfl (Nat.le_of_ble_eq_true rfl) rfl (Nat.le_of_ble_eq_true rfl) (fun Q1 hq => m_X12_shelve (d := d + 3) ep7 (fun g hg => by subst hg; exact hq)) ?_
    cases hf
    exact xm_iret dX12_derive_83 rfl (hR _ rfl)
  · refine xm_iconst dX12_derive_73 (v := 0) (by decide) ?_
    cases hf
    exact xm_iret dX12_derive_74 rfl (hR _ rfl)
def f_X12_derive_j62 (σ : xM) (l0 : Nat) (l3 : Int32) (s0 : Int32) (s1 : Int32) (s2 : Nat) : Option (Int32 × xM) :=
  f_X12_derive_j67 σ l0 l3 (1 : Int32) s0 s1 s2
set_option maxHeartbeats 4000000 in
set_option maxRecDepth 20000 in
theorem L_X12_derive_j62 {G : xG} {π : Nat → Nat} {d C Z : Nat} {Q : xQ} (σ : xM) (l0 : Nat) (l3 : Int32) (s0 : Int32) (s1 : Int32) (s2 : Nat) {x : (Int32 × xM)} (hf : f_X12_derive_j62 σ l0 l3 s0 s1 s2 = some x) (hR : ∀ g, x = g → Q (.inl (some (.int g.1))) (g.2) π) : xMach G π J_X12_derive (d + 5) C Z 62 [(0, .ref l0), (3, .int l3)] [.int s0, .int s1, .ref s2] σ Q := by
  unfold f_X12_derive_j62 at hf
  refine xm_iconst dX12_derive_62 (v := 1) (by decide) ?_
  refine xm_goto 67 dX12_derive_63 (by decide) ?_
  exact xm_sub [0, 1] rfl (L_X12_derive_j67 σ l0 l3 (1 : Int32) s0 s1 s2 hf hR)
def f_X12_derive_j26 (σ : xM) (l0 : Nat) (l1 : Int32) (l2 : Int32) (s0 : Int32) (s1 : Int32) (s2 : Nat) : Option (Int32 × xM) :=
  (if xk σ s2 12 = true then (f_X12_refused σ s2 s1 s0 (0 : Int32)).bind (fun p3 => (if p3.1 = (0 : Int32) then (f_X12_shelf p3.2 l1).bind (fun p4 => (if xk p3.2 l0 12 = true then (f_X12_derives p3.2 l0 p4 l2).bind (fun p5 => (if p5.1 = (-1 : Int32) then f_X12_derive_j62 p5.2 l0 p5.1 (0 : Int32) (0 : Int32) l0 else (gI p5.2 l0 12 10).bind (fun x8 => (if x8 = (30 : Int32) then f_X12_derive_j62 p5.2 l0 p5.1 (0 : Int32) (0 : Int32) l0 else f_X12_derive_j67 p5.2 l0 p5.1 (0 : Int32) (0 : Int32) (0 : Int32) l0)))) else none)) else some ((0 : Int32), p3.2))) else none)
set_option maxHeartbeats 4000000 in
set_option maxRecDepth 20000 in
theorem L_X12_derive_j26 {G : xG} {π : Nat → Nat} {d C Z : Nat} {Q : xQ} (σ : xM) (l0 : Nat) (l1 : Int32) (l2 : Int32) (s0 : Int32) (s1 : Int32) (s2 : Nat) {x : (Int32 × xM)} (hf : f_X12_derive_j26 σ l0 l1 l2 s0 s1 s2 = some x) (hR : ∀ g, x = g → Q (.inl (some (.int g.1))) (g.2) π) : xMach G π J_X12_derive (d + 5) C Z 26 [(0, .ref l0), (1, .int l1), (2, .int l2)] [.int s0, .int s1, .ref s2] σ Q := by
  unfold f_X12_derive_j26 at hf
  refine xm_iconst dX12_derive_26 (v := 0) (by decide) ?_
  refine xb_if hf (fun hb hf => ?_) (fun _ q => nomatch q)
  obtain ⟨p3, ep3, hf⟩ := xbind hf
  refine xb_callV (As := [.int s1, .int s0, .int (0 : Int32)]) (v0 := (some (.int p3.1))) (τ0 := p3.2) dX12_derive_27 (xc_X12_refused _ _) xcl12 xw_2112 xw_2114 xs_90 hb rfl (Nat.le_of_ble_eq_true rfl) rfl (Nat.le_of_ble_eq_true rfl) (fun Q1 hq => m_X12_refused (d := d + 4) ep3 (fun g hg => by subst hg; exact hq)) ?_
  refine xb_if_eq 35 dX12_derive_30 (by decide) hf (fun c hf => ?_) (fun c hf => ?_)
  · refine xm_aload_n dX12_derive_35 rfl ?_
    refine xm_iload_n dX12_derive_36 rfl ?_
    obtain ⟨p4, ep4, hf⟩ := xbind hf
    refine xb_callS (As := [.int l1]) (v0 := (some (.int p4))) (τ0 := p3.2) dX12_derive_37 (xc_X12_shelf _ _) xw_2214 xw_2215 rfl (Nat.le_of_ble_eq_true rfl) rfl (Nat.le_of_ble_eq_true rfl) (fun Q1 hq => m_X12_shelf (d := d + 4) ep4 (fun g hg => by subst hg; exact hq)) ?_
    refine xm_iload_n dX12_derive_40 rfl ?_
    refine xb_if hf (fun hb hf => ?_) (fun _ q => nomatch q)
    obtain ⟨p5, ep5, hf⟩ := xbind hf
    refine xb_callV (As := [.int p4, .int l2]) (v0 := (some (.int p5.1))) (τ0 := p5.2) dX12_derive_41 (xc_X12_derives _ _) xcl12 xw_2718 xw_2720 xs_208 hb rfl (Nat.le_of_ble_eq_true rfl) rfl (Nat.le_of_ble_eq_true rfl) (fun Q1 hq => m_X12_derives (d := d + 0) ep5 (fun g hg => by subst hg; exact hq)) ?_
    refine xm_istore_n dX12_derive_44 (by decide) (xm_stL (L' := [(3, .int p5.1), (0, .ref l0), (1, .int l1), (2, .int l2)]) rfl ?_)
    refine xm_aload_n dX12_derive_45 rfl ?_
    refine xm_iconst dX12_derive_46 (v := 0) (by decide) ?_
    refine xm_iconst dX12_derive_47 (v := 0) (by decide) ?_
    refine xm_iload_n dX12_derive_48 rfl ?_
    refine xm_iconst dX12_derive_49 (v := -1) (by decide) ?_
    refine xb_icmp_eq 62 dX12_derive_50 (by decide) hf (fun c hf => ?_) (fun c hf => ?_)
    · exact xm_sub [1, 0] rfl (L_X12_derive_j62 p5.2 l0 p5.1 (0 : Int32) (0 : Int32) l0 hf hR)
    · refine xm_aload_n dX12_derive_53 rfl ?_
      refine xb_getI (a := l0) (c := 12) (k := 10) dX12_derive_54 xcl12 (by decide) xw_1847 rfl hf (fun x8 ex8 hf => ?_)
      refine xm_bipush dX12_derive_57 (v := 30) (by decide) ?_
      refine xb_icmp_ne 66 dX12_derive_59 (by decide) hf (fun c hf => ?_) (fun c hf => ?_)
      · refine xm_iconst dX12_derive_66 (v := 0) (by decide) ?_
        exact xm_sub [1, 0] rfl (L_X12_derive_j67 p5.2 l0 p5.1 (0 : Int32) (0 : Int32) (0 : Int32) l0 hf hR)
      · exact xm_sub [1, 0] rfl (L_X12_derive_j62 p5.2 l0 p5.1 (0 : Int32) (0 : Int32) l0 hf hR)
  · refine xm_iconst dX12_derive_33 (v := 0) (by decide) ?_
    cases hf
    exact xm_iret dX12_derive_34 rfl (hR _ rfl)
def f_X12_derive_j14 (σ : xM) (l0 : Nat) (l1 : Int32) (l2 : Int32) (s0 : Int32) (s1 : Nat) : Option (Int32 × xM) :=
  (f_X12_isName σ l2).bind (fun p2 => (if p2 = (0 : Int32) then f_X12_derive_j26 σ l0 l1 l2 (1 : Int32) s0 s1 else f_X12_derive_j26 σ l0 l1 l2 (0 : Int32) s0 s1))
set_option maxHeartbeats 4000000 in
set_option maxRecDepth 20000 in
theorem L_X12_derive_j14 {G : xG} {π : Nat → Nat} {d C Z : Nat} {Q : xQ} (σ : xM) (l0 : Nat) (l1 : Int32) (l2 : Int32) (s0 : Int32) (s1 : Nat) {x : (Int32 × xM)} (hf : f_X12_derive_j14 σ l0 l1 l2 s0 s1 = some x) (hR : ∀ g, x = g → Q (.inl (some (.int g.1))) (g.2) π) : xMach G π J_X12_derive (d + 5) C Z 14 [(0, .ref l0), (1, .int l1), (2, .int l2)] [.int s0, .ref s1] σ Q := by
  unfold f_X12_derive_j14 at hf
  refine xm_iload_n dX12_derive_14 rfl ?_
  obtain ⟨p2, ep2, hf⟩ := xbind hf
  refine xb_callS (As := [.int l2]) (v0 := (some (.int p2))) (τ0 := σ) dX12_derive_15 (xc_X12_isName _ _) xw_2257 xw_2258 rfl (Nat.le_of_ble_eq_true rfl) rfl (Nat.le_of_ble_eq_true rfl) (fun Q1 hq => m_X12_isName (d := d + 3) ep2 (fun g hg => by subst hg; exact hq)) ?_
  refine xb_if_ne 25 dX12_derive_18 (by decide) hf (fun c hf => ?_) (fun c hf => ?_)
  · refine xm_iconst dX12_derive_25 (v := 0) (by decide) ?_
    exact xm_sub [0, 1, 2] rfl (L_X12_derive_j26 σ l0 l1 l2 (0 : Int32) s0 s1 hf hR)
  · refine xm_iconst dX12_derive_21 (v := 1) (by decide) ?_
    refine xm_goto 26 dX12_derive_22 (by decide) ?_
    exact xm_sub [0, 1, 2] rfl (L_X12_derive_j26 σ l0 l1 l2 (1 : Int32) s0 s1 hf hR)
def f_X12_derive (σ : xM) (l0 : Nat) (l1 : Int32) (l2 : Int32) : Option (Int32 × xM) :=
  (if xk σ l0 12 = true then (f_X12_isTree σ l0 l1).bind (fun p1 => (if p1 = (0 : Int32) then f_X12_derive_j14 σ l0 l1 l2 (1 : Int32) l0 else f_X12_derive_j14 σ l0 l1 l2 (0 : Int32) l0)) else none)
set_option maxHeartbeats 4000000 in
set_option maxRecDepth 20000 in
theorem m_X12_derive {G : xG} {π : Nat → Nat} {d C Z : Nat} {Q : xQ} {σ : xM} {l0 : Nat} {l1 : Int32} {l2 : Int32} {x : (Int32 × xM)} (hf : f_X12_derive σ l0 l1 l2 = some x) (hR : ∀ g, x = g → Q (.inl (some (.int g.1))) (g.2) π) : xMach G π J_X12_derive (d + 5) C Z 0 (lv_args 0 [.ref l0, .int l1, .int l2]) [] σ Q := by
  unfold f_X12_derive at hf
  refine xm_stL (L' := [(0, .ref l0), (1, .int l1), (2, .int l2)]) rfl ?_
  refine xm_aload_n dX12_derive_0 rfl ?_
  refine xm_aload_n dX12_derive_1 rfl ?_
  refine xm_iload_n dX12_derive_2 rfl ?_
  refine xb_if hf (fun hb hf => ?_) (fun _ q => nomatch q)
  obtain ⟨p1, ep1, hf⟩ := xbind hf
  refine xb_callV (As := [.int l1]) (v0 := (some (.int p1))) (τ0 := σ) dX12_derive_3 (xc_X12_isTree _ _) xcl12 xw_2233 xw_2235 xs_113 hb rfl (Nat.le_of_ble_eq_true rfl) rfl (Nat.le_of_ble_eq_true rfl) (fun Q1 hq => m_X12_isTree (d := d + 3) ep1 (fun g hg => by subst hg; exact hq)) ?_
  refine xb_if_ne 13 dX12_derive_6 (by decide) hf (fun c hf => ?_) (fun c hf => ?_)
  · refine xm_iconst dX12_derive_13 (v := 0) (by decide) ?_
    exact xm_sub [0, 1, 2] rfl (L_X12_derive_j14 σ l0 l1 l2 (0 : Int32) l0 hf hR)
  · refine xm_iconst dX12_derive_9 (v := 1) (by decide) ?_
    refine xm_goto 14 dX12_derive_10 (by decide) ?_
    exact xm_sub [0, 1, 2] rfl (L_X12_derive_j14 σ l0 l1 l2 (1 : Int32) l0 hf hR)
-- RankwiseModel.slope(IC)I
def f_X12_slope_j82 (σ : xM) (l3 : Int32) : Option (Int32 × xM) :=
  some (l3, σ)
set_option maxHeartbeats 4000000 in
set_option maxRecDepth 20000 in
theorem L_X12_slope_j82 {G : xG} {π : Nat → Nat} {d C Z : Nat} {Q : xQ} (σ : xM) (l3 : Int32) {x : (Int32 × xM)} (hf : f_X12_slope_j82 σ l3 = some x) (hR : ∀ g, x = g → Q (.inl (some (.int g.1))) (g.2) π) : xMach G π J_X12_slope (d + 12) C Z 82 [(3, .int l3)] [] σ Q := by
  unfold f_X12_slope_j82 at hf
  refine xm_iload_n dX12_slope_82 rfl ?_
  cases hf
  exact xm_iret dX12_slope_83 rfl (hR _ rfl)
def f_X12_slope_j50 (σ : xM) (l0 : Nat) (l1 : Int32) (l2 : Int32) (s0 : Int32) (s1 : Int32) (s2 : Int32) (s3 : Nat) : Option (Int32 × xM) :=
  (if xk σ s3 12 = true then (f_X12_refused σ s3 s2 s1 s0).bind (fun p4 => (if p4.1 = (0 : Int32) then (f_X12_shelf p4.2 l1).bind (fun p5 => (if xk p4.2 l0 12 = true then (f_X12_slopes p4.2 l0 p5 l2).bind (fun p6 => (if p6.1 = (0 : Int32) then (f_X12_partAt p6.2 (0 : Int32)).bind (fun p7 => (if xk p6.2 l0 12 = true then (f_X12_copyValue p6.2 l0 (26 : Int32) p7).bind (fun p8 => f_X12_slope_j82 p8 p6.1) else none)) else f_X12_slope_j82 p6.2 p6.1)) else none)) else some ((0 : Int32), p4.2))) else none)
set_option maxHeartbeats 4000000 in
set_option maxRecDepth 20000 in
theorem L_X12_slope_j50 {G : xG} {π : Nat → Nat} {d C Z : Nat} {Q : xQ} (σ : xM) (l0 : Nat) (l1 : Int32) (l2 : Int32) (s0 : Int32) (s1 : Int32) (s2 : Int32) (s3 : Nat) {x : (Int32 × xM)} (hf : f_X12_slope_j50 σ l0 l1 l2 s0 s1 s2 s3 = some x) (hR : ∀ g, x = g → Q (.inl (some (.int g.1))) (g.2) π) : xMach G π J_X12_slope (d + 12) C Z 50 [(0, .ref l0), (1, .int l1), (2, .int l2)] [.int s0, .int s1, .int s2, .ref s3] σ Q := by
  unfold f_X12_slope_j50 at hf
  refine xb_if hf (fun hb hf => ?_) (fun _ q => nomatch q)
  obtain ⟨p4, ep4, hf⟩ := xbind hf
  refine xb_callV (As := [.int s2, .int s1, .int s0]) (v0 := (some (.int p4.1))) (τ0 := p4.2) dX12_slope_50 (xc_X12_refused _ _) xcl12 xw_2112 xw_2114 xs_90 hb rfl (Nat.le_of_ble_eq_true rfl) rfl (Nat.le_of_ble_eq_true rfl) (fun Q1 hq => m_X12_refused (d := d + 11) ep4 (fun g hg => by subst hg; exact hq)) ?_
  refine xb_if_eq 58 dX12_slope_53 (by decide) hf (fun c hf => ?_) (fun c hf => ?_)
  · refine xm_aload_n dX12_slope_58 rfl ?_
    refine xm_iload_n dX12_slope_59 rfl ?_
    obtain ⟨p5, ep5, hf⟩ := xbind hf
    refine xb_callS (As := [.int l1]) (v0 := (some (.int p5))) (τ0 := p4.2) dX12_slope_60 (xc_X12_shelf _ _) xw_2214 xw_2215 rfl (Nat.le_of_ble_eq_true rfl) rfl (Nat.le_of_ble_eq_true rfl) (fun Q1 hq => m_X12_shelf (d := d + 11) ep5 (fun g hg => by subst hg; exact hq)) ?_
    refine xm_iload_n dX12_slope_63 rfl ?_
    refine xb_if hf (fun hb hf => ?_) (fun _ q => nomatch q)
    obtain ⟨p6, ep6, hf⟩ := xbind hf
    refine xb_callV (As := [.int p5, .int l2]) (v0 := (some (.int p6.1))) (τ0 := p6.2) dX12_slope_64 (xc_X12_slopes _ _) xcl12 xw_2758 xw_2760 xs_217 hb rfl (Nat.le_of_ble_eq_true rfl) rfl (Nat.le_of_ble_eq_true rfl) (fun Q1 hq => m_X12_slopes (d := d + 0) ep6 (fun g hg => by subst hg; exact hq)) ?_
    refine xm_istore_n dX12_slope_67 (by decide) (xm_stL (L' := [(3, .int p6.1), (0, .ref l0), (1, .int l1), (2, .int l2)]) rfl ?_)
    refine xm_iload_n dX12_slope_68 rfl ?_
    refine xb_if_ne 82 dX12_slope_69 (by decide) hf (fun c hf => ?_) (fun c hf => ?_)
    · exact xm_sub [0] rfl (L_X12_slope_j82 p6.2 p6.1 hf hR)
    · refine xm_aload_n dX12_slope_72 rfl ?_
      refine xm_bipush dX12_slope_73 (v := 26) (by decide) ?_
      refine xm_iconst dX12_slope_75 (v := 0) (by decide) ?_
      obtain ⟨p7, ep7, hf⟩ := xbind hf
      refine xb_callS (As := [.int (0 : Int32)]) (v0 := (some (.int p7))) (τ0 := p6.2) dX12_slope_76 (xc_X12_partAt _ _) xw_2781 xw_2782 rfl (Nat.le_of_ble_eq_true rfl) rfl (Nat.le_of_ble_eq_true rfl) (fun Q1 hq => m_X12_partAt (d := d + 11) ep7 (fun g hg => by subst hg; exact hq)) ?_
      refine xb_if hf (fun hb hf => ?_) (fun _ q => nomatch q)
      obtain ⟨p8, ep8, hf⟩ := xbind hf
      refine xb_callV (As := [.int (26 : Int32), .int p7]) (v0 := none) (τ0 := p8) dX12_slope_79 (xc_X12_copyValue _ _) xcl12 xw_2100 xw_2102 xs_88 hb rfl (Nat.le_of_ble_eq_true rfl) rfl (Nat.le_of_ble_eq_true rfl) (fun Q1 hq => m_X12_copyValue (d := d + 11) ep8 (fun g hg => by subst hg; exact hq)) ?_
      exact xm_sub [0] rfl (L_X12_slope_j82 p8 p6.1 hf hR)
  · refine xm_iconst dX12_slope_56 (v := 0) (by decide) ?_
    cases hf
    exact xm_iret dX12_slope_57 rfl (hR _ rfl)
def f_X12_slope_j49 (σ : xM) (l0 : Nat) (l1 : Int32) (l2 : Int32) (s0 : Int32) (s1 : Int32) (s2 : Nat) : Option (Int32 × xM) :=
  f_X12_slope_j50 σ l0 l1 l2 (0 : Int32) s0 s1 s2
set_option maxHeartbeats 4000000 in
set_option maxRecDepth 20000 in
theorem L_X12_slope_j49 {G : xG} {π : Nat → Nat} {d C Z : Nat} {Q : xQ} (σ : xM) (l0 : Nat) (l1 : Int32) (l2 : Int32) (s0 : Int32) (s1 : Int32) (s2 : Nat) {x : (Int32 × xM)} (hf : f_X12_slope_j49 σ l0 l1 l2 s0 s1 s2 = some x) (hR : ∀ g, x = g → Q (.inl (some (.int g.1))) (g.2) π) : xMach G π J_X12_slope (d + 12) C Z 49 [(0, .ref l0), (1, .int l1), (2, .int l2)] [.int s0, .int s1, .ref s2] σ Q := by
  unfold f_X12_slope_j49 at hf
  refine xm_iconst dX12_slope_49 (v := 0) (by decide) ?_
  exact xm_sub [0, 1, 2] rfl (L_X12_slope_j50 σ l0 l1 l2 (0 : Int32) s0 s1 s2 hf hR)
def f_X12_slope_j26 (σ : xM) (l0 : Nat) (l1 : Int32) (l2 : Int32) (s0 : Int32) (s1 : Int32) (s2 : Nat) : Option (Int32 × xM) :=
  (if xk σ l0 12 = true then (f_X12_isTree σ l0 l1).bind (fun p3 => (if p3 = (0 : Int32) then f_X12_slope_j49 σ l0 l1 l2 s0 s1 s2 else (f_X12_shelf σ l1).bind (fun p9 => (if xk σ l0 12 = true then (f_X12_areTold σ l0 p9).bind (fun p10 => (if p10 = (0 : Int32) then f_X12_slope_j50 σ l0 l1 l2 (1 : Int32) s0 s1 s2 else f_X12_slope_j49 σ l0 l1 l2 s0 s1 s2)) else none)))) else none)
set_option maxHeartbeats 4000000 in
set_option maxRecDepth 20000 in
theorem L_X12_slope_j26 {G : xG} {π : Nat → Nat} {d C Z : Nat} {Q : xQ} (σ : xM) (l0 : Nat) (l1 : Int32) (l2 : Int32) (s0 : Int32) (s1 : Int32) (s2 : Nat) {x : (Int32 × xM)} (hf : f_X12_slope_j26 σ l0 l1 l2 s0 s1 s2 = some x) (hR : ∀ g, x = g → Q (.inl (some (.int g.1))) (g.2) π) : xMach G π J_X12_slope (d + 12) C Z 26 [(0, .ref l0), (1, .int l1), (2, .int l2)] [.int s0, .int s1, .ref s2] σ Q := by
  unfold f_X12_slope_j26 at hf
  refine xm_aload_n dX12_slope_26 rfl ?_
  refine xm_iload_n dX12_slope_27 rfl ?_
  refine xb_if hf (fun hb hf => ?_) (fun _ q => nomatch q)
  obtain ⟨p3, ep3, hf⟩ := xbind hf
  refine xb_callV (As := [.int l1]) (v0 := (some (.int p3))) (τ0 := σ) dX12_slope_28 (xc_X12_isTree _ _) xcl12 xw_2233 xw_2235 xs_113 hb rfl (Nat.le_of_ble_eq_true rfl) rfl (Nat.le_of_ble_eq_true rfl) (fun Q1 hq => m_X12_isTree (d := d + 10) ep3 (fun g hg => by subst hg; exact hq)) ?_
  refine xb_if_eq 49 dX12_slope_31 (by decide) hf (fun c hf => ?_) (fun c hf => ?_)
  · exact xm_sub [0, 1, 2] rfl (L_X12_slope_j49 σ l0 l1 l2 s0 s1 s2 hf hR)
  · refine xm_aload_n dX12_slope_34 rfl ?_
    refine xm_iload_n dX12_slope_35 rfl ?_
    obtain ⟨p9, ep9, hf⟩ := xbind hf
    refine xb_callS (As := [.int l1]) (v0 := (some (.int p9))) (τ0 := σ) dX12_slope_36 (xc_X12_shelf _ _) xw_2214 xw_2215 rfl (Nat.le_of_ble_eq_true rfl) rfl (Nat.le_of_ble_eq_true rfl) (fun Q1 hq => m_X12_shelf (d := d + 11) ep9 (fun g hg => by subst hg; exact hq)) ?_
    refine xb_if hf (fun hb hf => ?_) (fun _ q => nomatch q)
    obtain ⟨p10, ep10, hf⟩ := xbind hf
    refine xb_callV (As := [.int p9]) (v0 := (some (.int p10))) (τ0 := σ) dX12_slope_39 (xc_X12_areTold _ _) xcl12 xw_2722 xw_2724 xs_209 hb rfl (Nat.le_of_ble_eq_true rfl) rfl (Nat.le_of_ble_eq_true rfl) (fun Q1 hq => m_X12_areTold (d := d + 8) ep10 (fun g hg => by subst hg; exact hq)) ?_
    refine xb_if_ne 49 dX12_slope_42 (by decide) hf (fun c hf => ?_) (fun c hf => ?_)
    · exact xm_sub [0, 1, 2] rfl (L_X12_slope_j49 σ l0 l1 l2 s0 s1 s2 hf hR)
    · refine xm_iconst dX12_slope_45 (v := 1) (by decide) ?_
      refine xm_goto 50 dX12_slope_46 (by decide) ?_
      exact xm_sub [0, 1, 2] rfl (L_X12_slope_j50 σ l0 l1 l2 (1 : Int32) s0 s1 s2 hf hR)
def f_X12_slope_j14 (σ : xM) (l0 : Nat) (l1 : Int32) (l2 : Int32) (s0 : Int32) (s1 : Nat) : Option (Int32 × xM) :=
  (f_X12_isName σ l2).bind (fun p2 => (if p2 = (0 : Int32) then f_X12_slope_j26 σ l0 l1 l2 (1 : Int32) s0 s1 else f_X12_slope_j26 σ l0 l1 l2 (0 : Int32) s0 s1))
set_option maxHeartbeats 4000000 in
set_option maxRecDepth 20000 in
theorem L_X12_slope_j14 {G : xG} {π : Nat → Nat} {d C Z : Nat} {Q : xQ} (σ : xM) (l0 : Nat) (l1 : Int32) (l2 : Int32) (s0 : Int32) (s1 : Nat) {x : (Int32 × xM)} (hf : f_X12_slope_j14 σ l0 l1 l2 s0 s1 = some x) (hR : ∀ g, x = g → Q (.inl (some (.int g.1))) (g.2) π) : xMach G π J_X12_slope (d + 12) C Z 14 [(0, .ref l0), (1, .int l1), (2, .int l2)] [.int s0, .ref s1] σ Q := by
  unfold f_X12_slope_j14 at hf
  refine xm_iload_n dX12_slope_14 rfl ?_
  obtain ⟨p2, ep2, hf⟩ := xbind hf
  refine xb_callS (As := [.int l2]) (v0 := (some (.int p2))) (τ0 := σ) dX12_slope_15 (xc_X12_isName _ _) xw_2257 xw_2258 rfl (Nat.le_of_ble_eq_true rfl) rfl (Nat.le_of_ble_eq_true rfl) (fun Q1 hq => m_X12_isName (d := d + 10) ep2 (fun g hg => by subst hg; exact hq)) ?_
  refine xb_if_ne 25 dX12_slope_18 (by decide) hf (fun c hf => ?_) (fun c hf => ?_)
  · refine xm_iconst dX12_slope_25 (v := 0) (by decide) ?_
    exact xm_sub [0, 1, 2] rfl (L_X12_slope_j26 σ l0 l1 l2 (0 : Int32) s0 s1 hf hR)
  · refine xm_iconst dX12_slope_21 (v := 1) (by decide) ?_
    refine xm_goto 26 dX12_slope_22 (by decide) ?_
    exact xm_sub [0, 1, 2] rfl (L_X12_slope_j26 σ l0 l1 l2 (1 : Int32) s0 s1 hf hR)
def f_X12_slope (σ : xM) (l0 : Nat) (l1 : Int32) (l2 : Int32) : Option (Int32 × xM) :=
  (if xk σ l0 12 = true then (f_X12_isTree σ l0 l1).bind (fun p1 => (if p1 = (0 : Int32) then f_X12_slope_j14 σ l0 l1 l2 (1 : Int32) l0 else f_X12_slope_j14 σ l0 l1 l2 (0 : Int32) l0)) else none)
set_option maxHeartbeats 4000000 in
set_option maxRecDepth 20000 in
theorem m_X12_slope {G : xG} {π : Nat → Nat} {d C Z : Nat} {Q : xQ} {σ : xM} {l0 : Nat} {l1 : Int32} {l2 : Int32} {x : (Int32 × xM)} (hf : f_X12_slope σ l0 l1 l2 = some x) (hR : ∀ g, x = g → Q (.inl (some (.int g.1))) (g.2) π) : xMach G π J_X12_slope (d + 12) C Z 0 (lv_args 0 [.ref l0, .int l1, .int l2]) [] σ Q := by
  unfold f_X12_slope at hf
  refine xm_stL (L' := [(0, .ref l0), (1, .int l1), (2, .int l2)]) rfl ?_
  refine xm_aload_n dX12_slope_0 rfl ?_
  refine xm_aload_n dX12_slope_1 rfl ?_
  refine xm_iload_n dX12_slope_2 rfl ?_
  refine xb_if hf (fun hb hf => ?_) (fun _ q => nomatch q)
  obtain ⟨p1, ep1, hf⟩ := xbind hf
  refine xb_callV (As := [.int l1]) (v0 := (some (.int p1))) (τ0 := σ) dX12_slope_3 (xc_X12_isTree _ _) xcl12 xw_2233 xw_2235 xs_113 hb rfl (Nat.le_of_ble_eq_true rfl) rfl (Nat.le_of_ble_eq_true rfl) (fun Q1 hq => m_X12_isTree (d := d + 10) ep1 (fun g hg => by subst hg; exact hq)) ?_
  refine xb_if_ne 13 dX12_slope_6 (by decide) hf (fun c hf => ?_) (fun c hf => ?_)
  · refine xm_iconst dX12_slope_13 (v := 0) (by decide) ?_
    exact xm_sub [0, 1, 2] rfl (L_X12_slope_j14 σ l0 l1 l2 (0 : Int32) l0 hf hR)
  · refine xm_iconst dX12_slope_9 (v := 1) (by decide) ?_
    refine xm_goto 14 dX12_slope_10 (by decide) ?_
    exact xm_sub [0, 1, 2] rfl (L_X12_slope_j14 σ l0 l1 l2 (1 : Int32) l0 hf hR)
-- RankwiseModel.copyWideAside()V
def f_X12_copyWideAside_j100 (σ : xM) (l0 : Nat) (l1 : Int32) (s0 : Int32) (s1 : Int32) (s2 : Nat) : Option (xM ⊕ ((xM) ⊕ (Nat × Int32 × xM))) :=
  (wI σ s2 s1 s0).bind (fun σ17 => xlet (l1 + (1 : Int32)) (fun v18 => some (Sum.inr (Sum.inr (l0, v18, σ17)))))
set_option maxHeartbeats 4000000 in
set_option maxRecDepth 20000 in
theorem L_X12_copyWideAside_j100 {G : xG} {π : Nat → Nat} {d C Z : Nat} {Q : xQ} (σ : xM) (l0 : Nat) (l1 : Int32) (s0 : Int32) (s1 : Int32) (s2 : Nat) {x : (xM ⊕ ((xM) ⊕ (Nat × Int32 × xM)))} (hf : f_X12_copyWideAside_j100 σ l0 l1 s0 s1 s2 = some x) (hR : ∀ g, x = Sum.inl (g) → Q (.inl none) (g) π) (hE : ∀ e : (xM), x = Sum.inr (Sum.inl e) → xMach G π J_X12_copyWideAside (d + 0) C Z 107 [] [] e Q) (hC : ∀ e : (Nat × Int32 × xM), x = Sum.inr (Sum.inr e) → xMach G π J_X12_copyWideAside (d + 0) C Z 30 [(0, .ref e.1), (1, .int e.2.1)] [] e.2.2 Q) : xMach G π J_X12_copyWideAside (d + 0) C Z 100 [(0, .ref l0), (1, .int l1)] [.int s0, .int s1, .ref s2] σ Q := by
  unfold f_X12_copyWideAside_j100 at hf
  refine xb_iast dX12_copyWideAside_100 hf (fun σ17 eσ17 hf => ?_)
  refine xb_iinc dX12_copyWideAside_101 rfl (by decide) (by decide) hf (fun v18 ev18 hf => xm_stL (L' := [(1, .int v18), (0, .ref l0)]) rfl ?_)
  refine xm_goto 30 dX12_copyWideAside_104 (by decide) ?_
  cases hf
  exact xm_sub [1, 0] rfl (hC _ rfl)
def f_X12_copyWideAside_j66 (σ : xM) (l0 : Nat) (l1 : Int32) (s0 : Int32) (s1 : Int32) (s2 : Nat) : Option (xM ⊕ ((xM) ⊕ (Nat × Int32 × xM))) :=
  (wI σ s2 s1 s0).bind (fun σ13 => (gR σ13 l0 12 85).bind (fun x14 => (gR σ13 l0 12 2).bind (fun x15 => (aI σ13 x15 14 (9 : Int32)).bind (fun x16 => (if x16 ≤ l1 then f_X12_copyWideAside_j100 σ13 l0 l1 (0 : Int32) ((60 : Int32) + l1) x14 else (gR σ13 l0 12 1).bind (fun x19 => (aI σ13 x19 14 ((3960 : Int32) + l1)).bind (fun x20 => f_X12_copyWideAside_j100 σ13 l0 l1 x20 ((60 : Int32) + l1) x14)))))))
set_option maxHeartbeats 4000000 in
set_option maxRecDepth 20000 in
theorem L_X12_copyWideAside_j66 {G : xG} {π : Nat → Nat} {d C Z : Nat} {Q : xQ} (σ : xM) (l0 : Nat) (l1 : Int32) (s0 : Int32) (s1 : Int32) (s2 : Nat) {x : (xM ⊕ ((xM) ⊕ (Nat × Int32 × xM)))} (hf : f_X12_copyWideAside_j66 σ l0 l1 s0 s1 s2 = some x) (hR : ∀ g, x = Sum.inl (g) → Q (.inl none) (g) π) (hE : ∀ e : (xM), x = Sum.inr (Sum.inl e) → xMach G π J_X12_copyWideAside (d + 0) C Z 107 [] [] e Q) (hC : ∀ e : (Nat × Int32 × xM), x = Sum.inr (Sum.inr e) → xMach G π J_X12_copyWideAside (d + 0) C Z 30 [(0, .ref e.1), (1, .int e.2.1)] [] e.2.2 Q) : xMach G π J_X12_copyWideAside (d + 0) C Z 66 [(0, .ref l0), (1, .int l1)] [.int s0, .int s1, .ref s2] σ Q := by
  unfold f_X12_copyWideAside_j66 at hf
  refine xb_iast dX12_copyWideAside_66 hf (fun σ13 eσ13 hf => ?_)
  refine xm_aload_n dX12_copyWideAside_67 rfl ?_
  refine xb_getR (a := l0) (c := 12) (k := 85) dX12_copyWideAside_68 xcl12 (by decide) xw_1922 rfl hf (fun x14 ex14 hf => ?_)
  refine xm_bipush dX12_copyWideAside_71 (v := 60) (by decide) ?_
  refine xm_iload_n dX12_copyWideAside_73 rfl ?_
  refine xm_iadd dX12_copyWideAside_74 ?_
  refine xm_iload_n dX12_copyWideAside_75 rfl ?_
  refine xm_aload_n dX12_copyWideAside_76 rfl ?_
  refine xb_getR (a := l0) (c := 12) (k := 2) dX12_copyWideAside_77 xcl12 (by decide) xw_1839 rfl hf (fun x15 ex15 hf => ?_)
  refine xm_bipush dX12_copyWideAside_80 (v := 9) (by decide) ?_
  refine xb_iald dX12_copyWideAside_82 hf (fun x16 ex16 hf => ?_)
  refine xb_icmp_ge 99 dX12_copyWideAside_83 (by decide) hf (fun c hf => ?_) (fun c hf => ?_)
  · refine xm_iconst dX12_copyWideAside_99 (v := 0) (by decide) ?_
    exact xm_sub [0, 1] rfl (L_X12_copyWideAside_j100 σ13 l0 l1 (0 : Int32) ((60 : Int32) + l1) x14 hf hR hE hC)
  · refine xm_aload_n dX12_copyWideAside_86 rfl ?_
    refine xb_getR (a := l0) (c := 12) (k := 1) dX12_copyWideAside_87 xcl12 (by decide) xw_1838 rfl hf (fun x19 ex19 hf => ?_)
    refine xm_sipush dX12_copyWideAside_90 (v := 3960) (by decide) ?_
    refine xm_iload_n dX12_copyWideAside_93 rfl ?_
    refine xm_iadd dX12_copyWideAside_94 ?_
    refine xb_iald dX12_copyWideAside_95 hf (fun x20 ex20 hf => ?_)
    refine xm_goto 100 dX12_copyWideAside_96 (by decide) ?_
    exact xm_sub [0, 1] rfl (L_X12_copyWideAside_j100 σ13 l0 l1 x20 ((60 : Int32) + l1) x14 hf hR hE hC)
def f_X12_copyWideAside_s30 (s : (Nat × Int32 × xM)) : Option (xM ⊕ ((xM) ⊕ (Nat × Int32 × xM))) :=
  xlet s.1 (fun l0 => xlet s.2.1 (fun l1 => xlet s.2.2 (fun σ => (if (60 : Int32) ≤ l1 then some (Sum.inr (Sum.inl σ)) else (gR σ l0 12 85).bind (fun x10 => (gR σ l0 12 2).bind (fun x11 => (aI σ x11 14 (8 : Int32)).bind (fun x12 => (if x12 ≤ l1 then f_X12_copyWideAside_j66 σ l0 l1 (0 : Int32) l1 x10 else (gR σ l0 12 1).bind (fun x21 => (aI σ x21 14 ((3520 : Int32) + l1)).bind (fun x22 => f_X12_copyWideAside_j66 σ l0 l1 x22 l1 x10))))))))))
set_option maxHeartbeats 4000000 in
set_option maxRecDepth 20000 in
theorem L_X12_copyWideAside_s30 {G : xG} {π : Nat → Nat} {d C Z : Nat} {Q : xQ} (σ : xM) (l0 : Nat) (l1 : Int32) {x : (xM ⊕ ((xM) ⊕ (Nat × Int32 × xM)))} (hf : f_X12_copyWideAside_s30 (l0, l1, σ) = some x) (hR : ∀ g, x = Sum.inl (g) → Q (.inl none) (g) π) (hE : ∀ e : (xM), x = Sum.inr (Sum.inl e) → xMach G π J_X12_copyWideAside (d + 0) C Z 107 [] [] e Q) (hC : ∀ e : (Nat × Int32 × xM), x = Sum.inr (Sum.inr e) → xMach G π J_X12_copyWideAside (d + 0) C Z 30 [(0, .ref e.1), (1, .int e.2.1)] [] e.2.2 Q) : xMach G π J_X12_copyWideAside (d + 0) C Z 30 [(0, .ref l0), (1, .int l1)] [] σ Q := by
  have hf : (if (60 : Int32) ≤ l1 then some (Sum.inr (Sum.inl σ)) else (gR σ l0 12 85).bind (fun x10 => (gR σ l0 12 2).bind (fun x11 => (aI σ x11 14 (8 : Int32)).bind (fun x12 => (if x12 ≤ l1 then f_X12_copyWideAside_j66 σ l0 l1 (0 : Int32) l1 x10 else (gR σ l0 12 1).bind (fun x21 => (aI σ x21 14 ((3520 : Int32) + l1)).bind (fun x22 => f_X12_copyWideAside_j66 σ l0 l1 x22 l1 x10))))))) = some x := hf
  refine xm_iload_n dX12_copyWideAside_30 rfl ?_
  refine xm_bipush dX12_copyWideAside_31 (v := 60) (by decide) ?_
  refine xb_icmp_ge 107 dX12_copyWideAside_33 (by decide) hf (fun c hf => ?_) (fun c hf => ?_)
  · cases hf
    exact xm_sub [] rfl (hE _ rfl)
  · refine xm_aload_n dX12_copyWideAside_36 rfl ?_
    refine xb_getR (a := l0) (c := 12) (k := 85) dX12_copyWideAside_37 xcl12 (by decide) xw_1922 rfl hf (fun x10 ex10 hf => ?_)
    refine xm_iload_n dX12_copyWideAside_40 rfl ?_
    refine xm_iload_n dX12_copyWideAside_41 rfl ?_
    refine xm_aload_n dX12_copyWideAside_42 rfl ?_
    refine xb_getR (a := l0) (c := 12) (k := 2) dX12_copyWideAside_43 xcl12 (by decide) xw_1839 rfl hf (fun x11 ex11 hf => ?_)
    refine xm_bipush dX12_copyWideAside_46 (v := 8) (by decide) ?_
    refine xb_iald dX12_copyWideAside_48 hf (fun x12 ex12 hf => ?_)
    refine xb_icmp_ge 65 dX12_copyWideAside_49 (by decide) hf (fun c hf => ?_) (fun c hf => ?_)
    · refine xm_iconst dX12_copyWideAside_65 (v := 0) (by decide) ?_
      exact xm_sub [0, 1] rfl (L_X12_copyWideAside_j66 σ l0 l1 (0 : Int32) l1 x10 hf hR hE hC)
    · refine xm_aload_n dX12_copyWideAside_52 rfl ?_
      refine xb_getR (a := l0) (c := 12) (k := 1) dX12_copyWideAside_53 xcl12 (by decide) xw_1838 rfl hf (fun x21 ex21 hf => ?_)
      refine xm_sipush dX12_copyWideAside_56 (v := 3520) (by decide) ?_
      refine xm_iload_n dX12_copyWideAside_59 rfl ?_
      refine xm_iadd dX12_copyWideAside_60 ?_
      refine xb_iald dX12_copyWideAside_61 hf (fun x22 ex22 hf => ?_)
      refine xm_goto 66 dX12_copyWideAside_62 (by decide) ?_
      exact xm_sub [0, 1] rfl (L_X12_copyWideAside_j66 σ l0 l1 x22 l1 x10 hf hR hE hC)
theorem L_X12_copyWideAside_l30 {G : xG} {π : Nat → Nat} {d C Z : Nat} {Q : xQ} {s0 : (Nat × Int32 × xM)} {x : (xM ⊕ (xM))} (h1 : xloop (f_X12_copyWideAside_s30) xF s0 = some x) (hR : ∀ g, x = Sum.inl g → Q (.inl none) (g) π) (hE : ∀ e : (xM), x = Sum.inr e → xMach G π J_X12_copyWideAside (d + 0) C Z 107 [] [] e Q) : xMach G π J_X12_copyWideAside (d + 0) C Z 30 [(0, .ref s0.1), (1, .int s0.2.1)] [] s0.2.2 Q := by
  refine xloop_run (M := (fun s : (Nat × Int32 × xM) => xMach G π J_X12_copyWideAside (d + 0) C Z 30 [(0, .ref s.1), (1, .int s.2.1)] [] s.2.2 Q)) (r := x) ?_ xF _ h1
  intro s y hs hx
  exact L_X12_copyWideAside_s30 s.2.2 s.1 s.2.1 (x := y) hs (fun g hg => by subst hg; exact hR g hx) (fun e he => by subst he; exact hE e hx) (fun e he => by subst he; exact hx)
def f_X12_copyWideAside_j107 (σ : xM)  : Option xM :=
  some σ
set_option maxHeartbeats 4000000 in
set_option maxRecDepth 20000 in
theorem L_X12_copyWideAside_j107 {G : xG} {π : Nat → Nat} {d C Z : Nat} {Q : xQ} (σ : xM)  {x : xM} (hf : f_X12_copyWideAside_j107 σ = some x) (hR : ∀ g, x = g → Q (.inl none) (g) π) : xMach G π J_X12_copyWideAside (d + 0) C Z 107 [] [] σ Q := by
  unfold f_X12_copyWideAside_j107 at hf
  cases hf
  exact xm_vret dX12_copyWideAside_107 rfl (hR _ rfl)
def f_X12_copyWideAside (σ : xM) (l0 : Nat) : Option xM :=
  (gR σ l0 12 85).bind (fun x1 => (gR σ l0 12 2).bind (fun x2 => (aI σ x2 14 (8 : Int32)).bind (fun x3 => (wI σ x1 (120 : Int32) x3).bind (fun σ4 => (gR σ4 l0 12 85).bind (fun x5 => (gR σ4 l0 12 2).bind (fun x6 => (aI σ4 x6 14 (9 : Int32)).bind (fun x7 => (wI σ4 x5 (121 : Int32) x7).bind (fun σ8 => xlet (0 : Int32) (fun v9 => (xloop (f_X12_copyWideAside_s30 ) xF (l0, v9, σ8)).bind (Sum.elim (fun g => some g) (fun e => f_X12_copyWideAside_j107 e)))))))))))
set_option maxHeartbeats 4000000 in
set_option maxRecDepth 20000 in
theorem m_X12_copyWideAside {G : xG} {π : Nat → Nat} {d C Z : Nat} {Q : xQ} {σ : xM} {l0 : Nat} {x : xM} (hf : f_X12_copyWideAside σ l0 = some x) (hR : ∀ g, x = g → Q (.inl none) (g) π) : xMach G π J_X12_copyWideAside (d + 0) C Z 0 (lv_args 0 [.ref l0]) [] σ Q := by
  unfold f_X12_copyWideAside at hf
  refine xm_stL (L' := [(0, .ref l0)]) rfl ?_
  refine xm_aload_n dX12_copyWideAside_0 rfl ?_
  refine xb_getR (a := l0) (c := 12) (k := 85) dX12_copyWideAside_1 xcl12 (by decide) xw_1922 rfl hf (fun x1 ex1 hf => ?_)
  refine xm_bipush dX12_copyWideAside_4 (v := 120) (by decide) ?_
  refine xm_aload_n dX12_copyWideAside_6 rfl ?_
  refine xb_getR (a := l0) (c := 12) (k := 2) dX12_copyWideAside_7 xcl12 (by decide) xw_1839 rfl hf (fun x2 ex2 hf => ?_)
  refine xm_bipush dX12_copyWideAside_10 (v := 8) (by decide) ?_
  refine xb_iald dX12_copyWideAside_12 hf (fun x3 ex3 hf => ?_)
  refine xb_iast dX12_copyWideAside_13 hf (fun σ4 eσ4 hf => ?_)
  refine xm_aload_n dX12_copyWideAside_14 rfl ?_
  refine xb_getR (a := l0) (c := 12) (k := 85) dX12_copyWideAside_15 xcl12 (by decide) xw_1922 rfl hf (fun x5 ex5 hf => ?_)
  refine xm_bipush dX12_copyWideAside_18 (v := 121) (by decide) ?_
  refine xm_aload_n dX12_copyWideAside_20 rfl ?_
  refine xb_getR (a := l0) (c := 12) (k := 2) dX12_copyWideAside_21 xcl12 (by decide) xw_1839 rfl hf (fun x6 ex6 hf => ?_)
  refine xm_bipush dX12_copyWideAside_24 (v := 9) (by decide) ?_
  refine xb_iald dX12_copyWideAside_26 hf (fun x7 ex7 hf => ?_)
  refine xb_iast dX12_copyWideAside_27 hf (fun σ8 eσ8 hf => ?_)
  refine xm_iconst dX12_copyWideAside_28 (v := 0) (by decide) ?_
  refine xb_topi hf (fun v9 ev9 hf => ?_)
  refine xm_istore_n dX12_copyWideAside_29 (by decide) (xm_stL (L' := [(1, .int v9), (0, .ref l0)]) rfl ?_)
  obtain ⟨o, h1, hf⟩ := xbind hf
  refine xm_sub [1, 0] rfl (L_X12_copyWideAside_l30  h1 (fun g hg => ?_) (fun e he => ?_))
  · subst hg
    cases hf
    exact hR _ rfl
  · subst he
    rw [Sum.elim_inr] at hf
    have hf : f_X12_copyWideAside_j107 e = some _ := hf
    exact xm_sub [] rfl (L_X12_copyWideAside_j107 e hf hR)
-- RankwiseModel.loadAside()V
def f_X12_loadAside_s28 (s : (Nat × Int32 × xM)) : Option (xM ⊕ ((xM) ⊕ (Nat × Int32 × xM))) :=
  xlet s.1 (fun l0 => xlet s.2.1 (fun l1 => xlet s.2.2 (fun σ => (if (60 : Int32) ≤ l1 then some (Sum.inr (Sum.inl σ)) else (gR σ l0 12 1).bind (fun x10 => (gR σ l0 12 85).bind (fun x11 => (aI σ x11 14 l1).bind (fun x12 => (wI σ x10 ((880 : Int32) + l1) x12).bind (fun σ13 => (gR σ13 l0 12 1).bind (fun x14 => (gR σ13 l0 12 85).bind (fun x15 => (aI σ13 x15 14 ((60 : Int32) + l1)).bind (fun x16 => (wI σ13 x14 ((1320 : Int32) + l1) x16).bind (fun σ17 => xlet (l1 + (1 : Int32)) (fun v18 => some (Sum.inr (Sum.inr (l0, v18, σ17))))))))))))))))
set_option maxHeartbeats 4000000 in
set_option maxRecDepth 20000 in
theorem L_X12_loadAside_s28 {G : xG} {π : Nat → Nat} {d C Z : Nat} {Q : xQ} (σ : xM) (l0 : Nat) (l1 : Int32) {x : (xM ⊕ ((xM) ⊕ (Nat × Int32 × xM)))} (hf : f_X12_loadAside_s28 (l0, l1, σ) = some x) (hR : ∀ g, x = Sum.inl (g) → Q (.inl none) (g) π) (hE : ∀ e : (xM), x = Sum.inr (Sum.inl e) → xMach G π J_X12_loadAside (d + 0) C Z 75 [] [] e Q) (hC : ∀ e : (Nat × Int32 × xM), x = Sum.inr (Sum.inr e) → xMach G π J_X12_loadAside (d + 0) C Z 28 [(0, .ref e.1), (1, .int e.2.1)] [] e.2.2 Q) : xMach G π J_X12_loadAside (d + 0) C Z 28 [(0, .ref l0), (1, .int l1)] [] σ Q := by
  have hf : (if (60 : Int32) ≤ l1 then some (Sum.inr (Sum.inl σ)) else (gR σ l0 12 1).bind (fun x10 => (gR σ l0 12 85).bind (fun x11 => (aI σ x11 14 l1).bind (fun x12 => (wI σ x10 ((880 : Int32) + l1) x12).bind (fun σ13 => (gR σ13 l0 12 1).bind (fun x14 => (gR σ13 l0 12 85).bind (fun x15 => (aI σ13 x15 14 ((60 : Int32) + l1)).bind (fun x16 => (wI σ13 x14 ((1320 : Int32) + l1) x16).bind (fun σ17 => xlet (l1 + (1 : Int32)) (fun v18 => some (Sum.inr (Sum.inr (l0, v18, σ17))))))))))))) = some x := hf
  refine xm_iload_n dX12_loadAside_28 rfl ?_
  refine xm_bipush dX12_loadAside_29 (v := 60) (by decide) ?_
  refine xb_icmp_ge 75 dX12_loadAside_31 (by decide) hf (fun c hf => ?_) (fun c hf => ?_)
  · cases hf
    exact xm_sub [] rfl (hE _ rfl)
  · refine xm_aload_n dX12_loadAside_34 rfl ?_
    refine xb_getR (a := l0) (c := 12) (k := 1) dX12_loadAside_35 xcl12 (by decide) xw_1838 rfl hf (fun x10 ex10 hf => ?_)
    refine xm_sipush dX12_loadAside_38 (v := 880) (by decide) ?_
    refine xm_iload_n dX12_loadAside_41 rfl ?_
    refine xm_iadd dX12_loadAside_42 ?_
    refine xm_aload_n dX12_loadAside_43 rfl ?_
    refine xb_getR (a := l0) (c := 12) (k := 85) dX12_loadAside_44 xcl12 (by decide) xw_1922 rfl hf (fun x11 ex11 hf => ?_)
    refine xm_iload_n dX12_loadAside_47 rfl ?_
    refine xb_iald dX12_loadAside_48 hf (fun x12 ex12 hf => ?_)
    refine xb_iast dX12_loadAside_49 hf (fun σ13 eσ13 hf => ?_)
    refine xm_aload_n dX12_loadAside_50 rfl ?_
    refine xb_getR (a := l0) (c := 12) (k := 1) dX12_loadAside_51 xcl12 (by decide) xw_1838 rfl hf (fun x14 ex14 hf => ?_)
    refine xm_sipush dX12_loadAside_54 (v := 1320) (by decide) ?_
    refine xm_iload_n dX12_loadAside_57 rfl ?_
    refine xm_iadd dX12_loadAside_58 ?_
    refine xm_aload_n dX12_loadAside_59 rfl ?_
    refine xb_getR (a := l0) (c := 12) (k := 85) dX12_loadAside_60 xcl12 (by decide) xw_1922 rfl hf (fun x15 ex15 hf => ?_)
    refine xm_bipush dX12_loadAside_63 (v := 60) (by decide) ?_
    refine xm_iload_n dX12_loadAside_65 rfl ?_
    refine xm_iadd dX12_loadAside_66 ?_
    refine xb_iald dX12_loadAside_67 hf (fun x16 ex16 hf => ?_)
    refine xb_iast dX12_loadAside_68 hf (fun σ17 eσ17 hf => ?_)
    refine xb_iinc dX12_loadAside_69 rfl (by decide) (by decide) hf (fun v18 ev18 hf => xm_stL (L' := [(1, .int v18), (0, .ref l0)]) rfl ?_)
    refine xm_goto 28 dX12_loadAside_72 (by decide) ?_
    cases hf
    exact xm_sub [1, 0] rfl (hC _ rfl)
theorem L_X12_loadAside_l28 {G : xG} {π : Nat → Nat} {d C Z : Nat} {Q : xQ} {s0 : (Nat × Int32 × xM)} {x : (xM ⊕ (xM))} (h1 : xloop (f_X12_loadAside_s28) xF s0 = some x) (hR : ∀ g, x = Sum.inl g → Q (.inl none) (g) π) (hE : ∀ e : (xM), x = Sum.inr e → xMach G π J_X12_loadAside (d + 0) C Z 75 [] [] e Q) : xMach G π J_X12_loadAside (d + 0) C Z 28 [(0, .ref s0.1), (1, .int s0.2.1)] [] s0.2.2 Q := by
  refine xloop_run (M := (fun s : (Nat × Int32 × xM) => xMach G π J_X12_loadAside (d + 0) C Z 28 [(0, .ref s.1), (1, .int s.2.1)] [] s.2.2 Q)) (r := x) ?_ xF _ h1
  intro s y hs hx
  exact L_X12_loadAside_s28 s.2.2 s.1 s.2.1 (x := y) hs (fun g hg => by subst hg; exact hR g hx) (fun e he => by subst he; exact hE e hx) (fun e he => by subst he; exact hx)
def f_X12_loadAside_j75 (σ : xM)  : Option xM :=
  some σ
set_option maxHeartbeats 4000000 in
set_option maxRecDepth 20000 in
theorem L_X12_loadAside_j75 {G : xG} {π : Nat → Nat} {d C Z : Nat} {Q : xQ} (σ : xM)  {x : xM} (hf : f_X12_loadAside_j75 σ = some x) (hR : ∀ g, x = g → Q (.inl none) (g) π) : xMach G π J_X12_loadAside (d + 0) C Z 75 [] [] σ Q := by
  unfold f_X12_loadAside_j75 at hf
  cases hf
  exact xm_vret dX12_loadAside_75 rfl (hR _ rfl)
def f_X12_loadAside (σ : xM) (l0 : Nat) : Option xM :=
  (gR σ l0 12 2).bind (fun x1 => (gR σ l0 12 85).bind (fun x2 => (aI σ x2 14 (120 : Int32)).bind (fun x3 => (wI σ x1 (2 : Int32) x3).bind (fun σ4 => (gR σ4 l0 12 2).bind (fun x5 => (gR σ4 l0 12 85).bind (fun x6 => (aI σ4 x6 14 (121 : Int32)).bind (fun x7 => (wI σ4 x5 (3 : Int32) x7).bind (fun σ8 => xlet (0 : Int32) (fun v9 => (xloop (f_X12_loadAside_s28 ) xF (l0, v9, σ8)).bind (Sum.elim (fun g => some g) (fun e => f_X12_loadAside_j75 e)))))))))))
set_option maxHeartbeats 4000000 in
set_option maxRecDepth 20000 in
theorem m_X12_loadAside {G : xG} {π : Nat → Nat} {d C Z : Nat} {Q : xQ} {σ : xM} {l0 : Nat} {x : xM} (hf : f_X12_loadAside σ l0 = some x) (hR : ∀ g, x = g → Q (.inl none) (g) π) : xMach G π J_X12_loadAside (d + 0) C Z 0 (lv_args 0 [.ref l0]) [] σ Q := by
  unfold f_X12_loadAside at hf
  refine xm_stL (L' := [(0, .ref l0)]) rfl ?_
  refine xm_aload_n dX12_loadAside_0 rfl ?_
  refine xb_getR (a := l0) (c := 12) (k := 2) dX12_loadAside_1 xcl12 (by decide) xw_1839 rfl hf (fun x1 ex1 hf => ?_)
  refine xm_iconst dX12_loadAside_4 (v := 2) (by decide) ?_
  refine xm_aload_n dX12_loadAside_5 rfl ?_
  refine xb_getR (a := l0) (c := 12) (k := 85) dX12_loadAside_6 xcl12 (by decide) xw_1922 rfl hf (fun x2 ex2 hf => ?_)
  refine xm_bipush dX12_loadAside_9 (v := 120) (by decide) ?_
  refine xb_iald dX12_loadAside_11 hf (fun x3 ex3 hf => ?_)
  refine xb_iast dX12_loadAside_12 hf (fun σ4 eσ4 hf => ?_)
  refine xm_aload_n dX12_loadAside_13 rfl ?_
  refine xb_getR (a := l0) (c := 12) (k := 2) dX12_loadAside_14 xcl12 (by decide) xw_1839 rfl hf (fun x5 ex5 hf => ?_)
  refine xm_iconst dX12_loadAside_17 (v := 3) (by decide) ?_
  refine xm_aload_n dX12_loadAside_18 rfl ?_
  refine xb_getR (a := l0) (c := 12) (k := 85) dX12_loadAside_19 xcl12 (by decide) xw_1922 rfl hf (fun x6 ex6 hf => ?_)
  refine xm_bipush dX12_loadAside_22 (v := 121) (by decide) ?_
  refine xb_iald dX12_loadAside_24 hf (fun x7 ex7 hf => ?_)
  refine xb_iast dX12_loadAside_25 hf (fun σ8 eσ8 hf => ?_)
  refine xm_iconst dX12_loadAside_26 (v := 0) (by decide) ?_
  refine xb_topi hf (fun v9 ev9 hf => ?_)
  refine xm_istore_n dX12_loadAside_27 (by decide) (xm_stL (L' := [(1, .int v9), (0, .ref l0)]) rfl ?_)
  obtain ⟨o, h1, hf⟩ := xbind hf
  refine xm_sub [1, 0] rfl (L_X12_loadAside_l28  h1 (fun g hg => ?_) (fun e he => ?_))
  · subst hg
    cases hf
    exact hR _ rfl
  · subst he
    rw [Sum.elim_inr] at hf
    have hf : f_X12_loadAside_j75 e = some _ := hf
    exact xm_sub [] rfl (L_X12_loadAside_j75 e hf hR)
-- RankwiseModel.solve(IC)I
def f_X12_solve_j98 (σ : xM)  : Option (Int32 × xM) :=
  some ((-1 : Int32), σ)
set_option maxHeartbeats 4000000 in
set_option maxRecDepth 20000 in
theorem L_X12_solve_j98 {G : xG} {π : Nat → Nat} {d C Z : Nat} {Q : xQ} (σ : xM)  {x : (Int32 × xM)} (hf : f_X12_solve_j98 σ = some x) (hR : ∀ g, x = g → Q (.inl (some (.int g.1))) (g.2) π) : xMach G π J_X12_solve (d + 10) C Z 98 [] [] σ Q := by
  unfold f_X12_solve_j98 at hf
  refine xm_iconst dX12_solve_98 (v := -1) (by decide) ?_
  cases hf
  exact xm_iret dX12_solve_99 rfl (hR _ rfl)
def f_X12_solve_j275 (σ : xM) (s0 : Int32) : Option (Int32 × xM) :=
  some (s0, σ)
set_option maxHeartbeats 4000000 in
set_option maxRecDepth 20000 in
theorem L_X12_solve_j275 {G : xG} {π : Nat → Nat} {d C Z : Nat} {Q : xQ} (σ : xM) (s0 : Int32) {x : (Int32 × xM)} (hf : f_X12_solve_j275 σ s0 = some x) (hR : ∀ g, x = g → Q (.inl (some (.int g.1))) (g.2) π) : xMach G π J_X12_solve (d + 10) C Z 275 [] [.int s0] σ Q := by
  unfold f_X12_solve_j275 at hf
  cases hf
  exact xm_iret dX12_solve_275 rfl (hR _ rfl)
def f_X12_solve_j167 (σ : xM) (s0 : Int32) : Option (Int32 × xM) :=
  some (s0, σ)
set_option maxHeartbeats 4000000 in
set_option maxRecDepth 20000 in
theorem L_X12_solve_j167 {G : xG} {π : Nat → Nat} {d C Z : Nat} {Q : xQ} (σ : xM) (s0 : Int32) {x : (Int32 × xM)} (hf : f_X12_solve_j167 σ s0 = some x) (hR : ∀ g, x = g → Q (.inl (some (.int g.1))) (g.2) π) : xMach G π J_X12_solve (d + 10) C Z 167 [] [.int s0] σ Q := by
  unfold f_X12_solve_j167 at hf
  cases hf
  exact xm_iret dX12_solve_167 rfl (hR _ rfl)
def f_X12_solve_j144 (σ : xM) (l0 : Nat) (l4 : Int32) (l5 : Int32) (l6 : Int32) (l7 : Int32) (s0 : Int32) : Option (Int32 × xM) :=
  (if s0 = (0 : Int32) then (if xk σ l0 12 = true then (f_X12_compareValues σ l0 l5 l7).bind (fun p31 => (if p31.1 = (0 : Int32) then f_X12_solve_j167 p31.2 (2 : Int32) else f_X12_solve_j167 p31.2 (0 : Int32))) else none) else (if xk σ l0 12 = true then (f_X12_setInt σ l0 (3600 : Int32) (1 : Int32)).bind (fun p17 => (if xk p17 l0 12 = true then (f_X12_clearWide p17 l0).bind (fun p18 => (if xk p18 l0 12 = true then (f_X12_addProduct p18 l0 l7 (3600 : Int32) (1 : Int32)).bind (fun p19 => (if xk p19 l0 12 = true then (f_X12_addProduct p19 l0 l5 (3600 : Int32) (-1 : Int32)).bind (fun p20 => (gI p20 l0 12 69).bind (fun x21 => (if xk p20 l0 12 = true then (f_X12_copyWideAside p20 l0).bind (fun p22 => (if xk p22 l0 12 = true then (f_X12_clearWide p22 l0).bind (fun p23 => (if xk p23 l0 12 = true then (f_X12_addProduct p23 l0 l4 (3600 : Int32) (1 : Int32)).bind (fun p24 => (if xk p24 l0 12 = true then (f_X12_addProduct p24 l0 l6 (3600 : Int32) (-1 : Int32)).bind (fun p25 => (if xk p25 l0 12 = true then (f_X12_loadAside p25 l0).bind (fun p26 => (if xk p26 l0 12 = true then (f_X12_times p26 l0 (0 : Int32) (2 : Int32) (9 : Int32)).bind (fun p27 => (if xk p27 l0 12 = true then (f_X12_times p27 l0 (1 : Int32) (3 : Int32) (8 : Int32)).bind (fun p28 => (gI p28 l0 12 69).bind (fun x29 => (if xk p28 l0 12 = true then (f_X12_store p28 l0 (26 : Int32) (x21 * x29)).bind (fun p30 => (if p30.1 = (0 : Int32) then f_X12_solve_j275 p30.2 (-1 : Int32) else f_X12_solve_j275 p30.2 (1 : Int32))) else none))) else none)) else none)) else none)) else none)) else none)) else none)) else none))) else none)) else none)) else none)) else none))
set_option maxHeartbeats 4000000 in
set_option maxRecDepth 20000 in
theorem L_X12_solve_j144 {G : xG} {π : Nat → Nat} {d C Z : Nat} {Q : xQ} (σ : xM) (l0 : Nat) (l4 : Int32) (l5 : Int32) (l6 : Int32) (l7 : Int32) (s0 : Int32) {x : (Int32 × xM)} (hf : f_X12_solve_j144 σ l0 l4 l5 l6 l7 s0 = some x) (hR : ∀ g, x = g → Q (.inl (some (.int g.1))) (g.2) π) : xMach G π J_X12_solve (d + 10) C Z 144 [(0, .ref l0), (4, .int l4), (5, .int l5), (6, .int l6), (7, .int l7)] [.int s0] σ Q := by
  unfold f_X12_solve_j144 at hf
  refine xm_istore dX12_solve_144 (by decide) (xm_stL (L' := [(8, .int s0), (0, .ref l0), (4, .int l4), (5, .int l5), (6, .int l6), (7, .int l7)]) rfl ?_)
  refine xm_iload dX12_solve_146 rfl ?_
  refine xb_if_ne 168 dX12_solve_148 (by decide) hf (fun c hf => ?_) (fun c hf => ?_)
  · refine xm_aload_n dX12_solve_168 rfl ?_
    refine xm_sipush dX12_solve_169 (v := 3600) (by decide) ?_
    refine xm_iconst dX12_solve_172 (v := 1) (by decide) ?_
    refine xb_if hf (fun hb hf => ?_) (fun _ q => nomatch q)
    obtain ⟨p17, ep17, hf⟩ := xbind hf
    refine xb_callV (As := [.int (3600 : Int32), .int (1 : Int32)]) (v0 := none) (τ0 := p17) dX12_solve_173 (xc_X12_setInt _ _) xcl12 xw_1820 xw_1822 xs_84 hb rfl (Nat.le_of_ble_eq_true rfl) rfl (Nat.le_of_ble_eq_true rfl) (fun Q1 hq => m_X12_setInt (d := d + 7) ep17 (fun g hg => by subst hg; exact hq)) ?_
    refine xm_aload_n dX12_solve_176 rfl ?_
    refine xb_if hf (fun hb hf => ?_) (fun _ q => nomatch q)
    obtain ⟨p18, ep18, hf⟩ := xbind hf
    refine xb_callV (As := []) (v0 := none) (τ0 := p18) dX12_solve_177 (xc_X12_clearWide _ _) xcl12 xw_2670 xw_2672 xs_198 hb rfl (Nat.le_of_ble_eq_true rfl) rfl (Nat.le_of_ble_eq_true rfl) (fun Q1 hq => m_X12_clearWide (d := d + 7) ep18 (fun g hg => by subst hg; exact hq)) ?_
    refine xm_aload_n dX12_solve_180 rfl ?_
    refine xm_iload dX12_solve_181 rfl ?_
    refine xm_sipush dX12_solve_183 (v := 3600) (by decide) ?_
    refine xm_iconst dX12_solve_186 (v := 1) (by decide) ?_
    refine xb_if hf (fun hb hf => ?_) (fun _ q => nomatch q)
    obtain ⟨p19, ep19, hf⟩ := xbind hf
    refine xb_callV (As := [.int l7, .int (3600 : Int32), .int (1 : Int32)]) (v0 := none) (τ0 := p19) dX12_solve_187 (xc_X12_addProduct _ _) xcl12 xw_2674 xw_2676 xs_199 hb rfl (Nat.le_of_ble_eq_true rfl) rfl (Nat.le_of_ble_eq_true rfl) (fun Q1 hq => m_X12_addProduct (d := d + 5) ep19 (fun g hg => by subst hg; exact hq)) ?_
    refine xm_aload_n dX12_solve_190 rfl ?_
    refine xm_iload dX12_solve_191 rfl ?_
    refine xm_sipush dX12_solve_193 (v := 3600) (by decide) ?_
    refine xm_iconst dX12_solve_196 (v := -1) (by decide) ?_
    refine xb_if hf (fun hb hf => ?_) (fun _ q => nomatch q)
    obtain ⟨p20, ep20, hf⟩ := xbind hf
    refine xb_callV (As := [.int l5, .int (3600 : Int32), .int (-1 : Int32)]) (v0 := none) (τ0 := p20) dX12_solve_197 (xc_X12_addProduct _ _) xcl12 xw_2674 xw_2676 xs_199 hb rfl (Nat.le_of_ble_eq_true rfl) rfl (Nat.le_of_ble_eq_true rfl) (fun Q1 hq => m_X12_addProduct (d := d + 5) ep20 (fun g hg => by subst hg; exact hq)) ?_
    refine xm_aload_n dX12_solve_200 rfl ?_
    refine xb_getI (a := l0) (c := 12) (k := 69) dX12_solve_201 xcl12 (by decide) xw_1906 rfl hf (fun x21 ex21 hf => ?_)
    refine xm_istore dX12_solve_204 (by decide) (xm_stL (L' := [(9, .int x21), (8, .int s0), (0, .ref l0), (4, .int l4), (5, .int l5), (6, .int l6), (7, .int l7)]) rfl ?_)
    refine xm_aload_n dX12_solve_206 rfl ?_
    refine xb_if hf (fun hb hf => ?_) (fun _ q => nomatch q)
    obtain ⟨p22, ep22, hf⟩ := xbind hf
    refine xb_callV (As := []) (v0 := none) (τ0 := p22) dX12_solve_207 (xc_X12_copyWideAside _ _) xcl12 xw_2788 xw_2790 xs_222 hb rfl (Nat.le_of_ble_eq_true rfl) rfl (Nat.le_of_ble_eq_true rfl) (fun Q1 hq => m_X12_copyWideAside (d := d + 9) ep22 (fun g hg => by subst hg; exact hq)) ?_
    refine xm_aload_n dX12_solve_210 rfl ?_
    refine xb_if hf (fun hb hf => ?_) (fun _ q => nomatch q)
    obtain ⟨p23, ep23, hf⟩ := xbind hf
    refine xb_callV (As := []) (v0 := none) (τ0 := p23) dX12_solve_211 (xc_X12_clearWide _ _) xcl12 xw_2670 xw_2672 xs_198 hb rfl (Nat.le_of_ble_eq_true rfl) rfl (Nat.le_of_ble_eq_true rfl) (fun Q1 hq => m_X12_clearWide (d := d + 7) ep23 (fun g hg => by subst hg; exact hq)) ?_
    refine xm_aload_n dX12_solve_214 rfl ?_
    refine xm_iload dX12_solve_215 rfl ?_
    refine xm_sipush dX12_solve_217 (v := 3600) (by decide) ?_
    refine xm_iconst dX12_solve_220 (v := 1) (by decide) ?_
    refine xb_if hf (fun hb hf => ?_) (fun _ q => nomatch q)
    obtain ⟨p24, ep24, hf⟩ := xbind hf
    refine xb_callV (As := [.int l4, .int (3600 : Int32), .int (1 : Int32)]) (v0 := none) (τ0 := p24) dX12_solve_221 (xc_X12_addProduct _ _) xcl12 xw_2674 xw_2676 xs_199 hb rfl (Nat.le_of_ble_eq_true rfl) rfl (Nat.le_of_ble_eq_true rfl) (fun Q1 hq => m_X12_addProduct (d := d + 5) ep24 (fun g hg => by subst hg; exact hq)) ?_
    refine xm_aload_n dX12_solve_224 rfl ?_
    refine xm_iload dX12_solve_225 rfl ?_
    refine xm_sipush dX12_solve_227 (v := 3600) (by decide) ?_
    refine xm_iconst dX12_solve_230 (v := -1) (by decide) ?_
    refine xb_if hf (fun hb hf => ?_) (fun _ q => nomatch q)
    obtain ⟨p25, ep25, hf⟩ := xbind hf
    refine xb_callV (As := [.int l6, .int (3600 : Int32), .int (-1 : Int32)]) (v0 := none) (τ0 := p25) dX12_solve_231 (xc_X12_addProduct _ _) xcl12 xw_2674 xw_2676 xs_199 hb rfl (Nat.le_of_ble_eq_true rfl) rfl (Nat.le_of_ble_eq_true rfl) (fun Q1 hq => m_X12_addProduct (d := d + 5) ep25 (fun g hg => by subst hg; exact hq)) ?_
    refine xm_aload_n dX12_solve_234 rfl ?_
    refine xb_if hf (fun hb hf => ?_) (fun _ q => nomatch q)
    obtain ⟨p26, ep26, hf⟩ := xbind hf
    refine xb_callV (As := []) (v0 := none) (τ0 := p26) dX12_solve_235 (xc_X12_loadAside _ _) xcl12 xw_2792 xw_2794 xs_223 hb rfl (Nat.le_of_ble_eq_true rfl) rfl (Nat.le_of_ble_eq_true rfl) (fun Q1 hq => m_X12_loadAside (d := d + 9) ep26 (fun g hg => by subst hg; exact hq)) ?_
    refine xm_aload_n dX12_solve_238 rfl ?_
    refine xm_iconst dX12_solve_239 (v := 0) (by decide) ?_
    refine xm_iconst dX12_solve_240 (v := 2) (by decide) ?_
    refine xm_bipush dX12_solve_241 (v := 9) (by decide) ?_
    refine xb_if hf (fun hb hf => ?_) (fun _ q => nomatch q)
    obtain ⟨p27, ep27, hf⟩ := xbind hf
    refine xb_callV (As := [.int (0 : Int32), .int (2 : Int32), .int (9 : Int32)]) (v0 := none) (τ0 := p27) dX12_solve_243 (xc_X12_times _ _) xcl12 xw_2415 xw_2417 xs_148 hb rfl (Nat.le_of_ble_eq_true rfl) rfl (Nat.le_of_ble_eq_true rfl) (fun Q1 hq => m_X12_times (d := d + 8) ep27 (fun g hg => by subst hg; exact hq)) ?_
    refine xm_aload_n dX12_solve_246 rfl ?_
    refine xm_iconst dX12_solve_247 (v := 1) (by decide) ?_
    refine xm_iconst dX12_solve_248 (v := 3) (by decide) ?_
    refine xm_bipush dX12_solve_249 (v := 8) (by decide) ?_
    refine xb_if hf (fun hb hf => ?_) (fun _ q => nomatch q)
    obtain ⟨p28, ep28, hf⟩ := xbind hf
    refine xb_callV (As := [.int (1 : Int32), .int (3 : Int32), .int (8 : Int32)]) (v0 := none) (τ0 := p28) dX12_solve_251 (xc_X12_times _ _) xcl12 xw_2415 xw_2417 xs_148 hb rfl (Nat.le_of_ble_eq_true rfl) rfl (Nat.le_of_ble_eq_true rfl) (fun Q1 hq => m_X12_times (d := d + 8) ep28 (fun g hg => by subst hg; exact hq)) ?_
    refine xm_aload_n dX12_solve_254 rfl ?_
    refine xm_bipush dX12_solve_255 (v := 26) (by decide) ?_
    refine xm_iload dX12_solve_257 rfl ?_
    refine xm_aload_n dX12_solve_259 rfl ?_
    refine xb_getI (a := l0) (c := 12) (k := 69) dX12_solve_260 xcl12 (by decide) xw_1906 rfl hf (fun x29 ex29 hf => ?_)
    refine xm_imul dX12_solve_263 ?_
    refine xb_if hf (fun hb hf => ?_) (fun _ q => nomatch q)
    obtain ⟨p30, ep30, hf⟩ := xbind hf
    refine xb_callV (As := [.int (26 : Int32), .int (x21 * x29)]) (v0 := (some (.int p30.1))) (τ0 := p30.2) dX12_solve_264 (xc_X12_store _ _) xcl12 xw_2440 xw_2442 xs_154 hb rfl (Nat.le_of_ble_eq_true rfl) rfl (Nat.le_of_ble_eq_true rfl) (fun Q1 hq => m_X12_store (d := d + 5) ep30 (fun g hg => by subst hg; exact hq)) ?_
    refine xb_if_eq 274 dX12_solve_267 (by decide) hf (fun c hf => ?_) (fun c hf => ?_)
    · refine xm_iconst dX12_solve_274 (v := -1) (by decide) ?_
      exact xm_sub [] rfl (L_X12_solve_j275 p30.2 (-1 : Int32) hf hR)
    · refine xm_iconst dX12_solve_270 (v := 1) (by decide) ?_
      refine xm_goto 275 dX12_solve_271 (by decide) ?_
      exact xm_sub [] rfl (L_X12_solve_j275 p30.2 (1 : Int32) hf hR)
  · refine xm_aload_n dX12_solve_151 rfl ?_
    refine xm_iload dX12_solve_152 rfl ?_
    refine xm_iload dX12_solve_154 rfl ?_
    refine xb_if hf (fun hb hf => ?_) (fun _ q => nomatch q)
    obtain ⟨p31, ep31, hf⟩ := xbind hf
    refine xb_callV (As := [.int l5, .int l7]) (v0 := (some (.int p31.1))) (τ0 := p31.2) dX12_solve_156 (xc_X12_compareValues _ _) xcl12 xw_2480 xw_2482 xs_164 hb rfl (Nat.le_of_ble_eq_true rfl) rfl (Nat.le_of_ble_eq_true rfl) (fun Q1 hq => m_X12_compareValues (d := d + 6) ep31 (fun g hg => by subst hg; exact hq)) ?_
    refine xb_if_ne 166 dX12_solve_159 (by decide) hf (fun c hf => ?_) (fun c hf => ?_)
    · refine xm_iconst dX12_solve_166 (v := 0) (by decide) ?_
      exact xm_sub [] rfl (L_X12_solve_j167 p31.2 (0 : Int32) hf hR)
    · refine xm_iconst dX12_solve_162 (v := 2) (by decide) ?_
      refine xm_goto 167 dX12_solve_163 (by decide) ?_
      exact xm_sub [] rfl (L_X12_solve_j167 p31.2 (2 : Int32) hf hR)
def f_X12_solve_j26 (σ : xM) (l0 : Nat) (l1 : Int32) (l2 : Int32) (s0 : Int32) (s1 : Int32) (s2 : Nat) : Option (Int32 × xM) :=
  (if xk σ s2 12 = true then (f_X12_refused σ s2 s1 s0 (0 : Int32)).bind (fun p3 => (if p3.1 = (0 : Int32) then (f_X12_shelf p3.2 l1).bind (fun p4 => (sI p3.2 l0 12 68 (0 : Int32)).bind (fun σ5 => (if xk σ5 l0 12 = true then (f_X12_meaningAt σ5 l0 p4).bind (fun p6 => (if p6 = (7 : Int32) then (if xk σ5 l0 12 = true then (f_X12_gathers σ5 l0 (p4 + (1 : Int32)) l2).bind (fun p7 => (if p7.1 = (0 : Int32) then f_X12_solve_j98 p7.2 else (if xk p7.2 l0 12 = true then (f_X12_child p7.2 l0 p4 (1 : Int32)).bind (fun p8 => (if xk p7.2 l0 12 = true then (f_X12_gathers p7.2 l0 p8 l2).bind (fun p9 => (if p9.1 = (0 : Int32) then f_X12_solve_j98 p9.2 else (if xk p9.2 l0 12 = true then (f_X12_degreeOf p9.2 l0 (0 : Int32)).bind (fun p10 => (if (1 : Int32) < p10 then f_X12_solve_j98 p9.2 else (if xk p9.2 l0 12 = true then (f_X12_degreeOf p9.2 l0 (1 : Int32)).bind (fun p11 => (if p11 ≤ (1 : Int32) then (f_X12_coefficientAt p9.2 (0 : Int32) (1 : Int32)).bind (fun p12 => (f_X12_coefficientAt p9.2 (0 : Int32) (0 : Int32)).bind (fun p13 => (f_X12_coefficientAt p9.2 (1 : Int32) (1 : Int32)).bind (fun p14 => (f_X12_coefficientAt p9.2 (1 : Int32) (0 : Int32)).bind (fun p15 => (if xk p9.2 l0 12 = true then (f_X12_compareValues p9.2 l0 p12 p14).bind (fun p16 => (if p16.1 = (0 : Int32) then f_X12_solve_j144 p16.2 l0 p12 p13 p14 p15 (0 : Int32) else f_X12_solve_j144 p16.2 l0 p12 p13 p14 p15 (1 : Int32))) else none))))) else f_X12_solve_j98 p9.2)) else none))) else none))) else none)) else none))) else none) else f_X12_solve_j98 σ5)) else none))) else some ((0 : Int32), p3.2))) else none)
set_option maxHeartbeats 4000000 in
set_option maxRecDepth 20000 in
theorem L_X12_solve_j26 {G : xG} {π : Nat → Nat} {d C Z : Nat} {Q : xQ} (σ : xM) (l0 : Nat) (l1 : Int32) (l2 : Int32) (s0 : Int32) (s1 : Int32) (s2 : Nat) {x : (Int32 × xM)} (hf : f_X12_solve_j26 σ l0 l1 l2 s0 s1 s2 = some x) (hR : ∀ g, x = g → Q (.inl (some (.int g.1))) (g.2) π) : xMach G π J_X12_solve (d + 10) C Z 26 [(0, .ref l0), (1, .int l1), (2, .int l2)] [.int s0, .int s1, .ref s2] σ Q := by
  unfold f_X12_solve_j26 at hf
  refine xm_iconst dX12_solve_26 (v := 0) (by decide) ?_
  refine xb_if hf (fun hb hf => ?_) (fun _ q => nomatch q)
  obtain ⟨p3, ep3, hf⟩ := xbind hf
  refine xb_callV (As := [.int s1, .int s0, .int (0 : Int32)]) (v0 := (some (.int p3.1))) (τ0 := p3.2) dX12_solve_27 (xc_X12_refused _ _) xcl12 xw_2112 xw_2114 xs_90 hb rfl (Nat.le_of_ble_eq_true rfl) rfl (Nat.le_of_ble_eq_true rfl) (fun Q1 hq => m_X12_refused (d := d + 9) ep3 (fun g hg => by subst hg; exact hq)) ?_
  refine xb_if_eq 35 dX12_solve_30 (by decide) hf (fun c hf => ?_) (fun c hf => ?_)
  · refine xm_iload_n dX12_solve_35 rfl ?_
    obtain ⟨p4, ep4, hf⟩ := xbind hf
    refine xb_callS (As := [.int l1]) (v0 := (some (.int p4))) (τ0 := p3.2) dX12_solve_36 (xc_X12_shelf _ _) xw_2214 xw_2215 rfl (Nat.le_of_ble_eq_true rfl) rfl (Nat.le_of_ble_eq_true rfl) (fun Q1 hq => m_X12_shelf (d := d + 9) ep4 (fun g hg => by subst hg; exact hq)) ?_
    refine xm_istore_n dX12_solve_39 (by decide) (xm_stL (L' := [(3, .int p4), (0, .ref l0), (1, .int l1), (2, .int l2)]) rfl ?_)
    refine xm_aload_n dX12_solve_40 rfl ?_
    refine xm_iconst dX12_solve_41 (v := 0) (by decide) ?_
    refine xb_putI (a := l0) (c := 12) (k := 68) dX12_solve_42 xcl12 (by decide) xw_1905 rfl rfl hf (fun σ5 eσ5 hf => ?_)
    refine xm_aload_n dX12_solve_45 rfl ?_
    refine xm_iload_n dX12_solve_46 rfl ?_
    refine xb_if hf (fun hb hf => ?_) (fun _ q => nomatch q)
    obtain ⟨p6, ep6, hf⟩ := xbind hf
    refine xb_callV (As := [.int p4]) (v0 := (some (.int p6))) (τ0 := σ5) dX12_solve_47 (xc_X12_meaningAt _ _) xcl12 xw_2504 xw_2506 xs_169 hb rfl (Nat.le_of_ble_eq_true rfl) rfl (Nat.le_of_ble_eq_true rfl) (fun Q1 hq => m_X12_meaningAt (d := d + 8) ep6 (fun g hg => by subst hg; exact hq)) ?_
    refine xm_bipush dX12_solve_50 (v := 7) (by decide) ?_
    refine xb_icmp_ne 98 dX12_solve_52 (by decide) hf (fun c hf => ?_) (fun c hf => ?_)
    · exact xm_sub [] rfl (L_X12_solve_j98 σ5 hf hR)
    · refine xm_aload_n dX12_solve_55 rfl ?_
      refine xm_iload_n dX12_solve_56 rfl ?_
      refine xm_iconst dX12_solve_57 (v := 1) (by decide) ?_
      refine xm_iadd dX12_solve_58 ?_
      refine xm_iload_n dX12_solve_59 rfl ?_
      refine xb_if hf (fun hb hf => ?_) (fun _ q => nomatch q)
      obtain ⟨p7, ep7, hf⟩ := xbind hf
      refine xb_callV (As := [.int (p4 + (1 : Int32)), .int l2]) (v0 := (some (.int p7.1))) (τ0 := p7.2) dX12_solve_60 (xc_X12_gathers _ _) xcl12 xw_2643 xw_2645 xs_192 hb rfl (Nat.le_of_ble_eq_true rfl) rfl (Nat.le_of_ble_eq_true rfl) (fun Q1 hq => m_X12_gathers (d := d + 0) ep7 (fun g hg => by subst hg; exact hq)) ?_
      refine xb_if_eq 98 dX12_solve_63 (by decide) hf (fun c hf => ?_) (fun c hf => ?_)
      · exact xm_sub [] rfl (L_X12_solve_j98 p7.2 hf hR)
      · refine xm_aload_n dX12_solve_66 rfl ?_
        refine xm_aload_n dX12_solve_67 rfl ?_
        refine xm_iload_n dX12_solve_68 rfl ?_
        refine xm_iconst dX12_solve_69 (v := 1) (by decide) ?_
        refine xb_if hf (fun hb hf => ?_) (fun _ q => nomatch q)
        obtain ⟨p8, ep8, hf⟩ := xbind hf
        refine xb_callV (As := [.int p4, .int (1 : Int32)]) (v0 := (some (.int p8))) (τ0 := p7.2) dX12_solve_70 (xc_X12_child _ _) xcl12 xw_2303 xw_2305 xs_123 hb rfl (Nat.le_of_ble_eq_true rfl) rfl (Nat.le_of_ble_eq_true rfl) (fun Q1 hq => m_X12_child (d := d + 9) ep8 (fun g hg => by subst hg; exact hq)) ?_
        refine xm_iload_n dX12_solve_73 rfl ?_
        refine xb_if hf (fun hb hf => ?_) (fun _ q => nomatch q)
        obtain ⟨p9, ep9, hf⟩ := xbind hf
        refine xb_callV (As := [.int p8, .int l2]) (v0 := (some (.int p9.1))) (τ0 := p9.2) dX12_solve_74 (xc_X12_gathers _ _) xcl12 xw_2643 xw_2645 xs_192 hb rfl (Nat.le_of_ble_eq_true rfl) rfl (Nat.le_of_ble_eq_true rfl) (fun Q1 hq => m_X12_gathers (d := d + 0) ep9 (fun g hg => by subst hg; exact hq)) ?_
        refine xb_if_eq 98 dX12_solve_77 (by decide) hf (fun c hf => ?_) (fun c hf => ?_)
        · exact xm_sub [] rfl (L_X12_solve_j98 p9.2 hf hR)
        · refine xm_aload_n dX12_solve_80 rfl ?_
          refine xm_iconst dX12_solve_81 (v := 0) (by decide) ?_
          refine xb_if hf (fun hb hf => ?_) (fun _ q => nomatch q)
          obtain ⟨p10, ep10, hf⟩ := xbind hf
          refine xb_callV (As := [.int (0 : Int32)]) (v0 := (some (.int p10))) (τ0 := p9.2) dX12_solve_82 (xc_X12_degreeOf _ _) xcl12 xw_2666 xw_2668 xs_197 hb rfl (Nat.le_of_ble_eq_true rfl) rfl (Nat.le_of_ble_eq_true rfl) (fun Q1 hq => m_X12_degreeOf (d := d + 8) ep10 (fun g hg => by subst hg; exact hq)) ?_
          refine xm_iconst dX12_solve_85 (v := 1) (by decide) ?_
          refine xb_icmp_gt 98 dX12_solve_86 (by decide) hf (fun c hf => ?_) (fun c hf => ?_)
          · exact xm_sub [] rfl (L_X12_solve_j98 p9.2 hf hR)
          · refine xm_aload_n dX12_solve_89 rfl ?_
            refine xm_iconst dX12_solve_90 (v := 1) (by decide) ?_
            refine xb_if hf (fun hb hf => ?_) (fun _ q => nomatch q)
            obtain ⟨p11, ep11, hf⟩ := xbind hf
            refine xb_callV (As := [.int (1 : Int32)]) (v0 := (some (.int p11))) (τ0 := p9.2) dX12_solve_91 (xc_X12_degreeOf _ _) xcl12 xw_2666 xw_2668 xs_197 hb rfl (Nat.le_of_ble_eq_true rfl) rfl (Nat.le_of_ble_eq_true rfl) (fun Q1 hq => m_X12_degreeOf (d := d + 8) ep11 (fun g hg => by subst hg; exact hq)) ?_
            refine xm_iconst dX12_solve_94 (v := 1) (by decide) ?_
            refine xb_icmp_le 100 dX12_solve_95 (by decide) hf (fun c hf => ?_) (fun c hf => ?_)
            · refine xm_iconst dX12_solve_100 (v := 0) (by decide) ?_
              refine xm_iconst dX12_solve_101 (v := 1) (by decide) ?_
              obtain ⟨p12, ep12, hf⟩ := xbind hf
              refine xb_callS (As := [.int (0 : Int32), .int (1 : Int32)]) (v0 := (some (.int p12))) (τ0 := p9.2) dX12_solve_102 (xc_X12_coefficientAt _ _) xw_2655 xw_2656 rfl (Nat.le_of_ble_eq_true rfl) rfl (Nat.le_of_ble_eq_true rfl) (fun Q1 hq => m_X12_coefficientAt (d := d + 9) ep12 (fun g hg => by subst hg; exact hq)) ?_
              refine xm_istore dX12_solve_105 (by decide) (xm_stL (L' := [(4, .int p12), (3, .int p4), (0, .ref l0), (1, .int l1), (2, .int l2)]) rfl ?_)
              refine xm_iconst dX12_solve_107 (v := 0) (by decide) ?_
              refine xm_iconst dX12_solve_108 (v := 0) (by decide) ?_
              obtain ⟨p13, ep13, hf⟩ := xbind hf
              refine xb_callS (As := [.int (0 : Int32), .int (0 : Int32)]) (v0 := (some (.int p13))) (τ0 := p9.2) dX12_solve_109 (xc_X12_coefficientAt _ _) xw_2655 xw_2656 rfl (Nat.le_of_ble_eq_true rfl) rfl (Nat.le_of_ble_eq_true rfl) (fun Q1 hq => m_X12_coefficientAt (d := d + 9) ep13 (fun g hg => by subst hg; exact hq)) ?_
              refine xm_istore dX12_solve_112 (by decide) (xm_stL (L' := [(5, .int p13), (4, .int p12), (3, .int p4), (0, .ref l0), (1, .int l1), (2, .int l2)]) rfl ?_)
              refine xm_iconst dX12_solve_114 (v := 1) (by decide) ?_
              refine xm_iconst dX12_solve_115 (v := 1) (by decide) ?_
              obtain ⟨p14, ep14, hf⟩ := xbind hf
              refine xb_callS (As := [.int (1 : Int32), .int (1 : Int32)]) (v0 := (some (.int p14))) (τ0 := p9.2) dX12_solve_116 (xc_X12_coefficientAt _ _) xw_2655 xw_2656 rfl (Nat.le_of_ble_eq_true rfl) rfl (Nat.le_of_ble_eq_true rfl) (fun Q1 hq => m_X12_coefficientAt (d := d + 9) ep14 (fun g hg => by subst hg; exact hq)) ?_
              refine xm_istore dX12_solve_119 (by decide) (xm_stL (L' := [(6, .int p14), (5, .int p13), (4, .int p12), (3, .int p4), (0, .ref l0), (1, .int l1), (2, .int l2)]) rfl ?_)
              refine xm_iconst dX12_solve_121 (v := 1) (by decide) ?_
              refine xm_iconst dX12_solve_122 (v := 0) (by decide) ?_
              obtain ⟨p15, ep15, hf⟩ := xbind hf
              refine xb_callS (As := [.int (1 : Int32), .int (0 : Int32)]) (v0 := (some (.int p15))) (τ0 := p9.2) dX12_solve_123 (xc_X12_coefficientAt _ _) xw_2655 xw_2656 rfl (Nat.le_of_ble_eq_true rfl) rfl (Nat.le_of_ble_eq_true rfl) (fun Q1 hq => m_X12_coefficientAt (d := d + 9) ep15 (fun g hg => by subst hg; exact hq)) ?_
              refine xm_istore dX12_solve_126 (by decide) (xm_stL (L' := [(7, .int p15), (6, .int p14), (5, .int p13), (4, .int p12), (3, .int p4), (0, .ref l0), (1, .int l1), (2, .int l2)]) rfl ?_)
              refine xm_aload_n dX12_solve_128 rfl ?_
              refine xm_iload dX12_solve_129 rfl ?_
              refine xm_iload dX12_solve_131 rfl ?_
              refine xb_if hf (fun hb hf => ?_) (fun _ q => nomatch q)
              obtain ⟨p16, ep16, hf⟩ := xbind hf
              refine xb_callV (As := [.int p12, .int p14]) (v0 := (some (.int p16.1))) (τ0 := p16.2) dX12_solve_133 (xc_X12_compareValues _ _) xcl12 xw_2480 xw_2482 xs_164 hb rfl (Nat.le_of_ble_eq_true rfl) rfl (Nat.le_of_ble_eq_true rfl) (fun Q1 hq => m_X12_compareValues (d := d + 6) ep16 (fun g hg => by subst hg; exact hq)) ?_
              refine xb_if_eq 143 dX12_solve_136 (by decide) hf (fun c hf => ?_) (fun c hf => ?_)
              · refine xm_iconst dX12_solve_143 (v := 0) (by decide) ?_
                exact xm_sub [5, 3, 2, 1, 0] rfl (L_X12_solve_j144 p16.2 l0 p12 p13 p14 p15 (0 : Int32) hf hR)
              · refine xm_iconst dX12_solve_139 (v := 1) (by decide) ?_
                refine xm_goto 144 dX12_solve_140 (by decide) ?_
                exact xm_sub [5, 3, 2, 1, 0] rfl (L_X12_solve_j144 p16.2 l0 p12 p13 p14 p15 (1 : Int32) hf hR)
            · exact xm_sub [] rfl (L_X12_solve_j98 p9.2 hf hR)
  · refine xm_iconst dX12_solve_33 (v := 0) (by decide) ?_
    cases hf
    exact xm_iret dX12_solve_34 rfl (hR _ rfl)
def f_X12_solve_j14 (σ : xM) (l0 : Nat) (l1 : Int32) (l2 : Int32) (s0 : Int32) (s1 : Nat) : Option (Int32 × xM) :=
  (f_X12_isName σ l2).bind (fun p2 => (if p2 = (0 : Int32) then f_X12_solve_j26 σ l0 l1 l2 (1 : Int32) s0 s1 else f_X12_solve_j26 σ l0 l1 l2 (0 : Int32) s0 s1))
set_option maxHeartbeats 4000000 in
set_option maxRecDepth 20000 in
theorem L_X12_solve_j14 {G : xG} {π : Nat → Nat} {d C Z : Nat} {Q : xQ} (σ : xM) (l0 : Nat) (l1 : Int32) (l2 : Int32) (s0 : Int32) (s1 : Nat) {x : (Int32 × xM)} (hf : f_X12_solve_j14 σ l0 l1 l2 s0 s1 = some x) (hR : ∀ g, x = g → Q (.inl (some (.int g.1))) (g.2) π) : xMach G π J_X12_solve (d + 10) C Z 14 [(0, .ref l0), (1, .int l1), (2, .int l2)] [.int s0, .ref s1] σ Q := by
  unfold f_X12_solve_j14 at hf
  refine xm_iload_n dX12_solve_14 rfl ?_
  obtain ⟨p2, ep2, hf⟩ := xbind hf
  refine xb_callS (As := [.int l2]) (v0 := (some (.int p2))) (τ0 := σ) dX12_solve_15 (xc_X12_isName _ _) xw_2257 xw_2258 rfl (Nat.le_of_ble_eq_true rfl) rfl (Nat.le_of_ble_eq_true rfl) (fun Q1 hq => m_X12_isName (d := d + 8) ep2 (fun g hg => by subst hg; exact hq)) ?_
  refine xb_if_ne 25 dX12_solve_18 (by decide) hf (fun c hf => ?_) (fun c hf => ?_)
  · refine xm_iconst dX12_solve_25 (v := 0) (by decide) ?_
    exact xm_sub [0, 1, 2] rfl (L_X12_solve_j26 σ l0 l1 l2 (0 : Int32) s0 s1 hf hR)
  · refine xm_iconst dX12_solve_21 (v := 1) (by decide) ?_
    refine xm_goto 26 dX12_solve_22 (by decide) ?_
    exact xm_sub [0, 1, 2] rfl (L_X12_solve_j26 σ l0 l1 l2 (1 : Int32) s0 s1 hf hR)
def f_X12_solve (σ : xM) (l0 : Nat) (l1 : Int32) (l2 : Int32) : Option (Int32 × xM) :=
  (if xk σ l0 12 = true then (f_X12_isTree σ l0 l1).bind (fun p1 => (if p1 = (0 : Int32) then f_X12_solve_j14 σ l0 l1 l2 (1 : Int32) l0 else f_X12_solve_j14 σ l0 l1 l2 (0 : Int32) l0)) else none)
set_option maxHeartbeats 4000000 in
set_option maxRecDepth 20000 in
theorem m_X12_solve {G : xG} {π : Nat → Nat} {d C Z : Nat} {Q : xQ} {σ : xM} {l0 : Nat} {l1 : Int32} {l2 : Int32} {x : (Int32 × xM)} (hf : f_X12_solve σ l0 l1 l2 = some x) (hR : ∀ g, x = g → Q (.inl (some (.int g.1))) (g.2) π) : xMach G π J_X12_solve (d + 10) C Z 0 (lv_args 0 [.ref l0, .int l1, .int l2]) [] σ Q := by
  unfold f_X12_solve at hf
  refine xm_stL (L' := [(0, .ref l0), (1, .int l1), (2, .int l2)]) rfl ?_
  refine xm_aload_n dX12_solve_0 rfl ?_
  refine xm_aload_n dX12_solve_1 rfl ?_
  refine xm_iload_n dX12_solve_2 rfl ?_
  refine xb_if hf (fun hb hf => ?_) (fun _ q => nomatch q)
  obtain ⟨p1, ep1, hf⟩ := xbind hf
  refine xb_callV (As := [.int l1]) (v0 := (some (.int p1))) (τ0 := σ) dX12_solve_3 (xc_X12_isTree _ _) xcl12 xw_2233 xw_2235 xs_113 hb rfl (Nat.le_of_ble_eq_true rfl) rfl (Nat.le_of_ble_eq_true rfl) (fun Q1 hq => m_X12_isTree (d := d + 8) ep1 (fun g hg => by subst hg; exact hq)) ?_
  refine xb_if_ne 13 dX12_solve_6 (by decide) hf (fun c hf => ?_) (fun c hf => ?_)
  · refine xm_iconst dX12_solve_13 (v := 0) (by decide) ?_
    exact xm_sub [0, 1, 2] rfl (L_X12_solve_j14 σ l0 l1 l2 (0 : Int32) l0 hf hR)
  · refine xm_iconst dX12_solve_9 (v := 1) (by decide) ?_
    refine xm_goto 14 dX12_solve_10 (by decide) ?_
    exact xm_sub [0, 1, 2] rfl (L_X12_solve_j14 σ l0 l1 l2 (1 : Int32) l0 hf hR)
-- RankwiseModel.isPrinted(I)Z
def f_X12_isPrinted_j70 (σ : xM) (l0 : Nat) (l1 : Int32) (l2 : Int32) (l3 : Int32) : Option ((Int32 × xM) ⊕ ((Int32 × xM) ⊕ (Nat × Int32 × Int32 × Int32 × xM))) :=
  xlet (l3 + (1 : Int32)) (fun v7 => some (Sum.inr (Sum.inr (l0, l1, l2, v7, σ))))
set_option maxHeartbeats 4000000 in
set_option maxRecDepth 20000 in
theorem L_X12_isPrinted_j70 {G : xG} {π : Nat → Nat} {d C Z : Nat} {Q : xQ} (σ : xM) (l0 : Nat) (l1 : Int32) (l2 : Int32) (l3 : Int32) {x : ((Int32 × xM) ⊕ ((Int32 × xM) ⊕ (Nat × Int32 × Int32 × Int32 × xM)))} (hf : f_X12_isPrinted_j70 σ l0 l1 l2 l3 = some x) (hR : ∀ g, x = Sum.inl (g) → Q (.inl (some (.int g.1))) (g.2) π) (hE : ∀ e : (Int32 × xM), x = Sum.inr (Sum.inl e) → xMach G π J_X12_isPrinted (d + 8) C Z 76 [(2, .int e.1)] [] e.2 Q) (hC : ∀ e : (Nat × Int32 × Int32 × Int32 × xM), x = Sum.inr (Sum.inr e) → xMach G π J_X12_isPrinted (d + 8) C Z 13 [(0, .ref e.1), (1, .int e.2.1), (2, .int e.2.2.1), (3, .int e.2.2.2.1)] [] e.2.2.2.2 Q) : xMach G π J_X12_isPrinted (d + 8) C Z 70 [(0, .ref l0), (1, .int l1), (2, .int l2), (3, .int l3)] [] σ Q := by
  unfold f_X12_isPrinted_j70 at hf
  refine xb_iinc dX12_isPrinted_70 rfl (by decide) (by decide) hf (fun v7 ev7 hf => xm_stL (L' := [(3, .int v7), (0, .ref l0), (1, .int l1), (2, .int l2)]) rfl ?_)
  refine xm_goto 13 dX12_isPrinted_73 (by decide) ?_
  cases hf
  exact xm_sub [1, 2, 3, 0] rfl (hC _ rfl)
def f_X12_isPrinted_j63 (σ : xM) (l0 : Nat) (l1 : Int32) (l3 : Int32) (s0 : Int32) : Option ((Int32 × xM) ⊕ ((Int32 × xM) ⊕ (Nat × Int32 × Int32 × Int32 × xM))) :=
  (if xk σ l0 12 = true then (f_X12_setGone σ l0 l3 (0 : Int32)).bind (fun p12 => f_X12_isPrinted_j70 p12 l0 l1 s0 l3) else none)
set_option maxHeartbeats 4000000 in
set_option maxRecDepth 20000 in
theorem L_X12_isPrinted_j63 {G : xG} {π : Nat → Nat} {d C Z : Nat} {Q : xQ} (σ : xM) (l0 : Nat) (l1 : Int32) (l3 : Int32) (s0 : Int32) {x : ((Int32 × xM) ⊕ ((Int32 × xM) ⊕ (Nat × Int32 × Int32 × Int32 × xM)))} (hf : f_X12_isPrinted_j63 σ l0 l1 l3 s0 = some x) (hR : ∀ g, x = Sum.inl (g) → Q (.inl (some (.int g.1))) (g.2) π) (hE : ∀ e : (Int32 × xM), x = Sum.inr (Sum.inl e) → xMach G π J_X12_isPrinted (d + 8) C Z 76 [(2, .int e.1)] [] e.2 Q) (hC : ∀ e : (Nat × Int32 × Int32 × Int32 × xM), x = Sum.inr (Sum.inr e) → xMach G π J_X12_isPrinted (d + 8) C Z 13 [(0, .ref e.1), (1, .int e.2.1), (2, .int e.2.2.1), (3, .int e.2.2.2.1)] [] e.2.2.2.2 Q) : xMach G π J_X12_isPrinted (d + 8) C Z 63 [(0, .ref l0), (1, .int l1), (3, .int l3)] [.int s0] σ Q := by
  unfold f_X12_isPrinted_j63 at hf
  refine xm_istore_n dX12_isPrinted_63 (by decide) (xm_stL (L' := [(2, .int s0), (0, .ref l0), (1, .int l1), (3, .int l3)]) rfl ?_)
  refine xm_aload_n dX12_isPrinted_64 rfl ?_
  refine xm_iload_n dX12_isPrinted_65 rfl ?_
  refine xm_iconst dX12_isPrinted_66 (v := 0) (by decide) ?_
  refine xb_if hf (fun hb hf => ?_) (fun _ q => nomatch q)
  obtain ⟨p12, ep12, hf⟩ := xbind hf
  refine xb_callV (As := [.int l3, .int (0 : Int32)]) (v0 := none) (τ0 := p12) dX12_isPrinted_67 (xc_X12_setGone _ _) xcl12 xw_2311 xw_2313 xs_125 hb rfl (Nat.le_of_ble_eq_true rfl) rfl (Nat.le_of_ble_eq_true rfl) (fun Q1 hq => m_X12_setGone (d := d + 7) ep12 (fun g hg => by subst hg; exact hq)) ?_
  exact xm_sub [1, 2, 0, 3] rfl (L_X12_isPrinted_j70 p12 l0 l1 s0 l3 hf hR hE hC)
def f_X12_isPrinted_s13 (s : (Nat × Int32 × Int32 × Int32 × xM)) : Option ((Int32 × xM) ⊕ ((Int32 × xM) ⊕ (Nat × Int32 × Int32 × Int32 × xM))) :=
  xlet s.1 (fun l0 => xlet s.2.1 (fun l1 => xlet s.2.2.1 (fun l2 => xlet s.2.2.2.1 (fun l3 => xlet s.2.2.2.2 (fun σ => (gI σ l0 12 25).bind (fun x4 => (if x4 ≤ l3 then some (Sum.inr (Sum.inl (l2, σ))) else (if l2 = (0 : Int32) then some (Sum.inr (Sum.inl (l2, σ))) else (gR σ l0 12 23).bind (fun x5 => (aI σ x5 14 l3).bind (fun x6 => (if x6 = (-1 : Int32) then f_X12_isPrinted_j70 σ l0 l1 l2 l3 else (gR σ l0 12 24).bind (fun x8 => (aI σ x8 15 l3).bind (fun x9 => (if x9 = (0 : Int32) then (if xk σ l0 12 = true then (f_X12_setGone σ l0 l3 (1 : Int32)).bind (fun p10 => (if xk p10 l0 12 = true then (f_X12_makes p10 l0 l1).bind (fun p11 => (if p11.1 = (0 : Int32) then f_X12_isPrinted_j63 p11.2 l0 l1 l3 (1 : Int32) else f_X12_isPrinted_j63 p11.2 l0 l1 l3 (0 : Int32))) else none)) else none) else f_X12_isPrinted_j70 σ l0 l1 l2 l3))))))))))))))
set_option maxHeartbeats 4000000 in
set_option maxRecDepth 20000 in
theorem L_X12_isPrinted_s13 {G : xG} {π : Nat → Nat} {d C Z : Nat} {Q : xQ} (σ : xM) (l0 : Nat) (l1 : Int32) (l2 : Int32) (l3 : Int32) {x : ((Int32 × xM) ⊕ ((Int32 × xM) ⊕ (Nat × Int32 × Int32 × Int32 × xM)))} (hf : f_X12_isPrinted_s13 (l0, l1, l2, l3, σ) = some x) (hR : ∀ g, x = Sum.inl (g) → Q (.inl (some (.int g.1))) (g.2) π) (hE : ∀ e : (Int32 × xM), x = Sum.inr (Sum.inl e) → xMach G π J_X12_isPrinted (d + 8) C Z 76 [(2, .int e.1)] [] e.2 Q) (hC : ∀ e : (Nat × Int32 × Int32 × Int32 × xM), x = Sum.inr (Sum.inr e) → xMach G π J_X12_isPrinted (d + 8) C Z 13 [(0, .ref e.1), (1, .int e.2.1), (2, .int e.2.2.1), (3, .int e.2.2.2.1)] [] e.2.2.2.2 Q) : xMach G π J_X12_isPrinted (d + 8) C Z 13 [(0, .ref l0), (1, .int l1), (2, .int l2), (3, .int l3)] [] σ Q := by
  have hf : (gI σ l0 12 25).bind (fun x4 => (if x4 ≤ l3 then some (Sum.inr (Sum.inl (l2, σ))) else (if l2 = (0 : Int32) then some (Sum.inr (Sum.inl (l2, σ))) else (gR σ l0 12 23).bind (fun x5 => (aI σ x5 14 l3).bind (fun x6 => (if x6 = (-1 : Int32) then f_X12_isPrinted_j70 σ l0 l1 l2 l3 else (gR σ l0 12 24).bind (fun x8 => (aI σ x8 15 l3).bind (fun x9 => (if x9 = (0 : Int32) then (if xk σ l0 12 = true then (f_X12_setGone σ l0 l3 (1 : Int32)).bind (fun p10 => (if xk p10 l0 12 = true then (f_X12_makes p10 l0 l1).bind (fun p11 => (if p11.1 = (0 : Int32) then f_X12_isPrinted_j63 p11.2 l0 l1 l3 (1 : Int32) else f_X12_isPrinted_j63 p11.2 l0 l1 l3 (0 : Int32))) else none)) else none) else f_X12_isPrinted_j70 σ l0 l1 l2 l3))))))))) = some x := hf
  refine xm_iload_n dX12_isPrinted_13 rfl ?_
  refine xm_aload_n dX12_isPrinted_14 rfl ?_
  refine xb_getI (a := l0) (c := 12) (k := 25) dX12_isPrinted_15 xcl12 (by decide) xw_1862 rfl hf (fun x4 ex4 hf => ?_)
  refine xb_icmp_ge 76 dX12_isPrinted_18 (by decide) hf (fun c hf => ?_) (fun c hf => ?_)
  · cases hf
    exact xm_sub [2] rfl (hE _ rfl)
  · refine xm_iload_n dX12_isPrinted_21 rfl ?_
    refine xb_if_eq 76 dX12_isPrinted_22 (by decide) hf (fun c hf => ?_) (fun c hf => ?_)
    · cases hf
      exact xm_sub [2] rfl (hE _ rfl)
    · refine xm_aload_n dX12_isPrinted_25 rfl ?_
      refine xb_getR (a := l0) (c := 12) (k := 23) dX12_isPrinted_26 xcl12 (by decide) xw_1860 rfl hf (fun x5 ex5 hf => ?_)
      refine xm_iload_n dX12_isPrinted_29 rfl ?_
      refine xb_iald dX12_isPrinted_30 hf (fun x6 ex6 hf => ?_)
      refine xm_iconst dX12_isPrinted_31 (v := -1) (by decide) ?_
      refine xb_icmp_eq 70 dX12_isPrinted_32 (by decide) hf (fun c hf => ?_) (fun c hf => ?_)
      · exact xm_sub [0, 1, 2, 3] rfl (L_X12_isPrinted_j70 σ l0 l1 l2 l3 hf hR hE hC)
      · refine xm_aload_n dX12_isPrinted_35 rfl ?_
        refine xb_getR (a := l0) (c := 12) (k := 24) dX12_isPrinted_36 xcl12 (by decide) xw_1861 rfl hf (fun x8 ex8 hf => ?_)
        refine xm_iload_n dX12_isPrinted_39 rfl ?_
        refine xb_zald dX12_isPrinted_40 hf (fun x9 ex9 hf => ?_)
        refine xb_if_ne 70 dX12_isPrinted_41 (by decide) hf (fun c hf => ?_) (fun c hf => ?_)
        · exact xm_sub [0, 1, 2, 3] rfl (L_X12_isPrinted_j70 σ l0 l1 l2 l3 hf hR hE hC)
        · refine xm_aload_n dX12_isPrinted_44 rfl ?_
          refine xm_iload_n dX12_isPrinted_45 rfl ?_
          refine xm_iconst dX12_isPrinted_46 (v := 1) (by decide) ?_
          refine xb_if hf (fun hb hf => ?_) (fun _ q => nomatch q)
          obtain ⟨p10, ep10, hf⟩ := xbind hf
          refine xb_callV (As := [.int l3, .int (1 : Int32)]) (v0 := none) (τ0 := p10) dX12_isPrinted_47 (xc_X12_setGone _ _) xcl12 xw_2311 xw_2313 xs_125 hb rfl (Nat.le_of_ble_eq_true rfl) rfl (Nat.le_of_ble_eq_true rfl) (fun Q1 hq => m_X12_setGone (d := d + 7) ep10 (fun g hg => by subst hg; exact hq)) ?_
          refine xm_aload_n dX12_isPrinted_50 rfl ?_
          refine xm_iload_n dX12_isPrinted_51 rfl ?_
          refine xb_if hf (fun hb hf => ?_) (fun _ q => nomatch q)
          obtain ⟨p11, ep11, hf⟩ := xbind hf
          refine xb_callV (As := [.int l1]) (v0 := (some (.int p11.1))) (τ0 := p11.2) dX12_isPrinted_52 (xc_X12_makes _ _) xcl12 xw_2315 xw_2317 xs_126 hb rfl (Nat.le_of_ble_eq_true rfl) rfl (Nat.le_of_ble_eq_true rfl) (fun Q1 hq => m_X12_makes (d := d + 1) ep11 (fun g hg => by subst hg; exact hq)) ?_
          refine xb_if_ne 62 dX12_isPrinted_55 (by decide) hf (fun c hf => ?_) (fun c hf => ?_)
          · refine xm_iconst dX12_isPrinted_62 (v := 0) (by decide) ?_
            exact xm_sub [0, 1, 3] rfl (L_X12_isPrinted_j63 p11.2 l0 l1 l3 (0 : Int32) hf hR hE hC)
          · refine xm_iconst dX12_isPrinted_58 (v := 1) (by decide) ?_
            refine xm_goto 63 dX12_isPrinted_59 (by decide) ?_
            exact xm_sub [0, 1, 3] rfl (L_X12_isPrinted_j63 p11.2 l0 l1 l3 (1 : Int32) hf hR hE hC)
theorem L_X12_isPrinted_l13 {G : xG} {π : Nat → Nat} {d C Z : Nat} {Q : xQ} {s0 : (Nat × Int32 × Int32 × Int32 × xM)} {x : ((Int32 × xM) ⊕ (Int32 × xM))} (h1 : xloop (f_X12_isPrinted_s13) xF s0 = some x) (hR : ∀ g, x = Sum.inl g → Q (.inl (some (.int g.1))) (g.2) π) (hE : ∀ e : (Int32 × xM), x = Sum.inr e → xMach G π J_X12_isPrinted (d + 8) C Z 76 [(2, .int e.1)] [] e.2 Q) : xMach G π J_X12_isPrinted (d + 8) C Z 13 [(0, .ref s0.1), (1, .int s0.2.1), (2, .int s0.2.2.1), (3, .int s0.2.2.2.1)] [] s0.2.2.2.2 Q := by
  refine xloop_run (M := (fun s : (Nat × Int32 × Int32 × Int32 × xM) => xMach G π J_X12_isPrinted (d + 8) C Z 13 [(0, .ref s.1), (1, .int s.2.1), (2, .int s.2.2.1), (3, .int s.2.2.2.1)] [] s.2.2.2.2 Q)) (r := x) ?_ xF _ h1
  intro s y hs hx
  exact L_X12_isPrinted_s13 s.2.2.2.2 s.1 s.2.1 s.2.2.1 s.2.2.2.1 (x := y) hs (fun g hg => by subst hg; exact hR g hx) (fun e he => by subst he; exact hE e hx) (fun e he => by subst he; exact hx)
def f_X12_isPrinted_j76 (σ : xM) (l2 : Int32) : Option (Int32 × xM) :=
  (xz l2).bind (fun b13 => some (b13, σ))
set_option maxHeartbeats 4000000 in
set_option maxRecDepth 20000 in
theorem L_X12_isPrinted_j76 {G : xG} {π : Nat → Nat} {d C Z : Nat} {Q : xQ} (σ : xM) (l2 : Int32) {x : (Int32 × xM)} (hf : f_X12_isPrinted_j76 σ l2 = some x) (hR : ∀ g, x = g → Q (.inl (some (.int g.1))) (g.2) π) : xMach G π J_X12_isPrinted (d + 8) C Z 76 [(2, .int l2)] [] σ Q := by
  unfold f_X12_isPrinted_j76 at hf
  refine xm_iload_n dX12_isPrinted_76 rfl ?_
  obtain ⟨b13, eb13, hf⟩ := xbind hf
  obtain ⟨rfl, hz⟩ := xz_of eb13
  cases hf
  exact xm_zret dX12_isPrinted_77 rfl hz (hR _ rfl)
def f_X12_isPrinted (σ : xM) (l0 : Nat) (l1 : Int32) : Option (Int32 × xM) :=
  (if xk σ l0 12 = true then (f_X12_fewest σ l0 l1).bind (fun p1 => (if xk p1 l0 12 = true then (f_X12_makes p1 l0 l1).bind (fun p2 => xlet (0 : Int32) (fun v3 => (xloop (f_X12_isPrinted_s13 ) xF (l0, l1, p2.1, v3, p2.2)).bind (Sum.elim (fun g => some g) (fun e => f_X12_isPrinted_j76 e.2 e.1)))) else none)) else none)
set_option maxHeartbeats 4000000 in
set_option maxRecDepth 20000 in
theorem m_X12_isPrinted {G : xG} {π : Nat → Nat} {d C Z : Nat} {Q : xQ} {σ : xM} {l0 : Nat} {l1 : Int32} {x : (Int32 × xM)} (hf : f_X12_isPrinted σ l0 l1 = some x) (hR : ∀ g, x = g → Q (.inl (some (.int g.1))) (g.2) π) : xMach G π J_X12_isPrinted (d + 8) C Z 0 (lv_args 0 [.ref l0, .int l1]) [] σ Q := by
  unfold f_X12_isPrinted at hf
  refine xm_stL (L' := [(0, .ref l0), (1, .int l1)]) rfl ?_
  refine xm_aload_n dX12_isPrinted_0 rfl ?_
  refine xm_iload_n dX12_isPrinted_1 rfl ?_
  refine xb_if hf (fun hb hf => ?_) (fun _ q => nomatch q)
  obtain ⟨p1, ep1, hf⟩ := xbind hf
  refine xb_callV (As := [.int l1]) (v0 := none) (τ0 := p1) dX12_isPrinted_2 (xc_X12_fewest _ _) xcl12 xw_2287 xw_2289 xs_119 hb rfl (Nat.le_of_ble_eq_true rfl) rfl (Nat.le_of_ble_eq_true rfl) (fun Q1 hq => m_X12_fewest (d := d + 0) ep1 (fun g hg => by subst hg; exact hq)) ?_
  refine xm_aload_n dX12_isPrinted_5 rfl ?_
  refine xm_iload_n dX12_isPrinted_6 rfl ?_
  refine xb_if hf (fun hb hf => ?_) (fun _ q => nomatch q)
  obtain ⟨p2, ep2, hf⟩ := xbind hf
  refine xb_callV (As := [.int l1]) (v0 := (some (.int p2.1))) (τ0 := p2.2) dX12_isPrinted_7 (xc_X12_makes _ _) xcl12 xw_2315 xw_2317 xs_126 hb rfl (Nat.le_of_ble_eq_true rfl) rfl (Nat.le_of_ble_eq_true rfl) (fun Q1 hq => m_X12_makes (d := d + 1) ep2 (fun g hg => by subst hg; exact hq)) ?_
  refine xm_istore_n dX12_isPrinted_10 (by decide) (xm_stL (L' := [(2, .int p2.1), (0, .ref l0), (1, .int l1)]) rfl ?_)
  refine xm_iconst dX12_isPrinted_11 (v := 0) (by decide) ?_
  refine xb_topi hf (fun v3 ev3 hf => ?_)
  refine xm_istore_n dX12_isPrinted_12 (by decide) (xm_stL (L' := [(3, .int v3), (2, .int p2.1), (0, .ref l0), (1, .int l1)]) rfl ?_)
  obtain ⟨o, h1, hf⟩ := xbind hf
  refine xm_sub [2, 3, 1, 0] rfl (L_X12_isPrinted_l13  h1 (fun g hg => ?_) (fun e he => ?_))
  · subst hg
    cases hf
    exact hR _ rfl
  · subst he
    rw [Sum.elim_inr] at hf
    have hf : f_X12_isPrinted_j76 e.2 e.1 = some _ := hf
    exact xm_sub [0] rfl (L_X12_isPrinted_j76 e.2 e.1 hf hR)
-- RankwiseModel.isSimpler(I)Z
def f_X12_isSimpler_j93 (σ : xM) (l0 : Nat) (l2 : Int32) (l3 : Int32) (l4 : Int32) (l5 : Int32) (l7 : Int32) (s0 : Int32) : Option ((Int32 × xM) ⊕ ((Nat × Int32 × Int32 × Int32 × Int32 × Int32 × xM) ⊕ (Nat × Int32 × Int32 × Int32 × Int32 × Int32 × Int32 × xM))) :=
  some (Sum.inr (Sum.inr (l0, l2, l3, l4, l5, s0, l7, σ)))
set_option maxHeartbeats 4000000 in
set_option maxRecDepth 20000 in
theorem L_X12_isSimpler_j93 {G : xG} {π : Nat → Nat} {d C Z : Nat} {Q : xQ} (σ : xM) (l0 : Nat) (l2 : Int32) (l3 : Int32) (l4 : Int32) (l5 : Int32) (l7 : Int32) (s0 : Int32) {x : ((Int32 × xM) ⊕ ((Nat × Int32 × Int32 × Int32 × Int32 × Int32 × xM) ⊕ (Nat × Int32 × Int32 × Int32 × Int32 × Int32 × Int32 × xM)))} (hf : f_X12_isSimpler_j93 σ l0 l2 l3 l4 l5 l7 s0 = some x) (hR : ∀ g, x = Sum.inl (g) → Q (.inl (some (.int g.1))) (g.2) π) (hE : ∀ e : (Nat × Int32 × Int32 × Int32 × Int32 × Int32 × xM), x = Sum.inr (Sum.inl e) → xMach G π J_X12_isSimpler (d + 11) C Z 98 [(0, .ref e.1), (2, .int e.2.1), (3, .int e.2.2.1), (4, .int e.2.2.2.1), (5, .int e.2.2.2.2.1), (6, .int e.2.2.2.2.2.1)] [] e.2.2.2.2.2.2 Q) (hC : ∀ e : (Nat × Int32 × Int32 × Int32 × Int32 × Int32 × Int32 × xM), x = Sum.inr (Sum.inr e) → xMach G π J_X12_isSimpler (d + 11) C Z 47 [(0, .ref e.1), (2, .int e.2.1), (3, .int e.2.2.1), (4, .int e.2.2.2.1), (5, .int e.2.2.2.2.1), (6, .int e.2.2.2.2.2.1), (7, .int e.2.2.2.2.2.2.1)] [] e.2.2.2.2.2.2.2 Q) : xMach G π J_X12_isSimpler (d + 11) C Z 93 [(0, .ref l0), (2, .int l2), (3, .int l3), (4, .int l4), (5, .int l5), (7, .int l7)] [.int s0] σ Q := by
  unfold f_X12_isSimpler_j93 at hf
  refine xm_istore dX12_isSimpler_93 (by decide) (xm_stL (L' := [(6, .int s0), (0, .ref l0), (2, .int l2), (3, .int l3), (4, .int l4), (5, .int l5), (7, .int l7)]) rfl ?_)
  refine xm_goto 47 dX12_isSimpler_95 (by decide) ?_
  cases hf
  exact xm_sub [1, 2, 3, 4, 5, 0, 6] rfl (hC _ rfl)
def f_X12_isSimpler_j92 (σ : xM) (l0 : Nat) (l2 : Int32) (l3 : Int32) (l4 : Int32) (l5 : Int32) (l7 : Int32) : Option ((Int32 × xM) ⊕ ((Nat × Int32 × Int32 × Int32 × Int32 × Int32 × xM) ⊕ (Nat × Int32 × Int32 × Int32 × Int32 × Int32 × Int32 × xM))) :=
  f_X12_isSimpler_j93 σ l0 l2 l3 l4 l5 l7 (0 : Int32)
set_option maxHeartbeats 4000000 in
set_option maxRecDepth 20000 in
theorem L_X12_isSimpler_j92 {G : xG} {π : Nat → Nat} {d C Z : Nat} {Q : xQ} (σ : xM) (l0 : Nat) (l2 : Int32) (l3 : Int32) (l4 : Int32) (l5 : Int32) (l7 : Int32) {x : ((Int32 × xM) ⊕ ((Nat × Int32 × Int32 × Int32 × Int32 × Int32 × xM) ⊕ (Nat × Int32 × Int32 × Int32 × Int32 × Int32 × Int32 × xM)))} (hf : f_X12_isSimpler_j92 σ l0 l2 l3 l4 l5 l7 = some x) (hR : ∀ g, x = Sum.inl (g) → Q (.inl (some (.int g.1))) (g.2) π) (hE : ∀ e : (Nat × Int32 × Int32 × Int32 × Int32 × Int32 × xM), x = Sum.inr (Sum.inl e) → xMach G π J_X12_isSimpler (d + 11) C Z 98 [(0, .ref e.1), (2, .int e.2.1), (3, .int e.2.2.1), (4, .int e.2.2.2.1), (5, .int e.2.2.2.2.1), (6, .int e.2.2.2.2.2.1)] [] e.2.2.2.2.2.2 Q) (hC : ∀ e : (Nat × Int32 × Int32 × Int32 × Int32 × Int32 × Int32 × xM), x = Sum.inr (Sum.inr e) → xMach G π J_X12_isSimpler (d + 11) C Z 47 [(0, .ref e.1), (2, .int e.2.1), (3, .int e.2.2.1), (4, .int e.2.2.2.1), (5, .int e.2.2.2.2.1), (6, .int e.2.2.2.2.2.1), (7, .int e.2.2.2.2.2.2.1)] [] e.2.2.2.2.2.2.2 Q) : xMach G π J_X12_isSimpler (d + 11) C Z 92 [(0, .ref l0), (2, .int l2), (3, .int l3), (4, .int l4), (5, .int l5), (7, .int l7)] [] σ Q := by
  unfold f_X12_isSimpler_j92 at hf
  refine xm_iconst dX12_isSimpler_92 (v := 0) (by decide) ?_
  exact xm_sub [0, 1, 2, 3, 4, 5] rfl (L_X12_isSimpler_j93 σ l0 l2 l3 l4 l5 l7 (0 : Int32) hf hR hE hC)
def f_X12_isSimpler_j88 (σ : xM) (l0 : Nat) (l2 : Int32) (l3 : Int32) (l4 : Int32) (l5 : Int32) (l7 : Int32) : Option ((Int32 × xM) ⊕ ((Nat × Int32 × Int32 × Int32 × Int32 × Int32 × xM) ⊕ (Nat × Int32 × Int32 × Int32 × Int32 × Int32 × Int32 × xM))) :=
  f_X12_isSimpler_j93 σ l0 l2 l3 l4 l5 l7 (1 : Int32)
set_option maxHeartbeats 4000000 in
set_option maxRecDepth 20000 in
theorem L_X12_isSimpler_j88 {G : xG} {π : Nat → Nat} {d C Z : Nat} {Q : xQ} (σ : xM) (l0 : Nat) (l2 : Int32) (l3 : Int32) (l4 : Int32) (l5 : Int32) (l7 : Int32) {x : ((Int32 × xM) ⊕ ((Nat × Int32 × Int32 × Int32 × Int32 × Int32 × xM) ⊕ (Nat × Int32 × Int32 × Int32 × Int32 × Int32 × Int32 × xM)))} (hf : f_X12_isSimpler_j88 σ l0 l2 l3 l4 l5 l7 = some x) (hR : ∀ g, x = Sum.inl (g) → Q (.inl (some (.int g.1))) (g.2) π) (hE : ∀ e : (Nat × Int32 × Int32 × Int32 × Int32 × Int32 × xM), x = Sum.inr (Sum.inl e) → xMach G π J_X12_isSimpler (d + 11) C Z 98 [(0, .ref e.1), (2, .int e.2.1), (3, .int e.2.2.1), (4, .int e.2.2.2.1), (5, .int e.2.2.2.2.1), (6, .int e.2.2.2.2.2.1)] [] e.2.2.2.2.2.2 Q) (hC : ∀ e : (Nat × Int32 × Int32 × Int32 × Int32 × Int32 × Int32 × xM), x = Sum.inr (Sum.inr e) → xMach G π J_X12_isSimpler (d + 11) C Z 47 [(0, .ref e.1), (2, .int e.2.1), (3, .int e.2.2.1), (4, .int e.2.2.2.1), (5, .int e.2.2.2.2.1), (6, .int e.2.2.2.2.2.1), (7, .int e.2.2.2.2.2.2.1)] [] e.2.2.2.2.2.2.2 Q) : xMach G π J_X12_isSimpler (d + 11) C Z 88 [(0, .ref l0), (2, .int l2), (3, .int l3), (4, .int l4), (5, .int l5), (7, .int l7)] [] σ Q := by
  unfold f_X12_isSimpler_j88 at hf
  refine xm_iconst dX12_isSimpler_88 (v := 1) (by decide) ?_
  refine xm_goto 93 dX12_isSimpler_89 (by decide) ?_
  exact xm_sub [0, 1, 2, 3, 4, 5] rfl (L_X12_isSimpler_j93 σ l0 l2 l3 l4 l5 l7 (1 : Int32) hf hR hE hC)
def f_X12_isSimpler_s47 (s : (Nat × Int32 × Int32 × Int32 × Int32 × Int32 × Int32 × xM)) : Option ((Int32 × xM) ⊕ ((Nat × Int32 × Int32 × Int32 × Int32 × Int32 × xM) ⊕ (Nat × Int32 × Int32 × Int32 × Int32 × Int32 × Int32 × xM))) :=
  xlet s.1 (fun l0 => xlet s.2.1 (fun l2 => xlet s.2.2.1 (fun l3 => xlet s.2.2.2.1 (fun l4 => xlet s.2.2.2.2.1 (fun l5 => xlet s.2.2.2.2.2.1 (fun l6 => xlet s.2.2.2.2.2.2.1 (fun l7 => xlet s.2.2.2.2.2.2.2 (fun σ => (if l7 = (0 : Int32) then some (Sum.inr (Sum.inl (l0, l2, l3, l4, l5, l6, σ))) else (gI σ l0 12 64).bind (fun x11 => (sI σ l0 12 67 (0 : Int32)).bind (fun σ12 => (if xk σ12 l0 12 = true then (f_X12_stepWork σ12 l0).bind (fun p13 => (if l6 = (0 : Int32) then f_X12_isSimpler_j92 p13.2 l0 l2 l3 l4 l5 p13.1 else (if p13.1 = (0 : Int32) then f_X12_isSimpler_j88 p13.2 l0 l2 l3 l4 l5 p13.1 else (gI p13.2 l0 12 64).bind (fun x14 => (if x11 ≤ x14 then f_X12_isSimpler_j92 p13.2 l0 l2 l3 l4 l5 p13.1 else f_X12_isSimpler_j88 p13.2 l0 l2 l3 l4 l5 p13.1))))) else none))))))))))))
set_option maxHeartbeats 4000000 in
set_option maxRecDepth 20000 in
theorem L_X12_isSimpler_s47 {G : xG} {π : Nat → Nat} {d C Z : Nat} {Q : xQ} (σ : xM) (l0 : Nat) (l2 : Int32) (l3 : Int32) (l4 : Int32) (l5 : Int32) (l6 : Int32) (l7 : Int32) {x : ((Int32 × xM) ⊕ ((Nat × Int32 × Int32 × Int32 × Int32 × Int32 × xM) ⊕ (Nat × Int32 × Int32 × Int32 × Int32 × Int32 × Int32 × xM)))} (hf : f_X12_isSimpler_s47 (l0, l2, l3, l4, l5, l6, l7, σ) = some x) (hR : ∀ g, x = Sum.inl (g) → Q (.inl (some (.int g.1))) (g.2) π) (hE : ∀ e : (Nat × Int32 × Int32 × Int32 × Int32 × Int32 × xM), x = Sum.inr (Sum.inl e) → xMach G π J_X12_isSimpler (d + 11) C Z 98 [(0, .ref e.1), (2, .int e.2.1), (3, .int e.2.2.1), (4, .int e.2.2.2.1), (5, .int e.2.2.2.2.1), (6, .int e.2.2.2.2.2.1)] [] e.2.2.2.2.2.2 Q) (hC : ∀ e : (Nat × Int32 × Int32 × Int32 × Int32 × Int32 × Int32 × xM), x = Sum.inr (Sum.inr e) → xMach G π J_X12_isSimpler (d + 11) C Z 47 [(0, .ref e.1), (2, .int e.2.1), (3, .int e.2.2.1), (4, .int e.2.2.2.1), (5, .int e.2.2.2.2.1), (6, .int e.2.2.2.2.2.1), (7, .int e.2.2.2.2.2.2.1)] [] e.2.2.2.2.2.2.2 Q) : xMach G π J_X12_isSimpler (d + 11) C Z 47 [(0, .ref l0), (2, .int l2), (3, .int l3), (4, .int l4), (5, .int l5), (6, .int l6), (7, .int l7)] [] σ Q := by
  have hf : (if l7 = (0 : Int32) then some (Sum.inr (Sum.inl (l0, l2, l3, l4, l5, l6, σ))) else (gI σ l0 12 64).bind (fun x11 => (sI σ l0 12 67 (0 : Int32)).bind (fun σ12 => (if xk σ12 l0 12 = true then (f_X12_stepWork σ12 l0).bind (fun p13 => (if l6 = (0 : Int32) then f_X12_isSimpler_j92 p13.2 l0 l2 l3 l4 l5 p13.1 else (if p13.1 = (0 : Int32) then f_X12_isSimpler_j88 p13.2 l0 l2 l3 l4 l5 p13.1 else (gI p13.2 l0 12 64).bind (fun x14 => (if x11 ≤ x14 then f_X12_isSimpler_j92 p13.2 l0 l2 l3 l4 l5 p13.1 else f_X12_isSimpler_j88 p13.2 l0 l2 l3 l4 l5 p13.1))))) else none)))) = some x := hf
  refine xm_iload dX12_isSimpler_47 rfl ?_
  refine xb_if_eq 98 dX12_isSimpler_49 (by decide) hf (fun c hf => ?_) (fun c hf => ?_)
  · cases hf
    exact xm_sub [0, 1, 2, 3, 4, 5] rfl (hE _ rfl)
  · refine xm_aload_n dX12_isSimpler_52 rfl ?_
    refine xb_getI (a := l0) (c := 12) (k := 64) dX12_isSimpler_53 xcl12 (by decide) xw_1901 rfl hf (fun x11 ex11 hf => ?_)
    refine xm_istore dX12_isSimpler_56 (by decide) (xm_stL (L' := [(8, .int x11), (0, .ref l0), (2, .int l2), (3, .int l3), (4, .int l4), (5, .int l5), (6, .int l6), (7, .int l7)]) rfl ?_)
    refine xm_aload_n dX12_isSimpler_58 rfl ?_
    refine xm_iconst dX12_isSimpler_59 (v := 0) (by decide) ?_
    refine xb_putI (a := l0) (c := 12) (k := 67) dX12_isSimpler_60 xcl12 (by decide) xw_1904 rfl rfl hf (fun σ12 eσ12 hf => ?_)
    refine xm_aload_n dX12_isSimpler_63 rfl ?_
    refine xb_if hf (fun hb hf => ?_) (fun _ q => nomatch q)
    obtain ⟨p13, ep13, hf⟩ := xbind hf
    refine xb_callV (As := []) (v0 := (some (.int p13.1))) (τ0 := p13.2) dX12_isSimpler_64 (xc_X12_stepWork _ _) xcl12 xw_2592 xw_2594 xs_183 hb rfl (Nat.le_of_ble_eq_true rfl) rfl (Nat.le_of_ble_eq_true rfl) (fun Q1 hq => m_X12_stepWork (d := d + 4) ep13 (fun g hg => by subst hg; exact hq)) ?_
    refine xm_istore dX12_isSimpler_67 (by decide) (xm_stL (L' := [(7, .int p13.1), (8, .int x11), (0, .ref l0), (2, .int l2), (3, .int l3), (4, .int l4), (5, .int l5), (6, .int l6)]) rfl ?_)
    refine xm_iload dX12_isSimpler_69 rfl ?_
    refine xb_if_eq 92 dX12_isSimpler_71 (by decide) hf (fun c hf => ?_) (fun c hf => ?_)
    · exact xm_sub [2, 3, 4, 5, 6, 0] rfl (L_X12_isSimpler_j92 p13.2 l0 l2 l3 l4 l5 p13.1 hf hR hE hC)
    · refine xm_iload dX12_isSimpler_74 rfl ?_
      refine xb_if_eq 88 dX12_isSimpler_76 (by decide) hf (fun c hf => ?_) (fun c hf => ?_)
      · exact xm_sub [2, 3, 4, 5, 6, 0] rfl (L_X12_isSimpler_j88 p13.2 l0 l2 l3 l4 l5 p13.1 hf hR hE hC)
      · refine xm_aload_n dX12_isSimpler_79 rfl ?_
        refine xb_getI (a := l0) (c := 12) (k := 64) dX12_isSimpler_80 xcl12 (by decide) xw_1901 rfl hf (fun x14 ex14 hf => ?_)
        refine xm_iload dX12_isSimpler_83 rfl ?_
        refine xb_icmp_ge 92 dX12_isSimpler_85 (by decide) hf (fun c hf => ?_) (fun c hf => ?_)
        · exact xm_sub [2, 3, 4, 5, 6, 0] rfl (L_X12_isSimpler_j92 p13.2 l0 l2 l3 l4 l5 p13.1 hf hR hE hC)
        · exact xm_sub [2, 3, 4, 5, 6, 0] rfl (L_X12_isSimpler_j88 p13.2 l0 l2 l3 l4 l5 p13.1 hf hR hE hC)
theorem L_X12_isSimpler_l47 {G : xG} {π : Nat → Nat} {d C Z : Nat} {Q : xQ} {s0 : (Nat × Int32 × Int32 × Int32 × Int32 × Int32 × Int32 × xM)} {x : ((Int32 × xM) ⊕ (Nat × Int32 × Int32 × Int32 × Int32 × Int32 × xM))} (h1 : xloop (f_X12_isSimpler_s47) xF s0 = some x) (hR : ∀ g, x = Sum.inl g → Q (.inl (some (.int g.1))) (g.2) π) (hE : ∀ e : (Nat × Int32 × Int32 × Int32 × Int32 × Int32 × xM), x = Sum.inr e → xMach G π J_X12_isSimpler (d + 11) C Z 98 [(0, .ref e.1), (2, .int e.2.1), (3, .int e.2.2.1), (4, .int e.2.2.2.1), (5, .int e.2.2.2.2.1), (6, .int e.2.2.2.2.2.1)] [] e.2.2.2.2.2.2 Q) : xMach G π J_X12_isSimpler (d + 11) C Z 47 [(0, .ref s0.1), (2, .int s0.2.1), (3, .int s0.2.2.1), (4, .int s0.2.2.2.1), (5, .int s0.2.2.2.2.1), (6, .int s0.2.2.2.2.2.1), (7, .int s0.2.2.2.2.2.2.1)] [] s0.2.2.2.2.2.2.2 Q := by
  refine xloop_run (M := (fun s : (Nat × Int32 × Int32 × Int32 × Int32 × Int32 × Int32 × xM) => xMach G π J_X12_isSimpler (d + 11) C Z 47 [(0, .ref s.1), (2, .int s.2.1), (3, .int s.2.2.1), (4, .int s.2.2.2.1), (5, .int s.2.2.2.2.1), (6, .int s.2.2.2.2.2.1), (7, .int s.2.2.2.2.2.2.1)] [] s.2.2.2.2.2.2.2 Q)) (r := x) ?_ xF _ h1
  intro s y hs hx
  exact L_X12_isSimpler_s47 s.2.2.2.2.2.2.2 s.1 s.2.1 s.2.2.1 s.2.2.2.1 s.2.2.2.2.1 s.2.2.2.2.2.1 s.2.2.2.2.2.2.1 (x := y) hs (fun g hg => by subst hg; exact hR g hx) (fun e he => by subst he; exact hE e hx) (fun e he => by subst he; exact hx)
def f_X12_isSimpler_j159 (σ : xM) (s0 : Int32) : Option (Int32 × xM) :=
  (xz s0).bind (fun b21 => some (b21, σ))
set_option maxHeartbeats 4000000 in
set_option maxRecDepth 20000 in
theorem L_X12_isSimpler_j159 {G : xG} {π : Nat → Nat} {d C Z : Nat} {Q : xQ} (σ : xM) (s0 : Int32) {x : (Int32 × xM)} (hf : f_X12_isSimpler_j159 σ s0 = some x) (hR : ∀ g, x = g → Q (.inl (some (.int g.1))) (g.2) π) : xMach G π J_X12_isSimpler (d + 11) C Z 159 [] [.int s0] σ Q := by
  unfold f_X12_isSimpler_j159 at hf
  obtain ⟨b21, eb21, hf⟩ := xbind hf
  obtain ⟨rfl, hz⟩ := xz_of eb21
  cases hf
  exact xm_zret dX12_isSimpler_159 rfl hz (hR _ rfl)
def f_X12_isSimpler_j158 (σ : xM)  : Option (Int32 × xM) :=
  f_X12_isSimpler_j159 σ (0 : Int32)
set_option maxHeartbeats 4000000 in
set_option maxRecDepth 20000 in
theorem L_X12_isSimpler_j158 {G : xG} {π : Nat → Nat} {d C Z : Nat} {Q : xQ} (σ : xM)  {x : (Int32 × xM)} (hf : f_X12_isSimpler_j158 σ = some x) (hR : ∀ g, x = g → Q (.inl (some (.int g.1))) (g.2) π) : xMach G π J_X12_isSimpler (d + 11) C Z 158 [] [] σ Q := by
  unfold f_X12_isSimpler_j158 at hf
  refine xm_iconst dX12_isSimpler_158 (v := 0) (by decide) ?_
  exact xm_sub [] rfl (L_X12_isSimpler_j159 σ (0 : Int32) hf hR)
def f_X12_isSimpler_j154 (σ : xM)  : Option (Int32 × xM) :=
  f_X12_isSimpler_j159 σ (1 : Int32)
set_option maxHeartbeats 4000000 in
set_option maxRecDepth 20000 in
theorem L_X12_isSimpler_j154 {G : xG} {π : Nat → Nat} {d C Z : Nat} {Q : xQ} (σ : xM)  {x : (Int32 × xM)} (hf : f_X12_isSimpler_j154 σ = some x) (hR : ∀ g, x = g → Q (.inl (some (.int g.1))) (g.2) π) : xMach G π J_X12_isSimpler (d + 11) C Z 154 [] [] σ Q := by
  unfold f_X12_isSimpler_j154 at hf
  refine xm_iconst dX12_isSimpler_154 (v := 1) (by decide) ?_
  refine xm_goto 159 dX12_isSimpler_155 (by decide) ?_
  exact xm_sub [] rfl (L_X12_isSimpler_j159 σ (1 : Int32) hf hR)
def f_X12_isSimpler_j98 (σ : xM) (l0 : Nat) (l2 : Int32) (l3 : Int32) (l4 : Int32) (l5 : Int32) (l6 : Int32) : Option (Int32 × xM) :=
  (sI σ l0 12 67 l2).bind (fun σ15 => (gR σ15 l0 12 65).bind (fun x16 => (wI σ15 x16 (0 : Int32) l3).bind (fun σ17 => (gR σ17 l0 12 66).bind (fun x18 => (wI σ17 x18 (0 : Int32) l4).bind (fun σ19 => (if xk σ19 l0 12 = true then (f_X12_run σ19 l0 (13540 : Int32)).bind (fun p20 => (if l6 = (0 : Int32) then f_X12_isSimpler_j158 p20.2 else (if l5 = (0 : Int32) then (if p20.1 = (0 : Int32) then (if xk p20.2 l0 12 = true then (f_X12_compareValues p20.2 l0 (3606 : Int32) (60 : Int32)).bind (fun p22 => (if p22.1 = (0 : Int32) then f_X12_isSimpler_j154 p22.2 else f_X12_isSimpler_j158 p22.2)) else none) else f_X12_isSimpler_j154 p20.2) else f_X12_isSimpler_j154 p20.2))) else none))))))
set_option maxHeartbeats 4000000 in
set_option maxRecDepth 20000 in
theorem L_X12_isSimpler_j98 {G : xG} {π : Nat → Nat} {d C Z : Nat} {Q : xQ} (σ : xM) (l0 : Nat) (l2 : Int32) (l3 : Int32) (l4 : Int32) (l5 : Int32) (l6 : Int32) {x : (Int32 × xM)} (hf : f_X12_isSimpler_j98 σ l0 l2 l3 l4 l5 l6 = some x) (hR : ∀ g, x = g → Q (.inl (some (.int g.1))) (g.2) π) : xMach G π J_X12_isSimpler (d + 11) C Z 98 [(0, .ref l0), (2, .int l2), (3, .int l3), (4, .int l4), (5, .int l5), (6, .int l6)] [] σ Q := by
  unfold f_X12_isSimpler_j98 at hf
  refine xm_aload_n dX12_isSimpler_98 rfl ?_
  refine xm_iload_n dX12_isSimpler_99 rfl ?_
  refine xb_putI (a := l0) (c := 12) (k := 67) dX12_isSimpler_100 xcl12 (by decide) xw_1904 rfl rfl hf (fun σ15 eσ15 hf => ?_)
  refine xm_aload_n dX12_isSimpler_103 rfl ?_
  refine xb_getR (a := l0) (c := 12) (k := 65) dX12_isSimpler_104 xcl12 (by decide) xw_1902 rfl hf (fun x16 ex16 hf => ?_)
  refine xm_iconst dX12_isSimpler_107 (v := 0) (by decide) ?_
  refine xm_iload_n dX12_isSimpler_108 rfl ?_
  refine xb_iast dX12_isSimpler_109 hf (fun σ17 eσ17 hf => ?_)
  refine xm_aload_n dX12_isSimpler_110 rfl ?_
  refine xb_getR (a := l0) (c := 12) (k := 66) dX12_isSimpler_111 xcl12 (by decide) xw_1903 rfl hf (fun x18 ex18 hf => ?_)
  refine xm_iconst dX12_isSimpler_114 (v := 0) (by decide) ?_
  refine xm_iload dX12_isSimpler_115 rfl ?_
  refine xb_iast dX12_isSimpler_117 hf (fun σ19 eσ19 hf => ?_)
  refine xm_aload_n dX12_isSimpler_118 rfl ?_
  refine xm_sipush dX12_isSimpler_119 (v := 13540) (by decide) ?_
  refine xb_if hf (fun hb hf => ?_) (fun _ q => nomatch q)
  obtain ⟨p20, ep20, hf⟩ := xbind hf
  refine xb_callV (As := [.int (13540 : Int32)]) (v0 := (some (.int p20.1))) (τ0 := p20.2) dX12_isSimpler_122 (xc_X12_run _ _) xcl12 xw_2359 xw_2361 xs_134 hb rfl (Nat.le_of_ble_eq_true rfl) rfl (Nat.le_of_ble_eq_true rfl) (fun Q1 hq => m_X12_run (d := d + 0) ep20 (fun g hg => by subst hg; exact hq)) ?_
  refine xm_istore dX12_isSimpler_125 (by decide) (xm_stL (L' := [(8, .int p20.1), (0, .ref l0), (2, .int l2), (3, .int l3), (4, .int l4), (5, .int l5), (6, .int l6)]) rfl ?_)
  refine xm_iload dX12_isSimpler_127 rfl ?_
  refine xb_if_eq 158 dX12_isSimpler_129 (by decide) hf (fun c hf => ?_) (fun c hf => ?_)
  · exact xm_sub [] rfl (L_X12_isSimpler_j158 p20.2 hf hR)
  · refine xm_iload dX12_isSimpler_132 rfl ?_
    refine xb_if_ne 154 dX12_isSimpler_134 (by decide) hf (fun c hf => ?_) (fun c hf => ?_)
    · exact xm_sub [] rfl (L_X12_isSimpler_j154 p20.2 hf hR)
    · refine xm_iload dX12_isSimpler_137 rfl ?_
      refine xb_if_ne 154 dX12_isSimpler_139 (by decide) hf (fun c hf => ?_) (fun c hf => ?_)
      · exact xm_sub [] rfl (L_X12_isSimpler_j154 p20.2 hf hR)
      · refine xm_aload_n dX12_isSimpler_142 rfl ?_
        refine xm_sipush dX12_isSimpler_143 (v := 3606) (by decide) ?_
        refine xm_bipush dX12_isSimpler_146 (v := 60) (by decide) ?_
        refine xb_if hf (fun hb hf => ?_) (fun _ q => nomatch q)
        obtain ⟨p22, ep22, hf⟩ := xbind hf
        refine xb_callV (As := [.int (3606 : Int32), .int (60 : Int32)]) (v0 := (some (.int p22.1))) (τ0 := p22.2) dX12_isSimpler_148 (xc_X12_compareValues _ _) xcl12 xw_2480 xw_2482 xs_164 hb rfl (Nat.le_of_ble_eq_true rfl) rfl (Nat.le_of_ble_eq_true rfl) (fun Q1 hq => m_X12_compareValues (d := d + 7) ep22 (fun g hg => by subst hg; exact hq)) ?_
        refine xb_if_ne 158 dX12_isSimpler_151 (by decide) hf (fun c hf => ?_) (fun c hf => ?_)
        · exact xm_sub [] rfl (L_X12_isSimpler_j158 p22.2 hf hR)
        · exact xm_sub [] rfl (L_X12_isSimpler_j154 p22.2 hf hR)
def f_X12_isSimpler (σ : xM) (l0 : Nat) (l1 : Int32) : Option (Int32 × xM) :=
  (gI σ l0 12 67).bind (fun x1 => (gR σ l0 12 65).bind (fun x2 => (aI σ x2 14 (0 : Int32)).bind (fun x3 => (gR σ l0 12 66).bind (fun x4 => (aI σ x4 14 (0 : Int32)).bind (fun x5 => (if xk σ l0 12 = true then (f_X12_run σ l0 l1).bind (fun p6 => (if xk p6.2 l0 12 = true then (f_X12_copyValue p6.2 l0 (3606 : Int32) (60 : Int32)).bind (fun p7 => (if xk p7 l0 12 = true then (f_X12_takeWork p7 l0 l1).bind (fun p8 => xlet (1 : Int32) (fun v9 => xlet (1 : Int32) (fun v10 => (xloop (f_X12_isSimpler_s47 ) xF (l0, x1, x3, x5, p6.1, v9, v10, p8)).bind (Sum.elim (fun g => some g) (fun e => f_X12_isSimpler_j98 e.2.2.2.2.2.2 e.1 e.2.1 e.2.2.1 e.2.2.2.1 e.2.2.2.2.1 e.2.2.2.2.2.1))))) else none)) else none)) else none))))))
set_option maxHeartbeats 4000000 in
set_option maxRecDepth 20000 in
theorem m_X12_isSimpler {G : xG} {π : Nat → Nat} {d C Z : Nat} {Q : xQ} {σ : xM} {l0 : Nat} {l1 : Int32} {x : (Int32 × xM)} (hf : f_X12_isSimpler σ l0 l1 = some x) (hR : ∀ g, x = g → Q (.inl (some (.int g.1))) (g.2) π) : xMach G π J_X12_isSimpler (d + 11) C Z 0 (lv_args 0 [.ref l0, .int l1]) [] σ Q := by
  unfold f_X12_isSimpler at hf
  refine xm_stL (L' := [(0, .ref l0), (1, .int l1)]) rfl ?_
  refine xm_aload_n dX12_isSimpler_0 rfl ?_
  refine xb_getI (a := l0) (c := 12) (k := 67) dX12_isSimpler_1 xcl12 (by decide) xw_1904 rfl hf (fun x1 ex1 hf => ?_)
  refine xm_istore_n dX12_isSimpler_4 (by decide) (xm_stL (L' := [(2, .int x1), (0, .ref l0), (1, .int l1)]) rfl ?_)
  refine xm_aload_n dX12_isSimpler_5 rfl ?_
  refine xb_getR (a := l0) (c := 12) (k := 65) dX12_isSimpler_6 xcl12 (by decide) xw_1902 rfl hf (fun x2 ex2 hf => ?_)
  refine xm_iconst dX12_isSimpler_9 (v := 0) (by decide) ?_
  refine xb_iald dX12_isSimpler_10 hf (fun x3 ex3 hf => ?_)
  refine xm_istore_n dX12_isSimpler_11 (by decide) (xm_stL (L' := [(3, .int x3), (2, .int x1), (0, .ref l0), (1, .int l1)]) rfl ?_)
  refine xm_aload_n dX12_isSimpler_12 rfl ?_
  refine xb_getR (a := l0) (c := 12) (k := 66) dX12_isSimpler_13 xcl12 (by decide) xw_1903 rfl hf (fun x4 ex4 hf => ?_)
  refine xm_iconst dX12_isSimpler_16 (v := 0) (by decide) ?_
  refine xb_iald dX12_isSimpler_17 hf (fun x5 ex5 hf => ?_)
  refine xm_istore dX12_isSimpler_18 (by decide) (xm_stL (L' := [(4, .int x5), (3, .int x3), (2, .int x1), (0, .ref l0), (1, .int l1)]) rfl ?_)
  refine xm_aload_n dX12_isSimpler_20 rfl ?_
  refine xm_iload_n dX12_isSimpler_21 rfl ?_
  refine xb_if hf (fun hb hf => ?_) (fun _ q => nomatch q)
  obtain ⟨p6, ep6, hf⟩ := xbind hf
  refine xb_callV (As := [.int l1]) (v0 := (some (.int p6.1))) (τ0 := p6.2) dX12_isSimpler_22 (xc_X12_run _ _) xcl12 xw_2359 xw_2361 xs_134 hb rfl (Nat.le_of_ble_eq_true rfl) rfl (Nat.le_of_ble_eq_true rfl) (fun Q1 hq => m_X12_run (d := d + 0) ep6 (fun g hg => by subst hg; exact hq)) ?_
  refine xm_istore dX12_isSimpler_25 (by decide) (xm_stL (L' := [(5, .int p6.1), (4, .int x5), (3, .int x3), (2, .int x1), (0, .ref l0), (1, .int l1)]) rfl ?_)
  refine xm_aload_n dX12_isSimpler_27 rfl ?_
  refine xm_sipush dX12_isSimpler_28 (v := 3606) (by decide) ?_
  refine xm_bipush dX12_isSimpler_31 (v := 60) (by decide) ?_
  refine xb_if hf (fun hb hf => ?_) (fun _ q => nomatch q)
  obtain ⟨p7, ep7, hf⟩ := xbind hf
  refine xb_callV (As := [.int (3606 : Int32), .int (60 : Int32)]) (v0 := none) (τ0 := p7) dX12_isSimpler_33 (xc_X12_copyValue _ _) xcl12 xw_2100 xw_2102 xs_88 hb rfl (Nat.le_of_ble_eq_true rfl) rfl (Nat.le_of_ble_eq_true rfl) (fun Q1 hq => m_X12_copyValue (d := d + 10) ep7 (fun g hg => by subst hg; exact hq)) ?_
  refine xm_aload_n dX12_isSimpler_36 rfl ?_
  refine xm_iload_n dX12_isSimpler_37 rfl ?_
  refine xb_if hf (fun hb hf => ?_) (fun _ q => nomatch q)
  obtain ⟨p8, ep8, hf⟩ := xbind hf
  refine xb_callV (As := [.int l1]) (v0 := none) (τ0 := p8) dX12_isSimpler_38 (xc_X12_takeWork _ _) xcl12 xw_2588 xw_2590 xs_182 hb rfl (Nat.le_of_ble_eq_true rfl) rfl (Nat.le_of_ble_eq_true rfl) (fun Q1 hq => m_X12_takeWork (d := d + 9) ep8 (fun g hg => by subst hg; exact hq)) ?_
  refine xm_iconst dX12_isSimpler_41 (v := 1) (by decide) ?_
  refine xb_topi hf (fun v9 ev9 hf => ?_)
  refine xm_istore dX12_isSimpler_42 (by decide) (xm_stL (L' := [(6, .int v9), (5, .int p6.1), (4, .int x5), (3, .int x3), (2, .int x1), (0, .ref l0), (1, .int l1)]) rfl ?_)
  refine xm_iconst dX12_isSimpler_44 (v := 1) (by decide) ?_
  refine xb_topi hf (fun v10 ev10 hf => ?_)
  refine xm_istore dX12_isSimpler_45 (by decide) (xm_stL (L' := [(7, .int v10), (6, .int v9), (5, .int p6.1), (4, .int x5), (3, .int x3), (2, .int x1), (0, .ref l0), (1, .int l1)]) rfl ?_)
  obtain ⟨o, h1, hf⟩ := xbind hf
  refine xm_sub [6, 5, 4, 3, 2, 1, 0] rfl (L_X12_isSimpler_l47  h1 (fun g hg => ?_) (fun e he => ?_))
  · subst hg
    cases hf
    exact hR _ rfl
  · subst he
    rw [Sum.elim_inr] at hf
    have hf : f_X12_isSimpler_j98 e.2.2.2.2.2.2 e.1 e.2.1 e.2.2.1 e.2.2.2.1 e.2.2.2.2.1 e.2.2.2.2.2.1 = some _ := hf
    exact xm_sub [0, 1, 2, 3, 4, 5] rfl (L_X12_isSimpler_j98 e.2.2.2.2.2.2 e.1 e.2.1 e.2.2.1 e.2.2.2.1 e.2.2.2.2.1 e.2.2.2.2.2.1 hf hR)
-- RankwiseModel.isSlope(II)Z
def f_X12_isSlope_j22 (σ : xM)  : Option (Int32 × xM) :=
  some ((1 : Int32), σ)
set_option maxHeartbeats 4000000 in
set_option maxRecDepth 20000 in
theorem L_X12_isSlope_j22 {G : xG} {π : Nat → Nat} {d C Z : Nat} {Q : xQ} (σ : xM)  {x : (Int32 × xM)} (hf : f_X12_isSlope_j22 σ = some x) (hR : ∀ g, x = g → Q (.inl (some (.int g.1))) (g.2) π) : xMach G π J_X12_isSlope (d + 12) C Z 22 [] [] σ Q := by
  unfold f_X12_isSlope_j22 at hf
  refine xm_iconst dX12_isSlope_22 (v := 1) (by decide) ?_
  cases hf
  exact xm_zret dX12_isSlope_23 rfl rfl (hR _ rfl)
def f_X12_isSlope_j61 (σ : xM) (s0 : Int32) : Option (Int32 × xM) :=
  (xz s0).bind (fun b5 => some (b5, σ))
set_option maxHeartbeats 4000000 in
set_option maxRecDepth 20000 in
theorem L_X12_isSlope_j61 {G : xG} {π : Nat → Nat} {d C Z : Nat} {Q : xQ} (σ : xM) (s0 : Int32) {x : (Int32 × xM)} (hf : f_X12_isSlope_j61 σ s0 = some x) (hR : ∀ g, x = g → Q (.inl (some (.int g.1))) (g.2) π) : xMach G π J_X12_isSlope (d + 12) C Z 61 [] [.int s0] σ Q := by
  unfold f_X12_isSlope_j61 at hf
  obtain ⟨b5, eb5, hf⟩ := xbind hf
  obtain ⟨rfl, hz⟩ := xz_of eb5
  cases hf
  exact xm_zret dX12_isSlope_61 rfl hz (hR _ rfl)
def f_X12_isSlope_j56 (σ : xM)  : Option (Int32 × xM) :=
  f_X12_isSlope_j61 σ (1 : Int32)
set_option maxHeartbeats 4000000 in
set_option maxRecDepth 20000 in
theorem L_X12_isSlope_j56 {G : xG} {π : Nat → Nat} {d C Z : Nat} {Q : xQ} (σ : xM)  {x : (Int32 × xM)} (hf : f_X12_isSlope_j56 σ = some x) (hR : ∀ g, x = g → Q (.inl (some (.int g.1))) (g.2) π) : xMach G π J_X12_isSlope (d + 12) C Z 56 [] [] σ Q := by
  unfold f_X12_isSlope_j56 at hf
  refine xm_iconst dX12_isSlope_56 (v := 1) (by decide) ?_
  refine xm_goto 61 dX12_isSlope_57 (by decide) ?_
  exact xm_sub [] rfl (L_X12_isSlope_j61 σ (1 : Int32) hf hR)
def f_X12_isSlope (σ : xM) (l0 : Nat) (l1 : Int32) (l2 : Int32) : Option (Int32 × xM) :=
  (if xk σ l0 12 = true then (f_X12_derives σ l0 l1 l2).bind (fun p1 => (if p1.1 = (-1 : Int32) then f_X12_isSlope_j22 p1.2 else (if xk p1.2 l0 12 = true then (f_X12_run p1.2 l0 (13740 : Int32)).bind (fun p2 => (if p2.1 = (0 : Int32) then (if xk p2.2 l0 12 = true then (f_X12_copyValue p2.2 l0 (3606 : Int32) (60 : Int32)).bind (fun p3 => (if xk p3 l0 12 = true then (f_X12_slopes p3 l0 l1 l2).bind (fun p4 => (if p4.1 = (0 : Int32) then (f_X12_partAt p4.2 (0 : Int32)).bind (fun p6 => (if xk p4.2 l0 12 = true then (f_X12_compareValues p4.2 l0 (3606 : Int32) p6).bind (fun p7 => (if p7.1 = (0 : Int32) then f_X12_isSlope_j56 p7.2 else f_X12_isSlope_j61 p7.2 (0 : Int32))) else none)) else f_X12_isSlope_j56 p4.2)) else none)) else none) else f_X12_isSlope_j22 p2.2)) else none))) else none)
set_option maxHeartbeats 4000000 in
set_option maxRecDepth 20000 in
theorem m_X12_isSlope {G : xG} {π : Nat → Nat} {d C Z : Nat} {Q : xQ} {σ : xM} {l0 : Nat} {l1 : Int32} {l2 : Int32} {x : (Int32 × xM)} (hf : f_X12_isSlope σ l0 l1 l2 = some x) (hR : ∀ g, x = g → Q (.inl (some (.int g.1))) (g.2) π) : xMach G π J_X12_isSlope (d + 12) C Z 0 (lv_args 0 [.ref l0, .int l1, .int l2]) [] σ Q := by
  unfold f_X12_isSlope at hf
  refine xm_stL (L' := [(0, .ref l0), (1, .int l1), (2, .int l2)]) rfl ?_
  refine xm_aload_n dX12_isSlope_0 rfl ?_
  refine xm_iload_n dX12_isSlope_1 rfl ?_
  refine xm_iload_n dX12_isSlope_2 rfl ?_
  refine xb_if hf (fun hb hf => ?_) (fun _ q => nomatch q)
  obtain ⟨p1, ep1, hf⟩ := xbind hf
  refine xb_callV (As := [.int l1, .int l2]) (v0 := (some (.int p1.1))) (τ0 := p1.2) dX12_isSlope_3 (xc_X12_derives _ _) xcl12 xw_2718 xw_2720 xs_208 hb rfl (Nat.le_of_ble_eq_true rfl) rfl (Nat.le_of_ble_eq_true rfl) (fun Q1 hq => m_X12_derives (d := d + 7) ep1 (fun g hg => by subst hg; exact hq)) ?_
  refine xm_istore_n dX12_isSlope_6 (by decide) (xm_stL (L' := [(3, .int p1.1), (0, .ref l0), (1, .int l1), (2, .int l2)]) rfl ?_)
  refine xm_iload_n dX12_isSlope_7 rfl ?_
  refine xm_iconst dX12_isSlope_8 (v := -1) (by decide) ?_
  refine xb_icmp_eq 22 dX12_isSlope_9 (by decide) hf (fun c hf => ?_) (fun c hf => ?_)
  · exact xm_sub [] rfl (L_X12_isSlope_j22 p1.2 hf hR)
  · refine xm_aload_n dX12_isSlope_12 rfl ?_
    refine xm_sipush dX12_isSlope_13 (v := 13740) (by decide) ?_
    refine xb_if hf (fun hb hf => ?_) (fun _ q => nomatch q)
    obtain ⟨p2, ep2, hf⟩ := xbind hf
    refine xb_callV (As := [.int (13740 : Int32)]) (v0 := (some (.int p2.1))) (τ0 := p2.2) dX12_isSlope_16 (xc_X12_run _ _) xcl12 xw_2359 xw_2361 xs_134 hb rfl (Nat.le_of_ble_eq_true rfl) rfl (Nat.le_of_ble_eq_true rfl) (fun Q1 hq => m_X12_run (d := d + 1) ep2 (fun g hg => by subst hg; exact hq)) ?_
    refine xb_if_eq 24 dX12_isSlope_19 (by decide) hf (fun c hf => ?_) (fun c hf => ?_)
    · refine xm_aload_n dX12_isSlope_24 rfl ?_
      refine xm_sipush dX12_isSlope_25 (v := 3606) (by decide) ?_
      refine xm_bipush dX12_isSlope_28 (v := 60) (by decide) ?_
      refine xb_if hf (fun hb hf => ?_) (fun _ q => nomatch q)
      obtain ⟨p3, ep3, hf⟩ := xbind hf
      refine xb_callV (As := [.int (3606 : Int32), .int (60 : Int32)]) (v0 := none) (τ0 := p3) dX12_isSlope_30 (xc_X12_copyValue _ _) xcl12 xw_2100 xw_2102 xs_88 hb rfl (Nat.le_of_ble_eq_true rfl) rfl (Nat.le_of_ble_eq_true rfl) (fun Q1 hq => m_X12_copyValue (d := d + 11) ep3 (fun g hg => by subst hg; exact hq)) ?_
      refine xm_aload_n dX12_isSlope_33 rfl ?_
      refine xm_iload_n dX12_isSlope_34 rfl ?_
      refine xm_iload_n dX12_isSlope_35 rfl ?_
      refine xb_if hf (fun hb hf => ?_) (fun _ q => nomatch q)
      obtain ⟨p4, ep4, hf⟩ := xbind hf
      refine xb_callV (As := [.int l1, .int l2]) (v0 := (some (.int p4.1))) (τ0 := p4.2) dX12_isSlope_36 (xc_X12_slopes _ _) xcl12 xw_2758 xw_2760 xs_217 hb rfl (Nat.le_of_ble_eq_true rfl) rfl (Nat.le_of_ble_eq_true rfl) (fun Q1 hq => m_X12_slopes (d := d + 0) ep4 (fun g hg => by subst hg; exact hq)) ?_
      refine xb_if_ne 56 dX12_isSlope_39 (by decide) hf (fun c hf => ?_) (fun c hf => ?_)
      · exact xm_sub [] rfl (L_X12_isSlope_j56 p4.2 hf hR)
      · refine xm_aload_n dX12_isSlope_42 rfl ?_
        refine xm_sipush dX12_isSlope_43 (v := 3606) (by decide) ?_
        refine xm_iconst dX12_isSlope_46 (v := 0) (by decide) ?_
        obtain ⟨p6, ep6, hf⟩ := xbind hf
        refine xb_callS (As := [.int (0 : Int32)]) (v0 := (some (.int p6))) (τ0 := p4.2) dX12_isSlope_47 (xc_X12_partAt _ _) xw_2781 xw_2782 rfl (Nat.le_of_ble_eq_true rfl) rfl (Nat.le_of_ble_eq_true rfl) (fun Q1 hq => m_X12_partAt (d := d + 11) ep6 (fun g hg => by subst hg; exact hq)) ?_
        refine xb_if hf (fun hb hf => ?_) (fun _ q => nomatch q)
        obtain ⟨p7, ep7, hf⟩ := xbind hf
        refine xb_callV (As := [.int (3606 : Int32), .int p6]) (v0 := (some (.int p7.1))) (τ0 := p7.2) dX12_isSlope_50 (xc_X12_compareValues _ _) xcl12 xw_2480 xw_2482 xs_164 hb rfl (Nat.le_of_ble_eq_true rfl) rfl (Nat.le_of_ble_eq_true rfl) (fun Q1 hq => m_X12_compareValues (d := d + 8) ep7 (fun g hg => by subst hg; exact hq)) ?_
        refine xb_if_ne 60 dX12_isSlope_53 (by decide) hf (fun c hf => ?_) (fun c hf => ?_)
        · refine xm_iconst dX12_isSlope_60 (v := 0) (by decide) ?_
          exact xm_sub [] rfl (L_X12_isSlope_j61 p7.2 (0 : Int32) hf hR)
        · exact xm_sub [] rfl (L_X12_isSlope_j56 p7.2 hf hR)
    · exact xm_sub [] rfl (L_X12_isSlope_j22 p2.2 hf hR)
-- RankwiseModel.audit(II)Z
def f_X12_audit_j117 (σ : xM) (s0 : Int32) : Option (Int32 × xM) :=
  (xz s0).bind (fun b6 => some (b6, σ))
set_option maxHeartbeats 4000000 in
set_option maxRecDepth 20000 in
theorem L_X12_audit_j117 {G : xG} {π : Nat → Nat} {d C Z : Nat} {Q : xQ} (σ : xM) (s0 : Int32) {x : (Int32 × xM)} (hf : f_X12_audit_j117 σ s0 = some x) (hR : ∀ g, x = g → Q (.inl (some (.int g.1))) (g.2) π) : xMach G π J_X12_audit (d + 13) C Z 117 [] [.int s0] σ Q := by
  unfold f_X12_audit_j117 at hf
  obtain ⟨b6, eb6, hf⟩ := xbind hf
  obtain ⟨rfl, hz⟩ := xz_of eb6
  cases hf
  exact xm_zret dX12_audit_117 rfl hz (hR _ rfl)
def f_X12_audit_j116 (σ : xM)  : Option (Int32 × xM) :=
  f_X12_audit_j117 σ (0 : Int32)
set_option maxHeartbeats 4000000 in
set_option maxRecDepth 20000 in
theorem L_X12_audit_j116 {G : xG} {π : Nat → Nat} {d C Z : Nat} {Q : xQ} (σ : xM)  {x : (Int32 × xM)} (hf : f_X12_audit_j116 σ = some x) (hR : ∀ g, x = g → Q (.inl (some (.int g.1))) (g.2) π) : xMach G π J_X12_audit (d + 13) C Z 116 [] [] σ Q := by
  unfold f_X12_audit_j116 at hf
  refine xm_iconst dX12_audit_116 (v := 0) (by decide) ?_
  exact xm_sub [] rfl (L_X12_audit_j117 σ (0 : Int32) hf hR)
def f_X12_audit_j28 (σ : xM) (l0 : Nat) (l1 : Int32) (l2 : Int32) (s0 : Int32) (s1 : Int32) (s2 : Nat) : Option (Int32 × xM) :=
  (if xk σ s2 12 = true then (f_X12_refused σ s2 s1 s0 (0 : Int32)).bind (fun p3 => (if p3.1 = (0 : Int32) then (f_X12_shelf p3.2 l2).bind (fun p4 => (if l1 = (0 : Int32) then (if xk p3.2 l0 12 = true then (f_X12_isPrinted p3.2 l0 p4).bind (fun p9 => (xz p9.1).bind (fun b10 => some (b10, p9.2))) else none) else (if l1 = (1 : Int32) then some ((1 : Int32), p3.2) else (if l1 = (2 : Int32) then (if xk p3.2 l0 12 = true then (f_X12_isSimpler p3.2 l0 p4).bind (fun p11 => (xz p11.1).bind (fun b12 => some (b12, p11.2))) else none) else (if xk p3.2 l0 12 = true then (f_X12_isSlope p3.2 l0 p4 (120 : Int32)).bind (fun p5 => (if p5.1 = (0 : Int32) then f_X12_audit_j116 p5.2 else (if xk p5.2 l0 12 = true then (f_X12_isSlope p5.2 l0 p4 (121 : Int32)).bind (fun p7 => (if p7.1 = (0 : Int32) then f_X12_audit_j116 p7.2 else (if xk p7.2 l0 12 = true then (f_X12_isSlope p7.2 l0 p4 (122 : Int32)).bind (fun p8 => (if p8.1 = (0 : Int32) then f_X12_audit_j116 p8.2 else f_X12_audit_j117 p8.2 (1 : Int32))) else none))) else none))) else none))))) else some ((0 : Int32), p3.2))) else none)
set_option maxHeartbeats 4000000 in
set_option maxRecDepth 20000 in
theorem L_X12_audit_j28 {G : xG} {π : Nat → Nat} {d C Z : Nat} {Q : xQ} (σ : xM) (l0 : Nat) (l1 : Int32) (l2 : Int32) (s0 : Int32) (s1 : Int32) (s2 : Nat) {x : (Int32 × xM)} (hf : f_X12_audit_j28 σ l0 l1 l2 s0 s1 s2 = some x) (hR : ∀ g, x = g → Q (.inl (some (.int g.1))) (g.2) π) : xMach G π J_X12_audit (d + 13) C Z 28 [(0, .ref l0), (1, .int l1), (2, .int l2)] [.int s0, .int s1, .ref s2] σ Q := by
  unfold f_X12_audit_j28 at hf
  refine xm_iconst dX12_audit_28 (v := 0) (by decide) ?_
  refine xb_if hf (fun hb hf => ?_) (fun _ q => nomatch q)
  obtain ⟨p3, ep3, hf⟩ := xbind hf
  refine xb_callV (As := [.int s1, .int s0, .int (0 : Int32)]) (v0 := (some (.int p3.1))) (τ0 := p3.2) dX12_audit_29 (xc_X12_refused _ _) xcl12 xw_2112 xw_2114 xs_90 hb rfl (Nat.le_of_ble_eq_true rfl) rfl (Nat.le_of_ble_eq_true rfl) (fun Q1 hq => m_X12_refused (d := d + 12) ep3 (fun g hg => by subst hg; exact hq)) ?_
  refine xb_if_eq 37 dX12_audit_32 (by decide) hf (fun c hf => ?_) (fun c hf => ?_)
  · refine xm_iload_n dX12_audit_37 rfl ?_
    obtain ⟨p4, ep4, hf⟩ := xbind hf
    refine xb_callS (As := [.int l2]) (v0 := (some (.int p4))) (τ0 := p3.2) dX12_audit_38 (xc_X12_shelf _ _) xw_2214 xw_2215 rfl (Nat.le_of_ble_eq_true rfl) rfl (Nat.le_of_ble_eq_true rfl) (fun Q1 hq => m_X12_shelf (d := d + 12) ep4 (fun g hg => by subst hg; exact hq)) ?_
    refine xm_istore_n dX12_audit_41 (by decide) (xm_stL (L' := [(3, .int p4), (0, .ref l0), (1, .int l1), (2, .int l2)]) rfl ?_)
    refine xm_iload_n dX12_audit_42 rfl ?_
    refine xb_if hf (fun c hf => ?_) (fun n0 hf => ?_)
    · refine xm_tableIn 68 dX12_audit_43 (by rw [c]; decide) (by rw [c]; decide) (by rw [c]; rfl) (by decide) ?_
      refine xm_aload_n dX12_audit_68 rfl ?_
      refine xm_iload_n dX12_audit_69 rfl ?_
      refine xb_if hf (fun hb hf => ?_) (fun _ q => nomatch q)
      obtain ⟨p9, ep9, hf⟩ := xbind hf
      refine xb_callV (As := [.int p4]) (v0 := (some (.int p9.1))) (τ0 := p9.2) dX12_audit_70 (xc_X12_isPrinted _ _) xcl12 xw_2800 xw_2802 xs_224 hb rfl (Nat.le_of_ble_eq_true rfl) rfl (Nat.le_of_ble_eq_true rfl) (fun Q1 hq => m_X12_isPrinted (d := d + 4) ep9 (fun g hg => by subst hg; exact hq)) ?_
      obtain ⟨b10, eb10, hf⟩ := xbind hf
      obtain ⟨rfl, hz⟩ := xz_of eb10
      cases hf
      exact xm_zret dX12_audit_73 rfl hz (hR _ rfl)
    refine xb_if hf (fun c hf => ?_) (fun n1 hf => ?_)
    · refine xm_tableIn 74 dX12_audit_43 (by rw [c]; decide) (by rw [c]; decide) (by rw [c]; rfl) (by decide) ?_
      refine xm_iconst dX12_audit_74 (v := 1) (by decide) ?_
      cases hf
      exact xm_zret dX12_audit_75 rfl rfl (hR _ rfl)
    refine xb_if hf (fun c hf => ?_) (fun n2 hf => ?_)
    · refine xm_tableIn 76 dX12_audit_43 (by rw [c]; decide) (by rw [c]; decide) (by rw [c]; rfl) (by decide) ?_
      refine xm_aload_n dX12_audit_76 rfl ?_
      refine xm_iload_n dX12_audit_77 rfl ?_
      refine xb_if hf (fun hb hf => ?_) (fun _ q => nomatch q)
      obtain ⟨p11, ep11, hf⟩ := xbind hf
      refine xb_callV (As := [.int p4]) (v0 := (some (.int p11.1))) (τ0 := p11.2) dX12_audit_78 (xc_X12_isSimpler _ _) xcl12 xw_2804 xw_2806 xs_225 hb rfl (Nat.le_of_ble_eq_true rfl) rfl (Nat.le_of_ble_eq_true rfl) (fun Q1 hq => m_X12_isSimpler (d := d + 1) ep11 (fun g hg => by subst hg; exact hq)) ?_
      obtain ⟨b12, eb12, hf⟩ := xbind hf
      obtain ⟨rfl, hz⟩ := xz_of eb12
      cases hf
      exact xm_zret dX12_audit_81 rfl hz (hR _ rfl)
    refine xm_tableOut 82 dX12_audit_43 (by have q0 := lv_neT (a := 0) n0 (by decide); have q1 := lv_neT (a := 1) n1 (by decide); have q2 := lv_neT (a := 2) n2 (by decide); omega) (by decide) ?_
    refine xm_aload_n dX12_audit_82 rfl ?_
    refine xm_iload_n dX12_audit_83 rfl ?_
    refine xm_bipush dX12_audit_84 (v := 120) (by decide) ?_
    refine xb_if hf (fun hb hf => ?_) (fun _ q => nomatch q)
    obtain ⟨p5, ep5, hf⟩ := xbind hf
    refine xb_callV (As := [.int p4, .int (120 : Int32)]) (v0 := (some (.int p5.1))) (τ0 := p5.2) dX12_audit_86 (xc_X12_isSlope _ _) xcl12 xw_2808 xw_2810 xs_226 hb rfl (Nat.le_of_ble_eq_true rfl) rfl (Nat.le_of_ble_eq_true rfl) (fun Q1 hq => m_X12_isSlope (d := d + 0) ep5 (fun g hg => by subst hg; exact hq)) ?_
    refine xb_if_eq 116 dX12_audit_89 (by decide) hf (fun c hf => ?_) (fun c hf => ?_)
    · exact xm_sub [] rfl (L_X12_audit_j116 p5.2 hf hR)
    · refine xm_aload_n dX12_audit_92 rfl ?_
      refine xm_iload_n dX12_audit_93 rfl ?_
      refine xm_bipush dX12_audit_94 (v := 121) (by decide) ?_
      refine xb_if hf (fun hb hf => ?_) (fun _ q => nomatch q)
      obtain ⟨p7, ep7, hf⟩ := xbind hf
      refine xb_callV (As := [.int p4, .int (121 : Int32)]) (v0 := (some (.int p7.1))) (τ0 := p7.2) dX12_audit_96 (xc_X12_isSlope _ _) xcl12 xw_2808 xw_2810 xs_226 hb rfl (Nat.le_of_ble_eq_true rfl) rfl (Nat.le_of_ble_eq_true rfl) (fun Q1 hq => m_X12_isSlope (d := d + 0) ep7 (fun g hg => by subst hg; exact hq)) ?_
      refine xb_if_eq 116 dX12_audit_99 (by decide) hf (fun c hf => ?_) (fun c hf => ?_)
      · exact xm_sub [] rfl (L_X12_audit_j116 p7.2 hf hR)
      · refine xm_aload_n dX12_audit_102 rfl ?_
        refine xm_iload_n dX12_audit_103 rfl ?_
        refine xm_bipush dX12_audit_104 (v := 122) (by decide) ?_
        refine xb_if hf (fun hb hf => ?_) (fun _ q => nomatch q)
        obtain ⟨p8, ep8, hf⟩ := xbind hf
        refine xb_callV (As := [.int p4, .int (122 : Int32)]) (v0 := (some (.int p8.1))) (τ0 := p8.2) dX12_audit_106 (xc_X12_isSlope _ _) xcl12 xw_2808 xw_2810 xs_226 hb rfl (Nat.le_of_ble_eq_true rfl) rfl (Nat.le_of_ble_eq_true rfl) (fun Q1 hq => m_X12_isSlope (d := d + 0) ep8 (fun g hg => by subst hg; exact hq)) ?_
        refine xb_if_eq 116 dX12_audit_109 (by decide) hf (fun c hf => ?_) (fun c hf => ?_)
        · exact xm_sub [] rfl (L_X12_audit_j116 p8.2 hf hR)
        · refine xm_iconst dX12_audit_112 (v := 1) (by decide) ?_
          refine xm_goto 117 dX12_audit_113 (by decide) ?_
          exact xm_sub [] rfl (L_X12_audit_j117 p8.2 (1 : Int32) hf hR)
  · refine xm_iconst dX12_audit_35 (v := 0) (by decide) ?_
    cases hf
    exact xm_zret dX12_audit_36 rfl rfl (hR _ rfl)
def f_X12_audit_j15 (σ : xM) (l0 : Nat) (l1 : Int32) (l2 : Int32) (s0 : Int32) (s1 : Nat) : Option (Int32 × xM) :=
  (if xk σ l0 12 = true then (f_X12_isTree σ l0 l2).bind (fun p2 => (if p2 = (0 : Int32) then f_X12_audit_j28 σ l0 l1 l2 (1 : Int32) s0 s1 else f_X12_audit_j28 σ l0 l1 l2 (0 : Int32) s0 s1)) else none)
set_option maxHeartbeats 4000000 in
set_option maxRecDepth 20000 in
theorem L_X12_audit_j15 {G : xG} {π : Nat → Nat} {d C Z : Nat} {Q : xQ} (σ : xM) (l0 : Nat) (l1 : Int32) (l2 : Int32) (s0 : Int32) (s1 : Nat) {x : (Int32 × xM)} (hf : f_X12_audit_j15 σ l0 l1 l2 s0 s1 = some x) (hR : ∀ g, x = g → Q (.inl (some (.int g.1))) (g.2) π) : xMach G π J_X12_audit (d + 13) C Z 15 [(0, .ref l0), (1, .int l1), (2, .int l2)] [.int s0, .ref s1] σ Q := by
  unfold f_X12_audit_j15 at hf
  refine xm_aload_n dX12_audit_15 rfl ?_
  refine xm_iload_n dX12_audit_16 rfl ?_
  refine xb_if hf (fun hb hf => ?_) (fun _ q => nomatch q)
  obtain ⟨p2, ep2, hf⟩ := xbind hf
  refine xb_callV (As := [.int l2]) (v0 := (some (.int p2))) (τ0 := σ) dX12_audit_17 (xc_X12_isTree _ _) xcl12 xw_2233 xw_2235 xs_113 hb rfl (Nat.le_of_ble_eq_true rfl) rfl (Nat.le_of_ble_eq_true rfl) (fun Q1 hq => m_X12_isTree (d := d + 11) ep2 (fun g hg => by subst hg; exact hq)) ?_
  refine xb_if_ne 27 dX12_audit_20 (by decide) hf (fun c hf => ?_) (fun c hf => ?_)
  · refine xm_iconst dX12_audit_27 (v := 0) (by decide) ?_
    exact xm_sub [0, 1, 2] rfl (L_X12_audit_j28 σ l0 l1 l2 (0 : Int32) s0 s1 hf hR)
  · refine xm_iconst dX12_audit_23 (v := 1) (by decide) ?_
    refine xm_goto 28 dX12_audit_24 (by decide) ?_
    exact xm_sub [0, 1, 2] rfl (L_X12_audit_j28 σ l0 l1 l2 (1 : Int32) s0 s1 hf hR)
def f_X12_audit (σ : xM) (l0 : Nat) (l1 : Int32) (l2 : Int32) : Option (Int32 × xM) :=
  (f_X12_in σ l1 (0 : Int32) (3 : Int32)).bind (fun p1 => (if p1 = (0 : Int32) then f_X12_audit_j15 σ l0 l1 l2 (1 : Int32) l0 else f_X12_audit_j15 σ l0 l1 l2 (0 : Int32) l0))
set_option maxHeartbeats 4000000 in
set_option maxRecDepth 20000 in
theorem m_X12_audit {G : xG} {π : Nat → Nat} {d C Z : Nat} {Q : xQ} {σ : xM} {l0 : Nat} {l1 : Int32} {l2 : Int32} {x : (Int32 × xM)} (hf : f_X12_audit σ l0 l1 l2 = some x) (hR : ∀ g, x = g → Q (.inl (some (.int g.1))) (g.2) π) : xMach G π J_X12_audit (d + 13) C Z 0 (lv_args 0 [.ref l0, .int l1, .int l2]) [] σ Q := by
  unfold f_X12_audit at hf
  refine xm_stL (L' := [(0, .ref l0), (1, .int l1), (2, .int l2)]) rfl ?_
  refine xm_aload_n dX12_audit_0 rfl ?_
  refine xm_iload_n dX12_audit_1 rfl ?_
  refine xm_iconst dX12_audit_2 (v := 0) (by decide) ?_
  refine xm_iconst dX12_audit_3 (v := 3) (by decide) ?_
  obtain ⟨p1, ep1, hf⟩ := xbind hf
  refine xb_callS (As := [.int l1, .int (0 : Int32), .int (3 : Int32)]) (v0 := (some (.int p1))) (τ0 := σ) dX12_audit_4 (xc_X12_in _ _) xw_2132 xw_2133 rfl (Nat.le_of_ble_eq_true rfl) rfl (Nat.le_of_ble_eq_true rfl) (fun Q1 hq => m_X12_in (d := d + 12) ep1 (fun g hg => by subst hg; exact hq)) ?_
  refine xb_if_ne 14 dX12_audit_7 (by decide) hf (fun c hf => ?_) (fun c hf => ?_)
  · refine xm_iconst dX12_audit_14 (v := 0) (by decide) ?_
    exact xm_sub [0, 1, 2] rfl (L_X12_audit_j15 σ l0 l1 l2 (0 : Int32) l0 hf hR)
  · refine xm_iconst dX12_audit_10 (v := 1) (by decide) ?_
    refine xm_goto 15 dX12_audit_11 (by decide) ?_
    exact xm_sub [0, 1, 2] rfl (L_X12_audit_j15 σ l0 l1 l2 (1 : Int32) l0 hf hR)
