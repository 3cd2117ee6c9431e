/-! calls: audit -/
noncomputable def auP (b : GB) (T : Tt) : Int32 := ndB (∃ k, k < (spl T.2.1 T.2.2 200 0 S0).1.length ∧ badM b (wF (spl T.2.1 T.2.2 200 0 S0).1) (spl T.2.1 T.2.2 200 0 S0).2 (hidT b T.1 T.2.1 T.2.2) (spl T.2.1 T.2.2 200 0 S0).1.length T.1 T.2.1 T.2.2 k)
theorem ndB_01 (p : Prop) : ndB p = 0 ∨ ndB p = 1 := by
  by_cases z : p
  · exact Or.inl (ndB_t z)
  · exact Or.inr (ndB_f z)
theorem eqV_01 (v w : GV) : eqV v w = 0 ∨ eqV v w = 1 := by
  unfold eqV
  split
  · exact Or.inr rfl
  · exact Or.inl rfl
theorem saT_01 (b : GB) (n : GN) (f : GF) (s : GS) (T : Tt) : saT b n f s T = 0 ∨ saT b n f s T = 1 := by
  unfold saT
  split
  · exact Or.inr rfl
  · split
    · exact Or.inr rfl
    · exact eqV_01 _ _
noncomputable def auD (b : GB) (n : GN) (f : GF) (s : GS) (T : Tt) : Int32 := if daT b n f s T 120 = 0 then 0 else if daT b n f s T 121 = 0 then 0 else if daT b n f s T 122 = 0 then 0 else 1
section OAU
variable {I : Nat → Nat → Int32} {J : Nat → Nat → Int64} {R : Nat → Nat → Option Nat} {t : GT} {s : GS} {b : GB} {n : GN} {f : GF} {v : GV} {q : Nat → GV} {p : GT} {r : GR} {h : GH} {k : Nat}
def AudC (J : Nat → Nat → Int64) (I : Nat → Nat → Int32) (o : Int32) (y : (Int32 ⊕ String) × xM) : Prop := ∃ I' R', RA R' ∧ FrK Fau I I' ∧ y = (.inl o, mg (4562 + zn J) I' J R')
theorem tx_len {b : GB} {n : Nat} {nd : Nat → Nd} {sp : Nat → Nat} (h : WT n (aro nd) sp) (h80 : n ≤ 80) (hn : ∀ i, i < n → NV b (nd i)) : (prtT b n nd sp).length < 1000 := by
  obtain ⟨p1, p2, p3⟩ := spl_pairs h hn (f := 200) (by omega)
  have tl := tlW_len (spl nd sp 200 0 S0).1
  have := wdT_len (wF (spl nd sp 200 0 S0).1) (hidT b n nd sp) (spl nd sp 200 0 S0).1.length
  show (wdT _ _ _).length < 1000
  omega
theorem C_audit0 (hR : RA R) (hC : InvC I t s b n f v q p r h) (hO : TbOK b) (hk : k < s.1) (hT : TtO b (shT s k)) : QK (f_X11_audit (mg (4562 + zn J) I J R) 0 0 (Int32.ofNat (k))) (AudC J I (auP b (shT s k))) := by
  have h30 := hC.2.1.1
  have ct := hC.2.1.2.2 k hk
  have n80 := (CT_n ct).2
  have nv : ∀ i, i < s.2.1 k → NV b (s.2.2.1 k i) := fun i hi => hT.2 i hi
  have hP : isP 563 566 := Or.inr ⟨rfl, rfl⟩
  have tl := tx_len ct.2.1 n80 nv
  obtain ⟨a1, a2, a3, a4, a5, a6, a7, a8, a9, a10⟩ := prt_facts hO ct.2.1 n80 nv rfl rfl rfl
  have kF : ∀ x j, (540 ≤ x ∧ x ≤ 558) ∨ x = 563 ∨ x = 566 → Fau x j := fun x j y => by unfold Fau DC; omega
  have e9 : auP b (shT s k) = ndB (∃ j, j < (lstW (wF (spl (s.2.2.1 k) (s.2.2.2 k) 200 0 S0).1) (hidT b (s.2.1 k) (s.2.2.1 k) (s.2.2.2 k)) (spl (s.2.2.1 k) (s.2.2.2 k) 200 0 S0).1.length).length ∧ badC b (wF (lstW (wF (spl (s.2.2.1 k) (s.2.2.2 k) 200 0 S0).1) (hidT b (s.2.1 k) (s.2.2.1 k) (s.2.2.2 k)) (spl (s.2.2.1 k) (s.2.2.2 k) 200 0 S0).1.length)) (lstW (wF (spl (s.2.2.1 k) (s.2.2.2 k) 200 0 S0).1) (hidT b (s.2.1 k) (s.2.2.1 k) (s.2.2.2 k)) (spl (s.2.2.1 k) (s.2.2.2 k) 200 0 S0).1.length).length (s.2.1 k) (s.2.2.1 k) (s.2.2.2 k) j) := (ndB_c a9).symm
  rw [e9]
  clear a1 a2 a9 e9
  unfold f_X11_audit
  rw [if_neg (by first | decide | omega), if_pos (by first | decide | omega), if_pos ok_0, C_treeAt1 hR hC.2.1 hk, Sum.elim_inl, if_pos rfl, gr_0_5 hR, if_pos (ok_P hP)]
  refine q_bind (C_fewest hR hP hC.2.2.1 hO ct (by omega) nv) ?_
  rintro _ ⟨I2, rfl, f2, W2, X2⟩
  have m300 := W2.1
  have f2 : FrK Fau I I2 := FrK_mono f2 (fun x j y => kF x j (by unfold Ffw at y; omega))
  have C2 := InvC_au hC f2
  rw [gr_0_3 hR, gr_0_5 hR, gr_P2 hR hP, gr_0_5 hR, gi_P hP, X2.1, if_pos ok_540]
  clear W2
  refine q_bind (C_split (A := 566) (len := 1000) (c := tF (prtT b (s.2.1 k) (s.2.2.1 k) (s.2.2.2 k))) hR C2.2.2.1 ⟨by decide, rfl⟩ (Or.inr (by first | decide | omega)) (by first | decide | omega) (fun j hj => ⟨X2.2.2 j hj, a4 j hj⟩) X2.2.1 (by rw [a3]; omega)) ?_
  rintro _ ⟨I3, rfl, f3, h6, W3⟩
  rw [a3] at W3
  generalize lstW (wF (spl (s.2.2.1 k) (s.2.2.2 k) 200 0 S0).1) (hidT b (s.2.1 k) (s.2.2.1 k) (s.2.2.2 k)) (spl (s.2.2.1 k) (s.2.2.2 k) 200 0 S0).1.length = l at *
  have W3 : CWd I3 l.length (wF l) (pF l) (fun _ => false) := W3
  have f3 : FrK Fau I I3 := FrK_tr f2 (FrK_mono f3 (fun x j y => kF x j (by unfold Swd at y; omega)))
  have C3 := InvC_au hC f3
  rw [gr_0_3 hR, if_pos ok_540]
  refine q_bind (C_stacksGive (len := (prtT b (s.2.1 k) (s.2.2.1 k) (s.2.2.2 k)).length) hR C3.2.2.1 hO W3 h6 tl a7 (C3.2.1.2.2 k hk) (Or.inl (by omega))) ?_
  rintro _ ⟨I4, hr, g4⟩
  have f4 : FrK Fau I I4 := FrK_tr f3 (FrK_mono g4 (fun x j y => kF x j (by unfold SRd at y; omega)))
  have C4 := InvC_au hC f4
  have W4 : CWd I4 l.length (wF l) (pF l) (fun _ => false) := CWd_keep W3 (fun x j y => g4 x j (by unfold SRd; omega))
  rcases hr with ⟨-, rfl⟩ | ⟨gd, -⟩
  rotate_left
  · exact absurd a5 gd
  rw [if_neg p10]
  dsimp only
  rw [gr_0_3 hR, if_pos ok_540]
  refine q_bind (C_climbingGives hR C4.2.2.1 hO W4 a7 (C4.2.1.2.2 k hk) (Or.inl (by omega)) a5 a6) ?_
  rintro _ ⟨I5, rfl, g5⟩
  have f5 : FrK Fau I I5 := FrK_tr f4 (FrK_mono g5 (fun x j y => kF x j (by unfold Fcl at y; omega)))
  have C5 := InvC_au hC f5
  have W5 : CWd I5 l.length (wF l) (pF l) (fun _ => false) := CWd_keep W4 (fun x j y => g5 x j (by unfold Fcl; omega))
  rw [if_neg p10]
  dsimp only
  rw [gr_0_3 hR, if_pos ok_540]
  refine q_bind (C_needsAll (len := (prtT b (s.2.1 k) (s.2.2.1 k) (s.2.2.2 k)).length) hR C5.2.2.1 hO W5 (by rw [g5 _ _ (by unfold Fcl; omega), g4 _ _ (by unfold SRd; omega)]; exact h6) tl a7 (C5.2.1.2.2 k hk) (Or.inl (by omega)) a8) ?_
  rintro _ ⟨I6, rfl, g6⟩
  have f6 : FrK Fau I I6 := FrK_tr f5 (FrK_mono g6 (fun x j y => kF x j (by unfold Fdb at y; omega)))
  dsimp only
  rcases ndB_01 (∃ j, j < l.length ∧ badC b (wF l) l.length (s.2.1 k) (s.2.2.1 k) (s.2.2.2 k) j) with z | z
  · rw [z, if_pos rfl]
    unfold f_X11_audit_j118 f_X11_audit_j119
    rw [q_xz0]
    exact q_ok ⟨I6, R, hR, f6, rfl⟩
  · rw [z, if_neg (by first | decide | omega)]
    unfold f_X11_audit_j119
    rw [q_xz1]
    exact q_ok ⟨I6, R, hR, f6, rfl⟩
theorem C_audit1 (hR : RA R) (hC : InvC I t s b n f v q p r h) (hE : EnvOK b n f s) (hk : k < s.1) (hT : TtO b (shT s k)) : QK (f_X11_audit (mg (4562 + zn J) I J R) 0 1 (Int32.ofNat (k))) (AudC J I 1) := by
  unfold f_X11_audit
  rw [if_neg (by first | decide | omega), if_pos (by first | decide | omega), if_pos ok_0, C_treeAt1 hR hC.2.1 hk, Sum.elim_inl, if_neg (by first | decide | omega), if_pos rfl, if_pos ok_0]
  refine q_bind (C_postfixAgrees hR hC hE hk hT) ?_
  rintro _ ⟨I1, R1, r1, f1, rfl⟩
  rw [q_xz1]
  exact q_ok ⟨I1, R1, r1, f1, rfl⟩
theorem C_audit2 (hR : RA R) (hC : InvC I t s b n f v q p r h) (hE : EnvOK b n f s) (hk : k < s.1) (hT : TtO b (shT s k)) : QK (f_X11_audit (mg (4562 + zn J) I J R) 0 2 (Int32.ofNat (k))) (AudC J I (saT b n f s (shT s k))) := by
  unfold f_X11_audit
  rw [if_neg (by first | decide | omega), if_pos (by first | decide | omega), if_pos ok_0, C_treeAt1 hR hC.2.1 hk, Sum.elim_inl, if_neg (by first | decide | omega), if_neg (by first | decide | omega), if_pos rfl, if_pos ok_0]
  refine q_bind (C_simplifiesWell hR hC hE hk hT) ?_
  rintro _ ⟨I1, R1, r1, f1, rfl⟩
  rcases saT_01 b n f s (shT s k) with z | z
  · rw [z, q_xz0]
    exact q_ok ⟨I1, R1, r1, f1, rfl⟩
  · rw [z, q_xz1]
    exact q_ok ⟨I1, R1, r1, f1, rfl⟩
theorem C_audit3 (hR : RA R) (hC : InvC I t s b n f v q p r h) (hE : EnvOK b n f s) (hk : k < s.1) (hT : TtO b (shT s k)) : QK (f_X11_audit (mg (4562 + zn J) I J R) 0 3 (Int32.ofNat (k))) (AudC J I (auD b n f s (shT s k))) := by
  unfold f_X11_audit auD
  rw [if_neg (by first | decide | omega), if_pos (by first | decide | omega), if_pos ok_0, C_treeAt1 hR hC.2.1 hk, Sum.elim_inl, if_neg (by first | decide | omega), if_neg (by first | decide | omega), if_neg (by first | decide | omega), if_pos ok_0]
  have no : ∀ I1 R1, RA R1 → FrK Fau I I1 → QK (f_X11_audit_j166 (mg (4562 + zn J) I1 J R1)) (AudC J I 0) := fun I1 R1 r1 f1 => by
    unfold f_X11_audit_j166 f_X11_audit_j167
    rw [q_xz0]
    exact q_ok ⟨I1, R1, r1, f1, rfl⟩
  refine q_bind (C_derivesWell (nm := 120) hR hC hE hk hT (by first | decide | omega)) ?_
  rintro _ ⟨I1, R1, r1, f1, rfl⟩
  dsimp only
  by_cases z1 : daT b n f s (shT s k) 120 = 0
  · rw [if_pos z1, if_pos z1]
    exact no I1 R1 r1 f1
  rw [if_neg z1, if_neg z1, if_pos ok_0]
  refine q_bind (C_derivesWell (nm := 121) r1 (InvC_au hC f1) hE hk hT (by first | decide | omega)) ?_
  rintro _ ⟨I2, R2, r2, f2, rfl⟩
  have f2 := FrK_tr f1 f2
  dsimp only
  by_cases z2 : daT b n f s (shT s k) 121 = 0
  · rw [if_pos z2, if_pos z2]
    exact no I2 R2 r2 f2
  rw [if_neg z2, if_neg z2, if_pos ok_0]
  refine q_bind (C_derivesWell (nm := 122) r2 (InvC_au hC f2) hE hk hT (by first | decide | omega)) ?_
  rintro _ ⟨I3, R3, r3, f3, rfl⟩
  have f3 := FrK_tr f2 f3
  dsimp only
  by_cases z3 : daT b n f s (shT s k) 122 = 0
  · rw [if_pos z3, if_pos z3]
    exact no I3 R3 r3 f3
  rw [if_neg z3, if_neg z3]
  unfold f_X11_audit_j167
  rw [q_xz1]
  exact q_ok ⟨I3, R3, r3, f3, rfl⟩
end OAU
