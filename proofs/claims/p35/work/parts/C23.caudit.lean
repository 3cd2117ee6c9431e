/-! audit, the class's side: parts 1, 2 and 3 -/
def Fau : Nat → Nat → Prop := fun x _ => ¬ DC x ∧ x < 4561
def eqV (v w : GV) : Int32 := if v = w then 1 else 0
/-- part 2 -/
def saT (b : GB) (n : GN) (f : GF) (s : GS) (T : Tt) : Int32 := match evT b n f s T.2.1 T.2.2 with
  | .inl _ => 1
  | .inr (v, _) => match evT b n f s (stN b 80 T).2.2.1 (stN b 80 T).2.2.2 with
    | .inl _ => 1
    | .inr (w, _) => eqV v w
/-- part 3, by a name -/
noncomputable def daT (b : GB) (n : GN) (f : GF) (s : GS) (T : Tt) (nm : Nat) : Int32 := @ite _ (∀ i, i < T.1 → told b T i) (Classical.propDecidable _) (match dvF b T nm 200 0 with
  | none => 1
  | some A => match evT b n f s (nlN A) (spL A) with
    | .inl _ => 1
    | .inr (v, _) => match slF b n nm T 100 0 with
      | .inl _ => 1
      | .inr (_, w) => eqV v w) 1
section CAU
variable {I I' : Nat → Nat → Int32} {t : GT} {s : GS} {b : GB} {n : GN} {f : GF} {v : GV} {q : Nat → GV} {p : GT} {r : GR} {h : GH}
theorem Fm_au (hF : FrK (Fm 0 0 0) I I') : FrK Fau I I' := FrK_mono hF (fun x k y => by unfold Fm at y; unfold Fau DC; omega)
theorem InvC_au (H : InvC I t s b n f v q p r h) (hF : FrK Fau I I') : InvC I' t s b n f v q p r h := InvC_keep H (fun x hx => funext (fun k => hF x k (fun y => y.1 hx)))
theorem FrS_au {P : Nat → Prop} (hF : FrS P I I') (hP : ∀ x, P x → ¬ DC x ∧ x < 4561) : FrK Fau I I' := fun x k y => by rw [hF x (fun z => y (hP x z))]
end CAU
section CAV
variable {I : Nat → Nat → Int32} {J : Nat → Nat → Int64} {R : Nat → Nat → Option Nat} {t : GT} {s : GS} {b : GB} {n : GN} {f : GF} {v : GV} {q : Nat → GV} {p : GT} {r : GR} {h : GH} {γ : Type} {a : Nat} {T : Tt}
theorem C_rt0 {G : Int32 × xM → Option γ} {Q : γ → Prop} (hR : RA R) (hE : CEnv I b n f s) (hA : CT I a T.1 T.2.1 T.2.2) (ha : a + 8 ≤ 540 ∨ 1784 ≤ a) (hT : TtO b T) (hn : T.1 ≤ 80) (hG : ∀ I1 R1, RA R1 → FrK (Fm 0 0 0) I I1 → (∀ e, evT b n f s T.2.1 T.2.2 = .inl e → 1 ≤ e → e ≤ 10 → QK (G ((Int32.ofNat (e)), mg (4562 + zn J) I1 J R1)) Q) ∧ ∀ v c, evT b n f s T.2.1 T.2.2 = .inr (v, c) → CV I1 584 v → Gd v → QK (G (0, mg (4562 + zn J) I1 J R1)) Q) : QK (if xk (mg (4562 + zn J) I J R) 567 4 = true then (f_X4_startTree (mg (4562 + zn J) I J R) 567 a).bind (fun p3 => (gR p3 0 11 6).bind (fun x4 => (if xk p3 x4 4 = true then (f_X4_work p3 x4).bind G else none))) else none) Q := by
  have ro := evT_RO hE.2.2.2.2 hT hn
  rw [if_pos ok_567]
  refine q_bind (C_reckonTree hR hE hA ha hT hn) ?_
  rintro _ ⟨I1, R1, rfl, hR1, f1, hw⟩
  rw [gr_0_6 hR1, if_pos ok_567]
  refine q_bind hw ?_
  rintro y ⟨I2, R2, hR2, f2, hy⟩
  obtain ⟨g1, g2⟩ := hG I2 R2 hR2 (FrK_tr f1 f2)
  cases e : evT b n f s T.2.1 T.2.2 with
  | inl e1 =>
    rw [e] at hy ro
    have hy : y = ((Int32.ofNat (e1)), mg (4562 + zn J) I2 J R2) := hy
    have ro : 1 ≤ e1 ∧ e1 ≤ 10 := ro
    rw [hy]
    exact g1 e1 e ro.1 ro.2
  | inr z =>
    obtain ⟨w, c⟩ := z
    rw [e] at hy ro
    have hy : y = (0, mg (4562 + zn J) I2 J R2) ∧ CV I2 584 w := hy
    rw [hy.1]
    exact g2 w c e hy.2 ro.2.2
theorem C_rt {G : Int32 × xM → Option γ} {Q : γ → Prop} (hR : RA R) (hE : CEnv I b n f s) (hA : CT I a T.1 T.2.1 T.2.2) (ha : a + 8 ≤ 540 ∨ 1784 ≤ a) (hT : TtO b T) (hn : T.1 ≤ 80) (hG : ∀ I1 R1, RA R1 → FrK (Fm 0 0 0) I I1 → (∀ e, evT b n f s T.2.1 T.2.2 = .inl e → 1 ≤ e → e ≤ 10 → QK (G ((Int32.ofNat (e)), mg (4562 + zn J) I1 J R1)) Q) ∧ ∀ v c, evT b n f s T.2.1 T.2.2 = .inr (v, c) → CV I1 584 v → Gd v → QK (G (0, mg (4562 + zn J) I1 J R1)) Q) : QK ((gR (mg (4562 + zn J) I J R) 0 11 6).bind (fun x2 => (if xk (mg (4562 + zn J) I J R) x2 4 = true then (f_X4_startTree (mg (4562 + zn J) I J R) x2 a).bind (fun p3 => (gR p3 0 11 6).bind (fun x4 => (if xk p3 x4 4 = true then (f_X4_work p3 x4).bind G else none))) else none))) Q := by
  rw [gr_0_6 hR]
  exact C_rt0 hR hE hA ha hT hn hG
theorem C_rl {G : Int32 × xM → Option γ} {Q : γ → Prop} (hR : RA R) (hE : CEnv I b n f s) (hA : CT I a T.1 T.2.1 T.2.2) (ha : a + 8 ≤ 540 ∨ 1784 ≤ a) (hT : TtO b T) (hn : T.1 ≤ 80) (hlz : ∀ i, i < T.1 → bkN (T.2.1 i) = 0) (hG : ∀ I1 R1, RA R1 → FrK (Fm 0 0 0) I I1 → (∀ e, evT b n f s T.2.1 T.2.2 = .inl e → 1 ≤ e → e ≤ 10 → QK (G ((Int32.ofNat (e)), mg (4562 + zn J) I1 J R1)) Q) ∧ ∀ v c, evT b n f s T.2.1 T.2.2 = .inr (v, c) → CV I1 584 v → Gd v → QK (G (0, mg (4562 + zn J) I1 J R1)) Q) : QK ((gR (mg (4562 + zn J) I J R) 0 11 6).bind (fun x2 => (if xk (mg (4562 + zn J) I J R) x2 4 = true then (f_X4_startLine (mg (4562 + zn J) I J R) x2 a).bind (fun p3 => (gR p3 0 11 6).bind (fun x4 => (if xk p3 x4 4 = true then (f_X4_work p3 x4).bind G else none))) else none))) Q := by
  have ro := evT_RO hE.2.2.2.2 hT hn
  rw [gr_0_6 hR, if_pos ok_567]
  refine q_bind (C_reckonLine hR hE hA ha hT hn hlz) ?_
  rintro _ ⟨I1, R1, rfl, hR1, f1, hw⟩
  rw [gr_0_6 hR1, if_pos ok_567]
  refine q_bind hw ?_
  rintro y ⟨I2, R2, hR2, f2, hy⟩
  obtain ⟨g1, g2⟩ := hG I2 R2 hR2 (FrK_tr f1 f2)
  cases e : evT b n f s T.2.1 T.2.2 with
  | inl e1 =>
    rw [e] at hy ro
    have hy : y = ((Int32.ofNat (e1)), mg (4562 + zn J) I2 J R2) := hy
    have ro : 1 ≤ e1 ∧ e1 ≤ 10 := ro
    rw [hy]
    exact g1 e1 e ro.1 ro.2
  | inr z =>
    obtain ⟨w, c⟩ := z
    rw [e] at hy ro
    have hy : y = (0, mg (4562 + zn J) I2 J R2) ∧ CV I2 584 w := hy
    rw [hy.1]
    exact g2 w c e hy.2 ro.2.2
/-- what an audit of the class leaves -/
def Aud (J : Nat → Nat → Int64) (I : Nat → Nat → Int32) (o : Int32) (y : Int32 × xM) : Prop := ∃ I' R', RA R' ∧ FrK Fau I I' ∧ y = (o, mg (4562 + zn J) I' J R')
theorem au_4546 {I' : Nat → Nat → Int32} (hF : FrS (Sf 4546) I I') : FrK Fau I I' := FrS_au hF (fun x y => by unfold Sf at y; unfold DC; omega)
theorem C_same {w v : GV} {G : Int32 → Option γ} (hR : RA R) (h1 : CV I 584 w) (h2 : CV I 4546 v) : (f_X2_sameAs (mg (4562 + zn J) I J R) 584 4546).bind G = G (eqV v w) := by
  rw [F_sameAs hR h1 h2, Option.bind_some]
  congr 1
  unfold eqV
  by_cases z : v = w
  · subst z
    rw [if_pos ⟨rfl, rfl⟩, if_pos rfl]
  · rw [if_neg z, if_neg (fun y => z (Prod.ext y.1.symm (by have := y.2; omega)))]
theorem C_same2 {w v : GV} {G : Int32 → Option γ} (hR : RA R) (h1 : CV I 1806 w) (h2 : CV I 4546 v) : (f_X2_sameAs (mg (4562 + zn J) I J R) 1806 4546).bind G = G (eqV v w) := by
  rw [F_sameAs hR h1 h2, Option.bind_some]
  congr 1
  unfold eqV
  by_cases z : v = w
  · subst z
    rw [if_pos ⟨rfl, rfl⟩, if_pos rfl]
  · rw [if_neg z, if_neg (fun y => z (Prod.ext y.1.symm (by have := y.2; omega)))]
theorem dv_TtO {nm : Nat} {A : NL} (hO : TbOK b) (hT : TtO b T) (h80 : T.1 ≤ 80) (ht : ∀ i, i < T.1 → told b T i) (eA : dvF b T nm 200 0 = some A) : TtO b (A.length, nlN A, spL A) := by
  obtain ⟨⟨g1, g2⟩, g3⟩ := dvF_ok hO hT h80 ht 200 0 A hT.1.1 eA
  refine ⟨spL_WT g1, fun i hi => ?_⟩
  have hi : i < A.length := hi
  show NV b (nlN A i)
  unfold nlN
  rw [List.getD_eq_getElem?_getD, List.getElem?_eq_getElem hi]
  exact g2 _ (List.getElem_mem hi)
theorem C_postfixAgrees {k : Nat} (hR : RA R) (hC : InvC I t s b n f v q p r h) (hE : EnvOK b n f s) (hk : k < s.1) (hT : TtO b (shT s k)) : QK (f_X11_postfixAgrees (mg (4562 + zn J) I J R) 0 (70 + 8 * k)) (Aud J I 1) := by
  have c1 := hC.2.1.2.2 k hk
  have n1 := CT_n c1
  have h30 := hC.2.1.1
  unfold f_X11_postfixAgrees
  rw [if_pos (bT_xk c1.1.1)]
  refine q_bind (T_hasLazy hR c1.1) ?_
  rintro u hu
  by_cases zz : ∃ i, i < s.2.1 k ∧ lazyNd (s.2.2.1 k i)
  · obtain rfl := (hu.resolve_right (fun y => y.2 zz)).1
    rw [if_neg (by first | decide | omega)]
    exact q_ok ⟨I, R, hR, FrK_rfl, rfl⟩
  obtain rfl := (hu.resolve_left (fun y => zz y.2)).1
  have hlz : ∀ i, i < (shT s k).1 → bkN ((shT s k).2.1 i) = 0 := fun i hi => (lazy_bk (hT.2 i hi)).resolve_left (fun y => zz ⟨i, hi, y⟩)
  rw [if_pos rfl]
  refine C_rt (T := shT s k) hR (CEnv_of hC hE) c1 (by omega) hT n1.2 (fun I1 R1 hR1 f1 => ⟨fun e he e1 e2 => ?_, fun w c he hV gw => ?_⟩)
  · have hC1 := InvC_au hC (Fm_au f1)
    rw [if_neg (show ¬ (Int32.ofNat (e)) = (0 : Int32) from i32_ne (b := 0) (by omega) (by omega) (by omega))]
    unfold f_X11_postfixAgrees_j43
    refine C_rl (T := shT s k) hR1 (CEnv_of hC1 hE) (hC1.2.1.2.2 k hk) (by omega) hT n1.2 hlz (fun I2 R2 hR2 f2 => ⟨fun e' he' _ _ => ?_, fun w c he' _ _ => ?_⟩)
    · rw [he] at he'
      have : e' = e := (Sum.inl.inj he').symm
      subst this
      dsimp only
      rw [if_pos rfl, if_neg (show ¬ (Int32.ofNat (e')) = (0 : Int32) from i32_ne (b := 0) (by omega) (by omega) (by omega))]
      unfold f_X11_postfixAgrees_j83 f_X11_postfixAgrees_j88
      exact q_ok ⟨I2, R2, hR2, FrK_tr (Fm_au f1) (Fm_au f2), rfl⟩
    · rw [he] at he'
      cases he'
  · have hC1 := InvC_au hC (Fm_au f1)
    rw [if_pos rfl, gr_0_11 hR1, gr_0_6 hR1, if_pos ok_567, C_result hR1, if_pos (bF_xk isF_4546)]
    refine q_bind (F_copy hR1 isF_4546 hV (g7 gw).1 (g7 gw).2 (by omega)) ?_
    rintro _ ⟨I2, rfl, f2, V2⟩
    have hC2 := InvC_au hC1 (au_4546 f2)
    unfold f_X11_postfixAgrees_j43
    refine C_rl (T := shT s k) hR1 (CEnv_of hC2 hE) (hC2.2.1.2.2 k hk) (by omega) hT n1.2 hlz (fun I3 R3 hR3 f3 => ⟨fun e' he' _ _ => ?_, fun w' c' he' hV' _ => ?_⟩)
    · rw [he] at he'
      cases he'
    · rw [he] at he'
      have : w' = w := (Prod.mk.inj (Sum.inr.inj he')).1.symm
      subst this
      have V3 : CV I3 4546 w' := FU_keep V2 (fun x g1 g2 => funext (fun j => f3 x j (by unfold Fm; omega)))
      dsimp only
      rw [if_pos rfl, if_pos rfl, gr_0_6 hR3, if_pos ok_567, C_result hR3, gr_0_11 hR3, if_pos (bF_xk hV'.1), C_same hR3 hV' V3, show eqV w' w' = 1 from if_pos rfl, if_neg (by first | decide | omega)]
      unfold f_X11_postfixAgrees_j83 f_X11_postfixAgrees_j88
      exact q_ok ⟨I3, R3, hR3, FrK_tr (FrK_tr (Fm_au f1) (au_4546 f2)) (Fm_au f3), rfl⟩
def Fsp : Nat → Nat → Prop := fun x k => St 4551 x ∨ (x = 2206 ∧ k = 1)
theorem Fsp_au {I' : Nat → Nat → Int32} (hF : FrK Fsp I I') : FrK Fau I I' := FrK_mono hF (fun x k y => by unfold Fsp St at y; unfold Fau DC; omega)
/-- the class's steps, to their end -/
theorem C_simplerLoop {l2 : Int32} (hR : RA R) (hO : TbOK b) (hB : CTb I b) (hA : CT I 4551 T.1 T.2.1 T.2.2) (hT : TtO b T) (h80 : T.1 ≤ 80) : QK (xloop f_X11_simplifiesWell_s47 xF (0, l2, 1, 0, mg (4562 + zn J) I J R)) (fun x => ∃ I', x = .inr (.inr (0, l2, mg (4562 + zn J) I' J R)) ∧ FrK Fsp I I' ∧ CT I' 4551 (stN b 80 T).2.1 (stN b 80 T).2.2.1 (stN b 80 T).2.2.2) := by
  refine q_for 80 (fun i s => ∃ I' T' m, s = (0, l2, m, (Int32.ofNat (i)), mg (4562 + zn J) I' J R) ∧ FrK Fsp I I' ∧ CT I' 4551 T'.1 T'.2.1 T'.2.2 ∧ TtO b T' ∧ T'.1 ≤ 80 ∧ ((m = (1 : Int32) ∧ T'.1 + i ≤ 80 ∧ (stN b (80 - i) T').2 = (stN b 80 T).2) ∨ (m = 0 ∧ T' = (stN b 80 T).2))) ?_ ?_ (i := 0) ⟨I, T, 1, rfl, FrK_rfl, hA, hT, h80, Or.inl ⟨rfl, by omega, rfl⟩⟩ (by omega) (by unfold xF; omega)
  · rintro i s hi ⟨I1, T1, m, rfl, f1, A1, hT1, t80, ⟨rfl, c1, e1⟩ | ⟨rfl, e1⟩⟩
    · have B1 : CTb I1 b := CTb_keep hB (fun x g => funext (fun j => f1 x j (by unfold Fsp St; omega)))
      unfold f_X11_simplifiesWell_s47
      dsimp only
      rw [q_let, q_let, q_let, q_let, q_let, if_neg (show ¬ (80 : Int32) ≤ (Int32.ofNat (i)) from fun y => absurd ((i32_le (k := 80) (by omega) (by omega)).mp y) (by omega)), if_neg (by first | decide | omega), gr_0_12 hR, bT_gI isTr_4551, gr_0_8 hR, gr_0_12 hR, if_pos ok_2206, show I1 4551 7 = (Int32.ofNat (T1.1)) from A1.1.2.1]
      refine q_bind (C_applyRule hR B1 hO A1 hT1 (by omega)) ?_
      intro r hr
      obtain ⟨z, hz⟩ : ∃ z, 80 - i = z + 1 := ⟨79 - i, by omega⟩
      cases e : stw b T1 with
      | none =>
        rw [e] at hr
        have hr : r = (0, mg (4562 + zn J) I1 J R) := hr
        rw [hr, if_pos rfl]
        unfold f_X11_simplifiesWell_j86 f_X11_simplifiesWell_j105
        rw [if_pos rfl, q_let, show (Int32.ofNat (i)) + (1 : Int32) = (Int32.ofNat (i + 1)) from n_add i 1]
        rw [stN_none e] at e1
        exact q_go ⟨I1, T1, 0, rfl, f1, A1, hT1, t80, Or.inr ⟨rfl, e1⟩⟩
      | some w =>
        obtain ⟨kk, j, T2⟩ := w
        rw [e] at hr
        obtain ⟨I2, rfl, f2, A2, -⟩ := hr
        obtain ⟨g1, g2, g3, g4, -⟩ := stw_O hT1 hO t80 e
        have f12 : FrK Fsp I I2 := FrK_tr f1 (fun x k y => f2 x k (fun w => y (Or.inl w)) (fun w => y (Or.inr w)))
        rw [if_neg (show ¬ (Int32.ofNat (kk)) = (0 : Int32) from i32_ne (b := 0) (by omega) (by omega) (by omega))]
        unfold f_X11_simplifiesWell_j86 f_X11_simplifiesWell_j105
        rw [if_neg (by first | decide | omega), gr_0_12 hR, bT_gI isTr_4551, show I2 4551 7 = (Int32.ofNat (T2.1)) from A2.1.2.1, if_pos ((i32_lt (by omega) (by omega)).mpr g2), q_let, show (Int32.ofNat (i)) + (1 : Int32) = (Int32.ofNat (i + 1)) from n_add i 1]
        rw [hz, stN_some e] at e1
        exact q_go ⟨I2, T2, 1, rfl, f12, A2, g1, by omega, Or.inl ⟨rfl, by omega, by rw [show 80 - (i + 1) = z by omega]; exact e1⟩⟩
    · unfold f_X11_simplifiesWell_s47
      dsimp only
      rw [q_let, q_let, q_let, q_let, q_let, if_neg (show ¬ (80 : Int32) ≤ (Int32.ofNat (i)) from fun y => absurd ((i32_le (k := 80) (by omega) (by omega)).mp y) (by omega)), if_pos rfl]
      exact q_ex ⟨I1, rfl, f1, by rw [← e1]; exact A1⟩
  · rintro s ⟨I1, T1, m, rfl, f1, A1, hT1, t80, hm⟩
    have e1 : T1 = (stN b 80 T).2 := by
      rcases hm with ⟨-, c1, -⟩ | ⟨-, e1⟩
      · have := hT1.1.1
        omega
      · exact e1
    unfold f_X11_simplifiesWell_s47
    dsimp only
    rw [q_let, q_let, q_let, q_let, q_let, if_pos (by first | decide | omega)]
    exact q_ex ⟨I1, rfl, f1, by rw [← e1]; exact A1⟩
theorem C_simplifiesWell {k : Nat} (hR : RA R) (hC : InvC I t s b n f v q p r h) (hE : EnvOK b n f s) (hk : k < s.1) (hT : TtO b (shT s k)) : QK (f_X11_simplifiesWell (mg (4562 + zn J) I J R) 0 (70 + 8 * k)) (Aud J I (saT b n f s (shT s k))) := by
  have c1 := hC.2.1.2.2 k hk
  have n1 := CT_n c1
  have h30 := hC.2.1.1
  have hO : TbOK b := hE.1
  obtain ⟨o1, o2, -⟩ := stN_O hO 80 (shT s k) hT n1.2
  have s80 : (shT s k).1 ≤ 80 := n1.2
  -- from the copy on
  have tail : ∀ (R1 : Nat → Nat → Option Nat) (I1 : Nat → Nat → Int32) (l2 : Int32), RA R1 → FrK Fau I I1 → (∀ I2, FrK Fau I I2 → FrK Fsp I1 I2 → CT I2 4551 (stN b 80 (shT s k)).2.1 (stN b 80 (shT s k)).2.2.1 (stN b 80 (shT s k)).2.2.2 → QK (f_X11_simplifiesWell_j111 (mg (4562 + zn J) I2 J R1) 0 l2) (Aud J I (saT b n f s (shT s k)))) → QK (f_X11_simplifiesWell_j34 (mg (4562 + zn J) I1 J R1) 0 (70 + 8 * k) l2) (Aud J I (saT b n f s (shT s k))) := by
    intro R1 I1 l2 hR1 f1 hj
    have hC1 := InvC_au hC f1
    unfold f_X11_simplifiesWell_j34
    rw [gr_0_12 hR1, if_pos (bT_xk isTr_4551)]
    refine q_bind (T_copy hR1 isTr_4551 (hC1.2.1.2.2 k hk) (by omega)) ?_
    rintro _ ⟨I2, rfl, f2, A2⟩
    rw [q_let, q_let]
    have f2' : FrK Fsp I1 I2 := fun x j y => by rw [f2 x (fun z => y (Or.inl z))]
    have hC2 := InvC_au hC1 (Fsp_au f2')
    refine q_bind (C_simplerLoop (T := shT s k) hR1 hO hC2.2.2.1 A2 hT s80) ?_
    rintro _ ⟨I3, rfl, f3, A3⟩
    simp only [Sum.elim_inr]
    exact hj I3 (FrK_tr f1 (FrK_tr (Fsp_au f2') (Fsp_au f3))) (FrK_tr f2' f3) A3
  unfold f_X11_simplifiesWell
  refine C_rt (T := shT s k) hR (CEnv_of hC hE) c1 (by omega) hT n1.2 (fun I1 R1 hR1 f1 => ⟨fun e he e1 e2 => ?_, fun w c he hV gw => ?_⟩)
  · rw [if_neg (show ¬ (Int32.ofNat (e)) = (0 : Int32) from i32_ne (b := 0) (by omega) (by omega) (by omega))]
    refine tail R1 I1 _ hR1 (Fm_au f1) (fun I2 f2 _ A2 => ?_)
    unfold f_X11_simplifiesWell_j111
    dsimp only
    rw [if_neg (show ¬ (Int32.ofNat (e)) = (0 : Int32) from i32_ne (b := 0) (by omega) (by omega) (by omega))]
    have es : saT b n f s (shT s k) = 1 := by
      unfold saT
      rw [he]
    rw [es]
    exact q_ok ⟨I2, R1, hR1, f2, rfl⟩
  · rw [if_pos rfl, gr_0_11 hR1, gr_0_6 hR1, if_pos ok_567, C_result hR1, if_pos (bF_xk isF_4546)]
    refine q_bind (F_copy hR1 isF_4546 hV (g7 gw).1 (g7 gw).2 (by omega)) ?_
    rintro _ ⟨I2, rfl, f2, V2⟩
    refine tail R1 I2 _ hR1 (FrK_tr (Fm_au f1) (au_4546 f2)) (fun I3 f3 f23 A3 => ?_)
    have V3 : CV I3 4546 w := FU_keep V2 (fun x g1 g2 => funext (fun j => f23 x j (by unfold Fsp St; omega)))
    have hC3 := InvC_au hC f3
    unfold f_X11_simplifiesWell_j111
    dsimp only
    rw [if_pos rfl, gr_0_6 hR1, gr_0_12 hR1]
    refine C_rt0 (T := (stN b 80 (shT s k)).2) (J := J) (a := 4551) hR1 (CEnv_of hC3 hE) A3 (by omega) o1 (by omega) (fun I4 R4 hR4 f4 => ⟨fun e' he' e1 e2 => ?_, fun w' c' he' hV' _ => ?_⟩)
    · dsimp only
      rw [if_neg (show ¬ (Int32.ofNat (e')) = (0 : Int32) from i32_ne (b := 0) (by omega) (by omega) (by omega))]
      unfold f_X11_simplifiesWell_j155 f_X11_simplifiesWell_j160
      have es : saT b n f s (shT s k) = 1 := by
        unfold saT
        rw [he]
        dsimp only
        rw [he']
      rw [es]
      exact q_ok ⟨I4, R4, hR4, FrK_tr f3 (Fm_au f4), rfl⟩
    · have V4 : CV I4 4546 w := FU_keep V3 (fun x g1 g2 => funext (fun j => f4 x j (by unfold Fm; omega)))
      have es : saT b n f s (shT s k) = eqV w w' := by
        unfold saT
        rw [he]
        dsimp only
        rw [he']
      dsimp only
      rw [if_pos rfl, gr_0_6 hR4, if_pos ok_567, C_result hR4, gr_0_11 hR4, if_pos (bF_xk hV'.1), C_same hR4 hV' V4, es]
      unfold f_X11_simplifiesWell_j155 f_X11_simplifiesWell_j160
      have f34 : FrK Fau I I4 := FrK_tr f3 (Fm_au f4)
      by_cases z : w = w'
      · rw [show eqV w w' = 1 from if_pos z, if_neg (by first | decide | omega)]
        exact q_ok ⟨I4, R4, hR4, f34, rfl⟩
      · rw [show eqV w w' = 0 from if_neg z, if_pos rfl]
        exact q_ok ⟨I4, R4, hR4, f34, rfl⟩
theorem C_derivesWell {k nm : Nat} (hR : RA R) (hC : InvC I t s b n f v q p r h) (hE : EnvOK b n f s) (hk : k < s.1) (hT : TtO b (shT s k)) (hnm : nm < 123) : QK (f_X11_derivesWell (mg (4562 + zn J) I J R) 0 (70 + 8 * k) (Int32.ofNat (nm))) (Aud J I (daT b n f s (shT s k) nm)) := by
  have c1 := hC.2.1.2.2 k hk
  have n1 := CT_n c1
  have s80 : (shT s k).1 ≤ 80 := n1.2
  have h30 := hC.2.1.1
  have hO : TbOK b := hE.1
  have hg : ∀ l, l < 26 → Gd (n.2 l) := hE.2.2.2.1
  have f2207 : ∀ {I0 I' : Nat → Nat → Int32}, FrS (St 2207) I0 I' → FrK Fau I0 I' := fun hF => FrS_au hF (fun x y => by unfold St at y; unfold DC; omega)
  unfold f_X11_derivesWell
  rw [gr_0_8 hR, if_pos ok_2206]
  refine q_bind (C_differentiate (T := shT s k) hR hC.2.2.1 hO c1 hT (by omega) (by omega)) ?_
  rintro y ⟨I1, f1, ⟨ht, A, eA, rfl, A1⟩ | ⟨nt, rfl⟩⟩
  rotate_left
  · have es : daT b n f s (shT s k) nm = 1 := by
      unfold daT
      by_cases ht : ∀ i, i < (shT s k).1 → told b (shT s k) i
      · rw [@if_pos _ (Classical.propDecidable _) ht]
        cases e : dvF b (shT s k) nm 200 0 with
        | none => rfl
        | some A => exact absurd ⟨ht, A, e⟩ nt
      · rw [@if_neg _ (Classical.propDecidable _) ht]
    rw [if_pos rfl, es]
    exact q_ok ⟨I1, R, hR, f2207 f1, rfl⟩
  have A80 : A.length ≤ 80 := dvF_len eA
  have hTA : TtO b (A.length, nlN A, spL A) := dv_TtO hO hT s80 ht eA
  have ds : daT b n f s (shT s k) nm = (match evT b n f s (nlN A) (spL A) with
    | .inl _ => 1
    | .inr (v, _) => match slF b n nm (shT s k) 100 0 with
      | .inl _ => 1
      | .inr (_, w) => eqV v w) := by
    unfold daT
    rw [@if_pos _ (Classical.propDecidable _) ht, eA]
  have hC1 := InvC_au hC (f2207 f1)
  rw [if_neg (show ¬ ((1 : Int32), mg (4562 + zn J) I1 J R).1 = 0 from fun y => absurd (show (1 : Int32) = 0 from y) (by first | decide | omega))]
  dsimp only
  rw [gr_0_6 hR, gr_0_8 hR, gr_2206_2 hR]
  refine C_rt0 (T := (A.length, nlN A, spL A)) (J := J) (a := 2207) hR (CEnv_of hC1 hE) A1 (by omega) hTA A80 (fun I2 R2 hR2 f2 => ⟨fun e he e1 e2 => ?_, fun w c he hV gw => ?_⟩)
  · dsimp only
    rw [if_neg (show ¬ (Int32.ofNat (e)) = (0 : Int32) from i32_ne (b := 0) (by omega) (by omega) (by omega))]
    have he : evT b n f s (nlN A) (spL A) = .inl e := he
    rw [ds, he]
    exact q_ok ⟨I2, R2, hR2, FrK_tr (f2207 f1) (Fm_au f2), rfl⟩
  · have he : evT b n f s (nlN A) (spL A) = .inr (w, c) := he
    rw [ds, he]
    dsimp only
    have f12 : FrK Fau I I2 := FrK_tr (f2207 f1) (Fm_au f2)
    rw [if_pos rfl, gr_0_11 hR2, gr_0_6 hR2, if_pos ok_567, C_result hR2, if_pos (bF_xk isF_4546)]
    refine q_bind (F_copy hR2 isF_4546 hV (g7 gw).1 (g7 gw).2 (by omega)) ?_
    rintro _ ⟨I3, rfl, f3, V3⟩
    have f13 : FrK Fau I I3 := FrK_tr f12 (au_4546 f3)
    have hC3 := InvC_au hC f13
    rw [gr_0_7 hR2, if_pos ok_1784]
    refine q_bind (C_reckonPart (T := shT s k) (nm := nm) hR2 hO hg (by omega) hT n1.2 ht (by omega) hC3.2.2.1 hC3.2.2.2.1 (hC3.2.1.2.2 k hk)) ?_
    rintro y ⟨I4, f4, hy⟩
    have f14 : FrK Fau I I4 := FrK_tr f13 (FrK_mono f4 (fun x j y => by unfold Fcs Fm at y; unfold Fau DC; omega))
    unfold f_X11_derivesWell_j83 f_X11_derivesWell_j88
    rcases hy with ⟨v0, w2, e2, rfl, V4⟩ | ⟨er, e2, q1, q2, rfl⟩
    · rw [e2]
      dsimp only
      have V5 : CV I4 4546 w := FU_keep V3 (fun x g1 g2 => funext (fun j => f4 x j (by unfold Fcs Fm; omega)))
      rw [if_pos rfl, gr_0_7 hR2, if_pos ok_1784, C_result8 hR2, gr_0_11 hR2, if_pos (bF_xk V4.1), C_same2 hR2 V4 V5]
      by_cases z : w = w2
      · rw [show eqV w w2 = 1 from if_pos z, if_neg (by first | decide | omega)]
        exact q_ok ⟨I4, R2, hR2, f14, rfl⟩
      · rw [show eqV w w2 = 0 from if_neg z, if_pos rfl]
        exact q_ok ⟨I4, R2, hR2, f14, rfl⟩
    · rw [e2]
      dsimp only
      rw [if_neg (show ¬ (Int32.ofNat (er)) = (0 : Int32) from i32_ne (b := 0) (by omega) (by omega) (by omega))]
      exact q_ok ⟨I4, R2, hR2, f14, rfl⟩
end CAV
