/-! calls: audit, the end -/
section OA2
variable {I : Nat → Nat → Int32} {J : Nat → Nat → Int64} {R : Nat → Nat → Option Nat} {t : GT} {s : GS} {b : GB} {n : GN} {f : GF} {v : GV} {q : Nat → GV} {p : GT} {r : GR} {h : GH} {k : Nat}
noncomputable def auT (b : GB) (n : GN) (f : GF) (s : GS) (T : Tt) (x : Nat) : Int32 := if x = 0 then auP b T else if x = 1 then 1 else if x = 2 then saT b n f s T else auD b n f s T
theorem auT_0 (b : GB) (n : GN) (f : GF) (s : GS) (T : Tt) : auT b n f s T 0 = auP b T := by
  unfold auT
  rw [if_pos rfl]
theorem auT_1 (b : GB) (n : GN) (f : GF) (s : GS) (T : Tt) : auT b n f s T 1 = 1 := by
  unfold auT
  rw [if_neg (by decide), if_pos rfl]
theorem auT_2 (b : GB) (n : GN) (f : GF) (s : GS) (T : Tt) : auT b n f s T 2 = saT b n f s T := by
  unfold auT
  rw [if_neg (by decide), if_neg (by decide), if_pos rfl]
theorem auT_3 (b : GB) (n : GN) (f : GF) (s : GS) (T : Tt) : auT b n f s T 3 = auD b n f s T := by
  unfold auT
  rw [if_neg (by decide), if_neg (by decide), if_neg (by decide)]
theorem auD_01 (b : GB) (n : GN) (f : GF) (s : GS) (T : Tt) : auD b n f s T = 0 ∨ auD b n f s T = 1 := by
  unfold auD
  split
  · exact Or.inl rfl
  · split
    · exact Or.inl rfl
    · split
      · exact Or.inl rfl
      · exact Or.inr rfl
theorem auT_01 (b : GB) (n : GN) (f : GF) (s : GS) (T : Tt) (x : Nat) : auT b n f s T x = 0 ∨ auT b n f s T x = 1 := by
  unfold auT
  split
  · exact ndB_01 _
  · split
    · exact Or.inr rfl
    · split
      · exact saT_01 b n f s T
      · exact auD_01 b n f s T
theorem C_audit (hR : RA R) (hC : InvC I t s b n f v q p r h) (hE : EnvOK b n f s) (hO : TbOK b) (hk : k < s.1) (hT : TtO b (shT s k)) {x : Nat} (hx : x ≤ 3) : QK (f_X11_audit (mg 4625 I J R) 0 (Int32.ofNat (x)) (Int32.ofNat (k))) (AudC J I (auT b n f s (shT s k) x)) := by
  rcases (by omega : x = 0 ∨ x = 1 ∨ x = 2 ∨ x = 3) with rfl | rfl | rfl | rfl
  · have e0 : (Int32.ofNat (0)) = (0 : Int32) := rfl
    rw [e0, auT_0]
    exact C_audit0 hR hC hO hk hT
  · have e0 : (Int32.ofNat (1)) = (1 : Int32) := rfl
    rw [e0, auT_1]
    exact C_audit1 hR hC hE hk hT
  · have e0 : (Int32.ofNat (2)) = (2 : Int32) := rfl
    rw [e0, auT_2]
    exact C_audit2 hR hC hE hk hT
  · have e0 : (Int32.ofNat (3)) = (3 : Int32) := rfl
    rw [e0, auT_3]
    exact C_audit3 hR hC hE hk hT
theorem M_audit (hR : RA R) (hM : InvM I t s b n f v q p r h) (hC : CSh I s) (hE : EnvOK b n f s) (hO : TbOK b) (hk : k < s.1) (hT : TtO b (shT s k)) {x : Nat} (hx : x ≤ 3) : QK (f_X12_audit (mg 4625 I J R) 4561 (Int32.ofNat (x)) (Int32.ofNat (k))) (Aum J R (thI I 0) (auT b n f s (shT s k) x)) := by
  have h30 := hC.1
  have hM0 : InvM (thI I 0) t s b n f v q p r h := InvM_keep hM hC.1 (CSh_80 hC) (fun a j hd => thI_n (by unfold DM at hd; omega))
  have hC0 : CSh (thI I 0) s := CSh_keep hC (fun a ha => funext (fun j => thI_n (by omega)))
  unfold f_X12_audit f_X12_audit_j15 f_X12_audit_j28
  have e3 : (Int32.ofNat (x)) ≤ (3 : Int32) := (i32_le (m := 3) (by omega) (by omega)).mpr hx
  rw [m_in1 (i32_0le (by omega)) e3, Option.bind_some, if_neg (by decide), if_pos ok_4561, M_isTree1 hM.2.1 h30 hk, if_neg (by decide), if_pos ok_4561, m_refO, M_shelf]
  rcases (by omega : x = 0 ∨ x = 1 ∨ x = 2 ∨ x = 3) with rfl | rfl | rfl | rfl
  · rw [if_pos (show (Int32.ofNat (0)) = (0 : Int32) from rfl), if_pos ok_4561, auT_0]
    refine q_bind (M_isPrinted hR hM0 (CSh_80 hC) h30 hO hk hT) ?_
    rintro _ ⟨I1, f1, rfl⟩
    have z := auT_01 b n f s (shT s k) 0
    rw [auT_0] at z
    generalize auP b (shT s k) = o at *
    rcases z with z | z
    · rw [z, q_xz0]
      exact q_ok ⟨I1, f1, rfl⟩
    · rw [z, q_xz1]
      exact q_ok ⟨I1, f1, rfl⟩
  · rw [if_neg (show ¬ (Int32.ofNat (1)) = (0 : Int32) by decide), if_pos (show (Int32.ofNat (1)) = (1 : Int32) from rfl), auT_1]
    exact q_ok ⟨_, FrK_rfl, rfl⟩
  · rw [if_neg (show ¬ (Int32.ofNat (2)) = (0 : Int32) by decide), if_neg (show ¬ (Int32.ofNat (2)) = (1 : Int32) by decide), if_pos (show (Int32.ofNat (2)) = (2 : Int32) from rfl), if_pos ok_4561, auT_2]
    refine q_bind (M_isSimpler hR hM0 hC0 hE hk hT) ?_
    rintro _ ⟨I1, f1, rfl⟩
    have z := saT_01 b n f s (shT s k)
    generalize saT b n f s (shT s k) = o at *
    rcases z with z | z
    · rw [z, q_xz0]
      exact q_ok ⟨I1, f1, rfl⟩
    · rw [z, q_xz1]
      exact q_ok ⟨I1, f1, rfl⟩
  · rw [if_neg (show ¬ (Int32.ofNat (3)) = (0 : Int32) by decide), if_neg (show ¬ (Int32.ofNat (3)) = (1 : Int32) by decide), if_neg (show ¬ (Int32.ofNat (3)) = (2 : Int32) by decide), if_pos ok_4561, auT_3]
    unfold auD
    have no : ∀ I1, FrK Fam (thI I 0) I1 → QK (f_X12_audit_j116 (mg 4625 I1 J R)) (Aum J R (thI I 0) 0) := fun I1 f1 => by
      unfold f_X12_audit_j116 f_X12_audit_j117
      rw [q_xz0]
      exact q_ok ⟨I1, f1, rfl⟩
    refine q_bind (M_isSlope (nm := 120) hR hM0 hC0 hE hk hT (by decide)) ?_
    rintro _ ⟨I1, f1, rfl⟩
    dsimp only
    by_cases z1 : daT b n f s (shT s k) 120 = 0
    · rw [if_pos z1, if_pos z1]
      exact no I1 f1
    rw [if_neg z1, if_neg z1, if_pos ok_4561]
    refine q_bind (M_isSlope (nm := 121) hR (InvM_am hM0 (CSh_am hC0 f1) f1) (CSh_am hC0 f1) hE hk hT (by decide)) ?_
    rintro _ ⟨I2, f2, rfl⟩
    have f2 := FrK_tr f1 f2
    dsimp only
    by_cases z2 : daT b n f s (shT s k) 121 = 0
    · rw [if_pos z2, if_pos z2]
      exact no I2 f2
    rw [if_neg z2, if_neg z2, if_pos ok_4561]
    refine q_bind (M_isSlope (nm := 122) hR (InvM_am hM0 (CSh_am hC0 f2) f2) (CSh_am hC0 f2) hE hk hT (by decide)) ?_
    rintro _ ⟨I3, f3, rfl⟩
    have f3 := FrK_tr f2 f3
    dsimp only
    by_cases z3 : daT b n f s (shT s k) 122 = 0
    · rw [if_pos z3, if_pos z3]
      exact no I3 f3
    rw [if_neg z3, if_neg z3]
    unfold f_X12_audit_j117
    rw [q_xz1]
    exact q_ok ⟨I3, f3, rfl⟩
theorem l_audit {w x y : Int32} {I1 : Nat → Nat → Int32} {R1 : Nat → Nat → Option Nat} (hw : w = 0 ∨ w = 1) (h : f_X11_audit (mg 4625 I J R) 0 x y = some (.inl w, mg 4625 I1 J R1)) : f_L_audit (mg 4625 I J R) 0 x y 4624 = some (0, mg 4625 I1 (oJ J (if w = 0 then 0 else 1)) R1) := by
  unfold f_L_audit f_L_audit_j16
  rw [if_pos ok_0, h, Option.bind_some, q_let, Sum.elim_inl]
  rcases hw with rfl | rfl
  · rw [if_pos rfl, if_pos rfl]
    exact xb_eq owJ0 rfl
  · rw [if_neg (by decide), if_neg (by decide)]
    exact xb_eq owJ0 rfl
theorem o_audit (hR : RA R) (H : Inv I) : op_audit Pinv (mg 4625 I J R) := by
  obtain ⟨t, s, b, n, f, v, q, p, r, h, hC, hM, hO⟩ := H
  intro x y
  have h30 := hC.2.1.1
  have hE := env_of hC hM hO
  by_cases hx : (0 : Int32) ≤ x ∧ x ≤ (3 : Int32)
  rotate_left
  · have e3 : f_L_audit (mg 4625 I J R) 0 x y 4624 = some (1, mg 4625 I J R) := by
      unfold f_L_audit f_X11_audit f_X11_audit_j9
      rw [if_pos ok_0]
      by_cases z : x < 0
      · rw [if_pos z, Option.bind_some, q_let, Sum.elim_inr, if_pos rfl]
      · rw [if_neg z, if_neg (fun w => hx ⟨Int32.not_lt.mp z, w⟩), Option.bind_some, q_let, Sum.elim_inr, if_pos rfl]
    have e2 : f_X12_audit (mg 4625 I J R) 4561 x y = some (0, mg 4625 (thI I 1) J R) := by
      unfold f_X12_audit f_X12_audit_j15 f_X12_audit_j28
      rw [m_in0 hx, Option.bind_some, if_pos rfl, if_pos ok_4561]
      rcases i32_two s.1 (by omega) y with ⟨k, hk, rfl⟩ | hy
      · rw [M_isTree1 hM.2.1 h30 hk, if_neg (by decide), if_pos ok_4561, m_refX]
      · rw [M_isTree0 hM.2.1 h30 hy, if_pos rfl, if_pos ok_4561, m_refX]
    exact op_exB e3 e2 thI_0 (by decide) (Pinv_th hR hC hM hO (fun x _ => rfl))
  rcases i32_two s.1 (by omega) y with ⟨k, hk, rfl⟩ | hy
  rotate_left
  · have e3 : f_L_audit (mg 4625 I J R) 0 x y 4624 = some (2, mg 4625 I J R) := by
      unfold f_L_audit f_X11_audit
      rw [if_pos ok_0, if_neg (Int32.not_lt.mpr hx.1), if_pos hx.2, if_pos ok_0, C_treeAt0 hR hC.2.1 hy, Sum.elim_inr, Option.bind_some, q_let, Sum.elim_inr, if_neg (by decide), if_pos rfl]
    have e2 : f_X12_audit (mg 4625 I J R) 4561 x y = some (0, mg 4625 (thI I 2) J R) := by
      unfold f_X12_audit f_X12_audit_j15 f_X12_audit_j28
      rw [m_in1 hx.1 hx.2, Option.bind_some, if_neg (by decide), if_pos ok_4561, M_isTree0 hM.2.1 h30 hy, if_pos rfl, if_pos ok_4561, m_refY]
    exact op_exB e3 e2 thI_0 (by decide) (Pinv_th hR hC hM hO (fun x _ => rfl))
  obtain ⟨j, h2, rfl⟩ := rng_dom (m := 3) (by decide) hx.1 hx.2
  have hT : TtO b (shT s k) := tro_of hC hO hk
  obtain ⟨yc, e1, I2, R2, r2, f2, rfl⟩ := C_audit (J := J) hR hC hE hE.1 hk hT h2
  have C2 := InvC_au hC f2
  have hM2 : InvM I2 t s b n f v q p r h := InvM_C hM hC.2.1 (fun x k hx _ => f2 x k (by unfold Fau; omega))
  obtain ⟨yr, e2, I3, f3, rfl⟩ := M_audit (J := oJ J (if auT b n f s (shT s k) j = 0 then 0 else 1)) r2 hM2 C2.2.1 hE hE.1 hk hT h2
  have hM0 : InvM (thI I2 0) t s b n f v q p r h := InvM_keep hM2 C2.2.1.1 (CSh_80 C2.2.1) (fun a j hd => thI_n (by unfold DM at hd; omega))
  have hC0 : CSh (thI I2 0) s := CSh_keep C2.2.1 (fun a ha => funext (fun j => thI_n (by omega)))
  have hM3 := InvM_am hM0 (CSh_am hC0 f3) f3
  refine op_okB (l_audit (auT_01 b n f s (shT s k) j) e1) e2 ?_ (Pinv_mk r2 (InvC_M C2 (fun a x ha => ?_)) hM3 hO)
  · rw [f3 4561 0 (by unfold Fam; omega)]
    exact thI_0
  · rw [f3 a x (by unfold Fam; omega)]
    exact thI_n (by omega)
end OA2
