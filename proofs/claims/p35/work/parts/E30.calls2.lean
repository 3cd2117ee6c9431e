/-! more of the class's calls alone, with what they answer -/
def evE (r' : Rs) : Int32 := match r' with
  | .inl e => (Int32.ofNat (e))
  | .inr _ => 0
def evV (r' : Rs) (v : GV) : GV := match r' with
  | .inl _ => v
  | .inr (w, _) => w
section KD
variable {I : Nat → Nat → Int32} {J : Nat → Nat → Int64} {R : Nat → Nat → Option Nat} {t : GT} {s : GS} {b : GB} {n : GN} {f : GF} {v : GV} {q : Nat → GV} {p : GT} {r : GR} {h : GH} {β : Type}
/-- what was typed, read as words -/
abbrev tyW (c : Nat → Nat) (m : Nat) : List Wp := lexS c m m 0 []
theorem k_fault {c : Nat → Nat} (hR : RA R) (hC : InvC I t s b n f v q p r h) (hT : TbOK b) (hc : ∀ k, k < t.1 → I 10 k = (Int32.ofNat (c k)) ∧ c k < 65536 ∧ t.2 k = (Int32.ofNat (c k))) : ∃ I', f_X11_fault (mg (4562 + zn J) I  J R) 0 = some (resC (pF (tyW c t.1)) t.1 (run b (visl (tyW c t.1)) st0), (mg (4562 + zn J) I'  J R)) ∧ InvC I' t s b n f v q p r h ∧ KpT I I' := by
  obtain ⟨I1, I2, e1, e2, g2, -⟩ := C_typed (J := J) hR hC hT hc
  refine ⟨I2, ?_, InvC_rd hC (fun x hx _ => g2 x hx), fun a k ha => by rw [g2 a (by omega)]⟩
  unfold f_X11_fault
  rw [gr_0_3 hR, gr_0_0 hR, gi_0, hC.1.2.1, if_pos ok_540, e1, Option.bind_some, gr_0_3 hR, if_pos ok_540, e2]
  rfl
theorem k_read {c : Nat → Nat} {ln : List Ln} (hR : RA R) (hC : InvC I t s b n f v q p r h) (hO : OKH s b f h) (hc : ∀ k, k < t.1 → I 10 k = (Int32.ofNat (c k)) ∧ c k < 65536 ∧ t.2 k = (Int32.ofNat (c k))) (z : s.1 < 30) (hln : acc (run b (visl (tyW c t.1)) st0) = some ln) : ∃ I' nd sp, f_X11_read (mg (4562 + zn J) I  J R) 0 = some (.inl (Int32.ofNat (s.1)), (mg (4562 + zn J) I'  J R)) ∧ InvC I' (0, t.2) (sPush s ln.length nd sp) b n f v q p r (hShelf h) ∧ OKH (sPush s ln.length nd sp) b f (hShelf h) ∧ KpT I I' ∧ WT ln.length (aro nd) sp ∧ (∀ x, x < ln.length → lnF ln (pl sp x) = nd x) ∧ ln.length ≤ 80 := by
  have hT := (OKH_top hO).1
  obtain ⟨I1, I2, e1, e2, g2, gA⟩ := C_typed (J := J) hR hC hT hc
  have c60 := hC.1.1
  have len := lexS_len (c := c) (n := t.1) t.1 0 [] (Nat.zero_le _)
  rw [show ([] : List Wp).length = 0 from rfl, Nat.zero_add, Nat.sub_zero] at len
  have hW : CWl I1 (tyW c t.1) := by
    obtain ⟨_, e1', I1', rfl, -, -, hW1⟩ := C_split (J := J) (A := 10) (len := 60) (n := t.1) (c := c) hR hC.2.2.1 ⟨by decide, rfl⟩ (Or.inl (by decide)) (by decide) (fun k hk => ⟨(hc k hk).1, (hc k hk).2.1⟩) c60 (by omega)
    rw [e1] at e1'
    have : I1' = I1 := by
      have := Option.some.inj e1'
      exact (congrArg (fun σ : xM => σ.2.2.1) this).symm
    rw [this] at hW1
    exact hW1
  have wok : ∀ w, w ∈ visl (tyW c t.1) → WOK w.2 := fun w hw => by
    have wm := vis_mem _ _ _ hw
    rw [wm.2.2]
    exact (hW.2.2 w.1 (by omega)).2.2.2.2.1
  have n8 : nws (visl (tyW c t.1)) ≤ 80 := by
    have a1 := nws_len (visl (tyW c t.1))
    have a2 := vis_len (W := wF (tyW c t.1)) (g := fun _ => false) (tyW c t.1).length 0
    have : (visl (tyW c t.1)).length ≤ (tyW c t.1).length := a2
    have len : (tyW c t.1).length ≤ t.1 := len
    omega
  have hC2 : InvC I2 t s b n f v q p r h := InvC_rd hC (fun x hx _ => g2 x hx)
  have ok : (acc (run b (visl (tyW c t.1)) st0)).isSome = true := by rw [hln]; rfl
  obtain ⟨nd, sp, hw, hx, h80⟩ := acc_tree wok n8 hln
  have key : QK (f_X11_read (mg (4562 + zn J) I  J R) 0) (fun x => ∃ I4, x = (.inl (Int32.ofNat (s.1)), (mg (4562 + zn J) I4  J R)) ∧ InvC I4 (0, t.2) (sPush s ln.length nd sp) b n f v q p r (hShelf h) ∧ ∀ x, 4561 ≤ x → I4 x = I2 x) := by
    unfold f_X11_read
    rw [gr_0_3 hR, gr_0_0 hR, gi_0, hC.1.2.1, if_pos ok_540, e1, Option.bind_some, gr_0_3 hR, if_pos ok_540, e2, Option.bind_some, resC_1 ok]
    dsimp only
    rw [if_pos rfl, if_pos ok_0, C_room1 hR hC2.2.1 z, Sum.elim_inl, gs_0, gr_0_12 hR, gr_0_3 hR, gr_540_17 hR, if_pos (bT_xk isTr_4551)]
    have hN : CN (up I2 0 1 0) 551 ln.length (lnF ln) := CN_keep (gA ln hln).2 (fun x h1 h2 => up_r (by omega))
    refine q_bind (T_turn hR isTr_4551 hN hw (fun x hx' => (hx x hx').1) (by decide)) ?_
    rintro _ ⟨I4, rfl, hF4, hT4⟩
    have fr : ∀ x, ¬ (4551 ≤ x ∧ x < 4559) → x ≠ 556 → x ≠ 557 → I4 x = up I2 0 1 0 x := fun x y1 y2 y3 => hF4 x (fun w => by
      unfold St at w
      omega)
    have hC4 : InvC I4 (0, t.2) s b n f v q p r h := by
      obtain ⟨h1, h2, h3, h4, h5, h6, h7, h8, h9, h10⟩ := hC2
      have go : ∀ x, ¬ (4551 ≤ x ∧ x < 4559) → x ≠ 556 → x ≠ 557 → x ≠ 0 → I4 x = I2 x := fun x y1 y2 y3 y4 => by rw [fr x y1 y2 y3, up_r y4]
      refine ⟨⟨Nat.zero_le _, ?_, fun k hk => absurd hk (Nat.not_lt_zero k)⟩, CSh_keep h2 (fun x g => go x (by omega) (by omega) (by omega) (by omega)), CTb_keep h3 (fun x g => go x (by omega) (by omega) (by omega) (by omega)), CNm_keep h4 (fun x g => go x (by omega) (by omega) (by omega) (by omega)), CFn_keep h5 (fun x g => go x (by omega) (by omega) (by omega) (by omega)), CV_keep h6 (fun x g g' => go x (by omega) (by omega) (by omega) (by omega)), CKp_keep h7 (fun x g => go x (by omega) (by omega) (by omega) (by omega)), CPr_keep h8 (fun x g => go x (by omega) (by omega) (by omega) (by omega)), ⟨h9.1, ?_, ?_⟩, CHs_keep h10 (fun x g => go x (by omega) (by omega) (by omega) (by omega))⟩
      · rw [fr 0 (by omega) (by omega) (by omega), up_s]
        rfl
      · rw [fr 0 (by omega) (by omega) (by omega), up_n (by omega)]
        exact h9.2.1
      · intro k hk
        rw [go 4559 (by omega) (by omega) (by omega) (by omega), go 4560 (by omega) (by omega) (by omega) (by omega)]
        exact h9.2.2 k hk
    rw [gr_0_2 hR, gr_0_12 hR, if_pos ok_11]
    refine q_bind (C_shelve hR hC4 hT4 z (by omega)) ?_
    rintro _ ⟨I5, rfl, hC5, hF5⟩
    refine q_ok ⟨I5, rfl, hC5, fun x hx' => ?_⟩
    rw [hF5 x (by omega), fr x (by omega) (by omega) (by omega), up_r (by omega)]
  obtain ⟨_, e4, I4, rfl, hC4, g4⟩ := key
  exact ⟨I4, nd, sp, e4, hC4, OKH_sh hC hO (fun i hi => (hx i hi).2.2), fun a k ha => by rw [g4 a ha, g2 a (by omega)], hw, fun x hx' => (hx x hx').1, h80⟩
theorem k_print {k : Nat} (hR : RA R) (hC : InvC I t s b n f v q p r h) (hO : OKH s b f h) (hk : k < s.1) : ∃ I', f_X11_print (mg (4562 + zn J) I  J R) 0 (Int32.ofNat (k)) = some (.inl (Int32.ofNat ((prtT b (s.2.1 k) (s.2.2.1 k) (s.2.2.2 k)).length)), (mg (4562 + zn J) I'  J R)) ∧ InvC I' t s b n f v q (txP (prtT b (s.2.1 k) (s.2.2.1 k) (s.2.2.2 k))) r h ∧ KpT I I' := by
  have h30 := hC.2.1.1
  have hT := (OKH_top hO).1
  have c1 := hC.2.1.2.2 k hk
  have nv := fun i hi => (OKH_top hO).2.1 k i hk hi
  have hP : isP 559 562 := Or.inl ⟨rfl, rfl⟩
  obtain ⟨_, e5, I2, rfl, hF2, hW2, hX2⟩ := C_fewest (J := J) hR hP hC.2.2.1 hT c1 (by omega) nv
  refine ⟨I2, ?_, C_printed hC (fun x hx y1 y2 => funext (fun j => hF2 x j (by unfold DC at hx; unfold Ffw; omega))) (CX_CPr hX2), fun a j ha => hF2 a j (by unfold Ffw; omega)⟩
  unfold f_X11_print
  rw [gr_0_4 hR, if_pos ok_0, C_treeAt1 hR hC.2.1 hk, Sum.elim_inl, if_pos ok_559, e5, Option.bind_some, gr_0_4 hR, gi_559, hX2.1]
theorem k_postfix {k : Nat} (hR : RA R) (hC : InvC I t s b n f v q p r h) (hO : OKH s b f h) (hk : k < s.1) (hz : ∀ i, i < s.2.1 k → ¬ lazyNd (s.2.2.1 k i)) : ∃ I' ln, (∀ x, x < s.2.1 k → ln (pl (s.2.2.2 k) x) = s.2.2.1 k x) ∧ f_X11_postfix (mg (4562 + zn J) I  J R) 0 (Int32.ofNat (k)) = some (.inl (Int32.ofNat ((psT ln (s.2.1 k)).length)), (mg (4562 + zn J) I'  J R)) ∧ InvC I' t s b n f v q (txP (psT ln (s.2.1 k))) r h ∧ KpT I I' := by
  have h30 := hC.2.1.1
  have c1 := hC.2.1.2.2 k hk
  have nv := fun i hi => (OKH_top hO).2.1 k i hk hi
  obtain ⟨ln, hln⟩ := pl_fun c1.2.1
  obtain ⟨_, e0, hy⟩ := T_hasLazy (J := J) hR c1.1
  have zz : ¬ ∃ i, i < s.2.1 k ∧ lazyNd (s.2.2.1 k i) := fun ⟨i, y1, y2⟩ => hz i y1 y2
  obtain rfl := (hy.resolve_left (fun y => zz y.2)).1
  obtain ⟨_, e5, I2, rfl, hF2, hX2⟩ := C_line (J := J) hR c1 (by omega) nv hln
  refine ⟨I2, ln, hln, ?_, C_printed hC (fun x _ y1 y2 => hF2.1 x (fun z => z.elim y1 y2)) (CX_CPr hX2), fun a j ha => by rw [hF2.1 a (by omega)]⟩
  unfold f_X11_postfix f_X11_needNoLazyCall
  rw [if_pos ok_0, C_treeAt1 hR hC.2.1 hk, Sum.elim_inl, if_pos ok_0, if_pos (bT_xk c1.1.1), e0, Option.bind_some, if_pos rfl, Option.bind_some, Sum.elim_inl, gr_0_4 hR, if_pos ok_559, e5, Option.bind_some, gr_0_4 hR, gi_559, hX2.1]
theorem k_evp {r' : Rs} {y : (Int32 ⊕ String) × xM} (H : EvPost J r' I t s b n f v q p r h y) : ∃ I' R', y = (.inl (evE r'), mg (4562 + zn J) I' J R') ∧ RA R' ∧ KpT I I' ∧ InvC I' t s b n f (evV r' v) q p r h := by
  obtain ⟨I', R', a1, a2, a3⟩ := H
  cases r' with
  | inl e => exact ⟨I', R', a3.1, a1, fun a k ha => a2 a k ha, a3.2⟩
  | inr w => exact ⟨I', R', a3.1, a1, fun a k ha => a2 a k ha, a3.2⟩
theorem k_evaluate {k : Nat} (hR : RA R) (hC : InvC I t s b n f v q p r h) (hO : OKH s b f h) (hE : EnvOK b n f s) (hk : k < s.1) : ∃ I' R', f_X11_evaluate (mg (4562 + zn J) I  J R) 0 (Int32.ofNat (k)) = some (.inl (evE (evT b n f s (s.2.2.1 k) (s.2.2.2 k))), mg (4562 + zn J) I' J R') ∧ RA R' ∧ KpT I I' ∧ InvC I' t s b n f (evV (evT b n f s (s.2.2.1 k) (s.2.2.2 k)) v) q p r h := by
  have h30 := hC.2.1.1
  have c1 := hC.2.1.2.2 k hk
  have n1 := CT_n c1
  have hT := tro_of hC hO hk
  have ro := evT_RO hE hT n1.2
  have key : QK (f_X11_evaluate (mg (4562 + zn J) I  J R) 0 (Int32.ofNat (k))) (EvPost J (evT b n f s (s.2.2.1 k) (s.2.2.2 k)) I t s b n f v q p r h) := by
    unfold f_X11_evaluate
    rw [if_pos ok_0, C_treeAt1 hR hC.2.1 hk, Sum.elim_inl, gr_0_6 hR, if_pos ok_567]
    refine q_bind (C_reckonTree hR (CEnv_of hC hE) c1 (by omega) hT n1.2) ?_
    rintro _ ⟨I1, R1, rfl, hR1, f1, hw⟩
    exact C_evTail ro hR1 (InvC_Fm hC f1) (fun a k ha => f1 a k (by unfold Fm; omega)) hw
  obtain ⟨y, e1, hy⟩ := key
  obtain ⟨I', R', rfl, a2, a3, a4⟩ := k_evp hy
  exact ⟨I', R', e1, a2, a3, a4⟩
theorem k_reckon {k : Nat} (hR : RA R) (hC : InvC I t s b n f v q p r h) (hO : OKH s b f h) (hE : EnvOK b n f s) (hk : k < s.1) (hz : ∀ i, i < s.2.1 k → ¬ lazyNd (s.2.2.1 k i)) : ∃ I' R', f_X11_reckon (mg (4562 + zn J) I  J R) 0 (Int32.ofNat (k)) = some (.inl (evE (evT b n f s (s.2.2.1 k) (s.2.2.2 k))), mg (4562 + zn J) I' J R') ∧ RA R' ∧ KpT I I' ∧ InvC I' t s b n f (evV (evT b n f s (s.2.2.1 k) (s.2.2.2 k)) v) q p r h := by
  have h30 := hC.2.1.1
  have c1 := hC.2.1.2.2 k hk
  have n1 := CT_n c1
  have hT := tro_of hC hO hk
  have ro := evT_RO hE hT n1.2
  obtain ⟨_, e0, hy⟩ := T_hasLazy (J := J) hR c1.1
  have zz : ¬ ∃ i, i < s.2.1 k ∧ lazyNd (s.2.2.1 k i) := fun ⟨i, y1, y2⟩ => hz i y1 y2
  obtain rfl := (hy.resolve_left (fun y => zz y.2)).1
  have hlz : ∀ i, i < s.2.1 k → bkN (s.2.2.1 k i) = 0 := fun i hi => (lazy_bk (hT.2 i hi)).resolve_left (fun y => zz ⟨i, hi, y⟩)
  have key : QK (f_X11_reckon (mg (4562 + zn J) I  J R) 0 (Int32.ofNat (k))) (EvPost J (evT b n f s (s.2.2.1 k) (s.2.2.2 k)) I t s b n f v q p r h) := by
    unfold f_X11_reckon f_X11_needNoLazyCall
    rw [if_pos ok_0, C_treeAt1 hR hC.2.1 hk, Sum.elim_inl, if_pos ok_0, if_pos (bT_xk c1.1.1), e0, Option.bind_some, if_pos rfl, Option.bind_some, Sum.elim_inl, gr_0_6 hR, if_pos ok_567]
    refine q_bind (C_reckonLine hR (CEnv_of hC hE) c1 (by omega) hT n1.2 hlz) ?_
    rintro _ ⟨I1, R1, rfl, hR1, f1, hw⟩
    exact C_evTail ro hR1 (InvC_Fm hC f1) (fun a k ha => f1 a k (by unfold Fm; omega)) hw
  obtain ⟨y, e1, hy⟩ := key
  obtain ⟨I', R', rfl, a2, a3, a4⟩ := k_evp hy
  exact ⟨I', R', e1, a2, a3, a4⟩
def ansL (pt : Nat) (v : GV) : List Nat := rdg 16 210 (if pt = 0 then v.1 else (v.2 : Int)).natAbs (if (if pt = 0 then v.1 else (v.2 : Int)) < 0 then [45] else [])
theorem k_answer {pt : Nat} (hR : RA R) (hC : InvC I t s b n f v q p r h) (hv : Gd v) (hp : pt < 2) : ∃ I' a, f_X11_answer (mg (4562 + zn J) I  J R) 0 (Int32.ofNat (pt)) 16 = some (.inl (Int32.ofNat ((ansL pt v).length)), (mg (4562 + zn J) I'  J R)) ∧ InvC I' t s b n f v q (ansT a (ansL pt v)) r h ∧ a = (if (if pt = 0 then v.1 else (v.2 : Int)) < 0 then 1 else 0) ∧ KpT I I' ∧ (ansL pt v).length ≤ 211 := by
  have cv := hC.2.2.2.2.2.1
  have vb := b7 hv
  have key : ∀ (w : Nat), 570 ≤ w → Wz I w 7 (if pt = 0 then v.1 else (v.2 : Int)) → (if pt = 0 then v.1 else (v.2 : Int)).natAbs < Bw 7 → f_X11_answer (mg (4562 + zn J) I  J R) 0 (Int32.ofNat (pt)) 16 = f_X11_answer_j56 (mg (4562 + zn J) I  J R) 0 16 w 559 → ∃ I' a, f_X11_answer (mg (4562 + zn J) I  J R) 0 (Int32.ofNat (pt)) 16 = some (.inl (Int32.ofNat ((ansL pt v).length)), (mg (4562 + zn J) I'  J R)) ∧ InvC I' t s b n f v q (ansT a (ansL pt v)) r h ∧ a = (if (if pt = 0 then v.1 else (v.2 : Int)) < 0 then 1 else 0) ∧ KpT I I' ∧ (ansL pt v).length ≤ 211 := by
    intro w hw hWz hzb ec
    obtain ⟨_, e1, I2, l, rfl, hF2, hK2, hl, h3, hT⟩ := C_digits (J := J) (rx := 16) hR hWz hzb hw ⟨by decide, by decide⟩
    have el : l = ansL pt v := hl
    subst el
    have ln : (ansL pt v).length ≤ 211 := by
      have := (rdg_len 16 210 (if pt = 0 then v.1 else (v.2 : Int)).natAbs (if (if pt = 0 then v.1 else (v.2 : Int)) < 0 then [45] else [])).1
      have e : (ansL pt v).length = (rdg 16 210 (if pt = 0 then v.1 else (v.2 : Int)).natAbs (if (if pt = 0 then v.1 else (v.2 : Int)) < 0 then [45] else [])).length := rfl
      have gen : ∀ z : Int, ((if z < 0 then [45] else [] : List Nat)).length ≤ 1 := fun z => by
        by_cases y : z < 0
        · rw [if_pos y]; decide
        · rw [if_neg y]; decide
      have := gen (if pt = 0 then v.1 else (v.2 : Int))
      omega
    refine ⟨I2, _, ?_, C_printed hC (fun x y0 y1 y2 => hF2 x (by unfold DC at y0; unfold S56; omega)) ⟨by show (ansL pt v).length ≤ 1000; omega, h3, hT⟩, rfl, fun a k ha => by rw [hF2 a (by unfold S56; omega)], ln⟩
    rw [ec]
    unfold f_X11_answer_j56
    have e1 : f_X5_digits (mg (4562 + zn J) I  J R) 559 w 16 = some (mg (4562 + zn J) I2  J R) := e1
    rw [if_pos ok_559, e1, Option.bind_some, gr_0_4 hR, gi_559, h3]
  have cpre : f_X11_answer (mg (4562 + zn J) I  J R) 0 (Int32.ofNat (pt)) 16 = (if (Int32.ofNat (pt)) = (0 : Int32) then f_X11_answer_j56 (mg (4562 + zn J) I  J R) 0 16 4542 559 else f_X11_answer_j56 (mg (4562 + zn J) I  J R) 0 16 4544 559) := by
    unfold f_X11_answer
    rw [if_neg (i32_nlt0 (by omega)), if_neg (show ¬ (1 : Int32) < (Int32.ofNat (pt)) from Int32.not_lt.mpr ((i32_le (m := 1) (by omega) (by omega)).mpr (by omega))), if_neg (by decide), if_pos (by decide), gr_0_4 hR, gr_0_10 hR, gr_4541_0 hR, gr_0_10 hR, gr_4541_1 hR]
  rcases (by omega : pt = 0 ∨ pt = 1) with rfl | rfl
  · rw [if_pos (show (Int32.ofNat (0)) = (0 : Int32) from rfl)] at cpre
    exact key 4542 (by decide) cv.2.1 vb.1 cpre
  · rw [if_neg (by decide)] at cpre
    exact key 4544 (by decide) cv.2.2 vb.2 cpre
theorem k_recall {l : Nat} (hR : RA R) (hC : InvC I t s b n f v q p r h) (hl : l < 26) (hG : Gd (n.2 l)) (hn : n.1 l ≠ 0) : ∃ I', f_X11_recall (mg (4562 + zn J) I  J R) 0 (Int32.ofNat (97 + l)) = some (.inl 1, (mg (4562 + zn J) I'  J R)) ∧ InvC I' t s b n f (n.2 l) q p r h ∧ KpT I I' := by
  have hy : (97 : Int32) ≤ (Int32.ofNat (97 + l)) ∧ (Int32.ofNat (97 + l)) ≤ (122 : Int32) := ⟨(i32_le (k := 97) (by omega) (by omega)).mpr (by omega), (i32_le (m := 122) (by omega) (by omega)).mpr (by omega)⟩
  have el : (Int32.ofNat (97 + l)) - 97 = (Int32.ofNat (l)) := by
    rw [show (Int32.ofNat (97 + l)) - 97 = (Int32.ofNat (97 + l - 97)) from n_sub (b := 97) (by omega), show 97 + l - 97 = l by omega]
  obtain ⟨c1, c2, c3⟩ := hC.2.2.2.1 l hl
  have key : QK (f_X11_recall (mg (4562 + zn J) I  J R) 0 (Int32.ofNat (97 + l))) (fun x => ∃ I', x = (.inl 1, (mg (4562 + zn J) I'  J R)) ∧ InvC I' t s b n f (n.2 l) q p r h ∧ FrS (Sf 4541) I I') := by
    unfold f_X11_recall
    rw [if_pos ok_0, c_letterOf1 hy.1 hy.2, Option.bind_some, Sum.elim_inl, el, gr_0_2 hR, gr_11_7 hR, ga_18 hl, c1, if_neg hn, gr_0_10 hR, gr_0_2 hR, gr_11_6 hR, g_name hR hl, if_pos (bF_xk isF_4541)]
    refine q_bind (C_lat hR hC c3 (b7 hG) (by omega)) ?_
    rintro _ ⟨I', rfl, hC', -, hF⟩
    exact q_ok ⟨I', rfl, hC', hF⟩
  obtain ⟨_, e1, I2, rfl, hC2, hF2⟩ := key
  exact ⟨I2, e1, hC2, fun a k ha => by rw [hF2 a (fun w => by unfold Sf at w; omega)]⟩
theorem k_let {l k : Nat} {w : GV} {cc : Nat} (hR : RA R) (hC : InvC I t s b n f v q p r h) (hO : OKH s b f h) (hE : EnvOK b n f s) (hl : l < 26) (hk : k < s.1) (he : evT b n f s (s.2.2.1 k) (s.2.2.2 k) = .inr (w, cc)) : ∃ I' R', f_X11_let (mg (4562 + zn J) I  J R) 0 (Int32.ofNat (97 + l)) (Int32.ofNat (k)) = some (.inl 0, mg (4562 + zn J) I' J R') ∧ RA R' ∧ KpT I I' ∧ InvC I' t s b (upN n.1 l 1, upN n.2 l w) f v q p r (hName h n l) ∧ OKH s b f (hName h n l) ∧ Gd w := by
  have hy : (97 : Int32) ≤ (Int32.ofNat (97 + l)) ∧ (Int32.ofNat (97 + l)) ≤ (122 : Int32) := ⟨(i32_le (k := 97) (by omega) (by omega)).mpr (by omega), (i32_le (m := 122) (by omega) (by omega)).mpr (by omega)⟩
  have el : (Int32.ofNat (97 + l)) - 97 = (Int32.ofNat (l)) := by
    rw [show (Int32.ofNat (97 + l)) - 97 = (Int32.ofNat (97 + l - 97)) from n_sub (b := 97) (by omega), show 97 + l - 97 = l by omega]
  have h30 := hC.2.1.1
  have h20 := hC.2.2.2.2.2.2.2.2.2.1
  have hf := hC.2.2.2.2.2.2.2.2.2.2.1
  obtain ⟨c1, c2, c3⟩ := hC.2.2.2.1 l hl
  have ct := hC.2.1.2.2 k hk
  have n1 := CT_n ct
  have hT := tro_of hC hO hk
  have ro := evT_RO hE hT n1.2
  rw [he] at ro
  have ro : 0 < cc ∧ cc ≤ 200 ∧ Gd w := ro
  have key : QK (f_X11_let (mg (4562 + zn J) I  J R) 0 (Int32.ofNat (97 + l)) (Int32.ofNat (k))) (fun y => ∃ I' R', RA R' ∧ (∀ a k, 4561 ≤ a → I' a k = I a k) ∧ y = (.inl 0, mg (4562 + zn J) I' J R') ∧ InvC I' t s b (upN n.1 l 1, upN n.2 l w) f v q p r (hName h n l)) := by
    unfold f_X11_let f_X11_let_j51
    rw [if_pos ok_0, c_letterOf1 hy.1 hy.2, Option.bind_some, Sum.elim_inl, el, if_pos ok_0, C_treeAt1 hR hC.2.1 hk, Sum.elim_inl, gr_0_6 hR, if_pos ok_567]
    refine q_bind (C_reckonTree hR (CEnv_of hC hE) ct (by omega) hT n1.2) ?_
    rintro _ ⟨I1, R1, rfl, hR1, f1, hw⟩
    have hC1 := InvC_Fm hC f1
    rw [gr_0_6 hR1, if_pos ok_567]
    refine q_bind hw ?_
    intro y hy
    obtain ⟨I2, R2, hR2, f2, hyy⟩ := hy
    have hC2 := InvC_Fm hC1 f2
    have k2 : ∀ a k, 4561 ≤ a → I2 a k = I a k := fun a k ha => by rw [f2 a k (by unfold Fm; omega), f1 a k (by unfold Fm; omega)]
    rw [he] at hyy
    obtain ⟨hyy, hV⟩ := hyy
    rw [hyy]
    dsimp only
    rw [if_pos rfl, gr_0_2 hR2, gr_0_6 hR2, if_pos ok_567, C_result hR2, if_pos ok_11]
    refine q_bind (C_giveValue hR2 hC2 hl (b7 (hE.2.2.2.1 l hl)) hV (by omega) (by omega) ro.2.2) ?_
    rintro _ ⟨I3, rfl, hC3, k3⟩
    exact q_ok ⟨I3, R2, hR2, fun a k ha => by rw [k3 a k ha, k2 a k ha], rfl, hC3⟩
  obtain ⟨_, e1, I2, R2, hR2, k2, rfl, hC2⟩ := key
  exact ⟨I2, R2, e1, hR2, k2, hC2, OKH_push hO h20 hf (fun t ht => ⟨ht, rfl, rfl, rfl⟩) (OKH_top hO) (Or.inr (Or.inr (Or.inl ⟨rfl, rfl, rfl, rfl, hl, c2⟩))), ro.2.2⟩
theorem k_stc {Z : List (Nat × Nat) × Tt} {e : Int32} {y : (Int32 ⊕ String) × xM} (hC : InvC I t s b n f v q p r h) (hO : OKH s b f h) (hZ : TtO b Z.2) (H : StC J R Z e I t s b n f v q p h y) : (Z.1.length = 0 ∧ ∃ I', KpT I I' ∧ y = (.inl e, (mg (4562 + zn J) I'  J R)) ∧ InvC I' t s b n f v q p (trG Z.1) h) ∨ (Z.1.length ≠ 0 ∧ ∃ I', KpT I I' ∧ y = (.inl (Int32.ofNat (s.1)), (mg (4562 + zn J) I'  J R)) ∧ InvC I' t (sPush s Z.2.1 Z.2.2.1 Z.2.2.2) b n f v q p (trG Z.1) (hShelf h) ∧ OKH (sPush s Z.2.1 Z.2.2.1 Z.2.2.2) b f (hShelf h)) := by
  obtain ⟨I', a1, ⟨a2, a3, a4⟩ | ⟨a2, a3, a4⟩⟩ := H
  · exact Or.inl ⟨a2, I', a1, a3, a4⟩
  · exact Or.inr ⟨a2, I', a1, a3, a4, OKH_sh hC hO (fun i hi => hZ.2 i hi)⟩
theorem k_step {k : Nat} (hR : RA R) (hC : InvC I t s b n f v q p r h) (hO : OKH s b f h) (hk : k < s.1) (z : s.1 < 30) : ∃ y, f_X11_step (mg (4562 + zn J) I  J R) 0 (Int32.ofNat (k)) = some y ∧ StC J R (stN b 1 (shT s k)) (-1) I t s b n f v q p h y := by
  have h30 := hC.2.1.1
  show QK _ _
  unfold f_X11_step f_X11_step_j34
  rw [if_pos ok_0, C_treeAt1 hR hC.2.1 hk, Sum.elim_inl, if_pos ok_0, C_room1 hR hC.2.1 z, Sum.elim_inl, if_pos ok_0]
  exact C_stepTail (M := 1) hR hC hO hk z (by omega)
theorem k_simplify {k : Nat} (hR : RA R) (hC : InvC I t s b n f v q p r h) (hO : OKH s b f h) (hk : k < s.1) (z : s.1 < 30) : ∃ y, f_X11_simplify (mg (4562 + zn J) I  J R) 0 (Int32.ofNat (k)) = some y ∧ StC J R (stN b 80 (shT s k)) (Int32.ofNat (k)) I t s b n f v q p h y := by
  have h30 := hC.2.1.1
  show QK _ _
  unfold f_X11_simplify f_X11_simplify_j35
  rw [if_pos ok_0, C_treeAt1 hR hC.2.1 hk, Sum.elim_inl, if_pos ok_0, C_room1 hR hC.2.1 z, Sum.elim_inl, if_pos ok_0]
  exact C_stepTail (M := 80) hR hC hO hk z (by omega)
theorem k_audit {k x : Nat} (hR : RA R) (hC : InvC I t s b n f v q p r h) (hO : OKH s b f h) (hE : EnvOK b n f s) (hk : k < s.1) (hf : ∀ l, prmN f l = 0) (hx : x ≤ 3) : ∃ I' R', f_X11_audit (mg (4562 + zn J) I  J R) 0 (Int32.ofNat (x)) (Int32.ofNat (k)) = some (.inl 1, mg (4562 + zn J) I' J R') ∧ RA R' ∧ KpT I I' ∧ InvC I' t s b n f v q p r h := by
  have hT : TtO b (shT s k) := tro_of hC hO hk
  have n80 : (shT s k).1 ≤ 80 := (CT_n (hC.2.1.2.2 k hk)).2
  have e : auT b n f s (shT s k) x = 1 := by
    rcases (by omega : x = 0 ∨ x = 1 ∨ x = 2 ∨ x = 3) with rfl | rfl | rfl | rfl
    · rw [auT_0]
      exact auP_1 hE.1 hT (by omega)
    · exact auT_1 b n f s _
    · rw [auT_2]
      exact saT_1 hE hf hT n80
    · rw [auT_3]
      exact auD_1 hE hf hT n80
  obtain ⟨y, e1, I', R', a1, a2, rfl⟩ := C_audit hR hC hE hE.1 hk hT hx
  rw [e] at e1
  exact ⟨I', R', e1, a1, fun a k ha => a2 a k (by unfold Fau; omega), InvC_au hC a2⟩
end KD
