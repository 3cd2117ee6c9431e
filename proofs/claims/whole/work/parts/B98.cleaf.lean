/-! polynomials: the class's leaves -/
def lfP (n : GN) (nm : Nat) (x : Nd) : Option Po := if x.1 = 0 then some (conP (mkRat (vN x) 1)) else if x.1 = 1 then (if vN x = nm then some idP else if n.1 (vN x - 97) = 0 then none else some (conP (mkRat (n.2 (vN x - 97)).1 (n.2 (vN x - 97)).2))) else none
theorem dgP_con {c : Rat} : dgP (conP c) = 0 := by
  have : ∀ k, dgF (conP c) k = 0 := by
    intro k
    induction k with
    | zero => rfl
    | succ k ih =>
      show (if conP c (k + 1) = 0 then dgF (conP c) k else k + 1) = 0
      rw [if_pos (show conP c (k + 1) = 0 from if_neg (by omega)), ih]
  exact this 8
theorem dgP_id : dgP idP = 1 := by
  have e : ∀ k, 1 ≤ k → dgF idP k = 1 := by
    intro k
    induction k with
    | zero => intro h; omega
    | succ k ih =>
      intro _
      show (if idP (k + 1) = 0 then dgF idP k else k + 1) = 1
      by_cases z : k = 0
      · subst z
        rw [if_neg (show ¬ idP (0 + 1) = 0 by unfold idP; rw [if_pos rfl]; decide)]
      · rw [if_pos (show idP (k + 1) = 0 from if_neg (by omega)), ih (by omega)]
  exact e 8 (by decide)
theorem con_PoK {c : Rat} (h : Fit c) : PoK (conP c) := ⟨fun i _ => by
  unfold conP
  split
  · exact h
  · exact Fit_0, fun i hi => if_neg (by omega)⟩
theorem id_PoK : PoK idP := ⟨fun i _ => by
  unfold idP
  split
  · exact ⟨by decide, by decide⟩
  · exact Fit_0, fun i hi => if_neg (by omega)⟩
section CLF
variable {I : Nat → Nat → Int32} {J : Nat → Nat → Int64} {R : Nat → Nat → Option Nat} {β : Type} {a h nm i : Nat} {b : GB} {n : GN} {T : Tt}
theorem C_leafEnd {own : Bool} {p : Po} {I0 : Nat → Nat → Int32} (hR : RA R) (hh : h < 48) (f0 : FrK (Fgc h) I0 I) (h4 : I 2215 4 = (Int32.ofNat (h))) (hr : ∀ j, j < 9 → FU I (2246 + 5 * (9 * h + j)) 7 (p j).num (p j).den) (hd : dgP p = if own = true then 1 else 0) : QK (f_X3_addLeaf_j237 (mg 4625 I J R) 2215 (if own = true then 1 else 0)) (fun y => ∃ I', FrK (Fgc h) I0 I' ∧ y = (1, mg 4625 I' J R) ∧ CRow I' h p ∧ I' 2215 4 = (Int32.ofNat (h + 1))) := by
  have j255 : ∀ d : Nat, dgP p = d → QK (f_X3_addLeaf_j255 (mg 4625 I J R) 2215 (Int32.ofNat (d)) (Int32.ofNat (h)) 2217) (fun y => ∃ I', FrK (Fgc h) I0 I' ∧ y = (1, mg 4625 I' J R) ∧ CRow I' h p ∧ I' 2215 4 = (Int32.ofNat (h + 1))) := fun d ed => by
    unfold f_X3_addLeaf_j255
    rw [gw_2217 (by omega), gi_2215, up_n (by omega), h4, gs_2215, show (Int32.ofNat (h)) + (1 : Int32) = (Int32.ofNat (h + 1)) from n_add h 1]
    refine q_ok ⟨_, FrK_up (FrK_up f0 (by unfold Fgc Fga; omega)) (by unfold Fgc Fga; omega), rfl, ⟨fun j hj => FU_keep (hr j hj) (fun x g1 g2 => by rw [up_r (by omega), up_r (by omega)]), ?_⟩, up_s⟩
    rw [up_n (by omega), up_s, ed]
  unfold f_X3_addLeaf_j237
  rw [gr_2215_3 hR, gi_2215, h4]
  cases own with
  | true =>
    rw [if_neg (by decide)]
    exact j255 1 hd
  | false =>
    rw [if_pos (show (if false = true then (1 : Int32) else 0) = 0 from rfl)]
    exact j255 0 hd
theorem C_leafRow {own : Bool} {x2 l4 l7 : Int32} (hR : RA R) (hh : h < 48) (h4 : I 2215 4 = (Int32.ofNat (h))) {G : Nat × Nat × Int32 × Int32 × Int32 × Int32 × Int32 × xM → Option (Int32 × xM)} {S : Int32 × xM → Prop} (hG : ∀ I', FrK (Fgc h) I I' → I' 2215 4 = (Int32.ofNat (h)) → (∀ j, j < 9 → FU I' (2246 + 5 * (9 * h + j)) 7 ((if own = true then idP else conP 0) j).num ((if own = true then idP else conP 0) j).den) → QK (G (2215, a, x2, l4, (if own = true then 1 else 0), l7, (Int32.ofNat (9 * h)), mg 4625 I' J R)) S) : QK ((xloop f_X3_addLeaf_s145 xF (2215, a, x2, l4, (if own = true then 1 else 0), l7, (Int32.ofNat (9 * h)), 0, mg 4625 I J R)).bind (Sum.elim (fun g => some g) G)) S := by
  refine q_bind (P := fun x => ∃ I', x = .inr (2215, a, x2, l4, (if own = true then 1 else 0), l7, (Int32.ofNat (9 * h)), mg 4625 I' J R) ∧ FrK (Fgc h) I I' ∧ I' 2215 4 = (Int32.ofNat (h)) ∧ (∀ j, j < 9 → FU I' (2246 + 5 * (9 * h + j)) 7 ((if own = true then idP else conP 0) j).num ((if own = true then idP else conP 0) j).den)) ?_ ?_
  · refine q_for 9 (fun i s => ∃ I', s = (2215, a, x2, l4, (if own = true then 1 else 0), l7, (Int32.ofNat (9 * h)), (Int32.ofNat (i)), mg 4625 I' J R) ∧ FrK (Fgc h) I I' ∧ I' 2215 4 = (Int32.ofNat (h)) ∧ (∀ j, j < i → FU I' (2246 + 5 * (9 * h + j)) 7 ((if own = true then idP else conP 0) j).num ((if own = true then idP else conP 0) j).den)) ?_ ?_ (i := 0) ⟨I, rfl, FrK_rfl, h4, fun j hj => absurd hj (Nat.not_lt_zero _)⟩ (by omega) (by unfold xF; omega)
    · rintro i s hi ⟨I1, rfl, f1, k1, g1⟩
      unfold f_X3_addLeaf_s145
      dsimp only
      rw [q_let, q_let, q_let, q_let, q_let, q_let, q_let, q_let, q_let, if_neg (show ¬ (9 : Int32) ≤ (Int32.ofNat (i)) from fun y => absurd ((i32_le (k := 9) (by omega) (by omega)).mp y) (by omega)), gr_2215_2 hR, n_add, C_rw hR (by omega)]
      have st : ∀ v : Nat, v ≤ 1 → ((if own = true then idP else conP 0) i).num = (v : Int) → ((if own = true then idP else conP 0) i).den = 1 → QK (f_X3_addLeaf_j178 (mg 4625 I1 J R) 2215 a x2 l4 (if own = true then 1 else 0) l7 (Int32.ofNat (9 * h)) (Int32.ofNat (i)) (Int64.ofNat v) (2246 + 5 * (9 * h + i))) (qS (fun s => ∃ I', s = (2215, a, x2, l4, (if own = true then 1 else 0), l7, (Int32.ofNat (9 * h)), (Int32.ofNat (i + 1)), mg 4625 I' J R) ∧ FrK (Fgc h) I I' ∧ I' 2215 4 = (Int32.ofNat (h)) ∧ (∀ j, j < i + 1 → FU I' (2246 + 5 * (9 * h + j)) 7 ((if own = true then idP else conP 0) j).num ((if own = true then idP else conP 0) j).den)) (fun x => ∃ I', x = .inr (2215, a, x2, l4, (if own = true then 1 else 0), l7, (Int32.ofNat (9 * h)), mg 4625 I' J R) ∧ FrK (Fgc h) I I' ∧ I' 2215 4 = (Int32.ofNat (h)) ∧ (∀ j, j < 9 → FU I' (2246 + 5 * (9 * h + j)) 7 ((if own = true then idP else conP 0) j).num ((if own = true then idP else conP 0) j).den))) := fun v hv e1 e2 => by
        unfold f_X3_addLeaf_j178
        rw [if_pos (bF_xk (isF_row (by omega)))]
        refine q_bind (F_set (n := v) hR (isF_row (by omega)) (by omega)) ?_
        rintro _ ⟨I2, rfl, f2, W2⟩
        rw [q_let, show (Int32.ofNat (i)) + (1 : Int32) = (Int32.ofNat (i + 1)) from n_add i 1]
        refine q_go ⟨I2, rfl, ?_, ?_, fun j hj => ?_⟩
        · refine FrK_tr f1 (fun x k y => ?_)
          rw [f2 x (fun z => by unfold Sf at z; unfold Fgc Fga at y; omega)]
        · rw [f2 2215 (fun z => by unfold Sf at z; omega)]
          exact k1
        · by_cases z : j < i
          · exact FU_keep (g1 j z) (fun x h1 h2 => f2 x (fun z => by unfold Sf at z; omega))
          · rw [show j = i by omega, e1, e2]
            exact W2
      cases own with
      | false =>
        rw [if_pos (show (if false = true then (1 : Int32) else 0) = 0 from rfl)]
        exact st 0 (by decide) (by show (conP 0 i).num = 0; unfold conP; split <;> rfl) (by show (conP 0 i).den = 1; unfold conP; split <;> rfl)
      | true =>
        rw [if_neg (show ¬ (if true = true then (1 : Int32) else 0) = 0 by decide)]
        by_cases z : i = 1
        · rw [if_pos (show (Int32.ofNat (i)) = (1 : Int32) by rw [z]; rfl)]
          exact st 1 (by decide) (by show (idP i).num = 1; unfold idP; rw [if_pos z]; rfl) (by show (idP i).den = 1; unfold idP; rw [if_pos z]; rfl)
        · rw [if_neg (show ¬ (Int32.ofNat (i)) = (1 : Int32) from i32_ne (b := 1) (by omega) (by omega) z)]
          exact st 0 (by decide) (by show (idP i).num = 0; unfold idP; rw [if_neg z]; rfl) (by show (idP i).den = 1; unfold idP; rw [if_neg z]; rfl)
    · rintro s ⟨I1, rfl, f1, k1, g1⟩
      unfold f_X3_addLeaf_s145
      dsimp only
      rw [q_let, q_let, q_let, q_let, q_let, q_let, q_let, q_let, q_let, if_pos (by decide)]
      exact q_ex ⟨I1, rfl, f1, k1, g1⟩
  · rintro _ ⟨I1, rfl, f1, k1, g1⟩
    simp only [Sum.elim_inr]
    exact hG I1 f1 k1 g1
theorem C_gaKnown {l4 x2 s0 : Int32} (hR : RA R) (hN : CNm I n) : ∃ kn : Bool, f_X3_addLeaf_j36 (mg 4625 I J R) 2215 a x2 l4 s0 = f_X3_addLeaf_j74 (mg 4625 I J R) 2215 a x2 l4 s0 (if kn = true then 1 else 0) ∧ ∀ k, k < 26 → l4 = (Int32.ofNat (k)) → (kn = true ↔ n.1 k ≠ 0) := by
  unfold f_X3_addLeaf_j36 f_X3_addLeaf_j73
  rcases i32_two 26 (by omega) l4 with ⟨k, hk, rfl⟩ | hx | hx
  · rw [if_neg (i32_nlt0 (by omega)), gr_2215_0 hR, gr_11_7 hR, ogL_18, Option.bind_some, if_neg (show ¬ (26 : Int32) ≤ (Int32.ofNat (k)) from fun y => absurd ((i32_le (k := 26) (by omega) (by omega)).mp y) (by omega)), gr_2215_0 hR, gr_11_7 hR, ga_18 hk, (hN k hk).1]
    by_cases z : n.1 k = 0
    · rw [if_pos z]
      exact ⟨false, rfl, fun j hj e => by rw [← (i32_eq (by omega) (by omega)).mp e]; exact ⟨fun y => (by cases y), fun y => absurd z y⟩⟩
    · rw [if_neg z]
      exact ⟨true, rfl, fun j hj e => by rw [← (i32_eq (by omega) (by omega)).mp e]; exact ⟨fun _ => z, fun _ => rfl⟩⟩
  · rw [if_pos hx]
    refine ⟨false, rfl, fun j hj e => ?_⟩
    rw [e] at hx
    exact absurd hx (i32_nlt0 (by omega))
  · rw [if_neg (fun y => absurd (Int32.lt_of_le_of_lt hx y) (by decide)), gr_2215_0 hR, gr_11_7 hR, ogL_18, Option.bind_some, if_pos (show (26 : Int32) ≤ l4 from hx)]
    refine ⟨false, rfl, fun j hj e => ?_⟩
    rw [e] at hx
    exact absurd ((i32_le (k := 26) (by omega) (by omega)).mp hx) (by omega)
theorem C_gaLeaf (hR : RA R) (hA : CTT I a T) (ha : 10 ≤ a ∧ a + 8 ≤ 567) (hN : CNm I n) (hg : ∀ l, l < 26 → Gd (n.2 l)) (hT : TtO b T) (hi : i < T.1) (k3 : (T.2.1 i).1 ≠ 3) (hnm : nm < 1000) (h4 : I 2215 4 = (Int32.ofNat (h))) (hh : h < 1000) : QK (f_X3_addLeaf (mg 4625 I J R) 2215 a (Int32.ofNat (i)) (Int32.ofNat (nm))) (fun y => ∃ I', FrK (Fgc h) I I' ∧ ((h < 48 ∧ ∃ p, lfP n nm (T.2.1 i) = some p ∧ y = (1, mg 4625 I' J R) ∧ CRow I' h p ∧ I' 2215 4 = (Int32.ofNat (h + 1))) ∨ ((48 ≤ h ∨ lfP n nm (T.2.1 i) = none) ∧ y = (0, mg 4625 I' J R)))) := by
  have ta := hA.1.1
  have nn80 := (CT_n hA).2
  have nv := hT.2 i hi
  obtain ⟨x1, x2, x3, x4, -⟩ := NV_v nv
  obtain ⟨w1, w2, w3, w4, w5⟩ := hA.1.2.2.2 i hi
  unfold f_X3_addLeaf f_X3_addLeaf_j35
  rw [bT_g1 ta hR, bT_aI ta (by omega), w2, x1, q_let, bT_g0 ta hR, bT_aI ta (by omega), w1]
  -- the end, once the row is to be made
  have mk : ∀ (own oth : Bool) (l : Int32), (own = true → oth = false) → (∀ p, (p = if own = true then idP else if oth = true then conP (mkRat (n.2 (vN (T.2.1 i) - 97)).1 (n.2 (vN (T.2.1 i) - 97)).2) else conP (mkRat (vN (T.2.1 i)) 1)) → lfP n nm (T.2.1 i) = some p) → (oth = true → vN (T.2.1 i) - 97 < 26 ∧ l = (Int32.ofNat (vN (T.2.1 i) - 97))) → h < 48 → QK (f_X3_addLeaf_j133 (mg 4625 I J R) 2215 a (Int32.ofNat (i)) l (if own = true then 1 else 0) (if oth = true then 1 else 0)) (fun y => ∃ I', FrK (Fgc h) I I' ∧ ((h < 48 ∧ ∃ p, lfP n nm (T.2.1 i) = some p ∧ y = (1, mg 4625 I' J R) ∧ CRow I' h p ∧ I' 2215 4 = (Int32.ofNat (h + 1))) ∨ ((48 ≤ h ∨ lfP n nm (T.2.1 i) = none) ∧ y = (0, mg 4625 I' J R)))) := fun own oth l ho hp hl h48 => by
    unfold f_X3_addLeaf_j133
    rw [gi_2215, h4, q_let, show (Int32.ofNat (h)) * (9 : Int32) = (Int32.ofNat (9 * h)) from (n_mul h 9).trans (by rw [Nat.mul_comm]), q_let]
    refine C_leafRow hR h48 h4 ?_
    intro I1 f1 k1 g1
    unfold f_X3_addLeaf_j187
    dsimp only
    have fin : ∀ (I2 : Nat → Nat → Int32) (p : Po), FrK (Fgc h) I I2 → I2 2215 4 = (Int32.ofNat (h)) → (∀ j, j < 9 → FU I2 (2246 + 5 * (9 * h + j)) 7 (p j).num (p j).den) → dgP p = (if own = true then 1 else 0) → lfP n nm (T.2.1 i) = some p → QK (f_X3_addLeaf_j237 (mg 4625 I2 J R) 2215 (if own = true then 1 else 0)) (fun y => ∃ I', FrK (Fgc h) I I' ∧ ((h < 48 ∧ ∃ p, lfP n nm (T.2.1 i) = some p ∧ y = (1, mg 4625 I' J R) ∧ CRow I' h p ∧ I' 2215 4 = (Int32.ofNat (h + 1))) ∨ ((48 ≤ h ∨ lfP n nm (T.2.1 i) = none) ∧ y = (0, mg 4625 I' J R)))) := fun I2 p f2 k2 g2 hd ep => by
      refine q_mono (C_leafEnd (J := J) (own := own) (p := p) hR h48 f2 k2 g2 hd) ?_
      rintro y ⟨I3, f3, e1, e2, e3⟩
      exact ⟨I3, f3, Or.inl ⟨h48, p, ep, e1, e2, e3⟩⟩
    have put : ∀ (I2 : Nat → Nat → Int32) (c : Rat), own = false → FrS (Sf (2246 + 5 * (9 * h))) I1 I2 → FU I2 (2246 + 5 * (9 * h)) 7 c.num c.den → lfP n nm (T.2.1 i) = some (conP c) → QK (f_X3_addLeaf_j237 (mg 4625 I2 J R) 2215 (if own = true then 1 else 0)) (fun y => ∃ I', FrK (Fgc h) I I' ∧ ((h < 48 ∧ ∃ p, lfP n nm (T.2.1 i) = some p ∧ y = (1, mg 4625 I' J R) ∧ CRow I' h p ∧ I' 2215 4 = (Int32.ofNat (h + 1))) ∨ ((48 ≤ h ∨ lfP n nm (T.2.1 i) = none) ∧ y = (0, mg 4625 I' J R)))) := fun I2 c eo f2 W2 ep => by
      refine fin I2 (conP c) (FrK_tr f1 (fun x k y => by rw [f2 x (fun z => by unfold Sf at z; unfold Fgc Fga at y; omega)])) (by rw [f2 2215 (fun z => by unfold Sf at z; omega)]; exact k1) (fun j hj => ?_) (by rw [dgP_con, eo]; rfl) ep
      have g := g1 j hj
      rw [eo] at g
      by_cases z : j = 0
      · subst z
        exact W2
      · have g := FU_keep g (I' := I2) (fun x h1 h2 => f2 x (fun z => by unfold Sf at z; omega))
        rw [show (if false = true then idP else conP 0) j = 0 from if_neg z] at g
        rw [show conP c j = 0 from if_neg z]
        exact g
    cases oth with
    | false =>
      rw [if_pos (show (if false = true then (1 : Int32) else 0) = 0 from rfl)]
      cases own with
      | true =>
        rw [if_neg (show ¬ (if true = true then (1 : Int32) else 0) = 0 by decide)]
        exact fin I1 idP f1 k1 g1 dgP_id (hp _ rfl)
      | false =>
        rw [if_pos (show (if false = true then (1 : Int32) else 0) = 0 from rfl), gr_2215_2 hR, C_rw hR (by omega)]
        have A1 : CTT I1 a T := CT_keep hA (fun x g1 g2 => by funext k; rw [f1 x k (by unfold Fgc Fga; omega)])
        obtain ⟨u1, u2, u3, u4, u5⟩ := A1.1.2.2.2 i hi
        rw [bT_g1 ta hR, bT_aI ta (by omega), u2, x1, j_of32 (by omega), if_pos (bF_xk (isF_row (by omega)))]
        refine q_bind (F_set (n := vN (T.2.1 i)) hR (isF_row (by omega)) (by omega)) ?_
        rintro _ ⟨I2, rfl, f2, W2⟩
        have gv1 := (Gd_gv (v := ((vN (T.2.1 i) : Int), 1)) (Gd_n (Nat.lt_of_le_of_lt x2 (by decide)))).1
        have e1 : (mkRat (vN (T.2.1 i)) 1).num = (vN (T.2.1 i) : Int) := congrArg Prod.fst gv1
        have e2 : (mkRat (vN (T.2.1 i)) 1).den = 1 := congrArg Prod.snd gv1
        refine put I2 (mkRat (vN (T.2.1 i)) 1) rfl f2 ?_ (hp _ rfl)
        rw [e1, e2]
        exact W2
    | true =>
      have eo : own = false := by
        cases own with
        | false => rfl
        | true => exact absurd (ho rfl) (by decide)
      obtain ⟨l1, l2⟩ := hl rfl
      subst eo
      rw [if_neg (show ¬ (if true = true then (1 : Int32) else 0) = 0 by decide), gr_2215_2 hR, C_rw hR (by omega), gr_2215_0 hR, gr_11_6 hR, l2, g_name hR l1, if_pos (bF_xk (isF_row (by omega)))]
      obtain ⟨-, -, n3⟩ := hN _ l1
      have n3' : FU I1 (310 + 5 * (vN (T.2.1 i) - 97)) 7 (n.2 (vN (T.2.1 i) - 97)).1 (n.2 (vN (T.2.1 i) - 97)).2 := FU_keep n3 (fun x g1 g2 => by funext k; rw [f1 x k (by unfold Fgc Fga; omega)])
      refine q_bind (F_copy hR (isF_row (by omega)) n3' (g7 (hg _ l1)).1 (g7 (hg _ l1)).2 (by omega)) ?_
      rintro _ ⟨I2, rfl, f2, W2⟩
      have gv1 := (Gd_gv (hg _ l1)).1
      refine put I2 (mkRat (n.2 (vN (T.2.1 i) - 97)).1 (n.2 (vN (T.2.1 i) - 97)).2) rfl f2 ?_ (hp _ rfl)
      rw [show (mkRat (n.2 (vN (T.2.1 i) - 97)).1 (n.2 (vN (T.2.1 i) - 97)).2).num = (n.2 (vN (T.2.1 i) - 97)).1 from congrArg Prod.fst gv1, show (mkRat (n.2 (vN (T.2.1 i) - 97)).1 (n.2 (vN (T.2.1 i) - 97)).2).den = (n.2 (vN (T.2.1 i) - 97)).2 from congrArg Prod.snd gv1]
      exact W2
  have full : ∀ (l own oth : Int32), 48 ≤ h → QK (f_X3_addLeaf_j101 (mg 4625 I J R) 2215 a (Int32.ofNat (i)) l own oth) (fun y => ∃ I', FrK (Fgc h) I I' ∧ ((h < 48 ∧ ∃ p, lfP n nm (T.2.1 i) = some p ∧ y = (1, mg 4625 I' J R) ∧ CRow I' h p ∧ I' 2215 4 = (Int32.ofNat (h + 1))) ∨ ((48 ≤ h ∨ lfP n nm (T.2.1 i) = none) ∧ y = (0, mg 4625 I' J R)))) := fun l own oth h48 => by
    unfold f_X3_addLeaf_j101 f_X3_addLeaf_j131
    rw [gi_2215, h4, if_pos (show (48 : Int32) ≤ (Int32.ofNat (h)) from (i32_le (k := 48) (by omega) (by omega)).mpr h48)]
    exact q_ok ⟨I, FrK_rfl, Or.inr ⟨Or.inl h48, rfl⟩⟩
  by_cases q1 : (T.2.1 i).1 = 1
  · have v128 := x3 (by rw [q1]; decide)
    have q0 : (T.2.1 i).1 ≠ 0 := by rw [q1]; decide
    obtain ⟨l, l1, l2⟩ : ∃ l, l < 26 ∧ vN (T.2.1 i) = 97 + l := by
      rcases nv with y | y | y | y
      · exact absurd (q1.symm.trans y.1) (by decide)
      · obtain ⟨-, ⟨l, l1, l2⟩, -⟩ := y
        exact ⟨l, l1, (i32_eq (by omega) (by omega)).mp (x1.symm.trans l2)⟩
      · exact absurd (q1.symm.trans y.1) (by decide)
      · exact absurd (q1.symm.trans y.1) (by decide)
    rw [if_pos q1, bT_g1 ta hR, bT_aI ta (by omega), w2, x1, show (Int32.ofNat (vN (T.2.1 i))) - (97 : Int32) = (Int32.ofNat (l)) by rw [l2]; exact (n_sub (b := 97) (by omega)).trans (by rw [Nat.add_sub_cancel_left])]
    by_cases qo : vN (T.2.1 i) = nm
    · rw [if_pos (show (Int32.ofNat (vN (T.2.1 i))) = (Int32.ofNat (nm)) by rw [qo])]
      obtain ⟨kn, ek, -⟩ := C_gaKnown (J := J) (a := a) (x2 := (Int32.ofNat (i))) (l4 := (Int32.ofNat (l))) (s0 := 1) hR hN
      rw [ek]
      unfold f_X3_addLeaf_j74 f_X3_addLeaf_j100
      rw [bT_g0 ta hR, bT_aI ta (by omega), w1, if_pos q1, if_neg (by decide)]
      by_cases h48 : 48 ≤ h
      · exact full _ _ _ h48
      unfold f_X3_addLeaf_j101
      rw [gi_2215, h4, if_neg (show ¬ (48 : Int32) ≤ (Int32.ofNat (h)) from fun y => h48 ((i32_le (k := 48) (by omega) (by omega)).mp y)), bT_g0 ta hR, bT_aI ta (by omega), w1, if_neg q0, if_neg (by decide)]
      exact mk true false (Int32.ofNat (l)) (fun _ => rfl) (fun p ep => by
        rw [ep]
        unfold lfP
        rw [if_neg q0, if_pos q1, if_pos qo]
        rfl) (fun y => by cases y) (by omega)
    · rw [if_neg (show ¬ (Int32.ofNat (vN (T.2.1 i))) = (Int32.ofNat (nm)) from i32_ne (by omega) (by omega) qo)]
      obtain ⟨kn, ek, hk⟩ := C_gaKnown (J := J) (a := a) (x2 := (Int32.ofNat (i))) (l4 := (Int32.ofNat (l))) (s0 := 0) hR hN
      have hk := hk l l1 rfl
      have el : vN (T.2.1 i) - 97 = l := by omega
      rw [ek]
      unfold f_X3_addLeaf_j74 f_X3_addLeaf_j100
      rw [bT_g0 ta hR, bT_aI ta (by omega), w1, if_pos q1, if_pos rfl]
      by_cases h48 : 48 ≤ h
      · split
        · exact full _ _ _ h48
        · exact full _ _ _ h48
      cases kn with
      | false =>
        have nk : n.1 l = 0 := Classical.byContradiction (fun y => by
          have := hk.mpr y
          cases this)
        rw [if_pos (show (if false = true then (1 : Int32) else 0) = 0 from rfl)]
        unfold f_X3_addLeaf_j101 f_X3_addLeaf_j131
        rw [gi_2215, h4, if_neg (show ¬ (48 : Int32) ≤ (Int32.ofNat (h)) from fun y => h48 ((i32_le (k := 48) (by omega) (by omega)).mp y)), bT_g0 ta hR, bT_aI ta (by omega), w1, if_neg q0, if_pos rfl, if_pos rfl]
        refine q_ok ⟨I, FrK_rfl, Or.inr ⟨Or.inr ?_, rfl⟩⟩
        unfold lfP
        rw [if_neg q0, if_pos q1, if_neg qo, el, if_pos nk]
      | true =>
        have nk : n.1 l ≠ 0 := hk.mp rfl
        rw [if_neg (show ¬ (if true = true then (1 : Int32) else 0) = 0 by decide)]
        unfold f_X3_addLeaf_j101 f_X3_addLeaf_j131
        rw [gi_2215, h4, if_neg (show ¬ (48 : Int32) ≤ (Int32.ofNat (h)) from fun y => h48 ((i32_le (k := 48) (by omega) (by omega)).mp y)), bT_g0 ta hR, bT_aI ta (by omega), w1, if_neg q0, if_pos rfl, if_neg (by decide)]
        exact mk false true (Int32.ofNat (l)) (fun y => by cases y) (fun p ep => by
          rw [ep]
          unfold lfP
          rw [if_neg q0, if_pos q1, if_neg qo, el, if_neg nk]
          rfl) (fun _ => ⟨by omega, by rw [el]⟩) (by omega)
  · rw [if_neg q1]
    obtain ⟨kn, ek, -⟩ := C_gaKnown (J := J) (a := a) (x2 := (Int32.ofNat (i))) (l4 := (Int32.ofNat (vN (T.2.1 i))) - 97) (s0 := 0) hR hN
    rw [ek]
    unfold f_X3_addLeaf_j74 f_X3_addLeaf_j100
    rw [bT_g0 ta hR, bT_aI ta (by omega), w1, if_neg q1]
    by_cases h48 : 48 ≤ h
    · exact full _ _ _ h48
    unfold f_X3_addLeaf_j101 f_X3_addLeaf_j131
    rw [gi_2215, h4, if_neg (show ¬ (48 : Int32) ≤ (Int32.ofNat (h)) from fun y => h48 ((i32_le (k := 48) (by omega) (by omega)).mp y)), bT_g0 ta hR, bT_aI ta (by omega), w1]
    by_cases q0 : (T.2.1 i).1 = 0
    · rw [if_pos q0]
      exact mk false false _ (fun y => by cases y) (fun p ep => by
        rw [ep]
        unfold lfP
        rw [if_pos q0]
        rfl) (fun y => by cases y) (by omega)
    · rw [if_neg q0, if_pos rfl, if_pos rfl]
      refine q_ok ⟨I, FrK_rfl, Or.inr ⟨Or.inr ?_, rfl⟩⟩
      unfold lfP
      rw [if_neg q0, if_neg q1]
end CLF
