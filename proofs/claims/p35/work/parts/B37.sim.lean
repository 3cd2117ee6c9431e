/-! the class's machine follows ev: turns, operands -/
abbrev Tw : Type := Nat × Int32 × Int32 × xM
def RC (k : Nat) (s s' : Tw) : Prop := ∀ F, xloop f_X4_work_s4 (F + k) s = xloop f_X4_work_s4 F s'
theorem RC_0 (s : Tw) : RC 0 s s := fun _ => rfl
theorem RC_tr {k k' : Nat} {s s' s'' : Tw} (h : RC k s s') (h' : RC k' s' s'') : RC (k + k') s s'' := fun F => by
  rw [show F + (k + k') = (F + k') + k by omega, h, h']
theorem RC_1 {s s' : Tw} (h : f_X4_work_s4 s = some (.inr (.inr s'))) : RC 1 s s' := fun F => by
  rw [xl_s (by omega) h, Nat.add_sub_cancel]
def CEnv (I : Nat → Nat → Int32) (b : GB) (n : GN) (f : GF) (s : GS) : Prop := CTb I b ∧ CNm I n ∧ CFn I f ∧ CSh I s ∧ EnvOK b n f s
theorem CEnv_keep {I I' : Nat → Nat → Int32} {b : GB} {n : GN} {f : GF} {s : GS} {h t sc : Nat} (H : CEnv I b n f s) (hF : FrK (Fm h t sc) I I') : CEnv I' b n f s := by
  have g : ∀ x, 10 ≤ x → x < 540 → I' x = I x := fun x g1 g2 => by
    funext k
    exact hF x k (by unfold Fm; omega)
  exact ⟨CTb_keep H.1 (fun x y => g x (by omega) (by omega)), CNm_keep H.2.1 (fun x y => g x (by omega) (by omega)), CFn_keep H.2.2.1 (fun x y => g x (by omega) (by omega)), CSh_keep H.2.2.2.1 (fun x y => g x (by omega) (by omega)), H.2.2.2.2⟩
theorem CT_m {I I' : Nat → Nat → Int32} {a nn h t sc : Nat} {nd : Nat → Nd} {sp : Nat → Nat} (H : CT I a nn nd sp) (ha : a + 8 ≤ 567 ∨ 1784 ≤ a) (hF : FrK (Fm h t sc) I I') : CT I' a nn nd sp := CT_keep H (fun x g1 g2 => by
  funext k
  have := H.1.1.1
  exact hF x k (by unfold Fm; omega))
/-- where the machine is after a node -/
def SimR (J : Nat → Nat → Int64) (r : Rs) (c h t d sc u : Nat) (I : Nat → Nat → Int32) (R : Nat → Nat → Option Nat) : Prop := match r with
  | .inl e => ∃ k I' R', u + k ≤ 1000000 ∧ RC k (567, 0, (Int32.ofNat (u)), mg (4562 + zn J) I J R) (567, (Int32.ofNat (e)), (Int32.ofNat (u + k)), mg (4562 + zn J) I' J R') ∧ RA R' ∧ FrK (Fm h t sc) I I' ∧ FR t R R'
  | .inr (v, c') => ∃ k I' R', k + 24 * c + 2 ≤ 24 * c' ∧ RC k (567, 0, (Int32.ofNat (u)), mg (4562 + zn J) I J R) (567, 0, (Int32.ofNat (u + k)), mg (4562 + zn J) I' J R') ∧ RA R' ∧ FrK (Fm h t sc) I I' ∧ FR t R R' ∧ MSt I' (h + 1) t c' d sc ∧ CV I' (584 + 5 * h) v
/-- a machine that follows rec -/
def SimC (b : GB) (n : GN) (f : GF) (s : GS) (F : Nat) (rec : Rc) : Prop := ∀ (J : Nat → Nat → Int64) (a nn i : Nat) (nd : Nat → Nd) (sp : Nat → Nat) (ch : Ch) (c d h t sc u : Nat) (z : Int32) (I : Nat → Nat → Int32) (R : Nat → Nat → Option Nat), RA R → CEnv I b n f s → CT I a nn nd sp → (a + 8 ≤ 540 ∨ 1784 ≤ a) → TrO b nn nd sp → i < nn → ChO ch → d ≤ 12 → sp i + 31 * (12 - d) ≤ F → MSt I h (t + 1) c d sc → TKc I R t (Int32.ofNat (bkN (nd i))) (some a) (Int32.ofNat (i)) 0 z (-1) → CCh I h sc ch z → h ≤ c → sc ≤ c → c ≤ 200 → t + sp i + 31 * (12 - d) ≤ 480 → u + 4824 + 100 * (sp i + 31 * (12 - d)) ≤ 900000 + 24 * c → SimR J (rec nd sp i ch c d) c h t d sc u I R
section SM
variable {I : Nat → Nat → Int32} {J : Nat → Nat → Int64} {R : Nat → Nat → Option Nat} {β : Type} {h t c d sc u a nn i : Nat} {nd : Nat → Nd} {sp : Nat → Nat} {b : GB} {n : GN} {f : GF} {s : GS} {z more : Int32} {F : Nat} {rec : Rc} {ch : Ch}
theorem j241 {fl : Int32} {σ : xM} : f_X4_work_j241 σ 567 fl (Int32.ofNat (u)) = some (.inr (.inr (567, fl, (Int32.ofNat (u + 1)), σ))) := by
  unfold f_X4_work_j241
  rw [q_let, show (Int32.ofNat (u)) + (1 : Int32) = (Int32.ofNat (u + 1)) from n_add u 1]
/-- a turn on a task with a tree -/
theorem work_top {k : Nat} {node stage : Int32} (hR : RA R) (hS : MSt I h (t + 1) c d sc) (hK : TKc I R t (Int32.ofNat (k)) (some a) node stage z more) (hk : k ≤ 2) (ht : t < 480) (hu : u < 1000000) : f_X4_work_s4 (567, 0, (Int32.ofNat (u)), mg (4562 + zn J) I J R) = (if k = 1 then (f_X4_advanceChoice (mg (4562 + zn J) I J R) 567 (Int32.ofNat (t)) a node).bind (fun p41 => f_X4_work_j241 p41.2 567 p41.1 (Int32.ofNat (u))) else if k = 2 then (f_X4_advanceSum (mg (4562 + zn J) I J R) 567 (Int32.ofNat (t)) a node).bind (fun p40 => f_X4_work_j241 p40.2 567 p40.1 (Int32.ofNat (u))) else f_X4_work_j172 (mg (4562 + zn J) I J R) 567 (Int32.ofNat (u)) (Int32.ofNat (t)) a node stage) := by
  obtain ⟨s1, s2, s3, s4, s5⟩ := hS
  obtain ⟨k1, k2, k3, k4, k5, k6⟩ := hK
  unfold f_X4_work_s4
  dsimp only
  rw [q_let, q_let, q_let, q_let, if_neg (show ¬ (1000000 : Int32) ≤ (Int32.ofNat (u)) from fun y => absurd ((i32_le (k := 1000000) (by omega) (by omega)).mp y) (by omega)), gi_567, s2, if_neg (show ¬ (Int32.ofNat (t + 1)) ≤ (0 : Int32) from fun y => absurd ((i32_le (m := 0) (by omega) (by omega)).mp y) (by omega)), if_pos rfl, gi_567, s2, q_let, show (Int32.ofNat (t + 1)) - (1 : Int32) = (Int32.ofNat (t)) from n_sub (b := 1) (by omega), gr_567_7 hR, g_tree ht, gr_567_8 hR, ga_576 ht, gr_567_9 hR, ga_577 ht, k2, k3, k4, Option.elim_some, gr_567_6 hR, ga_574 ht, k1, if_neg (show ¬ (Int32.ofNat (k)) = (3 : Int32) from i32_ne (b := 3) (by omega) (by omega) (by omega)), gr_567_6 hR, ga_574 ht, k1]
  by_cases q1 : k = 1
  · rw [if_pos (show (Int32.ofNat (k)) = (1 : Int32) by rw [q1]; rfl), if_pos ok_567, if_pos q1]
  rw [if_neg (show ¬ (Int32.ofNat (k)) = (1 : Int32) from i32_ne (b := 1) (by omega) (by omega) q1), gr_567_6 hR, ga_574 ht, k1, if_neg q1]
  by_cases q2 : k = 2
  · rw [if_pos (show (Int32.ofNat (k)) = (2 : Int32) by rw [q2]; rfl), if_pos ok_567, if_pos q2]
  rw [if_neg (show ¬ (Int32.ofNat (k)) = (2 : Int32) from i32_ne (b := 2) (by omega) (by omega) q2), gr_567_6 hR, ga_574 ht, k1, if_neg q2, if_neg (show ¬ (Int32.ofNat (k)) = (4 : Int32) from i32_ne (b := 4) (by omega) (by omega) (by omega))]
theorem C_nextOperand {k : Nat} {kd : Int32} (hR : RA R) (hA : CT I a nn nd sp) (ha : a + 8 ≤ 567 ∨ 1784 ≤ a) (hT : TrO b nn nd sp) (hi : i < nn) (hk : k < aro nd i) (hS : MSt I h (t + 1) c d sc) (hK : TKc I R t kd (some a) (Int32.ofNat (i)) (Int32.ofNat (k)) z more) (ht : t + 1 < 480) : QK (f_X4_nextOperand (mg (4562 + zn J) I J R) 567 (Int32.ofNat (t)) a (Int32.ofNat (i))) (fun r => ∃ I', r = (0, mg (4562 + zn J) I' J (uR R (t + 1) (some a))) ∧ FrK (Fm h t sc) I I' ∧ MSt I' h (t + 2) c d sc ∧ TKc I' (uR R (t + 1) (some a)) t kd (some a) (Int32.ofNat (i)) (Int32.ofNat (k + 1)) z more ∧ TKc I' (uR R (t + 1) (some a)) (t + 1) (Int32.ofNat (bkN (nd (kid sp i k)))) (some a) (Int32.ofNat (kid sp i k)) 0 z (-1)) := by
  have ta := hA.1.1
  obtain ⟨k1, k2, k3, k4, k5, k6⟩ := hK
  have kid1 := (kid_sp hT.1 hi hk).1
  unfold f_X4_nextOperand
  rw [gr_567_9 hR, ga_577 (by omega), k4, if_pos (bT_xk ta), T_child hR hA hi hk, Option.bind_some, gr_567_9 hR, ga_577 (by omega), k4, gw_577 (by omega), show (Int32.ofNat (k)) + (1 : Int32) = (Int32.ofNat (k + 1)) from n_add k 1, gr_567_10 hR, ga_578 (by omega), up_n (by omega), k5, if_pos ok_567]
  have f1 : FrK (Fm h t sc) I (up I 577 t (Int32.ofNat (k + 1))) := fun x j y => by
    unfold Fm at y
    rw [up_n (by omega)]
  have hS1 : MSt (up I 577 t (Int32.ofNat (k + 1))) h (t + 1) c d sc := by
    obtain ⟨s1, s2, s3, s4, s5⟩ := hS
    exact ⟨by rw [up_n (by omega)]; exact s1, by rw [up_n (by omega)]; exact s2, by rw [up_n (by omega)]; exact s3, by rw [up_n (by omega)]; exact s4, by rw [up_n (by omega)]; exact s5⟩
  have v1 : up I 577 t (Int32.ofNat (k + 1)) 577 t = (Int32.ofNat (k + 1)) := up_s
  have v2 : ∀ x, x ≠ 577 → up I 577 t (Int32.ofNat (k + 1)) x t = I x t := fun x hx => up_n (by omega)
  have hA1 := CT_m hA ha f1
  generalize up I 577 t (Int32.ofNat (k + 1)) = I1 at *
  refine q_bind (C_begin hR hA1.1 kid1 (hT.2 _ kid1) hS1 ht) ?_
  rintro _ ⟨I2, rfl, hF2, hS2, hK2⟩
  have e2 : ∀ x, x = 574 ∨ (576 ≤ x ∧ x ≤ 579) → I2 x t = I1 x t := fun x hx => hF2 x t (by unfold Fm; omega)
  refine q_ok ⟨I2, rfl, FrK_tr f1 (Fm_mono hF2 (Nat.le_refl _) (by omega) (Nat.le_refl _)), hS2, ⟨?_, ?_, ?_, ?_, ?_, ?_⟩, hK2⟩
  · rw [e2 574 (by omega), v2 _ (by omega)]; exact k1
  · rw [uR_o (by omega)]; exact k2
  · rw [e2 576 (by omega), v2 _ (by omega)]; exact k3
  · rw [e2 577 (by omega)]; exact v1
  · rw [e2 578 (by omega), v2 _ (by omega)]; exact k5
  · rw [e2 579 (by omega), v2 _ (by omega)]; exact k6
/-- operands one after another -/
def SimA (J : Nat → Nat → Int64) (r : Nat ⊕ (List GV × Nat)) (k0 a i : Nat) (z more : Int32) (c h t d sc u : Nat) (I : Nat → Nat → Int32) (R : Nat → Nat → Option Nat) : Prop := match r with
  | .inl e => ∃ k I' R', u + k ≤ 1000000 ∧ RC k (567, 0, (Int32.ofNat (u)), mg (4562 + zn J) I J R) (567, (Int32.ofNat (e)), (Int32.ofNat (u + k)), mg (4562 + zn J) I' J R') ∧ RA R' ∧ FrK (Fm h t sc) I I' ∧ FR t R R'
  | .inr (vs, c') => ∃ k I' R', k + 24 * c ≤ 24 * c' + k0 ∧ RC k (567, 0, (Int32.ofNat (u)), mg (4562 + zn J) I J R) (567, 0, (Int32.ofNat (u + k)), mg (4562 + zn J) I' J R') ∧ RA R' ∧ FrK (Fm h t sc) I I' ∧ FR t R R' ∧ MSt I' (h + k0) (t + 1) c' d sc ∧ TKc I' R' t 0 (some a) (Int32.ofNat (i)) (Int32.ofNat (k0)) z more ∧ ∀ j v, vs.reverse[j]? = some v → CV I' (584 + 5 * (h + j)) v
theorem C_args (hsim : SimC b n f s F rec) (hro : RcO b F rec) (hR : RA R) (hE : CEnv I b n f s) (hA : CT I a nn nd sp) (ha : a + 8 ≤ 540 ∨ 1784 ≤ a) (hT : TrO b nn nd sp) (hi : i < nn) (hc : ChO ch) (hd : d ≤ 12) (hF : sp i + 31 * (12 - d) ≤ F + 1) (hS : MSt I h (t + 1) c d sc) (hK : TKc I R t 0 (some a) (Int32.ofNat (i)) 0 z more) (hC : CCh I h sc ch z) (h1 : h ≤ c) (h2 : sc ≤ c) (h3 : c ≤ 200) (h4 : t + sp i + 31 * (12 - d) ≤ 480) (hu : u + 4824 + 100 * (sp i + 31 * (12 - d)) ≤ 900000 + 24 * c) : ∀ k, k ≤ aro nd i → SimA J (evA rec nd sp i ch d k c) k a i z more c h t d sc u I R := by
  have a4 : aro nd i ≤ 4 := (NV_v (hT.2 i hi)).2.2.2.1
  intro k
  induction k with
  | zero =>
    intro _
    refine ⟨0, I, R, by omega, RC_0 _, hR, FrK_rfl, FR_rfl, hS, hK, fun j v hj => ?_⟩
    have hj : ([] : List GV)[j]? = some v := hj
    rw [List.getElem?_nil] at hj
    cases hj
  | succ k ih =>
    intro hk
    have g := ih (by omega)
    have ro := evA_RO hro hT hi hc hd hF k (by omega) c
    rw [evA_c]
    cases e : evA rec nd sp i ch d k c with
    | inl e1 =>
      rw [e] at g
      obtain ⟨kk, I1, R1, q1, q2⟩ := g
      exact ⟨kk, I1, R1, by omega, q2⟩
    | inr r =>
      obtain ⟨vs, c1⟩ := r
      rw [e] at g ro
      obtain ⟨kk, I1, R1, b1, rc1, hR1, f1, fr1, S1, K1, V1⟩ := g
      obtain ⟨r1, r2, r3, r4, r5⟩ := ro
      obtain ⟨a1, a2, a3⟩ := kid_sp hT.1 hi (show k < aro nd i by omega)
      have c200 : c1 ≤ 200 := by
        by_cases q : k = 0
        · have := r3 q; omega
        · exact r4 q
      have A1 := CT_m hA (by omega) f1
      -- the turn that begins the operand
      obtain ⟨p, ep, I2, rfl, f2, S2, K2, K2'⟩ := C_nextOperand (J := J) hR1 A1 (by omega) hT hi (show k < aro nd i by omega) S1 K1 (by omega)
      have st : RC 1 (567, 0, (Int32.ofNat (u + kk)), mg (4562 + zn J) I1 J R1) (567, 0, (Int32.ofNat (u + kk + 1)), mg (4562 + zn J) I2 J (uR R1 (t + 1) (some a))) := by
        refine RC_1 ?_
        obtain ⟨y1, y2, y3, y4, y5⟩ := A1.1.2.2.2 i hi
        rw [work_top (k := 0) hR1 S1 K1 (by omega) (by omega) (by omega), if_neg (by first | decide | omega), if_neg (by first | decide | omega)]
        unfold f_X4_work_j172
        rw [gr_567_6 hR1, ga_574 (by omega), K1.1, if_pos rfl, bT_g3 A1.1.1 hR1, bT_aI A1.1.1 (by have := CT_n A1; omega), y4, if_neg (show ¬ (Int32.ofNat ((nd i).2.2.2)) ≤ (Int32.ofNat (k)) from fun y => absurd ((i32_le (by omega) (by omega)).mp y) (show ¬ aro nd i ≤ k by omega)), if_pos ok_567, ep, Option.bind_some, j241]
      have hR2 : RA (uR R1 (t + 1) (some a)) := FR_RA (t := t + 1) (fun x j y => uR_o (by omega)) hR1
      have f12 := FrK_tr f1 (Fm_mono f2 (show h ≤ h + k by omega) (Nat.le_refl _) (Nat.le_refl _))
      have g2 := hsim J a nn (kid sp i k) nd sp ch c1 d (h + k) (t + 1) sc (u + kk + 1) z I2 (uR R1 (t + 1) (some a)) hR2 (CEnv_keep hE f12) (CT_m hA (by omega) f12) ha hT a1 hc hd (by omega) S2 K2' (CCh_keep ch sc z hC (Nat.le_refl _) (by omega) f12) (by omega) (by omega) c200 (by omega) (by omega)
      have fr12 : FR t R (uR R1 (t + 1) (some a)) := FR_tr fr1 (fun x j y => uR_o (by omega))
      have ro2 := hro nn nd sp (kid sp i k) ch c1 d hT a1 hc hd (by omega)
      dsimp only
      cases e2 : rec nd sp (kid sp i k) ch c1 d with
      | inl e3 =>
        rw [e2] at g2
        obtain ⟨k2, I3, R3, b3, rc3, hR3, f3, fr3⟩ := g2
        refine ⟨kk + 1 + k2, I3, R3, by omega, ?_, hR3, FrK_tr f12 (Fm_mono f3 (by omega) (by omega) (Nat.le_refl _)), FR_tr fr12 (FR_mono fr3 (by omega))⟩
        have := RC_tr (RC_tr rc1 st) rc3
        rw [show u + (kk + 1 + k2) = u + kk + 1 + k2 by omega]
        exact this
      | inr r2 =>
        obtain ⟨v, c2⟩ := r2
        rw [e2] at g2 ro2
        obtain ⟨k2, I3, R3, b3, rc3, hR3, f3, fr3, S3, V3⟩ := g2
        refine ⟨kk + 1 + k2, I3, R3, by omega, ?_, hR3, FrK_tr f12 (Fm_mono f3 (by omega) (by omega) (Nat.le_refl _)), FR_tr fr12 (FR_mono fr3 (by omega)), S3, ?_, ?_⟩
        · have := RC_tr (RC_tr rc1 st) rc3
          rw [show u + (kk + 1 + k2) = u + kk + 1 + k2 by omega]
          exact this
        · obtain ⟨z1, z2, z3, z4, z5, z6⟩ := K2
          have e3 : ∀ x, x = 574 ∨ (576 ≤ x ∧ x ≤ 579) → I3 x t = I2 x t := fun x hx => f3 x t (by unfold Fm; omega)
          exact ⟨by rw [e3 574 (by omega)]; exact z1, by rw [fr3 575 t (by omega)]; exact z2, by rw [e3 576 (by omega)]; exact z3, by rw [e3 577 (by omega)]; exact z4, by rw [e3 578 (by omega)]; exact z5, by rw [e3 579 (by omega)]; exact z6⟩
        · intro j w hj
          rw [List.reverse_cons] at hj
          by_cases q : j < vs.reverse.length
          · rw [List.getElem?_append_left q] at hj
            rw [List.length_reverse, r1] at q
            refine CV_keep (V1 j w hj) (fun x g1 g2 => ?_)
            funext y
            rw [f3 x y (by unfold Fm; omega), f2 x y (by unfold Fm; omega)]
          · rw [List.getElem?_append_right (by omega), List.length_reverse, r1] at hj
            rw [List.length_reverse, r1] at q
            by_cases q2 : j = k
            · rw [q2, Nat.sub_self] at hj
              have : v = w := Option.some.inj hj
              rw [← this, q2]
              exact V3
            · rw [List.getElem?_eq_none (by show 1 ≤ j - k; omega)] at hj
              cases hj
end SM
