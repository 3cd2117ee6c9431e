/-! the class's machine: a tree's postfix is reckoned -/
section LNM
variable {I : Nat → Nat → Int32} {J : Nat → Nat → Int64} {R : Nat → Nat → Option Nat} {h c d u a nn i : Nat} {nd : Nat → Nd} {sp : Nat → Nat} {b : GB} {n : GN} {f : GF} {s : GS} {F : Nat}
theorem work_line {p : Nat} (hR : RA R) (hA : CT I a nn nd sp) (ha : a + 8 ≤ 540 ∨ 1784 ≤ a) (hi : i < nn) (hp : p = pl sp i) (hS : MSt I h 1 c d 0) (hK : TKc I R 0 4 (some a) 0 (Int32.ofNat (p)) (-1) (-1)) (hu : u < 1000000) (x : Int32 × xM) (hx : f_X4_give (mg (4562 + zn J) (up I 577 0 (Int32.ofNat (p + 1))) J R) 567 a (Int32.ofNat (i)) (-1) = some x) : f_X4_work_s4 (567, 0, (Int32.ofNat (u)), mg (4562 + zn J) I J R) = some (.inr (.inr (567, x.1, (Int32.ofNat (u + 1)), x.2))) := by
  have ta := hA.1.1
  have nn80 := (CT_n hA).2
  have pn : p < nn := by rw [hp]; exact pl_lt hA.2.1 hi
  obtain ⟨s1, s2, s3, s4, s5⟩ := hS
  obtain ⟨k1, k2, k3, k4, k5, k6⟩ := hK
  have hA1 : CT (up I 577 0 (Int32.ofNat (p + 1))) a nn nd sp := CT_keep hA (fun x g1 g2 => up_r (by omega))
  unfold f_X4_work_s4
  dsimp only
  rw [q_let, q_let, q_let, q_let, if_neg (show ¬ (1000000 : Int32) ≤ (Int32.ofNat (u)) from fun y => absurd ((i32_le (k := 1000000) (by omega) (by omega)).mp y) (by omega)), gi_567, s2, if_neg (by first | decide | omega), if_pos rfl, gi_567, s2, q_let, show (Int32.ofNat (1)) - (1 : Int32) = (Int32.ofNat (0)) from rfl, gr_567_7 hR, g_tree (by omega), gr_567_8 hR, ga_576 (by omega), gr_567_9 hR, ga_577 (by omega), k2, k3, k4, Option.elim_some, gr_567_6 hR, ga_574 (by omega), k1, if_neg (by first | decide | omega), gr_567_6 hR, ga_574 (by omega), k1, if_neg (by first | decide | omega), gr_567_6 hR, ga_574 (by omega), k1, if_neg (by first | decide | omega), gr_567_6 hR, ga_574 (by omega), k1, if_pos rfl, bT_gI ta, hA.1.2.1, if_neg (show ¬ (Int32.ofNat (nn)) ≤ (Int32.ofNat (p)) from fun y => absurd ((i32_le (by omega) (by omega)).mp y) (by omega)), gr_567_9 hR, ga_577 (by omega), k4, show (Int32.ofNat (p)) + (1 : Int32) = (Int32.ofNat (p + 1)) from n_add p 1, gw_577 (by omega), if_pos (bT_xk ta), T_nodeAt hR hA1 hi hp, Option.bind_some, if_pos ok_567, hx, Option.bind_some, j241]
def SimN (J : Nat → Nat → Int64) (r : Rs) (p a : Nat) (c h d u : Nat) (I : Nat → Nat → Int32) (R : Nat → Nat → Option Nat) : Prop := match r with
  | .inl e => ∃ k I' R', u + k ≤ 1000000 ∧ RC k (567, 0, (Int32.ofNat (u)), mg (4562 + zn J) I J R) (567, (Int32.ofNat (e)), (Int32.ofNat (u + k)), mg (4562 + zn J) I' J R') ∧ RA R' ∧ FrK (Fm h 0 0) I I' ∧ FR 0 R R'
  | .inr (v, c') => ∃ k I' R', k + 24 * c + 10 ≤ 24 * c' ∧ RC k (567, 0, (Int32.ofNat (u)), mg (4562 + zn J) I J R) (567, 0, (Int32.ofNat (u + k)), mg (4562 + zn J) I' J R') ∧ RA R' ∧ FrK (Fm h 0 0) I I' ∧ FR 0 R R' ∧ MSt I' (h + 1) 1 c' d 0 ∧ TKc I' R' 0 4 (some a) 0 (Int32.ofNat (p)) (-1) (-1) ∧ CV I' (584 + 5 * h) v
def SimNA (J : Nat → Nat → Int64) (r : Nat ⊕ (List GV × Nat)) (k0 p a : Nat) (c h d u : Nat) (I : Nat → Nat → Int32) (R : Nat → Nat → Option Nat) : Prop := match r with
  | .inl e => ∃ k I' R', u + k ≤ 1000000 ∧ RC k (567, 0, (Int32.ofNat (u)), mg (4562 + zn J) I J R) (567, (Int32.ofNat (e)), (Int32.ofNat (u + k)), mg (4562 + zn J) I' J R') ∧ RA R' ∧ FrK (Fm h 0 0) I I' ∧ FR 0 R R'
  | .inr (vs, c') => ∃ k I' R', k + 24 * c ≤ 24 * c' ∧ RC k (567, 0, (Int32.ofNat (u)), mg (4562 + zn J) I J R) (567, 0, (Int32.ofNat (u + k)), mg (4562 + zn J) I' J R') ∧ RA R' ∧ FrK (Fm h 0 0) I I' ∧ FR 0 R R' ∧ MSt I' (h + k0) 1 c' d 0 ∧ TKc I' R' 0 4 (some a) 0 (Int32.ofNat (p)) (-1) (-1) ∧ ∀ j v, vs.reverse[j]? = some v → CV I' (584 + 5 * (h + j)) v
/-- the postfix of a part of a tree -/
theorem C_lineN (hE : EnvOK b n f s) (ha : a + 8 ≤ 540 ∨ 1784 ≤ a) (hT : TrO b nn nd sp) (hlz : ∀ i, i < nn → bkN (nd i) = 0) (hd : d ≤ 12) : ∀ (F i c h u : Nat) (J : Nat → Nat → Int64) (I : Nat → Nat → Int32) (R : Nat → Nat → Option Nat), i < nn → sp i + 31 * (12 - d) ≤ F → sp i ≤ 80 → RA R → CEnv I b n f s → CT I a nn nd sp → MSt I h 1 c d 0 → TKc I R 0 4 (some a) 0 (Int32.ofNat (pl sp i + 1 - sp i)) (-1) (-1) → h ≤ c → c ≤ 200 → u + 4824 + 100 * (sp i + 31 * (12 - d)) ≤ 900000 + 24 * c → SimN J (ev b n f s F nd sp i [] c d) (pl sp i + 1) a c h d u I R := by
  intro F
  induction F with
  | zero =>
    intro i c h u J I R hi hF
    have := (hT.1.2.2.2 i hi).1
    omega
  | succ F ih =>
    intro i c h u J I R hi hF h80 hR hE' hA hS hK h1 h3 hu
    have s1 := (hT.1.2.2.2 i hi).1
    have plg := pl_ge hT.1 hi
    have a4 : aro nd i ≤ 4 := (NV_v (hT.2 i hi)).2.2.2.1
    have hc0 : ChO [] := fun e he => by cases he
    have hsim := C_ev hE F
    have hro := ev_RO hE F
    rw [ev_c]
    unfold evN
    obtain ⟨b1, b2, -⟩ := NV_bk (hT.2 i hi)
    have b0 := hlz i hi
    have nq1 : ¬ ((nd i).1 = 2 ∧ vN (nd i) = 105) := fun y => by
      have : bkN (nd i) = 1 := if_pos y
      omega
    have nq2 : ¬ ((nd i).1 = 2 ∧ vN (nd i) = 115) := fun y => by
      have : bkN (nd i) = 2 := (if_neg nq1).trans (if_pos y)
      omega
    rw [if_neg nq1, if_neg nq2]
    -- the operands
    have args : ∀ k, k ≤ aro nd i → SimNA J (evA (ev b n f s F) nd sp i [] d k c) k (pl sp i + 1 - sp i + (kid sp i k - i - 1)) a c h d u I R := by
      intro k
      induction k with
      | zero =>
        intro _
        refine ⟨0, I, R, by omega, RC_0 _, hR, FrK_rfl, FR_rfl, hS, ?_, fun j v hj => ?_⟩
        · rw [show kid sp i 0 = i + 1 from rfl, show i + 1 - i - 1 = 0 by omega]
          exact hK
        · have hj : ([] : List GV)[j]? = some v := hj
          rw [List.getElem?_nil] at hj
          cases hj
      | succ k ihk =>
        intro hk
        have g := ihk (by omega)
        have ro := evA_RO hro hT hi hc0 (d := d) (by omega) (by omega) k (by omega) c
        rw [evA_c]
        cases e : evA (ev b n f s F) nd sp i [] d k c with
        | inl e1 => rw [e] at g; exact g
        | inr r =>
          obtain ⟨vs, c1⟩ := r
          rw [e] at g ro
          obtain ⟨kk, I1, R1, g1, rc1, hR1, f1, fr1, S1, K1, V1⟩ := g
          obtain ⟨r1, r2, r3, r4, r5⟩ := ro
          obtain ⟨a1, a2, a3⟩ := kid_sp hT.1 hi (show k < aro nd i by omega)
          have pc := pl_child hT.1 hi (show k < aro nd i by omega)
          have kg : i + 1 ≤ kid sp i k := (kid_in hT.1 hi (show k < aro nd i by omega)).1
          have c200 : c1 ≤ 200 := by
            by_cases q : k = 0
            · have := r3 q; omega
            · exact r4 q
          have K1 : TKc I1 R1 0 4 (some a) 0 (Int32.ofNat (pl sp (kid sp i k) + 1 - sp (kid sp i k))) (-1) (-1) := by
            rw [show pl sp (kid sp i k) + 1 - sp (kid sp i k) = pl sp i + 1 - sp i + (kid sp i k - i - 1) by omega]
            exact K1
          have g2 := ih (kid sp i k) c1 (h + k) (u + kk) J I1 R1 a1 (by omega) (by omega) hR1 (CEnv_keep hE' f1) (CT_m hA (by omega) f1) S1 K1 (by omega) c200 (by omega)
          have ro2 := hro nn nd sp (kid sp i k) [] c1 d hT a1 hc0 (by omega) (by omega)
          dsimp only
          cases e2 : ev b n f s F nd sp (kid sp i k) [] c1 d with
          | inl e3 =>
            rw [e2] at g2
            obtain ⟨k2, I3, R3, b3, rc3, hR3, f3, fr3⟩ := g2
            refine ⟨kk + k2, I3, R3, by omega, ?_, hR3, FrK_tr f1 (Fm_mono f3 (by omega) (Nat.le_refl _) (Nat.le_refl _)), FR_tr fr1 fr3⟩
            rw [show u + (kk + k2) = u + kk + k2 by omega]
            exact RC_tr rc1 rc3
          | inr r2 =>
            obtain ⟨v, c2⟩ := r2
            rw [e2] at g2
            obtain ⟨k2, I3, R3, b3, rc3, hR3, f3, fr3, S3, K3, V3⟩ := g2
            refine ⟨kk + k2, I3, R3, by omega, ?_, hR3, FrK_tr f1 (Fm_mono f3 (by omega) (Nat.le_refl _) (Nat.le_refl _)), FR_tr fr1 fr3, S3, ?_, ?_⟩
            · rw [show u + (kk + k2) = u + kk + k2 by omega]
              exact RC_tr rc1 rc3
            · rw [show kid sp i (k + 1) = kid sp i k + sp (kid sp i k) from rfl, show pl sp i + 1 - sp i + (kid sp i k + sp (kid sp i k) - i - 1) = pl sp (kid sp i k) + 1 by omega]
              exact K3
            · intro j x hj
              rw [List.reverse_cons] at hj
              by_cases q : j < vs.reverse.length
              · rw [List.getElem?_append_left q] at hj
                rw [List.length_reverse, r1] at q
                refine CV_keep (V1 j x hj) (fun y g1 g2 => ?_)
                funext w
                rw [f3 y w (by unfold Fm; omega)]
              · rw [List.getElem?_append_right (by omega), List.length_reverse, r1] at hj
                rw [List.length_reverse, r1] at q
                by_cases q2 : j = k
                · rw [q2, Nat.sub_self] at hj
                  have : v = x := Option.some.inj hj
                  rw [← this, q2]
                  exact V3
                · rw [List.getElem?_eq_none (by show 1 ≤ j - k; omega)] at hj
                  cases hj
    have g := args (aro nd i) (Nat.le_refl _)
    have ro := evA_RO hro hT hi hc0 (d := d) (by omega) (by omega) (aro nd i) (Nat.le_refl _) c
    cases e : evA (ev b n f s F) nd sp i [] d (aro nd i) c with
    | inl e1 => rw [e] at g; exact g
    | inr r =>
      obtain ⟨vs, c1⟩ := r
      rw [e] at g ro
      obtain ⟨kk, I1, R1, g1, rc1, hR1, f1, fr1, S1, K1, V1⟩ := g
      obtain ⟨r1, r2, r3, r4, r5⟩ := ro
      have c200 : c1 ≤ 200 := by
        by_cases q : aro nd i = 0
        · have := r3 q; omega
        · exact r4 q
      have ke := (hT.1.2.2.2 i hi).2.2.1
      have K1 : TKc I1 R1 0 4 (some a) 0 (Int32.ofNat (pl sp i)) (-1) (-1) := by
        rw [ke, show pl sp i + 1 - sp i + (i + sp i - i - 1) = pl sp i by omega] at K1
        exact K1
      have A1 := CT_m hA (by omega) f1
      have f2 : FrK (Fm h 0 0) I1 (up I1 577 0 (Int32.ofNat (pl sp i + 1))) := fun x j y => by
        unfold Fm at y
        rw [up_n (by omega)]
      have S2 : MSt (up I1 577 0 (Int32.ofNat (pl sp i + 1))) (h + aro nd i) 1 c1 d 0 := by
        obtain ⟨z1, z2, z3, z4, z5⟩ := S1
        exact ⟨by rw [up_n (by omega)]; exact z1, by rw [up_n (by omega)]; exact z2, by rw [up_n (by omega)]; exact z3, by rw [up_n (by omega)]; exact z4, by rw [up_n (by omega)]; exact z5⟩
      have K2 : TKc (up I1 577 0 (Int32.ofNat (pl sp i + 1))) R1 0 4 (some a) 0 (Int32.ofNat (pl sp i + 1)) (-1) (-1) := by
        obtain ⟨z1, z2, z3, z4, z5, z6⟩ := K1
        exact ⟨by rw [up_n (by omega)]; exact z1, z2, by rw [up_n (by omega)]; exact z3, up_s, by rw [up_n (by omega)]; exact z5, by rw [up_n (by omega)]; exact z6⟩
      have V2 : ∀ j v, vs.reverse[j]? = some v → CV (up I1 577 0 (Int32.ofNat (pl sp i + 1))) (584 + 5 * (h + j)) v := fun j v hj => CV_keep (V1 j v hj) (fun x g1 g2 => up_r (by omega))
      have turn := fun x hx => work_line (J := J) (u := u + kk) hR1 A1 ha hi rfl S1 K1 (by omega) x hx
      have f12 := FrK_tr f1 f2
      generalize up I1 577 0 (Int32.ofNat (pl sp i + 1)) = I2 at *
      have g2 := C_giveS (J := J) (h := h) (t := 1) (u := u + kk) hsim hro hR1 (CEnv_keep hE' f12) (CT_m hA (by omega) f12) ha hT hi hc0 (by omega) (by omega) r1 rfl r5 S2 turn V2 rfl (by omega) (by omega) c200 (by omega) (by omega)
      dsimp only
      generalize evG (ev b n f s F) b n f s (nd i) [] vs c1 d = r at g2
      cases r with
      | inl e3 =>
        obtain ⟨k2, I3, R3, b3, rc3, hR3, f3, fr3⟩ := g2
        refine ⟨kk + k2, I3, R3, by omega, ?_, hR3, FrK_tr f12 (Fm_mono f3 (Nat.le_refl _) (by omega) (Nat.le_refl _)), FR_tr fr1 (FR_mono fr3 (by omega))⟩
        rw [show u + (kk + k2) = u + kk + k2 by omega]
        exact RC_tr rc1 rc3
      | inr r2 =>
        obtain ⟨v, c'⟩ := r2
        obtain ⟨k2, I3, R3, b3, rc3, hR3, f3, fr3, S3, V3⟩ := g2
        refine ⟨kk + k2, I3, R3, by omega, ?_, hR3, FrK_tr f12 (Fm_mono f3 (Nat.le_refl _) (by omega) (Nat.le_refl _)), FR_tr fr1 (FR_mono fr3 (by omega)), S3, TK_keep K2 f3 fr3, V3⟩
        rw [show u + (kk + k2) = u + kk + k2 by omega]
        exact RC_tr rc1 rc3
theorem C_reckonLine (hR : RA R) (hE : CEnv I b n f s) (hA : CT I a nn nd sp) (ha : a + 8 ≤ 540 ∨ 1784 ≤ a) (hT : TrO b nn nd sp) (hn : nn ≤ 80) (hlz : ∀ i, i < nn → bkN (nd i) = 0) : QK (f_X4_startLine (mg (4562 + zn J) I J R) 567 a) (fun σ => ∃ I1 R1, σ = mg (4562 + zn J) I1 J R1 ∧ RA R1 ∧ FrK (Fm 0 0 0) I I1 ∧ QK (f_X4_work σ 567) (CRes J (evT b n f s nd sp) I1 R1)) := by
  unfold f_X4_startLine
  rw [if_pos ok_567]
  refine q_bind C_restart ?_
  rintro _ ⟨I1, rfl, f1, S1⟩
  rw [if_pos ok_567]
  have A1 := CT_m hA (by omega) f1
  have n0 := hT.1.1
  refine q_bind (C_addTask (o := some a) hA.1.1 hR S1 (by omega)) ?_
  rintro _ ⟨I2, rfl, f2, S2, K2⟩
  have hR2 : RA (uR R 0 (some a)) := FR_RA (t := 0) (fun x j y => uR_o (by omega)) hR
  have f12 := FrK_tr f1 f2
  have s0 := hT.1.2.2.1
  refine q_ok ⟨I2, _, rfl, hR2, f12, ?_⟩
  have A2 := CT_m hA (by omega) f12
  have pl0 := pl_0 hT.1
  have K2' : TKc I2 (uR R 0 (some a)) 0 4 (some a) 0 (Int32.ofNat (pl sp 0 + 1 - sp 0)) (-1) (-1) := by
    rw [pl0, s0, show nn - 1 + 1 - nn = 0 by omega]
    exact K2
  have g := C_lineN (d := 0) hE.2.2.2.2 ha hT hlz (by omega) 452 0 0 0 0 J I2 (uR R 0 (some a)) n0 (by omega) (by omega) hR2 (CEnv_keep hE f12) A2 S2 K2' (by omega) (by omega) (by omega)
  have ro := evT_RO hE.2.2.2.2 hT hn
  refine C_workR ro ?_
  have g : SimN J (evT b n f s nd sp) (pl sp 0 + 1) a 0 0 0 0 I2 (uR R 0 (some a)) := g
  generalize evT b n f s nd sp = r at *
  cases r with
  | inl e => exact g
  | inr r2 =>
    obtain ⟨v, c'⟩ := r2
    have ro : 0 < c' ∧ c' ≤ 200 ∧ Gd v := ro
    obtain ⟨k, I3, R3, b3, rc3, hR3, f3, fr3, S3, K3, V3⟩ := g
    have A3 := CT_m A2 (by omega) f3
    have ta := A3.1.1
    have st : RC 1 (567, 0, (Int32.ofNat (0 + k)), mg (4562 + zn J) I3 J R3) (567, 0, (Int32.ofNat (0 + k + 1)), mg (4562 + zn J) (up I3 567 12 0) J R3) := by
      refine RC_1 ?_
      obtain ⟨z1, z2, z3, z4, z5⟩ := S3
      obtain ⟨k1, k2, k3, k4, k5, k6⟩ := K3
      rw [pl0, show nn - 1 + 1 = nn by omega] at k4
      unfold f_X4_work_s4 f_X4_work_j172 f_X4_work_j207 f_X4_work_j240
      dsimp only
      rw [q_let, q_let, q_let, q_let, if_neg (show ¬ (1000000 : Int32) ≤ (Int32.ofNat (0 + k)) from fun y => absurd ((i32_le (k := 1000000) (by omega) (by omega)).mp y) (by omega)), gi_567, z2, if_neg (by first | decide | omega), if_pos rfl, gi_567, z2, q_let, show (Int32.ofNat (1)) - (1 : Int32) = (Int32.ofNat (0)) from rfl, gr_567_7 hR3, g_tree (by omega), gr_567_8 hR3, ga_576 (by omega), gr_567_9 hR3, ga_577 (by omega), k2, k3, k4, Option.elim_some, gr_567_6 hR3, ga_574 (by omega), k1, if_neg (by first | decide | omega), gr_567_6 hR3, ga_574 (by omega), k1, if_neg (by first | decide | omega), gr_567_6 hR3, ga_574 (by omega), k1, if_neg (by first | decide | omega), gr_567_6 hR3, ga_574 (by omega), k1, if_pos rfl, bT_gI ta, A3.1.2.1, if_pos ((i32_le (by omega) (by omega)).mpr (Nat.le_refl _)), gr_567_6 hR3, ga_574 (by omega), k1, if_neg (by first | decide | omega), gs_567, gr_567_6 hR3, ga_574 (by omega), up_n (by omega), k1, if_pos rfl, j241]
      rfl
    obtain ⟨z1, z2, z3, z4, z5⟩ := S3
    refine ⟨k + 1, up I3 567 12 0, R3, by omega, ?_, hR3, FrK_tr f3 (fun x j y => by unfold Fm at y; rw [up_n (by omega)]), fr3, ⟨by rw [up_n (by omega)]; exact z1, by rw [up_s]; rfl, by rw [up_n (by omega)]; exact z3, by rw [up_n (by omega)]; exact z4, by rw [up_n (by omega)]; exact z5⟩, CV_keep V3 (fun x g1 g2 => up_r (by omega))⟩
    rw [show 0 + (k + 1) = 0 + k + 1 by omega]
    exact RC_tr rc3 st
end LNM
