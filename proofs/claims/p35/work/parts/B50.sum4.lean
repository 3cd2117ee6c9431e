/-! the class's machine follows evL -/
def SimL (J : Nat → Nat → Int64) (r : Rs) (j N a i : Nat) (nm : Nat) (lo : Int) (z : Int32) (c h t d sc u : Nat) (I : Nat → Nat → Int32) (R : Nat → Nat → Option Nat) : Prop := match r with
  | .inl e => ∃ k I' R', u + k ≤ 1000000 ∧ RC k (567, 0, (Int32.ofNat (u)), mg (4562 + zn J) I J R) (567, (Int32.ofNat (e)), (Int32.ofNat (u + k)), mg (4562 + zn J) I' J R') ∧ RA R' ∧ FrK (Fm h t sc) I I' ∧ FR t R R'
  | .inr (v, c') => ∃ k I' R', k + 24 * c ≤ 24 * c' ∧ RC k (567, 0, (Int32.ofNat (u)), mg (4562 + zn J) I J R) (567, 0, (Int32.ofNat (u + k)), mg (4562 + zn J) I' J R') ∧ RA R' ∧ FrK (Fm h t sc) I I' ∧ FR t R R' ∧ MSt I' (h + 2) (t + 1) c' d (sc + 1) ∧ TKc I' R' t 2 (some a) (Int32.ofNat (i)) 4 z (Int32.ofNat (N - j)) ∧ CV I' (584 + 5 * h) (lo + j, 1) ∧ CV I' (584 + 5 * (h + 1)) v ∧ I' 580 sc = (Int32.ofNat (nm)) ∧ I' 581 sc = 0 ∧ I' 582 sc = (Int32.ofNat (h)) ∧ I' 583 sc = z
section SUM4
variable {I : Nat → Nat → Int32} {J : Nat → Nat → Int64} {R : Nat → Nat → Option Nat} {h t c d sc u a nn i N nm : Nat} {nd : Nat → Nd} {sp : Nat → Nat} {b : GB} {n : GN} {f : GF} {s : GS} {z : Int32} {F : Nat} {rec : Rc} {ch : Ch} {lo : Int}
theorem C_evL (hsim : SimC b n f s F rec) (hro : RcO b F rec) (hR : RA R) (hE : CEnv I b n f s) (hA : CT I a nn nd sp) (ha : a + 8 ≤ 540 ∨ 1784 ≤ a) (hT : TrO b nn nd sp) (hi : i < nn) (ha4 : aro nd i = 4) (hc : ChO ch) (hd : d ≤ 12) (hF : sp i + 31 * (12 - d) ≤ F + 1) (hN : N ≤ 30) (hlo : lo.natAbs < 2 ^ 200) (hrg : ∀ k : Nat, k < N → (lo + k).natAbs < 2 ^ 200) (hnm : 97 ≤ nm ∧ nm < 123) (hS : MSt I (h + 2) (t + 1) c d (sc + 1)) (hK : TKc I R t 2 (some a) (Int32.ofNat (i)) 4 z (Int32.ofNat (N))) (V0 : CV I (584 + 5 * h) (lo, 1)) (V1 : CV I (584 + 5 * (h + 1)) (0, 1)) (q1 : I 580 sc = (Int32.ofNat (nm))) (q2' : I 581 sc = 0) (q3 : I 582 sc = (Int32.ofNat (h))) (q4 : I 583 sc = z) (hC : CCh I h sc ch z) (h1 : h + 2 ≤ c) (h2 : sc + 1 ≤ c) (h3 : c ≤ 200) (h4 : t + sp i + 31 * (12 - d) ≤ 480) (hu : u + 4785 + 100 * (sp i + 31 * (12 - d)) ≤ 900000 + 24 * c) : ∀ j, j ≤ N → SimL J (evL rec nd sp i ch nm lo d j c) j N a i nm lo z c h t d sc u I R := by
  have s1 := (hT.1.2.2.2 i hi).1
  intro j
  induction j with
  | zero => intro _; exact ⟨0, I, R, by omega, RC_0 _, hR, FrK_rfl, FR_rfl, hS, hK, by rw [show lo + ((0 : Nat) : Int) = lo by omega]; exact V0, V1, q1, q2', q3, q4⟩
  | succ j ih =>
    intro hj
    have g := ih (by omega)
    have ro := evL_RO hro hT hi ha4 hc (nm := nm) (lo := lo) hd hF hlo j (fun k hk => hrg k (by omega)) c
    rw [evL_c]
    cases e : evL rec nd sp i ch nm lo d j c with
    | inl e1 => rw [e] at g; exact g
    | inr r =>
      obtain ⟨tt, c1⟩ := r
      rw [e] at g ro
      obtain ⟨r1, r2, r3⟩ := ro
      obtain ⟨kk, I1, R1, b1, rc1, hR1, f1, fr1, S1, K1, W0, W1, p1, p2, p3, p4⟩ := g
      obtain ⟨a1, a2, a3⟩ := kid_sp hT.1 hi (show 3 < aro nd i by omega)
      have A1 := CT_m hA (by omega) f1
      have eN : N - j = (N - (j + 1)) + 1 := by omega
      rw [eN] at K1
      obtain ⟨_, e2, I2, rfl, f2, S2, K2, K2'⟩ := C_sumNext (J := J) hR1 A1 (by omega) hT hi (by omega) S1 K1 (by omega) (by omega) (by omega)
      have hR2 : RA (uR R1 (t + 1) (some a)) := FR_RA (t := t + 1) (fun x y w => uR_o (by omega)) hR1
      have st : RC 1 (567, 0, (Int32.ofNat (u + kk)), mg (4562 + zn J) I1 J R1) (567, 0, (Int32.ofNat (u + kk + 1)), mg (4562 + zn J) I2 J (uR R1 (t + 1) (some a))) := by
        refine RC_1 ?_
        rw [work_top (k := 2) hR1 S1 K1 (by omega) (by omega) (by omega), if_neg (by first | decide | omega), if_pos rfl]
        unfold f_X4_advanceSum
        rw [gr_567_9 hR1, ga_577 (by omega), K1.2.2.2.1, if_neg (by first | decide | omega), if_neg (by first | decide | omega), if_neg (by first | decide | omega), if_neg (by first | decide | omega), if_pos rfl, if_pos ok_567, e2, Option.bind_some, Option.bind_some, j241]
      have f12 := FrK_tr f1 (Fm_mono f2 (show h ≤ h + 2 by omega) (Nat.le_refl t) (show sc ≤ sc + 1 by omega))
      have fr12 : FR t R (uR R1 (t + 1) (some a)) := FR_tr fr1 (fun x y w => uR_o (by omega))
      have cell : ∀ y, 580 ≤ y → y ≤ 583 → I2 y sc = I1 y sc := fun y g1 g2 => f2 y sc (by unfold Fm; omega)
      have V02 : CV I2 (584 + 5 * h) (lo + j, 1) := CV_keep W0 (fun y g1 g2 => by
        funext w
        exact f2 y w (by unfold Fm; omega))
      have V12 : CV I2 (584 + 5 * (h + 1)) tt := CV_keep W1 (fun y g1 g2 => by
        funext w
        exact f2 y w (by unfold Fm; omega))
      have C2 : CCh I2 (h + 2) (sc + 1) ((nm, [(lo + j, 1)]) :: ch) (Int32.ofNat (sc)) := ⟨sc, h, by omega, rfl, by rw [cell 582 (by omega) (by omega)]; exact p3, Or.inr ⟨hnm.1, hnm.2, by rw [cell 580 (by omega) (by omega)]; exact p1, by omega, ⟨_, rfl, V02⟩, by rw [cell 583 (by omega) (by omega), p4]; exact CCh_keep ch sc z hC (Nat.le_refl _) (by omega) f12⟩⟩
      have hc2 : ChO ((nm, [(lo + j, 1)]) :: ch) := fun x hx v hv => by
        rcases List.mem_cons.mp hx with y | y
        · rw [y] at hv
          rw [List.mem_singleton.mp hv]
          exact ⟨hrg j (by omega), (by decide : 0 < 1), (by decide : 1 < 2 ^ 200), Nat.gcd_one_right _⟩
        · exact hc x y v hv
      have g2 := hsim J a nn (kid sp i 3) nd sp ((nm, [(lo + j, 1)]) :: ch) c1 d (h + 2) (t + 1) (sc + 1) (u + kk + 1) (Int32.ofNat (sc)) I2 (uR R1 (t + 1) (some a)) hR2 (CEnv_keep hE f12) (CT_m hA (by omega) f12) ha hT a1 hc2 hd (by omega) S2 K2' C2 (by omega) (by omega) (by omega) (by omega) (by omega)
      have ro2 := hro nn nd sp (kid sp i 3) ((nm, [(lo + j, 1)]) :: ch) c1 d hT a1 hc2 hd (by omega)
      dsimp only
      cases e3 : rec nd sp (kid sp i 3) ((nm, [(lo + j, 1)]) :: ch) c1 d with
      | inl e4 =>
        rw [e3] at g2
        obtain ⟨k3, I3, R3, b3, rc3, hR3, f3, fr3⟩ := g2
        refine ⟨kk + 1 + k3, I3, R3, by omega, ?_, hR3, FrK_tr f12 (Fm_mono f3 (by omega) (by omega) (by omega)), FR_tr fr12 (FR_mono fr3 (by omega))⟩
        rw [show u + (kk + 1 + k3) = u + kk + 1 + k3 by omega]
        exact RC_tr (RC_tr rc1 st) rc3
      | inr r4 =>
        obtain ⟨v, c2⟩ := r4
        rw [e3] at g2 ro2
        obtain ⟨l1, l2, l3⟩ := ro2
        obtain ⟨k3, I3, R3, b3, rc3, hR3, f3, fr3, S3, V3⟩ := g2
        have K3 := TK_keep K2 f3 fr3
        have f13 := FrK_tr f12 (Fm_mono f3 (show h ≤ h + 2 by omega) (show t ≤ t + 1 by omega) (show sc ≤ sc + 1 by omega))
        have V03 : CV I3 (584 + 5 * h) (lo + j, 1) := CV_keep V02 (fun y g1 g2 => by
          funext w
          exact f3 y w (by unfold Fm; omega))
        have V13 : CV I3 (584 + 5 * (h + 1)) tt := CV_keep V12 (fun y g1 g2 => by
          funext w
          exact f3 y w (by unfold Fm; omega))
        obtain ⟨x5, e5, h5⟩ := C_addToSum (J := J) hR3 S3 K3 (by omega) (by omega) (by omega) (hrg j (by omega)) V03 V13 V3 r3 l3
        have tn : f_X4_work_s4 (567, 0, (Int32.ofNat (u + kk + 1 + k3)), mg (4562 + zn J) I3 J R3) = some (.inr (.inr (567, x5.1, (Int32.ofNat (u + kk + 1 + k3 + 1)), x5.2))) := by
          rw [work_top (k := 2) hR3 S3 K3 (by omega) (by omega) (by omega), if_neg (by first | decide | omega), if_pos rfl]
          unfold f_X4_advanceSum f_X4_advanceSum_j139
          rw [gr_567_9 hR3, ga_577 (by omega), K3.2.2.2.1, if_neg (by first | decide | omega), if_neg (by first | decide | omega), if_neg (by first | decide | omega), if_neg (by first | decide | omega), if_neg (by first | decide | omega), if_pos ok_567, e5, Option.bind_some, Option.bind_some, j241]
        dsimp only
        rcases h5 with ⟨v', I5, ev, rfl, f5, S5, K5, X0, X1⟩ | ⟨ev, I5, rfl, f5⟩
        · rw [ev]
          have cs : ∀ y, 580 ≤ y → y ≤ 583 → I5 y sc = I1 y sc := fun y g1 g2 => by
            rw [f5 y sc (by unfold Fm; omega), f3 y sc (by unfold Fm; omega), cell y g1 g2]
          refine ⟨kk + 1 + k3 + 1, I5, R3, by omega, ?_, hR3, FrK_tr f13 (Fm_mono f5 (Nat.le_refl _) (Nat.le_refl _) (show sc ≤ sc + 1 by omega)), FR_tr fr12 (FR_mono fr3 (by omega)), S5, K5, ?_, X1, by rw [cs 580 (by omega) (by omega)]; exact p1, by rw [cs 581 (by omega) (by omega)]; exact p2, by rw [cs 582 (by omega) (by omega)]; exact p3, by rw [cs 583 (by omega) (by omega)]; exact p4⟩
          · rw [show u + (kk + 1 + k3 + 1) = u + kk + 1 + k3 + 1 by omega]
            exact RC_tr (RC_tr (RC_tr rc1 st) rc3) (RC_1 tn)
          · rw [show lo + ((j + 1 : Nat) : Int) = lo + j + 1 by omega]
            exact X0
        · rw [ev]
          refine ⟨kk + 1 + k3 + 1, I5, R3, by omega, ?_, hR3, FrK_tr f13 (Fm_mono f5 (Nat.le_refl _) (Nat.le_refl _) (show sc ≤ sc + 1 by omega)), FR_tr fr12 (FR_mono fr3 (by omega))⟩
          rw [show u + (kk + 1 + k3 + 1) = u + kk + 1 + k3 + 1 by omega]
          exact RC_tr (RC_tr (RC_tr rc1 st) rc3) (RC_1 tn)
end SUM4
