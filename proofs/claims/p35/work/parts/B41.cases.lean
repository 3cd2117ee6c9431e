/-! the class's machine follows evK -/
def SimK (J : Nat → Nat → Int64) (r : Nat ⊕ ((Nat × Nat) × Nat)) (k l : Nat) (z : Int32) (c h t d sc u : Nat) (I : Nat → Nat → Int32) (R : Nat → Nat → Option Nat) : Prop := match r with
  | .inl e => ∃ kk I' R', u + kk ≤ 1000000 ∧ RC kk (567, 0, (Int32.ofNat (u)), mg (4562 + zn J) I J R) (567, (Int32.ofNat (e)), (Int32.ofNat (u + kk)), mg (4562 + zn J) I' J R') ∧ RA R' ∧ FrK (Fm h t sc) I I' ∧ FR t R R'
  | .inr (w, c') => ∃ kk I' R', kk + 24 * c ≤ 24 * c' + 2 * k ∧ RC kk (567, 0, (Int32.ofNat (u)), mg (4562 + zn J) I J R) (567, 0, (Int32.ofNat (u + kk)), mg (4562 + zn J) I' J R') ∧ RA R' ∧ FrK (Fm h t sc) I I' ∧ FR t R R' ∧ MSt I' h (t + 1) c' d sc ∧ TKc I' R' t 3 none (Int32.ofNat (l)) (Int32.ofNat (2 * k)) z (moreI w)
theorem evK_c (rec : Rc) (f : GF) (s : GS) (l : Nat) (ch : Ch) (d k c : Nat) : evK rec f s l ch d (k + 1) c = match evK rec f s l ch d k c with
    | .inl e => .inl e
    | .inr (w, c1) => match cndN f l k with
      | none => .inr ((w.1 + 1, k), c1)
      | some t => match rec (s.2.2.1 t) (s.2.2.2 t) 0 ch c1 d with
        | .inl e => .inl e
        | .inr (v, c2) => if v.1 = 0 then .inr (w, c2) else .inr ((w.1 + 1, k), c2) := rfl
section CK
variable {I : Nat → Nat → Int32} {J : Nat → Nat → Int64} {R : Nat → Nat → Option Nat} {h t c d sc u l : Nat} {b : GB} {n : GN} {f : GF} {s : GS} {z : Int32} {F : Nat} {rec : Rc} {ch : Ch}
theorem C_evK (hsim : SimC b n f s F rec) (hro : RcO b F rec) (hR : RA R) (hE : CEnv I b n f s) (hl : l < 26) (hc : ChO ch) (hd : d ≤ 12) (hF : 30 + 31 * (12 - d) ≤ F) (hS : MSt I h (t + 1) c d sc) (hK : TKc I R t 3 none (Int32.ofNat (l)) (Int32.ofNat (0)) z (-1)) (hC : CCh I h sc ch z) (h1 : h ≤ c) (h2 : sc ≤ c) (h3 : c ≤ 200) (h4 : t + 31 + 31 * (12 - d) ≤ 480) (hu : u + 4844 + 100 * (30 + 31 * (12 - d)) ≤ 900000 + 24 * c) : ∀ k, k ≤ casN f l → SimK J (evK rec f s l ch d k c) k l z c h t d sc u I R := by
  obtain ⟨-, e1, c4, fk⟩ := fn_c (hE.2.2.2.2.2.2.1 l hl) hE.2.2.2.1.1
  have c4 : casN f l ≤ 4 := c4
  intro k
  induction k with
  | zero => intro _; exact ⟨0, I, R, by omega, RC_0 _, hR, FrK_rfl, FR_rfl, hS, hK⟩
  | succ k ih =>
    intro hk
    have g := ih (by omega)
    have ro := evK_RO (n := n) hE.2.2.2.2 hro hl hc hd hF k (by omega) c
    obtain ⟨ck, -⟩ := fk k (show k < casN f l by omega)
    rw [evK_c]
    cases e : evK rec f s l ch d k c with
    | inl e1 =>
      rw [e] at g
      obtain ⟨kk, I1, R1, q1, q2⟩ := g
      exact ⟨kk, I1, R1, by omega, q2⟩
    | inr r =>
      obtain ⟨w, c1⟩ := r
      rw [e] at g ro
      obtain ⟨kk, I1, R1, b1, rc1, hR1, f1, fr1, S1, K1⟩ := g
      obtain ⟨r1, r2, r3, r4⟩ := ro
      have hE1 := CEnv_keep hE f1
      have hw : w.1 ≠ 0 → w.2 < 1000 := fun y => by have := r4 y; omega
      dsimp only
      rcases ck with y | ⟨y, y1, y2, y3⟩
      · have ec : cndN f l k = none := if_pos y
        rw [ec]
        obtain ⟨_, e2, I2, rfl, f2, S2, K2⟩ := adv_none (J := J) hR1 hE1 S1 K1 (by omega) hl (show k < casN f l by omega) hw ec
        refine ⟨kk + 1, I2, R1, by omega, RC_tr rc1 (RC_1 ?_), hR1, FrK_tr f1 f2, fr1, S2, K2⟩
        rw [work_call hR1 S1 K1 (by omega) (by omega), e2, Option.bind_some, j241]
        rfl
      · have ec : cndN f l k = some (f l (2 + k)).toNatClampNeg := if_neg y
        rw [ec]
        dsimp only
        generalize (f l (2 + k)).toNatClampNeg = tr at *
        obtain ⟨_, e2, I2, rfl, f2, S2, K2, K2'⟩ := adv_cond (J := J) hR1 hE1 S1 K1 (by omega) hl (show k < casN f l by omega) y2 ec
        have hR2 : RA (uR R1 (t + 1) (some (70 + 8 * tr))) := FR_RA (t := t + 1) (fun x j y => uR_o (by omega)) hR1
        have st : RC 1 (567, 0, (Int32.ofNat (u + kk)), mg (4562 + zn J) I1 J R1) (567, 0, (Int32.ofNat (u + kk + 1)), mg (4562 + zn J) I2 J (uR R1 (t + 1) (some (70 + 8 * tr)))) := by
          refine RC_1 ?_
          rw [work_call hR1 S1 K1 (by omega) (by omega), e2, Option.bind_some, j241]
        have f12 := FrK_tr f1 f2
        have fr12 : FR t R (uR R1 (t + 1) (some (70 + 8 * tr))) := FR_tr fr1 (fun x j y => uR_o (by omega))
        have hE2 := CEnv_keep hE f12
        have cs := hE2.2.2.2.1.2.2 tr y2
        obtain ⟨t1, t2⟩ := hE.2.2.2.2.2.1 tr y2
        have s0 := t1.2.2.1
        have tr30 := hE.2.2.2.1.1
        have g2 := hsim J (70 + 8 * tr) (s.2.1 tr) 0 (s.2.2.1 tr) (s.2.2.2 tr) ch c1 d h (t + 1) sc (u + kk + 1) z I2 (uR R1 (t + 1) (some (70 + 8 * tr))) hR2 hE2 cs (by omega) ⟨t1, t2⟩ t1.1 hc hd (by omega) S2 K2' (CCh_keep ch sc z hC (Nat.le_refl _) (Nat.le_refl _) f12) (by omega) (by omega) (by omega) (by omega) (by omega)
        have ro2 := hro (s.2.1 tr) (s.2.2.1 tr) (s.2.2.2 tr) 0 ch c1 d ⟨t1, t2⟩ t1.1 hc hd (by omega)
        cases e3 : rec (s.2.2.1 tr) (s.2.2.2 tr) 0 ch c1 d with
        | inl e4 =>
          rw [e3] at g2
          obtain ⟨k2, I3, R3, b3, rc3, hR3, f3, fr3⟩ := g2
          refine ⟨kk + 1 + k2, I3, R3, by omega, ?_, hR3, FrK_tr f12 (Fm_mono f3 (Nat.le_refl _) (by omega) (Nat.le_refl _)), FR_tr fr12 (FR_mono fr3 (by omega))⟩
          have := RC_tr (RC_tr rc1 st) rc3
          rw [show u + (kk + 1 + k2) = u + kk + 1 + k2 by omega]
          exact this
        | inr r5 =>
          obtain ⟨v, c2⟩ := r5
          rw [e3] at g2 ro2
          obtain ⟨l1, l2, l3⟩ := ro2
          obtain ⟨k2, I3, R3, b3, rc3, hR3, f3, fr3, S3, V3⟩ := g2
          have K3 : TKc I3 R3 t 3 none (Int32.ofNat (l)) (Int32.ofNat (2 * k + 1)) z (moreI w) := by
            obtain ⟨z1, z2, z3, z4, z5, z6⟩ := K2
            have e5 : ∀ x, x = 574 ∨ (576 ≤ x ∧ x ≤ 579) → I3 x t = I2 x t := fun x hx => f3 x t (by unfold Fm; omega)
            exact ⟨by rw [e5 574 (by omega)]; exact z1, by rw [fr3 575 t (by omega)]; exact z2, by rw [e5 576 (by omega)]; exact z3, by rw [e5 577 (by omega)]; exact z4, by rw [e5 578 (by omega)]; exact z5, by rw [e5 579 (by omega)]; exact z6⟩
          have f13 := FrK_tr f12 (Fm_mono f3 (Nat.le_refl _) (show t ≤ t + 1 by omega) (Nat.le_refl _))
          have hE3 := CEnv_keep hE f13
          obtain ⟨_, e6, I4, rfl, f4, S4, K4⟩ := adv_holds (J := J) hR3 hE3 S3 K3 (by omega) (by omega) hl (show k < casN f l by omega) hw V3
          have st2 : RC 1 (567, 0, (Int32.ofNat (u + kk + 1 + k2)), mg (4562 + zn J) I3 J R3) (567, 0, (Int32.ofNat (u + kk + 1 + k2 + 1)), mg (4562 + zn J) I4 J R3) := by
            refine RC_1 ?_
            rw [work_call hR3 S3 K3 (by omega) (by omega), e6, Option.bind_some, j241]
          have rc := RC_tr (RC_tr (RC_tr rc1 st) rc3) st2
          dsimp only
          have fin : SimK J (.inr ((if v.1 = 0 then w else (w.1 + 1, k)), c2)) (k + 1) l z c h t d sc u I R := by
            refine ⟨kk + 1 + k2 + 1, I4, R3, by omega, ?_, hR3, FrK_tr f13 f4, FR_tr fr12 (FR_mono fr3 (by omega)), S4, K4⟩
            rw [show u + (kk + 1 + k2 + 1) = u + kk + 1 + k2 + 1 by omega]
            exact rc
          by_cases v0 : v.1 = 0
          · rw [if_pos v0] at fin ⊢
            exact fin
          · rw [if_neg v0] at fin ⊢
            exact fin
end CK
