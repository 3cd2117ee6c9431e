/-! the class's machine follows a call that is open -/
def SimX (sl : Nat) (J : Nat → Nat → Int64) (r : Rs) (c h t d sc u : Nat) (I : Nat → Nat → Int32) (R : Nat → Nat → Option Nat) : Prop := match r with
  | .inl e => ∃ k I' R', u + k ≤ 1000000 ∧ RC k (567, 0, (Int32.ofNat (u)), mg (4562 + zn J) I J R) (567, (Int32.ofNat (e)), (Int32.ofNat (u + k)), mg (4562 + zn J) I' J R') ∧ RA R' ∧ FrK (Fm h t sc) I I' ∧ FR t R R'
  | .inr (v, c') => ∃ k I' R', k + 24 * c ≤ 24 * c' + sl ∧ RC k (567, 0, (Int32.ofNat (u)), mg (4562 + zn J) I J R) (567, 0, (Int32.ofNat (u + k)), mg (4562 + zn J) I' J R') ∧ RA R' ∧ FrK (Fm h t sc) I I' ∧ FR t R R' ∧ MSt I' (h + 1) t c' d sc ∧ CV I' (584 + 5 * h) v
section CB
variable {I : Nat → Nat → Int32} {J : Nat → Nat → Int64} {R : Nat → Nat → Option Nat} {h t c d sc u l m : Nat} {b : GB} {n : GN} {f : GF} {s : GS} {F : Nat} {rec : Rc} {vs : List GV}
theorem C_body (hsim : SimC b n f s F rec) (hro : RcO b F rec) (hR : RA R) (hE : CEnv I b n f s) (hl : l < 26) (hd : d < 12) (hF : 31 * (12 - d) ≤ F + 1) (hv : ∀ v, v ∈ vs → Gd v) (hm : vs.length = m) (hm1 : 1 ≤ m) (hS : MSt I (h + m) (t + 1) c (d + 1) (sc + 1)) (hK : TKc I R t 3 none (Int32.ofNat (l)) (Int32.ofNat (0)) (Int32.ofNat (sc)) (-1)) (hsl : I 582 sc = (Int32.ofNat (h))) (hC : CCh I (h + m) (sc + 1) [(0, vs.reverse)] (Int32.ofNat (sc))) (h1 : h + m ≤ c) (h2 : sc + 1 ≤ c) (h3 : c ≤ 200) (h4 : t + 31 * (12 - d) ≤ 480) (hu : u + 4854 + 100 * (31 * (12 - d)) ≤ 900100 + 24 * c) : SimX 12 J (match evK rec f s l [(0, vs.reverse)] (d + 1) (casN f l) c with
    | .inl e => .inl e
    | .inr (w, c1) => if w.1 = 0 then .inl 6 else if w.1 = 1 then rec (s.2.2.1 (valN f l w.2)) (s.2.2.2 (valN f l w.2)) 0 [(0, vs.reverse)] c1 (d + 1) else .inl 7) c h t d sc u I R := by
  obtain ⟨-, e1, c4, fk⟩ := fn_c (hE.2.2.2.2.2.2.1 l hl) hE.2.2.2.1.1
  have c4 : casN f l ≤ 4 := c4
  have hc : ChO [(0, vs.reverse)] := fun e he v hv' => by
    rw [List.mem_singleton] at he
    rw [he] at hv'
    exact hv v (List.mem_reverse.mp hv')
  have g := C_evK (J := J) (n := n) (d := d + 1) (u := u) hsim hro hR hE hl hc (by omega) (by omega) hS hK hC (by omega) (by omega) h3 (by omega) (by omega) (casN f l) (Nat.le_refl _)
  have ro := evK_RO (n := n) hE.2.2.2.2 hro hl hc (d := d + 1) (by omega) (by omega) (casN f l) (Nat.le_refl _) c
  cases e : evK rec f s l [(0, vs.reverse)] (d + 1) (casN f l) c with
  | inl e1 =>
    rw [e] at g
    obtain ⟨kk, I1, R1, q1, q2, q3, q4, q5⟩ := g
    exact ⟨kk, I1, R1, by omega, q2, q3, Fm_mono q4 (by omega) (Nat.le_refl _) (by omega), q5⟩
  | inr r =>
    obtain ⟨w, c1⟩ := r
    rw [e] at g ro
    obtain ⟨kk, I1, R1, b1, rc1, hR1, f1, fr1, S1, K1⟩ := g
    obtain ⟨r1, r2, r3, r4⟩ := ro
    have hE1 := CEnv_keep hE f1
    have f1' := Fm_mono f1 (show h ≤ h + m by omega) (Nat.le_refl _) (show sc ≤ sc + 1 by omega)
    dsimp only
    by_cases w1 : w.1 = 1
    · rw [if_neg (show ¬ w.1 = 0 by omega), if_pos w1]
      have w2 : w.2 < casN f l := r4 (by omega)
      obtain ⟨-, -, htr, -⟩ := fk w.2 w2
      have htr : valN f l w.2 < s.1 := htr
      have v30 : s.2.1 (valN f l w.2) ≤ 30 := (fk w.2 w2).2.2.2
      obtain ⟨_, e2, I2, rfl, f2, S2, K2, K2'⟩ := adv_value (J := J) hR1 hE1 S1 K1 (by omega) hl w1 w2
      generalize valN f l w.2 = tr at *
      have hR2 : RA (uR R1 (t + 1) (some (70 + 8 * tr))) := FR_RA (t := t + 1) (fun x j y => uR_o (by omega)) hR1
      have st : RC 1 (567, 0, (Int32.ofNat (u + kk)), mg (4562 + zn J) I1 J R1) (567, 0, (Int32.ofNat (u + kk + 1)), mg (4562 + zn J) I2 J (uR R1 (t + 1) (some (70 + 8 * tr)))) := by
        refine RC_1 ?_
        rw [work_call hR1 S1 K1 (by omega) (by omega), e2, Option.bind_some, j241]
      have f12 := FrK_tr f1 f2
      have fr12 : FR t R (uR R1 (t + 1) (some (70 + 8 * tr))) := FR_tr fr1 (fun x j y => uR_o (by omega))
      have hE2 := CEnv_keep hE f12
      have cs := hE2.2.2.2.1.2.2 tr htr
      obtain ⟨t1, t2⟩ := hE.2.2.2.2.2.1 tr htr
      have s0 := t1.2.2.1
      have tr30 := hE.2.2.2.1.1
      have c1le : c1 ≤ 200 := by omega
      have g2 := hsim J (70 + 8 * tr) (s.2.1 tr) 0 (s.2.2.1 tr) (s.2.2.2 tr) [(0, vs.reverse)] c1 (d + 1) (h + m) (t + 1) (sc + 1) (u + kk + 1) (Int32.ofNat (sc)) I2 (uR R1 (t + 1) (some (70 + 8 * tr))) hR2 hE2 cs (by omega) ⟨t1, t2⟩ t1.1 hc (by omega) (by omega) S2 K2' (CCh_keep _ (sc + 1) _ hC (Nat.le_refl _) (Nat.le_refl _) f12) (by omega) (by omega) c1le (by omega) (by omega)
      have ro2 := hro (s.2.1 tr) (s.2.2.1 tr) (s.2.2.2 tr) 0 [(0, vs.reverse)] c1 (d + 1) ⟨t1, t2⟩ t1.1 hc (by omega) (by omega)
      cases e3 : rec (s.2.2.1 tr) (s.2.2.2 tr) 0 [(0, vs.reverse)] c1 (d + 1) with
      | inl e4 =>
        rw [e3] at g2
        obtain ⟨k2, I3, R3, b3, rc3, hR3, f3, fr3⟩ := g2
        refine ⟨kk + 1 + k2, I3, R3, by omega, ?_, hR3, Fm_mono (FrK_tr f12 (Fm_mono f3 (Nat.le_refl _) (show t ≤ t + 1 by omega) (Nat.le_refl _))) (by omega) (Nat.le_refl _) (by omega), FR_tr fr12 (FR_mono fr3 (by omega))⟩
        have := RC_tr (RC_tr rc1 st) rc3
        rw [show u + (kk + 1 + k2) = u + kk + 1 + k2 by omega]
        exact this
      | inr r5 =>
        obtain ⟨v, c2⟩ := r5
        rw [e3] at g2 ro2
        obtain ⟨l1, l2, l3⟩ := ro2
        obtain ⟨k2, I3, R3, b3, rc3, hR3, f3, fr3, S3, V3⟩ := g2
        have K3 : TKc I3 R3 t 3 none (Int32.ofNat (l)) (Int32.ofNat (2 * casN f l + 1)) (Int32.ofNat (sc)) (moreI w) := by
          obtain ⟨z1, z2, z3, z4, z5, z6⟩ := K2
          have e5 : ∀ x, x = 574 ∨ (576 ≤ x ∧ x ≤ 579) → I3 x t = I2 x t := fun x hx => f3 x t (by unfold Fm; omega)
          exact ⟨by rw [e5 574 (by omega)]; exact z1, by rw [fr3 575 t (by omega)]; exact z2, by rw [e5 576 (by omega)]; exact z3, by rw [e5 577 (by omega)]; exact z4, by rw [e5 578 (by omega)]; exact z5, by rw [e5 579 (by omega)]; exact z6⟩
        have f13 := FrK_tr f12 (Fm_mono f3 (Nat.le_refl _) (show t ≤ t + 1 by omega) (Nat.le_refl _))
        have hE3 := CEnv_keep hE f13
        have sl3 : I3 582 sc = (Int32.ofNat (h)) := by rw [f13 582 sc (by unfold Fm; omega)]; exact hsl
        obtain ⟨_, e6, I4, rfl, f4, S4, V4⟩ := adv_close (J := J) hR3 hE3 S3 K3 (by omega) hl hm1 (by omega) (by omega) sl3 (by omega) V3 l3
        have st2 : RC 1 (567, 0, (Int32.ofNat (u + kk + 1 + k2)), mg (4562 + zn J) I3 J R3) (567, 0, (Int32.ofNat (u + kk + 1 + k2 + 1)), mg (4562 + zn J) I4 J R3) := by
          refine RC_1 ?_
          rw [work_call hR3 S3 K3 (by omega) (by omega), e6, Option.bind_some, j241]
        refine ⟨kk + 1 + k2 + 1, I4, R3, by omega, ?_, hR3, FrK_tr (Fm_mono f13 (by omega) (Nat.le_refl _) (by omega)) f4, FR_tr fr12 (FR_mono fr3 (by omega)), S4, V4⟩
        have := RC_tr (RC_tr (RC_tr rc1 st) rc3) st2
        rw [show u + (kk + 1 + k2 + 1) = u + kk + 1 + k2 + 1 by omega]
        exact this
    · obtain ⟨_, e2, I2, rfl, f2⟩ := adv_noValue (J := J) hR1 hE1 S1 K1 (by omega) hl w1
      have st : RC 1 (567, 0, (Int32.ofNat (u + kk)), mg (4562 + zn J) I1 J R1) (567, (Int32.ofNat (if w.1 = 0 then 6 else 7)), (Int32.ofNat (u + kk + 1)), mg (4562 + zn J) I2 J R1) := by
        refine RC_1 ?_
        rw [work_call hR1 S1 K1 (by omega) (by omega), e2, Option.bind_some, j241]
      have e3 : (if w.1 = 0 then (Sum.inl 6 : Rs) else if w.1 = 1 then rec (s.2.2.1 (valN f l w.2)) (s.2.2.2 (valN f l w.2)) 0 [(0, vs.reverse)] c1 (d + 1) else .inl 7) = .inl (if w.1 = 0 then 6 else 7) := by
        by_cases q : w.1 = 0
        · rw [if_pos q, if_pos q]
        · rw [if_neg q, if_neg w1, if_neg q]
      rw [e3]
      exact ⟨kk + 1, I2, R1, by omega, RC_tr rc1 st, hR1, Fm_mono (FrK_tr f1 f2) (by omega) (Nat.le_refl _) (by omega), fr1⟩
end CB
