/-! the class's machine: a node that reckons all its operands -/
section PLN
variable {I : Nat → Nat → Int32} {J : Nat → Nat → Int64} {R : Nat → Nat → Option Nat} {h t c d sc u a nn i : Nat} {nd : Nat → Nd} {sp : Nat → Nat} {b : GB} {n : GN} {f : GF} {s : GS} {z : Int32} {F : Nat} {rec : Rc} {ch : Ch}
theorem C_plain (hsim : SimC b n f s F rec) (hro : RcO b F rec) (hR : RA R) (hE : CEnv I b n f s) (hA : CT I a nn nd sp) (ha : a + 8 ≤ 540 ∨ 1784 ≤ a) (hT : TrO b nn nd sp) (hi : i < nn) (hc : ChO ch) (hd : d ≤ 12) (hF : sp i + 31 * (12 - d) ≤ F + 1) (hS : MSt I h (t + 1) c d sc) (hK : TKc I R t 0 (some a) (Int32.ofNat (i)) 0 z (-1)) (hC : CCh I h sc ch z) (h1 : h ≤ c) (h2 : sc ≤ c) (h3 : c ≤ 200) (h4 : t + sp i + 31 * (12 - d) ≤ 480) (hu : u + 4824 + 100 * (sp i + 31 * (12 - d)) ≤ 900000 + 24 * c) : SimR J (match evA rec nd sp i ch d (aro nd i) c with
    | .inl e => .inl e
    | .inr (vs, c1) => evG rec b n f s (nd i) ch vs c1 d) c h t d sc u I R := by
  have a4 : aro nd i ≤ 4 := (NV_v (hT.2 i hi)).2.2.2.1
  have s1 := (hT.1.2.2.2 i hi).1
  have g := C_args (J := J) hsim hro hR hE hA ha hT hi hc hd hF hS hK hC h1 h2 h3 h4 hu (aro nd i) (Nat.le_refl _)
  have ro := evA_RO hro hT hi hc hd hF (aro nd i) (Nat.le_refl _) c
  -- the turns of the operands are few enough
  cases e : evA rec nd sp i ch d (aro nd i) c with
  | inl e1 =>
    rw [e] at g
    obtain ⟨kk, I1, R1, q1, q2⟩ := g
    exact ⟨kk, I1, R1, q1, q2⟩
  | inr r =>
    obtain ⟨vs, c1⟩ := r
    rw [e] at g ro
    obtain ⟨kk, I1, R1, b1, rc1, hR1, f1, fr1, S1, K1, V1⟩ := g
    obtain ⟨r1, r2, r3, r4, r5⟩ := ro
    have c200 : c1 ≤ 200 := by
      by_cases q : aro nd i = 0
      · have := r3 q; omega
      · exact r4 q
    have g2 := C_gives (J := J) (u := u + kk) (h := h) hsim hro hR1 (CEnv_keep hE f1) (CT_m hA (by omega) f1) ha hT hi hc hd (by omega) r1 rfl r5 S1 K1 V1 (CCh_keep ch sc z hC (Nat.le_refl _) (Nat.le_refl _) f1) (by omega) (by omega) c200 (by omega) (by omega)
    dsimp only
    generalize evG rec b n f s (nd i) ch vs c1 d = r at g2
    cases r with
    | inl e3 =>
      obtain ⟨k2, I3, R3, b3, rc3, hR3, f3, fr3⟩ := g2
      refine ⟨kk + k2, I3, R3, by omega, ?_, hR3, FrK_tr f1 f3, FR_tr fr1 fr3⟩
      rw [show u + (kk + k2) = u + kk + k2 by omega]
      exact RC_tr rc1 rc3
    | inr r2 =>
      obtain ⟨v, c'⟩ := r2
      obtain ⟨k2, I3, R3, b3, rc3, hR3, f3, fr3, S3, V3⟩ := g2
      refine ⟨kk + k2, I3, R3, by omega, ?_, hR3, FrK_tr f1 f3, FR_tr fr1 fr3, S3, V3⟩
      rw [show u + (kk + k2) = u + kk + k2 by omega]
      exact RC_tr rc1 rc3
end PLN
