/-! the reference's run follows evK, calls, nodes whose operands are there -/
def SimKQ (J : Nat → Nat → Int64) (R : Nat → Nat → Option Nat) (r : Nat ⊕ ((Nat × Nat) × Nat)) (k l m own : Nat) (p : Int32) (z : Int32) (c h t d w u : Nat) (I : Nat → Nat → Int32) : Prop := match r with
  | .inl e => ∃ kk I', u + kk ≤ 1000000 ∧ RQ kk (4561, 0, mg 4625 I J R) (4561, (Int32.ofNat (e)), mg 4625 I' J R) ∧ FrK (Fx h t w) I I'
  | .inr (g, c') => ∃ kk I', kk + 24 * c ≤ 24 * c' + 2 * k ∧ RQ kk (4561, 0, mg 4625 I J R) (4561, 0, mg 4625 I' J R) ∧ FrK (Fx h t w) I I' ∧ RSt I' h (t + 1) c' d w ∧ RTk I' t p (Int32.ofNat (m + 1)) z ∧ RTo I' t (Int32.ofNat (own)) (Int32.ofNat (l)) (Int32.ofNat (k)) (hdI g) (Int32.ofNat (g.1))
def SimXQ (sl : Nat) (J : Nat → Nat → Int64) (R : Nat → Nat → Option Nat) (r : Rs) (c h t d w u : Nat) (I : Nat → Nat → Int32) : Prop := match r with
  | .inl e => ∃ k I', u + k ≤ 1000000 ∧ RQ k (4561, 0, mg 4625 I J R) (4561, (Int32.ofNat (e)), mg 4625 I' J R) ∧ FrK (Fx h t w) I I'
  | .inr (v, c') => ∃ k I', k + 24 * c ≤ 24 * c' + sl ∧ RQ k (4561, 0, mg 4625 I J R) (4561, 0, mg 4625 I' J R) ∧ FrK (Fx h t w) I I' ∧ RSt I' (h + 1) t c' d w ∧ MV I' (60 + h) v
section RK1
variable {I : Nat → Nat → Int32} {J : Nat → Nat → Int64} {R : Nat → Nat → Option Nat} {β : Type} {h t c d w u a nn i m l own : Nat} {nd : Nat → Nd} {sp : Nat → Nat} {b : GB} {n : GN} {f : GF} {s : GS} {z zz : Int32} {F : Nat} {rec : Rc} {ch : Ch} {vs : List GV}
theorem M_evK (hsim : SimM b n f s F rec) (hro : RcO b F rec) (hR : RA R) (hE : MEnv I b n f s) (hA : MT I a nn nd sp) (hT : TrO b nn nd sp) (hi : i < nn) (hb : bkN (nd i) = 0) (hm2 : aro nd i = m) (hm1 : 1 ≤ m) (hm4 : m ≤ 4) (hl : l < 26) (hc : ChO ch) (hd : d ≤ 12) (hF : 30 + 31 * (12 - d) ≤ F) (hS : RSt I h (t + 1) c d w) (hK : RTk I t (Int32.ofNat (a + i)) (Int32.ofNat (m + 1)) zz) (hO : RTo I t (Int32.ofNat (own)) (Int32.ofNat (l)) (Int32.ofNat (0)) (-1) (Int32.ofNat (0))) (hC : MCh I w ch (Int32.ofNat (own))) (h1 : h ≤ c) (h2 : w ≤ c) (h3 : c ≤ 200) (h4 : t + 31 + 31 * (12 - d) ≤ 480) (hu : u + 4844 + 100 * (30 + 31 * (12 - d)) ≤ 900000 + 24 * c) : ∀ k, k ≤ casN f l → SimKQ J R (evK rec f s l ch d k c) k l m own (Int32.ofNat (a + i)) zz c h t d w u I := by
  obtain ⟨-, c4⟩ := fm_cas hE hl
  intro k
  induction k with
  | zero => intro _; exact ⟨0, I, by omega, RQ_0 _, FrK_rfl, hS, hK, hO⟩
  | succ k ih =>
    intro hk
    have g := ih (by omega)
    have ro := evK_RO (n := n) hE.2.2.2 hro hl hc hd hF k (by omega) c
    rw [evK_c]
    cases e : evK rec f s l ch d k c with
    | inl e1 => rw [e] at g; exact ⟨g.choose, g.choose_spec.choose, by have := g.choose_spec.choose_spec.1; omega, g.choose_spec.choose_spec.2⟩
    | inr r =>
      obtain ⟨g0, c1⟩ := r
      rw [e] at g ro
      obtain ⟨kk, I1, b1, rc1, f1, S1, K1, O1⟩ := g
      obtain ⟨r1, r2, r3, r4⟩ := ro
      have hE1 := MEnv_keep hE f1
      have A1 := MT_m hA f1
      have nv := hT.2 i hi
      dsimp only
      rcases fm_cnd hE hl (show k < casN f l by omega) with ⟨ec, -⟩ | ⟨tr, ec, y2, y3, -⟩
      · rw [ec]
        obtain ⟨_, e2, I2, rfl, f2, S2, K2, O2⟩ := cas_none (J := J) hR hE1 S1 K1 O1 (by omega) hl (show k < casN f l by omega) ec
        refine ⟨kk + 1, I2, by omega, RQ_tr rc1 (RQ_1 ?_), FrK_tr f1 f2, S2, K2, O2⟩
        rw [run_call hR A1 hi nv hb hm2 hm1 hm4 (by omega) (by omega) S1 K1 (by omega), e2, Option.bind_some]
      · rw [ec]
        obtain ⟨_, e2, I2, rfl, f2, S2, K2, O2, K2'⟩ := cas_cond (J := J) hR hE1 S1 K1 O1 (by omega) (by omega) hl (show k < casN f l by omega) ec
        have st : RQ 1 (4561, 0, mg 4625 I1 J R) (4561, 0, mg 4625 I2 J R) := by
          refine RQ_1 ?_
          rw [run_call hR A1 hi nv hb hm2 hm1 hm4 (by omega) (by omega) S1 K1 (by omega), e2, Option.bind_some]
        have f12 := FrK_tr f1 f2
        have hE2 := MEnv_keep hE f12
        obtain ⟨t1, t2⟩ := hE.2.2.2.2.1 tr y2
        have s0 := t1.2.2.1
        have mt : MT I2 (2400 + 240 * l + 30 * (2 * k)) (s.2.1 tr) (s.2.2.1 tr) (s.2.2.2 tr) := by
          rcases fm_cnd hE2 hl (show k < casN f l by omega) with ⟨ec', -⟩ | ⟨tr', ec', -, -, -, y5⟩
          · rw [ec] at ec'; cases ec'
          · rw [ec] at ec'
            rw [Option.some.inj ec']
            exact y5
        have g2 := hsim J R (2400 + 240 * l + 30 * (2 * k)) (s.2.1 tr) 0 (s.2.2.1 tr) (s.2.2.2 tr) ch c1 d h (t + 1) w (u + kk + 1) (Int32.ofNat (own)) I2 hR hE2 mt ⟨t1, t2⟩ t1.1 hc hd (by omega) S2 K2' (MCh_keep (by omega) (by omega) ch w _ hC (Nat.le_refl _) f12) (by omega) (by omega) (by omega) (by omega) (by omega)
        have ro2 := hro (s.2.1 tr) (s.2.2.1 tr) (s.2.2.2 tr) 0 ch c1 d ⟨t1, t2⟩ t1.1 hc hd (by omega)
        dsimp only
        cases e3 : rec (s.2.2.1 tr) (s.2.2.2 tr) 0 ch c1 d with
        | inl e4 =>
          rw [e3] at g2
          obtain ⟨k2, I3, b3, rc3, f3⟩ := g2
          exact ⟨kk + 1 + k2, I3, by omega, RQ_tr (RQ_tr rc1 st) rc3, FrK_tr f12 (Fx_mono f3 (Nat.le_refl _) (by omega) (Nat.le_refl _))⟩
        | inr r5 =>
          obtain ⟨v, c2⟩ := r5
          rw [e3] at g2 ro2
          obtain ⟨l1, l2, l3⟩ := ro2
          obtain ⟨k2, I3, b3, rc3, f3, S3, V3⟩ := g2
          have K3 := RTk_keep K2 f3
          have O3 := RTo_keep O2 f3
          have f13 := FrK_tr f12 (Fx_mono f3 (Nat.le_refl _) (show t ≤ t + 1 by omega) (Nat.le_refl _))
          obtain ⟨_, e6, I4, rfl, f4, S4, K4, O4⟩ := cas_holds (J := J) hR S3 K3 O3 (by omega) (by omega) (by omega) V3
          have st2 : RQ 1 (4561, 0, mg 4625 I3 J R) (4561, 0, mg 4625 I4 J R) := by
            refine RQ_1 ?_
            rw [run_call hR (MT_m hA f13) hi nv hb hm2 hm1 hm4 (by omega) (by omega) S3 K3 (by omega), e6, Option.bind_some]
          have rc := RQ_tr (RQ_tr (RQ_tr rc1 st) rc3) st2
          dsimp only
          have fin : SimKQ J R (.inr ((if v.1 = 0 then g0 else (g0.1 + 1, k)), c2)) (k + 1) l m own (Int32.ofNat (a + i)) zz c h t d w u I :=
            ⟨kk + 1 + k2 + 1, I4, by omega, rc, FrK_tr f13 f4, S4, K4, O4⟩
          by_cases v0 : v.1 = 0
          · rw [if_pos v0] at fin ⊢
            exact fin
          · rw [if_neg v0] at fin ⊢
            exact fin
theorem M_body (hsim : SimM b n f s F rec) (hro : RcO b F rec) (hR : RA R) (hE : MEnv I b n f s) (hA : MT I a nn nd sp) (hT : TrO b nn nd sp) (hi : i < nn) (hb : bkN (nd i) = 0) (hm2 : aro nd i = m) (hm1 : 1 ≤ m) (hm4 : m ≤ 4) (hl : l < 26) (hd : d < 12) (hF : 31 * (12 - d) ≤ F + 1) (hv : ∀ v, v ∈ vs → Gd v) (hS : RSt I h (t + 1) c (d + 1) (w + 1)) (hK : RTk I t (Int32.ofNat (a + i)) (Int32.ofNat (m + 1)) zz) (hO : RTo I t (Int32.ofNat (w)) (Int32.ofNat (l)) (Int32.ofNat (0)) (-1) (Int32.ofNat (0))) (hC : MCh I (w + 1) [(0, vs.reverse)] (Int32.ofNat (w))) (h1 : h ≤ c) (h2 : w + 1 ≤ c) (h3 : c ≤ 200) (h4 : t + 31 * (12 - d) ≤ 480) (hu : u + 4854 + 100 * (31 * (12 - d)) ≤ 900100 + 24 * c) : SimXQ 12 J R (match evK rec f s l [(0, vs.reverse)] (d + 1) (casN f l) c with
    | .inl e => .inl e
    | .inr (g, c1) => if g.1 = 0 then .inl 6 else if g.1 = 1 then rec (s.2.2.1 (valN f l g.2)) (s.2.2.2 (valN f l g.2)) 0 [(0, vs.reverse)] c1 (d + 1) else .inl 7) c h t d w u I := by
  obtain ⟨-, c4⟩ := fm_cas hE hl
  have nv := hT.2 i hi
  have hc : ChO [(0, vs.reverse)] := fun e he v hv' => by
    rw [List.mem_singleton] at he
    rw [he] at hv'
    exact hv v (List.mem_reverse.mp hv')
  have g := M_evK (J := J) (n := n) (d := d + 1) (u := u) hsim hro hR hE hA hT hi hb hm2 hm1 hm4 hl hc (by omega) (by omega) hS hK hO hC (by omega) (by omega) h3 (by omega) (by omega) (casN f l) (Nat.le_refl _)
  have ro := evK_RO (n := n) hE.2.2.2 hro hl hc (d := d + 1) (by omega) (by omega) (casN f l) (Nat.le_refl _) c
  cases e : evK rec f s l [(0, vs.reverse)] (d + 1) (casN f l) c with
  | inl e1 =>
    rw [e] at g
    obtain ⟨kk, I1, q1, q2, q3⟩ := g
    exact ⟨kk, I1, by omega, q2, Fx_mono q3 (Nat.le_refl _) (Nat.le_refl _) (by omega)⟩
  | inr r =>
    obtain ⟨g0, c1⟩ := r
    rw [e] at g ro
    obtain ⟨kk, I1, b1, rc1, f1, S1, K1, O1⟩ := g
    obtain ⟨r1, r2, r3, r4⟩ := ro
    have hE1 := MEnv_keep hE f1
    have A1 := MT_m hA f1
    have f1' := Fx_mono f1 (Nat.le_refl h) (Nat.le_refl t) (show w ≤ w + 1 by omega)
    dsimp only
    by_cases w1 : g0.1 = 1
    · rw [if_neg (show ¬ g0.1 = 0 by omega), if_pos w1]
      have w2 : g0.2 < casN f l := r4 (by omega)
      obtain ⟨_, e2, I2, rfl, f2, S2, K2, O2, K2'⟩ := cas_value (J := J) hR hE1 S1 K1 O1 (by omega) (by omega) hl w1 w2
      have st : RQ 1 (4561, 0, mg 4625 I1 J R) (4561, 0, mg 4625 I2 J R) := by
        refine RQ_1 ?_
        rw [run_call hR A1 hi nv hb hm2 hm1 hm4 (by omega) (by omega) S1 K1 (by omega), e2, Option.bind_some]
      have f12 := FrK_tr f1 f2
      have hE2 := MEnv_keep hE f12
      obtain ⟨v1, v30, mt⟩ := fm_val hE2 hl w2
      generalize valN f l g0.2 = tr at *
      obtain ⟨t1, t2⟩ := hE.2.2.2.2.1 tr v1
      have s0 := t1.2.2.1
      have c1le : c1 ≤ 200 := by omega
      have g2 := hsim J R (2400 + 240 * l + 30 * (2 * g0.2 + 1)) (s.2.1 tr) 0 (s.2.2.1 tr) (s.2.2.2 tr) [(0, vs.reverse)] c1 (d + 1) h (t + 1) (w + 1) (u + kk + 1) (Int32.ofNat (w)) I2 hR hE2 mt ⟨t1, t2⟩ t1.1 hc (by omega) (by omega) S2 K2' (MCh_keep (by omega) (by omega) _ (w + 1) _ hC (Nat.le_refl _) f12) (by omega) (by omega) c1le (by omega) (by omega)
      have ro2 := hro (s.2.1 tr) (s.2.2.1 tr) (s.2.2.2 tr) 0 [(0, vs.reverse)] c1 (d + 1) ⟨t1, t2⟩ t1.1 hc (by omega) (by omega)
      cases e3 : rec (s.2.2.1 tr) (s.2.2.2 tr) 0 [(0, vs.reverse)] c1 (d + 1) with
      | inl e4 =>
        rw [e3] at g2
        obtain ⟨k2, I3, b3, rc3, f3⟩ := g2
        exact ⟨kk + 1 + k2, I3, by omega, RQ_tr (RQ_tr rc1 st) rc3, Fx_mono (FrK_tr f12 (Fx_mono f3 (Nat.le_refl _) (show t ≤ t + 1 by omega) (Nat.le_refl _))) (Nat.le_refl _) (Nat.le_refl _) (by omega)⟩
      | inr r5 =>
        obtain ⟨v, c2⟩ := r5
        rw [e3] at g2 ro2
        obtain ⟨l1, l2, l3⟩ := ro2
        obtain ⟨k2, I3, b3, rc3, f3, S3, V3⟩ := g2
        have K3 := RTk_keep K2 f3
        have O3 := RTo_keep O2 f3
        have f13 := FrK_tr f12 (Fx_mono f3 (Nat.le_refl _) (show t ≤ t + 1 by omega) (Nat.le_refl _))
        obtain ⟨_, e6, I4, rfl, f4, S4, o4⟩ := cas_close (J := J) hR S3 O3 (by omega) (by omega)
        have st2 : RQ 1 (4561, 0, mg 4625 I3 J R) (4561, 0, mg 4625 I4 J R) := by
          refine RQ_1 ?_
          rw [run_call hR (MT_m hA f13) hi nv hb hm2 hm1 hm4 (by omega) (by omega) S3 K3 (by omega), e6, Option.bind_some]
        exact ⟨kk + 1 + k2 + 1, I4, by omega, RQ_tr (RQ_tr (RQ_tr rc1 st) rc3) st2, FrK_tr (Fx_mono f13 (Nat.le_refl _) (Nat.le_refl _) (by omega)) (Fx_mono f4 (by omega) (Nat.le_refl _) (Nat.le_refl _)), S4, MV_keep V3 (fun k _ _ => o4 4564 k (by decide))⟩
    · have e2 := cas_noValue (J := J) hR hE1 S1 K1 O1 (by omega) hl w1 (by omega)
      have st : RQ 1 (4561, 0, mg 4625 I1 J R) (4561, (Int32.ofNat (if g0.1 = 0 then 6 else 7)), mg 4625 I1 J R) := by
        refine RQ_1 ?_
        rw [run_call hR A1 hi nv hb hm2 hm1 hm4 (by omega) (by omega) S1 K1 (by omega), e2, Option.bind_some]
      have e3 : (if g0.1 = 0 then (Sum.inl 6 : Rs) else if g0.1 = 1 then rec (s.2.2.1 (valN f l g0.2)) (s.2.2.2 (valN f l g0.2)) 0 [(0, vs.reverse)] c1 (d + 1) else .inl 7) = .inl (if g0.1 = 0 then 6 else 7) := by
        by_cases q : g0.1 = 0
        · rw [if_pos q, if_pos q]
        · rw [if_neg q, if_neg w1, if_neg q]
      rw [e3]
      exact ⟨kk + 1, I1, by omega, RQ_tr rc1 st, f1'⟩
end RK1
section RG2
variable {I : Nat → Nat → Int32} {J : Nat → Nat → Int64} {R : Nat → Nat → Option Nat} {β : Type} {h t c d w u a nn i m : Nat} {nd : Nat → Nd} {sp : Nat → Nat} {b : GB} {n : GN} {f : GF} {s : GS} {z : Int32} {F : Nat} {rec : Rc} {ch : Ch} {vs : List GV}
/-- what an operator leaves -/
theorem Vop_Fx {I1 : Nat → Nat → Int32} {S : Nat → Prop} {q : Nat ⊕ GV} {r : Int32 × xM} (H : Vop I1 J R (60 + h) S q r) (hS : ∀ x, S x → x = 60 + h ∨ x = 3600 ∨ x = 3601) (hh : h < 900) (S1 : RSt I1 (h + 1) t c d w) : ∃ I2, FrK (Fx h t w) I1 I2 ∧ ((∃ v, q = .inr v ∧ r = (0, mg 4625 I2 J R) ∧ RSt I2 (h + 1) t c d w ∧ MV I2 (60 + h) v) ∨ ∃ e, q = .inl e ∧ 0 < e ∧ e ≤ 10 ∧ r = ((Int32.ofNat (e)), mg 4625 I2 J R)) := by
  obtain ⟨I2, r3, kv, hr⟩ := H
  have e : ∀ j, I2 4561 j = I1 4561 j := fun j => by rw [r3.1 4561 (by omega)]
  refine ⟨I2, Fx_R3 r3 kv (fun x hx => by have := hS x hx; omega), ?_⟩
  rcases hr with ⟨zz, dd, h1, h2, h3⟩ | h1
  · refine Or.inl ⟨(zz, dd), h1, h2, ?_, h3⟩
    unfold RSt
    rw [e, e, e, e, e]
    exact S1
  · exact Or.inr h1
theorem M_gives (hsim : SimM b n f s F rec) (hro : RcO b F rec) (hR : RA R) (hE : MEnv I b n f s) (hA : MT I a nn nd sp) (hT : TrO b nn nd sp) (hi : i < nn) (hb : bkN (nd i) = 0) (hc : ChO ch) (hd : d ≤ 12) (hF : 31 * (12 - d) ≤ F) (hm : vs.length = m) (hm2 : aro nd i = m) (hv : ∀ v, v ∈ vs → Gd v) (hS : RSt I (h + m) (t + 1) c d w) (hK : RTk I t (Int32.ofNat (a + i)) (Int32.ofNat (m)) z) (hst : ∀ j v, vs.reverse[j]? = some v → MV I (60 + h + j) v) (hC : MCh I w ch z) (h1 : h + m ≤ c) (h2 : w ≤ c) (h3 : c ≤ 200) (h4 : t + 1 + 31 * (12 - d) ≤ 480) (hu : u + 4831 + 100 * (31 * (12 - d)) ≤ 900100 + 24 * c) : SimP J R (evG rec b n f s (nd i) ch vs c d) c h t d w u I := by
  have nv := hT.2 i hi
  obtain ⟨x1, x2, x3, x4, x5, x6, x7⟩ := NV_v nv
  have m4 : m ≤ 4 := by rw [← hm2]; exact x4
  by_cases lf : (nd i).1 = 0 ∨ (nd i).1 = 1
  · have m0 : m = 0 := by
      rw [← hm2]
      rcases nv with y | y | y | y
      · exact y.2.2.2
      · exact y.2.2.2
      · rw [y.1] at lf; exact absurd lf (by decide)
      · rw [y.1] at lf; exact absurd lf (by decide)
    subst m0
    exact M_leaf hR hE hA hT hi lf hS hK hC (by omega) h2 h3 (by omega) (by omega)
  have q0 : ¬ (nd i).1 = 0 := fun y => lf (Or.inl y)
  have q1 : ¬ (nd i).1 = 1 := fun y => lf (Or.inr y)
  have m1 : 1 ≤ m := by
    rw [← hm2]
    rcases nv with y | y | y | ⟨y, p, fx, -, -, -, -, y5, -⟩
    · exact absurd y.1 q0
    · exact absurd y.1 q1
    · exact y.2.2.2.1
    · show 1 ≤ (nd i).2.2.2
      rw [y5]
      split <;> decide
  have turn : ∀ p : Int32 × xM, f_X12_applies (mg 4625 I J R) 4561 (Int32.ofNat (t)) (Int32.ofNat (a + i)) = some p → f_X12_run_s33 (4561, 0, mg 4625 I J R) = some (.inr (.inr (4561, p.1, p.2))) := fun p hp => by
    rw [run_top hR hA hi nv hS hK (by omega), if_neg lf, if_neg (by omega), if_neg (by omega), hp, Option.bind_some]
  unfold evG
  unfold f_X12_applies f_X12_applies_j112 at turn
  rw [mk_3 hA hi hR, hm2, gr_4561_49 hR, ga_4601 (by omega), hK.2.1, if_pos ((i32_le (by omega) (by omega)).mpr (Nat.le_refl _)), gr_4561_49 hR, ga_4601 (by omega), hK.2.1, if_pos ((i32_le (by omega) (by omega)).mpr (Nat.le_refl _)), if_pos ok_4561] at turn
  by_cases q : 200 ≤ c
  · rw [if_pos q]
    rw [M_count9 hS (by omega), Option.bind_some, mk_0 hA hi hR] at turn
    refine ⟨1, I, by omega, RQ_1 (turn (9, mg 4625 I J R) ?_), FrK_rfl⟩
    by_cases q2 : (nd i).1 = 2
    · rw [if_pos q2, mk_1 hA hi hR, if_neg (show ¬ (9 : Int32) ≤ 0 by decide)]
    · have q3 : (nd i).1 = 3 := by
        rcases x5 with y | y | y | y
        · exact absurd y q0
        · exact absurd y q1
        · exact absurd y q2
        · exact y
      rw [if_neg q2, if_pos ok_4561, M_meaningAt hR hA hi nv hE.1 hE.2.2.2.1 q3, if_neg (show ¬ (9 : Int32) ≤ 0 by decide)]
  rw [if_neg q, if_neg q0, if_neg q1]
  obtain ⟨_, e1, I1, rfl, f1, S1, o1⟩ := M_count (J := J) (R := R) hS (show c < 200 by omega)
  have A1 := MT_m hA f1
  have E1 := MEnv_keep hE f1
  have st1 : ∀ j v, vs.reverse[j]? = some v → MV I1 (60 + h + j) v := fun j v hj => MV_keep (hst j v hj) (fun k _ _ => o1 4564 k (by decide))
  have K1 : RTk I1 t (Int32.ofNat (a + i)) (Int32.ofNat (m)) z := ⟨by rw [o1 _ _ (by decide)]; exact hK.1, by rw [o1 _ _ (by decide)]; exact hK.2.1, by rw [o1 _ _ (by decide)]; exact hK.2.2⟩
  have f1' : FrK (Fx h t w) I I1 := fun x k y => by
    by_cases qx : x = 4561
    · subst qx
      exact f1 4561 k (by unfold Fx at y ⊢; omega)
    · exact o1 x k qx
  rw [e1, Option.bind_some, mk_0 A1 hi hR] at turn
  -- a call
  have call : ∀ l, l < 26 → (∀ p, f_X12_callFunction (mg 4625 I1 J R) 4561 (Int32.ofNat (t)) (Int32.ofNat (a + i)) (Int32.ofNat (l)) = some p → f_X12_run_s33 (4561, 0, mg 4625 I J R) = some (.inr (.inr (4561, p.1, p.2)))) → SimP J R (evF rec f s l vs (c + 1) d) c h t d w u I := by
    intro l hl tn
    unfold evF
    obtain ⟨p, ep, hp⟩ := M_callFunction (J := J) hR E1 A1 hi hl hm m1 m4 hm2 S1 K1 (by omega) (by omega) (by omega) hd st1
    have st := RQ_1 (tn p ep)
    rcases hp with ⟨p1, rfl⟩ | ⟨p1, p2, rfl⟩ | ⟨p1, p2, I2, rfl, f2, S2, K2, O2, C2⟩
    · rw [if_pos (by rw [hm]; exact p1)]
      exact ⟨1, I1, by omega, st, f1'⟩
    · rw [if_neg (by rw [hm]; omega), if_pos p2]
      exact ⟨1, I1, by omega, st, f1'⟩
    · rw [if_neg (by rw [hm]; omega), if_neg (by omega)]
      have g := M_body (J := J) (u := u + 1) hsim hro hR (MEnv_keep E1 f2) (MT_m A1 f2) hT hi hb hm2 m1 m4 hl p2 (by omega) hv S2 K2 O2 C2 (by omega) (by omega) (by omega) (by omega) (by omega)
      suffices key : ∀ r : Rs, SimXQ 12 J R r (c + 1) h t d w (u + 1) I2 → SimP J R r c h t d w u I from key _ g
      intro r g
      cases r with
      | inl e =>
        obtain ⟨k, I3, b3, rc3, f3⟩ := g
        exact ⟨1 + k, I3, by omega, RQ_tr st rc3, FrK_tr f1' (FrK_tr f2 f3)⟩
      | inr r2 =>
        obtain ⟨v, c'⟩ := r2
        obtain ⟨k, I3, b3, rc3, f3, S3, V3⟩ := g
        exact ⟨1 + k, I3, by omega, RQ_tr st rc3, FrK_tr f1' (FrK_tr f2 f3), S3, V3⟩
  by_cases q2 : (nd i).1 = 2
  · rw [if_pos q2]
    have ll : 97 ≤ vN (nd i) ∧ vN (nd i) < 123 := by
      rcases nv with y | y | ⟨z, ⟨l, hl, e⟩, _⟩ | y
      · exact absurd y.1 q0
      · exact absurd y.1 q1
      · have : vN (nd i) = 97 + l := by
          unfold vN
          rw [e, i32_nat (by omega)]
        omega
      · rw [y.1] at q2; exact absurd q2 (by decide)
    have ev : (100 : Int32) + (Int32.ofNat (vN (nd i))) - (97 : Int32) = (Int32.ofNat (100 + (vN (nd i) - 97))) := by
      rw [show (100 : Int32) + (Int32.ofNat (vN (nd i))) = (Int32.ofNat (100 + vN (nd i))) from n_add 100 _, show (97 : Int32) = (Int32.ofNat (97)) from rfl, n_sub (by omega)]
      congr 1
      omega
    rw [if_pos q2, mk_1 A1 hi hR, x1, ev, if_pos (show (0 : Int32) ≤ 0 by decide), if_neg (show ¬ (Int32.ofNat (100 + (vN (nd i) - 97))) < (100 : Int32) from fun y => absurd ((i32_lt (m := 100) (by omega) (by omega)).mp y) (by omega)), if_pos ok_4561, show (Int32.ofNat (100 + (vN (nd i) - 97))) - (100 : Int32) = (Int32.ofNat (vN (nd i) - 97)) from by
      rw [show (100 : Int32) = (Int32.ofNat (100)) from rfl, n_sub (by omega), Nat.add_sub_cancel_left]] at turn
    refine call _ (by omega) (fun p hp => ?_)
    rw [hp, Option.bind_some] at turn
    exact turn _ rfl
  rw [if_neg q2]
  have q3 : (nd i).1 = 3 := by
    rcases x5 with y | y | y | y
    · exact absurd y q0
    · exact absurd y q1
    · exact absurd y q2
    · exact y
  obtain ⟨p, fx, p1, p2, p3, p4, p5, p6, p7, p8⟩ := mg_i hE.2.2.2.1 nv q3
  rw [if_neg q2, if_pos ok_4561, M_meaningAt hR A1 hi nv E1.1 E1.2.2.2.1 q3, if_pos (show (0 : Int32) ≤ 0 by decide)] at turn
  by_cases q4 : 100 ≤ mgN b (nd i)
  · rw [if_pos q4]
    rw [if_neg (show ¬ (Int32.ofNat (mgN b (nd i))) < (100 : Int32) from fun y => absurd ((i32_lt (m := 100) (by omega) (by omega)).mp y) (by omega)), if_pos ok_4561, show (Int32.ofNat (mgN b (nd i))) - (100 : Int32) = (Int32.ofNat (mgN b (nd i) - 100)) from n_sub (b := 100) (by omega)] at turn
    refine call _ (by omega) (fun p hp => ?_)
    rw [hp, Option.bind_some] at turn
    exact turn _ rfl
  rw [if_neg q4]
  rw [if_pos (show (Int32.ofNat (mgN b (nd i))) < (100 : Int32) from (i32_lt (m := 100) (by omega) (by omega)).mpr (by omega)), gi_4561, S1.2.1, show (Int32.ofNat (t + 1)) - (1 : Int32) = (Int32.ofNat (t)) from n_sub (b := 1) (by omega), gs_4561] at turn
  unfold evO
  have hm3 : m = if fx = 2 then 2 else 1 := by rw [← hm2]; exact p5
  -- the frame is gone
  have f2 : FrK (Fx h t w) I (up I1 4561 56 (Int32.ofNat (t))) := fun x j y => by
    have y2 := y
    unfold Fx at y
    rw [up_n (by omega)]
    exact f1' x j y2
  have S2 : RSt (up I1 4561 56 (Int32.ofNat (t))) (h + m) t (c + 1) d w := by
    obtain ⟨z1, z2, z3, z4, z5⟩ := S1
    exact ⟨by rw [up_n (by omega)]; exact z1, up_s, by rw [up_n (by omega)]; exact z3, by rw [up_n (by omega)]; exact z4, by rw [up_n (by omega)]; exact z5⟩
  have st2 : ∀ j v, vs.reverse[j]? = some v → MV (up I1 4561 56 (Int32.ofNat (t))) (60 + h + j) v := fun j v hj => MV_keep (st1 j v hj) (fun k _ _ => up_n (by omega))
  generalize up I1 4561 56 (Int32.ofNat (t)) = I2 at *
  have fin : ∀ (qr : Nat ⊕ GV) (I3 : Nat → Nat → Int32) (r : Int32 × xM), FrK (Fx h t w) I2 I3 → ((∃ v, qr = .inr v ∧ r = (0, mg 4625 I3 J R) ∧ RSt I3 (h + 1) t (c + 1) d w ∧ MV I3 (60 + h) v) ∨ ∃ e, qr = .inl e ∧ 0 < e ∧ e ≤ 10 ∧ r = ((Int32.ofNat (e)), mg 4625 I3 J R)) → f_X12_run_s33 (4561, 0, mg 4625 I J R) = some (.inr (.inr (4561, r.1, r.2))) → SimP J R (match qr with
      | .inl e => .inl e
      | .inr v => .inr (v, c + 1)) c h t d w u I := by
    intro qr I3 r f3 hr tn
    rcases hr with ⟨v, ev, rfl, S3, V3⟩ | ⟨e, ee, g1, g2, rfl⟩
    · rw [ev]
      exact ⟨1, I3, by omega, RQ_1 tn, FrK_tr f2 f3, S3, V3⟩
    · rw [ee]
      exact ⟨1, I3, by omega, RQ_1 tn, FrK_tr f2 f3⟩
  by_cases q5 : 11 ≤ mgN b (nd i)
  · rw [if_pos q5]
    have m1' : m = 1 := by
      rw [hm3, if_neg (by omega)]
    subst m1'
    cases vs with
    | nil => cases hm
    | cons v vs =>
      cases vs with
      | cons _ _ => cases hm
      | nil =>
        have V : MV I2 (60 + h) v := st2 0 v rfl
        obtain ⟨r, er, hr⟩ := M_one (J := J) (m := mgN b (nd i)) hR (by omega) (by omega) (MV_Vv V)
        obtain ⟨I3, f3, hr⟩ := Vop_Fx (t := t) (c := c + 1) (d := d) (w := w) hr (fun x hx => by omega) (by omega) S2
        rw [if_pos (show (Int32.ofNat (1)) = (1 : Int32) from rfl), if_pos ok_4561, M_top S2, if_pos ok_4561, er, Option.bind_some] at turn
        exact fin _ I3 r f3 hr (turn _ rfl)
  · rw [if_neg q5]
    have m2' : m = 2 := by
      rw [hm3, if_pos (by omega)]
    subst m2'
    cases vs with
    | nil => cases hm
    | cons v2 vs =>
      cases vs with
      | nil => cases hm
      | cons v1 vs =>
        cases vs with
        | cons _ _ => cases hm
        | nil =>
          have f3 : FrK (Fx h t w) I2 (up I2 4561 61 (Int32.ofNat (h + 1))) := fun x j y => by
            unfold Fx at y
            rw [up_n (by omega)]
          have S3 : RSt (up I2 4561 61 (Int32.ofNat (h + 1))) (h + 1) t (c + 1) d w := by
            obtain ⟨z1, z2, z3, z4, z5⟩ := S2
            exact ⟨up_s, by rw [up_n (by omega)]; exact z2, by rw [up_n (by omega)]; exact z3, by rw [up_n (by omega)]; exact z4, by rw [up_n (by omega)]; exact z5⟩
          have V1 : MV (up I2 4561 61 (Int32.ofNat (h + 1))) (60 + h) v1 := MV_keep (st2 0 v1 rfl) (fun k _ _ => up_n (by omega))
          have V2 : MV (up I2 4561 61 (Int32.ofNat (h + 1))) (60 + h + 1) v2 := MV_keep (st2 1 v2 rfl) (fun k _ _ => up_n (by omega))
          rw [if_neg (show ¬ (Int32.ofNat (2)) = (1 : Int32) by decide), gi_4561, S2.1, show (Int32.ofNat (h + 2)) - (1 : Int32) = (Int32.ofNat (h + 1)) from n_sub (b := 1) (by omega), gs_4561, if_pos ok_4561, M_top S3, if_pos ok_4561, M_top S3, if_pos ok_4561, show (Int32.ofNat (60 + h)) + (1 : Int32) = (Int32.ofNat (60 + h + 1)) from n_add (60 + h) 1] at turn
          generalize up I2 4561 61 (Int32.ofNat (h + 1)) = I3 at *
          obtain ⟨r, er, hr⟩ := M_two (J := J) (m := mgN b (nd i)) hR (by omega) (by omega) (by omega) (MV_Vv V1) (MV_Vv V2)
          obtain ⟨I4, f4, hr⟩ := Vop_Fx (t := t) (c := c + 1) (d := d) (w := w) hr (fun x hx => by omega) (by omega) S3
          rw [er, Option.bind_some] at turn
          exact fin _ I4 r (FrK_tr f3 f4) hr (turn _ rfl)
theorem M_plain (hsim : SimM b n f s F rec) (hro : RcO b F rec) (hR : RA R) (hE : MEnv I b n f s) (hA : MT I a nn nd sp) (hT : TrO b nn nd sp) (hi : i < nn) (hb : bkN (nd i) = 0) (hc : ChO ch) (hd : d ≤ 12) (hF : sp i + 31 * (12 - d) ≤ F + 1) (hS : RSt I h (t + 1) c d w) (hK : RTk I t (Int32.ofNat (a + i)) 0 z) (hC : MCh I w ch z) (h1 : h ≤ c) (h2 : w ≤ c) (h3 : c ≤ 200) (h4 : t + sp i + 31 * (12 - d) ≤ 480) (hu : u + 4824 + 100 * (sp i + 31 * (12 - d)) ≤ 900000 + 24 * c) : SimQ J R (match evA rec nd sp i ch d (aro nd i) c with
    | .inl e => .inl e
    | .inr (vs, c1) => evG rec b n f s (nd i) ch vs c1 d) c h t d w u I := by
  have a4 : aro nd i ≤ 4 := (NV_v (hT.2 i hi)).2.2.2.1
  have s1 := (hT.1.2.2.2 i hi).1
  have g := M_args (J := J) hsim hro hR hE hA hT hi hb hc hd hF hS hK hC h1 h2 h3 h4 hu (aro nd i) (Nat.le_refl _)
  have ro := evA_RO hro hT hi hc hd hF (aro nd i) (Nat.le_refl _) c
  cases e : evA rec nd sp i ch d (aro nd i) c with
  | inl e1 => rw [e] at g; exact g
  | inr r =>
    obtain ⟨vs, c1⟩ := r
    rw [e] at g ro
    obtain ⟨kk, I1, b1, rc1, f1, S1, K1, V1⟩ := g
    obtain ⟨r1, r2, r3, r4, r5⟩ := ro
    have c200 : c1 ≤ 200 := by
      by_cases q : aro nd i = 0
      · have := r3 q; omega
      · exact r4 q
    have g2 := M_gives (J := J) (u := u + kk) (h := h) hsim hro hR (MEnv_keep hE f1) (MT_m hA f1) hT hi hb hc hd (by omega) r1 rfl r5 S1 K1 V1 (MCh_keep (by omega) (by omega) ch w z hC (Nat.le_refl _) f1) (by omega) (by omega) c200 (by omega) (by omega)
    dsimp only
    generalize evG rec b n f s (nd i) ch vs c1 d = r at g2
    cases r with
    | inl e3 =>
      obtain ⟨k2, I3, b3, rc3, f3⟩ := g2
      exact ⟨kk + k2, I3, by omega, RQ_tr rc1 rc3, FrK_tr f1 f3⟩
    | inr r2 =>
      obtain ⟨v, c'⟩ := r2
      obtain ⟨k2, I3, b3, rc3, f3, S3, V3⟩ := g2
      exact ⟨kk + k2, I3, by omega, RQ_tr rc1 rc3, FrK_tr f1 f3, S3, V3⟩
end RG2
