/-! the reference's run: turns of a call -/
def hdI (w : Nat × Nat) : Int32 := if w.1 = 0 then -1 else (Int32.ofNat (w.2))
section RC1
variable {I : Nat → Nat → Int32} {b : GB} {n : GN} {f : GF} {s : GS} {l k : Nat}
theorem fm_cnd (hE : MEnv I b n f s) (hl : l < 26) (hk : k < casN f l) : (cndN f l k = none ∧ I 4573 (8 * l + 2 * k) = 0) ∨ ∃ tr, cndN f l k = some tr ∧ tr < s.1 ∧ s.2.1 tr ≤ 30 ∧ I 4573 (8 * l + 2 * k) = (Int32.ofNat (s.2.1 tr)) ∧ MT I (2400 + 240 * l + 30 * (2 * k)) (s.2.1 tr) (s.2.2.1 tr) (s.2.2.2 tr) := by
  have s30 := hE.2.2.2.2.2.2.2
  obtain ⟨-, -, cc, c4, ec, hc⟩ := hE.2.2.1 l hl
  have ek : casN f l = cc := by
    unfold casN
    rw [ec, i32_nat (by omega)]
  have h := (hc 0 k (by decide) (by omega)).1 (by omega)
  rcases h with ⟨-, h1, h2⟩ | ⟨tr, h1, h2, h3, h4, h5⟩
  · exact Or.inl ⟨if_pos h1, h2⟩
  · have e0 : 2 + 4 * 0 + k = 2 + k := by omega
    rw [e0] at h2
    have n1 : ¬ f l (2 + k) = -1 := by
      rw [h2]
      exact i32_m1 (by omega)
    refine Or.inr ⟨tr, ?_, h1, h3, h4, h5⟩
    show (if f l (2 + k) = -1 then none else some (f l (2 + k)).toNatClampNeg) = _
    rw [if_neg n1, h2, i32_nat (by omega)]
theorem fm_val (hE : MEnv I b n f s) (hl : l < 26) (hk : k < casN f l) : valN f l k < s.1 ∧ s.2.1 (valN f l k) ≤ 30 ∧ MT I (2400 + 240 * l + 30 * (2 * k + 1)) (s.2.1 (valN f l k)) (s.2.2.1 (valN f l k)) (s.2.2.2 (valN f l k)) := by
  have s30 := hE.2.2.2.2.2.2.2
  obtain ⟨-, -, cc, c4, ec, hc⟩ := hE.2.2.1 l hl
  have ek : casN f l = cc := by
    unfold casN
    rw [ec, i32_nat (by omega)]
  have h := (hc 1 k (by decide) (by omega)).1 (by omega)
  rcases h with ⟨h1, -⟩ | ⟨tr, h1, h2, h3, h4, h5⟩
  · exact absurd h1 (by decide)
  · have e0 : 2 + 4 * 1 + k = 6 + k := by omega
    rw [e0] at h2
    have e : valN f l k = tr := by
      unfold valN
      rw [h2, i32_nat (by omega)]
    rw [e]
    exact ⟨h1, h3, h5⟩
theorem fm_cas (hE : MEnv I b n f s) (hl : l < 26) : I 4572 l = (Int32.ofNat (casN f l)) ∧ casN f l ≤ 4 := by
  obtain ⟨-, h2, cc, c4, ec, -⟩ := hE.2.2.1 l hl
  have ek : casN f l = cc := by
    unfold casN
    rw [ec, i32_nat (by omega)]
  rw [ek, ← ec]
  exact ⟨h2, c4⟩
end RC1
section RC2
variable {I : Nat → Nat → Int32} {J : Nat → Nat → Int64} {R : Nat → Nat → Option Nat} {β : Type} {h t c d w u a nn i m l k : Nat} {nd : Nat → Nd} {sp : Nat → Nat} {b : GB} {n : GN} {f : GF} {s : GS} {z : Int32} {F : Nat} {rec : Rc} {ch : Ch} {vs : List GV} {g : Nat × Nat}
/-- a turn on a frame of a call that is open -/
theorem run_call {q : Nat} (hR : RA R) (hA : MT I a nn nd sp) (hi : i < nn) (hn : NV b (nd i)) (hb : bkN (nd i) = 0) (hm2 : aro nd i = m) (hm1 : 1 ≤ m) (hm4 : m ≤ 4) (hq1 : 1 ≤ q) (hq3 : q ≤ 3) (hS : RSt I h (t + 1) c d w) (hK : RTk I t (Int32.ofNat (a + i)) (Int32.ofNat (m + q)) z) (ht : t < 480) : f_X12_run_s33 (4561, 0, mg 4625 I J R) = (f_X12_cases (mg 4625 I J R) 4561 (Int32.ofNat (t)) (Int32.ofNat (q))).bind (fun p => some (.inr (.inr (4561, p.1, p.2)))) := by
  have nz : ¬ ((nd i).1 = 0 ∨ (nd i).1 = 1) := fun y => by
    have : 0 < (nd i).2.2.2 := by show 0 < aro nd i; omega
    rcases hn with z1 | z1 | z1 | z1
    · have := z1.2.2.2; omega
    · have := z1.2.2.2; omega
    · rw [z1.1] at y; exact absurd y (by decide)
    · rw [z1.1] at y; exact absurd y (by decide)
  rw [run_top hR hA hi hn hS hK (by omega), if_neg nz, if_neg (by omega), if_neg (by omega)]
  unfold f_X12_applies
  rw [mk_3 hA hi hR, hm2, gr_4561_49 hR, ga_4601 (by omega), hK.2.1, if_pos (show (Int32.ofNat (m)) ≤ (Int32.ofNat (m + q)) from (i32_le (by omega) (by omega)).mpr (by omega)), gr_4561_49 hR, ga_4601 (by omega), hK.2.1, if_neg (show ¬ (Int32.ofNat (m + q)) ≤ (Int32.ofNat (m)) from fun y => absurd ((i32_le (by omega) (by omega)).mp y) (by omega)), gr_4561_49 hR, ga_4601 (by omega), hK.2.1, n_sub (by omega), show m + q - m = q by omega, if_pos ok_4561, Option.bind_assoc]
  rfl
theorem RTo_up {own fn cs hd lf cs' hd' lf' : Int32} {node stage : Int32} (hS : RSt I h (t + 1) c d w) (hK : RTk I t node stage z) (hO : RTo I t own fn cs hd lf) : FrK (Fx h t w) I (up (up (up I 4607 t lf') 4606 t hd') 4605 t cs') ∧ RSt (up (up (up I 4607 t lf') 4606 t hd') 4605 t cs') h (t + 1) c d w ∧ RTk (up (up (up I 4607 t lf') 4606 t hd') 4605 t cs') t node stage z ∧ RTo (up (up (up I 4607 t lf') 4606 t hd') 4605 t cs') t own fn cs' hd' lf' := by
  obtain ⟨s1, s2, s3, s4, s5⟩ := hS
  obtain ⟨k1, k2, k3⟩ := hK
  obtain ⟨o1, o2, o3, o4, o5⟩ := hO
  have e : ∀ x j, x ≠ 4605 → x ≠ 4606 → x ≠ 4607 → up (up (up I 4607 t lf') 4606 t hd') 4605 t cs' x j = I x j := fun x j g1 g2 g3 => by
    rw [up_n (by omega), up_n (by omega), up_n (by omega)]
  refine ⟨fun x j y => ?_, ⟨?_, ?_, ?_, ?_, ?_⟩, ⟨?_, ?_, ?_⟩, ?_, ?_, up_s, ?_, ?_⟩
  · unfold Fx at y
    rw [up_n (by omega), up_n (by omega), up_n (by omega)]
  · rw [e _ _ (by decide) (by decide) (by decide)]; exact s1
  · rw [e _ _ (by decide) (by decide) (by decide)]; exact s2
  · rw [e _ _ (by decide) (by decide) (by decide)]; exact s3
  · rw [e _ _ (by decide) (by decide) (by decide)]; exact s4
  · rw [e _ _ (by decide) (by decide) (by decide)]; exact s5
  · rw [e _ _ (by decide) (by decide) (by decide)]; exact k1
  · rw [e _ _ (by decide) (by decide) (by decide)]; exact k2
  · rw [e _ _ (by decide) (by decide) (by decide)]; exact k3
  · rw [e _ _ (by decide) (by decide) (by decide)]; exact o1
  · rw [e _ _ (by decide) (by decide) (by decide)]; exact o2
  · rw [up_n (by omega), up_s]
  · rw [up_n (by omega), up_n (by omega), up_s]
/-- a case is told to hold or not -/
theorem M_holds {own fn : Int32} {node stage : Int32} {hold : Bool} (hR : RA R) (hS : RSt I h (t + 1) c d w) (hK : RTk I t node stage z) (hO : RTo I t own fn (Int32.ofNat (k)) (hdI g) (Int32.ofNat (g.1))) (ht : t < 480) : QK (f_X12_holds (mg 4625 I J R) 4561 (Int32.ofNat (t)) (if hold = true then 1 else 0)) (fun r => ∃ I', r = mg 4625 I' J R ∧ FrK (Fx h t w) I I' ∧ RSt I' h (t + 1) c d w ∧ RTk I' t node stage z ∧ RTo I' t own fn (Int32.ofNat (k + 1)) (hdI (if hold = true then (g.1 + 1, k) else g)) (Int32.ofNat ((if hold = true then (g.1 + 1, k) else g).1))) := by
  obtain ⟨o1, o2, o3, o4, o5⟩ := hO
  have hO : RTo I t own fn (Int32.ofNat (k)) (hdI g) (Int32.ofNat (g.1)) := ⟨o1, o2, o3, o4, o5⟩
  unfold f_X12_holds f_X12_holds_j16 f_X12_holds_j42
  by_cases q : hold = true
  · obtain ⟨a1, a2, a3, a4⟩ := RTo_up (cs' := (Int32.ofNat (k + 1))) (hd' := (Int32.ofNat (k))) (lf' := (Int32.ofNat (g.1 + 1))) hS hK hO
    have e : hdI (g.1 + 1, k) = (Int32.ofNat (k)) := if_neg (by show ¬ g.1 + 1 = 0; omega)
    rw [if_pos q, if_pos q, e, gr_4561_55 hR, ga_4607 (by omega), o5, if_neg (by decide), gw_4607 (by omega), show (Int32.ofNat (g.1)) + (1 : Int32) = (Int32.ofNat (g.1 + 1)) from n_add _ 1, gr_4561_54 hR, if_neg (by decide), gr_4561_53 hR, ga_4605 (by omega), up_n (by omega), o3, gw_4606 (by omega), gr_4561_53 hR, ga_4605 (by omega), up_n (by omega), up_n (by omega), o3, show (Int32.ofNat (k)) + (1 : Int32) = (Int32.ofNat (k + 1)) from n_add _ 1, gw_4605 (by omega)]
    exact q_ok ⟨_, rfl, a1, a2, a3, a4⟩
  · obtain ⟨a1, a2, a3, a4⟩ := RTo_up (cs' := (Int32.ofNat (k + 1))) (hd' := hdI g) (lf' := (Int32.ofNat (g.1))) hS hK hO
    rw [if_neg q, if_neg q, gr_4561_55 hR, ga_4607 (by omega), o5, if_pos rfl, gw_4607 (by omega), show (Int32.ofNat (g.1)) + (0 : Int32) = (Int32.ofNat (g.1)) from n_add _ 0, gr_4561_54 hR, if_pos rfl, gr_4561_54 hR, ga_4606 (by omega), up_n (by omega), o4, gw_4606 (by omega), gr_4561_53 hR, ga_4605 (by omega), up_n (by omega), up_n (by omega), o3, show (Int32.ofNat (k)) + (1 : Int32) = (Int32.ofNat (k + 1)) from n_add _ 1, gw_4605 (by omega)]
    exact q_ok ⟨_, rfl, a1, a2, a3, a4⟩
theorem caseAt_e {σ : xM} {q : Nat} {G : Int32 → Option β} : (f_X12_caseAt σ (Int32.ofNat (l)) (Int32.ofNat (k)) (Int32.ofNat (q))).bind G = G (Int32.ofNat (2400 + 240 * l + 30 * (2 * k + q))) := by
  unfold f_X12_caseAt
  rw [Option.bind_some, show (8 : Int32) * (Int32.ofNat (l)) + (2 : Int32) * (Int32.ofNat (k)) = (Int32.ofNat (8 * l + 2 * k)) by
    rw [show (2 : Int32) * (Int32.ofNat (k)) = (Int32.ofNat (2 * k)) from n_mul 2 k]
    exact i32_ma 8 l (2 * k), n_add, show (30 : Int32) * (Int32.ofNat (8 * l + 2 * k + q)) = (Int32.ofNat (30 * (8 * l + 2 * k + q))) from n_mul 30 _, show (2400 : Int32) + (Int32.ofNat (30 * (8 * l + 2 * k + q))) = (Int32.ofNat (2400 + 30 * (8 * l + 2 * k + q))) from n_add 2400 _]
  congr 2
  omega
/-- a case without a condition -/
theorem cas_none (hR : RA R) (hE : MEnv I b n f s) {node : Int32} {own : Int32} (hS : RSt I h (t + 1) c d w) (hK : RTk I t node (Int32.ofNat (m + 1)) z) (hO : RTo I t own (Int32.ofNat (l)) (Int32.ofNat (k)) (hdI g) (Int32.ofNat (g.1))) (ht : t < 480) (hl : l < 26) (hk : k < casN f l) (hn : cndN f l k = none) : QK (f_X12_cases (mg 4625 I J R) 4561 (Int32.ofNat (t)) (Int32.ofNat (1))) (fun r => ∃ I', r = (0, mg 4625 I' J R) ∧ FrK (Fx h t w) I I' ∧ RSt I' h (t + 1) c d w ∧ RTk I' t node (Int32.ofNat (m + 1)) z ∧ RTo I' t own (Int32.ofNat (l)) (Int32.ofNat (k + 1)) (hdI (g.1 + 1, k)) (Int32.ofNat (g.1 + 1))) := by
  obtain ⟨c1, c2⟩ := fm_cas hE hl
  have sz : I 4573 (8 * l + 2 * k) = 0 := by
    rcases fm_cnd hE hl hk with y | ⟨tr, y, -⟩
    · exact y.2
    · rw [hn] at y; cases y
  unfold f_X12_cases f_X12_cases_j229
  rw [gr_4561_52 hR, ga_4604 (by omega), hO.2.1, if_neg (by decide), if_neg (by decide), gr_4561_53 hR, ga_4605 (by omega), hO.2.2.1, gr_4561_12 hR, ga_4572 (by omega), c1, if_neg (show ¬ (Int32.ofNat (k)) = (Int32.ofNat (casN f l)) from i32_ne (by omega) (by omega) (by omega)), gr_4561_13 hR, show (2 : Int32) * (Int32.ofNat (k)) = (Int32.ofNat (2 * k)) from n_mul 2 k, show (8 : Int32) * (Int32.ofNat (l)) + (Int32.ofNat (2 * k)) = (Int32.ofNat (8 * l + 2 * k)) from i32_ma 8 l (2 * k), ga_4573 (by omega), sz, if_pos rfl, if_pos ok_4561]
  refine q_bind (M_holds (hold := true) hR hS hK hO ht) ?_
  rintro _ ⟨I1, rfl, f1, S1, K1, O1⟩
  exact q_ok ⟨I1, rfl, f1, S1, K1, O1⟩
/-- a condition begins -/
theorem cas_cond {tr : Nat} (hR : RA R) (hE : MEnv I b n f s) {node : Int32} {own : Nat} (hS : RSt I h (t + 1) c d w) (hK : RTk I t node (Int32.ofNat (m + 1)) z) (hO : RTo I t (Int32.ofNat (own)) (Int32.ofNat (l)) (Int32.ofNat (k)) (hdI g) (Int32.ofNat (g.1))) (ht : t < 480) (hm : m < 1000) (hl : l < 26) (hk : k < casN f l) (hn : cndN f l k = some tr) : QK (f_X12_cases (mg 4625 I J R) 4561 (Int32.ofNat (t)) (Int32.ofNat (1))) (fun r => ∃ I', r = (0, mg 4625 I' J R) ∧ FrK (Fx h t w) I I' ∧ RSt I' h (t + 2) c d w ∧ RTk I' t node (Int32.ofNat (m + 2)) z ∧ RTo I' t (Int32.ofNat (own)) (Int32.ofNat (l)) (Int32.ofNat (k)) (hdI g) (Int32.ofNat (g.1)) ∧ RTk I' (t + 1) (Int32.ofNat (2400 + 240 * l + 30 * (2 * k))) 0 (Int32.ofNat (own))) := by
  obtain ⟨c1, c2⟩ := fm_cas hE hl
  obtain ⟨f1, S1, K1⟩ := RTk_stage (stage' := (Int32.ofNat (m + 2))) hS hK
  have O1 : RTo (up I 4601 t (Int32.ofNat (m + 2))) t (Int32.ofNat (own)) (Int32.ofNat (l)) (Int32.ofNat (k)) (hdI g) (Int32.ofNat (g.1)) := by
    obtain ⟨o1, o2, o3, o4, o5⟩ := hO
    exact ⟨by rw [up_n (by omega)]; exact o1, by rw [up_n (by omega)]; exact o2, by rw [up_n (by omega)]; exact o3, by rw [up_n (by omega)]; exact o4, by rw [up_n (by omega)]; exact o5⟩
  have sz : ¬ I 4573 (8 * l + 2 * k) = 0 := by
    rcases fm_cnd hE hl hk with y | ⟨tr, -, y1, y2, y3, y4⟩
    · rw [hn] at y; cases y.1
    · rw [y3]
      have := y4.2.1.1
      exact i32_ne (b := 0) (by omega) (by omega) (by omega)
  unfold f_X12_cases f_X12_cases_j229
  rw [gr_4561_52 hR, ga_4604 (by omega), hO.2.1, if_neg (by decide), if_neg (by decide), gr_4561_53 hR, ga_4605 (by omega), hO.2.2.1, gr_4561_12 hR, ga_4572 (by omega), c1, if_neg (show ¬ (Int32.ofNat (k)) = (Int32.ofNat (casN f l)) from i32_ne (by omega) (by omega) (by omega)), gr_4561_13 hR, show (2 : Int32) * (Int32.ofNat (k)) = (Int32.ofNat (2 * k)) from n_mul 2 k, show (8 : Int32) * (Int32.ofNat (l)) + (Int32.ofNat (2 * k)) = (Int32.ofNat (8 * l + 2 * k)) from i32_ma 8 l (2 * k), ga_4573 (by omega), if_neg sz, gr_4561_49 hR, ga_4601 (by omega), hK.2.1, show (Int32.ofNat (m + 1)) + (1 : Int32) = (Int32.ofNat (m + 2)) from n_add (m + 1) 1, gw_4601 (by omega)]
  generalize up I 4601 t (Int32.ofNat (m + 2)) = I1 at *
  rw [show (f_X12_caseAt (mg 4625 I1 J R) (Int32.ofNat (l)) (Int32.ofNat (k)) 0) = f_X12_caseAt (mg 4625 I1 J R) (Int32.ofNat (l)) (Int32.ofNat (k)) (Int32.ofNat (0)) from rfl, caseAt_e, gr_4561_51 hR, ga_4603 (by omega), O1.1, if_pos ok_4561]
  refine q_bind (M_enter hR S1 (by omega)) ?_
  rintro _ ⟨I2, rfl, f2, S2, K2⟩
  exact q_ok ⟨I2, rfl, FrK_tr f1 (Fx_mono f2 (Nat.le_refl _) (by omega) (Nat.le_refl _)), S2, RTk_keep K1 f2, RTo_keep O1 f2, K2⟩
/-- a condition's value is there -/
theorem cas_holds {v : GV} (hR : RA R) {node : Int32} {own fn : Int32} (hS : RSt I (h + 1) (t + 1) c d w) (hK : RTk I t node (Int32.ofNat (m + 2)) z) (hO : RTo I t own fn (Int32.ofNat (k)) (hdI g) (Int32.ofNat (g.1))) (ht : t < 480) (hh : h < 900) (hm : m < 1000) (hv : MV I (60 + h) v) : QK (f_X12_cases (mg 4625 I J R) 4561 (Int32.ofNat (t)) (Int32.ofNat (2))) (fun r => ∃ I', r = (0, mg 4625 I' J R) ∧ FrK (Fx h t w) I I' ∧ RSt I' h (t + 1) c d w ∧ RTk I' t node (Int32.ofNat (m + 1)) z ∧ RTo I' t own fn (Int32.ofNat (k + 1)) (hdI (if v.1 = 0 then g else (g.1 + 1, k))) (Int32.ofNat ((if v.1 = 0 then g else (g.1 + 1, k)).1))) := by
  have g0 : (Int32.ofInt v.1.sign = 0) ↔ v.1 = 0 := by
    have := Vv_0 hv
    rw [← this]
    have e := hv.1
    rw [e]
  have f1 : FrK (Fx h t w) I (up (up I 4561 61 (Int32.ofNat (h))) 4601 t (Int32.ofNat (m + 1))) := fun x j y => by
    unfold Fx at y
    rw [up_n (by omega), up_n (by omega)]
  have S1 : RSt (up (up I 4561 61 (Int32.ofNat (h))) 4601 t (Int32.ofNat (m + 1))) h (t + 1) c d w := by
    obtain ⟨s1, s2, s3, s4, s5⟩ := hS
    exact ⟨by rw [up_n (by omega), up_s], by rw [up_n (by omega), up_n (by omega)]; exact s2, by rw [up_n (by omega), up_n (by omega)]; exact s3, by rw [up_n (by omega), up_n (by omega)]; exact s4, by rw [up_n (by omega), up_n (by omega)]; exact s5⟩
  have K1 : RTk (up (up I 4561 61 (Int32.ofNat (h))) 4601 t (Int32.ofNat (m + 1))) t node (Int32.ofNat (m + 1)) z := ⟨by rw [up_n (by omega), up_n (by omega)]; exact hK.1, up_s, by rw [up_n (by omega), up_n (by omega)]; exact hK.2.2⟩
  have O1 : RTo (up (up I 4561 61 (Int32.ofNat (h))) 4601 t (Int32.ofNat (m + 1))) t own fn (Int32.ofNat (k)) (hdI g) (Int32.ofNat (g.1)) := by
    obtain ⟨o1, o2, o3, o4, o5⟩ := hO
    exact ⟨by rw [up_n (by omega), up_n (by omega)]; exact o1, by rw [up_n (by omega), up_n (by omega)]; exact o2, by rw [up_n (by omega), up_n (by omega)]; exact o3, by rw [up_n (by omega), up_n (by omega)]; exact o4, by rw [up_n (by omega), up_n (by omega)]; exact o5⟩
  unfold f_X12_cases
  rw [gr_4561_52 hR, ga_4604 (by omega), if_neg (by decide), if_pos (show (Int32.ofNat (2)) = (2 : Int32) from rfl), if_pos ok_4561, M_top hS, if_pos ok_4561, M_sign hR (by omega) hv, Option.bind_some]
  have fin : ∀ hold : Bool, QK (f_X12_cases_j65 (mg 4625 I J R) 4561 (Int32.ofNat (t)) (if hold = true then 1 else 0)) (fun r => ∃ I', r = (0, mg 4625 I' J R) ∧ FrK (Fx h t w) I I' ∧ RSt I' h (t + 1) c d w ∧ RTk I' t node (Int32.ofNat (m + 1)) z ∧ RTo I' t own fn (Int32.ofNat (k + 1)) (hdI (if hold = true then (g.1 + 1, k) else g)) (Int32.ofNat ((if hold = true then (g.1 + 1, k) else g).1))) := fun hold => by
    unfold f_X12_cases_j65
    rw [gi_4561, hS.1, show (Int32.ofNat (h + 1)) - (1 : Int32) = (Int32.ofNat (h)) from n_sub (b := 1) (by omega), gs_4561, gr_4561_49 hR, ga_4601 (by omega), up_n (by omega), hK.2.1, show (Int32.ofNat (m + 2)) - (1 : Int32) = (Int32.ofNat (m + 1)) from n_sub (b := 1) (by omega), gw_4601 (by omega), if_pos ok_4561]
    refine q_bind (M_holds (hold := hold) hR S1 K1 O1 ht) ?_
    rintro _ ⟨I2, rfl, f2, S2, K2, O2⟩
    exact q_ok ⟨I2, rfl, FrK_tr f1 f2, S2, K2, O2⟩
  by_cases v0 : v.1 = 0
  · rw [if_pos (g0.mpr v0), if_pos v0]
    exact fin false
  · rw [if_neg (fun y => v0 (g0.mp y)), if_neg v0]
    exact fin true
/-- the value of the case that holds begins -/
theorem cas_value (hR : RA R) (hE : MEnv I b n f s) {node : Int32} {own : Nat} (hS : RSt I h (t + 1) c d w) (hK : RTk I t node (Int32.ofNat (m + 1)) z) (hO : RTo I t (Int32.ofNat (own)) (Int32.ofNat (l)) (Int32.ofNat (casN f l)) (hdI g) (Int32.ofNat (g.1))) (ht : t < 480) (hm : m < 1000) (hl : l < 26) (hg : g.1 = 1) (hg2 : g.2 < casN f l) : QK (f_X12_cases (mg 4625 I J R) 4561 (Int32.ofNat (t)) (Int32.ofNat (1))) (fun r => ∃ I', r = (0, mg 4625 I' J R) ∧ FrK (Fx h t w) I I' ∧ RSt I' h (t + 2) c d w ∧ RTk I' t node (Int32.ofNat (m + 3)) z ∧ RTo I' t (Int32.ofNat (own)) (Int32.ofNat (l)) (Int32.ofNat (casN f l)) (hdI g) (Int32.ofNat (g.1)) ∧ RTk I' (t + 1) (Int32.ofNat (2400 + 240 * l + 30 * (2 * g.2 + 1))) 0 (Int32.ofNat (own))) := by
  obtain ⟨c1, c2⟩ := fm_cas hE hl
  obtain ⟨f1, S1, K1⟩ := RTk_stage (stage' := (Int32.ofNat (m + 3))) hS hK
  have O1 : RTo (up I 4601 t (Int32.ofNat (m + 3))) t (Int32.ofNat (own)) (Int32.ofNat (l)) (Int32.ofNat (casN f l)) (hdI g) (Int32.ofNat (g.1)) := by
    obtain ⟨o1, o2, o3, o4, o5⟩ := hO
    exact ⟨by rw [up_n (by omega)]; exact o1, by rw [up_n (by omega)]; exact o2, by rw [up_n (by omega)]; exact o3, by rw [up_n (by omega)]; exact o4, by rw [up_n (by omega)]; exact o5⟩
  have eh : hdI g = (Int32.ofNat (g.2)) := if_neg (by omega)
  unfold f_X12_cases f_X12_cases_j229
  rw [gr_4561_52 hR, ga_4604 (by omega), hO.2.1, if_neg (by decide), if_neg (by decide), gr_4561_53 hR, ga_4605 (by omega), hO.2.2.1, gr_4561_12 hR, ga_4572 (by omega), c1, if_pos rfl, gr_4561_55 hR, ga_4607 (by omega), hO.2.2.2.2, if_pos (show (Int32.ofNat (g.1)) = (1 : Int32) by rw [hg]; rfl), gr_4561_49 hR, ga_4601 (by omega), hK.2.1, show (Int32.ofNat (m + 1)) + (2 : Int32) = (Int32.ofNat (m + 3)) from n_add (m + 1) 2, gw_4601 (by omega)]
  generalize up I 4601 t (Int32.ofNat (m + 3)) = I1 at *
  rw [gr_4561_54 hR, ga_4606 (by omega), O1.2.2.2.1, eh, show (f_X12_caseAt (mg 4625 I1 J R) (Int32.ofNat (l)) (Int32.ofNat (g.2)) 1) = f_X12_caseAt (mg 4625 I1 J R) (Int32.ofNat (l)) (Int32.ofNat (g.2)) (Int32.ofNat (1)) from rfl, caseAt_e, gr_4561_51 hR, ga_4603 (by omega), O1.1, if_pos ok_4561]
  refine q_bind (M_enter hR S1 (by omega)) ?_
  rintro _ ⟨I2, rfl, f2, S2, K2⟩
  rw [eh] at O1
  exact q_ok ⟨I2, rfl, FrK_tr f1 (Fx_mono f2 (Nat.le_refl _) (by omega) (Nat.le_refl _)), S2, RTk_keep K1 f2, RTo_keep O1 f2, K2⟩
theorem cas_noValue (hR : RA R) (hE : MEnv I b n f s) {node : Int32} {own : Int32} (hS : RSt I h (t + 1) c d w) (hK : RTk I t node (Int32.ofNat (m + 1)) z) (hO : RTo I t own (Int32.ofNat (l)) (Int32.ofNat (casN f l)) (hdI g) (Int32.ofNat (g.1))) (ht : t < 480) (hl : l < 26) (hg : g.1 ≠ 1) (hg4 : g.1 < 1000) : f_X12_cases (mg 4625 I J R) 4561 (Int32.ofNat (t)) (Int32.ofNat (1)) = some ((Int32.ofNat (if g.1 = 0 then 6 else 7)), mg 4625 I J R) := by
  obtain ⟨c1, c2⟩ := fm_cas hE hl
  unfold f_X12_cases f_X12_cases_j141
  rw [gr_4561_52 hR, ga_4604 (by omega), hO.2.1, if_neg (by decide), if_neg (by decide), gr_4561_53 hR, ga_4605 (by omega), hO.2.2.1, gr_4561_12 hR, ga_4572 (by omega), c1, if_pos rfl, gr_4561_55 hR, ga_4607 (by omega), hO.2.2.2.2, if_neg (show ¬ (Int32.ofNat (g.1)) = (1 : Int32) from i32_ne (b := 1) (by omega) (by omega) hg), gr_4561_55 hR, ga_4607 (by omega), hO.2.2.2.2]
  by_cases q : g.1 = 0
  · rw [if_pos q, if_pos (show (Int32.ofNat (g.1)) = (0 : Int32) by rw [q]; rfl)]
    rfl
  · rw [if_neg q, if_neg (show ¬ (Int32.ofNat (g.1)) = (0 : Int32) from i32_ne (b := 0) (by omega) (by omega) q)]
    rfl
/-- the value is there -/
theorem cas_close (hR : RA R) {own : Nat} {fn cs hd lf : Int32} (hS : RSt I h (t + 1) c (d + 1) w) (hO : RTo I t (Int32.ofNat (own)) fn cs hd lf) (ht : t < 480) (hw : own < w) : QK (f_X12_cases (mg 4625 I J R) 4561 (Int32.ofNat (t)) (Int32.ofNat (3))) (fun r => ∃ I', r = (0, mg 4625 I' J R) ∧ FrK (Fx h t own) I I' ∧ RSt I' h t c d own ∧ ∀ x k, x ≠ 4561 → I' x k = I x k) := by
  obtain ⟨s1, s2, s3, s4, s5⟩ := hS
  unfold f_X12_cases
  rw [gr_4561_52 hR, ga_4604 (by omega), if_pos (show (Int32.ofNat (3)) = (3 : Int32) from rfl), gi_4561, s4, show (Int32.ofNat (d + 1)) - (1 : Int32) = (Int32.ofNat (d)) from n_sub (b := 1) (by omega), gs_4561, gr_4561_51 hR, ga_4603 (by omega), up_n (by omega), hO.1, gs_4561, gi_4561, up_n (by omega), up_n (by omega), s2, show (Int32.ofNat (t + 1)) - (1 : Int32) = (Int32.ofNat (t)) from n_sub (b := 1) (by omega), gs_4561]
  refine q_ok ⟨_, rfl, fun x k y => ?_, ⟨?_, ?_, ?_, ?_, ?_⟩, fun x k y => ?_⟩
  · unfold Fx at y
    rw [up_n (by omega), up_n (by omega), up_n (by omega)]
  · rw [up_n (by omega), up_n (by omega), up_n (by omega)]; exact s1
  · rw [up_s]
  · rw [up_n (by omega), up_n (by omega), up_n (by omega)]; exact s3
  · rw [up_n (by omega), up_n (by omega), up_s]
  · rw [up_n (by omega), up_s]
  · rw [up_n (by omega), up_n (by omega), up_n (by omega)]
end RC2
