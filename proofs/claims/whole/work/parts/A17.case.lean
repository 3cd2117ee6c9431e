/-! functions: the reference lays a case -/
section OL
variable {I : Nat → Nat → Int32} {J : Nat → Nat → Int64} {R : Nat → Nat → Option Nat} {t : GT} {s : GS} {b : GB} {n : GN} {f : GF} {v w : GV} {q : Nat → GV} {p : GT} {r : GR} {h : GH} {β : Type}
def Slc (x : Nat) : Nat → Nat → Prop := fun a y => (a = 4573 ∧ y = x) ∨ (4565 ≤ a ∧ a ≤ 4569 ∧ 2400 + 30 * x ≤ y ∧ y < 2430 + 30 * x)
theorem M_layCase0 {l c w : Nat} (hR : RA R) (hl : l < 26) (hc : c < 4) (hw : w < 2) (e : I 4572 l = (Int32.ofNat (c))) : QK (f_X12_layCase (mg 4625 I J R) 4561 (Int32.ofNat (l)) (Int32.ofNat (w)) (-1)) (fun r => ∃ I', r = mg 4625 I' J R ∧ FrK (Slc (8 * l + 2 * c + w)) I I' ∧ I' 4573 (8 * l + 2 * c + w) = (Int32.ofNat (0))) := by
  unfold f_X12_layCase
  rw [gr_4561_12 hR, ga_4572 hl, e, show (8 : Int32) * (Int32.ofNat (l)) = (Int32.ofNat (8 * l)) from n_mul 8 l, show (2 : Int32) * (Int32.ofNat (c)) = (Int32.ofNat (2 * c)) from n_mul 2 c, n_add, n_add, q_let, gr_4561_13 hR, if_pos rfl]
  unfold f_X12_layCase_j38
  rw [gw_4573 (by omega), if_pos rfl]
  unfold f_X12_layCase_j62
  rw [gr_4561_13 hR, ga_4573 (by omega), up_s, if_pos ok_4561, show (30 : Int32) * (Int32.ofNat (8 * l + 2 * c + w)) = (Int32.ofNat (30 * (8 * l + 2 * c + w))) from n_mul 30 _, show (2400 : Int32) + (Int32.ofNat (30 * (8 * l + 2 * c + w))) = (Int32.ofNat (2400 + 30 * (8 * l + 2 * c + w))) from n_add 2400 _]
  refine q_bind (M_copyNodes (fr := 0) (m := 0) hR (by omega) (by omega) (by omega)) ?_
  rintro _ ⟨I2, rfl, hF2, hC2⟩
  refine q_ok ⟨I2, rfl, FrK_tr (FrK_up FrK_rfl (Or.inl ⟨rfl, rfl⟩)) (FrK_mono hF2 (fun a y z => by unfold Sm at z; unfold Slc; omega)), ?_⟩
  rw [hF2 _ _ (fun y => by unfold Sm at y; omega), up_s]
  rfl
theorem M_layCase1 {l c w k m : Nat} {nd : Nat → Nd} {sp : Nat → Nat} (hR : RA R) (hl : l < 26) (hc : c < 4) (hw : w < 2) (e : I 4572 l = (Int32.ofNat (c))) (hk : k < 30) (e1 : I 4570 k = (Int32.ofNat (m))) (hm : m ≤ 30) (hT : MT I (80 * k) m nd sp) : QK (f_X12_layCase (mg 4625 I J R) 4561 (Int32.ofNat (l)) (Int32.ofNat (w)) (Int32.ofNat (k))) (fun r => ∃ I', r = mg 4625 I' J R ∧ FrK (Slc (8 * l + 2 * c + w)) I I' ∧ I' 4573 (8 * l + 2 * c + w) = (Int32.ofNat (m)) ∧ MT I' (2400 + 30 * (8 * l + 2 * c + w)) m nd sp) := by
  have hk1 : ¬ (Int32.ofNat (k)) = (-1 : Int32) := fun z => by
    have := i32_0le (k := k) (by omega)
    rw [z] at this
    exact absurd this (by decide)
  unfold f_X12_layCase
  rw [gr_4561_12 hR, ga_4572 hl, e, show (8 : Int32) * (Int32.ofNat (l)) = (Int32.ofNat (8 * l)) from n_mul 8 l, show (2 : Int32) * (Int32.ofNat (c)) = (Int32.ofNat (2 * c)) from n_mul 2 c, n_add, n_add, q_let, gr_4561_13 hR, if_neg hk1, gr_4561_9 hR, ga_4570 hk, e1]
  unfold f_X12_layCase_j38
  rw [gw_4573 (by omega), if_neg hk1, M_shelf]
  unfold f_X12_layCase_j62
  rw [gr_4561_13 hR, ga_4573 (by omega), up_s, if_pos ok_4561, show (30 : Int32) * (Int32.ofNat (8 * l + 2 * c + w)) = (Int32.ofNat (30 * (8 * l + 2 * c + w))) from n_mul 30 _, show (2400 : Int32) + (Int32.ofNat (30 * (8 * l + 2 * c + w))) = (Int32.ofNat (2400 + 30 * (8 * l + 2 * c + w))) from n_add 2400 _]
  refine q_bind (M_copyNodes (fr := 80 * k) (m := m) hR (by omega) (by omega) (by omega)) ?_
  rintro _ ⟨I2, rfl, hF2, hC2⟩
  have ee : ∀ a i, 4565 ≤ a → a ≤ 4569 → i < m → I2 a (2400 + 30 * (8 * l + 2 * c + w) + i) = I a (80 * k + i) := fun a i h1 h2 h3 => by
    rw [hC2 a i h1 h2 h3, up_n (by omega)]
  refine q_ok ⟨I2, rfl, FrK_tr (FrK_up FrK_rfl (Or.inl ⟨rfl, rfl⟩)) (FrK_mono hF2 (fun a y z => by unfold Sm at z; unfold Slc; omega)), ?_, ⟨by omega, fun i hi => ?_⟩, hT.2.1, fun i hi => ?_⟩
  · rw [hF2 _ _ (fun y => by unfold Sm at y; omega), up_s]
  · rw [ee 4565 i (by omega) (by omega) hi, ee 4566 i (by omega) (by omega) hi, ee 4567 i (by omega) (by omega) hi, ee 4568 i (by omega) (by omega) hi]
    exact hT.1.2 i hi
  · rw [ee 4569 i (by omega) (by omega) hi]
    exact hT.2.2 i hi
/-- a function with one case more: the condition's number or none, the value's -/
def rCase (g : Nat → Int32) (c : Nat) (x y : Int32) : Nat → Int32 := fun k => if k = 1 then (Int32.ofNat (c + 1)) else if k = 2 + c then x else if k = 6 + c then y else g k
theorem rc_1 {g : Nat → Int32} {c : Nat} {x y : Int32} : rCase g c x y 1 = (Int32.ofNat (c + 1)) := if_pos rfl
theorem rc_c {g : Nat → Int32} {c k : Nat} {x y : Int32} (h : k = 2 + c) : rCase g c x y k = x := (if_neg (by omega)).trans (if_pos h)
theorem rc_v {g : Nat → Int32} {c k : Nat} {x y : Int32} (h : k = 6 + c) : rCase g c x y k = y := (if_neg (by omega)).trans ((if_neg (by omega)).trans (if_pos h))
theorem rc_o {g : Nat → Int32} {c k : Nat} {x y : Int32} (h : k ≠ 1 ∧ k ≠ 2 + c ∧ k ≠ 6 + c) : rCase g c x y k = g k := (if_neg h.1).trans ((if_neg h.2.1).trans (if_neg h.2.2))
theorem FnOK_case {T : Nat} {tn : Nat → Nat} {g : Nat → Int32} {c j : Nat} {x : Int32} (H : FnOK T tn g) (e : g 1 = (Int32.ofNat (c))) (hc : c < 4) (hx : x = -1 ∨ ∃ t, t < T ∧ x = (Int32.ofNat (t)) ∧ tn t ≤ 30) (hj : j < T ∧ tn j ≤ 30) : FnOK T tn (rCase g c x (Int32.ofNat (j))) := by
  obtain ⟨⟨p, hp, ep⟩, c', h1, h2, h3⟩ := H
  have ec : c' = c := (i32_eq (by omega) (by omega)).mp (h2.symm.trans e)
  subst ec
  refine ⟨⟨p, hp, ?_⟩, c' + 1, by omega, rc_1, fun k hk => ⟨?_, ?_⟩⟩
  · rw [rc_o (by omega)]
    exact ep
  · by_cases z : k = c'
    · rw [rc_c (by omega)]
      exact hx
    · rw [rc_o (by omega)]
      exact (h3 k (by omega)).1
  · by_cases z : k = c'
    · rw [rc_v (by omega)]
      exact ⟨j, hj.1, rfl, hj.2⟩
    · rw [rc_o (by omega)]
      exact (h3 k (by omega)).2
theorem FM_case {I' : Nat → Nat → Int32} {g : Nat → Int32} {pv mv : Int32} {sz sz' : Nat → Int32} {nb c j : Nat} {x : Int32} (H : FM I s g pv mv sz nb) (e : g 1 = (Int32.ofNat (c))) (hc : c < 4) (e1 : ∀ a k, 4565 ≤ a → a ≤ 4569 → nb ≤ k → k < nb + 240 → ¬ (nb + 60 * c ≤ k ∧ k < nb + 60 * c + 60) → I' a k = I a k) (es : ∀ k, k < 8 → k / 2 ≠ c → sz' k = sz k) (hx : (x = -1 ∧ sz' (2 * c) = 0) ∨ ∃ t, t < s.1 ∧ x = (Int32.ofNat (t)) ∧ s.2.1 t ≤ 30 ∧ sz' (2 * c) = (Int32.ofNat (s.2.1 t)) ∧ MT I' (nb + 30 * (2 * c)) (s.2.1 t) (s.2.2.1 t) (s.2.2.2 t)) (hj : j < s.1 ∧ s.2.1 j ≤ 30) (hy : sz' (2 * c + 1) = (Int32.ofNat (s.2.1 j)) ∧ MT I' (nb + 30 * (2 * c + 1)) (s.2.1 j) (s.2.2.1 j) (s.2.2.2 j)) : FM I' s (rCase g c x (Int32.ofNat (j))) pv (Int32.ofNat (c + 1)) sz' nb := by
  obtain ⟨h1, h2, c', h3, h4, h5⟩ := H
  have ec : c' = c := (i32_eq (by omega) (by omega)).mp (h4.symm.trans e)
  subst ec
  refine ⟨?_, rc_1.symm, c' + 1, by omega, rc_1, fun w k hw hk => ⟨fun hkc => ?_, fun hkc => ?_⟩⟩
  · rw [rc_o (by omega)]
    exact h1
  · by_cases z : k = c'
    · subst z
      rcases (by omega : w = 0 ∨ w = 1) with rfl | rfl
      · rcases hx with ⟨a1, a2⟩ | ⟨t, a1, a2, a3, a4, a5⟩
        · refine Or.inl ⟨rfl, ?_, a2⟩
          rw [rc_c rfl]
          exact a1
        · refine Or.inr ⟨t, a1, ?_, a3, a4, a5⟩
          rw [rc_c (by omega)]
          exact a2
      · refine Or.inr ⟨j, hj.1, ?_, hj.2, hy.1, hy.2⟩
        rw [rc_v (by omega)]
    · rcases (h5 w k hw hk).1 (by omega) with ⟨a1, a2, a3⟩ | ⟨t, a1, a2, a3, a4, a5⟩
      · refine Or.inl ⟨a1, ?_, (es _ (by omega) (by omega)).trans a3⟩
        rw [rc_o (by omega)]
        exact a2
      · refine Or.inr ⟨t, a1, ?_, a3, (es _ (by omega) (by omega)).trans a4, MT_keep a5 (fun a y g1 g2 g3 g4 => e1 a y g1 g2 (by omega) (by omega) (by omega))⟩
        rw [rc_o (by omega)]
        exact a2
  · exact (es _ (by omega) (by omega)).trans ((h5 w k hw hk).2 (by omega))
end OL
