/-! slopes: the class's parts -/
theorem dFr_sl : ∀ t, t < 80 → (KK (1806 + 5 * t) = (2, 0) ∧ RR (1806 + 5 * t) 0 = some (1806 + 5 * t + 1) ∧ RR (1806 + 5 * t) 1 = some (1806 + 5 * t + 3) ∧ KK (1806 + 5 * t + 1) = (10, 0) ∧ RR (1806 + 5 * t + 1) 0 = some (1806 + 5 * t + 1 + 1) ∧ KK (1806 + 5 * t + 1 + 1) = (14, 7) ∧ KK (1806 + 5 * t + 3) = (10, 0) ∧ RR (1806 + 5 * t + 3) 0 = some (1806 + 5 * t + 3 + 1) ∧ KK (1806 + 5 * t + 3 + 1) = (14, 7)) ∧ RR 1785 t = some (1806 + 5 * t) := by decide +kernel
theorem isF_sl {t : Nat} (h : t < 80) : isF (1806 + 5 * t) 7 := isF_of (by omega) (dFr_sl t h).1
theorem isF_1786 : isF 1786 7 := isF_of (by omega) (by decide +kernel)
theorem isF_1791 : isF 1791 7 := isF_of (by omega) (by decide +kernel)
theorem isF_1796 : isF 1796 100 := by
  refine ⟨by decide, by decide, by decide +kernel, by decide +kernel, by decide +kernel, ⟨by decide, by decide +kernel, by decide +kernel, by decide +kernel, by decide, by decide⟩, ⟨by decide, by decide +kernel, by decide +kernel, by decide +kernel, by decide, by decide⟩⟩
theorem isF_1801 : isF 1801 100 := by
  refine ⟨by decide, by decide, by decide +kernel, by decide +kernel, by decide +kernel, ⟨by decide, by decide +kernel, by decide +kernel, by decide +kernel, by decide, by decide⟩, ⟨by decide, by decide +kernel, by decide +kernel, by decide +kernel, by decide, by decide⟩⟩
def Fsl (j : Nat) : Nat → Nat → Prop := fun x k => (2 ≤ x ∧ x < 10) ∨ (1796 ≤ x ∧ x < 1806) ∨ (x = 1784 ∧ k = 3) ∨ (1806 + 5 * j ≤ x ∧ x < 1811 + 5 * j)
def Csl (I : Nat → Nat → Int32) (J : Nat → Nat → Int64) (R : Nat → Nat → Option Nat) (j : Nat) (q : Nat ⊕ GV) (r : Int32 × xM) : Prop := ∃ I', FrK (Fsl j) I I' ∧ ((∃ v, q = .inr v ∧ r = (0, mg (4562 + zn J) I' J R) ∧ I' 1784 3 = (Int32.ofNat (j + 1)) ∧ FU I' (1806 + 5 * j) 7 v.1 v.2) ∨ (q = .inl 3 ∧ r = (3, mg (4562 + zn J) I' J R)))
section CSL
variable {I : Nat → Nat → Int32} {J : Nat → Nat → Int64} {R : Nat → Nat → Option Nat} {β : Type} {j n : Nat}
theorem C_prt {k : Nat} {F : Nat → Option β} (hR : RA R) (hk : k < 80) : ((aR (mg (4562 + zn J) I J R) 1785 16 (Int32.ofNat (k))).bind id).bind F = F (1806 + 5 * k) := by
  rw [oaR_1785, if_pos (xvi_nat hk (by first | decide | omega)), i32_nat (by omega), hR.get (by first | decide | omega) (show k < kb 1785 from hk) (dFr_sl k hk).2]
  rfl
theorem FrS_Fsl {I' : Nat → Nat → Int32} {t : Nat} (ht : t = 1796 ∨ t = 1801) (h : FrS (Sa t) I I') : FrK (Fsl j) I I' := fun x k y => by
  rw [h x (fun z => by unfold Sa at z; unfold Fsl at y; omega)]
theorem C_slTail {I0 : Nat → Nat → Int32} {A : Int} {D : Nat} (hR : RA R) (hF0 : FrK (Fsl j) I0 I) (hW : FU I 1796 100 A D) (hD : 0 < D) (h3 : I 1784 3 = (Int32.ofNat (j + n))) (hj : j < 80) (hn : n = 1 ∨ n = 2) : QK (f_X8_operatorPart_j244 (mg (4562 + zn J) I J R) 1784 (Int32.ofNat (n)) (1806 + 5 * j)) (Csl I0 J R j (qfin A D)) := by
  unfold f_X8_operatorPart_j244
  rw [gr_1784_1 hR, gr_1784_6 hR, if_pos (show xk (mg (4562 + zn J) I J R) 1 0 = true from ok_1)]
  refine q_bind (A_settle hR hW (by omega)) ?_
  rintro _ ⟨I1, rfl, hF1, hW1⟩
  rw [show ((D : Int)).sign = 1 from Int.sign_eq_one_of_pos (by omega), Int.mul_one, Int.natAbs_natCast] at hW1
  have f1 : FrK (Fsl j) I0 I1 := FrK_tr hF0 (FrS_Fsl (Or.inl rfl) hF1)
  have h31 : I1 1784 3 = (Int32.ofNat (j + n)) := by
    rw [hF1 1784 (fun z => by unfold Sa at z; omega)]
    exact h3
  rw [gr_1784_6 hR, if_pos (bF_xk hW1.1), F_fits hR hW1, Option.bind_some, qfin_rz]
  by_cases ft : (rz A D).natAbs < 2 ^ 200 ∧ rd A D < 2 ^ 200
  · rw [if_pos (show (rz A D).natAbs < 2 ^ 200 ∧ ((rd A D : Nat) : Int).natAbs < 2 ^ 200 from ⟨ft.1, by rw [Int.natAbs_natCast]; exact ft.2⟩), if_neg (by first | decide | omega), if_pos ft, gr_1784_6 hR, if_pos (bF_xk (isF_sl hj))]
    refine q_bind (F_copy hR (isF_sl hj) hW1 (b200 ft.1) (b200 (by rw [Int.natAbs_natCast]; exact ft.2)) (by omega)) ?_
    rintro _ ⟨I2, rfl, hF2, hV2⟩
    have h32 : I2 1784 3 = (Int32.ofNat (j + n)) := by
      rw [hF2 1784 (fun z => by unfold Sf at z; omega)]
      exact h31
    rw [gi_1784, h32, show (Int32.ofNat (n)) - (1 : Int32) = (Int32.ofNat (n - 1)) from n_sub (b := 1) (by omega), n_sub (by omega), gs_1784]
    refine q_ok ⟨_, ?_, Or.inl ⟨_, rfl, rfl, ?_, FU_keep hV2 (fun x g1 g2 => up_r (by omega))⟩⟩
    · intro x k y
      rw [up_n (by unfold Fsl at y; omega), hF2 x (fun z => by unfold Sf at z; unfold Fsl at y; omega)]
      exact f1 x k y
    · rw [up_s]
      congr 1
      omega
  · rw [if_neg (show ¬ ((rz A D).natAbs < 2 ^ 200 ∧ ((rd A D : Nat) : Int).natAbs < 2 ^ 200) from fun y => ft ⟨y.1, by rw [Int.natAbs_natCast] at y; exact y.2⟩), if_pos rfl, if_neg ft]
    exact q_ok ⟨I1, f1, Or.inr ⟨rfl, rfl⟩⟩
theorem g7 {v : GV} (h : Gd v) : v.1.natAbs < Bw 7 ∧ ((v.2 : Nat) : Int).natAbs < Bw 7 := ⟨b200 h.1, by rw [Int.natAbs_natCast]; exact b200 h.2.2.1⟩
theorem C_crosswise {v p w r : GV} {m : Int32} {s' : Int} (hR : RA R) (hv : Gd v) (hp : Gd p) (hw : Gd w) (hr : Gd r) (hj : j + 1 < 80) (V : FU I 1786 7 v.1 v.2) (W : FU I 1791 7 w.1 w.2) (P : FU I (1806 + 5 * j) 7 p.1 p.2) (Q : FU I (1806 + 5 * (j + 1)) 7 r.1 r.2) (hm : (m = 0 ∧ s' = 1) ∨ (m = 1 ∧ s' = -1)) : QK (f_X8_crosswise (mg (4562 + zn J) I J R) 1784 (1806 + 5 * j) (1806 + 5 * (j + 1)) m) (fun σ => ∃ I', σ = mg (4562 + zn J) I' J R ∧ FrS (fun x => (2 ≤ x ∧ x < 10) ∨ (1796 ≤ x ∧ x < 1806)) I I' ∧ FU I' 1796 100 (p.1 * w.1 * (v.2 * r.2 : Nat) + s' * (v.1 * r.1 * (p.2 * w.2 : Nat))) (p.2 * w.2 * (v.2 * r.2) : Nat)) := by
  unfold f_X8_crosswise
  rw [gr_1784_1 hR, gr_1784_6 hR, gr_1784_5 hR, if_pos (show xk (mg (4562 + zn J) I J R) 1 0 = true from ok_1)]
  refine q_bind (A_times (p := 7) (q := 7) hR isF_1796 P W (g7 hp).1 (g7 hp).2 (g7 hw).1 (g7 hw).2 (by first | decide | omega)) ?_
  rintro _ ⟨I1, rfl, f1, w1⟩
  rw [gr_1784_1 hR, gr_1784_7 hR, gr_1784_4 hR, if_pos (show xk (mg (4562 + zn J) I1 J R) 1 0 = true from ok_1)]
  have V1 : FU I1 1786 7 v.1 v.2 := FU_keep V (fun x g1 g2 => f1 x (fun z => by unfold Sa at z; omega))
  have Q1 : FU I1 (1806 + 5 * (j + 1)) 7 r.1 r.2 := FU_keep Q (fun x g1 g2 => f1 x (fun z => by unfold Sa at z; omega))
  refine q_bind (A_times (p := 7) (q := 7) hR isF_1801 V1 Q1 (g7 hv).1 (g7 hv).2 (g7 hr).1 (g7 hr).2 (by first | decide | omega)) ?_
  rintro _ ⟨I2, rfl, f2, w2⟩
  have w1' : FU I2 1796 100 (p.1 * w.1) (p.2 * w.2) := FU_keep w1 (fun x g1 g2 => f2 x (fun z => by unfold Sa at z; omega))
  rw [gr_1784_1 hR, gr_1784_6 hR, gr_1784_6 hR, gr_1784_7 hR, if_pos (show xk (mg (4562 + zn J) I2 J R) 1 0 = true from ok_1)]
  refine q_bind (A_sum (p := 14) (q := 14) hR isF_1796 w1' w2 (nm_lt (g7 hp).1 (g7 hw).1) (nm_lt (g7 hp).2 (g7 hw).2) (nm_lt (g7 hv).1 (g7 hr).1) (nm_lt (g7 hv).2 (g7 hr).2) (by first | decide | omega) hm) ?_
  rintro _ ⟨I3, rfl, f3, w3⟩
  refine q_ok ⟨I3, rfl, fun x y => ?_, ?_⟩
  · rw [f3 x (fun z => by unfold Sa at z; omega), f2 x (fun z => by unfold Sa at z; omega), f1 x (fun z => by unfold Sa at z; omega)]
  · rw [Int.natCast_mul (p.2 * w.2), Int.natCast_mul p.2, Int.natCast_mul v.2]
    exact w3
end CSL
