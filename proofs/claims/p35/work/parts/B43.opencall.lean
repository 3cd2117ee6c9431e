/-! the class's machine: a call begins -/
section OC
variable {I : Nat → Nat → Int32} {J : Nat → Nat → Int64} {R : Nat → Nat → Option Nat} {h t c d sc u l m : Nat} {b : GB} {n : GN} {f : GF} {s : GS} {vs : List GV}
theorem C_openCall (hR : RA R) (hE : CEnv I b n f s) (hl : l < 26) (hm : vs.length = m) (hm4 : m ≤ 4) (hS : MSt I (h + m) t c d sc) (hh : h + m ≤ 240) (ht : t < 480) (hsc : sc < 240) (hd : d ≤ 12) (hv : ∀ j v, vs.reverse[j]? = some v → CV I (584 + 5 * (h + j)) v) : QK (f_X4_openCall (mg (4562 + zn J) I J R) 567 (Int32.ofNat (l)) (Int32.ofNat (m))) (fun r => (prmN f l ≠ m ∧ r = (5, mg (4562 + zn J) I J R)) ∨ (prmN f l = m ∧ 12 ≤ d ∧ r = (8, mg (4562 + zn J) I J R)) ∨ (prmN f l = m ∧ d < 12 ∧ ∃ I', r = (0, mg (4562 + zn J) I' J (uR R t none)) ∧ FrK (Fm (h + m) t sc) I I' ∧ MSt I' (h + m) (t + 1) c (d + 1) (sc + 1) ∧ TKc I' (uR R t none) t 3 none (Int32.ofNat (l)) (Int32.ofNat (0)) (Int32.ofNat (sc)) (-1) ∧ I' 582 sc = (Int32.ofNat (h)) ∧ CCh I' (h + m) (sc + 1) [(0, vs.reverse)] (Int32.ofNat (sc)))) := by
  obtain ⟨⟨p, p3, ep⟩, -, -, -⟩ := fn_c (hE.2.2.2.2.2.2.1 l hl) hE.2.2.2.1.1
  have epn : prmN f l = p := by
    unfold prmN
    rw [ep, i32_nat (by omega)]
  have hS' := hS
  obtain ⟨s1, s2, s3, s4, s5⟩ := hS
  unfold f_X4_openCall f_X4_openCall_j20
  rw [gr_567_0 hR, if_pos ok_11, c_params hR hE.2.2.1 hl, ep, epn]
  by_cases q : p = m
  · rw [if_pos (show (Int32.ofNat (p)) = (Int32.ofNat (m)) by rw [q]), gi_567, s1, if_pos (show (Int32.ofNat (m)) ≤ (Int32.ofNat (h + m)) from (i32_le (by omega) (by omega)).mpr (by omega)), gi_567, s4]
    by_cases q2 : d < 12
    · rw [if_pos (show (Int32.ofNat (d)) < (12 : Int32) from (i32_lt (m := 12) (by omega) (by omega)).mpr q2), gi_567, s1, n_sub (by omega), Nat.add_sub_cancel, if_pos ok_567]
      refine q_bind (C_openScope (p := 0) hR hS' hsc) ?_
      rintro _ ⟨I1, rfl, f1, S1, a1, a2, a3, a4, a5⟩
      have S1' := S1
      obtain ⟨u1, u2, u3, u4, u5⟩ := S1
      dsimp only
      rw [if_neg (by first | decide | omega), gi_567, u4, gs_567, show (Int32.ofNat (d)) + (1 : Int32) = (Int32.ofNat (d + 1)) from n_add d 1, gi_567, up_n (by omega), u5, show (Int32.ofNat (sc + 1)) - (1 : Int32) = (Int32.ofNat (sc)) from n_sub (b := 1) (by omega), if_pos ok_567]
      have S2 : MSt (up I1 567 13 (Int32.ofNat (d + 1))) (h + m) t c (d + 1) (sc + 1) := ⟨by rw [up_n (by omega)]; exact u1, by rw [up_n (by omega)]; exact u2, by rw [up_n (by omega)]; exact u3, up_s, by rw [up_n (by omega)]; exact u5⟩
      have f2 : FrK (Fm (h + m) t (sc + 1)) I1 (up I1 567 13 (Int32.ofNat (d + 1))) := fun x j y => by
        unfold Fm at y
        rw [up_n (by omega)]
      refine q_bind (C_addTask (o := none) (kind := 3) trivial hR S2 ht) ?_
      rintro _ ⟨I3, rfl, f3, S3, K3⟩
      have f23 := FrK_tr f2 f3
      have g : ∀ x, x = 580 ∨ x = 581 ∨ x = 582 ∨ x = 583 → I3 x sc = I1 x sc := fun x hx => f23 x sc (by unfold Fm; omega)
      refine q_ok (Or.inr (Or.inr ⟨q, q2, I3, rfl, FrK_tr f1 (Fm_mono f23 (Nat.le_refl _) (Nat.le_refl _) (by omega)), S3, K3, by rw [g 582 (by omega)]; exact a3, sc, h, by omega, rfl, by rw [g 582 (by omega)]; exact a3, Or.inl ⟨rfl, by rw [g 580 (by omega)]; exact a1, ?_, ?_, rfl, by rw [g 583 (by omega)]; exact a4, fun j v hj => ?_⟩⟩))
      · rw [g 581 (by omega), a2]
        show (Int32.ofNat (m)) = (Int32.ofNat (vs.reverse.length))
        rw [List.length_reverse, hm]
      · show h + vs.reverse.length ≤ h + m
        rw [List.length_reverse, hm]
        exact Nat.le_refl _
      · have hj : vs.reverse[j]? = some v := hj
        have jl := (List.getElem?_eq_some_iff.mp hj).1
        rw [List.length_reverse, hm] at jl
        refine CV_keep (hv j v hj) (fun x g1 g2 => ?_)
        funext y
        rw [f23 x y (by unfold Fm; omega), a5 x y (by omega) (by omega)]
    · rw [if_neg (show ¬ (Int32.ofNat (d)) < (12 : Int32) from fun y => absurd ((i32_lt (m := 12) (by omega) (by omega)).mp y) (by omega))]
      exact q_ok (Or.inr (Or.inl ⟨q, by omega, rfl⟩))
  · rw [if_neg (show ¬ (Int32.ofNat (p)) = (Int32.ofNat (m)) from i32_ne (by omega) (by omega) q)]
    exact q_ok (Or.inl ⟨q, rfl⟩)
end OC
