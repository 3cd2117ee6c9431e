/-! call: answer -/
def dch (d : Nat) : Nat := if d < 10 then 48 + d else 87 + d
def rdg (r : Nat) : Nat → Nat → List Nat → List Nat
  | 0, _, l => l
  | f + 1, n, l => if n / r = 0 then dch (n % r) :: l else rdg r f (n / r) (dch (n % r) :: l)
theorem rdg_c (r f n : Nat) (l : List Nat) : rdg r (f + 1) n l = if n / r = 0 then dch (n % r) :: l else rdg r f (n / r) (dch (n % r) :: l) := rfl
theorem rdg_len (r : Nat) : ∀ f n l, (rdg r f n l).length ≤ l.length + f ∧ l.length ≤ (rdg r f n l).length := by
  intro f
  induction f with
  | zero => intro n l; exact ⟨Nat.le_refl _, Nat.le_refl _⟩
  | succ f ih =>
    intro n l
    rw [rdg_c]
    split
    · rw [List.length_cons]; omega
    · have := ih (n / r) (dch (n % r) :: l)
      rw [List.length_cons] at this
      omega
theorem dch_lt {d : Nat} (h : d < 36) : dch d < 128 := by
  unfold dch
  split <;> omega
theorem rdg_all {r : Nat} (hr : 0 < r) (h36 : r ≤ 36) : ∀ (fu n : Nat) (l : List Nat), (∀ x, x ∈ l → x < 65536) → ∀ x, x ∈ rdg r fu n l → x < 65536 := by
  intro fu
  induction fu with
  | zero => intro n l hl x hx; exact hl x hx
  | succ fu ih =>
    intro n l hl
    have hc : ∀ x, x ∈ dch (n % r) :: l → x < 65536 := fun x hx => by
      rcases List.mem_cons.mp hx with rfl | hx
      · have := dch_lt (Nat.lt_of_lt_of_le (Nat.mod_lt n hr) h36)
        omega
      · exact hl x hx
    rw [rdg_c]
    split
    · exact hc
    · exact ih _ _ hc
theorem tF_all {l : List Nat} (h : ∀ x, x ∈ l → x < 65536) : ∀ k, k < l.length → tF l k < 65536 := by
  induction l with
  | nil => intro k hk; exact absurd hk (Nat.not_lt_zero k)
  | cons y l ih =>
    intro k hk
    show (if k = l.length then y else tF l k) < 65536
    by_cases z : k = l.length
    · rw [if_pos z]
      exact h y (List.mem_cons_self ..)
    · rw [if_neg z]
      rw [List.length_cons] at hk
      exact ih (fun x hx => h x (List.mem_cons_of_mem _ hx)) k (by omega)
/-- turned round from a place on -/
def swp (fr len j : Nat) (g : Nat → Int32) : Nat → Int32 := fun k => if (fr ≤ k ∧ k < fr + j) ∨ (len - j ≤ k ∧ k < len) then g (fr + len - 1 - k) else g k
section AN
variable {I : Nat → Nat → Int32} {J : Nat → Nat → Int64} {R : Nat → Nat → Option Nat} {t : GT} {s : GS} {b : GB} {n : GN} {f : GF} {v : GV} {q : Nat → GV} {p p' : GT} {r : GR} {h : GH} {β : Type}
theorem dch_i {d : Nat} (hd : d < 36) : (if (10 : Int32) ≤ (Int32.ofNat (d)) then (97 : Int32) + (Int32.ofNat (d)) - 10 else (48 : Int32) + (Int32.ofNat (d))) = (Int32.ofNat (dch d)) := by
  unfold dch
  by_cases q : d < 10
  · rw [if_neg (show ¬ (10 : Int32) ≤ (Int32.ofNat (d)) from fun y => absurd ((i32_le (k := 10) (by omega) (by omega)).mp y) (by omega)), if_pos q]
    exact n_add 48 d
  · rw [if_pos (show (10 : Int32) ≤ (Int32.ofNat (d)) from (i32_le (k := 10) (by omega) (by omega)).mpr (by omega)), if_neg q, show (97 : Int32) + (Int32.ofNat (d)) = (Int32.ofNat (97 + d)) from n_add 97 d, show (Int32.ofNat (97 + d)) - 10 = (Int32.ofNat (97 + d - 10)) from n_sub (a := 97 + d) (b := 10) (by omega), show 97 + d - 10 = 87 + d by omega]
theorem isW_560 : isW 560 7 := ⟨by decide, rfl, rfl, rfl, by decide, by decide⟩
theorem isP_559 : isP 559 562 := Or.inl ⟨rfl, rfl⟩
def S56 : Nat → Prop := fun x => x = 559 ∨ x = 560 ∨ x = 561 ∨ x = 562
/-- the class's digits of a number, turned round -/
theorem C_digits {w c rx : Nat} {z : Int} (hR : RA R) (hW : Wz I w c z) (hz : z.natAbs < Bw 7) (hw : 570 ≤ w) (hr : 2 ≤ rx ∧ rx ≤ 36) : QK (f_X5_digits (mg (4562 + zn J) I J R) 559 w (Int32.ofNat (rx))) (fun x => ∃ I' l, x = mg (4562 + zn J) I' J R ∧ FrS S56 I I' ∧ (∀ k, k ≠ 3 → I' 559 k = I 559 k) ∧ l = rdg rx 210 z.natAbs (if z < 0 then [45] else []) ∧ I' 559 3 = (Int32.ofNat (l.length)) ∧ ∀ k, k < l.length → I' 562 k = (if k < (if z < 0 then 1 else 0) then (Int32.ofNat (tF l k)) else (Int32.ofNat (tF l ((if z < 0 then 1 else 0) + l.length - 1 - k))))) := by
  have hw1 := hW.1.choose_spec.1
  have go : ∀ (I0 : Nat → Nat → Int32) (l0 : List Nat), FrS S56 I I0 → (∀ k, k ≠ 3 → I0 559 k = I 559 k) → CX I0 559 562 l0 → l0.length ≤ 1 → (∀ x, x ∈ l0 → x < 65536) → QK (f_X5_digits_j18 (mg (4562 + zn J) I0 J R) 559 w (Int32.ofNat (rx))) (fun x => ∃ I' l, x = mg (4562 + zn J) I' J R ∧ FrS S56 I I' ∧ (∀ k, k ≠ 3 → I' 559 k = I 559 k) ∧ l = rdg rx 210 z.natAbs l0 ∧ I' 559 3 = (Int32.ofNat (l.length)) ∧ ∀ k, k < l.length → I' 562 k = (if k < l0.length then (Int32.ofNat (tF l k)) else (Int32.ofNat (tF l (l0.length + l.length - 1 - k))))) := by
    intro I0 l0 hF0 hK0 hX0 hl0 hlc
    have hW0 : Wz I0 w c z := Wz_keep hW (hF0 w (by unfold S56; omega)) (hF0 (w + 1) (by unfold S56; omega))
    unfold f_X5_digits_j18
    rw [gi_559, hX0.1, gr_559_1 hR, if_pos ok_560]
    refine q_bind (W_copy hR isW_560 hW0 hz (by omega)) ?_
    rintro _ ⟨I1, rfl, hF1, hW1⟩
    have hF01 : FrS S56 I I1 := fun x hx => by
      rw [hF1 x (fun y => hx (by unfold Sw at y; unfold S56; omega)), hF0 x hx]
    have hK1 : ∀ k, k ≠ 3 → I1 559 k = I 559 k := fun k hk => by rw [hF1 559 (by unfold Sw; omega), hK0 k hk]
    have hX1 : CX I1 559 562 l0 := by
      obtain ⟨a1, a2, a3⟩ := hX0
      exact ⟨by rw [hF1 559 (by unfold Sw; omega)]; exact a1, a2, fun k hk => by rw [hF1 562 (by unfold Sw; omega)]; exact a3 k hk⟩
    rw [q_let]
    generalize hE : rdg rx 210 z.natAbs l0 = E
    have hEc : ∀ x, x ∈ E → x < 65536 := by
      rw [← hE]
      exact rdg_all (by omega) hr.2 _ _ _ hlc
    have hEl := rdg_len rx 210 z.natAbs l0
    rw [hE] at hEl
    have z210 : z.natAbs < 2 ^ 210 := by
      have : Bw 7 = 2 ^ 210 := by decide
      omega
    refine q_bind (P := fun x => ∃ I', x = .inr (559, (Int32.ofNat (l0.length)), mg (4562 + zn J) I' J R) ∧ FrS S56 I I' ∧ (∀ k, k ≠ 3 → I' 559 k = I 559 k) ∧ CX I' 559 562 E) ?_ ?_
    · refine q_loop (fun m st => ∃ I' nn l k t, st = (559, (Int32.ofNat (rx)), (Int32.ofNat (l0.length)), (Int32.ofNat (t)), mg (4562 + zn J) I' J R) ∧ FrS S56 I I' ∧ (∀ k, k ≠ 3 → I' 559 k = I 559 k) ∧ CX I' 559 562 l ∧ Wh I' 560 7 k nn ∧ ((∃ fu, m = fu + 1 ∧ 1 ≤ fu ∧ t + fu = 210 ∧ nn < 2 ^ fu ∧ rdg rx fu nn l = E ∧ (t = 0 ∨ nn ≠ 0) ∧ l.length ≤ 1 + t) ∨ (m = 0 ∧ nn = 0 ∧ t ≠ 0 ∧ t ≤ 210 ∧ l = E))) ?_ (m := 211) ⟨I1, z.natAbs, l0, hW1.1.choose, 0, rfl, hF01, hK1, hX1, hW1.1.choose_spec, Or.inl ⟨210, rfl, by decide, rfl, z210, hE, Or.inl rfl, by omega⟩⟩ (by unfold xF; omega)
      rintro m st ⟨I', nn, l, k, t, rfl, hF, hK, hX, hWh, hcase⟩
      have t2 : t ≤ 210 := by rcases hcase with ⟨fu, _, _, y, _⟩ | y <;> omega
      have zero : f_X10_isZero (mg (4562 + zn J) I' J R) 560 = some (if nn = 0 then 1 else 0) := by
        have k0 := Wh_0 hWh
        have k7 := hWh.2.2.1
        unfold f_X10_isZero f_X10_isZero_j12
        rw [show (gI (mg (4562 + zn J) I' J R) 560 10 1) = some (I' 560 1) from e_gI (by first | decide | omega) rfl, Option.bind_some, hWh.2.1]
        by_cases y : nn = 0
        · rw [if_pos (show (Int32.ofNat (k)) = (0 : Int32) by rw [k0.mpr y]; rfl), q_xz1, if_pos y]
        · rw [if_neg (show ¬ _ = (0 : Int32) from i32_ne (b := 0) (by omega) (by omega) (fun e => y (k0.mp e))), q_xz0, if_neg y]
      unfold f_X5_digits_s34
      dsimp only
      rw [q_let, q_let, q_let, q_let, q_let, if_neg (show ¬ (1000 : Int32) ≤ (Int32.ofNat (t)) from fun y => absurd ((i32_le (k := 1000) (by omega) (by omega)).mp y) (by omega))]
      rcases hcase with ⟨fu, rfl, f1, ft, fn, fe, fz, fl⟩ | ⟨rfl, rfl, ht0, -, rfl⟩
      · obtain ⟨fu', rfl⟩ : ∃ fu', fu = fu' + 1 := ⟨fu - 1, by omega⟩
        have body : QK (f_X5_digits_j57 (mg (4562 + zn J) I' J R) 559 (Int32.ofNat (rx)) (Int32.ofNat (l0.length)) (Int32.ofNat (t))) (qS (fun s' => ∃ m', m' < fu' + 1 + 1 ∧ ∃ I' nn l k t, s' = (559, (Int32.ofNat (rx)), (Int32.ofNat (l0.length)), (Int32.ofNat (t)), mg (4562 + zn J) I' J R) ∧ FrS S56 I I' ∧ (∀ k, k ≠ 3 → I' 559 k = I 559 k) ∧ CX I' 559 562 l ∧ Wh I' 560 7 k nn ∧ ((∃ fu, m' = fu + 1 ∧ 1 ≤ fu ∧ t + fu = 210 ∧ nn < 2 ^ fu ∧ rdg rx fu nn l = E ∧ (t = 0 ∨ nn ≠ 0) ∧ l.length ≤ 1 + t) ∨ (m' = 0 ∧ nn = 0 ∧ t ≠ 0 ∧ t ≤ 210 ∧ l = E))) (fun x => ∃ I', x = .inr (559, (Int32.ofNat (l0.length)), mg (4562 + zn J) I' J R) ∧ FrS S56 I I' ∧ (∀ k, k ≠ 3 → I' 559 k = I 559 k) ∧ CX I' 559 562 E)) := by
          unfold f_X5_digits_j57
          rw [gr_559_1 hR, if_pos ok_560]
          refine q_bind (W_shrink hR hWh (show 0 < rx by omega) (by omega)) ?_
          rintro _ ⟨I2, k2, rfl, hF2, hWh2, -⟩
          have md : nn % rx < 36 := Nat.lt_of_lt_of_le (Nat.mod_lt _ (by omega)) hr.2
          have hX2 : CX I2 559 562 l := by
            obtain ⟨a1, a2, a3⟩ := hX
            exact ⟨by rw [hF2 559 (by unfold Sw; omega)]; exact a1, a2, fun k hk => by rw [hF2 562 (by unfold Sw; omega)]; exact a3 k hk⟩
          have j91 : QK (f_X5_digits_j91 (mg (4562 + zn J) I2 J R) 559 (Int32.ofNat (rx)) (Int32.ofNat (l0.length)) (Int32.ofNat (t)) (Int32.ofNat (dch (nn % rx))) 559) (qS (fun s' => ∃ m', m' < fu' + 1 + 1 ∧ ∃ I' nn l k t, s' = (559, (Int32.ofNat (rx)), (Int32.ofNat (l0.length)), (Int32.ofNat (t)), mg (4562 + zn J) I' J R) ∧ FrS S56 I I' ∧ (∀ k, k ≠ 3 → I' 559 k = I 559 k) ∧ CX I' 559 562 l ∧ Wh I' 560 7 k nn ∧ ((∃ fu, m' = fu + 1 ∧ 1 ≤ fu ∧ t + fu = 210 ∧ nn < 2 ^ fu ∧ rdg rx fu nn l = E ∧ (t = 0 ∨ nn ≠ 0) ∧ l.length ≤ 1 + t) ∨ (m' = 0 ∧ nn = 0 ∧ t ≠ 0 ∧ t ≤ 210 ∧ l = E))) (fun x => ∃ I', x = .inr (559, (Int32.ofNat (l0.length)), mg (4562 + zn J) I' J R) ∧ FrS S56 I I' ∧ (∀ k, k ≠ 3 → I' 559 k = I 559 k) ∧ CX I' 559 562 E)) := by
            unfold f_X5_digits_j91
            rw [if_pos ok_559]
            refine q_bind (C_put hR isP_559 hX2 (by omega) (by have := dch_lt md; omega)) ?_
            rintro _ ⟨I3, rfl, hF3, hK3, hX3⟩
            rw [q_let, show (Int32.ofNat (t)) + 1 = (Int32.ofNat (t + 1)) from n_add t 1]
            have hF23 : FrS S56 I I3 := fun x hx => by
              rw [hF3 x (fun y => hx (by unfold S56; omega)), hF2 x (fun y => hx (by unfold Sw at y; unfold S56; omega)), hF x hx]
            have hK23 : ∀ k, k ≠ 3 → I3 559 k = I 559 k := fun k hk => by rw [hK3 k hk, hF2 559 (by unfold Sw; omega), hK k hk]
            have hWh3 : Wh I3 560 7 k2 (nn / rx) := Wh_keep hWh2 (hF3 560 (by omega)) (hF3 561 (by omega))
            rw [rdg_c] at fe
            by_cases y : nn / rx = 0
            · rw [if_pos y] at fe
              rw [y] at hWh3
              exact q_go ⟨0, by omega, I3, 0, _, k2, t + 1, rfl, hF23, hK23, hX3, hWh3, Or.inr ⟨rfl, rfl, by omega, by omega, fe⟩⟩
            · rw [if_neg y] at fe
              have lt : nn / rx < 2 ^ fu' := by
                refine Nat.div_lt_of_lt_mul (Nat.lt_of_lt_of_le fn ?_)
                rw [Nat.pow_succ, Nat.mul_comm]
                exact Nat.mul_le_mul_right _ hr.1
              have f1' : 1 ≤ fu' := by
                cases fu' with
                | zero => exact absurd (Nat.lt_one_iff.mp lt) y
                | succ _ => omega
              exact q_go ⟨fu' + 1, by omega, I3, nn / rx, _, k2, t + 1, rfl, hF23, hK23, hX3, hWh3, Or.inl ⟨fu', rfl, f1', by omega, lt, fe, Or.inr y, by rw [List.length_cons]; omega⟩⟩
          rw [← dch_i md] at j91
          dsimp only
          by_cases y : (10 : Int32) ≤ (Int32.ofNat (nn % rx))
          · rw [if_pos y]
            rw [if_pos y] at j91
            exact j91
          · rw [if_neg y]
            rw [if_neg y] at j91
            exact j91
        by_cases t0 : t = 0
        · rw [if_pos (show (Int32.ofNat (t)) = (0 : Int32) by rw [t0]; rfl)]
          exact body
        · rw [if_neg (show ¬ _ = (0 : Int32) from i32_ne (b := 0) (by omega) (by omega) t0), gr_559_1 hR, if_pos ok_560, zero, Option.bind_some, if_neg (fz.resolve_left t0), if_pos rfl]
          exact body
      · rw [if_neg (show ¬ _ = (0 : Int32) from i32_ne (b := 0) (by omega) (by omega) ht0), gr_559_1 hR, if_pos ok_560, zero, Option.bind_some, if_pos rfl, if_neg (by first | decide | omega)]
        exact q_ex ⟨I', rfl, hF, hK, hX⟩
    · rintro _ ⟨I2, rfl, hF2, hK2, hX2⟩
      simp only [Sum.elim_inr]
      unfold f_X5_digits_j100
      have e1 : 1 ≤ E.length := by
        rw [← hE, rdg_c]
        split
        · rw [List.length_cons]; omega
        · have := (rdg_len rx 209 (z.natAbs / rx) (dch (z.natAbs % rx) :: l0)).2
          rw [List.length_cons] at this
          omega
      have eL : l0.length < E.length := by
        rw [← hE, rdg_c]
        split
        · rw [List.length_cons]; omega
        · have := (rdg_len rx 209 (z.natAbs / rx) (dch (z.natAbs % rx) :: l0)).2
          rw [List.length_cons] at this
          omega
      rw [gi_559, hX2.1, show (Int32.ofNat (E.length)) - 1 = (Int32.ofNat (E.length - 1)) from n_sub (a := E.length) (b := 1) e1, q_let]
      refine q_bind (P := fun x => ∃ I', x = .inr (mg (4562 + zn J) I' J R) ∧ FrS (fun x => x = 562) I2 I' ∧ ∀ k, k < E.length → I' 562 k = (if k < l0.length then (Int32.ofNat (tF E k)) else (Int32.ofNat (tF E (l0.length + E.length - 1 - k))))) ?_ ?_
      · refine q_loop (fun m st => ∃ I' j, st = (559, (Int32.ofNat (l0.length + j)), (Int32.ofNat (E.length - 1 - j)), mg (4562 + zn J) I' J R) ∧ m + j = E.length ∧ j ≤ E.length - 1 ∧ l0.length + j ≤ E.length - j ∧ FrS (fun x => x = 562) I2 I' ∧ ∀ k, k < E.length → I' 562 k = swp l0.length E.length j (fun k => (Int32.ofNat (tF E k))) k) ?_ (m := E.length) ⟨I2, 0, rfl, rfl, by omega, by omega, FrS_rfl, fun k hk => by
          unfold swp
          rw [if_neg (by omega)]
          exact hX2.2.2 k hk⟩ (by unfold xF; omega)
        rintro m st ⟨I', j, rfl, h1, h2, h3, hF, hT⟩
        unfold f_X5_digits_s111
        dsimp only
        rw [q_let, q_let, q_let, q_let]
        by_cases y : E.length - 1 - j ≤ l0.length + j
        · rw [if_pos (show (Int32.ofNat (E.length - 1 - j)) ≤ (Int32.ofNat (l0.length + j)) from (i32_le (by omega) (by omega)).mpr y)]
          refine q_ex ⟨I', rfl, hF, fun k hk => ?_⟩
          rw [hT k hk]
          unfold swp
          by_cases y1 : k < l0.length
          · rw [if_pos y1, if_neg (by omega)]
          · rw [if_neg y1]
            by_cases y2 : (l0.length ≤ k ∧ k < l0.length + j) ∨ (E.length - j ≤ k ∧ k < E.length)
            · rw [if_pos y2]
            · rw [if_neg y2, show l0.length + E.length - 1 - k = k by omega]
        · have c1 : tF E (l0.length + j) < 65536 := tF_all hEc _ (by omega)
          have c2 : tF E (E.length - 1 - j) < 65536 := tF_all hEc _ (by omega)
          have v1 : I' 562 (l0.length + j) = (Int32.ofNat (tF E (l0.length + j))) := by
            rw [hT _ (by omega)]
            unfold swp
            rw [if_neg (by omega)]
          have v2 : I' 562 (E.length - 1 - j) = (Int32.ofNat (tF E (E.length - 1 - j))) := by
            rw [hT _ (by omega)]
            unfold swp
            rw [if_neg (by omega)]
          rw [if_neg (show ¬ (Int32.ofNat (E.length - 1 - j)) ≤ (Int32.ofNat (l0.length + j)) from fun w => y ((i32_le (by omega) (by omega)).mp w)), gr_559_2 hR, ga_562 (by omega), v1, gr_559_2 hR, gr_559_2 hR, ga_562 (by omega), v2, gcw_562 (by omega), nar_ch c2, gr_559_2 hR, gcw_562 (by omega), nar_ch c1, q_let, q_let, show (Int32.ofNat (l0.length + j)) + 1 = (Int32.ofNat (l0.length + (j + 1))) from n_add (l0.length + j) 1, show (Int32.ofNat (E.length - 1 - j)) + (-1 : Int32) = (Int32.ofNat (E.length - 1 - (j + 1))) from (n_decm _).trans (by
            rw [show (1 : Int32) = (Int32.ofNat (1)) from rfl, n_sub (by omega)]
            congr 1)]
          refine q_go ⟨m - 1, by omega, _, j + 1, rfl, by omega, by omega, by omega, FrS_up (FrS_up hF rfl) rfl, fun k hk => ?_⟩
          unfold swp
          by_cases z1 : k = E.length - 1 - j
          · rw [z1, up_s, if_pos (by omega), show l0.length + E.length - 1 - (E.length - 1 - j) = l0.length + j by omega]
          · rw [up_n (Or.inr z1)]
            by_cases z2 : k = l0.length + j
            · rw [z2, up_s, if_pos (by omega), show l0.length + E.length - 1 - (l0.length + j) = E.length - 1 - j by omega]
            · rw [up_n (Or.inr z2), hT k hk]
              unfold swp
              by_cases z3 : (l0.length ≤ k ∧ k < l0.length + j) ∨ (E.length - j ≤ k ∧ k < E.length)
              · rw [if_pos z3, if_pos (by omega)]
              · rw [if_neg z3, if_neg (by omega)]
      · rintro _ ⟨I3, rfl, hF3, hT3⟩
        simp only [Sum.elim_inr]
        unfold f_X5_digits_j159
        refine q_ok ⟨I3, E, rfl, fun x hx => ?_, fun k hk => ?_, rfl, ?_, hT3⟩
        · rw [hF3 x (fun y => hx (by unfold S56; omega)), hF2 x hx]
        · rw [hF3 559 (by omega), hK2 k hk]
        · rw [hF3 559 (by omega)]
          exact hX2.1
  unfold f_X5_digits
  rw [gs_559, show ∀ (I0 : Nat → Nat → Int32) (F : Int32 → Option xM), (gI (mg (4562 + zn J) I0 J R) w 10 2).bind F = F (I0 w 2) from fun I0 F => by
    rw [e_gI (by have := hw1.1; omega) (by rw [hw1.2.1])]
    rfl, up_r (by omega), hW.2]
  have hF0 : FrS S56 I (up I 559 3 0) := fun x hx => up_r (fun e => hx (by unfold S56; omega))
  have hK0 : ∀ k, k ≠ 3 → up I 559 3 0 559 k = I 559 k := fun k hk => up_n (Or.inr hk)
  have hX0 : CX (up I 559 3 0) 559 562 [] := ⟨up_s, by decide, fun k hk => absurd hk (Nat.not_lt_zero k)⟩
  unfold sgn
  by_cases y : z < 0
  · rw [if_pos y, if_neg (by first | decide | omega), if_pos ok_559, if_pos y, if_pos y]
    refine q_bind (C_put (c := 45) hR isP_559 hX0 (by first | decide | omega) (by first | decide | omega)) ?_
    rintro _ ⟨I1, rfl, hF1, hK1, hX1⟩
    exact go I1 [45] (fun x hx => (hF1 x (fun e => hx (by unfold S56; omega))).trans (hF0 x hx)) (fun k hk => (hK1 k hk).trans (hK0 k hk)) hX1 (by first | decide | omega) (by first | decide | omega)
  · rw [if_neg y, if_pos rfl, if_neg y, if_neg y]
    exact go _ [] hF0 hK0 hX0 (by first | decide | omega) (by first | decide | omega)
end AN
