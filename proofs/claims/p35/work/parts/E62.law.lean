/-! the law, from its start -/
theorem sk_1 : Ik_45 0 1 = 0 ∧ Ik_45 0 15 = 0 ∧ Ik_45 11 5 = 0 ∧ Ik_45 11 13 = 0 ∧ Ik_45 11 14 = 0 ∧ Ik_45 559 3 = 0 := by decide +kernel
theorem sk_2 : ∀ j, j < 26 → Ik_45 18 j = 0 ∧ Ik_45 (20 + j) 0 = 0 ∧ Ik_45 (20 + j) 1 = 0 := by decide +kernel
theorem sk_3 : ∀ l, l < 26 → Ik_45 (310 + 5 * l + 1) 1 = 0 ∧ Ik_45 (310 + 5 * l + 1) 2 = 0 ∧ Ik_45 (310 + 5 * l + 3) 1 = 1 ∧ Ik_45 (310 + 5 * l + 3) 2 = 0 ∧ Ik_45 (310 + 5 * l + 4) 0 = 1 := by decide +kernel
theorem sk_5 : ∀ i, i < 9 → Ik_45 (4416 + 15 * i + 1) 1 = 0 ∧ Ik_45 (4416 + 15 * i + 1) 2 = 0 ∧ Ik_45 (4416 + 15 * i + 3) 1 = 1 ∧ Ik_45 (4416 + 15 * i + 3) 2 = 0 ∧ Ik_45 (4416 + 15 * i + 4) 0 = 1 := by decide +kernel
theorem sk_6 : Ik_45 4542 1 = 0 ∧ Ik_45 4542 2 = 0 ∧ Ik_45 4544 1 = 1 ∧ Ik_45 4544 2 = 0 ∧ Ik_45 4545 0 = 1 := by decide +kernel
theorem sk_8 : Ik_45 12 = plc := rfl
theorem sT_3 : ∀ p, p < 16 → ∀ fx, fx < 3 → bOK fx (Ik_45 13 (fx * 16 + p)) (Ik_45 14 (fx * 16 + p)) (Ik_45 15 (fx * 16 + p)) = true := by decide +kernel
theorem sT_4 : ∀ p, p < 16 → Ik_45 13 (16 + p) = 0 ∨ Ik_45 13 (32 + p) = 0 := by decide +kernel
theorem sT_5 : ∀ p, p < 16 → ∀ q, q < 16 → Ik_45 13 (32 + p) ≠ 0 → Ik_45 13 (32 + p) = Ik_45 13 (32 + q) → Ik_45 14 (32 + p) = Ik_45 14 (32 + q) := by decide +kernel
theorem sT_T : TbOK (tbOf Ik_45) := tb_T (fun p fx hp hf => bOK_of (sT_3 p hp fx hf)) sT_4 (fun p q hp hq => sT_5 p hp q hq)
theorem sT_D : DivB (tbOf Ik_45) (plN 47) := by
  unfold DivB rkN tbOf
  decide +kernel
theorem JZ_0 : JZ zJ 0 := ⟨by decide, fun j hj => by
  show zJ (4562 + j) 0 = _
  unfold zJ
  rw [if_neg (by omega), if_neg (by omega)]⟩
theorem st_LSt : LSt Ik_45 0 (0, fun _ => 0) (0, fun _ => 0, fun _ _ => (0, 0, 0, 0), fun _ _ => 0) (tbOf Ik_45) (fun _ => 0, fun _ => (0, 1)) (fun x k => if x < 26 then Ik_45 (20 + x) k else 0) (0, 1) (0, fun _ => 0) (0, fun _ => 0, fun _ => 0) (0, 0, fun _ => 0, fun _ => 0, fun _ _ => 0, fun _ => (0, 1)) (me 4562 Ik_45 Rk_166) := by
  obtain ⟨f1, f2, f3, f4, f5, f6⟩ := sk_1
  obtain ⟨a1, a2, a3, a4, a5⟩ := sk_6
  have gd : Gd (0, 1) := ⟨by decide, by decide, by decide, by decide⟩
  refine ⟨Ik_45, zJ, Rk_166, fun _ => (0, 1), by rw [zn_JZ JZ_0], JZ_0, RA_all, ⟨⟨Nat.zero_le _, f1, fun k hk => absurd hk (Nat.not_lt_zero _)⟩, ⟨Nat.zero_le _, f3, fun k hk => absurd hk (Nat.not_lt_zero _)⟩, ⟨sk_8, fun z hz => (tb_v Ik_45 z).symm⟩, fun x hx => ⟨(sk_2 x hx).1, Or.inl rfl, ?_⟩, fun x k hx hk => (if_pos hx).symm, CV_01 isF_4541 a1 a2 a3 a4 a5, fun k hk => ?_, ⟨Nat.zero_le _, f6, fun k hk => absurd hk (Nat.not_lt_zero _)⟩, ⟨Nat.zero_le _, f2, fun k hk => absurd hk (Nat.not_lt_zero _)⟩, ⟨Nat.zero_le _, Nat.zero_lt_succ _, f4, f5, fun k hk => absurd hk (Nat.not_lt_zero _)⟩⟩, ⟨fun _ => 0, fun _ => (tbOf Ik_45), fun _ x k => if x < 26 then Ik_45 (20 + x) k else 0, rfl, rfl, rfl, fun j hj => ⟨sT_T, fun t i ht => absurd ht (Nat.not_lt_zero _), fun x hx => ⟨⟨0, Nat.zero_le _, (if_pos hx).trans (sk_2 x hx).2.1⟩, 0, Nat.zero_le _, (if_pos hx).trans (sk_2 x hx).2.2, fun k hk => absurd hk (Nat.not_lt_zero _)⟩⟩, fun j hj => absurd hj (Nat.not_lt_zero _)⟩, fun a k _ => rfl, gd, fun l _ => gd, fun l => ?_⟩
  · obtain ⟨y1, y2, y3, y4, y5⟩ := sk_3 x hx
    exact CV_01 (isF_310 hx) y1 y2 y3 y4 y5
  · obtain ⟨y1, y2, y3, y4, y5⟩ := sk_5 k hk
    exact CV_01 (isF_4416 hk) y1 y2 y3 y4 y5
  · unfold prmN
    show (if l < 26 then Ik_45 (20 + l) 0 else 0 : Int32).toNatClampNeg = 0
    by_cases y : l < 26
    · rw [if_pos y, (sk_2 l y).2.1]
      rfl
    · rw [if_neg y]
      rfl
theorem law_all {aC : Nat → ClassId} (hL : aC 104 ≤ 260) : ∃ τ, f_L_law aC xe0 = some (1, τ) := by
  have key : QK ((xloop (f_L_law_s18 aC) xF (xkX, 0, (1 : Int32), 4561, (0 : Int32), me 4562 Ik_45 Rk_166)).bind (Sum.elim (fun g => some g) (fun e => f_L_law_j138 aC e.2.2.2.2 e.1 e.2.1 e.2.2.1 e.2.2.2.1))) (fun y => y.1 = 1) := by
    refine q_bind (ls_lets hL sT_D ⟨_, _, _, _, _, _, _, _, _, st_LSt, rfl, Nat.le_refl _, Nat.le_refl _⟩) ?_
    rintro _ ⟨σ1, rfl, C1, t1, s1, n1, f1, v1, p1, r1, h1, H1, z1, hs1, hh1⟩
    rw [Sum.elim_inr]
    unfold f_L_law_j138
    dsimp only
    rw [q_let]
    refine q_bind (ls_tells hL (B := 6) (by decide) ⟨C1, t1, s1, _, n1, f1, v1, p1, r1, h1, H1, z1, hs1, hh1⟩) ?_
    rintro _ ⟨σ2, rfl, C2, t2, s2, b2, n2, f2, v2, p2, r2, h2, H2, z2, hs2, hh2⟩
    rw [Sum.elim_inr]
    unfold f_L_law_j364
    dsimp only
    rw [if_pos (ls_ok H2), ls_trees H2, Option.bind_some, q_let]
    refine q_bind (ls_loop hL (N := s2.1) (by omega) ⟨C2, 0, t2, s2, v2, p2, r2, h2, H2, z2, Nat.le_refl _, rfl, by omega⟩) ?_
    rintro _ ⟨σ3, rfl, C3, Z3, t3, s3, v3, p3, r3, h3, H3, z3, -, hs3, -⟩
    rw [Sum.elim_inr]
    unfold f_L_law_j487
    dsimp only
    rw [if_neg (show ¬ (1 : Int32) = 0 by decide), if_pos (ls_ok H3), ls_trees H3, Option.bind_some, if_pos (by rw [hs3])]
    unfold f_L_law_j505
    rw [q_xz1]
    exact q_ok rfl
  obtain ⟨y, e, hy⟩ := key
  obtain ⟨y1, y2⟩ := y
  have hy : y1 = 1 := hy
  subst hy
  refine ⟨y2, ?_⟩
  rw [xe0_me]
  unfold f_L_law
  refine xb_eq (a := me 1 Ik_0 Rk_0) (e_nwO hz_0_0_0 rfl rfl (by decide)) ?_
  refine xb_eq C_X11_init ?_
  refine xb_eq (a := me 4561 Ik_45 Rk_166) (e_cdo rfl (by decide)) ?_
  refine xb_eq (a := me 4562 Ik_45 Rk_166) (e_nwA hz_4561_45_166 rfl (by decide) (by decide) (by decide)) ?_
  exact e
