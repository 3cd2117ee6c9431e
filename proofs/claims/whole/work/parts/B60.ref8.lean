/-! the reference's run: a sum -/
section RSV
variable {I : Nat → Nat → Int32} {J : Nat → Nat → Int64} {R : Nat → Nat → Option Nat} {β : Type} {h t c d w u a nn i N nm : Nat} {nd : Nat → Nd} {sp : Nat → Nat} {b : GB} {n : GN} {f : GF} {s : GS} {z : Int32} {F : Nat} {rec : Rc} {ch : Ch} {lo : Int}
/-- what a sum has while one of its numbers is reckoned -/
def SuQ (I : Nat → Nat → Int32) (p q : Int32) (h t w nm k : Nat) (x : Int) (tt : GV) (z : Int32) : Prop := RTk I t p (Int32.ofNat (3)) z ∧ I 4603 t = (Int32.ofNat (w)) ∧ I 4607 t = (Int32.ofNat (k)) ∧ RTk I (t + 1) q 0 (Int32.ofNat (w)) ∧ MV I (1000 + 3 * w) (x, 1) ∧ MV I (60 + h) tt ∧ I 4608 w = (Int32.ofNat (nm)) ∧ I 4609 w = 0 ∧ I 4610 w = z
theorem M_goOn {tt v : GV} {x : Int} {k : Nat} (hR : RA R) (hA : MT I a nn nd sp) (hi : i < nn) (h4 : aro nd i = 4) (hS : RSt I (h + 2) (t + 1) c d (w + 1)) (hK : RTk I t (Int32.ofNat (a + i)) (Int32.ofNat (3)) z) (o1 : I 4603 t = (Int32.ofNat (w))) (o2 : I 4607 t = (Int32.ofNat (k + 1))) (hk : k < 1000) (o3 : I 4608 w = (Int32.ofNat (nm))) (o4 : I 4609 w = 0) (o5 : I 4610 w = z) (ht : t + 1 < 480) (hh : h + 2 ≤ 240) (hw : w < 480) (V0 : MV I (1000 + 3 * w) (x, 1)) (V1 : MV I (60 + h) tt) (V2 : MV I (60 + h + 1) v) (hx : k ≠ 0 → (x + 1).natAbs < 2 ^ 200) : QK (f_X12_goOnSum (mg 4625 I J R) 4561 (Int32.ofNat (t)) (Int32.ofNat (a + i))) (fun r => (q2 0 tt v = .inl 3 ∧ ∃ I', r = (3, mg 4625 I' J R) ∧ FrK (Fx h t w) I I') ∨ ∃ v' I', q2 0 tt v = .inr v' ∧ r = (0, mg 4625 I' J R) ∧ FrK (Fx h t w) I I' ∧ ((k = 0 ∧ RSt I' (h + 1) t c d w ∧ MV I' (60 + h) v') ∨ (k ≠ 0 ∧ RSt I' (h + 1) (t + 2) c d (w + 1) ∧ SuQ I' (Int32.ofNat (a + i)) (Int32.ofNat (a + kid sp i 3)) h t w nm k (x + 1) v' z))) := by
  have hb := hA.1.1
  have t1 : ∀ {γ : Type} {G : Int32 → Option γ}, (f_X12_top (mg 4625 I J R) 4561).bind G = G (Int32.ofNat (60 + h + 1)) := fun {γ G} => M_top (h := h + 1) hS
  unfold f_X12_goOnSum
  rw [if_pos ok_4561, t1, if_pos ok_4561, t1, if_pos ok_4561, t1, if_pos ok_4561, show (Int32.ofNat (60 + h + 1)) - (1 : Int32) = (Int32.ofNat (60 + h)) from n_sub (b := 1) (by omega)]
  refine q_bind (M_add (i := 60 + h) (e := 1) hR (by omega) (by omega) (by omega) (Or.inl rfl) (MV_Vv V1) (MV_Vv V2)) ?_
  rintro _ ⟨I1, y, rfl, r1, sto⟩
  have kv1 := Sto_kv sto
  have f1 : FrK (Fx h t w) I I1 := Fx_R3 (S := fun x => x = 60 + h) r1 (Kv_s kv1 rfl) (fun y hy => by omega)
  have k1 : ∀ x j, x ≠ 4562 → x ≠ 4563 → x ≠ 4564 → I1 x j = I x j := fun x j g1 g2 g3 => by rw [r1.1 x (by omega)]
  have e61 : I1 4561 61 = (Int32.ofNat (h + 2)) := by rw [k1 _ _ (by decide) (by decide) (by decide)]; exact hS.1
  rw [gi_4561, e61, show (Int32.ofNat (h + 2)) - (1 : Int32) = (Int32.ofNat (h + 1)) from n_sub (b := 1) (by omega), gs_4561]
  have f2 : FrK (Fx h t w) I (up I1 4561 61 (Int32.ofNat (h + 1))) := fun x j y => by
    have y2 := y
    unfold Fx at y
    rw [up_n (by omega)]
    exact f1 x j y2
  have S2 : RSt (up I1 4561 61 (Int32.ofNat (h + 1))) (h + 1) (t + 1) c d (w + 1) := by
    obtain ⟨z1, z2, z3, z4, z5⟩ := hS
    exact ⟨up_s, by rw [up_n (by omega), k1 _ _ (by decide) (by decide) (by decide)]; exact z2, by rw [up_n (by omega), k1 _ _ (by decide) (by decide) (by decide)]; exact z3, by rw [up_n (by omega), k1 _ _ (by decide) (by decide) (by decide)]; exact z4, by rw [up_n (by omega), k1 _ _ (by decide) (by decide) (by decide)]; exact z5⟩
  have V02 : MV (up I1 4561 61 (Int32.ofNat (h + 1))) (1000 + 3 * w) (x, 1) := MV_keep V0 (fun k _ _ => by rw [up_n (by omega), kv1 k (by omega)])
  have k2 : ∀ x j, x ≠ 4561 → x ≠ 4562 → x ≠ 4563 → x ≠ 4564 → up I1 4561 61 (Int32.ofNat (h + 1)) x j = I x j := fun x j g0 g1 g2 g3 => by rw [up_n (by omega), k1 x j g1 g2 g3]
  have e4564 : ∀ j, up I1 4561 61 (Int32.ofNat (h + 1)) 4564 j = I1 4564 j := fun j => up_n (by omega)
  have A2 := MT_m hA f2
  generalize up I1 4561 61 (Int32.ofNat (h + 1)) = I2 at *
  have eq2 : q2 0 tt v = qfin (tt.1 * v.2 + 1 * v.1 * tt.2) (tt.2 * v.2) := rfl
  rcases sto with ⟨ft, ey, vv, -⟩ | ⟨nft, ey, -⟩
  rotate_left
  · rw [ey, if_pos rfl]
    exact q_ok (Or.inl ⟨eq2.trans (qfin_l nft), I2, rfl, f2⟩)
  have ev := eq2.trans (qfin_r ft)
  generalize hv' : ((rz (tt.1 * v.2 + 1 * v.1 * tt.2) (tt.2 * v.2), rd (tt.1 * v.2 + 1 * v.1 * tt.2) (tt.2 * v.2)) : GV) = v' at *
  have V12 : MV I2 (60 + h) v' := by
    rw [← hv']
    exact MV_keep vv (fun k _ _ => e4564 k)
  rw [ey, if_neg (show ¬ (1 : Int32) = 0 by decide), gr_4561_55 hR, ga_4607 (by omega), k2 _ _ (by decide) (by decide) (by decide) (by decide), o2, show (Int32.ofNat (k + 1)) - (1 : Int32) = (Int32.ofNat (k)) from n_sub (b := 1) (by omega), gw_4607 (by omega), gr_4561_55 hR, ga_4607 (by omega), up_s]
  have f3 : FrK (Fx h t w) I (up I2 4607 t (Int32.ofNat (k))) := fun x j y => by
    have y2 := y
    unfold Fx at y
    rw [up_n (by omega)]
    exact f2 x j y2
  have S3 : RSt (up I2 4607 t (Int32.ofNat (k))) (h + 1) (t + 1) c d (w + 1) := by
    obtain ⟨z1, z2, z3, z4, z5⟩ := S2
    exact ⟨by rw [up_n (by omega)]; exact z1, by rw [up_n (by omega)]; exact z2, by rw [up_n (by omega)]; exact z3, by rw [up_n (by omega)]; exact z4, by rw [up_n (by omega)]; exact z5⟩
  have V03 : MV (up I2 4607 t (Int32.ofNat (k))) (1000 + 3 * w) (x, 1) := MV_keep V02 (fun k _ _ => up_n (by omega))
  have V13 : MV (up I2 4607 t (Int32.ofNat (k))) (60 + h) v' := MV_keep V12 (fun k _ _ => up_n (by omega))
  have k3 : ∀ x j, x ≠ 4561 → x ≠ 4562 → x ≠ 4563 → x ≠ 4564 → x ≠ 4607 → up I2 4607 t (Int32.ofNat (k)) x j = I x j := fun x j g0 g1 g2 g3 g4 => by rw [up_n (by omega), k2 x j g0 g1 g2 g3]
  have e7 : up I2 4607 t (Int32.ofNat (k)) 4607 t = (Int32.ofNat (k)) := up_s
  have A3 := MT_m hA f3
  generalize up I2 4607 t (Int32.ofNat (k)) = I3 at *
  by_cases q : k = 0
  · rw [if_pos (show (Int32.ofNat (k)) = (0 : Int32) by rw [q]; rfl), gr_4561_51 hR, ga_4603 (by omega), k3 _ _ (by decide) (by decide) (by decide) (by decide) (by decide), o1, gs_4561, gi_4561, up_n (by omega), S3.2.1, show (Int32.ofNat (t + 1)) - (1 : Int32) = (Int32.ofNat (t)) from n_sub (b := 1) (by omega), gs_4561]
    obtain ⟨z1, z2, z3, z4, z5⟩ := S3
    refine q_ok (Or.inr ⟨v', _, ev, rfl, fun x j y => ?_, Or.inl ⟨q, ⟨?_, up_s, ?_, ?_, ?_⟩, MV_keep V13 (fun k _ _ => by rw [up_n (by omega), up_n (by omega)])⟩⟩)
    · have y2 := y
      unfold Fx at y
      rw [up_n (by omega), up_n (by omega)]
      exact f3 x j y2
    · rw [up_n (by omega), up_n (by omega)]; exact z1
    · rw [up_n (by omega), up_n (by omega)]; exact z3
    · rw [up_n (by omega), up_n (by omega)]; exact z4
    · rw [up_n (by omega), up_s]
  rw [if_neg (show ¬ (Int32.ofNat (k)) = (0 : Int32) from i32_ne (b := 0) (by omega) (by omega) q), if_pos ok_4561]
  refine q_bind (M_setInt (i := 3600) (m := 1) hR (by omega) (by omega)) ?_
  rintro _ ⟨I4, rfl, r4, kv4, vv4⟩
  have f4 : FrK (Fx h t w) I3 I4 := Fx_R3 (S := fun x => x = 3600) r4 (Kv_s kv4 rfl) (fun y hy => by omega)
  have k4 : ∀ x j, x ≠ 4562 → x ≠ 4563 → x ≠ 4564 → I4 x j = I3 x j := fun x j g1 g2 g3 => by rw [r4.1 x (by omega)]
  have V04 : MV I4 (1000 + 3 * w) (x, 1) := MV_keep V03 (fun k _ _ => kv4 k (by omega))
  have V14 : MV I4 (60 + h) v' := MV_keep V13 (fun k _ _ => kv4 k (by omega))
  rw [gr_4561_51 hR, ga_4603 (by omega), k4 _ _ (by decide) (by decide) (by decide), k3 _ _ (by decide) (by decide) (by decide) (by decide) (by decide), o1, q_let, show (3 : Int32) * (Int32.ofNat (w)) = (Int32.ofNat (3 * w)) from n_mul 3 w, show (1000 : Int32) + (Int32.ofNat (3 * w)) = (Int32.ofNat (1000 + 3 * w)) from n_add 1000 (3 * w), if_pos ok_4561]
  refine q_bind (M_add (i := 1000 + 3 * w) (b := 3600) (e := 1) hR (by omega) (by omega) (by omega) (Or.inl rfl) (MV_Vv V04) vv4) ?_
  rintro _ ⟨I5, y5, rfl, r5, sto5⟩
  have kv5 := Sto_kv sto5
  have ex : x * ((1 : Nat) : Int) + 1 * ((1 : Nat) : Int) * ((1 : Nat) : Int) = x + 1 := by omega
  have sto5 : Sto (I4 4564) (I5 4564) (1000 + 3 * w) (x + 1) 1 y5 := by
    have e : ((x, 1) : GV).1 * ((1 : Nat) : Int) + 1 * ((1 : Nat) : Int) * (((x, 1) : GV).2 : Int) = x + 1 := ex
    rw [e] at sto5
    exact sto5
  have V05 : MV I5 (1000 + 3 * w) (x + 1, 1) := by
    have rc := rz_cop1 (z := x + 1) (D := 1) (Nat.gcd_one_right _)
    rcases sto5 with ⟨-, -, vv5, -⟩ | ⟨nft, -, -⟩
    · rw [rc.1, rc.2.1] at vv5
      exact vv5
    · exact absurd (rc.2.2.mpr ⟨hx q, by decide⟩) nft
  have f5 : FrK (Fx h t w) I4 I5 := Fx_R3 (S := fun x => x = 1000 + 3 * w) r5 (Kv_s kv5 rfl) (fun y hy => by omega)
  have k5 : ∀ x j, x ≠ 4562 → x ≠ 4563 → x ≠ 4564 → I5 x j = I4 x j := fun x j g1 g2 g3 => by rw [r5.1 x (by omega)]
  have V15 : MV I5 (60 + h) v' := MV_keep V14 (fun k _ _ => kv5 k (by omega))
  have f35 := FrK_tr f3 (FrK_tr f4 f5)
  have A5 := MT_m hA f35
  have S5 : RSt I5 (h + 1) (t + 1) c d (w + 1) := by
    unfold RSt
    rw [k5 4561 _ (by decide) (by decide) (by decide), k5 4561 _ (by decide) (by decide) (by decide), k5 4561 _ (by decide) (by decide) (by decide), k5 4561 _ (by decide) (by decide) (by decide), k5 4561 _ (by decide) (by decide) (by decide), k4 4561 _ (by decide) (by decide) (by decide), k4 4561 _ (by decide) (by decide) (by decide), k4 4561 _ (by decide) (by decide) (by decide), k4 4561 _ (by decide) (by decide) (by decide), k4 4561 _ (by decide) (by decide) (by decide)]
    exact S3
  have k35 : ∀ x j, x ≠ 4561 → x ≠ 4562 → x ≠ 4563 → x ≠ 4564 → x ≠ 4607 → I5 x j = I x j := fun x j g0 g1 g2 g3 g4 => by rw [k5 x j g1 g2 g3, k4 x j g1 g2 g3, k3 x j g0 g1 g2 g3 g4]
  dsimp only
  rw [if_pos ok_4561, show f_X12_child (mg 4625 I5 J R) 4561 (Int32.ofNat (a + i)) 3 = some (Int32.ofNat (a + kid sp i 3)) from M_child (k := 3) hR A5 hi (show 3 ≤ aro nd i by omega), Option.bind_some, gr_4561_51 hR, ga_4603 (by omega), k35 _ _ (by decide) (by decide) (by decide) (by decide) (by decide), o1, if_pos ok_4561]
  refine q_bind (M_enter hR S5 (by omega)) ?_
  rintro _ ⟨I6, rfl, f6, S6, K6⟩
  have cell : ∀ x j, x ≠ 4561 → x ≠ 4562 → x ≠ 4563 → x ≠ 4564 → x ≠ 4607 → ¬ (4600 ≤ x ∧ x ≤ 4607 ∧ t + 1 ≤ j) → ¬ (4608 ≤ x ∧ x ≤ 4610 ∧ w + 1 ≤ j) → I6 x j = I x j := fun x j g0 g1 g2 g3 g4 g5 g6 => by
    rw [f6 x j (by unfold Fx; omega), k35 x j g0 g1 g2 g3 g4]
  refine q_ok (Or.inr ⟨v', I6, ev, rfl, FrK_tr f35 (Fx_mono f6 (by omega) (by omega) (by omega)), Or.inr ⟨q, S6, ⟨?_, ?_, ?_⟩, ?_, ?_, K6, MV_m V05 f6 (by omega) (by omega) (by omega), MV_m V15 f6 (by omega) (by omega) (by omega), ?_, ?_, ?_⟩⟩)
  · rw [cell _ _ (by decide) (by decide) (by decide) (by decide) (by decide) (by omega) (by omega)]; exact hK.1
  · rw [cell _ _ (by decide) (by decide) (by decide) (by decide) (by decide) (by omega) (by omega)]; exact hK.2.1
  · rw [cell _ _ (by decide) (by decide) (by decide) (by decide) (by decide) (by omega) (by omega)]; exact hK.2.2
  · rw [cell _ _ (by decide) (by decide) (by decide) (by decide) (by decide) (by omega) (by omega)]; exact o1
  · rw [f6 4607 t (by unfold Fx; omega), k5 _ _ (by decide) (by decide) (by decide), k4 _ _ (by decide) (by decide) (by decide)]; exact e7
  · rw [cell _ _ (by decide) (by decide) (by decide) (by decide) (by decide) (by omega) (by omega)]; exact o3
  · rw [cell _ _ (by decide) (by decide) (by decide) (by decide) (by decide) (by omega) (by omega)]; exact o4
  · rw [cell _ _ (by decide) (by decide) (by decide) (by decide) (by decide) (by omega) (by omega)]; exact o5
def SimLQ (J : Nat → Nat → Int64) (R : Nat → Nat → Option Nat) (r : Rs) (j N nm : Nat) (p q : Int32) (lo : Int) (z : Int32) (c h t d w u : Nat) (I : Nat → Nat → Int32) : Prop := match r with
  | .inl e => ∃ k I', u + k ≤ 1000000 ∧ RQ k (4561, 0, mg 4625 I J R) (4561, (Int32.ofNat (e)), mg 4625 I' J R) ∧ FrK (Fx h t w) I I'
  | .inr (v, c') => ∃ k I', k + 24 * c ≤ 24 * c' ∧ RQ k (4561, 0, mg 4625 I J R) (4561, 0, mg 4625 I' J R) ∧ FrK (Fx h t w) I I' ∧ ((j < N ∧ RSt I' (h + 1) (t + 2) c' d (w + 1) ∧ SuQ I' p q h t w nm (N - j) (lo + j) v z) ∨ (j = N ∧ RSt I' (h + 1) t c' d w ∧ MV I' (60 + h) v))
theorem M_evL (hsim : SimM b n f s F rec) (hro : RcO b F rec) (hR : RA R) (hE : MEnv I b n f s) (hA : MT I a nn nd sp) (hT : TrO b nn nd sp) (hi : i < nn) (hb : bkN (nd i) = 2) (ha4 : aro nd i = 4) (hc : ChO ch) (hd : d ≤ 12) (hF : sp i + 31 * (12 - d) ≤ F + 1) (hN1 : 1 ≤ N) (hN : N ≤ 30) (hlo : lo.natAbs < 2 ^ 200) (hrg : ∀ k : Nat, k < N → (lo + k).natAbs < 2 ^ 200) (hnm : 97 ≤ nm ∧ nm < 123) (hS : RSt I (h + 1) (t + 2) c d (w + 1)) (hU : SuQ I (Int32.ofNat (a + i)) (Int32.ofNat (a + kid sp i 3)) h t w nm N lo (0, 1) z) (hC : MCh I w ch z) (h1 : h + 2 ≤ c) (h2 : w + 1 ≤ c) (h3 : c ≤ 200) (h4 : t + sp i + 31 * (12 - d) ≤ 480) (hu : u + 4785 + 100 * (sp i + 31 * (12 - d)) ≤ 900000 + 24 * c) : ∀ j, j ≤ N → SimLQ J R (evL rec nd sp i ch nm lo d j c) j N nm (Int32.ofNat (a + i)) (Int32.ofNat (a + kid sp i 3)) lo z c h t d w u I := by
  have s1 := (hT.1.2.2.2 i hi).1
  have nv := hT.2 i hi
  have nz := bk_ne hb (by decide)
  intro j
  induction j with
  | zero =>
    intro _
    refine ⟨0, I, by omega, RQ_0 _, FrK_rfl, Or.inl ⟨by omega, hS, ?_⟩⟩
    rw [show lo + ((0 : Nat) : Int) = lo by omega, Nat.sub_zero]
    exact hU
  | succ j ih =>
    intro hj
    have g := ih (by omega)
    have ro := evL_RO hro hT hi ha4 hc (nm := nm) (lo := lo) hd hF hlo j (fun k hk => hrg k (by omega)) c
    rw [evL_c]
    cases e : evL rec nd sp i ch nm lo d j c with
    | inl e1 => rw [e] at g; exact g
    | inr r =>
      obtain ⟨tt, c1⟩ := r
      rw [e] at g ro
      obtain ⟨r1, r2, r3⟩ := ro
      obtain ⟨kk, I1, b1, rc1, f1, ⟨-, S1, U1⟩ | ⟨g1, -⟩⟩ := g
      rotate_left
      · omega
      obtain ⟨U1a, U1b, U1c, U1d, U1e, U1f, U1g, U1h, U1i⟩ := U1
      obtain ⟨a1, a2, a3⟩ := kid_sp hT.1 hi (show 3 < aro nd i by omega)
      have A1 := MT_m hA f1
      have C2 : MCh I1 (w + 1) ((nm, [(lo + j, 1)]) :: ch) (Int32.ofNat (w)) := ⟨w, by omega, rfl, Or.inr ⟨hnm.1, hnm.2, U1h, U1g, ⟨_, rfl, U1e⟩, by rw [U1i]; exact MCh_keep (by omega) (by omega) ch w z hC (Nat.le_refl _) f1⟩⟩
      have hc2 : ChO ((nm, [(lo + j, 1)]) :: ch) := fun x hx v hv => by
        rcases List.mem_cons.mp hx with y | y
        · rw [y] at hv
          rw [List.mem_singleton.mp hv]
          exact ⟨hrg j (by omega), (by decide : 0 < 1), (by decide : 1 < 2 ^ 200), Nat.gcd_one_right _⟩
        · exact hc x y v hv
      have g2 := hsim J R a nn (kid sp i 3) nd sp ((nm, [(lo + j, 1)]) :: ch) c1 d (h + 1) (t + 1) (w + 1) (u + kk) (Int32.ofNat (w)) I1 hR (MEnv_keep hE f1) A1 hT a1 hc2 hd (by omega) S1 U1d C2 (by omega) (by omega) (by omega) (by omega) (by omega)
      have ro2 := hro nn nd sp (kid sp i 3) ((nm, [(lo + j, 1)]) :: ch) c1 d hT a1 hc2 hd (by omega)
      dsimp only
      cases e3 : rec nd sp (kid sp i 3) ((nm, [(lo + j, 1)]) :: ch) c1 d with
      | inl e4 =>
        rw [e3] at g2
        obtain ⟨k3, I3, b3, rc3, f3⟩ := g2
        exact ⟨kk + k3, I3, by omega, RQ_tr rc1 rc3, FrK_tr f1 (Fx_mono f3 (by omega) (by omega) (by omega))⟩
      | inr r4 =>
        obtain ⟨v, c2⟩ := r4
        rw [e3] at g2 ro2
        obtain ⟨l1, l2, l3⟩ := ro2
        obtain ⟨k3, I3, b3, rc3, f3, S3, V3⟩ := g2
        have K3 := RTk_keep U1a f3
        have f13 := FrK_tr f1 (Fx_mono f3 (show h ≤ h + 1 by omega) (show t ≤ t + 1 by omega) (show w ≤ w + 1 by omega))
        have A3 := MT_m hA f13
        have V0 : MV I3 (1000 + 3 * w) (lo + j, 1) := MV_m U1e f3 (by omega) (by omega) (by omega)
        have V1 : MV I3 (60 + h) tt := MV_m U1f f3 (by omega) (by omega) (by omega)
        have eN : N - j = (N - (j + 1)) + 1 := by omega
        rw [eN] at U1c
        obtain ⟨x5, e5, h5⟩ := M_goOn (J := J) hR A3 hi ha4 S3 K3 (by rw [f3 4603 t (by unfold Fx; omega)]; exact U1b) (by rw [f3 4607 t (by unfold Fx; omega)]; exact U1c) (by omega) (by rw [f3 4608 w (by unfold Fx; omega)]; exact U1g) (by rw [f3 4609 w (by unfold Fx; omega)]; exact U1h) (by rw [f3 4610 w (by unfold Fx; omega)]; exact U1i) (by omega) (by omega) (by omega) V0 V1 V3 (fun y => by
          have := hrg (j + 1) (by omega)
          rw [show lo + (j : Int) + 1 = lo + ((j + 1 : Nat) : Int) by omega]
          exact this)
        have tn : RQ 1 (4561, 0, mg 4625 I3 J R) (4561, x5.1, x5.2) := by
          refine RQ_1 ?_
          rw [run_top hR A3 hi nv S3 K3 (by omega), if_neg nz, if_neg (by omega), if_pos hb]
          unfold f_X12_sums
          rw [gr_4561_49 hR, ga_4601 (by omega), K3.2.1, if_pos (show (Int32.ofNat (3)) = (3 : Int32) from rfl), if_pos ok_4561, e5, Option.bind_some, Option.bind_some]
        dsimp only
        rcases h5 with ⟨ev, I5, rfl, f5⟩ | ⟨v', I5, ev, rfl, f5, h6⟩
        · rw [ev]
          exact ⟨kk + k3 + 1, I5, by omega, RQ_tr (RQ_tr rc1 rc3) tn, FrK_tr f13 f5⟩
        · rw [ev]
          refine ⟨kk + k3 + 1, I5, by omega, RQ_tr (RQ_tr rc1 rc3) tn, FrK_tr f13 f5, ?_⟩
          rcases h6 with ⟨y1, y2, y3⟩ | ⟨y1, y2, y3⟩
          · exact Or.inr ⟨by omega, y2, y3⟩
          · refine Or.inl ⟨by omega, y2, ?_⟩
            rw [show lo + ((j + 1 : Nat) : Int) = lo + (j : Int) + 1 by omega]
            exact y3
/-- its bounds are there -/
theorem M_sumTail {lo hi : GV} (hsim : SimM b n f s F rec) (hro : RcO b F rec) (hR : RA R) (hE : MEnv I b n f s) (hA : MT I a nn nd sp) (hT : TrO b nn nd sp) (hi' : i < nn) (hb : bkN (nd i) = 2) (ha4 : aro nd i = 4) (hk0 : (nd (kid sp i 0)).1 = 1) (hc : ChO ch) (hd : d ≤ 12) (hF : sp i + 31 * (12 - d) ≤ F + 1) (hS : RSt I (h + 2) (t + 1) c d w) (hK : RTk I t (Int32.ofNat (a + i)) (Int32.ofNat (2)) z) (V0 : MV I (60 + h) lo) (V1 : MV I (60 + h + 1) hi) (gl : Gd lo) (gh : Gd hi) (hC : MCh I w ch z) (h1 : h + 2 ≤ c) (h2 : w + 1 ≤ c) (h3 : c ≤ 200) (h4 : t + sp i + 31 * (12 - d) ≤ 480) (hu : u + 4787 + 100 * (sp i + 31 * (12 - d)) ≤ 900000 + 24 * c) : SimXQ 2 J R (if lo.2 ≠ 1 ∨ hi.2 ≠ 1 then .inl 2 else if 30 ≤ hi.1 - lo.1 then .inl 3 else evL rec nd sp i ch (vN (nd (kid sp i 0))) lo.1 d (hi.1 - lo.1 + 1).toNat c) c h t d w u I := by
  have s1 := (hT.1.2.2.2 i hi').1
  have nv := hT.2 i hi'
  have nz := bk_ne hb (by decide)
  obtain ⟨c1, c2, c3⟩ := kid_sp hT.1 hi' (show 0 < aro nd i by omega)
  have nv0 := hT.2 _ c1
  obtain ⟨x1, -⟩ := NV_v nv0
  have nm : 97 ≤ vN (nd (kid sp i 0)) ∧ vN (nd (kid sp i 0)) < 123 := by
    rcases nv0 with y | ⟨y, ⟨l, hl, e⟩, _⟩ | y | y
    · rw [y.1] at hk0; exact absurd hk0 (by decide)
    · have : vN (nd (kid sp i 0)) = 97 + l := by
        unfold vN
        rw [e, i32_nat (by omega)]
      omega
    · rw [y.1] at hk0; exact absurd hk0 (by decide)
    · rw [y.1] at hk0; exact absurd hk0 (by decide)
  obtain ⟨r, e5, h5⟩ := M_beginSum (J := J) hR hA hi' ha4 hS hK (by omega) (by omega) (by omega) V0 V1
  have st : RQ 1 (4561, 0, mg 4625 I J R) (4561, r.1, r.2) := by
    refine RQ_1 ?_
    rw [run_top hR hA hi' nv hS hK (by omega), if_neg nz, if_neg (by omega), if_pos hb]
    unfold f_X12_sums
    rw [gr_4561_49 hR, ga_4601 (by omega), hK.2.1, if_neg (show ¬ (Int32.ofNat (2)) = (3 : Int32) by decide), gr_4561_49 hR, ga_4601 (by omega), hK.2.1, if_pos (show (Int32.ofNat (2)) = (2 : Int32) from rfl), if_pos ok_4561, e5, Option.bind_some, Option.bind_some]
  have ek : (nd (i + 1)).2.1 = (Int32.ofNat (vN (nd (kid sp i 0)))) := x1
  rw [ek] at h5
  generalize vN (nd (kid sp i 0)) = nmv at *
  rcases h5 with ⟨p1, rfl⟩ | ⟨p1, p2, I1, rfl, f1, S1, W1⟩ | ⟨p1, p2, p3, I1, rfl, f1⟩ | ⟨p1, p2, p3, I1, rfl, f1, S1, K1, o1, o2, K1', W0, W1, o3, o4, o5⟩
  · rw [if_pos p1]
    exact ⟨1, I, by omega, st, FrK_rfl⟩
  · rw [if_neg p1, if_neg (by omega), show (hi.1 - lo.1 + 1).toNat = 0 by omega]
    exact ⟨1, I1, by omega, st, f1, S1, W1⟩
  · rw [if_neg p1, if_pos p3]
    exact ⟨1, I1, by omega, st, f1⟩
  rw [if_neg p1, if_neg p3]
  have l2 : lo.2 = 1 := by omega
  have W0' : MV I1 (1000 + 3 * w) (lo.1, 1) := by
    have e : lo = (lo.1, 1) := by rw [← l2]
    rw [← e]
    exact W0
  have N30 : (hi.1 - lo.1 + 1).toNat ≤ 30 := by omega
  have N1 : 1 ≤ (hi.1 - lo.1 + 1).toNat := by omega
  have g := M_evL (J := J) (u := u + 1) hsim hro hR (MEnv_keep hE f1) (MT_m hA f1) hT hi' hb ha4 hc hd hF N1 N30 gl.1 (sum_rng gl.1 gh.1) nm S1 ⟨K1, o1, o2, K1', W0', W1, o3, o4, o5⟩ (MCh_keep (by omega) (by omega) ch w z hC (Nat.le_refl _) f1) h1 h2 h3 h4 (by omega) (hi.1 - lo.1 + 1).toNat (Nat.le_refl _)
  generalize (hi.1 - lo.1 + 1).toNat = N at *
  cases e : evL rec nd sp i ch nmv lo.1 d N c with
  | inl e1 =>
    rw [e] at g
    obtain ⟨k2, I2, b2, rc2, f2⟩ := g
    exact ⟨1 + k2, I2, by omega, RQ_tr st rc2, FrK_tr f1 f2⟩
  | inr r2 =>
    obtain ⟨v, c'⟩ := r2
    rw [e] at g
    obtain ⟨k2, I2, b2, rc2, f2, ⟨y1, -⟩ | ⟨-, S2, V2⟩⟩ := g
    · omega
    · exact ⟨1 + k2, I2, by omega, RQ_tr st rc2, FrK_tr f1 f2, S2, V2⟩
theorem M_sum (hsim : SimM b n f s F rec) (hro : RcO b F rec) (hR : RA R) (hE : MEnv I b n f s) (hA : MT I a nn nd sp) (hT : TrO b nn nd sp) (hi : i < nn) (hb : bkN (nd i) = 2) (hc : ChO ch) (hd : d ≤ 12) (hF : sp i + 31 * (12 - d) ≤ F + 1) (hS : RSt I h (t + 1) c d w) (hK : RTk I t (Int32.ofNat (a + i)) 0 z) (hC : MCh I w ch z) (h1 : h ≤ c) (h2 : w ≤ c) (h3 : c ≤ 200) (h4 : t + sp i + 31 * (12 - d) ≤ 480) (hu : u + 4824 + 100 * (sp i + 31 * (12 - d)) ≤ 900000 + 24 * c) : SimQ J R (evS rec nd sp i ch c d) c h t d w u I := by
  have nv := hT.2 i hi
  have a4 : aro nd i ≤ 4 := (NV_v nv).2.2.2.1
  have s1 := (hT.1.2.2.2 i hi).1
  have nz := bk_ne hb (by decide)
  have hb' := hA.1.1
  unfold evS
  have turn : ∀ p : Int32 × xM, f_X12_sums (mg 4625 I J R) 4561 (Int32.ofNat (t)) (Int32.ofNat (a + i)) = some p → f_X12_run_s33 (4561, 0, mg 4625 I J R) = some (.inr (.inr (4561, p.1, p.2))) := fun p hp => by
    rw [run_top hR hA hi nv hS hK (by omega), if_neg nz, if_neg (by omega), if_pos hb, hp, Option.bind_some]
  unfold f_X12_sums f_X12_sums_j51 f_X12_sums_j79 f_X12_sums_j103 at turn
  rw [gr_4561_49 hR, ga_4601 (by omega), hK.2.1, if_neg (by decide), gr_4561_49 hR, ga_4601 (by omega), hK.2.1, if_neg (by decide), gr_4561_49 hR, ga_4601 (by omega), hK.2.1, if_pos rfl, if_pos ok_4561] at turn
  by_cases q : 200 ≤ c
  · rw [if_pos q]
    rw [M_count9 hS (by omega), Option.bind_some, if_neg (show ¬ (9 : Int32) ≤ 0 by decide)] at turn
    exact ⟨1, I, by omega, RQ_1 (turn _ rfl), FrK_rfl⟩
  rw [if_neg q]
  obtain ⟨_, e1, I1, rfl, f1, S1, o1⟩ := M_count (J := J) (R := R) hS (show c < 200 by omega)
  have A1 := MT_m hA f1
  have f1 : FrK (Fx h t w) I I1 := fun x k y => by
    by_cases qx : x = 4561
    · subst qx
      exact f1 4561 k (by unfold Fx at y ⊢; omega)
    · exact o1 x k qx
  have K1 : RTk I1 t (Int32.ofNat (a + i)) (Int32.ofNat (0)) z := ⟨by rw [o1 _ _ (by decide)]; exact hK.1, by rw [o1 _ _ (by decide)]; exact hK.2.1, by rw [o1 _ _ (by decide)]; exact hK.2.2⟩
  rw [e1, Option.bind_some, if_pos (show (0 : Int32) ≤ 0 by decide), gr_4561_49 hR, ga_4601 (by omega), K1.2.1, if_pos (show (Int32.ofNat (0)) = (0 : Int32) from rfl), mk_3 A1 hi hR] at turn
  by_cases q3 : aro nd i ≠ 4
  · rw [if_pos q3]
    rw [if_neg (show ¬ (Int32.ofNat (aro nd i)) = (4 : Int32) from i32_ne (b := 4) (by omega) (by omega) q3)] at turn
    exact ⟨1, I1, by omega, RQ_1 (turn _ rfl), f1⟩
  rw [if_neg q3]
  have a3 : aro nd i = 4 := by omega
  obtain ⟨c1, c2, c3⟩ := kid_sp hT.1 hi (show 0 < aro nd i by omega)
  have n3 : I1 4565 (a + i + 1) = (nd (kid sp i 0)).1 := by
    rw [Nat.add_assoc]
    exact (A1.1.2 (kid sp i 0) c1).1
  have c1' : i + 1 < nn := c1
  rw [if_pos (show (Int32.ofNat (aro nd i)) = (4 : Int32) by rw [a3]; rfl), gr_4561_49 hR, ga_4601 (by omega), K1.2.1, if_pos (show (Int32.ofNat (0)) = (0 : Int32) from rfl), gr_4561_4 hR, show (Int32.ofNat (a + i)) + (1 : Int32) = (Int32.ofNat (a + i + 1)) from n_add (a + i) 1, ga_4565 (by omega), n3] at turn
  by_cases q4 : (nd (kid sp i 0)).1 ≠ 1
  · rw [if_pos q4]
    rw [if_neg q4] at turn
    exact ⟨1, I1, by omega, RQ_1 (turn _ rfl), f1⟩
  rw [if_neg q4]
  have q4 : (nd (kid sp i 0)).1 = 1 := Classical.byContradiction q4
  obtain ⟨b1, b2, b3⟩ := kid_sp hT.1 hi (show 1 < aro nd i by omega)
  obtain ⟨d1, d2, d3⟩ := kid_sp hT.1 hi (show 2 < aro nd i by omega)
  obtain ⟨g1, g2, g3⟩ := RTk_stage (stage' := (Int32.ofNat (1))) S1 K1
  have f2 := FrK_tr f1 g1
  rw [if_pos q4, gr_4561_49 hR, ga_4601 (by omega), K1.2.1, show (Int32.ofNat (0)) + (1 : Int32) = (Int32.ofNat (1)) from rfl, gw_4601 (by omega)] at turn
  have A2 := MT_m hA f2
  generalize up I1 4601 t (Int32.ofNat (1)) = I2 at *
  rw [gr_4561_49 hR, ga_4601 (by omega), g3.2.1, if_pos ok_4561, M_child hR A2 hi (by omega), Option.bind_some, gr_4561_50 hR, ga_4602 (by omega), g3.2.2, if_pos ok_4561] at turn
  obtain ⟨_, e2, I3, rfl, f3, S3, K3⟩ := M_enter (J := J) (R := R) (node := (Int32.ofNat (a + kid sp i 1))) (z := z) hR g2 (by omega)
  rw [e2, Option.bind_some] at turn
  have st := RQ_1 (turn _ rfl)
  have f13 := FrK_tr f2 (Fx_mono f3 (Nat.le_refl h) (show t ≤ t + 1 by omega) (Nat.le_refl w))
  have K3' := RTk_keep g3 f3
  have g := hsim J R a nn (kid sp i 1) nd sp ch (c + 1) d h (t + 1) w (u + 1) z I3 hR (MEnv_keep hE f13) (MT_m hA f13) hT b1 hc hd (by omega) S3 K3 (MCh_keep (by omega) (by omega) ch w z hC (Nat.le_refl _) f13) (by omega) (by omega) (by omega) (by omega) (by omega)
  have ro := hro nn nd sp (kid sp i 1) ch (c + 1) d hT b1 hc hd (by omega)
  cases e3 : rec nd sp (kid sp i 1) ch (c + 1) d with
  | inl e4 =>
    rw [e3] at g
    obtain ⟨k4, I4, b4, rc4, f4⟩ := g
    exact ⟨1 + k4, I4, by omega, RQ_tr st rc4, FrK_tr f13 (Fx_mono f4 (Nat.le_refl _) (by omega) (Nat.le_refl _))⟩
  | inr r =>
    obtain ⟨lo, c'⟩ := r
    rw [e3] at g ro
    obtain ⟨l1, l2, l3⟩ := ro
    obtain ⟨k4, I4, b4, rc4, f4, S4, V4⟩ := g
    dsimp only
    have f14 := FrK_tr f13 (Fx_mono f4 (Nat.le_refl h) (show t ≤ t + 1 by omega) (Nat.le_refl w))
    have K4 := RTk_keep K3' f4
    have A4 := MT_m hA f14
    obtain ⟨m1, m2, m3⟩ := RTk_stage (stage' := (Int32.ofNat (2))) S4 K4
    have V5 : MV (up I4 4601 t (Int32.ofNat (2))) (60 + h) lo := MV_keep V4 (fun k _ _ => up_n (by omega))
    have A5 := MT_m A4 m1
    have f15 := FrK_tr f14 (Fx_mono m1 (show h ≤ h + 1 by omega) (Nat.le_refl t) (Nat.le_refl w))
    have tn2 : ∀ I6, f_X12_enter (mg 4625 (up I4 4601 t (Int32.ofNat (2))) J R) 4561 (Int32.ofNat (a + kid sp i 2)) z = some (mg 4625 I6 J R) → RQ 1 (4561, 0, mg 4625 I4 J R) (4561, 0, mg 4625 I6 J R) := fun I6 e6 => by
      refine RQ_1 ?_
      rw [run_top hR A4 hi nv S4 K4 (by omega), if_neg nz, if_neg (by omega), if_pos hb]
      unfold f_X12_sums f_X12_sums_j51 f_X12_sums_j79 f_X12_sums_j103
      rw [gr_4561_49 hR, ga_4601 (by omega), K4.2.1, if_neg (show ¬ (Int32.ofNat (1)) = (3 : Int32) by decide), gr_4561_49 hR, ga_4601 (by omega), K4.2.1, if_neg (show ¬ (Int32.ofNat (1)) = (2 : Int32) by decide), gr_4561_49 hR, ga_4601 (by omega), K4.2.1, if_neg (show ¬ (Int32.ofNat (1)) = (0 : Int32) by decide), if_pos (show (0 : Int32) ≤ 0 by decide), gr_4561_49 hR, ga_4601 (by omega), K4.2.1, if_neg (show ¬ (Int32.ofNat (1)) = (0 : Int32) by decide), gr_4561_49 hR, ga_4601 (by omega), K4.2.1, if_neg (show ¬ (Int32.ofNat (1)) = (0 : Int32) by decide), gr_4561_49 hR, ga_4601 (by omega), K4.2.1, show (Int32.ofNat (1)) + (1 : Int32) = (Int32.ofNat (2)) from rfl, gw_4601 (by omega), gr_4561_49 hR, ga_4601 (by omega), m3.2.1, if_pos ok_4561, M_child hR A5 hi (by omega), Option.bind_some, gr_4561_50 hR, ga_4602 (by omega), m3.2.2, if_pos ok_4561, e6, Option.bind_some, Option.bind_some]
    generalize up I4 4601 t (Int32.ofNat (2)) = I5 at *
    obtain ⟨_, e6, I6, rfl, f6, S6, K6⟩ := M_enter (J := J) (R := R) (node := (Int32.ofNat (a + kid sp i 2))) (z := z) hR m2 (by omega)
    have st2 := tn2 I6 e6
    have f16 := FrK_tr f15 (Fx_mono f6 (show h ≤ h + 1 by omega) (show t ≤ t + 1 by omega) (Nat.le_refl w))
    have K6' := RTk_keep m3 f6
    have V6 := MV_m V5 f6 (by omega) (by omega) (by omega)
    have g2' := hsim J R a nn (kid sp i 2) nd sp ch c' d (h + 1) (t + 1) w (u + 1 + k4 + 1) z I6 hR (MEnv_keep hE f16) (MT_m hA f16) hT d1 hc hd (by omega) S6 K6 (MCh_keep (by omega) (by omega) ch w z hC (Nat.le_refl _) f16) (by omega) (by omega) (by omega) (by omega) (by omega)
    have ro2 := hro nn nd sp (kid sp i 2) ch c' d hT d1 hc hd (by omega)
    cases e7 : rec nd sp (kid sp i 2) ch c' d with
    | inl e8 =>
      rw [e7] at g2'
      obtain ⟨k7, I7, b7, rc7, f7⟩ := g2'
      exact ⟨1 + k4 + 1 + k7, I7, by omega, RQ_tr (RQ_tr (RQ_tr st rc4) st2) rc7, FrK_tr f16 (Fx_mono f7 (by omega) (by omega) (Nat.le_refl _))⟩
    | inr r2 =>
      obtain ⟨hh, c2'⟩ := r2
      rw [e7] at g2' ro2
      obtain ⟨n1, n2, n3⟩ := ro2
      obtain ⟨k7, I7, b7, rc7, f7, S7, V7⟩ := g2'
      have K7 := RTk_keep K6' f7
      have f17 := FrK_tr f16 (Fx_mono f7 (show h ≤ h + 1 by omega) (show t ≤ t + 1 by omega) (Nat.le_refl w))
      have V07 := MV_m V6 f7 (by omega) (by omega) (by omega)
      have g4 := M_sumTail (J := J) (u := u + 1 + k4 + 1 + k7) hsim hro hR (MEnv_keep hE f17) (MT_m hA f17) hT hi hb a3 q4 hc hd hF S7 K7 V07 V7 l3 n3 (MCh_keep (by omega) (by omega) ch w z hC (Nat.le_refl _) f17) (by omega) (by omega) n2 h4 (by omega)
      have rc7' := RQ_tr (RQ_tr (RQ_tr st rc4) st2) rc7
      dsimp only
      generalize (if lo.2 ≠ 1 ∨ hh.2 ≠ 1 then Sum.inl 2 else if 30 ≤ hh.1 - lo.1 then Sum.inl 3 else evL rec nd sp i ch (vN (nd (kid sp i 0))) lo.1 d (hh.1 - lo.1 + 1).toNat c2' : Rs) = rr at *
      cases rr with
      | inl e8 =>
        obtain ⟨k8, I8, b8, rc8, f8⟩ := g4
        exact ⟨1 + k4 + 1 + k7 + k8, I8, by omega, RQ_tr rc7' rc8, FrK_tr f17 f8⟩
      | inr r8 =>
        obtain ⟨v, c3'⟩ := r8
        obtain ⟨k8, I8, b8, rc8, f8, S8, V8⟩ := g4
        exact ⟨1 + k4 + 1 + k7 + k8, I8, by omega, RQ_tr rc7' rc8, FrK_tr f17 f8, S8, V8⟩
end RSV
