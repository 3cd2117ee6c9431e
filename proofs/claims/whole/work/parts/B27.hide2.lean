/-! brackets that may go, in the reference -/
def Fmk : Nat → Nat → Prop := fun a k => (a = 4561 ∧ (k = 33 ∨ k = 36 ∨ k = 40)) ∨ (4583 ≤ a ∧ a ≤ 4594) ∨ (4565 ≤ a ∧ a ≤ 4569 ∧ 13440 ≤ k ∧ k < 13520)
def Fmm : Nat → Nat → Prop := fun a k => Fmk a k ∧ a ≠ 4583
theorem Fmm_up {I I' : Nat → Nat → Int32} (h : FrK Fmm I I') : FrK Fmk I I' := FrK_mono h (fun _ _ y => y.1)
section MHD
variable {I : Nat → Nat → Int32} {J : Nat → Nat → Int64} {R : Nat → Nat → Option Nat} {b : GB} {m a n : Nat} {W : Nat → Wd} {P P2 : Nat → Nat} {g : Nat → Bool} {nd : Nat → Nd} {sp : Nat → Nat} {β : Type}
theorem M_makes (hR : RA R) (hM : MTb I b) (hT : TbOK b) (hW : MWd I m W P g) (hn : nws (vis W g m 0) ≤ 80) (hA : MT I a n nd sp) (h80 : n ≤ 80) (ha : a + n ≤ 13440) : QK (f_X12_makes (mg 4625 I J R) 4561 (Int32.ofNat (a))) (fun r => ∃ I', ((GoodW b W m n nd sp g ∧ r = (1, mg 4625 I' J R)) ∨ (¬ GoodW b W m n nd sp g ∧ r = (0, mg 4625 I' J R))) ∧ FrK Fmm I I') := by
  have m300 := hW.1
  have wok : ∀ w, w ∈ vis W g m 0 → WOK w.2 := fun w hw => by
    have wm := vis_mem _ _ _ hw
    rw [wm.2.2]
    exact (hW.2.2 w.1 (by omega)).2.2.2.2
  have kF : ∀ x k, SMp x k → Fmm x k := fun x k y => by
    unfold SMp at y
    unfold Fmm Fmk
    omega
  unfold f_X12_makes
  rw [if_pos ok_4561]
  refine q_bind (M_parse hR hM hT hW hn) ?_
  rintro _ ⟨I1, rfl, hF1, gA⟩
  dsimp only
  have no : ¬ (acc (run b (vis W g m 0) st0)).isSome = true → ¬ GoodW b W m n nd sp g := fun ok => by
    rintro ⟨ln', z1, -⟩
    rw [z1] at ok
    exact ok rfl
  cases hr : run b (vis W g m 0) st0 with
  | inl y =>
    obtain ⟨w, sx⟩ := y
    have wm := vis_mem _ _ _ (run_mem (vis W g m 0).length _ _ _ _ (Nat.le_refl _) hr)
    rw [show resM m (.inl (w, sx)) = (Int32.ofNat (w.1)) from rfl, if_neg (i32_m1 (by omega))]
    exact q_ok ⟨I1, Or.inr ⟨no (by rw [hr]; exact (by decide : ¬ false = true)), rfl⟩, FrK_mono hF1 kF⟩
  | inr sx =>
    by_cases ok : (acc (.inr sx : Wi × PS ⊕ PS)).isSome = true
    · rw [show resM m (.inr sx) = -1 from if_pos ok, if_pos rfl, if_pos ok_4561]
      obtain ⟨ln, hln⟩ := Option.isSome_iff_exists.mp ok
      rw [← hr] at hln
      obtain ⟨nd', sp', hw', hx, hl80⟩ := acc_tree wok hn hln
      obtain ⟨bs, b1, b2⟩ := gA ln hln
      obtain ⟨d1, d2, d3⟩ := b2.2.2.2.2
      have hd : ∀ x, x < ln.length → I1 4584 (pl sp' x) = (nd' x).1 ∧ I1 4585 (pl sp' x) = (nd' x).2.1 ∧ I1 4586 (pl sp' x) = (nd' x).2.2.1 ∧ I1 4587 (pl sp' x) = (Int32.ofNat (aro nd' x)) ∧ aro nd' x ≤ 4 ∧ I1 4588 (pl sp' x) = (Int32.ofNat (sp' x)) := fun x hx' => by
        obtain ⟨y1, y2, y3, y4, y5, y6⟩ := d3 (pl sp' x) (pl_lt hw' hx')
        obtain ⟨z1, z2, -⟩ := hx x hx'
        rw [z1] at y1 y2 y3 y4 y5
        rw [z2] at y6
        exact ⟨y1, y2, y3, y4, y5, y6⟩
      refine q_bind (M_lay (a := 13440) hR d2 hw' hl80 (by omega) hd) ?_
      rintro _ ⟨I2, rfl, hF2, hT2⟩
      have hF : FrK Fmm I I2 := FrK_tr (FrK_mono hF1 kF) (FrK_mono hF2 (fun x k y => by unfold MLy at y; unfold Fmm Fmk; omega))
      have hA2 : MT I2 a n nd sp := MT_keep hA (fun x k y1 y2 y3 y4 => hF x k (by unfold Fmm Fmk; omega))
      dsimp only
      have sm := M_areSame (J := J) (i := 0) (j := 0) hR hT2 hA2 hw'.1 hA2.2.1.1
      rw [Nat.add_zero, Nat.add_zero] at sm
      rw [if_pos ok_4561, show (13440 : Int32) = (Int32.ofNat (13440)) from rfl, sm, Option.bind_some, hw'.2.2.1, hA2.2.1.2.2.1]
      by_cases z : ln.length = n ∧ ∀ k, k < ln.length → nd' (0 + k) = nd (0 + k)
      · rw [if_pos z, q_xz1]
        refine q_ok ⟨I2, Or.inl ⟨⟨ln, hln, z.1.symm, fun x hx' => ?_⟩, rfl⟩, hF⟩
        obtain ⟨z1, z2⟩ := z
        have e : ∀ k, k < n → nd' k = nd k := fun k hk => by
          have := z2 k (by omega)
          rwa [Nat.zero_add] at this
        rw [z1] at hw' hx
        have u := (WT_uniq hA.2.1 (WT_congr hw' (fun i hi => by unfold aro; rw [e i hi]))).2
        rw [pl_cg (fun j hj => u j (by omega)), (hx x hx').1, e x hx']
      · rw [if_neg z, q_xz0]
        refine q_ok ⟨I2, Or.inr ⟨?_, rfl⟩, hF⟩
        rintro ⟨ln', z1, z2, z3⟩
        rw [hln] at z1
        have el : ln' = ln := (Option.some.inj z1).symm
        rw [el] at z2 z3
        refine z ⟨z2.symm, fun k hk => ?_⟩
        rw [Nat.zero_add]
        have := line_uniq (J := J) hR h80 hA.2.1 (z2.symm ▸ hw') (fun x hx' => (hA.1.2 x hx').2.2.2.2) (ln := lnF ln) (fun x hx' => (z3 x hx').symm) (fun x hx' => (hx x (by omega)).1) k (by omega)
        exact this.symm
    · rw [show resM m (.inr sx) = (Int32.ofNat (m)) from if_neg ok, if_neg (i32_m1 (by omega))]
      exact q_ok ⟨I1, Or.inr ⟨no (by rw [hr]; exact ok), rfl⟩, FrK_mono hF1 kF⟩
theorem M_setGone {j c : Nat} {v : Bool} (hR : RA R) (hW : MWd I m W P g) (hj : j < m) (hc : c < m) (he : I 4582 j = (Int32.ofNat (c))) : QK (f_X12_setGone (mg 4625 I J R) 4561 (Int32.ofNat (j)) (if v = true then 1 else 0)) (fun r => ∃ I', r = mg 4625 I' J R ∧ FrK (fun a _ => a = 4583) I I' ∧ MWd I' m W P (hs j c v g)) := by
  have m300 := hW.1
  have v01 : ((if v = true then (1 : Int32) else 0) == 0 || (if v = true then (1 : Int32) else 0) == 1) = true := by cases v <;> rfl
  unfold f_X12_setGone
  rw [gr_4561_24 hR, gz_4583 (by omega) v01, gr_4561_24 hR, gr_4561_23 hR, ga_4582 (by omega), up_n (by omega), he, gz_4583 (by omega) v01]
  refine q_ok ⟨_, rfl, fun x k y => ?_, m300, ?_, fun i hi => ?_⟩
  · have y : x ≠ 4583 := y
    rw [up_n (by omega), up_n (by omega)]
  · rw [up_n (by omega), up_n (by omega)]
    exact hW.2.1
  · obtain ⟨y1, y2, y3, y4, y5⟩ := hW.2.2 i hi
    rw [up_n (by omega), up_n (by omega), up_n (by omega), up_n (by omega), up_n (by omega), up_n (by omega)]
    refine ⟨y1, y2, y3, ?_, y5⟩
    unfold hs
    by_cases q : i = c
    · rw [q, up_s, if_pos (Or.inr rfl)]
    · rw [up_n (by omega)]
      by_cases q2 : i = j
      · rw [q2, up_s, if_pos (Or.inl rfl)]
      · rw [up_n (by omega), if_neg (show ¬ (i = j ∨ i = c) from fun z => z.elim q2 q)]
        exact y4
theorem M_fewestLoop (hR : RA R) (hM : MTb I b) (hT : TbOK b) (hW : MWd I m W P (fun _ => false)) (hn : nws (vis W (fun _ => false) m 0) ≤ 80) (hA : MT I a n nd sp) (h80 : n ≤ 80) (ha : a + n ≤ 13440) (hp : ∀ j, j < m → I 4582 j = if P2 j = 0 then -1 else (Int32.ofNat (P2 j))) (hP : ∀ j, j < m → (P2 j = 0 ∧ ¬ opn W j) ∨ prd W m j (P2 j)) : QK (xloop f_X12_fewest_s7 xF (4561, (Int32.ofNat (a)), 0, mg 4625 I J R)) (fun r => ∃ I', r = .inr (mg 4625 I' J R) ∧ FrK Fmk I I' ∧ MWd I' m W P (hdn (GoodW b W m n nd sp) P2 m)) := by
  have m300 := hW.1
  refine q_for m (fun j s => ∃ I', s = (4561, (Int32.ofNat (a)), (Int32.ofNat (j)), mg 4625 I' J R) ∧ FrK Fmk I I' ∧ MWd I' m W P (hdn (GoodW b W m n nd sp) P2 j)) ?_ ?_ (i := 0) ⟨I, rfl, FrK_rfl, hW⟩ (Nat.zero_le _) (by unfold xF; omega)
  · rintro j s hj ⟨I1, rfl, hF1, hW1⟩
    show QK _ (qS (fun s => ∃ I', s = (4561, (Int32.ofNat (a)), (Int32.ofNat (j + 1)), mg 4625 I' J R) ∧ FrK Fmk I I' ∧ MWd I' m W P (stp (GoodW b W m n nd sp) P2 j (hdn (GoodW b W m n nd sp) P2 j))) _)
    generalize hdn (GoodW b W m n nd sp) P2 j = g at *
    have pr : ∀ I', FrK Fmk I I' → I' 4582 j = if P2 j = 0 then -1 else (Int32.ofNat (P2 j)) := fun I' hF => by
      rw [hF _ _ (by unfold Fmk; omega)]
      exact hp j hj
    unfold f_X12_fewest_s7 f_X12_fewest_j45
    dsimp only
    rw [q_let, q_let, q_let, q_let, gi_4561, hW1.2.1, if_neg (show ¬ (Int32.ofNat (m)) ≤ (Int32.ofNat (j)) from fun y => absurd ((i32_le (by omega) (by omega)).mp y) (by omega)), gr_4561_23 hR, ga_4582 (by omega), pr I1 hF1]
    unfold stp
    rcases hP j hj with ⟨p0, p1⟩ | pp
    · rw [if_pos p0, if_pos rfl, q_let, show (Int32.ofNat (j)) + (1 : Int32) = (Int32.ofNat (j + 1)) from n_add j 1]
      exact q_go ⟨I1, rfl, hF1, by rw [if_pos p0]; exact hW1⟩
    · have pc := pp.2.2.1
      have pj := pp.2.1
      have pz : ¬ P2 j = 0 := by omega
      rw [if_neg pz, if_neg (i32_m1 (by omega)), if_pos ok_4561, if_neg pz]
      have g583 : ∀ x k, x = 4583 → Fmk x k := fun x k y => by unfold Fmk; omega
      refine q_bind (M_setGone (v := true) hR hW1 hj pc (by rw [pr I1 hF1, if_neg pz])) ?_
      rintro _ ⟨I2, rfl, hF2, hW2⟩
      have hF2' : FrK Fmk I I2 := FrK_tr hF1 (FrK_mono hF2 g583)
      rw [if_pos ok_4561]
      refine q_bind (M_makes (a := a) (n := n) (nd := nd) (sp := sp) hR (MTb_keep hM (fun x k y => hF2' x k (by unfold Fmk; omega))) hT hW2 (Nat.le_trans (vis_nws (k := 0) _ _) hn) (MT_keep hA (fun x k y1 y2 y3 y4 => hF2' x k (by unfold Fmk; omega))) h80 ha) ?_
      rintro _ ⟨I3, hr, hF3⟩
      have hF3' : FrK Fmk I I3 := FrK_tr hF2' (Fmm_up hF3)
      have hW3 : MWd I3 m W P (hs j (P2 j) true g) := MWd_keep hW2 (fun x k y => hF3 x k (by unfold Fmm Fmk; omega))
      rcases hr with ⟨gd, rfl⟩ | ⟨gd, rfl⟩
      · dsimp only
        rw [if_pos gd, if_neg (by decide), q_let, show (Int32.ofNat (j)) + (1 : Int32) = (Int32.ofNat (j + 1)) from n_add j 1]
        exact q_go ⟨I3, rfl, hF3', hW3⟩
      · dsimp only
        rw [if_neg gd, if_pos rfl, if_pos ok_4561]
        refine q_bind (M_setGone (v := false) hR hW3 hj pc (by rw [pr I3 hF3', if_neg pz])) ?_
        rintro _ ⟨I4, rfl, hF4, hW4⟩
        rw [hs_hs] at hW4
        rw [q_let, show (Int32.ofNat (j)) + (1 : Int32) = (Int32.ofNat (j + 1)) from n_add j 1]
        exact q_go ⟨I4, rfl, FrK_tr hF3' (FrK_mono hF4 g583), hW4⟩
  · rintro s ⟨I1, rfl, hF1, hW1⟩
    unfold f_X12_fewest_s7
    dsimp only
    rw [q_let, q_let, q_let, q_let, gi_4561, hW1.2.1, if_pos (show (Int32.ofNat (m)) ≤ (Int32.ofNat (m)) from Int32.le_refl _)]
    exact q_ex ⟨I1, rfl, hF1, hW1⟩
end MHD
