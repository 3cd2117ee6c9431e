/-! the brackets that are printed are all needed -/
section AUP1
variable {b : GB} {T : SW} {n : Nat} {nd : Nat → Nd} {sp : Nat → Nat}
theorem HG_Hh {W : Nat → Wd} {m J : Nat} {g : Nat → Bool} (h : HG W m J g) : Hh W m g := fun k hk => by
  obtain ⟨j, c, -, p, e, -, -⟩ := h k hk
  rcases e with rfl | rfl
  · exact ⟨by have := p.2.1; have := p.2.2.1; omega, Or.inr p.1⟩
  · exact ⟨p.2.2.1, Or.inl p.2.2.2.1⟩
/-- a pair more that is hidden, before others -/
theorem HG_hs {W : Nat → Wd} {m J k c : Nat} {g : Nat → Bool} (h : HG W m J g) (hp : prd W m k c) (hk : k < J) : HG W m J (hs k c true g) := fun i hi => by
  by_cases e : i = k ∨ i = c
  · exact ⟨k, c, hk, hp, e, if_pos (Or.inl rfl), if_pos (Or.inr rfl)⟩
  · have e2 : hs k c true g i = g i := if_neg e
    rw [e2] at hi
    obtain ⟨j', c', a1, a2, a3, a4, a5⟩ := h i hi
    refine ⟨j', c', a1, a2, a3, ?_, ?_⟩
    · unfold hs
      split
      · rfl
      · exact a4
    · unfold hs
      split
      · rfl
      · exact a5
theorem aup_one (hO : TbOK b) (h : WT n (aro nd) sp) (h200 : n ≤ 200) (hn : ∀ i, i < n → NV b (nd i)) (eT : T = spl nd sp 200 0 S0) {k : Nat} (hk : k < T.1.length) : ¬ badM b (wF T.1) T.2 (hidT b n nd sp) T.1.length n nd sp k := by
  rintro ⟨q0, q1, q2⟩
  have hP := (spl_pairs h hn (f := 200) (by omega)).1
  have G0 := good0 hO h h200 hn
  unfold hidT at q1 q2
  rw [← eT] at hP G0 q1 q2
  have pk : prd (wF T.1) T.1.length k (T.2 k) := by
    rcases hP k hk with y | y
    · exact absurd y.1 q0
    · exact y
  have st := fun d => hdn_stays (G := GoodW b (wF T.1) T.1.length n nd sp) hP pk.1 d
  have kc := pk.2.1
  have cm := pk.2.2.1
  -- when it was tried it failed
  have tried : ¬ GoodW b (wF T.1) T.1.length n nd sp (hs k (T.2 k) true (hdn (GoodW b (wF T.1) T.1.length n nd sp) T.2 k)) := fun y => by
    have e := st (T.1.length - (k + 1)) (by omega)
    rw [show k + 1 + (T.1.length - (k + 1)) = T.1.length by omega, q1] at e
    have e : false = stp _ T.2 k (hdn (GoodW b (wF T.1) T.1.length n nd sp) T.2 k) k := e
    unfold stp at e
    rw [if_neg q0, if_pos y] at e
    have e2 : hs k (T.2 k) true (hdn (GoodW b (wF T.1) T.1.length n nd sp) T.2 k) k = true := if_pos (Or.inl rfl)
    rw [e2] at e
    cases e
  -- back from the end to there
  have back : ∀ d, k + 1 + d ≤ T.1.length → GoodW b (wF T.1) T.1.length n nd sp (hs k (T.2 k) true (hdn (GoodW b (wF T.1) T.1.length n nd sp) T.2 (k + 1 + d))) → GoodW b (wF T.1) T.1.length n nd sp (hs k (T.2 k) true (hdn (GoodW b (wF T.1) T.1.length n nd sp) T.2 (k + 1))) := by
    intro d
    induction d with
    | zero => intro _ y; exact y
    | succ d ih =>
      intro hd y
      refine ih (by omega) ?_
      have hJ : k + 1 + d < T.1.length := by omega
      have kj : k < k + 1 + d := by omega
      have g1 := (HG_hdn hP G0 (k + 1 + d) (by omega)).1
      have g2 := (HG_hdn hP G0 (k + 1 + d + 1) (by omega)).1
      have y : GoodW b (wF T.1) T.1.length n nd sp (hs k (T.2 k) true (hdn (GoodW b (wF T.1) T.1.length n nd sp) T.2 (k + 1 + d + 1))) := y
      have es : hdn (GoodW b (wF T.1) T.1.length n nd sp) T.2 (k + 1 + d + 1) = stp (GoodW b (wF T.1) T.1.length n nd sp) T.2 (k + 1 + d) (hdn (GoodW b (wF T.1) T.1.length n nd sp) T.2 (k + 1 + d)) := rfl
      generalize hdn (GoodW b (wF T.1) T.1.length n nd sp) T.2 (k + 1 + d + 1) = gn at *
      generalize hdn (GoodW b (wF T.1) T.1.length n nd sp) T.2 (k + 1 + d) = g at *
      generalize k + 1 + d = j at *
      unfold stp at es
      by_cases z : T.2 j = 0
      · rw [if_pos z] at es
        rw [← es]
        exact y
      rw [if_neg z] at es
      have pj : prd (wF T.1) T.1.length j (T.2 j) := by
        rcases hP j hJ with w | w
        · exact absurd w.1 z
        · exact w
      have nw := HG_new g1 pj
      by_cases gd : GoodW b (wF T.1) T.1.length n nd sp (hs j (T.2 j) true g)
      · rw [if_pos gd] at es
        subst es
        have hh := HG_hs g2 pk (by omega)
        have jk : k ≠ j := by omega
        have ne1 := mt_kind (prd_mt pk) (prd_mt pj)
        have ne2 := mt_kind (prd_mt pj) (prd_mt pk)
        have ne3 : T.2 k ≠ T.2 j := fun w => jk (mt_j (prd_mt pk) (by rw [w]; exact prd_mt pj))
        have hin : hs k (T.2 k) true (hs j (T.2 j) true g) j = true := by
          unfold hs
          split
          · rfl
          · rw [if_pos (Or.inl rfl)]
        have hout : hs k (T.2 k) true (hs j (T.2 j) true g) (T.2 j) = true := by
          unfold hs
          split
          · rfl
          · rw [if_pos (Or.inr rfl)]
        have r := unhide hO h h200 hn eT (HG_Hh hh) pj hin hout (fun i i1 i2 => bF (fun w => by
          obtain ⟨j', c', a1, a2, a3, -, -⟩ := hh i w
          rcases Nat.lt_or_ge j' j with w1 | w1
          · have := mt_nest (prd_mt pj) (prd_mt a2) w1
            omega
          · have e : j' = j := by omega
            subst e
            have := mt_c (prd_mt pj) (prd_mt a2)
            omega)) y
        have ef : hs j (T.2 j) false (hs k (T.2 k) true (hs j (T.2 j) true g)) = hs k (T.2 k) true g := by
          funext i
          unfold hs
          by_cases w : i = j ∨ i = T.2 j
          · rw [if_pos w]
            have w2 : ¬ (i = k ∨ i = T.2 k) := fun w2 => by
              rcases w with rfl | rfl
              · rcases w2 with w2 | w2
                · exact jk w2.symm
                · exact ne2 w2
              · rcases w2 with w2 | w2
                · exact ne1 w2.symm
                · exact ne3 w2.symm
            rw [if_neg w2]
            rcases w with rfl | rfl
            · exact nw.1.symm
            · exact nw.2.symm
          · rw [if_neg w, if_neg w]
        rw [ef] at r
        exact r
      · rw [if_neg gd, hs_same nw.1 nw.2] at es
        rw [← es]
        exact y
  have b1 := back (T.1.length - (k + 1)) (by omega) (by rw [show k + 1 + (T.1.length - (k + 1)) = T.1.length by omega]; exact q2)
  have es : hdn (GoodW b (wF T.1) T.1.length n nd sp) T.2 (k + 1) = stp (GoodW b (wF T.1) T.1.length n nd sp) T.2 k (hdn (GoodW b (wF T.1) T.1.length n nd sp) T.2 k) := rfl
  have nw := HG_new (HG_hdn hP G0 k (by omega)).1 pk
  unfold stp at es
  rw [if_neg q0, if_neg tried, hs_same nw.1 nw.2] at es
  rw [es] at b1
  exact tried b1
theorem auP_1 {TT : Tt} (hO : TbOK b) (hT : TtO b TT) (h200 : TT.1 ≤ 200) : auP b TT = 1 := ndB_f (fun ⟨k, hk, y⟩ => aup_one hO hT.1 h200 hT.2 rfl hk y)
end AUP1
