/-! the class's reader: its rows, and what one word does -/
theorem sgc_ok : ∀ p, p < 16 → sgc p < 128 ∧ plc (sgc p) = (Int32.ofNat (p)) := by decide +kernel
def wvI (w : Wd) : Int32 := if w.1 = 3 then (Int32.ofNat (sgc w.2)) else (Int32.ofNat (w.2))
def CWd (I : Nat → Nat → Int32) (m : Nat) (W : Nat → Wd) (P : Nat → Nat) (g : Nat → Bool) : Prop := m ≤ 300 ∧ I 540 5 = (Int32.ofNat (m)) ∧ ∀ i, i < m → I 541 i = (Int32.ofNat ((W i).1)) ∧ I 542 i = wvI (W i) ∧ I 543 i = (Int32.ofNat (P i)) ∧ I 544 i = (if g i = true then 1 else 0) ∧ WOK (W i) ∧ P i < 65536
def CHd (I : Nat → Nat → Int32) (j : Nat) (h : Hd) : Prop := I 545 j = (if h.1 = 0 then (Int32.ofNat (4)) else if h.1 = 1 then (Int32.ofNat (2)) else (Int32.ofNat (3))) ∧ (h.1 ≠ 0 → I 546 j = if h.1 = 1 then (Int32.ofNat (h.2.1)) else (Int32.ofNat (sgc h.2.1))) ∧ I 547 j = (if h.1 = 2 then (Int32.ofNat (0)) else if h.1 = 3 then (Int32.ofNat (2)) else -1) ∧ I 548 j = (Int32.ofNat (h.2.2.1)) ∧ I 549 j = (Int32.ofNat (h.2.2.2))
def CHl (I : Nat → Nat → Int32) : List Hd → Prop
  | [] => True
  | h :: hs => CHd I hs.length h ∧ CHl I hs
def CBl (I : Nat → Nat → Int32) : List Oe → Prop
  | [] => True
  | o :: bs => I 550 bs.length = (Int32.ofNat (o.1)) ∧ CBl I bs
def lnF : List Ln → Nat → Nd
  | [] => fun _ => (0, 0, 0, 0)
  | x :: l => ext (lnF l) l.length x.1
theorem CHl_keep {I I' : Nat → Nat → Int32} : ∀ {l : List Hd}, CHl I l → (∀ a k, 545 ≤ a → a ≤ 549 → k < l.length → I' a k = I a k) → CHl I' l := by
  intro l
  induction l with
  | nil => intro _ _; trivial
  | cons h hs ih =>
    intro H e
    refine ⟨?_, ih H.2 (fun a k h1 h2 h3 => e a k h1 h2 (by rw [List.length_cons]; omega))⟩
    unfold CHd
    have hl : hs.length < (h :: hs).length := by rw [List.length_cons]; omega
    rw [e 545 _ (by omega) (by omega) hl, e 546 _ (by omega) (by omega) hl, e 547 _ (by omega) (by omega) hl, e 548 _ (by omega) (by omega) hl, e 549 _ (by omega) (by omega) hl]
    exact H.1
theorem CBl_keep {I I' : Nat → Nat → Int32} : ∀ {l : List Oe}, CBl I l → (∀ k, k < l.length → I' 550 k = I 550 k) → CBl I' l := by
  intro l
  induction l with
  | nil => intro _ _; trivial
  | cons h hs ih =>
    intro H e
    exact ⟨(e _ (by rw [List.length_cons]; omega)).trans H.1, ih H.2 (fun k h3 => e k (by rw [List.length_cons]; omega))⟩
theorem CBl_drop {I : Nat → Nat → Int32} : ∀ {l : List Oe} (k : Nat), CBl I l → CBl I (l.drop k) := by
  intro l
  induction l with
  | nil => intro k _; rw [List.drop_nil]; trivial
  | cons h hs ih =>
    intro k H
    cases k with
    | zero => exact H
    | succ k => exact ih k H.2
def SH : Nat → Nat → Prop := fun a k => (a = 540 ∧ (k = 14 ∨ k = 16)) ∨ (545 ≤ a ∧ a ≤ 558)
def SRd : Nat → Nat → Prop := fun a k => (a = 540 ∧ (k = 7 ∨ k = 8 ∨ k = 14 ∨ k = 16)) ∨ (545 ≤ a ∧ a ≤ 558)
/-- what the reader holds -/
def CH3 (I : Nat → Nat → Int32) (H : List Hd) (bs : List Oe) (ln : List Ln) : Prop := CHl I H ∧ I 540 14 = (Int32.ofNat (H.length)) ∧ CBl I bs ∧ I 540 16 = (Int32.ofNat (bs.length)) ∧ CN I 551 ln.length (lnF ln)
def CPS (I : Nat → Nat → Int32) (st : PS) : Prop := CH3 I st.1 st.2.1 st.2.2.1 ∧ I 540 8 = (if st.2.2.2 = true then 1 else 0)
theorem isTr_551 : isTr 551 := ⟨by omega, by omega, by decide +kernel, by decide +kernel⟩
theorem CWd_keep {I I' : Nat → Nat → Int32} {m : Nat} {W : Nat → Wd} {P : Nat → Nat} {g : Nat → Bool} (H : CWd I m W P g) (e : ∀ a k, (a = 540 ∧ k = 5) ∨ (541 ≤ a ∧ a ≤ 544) → I' a k = I a k) : CWd I' m W P g := by
  refine ⟨H.1, (e _ _ (by omega)).trans H.2.1, fun i hi => ?_⟩
  rw [e 541 _ (by omega), e 542 _ (by omega), e 543 _ (by omega), e 544 _ (by omega)]
  exact H.2.2 i hi
section RD
variable {I : Nat → Nat → Int32} {J : Nat → Nat → Int64} {R : Nat → Nat → Option Nat} {b : GB} {β : Type} {m : Nat} {W : Nat → Wd} {P : Nat → Nat} {g : Nat → Bool}
theorem gsz_540 {k : Nat} {v : Int32} {F : xM → Option β} (hv : (v == 0 || v == 1) = true) : (sZ (mg (4562 + zn J) I J R) 540 6 k v).bind F = F (mg (4562 + zn J) (up I 540 k v) J R) := by
  rw [osZ_540, if_pos hv]
  rfl
theorem C_rank {p fx : Nat} {F : Int32 → Option β} (hR : RA R) (hC : CTb I b) (hT : TbOK b) (hp : p < 16) (hf : fx ≤ 2) : (f_X1_rank (mg (4562 + zn J) I J R) 11 (Int32.ofNat (sgc p)) (Int32.ofNat (fx))).bind F = F (Int32.ofNat (rkN b p fx)) := by
  have h := sgc_ok p hp
  rw [c_rank1 hR (show fx * 16 + p < 48 by omega) (c_slot1 hR hC.1 h.1 h.2 hp hf), ← (rk_i hT hp (by omega)).1, ← hC.2 (fx * 16 + p) (by omega)]
  rfl
theorem C_side {p : Nat} {F : Int32 → Option β} (hR : RA R) (hC : CTb I b) (hT : TbOK b) (hp : p < 16) (h0 : rkN b p 2 ≠ 0) : (f_X1_side (mg (4562 + zn J) I J R) 11 (Int32.ofNat (sgc p)) (Int32.ofNat (2))).bind F = F (Int32.ofNat (sdN b p)) := by
  have h := sgc_ok p hp
  rw [c_side1 hR (show 2 * 16 + p < 48 by omega) (c_slot1 hR hC.1 h.1 h.2 hp (show 2 ≤ 2 by decide)), ← (sd_i hT hp h0).1, ← hC.2 (32 + p) (by omega)]
  rfl
theorem C_push {n : Nat} {v : Int32} {F : Int32 × xM → Option β} (hR : RA R) (h16 : I 540 16 = (Int32.ofNat (n))) (hn : n < 300) : (f_X6_pushOperand (mg (4562 + zn J) I J R) 540 v).bind F = F (1, mg (4562 + zn J) (up (up I 550 n v) 540 16 (Int32.ofNat (n + 1))) J R) := by
  unfold f_X6_pushOperand
  rw [gi_540, h16, if_pos (show (Int32.ofNat (n)) < (300 : Int32) from (i32_lt (m := 300) (by omega) (by omega)).mpr hn), gr_540_15 hR, gi_540, h16, gw_550 hn, gi_540, up_n (by omega), h16, show (Int32.ofNat (n)) + 1 = (Int32.ofNat (n + 1)) from n_add n 1, gs_540]
  rfl
theorem C_hold {n : Nat} {k v f l w : Int32} {F : Int32 × xM → Option β} (hR : RA R) (h14 : I 540 14 = (Int32.ofNat (n))) (hn : n < 300) : (f_X6_hold (mg (4562 + zn J) I J R) 540 k v f l w).bind F = F (1, mg (4562 + zn J) (up (up (up (up (up (up I 545 n k) 546 n v) 547 n f) 548 n l) 549 n w) 540 14 (Int32.ofNat (n + 1))) J R) := by
  unfold f_X6_hold
  rw [gi_540, h14, if_pos (show (Int32.ofNat (n)) < (300 : Int32) from (i32_lt (m := 300) (by omega) (by omega)).mpr hn), gr_540_9 hR, gi_540, h14, gw_545 hn, gr_540_10 hR, gi_540, up_n (by omega), h14, gw_546 hn, gr_540_11 hR, gi_540, up_n (by omega), up_n (by omega), h14, gw_547 hn, gr_540_12 hR, gi_540, up_n (by omega), up_n (by omega), up_n (by omega), h14, gw_548 hn, gr_540_13 hR, gi_540, up_n (by omega), up_n (by omega), up_n (by omega), up_n (by omega), h14, gw_549 hn, gi_540, up_n (by omega), up_n (by omega), up_n (by omega), up_n (by omega), up_n (by omega), h14, show (Int32.ofNat (n)) + 1 = (Int32.ofNat (n + 1)) from n_add n 1, gs_540]
  rfl
theorem CH3_hold {H : List Hd} {bs : List Oe} {ln : List Ln} {k v f l w : Int32} {h : Hd} (hh : CH3 I H bs ln) (e1 : k = (if h.1 = 0 then (Int32.ofNat (4)) else if h.1 = 1 then (Int32.ofNat (2)) else (Int32.ofNat (3)))) (e2 : h.1 ≠ 0 → v = if h.1 = 1 then (Int32.ofNat (h.2.1)) else (Int32.ofNat (sgc h.2.1))) (e3 : f = (if h.1 = 2 then (Int32.ofNat (0)) else if h.1 = 3 then (Int32.ofNat (2)) else -1)) (e4 : l = (Int32.ofNat (h.2.2.1))) (e5 : w = (Int32.ofNat (h.2.2.2))) : CH3 (up (up (up (up (up (up I 545 H.length k) 546 H.length v) 547 H.length f) 548 H.length l) 549 H.length w) 540 14 (Int32.ofNat (H.length + 1))) (h :: H) bs ln := by
  obtain ⟨h1, h2, h3, h4, h5⟩ := hh
  generalize hI : (up (up (up (up (up (up I 545 H.length k) 546 H.length v) 547 H.length f) 548 H.length l) 549 H.length w) 540 14 (Int32.ofNat (H.length + 1))) = I'
  have go : ∀ a j, ¬ (a = 540 ∧ j = 14) → ¬ (545 ≤ a ∧ a ≤ 549 ∧ j = H.length) → I' a j = I a j := fun a j g1 g2 => by
    rw [← hI, up_n (by omega), up_n (by omega), up_n (by omega), up_n (by omega), up_n (by omega), up_n (by omega)]
  refine ⟨⟨⟨?_, fun z => ?_, ?_, ?_, ?_⟩, CHl_keep h1 (fun a j g1 g2 g3 => go a j (by omega) (by omega))⟩, ?_, CBl_keep h3 (fun j _ => go _ _ (by omega) (by omega)), (go _ _ (by omega) (by omega)).trans h4, CN_keep h5 (fun x g1 g2 => funext (fun j => go x j (by omega) (by omega)))⟩
  · rw [← hI, up_n (by omega), up_n (by omega), up_n (by omega), up_n (by omega), up_n (by omega), up_s, e1]
  · rw [← hI, up_n (by omega), up_n (by omega), up_n (by omega), up_n (by omega), up_s, e2 z]
  · rw [← hI, up_n (by omega), up_n (by omega), up_n (by omega), up_s, e3]
  · rw [← hI, up_n (by omega), up_n (by omega), up_s, e4]
  · rw [← hI, up_n (by omega), up_s, e5]
  · rw [← hI, up_s]
    rfl
theorem CH3_push {H : List Hd} {bs : List Oe} {ln : List Ln} {o : Oe} {n : Nat} {v : Int32} {I0 : Nat → Nat → Int32} (h1 : CHl I H) (h2 : I 540 14 = (Int32.ofNat (H.length))) (h3 : CBl I bs) (hn : n = bs.length) (h5 : CN I 551 ln.length (lnF ln)) (hv : v = (Int32.ofNat (o.1))) (hI : I0 = up (up I 550 n v) 540 16 (Int32.ofNat (n + 1))) : CH3 I0 H (o :: bs) ln := by
  subst hn hI
  refine ⟨CHl_keep h1 (fun a j g1 g2 g3 => by rw [up_n (by omega), up_n (by omega)]), by rw [up_n (by omega), up_n (by omega)]; exact h2, ⟨by rw [up_n (by omega), up_s, hv], CBl_keep h3 (fun j hj => by rw [up_n (by omega), up_n (by omega)])⟩, up_s, CN_keep h5 (fun x g1 g2 => by rw [up_r (by omega), up_r (by omega)])⟩
theorem n_max0 {a b : Nat} (ha : a < 2147483648) (hb : b < 2147483648) : (if (Int32.ofNat (a)) - (Int32.ofNat (b)) < 0 then (0 : Int32) else (Int32.ofNat (a)) - (Int32.ofNat (b))) = (Int32.ofNat (a - b)) := by
  by_cases h : b ≤ a
  · rw [n_sub h, if_neg (i32_nlt0 (by omega))]
  · have e : (Int32.ofNat (a)) - (Int32.ofNat (b)) < 0 := by
      rw [Int32.lt_iff_toInt_lt, Int32.toInt_sub, i32_toInt ha, i32_toInt hb, show (0 : Int32).toInt = 0 from rfl, show ((a : Int) - (b : Int)).bmod (2 ^ 32) = (a : Int) - b from Int.bmod_eq_of_le (by omega) (by omega)]
      omega
    rw [if_pos e, show a - b = 0 by omega]
    rfl
theorem lnF_cons {x : Ln} {l : List Ln} : ext (lnF l) l.length x.1 = lnF (x :: l) := rfl
/-- operators that are on top end -/
theorem C_reduce {H : List Hd} {bs : List Oe} {ln : List Ln} {least : Nat} (hR : RA R) (hh : CH3 I H bs ln) (hH : HOK b H) (c1 : H.length + bs.length ≤ 300) (c2 : ln.length + wgt H ≤ 80) (hl : least ≤ 9) (hT : TbOK b) : QK (f_X6_reduce (mg (4562 + zn J) I J R) 540 (Int32.ofNat (least))) (fun r => ∃ I', r = mg (4562 + zn J) I' J R ∧ FrK SH I I' ∧ CH3 I' (red least H bs ln).1 (red least H bs ln).2.1 (red least H bs ln).2.2) := by
  unfold f_X6_reduce
  rw [gi_540, hh.2.1, q_let]
  refine q_bind (P := fun r => ∃ I', r = .inr (mg (4562 + zn J) I' J R) ∧ FrK SH I I' ∧ CH3 I' (red least H bs ln).1 (red least H bs ln).2.1 (red least H bs ln).2.2) ?_ ?_
  · refine q_loop (fun k s => ∃ I1 H1 bs1 ln1, s = (540, (Int32.ofNat (least)), (Int32.ofNat (H1.length)) - 1, mg (4562 + zn J) I1 J R) ∧ H1.length = k ∧ FrK SH I I1 ∧ CH3 I1 H1 bs1 ln1 ∧ HOK b H1 ∧ H1.length + bs1.length ≤ 300 ∧ ln1.length + wgt H1 ≤ 80 ∧ red least H1 bs1 ln1 = red least H bs ln) ?_ (m := H.length) ⟨I, H, bs, ln, rfl, rfl, FrK_rfl, hh, hH, c1, c2, rfl⟩ (by unfold xF; omega)
    rintro k s ⟨I1, H1, bs1, ln1, rfl, rfl, hF, hh1, hH1, d1, d2, er⟩
    unfold f_X6_reduce_s7
    dsimp only
    rw [q_let, q_let, q_let, q_let]
    rcases H1 with _ | ⟨h, hs⟩
    · rw [if_pos (show (Int32.ofNat (([] : List Hd).length)) - 1 < (0 : Int32) by decide)]
      refine q_ex ⟨I1, rfl, hF, ?_⟩
      rw [← er]
      exact hh1
    · obtain ⟨⟨hd, h1⟩, h2, h3, h4, h5⟩ := hh1
      have hl1 : hs.length < 300 := by rw [List.length_cons] at d1; omega
      rw [List.length_cons, i32_pred, if_neg (i32_nlt0 (by omega)), gr_540_12 hR, ga_548 hl1, hd.2.2.2.1]
      have lv : h.2.2.1 < 11 := by
        rcases hH1.1 with z | z | z | z
        · rw [z.2]; decide
        · omega
        · have := (rk_i hT z.2.1 (show 0 < 3 by omega)).2
          omega
        · have := (rk_i hT z.2.1 (show 2 < 3 by omega)).2
          have := z.2.2.2.1
          split at this <;> omega
      by_cases q : least < h.2.2.1
      · obtain ⟨n1, n2, n3⟩ := need_tkn hH1 q
        have tk : 1 ≤ tkn h ∧ tkn h ≤ 2 := by
          unfold tkn
          split <;> omega
        have er' : red least hs ((h.2.2.2, szs (bs1.take (tkn h)) + 1) :: bs1.drop (tkn h)) ((hNd h, szs (bs1.take (tkn h)) + 1) :: ln1) = red least H bs ln := by
          rw [← er]
          conv => rhs; unfold red
          rw [if_pos q]
        rw [if_neg (show ¬ (Int32.ofNat (h.2.2.1)) ≤ (Int32.ofNat (least)) from fun y => absurd ((i32_le (by omega) (by omega)).mp y) (by omega)), gr_540_11 hR, ga_547 hl1, hd.2.2.1]
        have j36 : ∀ t f : Int32, t = (Int32.ofNat (tkn h)) → f = (Int32.ofNat (if h.1 = 3 then 2 else 0)) → I1 547 hs.length = f → QK (f_X6_reduce_j36 (mg (4562 + zn J) I1 J R) 540 (Int32.ofNat (least)) (Int32.ofNat (hs.length)) t) (qS (fun s' => ∃ m', m' < (h :: hs).length ∧ ∃ I1 H1 bs1 ln1, s' = (540, (Int32.ofNat (least)), (Int32.ofNat (H1.length)) - 1, mg (4562 + zn J) I1 J R) ∧ H1.length = m' ∧ FrK SH I I1 ∧ CH3 I1 H1 bs1 ln1 ∧ HOK b H1 ∧ H1.length + bs1.length ≤ 300 ∧ ln1.length + wgt H1 ≤ 80 ∧ red least H1 bs1 ln1 = red least H bs ln) (fun r => ∃ I', r = .inr (mg (4562 + zn J) I' J R) ∧ FrK SH I I' ∧ CH3 I' (red least H bs ln).1 (red least H bs ln).2.1 (red least H bs ln).2.2)) := by
          rintro t f rfl rfl ef
          unfold f_X6_reduce_j36
          have ev : I1 546 hs.length = (Int32.ofNat (sgc h.2.1)) := by
            rw [hd.2.1 (by omega), if_neg (by omega)]
          rw [gr_540_17 hR, gr_540_10 hR, ga_546 hl1, ev, gr_540_11 hR, ga_547 hl1, ef, if_pos (bT_xk isTr_551)]
          have har : tkn h = if (if h.1 = 3 then 2 else 0) = 2 then 2 else 1 := by
            unfold tkn
            split <;> rfl
          refine q_bind (T_add (r := tkn h) hR h5 (by rw [n2] at d2; omega) (by unfold tkn; split <;> omega)) ?_
          rintro _ ⟨I2, rfl, hF2, hN2⟩
          have f2 : ∀ a j, ¬ (551 ≤ a ∧ a < 556) → I2 a j = I1 a j := fun a j g => by rw [hF2 a g]
          rw [gi_540, f2 540 16 (by omega), h4, n_max0 (by rw [List.length_cons] at d1; omega) (by omega), gs_540, gr_540_13 hR, ga_549 hl1, up_n (by omega), f2 549 _ (by omega), hd.2.2.2.2, if_pos ok_540, C_push hR up_s (by rw [List.length_cons] at d1; omega), gs_540, q_let, show (Int32.ofNat (hs.length)) + (-1 : Int32) = (Int32.ofNat (hs.length)) - 1 from n_decm _]
          have ed : bs1.length - tkn h = (bs1.drop (tkn h)).length := by rw [List.length_drop]
          refine q_go ⟨hs.length, by rw [List.length_cons]; omega, _, hs, (h.2.2.2, szs (bs1.take (tkn h)) + 1) :: bs1.drop (tkn h), (hNd h, szs (bs1.take (tkn h)) + 1) :: ln1, rfl, rfl, ?_, ?_, hH1.2, ?_, ?_, er'⟩
          · intro a j g
            unfold SH at g
            rw [up_n (by omega), up_n (by omega), up_n (by omega), up_n (by omega), f2 a j (by omega)]
            exact hF a j (by unfold SH; exact g)
          · have k3 : CH3 (up (up (up I2 540 16 (Int32.ofNat (bs1.length - tkn h))) 550 (bs1.length - tkn h) (Int32.ofNat (h.2.2.2))) 540 16 (Int32.ofNat (bs1.length - tkn h + 1))) (h :: hs) ((h.2.2.2, szs (bs1.take (tkn h)) + 1) :: bs1.drop (tkn h)) ((hNd h, szs (bs1.take (tkn h)) + 1) :: ln1) := by
              refine CH3_push (I := up I2 540 16 (Int32.ofNat (bs1.length - tkn h))) (n := bs1.length - tkn h) (v := (Int32.ofNat (h.2.2.2))) ?_ ?_ ?_ ed ?_ rfl rfl
              · exact CHl_keep (l := h :: hs) ⟨hd, h1⟩ (fun a j g1 g2 g3 => by rw [up_n (by omega), f2 a j (by omega)])
              · rw [up_n (by omega), f2 540 14 (by omega)]
                exact h2
              · exact CBl_keep (CBl_drop _ h3) (fun j hj => by rw [up_n (by omega), f2 550 j (by omega)])
              · have hN3 : CN I2 551 ((hNd h, szs (bs1.take (tkn h)) + 1) :: ln1).length (lnF ((hNd h, szs (bs1.take (tkn h)) + 1) :: ln1)) := by
                  have e1 : hNd h = ((3 : Int32), (Int32.ofNat (sgc h.2.1)), (Int32.ofNat (if h.1 = 3 then 2 else 0)), tkn h) := by
                    unfold hNd opNd
                    rw [har]
                  have hN4 : CN I2 551 (ln1.length + 1) (ext (lnF ln1) ln1.length (hNd h)) := by
                    rw [e1]
                    exact hN2
                  exact hN4
                obtain ⟨y1, y2, y3, y4⟩ := hN3
                exact ⟨y1, by rw [up_n (by omega)]; exact y2, y3, fun i hi => by
                  rw [up_n (by omega), up_n (by omega), up_n (by omega), up_n (by omega)]
                  exact y4 i hi⟩
            obtain ⟨⟨k4, k5⟩, k6, k7, k8, k9⟩ := k3
            exact ⟨CHl_keep k5 (fun a j g1 g2 g3 => up_n (by omega)), up_s, CBl_keep k7 (fun j hj => up_n (by omega)), (up_n (by omega)).trans k8, CN_keep k9 (fun x g1 g2 => up_r (by omega))⟩
          · rw [List.length_cons, List.length_drop]
            rw [List.length_cons] at d1
            omega
          · rw [List.length_cons]
            omega
        rcases n3 with z | z
        · rw [if_pos z, if_neg (by first | decide | omega)]
          exact j36 _ _ (by unfold tkn; rw [if_neg (by omega)]; rfl) (by rw [if_neg (by omega)]) (by rw [hd.2.2.1, if_pos z])
        · rw [if_neg (show ¬ h.1 = 2 by omega), if_pos z, if_pos (by first | decide | omega)]
          exact j36 _ _ (by unfold tkn; rw [if_pos z]; rfl) (by rw [if_pos z]) (by rw [hd.2.2.1, if_neg (by omega), if_pos z])
      · rw [if_pos (show (Int32.ofNat (h.2.2.1)) ≤ (Int32.ofNat (least)) from (i32_le (by omega) (by omega)).mpr (by omega))]
        have er' : red least H bs ln = (h :: hs, bs1, ln1) := by
          rw [← er]
          unfold red
          rw [if_neg q]
        refine q_ex ⟨I1, rfl, hF, ?_⟩
        rw [er']
        exact ⟨⟨hd, h1⟩, h2, h3, h4, h5⟩
  · rintro _ ⟨I', rfl, hF, h3⟩
    simp only [Sum.elim_inr]
    unfold f_X6_reduce_j95
    exact q_ok ⟨I', rfl, hF, h3⟩
end RD
