/-! the reference's reader: its rows, and what one word does -/
def kM (k : Nat) : Int32 := if k = 0 then 0 else if k = 1 then 1 else if k = 3 then 2 else if k = 4 then 3 else if k = 5 then 4 else if k = 6 then 5 else -1
def MWd (I : Nat → Nat → Int32) (m : Nat) (W : Nat → Wd) (P : Nat → Nat) (g : Nat → Bool) : Prop := m ≤ 300 ∧ I 4561 25 = (Int32.ofNat (m)) ∧ ∀ i, i < m → I 4579 i = kM (W i).1 ∧ I 4580 i = wvI (W i) ∧ I 4581 i = (Int32.ofNat (P i)) ∧ I 4583 i = (if g i = true then 1 else 0) ∧ WOK (W i)
/-- the rank that one without brackets gives to its neighbours -/
def nb (b : GB) (x : Nd) : Nat := if x.1 = 3 ∧ x.2.2.1 = 2 then (if sdN b (plN x.2.1.toNatClampNeg) = 2 then rkN b (plN x.2.1.toNatClampNeg) 2 else 0) else 0
def lsF : List Ln → Nat → Nat
  | [] => fun _ => 0
  | x :: l => fun i => if i = l.length then x.2 else lsF l i
def MDn (I : Nat → Nat → Int32) (ln : List Ln) : Prop := ln.length ≤ 80 ∧ I 4561 33 = (Int32.ofNat (ln.length)) ∧ ∀ i, i < ln.length → I 4584 i = (lnF ln i).1 ∧ I 4585 i = (lnF ln i).2.1 ∧ I 4586 i = (lnF ln i).2.2.1 ∧ I 4587 i = (Int32.ofNat ((lnF ln i).2.2.2)) ∧ (lnF ln i).2.2.2 ≤ 4 ∧ I 4588 i = (Int32.ofNat (lsF ln i))
def MBs (I : Nat → Nat → Int32) (b : GB) (L : Nat → Nd) : Nat → List Oe → Prop
  | e, [] => e = 0
  | e, o :: bs => 0 < o.2 ∧ o.2 ≤ e ∧ I 4590 bs.length = (Int32.ofNat (e - 1)) ∧ I 4588 (e - 1) = (Int32.ofNat (o.2)) ∧ (I 4591 bs.length = 0 ∨ I 4591 bs.length = 1) ∧ o.1 = (if I 4591 bs.length = 0 then nb b (L (e - 1)) else 0) ∧ MBs I b L (e - o.2) bs
def MOd (I : Nat → Nat → Int32) (j : Nat) (h : Hd) : Prop := I 4592 j = (Int32.ofNat (h.1)) ∧ (h.1 ≠ 0 → I 4593 j = if h.1 = 1 then (Int32.ofNat (h.2.1)) else (Int32.ofNat (sgc h.2.1))) ∧ I 4594 j = (if h.1 = 1 then (Int32.ofNat (h.2.2.2)) else (Int32.ofNat (h.2.2.1)))
def MOl (I : Nat → Nat → Int32) : List Hd → Prop
  | [] => True
  | h :: hs => MOd I hs.length h ∧ MOl I hs
def MH3 (I : Nat → Nat → Int32) (b : GB) (H : List Hd) (bs : List Oe) (ln : List Ln) : Prop := MOl I H ∧ I 4561 40 = (Int32.ofNat (H.length)) ∧ MBs I b (lnF ln) ln.length bs ∧ I 4561 36 = (Int32.ofNat (bs.length)) ∧ MDn I ln
def SMp : Nat → Nat → Prop := fun a k => (a = 4561 ∧ (k = 33 ∨ k = 36 ∨ k = 40)) ∨ (4584 ≤ a ∧ a ≤ 4594)
theorem nb_op {b : GB} {p fx : Nat} (hp : p < 16) (hf : fx ≤ 2) : nb b (opNd p fx) = if fx = 2 then (if sdN b p = 2 then rkN b p 2 else 0) else 0 := by
  obtain ⟨h1, h2⟩ := sgc_ok p hp
  have e1 : plN (sgc p) = p := by
    unfold plN
    rw [h2, i32_nat (by omega)]
  have e2 : ((Int32.ofNat (sgc p))).toNatClampNeg = sgc p := i32_nat (by omega)
  unfold nb opNd
  dsimp only
  rw [e2, e1]
  by_cases h : fx = 2
  · rw [if_pos ⟨rfl, by rw [h]; rfl⟩, if_pos h]
  · rw [if_neg (show ¬ ((3 : Int32) = 3 ∧ (Int32.ofNat (fx)) = 2) from fun y => i32_ne (b := 2) (by omega) (by omega) h y.2), if_neg h]
theorem nb_leaf {b : GB} {x : Nd} (h : x.1 ≠ 3) : nb b x = 0 := by
  unfold nb
  rw [if_neg (fun y => h y.1)]
theorem MOl_keep {I I' : Nat → Nat → Int32} : ∀ {l : List Hd}, MOl I l → (∀ a k, 4592 ≤ a → a ≤ 4594 → k < l.length → I' a k = I a k) → MOl I' l := by
  intro l
  induction l with
  | nil => intro _ _; trivial
  | cons h hs ih =>
    intro H e
    refine ⟨?_, ih H.2 (fun a k h1 h2 h3 => e a k h1 h2 (by rw [List.length_cons]; omega))⟩
    unfold MOd
    have hl : hs.length < (h :: hs).length := by rw [List.length_cons]; omega
    rw [e 4592 _ (by omega) (by omega) hl, e 4593 _ (by omega) (by omega) hl, e 4594 _ (by omega) (by omega) hl]
    exact H.1
theorem MBs_keep {I I' : Nat → Nat → Int32} {b : GB} {L L' : Nat → Nd} : ∀ {l : List Oe} {e : Nat}, MBs I b L e l → (∀ k, k < l.length → I' 4590 k = I 4590 k ∧ I' 4591 k = I 4591 k) → (∀ k, k < e → I' 4588 k = I 4588 k ∧ L' k = L k) → MBs I' b L' e l := by
  intro l
  induction l with
  | nil => intro e h _ _; exact h
  | cons o bs ih =>
    intro e ⟨h1, h2, h3, h4, h5, h6, h7⟩ g1 g2
    have k1 := g1 bs.length (by rw [List.length_cons]; omega)
    have k2 := g2 (e - 1) (by omega)
    refine ⟨h1, h2, k1.1.trans h3, k2.1.trans h4, ?_, ?_, ih h7 (fun k hk => g1 k (by rw [List.length_cons]; omega)) (fun k hk => g2 k (by omega))⟩
    · rw [k1.2]; exact h5
    · rw [k1.2, k2.2]; exact h6
theorem MBs_drop {I : Nat → Nat → Int32} {b : GB} {L : Nat → Nd} : ∀ {l : List Oe} {e : Nat} (k : Nat), MBs I b L e l → szs (l.take k) ≤ e ∧ MBs I b L (e - szs (l.take k)) (l.drop k) := by
  intro l
  induction l with
  | nil =>
    intro e k h
    rw [List.take_nil, List.drop_nil]
    exact ⟨Nat.zero_le _, by rw [show szs [] = 0 from rfl, Nat.sub_zero]; exact h⟩
  | cons o bs ih =>
    intro e k h
    cases k with
    | zero => exact ⟨Nat.zero_le _, h⟩
    | succ k =>
      obtain ⟨h1, h2, h3, h4, h5, h6, h7⟩ := h
      obtain ⟨a1, a2⟩ := ih k h7
      rw [List.take_succ_cons, List.drop_succ_cons, show szs (o :: bs.take k) = o.2 + szs (bs.take k) from rfl]
      exact ⟨by omega, by rw [show e - (o.2 + szs (bs.take k)) = e - o.2 - szs (bs.take k) by omega]; exact a2⟩
/-- the j-th operand from the top -/
theorem MBs_nth {I : Nat → Nat → Int32} {b : GB} {L : Nat → Nd} : ∀ {l : List Oe} {e : Nat} (j : Nat), MBs I b L e l → j < l.length → ∃ e' z, 0 < e' ∧ e' ≤ e ∧ I 4590 (l.length - 1 - j) = (Int32.ofNat (e' - 1)) ∧ I 4588 (e' - 1) = (Int32.ofNat (z)) ∧ szs (l.take (j + 1)) = szs (l.take j) + z := by
  intro l
  induction l with
  | nil => intro e j _ hj; exact absurd hj (Nat.not_lt_zero _)
  | cons o bs ih =>
    intro e j ⟨h1, h2, h3, h4, h5, h6, h7⟩ hj
    cases j with
    | zero => exact ⟨e, o.2, by omega, Nat.le_refl _, by rw [List.length_cons, show bs.length + 1 - 1 - 0 = bs.length by omega]; exact h3, h4, by rw [List.take_succ_cons]; show o.2 + szs _ = 0 + o.2; rw [List.take_zero]; show o.2 + 0 = _; omega⟩
    | succ j =>
      rw [List.length_cons] at hj
      obtain ⟨e', z, a1, a2, a3, a4, a5⟩ := ih j h7 (by omega)
      refine ⟨e', z, a1, by omega, ?_, a4, ?_⟩
      · rw [List.length_cons, show bs.length + 1 - 1 - (j + 1) = bs.length - 1 - j by omega]
        exact a3
      · rw [List.take_succ_cons, List.take_succ_cons]
        show o.2 + szs _ = o.2 + szs _ + z
        omega
theorem MBs_len {I : Nat → Nat → Int32} {b : GB} {L : Nat → Nd} : ∀ {l : List Oe} {e : Nat}, MBs I b L e l → l.length ≤ e := by
  intro l
  induction l with
  | nil => intro e _; exact Nat.zero_le _
  | cons o bs ih =>
    intro e ⟨h1, h2, h3, h4, h5, h6, h7⟩
    have := ih h7
    rw [List.length_cons]
    omega
theorem MWd_keep {I I' : Nat → Nat → Int32} {m : Nat} {W : Nat → Wd} {P : Nat → Nat} {g : Nat → Bool} (H : MWd I m W P g) (e : ∀ a k, (a = 4561 ∧ k = 25) ∨ (4579 ≤ a ∧ a ≤ 4583) → I' a k = I a k) : MWd I' m W P g := by
  refine ⟨H.1, (e _ _ (by omega)).trans H.2.1, fun i hi => ?_⟩
  rw [e 4579 _ (by omega), e 4580 _ (by omega), e 4581 _ (by omega), e 4583 _ (by omega)]
  exact H.2.2 i hi
theorem MH3_keep {I I' : Nat → Nat → Int32} {b : GB} {H : List Hd} {bs : List Oe} {ln : List Ln} (h : MH3 I b H bs ln) (e : ∀ a k, (a = 4561 ∧ (k = 33 ∨ k = 36 ∨ k = 40)) ∨ (4584 ≤ a ∧ a ≤ 4594) → I' a k = I a k) : MH3 I' b H bs ln := by
  obtain ⟨h1, h2, h3, h4, h5, h6, h7⟩ := h
  refine ⟨MOl_keep h1 (fun a k g1 g2 _ => e a k (by omega)), (e _ _ (by omega)).trans h2, MBs_keep h3 (fun k _ => ⟨e _ _ (by omega), e _ _ (by omega)⟩) (fun k _ => ⟨e _ _ (by omega), rfl⟩), (e _ _ (by omega)).trans h4, h5, (e _ _ (by omega)).trans h6, fun i hi => ?_⟩
  rw [e 4584 _ (by omega), e 4585 _ (by omega), e 4586 _ (by omega), e 4587 _ (by omega), e 4588 _ (by omega)]
  exact h7 i hi
section RM
variable {I : Nat → Nat → Int32} {J : Nat → Nat → Int64} {R : Nat → Nat → Option Nat} {b : GB} {β : Type} {m : Nat} {W : Nat → Wd} {P : Nat → Nat} {g : Nat → Bool}
theorem M_signOf {p : Nat} {F : Int32 → Option β} (hp : p < 16) : (f_X12_signOf (mg 4625 I J R) (Int32.ofNat (sgc p))).bind F = F (Int32.ofNat (sgp p)) := by
  have key : ∀ p, p < 16 → ∀ σ, f_X12_signOf σ (Int32.ofNat (sgc p)) = some (Int32.ofNat (sgp p)) := by
    intro p hp σ
    rcases sgn_dom (k := sgc p) (by have := (sgc_ok p hp).1; omega) with ⟨h1, h2⟩ | ⟨q, h1, h2, h3, h4⟩
    · rcases h1 with h1 | h1
      · have := (sgc_ok p hp).1
        omega
      · rw [(sgc_ok p hp).2] at h1
        have := i32_0le (k := p) (by omega)
        rw [h1] at this
        exact absurd this (by decide)
    · rw [(sgc_ok p hp).2] at h3
      rw [h4, (i32_eq (by omega) (by omega)).mp h3]
  rw [key p hp]
  rfl
theorem M_rankOf {p fx : Nat} {F : Int32 → Option β} (hR : RA R) (hM : MTb I b) (hT : TbOK b) (hp : p < 16) (hf : fx ≤ 2) : (f_X12_rankOf (mg 4625 I J R) 4561 (Int32.ofNat (sgc p)) (Int32.ofNat (fx))).bind F = F (Int32.ofNat (rkN b p fx)) := by
  have sl := sgp_lt p hp
  unfold f_X12_rankOf
  rw [gr_4561_15 hR, M_signOf hp, show (3 : Int32) * (Int32.ofNat (sgp p)) = (Int32.ofNat (3 * sgp p)) from n_mul 3 _, n_add, ga_4575 (by omega), ← (rk_i hT hp (by omega)).1, ← hM p fx hp (by omega)]
  rfl
theorem M_sideOf {p : Nat} {F : Int32 → Option β} (hR : RA R) (hM : MTb I b) (hT : TbOK b) (hp : p < 16) (h0 : rkN b p 2 ≠ 0) : (aI (mg 4625 I J R) 4576 14 ((3 : Int32) * (Int32.ofNat (sgp p)) + 2)).bind F = F (Int32.ofNat (sdN b p)) := by
  have sl := sgp_lt p hp
  rw [show (3 : Int32) * (Int32.ofNat (sgp p)) = (Int32.ofNat (3 * sgp p)) from n_mul 3 _, show (Int32.ofNat (3 * sgp p)) + 2 = (Int32.ofNat (3 * sgp p + 2)) from n_add _ 2, ga_4576 (by omega), ← (sd_i hT hp h0).1, ← (show _ = b (32 + p) from hM p 2 hp (by omega))]
/-- a node is done -/
theorem M_does {H : List Hd} {bs : List Oe} {ln : List Ln} {x : Nd} (hR : RA R) (hh : MH3 I b H bs ln) (hc : x.2.2.2 ≤ bs.length) (h4 : x.2.2.2 ≤ 4) (hl : ln.length < 80) : QK (f_X12_does (mg 4625 I J R) 4561 x.1 x.2.1 x.2.2.1 (Int32.ofNat (x.2.2.2))) (fun r => ∃ I', r = mg 4625 I' J R ∧ FrK (fun a k => (a = 4561 ∧ (k = 33 ∨ k = 36)) ∨ (4584 ≤ a ∧ a ≤ 4591)) I I' ∧ MH3 I' b H ((nb b x, szs (bs.take x.2.2.2) + 1) :: bs.drop x.2.2.2) ((x, szs (bs.take x.2.2.2) + 1) :: ln)) := by
  obtain ⟨h1, h2, h3, h36, h5, h33, h7⟩ := hh
  have bl := MBs_len h3
  obtain ⟨d1, d2⟩ := MBs_drop x.2.2.2 h3
  generalize hcn : x.2.2.2 = c at hc h4 d1 d2 ⊢
  unfold f_X12_does
  rw [gr_4561_27 hR, gi_4561, h33, gw_4584 (by omega), gr_4561_28 hR, gi_4561, up_n (by omega), h33, gw_4585 (by omega), gr_4561_29 hR, gi_4561, up_n (by omega), up_n (by omega), h33, gw_4586 (by omega), gr_4561_30 hR, gi_4561, up_n (by omega), up_n (by omega), up_n (by omega), h33, gw_4587 (by omega), q_let, q_let]
  generalize hI1 : up (up (up (up I 4584 ln.length x.1) 4585 ln.length x.2.1) 4586 ln.length x.2.2.1) 4587 ln.length (Int32.ofNat (c)) = I1
  have f1 : ∀ a k, ¬ (4584 ≤ a ∧ a ≤ 4587 ∧ k = ln.length) → I1 a k = I a k := fun a k y => by
    rw [← hI1, up_n (by omega), up_n (by omega), up_n (by omega), up_n (by omega)]
  refine q_bind (P := fun r => r = .inr (4561, (Int32.ofNat (c)), (Int32.ofNat (szs (bs.take c) + 1)))) ?_ ?_
  · refine q_for c (fun j s => s = (4561, (Int32.ofNat (c)), (Int32.ofNat (szs (bs.take j) + 1)), (Int32.ofNat (j)))) ?_ ?_ (i := 0) rfl (by omega) (by unfold xF; omega)
    · rintro j s hj rfl
      obtain ⟨e', z, a1, a2, a3, a4, a5⟩ := MBs_nth j h3 (by omega)
      have le1 := (MBs_drop (j + 1) h3).1
      unfold f_X12_does_s47
      dsimp only
      rw [q_let, q_let, q_let, q_let, if_neg (show ¬ (Int32.ofNat (c)) ≤ (Int32.ofNat (j)) from fun y => absurd ((i32_le (by omega) (by omega)).mp y) (by omega)), gr_4561_31 hR, gr_4561_34 hR, gi_4561, f1 _ _ (by omega), h36, show (Int32.ofNat (bs.length)) - 1 = (Int32.ofNat (bs.length - 1)) from n_sub (a := bs.length) (b := 1) (by omega), n_sub (by omega), ga_4590 (by omega), f1 _ _ (by omega), a3, ga_4588 (by omega), f1 _ _ (by omega), a4, q_let, q_let, n_add, show (Int32.ofNat (j)) + 1 = (Int32.ofNat (j + 1)) from n_add j 1]
      exact q_go (by rw [a5, show szs (bs.take j) + 1 + z = szs (bs.take j) + z + 1 by omega])
    · rintro s rfl
      unfold f_X12_does_s47
      dsimp only
      rw [q_let, q_let, q_let, q_let, if_pos (show (Int32.ofNat (c)) ≤ (Int32.ofNat (c)) from (i32_le (by omega) (by omega)).mpr (Nat.le_refl _))]
      exact q_ex rfl
  · rintro r rfl
    simp only [Sum.elim_inr]
    unfold f_X12_does_j84
    rw [gr_4561_31 hR, gi_4561, f1 _ _ (by omega), h33, gw_4588 (by omega), gi_4561, up_n (by omega), f1 _ _ (by omega), h36, n_sub hc, gs_4561, gr_4561_34 hR, gi_4561, up_s, gi_4561, up_n (by omega), up_n (by omega), f1 _ _ (by omega), h33, gw_4590 (by omega), gr_4561_35 hR, gi_4561, up_n (by omega), up_s, gz_4591 (by omega) rfl, gi_4561, up_n (by omega), up_n (by omega), up_s, show (Int32.ofNat (bs.length - c)) + 1 = (Int32.ofNat (bs.length - c + 1)) from n_add _ 1, gs_4561, gi_4561, up_n (by omega), up_n (by omega), up_n (by omega), up_n (by omega), up_n (by omega), f1 _ _ (by omega), h33, show (Int32.ofNat (ln.length)) + 1 = (Int32.ofNat (ln.length + 1)) from n_add _ 1, gs_4561]
    generalize hI2 : up (up (up (up (up (up I1 4588 ln.length (Int32.ofNat (szs (bs.take c) + 1))) 4561 36 (Int32.ofNat (bs.length - c))) 4590 (bs.length - c) (Int32.ofNat (ln.length))) 4591 (bs.length - c) 0) 4561 36 (Int32.ofNat (bs.length - c + 1))) 4561 33 (Int32.ofNat (ln.length + 1)) = I2
    have f2 : ∀ a k, ¬ (4584 ≤ a ∧ a ≤ 4588 ∧ k = ln.length) → ¬ (a = 4561 ∧ (k = 36 ∨ k = 33)) → ¬ ((a = 4590 ∨ a = 4591) ∧ k = bs.length - c) → I2 a k = I a k := fun a k y1 y2 y3 => by
      rw [← hI2, up_n (by omega), up_n (by omega), up_n (by omega), up_n (by omega), up_n (by omega), up_n (by omega), f1 a k (by omega)]
    have g2 : ∀ a, 4584 ≤ a → a ≤ 4587 → I2 a = I1 a := fun a y1 y2 => by
      rw [← hI2, up_r (by omega), up_r (by omega), up_r (by omega), up_r (by omega), up_r (by omega), up_r (by omega)]
    have k88 : I2 4588 ln.length = (Int32.ofNat (szs (bs.take c) + 1)) := by rw [← hI2, up_n (by omega), up_n (by omega), up_n (by omega), up_n (by omega), up_n (by omega), up_s]
    have k90 : I2 4590 (bs.length - c) = (Int32.ofNat (ln.length)) := by rw [← hI2, up_n (by omega), up_n (by omega), up_n (by omega), up_s]
    have k91 : I2 4591 (bs.length - c) = 0 := by rw [← hI2, up_n (by omega), up_n (by omega), up_s]
    have k36 : I2 4561 36 = (Int32.ofNat (bs.length - c + 1)) := by rw [← hI2, up_n (by omega), up_s]
    have k33 : I2 4561 33 = (Int32.ofNat (ln.length + 1)) := by rw [← hI2, up_s]
    have ld : (bs.drop c).length = bs.length - c := List.length_drop
    refine q_ok ⟨I2, rfl, fun a k y => f2 a k (by omega) (by omega) (by omega), MOl_keep h1 (fun a k y1 y2 _ => f2 a k (by omega) (by omega) (by omega)), (f2 _ _ (by omega) (by omega) (by omega)).trans h2, ⟨?_, ?_, ?_, ?_, ?_, ?_, ?_⟩, ?_, ?_, ?_, ?_⟩
    · exact Nat.succ_pos _
    · show szs (bs.take c) + 1 ≤ ((x, szs (bs.take c) + 1) :: ln).length
      rw [List.length_cons]
      omega
    · rw [ld, k90, List.length_cons, Nat.add_sub_cancel]
    · rw [List.length_cons, Nat.add_sub_cancel, k88]
    · rw [ld, k91]
      exact Or.inl rfl
    · rw [ld, k91, if_pos rfl, List.length_cons, Nat.add_sub_cancel]
      show nb b x = nb b (ext (lnF ln) ln.length x ln.length)
      unfold ext
      rw [if_pos rfl]
    · show MBs I2 b (lnF ((x, szs (bs.take c) + 1) :: ln)) (((x, szs (bs.take c) + 1) :: ln).length - (szs (bs.take c) + 1)) (bs.drop c)
      rw [List.length_cons, show ln.length + 1 - (szs (bs.take c) + 1) = ln.length - szs (bs.take c) by omega]
      refine MBs_keep d2 (fun k hk => ?_) (fun k hk => ⟨?_, ?_⟩)
      · rw [ld] at hk
        exact ⟨f2 _ _ (by omega) (by omega) (by omega), f2 _ _ (by omega) (by omega) (by omega)⟩
      · exact f2 _ _ (by omega) (by omega) (by omega)
      · show ext (lnF ln) ln.length x k = _
        unfold ext
        rw [if_neg (by omega)]
    · rw [k36, List.length_cons, ld]
    · rw [List.length_cons]
      omega
    · rw [k33, List.length_cons]
    · intro i hi
      rw [List.length_cons] at hi
      show I2 4584 i = (ext (lnF ln) ln.length x i).1 ∧ I2 4585 i = (ext (lnF ln) ln.length x i).2.1 ∧ I2 4586 i = (ext (lnF ln) ln.length x i).2.2.1 ∧ I2 4587 i = (Int32.ofNat ((ext (lnF ln) ln.length x i).2.2.2)) ∧ (ext (lnF ln) ln.length x i).2.2.2 ≤ 4 ∧ I2 4588 i = (Int32.ofNat (if i = ln.length then szs (bs.take c) + 1 else lsF ln i))
      unfold ext
      rw [g2 4584 (by omega) (by omega), g2 4585 (by omega) (by omega), g2 4586 (by omega) (by omega), g2 4587 (by omega) (by omega)]
      by_cases z : i = ln.length
      · subst z
        rw [if_pos rfl, hcn, ← hI1, up_n (by omega), up_n (by omega), up_n (by omega), up_s, up_n (by omega), up_n (by omega), up_s, up_n (by omega), up_s, up_s]
        rw [if_pos rfl, k88]
        exact ⟨rfl, rfl, rfl, rfl, h4, rfl⟩
      · rw [if_neg z, if_neg z, f1 _ _ (by omega), f1 _ _ (by omega), f1 _ _ (by omega), f1 _ _ (by omega), f2 4588 _ (by omega) (by omega) (by omega)]
        exact h7 i (by omega)
theorem M_opens {H : List Hd} {bs : List Oe} {ln : List Ln} {h : Hd} {k v l : Int32} (hR : RA R) (hh : MH3 I b H bs ln) (hl : H.length < 600) (e1 : k = (Int32.ofNat (h.1))) (e2 : h.1 ≠ 0 → v = if h.1 = 1 then (Int32.ofNat (h.2.1)) else (Int32.ofNat (sgc h.2.1))) (e3 : l = if h.1 = 1 then (Int32.ofNat (h.2.2.2)) else (Int32.ofNat (h.2.2.1))) : QK (f_X12_opens (mg 4625 I J R) 4561 k v l) (fun r => ∃ I', r = mg 4625 I' J R ∧ FrK (fun a j => (a = 4561 ∧ j = 40) ∨ (4592 ≤ a ∧ a ≤ 4594)) I I' ∧ MH3 I' b (h :: H) bs ln) := by
  obtain ⟨h1, h2, h3, h36, h5, h33, h7⟩ := hh
  unfold f_X12_opens
  rw [gr_4561_37 hR, gi_4561, h2, gw_4592 hl, gr_4561_38 hR, gi_4561, up_n (by omega), h2, gw_4593 hl, gr_4561_39 hR, gi_4561, up_n (by omega), up_n (by omega), h2, gw_4594 hl, gi_4561, up_n (by omega), up_n (by omega), up_n (by omega), h2, show (Int32.ofNat (H.length)) + 1 = (Int32.ofNat (H.length + 1)) from n_add _ 1, gs_4561]
  generalize hI2 : up (up (up (up I 4592 H.length k) 4593 H.length v) 4594 H.length l) 4561 40 (Int32.ofNat (H.length + 1)) = I2
  have f2 : ∀ a j, ¬ (4592 ≤ a ∧ a ≤ 4594 ∧ j = H.length) → ¬ (a = 4561 ∧ j = 40) → I2 a j = I a j := fun a j y1 y2 => by
    rw [← hI2, up_n (by omega), up_n (by omega), up_n (by omega), up_n (by omega)]
  refine q_ok ⟨I2, rfl, fun a j y => f2 a j (by omega) (by omega), ⟨⟨?_, fun z => ?_, ?_⟩, MOl_keep h1 (fun a j y1 y2 y3 => f2 a j (by omega) (by omega))⟩, ?_, MBs_keep h3 (fun j _ => ⟨f2 _ _ (by omega) (by omega), f2 _ _ (by omega) (by omega)⟩) (fun j _ => ⟨f2 _ _ (by omega) (by omega), rfl⟩), (f2 _ _ (by omega) (by omega)).trans h36, h5, (f2 _ _ (by omega) (by omega)).trans h33, fun i hi => ?_⟩
  · rw [← hI2, up_n (by omega), up_n (by omega), up_n (by omega), up_s, e1]
  · rw [← hI2, up_n (by omega), up_n (by omega), up_s, e2 z]
  · rw [← hI2, up_n (by omega), up_s, e3]
  · rw [← hI2, up_s]
    rfl
  · rw [f2 4584 _ (by omega) (by omega), f2 4585 _ (by omega) (by omega), f2 4586 _ (by omega) (by omega), f2 4587 _ (by omega) (by omega), f2 4588 _ (by omega) (by omega)]
    exact h7 i hi
theorem MOl_tail {h : Hd} {H : List Hd} {bs : List Oe} {ln : List Ln} {I' : Nat → Nat → Int32} (hh : MH3 I b (h :: H) bs ln) (e : I' = up I 4561 40 (Int32.ofNat (H.length))) : MH3 I' b H bs ln := by
  subst e
  obtain ⟨h1, h2, h3, h36, h5, h33, h7⟩ := hh
  refine ⟨MOl_keep h1.2 (fun a j y1 y2 y3 => up_n (by omega)), up_s, MBs_keep h3 (fun j _ => ⟨up_n (by omega), up_n (by omega)⟩) (fun j _ => ⟨up_n (by omega), rfl⟩), (up_n (by omega)).trans h36, h5, (up_n (by omega)).trans h33, fun i hi => ?_⟩
  rw [up_n (by omega), up_n (by omega), up_n (by omega), up_n (by omega), up_n (by omega)]
  exact h7 i hi
/-- operators that are on top are done -/
theorem M_reduce {H : List Hd} {bs : List Oe} {ln : List Ln} {least : Nat} (hR : RA R) (hh : MH3 I b H bs ln) (hH : HOK b H) (hb : bs.length = need H + 1) (c1 : H.length ≤ 300) (c2 : ln.length + wgt H ≤ 80) (hl : least ≤ 9) (hT : TbOK b) : QK (f_X12_reduce (mg 4625 I J R) 4561 (Int32.ofNat (least))) (fun r => ∃ I', r = mg 4625 I' J R ∧ FrK SMp I I' ∧ MH3 I' b (red least H bs ln).1 (red least H bs ln).2.1 (red least H bs ln).2.2) := by
  unfold f_X12_reduce
  refine q_bind (P := fun r => ∃ I', r = .inr (mg 4625 I' J R) ∧ FrK SMp I I' ∧ MH3 I' b (red least H bs ln).1 (red least H bs ln).2.1 (red least H bs ln).2.2) ?_ ?_
  · refine q_loop (fun k s => ∃ I1 H1 bs1 ln1, s = (4561, (Int32.ofNat (least)), mg 4625 I1 J R) ∧ H1.length = k ∧ FrK SMp I I1 ∧ MH3 I1 b H1 bs1 ln1 ∧ HOK b H1 ∧ bs1.length = need H1 + 1 ∧ H1.length ≤ 300 ∧ ln1.length + wgt H1 ≤ 80 ∧ red least H1 bs1 ln1 = red least H bs ln) ?_ (m := H.length) ⟨I, H, bs, ln, rfl, rfl, FrK_rfl, hh, hH, hb, c1, c2, rfl⟩ (by unfold xF; omega)
    rintro k s ⟨I1, H1, bs1, ln1, rfl, rfl, hF, hh1, hH1, hb1, d1, d2, er⟩
    unfold f_X12_reduce_s0
    dsimp only
    rw [q_let, q_let, q_let, gi_4561, hh1.2.1]
    rcases H1 with _ | ⟨h, hs⟩
    · rw [if_pos (show (Int32.ofNat (([] : List Hd).length)) ≤ (0 : Int32) by decide)]
      refine q_ex ⟨I1, rfl, hF, ?_⟩
      rw [← er]
      exact hh1
    · have hh1' := hh1
      obtain ⟨⟨⟨hd1, hd2, hd3⟩, h1⟩, h2, h3⟩ := hh1
      have hl1 : hs.length < 300 := by rw [List.length_cons] at d1; omega
      rw [List.length_cons] at h2
      have s4 : h.1 < 4 := by
        rcases hH1.1 with z | z | z | z <;> omega
      rw [List.length_cons, if_neg (show ¬ (Int32.ofNat (hs.length + 1)) ≤ (0 : Int32) from fun y => absurd ((i32_le (m := 0) (by omega) (by omega)).mp y) (by omega)), gr_4561_37 hR, gi_4561, h2, i32_pred, ga_4592 (by omega), hd1]
      have lv : h.2.2.1 < 11 ∧ (h.1 < 2 → h.2.2.1 = 0) := by
        rcases hH1.1 with z | z | z | z
        · rw [z.2]; exact ⟨by decide, fun _ => rfl⟩
        · exact ⟨by omega, fun _ => z.2.2.1⟩
        · have := (rk_i hT z.2.1 (show 0 < 3 by omega)).2
          exact ⟨by omega, by omega⟩
        · have := (rk_i hT z.2.1 (show 2 < 3 by omega)).2
          have := z.2.2.2.1
          split at this
          · exact ⟨by omega, by omega⟩
          · exact ⟨by omega, by omega⟩
      by_cases q2 : h.1 < 2
      · rw [if_pos (show (Int32.ofNat (h.1)) < (2 : Int32) from (i32_lt (m := 2) (by omega) (by omega)).mpr q2)]
        have er' : red least H bs ln = (h :: hs, bs1, ln1) := by
          rw [← er]
          unfold red
          rw [if_neg (by have := lv.2 q2; omega)]
        refine q_ex ⟨I1, rfl, hF, ?_⟩
        rw [er']
        exact hh1'
      · rw [if_neg (show ¬ (Int32.ofNat (h.1)) < (2 : Int32) from fun y => q2 ((i32_lt (m := 2) (by omega) (by omega)).mp y)), gr_4561_39 hR, gi_4561, h2, i32_pred, ga_4594 (by omega), hd3, if_neg (show ¬ h.1 = 1 by omega)]
        by_cases q : least < h.2.2.1
        · obtain ⟨n1, n2, n3⟩ := need_tkn hH1 q
          have tk : tkn h ≤ bs1.length := by omega
          have hp : h.2.1 < 16 := by
            rcases hH1.1 with z | z | z | z <;> omega
          have er' : red least hs ((h.2.2.2, szs (bs1.take (tkn h)) + 1) :: bs1.drop (tkn h)) ((hNd h, szs (bs1.take (tkn h)) + 1) :: ln1) = red least H bs ln := by
            rw [← er]
            conv => rhs; unfold red
            rw [if_pos q]
          rw [if_neg (show ¬ (Int32.ofNat (h.2.2.1)) ≤ (Int32.ofNat (least)) from fun y => absurd ((i32_le (by omega) (by omega)).mp y) (by omega)), gi_4561, h2, i32_pred, gs_4561, gr_4561_37 hR, gi_4561, up_s, ga_4592 (by omega), up_n (by omega), hd1]
          have hh2 : MH3 (up I1 4561 40 (Int32.ofNat (hs.length))) b hs bs1 ln1 := MOl_tail hh1' rfl
          have har : (hNd h).2.2.2 = tkn h := by
            unfold hNd opNd tkn
            split <;> rfl
          have hnb : nb b (hNd h) = h.2.2.2 := by
            unfold hNd
            rw [nb_op hp (by split <;> omega)]
            rcases hH1.1 with z | z | z | z
            · omega
            · omega
            · rw [if_neg (by rw [z.1]; decide), z.2.2.2.2]
            · rw [z.1, if_pos rfl, if_pos rfl, z.2.2.2.2]
          have j95 : ∀ fx ar : Int32, fx = (hNd h).2.2.1 → ar = (Int32.ofNat ((hNd h).2.2.2)) → QK (f_X12_reduce_j95 (mg 4625 (up I1 4561 40 (Int32.ofNat (hs.length))) J R) 4561 (Int32.ofNat (least)) ar fx (Int32.ofNat (sgc h.2.1)) 3 4561) (qS (fun s' => ∃ m', m' < (h :: hs).length ∧ ∃ I1 H1 bs1 ln1, s' = (4561, (Int32.ofNat (least)), mg 4625 I1 J R) ∧ H1.length = m' ∧ FrK SMp I I1 ∧ MH3 I1 b H1 bs1 ln1 ∧ HOK b H1 ∧ bs1.length = need H1 + 1 ∧ H1.length ≤ 300 ∧ ln1.length + wgt H1 ≤ 80 ∧ red least H1 bs1 ln1 = red least H bs ln) (fun r => ∃ I', r = .inr (mg 4625 I' J R) ∧ FrK SMp I I' ∧ MH3 I' b (red least H bs ln).1 (red least H bs ln).2.1 (red least H bs ln).2.2)) := by
            rintro _ _ rfl rfl
            unfold f_X12_reduce_j95
            rw [if_pos ok_4561]
            refine q_bind (M_does (x := hNd h) hR hh2 (by rw [har]; exact tk) (by rw [har]; unfold tkn; split <;> omega) (by omega)) ?_
            rintro _ ⟨I2, rfl, hF2, hh3⟩
            rw [har, hnb] at hh3
            refine q_go ⟨hs.length, by rw [List.length_cons]; omega, I2, hs, _, _, rfl, rfl, fun a j y => ?_, hh3, hH1.2, ?_, by omega, ?_, er'⟩
            · unfold SMp at y
              rw [hF2 a j (by omega), up_n (by omega)]
              exact hF a j (by unfold SMp; omega)
            · rw [List.length_cons, List.length_drop]
              omega
            · rw [List.length_cons]
              omega
          have sg : I1 4593 hs.length = (Int32.ofNat (sgc h.2.1)) := by rw [hd2 (by omega), if_neg (by omega)]
          unfold f_X12_reduce_j65 f_X12_reduce_j86
          rcases n3 with z | z
          · rw [z, if_pos (show (Int32.ofNat (2)) = (2 : Int32) from rfl), gr_4561_38 hR, gi_4561, up_s, ga_4593 (by omega), up_n (by omega), sg, if_neg (by decide), if_neg (by decide)]
            exact j95 _ _ (by unfold hNd opNd; rw [if_neg (by omega)]; rfl) (by rw [har]; unfold tkn; rw [if_neg (by omega)]; rfl)
          · rw [z, if_neg (show ¬ (Int32.ofNat (3)) = (2 : Int32) by decide), gr_4561_38 hR, gi_4561, up_s, ga_4593 (by omega), up_n (by omega), sg, if_pos rfl, if_pos rfl]
            exact j95 _ _ (by unfold hNd opNd; rw [if_pos z]; rfl) (by rw [har]; unfold tkn; rw [if_pos z]; rfl)
        · rw [if_pos (show (Int32.ofNat (h.2.2.1)) ≤ (Int32.ofNat (least)) from (i32_le (by omega) (by omega)).mpr (by omega))]
          have er' : red least H bs ln = (h :: hs, bs1, ln1) := by
            rw [← er]
            unfold red
            rw [if_neg q]
          refine q_ex ⟨I1, rfl, hF, ?_⟩
          rw [er']
          exact hh1'
  · rintro _ ⟨I', rfl, hF, h3⟩
    simp only [Sum.elim_inr]
    unfold f_X12_reduce_j101
    exact q_ok ⟨I', rfl, hF, h3⟩
end RM
