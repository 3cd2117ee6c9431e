/-! the reference's whole numbers: copied, compared, bit by bit, divided -/
def Cmp (a b : Nat) (y : Int32) : Prop := (a < b ∧ y.toInt < 0 ∧ -100000 < y.toInt) ∨ (a = b ∧ y = 0) ∨ (b < a ∧ 0 < y.toInt)
theorem Cmp_lt {a b : Nat} {y : Int32} (h : Cmp a b y) : y < 0 ↔ a < b := by
  have z : (0 : Int32).toInt = 0 := by decide
  rw [Int32.lt_iff_toInt_lt, z]
  rcases h with ⟨h1, h2, -⟩ | ⟨h1, h2⟩ | ⟨h1, h2⟩
  · exact ⟨fun _ => h1, fun _ => h2⟩
  · rw [h2, z]
    omega
  · omega
theorem dg_split (n m : Nat) : n / Bp m = n / Bp (m + 1) * 65536 + dg n m := by
  rw [div_s]
  unfold dg
  omega
theorem Bp_two (i : Nat) : Bp i = 2 ^ (16 * i) := by
  unfold Bp
  rw [show (65536 : Nat) = 2 ^ 16 from rfl, ← Nat.pow_mul]
theorem dg_bit {n j : Nat} : dg n (j / 16) / 2 ^ (j % 16) % 2 = n / 2 ^ j % 2 := by
  have h : (dg n (j / 16)).testBit (j % 16) = n.testBit j := by
    unfold dg
    rw [show (65536 : Nat) = 2 ^ 16 from rfl, Nat.testBit_mod_two_pow, Bp_two, Nat.testBit_div_two_pow]
    have e : decide (j % 16 < 16) = true := decide_eq_true (Nat.mod_lt _ (by decide))
    rw [e, Bool.true_and]
    congr 1
    omega
  rw [Nat.testBit_eq_decide_div_mod_eq, Nat.testBit_eq_decide_div_mod_eq, decide_eq_decide] at h
  have h1 := Nat.mod_lt (dg n (j / 16) / 2 ^ (j % 16)) (show 0 < 2 by decide)
  have h2 := Nat.mod_lt (n / 2 ^ j) (show 0 < 2 by decide)
  omega
def Kl (l s l' s' : Nat → Int32) (rs : List Nat) : Prop := (∀ x, x ∉ rs → s' x = s x) ∧ ∀ x, (∀ r ∈ rs, ¬ (440 * r ≤ x ∧ x < 440 * r + 440)) → l' x = l x
theorem Kp.kl {l s l' s' : Nat → Int32} {r : Nat} {rs : List Nat} (h : Kp l s l' s' r) (hr : r ∈ rs) : Kl l s l' s' rs := ⟨fun x hx => h.1 x (fun e => hx (e ▸ hr)), fun x hx => h.2 x (hx r hr)⟩
theorem Kl.trans {l s l' s' l'' s'' : Nat → Int32} {rs : List Nat} (h : Kl l s l' s' rs) (h' : Kl l' s' l'' s'' rs) : Kl l s l'' s'' rs := ⟨fun x hx => (h'.1 x hx).trans (h.1 x hx), fun x hx => (h'.2 x hx).trans (h.2 x hx)⟩
theorem Kl.rfl {l s : Nat → Int32} {rs : List Nat} : Kl l s l s rs := ⟨fun _ _ => Eq.refl _, fun _ _ => Eq.refl _⟩
theorem Rg.kl {l s l' s' : Nat → Int32} {t k n : Nat} {rs : List Nat} (h : Rg l s t k n) (hk : Kl l s l' s' rs) (hr : t ∉ rs) : Rg l' s' t k n := by
  obtain ⟨h1, h2, h3, h4, h5⟩ := h
  exact ⟨(hk.1 t hr).trans h1, h2, h3, h4, fun j hj => (hk.2 _ (fun r hm => by
    have : t ≠ r := fun e => hr (e ▸ hm)
    omega)).trans (h5 j hj)⟩
section GC
variable {I : Nat → Nat → Int32} {J : Nat → Nat → Int64} {R : Nat → Nat → Option Nat} {l s v : Nat → Int32}
theorem m_copyR {r t k n : Nat} (hR : RA R) (hr : r < 16) (ht : t < 16) (hrt : r ≠ t) (B : Rg l s t k n) : ∃ l' s', f_X12_copy (bM I l s v J R) 4561 (Int32.ofNat r) (Int32.ofNat t) = some (bM I l' s' v J R) ∧ Rg l' s' r k n ∧ Kp l s l' s' r := by
  have hk := B.2.1
  have q := xl_seq (step := f_X12_copy_s2) (s := fun i => (4561, Int32.ofNat r, Int32.ofNat t, Int32.ofNat i, bM I (wrl l r n i) s v J R)) (N := k) (e := .inr (4561, Int32.ofNat r, Int32.ofNat t, bM I (wrl l r n k) s v J R)) (by
    intro i hi
    unfold f_X12_copy_s2 xlet
    dsimp only
    refine xb_eq (m_g2 (by decide) hR) (xg_eq _ (m_as (by decide) ht) B.1 ?_)
    rw [if_neg (i32_nle (by omega) (by omega) hi), show (440 : Int32) * Int32.ofNat r + Int32.ofNat i = Int32.ofNat (440 * r + i) from i32_ma 440 r i, show (440 : Int32) * Int32.ofNat t + Int32.ofNat i = Int32.ofNat (440 * t + i) from i32_ma 440 t i]
    refine xb_eq (m_g1 (by decide) hR) (xb_eq (m_g1 (by decide) hR) (xg_eq _ (m_al (by decide) (by omega)) ((wrl_ne (Ne.symm hrt) (by omega) (by omega)).trans (B.2.2.2.2 i hi)) (xb_eq (m_wl (by decide) (by omega)) ?_)))
    rw [i32_ofs, wrl_s]) (by
    unfold f_X12_copy_s2 xlet
    dsimp only
    refine xb_eq (m_g2 (by decide) hR) (xg_eq _ (m_as (by decide) ht) B.1 ?_)
    rw [if_pos ((i32_le (by omega) (by omega)).mpr (Nat.le_refl _))]) (f := xF) (by unfold xF; omega)
  rw [wrl_0] at q
  refine ⟨wrl l r n k, va_up s r (Int32.ofNat k), ?_, wrl_Rg hk B.2.2.1 B.2.2.2.1, wrl_Kp hk⟩
  unfold f_X12_copy xlet
  refine xb_eq q ?_
  rw [Sum.elim_inr]
  dsimp only
  unfold f_X12_copy_j42
  exact xb_eq (m_g2 (by decide) hR) (xb_eq (m_g2 (by decide) hR) (xg_eq _ (m_as (by decide) ht) B.1 (xb_eq (m_ws (by decide) hr) rfl)))
theorem m_cmp_loop {r t k a b : Nat} (hR : RA R) (hr : r < 16) (ht : t < 16) (A : Rg l s r k a) (B : Rg l s t k b) : ∀ (m f : Nat), m ≤ k → m < f → a / Bp m = b / Bp m → ∃ y, xloop (f_X12_compare_s48 (bM I l s v J R)) f (4561, Int32.ofNat r, Int32.ofNat t, 0, Int32.ofNat m - 1) = some (.inr y) ∧ Cmp a b y := by
  have hk := A.2.1
  intro m
  induction m with
  | zero =>
    intro f _ hf h
    refine ⟨0, xl_e hf ?_, Or.inr (Or.inl ⟨?_, rfl⟩)⟩
    · unfold f_X12_compare_s48 xlet
      dsimp only
      rw [if_pos (by decide)]
    · rw [show Bp 0 = 1 from rfl, Nat.div_one, Nat.div_one] at h
      exact h
  | succ m ih =>
    intro f hm hf h
    have d1 := dg_lt a m
    have d2 := dg_lt b m
    have s1 := dg_split a m
    have s2 := dg_split b m
    have st1 : f_X12_compare_s48 (bM I l s v J R) (4561, Int32.ofNat r, Int32.ofNat t, 0, Int32.ofNat (m + 1) - 1) = some (.inr (.inr (4561, Int32.ofNat r, Int32.ofNat t, Int32.ofNat (dg a m) - Int32.ofNat (dg b m), Int32.ofNat m - 1))) := by
      unfold f_X12_compare_s48 xlet
      dsimp only
      rw [i32_pred, if_neg (i32_nlt0 (by omega)), if_pos rfl, show (440 : Int32) * Int32.ofNat r + Int32.ofNat m = Int32.ofNat (440 * r + m) from i32_ma 440 r m, show (440 : Int32) * Int32.ofNat t + Int32.ofNat m = Int32.ofNat (440 * t + m) from i32_ma 440 t m]
      refine xb_eq (m_g1 (by decide) hR) (xg_eq _ (m_al (by decide) (by omega)) (A.2.2.2.2 m (by omega)) (xb_eq (m_g1 (by decide) hR) (xg_eq _ (m_al (by decide) (by omega)) (B.2.2.2.2 m (by omega)) ?_)))
      rw [Int32.sub_eq_add_neg (a := Int32.ofNat m)]
    rw [xl_s (by omega) st1]
    by_cases e : dg a m = dg b m
    · rw [e, Int32.sub_self]
      exact ih (f - 1) (by omega) (by omega) (by rw [s1, s2, h, e])
    · have ti : (Int32.ofNat (dg a m) - Int32.ofNat (dg b m)).toInt = (dg a m : Int) - dg b m := by
        rw [Int32.toInt_sub, i32_toInt (by omega), i32_toInt (by omega)]
        show Int.bmod _ 4294967296 = _
        rw [Int.bmod_def]
        split <;> omega
      have ne : ¬ (Int32.ofNat (dg a m) - Int32.ofNat (dg b m) = 0) := fun q => by
        rw [q, show (0 : Int32).toInt = 0 by decide] at ti
        omega
      refine ⟨Int32.ofNat (dg a m) - Int32.ofNat (dg b m), xl_e (by omega) ?_, ?_⟩
      · unfold f_X12_compare_s48 xlet
        dsimp only
        by_cases q : Int32.ofNat m - 1 < 0
        · rw [if_pos q]
        · rw [if_neg q, if_neg ne]
      · by_cases z : dg a m < dg b m
        · left
          refine ⟨?_, by omega, by omega⟩
          by_cases w : a < b
          · exact w
          · have := Nat.div_le_div_right (c := Bp m) (Nat.not_lt.mp w)
            omega
        · right; right
          refine ⟨?_, by omega⟩
          by_cases w : b < a
          · exact w
          · have := Nat.div_le_div_right (c := Bp m) (Nat.not_lt.mp w)
            omega
theorem m_compare {r t ka kb a b : Nat} (hR : RA R) (hr : r < 16) (ht : t < 16) (A : Rg l s r ka a) (B : Rg l s t kb b) : ∃ y, f_X12_compare (bM I l s v J R) 4561 (Int32.ofNat r) (Int32.ofNat t) = some y ∧ Cmp a b y := by
  have h1 := A.2.1
  have h2 := B.2.1
  by_cases e : ka = kb
  · subst e
    obtain ⟨y, g1, g2⟩ := m_cmp_loop (I := I) (J := J) (v := v) hR hr ht A B ka xF (Nat.le_refl _) (by unfold xF; omega) (by rw [Nat.div_eq_of_lt A.2.2.1, Nat.div_eq_of_lt B.2.2.1])
    refine ⟨y, ?_, g2⟩
    unfold f_X12_compare xlet
    refine xb_eq (m_g2 (by decide) hR) (xg_eq _ (m_as (by decide) hr) A.1 (xb_eq (m_g2 (by decide) hR) (xg_eq _ (m_as (by decide) ht) B.1 ?_)))
    rw [if_pos rfl]
    refine xb_eq (m_g2 (by decide) hR) (xg_eq _ (m_as (by decide) hr) A.1 ?_)
    exact xb_eq g1 rfl
  · by_cases q : kb ≤ ka
    · have hlt : b < a := by
        have z : Bp kb ≤ Bp (ka - 1) := Bp_le (by omega)
        have := B.2.2.1
        rcases A.2.2.2.1 with w | w <;> omega
      refine ⟨1, ?_, Or.inr (Or.inr ⟨hlt, by decide⟩)⟩
      unfold f_X12_compare
      refine xb_eq (m_g2 (by decide) hR) (xg_eq _ (m_as (by decide) hr) A.1 (xb_eq (m_g2 (by decide) hR) (xg_eq _ (m_as (by decide) ht) B.1 ?_)))
      rw [if_neg (i32_neq (by omega) (by omega) e)]
      refine xb_eq (m_g2 (by decide) hR) (xg_eq _ (m_as (by decide) hr) A.1 (xb_eq (m_g2 (by decide) hR) (xg_eq _ (m_as (by decide) ht) B.1 ?_)))
      rw [if_pos ((i32_le (by omega) (by omega)).mpr q)]
      rfl
    · have hlt : a < b := by
        have z : Bp ka ≤ Bp (kb - 1) := Bp_le (by omega)
        have := A.2.2.1
        rcases B.2.2.2.1 with w | w <;> omega
      refine ⟨-1, ?_, Or.inl ⟨hlt, by decide, by decide⟩⟩
      unfold f_X12_compare
      refine xb_eq (m_g2 (by decide) hR) (xg_eq _ (m_as (by decide) hr) A.1 (xb_eq (m_g2 (by decide) hR) (xg_eq _ (m_as (by decide) ht) B.1 ?_)))
      rw [if_neg (i32_neq (by omega) (by omega) e)]
      refine xb_eq (m_g2 (by decide) hR) (xg_eq _ (m_as (by decide) hr) A.1 (xb_eq (m_g2 (by decide) hR) (xg_eq _ (m_as (by decide) ht) B.1 ?_)))
      rw [if_neg (i32_nle (by omega) (by omega) (by omega))]
      rfl
theorem m_isBitR {r k n j : Nat} (hR : RA R) (hr : r < 16) (A : Rg l s r k n) (hj : j < 7040) : f_X12_isBit (bM I l s v J R) 4561 (Int32.ofNat r) (Int32.ofNat j) = some (Int32.ofNat (n / 2 ^ j % 2)) := by
  have hk := A.2.1
  have d1 := dg_lt n (j / 16)
  have jz : ∀ z : Nat, z < 2 → n / 2 ^ j % 2 = z → (if z = 1 then f_X12_isBit_j42 (bM I l s v J R) 1 else f_X12_isBit_j41 (bM I l s v J R)) = some (Int32.ofNat (n / 2 ^ j % 2)) := fun z hz h => by
    rcases (by omega : z = 0 ∨ z = 1) with e | e
    · rw [h, e]
      rfl
    · rw [h, e]
      rfl
  unfold f_X12_isBit
  refine xb_eq (m_g2 (by decide) hR) (xg_eq _ (m_as (by decide) hr) A.1 ?_)
  rw [i32_sar4 (by omega)]
  by_cases q : k ≤ j / 16
  · rw [if_pos ((i32_le (by omega) (by omega)).mpr q)]
    have z : n / 2 ^ j % 2 = 0 := by
      have : n < 2 ^ j := by
        have h1 := A.2.2.1
        rw [Bp_two] at h1
        exact Nat.lt_of_lt_of_le h1 (Nat.pow_le_pow_right (by decide) (by omega))
      rw [Nat.div_eq_of_lt this]
    exact jz 0 (by decide) z
  · rw [if_neg (i32_nle (by omega) (by omega) (by omega)), show (440 : Int32) * Int32.ofNat r + Int32.ofNat (j / 16) = Int32.ofNat (440 * r + j / 16) from i32_ma 440 r _]
    refine xb_eq (m_g1 (by decide) hR) (xg_eq _ (m_al (by decide) (by omega)) (A.2.2.2.2 _ (by omega)) ?_)
    rw [i32_mask4, i32_sar (by omega) (by omega), i32_mask1, dg_bit]
    have h2 := Nat.mod_lt (n / 2 ^ j) (show 0 < 2 by decide)
    rcases (by omega : n / 2 ^ j % 2 = 0 ∨ n / 2 ^ j % 2 = 1) with e | e
    · rw [e, if_neg (by decide)]
      rfl
    · rw [e, if_pos (by decide)]
      rfl
theorem m_bits_loop {M : xM} : ∀ (t f w : Nat), t < 65536 → t < f → ∃ u, xloop (f_X12_bits_s58 M) f (Int32.ofNat t, Int32.ofNat w) = some (.inr (Int32.ofNat (w + u))) ∧ t < 2 ^ u ∧ (u = 0 ∨ 2 ^ (u - 1) ≤ t) := by
  intro t
  induction t using Nat.strongRecOn with
  | _ t ih =>
    intro f w ht hf
    by_cases h : t = 0
    · subst h
      refine ⟨0, xl_e hf ?_, by decide, Or.inl rfl⟩
      unfold f_X12_bits_s58 xlet
      dsimp only
      rw [if_pos (by decide)]
      rfl
    · have st1 : f_X12_bits_s58 M (Int32.ofNat t, Int32.ofNat w) = some (.inr (.inr (Int32.ofNat (t / 2), Int32.ofNat (w + 1)))) := by
        unfold f_X12_bits_s58 xlet
        dsimp only
        rw [if_neg (show ¬ (Int32.ofNat t ≤ 0) from i32_nle (m := 0) (by omega) (by omega) (by omega)), i32_sar1 (by omega), i32_ofs]
      obtain ⟨u, g1, g2, g3⟩ := ih (t / 2) (by omega) (f - 1) (w + 1) (by omega) (by omega)
      refine ⟨u + 1, ?_, ?_, Or.inr ?_⟩
      · rw [xl_s (by omega) st1, g1, show w + 1 + u = w + (u + 1) by omega]
      · rw [Nat.pow_succ]
        omega
      · show 2 ^ u ≤ t
        rcases g3 with g3 | g3
        · subst g3
          show 1 ≤ t
          omega
        · cases u with
          | zero =>
            show 1 ≤ t
            omega
          | succ u =>
            rw [Nat.pow_succ]
            have : 2 ^ u ≤ t / 2 := g3
            omega
end GC
