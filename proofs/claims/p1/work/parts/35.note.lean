/-! clashes, notes, tell -/
theorem KK_20 (i : Nat) (hi : i < 26) : KK (20 + i) = (14, 10) := by
  unfold KK
  rw [if_pos (by omega), if_pos (by omega), if_pos (by omega), if_neg (by omega), if_neg (by omega), if_neg (by omega), if_neg (by omega), if_neg (by omega)]
theorem KK_49 (i : Nat) (hi : i < 20) : KK (49 + i) = (14, 10) := by
  unfold KK
  rw [if_pos (by omega), if_pos (by omega), if_neg (by omega), if_pos (by omega), if_pos (by omega), if_neg (by omega), if_neg (by omega), if_pos (by omega)]
theorem i32_mod20 : ∀ a, a < 40 → Int32.ofNat a - Int32.ofNat a / 20 * 20 = Int32.ofNat (a % 20) := by decide +kernel
section EV
variable {I : Nat → Nat → Int32} {J : Nat → Nat → Int64} {R : Nat → Nat → Option Nat}
def Cl (I : Nat → Nat → Int32) (p : Nat) (rk sd : Int32) (q : Nat) : Prop := q ≠ p ∧ I 13 (32 + q) = rk ∧ I 14 (32 + q) ≠ sd
theorem c_cl_step {p q : Nat} {rk sd : Int32} (hR : RA R) (hp : p < 16) (hq : q < 16) : (Cl I p rk sd q → f_X1_clashes_s49 (mg 4625 I J R) (11, rk, sd, Int32.ofNat (32 + p), Int32.ofNat (32 + q)) = some (.inr (.inl (.inl ())))) ∧ (¬ Cl I p rk sd q → f_X1_clashes_s49 (mg 4625 I J R) (11, rk, sd, Int32.ofNat (32 + p), Int32.ofNat (32 + q)) = some (.inr (.inr (11, rk, sd, Int32.ofNat (32 + p), Int32.ofNat (32 + (q + 1)))))) := by
  unfold f_X1_clashes_s49 xlet f_X1_clashes_j91 xlet
  dsimp only
  rw [ogR_11_1 hR]
  dsimp only [Option.bind_some]
  rw [ogL_13]
  dsimp only [Option.bind_some]
  rw [if_neg (show ¬ ((48 : Int32) ≤ Int32.ofNat (32 + q)) from fun z => absurd ((i32_le (k := 48) (by omega) (by omega)).mp z) (by omega)), i32_ofs]
  unfold Cl
  by_cases h1 : q = p
  · rw [if_pos (by rw [h1])]
    exact ⟨fun z => absurd h1 z.1, fun _ => rfl⟩
  · rw [if_neg (i32_neq (by omega) (by omega) (by omega)), c_aI13 (by omega)]
    dsimp only [Option.bind_some]
    by_cases h2 : I 13 (32 + q) = rk
    · rw [if_pos h2, ogR_11_2 hR]
      dsimp only [Option.bind_some]
      rw [c_aI14 (by omega)]
      dsimp only [Option.bind_some]
      by_cases h3 : I 14 (32 + q) = sd
      · rw [if_pos h3]
        exact ⟨fun z => absurd h3 z.2.2, fun _ => rfl⟩
      · rw [if_neg h3]
        exact ⟨fun _ => rfl, fun z => absurd ⟨h1, h2, h3⟩ z⟩
    · rw [if_neg h2]
      exact ⟨fun z => absurd z.2.1 h2, fun _ => rfl⟩
theorem c_cl_loop {p : Nat} {rk sd : Int32} (hR : RA R) (hp : p < 16) : ∀ (m i f : Nat), i + m = 16 → m < f → ((∃ q, i ≤ q ∧ q < 16 ∧ Cl I p rk sd q) → xloop (f_X1_clashes_s49 (mg 4625 I J R)) f (11, rk, sd, Int32.ofNat (32 + p), Int32.ofNat (32 + i)) = some (.inr (.inl ()))) ∧ ((∀ q, i ≤ q → q < 16 → ¬ Cl I p rk sd q) → xloop (f_X1_clashes_s49 (mg 4625 I J R)) f (11, rk, sd, Int32.ofNat (32 + p), Int32.ofNat (32 + i)) = some (.inr (.inr ()))) := by
  intro m
  induction m with
  | zero =>
    intro i f hi hf
    have : i = 16 := by omega
    subst this
    refine ⟨fun ⟨q, h1, h2, _⟩ => by omega, fun _ => xl_e hf ?_⟩
    unfold f_X1_clashes_s49 xlet
    dsimp only
    refine xb_eq (ogR_11_1 hR) (xb_eq ogL_13 ?_)
    rw [if_pos (show (48 : Int32) ≤ Int32.ofNat (32 + 16) by decide)]
  | succ m ih =>
    intro i f hi hf
    have hs := c_cl_step (I := I) (J := J) (rk := rk) (sd := sd) hR hp (show i < 16 by omega)
    by_cases h : Cl I p rk sd i
    · exact ⟨fun _ => xl_e (by omega) (hs.1 h), fun z => absurd h (z i (Nat.le_refl _) (by omega))⟩
    · rw [xl_s (by omega) (hs.2 h)]
      have := ih (i + 1) (f - 1) (by omega) (by omega)
      refine ⟨fun ⟨q, h1, h2, h3⟩ => this.1 ⟨q, ?_, h2, h3⟩, fun z => this.2 (fun q h1 h2 => z q (by omega) h2)⟩
      have : q ≠ i := fun e => h (e ▸ h3)
      omega
def ClM (I : Nat → Nat → Int32) (s : Nat) (rk sd : Int32) (q : Nat) : Prop := q ≠ s ∧ I 4575 (3 * q + 2) = rk ∧ I 4576 (3 * q + 2) ≠ sd
theorem e3q2 (q : Nat) : (3 : Int32) * Int32.ofNat q + 2 = Int32.ofNat (3 * q + 2) := by
  rw [Int32.ofNat_add, Int32.ofNat_mul]
  rfl
theorem m_io_step {s q : Nat} {rk sd : Int32} (hR : RA R) (hs : s < 16) (hq : q < 16) : (ClM I s rk sd q → f_X12_isOther_s6 (mg 4625 I J R) (4561, Int32.ofNat s, rk, sd, 0, Int32.ofNat q) = some (.inr (.inr (4561, Int32.ofNat s, rk, sd, 1, Int32.ofNat (q + 1))))) ∧ (¬ ClM I s rk sd q → f_X12_isOther_s6 (mg 4625 I J R) (4561, Int32.ofNat s, rk, sd, 0, Int32.ofNat q) = some (.inr (.inr (4561, Int32.ofNat s, rk, sd, 0, Int32.ofNat (q + 1))))) ∧ f_X12_isOther_s6 (mg 4625 I J R) (4561, Int32.ofNat s, rk, sd, 1, Int32.ofNat q) = some (.inr (.inr (4561, Int32.ofNat s, rk, sd, 1, Int32.ofNat (q + 1)))) := by
  have h16 : ¬ ((16 : Int32) ≤ Int32.ofNat q) := fun z => absurd ((i32_le (k := 16) (by omega) (by omega)).mp z) (by omega)
  have a58 : f_X12_isOther_j58 (mg 4625 I J R) 4561 (Int32.ofNat s) rk sd (Int32.ofNat q) = some (.inr (.inr (4561, Int32.ofNat s, rk, sd, 0, Int32.ofNat (q + 1)))) := by
    unfold f_X12_isOther_j58 f_X12_isOther_j59 xlet
    rw [i32_ofs]
  have a54 : f_X12_isOther_j54 (mg 4625 I J R) 4561 (Int32.ofNat s) rk sd (Int32.ofNat q) = some (.inr (.inr (4561, Int32.ofNat s, rk, sd, 1, Int32.ofNat (q + 1)))) := by
    unfold f_X12_isOther_j54 f_X12_isOther_j59 xlet
    rw [i32_ofs]
  refine ⟨?_, ?_, ?_⟩
  · intro ⟨h1, h2, h3⟩
    unfold f_X12_isOther_s6 xlet
    dsimp only
    rw [if_neg h16, if_pos rfl, if_neg (i32_neq (by omega) (by omega) h1)]
    refine xb_eq (ogR_4561_15 hR) ?_
    rw [e3q2]
    refine xb_eq (m_aI15 (by omega)) ?_
    rw [if_pos h2]
    refine xb_eq (ogR_4561_16 hR) (xb_eq (m_aI16 (by omega)) ?_)
    rw [if_neg h3, a54]
  · intro h
    unfold f_X12_isOther_s6 xlet
    dsimp only
    rw [if_neg h16, if_pos rfl]
    by_cases h1 : q = s
    · rw [if_pos (by rw [h1]), a58]
    · rw [if_neg (i32_neq (by omega) (by omega) h1)]
      refine xb_eq (ogR_4561_15 hR) ?_
      rw [e3q2]
      refine xb_eq (m_aI15 (by omega)) ?_
      by_cases h2 : I 4575 (3 * q + 2) = rk
      · rw [if_pos h2]
        refine xb_eq (ogR_4561_16 hR) (xb_eq (m_aI16 (by omega)) ?_)
        by_cases h3 : I 4576 (3 * q + 2) = sd
        · rw [if_pos h3, a58]
        · exact absurd ⟨h1, h2, h3⟩ h
      · rw [if_neg h2, a58]
  · unfold f_X12_isOther_s6 xlet
    dsimp only
    rw [if_neg h16, if_neg (by decide), a54]
theorem m_io_end {s : Nat} {rk sd y : Int32} {f : Nat} (hf : 0 < f) : xloop (f_X12_isOther_s6 (mg 4625 I J R)) f (4561, Int32.ofNat s, rk, sd, y, Int32.ofNat 16) = some (.inr y) := by
  refine xl_e hf ?_
  unfold f_X12_isOther_s6 xlet
  dsimp only
  rw [if_pos (show (16 : Int32) ≤ Int32.ofNat 16 by decide)]
theorem m_io_1 {s : Nat} {rk sd : Int32} (hR : RA R) (hs : s < 16) : ∀ (m i f : Nat), i + m = 16 → m < f → xloop (f_X12_isOther_s6 (mg 4625 I J R)) f (4561, Int32.ofNat s, rk, sd, 1, Int32.ofNat i) = some (.inr 1) := by
  intro m
  induction m with
  | zero =>
    intro i f hi hf
    have : i = 16 := by omega
    subst this
    exact m_io_end hf
  | succ m ih =>
    intro i f hi hf
    rw [xl_s (by omega) (m_io_step hR hs (show i < 16 by omega)).2.2]
    exact ih (i + 1) (f - 1) (by omega) (by omega)
theorem m_io_loop {s : Nat} {rk sd : Int32} (hR : RA R) (hs : s < 16) : ∀ (m i f : Nat), i + m = 16 → m < f → ((∃ q, i ≤ q ∧ q < 16 ∧ ClM I s rk sd q) → xloop (f_X12_isOther_s6 (mg 4625 I J R)) f (4561, Int32.ofNat s, rk, sd, 0, Int32.ofNat i) = some (.inr 1)) ∧ ((∀ q, i ≤ q → q < 16 → ¬ ClM I s rk sd q) → xloop (f_X12_isOther_s6 (mg 4625 I J R)) f (4561, Int32.ofNat s, rk, sd, 0, Int32.ofNat i) = some (.inr 0)) := by
  intro m
  induction m with
  | zero =>
    intro i f hi hf
    have : i = 16 := by omega
    subst this
    exact ⟨fun ⟨q, h1, h2, _⟩ => by omega, fun _ => m_io_end hf⟩
  | succ m ih =>
    intro i f hi hf
    have hs' := m_io_step (I := I) (J := J) (rk := rk) (sd := sd) hR hs (show i < 16 by omega)
    by_cases h : ClM I s rk sd i
    · refine ⟨fun _ => ?_, fun z => absurd h (z i (Nat.le_refl _) (by omega))⟩
      rw [xl_s (by omega) (hs'.1 h)]
      exact m_io_1 hR hs m (i + 1) (f - 1) (by omega) (by omega)
    · rw [xl_s (by omega) (hs'.2.1 h)]
      have := ih (i + 1) (f - 1) (by omega) (by omega)
      refine ⟨fun ⟨q, h1, h2, h3⟩ => this.1 ⟨q, ?_, h2, h3⟩, fun z => this.2 (fun q h1 h2 => z q (by omega) h2)⟩
      have : q ≠ i := fun e => h (e ▸ h3)
      omega
theorem m_isOther {s : Nat} {rk sd : Int32} (hR : RA R) (hs : s < 16) : ((∃ q, q < 16 ∧ ClM I s rk sd q) → f_X12_isOther (mg 4625 I J R) 4561 (Int32.ofNat s) rk sd = some 1) ∧ ((∀ q, q < 16 → ¬ ClM I s rk sd q) → f_X12_isOther (mg 4625 I J R) 4561 (Int32.ofNat s) rk sd = some 0) := by
  have h := m_io_loop (I := I) (J := J) (rk := rk) (sd := sd) hR hs 16 0 xF rfl (by decide)
  unfold f_X12_isOther xlet
  refine ⟨fun ⟨q, h1, h2⟩ => xb_eq (h.1 ⟨q, by omega, h1, h2⟩) rfl, fun z => xb_eq (h.2 (fun q _ h1 => z q h1)) rfl⟩
theorem cl_iff {p : Nat} {rk sd : Int32} (tr : TabRel I) (hp : p < 16) : (∃ q, q < 16 ∧ Cl I p rk sd q) ↔ ∃ q, q < 16 ∧ ClM I (sgp p) rk sd q := by
  constructor
  · intro ⟨q, h1, h2, h3, h4⟩
    obtain ⟨t1, t2, -⟩ := tr q 2 h1 (by omega)
    exact ⟨sgp q, sgp_lt q h1, fun e => h2 (sgp_inj q h1 p hp e), t1.symm.trans h3, fun e => h4 (t2.trans e)⟩
  · intro ⟨q, h1, h2, h3, h4⟩
    obtain ⟨g1, g2⟩ := sgi_ok q h1
    obtain ⟨t1, t2, -⟩ := tr (sgi q) 2 g1 (by omega)
    rw [g2] at t1 t2
    exact ⟨sgi q, g1, fun e => h2 (by rw [← g2, e]), t1.trans h3, fun e => h4 (t2.symm.trans e)⟩
/-! notes of changes -/
def ntC (I : Nat → Nat → Int32) (f m : Nat) (kind key : Int32) : Nat → Nat → Int32 := st (st (st I 46 ((f + m) % 20) kind) 47 ((f + m) % 20) key) 11 14 (Int32.ofNat (m + 1))
theorem c_note {f m : Nat} {kind key : Int32} (hR : RA R) (hf : I 11 13 = Int32.ofNat f) (hm : I 11 14 = Int32.ofNat m) (hf2 : f < 20) (hm2 : m < 20) : f_X1_note (mg 4625 I J R) 11 kind key = some (Int32.ofNat ((f + m) % 20), mg 4625 (ntC I f m kind key) J R) := by
  have ha : (f + m) % 20 < 20 := Nat.mod_lt _ (by decide)
  have w46 : ∀ v, wI (mg 4625 I J R) 46 (Int32.ofNat ((f + m) % 20)) v = some (mg 4625 (st I 46 ((f + m) % 20) v) J R) := fun v => by
    rw [owI_46, if_pos (xvi_nat ha (by decide)), i32_nat (by omega)]
    rfl
  have w47 : ∀ (I : Nat → Nat → Int32) v, wI (mg 4625 I J R) 47 (Int32.ofNat ((f + m) % 20)) v = some (mg 4625 (st I 47 ((f + m) % 20) v) J R) := fun I v => by
    rw [owI_47, if_pos (xvi_nat ha (by decide)), i32_nat (by omega)]
    rfl
  unfold f_X1_note
  refine xb_eq (ogI_11.trans (congrArg some hm)) ?_
  rw [if_pos (show Int32.ofNat m < 20 from (i32_lt (m := 20) (by omega) (by omega)).mpr hm2)]
  unfold f_X1_note_j32
  refine xb_eq (ogI_11.trans (congrArg some hf)) (xb_eq (ogI_11.trans (congrArg some hm)) ?_)
  unfold xlet
  dsimp only
  rw [← Int32.ofNat_add, i32_mod20 _ (by omega)]
  refine xb_eq (ogR_11_9 hR) (xb_eq (w46 _) (xb_eq (ogR_11_10 hR) (xb_eq (w47 _ _) ?_)))
  refine xb_eq (ogI_11.trans (congrArg some (show st (st I 46 _ _) 47 _ _ 11 14 = Int32.ofNat m from hm))) ?_
  rw [i32_ofs]
  exact xb_eq osI_11 rfl
def ntM (I : Nat → Nat → Int32) (f m : Nat) (so pl x1 x2 x3 : Int32) : Nat → Nat → Int32 := st (st (st (st (st (st I 4617 ((f + m) % 20) so) 4618 ((f + m) % 20) pl) 4619 ((f + m) % 20) x1) 4620 ((f + m) % 20) x2) 4621 ((f + m) % 20) x3) 4561 84 (Int32.ofNat (m + 1))
theorem m_note {f m : Nat} {so pl x1 x2 x3 : Int32} (hR : RA R) (hf : I 4561 83 = Int32.ofNat f) (hm : I 4561 84 = Int32.ofNat m) (hf2 : f < 20) (hm2 : m < 20) : f_X12_note (mg 4625 I J R) 4561 so pl x1 x2 x3 = some (Int32.ofNat ((f + m) % 20), mg 4625 (ntM I f m so pl x1 x2 x3) J R) := by
  have ha : (f + m) % 20 < 20 := Nat.mod_lt _ (by decide)
  have w0 : ∀ (I : Nat → Nat → Int32) v, wI (mg 4625 I J R) 4617 (Int32.ofNat ((f + m) % 20)) v = some (mg 4625 (st I 4617 ((f + m) % 20) v) J R) := fun I v => by
    rw [owI_4617, if_pos (xvi_nat ha (by decide)), i32_nat (by omega)]
    rfl
  have w1 : ∀ (I : Nat → Nat → Int32) v, wI (mg 4625 I J R) 4618 (Int32.ofNat ((f + m) % 20)) v = some (mg 4625 (st I 4618 ((f + m) % 20) v) J R) := fun I v => by
    rw [owI_4618, if_pos (xvi_nat ha (by decide)), i32_nat (by omega)]
    rfl
  have w2 : ∀ (I : Nat → Nat → Int32) v, wI (mg 4625 I J R) 4619 (Int32.ofNat ((f + m) % 20)) v = some (mg 4625 (st I 4619 ((f + m) % 20) v) J R) := fun I v => by
    rw [owI_4619, if_pos (xvi_nat ha (by decide)), i32_nat (by omega)]
    rfl
  have w3 : ∀ (I : Nat → Nat → Int32) v, wI (mg 4625 I J R) 4620 (Int32.ofNat ((f + m) % 20)) v = some (mg 4625 (st I 4620 ((f + m) % 20) v) J R) := fun I v => by
    rw [owI_4620, if_pos (xvi_nat ha (by decide)), i32_nat (by omega)]
    rfl
  have w4 : ∀ (I : Nat → Nat → Int32) v, wI (mg 4625 I J R) 4621 (Int32.ofNat ((f + m) % 20)) v = some (mg 4625 (st I 4621 ((f + m) % 20) v) J R) := fun I v => by
    rw [owI_4621, if_pos (xvi_nat ha (by decide)), i32_nat (by omega)]
    rfl
  unfold f_X12_note
  refine xb_eq (ogI_4561.trans (congrArg some hm)) ?_
  rw [if_neg (show ¬ (Int32.ofNat m = 20) from i32_neq (m := 20) (by omega) (by omega) (by omega))]
  unfold f_X12_note_j32
  refine xb_eq (ogI_4561.trans (congrArg some hf)) (xb_eq (ogI_4561.trans (congrArg some hm)) ?_)
  unfold xlet
  dsimp only
  rw [← Int32.ofNat_add, i32_mod20 _ (by omega)]
  refine xb_eq (ogR_4561_77 hR) (xb_eq (w0 _ _) (xb_eq (ogR_4561_78 hR) (xb_eq (w1 _ _) (xb_eq (ogR_4561_79 hR) (xb_eq (w2 _ _) (xb_eq (ogR_4561_80 hR) (xb_eq (w3 _ _) (xb_eq (ogR_4561_81 hR) (xb_eq (w4 _ _) ?_)))))))))
  refine xb_eq (ogI_4561.trans (congrArg some (show st (st (st (st (st I 4617 _ _) 4618 _ _) 4619 _ _) 4620 _ _) 4621 _ _ 4561 84 = Int32.ofNat m from hm))) ?_
  rw [i32_ofs]
  exact xb_eq osI_4561 rfl
theorem c_row {at_ : Nat} (hR : RA R) (h : at_ < 20) : (aR (mg 4625 I J R) 48 18 (Int32.ofNat at_)).bind id = some (49 + at_) := by
  rw [oaR_48, if_pos (xvi_nat h (by decide)), i32_nat (by omega)]
  show R 48 at_ = _
  refine hR.get (by decide) (by show at_ < 20; exact h) ?_
  show (if at_ < 20 then some (49 + 1 * at_) else none) = _
  rw [if_pos h, Nat.one_mul]
theorem c_fun {j : Nat} (hR : RA R) (h : j < 26) : (aR (mg 4625 I J R) 19 18 (Int32.ofNat j)).bind id = some (20 + j) := by
  rw [oaR_19, if_pos (xvi_nat h (by decide)), i32_nat (by omega)]
  show R 19 j = _
  refine hR.get (by decide) (by show j < 26; exact h) ?_
  show (if j < 26 then some (20 + 1 * j) else none) = _
  rw [if_pos h, Nat.one_mul]
theorem wI_row {at_ k : Nat} {v : Int32} (h : at_ < 20) (hk : k < 10) : wI (mg 4625 I J R) (49 + at_) (Int32.ofNat k) v = some (mg 4625 (st I (49 + at_) k v) J R) := by
  rw [e_wI (len := 10) (by omega) (KK_49 at_ h) hk (by decide)]
  rfl
theorem aI_row {at_ k : Nat} (h : at_ < 20) (hk : k < 10) : aI (mg 4625 I J R) (49 + at_) 14 (Int32.ofNat k) = some (I (49 + at_) k) := e_aI (len := 10) (by omega) (KK_49 at_ h) hk (by decide)
theorem wI_fun {j k : Nat} {v : Int32} (h : j < 26) (hk : k < 10) : wI (mg 4625 I J R) (20 + j) (Int32.ofNat k) v = some (mg 4625 (st I (20 + j) k v) J R) := by
  rw [e_wI (len := 10) (by omega) (KK_20 j h) hk (by decide)]
  rfl
theorem aI_fun {j k : Nat} (h : j < 26) (hk : k < 10) : aI (mg 4625 I J R) (20 + j) 14 (Int32.ofNat k) = some (I (20 + j) k) := e_aI (len := 10) (by omega) (KK_20 j h) hk (by decide)
def toC (I : Nat → Nat → Int32) (f m s : Nat) (rk sd mn : Int32) : Nat → Nat → Int32 := bgI (st (st (st (ntC I f m 1 (Int32.ofNat s)) (49 + (f + m) % 20) 0 (I 13 s)) (49 + (f + m) % 20) 1 (I 14 s)) (49 + (f + m) % 20) 2 (I 15 s)) s rk sd mn
theorem c_tellOperator {c f m s : Nat} {fx rk sd mn : Int32} (hR : RA R) (hf : I 11 13 = Int32.ofNat f) (hm : I 11 14 = Int32.ofNat m) (hf2 : f < 20) (hm2 : m < 20) (hs : s < 48) (h : f_X1_slot (mg 4625 I J R) 11 (Int32.ofNat c) fx = some (Int32.ofNat s)) : f_X1_tellOperator (mg 4625 I J R) 11 (Int32.ofNat c) fx rk sd mn = some (mg 4625 (toC I f m s rk sd mn) J R) := by
  have ha : (f + m) % 20 < 20 := Nat.mod_lt _ (by decide)
  have r13 : ∀ (v0 : Int32), st (ntC I f m 1 (Int32.ofNat s)) (49 + (f + m) % 20) 0 v0 14 s = I 14 s := fun v0 => by
    rw [st_ne (by omega)]; rfl
  have r15 : ∀ (v0 v1 : Int32), st (st (ntC I f m 1 (Int32.ofNat s)) (49 + (f + m) % 20) 0 v0) (49 + (f + m) % 20) 1 v1 15 s = I 15 s := fun v0 v1 => by
    rw [st_ne (by omega), st_ne (by omega)]; rfl
  unfold f_X1_tellOperator
  refine xb_iq ok_11 (xb_eq h ?_)
  rw [if_pos (i32_0le (by omega))]
  refine xb_eq (ogR_11_11 hR) (xb_iq ok_11 (xb_eq (c_note hR hf hm hf2 hm2) ?_))
  refine xb_eq (c_row hR ha) (xb_eq (ogR_11_1 hR) (xb_eq (c_aI13 hs) (xb_eq (wI_row (k := 0) ha (by decide)) ?_)))
  refine xb_eq (ogR_11_2 hR) (xb_eq ((c_aI14 hs).trans (congrArg some (r13 _))) (xb_eq (wI_row (k := 1) ha (by decide)) ?_))
  refine xb_eq (ogR_11_3 hR) (xb_eq ((c_aI15 hs).trans (congrArg some (r15 _ _))) (xb_eq (wI_row (k := 2) ha (by decide)) ?_))
  refine xb_iq ok_11 (xb_eq (e_putOperator (by decide) (hR.get (by decide) (by decide) rfl) (hR.get (by decide) (by decide) rfl) (hR.get (by decide) (by decide) rfl) hs) ?_)
  rfl
end EV
