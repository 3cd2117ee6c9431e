/-! rows copied, functions made -/
def cpF (I : Nat → Nat → Int32) (a b i n : Nat) : Nat → Nat → Int32 := va_up I b (fun k => if i ≤ k ∧ k < n then I a k else I b k)
theorem cpF_s {I : Nat → Nat → Int32} {a b i n : Nat} (h : a ≠ b) (hi : i < n) : cpF (st I b i (I a i)) a b (i + 1) n = cpF I a b i n := by
  have e : (fun k => if i + 1 ≤ k ∧ k < n then st I b i (I a i) a k else st I b i (I a i) b k) = (fun k => if i ≤ k ∧ k < n then I a k else I b k) := by
    funext k
    rw [st_ne h]
    by_cases hk : k = i
    · rw [hk, if_neg (by omega), if_pos (by omega), st_self]
    · rw [st_nk hk]
      by_cases h2 : i + 1 ≤ k ∧ k < n
      · rw [if_pos h2, if_pos (by omega)]
      · rw [if_neg h2, if_neg (by omega)]
  unfold cpF
  rw [e]
  exact up_up
theorem cpF_z {I : Nat → Nat → Int32} {a b n : Nat} : cpF I a b n n = I := by
  unfold cpF
  refine up_id ?_
  funext k
  rw [if_neg (by omega)]
theorem cpF_ne {I : Nat → Nat → Int32} {a b i n x : Nat} (h : x ≠ b) : cpF I a b i n x = I x := by
  unfold cpF
  rw [va_up_ne _ _ h]
theorem cpF_at {I : Nat → Nat → Int32} {a b i n k : Nat} : cpF I a b i n b k = if i ≤ k ∧ k < n then I a k else I b k := by
  unfold cpF
  rw [va_up_self]
theorem i32_ma (c a b : Nat) : Int32.ofNat c * Int32.ofNat a + Int32.ofNat b = Int32.ofNat (c * a + b) := by
  rw [Int32.ofNat_add, Int32.ofNat_mul]
theorem i32_nle {k m : Nat} (h : k < 2147483648) (h' : m < 2147483648) (hn : m < k) : ¬ (Int32.ofNat k ≤ Int32.ofNat m) := fun q => absurd ((i32_le h h').mp q) (by omega)
section EX
variable {I : Nat → Nat → Int32} {J : Nat → Nat → Int64} {R : Nat → Nat → Option Nat}
theorem c_cp_loop {a b : Nat} (ha : a < 4625) (hb : b < 4625) (ka : KK a = (14, 10)) (kb' : KK b = (14, 10)) (hab : a ≠ b) : ∀ (m i f : Nat) (I : Nat → Nat → Int32), i + m = 10 → m < f → xloop f_X1_copyRow_s2 f (a, b, Int32.ofNat i, mg 4625 I J R) = some (.inr (mg 4625 (cpF I a b i 10) J R)) := by
  intro m
  induction m with
  | zero =>
    intro i f I hi hf
    have e : i = 10 := by omega
    subst e
    refine xl_e hf ?_
    unfold f_X1_copyRow_s2 xlet
    dsimp only
    refine xb_eq (e_gL (len := 10) ha ka) ?_
    rw [if_pos (by decide), cpF_z]
  | succ m ih =>
    intro i f I hi hf
    rw [← cpF_s hab (show i < 10 by omega)]
    refine (xl_s (by omega) ?_).trans (ih (i + 1) (f - 1) (st I b i (I a i)) (by omega) (by omega))
    unfold f_X1_copyRow_s2 xlet
    dsimp only
    refine xb_eq (e_gL (len := 10) ha ka) ?_
    rw [if_neg (i32_nle (by omega) (by omega) (by omega))]
    refine xb_eq (e_gL (len := 10) hb kb') ?_
    rw [if_neg (i32_nle (by omega) (by omega) (by omega))]
    refine xb_eq (e_aI (len := 10) ha ka (by omega) (by decide)) (xb_eq (e_wI (len := 10) hb kb' (by omega) (by decide)) ?_)
    rw [i32_ofs]
    rfl
theorem c_copyRow {a b : Nat} (ha : a < 4625) (hb : b < 4625) (ka : KK a = (14, 10)) (kb' : KK b = (14, 10)) (hab : a ≠ b) : f_X1_copyRow (mg 4625 I J R) a b = some (mg 4625 (cpF I a b 0 10) J R) := by
  unfold f_X1_copyRow xlet
  refine xb_eq (c_cp_loop ha hb ka kb' hab 10 0 xF I rfl (by decide)) rfl
def nfC (I : Nat → Nat → Int32) (f m j : Nat) : Nat → Nat → Int32 := cpF (ntC I f m 3 (Int32.ofNat j)) (20 + j) (49 + (f + m) % 20) 0 10
theorem c_noteFunction {f m j : Nat} (hR : RA R) (hf : I 11 13 = Int32.ofNat f) (hm : I 11 14 = Int32.ofNat m) (hf2 : f < 20) (hm2 : m < 20) (hj : j < 26) : f_X1_noteFunction (mg 4625 I J R) 11 (Int32.ofNat j) = some (mg 4625 (nfC I f m j) J R) := by
  have ha : (f + m) % 20 < 20 := Nat.mod_lt _ (by decide)
  unfold f_X1_noteFunction
  refine xb_eq (ogR_11_8 hR) (xb_eq (c_fun hR hj) (xb_eq (ogR_11_11 hR) (xb_iq ok_11 (xb_eq (c_note hR hf hm hf2 hm2) (xb_eq (c_row hR ha) (xb_eq (c_copyRow (by omega) (by omega) (KK_20 j hj) (KK_49 _ ha) (by omega)) ?_))))))
  rfl
def mfC (I : Nat → Nat → Int32) (f m j : Nat) (p : Int32) : Nat → Nat → Int32 := st (st (nfC I f m j) (20 + j) 0 p) (20 + j) 1 0
theorem c_makeFunction {f m j : Nat} {p : Int32} (hR : RA R) (hf : I 11 13 = Int32.ofNat f) (hm : I 11 14 = Int32.ofNat m) (hf2 : f < 20) (hm2 : m < 20) (hj : j < 26) : f_X1_makeFunction (mg 4625 I J R) 11 (Int32.ofNat j) p = some (mg 4625 (mfC I f m j p) J R) := by
  unfold f_X1_makeFunction
  refine xb_iq ok_11 (xb_eq (c_noteFunction hR hf hm hf2 hm2 hj) ?_)
  refine xb_eq (ogR_11_8 hR) (xb_eq (c_fun hR hj) (xb_eq (wI_fun (k := 0) hj (by decide)) ?_))
  exact xb_eq (ogR_11_8 hR) (xb_eq (c_fun hR hj) (xb_eq (wI_fun (k := 1) hj (by decide)) rfl))
theorem c_parametersOf {j : Nat} (hR : RA R) (hj : j < 26) : f_X1_parametersOf (mg 4625 I J R) 11 (Int32.ofNat j) = some (I (20 + j) 0) := by
  unfold f_X1_parametersOf
  rw [if_neg (i32_nlt0 (by omega)), if_pos (show Int32.ofNat j < 26 from (i32_lt (m := 26) (by omega) (by omega)).mpr hj)]
  exact xb_eq (ogR_11_8 hR) (xb_eq (c_fun hR hj) (xb_eq (aI_fun (k := 0) hj (by decide)) rfl))
theorem c_casesOf {j : Nat} (hR : RA R) (hj : j < 26) : f_X1_casesOf (mg 4625 I J R) 11 (Int32.ofNat j) = some (I (20 + j) 1) := by
  unfold f_X1_casesOf
  rw [if_neg (i32_nlt0 (by omega)), if_pos (show Int32.ofNat j < 26 from (i32_lt (m := 26) (by omega) (by omega)).mpr hj)]
  exact xb_eq (ogR_11_8 hR) (xb_eq (c_fun hR hj) (xb_eq (aI_fun (k := 1) hj (by decide)) rfl))
end EX
section EY
variable {I : Nat → Nat → Int32} {J : Nat → Nat → Int64} {R : Nat → Nat → Option Nat}
theorem m_aI11 {j : Nat} (hj : j < 26) : aI (mg 4625 I J R) 4571 14 (Int32.ofNat j) = some (I 4571 j) := by
  rw [oaI_4571, if_pos (xvi_nat hj (by decide)), i32_nat (by omega)]
theorem m_aI12 {j : Nat} (hj : j < 26) : aI (mg 4625 I J R) 4572 14 (Int32.ofNat j) = some (I 4572 j) := by
  rw [oaI_4572, if_pos (xvi_nat hj (by decide)), i32_nat (by omega)]
theorem m_aI13 {z : Nat} (hz : z < 208) : aI (mg 4625 I J R) 4573 14 (Int32.ofNat z) = some (I 4573 z) := by
  rw [oaI_4573, if_pos (xvi_nat hz (by decide)), i32_nat (by omega)]
theorem m_wI13 {z : Nat} {v : Int32} (hz : z < 208) : wI (mg 4625 I J R) 4573 (Int32.ofNat z) v = some (mg 4625 (st I 4573 z v) J R) := by
  rw [owI_4573, if_pos (xvi_nat hz (by decide)), i32_nat (by omega)]
  rfl
theorem m_wI11 {j : Nat} {v : Int32} (hj : j < 26) : wI (mg 4625 I J R) 4571 (Int32.ofNat j) v = some (mg 4625 (st I 4571 j v) J R) := by
  rw [owI_4571, if_pos (xvi_nat hj (by decide)), i32_nat (by omega)]
  rfl
theorem m_wI12 {j : Nat} {v : Int32} (hj : j < 26) : wI (mg 4625 I J R) 4572 (Int32.ofNat j) v = some (mg 4625 (st I 4572 j v) J R) := by
  rw [owI_4572, if_pos (xvi_nat hj (by decide)), i32_nat (by omega)]
  rfl
theorem m_wI82 {z : Nat} {v : Int32} (hz : z < 160) : wI (mg 4625 I J R) 4622 (Int32.ofNat z) v = some (mg 4625 (st I 4622 z v) J R) := by
  rw [owI_4622, if_pos (xvi_nat hz (by decide)), i32_nat (by omega)]
  rfl
theorem m_copyNodes0 {a b : Int32} : f_X12_copyNodes (mg 4625 I J R) 4561 a b 0 = some (mg 4625 I J R) := by
  unfold f_X12_copyNodes
  simp only [xlet]
  refine xb_eq (a := .inr (mg 4625 I J R)) (xl_e (by decide) ?_) rfl
  unfold f_X12_copyNodes_s3 xlet
  dsimp only
  rw [if_pos (by decide)]
theorem m_nf_step {j q i : Nat} (hR : RA R) (hj : j < 26) (hq : q < 20) (hi : i < 8) (hz : I 4573 (8 * j + i) = 0) : f_X12_noteFunction_s22 (4561, Int32.ofNat j, Int32.ofNat q, Int32.ofNat i, mg 4625 I J R) = some (.inr (.inr (4561, Int32.ofNat j, Int32.ofNat q, Int32.ofNat (i + 1), mg 4625 (st I 4622 (8 * q + i) 0) J R))) := by
  have e1 : (8 : Int32) * Int32.ofNat j + Int32.ofNat i = Int32.ofNat (8 * j + i) := i32_ma 8 j i
  have e2 : (8 : Int32) * Int32.ofNat q + Int32.ofNat i = Int32.ofNat (8 * q + i) := i32_ma 8 q i
  unfold f_X12_noteFunction_s22 xlet
  dsimp only
  rw [if_neg (show ¬ ((8 : Int32) ≤ Int32.ofNat i) from i32_nle (k := 8) (by omega) (by omega) hi), e1, e2]
  refine xb_eq (ogR_4561_82 hR) (xb_eq (ogR_4561_13 hR) (xb_eq ((m_aI13 (by omega)).trans (congrArg some hz)) (xb_eq (m_wI82 (by omega)) ?_)))
  refine xb_eq (ogR_4561_13 hR) (xb_eq ((m_aI13 (by omega)).trans (congrArg some ((congrFun (st_ne (by decide)) _).trans hz))) (xb_iq ok_4561 (xb_eq m_copyNodes0 ?_)))
  rw [i32_ofs]
theorem m_nf_loop {j q : Nat} (hR : RA R) (hj : j < 26) (hq : q < 20) : ∀ (m i f : Nat) (I : Nat → Nat → Int32), (∀ z, z < 208 → I 4573 z = 0) → i + m = 8 → m < f → ∃ w, xloop f_X12_noteFunction_s22 f (4561, Int32.ofNat j, Int32.ofNat q, Int32.ofNat i, mg 4625 I J R) = some (.inr (mg 4625 (va_up I 4622 w) J R)) := by
  intro m
  induction m with
  | zero =>
    intro i f I hz hi hf
    have e : i = 8 := by omega
    subst e
    refine ⟨I 4622, xl_e hf ?_⟩
    unfold f_X12_noteFunction_s22 xlet
    dsimp only
    rw [if_pos (by decide), up_id rfl]
  | succ m ih =>
    intro i f I hz hi hf
    obtain ⟨w, hw⟩ := ih (i + 1) (f - 1) (st I 4622 (8 * q + i) 0) (fun z h => (congrFun (st_ne (by decide)) _).trans (hz z h)) (by omega) (by omega)
    refine ⟨w, (xl_s (by omega) (m_nf_step hR hj hq (by omega) (hz _ (by omega)))).trans (hw.trans ?_)⟩
    unfold st
    rw [up_up]
theorem m_noteFunction {f m j : Nat} (hR : RA R) (hf : I 4561 83 = Int32.ofNat f) (hm : I 4561 84 = Int32.ofNat m) (hf2 : f < 20) (hm2 : m < 20) (hj : j < 26) (hz : ∀ z, z < 208 → I 4573 z = 0) : ∃ w, f_X12_noteFunction (mg 4625 I J R) 4561 (Int32.ofNat j) = some (mg 4625 (va_up (ntM I f m 3 (Int32.ofNat j) (I 4571 j) (I 4572 j) 0) 4622 w) J R) := by
  have ha : (f + m) % 20 < 20 := Nat.mod_lt _ (by decide)
  have nz : ∀ z, z < 208 → ntM I f m 3 (Int32.ofNat j) (I 4571 j) (I 4572 j) 0 4573 z = 0 := fun z h => by
    unfold ntM
    rw [st_ne (by decide), st_ne (by decide), st_ne (by decide), st_ne (by decide), st_ne (by decide), st_ne (by decide), hz z h]
  obtain ⟨w, hw⟩ := m_nf_loop (J := J) hR hj ha 8 0 xF _ nz rfl (by decide)
  refine ⟨w, ?_⟩
  unfold f_X12_noteFunction
  refine xb_eq (ogR_4561_11 hR) (xb_eq (m_aI11 hj) (xb_eq (ogR_4561_12 hR) (xb_eq (m_aI12 hj) (xb_iq ok_4561 (xb_eq (m_note hR hf hm hf2 hm2) ?_)))))
  simp only [xlet]
  exact xb_eq hw rfl
theorem m_df_loop {j : Nat} {y : Int32} (hR : RA R) (hj : j < 26) : ∀ (m i f : Nat) (I : Nat → Nat → Int32), i + m = 8 → m < f → ∃ w, xloop f_X12_define_s92 f (4561, Int32.ofNat j, y, Int32.ofNat i, mg 4625 I J R) = some (.inr (y, mg 4625 (va_up I 4573 w) J R)) := by
  intro m
  induction m with
  | zero =>
    intro i f I hi hf
    have e : i = 8 := by omega
    subst e
    refine ⟨I 4573, xl_e hf ?_⟩
    unfold f_X12_define_s92 xlet
    dsimp only
    rw [if_pos (by decide), up_id rfl]
  | succ m ih =>
    intro i f I hi hf
    have e1 : (8 : Int32) * Int32.ofNat j + Int32.ofNat i = Int32.ofNat (8 * j + i) := i32_ma 8 j i
    obtain ⟨w, hw⟩ := ih (i + 1) (f - 1) (st I 4573 (8 * j + i) 0) (by omega) (by omega)
    refine ⟨w, (xl_s (by omega) ?_).trans (hw.trans ?_)⟩
    · unfold f_X12_define_s92 xlet
      dsimp only
      rw [if_neg (show ¬ ((8 : Int32) ≤ Int32.ofNat i) from i32_nle (k := 8) (by omega) (by omega) (by omega)), e1]
      refine xb_eq (ogR_4561_13 hR) (xb_eq (m_wI13 (by omega)) ?_)
      rw [i32_ofs]
    · unfold st
      rw [up_up]
theorem m_define1 {f m j : Nat} {y p : Int32} (hR : RA R) (hf : I 4561 83 = Int32.ofNat f) (hm : I 4561 84 = Int32.ofNat m) (hf2 : f < 20) (hm2 : m < 20) (hj : j < 26) (hz : ∀ z, z < 208 → I 4573 z = 0) : ∃ I', f_X12_define_j68 (mg 4625 I J R) 4561 p (Int32.ofNat j) y = some (y, mg 4625 I' J R) ∧ I' 4561 0 = I 4561 0 := by
  obtain ⟨w, hw⟩ := m_noteFunction (J := J) hR hf hm hf2 hm2 hj hz
  obtain ⟨w', hw'⟩ := m_df_loop (J := J) (y := y) hR hj 8 0 xF (st (st (va_up (ntM I f m 3 (Int32.ofNat j) (I 4571 j) (I 4572 j) 0) 4622 w) 4571 j p) 4572 j 0) rfl (by decide)
  refine ⟨va_up (st (st (va_up (ntM I f m 3 (Int32.ofNat j) (I 4571 j) (I 4572 j) 0) 4622 w) 4571 j p) 4572 j 0) 4573 w', ?_, ?_⟩
  · unfold f_X12_define_j68
    refine xb_iq ok_4561 (xb_eq hw (xb_eq (ogR_4561_11 hR) (xb_eq (m_wI11 hj) (xb_eq (ogR_4561_12 hR) (xb_eq (m_wI12 hj) ?_)))))
    simp only [xlet]
    exact xb_eq hw' rfl
  · rfl
theorem m_def_bad {a b : Int32} : f_X12_define_j34 (mg 4625 I J R) 4561 a b 1 4561 = some (0, mg 4625 (thI I 1) J R) := by
  unfold f_X12_define_j34
  exact xb_iq ok_4561 (m_refX.trans rfl)
theorem l_define {w a b : Int32} {I1 : Nat → Nat → Int32} (h : f_X11_define (mg 4625 I J R) 0 a b = some (.inl w, mg 4625 I1 J R)) : f_L_define (mg 4625 I J R) 0 a b 4624 = some (0, mg 4625 I1 (oJ J w.toInt64) R) := by
  unfold f_L_define
  refine xb_iq ok_0 (xb_eq h ?_)
  simp only [xlet, Sum.elim_inl]
  exact xb_eq owJ0 rfl
theorem p1_define {P : xM → Prop} {f m f' m' : Nat} (hP : ∀ I J, P (mg 4625 I J R)) (hR : RA R) (h0 : ∀ j, j < 26 → I (20 + j) 0 = 0) (h1 : ∀ j, j < 26 → I 4571 j = 0) (hz : ∀ z, z < 208 → I 4573 z = 0) (hf : I 11 13 = Int32.ofNat f) (hm : I 11 14 = Int32.ofNat m) (hf2 : f < 20) (hm2 : m < 20) (hf' : I 4561 83 = Int32.ofNat f') (hm' : I 4561 84 = Int32.ofNat m') (hf2' : f' < 20) (hm2' : m' < 20) : op_define P (mg 4625 I J R) := by
  intro x1 x2
  have bad : f_X11_define (mg 4625 I J R) 0 (ch x1) x2 = some (.inr "java/lang/IllegalArgumentException", mg 4625 I J R) → f_X12_define (mg 4625 I J R) 4561 (ch x1) x2 = some (0, mg 4625 (thI I 1) J R) → opW P (f_L_define (mg 4625 I J R) 0 (ch x1) x2 4624) (fun σ => f_X12_define σ 4561 (ch x1) x2) := fun e0 e2 => by
    have e1 : f_L_define (mg 4625 I J R) 0 (ch x1) x2 4624 = some (1, mg 4625 I J R) := by
      unfold f_L_define
      refine xb_iq ok_0 (xb_eq e0 ?_)
      simp only [xlet, Sum.elim_inr, ↓reduceIte]
    exact op_ex e1 e2 thI_0 (by decide) (hP _ _)
  by_cases hq : (97 : Int32) ≤ ch x1 ∧ ch x1 ≤ (122 : Int32)
  · obtain ⟨j, hj, -, ej⟩ := nm_dom hq.1 hq.2
    have cL : ∀ r, (if ch x1 = (105 : Int32) then f_X11_define_j28 (mg 4625 I J R) else (if ch x1 = (115 : Int32) then f_X11_define_j28 (mg 4625 I J R) else (if x2 < (1 : Int32) then f_X11_define_j28 (mg 4625 I J R) else (if x2 ≤ (3 : Int32) then (gR (mg 4625 I J R) 0 11 2).bind (fun x3 => (if xk (mg 4625 I J R) x3 1 = true then (f_X1_parametersOf (mg 4625 I J R) x3 (ch x1 - 97)).bind (fun p4 => (if p4 = (0 : Int32) then f_X11_define_j62 (mg 4625 I J R) 0 x2 (ch x1 - 97) (-1 : Int32) else (gR (mg 4625 I J R) 0 11 2).bind (fun x5 => (if xk (mg 4625 I J R) x5 1 = true then (f_X1_casesOf (mg 4625 I J R) x5 (ch x1 - 97)).bind (fun p6 => f_X11_define_j62 (mg 4625 I J R) 0 x2 (ch x1 - 97) p6) else none)))) else none)) else f_X11_define_j28 (mg 4625 I J R))))) = r → f_X11_define (mg 4625 I J R) 0 (ch x1) x2 = r := fun r hr => by
      unfold f_X11_define
      refine xb_iq ok_0 (xb_eq (c_letterOf1 hq.1 hq.2) ?_)
      rw [Sum.elim_inl]
      exact hr
    have mL : ∀ J (I : Nat → Nat → Int32) r, (if ch x1 = (105 : Int32) then f_X12_define_j29 (mg 4625 I J R) 4561 (ch x1) x2 4561 else (if ch x1 = (115 : Int32) then f_X12_define_j29 (mg 4625 I J R) 4561 (ch x1) x2 4561 else (f_X12_in (mg 4625 I J R) x2 (1 : Int32) (3 : Int32)).bind (fun p17 => (if p17 = (0 : Int32) then f_X12_define_j29 (mg 4625 I J R) 4561 (ch x1) x2 4561 else f_X12_define_j34 (mg 4625 I J R) 4561 (ch x1) x2 (0 : Int32) 4561)))) = r → f_X12_define (mg 4625 I J R) 4561 (ch x1) x2 = r := fun J I r hr => by
      unfold f_X12_define
      refine xb_eq (m_isName1 hq.1 hq.2) ?_
      rw [if_neg (by decide)]
      exact hr
    by_cases ha : ch x1 = 105
    · exact bad (cL _ (by rw [if_pos ha]; rfl)) (mL _ _ _ (by rw [if_pos ha]; exact m_def_bad))
    · by_cases hb : ch x1 = 115
      · exact bad (cL _ (by rw [if_neg ha, if_pos hb]; rfl)) (mL _ _ _ (by rw [if_neg ha, if_pos hb]; exact m_def_bad))
      · by_cases hc : (1 : Int32) ≤ x2 ∧ x2 ≤ 3
        · have e0 := cL (some (.inl (-1), mg 4625 (mfC I f m j x2) J R)) (by
            rw [if_neg ha, if_neg hb, if_neg (Int32.not_lt.mpr hc.1), if_pos hc.2, ej]
            refine xb_eq (ogR_0_2 hR) (xb_iq ok_11 (xb_eq ((c_parametersOf hR hj).trans (congrArg some (h0 j hj))) ?_))
            rw [if_pos rfl]
            unfold f_X11_define_j62
            exact xb_eq (ogR_0_2 hR) (xb_iq ok_11 (xb_eq (c_makeFunction hR hf hm hf2 hm2 hj) rfl)))
          have nM : ∀ x, 4561 ≤ x → mfC I f m j x2 x = I x := fun x hx => by
            have hq : (f + m) % 20 < 20 := Nat.mod_lt _ (by decide)
            unfold mfC nfC ntC
            rw [st_ne (by omega), st_ne (by omega), cpF_ne (by omega), st_ne (by omega), st_ne (by omega), st_ne (by omega)]
          obtain ⟨I', k1, k2⟩ := m_define1 (I := thI (mfC I f m j x2) 0) (J := oJ J ((-1 : Int32)).toInt64) (y := -1) (p := x2) hR (show thI (mfC I f m j x2) 0 4561 83 = Int32.ofNat f' from (congrFun (nM 4561 (by decide)) 83).trans hf') (show thI (mfC I f m j x2) 0 4561 84 = Int32.ofNat m' from (congrFun (nM 4561 (by decide)) 84).trans hm') hf2' hm2' hj (fun z h => (congrFun (nM 4573 (by decide)) z).trans (hz z h))
          refine op_ok (I2 := I') (l_define e0) ?_ (k2.trans thI_0) (hP _ _)
          refine mL _ _ _ ?_
          rw [if_neg ha, if_neg hb]
          refine xb_eq (m_in1 hc.1 hc.2) ?_
          rw [if_neg (by decide)]
          unfold f_X12_define_j34
          refine xb_iq ok_4561 (m_refO.trans ?_)
          rw [ej]
          simp only [xlet]
          refine xb_eq (ogR_4561_11 hR) (xb_eq ((m_aI11 hj).trans (congrArg some ((congrFun (nM 4571 (by decide)) j).trans (h1 j hj)))) ?_)
          rw [if_pos rfl]
          exact k1
        · refine bad (cL _ ?_) (mL _ _ _ ?_)
          · rw [if_neg ha, if_neg hb]
            by_cases hd : x2 < 1
            · rw [if_pos hd]; rfl
            · rw [if_neg hd, if_neg (fun q => hc ⟨Int32.not_lt.mp hd, q⟩)]; rfl
          · rw [if_neg ha, if_neg hb]
            refine xb_eq (m_in0 hc) ?_
            rw [if_pos rfl]
            exact m_def_bad
  · refine bad ?_ ?_
    · unfold f_X11_define
      refine xb_iq ok_0 (xb_eq (c_letterOf0 hq) rfl)
    · unfold f_X12_define
      refine xb_eq (m_isName0 hq) ?_
      rw [if_pos rfl]
      exact m_def_bad
end EY
