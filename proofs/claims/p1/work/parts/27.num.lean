/-! THE REFERENCE'S FIRST STEPS: registers of limbs, sizes and values -/
/-- the refs are those that the constructors made -/
def kb (x : Nat) : Nat := if (KK x).1 = 2 then 2 else if (KK x).1 = 10 then 1 else if (KK x).1 = 9 then 7 else if (KK x).1 < 13 then 90 else if (KK x).1 = 16 then (KK x).2 else if (KK x).1 = 17 then (KK x).2 else if (KK x).1 = 18 then (KK x).2 else 0
def RA (R : Nat → Nat → Option Nat) : Prop := ∀ x, x < 4625 → ∀ k, k < kb x → RR x k = none ∨ R x k = RR x k
theorem RA.get {R : Nat → Nat → Option Nat} (h : RA R) {x k y : Nat} (hx : x < 4625) (hk : k < kb x) (e : RR x k = some y) : R x k = some y := by
  rcases h x hx k hk with q | q
  · rw [e] at q
    cases q
  · rw [q, e]
def u3 (I : Nat → Nat → Int32) (l s v : Nat → Int32) : Nat → Nat → Int32 := va_up (va_up (va_up I 4562 l) 4563 s) 4564 v
theorem u3_l {I : Nat → Nat → Int32} {l s v l' : Nat → Int32} : va_up (u3 I l s v) 4562 l' = u3 I l' s v := by
  unfold u3
  rw [up_comm (k := 4564) (j := 4562) (by decide), up_comm (k := 4563) (j := 4562) (by decide), up_up]
theorem u3_s {I : Nat → Nat → Int32} {l s v s' : Nat → Int32} : va_up (u3 I l s v) 4563 s' = u3 I l s' v := by
  unfold u3
  rw [up_comm (k := 4564) (j := 4563) (by decide), up_up]
theorem u3_v {I : Nat → Nat → Int32} {l s v v' : Nat → Int32} : va_up (u3 I l s v) 4564 v' = u3 I l s v' := by
  unfold u3
  rw [up_up]
theorem u3_id {I : Nat → Nat → Int32} : u3 I (I 4562) (I 4563) (I 4564) = I := by
  unfold u3
  rw [up_id rfl, up_id rfl, up_id rfl]
theorem i32_pred (k : Nat) : Int32.ofNat (k + 1) - 1 = Int32.ofNat k := by
  rw [← i32_ofs, Int32.add_sub_cancel]
theorem i32_toInt {k : Nat} (h : k < 2147483648) : (Int32.ofNat k).toInt = k := Int32.toInt_ofNat_of_lt (by simpa using h)
theorem i32_eq {k m : Nat} (h : k < 2147483648) (h' : m < 2147483648) : Int32.ofNat k = Int32.ofNat m ↔ k = m := by
  rw [← Int32.toInt_inj, i32_toInt h, i32_toInt h']
  omega
theorem i32_lt {k m : Nat} (h : k < 2147483648) (h' : m < 2147483648) : Int32.ofNat k < Int32.ofNat m ↔ k < m := by
  rw [Int32.lt_iff_toInt_lt, i32_toInt h, i32_toInt h']
  omega
section EM
variable {n : Nat} {I : Nat → Nat → Int32} {J : Nat → Nat → Int64} {R : Nat → Nat → Option Nat} {l s v : Nat → Int32}
theorem m_g1 (hn : 4624 ≤ n) (hR : RA R) : gR (mg n I J R) 4561 12 1 = some 4562 := e_gR (by omega) rfl (hR.get (by decide) (by decide) rfl)
theorem m_g2 (hn : 4624 ≤ n) (hR : RA R) : gR (mg n I J R) 4561 12 2 = some 4563 := e_gR (by omega) rfl (hR.get (by decide) (by decide) rfl)
theorem m_g3 (hn : 4624 ≤ n) (hR : RA R) : gR (mg n I J R) 4561 12 3 = some 4564 := e_gR (by omega) rfl (hR.get (by decide) (by decide) rfl)
theorem m_al {k : Nat} (hn : 4624 ≤ n) (hk : k < 7040) : aI (mg n (u3 I l s v) J R) 4562 14 (Int32.ofNat k) = some (l k) := (e_aI (len := 7040) (by omega) rfl hk (by decide)).trans rfl
theorem m_as {k : Nat} (hn : 4624 ≤ n) (hk : k < 16) : aI (mg n (u3 I l s v) J R) 4563 14 (Int32.ofNat k) = some (s k) := (e_aI (len := 16) (by omega) rfl hk (by decide)).trans rfl
theorem m_av {k : Nat} (hn : 4624 ≤ n) (hk : k < 104160) : aI (mg n (u3 I l s v) J R) 4564 14 (Int32.ofNat k) = some (v k) := (e_aI (len := 104160) (by omega) rfl hk (by decide)).trans rfl
theorem m_wl {k : Nat} {x : Int32} (hn : 4624 ≤ n) (hk : k < 7040) : wI (mg n (u3 I l s v) J R) 4562 (Int32.ofNat k) x = some (mg n (u3 I (va_up l k x) s v) J R) := by
  rw [e_wI (len := 7040) (by omega) rfl hk (by decide), u3_l]
  rfl
theorem m_ws {k : Nat} {x : Int32} (hn : 4624 ≤ n) (hk : k < 16) : wI (mg n (u3 I l s v) J R) 4563 (Int32.ofNat k) x = some (mg n (u3 I l (va_up s k x) v) J R) := by
  rw [e_wI (len := 16) (by omega) rfl hk (by decide), u3_s]
  rfl
theorem m_wv {k : Nat} {x : Int32} (hn : 4624 ≤ n) (hk : k < 104160) : wI (mg n (u3 I l s v) J R) 4564 (Int32.ofNat k) x = some (mg n (u3 I l s (va_up v k x)) J R) := by
  rw [e_wI (len := 104160) (by omega) rfl hk (by decide), u3_v]
  rfl
/-- the size without zeros ahead -/
def tsz (r : Nat → Int32) : Nat → Nat
  | 0 => 0
  | k + 1 => if r k = 0 then tsz r k else k + 1
theorem m_trim {r k : Nat} (hn : 4624 ≤ n) (hR : RA R) (hr : r < 16) (hk : k ≤ 440) : f_X12_trim (mg n (u3 I l (va_up s r (Int32.ofNat k)) v) J R) 4561 (Int32.ofNat r) = some (mg n (u3 I l (va_up s r (Int32.ofNat (tsz (fun j => l (440 * r + j)) k))) v) J R) := by
  unfold f_X12_trim
  refine xb_eq (a := .inr (mg n (u3 I l (va_up s r (Int32.ofNat (tsz (fun j => l (440 * r + j)) k))) v) J R)) ?_ rfl
  have : ∀ f, k < f → xloop f_X12_trim_s0 f (4561, Int32.ofNat r, mg n (u3 I l (va_up s r (Int32.ofNat k)) v) J R) = some (.inr (mg n (u3 I l (va_up s r (Int32.ofNat (tsz (fun j => l (440 * r + j)) k))) v) J R)) := by
    induction k with
    | zero =>
      intro f hf
      refine xl_e hf ?_
      unfold f_X12_trim_s0 xlet
      dsimp only
      refine xb_eq (m_g2 hn hR) (xb_eq (m_as hn hr) ?_)
      rw [va_up_self, if_pos (by decide)]
      rfl
    | succ k ih =>
      intro f hf
      have e1 : (440 : Int32) * Int32.ofNat r + Int32.ofNat (k + 1) - 1 = Int32.ofNat (440 * r + k) := by
        rw [show (440 : Int32) = Int32.ofNat 440 from rfl, ← Int32.ofNat_mul, ← Int32.ofNat_add, ← Nat.add_assoc, i32_pred]
      have e2 : ¬ (Int32.ofNat (k + 1) ≤ 0) := by
        rw [Int32.le_iff_toInt_le, i32_toInt (by omega)]
        show ¬ (((k + 1 : Nat) : Int) ≤ 0)
        omega
      by_cases h : l (440 * r + k) = 0
      · have h1 : f_X12_trim_s0 (4561, Int32.ofNat r, mg n (u3 I l (va_up s r (Int32.ofNat (k + 1))) v) J R) = some (.inr (.inr (4561, Int32.ofNat r, mg n (u3 I l (va_up s r (Int32.ofNat k)) v) J R))) := by
          unfold f_X12_trim_s0 xlet
          dsimp only
          refine xb_eq (m_g2 hn hR) (xb_eq (m_as hn hr) ?_)
          rw [va_up_self, if_neg e2]
          refine xb_eq (m_g1 hn hR) (xb_eq (m_g2 hn hR) (xb_eq (m_as hn hr) ?_))
          rw [va_up_self, e1]
          refine xb_eq (m_al hn (by omega)) ?_
          rw [if_pos h]
          refine xb_eq (m_g2 hn hR) (xb_eq (m_as hn hr) ?_)
          rw [va_up_self, i32_pred]
          refine xb_eq (m_ws hn hr) ?_
          rw [up_up]
        rw [xl_s (by omega) h1, show tsz (fun j => l (440 * r + j)) (k + 1) = tsz (fun j => l (440 * r + j)) k from if_pos h]
        exact ih (by omega) (f - 1) (by omega)
      · refine xl_e (by omega) ?_
        unfold f_X12_trim_s0 xlet
        dsimp only
        refine xb_eq (m_g2 hn hR) (xb_eq (m_as hn hr) ?_)
        rw [va_up_self, if_neg e2]
        refine xb_eq (m_g1 hn hR) (xb_eq (m_g2 hn hR) (xb_eq (m_as hn hr) ?_))
        rw [va_up_self, e1]
        refine xb_eq (m_al hn (by omega)) ?_
        rw [if_neg h, show tsz (fun j => l (440 * r + j)) (k + 1) = k + 1 from if_neg h]
  exact this xF (by unfold xF; omega)
theorem m_put {r : Nat} {x : Int32} (hn : 4624 ≤ n) (hR : RA R) (hr : r < 16) : f_X12_put (mg n (u3 I l s v) J R) 4561 (Int32.ofNat r) x = some (mg n (u3 I (va_up (va_up l (440 * r) (x &&& 65535)) (440 * r + 1) (x.toUInt32 >>> ((16 : Int32).toUInt32 &&& Int32.toUInt32 31)).toInt32) (va_up s r (Int32.ofNat (tsz (va_up (va_up (fun _ => 0) 0 (x &&& 65535)) 1 (x.toUInt32 >>> ((16 : Int32).toUInt32 &&& Int32.toUInt32 31)).toInt32) 2))) v) J R) := by
  have e0 : (440 : Int32) * Int32.ofNat r = Int32.ofNat (440 * r) := by rw [show (440 : Int32) = Int32.ofNat 440 from rfl, ← Int32.ofNat_mul]
  unfold f_X12_put
  rw [e0]
  refine xb_eq (m_g1 hn hR) (xb_eq (m_wl hn (by omega)) ?_)
  rw [i32_ofs]
  refine xb_eq (m_g1 hn hR) (xb_eq (m_wl hn (by omega)) ?_)
  refine xb_eq (m_g2 hn hR) (xb_eq (m_ws hn hr) ?_)
  refine xb_iq (me_xk (by omega) rfl) (xb_eq (m_trim (k := 2) hn hR hr (by omega)) ?_)
  refine congrArg (fun q => some (mg n (u3 I _ (va_up s r (Int32.ofNat q)) v) J R)) ?_
  have g0 : ∀ (a b : Int32), va_up (va_up l (440 * r) a) (440 * r + 1) b (440 * r + 0) = a := fun a b => by
    rw [va_up_ne _ _ (by omega), Nat.add_zero, va_up_self]
  unfold tsz tsz tsz
  rw [va_up_self, g0]
  rfl
def holdv (v l : Nat → Int32) (sz base : Nat) : Nat → Int32 := fun x => if base ≤ x ∧ x < base + 13 then (if x - base < sz then l (x - base) else 0) else v x
theorem m_hold {r i f sz : Nat} (hn : 4624 ≤ n) (hR : RA R) (hr : r < 16) (hb : 28 * i + f + 13 ≤ 104160) (hs : s r = Int32.ofNat sz) (hz : sz ≤ 440) : f_X12_hold (mg n (u3 I l s v) J R) 4561 (Int32.ofNat i) (Int32.ofNat r) (Int32.ofNat f) = some (mg n (u3 I l s (holdv v (fun k => l (440 * r + k)) sz (28 * i + f))) J R) := by
  unfold f_X12_hold xlet
  refine xb_eq (a := .inr (mg n (u3 I l s (holdv v (fun k => l (440 * r + k)) sz (28 * i + f))) J R)) ?_ rfl
  have q := xl_seq (step := f_X12_hold_s3) (s := fun k => (4561, Int32.ofNat i, Int32.ofNat r, Int32.ofNat f, Int32.ofNat k, mg n (u3 I l s (fun x => if 28 * i + f ≤ x ∧ x < 28 * i + f + k then (if x - (28 * i + f) < sz then l (440 * r + (x - (28 * i + f))) else 0) else v x)) J R)) (N := 13) (e := .inr (mg n (u3 I l s (holdv v (fun k => l (440 * r + k)) sz (28 * i + f))) J R)) ?_ ?_ (f := xF) (by decide)
  · refine Eq.trans ?_ q
    have : (fun x => if 28 * i + f ≤ x ∧ x < 28 * i + f + 0 then (if x - (28 * i + f) < sz then l (440 * r + (x - (28 * i + f))) else 0) else v x) = v := by
      funext x
      rw [if_neg (by omega)]
    show _ = xloop f_X12_hold_s3 xF (4561, Int32.ofNat i, Int32.ofNat r, Int32.ofNat f, Int32.ofNat 0, mg n (u3 I l s (fun x => if 28 * i + f ≤ x ∧ x < 28 * i + f + 0 then (if x - (28 * i + f) < sz then l (440 * r + (x - (28 * i + f))) else 0) else v x)) J R)
    rw [this]
    rfl
  · intro k hk
    have e1 : (28 : Int32) * Int32.ofNat i + Int32.ofNat f + Int32.ofNat k = Int32.ofNat (28 * i + f + k) := by
      rw [show (28 : Int32) = Int32.ofNat 28 from rfl, ← Int32.ofNat_mul, ← Int32.ofNat_add, ← Int32.ofNat_add]
    have e2 : (440 : Int32) * Int32.ofNat r + Int32.ofNat k = Int32.ofNat (440 * r + k) := by
      rw [show (440 : Int32) = Int32.ofNat 440 from rfl, ← Int32.ofNat_mul, ← Int32.ofNat_add]
    have e3 : ∀ y : Int32, y = (if k < sz then l (440 * r + k) else 0) → va_up (fun x => if 28 * i + f ≤ x ∧ x < 28 * i + f + k then (if x - (28 * i + f) < sz then l (440 * r + (x - (28 * i + f))) else 0) else v x) (28 * i + f + k) y = (fun x => if 28 * i + f ≤ x ∧ x < 28 * i + f + (k + 1) then (if x - (28 * i + f) < sz then l (440 * r + (x - (28 * i + f))) else 0) else v x) := by
      intro y hy
      funext x
      unfold va_up
      by_cases h : x = 28 * i + f + k
      · rw [if_pos h, if_pos (by omega), h, show 28 * i + f + k - (28 * i + f) = k by omega, hy]
      · rw [if_neg h]
        dsimp only
        by_cases h1 : 28 * i + f ≤ x ∧ x < 28 * i + f + k
        · rw [if_pos h1, if_pos (show 28 * i + f ≤ x ∧ x < 28 * i + f + (k + 1) by omega)]
        · rw [if_neg h1, if_neg (by omega)]
    unfold f_X12_hold_s3 xlet
    dsimp only
    rw [if_neg (show ¬ ((13 : Int32) ≤ Int32.ofNat k) from fun q => absurd ((i32_le (k := 13) (m := k) (by omega) (by omega)).mp q) (by omega))]
    refine xb_eq (m_g3 hn hR) (xb_eq (m_g2 hn hR) (xb_eq (m_as hn hr) ?_))
    rw [hs]
    by_cases h : sz ≤ k
    · rw [if_pos ((i32_le (by omega) (by omega)).mpr h)]
      unfold f_X12_hold_j51 xlet
      rw [e1]
      refine xb_eq (m_wv hn (by omega)) ?_
      rw [e3 0 (by rw [if_neg (by omega)]), i32_ofs]
    · rw [if_neg (fun q => h ((i32_le (by omega) (by omega)).mp q))]
      refine xb_eq (m_g1 hn hR) ?_
      rw [e2]
      refine xb_eq (m_al hn (by omega)) ?_
      unfold f_X12_hold_j51 xlet
      rw [e1]
      refine xb_eq (m_wv hn (by omega)) ?_
      rw [e3 _ (by rw [if_pos (by omega)]), i32_ofs]
  · dsimp only
    unfold f_X12_hold_s3 xlet
    dsimp only
    rw [if_pos (by decide)]
    rfl
/-- a small whole number as a value -/
def nrow (m : Nat) : Nat → Int32 := va_up (va_up (fun _ => 0) 0 (Int32.ofNat m &&& 65535)) 1 ((Int32.ofNat m).toUInt32 >>> ((16 : Int32).toUInt32 &&& Int32.toUInt32 31)).toInt32
def intv (v : Nat → Int32) (i m : Nat) : Nat → Int32 := holdv (holdv (va_up v (28 * i) (if m = 0 then 0 else 1)) (nrow m) (tsz (nrow m) 2) (28 * i + 1)) (nrow 1) (tsz (nrow 1) 2) (28 * i + 14)
theorem tsz_le (r : Nat → Int32) (k : Nat) : tsz r k ≤ k := by
  induction k with
  | zero => exact Nat.le_refl _
  | succ k ih =>
    unfold tsz
    split
    · omega
    · exact Nat.le_refl _
theorem holdv_congr {v l l' : Nat → Int32} {sz b : Nat} (h : ∀ k, k < sz → l k = l' k) : holdv v l sz b = holdv v l' sz b := by
  funext x
  unfold holdv
  split
  · split
    · next q => exact h _ q
    · rfl
  · rfl
theorem m_put_row {m r : Nat} : ∀ k, k < tsz (nrow m) 2 → (fun k => va_up (va_up l (440 * r) (Int32.ofNat m &&& 65535)) (440 * r + 1) ((Int32.ofNat m).toUInt32 >>> ((16 : Int32).toUInt32 &&& Int32.toUInt32 31)).toInt32 (440 * r + k)) k = nrow m k := by
  intro k hk
  have := tsz_le (nrow m) 2
  unfold nrow
  rcases (by omega : k = 0 ∨ k = 1) with rfl | rfl
  · dsimp only
    rw [va_up_ne _ _ (by omega), Nat.add_zero, va_up_self, va_up_ne _ _ (by omega), va_up_self]
  · dsimp only
    rw [va_up_self, va_up_self]
theorem m_setInt {i m : Nat} (hn : 4624 ≤ n) (hR : RA R) (hi : 28 * i + 28 ≤ 104160) (hm : m < 2147483648) : ∃ l' s', f_X12_setInt (mg n (u3 I l s v) J R) 4561 (Int32.ofNat i) (Int32.ofNat m) = some (mg n (u3 I l' s' (intv v i m)) J R) := by
  have e1 : (28 : Int32) * Int32.ofNat i = Int32.ofNat (28 * i) := by rw [show (28 : Int32) = Int32.ofNat 28 from rfl, ← Int32.ofNat_mul]
  have hp : ¬ (Int32.ofNat m < 0) := i32_nlt0 hm
  have h0 : (0 : Int32) ≤ Int32.ofNat m := (i32_le (k := 0) (by omega) hm).mpr (by omega)
  have key : ∀ x : Int32, x = (if m = 0 then 0 else 1) → ∃ l' s', f_X12_setInt_j25 (mg n (u3 I l s v) J R) 4561 (Int32.ofNat i) (Int32.ofNat m) x (Int32.ofNat (28 * i)) 4564 = some (mg n (u3 I l' s' (intv v i m)) J R) := by
    intro x hx
    apply Exists.intro
    apply Exists.intro
    unfold f_X12_setInt_j25
    refine xb_eq (m_wv hn (by omega)) ?_
    rw [if_pos h0]
    unfold f_X12_setInt_j38
    refine xb_iq (me_xk (by omega) rfl) (xb_eq (m_put (r := 0) hn hR (by omega)) ?_)
    refine xb_iq (me_xk (by omega) rfl) (xb_eq (m_hold (r := 0) (f := 1) hn hR (by omega) (by omega) (va_up_self _ _ _) (Nat.le_trans (tsz_le _ _) (by omega))) ?_)
    refine xb_iq (me_xk (by omega) rfl) (xb_eq (m_put (r := 0) (x := 1) hn hR (by omega)) ?_)
    refine xb_iq (me_xk (by omega) rfl) (xb_eq (m_hold (r := 0) (f := 14) hn hR (by omega) (by omega) (va_up_self _ _ _) (Nat.le_trans (tsz_le _ _) (by omega))) ?_)
    refine congrArg (fun q => some (mg n (u3 I _ _ q) J R)) ?_
    unfold intv
    rw [← hx]
    refine Eq.trans (holdv_congr (m_put_row (m := 1) (r := 0))) ?_
    refine congrArg (fun q => holdv q (nrow 1) (tsz (nrow 1) 2) (28 * i + 14)) ?_
    exact holdv_congr (m_put_row (m := m) (r := 0))
  unfold f_X12_setInt
  rw [e1]
  by_cases h : m = 0
  · obtain ⟨l', s', hk⟩ := key 0 (by rw [if_pos h])
    refine ⟨l', s', xb_eq (m_g3 hn hR) ?_⟩
    rw [if_pos (show Int32.ofNat m ≤ 0 from (i32_le (m := 0) hm (by omega)).mpr (by omega)), if_pos h0]
    exact hk
  · obtain ⟨l', s', hk⟩ := key 1 (by rw [if_neg h])
    refine ⟨l', s', xb_eq (m_g3 hn hR) ?_⟩
    rw [if_neg (show ¬ Int32.ofNat m ≤ 0 from fun q => h (by have := (i32_le (m := 0) hm (by omega)).mp q; omega))]
    exact hk
end EM
