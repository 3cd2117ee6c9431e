/-! printing: characters and numbers, on both sides -/
theorem n_div {a b : Nat} (ha : a < 2147483648) (hb : b < 2147483648) : (Int32.ofNat (a)) / (Int32.ofNat (b)) = (Int32.ofNat (a / b)) := by
  have h1 : a / b ≤ a := Nat.div_le_self a b
  rw [← Int32.toInt_inj, Int32.toInt_div, i32_toInt ha, i32_toInt hb, i32_toInt (by omega), ← Int.ofNat_tdiv]
  generalize a / b = q at h1 ⊢
  exact Int.bmod_eq_of_le (by omega) (by omega)
theorem n_mod10 {a : Nat} (ha : a < 2147483648) : (Int32.ofNat (a)) - (Int32.ofNat (a)) / 10 * 10 = (Int32.ofNat (a % 10)) := by
  rw [show (10 : Int32) = (Int32.ofNat (10)) from rfl, n_div ha (by omega), n_mul, n_sub (by omega)]
  congr 1
  omega
def tF : List Nat → Nat → Nat
  | [] => fun _ => 0
  | x :: l => fun i => if i = l.length then x else tF l i
/-- the scale of a number's first digit -/
def tpv (v : Nat) : Nat → Nat → Nat
  | 0, s => s
  | f + 1, s => if 10 ≤ v / s then tpv v f (s * 10) else s
/-- a number's digits, the last one first, ahead of what there is -/
def dpr (v : Nat) : Nat → Nat → List Nat → List Nat
  | 0, _, l => l
  | f + 1, s, l => if s = 0 then l else dpr v f (s / 10) ((48 + v / s % 10) :: l)
def numT (v : Nat) (l : List Nat) : List Nat := dpr v 10 (tpv v 9 1) l
theorem tpv_c (v f s : Nat) : tpv v (f + 1) s = if 10 ≤ v / s then tpv v f (s * 10) else s := rfl
theorem dpr_c (v f s : Nat) (l : List Nat) : dpr v (f + 1) s l = if s = 0 then l else dpr v f (s / 10) ((48 + v / s % 10) :: l) := rfl
theorem pow10 : ∀ k, k ≤ 9 → 10 ^ k ≤ 1000000000 := by decide
/-- it is a power of 10 of at most 8 -/
theorem tpv_pow {v : Nat} (hv : v ≤ 999999999) : ∀ f k, k + f = 9 → k ≤ 8 → ∃ j, j ≤ 8 ∧ tpv v f (10 ^ k) = 10 ^ j := by
  intro f
  induction f with
  | zero => intro k h1 h2; omega
  | succ f ih =>
    intro k h1 h2
    rw [tpv_c]
    split
    · next q =>
      have : k ≠ 8 := fun e => by
        rw [e] at q
        have : v / 10 ^ 8 < 10 := Nat.div_lt_of_lt_mul (by omega)
        omega
      rw [← Nat.pow_succ]
      exact ih (k + 1) (by omega) (by omega)
    · exact ⟨k, h2, rfl⟩
theorem dpr_len (v : Nat) : ∀ f s l, (dpr v f s l).length ≤ l.length + f := by
  intro f
  induction f with
  | zero => intro s l; exact Nat.le_refl _
  | succ f ih =>
    intro s l
    rw [dpr_c]
    split
    · omega
    · have := ih (s / 10) ((48 + v / s % 10) :: l)
      rw [List.length_cons] at this
      omega
theorem dpr_z (v : Nat) (l : List Nat) : ∀ f, dpr v f 0 l = l := by
  intro f
  cases f with
  | zero => rfl
  | succ f => rw [dpr_c, if_pos rfl]
def isP (pr tx : Nat) : Prop := (pr = 559 ∧ tx = 562) ∨ (pr = 563 ∧ tx = 566)
def CX (I : Nat → Nat → Int32) (pr tx : Nat) (l : List Nat) : Prop := I pr 3 = (Int32.ofNat (l.length)) ∧ l.length ≤ 1000 ∧ ∀ k, k < l.length → I tx k = (Int32.ofNat (tF l k))
section TX
variable {I : Nat → Nat → Int32} {J : Nat → Nat → Int64} {R : Nat → Nat → Option Nat} {pr tx : Nat} {β : Type}
theorem ok_P (h : isP pr tx) : xk (mg (4562 + zn J) I J R) pr 5 = true := by
  rcases h with ⟨rfl, rfl⟩ | ⟨rfl, rfl⟩
  · exact ok_559
  · exact ok_563
theorem gi_P {k : Nat} {F : Int32 → Option β} (h : isP pr tx) : (gI (mg (4562 + zn J) I J R) pr 5 k).bind F = F (I pr k) := by
  rcases h with ⟨rfl, rfl⟩ | ⟨rfl, rfl⟩
  · exact gi_559
  · exact gi_563
theorem gs_P {k : Nat} {v : Int32} {F : xM → Option β} (h : isP pr tx) : (sI (mg (4562 + zn J) I J R) pr 5 k v).bind F = F (mg (4562 + zn J) (up I pr k v) J R) := by
  rcases h with ⟨rfl, rfl⟩ | ⟨rfl, rfl⟩
  · exact gs_559
  · exact gs_563
theorem gr_P2 {F : Nat → Option β} (hR : RA R) (h : isP pr tx) : (gR (mg (4562 + zn J) I J R) pr 5 2).bind F = F tx := by
  rcases h with ⟨rfl, rfl⟩ | ⟨rfl, rfl⟩
  · exact gr_559_2 hR
  · exact gr_563_2 hR
theorem gcw_P {k : Nat} {v : Int32} {F : xM → Option β} (h : isP pr tx) (hk : k < 1000) : (wC (mg (4562 + zn J) I J R) tx (Int32.ofNat (k)) v).bind F = F (mg (4562 + zn J) (up I tx k (vp_nar .char v)) J R) := by
  rcases h with ⟨rfl, rfl⟩ | ⟨rfl, rfl⟩
  · exact gcw_562 hk
  · exact gcw_566 hk
theorem C_put {l : List Nat} {c : Nat} (hR : RA R) (h : isP pr tx) (hX : CX I pr tx l) (hl : l.length < 1000) (hc : c < 65536) : QK (f_X5_put (mg (4562 + zn J) I J R) pr (Int32.ofNat (c))) (fun r => ∃ I', r = mg (4562 + zn J) I' J R ∧ FrS (fun x => x = pr ∨ x = tx) I I' ∧ (∀ k, k ≠ 3 → I' pr k = I pr k) ∧ CX I' pr tx (c :: l)) := by
  obtain ⟨h1, h2, h3⟩ := hX
  have ne : pr ≠ tx := by rcases h with ⟨rfl, rfl⟩ | ⟨rfl, rfl⟩ <;> decide
  have nc : (((Int32.ofNat (c))).toUInt32 % 65536).toInt32 = (Int32.ofNat (c)) := nar_ch hc
  unfold f_X5_put f_X5_put_j31
  rw [gi_P h, h1, if_neg (show ¬ (1000 : Int32) ≤ (Int32.ofNat (l.length)) from fun y => absurd ((i32_le (k := 1000) (by omega) (by omega)).mp y) (by omega)), gr_P2 hR h, gi_P h, h1, nc, gcw_P h hl, nar_ch hc, gi_P h, up_r ne, h1, show (Int32.ofNat (l.length)) + 1 = (Int32.ofNat (l.length + 1)) from n_add _ 1, gs_P h]
  refine q_ok ⟨_, rfl, fun x hx => ?_, fun k hk => ?_, ?_, ?_, fun k hk => ?_⟩
  · rw [up_r (fun e => hx (Or.inl e)), up_r (fun e => hx (Or.inr e))]
  · rw [up_n (Or.inr hk), up_r ne]
  · rw [up_s, List.length_cons]
  · rw [List.length_cons]; omega
  · rw [List.length_cons] at hk
    rw [up_r (fun e => ne e.symm)]
    show up I tx l.length (Int32.ofNat (c)) tx k = (Int32.ofNat (if k = l.length then c else tF l k))
    by_cases z : k = l.length
    · rw [if_pos z, z, up_s]
    · rw [if_neg z, up_n (Or.inr z)]
      exact h3 k (by omega)
def FP (pr tx : Nat) (I I' : Nat → Nat → Int32) : Prop := FrS (fun x => x = pr ∨ x = tx) I I' ∧ ∀ k, k ≠ 3 → I' pr k = I pr k
theorem FP_tr {I' I'' : Nat → Nat → Int32} (h : FP pr tx I I') (h' : FP pr tx I' I'') : FP pr tx I I'' := ⟨FrS_tr h.1 h'.1, fun k hk => (h'.2 k hk).trans (h.2 k hk)⟩
theorem FP_rfl : FP pr tx I I := ⟨FrS_rfl, fun _ _ => rfl⟩
theorem C_putNumber {l : List Nat} {v : Nat} (hR : RA R) (h : isP pr tx) (hX : CX I pr tx l) (hl : l.length + 10 ≤ 1000) (hv : v ≤ 999999999) : QK (f_X5_putNumber (mg (4562 + zn J) I J R) pr (Int32.ofNat (v))) (fun r => ∃ I', r = mg (4562 + zn J) I' J R ∧ FP pr tx I I' ∧ CX I' pr tx (numT v l)) := by
  unfold f_X5_putNumber
  rw [q_let, q_let]
  obtain ⟨j, hj, ej⟩ := tpv_pow hv 9 0 rfl (by first | decide | omega)
  rw [Nat.pow_zero] at ej
  refine q_bind (P := fun r => r = .inr (pr, (Int32.ofNat (v)), (Int32.ofNat (tpv v 9 1)))) ?_ ?_
  · refine q_for 8 (fun k s => ∃ sc, s = (pr, (Int32.ofNat (v)), (Int32.ofNat (sc)), (Int32.ofNat (k))) ∧ sc = 10 ^ k ∧ tpv v (9 - k) sc = tpv v 9 1) ?_ ?_ (i := 0) ⟨1, rfl, rfl, rfl⟩ (by first | decide | omega) (by unfold xF; omega)
    · rintro k s hk ⟨sc, rfl, e1, e2⟩
      have p10 := pow10 k (by omega)
      have p1 : 0 < sc := by rw [e1]; exact Nat.pow_pos (by first | decide | omega)
      unfold f_X5_putNumber_s4
      dsimp only
      rw [q_let, q_let, q_let, q_let, if_neg (show ¬ (8 : Int32) ≤ (Int32.ofNat (k)) from fun y => absurd ((i32_le (k := 8) (by omega) (by omega)).mp y) (by omega)), if_neg (show ¬ _ = (0 : Int32) from i32_ne (b := 0) (by omega) (by omega) (by omega)), n_div (by omega) (by omega)]
      have dl : v / sc ≤ v := Nat.div_le_self _ _
      rw [show 9 - k = 8 - k + 1 by omega, tpv_c] at e2
      by_cases q : 10 ≤ v / sc
      · rw [if_pos q] at e2
        rw [if_neg (show ¬ (Int32.ofNat (v / sc)) ≤ (9 : Int32) from fun y => absurd ((i32_le (m := 9) (by omega) (by omega)).mp y) (by omega)), q_let, q_let, show (Int32.ofNat (sc)) * 10 = (Int32.ofNat (sc * 10)) from n_mul _ 10, show (Int32.ofNat (k)) + 1 = (Int32.ofNat (k + 1)) from n_add k 1]
        exact q_go ⟨sc * 10, rfl, by rw [e1, Nat.pow_succ], by rw [show 9 - (k + 1) = 8 - k by omega]; exact e2⟩
      · rw [if_neg q] at e2
        rw [if_pos (show (Int32.ofNat (v / sc)) ≤ (9 : Int32) from (i32_le (m := 9) (by omega) (by omega)).mpr (by omega))]
        exact q_ex (by rw [e2])
    · rintro s ⟨sc, rfl, e1, e2⟩
      unfold f_X5_putNumber_s4
      dsimp only
      rw [q_let, q_let, q_let, q_let, if_pos (show (8 : Int32) ≤ (Int32.ofNat (8)) by decide)]
      rw [show 9 - 8 = 0 + 1 by omega, tpv_c, if_neg (by
        rw [e1]
        have : v / 10 ^ 8 < 10 := Nat.div_lt_of_lt_mul (by omega)
        omega)] at e2
      exact q_ex (by rw [e2])
  · rintro _ rfl
    simp only [Sum.elim_inr]
    refine q_bind (P := fun r => ∃ I', r = .inr (mg (4562 + zn J) I' J R) ∧ FP pr tx I I' ∧ CX I' pr tx (numT v l)) ?_ ?_
    · have b1 : tpv v 9 1 < 1000000000 := by
        rw [ej]
        have := Nat.pow_le_pow_right (n := 10) (by first | decide | omega) hj
        omega
      refine q_loop (fun f s => ∃ I' sc l', s = (pr, (Int32.ofNat (v)), (Int32.ofNat (sc)), mg (4562 + zn J) I' J R) ∧ dpr v f sc l' = numT v l ∧ sc < 10 ^ f ∧ sc < 1000000000 ∧ l'.length + f ≤ 1000 ∧ FP pr tx I I' ∧ CX I' pr tx l') ?_ (m := 10) ⟨I, _, l, rfl, rfl, by omega, b1, by omega, FP_rfl, hX⟩ (by unfold xF; omega)
      rintro f s ⟨I', sc, l', rfl, e1, e2, e3, e4, hF, hX'⟩
      unfold f_X5_putNumber_s29
      dsimp only
      rw [q_let, q_let, q_let, q_let]
      by_cases z : sc = 0
      · rw [z, if_pos (by first | decide | omega)]
        rw [z, dpr_z] at e1
        exact q_ex ⟨I', rfl, hF, by rw [← e1]; exact hX'⟩
      · obtain ⟨f', rfl⟩ : ∃ f', f = f' + 1 := ⟨f - 1, by
          cases f with
          | zero => omega
          | succ f => omega⟩
        have dl : v / sc ≤ v := Nat.div_le_self _ _
        rw [dpr_c, if_neg z] at e1
        rw [if_neg (show ¬ (Int32.ofNat (sc)) ≤ (0 : Int32) from fun y => absurd ((i32_le (m := 0) (by omega) (by omega)).mp y) (by omega)), if_neg (show ¬ _ = (0 : Int32) from i32_ne (b := 0) (by omega) (by omega) z), if_pos (ok_P h), n_div (by omega) (by omega), n_mod10 (by omega), show (48 : Int32) + (Int32.ofNat (v / sc % 10)) = (Int32.ofNat (48 + v / sc % 10)) from n_add 48 _]
        refine q_bind (C_put hR h hX' (by omega) (by omega)) ?_
        rintro _ ⟨I2, rfl, hF2, hF2', hX2⟩
        rw [q_let, show (Int32.ofNat (sc)) / 10 = (Int32.ofNat (sc / 10)) from n_div (b := 10) (by omega) (by first | decide | omega)]
        refine q_go ⟨f', by omega, I2, sc / 10, _, rfl, e1, ?_, by omega, by rw [List.length_cons]; omega, FP_tr hF ⟨hF2, hF2'⟩, hX2⟩
        exact Nat.div_lt_of_lt_mul (by rw [Nat.mul_comm, ← Nat.pow_succ]; exact e2)
    · rintro _ ⟨I', rfl, hF, hX'⟩
      simp only [Sum.elim_inr]
      unfold f_X5_putNumber_j54
      exact q_ok ⟨I', rfl, hF, hX'⟩
end TX
