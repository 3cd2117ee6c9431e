/-! numbers by digits of 30 bits -/
def Bw (i : Nat) : Nat := 1073741824 ^ i
theorem Bw_s (i : Nat) : Bw (i + 1) = Bw i * 1073741824 := Nat.pow_succ 1073741824 i
theorem Bw_0 : Bw 0 = 1 := rfl
theorem Bw_pos (i : Nat) : 0 < Bw i := Nat.pow_pos (by first | decide | omega)
theorem Bw_le {i j : Nat} (h : i ≤ j) : Bw i ≤ Bw j := Nat.pow_le_pow_right (by first | decide | omega) h
theorem Bw_lt {i j : Nat} (h : Bw i < Bw j) : i < j := by
  by_cases q : i < j
  · exact q
  · exact absurd (Bw_le (Nat.not_lt.mp q)) (Nat.not_le.mpr h)
theorem Bw_add (i j : Nat) : Bw (i + j) = Bw i * Bw j := Nat.pow_add _ _ _
theorem Bw_two (i : Nat) : Bw i = 2 ^ (30 * i) := by
  unfold Bw
  rw [show (1073741824 : Nat) = 2 ^ 30 from rfl, ← Nat.pow_mul]
def dW (n i : Nat) : Nat := n / Bw i % 1073741824
theorem dW_lt (n i : Nat) : dW n i < 1073741824 := Nat.mod_lt _ (by first | decide | omega)
theorem dW_big {n k i : Nat} (h : n < Bw k) (hk : k ≤ i) : dW n i = 0 := by
  unfold dW
  rw [Nat.div_eq_of_lt (Nat.lt_of_lt_of_le h (Bw_le hk))]
theorem modW_s (n i : Nat) : n % Bw (i + 1) = n % Bw i + Bw i * dW n i := by
  rw [Bw_s]
  exact Nat.mod_mul
theorem divW_s (n i : Nat) : n / Bw (i + 1) = n / Bw i / 1073741824 := by
  rw [Bw_s, Nat.div_div_eq_div_mul]
theorem dW_split (n m : Nat) : n / Bw m = n / Bw (m + 1) * 1073741824 + dW n m := by
  rw [divW_s]
  unfold dW
  omega
theorem dW_add_lo {n x k j : Nat} (h : j < k) : dW (n + x * Bw k) j = dW n j := by
  unfold dW
  rw [show k = j + 1 + (k - j - 1) by omega, Bw_add, Bw_s, show x * (Bw j * 1073741824 * Bw (k - j - 1)) = Bw j * (1073741824 * (x * Bw (k - j - 1))) by
    rw [Nat.mul_assoc, Nat.mul_left_comm x, Nat.mul_left_comm x], Nat.add_mul_div_left _ _ (Bw_pos j), Nat.add_mul_mod_self_left]
theorem dW_add_at {n x k : Nat} (h : n < Bw k) (hx : x < 1073741824) : dW (n + x * Bw k) k = x := by
  unfold dW
  rw [Nat.add_mul_div_right _ _ (Bw_pos k), Nat.div_eq_of_lt h, Nat.zero_add, Nat.mod_eq_of_lt hx]
theorem W_top {n x k : Nat} (h : n < Bw k) (hx : x < 1073741824) : n + x * Bw k < Bw (k + 1) := by
  rw [Bw_s, Nat.mul_comm (Bw k)]
  have : (x + 1) * Bw k ≤ 1073741824 * Bw k := Nat.mul_le_mul_right _ (by omega)
  rw [Nat.add_mul] at this
  omega
/-- a row's first limbs hold a number -/
def Dg (I : Nat → Nat → Int32) (a k n : Nat) : Prop := n < Bw k ∧ ∀ j, j < k → I a j = (Int32.ofNat (dW n j))
section DG
variable {I I' : Nat → Nat → Int32} {a k n x : Nat}
theorem Dg_0 : Dg I a 0 0 := ⟨Bw_pos 0, fun j h => absurd h (by omega)⟩
theorem Dg_s (h : Dg I a k n) (e : I a k = (Int32.ofNat (x))) (hx : x < 1073741824) : Dg I a (k + 1) (n + x * Bw k) := by
  refine ⟨W_top h.1 hx, fun j hj => ?_⟩
  by_cases q : j = k
  · rw [q, dW_add_at h.1 hx, e]
  · rw [dW_add_lo (by omega), h.2 j (by omega)]
theorem Dg_keep (h : Dg I a k n) (e : ∀ j, j < k → I' a j = I a j) : Dg I' a k n := ⟨h.1, fun j hj => (e j hj).trans (h.2 j hj)⟩
theorem Dg_w (h : Dg I a k n) (hx : x < 1073741824) : Dg (up I a k (Int32.ofNat (x))) a (k + 1) (n + x * Bw k) :=
  Dg_s (Dg_keep h (fun j hj => up_n (by omega))) up_s hx
theorem Dg_pre {j : Nat} (h : Dg I a k n) (hj : j ≤ k) : Dg I a j (n % Bw j) := by
  refine ⟨Nat.mod_lt _ (Bw_pos j), fun i hi => ?_⟩
  rw [h.2 i (by omega)]
  have e := dW_add_lo (n := n % Bw j) (x := n / Bw j) hi
  rw [Nat.mul_comm (n / Bw j), Nat.mod_add_div] at e
  rw [e]
end DG
/-! what a Whole of the class is -/
def isW (w c : Nat) : Prop := w + 1 < 4561 ∧ KK w = (10, 0) ∧ RR w 0 = some (w + 1) ∧ KK (w + 1) = (14, c) ∧ 7 ≤ c ∧ c ≤ 100
section BW
variable {I : Nat → Nat → Int32} {J : Nat → Nat → Int64} {R : Nat → Nat → Option Nat} {w c : Nat} {β : Type}
theorem bW_xk (h : isW w c) : xk (mg (4562 + zn J) I J R) w 10 = true := me_xk (by have := h.1; omega) (by rw [h.2.1])
theorem bW_gR {F : Nat → Option β} (h : isW w c) (hR : RA R) : (gR (mg (4562 + zn J) I J R) w 10 0).bind F = F (w + 1) := by
  rw [e_gR (v := w + 1) (by have := h.1; omega) (by rw [h.2.1]) (hR.get (by have := h.1; omega) (by unfold kb; rw [h.2.1]; decide) h.2.2.1)]
  rfl
theorem bW_gI {F : Int32 → Option β} {k : Nat} (h : isW w c) : (gI (mg (4562 + zn J) I J R) w 10 k).bind F = F (I w k) := by
  rw [e_gI (by have := h.1; omega) (by rw [h.2.1])]
  rfl
theorem bW_sI {F : xM → Option β} {k : Nat} {v : Int32} (h : isW w c) : (sI (mg (4562 + zn J) I J R) w 10 k v).bind F = F (mg (4562 + zn J) (up I w k v) J R) := by
  rw [e_sI (by have := h.1; omega) (by rw [h.2.1])]
  rfl
theorem bW_sZ0 {F : xM → Option β} {k : Nat} (h : isW w c) : (sZ (mg (4562 + zn J) I J R) w 10 k 0).bind F = F (mg (4562 + zn J) (up I w k 0) J R) := by
  rw [e_sZ (by have := h.1; omega) (by rw [h.2.1]) (by first | decide | omega)]
  rfl
theorem bW_sZ1 {F : xM → Option β} {k : Nat} (h : isW w c) : (sZ (mg (4562 + zn J) I J R) w 10 k 1).bind F = F (mg (4562 + zn J) (up I w k 1) J R) := by
  rw [e_sZ (by have := h.1; omega) (by rw [h.2.1]) (by first | decide | omega)]
  rfl
theorem bW_gL {F : Int32 → Option β} (h : isW w c) : (gL (mg (4562 + zn J) I J R) (w + 1) 14).bind F = F (Int32.ofNat (c)) := by
  rw [e_gL (by have := h.1; omega) h.2.2.2.1]
  rfl
theorem bW_aI {F : Int32 → Option β} {k : Nat} (h : isW w c) (hk : k < c) : (aI (mg (4562 + zn J) I J R) (w + 1) 14 (Int32.ofNat (k))).bind F = F (I (w + 1) k) := by
  rw [e_aI (by have := h.1; omega) h.2.2.2.1 hk (by have := h.2.2.2.2.2; omega)]
  rfl
theorem bW_wI {F : xM → Option β} {k : Nat} {v : Int32} (h : isW w c) (hk : k < c) : (wI (mg (4562 + zn J) I J R) (w + 1) (Int32.ofNat (k)) v).bind F = F (mg (4562 + zn J) (up I (w + 1) k v) J R) := by
  rw [e_wI (by have := h.1; omega) h.2.2.2.1 hk (by have := h.2.2.2.2.2; omega)]
  rfl
end BW
/-- so many limbs hold a number, without zeros ahead -/
def Wh (I : Nat → Nat → Int32) (w c k n : Nat) : Prop := isW w c ∧ I w 1 = (Int32.ofNat (k)) ∧ k ≤ c ∧ Dg I (w + 1) k n ∧ (k = 0 ∨ Bw (k - 1) ≤ n)
def sgn (z : Int) : Int32 := if z < 0 then 1 else 0
def Wz (I : Nat → Nat → Int32) (w c : Nat) (z : Int) : Prop := (∃ k, Wh I w c k z.natAbs) ∧ I w 2 = sgn z
/-- what stays: all but some addresses -/
def FrS (S : Nat → Prop) (I I' : Nat → Nat → Int32) : Prop := ∀ x, ¬ S x → I' x = I x
def Sw (w : Nat) : Nat → Prop := fun x => x = w ∨ x = w + 1
theorem FrS_rfl {S : Nat → Prop} {I : Nat → Nat → Int32} : FrS S I I := fun _ _ => rfl
theorem FrS_tr {S : Nat → Prop} {I I' I'' : Nat → Nat → Int32} (h : FrS S I I') (h' : FrS S I' I'') : FrS S I I'' := fun x hx => (h' x hx).trans (h x hx)
theorem FrS_mono {S T : Nat → Prop} {I I' : Nat → Nat → Int32} (h : FrS S I I') (hs : ∀ x, S x → T x) : FrS T I I' := fun x hx => h x (fun q => hx (hs x q))
theorem FrS_up {S : Nat → Prop} {I I' : Nat → Nat → Int32} {a k : Nat} {v : Int32} (h : FrS S I I') (ha : S a) : FrS S I (up I' a k v) := fun x hx => (up_r (fun (q : x = a) => hx (by rw [q]; exact ha))).trans (h x hx)
theorem Wh_keep {I I' : Nat → Nat → Int32} {w c k n : Nat} (h : Wh I w c k n) (e : I' w = I w) (e' : I' (w + 1) = I (w + 1)) : Wh I' w c k n := by
  refine ⟨h.1, (by rw [e]; exact h.2.1), h.2.2.1, Dg_keep h.2.2.2.1 (fun j _ => by rw [e']), h.2.2.2.2⟩
theorem Wz_keep {I I' : Nat → Nat → Int32} {w c : Nat} {z : Int} (h : Wz I w c z) (e : I' w = I w) (e' : I' (w + 1) = I (w + 1)) : Wz I' w c z := ⟨⟨h.1.choose, Wh_keep h.1.choose_spec e e'⟩, by rw [e]; exact h.2⟩
theorem Wh_lt {I : Nat → Nat → Int32} {w c k n : Nat} (h : Wh I w c k n) : n < Bw k := h.2.2.2.1.1
theorem Wh_0 {I : Nat → Nat → Int32} {w c k n : Nat} (h : Wh I w c k n) : k = 0 ↔ n = 0 := by
  constructor
  · intro e
    have := Wh_lt h
    rw [e, Bw_0] at this
    omega
  · intro e
    rcases h.2.2.2.2 with q | q
    · exact q
    · have := Bw_pos (k - 1)
      omega
theorem Wh_c {I : Nat → Nat → Int32} {w c k n : Nat} (h : Wh I w c k n) : k ≤ 100 := Nat.le_trans h.2.2.1 h.1.2.2.2.2.2
