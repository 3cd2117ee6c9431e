/-! the law: a quotient of two digits, typed, read and reckoned -/
section QUO
variable {b : GB} {n : GN} {f : GF} {s : GS} {nd : Nat → Nd} {sp : Nat → Nat}
theorem ev_dig {i m k c : Nat} (hx : nd i = (0, (Int32.ofNat (m)), -1, 0)) (hm : m < 2147483648) (hc : c < 200) : ev b n f s (k + 1) nd sp i [] c 0 = .inr (((m : Int), 1), c + 1) := by
  rw [ev_c]
  unfold evN
  have ar : aro nd i = 0 := by
    show (nd i).2.2.2 = 0
    rw [hx]
  have vn : vN (nd i) = m := by
    rw [hx]
    exact i32_nat hm
  rw [if_neg (by rw [hx]; intro y; exact absurd y.1 (by show ¬ (0 : Int32) = 2; decide)), if_neg (by rw [hx]; intro y; exact absurd y.1 (by show ¬ (0 : Int32) = 2; decide)), ar]
  show evG (ev b n f s k) b n f s (nd i) [] [] c 0 = _
  unfold evG
  rw [if_neg (by omega), if_pos (by rw [hx]), vn]
/-- a told division -/
def DivB (b : GB) (pl : Nat) : Prop := pl < 16 ∧ rkN b pl 1 = 0 ∧ 0 < rkN b pl 2 ∧ (b (32 + pl)).2.2 = 3
theorem ev_div {pl d e : Nat} (hB : DivB b pl) (h0 : nd 0 = opNd pl 2) (h1 : nd 1 = (0, (Int32.ofNat (d)), -1, 0)) (h2 : nd 2 = (0, (Int32.ofNat (e)), -1, 0)) (hs : sp 1 = 1) (hd : d < 10) (he : 1 ≤ e ∧ e < 10) : ∃ w c, evT b n f s nd sp = .inr (w, c) := by
  unfold evT
  rw [ev_c]
  unfold evN
  have ar : aro nd 0 = 2 := by
    show (nd 0).2.2.2 = 2
    rw [h0]
    rfl
  have s65 : ∀ p, p < 16 → sgc p < 65536 := by decide
  have vn : vN (nd 0) = sgc pl := by
    rw [h0]
    have := s65 pl hB.1
    exact i32_nat (by omega)
  have mg : mgN b (nd 0) = 3 := by
    unfold mgN
    rw [vn, sgj_sgc pl hB.1, h0]
    show ((b (((Int32.ofNat (2))).toNatClampNeg * 16 + pl)).2.2).toNatClampNeg = 3
    rw [i32_nat (by decide), show 2 * 16 + pl = 32 + pl by omega, hB.2.2.2]
    rfl
  rw [if_neg (by rw [h0]; intro y; exact absurd y.1 (by show ¬ (3 : Int32) = 2; decide)), if_neg (by rw [h0]; intro y; exact absurd y.1 (by show ¬ (3 : Int32) = 2; decide)), ar, evA_c, evA_c]
  have k1 : kid sp 0 1 = 2 := by
    show 0 + 1 + sp (0 + 1) = 2
    rw [hs]
  have z0 : evA (ev b n f s 451) nd sp 0 [] 0 0 0 = .inr ([], 0) := rfl
  rw [z0]
  dsimp only
  rw [show kid sp 0 0 = 1 from rfl, ev_dig h1 (by omega) (by decide)]
  dsimp only
  rw [k1, ev_dig h2 (by omega) (by decide)]
  dsimp only
  unfold evG
  rw [if_neg (by decide), if_neg (by rw [h0]; show ¬ (3 : Int32) = 0; decide), if_neg (by rw [h0]; show ¬ (3 : Int32) = 1; decide), if_neg (by rw [h0]; show ¬ (3 : Int32) = 2; decide), mg, if_neg (by decide)]
  unfold evO
  rw [if_neg (by decide)]
  show ∃ w c, (match q2 3 ((d : Int), 1) ((e : Int), 1) with
    | .inl e => .inl e
    | .inr v => .inr (v, 0 + 1 + 1 + 1) : Rs) = .inr (w, c)
  have q : ∃ v, q2 3 ((d : Int), 1) ((e : Int), 1) = .inr v := by
    have key : ∀ d : Nat, d < 10 → ∀ e : Nat, e < 10 → 1 ≤ e → (q2 3 ((d : Int), 1) ((e : Int), 1)).isRight = true := by decide +kernel
    have := key d hd e he.2 he.1
    cases hq : q2 3 ((d : Int), 1) ((e : Int), 1) with
    | inl y => rw [hq] at this; cases this
    | inr v => exact ⟨v, rfl⟩
  obtain ⟨v, q⟩ := q
  rw [q]
  exact ⟨v, _, rfl⟩
/-- the words of d / e -/
theorem lex_div {c : Nat → Nat} {d e : Nat} (h0 : c 0 = 48 + d) (h1 : c 1 = 47) (h2 : c 2 = 48 + e) (hd : d < 10) (he : e < 10) : tyW c 3 = [((0, e), 2), ((3, plN 47), 1), ((0, d), 0)] := by
  have dg0 : dgt (c 0) = d := by unfold dgt; rw [if_pos (by omega)]; omega
  have dg1 : dgt (c 1) = 16 := by unfold dgt; rw [if_neg (by omega), if_neg (by omega)]
  have dg2 : dgt (c 2) = e := by unfold dgt; rw [if_pos (by omega)]; omega
  have b0 : bas c 3 0 = 10 := by
    unfold bas
    split
    · rw [if_neg (by show ¬ c (0 + 1) = 120; rw [Nat.zero_add, h1]; decide), if_neg (by show ¬ c (0 + 1) = 111; rw [Nat.zero_add, h1]; decide), if_neg (by show ¬ c (0 + 1) = 98; rw [Nat.zero_add, h1]; decide)]
    · rfl
  have b2 : bas c 3 2 = 10 := by
    unfold bas
    rw [if_neg (by omega)]
  have n0 : numE c (nL 10 0 3) 10 9 (nF 10 0) 0 = (1, d) := by
    show numE c 3 10 9 0 0 = _
    rw [numE_c, if_pos ⟨by decide, by rw [dg0]; exact hd⟩, numE_c, if_neg (by rw [Nat.zero_add, dg1]; omega), dg0]
    simp only [Nat.mul_zero, Nat.zero_add]
  have n2 : numE c (nL 10 2 3) 10 9 (nF 10 2) 0 = (3, e) := by
    show numE c 3 10 9 2 0 = _
    rw [numE_c, if_pos ⟨by decide, by rw [dg2]; exact he⟩, numE_c, if_neg (by omega), dg2]
    simp only [Nat.mul_zero, Nat.zero_add]
  have o1 : otk (c 1) = (3, plN 47) := by rw [h1]; decide +kernel
  show lexS c 3 3 0 [] = _
  rw [lexS_c, if_neg (by decide), if_neg (by omega), if_pos (by omega), b0, n0, if_neg (show ¬ (1, d).1 = nF 10 0 by show ¬ (1 : Nat) = 0; decide)]
  dsimp only
  rw [lexS_c, if_neg (by decide), if_neg (by omega), if_neg (by omega), o1, if_neg (show ¬ (3 : Nat) = 8 by decide)]
  show lexS c 3 1 2 _ = _
  rw [lexS_c, if_neg (by decide), if_neg (by omega), if_pos (by omega), b2, n2, if_neg (show ¬ (3, e).1 = nF 10 2 by show ¬ (3 : Nat) = 2; decide)]
  rfl
end QUO
