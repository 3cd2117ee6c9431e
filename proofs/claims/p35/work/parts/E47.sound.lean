/-! the law: a tree is sound -/
def asum (nd : Nat → Nd) (a : Nat) : Nat → Nat
  | 0 => 0
  | m + 1 => asum nd a m + aro nd (a + m)
theorem asum_add (nd : Nat → Nd) (a m : Nat) : ∀ m', asum nd a (m + m') = asum nd a m + asum nd (a + m) m' := by
  intro m'
  induction m' with
  | zero => rfl
  | succ m' ih =>
    show asum nd a (m + m') + aro nd (a + (m + m')) = asum nd a m + (asum nd (a + m) m' + aro nd (a + m + m'))
    rw [ih, show a + (m + m') = a + m + m' by omega]
    omega
/-- the operands of all nodes are all nodes but the first -/
theorem asum_tree {n : Nat} {nd : Nat → Nd} {sp : Nat → Nat} (h : WT n (aro nd) sp) : ∀ f i, i < n → sp i ≤ f → asum nd i (sp i) + 1 = sp i := by
  intro f
  induction f with
  | zero =>
    intro i hi hf
    have := (h.2.2.2 i hi).1
    omega
  | succ f ih =>
    intro i hi hf
    have args : ∀ K, K ≤ aro nd i → i + 1 ≤ kid sp i K ∧ asum nd (i + 1) (kid sp i K - (i + 1)) + K = kid sp i K - (i + 1) := by
      intro K
      induction K with
      | zero =>
        intro _
        have e : kid sp i 0 = i + 1 := rfl
        rw [e, Nat.sub_self]
        exact ⟨Nat.le_refl _, rfl⟩
      | succ K ihK =>
        intro hK
        obtain ⟨a1, a2⟩ := ihK (by omega)
        obtain ⟨b1, b2, b3⟩ := kid_sp h hi (show K < aro nd i by omega)
        have e : kid sp i (K + 1) = kid sp i K + sp (kid sp i K) := rfl
        have c := ih (kid sp i K) b1 (by omega)
        rw [e, show kid sp i K + sp (kid sp i K) - (i + 1) = (kid sp i K - (i + 1)) + sp (kid sp i K) by omega, asum_add, show i + 1 + (kid sp i K - (i + 1)) = kid sp i K by omega]
        omega
    obtain ⟨a1, a2⟩ := args _ (Nat.le_refl _)
    obtain ⟨b1, b2, b3, -⟩ := h.2.2.2 i hi
    rw [b3] at a1 a2
    have e : asum nd i (1 + (i + sp i - (i + 1))) = asum nd i 1 + asum nd (i + 1) (i + sp i - (i + 1)) := asum_add nd i 1 _
    have e1 : asum nd i 1 = 0 + aro nd i := rfl
    rw [show 1 + (i + sp i - (i + 1)) = sp i by omega] at e
    omega
theorem asum_le {n : Nat} {nd : Nat → Nd} : ∀ m, m ≤ n → asum nd 0 m ≤ asum nd 0 n := by
  intro m hm
  have := asum_add nd 0 m (n - m)
  rw [show m + (n - m) = n by omega] at this
  omega
theorem i32_nle1 {a : Nat} (ha : a < 2147483648) : ¬ (Int32.ofNat (a)) ≤ (-1 : Int32) := fun y => absurd (Int32.le_trans (i32_0le ha) y) (by decide)
section LSO
variable {C : Nat → Nat → Int32} {Z : Nat} {t : GT} {s : GS} {b : GB} {n : GN} {f : GF} {v : GV} {p : GT} {r : GR} {h : GH} {σ : xM} {k : Nat}
theorem ls_sound (H : LSt C Z t s b n f v p r h σ) (h0 : t.1 = 0) (hk : k < s.1) (hZ : Z < 10) (hs : s.1 ≤ 20) (hh : h.1 ≤ 16) : QK (f_L_sound σ 0 (Int32.ofNat (k))) (fun y => ∃ C' Z', C' 4561 = C 4561 ∧ Z' ≤ Z + 1 ∧ SPost C' Z' 0 s b n f h y) := by
  obtain ⟨hE, -, -, -, hf20, -, hT, -⟩ := ls_top H
  obtain ⟨⟨w1, w2⟩, T80⟩ := hT k hk
  have w1 : WT (s.2.1 k) (aro (s.2.2.1 k)) (s.2.2.2 k) := w1
  have T80 : s.2.1 k ≤ 80 := T80
  obtain ⟨n0, n80, sp0⟩ := ls_n H hk
  obtain ⟨x, e4, hx⟩ := (ls_node H hk n0).2.2.2.2
  have e4 : f_X11_node σ 0 (Int32.ofNat (k)) 0 4 = some (.inl x) := e4
  have hx : x = -1 := hx.resolve_right (fun ⟨j, y, _⟩ => absurd y (Nat.not_lt_zero j))
  have as := asum_tree w1 _ 0 n0 (Nat.le_refl _)
  rw [sp0] at as
  unfold f_L_sound
  rw [if_pos (ls_ok H), e4, Option.bind_some, Sum.elim_inl, if_pos hx, if_pos (ls_ok H), ls_same H hk hk rfl, Option.bind_some, Sum.elim_inl, if_neg (by decide)]
  unfold f_L_sound_j25
  rw [if_pos (ls_ok H), ls_n5 H hk, Option.bind_some, Sum.elim_inl, q_let, q_let]
  refine q_bind (P := fun o => o = .inr (0, (Int32.ofNat (k)), 1, (Int32.ofNat (s.2.1 k)), (Int32.ofNat (asum (s.2.2.1 k) 0 (s.2.1 k))))) ?_ ?_
  · refine q_for (s.2.1 k) (fun j x => x = (0, (Int32.ofNat (k)), 1, (Int32.ofNat (s.2.1 k)), (Int32.ofNat (asum (s.2.2.1 k) 0 j)), (Int32.ofNat (j)))) ?_ ?_ (i := 0) rfl (Nat.zero_le _) (by unfold xF; omega)
    · rintro j _ hj rfl
      obtain ⟨-, -, d3, d5, x4, d4, hx4⟩ := ls_node H hk hj
      have sp1 := (w1.2.2.2 j hj).1
      have sp2 := (w1.2.2.2 j hj).2.1
      unfold f_L_sound_s40
      rw [q_let, q_let, q_let, q_let, q_let, q_let]
      dsimp only
      rw [if_neg (show ¬ (Int32.ofNat (s.2.1 k)) ≤ (Int32.ofNat (j)) from fun y => absurd ((i32_le (by omega) (by omega)).mp y) (by omega)), if_neg (show ¬ (1 : Int32) = 0 by decide), if_pos (ls_ok H), d3, Option.bind_some, Sum.elim_inl, q_let, if_pos (ls_ok H), d4, Option.bind_some, Sum.elim_inl]
      have nle : ¬ (Int32.ofNat (j)) ≤ x4 := fun y => by
        rcases hx4 with rfl | ⟨i, y1, rfl⟩
        · exact i32_nle1 (by omega) y
        · exact absurd ((i32_le (by omega) (by omega)).mp y) (by omega)
      rw [if_neg nle, if_pos (ls_ok H), d5, Option.bind_some, Sum.elim_inl, if_neg (show ¬ (Int32.ofNat (s.2.2.2 k j)) < (1 : Int32) from fun y => absurd ((i32_lt (m := 1) (by omega) (by omega)).mp y) (by omega))]
      unfold f_L_sound_j93
      rw [q_let, show (Int32.ofNat (j)) + (1 : Int32) = (Int32.ofNat (j + 1)) from n_add j 1, show (Int32.ofNat (asum (s.2.2.1 k) 0 j)) + (Int32.ofNat ((s.2.2.1 k j).2.2.2)) = (Int32.ofNat (asum (s.2.2.1 k) 0 (j + 1))) by
        rw [n_add]
        show _ = (Int32.ofNat (asum (s.2.2.1 k) 0 j + aro (s.2.2.1 k) (0 + j)))
        rw [Nat.zero_add]
        rfl]
      exact q_go rfl
    · rintro _ rfl
      unfold f_L_sound_s40
      rw [q_let, q_let, q_let, q_let, q_let, q_let]
      dsimp only
      rw [if_pos ((i32_le (by omega) (by omega)).mpr (Nat.le_refl _))]
      exact q_ex rfl
  rintro _ rfl
  rw [Sum.elim_inr]
  unfold f_L_sound_j100
  dsimp only
  rw [if_neg (show ¬ (1 : Int32) = 0 by decide), if_pos (show (Int32.ofNat (asum (s.2.2.1 k) 0 (s.2.1 k))) = (Int32.ofNat (s.2.1 k)) - 1 by
    rw [show (Int32.ofNat (s.2.1 k)) - 1 = (Int32.ofNat (s.2.1 k - 1)) from n_sub (b := 1) (by omega), show asum (s.2.2.1 k) 0 (s.2.1 k) = s.2.1 k - 1 by omega])]
  unfold f_L_sound_j117
  rw [q_let]
  refine q_bind (P := fun o => ∃ σ', o = .inr (0, (Int32.ofNat (k)), 1, σ') ∧ LSt C Z t s b n f v p r h σ') ?_ ?_
  · refine q_for 4 (fun j x => ∃ σ', x = (0, (Int32.ofNat (k)), 1, (Int32.ofNat (j)), σ') ∧ LSt C Z t s b n f v p r h σ') ?_ ?_ (i := 0) ⟨σ, rfl, H⟩ (Nat.zero_le _) (by unfold xF; omega)
    · rintro j _ hj ⟨σ1, rfl, H1⟩
      obtain ⟨σ2, e2, H2⟩ := ls_audit H1 hk (x := j) (by omega)
      unfold f_L_sound_s121
      rw [q_let, q_let, q_let, q_let, q_let]
      dsimp only
      rw [if_neg (show ¬ (4 : Int32) ≤ (Int32.ofNat (j)) from fun y => absurd ((i32_le (k := 4) (by omega) (by omega)).mp y) (by omega)), if_neg (show ¬ (1 : Int32) = 0 by decide), if_pos (ls_ok H1), e2, Option.bind_some, q_let]
      dsimp only
      rw [Sum.elim_inl, q_let, show (Int32.ofNat (j)) + (1 : Int32) = (Int32.ofNat (j + 1)) from n_add j 1]
      exact q_go ⟨σ2, rfl, H2⟩
    · rintro _ ⟨σ1, rfl, H1⟩
      unfold f_L_sound_s121
      rw [q_let, q_let, q_let, q_let, q_let]
      dsimp only
      rw [if_pos (by decide)]
      exact q_ex ⟨σ1, rfl, H1⟩
  rintro _ ⟨σ1, rfl, H1⟩
  rw [Sum.elim_inr]
  unfold f_L_sound_j145
  dsimp only
  rw [if_neg (show ¬ (1 : Int32) = 0 by decide)]
  refine q_bind (ls_printed H1 h0 hk hZ hs hh) ?_
  rintro _ ⟨C', Z', c1, c2, σ2, t2, s2, v2, p2, r2, h2, rfl, z2, H2, S2, hh2, sh2⟩
  have k2 : k < s2.1 := by rw [S2.1]; exact hk
  dsimp only
  rw [if_pos (show xR2 [0] = true by decide), if_neg (show ¬ (1 : Int32) = 0 by decide)]
  refine q_bind (ls_reckoned H2 k2) ?_
  rintro _ ⟨σ3, v3, p3, rfl, H3⟩
  dsimp only
  rw [if_neg (show ¬ (1 : Int32) = 0 by decide)]
  refine q_bind (ls_simpler H3 k2 (by rw [S2.1]; exact hs) (by rw [hh2]; exact hh)) ?_
  rintro _ ⟨σ4, t4, s4, v4, p4, r4, h4, rfl, z4, H4, S4, hh4, sh4⟩
  dsimp only
  rw [if_neg (show ¬ (1 : Int32) = 0 by decide)]
  unfold f_L_sound_j178
  rw [q_xz1]
  exact q_ok ⟨C', Z', c1, c2, σ4, t4, s4, v4, p4, r4, h4, rfl, by rw [z4, z2], H4, Sam_t S2 S4, by rw [hh4, hh2], fun m y => sh4 m (sh2 m y)⟩
end LSO
