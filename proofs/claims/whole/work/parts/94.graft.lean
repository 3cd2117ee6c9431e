/-! a tree in place of names -/
def repl (nd : Nat → Nd) (c : Int32) (x : Nat) : Bool := decide ((nd x).1 = 1 ∧ (nd x).2.1 = c ∧ ¬ (0 < x ∧ (nd (x - 1)).1 = 2 ∧ (nd (x - 1)).2.1 = 115))
def gc (nd : Nat → Nd) (c : Int32) (m : Nat) : Nat → Nat
  | 0 => 0
  | k + 1 => gc nd c m k + (if repl nd c k = true then m else 1)
def gb (nd : Nat → Nd) (c : Int32) (m : Nat) (nd' : Nat → Nd) : Nat → Nat → Nd
  | 0 => nd
  | k + 1 => if repl nd c k = true then app (gb nd c m nd' k) (gc nd c m k) nd' 0 else ext (gb nd c m nd' k) (gc nd c m k) (nd k)
theorem gc_mono {nd : Nat → Nd} {c : Int32} {m k n : Nat} (hm : 1 ≤ m) (h : k ≤ n) : gc nd c m k + (n - k) ≤ gc nd c m n := by
  induction n with
  | zero =>
    obtain rfl : k = 0 := by omega
    exact Nat.le_refl _
  | succ n ih =>
    by_cases q : k = n + 1
    · rw [q]; omega
    · have := ih (by omega)
      show _ ≤ gc nd c m n + (if repl nd c n = true then m else 1)
      split <;> omega
/-- the tree with the names among its first nodes replaced -/
theorem graft_WT {n m : Nat} {nd nd' : Nat → Nd} {sp sp' : Nat → Nat} {c : Int32} (h : WT n (aro nd) sp) (h' : WT m (aro nd') sp') (hz : ∀ x, x < n → (nd x).1 = 1 → (nd x).2.2.2 = 0) : ∀ k, k ≤ n → (∀ j, j ≤ k → gc nd c m j ≤ 80) → n ≤ 80 → ∃ s, WT (gc nd c m k + (n - k)) (aro (app (gb nd c m nd' k) (gc nd c m k) nd k)) s := by
  intro k
  induction k with
  | zero =>
    intro _ _ _
    refine ⟨sp, ?_⟩
    have : app (gb nd c m nd' 0) (gc nd c m 0) nd 0 = nd := by
      funext i
      unfold app
      rw [if_neg (show ¬ i < gc nd c m 0 from Nat.not_lt_zero i)]
      show nd (0 + (i - 0)) = nd i
      congr 1
      omega
    rw [this]
    show WT (0 + (n - 0)) _ _
    rw [Nat.zero_add]
    exact h
  | succ k ih =>
    intro hk hg hn
    obtain ⟨s, hs⟩ := ih (by omega) (fun j hj => hg j (by omega)) hn
    have gk := hg k (by omega)
    have gk1 := hg (k + 1) (by omega)
    have at0 : app (gb nd c m nd' k) (gc nd c m k) nd k (gc nd c m k) = nd k := by
      unfold app
      rw [if_neg (by omega)]
      congr 1
      omega
    by_cases q : repl nd c k = true
    · have q' := of_decide_eq_true q
      have e1 : gc nd c m (k + 1) = gc nd c m k + m := by
        show gc nd c m k + (if repl nd c k = true then m else 1) = _
        rw [if_pos q]
      have sp1 : s (gc nd c m k) = 1 := by
        have w := (hs.2.2.2 (gc nd c m k) (by omega)).2.2.1
        have ea : aro (app (gb nd c m nd' k) (gc nd c m k) nd k) (gc nd c m k) = 0 := by
          unfold aro
          rw [at0]
          exact hz k (by omega) q'.1
        rw [ea] at w
        have e0 : kid s (gc nd c m k) 0 = gc nd c m k + 1 := rfl
        omega
      have r := WT_rep hs (show gc nd c m k < gc nd c m k + (n - k) by omega) h' (by rw [sp1]; have := h'.1; omega)
      rw [sp1] at r
      refine ⟨rps s (gc nd c m k) 1 sp' m, ?_⟩
      rw [e1, show gc nd c m k + m + (n - (k + 1)) = gc nd c m k + (n - k) - 1 + m by omega]
      refine WT_congr r (fun i hi => ?_)
      have e2 : gb nd c m nd' (k + 1) = app (gb nd c m nd' k) (gc nd c m k) nd' 0 := by
        show (if repl nd c k = true then _ else _) = _
        rw [if_pos q]
      rw [e2, ← aro_rpn]
      unfold aro rpn app
      by_cases z1 : i < gc nd c m k
      · rw [if_pos z1, if_pos z1, if_pos (by omega), if_pos z1]
      · by_cases z2 : i < gc nd c m k + m
        · rw [if_neg z1, if_pos z2, if_pos z2, if_neg z1, Nat.zero_add]
        · rw [if_neg z1, if_neg z2, if_neg (by omega), if_neg z2]
          congr 2
          congr 1
          congr 1
          omega
    · have e1 : gc nd c m (k + 1) = gc nd c m k + 1 := by
        show gc nd c m k + (if repl nd c k = true then m else 1) = _
        rw [if_neg q]
      have e2 : gb nd c m nd' (k + 1) = ext (gb nd c m nd' k) (gc nd c m k) (nd k) := by
        show (if repl nd c k = true then _ else _) = _
        rw [if_neg q]
      refine ⟨s, ?_⟩
      rw [e1, e2, show gc nd c m k + 1 + (n - (k + 1)) = gc nd c m k + (n - k) by omega]
      refine WT_congr hs (fun i hi => ?_)
      unfold aro app ext
      by_cases z1 : i < gc nd c m k
      · rw [if_pos z1, if_pos (by omega), if_neg (by omega)]
      · by_cases z2 : i = gc nd c m k
        · rw [if_neg z1, if_pos (by omega), if_pos z2, z2, Nat.sub_self, Nat.add_zero]
        · rw [if_neg z1, if_neg (by omega)]
          congr 2
          congr 1
          congr 1
          omega
section CTY
variable {I : Nat → Nat → Int32} {J : Nat → Nat → Int64} {R : Nat → Nat → Option Nat} {a b d n m : Nat} {nd nd' : Nat → Nd} {sp sp' : Nat → Nat} {β : Type}
theorem T_graft {c : Int32} (hR : RA R) (ht : isTr a) (h : CT I b n nd sp) (h' : CT I d m nd' sp') (hz : ∀ x, x < n → (nd x).1 = 1 → (nd x).2.2.2 = 0) (hab : a ≠ b) (had : a ≠ d) : QK (f_X9_graftOnto (mg 4625 I J R) a b c d) (fun r => (gc nd c m n ≤ 80 ∧ ∃ I' s, r = (1, mg 4625 I' J R) ∧ FrS (St a) I I' ∧ CT I' a (gc nd c m n) (gb nd c m nd' n) s) ∨ (80 < gc nd c m n ∧ ∃ I', r = (0, mg 4625 I' J R) ∧ FrS (St a) I I')) := by
  have hb := h.1.1
  have d1 := isTr_ne ht hb hab
  have d2 := isTr_ne ht h'.1.1 had
  have hn := CT_n h
  have hm := CT_n h'
  have e0 := h'.2.1.2.2.1
  unfold f_X9_graftOnto
  rw [if_pos (bT_xk ht)]
  refine q_bind (T_clear (nd := nd) ht) ?_
  rintro r ⟨I1, rfl, hF1, h1⟩
  rw [q_let, q_let]
  refine q_bind (P := fun r => (gc nd c m n ≤ 80 ∧ ∃ I', r = .inr (a, 1, mg 4625 I' J R) ∧ FrS (fun x => a ≤ x ∧ x < a + 5) I I' ∧ CN I' a (gc nd c m n) (gb nd c m nd' n) ∧ ∀ j, j ≤ n → gc nd c m j ≤ 80) ∨ (80 < gc nd c m n ∧ ∃ I', r = .inr (a, 0, mg 4625 I' J R) ∧ FrS (fun x => a ≤ x ∧ x < a + 5) I I')) ?_ ?_
  · refine q_loop (fun t s => ∃ I' k, s = (a, b, c, d, 1, (Int32.ofNat (k)), mg 4625 I' J R) ∧ k + t = n + 1 ∧ k ≤ n ∧ FrS (fun x => a ≤ x ∧ x < a + 5) I I' ∧ CN I' a (gc nd c m k) (gb nd c m nd' k) ∧ (∀ j, j ≤ k → gc nd c m j ≤ 80) ∨ ∃ I' k, s = (a, b, c, d, 0, (Int32.ofNat (k)), mg 4625 I' J R) ∧ k + t = n + 1 ∧ k ≤ n ∧ FrS (fun x => a ≤ x ∧ x < a + 5) I I' ∧ 80 < gc nd c m n) ?_ (m := n + 1) ⟨I1, 0, Or.inl ⟨rfl, by omega, by omega, FrS_mono hF1 (fun x h => by omega), h1, fun j hj => by
      obtain rfl : j = 0 := by omega
      exact Nat.zero_le _⟩⟩ (by unfold xF; omega)
    rintro t s ⟨I', k, ⟨rfl, hk, hkn, hF, hC, hg⟩ | ⟨I2, k2, rfl, hk, hkn, hF, hg⟩⟩
    · have cb : CT I' b n nd sp := CT_keep h (fun x g1 g2 => hF x (by omega))
      have cd : CT I' d m nd' sp' := CT_keep h' (fun x g1 g2 => hF x (by omega))
      unfold f_X9_graftOnto_s10 xlet
      dsimp only
      rw [bT_gI hb, cb.1.2.1]
      by_cases q : n ≤ k
      · rw [if_pos ((i32_le (by omega) (by omega)).mpr q)]
        obtain rfl : k = n := by omega
        exact q_ex (Or.inl ⟨hg k (Nat.le_refl _), I', rfl, hF, hC, hg⟩)
      · rw [if_neg (fun z => q ((i32_le (by omega) (by omega)).mp z)), if_neg (by decide)]
        have gk := hg k (Nat.le_refl _)
        have j81 : ∀ v : Int32, v = (if repl nd c k = true then 1 else 0) → QK (f_X9_graftOnto_j81 (mg 4625 I' J R) a b c d (Int32.ofNat (k)) v) (qS (fun s' => ∃ m', m' < t ∧ ∃ I' k, s' = (a, b, c, d, 1, (Int32.ofNat (k)), mg 4625 I' J R) ∧ k + m' = n + 1 ∧ k ≤ n ∧ FrS (fun x => a ≤ x ∧ x < a + 5) I I' ∧ CN I' a (gc nd c m k) (gb nd c m nd' k) ∧ (∀ j, j ≤ k → gc nd c m j ≤ 80) ∨ ∃ I' k, s' = (a, b, c, d, 0, (Int32.ofNat (k)), mg 4625 I' J R) ∧ k + m' = n + 1 ∧ k ≤ n ∧ FrS (fun x => a ≤ x ∧ x < a + 5) I I' ∧ 80 < gc nd c m n) (fun r => (gc nd c m n ≤ 80 ∧ ∃ I', r = .inr (a, 1, mg 4625 I' J R) ∧ FrS (fun x => a ≤ x ∧ x < a + 5) I I' ∧ CN I' a (gc nd c m n) (gb nd c m nd' n) ∧ ∀ j, j ≤ n → gc nd c m j ≤ 80) ∨ (80 < gc nd c m n ∧ ∃ I', r = .inr (a, 0, mg 4625 I' J R) ∧ FrS (fun x => a ≤ x ∧ x < a + 5) I I'))) := by
          intro v hv
          unfold f_X9_graftOnto_j81 f_X9_graftOnto_j104
          have mono := gc_mono (nd := nd) (c := c) (m := m) (k := k + 1) (n := n) (by omega) (by omega)
          by_cases w : repl nd c k = true
          · rw [if_pos w] at hv
            have e1 : gc nd c m (k + 1) = gc nd c m k + m := by
              show gc nd c m k + (if repl nd c k = true then m else 1) = _
              rw [if_pos w]
            have e2 : gb nd c m nd' (k + 1) = app (gb nd c m nd' k) (gc nd c m k) nd' 0 := by
              show (if repl nd c k = true then _ else _) = _
              rw [if_pos w]
            rw [hv, if_neg (by decide), if_pos (bT_xk ht)]
            refine q_bind (T_addPart (p := 0) hR hC cd hm.1 had) ?_
            rw [e0]
            rintro r (⟨l1, I2, rfl, hF2, hC2⟩ | ⟨l1, I2, rfl, hF2⟩)
            · rw [q_let, show (Int32.ofNat (k)) + 1 = (Int32.ofNat (k + 1)) from n_add k 1]
              refine q_go ⟨t - 1, by omega, I2, k + 1, Or.inl ⟨rfl, by omega, by omega, FrS_tr hF hF2, by rw [e1, e2]; exact hC2, fun j hj => ?_⟩⟩
              by_cases y : j = k + 1
              · rw [y, e1]; exact l1
              · exact hg j (by omega)
            · rw [q_let, show (Int32.ofNat (k)) + 1 = (Int32.ofNat (k + 1)) from n_add k 1]
              exact q_go ⟨t - 1, by omega, I2, k + 1, Or.inr ⟨I2, k + 1, rfl, by omega, by omega, FrS_tr hF hF2, by omega⟩⟩
          · rw [if_neg w] at hv
            have e1 : gc nd c m (k + 1) = gc nd c m k + 1 := by
              show gc nd c m k + (if repl nd c k = true then m else 1) = _
              rw [if_neg w]
            have e2 : gb nd c m nd' (k + 1) = ext (gb nd c m nd' k) (gc nd c m k) (nd k) := by
              show (if repl nd c k = true then _ else _) = _
              rw [if_neg w]
            rw [hv, if_pos rfl, if_pos (bT_xk ht)]
            by_cases y : gc nd c m k < 80
            · refine q_bind (T_addNode hR hC cb.1 (by omega) y) ?_
              rintro r ⟨I2, rfl, hF2, hC2⟩
              rw [q_let, show (Int32.ofNat (k)) + 1 = (Int32.ofNat (k + 1)) from n_add k 1]
              refine q_go ⟨t - 1, by omega, I2, k + 1, Or.inl ⟨rfl, by omega, by omega, FrS_tr hF hF2, by rw [e1, e2]; exact hC2, fun j hj => ?_⟩⟩
              by_cases y : j = k + 1
              · rw [y, e1]; omega
              · exact hg j (by omega)
            · have e8 : gc nd c m k = 80 := by omega
              rw [e8] at hC
              rw [T_addNodeFull hR hC cb.1 (by omega), Option.bind_some, q_let, show (Int32.ofNat (k)) + 1 = (Int32.ofNat (k + 1)) from n_add k 1]
              exact q_go ⟨t - 1, by omega, I', k + 1, Or.inr ⟨I', k + 1, rfl, by omega, by omega, hF, by omega⟩⟩
        have j47 : ∀ u : Int32, (u = 0 ↔ ¬ (0 < k ∧ (nd (k - 1)).1 = 2 ∧ (nd (k - 1)).2.1 = 115)) → QK (f_X9_graftOnto_j47 (mg 4625 I' J R) a b c d (Int32.ofNat (k)) u) (qS (fun s' => ∃ m', m' < t ∧ ∃ I' k, s' = (a, b, c, d, 1, (Int32.ofNat (k)), mg 4625 I' J R) ∧ k + m' = n + 1 ∧ k ≤ n ∧ FrS (fun x => a ≤ x ∧ x < a + 5) I I' ∧ CN I' a (gc nd c m k) (gb nd c m nd' k) ∧ (∀ j, j ≤ k → gc nd c m j ≤ 80) ∨ ∃ I' k, s' = (a, b, c, d, 0, (Int32.ofNat (k)), mg 4625 I' J R) ∧ k + m' = n + 1 ∧ k ≤ n ∧ FrS (fun x => a ≤ x ∧ x < a + 5) I I' ∧ 80 < gc nd c m n) (fun r => (gc nd c m n ≤ 80 ∧ ∃ I', r = .inr (a, 1, mg 4625 I' J R) ∧ FrS (fun x => a ≤ x ∧ x < a + 5) I I' ∧ CN I' a (gc nd c m n) (gb nd c m nd' n) ∧ ∀ j, j ≤ n → gc nd c m j ≤ 80) ∨ (80 < gc nd c m n ∧ ∃ I', r = .inr (a, 0, mg 4625 I' J R) ∧ FrS (fun x => a ≤ x ∧ x < a + 5) I I'))) := by
          intro u hu
          obtain ⟨g1, g2, -⟩ := cb.1.2.2.2 k (by omega)
          unfold f_X9_graftOnto_j47 f_X9_graftOnto_j80
          rw [bT_g0 hb hR, bT_aI hb (by omega), g1]
          by_cases w1 : (nd k).1 = 1
          · rw [if_pos w1, bT_g1 hb hR, bT_aI hb (by omega), g2]
            by_cases w2 : (nd k).2.1 = c
            · rw [if_pos w2]
              by_cases w3 : u = 0
              · rw [if_pos w3]
                exact j81 1 (by rw [if_pos (show repl nd c k = true from decide_eq_true ⟨w1, w2, hu.mp w3⟩)])
              · rw [if_neg w3]
                exact j81 0 (by rw [if_neg (fun z => w3 (hu.mpr (of_decide_eq_true z).2.2))])
            · rw [if_neg w2]
              exact j81 0 (by rw [if_neg (fun z => w2 (of_decide_eq_true z).2.1)])
          · rw [if_neg w1]
            exact j81 0 (by rw [if_neg (fun z => w1 (of_decide_eq_true z).1)])
        by_cases z : k ≤ 0
        · rw [if_pos (show (Int32.ofNat (k)) ≤ (0 : Int32) from (i32_le (m := 0) (by omega) (by omega)).mpr z)]
          unfold f_X9_graftOnto_j46
          exact j47 0 ⟨fun _ => by omega, fun _ => rfl⟩
        · rw [if_neg (show ¬ (Int32.ofNat (k)) ≤ (0 : Int32) from fun y => z ((i32_le (m := 0) (by omega) (by omega)).mp y)), if_pos (bT_xk hb), show (Int32.ofNat (k)) - 1 = (Int32.ofNat (k - 1)) from n_sub (a := k) (b := 1) (by omega), T_isCallOf (i := k - 1) hR cb.1 (by omega), Option.bind_some]
          by_cases y : (nd (k - 1)).1 = 2 ∧ (nd (k - 1)).2.1 = 115
          · rw [if_pos y, if_neg (by decide)]
            exact j47 1 ⟨fun e => absurd e (by decide), fun e => absurd ⟨by omega, y⟩ e⟩
          · rw [if_neg y, if_pos rfl]
            unfold f_X9_graftOnto_j46
            exact j47 0 ⟨fun _ e => y e.2, fun _ => rfl⟩
    · unfold f_X9_graftOnto_s10 xlet
      dsimp only
      have e7 : I2 b 7 = (Int32.ofNat (n)) := by rw [hF b (by omega)]; exact h.1.2.1
      rw [bT_gI hb, e7]
      by_cases q : n ≤ k2
      · rw [if_pos ((i32_le (by omega) (by omega)).mpr q)]
        exact q_ex (Or.inr ⟨hg, I2, rfl, hF⟩)
      · rw [if_neg (fun z => q ((i32_le (by omega) (by omega)).mp z)), if_pos rfl]
        exact q_ex (Or.inr ⟨hg, I2, rfl, hF⟩)
  · rintro r (⟨l1, I2, rfl, hF2, hC2, hg⟩ | ⟨l1, I2, rfl, hF2⟩)
    · simp only [Sum.elim_inr]
      unfold f_X9_graftOnto_j112 f_X9_graftOnto_j121
      rw [if_neg (by decide), if_pos (bT_xk ht)]
      obtain ⟨s, hs⟩ := graft_WT (c := c) h.2.1 h'.2.1 hz n (Nat.le_refl _) hg hn.2
      rw [Nat.sub_self, Nat.add_zero] at hs
      have hs' : WT (gc nd c m n) (aro (gb nd c m nd' n)) s := WT_congr hs (fun i hi => by
        unfold aro app
        rw [if_pos hi])
      refine q_bind (T_measure hR hC2 hs') ?_
      rintro r ⟨I3, rfl, hF3, h4⟩
      exact q_ok (Or.inl ⟨l1, I3, s, rfl, FrS_tr (FrS_mono hF2 (fun x h => by unfold St; omega)) (FrS_mono hF3 (fun x h => by unfold St; omega)), h4⟩)
    · simp only [Sum.elim_inr]
      unfold f_X9_graftOnto_j112 f_X9_graftOnto_j121
      rw [if_pos rfl]
      exact q_ok (Or.inr ⟨l1, I2, rfl, FrS_mono hF2 (fun x h => by unfold St; omega)⟩)
end CTY
