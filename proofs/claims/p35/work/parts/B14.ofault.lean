/-! calls: fault and read -/
def visl (l : List Wp) : List Wi := vis (wF l) (fun _ => false) l.length 0
theorem vis_all {W : Nat → Wd} : ∀ d k, vis W (fun _ => false) (d + 1) k = vis W (fun _ => false) d k ++ [(k + d, W (k + d))] := by
  intro d
  induction d with
  | zero => intro k; rfl
  | succ d ih =>
    intro k
    rw [vis_c, if_neg (show ¬ false = true by decide), ih (k + 1), vis_c W _ d k, if_neg (show ¬ false = true by decide), List.cons_append, show k + 1 + d = k + (d + 1) by omega]
theorem vis_congr {W W' : Nat → Wd} {g : Nat → Bool} : ∀ d k, (∀ i, k ≤ i → i < k + d → W' i = W i) → vis W' g d k = vis W g d k := by
  intro d
  induction d with
  | zero => intro k _; rfl
  | succ d ih =>
    intro k h
    rw [vis_c, vis_c, ih (k + 1) (fun i h1 h2 => h i (by omega) (by omega)), h k (Nat.le_refl _) (by omega)]
theorem visl_cons (x : Wp) (l : List Wp) : visl (x :: l) = visl l ++ [(l.length, x.1)] := by
  unfold visl
  rw [List.length_cons, vis_all, Nat.zero_add, show wF (x :: l) l.length = x.1 from if_pos rfl]
  congr 1
  exact vis_congr _ _ (fun i _ hi => if_neg (by omega))
theorem nws_len (ws : List Wi) : nws ws ≤ ws.length := by
  induction ws with
  | nil => exact Nat.le_refl _
  | cons w ws ih =>
    rw [nws_pos, List.length_cons]
    have : nwd w.2 ≤ 1 := by
      unfold nwd
      split <;> omega
    omega
theorem run_mem {b : GB} : ∀ (n : Nat) (ws : List Wi) (st s : PS) (w : Wi), ws.length ≤ n → run b ws st = .inl (w, s) → w ∈ ws := by
  intro n
  induction n with
  | zero =>
    intro ws st s w hn e
    cases ws with
    | nil => cases e
    | cons x ws => exact absurd hn (Nat.not_succ_le_zero _)
  | succ n ih =>
    intro ws st s w hn e
    cases ws with
    | nil => cases e
    | cons x ws =>
      rw [List.length_cons] at hn
      rw [run_cons] at e
      by_cases q : isCl x st ws = true
      · rw [if_pos q] at e
        have := ih _ _ _ _ (by rw [List.length_drop]; omega) e
        exact List.mem_cons_of_mem _ (List.mem_of_mem_drop this)
      · rw [if_neg q] at e
        cases hs : stA b x.2 st with
        | none =>
          rw [hs] at e
          cases e
          exact List.mem_cons_self ..
        | some s2 =>
          rw [hs] at e
          exact List.mem_cons_of_mem _ (ih _ _ _ _ (by omega) e)
theorem vis_mem {W : Nat → Wd} {g : Nat → Bool} : ∀ d k w, w ∈ vis W g d k → k ≤ w.1 ∧ w.1 < k + d ∧ w.2 = W w.1 := by
  intro d
  induction d with
  | zero => intro k w h; cases h
  | succ d ih =>
    intro k w h
    rw [vis_c] at h
    split at h
    · have := ih _ _ h
      exact ⟨by omega, by omega, this.2.2⟩
    · rcases List.mem_cons.mp h with rfl | h
      · exact ⟨Nat.le_refl _, by show k < k + (d + 1); omega, rfl⟩
      · have := ih _ _ h
        exact ⟨by omega, by omega, this.2.2⟩
/-- only the last word can be a number without digits -/
theorem lexS_no7 {c : Nat → Nat} {n : Nat} (hc : ∀ k, k < n → c k < 65536) : ∀ f i l, (∀ x, x ∈ l → x.1.1 ≠ 7) → ∀ x, x ∈ (lexS c n f i l).drop 1 → x.1.1 ≠ 7 := by
  intro f
  induction f with
  | zero => intro i l h x hx; exact h x (List.mem_of_mem_drop hx)
  | succ f ih =>
    intro i l h
    rw [lexS_c]
    have nx : ∀ w : Wp, w.1.1 ≠ 7 → ∀ x, x ∈ w :: l → x.1.1 ≠ 7 := fun w hw x hx => by
      rcases List.mem_cons.mp hx with rfl | hx
      · exact hw
      · exact h x hx
    split
    · exact fun x hx => h x (List.mem_of_mem_drop hx)
    · next qi =>
      have o3 := (otk_ok (hc i (by omega))).2.2.1
      split
      · exact ih _ _ h
      · split
        · split
          · exact h
          · exact ih _ _ (nx _ (show (0 : Nat) ≠ 7 by decide))
        · split
          · exact h
          · exact ih _ _ (nx _ o3)
section OF
variable {I : Nat → Nat → Int32} {J : Nat → Nat → Int64} {R : Nat → Nat → Option Nat} {t : GT} {s : GS} {b : GB} {n : GN} {f : GF} {v : GV} {q : Nat → GV} {p : GT} {r : GR} {h : GH} {β : Type}
theorem chr_t (H : CTy I t) : ∃ c : Nat → Nat, ∀ k, k < t.1 → I 10 k = (Int32.ofNat (c k)) ∧ c k < 65536 ∧ t.2 k = (Int32.ofNat (c k)) := by
  refine ⟨fun k => (t.2 k).toNatClampNeg, fun k hk => ?_⟩
  obtain ⟨h1, x, hx, h2⟩ := H.2.2 k hk
  have e : (t.2 k).toNatClampNeg = x := by rw [h2, i32_nat (by omega)]
  dsimp only
  rw [e]
  exact ⟨h1.trans h2, hx, h2⟩
/-- the class splits and reads what was typed -/
theorem C_typed {c : Nat → Nat} (hR : RA R) (H : InvC I t s b n f v q p r h) (hT : TbOK b) (hc : ∀ k, k < t.1 → I 10 k = (Int32.ofNat (c k)) ∧ c k < 65536 ∧ t.2 k = (Int32.ofNat (c k))) : ∃ I1 I2, f_X6_split (mg (4562 + zn J) I J R) 540 10 (Int32.ofNat (t.1)) = some (mg (4562 + zn J) I1 J R) ∧ f_X6_byStacks (mg (4562 + zn J) I1 J R) 540 = some (resC (pF (lexS c t.1 t.1 0 [])) t.1 (run b (visl (lexS c t.1 t.1 0 [])) st0), mg (4562 + zn J) I2 J R) ∧ (∀ x, ¬ (540 ≤ x ∧ x ≤ 558) → I2 x = I x) ∧ ∀ ln, acc (run b (visl (lexS c t.1 t.1 0 [])) st0) = some ln → ln.length ≤ 80 ∧ CN I2 551 ln.length (lnF ln) := by
  have t60 := H.1.1
  have len := lexS_len (c := c) (n := t.1) t.1 0 [] (Nat.zero_le _)
  rw [show ([] : List Wp).length = 0 from rfl, Nat.zero_add, Nat.sub_zero] at len
  obtain ⟨_, e1, I1, rfl, hF1, h6, hW1⟩ := C_split (J := J) (A := 10) (len := 60) (n := t.1) (c := c) hR H.2.2.1 ⟨by decide, rfl⟩ (Or.inl (by first | decide | omega)) (by first | decide | omega) (fun k hk => ⟨(hc k hk).1, (hc k hk).2.1⟩) t60 (by omega)
  have hC1 : CTb I1 b := CTb_keep H.2.2.1 (fun x hx => funext (fun k => hF1 x k (by unfold Swd; omega)))
  have n8 : nws (visl (lexS c t.1 t.1 0 [])) ≤ 80 := by
    have a1 := nws_len (visl (lexS c t.1 t.1 0 []))
    have a2 := vis_len (W := wF (lexS c t.1 t.1 0 [])) (g := fun _ => false) (lexS c t.1 t.1 0 []).length 0
    have : (visl (lexS c t.1 t.1 0 [])).length ≤ (lexS c t.1 t.1 0 []).length := a2
    omega
  obtain ⟨_, e2, I2, rfl, hF2, hA⟩ := C_byStacks (J := J) hR hC1 hT hW1 h6 n8
  refine ⟨I1, I2, e1, e2, fun x hx => funext (fun k => ?_), hA⟩
  rw [hF2 x k (by unfold SRd; omega), hF1 x k (by unfold Swd; omega)]
theorem InvC_rd (H : InvC I t s b n f v q p r h) {I' : Nat → Nat → Int32} (e : ∀ x, ¬ (540 ≤ x ∧ x ≤ 558) → x < 4561 → I' x = I x) : InvC I' t s b n f v q p r h := InvC_keep H (fun x hx => e x (by unfold DC at hx; omega) (by unfold DC at hx; omega))
end OF
