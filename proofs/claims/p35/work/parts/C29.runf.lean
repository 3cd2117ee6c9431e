/-! the text with all brackets is read as the tree -/
def Suf (S T : SW) : Prop := ∃ X, T.1 = X ++ S.1
theorem Suf_rfl (S : SW) : Suf S S := ⟨[], rfl⟩
theorem Suf_tr {A B C : SW} (h : Suf A B) (h' : Suf B C) : Suf A C := by
  obtain ⟨X, e⟩ := h
  obtain ⟨Y, e'⟩ := h'
  exact ⟨Y ++ X, by rw [e', e, List.append_assoc]⟩
theorem Suf_adw (w : Wd) (S : SW) : Suf S (adw w S) := ⟨[(w, 0)], rfl⟩
theorem Suf_clw (o : Nat) (S : SW) : Suf S (clw o S) := ⟨[((5, 41), 0)], rfl⟩
theorem Suf_len {S T : SW} (h : Suf S T) : S.1.length ≤ T.1.length := by
  obtain ⟨X, e⟩ := h
  rw [e, List.length_append]
  omega
theorem spO_suf {rec : Nat → SW → SW} {x y : Nd} {c : Nat} (h : ∀ S, Suf S (rec c S)) (S : SW) : Suf S (spO rec x y c S) := by
  unfold spO
  split
  · exact Suf_tr (Suf_tr (Suf_adw _ _) (h _)) (Suf_clw _ _)
  · exact h S
theorem spI_suf (x : Nd) (k : Nat) (S : SW) : Suf S (spI x k S) := by
  unfold spI
  split
  · exact Suf_rfl S
  · split
    · exact Suf_adw _ _
    · exact Suf_adw _ _
theorem spA_suf {rec : Nat → SW → SW} {nd : Nat → Nd} {sp : Nat → Nat} {i : Nat} (h : ∀ c S, Suf S (rec c S)) : ∀ k S, Suf S (spA rec nd sp i k S) := by
  intro k
  induction k with
  | zero => intro S; exact Suf_rfl S
  | succ k ih =>
    intro S
    rw [spA_c]
    exact Suf_tr (Suf_tr (ih S) (spI_suf _ _ _)) (spO_suf (h _) _)
theorem spC_suf (x : Nd) (S : SW) : Suf S (spC x S) := by
  unfold spC
  split
  · split
    · exact Suf_adw _ _
    · exact Suf_rfl S
  · split
    · exact Suf_adw _ _
    · exact Suf_rfl S
theorem spB_suf (x : Nd) (S : SW) : Suf S (spB x S) := by
  unfold spB
  split
  · split
    · exact Suf_adw _ _
    · exact Suf_rfl S
  · split
    · exact Suf_tr (Suf_adw _ _) (Suf_adw _ _)
    · exact Suf_adw _ _
theorem spl_suf {nd : Nat → Nd} {sp : Nat → Nat} : ∀ f i S, Suf S (spl nd sp f i S) := by
  intro f
  induction f with
  | zero => intro i S; exact Suf_rfl S
  | succ f ih =>
    intro i S
    rw [spl_c]
    exact Suf_tr (Suf_tr (spB_suf _ S) (spA_suf ih _ _)) (spC_suf _ _)
theorem wF_app : ∀ (X l : List Wp) j, j < l.length → wF (X ++ l) j = wF l j := by
  intro X l j hj
  induction X with
  | nil => rfl
  | cons x X ih =>
    rw [List.cons_append, wF_n (by rw [List.length_append]; omega)]
    exact ih
section RF
variable {b : GB} {n : Nat} {nd : Nat → Nd} {sp : Nat → Nat} {T : SW} {g : Nat → Bool}
theorem at_w {w : Wd} {S : SW} (h : Suf (adw w S) T) : S.1.length < T.1.length ∧ wF T.1 S.1.length = w := by
  have hl := Suf_len h
  obtain ⟨X, e⟩ := h
  have l1 : (adw w S).1.length = S.1.length + 1 := rfl
  refine ⟨by omega, ?_⟩
  rw [e, wF_app _ _ _ (by omega)]
  exact wF_s (w, 0) S.1
theorem at_c {o : Nat} {S : SW} (h : Suf (clw o S) T) : S.1.length < T.1.length ∧ wF T.1 S.1.length = (5, 41) := by
  have hl := Suf_len h
  obtain ⟨X, e⟩ := h
  have l1 : (clw o S).1.length = S.1.length + 1 := rfl
  refine ⟨by omega, ?_⟩
  rw [e, wF_app _ _ _ (by omega)]
  exact wF_s ((5, 41), 0) S.1
/-- what is to be seen from a place on -/
def vw (T : SW) (g : Nat → Bool) (k : Nat) : List Wi := vis (wF T.1) g (T.1.length - k) k
theorem vw_c {k : Nat} (hk : k < T.1.length) (hg : g k = false) : vw T g k = (k, wF T.1 k) :: vw T g (k + 1) := by
  unfold vw
  obtain ⟨d, e⟩ : ∃ d, T.1.length - k = d + 1 := ⟨T.1.length - k - 1, by omega⟩
  rw [e, vis_c, if_neg (by rw [hg]; decide), show T.1.length - (k + 1) = d by omega]
theorem vw_h {k : Nat} (hk : k < T.1.length) (hg : g k = true) : vw T g k = vw T g (k + 1) := by
  unfold vw
  obtain ⟨d, e⟩ : ∃ d, T.1.length - k = d + 1 := ⟨T.1.length - k - 1, by omega⟩
  rw [e, vis_c, if_pos hg, show T.1.length - (k + 1) = d by omega]
theorem acc_w {w : Wi} {ws : List Wi} {st st' : PS} (hc : isCl w st ws = false) (e : stA b w.2 st = some st') : acc (run b (w :: ws) st) = acc (run b ws st') := by
  rw [run_cons, hc, if_neg (by first | decide | omega), e]
theorem isCl_k {w : Wi} {st : PS} (h : w.2.1 ≠ 1) (ws : List Wi) : isCl w st ws = false := by
  cases ws with
  | nil => rfl
  | cons w' ws =>
    unfold isCl
    have : (w.2.1 == 1) = false := by
      cases hh : (w.2.1 == 1) with
      | false => rfl
      | true => exact absurd (beq_iff_eq.mp hh) h
    rw [this, Bool.and_false]
    rfl
theorem Eqr_1 {lv : Nat} {X Y : PS} (h : Eqr lv X Y) (hl : 1 ≤ lv) : Eqr 1 X Y := ⟨h.1, h.2.1, fun r hr => h.2.2 r (by omega)⟩
/-- where a part's nodes lie -/
def psA (rec : Nat → List Nd → List Nd) (sp : Nat → Nat) (i : Nat) : Nat → List Nd → List Nd
  | 0, M => M
  | K + 1, M => rec (kid sp i K) (psA rec sp i K M)
def pst (nd : Nat → Nd) (sp : Nat → Nat) : Nat → Nat → List Nd → List Nd
  | 0, _, M => M
  | f + 1, i, M => nd i :: psA (pst nd sp f) sp i (aro nd i) M
def Lay (nd : Nat → Nd) (sp : Nat → Nat) (L L' : List Ln) (i : Nat) : Prop := L'.length = L.length + sp i ∧ (∀ k, k < L.length → lnF L' k = lnF L k) ∧ (∀ x, i ≤ x → x < i + sp i → lnF L' (L.length + (pl sp x + sp i - (pl sp i + 1))) = nd x) ∧ ∀ f, sp i ≤ f → L'.map Prod.fst = pst nd sp f i (L.map Prod.fst)
def Lays (nd : Nat → Nd) (sp : Nat → Nat) (L L' : List Ln) (i K : Nat) : Prop := L'.length = L.length + (kid sp i K - i - 1) ∧ (∀ k, k < L.length → lnF L' k = lnF L k) ∧ (∀ x, i < x → x < kid sp i K → pl sp x + 1 ≤ (pl sp i + 1 - sp i) + (kid sp i K - i - 1)) ∧ (∀ x, i < x → x < kid sp i K → lnF L' (L.length + (pl sp x + sp i - (pl sp i + 1))) = nd x) ∧ ∀ f, sp i ≤ f + 1 → L'.map Prod.fst = psA (pst nd sp f) sp i K (L.map Prod.fst)
theorem Lays_0 (L : List Ln) (i : Nat) : Lays nd sp L L i 0 := ⟨by show _ = L.length + (i + 1 - i - 1); omega, fun k _ => rfl, fun x h1 h2 => by have h2 : x < i + 1 := h2; omega, fun x h1 h2 => by have h2 : x < i + 1 := h2; omega, fun _ _ => rfl⟩
theorem Lays_s {L L1 L2 : List Ln} {i K : Nat} (h : WT n (aro nd) sp) (hi : i < n) (hK : K < aro nd i) (h1 : Lays nd sp L L1 i K) (h2 : Lay nd sp L1 L2 (kid sp i K)) : Lays nd sp L L2 i (K + 1) := by
  obtain ⟨k1, k2, k3⟩ := kid_in h hi hK
  obtain ⟨a1, a2, a4, a3, a5⟩ := h1
  obtain ⟨b1, b2, b3, b4⟩ := h2
  have pc := pl_child h hi hK
  have pg := pl_ge h hi
  have ek : kid sp i (K + 1) = kid sp i K + sp (kid sp i K) := rfl
  have up : ∀ x, kid sp i K ≤ x → x < kid sp i (K + 1) → pl sp x ≤ pl sp (kid sp i K) ∧ pl sp (kid sp i K) + 1 ≤ pl sp x + sp (kid sp i K) := fun x h1 h2 => by
    by_cases y : x = kid sp i K
    · rw [y]
      have := (h.2.2.2 _ k2).1
      omega
    · have := pl_inner h k2 (show kid sp i K < x by omega) (by omega)
      omega
  refine ⟨by omega, fun k hk => by rw [b2 k (by omega)]; exact a2 k hk, fun x h1 h2 => ?_, fun x h1 h2 => ?_, fun f hf => by
    have := (kid_sp h hi hK).2.2
    rw [b4 f (by omega), a5 f hf]
    rfl⟩
  · by_cases z : x < kid sp i K
    · have := a4 x h1 z
      omega
    · have := up x (by omega) h2
      omega
  · have pi := pl_inner h hi h1 (by omega)
    by_cases z : x < kid sp i K
    · have := a4 x h1 z
      rw [b2 _ (by omega)]
      exact a3 x h1 z
    · have hx := b3 x (by omega) (by omega)
      have := up x (by omega) h2
      have e : L1.length + (pl sp x + sp (kid sp i K) - (pl sp (kid sp i K) + 1)) = L.length + (pl sp x + sp i - (pl sp i + 1)) := by omega
      rw [e] at hx
      exact hx
theorem Lays_e {L L1 : List Ln} {i s : Nat} (h : WT n (aro nd) sp) (hi : i < n) (h1 : Lays nd sp L L1 i (aro nd i)) : Lay nd sp L ((nd i, s) :: L1) i := by
  obtain ⟨a1, a2, a4, a3, a5⟩ := h1
  have ke := (h.2.2.2 i hi).2.2.1
  have s1 := (h.2.2.2 i hi).1
  have pg := pl_ge h hi
  refine ⟨by rw [List.length_cons]; omega, fun k hk => ?_, fun x h1 h2 => ?_, fun f hf => by
    obtain ⟨f, rfl⟩ : ∃ f', f = f' + 1 := ⟨f - 1, by omega⟩
    rw [List.map_cons, a5 f hf]
    rfl⟩
  · rw [← lnF_cons]
    unfold ext
    rw [if_neg (by omega)]
    exact a2 k hk
  · rw [← lnF_cons]
    unfold ext
    by_cases z : x = i
    · rw [if_pos (by rw [z]; omega), z]
    · have := a4 x (by omega) (by omega)
      have pi := pl_inner h hi (show i < x by omega) h2
      rw [if_neg (by omega)]
      exact a3 x (by omega) (by omega)
/-- a sign as it is spelled -/
theorem sgw_p {x : Nd} (hx : NV b x) (h3 : x.1 = 3) : ∃ p fx, p < 16 ∧ fx < 3 ∧ x = opNd p fx ∧ sgw x = (3, p) ∧ (b (fx * 16 + p)).1 ≠ 0 := by
  rcases hx with y | y | y | ⟨y1, p, fx, y2, y3, y4, y5, y6, y7⟩
  · rw [y.1] at h3; exact absurd h3 (by first | decide | omega)
  · rw [y.1] at h3; exact absurd h3 (by first | decide | omega)
  · rw [y.1] at h3; exact absurd h3 (by first | decide | omega)
  · have s65 : ∀ p, p < 16 → sgc p < 65536 := by decide
    have ev : vN x = sgc p := by
      unfold vN
      rw [y4]
      have := s65 p y2
      exact i32_nat (by omega)
    refine ⟨p, fx, y2, y3, ?_, ?_, y7⟩
    · unfold opNd
      exact Prod.ext y1 (Prod.ext y4 (Prod.ext y5 y6))
    · unfold sgw
      rw [ev, sgj_sgc p y2]
theorem rk_pos (hO : TbOK b) {p fx : Nat} (hp : p < 16) (hf : fx < 3) (h : (b (fx * 16 + p)).1 ≠ 0) : 0 < rkN b p fx := by
  have e := (rk_i hO hp hf).1
  refine Nat.pos_of_ne_zero (fun z => h ?_)
  rw [e, z]
  rfl
end RF
