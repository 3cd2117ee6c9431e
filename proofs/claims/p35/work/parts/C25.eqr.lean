/-! reading by climbing: what is the same to any word that ends -/
def rkE (b : GB) (p : Nat) : Nat := if 0 < rkN b p 1 then rkN b p 1 else rkN b p 2
def ends (b : GB) (lv : Nat) (ws : List Wi) : Prop := ∀ w l, ws = w :: l → w.2.1 = 3 → rkE b w.2.2 < lv
def Eqr (lv : Nat) (X Y : PS) : Prop := X.2.2.2 = false ∧ Y.2.2.2 = false ∧ ∀ r, r < lv → red r X.1 X.2.1 X.2.2.1 = red r Y.1 Y.2.1 Y.2.2.1
theorem isCl_f {w : Wi} {st : PS} (h : st.2.2.2 = false) (ws : List Wi) : isCl w st ws = false := by
  cases ws with
  | nil => rfl
  | cons w' ws =>
    unfold isCl
    rw [h]
    rfl
theorem stA_eqr {b : GB} {lv : Nat} {X Y : PS} {w : Wd} (hw : w.1 = 3 → rkE b w.2 < lv) (h0 : 0 < lv) (h : Eqr lv X Y) : stA b w X = stA b w Y := by
  obtain ⟨x, y, e⟩ := h
  unfold stA
  rw [x, y, if_neg (show ¬ false = true by decide), if_neg (show ¬ false = true by decide)]
  by_cases q3 : w.1 = 3
  · rw [if_pos q3, if_pos q3]
    have hr := hw q3
    unfold rkE at hr
    unfold stS
    by_cases z : 0 < rkN b w.2 1
    · rw [if_pos z] at hr
      rw [if_pos z, if_pos z, e _ hr]
    · rw [if_neg z] at hr
      rw [if_neg z, if_neg z, e _ hr]
  · rw [if_neg q3, if_neg q3, e 0 h0]
theorem run_eqr {b : GB} {lv : Nat} {X Y : PS} {ws : List Wi} (h0 : 0 < lv) (he : ends b lv ws) (h : Eqr lv X Y) : acc (run b ws X) = acc (run b ws Y) := by
  cases ws with
  | nil =>
    show acc (.inr X) = acc (.inr Y)
    unfold acc
    dsimp only
    rw [h.1, h.2.1, if_neg (by first | decide | omega), if_neg (by first | decide | omega), h.2.2 0 h0]
  | cons w ws =>
    rw [run_cons, run_cons, isCl_f h.1, isCl_f h.2.1, if_neg (by first | decide | omega), if_neg (by first | decide | omega), stA_eqr (he w ws rfl) h0 h]
    cases e : stA b w.2 Y with
    | none => rfl
    | some st => rfl
/-- how deep the operators that are held go -/
def dOk (b : GB) : List Wi → PS → Prop
  | [], _ => True
  | _ :: [], st => st.2.2.2 = true → st.1.length ≤ 140
  | w :: w' :: ws, st => (st.2.2.2 = true → st.1.length ≤ 140) ∧ (if isCl w st [w'] = true then dOk b ws (stF w.2.2 st) else match stA b w.2 st with
    | none => True
    | some st' => dOk b (w' :: ws) st')
theorem dOk_d {b : GB} {w : Wi} {ws : List Wi} {st : PS} (h : dOk b (w :: ws) st) (ht : st.2.2.2 = true) : st.1.length ≤ 140 := by
  cases ws with
  | nil => exact h ht
  | cons w' ws => exact h.1 ht
theorem dOk_n {b : GB} {w : Wi} {ws : List Wi} {st st' : PS} (h : dOk b (w :: ws) st) (hc : isCl w st ws = false) (e : stA b w.2 st = some st') : dOk b ws st' := by
  cases ws with
  | nil => trivial
  | cons w' ws =>
    have h2 := h.2
    rw [show isCl w st [w'] = false from hc, if_neg (by first | decide | omega), e] at h2
    exact h2
theorem dOk_c {b : GB} {w : Wi} {ws : List Wi} {st : PS} (h : dOk b (w :: ws) st) (hc : isCl w st ws = true) : dOk b (ws.drop 1) (stF w.2.2 st) := by
  cases ws with
  | nil => cases hc
  | cons w' ws =>
    have h2 := h.2
    rw [show isCl w st [w'] = true from hc, if_pos rfl] at h2
    exact h2
theorem dOk_i {b : GB} {w : Wi} {ws : List Wi} {st : PS} (h1 : st.2.2.2 = true → st.1.length ≤ 140) (h2 : isCl w st ws = true → dOk b (ws.drop 1) (stF w.2.2 st)) (h3 : isCl w st ws = false → ∀ st', stA b w.2 st = some st' → dOk b ws st') : dOk b (w :: ws) st := by
  cases ws with
  | nil => exact h1
  | cons w' ws =>
    refine ⟨h1, ?_⟩
    by_cases z : isCl w st [w'] = true
    · rw [if_pos z]
      exact h2 z
    · rw [if_neg z]
      cases e : stA b w.2 st with
      | none => trivial
      | some st' => exact h3 (by cases hh : isCl w st [w'] with
        | true => exact absurd hh z
        | false => exact hh) st' e
theorem dOk_eqr {b : GB} {lv : Nat} {X Y : PS} {ws : List Wi} (h0 : 0 < lv) (he : ends b lv ws) (h : Eqr lv X Y) (hd : dOk b ws X) : dOk b ws Y := by
  cases ws with
  | nil => trivial
  | cons w ws =>
    refine dOk_i (fun y => by rw [h.2.1] at y; cases y) (fun y => by rw [isCl_f h.2.1] at y; cases y) (fun _ st' e => ?_)
    rw [← stA_eqr (he w ws rfl) h0 h] at e
    exact dOk_n hd (isCl_f h.1 ws) e
theorem acc_n {b : GB} {w : Wi} {ws : List Wi} {st : PS} {fin : List Ln} (h : acc (run b (w :: ws) st) = some fin) (hc : isCl w st ws = false) : ∃ st', stA b w.2 st = some st' ∧ acc (run b ws st') = some fin := by
  rw [run_cons, hc, if_neg (by first | decide | omega)] at h
  cases e : stA b w.2 st with
  | none =>
    rw [e] at h
    cases h
  | some st' =>
    rw [e] at h
    exact ⟨st', rfl, h⟩
theorem acc_c {b : GB} {w : Wi} {ws : List Wi} {st : PS} {fin : List Ln} (h : acc (run b (w :: ws) st) = some fin) (hc : isCl w st ws = true) : acc (run b (ws.drop 1) (stF w.2.2 st)) = some fin := by
  rw [run_cons, hc, if_pos rfl] at h
  exact h
theorem red_top {r : Nat} {H : List Hd} {B : List Oe} {L : List Ln} (h : ∀ x t, H = x :: t → x.2.2.1 ≤ r) : red r H B L = (H, B, L) := by
  cases H with
  | nil => rfl
  | cons x t =>
    show (if r < x.2.2.1 then _ else _) = _
    rw [if_neg (by have := h x t rfl; omega)]
/-- the operator on top ends -/
theorem Eqr_pop {h : Hd} {H : List Hd} {B : List Oe} {L : List Ln} : Eqr h.2.2.1 (h :: H, B, L, false) (H, (h.2.2.2, szs (B.take (tkn h)) + 1) :: B.drop (tkn h), (hNd h, szs (B.take (tkn h)) + 1) :: L, false) := ⟨rfl, rfl, fun r hr => by
  show (if r < h.2.2.1 then _ else _) = _
  rw [if_pos hr]⟩
theorem ends_0 {b : GB} {ws : List Wi} {w : Wi} {l : List Wi} (h : ends b 1 ws) (e : ws = w :: l) (h3 : w.2.1 = 3) (st : PS) : stS b w.2.2 st = none := by
  have := h w l e h3
  unfold rkE at this
  unfold stS
  by_cases z : 0 < rkN b w.2.2 1
  · rw [if_pos z] at this
    omega
  · rw [if_neg z] at this
    rw [if_neg z, if_pos (by omega)]
/-- all words from a place on -/
def vs (W : Nat → Wd) (m k : Nat) : List Wi := vis W (fun _ => false) (m - k) k
theorem vs_c {W : Nat → Wd} {m k : Nat} (h : k < m) : vs W m k = (k, W k) :: vs W m (k + 1) := by
  unfold vs
  obtain ⟨d, e⟩ : ∃ d, m - k = d + 1 := ⟨m - k - 1, by omega⟩
  rw [e, vis_c, if_neg (by first | decide | omega), show m - (k + 1) = d by omega]
theorem vs_e (W : Nat → Wd) (m : Nat) : vs W m m = [] := by
  unfold vs
  rw [Nat.sub_self]
  rfl
theorem nxg_none : ∀ d k, nxg (fun _ => false) d k = k := by
  intro d k
  cases d with
  | zero => rfl
  | succ d => rw [nxg_c, if_neg (by first | decide | omega)]
