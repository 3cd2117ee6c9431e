/-! the desk between two calls of the law -/
/-- the last m changes are trees that came to the shelf -/
def Sh (h : GH) (m : Nat) : Prop := m ≤ h.1 ∧ ∀ i, i < m → h.2.2.1 (ru h (h.1 - 1 - i)) = 0
theorem Sh_0 (h : GH) : Sh h 0 := ⟨Nat.zero_le _, fun i hi => absurd hi (Nat.not_lt_zero i)⟩
theorem hShelf_1 {h : GH} (h20 : h.1 < 20) : (hShelf h).1 = h.1 + 1 := by
  show nm h + 1 = _
  unfold nm
  rw [if_pos h20]
theorem Sh_push {h : GH} {m : Nat} (H : Sh h m) (h20 : h.1 < 20) (hf : h.2.1 < 20) : Sh (hShelf h) (m + 1) := by
  have e1 := hShelf_1 h20
  have nmh : nm h = h.1 := by unfold nm; rw [if_pos h20]
  refine ⟨by rw [e1]; have := H.1; omega, fun i hi => ?_⟩
  rw [e1]
  by_cases z : i = 0
  · subst z
    show upN h.2.2.1 (nu h) 0 (ru (pushH h 0 0 (fun _ => 0) (0, 1)) (h.1 + 1 - 1 - 0)) = 0
    rw [show h.1 + 1 - 1 - 0 = nm h by omega, ru_new, upN_s]
  · show upN h.2.2.1 (nu h) 0 (ru (pushH h 0 0 (fun _ => 0) (0, 1)) (h.1 + 1 - 1 - i)) = 0
    have := H.1
    obtain ⟨r1, r2, r3⟩ := ru_old (kd := 0) (ky := 0) (row := fun _ => 0) (v := (0, 1)) (by omega) hf (j := h.1 + 1 - 1 - i) (by omega)
    have e0 : so h = 0 := by unfold so; rw [if_pos h20]
    simp only [e0, Nat.add_zero] at r1 r3
    rw [r1, upN_n r3]
    have := H.2 (i - 1) (by omega)
    rw [show h.1 - 1 - (i - 1) = h.1 + 1 - 1 - i by omega] at this
    exact this
theorem Sh_pop {h : GH} {m : Nat} (H : Sh h (m + 1)) : Sh (popH h) m ∧ 0 < h.1 ∧ h.2.2.1 (lu h) = 0 := by
  have h1 := H.1
  refine ⟨⟨by show m ≤ h.1 - 1; omega, fun i hi => ?_⟩, by omega, H.2 0 (by omega)⟩
  have := H.2 (i + 1) (by omega)
  show h.2.2.1 (ru h (h.1 - 1 - 1 - i)) = 0
  rw [show h.1 - 1 - 1 - i = h.1 - 1 - (i + 1) by omega]
  exact this
theorem Sh_le {h : GH} {m m' : Nat} (H : Sh h m) (hm : m' ≤ m) : Sh h m' := ⟨by have := H.1; omega, fun i hi => H.2 i (by omega)⟩
/-- the trees that were there are there -/
def Sam (s s' : GS) : Prop := s'.1 = s.1 ∧ ∀ k, k < s.1 → shT s' k = shT s k
theorem Sam_r (s : GS) : Sam s s := ⟨rfl, fun _ _ => rfl⟩
theorem Sam_t {s s' s'' : GS} (h : Sam s s') (h' : Sam s' s'') : Sam s s'' := ⟨h'.1.trans h.1, fun k hk => (h'.2 k (by rw [h.1]; exact hk)).trans (h.2 k hk)⟩
theorem sh_push {s : GS} {m : Nat} {nd : Nat → Nd} {sp : Nat → Nat} : (sPush s m nd sp).1 = s.1 + 1 ∧ shT (sPush s m nd sp) s.1 = (m, nd, sp) ∧ ∀ k, k < s.1 → shT (sPush s m nd sp) k = shT s k := by
  refine ⟨rfl, ?_, fun k hk => ?_⟩
  · show (upN s.2.1 s.1 m s.1, upN s.2.2.1 s.1 nd s.1, upN s.2.2.2 s.1 sp s.1) = _
    rw [upN_s, upN_s, upN_s]
  · show (upN s.2.1 s.1 m k, upN s.2.2.1 s.1 nd k, upN s.2.2.2 s.1 sp k) = _
    rw [upN_n (by omega), upN_n (by omega), upN_n (by omega)]
    rfl
section LSS
variable {C : Nat → Nat → Int32} {Z : Nat} {t : GT} {s : GS} {b : GB} {n : GN} {f : GF} {v : GV} {p : GT} {r : GR} {h : GH} {σ : xM}
/-- so many arrays has printing made -/
def JZ (J : Nat → Nat → Int64) (Z : Nat) : Prop := Z ≤ 10 ∧ ∀ j, j < 10 → J (4562 + j) 0 = if j < Z then 0 else 1
def LSt (C : Nat → Nat → Int32) (Z : Nat) (t : GT) (s : GS) (b : GB) (n : GN) (f : GF) (v : GV) (p : GT) (r : GR) (h : GH) (σ : xM) : Prop := ∃ I J R q, σ = mg (4562 + zn J) I J R ∧ JZ J Z ∧ RA R ∧ InvC I t s b n f v q p r h ∧ OKH s b f h ∧ (∀ a k, 4561 ≤ a → I a k = C a k) ∧ Gd v ∧ (∀ l, l < 26 → Gd (n.2 l)) ∧ ∀ l, prmN f l = 0
theorem ls_ok (H : LSt C Z t s b n f v p r h σ) : xk σ 0 11 = true := by
  obtain ⟨I, J, R, q, rfl, -⟩ := H
  exact ok_0
theorem ls_top (H : LSt C Z t s b n f v p r h σ) : EnvOK b n f s ∧ t.1 ≤ 60 ∧ s.1 ≤ 30 ∧ h.1 ≤ 20 ∧ h.2.1 < 20 ∧ Gd v ∧ (∀ k, k < s.1 → TtO b (shT s k) ∧ (shT s k).1 ≤ 80) ∧ (∀ l, l < 26 → Gd (n.2 l)) ∧ ∀ l, prmN f l = 0 := by
  obtain ⟨I, J, R, q, rfl, -, hR, hC, hO, hI, hv, hG, hf⟩ := H
  exact ⟨envC hC hO hG, hC.1.1, hC.2.1.1, hC.2.2.2.2.2.2.2.2.2.1, hC.2.2.2.2.2.2.2.2.2.2.1, hv, fun k hk => ⟨tro_of hC hO hk, (CT_n (hC.2.1.2.2 k hk)).2⟩, hG, hf⟩
theorem ls_type {c : Nat} (H : LSt C Z t s b n f v p r h σ) (z : t.1 < 60) (hc : c < 65536) : ∃ σ', f_X11_type σ 0 (Int32.ofNat (c)) = some (.inl (Int32.ofNat (t.1 + 1)), σ') ∧ LSt C Z (t.1 + 1, upN t.2 t.1 (Int32.ofNat (c))) s b n f v p r h σ' := by
  obtain ⟨I, J, R, q, rfl, hZ, hR, hC, hO, hI, hv⟩ := H
  obtain ⟨I', e, hC', hK⟩ := k_type (J := J) hR hC z hc
  exact ⟨_, e, I', J, R, q, rfl, hZ, hR, hC', hO, fun a k ha => (hK a k ha).trans (hI a k ha), hv⟩
theorem ls_drop (H : LSt C Z t s b n f v p r h σ) : ∃ σ', f_X11_drop σ 0 = some ((Int32.ofNat (t.1)), σ') ∧ LSt C Z (0, t.2) s b n f v p r h σ' := by
  obtain ⟨I, J, R, q, rfl, hZ, hR, hC, hO, hI, hv⟩ := H
  obtain ⟨I', e, hC', hK⟩ := k_drop (J := J) (R := R) hC
  exact ⟨_, e, I', J, R, q, rfl, hZ, hR, hC', hO, fun a k ha => (hK a k ha).trans (hI a k ha), hv⟩
theorem ls_trees (H : LSt C Z t s b n f v p r h σ) : f_X11_trees σ 0 = some (Int32.ofNat (s.1)) := by
  obtain ⟨I, J, R, q, rfl, hZ, hR, hC, hO, hI, hv⟩ := H
  exact k_trees hR hC
theorem ls_out {k : Nat} (H : LSt C Z t s b n f v p r h σ) (hk : k < p.1) : f_X11_out σ 0 (Int32.ofNat (k)) = some (.inl (p.2 k)) := by
  obtain ⟨I, J, R, q, rfl, hZ, hR, hC, hO, hI, hv⟩ := H
  exact k_out hR hC hk
theorem ls_trace {k w : Nat} (H : LSt C Z t s b n f v p r h σ) (hw : w < 2) (hk : k < 2000) : f_X11_trace σ 0 (Int32.ofNat (k)) (Int32.ofNat (w)) = some (.inl (if k < r.1 then (if w = 0 then r.2.1 k else r.2.2 k) else -1)) := by
  obtain ⟨I, J, R, q, rfl, hZ, hR, hC, hO, hI, hv⟩ := H
  exact k_trace hR hC hw hk
theorem ls_isSame {k j : Nat} (H : LSt C Z t s b n f v p r h σ) (hk : k < s.1) (hj : j < s.1) (e : s.2.1 k = s.2.1 j ∧ ∀ i, i < s.2.1 k → s.2.2.1 k i = s.2.2.1 j i) : f_X11_isSame σ 0 (Int32.ofNat (k)) (Int32.ofNat (j)) = some (.inl 1) := by
  obtain ⟨I, J, R, q, rfl, hZ, hR, hC, hO, hI, hv⟩ := H
  exact k_isSame hR hC hk hj e
theorem ls_fault {c : Nat → Nat} (H : LSt C Z t s b n f v p r h σ) (hc : ∀ k, k < t.1 → c k < 65536 ∧ t.2 k = (Int32.ofNat (c k))) : ∃ σ', f_X11_fault σ 0 = some (resC (pF (tyW c t.1)) t.1 (run b (visl (tyW c t.1)) st0), σ') ∧ LSt C Z t s b n f v p r h σ' := by
  obtain ⟨I, J, R, q, rfl, hZ, hR, hC, hO, hI, hv⟩ := H
  obtain ⟨I', e, hC', hK⟩ := k_fault (J := J) (c := c) hR hC (OKH_top hO).1 (fun k hk => ⟨(hC.1.2.2 k hk).1.trans (hc k hk).2, hc k hk⟩)
  exact ⟨_, e, I', J, R, q, rfl, hZ, hR, hC', hO, fun a k ha => (hK a k ha).trans (hI a k ha), hv⟩
theorem ls_read {c : Nat → Nat} {ln : List Ln} (H : LSt C Z t s b n f v p r h σ) (hc : ∀ k, k < t.1 → c k < 65536 ∧ t.2 k = (Int32.ofNat (c k))) (z : s.1 < 30) (hln : acc (run b (visl (tyW c t.1)) st0) = some ln) : ∃ σ' nd sp, f_X11_read σ 0 = some (.inl (Int32.ofNat (s.1)), σ') ∧ LSt C Z (0, t.2) (sPush s ln.length nd sp) b n f v p r (hShelf h) σ' ∧ WT ln.length (aro nd) sp ∧ (∀ x, x < ln.length → lnF ln (pl sp x) = nd x) ∧ ln.length ≤ 80 := by
  obtain ⟨I, J, R, q, rfl, hZ, hR, hC, hO, hI, hv⟩ := H
  obtain ⟨I', nd, sp, e, hC', hO', hK, w1, w2, w3⟩ := k_read (J := J) (c := c) hR hC hO (fun k hk => ⟨(hC.1.2.2 k hk).1.trans (hc k hk).2, hc k hk⟩) z hln
  exact ⟨_, nd, sp, e, ⟨I', J, R, q, rfl, hZ, hR, hC', hO', fun a k ha => (hK a k ha).trans (hI a k ha), hv⟩, w1, w2, w3⟩
theorem ls_print {k : Nat} (H : LSt C Z t s b n f v p r h σ) (hk : k < s.1) : ∃ σ', f_X11_print σ 0 (Int32.ofNat (k)) = some (.inl (Int32.ofNat ((prtT b (s.2.1 k) (s.2.2.1 k) (s.2.2.2 k)).length)), σ') ∧ LSt C Z t s b n f v (txP (prtT b (s.2.1 k) (s.2.2.1 k) (s.2.2.2 k))) r h σ' := by
  obtain ⟨I, J, R, q, rfl, hZ, hR, hC, hO, hI, hv⟩ := H
  obtain ⟨I', e, hC', hK⟩ := k_print (J := J) hR hC hO hk
  exact ⟨_, e, I', J, R, q, rfl, hZ, hR, hC', hO, fun a k ha => (hK a k ha).trans (hI a k ha), hv⟩
theorem ls_postfix {k : Nat} (H : LSt C Z t s b n f v p r h σ) (hk : k < s.1) (hz : ∀ i, i < s.2.1 k → ¬ lazyNd (s.2.2.1 k i)) : ∃ σ' ln, (∀ x, x < s.2.1 k → ln (pl (s.2.2.2 k) x) = s.2.2.1 k x) ∧ f_X11_postfix σ 0 (Int32.ofNat (k)) = some (.inl (Int32.ofNat ((psT ln (s.2.1 k)).length)), σ') ∧ LSt C Z t s b n f v (txP (psT ln (s.2.1 k))) r h σ' := by
  obtain ⟨I, J, R, q, rfl, hZ, hR, hC, hO, hI, hv⟩ := H
  obtain ⟨I', ln, h1, e, hC', hK⟩ := k_postfix (J := J) hR hC hO hk hz
  exact ⟨_, ln, h1, e, I', J, R, q, rfl, hZ, hR, hC', hO, fun a k ha => (hK a k ha).trans (hI a k ha), hv⟩
theorem evV_Gd {k : Nat} (H : LSt C Z t s b n f v p r h σ) (hk : k < s.1) : Gd (evV (evT b n f s (s.2.2.1 k) (s.2.2.2 k)) v) ∧ (∀ e, evT b n f s (s.2.2.1 k) (s.2.2.2 k) = .inl e → 1 ≤ e ∧ e ≤ 10) := by
  obtain ⟨hE, -, -, -, -, hv, hT, -⟩ := ls_top H
  have ro := evT_RO hE (hT k hk).1 (hT k hk).2
  change RO 0 (evT b n f s (s.2.2.1 k) (s.2.2.2 k)) at ro
  generalize evT b n f s (s.2.2.1 k) (s.2.2.2 k) = r' at *
  cases r' with
  | inl e =>
    have ro : 1 ≤ e ∧ e ≤ 10 := ro
    exact ⟨hv, fun e' y => by cases y; exact ro⟩
  | inr w =>
    obtain ⟨w, cc⟩ := w
    have ro : 0 < cc ∧ cc ≤ 200 ∧ Gd w := ro
    exact ⟨ro.2.2, fun e' y => by cases y⟩
theorem ls_evaluate {k : Nat} (H : LSt C Z t s b n f v p r h σ) (hk : k < s.1) : ∃ σ', f_X11_evaluate σ 0 (Int32.ofNat (k)) = some (.inl (evE (evT b n f s (s.2.2.1 k) (s.2.2.2 k))), σ') ∧ LSt C Z t s b n f (evV (evT b n f s (s.2.2.1 k) (s.2.2.2 k)) v) p r h σ' := by
  have hg := (evV_Gd H hk).1
  obtain ⟨I, J, R, q, rfl, hZ, hR, hC, hO, hI, hv, hG, hf⟩ := H
  obtain ⟨I', R', e, hR', hK, hC'⟩ := k_evaluate (J := J) hR hC hO (envC hC hO hG) hk
  exact ⟨_, e, I', J, R', q, rfl, hZ, hR', hC', hO, fun a k ha => (hK a k ha).trans (hI a k ha), hg, hG, hf⟩
theorem ls_reckon {k : Nat} (H : LSt C Z t s b n f v p r h σ) (hk : k < s.1) (hz : ∀ i, i < s.2.1 k → ¬ lazyNd (s.2.2.1 k i)) : ∃ σ', f_X11_reckon σ 0 (Int32.ofNat (k)) = some (.inl (evE (evT b n f s (s.2.2.1 k) (s.2.2.2 k))), σ') ∧ LSt C Z t s b n f (evV (evT b n f s (s.2.2.1 k) (s.2.2.2 k)) v) p r h σ' := by
  have hg := (evV_Gd H hk).1
  obtain ⟨I, J, R, q, rfl, hZ, hR, hC, hO, hI, hv, hG, hf⟩ := H
  obtain ⟨I', R', e, hR', hK, hC'⟩ := k_reckon (J := J) hR hC hO (envC hC hO hG) hk hz
  exact ⟨_, e, I', J, R', q, rfl, hZ, hR', hC', hO, fun a k ha => (hK a k ha).trans (hI a k ha), hg, hG, hf⟩
theorem ls_answer {pt : Nat} (H : LSt C Z t s b n f v p r h σ) (hp : pt < 2) : ∃ σ' a, f_X11_answer σ 0 (Int32.ofNat (pt)) 16 = some (.inl (Int32.ofNat ((ansL pt v).length)), σ') ∧ LSt C Z t s b n f v (ansT a (ansL pt v)) r h σ' ∧ a = (if (if pt = 0 then v.1 else (v.2 : Int)) < 0 then 1 else 0) ∧ (ansL pt v).length ≤ 211 := by
  obtain ⟨I, J, R, q, rfl, hZ, hR, hC, hO, hI, hv, hG⟩ := H
  obtain ⟨I', a, e, hC', ea, hK, hl⟩ := k_answer (J := J) hR hC hv hp
  exact ⟨_, a, e, ⟨I', J, R, q, rfl, hZ, hR, hC', hO, fun a k ha => (hK a k ha).trans (hI a k ha), hv, hG⟩, ea, hl⟩
theorem ls_recall {l : Nat} (H : LSt C Z t s b n f v p r h σ) (hl : l < 26) (hn : n.1 l ≠ 0) : ∃ σ', f_X11_recall σ 0 (Int32.ofNat (97 + l)) = some (.inl 1, σ') ∧ LSt C Z t s b n f (n.2 l) p r h σ' := by
  obtain ⟨I, J, R, q, rfl, hZ, hR, hC, hO, hI, hv, hG, hf⟩ := H
  obtain ⟨I', e, hC', hK⟩ := k_recall (J := J) hR hC hl (hG l hl) hn
  exact ⟨_, e, I', J, R, q, rfl, hZ, hR, hC', hO, fun a k ha => (hK a k ha).trans (hI a k ha), hG l hl, hG, hf⟩
theorem ls_let {l k : Nat} {w : GV} {cc : Nat} (H : LSt C Z t s b n f v p r h σ) (hl : l < 26) (hk : k < s.1) (he : evT b n f s (s.2.2.1 k) (s.2.2.2 k) = .inr (w, cc)) : ∃ σ', f_X11_let σ 0 (Int32.ofNat (97 + l)) (Int32.ofNat (k)) = some (.inl 0, σ') ∧ LSt C Z t s b (upN n.1 l 1, upN n.2 l w) f v p r (hName h n l) σ' := by
  obtain ⟨I, J, R, q, rfl, hZ, hR, hC, hO, hI, hv, hG, hf⟩ := H
  obtain ⟨I', R', e, hR', hK, hC', hO', hw⟩ := k_let (J := J) hR hC hO (envC hC hO hG) hl hk he
  refine ⟨_, e, I', J, R', q, rfl, hZ, hR', hC', hO', fun a k ha => (hK a k ha).trans (hI a k ha), hv, fun l' hl' => ?_, hf⟩
  show Gd (upN n.2 l w l')
  by_cases y : l' = l
  · rw [y, upN_s]; exact hw
  · rw [upN_n y]; exact hG l' hl'
theorem ls_audit {k x : Nat} (H : LSt C Z t s b n f v p r h σ) (hk : k < s.1) (hx : x ≤ 3) : ∃ σ', f_X11_audit σ 0 (Int32.ofNat (x)) (Int32.ofNat (k)) = some (.inl 1, σ') ∧ LSt C Z t s b n f v p r h σ' := by
  obtain ⟨I, J, R, q, rfl, hZ, hR, hC, hO, hI, hv, hG, hf⟩ := H
  obtain ⟨I', R', e, hR', hK, hC'⟩ := k_audit (J := J) hR hC hO (envC hC hO hG) hk hf hx
  exact ⟨_, e, I', J, R', q, rfl, hZ, hR', hC', hO, fun a k ha => (hK a k ha).trans (hI a k ha), hv, hG, hf⟩
theorem ls_undo {m : Nat} (H : LSt C Z t s b n f v p r h σ) (hh : Sh h (m + 1)) : ∃ σ', f_X11_undo σ 0 = some (0, σ') ∧ LSt C Z t (s.1 - 1, s.2) b n f v p r (popH h) σ' := by
  obtain ⟨I, J, R, q, rfl, hZ, hR, hC, hO, hI, hv⟩ := H
  obtain ⟨-, z1, z2⟩ := Sh_pop hh
  obtain ⟨I', e, hC', hO', hK⟩ := k_undo (J := J) hR hC hO z1 z2
  exact ⟨_, e, I', J, R, q, rfl, hZ, hR, hC', hO', fun a k ha => (hK a k ha).trans (hI a k ha), hv⟩
theorem ls_stc {e : Int32} {M k : Nat} {F : xM → Option ((Int32 ⊕ String) × xM)} (H : LSt C Z t s b n f v p r h σ) (hk : k < s.1) (hM : M ≤ 80) (hF : ∀ I J R q, RA R → InvC I t s b n f v q p r h → OKH s b f h → ∃ y, F (mg (4562 + zn J) I J R) = some y ∧ StC J R (stN b M (shT s k)) e I t s b n f v q p h y) : ((stN b M (shT s k)).1.length = 0 ∧ ∃ σ', F σ = some (.inl e, σ') ∧ LSt C Z t s b n f v p (trG (stN b M (shT s k)).1) h σ') ∨ ((stN b M (shT s k)).1.length ≠ 0 ∧ ∃ σ', F σ = some (.inl (Int32.ofNat (s.1)), σ') ∧ LSt C Z t (sPush s (stN b M (shT s k)).2.1 (stN b M (shT s k)).2.2.1 (stN b M (shT s k)).2.2.2) b n f v p (trG (stN b M (shT s k)).1) (hShelf h) σ') := by
  obtain ⟨hE, -, -, -, -, -, hT, -⟩ := ls_top H
  obtain ⟨I, J, R, q, rfl, hZ, hR, hC, hO, hI, hv⟩ := H
  obtain ⟨y, e1, hy⟩ := hF I J R q hR hC hO
  rcases k_stc hC hO (stN_O hE.1 M (shT s k) (hT k hk).1 (hT k hk).2).1 hy with ⟨a1, I', hK, rfl, hC'⟩ | ⟨a1, I', hK, rfl, hC', hO'⟩
  · exact Or.inl ⟨a1, _, e1, I', J, R, q, rfl, hZ, hR, hC', hO, fun a k ha => (hK a k ha).trans (hI a k ha), hv⟩
  · exact Or.inr ⟨a1, _, e1, I', J, R, q, rfl, hZ, hR, hC', hO', fun a k ha => (hK a k ha).trans (hI a k ha), hv⟩
theorem ls_step {k : Nat} (H : LSt C Z t s b n f v p r h σ) (hk : k < s.1) (z : s.1 < 30) : ((stN b 1 (shT s k)).1.length = 0 ∧ ∃ σ', f_X11_step σ 0 (Int32.ofNat (k)) = some (.inl (-1), σ') ∧ LSt C Z t s b n f v p (trG (stN b 1 (shT s k)).1) h σ') ∨ ((stN b 1 (shT s k)).1.length ≠ 0 ∧ ∃ σ', f_X11_step σ 0 (Int32.ofNat (k)) = some (.inl (Int32.ofNat (s.1)), σ') ∧ LSt C Z t (sPush s (stN b 1 (shT s k)).2.1 (stN b 1 (shT s k)).2.2.1 (stN b 1 (shT s k)).2.2.2) b n f v p (trG (stN b 1 (shT s k)).1) (hShelf h) σ') :=
  ls_stc (F := fun σ => f_X11_step σ 0 (Int32.ofNat (k))) H hk (by decide) (fun I J R q hR hC hO => k_step hR hC hO hk z)
theorem ls_simplify {k : Nat} (H : LSt C Z t s b n f v p r h σ) (hk : k < s.1) (z : s.1 < 30) : ((stN b 80 (shT s k)).1.length = 0 ∧ ∃ σ', f_X11_simplify σ 0 (Int32.ofNat (k)) = some (.inl (Int32.ofNat (k)), σ') ∧ LSt C Z t s b n f v p (trG (stN b 80 (shT s k)).1) h σ') ∨ ((stN b 80 (shT s k)).1.length ≠ 0 ∧ ∃ σ', f_X11_simplify σ 0 (Int32.ofNat (k)) = some (.inl (Int32.ofNat (s.1)), σ') ∧ LSt C Z t (sPush s (stN b 80 (shT s k)).2.1 (stN b 80 (shT s k)).2.2.1 (stN b 80 (shT s k)).2.2.2) b n f v p (trG (stN b 80 (shT s k)).1) (hShelf h) σ') :=
  ls_stc (F := fun σ => f_X11_simplify σ 0 (Int32.ofNat (k))) H hk (Nat.le_refl _) (fun I J R q hR hC hO => k_simplify hR hC hO hk z)
end LSS
