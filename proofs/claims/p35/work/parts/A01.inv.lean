/-! what both sides hold between two calls -/
abbrev GV : Type := Int × Nat
abbrev GT : Type := Nat × (Nat → Int32)
abbrev GS : Type := Nat × (Nat → Nat) × (Nat → Nat → Nd) × (Nat → Nat → Nat)
abbrev GB : Type := Nat → Int32 × Int32 × Int32
abbrev GN : Type := (Nat → Int32) × (Nat → GV)
abbrev GF : Type := Nat → Nat → Int32
abbrev GR : Type := Nat × (Nat → Int32) × (Nat → Int32)
abbrev GH : Type := Nat × Nat × (Nat → Nat) × (Nat → Nat) × (Nat → Nat → Int32) × (Nat → GV)
def CV (I : Nat → Nat → Int32) (f : Nat) (v : GV) : Prop := FU I f 7 v.1 v.2
def CTy (I : Nat → Nat → Int32) (g : GT) : Prop := g.1 ≤ 60 ∧ I 0 1 = (Int32.ofNat (g.1)) ∧ ∀ k, k < g.1 → I 10 k = g.2 k ∧ ∃ c, c < 65536 ∧ g.2 k = (Int32.ofNat (c))
def CSh (I : Nat → Nat → Int32) (s : GS) : Prop := s.1 ≤ 30 ∧ I 11 5 = (Int32.ofNat (s.1)) ∧ ∀ t, t < s.1 → CT I (70 + 8 * t) (s.2.1 t) (s.2.2.1 t) (s.2.2.2 t)
def CTb (I : Nat → Nat → Int32) (b : GB) : Prop := I 12 = plc ∧ ∀ s, s < 48 → (I 13 s, I 14 s, I 15 s) = b s
def CNm (I : Nat → Nat → Int32) (n : GN) : Prop := ∀ l, l < 26 → I 18 l = n.1 l ∧ (n.1 l = 0 ∨ n.1 l = 1) ∧ CV I (310 + 5 * l) (n.2 l)
def CFn (I : Nat → Nat → Int32) (f : GF) : Prop := ∀ l k, l < 26 → k < 10 → I (20 + l) k = f l k
def CKp (I : Nat → Nat → Int32) (g : Nat → GV) : Prop := ∀ k, k < 9 → CV I (4416 + 15 * k) (g k)
def CPr (I : Nat → Nat → Int32) (g : GT) : Prop := g.1 ≤ 1000 ∧ I 559 3 = (Int32.ofNat (g.1)) ∧ ∀ k, k < g.1 → I 562 k = g.2 k
def CTr (I : Nat → Nat → Int32) (g : GR) : Prop := g.1 ≤ 80 ∧ I 0 15 = (Int32.ofNat (g.1)) ∧ ∀ k, k < g.1 → I 4559 k = g.2.1 k ∧ I 4560 k = g.2.2 k
/-- the ring of changes: how many, the first one; what, which, what was there -/
def ru (h : GH) (j : Nat) : Nat := (h.2.1 + j) % 20
def CHs (I : Nat → Nat → Int32) (h : GH) : Prop := h.1 ≤ 20 ∧ h.2.1 < 20 ∧ I 11 13 = (Int32.ofNat (h.2.1)) ∧ I 11 14 = (Int32.ofNat (h.1)) ∧ ∀ j, j < h.1 → I 46 (ru h j) = (Int32.ofNat (h.2.2.1 (ru h j))) ∧ I 47 (ru h j) = (Int32.ofNat (h.2.2.2.1 (ru h j))) ∧ (h.2.2.1 (ru h j) = 1 → ∀ k, k < 3 → I (49 + ru h j) k = h.2.2.2.2.1 (ru h j) k) ∧ (h.2.2.1 (ru h j) = 2 → I (49 + ru h j) 0 = h.2.2.2.2.1 (ru h j) 0 ∧ CV I (440 + 5 * ru h j) (h.2.2.2.2.2 (ru h j))) ∧ (h.2.2.1 (ru h j) = 3 → ∀ k, k < 10 → I (49 + ru h j) k = h.2.2.2.2.1 (ru h j) k)
/-- a table of operators as tell lets it be -/
def TbOK (b : GB) : Prop := (∀ p fx, p < 16 → fx < 3 → (b (fx * 16 + p)).1 = 0 ∨ OpOK fx (b (fx * 16 + p)).1 (b (fx * 16 + p)).2.1 (b (fx * 16 + p)).2.2) ∧ (∀ p, p < 16 → (b (16 + p)).1 = 0 ∨ (b (32 + p)).1 = 0) ∧ ∀ p q, p < 16 → q < 16 → (b (32 + p)).1 ≠ 0 → (b (32 + p)).1 = (b (32 + q)).1 → (b (32 + p)).2.1 = (b (32 + q)).2.1
/-- the signs, by their places -/
def sgc (p : Nat) : Nat := [33, 35, 37, 38, 42, 43, 45, 47, 60, 61, 62, 63, 64, 94, 124, 126].getD p 0
/-- a node that a tree can have -/
def NV (b : GB) (x : Nd) : Prop := (x.1 = 0 ∧ (∃ v, v ≤ 999999999 ∧ x.2.1 = (Int32.ofNat (v))) ∧ x.2.2.1 = -1 ∧ x.2.2.2 = 0) ∨ (x.1 = 1 ∧ (∃ l, l < 26 ∧ x.2.1 = (Int32.ofNat (97 + l))) ∧ x.2.2.1 = -1 ∧ x.2.2.2 = 0) ∨ (x.1 = 2 ∧ (∃ l, l < 26 ∧ x.2.1 = (Int32.ofNat (97 + l))) ∧ x.2.2.1 = -1 ∧ 1 ≤ x.2.2.2 ∧ x.2.2.2 ≤ 4) ∨ (x.1 = 3 ∧ ∃ p fx, p < 16 ∧ fx < 3 ∧ x.2.1 = (Int32.ofNat (sgc p)) ∧ x.2.2.1 = (Int32.ofNat (fx)) ∧ x.2.2.2 = (if fx = 2 then 2 else 1) ∧ (b (fx * 16 + p)).1 ≠ 0)
def FnOK (T : Nat) (tn : Nat → Nat) (row : Nat → Int32) : Prop := (∃ p, p ≤ 3 ∧ row 0 = (Int32.ofNat (p))) ∧ ∃ c, c ≤ 4 ∧ row 1 = (Int32.ofNat (c)) ∧ ∀ k, k < c → (row (2 + k) = -1 ∨ ∃ t, t < T ∧ row (2 + k) = (Int32.ofNat (t)) ∧ tn t ≤ 30) ∧ ∃ t, t < T ∧ row (6 + k) = (Int32.ofNat (t)) ∧ tn t ≤ 30
def StOK (s : GS) (T : Nat) (b : GB) (f : GF) : Prop := TbOK b ∧ (∀ t i, t < T → i < s.2.1 t → NV b (s.2.2.1 t i)) ∧ ∀ l, l < 26 → FnOK T s.2.1 (f l)
def upB (b : GB) (x : Nat) (v : Int32 × Int32 × Int32) : GB := fun s => if s = x then v else b s
def upF (f : GF) (l : Nat) (v : Nat → Int32) : GF := fun x => if x = l then v else f x
def OKH (s : GS) (b : GB) (f : GF) (h : GH) : Prop := ∃ (hT : Nat → Nat) (hB : Nat → GB) (hF : Nat → GF), hT h.1 = s.1 ∧ hB h.1 = b ∧ hF h.1 = f ∧ (∀ j, j ≤ h.1 → StOK s (hT j) (hB j) (hF j)) ∧ ∀ j, j < h.1 → (h.2.2.1 (ru h j) = 0 ∧ hT (j + 1) = hT j + 1 ∧ hB (j + 1) = hB j ∧ hF (j + 1) = hF j) ∨ (h.2.2.1 (ru h j) = 1 ∧ hT (j + 1) = hT j ∧ hF (j + 1) = hF j ∧ h.2.2.2.1 (ru h j) < 48 ∧ hB j = upB (hB (j + 1)) (h.2.2.2.1 (ru h j)) (h.2.2.2.2.1 (ru h j) 0, h.2.2.2.2.1 (ru h j) 1, h.2.2.2.2.1 (ru h j) 2)) ∨ (h.2.2.1 (ru h j) = 2 ∧ hT (j + 1) = hT j ∧ hB (j + 1) = hB j ∧ hF (j + 1) = hF j ∧ h.2.2.2.1 (ru h j) < 26 ∧ (h.2.2.2.2.1 (ru h j) 0 = 0 ∨ h.2.2.2.2.1 (ru h j) 0 = 1)) ∨ (h.2.2.1 (ru h j) = 3 ∧ hT (j + 1) = hT j ∧ hB (j + 1) = hB j ∧ h.2.2.2.1 (ru h j) < 26 ∧ hF j = upF (hF (j + 1)) (h.2.2.2.1 (ru h j)) (h.2.2.2.2.1 (ru h j)))
def InvC (I : Nat → Nat → Int32) (t : GT) (s : GS) (b : GB) (n : GN) (f : GF) (v : GV) (q : Nat → GV) (p : GT) (r : GR) (h : GH) : Prop := CTy I t ∧ CSh I s ∧ CTb I b ∧ CNm I n ∧ CFn I f ∧ CV I 4541 v ∧ CKp I q ∧ CPr I p ∧ CTr I r ∧ CHs I h
/-- what of the class lasts -/
def DC : Nat → Prop := fun x => x = 0 ∨ (10 ≤ x ∧ x < 540) ∨ x = 559 ∨ x = 562 ∨ (4541 ≤ x ∧ x < 4546) ∨ x = 4559 ∨ x = 4560 ∨ (4416 ≤ x ∧ x < 4541 ∧ (x - 4416) % 15 < 5)
section KP
variable {I I' : Nat → Nat → Int32} {t : GT} {s : GS} {b : GB} {n : GN} {f : GF} {v : GV} {q : Nat → GV} {p : GT} {r : GR} {h : GH}
theorem CV_keep {g : Nat} (H : CV I g v) (e : ∀ x, g ≤ x → x < g + 5 → I' x = I x) : CV I' g v := FU_keep H e
theorem CTy_keep (H : CTy I t) (e : ∀ x, x = 0 ∨ x = 10 → I' x = I x) : CTy I' t := by
  unfold CTy
  rw [e 0 (by omega), e 10 (by omega)]
  exact H
theorem CSh_keep (H : CSh I s) (e : ∀ x, x = 11 ∨ (70 ≤ x ∧ x < 310) → I' x = I x) : CSh I' s :=
  ⟨H.1, (by rw [e 11 (by omega)]; exact H.2.1), fun t ht => CT_keep (H.2.2 t ht) (fun x h1 h2 => e x (by have := H.1; omega))⟩
theorem CTb_keep (H : CTb I b) (e : ∀ x, 12 ≤ x ∧ x ≤ 15 → I' x = I x) : CTb I' b := by
  unfold CTb
  rw [e 12 (by omega), e 13 (by omega), e 14 (by omega), e 15 (by omega)]
  exact H
theorem CNm_keep (H : CNm I n) (e : ∀ x, x = 18 ∨ (310 ≤ x ∧ x < 440) → I' x = I x) : CNm I' n := fun l hl => by
  rw [e 18 (by omega)]
  exact ⟨(H l hl).1, (H l hl).2.1, CV_keep (H l hl).2.2 (fun x h1 h2 => e x (by omega))⟩
theorem CFn_keep (H : CFn I f) (e : ∀ x, 20 ≤ x ∧ x < 46 → I' x = I x) : CFn I' f := fun l k hl hk => by
  rw [e _ (by omega)]
  exact H l k hl hk
theorem CKp_keep (H : CKp I q) (e : ∀ x, (4416 ≤ x ∧ x < 4541 ∧ (x - 4416) % 15 < 5) → I' x = I x) : CKp I' q := fun k hk => CV_keep (H k hk) (fun x h1 h2 => e x (by omega))
theorem CPr_keep (H : CPr I p) (e : ∀ x, x = 559 ∨ x = 562 → I' x = I x) : CPr I' p := by
  unfold CPr
  rw [e 559 (by omega), e 562 (by omega)]
  exact H
theorem CTr_keep (H : CTr I r) (e : ∀ x, x = 0 ∨ x = 4559 ∨ x = 4560 → I' x = I x) : CTr I' r := by
  unfold CTr
  rw [e 0 (by omega), e 4559 (by omega), e 4560 (by omega)]
  exact H
theorem ru_lt (h : GH) (j : Nat) : ru h j < 20 := Nat.mod_lt _ (by first | decide | omega)
theorem CHs_keep (H : CHs I h) (e : ∀ x, x = 11 ∨ (46 ≤ x ∧ x < 69) ∨ (440 ≤ x ∧ x < 540) → I' x = I x) : CHs I' h := by
  refine ⟨H.1, H.2.1, (by rw [e 11 (by omega)]; exact H.2.2.1), (by rw [e 11 (by omega)]; exact H.2.2.2.1), fun j hj => ?_⟩
  have l := ru_lt h j
  rw [e 46 (by omega), e 47 (by omega), e (49 + ru h j) (by omega)]
  obtain ⟨a1, a2, a3, a4, a5⟩ := H.2.2.2.2 j hj
  exact ⟨a1, a2, a3, fun z => ⟨(a4 z).1, CV_keep (a4 z).2 (fun x h1 h2 => e x (by omega))⟩, a5⟩
theorem InvC_keep (H : InvC I t s b n f v q p r h) (e : ∀ x, DC x → I' x = I x) : InvC I' t s b n f v q p r h := by
  obtain ⟨h1, h2, h3, h4, h5, h6, h7, h8, h9, h10⟩ := H
  refine ⟨CTy_keep h1 ?_, CSh_keep h2 ?_, CTb_keep h3 ?_, CNm_keep h4 ?_, CFn_keep h5 ?_, CV_keep h6 ?_, CKp_keep h7 ?_, CPr_keep h8 ?_, CTr_keep h9 ?_, CHs_keep h10 ?_⟩
  case refine_6 => intro x g1 g2; exact e x (by unfold DC; omega)
  all_goals (intro x g; exact e x (by unfold DC; omega))
end KP
