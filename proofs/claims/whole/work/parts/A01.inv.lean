/-! what both sides hold between two calls -/
abbrev GV : Type := Int × Nat
abbrev GT : Type := Nat × (Nat → Int32)
abbrev GS : Type := Nat × (Nat → Nat) × (Nat → Nat → Nd) × (Nat → Nat → Nat)
abbrev GB : Type := Nat → Int32 × Int32 × Int32
abbrev GN : Type := (Nat → Int32) × (Nat → GV)
abbrev GF : Type := Nat → Nat → Int32
abbrev GR : Type := Nat × (Nat → Int32) × (Nat → Int32)
abbrev GH : Type := Nat × Nat × (Nat → Nat) × (Nat → Nat) × (Nat → Nat → Int32) × (Nat → GV)
def CV (I : Nat → Nat → Int32) (f : Nat) (v : GV) : Prop := FU I f 7 v.1 v.2
def MV (I : Nat → Nat → Int32) (i : Nat) (v : GV) : Prop := Vv (I 4564) i v.1 v.2
def CTy (I : Nat → Nat → Int32) (g : GT) : Prop := g.1 ≤ 60 ∧ I 0 1 = (Int32.ofNat (g.1)) ∧ ∀ k, k < g.1 → I 10 k = g.2 k ∧ ∃ c, c < 65536 ∧ g.2 k = (Int32.ofNat (c))
def MTy (I : Nat → Nat → Int32) (g : GT) : Prop := I 4561 19 = (Int32.ofNat (g.1)) ∧ ∀ k, k < g.1 → I 4578 k = g.2 k
def CSh (I : Nat → Nat → Int32) (s : GS) : Prop := s.1 ≤ 30 ∧ I 11 5 = (Int32.ofNat (s.1)) ∧ ∀ t, t < s.1 → CT I (70 + 8 * t) (s.2.1 t) (s.2.2.1 t) (s.2.2.2 t)
def MSh (I : Nat → Nat → Int32) (s : GS) : Prop := I 4561 10 = (Int32.ofNat (s.1)) ∧ ∀ t, t < s.1 → I 4570 t = (Int32.ofNat (s.2.1 t)) ∧ MT I (80 * t) (s.2.1 t) (s.2.2.1 t) (s.2.2.2 t)
def CTb (I : Nat → Nat → Int32) (b : GB) : Prop := I 12 = plc ∧ ∀ s, s < 48 → (I 13 s, I 14 s, I 15 s) = b s
def MTb (I : Nat → Nat → Int32) (b : GB) : Prop := ∀ p fx, p < 16 → fx < 3 → (I 4575 (3 * sgp p + fx), I 4576 (3 * sgp p + fx), I 4577 (3 * sgp p + fx)) = b (fx * 16 + p)
def CNm (I : Nat → Nat → Int32) (n : GN) : Prop := ∀ l, l < 26 → I 18 l = n.1 l ∧ (n.1 l = 0 ∨ n.1 l = 1) ∧ CV I (310 + 5 * l) (n.2 l)
def MNm (I : Nat → Nat → Int32) (n : GN) : Prop := ∀ l, l < 26 → I 4599 l = n.1 l ∧ MV I l (n.2 l)
def CFn (I : Nat → Nat → Int32) (f : GF) : Prop := ∀ l k, l < 26 → k < 10 → I (20 + l) k = f l k
/-- a function as the reference has it -/
def FM (I : Nat → Nat → Int32) (s : GS) (row : Nat → Int32) (pv mv : Int32) (sz : Nat → Int32) (nb : Nat) : Prop := pv = row 0 ∧ mv = row 1 ∧ ∃ c, c ≤ 4 ∧ row 1 = (Int32.ofNat (c)) ∧ ∀ w k, w < 2 → k < 4 → (k < c → (w = 0 ∧ row (2 + k) = -1 ∧ sz (2 * k + w) = 0) ∨ ∃ t, t < s.1 ∧ row (2 + 4 * w + k) = (Int32.ofNat (t)) ∧ s.2.1 t ≤ 30 ∧ sz (2 * k + w) = (Int32.ofNat (s.2.1 t)) ∧ MT I (nb + 30 * (2 * k + w)) (s.2.1 t) (s.2.2.1 t) (s.2.2.2 t)) ∧ (c ≤ k → sz (2 * k + w) = 0)
def MFn (I : Nat → Nat → Int32) (s : GS) (f : GF) : Prop := ∀ l, l < 26 → FM I s (f l) (I 4571 l) (I 4572 l) (fun k => I 4573 (8 * l + k)) (2400 + 240 * l)
def CKp (I : Nat → Nat → Int32) (g : Nat → GV) : Prop := ∀ k, k < 9 → CV I (4416 + 15 * k) (g k)
def MKp (I : Nat → Nat → Int32) (g : Nat → GV) : Prop := ∀ k, k < 9 → MV I (47 + k) (g k)
def CPr (I : Nat → Nat → Int32) (g : GT) : Prop := g.1 ≤ 1000 ∧ I 559 3 = (Int32.ofNat (g.1)) ∧ ∀ k, k < g.1 → I 562 k = g.2 k
def MPr (I : Nat → Nat → Int32) (g : GT) : Prop := I 4561 42 = (Int32.ofNat (g.1)) ∧ ∀ k, k < g.1 → I 4595 k = g.2 k
def CTr (I : Nat → Nat → Int32) (g : GR) : Prop := g.1 ≤ 80 ∧ I 0 15 = (Int32.ofNat (g.1)) ∧ ∀ k, k < g.1 → I 4559 k = g.2.1 k ∧ I 4560 k = g.2.2 k
def MTr (I : Nat → Nat → Int32) (g : GR) : Prop := I 4561 67 = (Int32.ofNat (g.1)) ∧ ∀ k, k < g.1 → I 4611 k = g.2.1 k ∧ I 4612 k = g.2.2 k
/-- the ring of changes: how many, the first one; what, which, what was there -/
def ru (h : GH) (j : Nat) : Nat := (h.2.1 + j) % 20
def CHs (I : Nat → Nat → Int32) (h : GH) : Prop := h.1 ≤ 20 ∧ h.2.1 < 20 ∧ I 11 13 = (Int32.ofNat (h.2.1)) ∧ I 11 14 = (Int32.ofNat (h.1)) ∧ ∀ j, j < h.1 → I 46 (ru h j) = (Int32.ofNat (h.2.2.1 (ru h j))) ∧ I 47 (ru h j) = (Int32.ofNat (h.2.2.2.1 (ru h j))) ∧ (h.2.2.1 (ru h j) = 1 → ∀ k, k < 3 → I (49 + ru h j) k = h.2.2.2.2.1 (ru h j) k) ∧ (h.2.2.1 (ru h j) = 2 → I (49 + ru h j) 0 = h.2.2.2.2.1 (ru h j) 0 ∧ CV I (440 + 5 * ru h j) (h.2.2.2.2.2 (ru h j))) ∧ (h.2.2.1 (ru h j) = 3 → ∀ k, k < 10 → I (49 + ru h j) k = h.2.2.2.2.1 (ru h j) k)
def MHs (I : Nat → Nat → Int32) (s : GS) (h : GH) : Prop := I 4561 83 = (Int32.ofNat (h.2.1)) ∧ I 4561 84 = (Int32.ofNat (h.1)) ∧ ∀ j, j < h.1 → I 4617 (ru h j) = (Int32.ofNat (h.2.2.1 (ru h j))) ∧ (h.2.2.1 (ru h j) = 1 → (∃ p fx, p < 16 ∧ fx < 3 ∧ h.2.2.2.1 (ru h j) = fx * 16 + p ∧ I 4618 (ru h j) = (Int32.ofNat (3 * sgp p + fx))) ∧ I 4619 (ru h j) = h.2.2.2.2.1 (ru h j) 0 ∧ I 4620 (ru h j) = h.2.2.2.2.1 (ru h j) 1 ∧ I 4621 (ru h j) = h.2.2.2.2.1 (ru h j) 2) ∧ (h.2.2.1 (ru h j) = 2 → I 4618 (ru h j) = (Int32.ofNat (h.2.2.2.1 (ru h j))) ∧ I 4619 (ru h j) = h.2.2.2.2.1 (ru h j) 0 ∧ MV I (27 + ru h j) (h.2.2.2.2.2 (ru h j))) ∧ (h.2.2.1 (ru h j) = 3 → I 4618 (ru h j) = (Int32.ofNat (h.2.2.2.1 (ru h j))) ∧ FM I s (h.2.2.2.2.1 (ru h j)) (I 4619 (ru h j)) (I 4620 (ru h j)) (fun k => I 4622 (8 * ru h j + k)) (8640 + 240 * ru h j))
/-- a table of operators as tell lets it be -/
def TbOK (b : GB) : Prop := (∀ p fx, p < 16 → fx < 3 → (b (fx * 16 + p)).1 = 0 ∨ OpOK fx (b (fx * 16 + p)).1 (b (fx * 16 + p)).2.1 (b (fx * 16 + p)).2.2) ∧ (∀ p, p < 16 → (b (16 + p)).1 = 0 ∨ (b (32 + p)).1 = 0) ∧ ∀ p q, p < 16 → q < 16 → (b (32 + p)).1 ≠ 0 → (b (32 + p)).1 = (b (32 + q)).1 → (b (32 + p)).2.1 = (b (32 + q)).2.1
/-- the signs, by their places -/
def sgc (p : Nat) : Nat := [33, 35, 37, 38, 42, 43, 45, 47, 60, 61, 62, 63, 64, 94, 124, 126].getD p 0
/-- a node that a tree can have -/
def NV (b : GB) (x : Nd) : Prop := (x.1 = 0 ∧ (∃ v, v ≤ 999999999 ∧ x.2.1 = (Int32.ofNat (v))) ∧ x.2.2.1 = -1 ∧ x.2.2.2 = 0) ∨ (x.1 = 1 ∧ (∃ l, l < 26 ∧ x.2.1 = (Int32.ofNat (97 + l))) ∧ x.2.2.1 = -1 ∧ x.2.2.2 = 0) ∨ (x.1 = 2 ∧ (∃ l, l < 26 ∧ x.2.1 = (Int32.ofNat (97 + l))) ∧ x.2.2.1 = -1 ∧ 1 ≤ x.2.2.2 ∧ x.2.2.2 ≤ 4) ∨ (x.1 = 3 ∧ ∃ p fx, p < 16 ∧ fx < 3 ∧ x.2.1 = (Int32.ofNat (sgc p)) ∧ x.2.2.1 = (Int32.ofNat (fx)) ∧ x.2.2.2 = (if fx = 2 then 2 else 1) ∧ (b (fx * 16 + p)).1 ≠ 0)
def FnOK (T : Nat) (tn : Nat → Nat) (row : Nat → Int32) : Prop := (∃ p, p ≤ 3 ∧ row 0 = (Int32.ofNat (p))) ∧ ∃ c, c ≤ 4 ∧ row 1 = (Int32.ofNat (c)) ∧ ∀ k, k < c → (row (2 + k) = -1 ∨ ∃ t, t < T ∧ row (2 + k) = (Int32.ofNat (t)) ∧ tn t ≤ 30) ∧ ∃ t, t < T ∧ row (6 + k) = (Int32.ofNat (t)) ∧ tn t ≤ 30
def StOK (s : GS) (T : Nat) (b : GB) (f : GF) : Prop := TbOK b ∧ (∀ t i, t < T → i < s.2.1 t → NV b (s.2.2.1 t i)) ∧ ∀ l, l < 26 → FnOK T s.2.1 (f l)
def upB (b : GB) (x : Nat) (v : Int32 × Int32 × Int32) : GB := fun s => if s = x then v else b s
def upF (f : GF) (l : Nat) (v : Nat → Int32) : GF := fun x => if x = l then v else f x
def OKH (s : GS) (b : GB) (f : GF) (h : GH) : Prop := ∃ (hT : Nat → Nat) (hB : Nat → GB) (hF : Nat → GF), hT h.1 = s.1 ∧ hB h.1 = b ∧ hF h.1 = f ∧ (∀ j, j ≤ h.1 → StOK s (hT j) (hB j) (hF j)) ∧ ∀ j, j < h.1 → (h.2.2.1 (ru h j) = 0 ∧ hT (j + 1) = hT j + 1 ∧ hB (j + 1) = hB j ∧ hF (j + 1) = hF j) ∨ (h.2.2.1 (ru h j) = 1 ∧ hT (j + 1) = hT j ∧ hF (j + 1) = hF j ∧ h.2.2.2.1 (ru h j) < 48 ∧ hB j = upB (hB (j + 1)) (h.2.2.2.1 (ru h j)) (h.2.2.2.2.1 (ru h j) 0, h.2.2.2.2.1 (ru h j) 1, h.2.2.2.2.1 (ru h j) 2)) ∨ (h.2.2.1 (ru h j) = 2 ∧ hT (j + 1) = hT j ∧ hB (j + 1) = hB j ∧ hF (j + 1) = hF j ∧ h.2.2.2.1 (ru h j) < 26 ∧ (h.2.2.2.2.1 (ru h j) 0 = 0 ∨ h.2.2.2.2.1 (ru h j) 0 = 1)) ∨ (h.2.2.1 (ru h j) = 3 ∧ hT (j + 1) = hT j ∧ hB (j + 1) = hB j ∧ h.2.2.2.1 (ru h j) < 26 ∧ hF j = upF (hF (j + 1)) (h.2.2.2.1 (ru h j)) (h.2.2.2.2.1 (ru h j)))
def InvC (I : Nat → Nat → Int32) (t : GT) (s : GS) (b : GB) (n : GN) (f : GF) (v : GV) (q : Nat → GV) (p : GT) (r : GR) (h : GH) : Prop := CTy I t ∧ CSh I s ∧ CTb I b ∧ CNm I n ∧ CFn I f ∧ CV I 4541 v ∧ CKp I q ∧ CPr I p ∧ CTr I r ∧ CHs I h
def InvM (I : Nat → Nat → Int32) (t : GT) (s : GS) (b : GB) (n : GN) (f : GF) (v : GV) (q : Nat → GV) (p : GT) (r : GR) (h : GH) : Prop := MTy I t ∧ MSh I s ∧ MTb I b ∧ MNm I n ∧ MFn I s f ∧ MV I 26 v ∧ MKp I q ∧ MPr I p ∧ MTr I r ∧ MHs I s h
def Inv (I : Nat → Nat → Int32) : Prop := ∃ (t : GT) (s : GS) (b : GB) (n : GN) (f : GF) (v : GV) (q : Nat → GV) (p : GT) (r : GR) (h : GH), InvC I t s b n f v q p r h ∧ InvM I t s b n f v q p r h ∧ OKH s b f h
/-- what of the class lasts -/
def DC : Nat → Prop := fun x => x = 0 ∨ (10 ≤ x ∧ x < 540) ∨ x = 559 ∨ x = 562 ∨ (4541 ≤ x ∧ x < 4546) ∨ x = 4559 ∨ x = 4560 ∨ (4416 ≤ x ∧ x < 4541 ∧ (x - 4416) % 15 < 5)
/-- what of the reference lasts -/
def DM : Nat → Nat → Prop := fun a k => (a = 4561 ∧ (k = 10 ∨ k = 19 ∨ k = 42 ∨ k = 67 ∨ k = 83 ∨ k = 84)) ∨ (a = 4564 ∧ k < 1568) ∨ (4565 ≤ a ∧ a ≤ 4569 ∧ k < 13440) ∨ (4570 ≤ a ∧ a ≤ 4573) ∨ (4575 ≤ a ∧ a ≤ 4578) ∨ a = 4595 ∨ a = 4599 ∨ a = 4611 ∨ a = 4612 ∨ (4617 ≤ a ∧ a ≤ 4622)
section KP
variable {I I' : Nat → Nat → Int32} {t : GT} {s : GS} {b : GB} {n : GN} {f : GF} {v : GV} {q : Nat → GV} {p : GT} {r : GR} {h : GH}
theorem CV_keep {g : Nat} (H : CV I g v) (e : ∀ x, g ≤ x → x < g + 5 → I' x = I x) : CV I' g v := FU_keep H e
theorem CTy_keep (H : CTy I t) (e : ∀ x, x = 0 ∨ x = 10 → I' x = I x) : CTy I' t := by
  unfold CTy
  rw [e 0 (by omega), e 10 (by omega)]
  exact H
theorem CSh_keep (H : CSh I s) (e : ∀ x, x = 11 ∨ (70 ≤ x ∧ x < 310) → I' x = I x) : CSh I' s :=
  ⟨H.1, (by rw [e 11 (by omega)]; exact H.2.1), fun t ht => CT_keep (H.2.2 t ht) (fun x h1 h2 => e x (by have := H.1; omega))⟩
theorem CTb_keep (H : CTb I b) (e : ∀ x, 12 ≤ x ∧ x ≤ 15 → I' x = I x) : CTb I' b := by
  unfold CTb
  rw [e 12 (by omega), e 13 (by omega), e 14 (by omega), e 15 (by omega)]
  exact H
theorem CNm_keep (H : CNm I n) (e : ∀ x, x = 18 ∨ (310 ≤ x ∧ x < 440) → I' x = I x) : CNm I' n := fun l hl => by
  rw [e 18 (by omega)]
  exact ⟨(H l hl).1, (H l hl).2.1, CV_keep (H l hl).2.2 (fun x h1 h2 => e x (by omega))⟩
theorem CFn_keep (H : CFn I f) (e : ∀ x, 20 ≤ x ∧ x < 46 → I' x = I x) : CFn I' f := fun l k hl hk => by
  rw [e _ (by omega)]
  exact H l k hl hk
theorem CKp_keep (H : CKp I q) (e : ∀ x, (4416 ≤ x ∧ x < 4541 ∧ (x - 4416) % 15 < 5) → I' x = I x) : CKp I' q := fun k hk => CV_keep (H k hk) (fun x h1 h2 => e x (by omega))
theorem CPr_keep (H : CPr I p) (e : ∀ x, x = 559 ∨ x = 562 → I' x = I x) : CPr I' p := by
  unfold CPr
  rw [e 559 (by omega), e 562 (by omega)]
  exact H
theorem CTr_keep (H : CTr I r) (e : ∀ x, x = 0 ∨ x = 4559 ∨ x = 4560 → I' x = I x) : CTr I' r := by
  unfold CTr
  rw [e 0 (by omega), e 4559 (by omega), e 4560 (by omega)]
  exact H
theorem ru_lt (h : GH) (j : Nat) : ru h j < 20 := Nat.mod_lt _ (by decide)
theorem CHs_keep (H : CHs I h) (e : ∀ x, x = 11 ∨ (46 ≤ x ∧ x < 69) ∨ (440 ≤ x ∧ x < 540) → I' x = I x) : CHs I' h := by
  refine ⟨H.1, H.2.1, (by rw [e 11 (by omega)]; exact H.2.2.1), (by rw [e 11 (by omega)]; exact H.2.2.2.1), fun j hj => ?_⟩
  have l := ru_lt h j
  rw [e 46 (by omega), e 47 (by omega), e (49 + ru h j) (by omega)]
  obtain ⟨a1, a2, a3, a4, a5⟩ := H.2.2.2.2 j hj
  exact ⟨a1, a2, a3, fun z => ⟨(a4 z).1, CV_keep (a4 z).2 (fun x h1 h2 => e x (by omega))⟩, a5⟩
theorem InvC_keep (H : InvC I t s b n f v q p r h) (e : ∀ x, DC x → I' x = I x) : InvC I' t s b n f v q p r h := by
  obtain ⟨h1, h2, h3, h4, h5, h6, h7, h8, h9, h10⟩ := H
  refine ⟨CTy_keep h1 ?_, CSh_keep h2 ?_, CTb_keep h3 ?_, CNm_keep h4 ?_, CFn_keep h5 ?_, CV_keep h6 ?_, CKp_keep h7 ?_, CPr_keep h8 ?_, CTr_keep h9 ?_, CHs_keep h10 ?_⟩
  case refine_6 => intro x g1 g2; exact e x (by unfold DC; omega)
  all_goals (intro x g; exact e x (by unfold DC; omega))
theorem MV_keep {i : Nat} (H : MV I i v) (e : ∀ k, 28 * i ≤ k → k < 28 * i + 28 → I' 4564 k = I 4564 k) : MV I' i v := by
  obtain ⟨h1, h2, h3, h4⟩ := H
  exact ⟨(e _ (by omega) (by omega)).trans h1, fun j hj => (e _ (by omega) (by omega)).trans (h2 j hj), fun j hj => (e _ (by omega) (by omega)).trans (h3 j hj), h4⟩
theorem MTy_keep (H : MTy I t) (e : ∀ a k, (a = 4561 ∧ k = 19) ∨ a = 4578 → I' a k = I a k) : MTy I' t :=
  ⟨(e _ _ (by omega)).trans H.1, fun k hk => (e _ _ (by omega)).trans (H.2 k hk)⟩
theorem MSh_keep (H : MSh I s) (h30 : s.1 ≤ 30) (e : ∀ a k, (a = 4561 ∧ k = 10) ∨ a = 4570 ∨ (4565 ≤ a ∧ a ≤ 4569 ∧ k < 2400) → I' a k = I a k) (h80 : ∀ t, t < s.1 → s.2.1 t ≤ 80) : MSh I' s :=
  ⟨(e _ _ (by omega)).trans H.1, fun t ht => ⟨(e _ _ (by omega)).trans (H.2 t ht).1, MT_keep (H.2 t ht).2 (fun a k h1 h2 h3 h4 => e a k (by have := h80 t ht; omega))⟩⟩
theorem MTb_keep (H : MTb I b) (e : ∀ a k, 4575 ≤ a ∧ a ≤ 4577 → I' a k = I a k) : MTb I' b := fun p fx hp hf => by
  rw [e 4575 _ (by omega), e 4576 _ (by omega), e 4577 _ (by omega)]
  exact H p fx hp hf
theorem MNm_keep (H : MNm I n) (e : ∀ a k, a = 4599 ∨ (a = 4564 ∧ k < 728) → I' a k = I a k) : MNm I' n := fun l hl =>
  ⟨(e _ _ (by omega)).trans (H l hl).1, MV_keep (H l hl).2 (fun k h1 h2 => e _ _ (by omega))⟩
theorem FM_keep {row : Nat → Int32} {pv mv : Int32} {sz sz' : Nat → Int32} {nb : Nat} (H : FM I s row pv mv sz nb) (e : ∀ a k, 4565 ≤ a → a ≤ 4569 → nb ≤ k → k < nb + 240 → I' a k = I a k) (es : ∀ k, k < 8 → sz' k = sz k) : FM I' s row pv mv sz' nb := by
  obtain ⟨h1, h2, c, h3, h4, h5⟩ := H
  refine ⟨h1, h2, c, h3, h4, fun w k hw hk => ⟨fun hc => ?_, fun hc => (es _ (by omega)).trans ((h5 w k hw hk).2 hc)⟩⟩
  rcases (h5 w k hw hk).1 hc with ⟨a, b, d⟩ | ⟨t, a1, a2, a3, a4, a5⟩
  · exact Or.inl ⟨a, b, (es _ (by omega)).trans d⟩
  · exact Or.inr ⟨t, a1, a2, a3, (es _ (by omega)).trans a4, MT_keep a5 (fun a k h1 h2 h3 h4 => e a k h1 h2 (by omega) (by omega))⟩
theorem MFn_keep (H : MFn I s f) (e : ∀ a k, (4571 ≤ a ∧ a ≤ 4573) ∨ (4565 ≤ a ∧ a ≤ 4569 ∧ 2400 ≤ k ∧ k < 8640) → I' a k = I a k) : MFn I' s f := fun l hl => by
  rw [e 4571 _ (by omega), e 4572 _ (by omega)]
  exact FM_keep (H l hl) (fun a k h1 h2 h3 h4 => e a k (by omega)) (fun k hk => e _ _ (by omega))
theorem MKp_keep (H : MKp I q) (e : ∀ a k, a = 4564 ∧ 1316 ≤ k ∧ k < 1568 → I' a k = I a k) : MKp I' q := fun k hk => MV_keep (H k hk) (fun x h1 h2 => e _ _ (by omega))
theorem MPr_keep (H : MPr I p) (e : ∀ a k, (a = 4561 ∧ k = 42) ∨ a = 4595 → I' a k = I a k) : MPr I' p :=
  ⟨(e _ _ (by omega)).trans H.1, fun k hk => (e _ _ (by omega)).trans (H.2 k hk)⟩
theorem MTr_keep (H : MTr I r) (e : ∀ a k, (a = 4561 ∧ k = 67) ∨ a = 4611 ∨ a = 4612 → I' a k = I a k) : MTr I' r :=
  ⟨(e _ _ (by omega)).trans H.1, fun k hk => ⟨(e _ _ (by omega)).trans (H.2 k hk).1, (e _ _ (by omega)).trans (H.2 k hk).2⟩⟩
theorem MHs_keep (H : MHs I s h) (e : ∀ a k, (a = 4561 ∧ (k = 83 ∨ k = 84)) ∨ (4617 ≤ a ∧ a ≤ 4622) ∨ (a = 4564 ∧ 756 ≤ k ∧ k < 1316) ∨ (4565 ≤ a ∧ a ≤ 4569 ∧ 8640 ≤ k ∧ k < 13440) → I' a k = I a k) : MHs I' s h := by
  refine ⟨(e _ _ (by omega)).trans H.1, (e _ _ (by omega)).trans H.2.1, fun j hj => ?_⟩
  have l := ru_lt h j
  rw [e 4617 _ (by omega), e 4618 _ (by omega), e 4619 _ (by omega), e 4620 _ (by omega), e 4621 _ (by omega)]
  obtain ⟨a1, a2, a3, a4⟩ := H.2.2 j hj
  exact ⟨a1, a2, fun z => ⟨(a3 z).1, (a3 z).2.1, MV_keep (a3 z).2.2 (fun k h1 h2 => e _ _ (by omega))⟩, fun z => ⟨(a4 z).1, FM_keep (a4 z).2 (fun a k h1 h2 h3 h4 => e a k (by omega)) (fun k hk => e _ _ (by omega))⟩⟩
theorem InvM_keep (H : InvM I t s b n f v q p r h) (h30 : s.1 ≤ 30) (h80 : ∀ t, t < s.1 → s.2.1 t ≤ 80) (e : ∀ a k, DM a k → I' a k = I a k) : InvM I' t s b n f v q p r h := by
  obtain ⟨h1, h2, h3, h4, h5, h6, h7, h8, h9, h10⟩ := H
  refine ⟨MTy_keep h1 ?_, MSh_keep h2 h30 ?_ h80, MTb_keep h3 ?_, MNm_keep h4 ?_, MFn_keep h5 ?_, MV_keep h6 ?_, MKp_keep h7 ?_, MPr_keep h8 ?_, MTr_keep h9 ?_, MHs_keep h10 ?_⟩
  case refine_6 => intro k g1 g2; exact e _ k (by unfold DM; omega)
  all_goals (intro a k g; exact e a k (by unfold DM; omega))
theorem CSh_80 (H : CSh I s) : ∀ t, t < s.1 → s.2.1 t ≤ 80 := fun t ht => (H.2.2 t ht).1.2.2.1
end KP
