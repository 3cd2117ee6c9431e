/-! the reference's tasks of spelling -/
abbrev Tk : Type := Nat × Wd
def tkL : List Tk → Nat → Tk
  | [] => fun _ => (0, 0, 0)
  | t :: T => fun j => if j = T.length then t else tkL T j
def tkK (t : Tk) : Int32 := if t.1 = 0 then kM t.2.1 else (Int32.ofNat (t.1))
def tkV (a : Nat) (t : Tk) : Int32 := if t.1 = 0 then wvI t.2 else if t.1 = 10 then (Int32.ofNat (a + t.2.2)) else 0
def tW (w : Wd) : Tk := (0, w)
def tN (c : Nat) : Tk := (10, 0, c)
def tO : Tk := (11, 0, 0)
def tC : Tk := (12, 0, 0)
def MTk (I : Nat → Nat → Int32) (a : Nat) (T : List Tk) : Prop := I 4561 45 = (Int32.ofNat (T.length)) ∧ ∀ j, j < T.length → I 4596 j = tkK (tkL T j) ∧ I 4597 j = tkV a (tkL T j)
def outT (nd : Nat → Nd) (sp : Nat → Nat) : List Tk → SW → List Nat → SW
  | [], S, _ => S
  | t :: T, S, o => if t.1 = 0 then outT nd sp T (adw t.2 S) o else if t.1 = 10 then outT nd sp T (spl nd sp 200 t.2.2 S) o else if t.1 = 11 then outT nd sp T (adw (4, 40) S) (S.1.length :: o) else outT nd sp T (clw (o.headD 0) S) o.tail
def okT (n : Nat) : List Tk → Nat → Prop
  | [], k => k = 0
  | t :: T, k => (t.1 = 0 ∧ WOK t.2 ∧ okT n T k) ∨ (t.1 = 10 ∧ t.2.2 < n ∧ okT n T k) ∨ (t.1 = 11 ∧ okT n T (k + 1)) ∨ (t.1 = 12 ∧ 0 < k ∧ okT n T (k - 1))
def msT (sp : Nat → Nat) : List Tk → Nat
  | [] => 0
  | t :: T => (if t.1 = 10 then 8 * sp t.2.2 else 1) + msT sp T
theorem outT_W (nd : Nat → Nd) (sp : Nat → Nat) (w : Wd) (T : List Tk) (S : SW) (o : List Nat) : outT nd sp (tW w :: T) S o = outT nd sp T (adw w S) o := rfl
theorem outT_N (nd : Nat → Nd) (sp : Nat → Nat) (c : Nat) (T : List Tk) (S : SW) (o : List Nat) : outT nd sp (tN c :: T) S o = outT nd sp T (spl nd sp 200 c S) o := rfl
theorem outT_O (nd : Nat → Nd) (sp : Nat → Nat) (T : List Tk) (S : SW) (o : List Nat) : outT nd sp (tO :: T) S o = outT nd sp T (adw (4, 40) S) (S.1.length :: o) := rfl
theorem outT_C (nd : Nat → Nd) (sp : Nat → Nat) (T : List Tk) (S : SW) (x : Nat) (o : List Nat) : outT nd sp (tC :: T) S (x :: o) = outT nd sp T (clw x S) o := rfl
theorem outT_len {b : GB} {n : Nat} {nd : Nat → Nd} {sp : Nat → Nat} (h : WT n (aro nd) sp) (h80 : n ≤ 80) (hn : ∀ i, i < n → NV b (nd i)) : ∀ (T : List Tk) (S : SW) (o : List Nat), okT n T o.length → T.length + S.1.length ≤ (outT nd sp T S o).1.length ∧ o.length + S.1.length ≤ (outT nd sp T S o).1.length := by
  intro T
  induction T with
  | nil =>
    intro S o ho
    have e : o.length = 0 := ho
    have e2 : outT nd sp [] S o = S := rfl
    rw [e2, e]
    exact ⟨Nat.le_of_eq (Nat.zero_add _), Nat.le_of_eq (Nat.zero_add _)⟩
  | cons t T ih =>
    intro S o ho
    obtain ⟨tk, w⟩ := t
    rcases ho with ⟨z, -, y⟩ | ⟨z, u, y⟩ | ⟨z, y⟩ | ⟨z, u, y⟩
    · have z : tk = 0 := z
      rw [z]
      obtain ⟨a1, a2⟩ := ih (adw w S) o y
      rw [show ((0, w) : Tk) = tW w from rfl, outT_W]
      have : (adw w S).1.length = S.1.length + 1 := rfl
      rw [List.length_cons]
      omega
    · have z : tk = 10 := z
      rw [z]
      obtain ⟨a1, a2⟩ := ih (spl nd sp 200 w.2 S) o y
      have u : w.2 < n := u
      have := (spl_len h hn 200 w.2 u (by have := (h.2.2.2 _ u).2.1; omega) S).1
      show _ ≤ (outT nd sp T (spl nd sp 200 w.2 S) o).1.length ∧ _ ≤ (outT nd sp T (spl nd sp 200 w.2 S) o).1.length
      rw [List.length_cons]
      omega
    · have z : tk = 11 := z
      rw [z]
      obtain ⟨a1, a2⟩ := ih (adw (4, 40) S) (S.1.length :: o) y
      show _ ≤ (outT nd sp T (adw (4, 40) S) (S.1.length :: o)).1.length ∧ _ ≤ (outT nd sp T (adw (4, 40) S) (S.1.length :: o)).1.length
      have : (adw (4, 40) S).1.length = S.1.length + 1 := rfl
      rw [List.length_cons] at a2 ⊢
      omega
    · have z : tk = 12 := z
      rw [z]
      cases o with
      | nil => exact absurd u (Nat.lt_irrefl 0)
      | cons x o =>
        obtain ⟨a1, a2⟩ := ih (clw x S) o y
        show _ ≤ (outT nd sp T (clw x S) o).1.length ∧ _ ≤ (outT nd sp T (clw x S) o).1.length
        have : (clw x S).1.length = S.1.length + 1 := rfl
        rw [List.length_cons, List.length_cons]
        omega
/-- the tasks of a node -/
def opT (nd : Nat → Nd) (c : Nat) (T : List Tk) : List Tk := if (nd c).1 = 3 then tO :: tN c :: tC :: T else tN c :: T
def seT (k : Nat) : Tk := if k = 0 then tW (4, 40) else tW (6, 44)
def exA (sp : Nat → Nat) (i m : Nat) (T : List Tk) : Nat → List Tk
  | 0 => T
  | r + 1 => seT (m - (r + 1)) :: tN (kid sp i (m - (r + 1))) :: exA sp i m T r
def exT (nd : Nat → Nd) (sp : Nat → Nat) (i : Nat) (T : List Tk) : List Tk :=
  if (nd i).1 = 3 then (if (nd i).2.2.1 = 2 then opT nd (i + 1) (tW (sgw (nd i)) :: opT nd (kid sp i 1) T) else if (nd i).2.2.1 = 0 then tW (sgw (nd i)) :: opT nd (i + 1) T else opT nd (i + 1) (tW (sgw (nd i)) :: T))
  else if (nd i).1 = 2 then tW (1, vN (nd i)) :: exA sp i (aro nd i) (tW (5, 41) :: T) (aro nd i)
  else tW ((if (nd i).1 = 0 then 0 else 1), vN (nd i)) :: T
theorem opT_out {n : Nat} {nd : Nat → Nd} {sp : Nat → Nat} (h : WT n (aro nd) sp) (h80 : n ≤ 80) {x : Nd} (hx : x.1 = 3) {c : Nat} (hc : c < n) (T : List Tk) (S : SW) (o : List Nat) : outT nd sp (opT nd c T) S o = outT nd sp T (spO (spl nd sp 199) x (nd c) c S) o := by
  have e : ∀ S, spl nd sp 200 c S = spl nd sp 199 c S := fun S => spl_fuel h 200 c hc (by have := (h.2.2.2 _ hc).2.1; omega) 199 (by have := (h.2.2.2 _ hc).2.1; omega) S
  unfold opT spO
  by_cases q : (nd c).1 = 3
  · rw [if_pos q, if_pos ⟨hx, q⟩, outT_O, outT_N, outT_C, e]
  · rw [if_neg q, if_neg (fun y => q y.2), outT_N, e]
theorem exT_out {b : GB} {n : Nat} {nd : Nat → Nd} {sp : Nat → Nat} (h : WT n (aro nd) sp) (h80 : n ≤ 80) (hn : ∀ i, i < n → NV b (nd i)) {i : Nat} (hi : i < n) (T : List Tk) (S : SW) (o : List Nat) : outT nd sp (exT nd sp i T) S o = outT nd sp T (spl nd sp 200 i S) o := by
  have nv := hn i hi
  rw [show (200 : Nat) = 199 + 1 from rfl, spl_c]
  unfold exT spC spB
  by_cases q3 : (nd i).1 = 3
  · rw [if_pos q3, if_pos q3, if_pos q3]
    have q2 : (nd i).1 ≠ 2 := by rw [q3]; decide
    obtain ⟨fx, hfx, ef, ea⟩ : ∃ fx, fx < 3 ∧ (nd i).2.2.1 = (Int32.ofNat (fx)) ∧ aro nd i = if fx = 2 then 2 else 1 := by
      rcases nv with y | y | y | ⟨y1, p, fx, y2, y3, y4, y5, y6, y7⟩
      · rw [y.1] at q3; exact absurd q3 (by decide)
      · rw [y.1] at q3; exact absurd q3 (by decide)
      · exact absurd y.1 q2
      · exact ⟨fx, y3, y5, y6⟩
    have e0 : ((nd i).2.2.1 = 0) ↔ fx = 0 := by rw [ef]; exact i32_eq (m := 0) (by omega) (by omega)
    have e1 : ((nd i).2.2.1 = 1) ↔ fx = 1 := by rw [ef]; exact i32_eq (m := 1) (by omega) (by omega)
    have e2 : ((nd i).2.2.1 = 2) ↔ fx = 2 := by rw [ef]; exact i32_eq (m := 2) (by omega) (by omega)
    have k0 : kid sp i 0 = i + 1 := rfl
    have c0 : 0 < aro nd i := by
      rw [ea]
      split <;> decide
    have hk0 := (kid_sp h hi c0).1
    rw [k0] at hk0
    have i0 : ∀ x S, spI x 0 S = S := fun x S => rfl
    have i1 : ∀ S, spI (nd i) 1 S = adw (sgw (nd i)) S := fun S => by
      unfold spI
      rw [if_neg (by decide), if_neg q2]
    have a0 : ∀ S, spA (spl nd sp 199) nd sp i 0 S = S := fun S => rfl
    by_cases z2 : fx = 2
    · rw [if_pos z2] at ea
      rw [if_pos (e2.mpr z2), if_neg (fun y => by have := e1.mp y; omega), if_neg (fun y => by have := e0.mp y; omega), ea, opT_out h h80 q3 hk0, outT_W, opT_out h h80 q3 (kid_sp h hi (show 1 < aro nd i by omega)).1, spA_c, spA_c, i1, i0, a0, k0]
    · rw [if_neg z2] at ea
      rw [if_neg (fun y => z2 (e2.mp y)), ea, spA_c, i0, a0, k0]
      by_cases z0 : fx = 0
      · rw [if_pos (e0.mpr z0), if_pos (e0.mpr z0), if_neg (fun y => by have := e1.mp y; omega), outT_W, opT_out h h80 q3 hk0]
      · rw [if_neg (fun y => z0 (e0.mp y)), if_neg (fun y => z0 (e0.mp y)), if_pos (e1.mpr (by omega)), opT_out h h80 q3 hk0, outT_W]
  · rw [if_neg q3, if_neg q3, if_neg q3]
    by_cases q2 : (nd i).1 = 2
    · rw [if_pos q2, if_pos q2, if_pos q2, outT_W]
      have a1 : 1 ≤ aro nd i := (NV_v nv).2.2.2.2.2.2 q2
      have key : ∀ r, r + 1 ≤ aro nd i → ∀ S, outT nd sp (exA sp i (aro nd i) (tW (5, 41) :: T) r) (spA (spl nd sp 199) nd sp i (aro nd i - r) S) o = outT nd sp (tW (5, 41) :: T) (spA (spl nd sp 199) nd sp i (aro nd i) S) o := by
        intro r
        induction r with
        | zero => intro _ S; rfl
        | succ r ihr =>
          intro hr S
          rw [← ihr (by omega) S]
          obtain ⟨k, hk⟩ : ∃ k, k = aro nd i - (r + 1) := ⟨_, rfl⟩
          have hc := (kid_sp h hi (show k < aro nd i by omega)).1
          show outT nd sp (seT (aro nd i - (r + 1)) :: tN (kid sp i (aro nd i - (r + 1))) :: exA sp i (aro nd i) (tW (5, 41) :: T) r) (spA (spl nd sp 199) nd sp i (aro nd i - (r + 1)) S) o = _
          rw [show aro nd i - r = k + 1 by omega, spA_c, ← hk]
          unfold seT spO spI
          rw [if_neg (show ¬ k = 0 by omega), if_neg (show ¬ k = 0 by omega), if_neg (fun y => q3 y.1), if_pos q2, outT_W, outT_N, spl_fuel h 200 _ hc (by have := (h.2.2.2 _ hc).2.1; omega) 199 (by have := (h.2.2.2 _ hc).2.1; omega)]
      rw [← outT_W nd sp (5, 41) T, ← key (aro nd i - 1) (by omega)]
      obtain ⟨m, hm⟩ : ∃ m, m = aro nd i - 1 := ⟨_, rfl⟩
      rw [show aro nd i - (aro nd i - 1) = 0 + 1 by omega, spA_c]
      have hc := (kid_sp h hi (show 0 < aro nd i by omega)).1
      have e : exA sp i (aro nd i) (tW (5, 41) :: T) (aro nd i) = seT 0 :: tN (kid sp i 0) :: exA sp i (aro nd i) (tW (5, 41) :: T) (aro nd i - 1) := by
        rw [← hm]
        have e2 : aro nd i = m + 1 := by omega
        conv => lhs; arg 5; rw [e2]
        show seT (aro nd i - (m + 1)) :: tN (kid sp i (aro nd i - (m + 1))) :: _ = _
        rw [e2, Nat.sub_self]
      rw [e]
      unfold spO
      rw [if_neg (fun y => q3 y.1)]
      show outT nd sp (tN (kid sp i 0) :: exA sp i (aro nd i) (tW (5, 41) :: T) (aro nd i - 1)) (adw (4, 40) (adw (1, vN (nd i)) S)) o = _
      rw [outT_N, spl_fuel h 200 _ hc (by have := (h.2.2.2 _ hc).2.1; omega) 199 (by have := (h.2.2.2 _ hc).2.1; omega)]
      rfl
    · rw [if_neg q2, if_neg q2, if_neg q2, outT_W]
      have z : aro nd i = 0 := by
        rcases nv with y | y | y | y
        · exact y.2.2.2
        · exact y.2.2.2
        · exact absurd y.1 q2
        · exact absurd y.1 q3
      rw [z]
      rfl
theorem okT_W {n : Nat} {w : Wd} {T : List Tk} {k : Nat} (hw : WOK w) (h : okT n T k) : okT n (tW w :: T) k := Or.inl ⟨rfl, hw, h⟩
theorem okT_N {n : Nat} {c : Nat} {T : List Tk} {k : Nat} (hc : c < n) (h : okT n T k) : okT n (tN c :: T) k := Or.inr (Or.inl ⟨rfl, hc, h⟩)
theorem okT_op {n : Nat} {nd : Nat → Nd} {c : Nat} {T : List Tk} {k : Nat} (hc : c < n) (h : okT n T k) : okT n (opT nd c T) k := by
  unfold opT
  split
  · exact Or.inr (Or.inr (Or.inl ⟨rfl, okT_N hc (Or.inr (Or.inr (Or.inr ⟨rfl, Nat.succ_pos _, h⟩)))⟩))
  · exact okT_N hc h
theorem ms_W (sp : Nat → Nat) (w : Wd) (T : List Tk) : msT sp (tW w :: T) = 1 + msT sp T := rfl
theorem ms_N (sp : Nat → Nat) (c : Nat) (T : List Tk) : msT sp (tN c :: T) = 8 * sp c + msT sp T := rfl
theorem ms_op (nd : Nat → Nd) (sp : Nat → Nat) (c : Nat) (T : List Tk) : msT sp (opT nd c T) ≤ 8 * sp c + 2 + msT sp T := by
  unfold opT
  split
  · show 1 + (8 * sp c + (1 + msT sp T)) ≤ _
    omega
  · show 8 * sp c + msT sp T ≤ _
    omega
theorem wok40 : WOK (4, 40) := Or.inr (Or.inr (Or.inr ⟨by decide, by decide, by decide⟩))
theorem wok41 : WOK (5, 41) := Or.inr (Or.inr (Or.inr ⟨by decide, by decide, by decide⟩))
theorem wok44 : WOK (6, 44) := Or.inr (Or.inr (Or.inr ⟨by decide, by decide, by decide⟩))
theorem exT_ok {b : GB} {n : Nat} {nd : Nat → Nd} {sp : Nat → Nat} (h : WT n (aro nd) sp) (hn : ∀ i, i < n → NV b (nd i)) {i : Nat} (hi : i < n) {T : List Tk} {k : Nat} (hT : okT n T k) : okT n (exT nd sp i T) k ∧ msT sp (exT nd sp i T) < msT sp (tN i :: T) := by
  have nv := hn i hi
  have kl := (h.2.2.2 i hi).2.2.1
  have s1 := (h.2.2.2 i hi).1
  rw [ms_N]
  unfold exT
  by_cases q3 : (nd i).1 = 3
  · rw [if_pos q3]
    have ws := (wdS nv q3).1
    have q2 : (nd i).1 ≠ 2 := by rw [q3]; decide
    obtain ⟨fx, hfx, ef, ea⟩ : ∃ fx, fx < 3 ∧ (nd i).2.2.1 = (Int32.ofNat (fx)) ∧ aro nd i = if fx = 2 then 2 else 1 := by
      rcases nv with y | y | y | ⟨y1, p, fx, y2, y3, y4, y5, y6, y7⟩
      · rw [y.1] at q3; exact absurd q3 (by decide)
      · rw [y.1] at q3; exact absurd q3 (by decide)
      · exact absurd y.1 q2
      · exact ⟨fx, y3, y5, y6⟩
    have e0 : ((nd i).2.2.1 = 0) ↔ fx = 0 := by rw [ef]; exact i32_eq (m := 0) (by omega) (by omega)
    have e2 : ((nd i).2.2.1 = 2) ↔ fx = 2 := by rw [ef]; exact i32_eq (m := 2) (by omega) (by omega)
    have k0 : kid sp i 0 = i + 1 := rfl
    have k1 : kid sp i 1 = i + 1 + sp (i + 1) := rfl
    have k2 : kid sp i 2 = kid sp i 1 + sp (kid sp i 1) := rfl
    have c0 : 0 < aro nd i := by
      rw [ea]
      split <;> decide
    have hk0 := (kid_sp h hi c0).1
    rw [k0] at hk0
    by_cases z2 : fx = 2
    · rw [if_pos (e2.mpr z2)]
      rw [if_pos z2] at ea
      rw [ea, k2] at kl
      have hk1 := (kid_sp h hi (show 1 < aro nd i by omega)).1
      refine ⟨okT_op hk0 (okT_W ws (okT_op hk1 hT)), ?_⟩
      have g1 := ms_op nd sp (i + 1) (tW (sgw (nd i)) :: opT nd (kid sp i 1) T)
      have g2 := ms_op nd sp (kid sp i 1) T
      rw [ms_W] at g1
      omega
    · rw [if_neg (fun y => z2 (e2.mp y))]
      rw [if_neg z2] at ea
      rw [ea, k1] at kl
      split
      · refine ⟨okT_W ws (okT_op hk0 hT), ?_⟩
        have g1 := ms_op nd sp (i + 1) T
        rw [ms_W]
        omega
      · refine ⟨okT_op hk0 (okT_W ws hT), ?_⟩
        have g1 := ms_op nd sp (i + 1) (tW (sgw (nd i)) :: T)
        rw [ms_W] at g1
        omega
  · rw [if_neg q3]
    have wb := (wdB nv q3).1
    by_cases q2 : (nd i).1 = 2
    · rw [if_pos q2]
      rw [if_neg (show ¬ (nd i).1 = 0 by rw [q2]; decide)] at wb
      have a4 : aro nd i ≤ 4 := (NV_v nv).2.2.2.1
      have key : ∀ r, r ≤ aro nd i → okT n (exA sp i (aro nd i) (tW (5, 41) :: T) r) k ∧ msT sp (exA sp i (aro nd i) (tW (5, 41) :: T) r) + 8 * kid sp i (aro nd i - r) = r + 1 + msT sp T + 8 * kid sp i (aro nd i) := by
        intro r
        induction r with
        | zero =>
          intro _
          refine ⟨okT_W wok41 hT, ?_⟩
          show 1 + msT sp T + 8 * kid sp i (aro nd i) = _
          omega
        | succ r ihr =>
          intro hr
          obtain ⟨g1, g2⟩ := ihr (by omega)
          have hc := (kid_sp h hi (show aro nd i - (r + 1) < aro nd i by omega)).1
          have ke : kid sp i (aro nd i - r) = kid sp i (aro nd i - (r + 1)) + sp (kid sp i (aro nd i - (r + 1))) := by
            rw [show aro nd i - r = aro nd i - (r + 1) + 1 by omega]
            rfl
          refine ⟨?_, ?_⟩
          · show okT n (seT (aro nd i - (r + 1)) :: tN (kid sp i (aro nd i - (r + 1))) :: exA sp i (aro nd i) (tW (5, 41) :: T) r) k
            unfold seT
            split
            · exact okT_W wok40 (okT_N hc g1)
            · exact okT_W wok44 (okT_N hc g1)
          · have e : msT sp (exA sp i (aro nd i) (tW (5, 41) :: T) (r + 1)) = 1 + (8 * sp (kid sp i (aro nd i - (r + 1))) + msT sp (exA sp i (aro nd i) (tW (5, 41) :: T) r)) := by
              show msT sp (seT (aro nd i - (r + 1)) :: tN (kid sp i (aro nd i - (r + 1))) :: exA sp i (aro nd i) (tW (5, 41) :: T) r) = _
              unfold seT
              split <;> rfl
            rw [e]
            omega
      obtain ⟨g1, g2⟩ := key (aro nd i) (Nat.le_refl _)
      refine ⟨okT_W wb g1, ?_⟩
      rw [ms_W]
      rw [Nat.sub_self, show kid sp i 0 = i + 1 from rfl, kl] at g2
      omega
    · rw [if_neg q2]
      refine ⟨okT_W wb hT, ?_⟩
      rw [ms_W]
      omega
