/-! RULES IN BIND FORM: 'hf' is the function's own text, 'some r' its answer -/
def xk (σ : xM) (a kd : Nat) : Bool := decide (a < σ.1) && (σ.2.1 a).1 == kd
theorem xk_of {σ : xM} {a kd : Nat} (h : xk σ a kd = true) : a < σ.1 ∧ (σ.2.1 a).1 = kd := by
  simpa [xk] using h
def xvi (i : Int32) (n : Nat) : Bool := decide (¬ (i < 0 ∨ n ≤ i.toNatClampNeg))
theorem xvi_of {i : Int32} {n : Nat} (h : xvi i n = true) : vp_in i n := by
  have h1 : ¬ (i < 0 ∨ n ≤ i.toNatClampNeg) := of_decide_eq_true (p := ¬ (i < 0 ∨ n ≤ i.toNatClampNeg)) h
  exact h1
def gI (σ : xM) (a c k : Nat) : Option Int32 := if xk σ a c = true then some (σ.2.2.1 a k) else none
def gR (σ : xM) (a c k : Nat) : Option Nat := if xk σ a c = true then σ.2.2.2.2 a k else none
def sI (σ : xM) (a c k : Nat) (v : Int32) : Option xM := if xk σ a c = true then some (xsI σ a k v) else none
def sZ (σ : xM) (a c k : Nat) (v : Int32) : Option xM := if (xk σ a c && (v == 0 || v == 1)) = true then some (xsI σ a k v) else none
def aI (σ : xM) (a kd : Nat) (i : Int32) : Option Int32 := if (xk σ a kd && xvi i (σ.2.1 a).2) = true then some (σ.2.2.1 a i.toNatClampNeg) else none
def aR (σ : xM) (a kd : Nat) (i : Int32) : Option (Option Nat) := if (xk σ a kd && xvi i (σ.2.1 a).2) = true then some (σ.2.2.2.2 a i.toNatClampNeg) else none
def wI (σ : xM) (a : Nat) (i v : Int32) : Option xM := if (xk σ a 14 && xvi i (σ.2.1 a).2) = true then some (xsI σ a i.toNatClampNeg v) else none
def wC (σ : xM) (a : Nat) (i v : Int32) : Option xM := if (xk σ a 13 && xvi i (σ.2.1 a).2) = true then some (xsI σ a i.toNatClampNeg (vp_nar .char v)) else none
def wZ (σ : xM) (a : Nat) (i v : Int32) : Option xM := if (xk σ a 15 && xvi i (σ.2.1 a).2 && (v == 0 || v == 1)) = true then some (xsI σ a i.toNatClampNeg v) else none
def wR (σ : xM) (a kd ci : Nat) (i : Int32) (v : Nat) : Option xM := if (xk σ a kd && xvi i (σ.2.1 a).2 && xk σ v ci) = true then some (xsR σ a i.toNatClampNeg (some v)) else none
def wN (σ : xM) (a kd : Nat) (i : Int32) : Option xM := if (xk σ a kd && xvi i (σ.2.1 a).2) = true then some (xsR σ a i.toNatClampNeg none) else none
def gL (σ : xM) (a kd : Nat) : Option Int32 := if xk σ a kd = true then some (Int32.ofNat (σ.2.1 a).2) else none
def aJ (σ : xM) (a : Nat) (i : Int32) : Option Int64 := if (xk σ a 19 && xvi i (σ.2.1 a).2) = true then some (σ.2.2.2.1 a i.toNatClampNeg) else none
def wJ (σ : xM) (a : Nat) (i : Int32) (v : Int64) : Option xM := if (xk σ a 19 && xvi i (σ.2.1 a).2) = true then some (xsJ σ a i.toNatClampNeg v) else none
theorem xAt_of {l : List Cond} (ps qs : List Nat) (h1 : l.filter goodWord = ps.filterMap (fun i => tables_1[i]?)) (h2 : l.filter (fun w => !goodWord w) = qs.filterMap (fun i => xot[i]?)) : ∀ w ∈ l, w ∈ xTB ∨ w ∈ xot := by
  intro w hw
  by_cases g : goodWord w = true
  · have h : w ∈ l.filter goodWord := List.mem_filter.mpr ⟨hw, g⟩
    rw [h1] at h
    obtain ⟨i, -, hi⟩ := List.mem_filterMap.mp h
    exact Or.inl (xTB_in (List.mem_append_right _ (List.mem_of_getElem? hi)) g)
  · have h : w ∈ l.filter (fun w => !goodWord w) := List.mem_filter.mpr ⟨hw, by simpa using g⟩
    rw [h2] at h
    obtain ⟨i, -, hi⟩ := List.mem_filterMap.mp h
    exact Or.inr (List.mem_of_getElem? hi)
theorem xbind {α β : Type} {x : Option α} {K : α → Option β} {r : β} (h : x.bind K = some r) : ∃ v, x = some v ∧ K v = some r := Option.bind_eq_some_iff.mp h
section XB
variable {G : xG} {π : Nat → Nat} {J : xJ} {d C C9 Z pc : Nat} {L : List (Nat × Value)} {S : List Value} {σ : xM} {Q : xQ} {ρ : Type} {r : ρ}
theorem xpick_mp (π : Nat → Nat) (ks : List Nat) (L : List (Nat × Value)) : lv_pick (xmp π L) ks = xmp π (lv_pick L ks) := by
  unfold lv_pick xmp
  rw [List.map_filterMap]
  congr 1
  funext k
  exact List.getElem?_map
theorem xm_sub {L' : List (Nat × Value)} (ks : List Nat) (hl : lv_pick L ks = L') (k : xMach G π J d C Z pc L' S σ Q) : xMach G π J d C Z pc L S σ Q :=
  fun p e s m args below meth c0 H locs cells slots mc ms ls a1 a2 a3 a4 a5 a6 => k p e s m args below meth c0 H locs cells slots mc ms ls a1 a2 a3 (lv_sub a4 ks (by rw [xpick_mp, hl])) a5 a6
theorem xb_getI {a c k idx N : Nat} {CN : String} {T : u_T} {K : Int32 → Option ρ} (h : decode J.2.2.1 pc = .ok (.getfield idx, 3)) (hx : xCl c CN T N) (hk : k < N) (hw : Cond.fieldLink J.1 idx (T k).1 (T k).2.1 (T k).2.2.1 ∈ xTB) (hr : xisr (xtyp c k) = false) (hf : (gI σ a c k).bind K = some r)
    (kk : ∀ x, gI σ a c k = some x → K x = some r → xMach G π J d C Z (pc + 3) L (.int x :: S) σ Q) : xMach G π J d C Z pc L (.ref a :: S) σ Q := by
  obtain ⟨v, h1, h2⟩ := xbind hf
  have h3 := h1
  unfold gI at h3
  split at h3
  · next q =>
    obtain ⟨q1, q2⟩ := xk_of q
    cases h3
    refine xm_getf h hx hk hw q1 q2 ?_
    unfold xfv
    rw [hr]
    exact kk _ h1 h2
  · cases h3
theorem xb_getR {a c k idx N : Nat} {CN : String} {T : u_T} {K : Nat → Option ρ} (h : decode J.2.2.1 pc = .ok (.getfield idx, 3)) (hx : xCl c CN T N) (hk : k < N) (hw : Cond.fieldLink J.1 idx (T k).1 (T k).2.1 (T k).2.2.1 ∈ xTB) (hr : xisr (xtyp c k) = true) (hf : (gR σ a c k).bind K = some r)
    (kk : ∀ x, gR σ a c k = some x → K x = some r → xMach G π J d C Z (pc + 3) L (.ref x :: S) σ Q) : xMach G π J d C Z pc L (.ref a :: S) σ Q := by
  obtain ⟨v, h1, h2⟩ := xbind hf
  have h3 := h1
  unfold gR at h3
  split at h3
  · next q =>
    obtain ⟨q1, q2⟩ := xk_of q
    refine xm_getf h hx hk hw q1 q2 ?_
    unfold xfv
    rw [hr, if_pos rfl, h3]
    exact kk _ h1 h2
  · cases h3
theorem xb_getIN {a c k idx N : Nat} {CN host : String} {T : u_T} {K : Int32 → Option ρ} (h : decode J.2.2.1 pc = .ok (.getfield idx, 3)) (hx : xCl c CN T N) (hk : k < N) (hw : Cond.fieldLinkNest J.1 idx (T k).1 (T k).2.1 (T k).2.2.1 host ∈ xot) (hr : xisr (xtyp c k) = false) (hf : (gI σ a c k).bind K = some r)
    (kk : ∀ x, gI σ a c k = some x → K x = some r → xMach G π J d C Z (pc + 3) L (.int x :: S) σ Q) : xMach G π J d C Z pc L (.ref a :: S) σ Q := by
  obtain ⟨v, h1, h2⟩ := xbind hf
  have h3 := h1
  unfold gI at h3
  split at h3
  · next q =>
    obtain ⟨q1, q2⟩ := xk_of q
    cases h3
    refine xm_getfN h hx hk hw q1 q2 ?_
    unfold xfv
    rw [hr]
    exact kk _ h1 h2
  · cases h3
theorem xb_getRN {a c k idx N : Nat} {CN host : String} {T : u_T} {K : Nat → Option ρ} (h : decode J.2.2.1 pc = .ok (.getfield idx, 3)) (hx : xCl c CN T N) (hk : k < N) (hw : Cond.fieldLinkNest J.1 idx (T k).1 (T k).2.1 (T k).2.2.1 host ∈ xot) (hr : xisr (xtyp c k) = true) (hf : (gR σ a c k).bind K = some r)
    (kk : ∀ x, gR σ a c k = some x → K x = some r → xMach G π J d C Z (pc + 3) L (.ref x :: S) σ Q) : xMach G π J d C Z pc L (.ref a :: S) σ Q := by
  obtain ⟨v, h1, h2⟩ := xbind hf
  have h3 := h1
  unfold gR at h3
  split at h3
  · next q =>
    obtain ⟨q1, q2⟩ := xk_of q
    refine xm_getfN h hx hk hw q1 q2 ?_
    unfold xfv
    rw [hr, if_pos rfl, h3]
    exact kk _ h1 h2
  · cases h3
theorem xb_putI {a c k idx N : Nat} {CN : String} {T : u_T} {v : Int32} {K : xM → Option ρ} (h : decode J.2.2.1 pc = .ok (.putfield idx, 3)) (hx : xCl c CN T N) (hk : k < N) (hw : Cond.fieldLink J.1 idx (T k).1 (T k).2.1 (T k).2.2.1 ∈ xTB) (hfin : (T k).2.2.2 = false) (hty : xtyp c k = .int) (hf : (sI σ a c k v).bind K = some r)
    (kk : ∀ τ, sI σ a c k v = some τ → K τ = some r → xMach G π J d C Z (pc + 3) L S τ Q) : xMach G π J d C Z pc L (.int v :: .ref a :: S) σ Q := by
  obtain ⟨τ, h1, h2⟩ := xbind hf
  have h3 := h1
  unfold sI at h3
  split at h3
  · next q =>
    obtain ⟨q1, q2⟩ := xk_of q
    cases h3
    exact xm_putI h hx hk hw hfin (by rw [hty]; rfl) (by rw [hty]; rfl) (by rw [hty]; rfl) q1 q2 (kk _ h1 h2)
  · cases h3
theorem xb_putZ {a c k idx N : Nat} {CN : String} {T : u_T} {v : Int32} {K : xM → Option ρ} (h : decode J.2.2.1 pc = .ok (.putfield idx, 3)) (hx : xCl c CN T N) (hk : k < N) (hw : Cond.fieldLink J.1 idx (T k).1 (T k).2.1 (T k).2.2.1 ∈ xTB) (hfin : (T k).2.2.2 = false) (hty : xtyp c k = .boolean) (hf : (sZ σ a c k v).bind K = some r)
    (kk : ∀ τ, sZ σ a c k v = some τ → K τ = some r → xMach G π J d C Z (pc + 3) L S τ Q) : xMach G π J d C Z pc L (.int v :: .ref a :: S) σ Q := by
  obtain ⟨τ, h1, h2⟩ := xbind hf
  have h3 := h1
  unfold sZ at h3
  split at h3
  · next q =>
    rw [Bool.and_eq_true, Bool.or_eq_true, beq_iff_eq, beq_iff_eq] at q
    obtain ⟨q1, q2⟩ := xk_of q.1
    cases h3
    refine xm_putI h hx hk hw hfin ?_ ?_ (by rw [hty]; rfl) q1 q2 (kk _ h1 h2)
    · rw [hty]; rcases q.2 with rfl | rfl <;> rfl
    · rw [hty]; rcases q.2 with rfl | rfl <;> rfl
  · cases h3
theorem xb_iald {a : Nat} {i : Int32} {K : Int32 → Option ρ} (h : decode J.2.2.1 pc = .ok (.iaload, 1)) (hf : (aI σ a 14 i).bind K = some r) (kk : ∀ x, aI σ a 14 i = some x → K x = some r → xMach G π J d C Z (pc + 1) L (.int x :: S) σ Q) : xMach G π J d C Z pc L (.int i :: .ref a :: S) σ Q := by
  obtain ⟨v, h1, h2⟩ := xbind hf
  have h3 := h1
  unfold aI at h3
  split at h3
  · next q =>
    rw [Bool.and_eq_true] at q
    obtain ⟨q1, q2⟩ := xk_of q.1
    cases h3
    exact xm_iald h q1 q2 (xvi_of q.2) (kk _ h1 h2)
  · cases h3
theorem xb_cald {a : Nat} {i : Int32} {K : Int32 → Option ρ} (h : decode J.2.2.1 pc = .ok (.caload, 1)) (hf : (aI σ a 13 i).bind K = some r) (kk : ∀ x, aI σ a 13 i = some x → K x = some r → xMach G π J d C Z (pc + 1) L (.int x :: S) σ Q) : xMach G π J d C Z pc L (.int i :: .ref a :: S) σ Q := by
  obtain ⟨v, h1, h2⟩ := xbind hf
  have h3 := h1
  unfold aI at h3
  split at h3
  · next q =>
    rw [Bool.and_eq_true] at q
    obtain ⟨q1, q2⟩ := xk_of q.1
    cases h3
    exact xm_cald h q1 q2 (xvi_of q.2) (kk _ h1 h2)
  · cases h3
theorem xb_zald {a : Nat} {i : Int32} {K : Int32 → Option ρ} (h : decode J.2.2.1 pc = .ok (.baload, 1)) (hf : (aI σ a 15 i).bind K = some r) (kk : ∀ x, aI σ a 15 i = some x → K x = some r → xMach G π J d C Z (pc + 1) L (.int x :: S) σ Q) : xMach G π J d C Z pc L (.int i :: .ref a :: S) σ Q := by
  obtain ⟨v, h1, h2⟩ := xbind hf
  have h3 := h1
  unfold aI at h3
  split at h3
  · next q =>
    rw [Bool.and_eq_true] at q
    obtain ⟨q1, q2⟩ := xk_of q.1
    cases h3
    exact xm_zald h q1 q2 (xvi_of q.2) (kk _ h1 h2)
  · cases h3
theorem xb_iast {a : Nat} {i v : Int32} {K : xM → Option ρ} (h : decode J.2.2.1 pc = .ok (.iastore, 1)) (hf : (wI σ a i v).bind K = some r) (kk : ∀ τ, wI σ a i v = some τ → K τ = some r → xMach G π J d C Z (pc + 1) L S τ Q) : xMach G π J d C Z pc L (.int v :: .int i :: .ref a :: S) σ Q := by
  obtain ⟨τ, h1, h2⟩ := xbind hf
  have h3 := h1
  unfold wI at h3
  split at h3
  · next q =>
    rw [Bool.and_eq_true] at q
    obtain ⟨q1, q2⟩ := xk_of q.1
    cases h3
    exact xm_iast h q1 q2 (xvi_of q.2) (kk _ h1 h2)
  · cases h3
theorem xb_cast {a : Nat} {i v : Int32} {K : xM → Option ρ} (h : decode J.2.2.1 pc = .ok (.castore, 1)) (hf : (wC σ a i v).bind K = some r) (kk : ∀ τ, wC σ a i v = some τ → K τ = some r → xMach G π J d C Z (pc + 1) L S τ Q) : xMach G π J d C Z pc L (.int v :: .int i :: .ref a :: S) σ Q := by
  obtain ⟨τ, h1, h2⟩ := xbind hf
  have h3 := h1
  unfold wC at h3
  split at h3
  · next q =>
    rw [Bool.and_eq_true] at q
    obtain ⟨q1, q2⟩ := xk_of q.1
    cases h3
    exact xm_cast h q1 q2 (xvi_of q.2) (kk _ h1 h2)
  · cases h3
theorem xb_zast {a : Nat} {i v : Int32} {K : xM → Option ρ} (h : decode J.2.2.1 pc = .ok (.bastore, 1)) (hf : (wZ σ a i v).bind K = some r) (kk : ∀ τ, wZ σ a i v = some τ → K τ = some r → xMach G π J d C Z (pc + 1) L S τ Q) : xMach G π J d C Z pc L (.int v :: .int i :: .ref a :: S) σ Q := by
  obtain ⟨τ, h1, h2⟩ := xbind hf
  have h3 := h1
  unfold wZ at h3
  split at h3
  · next q =>
    rw [Bool.and_eq_true, Bool.and_eq_true, Bool.or_eq_true, beq_iff_eq, beq_iff_eq] at q
    obtain ⟨q1, q2⟩ := xk_of q.1.1
    cases h3
    have e : vp_nar .boolean v = v := by rcases q.2 with rfl | rfl <;> rfl
    refine xm_zast h q1 q2 (xvi_of q.1.2) ?_
    rw [e]
    exact kk _ h1 h2
  · cases h3


theorem xb_aald {a kd : Nat} {i : Int32} {K : Option Nat → Option ρ} (h : decode J.2.2.1 pc = .ok (.aaload, 1)) (hkd : kd = 16 ∨ kd = 17 ∨ kd = 18) (hf : (aR σ a kd i).bind K = some r) (kk : ∀ x, aR σ a kd i = some x → K x = some r → xMach G π J d C Z (pc + 1) L (va_rf x :: S) σ Q) : xMach G π J d C Z pc L (.int i :: .ref a :: S) σ Q := by
  obtain ⟨v, h1, h2⟩ := xbind hf
  have h3 := h1
  unfold aR at h3
  split at h3
  · next q =>
    rw [Bool.and_eq_true] at q
    obtain ⟨q1, q2⟩ := xk_of q.1
    cases h3
    rcases hkd with rfl | rfl | rfl
    · exact xm_aald h q1 q2 (Or.inl rfl) (xvi_of q.2) (kk _ h1 h2)
    · exact xm_aald h q1 q2 (Or.inr rfl) (xvi_of q.2) (kk _ h1 h2)
    · exact xm_aald2 h q1 q2 (xvi_of q.2) (kk _ h1 h2)
  · cases h3
/-- a row's place that is no null -/
theorem xb_aaldS {a kd : Nat} {i : Int32} {K : Nat → Option ρ} (h : decode J.2.2.1 pc = .ok (.aaload, 1)) (hkd : kd = 16 ∨ kd = 17 ∨ kd = 18) (hf : ((aR σ a kd i).bind id).bind K = some r) (kk : ∀ x, (aR σ a kd i).bind id = some x → K x = some r → xMach G π J d C Z (pc + 1) L (.ref x :: S) σ Q) : xMach G π J d C Z pc L (.int i :: .ref a :: S) σ Q := by
  obtain ⟨v, h1, h2⟩ := xbind hf
  have h0 := h1
  obtain ⟨w, h3, h4⟩ := xbind h1
  cases h4
  refine xb_aald (K := fun x => some x) (r := some v) h hkd (by rw [h3]; rfl) (fun x e1 e2 => ?_)
  cases e2
  exact kk v h0 h2
theorem xb_aast {a kd ci v : Nat} {i : Int32} {K : xM → Option ρ} (h : decode J.2.2.1 pc = .ok (.aastore, 1)) (hkd : (kd = 16 ∧ ci = 2) ∨ (kd = 17 ∧ ci = 9)) (hf : (wR σ a kd ci i v).bind K = some r) (kk : ∀ τ, wR σ a kd ci i v = some τ → K τ = some r → xMach G π J d C Z (pc + 1) L S τ Q) : xMach G π J d C Z pc L (.ref v :: .int i :: .ref a :: S) σ Q := by
  obtain ⟨τ, h1, h2⟩ := xbind hf
  have h3 := h1
  unfold wR at h3
  split at h3
  · next q =>
    rw [Bool.and_eq_true, Bool.and_eq_true] at q
    obtain ⟨q1, q2⟩ := xk_of q.1.1
    obtain ⟨q3, q4⟩ := xk_of q.2
    cases h3
    exact xm_aast h q1 q2 hkd (xvi_of q.1.2) q3 q4 (kk _ h1 h2)
  · cases h3
theorem xb_alen {a kd : Nat} {K : Int32 → Option ρ} (h : decode J.2.2.1 pc = .ok (.arraylength, 1)) (h1 : 13 ≤ kd) (h2 : kd < 18) (hf : (gL σ a kd).bind K = some r) (kk : ∀ x, gL σ a kd = some x → K x = some r → xMach G π J d C Z (pc + 1) L (.int x :: S) σ Q) : xMach G π J d C Z pc L (.ref a :: S) σ Q := by
  obtain ⟨v, h3, h4⟩ := xbind hf
  have h5 := h3
  unfold gL at h5
  split at h5
  · next q =>
    obtain ⟨q1, q2⟩ := xk_of q
    cases h5
    exact xm_alen h q1 q2 h1 h2 rfl (kk _ h3 h4)
  · cases h5
theorem xb_if {c : Prop} [Decidable c] {A B : Option ρ} {P : Prop} (hf : (if c then A else B) = some r) (kt : c → A = some r → P) (kf : ¬ c → B = some r → P) : P := by
  by_cases h : c
  · rw [if_pos h] at hf
    exact kt h hf
  · rw [if_neg h] at hf
    exact kf h hf
theorem xb_if_eq {x : Int32} {off : Int} (tgt : Nat) (h : decode J.2.2.1 pc = .ok (.ifCond .eq off, 3)) (ht : (pc : Int) + off = (tgt : Int)) {A B : Option ρ} (hf : (if x = 0 then A else B) = some r) (kt : x = 0 → A = some r → xMach G π J d C Z tgt L S σ Q) (kf : ¬ x = 0 → B = some r → xMach G π J d C Z (pc + 3) L S σ Q) : xMach G π J d C Z pc L (.int x :: S) σ Q :=
  xm_if_eq tgt h ht (fun q => xb_if hf kt (fun q2 _ => absurd q q2)) (fun q => xb_if hf (fun q2 _ => (q q2).elim) kf)
theorem xb_icmp_eq {x y : Int32} {off : Int} (tgt : Nat) (h : decode J.2.2.1 pc = .ok (.if_icmp .eq off, 3)) (ht : (pc : Int) + off = (tgt : Int)) {A B : Option ρ} (hf : (if x = y then A else B) = some r) (kt : x = y → A = some r → xMach G π J d C Z tgt L S σ Q) (kf : ¬ x = y → B = some r → xMach G π J d C Z (pc + 3) L S σ Q) : xMach G π J d C Z pc L (.int y :: .int x :: S) σ Q :=
  xm_icmp_eq tgt h ht (fun q => xb_if hf kt (fun q2 _ => absurd q q2)) (fun q => xb_if hf (fun q2 _ => (q q2).elim) kf)
theorem xb_if_ne {x : Int32} {off : Int} (tgt : Nat) (h : decode J.2.2.1 pc = .ok (.ifCond .ne off, 3)) (ht : (pc : Int) + off = (tgt : Int)) {A B : Option ρ} (hf : (if x = 0 then B else A) = some r) (kt : ¬ x = 0 → A = some r → xMach G π J d C Z tgt L S σ Q) (kf : x = 0 → B = some r → xMach G π J d C Z (pc + 3) L S σ Q) : xMach G π J d C Z pc L (.int x :: S) σ Q :=
  xm_if_ne tgt h ht (fun q => xb_if hf (fun q2 _ => (q q2).elim) kt) (fun q => xb_if hf kf (fun q2 _ => (q2 q).elim))
theorem xb_icmp_ne {x y : Int32} {off : Int} (tgt : Nat) (h : decode J.2.2.1 pc = .ok (.if_icmp .ne off, 3)) (ht : (pc : Int) + off = (tgt : Int)) {A B : Option ρ} (hf : (if x = y then B else A) = some r) (kt : ¬ x = y → A = some r → xMach G π J d C Z tgt L S σ Q) (kf : x = y → B = some r → xMach G π J d C Z (pc + 3) L S σ Q) : xMach G π J d C Z pc L (.int y :: .int x :: S) σ Q :=
  xm_icmp_ne tgt h ht (fun q => xb_if hf (fun q2 _ => (q q2).elim) kt) (fun q => xb_if hf kf (fun q2 _ => (q2 q).elim))
theorem xb_if_lt {x : Int32} {off : Int} (tgt : Nat) (h : decode J.2.2.1 pc = .ok (.ifCond .lt off, 3)) (ht : (pc : Int) + off = (tgt : Int)) {A B : Option ρ} (hf : (if x < 0 then A else B) = some r) (kt : x < 0 → A = some r → xMach G π J d C Z tgt L S σ Q) (kf : ¬ x < 0 → B = some r → xMach G π J d C Z (pc + 3) L S σ Q) : xMach G π J d C Z pc L (.int x :: S) σ Q :=
  xm_if_lt tgt h ht (fun q => xb_if hf kt (fun q2 _ => absurd q q2)) (fun q => xb_if hf (fun q2 _ => (q q2).elim) kf)
theorem xb_icmp_lt {x y : Int32} {off : Int} (tgt : Nat) (h : decode J.2.2.1 pc = .ok (.if_icmp .lt off, 3)) (ht : (pc : Int) + off = (tgt : Int)) {A B : Option ρ} (hf : (if x < y then A else B) = some r) (kt : x < y → A = some r → xMach G π J d C Z tgt L S σ Q) (kf : ¬ x < y → B = some r → xMach G π J d C Z (pc + 3) L S σ Q) : xMach G π J d C Z pc L (.int y :: .int x :: S) σ Q :=
  xm_icmp_lt tgt h ht (fun q => xb_if hf kt (fun q2 _ => absurd q q2)) (fun q => xb_if hf (fun q2 _ => (q q2).elim) kf)
theorem xb_if_ge {x : Int32} {off : Int} (tgt : Nat) (h : decode J.2.2.1 pc = .ok (.ifCond .ge off, 3)) (ht : (pc : Int) + off = (tgt : Int)) {A B : Option ρ} (hf : (if 0 ≤ x then A else B) = some r) (kt : 0 ≤ x → A = some r → xMach G π J d C Z tgt L S σ Q) (kf : ¬ 0 ≤ x → B = some r → xMach G π J d C Z (pc + 3) L S σ Q) : xMach G π J d C Z pc L (.int x :: S) σ Q :=
  xm_if_ge tgt h ht (fun q => xb_if hf kt (fun q2 _ => absurd q q2)) (fun q => xb_if hf (fun q2 _ => (q q2).elim) kf)
theorem xb_icmp_ge {x y : Int32} {off : Int} (tgt : Nat) (h : decode J.2.2.1 pc = .ok (.if_icmp .ge off, 3)) (ht : (pc : Int) + off = (tgt : Int)) {A B : Option ρ} (hf : (if y ≤ x then A else B) = some r) (kt : y ≤ x → A = some r → xMach G π J d C Z tgt L S σ Q) (kf : ¬ y ≤ x → B = some r → xMach G π J d C Z (pc + 3) L S σ Q) : xMach G π J d C Z pc L (.int y :: .int x :: S) σ Q :=
  xm_icmp_ge tgt h ht (fun q => xb_if hf kt (fun q2 _ => absurd q q2)) (fun q => xb_if hf (fun q2 _ => (q q2).elim) kf)
theorem xb_if_gt {x : Int32} {off : Int} (tgt : Nat) (h : decode J.2.2.1 pc = .ok (.ifCond .gt off, 3)) (ht : (pc : Int) + off = (tgt : Int)) {A B : Option ρ} (hf : (if 0 < x then A else B) = some r) (kt : 0 < x → A = some r → xMach G π J d C Z tgt L S σ Q) (kf : ¬ 0 < x → B = some r → xMach G π J d C Z (pc + 3) L S σ Q) : xMach G π J d C Z pc L (.int x :: S) σ Q :=
  xm_if_gt tgt h ht (fun q => xb_if hf kt (fun q2 _ => absurd q q2)) (fun q => xb_if hf (fun q2 _ => (q q2).elim) kf)
theorem xb_icmp_gt {x y : Int32} {off : Int} (tgt : Nat) (h : decode J.2.2.1 pc = .ok (.if_icmp .gt off, 3)) (ht : (pc : Int) + off = (tgt : Int)) {A B : Option ρ} (hf : (if y < x then A else B) = some r) (kt : y < x → A = some r → xMach G π J d C Z tgt L S σ Q) (kf : ¬ y < x → B = some r → xMach G π J d C Z (pc + 3) L S σ Q) : xMach G π J d C Z pc L (.int y :: .int x :: S) σ Q :=
  xm_icmp_gt tgt h ht (fun q => xb_if hf kt (fun q2 _ => absurd q q2)) (fun q => xb_if hf (fun q2 _ => (q q2).elim) kf)
theorem xb_if_le {x : Int32} {off : Int} (tgt : Nat) (h : decode J.2.2.1 pc = .ok (.ifCond .le off, 3)) (ht : (pc : Int) + off = (tgt : Int)) {A B : Option ρ} (hf : (if x ≤ 0 then A else B) = some r) (kt : x ≤ 0 → A = some r → xMach G π J d C Z tgt L S σ Q) (kf : ¬ x ≤ 0 → B = some r → xMach G π J d C Z (pc + 3) L S σ Q) : xMach G π J d C Z pc L (.int x :: S) σ Q :=
  xm_if_le tgt h ht (fun q => xb_if hf kt (fun q2 _ => absurd q q2)) (fun q => xb_if hf (fun q2 _ => (q q2).elim) kf)
theorem xb_icmp_le {x y : Int32} {off : Int} (tgt : Nat) (h : decode J.2.2.1 pc = .ok (.if_icmp .le off, 3)) (ht : (pc : Int) + off = (tgt : Int)) {A B : Option ρ} (hf : (if x ≤ y then A else B) = some r) (kt : x ≤ y → A = some r → xMach G π J d C Z tgt L S σ Q) (kf : ¬ x ≤ y → B = some r → xMach G π J d C Z (pc + 3) L S σ Q) : xMach G π J d C Z pc L (.int y :: .int x :: S) σ Q :=
  xm_icmp_le tgt h ht (fun q => xb_if hf kt (fun q2 _ => absurd q q2)) (fun q => xb_if hf (fun q2 _ => (q q2).elim) kf)
theorem xb_idiv {x y : Int32} {A : Option ρ} (h : decode J.2.2.1 pc = .ok (.idiv, 1)) (hf : (if y = 0 then none else A) = some r) (k : ¬ y = 0 → A = some r → xMach G π J d C Z (pc + 1) L (.int (x / y) :: S) σ Q) : xMach G π J d C Z pc L (.int y :: .int x :: S) σ Q :=
  xb_if hf (fun _ q => nomatch q) (fun q1 q2 => xm_idiv h q1 (k q1 q2))
theorem xb_irem {x y : Int32} {A : Option ρ} (h : decode J.2.2.1 pc = .ok (.irem, 1)) (hf : (if y = 0 then none else A) = some r) (k : ¬ y = 0 → A = some r → xMach G π J d C Z (pc + 1) L (.int (x - x / y * y) :: S) σ Q) : xMach G π J d C Z pc L (.int y :: .int x :: S) σ Q :=
  xb_if hf (fun _ q => nomatch q) (fun q1 q2 => xm_irem h q1 (k q1 q2))
theorem xb_ldiv {x y : Int64} {A : Option ρ} (h : decode J.2.2.1 pc = .ok (.ldiv, 1)) (hf : (if y = 0 then none else A) = some r) (k : ¬ y = 0 → A = some r → xMach G π J d C Z (pc + 1) L (.long (x / y) :: S) σ Q) : xMach G π J d C Z pc L (.long y :: .long x :: S) σ Q :=
  xb_if hf (fun _ q => nomatch q) (fun q1 q2 => xm_ldiv h q1 (k q1 q2))
theorem xb_lrem {x y : Int64} {A : Option ρ} (h : decode J.2.2.1 pc = .ok (.lrem, 1)) (hf : (if y = 0 then none else A) = some r) (k : ¬ y = 0 → A = some r → xMach G π J d C Z (pc + 1) L (.long (x - x / y * y) :: S) σ Q) : xMach G π J d C Z pc L (.long y :: .long x :: S) σ Q :=
  xb_if hf (fun _ q => nomatch q) (fun q1 q2 => xm_lrem h q1 (k q1 q2))
theorem xm_stL {L' : List (Nat × Value)} (e : L = L') (k : xMach G π J d C Z pc L' S σ Q) : xMach G π J d C Z pc L S σ Q := e ▸ k
def xlet {α : Type} {β : Type} (x : α) (K : α → β) : β := K x
theorem xb_topi {x : Int32} {K : Int32 → Option ρ} (hf : xlet x K = some r) (kk : ∀ v, v = x → K v = some r → xMach G π J d C Z pc L (.int v :: S) σ Q) : xMach G π J d C Z pc L (.int x :: S) σ Q := kk x rfl hf
theorem xb_topl {x : Int64} {K : Int64 → Option ρ} (hf : xlet x K = some r) (kk : ∀ v, v = x → K v = some r → xMach G π J d C Z pc L (.long v :: S) σ Q) : xMach G π J d C Z pc L (.long x :: S) σ Q := kk x rfl hf
theorem xb_iinc {i : Nat} {n : Int} {x y : Int32} {K : Int32 → Option ρ} (h : decode J.2.2.1 pc = .ok (.iinc i n, 3)) (hx : xget i L = some (.int x)) (hn : i < J.2.2.2.1) (hy : Int32.ofInt n = y) (hf : xlet (x + y) K = some r) (kk : ∀ v, v = x + y → K v = some r → xMach G π J d C Z (pc + 3) (xput i (.int v) L) S σ Q) : xMach G π J d C Z pc L S σ Q :=
  xm_iinc h hx (by rw [hy]) hn (kk _ rfl hf)
theorem xm_aloadQ {i : Nat} {t : Option Nat} (h : decode J.2.2.1 pc = .ok (.aload i, 2)) (hx : xget i L = some (va_rf t)) (k : xMach G π J d C Z (pc + 2) L (va_rf t :: S) σ Q) : xMach G π J d C Z pc L S σ Q := by
  cases t with
  | none => exact xm_aloadN h hx k
  | some a => exact xm_aload h hx k
theorem xm_aloadQ_n {i : Fin 4} {t : Option Nat} (h : decode J.2.2.1 pc = .ok (.aload_n i, 1)) (hx : xget (i : Nat) L = some (va_rf t)) (k : xMach G π J d C Z (pc + 1) L (va_rf t :: S) σ Q) : xMach G π J d C Z pc L S σ Q := by
  cases t with
  | none => exact xm_aload_nN h hx k
  | some a => exact xm_aload_n h hx k
theorem xm_astoreQ {i : Nat} {t : Option Nat} (h : decode J.2.2.1 pc = .ok (.astore i, 2)) (hn : i < J.2.2.2.1) (k : xMach G π J d C Z (pc + 2) (xput i (va_rf t) L) S σ Q) : xMach G π J d C Z pc L (va_rf t :: S) σ Q := by
  cases t with
  | none => exact xm_astoreN h hn k
  | some a => exact xm_astore h hn k
theorem xm_astoreQ_n {i : Fin 4} {t : Option Nat} (h : decode J.2.2.1 pc = .ok (.astore_n i, 1)) (hn : (i : Nat) < J.2.2.2.1) (k : xMach G π J d C Z (pc + 1) (xput (i : Nat) (va_rf t) L) S σ Q) : xMach G π J d C Z pc L (va_rf t :: S) σ Q := by
  cases t with
  | none => exact xm_astore_nN h hn k
  | some a => exact xm_astore_n h hn k
theorem xb_ifnullQ {t : Option Nat} {off : Int} {A : Option ρ} {B : Nat → Option ρ} (tgt : Nat) (h : decode J.2.2.1 pc = .ok (.ifnull off, 3)) (ht : (pc : Int) + off = (tgt : Int)) (hf : Option.elim t A B = some r) (kt : t = none → A = some r → xMach G π J d C Z tgt L S σ Q) (kf : ∀ a, t = some a → B a = some r → xMach G π J d C Z (pc + 3) L S σ Q) : xMach G π J d C Z pc L (va_rf t :: S) σ Q := by
  cases t with
  | none => exact xm_ifnullN tgt h ht (kt rfl hf)
  | some a => exact xm_ifnull h (kf a rfl hf)
theorem xb_ifnonnullQ {t : Option Nat} {off : Int} {A : Option ρ} {B : Nat → Option ρ} (tgt : Nat) (h : decode J.2.2.1 pc = .ok (.ifnonnull off, 3)) (ht : (pc : Int) + off = (tgt : Int)) (hf : Option.elim t A B = some r) (kf : t = none → A = some r → xMach G π J d C Z (pc + 3) L S σ Q) (kt : ∀ a, t = some a → B a = some r → xMach G π J d C Z tgt L S σ Q) : xMach G π J d C Z pc L (va_rf t :: S) σ Q := by
  cases t with
  | none => exact xm_ifnonnullN h (kf rfl hf)
  | some a => exact xm_ifnonnull tgt h ht (kt a rfl hf)
def xz (v : Int32) : Option Int32 := if (v == 0 || v == 1) = true then some v else none
theorem xz_of {v b : Int32} (h : xz v = some b) : v = b ∧ narrow .boolean (.int v) = .int v := by
  unfold xz at h
  split at h
  · next q =>
    cases h
    rw [Bool.or_eq_true, beq_iff_eq, beq_iff_eq] at q
    refine ⟨rfl, ?_⟩
    rcases q with rfl | rfl <;> rfl
  · cases h
theorem xb_throwS {ik is ic : Nat} {cls text : String} (d0 : decode J.2.2.1 pc = .ok (.new ik, 3)) (d3 : decode J.2.2.1 (pc + 3) = .ok (.dup, 1)) (d4 : decode J.2.2.1 (pc + 4) = .ok (.ldc is, 2)) (d6 : decode J.2.2.1 (pc + 6) = .ok (.invokespecial ic, 3)) (d9 : decode J.2.2.1 (pc + 9) = .ok (.athrow, 1))
    (hw : xThr J.1 ik ic cls) (hs : (J.1, is, text) ∈ xstr) (hd : 7 ≤ d) (hS : (S.map fun v => v.category).sum ≤ 8) (hb : 1 ≤ C ∧ 6 ≤ Z) (hq : Q (.inr cls) σ π) (hTb : xTb J = [] := by decide) : xMach G π J d C Z pc L S σ Q := by
  obtain ⟨C', rfl⟩ : ∃ C', C = 1 + C' := ⟨C - 1, by omega⟩
  obtain ⟨Z', rfl⟩ : ∃ Z', Z = 6 + Z' := ⟨Z - 6, by omega⟩
  exact xm_throwS (hTb := hTb) d0 d3 d4 d6 d9 hw hs hd hS hq
theorem xb_throwSW {ik is ic : Nat} {cls text : String} (d0 : decode J.2.2.1 pc = .ok (.new ik, 3)) (d3 : decode J.2.2.1 (pc + 3) = .ok (.dup, 1)) (d4 : decode J.2.2.1 (pc + 4) = .ok (.ldc_w is, 3)) (d6 : decode J.2.2.1 (pc + 7) = .ok (.invokespecial ic, 3)) (d9 : decode J.2.2.1 (pc + 10) = .ok (.athrow, 1))
    (hw : xThr J.1 ik ic cls) (hs : (J.1, is, text) ∈ xstr) (hd : 7 ≤ d) (hS : (S.map fun v => v.category).sum ≤ 8) (hb : 1 ≤ C ∧ 6 ≤ Z) (hq : Q (.inr cls) σ π) (hTb : xTb J = [] := by decide) : xMach G π J d C Z pc L S σ Q := by
  obtain ⟨C', rfl⟩ : ∃ C', C = 1 + C' := ⟨C - 1, by omega⟩
  obtain ⟨Z', rfl⟩ : ∃ Z', Z = 6 + Z' := ⟨Z - 6, by omega⟩
  exact xm_throwSW (hTb := hTb) d0 d3 d4 d6 d9 hw hs hd hS hq
def wQ (σ : xM) (a kd ci : Nat) (i : Int32) (v : Option Nat) : Option xM := Option.elim v (wN σ a kd i) (fun b => wR σ a kd ci i b)
theorem xb_aastQ {a kd ci : Nat} {t : Option Nat} {i : Int32} {K : xM → Option ρ} (h : decode J.2.2.1 pc = .ok (.aastore, 1)) (hkd : (kd = 16 ∧ ci = 2) ∨ (kd = 17 ∧ ci = 9)) (hf : (wQ σ a kd ci i t).bind K = some r) (kk : ∀ τ, wQ σ a kd ci i t = some τ → K τ = some r → xMach G π J d C Z (pc + 1) L S τ Q) : xMach G π J d C Z pc L (va_rf t :: .int i :: .ref a :: S) σ Q := by
  cases t with
  | some b => exact xb_aast h hkd hf kk
  | none =>
    obtain ⟨τ, h1, h2⟩ := xbind hf
    have h3 : wN σ a kd i = some τ := h1
    unfold wN at h3
    split at h3
    · next q =>
      rw [Bool.and_eq_true] at q
      obtain ⟨q1, q2⟩ := xk_of q.1
      cases h3
      exact xm_aastN h q1 q2 hkd (xvi_of q.2) (kk _ h1 h2)
    · cases h3
def xF : Nat := 4294967296
theorem xm_ldcw {idx : Nat} {v : Int32} (h : decode J.2.2.1 pc = .ok (.ldc_w idx, 3)) (hw : Cond.constant J.1 idx v ∈ xTB) (k : xMach G π J d C Z (pc + 3) L (.int v :: S) σ Q) : xMach G π J d C Z pc L S σ Q :=
  fun p e s m args below meth c H locs cells slots mc ms ls a1 a2 a3 a4 a5 a6 => lv_ldcw a1.1 a1.2.1 a1.2.2.2.2.1 (a1.2.2.2.2.2.1 _ hw) h (k p e s m args below meth c H locs cells slots mc ms ls a1 a2 a3 a4 a5 a6)
/-! calls with one answer -/
theorem xb_callV {J' : xJ} {idx n b ci N : Nat} {T : u_T} {As St : List Value} {v0 : Option Value} {τ0 : xM} (h : decode J.2.2.1 pc = .ok (.invokevirtual idx, 3)) (hc : xCal J J' d n) (hx : xCl ci J'.2.1.cls T N) (hw1 : Cond.methodLink J.1 idx J'.2.1 ∈ xTB) (hw2 : Cond.instanceMethod J'.2.1 ∈ xTB) (hw3 : Cond.selects J'.2.1.cls J'.2.1 J'.2.1 ∈ xTB)
    (hb : xk σ b ci = true) (hn : As.length = n) (hlen : (lg_sl (.ref b :: As)).length ≤ J'.2.2.2.1) (hst : St = As.reverse ++ .ref b :: S) (hS : (S.map fun v => v.category).sum ≤ 8)
    (kc : ∀ Q1 : xQ, Q1 (.inl v0) τ0 π → xMach G π J' d 0 0 0 (lv_args 0 (.ref b :: As)) [] σ Q1)
    (kk : xMach G π J (d + 1) C Z (pc + 3) L (v0.toList ++ S) τ0 Q) (hTb : xTb J = [] := by decide) (hTb' : xTb J' = [] := by decide) : xMach G π J (d + 1) C Z pc L St σ Q := by
  subst hst
  obtain ⟨q1, q2⟩ := xk_of hb
  have := xm_callV (hTb := hTb) (hTb' := hTb') (C9 := C) (Z := Z) (L := L) (Q := Q) h hc hx hw1 hw2 hw3 q1 q2 hn hlen hS (kc (fun o τ π' => o = .inl v0 ∧ τ = τ0 ∧ π' = π) ⟨rfl, rfl, rfl⟩) (fun E τ π' q => nomatch q.1) (fun v τ π' q => by obtain ⟨e1, e2, e3⟩ := q; cases e1; rw [e2, e3]; exact ⟨rfl, rfl, kk⟩)
  rwa [Nat.zero_add, Nat.zero_add] at this
theorem xb_callS {J' : xJ} {idx n : Nat} {As St : List Value} {v0 : Option Value} {τ0 : xM} (h : decode J.2.2.1 pc = .ok (.invokestatic idx, 3)) (hc : xCal J J' d n) (hw1 : Cond.methodLink J.1 idx J'.2.1 ∈ xTB) (hw2 : Cond.static J'.2.1 ∈ xTB)
    (hn : As.length = n) (hlen : (lg_sl As).length ≤ J'.2.2.2.1) (hst : St = As.reverse ++ S) (hS : (S.map fun v => v.category).sum ≤ 8)
    (kc : ∀ Q1 : xQ, Q1 (.inl v0) τ0 π → xMach G π J' d 0 0 0 (lv_args 0 As) [] σ Q1)
    (kk : xMach G π J (d + 1) C Z (pc + 3) L (v0.toList ++ S) τ0 Q) (hTb : xTb J = [] := by decide) (hTb' : xTb J' = [] := by decide) : xMach G π J (d + 1) C Z pc L St σ Q := by
  subst hst
  have := xm_callS (hTb := hTb) (hTb' := hTb') (C9 := C) (Z := Z) (L := L) (Q := Q) h hc hw1 hw2 hn hlen hS (kc (fun o τ π' => o = .inl v0 ∧ τ = τ0 ∧ π' = π) ⟨rfl, rfl, rfl⟩) (fun E τ π' q => nomatch q.1) (fun v τ π' q => by obtain ⟨e1, e2, e3⟩ := q; cases e1; rw [e2, e3]; exact ⟨rfl, rfl, kk⟩)
  rwa [Nat.zero_add, Nat.zero_add] at this
/-- a call that throws -/
theorem xb_callVX {J' : xJ} {idx n b ci N : Nat} {T : u_T} {As St : List Value} {E : String} {τ0 : xM} (h : decode J.2.2.1 pc = .ok (.invokevirtual idx, 3)) (hc : xCal J J' d n) (hx : xCl ci J'.2.1.cls T N) (hw1 : Cond.methodLink J.1 idx J'.2.1 ∈ xTB) (hw2 : Cond.instanceMethod J'.2.1 ∈ xTB) (hw3 : Cond.selects J'.2.1.cls J'.2.1 J'.2.1 ∈ xTB)
    (hb : xk σ b ci = true) (hn : As.length = n) (hlen : (lg_sl (.ref b :: As)).length ≤ J'.2.2.2.1) (hst : St = As.reverse ++ .ref b :: S) (hS : (S.map fun v => v.category).sum ≤ 8)
    (kc : ∀ Q1 : xQ, Q1 (.inr E) τ0 π → xMach G π J' d 1 6 0 (lv_args 0 (.ref b :: As)) [] σ Q1) (hB : 1 ≤ C ∧ 6 ≤ Z) (hq : Q (.inr E) τ0 π) (hTb : xTb J = [] := by decide) (hTb' : xTb J' = [] := by decide) : xMach G π J (d + 1) C Z pc L St σ Q := by
  obtain ⟨C', rfl⟩ : ∃ C', C = 1 + C' := ⟨C - 1, by omega⟩
  obtain ⟨Z', rfl⟩ : ∃ Z', Z = 6 + Z' := ⟨Z - 6, by omega⟩
  subst hst
  obtain ⟨q1, q2⟩ := xk_of hb
  exact xm_callV (hTb := hTb) (hTb' := hTb') (C9 := C') (Z := Z') (L := L) (Q := Q) h hc hx hw1 hw2 hw3 q1 q2 hn hlen hS (kc (fun o τ π' => o = .inr E ∧ τ = τ0 ∧ π' = π) ⟨rfl, rfl, rfl⟩) (fun E' τ π' q => by obtain ⟨e1, e2, e3⟩ := q; cases e1; rw [e2, e3]; exact hq) (fun v τ π' q => nomatch q.1)
theorem xb_callSX {J' : xJ} {idx n : Nat} {As St : List Value} {E : String} {τ0 : xM} (h : decode J.2.2.1 pc = .ok (.invokestatic idx, 3)) (hc : xCal J J' d n) (hw1 : Cond.methodLink J.1 idx J'.2.1 ∈ xTB) (hw2 : Cond.static J'.2.1 ∈ xTB)
    (hn : As.length = n) (hlen : (lg_sl As).length ≤ J'.2.2.2.1) (hst : St = As.reverse ++ S) (hS : (S.map fun v => v.category).sum ≤ 8)
    (kc : ∀ Q1 : xQ, Q1 (.inr E) τ0 π → xMach G π J' d 1 6 0 (lv_args 0 As) [] σ Q1) (hB : 1 ≤ C ∧ 6 ≤ Z) (hq : Q (.inr E) τ0 π) (hTb : xTb J = [] := by decide) (hTb' : xTb J' = [] := by decide) : xMach G π J (d + 1) C Z pc L St σ Q := by
  obtain ⟨C', rfl⟩ : ∃ C', C = 1 + C' := ⟨C - 1, by omega⟩
  obtain ⟨Z', rfl⟩ : ∃ Z', Z = 6 + Z' := ⟨Z - 6, by omega⟩
  subst hst
  exact xm_callS (hTb := hTb) (hTb' := hTb') (C9 := C') (Z := Z') (L := L) (Q := Q) h hc hw1 hw2 hn hlen hS (kc (fun o τ π' => o = .inr E ∧ τ = τ0 ∧ π' = π) ⟨rfl, rfl, rfl⟩) (fun E' τ π' q => by obtain ⟨e1, e2, e3⟩ := q; cases e1; rw [e2, e3]; exact hq) (fun v τ π' q => nomatch q.1)
end XB
/-! loops: a step goes on with a state, comes out with a state, or answers -/
def xloop {α β γ : Type} (step : α → Option (γ ⊕ (β ⊕ α))) : Nat → α → Option (γ ⊕ β)
  | 0, _ => none
  | n + 1, s => match step s with
    | none => none
    | some (.inl r) => some (.inl r)
    | some (.inr (.inl e)) => some (.inr e)
    | some (.inr (.inr s')) => xloop step n s'
theorem xloop_run {α β γ : Type} {step : α → Option (γ ⊕ (β ⊕ α))} {M : α → Prop} {r : γ ⊕ β}
    (hs : ∀ s x, step s = some x → (match x with | .inl g => r = .inl g | .inr (.inl e) => r = .inr e | .inr (.inr s') => M s') → M s) : ∀ (n : Nat) (s : α), xloop step n s = some r → M s := by
  intro n
  induction n with
  | zero => intro s h; cases h
  | succ n ih =>
    intro s h
    unfold xloop at h
    split at h
    · cases h
    · next g hg => cases h; exact hs s _ hg rfl
    · next e he => cases h; exact hs s _ he rfl
    · next s' hs' => exact hs s _ hs' (ih s' h)

