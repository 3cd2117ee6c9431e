/-! CONSTRUCTORS: rules that make things, in bind form -/
/-- the references of a list -/
def xrf : List Value → List Nat
  | [] => []
  | .ref a :: l => a :: xrf l
  | _ :: l => xrf l
theorem xrf_fr {n : Nat} : ∀ {l : List Value}, (xrf l).all (fun a => decide (a < n) || a == xkX) = true → xfr n l = true
  | [], _ => rfl
  | v :: l, h => by
    cases v <;> first
      | exact xrf_fr (l := l) h
      | (have h' := h
         unfold xrf at h'
         rw [List.all_cons, Bool.and_eq_true] at h'
         unfold xfr
         rw [List.all_cons, Bool.and_eq_true]
         exact ⟨h'.1, xrf_fr (l := l) h'.2⟩)
theorem xrf_app : ∀ {l m : List Value}, xrf (l ++ m) = xrf l ++ xrf m
  | [], _ => rfl
  | v :: l, m => by
    cases v <;> first
      | exact xrf_app (l := l)
      | exact congrArg (List.cons _) (xrf_app (l := l))
def xRs (σ : xM) (rs : List Nat) : Bool := rs.all (fun a => decide (a < σ.1) || a == xkX)
theorem xRs_of {σ : xM} {rs : List Nat} {S : List Value} {L : List (Nat × Value)} (hrs : xrf S ++ xrf (L.map Prod.snd) = rs) (h : xRs σ rs = true) : xfr σ.1 S = true ∧ xfr σ.1 (L.map Prod.snd) = true := by
  subst hrs
  unfold xRs at h
  rw [List.all_append, Bool.and_eq_true] at h
  exact ⟨xrf_fr h.1, xrf_fr h.2⟩
def nwO (σ : xM) (c : Nat) (rs : List Nat) : Option xM := if (xRs σ rs && decide (σ.1 < xkS)) = true then some (xnew σ c 0) else none
def nwA (σ : xM) (kd : Nat) (n : Int32) (w : Nat) (rs : List Nat) : Option xM := if (xRs σ rs && decide (σ.1 < xkS) && decide (¬ n < 0) && decide (n.toNatClampNeg * w ≤ 536870912)) = true then some (xnew σ kd n.toNatClampNeg) else none
def cdo (σ τ : xM) (rs : List Nat) : Option xM := if (xRs σ rs && decide (σ.1 ≤ τ.1)) = true then some τ else none
def sR (σ : xM) (a c k v : Nat) : Option xM := if (xk σ a c && decide (v < σ.1)) = true then some (xsR σ a k (some v)) else none
theorem cdo_of {σ τ σ1 : xM} {rs : List Nat} (h : cdo σ τ rs = some σ1) : σ1 = τ ∧ σ.1 ≤ τ.1 ∧ xRs σ rs = true := by
  unfold cdo at h
  split at h
  · next q =>
    rw [Bool.and_eq_true, decide_eq_true_eq] at q
    cases h
    exact ⟨rfl, q.2, q.1⟩
  · cases h
theorem sR_n {σ τ : xM} {a c k v : Nat} (h : sR σ a c k v = some τ) : τ.1 = σ.1 := by
  unfold sR at h
  split at h
  · cases h; rfl
  · cases h
theorem sI_n {σ τ : xM} {a c k : Nat} {v : Int32} (h : sI σ a c k v = some τ) : τ.1 = σ.1 := by
  unfold sI at h
  split at h
  · cases h; rfl
  · cases h
theorem sZ_n {σ τ : xM} {a c k : Nat} {v : Int32} (h : sZ σ a c k v = some τ) : τ.1 = σ.1 := by
  unfold sZ at h
  split at h
  · cases h; rfl
  · cases h
theorem wR_n {σ τ : xM} {a kd ci v : Nat} {i : Int32} (h : wR σ a kd ci i v = some τ) : τ.1 = σ.1 := by
  unfold wR at h
  split at h
  · cases h; rfl
  · cases h
theorem wI_n {σ τ : xM} {a : Nat} {i v : Int32} (h : wI σ a i v = some τ) : τ.1 = σ.1 := by
  unfold wI at h
  split at h
  · cases h; rfl
  · cases h
theorem wJ_n {σ τ : xM} {a : Nat} {i : Int32} {v : Int64} (h : wJ σ a i v = some τ) : τ.1 = σ.1 := by
  unfold wJ at h
  split at h
  · cases h; rfl
  · cases h
/-- what is asked at a constructor's end -/
def xPost (n0 : Nat) (π : Nat → Nat) (τ : xM) (Q : xQ) : Prop := ∀ π', xag n0 π π' → Q (.inl none) τ π'
theorem xPost.tr {n0 n1 : Nat} {π π1 : Nat → Nat} {τ : xM} {Q : xQ} (h : xPost n0 π τ Q) (hn : n0 ≤ n1) (ha : xag n1 π π1) : xPost n0 π1 τ Q := fun π' h' => h π' ⟨fun r hr => (h'.1 r hr).trans (ha.1 r (by omega)), h'.2.trans ha.2⟩
section XC
variable {G : xG} {π : Nat → Nat} {J : xJ} {d C C1 C9 Z Z1 Z9 pc n0 : Nat} {L : List (Nat × Value)} {S : List Value} {σ τ : xM} {Q : xQ} {ρ : Type} {r : ρ} {K : xM → Option ρ} {rs : List Nat}
theorem xm_wk (h1 : C9 ≤ C) (h2 : Z9 ≤ Z) (k : xMach G π J d C9 Z9 pc L S σ Q) : xMach G π J d C Z pc L S σ Q :=
  fun p e s m args below meth c0 H locs cells slots mc ms ls a1 a2 a3 a4 a5 a6 => k p e s m args below meth c0 H locs cells slots mc ms ls a1 a2 a3 a4 (by omega) (by omega)
theorem xb_new {c idx N : Nat} {CN : String} {T : u_T} (h : decode J.2.2.1 pc = .ok (.new idx, 3)) (hx : xCl c CN T N) (hw1 : Cond.classLink J.1 idx CN ∈ xTB) (hw2 : Cond.instantiable CN N ∈ xTB) (hw3 : Cond.initialized CN ∈ xTB) (hd : ∀ j, j < N → defaultValue (xtyp c j) = if xisr (xtyp c j) = true then .null else .int 0)
    (hC : C = 1 + C9) (hZ : Z = N + Z9) (hrs : xrf S ++ xrf (L.map Prod.snd) = rs) (hn : n0 ≤ σ.1) (hP : xPost n0 π τ Q) (hf : (nwO σ c rs).bind K = some r)
    (kk : ∀ (σ1 : xM) (π1 : Nat → Nat), K σ1 = some r → n0 ≤ σ1.1 → xPost n0 π1 τ Q → xMach G π1 J d C9 Z9 (pc + 3) L (.ref σ.1 :: S) σ1 Q) : xMach G π J d C Z pc L S σ Q := by
  subst hC hZ
  obtain ⟨σ1, e1, e2⟩ := xbind hf
  unfold nwO at e1
  split at e1
  · next q =>
    rw [Bool.and_eq_true, decide_eq_true_eq] at q
    cases e1
    obtain ⟨f1, f2⟩ := xRs_of hrs q.1
    exact xm_new h hx hw1 hw2 hw3 hd q.2 f1 f2 (fun a => kk _ _ e2 (Nat.le_succ_of_le hn) (hP.tr hn (xag_up (Nat.le_refl _) q.2)))
  · cases e1
theorem nwA_of {kd w : Nat} {n : Int32} {σ1 : xM} (h : nwA σ kd n w rs = some σ1) : xRs σ rs = true ∧ σ.1 < xkS ∧ ¬ n < 0 ∧ n.toNatClampNeg * w ≤ 536870912 ∧ σ1 = xnew σ kd n.toNatClampNeg := by
  unfold nwA at h
  split at h
  · next q =>
    simp only [Bool.and_eq_true, decide_eq_true_eq] at q
    cases h
    exact ⟨q.1.1.1, q.1.1.2, q.1.2, q.2, rfl⟩
  · cases h
theorem xb_newaI {n : Int32} {N : Nat} (h : decode J.2.2.1 pc = .ok (.newarray .int, 2)) (hw : Cond.arrayClass .int ∈ xTB) (hN : n.toNatClampNeg = N) (hC : C = 1 + C9) (hZ : Z = N + Z9) (hrs : xrf S ++ xrf (L.map Prod.snd) = rs) (hn : n0 ≤ σ.1) (hP : xPost n0 π τ Q) (hf : (nwA σ 14 n (componentBytes .int) rs).bind K = some r)
    (kk : ∀ (σ1 : xM) (π1 : Nat → Nat), K σ1 = some r → n0 ≤ σ1.1 → xPost n0 π1 τ Q → xMach G π1 J d C9 Z9 (pc + 2) L (.ref σ.1 :: S) σ1 Q) : xMach G π J d C Z pc L (.int n :: S) σ Q := by
  subst hC hZ hN
  obtain ⟨σ1, e1, e2⟩ := xbind hf
  obtain ⟨q1, q2, q3, q4, rfl⟩ := nwA_of e1
  obtain ⟨f1, f2⟩ := xRs_of hrs q1
  exact xm_newaI h hw q3 rfl q4 q2 f1 f2 (fun a => kk _ _ e2 (Nat.le_succ_of_le hn) (hP.tr hn (xag_up (Nat.le_refl _) q2)))
theorem xb_newaC {n : Int32} {N : Nat} (h : decode J.2.2.1 pc = .ok (.newarray .char, 2)) (hw : Cond.arrayClass .char ∈ xTB) (hN : n.toNatClampNeg = N) (hC : C = 1 + C9) (hZ : Z = N + Z9) (hrs : xrf S ++ xrf (L.map Prod.snd) = rs) (hn : n0 ≤ σ.1) (hP : xPost n0 π τ Q) (hf : (nwA σ 13 n (componentBytes .char) rs).bind K = some r)
    (kk : ∀ (σ1 : xM) (π1 : Nat → Nat), K σ1 = some r → n0 ≤ σ1.1 → xPost n0 π1 τ Q → xMach G π1 J d C9 Z9 (pc + 2) L (.ref σ.1 :: S) σ1 Q) : xMach G π J d C Z pc L (.int n :: S) σ Q := by
  subst hC hZ hN
  obtain ⟨σ1, e1, e2⟩ := xbind hf
  obtain ⟨q1, q2, q3, q4, rfl⟩ := nwA_of e1
  obtain ⟨f1, f2⟩ := xRs_of hrs q1
  exact xm_newaC h hw q3 rfl q4 q2 f1 f2 (fun a => kk _ _ e2 (Nat.le_succ_of_le hn) (hP.tr hn (xag_up (Nat.le_refl _) q2)))
theorem xb_newaZ {n : Int32} {N : Nat} (h : decode J.2.2.1 pc = .ok (.newarray .boolean, 2)) (hw : Cond.arrayClass .boolean ∈ xTB) (hN : n.toNatClampNeg = N) (hC : C = 1 + C9) (hZ : Z = N + Z9) (hrs : xrf S ++ xrf (L.map Prod.snd) = rs) (hn : n0 ≤ σ.1) (hP : xPost n0 π τ Q) (hf : (nwA σ 15 n (componentBytes .boolean) rs).bind K = some r)
    (kk : ∀ (σ1 : xM) (π1 : Nat → Nat), K σ1 = some r → n0 ≤ σ1.1 → xPost n0 π1 τ Q → xMach G π1 J d C9 Z9 (pc + 2) L (.ref σ.1 :: S) σ1 Q) : xMach G π J d C Z pc L (.int n :: S) σ Q := by
  subst hC hZ hN
  obtain ⟨σ1, e1, e2⟩ := xbind hf
  obtain ⟨q1, q2, q3, q4, rfl⟩ := nwA_of e1
  obtain ⟨f1, f2⟩ := xRs_of hrs q1
  exact xm_newaZ h hw q3 rfl q4 q2 f1 f2 (fun a => kk _ _ e2 (Nat.le_succ_of_le hn) (hP.tr hn (xag_up (Nat.le_refl _) q2)))

theorem xb_newqF {idx : Nat} {n : Int32} {N : Nat} (h : decode J.2.2.1 pc = .ok (.anewarray idx, 3)) (hw : Cond.classLink J.1 idx RX2 ∈ xTB) (hN : n.toNatClampNeg = N) (hC : C = 1 + C9) (hZ : Z = N + Z9) (hrs : xrf S ++ xrf (L.map Prod.snd) = rs) (hn : n0 ≤ σ.1) (hP : xPost n0 π τ Q) (hf : (nwA σ 16 n 4 rs).bind K = some r)
    (kk : ∀ (σ1 : xM) (π1 : Nat → Nat), K σ1 = some r → n0 ≤ σ1.1 → xPost n0 π1 τ Q → xMach G π1 J d C9 Z9 (pc + 3) L (.ref σ.1 :: S) σ1 Q) : xMach G π J d C Z pc L (.int n :: S) σ Q := by
  subst hC hZ hN
  obtain ⟨σ1, e1, e2⟩ := xbind hf
  obtain ⟨q1, q2, q3, q4, rfl⟩ := nwA_of e1
  obtain ⟨f1, f2⟩ := xRs_of hrs q1
  exact xm_newqF h hw q3 rfl q4 q2 f1 f2 (fun a => kk _ _ e2 (Nat.le_succ_of_le hn) (hP.tr hn (xag_up (Nat.le_refl _) q2)))
theorem xb_newqT {idx : Nat} {n : Int32} {N : Nat} (h : decode J.2.2.1 pc = .ok (.anewarray idx, 3)) (hw : Cond.classLink J.1 idx RX9 ∈ xTB) (hN : n.toNatClampNeg = N) (hC : C = 1 + C9) (hZ : Z = N + Z9) (hrs : xrf S ++ xrf (L.map Prod.snd) = rs) (hn : n0 ≤ σ.1) (hP : xPost n0 π τ Q) (hf : (nwA σ 17 n 4 rs).bind K = some r)
    (kk : ∀ (σ1 : xM) (π1 : Nat → Nat), K σ1 = some r → n0 ≤ σ1.1 → xPost n0 π1 τ Q → xMach G π1 J d C9 Z9 (pc + 3) L (.ref σ.1 :: S) σ1 Q) : xMach G π J d C Z pc L (.int n :: S) σ Q := by
  subst hC hZ hN
  obtain ⟨σ1, e1, e2⟩ := xbind hf
  obtain ⟨q1, q2, q3, q4, rfl⟩ := nwA_of e1
  obtain ⟨f1, f2⟩ := xRs_of hrs q1
  exact xm_newqT h hw q3 rfl q4 q2 f1 f2 (fun a => kk _ _ e2 (Nat.le_succ_of_le hn) (hP.tr hn (xag_up (Nat.le_refl _) q2)))
theorem xb_putRc {a c k v idx N : Nat} {CN : String} {T : u_T} (h : decode J.2.2.1 pc = .ok (.putfield idx, 3)) (hx : xCl c CN T N) (hk : k < N) (hw : Cond.fieldLink J.1 idx (T k).1 (T k).2.1 (T k).2.2.1 ∈ xTB) (hfin : (T k).2.2.2 = true) (hin : J.2.1.name = "<init>") (hdecl : (T k).1 = J.1) (hnn : ∀ z : Option Nat, narrow (xtyp c k) (va_rf z) = va_rf z) (hfit : ∀ z : Option Nat, fits (xtyp c k) (va_rf z) = true) (hr : xisr (xtyp c k) = true) (hn : n0 ≤ σ.1) (hf : (sR σ a c k v).bind K = some r)
    (kk : ∀ σ1, K σ1 = some r → n0 ≤ σ1.1 → xMach G π J d C Z (pc + 3) L S σ1 Q) : xMach G π J d C Z pc L (.ref v :: .ref a :: S) σ Q := by
  obtain ⟨σ1, e1, e2⟩ := xbind hf
  have e0 := sR_n e1
  unfold sR at e1
  split at e1
  · next q =>
    rw [Bool.and_eq_true, decide_eq_true_eq] at q
    obtain ⟨q1, q2⟩ := xk_of q.1
    cases e1
    exact xm_putR (v := some v) rfl h hx hk hw hfin hin hdecl hnn hfit hr q1 q2 (fun r hr => by cases hr; exact q.2) (kk _ e2 (by rw [e0]; exact hn))
  · cases e1
theorem xb_ctor {J' : xJ} {idx n b : Nat} {As St : List Value} {τ1 : xM} (h : decode J.2.2.1 pc = .ok (.invokespecial idx, 3)) (hc : xCal J J' d n) (hret : J'.2.2.2.2 = none) (hinit : J'.2.1.name = "<init>") (hw1 : Cond.methodLink J.1 idx J'.2.1 ∈ xTB) (hw2 : Cond.instanceMethod J'.2.1 ∈ xTB)
    (hnA : As.length = n) (hlen : (lg_sl (.ref b :: As)).length ≤ J'.2.2.2.1) (hst : St = As.reverse ++ .ref b :: S) (hS : (S.map fun v => v.category).sum ≤ 8)
    (kc : ∀ Q1 : xQ, xPost σ.1 π τ1 Q1 → xMach G π J' d C1 Z1 0 (lv_args 0 (.ref b :: As)) [] σ Q1) (hC : C = C1 + C9) (hZ : Z = Z1 + Z9) (hrs : xrf S ++ xrf (L.map Prod.snd) = rs) (hn : n0 ≤ σ.1) (hP : xPost n0 π τ Q) (hf : (cdo σ τ1 rs).bind K = some r)
    (kk : ∀ (σ1 : xM) (π1 : Nat → Nat), K σ1 = some r → n0 ≤ σ1.1 → xPost n0 π1 τ Q → xMach G π1 J (d + 1) C9 Z9 (pc + 3) L S σ1 Q) (hTb : xTb J = [] := by decide) (hTb' : xTb J' = [] := by decide) : xMach G π J (d + 1) C Z pc L St σ Q := by
  subst hC hZ hst
  obtain ⟨σ1, e1, e2⟩ := xbind hf
  obtain ⟨rfl, q1, q2⟩ := cdo_of e1
  obtain ⟨f1, f2⟩ := xRs_of hrs q2
  exact xm_callI (hTb := hTb) (hTb' := hTb') h hc hret hinit hw1 hw2 hnA hlen hS (kc (fun o τ' π' => o = .inl none ∧ τ' = σ1 ∧ xag σ.1 π π') (fun π' hp => ⟨rfl, rfl, hp⟩)) (fun E τ' π' q => nomatch q.1) (fun v τ' π' q => by
    obtain ⟨z1, z2, z3⟩ := q
    cases z1
    rw [z2]
    exact ⟨xfr_S z3 f1, xfr_L z3 f2, kk _ _ e2 (by omega) (hP.tr hn z3)⟩)
theorem xb_ctorN {J' : xJ} {idx n b : Nat} {host : String} {As St : List Value} {τ1 : xM} (h : decode J.2.2.1 pc = .ok (.invokespecial idx, 3)) (hc : xCal J J' d n) (hret : J'.2.2.2.2 = none) (hinit : J'.2.1.name = "<init>") (hw1 : Cond.methodLinkNest J.1 idx J'.2.1 host ∈ xot) (hw2 : Cond.instanceMethod J'.2.1 ∈ xTB)
    (hnA : As.length = n) (hlen : (lg_sl (.ref b :: As)).length ≤ J'.2.2.2.1) (hst : St = As.reverse ++ .ref b :: S) (hS : (S.map fun v => v.category).sum ≤ 8)
    (kc : ∀ Q1 : xQ, xPost σ.1 π τ1 Q1 → xMach G π J' d C1 Z1 0 (lv_args 0 (.ref b :: As)) [] σ Q1) (hC : C = C1 + C9) (hZ : Z = Z1 + Z9) (hrs : xrf S ++ xrf (L.map Prod.snd) = rs) (hn : n0 ≤ σ.1) (hP : xPost n0 π τ Q) (hf : (cdo σ τ1 rs).bind K = some r)
    (kk : ∀ (σ1 : xM) (π1 : Nat → Nat), K σ1 = some r → n0 ≤ σ1.1 → xPost n0 π1 τ Q → xMach G π1 J (d + 1) C9 Z9 (pc + 3) L S σ1 Q) (hTb : xTb J = [] := by decide) (hTb' : xTb J' = [] := by decide) : xMach G π J (d + 1) C Z pc L St σ Q := by
  subst hC hZ hst
  obtain ⟨σ1, e1, e2⟩ := xbind hf
  obtain ⟨rfl, q1, q2⟩ := cdo_of e1
  obtain ⟨f1, f2⟩ := xRs_of hrs q2
  exact xm_callIN (hTb := hTb) (hTb' := hTb') h hc hret hinit hw1 hw2 hnA hlen hS (kc (fun o τ' π' => o = .inl none ∧ τ' = σ1 ∧ xag σ.1 π π') (fun π' hp => ⟨rfl, rfl, hp⟩)) (fun E τ' π' q => nomatch q.1) (fun v τ' π' q => by
    obtain ⟨z1, z2, z3⟩ := q
    cases z1
    rw [z2]
    exact ⟨xfr_S z3 f1, xfr_L z3 f2, kk _ _ e2 (by omega) (hP.tr hn z3)⟩)
/-- a call that gave a memory, with its growth looked at -/
theorem xb_grow {τ1 : xM} (hn : n0 ≤ σ.1) (hf : (cdo σ τ1 []).bind K = some r) (kk : K τ1 = some r → n0 ≤ τ1.1 → xMach G π J d C Z pc L S τ1 Q) : xMach G π J d C Z pc L S τ1 Q := by
  obtain ⟨σ1, e1, e2⟩ := xbind hf
  obtain ⟨rfl, q1, -⟩ := cdo_of e1
  exact kk e2 (by omega)
/-- new int[N][K]: the outer row, then the inner ones -/
def xmulti (σ : xM) (N K : Nat) : xM := (σ.1 + (1 + N), (fun a => if a = σ.1 then (18, N) else if σ.1 < a ∧ a < σ.1 + (1 + N) then (14, K) else σ.2.1 a), (fun a => if σ.1 < a ∧ a < σ.1 + (1 + N) then (fun _ => 0) else σ.2.2.1 a), σ.2.2.2.1, (fun a => if a = σ.1 then (fun i => if i < N then some (σ.1 + (1 + i)) else none) else σ.2.2.2.2 a))
def nwM (σ : xM) (n k : Int32) (rs : List Nat) : Option xM := if (xRs σ rs && decide (σ.1 + (1 + n.toNatClampNeg) < xkS) && decide (¬ n < 0) && decide (¬ k < 0) && decide (n.toNatClampNeg * 4 ≤ 536870912) && decide (k.toNatClampNeg * componentBytes .int ≤ 536870912) && decide (k.toNatClampNeg ≤ 536870912)) = true then some (xmulti σ n.toNatClampNeg k.toNatClampNeg) else none
theorem xwd_multi {aC : Nat → ClassId} {π π' : Nat → Nat} {N K q : Nat} {r : Nat → Nat} {f : Nat → va_E} (hw : xwf σ) (hπ : π' = fun a => if a = σ.1 then q else if σ.1 < a ∧ a < σ.1 + (1 + N) then r (a - σ.1 - 1) else π a) :
    (xwd aC π σ ++ [(q, .inl (aC 18, N, .inr (.inr (.inr (.inr (fun i => if i < N then some (r i) else none))))))]) ++ va_pl ([] ++ (List.range N).map r) (vr_up f ((List.range N).map r) (.inl (aC 14, (K, .inl (fun _ => 0))))) = xwd aC π' (xmulti σ N K) := by
  have p1 : ∀ k, k < σ.1 → π' k = π k := fun k hk => by rw [hπ]; show (if k = σ.1 then q else if _ then _ else π k) = π k; rw [if_neg (by omega), if_neg (by omega)]
  have p2 : π' σ.1 = q := by rw [hπ]; show (if σ.1 = σ.1 then q else _) = q; rw [if_pos rfl]
  have p3 : ∀ i, i < N → π' (σ.1 + (1 + i)) = r i := fun i hi => by
    rw [hπ]
    show (if σ.1 + (1 + i) = σ.1 then q else if _ then r (σ.1 + (1 + i) - σ.1 - 1) else _) = r i
    rw [if_neg (by omega), if_pos (by omega), show σ.1 + (1 + i) - σ.1 - 1 = i from by omega]
  unfold xwd
  show _ = (List.range (σ.1 + (1 + N))).map _
  rw [List.range_add, List.map_append, List.append_assoc]
  congr 1
  · refine List.map_congr_left fun k hk => ?_
    have hk : k < σ.1 := List.mem_range.mp hk
    rw [p1 k hk, xel_ne (σ := σ) (τ := xmulti σ N K) (by show (if k = σ.1 then _ else if _ then _ else σ.2.1 k) = _; rw [if_neg (by omega), if_neg (by omega)]) (by show (if _ then _ else σ.2.2.1 k) = _; rw [if_neg (by omega)]) rfl (by show (if k = σ.1 then _ else σ.2.2.2.2 k) = _; rw [if_neg (by omega)]), xel_pi hw (fun r hr => p1 r hr)]
  · rw [List.range_add, List.map_append, List.map_append]
    congr 1
    · show [_] = [(π' (σ.1 + 0), xel aC π' (xmulti σ N K) (σ.1 + 0))]
      rw [Nat.add_zero, p2, xel_arrR (kd := 18) (by show (if σ.1 = σ.1 then (18, N) else _).1 = 18; rw [if_pos rfl]) (by omega) (by omega)]
      have e1 : ((xmulti σ N K).2.1 σ.1).2 = N := by show (if σ.1 = σ.1 then (18, N) else _).2 = N; rw [if_pos rfl]
      have e2 : (fun k => ((xmulti σ N K).2.2.2.2 σ.1 k).map π') = fun i => if i < N then some (r i) else none := by
        funext i
        have : (xmulti σ N K).2.2.2.2 σ.1 i = if i < N then some (σ.1 + (1 + i)) else none := by
          show (if σ.1 = σ.1 then (fun i => if i < N then some (σ.1 + (1 + i)) else none) else σ.2.2.2.2 σ.1) i = _
          rw [if_pos rfl]
        rw [this]
        by_cases hi : i < N
        · rw [if_pos hi, if_pos hi, Option.map_some, p3 i hi]
        · rw [if_neg hi, if_neg hi]
          rfl
      rw [e1, e2]
    · unfold va_pl
      rw [List.nil_append, List.map_map, List.map_map, List.map_map]
      refine List.map_congr_left fun i hi => ?_
      have hi' : i < N := List.mem_range.mp hi
      show (r i, vr_up f ((List.range N).map r) _ (r i)) = (π' (σ.1 + (1 + i)), xel aC π' (xmulti σ N K) (σ.1 + (1 + i)))
      rw [p3 i hi', vr_up_in (List.mem_map.mpr ⟨i, hi, rfl⟩), xel_arr (kd := 14) (by show (if σ.1 + (1 + i) = σ.1 then _ else if _ then (14, K) else _).1 = 14; rw [if_neg (by omega), if_pos (by omega)]) (by omega) (by omega)]
      have e1 : ((xmulti σ N K).2.1 (σ.1 + (1 + i))).2 = K := by show (if σ.1 + (1 + i) = σ.1 then _ else if _ then (14, K) else _).2 = K; rw [if_neg (by omega), if_pos (by omega)]
      have e2 : (xmulti σ N K).2.2.1 (σ.1 + (1 + i)) = fun _ => 0 := if_pos (⟨by omega, by omega⟩ : σ.1 < σ.1 + (1 + i) ∧ σ.1 + (1 + i) < σ.1 + (1 + N))
      rw [e1, e2]
theorem xwf_multi {N K : Nat} (h : xwf σ) : xwf (xmulti σ N K) := by
  intro a k r hr
  show r < σ.1 + (1 + N)
  have hr : (if a = σ.1 then (fun i => if i < N then some (σ.1 + (1 + i)) else none) else σ.2.2.2.2 a) k = some r := hr
  split at hr
  · have hr : (if k < N then some (σ.1 + (1 + k)) else none) = some r := hr
    split at hr
    · cases hr
      omega
    · cases hr
  · have := h _ _ _ hr
    omega
theorem nwM_of {n k : Int32} {σ1 : xM} (h : nwM σ n k rs = some σ1) : xRs σ rs = true ∧ σ.1 + (1 + n.toNatClampNeg) < xkS ∧ ¬ n < 0 ∧ ¬ k < 0 ∧ n.toNatClampNeg * 4 ≤ 536870912 ∧ k.toNatClampNeg * componentBytes .int ≤ 536870912 ∧ k.toNatClampNeg ≤ 536870912 ∧ σ1 = xmulti σ n.toNatClampNeg k.toNatClampNeg := by
  unfold nwM at h
  split at h
  · next q =>
    simp only [Bool.and_eq_true, decide_eq_true_eq] at q
    cases h
    obtain ⟨⟨⟨⟨⟨⟨q1, q2⟩, q3⟩, q4⟩, q5⟩, q6⟩, q7⟩ := q
    exact ⟨q1, q2, q3, q4, q5, q6, q7, rfl⟩
  · cases h
theorem xb_mna {idx : Nat} {n k : Int32} {N M : Nat} (h : decode J.2.2.1 pc = .ok (.multianewarray idx 2, 4)) (hw1 : Cond.classLink J.1 idx ("[" ++ (FieldType.array .int).toString) ∈ xTB) (hw2 : Cond.arrayClass .int ∈ xTB) (hN : n.toNatClampNeg = N) (hM : k.toNatClampNeg = M) (hC : C = (1 + N) + C9) (hZ : Z = (N + N * M) + Z9) (hrs : xrf S ++ xrf (L.map Prod.snd) = rs) (hn : n0 ≤ σ.1) (hP : xPost n0 π τ Q) (hf : (nwM σ n k rs).bind K = some r)
    (kk : ∀ (σ1 : xM) (π1 : Nat → Nat), K σ1 = some r → n0 ≤ σ1.1 → xPost n0 π1 τ Q → xMach G π1 J d C9 Z9 (pc + 4) L (.ref σ.1 :: S) σ1 Q) : xMach G π J d C Z pc L (.int k :: .int n :: S) σ Q := by
  subst hC hZ
  obtain ⟨σ1, e1, e2⟩ := xbind hf
  obtain ⟨q1, q2, q3, q4, q5, q6, q7, rfl⟩ := nwM_of e1
  rw [hN] at q2 q5
  rw [hM] at q6 q7
  rw [hN, hM] at e2
  obtain ⟨f1, f2⟩ := xRs_of hrs q1
  intro p e s m args below meth c0 H locs cells slots mc ms ls a1 a2 a3 a4 a5 a6
  refine va_mna (X := xwd G.2.2.1 π σ) (L := []) (f := fun _ => .inl (G.2.2.1 14, (M, .inl (fun _ => 0)))) (z := (M, .inl (fun _ => 0))) (cy := G.2.2.1 14) a1.1 a1.2.1 a1.2.2.2.2.1 (a1.2.2.2.2.2.1 _ (xws_in hw1)) a1.2.2.2.2.2.2.1.2.2.1.2.2.1.2.2 (a1.2.2.2.2.2.1 _ (xws_in hw2)) ?_ a1.2.2.2.2.2.2.1.1 (by show va_P _ _ (xwd G.2.2.1 π σ ++ []) _; rw [List.append_nil]; exact a2.1) (by show va_D _ (xwd G.2.2.1 π σ ++ []); rw [List.append_nil]; exact a2.2.1) a3 (fun q hq => Nat.le_trans a1.2.2.2.2.2.2.1.2.1 hq) q3 q4 hN hM q5 q6 q7 rfl rfl (by show cells + (1 + N) ≤ mc; omega) (by show slots + (N + N * M) ≤ ms; omega) ?_ h (fun q r cA H1 c1 c2 b0 b1 b2 b3 => ?_)
  · exact (a1.2.2.2.2.2.2.1.1.2 1 _ rfl).2
  · intro c
    show ({ cls := c, slots := Array.replicate M (defaultValue .int), vm := .none } : Cell) = _
    rw [arrV_new]
    rfl
  have e := xK_same (t0 := 5) (kd := 18) a1.2.2.2.2.2.2.1 rfl b0 rfl
  subst e
  have hag : xag σ.1 π (fun a => if a = σ.1 then q else if σ.1 < a ∧ a < σ.1 + (1 + N) then r (a - σ.1 - 1) else π a) := ⟨fun k hk => by
    show (if k = σ.1 then q else if _ then _ else π k) = π k
    rw [if_neg (by omega), if_neg (by omega)], by
    show (if xkX = σ.1 then q else if _ then _ else π xkX) = π xkX
    unfold xkS at q2
    unfold xkX
    rw [if_neg (by omega), if_neg (by omega)]⟩
  rw [xwd_multi a2.2.2.1 rfl] at b1 b2
  have hs : xSp G (fun a => if a = σ.1 then q else if σ.1 < a ∧ a < σ.1 + (1 + N) then r (a - σ.1 - 1) else π a) := by
    have hs := a2.2.2.2
    unfold xSp xkS xkV xkF xkX at *
    exact ⟨by dsimp only; rw [if_neg (by omega), if_neg (by omega)]; exact hs.1, by dsimp only; rw [if_neg (by omega), if_neg (by omega)]; exact hs.2.1, by dsimp only; rw [if_neg (by omega), if_neg (by omega)]; exact hs.2.2.1, by dsimp only; rw [if_neg (by omega), if_neg (by omega)]; exact hs.2.2.2⟩
  have k' := kk _ _ e2 (by show n0 ≤ σ.1 + (1 + N); omega) (hP.tr hn hag) p e s m args below meth c0 H1 locs (cells + 1 + N) (slots + N + N * M) mc ms ls a1 ⟨b1, b2, xwf_multi a2.2.2.1, hs⟩ b3 (by rw [xfr_L hag f2]; exact a4) (by omega) (by omega)
  have e0 : (.ref σ.1 :: S : List Value).map (xvp (fun a => if a = σ.1 then q else if σ.1 < a ∧ a < σ.1 + (1 + N) then r (a - σ.1 - 1) else π a)) = .ref q :: S.map (xvp π) := by
    rw [List.map_cons, xfr_S hag f1]
    show Value.ref (if σ.1 = σ.1 then q else _) :: _ = _
    rw [if_pos rfl]
  rw [e0] at k'
  exact k'
end XC
