/-! THE LAW: the script, what the law makes itself, its methods -/
def xLd (aC : Nat → ClassId) (i : Int32) : Option Int32 := if xvi i (aC 104) = true then some (Int32.ofNat (aC (200 + i.toNatClampNeg))) else none
def xR2 (rs : List Nat) : Bool := rs.all (fun a => decide (a < 4562) || a == xkX)
def nwP (σ : xM) (n : Int32) (rs : List Nat) : Option xM := if 4562 ≤ σ.1 then nwA σ 14 n (componentBytes .int) rs else none
section XW
variable {G : xG} {π : Nat → Nat} {J : xJ} {d C C1 C9 Z Z1 Z9 pc : Nat} {L : List (Nat × Value)} {S : List Value} {σ τ : xM} {Q : xQ} {ρ : Type} {r : ρ}
theorem xag_t {n : Nat} {π π1 π2 : Nat → Nat} (a : xag n π π1) (b : xag n π1 π2) : xag n π π2 := xag_tr (Nat.le_refl _) a b
theorem xb_xLd {i : Int32} {a : Nat} {K : Int32 → Option ρ} (hs : a = xkX) (h : decode J.2.2.1 pc = .ok (.iaload, 1)) (hf : (xLd G.2.2.1 i).bind K = some r) (kk : ∀ x, xLd G.2.2.1 i = some x → K x = some r → xMach G π J d C Z (pc + 1) L (.int x :: S) σ Q) : xMach G π J d C Z pc L (.int i :: .ref a :: S) σ Q := by
  subst hs
  obtain ⟨v, h1, h2⟩ := xbind hf
  have h3 := h1
  unfold xLd at h3
  split at h3
  · next q =>
    cases h3
    exact xm_xLd h (xvi_of q) (kk _ h1 h2)
  · cases h3
theorem xm_xLen2 {a : Nat} (hs : a = xkX) (h : decode J.2.2.1 pc = .ok (.arraylength, 1)) (k : xMach G π J d C Z (pc + 1) L (.int (Int32.ofNat (G.2.2.1 104)) :: S) σ Q) : xMach G π J d C Z pc L (.ref a :: S) σ Q := by
  subst hs
  exact xm_xLen h k
theorem xb_newaIP {K : xM → Option ρ} {rs : List Nat} {n : Int32} {N : Nat} (h : decode J.2.2.1 pc = .ok (.newarray .int, 2)) (hw : Cond.arrayClass .int ∈ xTB) (hN : n.toNatClampNeg = N) (hC : C = C9 + 1) (hZ : Z = Z9 + N) (hrs : xrf S ++ xrf (L.map Prod.snd) = rs) (hf : (nwP σ n rs).bind K = some r)
    (kk : ∀ (σ1 : xM) (π1 : Nat → Nat), xag 4562 π π1 → K σ1 = some r → xMach G π1 J d C9 Z9 (pc + 2) L (.ref σ.1 :: S) σ1 Q) : xMach G π J d C Z pc L (.int n :: S) σ Q := by
  rw [Nat.add_comm] at hC hZ
  subst hC hZ hN
  obtain ⟨σ1, e1, e2⟩ := xbind hf
  unfold nwP at e1
  split at e1
  · next q =>
    obtain ⟨q1, q2, q3, q4, rfl⟩ := nwA_of e1
    obtain ⟨f1, f2⟩ := xRs_of hrs q1
    exact xm_newaI h hw q3 rfl q4 q2 f1 f2 (fun a => kk _ _ (xag_up q q2) e2)
  · cases e1
theorem xb_newaIL {K : xM → Option ρ} {rs : List Nat} {n : Int32} {N : Nat} (h : decode J.2.2.1 pc = .ok (.newarray .int, 2)) (hw : Cond.arrayClass .int ∈ xTB) (hN : n.toNatClampNeg = N) (hC : C = C9 + 1) (hZ : Z = Z9 + N) (hrs : xrf S ++ xrf (L.map Prod.snd) = rs) (hf : (nwA σ 14 n (componentBytes .int) rs).bind K = some r)
    (kk : ∀ (σ1 : xM) (π1 : Nat → Nat), K σ1 = some r → xMach G π1 J d C9 Z9 (pc + 2) L (.ref σ.1 :: S) σ1 Q) : xMach G π J d C Z pc L (.int n :: S) σ Q := by
  rw [Nat.add_comm] at hC hZ
  subst hC hZ hN
  obtain ⟨σ1, e1, e2⟩ := xbind hf
  obtain ⟨q1, q2, q3, q4, rfl⟩ := nwA_of e1
  obtain ⟨f1, f2⟩ := xRs_of hrs q1
  exact xm_newaI h hw q3 rfl q4 q2 f1 f2 (fun a => kk _ _ e2)
theorem xb_callSL {K : Option ρ} {rs : List Nat} {J' : xJ} {idx n : Nat} {As St : List Value} {v0 : Option Value} {τ0 : xM} (h : decode J.2.2.1 pc = .ok (.invokestatic idx, 3)) (hc : xCal J J' d n) (hw1 : Cond.methodLink J.1 idx J'.2.1 ∈ xTB) (hw2 : Cond.static J'.2.1 ∈ xTB)
    (hn : As.length = n) (hlen : (lg_sl As).length ≤ J'.2.2.2.1) (hst : St = As.reverse ++ S) (hS : (S.map fun v => v.category).sum ≤ 8)
    (kc : ∀ Q1 : xQ, (∀ π', xag 4562 π π' → Q1 (.inl v0) τ0 π') → xMach G π J' d C1 Z1 0 (lv_args 0 As) [] σ Q1) (hC : C = C9 + C1) (hZ : Z = Z9 + Z1) (hrs : xrf S ++ xrf (L.map Prod.snd) = rs) (hf : (if xR2 rs = true then K else none) = some r)
    (kk : ∀ π1, xag 4562 π π1 → K = some r → xMach G π1 J (d + 1) C9 Z9 (pc + 3) L (v0.toList ++ S) τ0 Q) (hTb : xTb J = [] := by decide) (hTb' : xTb J' = [] := by decide) : xMach G π J (d + 1) C Z pc L St σ Q := by
  rw [Nat.add_comm] at hC hZ
  subst hC hZ hst hrs
  split at hf
  · next q =>
    unfold xR2 at q
    rw [List.all_append, Bool.and_eq_true] at q
    exact xm_callS (hTb := hTb) (hTb' := hTb') (C9 := C9) (Z := Z9) (L := L) (Q := Q) h hc hw1 hw2 hn hlen hS (kc (fun o τ' π' => o = .inl v0 ∧ τ' = τ0 ∧ xag 4562 π π') (fun π' hp => ⟨rfl, rfl, hp⟩)) (fun E τ' π' q => nomatch q.1) (fun v τ' π' z => by
      obtain ⟨z1, z2, z3⟩ := z
      cases z1
      rw [z2]
      exact ⟨xfr_S z3 (xrf_fr q.1), xfr_L z3 (xrf_fr q.2), kk _ z3 hf⟩)
  · cases hf
theorem xb_newL {K : xM → Option ρ} {rs : List Nat} {c idx N : Nat} {CN : String} {T : u_T} (h : decode J.2.2.1 pc = .ok (.new idx, 3)) (hx : xCl c CN T N) (hw1 : Cond.classLink J.1 idx CN ∈ xTB) (hw2 : Cond.instantiable CN N ∈ xTB) (hw3 : Cond.initialized CN ∈ xTB) (hd : ∀ j, j < N → defaultValue (xtyp c j) = if xisr (xtyp c j) = true then .null else .int 0)
    (hC : C = C9 + 1) (hZ : Z = Z9 + N) (hrs : xrf S ++ xrf (L.map Prod.snd) = rs) (hf : (nwO σ c rs).bind K = some r)
    (kk : ∀ (σ1 : xM) (π1 : Nat → Nat), K σ1 = some r → xMach G π1 J d C9 Z9 (pc + 3) L (.ref σ.1 :: S) σ1 Q) : xMach G π J d C Z pc L S σ Q := by
  rw [Nat.add_comm] at hC hZ
  subst hC hZ
  obtain ⟨σ1, e1, e2⟩ := xbind hf
  unfold nwO at e1
  split at e1
  · next q =>
    rw [Bool.and_eq_true, decide_eq_true_eq] at q
    cases e1
    obtain ⟨f1, f2⟩ := xRs_of hrs q.1
    exact xm_new h hx hw1 hw2 hw3 hd q.2 f1 f2 (fun a => kk _ _ e2)
  · cases e1
theorem xb_ctorL {K : xM → Option ρ} {rs : List Nat} {J' : xJ} {idx n b : Nat} {As St : List Value} {τ1 : xM} (h : decode J.2.2.1 pc = .ok (.invokespecial idx, 3)) (hc : xCal J J' d n) (hret : J'.2.2.2.2 = none) (hinit : J'.2.1.name = "<init>") (hw1 : Cond.methodLink J.1 idx J'.2.1 ∈ xTB) (hw2 : Cond.instanceMethod J'.2.1 ∈ xTB)
    (hnA : As.length = n) (hlen : (lg_sl (.ref b :: As)).length ≤ J'.2.2.2.1) (hst : St = As.reverse ++ .ref b :: S) (hS : (S.map fun v => v.category).sum ≤ 8)
    (kc : ∀ Q1 : xQ, xPost σ.1 π τ1 Q1 → xMach G π J' d C1 Z1 0 (lv_args 0 (.ref b :: As)) [] σ Q1) (hC : C = C9 + C1) (hZ : Z = Z9 + Z1) (hrs : xrf S ++ xrf (L.map Prod.snd) = rs) (hf : (cdo σ τ1 rs).bind K = some r)
    (kk : ∀ (σ1 : xM) (π1 : Nat → Nat), K σ1 = some r → xMach G π1 J (d + 1) C9 Z9 (pc + 3) L S σ1 Q) (hTb : xTb J = [] := by decide) (hTb' : xTb J' = [] := by decide) : xMach G π J (d + 1) C Z pc L St σ Q := by
  rw [Nat.add_comm] at hC hZ
  subst hC hZ hst
  obtain ⟨σ1, e1, e2⟩ := xbind hf
  obtain ⟨rfl, q1, q2⟩ := cdo_of e1
  obtain ⟨f1, f2⟩ := xRs_of hrs q2
  exact xm_callI (hTb := hTb) (hTb' := hTb') h hc hret hinit hw1 hw2 hnA hlen hS (kc (fun o τ' π' => o = .inl none ∧ τ' = σ1 ∧ xag σ.1 π π') (fun π' hp => ⟨rfl, rfl, hp⟩)) (fun E τ' π' q => nomatch q.1) (fun v τ' π' q => by
    obtain ⟨z1, z2, z3⟩ := q
    cases z1
    rw [z2]
    exact ⟨xfr_S z3 f1, xfr_L z3 f2, kk _ _ e2⟩)
end XW
theorem xw_0 : (Jvm.Cond.initialized "RankwiseLaw") ∈ xTB := xTB_in (xt_1 (List.mem_of_getElem? (i := 0) rfl)) rfl
theorem xw_25 : (Jvm.Cond.classLink "RankwiseLaw" (10 : Nat) "Rankwise") ∈ xTB := xTB_in (xt_1 (List.mem_of_getElem? (i := 25) rfl)) rfl
theorem xw_26 : (Jvm.Cond.instantiable "Rankwise" (16 : Nat)) ∈ xTB := xTB_in (xt_1 (List.mem_of_getElem? (i := 26) rfl)) rfl
theorem xw_27 : (Jvm.Cond.methodLink "RankwiseLaw" (104 : Nat) ({ cls := "Rankwise", name := "<init>", desc := "()V" } : Jvm.MethodName)) ∈ xTB := xTB_in (xt_1 (List.mem_of_getElem? (i := 27) rfl)) rfl
theorem xw_28 : (Jvm.Cond.instanceMethod ({ cls := "Rankwise", name := "<init>", desc := "()V" } : Jvm.MethodName)) ∈ xTB := xTB_in (xt_1 (List.mem_of_getElem? (i := 28) rfl)) rfl
theorem xw_632 : (Jvm.Cond.methodLink "RankwiseLaw" (30 : Nat) ({ cls := "Rankwise", name := "type", desc := "(C)I" } : Jvm.MethodName)) ∈ xTB := xTB_in (xt_3 (List.mem_of_getElem? (i := 152) rfl)) rfl
theorem xw_633 : (Jvm.Cond.instanceMethod ({ cls := "Rankwise", name := "type", desc := "(C)I" } : Jvm.MethodName)) ∈ xTB := xTB_in (xt_3 (List.mem_of_getElem? (i := 153) rfl)) rfl
theorem xw_634 : (Jvm.Cond.selects "Rankwise" ({ cls := "Rankwise", name := "type", desc := "(C)I" } : Jvm.MethodName) ({ cls := "Rankwise", name := "type", desc := "(C)I" } : Jvm.MethodName)) ∈ xTB := xTB_in (xt_3 (List.mem_of_getElem? (i := 154) rfl)) rfl
theorem xw_703 : (Jvm.Cond.methodLink "RankwiseLaw" (41 : Nat) ({ cls := "Rankwise", name := "drop", desc := "()I" } : Jvm.MethodName)) ∈ xTB := xTB_in (xt_3 (List.mem_of_getElem? (i := 223) rfl)) rfl
theorem xw_704 : (Jvm.Cond.instanceMethod ({ cls := "Rankwise", name := "drop", desc := "()I" } : Jvm.MethodName)) ∈ xTB := xTB_in (xt_3 (List.mem_of_getElem? (i := 224) rfl)) rfl
theorem xw_705 : (Jvm.Cond.selects "Rankwise" ({ cls := "Rankwise", name := "drop", desc := "()I" } : Jvm.MethodName) ({ cls := "Rankwise", name := "drop", desc := "()I" } : Jvm.MethodName)) ∈ xTB := xTB_in (xt_3 (List.mem_of_getElem? (i := 225) rfl)) rfl
theorem xw_707 : (Jvm.Cond.methodLink "RankwiseLaw" (49 : Nat) ({ cls := "Rankwise", name := "fault", desc := "()I" } : Jvm.MethodName)) ∈ xTB := xTB_in (xt_3 (List.mem_of_getElem? (i := 227) rfl)) rfl
theorem xw_708 : (Jvm.Cond.instanceMethod ({ cls := "Rankwise", name := "fault", desc := "()I" } : Jvm.MethodName)) ∈ xTB := xTB_in (xt_3 (List.mem_of_getElem? (i := 228) rfl)) rfl
theorem xw_709 : (Jvm.Cond.selects "Rankwise" ({ cls := "Rankwise", name := "fault", desc := "()I" } : Jvm.MethodName) ({ cls := "Rankwise", name := "fault", desc := "()I" } : Jvm.MethodName)) ∈ xTB := xTB_in (xt_3 (List.mem_of_getElem? (i := 229) rfl)) rfl
theorem xw_796 : (Jvm.Cond.methodLink "RankwiseLaw" (55 : Nat) ({ cls := "Rankwise", name := "read", desc := "()I" } : Jvm.MethodName)) ∈ xTB := xTB_in (xt_4 (List.mem_of_getElem? (i := 76) rfl)) rfl
theorem xw_797 : (Jvm.Cond.instanceMethod ({ cls := "Rankwise", name := "read", desc := "()I" } : Jvm.MethodName)) ∈ xTB := xTB_in (xt_4 (List.mem_of_getElem? (i := 77) rfl)) rfl
theorem xw_798 : (Jvm.Cond.selects "Rankwise" ({ cls := "Rankwise", name := "read", desc := "()I" } : Jvm.MethodName) ({ cls := "Rankwise", name := "read", desc := "()I" } : Jvm.MethodName)) ∈ xTB := xTB_in (xt_4 (List.mem_of_getElem? (i := 78) rfl)) rfl
theorem xw_842 : (Jvm.Cond.methodLink "RankwiseLaw" (113 : Nat) ({ cls := "Rankwise", name := "trees", desc := "()I" } : Jvm.MethodName)) ∈ xTB := xTB_in (xt_4 (List.mem_of_getElem? (i := 122) rfl)) rfl
theorem xw_843 : (Jvm.Cond.instanceMethod ({ cls := "Rankwise", name := "trees", desc := "()I" } : Jvm.MethodName)) ∈ xTB := xTB_in (xt_4 (List.mem_of_getElem? (i := 123) rfl)) rfl
theorem xw_844 : (Jvm.Cond.selects "Rankwise" ({ cls := "Rankwise", name := "trees", desc := "()I" } : Jvm.MethodName) ({ cls := "Rankwise", name := "trees", desc := "()I" } : Jvm.MethodName)) ∈ xTB := xTB_in (xt_4 (List.mem_of_getElem? (i := 124) rfl)) rfl
theorem xw_846 : (Jvm.Cond.methodLink "RankwiseLaw" (120 : Nat) ({ cls := "Rankwise", name := "tell", desc := "(CIIII)I" } : Jvm.MethodName)) ∈ xTB := xTB_in (xt_4 (List.mem_of_getElem? (i := 126) rfl)) rfl
theorem xw_847 : (Jvm.Cond.instanceMethod ({ cls := "Rankwise", name := "tell", desc := "(CIIII)I" } : Jvm.MethodName)) ∈ xTB := xTB_in (xt_4 (List.mem_of_getElem? (i := 127) rfl)) rfl
theorem xw_848 : (Jvm.Cond.selects "Rankwise" ({ cls := "Rankwise", name := "tell", desc := "(CIIII)I" } : Jvm.MethodName) ({ cls := "Rankwise", name := "tell", desc := "(CIIII)I" } : Jvm.MethodName)) ∈ xTB := xTB_in (xt_4 (List.mem_of_getElem? (i := 128) rfl)) rfl
theorem xw_884 : (Jvm.Cond.methodLink "RankwiseLaw" (12 : Nat) ({ cls := "Rankwise", name := "told", desc := "(CII)I" } : Jvm.MethodName)) ∈ xTB := xTB_in (xt_4 (List.mem_of_getElem? (i := 164) rfl)) rfl
theorem xw_885 : (Jvm.Cond.instanceMethod ({ cls := "Rankwise", name := "told", desc := "(CII)I" } : Jvm.MethodName)) ∈ xTB := xTB_in (xt_4 (List.mem_of_getElem? (i := 165) rfl)) rfl
theorem xw_886 : (Jvm.Cond.selects "Rankwise" ({ cls := "Rankwise", name := "told", desc := "(CII)I" } : Jvm.MethodName) ({ cls := "Rankwise", name := "told", desc := "(CII)I" } : Jvm.MethodName)) ∈ xTB := xTB_in (xt_4 (List.mem_of_getElem? (i := 166) rfl)) rfl
theorem xw_894 : (Jvm.Cond.methodLink "RankwiseLaw" (105 : Nat) ({ cls := "Rankwise", name := "let", desc := "(CI)I" } : Jvm.MethodName)) ∈ xTB := xTB_in (xt_4 (List.mem_of_getElem? (i := 174) rfl)) rfl
theorem xw_895 : (Jvm.Cond.instanceMethod ({ cls := "Rankwise", name := "let", desc := "(CI)I" } : Jvm.MethodName)) ∈ xTB := xTB_in (xt_4 (List.mem_of_getElem? (i := 175) rfl)) rfl
theorem xw_896 : (Jvm.Cond.selects "Rankwise" ({ cls := "Rankwise", name := "let", desc := "(CI)I" } : Jvm.MethodName) ({ cls := "Rankwise", name := "let", desc := "(CI)I" } : Jvm.MethodName)) ∈ xTB := xTB_in (xt_4 (List.mem_of_getElem? (i := 176) rfl)) rfl
theorem xw_1206 : (Jvm.Cond.methodLink "RankwiseLaw" (109 : Nat) ({ cls := "Rankwise", name := "recall", desc := "(C)Z" } : Jvm.MethodName)) ∈ xTB := xTB_in (xt_6 (List.mem_of_getElem? (i := 6) rfl)) rfl
theorem xw_1207 : (Jvm.Cond.instanceMethod ({ cls := "Rankwise", name := "recall", desc := "(C)Z" } : Jvm.MethodName)) ∈ xTB := xTB_in (xt_6 (List.mem_of_getElem? (i := 7) rfl)) rfl
theorem xw_1208 : (Jvm.Cond.selects "Rankwise" ({ cls := "Rankwise", name := "recall", desc := "(C)Z" } : Jvm.MethodName) ({ cls := "Rankwise", name := "recall", desc := "(C)Z" } : Jvm.MethodName)) ∈ xTB := xTB_in (xt_6 (List.mem_of_getElem? (i := 8) rfl)) rfl
theorem xw_1211 : (Jvm.Cond.methodLink "RankwiseLaw" (62 : Nat) ({ cls := "Rankwise", name := "undo", desc := "()I" } : Jvm.MethodName)) ∈ xTB := xTB_in (xt_6 (List.mem_of_getElem? (i := 11) rfl)) rfl
theorem xw_1212 : (Jvm.Cond.instanceMethod ({ cls := "Rankwise", name := "undo", desc := "()I" } : Jvm.MethodName)) ∈ xTB := xTB_in (xt_6 (List.mem_of_getElem? (i := 12) rfl)) rfl
theorem xw_1213 : (Jvm.Cond.selects "Rankwise" ({ cls := "Rankwise", name := "undo", desc := "()I" } : Jvm.MethodName) ({ cls := "Rankwise", name := "undo", desc := "()I" } : Jvm.MethodName)) ∈ xTB := xTB_in (xt_6 (List.mem_of_getElem? (i := 13) rfl)) rfl
theorem xw_1222 : (Jvm.Cond.methodLink "RankwiseLaw" (34 : Nat) ({ cls := "RankwiseLaw", name := "cell", desc := "([II)I" } : Jvm.MethodName)) ∈ xTB := xTB_in (xt_6 (List.mem_of_getElem? (i := 22) rfl)) rfl
theorem xw_1223 : (Jvm.Cond.static ({ cls := "RankwiseLaw", name := "cell", desc := "([II)I" } : Jvm.MethodName)) ∈ xTB := xTB_in (xt_6 (List.mem_of_getElem? (i := 23) rfl)) rfl
theorem xw_1224 : (Jvm.Cond.code ({ cls := "RankwiseLaw", name := "cell", desc := "([II)I" } : Jvm.MethodName) method_2_code (2 : Nat) (Option.some Jvm.ClassFile.FieldType.int)) ∈ xTB := xTB_in (xt_6 (List.mem_of_getElem? (i := 24) rfl)) rfl
theorem xw_1225 : (Jvm.Cond.constant "RankwiseLaw" (7 : Nat) (67867967 : Int32)) ∈ xTB := xTB_in (xt_6 (List.mem_of_getElem? (i := 25) rfl)) rfl
theorem xw_1226 : (Jvm.Cond.constant "RankwiseLaw" (8 : Nat) (32452867 : Int32)) ∈ xTB := xTB_in (xt_6 (List.mem_of_getElem? (i := 26) rfl)) rfl
theorem xw_1227 : (Jvm.Cond.methodLink "RankwiseLaw" (38 : Nat) ({ cls := "RankwiseLaw", name := "low", desc := "(II)I" } : Jvm.MethodName)) ∈ xTB := xTB_in (xt_6 (List.mem_of_getElem? (i := 27) rfl)) rfl
theorem xw_1228 : (Jvm.Cond.static ({ cls := "RankwiseLaw", name := "low", desc := "(II)I" } : Jvm.MethodName)) ∈ xTB := xTB_in (xt_6 (List.mem_of_getElem? (i := 28) rfl)) rfl
theorem xw_1229 : (Jvm.Cond.code ({ cls := "RankwiseLaw", name := "low", desc := "(II)I" } : Jvm.MethodName) method_3_code (2 : Nat) (Option.some Jvm.ClassFile.FieldType.int)) ∈ xTB := xTB_in (xt_6 (List.mem_of_getElem? (i := 29) rfl)) rfl
theorem xw_1230 : (Jvm.Cond.constant "RankwiseLaw" (9 : Nat) (2147483647 : Int32)) ∈ xTB := xTB_in (xt_6 (List.mem_of_getElem? (i := 30) rfl)) rfl
theorem xw_1231 : (Jvm.Cond.methodLink "RankwiseLaw" (16 : Nat) ({ cls := "RankwiseLaw", name := "sign", desc := "(I)C" } : Jvm.MethodName)) ∈ xTB := xTB_in (xt_6 (List.mem_of_getElem? (i := 31) rfl)) rfl
theorem xw_1232 : (Jvm.Cond.static ({ cls := "RankwiseLaw", name := "sign", desc := "(I)C" } : Jvm.MethodName)) ∈ xTB := xTB_in (xt_6 (List.mem_of_getElem? (i := 32) rfl)) rfl
theorem xw_1233 : (Jvm.Cond.code ({ cls := "RankwiseLaw", name := "sign", desc := "(I)C" } : Jvm.MethodName) method_4_code (1 : Nat) (Option.some Jvm.ClassFile.FieldType.char)) ∈ xTB := xTB_in (xt_6 (List.mem_of_getElem? (i := 33) rfl)) rfl
theorem xw_1234 : (Jvm.Cond.methodLink "RankwiseLaw" (116 : Nat) ({ cls := "RankwiseLaw", name := "mayTell", desc := "(LRankwise;CIII)Z" } : Jvm.MethodName)) ∈ xTB := xTB_in (xt_6 (List.mem_of_getElem? (i := 34) rfl)) rfl
theorem xw_1235 : (Jvm.Cond.static ({ cls := "RankwiseLaw", name := "mayTell", desc := "(LRankwise;CIII)Z" } : Jvm.MethodName)) ∈ xTB := xTB_in (xt_6 (List.mem_of_getElem? (i := 35) rfl)) rfl
theorem xw_1236 : (Jvm.Cond.code ({ cls := "RankwiseLaw", name := "mayTell", desc := "(LRankwise;CIII)Z" } : Jvm.MethodName) method_5_code (8 : Nat) (Option.some Jvm.ClassFile.FieldType.boolean)) ∈ xTB := xTB_in (xt_6 (List.mem_of_getElem? (i := 36) rfl)) rfl
theorem xw_1237 : (Jvm.Cond.methodLink "RankwiseLaw" (45 : Nat) ({ cls := "RankwiseLaw", name := "types", desc := "(LRankwise;[III)V" } : Jvm.MethodName)) ∈ xTB := xTB_in (xt_6 (List.mem_of_getElem? (i := 37) rfl)) rfl
theorem xw_1238 : (Jvm.Cond.static ({ cls := "RankwiseLaw", name := "types", desc := "(LRankwise;[III)V" } : Jvm.MethodName)) ∈ xTB := xTB_in (xt_6 (List.mem_of_getElem? (i := 38) rfl)) rfl
theorem xw_1239 : (Jvm.Cond.code ({ cls := "RankwiseLaw", name := "types", desc := "(LRankwise;[III)V" } : Jvm.MethodName) method_7_code (5 : Nat) (Option.none : Option Jvm.ClassFile.FieldType)) ∈ xTB := xTB_in (xt_6 (List.mem_of_getElem? (i := 39) rfl)) rfl
theorem xw_1240 : (Jvm.Cond.methodLink "RankwiseLaw" (124 : Nat) ({ cls := "RankwiseLaw", name := "fill", desc := "([II[I)I" } : Jvm.MethodName)) ∈ xTB := xTB_in (xt_6 (List.mem_of_getElem? (i := 40) rfl)) rfl
theorem xw_1241 : (Jvm.Cond.static ({ cls := "RankwiseLaw", name := "fill", desc := "([II[I)I" } : Jvm.MethodName)) ∈ xTB := xTB_in (xt_6 (List.mem_of_getElem? (i := 41) rfl)) rfl
theorem xw_1242 : (Jvm.Cond.code ({ cls := "RankwiseLaw", name := "fill", desc := "([II[I)I" } : Jvm.MethodName) method_8_code (11 : Nat) (Option.some Jvm.ClassFile.FieldType.int)) ∈ xTB := xTB_in (xt_6 (List.mem_of_getElem? (i := 42) rfl)) rfl
theorem xw_1243 : (Jvm.Cond.methodLink "RankwiseLaw" (128 : Nat) ({ cls := "RankwiseLaw", name := "faulty", desc := "(LRankwise;[III)Z" } : Jvm.MethodName)) ∈ xTB := xTB_in (xt_6 (List.mem_of_getElem? (i := 43) rfl)) rfl
theorem xw_1244 : (Jvm.Cond.static ({ cls := "RankwiseLaw", name := "faulty", desc := "(LRankwise;[III)Z" } : Jvm.MethodName)) ∈ xTB := xTB_in (xt_6 (List.mem_of_getElem? (i := 44) rfl)) rfl
theorem xw_1245 : (Jvm.Cond.code ({ cls := "RankwiseLaw", name := "faulty", desc := "(LRankwise;[III)Z" } : Jvm.MethodName) method_9_code (7 : Nat) (Option.some Jvm.ClassFile.FieldType.boolean)) ∈ xTB := xTB_in (xt_6 (List.mem_of_getElem? (i := 45) rfl)) rfl
theorem xw_1246 : (Jvm.Cond.methodLink "RankwiseLaw" (132 : Nat) ({ cls := "RankwiseLaw", name := "sound", desc := "(LRankwise;I)Z" } : Jvm.MethodName)) ∈ xTB := xTB_in (xt_6 (List.mem_of_getElem? (i := 46) rfl)) rfl
theorem xw_1247 : (Jvm.Cond.static ({ cls := "RankwiseLaw", name := "sound", desc := "(LRankwise;I)Z" } : Jvm.MethodName)) ∈ xTB := xTB_in (xt_6 (List.mem_of_getElem? (i := 47) rfl)) rfl
theorem xw_1248 : (Jvm.Cond.code ({ cls := "RankwiseLaw", name := "sound", desc := "(LRankwise;I)Z" } : Jvm.MethodName) method_13_code (6 : Nat) (Option.some Jvm.ClassFile.FieldType.boolean)) ∈ xTB := xTB_in (xt_6 (List.mem_of_getElem? (i := 48) rfl)) rfl
theorem xw_1249 : (Jvm.Cond.methodLink "RankwiseLaw" (65 : Nat) ({ cls := "Rankwise", name := "node", desc := "(III)I" } : Jvm.MethodName)) ∈ xTB := xTB_in (xt_6 (List.mem_of_getElem? (i := 49) rfl)) rfl
theorem xw_1250 : (Jvm.Cond.instanceMethod ({ cls := "Rankwise", name := "node", desc := "(III)I" } : Jvm.MethodName)) ∈ xTB := xTB_in (xt_6 (List.mem_of_getElem? (i := 50) rfl)) rfl
theorem xw_1251 : (Jvm.Cond.selects "Rankwise" ({ cls := "Rankwise", name := "node", desc := "(III)I" } : Jvm.MethodName) ({ cls := "Rankwise", name := "node", desc := "(III)I" } : Jvm.MethodName)) ∈ xTB := xTB_in (xt_6 (List.mem_of_getElem? (i := 51) rfl)) rfl
theorem xw_1263 : (Jvm.Cond.methodLink "RankwiseLaw" (58 : Nat) ({ cls := "Rankwise", name := "isSame", desc := "(II)Z" } : Jvm.MethodName)) ∈ xTB := xTB_in (xt_6 (List.mem_of_getElem? (i := 63) rfl)) rfl
theorem xw_1264 : (Jvm.Cond.instanceMethod ({ cls := "Rankwise", name := "isSame", desc := "(II)Z" } : Jvm.MethodName)) ∈ xTB := xTB_in (xt_6 (List.mem_of_getElem? (i := 64) rfl)) rfl
theorem xw_1265 : (Jvm.Cond.selects "Rankwise" ({ cls := "Rankwise", name := "isSame", desc := "(II)Z" } : Jvm.MethodName) ({ cls := "Rankwise", name := "isSame", desc := "(II)Z" } : Jvm.MethodName)) ∈ xTB := xTB_in (xt_6 (List.mem_of_getElem? (i := 65) rfl)) rfl
theorem xw_1275 : (Jvm.Cond.methodLink "RankwiseLaw" (91 : Nat) ({ cls := "Rankwise", name := "audit", desc := "(II)Z" } : Jvm.MethodName)) ∈ xTB := xTB_in (xt_6 (List.mem_of_getElem? (i := 75) rfl)) rfl
theorem xw_1276 : (Jvm.Cond.instanceMethod ({ cls := "Rankwise", name := "audit", desc := "(II)Z" } : Jvm.MethodName)) ∈ xTB := xTB_in (xt_6 (List.mem_of_getElem? (i := 76) rfl)) rfl
theorem xw_1277 : (Jvm.Cond.selects "Rankwise" ({ cls := "Rankwise", name := "audit", desc := "(II)Z" } : Jvm.MethodName) ({ cls := "Rankwise", name := "audit", desc := "(II)Z" } : Jvm.MethodName)) ∈ xTB := xTB_in (xt_6 (List.mem_of_getElem? (i := 77) rfl)) rfl
theorem xw_1518 : (Jvm.Cond.methodLink "RankwiseLaw" (94 : Nat) ({ cls := "RankwiseLaw", name := "printed", desc := "(LRankwise;I)Z" } : Jvm.MethodName)) ∈ xTB := xTB_in (xt_7 (List.mem_of_getElem? (i := 78) rfl)) rfl
theorem xw_1519 : (Jvm.Cond.static ({ cls := "RankwiseLaw", name := "printed", desc := "(LRankwise;I)Z" } : Jvm.MethodName)) ∈ xTB := xTB_in (xt_7 (List.mem_of_getElem? (i := 79) rfl)) rfl
theorem xw_1520 : (Jvm.Cond.code ({ cls := "RankwiseLaw", name := "printed", desc := "(LRankwise;I)Z" } : Jvm.MethodName) method_10_code (5 : Nat) (Option.some Jvm.ClassFile.FieldType.boolean)) ∈ xTB := xTB_in (xt_7 (List.mem_of_getElem? (i := 80) rfl)) rfl
theorem xw_1521 : (Jvm.Cond.methodLink "RankwiseLaw" (52 : Nat) ({ cls := "Rankwise", name := "print", desc := "(I)I" } : Jvm.MethodName)) ∈ xTB := xTB_in (xt_7 (List.mem_of_getElem? (i := 81) rfl)) rfl
theorem xw_1522 : (Jvm.Cond.instanceMethod ({ cls := "Rankwise", name := "print", desc := "(I)I" } : Jvm.MethodName)) ∈ xTB := xTB_in (xt_7 (List.mem_of_getElem? (i := 82) rfl)) rfl
theorem xw_1523 : (Jvm.Cond.selects "Rankwise" ({ cls := "Rankwise", name := "print", desc := "(I)I" } : Jvm.MethodName) ({ cls := "Rankwise", name := "print", desc := "(I)I" } : Jvm.MethodName)) ∈ xTB := xTB_in (xt_7 (List.mem_of_getElem? (i := 83) rfl)) rfl
theorem xw_1525 : (Jvm.Cond.methodLink "RankwiseLaw" (26 : Nat) ({ cls := "Rankwise", name := "out", desc := "(I)I" } : Jvm.MethodName)) ∈ xTB := xTB_in (xt_7 (List.mem_of_getElem? (i := 85) rfl)) rfl
theorem xw_1526 : (Jvm.Cond.instanceMethod ({ cls := "Rankwise", name := "out", desc := "(I)I" } : Jvm.MethodName)) ∈ xTB := xTB_in (xt_7 (List.mem_of_getElem? (i := 86) rfl)) rfl
theorem xw_1527 : (Jvm.Cond.selects "Rankwise" ({ cls := "Rankwise", name := "out", desc := "(I)I" } : Jvm.MethodName) ({ cls := "Rankwise", name := "out", desc := "(I)I" } : Jvm.MethodName)) ∈ xTB := xTB_in (xt_7 (List.mem_of_getElem? (i := 87) rfl)) rfl
theorem xw_1530 : (Jvm.Cond.methodLink "RankwiseLaw" (98 : Nat) ({ cls := "RankwiseLaw", name := "reckoned", desc := "(LRankwise;I)Z" } : Jvm.MethodName)) ∈ xTB := xTB_in (xt_7 (List.mem_of_getElem? (i := 90) rfl)) rfl
theorem xw_1531 : (Jvm.Cond.static ({ cls := "RankwiseLaw", name := "reckoned", desc := "(LRankwise;I)Z" } : Jvm.MethodName)) ∈ xTB := xTB_in (xt_7 (List.mem_of_getElem? (i := 91) rfl)) rfl
theorem xw_1532 : (Jvm.Cond.code ({ cls := "RankwiseLaw", name := "reckoned", desc := "(LRankwise;I)Z" } : Jvm.MethodName) method_11_code (5 : Nat) (Option.some Jvm.ClassFile.FieldType.boolean)) ∈ xTB := xTB_in (xt_7 (List.mem_of_getElem? (i := 92) rfl)) rfl
theorem xw_1533 : (Jvm.Cond.methodLink "RankwiseLaw" (69 : Nat) ({ cls := "Rankwise", name := "evaluate", desc := "(I)I" } : Jvm.MethodName)) ∈ xTB := xTB_in (xt_7 (List.mem_of_getElem? (i := 93) rfl)) rfl
theorem xw_1534 : (Jvm.Cond.instanceMethod ({ cls := "Rankwise", name := "evaluate", desc := "(I)I" } : Jvm.MethodName)) ∈ xTB := xTB_in (xt_7 (List.mem_of_getElem? (i := 94) rfl)) rfl
theorem xw_1535 : (Jvm.Cond.selects "Rankwise" ({ cls := "Rankwise", name := "evaluate", desc := "(I)I" } : Jvm.MethodName) ({ cls := "Rankwise", name := "evaluate", desc := "(I)I" } : Jvm.MethodName)) ∈ xTB := xTB_in (xt_7 (List.mem_of_getElem? (i := 95) rfl)) rfl
theorem xw_1541 : (Jvm.Cond.methodLink "RankwiseLaw" (72 : Nat) ({ cls := "RankwiseLaw", name := "sum", desc := "(LRankwise;)I" } : Jvm.MethodName)) ∈ xTB := xTB_in (xt_7 (List.mem_of_getElem? (i := 101) rfl)) rfl
theorem xw_1542 : (Jvm.Cond.static ({ cls := "RankwiseLaw", name := "sum", desc := "(LRankwise;)I" } : Jvm.MethodName)) ∈ xTB := xTB_in (xt_7 (List.mem_of_getElem? (i := 102) rfl)) rfl
theorem xw_1543 : (Jvm.Cond.code ({ cls := "RankwiseLaw", name := "sum", desc := "(LRankwise;)I" } : Jvm.MethodName) method_6_code (5 : Nat) (Option.some Jvm.ClassFile.FieldType.int)) ∈ xTB := xTB_in (xt_7 (List.mem_of_getElem? (i := 103) rfl)) rfl
theorem xw_1544 : (Jvm.Cond.methodLink "RankwiseLaw" (22 : Nat) ({ cls := "Rankwise", name := "answer", desc := "(II)I" } : Jvm.MethodName)) ∈ xTB := xTB_in (xt_7 (List.mem_of_getElem? (i := 104) rfl)) rfl
theorem xw_1545 : (Jvm.Cond.instanceMethod ({ cls := "Rankwise", name := "answer", desc := "(II)I" } : Jvm.MethodName)) ∈ xTB := xTB_in (xt_7 (List.mem_of_getElem? (i := 105) rfl)) rfl
theorem xw_1546 : (Jvm.Cond.selects "Rankwise" ({ cls := "Rankwise", name := "answer", desc := "(II)I" } : Jvm.MethodName) ({ cls := "Rankwise", name := "answer", desc := "(II)I" } : Jvm.MethodName)) ∈ xTB := xTB_in (xt_7 (List.mem_of_getElem? (i := 106) rfl)) rfl
theorem xw_1556 : (Jvm.Cond.methodLink "RankwiseLaw" (76 : Nat) ({ cls := "Rankwise", name := "reckon", desc := "(I)I" } : Jvm.MethodName)) ∈ xTB := xTB_in (xt_7 (List.mem_of_getElem? (i := 116) rfl)) rfl
theorem xw_1557 : (Jvm.Cond.instanceMethod ({ cls := "Rankwise", name := "reckon", desc := "(I)I" } : Jvm.MethodName)) ∈ xTB := xTB_in (xt_7 (List.mem_of_getElem? (i := 117) rfl)) rfl
theorem xw_1558 : (Jvm.Cond.selects "Rankwise" ({ cls := "Rankwise", name := "reckon", desc := "(I)I" } : Jvm.MethodName) ({ cls := "Rankwise", name := "reckon", desc := "(I)I" } : Jvm.MethodName)) ∈ xTB := xTB_in (xt_7 (List.mem_of_getElem? (i := 118) rfl)) rfl
theorem xw_1565 : (Jvm.Cond.methodLink "RankwiseLaw" (79 : Nat) ({ cls := "Rankwise", name := "postfix", desc := "(I)I" } : Jvm.MethodName)) ∈ xTB := xTB_in (xt_7 (List.mem_of_getElem? (i := 125) rfl)) rfl
theorem xw_1566 : (Jvm.Cond.instanceMethod ({ cls := "Rankwise", name := "postfix", desc := "(I)I" } : Jvm.MethodName)) ∈ xTB := xTB_in (xt_7 (List.mem_of_getElem? (i := 126) rfl)) rfl
theorem xw_1567 : (Jvm.Cond.selects "Rankwise" ({ cls := "Rankwise", name := "postfix", desc := "(I)I" } : Jvm.MethodName) ({ cls := "Rankwise", name := "postfix", desc := "(I)I" } : Jvm.MethodName)) ∈ xTB := xTB_in (xt_7 (List.mem_of_getElem? (i := 127) rfl)) rfl
theorem xw_1574 : (Jvm.Cond.methodLink "RankwiseLaw" (101 : Nat) ({ cls := "RankwiseLaw", name := "simpler", desc := "(LRankwise;I)Z" } : Jvm.MethodName)) ∈ xTB := xTB_in (xt_7 (List.mem_of_getElem? (i := 134) rfl)) rfl
theorem xw_1575 : (Jvm.Cond.static ({ cls := "RankwiseLaw", name := "simpler", desc := "(LRankwise;I)Z" } : Jvm.MethodName)) ∈ xTB := xTB_in (xt_7 (List.mem_of_getElem? (i := 135) rfl)) rfl
theorem xw_1576 : (Jvm.Cond.code ({ cls := "RankwiseLaw", name := "simpler", desc := "(LRankwise;I)Z" } : Jvm.MethodName) method_12_code (11 : Nat) (Option.some Jvm.ClassFile.FieldType.boolean)) ∈ xTB := xTB_in (xt_7 (List.mem_of_getElem? (i := 136) rfl)) rfl
theorem xw_1577 : (Jvm.Cond.methodLink "RankwiseLaw" (82 : Nat) ({ cls := "Rankwise", name := "simplify", desc := "(I)I" } : Jvm.MethodName)) ∈ xTB := xTB_in (xt_7 (List.mem_of_getElem? (i := 137) rfl)) rfl
theorem xw_1578 : (Jvm.Cond.instanceMethod ({ cls := "Rankwise", name := "simplify", desc := "(I)I" } : Jvm.MethodName)) ∈ xTB := xTB_in (xt_7 (List.mem_of_getElem? (i := 138) rfl)) rfl
theorem xw_1579 : (Jvm.Cond.selects "Rankwise" ({ cls := "Rankwise", name := "simplify", desc := "(I)I" } : Jvm.MethodName) ({ cls := "Rankwise", name := "simplify", desc := "(I)I" } : Jvm.MethodName)) ∈ xTB := xTB_in (xt_7 (List.mem_of_getElem? (i := 139) rfl)) rfl
theorem xw_1585 : (Jvm.Cond.methodLink "RankwiseLaw" (85 : Nat) ({ cls := "Rankwise", name := "trace", desc := "(II)I" } : Jvm.MethodName)) ∈ xTB := xTB_in (xt_7 (List.mem_of_getElem? (i := 145) rfl)) rfl
theorem xw_1586 : (Jvm.Cond.instanceMethod ({ cls := "Rankwise", name := "trace", desc := "(II)I" } : Jvm.MethodName)) ∈ xTB := xTB_in (xt_7 (List.mem_of_getElem? (i := 146) rfl)) rfl
theorem xw_1587 : (Jvm.Cond.selects "Rankwise" ({ cls := "Rankwise", name := "trace", desc := "(II)I" } : Jvm.MethodName) ({ cls := "Rankwise", name := "trace", desc := "(II)I" } : Jvm.MethodName)) ∈ xTB := xTB_in (xt_7 (List.mem_of_getElem? (i := 147) rfl)) rfl
theorem xw_1590 : (Jvm.Cond.methodLink "RankwiseLaw" (88 : Nat) ({ cls := "Rankwise", name := "step", desc := "(I)I" } : Jvm.MethodName)) ∈ xTB := xTB_in (xt_7 (List.mem_of_getElem? (i := 150) rfl)) rfl
theorem xw_1591 : (Jvm.Cond.instanceMethod ({ cls := "Rankwise", name := "step", desc := "(I)I" } : Jvm.MethodName)) ∈ xTB := xTB_in (xt_7 (List.mem_of_getElem? (i := 151) rfl)) rfl
theorem xw_1592 : (Jvm.Cond.selects "Rankwise" ({ cls := "Rankwise", name := "step", desc := "(I)I" } : Jvm.MethodName) ({ cls := "Rankwise", name := "step", desc := "(I)I" } : Jvm.MethodName)) ∈ xTB := xTB_in (xt_7 (List.mem_of_getElem? (i := 152) rfl)) rfl
abbrev J_L_cell : xJ := (RL, yL_cell, cL_cell, 2, (Option.some Jvm.ClassFile.FieldType.int))
abbrev J_L_low : xJ := (RL, yL_low, cL_low, 2, (Option.some Jvm.ClassFile.FieldType.int))
abbrev J_L_sign : xJ := (RL, yL_sign, cL_sign, 1, (Option.some Jvm.ClassFile.FieldType.char))
abbrev J_L_mayTell : xJ := (RL, yL_mayTell, cL_mayTell, 8, (Option.some Jvm.ClassFile.FieldType.boolean))
abbrev J_L_sum : xJ := (RL, yL_sum, cL_sum, 5, (Option.some Jvm.ClassFile.FieldType.int))
abbrev J_L_types : xJ := (RL, yL_types, cL_types, 5, (Option.none : Option Jvm.ClassFile.FieldType))
abbrev J_L_fill : xJ := (RL, yL_fill, cL_fill, 11, (Option.some Jvm.ClassFile.FieldType.int))
abbrev J_L_faulty : xJ := (RL, yL_faulty, cL_faulty, 7, (Option.some Jvm.ClassFile.FieldType.boolean))
abbrev J_L_printed : xJ := (RL, yL_printed, cL_printed, 5, (Option.some Jvm.ClassFile.FieldType.boolean))
abbrev J_L_reckoned : xJ := (RL, yL_reckoned, cL_reckoned, 5, (Option.some Jvm.ClassFile.FieldType.boolean))
abbrev J_L_simpler : xJ := (RL, yL_simpler, cL_simpler, 11, (Option.some Jvm.ClassFile.FieldType.boolean))
abbrev J_L_sound : xJ := (RL, yL_sound, cL_sound, 6, (Option.some Jvm.ClassFile.FieldType.boolean))
abbrev J_L_law : xJ := (RL, yL_law, cL_law, 13, (Option.some Jvm.ClassFile.FieldType.boolean))
theorem xc_L_cell (J : xJ) (d : Nat) : xCal J J_L_cell d 2 := ⟨xw_1224, rfl, xw_0, by decide +kernel, rfl, ⟨by decide, by decide⟩, by decide +kernel, by decide⟩
theorem xc_L_low (J : xJ) (d : Nat) : xCal J J_L_low d 2 := ⟨xw_1229, rfl, xw_0, by decide +kernel, rfl, ⟨by decide, by decide⟩, by decide +kernel, by decide⟩
theorem xc_L_sign (J : xJ) (d : Nat) : xCal J J_L_sign d 1 := ⟨xw_1233, rfl, xw_0, by decide +kernel, rfl, ⟨by decide, by decide⟩, by decide +kernel, by decide⟩
theorem xc_L_mayTell (J : xJ) (d : Nat) : xCal J J_L_mayTell d 5 := ⟨xw_1236, rfl, xw_0, by decide +kernel, rfl, ⟨by decide, by decide⟩, by decide +kernel, by decide⟩
theorem xc_L_sum (J : xJ) (d : Nat) : xCal J J_L_sum d 1 := ⟨xw_1543, rfl, xw_0, by decide +kernel, rfl, ⟨by decide, by decide⟩, by decide +kernel, by decide⟩
theorem xc_L_types (J : xJ) (d : Nat) : xCal J J_L_types d 4 := ⟨xw_1239, rfl, xw_0, by decide +kernel, rfl, ⟨by decide, by decide⟩, by decide +kernel, by decide⟩
theorem xc_L_fill (J : xJ) (d : Nat) : xCal J J_L_fill d 3 := ⟨xw_1242, rfl, xw_0, by decide +kernel, rfl, ⟨by decide, by decide⟩, by decide +kernel, by decide⟩
theorem xc_L_faulty (J : xJ) (d : Nat) : xCal J J_L_faulty d 4 := ⟨xw_1245, rfl, xw_0, by decide +kernel, rfl, ⟨by decide, by decide⟩, by decide +kernel, by decide⟩
theorem xc_L_printed (J : xJ) (d : Nat) : xCal J J_L_printed d 2 := ⟨xw_1520, rfl, xw_0, by decide +kernel, rfl, ⟨by decide, by decide⟩, by decide +kernel, by decide⟩
theorem xc_L_reckoned (J : xJ) (d : Nat) : xCal J J_L_reckoned d 2 := ⟨xw_1532, rfl, xw_0, by decide +kernel, rfl, ⟨by decide, by decide⟩, by decide +kernel, by decide⟩
theorem xc_L_simpler (J : xJ) (d : Nat) : xCal J J_L_simpler d 2 := ⟨xw_1576, rfl, xw_0, by decide +kernel, rfl, ⟨by decide, by decide⟩, by decide +kernel, by decide⟩
theorem xc_L_sound (J : xJ) (d : Nat) : xCal J J_L_sound d 2 := ⟨xw_1248, rfl, xw_0, by decide +kernel, rfl, ⟨by decide, by decide⟩, by decide +kernel, by decide⟩
-- law: cell
