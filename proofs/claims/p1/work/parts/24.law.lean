/-! THE LAW: its methods that catch, its loop -/
def xLd (aC : Nat → ClassId) (i : Int32) : Option Int32 := if xvi i (aC 104) = true then some (Int32.ofNat (aC (200 + i.toNatClampNeg))) else none
theorem xCatch_of {J : xJ} {pc : Nat} {E : String} {h : Nat} {hh : List (Nat × Nat × Nat × Nat)} {pre : List ExceptionTableEntry} {x : ExceptionTableEntry} {suf : List ExceptionTableEntry} {nm : String} (e0 : xTb J = hh) (e1 : tableOf hh = pre ++ x :: suf) (h1 : ∀ z ∈ pre, z.catchType ≠ 0 ∧ ∃ nm : String, Cond.classLink J.1 z.catchType nm ∈ xTB ∧ (E, nm) ∈ xncs) (h2 : covers x pc = true) (h3 : x.catchType ≠ 0) (h4 : Cond.classLink J.1 x.catchType nm ∈ xTB) (h5 : Cond.castable E nm ∈ xot) (h6 : x.handlerPc = h) : xCatch J pc E h :=
  ⟨pre, x, suf, nm, by rw [e0]; exact e1, h1, h2, h3, h4, h5, h6⟩
section XW
variable {G : xG} {π : Nat → Nat} {J : xJ} {d C C1 C9 Z Z1 Z9 pc : Nat} {L : List (Nat × Value)} {S : List Value} {σ τ : xM} {Q : xQ} {ρ : Type} {r : ρ}
theorem xb_xLd {i : Int32} {K : Int32 → Option ρ} (h : decode J.2.2.1 pc = .ok (.iaload, 1)) (hf : (xLd G.2.2.1 i).bind K = some r) (kk : ∀ x, xLd G.2.2.1 i = some x → K x = some r → xMach G π J d C Z (pc + 1) L (.int x :: S) σ Q) : xMach G π J d C Z pc L (.int i :: .ref xkX :: S) σ Q := by
  obtain ⟨v, h1, h2⟩ := xbind hf
  have h3 := h1
  unfold xLd at h3
  split at h3
  · next q =>
    cases h3
    exact xm_xLd h (xvi_of q) (kk _ h1 h2)
  · cases h3
/-- a call that catches what is thrown: it came back -/
theorem xb_callVcN {J' : xJ} {idx n b ci N : Nat} {T : u_T} {As St : List Value} {v0 : Option Value} {τ0 : xM} (h : decode J.2.2.1 pc = .ok (.invokevirtual idx, 3)) (hc : xCal J J' d n) (hx : xCl ci J'.2.1.cls T N) (hw1 : Cond.methodLink J.1 idx J'.2.1 ∈ xTB) (hw2 : Cond.instanceMethod J'.2.1 ∈ xTB) (hw3 : Cond.selects J'.2.1.cls J'.2.1 J'.2.1 ∈ xTB)
    (hb : xk σ b ci = true) (hn : As.length = n) (hlen : (lg_sl (.ref b :: As)).length ≤ J'.2.2.2.1) (hst : St = As.reverse ++ .ref b :: S) (hS : (S.map fun v => v.category).sum ≤ 8)
    (kc : ∀ Q1 : xQ, Q1 (.inl v0) τ0 π → xMach G π J' d 0 0 0 (lv_args 0 (.ref b :: As)) [] σ Q1)
    (kk : xMach G π J (d + 1) C Z (pc + 3) L (v0.toList ++ S) τ0 Q) (hTb' : xTb J' = [] := by decide) : xMach G π J (d + 1) C Z pc L St σ Q := by
  subst hst
  obtain ⟨q1, q2⟩ := xk_of hb
  have := xm_callVC (hTb' := hTb') (C9 := C) (Z := Z) (L := L) (Q := Q) h hc hx hw1 hw2 hw3 q1 q2 hn hlen hS (kc (fun o τ π' => o = .inl v0 ∧ τ = τ0 ∧ π' = π) ⟨rfl, rfl, rfl⟩) (fun E τ π' q => nomatch q.1) (fun v τ π' q => by obtain ⟨e1, e2, e3⟩ := q; cases e1; rw [e2, e3]; exact ⟨rfl, rfl, kk⟩)
  rwa [Nat.zero_add, Nat.zero_add] at this
/-- it threw, and that is caught -/
theorem xb_callVcX {J' : xJ} {idx n b ci N hp hp' : Nat} {T : u_T} {As St : List Value} {E : String} {τ0 : xM} (h : decode J.2.2.1 pc = .ok (.invokevirtual idx, 3)) (hc : xCal J J' d n) (hx : xCl ci J'.2.1.cls T N) (hw1 : Cond.methodLink J.1 idx J'.2.1 ∈ xTB) (hw2 : Cond.instanceMethod J'.2.1 ∈ xTB) (hw3 : Cond.selects J'.2.1.cls J'.2.1 J'.2.1 ∈ xTB)
    (hb : xk σ b ci = true) (hn : As.length = n) (hlen : (lg_sl (.ref b :: As)).length ≤ J'.2.2.2.1) (hst : St = As.reverse ++ .ref b :: S) (hS : (S.map fun v => v.category).sum ≤ 8)
    (kc : ∀ Q1 : xQ, Q1 (.inr E) τ0 π → xMach G π J' d 1 6 0 (lv_args 0 (.ref b :: As)) [] σ Q1) (hcx : xCatch J pc E hp) (hsx : xStoreAt J hp hp')
    (kk : xMach G π J (d + 1) C Z hp' [] [] τ0 Q) (hTb' : xTb J' = [] := by decide) : xMach G π J (d + 1) (1 + C) (6 + Z) pc L St σ Q := by
  subst hst
  obtain ⟨q1, q2⟩ := xk_of hb
  exact xm_callVC (hTb' := hTb') (C9 := C) (Z := Z) (L := L) (Q := Q) h hc hx hw1 hw2 hw3 q1 q2 hn hlen hS (kc (fun o τ π' => o = .inr E ∧ τ = τ0 ∧ π' = π) ⟨rfl, rfl, rfl⟩) (fun E' τ π' q => by obtain ⟨e1, e2, e3⟩ := q; cases e1; rw [e2, e3]; exact ⟨hp, hp', hcx, hsx, kk⟩) (fun v τ π' q => nomatch q.1)
theorem xb_callSW {J' : xJ} {idx n : Nat} {As St : List Value} {v0 : Option Value} {τ0 : xM} (h : decode J.2.2.1 pc = .ok (.invokestatic idx, 3)) (hc : xCalW J' n) (hw1 : Cond.methodLink J.1 idx J'.2.1 ∈ xTB) (hw2 : Cond.static J'.2.1 ∈ xTB)
    (hn : As.length = n) (hlen : (lg_sl As).length ≤ J'.2.2.2.1) (hst : St = As.reverse ++ S) (hS : (S.map fun v => v.category).sum ≤ 8)
    (kc : ∀ Q1 : xQ, Q1 (.inl v0) τ0 π → xMach G π J' d 1 6 0 (lv_args 0 As) [] σ Q1)
    (kk : xMach G π J (d + 1) C Z (pc + 3) L (v0.toList ++ S) τ0 Q) (hTb : xTb J = [] := by decide) : xMach G π J (d + 1) (1 + C) (6 + Z) pc L St σ Q := by
  subst hst
  exact xm_callSW (hTb := hTb) (C9 := C) (Z := Z) (L := L) (Q := Q) h hc hw1 hw2 hn hlen hS (kc (fun o τ π' => o = .inl v0 ∧ τ = τ0 ∧ π' = π) ⟨rfl, rfl, rfl⟩) (fun E τ π' q => nomatch q.1) (fun v τ π' q => by obtain ⟨e1, e2, e3⟩ := q; cases e1; rw [e2, e3]; exact ⟨rfl, rfl, kk⟩)
/-! what the law makes itself -/
theorem xb_newL {K : xM → Option ρ} {rs : List Nat} {c idx N : Nat} {CN : String} {T : u_T} (h : decode J.2.2.1 pc = .ok (.new idx, 3)) (hx : xCl c CN T N) (hw1 : Cond.classLink J.1 idx CN ∈ xTB) (hw2 : Cond.instantiable CN N ∈ xTB) (hw3 : Cond.initialized CN ∈ xTB) (hd : ∀ j, j < N → defaultValue (xtyp c j) = if xisr (xtyp c j) = true then .null else .int 0)
    (hC : C = 1 + C9) (hZ : Z = N + Z9) (hrs : xrf S ++ xrf (L.map Prod.snd) = rs) (hf : (nwO σ c rs).bind K = some r)
    (kk : ∀ (σ1 : xM) (π1 : Nat → Nat), K σ1 = some r → xMach G π1 J d C9 Z9 (pc + 3) L (.ref σ.1 :: S) σ1 Q) : xMach G π J d C Z pc L S σ Q := by
  subst hC hZ
  obtain ⟨σ1, e1, e2⟩ := xbind hf
  unfold nwO at e1
  split at e1
  · next q =>
    rw [Bool.and_eq_true, decide_eq_true_eq] at q
    cases e1
    obtain ⟨f1, f2⟩ := xRs_of hrs q.1
    exact xm_new h hx hw1 hw2 hw3 hd q.2 f1 f2 (fun a => kk _ _ e2)
  · cases e1
theorem xb_newaJL {K : xM → Option ρ} {rs : List Nat} {n : Int32} {N : Nat} (h : decode J.2.2.1 pc = .ok (.newarray .long, 2)) (hw : Cond.arrayClass .long ∈ xTB) (hN : n.toNatClampNeg = N) (hC : C = 1 + C9) (hZ : Z = N + Z9) (hrs : xrf S ++ xrf (L.map Prod.snd) = rs) (hf : (nwA σ 19 n (componentBytes .long) rs).bind K = some r)
    (kk : ∀ (σ1 : xM) (π1 : Nat → Nat), K σ1 = some r → xMach G π1 J d C9 Z9 (pc + 2) L (.ref σ.1 :: S) σ1 Q) : xMach G π J d C Z pc L (.int n :: S) σ Q := by
  subst hC hZ hN
  obtain ⟨σ1, e1, e2⟩ := xbind hf
  obtain ⟨q1, q2, q3, q4, rfl⟩ := nwA_of e1
  obtain ⟨f1, f2⟩ := xRs_of hrs q1
  exact xm_newaJ h hw q3 rfl q4 q2 f1 f2 (fun a => kk _ _ e2)
theorem xb_ctorL {K : xM → Option ρ} {rs : List Nat} {J' : xJ} {idx n b : Nat} {As St : List Value} {τ1 : xM} (h : decode J.2.2.1 pc = .ok (.invokespecial idx, 3)) (hc : xCal J J' d n) (hret : J'.2.2.2.2 = none) (hinit : J'.2.1.name = "<init>") (hw1 : Cond.methodLink J.1 idx J'.2.1 ∈ xTB) (hw2 : Cond.instanceMethod J'.2.1 ∈ xTB)
    (hnA : As.length = n) (hlen : (lg_sl (.ref b :: As)).length ≤ J'.2.2.2.1) (hst : St = As.reverse ++ .ref b :: S) (hS : (S.map fun v => v.category).sum ≤ 8)
    (kc : ∀ Q1 : xQ, xPost σ.1 π τ1 Q1 → xMach G π J' d C1 Z1 0 (lv_args 0 (.ref b :: As)) [] σ Q1) (hC : C = C1 + C9) (hZ : Z = Z1 + Z9) (hrs : xrf S ++ xrf (L.map Prod.snd) = rs) (hf : (cdo σ τ1 rs).bind K = some r)
    (kk : ∀ (σ1 : xM) (π1 : Nat → Nat), K σ1 = some r → xMach G π1 J (d + 1) C9 Z9 (pc + 3) L S σ1 Q) (hTb : xTb J = [] := by decide) (hTb' : xTb J' = [] := by decide) : xMach G π J (d + 1) C Z pc L St σ Q := by
  subst hC hZ hst
  obtain ⟨σ1, e1, e2⟩ := xbind hf
  obtain ⟨rfl, q1, q2⟩ := cdo_of e1
  obtain ⟨f1, f2⟩ := xRs_of hrs q2
  exact xm_callI (hTb := hTb) (hTb' := hTb') h hc hret hinit hw1 hw2 hnA hlen hS (kc (fun o τ' π' => o = .inl none ∧ τ' = σ1 ∧ xag σ.1 π π') (fun π' hp => ⟨rfl, rfl, hp⟩)) (fun E τ' π' q => nomatch q.1) (fun v τ' π' q => by
    obtain ⟨z1, z2, z3⟩ := q
    cases z1
    rw [z2]
    exact ⟨xfr_S z3 f1, xfr_L z3 f2, kk _ _ e2⟩)
end XW

theorem xw_0 : (Jvm.Cond.initialized "RankwiseLaw") ∈ xTB := xTB_in (xt_1 (List.mem_of_getElem? (i := 0) rfl)) rfl
theorem xw_26 : (Jvm.Cond.classLink "RankwiseLaw" (8 : Nat) "Rankwise") ∈ xTB := xTB_in (xt_1 (List.mem_of_getElem? (i := 26) rfl)) rfl
theorem xw_27 : (Jvm.Cond.instantiable "Rankwise" (16 : Nat)) ∈ xTB := xTB_in (xt_1 (List.mem_of_getElem? (i := 27) rfl)) rfl
theorem xw_28 : (Jvm.Cond.methodLink "RankwiseLaw" (112 : Nat) ({ cls := "Rankwise", name := "<init>", desc := "()V" } : Jvm.MethodName)) ∈ xTB := xTB_in (xt_1 (List.mem_of_getElem? (i := 28) rfl)) rfl
theorem xw_29 : (Jvm.Cond.instanceMethod ({ cls := "Rankwise", name := "<init>", desc := "()V" } : Jvm.MethodName)) ∈ xTB := xTB_in (xt_1 (List.mem_of_getElem? (i := 29) rfl)) rfl
theorem xw_644 : (Jvm.Cond.methodLink "RankwiseLaw" (125 : Nat) ({ cls := "Rankwise", name := "drop", desc := "()I" } : Jvm.MethodName)) ∈ xTB := xTB_in (xt_3 (List.mem_of_getElem? (i := 164) rfl)) rfl
theorem xw_645 : (Jvm.Cond.instanceMethod ({ cls := "Rankwise", name := "drop", desc := "()I" } : Jvm.MethodName)) ∈ xTB := xTB_in (xt_3 (List.mem_of_getElem? (i := 165) rfl)) rfl
theorem xw_646 : (Jvm.Cond.selects "Rankwise" ({ cls := "Rankwise", name := "drop", desc := "()I" } : Jvm.MethodName) ({ cls := "Rankwise", name := "drop", desc := "()I" } : Jvm.MethodName)) ∈ xTB := xTB_in (xt_3 (List.mem_of_getElem? (i := 166) rfl)) rfl
theorem xw_648 : (Jvm.Cond.methodLink "RankwiseLaw" (129 : Nat) ({ cls := "Rankwise", name := "fault", desc := "()I" } : Jvm.MethodName)) ∈ xTB := xTB_in (xt_3 (List.mem_of_getElem? (i := 168) rfl)) rfl
theorem xw_649 : (Jvm.Cond.instanceMethod ({ cls := "Rankwise", name := "fault", desc := "()I" } : Jvm.MethodName)) ∈ xTB := xTB_in (xt_3 (List.mem_of_getElem? (i := 169) rfl)) rfl
theorem xw_650 : (Jvm.Cond.selects "Rankwise" ({ cls := "Rankwise", name := "fault", desc := "()I" } : Jvm.MethodName) ({ cls := "Rankwise", name := "fault", desc := "()I" } : Jvm.MethodName)) ∈ xTB := xTB_in (xt_3 (List.mem_of_getElem? (i := 170) rfl)) rfl
theorem xw_737 : (Jvm.Cond.methodLink "RankwiseLaw" (137 : Nat) ({ cls := "Rankwise", name := "trees", desc := "()I" } : Jvm.MethodName)) ∈ xTB := xTB_in (xt_4 (List.mem_of_getElem? (i := 17) rfl)) rfl
theorem xw_738 : (Jvm.Cond.instanceMethod ({ cls := "Rankwise", name := "trees", desc := "()I" } : Jvm.MethodName)) ∈ xTB := xTB_in (xt_4 (List.mem_of_getElem? (i := 18) rfl)) rfl
theorem xw_739 : (Jvm.Cond.selects "Rankwise" ({ cls := "Rankwise", name := "trees", desc := "()I" } : Jvm.MethodName) ({ cls := "Rankwise", name := "trees", desc := "()I" } : Jvm.MethodName)) ∈ xTB := xTB_in (xt_4 (List.mem_of_getElem? (i := 19) rfl)) rfl
theorem xw_741 : (Jvm.Cond.methodLink "RankwiseLaw" (224 : Nat) ({ cls := "Rankwise", name := "undo", desc := "()I" } : Jvm.MethodName)) ∈ xTB := xTB_in (xt_4 (List.mem_of_getElem? (i := 21) rfl)) rfl
theorem xw_742 : (Jvm.Cond.instanceMethod ({ cls := "Rankwise", name := "undo", desc := "()I" } : Jvm.MethodName)) ∈ xTB := xTB_in (xt_4 (List.mem_of_getElem? (i := 22) rfl)) rfl
theorem xw_743 : (Jvm.Cond.selects "Rankwise" ({ cls := "Rankwise", name := "undo", desc := "()I" } : Jvm.MethodName) ({ cls := "Rankwise", name := "undo", desc := "()I" } : Jvm.MethodName)) ∈ xTB := xTB_in (xt_4 (List.mem_of_getElem? (i := 23) rfl)) rfl
theorem xw_764 : (Jvm.Cond.methodLink "RankwiseLaw" (116 : Nat) ({ cls := "RankwiseLaw", name := "type", desc := "(LRankwise;C[J)I" } : Jvm.MethodName)) ∈ xTB := xTB_in (xt_4 (List.mem_of_getElem? (i := 44) rfl)) rfl
theorem xw_765 : (Jvm.Cond.static ({ cls := "RankwiseLaw", name := "type", desc := "(LRankwise;C[J)I" } : Jvm.MethodName)) ∈ xTB := xTB_in (xt_4 (List.mem_of_getElem? (i := 45) rfl)) rfl
theorem xw_766 : (Jvm.Cond.codeWith ({ cls := "RankwiseLaw", name := "type", desc := "(LRankwise;C[J)I" } : Jvm.MethodName) method_3_code (4 : Nat) (Option.some Jvm.ClassFile.FieldType.int) [((0 : Nat), (9 : Nat), (12 : Nat), (13 : Nat))]) ∈ xTB := xTB_in (xt_4 (List.mem_of_getElem? (i := 46) rfl)) rfl
theorem xw_767 : (Jvm.Cond.classLink "RankwiseLaw" (13 : Nat) "java/lang/IllegalStateException") ∈ xTB := xTB_in (xt_4 (List.mem_of_getElem? (i := 47) rfl)) rfl
theorem xw_768 : (Jvm.Cond.methodLink "RankwiseLaw" (7 : Nat) ({ cls := "Rankwise", name := "type", desc := "(C)I" } : Jvm.MethodName)) ∈ xTB := xTB_in (xt_4 (List.mem_of_getElem? (i := 48) rfl)) rfl
theorem xw_769 : (Jvm.Cond.instanceMethod ({ cls := "Rankwise", name := "type", desc := "(C)I" } : Jvm.MethodName)) ∈ xTB := xTB_in (xt_4 (List.mem_of_getElem? (i := 49) rfl)) rfl
theorem xw_770 : (Jvm.Cond.selects "Rankwise" ({ cls := "Rankwise", name := "type", desc := "(C)I" } : Jvm.MethodName) ({ cls := "Rankwise", name := "type", desc := "(C)I" } : Jvm.MethodName)) ∈ xTB := xTB_in (xt_4 (List.mem_of_getElem? (i := 50) rfl)) rfl
theorem xw_839 : (Jvm.Cond.methodLink "RankwiseLaw" (133 : Nat) ({ cls := "RankwiseLaw", name := "read", desc := "(LRankwise;[J)I" } : Jvm.MethodName)) ∈ xTB := xTB_in (xt_4 (List.mem_of_getElem? (i := 119) rfl)) rfl
theorem xw_840 : (Jvm.Cond.static ({ cls := "RankwiseLaw", name := "read", desc := "(LRankwise;[J)I" } : Jvm.MethodName)) ∈ xTB := xTB_in (xt_4 (List.mem_of_getElem? (i := 120) rfl)) rfl
theorem xw_841 : (Jvm.Cond.codeWith ({ cls := "RankwiseLaw", name := "read", desc := "(LRankwise;[J)I" } : Jvm.MethodName) method_4_code (3 : Nat) (Option.some Jvm.ClassFile.FieldType.int) [((0 : Nat), (8 : Nat), (11 : Nat), (13 : Nat))]) ∈ xTB := xTB_in (xt_4 (List.mem_of_getElem? (i := 121) rfl)) rfl
theorem xw_842 : (Jvm.Cond.methodLink "RankwiseLaw" (15 : Nat) ({ cls := "Rankwise", name := "read", desc := "()I" } : Jvm.MethodName)) ∈ xTB := xTB_in (xt_4 (List.mem_of_getElem? (i := 122) rfl)) rfl
theorem xw_843 : (Jvm.Cond.instanceMethod ({ cls := "Rankwise", name := "read", desc := "()I" } : Jvm.MethodName)) ∈ xTB := xTB_in (xt_4 (List.mem_of_getElem? (i := 123) rfl)) rfl
theorem xw_844 : (Jvm.Cond.selects "Rankwise" ({ cls := "Rankwise", name := "read", desc := "()I" } : Jvm.MethodName) ({ cls := "Rankwise", name := "read", desc := "()I" } : Jvm.MethodName)) ∈ xTB := xTB_in (xt_4 (List.mem_of_getElem? (i := 124) rfl)) rfl
theorem xw_888 : (Jvm.Cond.methodLink "RankwiseLaw" (141 : Nat) ({ cls := "RankwiseLaw", name := "node", desc := "(LRankwise;III[J)I" } : Jvm.MethodName)) ∈ xTB := xTB_in (xt_4 (List.mem_of_getElem? (i := 168) rfl)) rfl
theorem xw_889 : (Jvm.Cond.static ({ cls := "RankwiseLaw", name := "node", desc := "(LRankwise;III[J)I" } : Jvm.MethodName)) ∈ xTB := xTB_in (xt_4 (List.mem_of_getElem? (i := 169) rfl)) rfl
theorem xw_890 : (Jvm.Cond.codeWith ({ cls := "RankwiseLaw", name := "node", desc := "(LRankwise;III[J)I" } : Jvm.MethodName) method_5_code (6 : Nat) (Option.some Jvm.ClassFile.FieldType.int) [((0 : Nat), (12 : Nat), (15 : Nat), (23 : Nat)), ((0 : Nat), (12 : Nat), (19 : Nat), (25 : Nat))]) ∈ xTB := xTB_in (xt_4 (List.mem_of_getElem? (i := 170) rfl)) rfl
theorem xw_891 : (Jvm.Cond.classLink "RankwiseLaw" (23 : Nat) "java/lang/IndexOutOfBoundsException") ∈ xTB := xTB_in (xt_4 (List.mem_of_getElem? (i := 171) rfl)) rfl
theorem xw_892 : (Jvm.Cond.classLink "RankwiseLaw" (25 : Nat) "java/lang/IllegalArgumentException") ∈ xTB := xTB_in (xt_4 (List.mem_of_getElem? (i := 172) rfl)) rfl
theorem xw_893 : (Jvm.Cond.methodLink "RankwiseLaw" (19 : Nat) ({ cls := "Rankwise", name := "node", desc := "(III)I" } : Jvm.MethodName)) ∈ xTB := xTB_in (xt_4 (List.mem_of_getElem? (i := 173) rfl)) rfl
theorem xw_894 : (Jvm.Cond.instanceMethod ({ cls := "Rankwise", name := "node", desc := "(III)I" } : Jvm.MethodName)) ∈ xTB := xTB_in (xt_4 (List.mem_of_getElem? (i := 174) rfl)) rfl
theorem xw_895 : (Jvm.Cond.selects "Rankwise" ({ cls := "Rankwise", name := "node", desc := "(III)I" } : Jvm.MethodName) ({ cls := "Rankwise", name := "node", desc := "(III)I" } : Jvm.MethodName)) ∈ xTB := xTB_in (xt_4 (List.mem_of_getElem? (i := 175) rfl)) rfl
theorem xw_942 : (Jvm.Cond.methodLink "RankwiseLaw" (145 : Nat) ({ cls := "RankwiseLaw", name := "isSame", desc := "(LRankwise;II[J)I" } : Jvm.MethodName)) ∈ xTB := xTB_in (xt_4 (List.mem_of_getElem? (i := 222) rfl)) rfl
theorem xw_943 : (Jvm.Cond.static ({ cls := "RankwiseLaw", name := "isSame", desc := "(LRankwise;II[J)I" } : Jvm.MethodName)) ∈ xTB := xTB_in (xt_4 (List.mem_of_getElem? (i := 223) rfl)) rfl
theorem xw_944 : (Jvm.Cond.codeWith ({ cls := "RankwiseLaw", name := "isSame", desc := "(LRankwise;II[J)I" } : Jvm.MethodName) method_6_code (5 : Nat) (Option.some Jvm.ClassFile.FieldType.int) [((0 : Nat), (17 : Nat), (20 : Nat), (23 : Nat))]) ∈ xTB := xTB_in (xt_4 (List.mem_of_getElem? (i := 224) rfl)) rfl
theorem xw_945 : (Jvm.Cond.methodLink "RankwiseLaw" (27 : Nat) ({ cls := "Rankwise", name := "isSame", desc := "(II)Z" } : Jvm.MethodName)) ∈ xTB := xTB_in (xt_4 (List.mem_of_getElem? (i := 225) rfl)) rfl
theorem xw_946 : (Jvm.Cond.instanceMethod ({ cls := "Rankwise", name := "isSame", desc := "(II)Z" } : Jvm.MethodName)) ∈ xTB := xTB_in (xt_4 (List.mem_of_getElem? (i := 226) rfl)) rfl
theorem xw_947 : (Jvm.Cond.selects "Rankwise" ({ cls := "Rankwise", name := "isSame", desc := "(II)Z" } : Jvm.MethodName) ({ cls := "Rankwise", name := "isSame", desc := "(II)Z" } : Jvm.MethodName)) ∈ xTB := xTB_in (xt_4 (List.mem_of_getElem? (i := 227) rfl)) rfl
theorem xw_957 : (Jvm.Cond.methodLink "RankwiseLaw" (149 : Nat) ({ cls := "RankwiseLaw", name := "part", desc := "(LRankwise;II[J)I" } : Jvm.MethodName)) ∈ xTB := xTB_in (xt_4 (List.mem_of_getElem? (i := 237) rfl)) rfl
theorem xw_958 : (Jvm.Cond.static ({ cls := "RankwiseLaw", name := "part", desc := "(LRankwise;II[J)I" } : Jvm.MethodName)) ∈ xTB := xTB_in (xt_4 (List.mem_of_getElem? (i := 238) rfl)) rfl
theorem xw_959 : (Jvm.Cond.codeWith ({ cls := "RankwiseLaw", name := "part", desc := "(LRankwise;II[J)I" } : Jvm.MethodName) method_7_code (5 : Nat) (Option.some Jvm.ClassFile.FieldType.int) [((0 : Nat), (10 : Nat), (13 : Nat), (23 : Nat)), ((0 : Nat), (10 : Nat), (17 : Nat), (13 : Nat))]) ∈ xTB := xTB_in (xt_4 (List.mem_of_getElem? (i := 239) rfl)) rfl
theorem xw_960 : (Jvm.Cond.methodLink "RankwiseLaw" (31 : Nat) ({ cls := "Rankwise", name := "part", desc := "(II)I" } : Jvm.MethodName)) ∈ xTB := xTB_in (xt_5 (List.mem_of_getElem? (i := 0) rfl)) rfl
theorem xw_961 : (Jvm.Cond.instanceMethod ({ cls := "Rankwise", name := "part", desc := "(II)I" } : Jvm.MethodName)) ∈ xTB := xTB_in (xt_5 (List.mem_of_getElem? (i := 1) rfl)) rfl
theorem xw_962 : (Jvm.Cond.selects "Rankwise" ({ cls := "Rankwise", name := "part", desc := "(II)I" } : Jvm.MethodName) ({ cls := "Rankwise", name := "part", desc := "(II)I" } : Jvm.MethodName)) ∈ xTB := xTB_in (xt_5 (List.mem_of_getElem? (i := 2) rfl)) rfl
theorem xw_967 : (Jvm.Cond.methodLink "RankwiseLaw" (152 : Nat) ({ cls := "RankwiseLaw", name := "graft", desc := "(LRankwise;ICI[J)I" } : Jvm.MethodName)) ∈ xTB := xTB_in (xt_5 (List.mem_of_getElem? (i := 7) rfl)) rfl
theorem xw_968 : (Jvm.Cond.static ({ cls := "RankwiseLaw", name := "graft", desc := "(LRankwise;ICI[J)I" } : Jvm.MethodName)) ∈ xTB := xTB_in (xt_5 (List.mem_of_getElem? (i := 8) rfl)) rfl
theorem xw_969 : (Jvm.Cond.codeWith ({ cls := "RankwiseLaw", name := "graft", desc := "(LRankwise;ICI[J)I" } : Jvm.MethodName) method_8_code (6 : Nat) (Option.some Jvm.ClassFile.FieldType.int) [((0 : Nat), (12 : Nat), (15 : Nat), (23 : Nat)), ((0 : Nat), (12 : Nat), (19 : Nat), (25 : Nat)), ((0 : Nat), (12 : Nat), (23 : Nat), (13 : Nat))]) ∈ xTB := xTB_in (xt_5 (List.mem_of_getElem? (i := 9) rfl)) rfl
theorem xw_970 : (Jvm.Cond.methodLink "RankwiseLaw" (35 : Nat) ({ cls := "Rankwise", name := "graft", desc := "(ICI)I" } : Jvm.MethodName)) ∈ xTB := xTB_in (xt_5 (List.mem_of_getElem? (i := 10) rfl)) rfl
theorem xw_971 : (Jvm.Cond.instanceMethod ({ cls := "Rankwise", name := "graft", desc := "(ICI)I" } : Jvm.MethodName)) ∈ xTB := xTB_in (xt_5 (List.mem_of_getElem? (i := 11) rfl)) rfl
theorem xw_972 : (Jvm.Cond.selects "Rankwise" ({ cls := "Rankwise", name := "graft", desc := "(ICI)I" } : Jvm.MethodName) ({ cls := "Rankwise", name := "graft", desc := "(ICI)I" } : Jvm.MethodName)) ∈ xTB := xTB_in (xt_5 (List.mem_of_getElem? (i := 12) rfl)) rfl
theorem xw_988 : (Jvm.Cond.methodLink "RankwiseLaw" (156 : Nat) ({ cls := "RankwiseLaw", name := "tell", desc := "(LRankwise;CIIII[J)I" } : Jvm.MethodName)) ∈ xTB := xTB_in (xt_5 (List.mem_of_getElem? (i := 28) rfl)) rfl
theorem xw_989 : (Jvm.Cond.static ({ cls := "RankwiseLaw", name := "tell", desc := "(LRankwise;CIIII[J)I" } : Jvm.MethodName)) ∈ xTB := xTB_in (xt_5 (List.mem_of_getElem? (i := 29) rfl)) rfl
theorem xw_990 : (Jvm.Cond.codeWith ({ cls := "RankwiseLaw", name := "tell", desc := "(LRankwise;CIIII[J)I" } : Jvm.MethodName) method_9_code (8 : Nat) (Option.some Jvm.ClassFile.FieldType.int) [((0 : Nat), (16 : Nat), (19 : Nat), (25 : Nat)), ((0 : Nat), (16 : Nat), (23 : Nat), (13 : Nat))]) ∈ xTB := xTB_in (xt_5 (List.mem_of_getElem? (i := 30) rfl)) rfl
theorem xw_991 : (Jvm.Cond.methodLink "RankwiseLaw" (39 : Nat) ({ cls := "Rankwise", name := "tell", desc := "(CIIII)I" } : Jvm.MethodName)) ∈ xTB := xTB_in (xt_5 (List.mem_of_getElem? (i := 31) rfl)) rfl
theorem xw_992 : (Jvm.Cond.instanceMethod ({ cls := "Rankwise", name := "tell", desc := "(CIIII)I" } : Jvm.MethodName)) ∈ xTB := xTB_in (xt_5 (List.mem_of_getElem? (i := 32) rfl)) rfl
theorem xw_993 : (Jvm.Cond.selects "Rankwise" ({ cls := "Rankwise", name := "tell", desc := "(CIIII)I" } : Jvm.MethodName) ({ cls := "Rankwise", name := "tell", desc := "(CIIII)I" } : Jvm.MethodName)) ∈ xTB := xTB_in (xt_5 (List.mem_of_getElem? (i := 33) rfl)) rfl
theorem xw_1014 : (Jvm.Cond.methodLink "RankwiseLaw" (160 : Nat) ({ cls := "RankwiseLaw", name := "told", desc := "(LRankwise;CII[J)I" } : Jvm.MethodName)) ∈ xTB := xTB_in (xt_5 (List.mem_of_getElem? (i := 54) rfl)) rfl
theorem xw_1015 : (Jvm.Cond.static ({ cls := "RankwiseLaw", name := "told", desc := "(LRankwise;CII[J)I" } : Jvm.MethodName)) ∈ xTB := xTB_in (xt_5 (List.mem_of_getElem? (i := 55) rfl)) rfl
theorem xw_1016 : (Jvm.Cond.codeWith ({ cls := "RankwiseLaw", name := "told", desc := "(LRankwise;CII[J)I" } : Jvm.MethodName) method_10_code (6 : Nat) (Option.some Jvm.ClassFile.FieldType.int) [((0 : Nat), (12 : Nat), (15 : Nat), (25 : Nat))]) ∈ xTB := xTB_in (xt_5 (List.mem_of_getElem? (i := 56) rfl)) rfl
theorem xw_1017 : (Jvm.Cond.methodLink "RankwiseLaw" (43 : Nat) ({ cls := "Rankwise", name := "told", desc := "(CII)I" } : Jvm.MethodName)) ∈ xTB := xTB_in (xt_5 (List.mem_of_getElem? (i := 57) rfl)) rfl
theorem xw_1018 : (Jvm.Cond.instanceMethod ({ cls := "Rankwise", name := "told", desc := "(CII)I" } : Jvm.MethodName)) ∈ xTB := xTB_in (xt_5 (List.mem_of_getElem? (i := 58) rfl)) rfl
theorem xw_1019 : (Jvm.Cond.selects "Rankwise" ({ cls := "Rankwise", name := "told", desc := "(CII)I" } : Jvm.MethodName) ({ cls := "Rankwise", name := "told", desc := "(CII)I" } : Jvm.MethodName)) ∈ xTB := xTB_in (xt_5 (List.mem_of_getElem? (i := 59) rfl)) rfl
theorem xw_1027 : (Jvm.Cond.methodLink "RankwiseLaw" (164 : Nat) ({ cls := "RankwiseLaw", name := "print", desc := "(LRankwise;I[J)I" } : Jvm.MethodName)) ∈ xTB := xTB_in (xt_5 (List.mem_of_getElem? (i := 67) rfl)) rfl
theorem xw_1028 : (Jvm.Cond.static ({ cls := "RankwiseLaw", name := "print", desc := "(LRankwise;I[J)I" } : Jvm.MethodName)) ∈ xTB := xTB_in (xt_5 (List.mem_of_getElem? (i := 68) rfl)) rfl
theorem xw_1029 : (Jvm.Cond.codeWith ({ cls := "RankwiseLaw", name := "print", desc := "(LRankwise;I[J)I" } : Jvm.MethodName) method_11_code (4 : Nat) (Option.some Jvm.ClassFile.FieldType.int) [((0 : Nat), (9 : Nat), (12 : Nat), (23 : Nat))]) ∈ xTB := xTB_in (xt_5 (List.mem_of_getElem? (i := 69) rfl)) rfl
theorem xw_1030 : (Jvm.Cond.methodLink "RankwiseLaw" (47 : Nat) ({ cls := "Rankwise", name := "print", desc := "(I)I" } : Jvm.MethodName)) ∈ xTB := xTB_in (xt_5 (List.mem_of_getElem? (i := 70) rfl)) rfl
theorem xw_1031 : (Jvm.Cond.instanceMethod ({ cls := "Rankwise", name := "print", desc := "(I)I" } : Jvm.MethodName)) ∈ xTB := xTB_in (xt_5 (List.mem_of_getElem? (i := 71) rfl)) rfl
theorem xw_1032 : (Jvm.Cond.selects "Rankwise" ({ cls := "Rankwise", name := "print", desc := "(I)I" } : Jvm.MethodName) ({ cls := "Rankwise", name := "print", desc := "(I)I" } : Jvm.MethodName)) ∈ xTB := xTB_in (xt_5 (List.mem_of_getElem? (i := 72) rfl)) rfl
theorem xw_1085 : (Jvm.Cond.methodLink "RankwiseLaw" (168 : Nat) ({ cls := "RankwiseLaw", name := "postfix", desc := "(LRankwise;I[J)I" } : Jvm.MethodName)) ∈ xTB := xTB_in (xt_5 (List.mem_of_getElem? (i := 125) rfl)) rfl
theorem xw_1086 : (Jvm.Cond.static ({ cls := "RankwiseLaw", name := "postfix", desc := "(LRankwise;I[J)I" } : Jvm.MethodName)) ∈ xTB := xTB_in (xt_5 (List.mem_of_getElem? (i := 126) rfl)) rfl
theorem xw_1087 : (Jvm.Cond.codeWith ({ cls := "RankwiseLaw", name := "postfix", desc := "(LRankwise;I[J)I" } : Jvm.MethodName) method_12_code (4 : Nat) (Option.some Jvm.ClassFile.FieldType.int) [((0 : Nat), (9 : Nat), (12 : Nat), (23 : Nat)), ((0 : Nat), (9 : Nat), (15 : Nat), (13 : Nat))]) ∈ xTB := xTB_in (xt_5 (List.mem_of_getElem? (i := 127) rfl)) rfl
theorem xw_1088 : (Jvm.Cond.methodLink "RankwiseLaw" (51 : Nat) ({ cls := "Rankwise", name := "postfix", desc := "(I)I" } : Jvm.MethodName)) ∈ xTB := xTB_in (xt_5 (List.mem_of_getElem? (i := 128) rfl)) rfl
theorem xw_1089 : (Jvm.Cond.instanceMethod ({ cls := "Rankwise", name := "postfix", desc := "(I)I" } : Jvm.MethodName)) ∈ xTB := xTB_in (xt_5 (List.mem_of_getElem? (i := 129) rfl)) rfl
theorem xw_1090 : (Jvm.Cond.selects "Rankwise" ({ cls := "Rankwise", name := "postfix", desc := "(I)I" } : Jvm.MethodName) ({ cls := "Rankwise", name := "postfix", desc := "(I)I" } : Jvm.MethodName)) ∈ xTB := xTB_in (xt_5 (List.mem_of_getElem? (i := 130) rfl)) rfl
theorem xw_1106 : (Jvm.Cond.methodLink "RankwiseLaw" (171 : Nat) ({ cls := "RankwiseLaw", name := "out", desc := "(LRankwise;I[J)I" } : Jvm.MethodName)) ∈ xTB := xTB_in (xt_5 (List.mem_of_getElem? (i := 146) rfl)) rfl
theorem xw_1107 : (Jvm.Cond.static ({ cls := "RankwiseLaw", name := "out", desc := "(LRankwise;I[J)I" } : Jvm.MethodName)) ∈ xTB := xTB_in (xt_5 (List.mem_of_getElem? (i := 147) rfl)) rfl
theorem xw_1108 : (Jvm.Cond.codeWith ({ cls := "RankwiseLaw", name := "out", desc := "(LRankwise;I[J)I" } : Jvm.MethodName) method_13_code (4 : Nat) (Option.some Jvm.ClassFile.FieldType.int) [((0 : Nat), (9 : Nat), (12 : Nat), (23 : Nat))]) ∈ xTB := xTB_in (xt_5 (List.mem_of_getElem? (i := 148) rfl)) rfl
theorem xw_1109 : (Jvm.Cond.methodLink "RankwiseLaw" (54 : Nat) ({ cls := "Rankwise", name := "out", desc := "(I)I" } : Jvm.MethodName)) ∈ xTB := xTB_in (xt_5 (List.mem_of_getElem? (i := 149) rfl)) rfl
theorem xw_1110 : (Jvm.Cond.instanceMethod ({ cls := "Rankwise", name := "out", desc := "(I)I" } : Jvm.MethodName)) ∈ xTB := xTB_in (xt_5 (List.mem_of_getElem? (i := 150) rfl)) rfl
theorem xw_1111 : (Jvm.Cond.selects "Rankwise" ({ cls := "Rankwise", name := "out", desc := "(I)I" } : Jvm.MethodName) ({ cls := "Rankwise", name := "out", desc := "(I)I" } : Jvm.MethodName)) ∈ xTB := xTB_in (xt_5 (List.mem_of_getElem? (i := 151) rfl)) rfl
theorem xw_1114 : (Jvm.Cond.methodLink "RankwiseLaw" (174 : Nat) ({ cls := "RankwiseLaw", name := "evaluate", desc := "(LRankwise;I[J)I" } : Jvm.MethodName)) ∈ xTB := xTB_in (xt_5 (List.mem_of_getElem? (i := 154) rfl)) rfl
theorem xw_1115 : (Jvm.Cond.static ({ cls := "RankwiseLaw", name := "evaluate", desc := "(LRankwise;I[J)I" } : Jvm.MethodName)) ∈ xTB := xTB_in (xt_5 (List.mem_of_getElem? (i := 155) rfl)) rfl
theorem xw_1116 : (Jvm.Cond.codeWith ({ cls := "RankwiseLaw", name := "evaluate", desc := "(LRankwise;I[J)I" } : Jvm.MethodName) method_14_code (4 : Nat) (Option.some Jvm.ClassFile.FieldType.int) [((0 : Nat), (9 : Nat), (12 : Nat), (23 : Nat))]) ∈ xTB := xTB_in (xt_5 (List.mem_of_getElem? (i := 156) rfl)) rfl
theorem xw_1117 : (Jvm.Cond.methodLink "RankwiseLaw" (57 : Nat) ({ cls := "Rankwise", name := "evaluate", desc := "(I)I" } : Jvm.MethodName)) ∈ xTB := xTB_in (xt_5 (List.mem_of_getElem? (i := 157) rfl)) rfl
theorem xw_1118 : (Jvm.Cond.instanceMethod ({ cls := "Rankwise", name := "evaluate", desc := "(I)I" } : Jvm.MethodName)) ∈ xTB := xTB_in (xt_5 (List.mem_of_getElem? (i := 158) rfl)) rfl
theorem xw_1119 : (Jvm.Cond.selects "Rankwise" ({ cls := "Rankwise", name := "evaluate", desc := "(I)I" } : Jvm.MethodName) ({ cls := "Rankwise", name := "evaluate", desc := "(I)I" } : Jvm.MethodName)) ∈ xTB := xTB_in (xt_5 (List.mem_of_getElem? (i := 159) rfl)) rfl
theorem xw_1379 : (Jvm.Cond.methodLink "RankwiseLaw" (177 : Nat) ({ cls := "RankwiseLaw", name := "reckon", desc := "(LRankwise;I[J)I" } : Jvm.MethodName)) ∈ xTB := xTB_in (xt_6 (List.mem_of_getElem? (i := 179) rfl)) rfl
theorem xw_1380 : (Jvm.Cond.static ({ cls := "RankwiseLaw", name := "reckon", desc := "(LRankwise;I[J)I" } : Jvm.MethodName)) ∈ xTB := xTB_in (xt_6 (List.mem_of_getElem? (i := 180) rfl)) rfl
theorem xw_1381 : (Jvm.Cond.codeWith ({ cls := "RankwiseLaw", name := "reckon", desc := "(LRankwise;I[J)I" } : Jvm.MethodName) method_15_code (4 : Nat) (Option.some Jvm.ClassFile.FieldType.int) [((0 : Nat), (9 : Nat), (12 : Nat), (23 : Nat)), ((0 : Nat), (9 : Nat), (15 : Nat), (13 : Nat))]) ∈ xTB := xTB_in (xt_6 (List.mem_of_getElem? (i := 181) rfl)) rfl
theorem xw_1382 : (Jvm.Cond.methodLink "RankwiseLaw" (60 : Nat) ({ cls := "Rankwise", name := "reckon", desc := "(I)I" } : Jvm.MethodName)) ∈ xTB := xTB_in (xt_6 (List.mem_of_getElem? (i := 182) rfl)) rfl
theorem xw_1383 : (Jvm.Cond.instanceMethod ({ cls := "Rankwise", name := "reckon", desc := "(I)I" } : Jvm.MethodName)) ∈ xTB := xTB_in (xt_6 (List.mem_of_getElem? (i := 183) rfl)) rfl
theorem xw_1384 : (Jvm.Cond.selects "Rankwise" ({ cls := "Rankwise", name := "reckon", desc := "(I)I" } : Jvm.MethodName) ({ cls := "Rankwise", name := "reckon", desc := "(I)I" } : Jvm.MethodName)) ∈ xTB := xTB_in (xt_6 (List.mem_of_getElem? (i := 184) rfl)) rfl
theorem xw_1390 : (Jvm.Cond.methodLink "RankwiseLaw" (180 : Nat) ({ cls := "RankwiseLaw", name := "answer", desc := "(LRankwise;II[J)I" } : Jvm.MethodName)) ∈ xTB := xTB_in (xt_6 (List.mem_of_getElem? (i := 190) rfl)) rfl
theorem xw_1391 : (Jvm.Cond.static ({ cls := "RankwiseLaw", name := "answer", desc := "(LRankwise;II[J)I" } : Jvm.MethodName)) ∈ xTB := xTB_in (xt_6 (List.mem_of_getElem? (i := 191) rfl)) rfl
theorem xw_1392 : (Jvm.Cond.codeWith ({ cls := "RankwiseLaw", name := "answer", desc := "(LRankwise;II[J)I" } : Jvm.MethodName) method_16_code (5 : Nat) (Option.some Jvm.ClassFile.FieldType.int) [((0 : Nat), (10 : Nat), (13 : Nat), (25 : Nat))]) ∈ xTB := xTB_in (xt_6 (List.mem_of_getElem? (i := 192) rfl)) rfl
theorem xw_1393 : (Jvm.Cond.methodLink "RankwiseLaw" (63 : Nat) ({ cls := "Rankwise", name := "answer", desc := "(II)I" } : Jvm.MethodName)) ∈ xTB := xTB_in (xt_6 (List.mem_of_getElem? (i := 193) rfl)) rfl
theorem xw_1394 : (Jvm.Cond.instanceMethod ({ cls := "Rankwise", name := "answer", desc := "(II)I" } : Jvm.MethodName)) ∈ xTB := xTB_in (xt_6 (List.mem_of_getElem? (i := 194) rfl)) rfl
theorem xw_1395 : (Jvm.Cond.selects "Rankwise" ({ cls := "Rankwise", name := "answer", desc := "(II)I" } : Jvm.MethodName) ({ cls := "Rankwise", name := "answer", desc := "(II)I" } : Jvm.MethodName)) ∈ xTB := xTB_in (xt_6 (List.mem_of_getElem? (i := 195) rfl)) rfl
theorem xw_1405 : (Jvm.Cond.methodLink "RankwiseLaw" (183 : Nat) ({ cls := "RankwiseLaw", name := "let", desc := "(LRankwise;CI[J)I" } : Jvm.MethodName)) ∈ xTB := xTB_in (xt_6 (List.mem_of_getElem? (i := 205) rfl)) rfl
theorem xw_1406 : (Jvm.Cond.static ({ cls := "RankwiseLaw", name := "let", desc := "(LRankwise;CI[J)I" } : Jvm.MethodName)) ∈ xTB := xTB_in (xt_6 (List.mem_of_getElem? (i := 206) rfl)) rfl
theorem xw_1407 : (Jvm.Cond.codeWith ({ cls := "RankwiseLaw", name := "let", desc := "(LRankwise;CI[J)I" } : Jvm.MethodName) method_17_code (5 : Nat) (Option.some Jvm.ClassFile.FieldType.int) [((0 : Nat), (10 : Nat), (13 : Nat), (25 : Nat)), ((0 : Nat), (10 : Nat), (17 : Nat), (23 : Nat))]) ∈ xTB := xTB_in (xt_6 (List.mem_of_getElem? (i := 207) rfl)) rfl
theorem xw_1408 : (Jvm.Cond.methodLink "RankwiseLaw" (66 : Nat) ({ cls := "Rankwise", name := "let", desc := "(CI)I" } : Jvm.MethodName)) ∈ xTB := xTB_in (xt_6 (List.mem_of_getElem? (i := 208) rfl)) rfl
theorem xw_1409 : (Jvm.Cond.instanceMethod ({ cls := "Rankwise", name := "let", desc := "(CI)I" } : Jvm.MethodName)) ∈ xTB := xTB_in (xt_6 (List.mem_of_getElem? (i := 209) rfl)) rfl
theorem xw_1410 : (Jvm.Cond.selects "Rankwise" ({ cls := "Rankwise", name := "let", desc := "(CI)I" } : Jvm.MethodName) ({ cls := "Rankwise", name := "let", desc := "(CI)I" } : Jvm.MethodName)) ∈ xTB := xTB_in (xt_6 (List.mem_of_getElem? (i := 210) rfl)) rfl
theorem xw_1424 : (Jvm.Cond.methodLink "RankwiseLaw" (187 : Nat) ({ cls := "RankwiseLaw", name := "unlet", desc := "(LRankwise;C[J)I" } : Jvm.MethodName)) ∈ xTB := xTB_in (xt_6 (List.mem_of_getElem? (i := 224) rfl)) rfl
theorem xw_1425 : (Jvm.Cond.static ({ cls := "RankwiseLaw", name := "unlet", desc := "(LRankwise;C[J)I" } : Jvm.MethodName)) ∈ xTB := xTB_in (xt_6 (List.mem_of_getElem? (i := 225) rfl)) rfl
theorem xw_1426 : (Jvm.Cond.codeWith ({ cls := "RankwiseLaw", name := "unlet", desc := "(LRankwise;C[J)I" } : Jvm.MethodName) method_18_code (4 : Nat) (Option.some Jvm.ClassFile.FieldType.int) [((0 : Nat), (16 : Nat), (19 : Nat), (25 : Nat))]) ∈ xTB := xTB_in (xt_6 (List.mem_of_getElem? (i := 226) rfl)) rfl
theorem xw_1427 : (Jvm.Cond.methodLink "RankwiseLaw" (70 : Nat) ({ cls := "Rankwise", name := "unlet", desc := "(C)Z" } : Jvm.MethodName)) ∈ xTB := xTB_in (xt_6 (List.mem_of_getElem? (i := 227) rfl)) rfl
theorem xw_1428 : (Jvm.Cond.instanceMethod ({ cls := "Rankwise", name := "unlet", desc := "(C)Z" } : Jvm.MethodName)) ∈ xTB := xTB_in (xt_6 (List.mem_of_getElem? (i := 228) rfl)) rfl
theorem xw_1429 : (Jvm.Cond.selects "Rankwise" ({ cls := "Rankwise", name := "unlet", desc := "(C)Z" } : Jvm.MethodName) ({ cls := "Rankwise", name := "unlet", desc := "(C)Z" } : Jvm.MethodName)) ∈ xTB := xTB_in (xt_6 (List.mem_of_getElem? (i := 229) rfl)) rfl
theorem xw_1435 : (Jvm.Cond.methodLink "RankwiseLaw" (190 : Nat) ({ cls := "RankwiseLaw", name := "recall", desc := "(LRankwise;C[J)I" } : Jvm.MethodName)) ∈ xTB := xTB_in (xt_6 (List.mem_of_getElem? (i := 235) rfl)) rfl
theorem xw_1436 : (Jvm.Cond.static ({ cls := "RankwiseLaw", name := "recall", desc := "(LRankwise;C[J)I" } : Jvm.MethodName)) ∈ xTB := xTB_in (xt_6 (List.mem_of_getElem? (i := 236) rfl)) rfl
theorem xw_1437 : (Jvm.Cond.codeWith ({ cls := "RankwiseLaw", name := "recall", desc := "(LRankwise;C[J)I" } : Jvm.MethodName) method_19_code (4 : Nat) (Option.some Jvm.ClassFile.FieldType.int) [((0 : Nat), (16 : Nat), (19 : Nat), (25 : Nat))]) ∈ xTB := xTB_in (xt_6 (List.mem_of_getElem? (i := 237) rfl)) rfl
theorem xw_1438 : (Jvm.Cond.methodLink "RankwiseLaw" (74 : Nat) ({ cls := "Rankwise", name := "recall", desc := "(C)Z" } : Jvm.MethodName)) ∈ xTB := xTB_in (xt_6 (List.mem_of_getElem? (i := 238) rfl)) rfl
theorem xw_1439 : (Jvm.Cond.instanceMethod ({ cls := "Rankwise", name := "recall", desc := "(C)Z" } : Jvm.MethodName)) ∈ xTB := xTB_in (xt_6 (List.mem_of_getElem? (i := 239) rfl)) rfl
theorem xw_1440 : (Jvm.Cond.selects "Rankwise" ({ cls := "Rankwise", name := "recall", desc := "(C)Z" } : Jvm.MethodName) ({ cls := "Rankwise", name := "recall", desc := "(C)Z" } : Jvm.MethodName)) ∈ xTB := xTB_in (xt_7 (List.mem_of_getElem? (i := 0) rfl)) rfl
theorem xw_1442 : (Jvm.Cond.methodLink "RankwiseLaw" (193 : Nat) ({ cls := "RankwiseLaw", name := "define", desc := "(LRankwise;CI[J)I" } : Jvm.MethodName)) ∈ xTB := xTB_in (xt_7 (List.mem_of_getElem? (i := 2) rfl)) rfl
theorem xw_1443 : (Jvm.Cond.static ({ cls := "RankwiseLaw", name := "define", desc := "(LRankwise;CI[J)I" } : Jvm.MethodName)) ∈ xTB := xTB_in (xt_7 (List.mem_of_getElem? (i := 3) rfl)) rfl
theorem xw_1444 : (Jvm.Cond.codeWith ({ cls := "RankwiseLaw", name := "define", desc := "(LRankwise;CI[J)I" } : Jvm.MethodName) method_20_code (5 : Nat) (Option.some Jvm.ClassFile.FieldType.int) [((0 : Nat), (10 : Nat), (13 : Nat), (25 : Nat))]) ∈ xTB := xTB_in (xt_7 (List.mem_of_getElem? (i := 4) rfl)) rfl
theorem xw_1445 : (Jvm.Cond.methodLink "RankwiseLaw" (77 : Nat) ({ cls := "Rankwise", name := "define", desc := "(CI)I" } : Jvm.MethodName)) ∈ xTB := xTB_in (xt_7 (List.mem_of_getElem? (i := 5) rfl)) rfl
theorem xw_1446 : (Jvm.Cond.instanceMethod ({ cls := "Rankwise", name := "define", desc := "(CI)I" } : Jvm.MethodName)) ∈ xTB := xTB_in (xt_7 (List.mem_of_getElem? (i := 6) rfl)) rfl
theorem xw_1447 : (Jvm.Cond.selects "Rankwise" ({ cls := "Rankwise", name := "define", desc := "(CI)I" } : Jvm.MethodName) ({ cls := "Rankwise", name := "define", desc := "(CI)I" } : Jvm.MethodName)) ∈ xTB := xTB_in (xt_7 (List.mem_of_getElem? (i := 7) rfl)) rfl
theorem xw_1460 : (Jvm.Cond.methodLink "RankwiseLaw" (196 : Nat) ({ cls := "RankwiseLaw", name := "addCase", desc := "(LRankwise;CII[J)I" } : Jvm.MethodName)) ∈ xTB := xTB_in (xt_7 (List.mem_of_getElem? (i := 20) rfl)) rfl
theorem xw_1461 : (Jvm.Cond.static ({ cls := "RankwiseLaw", name := "addCase", desc := "(LRankwise;CII[J)I" } : Jvm.MethodName)) ∈ xTB := xTB_in (xt_7 (List.mem_of_getElem? (i := 21) rfl)) rfl
theorem xw_1462 : (Jvm.Cond.codeWith ({ cls := "RankwiseLaw", name := "addCase", desc := "(LRankwise;CII[J)I" } : Jvm.MethodName) method_21_code (6 : Nat) (Option.some Jvm.ClassFile.FieldType.int) [((0 : Nat), (12 : Nat), (15 : Nat), (25 : Nat)), ((0 : Nat), (12 : Nat), (19 : Nat), (23 : Nat)), ((0 : Nat), (12 : Nat), (23 : Nat), (13 : Nat))]) ∈ xTB := xTB_in (xt_7 (List.mem_of_getElem? (i := 22) rfl)) rfl
theorem xw_1463 : (Jvm.Cond.methodLink "RankwiseLaw" (80 : Nat) ({ cls := "Rankwise", name := "addCase", desc := "(CII)I" } : Jvm.MethodName)) ∈ xTB := xTB_in (xt_7 (List.mem_of_getElem? (i := 23) rfl)) rfl
theorem xw_1464 : (Jvm.Cond.instanceMethod ({ cls := "Rankwise", name := "addCase", desc := "(CII)I" } : Jvm.MethodName)) ∈ xTB := xTB_in (xt_7 (List.mem_of_getElem? (i := 24) rfl)) rfl
theorem xw_1465 : (Jvm.Cond.selects "Rankwise" ({ cls := "Rankwise", name := "addCase", desc := "(CII)I" } : Jvm.MethodName) ({ cls := "Rankwise", name := "addCase", desc := "(CII)I" } : Jvm.MethodName)) ∈ xTB := xTB_in (xt_7 (List.mem_of_getElem? (i := 25) rfl)) rfl
theorem xw_1473 : (Jvm.Cond.methodLink "RankwiseLaw" (199 : Nat) ({ cls := "RankwiseLaw", name := "step", desc := "(LRankwise;I[J)I" } : Jvm.MethodName)) ∈ xTB := xTB_in (xt_7 (List.mem_of_getElem? (i := 33) rfl)) rfl
theorem xw_1474 : (Jvm.Cond.static ({ cls := "RankwiseLaw", name := "step", desc := "(LRankwise;I[J)I" } : Jvm.MethodName)) ∈ xTB := xTB_in (xt_7 (List.mem_of_getElem? (i := 34) rfl)) rfl
theorem xw_1475 : (Jvm.Cond.codeWith ({ cls := "RankwiseLaw", name := "step", desc := "(LRankwise;I[J)I" } : Jvm.MethodName) method_22_code (4 : Nat) (Option.some Jvm.ClassFile.FieldType.int) [((0 : Nat), (9 : Nat), (12 : Nat), (23 : Nat)), ((0 : Nat), (9 : Nat), (15 : Nat), (13 : Nat))]) ∈ xTB := xTB_in (xt_7 (List.mem_of_getElem? (i := 35) rfl)) rfl
theorem xw_1476 : (Jvm.Cond.methodLink "RankwiseLaw" (83 : Nat) ({ cls := "Rankwise", name := "step", desc := "(I)I" } : Jvm.MethodName)) ∈ xTB := xTB_in (xt_7 (List.mem_of_getElem? (i := 36) rfl)) rfl
theorem xw_1477 : (Jvm.Cond.instanceMethod ({ cls := "Rankwise", name := "step", desc := "(I)I" } : Jvm.MethodName)) ∈ xTB := xTB_in (xt_7 (List.mem_of_getElem? (i := 37) rfl)) rfl
theorem xw_1478 : (Jvm.Cond.selects "Rankwise" ({ cls := "Rankwise", name := "step", desc := "(I)I" } : Jvm.MethodName) ({ cls := "Rankwise", name := "step", desc := "(I)I" } : Jvm.MethodName)) ∈ xTB := xTB_in (xt_7 (List.mem_of_getElem? (i := 38) rfl)) rfl
theorem xw_1537 : (Jvm.Cond.methodLink "RankwiseLaw" (202 : Nat) ({ cls := "RankwiseLaw", name := "simplify", desc := "(LRankwise;I[J)I" } : Jvm.MethodName)) ∈ xTB := xTB_in (xt_7 (List.mem_of_getElem? (i := 97) rfl)) rfl
theorem xw_1538 : (Jvm.Cond.static ({ cls := "RankwiseLaw", name := "simplify", desc := "(LRankwise;I[J)I" } : Jvm.MethodName)) ∈ xTB := xTB_in (xt_7 (List.mem_of_getElem? (i := 98) rfl)) rfl
theorem xw_1539 : (Jvm.Cond.codeWith ({ cls := "RankwiseLaw", name := "simplify", desc := "(LRankwise;I[J)I" } : Jvm.MethodName) method_23_code (4 : Nat) (Option.some Jvm.ClassFile.FieldType.int) [((0 : Nat), (9 : Nat), (12 : Nat), (23 : Nat)), ((0 : Nat), (9 : Nat), (15 : Nat), (13 : Nat))]) ∈ xTB := xTB_in (xt_7 (List.mem_of_getElem? (i := 99) rfl)) rfl
theorem xw_1540 : (Jvm.Cond.methodLink "RankwiseLaw" (86 : Nat) ({ cls := "Rankwise", name := "simplify", desc := "(I)I" } : Jvm.MethodName)) ∈ xTB := xTB_in (xt_7 (List.mem_of_getElem? (i := 100) rfl)) rfl
theorem xw_1541 : (Jvm.Cond.instanceMethod ({ cls := "Rankwise", name := "simplify", desc := "(I)I" } : Jvm.MethodName)) ∈ xTB := xTB_in (xt_7 (List.mem_of_getElem? (i := 101) rfl)) rfl
theorem xw_1542 : (Jvm.Cond.selects "Rankwise" ({ cls := "Rankwise", name := "simplify", desc := "(I)I" } : Jvm.MethodName) ({ cls := "Rankwise", name := "simplify", desc := "(I)I" } : Jvm.MethodName)) ∈ xTB := xTB_in (xt_7 (List.mem_of_getElem? (i := 102) rfl)) rfl
theorem xw_1544 : (Jvm.Cond.methodLink "RankwiseLaw" (205 : Nat) ({ cls := "RankwiseLaw", name := "trace", desc := "(LRankwise;II[J)I" } : Jvm.MethodName)) ∈ xTB := xTB_in (xt_7 (List.mem_of_getElem? (i := 104) rfl)) rfl
theorem xw_1545 : (Jvm.Cond.static ({ cls := "RankwiseLaw", name := "trace", desc := "(LRankwise;II[J)I" } : Jvm.MethodName)) ∈ xTB := xTB_in (xt_7 (List.mem_of_getElem? (i := 105) rfl)) rfl
theorem xw_1546 : (Jvm.Cond.codeWith ({ cls := "RankwiseLaw", name := "trace", desc := "(LRankwise;II[J)I" } : Jvm.MethodName) method_24_code (5 : Nat) (Option.some Jvm.ClassFile.FieldType.int) [((0 : Nat), (10 : Nat), (13 : Nat), (25 : Nat))]) ∈ xTB := xTB_in (xt_7 (List.mem_of_getElem? (i := 106) rfl)) rfl
theorem xw_1547 : (Jvm.Cond.methodLink "RankwiseLaw" (89 : Nat) ({ cls := "Rankwise", name := "trace", desc := "(II)I" } : Jvm.MethodName)) ∈ xTB := xTB_in (xt_7 (List.mem_of_getElem? (i := 107) rfl)) rfl
theorem xw_1548 : (Jvm.Cond.instanceMethod ({ cls := "Rankwise", name := "trace", desc := "(II)I" } : Jvm.MethodName)) ∈ xTB := xTB_in (xt_7 (List.mem_of_getElem? (i := 108) rfl)) rfl
theorem xw_1549 : (Jvm.Cond.selects "Rankwise" ({ cls := "Rankwise", name := "trace", desc := "(II)I" } : Jvm.MethodName) ({ cls := "Rankwise", name := "trace", desc := "(II)I" } : Jvm.MethodName)) ∈ xTB := xTB_in (xt_7 (List.mem_of_getElem? (i := 109) rfl)) rfl
theorem xw_1552 : (Jvm.Cond.methodLink "RankwiseLaw" (208 : Nat) ({ cls := "RankwiseLaw", name := "gather", desc := "(LRankwise;IC[J)I" } : Jvm.MethodName)) ∈ xTB := xTB_in (xt_7 (List.mem_of_getElem? (i := 112) rfl)) rfl
theorem xw_1553 : (Jvm.Cond.static ({ cls := "RankwiseLaw", name := "gather", desc := "(LRankwise;IC[J)I" } : Jvm.MethodName)) ∈ xTB := xTB_in (xt_7 (List.mem_of_getElem? (i := 113) rfl)) rfl
theorem xw_1554 : (Jvm.Cond.codeWith ({ cls := "RankwiseLaw", name := "gather", desc := "(LRankwise;IC[J)I" } : Jvm.MethodName) method_25_code (5 : Nat) (Option.some Jvm.ClassFile.FieldType.int) [((0 : Nat), (10 : Nat), (13 : Nat), (23 : Nat)), ((0 : Nat), (10 : Nat), (17 : Nat), (25 : Nat))]) ∈ xTB := xTB_in (xt_7 (List.mem_of_getElem? (i := 114) rfl)) rfl
theorem xw_1555 : (Jvm.Cond.methodLink "RankwiseLaw" (92 : Nat) ({ cls := "Rankwise", name := "gather", desc := "(IC)I" } : Jvm.MethodName)) ∈ xTB := xTB_in (xt_7 (List.mem_of_getElem? (i := 115) rfl)) rfl
theorem xw_1556 : (Jvm.Cond.instanceMethod ({ cls := "Rankwise", name := "gather", desc := "(IC)I" } : Jvm.MethodName)) ∈ xTB := xTB_in (xt_7 (List.mem_of_getElem? (i := 116) rfl)) rfl
theorem xw_1557 : (Jvm.Cond.selects "Rankwise" ({ cls := "Rankwise", name := "gather", desc := "(IC)I" } : Jvm.MethodName) ({ cls := "Rankwise", name := "gather", desc := "(IC)I" } : Jvm.MethodName)) ∈ xTB := xTB_in (xt_7 (List.mem_of_getElem? (i := 117) rfl)) rfl
theorem xw_1624 : (Jvm.Cond.methodLink "RankwiseLaw" (212 : Nat) ({ cls := "RankwiseLaw", name := "coefficient", desc := "(LRankwise;I[J)I" } : Jvm.MethodName)) ∈ xTB := xTB_in (xt_7 (List.mem_of_getElem? (i := 184) rfl)) rfl
theorem xw_1625 : (Jvm.Cond.static ({ cls := "RankwiseLaw", name := "coefficient", desc := "(LRankwise;I[J)I" } : Jvm.MethodName)) ∈ xTB := xTB_in (xt_7 (List.mem_of_getElem? (i := 185) rfl)) rfl
theorem xw_1626 : (Jvm.Cond.codeWith ({ cls := "RankwiseLaw", name := "coefficient", desc := "(LRankwise;I[J)I" } : Jvm.MethodName) method_26_code (4 : Nat) (Option.some Jvm.ClassFile.FieldType.int) [((0 : Nat), (16 : Nat), (19 : Nat), (25 : Nat))]) ∈ xTB := xTB_in (xt_7 (List.mem_of_getElem? (i := 186) rfl)) rfl
theorem xw_1627 : (Jvm.Cond.methodLink "RankwiseLaw" (96 : Nat) ({ cls := "Rankwise", name := "coefficient", desc := "(I)Z" } : Jvm.MethodName)) ∈ xTB := xTB_in (xt_7 (List.mem_of_getElem? (i := 187) rfl)) rfl
theorem xw_1628 : (Jvm.Cond.instanceMethod ({ cls := "Rankwise", name := "coefficient", desc := "(I)Z" } : Jvm.MethodName)) ∈ xTB := xTB_in (xt_7 (List.mem_of_getElem? (i := 188) rfl)) rfl
theorem xw_1629 : (Jvm.Cond.selects "Rankwise" ({ cls := "Rankwise", name := "coefficient", desc := "(I)Z" } : Jvm.MethodName) ({ cls := "Rankwise", name := "coefficient", desc := "(I)Z" } : Jvm.MethodName)) ∈ xTB := xTB_in (xt_7 (List.mem_of_getElem? (i := 189) rfl)) rfl
theorem xw_1633 : (Jvm.Cond.methodLink "RankwiseLaw" (215 : Nat) ({ cls := "RankwiseLaw", name := "derive", desc := "(LRankwise;IC[J)I" } : Jvm.MethodName)) ∈ xTB := xTB_in (xt_7 (List.mem_of_getElem? (i := 193) rfl)) rfl
theorem xw_1634 : (Jvm.Cond.static ({ cls := "RankwiseLaw", name := "derive", desc := "(LRankwise;IC[J)I" } : Jvm.MethodName)) ∈ xTB := xTB_in (xt_7 (List.mem_of_getElem? (i := 194) rfl)) rfl
theorem xw_1635 : (Jvm.Cond.codeWith ({ cls := "RankwiseLaw", name := "derive", desc := "(LRankwise;IC[J)I" } : Jvm.MethodName) method_27_code (5 : Nat) (Option.some Jvm.ClassFile.FieldType.int) [((0 : Nat), (10 : Nat), (13 : Nat), (23 : Nat)), ((0 : Nat), (10 : Nat), (17 : Nat), (25 : Nat)), ((0 : Nat), (10 : Nat), (21 : Nat), (13 : Nat))]) ∈ xTB := xTB_in (xt_7 (List.mem_of_getElem? (i := 195) rfl)) rfl
theorem xw_1636 : (Jvm.Cond.methodLink "RankwiseLaw" (100 : Nat) ({ cls := "Rankwise", name := "derive", desc := "(IC)I" } : Jvm.MethodName)) ∈ xTB := xTB_in (xt_7 (List.mem_of_getElem? (i := 196) rfl)) rfl
theorem xw_1637 : (Jvm.Cond.instanceMethod ({ cls := "Rankwise", name := "derive", desc := "(IC)I" } : Jvm.MethodName)) ∈ xTB := xTB_in (xt_7 (List.mem_of_getElem? (i := 197) rfl)) rfl
theorem xw_1638 : (Jvm.Cond.selects "Rankwise" ({ cls := "Rankwise", name := "derive", desc := "(IC)I" } : Jvm.MethodName) ({ cls := "Rankwise", name := "derive", desc := "(IC)I" } : Jvm.MethodName)) ∈ xTB := xTB_in (xt_7 (List.mem_of_getElem? (i := 198) rfl)) rfl
theorem xw_1690 : (Jvm.Cond.methodLink "RankwiseLaw" (218 : Nat) ({ cls := "RankwiseLaw", name := "slope", desc := "(LRankwise;IC[J)I" } : Jvm.MethodName)) ∈ xTB := xTB_in (xt_8 (List.mem_of_getElem? (i := 10) rfl)) rfl
theorem xw_1691 : (Jvm.Cond.static ({ cls := "RankwiseLaw", name := "slope", desc := "(LRankwise;IC[J)I" } : Jvm.MethodName)) ∈ xTB := xTB_in (xt_8 (List.mem_of_getElem? (i := 11) rfl)) rfl
theorem xw_1692 : (Jvm.Cond.codeWith ({ cls := "RankwiseLaw", name := "slope", desc := "(LRankwise;IC[J)I" } : Jvm.MethodName) method_28_code (5 : Nat) (Option.some Jvm.ClassFile.FieldType.int) [((0 : Nat), (10 : Nat), (13 : Nat), (23 : Nat)), ((0 : Nat), (10 : Nat), (17 : Nat), (25 : Nat)), ((0 : Nat), (10 : Nat), (21 : Nat), (13 : Nat))]) ∈ xTB := xTB_in (xt_8 (List.mem_of_getElem? (i := 12) rfl)) rfl
theorem xw_1693 : (Jvm.Cond.methodLink "RankwiseLaw" (103 : Nat) ({ cls := "Rankwise", name := "slope", desc := "(IC)I" } : Jvm.MethodName)) ∈ xTB := xTB_in (xt_8 (List.mem_of_getElem? (i := 13) rfl)) rfl
theorem xw_1694 : (Jvm.Cond.instanceMethod ({ cls := "Rankwise", name := "slope", desc := "(IC)I" } : Jvm.MethodName)) ∈ xTB := xTB_in (xt_8 (List.mem_of_getElem? (i := 14) rfl)) rfl
theorem xw_1695 : (Jvm.Cond.selects "Rankwise" ({ cls := "Rankwise", name := "slope", desc := "(IC)I" } : Jvm.MethodName) ({ cls := "Rankwise", name := "slope", desc := "(IC)I" } : Jvm.MethodName)) ∈ xTB := xTB_in (xt_8 (List.mem_of_getElem? (i := 15) rfl)) rfl
theorem xw_1744 : (Jvm.Cond.methodLink "RankwiseLaw" (221 : Nat) ({ cls := "RankwiseLaw", name := "solve", desc := "(LRankwise;IC[J)I" } : Jvm.MethodName)) ∈ xTB := xTB_in (xt_8 (List.mem_of_getElem? (i := 64) rfl)) rfl
theorem xw_1745 : (Jvm.Cond.static ({ cls := "RankwiseLaw", name := "solve", desc := "(LRankwise;IC[J)I" } : Jvm.MethodName)) ∈ xTB := xTB_in (xt_8 (List.mem_of_getElem? (i := 65) rfl)) rfl
theorem xw_1746 : (Jvm.Cond.codeWith ({ cls := "RankwiseLaw", name := "solve", desc := "(LRankwise;IC[J)I" } : Jvm.MethodName) method_29_code (5 : Nat) (Option.some Jvm.ClassFile.FieldType.int) [((0 : Nat), (10 : Nat), (13 : Nat), (23 : Nat)), ((0 : Nat), (10 : Nat), (17 : Nat), (25 : Nat))]) ∈ xTB := xTB_in (xt_8 (List.mem_of_getElem? (i := 66) rfl)) rfl
theorem xw_1747 : (Jvm.Cond.methodLink "RankwiseLaw" (106 : Nat) ({ cls := "Rankwise", name := "solve", desc := "(IC)I" } : Jvm.MethodName)) ∈ xTB := xTB_in (xt_8 (List.mem_of_getElem? (i := 67) rfl)) rfl
theorem xw_1748 : (Jvm.Cond.instanceMethod ({ cls := "Rankwise", name := "solve", desc := "(IC)I" } : Jvm.MethodName)) ∈ xTB := xTB_in (xt_8 (List.mem_of_getElem? (i := 68) rfl)) rfl
theorem xw_1749 : (Jvm.Cond.selects "Rankwise" ({ cls := "Rankwise", name := "solve", desc := "(IC)I" } : Jvm.MethodName) ({ cls := "Rankwise", name := "solve", desc := "(IC)I" } : Jvm.MethodName)) ∈ xTB := xTB_in (xt_8 (List.mem_of_getElem? (i := 69) rfl)) rfl
theorem xw_1760 : (Jvm.Cond.methodLink "RankwiseLaw" (228 : Nat) ({ cls := "RankwiseLaw", name := "audit", desc := "(LRankwise;II[J)I" } : Jvm.MethodName)) ∈ xTB := xTB_in (xt_8 (List.mem_of_getElem? (i := 80) rfl)) rfl
theorem xw_1761 : (Jvm.Cond.static ({ cls := "RankwiseLaw", name := "audit", desc := "(LRankwise;II[J)I" } : Jvm.MethodName)) ∈ xTB := xTB_in (xt_8 (List.mem_of_getElem? (i := 81) rfl)) rfl
theorem xw_1762 : (Jvm.Cond.codeWith ({ cls := "RankwiseLaw", name := "audit", desc := "(LRankwise;II[J)I" } : Jvm.MethodName) method_30_code (5 : Nat) (Option.some Jvm.ClassFile.FieldType.int) [((0 : Nat), (17 : Nat), (20 : Nat), (25 : Nat)), ((0 : Nat), (17 : Nat), (24 : Nat), (23 : Nat))]) ∈ xTB := xTB_in (xt_8 (List.mem_of_getElem? (i := 82) rfl)) rfl
theorem xw_1763 : (Jvm.Cond.methodLink "RankwiseLaw" (109 : Nat) ({ cls := "Rankwise", name := "audit", desc := "(II)Z" } : Jvm.MethodName)) ∈ xTB := xTB_in (xt_8 (List.mem_of_getElem? (i := 83) rfl)) rfl
theorem xw_1764 : (Jvm.Cond.instanceMethod ({ cls := "Rankwise", name := "audit", desc := "(II)Z" } : Jvm.MethodName)) ∈ xTB := xTB_in (xt_8 (List.mem_of_getElem? (i := 84) rfl)) rfl
theorem xw_1765 : (Jvm.Cond.selects "Rankwise" ({ cls := "Rankwise", name := "audit", desc := "(II)Z" } : Jvm.MethodName) ({ cls := "Rankwise", name := "audit", desc := "(II)Z" } : Jvm.MethodName)) ∈ xTB := xTB_in (xt_8 (List.mem_of_getElem? (i := 85) rfl)) rfl
theorem xw_1802 : (Jvm.Cond.methodLink "RankwiseLaw" (122 : Nat) ({ cls := "RankwiseModel", name := "thrown", desc := "()I" } : Jvm.MethodName)) ∈ xTB := xTB_in (xt_8 (List.mem_of_getElem? (i := 122) rfl)) rfl
theorem xw_1803 : (Jvm.Cond.instanceMethod ({ cls := "RankwiseModel", name := "thrown", desc := "()I" } : Jvm.MethodName)) ∈ xTB := xTB_in (xt_8 (List.mem_of_getElem? (i := 123) rfl)) rfl
theorem xw_1804 : (Jvm.Cond.selects "RankwiseModel" ({ cls := "RankwiseModel", name := "thrown", desc := "()I" } : Jvm.MethodName) ({ cls := "RankwiseModel", name := "thrown", desc := "()I" } : Jvm.MethodName)) ∈ xTB := xTB_in (xt_8 (List.mem_of_getElem? (i := 124) rfl)) rfl
theorem xw_1806 : (Jvm.Cond.classLink "RankwiseLaw" (113 : Nat) "RankwiseModel") ∈ xTB := xTB_in (xt_8 (List.mem_of_getElem? (i := 126) rfl)) rfl
theorem xw_1807 : (Jvm.Cond.instantiable "RankwiseModel" (86 : Nat)) ∈ xTB := xTB_in (xt_8 (List.mem_of_getElem? (i := 127) rfl)) rfl
theorem xw_1808 : (Jvm.Cond.methodLink "RankwiseLaw" (115 : Nat) ({ cls := "RankwiseModel", name := "<init>", desc := "()V" } : Jvm.MethodName)) ∈ xTB := xTB_in (xt_8 (List.mem_of_getElem? (i := 128) rfl)) rfl
theorem xw_1809 : (Jvm.Cond.instanceMethod ({ cls := "RankwiseModel", name := "<init>", desc := "()V" } : Jvm.MethodName)) ∈ xTB := xTB_in (xt_8 (List.mem_of_getElem? (i := 129) rfl)) rfl
theorem xw_2096 : (Jvm.Cond.methodLink "RankwiseLaw" (227 : Nat) ({ cls := "RankwiseModel", name := "undo", desc := "()I" } : Jvm.MethodName)) ∈ xTB := xTB_in (xt_9 (List.mem_of_getElem? (i := 176) rfl)) rfl
theorem xw_2097 : (Jvm.Cond.instanceMethod ({ cls := "RankwiseModel", name := "undo", desc := "()I" } : Jvm.MethodName)) ∈ xTB := xTB_in (xt_9 (List.mem_of_getElem? (i := 177) rfl)) rfl
theorem xw_2098 : (Jvm.Cond.selects "RankwiseModel" ({ cls := "RankwiseModel", name := "undo", desc := "()I" } : Jvm.MethodName) ({ cls := "RankwiseModel", name := "undo", desc := "()I" } : Jvm.MethodName)) ∈ xTB := xTB_in (xt_9 (List.mem_of_getElem? (i := 178) rfl)) rfl
theorem xw_2108 : (Jvm.Cond.methodLink "RankwiseLaw" (121 : Nat) ({ cls := "RankwiseModel", name := "type", desc := "(C)I" } : Jvm.MethodName)) ∈ xTB := xTB_in (xt_9 (List.mem_of_getElem? (i := 188) rfl)) rfl
theorem xw_2109 : (Jvm.Cond.instanceMethod ({ cls := "RankwiseModel", name := "type", desc := "(C)I" } : Jvm.MethodName)) ∈ xTB := xTB_in (xt_9 (List.mem_of_getElem? (i := 189) rfl)) rfl
theorem xw_2110 : (Jvm.Cond.selects "RankwiseModel" ({ cls := "RankwiseModel", name := "type", desc := "(C)I" } : Jvm.MethodName) ({ cls := "RankwiseModel", name := "type", desc := "(C)I" } : Jvm.MethodName)) ∈ xTB := xTB_in (xt_9 (List.mem_of_getElem? (i := 190) rfl)) rfl
theorem xw_2116 : (Jvm.Cond.methodLink "RankwiseLaw" (128 : Nat) ({ cls := "RankwiseModel", name := "drop", desc := "()I" } : Jvm.MethodName)) ∈ xTB := xTB_in (xt_9 (List.mem_of_getElem? (i := 196) rfl)) rfl
theorem xw_2117 : (Jvm.Cond.instanceMethod ({ cls := "RankwiseModel", name := "drop", desc := "()I" } : Jvm.MethodName)) ∈ xTB := xTB_in (xt_9 (List.mem_of_getElem? (i := 197) rfl)) rfl
theorem xw_2118 : (Jvm.Cond.selects "RankwiseModel" ({ cls := "RankwiseModel", name := "drop", desc := "()I" } : Jvm.MethodName) ({ cls := "RankwiseModel", name := "drop", desc := "()I" } : Jvm.MethodName)) ∈ xTB := xTB_in (xt_9 (List.mem_of_getElem? (i := 198) rfl)) rfl
theorem xw_2120 : (Jvm.Cond.methodLink "RankwiseLaw" (132 : Nat) ({ cls := "RankwiseModel", name := "fault", desc := "()I" } : Jvm.MethodName)) ∈ xTB := xTB_in (xt_9 (List.mem_of_getElem? (i := 200) rfl)) rfl
theorem xw_2121 : (Jvm.Cond.instanceMethod ({ cls := "RankwiseModel", name := "fault", desc := "()I" } : Jvm.MethodName)) ∈ xTB := xTB_in (xt_9 (List.mem_of_getElem? (i := 201) rfl)) rfl
theorem xw_2122 : (Jvm.Cond.selects "RankwiseModel" ({ cls := "RankwiseModel", name := "fault", desc := "()I" } : Jvm.MethodName) ({ cls := "RankwiseModel", name := "fault", desc := "()I" } : Jvm.MethodName)) ∈ xTB := xTB_in (xt_9 (List.mem_of_getElem? (i := 202) rfl)) rfl
theorem xw_2194 : (Jvm.Cond.methodLink "RankwiseLaw" (136 : Nat) ({ cls := "RankwiseModel", name := "read", desc := "()I" } : Jvm.MethodName)) ∈ xTB := xTB_in (xt_10 (List.mem_of_getElem? (i := 34) rfl)) rfl
theorem xw_2195 : (Jvm.Cond.instanceMethod ({ cls := "RankwiseModel", name := "read", desc := "()I" } : Jvm.MethodName)) ∈ xTB := xTB_in (xt_10 (List.mem_of_getElem? (i := 35) rfl)) rfl
theorem xw_2196 : (Jvm.Cond.selects "RankwiseModel" ({ cls := "RankwiseModel", name := "read", desc := "()I" } : Jvm.MethodName) ({ cls := "RankwiseModel", name := "read", desc := "()I" } : Jvm.MethodName)) ∈ xTB := xTB_in (xt_10 (List.mem_of_getElem? (i := 36) rfl)) rfl
theorem xw_2221 : (Jvm.Cond.methodLink "RankwiseLaw" (140 : Nat) ({ cls := "RankwiseModel", name := "trees", desc := "()I" } : Jvm.MethodName)) ∈ xTB := xTB_in (xt_10 (List.mem_of_getElem? (i := 61) rfl)) rfl
theorem xw_2222 : (Jvm.Cond.instanceMethod ({ cls := "RankwiseModel", name := "trees", desc := "()I" } : Jvm.MethodName)) ∈ xTB := xTB_in (xt_10 (List.mem_of_getElem? (i := 62) rfl)) rfl
theorem xw_2223 : (Jvm.Cond.selects "RankwiseModel" ({ cls := "RankwiseModel", name := "trees", desc := "()I" } : Jvm.MethodName) ({ cls := "RankwiseModel", name := "trees", desc := "()I" } : Jvm.MethodName)) ∈ xTB := xTB_in (xt_10 (List.mem_of_getElem? (i := 63) rfl)) rfl
theorem xw_2225 : (Jvm.Cond.methodLink "RankwiseLaw" (144 : Nat) ({ cls := "RankwiseModel", name := "node", desc := "(III)I" } : Jvm.MethodName)) ∈ xTB := xTB_in (xt_10 (List.mem_of_getElem? (i := 65) rfl)) rfl
theorem xw_2226 : (Jvm.Cond.instanceMethod ({ cls := "RankwiseModel", name := "node", desc := "(III)I" } : Jvm.MethodName)) ∈ xTB := xTB_in (xt_10 (List.mem_of_getElem? (i := 66) rfl)) rfl
theorem xw_2227 : (Jvm.Cond.selects "RankwiseModel" ({ cls := "RankwiseModel", name := "node", desc := "(III)I" } : Jvm.MethodName) ({ cls := "RankwiseModel", name := "node", desc := "(III)I" } : Jvm.MethodName)) ∈ xTB := xTB_in (xt_10 (List.mem_of_getElem? (i := 67) rfl)) rfl
theorem xw_2241 : (Jvm.Cond.methodLink "RankwiseLaw" (148 : Nat) ({ cls := "RankwiseModel", name := "isSame", desc := "(II)Z" } : Jvm.MethodName)) ∈ xTB := xTB_in (xt_10 (List.mem_of_getElem? (i := 81) rfl)) rfl
theorem xw_2242 : (Jvm.Cond.instanceMethod ({ cls := "RankwiseModel", name := "isSame", desc := "(II)Z" } : Jvm.MethodName)) ∈ xTB := xTB_in (xt_10 (List.mem_of_getElem? (i := 82) rfl)) rfl
theorem xw_2243 : (Jvm.Cond.selects "RankwiseModel" ({ cls := "RankwiseModel", name := "isSame", desc := "(II)Z" } : Jvm.MethodName) ({ cls := "RankwiseModel", name := "isSame", desc := "(II)Z" } : Jvm.MethodName)) ∈ xTB := xTB_in (xt_10 (List.mem_of_getElem? (i := 83) rfl)) rfl
theorem xw_2249 : (Jvm.Cond.methodLink "RankwiseLaw" (151 : Nat) ({ cls := "RankwiseModel", name := "part", desc := "(II)I" } : Jvm.MethodName)) ∈ xTB := xTB_in (xt_10 (List.mem_of_getElem? (i := 89) rfl)) rfl
theorem xw_2250 : (Jvm.Cond.instanceMethod ({ cls := "RankwiseModel", name := "part", desc := "(II)I" } : Jvm.MethodName)) ∈ xTB := xTB_in (xt_10 (List.mem_of_getElem? (i := 90) rfl)) rfl
theorem xw_2251 : (Jvm.Cond.selects "RankwiseModel" ({ cls := "RankwiseModel", name := "part", desc := "(II)I" } : Jvm.MethodName) ({ cls := "RankwiseModel", name := "part", desc := "(II)I" } : Jvm.MethodName)) ∈ xTB := xTB_in (xt_10 (List.mem_of_getElem? (i := 91) rfl)) rfl
theorem xw_2253 : (Jvm.Cond.methodLink "RankwiseLaw" (155 : Nat) ({ cls := "RankwiseModel", name := "graft", desc := "(ICI)I" } : Jvm.MethodName)) ∈ xTB := xTB_in (xt_10 (List.mem_of_getElem? (i := 93) rfl)) rfl
theorem xw_2254 : (Jvm.Cond.instanceMethod ({ cls := "RankwiseModel", name := "graft", desc := "(ICI)I" } : Jvm.MethodName)) ∈ xTB := xTB_in (xt_10 (List.mem_of_getElem? (i := 94) rfl)) rfl
theorem xw_2255 : (Jvm.Cond.selects "RankwiseModel" ({ cls := "RankwiseModel", name := "graft", desc := "(ICI)I" } : Jvm.MethodName) ({ cls := "RankwiseModel", name := "graft", desc := "(ICI)I" } : Jvm.MethodName)) ∈ xTB := xTB_in (xt_10 (List.mem_of_getElem? (i := 95) rfl)) rfl
theorem xw_2268 : (Jvm.Cond.methodLink "RankwiseLaw" (159 : Nat) ({ cls := "RankwiseModel", name := "tell", desc := "(CIIII)I" } : Jvm.MethodName)) ∈ xTB := xTB_in (xt_10 (List.mem_of_getElem? (i := 108) rfl)) rfl
theorem xw_2269 : (Jvm.Cond.instanceMethod ({ cls := "RankwiseModel", name := "tell", desc := "(CIIII)I" } : Jvm.MethodName)) ∈ xTB := xTB_in (xt_10 (List.mem_of_getElem? (i := 109) rfl)) rfl
theorem xw_2270 : (Jvm.Cond.selects "RankwiseModel" ({ cls := "RankwiseModel", name := "tell", desc := "(CIIII)I" } : Jvm.MethodName) ({ cls := "RankwiseModel", name := "tell", desc := "(CIIII)I" } : Jvm.MethodName)) ∈ xTB := xTB_in (xt_10 (List.mem_of_getElem? (i := 110) rfl)) rfl
theorem xw_2279 : (Jvm.Cond.methodLink "RankwiseLaw" (163 : Nat) ({ cls := "RankwiseModel", name := "told", desc := "(CII)I" } : Jvm.MethodName)) ∈ xTB := xTB_in (xt_10 (List.mem_of_getElem? (i := 119) rfl)) rfl
theorem xw_2280 : (Jvm.Cond.instanceMethod ({ cls := "RankwiseModel", name := "told", desc := "(CII)I" } : Jvm.MethodName)) ∈ xTB := xTB_in (xt_10 (List.mem_of_getElem? (i := 120) rfl)) rfl
theorem xw_2281 : (Jvm.Cond.selects "RankwiseModel" ({ cls := "RankwiseModel", name := "told", desc := "(CII)I" } : Jvm.MethodName) ({ cls := "RankwiseModel", name := "told", desc := "(CII)I" } : Jvm.MethodName)) ∈ xTB := xTB_in (xt_10 (List.mem_of_getElem? (i := 121) rfl)) rfl
theorem xw_2283 : (Jvm.Cond.methodLink "RankwiseLaw" (167 : Nat) ({ cls := "RankwiseModel", name := "print", desc := "(I)I" } : Jvm.MethodName)) ∈ xTB := xTB_in (xt_10 (List.mem_of_getElem? (i := 123) rfl)) rfl
theorem xw_2284 : (Jvm.Cond.instanceMethod ({ cls := "RankwiseModel", name := "print", desc := "(I)I" } : Jvm.MethodName)) ∈ xTB := xTB_in (xt_10 (List.mem_of_getElem? (i := 124) rfl)) rfl
theorem xw_2285 : (Jvm.Cond.selects "RankwiseModel" ({ cls := "RankwiseModel", name := "print", desc := "(I)I" } : Jvm.MethodName) ({ cls := "RankwiseModel", name := "print", desc := "(I)I" } : Jvm.MethodName)) ∈ xTB := xTB_in (xt_10 (List.mem_of_getElem? (i := 125) rfl)) rfl
theorem xw_2331 : (Jvm.Cond.methodLink "RankwiseLaw" (170 : Nat) ({ cls := "RankwiseModel", name := "postfix", desc := "(I)I" } : Jvm.MethodName)) ∈ xTB := xTB_in (xt_10 (List.mem_of_getElem? (i := 171) rfl)) rfl
theorem xw_2332 : (Jvm.Cond.instanceMethod ({ cls := "RankwiseModel", name := "postfix", desc := "(I)I" } : Jvm.MethodName)) ∈ xTB := xTB_in (xt_10 (List.mem_of_getElem? (i := 172) rfl)) rfl
theorem xw_2333 : (Jvm.Cond.selects "RankwiseModel" ({ cls := "RankwiseModel", name := "postfix", desc := "(I)I" } : Jvm.MethodName) ({ cls := "RankwiseModel", name := "postfix", desc := "(I)I" } : Jvm.MethodName)) ∈ xTB := xTB_in (xt_10 (List.mem_of_getElem? (i := 173) rfl)) rfl
theorem xw_2347 : (Jvm.Cond.methodLink "RankwiseLaw" (173 : Nat) ({ cls := "RankwiseModel", name := "out", desc := "(I)I" } : Jvm.MethodName)) ∈ xTB := xTB_in (xt_10 (List.mem_of_getElem? (i := 187) rfl)) rfl
theorem xw_2348 : (Jvm.Cond.instanceMethod ({ cls := "RankwiseModel", name := "out", desc := "(I)I" } : Jvm.MethodName)) ∈ xTB := xTB_in (xt_10 (List.mem_of_getElem? (i := 188) rfl)) rfl
theorem xw_2349 : (Jvm.Cond.selects "RankwiseModel" ({ cls := "RankwiseModel", name := "out", desc := "(I)I" } : Jvm.MethodName) ({ cls := "RankwiseModel", name := "out", desc := "(I)I" } : Jvm.MethodName)) ∈ xTB := xTB_in (xt_10 (List.mem_of_getElem? (i := 189) rfl)) rfl
theorem xw_2351 : (Jvm.Cond.methodLink "RankwiseLaw" (176 : Nat) ({ cls := "RankwiseModel", name := "evaluate", desc := "(I)I" } : Jvm.MethodName)) ∈ xTB := xTB_in (xt_10 (List.mem_of_getElem? (i := 191) rfl)) rfl
theorem xw_2352 : (Jvm.Cond.instanceMethod ({ cls := "RankwiseModel", name := "evaluate", desc := "(I)I" } : Jvm.MethodName)) ∈ xTB := xTB_in (xt_10 (List.mem_of_getElem? (i := 192) rfl)) rfl
theorem xw_2353 : (Jvm.Cond.selects "RankwiseModel" ({ cls := "RankwiseModel", name := "evaluate", desc := "(I)I" } : Jvm.MethodName) ({ cls := "RankwiseModel", name := "evaluate", desc := "(I)I" } : Jvm.MethodName)) ∈ xTB := xTB_in (xt_10 (List.mem_of_getElem? (i := 193) rfl)) rfl
theorem xw_2544 : (Jvm.Cond.methodLink "RankwiseLaw" (179 : Nat) ({ cls := "RankwiseModel", name := "reckon", desc := "(I)I" } : Jvm.MethodName)) ∈ xTB := xTB_in (xt_11 (List.mem_of_getElem? (i := 144) rfl)) rfl
theorem xw_2545 : (Jvm.Cond.instanceMethod ({ cls := "RankwiseModel", name := "reckon", desc := "(I)I" } : Jvm.MethodName)) ∈ xTB := xTB_in (xt_11 (List.mem_of_getElem? (i := 145) rfl)) rfl
theorem xw_2546 : (Jvm.Cond.selects "RankwiseModel" ({ cls := "RankwiseModel", name := "reckon", desc := "(I)I" } : Jvm.MethodName) ({ cls := "RankwiseModel", name := "reckon", desc := "(I)I" } : Jvm.MethodName)) ∈ xTB := xTB_in (xt_11 (List.mem_of_getElem? (i := 146) rfl)) rfl
theorem xw_2548 : (Jvm.Cond.methodLink "RankwiseLaw" (182 : Nat) ({ cls := "RankwiseModel", name := "answer", desc := "(II)I" } : Jvm.MethodName)) ∈ xTB := xTB_in (xt_11 (List.mem_of_getElem? (i := 148) rfl)) rfl
theorem xw_2549 : (Jvm.Cond.instanceMethod ({ cls := "RankwiseModel", name := "answer", desc := "(II)I" } : Jvm.MethodName)) ∈ xTB := xTB_in (xt_11 (List.mem_of_getElem? (i := 149) rfl)) rfl
theorem xw_2550 : (Jvm.Cond.selects "RankwiseModel" ({ cls := "RankwiseModel", name := "answer", desc := "(II)I" } : Jvm.MethodName) ({ cls := "RankwiseModel", name := "answer", desc := "(II)I" } : Jvm.MethodName)) ∈ xTB := xTB_in (xt_11 (List.mem_of_getElem? (i := 150) rfl)) rfl
theorem xw_2552 : (Jvm.Cond.methodLink "RankwiseLaw" (186 : Nat) ({ cls := "RankwiseModel", name := "let", desc := "(CI)I" } : Jvm.MethodName)) ∈ xTB := xTB_in (xt_11 (List.mem_of_getElem? (i := 152) rfl)) rfl
theorem xw_2553 : (Jvm.Cond.instanceMethod ({ cls := "RankwiseModel", name := "let", desc := "(CI)I" } : Jvm.MethodName)) ∈ xTB := xTB_in (xt_11 (List.mem_of_getElem? (i := 153) rfl)) rfl
theorem xw_2554 : (Jvm.Cond.selects "RankwiseModel" ({ cls := "RankwiseModel", name := "let", desc := "(CI)I" } : Jvm.MethodName) ({ cls := "RankwiseModel", name := "let", desc := "(CI)I" } : Jvm.MethodName)) ∈ xTB := xTB_in (xt_11 (List.mem_of_getElem? (i := 154) rfl)) rfl
theorem xw_2560 : (Jvm.Cond.methodLink "RankwiseLaw" (189 : Nat) ({ cls := "RankwiseModel", name := "unlet", desc := "(C)Z" } : Jvm.MethodName)) ∈ xTB := xTB_in (xt_11 (List.mem_of_getElem? (i := 160) rfl)) rfl
theorem xw_2561 : (Jvm.Cond.instanceMethod ({ cls := "RankwiseModel", name := "unlet", desc := "(C)Z" } : Jvm.MethodName)) ∈ xTB := xTB_in (xt_11 (List.mem_of_getElem? (i := 161) rfl)) rfl
theorem xw_2562 : (Jvm.Cond.selects "RankwiseModel" ({ cls := "RankwiseModel", name := "unlet", desc := "(C)Z" } : Jvm.MethodName) ({ cls := "RankwiseModel", name := "unlet", desc := "(C)Z" } : Jvm.MethodName)) ∈ xTB := xTB_in (xt_11 (List.mem_of_getElem? (i := 162) rfl)) rfl
theorem xw_2564 : (Jvm.Cond.methodLink "RankwiseLaw" (192 : Nat) ({ cls := "RankwiseModel", name := "recall", desc := "(C)Z" } : Jvm.MethodName)) ∈ xTB := xTB_in (xt_11 (List.mem_of_getElem? (i := 164) rfl)) rfl
theorem xw_2565 : (Jvm.Cond.instanceMethod ({ cls := "RankwiseModel", name := "recall", desc := "(C)Z" } : Jvm.MethodName)) ∈ xTB := xTB_in (xt_11 (List.mem_of_getElem? (i := 165) rfl)) rfl
theorem xw_2566 : (Jvm.Cond.selects "RankwiseModel" ({ cls := "RankwiseModel", name := "recall", desc := "(C)Z" } : Jvm.MethodName) ({ cls := "RankwiseModel", name := "recall", desc := "(C)Z" } : Jvm.MethodName)) ∈ xTB := xTB_in (xt_11 (List.mem_of_getElem? (i := 166) rfl)) rfl
theorem xw_2568 : (Jvm.Cond.methodLink "RankwiseLaw" (195 : Nat) ({ cls := "RankwiseModel", name := "define", desc := "(CI)I" } : Jvm.MethodName)) ∈ xTB := xTB_in (xt_11 (List.mem_of_getElem? (i := 168) rfl)) rfl
theorem xw_2569 : (Jvm.Cond.instanceMethod ({ cls := "RankwiseModel", name := "define", desc := "(CI)I" } : Jvm.MethodName)) ∈ xTB := xTB_in (xt_11 (List.mem_of_getElem? (i := 169) rfl)) rfl
theorem xw_2570 : (Jvm.Cond.selects "RankwiseModel" ({ cls := "RankwiseModel", name := "define", desc := "(CI)I" } : Jvm.MethodName) ({ cls := "RankwiseModel", name := "define", desc := "(CI)I" } : Jvm.MethodName)) ∈ xTB := xTB_in (xt_11 (List.mem_of_getElem? (i := 170) rfl)) rfl
theorem xw_2576 : (Jvm.Cond.methodLink "RankwiseLaw" (198 : Nat) ({ cls := "RankwiseModel", name := "addCase", desc := "(CII)I" } : Jvm.MethodName)) ∈ xTB := xTB_in (xt_11 (List.mem_of_getElem? (i := 176) rfl)) rfl
theorem xw_2577 : (Jvm.Cond.instanceMethod ({ cls := "RankwiseModel", name := "addCase", desc := "(CII)I" } : Jvm.MethodName)) ∈ xTB := xTB_in (xt_11 (List.mem_of_getElem? (i := 177) rfl)) rfl
theorem xw_2578 : (Jvm.Cond.selects "RankwiseModel" ({ cls := "RankwiseModel", name := "addCase", desc := "(CII)I" } : Jvm.MethodName) ({ cls := "RankwiseModel", name := "addCase", desc := "(CII)I" } : Jvm.MethodName)) ∈ xTB := xTB_in (xt_11 (List.mem_of_getElem? (i := 178) rfl)) rfl
theorem xw_2584 : (Jvm.Cond.methodLink "RankwiseLaw" (201 : Nat) ({ cls := "RankwiseModel", name := "step", desc := "(I)I" } : Jvm.MethodName)) ∈ xTB := xTB_in (xt_11 (List.mem_of_getElem? (i := 184) rfl)) rfl
theorem xw_2585 : (Jvm.Cond.instanceMethod ({ cls := "RankwiseModel", name := "step", desc := "(I)I" } : Jvm.MethodName)) ∈ xTB := xTB_in (xt_11 (List.mem_of_getElem? (i := 185) rfl)) rfl
theorem xw_2586 : (Jvm.Cond.selects "RankwiseModel" ({ cls := "RankwiseModel", name := "step", desc := "(I)I" } : Jvm.MethodName) ({ cls := "RankwiseModel", name := "step", desc := "(I)I" } : Jvm.MethodName)) ∈ xTB := xTB_in (xt_11 (List.mem_of_getElem? (i := 186) rfl)) rfl
theorem xw_2631 : (Jvm.Cond.methodLink "RankwiseLaw" (204 : Nat) ({ cls := "RankwiseModel", name := "simplify", desc := "(I)I" } : Jvm.MethodName)) ∈ xTB := xTB_in (xt_11 (List.mem_of_getElem? (i := 231) rfl)) rfl
theorem xw_2632 : (Jvm.Cond.instanceMethod ({ cls := "RankwiseModel", name := "simplify", desc := "(I)I" } : Jvm.MethodName)) ∈ xTB := xTB_in (xt_11 (List.mem_of_getElem? (i := 232) rfl)) rfl
theorem xw_2633 : (Jvm.Cond.selects "RankwiseModel" ({ cls := "RankwiseModel", name := "simplify", desc := "(I)I" } : Jvm.MethodName) ({ cls := "RankwiseModel", name := "simplify", desc := "(I)I" } : Jvm.MethodName)) ∈ xTB := xTB_in (xt_11 (List.mem_of_getElem? (i := 233) rfl)) rfl
theorem xw_2635 : (Jvm.Cond.methodLink "RankwiseLaw" (207 : Nat) ({ cls := "RankwiseModel", name := "trace", desc := "(II)I" } : Jvm.MethodName)) ∈ xTB := xTB_in (xt_11 (List.mem_of_getElem? (i := 235) rfl)) rfl
theorem xw_2636 : (Jvm.Cond.instanceMethod ({ cls := "RankwiseModel", name := "trace", desc := "(II)I" } : Jvm.MethodName)) ∈ xTB := xTB_in (xt_11 (List.mem_of_getElem? (i := 236) rfl)) rfl
theorem xw_2637 : (Jvm.Cond.selects "RankwiseModel" ({ cls := "RankwiseModel", name := "trace", desc := "(II)I" } : Jvm.MethodName) ({ cls := "RankwiseModel", name := "trace", desc := "(II)I" } : Jvm.MethodName)) ∈ xTB := xTB_in (xt_11 (List.mem_of_getElem? (i := 237) rfl)) rfl
theorem xw_2639 : (Jvm.Cond.methodLink "RankwiseLaw" (211 : Nat) ({ cls := "RankwiseModel", name := "gather", desc := "(IC)I" } : Jvm.MethodName)) ∈ xTB := xTB_in (xt_11 (List.mem_of_getElem? (i := 239) rfl)) rfl
theorem xw_2640 : (Jvm.Cond.instanceMethod ({ cls := "RankwiseModel", name := "gather", desc := "(IC)I" } : Jvm.MethodName)) ∈ xTB := xTB_in (xt_12 (List.mem_of_getElem? (i := 0) rfl)) rfl
theorem xw_2641 : (Jvm.Cond.selects "RankwiseModel" ({ cls := "RankwiseModel", name := "gather", desc := "(IC)I" } : Jvm.MethodName) ({ cls := "RankwiseModel", name := "gather", desc := "(IC)I" } : Jvm.MethodName)) ∈ xTB := xTB_in (xt_12 (List.mem_of_getElem? (i := 1) rfl)) rfl
theorem xw_2710 : (Jvm.Cond.methodLink "RankwiseLaw" (214 : Nat) ({ cls := "RankwiseModel", name := "coefficient", desc := "(I)Z" } : Jvm.MethodName)) ∈ xTB := xTB_in (xt_12 (List.mem_of_getElem? (i := 70) rfl)) rfl
theorem xw_2711 : (Jvm.Cond.instanceMethod ({ cls := "RankwiseModel", name := "coefficient", desc := "(I)Z" } : Jvm.MethodName)) ∈ xTB := xTB_in (xt_12 (List.mem_of_getElem? (i := 71) rfl)) rfl
theorem xw_2712 : (Jvm.Cond.selects "RankwiseModel" ({ cls := "RankwiseModel", name := "coefficient", desc := "(I)Z" } : Jvm.MethodName) ({ cls := "RankwiseModel", name := "coefficient", desc := "(I)Z" } : Jvm.MethodName)) ∈ xTB := xTB_in (xt_12 (List.mem_of_getElem? (i := 72) rfl)) rfl
theorem xw_2714 : (Jvm.Cond.methodLink "RankwiseLaw" (217 : Nat) ({ cls := "RankwiseModel", name := "derive", desc := "(IC)I" } : Jvm.MethodName)) ∈ xTB := xTB_in (xt_12 (List.mem_of_getElem? (i := 74) rfl)) rfl
theorem xw_2715 : (Jvm.Cond.instanceMethod ({ cls := "RankwiseModel", name := "derive", desc := "(IC)I" } : Jvm.MethodName)) ∈ xTB := xTB_in (xt_12 (List.mem_of_getElem? (i := 75) rfl)) rfl
theorem xw_2716 : (Jvm.Cond.selects "RankwiseModel" ({ cls := "RankwiseModel", name := "derive", desc := "(IC)I" } : Jvm.MethodName) ({ cls := "RankwiseModel", name := "derive", desc := "(IC)I" } : Jvm.MethodName)) ∈ xTB := xTB_in (xt_12 (List.mem_of_getElem? (i := 76) rfl)) rfl
theorem xw_2754 : (Jvm.Cond.methodLink "RankwiseLaw" (220 : Nat) ({ cls := "RankwiseModel", name := "slope", desc := "(IC)I" } : Jvm.MethodName)) ∈ xTB := xTB_in (xt_12 (List.mem_of_getElem? (i := 114) rfl)) rfl
theorem xw_2755 : (Jvm.Cond.instanceMethod ({ cls := "RankwiseModel", name := "slope", desc := "(IC)I" } : Jvm.MethodName)) ∈ xTB := xTB_in (xt_12 (List.mem_of_getElem? (i := 115) rfl)) rfl
theorem xw_2756 : (Jvm.Cond.selects "RankwiseModel" ({ cls := "RankwiseModel", name := "slope", desc := "(IC)I" } : Jvm.MethodName) ({ cls := "RankwiseModel", name := "slope", desc := "(IC)I" } : Jvm.MethodName)) ∈ xTB := xTB_in (xt_12 (List.mem_of_getElem? (i := 116) rfl)) rfl
theorem xw_2784 : (Jvm.Cond.methodLink "RankwiseLaw" (223 : Nat) ({ cls := "RankwiseModel", name := "solve", desc := "(IC)I" } : Jvm.MethodName)) ∈ xTB := xTB_in (xt_12 (List.mem_of_getElem? (i := 144) rfl)) rfl
theorem xw_2785 : (Jvm.Cond.instanceMethod ({ cls := "RankwiseModel", name := "solve", desc := "(IC)I" } : Jvm.MethodName)) ∈ xTB := xTB_in (xt_12 (List.mem_of_getElem? (i := 145) rfl)) rfl
theorem xw_2786 : (Jvm.Cond.selects "RankwiseModel" ({ cls := "RankwiseModel", name := "solve", desc := "(IC)I" } : Jvm.MethodName) ({ cls := "RankwiseModel", name := "solve", desc := "(IC)I" } : Jvm.MethodName)) ∈ xTB := xTB_in (xt_12 (List.mem_of_getElem? (i := 146) rfl)) rfl
theorem xw_2796 : (Jvm.Cond.methodLink "RankwiseLaw" (230 : Nat) ({ cls := "RankwiseModel", name := "audit", desc := "(II)Z" } : Jvm.MethodName)) ∈ xTB := xTB_in (xt_12 (List.mem_of_getElem? (i := 156) rfl)) rfl
theorem xw_2797 : (Jvm.Cond.instanceMethod ({ cls := "RankwiseModel", name := "audit", desc := "(II)Z" } : Jvm.MethodName)) ∈ xTB := xTB_in (xt_12 (List.mem_of_getElem? (i := 157) rfl)) rfl
theorem xw_2798 : (Jvm.Cond.selects "RankwiseModel" ({ cls := "RankwiseModel", name := "audit", desc := "(II)Z" } : Jvm.MethodName) ({ cls := "RankwiseModel", name := "audit", desc := "(II)Z" } : Jvm.MethodName)) ∈ xTB := xTB_in (xt_12 (List.mem_of_getElem? (i := 158) rfl)) rfl
theorem xw_2812 : (Jvm.Cond.arrayClass Jvm.ClassFile.FieldType.long) ∈ xTB := xTB_in (xt_12 (List.mem_of_getElem? (i := 172) rfl)) rfl
abbrev J_L_type : xJ := (RL, yL_type, cL_type, 4, (Option.some Jvm.ClassFile.FieldType.int))
abbrev J_L_read : xJ := (RL, yL_read, cL_read, 3, (Option.some Jvm.ClassFile.FieldType.int))
abbrev J_L_node : xJ := (RL, yL_node, cL_node, 6, (Option.some Jvm.ClassFile.FieldType.int))
abbrev J_L_isSame : xJ := (RL, yL_isSame, cL_isSame, 5, (Option.some Jvm.ClassFile.FieldType.int))
abbrev J_L_part : xJ := (RL, yL_part, cL_part, 5, (Option.some Jvm.ClassFile.FieldType.int))
abbrev J_L_graft : xJ := (RL, yL_graft, cL_graft, 6, (Option.some Jvm.ClassFile.FieldType.int))
abbrev J_L_tell : xJ := (RL, yL_tell, cL_tell, 8, (Option.some Jvm.ClassFile.FieldType.int))
abbrev J_L_told : xJ := (RL, yL_told, cL_told, 6, (Option.some Jvm.ClassFile.FieldType.int))
abbrev J_L_print : xJ := (RL, yL_print, cL_print, 4, (Option.some Jvm.ClassFile.FieldType.int))
abbrev J_L_postfix : xJ := (RL, yL_postfix, cL_postfix, 4, (Option.some Jvm.ClassFile.FieldType.int))
abbrev J_L_out : xJ := (RL, yL_out, cL_out, 4, (Option.some Jvm.ClassFile.FieldType.int))
abbrev J_L_evaluate : xJ := (RL, yL_evaluate, cL_evaluate, 4, (Option.some Jvm.ClassFile.FieldType.int))
abbrev J_L_reckon : xJ := (RL, yL_reckon, cL_reckon, 4, (Option.some Jvm.ClassFile.FieldType.int))
abbrev J_L_answer : xJ := (RL, yL_answer, cL_answer, 5, (Option.some Jvm.ClassFile.FieldType.int))
abbrev J_L_let : xJ := (RL, yL_let, cL_let, 5, (Option.some Jvm.ClassFile.FieldType.int))
abbrev J_L_unlet : xJ := (RL, yL_unlet, cL_unlet, 4, (Option.some Jvm.ClassFile.FieldType.int))
abbrev J_L_recall : xJ := (RL, yL_recall, cL_recall, 4, (Option.some Jvm.ClassFile.FieldType.int))
abbrev J_L_define : xJ := (RL, yL_define, cL_define, 5, (Option.some Jvm.ClassFile.FieldType.int))
abbrev J_L_addCase : xJ := (RL, yL_addCase, cL_addCase, 6, (Option.some Jvm.ClassFile.FieldType.int))
abbrev J_L_step : xJ := (RL, yL_step, cL_step, 4, (Option.some Jvm.ClassFile.FieldType.int))
abbrev J_L_simplify : xJ := (RL, yL_simplify, cL_simplify, 4, (Option.some Jvm.ClassFile.FieldType.int))
abbrev J_L_trace : xJ := (RL, yL_trace, cL_trace, 5, (Option.some Jvm.ClassFile.FieldType.int))
abbrev J_L_gather : xJ := (RL, yL_gather, cL_gather, 5, (Option.some Jvm.ClassFile.FieldType.int))
abbrev J_L_coefficient : xJ := (RL, yL_coefficient, cL_coefficient, 4, (Option.some Jvm.ClassFile.FieldType.int))
abbrev J_L_derive : xJ := (RL, yL_derive, cL_derive, 5, (Option.some Jvm.ClassFile.FieldType.int))
abbrev J_L_slope : xJ := (RL, yL_slope, cL_slope, 5, (Option.some Jvm.ClassFile.FieldType.int))
abbrev J_L_solve : xJ := (RL, yL_solve, cL_solve, 5, (Option.some Jvm.ClassFile.FieldType.int))
abbrev J_L_audit : xJ := (RL, yL_audit, cL_audit, 5, (Option.some Jvm.ClassFile.FieldType.int))
abbrev J_L_law : xJ := (RL, yL_law, cL_law, 7, (Option.some Jvm.ClassFile.FieldType.boolean))
theorem xtb_L_type : xTb J_L_type = [(0, 9, 12, 13)] := by decide +kernel
theorem xc_L_type : xCalW J_L_type 3 := ⟨by rw [xtb_L_type]; exact xw_766, xw_0, by decide +kernel, rfl, ⟨by decide, by decide⟩, by decide +kernel, by decide⟩
theorem xtb_L_read : xTb J_L_read = [(0, 8, 11, 13)] := by decide +kernel
theorem xc_L_read : xCalW J_L_read 2 := ⟨by rw [xtb_L_read]; exact xw_841, xw_0, by decide +kernel, rfl, ⟨by decide, by decide⟩, by decide +kernel, by decide⟩
theorem xtb_L_node : xTb J_L_node = [(0, 12, 15, 23), (0, 12, 19, 25)] := by decide +kernel
theorem xc_L_node : xCalW J_L_node 5 := ⟨by rw [xtb_L_node]; exact xw_890, xw_0, by decide +kernel, rfl, ⟨by decide, by decide⟩, by decide +kernel, by decide⟩
theorem xtb_L_isSame : xTb J_L_isSame = [(0, 17, 20, 23)] := by decide +kernel
theorem xc_L_isSame : xCalW J_L_isSame 4 := ⟨by rw [xtb_L_isSame]; exact xw_944, xw_0, by decide +kernel, rfl, ⟨by decide, by decide⟩, by decide +kernel, by decide⟩
theorem xtb_L_part : xTb J_L_part = [(0, 10, 13, 23), (0, 10, 17, 13)] := by decide +kernel
theorem xc_L_part : xCalW J_L_part 4 := ⟨by rw [xtb_L_part]; exact xw_959, xw_0, by decide +kernel, rfl, ⟨by decide, by decide⟩, by decide +kernel, by decide⟩
theorem xtb_L_graft : xTb J_L_graft = [(0, 12, 15, 23), (0, 12, 19, 25), (0, 12, 23, 13)] := by decide +kernel
theorem xc_L_graft : xCalW J_L_graft 5 := ⟨by rw [xtb_L_graft]; exact xw_969, xw_0, by decide +kernel, rfl, ⟨by decide, by decide⟩, by decide +kernel, by decide⟩
theorem xtb_L_tell : xTb J_L_tell = [(0, 16, 19, 25), (0, 16, 23, 13)] := by decide +kernel
theorem xc_L_tell : xCalW J_L_tell 7 := ⟨by rw [xtb_L_tell]; exact xw_990, xw_0, by decide +kernel, rfl, ⟨by decide, by decide⟩, by decide +kernel, by decide⟩
theorem xtb_L_told : xTb J_L_told = [(0, 12, 15, 25)] := by decide +kernel
theorem xc_L_told : xCalW J_L_told 5 := ⟨by rw [xtb_L_told]; exact xw_1016, xw_0, by decide +kernel, rfl, ⟨by decide, by decide⟩, by decide +kernel, by decide⟩
theorem xtb_L_print : xTb J_L_print = [(0, 9, 12, 23)] := by decide +kernel
theorem xc_L_print : xCalW J_L_print 3 := ⟨by rw [xtb_L_print]; exact xw_1029, xw_0, by decide +kernel, rfl, ⟨by decide, by decide⟩, by decide +kernel, by decide⟩
theorem xtb_L_postfix : xTb J_L_postfix = [(0, 9, 12, 23), (0, 9, 15, 13)] := by decide +kernel
theorem xc_L_postfix : xCalW J_L_postfix 3 := ⟨by rw [xtb_L_postfix]; exact xw_1087, xw_0, by decide +kernel, rfl, ⟨by decide, by decide⟩, by decide +kernel, by decide⟩
theorem xtb_L_out : xTb J_L_out = [(0, 9, 12, 23)] := by decide +kernel
theorem xc_L_out : xCalW J_L_out 3 := ⟨by rw [xtb_L_out]; exact xw_1108, xw_0, by decide +kernel, rfl, ⟨by decide, by decide⟩, by decide +kernel, by decide⟩
theorem xtb_L_evaluate : xTb J_L_evaluate = [(0, 9, 12, 23)] := by decide +kernel
theorem xc_L_evaluate : xCalW J_L_evaluate 3 := ⟨by rw [xtb_L_evaluate]; exact xw_1116, xw_0, by decide +kernel, rfl, ⟨by decide, by decide⟩, by decide +kernel, by decide⟩
theorem xtb_L_reckon : xTb J_L_reckon = [(0, 9, 12, 23), (0, 9, 15, 13)] := by decide +kernel
theorem xc_L_reckon : xCalW J_L_reckon 3 := ⟨by rw [xtb_L_reckon]; exact xw_1381, xw_0, by decide +kernel, rfl, ⟨by decide, by decide⟩, by decide +kernel, by decide⟩
theorem xtb_L_answer : xTb J_L_answer = [(0, 10, 13, 25)] := by decide +kernel
theorem xc_L_answer : xCalW J_L_answer 4 := ⟨by rw [xtb_L_answer]; exact xw_1392, xw_0, by decide +kernel, rfl, ⟨by decide, by decide⟩, by decide +kernel, by decide⟩
theorem xtb_L_let : xTb J_L_let = [(0, 10, 13, 25), (0, 10, 17, 23)] := by decide +kernel
theorem xc_L_let : xCalW J_L_let 4 := ⟨by rw [xtb_L_let]; exact xw_1407, xw_0, by decide +kernel, rfl, ⟨by decide, by decide⟩, by decide +kernel, by decide⟩
theorem xtb_L_unlet : xTb J_L_unlet = [(0, 16, 19, 25)] := by decide +kernel
theorem xc_L_unlet : xCalW J_L_unlet 3 := ⟨by rw [xtb_L_unlet]; exact xw_1426, xw_0, by decide +kernel, rfl, ⟨by decide, by decide⟩, by decide +kernel, by decide⟩
theorem xtb_L_recall : xTb J_L_recall = [(0, 16, 19, 25)] := by decide +kernel
theorem xc_L_recall : xCalW J_L_recall 3 := ⟨by rw [xtb_L_recall]; exact xw_1437, xw_0, by decide +kernel, rfl, ⟨by decide, by decide⟩, by decide +kernel, by decide⟩
theorem xtb_L_define : xTb J_L_define = [(0, 10, 13, 25)] := by decide +kernel
theorem xc_L_define : xCalW J_L_define 4 := ⟨by rw [xtb_L_define]; exact xw_1444, xw_0, by decide +kernel, rfl, ⟨by decide, by decide⟩, by decide +kernel, by decide⟩
theorem xtb_L_addCase : xTb J_L_addCase = [(0, 12, 15, 25), (0, 12, 19, 23), (0, 12, 23, 13)] := by decide +kernel
theorem xc_L_addCase : xCalW J_L_addCase 5 := ⟨by rw [xtb_L_addCase]; exact xw_1462, xw_0, by decide +kernel, rfl, ⟨by decide, by decide⟩, by decide +kernel, by decide⟩
theorem xtb_L_step : xTb J_L_step = [(0, 9, 12, 23), (0, 9, 15, 13)] := by decide +kernel
theorem xc_L_step : xCalW J_L_step 3 := ⟨by rw [xtb_L_step]; exact xw_1475, xw_0, by decide +kernel, rfl, ⟨by decide, by decide⟩, by decide +kernel, by decide⟩
theorem xtb_L_simplify : xTb J_L_simplify = [(0, 9, 12, 23), (0, 9, 15, 13)] := by decide +kernel
theorem xc_L_simplify : xCalW J_L_simplify 3 := ⟨by rw [xtb_L_simplify]; exact xw_1539, xw_0, by decide +kernel, rfl, ⟨by decide, by decide⟩, by decide +kernel, by decide⟩
theorem xtb_L_trace : xTb J_L_trace = [(0, 10, 13, 25)] := by decide +kernel
theorem xc_L_trace : xCalW J_L_trace 4 := ⟨by rw [xtb_L_trace]; exact xw_1546, xw_0, by decide +kernel, rfl, ⟨by decide, by decide⟩, by decide +kernel, by decide⟩
theorem xtb_L_gather : xTb J_L_gather = [(0, 10, 13, 23), (0, 10, 17, 25)] := by decide +kernel
theorem xc_L_gather : xCalW J_L_gather 4 := ⟨by rw [xtb_L_gather]; exact xw_1554, xw_0, by decide +kernel, rfl, ⟨by decide, by decide⟩, by decide +kernel, by decide⟩
theorem xtb_L_coefficient : xTb J_L_coefficient = [(0, 16, 19, 25)] := by decide +kernel
theorem xc_L_coefficient : xCalW J_L_coefficient 3 := ⟨by rw [xtb_L_coefficient]; exact xw_1626, xw_0, by decide +kernel, rfl, ⟨by decide, by decide⟩, by decide +kernel, by decide⟩
theorem xtb_L_derive : xTb J_L_derive = [(0, 10, 13, 23), (0, 10, 17, 25), (0, 10, 21, 13)] := by decide +kernel
theorem xc_L_derive : xCalW J_L_derive 4 := ⟨by rw [xtb_L_derive]; exact xw_1635, xw_0, by decide +kernel, rfl, ⟨by decide, by decide⟩, by decide +kernel, by decide⟩
theorem xtb_L_slope : xTb J_L_slope = [(0, 10, 13, 23), (0, 10, 17, 25), (0, 10, 21, 13)] := by decide +kernel
theorem xc_L_slope : xCalW J_L_slope 4 := ⟨by rw [xtb_L_slope]; exact xw_1692, xw_0, by decide +kernel, rfl, ⟨by decide, by decide⟩, by decide +kernel, by decide⟩
theorem xtb_L_solve : xTb J_L_solve = [(0, 10, 13, 23), (0, 10, 17, 25)] := by decide +kernel
theorem xc_L_solve : xCalW J_L_solve 4 := ⟨by rw [xtb_L_solve]; exact xw_1746, xw_0, by decide +kernel, rfl, ⟨by decide, by decide⟩, by decide +kernel, by decide⟩
theorem xtb_L_audit : xTb J_L_audit = [(0, 17, 20, 25), (0, 17, 24, 23)] := by decide +kernel
theorem xc_L_audit : xCalW J_L_audit 4 := ⟨by rw [xtb_L_audit]; exact xw_1762, xw_0, by decide +kernel, rfl, ⟨by decide, by decide⟩, by decide +kernel, by decide⟩
-- law: type
def f_L_type (σ : xM) (l0 : Nat) (l1 : Int32) (l2 : Nat) : Option (Int32 × xM) :=
  (if xk σ l0 11 = true then (f_X11_type σ l0 l1).bind (fun p1 => xlet p1.2 (fun σ3 => Sum.elim (fun w2 => (wJ σ3 l2 (0 : Int32) ((w2).toInt64)).bind (fun σ4 => some ((0 : Int32), σ4))) (fun E => (if E = "java/lang/IllegalStateException" then some ((1 : Int32), σ3) else none)) p1.1)) else none)
set_option maxHeartbeats 4000000 in
set_option maxRecDepth 20000 in
theorem m_L_type {G : xG} {π : Nat → Nat} {d C Z : Nat} {Q : xQ} {σ : xM} {l0 : Nat} {l1 : Int32} {l2 : Nat} {x : (Int32 × xM)} (hf : f_L_type σ l0 l1 l2 = some x) (hR : ∀ g, x = g → Q (.inl (some (.int g.1))) (g.2) π) : xMach G π J_L_type (d + 8) (1 + C) (6 + Z) 0 (lv_args 0 [.ref l0, .int l1, .ref l2]) [] σ Q := by
  unfold f_L_type at hf
  refine xm_stL (L' := [(0, .ref l0), (1, .int l1), (2, .ref l2)]) rfl ?_
  refine xm_aload_n dL_type_0 rfl ?_
  refine xm_iconst dL_type_1 (v := 0) (by decide) ?_
  refine xm_aload_n dL_type_2 rfl ?_
  refine xm_iload_n dL_type_3 rfl ?_
  refine xb_if hf (fun hb hf => ?_) (fun _ q => nomatch q)
  obtain ⟨p1, ep1, hf⟩ := xbind hf
  rcases p1 with ⟨w2 | E, σ3⟩
  · have hf : (wJ σ3 l2 (0 : Int32) ((w2).toInt64)).bind (fun σ4 => some ((0 : Int32), σ4)) = some _ := hf
    refine xb_callVcN (As := [.int l1]) (v0 := (some (.int w2))) (τ0 := σ3) dL_type_4 (xc_X11_type _ _) xcl11 xw_768 xw_769 xw_770 hb rfl (Nat.le_of_ble_eq_true rfl) rfl (Nat.le_of_ble_eq_true rfl) (fun Q1 hq => m_X11_type (d := d + 0) ep1 (fun g hg => by subst hg; exact hq)) ?_
    refine xm_i2l dL_type_7 rfl ?_
    refine xb_last dL_type_8 hf (fun σ4 eσ4 hf => ?_)
    refine xm_goto 15 dL_type_9 (by decide) ?_
    refine xm_iconst dL_type_15 (v := 0) (by decide) ?_
    cases hf
    exact xm_iret dL_type_16 rfl (hR _ rfl)
  · have hf : (if E = "java/lang/IllegalStateException" then some ((1 : Int32), σ3) else none) = some _ := hf
    refine xb_if hf (fun hE hf => ?_) (fun nE0 hf => ?_)
    · subst hE
      cases hf
      refine xb_callVcX (As := [.int l1]) (τ0 := σ3) dL_type_4 (xc_X11_type _ _) xcl11 xw_768 xw_769 xw_770 hb rfl (Nat.le_of_ble_eq_true rfl) rfl (Nat.le_of_ble_eq_true rfl) (fun Q1 hq => m_X11_type (d := d + 0) (C := 1) (Z := 6) ep1 (fun g hg => by subst hg; exact ⟨⟨Nat.le_refl _, Nat.le_refl _⟩, hq⟩)) (xCatch_of xtb_L_type (pre := []) (nm := "java/lang/IllegalStateException") rfl (fun z hz => nomatch hz) rfl (by decide) xw_767 (by decide +kernel) rfl) (Or.inr ⟨_, dL_type_12, by decide, rfl⟩) ?_
      refine xm_iconst dL_type_13 (v := 1) (by decide) ?_
      exact xm_iret dL_type_14 rfl (hR _ rfl)
    cases hf
-- law: read
def f_L_read (σ : xM) (l0 : Nat) (l1 : Nat) : Option (Int32 × xM) :=
  (if xk σ l0 11 = true then (f_X11_read σ l0).bind (fun p1 => xlet p1.2 (fun σ3 => Sum.elim (fun w2 => (wJ σ3 l1 (0 : Int32) ((w2).toInt64)).bind (fun σ4 => some ((0 : Int32), σ4))) (fun E => (if E = "java/lang/IllegalStateException" then some ((1 : Int32), σ3) else none)) p1.1)) else none)
set_option maxHeartbeats 4000000 in
set_option maxRecDepth 20000 in
theorem m_L_read {G : xG} {π : Nat → Nat} {d C Z : Nat} {Q : xQ} {σ : xM} {l0 : Nat} {l1 : Nat} {x : (Int32 × xM)} (hf : f_L_read σ l0 l1 = some x) (hR : ∀ g, x = g → Q (.inl (some (.int g.1))) (g.2) π) : xMach G π J_L_read (d + 9) (1 + C) (6 + Z) 0 (lv_args 0 [.ref l0, .ref l1]) [] σ Q := by
  unfold f_L_read at hf
  refine xm_stL (L' := [(0, .ref l0), (1, .ref l1)]) rfl ?_
  refine xm_aload_n dL_read_0 rfl ?_
  refine xm_iconst dL_read_1 (v := 0) (by decide) ?_
  refine xm_aload_n dL_read_2 rfl ?_
  refine xb_if hf (fun hb hf => ?_) (fun _ q => nomatch q)
  obtain ⟨p1, ep1, hf⟩ := xbind hf
  rcases p1 with ⟨w2 | E, σ3⟩
  · have hf : (wJ σ3 l1 (0 : Int32) ((w2).toInt64)).bind (fun σ4 => some ((0 : Int32), σ4)) = some _ := hf
    refine xb_callVcN (As := []) (v0 := (some (.int w2))) (τ0 := σ3) dL_read_3 (xc_X11_read _ _) xcl11 xw_842 xw_843 xw_844 hb rfl (Nat.le_of_ble_eq_true rfl) rfl (Nat.le_of_ble_eq_true rfl) (fun Q1 hq => m_X11_read (d := d + 0) ep1 (fun g hg => by subst hg; exact hq)) ?_
    refine xm_i2l dL_read_6 rfl ?_
    refine xb_last dL_read_7 hf (fun σ4 eσ4 hf => ?_)
    refine xm_goto 14 dL_read_8 (by decide) ?_
    refine xm_iconst dL_read_14 (v := 0) (by decide) ?_
    cases hf
    exact xm_iret dL_read_15 rfl (hR _ rfl)
  · have hf : (if E = "java/lang/IllegalStateException" then some ((1 : Int32), σ3) else none) = some _ := hf
    refine xb_if hf (fun hE hf => ?_) (fun nE0 hf => ?_)
    · subst hE
      cases hf
      refine xb_callVcX (As := []) (τ0 := σ3) dL_read_3 (xc_X11_read _ _) xcl11 xw_842 xw_843 xw_844 hb rfl (Nat.le_of_ble_eq_true rfl) rfl (Nat.le_of_ble_eq_true rfl) (fun Q1 hq => m_X11_read (d := d + 0) (C := 1) (Z := 6) ep1 (fun g hg => by subst hg; exact ⟨⟨Nat.le_refl _, Nat.le_refl _⟩, hq⟩)) (xCatch_of xtb_L_read (pre := []) (nm := "java/lang/IllegalStateException") rfl (fun z hz => nomatch hz) rfl (by decide) xw_767 (by decide +kernel) rfl) (Or.inr ⟨_, dL_read_11, by decide, rfl⟩) ?_
      refine xm_iconst dL_read_12 (v := 1) (by decide) ?_
      exact xm_iret dL_read_13 rfl (hR _ rfl)
    cases hf
-- law: node
def f_L_node (σ : xM) (l0 : Nat) (l1 : Int32) (l2 : Int32) (l3 : Int32) (l4 : Nat) : Option (Int32 × xM) :=
  (if xk σ l0 11 = true then (f_X11_node σ l0 l1 l2 l3).bind (fun p1 => Sum.elim (fun w2 => (wJ σ l4 (0 : Int32) ((w2).toInt64)).bind (fun σ3 => some ((0 : Int32), σ3))) (fun E => (if E = "java/lang/IndexOutOfBoundsException" then some ((1 : Int32), σ) else (if E = "java/lang/IllegalArgumentException" then some ((2 : Int32), σ) else none))) p1) else none)
set_option maxHeartbeats 4000000 in
set_option maxRecDepth 20000 in
theorem m_L_node {G : xG} {π : Nat → Nat} {d C Z : Nat} {Q : xQ} {σ : xM} {l0 : Nat} {l1 : Int32} {l2 : Int32} {l3 : Int32} {l4 : Nat} {x : (Int32 × xM)} (hf : f_L_node σ l0 l1 l2 l3 l4 = some x) (hR : ∀ g, x = g → Q (.inl (some (.int g.1))) (g.2) π) : xMach G π J_L_node (d + 9) (1 + C) (6 + Z) 0 (lv_args 0 [.ref l0, .int l1, .int l2, .int l3, .ref l4]) [] σ Q := by
  unfold f_L_node at hf
  refine xm_stL (L' := [(0, .ref l0), (1, .int l1), (2, .int l2), (3, .int l3), (4, .ref l4)]) rfl ?_
  refine xm_aload dL_node_0 rfl ?_
  refine xm_iconst dL_node_2 (v := 0) (by decide) ?_
  refine xm_aload_n dL_node_3 rfl ?_
  refine xm_iload_n dL_node_4 rfl ?_
  refine xm_iload_n dL_node_5 rfl ?_
  refine xm_iload_n dL_node_6 rfl ?_
  refine xb_if hf (fun hb hf => ?_) (fun _ q => nomatch q)
  obtain ⟨p1, ep1, hf⟩ := xbind hf
  rcases p1 with w2 | E
  · have hf : (wJ σ l4 (0 : Int32) ((w2).toInt64)).bind (fun σ3 => some ((0 : Int32), σ3)) = some _ := hf
    refine xb_callVcN (As := [.int l1, .int l2, .int l3]) (v0 := (some (.int w2))) (τ0 := σ) dL_node_7 (xc_X11_node _ _) xcl11 xw_893 xw_894 xw_895 hb rfl (Nat.le_of_ble_eq_true rfl) rfl (Nat.le_of_ble_eq_true rfl) (fun Q1 hq => m_X11_node (d := d + 0) ep1 (fun g hg => by subst hg; exact hq)) ?_
    refine xm_i2l dL_node_10 rfl ?_
    refine xb_last dL_node_11 hf (fun σ3 eσ3 hf => ?_)
    refine xm_goto 23 dL_node_12 (by decide) ?_
    refine xm_iconst dL_node_23 (v := 0) (by decide) ?_
    cases hf
    exact xm_iret dL_node_24 rfl (hR _ rfl)
  · have hf : (if E = "java/lang/IndexOutOfBoundsException" then some ((1 : Int32), σ) else (if E = "java/lang/IllegalArgumentException" then some ((2 : Int32), σ) else none)) = some _ := hf
    refine xb_if hf (fun hE hf => ?_) (fun nE0 hf => ?_)
    · subst hE
      cases hf
      refine xb_callVcX (As := [.int l1, .int l2, .int l3]) (τ0 := σ) dL_node_7 (xc_X11_node _ _) xcl11 xw_893 xw_894 xw_895 hb rfl (Nat.le_of_ble_eq_true rfl) rfl (Nat.le_of_ble_eq_true rfl) (fun Q1 hq => m_X11_node (d := d + 0) (C := 1) (Z := 6) ep1 (fun g hg => by subst hg; exact ⟨⟨Nat.le_refl _, Nat.le_refl _⟩, hq⟩)) (xCatch_of xtb_L_node (pre := []) (nm := "java/lang/IndexOutOfBoundsException") rfl (fun z hz => nomatch hz) rfl (by decide) xw_891 (by decide +kernel) rfl) (Or.inl ⟨_, dL_node_15, by decide, rfl⟩) ?_
      refine xm_iconst dL_node_17 (v := 1) (by decide) ?_
      exact xm_iret dL_node_18 rfl (hR _ rfl)
    refine xb_if hf (fun hE hf => ?_) (fun nE1 hf => ?_)
    · subst hE
      cases hf
      refine xb_callVcX (As := [.int l1, .int l2, .int l3]) (τ0 := σ) dL_node_7 (xc_X11_node _ _) xcl11 xw_893 xw_894 xw_895 hb rfl (Nat.le_of_ble_eq_true rfl) rfl (Nat.le_of_ble_eq_true rfl) (fun Q1 hq => m_X11_node (d := d + 0) (C := 1) (Z := 6) ep1 (fun g hg => by subst hg; exact ⟨⟨Nat.le_refl _, Nat.le_refl _⟩, hq⟩)) (xCatch_of xtb_L_node (pre := [_]) (nm := "java/lang/IllegalArgumentException") rfl (fun z hz => by simp only [List.mem_cons, List.not_mem_nil, or_false] at hz; rcases hz with rfl <;> first | exact ⟨by decide, "java/lang/IndexOutOfBoundsException", xw_891, by decide +kernel⟩) rfl (by decide) xw_892 (by decide +kernel) rfl) (Or.inl ⟨_, dL_node_19, by decide, rfl⟩) ?_
      refine xm_iconst dL_node_21 (v := 2) (by decide) ?_
      exact xm_iret dL_node_22 rfl (hR _ rfl)
    cases hf
-- law: isSame
def f_L_isSame_j16 (σ : xM) (s0 : Int64) (s1 : Int32) (s2 : Nat) : Option (Int32 × xM) :=
  (wJ σ s2 s1 s0).bind (fun σ3 => some ((0 : Int32), σ3))
set_option maxHeartbeats 4000000 in
set_option maxRecDepth 20000 in
theorem L_L_isSame_j16 {G : xG} {π : Nat → Nat} {d C Z : Nat} {Q : xQ} (σ : xM) (s0 : Int64) (s1 : Int32) (s2 : Nat) {x : (Int32 × xM)} (hf : f_L_isSame_j16 σ s0 s1 s2 = some x) (hR : ∀ g, x = g → Q (.inl (some (.int g.1))) (g.2) π) : xMach G π J_L_isSame (d + 9) C Z 16 [] [.long s0, .int s1, .ref s2] σ Q := by
  unfold f_L_isSame_j16 at hf
  refine xb_last dL_isSame_16 hf (fun σ3 eσ3 hf => ?_)
  refine xm_goto 24 dL_isSame_17 (by decide) ?_
  refine xm_iconst dL_isSame_24 (v := 0) (by decide) ?_
  cases hf
  exact xm_iret dL_isSame_25 rfl (hR _ rfl)
def f_L_isSame (σ : xM) (l0 : Nat) (l1 : Int32) (l2 : Int32) (l3 : Nat) : Option (Int32 × xM) :=
  (if xk σ l0 11 = true then (f_X11_isSame σ l0 l1 l2).bind (fun p1 => Sum.elim (fun w2 => (if w2 = (0 : Int32) then f_L_isSame_j16 σ (0 : Int64) (0 : Int32) l3 else f_L_isSame_j16 σ (1 : Int64) (0 : Int32) l3)) (fun E => (if E = "java/lang/IndexOutOfBoundsException" then some ((1 : Int32), σ) else none)) p1) else none)
set_option maxHeartbeats 4000000 in
set_option maxRecDepth 20000 in
theorem m_L_isSame {G : xG} {π : Nat → Nat} {d C Z : Nat} {Q : xQ} {σ : xM} {l0 : Nat} {l1 : Int32} {l2 : Int32} {l3 : Nat} {x : (Int32 × xM)} (hf : f_L_isSame σ l0 l1 l2 l3 = some x) (hR : ∀ g, x = g → Q (.inl (some (.int g.1))) (g.2) π) : xMach G π J_L_isSame (d + 9) (1 + C) (6 + Z) 0 (lv_args 0 [.ref l0, .int l1, .int l2, .ref l3]) [] σ Q := by
  unfold f_L_isSame at hf
  refine xm_stL (L' := [(0, .ref l0), (1, .int l1), (2, .int l2), (3, .ref l3)]) rfl ?_
  refine xm_aload_n dL_isSame_0 rfl ?_
  refine xm_iconst dL_isSame_1 (v := 0) (by decide) ?_
  refine xm_aload_n dL_isSame_2 rfl ?_
  refine xm_iload_n dL_isSame_3 rfl ?_
  refine xm_iload_n dL_isSame_4 rfl ?_
  refine xb_if hf (fun hb hf => ?_) (fun _ q => nomatch q)
  obtain ⟨p1, ep1, hf⟩ := xbind hf
  rcases p1 with w2 | E
  · have hf : (if w2 = (0 : Int32) then f_L_isSame_j16 σ (0 : Int64) (0 : Int32) l3 else f_L_isSame_j16 σ (1 : Int64) (0 : Int32) l3) = some _ := hf
    refine xb_callVcN (As := [.int l1, .int l2]) (v0 := (some (.int w2))) (τ0 := σ) dL_isSame_5 (xc_X11_isSame _ _) xcl11 xw_945 xw_946 xw_947 hb rfl (Nat.le_of_ble_eq_true rfl) rfl (Nat.le_of_ble_eq_true rfl) (fun Q1 hq => m_X11_isSame (d := d + 0) ep1 (fun g hg => by subst hg; exact hq)) ?_
    refine xb_if_eq 15 dL_isSame_8 (by decide) hf (fun c hf => ?_) (fun c hf => ?_)
    · refine xm_lconst dL_isSame_15 (v := 0) (by decide) ?_
      exact xm_sub [] rfl (L_L_isSame_j16 σ (0 : Int64) (0 : Int32) l3 hf hR)
    · refine xm_lconst dL_isSame_11 (v := 1) (by decide) ?_
      refine xm_goto 16 dL_isSame_12 (by decide) ?_
      exact xm_sub [] rfl (L_L_isSame_j16 σ (1 : Int64) (0 : Int32) l3 hf hR)
  · have hf : (if E = "java/lang/IndexOutOfBoundsException" then some ((1 : Int32), σ) else none) = some _ := hf
    refine xb_if hf (fun hE hf => ?_) (fun nE0 hf => ?_)
    · subst hE
      cases hf
      refine xb_callVcX (As := [.int l1, .int l2]) (τ0 := σ) dL_isSame_5 (xc_X11_isSame _ _) xcl11 xw_945 xw_946 xw_947 hb rfl (Nat.le_of_ble_eq_true rfl) rfl (Nat.le_of_ble_eq_true rfl) (fun Q1 hq => m_X11_isSame (d := d + 0) (C := 1) (Z := 6) ep1 (fun g hg => by subst hg; exact ⟨⟨Nat.le_refl _, Nat.le_refl _⟩, hq⟩)) (xCatch_of xtb_L_isSame (pre := []) (nm := "java/lang/IndexOutOfBoundsException") rfl (fun z hz => nomatch hz) rfl (by decide) xw_891 (by decide +kernel) rfl) (Or.inl ⟨_, dL_isSame_20, by decide, rfl⟩) ?_
      refine xm_iconst dL_isSame_22 (v := 1) (by decide) ?_
      exact xm_iret dL_isSame_23 rfl (hR _ rfl)
    cases hf
-- law: part
def f_L_part (σ : xM) (l0 : Nat) (l1 : Int32) (l2 : Int32) (l3 : Nat) : Option (Int32 × xM) :=
  (if xk σ l0 11 = true then (f_X11_part σ l0 l1 l2).bind (fun p1 => xlet p1.2 (fun σ3 => Sum.elim (fun w2 => (wJ σ3 l3 (0 : Int32) ((w2).toInt64)).bind (fun σ4 => some ((0 : Int32), σ4))) (fun E => (if E = "java/lang/IndexOutOfBoundsException" then some ((1 : Int32), σ3) else (if E = "java/lang/IllegalStateException" then some ((2 : Int32), σ3) else none))) p1.1)) else none)
set_option maxHeartbeats 4000000 in
set_option maxRecDepth 20000 in
theorem m_L_part {G : xG} {π : Nat → Nat} {d C Z : Nat} {Q : xQ} {σ : xM} {l0 : Nat} {l1 : Int32} {l2 : Int32} {l3 : Nat} {x : (Int32 × xM)} (hf : f_L_part σ l0 l1 l2 l3 = some x) (hR : ∀ g, x = g → Q (.inl (some (.int g.1))) (g.2) π) : xMach G π J_L_part (d + 9) (1 + C) (6 + Z) 0 (lv_args 0 [.ref l0, .int l1, .int l2, .ref l3]) [] σ Q := by
  unfold f_L_part at hf
  refine xm_stL (L' := [(0, .ref l0), (1, .int l1), (2, .int l2), (3, .ref l3)]) rfl ?_
  refine xm_aload_n dL_part_0 rfl ?_
  refine xm_iconst dL_part_1 (v := 0) (by decide) ?_
  refine xm_aload_n dL_part_2 rfl ?_
  refine xm_iload_n dL_part_3 rfl ?_
  refine xm_iload_n dL_part_4 rfl ?_
  refine xb_if hf (fun hb hf => ?_) (fun _ q => nomatch q)
  obtain ⟨p1, ep1, hf⟩ := xbind hf
  rcases p1 with ⟨w2 | E, σ3⟩
  · have hf : (wJ σ3 l3 (0 : Int32) ((w2).toInt64)).bind (fun σ4 => some ((0 : Int32), σ4)) = some _ := hf
    refine xb_callVcN (As := [.int l1, .int l2]) (v0 := (some (.int w2))) (τ0 := σ3) dL_part_5 (xc_X11_part _ _) xcl11 xw_960 xw_961 xw_962 hb rfl (Nat.le_of_ble_eq_true rfl) rfl (Nat.le_of_ble_eq_true rfl) (fun Q1 hq => m_X11_part (d := d + 0) ep1 (fun g hg => by subst hg; exact hq)) ?_
    refine xm_i2l dL_part_8 rfl ?_
    refine xb_last dL_part_9 hf (fun σ4 eσ4 hf => ?_)
    refine xm_goto 21 dL_part_10 (by decide) ?_
    refine xm_iconst dL_part_21 (v := 0) (by decide) ?_
    cases hf
    exact xm_iret dL_part_22 rfl (hR _ rfl)
  · have hf : (if E = "java/lang/IndexOutOfBoundsException" then some ((1 : Int32), σ3) else (if E = "java/lang/IllegalStateException" then some ((2 : Int32), σ3) else none)) = some _ := hf
    refine xb_if hf (fun hE hf => ?_) (fun nE0 hf => ?_)
    · subst hE
      cases hf
      refine xb_callVcX (As := [.int l1, .int l2]) (τ0 := σ3) dL_part_5 (xc_X11_part _ _) xcl11 xw_960 xw_961 xw_962 hb rfl (Nat.le_of_ble_eq_true rfl) rfl (Nat.le_of_ble_eq_true rfl) (fun Q1 hq => m_X11_part (d := d + 0) (C := 1) (Z := 6) ep1 (fun g hg => by subst hg; exact ⟨⟨Nat.le_refl _, Nat.le_refl _⟩, hq⟩)) (xCatch_of xtb_L_part (pre := []) (nm := "java/lang/IndexOutOfBoundsException") rfl (fun z hz => nomatch hz) rfl (by decide) xw_891 (by decide +kernel) rfl) (Or.inl ⟨_, dL_part_13, by decide, rfl⟩) ?_
      refine xm_iconst dL_part_15 (v := 1) (by decide) ?_
      exact xm_iret dL_part_16 rfl (hR _ rfl)
    refine xb_if hf (fun hE hf => ?_) (fun nE1 hf => ?_)
    · subst hE
      cases hf
      refine xb_callVcX (As := [.int l1, .int l2]) (τ0 := σ3) dL_part_5 (xc_X11_part _ _) xcl11 xw_960 xw_961 xw_962 hb rfl (Nat.le_of_ble_eq_true rfl) rfl (Nat.le_of_ble_eq_true rfl) (fun Q1 hq => m_X11_part (d := d + 0) (C := 1) (Z := 6) ep1 (fun g hg => by subst hg; exact ⟨⟨Nat.le_refl _, Nat.le_refl _⟩, hq⟩)) (xCatch_of xtb_L_part (pre := [_]) (nm := "java/lang/IllegalStateException") rfl (fun z hz => by simp only [List.mem_cons, List.not_mem_nil, or_false] at hz; rcases hz with rfl <;> first | exact ⟨by decide, "java/lang/IndexOutOfBoundsException", xw_891, by decide +kernel⟩) rfl (by decide) xw_767 (by decide +kernel) rfl) (Or.inl ⟨_, dL_part_17, by decide, rfl⟩) ?_
      refine xm_iconst dL_part_19 (v := 2) (by decide) ?_
      exact xm_iret dL_part_20 rfl (hR _ rfl)
    cases hf
-- law: graft
def f_L_graft (σ : xM) (l0 : Nat) (l1 : Int32) (l2 : Int32) (l3 : Int32) (l4 : Nat) : Option (Int32 × xM) :=
  (if xk σ l0 11 = true then (f_X11_graft σ l0 l1 l2 l3).bind (fun p1 => xlet p1.2 (fun σ3 => Sum.elim (fun w2 => (wJ σ3 l4 (0 : Int32) ((w2).toInt64)).bind (fun σ4 => some ((0 : Int32), σ4))) (fun E => (if E = "java/lang/IndexOutOfBoundsException" then some ((1 : Int32), σ3) else (if E = "java/lang/IllegalArgumentException" then some ((2 : Int32), σ3) else (if E = "java/lang/IllegalStateException" then some ((3 : Int32), σ3) else none)))) p1.1)) else none)
set_option maxHeartbeats 4000000 in
set_option maxRecDepth 20000 in
theorem m_L_graft {G : xG} {π : Nat → Nat} {d C Z : Nat} {Q : xQ} {σ : xM} {l0 : Nat} {l1 : Int32} {l2 : Int32} {l3 : Int32} {l4 : Nat} {x : (Int32 × xM)} (hf : f_L_graft σ l0 l1 l2 l3 l4 = some x) (hR : ∀ g, x = g → Q (.inl (some (.int g.1))) (g.2) π) : xMach G π J_L_graft (d + 9) (1 + C) (6 + Z) 0 (lv_args 0 [.ref l0, .int l1, .int l2, .int l3, .ref l4]) [] σ Q := by
  unfold f_L_graft at hf
  refine xm_stL (L' := [(0, .ref l0), (1, .int l1), (2, .int l2), (3, .int l3), (4, .ref l4)]) rfl ?_
  refine xm_aload dL_graft_0 rfl ?_
  refine xm_iconst dL_graft_2 (v := 0) (by decide) ?_
  refine xm_aload_n dL_graft_3 rfl ?_
  refine xm_iload_n dL_graft_4 rfl ?_
  refine xm_iload_n dL_graft_5 rfl ?_
  refine xm_iload_n dL_graft_6 rfl ?_
  refine xb_if hf (fun hb hf => ?_) (fun _ q => nomatch q)
  obtain ⟨p1, ep1, hf⟩ := xbind hf
  rcases p1 with ⟨w2 | E, σ3⟩
  · have hf : (wJ σ3 l4 (0 : Int32) ((w2).toInt64)).bind (fun σ4 => some ((0 : Int32), σ4)) = some _ := hf
    refine xb_callVcN (As := [.int l1, .int l2, .int l3]) (v0 := (some (.int w2))) (τ0 := σ3) dL_graft_7 (xc_X11_graft _ _) xcl11 xw_970 xw_971 xw_972 hb rfl (Nat.le_of_ble_eq_true rfl) rfl (Nat.le_of_ble_eq_true rfl) (fun Q1 hq => m_X11_graft (d := d + 0) ep1 (fun g hg => by subst hg; exact hq)) ?_
    refine xm_i2l dL_graft_10 rfl ?_
    refine xb_last dL_graft_11 hf (fun σ4 eσ4 hf => ?_)
    refine xm_goto 27 dL_graft_12 (by decide) ?_
    refine xm_iconst dL_graft_27 (v := 0) (by decide) ?_
    cases hf
    exact xm_iret dL_graft_28 rfl (hR _ rfl)
  · have hf : (if E = "java/lang/IndexOutOfBoundsException" then some ((1 : Int32), σ3) else (if E = "java/lang/IllegalArgumentException" then some ((2 : Int32), σ3) else (if E = "java/lang/IllegalStateException" then some ((3 : Int32), σ3) else none))) = some _ := hf
    refine xb_if hf (fun hE hf => ?_) (fun nE0 hf => ?_)
    · subst hE
      cases hf
      refine xb_callVcX (As := [.int l1, .int l2, .int l3]) (τ0 := σ3) dL_graft_7 (xc_X11_graft _ _) xcl11 xw_970 xw_971 xw_972 hb rfl (Nat.le_of_ble_eq_true rfl) rfl (Nat.le_of_ble_eq_true rfl) (fun Q1 hq => m_X11_graft (d := d + 0) (C := 1) (Z := 6) ep1 (fun g hg => by subst hg; exact ⟨⟨Nat.le_refl _, Nat.le_refl _⟩, hq⟩)) (xCatch_of xtb_L_graft (pre := []) (nm := "java/lang/IndexOutOfBoundsException") rfl (fun z hz => nomatch hz) rfl (by decide) xw_891 (by decide +kernel) rfl) (Or.inl ⟨_, dL_graft_15, by decide, rfl⟩) ?_
      refine xm_iconst dL_graft_17 (v := 1) (by decide) ?_
      exact xm_iret dL_graft_18 rfl (hR _ rfl)
    refine xb_if hf (fun hE hf => ?_) (fun nE1 hf => ?_)
    · subst hE
      cases hf
      refine xb_callVcX (As := [.int l1, .int l2, .int l3]) (τ0 := σ3) dL_graft_7 (xc_X11_graft _ _) xcl11 xw_970 xw_971 xw_972 hb rfl (Nat.le_of_ble_eq_true rfl) rfl (Nat.le_of_ble_eq_true rfl) (fun Q1 hq => m_X11_graft (d := d + 0) (C := 1) (Z := 6) ep1 (fun g hg => by subst hg; exact ⟨⟨Nat.le_refl _, Nat.le_refl _⟩, hq⟩)) (xCatch_of xtb_L_graft (pre := [_]) (nm := "java/lang/IllegalArgumentException") rfl (fun z hz => by simp only [List.mem_cons, List.not_mem_nil, or_false] at hz; rcases hz with rfl <;> first | exact ⟨by decide, "java/lang/IndexOutOfBoundsException", xw_891, by decide +kernel⟩) rfl (by decide) xw_892 (by decide +kernel) rfl) (Or.inl ⟨_, dL_graft_19, by decide, rfl⟩) ?_
      refine xm_iconst dL_graft_21 (v := 2) (by decide) ?_
      exact xm_iret dL_graft_22 rfl (hR _ rfl)
    refine xb_if hf (fun hE hf => ?_) (fun nE2 hf => ?_)
    · subst hE
      cases hf
      refine xb_callVcX (As := [.int l1, .int l2, .int l3]) (τ0 := σ3) dL_graft_7 (xc_X11_graft _ _) xcl11 xw_970 xw_971 xw_972 hb rfl (Nat.le_of_ble_eq_true rfl) rfl (Nat.le_of_ble_eq_true rfl) (fun Q1 hq => m_X11_graft (d := d + 0) (C := 1) (Z := 6) ep1 (fun g hg => by subst hg; exact ⟨⟨Nat.le_refl _, Nat.le_refl _⟩, hq⟩)) (xCatch_of xtb_L_graft (pre := [_, _]) (nm := "java/lang/IllegalStateException") rfl (fun z hz => by simp only [List.mem_cons, List.not_mem_nil, or_false] at hz; rcases hz with rfl | rfl <;> first | exact ⟨by decide, "java/lang/IndexOutOfBoundsException", xw_891, by decide +kernel⟩ | exact ⟨by decide, "java/lang/IllegalArgumentException", xw_892, by decide +kernel⟩) rfl (by decide) xw_767 (by decide +kernel) rfl) (Or.inl ⟨_, dL_graft_23, by decide, rfl⟩) ?_
      refine xm_iconst dL_graft_25 (v := 3) (by decide) ?_
      exact xm_iret dL_graft_26 rfl (hR _ rfl)
    cases hf
-- law: tell
def f_L_tell (σ : xM) (l0 : Nat) (l1 : Int32) (l2 : Int32) (l3 : Int32) (l4 : Int32) (l5 : Int32) (l6 : Nat) : Option (Int32 × xM) :=
  (if xk σ l0 11 = true then (f_X11_tell σ l0 l1 l2 l3 l4 l5).bind (fun p1 => xlet p1.2 (fun σ3 => Sum.elim (fun w2 => (wJ σ3 l6 (0 : Int32) ((w2).toInt64)).bind (fun σ4 => some ((0 : Int32), σ4))) (fun E => (if E = "java/lang/IllegalArgumentException" then some ((1 : Int32), σ3) else (if E = "java/lang/IllegalStateException" then some ((2 : Int32), σ3) else none))) p1.1)) else none)
set_option maxHeartbeats 4000000 in
set_option maxRecDepth 20000 in
theorem m_L_tell {G : xG} {π : Nat → Nat} {d C Z : Nat} {Q : xQ} {σ : xM} {l0 : Nat} {l1 : Int32} {l2 : Int32} {l3 : Int32} {l4 : Int32} {l5 : Int32} {l6 : Nat} {x : (Int32 × xM)} (hf : f_L_tell σ l0 l1 l2 l3 l4 l5 l6 = some x) (hR : ∀ g, x = g → Q (.inl (some (.int g.1))) (g.2) π) : xMach G π J_L_tell (d + 8) (1 + C) (6 + Z) 0 (lv_args 0 [.ref l0, .int l1, .int l2, .int l3, .int l4, .int l5, .ref l6]) [] σ Q := by
  unfold f_L_tell at hf
  refine xm_stL (L' := [(0, .ref l0), (1, .int l1), (2, .int l2), (3, .int l3), (4, .int l4), (5, .int l5), (6, .ref l6)]) rfl ?_
  refine xm_aload dL_tell_0 rfl ?_
  refine xm_iconst dL_tell_2 (v := 0) (by decide) ?_
  refine xm_aload_n dL_tell_3 rfl ?_
  refine xm_iload_n dL_tell_4 rfl ?_
  refine xm_iload_n dL_tell_5 rfl ?_
  refine xm_iload_n dL_tell_6 rfl ?_
  refine xm_iload dL_tell_7 rfl ?_
  refine xm_iload dL_tell_9 rfl ?_
  refine xb_if hf (fun hb hf => ?_) (fun _ q => nomatch q)
  obtain ⟨p1, ep1, hf⟩ := xbind hf
  rcases p1 with ⟨w2 | E, σ3⟩
  · have hf : (wJ σ3 l6 (0 : Int32) ((w2).toInt64)).bind (fun σ4 => some ((0 : Int32), σ4)) = some _ := hf
    refine xb_callVcN (As := [.int l1, .int l2, .int l3, .int l4, .int l5]) (v0 := (some (.int w2))) (τ0 := σ3) dL_tell_11 (xc_X11_tell _ _) xcl11 xw_991 xw_992 xw_993 hb rfl (Nat.le_of_ble_eq_true rfl) rfl (Nat.le_of_ble_eq_true rfl) (fun Q1 hq => m_X11_tell (d := d + 0) ep1 (fun g hg => by subst hg; exact hq)) ?_
    refine xm_i2l dL_tell_14 rfl ?_
    refine xb_last dL_tell_15 hf (fun σ4 eσ4 hf => ?_)
    refine xm_goto 27 dL_tell_16 (by decide) ?_
    refine xm_iconst dL_tell_27 (v := 0) (by decide) ?_
    cases hf
    exact xm_iret dL_tell_28 rfl (hR _ rfl)
  · have hf : (if E = "java/lang/IllegalArgumentException" then some ((1 : Int32), σ3) else (if E = "java/lang/IllegalStateException" then some ((2 : Int32), σ3) else none)) = some _ := hf
    refine xb_if hf (fun hE hf => ?_) (fun nE0 hf => ?_)
    · subst hE
      cases hf
      refine xb_callVcX (As := [.int l1, .int l2, .int l3, .int l4, .int l5]) (τ0 := σ3) dL_tell_11 (xc_X11_tell _ _) xcl11 xw_991 xw_992 xw_993 hb rfl (Nat.le_of_ble_eq_true rfl) rfl (Nat.le_of_ble_eq_true rfl) (fun Q1 hq => m_X11_tell (d := d + 0) (C := 1) (Z := 6) ep1 (fun g hg => by subst hg; exact ⟨⟨Nat.le_refl _, Nat.le_refl _⟩, hq⟩)) (xCatch_of xtb_L_tell (pre := []) (nm := "java/lang/IllegalArgumentException") rfl (fun z hz => nomatch hz) rfl (by decide) xw_892 (by decide +kernel) rfl) (Or.inl ⟨_, dL_tell_19, by decide, rfl⟩) ?_
      refine xm_iconst dL_tell_21 (v := 1) (by decide) ?_
      exact xm_iret dL_tell_22 rfl (hR _ rfl)
    refine xb_if hf (fun hE hf => ?_) (fun nE1 hf => ?_)
    · subst hE
      cases hf
      refine xb_callVcX (As := [.int l1, .int l2, .int l3, .int l4, .int l5]) (τ0 := σ3) dL_tell_11 (xc_X11_tell _ _) xcl11 xw_991 xw_992 xw_993 hb rfl (Nat.le_of_ble_eq_true rfl) rfl (Nat.le_of_ble_eq_true rfl) (fun Q1 hq => m_X11_tell (d := d + 0) (C := 1) (Z := 6) ep1 (fun g hg => by subst hg; exact ⟨⟨Nat.le_refl _, Nat.le_refl _⟩, hq⟩)) (xCatch_of xtb_L_tell (pre := [_]) (nm := "java/lang/IllegalStateException") rfl (fun z hz => by simp only [List.mem_cons, List.not_mem_nil, or_false] at hz; rcases hz with rfl <;> first | exact ⟨by decide, "java/lang/IllegalArgumentException", xw_892, by decide +kernel⟩) rfl (by decide) xw_767 (by decide +kernel) rfl) (Or.inl ⟨_, dL_tell_23, by decide, rfl⟩) ?_
      refine xm_iconst dL_tell_25 (v := 2) (by decide) ?_
      exact xm_iret dL_tell_26 rfl (hR _ rfl)
    cases hf
-- law: told
def f_L_told (σ : xM) (l0 : Nat) (l1 : Int32) (l2 : Int32) (l3 : Int32) (l4 : Nat) : Option (Int32 × xM) :=
  (if xk σ l0 11 = true then (f_X11_told σ l0 l1 l2 l3).bind (fun p1 => Sum.elim (fun w2 => (wJ σ l4 (0 : Int32) ((w2).toInt64)).bind (fun σ3 => some ((0 : Int32), σ3))) (fun E => (if E = "java/lang/IllegalArgumentException" then some ((1 : Int32), σ) else none)) p1) else none)
set_option maxHeartbeats 4000000 in
set_option maxRecDepth 20000 in
theorem m_L_told {G : xG} {π : Nat → Nat} {d C Z : Nat} {Q : xQ} {σ : xM} {l0 : Nat} {l1 : Int32} {l2 : Int32} {l3 : Int32} {l4 : Nat} {x : (Int32 × xM)} (hf : f_L_told σ l0 l1 l2 l3 l4 = some x) (hR : ∀ g, x = g → Q (.inl (some (.int g.1))) (g.2) π) : xMach G π J_L_told (d + 8) (1 + C) (6 + Z) 0 (lv_args 0 [.ref l0, .int l1, .int l2, .int l3, .ref l4]) [] σ Q := by
  unfold f_L_told at hf
  refine xm_stL (L' := [(0, .ref l0), (1, .int l1), (2, .int l2), (3, .int l3), (4, .ref l4)]) rfl ?_
  refine xm_aload dL_told_0 rfl ?_
  refine xm_iconst dL_told_2 (v := 0) (by decide) ?_
  refine xm_aload_n dL_told_3 rfl ?_
  refine xm_iload_n dL_told_4 rfl ?_
  refine xm_iload_n dL_told_5 rfl ?_
  refine xm_iload_n dL_told_6 rfl ?_
  refine xb_if hf (fun hb hf => ?_) (fun _ q => nomatch q)
  obtain ⟨p1, ep1, hf⟩ := xbind hf
  rcases p1 with w2 | E
  · have hf : (wJ σ l4 (0 : Int32) ((w2).toInt64)).bind (fun σ3 => some ((0 : Int32), σ3)) = some _ := hf
    refine xb_callVcN (As := [.int l1, .int l2, .int l3]) (v0 := (some (.int w2))) (τ0 := σ) dL_told_7 (xc_X11_told _ _) xcl11 xw_1017 xw_1018 xw_1019 hb rfl (Nat.le_of_ble_eq_true rfl) rfl (Nat.le_of_ble_eq_true rfl) (fun Q1 hq => m_X11_told (d := d + 0) ep1 (fun g hg => by subst hg; exact hq)) ?_
    refine xm_i2l dL_told_10 rfl ?_
    refine xb_last dL_told_11 hf (fun σ3 eσ3 hf => ?_)
    refine xm_goto 19 dL_told_12 (by decide) ?_
    refine xm_iconst dL_told_19 (v := 0) (by decide) ?_
    cases hf
    exact xm_iret dL_told_20 rfl (hR _ rfl)
  · have hf : (if E = "java/lang/IllegalArgumentException" then some ((1 : Int32), σ) else none) = some _ := hf
    refine xb_if hf (fun hE hf => ?_) (fun nE0 hf => ?_)
    · subst hE
      cases hf
      refine xb_callVcX (As := [.int l1, .int l2, .int l3]) (τ0 := σ) dL_told_7 (xc_X11_told _ _) xcl11 xw_1017 xw_1018 xw_1019 hb rfl (Nat.le_of_ble_eq_true rfl) rfl (Nat.le_of_ble_eq_true rfl) (fun Q1 hq => m_X11_told (d := d + 0) (C := 1) (Z := 6) ep1 (fun g hg => by subst hg; exact ⟨⟨Nat.le_refl _, Nat.le_refl _⟩, hq⟩)) (xCatch_of xtb_L_told (pre := []) (nm := "java/lang/IllegalArgumentException") rfl (fun z hz => nomatch hz) rfl (by decide) xw_892 (by decide +kernel) rfl) (Or.inl ⟨_, dL_told_15, by decide, rfl⟩) ?_
      refine xm_iconst dL_told_17 (v := 1) (by decide) ?_
      exact xm_iret dL_told_18 rfl (hR _ rfl)
    cases hf
-- law: print
def f_L_print (σ : xM) (l0 : Nat) (l1 : Int32) (l2 : Nat) : Option (Int32 × xM) :=
  (if xk σ l0 11 = true then (f_X11_print σ l0 l1).bind (fun p1 => xlet p1.2 (fun σ3 => Sum.elim (fun w2 => (wJ σ3 l2 (0 : Int32) ((w2).toInt64)).bind (fun σ4 => some ((0 : Int32), σ4))) (fun E => (if E = "java/lang/IndexOutOfBoundsException" then some ((1 : Int32), σ3) else none)) p1.1)) else none)
set_option maxHeartbeats 4000000 in
set_option maxRecDepth 20000 in
theorem m_L_print {G : xG} {π : Nat → Nat} {d C Z : Nat} {Q : xQ} {σ : xM} {l0 : Nat} {l1 : Int32} {l2 : Nat} {x : (Int32 × xM)} (hf : f_L_print σ l0 l1 l2 = some x) (hR : ∀ g, x = g → Q (.inl (some (.int g.1))) (g.2) π) : xMach G π J_L_print (d + 403) (1 + C) (6 + Z) 0 (lv_args 0 [.ref l0, .int l1, .ref l2]) [] σ Q := by
  unfold f_L_print at hf
  refine xm_stL (L' := [(0, .ref l0), (1, .int l1), (2, .ref l2)]) rfl ?_
  refine xm_aload_n dL_print_0 rfl ?_
  refine xm_iconst dL_print_1 (v := 0) (by decide) ?_
  refine xm_aload_n dL_print_2 rfl ?_
  refine xm_iload_n dL_print_3 rfl ?_
  refine xb_if hf (fun hb hf => ?_) (fun _ q => nomatch q)
  obtain ⟨p1, ep1, hf⟩ := xbind hf
  rcases p1 with ⟨w2 | E, σ3⟩
  · have hf : (wJ σ3 l2 (0 : Int32) ((w2).toInt64)).bind (fun σ4 => some ((0 : Int32), σ4)) = some _ := hf
    refine xb_callVcN (As := [.int l1]) (v0 := (some (.int w2))) (τ0 := σ3) dL_print_4 (xc_X11_print _ _) xcl11 xw_1030 xw_1031 xw_1032 hb rfl (Nat.le_of_ble_eq_true rfl) rfl (Nat.le_of_ble_eq_true rfl) (fun Q1 hq => m_X11_print (d := d + 0) ep1 (fun g hg => by subst hg; exact hq)) ?_
    refine xm_i2l dL_print_7 rfl ?_
    refine xb_last dL_print_8 hf (fun σ4 eσ4 hf => ?_)
    refine xm_goto 15 dL_print_9 (by decide) ?_
    refine xm_iconst dL_print_15 (v := 0) (by decide) ?_
    cases hf
    exact xm_iret dL_print_16 rfl (hR _ rfl)
  · have hf : (if E = "java/lang/IndexOutOfBoundsException" then some ((1 : Int32), σ3) else none) = some _ := hf
    refine xb_if hf (fun hE hf => ?_) (fun nE0 hf => ?_)
    · subst hE
      cases hf
      refine xb_callVcX (As := [.int l1]) (τ0 := σ3) dL_print_4 (xc_X11_print _ _) xcl11 xw_1030 xw_1031 xw_1032 hb rfl (Nat.le_of_ble_eq_true rfl) rfl (Nat.le_of_ble_eq_true rfl) (fun Q1 hq => m_X11_print (d := d + 0) (C := 1) (Z := 6) ep1 (fun g hg => by subst hg; exact ⟨⟨Nat.le_refl _, Nat.le_refl _⟩, hq⟩)) (xCatch_of xtb_L_print (pre := []) (nm := "java/lang/IndexOutOfBoundsException") rfl (fun z hz => nomatch hz) rfl (by decide) xw_891 (by decide +kernel) rfl) (Or.inr ⟨_, dL_print_12, by decide, rfl⟩) ?_
      refine xm_iconst dL_print_13 (v := 1) (by decide) ?_
      exact xm_iret dL_print_14 rfl (hR _ rfl)
    cases hf
-- law: postfix
def f_L_postfix (σ : xM) (l0 : Nat) (l1 : Int32) (l2 : Nat) : Option (Int32 × xM) :=
  (if xk σ l0 11 = true then (f_X11_postfix σ l0 l1).bind (fun p1 => xlet p1.2 (fun σ3 => Sum.elim (fun w2 => (wJ σ3 l2 (0 : Int32) ((w2).toInt64)).bind (fun σ4 => some ((0 : Int32), σ4))) (fun E => (if E = "java/lang/IndexOutOfBoundsException" then some ((1 : Int32), σ3) else (if E = "java/lang/IllegalStateException" then some ((2 : Int32), σ3) else none))) p1.1)) else none)
set_option maxHeartbeats 4000000 in
set_option maxRecDepth 20000 in
theorem m_L_postfix {G : xG} {π : Nat → Nat} {d C Z : Nat} {Q : xQ} {σ : xM} {l0 : Nat} {l1 : Int32} {l2 : Nat} {x : (Int32 × xM)} (hf : f_L_postfix σ l0 l1 l2 = some x) (hR : ∀ g, x = g → Q (.inl (some (.int g.1))) (g.2) π) : xMach G π J_L_postfix (d + 9) (1 + C) (6 + Z) 0 (lv_args 0 [.ref l0, .int l1, .ref l2]) [] σ Q := by
  unfold f_L_postfix at hf
  refine xm_stL (L' := [(0, .ref l0), (1, .int l1), (2, .ref l2)]) rfl ?_
  refine xm_aload_n dL_postfix_0 rfl ?_
  refine xm_iconst dL_postfix_1 (v := 0) (by decide) ?_
  refine xm_aload_n dL_postfix_2 rfl ?_
  refine xm_iload_n dL_postfix_3 rfl ?_
  refine xb_if hf (fun hb hf => ?_) (fun _ q => nomatch q)
  obtain ⟨p1, ep1, hf⟩ := xbind hf
  rcases p1 with ⟨w2 | E, σ3⟩
  · have hf : (wJ σ3 l2 (0 : Int32) ((w2).toInt64)).bind (fun σ4 => some ((0 : Int32), σ4)) = some _ := hf
    refine xb_callVcN (As := [.int l1]) (v0 := (some (.int w2))) (τ0 := σ3) dL_postfix_4 (xc_X11_postfix _ _) xcl11 xw_1088 xw_1089 xw_1090 hb rfl (Nat.le_of_ble_eq_true rfl) rfl (Nat.le_of_ble_eq_true rfl) (fun Q1 hq => m_X11_postfix (d := d + 0) ep1 (fun g hg => by subst hg; exact hq)) ?_
    refine xm_i2l dL_postfix_7 rfl ?_
    refine xb_last dL_postfix_8 hf (fun σ4 eσ4 hf => ?_)
    refine xm_goto 18 dL_postfix_9 (by decide) ?_
    refine xm_iconst dL_postfix_18 (v := 0) (by decide) ?_
    cases hf
    exact xm_iret dL_postfix_19 rfl (hR _ rfl)
  · have hf : (if E = "java/lang/IndexOutOfBoundsException" then some ((1 : Int32), σ3) else (if E = "java/lang/IllegalStateException" then some ((2 : Int32), σ3) else none)) = some _ := hf
    refine xb_if hf (fun hE hf => ?_) (fun nE0 hf => ?_)
    · subst hE
      cases hf
      refine xb_callVcX (As := [.int l1]) (τ0 := σ3) dL_postfix_4 (xc_X11_postfix _ _) xcl11 xw_1088 xw_1089 xw_1090 hb rfl (Nat.le_of_ble_eq_true rfl) rfl (Nat.le_of_ble_eq_true rfl) (fun Q1 hq => m_X11_postfix (d := d + 0) (C := 1) (Z := 6) ep1 (fun g hg => by subst hg; exact ⟨⟨Nat.le_refl _, Nat.le_refl _⟩, hq⟩)) (xCatch_of xtb_L_postfix (pre := []) (nm := "java/lang/IndexOutOfBoundsException") rfl (fun z hz => nomatch hz) rfl (by decide) xw_891 (by decide +kernel) rfl) (Or.inr ⟨_, dL_postfix_12, by decide, rfl⟩) ?_
      refine xm_iconst dL_postfix_13 (v := 1) (by decide) ?_
      exact xm_iret dL_postfix_14 rfl (hR _ rfl)
    refine xb_if hf (fun hE hf => ?_) (fun nE1 hf => ?_)
    · subst hE
      cases hf
      refine xb_callVcX (As := [.int l1]) (τ0 := σ3) dL_postfix_4 (xc_X11_postfix _ _) xcl11 xw_1088 xw_1089 xw_1090 hb rfl (Nat.le_of_ble_eq_true rfl) rfl (Nat.le_of_ble_eq_true rfl) (fun Q1 hq => m_X11_postfix (d := d + 0) (C := 1) (Z := 6) ep1 (fun g hg => by subst hg; exact ⟨⟨Nat.le_refl _, Nat.le_refl _⟩, hq⟩)) (xCatch_of xtb_L_postfix (pre := [_]) (nm := "java/lang/IllegalStateException") rfl (fun z hz => by simp only [List.mem_cons, List.not_mem_nil, or_false] at hz; rcases hz with rfl <;> first | exact ⟨by decide, "java/lang/IndexOutOfBoundsException", xw_891, by decide +kernel⟩) rfl (by decide) xw_767 (by decide +kernel) rfl) (Or.inr ⟨_, dL_postfix_15, by decide, rfl⟩) ?_
      refine xm_iconst dL_postfix_16 (v := 2) (by decide) ?_
      exact xm_iret dL_postfix_17 rfl (hR _ rfl)
    cases hf
-- law: out
def f_L_out (σ : xM) (l0 : Nat) (l1 : Int32) (l2 : Nat) : Option (Int32 × xM) :=
  (if xk σ l0 11 = true then (f_X11_out σ l0 l1).bind (fun p1 => Sum.elim (fun w2 => (wJ σ l2 (0 : Int32) ((w2).toInt64)).bind (fun σ3 => some ((0 : Int32), σ3))) (fun E => (if E = "java/lang/IndexOutOfBoundsException" then some ((1 : Int32), σ) else none)) p1) else none)
set_option maxHeartbeats 4000000 in
set_option maxRecDepth 20000 in
theorem m_L_out {G : xG} {π : Nat → Nat} {d C Z : Nat} {Q : xQ} {σ : xM} {l0 : Nat} {l1 : Int32} {l2 : Nat} {x : (Int32 × xM)} (hf : f_L_out σ l0 l1 l2 = some x) (hR : ∀ g, x = g → Q (.inl (some (.int g.1))) (g.2) π) : xMach G π J_L_out (d + 8) (1 + C) (6 + Z) 0 (lv_args 0 [.ref l0, .int l1, .ref l2]) [] σ Q := by
  unfold f_L_out at hf
  refine xm_stL (L' := [(0, .ref l0), (1, .int l1), (2, .ref l2)]) rfl ?_
  refine xm_aload_n dL_out_0 rfl ?_
  refine xm_iconst dL_out_1 (v := 0) (by decide) ?_
  refine xm_aload_n dL_out_2 rfl ?_
  refine xm_iload_n dL_out_3 rfl ?_
  refine xb_if hf (fun hb hf => ?_) (fun _ q => nomatch q)
  obtain ⟨p1, ep1, hf⟩ := xbind hf
  rcases p1 with w2 | E
  · have hf : (wJ σ l2 (0 : Int32) ((w2).toInt64)).bind (fun σ3 => some ((0 : Int32), σ3)) = some _ := hf
    refine xb_callVcN (As := [.int l1]) (v0 := (some (.int w2))) (τ0 := σ) dL_out_4 (xc_X11_out _ _) xcl11 xw_1109 xw_1110 xw_1111 hb rfl (Nat.le_of_ble_eq_true rfl) rfl (Nat.le_of_ble_eq_true rfl) (fun Q1 hq => m_X11_out (d := d + 0) ep1 (fun g hg => by subst hg; exact hq)) ?_
    refine xm_i2l dL_out_7 rfl ?_
    refine xb_last dL_out_8 hf (fun σ3 eσ3 hf => ?_)
    refine xm_goto 15 dL_out_9 (by decide) ?_
    refine xm_iconst dL_out_15 (v := 0) (by decide) ?_
    cases hf
    exact xm_iret dL_out_16 rfl (hR _ rfl)
  · have hf : (if E = "java/lang/IndexOutOfBoundsException" then some ((1 : Int32), σ) else none) = some _ := hf
    refine xb_if hf (fun hE hf => ?_) (fun nE0 hf => ?_)
    · subst hE
      cases hf
      refine xb_callVcX (As := [.int l1]) (τ0 := σ) dL_out_4 (xc_X11_out _ _) xcl11 xw_1109 xw_1110 xw_1111 hb rfl (Nat.le_of_ble_eq_true rfl) rfl (Nat.le_of_ble_eq_true rfl) (fun Q1 hq => m_X11_out (d := d + 0) (C := 1) (Z := 6) ep1 (fun g hg => by subst hg; exact ⟨⟨Nat.le_refl _, Nat.le_refl _⟩, hq⟩)) (xCatch_of xtb_L_out (pre := []) (nm := "java/lang/IndexOutOfBoundsException") rfl (fun z hz => nomatch hz) rfl (by decide) xw_891 (by decide +kernel) rfl) (Or.inr ⟨_, dL_out_12, by decide, rfl⟩) ?_
      refine xm_iconst dL_out_13 (v := 1) (by decide) ?_
      exact xm_iret dL_out_14 rfl (hR _ rfl)
    cases hf
-- law: evaluate
def f_L_evaluate (σ : xM) (l0 : Nat) (l1 : Int32) (l2 : Nat) : Option (Int32 × xM) :=
  (if xk σ l0 11 = true then (f_X11_evaluate σ l0 l1).bind (fun p1 => xlet p1.2 (fun σ3 => Sum.elim (fun w2 => (wJ σ3 l2 (0 : Int32) ((w2).toInt64)).bind (fun σ4 => some ((0 : Int32), σ4))) (fun E => (if E = "java/lang/IndexOutOfBoundsException" then some ((1 : Int32), σ3) else none)) p1.1)) else none)
set_option maxHeartbeats 4000000 in
set_option maxRecDepth 20000 in
theorem m_L_evaluate {G : xG} {π : Nat → Nat} {d C Z : Nat} {Q : xQ} {σ : xM} {l0 : Nat} {l1 : Int32} {l2 : Nat} {x : (Int32 × xM)} (hf : f_L_evaluate σ l0 l1 l2 = some x) (hR : ∀ g, x = g → Q (.inl (some (.int g.1))) (g.2) π) : xMach G π J_L_evaluate (d + 9) (1 + C) (6 + Z) 0 (lv_args 0 [.ref l0, .int l1, .ref l2]) [] σ Q := by
  unfold f_L_evaluate at hf
  refine xm_stL (L' := [(0, .ref l0), (1, .int l1), (2, .ref l2)]) rfl ?_
  refine xm_aload_n dL_evaluate_0 rfl ?_
  refine xm_iconst dL_evaluate_1 (v := 0) (by decide) ?_
  refine xm_aload_n dL_evaluate_2 rfl ?_
  refine xm_iload_n dL_evaluate_3 rfl ?_
  refine xb_if hf (fun hb hf => ?_) (fun _ q => nomatch q)
  obtain ⟨p1, ep1, hf⟩ := xbind hf
  rcases p1 with ⟨w2 | E, σ3⟩
  · have hf : (wJ σ3 l2 (0 : Int32) ((w2).toInt64)).bind (fun σ4 => some ((0 : Int32), σ4)) = some _ := hf
    refine xb_callVcN (As := [.int l1]) (v0 := (some (.int w2))) (τ0 := σ3) dL_evaluate_4 (xc_X11_evaluate _ _) xcl11 xw_1117 xw_1118 xw_1119 hb rfl (Nat.le_of_ble_eq_true rfl) rfl (Nat.le_of_ble_eq_true rfl) (fun Q1 hq => m_X11_evaluate (d := d + 0) ep1 (fun g hg => by subst hg; exact hq)) ?_
    refine xm_i2l dL_evaluate_7 rfl ?_
    refine xb_last dL_evaluate_8 hf (fun σ4 eσ4 hf => ?_)
    refine xm_goto 15 dL_evaluate_9 (by decide) ?_
    refine xm_iconst dL_evaluate_15 (v := 0) (by decide) ?_
    cases hf
    exact xm_iret dL_evaluate_16 rfl (hR _ rfl)
  · have hf : (if E = "java/lang/IndexOutOfBoundsException" then some ((1 : Int32), σ3) else none) = some _ := hf
    refine xb_if hf (fun hE hf => ?_) (fun nE0 hf => ?_)
    · subst hE
      cases hf
      refine xb_callVcX (As := [.int l1]) (τ0 := σ3) dL_evaluate_4 (xc_X11_evaluate _ _) xcl11 xw_1117 xw_1118 xw_1119 hb rfl (Nat.le_of_ble_eq_true rfl) rfl (Nat.le_of_ble_eq_true rfl) (fun Q1 hq => m_X11_evaluate (d := d + 0) (C := 1) (Z := 6) ep1 (fun g hg => by subst hg; exact ⟨⟨Nat.le_refl _, Nat.le_refl _⟩, hq⟩)) (xCatch_of xtb_L_evaluate (pre := []) (nm := "java/lang/IndexOutOfBoundsException") rfl (fun z hz => nomatch hz) rfl (by decide) xw_891 (by decide +kernel) rfl) (Or.inr ⟨_, dL_evaluate_12, by decide, rfl⟩) ?_
      refine xm_iconst dL_evaluate_13 (v := 1) (by decide) ?_
      exact xm_iret dL_evaluate_14 rfl (hR _ rfl)
    cases hf
-- law: reckon
def f_L_reckon (σ : xM) (l0 : Nat) (l1 : Int32) (l2 : Nat) : Option (Int32 × xM) :=
  (if xk σ l0 11 = true then (f_X11_reckon σ l0 l1).bind (fun p1 => xlet p1.2 (fun σ3 => Sum.elim (fun w2 => (wJ σ3 l2 (0 : Int32) ((w2).toInt64)).bind (fun σ4 => some ((0 : Int32), σ4))) (fun E => (if E = "java/lang/IndexOutOfBoundsException" then some ((1 : Int32), σ3) else (if E = "java/lang/IllegalStateException" then some ((2 : Int32), σ3) else none))) p1.1)) else none)
set_option maxHeartbeats 4000000 in
set_option maxRecDepth 20000 in
theorem m_L_reckon {G : xG} {π : Nat → Nat} {d C Z : Nat} {Q : xQ} {σ : xM} {l0 : Nat} {l1 : Int32} {l2 : Nat} {x : (Int32 × xM)} (hf : f_L_reckon σ l0 l1 l2 = some x) (hR : ∀ g, x = g → Q (.inl (some (.int g.1))) (g.2) π) : xMach G π J_L_reckon (d + 9) (1 + C) (6 + Z) 0 (lv_args 0 [.ref l0, .int l1, .ref l2]) [] σ Q := by
  unfold f_L_reckon at hf
  refine xm_stL (L' := [(0, .ref l0), (1, .int l1), (2, .ref l2)]) rfl ?_
  refine xm_aload_n dL_reckon_0 rfl ?_
  refine xm_iconst dL_reckon_1 (v := 0) (by decide) ?_
  refine xm_aload_n dL_reckon_2 rfl ?_
  refine xm_iload_n dL_reckon_3 rfl ?_
  refine xb_if hf (fun hb hf => ?_) (fun _ q => nomatch q)
  obtain ⟨p1, ep1, hf⟩ := xbind hf
  rcases p1 with ⟨w2 | E, σ3⟩
  · have hf : (wJ σ3 l2 (0 : Int32) ((w2).toInt64)).bind (fun σ4 => some ((0 : Int32), σ4)) = some _ := hf
    refine xb_callVcN (As := [.int l1]) (v0 := (some (.int w2))) (τ0 := σ3) dL_reckon_4 (xc_X11_reckon _ _) xcl11 xw_1382 xw_1383 xw_1384 hb rfl (Nat.le_of_ble_eq_true rfl) rfl (Nat.le_of_ble_eq_true rfl) (fun Q1 hq => m_X11_reckon (d := d + 0) ep1 (fun g hg => by subst hg; exact hq)) ?_
    refine xm_i2l dL_reckon_7 rfl ?_
    refine xb_last dL_reckon_8 hf (fun σ4 eσ4 hf => ?_)
    refine xm_goto 18 dL_reckon_9 (by decide) ?_
    refine xm_iconst dL_reckon_18 (v := 0) (by decide) ?_
    cases hf
    exact xm_iret dL_reckon_19 rfl (hR _ rfl)
  · have hf : (if E = "java/lang/IndexOutOfBoundsException" then some ((1 : Int32), σ3) else (if E = "java/lang/IllegalStateException" then some ((2 : Int32), σ3) else none)) = some _ := hf
    refine xb_if hf (fun hE hf => ?_) (fun nE0 hf => ?_)
    · subst hE
      cases hf
      refine xb_callVcX (As := [.int l1]) (τ0 := σ3) dL_reckon_4 (xc_X11_reckon _ _) xcl11 xw_1382 xw_1383 xw_1384 hb rfl (Nat.le_of_ble_eq_true rfl) rfl (Nat.le_of_ble_eq_true rfl) (fun Q1 hq => m_X11_reckon (d := d + 0) (C := 1) (Z := 6) ep1 (fun g hg => by subst hg; exact ⟨⟨Nat.le_refl _, Nat.le_refl _⟩, hq⟩)) (xCatch_of xtb_L_reckon (pre := []) (nm := "java/lang/IndexOutOfBoundsException") rfl (fun z hz => nomatch hz) rfl (by decide) xw_891 (by decide +kernel) rfl) (Or.inr ⟨_, dL_reckon_12, by decide, rfl⟩) ?_
      refine xm_iconst dL_reckon_13 (v := 1) (by decide) ?_
      exact xm_iret dL_reckon_14 rfl (hR _ rfl)
    refine xb_if hf (fun hE hf => ?_) (fun nE1 hf => ?_)
    · subst hE
      cases hf
      refine xb_callVcX (As := [.int l1]) (τ0 := σ3) dL_reckon_4 (xc_X11_reckon _ _) xcl11 xw_1382 xw_1383 xw_1384 hb rfl (Nat.le_of_ble_eq_true rfl) rfl (Nat.le_of_ble_eq_true rfl) (fun Q1 hq => m_X11_reckon (d := d + 0) (C := 1) (Z := 6) ep1 (fun g hg => by subst hg; exact ⟨⟨Nat.le_refl _, Nat.le_refl _⟩, hq⟩)) (xCatch_of xtb_L_reckon (pre := [_]) (nm := "java/lang/IllegalStateException") rfl (fun z hz => by simp only [List.mem_cons, List.not_mem_nil, or_false] at hz; rcases hz with rfl <;> first | exact ⟨by decide, "java/lang/IndexOutOfBoundsException", xw_891, by decide +kernel⟩) rfl (by decide) xw_767 (by decide +kernel) rfl) (Or.inr ⟨_, dL_reckon_15, by decide, rfl⟩) ?_
      refine xm_iconst dL_reckon_16 (v := 2) (by decide) ?_
      exact xm_iret dL_reckon_17 rfl (hR _ rfl)
    cases hf
-- law: answer
def f_L_answer (σ : xM) (l0 : Nat) (l1 : Int32) (l2 : Int32) (l3 : Nat) : Option (Int32 × xM) :=
  (if xk σ l0 11 = true then (f_X11_answer σ l0 l1 l2).bind (fun p1 => xlet p1.2 (fun σ3 => Sum.elim (fun w2 => (wJ σ3 l3 (0 : Int32) ((w2).toInt64)).bind (fun σ4 => some ((0 : Int32), σ4))) (fun E => (if E = "java/lang/IllegalArgumentException" then some ((1 : Int32), σ3) else none)) p1.1)) else none)
set_option maxHeartbeats 4000000 in
set_option maxRecDepth 20000 in
theorem m_L_answer {G : xG} {π : Nat → Nat} {d C Z : Nat} {Q : xQ} {σ : xM} {l0 : Nat} {l1 : Int32} {l2 : Int32} {l3 : Nat} {x : (Int32 × xM)} (hf : f_L_answer σ l0 l1 l2 l3 = some x) (hR : ∀ g, x = g → Q (.inl (some (.int g.1))) (g.2) π) : xMach G π J_L_answer (d + 8) (1 + C) (6 + Z) 0 (lv_args 0 [.ref l0, .int l1, .int l2, .ref l3]) [] σ Q := by
  unfold f_L_answer at hf
  refine xm_stL (L' := [(0, .ref l0), (1, .int l1), (2, .int l2), (3, .ref l3)]) rfl ?_
  refine xm_aload_n dL_answer_0 rfl ?_
  refine xm_iconst dL_answer_1 (v := 0) (by decide) ?_
  refine xm_aload_n dL_answer_2 rfl ?_
  refine xm_iload_n dL_answer_3 rfl ?_
  refine xm_iload_n dL_answer_4 rfl ?_
  refine xb_if hf (fun hb hf => ?_) (fun _ q => nomatch q)
  obtain ⟨p1, ep1, hf⟩ := xbind hf
  rcases p1 with ⟨w2 | E, σ3⟩
  · have hf : (wJ σ3 l3 (0 : Int32) ((w2).toInt64)).bind (fun σ4 => some ((0 : Int32), σ4)) = some _ := hf
    refine xb_callVcN (As := [.int l1, .int l2]) (v0 := (some (.int w2))) (τ0 := σ3) dL_answer_5 (xc_X11_answer _ _) xcl11 xw_1393 xw_1394 xw_1395 hb rfl (Nat.le_of_ble_eq_true rfl) rfl (Nat.le_of_ble_eq_true rfl) (fun Q1 hq => m_X11_answer (d := d + 0) ep1 (fun g hg => by subst hg; exact hq)) ?_
    refine xm_i2l dL_answer_8 rfl ?_
    refine xb_last dL_answer_9 hf (fun σ4 eσ4 hf => ?_)
    refine xm_goto 17 dL_answer_10 (by decide) ?_
    refine xm_iconst dL_answer_17 (v := 0) (by decide) ?_
    cases hf
    exact xm_iret dL_answer_18 rfl (hR _ rfl)
  · have hf : (if E = "java/lang/IllegalArgumentException" then some ((1 : Int32), σ3) else none) = some _ := hf
    refine xb_if hf (fun hE hf => ?_) (fun nE0 hf => ?_)
    · subst hE
      cases hf
      refine xb_callVcX (As := [.int l1, .int l2]) (τ0 := σ3) dL_answer_5 (xc_X11_answer _ _) xcl11 xw_1393 xw_1394 xw_1395 hb rfl (Nat.le_of_ble_eq_true rfl) rfl (Nat.le_of_ble_eq_true rfl) (fun Q1 hq => m_X11_answer (d := d + 0) (C := 1) (Z := 6) ep1 (fun g hg => by subst hg; exact ⟨⟨Nat.le_refl _, Nat.le_refl _⟩, hq⟩)) (xCatch_of xtb_L_answer (pre := []) (nm := "java/lang/IllegalArgumentException") rfl (fun z hz => nomatch hz) rfl (by decide) xw_892 (by decide +kernel) rfl) (Or.inl ⟨_, dL_answer_13, by decide, rfl⟩) ?_
      refine xm_iconst dL_answer_15 (v := 1) (by decide) ?_
      exact xm_iret dL_answer_16 rfl (hR _ rfl)
    cases hf
-- law: let
def f_L_let (σ : xM) (l0 : Nat) (l1 : Int32) (l2 : Int32) (l3 : Nat) : Option (Int32 × xM) :=
  (if xk σ l0 11 = true then (f_X11_let σ l0 l1 l2).bind (fun p1 => xlet p1.2 (fun σ3 => Sum.elim (fun w2 => (wJ σ3 l3 (0 : Int32) ((w2).toInt64)).bind (fun σ4 => some ((0 : Int32), σ4))) (fun E => (if E = "java/lang/IllegalArgumentException" then some ((1 : Int32), σ3) else (if E = "java/lang/IndexOutOfBoundsException" then some ((2 : Int32), σ3) else none))) p1.1)) else none)
set_option maxHeartbeats 4000000 in
set_option maxRecDepth 20000 in
theorem m_L_let {G : xG} {π : Nat → Nat} {d C Z : Nat} {Q : xQ} {σ : xM} {l0 : Nat} {l1 : Int32} {l2 : Int32} {l3 : Nat} {x : (Int32 × xM)} (hf : f_L_let σ l0 l1 l2 l3 = some x) (hR : ∀ g, x = g → Q (.inl (some (.int g.1))) (g.2) π) : xMach G π J_L_let (d + 10) (1 + C) (6 + Z) 0 (lv_args 0 [.ref l0, .int l1, .int l2, .ref l3]) [] σ Q := by
  unfold f_L_let at hf
  refine xm_stL (L' := [(0, .ref l0), (1, .int l1), (2, .int l2), (3, .ref l3)]) rfl ?_
  refine xm_aload_n dL_let_0 rfl ?_
  refine xm_iconst dL_let_1 (v := 0) (by decide) ?_
  refine xm_aload_n dL_let_2 rfl ?_
  refine xm_iload_n dL_let_3 rfl ?_
  refine xm_iload_n dL_let_4 rfl ?_
  refine xb_if hf (fun hb hf => ?_) (fun _ q => nomatch q)
  obtain ⟨p1, ep1, hf⟩ := xbind hf
  rcases p1 with ⟨w2 | E, σ3⟩
  · have hf : (wJ σ3 l3 (0 : Int32) ((w2).toInt64)).bind (fun σ4 => some ((0 : Int32), σ4)) = some _ := hf
    refine xb_callVcN (As := [.int l1, .int l2]) (v0 := (some (.int w2))) (τ0 := σ3) dL_let_5 (xc_X11_let _ _) xcl11 xw_1408 xw_1409 xw_1410 hb rfl (Nat.le_of_ble_eq_true rfl) rfl (Nat.le_of_ble_eq_true rfl) (fun Q1 hq => m_X11_let (d := d + 0) ep1 (fun g hg => by subst hg; exact hq)) ?_
    refine xm_i2l dL_let_8 rfl ?_
    refine xb_last dL_let_9 hf (fun σ4 eσ4 hf => ?_)
    refine xm_goto 21 dL_let_10 (by decide) ?_
    refine xm_iconst dL_let_21 (v := 0) (by decide) ?_
    cases hf
    exact xm_iret dL_let_22 rfl (hR _ rfl)
  · have hf : (if E = "java/lang/IllegalArgumentException" then some ((1 : Int32), σ3) else (if E = "java/lang/IndexOutOfBoundsException" then some ((2 : Int32), σ3) else none)) = some _ := hf
    refine xb_if hf (fun hE hf => ?_) (fun nE0 hf => ?_)
    · subst hE
      cases hf
      refine xb_callVcX (As := [.int l1, .int l2]) (τ0 := σ3) dL_let_5 (xc_X11_let _ _) xcl11 xw_1408 xw_1409 xw_1410 hb rfl (Nat.le_of_ble_eq_true rfl) rfl (Nat.le_of_ble_eq_true rfl) (fun Q1 hq => m_X11_let (d := d + 0) (C := 1) (Z := 6) ep1 (fun g hg => by subst hg; exact ⟨⟨Nat.le_refl _, Nat.le_refl _⟩, hq⟩)) (xCatch_of xtb_L_let (pre := []) (nm := "java/lang/IllegalArgumentException") rfl (fun z hz => nomatch hz) rfl (by decide) xw_892 (by decide +kernel) rfl) (Or.inl ⟨_, dL_let_13, by decide, rfl⟩) ?_
      refine xm_iconst dL_let_15 (v := 1) (by decide) ?_
      exact xm_iret dL_let_16 rfl (hR _ rfl)
    refine xb_if hf (fun hE hf => ?_) (fun nE1 hf => ?_)
    · subst hE
      cases hf
      refine xb_callVcX (As := [.int l1, .int l2]) (τ0 := σ3) dL_let_5 (xc_X11_let _ _) xcl11 xw_1408 xw_1409 xw_1410 hb rfl (Nat.le_of_ble_eq_true rfl) rfl (Nat.le_of_ble_eq_true rfl) (fun Q1 hq => m_X11_let (d := d + 0) (C := 1) (Z := 6) ep1 (fun g hg => by subst hg; exact ⟨⟨Nat.le_refl _, Nat.le_refl _⟩, hq⟩)) (xCatch_of xtb_L_let (pre := [_]) (nm := "java/lang/IndexOutOfBoundsException") rfl (fun z hz => by simp only [List.mem_cons, List.not_mem_nil, or_false] at hz; rcases hz with rfl <;> first | exact ⟨by decide, "java/lang/IllegalArgumentException", xw_892, by decide +kernel⟩) rfl (by decide) xw_891 (by decide +kernel) rfl) (Or.inl ⟨_, dL_let_17, by decide, rfl⟩) ?_
      refine xm_iconst dL_let_19 (v := 2) (by decide) ?_
      exact xm_iret dL_let_20 rfl (hR _ rfl)
    cases hf
-- law: unlet
def f_L_unlet_j15 (σ : xM) (s0 : Int64) (s1 : Int32) (s2 : Nat) : Option (Int32 × xM) :=
  (wJ σ s2 s1 s0).bind (fun σ4 => some ((0 : Int32), σ4))
set_option maxHeartbeats 4000000 in
set_option maxRecDepth 20000 in
theorem L_L_unlet_j15 {G : xG} {π : Nat → Nat} {d C Z : Nat} {Q : xQ} (σ : xM) (s0 : Int64) (s1 : Int32) (s2 : Nat) {x : (Int32 × xM)} (hf : f_L_unlet_j15 σ s0 s1 s2 = some x) (hR : ∀ g, x = g → Q (.inl (some (.int g.1))) (g.2) π) : xMach G π J_L_unlet (d + 10) C Z 15 [] [.long s0, .int s1, .ref s2] σ Q := by
  unfold f_L_unlet_j15 at hf
  refine xb_last dL_unlet_15 hf (fun σ4 eσ4 hf => ?_)
  refine xm_goto 22 dL_unlet_16 (by decide) ?_
  refine xm_iconst dL_unlet_22 (v := 0) (by decide) ?_
  cases hf
  exact xm_iret dL_unlet_23 rfl (hR _ rfl)
def f_L_unlet (σ : xM) (l0 : Nat) (l1 : Int32) (l2 : Nat) : Option (Int32 × xM) :=
  (if xk σ l0 11 = true then (f_X11_unlet σ l0 l1).bind (fun p1 => xlet p1.2 (fun σ3 => Sum.elim (fun w2 => (if w2 = (0 : Int32) then f_L_unlet_j15 σ3 (0 : Int64) (0 : Int32) l2 else f_L_unlet_j15 σ3 (1 : Int64) (0 : Int32) l2)) (fun E => (if E = "java/lang/IllegalArgumentException" then some ((1 : Int32), σ3) else none)) p1.1)) else none)
set_option maxHeartbeats 4000000 in
set_option maxRecDepth 20000 in
theorem m_L_unlet {G : xG} {π : Nat → Nat} {d C Z : Nat} {Q : xQ} {σ : xM} {l0 : Nat} {l1 : Int32} {l2 : Nat} {x : (Int32 × xM)} (hf : f_L_unlet σ l0 l1 l2 = some x) (hR : ∀ g, x = g → Q (.inl (some (.int g.1))) (g.2) π) : xMach G π J_L_unlet (d + 10) (1 + C) (6 + Z) 0 (lv_args 0 [.ref l0, .int l1, .ref l2]) [] σ Q := by
  unfold f_L_unlet at hf
  refine xm_stL (L' := [(0, .ref l0), (1, .int l1), (2, .ref l2)]) rfl ?_
  refine xm_aload_n dL_unlet_0 rfl ?_
  refine xm_iconst dL_unlet_1 (v := 0) (by decide) ?_
  refine xm_aload_n dL_unlet_2 rfl ?_
  refine xm_iload_n dL_unlet_3 rfl ?_
  refine xb_if hf (fun hb hf => ?_) (fun _ q => nomatch q)
  obtain ⟨p1, ep1, hf⟩ := xbind hf
  rcases p1 with ⟨w2 | E, σ3⟩
  · have hf : (if w2 = (0 : Int32) then f_L_unlet_j15 σ3 (0 : Int64) (0 : Int32) l2 else f_L_unlet_j15 σ3 (1 : Int64) (0 : Int32) l2) = some _ := hf
    refine xb_callVcN (As := [.int l1]) (v0 := (some (.int w2))) (τ0 := σ3) dL_unlet_4 (xc_X11_unlet _ _) xcl11 xw_1427 xw_1428 xw_1429 hb rfl (Nat.le_of_ble_eq_true rfl) rfl (Nat.le_of_ble_eq_true rfl) (fun Q1 hq => m_X11_unlet (d := d + 0) ep1 (fun g hg => by subst hg; exact hq)) ?_
    refine xb_if_eq 14 dL_unlet_7 (by decide) hf (fun c hf => ?_) (fun c hf => ?_)
    · refine xm_lconst dL_unlet_14 (v := 0) (by decide) ?_
      exact xm_sub [] rfl (L_L_unlet_j15 σ3 (0 : Int64) (0 : Int32) l2 hf hR)
    · refine xm_lconst dL_unlet_10 (v := 1) (by decide) ?_
      refine xm_goto 15 dL_unlet_11 (by decide) ?_
      exact xm_sub [] rfl (L_L_unlet_j15 σ3 (1 : Int64) (0 : Int32) l2 hf hR)
  · have hf : (if E = "java/lang/IllegalArgumentException" then some ((1 : Int32), σ3) else none) = some _ := hf
    refine xb_if hf (fun hE hf => ?_) (fun nE0 hf => ?_)
    · subst hE
      cases hf
      refine xb_callVcX (As := [.int l1]) (τ0 := σ3) dL_unlet_4 (xc_X11_unlet _ _) xcl11 xw_1427 xw_1428 xw_1429 hb rfl (Nat.le_of_ble_eq_true rfl) rfl (Nat.le_of_ble_eq_true rfl) (fun Q1 hq => m_X11_unlet (d := d + 0) (C := 1) (Z := 6) ep1 (fun g hg => by subst hg; exact ⟨⟨Nat.le_refl _, Nat.le_refl _⟩, hq⟩)) (xCatch_of xtb_L_unlet (pre := []) (nm := "java/lang/IllegalArgumentException") rfl (fun z hz => nomatch hz) rfl (by decide) xw_892 (by decide +kernel) rfl) (Or.inr ⟨_, dL_unlet_19, by decide, rfl⟩) ?_
      refine xm_iconst dL_unlet_20 (v := 1) (by decide) ?_
      exact xm_iret dL_unlet_21 rfl (hR _ rfl)
    cases hf
-- law: recall
def f_L_recall_j15 (σ : xM) (s0 : Int64) (s1 : Int32) (s2 : Nat) : Option (Int32 × xM) :=
  (wJ σ s2 s1 s0).bind (fun σ4 => some ((0 : Int32), σ4))
set_option maxHeartbeats 4000000 in
set_option maxRecDepth 20000 in
theorem L_L_recall_j15 {G : xG} {π : Nat → Nat} {d C Z : Nat} {Q : xQ} (σ : xM) (s0 : Int64) (s1 : Int32) (s2 : Nat) {x : (Int32 × xM)} (hf : f_L_recall_j15 σ s0 s1 s2 = some x) (hR : ∀ g, x = g → Q (.inl (some (.int g.1))) (g.2) π) : xMach G π J_L_recall (d + 10) C Z 15 [] [.long s0, .int s1, .ref s2] σ Q := by
  unfold f_L_recall_j15 at hf
  refine xb_last dL_recall_15 hf (fun σ4 eσ4 hf => ?_)
  refine xm_goto 22 dL_recall_16 (by decide) ?_
  refine xm_iconst dL_recall_22 (v := 0) (by decide) ?_
  cases hf
  exact xm_iret dL_recall_23 rfl (hR _ rfl)
def f_L_recall (σ : xM) (l0 : Nat) (l1 : Int32) (l2 : Nat) : Option (Int32 × xM) :=
  (if xk σ l0 11 = true then (f_X11_recall σ l0 l1).bind (fun p1 => xlet p1.2 (fun σ3 => Sum.elim (fun w2 => (if w2 = (0 : Int32) then f_L_recall_j15 σ3 (0 : Int64) (0 : Int32) l2 else f_L_recall_j15 σ3 (1 : Int64) (0 : Int32) l2)) (fun E => (if E = "java/lang/IllegalArgumentException" then some ((1 : Int32), σ3) else none)) p1.1)) else none)
set_option maxHeartbeats 4000000 in
set_option maxRecDepth 20000 in
theorem m_L_recall {G : xG} {π : Nat → Nat} {d C Z : Nat} {Q : xQ} {σ : xM} {l0 : Nat} {l1 : Int32} {l2 : Nat} {x : (Int32 × xM)} (hf : f_L_recall σ l0 l1 l2 = some x) (hR : ∀ g, x = g → Q (.inl (some (.int g.1))) (g.2) π) : xMach G π J_L_recall (d + 10) (1 + C) (6 + Z) 0 (lv_args 0 [.ref l0, .int l1, .ref l2]) [] σ Q := by
  unfold f_L_recall at hf
  refine xm_stL (L' := [(0, .ref l0), (1, .int l1), (2, .ref l2)]) rfl ?_
  refine xm_aload_n dL_recall_0 rfl ?_
  refine xm_iconst dL_recall_1 (v := 0) (by decide) ?_
  refine xm_aload_n dL_recall_2 rfl ?_
  refine xm_iload_n dL_recall_3 rfl ?_
  refine xb_if hf (fun hb hf => ?_) (fun _ q => nomatch q)
  obtain ⟨p1, ep1, hf⟩ := xbind hf
  rcases p1 with ⟨w2 | E, σ3⟩
  · have hf : (if w2 = (0 : Int32) then f_L_recall_j15 σ3 (0 : Int64) (0 : Int32) l2 else f_L_recall_j15 σ3 (1 : Int64) (0 : Int32) l2) = some _ := hf
    refine xb_callVcN (As := [.int l1]) (v0 := (some (.int w2))) (τ0 := σ3) dL_recall_4 (xc_X11_recall _ _) xcl11 xw_1438 xw_1439 xw_1440 hb rfl (Nat.le_of_ble_eq_true rfl) rfl (Nat.le_of_ble_eq_true rfl) (fun Q1 hq => m_X11_recall (d := d + 0) ep1 (fun g hg => by subst hg; exact hq)) ?_
    refine xb_if_eq 14 dL_recall_7 (by decide) hf (fun c hf => ?_) (fun c hf => ?_)
    · refine xm_lconst dL_recall_14 (v := 0) (by decide) ?_
      exact xm_sub [] rfl (L_L_recall_j15 σ3 (0 : Int64) (0 : Int32) l2 hf hR)
    · refine xm_lconst dL_recall_10 (v := 1) (by decide) ?_
      refine xm_goto 15 dL_recall_11 (by decide) ?_
      exact xm_sub [] rfl (L_L_recall_j15 σ3 (1 : Int64) (0 : Int32) l2 hf hR)
  · have hf : (if E = "java/lang/IllegalArgumentException" then some ((1 : Int32), σ3) else none) = some _ := hf
    refine xb_if hf (fun hE hf => ?_) (fun nE0 hf => ?_)
    · subst hE
      cases hf
      refine xb_callVcX (As := [.int l1]) (τ0 := σ3) dL_recall_4 (xc_X11_recall _ _) xcl11 xw_1438 xw_1439 xw_1440 hb rfl (Nat.le_of_ble_eq_true rfl) rfl (Nat.le_of_ble_eq_true rfl) (fun Q1 hq => m_X11_recall (d := d + 0) (C := 1) (Z := 6) ep1 (fun g hg => by subst hg; exact ⟨⟨Nat.le_refl _, Nat.le_refl _⟩, hq⟩)) (xCatch_of xtb_L_recall (pre := []) (nm := "java/lang/IllegalArgumentException") rfl (fun z hz => nomatch hz) rfl (by decide) xw_892 (by decide +kernel) rfl) (Or.inr ⟨_, dL_recall_19, by decide, rfl⟩) ?_
      refine xm_iconst dL_recall_20 (v := 1) (by decide) ?_
      exact xm_iret dL_recall_21 rfl (hR _ rfl)
    cases hf
-- law: define
def f_L_define (σ : xM) (l0 : Nat) (l1 : Int32) (l2 : Int32) (l3 : Nat) : Option (Int32 × xM) :=
  (if xk σ l0 11 = true then (f_X11_define σ l0 l1 l2).bind (fun p1 => xlet p1.2 (fun σ3 => Sum.elim (fun w2 => (wJ σ3 l3 (0 : Int32) ((w2).toInt64)).bind (fun σ4 => some ((0 : Int32), σ4))) (fun E => (if E = "java/lang/IllegalArgumentException" then some ((1 : Int32), σ3) else none)) p1.1)) else none)
set_option maxHeartbeats 4000000 in
set_option maxRecDepth 20000 in
theorem m_L_define {G : xG} {π : Nat → Nat} {d C Z : Nat} {Q : xQ} {σ : xM} {l0 : Nat} {l1 : Int32} {l2 : Int32} {l3 : Nat} {x : (Int32 × xM)} (hf : f_L_define σ l0 l1 l2 l3 = some x) (hR : ∀ g, x = g → Q (.inl (some (.int g.1))) (g.2) π) : xMach G π J_L_define (d + 10) (1 + C) (6 + Z) 0 (lv_args 0 [.ref l0, .int l1, .int l2, .ref l3]) [] σ Q := by
  unfold f_L_define at hf
  refine xm_stL (L' := [(0, .ref l0), (1, .int l1), (2, .int l2), (3, .ref l3)]) rfl ?_
  refine xm_aload_n dL_define_0 rfl ?_
  refine xm_iconst dL_define_1 (v := 0) (by decide) ?_
  refine xm_aload_n dL_define_2 rfl ?_
  refine xm_iload_n dL_define_3 rfl ?_
  refine xm_iload_n dL_define_4 rfl ?_
  refine xb_if hf (fun hb hf => ?_) (fun _ q => nomatch q)
  obtain ⟨p1, ep1, hf⟩ := xbind hf
  rcases p1 with ⟨w2 | E, σ3⟩
  · have hf : (wJ σ3 l3 (0 : Int32) ((w2).toInt64)).bind (fun σ4 => some ((0 : Int32), σ4)) = some _ := hf
    refine xb_callVcN (As := [.int l1, .int l2]) (v0 := (some (.int w2))) (τ0 := σ3) dL_define_5 (xc_X11_define _ _) xcl11 xw_1445 xw_1446 xw_1447 hb rfl (Nat.le_of_ble_eq_true rfl) rfl (Nat.le_of_ble_eq_true rfl) (fun Q1 hq => m_X11_define (d := d + 0) ep1 (fun g hg => by subst hg; exact hq)) ?_
    refine xm_i2l dL_define_8 rfl ?_
    refine xb_last dL_define_9 hf (fun σ4 eσ4 hf => ?_)
    refine xm_goto 17 dL_define_10 (by decide) ?_
    refine xm_iconst dL_define_17 (v := 0) (by decide) ?_
    cases hf
    exact xm_iret dL_define_18 rfl (hR _ rfl)
  · have hf : (if E = "java/lang/IllegalArgumentException" then some ((1 : Int32), σ3) else none) = some _ := hf
    refine xb_if hf (fun hE hf => ?_) (fun nE0 hf => ?_)
    · subst hE
      cases hf
      refine xb_callVcX (As := [.int l1, .int l2]) (τ0 := σ3) dL_define_5 (xc_X11_define _ _) xcl11 xw_1445 xw_1446 xw_1447 hb rfl (Nat.le_of_ble_eq_true rfl) rfl (Nat.le_of_ble_eq_true rfl) (fun Q1 hq => m_X11_define (d := d + 0) (C := 1) (Z := 6) ep1 (fun g hg => by subst hg; exact ⟨⟨Nat.le_refl _, Nat.le_refl _⟩, hq⟩)) (xCatch_of xtb_L_define (pre := []) (nm := "java/lang/IllegalArgumentException") rfl (fun z hz => nomatch hz) rfl (by decide) xw_892 (by decide +kernel) rfl) (Or.inl ⟨_, dL_define_13, by decide, rfl⟩) ?_
      refine xm_iconst dL_define_15 (v := 1) (by decide) ?_
      exact xm_iret dL_define_16 rfl (hR _ rfl)
    cases hf
-- law: addCase
def f_L_addCase (σ : xM) (l0 : Nat) (l1 : Int32) (l2 : Int32) (l3 : Int32) (l4 : Nat) : Option (Int32 × xM) :=
  (if xk σ l0 11 = true then (f_X11_addCase σ l0 l1 l2 l3).bind (fun p1 => xlet p1.2 (fun σ3 => Sum.elim (fun w2 => (wJ σ3 l4 (0 : Int32) ((w2).toInt64)).bind (fun σ4 => some ((0 : Int32), σ4))) (fun E => (if E = "java/lang/IllegalArgumentException" then some ((1 : Int32), σ3) else (if E = "java/lang/IndexOutOfBoundsException" then some ((2 : Int32), σ3) else (if E = "java/lang/IllegalStateException" then some ((3 : Int32), σ3) else none)))) p1.1)) else none)
set_option maxHeartbeats 4000000 in
set_option maxRecDepth 20000 in
theorem m_L_addCase {G : xG} {π : Nat → Nat} {d C Z : Nat} {Q : xQ} {σ : xM} {l0 : Nat} {l1 : Int32} {l2 : Int32} {l3 : Int32} {l4 : Nat} {x : (Int32 × xM)} (hf : f_L_addCase σ l0 l1 l2 l3 l4 = some x) (hR : ∀ g, x = g → Q (.inl (some (.int g.1))) (g.2) π) : xMach G π J_L_addCase (d + 10) (1 + C) (6 + Z) 0 (lv_args 0 [.ref l0, .int l1, .int l2, .int l3, .ref l4]) [] σ Q := by
  unfold f_L_addCase at hf
  refine xm_stL (L' := [(0, .ref l0), (1, .int l1), (2, .int l2), (3, .int l3), (4, .ref l4)]) rfl ?_
  refine xm_aload dL_addCase_0 rfl ?_
  refine xm_iconst dL_addCase_2 (v := 0) (by decide) ?_
  refine xm_aload_n dL_addCase_3 rfl ?_
  refine xm_iload_n dL_addCase_4 rfl ?_
  refine xm_iload_n dL_addCase_5 rfl ?_
  refine xm_iload_n dL_addCase_6 rfl ?_
  refine xb_if hf (fun hb hf => ?_) (fun _ q => nomatch q)
  obtain ⟨p1, ep1, hf⟩ := xbind hf
  rcases p1 with ⟨w2 | E, σ3⟩
  · have hf : (wJ σ3 l4 (0 : Int32) ((w2).toInt64)).bind (fun σ4 => some ((0 : Int32), σ4)) = some _ := hf
    refine xb_callVcN (As := [.int l1, .int l2, .int l3]) (v0 := (some (.int w2))) (τ0 := σ3) dL_addCase_7 (xc_X11_addCase _ _) xcl11 xw_1463 xw_1464 xw_1465 hb rfl (Nat.le_of_ble_eq_true rfl) rfl (Nat.le_of_ble_eq_true rfl) (fun Q1 hq => m_X11_addCase (d := d + 0) ep1 (fun g hg => by subst hg; exact hq)) ?_
    refine xm_i2l dL_addCase_10 rfl ?_
    refine xb_last dL_addCase_11 hf (fun σ4 eσ4 hf => ?_)
    refine xm_goto 27 dL_addCase_12 (by decide) ?_
    refine xm_iconst dL_addCase_27 (v := 0) (by decide) ?_
    cases hf
    exact xm_iret dL_addCase_28 rfl (hR _ rfl)
  · have hf : (if E = "java/lang/IllegalArgumentException" then some ((1 : Int32), σ3) else (if E = "java/lang/IndexOutOfBoundsException" then some ((2 : Int32), σ3) else (if E = "java/lang/IllegalStateException" then some ((3 : Int32), σ3) else none))) = some _ := hf
    refine xb_if hf (fun hE hf => ?_) (fun nE0 hf => ?_)
    · subst hE
      cases hf
      refine xb_callVcX (As := [.int l1, .int l2, .int l3]) (τ0 := σ3) dL_addCase_7 (xc_X11_addCase _ _) xcl11 xw_1463 xw_1464 xw_1465 hb rfl (Nat.le_of_ble_eq_true rfl) rfl (Nat.le_of_ble_eq_true rfl) (fun Q1 hq => m_X11_addCase (d := d + 0) (C := 1) (Z := 6) ep1 (fun g hg => by subst hg; exact ⟨⟨Nat.le_refl _, Nat.le_refl _⟩, hq⟩)) (xCatch_of xtb_L_addCase (pre := []) (nm := "java/lang/IllegalArgumentException") rfl (fun z hz => nomatch hz) rfl (by decide) xw_892 (by decide +kernel) rfl) (Or.inl ⟨_, dL_addCase_15, by decide, rfl⟩) ?_
      refine xm_iconst dL_addCase_17 (v := 1) (by decide) ?_
      exact xm_iret dL_addCase_18 rfl (hR _ rfl)
    refine xb_if hf (fun hE hf => ?_) (fun nE1 hf => ?_)
    · subst hE
      cases hf
      refine xb_callVcX (As := [.int l1, .int l2, .int l3]) (τ0 := σ3) dL_addCase_7 (xc_X11_addCase _ _) xcl11 xw_1463 xw_1464 xw_1465 hb rfl (Nat.le_of_ble_eq_true rfl) rfl (Nat.le_of_ble_eq_true rfl) (fun Q1 hq => m_X11_addCase (d := d + 0) (C := 1) (Z := 6) ep1 (fun g hg => by subst hg; exact ⟨⟨Nat.le_refl _, Nat.le_refl _⟩, hq⟩)) (xCatch_of xtb_L_addCase (pre := [_]) (nm := "java/lang/IndexOutOfBoundsException") rfl (fun z hz => by simp only [List.mem_cons, List.not_mem_nil, or_false] at hz; rcases hz with rfl <;> first | exact ⟨by decide, "java/lang/IllegalArgumentException", xw_892, by decide +kernel⟩) rfl (by decide) xw_891 (by decide +kernel) rfl) (Or.inl ⟨_, dL_addCase_19, by decide, rfl⟩) ?_
      refine xm_iconst dL_addCase_21 (v := 2) (by decide) ?_
      exact xm_iret dL_addCase_22 rfl (hR _ rfl)
    refine xb_if hf (fun hE hf => ?_) (fun nE2 hf => ?_)
    · subst hE
      cases hf
      refine xb_callVcX (As := [.int l1, .int l2, .int l3]) (τ0 := σ3) dL_addCase_7 (xc_X11_addCase _ _) xcl11 xw_1463 xw_1464 xw_1465 hb rfl (Nat.le_of_ble_eq_true rfl) rfl (Nat.le_of_ble_eq_true rfl) (fun Q1 hq => m_X11_addCase (d := d + 0) (C := 1) (Z := 6) ep1 (fun g hg => by subst hg; exact ⟨⟨Nat.le_refl _, Nat.le_refl _⟩, hq⟩)) (xCatch_of xtb_L_addCase (pre := [_, _]) (nm := "java/lang/IllegalStateException") rfl (fun z hz => by simp only [List.mem_cons, List.not_mem_nil, or_false] at hz; rcases hz with rfl | rfl <;> first | exact ⟨by decide, "java/lang/IllegalArgumentException", xw_892, by decide +kernel⟩ | exact ⟨by decide, "java/lang/IndexOutOfBoundsException", xw_891, by decide +kernel⟩) rfl (by decide) xw_767 (by decide +kernel) rfl) (Or.inl ⟨_, dL_addCase_23, by decide, rfl⟩) ?_
      refine xm_iconst dL_addCase_25 (v := 3) (by decide) ?_
      exact xm_iret dL_addCase_26 rfl (hR _ rfl)
    cases hf
-- law: step
def f_L_step (σ : xM) (l0 : Nat) (l1 : Int32) (l2 : Nat) : Option (Int32 × xM) :=
  (if xk σ l0 11 = true then (f_X11_step σ l0 l1).bind (fun p1 => xlet p1.2 (fun σ3 => Sum.elim (fun w2 => (wJ σ3 l2 (0 : Int32) ((w2).toInt64)).bind (fun σ4 => some ((0 : Int32), σ4))) (fun E => (if E = "java/lang/IndexOutOfBoundsException" then some ((1 : Int32), σ3) else (if E = "java/lang/IllegalStateException" then some ((2 : Int32), σ3) else none))) p1.1)) else none)
set_option maxHeartbeats 4000000 in
set_option maxRecDepth 20000 in
theorem m_L_step {G : xG} {π : Nat → Nat} {d C Z : Nat} {Q : xQ} {σ : xM} {l0 : Nat} {l1 : Int32} {l2 : Nat} {x : (Int32 × xM)} (hf : f_L_step σ l0 l1 l2 = some x) (hR : ∀ g, x = g → Q (.inl (some (.int g.1))) (g.2) π) : xMach G π J_L_step (d + 9) (1 + C) (6 + Z) 0 (lv_args 0 [.ref l0, .int l1, .ref l2]) [] σ Q := by
  unfold f_L_step at hf
  refine xm_stL (L' := [(0, .ref l0), (1, .int l1), (2, .ref l2)]) rfl ?_
  refine xm_aload_n dL_step_0 rfl ?_
  refine xm_iconst dL_step_1 (v := 0) (by decide) ?_
  refine xm_aload_n dL_step_2 rfl ?_
  refine xm_iload_n dL_step_3 rfl ?_
  refine xb_if hf (fun hb hf => ?_) (fun _ q => nomatch q)
  obtain ⟨p1, ep1, hf⟩ := xbind hf
  rcases p1 with ⟨w2 | E, σ3⟩
  · have hf : (wJ σ3 l2 (0 : Int32) ((w2).toInt64)).bind (fun σ4 => some ((0 : Int32), σ4)) = some _ := hf
    refine xb_callVcN (As := [.int l1]) (v0 := (some (.int w2))) (τ0 := σ3) dL_step_4 (xc_X11_step _ _) xcl11 xw_1476 xw_1477 xw_1478 hb rfl (Nat.le_of_ble_eq_true rfl) rfl (Nat.le_of_ble_eq_true rfl) (fun Q1 hq => m_X11_step (d := d + 0) ep1 (fun g hg => by subst hg; exact hq)) ?_
    refine xm_i2l dL_step_7 rfl ?_
    refine xb_last dL_step_8 hf (fun σ4 eσ4 hf => ?_)
    refine xm_goto 18 dL_step_9 (by decide) ?_
    refine xm_iconst dL_step_18 (v := 0) (by decide) ?_
    cases hf
    exact xm_iret dL_step_19 rfl (hR _ rfl)
  · have hf : (if E = "java/lang/IndexOutOfBoundsException" then some ((1 : Int32), σ3) else (if E = "java/lang/IllegalStateException" then some ((2 : Int32), σ3) else none)) = some _ := hf
    refine xb_if hf (fun hE hf => ?_) (fun nE0 hf => ?_)
    · subst hE
      cases hf
      refine xb_callVcX (As := [.int l1]) (τ0 := σ3) dL_step_4 (xc_X11_step _ _) xcl11 xw_1476 xw_1477 xw_1478 hb rfl (Nat.le_of_ble_eq_true rfl) rfl (Nat.le_of_ble_eq_true rfl) (fun Q1 hq => m_X11_step (d := d + 0) (C := 1) (Z := 6) ep1 (fun g hg => by subst hg; exact ⟨⟨Nat.le_refl _, Nat.le_refl _⟩, hq⟩)) (xCatch_of xtb_L_step (pre := []) (nm := "java/lang/IndexOutOfBoundsException") rfl (fun z hz => nomatch hz) rfl (by decide) xw_891 (by decide +kernel) rfl) (Or.inr ⟨_, dL_step_12, by decide, rfl⟩) ?_
      refine xm_iconst dL_step_13 (v := 1) (by decide) ?_
      exact xm_iret dL_step_14 rfl (hR _ rfl)
    refine xb_if hf (fun hE hf => ?_) (fun nE1 hf => ?_)
    · subst hE
      cases hf
      refine xb_callVcX (As := [.int l1]) (τ0 := σ3) dL_step_4 (xc_X11_step _ _) xcl11 xw_1476 xw_1477 xw_1478 hb rfl (Nat.le_of_ble_eq_true rfl) rfl (Nat.le_of_ble_eq_true rfl) (fun Q1 hq => m_X11_step (d := d + 0) (C := 1) (Z := 6) ep1 (fun g hg => by subst hg; exact ⟨⟨Nat.le_refl _, Nat.le_refl _⟩, hq⟩)) (xCatch_of xtb_L_step (pre := [_]) (nm := "java/lang/IllegalStateException") rfl (fun z hz => by simp only [List.mem_cons, List.not_mem_nil, or_false] at hz; rcases hz with rfl <;> first | exact ⟨by decide, "java/lang/IndexOutOfBoundsException", xw_891, by decide +kernel⟩) rfl (by decide) xw_767 (by decide +kernel) rfl) (Or.inr ⟨_, dL_step_15, by decide, rfl⟩) ?_
      refine xm_iconst dL_step_16 (v := 2) (by decide) ?_
      exact xm_iret dL_step_17 rfl (hR _ rfl)
    cases hf
-- law: simplify
def f_L_simplify (σ : xM) (l0 : Nat) (l1 : Int32) (l2 : Nat) : Option (Int32 × xM) :=
  (if xk σ l0 11 = true then (f_X11_simplify σ l0 l1).bind (fun p1 => xlet p1.2 (fun σ3 => Sum.elim (fun w2 => (wJ σ3 l2 (0 : Int32) ((w2).toInt64)).bind (fun σ4 => some ((0 : Int32), σ4))) (fun E => (if E = "java/lang/IndexOutOfBoundsException" then some ((1 : Int32), σ3) else (if E = "java/lang/IllegalStateException" then some ((2 : Int32), σ3) else none))) p1.1)) else none)
set_option maxHeartbeats 4000000 in
set_option maxRecDepth 20000 in
theorem m_L_simplify {G : xG} {π : Nat → Nat} {d C Z : Nat} {Q : xQ} {σ : xM} {l0 : Nat} {l1 : Int32} {l2 : Nat} {x : (Int32 × xM)} (hf : f_L_simplify σ l0 l1 l2 = some x) (hR : ∀ g, x = g → Q (.inl (some (.int g.1))) (g.2) π) : xMach G π J_L_simplify (d + 9) (1 + C) (6 + Z) 0 (lv_args 0 [.ref l0, .int l1, .ref l2]) [] σ Q := by
  unfold f_L_simplify at hf
  refine xm_stL (L' := [(0, .ref l0), (1, .int l1), (2, .ref l2)]) rfl ?_
  refine xm_aload_n dL_simplify_0 rfl ?_
  refine xm_iconst dL_simplify_1 (v := 0) (by decide) ?_
  refine xm_aload_n dL_simplify_2 rfl ?_
  refine xm_iload_n dL_simplify_3 rfl ?_
  refine xb_if hf (fun hb hf => ?_) (fun _ q => nomatch q)
  obtain ⟨p1, ep1, hf⟩ := xbind hf
  rcases p1 with ⟨w2 | E, σ3⟩
  · have hf : (wJ σ3 l2 (0 : Int32) ((w2).toInt64)).bind (fun σ4 => some ((0 : Int32), σ4)) = some _ := hf
    refine xb_callVcN (As := [.int l1]) (v0 := (some (.int w2))) (τ0 := σ3) dL_simplify_4 (xc_X11_simplify _ _) xcl11 xw_1540 xw_1541 xw_1542 hb rfl (Nat.le_of_ble_eq_true rfl) rfl (Nat.le_of_ble_eq_true rfl) (fun Q1 hq => m_X11_simplify (d := d + 0) ep1 (fun g hg => by subst hg; exact hq)) ?_
    refine xm_i2l dL_simplify_7 rfl ?_
    refine xb_last dL_simplify_8 hf (fun σ4 eσ4 hf => ?_)
    refine xm_goto 18 dL_simplify_9 (by decide) ?_
    refine xm_iconst dL_simplify_18 (v := 0) (by decide) ?_
    cases hf
    exact xm_iret dL_simplify_19 rfl (hR _ rfl)
  · have hf : (if E = "java/lang/IndexOutOfBoundsException" then some ((1 : Int32), σ3) else (if E = "java/lang/IllegalStateException" then some ((2 : Int32), σ3) else none)) = some _ := hf
    refine xb_if hf (fun hE hf => ?_) (fun nE0 hf => ?_)
    · subst hE
      cases hf
      refine xb_callVcX (As := [.int l1]) (τ0 := σ3) dL_simplify_4 (xc_X11_simplify _ _) xcl11 xw_1540 xw_1541 xw_1542 hb rfl (Nat.le_of_ble_eq_true rfl) rfl (Nat.le_of_ble_eq_true rfl) (fun Q1 hq => m_X11_simplify (d := d + 0) (C := 1) (Z := 6) ep1 (fun g hg => by subst hg; exact ⟨⟨Nat.le_refl _, Nat.le_refl _⟩, hq⟩)) (xCatch_of xtb_L_simplify (pre := []) (nm := "java/lang/IndexOutOfBoundsException") rfl (fun z hz => nomatch hz) rfl (by decide) xw_891 (by decide +kernel) rfl) (Or.inr ⟨_, dL_simplify_12, by decide, rfl⟩) ?_
      refine xm_iconst dL_simplify_13 (v := 1) (by decide) ?_
      exact xm_iret dL_simplify_14 rfl (hR _ rfl)
    refine xb_if hf (fun hE hf => ?_) (fun nE1 hf => ?_)
    · subst hE
      cases hf
      refine xb_callVcX (As := [.int l1]) (τ0 := σ3) dL_simplify_4 (xc_X11_simplify _ _) xcl11 xw_1540 xw_1541 xw_1542 hb rfl (Nat.le_of_ble_eq_true rfl) rfl (Nat.le_of_ble_eq_true rfl) (fun Q1 hq => m_X11_simplify (d := d + 0) (C := 1) (Z := 6) ep1 (fun g hg => by subst hg; exact ⟨⟨Nat.le_refl _, Nat.le_refl _⟩, hq⟩)) (xCatch_of xtb_L_simplify (pre := [_]) (nm := "java/lang/IllegalStateException") rfl (fun z hz => by simp only [List.mem_cons, List.not_mem_nil, or_false] at hz; rcases hz with rfl <;> first | exact ⟨by decide, "java/lang/IndexOutOfBoundsException", xw_891, by decide +kernel⟩) rfl (by decide) xw_767 (by decide +kernel) rfl) (Or.inr ⟨_, dL_simplify_15, by decide, rfl⟩) ?_
      refine xm_iconst dL_simplify_16 (v := 2) (by decide) ?_
      exact xm_iret dL_simplify_17 rfl (hR _ rfl)
    cases hf
-- law: trace
def f_L_trace (σ : xM) (l0 : Nat) (l1 : Int32) (l2 : Int32) (l3 : Nat) : Option (Int32 × xM) :=
  (if xk σ l0 11 = true then (f_X11_trace σ l0 l1 l2).bind (fun p1 => Sum.elim (fun w2 => (wJ σ l3 (0 : Int32) ((w2).toInt64)).bind (fun σ3 => some ((0 : Int32), σ3))) (fun E => (if E = "java/lang/IllegalArgumentException" then some ((1 : Int32), σ) else none)) p1) else none)
set_option maxHeartbeats 4000000 in
set_option maxRecDepth 20000 in
theorem m_L_trace {G : xG} {π : Nat → Nat} {d C Z : Nat} {Q : xQ} {σ : xM} {l0 : Nat} {l1 : Int32} {l2 : Int32} {l3 : Nat} {x : (Int32 × xM)} (hf : f_L_trace σ l0 l1 l2 l3 = some x) (hR : ∀ g, x = g → Q (.inl (some (.int g.1))) (g.2) π) : xMach G π J_L_trace (d + 8) (1 + C) (6 + Z) 0 (lv_args 0 [.ref l0, .int l1, .int l2, .ref l3]) [] σ Q := by
  unfold f_L_trace at hf
  refine xm_stL (L' := [(0, .ref l0), (1, .int l1), (2, .int l2), (3, .ref l3)]) rfl ?_
  refine xm_aload_n dL_trace_0 rfl ?_
  refine xm_iconst dL_trace_1 (v := 0) (by decide) ?_
  refine xm_aload_n dL_trace_2 rfl ?_
  refine xm_iload_n dL_trace_3 rfl ?_
  refine xm_iload_n dL_trace_4 rfl ?_
  refine xb_if hf (fun hb hf => ?_) (fun _ q => nomatch q)
  obtain ⟨p1, ep1, hf⟩ := xbind hf
  rcases p1 with w2 | E
  · have hf : (wJ σ l3 (0 : Int32) ((w2).toInt64)).bind (fun σ3 => some ((0 : Int32), σ3)) = some _ := hf
    refine xb_callVcN (As := [.int l1, .int l2]) (v0 := (some (.int w2))) (τ0 := σ) dL_trace_5 (xc_X11_trace _ _) xcl11 xw_1547 xw_1548 xw_1549 hb rfl (Nat.le_of_ble_eq_true rfl) rfl (Nat.le_of_ble_eq_true rfl) (fun Q1 hq => m_X11_trace (d := d + 0) ep1 (fun g hg => by subst hg; exact hq)) ?_
    refine xm_i2l dL_trace_8 rfl ?_
    refine xb_last dL_trace_9 hf (fun σ3 eσ3 hf => ?_)
    refine xm_goto 17 dL_trace_10 (by decide) ?_
    refine xm_iconst dL_trace_17 (v := 0) (by decide) ?_
    cases hf
    exact xm_iret dL_trace_18 rfl (hR _ rfl)
  · have hf : (if E = "java/lang/IllegalArgumentException" then some ((1 : Int32), σ) else none) = some _ := hf
    refine xb_if hf (fun hE hf => ?_) (fun nE0 hf => ?_)
    · subst hE
      cases hf
      refine xb_callVcX (As := [.int l1, .int l2]) (τ0 := σ) dL_trace_5 (xc_X11_trace _ _) xcl11 xw_1547 xw_1548 xw_1549 hb rfl (Nat.le_of_ble_eq_true rfl) rfl (Nat.le_of_ble_eq_true rfl) (fun Q1 hq => m_X11_trace (d := d + 0) (C := 1) (Z := 6) ep1 (fun g hg => by subst hg; exact ⟨⟨Nat.le_refl _, Nat.le_refl _⟩, hq⟩)) (xCatch_of xtb_L_trace (pre := []) (nm := "java/lang/IllegalArgumentException") rfl (fun z hz => nomatch hz) rfl (by decide) xw_892 (by decide +kernel) rfl) (Or.inl ⟨_, dL_trace_13, by decide, rfl⟩) ?_
      refine xm_iconst dL_trace_15 (v := 1) (by decide) ?_
      exact xm_iret dL_trace_16 rfl (hR _ rfl)
    cases hf
-- law: gather
def f_L_gather (σ : xM) (l0 : Nat) (l1 : Int32) (l2 : Int32) (l3 : Nat) : Option (Int32 × xM) :=
  (if xk σ l0 11 = true then (f_X11_gather σ l0 l1 l2).bind (fun p1 => xlet p1.2 (fun σ3 => Sum.elim (fun w2 => (wJ σ3 l3 (0 : Int32) ((w2).toInt64)).bind (fun σ4 => some ((0 : Int32), σ4))) (fun E => (if E = "java/lang/IndexOutOfBoundsException" then some ((1 : Int32), σ3) else (if E = "java/lang/IllegalArgumentException" then some ((2 : Int32), σ3) else none))) p1.1)) else none)
set_option maxHeartbeats 4000000 in
set_option maxRecDepth 20000 in
theorem m_L_gather {G : xG} {π : Nat → Nat} {d C Z : Nat} {Q : xQ} {σ : xM} {l0 : Nat} {l1 : Int32} {l2 : Int32} {l3 : Nat} {x : (Int32 × xM)} (hf : f_L_gather σ l0 l1 l2 l3 = some x) (hR : ∀ g, x = g → Q (.inl (some (.int g.1))) (g.2) π) : xMach G π J_L_gather (d + 9) (1 + C) (6 + Z) 0 (lv_args 0 [.ref l0, .int l1, .int l2, .ref l3]) [] σ Q := by
  unfold f_L_gather at hf
  refine xm_stL (L' := [(0, .ref l0), (1, .int l1), (2, .int l2), (3, .ref l3)]) rfl ?_
  refine xm_aload_n dL_gather_0 rfl ?_
  refine xm_iconst dL_gather_1 (v := 0) (by decide) ?_
  refine xm_aload_n dL_gather_2 rfl ?_
  refine xm_iload_n dL_gather_3 rfl ?_
  refine xm_iload_n dL_gather_4 rfl ?_
  refine xb_if hf (fun hb hf => ?_) (fun _ q => nomatch q)
  obtain ⟨p1, ep1, hf⟩ := xbind hf
  rcases p1 with ⟨w2 | E, σ3⟩
  · have hf : (wJ σ3 l3 (0 : Int32) ((w2).toInt64)).bind (fun σ4 => some ((0 : Int32), σ4)) = some _ := hf
    refine xb_callVcN (As := [.int l1, .int l2]) (v0 := (some (.int w2))) (τ0 := σ3) dL_gather_5 (xc_X11_gather _ _) xcl11 xw_1555 xw_1556 xw_1557 hb rfl (Nat.le_of_ble_eq_true rfl) rfl (Nat.le_of_ble_eq_true rfl) (fun Q1 hq => m_X11_gather (d := d + 0) ep1 (fun g hg => by subst hg; exact hq)) ?_
    refine xm_i2l dL_gather_8 rfl ?_
    refine xb_last dL_gather_9 hf (fun σ4 eσ4 hf => ?_)
    refine xm_goto 21 dL_gather_10 (by decide) ?_
    refine xm_iconst dL_gather_21 (v := 0) (by decide) ?_
    cases hf
    exact xm_iret dL_gather_22 rfl (hR _ rfl)
  · have hf : (if E = "java/lang/IndexOutOfBoundsException" then some ((1 : Int32), σ3) else (if E = "java/lang/IllegalArgumentException" then some ((2 : Int32), σ3) else none)) = some _ := hf
    refine xb_if hf (fun hE hf => ?_) (fun nE0 hf => ?_)
    · subst hE
      cases hf
      refine xb_callVcX (As := [.int l1, .int l2]) (τ0 := σ3) dL_gather_5 (xc_X11_gather _ _) xcl11 xw_1555 xw_1556 xw_1557 hb rfl (Nat.le_of_ble_eq_true rfl) rfl (Nat.le_of_ble_eq_true rfl) (fun Q1 hq => m_X11_gather (d := d + 0) (C := 1) (Z := 6) ep1 (fun g hg => by subst hg; exact ⟨⟨Nat.le_refl _, Nat.le_refl _⟩, hq⟩)) (xCatch_of xtb_L_gather (pre := []) (nm := "java/lang/IndexOutOfBoundsException") rfl (fun z hz => nomatch hz) rfl (by decide) xw_891 (by decide +kernel) rfl) (Or.inl ⟨_, dL_gather_13, by decide, rfl⟩) ?_
      refine xm_iconst dL_gather_15 (v := 1) (by decide) ?_
      exact xm_iret dL_gather_16 rfl (hR _ rfl)
    refine xb_if hf (fun hE hf => ?_) (fun nE1 hf => ?_)
    · subst hE
      cases hf
      refine xb_callVcX (As := [.int l1, .int l2]) (τ0 := σ3) dL_gather_5 (xc_X11_gather _ _) xcl11 xw_1555 xw_1556 xw_1557 hb rfl (Nat.le_of_ble_eq_true rfl) rfl (Nat.le_of_ble_eq_true rfl) (fun Q1 hq => m_X11_gather (d := d + 0) (C := 1) (Z := 6) ep1 (fun g hg => by subst hg; exact ⟨⟨Nat.le_refl _, Nat.le_refl _⟩, hq⟩)) (xCatch_of xtb_L_gather (pre := [_]) (nm := "java/lang/IllegalArgumentException") rfl (fun z hz => by simp only [List.mem_cons, List.not_mem_nil, or_false] at hz; rcases hz with rfl <;> first | exact ⟨by decide, "java/lang/IndexOutOfBoundsException", xw_891, by decide +kernel⟩) rfl (by decide) xw_892 (by decide +kernel) rfl) (Or.inl ⟨_, dL_gather_17, by decide, rfl⟩) ?_
      refine xm_iconst dL_gather_19 (v := 2) (by decide) ?_
      exact xm_iret dL_gather_20 rfl (hR _ rfl)
    cases hf
-- law: coefficient
def f_L_coefficient_j15 (σ : xM) (s0 : Int64) (s1 : Int32) (s2 : Nat) : Option (Int32 × xM) :=
  (wJ σ s2 s1 s0).bind (fun σ4 => some ((0 : Int32), σ4))
set_option maxHeartbeats 4000000 in
set_option maxRecDepth 20000 in
theorem L_L_coefficient_j15 {G : xG} {π : Nat → Nat} {d C Z : Nat} {Q : xQ} (σ : xM) (s0 : Int64) (s1 : Int32) (s2 : Nat) {x : (Int32 × xM)} (hf : f_L_coefficient_j15 σ s0 s1 s2 = some x) (hR : ∀ g, x = g → Q (.inl (some (.int g.1))) (g.2) π) : xMach G π J_L_coefficient (d + 8) C Z 15 [] [.long s0, .int s1, .ref s2] σ Q := by
  unfold f_L_coefficient_j15 at hf
  refine xb_last dL_coefficient_15 hf (fun σ4 eσ4 hf => ?_)
  refine xm_goto 22 dL_coefficient_16 (by decide) ?_
  refine xm_iconst dL_coefficient_22 (v := 0) (by decide) ?_
  cases hf
  exact xm_iret dL_coefficient_23 rfl (hR _ rfl)
def f_L_coefficient (σ : xM) (l0 : Nat) (l1 : Int32) (l2 : Nat) : Option (Int32 × xM) :=
  (if xk σ l0 11 = true then (f_X11_coefficient σ l0 l1).bind (fun p1 => xlet p1.2 (fun σ3 => Sum.elim (fun w2 => (if w2 = (0 : Int32) then f_L_coefficient_j15 σ3 (0 : Int64) (0 : Int32) l2 else f_L_coefficient_j15 σ3 (1 : Int64) (0 : Int32) l2)) (fun E => (if E = "java/lang/IllegalArgumentException" then some ((1 : Int32), σ3) else none)) p1.1)) else none)
set_option maxHeartbeats 4000000 in
set_option maxRecDepth 20000 in
theorem m_L_coefficient {G : xG} {π : Nat → Nat} {d C Z : Nat} {Q : xQ} {σ : xM} {l0 : Nat} {l1 : Int32} {l2 : Nat} {x : (Int32 × xM)} (hf : f_L_coefficient σ l0 l1 l2 = some x) (hR : ∀ g, x = g → Q (.inl (some (.int g.1))) (g.2) π) : xMach G π J_L_coefficient (d + 8) (1 + C) (6 + Z) 0 (lv_args 0 [.ref l0, .int l1, .ref l2]) [] σ Q := by
  unfold f_L_coefficient at hf
  refine xm_stL (L' := [(0, .ref l0), (1, .int l1), (2, .ref l2)]) rfl ?_
  refine xm_aload_n dL_coefficient_0 rfl ?_
  refine xm_iconst dL_coefficient_1 (v := 0) (by decide) ?_
  refine xm_aload_n dL_coefficient_2 rfl ?_
  refine xm_iload_n dL_coefficient_3 rfl ?_
  refine xb_if hf (fun hb hf => ?_) (fun _ q => nomatch q)
  obtain ⟨p1, ep1, hf⟩ := xbind hf
  rcases p1 with ⟨w2 | E, σ3⟩
  · have hf : (if w2 = (0 : Int32) then f_L_coefficient_j15 σ3 (0 : Int64) (0 : Int32) l2 else f_L_coefficient_j15 σ3 (1 : Int64) (0 : Int32) l2) = some _ := hf
    refine xb_callVcN (As := [.int l1]) (v0 := (some (.int w2))) (τ0 := σ3) dL_coefficient_4 (xc_X11_coefficient _ _) xcl11 xw_1627 xw_1628 xw_1629 hb rfl (Nat.le_of_ble_eq_true rfl) rfl (Nat.le_of_ble_eq_true rfl) (fun Q1 hq => m_X11_coefficient (d := d + 0) ep1 (fun g hg => by subst hg; exact hq)) ?_
    refine xb_if_eq 14 dL_coefficient_7 (by decide) hf (fun c hf => ?_) (fun c hf => ?_)
    · refine xm_lconst dL_coefficient_14 (v := 0) (by decide) ?_
      exact xm_sub [] rfl (L_L_coefficient_j15 σ3 (0 : Int64) (0 : Int32) l2 hf hR)
    · refine xm_lconst dL_coefficient_10 (v := 1) (by decide) ?_
      refine xm_goto 15 dL_coefficient_11 (by decide) ?_
      exact xm_sub [] rfl (L_L_coefficient_j15 σ3 (1 : Int64) (0 : Int32) l2 hf hR)
  · have hf : (if E = "java/lang/IllegalArgumentException" then some ((1 : Int32), σ3) else none) = some _ := hf
    refine xb_if hf (fun hE hf => ?_) (fun nE0 hf => ?_)
    · subst hE
      cases hf
      refine xb_callVcX (As := [.int l1]) (τ0 := σ3) dL_coefficient_4 (xc_X11_coefficient _ _) xcl11 xw_1627 xw_1628 xw_1629 hb rfl (Nat.le_of_ble_eq_true rfl) rfl (Nat.le_of_ble_eq_true rfl) (fun Q1 hq => m_X11_coefficient (d := d + 0) (C := 1) (Z := 6) ep1 (fun g hg => by subst hg; exact ⟨⟨Nat.le_refl _, Nat.le_refl _⟩, hq⟩)) (xCatch_of xtb_L_coefficient (pre := []) (nm := "java/lang/IllegalArgumentException") rfl (fun z hz => nomatch hz) rfl (by decide) xw_892 (by decide +kernel) rfl) (Or.inr ⟨_, dL_coefficient_19, by decide, rfl⟩) ?_
      refine xm_iconst dL_coefficient_20 (v := 1) (by decide) ?_
      exact xm_iret dL_coefficient_21 rfl (hR _ rfl)
    cases hf
-- law: derive
def f_L_derive (σ : xM) (l0 : Nat) (l1 : Int32) (l2 : Int32) (l3 : Nat) : Option (Int32 × xM) :=
  (if xk σ l0 11 = true then (f_X11_derive σ l0 l1 l2).bind (fun p1 => xlet p1.2 (fun σ3 => Sum.elim (fun w2 => (wJ σ3 l3 (0 : Int32) ((w2).toInt64)).bind (fun σ4 => some ((0 : Int32), σ4))) (fun E => (if E = "java/lang/IndexOutOfBoundsException" then some ((1 : Int32), σ3) else (if E = "java/lang/IllegalArgumentException" then some ((2 : Int32), σ3) else (if E = "java/lang/IllegalStateException" then some ((3 : Int32), σ3) else none)))) p1.1)) else none)
set_option maxHeartbeats 4000000 in
set_option maxRecDepth 20000 in
theorem m_L_derive {G : xG} {π : Nat → Nat} {d C Z : Nat} {Q : xQ} {σ : xM} {l0 : Nat} {l1 : Int32} {l2 : Int32} {l3 : Nat} {x : (Int32 × xM)} (hf : f_L_derive σ l0 l1 l2 l3 = some x) (hR : ∀ g, x = g → Q (.inl (some (.int g.1))) (g.2) π) : xMach G π J_L_derive (d + 408) (1 + C) (6 + Z) 0 (lv_args 0 [.ref l0, .int l1, .int l2, .ref l3]) [] σ Q := by
  unfold f_L_derive at hf
  refine xm_stL (L' := [(0, .ref l0), (1, .int l1), (2, .int l2), (3, .ref l3)]) rfl ?_
  refine xm_aload_n dL_derive_0 rfl ?_
  refine xm_iconst dL_derive_1 (v := 0) (by decide) ?_
  refine xm_aload_n dL_derive_2 rfl ?_
  refine xm_iload_n dL_derive_3 rfl ?_
  refine xm_iload_n dL_derive_4 rfl ?_
  refine xb_if hf (fun hb hf => ?_) (fun _ q => nomatch q)
  obtain ⟨p1, ep1, hf⟩ := xbind hf
  rcases p1 with ⟨w2 | E, σ3⟩
  · have hf : (wJ σ3 l3 (0 : Int32) ((w2).toInt64)).bind (fun σ4 => some ((0 : Int32), σ4)) = some _ := hf
    refine xb_callVcN (As := [.int l1, .int l2]) (v0 := (some (.int w2))) (τ0 := σ3) dL_derive_5 (xc_X11_derive _ _) xcl11 xw_1636 xw_1637 xw_1638 hb rfl (Nat.le_of_ble_eq_true rfl) rfl (Nat.le_of_ble_eq_true rfl) (fun Q1 hq => m_X11_derive (d := d + 0) ep1 (fun g hg => by subst hg; exact hq)) ?_
    refine xm_i2l dL_derive_8 rfl ?_
    refine xb_last dL_derive_9 hf (fun σ4 eσ4 hf => ?_)
    refine xm_goto 25 dL_derive_10 (by decide) ?_
    refine xm_iconst dL_derive_25 (v := 0) (by decide) ?_
    cases hf
    exact xm_iret dL_derive_26 rfl (hR _ rfl)
  · have hf : (if E = "java/lang/IndexOutOfBoundsException" then some ((1 : Int32), σ3) else (if E = "java/lang/IllegalArgumentException" then some ((2 : Int32), σ3) else (if E = "java/lang/IllegalStateException" then some ((3 : Int32), σ3) else none))) = some _ := hf
    refine xb_if hf (fun hE hf => ?_) (fun nE0 hf => ?_)
    · subst hE
      cases hf
      refine xb_callVcX (As := [.int l1, .int l2]) (τ0 := σ3) dL_derive_5 (xc_X11_derive _ _) xcl11 xw_1636 xw_1637 xw_1638 hb rfl (Nat.le_of_ble_eq_true rfl) rfl (Nat.le_of_ble_eq_true rfl) (fun Q1 hq => m_X11_derive (d := d + 0) (C := 1) (Z := 6) ep1 (fun g hg => by subst hg; exact ⟨⟨Nat.le_refl _, Nat.le_refl _⟩, hq⟩)) (xCatch_of xtb_L_derive (pre := []) (nm := "java/lang/IndexOutOfBoundsException") rfl (fun z hz => nomatch hz) rfl (by decide) xw_891 (by decide +kernel) rfl) (Or.inl ⟨_, dL_derive_13, by decide, rfl⟩) ?_
      refine xm_iconst dL_derive_15 (v := 1) (by decide) ?_
      exact xm_iret dL_derive_16 rfl (hR _ rfl)
    refine xb_if hf (fun hE hf => ?_) (fun nE1 hf => ?_)
    · subst hE
      cases hf
      refine xb_callVcX (As := [.int l1, .int l2]) (τ0 := σ3) dL_derive_5 (xc_X11_derive _ _) xcl11 xw_1636 xw_1637 xw_1638 hb rfl (Nat.le_of_ble_eq_true rfl) rfl (Nat.le_of_ble_eq_true rfl) (fun Q1 hq => m_X11_derive (d := d + 0) (C := 1) (Z := 6) ep1 (fun g hg => by subst hg; exact ⟨⟨Nat.le_refl _, Nat.le_refl _⟩, hq⟩)) (xCatch_of xtb_L_derive (pre := [_]) (nm := "java/lang/IllegalArgumentException") rfl (fun z hz => by simp only [List.mem_cons, List.not_mem_nil, or_false] at hz; rcases hz with rfl <;> first | exact ⟨by decide, "java/lang/IndexOutOfBoundsException", xw_891, by decide +kernel⟩) rfl (by decide) xw_892 (by decide +kernel) rfl) (Or.inl ⟨_, dL_derive_17, by decide, rfl⟩) ?_
      refine xm_iconst dL_derive_19 (v := 2) (by decide) ?_
      exact xm_iret dL_derive_20 rfl (hR _ rfl)
    refine xb_if hf (fun hE hf => ?_) (fun nE2 hf => ?_)
    · subst hE
      cases hf
      refine xb_callVcX (As := [.int l1, .int l2]) (τ0 := σ3) dL_derive_5 (xc_X11_derive _ _) xcl11 xw_1636 xw_1637 xw_1638 hb rfl (Nat.le_of_ble_eq_true rfl) rfl (Nat.le_of_ble_eq_true rfl) (fun Q1 hq => m_X11_derive (d := d + 0) (C := 1) (Z := 6) ep1 (fun g hg => by subst hg; exact ⟨⟨Nat.le_refl _, Nat.le_refl _⟩, hq⟩)) (xCatch_of xtb_L_derive (pre := [_, _]) (nm := "java/lang/IllegalStateException") rfl (fun z hz => by simp only [List.mem_cons, List.not_mem_nil, or_false] at hz; rcases hz with rfl | rfl <;> first | exact ⟨by decide, "java/lang/IndexOutOfBoundsException", xw_891, by decide +kernel⟩ | exact ⟨by decide, "java/lang/IllegalArgumentException", xw_892, by decide +kernel⟩) rfl (by decide) xw_767 (by decide +kernel) rfl) (Or.inl ⟨_, dL_derive_21, by decide, rfl⟩) ?_
      refine xm_iconst dL_derive_23 (v := 3) (by decide) ?_
      exact xm_iret dL_derive_24 rfl (hR _ rfl)
    cases hf
-- law: slope
def f_L_slope (σ : xM) (l0 : Nat) (l1 : Int32) (l2 : Int32) (l3 : Nat) : Option (Int32 × xM) :=
  (if xk σ l0 11 = true then (f_X11_slope σ l0 l1 l2).bind (fun p1 => xlet p1.2 (fun σ3 => Sum.elim (fun w2 => (wJ σ3 l3 (0 : Int32) ((w2).toInt64)).bind (fun σ4 => some ((0 : Int32), σ4))) (fun E => (if E = "java/lang/IndexOutOfBoundsException" then some ((1 : Int32), σ3) else (if E = "java/lang/IllegalArgumentException" then some ((2 : Int32), σ3) else (if E = "java/lang/IllegalStateException" then some ((3 : Int32), σ3) else none)))) p1.1)) else none)
set_option maxHeartbeats 4000000 in
set_option maxRecDepth 20000 in
theorem m_L_slope {G : xG} {π : Nat → Nat} {d C Z : Nat} {Q : xQ} {σ : xM} {l0 : Nat} {l1 : Int32} {l2 : Int32} {l3 : Nat} {x : (Int32 × xM)} (hf : f_L_slope σ l0 l1 l2 l3 = some x) (hR : ∀ g, x = g → Q (.inl (some (.int g.1))) (g.2) π) : xMach G π J_L_slope (d + 9) (1 + C) (6 + Z) 0 (lv_args 0 [.ref l0, .int l1, .int l2, .ref l3]) [] σ Q := by
  unfold f_L_slope at hf
  refine xm_stL (L' := [(0, .ref l0), (1, .int l1), (2, .int l2), (3, .ref l3)]) rfl ?_
  refine xm_aload_n dL_slope_0 rfl ?_
  refine xm_iconst dL_slope_1 (v := 0) (by decide) ?_
  refine xm_aload_n dL_slope_2 rfl ?_
  refine xm_iload_n dL_slope_3 rfl ?_
  refine xm_iload_n dL_slope_4 rfl ?_
  refine xb_if hf (fun hb hf => ?_) (fun _ q => nomatch q)
  obtain ⟨p1, ep1, hf⟩ := xbind hf
  rcases p1 with ⟨w2 | E, σ3⟩
  · have hf : (wJ σ3 l3 (0 : Int32) ((w2).toInt64)).bind (fun σ4 => some ((0 : Int32), σ4)) = some _ := hf
    refine xb_callVcN (As := [.int l1, .int l2]) (v0 := (some (.int w2))) (τ0 := σ3) dL_slope_5 (xc_X11_slope _ _) xcl11 xw_1693 xw_1694 xw_1695 hb rfl (Nat.le_of_ble_eq_true rfl) rfl (Nat.le_of_ble_eq_true rfl) (fun Q1 hq => m_X11_slope (d := d + 0) ep1 (fun g hg => by subst hg; exact hq)) ?_
    refine xm_i2l dL_slope_8 rfl ?_
    refine xb_last dL_slope_9 hf (fun σ4 eσ4 hf => ?_)
    refine xm_goto 25 dL_slope_10 (by decide) ?_
    refine xm_iconst dL_slope_25 (v := 0) (by decide) ?_
    cases hf
    exact xm_iret dL_slope_26 rfl (hR _ rfl)
  · have hf : (if E = "java/lang/IndexOutOfBoundsException" then some ((1 : Int32), σ3) else (if E = "java/lang/IllegalArgumentException" then some ((2 : Int32), σ3) else (if E = "java/lang/IllegalStateException" then some ((3 : Int32), σ3) else none))) = some _ := hf
    refine xb_if hf (fun hE hf => ?_) (fun nE0 hf => ?_)
    · subst hE
      cases hf
      refine xb_callVcX (As := [.int l1, .int l2]) (τ0 := σ3) dL_slope_5 (xc_X11_slope _ _) xcl11 xw_1693 xw_1694 xw_1695 hb rfl (Nat.le_of_ble_eq_true rfl) rfl (Nat.le_of_ble_eq_true rfl) (fun Q1 hq => m_X11_slope (d := d + 0) (C := 1) (Z := 6) ep1 (fun g hg => by subst hg; exact ⟨⟨Nat.le_refl _, Nat.le_refl _⟩, hq⟩)) (xCatch_of xtb_L_slope (pre := []) (nm := "java/lang/IndexOutOfBoundsException") rfl (fun z hz => nomatch hz) rfl (by decide) xw_891 (by decide +kernel) rfl) (Or.inl ⟨_, dL_slope_13, by decide, rfl⟩) ?_
      refine xm_iconst dL_slope_15 (v := 1) (by decide) ?_
      exact xm_iret dL_slope_16 rfl (hR _ rfl)
    refine xb_if hf (fun hE hf => ?_) (fun nE1 hf => ?_)
    · subst hE
      cases hf
      refine xb_callVcX (As := [.int l1, .int l2]) (τ0 := σ3) dL_slope_5 (xc_X11_slope _ _) xcl11 xw_1693 xw_1694 xw_1695 hb rfl (Nat.le_of_ble_eq_true rfl) rfl (Nat.le_of_ble_eq_true rfl) (fun Q1 hq => m_X11_slope (d := d + 0) (C := 1) (Z := 6) ep1 (fun g hg => by subst hg; exact ⟨⟨Nat.le_refl _, Nat.le_refl _⟩, hq⟩)) (xCatch_of xtb_L_slope (pre := [_]) (nm := "java/lang/IllegalArgumentException") rfl (fun z hz => by simp only [List.mem_cons, List.not_mem_nil, or_false] at hz; rcases hz with rfl <;> first | exact ⟨by decide, "java/lang/IndexOutOfBoundsException", xw_891, by decide +kernel⟩) rfl (by decide) xw_892 (by decide +kernel) rfl) (Or.inl ⟨_, dL_slope_17, by decide, rfl⟩) ?_
      refine xm_iconst dL_slope_19 (v := 2) (by decide) ?_
      exact xm_iret dL_slope_20 rfl (hR _ rfl)
    refine xb_if hf (fun hE hf => ?_) (fun nE2 hf => ?_)
    · subst hE
      cases hf
      refine xb_callVcX (As := [.int l1, .int l2]) (τ0 := σ3) dL_slope_5 (xc_X11_slope _ _) xcl11 xw_1693 xw_1694 xw_1695 hb rfl (Nat.le_of_ble_eq_true rfl) rfl (Nat.le_of_ble_eq_true rfl) (fun Q1 hq => m_X11_slope (d := d + 0) (C := 1) (Z := 6) ep1 (fun g hg => by subst hg; exact ⟨⟨Nat.le_refl _, Nat.le_refl _⟩, hq⟩)) (xCatch_of xtb_L_slope (pre := [_, _]) (nm := "java/lang/IllegalStateException") rfl (fun z hz => by simp only [List.mem_cons, List.not_mem_nil, or_false] at hz; rcases hz with rfl | rfl <;> first | exact ⟨by decide, "java/lang/IndexOutOfBoundsException", xw_891, by decide +kernel⟩ | exact ⟨by decide, "java/lang/IllegalArgumentException", xw_892, by decide +kernel⟩) rfl (by decide) xw_767 (by decide +kernel) rfl) (Or.inl ⟨_, dL_slope_21, by decide, rfl⟩) ?_
      refine xm_iconst dL_slope_23 (v := 3) (by decide) ?_
      exact xm_iret dL_slope_24 rfl (hR _ rfl)
    cases hf
-- law: solve
def f_L_solve (σ : xM) (l0 : Nat) (l1 : Int32) (l2 : Int32) (l3 : Nat) : Option (Int32 × xM) :=
  (if xk σ l0 11 = true then (f_X11_solve σ l0 l1 l2).bind (fun p1 => xlet p1.2 (fun σ3 => Sum.elim (fun w2 => (wJ σ3 l3 (0 : Int32) ((w2).toInt64)).bind (fun σ4 => some ((0 : Int32), σ4))) (fun E => (if E = "java/lang/IndexOutOfBoundsException" then some ((1 : Int32), σ3) else (if E = "java/lang/IllegalArgumentException" then some ((2 : Int32), σ3) else none))) p1.1)) else none)
set_option maxHeartbeats 4000000 in
set_option maxRecDepth 20000 in
theorem m_L_solve {G : xG} {π : Nat → Nat} {d C Z : Nat} {Q : xQ} {σ : xM} {l0 : Nat} {l1 : Int32} {l2 : Int32} {l3 : Nat} {x : (Int32 × xM)} (hf : f_L_solve σ l0 l1 l2 l3 = some x) (hR : ∀ g, x = g → Q (.inl (some (.int g.1))) (g.2) π) : xMach G π J_L_solve (d + 9) (1 + C) (6 + Z) 0 (lv_args 0 [.ref l0, .int l1, .int l2, .ref l3]) [] σ Q := by
  unfold f_L_solve at hf
  refine xm_stL (L' := [(0, .ref l0), (1, .int l1), (2, .int l2), (3, .ref l3)]) rfl ?_
  refine xm_aload_n dL_solve_0 rfl ?_
  refine xm_iconst dL_solve_1 (v := 0) (by decide) ?_
  refine xm_aload_n dL_solve_2 rfl ?_
  refine xm_iload_n dL_solve_3 rfl ?_
  refine xm_iload_n dL_solve_4 rfl ?_
  refine xb_if hf (fun hb hf => ?_) (fun _ q => nomatch q)
  obtain ⟨p1, ep1, hf⟩ := xbind hf
  rcases p1 with ⟨w2 | E, σ3⟩
  · have hf : (wJ σ3 l3 (0 : Int32) ((w2).toInt64)).bind (fun σ4 => some ((0 : Int32), σ4)) = some _ := hf
    refine xb_callVcN (As := [.int l1, .int l2]) (v0 := (some (.int w2))) (τ0 := σ3) dL_solve_5 (xc_X11_solve _ _) xcl11 xw_1747 xw_1748 xw_1749 hb rfl (Nat.le_of_ble_eq_true rfl) rfl (Nat.le_of_ble_eq_true rfl) (fun Q1 hq => m_X11_solve (d := d + 0) ep1 (fun g hg => by subst hg; exact hq)) ?_
    refine xm_i2l dL_solve_8 rfl ?_
    refine xb_last dL_solve_9 hf (fun σ4 eσ4 hf => ?_)
    refine xm_goto 21 dL_solve_10 (by decide) ?_
    refine xm_iconst dL_solve_21 (v := 0) (by decide) ?_
    cases hf
    exact xm_iret dL_solve_22 rfl (hR _ rfl)
  · have hf : (if E = "java/lang/IndexOutOfBoundsException" then some ((1 : Int32), σ3) else (if E = "java/lang/IllegalArgumentException" then some ((2 : Int32), σ3) else none)) = some _ := hf
    refine xb_if hf (fun hE hf => ?_) (fun nE0 hf => ?_)
    · subst hE
      cases hf
      refine xb_callVcX (As := [.int l1, .int l2]) (τ0 := σ3) dL_solve_5 (xc_X11_solve _ _) xcl11 xw_1747 xw_1748 xw_1749 hb rfl (Nat.le_of_ble_eq_true rfl) rfl (Nat.le_of_ble_eq_true rfl) (fun Q1 hq => m_X11_solve (d := d + 0) (C := 1) (Z := 6) ep1 (fun g hg => by subst hg; exact ⟨⟨Nat.le_refl _, Nat.le_refl _⟩, hq⟩)) (xCatch_of xtb_L_solve (pre := []) (nm := "java/lang/IndexOutOfBoundsException") rfl (fun z hz => nomatch hz) rfl (by decide) xw_891 (by decide +kernel) rfl) (Or.inl ⟨_, dL_solve_13, by decide, rfl⟩) ?_
      refine xm_iconst dL_solve_15 (v := 1) (by decide) ?_
      exact xm_iret dL_solve_16 rfl (hR _ rfl)
    refine xb_if hf (fun hE hf => ?_) (fun nE1 hf => ?_)
    · subst hE
      cases hf
      refine xb_callVcX (As := [.int l1, .int l2]) (τ0 := σ3) dL_solve_5 (xc_X11_solve _ _) xcl11 xw_1747 xw_1748 xw_1749 hb rfl (Nat.le_of_ble_eq_true rfl) rfl (Nat.le_of_ble_eq_true rfl) (fun Q1 hq => m_X11_solve (d := d + 0) (C := 1) (Z := 6) ep1 (fun g hg => by subst hg; exact ⟨⟨Nat.le_refl _, Nat.le_refl _⟩, hq⟩)) (xCatch_of xtb_L_solve (pre := [_]) (nm := "java/lang/IllegalArgumentException") rfl (fun z hz => by simp only [List.mem_cons, List.not_mem_nil, or_false] at hz; rcases hz with rfl <;> first | exact ⟨by decide, "java/lang/IndexOutOfBoundsException", xw_891, by decide +kernel⟩) rfl (by decide) xw_892 (by decide +kernel) rfl) (Or.inl ⟨_, dL_solve_17, by decide, rfl⟩) ?_
      refine xm_iconst dL_solve_19 (v := 2) (by decide) ?_
      exact xm_iret dL_solve_20 rfl (hR _ rfl)
    cases hf
-- law: audit
def f_L_audit_j16 (σ : xM) (s0 : Int64) (s1 : Int32) (s2 : Nat) : Option (Int32 × xM) :=
  (wJ σ s2 s1 s0).bind (fun σ4 => some ((0 : Int32), σ4))
set_option maxHeartbeats 4000000 in
set_option maxRecDepth 20000 in
theorem L_L_audit_j16 {G : xG} {π : Nat → Nat} {d C Z : Nat} {Q : xQ} (σ : xM) (s0 : Int64) (s1 : Int32) (s2 : Nat) {x : (Int32 × xM)} (hf : f_L_audit_j16 σ s0 s1 s2 = some x) (hR : ∀ g, x = g → Q (.inl (some (.int g.1))) (g.2) π) : xMach G π J_L_audit (d + 409) C Z 16 [] [.long s0, .int s1, .ref s2] σ Q := by
  unfold f_L_audit_j16 at hf
  refine xb_last dL_audit_16 hf (fun σ4 eσ4 hf => ?_)
  refine xm_goto 28 dL_audit_17 (by decide) ?_
  refine xm_iconst dL_audit_28 (v := 0) (by decide) ?_
  cases hf
  exact xm_iret dL_audit_29 rfl (hR _ rfl)
def f_L_audit (σ : xM) (l0 : Nat) (l1 : Int32) (l2 : Int32) (l3 : Nat) : Option (Int32 × xM) :=
  (if xk σ l0 11 = true then (f_X11_audit σ l0 l1 l2).bind (fun p1 => xlet p1.2 (fun σ3 => Sum.elim (fun w2 => (if w2 = (0 : Int32) then f_L_audit_j16 σ3 (0 : Int64) (0 : Int32) l3 else f_L_audit_j16 σ3 (1 : Int64) (0 : Int32) l3)) (fun E => (if E = "java/lang/IllegalArgumentException" then some ((1 : Int32), σ3) else (if E = "java/lang/IndexOutOfBoundsException" then some ((2 : Int32), σ3) else none))) p1.1)) else none)
set_option maxHeartbeats 4000000 in
set_option maxRecDepth 20000 in
theorem m_L_audit {G : xG} {π : Nat → Nat} {d C Z : Nat} {Q : xQ} {σ : xM} {l0 : Nat} {l1 : Int32} {l2 : Int32} {l3 : Nat} {x : (Int32 × xM)} (hf : f_L_audit σ l0 l1 l2 l3 = some x) (hR : ∀ g, x = g → Q (.inl (some (.int g.1))) (g.2) π) : xMach G π J_L_audit (d + 409) (1 + C) (6 + Z) 0 (lv_args 0 [.ref l0, .int l1, .int l2, .ref l3]) [] σ Q := by
  unfold f_L_audit at hf
  refine xm_stL (L' := [(0, .ref l0), (1, .int l1), (2, .int l2), (3, .ref l3)]) rfl ?_
  refine xm_aload_n dL_audit_0 rfl ?_
  refine xm_iconst dL_audit_1 (v := 0) (by decide) ?_
  refine xm_aload_n dL_audit_2 rfl ?_
  refine xm_iload_n dL_audit_3 rfl ?_
  refine xm_iload_n dL_audit_4 rfl ?_
  refine xb_if hf (fun hb hf => ?_) (fun _ q => nomatch q)
  obtain ⟨p1, ep1, hf⟩ := xbind hf
  rcases p1 with ⟨w2 | E, σ3⟩
  · have hf : (if w2 = (0 : Int32) then f_L_audit_j16 σ3 (0 : Int64) (0 : Int32) l3 else f_L_audit_j16 σ3 (1 : Int64) (0 : Int32) l3) = some _ := hf
    refine xb_callVcN (As := [.int l1, .int l2]) (v0 := (some (.int w2))) (τ0 := σ3) dL_audit_5 (xc_X11_audit _ _) xcl11 xw_1763 xw_1764 xw_1765 hb rfl (Nat.le_of_ble_eq_true rfl) rfl (Nat.le_of_ble_eq_true rfl) (fun Q1 hq => m_X11_audit (d := d + 0) ep1 (fun g hg => by subst hg; exact hq)) ?_
    refine xb_if_eq 15 dL_audit_8 (by decide) hf (fun c hf => ?_) (fun c hf => ?_)
    · refine xm_lconst dL_audit_15 (v := 0) (by decide) ?_
      exact xm_sub [] rfl (L_L_audit_j16 σ3 (0 : Int64) (0 : Int32) l3 hf hR)
    · refine xm_lconst dL_audit_11 (v := 1) (by decide) ?_
      refine xm_goto 16 dL_audit_12 (by decide) ?_
      exact xm_sub [] rfl (L_L_audit_j16 σ3 (1 : Int64) (0 : Int32) l3 hf hR)
  · have hf : (if E = "java/lang/IllegalArgumentException" then some ((1 : Int32), σ3) else (if E = "java/lang/IndexOutOfBoundsException" then some ((2 : Int32), σ3) else none)) = some _ := hf
    refine xb_if hf (fun hE hf => ?_) (fun nE0 hf => ?_)
    · subst hE
      cases hf
      refine xb_callVcX (As := [.int l1, .int l2]) (τ0 := σ3) dL_audit_5 (xc_X11_audit _ _) xcl11 xw_1763 xw_1764 xw_1765 hb rfl (Nat.le_of_ble_eq_true rfl) rfl (Nat.le_of_ble_eq_true rfl) (fun Q1 hq => m_X11_audit (d := d + 0) (C := 1) (Z := 6) ep1 (fun g hg => by subst hg; exact ⟨⟨Nat.le_refl _, Nat.le_refl _⟩, hq⟩)) (xCatch_of xtb_L_audit (pre := []) (nm := "java/lang/IllegalArgumentException") rfl (fun z hz => nomatch hz) rfl (by decide) xw_892 (by decide +kernel) rfl) (Or.inl ⟨_, dL_audit_20, by decide, rfl⟩) ?_
      refine xm_iconst dL_audit_22 (v := 1) (by decide) ?_
      exact xm_iret dL_audit_23 rfl (hR _ rfl)
    refine xb_if hf (fun hE hf => ?_) (fun nE1 hf => ?_)
    · subst hE
      cases hf
      refine xb_callVcX (As := [.int l1, .int l2]) (τ0 := σ3) dL_audit_5 (xc_X11_audit _ _) xcl11 xw_1763 xw_1764 xw_1765 hb rfl (Nat.le_of_ble_eq_true rfl) rfl (Nat.le_of_ble_eq_true rfl) (fun Q1 hq => m_X11_audit (d := d + 0) (C := 1) (Z := 6) ep1 (fun g hg => by subst hg; exact ⟨⟨Nat.le_refl _, Nat.le_refl _⟩, hq⟩)) (xCatch_of xtb_L_audit (pre := [_]) (nm := "java/lang/IndexOutOfBoundsException") rfl (fun z hz => by simp only [List.mem_cons, List.not_mem_nil, or_false] at hz; rcases hz with rfl <;> first | exact ⟨by decide, "java/lang/IllegalArgumentException", xw_892, by decide +kernel⟩) rfl (by decide) xw_891 (by decide +kernel) rfl) (Or.inl ⟨_, dL_audit_24, by decide, rfl⟩) ?_
      refine xm_iconst dL_audit_26 (v := 2) (by decide) ?_
      exact xm_iret dL_audit_27 rfl (hR _ rfl)
    cases hf
def f_L_law_j2129 (aC : Nat → ClassId) (σ : xM) (l0 : Nat) (l1 : Nat) (l2 : Nat) (l3 : Nat) (l4 : Int32) : Option ((Int32 × xM) ⊕ ((xM) ⊕ (Nat × Nat × Nat × Nat × Int32 × xM))) :=
  xlet (l4 + (6 : Int32)) (fun v3 => some (Sum.inr (Sum.inr (l0, l1, l2, l3, v3, σ))))
set_option maxHeartbeats 4000000 in
set_option maxRecDepth 20000 in
theorem L_L_law_j2129 {G : xG} {π : Nat → Nat} {d C Z : Nat} {Q : xQ} (σ : xM) (l0 : Nat) (l1 : Nat) (l2 : Nat) (l3 : Nat) (l4 : Int32) {x : ((Int32 × xM) ⊕ ((xM) ⊕ (Nat × Nat × Nat × Nat × Int32 × xM)))} (hf : f_L_law_j2129 (G.2.2.1) σ l0 l1 l2 l3 l4 = some x) (hR : ∀ g, x = Sum.inl (g) → Q (.inl (some (.int g.1))) (g.2) π) (hE : ∀ e : (xM), x = Sum.inr (Sum.inl e) → xMach G π J_L_law (d + 410) C Z 2135 [] [] e Q) (hC : ∀ e : (Nat × Nat × Nat × Nat × Int32 × xM), x = Sum.inr (Sum.inr e) → xMach G π J_L_law (d + 410) C Z 23 [(0, .ref xkX), (1, .ref e.2.1), (2, .ref e.2.2.1), (3, .ref e.2.2.2.1), (4, .int e.2.2.2.2.1)] [] e.2.2.2.2.2 Q) : xMach G π J_L_law (d + 410) C Z 2129 [(0, .ref xkX), (1, .ref l1), (2, .ref l2), (3, .ref l3), (4, .int l4)] [] σ Q := by
  unfold f_L_law_j2129 at hf
  refine xb_iinc dL_law_2129 rfl (by decide) (by decide) hf (fun v3 ev3 hf => xm_stL (L' := [(4, .int v3), (0, .ref xkX), (1, .ref l1), (2, .ref l2), (3, .ref l3)]) rfl ?_)
  refine xm_goto 23 dL_law_2132 (by decide) ?_
  cases hf
  exact xm_sub [1, 2, 3, 4, 0] rfl (hC _ rfl)
def f_L_law_j239 (aC : Nat → ClassId) (σ : xM) (l0 : Nat) (l1 : Nat) (l2 : Nat) (l3 : Nat) (l4 : Int32) : Option ((Int32 × xM) ⊕ ((xM) ⊕ (Nat × Nat × Nat × Nat × Int32 × xM))) :=
  f_L_law_j2129 aC σ l0 l1 l2 l3 l4
set_option maxHeartbeats 4000000 in
set_option maxRecDepth 20000 in
theorem L_L_law_j239 {G : xG} {π : Nat → Nat} {d C Z : Nat} {Q : xQ} (σ : xM) (l0 : Nat) (l1 : Nat) (l2 : Nat) (l3 : Nat) (l4 : Int32) {x : ((Int32 × xM) ⊕ ((xM) ⊕ (Nat × Nat × Nat × Nat × Int32 × xM)))} (hf : f_L_law_j239 (G.2.2.1) σ l0 l1 l2 l3 l4 = some x) (hR : ∀ g, x = Sum.inl (g) → Q (.inl (some (.int g.1))) (g.2) π) (hE : ∀ e : (xM), x = Sum.inr (Sum.inl e) → xMach G π J_L_law (d + 410) C Z 2135 [] [] e Q) (hC : ∀ e : (Nat × Nat × Nat × Nat × Int32 × xM), x = Sum.inr (Sum.inr e) → xMach G π J_L_law (d + 410) C Z 23 [(0, .ref xkX), (1, .ref e.2.1), (2, .ref e.2.2.1), (3, .ref e.2.2.2.1), (4, .int e.2.2.2.2.1)] [] e.2.2.2.2.2 Q) : xMach G π J_L_law (d + 410) C Z 239 [(0, .ref xkX), (1, .ref l1), (2, .ref l2), (3, .ref l3), (4, .int l4)] [] σ Q := by
  unfold f_L_law_j239 at hf
  refine xm_goto 2129 dL_law_239 (by decide) ?_
  exact xm_sub [0, 1, 2, 3, 4] rfl (L_L_law_j2129 σ l0 l1 l2 l3 l4 hf hR hE hC)
def f_L_law_j309 (aC : Nat → ClassId) (σ : xM) (l0 : Nat) (l1 : Nat) (l2 : Nat) (l3 : Nat) (l4 : Int32) : Option ((Int32 × xM) ⊕ ((xM) ⊕ (Nat × Nat × Nat × Nat × Int32 × xM))) :=
  f_L_law_j2129 aC σ l0 l1 l2 l3 l4
set_option maxHeartbeats 4000000 in
set_option maxRecDepth 20000 in
theorem L_L_law_j309 {G : xG} {π : Nat → Nat} {d C Z : Nat} {Q : xQ} (σ : xM) (l0 : Nat) (l1 : Nat) (l2 : Nat) (l3 : Nat) (l4 : Int32) {x : ((Int32 × xM) ⊕ ((xM) ⊕ (Nat × Nat × Nat × Nat × Int32 × xM)))} (hf : f_L_law_j309 (G.2.2.1) σ l0 l1 l2 l3 l4 = some x) (hR : ∀ g, x = Sum.inl (g) → Q (.inl (some (.int g.1))) (g.2) π) (hE : ∀ e : (xM), x = Sum.inr (Sum.inl e) → xMach G π J_L_law (d + 410) C Z 2135 [] [] e Q) (hC : ∀ e : (Nat × Nat × Nat × Nat × Int32 × xM), x = Sum.inr (Sum.inr e) → xMach G π J_L_law (d + 410) C Z 23 [(0, .ref xkX), (1, .ref e.2.1), (2, .ref e.2.2.1), (3, .ref e.2.2.2.1), (4, .int e.2.2.2.2.1)] [] e.2.2.2.2.2 Q) : xMach G π J_L_law (d + 410) C Z 309 [(0, .ref xkX), (1, .ref l1), (2, .ref l2), (3, .ref l3), (4, .int l4)] [] σ Q := by
  unfold f_L_law_j309 at hf
  refine xm_goto 2129 dL_law_309 (by decide) ?_
  exact xm_sub [0, 1, 2, 3, 4] rfl (L_L_law_j2129 σ l0 l1 l2 l3 l4 hf hR hE hC)
def f_L_law_j402 (aC : Nat → ClassId) (σ : xM) (l0 : Nat) (l1 : Nat) (l2 : Nat) (l3 : Nat) (l4 : Int32) : Option ((Int32 × xM) ⊕ ((xM) ⊕ (Nat × Nat × Nat × Nat × Int32 × xM))) :=
  f_L_law_j2129 aC σ l0 l1 l2 l3 l4
set_option maxHeartbeats 4000000 in
set_option maxRecDepth 20000 in
theorem L_L_law_j402 {G : xG} {π : Nat → Nat} {d C Z : Nat} {Q : xQ} (σ : xM) (l0 : Nat) (l1 : Nat) (l2 : Nat) (l3 : Nat) (l4 : Int32) {x : ((Int32 × xM) ⊕ ((xM) ⊕ (Nat × Nat × Nat × Nat × Int32 × xM)))} (hf : f_L_law_j402 (G.2.2.1) σ l0 l1 l2 l3 l4 = some x) (hR : ∀ g, x = Sum.inl (g) → Q (.inl (some (.int g.1))) (g.2) π) (hE : ∀ e : (xM), x = Sum.inr (Sum.inl e) → xMach G π J_L_law (d + 410) C Z 2135 [] [] e Q) (hC : ∀ e : (Nat × Nat × Nat × Nat × Int32 × xM), x = Sum.inr (Sum.inr e) → xMach G π J_L_law (d + 410) C Z 23 [(0, .ref xkX), (1, .ref e.2.1), (2, .ref e.2.2.1), (3, .ref e.2.2.2.1), (4, .int e.2.2.2.2.1)] [] e.2.2.2.2.2 Q) : xMach G π J_L_law (d + 410) C Z 402 [(0, .ref xkX), (1, .ref l1), (2, .ref l2), (3, .ref l3), (4, .int l4)] [] σ Q := by
  unfold f_L_law_j402 at hf
  refine xm_goto 2129 dL_law_402 (by decide) ?_
  exact xm_sub [0, 1, 2, 3, 4] rfl (L_L_law_j2129 σ l0 l1 l2 l3 l4 hf hR hE hC)
def f_L_law_j477 (aC : Nat → ClassId) (σ : xM) (l0 : Nat) (l1 : Nat) (l2 : Nat) (l3 : Nat) (l4 : Int32) : Option ((Int32 × xM) ⊕ ((xM) ⊕ (Nat × Nat × Nat × Nat × Int32 × xM))) :=
  f_L_law_j2129 aC σ l0 l1 l2 l3 l4
set_option maxHeartbeats 4000000 in
set_option maxRecDepth 20000 in
theorem L_L_law_j477 {G : xG} {π : Nat → Nat} {d C Z : Nat} {Q : xQ} (σ : xM) (l0 : Nat) (l1 : Nat) (l2 : Nat) (l3 : Nat) (l4 : Int32) {x : ((Int32 × xM) ⊕ ((xM) ⊕ (Nat × Nat × Nat × Nat × Int32 × xM)))} (hf : f_L_law_j477 (G.2.2.1) σ l0 l1 l2 l3 l4 = some x) (hR : ∀ g, x = Sum.inl (g) → Q (.inl (some (.int g.1))) (g.2) π) (hE : ∀ e : (xM), x = Sum.inr (Sum.inl e) → xMach G π J_L_law (d + 410) C Z 2135 [] [] e Q) (hC : ∀ e : (Nat × Nat × Nat × Nat × Int32 × xM), x = Sum.inr (Sum.inr e) → xMach G π J_L_law (d + 410) C Z 23 [(0, .ref xkX), (1, .ref e.2.1), (2, .ref e.2.2.1), (3, .ref e.2.2.2.1), (4, .int e.2.2.2.2.1)] [] e.2.2.2.2.2 Q) : xMach G π J_L_law (d + 410) C Z 477 [(0, .ref xkX), (1, .ref l1), (2, .ref l2), (3, .ref l3), (4, .int l4)] [] σ Q := by
  unfold f_L_law_j477 at hf
  refine xm_goto 2129 dL_law_477 (by decide) ?_
  exact xm_sub [0, 1, 2, 3, 4] rfl (L_L_law_j2129 σ l0 l1 l2 l3 l4 hf hR hE hC)
def f_L_law_j471 (aC : Nat → ClassId) (σ : xM) (l0 : Nat) (l1 : Nat) (l2 : Nat) (l3 : Nat) (l4 : Int32) (s0 : Int64) (s1 : Int64) : Option ((Int32 × xM) ⊕ ((xM) ⊕ (Nat × Nat × Nat × Nat × Int32 × xM))) :=
  (if (lg_cmp s1 s0) = (0 : Int32) then f_L_law_j477 aC σ l0 l1 l2 l3 l4 else some (Sum.inl ((0 : Int32), σ)))
set_option maxHeartbeats 4000000 in
set_option maxRecDepth 20000 in
theorem L_L_law_j471 {G : xG} {π : Nat → Nat} {d C Z : Nat} {Q : xQ} (σ : xM) (l0 : Nat) (l1 : Nat) (l2 : Nat) (l3 : Nat) (l4 : Int32) (s0 : Int64) (s1 : Int64) {x : ((Int32 × xM) ⊕ ((xM) ⊕ (Nat × Nat × Nat × Nat × Int32 × xM)))} (hf : f_L_law_j471 (G.2.2.1) σ l0 l1 l2 l3 l4 s0 s1 = some x) (hR : ∀ g, x = Sum.inl (g) → Q (.inl (some (.int g.1))) (g.2) π) (hE : ∀ e : (xM), x = Sum.inr (Sum.inl e) → xMach G π J_L_law (d + 410) C Z 2135 [] [] e Q) (hC : ∀ e : (Nat × Nat × Nat × Nat × Int32 × xM), x = Sum.inr (Sum.inr e) → xMach G π J_L_law (d + 410) C Z 23 [(0, .ref xkX), (1, .ref e.2.1), (2, .ref e.2.2.1), (3, .ref e.2.2.2.1), (4, .int e.2.2.2.2.1)] [] e.2.2.2.2.2 Q) : xMach G π J_L_law (d + 410) C Z 471 [(0, .ref xkX), (1, .ref l1), (2, .ref l2), (3, .ref l3), (4, .int l4)] [.long s0, .long s1] σ Q := by
  unfold f_L_law_j471 at hf
  refine xm_lcmp dL_law_471 ?_
  refine xb_if_eq 477 dL_law_472 (by decide) hf (fun c hf => ?_) (fun c hf => ?_)
  · exact xm_sub [0, 1, 2, 3, 4] rfl (L_L_law_j477 σ l0 l1 l2 l3 l4 hf hR hE hC)
  · refine xm_iconst dL_law_475 (v := 0) (by decide) ?_
    cases hf
    exact xm_zret dL_law_476 rfl rfl (hR _ rfl)
def f_L_law_j545 (aC : Nat → ClassId) (σ : xM) (l0 : Nat) (l1 : Nat) (l2 : Nat) (l3 : Nat) (l4 : Int32) : Option ((Int32 × xM) ⊕ ((xM) ⊕ (Nat × Nat × Nat × Nat × Int32 × xM))) :=
  f_L_law_j2129 aC σ l0 l1 l2 l3 l4
set_option maxHeartbeats 4000000 in
set_option maxRecDepth 20000 in
theorem L_L_law_j545 {G : xG} {π : Nat → Nat} {d C Z : Nat} {Q : xQ} (σ : xM) (l0 : Nat) (l1 : Nat) (l2 : Nat) (l3 : Nat) (l4 : Int32) {x : ((Int32 × xM) ⊕ ((xM) ⊕ (Nat × Nat × Nat × Nat × Int32 × xM)))} (hf : f_L_law_j545 (G.2.2.1) σ l0 l1 l2 l3 l4 = some x) (hR : ∀ g, x = Sum.inl (g) → Q (.inl (some (.int g.1))) (g.2) π) (hE : ∀ e : (xM), x = Sum.inr (Sum.inl e) → xMach G π J_L_law (d + 410) C Z 2135 [] [] e Q) (hC : ∀ e : (Nat × Nat × Nat × Nat × Int32 × xM), x = Sum.inr (Sum.inr e) → xMach G π J_L_law (d + 410) C Z 23 [(0, .ref xkX), (1, .ref e.2.1), (2, .ref e.2.2.1), (3, .ref e.2.2.2.1), (4, .int e.2.2.2.2.1)] [] e.2.2.2.2.2 Q) : xMach G π J_L_law (d + 410) C Z 545 [(0, .ref xkX), (1, .ref l1), (2, .ref l2), (3, .ref l3), (4, .int l4)] [] σ Q := by
  unfold f_L_law_j545 at hf
  refine xm_goto 2129 dL_law_545 (by decide) ?_
  exact xm_sub [0, 1, 2, 3, 4] rfl (L_L_law_j2129 σ l0 l1 l2 l3 l4 hf hR hE hC)
def f_L_law_j627 (aC : Nat → ClassId) (σ : xM) (l0 : Nat) (l1 : Nat) (l2 : Nat) (l3 : Nat) (l4 : Int32) : Option ((Int32 × xM) ⊕ ((xM) ⊕ (Nat × Nat × Nat × Nat × Int32 × xM))) :=
  f_L_law_j2129 aC σ l0 l1 l2 l3 l4
set_option maxHeartbeats 4000000 in
set_option maxRecDepth 20000 in
theorem L_L_law_j627 {G : xG} {π : Nat → Nat} {d C Z : Nat} {Q : xQ} (σ : xM) (l0 : Nat) (l1 : Nat) (l2 : Nat) (l3 : Nat) (l4 : Int32) {x : ((Int32 × xM) ⊕ ((xM) ⊕ (Nat × Nat × Nat × Nat × Int32 × xM)))} (hf : f_L_law_j627 (G.2.2.1) σ l0 l1 l2 l3 l4 = some x) (hR : ∀ g, x = Sum.inl (g) → Q (.inl (some (.int g.1))) (g.2) π) (hE : ∀ e : (xM), x = Sum.inr (Sum.inl e) → xMach G π J_L_law (d + 410) C Z 2135 [] [] e Q) (hC : ∀ e : (Nat × Nat × Nat × Nat × Int32 × xM), x = Sum.inr (Sum.inr e) → xMach G π J_L_law (d + 410) C Z 23 [(0, .ref xkX), (1, .ref e.2.1), (2, .ref e.2.2.1), (3, .ref e.2.2.2.1), (4, .int e.2.2.2.2.1)] [] e.2.2.2.2.2 Q) : xMach G π J_L_law (d + 410) C Z 627 [(0, .ref xkX), (1, .ref l1), (2, .ref l2), (3, .ref l3), (4, .int l4)] [] σ Q := by
  unfold f_L_law_j627 at hf
  refine xm_goto 2129 dL_law_627 (by decide) ?_
  exact xm_sub [0, 1, 2, 3, 4] rfl (L_L_law_j2129 σ l0 l1 l2 l3 l4 hf hR hE hC)
def f_L_law_j733 (aC : Nat → ClassId) (σ : xM) (l0 : Nat) (l1 : Nat) (l2 : Nat) (l3 : Nat) (l4 : Int32) : Option ((Int32 × xM) ⊕ ((xM) ⊕ (Nat × Nat × Nat × Nat × Int32 × xM))) :=
  f_L_law_j2129 aC σ l0 l1 l2 l3 l4
set_option maxHeartbeats 4000000 in
set_option maxRecDepth 20000 in
theorem L_L_law_j733 {G : xG} {π : Nat → Nat} {d C Z : Nat} {Q : xQ} (σ : xM) (l0 : Nat) (l1 : Nat) (l2 : Nat) (l3 : Nat) (l4 : Int32) {x : ((Int32 × xM) ⊕ ((xM) ⊕ (Nat × Nat × Nat × Nat × Int32 × xM)))} (hf : f_L_law_j733 (G.2.2.1) σ l0 l1 l2 l3 l4 = some x) (hR : ∀ g, x = Sum.inl (g) → Q (.inl (some (.int g.1))) (g.2) π) (hE : ∀ e : (xM), x = Sum.inr (Sum.inl e) → xMach G π J_L_law (d + 410) C Z 2135 [] [] e Q) (hC : ∀ e : (Nat × Nat × Nat × Nat × Int32 × xM), x = Sum.inr (Sum.inr e) → xMach G π J_L_law (d + 410) C Z 23 [(0, .ref xkX), (1, .ref e.2.1), (2, .ref e.2.2.1), (3, .ref e.2.2.2.1), (4, .int e.2.2.2.2.1)] [] e.2.2.2.2.2 Q) : xMach G π J_L_law (d + 410) C Z 733 [(0, .ref xkX), (1, .ref l1), (2, .ref l2), (3, .ref l3), (4, .int l4)] [] σ Q := by
  unfold f_L_law_j733 at hf
  refine xm_goto 2129 dL_law_733 (by decide) ?_
  exact xm_sub [0, 1, 2, 3, 4] rfl (L_L_law_j2129 σ l0 l1 l2 l3 l4 hf hR hE hC)
def f_L_law_j815 (aC : Nat → ClassId) (σ : xM) (l0 : Nat) (l1 : Nat) (l2 : Nat) (l3 : Nat) (l4 : Int32) : Option ((Int32 × xM) ⊕ ((xM) ⊕ (Nat × Nat × Nat × Nat × Int32 × xM))) :=
  f_L_law_j2129 aC σ l0 l1 l2 l3 l4
set_option maxHeartbeats 4000000 in
set_option maxRecDepth 20000 in
theorem L_L_law_j815 {G : xG} {π : Nat → Nat} {d C Z : Nat} {Q : xQ} (σ : xM) (l0 : Nat) (l1 : Nat) (l2 : Nat) (l3 : Nat) (l4 : Int32) {x : ((Int32 × xM) ⊕ ((xM) ⊕ (Nat × Nat × Nat × Nat × Int32 × xM)))} (hf : f_L_law_j815 (G.2.2.1) σ l0 l1 l2 l3 l4 = some x) (hR : ∀ g, x = Sum.inl (g) → Q (.inl (some (.int g.1))) (g.2) π) (hE : ∀ e : (xM), x = Sum.inr (Sum.inl e) → xMach G π J_L_law (d + 410) C Z 2135 [] [] e Q) (hC : ∀ e : (Nat × Nat × Nat × Nat × Int32 × xM), x = Sum.inr (Sum.inr e) → xMach G π J_L_law (d + 410) C Z 23 [(0, .ref xkX), (1, .ref e.2.1), (2, .ref e.2.2.1), (3, .ref e.2.2.2.1), (4, .int e.2.2.2.2.1)] [] e.2.2.2.2.2 Q) : xMach G π J_L_law (d + 410) C Z 815 [(0, .ref xkX), (1, .ref l1), (2, .ref l2), (3, .ref l3), (4, .int l4)] [] σ Q := by
  unfold f_L_law_j815 at hf
  refine xm_goto 2129 dL_law_815 (by decide) ?_
  exact xm_sub [0, 1, 2, 3, 4] rfl (L_L_law_j2129 σ l0 l1 l2 l3 l4 hf hR hE hC)
def f_L_law_j871 (aC : Nat → ClassId) (σ : xM) (l0 : Nat) (l1 : Nat) (l2 : Nat) (l3 : Nat) (l4 : Int32) : Option ((Int32 × xM) ⊕ ((xM) ⊕ (Nat × Nat × Nat × Nat × Int32 × xM))) :=
  f_L_law_j2129 aC σ l0 l1 l2 l3 l4
set_option maxHeartbeats 4000000 in
set_option maxRecDepth 20000 in
theorem L_L_law_j871 {G : xG} {π : Nat → Nat} {d C Z : Nat} {Q : xQ} (σ : xM) (l0 : Nat) (l1 : Nat) (l2 : Nat) (l3 : Nat) (l4 : Int32) {x : ((Int32 × xM) ⊕ ((xM) ⊕ (Nat × Nat × Nat × Nat × Int32 × xM)))} (hf : f_L_law_j871 (G.2.2.1) σ l0 l1 l2 l3 l4 = some x) (hR : ∀ g, x = Sum.inl (g) → Q (.inl (some (.int g.1))) (g.2) π) (hE : ∀ e : (xM), x = Sum.inr (Sum.inl e) → xMach G π J_L_law (d + 410) C Z 2135 [] [] e Q) (hC : ∀ e : (Nat × Nat × Nat × Nat × Int32 × xM), x = Sum.inr (Sum.inr e) → xMach G π J_L_law (d + 410) C Z 23 [(0, .ref xkX), (1, .ref e.2.1), (2, .ref e.2.2.1), (3, .ref e.2.2.2.1), (4, .int e.2.2.2.2.1)] [] e.2.2.2.2.2 Q) : xMach G π J_L_law (d + 410) C Z 871 [(0, .ref xkX), (1, .ref l1), (2, .ref l2), (3, .ref l3), (4, .int l4)] [] σ Q := by
  unfold f_L_law_j871 at hf
  refine xm_goto 2129 dL_law_871 (by decide) ?_
  exact xm_sub [0, 1, 2, 3, 4] rfl (L_L_law_j2129 σ l0 l1 l2 l3 l4 hf hR hE hC)
def f_L_law_j927 (aC : Nat → ClassId) (σ : xM) (l0 : Nat) (l1 : Nat) (l2 : Nat) (l3 : Nat) (l4 : Int32) : Option ((Int32 × xM) ⊕ ((xM) ⊕ (Nat × Nat × Nat × Nat × Int32 × xM))) :=
  f_L_law_j2129 aC σ l0 l1 l2 l3 l4
set_option maxHeartbeats 4000000 in
set_option maxRecDepth 20000 in
theorem L_L_law_j927 {G : xG} {π : Nat → Nat} {d C Z : Nat} {Q : xQ} (σ : xM) (l0 : Nat) (l1 : Nat) (l2 : Nat) (l3 : Nat) (l4 : Int32) {x : ((Int32 × xM) ⊕ ((xM) ⊕ (Nat × Nat × Nat × Nat × Int32 × xM)))} (hf : f_L_law_j927 (G.2.2.1) σ l0 l1 l2 l3 l4 = some x) (hR : ∀ g, x = Sum.inl (g) → Q (.inl (some (.int g.1))) (g.2) π) (hE : ∀ e : (xM), x = Sum.inr (Sum.inl e) → xMach G π J_L_law (d + 410) C Z 2135 [] [] e Q) (hC : ∀ e : (Nat × Nat × Nat × Nat × Int32 × xM), x = Sum.inr (Sum.inr e) → xMach G π J_L_law (d + 410) C Z 23 [(0, .ref xkX), (1, .ref e.2.1), (2, .ref e.2.2.1), (3, .ref e.2.2.2.1), (4, .int e.2.2.2.2.1)] [] e.2.2.2.2.2 Q) : xMach G π J_L_law (d + 410) C Z 927 [(0, .ref xkX), (1, .ref l1), (2, .ref l2), (3, .ref l3), (4, .int l4)] [] σ Q := by
  unfold f_L_law_j927 at hf
  refine xm_goto 2129 dL_law_927 (by decide) ?_
  exact xm_sub [0, 1, 2, 3, 4] rfl (L_L_law_j2129 σ l0 l1 l2 l3 l4 hf hR hE hC)
def f_L_law_j983 (aC : Nat → ClassId) (σ : xM) (l0 : Nat) (l1 : Nat) (l2 : Nat) (l3 : Nat) (l4 : Int32) : Option ((Int32 × xM) ⊕ ((xM) ⊕ (Nat × Nat × Nat × Nat × Int32 × xM))) :=
  f_L_law_j2129 aC σ l0 l1 l2 l3 l4
set_option maxHeartbeats 4000000 in
set_option maxRecDepth 20000 in
theorem L_L_law_j983 {G : xG} {π : Nat → Nat} {d C Z : Nat} {Q : xQ} (σ : xM) (l0 : Nat) (l1 : Nat) (l2 : Nat) (l3 : Nat) (l4 : Int32) {x : ((Int32 × xM) ⊕ ((xM) ⊕ (Nat × Nat × Nat × Nat × Int32 × xM)))} (hf : f_L_law_j983 (G.2.2.1) σ l0 l1 l2 l3 l4 = some x) (hR : ∀ g, x = Sum.inl (g) → Q (.inl (some (.int g.1))) (g.2) π) (hE : ∀ e : (xM), x = Sum.inr (Sum.inl e) → xMach G π J_L_law (d + 410) C Z 2135 [] [] e Q) (hC : ∀ e : (Nat × Nat × Nat × Nat × Int32 × xM), x = Sum.inr (Sum.inr e) → xMach G π J_L_law (d + 410) C Z 23 [(0, .ref xkX), (1, .ref e.2.1), (2, .ref e.2.2.1), (3, .ref e.2.2.2.1), (4, .int e.2.2.2.2.1)] [] e.2.2.2.2.2 Q) : xMach G π J_L_law (d + 410) C Z 983 [(0, .ref xkX), (1, .ref l1), (2, .ref l2), (3, .ref l3), (4, .int l4)] [] σ Q := by
  unfold f_L_law_j983 at hf
  refine xm_goto 2129 dL_law_983 (by decide) ?_
  exact xm_sub [0, 1, 2, 3, 4] rfl (L_L_law_j2129 σ l0 l1 l2 l3 l4 hf hR hE hC)
def f_L_law_j1039 (aC : Nat → ClassId) (σ : xM) (l0 : Nat) (l1 : Nat) (l2 : Nat) (l3 : Nat) (l4 : Int32) : Option ((Int32 × xM) ⊕ ((xM) ⊕ (Nat × Nat × Nat × Nat × Int32 × xM))) :=
  f_L_law_j2129 aC σ l0 l1 l2 l3 l4
set_option maxHeartbeats 4000000 in
set_option maxRecDepth 20000 in
theorem L_L_law_j1039 {G : xG} {π : Nat → Nat} {d C Z : Nat} {Q : xQ} (σ : xM) (l0 : Nat) (l1 : Nat) (l2 : Nat) (l3 : Nat) (l4 : Int32) {x : ((Int32 × xM) ⊕ ((xM) ⊕ (Nat × Nat × Nat × Nat × Int32 × xM)))} (hf : f_L_law_j1039 (G.2.2.1) σ l0 l1 l2 l3 l4 = some x) (hR : ∀ g, x = Sum.inl (g) → Q (.inl (some (.int g.1))) (g.2) π) (hE : ∀ e : (xM), x = Sum.inr (Sum.inl e) → xMach G π J_L_law (d + 410) C Z 2135 [] [] e Q) (hC : ∀ e : (Nat × Nat × Nat × Nat × Int32 × xM), x = Sum.inr (Sum.inr e) → xMach G π J_L_law (d + 410) C Z 23 [(0, .ref xkX), (1, .ref e.2.1), (2, .ref e.2.2.1), (3, .ref e.2.2.2.1), (4, .int e.2.2.2.2.1)] [] e.2.2.2.2.2 Q) : xMach G π J_L_law (d + 410) C Z 1039 [(0, .ref xkX), (1, .ref l1), (2, .ref l2), (3, .ref l3), (4, .int l4)] [] σ Q := by
  unfold f_L_law_j1039 at hf
  refine xm_goto 2129 dL_law_1039 (by decide) ?_
  exact xm_sub [0, 1, 2, 3, 4] rfl (L_L_law_j2129 σ l0 l1 l2 l3 l4 hf hR hE hC)
def f_L_law_j1095 (aC : Nat → ClassId) (σ : xM) (l0 : Nat) (l1 : Nat) (l2 : Nat) (l3 : Nat) (l4 : Int32) : Option ((Int32 × xM) ⊕ ((xM) ⊕ (Nat × Nat × Nat × Nat × Int32 × xM))) :=
  f_L_law_j2129 aC σ l0 l1 l2 l3 l4
set_option maxHeartbeats 4000000 in
set_option maxRecDepth 20000 in
theorem L_L_law_j1095 {G : xG} {π : Nat → Nat} {d C Z : Nat} {Q : xQ} (σ : xM) (l0 : Nat) (l1 : Nat) (l2 : Nat) (l3 : Nat) (l4 : Int32) {x : ((Int32 × xM) ⊕ ((xM) ⊕ (Nat × Nat × Nat × Nat × Int32 × xM)))} (hf : f_L_law_j1095 (G.2.2.1) σ l0 l1 l2 l3 l4 = some x) (hR : ∀ g, x = Sum.inl (g) → Q (.inl (some (.int g.1))) (g.2) π) (hE : ∀ e : (xM), x = Sum.inr (Sum.inl e) → xMach G π J_L_law (d + 410) C Z 2135 [] [] e Q) (hC : ∀ e : (Nat × Nat × Nat × Nat × Int32 × xM), x = Sum.inr (Sum.inr e) → xMach G π J_L_law (d + 410) C Z 23 [(0, .ref xkX), (1, .ref e.2.1), (2, .ref e.2.2.1), (3, .ref e.2.2.2.1), (4, .int e.2.2.2.2.1)] [] e.2.2.2.2.2 Q) : xMach G π J_L_law (d + 410) C Z 1095 [(0, .ref xkX), (1, .ref l1), (2, .ref l2), (3, .ref l3), (4, .int l4)] [] σ Q := by
  unfold f_L_law_j1095 at hf
  refine xm_goto 2129 dL_law_1095 (by decide) ?_
  exact xm_sub [0, 1, 2, 3, 4] rfl (L_L_law_j2129 σ l0 l1 l2 l3 l4 hf hR hE hC)
def f_L_law_j1163 (aC : Nat → ClassId) (σ : xM) (l0 : Nat) (l1 : Nat) (l2 : Nat) (l3 : Nat) (l4 : Int32) : Option ((Int32 × xM) ⊕ ((xM) ⊕ (Nat × Nat × Nat × Nat × Int32 × xM))) :=
  f_L_law_j2129 aC σ l0 l1 l2 l3 l4
set_option maxHeartbeats 4000000 in
set_option maxRecDepth 20000 in
theorem L_L_law_j1163 {G : xG} {π : Nat → Nat} {d C Z : Nat} {Q : xQ} (σ : xM) (l0 : Nat) (l1 : Nat) (l2 : Nat) (l3 : Nat) (l4 : Int32) {x : ((Int32 × xM) ⊕ ((xM) ⊕ (Nat × Nat × Nat × Nat × Int32 × xM)))} (hf : f_L_law_j1163 (G.2.2.1) σ l0 l1 l2 l3 l4 = some x) (hR : ∀ g, x = Sum.inl (g) → Q (.inl (some (.int g.1))) (g.2) π) (hE : ∀ e : (xM), x = Sum.inr (Sum.inl e) → xMach G π J_L_law (d + 410) C Z 2135 [] [] e Q) (hC : ∀ e : (Nat × Nat × Nat × Nat × Int32 × xM), x = Sum.inr (Sum.inr e) → xMach G π J_L_law (d + 410) C Z 23 [(0, .ref xkX), (1, .ref e.2.1), (2, .ref e.2.2.1), (3, .ref e.2.2.2.1), (4, .int e.2.2.2.2.1)] [] e.2.2.2.2.2 Q) : xMach G π J_L_law (d + 410) C Z 1163 [(0, .ref xkX), (1, .ref l1), (2, .ref l2), (3, .ref l3), (4, .int l4)] [] σ Q := by
  unfold f_L_law_j1163 at hf
  refine xm_goto 2129 dL_law_1163 (by decide) ?_
  exact xm_sub [0, 1, 2, 3, 4] rfl (L_L_law_j2129 σ l0 l1 l2 l3 l4 hf hR hE hC)
def f_L_law_j1233 (aC : Nat → ClassId) (σ : xM) (l0 : Nat) (l1 : Nat) (l2 : Nat) (l3 : Nat) (l4 : Int32) : Option ((Int32 × xM) ⊕ ((xM) ⊕ (Nat × Nat × Nat × Nat × Int32 × xM))) :=
  f_L_law_j2129 aC σ l0 l1 l2 l3 l4
set_option maxHeartbeats 4000000 in
set_option maxRecDepth 20000 in
theorem L_L_law_j1233 {G : xG} {π : Nat → Nat} {d C Z : Nat} {Q : xQ} (σ : xM) (l0 : Nat) (l1 : Nat) (l2 : Nat) (l3 : Nat) (l4 : Int32) {x : ((Int32 × xM) ⊕ ((xM) ⊕ (Nat × Nat × Nat × Nat × Int32 × xM)))} (hf : f_L_law_j1233 (G.2.2.1) σ l0 l1 l2 l3 l4 = some x) (hR : ∀ g, x = Sum.inl (g) → Q (.inl (some (.int g.1))) (g.2) π) (hE : ∀ e : (xM), x = Sum.inr (Sum.inl e) → xMach G π J_L_law (d + 410) C Z 2135 [] [] e Q) (hC : ∀ e : (Nat × Nat × Nat × Nat × Int32 × xM), x = Sum.inr (Sum.inr e) → xMach G π J_L_law (d + 410) C Z 23 [(0, .ref xkX), (1, .ref e.2.1), (2, .ref e.2.2.1), (3, .ref e.2.2.2.1), (4, .int e.2.2.2.2.1)] [] e.2.2.2.2.2 Q) : xMach G π J_L_law (d + 410) C Z 1233 [(0, .ref xkX), (1, .ref l1), (2, .ref l2), (3, .ref l3), (4, .int l4)] [] σ Q := by
  unfold f_L_law_j1233 at hf
  refine xm_goto 2129 dL_law_1233 (by decide) ?_
  exact xm_sub [0, 1, 2, 3, 4] rfl (L_L_law_j2129 σ l0 l1 l2 l3 l4 hf hR hE hC)
def f_L_law_j1298 (aC : Nat → ClassId) (σ : xM) (l0 : Nat) (l1 : Nat) (l2 : Nat) (l3 : Nat) (l4 : Int32) : Option ((Int32 × xM) ⊕ ((xM) ⊕ (Nat × Nat × Nat × Nat × Int32 × xM))) :=
  f_L_law_j2129 aC σ l0 l1 l2 l3 l4
set_option maxHeartbeats 4000000 in
set_option maxRecDepth 20000 in
theorem L_L_law_j1298 {G : xG} {π : Nat → Nat} {d C Z : Nat} {Q : xQ} (σ : xM) (l0 : Nat) (l1 : Nat) (l2 : Nat) (l3 : Nat) (l4 : Int32) {x : ((Int32 × xM) ⊕ ((xM) ⊕ (Nat × Nat × Nat × Nat × Int32 × xM)))} (hf : f_L_law_j1298 (G.2.2.1) σ l0 l1 l2 l3 l4 = some x) (hR : ∀ g, x = Sum.inl (g) → Q (.inl (some (.int g.1))) (g.2) π) (hE : ∀ e : (xM), x = Sum.inr (Sum.inl e) → xMach G π J_L_law (d + 410) C Z 2135 [] [] e Q) (hC : ∀ e : (Nat × Nat × Nat × Nat × Int32 × xM), x = Sum.inr (Sum.inr e) → xMach G π J_L_law (d + 410) C Z 23 [(0, .ref xkX), (1, .ref e.2.1), (2, .ref e.2.2.1), (3, .ref e.2.2.2.1), (4, .int e.2.2.2.2.1)] [] e.2.2.2.2.2 Q) : xMach G π J_L_law (d + 410) C Z 1298 [(0, .ref xkX), (1, .ref l1), (2, .ref l2), (3, .ref l3), (4, .int l4)] [] σ Q := by
  unfold f_L_law_j1298 at hf
  refine xm_goto 2129 dL_law_1298 (by decide) ?_
  exact xm_sub [0, 1, 2, 3, 4] rfl (L_L_law_j2129 σ l0 l1 l2 l3 l4 hf hR hE hC)
def f_L_law_j1292 (aC : Nat → ClassId) (σ : xM) (l0 : Nat) (l1 : Nat) (l2 : Nat) (l3 : Nat) (l4 : Int32) (s0 : Int64) (s1 : Int64) : Option ((Int32 × xM) ⊕ ((xM) ⊕ (Nat × Nat × Nat × Nat × Int32 × xM))) :=
  (if (lg_cmp s1 s0) = (0 : Int32) then f_L_law_j1298 aC σ l0 l1 l2 l3 l4 else some (Sum.inl ((0 : Int32), σ)))
set_option maxHeartbeats 4000000 in
set_option maxRecDepth 20000 in
theorem L_L_law_j1292 {G : xG} {π : Nat → Nat} {d C Z : Nat} {Q : xQ} (σ : xM) (l0 : Nat) (l1 : Nat) (l2 : Nat) (l3 : Nat) (l4 : Int32) (s0 : Int64) (s1 : Int64) {x : ((Int32 × xM) ⊕ ((xM) ⊕ (Nat × Nat × Nat × Nat × Int32 × xM)))} (hf : f_L_law_j1292 (G.2.2.1) σ l0 l1 l2 l3 l4 s0 s1 = some x) (hR : ∀ g, x = Sum.inl (g) → Q (.inl (some (.int g.1))) (g.2) π) (hE : ∀ e : (xM), x = Sum.inr (Sum.inl e) → xMach G π J_L_law (d + 410) C Z 2135 [] [] e Q) (hC : ∀ e : (Nat × Nat × Nat × Nat × Int32 × xM), x = Sum.inr (Sum.inr e) → xMach G π J_L_law (d + 410) C Z 23 [(0, .ref xkX), (1, .ref e.2.1), (2, .ref e.2.2.1), (3, .ref e.2.2.2.1), (4, .int e.2.2.2.2.1)] [] e.2.2.2.2.2 Q) : xMach G π J_L_law (d + 410) C Z 1292 [(0, .ref xkX), (1, .ref l1), (2, .ref l2), (3, .ref l3), (4, .int l4)] [.long s0, .long s1] σ Q := by
  unfold f_L_law_j1292 at hf
  refine xm_lcmp dL_law_1292 ?_
  refine xb_if_eq 1298 dL_law_1293 (by decide) hf (fun c hf => ?_) (fun c hf => ?_)
  · exact xm_sub [0, 1, 2, 3, 4] rfl (L_L_law_j1298 σ l0 l1 l2 l3 l4 hf hR hE hC)
  · refine xm_iconst dL_law_1296 (v := 0) (by decide) ?_
    cases hf
    exact xm_zret dL_law_1297 rfl rfl (hR _ rfl)
def f_L_law_j1363 (aC : Nat → ClassId) (σ : xM) (l0 : Nat) (l1 : Nat) (l2 : Nat) (l3 : Nat) (l4 : Int32) : Option ((Int32 × xM) ⊕ ((xM) ⊕ (Nat × Nat × Nat × Nat × Int32 × xM))) :=
  f_L_law_j2129 aC σ l0 l1 l2 l3 l4
set_option maxHeartbeats 4000000 in
set_option maxRecDepth 20000 in
theorem L_L_law_j1363 {G : xG} {π : Nat → Nat} {d C Z : Nat} {Q : xQ} (σ : xM) (l0 : Nat) (l1 : Nat) (l2 : Nat) (l3 : Nat) (l4 : Int32) {x : ((Int32 × xM) ⊕ ((xM) ⊕ (Nat × Nat × Nat × Nat × Int32 × xM)))} (hf : f_L_law_j1363 (G.2.2.1) σ l0 l1 l2 l3 l4 = some x) (hR : ∀ g, x = Sum.inl (g) → Q (.inl (some (.int g.1))) (g.2) π) (hE : ∀ e : (xM), x = Sum.inr (Sum.inl e) → xMach G π J_L_law (d + 410) C Z 2135 [] [] e Q) (hC : ∀ e : (Nat × Nat × Nat × Nat × Int32 × xM), x = Sum.inr (Sum.inr e) → xMach G π J_L_law (d + 410) C Z 23 [(0, .ref xkX), (1, .ref e.2.1), (2, .ref e.2.2.1), (3, .ref e.2.2.2.1), (4, .int e.2.2.2.2.1)] [] e.2.2.2.2.2 Q) : xMach G π J_L_law (d + 410) C Z 1363 [(0, .ref xkX), (1, .ref l1), (2, .ref l2), (3, .ref l3), (4, .int l4)] [] σ Q := by
  unfold f_L_law_j1363 at hf
  refine xm_goto 2129 dL_law_1363 (by decide) ?_
  exact xm_sub [0, 1, 2, 3, 4] rfl (L_L_law_j2129 σ l0 l1 l2 l3 l4 hf hR hE hC)
def f_L_law_j1357 (aC : Nat → ClassId) (σ : xM) (l0 : Nat) (l1 : Nat) (l2 : Nat) (l3 : Nat) (l4 : Int32) (s0 : Int64) (s1 : Int64) : Option ((Int32 × xM) ⊕ ((xM) ⊕ (Nat × Nat × Nat × Nat × Int32 × xM))) :=
  (if (lg_cmp s1 s0) = (0 : Int32) then f_L_law_j1363 aC σ l0 l1 l2 l3 l4 else some (Sum.inl ((0 : Int32), σ)))
set_option maxHeartbeats 4000000 in
set_option maxRecDepth 20000 in
theorem L_L_law_j1357 {G : xG} {π : Nat → Nat} {d C Z : Nat} {Q : xQ} (σ : xM) (l0 : Nat) (l1 : Nat) (l2 : Nat) (l3 : Nat) (l4 : Int32) (s0 : Int64) (s1 : Int64) {x : ((Int32 × xM) ⊕ ((xM) ⊕ (Nat × Nat × Nat × Nat × Int32 × xM)))} (hf : f_L_law_j1357 (G.2.2.1) σ l0 l1 l2 l3 l4 s0 s1 = some x) (hR : ∀ g, x = Sum.inl (g) → Q (.inl (some (.int g.1))) (g.2) π) (hE : ∀ e : (xM), x = Sum.inr (Sum.inl e) → xMach G π J_L_law (d + 410) C Z 2135 [] [] e Q) (hC : ∀ e : (Nat × Nat × Nat × Nat × Int32 × xM), x = Sum.inr (Sum.inr e) → xMach G π J_L_law (d + 410) C Z 23 [(0, .ref xkX), (1, .ref e.2.1), (2, .ref e.2.2.1), (3, .ref e.2.2.2.1), (4, .int e.2.2.2.2.1)] [] e.2.2.2.2.2 Q) : xMach G π J_L_law (d + 410) C Z 1357 [(0, .ref xkX), (1, .ref l1), (2, .ref l2), (3, .ref l3), (4, .int l4)] [.long s0, .long s1] σ Q := by
  unfold f_L_law_j1357 at hf
  refine xm_lcmp dL_law_1357 ?_
  refine xb_if_eq 1363 dL_law_1358 (by decide) hf (fun c hf => ?_) (fun c hf => ?_)
  · exact xm_sub [0, 1, 2, 3, 4] rfl (L_L_law_j1363 σ l0 l1 l2 l3 l4 hf hR hE hC)
  · refine xm_iconst dL_law_1361 (v := 0) (by decide) ?_
    cases hf
    exact xm_zret dL_law_1362 rfl rfl (hR _ rfl)
def f_L_law_j1433 (aC : Nat → ClassId) (σ : xM) (l0 : Nat) (l1 : Nat) (l2 : Nat) (l3 : Nat) (l4 : Int32) : Option ((Int32 × xM) ⊕ ((xM) ⊕ (Nat × Nat × Nat × Nat × Int32 × xM))) :=
  f_L_law_j2129 aC σ l0 l1 l2 l3 l4
set_option maxHeartbeats 4000000 in
set_option maxRecDepth 20000 in
theorem L_L_law_j1433 {G : xG} {π : Nat → Nat} {d C Z : Nat} {Q : xQ} (σ : xM) (l0 : Nat) (l1 : Nat) (l2 : Nat) (l3 : Nat) (l4 : Int32) {x : ((Int32 × xM) ⊕ ((xM) ⊕ (Nat × Nat × Nat × Nat × Int32 × xM)))} (hf : f_L_law_j1433 (G.2.2.1) σ l0 l1 l2 l3 l4 = some x) (hR : ∀ g, x = Sum.inl (g) → Q (.inl (some (.int g.1))) (g.2) π) (hE : ∀ e : (xM), x = Sum.inr (Sum.inl e) → xMach G π J_L_law (d + 410) C Z 2135 [] [] e Q) (hC : ∀ e : (Nat × Nat × Nat × Nat × Int32 × xM), x = Sum.inr (Sum.inr e) → xMach G π J_L_law (d + 410) C Z 23 [(0, .ref xkX), (1, .ref e.2.1), (2, .ref e.2.2.1), (3, .ref e.2.2.2.1), (4, .int e.2.2.2.2.1)] [] e.2.2.2.2.2 Q) : xMach G π J_L_law (d + 410) C Z 1433 [(0, .ref xkX), (1, .ref l1), (2, .ref l2), (3, .ref l3), (4, .int l4)] [] σ Q := by
  unfold f_L_law_j1433 at hf
  refine xm_goto 2129 dL_law_1433 (by decide) ?_
  exact xm_sub [0, 1, 2, 3, 4] rfl (L_L_law_j2129 σ l0 l1 l2 l3 l4 hf hR hE hC)
def f_L_law_j1515 (aC : Nat → ClassId) (σ : xM) (l0 : Nat) (l1 : Nat) (l2 : Nat) (l3 : Nat) (l4 : Int32) : Option ((Int32 × xM) ⊕ ((xM) ⊕ (Nat × Nat × Nat × Nat × Int32 × xM))) :=
  f_L_law_j2129 aC σ l0 l1 l2 l3 l4
set_option maxHeartbeats 4000000 in
set_option maxRecDepth 20000 in
theorem L_L_law_j1515 {G : xG} {π : Nat → Nat} {d C Z : Nat} {Q : xQ} (σ : xM) (l0 : Nat) (l1 : Nat) (l2 : Nat) (l3 : Nat) (l4 : Int32) {x : ((Int32 × xM) ⊕ ((xM) ⊕ (Nat × Nat × Nat × Nat × Int32 × xM)))} (hf : f_L_law_j1515 (G.2.2.1) σ l0 l1 l2 l3 l4 = some x) (hR : ∀ g, x = Sum.inl (g) → Q (.inl (some (.int g.1))) (g.2) π) (hE : ∀ e : (xM), x = Sum.inr (Sum.inl e) → xMach G π J_L_law (d + 410) C Z 2135 [] [] e Q) (hC : ∀ e : (Nat × Nat × Nat × Nat × Int32 × xM), x = Sum.inr (Sum.inr e) → xMach G π J_L_law (d + 410) C Z 23 [(0, .ref xkX), (1, .ref e.2.1), (2, .ref e.2.2.1), (3, .ref e.2.2.2.1), (4, .int e.2.2.2.2.1)] [] e.2.2.2.2.2 Q) : xMach G π J_L_law (d + 410) C Z 1515 [(0, .ref xkX), (1, .ref l1), (2, .ref l2), (3, .ref l3), (4, .int l4)] [] σ Q := by
  unfold f_L_law_j1515 at hf
  refine xm_goto 2129 dL_law_1515 (by decide) ?_
  exact xm_sub [0, 1, 2, 3, 4] rfl (L_L_law_j2129 σ l0 l1 l2 l3 l4 hf hR hE hC)
def f_L_law_j1571 (aC : Nat → ClassId) (σ : xM) (l0 : Nat) (l1 : Nat) (l2 : Nat) (l3 : Nat) (l4 : Int32) : Option ((Int32 × xM) ⊕ ((xM) ⊕ (Nat × Nat × Nat × Nat × Int32 × xM))) :=
  f_L_law_j2129 aC σ l0 l1 l2 l3 l4
set_option maxHeartbeats 4000000 in
set_option maxRecDepth 20000 in
theorem L_L_law_j1571 {G : xG} {π : Nat → Nat} {d C Z : Nat} {Q : xQ} (σ : xM) (l0 : Nat) (l1 : Nat) (l2 : Nat) (l3 : Nat) (l4 : Int32) {x : ((Int32 × xM) ⊕ ((xM) ⊕ (Nat × Nat × Nat × Nat × Int32 × xM)))} (hf : f_L_law_j1571 (G.2.2.1) σ l0 l1 l2 l3 l4 = some x) (hR : ∀ g, x = Sum.inl (g) → Q (.inl (some (.int g.1))) (g.2) π) (hE : ∀ e : (xM), x = Sum.inr (Sum.inl e) → xMach G π J_L_law (d + 410) C Z 2135 [] [] e Q) (hC : ∀ e : (Nat × Nat × Nat × Nat × Int32 × xM), x = Sum.inr (Sum.inr e) → xMach G π J_L_law (d + 410) C Z 23 [(0, .ref xkX), (1, .ref e.2.1), (2, .ref e.2.2.1), (3, .ref e.2.2.2.1), (4, .int e.2.2.2.2.1)] [] e.2.2.2.2.2 Q) : xMach G π J_L_law (d + 410) C Z 1571 [(0, .ref xkX), (1, .ref l1), (2, .ref l2), (3, .ref l3), (4, .int l4)] [] σ Q := by
  unfold f_L_law_j1571 at hf
  refine xm_goto 2129 dL_law_1571 (by decide) ?_
  exact xm_sub [0, 1, 2, 3, 4] rfl (L_L_law_j2129 σ l0 l1 l2 l3 l4 hf hR hE hC)
def f_L_law_j1627 (aC : Nat → ClassId) (σ : xM) (l0 : Nat) (l1 : Nat) (l2 : Nat) (l3 : Nat) (l4 : Int32) : Option ((Int32 × xM) ⊕ ((xM) ⊕ (Nat × Nat × Nat × Nat × Int32 × xM))) :=
  f_L_law_j2129 aC σ l0 l1 l2 l3 l4
set_option maxHeartbeats 4000000 in
set_option maxRecDepth 20000 in
theorem L_L_law_j1627 {G : xG} {π : Nat → Nat} {d C Z : Nat} {Q : xQ} (σ : xM) (l0 : Nat) (l1 : Nat) (l2 : Nat) (l3 : Nat) (l4 : Int32) {x : ((Int32 × xM) ⊕ ((xM) ⊕ (Nat × Nat × Nat × Nat × Int32 × xM)))} (hf : f_L_law_j1627 (G.2.2.1) σ l0 l1 l2 l3 l4 = some x) (hR : ∀ g, x = Sum.inl (g) → Q (.inl (some (.int g.1))) (g.2) π) (hE : ∀ e : (xM), x = Sum.inr (Sum.inl e) → xMach G π J_L_law (d + 410) C Z 2135 [] [] e Q) (hC : ∀ e : (Nat × Nat × Nat × Nat × Int32 × xM), x = Sum.inr (Sum.inr e) → xMach G π J_L_law (d + 410) C Z 23 [(0, .ref xkX), (1, .ref e.2.1), (2, .ref e.2.2.1), (3, .ref e.2.2.2.1), (4, .int e.2.2.2.2.1)] [] e.2.2.2.2.2 Q) : xMach G π J_L_law (d + 410) C Z 1627 [(0, .ref xkX), (1, .ref l1), (2, .ref l2), (3, .ref l3), (4, .int l4)] [] σ Q := by
  unfold f_L_law_j1627 at hf
  refine xm_goto 2129 dL_law_1627 (by decide) ?_
  exact xm_sub [0, 1, 2, 3, 4] rfl (L_L_law_j2129 σ l0 l1 l2 l3 l4 hf hR hE hC)
def f_L_law_j1695 (aC : Nat → ClassId) (σ : xM) (l0 : Nat) (l1 : Nat) (l2 : Nat) (l3 : Nat) (l4 : Int32) : Option ((Int32 × xM) ⊕ ((xM) ⊕ (Nat × Nat × Nat × Nat × Int32 × xM))) :=
  f_L_law_j2129 aC σ l0 l1 l2 l3 l4
set_option maxHeartbeats 4000000 in
set_option maxRecDepth 20000 in
theorem L_L_law_j1695 {G : xG} {π : Nat → Nat} {d C Z : Nat} {Q : xQ} (σ : xM) (l0 : Nat) (l1 : Nat) (l2 : Nat) (l3 : Nat) (l4 : Int32) {x : ((Int32 × xM) ⊕ ((xM) ⊕ (Nat × Nat × Nat × Nat × Int32 × xM)))} (hf : f_L_law_j1695 (G.2.2.1) σ l0 l1 l2 l3 l4 = some x) (hR : ∀ g, x = Sum.inl (g) → Q (.inl (some (.int g.1))) (g.2) π) (hE : ∀ e : (xM), x = Sum.inr (Sum.inl e) → xMach G π J_L_law (d + 410) C Z 2135 [] [] e Q) (hC : ∀ e : (Nat × Nat × Nat × Nat × Int32 × xM), x = Sum.inr (Sum.inr e) → xMach G π J_L_law (d + 410) C Z 23 [(0, .ref xkX), (1, .ref e.2.1), (2, .ref e.2.2.1), (3, .ref e.2.2.2.1), (4, .int e.2.2.2.2.1)] [] e.2.2.2.2.2 Q) : xMach G π J_L_law (d + 410) C Z 1695 [(0, .ref xkX), (1, .ref l1), (2, .ref l2), (3, .ref l3), (4, .int l4)] [] σ Q := by
  unfold f_L_law_j1695 at hf
  refine xm_goto 2129 dL_law_1695 (by decide) ?_
  exact xm_sub [0, 1, 2, 3, 4] rfl (L_L_law_j2129 σ l0 l1 l2 l3 l4 hf hR hE hC)
def f_L_law_j1765 (aC : Nat → ClassId) (σ : xM) (l0 : Nat) (l1 : Nat) (l2 : Nat) (l3 : Nat) (l4 : Int32) : Option ((Int32 × xM) ⊕ ((xM) ⊕ (Nat × Nat × Nat × Nat × Int32 × xM))) :=
  f_L_law_j2129 aC σ l0 l1 l2 l3 l4
set_option maxHeartbeats 4000000 in
set_option maxRecDepth 20000 in
theorem L_L_law_j1765 {G : xG} {π : Nat → Nat} {d C Z : Nat} {Q : xQ} (σ : xM) (l0 : Nat) (l1 : Nat) (l2 : Nat) (l3 : Nat) (l4 : Int32) {x : ((Int32 × xM) ⊕ ((xM) ⊕ (Nat × Nat × Nat × Nat × Int32 × xM)))} (hf : f_L_law_j1765 (G.2.2.1) σ l0 l1 l2 l3 l4 = some x) (hR : ∀ g, x = Sum.inl (g) → Q (.inl (some (.int g.1))) (g.2) π) (hE : ∀ e : (xM), x = Sum.inr (Sum.inl e) → xMach G π J_L_law (d + 410) C Z 2135 [] [] e Q) (hC : ∀ e : (Nat × Nat × Nat × Nat × Int32 × xM), x = Sum.inr (Sum.inr e) → xMach G π J_L_law (d + 410) C Z 23 [(0, .ref xkX), (1, .ref e.2.1), (2, .ref e.2.2.1), (3, .ref e.2.2.2.1), (4, .int e.2.2.2.2.1)] [] e.2.2.2.2.2 Q) : xMach G π J_L_law (d + 410) C Z 1765 [(0, .ref xkX), (1, .ref l1), (2, .ref l2), (3, .ref l3), (4, .int l4)] [] σ Q := by
  unfold f_L_law_j1765 at hf
  refine xm_goto 2129 dL_law_1765 (by decide) ?_
  exact xm_sub [0, 1, 2, 3, 4] rfl (L_L_law_j2129 σ l0 l1 l2 l3 l4 hf hR hE hC)
def f_L_law_j1828 (aC : Nat → ClassId) (σ : xM) (l0 : Nat) (l1 : Nat) (l2 : Nat) (l3 : Nat) (l4 : Int32) : Option ((Int32 × xM) ⊕ ((xM) ⊕ (Nat × Nat × Nat × Nat × Int32 × xM))) :=
  f_L_law_j2129 aC σ l0 l1 l2 l3 l4
set_option maxHeartbeats 4000000 in
set_option maxRecDepth 20000 in
theorem L_L_law_j1828 {G : xG} {π : Nat → Nat} {d C Z : Nat} {Q : xQ} (σ : xM) (l0 : Nat) (l1 : Nat) (l2 : Nat) (l3 : Nat) (l4 : Int32) {x : ((Int32 × xM) ⊕ ((xM) ⊕ (Nat × Nat × Nat × Nat × Int32 × xM)))} (hf : f_L_law_j1828 (G.2.2.1) σ l0 l1 l2 l3 l4 = some x) (hR : ∀ g, x = Sum.inl (g) → Q (.inl (some (.int g.1))) (g.2) π) (hE : ∀ e : (xM), x = Sum.inr (Sum.inl e) → xMach G π J_L_law (d + 410) C Z 2135 [] [] e Q) (hC : ∀ e : (Nat × Nat × Nat × Nat × Int32 × xM), x = Sum.inr (Sum.inr e) → xMach G π J_L_law (d + 410) C Z 23 [(0, .ref xkX), (1, .ref e.2.1), (2, .ref e.2.2.1), (3, .ref e.2.2.2.1), (4, .int e.2.2.2.2.1)] [] e.2.2.2.2.2 Q) : xMach G π J_L_law (d + 410) C Z 1828 [(0, .ref xkX), (1, .ref l1), (2, .ref l2), (3, .ref l3), (4, .int l4)] [] σ Q := by
  unfold f_L_law_j1828 at hf
  refine xm_goto 2129 dL_law_1828 (by decide) ?_
  exact xm_sub [0, 1, 2, 3, 4] rfl (L_L_law_j2129 σ l0 l1 l2 l3 l4 hf hR hE hC)
def f_L_law_j1822 (aC : Nat → ClassId) (σ : xM) (l0 : Nat) (l1 : Nat) (l2 : Nat) (l3 : Nat) (l4 : Int32) (s0 : Int64) (s1 : Int64) : Option ((Int32 × xM) ⊕ ((xM) ⊕ (Nat × Nat × Nat × Nat × Int32 × xM))) :=
  (if (lg_cmp s1 s0) = (0 : Int32) then f_L_law_j1828 aC σ l0 l1 l2 l3 l4 else some (Sum.inl ((0 : Int32), σ)))
set_option maxHeartbeats 4000000 in
set_option maxRecDepth 20000 in
theorem L_L_law_j1822 {G : xG} {π : Nat → Nat} {d C Z : Nat} {Q : xQ} (σ : xM) (l0 : Nat) (l1 : Nat) (l2 : Nat) (l3 : Nat) (l4 : Int32) (s0 : Int64) (s1 : Int64) {x : ((Int32 × xM) ⊕ ((xM) ⊕ (Nat × Nat × Nat × Nat × Int32 × xM)))} (hf : f_L_law_j1822 (G.2.2.1) σ l0 l1 l2 l3 l4 s0 s1 = some x) (hR : ∀ g, x = Sum.inl (g) → Q (.inl (some (.int g.1))) (g.2) π) (hE : ∀ e : (xM), x = Sum.inr (Sum.inl e) → xMach G π J_L_law (d + 410) C Z 2135 [] [] e Q) (hC : ∀ e : (Nat × Nat × Nat × Nat × Int32 × xM), x = Sum.inr (Sum.inr e) → xMach G π J_L_law (d + 410) C Z 23 [(0, .ref xkX), (1, .ref e.2.1), (2, .ref e.2.2.1), (3, .ref e.2.2.2.1), (4, .int e.2.2.2.2.1)] [] e.2.2.2.2.2 Q) : xMach G π J_L_law (d + 410) C Z 1822 [(0, .ref xkX), (1, .ref l1), (2, .ref l2), (3, .ref l3), (4, .int l4)] [.long s0, .long s1] σ Q := by
  unfold f_L_law_j1822 at hf
  refine xm_lcmp dL_law_1822 ?_
  refine xb_if_eq 1828 dL_law_1823 (by decide) hf (fun c hf => ?_) (fun c hf => ?_)
  · exact xm_sub [0, 1, 2, 3, 4] rfl (L_L_law_j1828 σ l0 l1 l2 l3 l4 hf hR hE hC)
  · refine xm_iconst dL_law_1826 (v := 0) (by decide) ?_
    cases hf
    exact xm_zret dL_law_1827 rfl rfl (hR _ rfl)
def f_L_law_j1898 (aC : Nat → ClassId) (σ : xM) (l0 : Nat) (l1 : Nat) (l2 : Nat) (l3 : Nat) (l4 : Int32) : Option ((Int32 × xM) ⊕ ((xM) ⊕ (Nat × Nat × Nat × Nat × Int32 × xM))) :=
  f_L_law_j2129 aC σ l0 l1 l2 l3 l4
set_option maxHeartbeats 4000000 in
set_option maxRecDepth 20000 in
theorem L_L_law_j1898 {G : xG} {π : Nat → Nat} {d C Z : Nat} {Q : xQ} (σ : xM) (l0 : Nat) (l1 : Nat) (l2 : Nat) (l3 : Nat) (l4 : Int32) {x : ((Int32 × xM) ⊕ ((xM) ⊕ (Nat × Nat × Nat × Nat × Int32 × xM)))} (hf : f_L_law_j1898 (G.2.2.1) σ l0 l1 l2 l3 l4 = some x) (hR : ∀ g, x = Sum.inl (g) → Q (.inl (some (.int g.1))) (g.2) π) (hE : ∀ e : (xM), x = Sum.inr (Sum.inl e) → xMach G π J_L_law (d + 410) C Z 2135 [] [] e Q) (hC : ∀ e : (Nat × Nat × Nat × Nat × Int32 × xM), x = Sum.inr (Sum.inr e) → xMach G π J_L_law (d + 410) C Z 23 [(0, .ref xkX), (1, .ref e.2.1), (2, .ref e.2.2.1), (3, .ref e.2.2.2.1), (4, .int e.2.2.2.2.1)] [] e.2.2.2.2.2 Q) : xMach G π J_L_law (d + 410) C Z 1898 [(0, .ref xkX), (1, .ref l1), (2, .ref l2), (3, .ref l3), (4, .int l4)] [] σ Q := by
  unfold f_L_law_j1898 at hf
  refine xm_goto 2129 dL_law_1898 (by decide) ?_
  exact xm_sub [0, 1, 2, 3, 4] rfl (L_L_law_j2129 σ l0 l1 l2 l3 l4 hf hR hE hC)
def f_L_law_j1968 (aC : Nat → ClassId) (σ : xM) (l0 : Nat) (l1 : Nat) (l2 : Nat) (l3 : Nat) (l4 : Int32) : Option ((Int32 × xM) ⊕ ((xM) ⊕ (Nat × Nat × Nat × Nat × Int32 × xM))) :=
  f_L_law_j2129 aC σ l0 l1 l2 l3 l4
set_option maxHeartbeats 4000000 in
set_option maxRecDepth 20000 in
theorem L_L_law_j1968 {G : xG} {π : Nat → Nat} {d C Z : Nat} {Q : xQ} (σ : xM) (l0 : Nat) (l1 : Nat) (l2 : Nat) (l3 : Nat) (l4 : Int32) {x : ((Int32 × xM) ⊕ ((xM) ⊕ (Nat × Nat × Nat × Nat × Int32 × xM)))} (hf : f_L_law_j1968 (G.2.2.1) σ l0 l1 l2 l3 l4 = some x) (hR : ∀ g, x = Sum.inl (g) → Q (.inl (some (.int g.1))) (g.2) π) (hE : ∀ e : (xM), x = Sum.inr (Sum.inl e) → xMach G π J_L_law (d + 410) C Z 2135 [] [] e Q) (hC : ∀ e : (Nat × Nat × Nat × Nat × Int32 × xM), x = Sum.inr (Sum.inr e) → xMach G π J_L_law (d + 410) C Z 23 [(0, .ref xkX), (1, .ref e.2.1), (2, .ref e.2.2.1), (3, .ref e.2.2.2.1), (4, .int e.2.2.2.2.1)] [] e.2.2.2.2.2 Q) : xMach G π J_L_law (d + 410) C Z 1968 [(0, .ref xkX), (1, .ref l1), (2, .ref l2), (3, .ref l3), (4, .int l4)] [] σ Q := by
  unfold f_L_law_j1968 at hf
  refine xm_goto 2129 dL_law_1968 (by decide) ?_
  exact xm_sub [0, 1, 2, 3, 4] rfl (L_L_law_j2129 σ l0 l1 l2 l3 l4 hf hR hE hC)
def f_L_law_j2038 (aC : Nat → ClassId) (σ : xM) (l0 : Nat) (l1 : Nat) (l2 : Nat) (l3 : Nat) (l4 : Int32) : Option ((Int32 × xM) ⊕ ((xM) ⊕ (Nat × Nat × Nat × Nat × Int32 × xM))) :=
  f_L_law_j2129 aC σ l0 l1 l2 l3 l4
set_option maxHeartbeats 4000000 in
set_option maxRecDepth 20000 in
theorem L_L_law_j2038 {G : xG} {π : Nat → Nat} {d C Z : Nat} {Q : xQ} (σ : xM) (l0 : Nat) (l1 : Nat) (l2 : Nat) (l3 : Nat) (l4 : Int32) {x : ((Int32 × xM) ⊕ ((xM) ⊕ (Nat × Nat × Nat × Nat × Int32 × xM)))} (hf : f_L_law_j2038 (G.2.2.1) σ l0 l1 l2 l3 l4 = some x) (hR : ∀ g, x = Sum.inl (g) → Q (.inl (some (.int g.1))) (g.2) π) (hE : ∀ e : (xM), x = Sum.inr (Sum.inl e) → xMach G π J_L_law (d + 410) C Z 2135 [] [] e Q) (hC : ∀ e : (Nat × Nat × Nat × Nat × Int32 × xM), x = Sum.inr (Sum.inr e) → xMach G π J_L_law (d + 410) C Z 23 [(0, .ref xkX), (1, .ref e.2.1), (2, .ref e.2.2.1), (3, .ref e.2.2.2.1), (4, .int e.2.2.2.2.1)] [] e.2.2.2.2.2 Q) : xMach G π J_L_law (d + 410) C Z 2038 [(0, .ref xkX), (1, .ref l1), (2, .ref l2), (3, .ref l3), (4, .int l4)] [] σ Q := by
  unfold f_L_law_j2038 at hf
  refine xm_goto 2129 dL_law_2038 (by decide) ?_
  exact xm_sub [0, 1, 2, 3, 4] rfl (L_L_law_j2129 σ l0 l1 l2 l3 l4 hf hR hE hC)
def f_L_law_j2126 (aC : Nat → ClassId) (σ : xM) (l0 : Nat) (l1 : Nat) (l2 : Nat) (l3 : Nat) (l4 : Int32) : Option ((Int32 × xM) ⊕ ((xM) ⊕ (Nat × Nat × Nat × Nat × Int32 × xM))) :=
  f_L_law_j2129 aC σ l0 l1 l2 l3 l4
set_option maxHeartbeats 4000000 in
set_option maxRecDepth 20000 in
theorem L_L_law_j2126 {G : xG} {π : Nat → Nat} {d C Z : Nat} {Q : xQ} (σ : xM) (l0 : Nat) (l1 : Nat) (l2 : Nat) (l3 : Nat) (l4 : Int32) {x : ((Int32 × xM) ⊕ ((xM) ⊕ (Nat × Nat × Nat × Nat × Int32 × xM)))} (hf : f_L_law_j2126 (G.2.2.1) σ l0 l1 l2 l3 l4 = some x) (hR : ∀ g, x = Sum.inl (g) → Q (.inl (some (.int g.1))) (g.2) π) (hE : ∀ e : (xM), x = Sum.inr (Sum.inl e) → xMach G π J_L_law (d + 410) C Z 2135 [] [] e Q) (hC : ∀ e : (Nat × Nat × Nat × Nat × Int32 × xM), x = Sum.inr (Sum.inr e) → xMach G π J_L_law (d + 410) C Z 23 [(0, .ref xkX), (1, .ref e.2.1), (2, .ref e.2.2.1), (3, .ref e.2.2.2.1), (4, .int e.2.2.2.2.1)] [] e.2.2.2.2.2 Q) : xMach G π J_L_law (d + 410) C Z 2126 [(0, .ref xkX), (1, .ref l1), (2, .ref l2), (3, .ref l3), (4, .int l4)] [] σ Q := by
  unfold f_L_law_j2126 at hf
  refine xm_goto 2129 dL_law_2126 (by decide) ?_
  exact xm_sub [0, 1, 2, 3, 4] rfl (L_L_law_j2129 σ l0 l1 l2 l3 l4 hf hR hE hC)
def f_L_law_j2120 (aC : Nat → ClassId) (σ : xM) (l0 : Nat) (l1 : Nat) (l2 : Nat) (l3 : Nat) (l4 : Int32) (s0 : Int64) (s1 : Int64) : Option ((Int32 × xM) ⊕ ((xM) ⊕ (Nat × Nat × Nat × Nat × Int32 × xM))) :=
  (if (lg_cmp s1 s0) = (0 : Int32) then f_L_law_j2126 aC σ l0 l1 l2 l3 l4 else some (Sum.inl ((0 : Int32), σ)))
set_option maxHeartbeats 4000000 in
set_option maxRecDepth 20000 in
theorem L_L_law_j2120 {G : xG} {π : Nat → Nat} {d C Z : Nat} {Q : xQ} (σ : xM) (l0 : Nat) (l1 : Nat) (l2 : Nat) (l3 : Nat) (l4 : Int32) (s0 : Int64) (s1 : Int64) {x : ((Int32 × xM) ⊕ ((xM) ⊕ (Nat × Nat × Nat × Nat × Int32 × xM)))} (hf : f_L_law_j2120 (G.2.2.1) σ l0 l1 l2 l3 l4 s0 s1 = some x) (hR : ∀ g, x = Sum.inl (g) → Q (.inl (some (.int g.1))) (g.2) π) (hE : ∀ e : (xM), x = Sum.inr (Sum.inl e) → xMach G π J_L_law (d + 410) C Z 2135 [] [] e Q) (hC : ∀ e : (Nat × Nat × Nat × Nat × Int32 × xM), x = Sum.inr (Sum.inr e) → xMach G π J_L_law (d + 410) C Z 23 [(0, .ref xkX), (1, .ref e.2.1), (2, .ref e.2.2.1), (3, .ref e.2.2.2.1), (4, .int e.2.2.2.2.1)] [] e.2.2.2.2.2 Q) : xMach G π J_L_law (d + 410) C Z 2120 [(0, .ref xkX), (1, .ref l1), (2, .ref l2), (3, .ref l3), (4, .int l4)] [.long s0, .long s1] σ Q := by
  unfold f_L_law_j2120 at hf
  refine xm_lcmp dL_law_2120 ?_
  refine xb_if_eq 2126 dL_law_2121 (by decide) hf (fun c hf => ?_) (fun c hf => ?_)
  · exact xm_sub [0, 1, 2, 3, 4] rfl (L_L_law_j2126 σ l0 l1 l2 l3 l4 hf hR hE hC)
  · refine xm_iconst dL_law_2124 (v := 0) (by decide) ?_
    cases hf
    exact xm_zret dL_law_2125 rfl rfl (hR _ rfl)
def f_L_law_s23 (aC : Nat → ClassId) (s : (Nat × Nat × Nat × Nat × Int32 × xM)) : Option ((Int32 × xM) ⊕ ((xM) ⊕ (Nat × Nat × Nat × Nat × Int32 × xM))) :=
  xlet s.1 (fun l0 => xlet s.2.1 (fun l1 => xlet s.2.2.1 (fun l2 => xlet s.2.2.2.1 (fun l3 => xlet s.2.2.2.2.1 (fun l4 => xlet s.2.2.2.2.2 (fun σ => (if ((Int32.ofNat (aC 104)) - (6 : Int32)) < l4 then some (Sum.inr (Sum.inl σ)) else (xLd aC l4).bind (fun x1 => xlet (x1 &&& (31 : Int32)) (fun v2 => (if v2 = (0 : Int32) then (xLd aC (l4 + (1 : Int32))).bind (fun x4 => (f_L_type σ l1 (((x4).toUInt32 % 65536).toInt32) l3).bind (fun p5 => (xLd aC (l4 + (1 : Int32))).bind (fun x6 => (if xk p5.2 l2 12 = true then (f_X12_type p5.2 l2 (((x6).toUInt32 % 65536).toInt32)).bind (fun p7 => (if xk p7.2 l2 12 = true then (f_X12_thrown p7.2 l2).bind (fun p8 => (if p8 = p5.1 then (if p5.1 = (0 : Int32) then (aJ p7.2 l3 (0 : Int32)).bind (fun x9 => (if (lg_cmp x9 ((p7.1).toInt64)) = (0 : Int32) then f_L_law_j239 aC p7.2 l0 l1 l2 l3 l4 else some (Sum.inl ((0 : Int32), p7.2)))) else f_L_law_j239 aC p7.2 l0 l1 l2 l3 l4) else some (Sum.inl ((0 : Int32), p7.2)))) else none)) else none)))) else (if v2 = (1 : Int32) then (if xk σ l1 11 = true then (f_X11_drop σ l1).bind (fun p10 => (if xk p10.2 l2 12 = true then (f_X12_drop p10.2 l2).bind (fun p11 => (if p10.1 = p11.1 then f_L_law_j2129 aC p11.2 l0 l1 l2 l3 l4 else some (Sum.inl ((0 : Int32), p11.2)))) else none)) else none) else (if v2 = (2 : Int32) then (if xk σ l1 11 = true then (f_X11_fault σ l1).bind (fun p12 => (if xk p12.2 l2 12 = true then (f_X12_fault p12.2 l2).bind (fun p13 => (if p12.1 = p13.1 then f_L_law_j2129 aC p13.2 l0 l1 l2 l3 l4 else some (Sum.inl ((0 : Int32), p13.2)))) else none)) else none) else (if v2 = (3 : Int32) then (f_L_read σ l1 l3).bind (fun p14 => (if xk p14.2 l2 12 = true then (f_X12_read p14.2 l2).bind (fun p15 => (if xk p15.2 l2 12 = true then (f_X12_thrown p15.2 l2).bind (fun p16 => (if p16 = p14.1 then (if p14.1 = (0 : Int32) then (aJ p15.2 l3 (0 : Int32)).bind (fun x17 => (if (lg_cmp x17 ((p15.1).toInt64)) = (0 : Int32) then f_L_law_j309 aC p15.2 l0 l1 l2 l3 l4 else some (Sum.inl ((0 : Int32), p15.2)))) else f_L_law_j309 aC p15.2 l0 l1 l2 l3 l4) else some (Sum.inl ((0 : Int32), p15.2)))) else none)) else none)) else (if v2 = (4 : Int32) then (if xk σ l1 11 = true then (f_X11_trees σ l1).bind (fun p18 => (if xk σ l2 12 = true then (f_X12_trees σ l2).bind (fun p19 => (if p18 = p19.1 then f_L_law_j2129 aC p19.2 l0 l1 l2 l3 l4 else some (Sum.inl ((0 : Int32), p19.2)))) else none)) else none) else (if v2 = (5 : Int32) then (xLd aC (l4 + (1 : Int32))).bind (fun x20 => (xLd aC (l4 + (2 : Int32))).bind (fun x21 => (xLd aC (l4 + (3 : Int32))).bind (fun x22 => (f_L_node σ l1 x20 x21 x22 l3).bind (fun p23 => (xLd aC (l4 + (1 : Int32))).bind (fun x24 => (xLd aC (l4 + (2 : Int32))).bind (fun x25 => (xLd aC (l4 + (3 : Int32))).bind (fun x26 => (if xk p23.2 l2 12 = true then (f_X12_node_ p23.2 l2 x24 x25 x26).bind (fun p27 => (if xk p27.2 l2 12 = true then (f_X12_thrown p27.2 l2).bind (fun p28 => (if p28 = p23.1 then (if p23.1 = (0 : Int32) then (aJ p27.2 l3 (0 : Int32)).bind (fun x29 => (if (lg_cmp x29 ((p27.1).toInt64)) = (0 : Int32) then f_L_law_j402 aC p27.2 l0 l1 l2 l3 l4 else some (Sum.inl ((0 : Int32), p27.2)))) else f_L_law_j402 aC p27.2 l0 l1 l2 l3 l4) else some (Sum.inl ((0 : Int32), p27.2)))) else none)) else none)))))))) else (if v2 = (6 : Int32) then (xLd aC (l4 + (1 : Int32))).bind (fun x30 => (xLd aC (l4 + (2 : Int32))).bind (fun x31 => (f_L_isSame σ l1 x30 x31 l3).bind (fun p32 => (xLd aC (l4 + (1 : Int32))).bind (fun x33 => (xLd aC (l4 + (2 : Int32))).bind (fun x34 => (if xk p32.2 l2 12 = true then (f_X12_isSame p32.2 l2 x33 x34).bind (fun p35 => (if xk p35.2 l2 12 = true then (f_X12_thrown p35.2 l2).bind (fun p36 => (if p36 = p32.1 then (if p32.1 = (0 : Int32) then (aJ p35.2 l3 (0 : Int32)).bind (fun x37 => (if p35.1 = (0 : Int32) then f_L_law_j471 aC p35.2 l0 l1 l2 l3 l4 (0 : Int64) x37 else f_L_law_j471 aC p35.2 l0 l1 l2 l3 l4 (1 : Int64) x37)) else f_L_law_j477 aC p35.2 l0 l1 l2 l3 l4) else some (Sum.inl ((0 : Int32), p35.2)))) else none)) else none)))))) else (if v2 = (7 : Int32) then (xLd aC (l4 + (1 : Int32))).bind (fun x38 => (xLd aC (l4 + (2 : Int32))).bind (fun x39 => (f_L_part σ l1 x38 x39 l3).bind (fun p40 => (xLd aC (l4 + (1 : Int32))).bind (fun x41 => (xLd aC (l4 + (2 : Int32))).bind (fun x42 => (if xk p40.2 l2 12 = true then (f_X12_part p40.2 l2 x41 x42).bind (fun p43 => (if xk p43.2 l2 12 = true then (f_X12_thrown p43.2 l2).bind (fun p44 => (if p44 = p40.1 then (if p40.1 = (0 : Int32) then (aJ p43.2 l3 (0 : Int32)).bind (fun x45 => (if (lg_cmp x45 ((p43.1).toInt64)) = (0 : Int32) then f_L_law_j545 aC p43.2 l0 l1 l2 l3 l4 else some (Sum.inl ((0 : Int32), p43.2)))) else f_L_law_j545 aC p43.2 l0 l1 l2 l3 l4) else some (Sum.inl ((0 : Int32), p43.2)))) else none)) else none)))))) else (if v2 = (8 : Int32) then (xLd aC (l4 + (1 : Int32))).bind (fun x46 => (xLd aC (l4 + (2 : Int32))).bind (fun x47 => (xLd aC (l4 + (3 : Int32))).bind (fun x48 => (f_L_graft σ l1 x46 (((x47).toUInt32 % 65536).toInt32) x48 l3).bind (fun p49 => (xLd aC (l4 + (1 : Int32))).bind (fun x50 => (xLd aC (l4 + (2 : Int32))).bind (fun x51 => (xLd aC (l4 + (3 : Int32))).bind (fun x52 => (if xk p49.2 l2 12 = true then (f_X12_graft p49.2 l2 x50 (((x51).toUInt32 % 65536).toInt32) x52).bind (fun p53 => (if xk p53.2 l2 12 = true then (f_X12_thrown p53.2 l2).bind (fun p54 => (if p54 = p49.1 then (if p49.1 = (0 : Int32) then (aJ p53.2 l3 (0 : Int32)).bind (fun x55 => (if (lg_cmp x55 ((p53.1).toInt64)) = (0 : Int32) then f_L_law_j627 aC p53.2 l0 l1 l2 l3 l4 else some (Sum.inl ((0 : Int32), p53.2)))) else f_L_law_j627 aC p53.2 l0 l1 l2 l3 l4) else some (Sum.inl ((0 : Int32), p53.2)))) else none)) else none)))))))) else (if v2 = (9 : Int32) then (xLd aC (l4 + (1 : Int32))).bind (fun x56 => (xLd aC (l4 + (2 : Int32))).bind (fun x57 => (xLd aC (l4 + (3 : Int32))).bind (fun x58 => (xLd aC (l4 + (4 : Int32))).bind (fun x59 => (xLd aC (l4 + (5 : Int32))).bind (fun x60 => (f_L_tell σ l1 (((x56).toUInt32 % 65536).toInt32) x57 x58 x59 x60 l3).bind (fun p61 => (xLd aC (l4 + (1 : Int32))).bind (fun x62 => (xLd aC (l4 + (2 : Int32))).bind (fun x63 => (xLd aC (l4 + (3 : Int32))).bind (fun x64 => (xLd aC (l4 + (4 : Int32))).bind (fun x65 => (xLd aC (l4 + (5 : Int32))).bind (fun x66 => (if xk p61.2 l2 12 = true then (f_X12_tell p61.2 l2 (((x62).toUInt32 % 65536).toInt32) x63 x64 x65 x66).bind (fun p67 => (if xk p67.2 l2 12 = true then (f_X12_thrown p67.2 l2).bind (fun p68 => (if p68 = p61.1 then (if p61.1 = (0 : Int32) then (aJ p67.2 l3 (0 : Int32)).bind (fun x69 => (if (lg_cmp x69 ((p67.1).toInt64)) = (0 : Int32) then f_L_law_j733 aC p67.2 l0 l1 l2 l3 l4 else some (Sum.inl ((0 : Int32), p67.2)))) else f_L_law_j733 aC p67.2 l0 l1 l2 l3 l4) else some (Sum.inl ((0 : Int32), p67.2)))) else none)) else none)))))))))))) else (if v2 = (10 : Int32) then (xLd aC (l4 + (1 : Int32))).bind (fun x70 => (xLd aC (l4 + (2 : Int32))).bind (fun x71 => (xLd aC (l4 + (3 : Int32))).bind (fun x72 => (f_L_told σ l1 (((x70).toUInt32 % 65536).toInt32) x71 x72 l3).bind (fun p73 => (xLd aC (l4 + (1 : Int32))).bind (fun x74 => (xLd aC (l4 + (2 : Int32))).bind (fun x75 => (xLd aC (l4 + (3 : Int32))).bind (fun x76 => (if xk p73.2 l2 12 = true then (f_X12_told p73.2 l2 (((x74).toUInt32 % 65536).toInt32) x75 x76).bind (fun p77 => (if xk p77.2 l2 12 = true then (f_X12_thrown p77.2 l2).bind (fun p78 => (if p78 = p73.1 then (if p73.1 = (0 : Int32) then (aJ p77.2 l3 (0 : Int32)).bind (fun x79 => (if (lg_cmp x79 ((p77.1).toInt64)) = (0 : Int32) then f_L_law_j815 aC p77.2 l0 l1 l2 l3 l4 else some (Sum.inl ((0 : Int32), p77.2)))) else f_L_law_j815 aC p77.2 l0 l1 l2 l3 l4) else some (Sum.inl ((0 : Int32), p77.2)))) else none)) else none)))))))) else (if v2 = (11 : Int32) then (xLd aC (l4 + (1 : Int32))).bind (fun x80 => (f_L_print σ l1 x80 l3).bind (fun p81 => (xLd aC (l4 + (1 : Int32))).bind (fun x82 => (if xk p81.2 l2 12 = true then (f_X12_print p81.2 l2 x82).bind (fun p83 => (if xk p83.2 l2 12 = true then (f_X12_thrown p83.2 l2).bind (fun p84 => (if p84 = p81.1 then (if p81.1 = (0 : Int32) then (aJ p83.2 l3 (0 : Int32)).bind (fun x85 => (if (lg_cmp x85 ((p83.1).toInt64)) = (0 : Int32) then f_L_law_j871 aC p83.2 l0 l1 l2 l3 l4 else some (Sum.inl ((0 : Int32), p83.2)))) else f_L_law_j871 aC p83.2 l0 l1 l2 l3 l4) else some (Sum.inl ((0 : Int32), p83.2)))) else none)) else none)))) else (if v2 = (12 : Int32) then (xLd aC (l4 + (1 : Int32))).bind (fun x86 => (f_L_postfix σ l1 x86 l3).bind (fun p87 => (xLd aC (l4 + (1 : Int32))).bind (fun x88 => (if xk p87.2 l2 12 = true then (f_X12_postfix p87.2 l2 x88).bind (fun p89 => (if xk p89.2 l2 12 = true then (f_X12_thrown p89.2 l2).bind (fun p90 => (if p90 = p87.1 then (if p87.1 = (0 : Int32) then (aJ p89.2 l3 (0 : Int32)).bind (fun x91 => (if (lg_cmp x91 ((p89.1).toInt64)) = (0 : Int32) then f_L_law_j927 aC p89.2 l0 l1 l2 l3 l4 else some (Sum.inl ((0 : Int32), p89.2)))) else f_L_law_j927 aC p89.2 l0 l1 l2 l3 l4) else some (Sum.inl ((0 : Int32), p89.2)))) else none)) else none)))) else (if v2 = (13 : Int32) then (xLd aC (l4 + (1 : Int32))).bind (fun x92 => (f_L_out σ l1 x92 l3).bind (fun p93 => (xLd aC (l4 + (1 : Int32))).bind (fun x94 => (if xk p93.2 l2 12 = true then (f_X12_out p93.2 l2 x94).bind (fun p95 => (if xk p95.2 l2 12 = true then (f_X12_thrown p95.2 l2).bind (fun p96 => (if p96 = p93.1 then (if p93.1 = (0 : Int32) then (aJ p95.2 l3 (0 : Int32)).bind (fun x97 => (if (lg_cmp x97 ((p95.1).toInt64)) = (0 : Int32) then f_L_law_j983 aC p95.2 l0 l1 l2 l3 l4 else some (Sum.inl ((0 : Int32), p95.2)))) else f_L_law_j983 aC p95.2 l0 l1 l2 l3 l4) else some (Sum.inl ((0 : Int32), p95.2)))) else none)) else none)))) else (if v2 = (14 : Int32) then (xLd aC (l4 + (1 : Int32))).bind (fun x98 => (f_L_evaluate σ l1 x98 l3).bind (fun p99 => (xLd aC (l4 + (1 : Int32))).bind (fun x100 => (if xk p99.2 l2 12 = true then (f_X12_evaluate p99.2 l2 x100).bind (fun p101 => (if xk p101.2 l2 12 = true then (f_X12_thrown p101.2 l2).bind (fun p102 => (if p102 = p99.1 then (if p99.1 = (0 : Int32) then (aJ p101.2 l3 (0 : Int32)).bind (fun x103 => (if (lg_cmp x103 ((p101.1).toInt64)) = (0 : Int32) then f_L_law_j1039 aC p101.2 l0 l1 l2 l3 l4 else some (Sum.inl ((0 : Int32), p101.2)))) else f_L_law_j1039 aC p101.2 l0 l1 l2 l3 l4) else some (Sum.inl ((0 : Int32), p101.2)))) else none)) else none)))) else (if v2 = (15 : Int32) then (xLd aC (l4 + (1 : Int32))).bind (fun x104 => (f_L_reckon σ l1 x104 l3).bind (fun p105 => (xLd aC (l4 + (1 : Int32))).bind (fun x106 => (if xk p105.2 l2 12 = true then (f_X12_reckon p105.2 l2 x106).bind (fun p107 => (if xk p107.2 l2 12 = true then (f_X12_thrown p107.2 l2).bind (fun p108 => (if p108 = p105.1 then (if p105.1 = (0 : Int32) then (aJ p107.2 l3 (0 : Int32)).bind (fun x109 => (if (lg_cmp x109 ((p107.1).toInt64)) = (0 : Int32) then f_L_law_j1095 aC p107.2 l0 l1 l2 l3 l4 else some (Sum.inl ((0 : Int32), p107.2)))) else f_L_law_j1095 aC p107.2 l0 l1 l2 l3 l4) else some (Sum.inl ((0 : Int32), p107.2)))) else none)) else none)))) else (if v2 = (16 : Int32) then (xLd aC (l4 + (1 : Int32))).bind (fun x110 => (xLd aC (l4 + (2 : Int32))).bind (fun x111 => (f_L_answer σ l1 x110 x111 l3).bind (fun p112 => (xLd aC (l4 + (1 : Int32))).bind (fun x113 => (xLd aC (l4 + (2 : Int32))).bind (fun x114 => (if xk p112.2 l2 12 = true then (f_X12_answer p112.2 l2 x113 x114).bind (fun p115 => (if xk p115.2 l2 12 = true then (f_X12_thrown p115.2 l2).bind (fun p116 => (if p116 = p112.1 then (if p112.1 = (0 : Int32) then (aJ p115.2 l3 (0 : Int32)).bind (fun x117 => (if (lg_cmp x117 ((p115.1).toInt64)) = (0 : Int32) then f_L_law_j1163 aC p115.2 l0 l1 l2 l3 l4 else some (Sum.inl ((0 : Int32), p115.2)))) else f_L_law_j1163 aC p115.2 l0 l1 l2 l3 l4) else some (Sum.inl ((0 : Int32), p115.2)))) else none)) else none)))))) else (if v2 = (17 : Int32) then (xLd aC (l4 + (1 : Int32))).bind (fun x118 => (xLd aC (l4 + (2 : Int32))).bind (fun x119 => (f_L_let σ l1 (((x118).toUInt32 % 65536).toInt32) x119 l3).bind (fun p120 => (xLd aC (l4 + (1 : Int32))).bind (fun x121 => (xLd aC (l4 + (2 : Int32))).bind (fun x122 => (if xk p120.2 l2 12 = true then (f_X12_let p120.2 l2 (((x121).toUInt32 % 65536).toInt32) x122).bind (fun p123 => (if xk p123.2 l2 12 = true then (f_X12_thrown p123.2 l2).bind (fun p124 => (if p124 = p120.1 then (if p120.1 = (0 : Int32) then (aJ p123.2 l3 (0 : Int32)).bind (fun x125 => (if (lg_cmp x125 ((p123.1).toInt64)) = (0 : Int32) then f_L_law_j1233 aC p123.2 l0 l1 l2 l3 l4 else some (Sum.inl ((0 : Int32), p123.2)))) else f_L_law_j1233 aC p123.2 l0 l1 l2 l3 l4) else some (Sum.inl ((0 : Int32), p123.2)))) else none)) else none)))))) else (if v2 = (18 : Int32) then (xLd aC (l4 + (1 : Int32))).bind (fun x126 => (f_L_unlet σ l1 (((x126).toUInt32 % 65536).toInt32) l3).bind (fun p127 => (xLd aC (l4 + (1 : Int32))).bind (fun x128 => (if xk p127.2 l2 12 = true then (f_X12_unlet p127.2 l2 (((x128).toUInt32 % 65536).toInt32)).bind (fun p129 => (if xk p129.2 l2 12 = true then (f_X12_thrown p129.2 l2).bind (fun p130 => (if p130 = p127.1 then (if p127.1 = (0 : Int32) then (aJ p129.2 l3 (0 : Int32)).bind (fun x131 => (if p129.1 = (0 : Int32) then f_L_law_j1292 aC p129.2 l0 l1 l2 l3 l4 (0 : Int64) x131 else f_L_law_j1292 aC p129.2 l0 l1 l2 l3 l4 (1 : Int64) x131)) else f_L_law_j1298 aC p129.2 l0 l1 l2 l3 l4) else some (Sum.inl ((0 : Int32), p129.2)))) else none)) else none)))) else (if v2 = (19 : Int32) then (xLd aC (l4 + (1 : Int32))).bind (fun x132 => (f_L_recall σ l1 (((x132).toUInt32 % 65536).toInt32) l3).bind (fun p133 => (xLd aC (l4 + (1 : Int32))).bind (fun x134 => (if xk p133.2 l2 12 = true then (f_X12_recall p133.2 l2 (((x134).toUInt32 % 65536).toInt32)).bind (fun p135 => (if xk p135.2 l2 12 = true then (f_X12_thrown p135.2 l2).bind (fun p136 => (if p136 = p133.1 then (if p133.1 = (0 : Int32) then (aJ p135.2 l3 (0 : Int32)).bind (fun x137 => (if p135.1 = (0 : Int32) then f_L_law_j1357 aC p135.2 l0 l1 l2 l3 l4 (0 : Int64) x137 else f_L_law_j1357 aC p135.2 l0 l1 l2 l3 l4 (1 : Int64) x137)) else f_L_law_j1363 aC p135.2 l0 l1 l2 l3 l4) else some (Sum.inl ((0 : Int32), p135.2)))) else none)) else none)))) else (if v2 = (20 : Int32) then (xLd aC (l4 + (1 : Int32))).bind (fun x138 => (xLd aC (l4 + (2 : Int32))).bind (fun x139 => (f_L_define σ l1 (((x138).toUInt32 % 65536).toInt32) x139 l3).bind (fun p140 => (xLd aC (l4 + (1 : Int32))).bind (fun x141 => (xLd aC (l4 + (2 : Int32))).bind (fun x142 => (if xk p140.2 l2 12 = true then (f_X12_define p140.2 l2 (((x141).toUInt32 % 65536).toInt32) x142).bind (fun p143 => (if xk p143.2 l2 12 = true then (f_X12_thrown p143.2 l2).bind (fun p144 => (if p144 = p140.1 then (if p140.1 = (0 : Int32) then (aJ p143.2 l3 (0 : Int32)).bind (fun x145 => (if (lg_cmp x145 ((p143.1).toInt64)) = (0 : Int32) then f_L_law_j1433 aC p143.2 l0 l1 l2 l3 l4 else some (Sum.inl ((0 : Int32), p143.2)))) else f_L_law_j1433 aC p143.2 l0 l1 l2 l3 l4) else some (Sum.inl ((0 : Int32), p143.2)))) else none)) else none)))))) else (if v2 = (21 : Int32) then (xLd aC (l4 + (1 : Int32))).bind (fun x146 => (xLd aC (l4 + (2 : Int32))).bind (fun x147 => (xLd aC (l4 + (3 : Int32))).bind (fun x148 => (f_L_addCase σ l1 (((x146).toUInt32 % 65536).toInt32) x147 x148 l3).bind (fun p149 => (xLd aC (l4 + (1 : Int32))).bind (fun x150 => (xLd aC (l4 + (2 : Int32))).bind (fun x151 => (xLd aC (l4 + (3 : Int32))).bind (fun x152 => (if xk p149.2 l2 12 = true then (f_X12_addCase p149.2 l2 (((x150).toUInt32 % 65536).toInt32) x151 x152).bind (fun p153 => (if xk p153.2 l2 12 = true then (f_X12_thrown p153.2 l2).bind (fun p154 => (if p154 = p149.1 then (if p149.1 = (0 : Int32) then (aJ p153.2 l3 (0 : Int32)).bind (fun x155 => (if (lg_cmp x155 ((p153.1).toInt64)) = (0 : Int32) then f_L_law_j1515 aC p153.2 l0 l1 l2 l3 l4 else some (Sum.inl ((0 : Int32), p153.2)))) else f_L_law_j1515 aC p153.2 l0 l1 l2 l3 l4) else some (Sum.inl ((0 : Int32), p153.2)))) else none)) else none)))))))) else (if v2 = (22 : Int32) then (xLd aC (l4 + (1 : Int32))).bind (fun x156 => (f_L_step σ l1 x156 l3).bind (fun p157 => (xLd aC (l4 + (1 : Int32))).bind (fun x158 => (if xk p157.2 l2 12 = true then (f_X12_step p157.2 l2 x158).bind (fun p159 => (if xk p159.2 l2 12 = true then (f_X12_thrown p159.2 l2).bind (fun p160 => (if p160 = p157.1 then (if p157.1 = (0 : Int32) then (aJ p159.2 l3 (0 : Int32)).bind (fun x161 => (if (lg_cmp x161 ((p159.1).toInt64)) = (0 : Int32) then f_L_law_j1571 aC p159.2 l0 l1 l2 l3 l4 else some (Sum.inl ((0 : Int32), p159.2)))) else f_L_law_j1571 aC p159.2 l0 l1 l2 l3 l4) else some (Sum.inl ((0 : Int32), p159.2)))) else none)) else none)))) else (if v2 = (23 : Int32) then (xLd aC (l4 + (1 : Int32))).bind (fun x162 => (f_L_simplify σ l1 x162 l3).bind (fun p163 => (xLd aC (l4 + (1 : Int32))).bind (fun x164 => (if xk p163.2 l2 12 = true then (f_X12_simplify p163.2 l2 x164).bind (fun p165 => (if xk p165.2 l2 12 = true then (f_X12_thrown p165.2 l2).bind (fun p166 => (if p166 = p163.1 then (if p163.1 = (0 : Int32) then (aJ p165.2 l3 (0 : Int32)).bind (fun x167 => (if (lg_cmp x167 ((p165.1).toInt64)) = (0 : Int32) then f_L_law_j1627 aC p165.2 l0 l1 l2 l3 l4 else some (Sum.inl ((0 : Int32), p165.2)))) else f_L_law_j1627 aC p165.2 l0 l1 l2 l3 l4) else some (Sum.inl ((0 : Int32), p165.2)))) else none)) else none)))) else (if v2 = (24 : Int32) then (xLd aC (l4 + (1 : Int32))).bind (fun x168 => (xLd aC (l4 + (2 : Int32))).bind (fun x169 => (f_L_trace σ l1 x168 x169 l3).bind (fun p170 => (xLd aC (l4 + (1 : Int32))).bind (fun x171 => (xLd aC (l4 + (2 : Int32))).bind (fun x172 => (if xk p170.2 l2 12 = true then (f_X12_trace p170.2 l2 x171 x172).bind (fun p173 => (if xk p173.2 l2 12 = true then (f_X12_thrown p173.2 l2).bind (fun p174 => (if p174 = p170.1 then (if p170.1 = (0 : Int32) then (aJ p173.2 l3 (0 : Int32)).bind (fun x175 => (if (lg_cmp x175 ((p173.1).toInt64)) = (0 : Int32) then f_L_law_j1695 aC p173.2 l0 l1 l2 l3 l4 else some (Sum.inl ((0 : Int32), p173.2)))) else f_L_law_j1695 aC p173.2 l0 l1 l2 l3 l4) else some (Sum.inl ((0 : Int32), p173.2)))) else none)) else none)))))) else (if v2 = (25 : Int32) then (xLd aC (l4 + (1 : Int32))).bind (fun x176 => (xLd aC (l4 + (2 : Int32))).bind (fun x177 => (f_L_gather σ l1 x176 (((x177).toUInt32 % 65536).toInt32) l3).bind (fun p178 => (xLd aC (l4 + (1 : Int32))).bind (fun x179 => (xLd aC (l4 + (2 : Int32))).bind (fun x180 => (if xk p178.2 l2 12 = true then (f_X12_gather p178.2 l2 x179 (((x180).toUInt32 % 65536).toInt32)).bind (fun p181 => (if xk p181.2 l2 12 = true then (f_X12_thrown p181.2 l2).bind (fun p182 => (if p182 = p178.1 then (if p178.1 = (0 : Int32) then (aJ p181.2 l3 (0 : Int32)).bind (fun x183 => (if (lg_cmp x183 ((p181.1).toInt64)) = (0 : Int32) then f_L_law_j1765 aC p181.2 l0 l1 l2 l3 l4 else some (Sum.inl ((0 : Int32), p181.2)))) else f_L_law_j1765 aC p181.2 l0 l1 l2 l3 l4) else some (Sum.inl ((0 : Int32), p181.2)))) else none)) else none)))))) else (if v2 = (26 : Int32) then (xLd aC (l4 + (1 : Int32))).bind (fun x184 => (f_L_coefficient σ l1 x184 l3).bind (fun p185 => (xLd aC (l4 + (1 : Int32))).bind (fun x186 => (if xk p185.2 l2 12 = true then (f_X12_coefficient p185.2 l2 x186).bind (fun p187 => (if xk p187.2 l2 12 = true then (f_X12_thrown p187.2 l2).bind (fun p188 => (if p188 = p185.1 then (if p185.1 = (0 : Int32) then (aJ p187.2 l3 (0 : Int32)).bind (fun x189 => (if p187.1 = (0 : Int32) then f_L_law_j1822 aC p187.2 l0 l1 l2 l3 l4 (0 : Int64) x189 else f_L_law_j1822 aC p187.2 l0 l1 l2 l3 l4 (1 : Int64) x189)) else f_L_law_j1828 aC p187.2 l0 l1 l2 l3 l4) else some (Sum.inl ((0 : Int32), p187.2)))) else none)) else none)))) else (if v2 = (27 : Int32) then (xLd aC (l4 + (1 : Int32))).bind (fun x190 => (xLd aC (l4 + (2 : Int32))).bind (fun x191 => (f_L_derive σ l1 x190 (((x191).toUInt32 % 65536).toInt32) l3).bind (fun p192 => (xLd aC (l4 + (1 : Int32))).bind (fun x193 => (xLd aC (l4 + (2 : Int32))).bind (fun x194 => (if xk p192.2 l2 12 = true then (f_X12_derive p192.2 l2 x193 (((x194).toUInt32 % 65536).toInt32)).bind (fun p195 => (if xk p195.2 l2 12 = true then (f_X12_thrown p195.2 l2).bind (fun p196 => (if p196 = p192.1 then (if p192.1 = (0 : Int32) then (aJ p195.2 l3 (0 : Int32)).bind (fun x197 => (if (lg_cmp x197 ((p195.1).toInt64)) = (0 : Int32) then f_L_law_j1898 aC p195.2 l0 l1 l2 l3 l4 else some (Sum.inl ((0 : Int32), p195.2)))) else f_L_law_j1898 aC p195.2 l0 l1 l2 l3 l4) else some (Sum.inl ((0 : Int32), p195.2)))) else none)) else none)))))) else (if v2 = (28 : Int32) then (xLd aC (l4 + (1 : Int32))).bind (fun x198 => (xLd aC (l4 + (2 : Int32))).bind (fun x199 => (f_L_slope σ l1 x198 (((x199).toUInt32 % 65536).toInt32) l3).bind (fun p200 => (xLd aC (l4 + (1 : Int32))).bind (fun x201 => (xLd aC (l4 + (2 : Int32))).bind (fun x202 => (if xk p200.2 l2 12 = true then (f_X12_slope p200.2 l2 x201 (((x202).toUInt32 % 65536).toInt32)).bind (fun p203 => (if xk p203.2 l2 12 = true then (f_X12_thrown p203.2 l2).bind (fun p204 => (if p204 = p200.1 then (if p200.1 = (0 : Int32) then (aJ p203.2 l3 (0 : Int32)).bind (fun x205 => (if (lg_cmp x205 ((p203.1).toInt64)) = (0 : Int32) then f_L_law_j1968 aC p203.2 l0 l1 l2 l3 l4 else some (Sum.inl ((0 : Int32), p203.2)))) else f_L_law_j1968 aC p203.2 l0 l1 l2 l3 l4) else some (Sum.inl ((0 : Int32), p203.2)))) else none)) else none)))))) else (if v2 = (29 : Int32) then (xLd aC (l4 + (1 : Int32))).bind (fun x206 => (xLd aC (l4 + (2 : Int32))).bind (fun x207 => (f_L_solve σ l1 x206 (((x207).toUInt32 % 65536).toInt32) l3).bind (fun p208 => (xLd aC (l4 + (1 : Int32))).bind (fun x209 => (xLd aC (l4 + (2 : Int32))).bind (fun x210 => (if xk p208.2 l2 12 = true then (f_X12_solve p208.2 l2 x209 (((x210).toUInt32 % 65536).toInt32)).bind (fun p211 => (if xk p211.2 l2 12 = true then (f_X12_thrown p211.2 l2).bind (fun p212 => (if p212 = p208.1 then (if p208.1 = (0 : Int32) then (aJ p211.2 l3 (0 : Int32)).bind (fun x213 => (if (lg_cmp x213 ((p211.1).toInt64)) = (0 : Int32) then f_L_law_j2038 aC p211.2 l0 l1 l2 l3 l4 else some (Sum.inl ((0 : Int32), p211.2)))) else f_L_law_j2038 aC p211.2 l0 l1 l2 l3 l4) else some (Sum.inl ((0 : Int32), p211.2)))) else none)) else none)))))) else (if v2 = (30 : Int32) then (if xk σ l1 11 = true then (f_X11_undo σ l1).bind (fun p214 => (if xk p214.2 l2 12 = true then (f_X12_undo p214.2 l2).bind (fun p215 => (if p214.1 = p215.1 then f_L_law_j2129 aC p215.2 l0 l1 l2 l3 l4 else some (Sum.inl ((0 : Int32), p215.2)))) else none)) else none) else (if v2 = (31 : Int32) then (xLd aC (l4 + (1 : Int32))).bind (fun x216 => (xLd aC (l4 + (2 : Int32))).bind (fun x217 => (f_L_audit σ l1 x216 x217 l3).bind (fun p218 => (xLd aC (l4 + (1 : Int32))).bind (fun x219 => (xLd aC (l4 + (2 : Int32))).bind (fun x220 => (if xk p218.2 l2 12 = true then (f_X12_audit p218.2 l2 x219 x220).bind (fun p221 => (if xk p221.2 l2 12 = true then (f_X12_thrown p221.2 l2).bind (fun p222 => (if p222 = p218.1 then (if p218.1 = (0 : Int32) then (aJ p221.2 l3 (0 : Int32)).bind (fun x223 => (if p221.1 = (0 : Int32) then f_L_law_j2120 aC p221.2 l0 l1 l2 l3 l4 (0 : Int64) x223 else f_L_law_j2120 aC p221.2 l0 l1 l2 l3 l4 (1 : Int64) x223)) else f_L_law_j2126 aC p221.2 l0 l1 l2 l3 l4) else some (Sum.inl ((0 : Int32), p221.2)))) else none)) else none)))))) else f_L_law_j2129 aC σ l0 l1 l2 l3 l4)))))))))))))))))))))))))))))))))))))))))
set_option maxHeartbeats 4000000 in
set_option maxRecDepth 20000 in
theorem L_L_law_s23 {G : xG} {π : Nat → Nat} {d C Z : Nat} {Q : xQ} (σ : xM) (l0 : Nat) (l1 : Nat) (l2 : Nat) (l3 : Nat) (l4 : Int32) {x : ((Int32 × xM) ⊕ ((xM) ⊕ (Nat × Nat × Nat × Nat × Int32 × xM)))} (hf : f_L_law_s23 (G.2.2.1) (l0, l1, l2, l3, l4, σ) = some x) (hR : ∀ g, x = Sum.inl (g) → Q (.inl (some (.int g.1))) (g.2) π) (hE : ∀ e : (xM), x = Sum.inr (Sum.inl e) → xMach G π J_L_law (d + 410) C Z 2135 [] [] e Q) (hC : ∀ e : (Nat × Nat × Nat × Nat × Int32 × xM), x = Sum.inr (Sum.inr e) → xMach G π J_L_law (d + 410) C Z 23 [(0, .ref xkX), (1, .ref e.2.1), (2, .ref e.2.2.1), (3, .ref e.2.2.2.1), (4, .int e.2.2.2.2.1)] [] e.2.2.2.2.2 Q) : xMach G π J_L_law (d + 410) (1 + C) (6 + Z) 23 [(0, .ref xkX), (1, .ref l1), (2, .ref l2), (3, .ref l3), (4, .int l4)] [] σ Q := by
  have hf : (if ((Int32.ofNat ((G.2.2.1) 104)) - (6 : Int32)) < l4 then some (Sum.inr (Sum.inl σ)) else (xLd (G.2.2.1) l4).bind (fun x1 => xlet (x1 &&& (31 : Int32)) (fun v2 => (if v2 = (0 : Int32) then (xLd (G.2.2.1) (l4 + (1 : Int32))).bind (fun x4 => (f_L_type σ l1 (((x4).toUInt32 % 65536).toInt32) l3).bind (fun p5 => (xLd (G.2.2.1) (l4 + (1 : Int32))).bind (fun x6 => (if xk p5.2 l2 12 = true then (f_X12_type p5.2 l2 (((x6).toUInt32 % 65536).toInt32)).bind (fun p7 => (if xk p7.2 l2 12 = true then (f_X12_thrown p7.2 l2).bind (fun p8 => (if p8 = p5.1 then (if p5.1 = (0 : Int32) then (aJ p7.2 l3 (0 : Int32)).bind (fun x9 => (if (lg_cmp x9 ((p7.1).toInt64)) = (0 : Int32) then f_L_law_j239 (G.2.2.1) p7.2 l0 l1 l2 l3 l4 else some (Sum.inl ((0 : Int32), p7.2)))) else f_L_law_j239 (G.2.2.1) p7.2 l0 l1 l2 l3 l4) else some (Sum.inl ((0 : Int32), p7.2)))) else none)) else none)))) else (if v2 = (1 : Int32) then (if xk σ l1 11 = true then (f_X11_drop σ l1).bind (fun p10 => (if xk p10.2 l2 12 = true then (f_X12_drop p10.2 l2).bind (fun p11 => (if p10.1 = p11.1 then f_L_law_j2129 (G.2.2.1) p11.2 l0 l1 l2 l3 l4 else some (Sum.inl ((0 : Int32), p11.2)))) else none)) else none) else (if v2 = (2 : Int32) then (if xk σ l1 11 = true then (f_X11_fault σ l1).bind (fun p12 => (if xk p12.2 l2 12 = true then (f_X12_fault p12.2 l2).bind (fun p13 => (if p12.1 = p13.1 then f_L_law_j2129 (G.2.2.1) p13.2 l0 l1 l2 l3 l4 else some (Sum.inl ((0 : Int32), p13.2)))) else none)) else none) else (if v2 = (3 : Int32) then (f_L_read σ l1 l3).bind (fun p14 => (if xk p14.2 l2 12 = true then (f_X12_read p14.2 l2).bind (fun p15 => (if xk p15.2 l2 12 = true then (f_X12_thrown p15.2 l2).bind (fun p16 => (if p16 = p14.1 then (if p14.1 = (0 : Int32) then (aJ p15.2 l3 (0 : Int32)).bind (fun x17 => (if (lg_cmp x17 ((p15.1).toInt64)) = (0 : Int32) then f_L_law_j309 (G.2.2.1) p15.2 l0 l1 l2 l3 l4 else some (Sum.inl ((0 : Int32), p15.2)))) else f_L_law_j309 (G.2.2.1) p15.2 l0 l1 l2 l3 l4) else some (Sum.inl ((0 : Int32), p15.2)))) else none)) else none)) else (if v2 = (4 : Int32) then (if xk σ l1 11 = true then (f_X11_trees σ l1).bind (fun p18 => (if xk σ l2 12 = true then (f_X12_trees σ l2).bind (fun p19 => (if p18 = p19.1 then f_L_law_j2129 (G.2.2.1) p19.2 l0 l1 l2 l3 l4 else some (Sum.inl ((0 : Int32), p19.2)))) else none)) else none) else (if v2 = (5 : Int32) then (xLd (G.2.2.1) (l4 + (1 : Int32))).bind (fun x20 => (xLd (G.2.2.1) (l4 + (2 : Int32))).bind (fun x21 => (xLd (G.2.2.1) (l4 + (3 : Int32))).bind (fun x22 => (f_L_node σ l1 x20 x21 x22 l3).bind (fun p23 => (xLd (G.2.2.1) (l4 + (1 : Int32))).bind (fun x24 => (xLd (G.2.2.1) (l4 + (2 : Int32))).bind (fun x25 => (xLd (G.2.2.1) (l4 + (3 : Int32))).bind (fun x26 => (if xk p23.2 l2 12 = true then (f_X12_node_ p23.2 l2 x24 x25 x26).bind (fun p27 => (if xk p27.2 l2 12 = true then (f_X12_thrown p27.2 l2).bind (fun p28 => (if p28 = p23.1 then (if p23.1 = (0 : Int32) then (aJ p27.2 l3 (0 : Int32)).bind (fun x29 => (if (lg_cmp x29 ((p27.1).toInt64)) = (0 : Int32) then f_L_law_j402 (G.2.2.1) p27.2 l0 l1 l2 l3 l4 else some (Sum.inl ((0 : Int32), p27.2)))) else f_L_law_j402 (G.2.2.1) p27.2 l0 l1 l2 l3 l4) else some (Sum.inl ((0 : Int32), p27.2)))) else none)) else none)))))))) else (if v2 = (6 : Int32) then (xLd (G.2.2.1) (l4 + (1 : Int32))).bind (fun x30 => (xLd (G.2.2.1) (l4 + (2 : Int32))).bind (fun x31 => (f_L_isSame σ l1 x30 x31 l3).bind (fun p32 => (xLd (G.2.2.1) (l4 + (1 : Int32))).bind (fun x33 => (xLd (G.2.2.1) (l4 + (2 : Int32))).bind (fun x34 => (if xk p32.2 l2 12 = true then (f_X12_isSame p32.2 l2 x33 x34).bind (fun p35 => (if xk p35.2 l2 12 = true then (f_X12_thrown p35.2 l2).bind (fun p36 => (if p36 = p32.1 then (if p32.1 = (0 : Int32) then (aJ p35.2 l3 (0 : Int32)).bind (fun x37 => (if p35.1 = (0 : Int32) then f_L_law_j471 (G.2.2.1) p35.2 l0 l1 l2 l3 l4 (0 : Int64) x37 else f_L_law_j471 (G.2.2.1) p35.2 l0 l1 l2 l3 l4 (1 : Int64) x37)) else f_L_law_j477 (G.2.2.1) p35.2 l0 l1 l2 l3 l4) else some (Sum.inl ((0 : Int32), p35.2)))) else none)) else none)))))) else (if v2 = (7 : Int32) then (xLd (G.2.2.1) (l4 + (1 : Int32))).bind (fun x38 => (xLd (G.2.2.1) (l4 + (2 : Int32))).bind (fun x39 => (f_L_part σ l1 x38 x39 l3).bind (fun p40 => (xLd (G.2.2.1) (l4 + (1 : Int32))).bind (fun x41 => (xLd (G.2.2.1) (l4 + (2 : Int32))).bind (fun x42 => (if xk p40.2 l2 12 = true then (f_X12_part p40.2 l2 x41 x42).bind (fun p43 => (if xk p43.2 l2 12 = true then (f_X12_thrown p43.2 l2).bind (fun p44 => (if p44 = p40.1 then (if p40.1 = (0 : Int32) then (aJ p43.2 l3 (0 : Int32)).bind (fun x45 => (if (lg_cmp x45 ((p43.1).toInt64)) = (0 : Int32) then f_L_law_j545 (G.2.2.1) p43.2 l0 l1 l2 l3 l4 else some (Sum.inl ((0 : Int32), p43.2)))) else f_L_law_j545 (G.2.2.1) p43.2 l0 l1 l2 l3 l4) else some (Sum.inl ((0 : Int32), p43.2)))) else none)) else none)))))) else (if v2 = (8 : Int32) then (xLd (G.2.2.1) (l4 + (1 : Int32))).bind (fun x46 => (xLd (G.2.2.1) (l4 + (2 : Int32))).bind (fun x47 => (xLd (G.2.2.1) (l4 + (3 : Int32))).bind (fun x48 => (f_L_graft σ l1 x46 (((x47).toUInt32 % 65536).toInt32) x48 l3).bind (fun p49 => (xLd (G.2.2.1) (l4 + (1 : Int32))).bind (fun x50 => (xLd (G.2.2.1) (l4 + (2 : Int32))).bind (fun x51 => (xLd (G.2.2.1) (l4 + (3 : Int32))).bind (fun x52 => (if xk p49.2 l2 12 = true then (f_X12_graft p49.2 l2 x50 (((x51).toUInt32 % 65536).toInt32) x52).bind (fun p53 => (if xk p53.2 l2 12 = true then (f_X12_thrown p53.2 l2).bind (fun p54 => (if p54 = p49.1 then (if p49.1 = (0 : Int32) then (aJ p53.2 l3 (0 : Int32)).bind (fun x55 => (if (lg_cmp x55 ((p53.1).toInt64)) = (0 : Int32) then f_L_law_j627 (G.2.2.1) p53.2 l0 l1 l2 l3 l4 else some (Sum.inl ((0 : Int32), p53.2)))) else f_L_law_j627 (G.2.2.1) p53.2 l0 l1 l2 l3 l4) else some (Sum.inl ((0 : Int32), p53.2)))) else none)) else none)))))))) else (if v2 = (9 : Int32) then (xLd (G.2.2.1) (l4 + (1 : Int32))).bind (fun x56 => (xLd (G.2.2.1) (l4 + (2 : Int32))).bind (fun x57 => (xLd (G.2.2.1) (l4 + (3 : Int32))).bind (fun x58 => (xLd (G.2.2.1) (l4 + (4 : Int32))).bind (fun x59 => (xLd (G.2.2.1) (l4 + (5 : Int32))).bind (fun x60 => (f_L_tell σ l1 (((x56).toUInt32 % 65536).toInt32) x57 x58 x59 x60 l3).bind (fun p61 => (xLd (G.2.2.1) (l4 + (1 : Int32))).bind (fun x62 => (xLd (G.2.2.1) (l4 + (2 : Int32))).bind (fun x63 => (xLd (G.2.2.1) (l4 + (3 : Int32))).bind (fun x64 => (xLd (G.2.2.1) (l4 + (4 : Int32))).bind (fun x65 => (xLd (G.2.2.1) (l4 + (5 : Int32))).bind (fun x66 => (if xk p61.2 l2 12 = true then (f_X12_tell p61.2 l2 (((x62).toUInt32 % 65536).toInt32) x63 x64 x65 x66).bind (fun p67 => (if xk p67.2 l2 12 = true then (f_X12_thrown p67.2 l2).bind (fun p68 => (if p68 = p61.1 then (if p61.1 = (0 : Int32) then (aJ p67.2 l3 (0 : Int32)).bind (fun x69 => (if (lg_cmp x69 ((p67.1).toInt64)) = (0 : Int32) then f_L_law_j733 (G.2.2.1) p67.2 l0 l1 l2 l3 l4 else some (Sum.inl ((0 : Int32), p67.2)))) else f_L_law_j733 (G.2.2.1) p67.2 l0 l1 l2 l3 l4) else some (Sum.inl ((0 : Int32), p67.2)))) else none)) else none)))))))))))) else (if v2 = (10 : Int32) then (xLd (G.2.2.1) (l4 + (1 : Int32))).bind (fun x70 => (xLd (G.2.2.1) (l4 + (2 : Int32))).bind (fun x71 => (xLd (G.2.2.1) (l4 + (3 : Int32))).bind (fun x72 => (f_L_told σ l1 (((x70).toUInt32 % 65536).toInt32) x71 x72 l3).bind (fun p73 => (xLd (G.2.2.1) (l4 + (1 : Int32))).bind (fun x74 => (xLd (G.2.2.1) (l4 + (2 : Int32))).bind (fun x75 => (xLd (G.2.2.1) (l4 + (3 : Int32))).bind (fun x76 => (if xk p73.2 l2 12 = true then (f_X12_told p73.2 l2 (((x74).toUInt32 % 65536).toInt32) x75 x76).bind (fun p77 => (if xk p77.2 l2 12 = true then (f_X12_thrown p77.2 l2).bind (fun p78 => (if p78 = p73.1 then (if p73.1 = (0 : Int32) then (aJ p77.2 l3 (0 : Int32)).bind (fun x79 => (if (lg_cmp x79 ((p77.1).toInt64)) = (0 : Int32) then f_L_law_j815 (G.2.2.1) p77.2 l0 l1 l2 l3 l4 else some (Sum.inl ((0 : Int32), p77.2)))) else f_L_law_j815 (G.2.2.1) p77.2 l0 l1 l2 l3 l4) else some (Sum.inl ((0 : Int32), p77.2)))) else none)) else none)))))))) else (if v2 = (11 : Int32) then (xLd (G.2.2.1) (l4 + (1 : Int32))).bind (fun x80 => (f_L_print σ l1 x80 l3).bind (fun p81 => (xLd (G.2.2.1) (l4 + (1 : Int32))).bind (fun x82 => (if xk p81.2 l2 12 = true then (f_X12_print p81.2 l2 x82).bind (fun p83 => (if xk p83.2 l2 12 = true then (f_X12_thrown p83.2 l2).bind (fun p84 => (if p84 = p81.1 then (if p81.1 = (0 : Int32) then (aJ p83.2 l3 (0 : Int32)).bind (fun x85 => (if (lg_cmp x85 ((p83.1).toInt64)) = (0 : Int32) then f_L_law_j871 (G.2.2.1) p83.2 l0 l1 l2 l3 l4 else some (Sum.inl ((0 : Int32), p83.2)))) else f_L_law_j871 (G.2.2.1) p83.2 l0 l1 l2 l3 l4) else some (Sum.inl ((0 : Int32), p83.2)))) else none)) else none)))) else (if v2 = (12 : Int32) then (xLd (G.2.2.1) (l4 + (1 : Int32))).bind (fun x86 => (f_L_postfix σ l1 x86 l3).bind (fun p87 => (xLd (G.2.2.1) (l4 + (1 : Int32))).bind (fun x88 => (if xk p87.2 l2 12 = true then (f_X12_postfix p87.2 l2 x88).bind (fun p89 => (if xk p89.2 l2 12 = true then (f_X12_thrown p89.2 l2).bind (fun p90 => (if p90 = p87.1 then (if p87.1 = (0 : Int32) then (aJ p89.2 l3 (0 : Int32)).bind (fun x91 => (if (lg_cmp x91 ((p89.1).toInt64)) = (0 : Int32) then f_L_law_j927 (G.2.2.1) p89.2 l0 l1 l2 l3 l4 else some (Sum.inl ((0 : Int32), p89.2)))) else f_L_law_j927 (G.2.2.1) p89.2 l0 l1 l2 l3 l4) else some (Sum.inl ((0 : Int32), p89.2)))) else none)) else none)))) else (if v2 = (13 : Int32) then (xLd (G.2.2.1) (l4 + (1 : Int32))).bind (fun x92 => (f_L_out σ l1 x92 l3).bind (fun p93 => (xLd (G.2.2.1) (l4 + (1 : Int32))).bind (fun x94 => (if xk p93.2 l2 12 = true then (f_X12_out p93.2 l2 x94).bind (fun p95 => (if xk p95.2 l2 12 = true then (f_X12_thrown p95.2 l2).bind (fun p96 => (if p96 = p93.1 then (if p93.1 = (0 : Int32) then (aJ p95.2 l3 (0 : Int32)).bind (fun x97 => (if (lg_cmp x97 ((p95.1).toInt64)) = (0 : Int32) then f_L_law_j983 (G.2.2.1) p95.2 l0 l1 l2 l3 l4 else some (Sum.inl ((0 : Int32), p95.2)))) else f_L_law_j983 (G.2.2.1) p95.2 l0 l1 l2 l3 l4) else some (Sum.inl ((0 : Int32), p95.2)))) else none)) else none)))) else (if v2 = (14 : Int32) then (xLd (G.2.2.1) (l4 + (1 : Int32))).bind (fun x98 => (f_L_evaluate σ l1 x98 l3).bind (fun p99 => (xLd (G.2.2.1) (l4 + (1 : Int32))).bind (fun x100 => (if xk p99.2 l2 12 = true then (f_X12_evaluate p99.2 l2 x100).bind (fun p101 => (if xk p101.2 l2 12 = true then (f_X12_thrown p101.2 l2).bind (fun p102 => (if p102 = p99.1 then (if p99.1 = (0 : Int32) then (aJ p101.2 l3 (0 : Int32)).bind (fun x103 => (if (lg_cmp x103 ((p101.1).toInt64)) = (0 : Int32) then f_L_law_j1039 (G.2.2.1) p101.2 l0 l1 l2 l3 l4 else some (Sum.inl ((0 : Int32), p101.2)))) else f_L_law_j1039 (G.2.2.1) p101.2 l0 l1 l2 l3 l4) else some (Sum.inl ((0 : Int32), p101.2)))) else none)) else none)))) else (if v2 = (15 : Int32) then (xLd (G.2.2.1) (l4 + (1 : Int32))).bind (fun x104 => (f_L_reckon σ l1 x104 l3).bind (fun p105 => (xLd (G.2.2.1) (l4 + (1 : Int32))).bind (fun x106 => (if xk p105.2 l2 12 = true then (f_X12_reckon p105.2 l2 x106).bind (fun p107 => (if xk p107.2 l2 12 = true then (f_X12_thrown p107.2 l2).bind (fun p108 => (if p108 = p105.1 then (if p105.1 = (0 : Int32) then (aJ p107.2 l3 (0 : Int32)).bind (fun x109 => (if (lg_cmp x109 ((p107.1).toInt64)) = (0 : Int32) then f_L_law_j1095 (G.2.2.1) p107.2 l0 l1 l2 l3 l4 else some (Sum.inl ((0 : Int32), p107.2)))) else f_L_law_j1095 (G.2.2.1) p107.2 l0 l1 l2 l3 l4) else some (Sum.inl ((0 : Int32), p107.2)))) else none)) else none)))) else (if v2 = (16 : Int32) then (xLd (G.2.2.1) (l4 + (1 : Int32))).bind (fun x110 => (xLd (G.2.2.1) (l4 + (2 : Int32))).bind (fun x111 => (f_L_answer σ l1 x110 x111 l3).bind (fun p112 => (xLd (G.2.2.1) (l4 + (1 : Int32))).bind (fun x113 => (xLd (G.2.2.1) (l4 + (2 : Int32))).bind (fun x114 => (if xk p112.2 l2 12 = true then (f_X12_answer p112.2 l2 x113 x114).bind (fun p115 => (if xk p115.2 l2 12 = true then (f_X12_thrown p115.2 l2).bind (fun p116 => (if p116 = p112.1 then (if p112.1 = (0 : Int32) then (aJ p115.2 l3 (0 : Int32)).bind (fun x117 => (if (lg_cmp x117 ((p115.1).toInt64)) = (0 : Int32) then f_L_law_j1163 (G.2.2.1) p115.2 l0 l1 l2 l3 l4 else some (Sum.inl ((0 : Int32), p115.2)))) else f_L_law_j1163 (G.2.2.1) p115.2 l0 l1 l2 l3 l4) else some (Sum.inl ((0 : Int32), p115.2)))) else none)) else none)))))) else (if v2 = (17 : Int32) then (xLd (G.2.2.1) (l4 + (1 : Int32))).bind (fun x118 => (xLd (G.2.2.1) (l4 + (2 : Int32))).bind (fun x119 => (f_L_let σ l1 (((x118).toUInt32 % 65536).toInt32) x119 l3).bind (fun p120 => (xLd (G.2.2.1) (l4 + (1 : Int32))).bind (fun x121 => (xLd (G.2.2.1) (l4 + (2 : Int32))).bind (fun x122 => (if xk p120.2 l2 12 = true then (f_X12_let p120.2 l2 (((x121).toUInt32 % 65536).toInt32) x122).bind (fun p123 => (if xk p123.2 l2 12 = true then (f_X12_thrown p123.2 l2).bind (fun p124 => (if p124 = p120.1 then (if p120.1 = (0 : Int32) then (aJ p123.2 l3 (0 : Int32)).bind (fun x125 => (if (lg_cmp x125 ((p123.1).toInt64)) = (0 : Int32) then f_L_law_j1233 (G.2.2.1) p123.2 l0 l1 l2 l3 l4 else some (Sum.inl ((0 : Int32), p123.2)))) else f_L_law_j1233 (G.2.2.1) p123.2 l0 l1 l2 l3 l4) else some (Sum.inl ((0 : Int32), p123.2)))) else none)) else none)))))) else (if v2 = (18 : Int32) then (xLd (G.2.2.1) (l4 + (1 : Int32))).bind (fun x126 => (f_L_unlet σ l1 (((x126).toUInt32 % 65536).toInt32) l3).bind (fun p127 => (xLd (G.2.2.1) (l4 + (1 : Int32))).bind (fun x128 => (if xk p127.2 l2 12 = true then (f_X12_unlet p127.2 l2 (((x128).toUInt32 % 65536).toInt32)).bind (fun p129 => (if xk p129.2 l2 12 = true then (f_X12_thrown p129.2 l2).bind (fun p130 => (if p130 = p127.1 then (if p127.1 = (0 : Int32) then (aJ p129.2 l3 (0 : Int32)).bind (fun x131 => (if p129.1 = (0 : Int32) then f_L_law_j1292 (G.2.2.1) p129.2 l0 l1 l2 l3 l4 (0 : Int64) x131 else f_L_law_j1292 (G.2.2.1) p129.2 l0 l1 l2 l3 l4 (1 : Int64) x131)) else f_L_law_j1298 (G.2.2.1) p129.2 l0 l1 l2 l3 l4) else some (Sum.inl ((0 : Int32), p129.2)))) else none)) else none)))) else (if v2 = (19 : Int32) then (xLd (G.2.2.1) (l4 + (1 : Int32))).bind (fun x132 => (f_L_recall σ l1 (((x132).toUInt32 % 65536).toInt32) l3).bind (fun p133 => (xLd (G.2.2.1) (l4 + (1 : Int32))).bind (fun x134 => (if xk p133.2 l2 12 = true then (f_X12_recall p133.2 l2 (((x134).toUInt32 % 65536).toInt32)).bind (fun p135 => (if xk p135.2 l2 12 = true then (f_X12_thrown p135.2 l2).bind (fun p136 => (if p136 = p133.1 then (if p133.1 = (0 : Int32) then (aJ p135.2 l3 (0 : Int32)).bind (fun x137 => (if p135.1 = (0 : Int32) then f_L_law_j1357 (G.2.2.1) p135.2 l0 l1 l2 l3 l4 (0 : Int64) x137 else f_L_law_j1357 (G.2.2.1) p135.2 l0 l1 l2 l3 l4 (1 : Int64) x137)) else f_L_law_j1363 (G.2.2.1) p135.2 l0 l1 l2 l3 l4) else some (Sum.inl ((0 : Int32), p135.2)))) else none)) else none)))) else (if v2 = (20 : Int32) then (xLd (G.2.2.1) (l4 + (1 : Int32))).bind (fun x138 => (xLd (G.2.2.1) (l4 + (2 : Int32))).bind (fun x139 => (f_L_define σ l1 (((x138).toUInt32 % 65536).toInt32) x139 l3).bind (fun p140 => (xLd (G.2.2.1) (l4 + (1 : Int32))).bind (fun x141 => (xLd (G.2.2.1) (l4 + (2 : Int32))).bind (fun x142 => (if xk p140.2 l2 12 = true then (f_X12_define p140.2 l2 (((x141).toUInt32 % 65536).toInt32) x142).bind (fun p143 => (if xk p143.2 l2 12 = true then (f_X12_thrown p143.2 l2).bind (fun p144 => (if p144 = p140.1 then (if p140.1 = (0 : Int32) then (aJ p143.2 l3 (0 : Int32)).bind (fun x145 => (if (lg_cmp x145 ((p143.1).toInt64)) = (0 : Int32) then f_L_law_j1433 (G.2.2.1) p143.2 l0 l1 l2 l3 l4 else some (Sum.inl ((0 : Int32), p143.2)))) else f_L_law_j1433 (G.2.2.1) p143.2 l0 l1 l2 l3 l4) else some (Sum.inl ((0 : Int32), p143.2)))) else none)) else none)))))) else (if v2 = (21 : Int32) then (xLd (G.2.2.1) (l4 + (1 : Int32))).bind (fun x146 => (xLd (G.2.2.1) (l4 + (2 : Int32))).bind (fun x147 => (xLd (G.2.2.1) (l4 + (3 : Int32))).bind (fun x148 => (f_L_addCase σ l1 (((x146).toUInt32 % 65536).toInt32) x147 x148 l3).bind (fun p149 => (xLd (G.2.2.1) (l4 + (1 : Int32))).bind (fun x150 => (xLd (G.2.2.1) (l4 + (2 : Int32))).bind (fun x151 => (xLd (G.2.2.1) (l4 + (3 : Int32))).bind (fun x152 => (if xk p149.2 l2 12 = true then (f_X12_addCase p149.2 l2 (((x150).toUInt32 % 65536).toInt32) x151 x152).bind (fun p153 => (if xk p153.2 l2 12 = true then (f_X12_thrown p153.2 l2).bind (fun p154 => (if p154 = p149.1 then (if p149.1 = (0 : Int32) then (aJ p153.2 l3 (0 : Int32)).bind (fun x155 => (if (lg_cmp x155 ((p153.1).toInt64)) = (0 : Int32) then f_L_law_j1515 (G.2.2.1) p153.2 l0 l1 l2 l3 l4 else some (Sum.inl ((0 : Int32), p153.2)))) else f_L_law_j1515 (G.2.2.1) p153.2 l0 l1 l2 l3 l4) else some (Sum.inl ((0 : Int32), p153.2)))) else none)) else none)))))))) else (if v2 = (22 : Int32) then (xLd (G.2.2.1) (l4 + (1 : Int32))).bind (fun x156 => (f_L_step σ l1 x156 l3).bind (fun p157 => (xLd (G.2.2.1) (l4 + (1 : Int32))).bind (fun x158 => (if xk p157.2 l2 12 = true then (f_X12_step p157.2 l2 x158).bind (fun p159 => (if xk p159.2 l2 12 = true then (f_X12_thrown p159.2 l2).bind (fun p160 => (if p160 = p157.1 then (if p157.1 = (0 : Int32) then (aJ p159.2 l3 (0 : Int32)).bind (fun x161 => (if (lg_cmp x161 ((p159.1).toInt64)) = (0 : Int32) then f_L_law_j1571 (G.2.2.1) p159.2 l0 l1 l2 l3 l4 else some (Sum.inl ((0 : Int32), p159.2)))) else f_L_law_j1571 (G.2.2.1) p159.2 l0 l1 l2 l3 l4) else some (Sum.inl ((0 : Int32), p159.2)))) else none)) else none)))) else (if v2 = (23 : Int32) then (xLd (G.2.2.1) (l4 + (1 : Int32))).bind (fun x162 => (f_L_simplify σ l1 x162 l3).bind (fun p163 => (xLd (G.2.2.1) (l4 + (1 : Int32))).bind (fun x164 => (if xk p163.2 l2 12 = true then (f_X12_simplify p163.2 l2 x164).bind (fun p165 => (if xk p165.2 l2 12 = true then (f_X12_thrown p165.2 l2).bind (fun p166 => (if p166 = p163.1 then (if p163.1 = (0 : Int32) then (aJ p165.2 l3 (0 : Int32)).bind (fun x167 => (if (lg_cmp x167 ((p165.1).toInt64)) = (0 : Int32) then f_L_law_j1627 (G.2.2.1) p165.2 l0 l1 l2 l3 l4 else some (Sum.inl ((0 : Int32), p165.2)))) else f_L_law_j1627 (G.2.2.1) p165.2 l0 l1 l2 l3 l4) else some (Sum.inl ((0 : Int32), p165.2)))) else none)) else none)))) else (if v2 = (24 : Int32) then (xLd (G.2.2.1) (l4 + (1 : Int32))).bind (fun x168 => (xLd (G.2.2.1) (l4 + (2 : Int32))).bind (fun x169 => (f_L_trace σ l1 x168 x169 l3).bind (fun p170 => (xLd (G.2.2.1) (l4 + (1 : Int32))).bind (fun x171 => (xLd (G.2.2.1) (l4 + (2 : Int32))).bind (fun x172 => (if xk p170.2 l2 12 = true then (f_X12_trace p170.2 l2 x171 x172).bind (fun p173 => (if xk p173.2 l2 12 = true then (f_X12_thrown p173.2 l2).bind (fun p174 => (if p174 = p170.1 then (if p170.1 = (0 : Int32) then (aJ p173.2 l3 (0 : Int32)).bind (fun x175 => (if (lg_cmp x175 ((p173.1).toInt64)) = (0 : Int32) then f_L_law_j1695 (G.2.2.1) p173.2 l0 l1 l2 l3 l4 else some (Sum.inl ((0 : Int32), p173.2)))) else f_L_law_j1695 (G.2.2.1) p173.2 l0 l1 l2 l3 l4) else some (Sum.inl ((0 : Int32), p173.2)))) else none)) else none)))))) else (if v2 = (25 : Int32) then (xLd (G.2.2.1) (l4 + (1 : Int32))).bind (fun x176 => (xLd (G.2.2.1) (l4 + (2 : Int32))).bind (fun x177 => (f_L_gather σ l1 x176 (((x177).toUInt32 % 65536).toInt32) l3).bind (fun p178 => (xLd (G.2.2.1) (l4 + (1 : Int32))).bind (fun x179 => (xLd (G.2.2.1) (l4 + (2 : Int32))).bind (fun x180 => (if xk p178.2 l2 12 = true then (f_X12_gather p178.2 l2 x179 (((x180).toUInt32 % 65536).toInt32)).bind (fun p181 => (if xk p181.2 l2 12 = true then (f_X12_thrown p181.2 l2).bind (fun p182 => (if p182 = p178.1 then (if p178.1 = (0 : Int32) then (aJ p181.2 l3 (0 : Int32)).bind (fun x183 => (if (lg_cmp x183 ((p181.1).toInt64)) = (0 : Int32) then f_L_law_j1765 (G.2.2.1) p181.2 l0 l1 l2 l3 l4 else some (Sum.inl ((0 : Int32), p181.2)))) else f_L_law_j1765 (G.2.2.1) p181.2 l0 l1 l2 l3 l4) else some (Sum.inl ((0 : Int32), p181.2)))) else none)) else none)))))) else (if v2 = (26 : Int32) then (xLd (G.2.2.1) (l4 + (1 : Int32))).bind (fun x184 => (f_L_coefficient σ l1 x184 l3).bind (fun p185 => (xLd (G.2.2.1) (l4 + (1 : Int32))).bind (fun x186 => (if xk p185.2 l2 12 = true then (f_X12_coefficient p185.2 l2 x186).bind (fun p187 => (if xk p187.2 l2 12 = true then (f_X12_thrown p187.2 l2).bind (fun p188 => (if p188 = p185.1 then (if p185.1 = (0 : Int32) then (aJ p187.2 l3 (0 : Int32)).bind (fun x189 => (if p187.1 = (0 : Int32) then f_L_law_j1822 (G.2.2.1) p187.2 l0 l1 l2 l3 l4 (0 : Int64) x189 else f_L_law_j1822 (G.2.2.1) p187.2 l0 l1 l2 l3 l4 (1 : Int64) x189)) else f_L_law_j1828 (G.2.2.1) p187.2 l0 l1 l2 l3 l4) else some (Sum.inl ((0 : Int32), p187.2)))) else none)) else none)))) else (if v2 = (27 : Int32) then (xLd (G.2.2.1) (l4 + (1 : Int32))).bind (fun x190 => (xLd (G.2.2.1) (l4 + (2 : Int32))).bind (fun x191 => (f_L_derive σ l1 x190 (((x191).toUInt32 % 65536).toInt32) l3).bind (fun p192 => (xLd (G.2.2.1) (l4 + (1 : Int32))).bind (fun x193 => (xLd (G.2.2.1) (l4 + (2 : Int32))).bind (fun x194 => (if xk p192.2 l2 12 = true then (f_X12_derive p192.2 l2 x193 (((x194).toUInt32 % 65536).toInt32)).bind (fun p195 => (if xk p195.2 l2 12 = true then (f_X12_thrown p195.2 l2).bind (fun p196 => (if p196 = p192.1 then (if p192.1 = (0 : Int32) then (aJ p195.2 l3 (0 : Int32)).bind (fun x197 => (if (lg_cmp x197 ((p195.1).toInt64)) = (0 : Int32) then f_L_law_j1898 (G.2.2.1) p195.2 l0 l1 l2 l3 l4 else some (Sum.inl ((0 : Int32), p195.2)))) else f_L_law_j1898 (G.2.2.1) p195.2 l0 l1 l2 l3 l4) else some (Sum.inl ((0 : Int32), p195.2)))) else none)) else none)))))) else (if v2 = (28 : Int32) then (xLd (G.2.2.1) (l4 + (1 : Int32))).bind (fun x198 => (xLd (G.2.2.1) (l4 + (2 : Int32))).bind (fun x199 => (f_L_slope σ l1 x198 (((x199).toUInt32 % 65536).toInt32) l3).bind (fun p200 => (xLd (G.2.2.1) (l4 + (1 : Int32))).bind (fun x201 => (xLd (G.2.2.1) (l4 + (2 : Int32))).bind (fun x202 => (if xk p200.2 l2 12 = true then (f_X12_slope p200.2 l2 x201 (((x202).toUInt32 % 65536).toInt32)).bind (fun p203 => (if xk p203.2 l2 12 = true then (f_X12_thrown p203.2 l2).bind (fun p204 => (if p204 = p200.1 then (if p200.1 = (0 : Int32) then (aJ p203.2 l3 (0 : Int32)).bind (fun x205 => (if (lg_cmp x205 ((p203.1).toInt64)) = (0 : Int32) then f_L_law_j1968 (G.2.2.1) p203.2 l0 l1 l2 l3 l4 else some (Sum.inl ((0 : Int32), p203.2)))) else f_L_law_j1968 (G.2.2.1) p203.2 l0 l1 l2 l3 l4) else some (Sum.inl ((0 : Int32), p203.2)))) else none)) else none)))))) else (if v2 = (29 : Int32) then (xLd (G.2.2.1) (l4 + (1 : Int32))).bind (fun x206 => (xLd (G.2.2.1) (l4 + (2 : Int32))).bind (fun x207 => (f_L_solve σ l1 x206 (((x207).toUInt32 % 65536).toInt32) l3).bind (fun p208 => (xLd (G.2.2.1) (l4 + (1 : Int32))).bind (fun x209 => (xLd (G.2.2.1) (l4 + (2 : Int32))).bind (fun x210 => (if xk p208.2 l2 12 = true then (f_X12_solve p208.2 l2 x209 (((x210).toUInt32 % 65536).toInt32)).bind (fun p211 => (if xk p211.2 l2 12 = true then (f_X12_thrown p211.2 l2).bind (fun p212 => (if p212 = p208.1 then (if p208.1 = (0 : Int32) then (aJ p211.2 l3 (0 : Int32)).bind (fun x213 => (if (lg_cmp x213 ((p211.1).toInt64)) = (0 : Int32) then f_L_law_j2038 (G.2.2.1) p211.2 l0 l1 l2 l3 l4 else some (Sum.inl ((0 : Int32), p211.2)))) else f_L_law_j2038 (G.2.2.1) p211.2 l0 l1 l2 l3 l4) else some (Sum.inl ((0 : Int32), p211.2)))) else none)) else none)))))) else (if v2 = (30 : Int32) then (if xk σ l1 11 = true then (f_X11_undo σ l1).bind (fun p214 => (if xk p214.2 l2 12 = true then (f_X12_undo p214.2 l2).bind (fun p215 => (if p214.1 = p215.1 then f_L_law_j2129 (G.2.2.1) p215.2 l0 l1 l2 l3 l4 else some (Sum.inl ((0 : Int32), p215.2)))) else none)) else none) else (if v2 = (31 : Int32) then (xLd (G.2.2.1) (l4 + (1 : Int32))).bind (fun x216 => (xLd (G.2.2.1) (l4 + (2 : Int32))).bind (fun x217 => (f_L_audit σ l1 x216 x217 l3).bind (fun p218 => (xLd (G.2.2.1) (l4 + (1 : Int32))).bind (fun x219 => (xLd (G.2.2.1) (l4 + (2 : Int32))).bind (fun x220 => (if xk p218.2 l2 12 = true then (f_X12_audit p218.2 l2 x219 x220).bind (fun p221 => (if xk p221.2 l2 12 = true then (f_X12_thrown p221.2 l2).bind (fun p222 => (if p222 = p218.1 then (if p218.1 = (0 : Int32) then (aJ p221.2 l3 (0 : Int32)).bind (fun x223 => (if p221.1 = (0 : Int32) then f_L_law_j2120 (G.2.2.1) p221.2 l0 l1 l2 l3 l4 (0 : Int64) x223 else f_L_law_j2120 (G.2.2.1) p221.2 l0 l1 l2 l3 l4 (1 : Int64) x223)) else f_L_law_j2126 (G.2.2.1) p221.2 l0 l1 l2 l3 l4) else some (Sum.inl ((0 : Int32), p221.2)))) else none)) else none)))))) else f_L_law_j2129 (G.2.2.1) σ l0 l1 l2 l3 l4))))))))))))))))))))))))))))))))))) = some x := hf
  refine xm_iload dL_law_23 rfl ?_
  refine xm_aload_n dL_law_25 rfl ?_
  refine xm_xLen dL_law_26 ?_
  refine xm_bipush dL_law_27 (v := 6) (by decide) ?_
  refine xm_isub dL_law_29 ?_
  refine xb_icmp_gt 2135 dL_law_30 (by decide) hf (fun c hf => ?_) (fun c hf => ?_)
  · refine xm_wk (C9 := C) (Z9 := Z) (Nat.le_add_left _ _) (Nat.le_add_left _ _) ?_
    cases hf
    exact xm_sub [] rfl (hE _ rfl)
  · refine xm_aload_n dL_law_33 rfl ?_
    refine xm_iload dL_law_34 rfl ?_
    refine xb_xLd dL_law_36 hf (fun x1 ex1 hf => ?_)
    refine xm_bipush dL_law_37 (v := 31) (by decide) ?_
    refine xm_iand dL_law_39 ?_
    refine xb_topi hf (fun v2 ev2 hf => ?_)
    refine xb_if hf (fun c hf => ?_) (fun n0 hf => ?_)
    · refine xm_tableIn 184 dL_law_40 (by rw [c]; decide) (by rw [c]; decide) (by rw [c]; rfl) (by decide) ?_
      refine xm_aload_n dL_law_184 rfl ?_
      refine xm_aload_n dL_law_185 rfl ?_
      refine xm_iload dL_law_186 rfl ?_
      refine xm_iconst dL_law_188 (v := 1) (by decide) ?_
      refine xm_iadd dL_law_189 ?_
      refine xb_xLd dL_law_190 hf (fun x4 ex4 hf => ?_)
      refine xm_i2c dL_law_191 rfl ?_
      refine xm_aload_n dL_law_192 rfl ?_
      obtain ⟨p5, ep5, hf⟩ := xbind hf
      refine xb_callSW (As := [.ref l1, .int (((x4).toUInt32 % 65536).toInt32), .ref l3]) (v0 := some (.int p5.1)) (τ0 := p5.2) dL_law_193 xc_L_type xw_764 xw_765 rfl (Nat.le_of_ble_eq_true rfl) rfl (Nat.le_of_ble_eq_true rfl) (fun Q1 hq => m_L_type (d := d + 401) (C := 0) (Z := 0) ep5 (fun g hg => by subst hg; exact hq)) ?_
      refine xm_istore dL_law_196 (by decide) (xm_stL (L' := [(5, .int p5.1), (0, .ref xkX), (1, .ref l1), (2, .ref l2), (3, .ref l3), (4, .int l4)]) rfl ?_)
      refine xm_aload_n dL_law_198 rfl ?_
      refine xm_aload_n dL_law_199 rfl ?_
      refine xm_iload dL_law_200 rfl ?_
      refine xm_iconst dL_law_202 (v := 1) (by decide) ?_
      refine xm_iadd dL_law_203 ?_
      refine xb_xLd dL_law_204 hf (fun x6 ex6 hf => ?_)
      refine xm_i2c dL_law_205 rfl ?_
      refine xb_if hf (fun hb hf => ?_) (fun _ q => nomatch q)
      obtain ⟨p7, ep7, hf⟩ := xbind hf
      refine xb_callV (As := [.int (((x6).toUInt32 % 65536).toInt32)]) (v0 := (some (.int p7.1))) (τ0 := p7.2) dL_law_206 (xc_X12_type _ _) xcl12 xw_2108 xw_2109 xw_2110 hb rfl (Nat.le_of_ble_eq_true rfl) rfl (Nat.le_of_ble_eq_true rfl) (fun Q1 hq => m_X12_type (d := d + 408) ep7 (fun g hg => by subst hg; exact hq)) ?_
      refine xm_istore dL_law_209 (by decide) (xm_stL (L' := [(6, .int p7.1), (5, .int p5.1), (0, .ref xkX), (1, .ref l1), (2, .ref l2), (3, .ref l3), (4, .int l4)]) rfl ?_)
      refine xm_aload_n dL_law_211 rfl ?_
      refine xb_if hf (fun hb hf => ?_) (fun _ q => nomatch q)
      obtain ⟨p8, ep8, hf⟩ := xbind hf
      refine xb_callV (As := []) (v0 := (some (.int p8))) (τ0 := p7.2) dL_law_212 (xc_X12_thrown _ _) xcl12 xw_1802 xw_1803 xw_1804 hb rfl (Nat.le_of_ble_eq_true rfl) rfl (Nat.le_of_ble_eq_true rfl) (fun Q1 hq => m_X12_thrown (d := d + 409) ep8 (fun g hg => by subst hg; exact hq)) ?_
      refine xm_iload dL_law_215 rfl ?_
      refine xb_icmp_eq 222 dL_law_217 (by decide) hf (fun c hf => ?_) (fun c hf => ?_)
      · refine xm_iload dL_law_222 rfl ?_
        refine xb_if_ne 239 dL_law_224 (by decide) hf (fun c hf => ?_) (fun c hf => ?_)
        · exact xm_sub [2, 3, 4, 5, 6] rfl (L_L_law_j239 p7.2 l0 l1 l2 l3 l4 hf hR hE hC)
        · refine xm_aload_n dL_law_227 rfl ?_
          refine xm_iconst dL_law_228 (v := 0) (by decide) ?_
          refine xb_lald dL_law_229 hf (fun x9 ex9 hf => ?_)
          refine xm_iload dL_law_230 rfl ?_
          refine xm_i2l dL_law_232 rfl ?_
          refine xm_lcmp dL_law_233 ?_
          refine xb_if_eq 239 dL_law_234 (by decide) hf (fun c hf => ?_) (fun c hf => ?_)
          · exact xm_sub [2, 3, 4, 5, 6] rfl (L_L_law_j239 p7.2 l0 l1 l2 l3 l4 hf hR hE hC)
          · refine xm_iconst dL_law_237 (v := 0) (by decide) ?_
            cases hf
            exact xm_zret dL_law_238 rfl rfl (hR _ rfl)
      · refine xm_iconst dL_law_220 (v := 0) (by decide) ?_
        cases hf
        exact xm_zret dL_law_221 rfl rfl (hR _ rfl)
    refine xb_if hf (fun c hf => ?_) (fun n1 hf => ?_)
    · refine xm_tableIn 242 dL_law_40 (by rw [c]; decide) (by rw [c]; decide) (by rw [c]; rfl) (by decide) ?_
      refine xm_aload_n dL_law_242 rfl ?_
      refine xb_if hf (fun hb hf => ?_) (fun _ q => nomatch q)
      obtain ⟨p10, ep10, hf⟩ := xbind hf
      refine xb_callV (As := []) (v0 := (some (.int p10.1))) (τ0 := p10.2) dL_law_243 (xc_X11_drop _ _) xcl11 xw_644 xw_645 xw_646 hb rfl (Nat.le_of_ble_eq_true rfl) rfl (Nat.le_of_ble_eq_true rfl) (fun Q1 hq => m_X11_drop (d := d + 409) ep10 (fun g hg => by subst hg; exact hq)) ?_
      refine xm_aload_n dL_law_246 rfl ?_
      refine xb_if hf (fun hb hf => ?_) (fun _ q => nomatch q)
      obtain ⟨p11, ep11, hf⟩ := xbind hf
      refine xb_callV (As := []) (v0 := (some (.int p11.1))) (τ0 := p11.2) dL_law_247 (xc_X12_drop _ _) xcl12 xw_2116 xw_2117 xw_2118 hb rfl (Nat.le_of_ble_eq_true rfl) rfl (Nat.le_of_ble_eq_true rfl) (fun Q1 hq => m_X12_drop (d := d + 409) ep11 (fun g hg => by subst hg; exact hq)) ?_
      refine xb_icmp_eq 2129 dL_law_250 (by decide) hf (fun c hf => ?_) (fun c hf => ?_)
      · refine xm_wk (C9 := C) (Z9 := Z) (Nat.le_add_left _ _) (Nat.le_add_left _ _) ?_
        exact xm_sub [0, 1, 2, 3, 4] rfl (L_L_law_j2129 p11.2 l0 l1 l2 l3 l4 hf hR hE hC)
      · refine xm_iconst dL_law_253 (v := 0) (by decide) ?_
        cases hf
        exact xm_zret dL_law_254 rfl rfl (hR _ rfl)
    refine xb_if hf (fun c hf => ?_) (fun n2 hf => ?_)
    · refine xm_tableIn 255 dL_law_40 (by rw [c]; decide) (by rw [c]; decide) (by rw [c]; rfl) (by decide) ?_
      refine xm_aload_n dL_law_255 rfl ?_
      refine xb_if hf (fun hb hf => ?_) (fun _ q => nomatch q)
      obtain ⟨p12, ep12, hf⟩ := xbind hf
      refine xb_callV (As := []) (v0 := (some (.int p12.1))) (τ0 := p12.2) dL_law_256 (xc_X11_fault _ _) xcl11 xw_648 xw_649 xw_650 hb rfl (Nat.le_of_ble_eq_true rfl) rfl (Nat.le_of_ble_eq_true rfl) (fun Q1 hq => m_X11_fault (d := d + 405) ep12 (fun g hg => by subst hg; exact hq)) ?_
      refine xm_aload_n dL_law_259 rfl ?_
      refine xb_if hf (fun hb hf => ?_) (fun _ q => nomatch q)
      obtain ⟨p13, ep13, hf⟩ := xbind hf
      refine xb_callV (As := []) (v0 := (some (.int p13.1))) (τ0 := p13.2) dL_law_260 (xc_X12_fault _ _) xcl12 xw_2120 xw_2121 xw_2122 hb rfl (Nat.le_of_ble_eq_true rfl) rfl (Nat.le_of_ble_eq_true rfl) (fun Q1 hq => m_X12_fault (d := d + 402) ep13 (fun g hg => by subst hg; exact hq)) ?_
      refine xb_icmp_eq 2129 dL_law_263 (by decide) hf (fun c hf => ?_) (fun c hf => ?_)
      · refine xm_wk (C9 := C) (Z9 := Z) (Nat.le_add_left _ _) (Nat.le_add_left _ _) ?_
        exact xm_sub [0, 1, 2, 3, 4] rfl (L_L_law_j2129 p13.2 l0 l1 l2 l3 l4 hf hR hE hC)
      · refine xm_iconst dL_law_266 (v := 0) (by decide) ?_
        cases hf
        exact xm_zret dL_law_267 rfl rfl (hR _ rfl)
    refine xb_if hf (fun c hf => ?_) (fun n3 hf => ?_)
    · refine xm_tableIn 268 dL_law_40 (by rw [c]; decide) (by rw [c]; decide) (by rw [c]; rfl) (by decide) ?_
      refine xm_aload_n dL_law_268 rfl ?_
      refine xm_aload_n dL_law_269 rfl ?_
      obtain ⟨p14, ep14, hf⟩ := xbind hf
      refine xb_callSW (As := [.ref l1, .ref l3]) (v0 := some (.int p14.1)) (τ0 := p14.2) dL_law_270 xc_L_read xw_839 xw_840 rfl (Nat.le_of_ble_eq_true rfl) rfl (Nat.le_of_ble_eq_true rfl) (fun Q1 hq => m_L_read (d := d + 400) (C := 0) (Z := 0) ep14 (fun g hg => by subst hg; exact hq)) ?_
      refine xm_istore dL_law_273 (by decide) (xm_stL (L' := [(5, .int p14.1), (0, .ref xkX), (1, .ref l1), (2, .ref l2), (3, .ref l3), (4, .int l4)]) rfl ?_)
      refine xm_aload_n dL_law_275 rfl ?_
      refine xb_if hf (fun hb hf => ?_) (fun _ q => nomatch q)
      obtain ⟨p15, ep15, hf⟩ := xbind hf
      refine xb_callV (As := []) (v0 := (some (.int p15.1))) (τ0 := p15.2) dL_law_276 (xc_X12_read _ _) xcl12 xw_2194 xw_2195 xw_2196 hb rfl (Nat.le_of_ble_eq_true rfl) rfl (Nat.le_of_ble_eq_true rfl) (fun Q1 hq => m_X12_read (d := d + 402) ep15 (fun g hg => by subst hg; exact hq)) ?_
      refine xm_istore dL_law_279 (by decide) (xm_stL (L' := [(6, .int p15.1), (5, .int p14.1), (0, .ref xkX), (1, .ref l1), (2, .ref l2), (3, .ref l3), (4, .int l4)]) rfl ?_)
      refine xm_aload_n dL_law_281 rfl ?_
      refine xb_if hf (fun hb hf => ?_) (fun _ q => nomatch q)
      obtain ⟨p16, ep16, hf⟩ := xbind hf
      refine xb_callV (As := []) (v0 := (some (.int p16))) (τ0 := p15.2) dL_law_282 (xc_X12_thrown _ _) xcl12 xw_1802 xw_1803 xw_1804 hb rfl (Nat.le_of_ble_eq_true rfl) rfl (Nat.le_of_ble_eq_true rfl) (fun Q1 hq => m_X12_thrown (d := d + 409) ep16 (fun g hg => by subst hg; exact hq)) ?_
      refine xm_iload dL_law_285 rfl ?_
      refine xb_icmp_eq 292 dL_law_287 (by decide) hf (fun c hf => ?_) (fun c hf => ?_)
      · refine xm_iload dL_law_292 rfl ?_
        refine xb_if_ne 309 dL_law_294 (by decide) hf (fun c hf => ?_) (fun c hf => ?_)
        · exact xm_sub [2, 3, 4, 5, 6] rfl (L_L_law_j309 p15.2 l0 l1 l2 l3 l4 hf hR hE hC)
        · refine xm_aload_n dL_law_297 rfl ?_
          refine xm_iconst dL_law_298 (v := 0) (by decide) ?_
          refine xb_lald dL_law_299 hf (fun x17 ex17 hf => ?_)
          refine xm_iload dL_law_300 rfl ?_
          refine xm_i2l dL_law_302 rfl ?_
          refine xm_lcmp dL_law_303 ?_
          refine xb_if_eq 309 dL_law_304 (by decide) hf (fun c hf => ?_) (fun c hf => ?_)
          · exact xm_sub [2, 3, 4, 5, 6] rfl (L_L_law_j309 p15.2 l0 l1 l2 l3 l4 hf hR hE hC)
          · refine xm_iconst dL_law_307 (v := 0) (by decide) ?_
            cases hf
            exact xm_zret dL_law_308 rfl rfl (hR _ rfl)
      · refine xm_iconst dL_law_290 (v := 0) (by decide) ?_
        cases hf
        exact xm_zret dL_law_291 rfl rfl (hR _ rfl)
    refine xb_if hf (fun c hf => ?_) (fun n4 hf => ?_)
    · refine xm_tableIn 312 dL_law_40 (by rw [c]; decide) (by rw [c]; decide) (by rw [c]; rfl) (by decide) ?_
      refine xm_aload_n dL_law_312 rfl ?_
      refine xb_if hf (fun hb hf => ?_) (fun _ q => nomatch q)
      obtain ⟨p18, ep18, hf⟩ := xbind hf
      refine xb_callV (As := []) (v0 := (some (.int p18))) (τ0 := σ) dL_law_313 (xc_X11_trees _ _) xcl11 xw_737 xw_738 xw_739 hb rfl (Nat.le_of_ble_eq_true rfl) rfl (Nat.le_of_ble_eq_true rfl) (fun Q1 hq => m_X11_trees (d := d + 409) ep18 (fun g hg => by subst hg; exact hq)) ?_
      refine xm_aload_n dL_law_316 rfl ?_
      refine xb_if hf (fun hb hf => ?_) (fun _ q => nomatch q)
      obtain ⟨p19, ep19, hf⟩ := xbind hf
      refine xb_callV (As := []) (v0 := (some (.int p19.1))) (τ0 := p19.2) dL_law_317 (xc_X12_trees _ _) xcl12 xw_2221 xw_2222 xw_2223 hb rfl (Nat.le_of_ble_eq_true rfl) rfl (Nat.le_of_ble_eq_true rfl) (fun Q1 hq => m_X12_trees (d := d + 409) ep19 (fun g hg => by subst hg; exact hq)) ?_
      refine xb_icmp_eq 2129 dL_law_320 (by decide) hf (fun c hf => ?_) (fun c hf => ?_)
      · refine xm_wk (C9 := C) (Z9 := Z) (Nat.le_add_left _ _) (Nat.le_add_left _ _) ?_
        exact xm_sub [0, 1, 2, 3, 4] rfl (L_L_law_j2129 p19.2 l0 l1 l2 l3 l4 hf hR hE hC)
      · refine xm_iconst dL_law_323 (v := 0) (by decide) ?_
        cases hf
        exact xm_zret dL_law_324 rfl rfl (hR _ rfl)
    refine xb_if hf (fun c hf => ?_) (fun n5 hf => ?_)
    · refine xm_tableIn 325 dL_law_40 (by rw [c]; decide) (by rw [c]; decide) (by rw [c]; rfl) (by decide) ?_
      refine xm_aload_n dL_law_325 rfl ?_
      refine xm_aload_n dL_law_326 rfl ?_
      refine xm_iload dL_law_327 rfl ?_
      refine xm_iconst dL_law_329 (v := 1) (by decide) ?_
      refine xm_iadd dL_law_330 ?_
      refine xb_xLd dL_law_331 hf (fun x20 ex20 hf => ?_)
      refine xm_aload_n dL_law_332 rfl ?_
      refine xm_iload dL_law_333 rfl ?_
      refine xm_iconst dL_law_335 (v := 2) (by decide) ?_
      refine xm_iadd dL_law_336 ?_
      refine xb_xLd dL_law_337 hf (fun x21 ex21 hf => ?_)
      refine xm_aload_n dL_law_338 rfl ?_
      refine xm_iload dL_law_339 rfl ?_
      refine xm_iconst dL_law_341 (v := 3) (by decide) ?_
      refine xm_iadd dL_law_342 ?_
      refine xb_xLd dL_law_343 hf (fun x22 ex22 hf => ?_)
      refine xm_aload_n dL_law_344 rfl ?_
      obtain ⟨p23, ep23, hf⟩ := xbind hf
      refine xb_callSW (As := [.ref l1, .int x20, .int x21, .int x22, .ref l3]) (v0 := some (.int p23.1)) (τ0 := p23.2) dL_law_345 xc_L_node xw_888 xw_889 rfl (Nat.le_of_ble_eq_true rfl) rfl (Nat.le_of_ble_eq_true rfl) (fun Q1 hq => m_L_node (d := d + 400) (C := 0) (Z := 0) ep23 (fun g hg => by subst hg; exact hq)) ?_
      refine xm_istore dL_law_348 (by decide) (xm_stL (L' := [(5, .int p23.1), (0, .ref xkX), (1, .ref l1), (2, .ref l2), (3, .ref l3), (4, .int l4)]) rfl ?_)
      refine xm_aload_n dL_law_350 rfl ?_
      refine xm_aload_n dL_law_351 rfl ?_
      refine xm_iload dL_law_352 rfl ?_
      refine xm_iconst dL_law_354 (v := 1) (by decide) ?_
      refine xm_iadd dL_law_355 ?_
      refine xb_xLd dL_law_356 hf (fun x24 ex24 hf => ?_)
      refine xm_aload_n dL_law_357 rfl ?_
      refine xm_iload dL_law_358 rfl ?_
      refine xm_iconst dL_law_360 (v := 2) (by decide) ?_
      refine xm_iadd dL_law_361 ?_
      refine xb_xLd dL_law_362 hf (fun x25 ex25 hf => ?_)
      refine xm_aload_n dL_law_363 rfl ?_
      refine xm_iload dL_law_364 rfl ?_
      refine xm_iconst dL_law_366 (v := 3) (by decide) ?_
      refine xm_iadd dL_law_367 ?_
      refine xb_xLd dL_law_368 hf (fun x26 ex26 hf => ?_)
      refine xb_if hf (fun hb hf => ?_) (fun _ q => nomatch q)
      obtain ⟨p27, ep27, hf⟩ := xbind hf
      refine xb_callV (As := [.int x24, .int x25, .int x26]) (v0 := (some (.int p27.1))) (τ0 := p27.2) dL_law_369 (xc_X12_node_ _ _) xcl12 xw_2225 xw_2226 xw_2227 hb rfl (Nat.le_of_ble_eq_true rfl) rfl (Nat.le_of_ble_eq_true rfl) (fun Q1 hq => m_X12_node_ (d := d + 406) ep27 (fun g hg => by subst hg; exact hq)) ?_
      refine xm_istore dL_law_372 (by decide) (xm_stL (L' := [(6, .int p27.1), (5, .int p23.1), (0, .ref xkX), (1, .ref l1), (2, .ref l2), (3, .ref l3), (4, .int l4)]) rfl ?_)
      refine xm_aload_n dL_law_374 rfl ?_
      refine xb_if hf (fun hb hf => ?_) (fun _ q => nomatch q)
      obtain ⟨p28, ep28, hf⟩ := xbind hf
      refine xb_callV (As := []) (v0 := (some (.int p28))) (τ0 := p27.2) dL_law_375 (xc_X12_thrown _ _) xcl12 xw_1802 xw_1803 xw_1804 hb rfl (Nat.le_of_ble_eq_true rfl) rfl (Nat.le_of_ble_eq_true rfl) (fun Q1 hq => m_X12_thrown (d := d + 409) ep28 (fun g hg => by subst hg; exact hq)) ?_
      refine xm_iload dL_law_378 rfl ?_
      refine xb_icmp_eq 385 dL_law_380 (by decide) hf (fun c hf => ?_) (fun c hf => ?_)
      · refine xm_iload dL_law_385 rfl ?_
        refine xb_if_ne 402 dL_law_387 (by decide) hf (fun c hf => ?_) (fun c hf => ?_)
        · exact xm_sub [2, 3, 4, 5, 6] rfl (L_L_law_j402 p27.2 l0 l1 l2 l3 l4 hf hR hE hC)
        · refine xm_aload_n dL_law_390 rfl ?_
          refine xm_iconst dL_law_391 (v := 0) (by decide) ?_
          refine xb_lald dL_law_392 hf (fun x29 ex29 hf => ?_)
          refine xm_iload dL_law_393 rfl ?_
          refine xm_i2l dL_law_395 rfl ?_
          refine xm_lcmp dL_law_396 ?_
          refine xb_if_eq 402 dL_law_397 (by decide) hf (fun c hf => ?_) (fun c hf => ?_)
          · exact xm_sub [2, 3, 4, 5, 6] rfl (L_L_law_j402 p27.2 l0 l1 l2 l3 l4 hf hR hE hC)
          · refine xm_iconst dL_law_400 (v := 0) (by decide) ?_
            cases hf
            exact xm_zret dL_law_401 rfl rfl (hR _ rfl)
      · refine xm_iconst dL_law_383 (v := 0) (by decide) ?_
        cases hf
        exact xm_zret dL_law_384 rfl rfl (hR _ rfl)
    refine xb_if hf (fun c hf => ?_) (fun n6 hf => ?_)
    · refine xm_tableIn 405 dL_law_40 (by rw [c]; decide) (by rw [c]; decide) (by rw [c]; rfl) (by decide) ?_
      refine xm_aload_n dL_law_405 rfl ?_
      refine xm_aload_n dL_law_406 rfl ?_
      refine xm_iload dL_law_407 rfl ?_
      refine xm_iconst dL_law_409 (v := 1) (by decide) ?_
      refine xm_iadd dL_law_410 ?_
      refine xb_xLd dL_law_411 hf (fun x30 ex30 hf => ?_)
      refine xm_aload_n dL_law_412 rfl ?_
      refine xm_iload dL_law_413 rfl ?_
      refine xm_iconst dL_law_415 (v := 2) (by decide) ?_
      refine xm_iadd dL_law_416 ?_
      refine xb_xLd dL_law_417 hf (fun x31 ex31 hf => ?_)
      refine xm_aload_n dL_law_418 rfl ?_
      obtain ⟨p32, ep32, hf⟩ := xbind hf
      refine xb_callSW (As := [.ref l1, .int x30, .int x31, .ref l3]) (v0 := some (.int p32.1)) (τ0 := p32.2) dL_law_419 xc_L_isSame xw_942 xw_943 rfl (Nat.le_of_ble_eq_true rfl) rfl (Nat.le_of_ble_eq_true rfl) (fun Q1 hq => m_L_isSame (d := d + 400) (C := 0) (Z := 0) ep32 (fun g hg => by subst hg; exact hq)) ?_
      refine xm_istore dL_law_422 (by decide) (xm_stL (L' := [(5, .int p32.1), (0, .ref xkX), (1, .ref l1), (2, .ref l2), (3, .ref l3), (4, .int l4)]) rfl ?_)
      refine xm_aload_n dL_law_424 rfl ?_
      refine xm_aload_n dL_law_425 rfl ?_
      refine xm_iload dL_law_426 rfl ?_
      refine xm_iconst dL_law_428 (v := 1) (by decide) ?_
      refine xm_iadd dL_law_429 ?_
      refine xb_xLd dL_law_430 hf (fun x33 ex33 hf => ?_)
      refine xm_aload_n dL_law_431 rfl ?_
      refine xm_iload dL_law_432 rfl ?_
      refine xm_iconst dL_law_434 (v := 2) (by decide) ?_
      refine xm_iadd dL_law_435 ?_
      refine xb_xLd dL_law_436 hf (fun x34 ex34 hf => ?_)
      refine xb_if hf (fun hb hf => ?_) (fun _ q => nomatch q)
      obtain ⟨p35, ep35, hf⟩ := xbind hf
      refine xb_callV (As := [.int x33, .int x34]) (v0 := (some (.int p35.1))) (τ0 := p35.2) dL_law_437 (xc_X12_isSame _ _) xcl12 xw_2241 xw_2242 xw_2243 hb rfl (Nat.le_of_ble_eq_true rfl) rfl (Nat.le_of_ble_eq_true rfl) (fun Q1 hq => m_X12_isSame (d := d + 407) ep35 (fun g hg => by subst hg; exact hq)) ?_
      refine xm_istore dL_law_440 (by decide) (xm_stL (L' := [(6, .int p35.1), (5, .int p32.1), (0, .ref xkX), (1, .ref l1), (2, .ref l2), (3, .ref l3), (4, .int l4)]) rfl ?_)
      refine xm_aload_n dL_law_442 rfl ?_
      refine xb_if hf (fun hb hf => ?_) (fun _ q => nomatch q)
      obtain ⟨p36, ep36, hf⟩ := xbind hf
      refine xb_callV (As := []) (v0 := (some (.int p36))) (τ0 := p35.2) dL_law_443 (xc_X12_thrown _ _) xcl12 xw_1802 xw_1803 xw_1804 hb rfl (Nat.le_of_ble_eq_true rfl) rfl (Nat.le_of_ble_eq_true rfl) (fun Q1 hq => m_X12_thrown (d := d + 409) ep36 (fun g hg => by subst hg; exact hq)) ?_
      refine xm_iload dL_law_446 rfl ?_
      refine xb_icmp_eq 453 dL_law_448 (by decide) hf (fun c hf => ?_) (fun c hf => ?_)
      · refine xm_iload dL_law_453 rfl ?_
        refine xb_if_ne 477 dL_law_455 (by decide) hf (fun c hf => ?_) (fun c hf => ?_)
        · exact xm_sub [2, 3, 4, 5, 6] rfl (L_L_law_j477 p35.2 l0 l1 l2 l3 l4 hf hR hE hC)
        · refine xm_aload_n dL_law_458 rfl ?_
          refine xm_iconst dL_law_459 (v := 0) (by decide) ?_
          refine xb_lald dL_law_460 hf (fun x37 ex37 hf => ?_)
          refine xm_iload dL_law_461 rfl ?_
          refine xb_if_eq 470 dL_law_463 (by decide) hf (fun c hf => ?_) (fun c hf => ?_)
          · refine xm_lconst dL_law_470 (v := 0) (by decide) ?_
            exact xm_sub [2, 3, 4, 5, 6] rfl (L_L_law_j471 p35.2 l0 l1 l2 l3 l4 (0 : Int64) x37 hf hR hE hC)
          · refine xm_lconst dL_law_466 (v := 1) (by decide) ?_
            refine xm_goto 471 dL_law_467 (by decide) ?_
            exact xm_sub [2, 3, 4, 5, 6] rfl (L_L_law_j471 p35.2 l0 l1 l2 l3 l4 (1 : Int64) x37 hf hR hE hC)
      · refine xm_iconst dL_law_451 (v := 0) (by decide) ?_
        cases hf
        exact xm_zret dL_law_452 rfl rfl (hR _ rfl)
    refine xb_if hf (fun c hf => ?_) (fun n7 hf => ?_)
    · refine xm_tableIn 480 dL_law_40 (by rw [c]; decide) (by rw [c]; decide) (by rw [c]; rfl) (by decide) ?_
      refine xm_aload_n dL_law_480 rfl ?_
      refine xm_aload_n dL_law_481 rfl ?_
      refine xm_iload dL_law_482 rfl ?_
      refine xm_iconst dL_law_484 (v := 1) (by decide) ?_
      refine xm_iadd dL_law_485 ?_
      refine xb_xLd dL_law_486 hf (fun x38 ex38 hf => ?_)
      refine xm_aload_n dL_law_487 rfl ?_
      refine xm_iload dL_law_488 rfl ?_
      refine xm_iconst dL_law_490 (v := 2) (by decide) ?_
      refine xm_iadd dL_law_491 ?_
      refine xb_xLd dL_law_492 hf (fun x39 ex39 hf => ?_)
      refine xm_aload_n dL_law_493 rfl ?_
      obtain ⟨p40, ep40, hf⟩ := xbind hf
      refine xb_callSW (As := [.ref l1, .int x38, .int x39, .ref l3]) (v0 := some (.int p40.1)) (τ0 := p40.2) dL_law_494 xc_L_part xw_957 xw_958 rfl (Nat.le_of_ble_eq_true rfl) rfl (Nat.le_of_ble_eq_true rfl) (fun Q1 hq => m_L_part (d := d + 400) (C := 0) (Z := 0) ep40 (fun g hg => by subst hg; exact hq)) ?_
      refine xm_istore dL_law_497 (by decide) (xm_stL (L' := [(5, .int p40.1), (0, .ref xkX), (1, .ref l1), (2, .ref l2), (3, .ref l3), (4, .int l4)]) rfl ?_)
      refine xm_aload_n dL_law_499 rfl ?_
      refine xm_aload_n dL_law_500 rfl ?_
      refine xm_iload dL_law_501 rfl ?_
      refine xm_iconst dL_law_503 (v := 1) (by decide) ?_
      refine xm_iadd dL_law_504 ?_
      refine xb_xLd dL_law_505 hf (fun x41 ex41 hf => ?_)
      refine xm_aload_n dL_law_506 rfl ?_
      refine xm_iload dL_law_507 rfl ?_
      refine xm_iconst dL_law_509 (v := 2) (by decide) ?_
      refine xm_iadd dL_law_510 ?_
      refine xb_xLd dL_law_511 hf (fun x42 ex42 hf => ?_)
      refine xb_if hf (fun hb hf => ?_) (fun _ q => nomatch q)
      obtain ⟨p43, ep43, hf⟩ := xbind hf
      refine xb_callV (As := [.int x41, .int x42]) (v0 := (some (.int p43.1))) (τ0 := p43.2) dL_law_512 (xc_X12_part _ _) xcl12 xw_2249 xw_2250 xw_2251 hb rfl (Nat.le_of_ble_eq_true rfl) rfl (Nat.le_of_ble_eq_true rfl) (fun Q1 hq => m_X12_part (d := d + 406) ep43 (fun g hg => by subst hg; exact hq)) ?_
      refine xm_istore dL_law_515 (by decide) (xm_stL (L' := [(6, .int p43.1), (5, .int p40.1), (0, .ref xkX), (1, .ref l1), (2, .ref l2), (3, .ref l3), (4, .int l4)]) rfl ?_)
      refine xm_aload_n dL_law_517 rfl ?_
      refine xb_if hf (fun hb hf => ?_) (fun _ q => nomatch q)
      obtain ⟨p44, ep44, hf⟩ := xbind hf
      refine xb_callV (As := []) (v0 := (some (.int p44))) (τ0 := p43.2) dL_law_518 (xc_X12_thrown _ _) xcl12 xw_1802 xw_1803 xw_1804 hb rfl (Nat.le_of_ble_eq_true rfl) rfl (Nat.le_of_ble_eq_true rfl) (fun Q1 hq => m_X12_thrown (d := d + 409) ep44 (fun g hg => by subst hg; exact hq)) ?_
      refine xm_iload dL_law_521 rfl ?_
      refine xb_icmp_eq 528 dL_law_523 (by decide) hf (fun c hf => ?_) (fun c hf => ?_)
      · refine xm_iload dL_law_528 rfl ?_
        refine xb_if_ne 545 dL_law_530 (by decide) hf (fun c hf => ?_) (fun c hf => ?_)
        · exact xm_sub [2, 3, 4, 5, 6] rfl (L_L_law_j545 p43.2 l0 l1 l2 l3 l4 hf hR hE hC)
        · refine xm_aload_n dL_law_533 rfl ?_
          refine xm_iconst dL_law_534 (v := 0) (by decide) ?_
          refine xb_lald dL_law_535 hf (fun x45 ex45 hf => ?_)
          refine xm_iload dL_law_536 rfl ?_
          refine xm_i2l dL_law_538 rfl ?_
          refine xm_lcmp dL_law_539 ?_
          refine xb_if_eq 545 dL_law_540 (by decide) hf (fun c hf => ?_) (fun c hf => ?_)
          · exact xm_sub [2, 3, 4, 5, 6] rfl (L_L_law_j545 p43.2 l0 l1 l2 l3 l4 hf hR hE hC)
          · refine xm_iconst dL_law_543 (v := 0) (by decide) ?_
            cases hf
            exact xm_zret dL_law_544 rfl rfl (hR _ rfl)
      · refine xm_iconst dL_law_526 (v := 0) (by decide) ?_
        cases hf
        exact xm_zret dL_law_527 rfl rfl (hR _ rfl)
    refine xb_if hf (fun c hf => ?_) (fun n8 hf => ?_)
    · refine xm_tableIn 548 dL_law_40 (by rw [c]; decide) (by rw [c]; decide) (by rw [c]; rfl) (by decide) ?_
      refine xm_aload_n dL_law_548 rfl ?_
      refine xm_aload_n dL_law_549 rfl ?_
      refine xm_iload dL_law_550 rfl ?_
      refine xm_iconst dL_law_552 (v := 1) (by decide) ?_
      refine xm_iadd dL_law_553 ?_
      refine xb_xLd dL_law_554 hf (fun x46 ex46 hf => ?_)
      refine xm_aload_n dL_law_555 rfl ?_
      refine xm_iload dL_law_556 rfl ?_
      refine xm_iconst dL_law_558 (v := 2) (by decide) ?_
      refine xm_iadd dL_law_559 ?_
      refine xb_xLd dL_law_560 hf (fun x47 ex47 hf => ?_)
      refine xm_i2c dL_law_561 rfl ?_
      refine xm_aload_n dL_law_562 rfl ?_
      refine xm_iload dL_law_563 rfl ?_
      refine xm_iconst dL_law_565 (v := 3) (by decide) ?_
      refine xm_iadd dL_law_566 ?_
      refine xb_xLd dL_law_567 hf (fun x48 ex48 hf => ?_)
      refine xm_aload_n dL_law_568 rfl ?_
      obtain ⟨p49, ep49, hf⟩ := xbind hf
      refine xb_callSW (As := [.ref l1, .int x46, .int (((x47).toUInt32 % 65536).toInt32), .int x48, .ref l3]) (v0 := some (.int p49.1)) (τ0 := p49.2) dL_law_569 xc_L_graft xw_967 xw_968 rfl (Nat.le_of_ble_eq_true rfl) rfl (Nat.le_of_ble_eq_true rfl) (fun Q1 hq => m_L_graft (d := d + 400) (C := 0) (Z := 0) ep49 (fun g hg => by subst hg; exact hq)) ?_
      refine xm_istore dL_law_572 (by decide) (xm_stL (L' := [(5, .int p49.1), (0, .ref xkX), (1, .ref l1), (2, .ref l2), (3, .ref l3), (4, .int l4)]) rfl ?_)
      refine xm_aload_n dL_law_574 rfl ?_
      refine xm_aload_n dL_law_575 rfl ?_
      refine xm_iload dL_law_576 rfl ?_
      refine xm_iconst dL_law_578 (v := 1) (by decide) ?_
      refine xm_iadd dL_law_579 ?_
      refine xb_xLd dL_law_580 hf (fun x50 ex50 hf => ?_)
      refine xm_aload_n dL_law_581 rfl ?_
      refine xm_iload dL_law_582 rfl ?_
      refine xm_iconst dL_law_584 (v := 2) (by decide) ?_
      refine xm_iadd dL_law_585 ?_
      refine xb_xLd dL_law_586 hf (fun x51 ex51 hf => ?_)
      refine xm_i2c dL_law_587 rfl ?_
      refine xm_aload_n dL_law_588 rfl ?_
      refine xm_iload dL_law_589 rfl ?_
      refine xm_iconst dL_law_591 (v := 3) (by decide) ?_
      refine xm_iadd dL_law_592 ?_
      refine xb_xLd dL_law_593 hf (fun x52 ex52 hf => ?_)
      refine xb_if hf (fun hb hf => ?_) (fun _ q => nomatch q)
      obtain ⟨p53, ep53, hf⟩ := xbind hf
      refine xb_callV (As := [.int x50, .int (((x51).toUInt32 % 65536).toInt32), .int x52]) (v0 := (some (.int p53.1))) (τ0 := p53.2) dL_law_594 (xc_X12_graft _ _) xcl12 xw_2253 xw_2254 xw_2255 hb rfl (Nat.le_of_ble_eq_true rfl) rfl (Nat.le_of_ble_eq_true rfl) (fun Q1 hq => m_X12_graft (d := d + 407) ep53 (fun g hg => by subst hg; exact hq)) ?_
      refine xm_istore dL_law_597 (by decide) (xm_stL (L' := [(6, .int p53.1), (5, .int p49.1), (0, .ref xkX), (1, .ref l1), (2, .ref l2), (3, .ref l3), (4, .int l4)]) rfl ?_)
      refine xm_aload_n dL_law_599 rfl ?_
      refine xb_if hf (fun hb hf => ?_) (fun _ q => nomatch q)
      obtain ⟨p54, ep54, hf⟩ := xbind hf
      refine xb_callV (As := []) (v0 := (some (.int p54))) (τ0 := p53.2) dL_law_600 (xc_X12_thrown _ _) xcl12 xw_1802 xw_1803 xw_1804 hb rfl (Nat.le_of_ble_eq_true rfl) rfl (Nat.le_of_ble_eq_true rfl) (fun Q1 hq => m_X12_thrown (d := d + 409) ep54 (fun g hg => by subst hg; exact hq)) ?_
      refine xm_iload dL_law_603 rfl ?_
      refine xb_icmp_eq 610 dL_law_605 (by decide) hf (fun c hf => ?_) (fun c hf => ?_)
      · refine xm_iload dL_law_610 rfl ?_
        refine xb_if_ne 627 dL_law_612 (by decide) hf (fun c hf => ?_) (fun c hf => ?_)
        · exact xm_sub [2, 3, 4, 5, 6] rfl (L_L_law_j627 p53.2 l0 l1 l2 l3 l4 hf hR hE hC)
        · refine xm_aload_n dL_law_615 rfl ?_
          refine xm_iconst dL_law_616 (v := 0) (by decide) ?_
          refine xb_lald dL_law_617 hf (fun x55 ex55 hf => ?_)
          refine xm_iload dL_law_618 rfl ?_
          refine xm_i2l dL_law_620 rfl ?_
          refine xm_lcmp dL_law_621 ?_
          refine xb_if_eq 627 dL_law_622 (by decide) hf (fun c hf => ?_) (fun c hf => ?_)
          · exact xm_sub [2, 3, 4, 5, 6] rfl (L_L_law_j627 p53.2 l0 l1 l2 l3 l4 hf hR hE hC)
          · refine xm_iconst dL_law_625 (v := 0) (by decide) ?_
            cases hf
            exact xm_zret dL_law_626 rfl rfl (hR _ rfl)
      · refine xm_iconst dL_law_608 (v := 0) (by decide) ?_
        cases hf
        exact xm_zret dL_law_609 rfl rfl (hR _ rfl)
    refine xb_if hf (fun c hf => ?_) (fun n9 hf => ?_)
    · refine xm_tableIn 630 dL_law_40 (by rw [c]; decide) (by rw [c]; decide) (by rw [c]; rfl) (by decide) ?_
      refine xm_aload_n dL_law_630 rfl ?_
      refine xm_aload_n dL_law_631 rfl ?_
      refine xm_iload dL_law_632 rfl ?_
      refine xm_iconst dL_law_634 (v := 1) (by decide) ?_
      refine xm_iadd dL_law_635 ?_
      refine xb_xLd dL_law_636 hf (fun x56 ex56 hf => ?_)
      refine xm_i2c dL_law_637 rfl ?_
      refine xm_aload_n dL_law_638 rfl ?_
      refine xm_iload dL_law_639 rfl ?_
      refine xm_iconst dL_law_641 (v := 2) (by decide) ?_
      refine xm_iadd dL_law_642 ?_
      refine xb_xLd dL_law_643 hf (fun x57 ex57 hf => ?_)
      refine xm_aload_n dL_law_644 rfl ?_
      refine xm_iload dL_law_645 rfl ?_
      refine xm_iconst dL_law_647 (v := 3) (by decide) ?_
      refine xm_iadd dL_law_648 ?_
      refine xb_xLd dL_law_649 hf (fun x58 ex58 hf => ?_)
      refine xm_aload_n dL_law_650 rfl ?_
      refine xm_iload dL_law_651 rfl ?_
      refine xm_iconst dL_law_653 (v := 4) (by decide) ?_
      refine xm_iadd dL_law_654 ?_
      refine xb_xLd dL_law_655 hf (fun x59 ex59 hf => ?_)
      refine xm_aload_n dL_law_656 rfl ?_
      refine xm_iload dL_law_657 rfl ?_
      refine xm_iconst dL_law_659 (v := 5) (by decide) ?_
      refine xm_iadd dL_law_660 ?_
      refine xb_xLd dL_law_661 hf (fun x60 ex60 hf => ?_)
      refine xm_aload_n dL_law_662 rfl ?_
      obtain ⟨p61, ep61, hf⟩ := xbind hf
      refine xb_callSW (As := [.ref l1, .int (((x56).toUInt32 % 65536).toInt32), .int x57, .int x58, .int x59, .int x60, .ref l3]) (v0 := some (.int p61.1)) (τ0 := p61.2) dL_law_663 xc_L_tell xw_988 xw_989 rfl (Nat.le_of_ble_eq_true rfl) rfl (Nat.le_of_ble_eq_true rfl) (fun Q1 hq => m_L_tell (d := d + 401) (C := 0) (Z := 0) ep61 (fun g hg => by subst hg; exact hq)) ?_
      refine xm_istore dL_law_666 (by decide) (xm_stL (L' := [(5, .int p61.1), (0, .ref xkX), (1, .ref l1), (2, .ref l2), (3, .ref l3), (4, .int l4)]) rfl ?_)
      refine xm_aload_n dL_law_668 rfl ?_
      refine xm_aload_n dL_law_669 rfl ?_
      refine xm_iload dL_law_670 rfl ?_
      refine xm_iconst dL_law_672 (v := 1) (by decide) ?_
      refine xm_iadd dL_law_673 ?_
      refine xb_xLd dL_law_674 hf (fun x62 ex62 hf => ?_)
      refine xm_i2c dL_law_675 rfl ?_
      refine xm_aload_n dL_law_676 rfl ?_
      refine xm_iload dL_law_677 rfl ?_
      refine xm_iconst dL_law_679 (v := 2) (by decide) ?_
      refine xm_iadd dL_law_680 ?_
      refine xb_xLd dL_law_681 hf (fun x63 ex63 hf => ?_)
      refine xm_aload_n dL_law_682 rfl ?_
      refine xm_iload dL_law_683 rfl ?_
      refine xm_iconst dL_law_685 (v := 3) (by decide) ?_
      refine xm_iadd dL_law_686 ?_
      refine xb_xLd dL_law_687 hf (fun x64 ex64 hf => ?_)
      refine xm_aload_n dL_law_688 rfl ?_
      refine xm_iload dL_law_689 rfl ?_
      refine xm_iconst dL_law_691 (v := 4) (by decide) ?_
      refine xm_iadd dL_law_692 ?_
      refine xb_xLd dL_law_693 hf (fun x65 ex65 hf => ?_)
      refine xm_aload_n dL_law_694 rfl ?_
      refine xm_iload dL_law_695 rfl ?_
      refine xm_iconst dL_law_697 (v := 5) (by decide) ?_
      refine xm_iadd dL_law_698 ?_
      refine xb_xLd dL_law_699 hf (fun x66 ex66 hf => ?_)
      refine xb_if hf (fun hb hf => ?_) (fun _ q => nomatch q)
      obtain ⟨p67, ep67, hf⟩ := xbind hf
      refine xb_callV (As := [.int (((x62).toUInt32 % 65536).toInt32), .int x63, .int x64, .int x65, .int x66]) (v0 := (some (.int p67.1))) (τ0 := p67.2) dL_law_700 (xc_X12_tell _ _) xcl12 xw_2268 xw_2269 xw_2270 hb rfl (Nat.le_of_ble_eq_true rfl) rfl (Nat.le_of_ble_eq_true rfl) (fun Q1 hq => m_X12_tell (d := d + 407) ep67 (fun g hg => by subst hg; exact hq)) ?_
      refine xm_istore dL_law_703 (by decide) (xm_stL (L' := [(6, .int p67.1), (5, .int p61.1), (0, .ref xkX), (1, .ref l1), (2, .ref l2), (3, .ref l3), (4, .int l4)]) rfl ?_)
      refine xm_aload_n dL_law_705 rfl ?_
      refine xb_if hf (fun hb hf => ?_) (fun _ q => nomatch q)
      obtain ⟨p68, ep68, hf⟩ := xbind hf
      refine xb_callV (As := []) (v0 := (some (.int p68))) (τ0 := p67.2) dL_law_706 (xc_X12_thrown _ _) xcl12 xw_1802 xw_1803 xw_1804 hb rfl (Nat.le_of_ble_eq_true rfl) rfl (Nat.le_of_ble_eq_true rfl) (fun Q1 hq => m_X12_thrown (d := d + 409) ep68 (fun g hg => by subst hg; exact hq)) ?_
      refine xm_iload dL_law_709 rfl ?_
      refine xb_icmp_eq 716 dL_law_711 (by decide) hf (fun c hf => ?_) (fun c hf => ?_)
      · refine xm_iload dL_law_716 rfl ?_
        refine xb_if_ne 733 dL_law_718 (by decide) hf (fun c hf => ?_) (fun c hf => ?_)
        · exact xm_sub [2, 3, 4, 5, 6] rfl (L_L_law_j733 p67.2 l0 l1 l2 l3 l4 hf hR hE hC)
        · refine xm_aload_n dL_law_721 rfl ?_
          refine xm_iconst dL_law_722 (v := 0) (by decide) ?_
          refine xb_lald dL_law_723 hf (fun x69 ex69 hf => ?_)
          refine xm_iload dL_law_724 rfl ?_
          refine xm_i2l dL_law_726 rfl ?_
          refine xm_lcmp dL_law_727 ?_
          refine xb_if_eq 733 dL_law_728 (by decide) hf (fun c hf => ?_) (fun c hf => ?_)
          · exact xm_sub [2, 3, 4, 5, 6] rfl (L_L_law_j733 p67.2 l0 l1 l2 l3 l4 hf hR hE hC)
          · refine xm_iconst dL_law_731 (v := 0) (by decide) ?_
            cases hf
            exact xm_zret dL_law_732 rfl rfl (hR _ rfl)
      · refine xm_iconst dL_law_714 (v := 0) (by decide) ?_
        cases hf
        exact xm_zret dL_law_715 rfl rfl (hR _ rfl)
    refine xb_if hf (fun c hf => ?_) (fun n10 hf => ?_)
    · refine xm_tableIn 736 dL_law_40 (by rw [c]; decide) (by rw [c]; decide) (by rw [c]; rfl) (by decide) ?_
      refine xm_aload_n dL_law_736 rfl ?_
      refine xm_aload_n dL_law_737 rfl ?_
      refine xm_iload dL_law_738 rfl ?_
      refine xm_iconst dL_law_740 (v := 1) (by decide) ?_
      refine xm_iadd dL_law_741 ?_
      refine xb_xLd dL_law_742 hf (fun x70 ex70 hf => ?_)
      refine xm_i2c dL_law_743 rfl ?_
      refine xm_aload_n dL_law_744 rfl ?_
      refine xm_iload dL_law_745 rfl ?_
      refine xm_iconst dL_law_747 (v := 2) (by decide) ?_
      refine xm_iadd dL_law_748 ?_
      refine xb_xLd dL_law_749 hf (fun x71 ex71 hf => ?_)
      refine xm_aload_n dL_law_750 rfl ?_
      refine xm_iload dL_law_751 rfl ?_
      refine xm_iconst dL_law_753 (v := 3) (by decide) ?_
      refine xm_iadd dL_law_754 ?_
      refine xb_xLd dL_law_755 hf (fun x72 ex72 hf => ?_)
      refine xm_aload_n dL_law_756 rfl ?_
      obtain ⟨p73, ep73, hf⟩ := xbind hf
      refine xb_callSW (As := [.ref l1, .int (((x70).toUInt32 % 65536).toInt32), .int x71, .int x72, .ref l3]) (v0 := some (.int p73.1)) (τ0 := p73.2) dL_law_757 xc_L_told xw_1014 xw_1015 rfl (Nat.le_of_ble_eq_true rfl) rfl (Nat.le_of_ble_eq_true rfl) (fun Q1 hq => m_L_told (d := d + 401) (C := 0) (Z := 0) ep73 (fun g hg => by subst hg; exact hq)) ?_
      refine xm_istore dL_law_760 (by decide) (xm_stL (L' := [(5, .int p73.1), (0, .ref xkX), (1, .ref l1), (2, .ref l2), (3, .ref l3), (4, .int l4)]) rfl ?_)
      refine xm_aload_n dL_law_762 rfl ?_
      refine xm_aload_n dL_law_763 rfl ?_
      refine xm_iload dL_law_764 rfl ?_
      refine xm_iconst dL_law_766 (v := 1) (by decide) ?_
      refine xm_iadd dL_law_767 ?_
      refine xb_xLd dL_law_768 hf (fun x74 ex74 hf => ?_)
      refine xm_i2c dL_law_769 rfl ?_
      refine xm_aload_n dL_law_770 rfl ?_
      refine xm_iload dL_law_771 rfl ?_
      refine xm_iconst dL_law_773 (v := 2) (by decide) ?_
      refine xm_iadd dL_law_774 ?_
      refine xb_xLd dL_law_775 hf (fun x75 ex75 hf => ?_)
      refine xm_aload_n dL_law_776 rfl ?_
      refine xm_iload dL_law_777 rfl ?_
      refine xm_iconst dL_law_779 (v := 3) (by decide) ?_
      refine xm_iadd dL_law_780 ?_
      refine xb_xLd dL_law_781 hf (fun x76 ex76 hf => ?_)
      refine xb_if hf (fun hb hf => ?_) (fun _ q => nomatch q)
      obtain ⟨p77, ep77, hf⟩ := xbind hf
      refine xb_callV (As := [.int (((x74).toUInt32 % 65536).toInt32), .int x75, .int x76]) (v0 := (some (.int p77.1))) (τ0 := p77.2) dL_law_782 (xc_X12_told _ _) xcl12 xw_2279 xw_2280 xw_2281 hb rfl (Nat.le_of_ble_eq_true rfl) rfl (Nat.le_of_ble_eq_true rfl) (fun Q1 hq => m_X12_told (d := d + 408) ep77 (fun g hg => by subst hg; exact hq)) ?_
      refine xm_istore dL_law_785 (by decide) (xm_stL (L' := [(6, .int p77.1), (5, .int p73.1), (0, .ref xkX), (1, .ref l1), (2, .ref l2), (3, .ref l3), (4, .int l4)]) rfl ?_)
      refine xm_aload_n dL_law_787 rfl ?_
      refine xb_if hf (fun hb hf => ?_) (fun _ q => nomatch q)
      obtain ⟨p78, ep78, hf⟩ := xbind hf
      refine xb_callV (As := []) (v0 := (some (.int p78))) (τ0 := p77.2) dL_law_788 (xc_X12_thrown _ _) xcl12 xw_1802 xw_1803 xw_1804 hb rfl (Nat.le_of_ble_eq_true rfl) rfl (Nat.le_of_ble_eq_true rfl) (fun Q1 hq => m_X12_thrown (d := d + 409) ep78 (fun g hg => by subst hg; exact hq)) ?_
      refine xm_iload dL_law_791 rfl ?_
      refine xb_icmp_eq 798 dL_law_793 (by decide) hf (fun c hf => ?_) (fun c hf => ?_)
      · refine xm_iload dL_law_798 rfl ?_
        refine xb_if_ne 815 dL_law_800 (by decide) hf (fun c hf => ?_) (fun c hf => ?_)
        · exact xm_sub [2, 3, 4, 5, 6] rfl (L_L_law_j815 p77.2 l0 l1 l2 l3 l4 hf hR hE hC)
        · refine xm_aload_n dL_law_803 rfl ?_
          refine xm_iconst dL_law_804 (v := 0) (by decide) ?_
          refine xb_lald dL_law_805 hf (fun x79 ex79 hf => ?_)
          refine xm_iload dL_law_806 rfl ?_
          refine xm_i2l dL_law_808 rfl ?_
          refine xm_lcmp dL_law_809 ?_
          refine xb_if_eq 815 dL_law_810 (by decide) hf (fun c hf => ?_) (fun c hf => ?_)
          · exact xm_sub [2, 3, 4, 5, 6] rfl (L_L_law_j815 p77.2 l0 l1 l2 l3 l4 hf hR hE hC)
          · refine xm_iconst dL_law_813 (v := 0) (by decide) ?_
            cases hf
            exact xm_zret dL_law_814 rfl rfl (hR _ rfl)
      · refine xm_iconst dL_law_796 (v := 0) (by decide) ?_
        cases hf
        exact xm_zret dL_law_797 rfl rfl (hR _ rfl)
    refine xb_if hf (fun c hf => ?_) (fun n11 hf => ?_)
    · refine xm_tableIn 818 dL_law_40 (by rw [c]; decide) (by rw [c]; decide) (by rw [c]; rfl) (by decide) ?_
      refine xm_aload_n dL_law_818 rfl ?_
      refine xm_aload_n dL_law_819 rfl ?_
      refine xm_iload dL_law_820 rfl ?_
      refine xm_iconst dL_law_822 (v := 1) (by decide) ?_
      refine xm_iadd dL_law_823 ?_
      refine xb_xLd dL_law_824 hf (fun x80 ex80 hf => ?_)
      refine xm_aload_n dL_law_825 rfl ?_
      obtain ⟨p81, ep81, hf⟩ := xbind hf
      refine xb_callSW (As := [.ref l1, .int x80, .ref l3]) (v0 := some (.int p81.1)) (τ0 := p81.2) dL_law_826 xc_L_print xw_1027 xw_1028 rfl (Nat.le_of_ble_eq_true rfl) rfl (Nat.le_of_ble_eq_true rfl) (fun Q1 hq => m_L_print (d := d + 6) (C := 0) (Z := 0) ep81 (fun g hg => by subst hg; exact hq)) ?_
      refine xm_istore dL_law_829 (by decide) (xm_stL (L' := [(5, .int p81.1), (0, .ref xkX), (1, .ref l1), (2, .ref l2), (3, .ref l3), (4, .int l4)]) rfl ?_)
      refine xm_aload_n dL_law_831 rfl ?_
      refine xm_aload_n dL_law_832 rfl ?_
      refine xm_iload dL_law_833 rfl ?_
      refine xm_iconst dL_law_835 (v := 1) (by decide) ?_
      refine xm_iadd dL_law_836 ?_
      refine xb_xLd dL_law_837 hf (fun x82 ex82 hf => ?_)
      refine xb_if hf (fun hb hf => ?_) (fun _ q => nomatch q)
      obtain ⟨p83, ep83, hf⟩ := xbind hf
      refine xb_callV (As := [.int x82]) (v0 := (some (.int p83.1))) (τ0 := p83.2) dL_law_838 (xc_X12_print _ _) xcl12 xw_2283 xw_2284 xw_2285 hb rfl (Nat.le_of_ble_eq_true rfl) rfl (Nat.le_of_ble_eq_true rfl) (fun Q1 hq => m_X12_print (d := d + 401) ep83 (fun g hg => by subst hg; exact hq)) ?_
      refine xm_istore dL_law_841 (by decide) (xm_stL (L' := [(6, .int p83.1), (5, .int p81.1), (0, .ref xkX), (1, .ref l1), (2, .ref l2), (3, .ref l3), (4, .int l4)]) rfl ?_)
      refine xm_aload_n dL_law_843 rfl ?_
      refine xb_if hf (fun hb hf => ?_) (fun _ q => nomatch q)
      obtain ⟨p84, ep84, hf⟩ := xbind hf
      refine xb_callV (As := []) (v0 := (some (.int p84))) (τ0 := p83.2) dL_law_844 (xc_X12_thrown _ _) xcl12 xw_1802 xw_1803 xw_1804 hb rfl (Nat.le_of_ble_eq_true rfl) rfl (Nat.le_of_ble_eq_true rfl) (fun Q1 hq => m_X12_thrown (d := d + 409) ep84 (fun g hg => by subst hg; exact hq)) ?_
      refine xm_iload dL_law_847 rfl ?_
      refine xb_icmp_eq 854 dL_law_849 (by decide) hf (fun c hf => ?_) (fun c hf => ?_)
      · refine xm_iload dL_law_854 rfl ?_
        refine xb_if_ne 871 dL_law_856 (by decide) hf (fun c hf => ?_) (fun c hf => ?_)
        · exact xm_sub [2, 3, 4, 5, 6] rfl (L_L_law_j871 p83.2 l0 l1 l2 l3 l4 hf hR hE hC)
        · refine xm_aload_n dL_law_859 rfl ?_
          refine xm_iconst dL_law_860 (v := 0) (by decide) ?_
          refine xb_lald dL_law_861 hf (fun x85 ex85 hf => ?_)
          refine xm_iload dL_law_862 rfl ?_
          refine xm_i2l dL_law_864 rfl ?_
          refine xm_lcmp dL_law_865 ?_
          refine xb_if_eq 871 dL_law_866 (by decide) hf (fun c hf => ?_) (fun c hf => ?_)
          · exact xm_sub [2, 3, 4, 5, 6] rfl (L_L_law_j871 p83.2 l0 l1 l2 l3 l4 hf hR hE hC)
          · refine xm_iconst dL_law_869 (v := 0) (by decide) ?_
            cases hf
            exact xm_zret dL_law_870 rfl rfl (hR _ rfl)
      · refine xm_iconst dL_law_852 (v := 0) (by decide) ?_
        cases hf
        exact xm_zret dL_law_853 rfl rfl (hR _ rfl)
    refine xb_if hf (fun c hf => ?_) (fun n12 hf => ?_)
    · refine xm_tableIn 874 dL_law_40 (by rw [c]; decide) (by rw [c]; decide) (by rw [c]; rfl) (by decide) ?_
      refine xm_aload_n dL_law_874 rfl ?_
      refine xm_aload_n dL_law_875 rfl ?_
      refine xm_iload dL_law_876 rfl ?_
      refine xm_iconst dL_law_878 (v := 1) (by decide) ?_
      refine xm_iadd dL_law_879 ?_
      refine xb_xLd dL_law_880 hf (fun x86 ex86 hf => ?_)
      refine xm_aload_n dL_law_881 rfl ?_
      obtain ⟨p87, ep87, hf⟩ := xbind hf
      refine xb_callSW (As := [.ref l1, .int x86, .ref l3]) (v0 := some (.int p87.1)) (τ0 := p87.2) dL_law_882 xc_L_postfix xw_1085 xw_1086 rfl (Nat.le_of_ble_eq_true rfl) rfl (Nat.le_of_ble_eq_true rfl) (fun Q1 hq => m_L_postfix (d := d + 400) (C := 0) (Z := 0) ep87 (fun g hg => by subst hg; exact hq)) ?_
      refine xm_istore dL_law_885 (by decide) (xm_stL (L' := [(5, .int p87.1), (0, .ref xkX), (1, .ref l1), (2, .ref l2), (3, .ref l3), (4, .int l4)]) rfl ?_)
      refine xm_aload_n dL_law_887 rfl ?_
      refine xm_aload_n dL_law_888 rfl ?_
      refine xm_iload dL_law_889 rfl ?_
      refine xm_iconst dL_law_891 (v := 1) (by decide) ?_
      refine xm_iadd dL_law_892 ?_
      refine xb_xLd dL_law_893 hf (fun x88 ex88 hf => ?_)
      refine xb_if hf (fun hb hf => ?_) (fun _ q => nomatch q)
      obtain ⟨p89, ep89, hf⟩ := xbind hf
      refine xb_callV (As := [.int x88]) (v0 := (some (.int p89.1))) (τ0 := p89.2) dL_law_894 (xc_X12_postfix _ _) xcl12 xw_2331 xw_2332 xw_2333 hb rfl (Nat.le_of_ble_eq_true rfl) rfl (Nat.le_of_ble_eq_true rfl) (fun Q1 hq => m_X12_postfix (d := d + 406) ep89 (fun g hg => by subst hg; exact hq)) ?_
      refine xm_istore dL_law_897 (by decide) (xm_stL (L' := [(6, .int p89.1), (5, .int p87.1), (0, .ref xkX), (1, .ref l1), (2, .ref l2), (3, .ref l3), (4, .int l4)]) rfl ?_)
      refine xm_aload_n dL_law_899 rfl ?_
      refine xb_if hf (fun hb hf => ?_) (fun _ q => nomatch q)
      obtain ⟨p90, ep90, hf⟩ := xbind hf
      refine xb_callV (As := []) (v0 := (some (.int p90))) (τ0 := p89.2) dL_law_900 (xc_X12_thrown _ _) xcl12 xw_1802 xw_1803 xw_1804 hb rfl (Nat.le_of_ble_eq_true rfl) rfl (Nat.le_of_ble_eq_true rfl) (fun Q1 hq => m_X12_thrown (d := d + 409) ep90 (fun g hg => by subst hg; exact hq)) ?_
      refine xm_iload dL_law_903 rfl ?_
      refine xb_icmp_eq 910 dL_law_905 (by decide) hf (fun c hf => ?_) (fun c hf => ?_)
      · refine xm_iload dL_law_910 rfl ?_
        refine xb_if_ne 927 dL_law_912 (by decide) hf (fun c hf => ?_) (fun c hf => ?_)
        · exact xm_sub [2, 3, 4, 5, 6] rfl (L_L_law_j927 p89.2 l0 l1 l2 l3 l4 hf hR hE hC)
        · refine xm_aload_n dL_law_915 rfl ?_
          refine xm_iconst dL_law_916 (v := 0) (by decide) ?_
          refine xb_lald dL_law_917 hf (fun x91 ex91 hf => ?_)
          refine xm_iload dL_law_918 rfl ?_
          refine xm_i2l dL_law_920 rfl ?_
          refine xm_lcmp dL_law_921 ?_
          refine xb_if_eq 927 dL_law_922 (by decide) hf (fun c hf => ?_) (fun c hf => ?_)
          · exact xm_sub [2, 3, 4, 5, 6] rfl (L_L_law_j927 p89.2 l0 l1 l2 l3 l4 hf hR hE hC)
          · refine xm_iconst dL_law_925 (v := 0) (by decide) ?_
            cases hf
            exact xm_zret dL_law_926 rfl rfl (hR _ rfl)
      · refine xm_iconst dL_law_908 (v := 0) (by decide) ?_
        cases hf
        exact xm_zret dL_law_909 rfl rfl (hR _ rfl)
    refine xb_if hf (fun c hf => ?_) (fun n13 hf => ?_)
    · refine xm_tableIn 930 dL_law_40 (by rw [c]; decide) (by rw [c]; decide) (by rw [c]; rfl) (by decide) ?_
      refine xm_aload_n dL_law_930 rfl ?_
      refine xm_aload_n dL_law_931 rfl ?_
      refine xm_iload dL_law_932 rfl ?_
      refine xm_iconst dL_law_934 (v := 1) (by decide) ?_
      refine xm_iadd dL_law_935 ?_
      refine xb_xLd dL_law_936 hf (fun x92 ex92 hf => ?_)
      refine xm_aload_n dL_law_937 rfl ?_
      obtain ⟨p93, ep93, hf⟩ := xbind hf
      refine xb_callSW (As := [.ref l1, .int x92, .ref l3]) (v0 := some (.int p93.1)) (τ0 := p93.2) dL_law_938 xc_L_out xw_1106 xw_1107 rfl (Nat.le_of_ble_eq_true rfl) rfl (Nat.le_of_ble_eq_true rfl) (fun Q1 hq => m_L_out (d := d + 401) (C := 0) (Z := 0) ep93 (fun g hg => by subst hg; exact hq)) ?_
      refine xm_istore dL_law_941 (by decide) (xm_stL (L' := [(5, .int p93.1), (0, .ref xkX), (1, .ref l1), (2, .ref l2), (3, .ref l3), (4, .int l4)]) rfl ?_)
      refine xm_aload_n dL_law_943 rfl ?_
      refine xm_aload_n dL_law_944 rfl ?_
      refine xm_iload dL_law_945 rfl ?_
      refine xm_iconst dL_law_947 (v := 1) (by decide) ?_
      refine xm_iadd dL_law_948 ?_
      refine xb_xLd dL_law_949 hf (fun x94 ex94 hf => ?_)
      refine xb_if hf (fun hb hf => ?_) (fun _ q => nomatch q)
      obtain ⟨p95, ep95, hf⟩ := xbind hf
      refine xb_callV (As := [.int x94]) (v0 := (some (.int p95.1))) (τ0 := p95.2) dL_law_950 (xc_X12_out _ _) xcl12 xw_2347 xw_2348 xw_2349 hb rfl (Nat.le_of_ble_eq_true rfl) rfl (Nat.le_of_ble_eq_true rfl) (fun Q1 hq => m_X12_out (d := d + 408) ep95 (fun g hg => by subst hg; exact hq)) ?_
      refine xm_istore dL_law_953 (by decide) (xm_stL (L' := [(6, .int p95.1), (5, .int p93.1), (0, .ref xkX), (1, .ref l1), (2, .ref l2), (3, .ref l3), (4, .int l4)]) rfl ?_)
      refine xm_aload_n dL_law_955 rfl ?_
      refine xb_if hf (fun hb hf => ?_) (fun _ q => nomatch q)
      obtain ⟨p96, ep96, hf⟩ := xbind hf
      refine xb_callV (As := []) (v0 := (some (.int p96))) (τ0 := p95.2) dL_law_956 (xc_X12_thrown _ _) xcl12 xw_1802 xw_1803 xw_1804 hb rfl (Nat.le_of_ble_eq_true rfl) rfl (Nat.le_of_ble_eq_true rfl) (fun Q1 hq => m_X12_thrown (d := d + 409) ep96 (fun g hg => by subst hg; exact hq)) ?_
      refine xm_iload dL_law_959 rfl ?_
      refine xb_icmp_eq 966 dL_law_961 (by decide) hf (fun c hf => ?_) (fun c hf => ?_)
      · refine xm_iload dL_law_966 rfl ?_
        refine xb_if_ne 983 dL_law_968 (by decide) hf (fun c hf => ?_) (fun c hf => ?_)
        · exact xm_sub [2, 3, 4, 5, 6] rfl (L_L_law_j983 p95.2 l0 l1 l2 l3 l4 hf hR hE hC)
        · refine xm_aload_n dL_law_971 rfl ?_
          refine xm_iconst dL_law_972 (v := 0) (by decide) ?_
          refine xb_lald dL_law_973 hf (fun x97 ex97 hf => ?_)
          refine xm_iload dL_law_974 rfl ?_
          refine xm_i2l dL_law_976 rfl ?_
          refine xm_lcmp dL_law_977 ?_
          refine xb_if_eq 983 dL_law_978 (by decide) hf (fun c hf => ?_) (fun c hf => ?_)
          · exact xm_sub [2, 3, 4, 5, 6] rfl (L_L_law_j983 p95.2 l0 l1 l2 l3 l4 hf hR hE hC)
          · refine xm_iconst dL_law_981 (v := 0) (by decide) ?_
            cases hf
            exact xm_zret dL_law_982 rfl rfl (hR _ rfl)
      · refine xm_iconst dL_law_964 (v := 0) (by decide) ?_
        cases hf
        exact xm_zret dL_law_965 rfl rfl (hR _ rfl)
    refine xb_if hf (fun c hf => ?_) (fun n14 hf => ?_)
    · refine xm_tableIn 986 dL_law_40 (by rw [c]; decide) (by rw [c]; decide) (by rw [c]; rfl) (by decide) ?_
      refine xm_aload_n dL_law_986 rfl ?_
      refine xm_aload_n dL_law_987 rfl ?_
      refine xm_iload dL_law_988 rfl ?_
      refine xm_iconst dL_law_990 (v := 1) (by decide) ?_
      refine xm_iadd dL_law_991 ?_
      refine xb_xLd dL_law_992 hf (fun x98 ex98 hf => ?_)
      refine xm_aload_n dL_law_993 rfl ?_
      obtain ⟨p99, ep99, hf⟩ := xbind hf
      refine xb_callSW (As := [.ref l1, .int x98, .ref l3]) (v0 := some (.int p99.1)) (τ0 := p99.2) dL_law_994 xc_L_evaluate xw_1114 xw_1115 rfl (Nat.le_of_ble_eq_true rfl) rfl (Nat.le_of_ble_eq_true rfl) (fun Q1 hq => m_L_evaluate (d := d + 400) (C := 0) (Z := 0) ep99 (fun g hg => by subst hg; exact hq)) ?_
      refine xm_istore dL_law_997 (by decide) (xm_stL (L' := [(5, .int p99.1), (0, .ref xkX), (1, .ref l1), (2, .ref l2), (3, .ref l3), (4, .int l4)]) rfl ?_)
      refine xm_aload_n dL_law_999 rfl ?_
      refine xm_aload_n dL_law_1000 rfl ?_
      refine xm_iload dL_law_1001 rfl ?_
      refine xm_iconst dL_law_1003 (v := 1) (by decide) ?_
      refine xm_iadd dL_law_1004 ?_
      refine xb_xLd dL_law_1005 hf (fun x100 ex100 hf => ?_)
      refine xb_if hf (fun hb hf => ?_) (fun _ q => nomatch q)
      obtain ⟨p101, ep101, hf⟩ := xbind hf
      refine xb_callV (As := [.int x100]) (v0 := (some (.int p101.1))) (τ0 := p101.2) dL_law_1006 (xc_X12_evaluate _ _) xcl12 xw_2351 xw_2352 xw_2353 hb rfl (Nat.le_of_ble_eq_true rfl) rfl (Nat.le_of_ble_eq_true rfl) (fun Q1 hq => m_X12_evaluate (d := d + 397) ep101 (fun g hg => by subst hg; exact hq)) ?_
      refine xm_istore dL_law_1009 (by decide) (xm_stL (L' := [(6, .int p101.1), (5, .int p99.1), (0, .ref xkX), (1, .ref l1), (2, .ref l2), (3, .ref l3), (4, .int l4)]) rfl ?_)
      refine xm_aload_n dL_law_1011 rfl ?_
      refine xb_if hf (fun hb hf => ?_) (fun _ q => nomatch q)
      obtain ⟨p102, ep102, hf⟩ := xbind hf
      refine xb_callV (As := []) (v0 := (some (.int p102))) (τ0 := p101.2) dL_law_1012 (xc_X12_thrown _ _) xcl12 xw_1802 xw_1803 xw_1804 hb rfl (Nat.le_of_ble_eq_true rfl) rfl (Nat.le_of_ble_eq_true rfl) (fun Q1 hq => m_X12_thrown (d := d + 409) ep102 (fun g hg => by subst hg; exact hq)) ?_
      refine xm_iload dL_law_1015 rfl ?_
      refine xb_icmp_eq 1022 dL_law_1017 (by decide) hf (fun c hf => ?_) (fun c hf => ?_)
      · refine xm_iload dL_law_1022 rfl ?_
        refine xb_if_ne 1039 dL_law_1024 (by decide) hf (fun c hf => ?_) (fun c hf => ?_)
        · exact xm_sub [2, 3, 4, 5, 6] rfl (L_L_law_j1039 p101.2 l0 l1 l2 l3 l4 hf hR hE hC)
        · refine xm_aload_n dL_law_1027 rfl ?_
          refine xm_iconst dL_law_1028 (v := 0) (by decide) ?_
          refine xb_lald dL_law_1029 hf (fun x103 ex103 hf => ?_)
          refine xm_iload dL_law_1030 rfl ?_
          refine xm_i2l dL_law_1032 rfl ?_
          refine xm_lcmp dL_law_1033 ?_
          refine xb_if_eq 1039 dL_law_1034 (by decide) hf (fun c hf => ?_) (fun c hf => ?_)
          · exact xm_sub [2, 3, 4, 5, 6] rfl (L_L_law_j1039 p101.2 l0 l1 l2 l3 l4 hf hR hE hC)
          · refine xm_iconst dL_law_1037 (v := 0) (by decide) ?_
            cases hf
            exact xm_zret dL_law_1038 rfl rfl (hR _ rfl)
      · refine xm_iconst dL_law_1020 (v := 0) (by decide) ?_
        cases hf
        exact xm_zret dL_law_1021 rfl rfl (hR _ rfl)
    refine xb_if hf (fun c hf => ?_) (fun n15 hf => ?_)
    · refine xm_tableIn 1042 dL_law_40 (by rw [c]; decide) (by rw [c]; decide) (by rw [c]; rfl) (by decide) ?_
      refine xm_aload_n dL_law_1042 rfl ?_
      refine xm_aload_n dL_law_1043 rfl ?_
      refine xm_iload dL_law_1044 rfl ?_
      refine xm_iconst dL_law_1046 (v := 1) (by decide) ?_
      refine xm_iadd dL_law_1047 ?_
      refine xb_xLd dL_law_1048 hf (fun x104 ex104 hf => ?_)
      refine xm_aload_n dL_law_1049 rfl ?_
      obtain ⟨p105, ep105, hf⟩ := xbind hf
      refine xb_callSW (As := [.ref l1, .int x104, .ref l3]) (v0 := some (.int p105.1)) (τ0 := p105.2) dL_law_1050 xc_L_reckon xw_1379 xw_1380 rfl (Nat.le_of_ble_eq_true rfl) rfl (Nat.le_of_ble_eq_true rfl) (fun Q1 hq => m_L_reckon (d := d + 400) (C := 0) (Z := 0) ep105 (fun g hg => by subst hg; exact hq)) ?_
      refine xm_istore dL_law_1053 (by decide) (xm_stL (L' := [(5, .int p105.1), (0, .ref xkX), (1, .ref l1), (2, .ref l2), (3, .ref l3), (4, .int l4)]) rfl ?_)
      refine xm_aload_n dL_law_1055 rfl ?_
      refine xm_aload_n dL_law_1056 rfl ?_
      refine xm_iload dL_law_1057 rfl ?_
      refine xm_iconst dL_law_1059 (v := 1) (by decide) ?_
      refine xm_iadd dL_law_1060 ?_
      refine xb_xLd dL_law_1061 hf (fun x106 ex106 hf => ?_)
      refine xb_if hf (fun hb hf => ?_) (fun _ q => nomatch q)
      obtain ⟨p107, ep107, hf⟩ := xbind hf
      refine xb_callV (As := [.int x106]) (v0 := (some (.int p107.1))) (τ0 := p107.2) dL_law_1062 (xc_X12_reckon _ _) xcl12 xw_2544 xw_2545 xw_2546 hb rfl (Nat.le_of_ble_eq_true rfl) rfl (Nat.le_of_ble_eq_true rfl) (fun Q1 hq => m_X12_reckon (d := d + 397) ep107 (fun g hg => by subst hg; exact hq)) ?_
      refine xm_istore dL_law_1065 (by decide) (xm_stL (L' := [(6, .int p107.1), (5, .int p105.1), (0, .ref xkX), (1, .ref l1), (2, .ref l2), (3, .ref l3), (4, .int l4)]) rfl ?_)
      refine xm_aload_n dL_law_1067 rfl ?_
      refine xb_if hf (fun hb hf => ?_) (fun _ q => nomatch q)
      obtain ⟨p108, ep108, hf⟩ := xbind hf
      refine xb_callV (As := []) (v0 := (some (.int p108))) (τ0 := p107.2) dL_law_1068 (xc_X12_thrown _ _) xcl12 xw_1802 xw_1803 xw_1804 hb rfl (Nat.le_of_ble_eq_true rfl) rfl (Nat.le_of_ble_eq_true rfl) (fun Q1 hq => m_X12_thrown (d := d + 409) ep108 (fun g hg => by subst hg; exact hq)) ?_
      refine xm_iload dL_law_1071 rfl ?_
      refine xb_icmp_eq 1078 dL_law_1073 (by decide) hf (fun c hf => ?_) (fun c hf => ?_)
      · refine xm_iload dL_law_1078 rfl ?_
        refine xb_if_ne 1095 dL_law_1080 (by decide) hf (fun c hf => ?_) (fun c hf => ?_)
        · exact xm_sub [2, 3, 4, 5, 6] rfl (L_L_law_j1095 p107.2 l0 l1 l2 l3 l4 hf hR hE hC)
        · refine xm_aload_n dL_law_1083 rfl ?_
          refine xm_iconst dL_law_1084 (v := 0) (by decide) ?_
          refine xb_lald dL_law_1085 hf (fun x109 ex109 hf => ?_)
          refine xm_iload dL_law_1086 rfl ?_
          refine xm_i2l dL_law_1088 rfl ?_
          refine xm_lcmp dL_law_1089 ?_
          refine xb_if_eq 1095 dL_law_1090 (by decide) hf (fun c hf => ?_) (fun c hf => ?_)
          · exact xm_sub [2, 3, 4, 5, 6] rfl (L_L_law_j1095 p107.2 l0 l1 l2 l3 l4 hf hR hE hC)
          · refine xm_iconst dL_law_1093 (v := 0) (by decide) ?_
            cases hf
            exact xm_zret dL_law_1094 rfl rfl (hR _ rfl)
      · refine xm_iconst dL_law_1076 (v := 0) (by decide) ?_
        cases hf
        exact xm_zret dL_law_1077 rfl rfl (hR _ rfl)
    refine xb_if hf (fun c hf => ?_) (fun n16 hf => ?_)
    · refine xm_tableIn 1098 dL_law_40 (by rw [c]; decide) (by rw [c]; decide) (by rw [c]; rfl) (by decide) ?_
      refine xm_aload_n dL_law_1098 rfl ?_
      refine xm_aload_n dL_law_1099 rfl ?_
      refine xm_iload dL_law_1100 rfl ?_
      refine xm_iconst dL_law_1102 (v := 1) (by decide) ?_
      refine xm_iadd dL_law_1103 ?_
      refine xb_xLd dL_law_1104 hf (fun x110 ex110 hf => ?_)
      refine xm_aload_n dL_law_1105 rfl ?_
      refine xm_iload dL_law_1106 rfl ?_
      refine xm_iconst dL_law_1108 (v := 2) (by decide) ?_
      refine xm_iadd dL_law_1109 ?_
      refine xb_xLd dL_law_1110 hf (fun x111 ex111 hf => ?_)
      refine xm_aload_n dL_law_1111 rfl ?_
      obtain ⟨p112, ep112, hf⟩ := xbind hf
      refine xb_callSW (As := [.ref l1, .int x110, .int x111, .ref l3]) (v0 := some (.int p112.1)) (τ0 := p112.2) dL_law_1112 xc_L_answer xw_1390 xw_1391 rfl (Nat.le_of_ble_eq_true rfl) rfl (Nat.le_of_ble_eq_true rfl) (fun Q1 hq => m_L_answer (d := d + 401) (C := 0) (Z := 0) ep112 (fun g hg => by subst hg; exact hq)) ?_
      refine xm_istore dL_law_1115 (by decide) (xm_stL (L' := [(5, .int p112.1), (0, .ref xkX), (1, .ref l1), (2, .ref l2), (3, .ref l3), (4, .int l4)]) rfl ?_)
      refine xm_aload_n dL_law_1117 rfl ?_
      refine xm_aload_n dL_law_1118 rfl ?_
      refine xm_iload dL_law_1119 rfl ?_
      refine xm_iconst dL_law_1121 (v := 1) (by decide) ?_
      refine xm_iadd dL_law_1122 ?_
      refine xb_xLd dL_law_1123 hf (fun x113 ex113 hf => ?_)
      refine xm_aload_n dL_law_1124 rfl ?_
      refine xm_iload dL_law_1125 rfl ?_
      refine xm_iconst dL_law_1127 (v := 2) (by decide) ?_
      refine xm_iadd dL_law_1128 ?_
      refine xb_xLd dL_law_1129 hf (fun x114 ex114 hf => ?_)
      refine xb_if hf (fun hb hf => ?_) (fun _ q => nomatch q)
      obtain ⟨p115, ep115, hf⟩ := xbind hf
      refine xb_callV (As := [.int x113, .int x114]) (v0 := (some (.int p115.1))) (τ0 := p115.2) dL_law_1130 (xc_X12_answer _ _) xcl12 xw_2548 xw_2549 xw_2550 hb rfl (Nat.le_of_ble_eq_true rfl) rfl (Nat.le_of_ble_eq_true rfl) (fun Q1 hq => m_X12_answer (d := d + 406) ep115 (fun g hg => by subst hg; exact hq)) ?_
      refine xm_istore dL_law_1133 (by decide) (xm_stL (L' := [(6, .int p115.1), (5, .int p112.1), (0, .ref xkX), (1, .ref l1), (2, .ref l2), (3, .ref l3), (4, .int l4)]) rfl ?_)
      refine xm_aload_n dL_law_1135 rfl ?_
      refine xb_if hf (fun hb hf => ?_) (fun _ q => nomatch q)
      obtain ⟨p116, ep116, hf⟩ := xbind hf
      refine xb_callV (As := []) (v0 := (some (.int p116))) (τ0 := p115.2) dL_law_1136 (xc_X12_thrown _ _) xcl12 xw_1802 xw_1803 xw_1804 hb rfl (Nat.le_of_ble_eq_true rfl) rfl (Nat.le_of_ble_eq_true rfl) (fun Q1 hq => m_X12_thrown (d := d + 409) ep116 (fun g hg => by subst hg; exact hq)) ?_
      refine xm_iload dL_law_1139 rfl ?_
      refine xb_icmp_eq 1146 dL_law_1141 (by decide) hf (fun c hf => ?_) (fun c hf => ?_)
      · refine xm_iload dL_law_1146 rfl ?_
        refine xb_if_ne 1163 dL_law_1148 (by decide) hf (fun c hf => ?_) (fun c hf => ?_)
        · exact xm_sub [2, 3, 4, 5, 6] rfl (L_L_law_j1163 p115.2 l0 l1 l2 l3 l4 hf hR hE hC)
        · refine xm_aload_n dL_law_1151 rfl ?_
          refine xm_iconst dL_law_1152 (v := 0) (by decide) ?_
          refine xb_lald dL_law_1153 hf (fun x117 ex117 hf => ?_)
          refine xm_iload dL_law_1154 rfl ?_
          refine xm_i2l dL_law_1156 rfl ?_
          refine xm_lcmp dL_law_1157 ?_
          refine xb_if_eq 1163 dL_law_1158 (by decide) hf (fun c hf => ?_) (fun c hf => ?_)
          · exact xm_sub [2, 3, 4, 5, 6] rfl (L_L_law_j1163 p115.2 l0 l1 l2 l3 l4 hf hR hE hC)
          · refine xm_iconst dL_law_1161 (v := 0) (by decide) ?_
            cases hf
            exact xm_zret dL_law_1162 rfl rfl (hR _ rfl)
      · refine xm_iconst dL_law_1144 (v := 0) (by decide) ?_
        cases hf
        exact xm_zret dL_law_1145 rfl rfl (hR _ rfl)
    refine xb_if hf (fun c hf => ?_) (fun n17 hf => ?_)
    · refine xm_tableIn 1166 dL_law_40 (by rw [c]; decide) (by rw [c]; decide) (by rw [c]; rfl) (by decide) ?_
      refine xm_aload_n dL_law_1166 rfl ?_
      refine xm_aload_n dL_law_1167 rfl ?_
      refine xm_iload dL_law_1168 rfl ?_
      refine xm_iconst dL_law_1170 (v := 1) (by decide) ?_
      refine xm_iadd dL_law_1171 ?_
      refine xb_xLd dL_law_1172 hf (fun x118 ex118 hf => ?_)
      refine xm_i2c dL_law_1173 rfl ?_
      refine xm_aload_n dL_law_1174 rfl ?_
      refine xm_iload dL_law_1175 rfl ?_
      refine xm_iconst dL_law_1177 (v := 2) (by decide) ?_
      refine xm_iadd dL_law_1178 ?_
      refine xb_xLd dL_law_1179 hf (fun x119 ex119 hf => ?_)
      refine xm_aload_n dL_law_1180 rfl ?_
      obtain ⟨p120, ep120, hf⟩ := xbind hf
      refine xb_callSW (As := [.ref l1, .int (((x118).toUInt32 % 65536).toInt32), .int x119, .ref l3]) (v0 := some (.int p120.1)) (τ0 := p120.2) dL_law_1181 xc_L_let xw_1405 xw_1406 rfl (Nat.le_of_ble_eq_true rfl) rfl (Nat.le_of_ble_eq_true rfl) (fun Q1 hq => m_L_let (d := d + 399) (C := 0) (Z := 0) ep120 (fun g hg => by subst hg; exact hq)) ?_
      refine xm_istore dL_law_1184 (by decide) (xm_stL (L' := [(5, .int p120.1), (0, .ref xkX), (1, .ref l1), (2, .ref l2), (3, .ref l3), (4, .int l4)]) rfl ?_)
      refine xm_aload_n dL_law_1186 rfl ?_
      refine xm_aload_n dL_law_1187 rfl ?_
      refine xm_iload dL_law_1188 rfl ?_
      refine xm_iconst dL_law_1190 (v := 1) (by decide) ?_
      refine xm_iadd dL_law_1191 ?_
      refine xb_xLd dL_law_1192 hf (fun x121 ex121 hf => ?_)
      refine xm_i2c dL_law_1193 rfl ?_
      refine xm_aload_n dL_law_1194 rfl ?_
      refine xm_iload dL_law_1195 rfl ?_
      refine xm_iconst dL_law_1197 (v := 2) (by decide) ?_
      refine xm_iadd dL_law_1198 ?_
      refine xb_xLd dL_law_1199 hf (fun x122 ex122 hf => ?_)
      refine xb_if hf (fun hb hf => ?_) (fun _ q => nomatch q)
      obtain ⟨p123, ep123, hf⟩ := xbind hf
      refine xb_callV (As := [.int (((x121).toUInt32 % 65536).toInt32), .int x122]) (v0 := (some (.int p123.1))) (τ0 := p123.2) dL_law_1200 (xc_X12_let _ _) xcl12 xw_2552 xw_2553 xw_2554 hb rfl (Nat.le_of_ble_eq_true rfl) rfl (Nat.le_of_ble_eq_true rfl) (fun Q1 hq => m_X12_let (d := d + 398) ep123 (fun g hg => by subst hg; exact hq)) ?_
      refine xm_istore dL_law_1203 (by decide) (xm_stL (L' := [(6, .int p123.1), (5, .int p120.1), (0, .ref xkX), (1, .ref l1), (2, .ref l2), (3, .ref l3), (4, .int l4)]) rfl ?_)
      refine xm_aload_n dL_law_1205 rfl ?_
      refine xb_if hf (fun hb hf => ?_) (fun _ q => nomatch q)
      obtain ⟨p124, ep124, hf⟩ := xbind hf
      refine xb_callV (As := []) (v0 := (some (.int p124))) (τ0 := p123.2) dL_law_1206 (xc_X12_thrown _ _) xcl12 xw_1802 xw_1803 xw_1804 hb rfl (Nat.le_of_ble_eq_true rfl) rfl (Nat.le_of_ble_eq_true rfl) (fun Q1 hq => m_X12_thrown (d := d + 409) ep124 (fun g hg => by subst hg; exact hq)) ?_
      refine xm_iload dL_law_1209 rfl ?_
      refine xb_icmp_eq 1216 dL_law_1211 (by decide) hf (fun c hf => ?_) (fun c hf => ?_)
      · refine xm_iload dL_law_1216 rfl ?_
        refine xb_if_ne 1233 dL_law_1218 (by decide) hf (fun c hf => ?_) (fun c hf => ?_)
        · exact xm_sub [2, 3, 4, 5, 6] rfl (L_L_law_j1233 p123.2 l0 l1 l2 l3 l4 hf hR hE hC)
        · refine xm_aload_n dL_law_1221 rfl ?_
          refine xm_iconst dL_law_1222 (v := 0) (by decide) ?_
          refine xb_lald dL_law_1223 hf (fun x125 ex125 hf => ?_)
          refine xm_iload dL_law_1224 rfl ?_
          refine xm_i2l dL_law_1226 rfl ?_
          refine xm_lcmp dL_law_1227 ?_
          refine xb_if_eq 1233 dL_law_1228 (by decide) hf (fun c hf => ?_) (fun c hf => ?_)
          · exact xm_sub [2, 3, 4, 5, 6] rfl (L_L_law_j1233 p123.2 l0 l1 l2 l3 l4 hf hR hE hC)
          · refine xm_iconst dL_law_1231 (v := 0) (by decide) ?_
            cases hf
            exact xm_zret dL_law_1232 rfl rfl (hR _ rfl)
      · refine xm_iconst dL_law_1214 (v := 0) (by decide) ?_
        cases hf
        exact xm_zret dL_law_1215 rfl rfl (hR _ rfl)
    refine xb_if hf (fun c hf => ?_) (fun n18 hf => ?_)
    · refine xm_tableIn 1236 dL_law_40 (by rw [c]; decide) (by rw [c]; decide) (by rw [c]; rfl) (by decide) ?_
      refine xm_aload_n dL_law_1236 rfl ?_
      refine xm_aload_n dL_law_1237 rfl ?_
      refine xm_iload dL_law_1238 rfl ?_
      refine xm_iconst dL_law_1240 (v := 1) (by decide) ?_
      refine xm_iadd dL_law_1241 ?_
      refine xb_xLd dL_law_1242 hf (fun x126 ex126 hf => ?_)
      refine xm_i2c dL_law_1243 rfl ?_
      refine xm_aload_n dL_law_1244 rfl ?_
      obtain ⟨p127, ep127, hf⟩ := xbind hf
      refine xb_callSW (As := [.ref l1, .int (((x126).toUInt32 % 65536).toInt32), .ref l3]) (v0 := some (.int p127.1)) (τ0 := p127.2) dL_law_1245 xc_L_unlet xw_1424 xw_1425 rfl (Nat.le_of_ble_eq_true rfl) rfl (Nat.le_of_ble_eq_true rfl) (fun Q1 hq => m_L_unlet (d := d + 399) (C := 0) (Z := 0) ep127 (fun g hg => by subst hg; exact hq)) ?_
      refine xm_istore dL_law_1248 (by decide) (xm_stL (L' := [(5, .int p127.1), (0, .ref xkX), (1, .ref l1), (2, .ref l2), (3, .ref l3), (4, .int l4)]) rfl ?_)
      refine xm_aload_n dL_law_1250 rfl ?_
      refine xm_aload_n dL_law_1251 rfl ?_
      refine xm_iload dL_law_1252 rfl ?_
      refine xm_iconst dL_law_1254 (v := 1) (by decide) ?_
      refine xm_iadd dL_law_1255 ?_
      refine xb_xLd dL_law_1256 hf (fun x128 ex128 hf => ?_)
      refine xm_i2c dL_law_1257 rfl ?_
      refine xb_if hf (fun hb hf => ?_) (fun _ q => nomatch q)
      obtain ⟨p129, ep129, hf⟩ := xbind hf
      refine xb_callV (As := [.int (((x128).toUInt32 % 65536).toInt32)]) (v0 := (some (.int p129.1))) (τ0 := p129.2) dL_law_1258 (xc_X12_unlet _ _) xcl12 xw_2560 xw_2561 xw_2562 hb rfl (Nat.le_of_ble_eq_true rfl) rfl (Nat.le_of_ble_eq_true rfl) (fun Q1 hq => m_X12_unlet (d := d + 407) ep129 (fun g hg => by subst hg; exact hq)) ?_
      refine xm_istore dL_law_1261 (by decide) (xm_stL (L' := [(6, .int p129.1), (5, .int p127.1), (0, .ref xkX), (1, .ref l1), (2, .ref l2), (3, .ref l3), (4, .int l4)]) rfl ?_)
      refine xm_aload_n dL_law_1263 rfl ?_
      refine xb_if hf (fun hb hf => ?_) (fun _ q => nomatch q)
      obtain ⟨p130, ep130, hf⟩ := xbind hf
      refine xb_callV (As := []) (v0 := (some (.int p130))) (τ0 := p129.2) dL_law_1264 (xc_X12_thrown _ _) xcl12 xw_1802 xw_1803 xw_1804 hb rfl (Nat.le_of_ble_eq_true rfl) rfl (Nat.le_of_ble_eq_true rfl) (fun Q1 hq => m_X12_thrown (d := d + 409) ep130 (fun g hg => by subst hg; exact hq)) ?_
      refine xm_iload dL_law_1267 rfl ?_
      refine xb_icmp_eq 1274 dL_law_1269 (by decide) hf (fun c hf => ?_) (fun c hf => ?_)
      · refine xm_iload dL_law_1274 rfl ?_
        refine xb_if_ne 1298 dL_law_1276 (by decide) hf (fun c hf => ?_) (fun c hf => ?_)
        · exact xm_sub [2, 3, 4, 5, 6] rfl (L_L_law_j1298 p129.2 l0 l1 l2 l3 l4 hf hR hE hC)
        · refine xm_aload_n dL_law_1279 rfl ?_
          refine xm_iconst dL_law_1280 (v := 0) (by decide) ?_
          refine xb_lald dL_law_1281 hf (fun x131 ex131 hf => ?_)
          refine xm_iload dL_law_1282 rfl ?_
          refine xb_if_eq 1291 dL_law_1284 (by decide) hf (fun c hf => ?_) (fun c hf => ?_)
          · refine xm_lconst dL_law_1291 (v := 0) (by decide) ?_
            exact xm_sub [2, 3, 4, 5, 6] rfl (L_L_law_j1292 p129.2 l0 l1 l2 l3 l4 (0 : Int64) x131 hf hR hE hC)
          · refine xm_lconst dL_law_1287 (v := 1) (by decide) ?_
            refine xm_goto 1292 dL_law_1288 (by decide) ?_
            exact xm_sub [2, 3, 4, 5, 6] rfl (L_L_law_j1292 p129.2 l0 l1 l2 l3 l4 (1 : Int64) x131 hf hR hE hC)
      · refine xm_iconst dL_law_1272 (v := 0) (by decide) ?_
        cases hf
        exact xm_zret dL_law_1273 rfl rfl (hR _ rfl)
    refine xb_if hf (fun c hf => ?_) (fun n19 hf => ?_)
    · refine xm_tableIn 1301 dL_law_40 (by rw [c]; decide) (by rw [c]; decide) (by rw [c]; rfl) (by decide) ?_
      refine xm_aload_n dL_law_1301 rfl ?_
      refine xm_aload_n dL_law_1302 rfl ?_
      refine xm_iload dL_law_1303 rfl ?_
      refine xm_iconst dL_law_1305 (v := 1) (by decide) ?_
      refine xm_iadd dL_law_1306 ?_
      refine xb_xLd dL_law_1307 hf (fun x132 ex132 hf => ?_)
      refine xm_i2c dL_law_1308 rfl ?_
      refine xm_aload_n dL_law_1309 rfl ?_
      obtain ⟨p133, ep133, hf⟩ := xbind hf
      refine xb_callSW (As := [.ref l1, .int (((x132).toUInt32 % 65536).toInt32), .ref l3]) (v0 := some (.int p133.1)) (τ0 := p133.2) dL_law_1310 xc_L_recall xw_1435 xw_1436 rfl (Nat.le_of_ble_eq_true rfl) rfl (Nat.le_of_ble_eq_true rfl) (fun Q1 hq => m_L_recall (d := d + 399) (C := 0) (Z := 0) ep133 (fun g hg => by subst hg; exact hq)) ?_
      refine xm_istore dL_law_1313 (by decide) (xm_stL (L' := [(5, .int p133.1), (0, .ref xkX), (1, .ref l1), (2, .ref l2), (3, .ref l3), (4, .int l4)]) rfl ?_)
      refine xm_aload_n dL_law_1315 rfl ?_
      refine xm_aload_n dL_law_1316 rfl ?_
      refine xm_iload dL_law_1317 rfl ?_
      refine xm_iconst dL_law_1319 (v := 1) (by decide) ?_
      refine xm_iadd dL_law_1320 ?_
      refine xb_xLd dL_law_1321 hf (fun x134 ex134 hf => ?_)
      refine xm_i2c dL_law_1322 rfl ?_
      refine xb_if hf (fun hb hf => ?_) (fun _ q => nomatch q)
      obtain ⟨p135, ep135, hf⟩ := xbind hf
      refine xb_callV (As := [.int (((x134).toUInt32 % 65536).toInt32)]) (v0 := (some (.int p135.1))) (τ0 := p135.2) dL_law_1323 (xc_X12_recall _ _) xcl12 xw_2564 xw_2565 xw_2566 hb rfl (Nat.le_of_ble_eq_true rfl) rfl (Nat.le_of_ble_eq_true rfl) (fun Q1 hq => m_X12_recall (d := d + 407) ep135 (fun g hg => by subst hg; exact hq)) ?_
      refine xm_istore dL_law_1326 (by decide) (xm_stL (L' := [(6, .int p135.1), (5, .int p133.1), (0, .ref xkX), (1, .ref l1), (2, .ref l2), (3, .ref l3), (4, .int l4)]) rfl ?_)
      refine xm_aload_n dL_law_1328 rfl ?_
      refine xb_if hf (fun hb hf => ?_) (fun _ q => nomatch q)
      obtain ⟨p136, ep136, hf⟩ := xbind hf
      refine xb_callV (As := []) (v0 := (some (.int p136))) (τ0 := p135.2) dL_law_1329 (xc_X12_thrown _ _) xcl12 xw_1802 xw_1803 xw_1804 hb rfl (Nat.le_of_ble_eq_true rfl) rfl (Nat.le_of_ble_eq_true rfl) (fun Q1 hq => m_X12_thrown (d := d + 409) ep136 (fun g hg => by subst hg; exact hq)) ?_
      refine xm_iload dL_law_1332 rfl ?_
      refine xb_icmp_eq 1339 dL_law_1334 (by decide) hf (fun c hf => ?_) (fun c hf => ?_)
      · refine xm_iload dL_law_1339 rfl ?_
        refine xb_if_ne 1363 dL_law_1341 (by decide) hf (fun c hf => ?_) (fun c hf => ?_)
        · exact xm_sub [2, 3, 4, 5, 6] rfl (L_L_law_j1363 p135.2 l0 l1 l2 l3 l4 hf hR hE hC)
        · refine xm_aload_n dL_law_1344 rfl ?_
          refine xm_iconst dL_law_1345 (v := 0) (by decide) ?_
          refine xb_lald dL_law_1346 hf (fun x137 ex137 hf => ?_)
          refine xm_iload dL_law_1347 rfl ?_
          refine xb_if_eq 1356 dL_law_1349 (by decide) hf (fun c hf => ?_) (fun c hf => ?_)
          · refine xm_lconst dL_law_1356 (v := 0) (by decide) ?_
            exact xm_sub [2, 3, 4, 5, 6] rfl (L_L_law_j1357 p135.2 l0 l1 l2 l3 l4 (0 : Int64) x137 hf hR hE hC)
          · refine xm_lconst dL_law_1352 (v := 1) (by decide) ?_
            refine xm_goto 1357 dL_law_1353 (by decide) ?_
            exact xm_sub [2, 3, 4, 5, 6] rfl (L_L_law_j1357 p135.2 l0 l1 l2 l3 l4 (1 : Int64) x137 hf hR hE hC)
      · refine xm_iconst dL_law_1337 (v := 0) (by decide) ?_
        cases hf
        exact xm_zret dL_law_1338 rfl rfl (hR _ rfl)
    refine xb_if hf (fun c hf => ?_) (fun n20 hf => ?_)
    · refine xm_tableIn 1366 dL_law_40 (by rw [c]; decide) (by rw [c]; decide) (by rw [c]; rfl) (by decide) ?_
      refine xm_aload_n dL_law_1366 rfl ?_
      refine xm_aload_n dL_law_1367 rfl ?_
      refine xm_iload dL_law_1368 rfl ?_
      refine xm_iconst dL_law_1370 (v := 1) (by decide) ?_
      refine xm_iadd dL_law_1371 ?_
      refine xb_xLd dL_law_1372 hf (fun x138 ex138 hf => ?_)
      refine xm_i2c dL_law_1373 rfl ?_
      refine xm_aload_n dL_law_1374 rfl ?_
      refine xm_iload dL_law_1375 rfl ?_
      refine xm_iconst dL_law_1377 (v := 2) (by decide) ?_
      refine xm_iadd dL_law_1378 ?_
      refine xb_xLd dL_law_1379 hf (fun x139 ex139 hf => ?_)
      refine xm_aload_n dL_law_1380 rfl ?_
      obtain ⟨p140, ep140, hf⟩ := xbind hf
      refine xb_callSW (As := [.ref l1, .int (((x138).toUInt32 % 65536).toInt32), .int x139, .ref l3]) (v0 := some (.int p140.1)) (τ0 := p140.2) dL_law_1381 xc_L_define xw_1442 xw_1443 rfl (Nat.le_of_ble_eq_true rfl) rfl (Nat.le_of_ble_eq_true rfl) (fun Q1 hq => m_L_define (d := d + 399) (C := 0) (Z := 0) ep140 (fun g hg => by subst hg; exact hq)) ?_
      refine xm_istore dL_law_1384 (by decide) (xm_stL (L' := [(5, .int p140.1), (0, .ref xkX), (1, .ref l1), (2, .ref l2), (3, .ref l3), (4, .int l4)]) rfl ?_)
      refine xm_aload_n dL_law_1386 rfl ?_
      refine xm_aload_n dL_law_1387 rfl ?_
      refine xm_iload dL_law_1388 rfl ?_
      refine xm_iconst dL_law_1390 (v := 1) (by decide) ?_
      refine xm_iadd dL_law_1391 ?_
      refine xb_xLd dL_law_1392 hf (fun x141 ex141 hf => ?_)
      refine xm_i2c dL_law_1393 rfl ?_
      refine xm_aload_n dL_law_1394 rfl ?_
      refine xm_iload dL_law_1395 rfl ?_
      refine xm_iconst dL_law_1397 (v := 2) (by decide) ?_
      refine xm_iadd dL_law_1398 ?_
      refine xb_xLd dL_law_1399 hf (fun x142 ex142 hf => ?_)
      refine xb_if hf (fun hb hf => ?_) (fun _ q => nomatch q)
      obtain ⟨p143, ep143, hf⟩ := xbind hf
      refine xb_callV (As := [.int (((x141).toUInt32 % 65536).toInt32), .int x142]) (v0 := (some (.int p143.1))) (τ0 := p143.2) dL_law_1400 (xc_X12_define _ _) xcl12 xw_2568 xw_2569 xw_2570 hb rfl (Nat.le_of_ble_eq_true rfl) rfl (Nat.le_of_ble_eq_true rfl) (fun Q1 hq => m_X12_define (d := d + 407) ep143 (fun g hg => by subst hg; exact hq)) ?_
      refine xm_istore dL_law_1403 (by decide) (xm_stL (L' := [(6, .int p143.1), (5, .int p140.1), (0, .ref xkX), (1, .ref l1), (2, .ref l2), (3, .ref l3), (4, .int l4)]) rfl ?_)
      refine xm_aload_n dL_law_1405 rfl ?_
      refine xb_if hf (fun hb hf => ?_) (fun _ q => nomatch q)
      obtain ⟨p144, ep144, hf⟩ := xbind hf
      refine xb_callV (As := []) (v0 := (some (.int p144))) (τ0 := p143.2) dL_law_1406 (xc_X12_thrown _ _) xcl12 xw_1802 xw_1803 xw_1804 hb rfl (Nat.le_of_ble_eq_true rfl) rfl (Nat.le_of_ble_eq_true rfl) (fun Q1 hq => m_X12_thrown (d := d + 409) ep144 (fun g hg => by subst hg; exact hq)) ?_
      refine xm_iload dL_law_1409 rfl ?_
      refine xb_icmp_eq 1416 dL_law_1411 (by decide) hf (fun c hf => ?_) (fun c hf => ?_)
      · refine xm_iload dL_law_1416 rfl ?_
        refine xb_if_ne 1433 dL_law_1418 (by decide) hf (fun c hf => ?_) (fun c hf => ?_)
        · exact xm_sub [2, 3, 4, 5, 6] rfl (L_L_law_j1433 p143.2 l0 l1 l2 l3 l4 hf hR hE hC)
        · refine xm_aload_n dL_law_1421 rfl ?_
          refine xm_iconst dL_law_1422 (v := 0) (by decide) ?_
          refine xb_lald dL_law_1423 hf (fun x145 ex145 hf => ?_)
          refine xm_iload dL_law_1424 rfl ?_
          refine xm_i2l dL_law_1426 rfl ?_
          refine xm_lcmp dL_law_1427 ?_
          refine xb_if_eq 1433 dL_law_1428 (by decide) hf (fun c hf => ?_) (fun c hf => ?_)
          · exact xm_sub [2, 3, 4, 5, 6] rfl (L_L_law_j1433 p143.2 l0 l1 l2 l3 l4 hf hR hE hC)
          · refine xm_iconst dL_law_1431 (v := 0) (by decide) ?_
            cases hf
            exact xm_zret dL_law_1432 rfl rfl (hR _ rfl)
      · refine xm_iconst dL_law_1414 (v := 0) (by decide) ?_
        cases hf
        exact xm_zret dL_law_1415 rfl rfl (hR _ rfl)
    refine xb_if hf (fun c hf => ?_) (fun n21 hf => ?_)
    · refine xm_tableIn 1436 dL_law_40 (by rw [c]; decide) (by rw [c]; decide) (by rw [c]; rfl) (by decide) ?_
      refine xm_aload_n dL_law_1436 rfl ?_
      refine xm_aload_n dL_law_1437 rfl ?_
      refine xm_iload dL_law_1438 rfl ?_
      refine xm_iconst dL_law_1440 (v := 1) (by decide) ?_
      refine xm_iadd dL_law_1441 ?_
      refine xb_xLd dL_law_1442 hf (fun x146 ex146 hf => ?_)
      refine xm_i2c dL_law_1443 rfl ?_
      refine xm_aload_n dL_law_1444 rfl ?_
      refine xm_iload dL_law_1445 rfl ?_
      refine xm_iconst dL_law_1447 (v := 2) (by decide) ?_
      refine xm_iadd dL_law_1448 ?_
      refine xb_xLd dL_law_1449 hf (fun x147 ex147 hf => ?_)
      refine xm_aload_n dL_law_1450 rfl ?_
      refine xm_iload dL_law_1451 rfl ?_
      refine xm_iconst dL_law_1453 (v := 3) (by decide) ?_
      refine xm_iadd dL_law_1454 ?_
      refine xb_xLd dL_law_1455 hf (fun x148 ex148 hf => ?_)
      refine xm_aload_n dL_law_1456 rfl ?_
      obtain ⟨p149, ep149, hf⟩ := xbind hf
      refine xb_callSW (As := [.ref l1, .int (((x146).toUInt32 % 65536).toInt32), .int x147, .int x148, .ref l3]) (v0 := some (.int p149.1)) (τ0 := p149.2) dL_law_1457 xc_L_addCase xw_1460 xw_1461 rfl (Nat.le_of_ble_eq_true rfl) rfl (Nat.le_of_ble_eq_true rfl) (fun Q1 hq => m_L_addCase (d := d + 399) (C := 0) (Z := 0) ep149 (fun g hg => by subst hg; exact hq)) ?_
      refine xm_istore dL_law_1460 (by decide) (xm_stL (L' := [(5, .int p149.1), (0, .ref xkX), (1, .ref l1), (2, .ref l2), (3, .ref l3), (4, .int l4)]) rfl ?_)
      refine xm_aload_n dL_law_1462 rfl ?_
      refine xm_aload_n dL_law_1463 rfl ?_
      refine xm_iload dL_law_1464 rfl ?_
      refine xm_iconst dL_law_1466 (v := 1) (by decide) ?_
      refine xm_iadd dL_law_1467 ?_
      refine xb_xLd dL_law_1468 hf (fun x150 ex150 hf => ?_)
      refine xm_i2c dL_law_1469 rfl ?_
      refine xm_aload_n dL_law_1470 rfl ?_
      refine xm_iload dL_law_1471 rfl ?_
      refine xm_iconst dL_law_1473 (v := 2) (by decide) ?_
      refine xm_iadd dL_law_1474 ?_
      refine xb_xLd dL_law_1475 hf (fun x151 ex151 hf => ?_)
      refine xm_aload_n dL_law_1476 rfl ?_
      refine xm_iload dL_law_1477 rfl ?_
      refine xm_iconst dL_law_1479 (v := 3) (by decide) ?_
      refine xm_iadd dL_law_1480 ?_
      refine xb_xLd dL_law_1481 hf (fun x152 ex152 hf => ?_)
      refine xb_if hf (fun hb hf => ?_) (fun _ q => nomatch q)
      obtain ⟨p153, ep153, hf⟩ := xbind hf
      refine xb_callV (As := [.int (((x150).toUInt32 % 65536).toInt32), .int x151, .int x152]) (v0 := (some (.int p153.1))) (τ0 := p153.2) dL_law_1482 (xc_X12_addCase _ _) xcl12 xw_2576 xw_2577 xw_2578 hb rfl (Nat.le_of_ble_eq_true rfl) rfl (Nat.le_of_ble_eq_true rfl) (fun Q1 hq => m_X12_addCase (d := d + 407) ep153 (fun g hg => by subst hg; exact hq)) ?_
      refine xm_istore dL_law_1485 (by decide) (xm_stL (L' := [(6, .int p153.1), (5, .int p149.1), (0, .ref xkX), (1, .ref l1), (2, .ref l2), (3, .ref l3), (4, .int l4)]) rfl ?_)
      refine xm_aload_n dL_law_1487 rfl ?_
      refine xb_if hf (fun hb hf => ?_) (fun _ q => nomatch q)
      obtain ⟨p154, ep154, hf⟩ := xbind hf
      refine xb_callV (As := []) (v0 := (some (.int p154))) (τ0 := p153.2) dL_law_1488 (xc_X12_thrown _ _) xcl12 xw_1802 xw_1803 xw_1804 hb rfl (Nat.le_of_ble_eq_true rfl) rfl (Nat.le_of_ble_eq_true rfl) (fun Q1 hq => m_X12_thrown (d := d + 409) ep154 (fun g hg => by subst hg; exact hq)) ?_
      refine xm_iload dL_law_1491 rfl ?_
      refine xb_icmp_eq 1498 dL_law_1493 (by decide) hf (fun c hf => ?_) (fun c hf => ?_)
      · refine xm_iload dL_law_1498 rfl ?_
        refine xb_if_ne 1515 dL_law_1500 (by decide) hf (fun c hf => ?_) (fun c hf => ?_)
        · exact xm_sub [2, 3, 4, 5, 6] rfl (L_L_law_j1515 p153.2 l0 l1 l2 l3 l4 hf hR hE hC)
        · refine xm_aload_n dL_law_1503 rfl ?_
          refine xm_iconst dL_law_1504 (v := 0) (by decide) ?_
          refine xb_lald dL_law_1505 hf (fun x155 ex155 hf => ?_)
          refine xm_iload dL_law_1506 rfl ?_
          refine xm_i2l dL_law_1508 rfl ?_
          refine xm_lcmp dL_law_1509 ?_
          refine xb_if_eq 1515 dL_law_1510 (by decide) hf (fun c hf => ?_) (fun c hf => ?_)
          · exact xm_sub [2, 3, 4, 5, 6] rfl (L_L_law_j1515 p153.2 l0 l1 l2 l3 l4 hf hR hE hC)
          · refine xm_iconst dL_law_1513 (v := 0) (by decide) ?_
            cases hf
            exact xm_zret dL_law_1514 rfl rfl (hR _ rfl)
      · refine xm_iconst dL_law_1496 (v := 0) (by decide) ?_
        cases hf
        exact xm_zret dL_law_1497 rfl rfl (hR _ rfl)
    refine xb_if hf (fun c hf => ?_) (fun n22 hf => ?_)
    · refine xm_tableIn 1518 dL_law_40 (by rw [c]; decide) (by rw [c]; decide) (by rw [c]; rfl) (by decide) ?_
      refine xm_aload_n dL_law_1518 rfl ?_
      refine xm_aload_n dL_law_1519 rfl ?_
      refine xm_iload dL_law_1520 rfl ?_
      refine xm_iconst dL_law_1522 (v := 1) (by decide) ?_
      refine xm_iadd dL_law_1523 ?_
      refine xb_xLd dL_law_1524 hf (fun x156 ex156 hf => ?_)
      refine xm_aload_n dL_law_1525 rfl ?_
      obtain ⟨p157, ep157, hf⟩ := xbind hf
      refine xb_callSW (As := [.ref l1, .int x156, .ref l3]) (v0 := some (.int p157.1)) (τ0 := p157.2) dL_law_1526 xc_L_step xw_1473 xw_1474 rfl (Nat.le_of_ble_eq_true rfl) rfl (Nat.le_of_ble_eq_true rfl) (fun Q1 hq => m_L_step (d := d + 400) (C := 0) (Z := 0) ep157 (fun g hg => by subst hg; exact hq)) ?_
      refine xm_istore dL_law_1529 (by decide) (xm_stL (L' := [(5, .int p157.1), (0, .ref xkX), (1, .ref l1), (2, .ref l2), (3, .ref l3), (4, .int l4)]) rfl ?_)
      refine xm_aload_n dL_law_1531 rfl ?_
      refine xm_aload_n dL_law_1532 rfl ?_
      refine xm_iload dL_law_1533 rfl ?_
      refine xm_iconst dL_law_1535 (v := 1) (by decide) ?_
      refine xm_iadd dL_law_1536 ?_
      refine xb_xLd dL_law_1537 hf (fun x158 ex158 hf => ?_)
      refine xb_if hf (fun hb hf => ?_) (fun _ q => nomatch q)
      obtain ⟨p159, ep159, hf⟩ := xbind hf
      refine xb_callV (As := [.int x158]) (v0 := (some (.int p159.1))) (τ0 := p159.2) dL_law_1538 (xc_X12_step _ _) xcl12 xw_2584 xw_2585 xw_2586 hb rfl (Nat.le_of_ble_eq_true rfl) rfl (Nat.le_of_ble_eq_true rfl) (fun Q1 hq => m_X12_step (d := d + 402) ep159 (fun g hg => by subst hg; exact hq)) ?_
      refine xm_istore dL_law_1541 (by decide) (xm_stL (L' := [(6, .int p159.1), (5, .int p157.1), (0, .ref xkX), (1, .ref l1), (2, .ref l2), (3, .ref l3), (4, .int l4)]) rfl ?_)
      refine xm_aload_n dL_law_1543 rfl ?_
      refine xb_if hf (fun hb hf => ?_) (fun _ q => nomatch q)
      obtain ⟨p160, ep160, hf⟩ := xbind hf
      refine xb_callV (As := []) (v0 := (some (.int p160))) (τ0 := p159.2) dL_law_1544 (xc_X12_thrown _ _) xcl12 xw_1802 xw_1803 xw_1804 hb rfl (Nat.le_of_ble_eq_true rfl) rfl (Nat.le_of_ble_eq_true rfl) (fun Q1 hq => m_X12_thrown (d := d + 409) ep160 (fun g hg => by subst hg; exact hq)) ?_
      refine xm_iload dL_law_1547 rfl ?_
      refine xb_icmp_eq 1554 dL_law_1549 (by decide) hf (fun c hf => ?_) (fun c hf => ?_)
      · refine xm_iload dL_law_1554 rfl ?_
        refine xb_if_ne 1571 dL_law_1556 (by decide) hf (fun c hf => ?_) (fun c hf => ?_)
        · exact xm_sub [2, 3, 4, 5, 6] rfl (L_L_law_j1571 p159.2 l0 l1 l2 l3 l4 hf hR hE hC)
        · refine xm_aload_n dL_law_1559 rfl ?_
          refine xm_iconst dL_law_1560 (v := 0) (by decide) ?_
          refine xb_lald dL_law_1561 hf (fun x161 ex161 hf => ?_)
          refine xm_iload dL_law_1562 rfl ?_
          refine xm_i2l dL_law_1564 rfl ?_
          refine xm_lcmp dL_law_1565 ?_
          refine xb_if_eq 1571 dL_law_1566 (by decide) hf (fun c hf => ?_) (fun c hf => ?_)
          · exact xm_sub [2, 3, 4, 5, 6] rfl (L_L_law_j1571 p159.2 l0 l1 l2 l3 l4 hf hR hE hC)
          · refine xm_iconst dL_law_1569 (v := 0) (by decide) ?_
            cases hf
            exact xm_zret dL_law_1570 rfl rfl (hR _ rfl)
      · refine xm_iconst dL_law_1552 (v := 0) (by decide) ?_
        cases hf
        exact xm_zret dL_law_1553 rfl rfl (hR _ rfl)
    refine xb_if hf (fun c hf => ?_) (fun n23 hf => ?_)
    · refine xm_tableIn 1574 dL_law_40 (by rw [c]; decide) (by rw [c]; decide) (by rw [c]; rfl) (by decide) ?_
      refine xm_aload_n dL_law_1574 rfl ?_
      refine xm_aload_n dL_law_1575 rfl ?_
      refine xm_iload dL_law_1576 rfl ?_
      refine xm_iconst dL_law_1578 (v := 1) (by decide) ?_
      refine xm_iadd dL_law_1579 ?_
      refine xb_xLd dL_law_1580 hf (fun x162 ex162 hf => ?_)
      refine xm_aload_n dL_law_1581 rfl ?_
      obtain ⟨p163, ep163, hf⟩ := xbind hf
      refine xb_callSW (As := [.ref l1, .int x162, .ref l3]) (v0 := some (.int p163.1)) (τ0 := p163.2) dL_law_1582 xc_L_simplify xw_1537 xw_1538 rfl (Nat.le_of_ble_eq_true rfl) rfl (Nat.le_of_ble_eq_true rfl) (fun Q1 hq => m_L_simplify (d := d + 400) (C := 0) (Z := 0) ep163 (fun g hg => by subst hg; exact hq)) ?_
      refine xm_istore dL_law_1585 (by decide) (xm_stL (L' := [(5, .int p163.1), (0, .ref xkX), (1, .ref l1), (2, .ref l2), (3, .ref l3), (4, .int l4)]) rfl ?_)
      refine xm_aload_n dL_law_1587 rfl ?_
      refine xm_aload_n dL_law_1588 rfl ?_
      refine xm_iload dL_law_1589 rfl ?_
      refine xm_iconst dL_law_1591 (v := 1) (by decide) ?_
      refine xm_iadd dL_law_1592 ?_
      refine xb_xLd dL_law_1593 hf (fun x164 ex164 hf => ?_)
      refine xb_if hf (fun hb hf => ?_) (fun _ q => nomatch q)
      obtain ⟨p165, ep165, hf⟩ := xbind hf
      refine xb_callV (As := [.int x164]) (v0 := (some (.int p165.1))) (τ0 := p165.2) dL_law_1594 (xc_X12_simplify _ _) xcl12 xw_2631 xw_2632 xw_2633 hb rfl (Nat.le_of_ble_eq_true rfl) rfl (Nat.le_of_ble_eq_true rfl) (fun Q1 hq => m_X12_simplify (d := d + 402) ep165 (fun g hg => by subst hg; exact hq)) ?_
      refine xm_istore dL_law_1597 (by decide) (xm_stL (L' := [(6, .int p165.1), (5, .int p163.1), (0, .ref xkX), (1, .ref l1), (2, .ref l2), (3, .ref l3), (4, .int l4)]) rfl ?_)
      refine xm_aload_n dL_law_1599 rfl ?_
      refine xb_if hf (fun hb hf => ?_) (fun _ q => nomatch q)
      obtain ⟨p166, ep166, hf⟩ := xbind hf
      refine xb_callV (As := []) (v0 := (some (.int p166))) (τ0 := p165.2) dL_law_1600 (xc_X12_thrown _ _) xcl12 xw_1802 xw_1803 xw_1804 hb rfl (Nat.le_of_ble_eq_true rfl) rfl (Nat.le_of_ble_eq_true rfl) (fun Q1 hq => m_X12_thrown (d := d + 409) ep166 (fun g hg => by subst hg; exact hq)) ?_
      refine xm_iload dL_law_1603 rfl ?_
      refine xb_icmp_eq 1610 dL_law_1605 (by decide) hf (fun c hf => ?_) (fun c hf => ?_)
      · refine xm_iload dL_law_1610 rfl ?_
        refine xb_if_ne 1627 dL_law_1612 (by decide) hf (fun c hf => ?_) (fun c hf => ?_)
        · exact xm_sub [2, 3, 4, 5, 6] rfl (L_L_law_j1627 p165.2 l0 l1 l2 l3 l4 hf hR hE hC)
        · refine xm_aload_n dL_law_1615 rfl ?_
          refine xm_iconst dL_law_1616 (v := 0) (by decide) ?_
          refine xb_lald dL_law_1617 hf (fun x167 ex167 hf => ?_)
          refine xm_iload dL_law_1618 rfl ?_
          refine xm_i2l dL_law_1620 rfl ?_
          refine xm_lcmp dL_law_1621 ?_
          refine xb_if_eq 1627 dL_law_1622 (by decide) hf (fun c hf => ?_) (fun c hf => ?_)
          · exact xm_sub [2, 3, 4, 5, 6] rfl (L_L_law_j1627 p165.2 l0 l1 l2 l3 l4 hf hR hE hC)
          · refine xm_iconst dL_law_1625 (v := 0) (by decide) ?_
            cases hf
            exact xm_zret dL_law_1626 rfl rfl (hR _ rfl)
      · refine xm_iconst dL_law_1608 (v := 0) (by decide) ?_
        cases hf
        exact xm_zret dL_law_1609 rfl rfl (hR _ rfl)
    refine xb_if hf (fun c hf => ?_) (fun n24 hf => ?_)
    · refine xm_tableIn 1630 dL_law_40 (by rw [c]; decide) (by rw [c]; decide) (by rw [c]; rfl) (by decide) ?_
      refine xm_aload_n dL_law_1630 rfl ?_
      refine xm_aload_n dL_law_1631 rfl ?_
      refine xm_iload dL_law_1632 rfl ?_
      refine xm_iconst dL_law_1634 (v := 1) (by decide) ?_
      refine xm_iadd dL_law_1635 ?_
      refine xb_xLd dL_law_1636 hf (fun x168 ex168 hf => ?_)
      refine xm_aload_n dL_law_1637 rfl ?_
      refine xm_iload dL_law_1638 rfl ?_
      refine xm_iconst dL_law_1640 (v := 2) (by decide) ?_
      refine xm_iadd dL_law_1641 ?_
      refine xb_xLd dL_law_1642 hf (fun x169 ex169 hf => ?_)
      refine xm_aload_n dL_law_1643 rfl ?_
      obtain ⟨p170, ep170, hf⟩ := xbind hf
      refine xb_callSW (As := [.ref l1, .int x168, .int x169, .ref l3]) (v0 := some (.int p170.1)) (τ0 := p170.2) dL_law_1644 xc_L_trace xw_1544 xw_1545 rfl (Nat.le_of_ble_eq_true rfl) rfl (Nat.le_of_ble_eq_true rfl) (fun Q1 hq => m_L_trace (d := d + 401) (C := 0) (Z := 0) ep170 (fun g hg => by subst hg; exact hq)) ?_
      refine xm_istore dL_law_1647 (by decide) (xm_stL (L' := [(5, .int p170.1), (0, .ref xkX), (1, .ref l1), (2, .ref l2), (3, .ref l3), (4, .int l4)]) rfl ?_)
      refine xm_aload_n dL_law_1649 rfl ?_
      refine xm_aload_n dL_law_1650 rfl ?_
      refine xm_iload dL_law_1651 rfl ?_
      refine xm_iconst dL_law_1653 (v := 1) (by decide) ?_
      refine xm_iadd dL_law_1654 ?_
      refine xb_xLd dL_law_1655 hf (fun x171 ex171 hf => ?_)
      refine xm_aload_n dL_law_1656 rfl ?_
      refine xm_iload dL_law_1657 rfl ?_
      refine xm_iconst dL_law_1659 (v := 2) (by decide) ?_
      refine xm_iadd dL_law_1660 ?_
      refine xb_xLd dL_law_1661 hf (fun x172 ex172 hf => ?_)
      refine xb_if hf (fun hb hf => ?_) (fun _ q => nomatch q)
      obtain ⟨p173, ep173, hf⟩ := xbind hf
      refine xb_callV (As := [.int x171, .int x172]) (v0 := (some (.int p173.1))) (τ0 := p173.2) dL_law_1662 (xc_X12_trace _ _) xcl12 xw_2635 xw_2636 xw_2637 hb rfl (Nat.le_of_ble_eq_true rfl) rfl (Nat.le_of_ble_eq_true rfl) (fun Q1 hq => m_X12_trace (d := d + 408) ep173 (fun g hg => by subst hg; exact hq)) ?_
      refine xm_istore dL_law_1665 (by decide) (xm_stL (L' := [(6, .int p173.1), (5, .int p170.1), (0, .ref xkX), (1, .ref l1), (2, .ref l2), (3, .ref l3), (4, .int l4)]) rfl ?_)
      refine xm_aload_n dL_law_1667 rfl ?_
      refine xb_if hf (fun hb hf => ?_) (fun _ q => nomatch q)
      obtain ⟨p174, ep174, hf⟩ := xbind hf
      refine xb_callV (As := []) (v0 := (some (.int p174))) (τ0 := p173.2) dL_law_1668 (xc_X12_thrown _ _) xcl12 xw_1802 xw_1803 xw_1804 hb rfl (Nat.le_of_ble_eq_true rfl) rfl (Nat.le_of_ble_eq_true rfl) (fun Q1 hq => m_X12_thrown (d := d + 409) ep174 (fun g hg => by subst hg; exact hq)) ?_
      refine xm_iload dL_law_1671 rfl ?_
      refine xb_icmp_eq 1678 dL_law_1673 (by decide) hf (fun c hf => ?_) (fun c hf => ?_)
      · refine xm_iload dL_law_1678 rfl ?_
        refine xb_if_ne 1695 dL_law_1680 (by decide) hf (fun c hf => ?_) (fun c hf => ?_)
        · exact xm_sub [2, 3, 4, 5, 6] rfl (L_L_law_j1695 p173.2 l0 l1 l2 l3 l4 hf hR hE hC)
        · refine xm_aload_n dL_law_1683 rfl ?_
          refine xm_iconst dL_law_1684 (v := 0) (by decide) ?_
          refine xb_lald dL_law_1685 hf (fun x175 ex175 hf => ?_)
          refine xm_iload dL_law_1686 rfl ?_
          refine xm_i2l dL_law_1688 rfl ?_
          refine xm_lcmp dL_law_1689 ?_
          refine xb_if_eq 1695 dL_law_1690 (by decide) hf (fun c hf => ?_) (fun c hf => ?_)
          · exact xm_sub [2, 3, 4, 5, 6] rfl (L_L_law_j1695 p173.2 l0 l1 l2 l3 l4 hf hR hE hC)
          · refine xm_iconst dL_law_1693 (v := 0) (by decide) ?_
            cases hf
            exact xm_zret dL_law_1694 rfl rfl (hR _ rfl)
      · refine xm_iconst dL_law_1676 (v := 0) (by decide) ?_
        cases hf
        exact xm_zret dL_law_1677 rfl rfl (hR _ rfl)
    refine xb_if hf (fun c hf => ?_) (fun n25 hf => ?_)
    · refine xm_tableIn 1698 dL_law_40 (by rw [c]; decide) (by rw [c]; decide) (by rw [c]; rfl) (by decide) ?_
      refine xm_aload_n dL_law_1698 rfl ?_
      refine xm_aload_n dL_law_1699 rfl ?_
      refine xm_iload dL_law_1700 rfl ?_
      refine xm_iconst dL_law_1702 (v := 1) (by decide) ?_
      refine xm_iadd dL_law_1703 ?_
      refine xb_xLd dL_law_1704 hf (fun x176 ex176 hf => ?_)
      refine xm_aload_n dL_law_1705 rfl ?_
      refine xm_iload dL_law_1706 rfl ?_
      refine xm_iconst dL_law_1708 (v := 2) (by decide) ?_
      refine xm_iadd dL_law_1709 ?_
      refine xb_xLd dL_law_1710 hf (fun x177 ex177 hf => ?_)
      refine xm_i2c dL_law_1711 rfl ?_
      refine xm_aload_n dL_law_1712 rfl ?_
      obtain ⟨p178, ep178, hf⟩ := xbind hf
      refine xb_callSW (As := [.ref l1, .int x176, .int (((x177).toUInt32 % 65536).toInt32), .ref l3]) (v0 := some (.int p178.1)) (τ0 := p178.2) dL_law_1713 xc_L_gather xw_1552 xw_1553 rfl (Nat.le_of_ble_eq_true rfl) rfl (Nat.le_of_ble_eq_true rfl) (fun Q1 hq => m_L_gather (d := d + 400) (C := 0) (Z := 0) ep178 (fun g hg => by subst hg; exact hq)) ?_
      refine xm_istore dL_law_1716 (by decide) (xm_stL (L' := [(5, .int p178.1), (0, .ref xkX), (1, .ref l1), (2, .ref l2), (3, .ref l3), (4, .int l4)]) rfl ?_)
      refine xm_aload_n dL_law_1718 rfl ?_
      refine xm_aload_n dL_law_1719 rfl ?_
      refine xm_iload dL_law_1720 rfl ?_
      refine xm_iconst dL_law_1722 (v := 1) (by decide) ?_
      refine xm_iadd dL_law_1723 ?_
      refine xb_xLd dL_law_1724 hf (fun x179 ex179 hf => ?_)
      refine xm_aload_n dL_law_1725 rfl ?_
      refine xm_iload dL_law_1726 rfl ?_
      refine xm_iconst dL_law_1728 (v := 2) (by decide) ?_
      refine xm_iadd dL_law_1729 ?_
      refine xb_xLd dL_law_1730 hf (fun x180 ex180 hf => ?_)
      refine xm_i2c dL_law_1731 rfl ?_
      refine xb_if hf (fun hb hf => ?_) (fun _ q => nomatch q)
      obtain ⟨p181, ep181, hf⟩ := xbind hf
      refine xb_callV (As := [.int x179, .int (((x180).toUInt32 % 65536).toInt32)]) (v0 := (some (.int p181.1))) (τ0 := p181.2) dL_law_1732 (xc_X12_gather _ _) xcl12 xw_2639 xw_2640 xw_2641 hb rfl (Nat.le_of_ble_eq_true rfl) rfl (Nat.le_of_ble_eq_true rfl) (fun Q1 hq => m_X12_gather (d := d + 399) ep181 (fun g hg => by subst hg; exact hq)) ?_
      refine xm_istore dL_law_1735 (by decide) (xm_stL (L' := [(6, .int p181.1), (5, .int p178.1), (0, .ref xkX), (1, .ref l1), (2, .ref l2), (3, .ref l3), (4, .int l4)]) rfl ?_)
      refine xm_aload_n dL_law_1737 rfl ?_
      refine xb_if hf (fun hb hf => ?_) (fun _ q => nomatch q)
      obtain ⟨p182, ep182, hf⟩ := xbind hf
      refine xb_callV (As := []) (v0 := (some (.int p182))) (τ0 := p181.2) dL_law_1738 (xc_X12_thrown _ _) xcl12 xw_1802 xw_1803 xw_1804 hb rfl (Nat.le_of_ble_eq_true rfl) rfl (Nat.le_of_ble_eq_true rfl) (fun Q1 hq => m_X12_thrown (d := d + 409) ep182 (fun g hg => by subst hg; exact hq)) ?_
      refine xm_iload dL_law_1741 rfl ?_
      refine xb_icmp_eq 1748 dL_law_1743 (by decide) hf (fun c hf => ?_) (fun c hf => ?_)
      · refine xm_iload dL_law_1748 rfl ?_
        refine xb_if_ne 1765 dL_law_1750 (by decide) hf (fun c hf => ?_) (fun c hf => ?_)
        · exact xm_sub [2, 3, 4, 5, 6] rfl (L_L_law_j1765 p181.2 l0 l1 l2 l3 l4 hf hR hE hC)
        · refine xm_aload_n dL_law_1753 rfl ?_
          refine xm_iconst dL_law_1754 (v := 0) (by decide) ?_
          refine xb_lald dL_law_1755 hf (fun x183 ex183 hf => ?_)
          refine xm_iload dL_law_1756 rfl ?_
          refine xm_i2l dL_law_1758 rfl ?_
          refine xm_lcmp dL_law_1759 ?_
          refine xb_if_eq 1765 dL_law_1760 (by decide) hf (fun c hf => ?_) (fun c hf => ?_)
          · exact xm_sub [2, 3, 4, 5, 6] rfl (L_L_law_j1765 p181.2 l0 l1 l2 l3 l4 hf hR hE hC)
          · refine xm_iconst dL_law_1763 (v := 0) (by decide) ?_
            cases hf
            exact xm_zret dL_law_1764 rfl rfl (hR _ rfl)
      · refine xm_iconst dL_law_1746 (v := 0) (by decide) ?_
        cases hf
        exact xm_zret dL_law_1747 rfl rfl (hR _ rfl)
    refine xb_if hf (fun c hf => ?_) (fun n26 hf => ?_)
    · refine xm_tableIn 1768 dL_law_40 (by rw [c]; decide) (by rw [c]; decide) (by rw [c]; rfl) (by decide) ?_
      refine xm_aload_n dL_law_1768 rfl ?_
      refine xm_aload_n dL_law_1769 rfl ?_
      refine xm_iload dL_law_1770 rfl ?_
      refine xm_iconst dL_law_1772 (v := 1) (by decide) ?_
      refine xm_iadd dL_law_1773 ?_
      refine xb_xLd dL_law_1774 hf (fun x184 ex184 hf => ?_)
      refine xm_aload_n dL_law_1775 rfl ?_
      obtain ⟨p185, ep185, hf⟩ := xbind hf
      refine xb_callSW (As := [.ref l1, .int x184, .ref l3]) (v0 := some (.int p185.1)) (τ0 := p185.2) dL_law_1776 xc_L_coefficient xw_1624 xw_1625 rfl (Nat.le_of_ble_eq_true rfl) rfl (Nat.le_of_ble_eq_true rfl) (fun Q1 hq => m_L_coefficient (d := d + 401) (C := 0) (Z := 0) ep185 (fun g hg => by subst hg; exact hq)) ?_
      refine xm_istore dL_law_1779 (by decide) (xm_stL (L' := [(5, .int p185.1), (0, .ref xkX), (1, .ref l1), (2, .ref l2), (3, .ref l3), (4, .int l4)]) rfl ?_)
      refine xm_aload_n dL_law_1781 rfl ?_
      refine xm_aload_n dL_law_1782 rfl ?_
      refine xm_iload dL_law_1783 rfl ?_
      refine xm_iconst dL_law_1785 (v := 1) (by decide) ?_
      refine xm_iadd dL_law_1786 ?_
      refine xb_xLd dL_law_1787 hf (fun x186 ex186 hf => ?_)
      refine xb_if hf (fun hb hf => ?_) (fun _ q => nomatch q)
      obtain ⟨p187, ep187, hf⟩ := xbind hf
      refine xb_callV (As := [.int x186]) (v0 := (some (.int p187.1))) (τ0 := p187.2) dL_law_1788 (xc_X12_coefficient _ _) xcl12 xw_2710 xw_2711 xw_2712 hb rfl (Nat.le_of_ble_eq_true rfl) rfl (Nat.le_of_ble_eq_true rfl) (fun Q1 hq => m_X12_coefficient (d := d + 408) ep187 (fun g hg => by subst hg; exact hq)) ?_
      refine xm_istore dL_law_1791 (by decide) (xm_stL (L' := [(6, .int p187.1), (5, .int p185.1), (0, .ref xkX), (1, .ref l1), (2, .ref l2), (3, .ref l3), (4, .int l4)]) rfl ?_)
      refine xm_aload_n dL_law_1793 rfl ?_
      refine xb_if hf (fun hb hf => ?_) (fun _ q => nomatch q)
      obtain ⟨p188, ep188, hf⟩ := xbind hf
      refine xb_callV (As := []) (v0 := (some (.int p188))) (τ0 := p187.2) dL_law_1794 (xc_X12_thrown _ _) xcl12 xw_1802 xw_1803 xw_1804 hb rfl (Nat.le_of_ble_eq_true rfl) rfl (Nat.le_of_ble_eq_true rfl) (fun Q1 hq => m_X12_thrown (d := d + 409) ep188 (fun g hg => by subst hg; exact hq)) ?_
      refine xm_iload dL_law_1797 rfl ?_
      refine xb_icmp_eq 1804 dL_law_1799 (by decide) hf (fun c hf => ?_) (fun c hf => ?_)
      · refine xm_iload dL_law_1804 rfl ?_
        refine xb_if_ne 1828 dL_law_1806 (by decide) hf (fun c hf => ?_) (fun c hf => ?_)
        · exact xm_sub [2, 3, 4, 5, 6] rfl (L_L_law_j1828 p187.2 l0 l1 l2 l3 l4 hf hR hE hC)
        · refine xm_aload_n dL_law_1809 rfl ?_
          refine xm_iconst dL_law_1810 (v := 0) (by decide) ?_
          refine xb_lald dL_law_1811 hf (fun x189 ex189 hf => ?_)
          refine xm_iload dL_law_1812 rfl ?_
          refine xb_if_eq 1821 dL_law_1814 (by decide) hf (fun c hf => ?_) (fun c hf => ?_)
          · refine xm_lconst dL_law_1821 (v := 0) (by decide) ?_
            exact xm_sub [2, 3, 4, 5, 6] rfl (L_L_law_j1822 p187.2 l0 l1 l2 l3 l4 (0 : Int64) x189 hf hR hE hC)
          · refine xm_lconst dL_law_1817 (v := 1) (by decide) ?_
            refine xm_goto 1822 dL_law_1818 (by decide) ?_
            exact xm_sub [2, 3, 4, 5, 6] rfl (L_L_law_j1822 p187.2 l0 l1 l2 l3 l4 (1 : Int64) x189 hf hR hE hC)
      · refine xm_iconst dL_law_1802 (v := 0) (by decide) ?_
        cases hf
        exact xm_zret dL_law_1803 rfl rfl (hR _ rfl)
    refine xb_if hf (fun c hf => ?_) (fun n27 hf => ?_)
    · refine xm_tableIn 1831 dL_law_40 (by rw [c]; decide) (by rw [c]; decide) (by rw [c]; rfl) (by decide) ?_
      refine xm_aload_n dL_law_1831 rfl ?_
      refine xm_aload_n dL_law_1832 rfl ?_
      refine xm_iload dL_law_1833 rfl ?_
      refine xm_iconst dL_law_1835 (v := 1) (by decide) ?_
      refine xm_iadd dL_law_1836 ?_
      refine xb_xLd dL_law_1837 hf (fun x190 ex190 hf => ?_)
      refine xm_aload_n dL_law_1838 rfl ?_
      refine xm_iload dL_law_1839 rfl ?_
      refine xm_iconst dL_law_1841 (v := 2) (by decide) ?_
      refine xm_iadd dL_law_1842 ?_
      refine xb_xLd dL_law_1843 hf (fun x191 ex191 hf => ?_)
      refine xm_i2c dL_law_1844 rfl ?_
      refine xm_aload_n dL_law_1845 rfl ?_
      obtain ⟨p192, ep192, hf⟩ := xbind hf
      refine xb_callSW (As := [.ref l1, .int x190, .int (((x191).toUInt32 % 65536).toInt32), .ref l3]) (v0 := some (.int p192.1)) (τ0 := p192.2) dL_law_1846 xc_L_derive xw_1633 xw_1634 rfl (Nat.le_of_ble_eq_true rfl) rfl (Nat.le_of_ble_eq_true rfl) (fun Q1 hq => m_L_derive (d := d + 1) (C := 0) (Z := 0) ep192 (fun g hg => by subst hg; exact hq)) ?_
      refine xm_istore dL_law_1849 (by decide) (xm_stL (L' := [(5, .int p192.1), (0, .ref xkX), (1, .ref l1), (2, .ref l2), (3, .ref l3), (4, .int l4)]) rfl ?_)
      refine xm_aload_n dL_law_1851 rfl ?_
      refine xm_aload_n dL_law_1852 rfl ?_
      refine xm_iload dL_law_1853 rfl ?_
      refine xm_iconst dL_law_1855 (v := 1) (by decide) ?_
      refine xm_iadd dL_law_1856 ?_
      refine xb_xLd dL_law_1857 hf (fun x193 ex193 hf => ?_)
      refine xm_aload_n dL_law_1858 rfl ?_
      refine xm_iload dL_law_1859 rfl ?_
      refine xm_iconst dL_law_1861 (v := 2) (by decide) ?_
      refine xm_iadd dL_law_1862 ?_
      refine xb_xLd dL_law_1863 hf (fun x194 ex194 hf => ?_)
      refine xm_i2c dL_law_1864 rfl ?_
      refine xb_if hf (fun hb hf => ?_) (fun _ q => nomatch q)
      obtain ⟨p195, ep195, hf⟩ := xbind hf
      refine xb_callV (As := [.int x193, .int (((x194).toUInt32 % 65536).toInt32)]) (v0 := (some (.int p195.1))) (τ0 := p195.2) dL_law_1865 (xc_X12_derive _ _) xcl12 xw_2714 xw_2715 xw_2716 hb rfl (Nat.le_of_ble_eq_true rfl) rfl (Nat.le_of_ble_eq_true rfl) (fun Q1 hq => m_X12_derive (d := d + 404) ep195 (fun g hg => by subst hg; exact hq)) ?_
      refine xm_istore dL_law_1868 (by decide) (xm_stL (L' := [(6, .int p195.1), (5, .int p192.1), (0, .ref xkX), (1, .ref l1), (2, .ref l2), (3, .ref l3), (4, .int l4)]) rfl ?_)
      refine xm_aload_n dL_law_1870 rfl ?_
      refine xb_if hf (fun hb hf => ?_) (fun _ q => nomatch q)
      obtain ⟨p196, ep196, hf⟩ := xbind hf
      refine xb_callV (As := []) (v0 := (some (.int p196))) (τ0 := p195.2) dL_law_1871 (xc_X12_thrown _ _) xcl12 xw_1802 xw_1803 xw_1804 hb rfl (Nat.le_of_ble_eq_true rfl) rfl (Nat.le_of_ble_eq_true rfl) (fun Q1 hq => m_X12_thrown (d := d + 409) ep196 (fun g hg => by subst hg; exact hq)) ?_
      refine xm_iload dL_law_1874 rfl ?_
      refine xb_icmp_eq 1881 dL_law_1876 (by decide) hf (fun c hf => ?_) (fun c hf => ?_)
      · refine xm_iload dL_law_1881 rfl ?_
        refine xb_if_ne 1898 dL_law_1883 (by decide) hf (fun c hf => ?_) (fun c hf => ?_)
        · exact xm_sub [2, 3, 4, 5, 6] rfl (L_L_law_j1898 p195.2 l0 l1 l2 l3 l4 hf hR hE hC)
        · refine xm_aload_n dL_law_1886 rfl ?_
          refine xm_iconst dL_law_1887 (v := 0) (by decide) ?_
          refine xb_lald dL_law_1888 hf (fun x197 ex197 hf => ?_)
          refine xm_iload dL_law_1889 rfl ?_
          refine xm_i2l dL_law_1891 rfl ?_
          refine xm_lcmp dL_law_1892 ?_
          refine xb_if_eq 1898 dL_law_1893 (by decide) hf (fun c hf => ?_) (fun c hf => ?_)
          · exact xm_sub [2, 3, 4, 5, 6] rfl (L_L_law_j1898 p195.2 l0 l1 l2 l3 l4 hf hR hE hC)
          · refine xm_iconst dL_law_1896 (v := 0) (by decide) ?_
            cases hf
            exact xm_zret dL_law_1897 rfl rfl (hR _ rfl)
      · refine xm_iconst dL_law_1879 (v := 0) (by decide) ?_
        cases hf
        exact xm_zret dL_law_1880 rfl rfl (hR _ rfl)
    refine xb_if hf (fun c hf => ?_) (fun n28 hf => ?_)
    · refine xm_tableIn 1901 dL_law_40 (by rw [c]; decide) (by rw [c]; decide) (by rw [c]; rfl) (by decide) ?_
      refine xm_aload_n dL_law_1901 rfl ?_
      refine xm_aload_n dL_law_1902 rfl ?_
      refine xm_iload dL_law_1903 rfl ?_
      refine xm_iconst dL_law_1905 (v := 1) (by decide) ?_
      refine xm_iadd dL_law_1906 ?_
      refine xb_xLd dL_law_1907 hf (fun x198 ex198 hf => ?_)
      refine xm_aload_n dL_law_1908 rfl ?_
      refine xm_iload dL_law_1909 rfl ?_
      refine xm_iconst dL_law_1911 (v := 2) (by decide) ?_
      refine xm_iadd dL_law_1912 ?_
      refine xb_xLd dL_law_1913 hf (fun x199 ex199 hf => ?_)
      refine xm_i2c dL_law_1914 rfl ?_
      refine xm_aload_n dL_law_1915 rfl ?_
      obtain ⟨p200, ep200, hf⟩ := xbind hf
      refine xb_callSW (As := [.ref l1, .int x198, .int (((x199).toUInt32 % 65536).toInt32), .ref l3]) (v0 := some (.int p200.1)) (τ0 := p200.2) dL_law_1916 xc_L_slope xw_1690 xw_1691 rfl (Nat.le_of_ble_eq_true rfl) rfl (Nat.le_of_ble_eq_true rfl) (fun Q1 hq => m_L_slope (d := d + 400) (C := 0) (Z := 0) ep200 (fun g hg => by subst hg; exact hq)) ?_
      refine xm_istore dL_law_1919 (by decide) (xm_stL (L' := [(5, .int p200.1), (0, .ref xkX), (1, .ref l1), (2, .ref l2), (3, .ref l3), (4, .int l4)]) rfl ?_)
      refine xm_aload_n dL_law_1921 rfl ?_
      refine xm_aload_n dL_law_1922 rfl ?_
      refine xm_iload dL_law_1923 rfl ?_
      refine xm_iconst dL_law_1925 (v := 1) (by decide) ?_
      refine xm_iadd dL_law_1926 ?_
      refine xb_xLd dL_law_1927 hf (fun x201 ex201 hf => ?_)
      refine xm_aload_n dL_law_1928 rfl ?_
      refine xm_iload dL_law_1929 rfl ?_
      refine xm_iconst dL_law_1931 (v := 2) (by decide) ?_
      refine xm_iadd dL_law_1932 ?_
      refine xb_xLd dL_law_1933 hf (fun x202 ex202 hf => ?_)
      refine xm_i2c dL_law_1934 rfl ?_
      refine xb_if hf (fun hb hf => ?_) (fun _ q => nomatch q)
      obtain ⟨p203, ep203, hf⟩ := xbind hf
      refine xb_callV (As := [.int x201, .int (((x202).toUInt32 % 65536).toInt32)]) (v0 := (some (.int p203.1))) (τ0 := p203.2) dL_law_1935 (xc_X12_slope _ _) xcl12 xw_2754 xw_2755 xw_2756 hb rfl (Nat.le_of_ble_eq_true rfl) rfl (Nat.le_of_ble_eq_true rfl) (fun Q1 hq => m_X12_slope (d := d + 397) ep203 (fun g hg => by subst hg; exact hq)) ?_
      refine xm_istore dL_law_1938 (by decide) (xm_stL (L' := [(6, .int p203.1), (5, .int p200.1), (0, .ref xkX), (1, .ref l1), (2, .ref l2), (3, .ref l3), (4, .int l4)]) rfl ?_)
      refine xm_aload_n dL_law_1940 rfl ?_
      refine xb_if hf (fun hb hf => ?_) (fun _ q => nomatch q)
      obtain ⟨p204, ep204, hf⟩ := xbind hf
      refine xb_callV (As := []) (v0 := (some (.int p204))) (τ0 := p203.2) dL_law_1941 (xc_X12_thrown _ _) xcl12 xw_1802 xw_1803 xw_1804 hb rfl (Nat.le_of_ble_eq_true rfl) rfl (Nat.le_of_ble_eq_true rfl) (fun Q1 hq => m_X12_thrown (d := d + 409) ep204 (fun g hg => by subst hg; exact hq)) ?_
      refine xm_iload dL_law_1944 rfl ?_
      refine xb_icmp_eq 1951 dL_law_1946 (by decide) hf (fun c hf => ?_) (fun c hf => ?_)
      · refine xm_iload dL_law_1951 rfl ?_
        refine xb_if_ne 1968 dL_law_1953 (by decide) hf (fun c hf => ?_) (fun c hf => ?_)
        · exact xm_sub [2, 3, 4, 5, 6] rfl (L_L_law_j1968 p203.2 l0 l1 l2 l3 l4 hf hR hE hC)
        · refine xm_aload_n dL_law_1956 rfl ?_
          refine xm_iconst dL_law_1957 (v := 0) (by decide) ?_
          refine xb_lald dL_law_1958 hf (fun x205 ex205 hf => ?_)
          refine xm_iload dL_law_1959 rfl ?_
          refine xm_i2l dL_law_1961 rfl ?_
          refine xm_lcmp dL_law_1962 ?_
          refine xb_if_eq 1968 dL_law_1963 (by decide) hf (fun c hf => ?_) (fun c hf => ?_)
          · exact xm_sub [2, 3, 4, 5, 6] rfl (L_L_law_j1968 p203.2 l0 l1 l2 l3 l4 hf hR hE hC)
          · refine xm_iconst dL_law_1966 (v := 0) (by decide) ?_
            cases hf
            exact xm_zret dL_law_1967 rfl rfl (hR _ rfl)
      · refine xm_iconst dL_law_1949 (v := 0) (by decide) ?_
        cases hf
        exact xm_zret dL_law_1950 rfl rfl (hR _ rfl)
    refine xb_if hf (fun c hf => ?_) (fun n29 hf => ?_)
    · refine xm_tableIn 1971 dL_law_40 (by rw [c]; decide) (by rw [c]; decide) (by rw [c]; rfl) (by decide) ?_
      refine xm_aload_n dL_law_1971 rfl ?_
      refine xm_aload_n dL_law_1972 rfl ?_
      refine xm_iload dL_law_1973 rfl ?_
      refine xm_iconst dL_law_1975 (v := 1) (by decide) ?_
      refine xm_iadd dL_law_1976 ?_
      refine xb_xLd dL_law_1977 hf (fun x206 ex206 hf => ?_)
      refine xm_aload_n dL_law_1978 rfl ?_
      refine xm_iload dL_law_1979 rfl ?_
      refine xm_iconst dL_law_1981 (v := 2) (by decide) ?_
      refine xm_iadd dL_law_1982 ?_
      refine xb_xLd dL_law_1983 hf (fun x207 ex207 hf => ?_)
      refine xm_i2c dL_law_1984 rfl ?_
      refine xm_aload_n dL_law_1985 rfl ?_
      obtain ⟨p208, ep208, hf⟩ := xbind hf
      refine xb_callSW (As := [.ref l1, .int x206, .int (((x207).toUInt32 % 65536).toInt32), .ref l3]) (v0 := some (.int p208.1)) (τ0 := p208.2) dL_law_1986 xc_L_solve xw_1744 xw_1745 rfl (Nat.le_of_ble_eq_true rfl) rfl (Nat.le_of_ble_eq_true rfl) (fun Q1 hq => m_L_solve (d := d + 400) (C := 0) (Z := 0) ep208 (fun g hg => by subst hg; exact hq)) ?_
      refine xm_istore dL_law_1989 (by decide) (xm_stL (L' := [(5, .int p208.1), (0, .ref xkX), (1, .ref l1), (2, .ref l2), (3, .ref l3), (4, .int l4)]) rfl ?_)
      refine xm_aload_n dL_law_1991 rfl ?_
      refine xm_aload_n dL_law_1992 rfl ?_
      refine xm_iload dL_law_1993 rfl ?_
      refine xm_iconst dL_law_1995 (v := 1) (by decide) ?_
      refine xm_iadd dL_law_1996 ?_
      refine xb_xLd dL_law_1997 hf (fun x209 ex209 hf => ?_)
      refine xm_aload_n dL_law_1998 rfl ?_
      refine xm_iload dL_law_1999 rfl ?_
      refine xm_iconst dL_law_2001 (v := 2) (by decide) ?_
      refine xm_iadd dL_law_2002 ?_
      refine xb_xLd dL_law_2003 hf (fun x210 ex210 hf => ?_)
      refine xm_i2c dL_law_2004 rfl ?_
      refine xb_if hf (fun hb hf => ?_) (fun _ q => nomatch q)
      obtain ⟨p211, ep211, hf⟩ := xbind hf
      refine xb_callV (As := [.int x209, .int (((x210).toUInt32 % 65536).toInt32)]) (v0 := (some (.int p211.1))) (τ0 := p211.2) dL_law_2005 (xc_X12_solve _ _) xcl12 xw_2784 xw_2785 xw_2786 hb rfl (Nat.le_of_ble_eq_true rfl) rfl (Nat.le_of_ble_eq_true rfl) (fun Q1 hq => m_X12_solve (d := d + 399) ep211 (fun g hg => by subst hg; exact hq)) ?_
      refine xm_istore dL_law_2008 (by decide) (xm_stL (L' := [(6, .int p211.1), (5, .int p208.1), (0, .ref xkX), (1, .ref l1), (2, .ref l2), (3, .ref l3), (4, .int l4)]) rfl ?_)
      refine xm_aload_n dL_law_2010 rfl ?_
      refine xb_if hf (fun hb hf => ?_) (fun _ q => nomatch q)
      obtain ⟨p212, ep212, hf⟩ := xbind hf
      refine xb_callV (As := []) (v0 := (some (.int p212))) (τ0 := p211.2) dL_law_2011 (xc_X12_thrown _ _) xcl12 xw_1802 xw_1803 xw_1804 hb rfl (Nat.le_of_ble_eq_true rfl) rfl (Nat.le_of_ble_eq_true rfl) (fun Q1 hq => m_X12_thrown (d := d + 409) ep212 (fun g hg => by subst hg; exact hq)) ?_
      refine xm_iload dL_law_2014 rfl ?_
      refine xb_icmp_eq 2021 dL_law_2016 (by decide) hf (fun c hf => ?_) (fun c hf => ?_)
      · refine xm_iload dL_law_2021 rfl ?_
        refine xb_if_ne 2038 dL_law_2023 (by decide) hf (fun c hf => ?_) (fun c hf => ?_)
        · exact xm_sub [2, 3, 4, 5, 6] rfl (L_L_law_j2038 p211.2 l0 l1 l2 l3 l4 hf hR hE hC)
        · refine xm_aload_n dL_law_2026 rfl ?_
          refine xm_iconst dL_law_2027 (v := 0) (by decide) ?_
          refine xb_lald dL_law_2028 hf (fun x213 ex213 hf => ?_)
          refine xm_iload dL_law_2029 rfl ?_
          refine xm_i2l dL_law_2031 rfl ?_
          refine xm_lcmp dL_law_2032 ?_
          refine xb_if_eq 2038 dL_law_2033 (by decide) hf (fun c hf => ?_) (fun c hf => ?_)
          · exact xm_sub [2, 3, 4, 5, 6] rfl (L_L_law_j2038 p211.2 l0 l1 l2 l3 l4 hf hR hE hC)
          · refine xm_iconst dL_law_2036 (v := 0) (by decide) ?_
            cases hf
            exact xm_zret dL_law_2037 rfl rfl (hR _ rfl)
      · refine xm_iconst dL_law_2019 (v := 0) (by decide) ?_
        cases hf
        exact xm_zret dL_law_2020 rfl rfl (hR _ rfl)
    refine xb_if hf (fun c hf => ?_) (fun n30 hf => ?_)
    · refine xm_tableIn 2041 dL_law_40 (by rw [c]; decide) (by rw [c]; decide) (by rw [c]; rfl) (by decide) ?_
      refine xm_aload_n dL_law_2041 rfl ?_
      refine xb_if hf (fun hb hf => ?_) (fun _ q => nomatch q)
      obtain ⟨p214, ep214, hf⟩ := xbind hf
      refine xb_callV (As := []) (v0 := (some (.int p214.1))) (τ0 := p214.2) dL_law_2042 (xc_X11_undo _ _) xcl11 xw_741 xw_742 xw_743 hb rfl (Nat.le_of_ble_eq_true rfl) rfl (Nat.le_of_ble_eq_true rfl) (fun Q1 hq => m_X11_undo (d := d + 405) ep214 (fun g hg => by subst hg; exact hq)) ?_
      refine xm_aload_n dL_law_2045 rfl ?_
      refine xb_if hf (fun hb hf => ?_) (fun _ q => nomatch q)
      obtain ⟨p215, ep215, hf⟩ := xbind hf
      refine xb_callV (As := []) (v0 := (some (.int p215.1))) (τ0 := p215.2) dL_law_2046 (xc_X12_undo _ _) xcl12 xw_2096 xw_2097 xw_2098 hb rfl (Nat.le_of_ble_eq_true rfl) rfl (Nat.le_of_ble_eq_true rfl) (fun Q1 hq => m_X12_undo (d := d + 408) ep215 (fun g hg => by subst hg; exact hq)) ?_
      refine xb_icmp_eq 2129 dL_law_2049 (by decide) hf (fun c hf => ?_) (fun c hf => ?_)
      · refine xm_wk (C9 := C) (Z9 := Z) (Nat.le_add_left _ _) (Nat.le_add_left _ _) ?_
        exact xm_sub [0, 1, 2, 3, 4] rfl (L_L_law_j2129 p215.2 l0 l1 l2 l3 l4 hf hR hE hC)
      · refine xm_iconst dL_law_2052 (v := 0) (by decide) ?_
        cases hf
        exact xm_zret dL_law_2053 rfl rfl (hR _ rfl)
    refine xb_if hf (fun c hf => ?_) (fun n31 hf => ?_)
    · refine xm_tableIn 2054 dL_law_40 (by rw [c]; decide) (by rw [c]; decide) (by rw [c]; rfl) (by decide) ?_
      refine xm_aload_n dL_law_2054 rfl ?_
      refine xm_aload_n dL_law_2055 rfl ?_
      refine xm_iload dL_law_2056 rfl ?_
      refine xm_iconst dL_law_2058 (v := 1) (by decide) ?_
      refine xm_iadd dL_law_2059 ?_
      refine xb_xLd dL_law_2060 hf (fun x216 ex216 hf => ?_)
      refine xm_aload_n dL_law_2061 rfl ?_
      refine xm_iload dL_law_2062 rfl ?_
      refine xm_iconst dL_law_2064 (v := 2) (by decide) ?_
      refine xm_iadd dL_law_2065 ?_
      refine xb_xLd dL_law_2066 hf (fun x217 ex217 hf => ?_)
      refine xm_aload_n dL_law_2067 rfl ?_
      obtain ⟨p218, ep218, hf⟩ := xbind hf
      refine xb_callSW (As := [.ref l1, .int x216, .int x217, .ref l3]) (v0 := some (.int p218.1)) (τ0 := p218.2) dL_law_2068 xc_L_audit xw_1760 xw_1761 rfl (Nat.le_of_ble_eq_true rfl) rfl (Nat.le_of_ble_eq_true rfl) (fun Q1 hq => m_L_audit (d := d + 0) (C := 0) (Z := 0) ep218 (fun g hg => by subst hg; exact hq)) ?_
      refine xm_istore dL_law_2071 (by decide) (xm_stL (L' := [(5, .int p218.1), (0, .ref xkX), (1, .ref l1), (2, .ref l2), (3, .ref l3), (4, .int l4)]) rfl ?_)
      refine xm_aload_n dL_law_2073 rfl ?_
      refine xm_aload_n dL_law_2074 rfl ?_
      refine xm_iload dL_law_2075 rfl ?_
      refine xm_iconst dL_law_2077 (v := 1) (by decide) ?_
      refine xm_iadd dL_law_2078 ?_
      refine xb_xLd dL_law_2079 hf (fun x219 ex219 hf => ?_)
      refine xm_aload_n dL_law_2080 rfl ?_
      refine xm_iload dL_law_2081 rfl ?_
      refine xm_iconst dL_law_2083 (v := 2) (by decide) ?_
      refine xm_iadd dL_law_2084 ?_
      refine xb_xLd dL_law_2085 hf (fun x220 ex220 hf => ?_)
      refine xb_if hf (fun hb hf => ?_) (fun _ q => nomatch q)
      obtain ⟨p221, ep221, hf⟩ := xbind hf
      refine xb_callV (As := [.int x219, .int x220]) (v0 := (some (.int p221.1))) (τ0 := p221.2) dL_law_2086 (xc_X12_audit _ _) xcl12 xw_2796 xw_2797 xw_2798 hb rfl (Nat.le_of_ble_eq_true rfl) rfl (Nat.le_of_ble_eq_true rfl) (fun Q1 hq => m_X12_audit (d := d + 396) ep221 (fun g hg => by subst hg; exact hq)) ?_
      refine xm_istore dL_law_2089 (by decide) (xm_stL (L' := [(6, .int p221.1), (5, .int p218.1), (0, .ref xkX), (1, .ref l1), (2, .ref l2), (3, .ref l3), (4, .int l4)]) rfl ?_)
      refine xm_aload_n dL_law_2091 rfl ?_
      refine xb_if hf (fun hb hf => ?_) (fun _ q => nomatch q)
      obtain ⟨p222, ep222, hf⟩ := xbind hf
      refine xb_callV (As := []) (v0 := (some (.int p222))) (τ0 := p221.2) dL_law_2092 (xc_X12_thrown _ _) xcl12 xw_1802 xw_1803 xw_1804 hb rfl (Nat.le_of_ble_eq_true rfl) rfl (Nat.le_of_ble_eq_true rfl) (fun Q1 hq => m_X12_thrown (d := d + 409) ep222 (fun g hg => by subst hg; exact hq)) ?_
      refine xm_iload dL_law_2095 rfl ?_
      refine xb_icmp_eq 2102 dL_law_2097 (by decide) hf (fun c hf => ?_) (fun c hf => ?_)
      · refine xm_iload dL_law_2102 rfl ?_
        refine xb_if_ne 2126 dL_law_2104 (by decide) hf (fun c hf => ?_) (fun c hf => ?_)
        · exact xm_sub [2, 3, 4, 5, 6] rfl (L_L_law_j2126 p221.2 l0 l1 l2 l3 l4 hf hR hE hC)
        · refine xm_aload_n dL_law_2107 rfl ?_
          refine xm_iconst dL_law_2108 (v := 0) (by decide) ?_
          refine xb_lald dL_law_2109 hf (fun x223 ex223 hf => ?_)
          refine xm_iload dL_law_2110 rfl ?_
          refine xb_if_eq 2119 dL_law_2112 (by decide) hf (fun c hf => ?_) (fun c hf => ?_)
          · refine xm_lconst dL_law_2119 (v := 0) (by decide) ?_
            exact xm_sub [2, 3, 4, 5, 6] rfl (L_L_law_j2120 p221.2 l0 l1 l2 l3 l4 (0 : Int64) x223 hf hR hE hC)
          · refine xm_lconst dL_law_2115 (v := 1) (by decide) ?_
            refine xm_goto 2120 dL_law_2116 (by decide) ?_
            exact xm_sub [2, 3, 4, 5, 6] rfl (L_L_law_j2120 p221.2 l0 l1 l2 l3 l4 (1 : Int64) x223 hf hR hE hC)
      · refine xm_iconst dL_law_2100 (v := 0) (by decide) ?_
        cases hf
        exact xm_zret dL_law_2101 rfl rfl (hR _ rfl)
    refine xm_tableOut 2129 dL_law_40 (by have q0 := lv_neT (a := 0) n0 (by decide); have q1 := lv_neT (a := 1) n1 (by decide); have q2 := lv_neT (a := 2) n2 (by decide); have q3 := lv_neT (a := 3) n3 (by decide); have q4 := lv_neT (a := 4) n4 (by decide); have q5 := lv_neT (a := 5) n5 (by decide); have q6 := lv_neT (a := 6) n6 (by decide); have q7 := lv_neT (a := 7) n7 (by decide); have q8 := lv_neT (a := 8) n8 (by decide); have q9 := lv_neT (a := 9) n9 (by decide); have q10 := lv_neT (a := 10) n10 (by decide); have q11 := lv_neT (a := 11) n11 (by decide); have q12 := lv_neT (a := 12) n12 (by decide); have q13 := lv_neT (a := 13) n13 (by decide); have q14 := lv_neT (a := 14) n14 (by decide); have q15 := lv_neT (a := 15) n15 (by decide); have q16 := lv_neT (a := 16) n16 (by decide); have q17 := lv_neT (a := 17) n17 (by decide); have q18 := lv_neT (a := 18) n18 (by decide); have q19 := lv_neT (a := 19) n19 (by decide); have q20 := lv_neT (a := 20) n20 (by decide); have q21 := lv_neT (a := 21) n21 (by decide); have q22 := lv_neT (a := 22) n22 (by decide); have q23 := lv_neT (a := 23) n23 (by decide); have q24 := lv_neT (a := 24) n24 (by decide); have q25 := lv_neT (a := 25) n25 (by decide); have q26 := lv_neT (a := 26) n26 (by decide); have q27 := lv_neT (a := 27) n27 (by decide); have q28 := lv_neT (a := 28) n28 (by decide); have q29 := lv_neT (a := 29) n29 (by decide); have q30 := lv_neT (a := 30) n30 (by decide); have q31 := lv_neT (a := 31) n31 (by decide); omega) (by decide) ?_
    refine xm_wk (C9 := C) (Z9 := Z) (Nat.le_add_left _ _) (Nat.le_add_left _ _) ?_
    exact xm_sub [0, 1, 2, 3, 4] rfl (L_L_law_j2129 σ l0 l1 l2 l3 l4 hf hR hE hC)
theorem xdf11 : ∀ j, j < 16 → defaultValue (xtyp 11 j) = if xisr (xtyp 11 j) = true then .null else .int 0 := fun j hj => match j, hj with | 0, _ => rfl | 1, _ => rfl | 2, _ => rfl | 3, _ => rfl | 4, _ => rfl | 5, _ => rfl | 6, _ => rfl | 7, _ => rfl | 8, _ => rfl | 9, _ => rfl | 10, _ => rfl | 11, _ => rfl | 12, _ => rfl | 13, _ => rfl | 14, _ => rfl | 15, _ => rfl | (j + 16), h => absurd h (by omega)
theorem xdf12 : ∀ j, j < 86 → defaultValue (xtyp 12 j) = if xisr (xtyp 12 j) = true then .null else .int 0 := fun j hj => match j, hj with | 0, _ => rfl | 1, _ => rfl | 2, _ => rfl | 3, _ => rfl | 4, _ => rfl | 5, _ => rfl | 6, _ => rfl | 7, _ => rfl | 8, _ => rfl | 9, _ => rfl | 10, _ => rfl | 11, _ => rfl | 12, _ => rfl | 13, _ => rfl | 14, _ => rfl | 15, _ => rfl | 16, _ => rfl | 17, _ => rfl | 18, _ => rfl | 19, _ => rfl | 20, _ => rfl | 21, _ => rfl | 22, _ => rfl | 23, _ => rfl | 24, _ => rfl | 25, _ => rfl | 26, _ => rfl | 27, _ => rfl | 28, _ => rfl | 29, _ => rfl | 30, _ => rfl | 31, _ => rfl | 32, _ => rfl | 33, _ => rfl | 34, _ => rfl | 35, _ => rfl | 36, _ => rfl | 37, _ => rfl | 38, _ => rfl | 39, _ => rfl | 40, _ => rfl | 41, _ => rfl | 42, _ => rfl | 43, _ => rfl | 44, _ => rfl | 45, _ => rfl | 46, _ => rfl | 47, _ => rfl | 48, _ => rfl | 49, _ => rfl | 50, _ => rfl | 51, _ => rfl | 52, _ => rfl | 53, _ => rfl | 54, _ => rfl | 55, _ => rfl | 56, _ => rfl | 57, _ => rfl | 58, _ => rfl | 59, _ => rfl | 60, _ => rfl | 61, _ => rfl | 62, _ => rfl | 63, _ => rfl | 64, _ => rfl | 65, _ => rfl | 66, _ => rfl | 67, _ => rfl | 68, _ => rfl | 69, _ => rfl | 70, _ => rfl | 71, _ => rfl | 72, _ => rfl | 73, _ => rfl | 74, _ => rfl | 75, _ => rfl | 76, _ => rfl | 77, _ => rfl | 78, _ => rfl | 79, _ => rfl | 80, _ => rfl | 81, _ => rfl | 82, _ => rfl | 83, _ => rfl | 84, _ => rfl | 85, _ => rfl | (j + 86), h => absurd h (by omega)
def f_L_law (aC : Nat → ClassId) (σ : xM) : Option (Int32 × xM) :=
  (nwO σ 11 [xkX]).bind (fun σ1 => (f_X11_init σ1 σ.1).bind (fun τ1 => (cdo σ1 τ1 [σ.1, xkX]).bind (fun σ2 => (nwO σ2 12 [σ.1, xkX]).bind (fun σ3 => (f_X12_init σ3 σ2.1).bind (fun τ2 => (cdo σ3 τ2 [σ2.1, σ.1, xkX]).bind (fun σ4 => (nwA σ4 19 (1 : Int32) (componentBytes .long) [σ2.1, σ.1, xkX]).bind (fun σ5 =>
    (xloop (f_L_law_s23 aC) 513 (xkX, σ.1, σ2.1, σ4.1, (0 : Int32), σ5)).bind (Sum.elim (fun g => some g) (fun e => some ((1 : Int32), e))))))))))
theorem L_L_law_run {G : xG} {π : Nat → Nat} {d : Nat} {Q : xQ} : ∀ (n : Nat) (l0 l1 l2 l3 : Nat) (l4 : Int32) (σ : xM) {x : Int32 × xM}, (xloop (f_L_law_s23 G.2.2.1) n (l0, l1, l2, l3, l4, σ)).bind (Sum.elim (fun g => some g) (fun e => some ((1 : Int32), e))) = some x → (∀ τ π', Q (.inl (some (.int x.1))) τ π') → xMach G π J_L_law (d + 410) n (6 * n) 23 [(0, .ref xkX), (1, .ref l1), (2, .ref l2), (3, .ref l3), (4, .int l4)] [] σ Q := by
  intro n
  induction n with
  | zero => intro l0 l1 l2 l3 l4 σ x hf; cases hf
  | succ n ih =>
    intro l0 l1 l2 l3 l4 σ x hf hR
    unfold xloop at hf
    refine xm_wk (C9 := 1 + n) (Z9 := 6 + 6 * n) (by omega) (by omega) ?_
    cases hy : f_L_law_s23 G.2.2.1 (l0, l1, l2, l3, l4, σ) with
    | none => rw [hy] at hf; cases hf
    | some y =>
      rw [hy] at hf
      refine L_L_law_s23 σ l0 l1 l2 l3 l4 hy (fun g hg => ?_) (fun e he => ?_) (fun e he => ?_)
      · subst hg
        cases hf
        exact hR _ _
      · subst he
        cases hf
        refine xm_iconst dL_law_2135 (v := 1) (by decide) ?_
        exact xm_zret dL_law_2136 rfl rfl (hR _ _)
      · subst he
        obtain ⟨e0, e1, e2, e3, e4, τ⟩ := e
        exact ih e0 e1 e2 e3 e4 τ hf hR
theorem m_L_law {G : xG} {π : Nat → Nat} {d : Nat} {Q : xQ} {σ : xM} {x : Int32 × xM} (hf : f_L_law G.2.2.1 σ = some x) (hR : ∀ τ π', Q (.inl (some (.int x.1))) τ π') : xMach G π J_L_law (d + 410) 5138 294728 0 (lv_args 0 [.ref xkX]) [] σ Q := by
  unfold f_L_law at hf
  refine xm_stL (L' := [(0, .ref xkX)]) rfl ?_
  refine xb_newL (N := 16) (C9 := 5137) (Z9 := 294712) dL_law_0 xcl11 xw_26 xw_27 xw_1 xdf11 rfl rfl rfl hf (fun σ1 π hf => ?_)
  refine xm_dup dL_law_3 rfl ?_
  obtain ⟨τ1, eτ1, hf⟩ := xbind hf
  refine xb_ctorL (J' := J_X11_init) (τ1 := τ1) (C1 := 4560) (Z1 := 52763) (C9 := 577) (Z9 := 241949) (As := []) dL_law_4 (xc_X11_init _ _) rfl rfl xw_28 xw_29 rfl (Nat.le_of_ble_eq_true rfl) rfl (Nat.le_of_ble_eq_true rfl) (fun Q1 hq => m_X11_init (d := d + 403) eτ1 hq) rfl rfl rfl hf (fun σ2 π hf => ?_)
  refine xm_astore_n dL_law_7 (by decide) (xm_stL (L' := [(1, .ref σ.1), (0, .ref xkX)]) rfl ?_)
  refine xb_newL (N := 86) (C9 := 576) (Z9 := 241863) dL_law_8 xcl12 xw_1806 xw_1807 xw_19 xdf12 rfl rfl rfl hf (fun σ3 π hf => ?_)
  refine xm_dup dL_law_11 rfl ?_
  obtain ⟨τ2, eτ2, hf⟩ := xbind hf
  refine xb_ctorL (J' := J_X12_init) (τ1 := τ2) (C1 := 62) (Z1 := 238784) (C9 := 514) (Z9 := 3079) (As := []) dL_law_12 (xc_X12_init _ _) rfl rfl xw_1808 xw_1809 rfl (Nat.le_of_ble_eq_true rfl) rfl (Nat.le_of_ble_eq_true rfl) (fun Q1 hq => m_X12_init (d := d + 406) eτ2 hq) rfl rfl rfl hf (fun σ4 π hf => ?_)
  refine xm_astore_n dL_law_15 (by decide) (xm_stL (L' := [(2, .ref σ2.1), (1, .ref σ.1), (0, .ref xkX)]) rfl ?_)
  refine xm_iconst dL_law_16 (v := 1) (by decide) ?_
  refine xb_newaJL (N := 1) (C9 := 513) (Z9 := 3078) dL_law_17 xw_2812 rfl rfl rfl rfl hf (fun σ5 π hf => ?_)
  refine xm_astore_n dL_law_19 (by decide) (xm_stL (L' := [(3, .ref σ4.1), (2, .ref σ2.1), (1, .ref σ.1), (0, .ref xkX)]) rfl ?_)
  refine xm_iconst dL_law_20 (v := 0) (by decide) ?_
  refine xm_istore dL_law_21 (by decide) (xm_stL (L' := [(4, .int 0), (3, .ref σ4.1), (2, .ref σ2.1), (1, .ref σ.1), (0, .ref xkX)]) rfl ?_)
  exact xm_sub [4, 3, 2, 1, 0] rfl (L_L_law_run 513 _ _ _ _ _ _ hf hR)
