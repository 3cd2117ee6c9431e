/-! THE LAW'S OWN METHODS: calls that are caught, calls of methods with a table, the script, the law's entry -/
/-- the row of the table that takes what is thrown here, the rows ahead passing it by -/
def xCatch (J : xJ) (pc : Nat) (E : String) (h : Nat) : Prop :=
  ∃ (pre : List ExceptionTableEntry) (x : ExceptionTableEntry) (suf : List ExceptionTableEntry) (nm : String), tableOf (xTb J) = pre ++ x :: suf ∧ (∀ z ∈ pre, z.catchType ≠ 0 ∧ ∃ nm : String, Cond.classLink J.1 z.catchType nm ∈ xTB ∧ (E, nm) ∈ xncs) ∧ covers x pc = true ∧ x.catchType ≠ 0 ∧ Cond.classLink J.1 x.catchType nm ∈ xTB ∧ Cond.castable E nm ∈ xot ∧ x.handlerPc = h
def xStoreAt (J : xJ) (h h' : Nat) : Prop := (∃ i : Nat, decode J.2.2.1 h = .ok (.astore i, 2) ∧ i < J.2.2.2.1 ∧ h' = h + 2) ∨ (∃ i : Fin 4, decode J.2.2.1 h = .ok (.astore_n i, 1) ∧ (i : Nat) < J.2.2.2.1 ∧ h' = h + 1)
section XL
variable {G : xG} {π : Nat → Nat} {J : xJ} {d C C9 Z pc : Nat} {L : List (Nat × Value)} {S : List Value} {σ : xM} {Q : xQ} {ρ : Type} {r : ρ}
theorem lv_none {ls : Array Slot} {nL : Nat} {l : List (Nat × Value)} (h : lv_has ls nL l) : lv_has ls nL [] := lv_sub h [] rfl
/-- behind a call: what came back, or what was caught -/
theorem xm_backC {p : Program} {e : Env} {s : State} {m : MethodId} {args : Array Value} {below : List Frame} {meth : Method} {c : Code} {H : Heap} {locs : List Loc} {cells slots mc ms C1 Z1 : Nat} {ls : Array Slot} {st0 : List Value} {a : Array Value} {Q1 : xQ}
    (hr : vx_Run p G.1 e (xroom d mc ms) s m args below meth c H locs cells slots C1 Z1 (F0 m pc ls st0) (S.map (xvp π)) (xQc G Q1 a) (xXC G Q1) (xA G.2.2.2))
    (a1 : xCx G J p s m args meth c) (a3 : va_S (xA G.2.2.2) s.heap H locs) (a4 : lv_has ls J.2.2.2.1 (xmp π L)) (a5 : cells + (C1 + C9) ≤ mc) (a6 : slots + (Z1 + Z) ≤ ms)
    (kx : ∀ (E : String) (τ : xM) (π' : Nat → Nat), Q1 (.inr E) τ π' → ∃ h h' : Nat, xCatch J pc E h ∧ xStoreAt J h h' ∧ xMach G π' J d C9 Z h' [] [] τ Q)
    (kk : ∀ (v : Option Value) (τ : xM) (π' : Nat → Nat), Q1 (.inl v) τ π' → S.map (xvp π') = S.map (xvp π) ∧ xmp π' L = xmp π L ∧ xMach G π' J d C9 Z (pc + 3) L (v.toList ++ S) τ Q) :
    W p G.1 e (xroom d mc ms) s m args below meth c H locs cells slots (vx_MQ below (xQc G Q) (xXC G Q) args s mc ms (xA G.2.2.2)) (F0 m pc ls st0) := by
  intro T hT X
  rcases hr T hT X with ⟨v, st₀, t, T', L9, h0, X', hL, e1, e2, ⟨v9, τ, π', hv, hq, hh, hF⟩, st⟩ | ⟨q, st₀, t, T', L9, E, ce, h0, X', hL, e1, e2, ⟨τ, π', hq, hh, hF⟩, hce, hcv, hcl, st⟩
  · cases hv
    obtain ⟨k1, k2, k3⟩ := vx_keep h0 e1 a3 (fun _ _ h => h) (fun _ h => h) hL hF
    obtain ⟨f1, f2, f3⟩ := kk v9 τ π' hq
    obtain ⟨t2, b1, b2⟩ := f3 p e s m args below meth c T'.heap (locs ++ L9) (cells + C1) (slots + Z1) mc ms ls a1 (by rw [e1]; exact hh) k3 (by rw [f2]; exact a4) (by omega) (by omega) T' rfl X'
    refine ⟨t2, st t2 ?_, b2⟩
    have e3 : (v9.map (xvp π')).toList ++ S.map (xvp π) = (v9.toList ++ S).map (xvp π') := by
      rw [List.map_append, f1]
      cases v9 <;> rfl
    show Steps p.tables e below (T'.setTop { F0 m pc ls st0 with pc := pc + 3, stack := (v9.map (xvp π')).toList ++ S.map (xvp π) }) t2
    rw [e3]
    exact b1
  · obtain ⟨k1, k2, k3⟩ := vx_keep h0 e1 a3 (fun _ _ h => h) (fun _ h => h) hL hF
    obtain ⟨h, h', ⟨pre, x, suf, nm, x1, x2, x3, x4, x5, x6, rfl⟩, hs, f3⟩ := kx E τ π' hq
    obtain ⟨_, _, ⟨n1, n2, _⟩, _⟩ := a1.2.2.2.2.2.2.1
    have hcast : (Cond.castable E nm).before args s = true := by
      have hn := n1 _ x6
      exact va_tabs rfl rfl hn
    have key : W p G.1 e (xroom d mc ms) s m args below meth c T'.heap (locs ++ L9) (cells + C1) (slots + Z1) (vx_MQ below (xQc G Q) (xXC G Q) args s mc ms (xA G.2.2.2)) (F0 m x.handlerPc ls [.ref q]) := by
      have go : ∀ (ls' : Array Slot) (nl : List (Nat × Value)), lv_has ls' J.2.2.2.1 nl → W p G.1 e (xroom d mc ms) s m args below meth c T'.heap (locs ++ L9) (cells + C1) (slots + Z1) (vx_MQ below (xQc G Q) (xXC G Q) args s mc ms (xA G.2.2.2)) (F0 m h' ls' []) := fun ls' nl hl =>
        f3 p e s m args below meth c T'.heap (locs ++ L9) (cells + C1) (slots + Z1) mc ms ls' a1 (by rw [e1]; exact hh) k3 (lv_none hl) (by omega) (by omega)
      rcases hs with ⟨i, hd, hi, rfl⟩ | ⟨i, hd, hi, rfl⟩
      · exact lv_astore a1.1 a1.2.1 hd a4 hi rfl (fun ls' a7 => go ls' _ a7)
      · exact lv_astore_n a1.1 a1.2.1 hd rfl a4 hi rfl (fun ls' a7 => go ls' _ a7)
    obtain ⟨t2, b1, b2⟩ := vx_catch (own := J.1) (name := nm) (rest := S.map (xvp π)) a1.2.2.2.2.1 pre x suf (a1.2.2.2.2.2.2.2.2.2.trans x1) (fun z hz => by
      obtain ⟨z1, nm2, z2, z3⟩ := x2 z hz
      exact Or.inr ⟨z1, nm2, a1.2.2.2.2.2.1 _ z2, n2 _ z3⟩) x3 x4 (a1.2.2.2.2.2.1 _ x5) hcast (H := T'.heap) (by rw [e1]; exact hce) hcv hcl key T' rfl X'
    exact ⟨t2, st.trans b1, b2⟩
theorem xm_callVC {J' : xJ} {idx n b ci N C1 Z1 : Nat} {T : u_T} {As : List Value} {Q1 : xQ} (h : decode J.2.2.1 pc = .ok (.invokevirtual idx, 3)) (hc : xCal J J' d n) (hx : xCl ci J'.2.1.cls T N) (hw1 : Cond.methodLink J.1 idx J'.2.1 ∈ xTB) (hw2 : Cond.instanceMethod J'.2.1 ∈ xTB) (hw3 : Cond.selects J'.2.1.cls J'.2.1 J'.2.1 ∈ xTB)
    (hb : b < σ.1) (hT : (σ.2.1 b).1 = ci) (hn : As.length = n) (hlen : (lg_sl (.ref b :: As)).length ≤ J'.2.2.2.1) (hS : (S.map fun v => v.category).sum ≤ 8)
    (kc : xMach G π J' d C1 Z1 0 (lv_args 0 (.ref b :: As)) [] σ Q1)
    (kx : ∀ (E : String) (τ : xM) (π' : Nat → Nat), Q1 (.inr E) τ π' → ∃ h h' : Nat, xCatch J pc E h ∧ xStoreAt J h h' ∧ xMach G π' J (d + 1) C9 Z h' [] [] τ Q)
    (kk : ∀ (v : Option Value) (τ : xM) (π' : Nat → Nat), Q1 (.inl v) τ π' → S.map (xvp π') = S.map (xvp π) ∧ xmp π' L = xmp π L ∧ xMach G π' J (d + 1) C9 Z (pc + 3) L (v.toList ++ S) τ Q) (hTb' : xTb J' = [] := by decide) : xMach G π J (d + 1) (C1 + C9) (Z1 + Z) pc L (As.reverse ++ .ref b :: S) σ Q := by
  intro p e s m args below meth c0 H locs cells slots mc ms ls a1 a2 a3 a4 a5 a6
  have hq0 := xwd_at (aC := G.2.2.1) (π := π) hb
  rw [xel_obj hT hx.2.2.2.2.2] at hq0
  have hM := xMet hTb' hc.2.2.2.1 hc.2.2.2.2.1 hlen kc
  rw [xst_mp]
  refine xm_backC (π := π) (L := L) (C9 := C9) (Z := Z) (vx_runV (As := As.map (xvp π)) (rest := S.map (xvp π)) ⟨a1.1, a1.2.1, a1.2.2.2.1, a1.2.2.2.2.1, a1.2.2.2.2.2.1⟩ hM ⟨xCalB hc a1.2.2.2.2.2.1 (a1.2.2.2.2.2.1 _ (xws_in hw1)), a1.2.2.2.2.2.1 _ (xws_in hw2), a1.2.2.2.2.2.1 _ (xws_in hw3)⟩ ⟨xPc.blind, va_recv a1.2.2.2.2.2.2.1.1 a2.1 hx.1 hq0, fun U hU hW => ⟨rfl, by rw [hU]; exact a2, xKn.warm hW hU a3 a1.2.2.2.2.2.2.1⟩⟩ rfl (by rw [List.length_map]; exact hn) a4.1 rfl (lv_room (by rw [xcat_mp]; exact hS)) h ⟨by show cells + C1 ≤ mc; omega, by show slots + Z1 ≤ ms; omega⟩) a1 a3 a4 (by omega) (by omega) kx kk
/-- a contract of a method with a table -/
theorem xMetW {vs : List Value} (hy : plainName J.2.1.cls = true) (hcl : J.2.1.cls = J.1) (hn : (lg_sl vs).length ≤ J.2.2.2.1) (k : xMach G π J d C9 Z 0 (lv_args 0 vs) [] σ Q) : vx_Met G.1 J.2.1 (xwsW J) (xroom d C9 Z) (xPc G π σ vs) (xQc G Q) (xXC G Q) C9 Z (xA G.2.2.2) := by
  refine vx_ofWH (cc := J.2.2.1) (maxL := J.2.2.2.1) (ret := J.2.2.2.2) (hh := xTb J) (ws' := xTB) hy rfl ?_
  intro p e s m args below meth c s₁ B hml hv
  obtain ⟨rfl, hH, hK⟩ := hv
  have hpre := atoms_spec (ws := xwsW J) B.pre
  have hl := lv_entry (vs.map (xvp π)) (n := J.2.2.2.1) (by rw [xlg_len]; exact hn)
  rw [lg_entry_eq]
  generalize (lg_sl (vs.map (xvp π)) ++ List.replicate (J.2.2.2.1 - (lg_sl (vs.map (xvp π))).length) Slot.unset).toArray = ls at hl ⊢
  rw [xargs_mp] at hl
  exact k p e s m _ below meth c s.heap [] 0 0 C9 Z ls ⟨B.exec, B.bytes, B.returns, hml, by rw [← hcl]; exact findClass_of_methodNamed B.named, fun w hw => hpre w (List.mem_cons_of_mem _ hw), hK, B.notSynchronized, fun h => (name_of_methodNamed B.named B.method).1.trans h, vx_table (x := J.2.1) B (hpre _ List.mem_cons_self)⟩ hH va_S.rf hl (by omega) (by omega)
/-- what is asked of the words of a callee with a table -/
def xCalW (J' : xJ) (n : Nat) : Prop :=
  Cond.codeWith J'.2.1 J'.2.2.1 J'.2.2.2.1 J'.2.2.2.2 (xTb J') ∈ xTB ∧ Cond.initialized J'.2.1.cls ∈ xTB ∧ plainName J'.2.1.cls = true ∧ J'.2.1.cls = J'.1 ∧ (J'.2.1.cls ≠ "java/lang/invoke/MethodHandle" ∧ J'.2.1.cls ≠ "java/lang/invoke/VarHandle") ∧ (parseMethodDescriptor J'.2.1.desc).map (fun d => d.parameters.length) = some n ∧ J'.2.2.2.1 ≤ 45
theorem xm_callSW {J' : xJ} {idx n C1 Z1 : Nat} {As : List Value} {Q1 : xQ} (h : decode J.2.2.1 pc = .ok (.invokestatic idx, 3)) (hc : xCalW J' n) (hw1 : Cond.methodLink J.1 idx J'.2.1 ∈ xTB) (hw2 : Cond.static J'.2.1 ∈ xTB)
    (hn : As.length = n) (hlen : (lg_sl As).length ≤ J'.2.2.2.1) (hS : (S.map fun v => v.category).sum ≤ 8)
    (kc : xMach G π J' d C1 Z1 0 (lv_args 0 As) [] σ Q1) (kx : ∀ (E : String) (τ : xM) (π' : Nat → Nat), Q1 (.inr E) τ π' → Q (.inr E) τ π')
    (kk : ∀ (v : Option Value) (τ : xM) (π' : Nat → Nat), Q1 (.inl v) τ π' → S.map (xvp π') = S.map (xvp π) ∧ xmp π' L = xmp π L ∧ xMach G π' J (d + 1) C9 Z (pc + 3) L (v.toList ++ S) τ Q) (hTb : xTb J = [] := by decide) : xMach G π J (d + 1) (C1 + C9) (Z1 + Z) pc L (As.reverse ++ S) σ Q := by
  intro p e s m args below meth c0 H locs cells slots mc ms ls a1 a2 a3 a4 a5 a6
  obtain ⟨y1, y2, y3, y4, y5, y6, y7⟩ := hc
  have hM := xMetW y3 y4 hlen kc
  have hB : vx_CSW (xroom (d + 1) mc ms) s args J.1 idx J'.2.1 J'.2.2.1 J'.2.2.2.1 J'.2.2.2.2 (xTb J') (xwsW J') (xroom d C1 Z1) C1 Z1 n := vx_cwSW (Ts := xTB) (ws' := xTB) n a1.2.2.2.2.2.1 (fun w hw => by
    have hw' : w ∈ xTB := by
      rcases List.mem_append.mp hw with hw | hw
      · rcases List.mem_cons.mp hw with rfl | hw
        · exact hw1
        · rcases List.mem_cons.mp hw with rfl | hw
          · exact hw2
          · rcases List.mem_cons.mp hw with rfl | hw
            · exact y2
            · cases hw
      · rcases List.mem_cons.mp hw with rfl | hw
        · exact y1
        · exact hw
    exact xTB_good w hw') rfl rfl rfl ⟨y5.1, y5.2, y6⟩ ⟨Nat.le_refl _, by show 8 + (J'.2.2.2.1 + 11) + 64 * d ≤ 64 * (d + 1); omega⟩
  rw [xst_mp]
  exact xm_back (π := π) (L := L) (C9 := C9) (Z := Z) (vx_runSX (As := As.map (xvp π)) (rest := S.map (xvp π)) ⟨a1.1, a1.2.1, a1.2.2.2.1, a1.2.2.2.2.1, a1.2.2.2.2.2.1⟩ hM hB ⟨xPc.blind, fun U hU hW => ⟨rfl, by rw [hU]; exact a2, xKn.warm hW hU a3 a1.2.2.2.2.2.2.1⟩⟩ rfl (by rw [List.length_map]; exact hn) a4.1 rfl (lv_room (by rw [xcat_mp]; exact hS)) h ⟨by show cells + C1 ≤ mc; omega, by show slots + Z1 ≤ ms; omega⟩) hTb a1 a3 a4 (by omega) (by omega) kx kk
/-! the script -/
theorem xm_xLen (h : decode J.2.2.1 pc = .ok (.arraylength, 1)) (k : xMach G π J d C Z (pc + 1) L (.int (Int32.ofNat (G.2.2.1 104)) :: S) σ Q) : xMach G π J d C Z pc L (.ref xkX :: S) σ Q := by
  intro p e s m args below meth c0 H locs cells slots mc ms ls a1 a2 a3 a4 a5 a6
  obtain ⟨_, _, _, ⟨_, _, _, _, _, _, _, _, _, t8, t9⟩, _⟩ := a1.2.2.2.2.2.2.1
  have e1 : xvp π (.ref xkX) = .ref (G.2.2.1 103) := congrArg Value.ref a2.2.2.2.2.2.2
  rw [List.map_cons, e1]
  exact va_slen a1.1 a1.2.1 t9 t9.lt (Nat.not_le.mpr t8) a3 h (k p e s m args below meth c0 H locs cells slots mc ms ls a1 a2 a3 a4 a5 a6)
theorem xm_xLd {i : Int32} (h : decode J.2.2.1 pc = .ok (.iaload, 1)) (hi : vp_in i (G.2.2.1 104)) (k : xMach G π J d C Z (pc + 1) L (.int (Int32.ofNat (G.2.2.1 (200 + i.toNatClampNeg))) :: S) σ Q) : xMach G π J d C Z pc L (.int i :: .ref xkX :: S) σ Q := by
  intro p e s m args below meth c0 H locs cells slots mc ms ls a1 a2 a3 a4 a5 a6
  obtain ⟨_, _, _, ⟨_, _, _, _, _, _, _, _, _, t8, t9⟩, _⟩ := a1.2.2.2.2.2.2.1
  have e1 : xvp π (.ref xkX) = .ref (G.2.2.1 103) := congrArg Value.ref a2.2.2.2.2.2.2
  rw [List.map_cons, List.map_cons, e1]
  exact va_sld a1.1 a1.2.1 t9 t9.lt (Nat.not_le.mpr t8) a3 hi h (k p e s m args below meth c0 H locs cells slots mc ms ls a1 a2 a3 a4 a5 a6)
end XL
