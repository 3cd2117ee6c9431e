/-! THE TEXT OF THE SIGNS: rules for it, and the JDK's own methods over it -/
section XT
variable {G : xG} {π : Nat → Nat} {J : xJ} {d C C9 Z pc : Nat} {L : List (Nat × Value)} {S : List Value} {σ : xM} {Q : xQ} {ρ : Type} {r : ρ}
theorem xm_i2b {x v : Int32} (h : decode J.2.2.1 pc = .ok (.i2b, 1)) (hv : x.toInt8.toInt32 = v) (k : xMach G π J d C Z (pc + 1) L (.int v :: S) σ Q) : xMach G π J d C Z pc L (.int x :: S) σ Q :=
  fun p e s m args below meth c H locs cells slots mc ms ls a1 a2 a3 a4 a5 a6 => lv_i2b a1.1 a1.2.1 h hv (k p e s m args below meth c H locs cells slots mc ms ls a1 a2 a3 a4 a5 a6)
theorem xm_ldcS (h : decode J.2.2.1 pc = .ok (.ldc 66, 2)) (hJ : J.1 = "Rankwise$Desk") (k : xMach G π J d C Z (pc + 2) L (.ref xkS :: S) σ Q) : xMach G π J d C Z pc L S σ Q := by
  intro p e s m args below meth c0 H locs cells slots mc ms ls a1 a2 a3 a4 a5 a6
  obtain ⟨k1, k2, k3, ⟨z1, z2, t1, t2, t3, t4, t5, t6, t7⟩, k5⟩ := a1.2.2.2.2.2.2.1
  have k' := k p e s m args below meth c0 H locs cells slots mc ms ls a1 a2 a3 a4 a5 a6
  have e0 : xvp π (.ref xkS) = .ref (G.2.2.1 100) := congrArg Value.ref a2.2.2.2.1
  rw [List.map_cons, e0] at k'
  exact va_ldcS a1.1 a1.2.1 (by rw [← hJ]; exact a1.2.2.2.2.1) t1 h k'
theorem xm_sCod {idx : Nat} (h : decode J.2.2.1 pc = .ok (.getfield idx, 3)) (hw : Cond.fieldLink J.1 idx "java/lang/String" "coder" "B" ∈ xTB) (k : xMach G π J d C Z (pc + 3) L (.int 0 :: S) σ Q) : xMach G π J d C Z pc L (.ref xkS :: S) σ Q := by
  intro p e s m args below meth c0 H locs cells slots mc ms ls a1 a2 a3 a4 a5 a6
  obtain ⟨k1, k2, k3, ⟨z1, z2, t1, t2, t3, t4, t5, t6, t7⟩, k5⟩ := a1.2.2.2.2.2.2.1
  have e0 : xvp π (.ref xkS) = .ref (G.2.2.1 100) := congrArg Value.ref a2.2.2.2.1
  rw [List.map_cons, e0]
  exact vk_getf a1.1 a1.2.1 t3 a3 a1.2.2.2.2.1 (a1.2.2.2.2.2.1 _ (xws_in hw)) (fun _ q => q) h (k p e s m args below meth c0 H locs cells slots mc ms ls a1 a2 a3 a4 a5 a6)
theorem xm_sVal {idx : Nat} (h : decode J.2.2.1 pc = .ok (.getfield idx, 3)) (hw : Cond.fieldLink J.1 idx "java/lang/String" "value" "[B" ∈ xTB) (k : xMach G π J d C Z (pc + 3) L (.ref xkV :: S) σ Q) : xMach G π J d C Z pc L (.ref xkS :: S) σ Q := by
  intro p e s m args below meth c0 H locs cells slots mc ms ls a1 a2 a3 a4 a5 a6
  obtain ⟨k1, k2, k3, ⟨z1, z2, t1, t2, t3, t4, t5, t6, t7⟩, k5⟩ := a1.2.2.2.2.2.2.1
  have k' := k p e s m args below meth c0 H locs cells slots mc ms ls a1 a2 a3 a4 a5 a6
  have e0 : xvp π (.ref xkS) = .ref (G.2.2.1 100) := congrArg Value.ref a2.2.2.2.1
  have e1 : xvp π (.ref xkV) = .ref (G.2.2.1 101) := congrArg Value.ref a2.2.2.2.2.1
  rw [List.map_cons, e1] at k'
  rw [List.map_cons, e0]
  exact vk_getf a1.1 a1.2.1 t4 a3 a1.2.2.2.2.1 (a1.2.2.2.2.2.1 _ (xws_in hw)) (fun _ q => q) h k'
theorem xm_sLen (h : decode J.2.2.1 pc = .ok (.arraylength, 1)) (k : xMach G π J d C Z (pc + 1) L (.int 16 :: S) σ Q) : xMach G π J d C Z pc L (.ref xkV :: S) σ Q := by
  intro p e s m args below meth c0 H locs cells slots mc ms ls a1 a2 a3 a4 a5 a6
  obtain ⟨k1, k2, k3, ⟨z1, z2, t1, t2, t3, t4, t5, t6, t7⟩, k5⟩ := a1.2.2.2.2.2.2.1
  have e1 : xvp π (.ref xkV) = .ref (G.2.2.1 101) := congrArg Value.ref a2.2.2.2.2.1
  rw [List.map_cons, e1]
  exact va_tlen a1.1 a1.2.1 t5 a3 rfl h (k p e s m args below meth c0 H locs cells slots mc ms ls a1 a2 a3 a4 a5 a6)
theorem xm_sByte {i v : Int32} (h : decode J.2.2.1 pc = .ok (.baload, 1)) (hi : vp_in i 16) (hv : xSG.getD i.toNatClampNeg 0 = v) (k : xMach G π J d C Z (pc + 1) L (.int v :: S) σ Q) : xMach G π J d C Z pc L (.int i :: .ref xkV :: S) σ Q := by
  intro p e s m args below meth c0 H locs cells slots mc ms ls a1 a2 a3 a4 a5 a6
  obtain ⟨k1, k2, k3, ⟨z1, z2, t1, t2, t3, t4, t5, t6, t7⟩, k5⟩ := a1.2.2.2.2.2.2.1
  have e1 : xvp π (.ref xkV) = .ref (G.2.2.1 101) := congrArg Value.ref a2.2.2.2.2.1
  rw [List.map_cons, List.map_cons, e1]
  exact va_tb a1.1 a1.2.1 t5 a3 hi (congrArg Value.int hv) h (k p e s m args below meth c0 H locs cells slots mc ms ls a1 a2 a3 a4 a5 a6)
theorem xm_sCmp {idx : Nat} (h : decode J.2.2.1 pc = .ok (.getstatic idx, 3)) (hw : Cond.fieldLink J.1 idx "java/lang/String" "COMPACT_STRINGS" "Z" ∈ xTB) (k : xMach G π J d C Z (pc + 3) L (.int 1 :: S) σ Q) : xMach G π J d C Z pc L S σ Q := by
  intro p e s m args below meth c0 H locs cells slots mc ms ls a1 a2 a3 a4 a5 a6
  obtain ⟨k1, k2, k3, ⟨z1, z2, t1, t2, t3, t4, t5, t6, t7⟩, k5⟩ := a1.2.2.2.2.2.2.1
  exact va_gets a1.1 a1.2.1 t6 a3 a1.2.2.2.2.1 (a1.2.2.2.2.2.1 _ (xws_in hw)) (fun _ q => q) h (k p e s m args below meth c0 H locs cells slots mc ms ls a1 a2 a3 a4 a5 a6)
theorem xm_sFmt {idx : Nat} (h : decode J.2.2.1 pc = .ok (.getstatic idx, 3)) (hw : Cond.fieldLink J.1 idx "jdk/internal/util/Preconditions" "SIOOBE_FORMATTER" "Ljava/util/function/BiFunction;" ∈ xTB) (k1 : xMach G π J d C Z (pc + 3) L (.null :: S) σ Q) (k2 : xMach G π J d C Z (pc + 3) L (.ref xkF :: S) σ Q) : xMach G π J d C Z pc L S σ Q := by
  intro p e s m args below meth c0 H locs cells slots mc ms ls a1 a2 a3 a4 a5 a6
  obtain ⟨_, _, _, ⟨_, _, _, _, _, _, _, _, t7, _⟩, _⟩ := a1.2.2.2.2.2.2.1
  rcases t7 with t7 | t7
  · exact va_gets a1.1 a1.2.1 t7 a3 a1.2.2.2.2.1 (a1.2.2.2.2.2.1 _ (xws_in hw)) (fun _ q => q) h (k1 p e s m args below meth c0 H locs cells slots mc ms ls a1 a2 a3 a4 a5 a6)
  · have k' := k2 p e s m args below meth c0 H locs cells slots mc ms ls a1 a2 a3 a4 a5 a6
    have e1 : xvp π (.ref xkF) = .ref (G.2.2.1 102) := congrArg Value.ref a2.2.2.2.2.2.1
    rw [List.map_cons, e1] at k'
    exact va_gets a1.1 a1.2.1 t7 a3 a1.2.2.2.2.1 (a1.2.2.2.2.2.1 _ (xws_in hw)) (fun _ q => q) h k'
theorem xb_callVS {J' : xJ} {idx n : Nat} {As St : List Value} {v0 : Option Value} (h : decode J.2.2.1 pc = .ok (.invokevirtual idx, 3)) (hc : xCal J J' d n) (hcl : J'.2.1.cls = "java/lang/String") (hw1 : Cond.methodLink J.1 idx J'.2.1 ∈ xTB) (hw2 : Cond.instanceMethod J'.2.1 ∈ xTB) (hw3 : Cond.selects J'.2.1.cls J'.2.1 J'.2.1 ∈ xTB)
    (hn : As.length = n) (hlen : (lg_sl (.ref xkS :: As)).length ≤ J'.2.2.2.1) (hst : St = As.reverse ++ .ref xkS :: S) (hS : (S.map fun v => v.category).sum ≤ 8)
    (kc : ∀ Q1 : xQ, Q1 (.inl v0) σ π → xMach G π J' d 0 0 0 (lv_args 0 (.ref xkS :: As)) [] σ Q1)
    (kk : xMach G π J (d + 1) C Z (pc + 3) L (v0.toList ++ S) σ Q) (hTb : xTb J = [] := by decide) (hTb' : xTb J' = [] := by decide) : xMach G π J (d + 1) C Z pc L St σ Q := by
  subst hst
  intro p e s m args below meth c0 H locs cells slots mc ms ls a1 a2 a3 a4 a5 a6
  obtain ⟨_, _, _, ⟨_, _, _, t2, _⟩, _⟩ := a1.2.2.2.2.2.2.1
  obtain ⟨cell, r1, r2, r3, -⟩ := t2.kept a3.2.1
  have hM := xMet hTb' hc.2.2.2.1 hc.2.2.2.2.1 hlen (kc (fun o τ π' => o = .inl v0 ∧ τ = σ ∧ π' = π) ⟨rfl, rfl, rfl⟩)
  rw [xst_mp]
  refine xm_back (π := π) (L := L) (C1 := 0) (Z1 := 0) (C9 := C) (Z := Z) (vx_runV (As := As.map (xvp π)) (rest := S.map (xvp π)) ⟨a1.1, a1.2.1, a1.2.2.2.1, a1.2.2.2.2.1, a1.2.2.2.2.2.1⟩ hM ⟨xCalB hc a1.2.2.2.2.2.1 (a1.2.2.2.2.2.1 _ (xws_in hw1)), a1.2.2.2.2.2.1 _ (xws_in hw2), a1.2.2.2.2.2.1 _ (xws_in hw3)⟩ ⟨xPc.blind, ⟨cell, by rw [show π xkS = _ from a2.2.2.2.1]; exact r1, r2, by rw [hcl]; exact r3⟩, fun U hU hW => ⟨rfl, by rw [hU]; exact a2, xKn.warm hW hU a3 a1.2.2.2.2.2.2.1⟩⟩ rfl (by rw [List.length_map]; exact hn) a4.1 rfl (lv_room (by rw [xcat_mp]; exact hS)) h ⟨by show cells + 0 ≤ mc; omega, by show slots + 0 ≤ ms; omega⟩) hTb a1 a3 a4 (by omega) (by omega) (fun E τ π' q => nomatch q.1) (fun v τ π' q => by obtain ⟨e1, e2, e3⟩ := q; cases e1; rw [e2, e3]; exact ⟨rfl, rfl, kk⟩)
end XT
