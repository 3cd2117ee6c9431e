/-! THE MACHINE WITH ITS CONTEXT HIDDEN: one memory for all objects, one judgement (xMach), a rule an instruction -/
/-- memory: how many things there are (their addresses are the numbers below that); kind and length of each; ints, longs, references by address and place -/
abbrev xM : Type := Nat × (Nat → Nat × Nat) × (Nat → Nat → Int32) × (Nat → Nat → Int64) × (Nat → Nat → Option Nat)
def xtyp : Nat → Nat → FieldType := fun c => match c with
  | 0 => tyX0
  | 1 => tyX1
  | 2 => tyX2
  | 3 => tyX3
  | 4 => tyX4
  | 5 => tyX5
  | 6 => tyX6
  | 7 => tyX7
  | 8 => tyX8
  | 9 => tyX9
  | 10 => tyX10
  | 11 => tyX11
  | _ => tyX12
def xisr : FieldType → Bool
  | .object _ => true
  | .array _ => true
  | _ => false
def xnf : Nat → Nat := fun c => match c with
  | 0 => 4
  | 1 => 15
  | 2 => 2
  | 3 => 13
  | 4 => 19
  | 5 => 4
  | 6 => 18
  | 7 => 3
  | 8 => 8
  | 9 => 8
  | 10 => 3
  | 11 => 16
  | _ => 0
def xfv (σ : xM) (a c k : Nat) : Value := if xisr (xtyp c k) = true then va_rf (σ.2.2.2.2 a k) else .int (σ.2.2.1 a k)
/-- an address of the memory in the heap -/
def xvp (π : Nat → Nat) : Value → Value
  | .ref a => .ref (π a)
  | v => v
theorem xvp_rf (π : Nat → Nat) (r : Option Nat) : xvp π (va_rf r) = va_rf (r.map π) := by cases r <;> rfl
theorem xvp_cat (π : Nat → Nat) (v : Value) : (xvp π v).category = v.category := by cases v <;> rfl
def xmp (π : Nat → Nat) (L : List (Nat × Value)) : List (Nat × Value) := L.map (fun q => (q.1, xvp π q.2))
def xel (aC : Nat → ClassId) (π : Nat → Nat) (σ : xM) (a : Nat) : va_E :=
  if (σ.2.1 a).1 < 13 then .inr ((σ.2.1 a).1, (List.range (xnf (σ.2.1 a).1)).map (fun k => xvp π (xfv σ a (σ.2.1 a).1 k)))
  else if (σ.2.1 a).1 < 16 then .inl (aC (σ.2.1 a).1, (σ.2.1 a).2, .inl (σ.2.2.1 a))
  else if (σ.2.1 a).1 < 19 then .inl (aC (σ.2.1 a).1, (σ.2.1 a).2, .inr (.inr (.inr (.inr (fun k => (σ.2.2.2.2 a k).map π)))))
  else .inl (aC (σ.2.1 a).1, (σ.2.1 a).2, .inr (.inl (σ.2.2.2.1 a)))
def xwd (aC : Nat → ClassId) (π : Nat → Nat) (σ : xM) : va_W := (List.range σ.1).map (fun k => (π k, xel aC π σ k))
/-- no reference to what isn't there -/
def xwf (σ : xM) : Prop := ∀ a k r, σ.2.2.2.2 a k = some r → r < σ.1
def xtys (aC : Nat → ClassId) : List (ClassId × FieldType) := [(aC 13, .char), (aC 14, .int), (aC 15, .boolean), (aC 16, .object RX2), (aC 17, .object RX9), (aC 18, .array .int)]
def xA (b : Nat) : Nat → Prop := fun q => b ≤ q
/-- the words that hold at every method's start -/
def xTB : List Cond := lw_tbl.filter goodWord
theorem xTB_in {w : Cond} (h : w ∈ lw_tbl) (g : goodWord w = true) : w ∈ xTB := List.mem_filter.mpr ⟨h, g⟩
theorem xTB_good : GoodIn xTB xTB := goodIn_sub (fun _ h => h) (List.all_eq_true.mpr fun w h => (List.mem_filter.mp h).2)
/-- a method: its class, its name, its code, its locals, what it returns -/
abbrev xJ : Type := String × MethodName × ByteArray × Nat × Option FieldType
/-- the tables of the methods that catch -/
def xTbL (n : String) : List (Nat × Nat × Nat × Nat) := []
/-- the law's own methods that catch: which rows their tables have -/
def xTb (J : xJ) : List (Nat × Nat × Nat × Nat) := if J.1 = "RankwiseLaw" then xTbL J.2.1.name else []
def xws (J : xJ) : List Cond := Cond.code J.2.1 J.2.2.1 J.2.2.2.1 J.2.2.2.2 :: xTB
def xwsW (J : xJ) : List Cond := Cond.codeWith J.2.1 J.2.2.1 J.2.2.2.1 J.2.2.2.2 (xTb J) :: xTB
/-- what is the same for all methods of a run: the launch, the classes' and rows' numbers, where the run's own cells begin -/
abbrev xG : Type := Launch × va_G × (Nat → ClassId) × Nat
def xroom (d mc ms : Nat) : Room := { frames := d, cells := mc, slots := ms, locals := 64 * d }
/-- words that outlive warming, but aren't among a method's own -/
def xot : List Cond := [(Jvm.Cond.methodLinkNest "Rankwise" (9 : Nat) ({ cls := "Rankwise$Arithmetic", name := "<init>", desc := "()V" } : Jvm.MethodName) "Rankwise"), (Jvm.Cond.fieldLinkNest "Rankwise$Arithmetic" (62 : Nat) "Rankwise$Whole" "negative" "Z" "Rankwise"), (Jvm.Cond.fieldLinkNest "Rankwise$Printer" (89 : Nat) "Rankwise$Whole" "negative" "Z" "Rankwise"), (Jvm.Cond.methodLinkNest "Rankwise$Desk" (60 : Nat) ({ cls := "Rankwise$Tree", name := "<init>", desc := "()V" } : Jvm.MethodName) "Rankwise"), (Jvm.Cond.methodLinkNest "Rankwise$Reader" (45 : Nat) ({ cls := "Rankwise$Tree", name := "<init>", desc := "()V" } : Jvm.MethodName) "Rankwise"), (Jvm.Cond.fieldLinkNest "Rankwise$Printer" (56 : Nat) "Rankwise$Reader" "kinds" "[I" "Rankwise"), (Jvm.Cond.fieldLinkNest "Rankwise$Printer" (60 : Nat) "Rankwise$Reader" "values" "[I" "Rankwise"), (Jvm.Cond.fieldLinkNest "Rankwise$Printer" (52 : Nat) "Rankwise$Reader" "hidden" "[Z" "Rankwise"), (Jvm.Cond.fieldLinkNest "Rankwise$Printer" (51 : Nat) "Rankwise$Reader" "count" "I" "Rankwise"), (Jvm.Cond.methodLinkNest "Rankwise$Rewriter" (11 : Nat) ({ cls := "Rankwise$Tree", name := "<init>", desc := "()V" } : Jvm.MethodName) "Rankwise"), (Jvm.Cond.methodLinkNest "Rankwise" (92 : Nat) ({ cls := "Rankwise$Tree", name := "<init>", desc := "()V" } : Jvm.MethodName) "Rankwise"), (Jvm.Cond.castable "java/lang/IllegalStateException" "java/lang/IllegalStateException"), (Jvm.Cond.declares ({ cls := "java/lang/RuntimeException", name := "<init>", desc := "()V" } : Jvm.MethodName)), (Jvm.Cond.declares ({ cls := "java/lang/RuntimeException", name := "<init>", desc := "(Ljava/lang/String;)V" } : Jvm.MethodName)), (Jvm.Cond.declares ({ cls := "java/lang/Exception", name := "<init>", desc := "()V" } : Jvm.MethodName)), (Jvm.Cond.declares ({ cls := "java/lang/Exception", name := "<init>", desc := "(Ljava/lang/String;)V" } : Jvm.MethodName)), (Jvm.Cond.declares ({ cls := "java/lang/Throwable", name := "<init>", desc := "()V" } : Jvm.MethodName)), (Jvm.Cond.declares ({ cls := "java/lang/Throwable", name := "<init>", desc := "(Ljava/lang/String;)V" } : Jvm.MethodName)), (Jvm.Cond.castable "java/lang/IndexOutOfBoundsException" "java/lang/IndexOutOfBoundsException"), (Jvm.Cond.castable "java/lang/IllegalArgumentException" "java/lang/IllegalArgumentException")]
/-- classes that aren't below others -/
def xncs : List (String × String) := []
/-- the texts that instructions load -/
def xstr : List (String × Nat × String) := [("Rankwise$Desk", 66, "!#%&*+-/<=>?@^|~"), ("Rankwise", 110, "60 characters are typed"), ("Rankwise", 123, "what is typed is no text"), ("Rankwise", 426, "the shelf is full"), ("Rankwise", 422, "there is no such tree"), ("Rankwise", 424, "there is no such node"), ("Rankwise", 171, "what is not 0 to 5"), ("Rankwise", 430, "a name is a to z"), ("Rankwise", 209, "there is no such operator"), ("Rankwise", 214, "it does not agree with the operators that are told"), ("Rankwise", 224, "no such fix, or what is not 0 to 2"), ("Rankwise", 428, "it has a call of i or s"), ("Rankwise", 245, "no such place is printed"), ("Rankwise", 262, "no such part or radix"), ("Rankwise", 330, "what is not 0 or 1"), ("Rankwise", 383, "the part is not 0 to 3")]
theorem va_AOA.moved {t : FieldType} {u U : State} (hvm : u.vm.Alike U.vm) (h : va_AOA t u) : va_AOA t U := by
  have e := Cond.arrayOver_setVmC (args := #[]) hvm (FieldType.array t)
  have h1 : (Cond.arrayOver (.array t)).before #[] (u.setVm U.vm) = true := by rw [e]; exact h
  exact h1
def xotk : Cond → Bool
  | .fieldLinkNest .. => true
  | .methodLinkNest .. => true
  | w => w.onTables && w.keepsFace
theorem xot_k : xot.all xotk = true := by decide +kernel
def xNs (U : State) : Prop := (∀ w ∈ xot, va_Nw w U) ∧ (∀ q ∈ xncs, va_Nc q.1 q.2 U) ∧ (va_AO RX2 U ∧ va_AO RX9 U ∧ va_AOA .int U) ∧ ∀ q ∈ xstr, ∃ a, vk_R q.1 q.2.1 q.2.2 a U
theorem xotk_warm {s U : State} (hW : s.WarmedH U.vm) {w : Cond} (hk : xotk w = true) (h : va_Nw w s) : va_Nw w U := by
  have gen : (w.onTables && w.keepsFace) = true → va_Nw w U := by
    intro g
    simp only [Bool.and_eq_true] at g
    exact va_tabs g.1 (rfl : (s.setVm U.vm).vm = U.vm) (Cond.before_shiftedFace (State.Shifted.of_warmed hW) w g.2 h)
  cases w <;> first | exact va_Nw.warmF hW h | exact va_Nw.warmM hW h | exact gen hk
theorem xNs.warm {s U : State} (hW : s.WarmedH U.vm) (h : xNs s) : xNs U := by
  obtain ⟨h1, h2, ⟨h3, h4, h5⟩, h6⟩ := h
  refine ⟨fun w hw => xotk_warm hW (List.all_eq_true.mp xot_k w hw) (h1 w hw), fun q hq => va_Nc.moved hW.alike (h2 q hq), ⟨va_AO.moved hW.alike h3, va_AO.moved hW.alike h4, va_AOA.moved hW.alike h5⟩, fun q hq => ?_⟩
  obtain ⟨a, ha⟩ := h6 q hq
  exact ⟨a, vk_R.warm hW ha⟩
/-- the one text whose chars are asked: its bytes -/
def xSG : List Int32 := [33, 35, 37, 38, 42, 43, 45, 47, 60, 61, 62, 63, 64, 94, 124, 126]
/-- addresses of what was there before: the text, its bytes, a static of the JDK's -/
def xkS : Nat := 1000000000
def xkV : Nat := 1000000001
def xkF : Nat := 1000000002
/-- the script's address -/
def xkX : Nat := 1000000003
/-- the script, its numbers written into the table of class numbers -/
def xScr (aC : Nat → ClassId) (b : Nat) (U : State) : Prop := aC 103 < b ∧ va_X (aC 103) (aC 104) (fun j => Int32.ofNat (aC (200 + j))) U U.heap
theorem va_X.lt {b L : Nat} {xs : Nat → Int32} {U : State} {H : Heap} (h : va_X b L xs U H) : b < H.size := by
  obtain ⟨scr, h1, -⟩ := h
  exact (Array.getElem?_eq_some_iff.mp h1).1
def xSs (aC : Nat → ClassId) (b : Nat) (U : State) : Prop :=
  vk_R "Rankwise$Desk" 66 "!#%&*+-/<=>?@^|~" (aC 100) U ∧ va_O "java/lang/String" (aC 100) (xA b) U U.heap ∧ va_OF "java/lang/String" "coder" "B" (.int 0) (aC 100) (xA b) U U.heap ∧ va_OF "java/lang/String" "value" "[B" (.ref (aC 101)) (aC 100) (xA b) U U.heap ∧ va_T .byte (aC 101) 16 (fun j => .int (xSG.getD j 0)) (xA b) U U.heap ∧ va_Z "java/lang/String" "COMPACT_STRINGS" "Z" (.int 1) (xA b) U U.heap ∧ (va_Z "jdk/internal/util/Preconditions" "SIOOBE_FORMATTER" "Ljava/util/function/BiFunction;" .null (xA b) U U.heap ∨ va_Z "jdk/internal/util/Preconditions" "SIOOBE_FORMATTER" "Ljava/util/function/BiFunction;" (.ref (aC 102)) (xA b) U U.heap) ∧ xScr aC b U
theorem xSs.warm {aC : Nat → ClassId} {b : Nat} {s U : State} {H : Heap} {locs : List Loc} (hW : s.WarmedH U.vm) (hU : U.heap = H) (hS : va_S (xA b) s.heap H locs) (h : xSs aC b s) : xSs aC b U := by
  obtain ⟨h1, h2, h3, h4, h5, h6, h7, h8, h9⟩ := h
  unfold xSs xScr
  rw [hU]
  exact ⟨vk_R.warm hW h1, va_O.moved hW.alike (h2.kept hS.2.1), va_OF.moved hW.alike (h3.kept hS.2.1), va_OF.moved hW.alike (h4.kept hS.2.1), va_T.moved hW.alike (h5.kept hS.2.1), va_Z.moved hW.alike (h6.kept hS.2.1), h7.imp (fun q => va_Z.moved hW.alike (q.kept hS.2.1)) (fun q => va_Z.moved hW.alike (q.kept hS.2.1)), h8, va_X.moved hW.alike (h9.kept (hS.2.1 _ h9.lt (Nat.not_le.mpr h8)))⟩
def xZs (aC : Nat → ClassId) (b : Nat) (U : State) : Prop := vx_Zq Bundle.tN "UNASSIGNED_STACK" Bundle.steD (xA b) U U.heap ∧ vx_Zq Bundle.tN "SUPPRESSED_SENTINEL" Bundle.listD (xA b) U U.heap ∧ xSs aC b U
theorem xZs.warm {aC : Nat → ClassId} {b : Nat} {s U : State} {H : Heap} {locs : List Loc} (hW : s.WarmedH U.vm) (hU : U.heap = H) (hS : va_S (xA b) s.heap H locs) (h : xZs aC b s) : xZs aC b U := by
  obtain ⟨h1, h2, h3⟩ := h
  refine ⟨?_, ?_, h3.warm hW hU hS⟩
  · rw [hU]
    exact vx_Zq.moved hW.alike (h1.kept hS.2.1)
  · rw [hU]
    exact vx_Zq.moved hW.alike (h2.kept hS.2.1)
/-- what holds of a state beside its heap's cells -/
def xKn (G : xG) (U : State) : Prop := va_K G.2.1 vwCl (xtys G.2.2.1) U ∧ G.2.2.2 ≤ U.heap.size ∧ xNs U ∧ xZs G.2.2.1 G.2.2.2 U ∧ G.1.stackTraces = false
theorem xKn.warm {G : xG} {s U : State} {H : Heap} {locs : List Loc} (hW : s.WarmedH U.vm) (hU : U.heap = H) (hS : va_S (xA G.2.2.2) s.heap H locs) (h : xKn G s) : xKn G U :=
  ⟨va_K.moved hW.alike h.1, by rw [hU]; exact Nat.le_trans h.2.1 hS.1, h.2.2.1.warm hW, h.2.2.2.1.warm hW hU hS, h.2.2.2.2⟩
/-- a heap holds the memory -/
def xSp (G : xG) (π : Nat → Nat) : Prop := π xkS = G.2.2.1 100 ∧ π xkV = G.2.2.1 101 ∧ π xkF = G.2.2.1 102 ∧ π xkX = G.2.2.1 103
def xHd (G : xG) (π : Nat → Nat) (σ : xM) (H : Heap) : Prop := va_P G.2.1 vwCl (xwd G.2.2.1 π σ) H ∧ va_D (xA G.2.2.2) (xwd G.2.2.1 π σ) ∧ xwf σ ∧ xSp G π
abbrev xQ : Type := Option Value ⊕ String → xM → (Nat → Nat) → Prop
def xQc (G : xG) (Q : xQ) : Array Value → State → Outcome → State → Prop := fun _ st o t => ∃ (v : Option Value) (σ : xM) (π : Nat → Nat), o = .returned (v.map (xvp π)) ∧ Q (.inl v) σ π ∧ xHd G π σ t.heap ∧ va_F (xA G.2.2.2) st t
def xXC (G : xG) (Q : xQ) : String → State → State → Prop := fun E st t => ∃ (σ : xM) (π : Nat → Nat), Q (.inr E) σ π ∧ xHd G π σ t.heap ∧ va_F (xA G.2.2.2) st t
/-- the context of a method's body -/
def xCx (G : xG) (J : xJ) (p : Program) (s : State) (m : MethodId) (args : Array Value) (meth : Method) (c : Code) : Prop :=
  p.tables.exec = Jvm.exec ∧ c.code = J.2.2.1 ∧ meth.sig.returnType = J.2.2.2.2 ∧ c.maxLocals = J.2.2.2.1 ∧ s.vm.findClass J.1 = some m.cls ∧ (∀ w ∈ xTB, w.before args s = true) ∧ xKn G s ∧ meth.locks = false ∧ (J.2.1.name = "<init>" → meth.name = "<init>") ∧ c.exceptionTable.toList = tableOf (xTb J)
/-- from this place of the method, with these locals, this stack, this memory, at most so many calls deep, with at most so many new cells and slots, it comes to an end with Q -/
def xMach (G : xG) (π : Nat → Nat) (J : xJ) (d C Z pc : Nat) (L : List (Nat × Value)) (S : List Value) (σ : xM) (Q : xQ) : Prop :=
  ∀ (p : Program) (e : Env) (s : State) (m : MethodId) (args : Array Value) (below : List Frame) (meth : Method) (c : Code) (H : Heap) (locs : List Loc) (cells slots mc ms : Nat) (ls : Array Slot),
    xCx G J p s m args meth c → xHd G π σ H → va_S (xA G.2.2.2) s.heap H locs → lv_has ls J.2.2.2.1 (xmp π L) → cells + C ≤ mc → slots + Z ≤ ms →
    W p G.1 e (xroom d mc ms) s m args below meth c H locs cells slots (vx_MQ below (xQc G Q) (xXC G Q) args s mc ms (xA G.2.2.2)) (F0 m pc ls (S.map (xvp π)))
/-! pure instructions, by one function -/
def xput (i : Nat) (v : Value) (L : List (Nat × Value)) : List (Nat × Value) := (i, v) :: L.filter (fun q => !(q.1 == i) && !(q.1 + 1 == i && q.2.category == 2))
def xput2 (i : Nat) (v : Value) (L : List (Nat × Value)) : List (Nat × Value) := (i, v) :: L.filter (fun q => !(q.1 == i) && (!(q.1 == i + 1) && !(q.1 + 1 == i && q.2.category == 2)))
def xget (i : Nat) : List (Nat × Value) → Option Value
  | [] => none
  | q :: r => if q.1 = i then some q.2 else xget i r
theorem xget_in {i : Nat} {v : Value} : ∀ {L : List (Nat × Value)}, xget i L = some v → (i, v) ∈ L
  | q :: r, h => by
    unfold xget at h
    by_cases e : q.1 = i
    · rw [if_pos e] at h
      cases h
      subst e
      exact List.mem_cons_self
    · rw [if_neg e] at h
      exact List.mem_cons_of_mem _ (xget_in h)
theorem xget_mp {π : Nat → Nat} {i : Nat} {v : Value} {L : List (Nat × Value)} (h : xget i L = some v) : (i, xvp π v) ∈ xmp π L := List.mem_map.mpr ⟨_, xget_in h, rfl⟩
theorem xput_mp (π : Nat → Nat) (i : Nat) (v : Value) (L : List (Nat × Value)) : xmp π (xput i v L) = (i, xvp π v) :: (xmp π L).filter (fun q => !(q.1 == i) && !(q.1 + 1 == i && q.2.category == 2)) := by
  unfold xmp xput
  rw [List.map_cons, List.filter_map]
  congr 2
  apply List.filter_congr
  intro q _
  simp [xvp_cat]
theorem xput2_mp (π : Nat → Nat) (i : Nat) (v : Value) (L : List (Nat × Value)) : xmp π (xput2 i v L) = (i, xvp π v) :: (xmp π L).filter (fun q => !(q.1 == i) && (!(q.1 == i + 1) && !(q.1 + 1 == i && q.2.category == 2))) := by
  unfold xmp xput2
  rw [List.map_cons, List.filter_map]
  congr 2
  apply List.filter_congr
  intro q _
  simp [xvp_cat]
section XP
variable {G : xG} {π : Nat → Nat} {J : xJ} {d C C9 Z pc : Nat} {L : List (Nat × Value)} {S : List Value} {σ : xM} {Q : xQ}

theorem xm_iconst {n : Int} {v : Int32} (h : decode J.2.2.1 pc = .ok (.iconst n, 1)) (hv : Int32.ofInt n = v) (k : xMach G π J d C Z (pc + 1) L (.int v :: S) σ Q) : xMach G π J d C Z pc L (S) σ Q :=
  fun p e s m args below meth c H locs cells slots mc ms ls a1 a2 a3 a4 a5 a6 => lv_iconst a1.1 a1.2.1 h hv (k p e s m args below meth c H locs cells slots mc ms ls a1 a2 a3 a4 a5 a6)
theorem xm_bipush {n : Int} {v : Int32} (h : decode J.2.2.1 pc = .ok (.bipush n, 2)) (hv : (Int8.ofInt n).toInt32 = v) (k : xMach G π J d C Z (pc + 2) L (.int v :: S) σ Q) : xMach G π J d C Z pc L (S) σ Q :=
  fun p e s m args below meth c H locs cells slots mc ms ls a1 a2 a3 a4 a5 a6 => lv_bipush a1.1 a1.2.1 h hv (k p e s m args below meth c H locs cells slots mc ms ls a1 a2 a3 a4 a5 a6)
theorem xm_sipush {n : Int} {v : Int32} (h : decode J.2.2.1 pc = .ok (.sipush n, 3)) (hv : (Int16.ofInt n).toInt32 = v) (k : xMach G π J d C Z (pc + 3) L (.int v :: S) σ Q) : xMach G π J d C Z pc L (S) σ Q :=
  fun p e s m args below meth c H locs cells slots mc ms ls a1 a2 a3 a4 a5 a6 => lv_sipush a1.1 a1.2.1 h hv (k p e s m args below meth c H locs cells slots mc ms ls a1 a2 a3 a4 a5 a6)
theorem xm_lconst {n : Fin 2} {v : Int64} (h : decode J.2.2.1 pc = .ok (.lconst n, 1)) (hv : Int64.ofNat (n : Nat) = v) (k : xMach G π J d C Z (pc + 1) L (.long v :: S) σ Q) : xMach G π J d C Z pc L (S) σ Q :=
  fun p e s m args below meth c H locs cells slots mc ms ls a1 a2 a3 a4 a5 a6 => lv_lconst a1.1 a1.2.1 h hv (k p e s m args below meth c H locs cells slots mc ms ls a1 a2 a3 a4 a5 a6)
theorem xm_null  (h : decode J.2.2.1 pc = .ok (.aconst_null, 1))  (k : xMach G π J d C Z (pc + 1) L (.null :: S) σ Q) : xMach G π J d C Z pc L (S) σ Q :=
  fun p e s m args below meth c H locs cells slots mc ms ls a1 a2 a3 a4 a5 a6 => lv_null a1.1 a1.2.1 h  (k p e s m args below meth c H locs cells slots mc ms ls a1 a2 a3 a4 a5 a6)
theorem xm_iadd {x y : Int32} (h : decode J.2.2.1 pc = .ok (.iadd, 1))  (k : xMach G π J d C Z (pc + 1) L (.int (x + y) :: S) σ Q) : xMach G π J d C Z pc L (.int y :: .int x :: S) σ Q :=
  fun p e s m args below meth c H locs cells slots mc ms ls a1 a2 a3 a4 a5 a6 => lv_iadd a1.1 a1.2.1 h  (k p e s m args below meth c H locs cells slots mc ms ls a1 a2 a3 a4 a5 a6)
theorem xm_isub {x y : Int32} (h : decode J.2.2.1 pc = .ok (.isub, 1))  (k : xMach G π J d C Z (pc + 1) L (.int (x - y) :: S) σ Q) : xMach G π J d C Z pc L (.int y :: .int x :: S) σ Q :=
  fun p e s m args below meth c H locs cells slots mc ms ls a1 a2 a3 a4 a5 a6 => lv_isub a1.1 a1.2.1 h  (k p e s m args below meth c H locs cells slots mc ms ls a1 a2 a3 a4 a5 a6)
theorem xm_imul {x y : Int32} (h : decode J.2.2.1 pc = .ok (.imul, 1))  (k : xMach G π J d C Z (pc + 1) L (.int (x * y) :: S) σ Q) : xMach G π J d C Z pc L (.int y :: .int x :: S) σ Q :=
  fun p e s m args below meth c H locs cells slots mc ms ls a1 a2 a3 a4 a5 a6 => lv_imul a1.1 a1.2.1 h  (k p e s m args below meth c H locs cells slots mc ms ls a1 a2 a3 a4 a5 a6)
theorem xm_iand {x y : Int32} (h : decode J.2.2.1 pc = .ok (.iand, 1))  (k : xMach G π J d C Z (pc + 1) L (.int (x &&& y) :: S) σ Q) : xMach G π J d C Z pc L (.int y :: .int x :: S) σ Q :=
  fun p e s m args below meth c H locs cells slots mc ms ls a1 a2 a3 a4 a5 a6 => lv_iand a1.1 a1.2.1 h  (k p e s m args below meth c H locs cells slots mc ms ls a1 a2 a3 a4 a5 a6)
theorem xm_ior {x y : Int32} (h : decode J.2.2.1 pc = .ok (.ior, 1))  (k : xMach G π J d C Z (pc + 1) L (.int (x ||| y) :: S) σ Q) : xMach G π J d C Z pc L (.int y :: .int x :: S) σ Q :=
  fun p e s m args below meth c H locs cells slots mc ms ls a1 a2 a3 a4 a5 a6 => lv_ior a1.1 a1.2.1 h  (k p e s m args below meth c H locs cells slots mc ms ls a1 a2 a3 a4 a5 a6)
theorem xm_ixor {x y : Int32} (h : decode J.2.2.1 pc = .ok (.ixor, 1))  (k : xMach G π J d C Z (pc + 1) L (.int (x ^^^ y) :: S) σ Q) : xMach G π J d C Z pc L (.int y :: .int x :: S) σ Q :=
  fun p e s m args below meth c H locs cells slots mc ms ls a1 a2 a3 a4 a5 a6 => lv_ixor a1.1 a1.2.1 h  (k p e s m args below meth c H locs cells slots mc ms ls a1 a2 a3 a4 a5 a6)
theorem xm_ishl {x y : Int32} (h : decode J.2.2.1 pc = .ok (.ishl, 1))  (k : xMach G π J d C Z (pc + 1) L (.int (x <<< (y &&& 31)) :: S) σ Q) : xMach G π J d C Z pc L (.int y :: .int x :: S) σ Q :=
  fun p e s m args below meth c H locs cells slots mc ms ls a1 a2 a3 a4 a5 a6 => lv_ishl a1.1 a1.2.1 h  (k p e s m args below meth c H locs cells slots mc ms ls a1 a2 a3 a4 a5 a6)
theorem xm_ishr {x y : Int32} (h : decode J.2.2.1 pc = .ok (.ishr, 1))  (k : xMach G π J d C Z (pc + 1) L (.int (x >>> (y &&& 31)) :: S) σ Q) : xMach G π J d C Z pc L (.int y :: .int x :: S) σ Q :=
  fun p e s m args below meth c H locs cells slots mc ms ls a1 a2 a3 a4 a5 a6 => lv_ishr a1.1 a1.2.1 h  (k p e s m args below meth c H locs cells slots mc ms ls a1 a2 a3 a4 a5 a6)
theorem xm_idiv {x y : Int32} (h : decode J.2.2.1 pc = .ok (.idiv, 1)) (hne : ¬ y = 0) (k : xMach G π J d C Z (pc + 1) L (.int (x / y) :: S) σ Q) : xMach G π J d C Z pc L (.int y :: .int x :: S) σ Q :=
  fun p e s m args below meth c H locs cells slots mc ms ls a1 a2 a3 a4 a5 a6 => lv_idiv a1.1 a1.2.1 h hne (k p e s m args below meth c H locs cells slots mc ms ls a1 a2 a3 a4 a5 a6)
theorem xm_irem {x y : Int32} (h : decode J.2.2.1 pc = .ok (.irem, 1)) (hne : ¬ y = 0) (k : xMach G π J d C Z (pc + 1) L (.int (x - x / y * y) :: S) σ Q) : xMach G π J d C Z pc L (.int y :: .int x :: S) σ Q :=
  fun p e s m args below meth c H locs cells slots mc ms ls a1 a2 a3 a4 a5 a6 => lv_irem a1.1 a1.2.1 h hne (k p e s m args below meth c H locs cells slots mc ms ls a1 a2 a3 a4 a5 a6)
theorem xm_ineg {x : Int32} (h : decode J.2.2.1 pc = .ok (.ineg, 1))  (k : xMach G π J d C Z (pc + 1) L (.int (-x) :: S) σ Q) : xMach G π J d C Z pc L (.int x :: S) σ Q :=
  fun p e s m args below meth c H locs cells slots mc ms ls a1 a2 a3 a4 a5 a6 => lv_ineg a1.1 a1.2.1 h  (k p e s m args below meth c H locs cells slots mc ms ls a1 a2 a3 a4 a5 a6)
theorem xm_iushr {x y v : Int32} (h : decode J.2.2.1 pc = .ok (.iushr, 1)) (hv : (x.toUInt32 >>> (y.toUInt32 &&& Int32.toUInt32 31)).toInt32 = v) (k : xMach G π J d C Z (pc + 1) L (.int v :: S) σ Q) : xMach G π J d C Z pc L (.int y :: .int x :: S) σ Q :=
  fun p e s m args below meth c H locs cells slots mc ms ls a1 a2 a3 a4 a5 a6 => lv_iushr a1.1 a1.2.1 h hv (k p e s m args below meth c H locs cells slots mc ms ls a1 a2 a3 a4 a5 a6)
theorem xm_ladd {x y : Int64} (h : decode J.2.2.1 pc = .ok (.ladd, 1))  (k : xMach G π J d C Z (pc + 1) L (.long (x + y) :: S) σ Q) : xMach G π J d C Z pc L (.long y :: .long x :: S) σ Q :=
  fun p e s m args below meth c H locs cells slots mc ms ls a1 a2 a3 a4 a5 a6 => lv_ladd a1.1 a1.2.1 h  (k p e s m args below meth c H locs cells slots mc ms ls a1 a2 a3 a4 a5 a6)
theorem xm_lsub {x y : Int64} (h : decode J.2.2.1 pc = .ok (.lsub, 1))  (k : xMach G π J d C Z (pc + 1) L (.long (x - y) :: S) σ Q) : xMach G π J d C Z pc L (.long y :: .long x :: S) σ Q :=
  fun p e s m args below meth c H locs cells slots mc ms ls a1 a2 a3 a4 a5 a6 => lv_lsub a1.1 a1.2.1 h  (k p e s m args below meth c H locs cells slots mc ms ls a1 a2 a3 a4 a5 a6)
theorem xm_lmul {x y : Int64} (h : decode J.2.2.1 pc = .ok (.lmul, 1))  (k : xMach G π J d C Z (pc + 1) L (.long (x * y) :: S) σ Q) : xMach G π J d C Z pc L (.long y :: .long x :: S) σ Q :=
  fun p e s m args below meth c H locs cells slots mc ms ls a1 a2 a3 a4 a5 a6 => lv_lmul a1.1 a1.2.1 h  (k p e s m args below meth c H locs cells slots mc ms ls a1 a2 a3 a4 a5 a6)
theorem xm_land {x y : Int64} (h : decode J.2.2.1 pc = .ok (.land, 1))  (k : xMach G π J d C Z (pc + 1) L (.long (x &&& y) :: S) σ Q) : xMach G π J d C Z pc L (.long y :: .long x :: S) σ Q :=
  fun p e s m args below meth c H locs cells slots mc ms ls a1 a2 a3 a4 a5 a6 => lv_land a1.1 a1.2.1 h  (k p e s m args below meth c H locs cells slots mc ms ls a1 a2 a3 a4 a5 a6)
theorem xm_lor {x y : Int64} (h : decode J.2.2.1 pc = .ok (.lor, 1))  (k : xMach G π J d C Z (pc + 1) L (.long (x ||| y) :: S) σ Q) : xMach G π J d C Z pc L (.long y :: .long x :: S) σ Q :=
  fun p e s m args below meth c H locs cells slots mc ms ls a1 a2 a3 a4 a5 a6 => lv_lor a1.1 a1.2.1 h  (k p e s m args below meth c H locs cells slots mc ms ls a1 a2 a3 a4 a5 a6)
theorem xm_lxor {x y : Int64} (h : decode J.2.2.1 pc = .ok (.lxor, 1))  (k : xMach G π J d C Z (pc + 1) L (.long (x ^^^ y) :: S) σ Q) : xMach G π J d C Z pc L (.long y :: .long x :: S) σ Q :=
  fun p e s m args below meth c H locs cells slots mc ms ls a1 a2 a3 a4 a5 a6 => lv_lxor a1.1 a1.2.1 h  (k p e s m args below meth c H locs cells slots mc ms ls a1 a2 a3 a4 a5 a6)
theorem xm_ldiv {x y : Int64} (h : decode J.2.2.1 pc = .ok (.ldiv, 1)) (hne : ¬ y = 0) (k : xMach G π J d C Z (pc + 1) L (.long (x / y) :: S) σ Q) : xMach G π J d C Z pc L (.long y :: .long x :: S) σ Q :=
  fun p e s m args below meth c H locs cells slots mc ms ls a1 a2 a3 a4 a5 a6 => lv_ldiv a1.1 a1.2.1 h hne (k p e s m args below meth c H locs cells slots mc ms ls a1 a2 a3 a4 a5 a6)
theorem xm_lrem {x y : Int64} (h : decode J.2.2.1 pc = .ok (.lrem, 1)) (hne : ¬ y = 0) (k : xMach G π J d C Z (pc + 1) L (.long (x - x / y * y) :: S) σ Q) : xMach G π J d C Z pc L (.long y :: .long x :: S) σ Q :=
  fun p e s m args below meth c H locs cells slots mc ms ls a1 a2 a3 a4 a5 a6 => lv_lrem a1.1 a1.2.1 h hne (k p e s m args below meth c H locs cells slots mc ms ls a1 a2 a3 a4 a5 a6)
theorem xm_lneg {x : Int64} (h : decode J.2.2.1 pc = .ok (.lneg, 1))  (k : xMach G π J d C Z (pc + 1) L (.long (-x) :: S) σ Q) : xMach G π J d C Z pc L (.long x :: S) σ Q :=
  fun p e s m args below meth c H locs cells slots mc ms ls a1 a2 a3 a4 a5 a6 => lv_lneg a1.1 a1.2.1 h  (k p e s m args below meth c H locs cells slots mc ms ls a1 a2 a3 a4 a5 a6)
theorem xm_lshl {x v : Int64} {y : Int32} (h : decode J.2.2.1 pc = .ok (.lshl, 1)) (hv : x <<< (y.toInt64 &&& 63) = v) (k : xMach G π J d C Z (pc + 1) L (.long v :: S) σ Q) : xMach G π J d C Z pc L (.int y :: .long x :: S) σ Q :=
  fun p e s m args below meth c H locs cells slots mc ms ls a1 a2 a3 a4 a5 a6 => lv_lshl a1.1 a1.2.1 h hv (k p e s m args below meth c H locs cells slots mc ms ls a1 a2 a3 a4 a5 a6)
theorem xm_lshr {x v : Int64} {y : Int32} (h : decode J.2.2.1 pc = .ok (.lshr, 1)) (hv : x >>> (y.toInt64 &&& 63) = v) (k : xMach G π J d C Z (pc + 1) L (.long v :: S) σ Q) : xMach G π J d C Z pc L (.int y :: .long x :: S) σ Q :=
  fun p e s m args below meth c H locs cells slots mc ms ls a1 a2 a3 a4 a5 a6 => lv_lshr a1.1 a1.2.1 h hv (k p e s m args below meth c H locs cells slots mc ms ls a1 a2 a3 a4 a5 a6)
theorem xm_i2l {x : Int32} {v : Int64} (h : decode J.2.2.1 pc = .ok (.i2l, 1)) (hv : x.toInt64 = v) (k : xMach G π J d C Z (pc + 1) L (.long v :: S) σ Q) : xMach G π J d C Z pc L (.int x :: S) σ Q :=
  fun p e s m args below meth c H locs cells slots mc ms ls a1 a2 a3 a4 a5 a6 => lv_i2l a1.1 a1.2.1 h hv (k p e s m args below meth c H locs cells slots mc ms ls a1 a2 a3 a4 a5 a6)
theorem xm_l2i {x : Int64} {v : Int32} (h : decode J.2.2.1 pc = .ok (.l2i, 1)) (hv : x.toInt32 = v) (k : xMach G π J d C Z (pc + 1) L (.int v :: S) σ Q) : xMach G π J d C Z pc L (.long x :: S) σ Q :=
  fun p e s m args below meth c H locs cells slots mc ms ls a1 a2 a3 a4 a5 a6 => lv_l2i a1.1 a1.2.1 h hv (k p e s m args below meth c H locs cells slots mc ms ls a1 a2 a3 a4 a5 a6)
theorem xm_i2c {x v : Int32} (h : decode J.2.2.1 pc = .ok (.i2c, 1)) (hv : (x.toUInt32 % 65536).toInt32 = v) (k : xMach G π J d C Z (pc + 1) L (.int v :: S) σ Q) : xMach G π J d C Z pc L (.int x :: S) σ Q :=
  fun p e s m args below meth c H locs cells slots mc ms ls a1 a2 a3 a4 a5 a6 => lv_i2c a1.1 a1.2.1 h hv (k p e s m args below meth c H locs cells slots mc ms ls a1 a2 a3 a4 a5 a6)
theorem xm_lcmp {x y : Int64} (h : decode J.2.2.1 pc = .ok (.lcmp, 1))  (k : xMach G π J d C Z (pc + 1) L (.int (lg_cmp x y) :: S) σ Q) : xMach G π J d C Z pc L (.long y :: .long x :: S) σ Q :=
  fun p e s m args below meth c H locs cells slots mc ms ls a1 a2 a3 a4 a5 a6 => W.lcmp a1.1 a1.2.1 h  (k p e s m args below meth c H locs cells slots mc ms ls a1 a2 a3 a4 a5 a6)
theorem xm_dup {a : Value} (h : decode J.2.2.1 pc = .ok (.dup, 1)) (hc : a.category = 1) (k : xMach G π J d C Z (pc + 1) L (a :: a :: S) σ Q) : xMach G π J d C Z pc L (a :: S) σ Q :=
  fun p e s m args below meth c H locs cells slots mc ms ls a1 a2 a3 a4 a5 a6 => lv_dup a1.1 a1.2.1 h ((xvp_cat π a).trans hc) (k p e s m args below meth c H locs cells slots mc ms ls a1 a2 a3 a4 a5 a6)
theorem xm_pop {a : Value} (h : decode J.2.2.1 pc = .ok (.pop, 1)) (hc : a.category = 1) (k : xMach G π J d C Z (pc + 1) L (S) σ Q) : xMach G π J d C Z pc L (a :: S) σ Q :=
  fun p e s m args below meth c H locs cells slots mc ms ls a1 a2 a3 a4 a5 a6 => lv_pop a1.1 a1.2.1 h ((xvp_cat π a).trans hc) (k p e s m args below meth c H locs cells slots mc ms ls a1 a2 a3 a4 a5 a6)
theorem xm_dup2 {a b : Value} (h : decode J.2.2.1 pc = .ok (.dup2, 1)) (ha : a.category = 1) (hb : b.category = 1) (k : xMach G π J d C Z (pc + 1) L (a :: b :: a :: b :: S) σ Q) : xMach G π J d C Z pc L (a :: b :: S) σ Q :=
  fun p e s m args below meth c H locs cells slots mc ms ls a1 a2 a3 a4 a5 a6 => lv_dup2_11 a1.1 a1.2.1 h ((xvp_cat π a).trans ha) ((xvp_cat π b).trans hb) (k p e s m args below meth c H locs cells slots mc ms ls a1 a2 a3 a4 a5 a6)
theorem xm_dup2l {x : Int64} (h : decode J.2.2.1 pc = .ok (.dup2, 1))  (k : xMach G π J d C Z (pc + 1) L (.long x :: .long x :: S) σ Q) : xMach G π J d C Z pc L (.long x :: S) σ Q :=
  fun p e s m args below meth c H locs cells slots mc ms ls a1 a2 a3 a4 a5 a6 => lv_dup2_2 a1.1 a1.2.1 h rfl (k p e s m args below meth c H locs cells slots mc ms ls a1 a2 a3 a4 a5 a6)
theorem xm_dup_x1 {a b : Value} (h : decode J.2.2.1 pc = .ok (.dup_x1, 1)) (ha : a.category = 1) (hb : b.category = 1) (k : xMach G π J d C Z (pc + 1) L (a :: b :: a :: S) σ Q) : xMach G π J d C Z pc L (a :: b :: S) σ Q :=
  fun p e s m args below meth c H locs cells slots mc ms ls a1 a2 a3 a4 a5 a6 => lv_dup_x1 a1.1 a1.2.1 h ((xvp_cat π a).trans ha) ((xvp_cat π b).trans hb) (k p e s m args below meth c H locs cells slots mc ms ls a1 a2 a3 a4 a5 a6)
theorem xm_ldc {idx : Nat} {v : Int32} (h : decode J.2.2.1 pc = .ok (.ldc idx, 2)) (hw : Cond.constant J.1 idx v ∈ xTB) (k : xMach G π J d C Z (pc + 2) L (.int v :: S) σ Q) : xMach G π J d C Z pc L S σ Q :=
  fun p e s m args below meth c H locs cells slots mc ms ls a1 a2 a3 a4 a5 a6 => lv_ldc a1.1 a1.2.1 a1.2.2.2.2.1 (a1.2.2.2.2.2.1 _ hw) h (k p e s m args below meth c H locs cells slots mc ms ls a1 a2 a3 a4 a5 a6)
theorem xm_ldc2 {idx : Nat} {v : Int64} (h : decode J.2.2.1 pc = .ok (.ldc2_w idx, 3)) (hw : Cond.constantLong J.1 idx v ∈ xTB) (k : xMach G π J d C Z (pc + 3) L (.long v :: S) σ Q) : xMach G π J d C Z pc L S σ Q :=
  fun p e s m args below meth c H locs cells slots mc ms ls a1 a2 a3 a4 a5 a6 => lv_ldc2 a1.1 a1.2.1 a1.2.2.2.2.1 (a1.2.2.2.2.2.1 _ hw) h (k p e s m args below meth c H locs cells slots mc ms ls a1 a2 a3 a4 a5 a6)
theorem xm_iload {i : Nat} {x : Int32} (h : decode J.2.2.1 pc = .ok (.iload i, 2)) (hx : xget i L = some (.int x)) (k : xMach G π J d C Z (pc + 2) L (.int x :: S) σ Q) : xMach G π J d C Z pc L S σ Q :=
  fun p e s m args below meth c H locs cells slots mc ms ls a1 a2 a3 a4 a5 a6 => lv_iload a1.1 a1.2.1 h (a4.2.2 _ (xget_mp hx)) (k p e s m args below meth c H locs cells slots mc ms ls a1 a2 a3 a4 a5 a6)
theorem xm_iload_n {i : Fin 4} {x : Int32} (h : decode J.2.2.1 pc = .ok (.iload_n i, 1)) (hx : xget (i : Nat) L = some (.int x)) (k : xMach G π J d C Z (pc + 1) L (.int x :: S) σ Q) : xMach G π J d C Z pc L S σ Q :=
  fun p e s m args below meth c H locs cells slots mc ms ls a1 a2 a3 a4 a5 a6 => lv_iload_n a1.1 a1.2.1 h rfl (a4.2.2 _ (xget_mp hx)) (k p e s m args below meth c H locs cells slots mc ms ls a1 a2 a3 a4 a5 a6)
theorem xm_lload {i : Nat} {x : Int64} (h : decode J.2.2.1 pc = .ok (.lload i, 2)) (hx : xget i L = some (.long x)) (k : xMach G π J d C Z (pc + 2) L (.long x :: S) σ Q) : xMach G π J d C Z pc L S σ Q :=
  fun p e s m args below meth c H locs cells slots mc ms ls a1 a2 a3 a4 a5 a6 => lv_lload a1.1 a1.2.1 h (a4.2.2 _ (xget_mp hx)) (k p e s m args below meth c H locs cells slots mc ms ls a1 a2 a3 a4 a5 a6)
theorem xm_lload_n {i : Fin 4} {x : Int64} (h : decode J.2.2.1 pc = .ok (.lload_n i, 1)) (hx : xget (i : Nat) L = some (.long x)) (k : xMach G π J d C Z (pc + 1) L (.long x :: S) σ Q) : xMach G π J d C Z pc L S σ Q :=
  fun p e s m args below meth c H locs cells slots mc ms ls a1 a2 a3 a4 a5 a6 => lv_lload_n a1.1 a1.2.1 h rfl (a4.2.2 _ (xget_mp hx)) (k p e s m args below meth c H locs cells slots mc ms ls a1 a2 a3 a4 a5 a6)
theorem xm_aload {i : Nat} {x : Nat} (h : decode J.2.2.1 pc = .ok (.aload i, 2)) (hx : xget i L = some (.ref x)) (k : xMach G π J d C Z (pc + 2) L (.ref x :: S) σ Q) : xMach G π J d C Z pc L S σ Q :=
  fun p e s m args below meth c H locs cells slots mc ms ls a1 a2 a3 a4 a5 a6 => lv_aload a1.1 a1.2.1 h (a4.2.2 _ (xget_mp hx)) (k p e s m args below meth c H locs cells slots mc ms ls a1 a2 a3 a4 a5 a6)
theorem xm_aload_n {i : Fin 4} {x : Nat} (h : decode J.2.2.1 pc = .ok (.aload_n i, 1)) (hx : xget (i : Nat) L = some (.ref x)) (k : xMach G π J d C Z (pc + 1) L (.ref x :: S) σ Q) : xMach G π J d C Z pc L S σ Q :=
  fun p e s m args below meth c H locs cells slots mc ms ls a1 a2 a3 a4 a5 a6 => lv_aload_n a1.1 a1.2.1 h rfl (a4.2.2 _ (xget_mp hx)) (k p e s m args below meth c H locs cells slots mc ms ls a1 a2 a3 a4 a5 a6)
theorem xm_aloadN {i : Nat} (h : decode J.2.2.1 pc = .ok (.aload i, 2)) (hx : xget i L = some .null) (k : xMach G π J d C Z (pc + 2) L (.null :: S) σ Q) : xMach G π J d C Z pc L S σ Q :=
  fun p e s m args below meth c H locs cells slots mc ms ls a1 a2 a3 a4 a5 a6 => lv_aloadN a1.1 a1.2.1 h (a4.2.2 _ (xget_mp hx)) (k p e s m args below meth c H locs cells slots mc ms ls a1 a2 a3 a4 a5 a6)
theorem xm_aload_nN {i : Fin 4} (h : decode J.2.2.1 pc = .ok (.aload_n i, 1)) (hx : xget (i : Nat) L = some .null) (k : xMach G π J d C Z (pc + 1) L (.null :: S) σ Q) : xMach G π J d C Z pc L S σ Q :=
  fun p e s m args below meth c H locs cells slots mc ms ls a1 a2 a3 a4 a5 a6 => lv_aload_nN a1.1 a1.2.1 h rfl (a4.2.2 _ (xget_mp hx)) (k p e s m args below meth c H locs cells slots mc ms ls a1 a2 a3 a4 a5 a6)
theorem xm_istore {i : Nat} {x : Int32} (h : decode J.2.2.1 pc = .ok (.istore i, 2)) (hn : i < J.2.2.2.1) (k : xMach G π J d C Z (pc + 2) (xput i (.int x) L) S σ Q) : xMach G π J d C Z pc L (.int x :: S) σ Q :=
  fun p e s m args below meth c H locs cells slots mc ms ls a1 a2 a3 a4 a5 a6 => lv_istore a1.1 a1.2.1 h a4 hn rfl (fun ls' a7 => k p e s m args below meth c H locs cells slots mc ms ls' a1 a2 a3 (by rw [xput_mp]; exact a7) a5 a6)
theorem xm_istore_n {i : Fin 4} {x : Int32} (h : decode J.2.2.1 pc = .ok (.istore_n i, 1)) (hn : (i : Nat) < J.2.2.2.1) (k : xMach G π J d C Z (pc + 1) (xput (i : Nat) (.int x) L) S σ Q) : xMach G π J d C Z pc L (.int x :: S) σ Q :=
  fun p e s m args below meth c H locs cells slots mc ms ls a1 a2 a3 a4 a5 a6 => lv_istore_n a1.1 a1.2.1 h rfl a4 hn rfl (fun ls' a7 => k p e s m args below meth c H locs cells slots mc ms ls' a1 a2 a3 (by rw [xput_mp]; exact a7) a5 a6)
theorem xm_astore {i : Nat} {x : Nat} (h : decode J.2.2.1 pc = .ok (.astore i, 2)) (hn : i < J.2.2.2.1) (k : xMach G π J d C Z (pc + 2) (xput i (.ref x) L) S σ Q) : xMach G π J d C Z pc L (.ref x :: S) σ Q :=
  fun p e s m args below meth c H locs cells slots mc ms ls a1 a2 a3 a4 a5 a6 => lv_astore a1.1 a1.2.1 h a4 hn rfl (fun ls' a7 => k p e s m args below meth c H locs cells slots mc ms ls' a1 a2 a3 (by rw [xput_mp]; exact a7) a5 a6)
theorem xm_astore_n {i : Fin 4} {x : Nat} (h : decode J.2.2.1 pc = .ok (.astore_n i, 1)) (hn : (i : Nat) < J.2.2.2.1) (k : xMach G π J d C Z (pc + 1) (xput (i : Nat) (.ref x) L) S σ Q) : xMach G π J d C Z pc L (.ref x :: S) σ Q :=
  fun p e s m args below meth c H locs cells slots mc ms ls a1 a2 a3 a4 a5 a6 => lv_astore_n a1.1 a1.2.1 h rfl a4 hn rfl (fun ls' a7 => k p e s m args below meth c H locs cells slots mc ms ls' a1 a2 a3 (by rw [xput_mp]; exact a7) a5 a6)
theorem xm_lstore {i : Nat} {x : Int64} (h : decode J.2.2.1 pc = .ok (.lstore i, 2)) (hn : i + 1 < J.2.2.2.1) (k : xMach G π J d C Z (pc + 2) (xput2 i (.long x) L) S σ Q) : xMach G π J d C Z pc L (.long x :: S) σ Q :=
  fun p e s m args below meth c H locs cells slots mc ms ls a1 a2 a3 a4 a5 a6 => lv_lstore a1.1 a1.2.1 h a4 hn rfl (fun ls' a7 => k p e s m args below meth c H locs cells slots mc ms ls' a1 a2 a3 (by rw [xput2_mp]; exact a7) a5 a6)
theorem xm_lstore_n {i : Fin 4} {x : Int64} (h : decode J.2.2.1 pc = .ok (.lstore_n i, 1)) (hn : (i : Nat) + 1 < J.2.2.2.1) (k : xMach G π J d C Z (pc + 1) (xput2 (i : Nat) (.long x) L) S σ Q) : xMach G π J d C Z pc L (.long x :: S) σ Q :=
  fun p e s m args below meth c H locs cells slots mc ms ls a1 a2 a3 a4 a5 a6 => lv_lstore_n a1.1 a1.2.1 h rfl a4 hn rfl (fun ls' a7 => k p e s m args below meth c H locs cells slots mc ms ls' a1 a2 a3 (by rw [xput2_mp]; exact a7) a5 a6)
theorem xm_astoreN {i : Nat} (h : decode J.2.2.1 pc = .ok (.astore i, 2)) (hn : i < J.2.2.2.1) (k : xMach G π J d C Z (pc + 2) (xput i .null L) S σ Q) : xMach G π J d C Z pc L (.null :: S) σ Q :=
  fun p e s m args below meth c H locs cells slots mc ms ls a1 a2 a3 a4 a5 a6 => lv_astoreN a1.1 a1.2.1 h a4 hn rfl (fun ls' a7 => k p e s m args below meth c H locs cells slots mc ms ls' a1 a2 a3 (by rw [xput_mp]; exact a7) a5 a6)
theorem xm_astore_nN {i : Fin 4} (h : decode J.2.2.1 pc = .ok (.astore_n i, 1)) (hn : (i : Nat) < J.2.2.2.1) (k : xMach G π J d C Z (pc + 1) (xput (i : Nat) .null L) S σ Q) : xMach G π J d C Z pc L (.null :: S) σ Q :=
  fun p e s m args below meth c H locs cells slots mc ms ls a1 a2 a3 a4 a5 a6 => lv_astore_nN a1.1 a1.2.1 h rfl a4 hn rfl (fun ls' a7 => k p e s m args below meth c H locs cells slots mc ms ls' a1 a2 a3 (by rw [xput_mp]; exact a7) a5 a6)
theorem xm_iinc {i : Nat} {n : Int} {x v : Int32} (h : decode J.2.2.1 pc = .ok (.iinc i n, 3)) (hx : xget i L = some (.int x)) (hv : x + Int32.ofInt n = v) (hn : i < J.2.2.2.1) (k : xMach G π J d C Z (pc + 3) (xput i (.int v) L) S σ Q) : xMach G π J d C Z pc L S σ Q := by
  intro p e s m args below meth c H locs cells slots mc ms ls a1 a2 a3 a4 a5 a6
  obtain ⟨j, hj⟩ := List.getElem?_of_mem (xget_mp hx)
  exact lv_iinc a1.1 a1.2.1 h a4 hj hv hn rfl (fun ls' a7 => k p e s m args below meth c H locs cells slots mc ms ls' a1 a2 a3 (by rw [xput_mp]; exact a7) a5 a6)
theorem xm_if_eq {x : Int32} {off : Int} (tgt : Nat) (h : decode J.2.2.1 pc = .ok (.ifCond .eq off, 3)) (ht : (pc : Int) + off = (tgt : Int)) (kt : x = 0 → xMach G π J d C Z tgt L S σ Q) (kf : ¬ x = 0 → xMach G π J d C Z (pc + 3) L S σ Q) : xMach G π J d C Z pc L (.int x :: S) σ Q :=
  fun p e s m args below meth c H locs cells slots mc ms ls a1 a2 a3 a4 a5 a6 => lv_if_eq a1.1 a1.2.1 h ht (fun q => kt q p e s m args below meth c H locs cells slots mc ms ls a1 a2 a3 a4 a5 a6) (fun q => kf q p e s m args below meth c H locs cells slots mc ms ls a1 a2 a3 a4 a5 a6)
theorem xm_icmp_eq {x y : Int32} {off : Int} (tgt : Nat) (h : decode J.2.2.1 pc = .ok (.if_icmp .eq off, 3)) (ht : (pc : Int) + off = (tgt : Int)) (kt : x = y → xMach G π J d C Z tgt L S σ Q) (kf : ¬ x = y → xMach G π J d C Z (pc + 3) L S σ Q) : xMach G π J d C Z pc L (.int y :: .int x :: S) σ Q :=
  fun p e s m args below meth c H locs cells slots mc ms ls a1 a2 a3 a4 a5 a6 => lv_icmp_eq a1.1 a1.2.1 h ht (fun q => kt q p e s m args below meth c H locs cells slots mc ms ls a1 a2 a3 a4 a5 a6) (fun q => kf q p e s m args below meth c H locs cells slots mc ms ls a1 a2 a3 a4 a5 a6)
theorem xm_if_ne {x : Int32} {off : Int} (tgt : Nat) (h : decode J.2.2.1 pc = .ok (.ifCond .ne off, 3)) (ht : (pc : Int) + off = (tgt : Int)) (kt : ¬ x = 0 → xMach G π J d C Z tgt L S σ Q) (kf : x = 0 → xMach G π J d C Z (pc + 3) L S σ Q) : xMach G π J d C Z pc L (.int x :: S) σ Q :=
  fun p e s m args below meth c H locs cells slots mc ms ls a1 a2 a3 a4 a5 a6 => lv_if_ne a1.1 a1.2.1 h ht (fun q => kt q p e s m args below meth c H locs cells slots mc ms ls a1 a2 a3 a4 a5 a6) (fun q => kf q p e s m args below meth c H locs cells slots mc ms ls a1 a2 a3 a4 a5 a6)
theorem xm_icmp_ne {x y : Int32} {off : Int} (tgt : Nat) (h : decode J.2.2.1 pc = .ok (.if_icmp .ne off, 3)) (ht : (pc : Int) + off = (tgt : Int)) (kt : ¬ x = y → xMach G π J d C Z tgt L S σ Q) (kf : x = y → xMach G π J d C Z (pc + 3) L S σ Q) : xMach G π J d C Z pc L (.int y :: .int x :: S) σ Q :=
  fun p e s m args below meth c H locs cells slots mc ms ls a1 a2 a3 a4 a5 a6 => lv_icmp_ne a1.1 a1.2.1 h ht (fun q => kt q p e s m args below meth c H locs cells slots mc ms ls a1 a2 a3 a4 a5 a6) (fun q => kf q p e s m args below meth c H locs cells slots mc ms ls a1 a2 a3 a4 a5 a6)
theorem xm_if_lt {x : Int32} {off : Int} (tgt : Nat) (h : decode J.2.2.1 pc = .ok (.ifCond .lt off, 3)) (ht : (pc : Int) + off = (tgt : Int)) (kt : x < 0 → xMach G π J d C Z tgt L S σ Q) (kf : ¬ x < 0 → xMach G π J d C Z (pc + 3) L S σ Q) : xMach G π J d C Z pc L (.int x :: S) σ Q :=
  fun p e s m args below meth c H locs cells slots mc ms ls a1 a2 a3 a4 a5 a6 => lv_if_lt a1.1 a1.2.1 h ht (fun q => kt q p e s m args below meth c H locs cells slots mc ms ls a1 a2 a3 a4 a5 a6) (fun q => kf q p e s m args below meth c H locs cells slots mc ms ls a1 a2 a3 a4 a5 a6)
theorem xm_icmp_lt {x y : Int32} {off : Int} (tgt : Nat) (h : decode J.2.2.1 pc = .ok (.if_icmp .lt off, 3)) (ht : (pc : Int) + off = (tgt : Int)) (kt : x < y → xMach G π J d C Z tgt L S σ Q) (kf : ¬ x < y → xMach G π J d C Z (pc + 3) L S σ Q) : xMach G π J d C Z pc L (.int y :: .int x :: S) σ Q :=
  fun p e s m args below meth c H locs cells slots mc ms ls a1 a2 a3 a4 a5 a6 => lv_icmp_lt a1.1 a1.2.1 h ht (fun q => kt q p e s m args below meth c H locs cells slots mc ms ls a1 a2 a3 a4 a5 a6) (fun q => kf q p e s m args below meth c H locs cells slots mc ms ls a1 a2 a3 a4 a5 a6)
theorem xm_if_ge {x : Int32} {off : Int} (tgt : Nat) (h : decode J.2.2.1 pc = .ok (.ifCond .ge off, 3)) (ht : (pc : Int) + off = (tgt : Int)) (kt : 0 ≤ x → xMach G π J d C Z tgt L S σ Q) (kf : ¬ 0 ≤ x → xMach G π J d C Z (pc + 3) L S σ Q) : xMach G π J d C Z pc L (.int x :: S) σ Q :=
  fun p e s m args below meth c H locs cells slots mc ms ls a1 a2 a3 a4 a5 a6 => lv_if_ge a1.1 a1.2.1 h ht (fun q => kt q p e s m args below meth c H locs cells slots mc ms ls a1 a2 a3 a4 a5 a6) (fun q => kf q p e s m args below meth c H locs cells slots mc ms ls a1 a2 a3 a4 a5 a6)
theorem xm_icmp_ge {x y : Int32} {off : Int} (tgt : Nat) (h : decode J.2.2.1 pc = .ok (.if_icmp .ge off, 3)) (ht : (pc : Int) + off = (tgt : Int)) (kt : y ≤ x → xMach G π J d C Z tgt L S σ Q) (kf : ¬ y ≤ x → xMach G π J d C Z (pc + 3) L S σ Q) : xMach G π J d C Z pc L (.int y :: .int x :: S) σ Q :=
  fun p e s m args below meth c H locs cells slots mc ms ls a1 a2 a3 a4 a5 a6 => lv_icmp_ge a1.1 a1.2.1 h ht (fun q => kt q p e s m args below meth c H locs cells slots mc ms ls a1 a2 a3 a4 a5 a6) (fun q => kf q p e s m args below meth c H locs cells slots mc ms ls a1 a2 a3 a4 a5 a6)
theorem xm_if_gt {x : Int32} {off : Int} (tgt : Nat) (h : decode J.2.2.1 pc = .ok (.ifCond .gt off, 3)) (ht : (pc : Int) + off = (tgt : Int)) (kt : 0 < x → xMach G π J d C Z tgt L S σ Q) (kf : ¬ 0 < x → xMach G π J d C Z (pc + 3) L S σ Q) : xMach G π J d C Z pc L (.int x :: S) σ Q :=
  fun p e s m args below meth c H locs cells slots mc ms ls a1 a2 a3 a4 a5 a6 => lv_if_gt a1.1 a1.2.1 h ht (fun q => kt q p e s m args below meth c H locs cells slots mc ms ls a1 a2 a3 a4 a5 a6) (fun q => kf q p e s m args below meth c H locs cells slots mc ms ls a1 a2 a3 a4 a5 a6)
theorem xm_icmp_gt {x y : Int32} {off : Int} (tgt : Nat) (h : decode J.2.2.1 pc = .ok (.if_icmp .gt off, 3)) (ht : (pc : Int) + off = (tgt : Int)) (kt : y < x → xMach G π J d C Z tgt L S σ Q) (kf : ¬ y < x → xMach G π J d C Z (pc + 3) L S σ Q) : xMach G π J d C Z pc L (.int y :: .int x :: S) σ Q :=
  fun p e s m args below meth c H locs cells slots mc ms ls a1 a2 a3 a4 a5 a6 => lv_icmp_gt a1.1 a1.2.1 h ht (fun q => kt q p e s m args below meth c H locs cells slots mc ms ls a1 a2 a3 a4 a5 a6) (fun q => kf q p e s m args below meth c H locs cells slots mc ms ls a1 a2 a3 a4 a5 a6)
theorem xm_if_le {x : Int32} {off : Int} (tgt : Nat) (h : decode J.2.2.1 pc = .ok (.ifCond .le off, 3)) (ht : (pc : Int) + off = (tgt : Int)) (kt : x ≤ 0 → xMach G π J d C Z tgt L S σ Q) (kf : ¬ x ≤ 0 → xMach G π J d C Z (pc + 3) L S σ Q) : xMach G π J d C Z pc L (.int x :: S) σ Q :=
  fun p e s m args below meth c H locs cells slots mc ms ls a1 a2 a3 a4 a5 a6 => lv_if_le a1.1 a1.2.1 h ht (fun q => kt q p e s m args below meth c H locs cells slots mc ms ls a1 a2 a3 a4 a5 a6) (fun q => kf q p e s m args below meth c H locs cells slots mc ms ls a1 a2 a3 a4 a5 a6)
theorem xm_icmp_le {x y : Int32} {off : Int} (tgt : Nat) (h : decode J.2.2.1 pc = .ok (.if_icmp .le off, 3)) (ht : (pc : Int) + off = (tgt : Int)) (kt : x ≤ y → xMach G π J d C Z tgt L S σ Q) (kf : ¬ x ≤ y → xMach G π J d C Z (pc + 3) L S σ Q) : xMach G π J d C Z pc L (.int y :: .int x :: S) σ Q :=
  fun p e s m args below meth c H locs cells slots mc ms ls a1 a2 a3 a4 a5 a6 => lv_icmp_le a1.1 a1.2.1 h ht (fun q => kt q p e s m args below meth c H locs cells slots mc ms ls a1 a2 a3 a4 a5 a6) (fun q => kf q p e s m args below meth c H locs cells slots mc ms ls a1 a2 a3 a4 a5 a6)
theorem xm_goto {off : Int} (tgt : Nat) (h : decode J.2.2.1 pc = .ok (.goto off, 3)) (ht : (pc : Int) + off = (tgt : Int)) (k : xMach G π J d C Z tgt L S σ Q) : xMach G π J d C Z pc L S σ Q :=
  fun p e s m args below meth c H locs cells slots mc ms ls a1 a2 a3 a4 a5 a6 => lv_goto a1.1 a1.2.1 h ht (k p e s m args below meth c H locs cells slots mc ms ls a1 a2 a3 a4 a5 a6)
theorem xm_ifnonnull {x : Nat} {off : Int} (tgt : Nat) (h : decode J.2.2.1 pc = .ok (.ifnonnull off, 3)) (ht : (pc : Int) + off = (tgt : Int)) (k : xMach G π J d C Z tgt L S σ Q) : xMach G π J d C Z pc L (.ref x :: S) σ Q :=
  fun p e s m args below meth c H locs cells slots mc ms ls a1 a2 a3 a4 a5 a6 => lv_ifnonnull a1.1 a1.2.1 h ht (k p e s m args below meth c H locs cells slots mc ms ls a1 a2 a3 a4 a5 a6)
theorem xm_ifnonnullN {off : Int} (h : decode J.2.2.1 pc = .ok (.ifnonnull off, 3)) (k : xMach G π J d C Z (pc + 3) L S σ Q) : xMach G π J d C Z pc L (.null :: S) σ Q :=
  fun p e s m args below meth c H locs cells slots mc ms ls a1 a2 a3 a4 a5 a6 => lv_ifnonnullN a1.1 a1.2.1 h (k p e s m args below meth c H locs cells slots mc ms ls a1 a2 a3 a4 a5 a6)
theorem xm_ifnull {x : Nat} {off : Int} (h : decode J.2.2.1 pc = .ok (.ifnull off, 3)) (k : xMach G π J d C Z (pc + 3) L S σ Q) : xMach G π J d C Z pc L (.ref x :: S) σ Q :=
  fun p e s m args below meth c H locs cells slots mc ms ls a1 a2 a3 a4 a5 a6 => lv_ifnull a1.1 a1.2.1 h (k p e s m args below meth c H locs cells slots mc ms ls a1 a2 a3 a4 a5 a6)
theorem xm_ifnullN {off : Int} (tgt : Nat) (h : decode J.2.2.1 pc = .ok (.ifnull off, 3)) (ht : (pc : Int) + off = (tgt : Int)) (k : xMach G π J d C Z tgt L S σ Q) : xMach G π J d C Z pc L (.null :: S) σ Q :=
  fun p e s m args below meth c H locs cells slots mc ms ls a1 a2 a3 a4 a5 a6 => lv_ifnullN a1.1 a1.2.1 h ht (k p e s m args below meth c H locs cells slots mc ms ls a1 a2 a3 a4 a5 a6)
theorem xm_tableOut {dflt lo hi : Int} {offs : Array Int} {len : Nat} {x : Int32} (tgt : Nat) (h : decode J.2.2.1 pc = .ok (.tableswitch dflt lo hi offs, len)) (hx : x.toInt < lo ∨ hi < x.toInt) (ht : (pc : Int) + dflt = (tgt : Int)) (k : xMach G π J d C Z tgt L S σ Q) : xMach G π J d C Z pc L (.int x :: S) σ Q :=
  fun p e s m args below meth c H locs cells slots mc ms ls a1 a2 a3 a4 a5 a6 => lv_tableOut a1.1 a1.2.1 h hx ht (k p e s m args below meth c H locs cells slots mc ms ls a1 a2 a3 a4 a5 a6)
theorem xm_tableIn {dflt lo hi : Int} {offs : Array Int} {len : Nat} {x : Int32} {off : Int} (tgt : Nat) (h : decode J.2.2.1 pc = .ok (.tableswitch dflt lo hi offs, len)) (h1 : ¬ x.toInt < lo) (h2 : ¬ hi < x.toInt) (ho : offs[(x.toInt - lo).toNat]? = some off) (ht : (pc : Int) + off = (tgt : Int)) (k : xMach G π J d C Z tgt L S σ Q) : xMach G π J d C Z pc L (.int x :: S) σ Q :=
  fun p e s m args below meth c H locs cells slots mc ms ls a1 a2 a3 a4 a5 a6 => lv_tableIn a1.1 a1.2.1 h h1 h2 ho ht (k p e s m args below meth c H locs cells slots mc ms ls a1 a2 a3 a4 a5 a6)
theorem xm_lookup {dflt : Int} {ps : Array (Int × Int)} {len : Nat} {x : Int32} {off : Int} (tgt : Nat) (h : decode J.2.2.1 pc = .ok (.lookupswitch dflt ps, len)) (hp : (ps.toList.zip (ps.toList.drop 1)).all (fun (a, next) => a.1 < next.1) = true) (ho : Op.lookupswitch.offset ps.toList dflt x.toInt = off) (ht : (pc : Int) + off = (tgt : Int)) (k : xMach G π J d C Z tgt L S σ Q) : xMach G π J d C Z pc L (.int x :: S) σ Q :=
  fun p e s m args below meth c H locs cells slots mc ms ls a1 a2 a3 a4 a5 a6 => lv_lookup a1.1 a1.2.1 h hp ho ht (k p e s m args below meth c H locs cells slots mc ms ls a1 a2 a3 a4 a5 a6)
/-! ends -/
theorem xm_iret {v : Int32} (h : decode J.2.2.1 pc = .ok (.ireturn, 1)) (hr : J.2.2.2.2 = some .int) (hq : Q (.inl (some (.int v))) σ π) : xMach G π J d C Z pc L [.int v] σ Q :=
  fun p e s m args below meth c H locs cells slots mc ms ls a1 a2 a3 a4 a5 a6 => W.widen (k := mc) (n := ms) (by omega) (by omega) (vx_ret (W.iret a1.1 a1.2.1 (a1.2.2.1.trans hr) (fun t ht hW => ⟨some (.int v), σ, π, rfl, hq, by rw [ht]; exact a2, a3.F ht⟩) a3.2.2 h a1.2.2.2.2.2.2.2.1))
theorem xm_zret {v : Int32} {ty : FieldType} (h : decode J.2.2.1 pc = .ok (.ireturn, 1)) (hr : J.2.2.2.2 = some ty) (hn : narrow ty (.int v) = .int v) (hq : Q (.inl (some (.int v))) σ π) : xMach G π J d C Z pc L [.int v] σ Q :=
  fun p e s m args below meth c H locs cells slots mc ms ls a1 a2 a3 a4 a5 a6 => W.widen (k := mc) (n := ms) (by omega) (by omega) (vx_ret (W.zret a1.1 a1.2.1 (a1.2.2.1.trans hr) hn (fun t ht hW => ⟨some (.int v), σ, π, rfl, hq, by rw [ht]; exact a2, a3.F ht⟩) a3.2.2 h a1.2.2.2.2.2.2.2.1))
theorem xm_lret {v : Int64} (h : decode J.2.2.1 pc = .ok (.lreturn, 1)) (hr : J.2.2.2.2 = some .long) (hq : Q (.inl (some (.long v))) σ π) : xMach G π J d C Z pc L [.long v] σ Q :=
  fun p e s m args below meth c H locs cells slots mc ms ls a1 a2 a3 a4 a5 a6 => W.widen (k := mc) (n := ms) (by omega) (by omega) (vx_ret (W.lret a1.1 a1.2.1 (a1.2.2.1.trans hr) (fun t ht hW => ⟨some (.long v), σ, π, rfl, hq, by rw [ht]; exact a2, a3.F ht⟩) a3.2.2 h a1.2.2.2.2.2.2.2.1))
theorem xm_aret {v : Value} {ty : FieldType} (h : decode J.2.2.1 pc = .ok (.areturn, 1)) (hr : J.2.2.2.2 = some ty) (hrt : (∃ n, ty = .object n) ∨ ∃ t, ty = .array t) (hv : v = .null ∨ ∃ a, v = .ref a) (hq : Q (.inl (some v)) σ π) : xMach G π J d C Z pc L [v] σ Q :=
  fun p e s m args below meth c H locs cells slots mc ms ls a1 a2 a3 a4 a5 a6 => W.widen (k := mc) (n := ms) (by omega) (by omega) (vx_ret (W.aret a1.1 a1.2.1 (a1.2.2.1.trans hr) hrt (by rcases hv with rfl | ⟨a, rfl⟩ <;> first | exact Or.inl rfl | exact Or.inr ⟨_, rfl⟩) (fun t ht hW => ⟨some v, σ, π, rfl, hq, by rw [ht]; exact a2, a3.F ht⟩) a3.2.2 h a1.2.2.2.2.2.2.2.1))
theorem xm_vret (h : decode J.2.2.1 pc = .ok (.return_, 1)) (hr : J.2.2.2.2 = none) (hq : Q (.inl none) σ π) : xMach G π J d C Z pc L [] σ Q :=
  fun p e s m args below meth c H locs cells slots mc ms ls a1 a2 a3 a4 a5 a6 => W.widen (k := mc) (n := ms) (by omega) (by omega) (vx_ret (W.vret a1.1 a1.2.1 (a1.2.2.1.trans hr) (fun t ht hW => ⟨none, σ, π, rfl, hq, by rw [ht]; exact a2, a3.F ht⟩) a3.2.2 h a1.2.2.2.2.2.2.2.1))
/-! the memory's own rows -/
def xsI (σ : xM) (a k : Nat) (v : Int32) : xM := (σ.1, σ.2.1, va_up σ.2.2.1 a (va_up (σ.2.2.1 a) k v), σ.2.2.2.1, σ.2.2.2.2)
def xsJ (σ : xM) (a k : Nat) (v : Int64) : xM := (σ.1, σ.2.1, σ.2.2.1, va_up σ.2.2.2.1 a (va_up (σ.2.2.2.1 a) k v), σ.2.2.2.2)
def xsR (σ : xM) (a k : Nat) (v : Option Nat) : xM := (σ.1, σ.2.1, σ.2.2.1, σ.2.2.2.1, va_up σ.2.2.2.2 a (va_up (σ.2.2.2.2 a) k v))
/-- a new object or row: its kind, its length, all its places 0 or null -/
def xnew (σ : xM) (kd n : Nat) : xM := (σ.1 + 1, va_up σ.2.1 σ.1 (kd, n), va_up σ.2.2.1 σ.1 (fun _ => 0), va_up σ.2.2.2.1 σ.1 (fun _ => 0), va_up σ.2.2.2.2 σ.1 (fun _ => none))
theorem xwf_R {σ : xM} {a k : Nat} {v : Option Nat} (h : xwf σ) (hv : ∀ r, v = some r → r < σ.1) : xwf (xsR σ a k v) := by
  intro b j r hr
  show r < σ.1
  have hr : va_up σ.2.2.2.2 a (va_up (σ.2.2.2.2 a) k v) b j = some r := hr
  by_cases e1 : b = a
  · subst e1
    rw [va_up_self] at hr
    by_cases e2 : j = k
    · subst e2
      rw [va_up_self] at hr
      exact hv r hr
    · rw [va_up_ne _ _ e2] at hr
      exact h _ _ _ hr
  · rw [va_up_ne _ _ e1] at hr
    exact h _ _ _ hr
theorem xwf_new {σ : xM} {kd n : Nat} (h : xwf σ) : xwf (xnew σ kd n) := by
  intro b j r hr
  show r < σ.1 + 1
  have hr : va_up σ.2.2.2.2 σ.1 (fun _ => none) b j = some r := hr
  by_cases e1 : b = σ.1
  · subst e1
    rw [va_up_self] at hr
    cases hr
  · rw [va_up_ne _ _ e1] at hr
    exact Nat.lt_succ_of_lt (h _ _ _ hr)
theorem xel_ne {aC : Nat → ClassId} {π : Nat → Nat} {σ τ : xM} {b : Nat} (h1 : τ.2.1 b = σ.2.1 b) (h2 : τ.2.2.1 b = σ.2.2.1 b) (h3 : τ.2.2.2.1 b = σ.2.2.2.1 b) (h4 : τ.2.2.2.2 b = σ.2.2.2.2 b) : xel aC π τ b = xel aC π σ b := by
  have e : xfv τ b = xfv σ b := by
    funext c k
    unfold xfv
    rw [h2, h4]
  unfold xel
  rw [h1, h2, h3, h4, e]
/-- another map that is the same where references go -/
theorem xel_pi {aC : Nat → ClassId} {π π' : Nat → Nat} {σ : xM} (hw : xwf σ) (hp : ∀ r, r < σ.1 → π' r = π r) (b : Nat) : xel aC π' σ b = xel aC π σ b := by
  have e0 : ∀ k, (σ.2.2.2.2 b k).map π' = (σ.2.2.2.2 b k).map π := by
    intro k
    cases h : σ.2.2.2.2 b k with
    | none => rfl
    | some r => exact congrArg some (hp r (hw b k r h))
  have e1 : ∀ c k, xvp π' (xfv σ b c k) = xvp π (xfv σ b c k) := by
    intro c k
    unfold xfv
    split
    · rw [xvp_rf, xvp_rf, e0]
    · rfl
  unfold xel
  simp only [e0, e1]
theorem xls_set {f g : Nat → Value} {N k : Nat} {v : Value} (hk : g k = v) (ho : ∀ j, j ≠ k → g j = f j) : ((List.range N).map f).set k v = (List.range N).map g := by
  apply List.ext_getElem?
  intro j
  rw [List.getElem?_set, List.getElem?_map, List.getElem?_map]
  by_cases e : k = j
  · subst e
    rw [if_pos rfl, List.length_map, List.length_range]
    by_cases h : k < N
    · rw [if_pos h, List.getElem?_range h]
      simp [hk]
    · rw [if_neg h]
      simp [Nat.le_of_not_lt h]
  · rw [if_neg e]
    by_cases h : j < N
    · rw [List.getElem?_range h]
      simp [ho j (fun q => e q.symm)]
    · simp [Nat.le_of_not_lt h]
theorem xwd_at {aC : Nat → ClassId} {π : Nat → Nat} {σ : xM} {a : Nat} (h : a < σ.1) : (xwd aC π σ)[a]? = some (π a, xel aC π σ a) := by
  unfold xwd
  rw [List.getElem?_map, List.getElem?_range h]
  rfl
theorem xwd_set {aC : Nat → ClassId} {π : Nat → Nat} {σ τ : xM} {a : Nat} {e : va_E} (h1 : τ.1 = σ.1) (he : xel aC π τ a = e) (ho : ∀ b, b ≠ a → xel aC π τ b = xel aC π σ b) : (xwd aC π σ).set a (π a, e) = xwd aC π τ := by
  unfold xwd
  rw [h1]
  apply List.ext_getElem?
  intro j
  rw [List.getElem?_set, List.getElem?_map, List.getElem?_map]
  by_cases q : a = j
  · subst q
    rw [if_pos rfl, List.length_map, List.length_range]
    by_cases h : a < σ.1
    · rw [if_pos h, List.getElem?_range h]
      simp [he]
    · rw [if_neg h]
      simp [Nat.le_of_not_lt h]
  · rw [if_neg q]
    by_cases h : j < σ.1
    · rw [List.getElem?_range h]
      simp [ho j (fun z => q z.symm)]
    · simp [Nat.le_of_not_lt h]
theorem xHd.set {G : xG} {π : Nat → Nat} {σ τ : xM} {a : Nat} {e : va_E} {H1 : Heap} (h1 : τ.1 = σ.1) (he : xel G.2.2.1 π τ a = e) (ho : ∀ b, b ≠ a → xel G.2.2.1 π τ b = xel G.2.2.1 π σ b) (hw : xwf τ)
    (hP : va_P G.2.1 vwCl ((xwd G.2.2.1 π σ).set a (π a, e)) H1) (hD : va_D (xA G.2.2.2) ((xwd G.2.2.1 π σ).set a (π a, e))) (hs : xSp G π) : xHd G π τ H1 := by
  rw [xwd_set h1 he ho] at hP hD
  exact ⟨hP, hD, hw, hs⟩
/-- a class's words, by its number -/
def xCl (c : Nat) (C : String) (T : u_T) (N : Nat) : Prop :=
  vwCl[c]? = some (C, T, N) ∧ (∀ w ∈ u_ws C T N, w ∈ xTB) ∧ (∀ k, k < N → parseFieldDescriptor (T k).2.2.1 = some (xtyp c k)) ∧ (∀ a, a < N → ∀ b, b < N → a ≠ b → (T a).2.1 ≠ (T b).2.1) ∧ xnf c = N ∧ c < 13
theorem xTB_all {ws : List Cond} (h : ∀ w ∈ ws, w ∈ lw_tbl) (g : ws.all goodWord = true) : ∀ w ∈ ws, w ∈ xTB := fun w hw => xTB_in (h w hw) (List.all_eq_true.mp g w hw)
theorem xcl0 : xCl 0 RX0 TX0 4 := ⟨rfl, xTB_all inX0 gdX0, tyX0_ok, nmX0, rfl, by decide⟩
theorem xcl1 : xCl 1 RX1 TX1 15 := ⟨rfl, xTB_all inX1 gdX1, tyX1_ok, nmX1, rfl, by decide⟩
theorem xcl2 : xCl 2 RX2 TX2 2 := ⟨rfl, xTB_all inX2 gdX2, tyX2_ok, nmX2, rfl, by decide⟩
theorem xcl3 : xCl 3 RX3 TX3 13 := ⟨rfl, xTB_all inX3 gdX3, tyX3_ok, nmX3, rfl, by decide⟩
theorem xcl4 : xCl 4 RX4 TX4 19 := ⟨rfl, xTB_all inX4 gdX4, tyX4_ok, nmX4, rfl, by decide⟩
theorem xcl5 : xCl 5 RX5 TX5 4 := ⟨rfl, xTB_all inX5 gdX5, tyX5_ok, nmX5, rfl, by decide⟩
theorem xcl6 : xCl 6 RX6 TX6 18 := ⟨rfl, xTB_all inX6 gdX6, tyX6_ok, nmX6, rfl, by decide⟩
theorem xcl7 : xCl 7 RX7 TX7 3 := ⟨rfl, xTB_all inX7 gdX7, tyX7_ok, nmX7, rfl, by decide⟩
theorem xcl8 : xCl 8 RX8 TX8 8 := ⟨rfl, xTB_all inX8 gdX8, tyX8_ok, nmX8, rfl, by decide⟩
theorem xcl9 : xCl 9 RX9 TX9 8 := ⟨rfl, xTB_all inX9 gdX9, tyX9_ok, nmX9, rfl, by decide⟩
theorem xcl10 : xCl 10 RX10 TX10 3 := ⟨rfl, xTB_all inX10 gdX10, tyX10_ok, nmX10, rfl, by decide⟩
theorem xcl11 : xCl 11 RX11 TX11 16 := ⟨rfl, xTB_all inX11 gdX11, tyX11_ok, nmX11, rfl, by decide⟩
theorem xel_obj {aC : Nat → ClassId} {π : Nat → Nat} {σ : xM} {a c : Nat} (hT : (σ.2.1 a).1 = c) (hc : c < 13) : xel aC π σ a = .inr (c, (List.range (xnf c)).map (fun k => xvp π (xfv σ a c k))) := by
  unfold xel
  rw [hT, if_pos hc]
theorem xel_arr {aC : Nat → ClassId} {π : Nat → Nat} {σ : xM} {a kd : Nat} (hT : (σ.2.1 a).1 = kd) (h1 : 13 ≤ kd) (h2 : kd < 16) : xel aC π σ a = .inl (aC kd, (σ.2.1 a).2, .inl (σ.2.2.1 a)) := by
  unfold xel
  rw [hT, if_neg (by omega), if_pos h2]
theorem xel_arrR {aC : Nat → ClassId} {π : Nat → Nat} {σ : xM} {a kd : Nat} (hT : (σ.2.1 a).1 = kd) (h1 : 16 ≤ kd) (h2 : kd < 19) : xel aC π σ a = .inl (aC kd, (σ.2.1 a).2, .inr (.inr (.inr (.inr (fun k => (σ.2.2.2.2 a k).map π))))) := by
  unfold xel
  rw [hT, if_neg (by omega), if_neg (by omega), if_pos h2]
theorem xel_arrJ {aC : Nat → ClassId} {π : Nat → Nat} {σ : xM} {a : Nat} (hT : (σ.2.1 a).1 = 19) : xel aC π σ a = .inl (aC 19, (σ.2.1 a).2, .inr (.inl (σ.2.2.2.1 a))) := by
  unfold xel
  rw [hT, if_neg (by omega), if_neg (by omega), if_neg (by omega)]
theorem xws_in {w : Cond} (h : w ∈ xTB) : w ∈ xTB := h
theorem xI_ne {σ : xM} {a k : Nat} {v : Int32} {aC : Nat → ClassId} {π : Nat → Nat} (b : Nat) (e : b ≠ a) : xel aC π (xsI σ a k v) b = xel aC π σ b := xel_ne (σ := σ) (τ := xsI σ a k v) rfl (va_up_ne _ _ e) rfl rfl
theorem xJ_ne {σ : xM} {a k : Nat} {v : Int64} {aC : Nat → ClassId} {π : Nat → Nat} (b : Nat) (e : b ≠ a) : xel aC π (xsJ σ a k v) b = xel aC π σ b := xel_ne (σ := σ) (τ := xsJ σ a k v) rfl rfl (va_up_ne _ _ e) rfl
theorem xR_ne {σ : xM} {a k : Nat} {v : Option Nat} {aC : Nat → ClassId} {π : Nat → Nat} (b : Nat) (e : b ≠ a) : xel aC π (xsR σ a k v) b = xel aC π σ b := xel_ne (σ := σ) (τ := xsR σ a k v) rfl rfl rfl (va_up_ne _ _ e)
theorem xel_setI {aC : Nat → ClassId} {π : Nat → Nat} {σ : xM} {a c k : Nat} {v : Int32} (hT : (σ.2.1 a).1 = c) (hc : c < 13) (hr : xisr (xtyp c k) = false) :
    xel aC π (xsI σ a k v) a = .inr (c, ((List.range (xnf c)).map (fun k => xvp π (xfv σ a c k))).set k (.int v)) := by
  rw [xel_obj (σ := xsI σ a k v) hT hc]
  rw [xls_set (g := fun j => xvp π (xfv (xsI σ a k v) a c j))]
  · unfold xfv xsI
    rw [hr]
    simp [va_up, xvp]
  · intro j hj
    unfold xfv xsI
    simp [va_up, hj]
theorem xel_setR {aC : Nat → ClassId} {π : Nat → Nat} {σ : xM} {a c k : Nat} {v : Option Nat} (hT : (σ.2.1 a).1 = c) (hc : c < 13) (hr : xisr (xtyp c k) = true) :
    xel aC π (xsR σ a k v) a = .inr (c, ((List.range (xnf c)).map (fun k => xvp π (xfv σ a c k))).set k (xvp π (va_rf v))) := by
  rw [xel_obj (σ := xsR σ a k v) hT hc]
  rw [xls_set (g := fun j => xvp π (xfv (xsR σ a k v) a c j))]
  · unfold xfv xsR
    rw [hr]
    simp [va_up]
  · intro j hj
    unfold xfv xsR
    simp [va_up, hj]
theorem xel_putA {aC : Nat → ClassId} {π : Nat → Nat} {σ : xM} {a kd k : Nat} {v : Int32} {f : Nat → Int32} (hT : (σ.2.1 a).1 = kd) (h1 : 13 ≤ kd) (h2 : kd < 16) (hf : f = va_up (σ.2.2.1 a) k v) : xel aC π (xsI σ a k v) a = .inl (aC kd, (σ.2.1 a).2, .inl f) := by
  subst hf
  rw [xel_arr (σ := xsI σ a k v) (kd := kd) hT h1 h2]
  simp [xsI, va_up]
theorem xel_putAR {aC : Nat → ClassId} {π : Nat → Nat} {σ : xM} {a kd k : Nat} {v : Option Nat} {f : Nat → Option Nat} (hT : (σ.2.1 a).1 = kd) (h1 : 16 ≤ kd) (h2 : kd < 19) (hf : f = va_up (fun k => (σ.2.2.2.2 a k).map π) k (v.map π)) : xel aC π (xsR σ a k v) a = .inl (aC kd, (σ.2.1 a).2, .inr (.inr (.inr (.inr f)))) := by
  subst hf
  rw [xel_arrR (σ := xsR σ a k v) (kd := kd) hT h1 h2]
  have e0 : (fun j => ((xsR σ a k v).2.2.2.2 a j).map π) = va_up (fun k => (σ.2.2.2.2 a k).map π) k (v.map π) := by
    funext j
    by_cases e : j = k
    · subst e
      simp [xsR, va_up]
    · simp [xsR, va_up, e]
  rw [e0]
  rfl
theorem xel_putAJ {aC : Nat → ClassId} {π : Nat → Nat} {σ : xM} {a k : Nat} {v : Int64} {f : Nat → Int64} (hT : (σ.2.1 a).1 = 19) (hf : f = va_up (σ.2.2.2.1 a) k v) : xel aC π (xsJ σ a k v) a = .inl (aC 19, (σ.2.1 a).2, .inr (.inl f)) := by
  subst hf
  rw [xel_arrJ (σ := xsJ σ a k v) hT]
  simp [xsJ, va_up]

theorem xm_getf {a c k idx N : Nat} {C : String} {T : u_T} (h : decode J.2.2.1 pc = .ok (.getfield idx, 3)) (hx : xCl c C T N) (hk : k < N) (hw : Cond.fieldLink J.1 idx (T k).1 (T k).2.1 (T k).2.2.1 ∈ xTB) (ha : a < σ.1) (hT : (σ.2.1 a).1 = c)
    (kk : xMach G π J d C9 Z (pc + 3) L (xfv σ a c k :: S) σ Q) : xMach G π J d C9 Z pc L (.ref a :: S) σ Q := by
  intro p e s m args below meth c0 H locs cells slots mc ms ls a1 a2 a3 a4 a5 a6
  obtain ⟨x1, x2, x3, x4, x5, x6⟩ := hx
  have hq0 := xwd_at (aC := G.2.2.1) (π := π) ha
  rw [xel_obj hT x6] at hq0
  exact va_get a1.1 a1.2.1 a1.2.2.2.2.2.1 (fun w hw => xws_in (x2 w hw)) a1.2.2.2.2.1 a1.2.2.2.2.2.2.1.1 a2.1 a hq0 x1 k hk (a1.2.2.2.2.2.1 _ (xws_in hw)) (fun _ h9 => h9) (by rw [x5, List.getElem?_map, List.getElem?_range hk]; rfl) h (kk p e s m args below meth c0 H locs cells slots mc ms ls a1 a2 a3 a4 a5 a6)
theorem xm_getfN {a c k idx N : Nat} {C host : String} {T : u_T} (h : decode J.2.2.1 pc = .ok (.getfield idx, 3)) (hx : xCl c C T N) (hk : k < N) (hw : Cond.fieldLinkNest J.1 idx (T k).1 (T k).2.1 (T k).2.2.1 host ∈ xot) (ha : a < σ.1) (hT : (σ.2.1 a).1 = c)
    (kk : xMach G π J d C9 Z (pc + 3) L (xfv σ a c k :: S) σ Q) : xMach G π J d C9 Z pc L (.ref a :: S) σ Q := by
  intro p e s m args below meth c0 H locs cells slots mc ms ls a1 a2 a3 a4 a5 a6
  obtain ⟨x1, x2, x3, x4, x5, x6⟩ := hx
  have hq0 := xwd_at (aC := G.2.2.1) (π := π) ha
  rw [xel_obj hT x6] at hq0
  exact va_getN a1.1 a1.2.1 a1.2.2.2.2.2.1 (fun w hw => xws_in (x2 w hw)) a1.2.2.2.2.1 a1.2.2.2.2.2.2.1.1 a2.1 a hq0 x1 k hk (va_Nw.use rfl (a1.2.2.2.2.2.2.1.2.2.1.1 _ hw)) (fun _ h9 => h9) (by rw [x5, List.getElem?_map, List.getElem?_range hk]; rfl) h (kk p e s m args below meth c0 H locs cells slots mc ms ls a1 a2 a3 a4 a5 a6)
theorem xm_putI {a c k idx N : Nat} {C : String} {T : u_T} {v : Int32} (h : decode J.2.2.1 pc = .ok (.putfield idx, 3)) (hx : xCl c C T N) (hk : k < N) (hw : Cond.fieldLink J.1 idx (T k).1 (T k).2.1 (T k).2.2.1 ∈ xTB) (hfin : (T k).2.2.2 = false) (hn : narrow (xtyp c k) (.int v) = .int v) (hfit : fits (xtyp c k) (.int v) = true) (hr : xisr (xtyp c k) = false) (ha : a < σ.1) (hT : (σ.2.1 a).1 = c)
    (kk : xMach G π J d C9 Z (pc + 3) L S (xsI σ a k v) Q) : xMach G π J d C9 Z pc L (.int v :: .ref a :: S) σ Q := by
  intro p e s m args below meth c0 H locs cells slots mc ms ls a1 a2 a3 a4 a5 a6
  obtain ⟨x1, x2, x3, x4, x5, x6⟩ := hx
  have hq1 := xwd_at (aC := G.2.2.1) (π := π) ha
  rw [xel_obj hT x6] at hq1
  refine va_put a1.1 a1.2.1 a1.2.2.2.2.2.1 (fun w hw => xws_in (x2 w hw)) (xtyp c) x3 x4 a1.2.2.2.2.1 a1.2.2.2.2.2.2.1.1 a2.1 a2.2.1 a3 a hq1 x1 k hk (a1.2.2.2.2.2.1 _ (xws_in hw)) (fun _ h9 => h9) hfin (x3 k hk) hn hfit (by rw [x5, List.length_map, List.length_range]; exact hk) h (fun H1 locs1 b1 b2 b3 => ?_)
  exact kk p e s m args below meth c0 H1 locs1 cells slots mc ms ls a1 (xHd.set (σ := σ) (τ := xsI σ a k v) rfl (xel_setI hT x6 hr) xI_ne a2.2.2.1 b1 b2 a2.2.2.2) b3 a4 a5 a6
theorem xm_putR {a c k idx N : Nat} {C : String} {T : u_T} {v : Option Nat} {w : Value} (hwv : w = va_rf v) (h : decode J.2.2.1 pc = .ok (.putfield idx, 3)) (hx : xCl c C T N) (hk : k < N) (hw : Cond.fieldLink J.1 idx (T k).1 (T k).2.1 (T k).2.2.1 ∈ xTB) (hfin : (T k).2.2.2 = true) (hin : J.2.1.name = "<init>") (hdecl : (T k).1 = J.1) (hn : ∀ z : Option Nat, narrow (xtyp c k) (va_rf z) = va_rf z) (hfit : ∀ z : Option Nat, fits (xtyp c k) (va_rf z) = true) (hr : xisr (xtyp c k) = true) (ha : a < σ.1) (hT : (σ.2.1 a).1 = c) (hv : ∀ r, v = some r → r < σ.1)
    (kk : xMach G π J d C9 Z (pc + 3) L S (xsR σ a k v) Q) : xMach G π J d C9 Z pc L (w :: .ref a :: S) σ Q := by
  subst hwv
  intro p e s m args below meth c0 H locs cells slots mc ms ls a1 a2 a3 a4 a5 a6
  obtain ⟨x1, x2, x3, x4, x5, x6⟩ := hx
  have hq1 := xwd_at (aC := G.2.2.1) (π := π) ha
  rw [xel_obj hT x6] at hq1
  refine va_putF (v := xvp π (va_rf v)) a1.1 a1.2.1 a1.2.2.2.2.2.1 (fun w hw => xws_in (x2 w hw)) (xtyp c) x3 x4 a1.2.2.2.2.1 a1.2.2.2.2.2.2.1.1 a2.1 a2.2.1 a3 a hq1 x1 k hk (a1.2.2.2.2.2.1 _ (xws_in hw)) (fun _ h9 => h9) hfin (a1.2.2.2.2.2.2.2.2.1 hin) hdecl (x3 k hk) (by rw [xvp_rf]; exact hn _) (by rw [xvp_rf]; exact hfit _) (by rw [x5, List.length_map, List.length_range]; exact hk) h (fun H1 locs1 b1 b2 b3 => ?_)
  exact kk p e s m args below meth c0 H1 locs1 cells slots mc ms ls a1 (xHd.set (σ := σ) (τ := xsR σ a k v) rfl (xel_setR hT x6 hr) xR_ne (xwf_R a2.2.2.1 hv) b1 b2 a2.2.2.2) b3 a4 a5 a6
theorem xm_iald {a : Nat} {i : Int32} (h : decode J.2.2.1 pc = .ok (.iaload, 1)) (ha : a < σ.1) (hT : (σ.2.1 a).1 = 14) (hi : vp_in i (σ.2.1 a).2) (kk : xMach G π J d C9 Z (pc + 1) L (.int (σ.2.2.1 a i.toNatClampNeg) :: S) σ Q) : xMach G π J d C9 Z pc L (.int i :: .ref a :: S) σ Q := by
  intro p e s m args below meth c0 H locs cells slots mc ms ls a1 a2 a3 a4 a5 a6
  have hq0 := xwd_at (aC := G.2.2.1) (π := π) ha
  rw [xel_arr hT (by omega) (by omega)] at hq0
  exact va_iald a1.1 a1.2.1 a1.2.2.2.2.2.2.1.1 a2.1 a 1 hq0 rfl hi h (kk p e s m args below meth c0 H locs cells slots mc ms ls a1 a2 a3 a4 a5 a6)
theorem xm_cald {a : Nat} {i : Int32} (h : decode J.2.2.1 pc = .ok (.caload, 1)) (ha : a < σ.1) (hT : (σ.2.1 a).1 = 13) (hi : vp_in i (σ.2.1 a).2) (kk : xMach G π J d C9 Z (pc + 1) L (.int (σ.2.2.1 a i.toNatClampNeg) :: S) σ Q) : xMach G π J d C9 Z pc L (.int i :: .ref a :: S) σ Q := by
  intro p e s m args below meth c0 H locs cells slots mc ms ls a1 a2 a3 a4 a5 a6
  have hq0 := xwd_at (aC := G.2.2.1) (π := π) ha
  rw [xel_arr hT (by omega) (by omega)] at hq0
  exact va_cald a1.1 a1.2.1 a1.2.2.2.2.2.2.1.1 a2.1 a 0 hq0 rfl hi h (kk p e s m args below meth c0 H locs cells slots mc ms ls a1 a2 a3 a4 a5 a6)
theorem xm_zald {a : Nat} {i : Int32} (h : decode J.2.2.1 pc = .ok (.baload, 1)) (ha : a < σ.1) (hT : (σ.2.1 a).1 = 15) (hi : vp_in i (σ.2.1 a).2) (kk : xMach G π J d C9 Z (pc + 1) L (.int (σ.2.2.1 a i.toNatClampNeg) :: S) σ Q) : xMach G π J d C9 Z pc L (.int i :: .ref a :: S) σ Q := by
  intro p e s m args below meth c0 H locs cells slots mc ms ls a1 a2 a3 a4 a5 a6
  have hq0 := xwd_at (aC := G.2.2.1) (π := π) ha
  rw [xel_arr hT (by omega) (by omega)] at hq0
  exact va_zald a1.1 a1.2.1 a1.2.2.2.2.2.2.1.1 a2.1 a 2 hq0 rfl hi h (kk p e s m args below meth c0 H locs cells slots mc ms ls a1 a2 a3 a4 a5 a6)
theorem xm_iast {a : Nat} {i x : Int32} (h : decode J.2.2.1 pc = .ok (.iastore, 1)) (ha : a < σ.1) (hT : (σ.2.1 a).1 = 14) (hi : vp_in i (σ.2.1 a).2) (kk : xMach G π J d C9 Z (pc + 1) L S (xsI σ a i.toNatClampNeg x) Q) : xMach G π J d C9 Z pc L (.int x :: .int i :: .ref a :: S) σ Q := by
  intro p e s m args below meth c0 H locs cells slots mc ms ls a1 a2 a3 a4 a5 a6
  have hq1 := xwd_at (aC := G.2.2.1) (π := π) ha
  rw [xel_arr hT (by omega) (by omega)] at hq1
  exact va_iast a1.1 a1.2.1 a1.2.2.2.2.2.2.1.1 a2.1 a2.2.1 a3 a 1 hq1 rfl hi h (fun H1 locs1 b1 b2 b3 => kk p e s m args below meth c0 H1 locs1 cells slots mc ms ls a1 (xHd.set (σ := σ) (τ := xsI σ a i.toNatClampNeg x) rfl (xel_putA hT (by omega) (by omega) rfl) xI_ne a2.2.2.1 b1 b2 a2.2.2.2) b3 a4 a5 a6)
theorem xm_cast {a : Nat} {i x : Int32} (h : decode J.2.2.1 pc = .ok (.castore, 1)) (ha : a < σ.1) (hT : (σ.2.1 a).1 = 13) (hi : vp_in i (σ.2.1 a).2) (kk : xMach G π J d C9 Z (pc + 1) L S (xsI σ a i.toNatClampNeg (vp_nar .char x)) Q) : xMach G π J d C9 Z pc L (.int x :: .int i :: .ref a :: S) σ Q := by
  intro p e s m args below meth c0 H locs cells slots mc ms ls a1 a2 a3 a4 a5 a6
  have hq1 := xwd_at (aC := G.2.2.1) (π := π) ha
  rw [xel_arr hT (by omega) (by omega)] at hq1
  exact va_cast a1.1 a1.2.1 a1.2.2.2.2.2.2.1.1 a2.1 a2.2.1 a3 a 0 hq1 rfl hi h (fun H1 locs1 b1 b2 b3 => kk p e s m args below meth c0 H1 locs1 cells slots mc ms ls a1 (xHd.set (σ := σ) (τ := xsI σ a i.toNatClampNeg (vp_nar .char x)) rfl (xel_putA hT (by omega) (by omega) rfl) xI_ne a2.2.2.1 b1 b2 a2.2.2.2) b3 a4 a5 a6)
theorem xm_zast {a : Nat} {i x : Int32} (h : decode J.2.2.1 pc = .ok (.bastore, 1)) (ha : a < σ.1) (hT : (σ.2.1 a).1 = 15) (hi : vp_in i (σ.2.1 a).2) (kk : xMach G π J d C9 Z (pc + 1) L S (xsI σ a i.toNatClampNeg (vp_nar .boolean x)) Q) : xMach G π J d C9 Z pc L (.int x :: .int i :: .ref a :: S) σ Q := by
  intro p e s m args below meth c0 H locs cells slots mc ms ls a1 a2 a3 a4 a5 a6
  have hq1 := xwd_at (aC := G.2.2.1) (π := π) ha
  rw [xel_arr hT (by omega) (by omega)] at hq1
  exact va_zast a1.1 a1.2.1 a1.2.2.2.2.2.2.1.1 a2.1 a2.2.1 a3 a 2 hq1 rfl hi h (fun H1 locs1 b1 b2 b3 => kk p e s m args below meth c0 H1 locs1 cells slots mc ms ls a1 (xHd.set (σ := σ) (τ := xsI σ a i.toNatClampNeg (vp_nar .boolean x)) rfl (xel_putA hT (by omega) (by omega) rfl) xI_ne a2.2.2.1 b1 b2 a2.2.2.2) b3 a4 a5 a6)


theorem xm_aald {a : Nat} {i : Int32} {kd : Nat} (h : decode J.2.2.1 pc = .ok (.aaload, 1)) (ha : a < σ.1) (hT : (σ.2.1 a).1 = kd) (hkd : kd = 16 ∨ kd = 17) (hi : vp_in i (σ.2.1 a).2) (kk : xMach G π J d C9 Z (pc + 1) L (va_rf (σ.2.2.2.2 a i.toNatClampNeg) :: S) σ Q) : xMach G π J d C9 Z pc L (.int i :: .ref a :: S) σ Q := by
  intro p e s m args below meth c0 H locs cells slots mc ms ls a1 a2 a3 a4 a5 a6
  have hq0 := xwd_at (aC := G.2.2.1) (π := π) ha
  rw [xel_arrR hT (by omega) (by omega)] at hq0
  have kk1 := kk p e s m args below meth c0 H locs cells slots mc ms ls a1 a2 a3 a4 a5 a6
  rw [List.map_cons, xvp_rf] at kk1
  rcases hkd with rfl | rfl
  · exact va_aldq a1.1 a1.2.1 a1.2.2.2.2.2.2.1.1 a2.1 a 3 hq0 rfl hi h kk1
  · exact va_aldq a1.1 a1.2.1 a1.2.2.2.2.2.2.1.1 a2.1 a 4 hq0 rfl hi h kk1
theorem xm_aald2 {a : Nat} {i : Int32} (h : decode J.2.2.1 pc = .ok (.aaload, 1)) (ha : a < σ.1) (hT : (σ.2.1 a).1 = 18) (hi : vp_in i (σ.2.1 a).2) (kk : xMach G π J d C9 Z (pc + 1) L (va_rf (σ.2.2.2.2 a i.toNatClampNeg) :: S) σ Q) : xMach G π J d C9 Z pc L (.int i :: .ref a :: S) σ Q := by
  intro p e s m args below meth c0 H locs cells slots mc ms ls a1 a2 a3 a4 a5 a6
  have hq0 := xwd_at (aC := G.2.2.1) (π := π) ha
  rw [xel_arrR hT (by omega) (by omega)] at hq0
  have kk1 := kk p e s m args below meth c0 H locs cells slots mc ms ls a1 a2 a3 a4 a5 a6
  rw [List.map_cons, xvp_rf] at kk1
  have hlt : i.toNatClampNeg < (σ.2.1 a).2 := Nat.not_le.mp fun q => hi (Or.inr q)
  exact W.aald (v := va_rf ((σ.2.2.2.2 a i.toNatClampNeg).map π)) (ty := .array .int) a1.1 a1.2.1 (a2.1 a _ hq0) ((a1.2.2.2.2.2.2.1.1.2 5 _ rfl).1 _ (fun j => va_rf ((σ.2.2.2.2 a j).map π))) rfl (fun q => by cases q) (by show ¬ (i < 0 ∨ (arrV _ _ _).slots.size ≤ _); rw [arrV_size]; exact hi) (by show (arrV _ _ _).slots[_]? = _; rw [arrV_read _ _ hlt]) rfl rfl h kk1
theorem xm_aast {a v ci : Nat} {i : Int32} {kd : Nat} (h : decode J.2.2.1 pc = .ok (.aastore, 1)) (ha : a < σ.1) (hT : (σ.2.1 a).1 = kd) (hkd : (kd = 16 ∧ ci = 2) ∨ (kd = 17 ∧ ci = 9)) (hi : vp_in i (σ.2.1 a).2) (hv : v < σ.1) (hTv : (σ.2.1 v).1 = ci) (kk : xMach G π J d C9 Z (pc + 1) L S (xsR σ a i.toNatClampNeg (some v)) Q) : xMach G π J d C9 Z pc L (.ref v :: .int i :: .ref a :: S) σ Q := by
  intro p e s m args below meth c0 H locs cells slots mc ms ls a1 a2 a3 a4 a5 a6
  have hq1 := xwd_at (aC := G.2.2.1) (π := π) ha
  have hq2 := xwd_at (aC := G.2.2.1) (π := π) hv
  rw [xel_arrR hT (by omega) (by omega)] at hq1
  rw [xel_obj hTv (by omega)] at hq2
  have hw : xwf (xsR σ a i.toNatClampNeg (some v)) := xwf_R a2.2.2.1 (fun r hr => by cases hr; exact hv)
  rcases hkd with ⟨rfl, rfl⟩ | ⟨rfl, rfl⟩
  · exact va_astq a1.1 a1.2.1 a1.2.2.2.2.2.2.1.1 a2.1 a2.2.1 a3 a 3 v 2 hq1 rfl hq2 rfl hi h (fun H1 locs1 b1 b2 b3 => kk p e s m args below meth c0 H1 locs1 cells slots mc ms ls a1 (xHd.set (σ := σ) (τ := xsR σ a i.toNatClampNeg (some v)) rfl (xel_putAR hT (by omega) (by omega) rfl) xR_ne hw b1 b2 a2.2.2.2) b3 a4 a5 a6)
  · exact va_astq a1.1 a1.2.1 a1.2.2.2.2.2.2.1.1 a2.1 a2.2.1 a3 a 4 v 9 hq1 rfl hq2 rfl hi h (fun H1 locs1 b1 b2 b3 => kk p e s m args below meth c0 H1 locs1 cells slots mc ms ls a1 (xHd.set (σ := σ) (τ := xsR σ a i.toNatClampNeg (some v)) rfl (xel_putAR hT (by omega) (by omega) rfl) xR_ne hw b1 b2 a2.2.2.2) b3 a4 a5 a6)
theorem xm_aastN {a kd ci : Nat} {i : Int32} (h : decode J.2.2.1 pc = .ok (.aastore, 1)) (ha : a < σ.1) (hT : (σ.2.1 a).1 = kd) (hkd : (kd = 16 ∧ ci = 2) ∨ (kd = 17 ∧ ci = 9)) (hi : vp_in i (σ.2.1 a).2) (kk : xMach G π J d C9 Z (pc + 1) L S (xsR σ a i.toNatClampNeg none) Q) : xMach G π J d C9 Z pc L (.null :: .int i :: .ref a :: S) σ Q := by
  intro p e s m args below meth c0 H locs cells slots mc ms ls a1 a2 a3 a4 a5 a6
  have hq1 := xwd_at (aC := G.2.2.1) (π := π) ha
  rw [xel_arrR hT (by omega) (by omega)] at hq1
  have hw : xwf (xsR σ a i.toNatClampNeg none) := xwf_R a2.2.2.1 (fun r hr => by cases hr)
  rcases hkd with ⟨rfl, rfl⟩ | ⟨rfl, rfl⟩
  · exact va_astqN a1.1 a1.2.1 a1.2.2.2.2.2.2.1.1 a2.1 a2.2.1 a3 a 3 hq1 rfl hi h (fun H1 locs1 b1 b2 b3 => kk p e s m args below meth c0 H1 locs1 cells slots mc ms ls a1 (xHd.set (σ := σ) (τ := xsR σ a i.toNatClampNeg none) rfl (xel_putAR hT (by omega) (by omega) rfl) xR_ne hw b1 b2 a2.2.2.2) b3 a4 a5 a6)
  · exact va_astqN a1.1 a1.2.1 a1.2.2.2.2.2.2.1.1 a2.1 a2.2.1 a3 a 4 hq1 rfl hi h (fun H1 locs1 b1 b2 b3 => kk p e s m args below meth c0 H1 locs1 cells slots mc ms ls a1 (xHd.set (σ := σ) (τ := xsR σ a i.toNatClampNeg none) rfl (xel_putAR hT (by omega) (by omega) rfl) xR_ne hw b1 b2 a2.2.2.2) b3 a4 a5 a6)
theorem xm_alen {a kd : Nat} {n : Int32} (h : decode J.2.2.1 pc = .ok (.arraylength, 1)) (ha : a < σ.1) (hT : (σ.2.1 a).1 = kd) (h1 : 13 ≤ kd) (h2 : kd < 18) (hn : Int32.ofNat (σ.2.1 a).2 = n) (kk : xMach G π J d C9 Z (pc + 1) L (.int n :: S) σ Q) : xMach G π J d C9 Z pc L (.ref a :: S) σ Q := by
  intro p e s m args below meth c0 H locs cells slots mc ms ls a1 a2 a3 a4 a5 a6
  have hq0 := xwd_at (aC := G.2.2.1) (π := π) ha
  by_cases h3 : kd < 16
  · rw [xel_arr hT h1 h3] at hq0
    have : kd = 13 ∨ kd = 14 ∨ kd = 15 := by omega
    rcases this with rfl | rfl | rfl
    · exact va_alen a1.1 a1.2.1 a1.2.2.2.2.2.2.1.1 a2.1 a 0 hq0 rfl hn h (kk p e s m args below meth c0 H locs cells slots mc ms ls a1 a2 a3 a4 a5 a6)
    · exact va_alen a1.1 a1.2.1 a1.2.2.2.2.2.2.1.1 a2.1 a 1 hq0 rfl hn h (kk p e s m args below meth c0 H locs cells slots mc ms ls a1 a2 a3 a4 a5 a6)
    · exact va_alen a1.1 a1.2.1 a1.2.2.2.2.2.2.1.1 a2.1 a 2 hq0 rfl hn h (kk p e s m args below meth c0 H locs cells slots mc ms ls a1 a2 a3 a4 a5 a6)
  · rw [xel_arrR hT (by omega) (by omega)] at hq0
    have : kd = 16 ∨ kd = 17 := by omega
    rcases this with rfl | rfl
    · exact va_alen a1.1 a1.2.1 a1.2.2.2.2.2.2.1.1 a2.1 a 3 hq0 rfl hn h (kk p e s m args below meth c0 H locs cells slots mc ms ls a1 a2 a3 a4 a5 a6)
    · exact va_alen a1.1 a1.2.1 a1.2.2.2.2.2.2.1.1 a2.1 a 4 hq0 rfl hn h (kk p e s m args below meth c0 H locs cells slots mc ms ls a1 a2 a3 a4 a5 a6)

/-! a method's contract out of its body; calls -/
theorem xCx_no {G : xG} {J : xJ} {p : Program} {s : State} {m : MethodId} {args : Array Value} {meth : Method} {c : Code} (hTb : xTb J = []) (a1 : xCx G J p s m args meth c) : ∀ x ∈ c.exceptionTable.toList, False := by
  intro x hx
  have h0 := a1.2.2.2.2.2.2.2.2.2
  rw [hTb] at h0
  rw [h0] at hx
  exact absurd hx List.not_mem_nil
theorem xlg_len (π : Nat → Nat) (vs : List Value) : (lg_sl (vs.map (xvp π))).length = (lg_sl vs).length := by
  induction vs with
  | nil => rfl
  | cons v vs ih => cases v <;> simp [lg_sl, xvp, Value.category] at ih ⊢ <;> omega
theorem xargs_mp (π : Nat → Nat) (vs : List Value) : ∀ i : Nat, lv_args i (vs.map (xvp π)) = xmp π (lv_args i vs) := by
  induction vs with
  | nil => intro i; rfl
  | cons v vs ih =>
    intro i
    show (i, xvp π v) :: lv_args (if (xvp π v).category = 2 then i + 2 else i + 1) (vs.map (xvp π)) = _
    rw [xvp_cat, ih]
    rfl
theorem xcat_mp (π : Nat → Nat) (S : List Value) : ((S.map (xvp π)).map fun v => v.category) = S.map fun v => v.category := by
  rw [List.map_map]
  apply List.map_congr_left
  intro v _
  exact xvp_cat π v
def xPc (G : xG) (π : Nat → Nat) (σ : xM) (vs : List Value) : Array Value → State → Prop := fun v U => v = (vs.map (xvp π)).toArray ∧ xHd G π σ U.heap ∧ xKn G U
theorem xPc.blind {G : xG} {π : Nat → Nat} {σ : xM} {vs : List Value} : FrameBlind (xPc G π σ vs) := fun a U g mk q => ⟨q.1, q.2.1, xKn.warm (U := U.calling g mk a) (State.WarmedH.refl U) rfl va_S.rf q.2.2⟩
theorem xMet {vs : List Value} (hTb : xTb J = []) (hy : plainName J.2.1.cls = true) (hcl : J.2.1.cls = J.1) (hn : (lg_sl vs).length ≤ J.2.2.2.1) (k : xMach G π J d C9 Z 0 (lv_args 0 vs) [] σ Q) : vx_Met G.1 J.2.1 (xws J) (xroom d C9 Z) (xPc G π σ vs) (xQc G Q) (xXC G Q) C9 Z (xA G.2.2.2) := by
  refine vx_ofW (cc := J.2.2.1) (maxL := J.2.2.2.1) (ret := J.2.2.2.2) (ws' := xTB) hy rfl ?_
  intro p e s m args below meth c s₁ B hml htab hv
  obtain ⟨rfl, hH, hK⟩ := hv
  have hl := lv_entry (vs.map (xvp π)) (n := J.2.2.2.1) (by rw [xlg_len]; exact hn)
  rw [lg_entry_eq]
  generalize (lg_sl (vs.map (xvp π)) ++ List.replicate (J.2.2.2.1 - (lg_sl (vs.map (xvp π))).length) Slot.unset).toArray = ls at hl ⊢
  rw [xargs_mp] at hl
  exact k p e s m _ below meth c s.heap [] 0 0 C9 Z ls ⟨B.exec, B.bytes, B.returns, hml, by rw [← hcl]; exact findClass_of_methodNamed B.named, fun w hw => atoms_spec (ws := xws J) B.pre w (List.mem_cons_of_mem _ hw), hK, B.notSynchronized, fun h => (name_of_methodNamed B.named B.method).1.trans h, by rw [hTb]; exact List.eq_nil_iff_forall_not_mem.mpr htab⟩ hH va_S.rf hl (by omega) (by omega)
/-- what is asked of a callee's words at a call -/
def xCal (J J' : xJ) (d' n : Nat) : Prop :=
  Cond.code J'.2.1 J'.2.2.1 J'.2.2.2.1 J'.2.2.2.2 ∈ xTB ∧ goodWord (Cond.code J'.2.1 J'.2.2.1 J'.2.2.2.1 J'.2.2.2.2) = true ∧ Cond.initialized J'.2.1.cls ∈ xTB ∧ plainName J'.2.1.cls = true ∧ J'.2.1.cls = J'.1 ∧ (J'.2.1.cls ≠ "java/lang/invoke/MethodHandle" ∧ J'.2.1.cls ≠ "java/lang/invoke/VarHandle") ∧ (parseMethodDescriptor J'.2.1.desc).map (fun d => d.parameters.length) = some n ∧ J'.2.2.2.1 ≤ 45
theorem xGood {J' : xJ} (h : Cond.code J'.2.1 J'.2.2.1 J'.2.2.2.1 J'.2.2.2.2 ∈ xTB) (g : goodWord (Cond.code J'.2.1 J'.2.2.1 J'.2.2.2.1 J'.2.2.2.2) = true) : GoodIn xTB (xws J') := by
  intro w hw
  rcases List.mem_cons.mp hw with rfl | hw
  · exact ⟨h, good_of_word g⟩
  · exact ⟨hw, (xTB_good w hw).2⟩
theorem xCalB {J J' : xJ} {s : State} {args : Array Value} {d' mc ms C1 Z1 n idx : Nat} (hc : xCal J J' d' n) (hts : ∀ w ∈ xTB, w.before args s = true) (hl : (Cond.methodLink J.1 idx J'.2.1).before args s = true) :
    CallB (xroom (d' + 1) mc ms) s args J.1 idx J'.2.1 J'.2.2.1 J'.2.2.2.1 J'.2.2.2.2 (xws J') (xroom d' C1 Z1) C1 Z1 n := by
  obtain ⟨h1, h2, h3, h4, h5, h6, h7, h8⟩ := hc
  exact callB_of n hts (xGood h1 h2) rfl rfl rfl (hts _ (xws_in h3)) hl ⟨h6.1, h6.2, h7⟩ ⟨by show d' + 1 ≤ d' + 1; exact Nat.le_refl _, by show 8 + (J'.2.2.2.1 + 11) + 64 * d' ≤ 64 * (d' + 1); omega⟩
/-- behind a call: what came back, or what was thrown -/
theorem xm_back {p : Program} {e : Env} {s : State} {m : MethodId} {args : Array Value} {below : List Frame} {meth : Method} {c : Code} {H : Heap} {locs : List Loc} {cells slots mc ms C1 Z1 : Nat} {ls : Array Slot} {st0 : List Value} {a : Array Value} {Q1 : xQ}
    (hr : vx_Run p G.1 e (xroom d mc ms) s m args below meth c H locs cells slots C1 Z1 (F0 m pc ls st0) (S.map (xvp π)) (xQc G Q1 a) (xXC G Q1) (xA G.2.2.2))
    (hTb : xTb J = []) (a1 : xCx G J p s m args meth c) (a3 : va_S (xA G.2.2.2) s.heap H locs) (a4 : lv_has ls J.2.2.2.1 (xmp π L)) (a5 : cells + (C1 + C9) ≤ mc) (a6 : slots + (Z1 + Z) ≤ ms)
    (kx : ∀ (E : String) (τ : xM) (π' : Nat → Nat), Q1 (.inr E) τ π' → Q (.inr E) τ π')
    (kk : ∀ (v : Option Value) (τ : xM) (π' : Nat → Nat), Q1 (.inl v) τ π' → S.map (xvp π') = S.map (xvp π) ∧ xmp π' L = xmp π L ∧ xMach G π' J d C9 Z (pc + 3) L (v.toList ++ S) τ Q) :
    W p G.1 e (xroom d mc ms) s m args below meth c H locs cells slots (vx_MQ below (xQc G Q) (xXC G Q) args s mc ms (xA G.2.2.2)) (F0 m pc ls st0) := by
  intro T hT X
  rcases hr T hT X with ⟨v, st₀, t, T', L9, h0, X', hL, e1, e2, ⟨v9, τ, π', hv, hq, hh, hF⟩, st⟩ | ⟨q, st₀, t, T', L9, E, ce, h0, X', hL, e1, e2, ⟨τ, π', hq, hh, hF⟩, hce, hcv, hcl, st⟩
  · cases hv
    obtain ⟨k1, k2, k3⟩ := vx_keep h0 e1 a3 (fun _ _ h => h) (fun _ h => h) hL hF
    obtain ⟨f1, f2, f3⟩ := kk v9 τ π' hq
    obtain ⟨t2, b1, b2⟩ := f3 p e s m args below meth c T'.heap (locs ++ L9) (cells + C1) (slots + Z1) mc ms ls a1 (by rw [e1]; exact hh) k3 (by rw [f2]; exact a4) (by omega) (by omega) T' rfl X'
    refine ⟨t2, st t2 ?_, b2⟩
    have e3 : (v9.map (xvp π')).toList ++ S.map (xvp π) = (v9.toList ++ S).map (xvp π') := by
      rw [List.map_append, f1]
      cases v9 <;> rfl
    show Steps p.tables e below (T'.setTop { F0 m pc ls st0 with pc := pc + 3, stack := (v9.map (xvp π')).toList ++ S.map (xvp π) }) t2
    rw [e3]
    exact b1
  · obtain ⟨k1, k2, k3⟩ := vx_keep h0 e1 a3 (fun _ _ h => h) (fun _ h => h) hL hF
    obtain ⟨t2, b1, b2⟩ := vx_out (pc := pc) (rest := S.map (xvp π)) (ls := ls) (Qc := xQc G Q) (XC := xXC G Q) (free := xA G.2.2.2) (mc := mc) (ms := ms) (fun x hx => (xCx_no hTb a1 x hx).elim) a1.2.2.2.2.2.2.2.1 (H := T'.heap) (by rw [e1]; exact hce) hcv hcl (fun t9 h9 hA9 => ⟨τ, π', kx E τ π' hq, by rw [h9, e1]; exact hh, k3.F h9⟩) k3.2.2 (by omega) (by omega) T' rfl X'
    exact ⟨t2, st.trans b1, b2⟩
theorem xst_mp (π : Nat → Nat) (As S : List Value) : (As.reverse ++ S).map (xvp π) = (As.map (xvp π)).reverse ++ S.map (xvp π) := by
  rw [List.map_append, List.map_reverse]
theorem xm_callV {J' : xJ} {idx n b ci N C1 Z1 : Nat} {T : u_T} {As : List Value} {Q1 : xQ} (h : decode J.2.2.1 pc = .ok (.invokevirtual idx, 3)) (hc : xCal J J' d n) (hx : xCl ci J'.2.1.cls T N) (hw1 : Cond.methodLink J.1 idx J'.2.1 ∈ xTB) (hw2 : Cond.instanceMethod J'.2.1 ∈ xTB) (hw3 : Cond.selects J'.2.1.cls J'.2.1 J'.2.1 ∈ xTB)
    (hb : b < σ.1) (hT : (σ.2.1 b).1 = ci) (hn : As.length = n) (hlen : (lg_sl (.ref b :: As)).length ≤ J'.2.2.2.1) (hS : (S.map fun v => v.category).sum ≤ 8)
    (kc : xMach G π J' d C1 Z1 0 (lv_args 0 (.ref b :: As)) [] σ Q1) (kx : ∀ (E : String) (τ : xM) (π' : Nat → Nat), Q1 (.inr E) τ π' → Q (.inr E) τ π')
    (kk : ∀ (v : Option Value) (τ : xM) (π' : Nat → Nat), Q1 (.inl v) τ π' → S.map (xvp π') = S.map (xvp π) ∧ xmp π' L = xmp π L ∧ xMach G π' J (d + 1) C9 Z (pc + 3) L (v.toList ++ S) τ Q) (hTb : xTb J = [] := by decide) (hTb' : xTb J' = [] := by decide) : xMach G π J (d + 1) (C1 + C9) (Z1 + Z) pc L (As.reverse ++ .ref b :: S) σ Q := by
  intro p e s m args below meth c0 H locs cells slots mc ms ls a1 a2 a3 a4 a5 a6
  have hq0 := xwd_at (aC := G.2.2.1) (π := π) hb
  rw [xel_obj hT hx.2.2.2.2.2] at hq0
  have hM := xMet hTb' hc.2.2.2.1 hc.2.2.2.2.1 hlen kc
  rw [xst_mp]
  refine xm_back (π := π) (L := L) (C9 := C9) (Z := Z) (vx_runV (As := As.map (xvp π)) (rest := S.map (xvp π)) ⟨a1.1, a1.2.1, a1.2.2.2.1, a1.2.2.2.2.1, a1.2.2.2.2.2.1⟩ hM ⟨xCalB hc a1.2.2.2.2.2.1 (a1.2.2.2.2.2.1 _ (xws_in hw1)), a1.2.2.2.2.2.1 _ (xws_in hw2), a1.2.2.2.2.2.1 _ (xws_in hw3)⟩ ⟨xPc.blind, va_recv a1.2.2.2.2.2.2.1.1 a2.1 hx.1 hq0, fun U hU hW => ⟨rfl, by rw [hU]; exact a2, xKn.warm hW hU a3 a1.2.2.2.2.2.2.1⟩⟩ rfl (by rw [List.length_map]; exact hn) a4.1 rfl (lv_room (by rw [xcat_mp]; exact hS)) h ⟨by show cells + C1 ≤ mc; omega, by show slots + Z1 ≤ ms; omega⟩) hTb a1 a3 a4 (by omega) (by omega) kx kk
theorem xm_callS {J' : xJ} {idx n C1 Z1 : Nat} {As : List Value} {Q1 : xQ} (h : decode J.2.2.1 pc = .ok (.invokestatic idx, 3)) (hc : xCal J J' d n) (hw1 : Cond.methodLink J.1 idx J'.2.1 ∈ xTB) (hw2 : Cond.static J'.2.1 ∈ xTB)
    (hn : As.length = n) (hlen : (lg_sl As).length ≤ J'.2.2.2.1) (hS : (S.map fun v => v.category).sum ≤ 8)
    (kc : xMach G π J' d C1 Z1 0 (lv_args 0 As) [] σ Q1) (kx : ∀ (E : String) (τ : xM) (π' : Nat → Nat), Q1 (.inr E) τ π' → Q (.inr E) τ π')
    (kk : ∀ (v : Option Value) (τ : xM) (π' : Nat → Nat), Q1 (.inl v) τ π' → S.map (xvp π') = S.map (xvp π) ∧ xmp π' L = xmp π L ∧ xMach G π' J (d + 1) C9 Z (pc + 3) L (v.toList ++ S) τ Q) (hTb : xTb J = [] := by decide) (hTb' : xTb J' = [] := by decide) : xMach G π J (d + 1) (C1 + C9) (Z1 + Z) pc L (As.reverse ++ S) σ Q := by
  intro p e s m args below meth c0 H locs cells slots mc ms ls a1 a2 a3 a4 a5 a6
  have hM := xMet hTb' hc.2.2.2.1 hc.2.2.2.2.1 hlen kc
  rw [xst_mp]
  refine xm_back (π := π) (L := L) (C9 := C9) (Z := Z) (vx_runS (As := As.map (xvp π)) (rest := S.map (xvp π)) ⟨a1.1, a1.2.1, a1.2.2.2.1, a1.2.2.2.2.1, a1.2.2.2.2.2.1⟩ hM ⟨xCalB hc a1.2.2.2.2.2.1 (a1.2.2.2.2.2.1 _ (xws_in hw1)), a1.2.2.2.2.2.1 _ (xws_in hw2)⟩ ⟨xPc.blind, fun U hU hW => ⟨rfl, by rw [hU]; exact a2, xKn.warm hW hU a3 a1.2.2.2.2.2.2.1⟩⟩ rfl (by rw [List.length_map]; exact hn) a4.1 rfl (lv_room (by rw [xcat_mp]; exact hS)) h ⟨by show cells + C1 ≤ mc; omega, by show slots + Z1 ≤ ms; omega⟩) hTb a1 a3 a4 (by omega) (by omega) kx kk
theorem xm_callI {J' : xJ} {idx n b C1 Z1 : Nat} {As : List Value} {Q1 : xQ} (h : decode J.2.2.1 pc = .ok (.invokespecial idx, 3)) (hc : xCal J J' d n) (hret : J'.2.2.2.2 = none) (hinit : J'.2.1.name = "<init>") (hw1 : Cond.methodLink J.1 idx J'.2.1 ∈ xTB) (hw2 : Cond.instanceMethod J'.2.1 ∈ xTB)
    (hn : As.length = n) (hlen : (lg_sl (.ref b :: As)).length ≤ J'.2.2.2.1) (hS : (S.map fun v => v.category).sum ≤ 8)
    (kc : xMach G π J' d C1 Z1 0 (lv_args 0 (.ref b :: As)) [] σ Q1) (kx : ∀ (E : String) (τ : xM) (π' : Nat → Nat), Q1 (.inr E) τ π' → Q (.inr E) τ π')
    (kk : ∀ (v : Option Value) (τ : xM) (π' : Nat → Nat), Q1 (.inl v) τ π' → S.map (xvp π') = S.map (xvp π) ∧ xmp π' L = xmp π L ∧ xMach G π' J (d + 1) C9 Z (pc + 3) L (v.toList ++ S) τ Q) (hTb : xTb J = [] := by decide) (hTb' : xTb J' = [] := by decide) : xMach G π J (d + 1) (C1 + C9) (Z1 + Z) pc L (As.reverse ++ .ref b :: S) σ Q := by
  intro p e s m args below meth c0 H locs cells slots mc ms ls a1 a2 a3 a4 a5 a6
  have hM := xMet hTb' hc.2.2.2.1 hc.2.2.2.2.1 hlen kc
  have hB := xCalB (mc := mc) (ms := ms) (C1 := C1) (Z1 := Z1) hc a1.2.2.2.2.2.1 (a1.2.2.2.2.2.1 _ (xws_in hw1))
  rw [hret] at hB
  rw [xst_mp]
  refine xm_back (π := π) (L := L) (C9 := C9) (Z := Z) (vx_runI (b := π b) (As := As.map (xvp π)) (rest := S.map (xvp π)) ⟨a1.1, a1.2.1, a1.2.2.2.1, a1.2.2.2.2.1, a1.2.2.2.2.2.1⟩ hM ⟨hB, hinit, a1.2.2.2.2.2.1 _ (xws_in hw2)⟩ ⟨xPc.blind, fun U hU hW => ⟨rfl, by rw [hU]; exact a2, xKn.warm hW hU a3 a1.2.2.2.2.2.2.1⟩⟩ rfl (by rw [List.length_map]; exact hn) a4.1 rfl (lv_room (by rw [xcat_mp]; exact hS)) h ⟨by show cells + C1 ≤ mc; omega, by show slots + Z1 ≤ ms; omega⟩) hTb a1 a3 a4 (by omega) (by omega) kx kk
theorem xm_callIN {J' : xJ} {idx n b C1 Z1 : Nat} {host : String} {As : List Value} {Q1 : xQ} (h : decode J.2.2.1 pc = .ok (.invokespecial idx, 3)) (hc : xCal J J' d n) (hret : J'.2.2.2.2 = none) (hinit : J'.2.1.name = "<init>") (hw1 : Cond.methodLinkNest J.1 idx J'.2.1 host ∈ xot) (hw2 : Cond.instanceMethod J'.2.1 ∈ xTB)
    (hn : As.length = n) (hlen : (lg_sl (.ref b :: As)).length ≤ J'.2.2.2.1) (hS : (S.map fun v => v.category).sum ≤ 8)
    (kc : xMach G π J' d C1 Z1 0 (lv_args 0 (.ref b :: As)) [] σ Q1) (kx : ∀ (E : String) (τ : xM) (π' : Nat → Nat), Q1 (.inr E) τ π' → Q (.inr E) τ π')
    (kk : ∀ (v : Option Value) (τ : xM) (π' : Nat → Nat), Q1 (.inl v) τ π' → S.map (xvp π') = S.map (xvp π) ∧ xmp π' L = xmp π L ∧ xMach G π' J (d + 1) C9 Z (pc + 3) L (v.toList ++ S) τ Q) (hTb : xTb J = [] := by decide) (hTb' : xTb J' = [] := by decide) : xMach G π J (d + 1) (C1 + C9) (Z1 + Z) pc L (As.reverse ++ .ref b :: S) σ Q := by
  intro p e s m args below meth c0 H locs cells slots mc ms ls a1 a2 a3 a4 a5 a6
  have hM := xMet hTb' hc.2.2.2.1 hc.2.2.2.2.1 hlen kc
  obtain ⟨y1, y2, y3, y4, y5, y6, y7, y8⟩ := hc
  have hB : va_CN (xroom (d + 1) mc ms) s args J.1 idx J'.2.1 host J'.2.2.1 J'.2.2.2.1 J'.2.2.2.2 (xws J') (xroom d C1 Z1) C1 Z1 n := va_cnB (Ts := xTB) n a1.2.2.2.2.2.1 (xGood y1 y2) rfl rfl rfl (a1.2.2.2.2.2.2.1.2.2.1.1 _ hw1) (a1.2.2.2.2.2.1 _ (xws_in y3)) ⟨y6.1, y6.2, y7⟩ ⟨Nat.le_refl _, by show 8 + (J'.2.2.2.1 + 11) + 64 * d ≤ 64 * (d + 1); omega⟩
  rw [hret] at hB
  rw [xst_mp]
  refine xm_back (π := π) (L := L) (C9 := C9) (Z := Z) (vx_runIN (b := π b) (As := As.map (xvp π)) (rest := S.map (xvp π)) ⟨a1.1, a1.2.1, a1.2.2.2.1, a1.2.2.2.2.1, a1.2.2.2.2.2.1⟩ hM ⟨hB, hinit, a1.2.2.2.2.2.1 _ (xws_in hw2)⟩ ⟨xPc.blind, fun U hU hW => ⟨rfl, by rw [hU]; exact a2, xKn.warm hW hU a3 a1.2.2.2.2.2.2.1⟩⟩ rfl (by rw [List.length_map]; exact hn) a4.1 rfl (lv_room (by rw [xcat_mp]; exact hS)) h ⟨by show cells + C1 ≤ mc; omega, by show slots + Z1 ≤ ms; omega⟩) hTb a1 a3 a4 (by omega) (by omega) kx kk
/-! what is made -/
/-- the references of a list are all below n -/
def xfr (n : Nat) (S : List Value) : Bool := S.all (fun v => match v with | .ref a => decide (a < n) || a == xkX | _ => true)
/-- two maps are the same below n -/
def xag (n : Nat) (π π' : Nat → Nat) : Prop := (∀ r, r < n → π' r = π r) ∧ π' xkX = π xkX
theorem xag_rf {n : Nat} {π : Nat → Nat} : xag n π π := ⟨fun _ _ => rfl, rfl⟩
theorem xag_up {n m q : Nat} {π : Nat → Nat} (h : n ≤ m) (hk : m < xkS) : xag n π (va_up π m q) := ⟨fun _ hr => va_up_ne _ _ (by omega), va_up_ne _ _ (by unfold xkS at hk; unfold xkX; omega)⟩
theorem xag_tr {n m : Nat} {π π1 π2 : Nat → Nat} (h : n ≤ m) (h1 : xag n π π1) (h2 : xag m π1 π2) : xag n π π2 := ⟨fun r hr => (h2.1 r (by omega)).trans (h1.1 r hr), h2.2.trans h1.2⟩
theorem xfr_v {n : Nat} {π π' : Nat → Nat} (hp : xag n π π') {v : Value} (h : (match v with | .ref a => decide (a < n) || a == xkX | _ => true) = true) : xvp π' v = xvp π v := by
  cases v <;> first
    | rfl
    | (simp only [Bool.or_eq_true, decide_eq_true_eq, beq_iff_eq] at h
       rcases h with h | h
       · exact congrArg Value.ref (hp.1 _ h)
       · rw [h]; exact congrArg Value.ref hp.2)
theorem xfr_S {n : Nat} {π π' : Nat → Nat} {S : List Value} (hp : xag n π π') (h : xfr n S = true) : S.map (xvp π') = S.map (xvp π) :=
  List.map_congr_left fun v hv => xfr_v hp (List.all_eq_true.mp h v hv)
theorem xfr_L {n : Nat} {π π' : Nat → Nat} {L : List (Nat × Value)} (hp : xag n π π') (h : xfr n (L.map Prod.snd) = true) : xmp π' L = xmp π L := by
  unfold xmp
  refine List.map_congr_left fun q hq => ?_
  rw [xfr_v hp (List.all_eq_true.mp h q.2 (List.mem_map.mpr ⟨q, hq, rfl⟩))]
theorem xwd_push {aC : Nat → ClassId} {π : Nat → Nat} {σ : xM} {q kd n : Nat} (hw : xwf σ) : xwd aC π σ ++ [(q, xel aC (va_up π σ.1 q) (xnew σ kd n) σ.1)] = xwd aC (va_up π σ.1 q) (xnew σ kd n) := by
  unfold xwd
  show _ = (List.range (σ.1 + 1)).map _
  rw [List.range_succ, List.map_append]
  congr 1
  · refine List.map_congr_left fun k hk => ?_
    have hk : k < σ.1 := List.mem_range.mp hk
    have e : k ≠ σ.1 := by omega
    rw [va_up_ne _ _ e, xel_ne (σ := σ) (τ := xnew σ kd n) (va_up_ne _ _ e) (va_up_ne _ _ e) (va_up_ne _ _ e) (va_up_ne _ _ e), xel_pi hw (fun r hr => va_up_ne _ _ (by omega))]
  · rw [List.map_singleton, va_up_self]
theorem xHd.push {G : xG} {π : Nat → Nat} {σ : xM} {q kd n : Nat} {e : va_E} {H1 : Heap} (he : e = xel G.2.2.1 (va_up π σ.1 q) (xnew σ kd n) σ.1) (hw : xwf σ)
    (hP : va_P G.2.1 vwCl (xwd G.2.2.1 π σ ++ [(q, e)]) H1) (hD : va_D (xA G.2.2.2) (xwd G.2.2.1 π σ ++ [(q, e)])) (hk : σ.1 < xkS) (hs : xSp G π) : xHd G (va_up π σ.1 q) (xnew σ kd n) H1 := by
  rw [he, xwd_push hw] at hP hD
  exact ⟨hP, hD, xwf_new hw, by unfold xSp xkS xkV xkF xkX at *; rw [va_up_ne _ _ (by omega), va_up_ne _ _ (by omega), va_up_ne _ _ (by omega), va_up_ne _ _ (by omega)]; exact hs⟩
/-- go on behind an allocation -/
theorem xm_nw {kd n q : Nat} (hk : σ.1 < xkS) (hS : xfr σ.1 S = true) (hL : xfr σ.1 (L.map Prod.snd) = true) (k : xMach G (va_up π σ.1 q) J d C Z pc L (.ref σ.1 :: S) (xnew σ kd n) Q)
    {p : Program} {e : Env} {s : State} {m : MethodId} {args : Array Value} {below : List Frame} {meth : Method} {c : Code} {H : Heap} {locs : List Loc} {cells slots mc ms : Nat} {ls : Array Slot}
    (a1 : xCx G J p s m args meth c) (a2 : xHd G (va_up π σ.1 q) (xnew σ kd n) H) (a3 : va_S (xA G.2.2.2) s.heap H locs) (a4 : lv_has ls J.2.2.2.1 (xmp π L)) (a5 : cells + C ≤ mc) (a6 : slots + Z ≤ ms) :
    W p G.1 e (xroom d mc ms) s m args below meth c H locs cells slots (vx_MQ below (xQc G Q) (xXC G Q) args s mc ms (xA G.2.2.2)) (F0 m pc ls (.ref q :: S.map (xvp π))) := by
  have e0 : (.ref σ.1 :: S : List Value).map (xvp (va_up π σ.1 q)) = .ref q :: S.map (xvp π) := by
    show xvp _ (.ref σ.1) :: _ = _
    rw [xfr_S (xag_up (Nat.le_refl _) hk) hS]
    show Value.ref (va_up π σ.1 q σ.1) :: _ = _
    rw [va_up_self]
  rw [← e0]
  exact k p e s m args below meth c H locs cells slots mc ms ls a1 a2 a3 (by rw [xfr_L (xag_up (Nat.le_refl _) hk) hL]; exact a4) a5 a6
theorem xm_new {c idx N : Nat} {CN : String} {T : u_T} (h : decode J.2.2.1 pc = .ok (.new idx, 3)) (hx : xCl c CN T N) (hw1 : Cond.classLink J.1 idx CN ∈ xTB) (hw2 : Cond.instantiable CN N ∈ xTB) (hw3 : Cond.initialized CN ∈ xTB) (hd : ∀ j, j < N → defaultValue (xtyp c j) = if xisr (xtyp c j) = true then .null else .int 0)
    (hk : σ.1 < xkS) (hS : xfr σ.1 S = true) (hL : xfr σ.1 (L.map Prod.snd) = true) (kk : ∀ q, xMach G (va_up π σ.1 q) J d C9 Z (pc + 3) L (.ref σ.1 :: S) (xnew σ c 0) Q) : xMach G π J d (1 + C9) (N + Z) pc L S σ Q := by
  intro p e s m args below meth c0 H locs cells slots mc ms ls a1 a2 a3 a4 a5 a6
  have x5 := hx.2.2.2.2.1
  have x6 := hx.2.2.2.2.2
  refine va_new (fs := (List.range N).map (fun j => if xisr (xtyp c j) = true then .null else .int 0)) a1.1 a1.2.1 a1.2.2.2.2.2.1 (fun w hw => xws_in (hx.2.1 w hw)) (xtyp c) hx.2.2.1 a1.2.2.2.2.1 (a1.2.2.2.2.2.1 _ (xws_in hw1)) (a1.2.2.2.2.2.1 _ (xws_in hw2)) (a1.2.2.2.2.2.1 _ (xws_in hw3)) a1.2.2.2.2.2.2.1.1 a2.1 a2.2.1 a3 (fun q hq => Nat.le_trans a1.2.2.2.2.2.2.1.2.1 hq) hx.1 (fun j hj => ?_) (by show cells + 1 ≤ mc; omega) (by show slots + N ≤ ms; omega) h (fun q H1 b1 b2 b3 => ?_)
  · rw [hd j hj]
    unfold vp_V
    rw [List.getD_eq_getElem?_getD, List.getElem?_map, List.getElem?_range hj]
    rfl
  · have hH := xHd.push (kd := c) (n := 0) (by
      rw [xel_obj (c := c) (by simp [xnew, va_up]) x6, x5]
      congr 2
      apply List.map_congr_left
      intro j hj
      unfold xfv xnew
      by_cases r : xisr (xtyp c j) = true
      · rw [if_pos r, if_pos r]
        simp [va_up, va_rf, xvp]
      · rw [if_neg r, if_neg r]
        simp [va_up, xvp]) a2.2.2.1 b1 b2 hk a2.2.2.2
    exact xm_nw hk hS hL (kk q) a1 hH b3 a4 (by omega) (by omega)
theorem xK_same {G : xG} {s : State} {cA : ClassId} {ty : FieldType} {t0 kd : Nat} (hK : xKn G s) (h0 : (xtys G.2.2.1)[t0]? = some (G.2.2.1 kd, ty)) (h1 : va_K G.2.1 vwCl (xtys G.2.2.1 ++ [(cA, ty)]) s) (hl : (xtys G.2.2.1).length = 6) : cA = G.2.2.1 kd := by
  have r1 := (hK.1.2 _ _ h0).2
  have r2 := (h1.2 6 (cA, ty) (by rw [List.getElem?_append_right (by omega), hl]; rfl)).2
  unfold va_RA at r1 r2
  cases ty with
  | object C =>
    obtain ⟨_, _, _, _, _, e1⟩ := r1
    obtain ⟨_, _, _, _, _, e2⟩ := r2
    exact Option.some.inj (e2.symm.trans e1)
  | _ => exact Option.some.inj (r2.symm.trans r1)
theorem xm_newaI {n : Int32} {N : Nat} (h : decode J.2.2.1 pc = .ok (.newarray .int, 2)) (hw : Cond.arrayClass .int ∈ xTB) (hn : ¬ n < 0) (hN : n.toNatClampNeg = N) (hb : N * componentBytes .int ≤ 536870912) (hk : σ.1 < xkS) (hS : xfr σ.1 S = true) (hL : xfr σ.1 (L.map Prod.snd) = true) (kk : ∀ q, xMach G (va_up π σ.1 q) J d C9 Z (pc + 2) L (.ref σ.1 :: S) (xnew σ 14 N) Q) : xMach G π J d (1 + C9) (N + Z) pc L (.int n :: S) σ Q := by
  intro p e s m args below meth c0 H locs cells slots mc ms ls a1 a2 a3 a4 a5 a6
  refine va_newa (a0 := (N, .inl (fun _ => 0))) (atype := .int) (ty := .int) (N' := N) a1.1 a1.2.1 (a1.2.2.2.2.2.1 _ (xws_in hw)) rfl a1.2.2.2.2.2.2.1.1 a2.1 a2.2.1 a3 (fun q hq => Nat.le_trans a1.2.2.2.2.2.2.1.2.1 hq) (fun _ => rfl) hn hN hb (by show cells + 1 ≤ mc; omega) (by show slots + N ≤ ms; omega) h (fun q cA H1 b0 b1 b2 b3 => ?_)
  have e := xK_same (t0 := 1) (kd := 14) a1.2.2.2.2.2.2.1 rfl b0 rfl
  subst e
  have hH := xHd.push (kd := 14) (n := N) (by
    rw [xel_arr (kd := 14) (by simp [xnew, va_up]) (by omega) (by omega)]
    simp [xnew, va_up]) a2.2.2.1 b1 b2 hk a2.2.2.2
  exact xm_nw hk hS hL (kk q) a1 hH b3 a4 (by omega) (by omega)
theorem xm_newaC {n : Int32} {N : Nat} (h : decode J.2.2.1 pc = .ok (.newarray .char, 2)) (hw : Cond.arrayClass .char ∈ xTB) (hn : ¬ n < 0) (hN : n.toNatClampNeg = N) (hb : N * componentBytes .char ≤ 536870912) (hk : σ.1 < xkS) (hS : xfr σ.1 S = true) (hL : xfr σ.1 (L.map Prod.snd) = true) (kk : ∀ q, xMach G (va_up π σ.1 q) J d C9 Z (pc + 2) L (.ref σ.1 :: S) (xnew σ 13 N) Q) : xMach G π J d (1 + C9) (N + Z) pc L (.int n :: S) σ Q := by
  intro p e s m args below meth c0 H locs cells slots mc ms ls a1 a2 a3 a4 a5 a6
  refine va_newa (a0 := (N, .inl (fun _ => 0))) (atype := .char) (ty := .char) (N' := N) a1.1 a1.2.1 (a1.2.2.2.2.2.1 _ (xws_in hw)) rfl a1.2.2.2.2.2.2.1.1 a2.1 a2.2.1 a3 (fun q hq => Nat.le_trans a1.2.2.2.2.2.2.1.2.1 hq) (fun _ => rfl) hn hN hb (by show cells + 1 ≤ mc; omega) (by show slots + N ≤ ms; omega) h (fun q cA H1 b0 b1 b2 b3 => ?_)
  have e := xK_same (t0 := 0) (kd := 13) a1.2.2.2.2.2.2.1 rfl b0 rfl
  subst e
  have hH := xHd.push (kd := 13) (n := N) (by
    rw [xel_arr (kd := 13) (by simp [xnew, va_up]) (by omega) (by omega)]
    simp [xnew, va_up]) a2.2.2.1 b1 b2 hk a2.2.2.2
  exact xm_nw hk hS hL (kk q) a1 hH b3 a4 (by omega) (by omega)
theorem xm_newaZ {n : Int32} {N : Nat} (h : decode J.2.2.1 pc = .ok (.newarray .boolean, 2)) (hw : Cond.arrayClass .boolean ∈ xTB) (hn : ¬ n < 0) (hN : n.toNatClampNeg = N) (hb : N * componentBytes .boolean ≤ 536870912) (hk : σ.1 < xkS) (hS : xfr σ.1 S = true) (hL : xfr σ.1 (L.map Prod.snd) = true) (kk : ∀ q, xMach G (va_up π σ.1 q) J d C9 Z (pc + 2) L (.ref σ.1 :: S) (xnew σ 15 N) Q) : xMach G π J d (1 + C9) (N + Z) pc L (.int n :: S) σ Q := by
  intro p e s m args below meth c0 H locs cells slots mc ms ls a1 a2 a3 a4 a5 a6
  refine va_newa (a0 := (N, .inl (fun _ => 0))) (atype := .boolean) (ty := .boolean) (N' := N) a1.1 a1.2.1 (a1.2.2.2.2.2.1 _ (xws_in hw)) rfl a1.2.2.2.2.2.2.1.1 a2.1 a2.2.1 a3 (fun q hq => Nat.le_trans a1.2.2.2.2.2.2.1.2.1 hq) (fun _ => rfl) hn hN hb (by show cells + 1 ≤ mc; omega) (by show slots + N ≤ ms; omega) h (fun q cA H1 b0 b1 b2 b3 => ?_)
  have e := xK_same (t0 := 2) (kd := 15) a1.2.2.2.2.2.2.1 rfl b0 rfl
  subst e
  have hH := xHd.push (kd := 15) (n := N) (by
    rw [xel_arr (kd := 15) (by simp [xnew, va_up]) (by omega) (by omega)]
    simp [xnew, va_up]) a2.2.2.1 b1 b2 hk a2.2.2.2
  exact xm_nw hk hS hL (kk q) a1 hH b3 a4 (by omega) (by omega)

theorem xm_newqF {idx : Nat} {n : Int32} {N : Nat} (h : decode J.2.2.1 pc = .ok (.anewarray idx, 3)) (hw : Cond.classLink J.1 idx RX2 ∈ xTB) (hn : ¬ n < 0) (hN : n.toNatClampNeg = N) (hb : N * 4 ≤ 536870912) (hk : σ.1 < xkS) (hS : xfr σ.1 S = true) (hL : xfr σ.1 (L.map Prod.snd) = true) (kk : ∀ q, xMach G (va_up π σ.1 q) J d C9 Z (pc + 3) L (.ref σ.1 :: S) (xnew σ 16 N) Q) : xMach G π J d (1 + C9) (N + Z) pc L (.int n :: S) σ Q := by
  intro p e s m args below meth c0 H locs cells slots mc ms ls a1 a2 a3 a4 a5 a6
  refine va_newq (N' := N) (C := RX2) a1.1 a1.2.1 a1.2.2.2.2.1 (a1.2.2.2.2.2.1 _ (xws_in hw)) a1.2.2.2.2.2.2.1.2.2.1.2.2.1.1 a1.2.2.2.2.2.2.1.1 a2.1 a2.2.1 a3 (fun q hq => Nat.le_trans a1.2.2.2.2.2.2.1.2.1 hq) hn hN hb (by show cells + 1 ≤ mc; omega) (by show slots + N ≤ ms; omega) h (fun q cA H1 b0 b1 b2 b3 => ?_)
  have e := xK_same (t0 := 3) (kd := 16) a1.2.2.2.2.2.2.1 rfl b0 rfl
  subst e
  have hH := xHd.push (kd := 16) (n := N) (by
    rw [xel_arrR (kd := 16) (by simp [xnew, va_up]) (by omega) (by omega)]
    simp [xnew, va_up]) a2.2.2.1 b1 b2 hk a2.2.2.2
  exact xm_nw hk hS hL (kk q) a1 hH b3 a4 (by omega) (by omega)
theorem xm_newqT {idx : Nat} {n : Int32} {N : Nat} (h : decode J.2.2.1 pc = .ok (.anewarray idx, 3)) (hw : Cond.classLink J.1 idx RX9 ∈ xTB) (hn : ¬ n < 0) (hN : n.toNatClampNeg = N) (hb : N * 4 ≤ 536870912) (hk : σ.1 < xkS) (hS : xfr σ.1 S = true) (hL : xfr σ.1 (L.map Prod.snd) = true) (kk : ∀ q, xMach G (va_up π σ.1 q) J d C9 Z (pc + 3) L (.ref σ.1 :: S) (xnew σ 17 N) Q) : xMach G π J d (1 + C9) (N + Z) pc L (.int n :: S) σ Q := by
  intro p e s m args below meth c0 H locs cells slots mc ms ls a1 a2 a3 a4 a5 a6
  refine va_newq (N' := N) (C := RX9) a1.1 a1.2.1 a1.2.2.2.2.1 (a1.2.2.2.2.2.1 _ (xws_in hw)) a1.2.2.2.2.2.2.1.2.2.1.2.2.1.2.1 a1.2.2.2.2.2.2.1.1 a2.1 a2.2.1 a3 (fun q hq => Nat.le_trans a1.2.2.2.2.2.2.1.2.1 hq) hn hN hb (by show cells + 1 ≤ mc; omega) (by show slots + N ≤ ms; omega) h (fun q cA H1 b0 b1 b2 b3 => ?_)
  have e := xK_same (t0 := 4) (kd := 17) a1.2.2.2.2.2.2.1 rfl b0 rfl
  subst e
  have hH := xHd.push (kd := 17) (n := N) (by
    rw [xel_arrR (kd := 17) (by simp [xnew, va_up]) (by omega) (by omega)]
    simp [xnew, va_up]) a2.2.2.1 b1 b2 hk a2.2.2.2
  exact xm_nw hk hS hL (kk q) a1 hH b3 a4 (by omega) (by omega)
theorem xm_objInit {a idx : Nat} (h : decode J.2.2.1 pc = .ok (.invokespecial idx, 3)) (hw1 : Cond.methodLink J.1 idx Lib.objectInit ∈ xTB) (hw2 : Cond.instanceMethod Lib.objectInit ∈ xTB) (hw3 : Cond.code Lib.objectInit ⟨#[0xb1]⟩ 1 none ∈ xTB) (hS : (S.map fun v => v.category).sum ≤ 8)
    (kk : xMach G π J (d + 1) C9 Z (pc + 3) L S σ Q) : xMach G π J (d + 1) C9 Z pc L (.ref a :: S) σ Q := by
  intro p e s m args below meth c0 H locs cells slots mc ms ls a1 a2 a3 a4 a5 a6
  rw [← xcat_mp π S] at hS
  exact W.objInit a1.1 a1.2.1 a1.2.2.2.2.1 (a1.2.2.2.2.2.1 _ (xws_in hw1)) (a1.2.2.2.2.2.1 _ (xws_in hw2)) (a1.2.2.2.2.2.1 _ (xws_in hw3)) rfl (a4.1.trans a1.2.2.2.1.symm) rfl h (by show 1 ≤ d + 1; omega) (by show 2 * 0 + _ + 12 ≤ 64 * (d + 1); omega) (kk p e s m args below meth c0 H locs cells slots mc ms ls a1 a2 a3 a4 a5 a6)
theorem xm_max {x y : Int32} {idx : Nat} (h : decode J.2.2.1 pc = .ok (.invokestatic idx, 3)) (hw1 : Cond.methodLink J.1 idx Lib.Math.max.name ∈ xTB) (hw2 : Cond.static Lib.Math.max.name ∈ xTB) (hw3 : Cond.initialized "java/lang/Math" ∈ xTB) (hw4 : Cond.code Lib.Math.max.name Lib.Math.max.code 2 (some .int) ∈ xTB) (hS : (S.map fun v => v.category).sum ≤ 8)
    (kk : xMach G π J (d + 1) C9 Z (pc + 3) L (.int (if x < y then y else x) :: S) σ Q) : xMach G π J (d + 1) C9 Z pc L (.int y :: .int x :: S) σ Q := by
  intro p e s m args below meth c0 H locs cells slots mc ms ls a1 a2 a3 a4 a5 a6
  rw [← xcat_mp π S] at hS
  exact va_mmax a1.1 a1.2.1 (a1.2.2.2.1.trans a4.1.symm) a1.2.2.2.2.1 (a1.2.2.2.2.2.1 _ (xws_in hw1)) (a1.2.2.2.2.2.1 _ (xws_in hw2)) (a1.2.2.2.2.2.1 _ (xws_in hw3)) (a1.2.2.2.2.2.1 _ (xws_in hw4)) (by show 1 ≤ d + 1; omega) (by show _ + 13 ≤ 64 * (d + 1); omega) (by show cells ≤ mc; omega) (by show slots ≤ ms; omega) h (kk p e s m args below meth c0 H locs cells slots mc ms ls a1 a2 a3 a4 a5 a6)
theorem xm_min {x y : Int32} {idx : Nat} (h : decode J.2.2.1 pc = .ok (.invokestatic idx, 3)) (hw1 : Cond.methodLink J.1 idx Lib.Math.min.name ∈ xTB) (hw2 : Cond.static Lib.Math.min.name ∈ xTB) (hw3 : Cond.initialized "java/lang/Math" ∈ xTB) (hw4 : Cond.code Lib.Math.min.name Lib.Math.min.code 2 (some .int) ∈ xTB) (hS : (S.map fun v => v.category).sum ≤ 8)
    (kk : xMach G π J (d + 1) C9 Z (pc + 3) L (.int (if y < x then y else x) :: S) σ Q) : xMach G π J (d + 1) C9 Z pc L (.int y :: .int x :: S) σ Q := by
  intro p e s m args below meth c0 H locs cells slots mc ms ls a1 a2 a3 a4 a5 a6
  rw [← xcat_mp π S] at hS
  exact va_mmin a1.1 a1.2.1 (a1.2.2.2.1.trans a4.1.symm) a1.2.2.2.2.1 (a1.2.2.2.2.2.1 _ (xws_in hw1)) (a1.2.2.2.2.2.1 _ (xws_in hw2)) (a1.2.2.2.2.2.1 _ (xws_in hw3)) (a1.2.2.2.2.2.1 _ (xws_in hw4)) (by show 1 ≤ d + 1; omega) (by show _ + 13 ≤ 64 * (d + 1); omega) (by show cells ≤ mc; omega) (by show slots ≤ ms; omega) h (kk p e s m args below meth c0 H locs cells slots mc ms ls a1 a2 a3 a4 a5 a6)
/-! throws -/
def xEn : List String := ["java/lang/RuntimeException", "java/lang/Exception"]
/-- what is asked of the words at a throw -/
def xThr (own : String) (ik ic : Nat) (cls : String) : Prop := Bundle.fit cls = true ∧ Cond.classLink own ik cls ∈ xTB ∧ Cond.initialized cls ∈ xTB ∧ (∀ w ∈ vx_atS own ic cls xEn, w ∈ xTB ∨ w ∈ xot) ∧ ∀ w ∈ Cond.classLink own ik cls :: Cond.initialized cls :: vx_atS own ic cls xEn, vx_ot w = true
theorem xEn_fit : ∀ n ∈ xEn, Bundle.fit n = true := by decide +kernel
theorem xm_throwS {ik is ic : Nat} {cls text : String} (d0 : decode J.2.2.1 pc = .ok (.new ik, 3)) (d3 : decode J.2.2.1 (pc + 3) = .ok (.dup, 1)) (d4 : decode J.2.2.1 (pc + 4) = .ok (.ldc is, 2)) (d6 : decode J.2.2.1 (pc + 6) = .ok (.invokespecial ic, 3)) (d9 : decode J.2.2.1 (pc + 9) = .ok (.athrow, 1))
    (hw : xThr J.1 ik ic cls) (hs : (J.1, is, text) ∈ xstr) (hd : 7 ≤ d) (hS : (S.map fun v => v.category).sum ≤ 8) (hq : Q (.inr cls) σ π) (hTb : xTb J = [] := by decide) : xMach G π J d (1 + C9) (6 + Z) pc L S σ Q := by
  intro p e s m args below meth c0 H locs cells slots mc ms ls a1 a2 a3 a4 a5 a6
  rw [← xcat_mp π S] at hS
  obtain ⟨w1, w2, w3, w4, w5⟩ := hw
  obtain ⟨k1, k2, k3, k4, k5⟩ := a1.2.2.2.2.2.2.1
  obtain ⟨sa, hsa⟩ := k3.2.2.2 _ hs
  refine vx_throwS (A := xA G.2.2.2) (names := xEn) a1.1 a1.2.1 k5 a1.2.2.2.2.1 w1 xEn_fit (a1.2.2.2.2.2.1 _ (xws_in w2)) (a1.2.2.2.2.2.1 _ (xws_in w3)) hsa (fun w hw => ?_) w5 k4.1 k4.2.1 a3 (a4.1.trans a1.2.2.2.1.symm) d0 d3 d4 d6 d9 (fun x hx => (xCx_no hTb a1 x hx).elim) (by show 2 + 3 < d; omega) (by show _ + (13 * (2 + 1) + 43) ≤ 64 * d; omega) (by show cells + 1 ≤ mc; omega) (by show slots + 6 ≤ ms; omega) a1.2.2.2.2.2.2.2.1 (fun t hA hz hh => ?_) a3.2.2 (by omega) (by omega)
  · rcases w4 w hw with q | q
    · exact a1.2.2.2.2.2.1 _ (xws_in q)
    · have hk := List.all_eq_true.mp xot_k w q
      have hn := k3.1 w q
      exact va_tabs (by cases w <;> first | rfl | (simp [xotk] at hk; exact hk.1)) rfl hn
  · refine ⟨σ, π, hq, ⟨a2.1.kept fun k q hk => hh q.1 (a2.1 k q hk).lt, a2.2⟩, Nat.le_trans a3.1 hz, fun q q1 q2 => ?_⟩
    rw [hh q (Nat.lt_of_lt_of_le q1 a3.1)]
    exact a3.2.1 q q1 q2
theorem xm_throwSW {ik is ic : Nat} {cls text : String} (d0 : decode J.2.2.1 pc = .ok (.new ik, 3)) (d3 : decode J.2.2.1 (pc + 3) = .ok (.dup, 1)) (d4 : decode J.2.2.1 (pc + 4) = .ok (.ldc_w is, 3)) (d6 : decode J.2.2.1 (pc + 7) = .ok (.invokespecial ic, 3)) (d9 : decode J.2.2.1 (pc + 10) = .ok (.athrow, 1))
    (hw : xThr J.1 ik ic cls) (hs : (J.1, is, text) ∈ xstr) (hd : 7 ≤ d) (hS : (S.map fun v => v.category).sum ≤ 8) (hq : Q (.inr cls) σ π) (hTb : xTb J = [] := by decide) : xMach G π J d (1 + C9) (6 + Z) pc L S σ Q := by
  intro p e s m args below meth c0 H locs cells slots mc ms ls a1 a2 a3 a4 a5 a6
  rw [← xcat_mp π S] at hS
  obtain ⟨w1, w2, w3, w4, w5⟩ := hw
  obtain ⟨k1, k2, k3, k4, k5⟩ := a1.2.2.2.2.2.2.1
  obtain ⟨sa, hsa⟩ := k3.2.2.2 _ hs
  refine vx_throwSW (A := xA G.2.2.2) (names := xEn) a1.1 a1.2.1 k5 a1.2.2.2.2.1 w1 xEn_fit (a1.2.2.2.2.2.1 _ (xws_in w2)) (a1.2.2.2.2.2.1 _ (xws_in w3)) hsa (fun w hw => ?_) w5 k4.1 k4.2.1 a3 (a4.1.trans a1.2.2.2.1.symm) d0 d3 d4 d6 d9 (fun x hx => (xCx_no hTb a1 x hx).elim) (by show 2 + 3 < d; omega) (by show _ + (13 * (2 + 1) + 43) ≤ 64 * d; omega) (by show cells + 1 ≤ mc; omega) (by show slots + 6 ≤ ms; omega) a1.2.2.2.2.2.2.2.1 (fun t hA hz hh => ?_) a3.2.2 (by omega) (by omega)
  · rcases w4 w hw with q | q
    · exact a1.2.2.2.2.2.1 _ (xws_in q)
    · have hk := List.all_eq_true.mp xot_k w q
      have hn := k3.1 w q
      exact va_tabs (by cases w <;> first | rfl | (simp [xotk] at hk; exact hk.1)) rfl hn
  · refine ⟨σ, π, hq, ⟨a2.1.kept fun k q hk => hh q.1 (a2.1 k q hk).lt, a2.2⟩, Nat.le_trans a3.1 hz, fun q q1 q2 => ?_⟩
    rw [hh q (Nat.lt_of_lt_of_le q1 a3.1)]
    exact a3.2.1 q q1 q2
end XP

