/-! THE MACHINE WITH ITS CONTEXT HIDDEN: one memory for all objects, one judgement (xMach), a rule an instruction -/
/-- memory: addresses; kind and length of each; ints, longs, references by address and place -/
abbrev xM : Type := List Nat × (Nat → Nat × Nat) × (Nat → Nat → Int32) × (Nat → Nat → Int64) × (Nat → Nat → Option Nat)
def xtyp : Nat → Nat → FieldType := fun c => match c with
  | 0 => tyX0
  | 1 => tyX1
  | 2 => tyX2
  | 3 => tyX3
  | 4 => tyX4
  | 5 => tyX5
  | 6 => tyX6
  | 7 => tyX7
  | 8 => tyX8
  | 9 => tyX9
  | 10 => tyX10
  | 11 => tyX11
  | _ => tyX12
def xisr : FieldType → Bool
  | .object _ => true
  | .array _ => true
  | _ => false
def xnf : Nat → Nat := fun c => match c with
  | 0 => 4
  | 1 => 15
  | 2 => 2
  | 3 => 13
  | 4 => 19
  | 5 => 4
  | 6 => 18
  | 7 => 3
  | 8 => 8
  | 9 => 8
  | 10 => 3
  | 11 => 16
  | _ => 86
def xfv (σ : xM) (a c k : Nat) : Value := if xisr (xtyp c k) = true then va_rf (σ.2.2.2.2 a k) else .int (σ.2.2.1 a k)
def xel (aC : Nat → ClassId) (σ : xM) (a : Nat) : va_E :=
  if (σ.2.1 a).1 < 13 then .inr ((σ.2.1 a).1, (List.range (xnf (σ.2.1 a).1)).map (xfv σ a (σ.2.1 a).1))
  else if (σ.2.1 a).1 < 16 then .inl (aC (σ.2.1 a).1, (σ.2.1 a).2, .inl (σ.2.2.1 a))
  else if (σ.2.1 a).1 < 19 then .inl (aC (σ.2.1 a).1, (σ.2.1 a).2, .inr (.inr (.inr (.inr (σ.2.2.2.2 a)))))
  else .inl (aC (σ.2.1 a).1, (σ.2.1 a).2, .inr (.inl (σ.2.2.2.1 a)))
def xwd (aC : Nat → ClassId) (σ : xM) : va_W := va_pl σ.1 (xel aC σ)
def xtys (aC : Nat → ClassId) : List (ClassId × FieldType) := [(aC 13, .char), (aC 14, .int), (aC 15, .boolean), (aC 16, .object RX2), (aC 17, .object RX9), (aC 18, .array .int), (aC 19, .long)]
def xA (b : Nat) : Nat → Prop := fun q => b ≤ q
/-- the words that hold at every method's start -/
def xTB : List Cond := lw_tbl.filter goodWord
theorem xTB_in {w : Cond} (h : w ∈ lw_tbl) (g : goodWord w = true) : w ∈ xTB := List.mem_filter.mpr ⟨h, g⟩
theorem xTB_good : GoodIn xTB xTB := goodIn_sub (fun _ h => h) (List.all_eq_true.mpr fun w h => (List.mem_filter.mp h).2)
/-- a method: its class, its name, its code, its locals, what it returns -/
abbrev xJ : Type := String × MethodName × ByteArray × Nat × Option FieldType
def xws (J : xJ) : List Cond := Cond.code J.2.1 J.2.2.1 J.2.2.2.1 J.2.2.2.2 :: xTB
/-- what is the same for all methods of a run: the launch, the classes' and rows' numbers, where the run's own cells begin -/
abbrev xG : Type := Launch × va_G × (Nat → ClassId) × Nat
def xroom (d mc ms : Nat) : Room := { frames := d, cells := mc, slots := ms, locals := 64 * d }
/-- what holds of a state beside its heap's cells -/
def xKn (G : xG) (U : State) : Prop := va_K G.2.1 vwCl (xtys G.2.2.1) U ∧ G.2.2.2 ≤ U.heap.size
/-- a heap holds the memory -/
def xHd (G : xG) (σ : xM) (H : Heap) : Prop := va_P G.2.1 vwCl (xwd G.2.2.1 σ) H ∧ va_D (xA G.2.2.2) (xwd G.2.2.1 σ)
abbrev xQ : Type := Option Value ⊕ String → xM → Prop
def xQc (G : xG) (Q : xQ) : Array Value → State → Outcome → State → Prop := fun _ st o t => ∃ (v : Option Value) (σ : xM), o = .returned v ∧ Q (.inl v) σ ∧ xHd G σ t.heap ∧ xKn G t ∧ va_F (xA G.2.2.2) st t
def xXC (G : xG) (Q : xQ) : String → State → State → Prop := fun E st t => ∃ σ : xM, Q (.inr E) σ ∧ xHd G σ t.heap ∧ xKn G t ∧ va_F (xA G.2.2.2) st t
/-- the context of a method's body -/
def xCx (G : xG) (J : xJ) (p : Program) (s : State) (m : MethodId) (args : Array Value) (meth : Method) (c : Code) : Prop :=
  p.tables.exec = Jvm.exec ∧ c.code = J.2.2.1 ∧ meth.sig.returnType = J.2.2.2.2 ∧ c.maxLocals = J.2.2.2.1 ∧ s.vm.findClass J.1 = some m.cls ∧ (∀ w ∈ xws J, w.before args s = true) ∧ xKn G s ∧ meth.locks = false ∧ (J.2.1.name = "<init>" → meth.name = "<init>") ∧ (∀ x ∈ c.exceptionTable.toList, False)
/-- from this place of the method, with these locals, this stack, this memory, at most so many calls deep, with at most so many new cells and slots, it comes to an end with Q -/
def xMach (G : xG) (J : xJ) (d C Z pc : Nat) (L : List (Nat × Value)) (S : List Value) (σ : xM) (Q : xQ) : Prop :=
  ∀ (p : Program) (e : Env) (s : State) (m : MethodId) (args : Array Value) (below : List Frame) (meth : Method) (c : Code) (H : Heap) (locs : List Loc) (cells slots mc ms : Nat) (ls : Array Slot),
    xCx G J p s m args meth c → xHd G σ H → va_S (xA G.2.2.2) s.heap H locs → lv_has ls J.2.2.2.1 L → cells + C ≤ mc → slots + Z ≤ ms →
    W p G.1 e (xroom d mc ms) s m args below meth c H locs cells slots (vx_MQ below (xQc G Q) (xXC G Q) args s mc ms (xA G.2.2.2)) (F0 m pc ls S)
/-! pure instructions, by one function -/
def xput (i : Nat) (v : Value) (L : List (Nat × Value)) : List (Nat × Value) := (i, v) :: L.filter (fun q => !(q.1 == i) && !(q.1 + 1 == i && q.2.category == 2))
def xput2 (i : Nat) (v : Value) (L : List (Nat × Value)) : List (Nat × Value) := (i, v) :: L.filter (fun q => !(q.1 == i) && (!(q.1 == i + 1) && !(q.1 + 1 == i && q.2.category == 2)))
def xget (i : Nat) : List (Nat × Value) → Option Value
  | [] => none
  | q :: r => if q.1 = i then some q.2 else xget i r
theorem xget_in {i : Nat} {v : Value} : ∀ {L : List (Nat × Value)}, xget i L = some v → (i, v) ∈ L
  | q :: r, h => by
    unfold xget at h
    by_cases e : q.1 = i
    · rw [if_pos e] at h
      cases h
      subst e
      exact List.mem_cons_self
    · rw [if_neg e] at h
      exact List.mem_cons_of_mem _ (xget_in h)
section XP
variable {G : xG} {J : xJ} {d C C9 Z pc : Nat} {L : List (Nat × Value)} {S : List Value} {σ : xM} {Q : xQ}

theorem xm_iconst {n : Int} {v : Int32} (h : decode J.2.2.1 pc = .ok (.iconst n, 1)) (hv : Int32.ofInt n = v) (k : xMach G J d C Z (pc + 1) L (.int v :: S) σ Q) : xMach G J d C Z pc L (S) σ Q :=
  fun p e s m args below meth c H locs cells slots mc ms ls a1 a2 a3 a4 a5 a6 => lv_iconst a1.1 a1.2.1 h hv (k p e s m args below meth c H locs cells slots mc ms ls a1 a2 a3 a4 a5 a6)
theorem xm_bipush {n : Int} {v : Int32} (h : decode J.2.2.1 pc = .ok (.bipush n, 2)) (hv : (Int8.ofInt n).toInt32 = v) (k : xMach G J d C Z (pc + 2) L (.int v :: S) σ Q) : xMach G J d C Z pc L (S) σ Q :=
  fun p e s m args below meth c H locs cells slots mc ms ls a1 a2 a3 a4 a5 a6 => lv_bipush a1.1 a1.2.1 h hv (k p e s m args below meth c H locs cells slots mc ms ls a1 a2 a3 a4 a5 a6)
theorem xm_sipush {n : Int} {v : Int32} (h : decode J.2.2.1 pc = .ok (.sipush n, 3)) (hv : (Int16.ofInt n).toInt32 = v) (k : xMach G J d C Z (pc + 3) L (.int v :: S) σ Q) : xMach G J d C Z pc L (S) σ Q :=
  fun p e s m args below meth c H locs cells slots mc ms ls a1 a2 a3 a4 a5 a6 => lv_sipush a1.1 a1.2.1 h hv (k p e s m args below meth c H locs cells slots mc ms ls a1 a2 a3 a4 a5 a6)
theorem xm_lconst {n : Fin 2} {v : Int64} (h : decode J.2.2.1 pc = .ok (.lconst n, 1)) (hv : Int64.ofNat (n : Nat) = v) (k : xMach G J d C Z (pc + 1) L (.long v :: S) σ Q) : xMach G J d C Z pc L (S) σ Q :=
  fun p e s m args below meth c H locs cells slots mc ms ls a1 a2 a3 a4 a5 a6 => lv_lconst a1.1 a1.2.1 h hv (k p e s m args below meth c H locs cells slots mc ms ls a1 a2 a3 a4 a5 a6)
theorem xm_null  (h : decode J.2.2.1 pc = .ok (.aconst_null, 1))  (k : xMach G J d C Z (pc + 1) L (.null :: S) σ Q) : xMach G J d C Z pc L (S) σ Q :=
  fun p e s m args below meth c H locs cells slots mc ms ls a1 a2 a3 a4 a5 a6 => lv_null a1.1 a1.2.1 h  (k p e s m args below meth c H locs cells slots mc ms ls a1 a2 a3 a4 a5 a6)
theorem xm_iadd {x y : Int32} (h : decode J.2.2.1 pc = .ok (.iadd, 1))  (k : xMach G J d C Z (pc + 1) L (.int (x + y) :: S) σ Q) : xMach G J d C Z pc L (.int y :: .int x :: S) σ Q :=
  fun p e s m args below meth c H locs cells slots mc ms ls a1 a2 a3 a4 a5 a6 => lv_iadd a1.1 a1.2.1 h  (k p e s m args below meth c H locs cells slots mc ms ls a1 a2 a3 a4 a5 a6)
theorem xm_isub {x y : Int32} (h : decode J.2.2.1 pc = .ok (.isub, 1))  (k : xMach G J d C Z (pc + 1) L (.int (x - y) :: S) σ Q) : xMach G J d C Z pc L (.int y :: .int x :: S) σ Q :=
  fun p e s m args below meth c H locs cells slots mc ms ls a1 a2 a3 a4 a5 a6 => lv_isub a1.1 a1.2.1 h  (k p e s m args below meth c H locs cells slots mc ms ls a1 a2 a3 a4 a5 a6)
theorem xm_imul {x y : Int32} (h : decode J.2.2.1 pc = .ok (.imul, 1))  (k : xMach G J d C Z (pc + 1) L (.int (x * y) :: S) σ Q) : xMach G J d C Z pc L (.int y :: .int x :: S) σ Q :=
  fun p e s m args below meth c H locs cells slots mc ms ls a1 a2 a3 a4 a5 a6 => lv_imul a1.1 a1.2.1 h  (k p e s m args below meth c H locs cells slots mc ms ls a1 a2 a3 a4 a5 a6)
theorem xm_iand {x y : Int32} (h : decode J.2.2.1 pc = .ok (.iand, 1))  (k : xMach G J d C Z (pc + 1) L (.int (x &&& y) :: S) σ Q) : xMach G J d C Z pc L (.int y :: .int x :: S) σ Q :=
  fun p e s m args below meth c H locs cells slots mc ms ls a1 a2 a3 a4 a5 a6 => lv_iand a1.1 a1.2.1 h  (k p e s m args below meth c H locs cells slots mc ms ls a1 a2 a3 a4 a5 a6)
theorem xm_ior {x y : Int32} (h : decode J.2.2.1 pc = .ok (.ior, 1))  (k : xMach G J d C Z (pc + 1) L (.int (x ||| y) :: S) σ Q) : xMach G J d C Z pc L (.int y :: .int x :: S) σ Q :=
  fun p e s m args below meth c H locs cells slots mc ms ls a1 a2 a3 a4 a5 a6 => lv_ior a1.1 a1.2.1 h  (k p e s m args below meth c H locs cells slots mc ms ls a1 a2 a3 a4 a5 a6)
theorem xm_ixor {x y : Int32} (h : decode J.2.2.1 pc = .ok (.ixor, 1))  (k : xMach G J d C Z (pc + 1) L (.int (x ^^^ y) :: S) σ Q) : xMach G J d C Z pc L (.int y :: .int x :: S) σ Q :=
  fun p e s m args below meth c H locs cells slots mc ms ls a1 a2 a3 a4 a5 a6 => lv_ixor a1.1 a1.2.1 h  (k p e s m args below meth c H locs cells slots mc ms ls a1 a2 a3 a4 a5 a6)
theorem xm_ishl {x y : Int32} (h : decode J.2.2.1 pc = .ok (.ishl, 1))  (k : xMach G J d C Z (pc + 1) L (.int (x <<< (y &&& 31)) :: S) σ Q) : xMach G J d C Z pc L (.int y :: .int x :: S) σ Q :=
  fun p e s m args below meth c H locs cells slots mc ms ls a1 a2 a3 a4 a5 a6 => lv_ishl a1.1 a1.2.1 h  (k p e s m args below meth c H locs cells slots mc ms ls a1 a2 a3 a4 a5 a6)
theorem xm_ishr {x y : Int32} (h : decode J.2.2.1 pc = .ok (.ishr, 1))  (k : xMach G J d C Z (pc + 1) L (.int (x >>> (y &&& 31)) :: S) σ Q) : xMach G J d C Z pc L (.int y :: .int x :: S) σ Q :=
  fun p e s m args below meth c H locs cells slots mc ms ls a1 a2 a3 a4 a5 a6 => lv_ishr a1.1 a1.2.1 h  (k p e s m args below meth c H locs cells slots mc ms ls a1 a2 a3 a4 a5 a6)
theorem xm_idiv {x y : Int32} (h : decode J.2.2.1 pc = .ok (.idiv, 1)) (hne : ¬ y = 0) (k : xMach G J d C Z (pc + 1) L (.int (x / y) :: S) σ Q) : xMach G J d C Z pc L (.int y :: .int x :: S) σ Q :=
  fun p e s m args below meth c H locs cells slots mc ms ls a1 a2 a3 a4 a5 a6 => lv_idiv a1.1 a1.2.1 h hne (k p e s m args below meth c H locs cells slots mc ms ls a1 a2 a3 a4 a5 a6)
theorem xm_irem {x y : Int32} (h : decode J.2.2.1 pc = .ok (.irem, 1)) (hne : ¬ y = 0) (k : xMach G J d C Z (pc + 1) L (.int (x - x / y * y) :: S) σ Q) : xMach G J d C Z pc L (.int y :: .int x :: S) σ Q :=
  fun p e s m args below meth c H locs cells slots mc ms ls a1 a2 a3 a4 a5 a6 => lv_irem a1.1 a1.2.1 h hne (k p e s m args below meth c H locs cells slots mc ms ls a1 a2 a3 a4 a5 a6)
theorem xm_ineg {x : Int32} (h : decode J.2.2.1 pc = .ok (.ineg, 1))  (k : xMach G J d C Z (pc + 1) L (.int (-x) :: S) σ Q) : xMach G J d C Z pc L (.int x :: S) σ Q :=
  fun p e s m args below meth c H locs cells slots mc ms ls a1 a2 a3 a4 a5 a6 => lv_ineg a1.1 a1.2.1 h  (k p e s m args below meth c H locs cells slots mc ms ls a1 a2 a3 a4 a5 a6)
theorem xm_iushr {x y v : Int32} (h : decode J.2.2.1 pc = .ok (.iushr, 1)) (hv : (x.toUInt32 >>> (y.toUInt32 &&& Int32.toUInt32 31)).toInt32 = v) (k : xMach G J d C Z (pc + 1) L (.int v :: S) σ Q) : xMach G J d C Z pc L (.int y :: .int x :: S) σ Q :=
  fun p e s m args below meth c H locs cells slots mc ms ls a1 a2 a3 a4 a5 a6 => lv_iushr a1.1 a1.2.1 h hv (k p e s m args below meth c H locs cells slots mc ms ls a1 a2 a3 a4 a5 a6)
theorem xm_ladd {x y : Int64} (h : decode J.2.2.1 pc = .ok (.ladd, 1))  (k : xMach G J d C Z (pc + 1) L (.long (x + y) :: S) σ Q) : xMach G J d C Z pc L (.long y :: .long x :: S) σ Q :=
  fun p e s m args below meth c H locs cells slots mc ms ls a1 a2 a3 a4 a5 a6 => lv_ladd a1.1 a1.2.1 h  (k p e s m args below meth c H locs cells slots mc ms ls a1 a2 a3 a4 a5 a6)
theorem xm_lsub {x y : Int64} (h : decode J.2.2.1 pc = .ok (.lsub, 1))  (k : xMach G J d C Z (pc + 1) L (.long (x - y) :: S) σ Q) : xMach G J d C Z pc L (.long y :: .long x :: S) σ Q :=
  fun p e s m args below meth c H locs cells slots mc ms ls a1 a2 a3 a4 a5 a6 => lv_lsub a1.1 a1.2.1 h  (k p e s m args below meth c H locs cells slots mc ms ls a1 a2 a3 a4 a5 a6)
theorem xm_lmul {x y : Int64} (h : decode J.2.2.1 pc = .ok (.lmul, 1))  (k : xMach G J d C Z (pc + 1) L (.long (x * y) :: S) σ Q) : xMach G J d C Z pc L (.long y :: .long x :: S) σ Q :=
  fun p e s m args below meth c H locs cells slots mc ms ls a1 a2 a3 a4 a5 a6 => lv_lmul a1.1 a1.2.1 h  (k p e s m args below meth c H locs cells slots mc ms ls a1 a2 a3 a4 a5 a6)
theorem xm_land {x y : Int64} (h : decode J.2.2.1 pc = .ok (.land, 1))  (k : xMach G J d C Z (pc + 1) L (.long (x &&& y) :: S) σ Q) : xMach G J d C Z pc L (.long y :: .long x :: S) σ Q :=
  fun p e s m args below meth c H locs cells slots mc ms ls a1 a2 a3 a4 a5 a6 => lv_land a1.1 a1.2.1 h  (k p e s m args below meth c H locs cells slots mc ms ls a1 a2 a3 a4 a5 a6)
theorem xm_lor {x y : Int64} (h : decode J.2.2.1 pc = .ok (.lor, 1))  (k : xMach G J d C Z (pc + 1) L (.long (x ||| y) :: S) σ Q) : xMach G J d C Z pc L (.long y :: .long x :: S) σ Q :=
  fun p e s m args below meth c H locs cells slots mc ms ls a1 a2 a3 a4 a5 a6 => lv_lor a1.1 a1.2.1 h  (k p e s m args below meth c H locs cells slots mc ms ls a1 a2 a3 a4 a5 a6)
theorem xm_lxor {x y : Int64} (h : decode J.2.2.1 pc = .ok (.lxor, 1))  (k : xMach G J d C Z (pc + 1) L (.long (x ^^^ y) :: S) σ Q) : xMach G J d C Z pc L (.long y :: .long x :: S) σ Q :=
  fun p e s m args below meth c H locs cells slots mc ms ls a1 a2 a3 a4 a5 a6 => lv_lxor a1.1 a1.2.1 h  (k p e s m args below meth c H locs cells slots mc ms ls a1 a2 a3 a4 a5 a6)
theorem xm_ldiv {x y : Int64} (h : decode J.2.2.1 pc = .ok (.ldiv, 1)) (hne : ¬ y = 0) (k : xMach G J d C Z (pc + 1) L (.long (x / y) :: S) σ Q) : xMach G J d C Z pc L (.long y :: .long x :: S) σ Q :=
  fun p e s m args below meth c H locs cells slots mc ms ls a1 a2 a3 a4 a5 a6 => lv_ldiv a1.1 a1.2.1 h hne (k p e s m args below meth c H locs cells slots mc ms ls a1 a2 a3 a4 a5 a6)
theorem xm_lrem {x y : Int64} (h : decode J.2.2.1 pc = .ok (.lrem, 1)) (hne : ¬ y = 0) (k : xMach G J d C Z (pc + 1) L (.long (x - x / y * y) :: S) σ Q) : xMach G J d C Z pc L (.long y :: .long x :: S) σ Q :=
  fun p e s m args below meth c H locs cells slots mc ms ls a1 a2 a3 a4 a5 a6 => lv_lrem a1.1 a1.2.1 h hne (k p e s m args below meth c H locs cells slots mc ms ls a1 a2 a3 a4 a5 a6)
theorem xm_lneg {x : Int64} (h : decode J.2.2.1 pc = .ok (.lneg, 1))  (k : xMach G J d C Z (pc + 1) L (.long (-x) :: S) σ Q) : xMach G J d C Z pc L (.long x :: S) σ Q :=
  fun p e s m args below meth c H locs cells slots mc ms ls a1 a2 a3 a4 a5 a6 => lv_lneg a1.1 a1.2.1 h  (k p e s m args below meth c H locs cells slots mc ms ls a1 a2 a3 a4 a5 a6)
theorem xm_lshl {x v : Int64} {y : Int32} (h : decode J.2.2.1 pc = .ok (.lshl, 1)) (hv : x <<< (y.toInt64 &&& 63) = v) (k : xMach G J d C Z (pc + 1) L (.long v :: S) σ Q) : xMach G J d C Z pc L (.int y :: .long x :: S) σ Q :=
  fun p e s m args below meth c H locs cells slots mc ms ls a1 a2 a3 a4 a5 a6 => lv_lshl a1.1 a1.2.1 h hv (k p e s m args below meth c H locs cells slots mc ms ls a1 a2 a3 a4 a5 a6)
theorem xm_lshr {x v : Int64} {y : Int32} (h : decode J.2.2.1 pc = .ok (.lshr, 1)) (hv : x >>> (y.toInt64 &&& 63) = v) (k : xMach G J d C Z (pc + 1) L (.long v :: S) σ Q) : xMach G J d C Z pc L (.int y :: .long x :: S) σ Q :=
  fun p e s m args below meth c H locs cells slots mc ms ls a1 a2 a3 a4 a5 a6 => lv_lshr a1.1 a1.2.1 h hv (k p e s m args below meth c H locs cells slots mc ms ls a1 a2 a3 a4 a5 a6)
theorem xm_i2l {x : Int32} {v : Int64} (h : decode J.2.2.1 pc = .ok (.i2l, 1)) (hv : x.toInt64 = v) (k : xMach G J d C Z (pc + 1) L (.long v :: S) σ Q) : xMach G J d C Z pc L (.int x :: S) σ Q :=
  fun p e s m args below meth c H locs cells slots mc ms ls a1 a2 a3 a4 a5 a6 => lv_i2l a1.1 a1.2.1 h hv (k p e s m args below meth c H locs cells slots mc ms ls a1 a2 a3 a4 a5 a6)
theorem xm_l2i {x : Int64} {v : Int32} (h : decode J.2.2.1 pc = .ok (.l2i, 1)) (hv : x.toInt32 = v) (k : xMach G J d C Z (pc + 1) L (.int v :: S) σ Q) : xMach G J d C Z pc L (.long x :: S) σ Q :=
  fun p e s m args below meth c H locs cells slots mc ms ls a1 a2 a3 a4 a5 a6 => lv_l2i a1.1 a1.2.1 h hv (k p e s m args below meth c H locs cells slots mc ms ls a1 a2 a3 a4 a5 a6)
theorem xm_i2c {x v : Int32} (h : decode J.2.2.1 pc = .ok (.i2c, 1)) (hv : (x.toUInt32 % 65536).toInt32 = v) (k : xMach G J d C Z (pc + 1) L (.int v :: S) σ Q) : xMach G J d C Z pc L (.int x :: S) σ Q :=
  fun p e s m args below meth c H locs cells slots mc ms ls a1 a2 a3 a4 a5 a6 => lv_i2c a1.1 a1.2.1 h hv (k p e s m args below meth c H locs cells slots mc ms ls a1 a2 a3 a4 a5 a6)
theorem xm_lcmp {x y : Int64} (h : decode J.2.2.1 pc = .ok (.lcmp, 1))  (k : xMach G J d C Z (pc + 1) L (.int (lg_cmp x y) :: S) σ Q) : xMach G J d C Z pc L (.long y :: .long x :: S) σ Q :=
  fun p e s m args below meth c H locs cells slots mc ms ls a1 a2 a3 a4 a5 a6 => W.lcmp a1.1 a1.2.1 h  (k p e s m args below meth c H locs cells slots mc ms ls a1 a2 a3 a4 a5 a6)
theorem xm_dup {a : Value} (h : decode J.2.2.1 pc = .ok (.dup, 1)) (hc : a.category = 1) (k : xMach G J d C Z (pc + 1) L (a :: a :: S) σ Q) : xMach G J d C Z pc L (a :: S) σ Q :=
  fun p e s m args below meth c H locs cells slots mc ms ls a1 a2 a3 a4 a5 a6 => lv_dup a1.1 a1.2.1 h hc (k p e s m args below meth c H locs cells slots mc ms ls a1 a2 a3 a4 a5 a6)
theorem xm_pop {a : Value} (h : decode J.2.2.1 pc = .ok (.pop, 1)) (hc : a.category = 1) (k : xMach G J d C Z (pc + 1) L (S) σ Q) : xMach G J d C Z pc L (a :: S) σ Q :=
  fun p e s m args below meth c H locs cells slots mc ms ls a1 a2 a3 a4 a5 a6 => lv_pop a1.1 a1.2.1 h hc (k p e s m args below meth c H locs cells slots mc ms ls a1 a2 a3 a4 a5 a6)
theorem xm_dup2 {a b : Value} (h : decode J.2.2.1 pc = .ok (.dup2, 1)) (ha : a.category = 1) (hb : b.category = 1) (k : xMach G J d C Z (pc + 1) L (a :: b :: a :: b :: S) σ Q) : xMach G J d C Z pc L (a :: b :: S) σ Q :=
  fun p e s m args below meth c H locs cells slots mc ms ls a1 a2 a3 a4 a5 a6 => lv_dup2_11 a1.1 a1.2.1 h ha hb (k p e s m args below meth c H locs cells slots mc ms ls a1 a2 a3 a4 a5 a6)
theorem xm_dup2l {x : Int64} (h : decode J.2.2.1 pc = .ok (.dup2, 1))  (k : xMach G J d C Z (pc + 1) L (.long x :: .long x :: S) σ Q) : xMach G J d C Z pc L (.long x :: S) σ Q :=
  fun p e s m args below meth c H locs cells slots mc ms ls a1 a2 a3 a4 a5 a6 => lv_dup2_2 a1.1 a1.2.1 h rfl (k p e s m args below meth c H locs cells slots mc ms ls a1 a2 a3 a4 a5 a6)
theorem xm_dup_x1 {a b : Value} (h : decode J.2.2.1 pc = .ok (.dup_x1, 1)) (ha : a.category = 1) (hb : b.category = 1) (k : xMach G J d C Z (pc + 1) L (a :: b :: a :: S) σ Q) : xMach G J d C Z pc L (a :: b :: S) σ Q :=
  fun p e s m args below meth c H locs cells slots mc ms ls a1 a2 a3 a4 a5 a6 => lv_dup_x1 a1.1 a1.2.1 h ha hb (k p e s m args below meth c H locs cells slots mc ms ls a1 a2 a3 a4 a5 a6)
theorem xm_ldc {idx : Nat} {v : Int32} (h : decode J.2.2.1 pc = .ok (.ldc idx, 2)) (hw : Cond.constant J.1 idx v ∈ xws J) (k : xMach G J d C Z (pc + 2) L (.int v :: S) σ Q) : xMach G J d C Z pc L S σ Q :=
  fun p e s m args below meth c H locs cells slots mc ms ls a1 a2 a3 a4 a5 a6 => lv_ldc a1.1 a1.2.1 a1.2.2.2.2.1 (a1.2.2.2.2.2.1 _ hw) h (k p e s m args below meth c H locs cells slots mc ms ls a1 a2 a3 a4 a5 a6)
theorem xm_ldc2 {idx : Nat} {v : Int64} (h : decode J.2.2.1 pc = .ok (.ldc2_w idx, 3)) (hw : Cond.constantLong J.1 idx v ∈ xws J) (k : xMach G J d C Z (pc + 3) L (.long v :: S) σ Q) : xMach G J d C Z pc L S σ Q :=
  fun p e s m args below meth c H locs cells slots mc ms ls a1 a2 a3 a4 a5 a6 => lv_ldc2 a1.1 a1.2.1 a1.2.2.2.2.1 (a1.2.2.2.2.2.1 _ hw) h (k p e s m args below meth c H locs cells slots mc ms ls a1 a2 a3 a4 a5 a6)
theorem xm_iload {i : Nat} {x : Int32} (h : decode J.2.2.1 pc = .ok (.iload i, 2)) (hx : xget i L = some (.int x)) (k : xMach G J d C Z (pc + 2) L (.int x :: S) σ Q) : xMach G J d C Z pc L S σ Q :=
  fun p e s m args below meth c H locs cells slots mc ms ls a1 a2 a3 a4 a5 a6 => lv_iload a1.1 a1.2.1 h (a4.2.2 _ (xget_in hx)) (k p e s m args below meth c H locs cells slots mc ms ls a1 a2 a3 a4 a5 a6)
theorem xm_iload_n {i : Fin 4} {x : Int32} (h : decode J.2.2.1 pc = .ok (.iload_n i, 1)) (hx : xget (i : Nat) L = some (.int x)) (k : xMach G J d C Z (pc + 1) L (.int x :: S) σ Q) : xMach G J d C Z pc L S σ Q :=
  fun p e s m args below meth c H locs cells slots mc ms ls a1 a2 a3 a4 a5 a6 => lv_iload_n a1.1 a1.2.1 h rfl (a4.2.2 _ (xget_in hx)) (k p e s m args below meth c H locs cells slots mc ms ls a1 a2 a3 a4 a5 a6)
theorem xm_lload {i : Nat} {x : Int64} (h : decode J.2.2.1 pc = .ok (.lload i, 2)) (hx : xget i L = some (.long x)) (k : xMach G J d C Z (pc + 2) L (.long x :: S) σ Q) : xMach G J d C Z pc L S σ Q :=
  fun p e s m args below meth c H locs cells slots mc ms ls a1 a2 a3 a4 a5 a6 => lv_lload a1.1 a1.2.1 h (a4.2.2 _ (xget_in hx)) (k p e s m args below meth c H locs cells slots mc ms ls a1 a2 a3 a4 a5 a6)
theorem xm_lload_n {i : Fin 4} {x : Int64} (h : decode J.2.2.1 pc = .ok (.lload_n i, 1)) (hx : xget (i : Nat) L = some (.long x)) (k : xMach G J d C Z (pc + 1) L (.long x :: S) σ Q) : xMach G J d C Z pc L S σ Q :=
  fun p e s m args below meth c H locs cells slots mc ms ls a1 a2 a3 a4 a5 a6 => lv_lload_n a1.1 a1.2.1 h rfl (a4.2.2 _ (xget_in hx)) (k p e s m args below meth c H locs cells slots mc ms ls a1 a2 a3 a4 a5 a6)
theorem xm_aload {i : Nat} {x : Nat} (h : decode J.2.2.1 pc = .ok (.aload i, 2)) (hx : xget i L = some (.ref x)) (k : xMach G J d C Z (pc + 2) L (.ref x :: S) σ Q) : xMach G J d C Z pc L S σ Q :=
  fun p e s m args below meth c H locs cells slots mc ms ls a1 a2 a3 a4 a5 a6 => lv_aload a1.1 a1.2.1 h (a4.2.2 _ (xget_in hx)) (k p e s m args below meth c H locs cells slots mc ms ls a1 a2 a3 a4 a5 a6)
theorem xm_aload_n {i : Fin 4} {x : Nat} (h : decode J.2.2.1 pc = .ok (.aload_n i, 1)) (hx : xget (i : Nat) L = some (.ref x)) (k : xMach G J d C Z (pc + 1) L (.ref x :: S) σ Q) : xMach G J d C Z pc L S σ Q :=
  fun p e s m args below meth c H locs cells slots mc ms ls a1 a2 a3 a4 a5 a6 => lv_aload_n a1.1 a1.2.1 h rfl (a4.2.2 _ (xget_in hx)) (k p e s m args below meth c H locs cells slots mc ms ls a1 a2 a3 a4 a5 a6)
theorem xm_aloadN {i : Nat} (h : decode J.2.2.1 pc = .ok (.aload i, 2)) (hx : xget i L = some .null) (k : xMach G J d C Z (pc + 2) L (.null :: S) σ Q) : xMach G J d C Z pc L S σ Q :=
  fun p e s m args below meth c H locs cells slots mc ms ls a1 a2 a3 a4 a5 a6 => lv_aloadN a1.1 a1.2.1 h (a4.2.2 _ (xget_in hx)) (k p e s m args below meth c H locs cells slots mc ms ls a1 a2 a3 a4 a5 a6)
theorem xm_aload_nN {i : Fin 4} (h : decode J.2.2.1 pc = .ok (.aload_n i, 1)) (hx : xget (i : Nat) L = some .null) (k : xMach G J d C Z (pc + 1) L (.null :: S) σ Q) : xMach G J d C Z pc L S σ Q :=
  fun p e s m args below meth c H locs cells slots mc ms ls a1 a2 a3 a4 a5 a6 => lv_aload_nN a1.1 a1.2.1 h rfl (a4.2.2 _ (xget_in hx)) (k p e s m args below meth c H locs cells slots mc ms ls a1 a2 a3 a4 a5 a6)
theorem xm_istore {i : Nat} {x : Int32} (h : decode J.2.2.1 pc = .ok (.istore i, 2)) (hn : i < J.2.2.2.1) (k : xMach G J d C Z (pc + 2) (xput i (.int x) L) S σ Q) : xMach G J d C Z pc L (.int x :: S) σ Q :=
  fun p e s m args below meth c H locs cells slots mc ms ls a1 a2 a3 a4 a5 a6 => lv_istore a1.1 a1.2.1 h a4 hn rfl (fun ls' a7 => k p e s m args below meth c H locs cells slots mc ms ls' a1 a2 a3 a7 a5 a6)
theorem xm_istore_n {i : Fin 4} {x : Int32} (h : decode J.2.2.1 pc = .ok (.istore_n i, 1)) (hn : (i : Nat) < J.2.2.2.1) (k : xMach G J d C Z (pc + 1) (xput (i : Nat) (.int x) L) S σ Q) : xMach G J d C Z pc L (.int x :: S) σ Q :=
  fun p e s m args below meth c H locs cells slots mc ms ls a1 a2 a3 a4 a5 a6 => lv_istore_n a1.1 a1.2.1 h rfl a4 hn rfl (fun ls' a7 => k p e s m args below meth c H locs cells slots mc ms ls' a1 a2 a3 a7 a5 a6)
theorem xm_astore {i : Nat} {x : Nat} (h : decode J.2.2.1 pc = .ok (.astore i, 2)) (hn : i < J.2.2.2.1) (k : xMach G J d C Z (pc + 2) (xput i (.ref x) L) S σ Q) : xMach G J d C Z pc L (.ref x :: S) σ Q :=
  fun p e s m args below meth c H locs cells slots mc ms ls a1 a2 a3 a4 a5 a6 => lv_astore a1.1 a1.2.1 h a4 hn rfl (fun ls' a7 => k p e s m args below meth c H locs cells slots mc ms ls' a1 a2 a3 a7 a5 a6)
theorem xm_astore_n {i : Fin 4} {x : Nat} (h : decode J.2.2.1 pc = .ok (.astore_n i, 1)) (hn : (i : Nat) < J.2.2.2.1) (k : xMach G J d C Z (pc + 1) (xput (i : Nat) (.ref x) L) S σ Q) : xMach G J d C Z pc L (.ref x :: S) σ Q :=
  fun p e s m args below meth c H locs cells slots mc ms ls a1 a2 a3 a4 a5 a6 => lv_astore_n a1.1 a1.2.1 h rfl a4 hn rfl (fun ls' a7 => k p e s m args below meth c H locs cells slots mc ms ls' a1 a2 a3 a7 a5 a6)
theorem xm_lstore {i : Nat} {x : Int64} (h : decode J.2.2.1 pc = .ok (.lstore i, 2)) (hn : i + 1 < J.2.2.2.1) (k : xMach G J d C Z (pc + 2) (xput2 i (.long x) L) S σ Q) : xMach G J d C Z pc L (.long x :: S) σ Q :=
  fun p e s m args below meth c H locs cells slots mc ms ls a1 a2 a3 a4 a5 a6 => lv_lstore a1.1 a1.2.1 h a4 hn rfl (fun ls' a7 => k p e s m args below meth c H locs cells slots mc ms ls' a1 a2 a3 a7 a5 a6)
theorem xm_lstore_n {i : Fin 4} {x : Int64} (h : decode J.2.2.1 pc = .ok (.lstore_n i, 1)) (hn : (i : Nat) + 1 < J.2.2.2.1) (k : xMach G J d C Z (pc + 1) (xput2 (i : Nat) (.long x) L) S σ Q) : xMach G J d C Z pc L (.long x :: S) σ Q :=
  fun p e s m args below meth c H locs cells slots mc ms ls a1 a2 a3 a4 a5 a6 => lv_lstore_n a1.1 a1.2.1 h rfl a4 hn rfl (fun ls' a7 => k p e s m args below meth c H locs cells slots mc ms ls' a1 a2 a3 a7 a5 a6)
theorem xm_astoreN {i : Nat} (h : decode J.2.2.1 pc = .ok (.astore i, 2)) (hn : i < J.2.2.2.1) (k : xMach G J d C Z (pc + 2) (xput i .null L) S σ Q) : xMach G J d C Z pc L (.null :: S) σ Q :=
  fun p e s m args below meth c H locs cells slots mc ms ls a1 a2 a3 a4 a5 a6 => lv_astoreN a1.1 a1.2.1 h a4 hn rfl (fun ls' a7 => k p e s m args below meth c H locs cells slots mc ms ls' a1 a2 a3 a7 a5 a6)
theorem xm_astore_nN {i : Fin 4} (h : decode J.2.2.1 pc = .ok (.astore_n i, 1)) (hn : (i : Nat) < J.2.2.2.1) (k : xMach G J d C Z (pc + 1) (xput (i : Nat) .null L) S σ Q) : xMach G J d C Z pc L (.null :: S) σ Q :=
  fun p e s m args below meth c H locs cells slots mc ms ls a1 a2 a3 a4 a5 a6 => lv_astore_nN a1.1 a1.2.1 h rfl a4 hn rfl (fun ls' a7 => k p e s m args below meth c H locs cells slots mc ms ls' a1 a2 a3 a7 a5 a6)
theorem xm_iinc {i : Nat} {n : Int} {x v : Int32} (h : decode J.2.2.1 pc = .ok (.iinc i n, 3)) (hx : xget i L = some (.int x)) (hv : x + Int32.ofInt n = v) (hn : i < J.2.2.2.1) (k : xMach G J d C Z (pc + 3) (xput i (.int v) L) S σ Q) : xMach G J d C Z pc L S σ Q := by
  intro p e s m args below meth c H locs cells slots mc ms ls a1 a2 a3 a4 a5 a6
  obtain ⟨j, hj⟩ := List.getElem?_of_mem (xget_in hx)
  exact lv_iinc a1.1 a1.2.1 h a4 hj hv hn rfl (fun ls' a7 => k p e s m args below meth c H locs cells slots mc ms ls' a1 a2 a3 a7 a5 a6)
theorem xm_if_eq {x : Int32} {off : Int} (tgt : Nat) (h : decode J.2.2.1 pc = .ok (.ifCond .eq off, 3)) (ht : (pc : Int) + off = (tgt : Int)) (kt : x = 0 → xMach G J d C Z tgt L S σ Q) (kf : ¬ x = 0 → xMach G J d C Z (pc + 3) L S σ Q) : xMach G J d C Z pc L (.int x :: S) σ Q :=
  fun p e s m args below meth c H locs cells slots mc ms ls a1 a2 a3 a4 a5 a6 => lv_if_eq a1.1 a1.2.1 h ht (fun q => kt q p e s m args below meth c H locs cells slots mc ms ls a1 a2 a3 a4 a5 a6) (fun q => kf q p e s m args below meth c H locs cells slots mc ms ls a1 a2 a3 a4 a5 a6)
theorem xm_icmp_eq {x y : Int32} {off : Int} (tgt : Nat) (h : decode J.2.2.1 pc = .ok (.if_icmp .eq off, 3)) (ht : (pc : Int) + off = (tgt : Int)) (kt : x = y → xMach G J d C Z tgt L S σ Q) (kf : ¬ x = y → xMach G J d C Z (pc + 3) L S σ Q) : xMach G J d C Z pc L (.int y :: .int x :: S) σ Q :=
  fun p e s m args below meth c H locs cells slots mc ms ls a1 a2 a3 a4 a5 a6 => lv_icmp_eq a1.1 a1.2.1 h ht (fun q => kt q p e s m args below meth c H locs cells slots mc ms ls a1 a2 a3 a4 a5 a6) (fun q => kf q p e s m args below meth c H locs cells slots mc ms ls a1 a2 a3 a4 a5 a6)
theorem xm_if_ne {x : Int32} {off : Int} (tgt : Nat) (h : decode J.2.2.1 pc = .ok (.ifCond .ne off, 3)) (ht : (pc : Int) + off = (tgt : Int)) (kt : ¬ x = 0 → xMach G J d C Z tgt L S σ Q) (kf : x = 0 → xMach G J d C Z (pc + 3) L S σ Q) : xMach G J d C Z pc L (.int x :: S) σ Q :=
  fun p e s m args below meth c H locs cells slots mc ms ls a1 a2 a3 a4 a5 a6 => lv_if_ne a1.1 a1.2.1 h ht (fun q => kt q p e s m args below meth c H locs cells slots mc ms ls a1 a2 a3 a4 a5 a6) (fun q => kf q p e s m args below meth c H locs cells slots mc ms ls a1 a2 a3 a4 a5 a6)
theorem xm_icmp_ne {x y : Int32} {off : Int} (tgt : Nat) (h : decode J.2.2.1 pc = .ok (.if_icmp .ne off, 3)) (ht : (pc : Int) + off = (tgt : Int)) (kt : ¬ x = y → xMach G J d C Z tgt L S σ Q) (kf : x = y → xMach G J d C Z (pc + 3) L S σ Q) : xMach G J d C Z pc L (.int y :: .int x :: S) σ Q :=
  fun p e s m args below meth c H locs cells slots mc ms ls a1 a2 a3 a4 a5 a6 => lv_icmp_ne a1.1 a1.2.1 h ht (fun q => kt q p e s m args below meth c H locs cells slots mc ms ls a1 a2 a3 a4 a5 a6) (fun q => kf q p e s m args below meth c H locs cells slots mc ms ls a1 a2 a3 a4 a5 a6)
theorem xm_if_lt {x : Int32} {off : Int} (tgt : Nat) (h : decode J.2.2.1 pc = .ok (.ifCond .lt off, 3)) (ht : (pc : Int) + off = (tgt : Int)) (kt : x < 0 → xMach G J d C Z tgt L S σ Q) (kf : ¬ x < 0 → xMach G J d C Z (pc + 3) L S σ Q) : xMach G J d C Z pc L (.int x :: S) σ Q :=
  fun p e s m args below meth c H locs cells slots mc ms ls a1 a2 a3 a4 a5 a6 => lv_if_lt a1.1 a1.2.1 h ht (fun q => kt q p e s m args below meth c H locs cells slots mc ms ls a1 a2 a3 a4 a5 a6) (fun q => kf q p e s m args below meth c H locs cells slots mc ms ls a1 a2 a3 a4 a5 a6)
theorem xm_icmp_lt {x y : Int32} {off : Int} (tgt : Nat) (h : decode J.2.2.1 pc = .ok (.if_icmp .lt off, 3)) (ht : (pc : Int) + off = (tgt : Int)) (kt : x < y → xMach G J d C Z tgt L S σ Q) (kf : ¬ x < y → xMach G J d C Z (pc + 3) L S σ Q) : xMach G J d C Z pc L (.int y :: .int x :: S) σ Q :=
  fun p e s m args below meth c H locs cells slots mc ms ls a1 a2 a3 a4 a5 a6 => lv_icmp_lt a1.1 a1.2.1 h ht (fun q => kt q p e s m args below meth c H locs cells slots mc ms ls a1 a2 a3 a4 a5 a6) (fun q => kf q p e s m args below meth c H locs cells slots mc ms ls a1 a2 a3 a4 a5 a6)
theorem xm_if_ge {x : Int32} {off : Int} (tgt : Nat) (h : decode J.2.2.1 pc = .ok (.ifCond .ge off, 3)) (ht : (pc : Int) + off = (tgt : Int)) (kt : 0 ≤ x → xMach G J d C Z tgt L S σ Q) (kf : ¬ 0 ≤ x → xMach G J d C Z (pc + 3) L S σ Q) : xMach G J d C Z pc L (.int x :: S) σ Q :=
  fun p e s m args below meth c H locs cells slots mc ms ls a1 a2 a3 a4 a5 a6 => lv_if_ge a1.1 a1.2.1 h ht (fun q => kt q p e s m args below meth c H locs cells slots mc ms ls a1 a2 a3 a4 a5 a6) (fun q => kf q p e s m args below meth c H locs cells slots mc ms ls a1 a2 a3 a4 a5 a6)
theorem xm_icmp_ge {x y : Int32} {off : Int} (tgt : Nat) (h : decode J.2.2.1 pc = .ok (.if_icmp .ge off, 3)) (ht : (pc : Int) + off = (tgt : Int)) (kt : y ≤ x → xMach G J d C Z tgt L S σ Q) (kf : ¬ y ≤ x → xMach G J d C Z (pc + 3) L S σ Q) : xMach G J d C Z pc L (.int y :: .int x :: S) σ Q :=
  fun p e s m args below meth c H locs cells slots mc ms ls a1 a2 a3 a4 a5 a6 => lv_icmp_ge a1.1 a1.2.1 h ht (fun q => kt q p e s m args below meth c H locs cells slots mc ms ls a1 a2 a3 a4 a5 a6) (fun q => kf q p e s m args below meth c H locs cells slots mc ms ls a1 a2 a3 a4 a5 a6)
theorem xm_if_gt {x : Int32} {off : Int} (tgt : Nat) (h : decode J.2.2.1 pc = .ok (.ifCond .gt off, 3)) (ht : (pc : Int) + off = (tgt : Int)) (kt : 0 < x → xMach G J d C Z tgt L S σ Q) (kf : ¬ 0 < x → xMach G J d C Z (pc + 3) L S σ Q) : xMach G J d C Z pc L (.int x :: S) σ Q :=
  fun p e s m args below meth c H locs cells slots mc ms ls a1 a2 a3 a4 a5 a6 => lv_if_gt a1.1 a1.2.1 h ht (fun q => kt q p e s m args below meth c H locs cells slots mc ms ls a1 a2 a3 a4 a5 a6) (fun q => kf q p e s m args below meth c H locs cells slots mc ms ls a1 a2 a3 a4 a5 a6)
theorem xm_icmp_gt {x y : Int32} {off : Int} (tgt : Nat) (h : decode J.2.2.1 pc = .ok (.if_icmp .gt off, 3)) (ht : (pc : Int) + off = (tgt : Int)) (kt : y < x → xMach G J d C Z tgt L S σ Q) (kf : ¬ y < x → xMach G J d C Z (pc + 3) L S σ Q) : xMach G J d C Z pc L (.int y :: .int x :: S) σ Q :=
  fun p e s m args below meth c H locs cells slots mc ms ls a1 a2 a3 a4 a5 a6 => lv_icmp_gt a1.1 a1.2.1 h ht (fun q => kt q p e s m args below meth c H locs cells slots mc ms ls a1 a2 a3 a4 a5 a6) (fun q => kf q p e s m args below meth c H locs cells slots mc ms ls a1 a2 a3 a4 a5 a6)
theorem xm_if_le {x : Int32} {off : Int} (tgt : Nat) (h : decode J.2.2.1 pc = .ok (.ifCond .le off, 3)) (ht : (pc : Int) + off = (tgt : Int)) (kt : x ≤ 0 → xMach G J d C Z tgt L S σ Q) (kf : ¬ x ≤ 0 → xMach G J d C Z (pc + 3) L S σ Q) : xMach G J d C Z pc L (.int x :: S) σ Q :=
  fun p e s m args below meth c H locs cells slots mc ms ls a1 a2 a3 a4 a5 a6 => lv_if_le a1.1 a1.2.1 h ht (fun q => kt q p e s m args below meth c H locs cells slots mc ms ls a1 a2 a3 a4 a5 a6) (fun q => kf q p e s m args below meth c H locs cells slots mc ms ls a1 a2 a3 a4 a5 a6)
theorem xm_icmp_le {x y : Int32} {off : Int} (tgt : Nat) (h : decode J.2.2.1 pc = .ok (.if_icmp .le off, 3)) (ht : (pc : Int) + off = (tgt : Int)) (kt : x ≤ y → xMach G J d C Z tgt L S σ Q) (kf : ¬ x ≤ y → xMach G J d C Z (pc + 3) L S σ Q) : xMach G J d C Z pc L (.int y :: .int x :: S) σ Q :=
  fun p e s m args below meth c H locs cells slots mc ms ls a1 a2 a3 a4 a5 a6 => lv_icmp_le a1.1 a1.2.1 h ht (fun q => kt q p e s m args below meth c H locs cells slots mc ms ls a1 a2 a3 a4 a5 a6) (fun q => kf q p e s m args below meth c H locs cells slots mc ms ls a1 a2 a3 a4 a5 a6)
theorem xm_goto {off : Int} (tgt : Nat) (h : decode J.2.2.1 pc = .ok (.goto off, 3)) (ht : (pc : Int) + off = (tgt : Int)) (k : xMach G J d C Z tgt L S σ Q) : xMach G J d C Z pc L S σ Q :=
  fun p e s m args below meth c H locs cells slots mc ms ls a1 a2 a3 a4 a5 a6 => lv_goto a1.1 a1.2.1 h ht (k p e s m args below meth c H locs cells slots mc ms ls a1 a2 a3 a4 a5 a6)
theorem xm_ifnonnull {x : Nat} {off : Int} (tgt : Nat) (h : decode J.2.2.1 pc = .ok (.ifnonnull off, 3)) (ht : (pc : Int) + off = (tgt : Int)) (k : xMach G J d C Z tgt L S σ Q) : xMach G J d C Z pc L (.ref x :: S) σ Q :=
  fun p e s m args below meth c H locs cells slots mc ms ls a1 a2 a3 a4 a5 a6 => lv_ifnonnull a1.1 a1.2.1 h ht (k p e s m args below meth c H locs cells slots mc ms ls a1 a2 a3 a4 a5 a6)
theorem xm_ifnonnullN {off : Int} (h : decode J.2.2.1 pc = .ok (.ifnonnull off, 3)) (k : xMach G J d C Z (pc + 3) L S σ Q) : xMach G J d C Z pc L (.null :: S) σ Q :=
  fun p e s m args below meth c H locs cells slots mc ms ls a1 a2 a3 a4 a5 a6 => lv_ifnonnullN a1.1 a1.2.1 h (k p e s m args below meth c H locs cells slots mc ms ls a1 a2 a3 a4 a5 a6)
theorem xm_ifnull {x : Nat} {off : Int} (h : decode J.2.2.1 pc = .ok (.ifnull off, 3)) (k : xMach G J d C Z (pc + 3) L S σ Q) : xMach G J d C Z pc L (.ref x :: S) σ Q :=
  fun p e s m args below meth c H locs cells slots mc ms ls a1 a2 a3 a4 a5 a6 => lv_ifnull a1.1 a1.2.1 h (k p e s m args below meth c H locs cells slots mc ms ls a1 a2 a3 a4 a5 a6)
theorem xm_ifnullN {off : Int} (tgt : Nat) (h : decode J.2.2.1 pc = .ok (.ifnull off, 3)) (ht : (pc : Int) + off = (tgt : Int)) (k : xMach G J d C Z tgt L S σ Q) : xMach G J d C Z pc L (.null :: S) σ Q :=
  fun p e s m args below meth c H locs cells slots mc ms ls a1 a2 a3 a4 a5 a6 => lv_ifnullN a1.1 a1.2.1 h ht (k p e s m args below meth c H locs cells slots mc ms ls a1 a2 a3 a4 a5 a6)
theorem xm_tableOut {dflt lo hi : Int} {offs : Array Int} {len : Nat} {x : Int32} (tgt : Nat) (h : decode J.2.2.1 pc = .ok (.tableswitch dflt lo hi offs, len)) (hx : x.toInt < lo ∨ hi < x.toInt) (ht : (pc : Int) + dflt = (tgt : Int)) (k : xMach G J d C Z tgt L S σ Q) : xMach G J d C Z pc L (.int x :: S) σ Q :=
  fun p e s m args below meth c H locs cells slots mc ms ls a1 a2 a3 a4 a5 a6 => lv_tableOut a1.1 a1.2.1 h hx ht (k p e s m args below meth c H locs cells slots mc ms ls a1 a2 a3 a4 a5 a6)
theorem xm_tableIn {dflt lo hi : Int} {offs : Array Int} {len : Nat} {x : Int32} {off : Int} (tgt : Nat) (h : decode J.2.2.1 pc = .ok (.tableswitch dflt lo hi offs, len)) (h1 : ¬ x.toInt < lo) (h2 : ¬ hi < x.toInt) (ho : offs[(x.toInt - lo).toNat]? = some off) (ht : (pc : Int) + off = (tgt : Int)) (k : xMach G J d C Z tgt L S σ Q) : xMach G J d C Z pc L (.int x :: S) σ Q :=
  fun p e s m args below meth c H locs cells slots mc ms ls a1 a2 a3 a4 a5 a6 => lv_tableIn a1.1 a1.2.1 h h1 h2 ho ht (k p e s m args below meth c H locs cells slots mc ms ls a1 a2 a3 a4 a5 a6)
theorem xm_lookup {dflt : Int} {ps : Array (Int × Int)} {len : Nat} {x : Int32} {off : Int} (tgt : Nat) (h : decode J.2.2.1 pc = .ok (.lookupswitch dflt ps, len)) (hp : (ps.toList.zip (ps.toList.drop 1)).all (fun (a, next) => a.1 < next.1) = true) (ho : Op.lookupswitch.offset ps.toList dflt x.toInt = off) (ht : (pc : Int) + off = (tgt : Int)) (k : xMach G J d C Z tgt L S σ Q) : xMach G J d C Z pc L (.int x :: S) σ Q :=
  fun p e s m args below meth c H locs cells slots mc ms ls a1 a2 a3 a4 a5 a6 => lv_lookup a1.1 a1.2.1 h hp ho ht (k p e s m args below meth c H locs cells slots mc ms ls a1 a2 a3 a4 a5 a6)
/-! ends -/
theorem xKn.moved {G : xG} {s t : State} {H : Heap} {locs : List Loc} (hW : s.WarmedH t.vm) (hK : xKn G s) (hS : va_S (xA G.2.2.2) s.heap H locs) (ht : t.heap = H) : xKn G t :=
  ⟨va_K.moved hW.alike hK.1, by rw [ht]; exact Nat.le_trans hK.2 hS.1⟩
theorem xm_iret {v : Int32} (h : decode J.2.2.1 pc = .ok (.ireturn, 1)) (hr : J.2.2.2.2 = some .int) (hq : Q (.inl (some (.int v))) σ) : xMach G J d C Z pc L [.int v] σ Q :=
  fun p e s m args below meth c H locs cells slots mc ms ls a1 a2 a3 a4 a5 a6 => W.widen (k := mc) (n := ms) (by omega) (by omega) (vx_ret (W.iret a1.1 a1.2.1 (a1.2.2.1.trans hr) (fun t ht hW => ⟨some (.int v), σ, rfl, hq, by rw [ht]; exact a2, xKn.moved hW a1.2.2.2.2.2.2.1 a3 ht, a3.F ht⟩) a3.2.2 h a1.2.2.2.2.2.2.2.1))
theorem xm_zret {v : Int32} {ty : FieldType} (h : decode J.2.2.1 pc = .ok (.ireturn, 1)) (hr : J.2.2.2.2 = some ty) (hn : narrow ty (.int v) = .int v) (hq : Q (.inl (some (.int v))) σ) : xMach G J d C Z pc L [.int v] σ Q :=
  fun p e s m args below meth c H locs cells slots mc ms ls a1 a2 a3 a4 a5 a6 => W.widen (k := mc) (n := ms) (by omega) (by omega) (vx_ret (W.zret a1.1 a1.2.1 (a1.2.2.1.trans hr) hn (fun t ht hW => ⟨some (.int v), σ, rfl, hq, by rw [ht]; exact a2, xKn.moved hW a1.2.2.2.2.2.2.1 a3 ht, a3.F ht⟩) a3.2.2 h a1.2.2.2.2.2.2.2.1))
theorem xm_lret {v : Int64} (h : decode J.2.2.1 pc = .ok (.lreturn, 1)) (hr : J.2.2.2.2 = some .long) (hq : Q (.inl (some (.long v))) σ) : xMach G J d C Z pc L [.long v] σ Q :=
  fun p e s m args below meth c H locs cells slots mc ms ls a1 a2 a3 a4 a5 a6 => W.widen (k := mc) (n := ms) (by omega) (by omega) (vx_ret (W.lret a1.1 a1.2.1 (a1.2.2.1.trans hr) (fun t ht hW => ⟨some (.long v), σ, rfl, hq, by rw [ht]; exact a2, xKn.moved hW a1.2.2.2.2.2.2.1 a3 ht, a3.F ht⟩) a3.2.2 h a1.2.2.2.2.2.2.2.1))
theorem xm_aret {v : Value} {ty : FieldType} (h : decode J.2.2.1 pc = .ok (.areturn, 1)) (hr : J.2.2.2.2 = some ty) (hrt : (∃ n, ty = .object n) ∨ ∃ t, ty = .array t) (hv : v = .null ∨ ∃ a, v = .ref a) (hq : Q (.inl (some v)) σ) : xMach G J d C Z pc L [v] σ Q :=
  fun p e s m args below meth c H locs cells slots mc ms ls a1 a2 a3 a4 a5 a6 => W.widen (k := mc) (n := ms) (by omega) (by omega) (vx_ret (W.aret a1.1 a1.2.1 (a1.2.2.1.trans hr) hrt hv (fun t ht hW => ⟨some v, σ, rfl, hq, by rw [ht]; exact a2, xKn.moved hW a1.2.2.2.2.2.2.1 a3 ht, a3.F ht⟩) a3.2.2 h a1.2.2.2.2.2.2.2.1))
theorem xm_vret (h : decode J.2.2.1 pc = .ok (.return_, 1)) (hr : J.2.2.2.2 = none) (hq : Q (.inl none) σ) : xMach G J d C Z pc L [] σ Q :=
  fun p e s m args below meth c H locs cells slots mc ms ls a1 a2 a3 a4 a5 a6 => W.widen (k := mc) (n := ms) (by omega) (by omega) (vx_ret (W.vret a1.1 a1.2.1 (a1.2.2.1.trans hr) (fun t ht hW => ⟨none, σ, rfl, hq, by rw [ht]; exact a2, xKn.moved hW a1.2.2.2.2.2.2.1 a3 ht, a3.F ht⟩) a3.2.2 h a1.2.2.2.2.2.2.2.1))
/-! the memory's own rows -/
def xsI (σ : xM) (a k : Nat) (v : Int32) : xM := (σ.1, σ.2.1, va_up σ.2.2.1 a (va_up (σ.2.2.1 a) k v), σ.2.2.2.1, σ.2.2.2.2)
def xsJ (σ : xM) (a k : Nat) (v : Int64) : xM := (σ.1, σ.2.1, σ.2.2.1, va_up σ.2.2.2.1 a (va_up (σ.2.2.2.1 a) k v), σ.2.2.2.2)
def xsR (σ : xM) (a k : Nat) (v : Option Nat) : xM := (σ.1, σ.2.1, σ.2.2.1, σ.2.2.2.1, va_up σ.2.2.2.2 a (va_up (σ.2.2.2.2 a) k v))
/-- a new object or row: its kind, its length, all its places 0 or null -/
def xnew (σ : xM) (q kd n : Nat) : xM := (σ.1 ++ [q], va_up σ.2.1 q (kd, n), va_up σ.2.2.1 q (fun _ => 0), va_up σ.2.2.2.1 q (fun _ => 0), va_up σ.2.2.2.2 q (fun _ => none))
theorem xel_ne {aC : Nat → ClassId} {σ τ : xM} {b : Nat} (h1 : τ.2.1 b = σ.2.1 b) (h2 : τ.2.2.1 b = σ.2.2.1 b) (h3 : τ.2.2.2.1 b = σ.2.2.2.1 b) (h4 : τ.2.2.2.2 b = σ.2.2.2.2 b) : xel aC τ b = xel aC σ b := by
  have e : xfv τ b = xfv σ b := by
    funext c k
    unfold xfv
    rw [h2, h4]
  unfold xel
  rw [h1, h2, h3, h4, e]
theorem xls_set {f g : Nat → Value} {N k : Nat} {v : Value} (hk : g k = v) (ho : ∀ j, j ≠ k → g j = f j) : ((List.range N).map f).set k v = (List.range N).map g := by
  apply List.ext_getElem?
  intro j
  rw [List.getElem?_set, List.getElem?_map, List.getElem?_map]
  by_cases e : k = j
  · subst e
    rw [if_pos rfl, List.length_map, List.length_range]
    by_cases h : k < N
    · rw [if_pos h, List.getElem?_range h]
      simp [hk]
    · rw [if_neg h]
      simp [Nat.le_of_not_lt h]
  · rw [if_neg e]
    by_cases h : j < N
    · rw [List.getElem?_range h]
      simp [ho j (fun q => e q.symm)]
    · simp [Nat.le_of_not_lt h]
theorem xel_setI {aC : Nat → ClassId} {σ : xM} {a c k : Nat} {v : Int32} (hT : (σ.2.1 a).1 = c) (hc : c < 13) (hr : xisr (xtyp c k) = false) (b : Nat) :
    va_up (xel aC σ) a (.inr (c, ((List.range (xnf c)).map (xfv σ a c)).set k (.int v))) b = xel aC (xsI σ a k v) b := by
  by_cases e : b = a
  · subst e
    rw [va_up_self]
    unfold xel
    rw [show (xsI σ b k v).2.1 = σ.2.1 from rfl, hT, if_pos hc]
    rw [xls_set (g := xfv (xsI σ b k v) b c)]
    · unfold xfv xsI
      rw [hr]
      simp [va_up]
    · intro j hj
      unfold xfv xsI
      simp [va_up, hj]
  · rw [va_up_ne _ _ e]
    exact (xel_ne (σ := σ) (τ := xsI σ a k v) rfl (va_up_ne _ _ e) rfl rfl).symm
theorem xel_setR {aC : Nat → ClassId} {σ : xM} {a c k : Nat} {v : Option Nat} (hT : (σ.2.1 a).1 = c) (hc : c < 13) (hr : xisr (xtyp c k) = true) (b : Nat) :
    va_up (xel aC σ) a (.inr (c, ((List.range (xnf c)).map (xfv σ a c)).set k (va_rf v))) b = xel aC (xsR σ a k v) b := by
  by_cases e : b = a
  · subst e
    rw [va_up_self]
    unfold xel
    rw [show (xsR σ b k v).2.1 = σ.2.1 from rfl, hT, if_pos hc]
    rw [xls_set (g := xfv (xsR σ b k v) b c)]
    · unfold xfv xsR
      rw [hr]
      simp [va_up]
    · intro j hj
      unfold xfv xsR
      simp [va_up, hj]
  · rw [va_up_ne _ _ e]
    exact (xel_ne (σ := σ) (τ := xsR σ a k v) rfl rfl rfl (va_up_ne _ _ e)).symm
/-- a class's words, by its number -/
def xCl (c : Nat) (C : String) (T : u_T) (N : Nat) : Prop :=
  vwCl[c]? = some (C, T, N) ∧ (∀ w ∈ u_ws C T N, w ∈ xTB) ∧ (∀ k, k < N → parseFieldDescriptor (T k).2.2.1 = some (xtyp c k)) ∧ (∀ a, a < N → ∀ b, b < N → a ≠ b → (T a).2.1 ≠ (T b).2.1) ∧ xnf c = N ∧ c < 13
theorem xTB_all {ws : List Cond} (h : ∀ w ∈ ws, w ∈ lw_tbl) (g : ws.all goodWord = true) : ∀ w ∈ ws, w ∈ xTB := fun w hw => xTB_in (h w hw) (List.all_eq_true.mp g w hw)
theorem xcl0 : xCl 0 RX0 TX0 4 := ⟨rfl, xTB_all inX0 gdX0, tyX0_ok, nmX0, rfl, by decide⟩
theorem xcl1 : xCl 1 RX1 TX1 15 := ⟨rfl, xTB_all inX1 gdX1, tyX1_ok, nmX1, rfl, by decide⟩
theorem xcl2 : xCl 2 RX2 TX2 2 := ⟨rfl, xTB_all inX2 gdX2, tyX2_ok, nmX2, rfl, by decide⟩
theorem xcl3 : xCl 3 RX3 TX3 13 := ⟨rfl, xTB_all inX3 gdX3, tyX3_ok, nmX3, rfl, by decide⟩
theorem xcl4 : xCl 4 RX4 TX4 19 := ⟨rfl, xTB_all inX4 gdX4, tyX4_ok, nmX4, rfl, by decide⟩
theorem xcl5 : xCl 5 RX5 TX5 4 := ⟨rfl, xTB_all inX5 gdX5, tyX5_ok, nmX5, rfl, by decide⟩
theorem xcl6 : xCl 6 RX6 TX6 18 := ⟨rfl, xTB_all inX6 gdX6, tyX6_ok, nmX6, rfl, by decide⟩
theorem xcl7 : xCl 7 RX7 TX7 3 := ⟨rfl, xTB_all inX7 gdX7, tyX7_ok, nmX7, rfl, by decide⟩
theorem xcl8 : xCl 8 RX8 TX8 8 := ⟨rfl, xTB_all inX8 gdX8, tyX8_ok, nmX8, rfl, by decide⟩
theorem xcl9 : xCl 9 RX9 TX9 8 := ⟨rfl, xTB_all inX9 gdX9, tyX9_ok, nmX9, rfl, by decide⟩
theorem xcl10 : xCl 10 RX10 TX10 3 := ⟨rfl, xTB_all inX10 gdX10, tyX10_ok, nmX10, rfl, by decide⟩
theorem xcl11 : xCl 11 RX11 TX11 16 := ⟨rfl, xTB_all inX11 gdX11, tyX11_ok, nmX11, rfl, by decide⟩
theorem xcl12 : xCl 12 RX12 TX12 86 := ⟨rfl, xTB_all inX12 gdX12, tyX12_ok, nmX12, rfl, by decide⟩
theorem xel_obj {aC : Nat → ClassId} {σ : xM} {a c : Nat} (hT : (σ.2.1 a).1 = c) (hc : c < 13) : xel aC σ a = .inr (c, (List.range (xnf c)).map (xfv σ a c)) := by
  unfold xel
  rw [hT, if_pos hc]
theorem xws_in {J : xJ} {w : Cond} (h : w ∈ xTB) : w ∈ xws J := List.mem_cons_of_mem _ h
theorem xm_getf {a c k idx N : Nat} {C : String} {T : u_T} (h : decode J.2.2.1 pc = .ok (.getfield idx, 3)) (hx : xCl c C T N) (hk : k < N) (hw : Cond.fieldLink J.1 idx (T k).1 (T k).2.1 (T k).2.2.1 ∈ xTB) (ha : a ∈ σ.1) (hT : (σ.2.1 a).1 = c)
    (kk : xMach G J d C9 Z (pc + 3) L (xfv σ a c k :: S) σ Q) : xMach G J d C9 Z pc L (.ref a :: S) σ Q := by
  intro p e s m args below meth c0 H locs cells slots mc ms ls a1 a2 a3 a4 a5 a6
  obtain ⟨x1, x2, x3, x4, x5, x6⟩ := hx
  obtain ⟨q0, hq0⟩ := va_pl_get (X := []) (f := xel G.2.2.1 σ) ha
  rw [xel_obj hT x6] at hq0
  exact va_get a1.1 a1.2.1 a1.2.2.2.2.2.1 (fun w hw => xws_in (x2 w hw)) a1.2.2.2.2.1 a1.2.2.2.2.2.2.1.1 a2.1 q0 hq0 x1 k hk (a1.2.2.2.2.2.1 _ (xws_in hw)) (fun _ h9 => h9) (by rw [x5, List.getElem?_map, List.getElem?_range hk]; rfl) h (kk p e s m args below meth c0 H locs cells slots mc ms ls a1 a2 a3 a4 a5 a6)
theorem xwd_set {A : Nat → Prop} {aC : Nat → ClassId} {σ τ : xM} {a q0 : Nat} {e : va_E} (hD : va_D A (xwd aC σ)) (ha : a ∈ σ.1) (hq : (xwd aC σ)[q0]? = some (a, xel aC σ a)) (h1 : τ.1 = σ.1) (he : ∀ b, va_up (xel aC σ) a e b = xel aC τ b) : (xwd aC σ).set q0 (a, e) = xwd aC τ := by
  have h := va_pl_set (X := []) (f := xel aC σ) (e := e) hD ha hq
  refine h.trans ?_
  show va_pl σ.1 _ = va_pl τ.1 _
  rw [h1]
  exact va_pl_congr he
theorem xHd.set {G : xG} {σ τ : xM} {a q0 : Nat} {e : va_E} {H1 : Heap} (h0 : va_D (xA G.2.2.2) (xwd G.2.2.1 σ)) (ha : a ∈ σ.1) (hq : (xwd G.2.2.1 σ)[q0]? = some (a, xel G.2.2.1 σ a)) (h1 : τ.1 = σ.1) (he : ∀ b, va_up (xel G.2.2.1 σ) a e b = xel G.2.2.1 τ b)
    (hP : va_P G.2.1 vwCl ((xwd G.2.2.1 σ).set q0 (a, e)) H1) (hD : va_D (xA G.2.2.2) ((xwd G.2.2.1 σ).set q0 (a, e))) : xHd G τ H1 := by
  rw [xwd_set h0 ha hq h1 he] at hP hD
  exact ⟨hP, hD⟩
theorem xm_putI {a c k idx N : Nat} {C : String} {T : u_T} {v : Int32} (h : decode J.2.2.1 pc = .ok (.putfield idx, 3)) (hx : xCl c C T N) (hk : k < N) (hw : Cond.fieldLink J.1 idx (T k).1 (T k).2.1 (T k).2.2.1 ∈ xTB) (hfin : (T k).2.2.2 = false) (hn : narrow (xtyp c k) (.int v) = .int v) (hfit : fits (xtyp c k) (.int v) = true) (hr : xisr (xtyp c k) = false) (ha : a ∈ σ.1) (hT : (σ.2.1 a).1 = c)
    (kk : xMach G J d C9 Z (pc + 3) L S (xsI σ a k v) Q) : xMach G J d C9 Z pc L (.int v :: .ref a :: S) σ Q := by
  intro p e s m args below meth c0 H locs cells slots mc ms ls a1 a2 a3 a4 a5 a6
  obtain ⟨x1, x2, x3, x4, x5, x6⟩ := hx
  obtain ⟨q0, hq0⟩ := va_pl_get (X := []) (f := xel G.2.2.1 σ) ha
  have hq1 := hq0
  rw [xel_obj hT x6] at hq1
  refine va_put a1.1 a1.2.1 a1.2.2.2.2.2.1 (fun w hw => xws_in (x2 w hw)) (xtyp c) x3 x4 a1.2.2.2.2.1 a1.2.2.2.2.2.2.1.1 a2.1 a2.2 a3 q0 hq1 x1 k hk (a1.2.2.2.2.2.1 _ (xws_in hw)) (fun _ h9 => h9) hfin (x3 k hk) hn hfit (by rw [x5, List.length_map, List.length_range]; exact hk) h (fun H1 locs1 b1 b2 b3 => ?_)
  exact kk p e s m args below meth c0 H1 locs1 cells slots mc ms ls a1 (xHd.set a2.2 ha hq0 rfl (xel_setI hT x6 hr) b1 b2) b3 a4 a5 a6
theorem xm_putR {a c k idx N : Nat} {C : String} {T : u_T} {v : Option Nat} {w : Value} (hwv : w = va_rf v) (h : decode J.2.2.1 pc = .ok (.putfield idx, 3)) (hx : xCl c C T N) (hk : k < N) (hw : Cond.fieldLink J.1 idx (T k).1 (T k).2.1 (T k).2.2.1 ∈ xTB) (hfin : (T k).2.2.2 = true) (hin : J.2.1.name = "<init>") (hdecl : (T k).1 = J.1) (hn : narrow (xtyp c k) w = w) (hfit : fits (xtyp c k) w = true) (hr : xisr (xtyp c k) = true) (ha : a ∈ σ.1) (hT : (σ.2.1 a).1 = c)
    (kk : xMach G J d C9 Z (pc + 3) L S (xsR σ a k v) Q) : xMach G J d C9 Z pc L (w :: .ref a :: S) σ Q := by
  subst hwv
  intro p e s m args below meth c0 H locs cells slots mc ms ls a1 a2 a3 a4 a5 a6
  obtain ⟨x1, x2, x3, x4, x5, x6⟩ := hx
  obtain ⟨q0, hq0⟩ := va_pl_get (X := []) (f := xel G.2.2.1 σ) ha
  have hq1 := hq0
  rw [xel_obj hT x6] at hq1
  refine va_putF a1.1 a1.2.1 a1.2.2.2.2.2.1 (fun w hw => xws_in (x2 w hw)) (xtyp c) x3 x4 a1.2.2.2.2.1 a1.2.2.2.2.2.2.1.1 a2.1 a2.2 a3 q0 hq1 x1 k hk (a1.2.2.2.2.2.1 _ (xws_in hw)) (fun _ h9 => h9) hfin (a1.2.2.2.2.2.2.2.2.1 hin) hdecl (x3 k hk) hn hfit (by rw [x5, List.length_map, List.length_range]; exact hk) h (fun H1 locs1 b1 b2 b3 => ?_)
  exact kk p e s m args below meth c0 H1 locs1 cells slots mc ms ls a1 (xHd.set a2.2 ha hq0 rfl (xel_setR hT x6 hr) b1 b2) b3 a4 a5 a6
/-! rows of numbers -/
theorem xel_arr {aC : Nat → ClassId} {σ : xM} {a kd : Nat} (hT : (σ.2.1 a).1 = kd) (h1 : 13 ≤ kd) (h2 : kd < 16) : xel aC σ a = .inl (aC kd, (σ.2.1 a).2, .inl (σ.2.2.1 a)) := by
  unfold xel
  rw [hT, if_neg (by omega), if_pos h2]
theorem xel_arrR {aC : Nat → ClassId} {σ : xM} {a kd : Nat} (hT : (σ.2.1 a).1 = kd) (h1 : 16 ≤ kd) (h2 : kd < 19) : xel aC σ a = .inl (aC kd, (σ.2.1 a).2, .inr (.inr (.inr (.inr (σ.2.2.2.2 a))))) := by
  unfold xel
  rw [hT, if_neg (by omega), if_neg (by omega), if_pos h2]
theorem xel_arrJ {aC : Nat → ClassId} {σ : xM} {a : Nat} (hT : (σ.2.1 a).1 = 19) : xel aC σ a = .inl (aC 19, (σ.2.1 a).2, .inr (.inl (σ.2.2.2.1 a))) := by
  unfold xel
  rw [hT, if_neg (by omega), if_neg (by omega), if_neg (by omega)]
theorem xel_putA {aC : Nat → ClassId} {σ : xM} {a kd k : Nat} {v : Int32} {f : Nat → Int32} (hT : (σ.2.1 a).1 = kd) (h1 : 13 ≤ kd) (h2 : kd < 16) (hf : f = va_up (σ.2.2.1 a) k v) (b : Nat) :
    va_up (xel aC σ) a (.inl (aC kd, (σ.2.1 a).2, .inl f)) b = xel aC (xsI σ a k v) b := by
  subst hf
  by_cases e : b = a
  · subst e
    rw [va_up_self, xel_arr (σ := xsI σ b k v) (kd := kd) hT h1 h2]
    simp [xsI, va_up]
  · rw [va_up_ne _ _ e]
    exact (xel_ne (σ := σ) (τ := xsI σ a k v) rfl (va_up_ne _ _ e) rfl rfl).symm
theorem xel_putAR {aC : Nat → ClassId} {σ : xM} {a kd k : Nat} {v : Option Nat} (hT : (σ.2.1 a).1 = kd) (h1 : 16 ≤ kd) (h2 : kd < 19) (b : Nat) :
    va_up (xel aC σ) a (.inl (aC kd, (σ.2.1 a).2, .inr (.inr (.inr (.inr (va_up (σ.2.2.2.2 a) k v)))))) b = xel aC (xsR σ a k v) b := by
  by_cases e : b = a
  · subst e
    rw [va_up_self, xel_arrR (σ := xsR σ b k v) (kd := kd) hT h1 h2]
    simp [xsR, va_up]
  · rw [va_up_ne _ _ e]
    exact (xel_ne (σ := σ) (τ := xsR σ a k v) rfl rfl rfl (va_up_ne _ _ e)).symm
theorem xel_putAJ {aC : Nat → ClassId} {σ : xM} {a k : Nat} {v : Int64} {f : Nat → Int64} (hT : (σ.2.1 a).1 = 19) (hf : f = va_up (σ.2.2.2.1 a) k v) (b : Nat) :
    va_up (xel aC σ) a (.inl (aC 19, (σ.2.1 a).2, .inr (.inl f))) b = xel aC (xsJ σ a k v) b := by
  subst hf
  by_cases e : b = a
  · subst e
    rw [va_up_self, xel_arrJ (σ := xsJ σ b k v) hT]
    simp [xsJ, va_up]
  · rw [va_up_ne _ _ e]
    exact (xel_ne (σ := σ) (τ := xsJ σ a k v) rfl rfl (va_up_ne _ _ e) rfl).symm

theorem xm_iald {a : Nat} {i : Int32} (h : decode J.2.2.1 pc = .ok (.iaload, 1)) (ha : a ∈ σ.1) (hT : (σ.2.1 a).1 = 14) (hi : vp_in i (σ.2.1 a).2) (kk : xMach G J d C9 Z (pc + 1) L (.int (σ.2.2.1 a i.toNatClampNeg) :: S) σ Q) : xMach G J d C9 Z pc L (.int i :: .ref a :: S) σ Q := by
  intro p e s m args below meth c0 H locs cells slots mc ms ls a1 a2 a3 a4 a5 a6
  obtain ⟨q0, hq0⟩ := va_pl_get (X := []) (f := xel G.2.2.1 σ) ha
  rw [xel_arr hT (by omega) (by omega)] at hq0
  exact va_iald a1.1 a1.2.1 a1.2.2.2.2.2.2.1.1 a2.1 q0 1 hq0 rfl hi h (kk p e s m args below meth c0 H locs cells slots mc ms ls a1 a2 a3 a4 a5 a6)
theorem xm_cald {a : Nat} {i : Int32} (h : decode J.2.2.1 pc = .ok (.caload, 1)) (ha : a ∈ σ.1) (hT : (σ.2.1 a).1 = 13) (hi : vp_in i (σ.2.1 a).2) (kk : xMach G J d C9 Z (pc + 1) L (.int (σ.2.2.1 a i.toNatClampNeg) :: S) σ Q) : xMach G J d C9 Z pc L (.int i :: .ref a :: S) σ Q := by
  intro p e s m args below meth c0 H locs cells slots mc ms ls a1 a2 a3 a4 a5 a6
  obtain ⟨q0, hq0⟩ := va_pl_get (X := []) (f := xel G.2.2.1 σ) ha
  rw [xel_arr hT (by omega) (by omega)] at hq0
  exact va_cald a1.1 a1.2.1 a1.2.2.2.2.2.2.1.1 a2.1 q0 0 hq0 rfl hi h (kk p e s m args below meth c0 H locs cells slots mc ms ls a1 a2 a3 a4 a5 a6)
theorem xm_zald {a : Nat} {i : Int32} (h : decode J.2.2.1 pc = .ok (.baload, 1)) (ha : a ∈ σ.1) (hT : (σ.2.1 a).1 = 15) (hi : vp_in i (σ.2.1 a).2) (kk : xMach G J d C9 Z (pc + 1) L (.int (σ.2.2.1 a i.toNatClampNeg) :: S) σ Q) : xMach G J d C9 Z pc L (.int i :: .ref a :: S) σ Q := by
  intro p e s m args below meth c0 H locs cells slots mc ms ls a1 a2 a3 a4 a5 a6
  obtain ⟨q0, hq0⟩ := va_pl_get (X := []) (f := xel G.2.2.1 σ) ha
  rw [xel_arr hT (by omega) (by omega)] at hq0
  exact va_zald a1.1 a1.2.1 a1.2.2.2.2.2.2.1.1 a2.1 q0 2 hq0 rfl hi h (kk p e s m args below meth c0 H locs cells slots mc ms ls a1 a2 a3 a4 a5 a6)
theorem xm_iast {a : Nat} {i x : Int32} (h : decode J.2.2.1 pc = .ok (.iastore, 1)) (ha : a ∈ σ.1) (hT : (σ.2.1 a).1 = 14) (hi : vp_in i (σ.2.1 a).2) (kk : xMach G J d C9 Z (pc + 1) L S (xsI σ a i.toNatClampNeg x) Q) : xMach G J d C9 Z pc L (.int x :: .int i :: .ref a :: S) σ Q := by
  intro p e s m args below meth c0 H locs cells slots mc ms ls a1 a2 a3 a4 a5 a6
  obtain ⟨q0, hq0⟩ := va_pl_get (X := []) (f := xel G.2.2.1 σ) ha
  have hq1 := hq0
  rw [xel_arr hT (by omega) (by omega)] at hq1
  exact va_iast a1.1 a1.2.1 a1.2.2.2.2.2.2.1.1 a2.1 a2.2 a3 q0 1 hq1 rfl hi h (fun H1 locs1 b1 b2 b3 => kk p e s m args below meth c0 H1 locs1 cells slots mc ms ls a1 (xHd.set a2.2 ha hq0 rfl (xel_putA hT (by omega) (by omega) rfl) b1 b2) b3 a4 a5 a6)
theorem xm_cast {a : Nat} {i x : Int32} (h : decode J.2.2.1 pc = .ok (.castore, 1)) (ha : a ∈ σ.1) (hT : (σ.2.1 a).1 = 13) (hi : vp_in i (σ.2.1 a).2) (kk : xMach G J d C9 Z (pc + 1) L S (xsI σ a i.toNatClampNeg (vp_nar .char x)) Q) : xMach G J d C9 Z pc L (.int x :: .int i :: .ref a :: S) σ Q := by
  intro p e s m args below meth c0 H locs cells slots mc ms ls a1 a2 a3 a4 a5 a6
  obtain ⟨q0, hq0⟩ := va_pl_get (X := []) (f := xel G.2.2.1 σ) ha
  have hq1 := hq0
  rw [xel_arr hT (by omega) (by omega)] at hq1
  exact va_cast a1.1 a1.2.1 a1.2.2.2.2.2.2.1.1 a2.1 a2.2 a3 q0 0 hq1 rfl hi h (fun H1 locs1 b1 b2 b3 => kk p e s m args below meth c0 H1 locs1 cells slots mc ms ls a1 (xHd.set a2.2 ha hq0 rfl (xel_putA hT (by omega) (by omega) rfl) b1 b2) b3 a4 a5 a6)
theorem xm_zast {a : Nat} {i x : Int32} (h : decode J.2.2.1 pc = .ok (.bastore, 1)) (ha : a ∈ σ.1) (hT : (σ.2.1 a).1 = 15) (hi : vp_in i (σ.2.1 a).2) (kk : xMach G J d C9 Z (pc + 1) L S (xsI σ a i.toNatClampNeg (vp_nar .boolean x)) Q) : xMach G J d C9 Z pc L (.int x :: .int i :: .ref a :: S) σ Q := by
  intro p e s m args below meth c0 H locs cells slots mc ms ls a1 a2 a3 a4 a5 a6
  obtain ⟨q0, hq0⟩ := va_pl_get (X := []) (f := xel G.2.2.1 σ) ha
  have hq1 := hq0
  rw [xel_arr hT (by omega) (by omega)] at hq1
  exact va_zast a1.1 a1.2.1 a1.2.2.2.2.2.2.1.1 a2.1 a2.2 a3 q0 2 hq1 rfl hi h (fun H1 locs1 b1 b2 b3 => kk p e s m args below meth c0 H1 locs1 cells slots mc ms ls a1 (xHd.set a2.2 ha hq0 rfl (xel_putA hT (by omega) (by omega) rfl) b1 b2) b3 a4 a5 a6)
theorem xm_lald {a : Nat} {i : Int32} (h : decode J.2.2.1 pc = .ok (.laload, 1)) (ha : a ∈ σ.1) (hT : (σ.2.1 a).1 = 19) (hi : vp_in i (σ.2.1 a).2) (kk : xMach G J d C9 Z (pc + 1) L (.long (σ.2.2.2.1 a i.toNatClampNeg) :: S) σ Q) : xMach G J d C9 Z pc L (.int i :: .ref a :: S) σ Q := by
  intro p e s m args below meth c0 H locs cells slots mc ms ls a1 a2 a3 a4 a5 a6
  obtain ⟨q0, hq0⟩ := va_pl_get (X := []) (f := xel G.2.2.1 σ) ha
  rw [xel_arrJ hT] at hq0
  exact va_lald a1.1 a1.2.1 a1.2.2.2.2.2.2.1.1 a2.1 q0 6 hq0 rfl hi h (kk p e s m args below meth c0 H locs cells slots mc ms ls a1 a2 a3 a4 a5 a6)
theorem xm_last {a : Nat} {i : Int32} {x : Int64} (h : decode J.2.2.1 pc = .ok (.lastore, 1)) (ha : a ∈ σ.1) (hT : (σ.2.1 a).1 = 19) (hi : vp_in i (σ.2.1 a).2) (kk : xMach G J d C9 Z (pc + 1) L S (xsJ σ a i.toNatClampNeg x) Q) : xMach G J d C9 Z pc L (.long x :: .int i :: .ref a :: S) σ Q := by
  intro p e s m args below meth c0 H locs cells slots mc ms ls a1 a2 a3 a4 a5 a6
  obtain ⟨q0, hq0⟩ := va_pl_get (X := []) (f := xel G.2.2.1 σ) ha
  have hq1 := hq0
  rw [xel_arrJ hT] at hq1
  exact va_last a1.1 a1.2.1 a1.2.2.2.2.2.2.1.1 a2.1 a2.2 a3 q0 6 hq1 rfl hi h (fun H1 locs1 b1 b2 b3 => kk p e s m args below meth c0 H1 locs1 cells slots mc ms ls a1 (xHd.set a2.2 ha hq0 rfl (xel_putAJ hT rfl) b1 b2) b3 a4 a5 a6)
theorem xm_aald {a : Nat} {i : Int32} {kd : Nat} (h : decode J.2.2.1 pc = .ok (.aaload, 1)) (ha : a ∈ σ.1) (hT : (σ.2.1 a).1 = kd) (hkd : kd = 16 ∨ kd = 17) (hi : vp_in i (σ.2.1 a).2) (kk : xMach G J d C9 Z (pc + 1) L (va_rf (σ.2.2.2.2 a i.toNatClampNeg) :: S) σ Q) : xMach G J d C9 Z pc L (.int i :: .ref a :: S) σ Q := by
  intro p e s m args below meth c0 H locs cells slots mc ms ls a1 a2 a3 a4 a5 a6
  obtain ⟨q0, hq0⟩ := va_pl_get (X := []) (f := xel G.2.2.1 σ) ha
  rw [xel_arrR hT (by omega) (by omega)] at hq0
  rcases hkd with rfl | rfl
  · exact va_aldq a1.1 a1.2.1 a1.2.2.2.2.2.2.1.1 a2.1 q0 3 hq0 rfl hi h (kk p e s m args below meth c0 H locs cells slots mc ms ls a1 a2 a3 a4 a5 a6)
  · exact va_aldq a1.1 a1.2.1 a1.2.2.2.2.2.2.1.1 a2.1 q0 4 hq0 rfl hi h (kk p e s m args below meth c0 H locs cells slots mc ms ls a1 a2 a3 a4 a5 a6)
theorem xm_aast {a v ci : Nat} {i : Int32} {kd : Nat} (h : decode J.2.2.1 pc = .ok (.aastore, 1)) (ha : a ∈ σ.1) (hT : (σ.2.1 a).1 = kd) (hkd : (kd = 16 ∧ ci = 2) ∨ (kd = 17 ∧ ci = 9)) (hi : vp_in i (σ.2.1 a).2) (hv : v ∈ σ.1) (hTv : (σ.2.1 v).1 = ci) (kk : xMach G J d C9 Z (pc + 1) L S (xsR σ a i.toNatClampNeg (some v)) Q) : xMach G J d C9 Z pc L (.ref v :: .int i :: .ref a :: S) σ Q := by
  intro p e s m args below meth c0 H locs cells slots mc ms ls a1 a2 a3 a4 a5 a6
  obtain ⟨q0, hq0⟩ := va_pl_get (X := []) (f := xel G.2.2.1 σ) ha
  obtain ⟨q1, hq2⟩ := va_pl_get (X := []) (f := xel G.2.2.1 σ) hv
  have hq1 := hq0
  rw [xel_arrR hT (by omega) (by omega)] at hq1
  rw [xel_obj hTv (by omega)] at hq2
  rcases hkd with ⟨rfl, rfl⟩ | ⟨rfl, rfl⟩
  · exact va_astq a1.1 a1.2.1 a1.2.2.2.2.2.2.1.1 a2.1 a2.2 a3 q0 3 q1 2 hq1 rfl hq2 rfl hi h (fun H1 locs1 b1 b2 b3 => kk p e s m args below meth c0 H1 locs1 cells slots mc ms ls a1 (xHd.set a2.2 ha hq0 rfl (xel_putAR hT (by omega) (by omega)) b1 b2) b3 a4 a5 a6)
  · exact va_astq a1.1 a1.2.1 a1.2.2.2.2.2.2.1.1 a2.1 a2.2 a3 q0 4 q1 9 hq1 rfl hq2 rfl hi h (fun H1 locs1 b1 b2 b3 => kk p e s m args below meth c0 H1 locs1 cells slots mc ms ls a1 (xHd.set a2.2 ha hq0 rfl (xel_putAR hT (by omega) (by omega)) b1 b2) b3 a4 a5 a6)
theorem xm_alen {a kd : Nat} {n : Int32} (h : decode J.2.2.1 pc = .ok (.arraylength, 1)) (ha : a ∈ σ.1) (hT : (σ.2.1 a).1 = kd) (h1 : 13 ≤ kd) (h2 : kd < 18) (hn : Int32.ofNat (σ.2.1 a).2 = n) (kk : xMach G J d C9 Z (pc + 1) L (.int n :: S) σ Q) : xMach G J d C9 Z pc L (.ref a :: S) σ Q := by
  intro p e s m args below meth c0 H locs cells slots mc ms ls a1 a2 a3 a4 a5 a6
  obtain ⟨q0, hq0⟩ := va_pl_get (X := []) (f := xel G.2.2.1 σ) ha
  by_cases h3 : kd < 16
  · rw [xel_arr hT h1 h3] at hq0
    have : kd = 13 ∨ kd = 14 ∨ kd = 15 := by omega
    rcases this with rfl | rfl | rfl
    · exact va_alen a1.1 a1.2.1 a1.2.2.2.2.2.2.1.1 a2.1 q0 0 hq0 rfl hn h (kk p e s m args below meth c0 H locs cells slots mc ms ls a1 a2 a3 a4 a5 a6)
    · exact va_alen a1.1 a1.2.1 a1.2.2.2.2.2.2.1.1 a2.1 q0 1 hq0 rfl hn h (kk p e s m args below meth c0 H locs cells slots mc ms ls a1 a2 a3 a4 a5 a6)
    · exact va_alen a1.1 a1.2.1 a1.2.2.2.2.2.2.1.1 a2.1 q0 2 hq0 rfl hn h (kk p e s m args below meth c0 H locs cells slots mc ms ls a1 a2 a3 a4 a5 a6)
  · rw [xel_arrR hT (by omega) (by omega)] at hq0
    have : kd = 16 ∨ kd = 17 := by omega
    rcases this with rfl | rfl
    · exact va_alen a1.1 a1.2.1 a1.2.2.2.2.2.2.1.1 a2.1 q0 3 hq0 rfl hn h (kk p e s m args below meth c0 H locs cells slots mc ms ls a1 a2 a3 a4 a5 a6)
    · exact va_alen a1.1 a1.2.1 a1.2.2.2.2.2.2.1.1 a2.1 q0 4 hq0 rfl hn h (kk p e s m args below meth c0 H locs cells slots mc ms ls a1 a2 a3 a4 a5 a6)
end XP

