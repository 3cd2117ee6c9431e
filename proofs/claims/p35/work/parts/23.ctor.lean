/-! CONSTRUCTORS -/
theorem xite_bind {α β : Type} {c : Prop} {_h : Decidable c} {x y : Option α} {f : α → Option β} : (if c then x else y).bind f = if c then x.bind f else y.bind f := by split <;> rfl
theorem i32_succ {i : Int32} (h0 : -1 ≤ i.toInt) (h : i.toInt < 2147483647) : (i + 1).toInt = i.toInt + 1 := by
  rw [Int32.toInt_add]
  show (i.toInt + 1).bmod 4294967296 = _
  rw [Int.bmod_def]
  have e : (i.toInt + 1) % ((4294967296 : Nat) : Int) = i.toInt + 1 := by omega
  rw [e, if_pos (by omega)]
def xrep (f : Int32 → xM → Option xM) : Nat → Int32 → xM → Option xM
  | 0, _, σ => some σ
  | n + 1, i, σ => (f i σ).bind (xrep f n (i + 1))
theorem xdf0 : ∀ j, j < 4 → defaultValue (xtyp 0 j) = if xisr (xtyp 0 j) = true then .null else .int 0 := fun j hj => match j, hj with | 0, _ => rfl | 1, _ => rfl | 2, _ => rfl | 3, _ => rfl | (j + 4), h => absurd h (by omega)
theorem xdf1 : ∀ j, j < 15 → defaultValue (xtyp 1 j) = if xisr (xtyp 1 j) = true then .null else .int 0 := fun j hj => match j, hj with | 0, _ => rfl | 1, _ => rfl | 2, _ => rfl | 3, _ => rfl | 4, _ => rfl | 5, _ => rfl | 6, _ => rfl | 7, _ => rfl | 8, _ => rfl | 9, _ => rfl | 10, _ => rfl | 11, _ => rfl | 12, _ => rfl | 13, _ => rfl | 14, _ => rfl | (j + 15), h => absurd h (by omega)
theorem xdf2 : ∀ j, j < 2 → defaultValue (xtyp 2 j) = if xisr (xtyp 2 j) = true then .null else .int 0 := fun j hj => match j, hj with | 0, _ => rfl | 1, _ => rfl | (j + 2), h => absurd h (by omega)
theorem xdf3 : ∀ j, j < 13 → defaultValue (xtyp 3 j) = if xisr (xtyp 3 j) = true then .null else .int 0 := fun j hj => match j, hj with | 0, _ => rfl | 1, _ => rfl | 2, _ => rfl | 3, _ => rfl | 4, _ => rfl | 5, _ => rfl | 6, _ => rfl | 7, _ => rfl | 8, _ => rfl | 9, _ => rfl | 10, _ => rfl | 11, _ => rfl | 12, _ => rfl | (j + 13), h => absurd h (by omega)
theorem xdf4 : ∀ j, j < 19 → defaultValue (xtyp 4 j) = if xisr (xtyp 4 j) = true then .null else .int 0 := fun j hj => match j, hj with | 0, _ => rfl | 1, _ => rfl | 2, _ => rfl | 3, _ => rfl | 4, _ => rfl | 5, _ => rfl | 6, _ => rfl | 7, _ => rfl | 8, _ => rfl | 9, _ => rfl | 10, _ => rfl | 11, _ => rfl | 12, _ => rfl | 13, _ => rfl | 14, _ => rfl | 15, _ => rfl | 16, _ => rfl | 17, _ => rfl | 18, _ => rfl | (j + 19), h => absurd h (by omega)
theorem xdf5 : ∀ j, j < 4 → defaultValue (xtyp 5 j) = if xisr (xtyp 5 j) = true then .null else .int 0 := fun j hj => match j, hj with | 0, _ => rfl | 1, _ => rfl | 2, _ => rfl | 3, _ => rfl | (j + 4), h => absurd h (by omega)
theorem xdf6 : ∀ j, j < 18 → defaultValue (xtyp 6 j) = if xisr (xtyp 6 j) = true then .null else .int 0 := fun j hj => match j, hj with | 0, _ => rfl | 1, _ => rfl | 2, _ => rfl | 3, _ => rfl | 4, _ => rfl | 5, _ => rfl | 6, _ => rfl | 7, _ => rfl | 8, _ => rfl | 9, _ => rfl | 10, _ => rfl | 11, _ => rfl | 12, _ => rfl | 13, _ => rfl | 14, _ => rfl | 15, _ => rfl | 16, _ => rfl | 17, _ => rfl | (j + 18), h => absurd h (by omega)
theorem xdf7 : ∀ j, j < 3 → defaultValue (xtyp 7 j) = if xisr (xtyp 7 j) = true then .null else .int 0 := fun j hj => match j, hj with | 0, _ => rfl | 1, _ => rfl | 2, _ => rfl | (j + 3), h => absurd h (by omega)
theorem xdf8 : ∀ j, j < 8 → defaultValue (xtyp 8 j) = if xisr (xtyp 8 j) = true then .null else .int 0 := fun j hj => match j, hj with | 0, _ => rfl | 1, _ => rfl | 2, _ => rfl | 3, _ => rfl | 4, _ => rfl | 5, _ => rfl | 6, _ => rfl | 7, _ => rfl | (j + 8), h => absurd h (by omega)
theorem xdf9 : ∀ j, j < 8 → defaultValue (xtyp 9 j) = if xisr (xtyp 9 j) = true then .null else .int 0 := fun j hj => match j, hj with | 0, _ => rfl | 1, _ => rfl | 2, _ => rfl | 3, _ => rfl | 4, _ => rfl | 5, _ => rfl | 6, _ => rfl | 7, _ => rfl | (j + 8), h => absurd h (by omega)
theorem xdf10 : ∀ j, j < 3 → defaultValue (xtyp 10 j) = if xisr (xtyp 10 j) = true then .null else .int 0 := fun j hj => match j, hj with | 0, _ => rfl | 1, _ => rfl | 2, _ => rfl | (j + 3), h => absurd h (by omega)
theorem xs_0 : (Jvm.Cond.selects "Rankwise$Desk" ({ cls := "Rankwise$Desk", name := "beginOperators", desc := "()V" } : Jvm.MethodName) ({ cls := "Rankwise$Desk", name := "beginOperators", desc := "()V" } : Jvm.MethodName)) ∈ xTB := xTB_in (List.mem_append_left _ (List.mem_of_getElem? (i := 0) (by decide +kernel))) rfl
theorem xw_18 : (Jvm.Cond.initialized "Rankwise$Gatherer") ∈ xTB := xTB_in (xt_1 (List.mem_of_getElem? (i := 18) rfl)) rfl
theorem xw_29 : (Jvm.Cond.code ({ cls := "Rankwise", name := "<init>", desc := "()V" } : Jvm.MethodName) prog_1_method_1_code (2 : Nat) (Option.none : Option Jvm.ClassFile.FieldType)) ∈ xTB := xTB_in (xt_1 (List.mem_of_getElem? (i := 29) rfl)) rfl
theorem xw_30 : (Jvm.Cond.methodLink "Rankwise" (1 : Nat) ({ cls := "java/lang/Object", name := "<init>", desc := "()V" } : Jvm.MethodName)) ∈ xTB := xTB_in (xt_1 (List.mem_of_getElem? (i := 30) rfl)) rfl
theorem xw_31 : (Jvm.Cond.instanceMethod ({ cls := "java/lang/Object", name := "<init>", desc := "()V" } : Jvm.MethodName)) ∈ xTB := xTB_in (xt_1 (List.mem_of_getElem? (i := 31) rfl)) rfl
theorem xw_32 : (Jvm.Cond.code ({ cls := "java/lang/Object", name := "<init>", desc := "()V" } : Jvm.MethodName) object_method_1_code (1 : Nat) (Option.none : Option Jvm.ClassFile.FieldType)) ∈ xTB := xTB_in (xt_1 (List.mem_of_getElem? (i := 32) rfl)) rfl
theorem xw_33 : (Jvm.Cond.classLink "Rankwise" (7 : Nat) "Rankwise$Arithmetic") ∈ xTB := xTB_in (xt_1 (List.mem_of_getElem? (i := 33) rfl)) rfl
theorem xw_34 : (Jvm.Cond.instantiable "Rankwise$Arithmetic" (4 : Nat)) ∈ xTB := xTB_in (xt_1 (List.mem_of_getElem? (i := 34) rfl)) rfl
theorem xw_36 : (Jvm.Cond.instanceMethod ({ cls := "Rankwise$Arithmetic", name := "<init>", desc := "()V" } : Jvm.MethodName)) ∈ xTB := xTB_in (xt_1 (List.mem_of_getElem? (i := 36) rfl)) rfl
theorem xw_37 : (Jvm.Cond.code ({ cls := "Rankwise$Arithmetic", name := "<init>", desc := "()V" } : Jvm.MethodName) prog_2_method_1_code (1 : Nat) (Option.none : Option Jvm.ClassFile.FieldType)) ∈ xTB := xTB_in (xt_1 (List.mem_of_getElem? (i := 37) rfl)) rfl
theorem xw_38 : (Jvm.Cond.methodLink "Rankwise$Arithmetic" (1 : Nat) ({ cls := "java/lang/Object", name := "<init>", desc := "()V" } : Jvm.MethodName)) ∈ xTB := xTB_in (xt_1 (List.mem_of_getElem? (i := 38) rfl)) rfl
theorem xw_39 : (Jvm.Cond.classLink "Rankwise$Arithmetic" (7 : Nat) "Rankwise$Whole") ∈ xTB := xTB_in (xt_1 (List.mem_of_getElem? (i := 39) rfl)) rfl
theorem xw_40 : (Jvm.Cond.instantiable "Rankwise$Whole" (3 : Nat)) ∈ xTB := xTB_in (xt_1 (List.mem_of_getElem? (i := 40) rfl)) rfl
theorem xw_41 : (Jvm.Cond.methodLink "Rankwise$Arithmetic" (9 : Nat) ({ cls := "Rankwise$Whole", name := "<init>", desc := "(I)V" } : Jvm.MethodName)) ∈ xTB := xTB_in (xt_1 (List.mem_of_getElem? (i := 41) rfl)) rfl
theorem xw_42 : (Jvm.Cond.instanceMethod ({ cls := "Rankwise$Whole", name := "<init>", desc := "(I)V" } : Jvm.MethodName)) ∈ xTB := xTB_in (xt_1 (List.mem_of_getElem? (i := 42) rfl)) rfl
theorem xw_43 : (Jvm.Cond.code ({ cls := "Rankwise$Whole", name := "<init>", desc := "(I)V" } : Jvm.MethodName) prog_12_method_1_code (2 : Nat) (Option.none : Option Jvm.ClassFile.FieldType)) ∈ xTB := xTB_in (xt_1 (List.mem_of_getElem? (i := 43) rfl)) rfl
theorem xw_44 : (Jvm.Cond.methodLink "Rankwise$Whole" (3 : Nat) ({ cls := "java/lang/Object", name := "<init>", desc := "()V" } : Jvm.MethodName)) ∈ xTB := xTB_in (xt_1 (List.mem_of_getElem? (i := 44) rfl)) rfl
theorem xw_57 : (Jvm.Cond.arrayClass Jvm.ClassFile.FieldType.int) ∈ xTB := xTB_in (xt_1 (List.mem_of_getElem? (i := 57) rfl)) rfl
theorem xw_71 : (Jvm.Cond.classLink "Rankwise" (16 : Nat) "Rankwise$Desk") ∈ xTB := xTB_in (xt_1 (List.mem_of_getElem? (i := 71) rfl)) rfl
theorem xw_72 : (Jvm.Cond.instantiable "Rankwise$Desk" (15 : Nat)) ∈ xTB := xTB_in (xt_1 (List.mem_of_getElem? (i := 72) rfl)) rfl
theorem xw_73 : (Jvm.Cond.methodLink "Rankwise" (18 : Nat) ({ cls := "Rankwise$Desk", name := "<init>", desc := "()V" } : Jvm.MethodName)) ∈ xTB := xTB_in (xt_1 (List.mem_of_getElem? (i := 73) rfl)) rfl
theorem xw_74 : (Jvm.Cond.instanceMethod ({ cls := "Rankwise$Desk", name := "<init>", desc := "()V" } : Jvm.MethodName)) ∈ xTB := xTB_in (xt_1 (List.mem_of_getElem? (i := 74) rfl)) rfl
theorem xw_75 : (Jvm.Cond.code ({ cls := "Rankwise$Desk", name := "<init>", desc := "()V" } : Jvm.MethodName) prog_3_method_1_code (2 : Nat) (Option.none : Option Jvm.ClassFile.FieldType)) ∈ xTB := xTB_in (xt_1 (List.mem_of_getElem? (i := 75) rfl)) rfl
theorem xw_76 : (Jvm.Cond.methodLink "Rankwise$Desk" (5 : Nat) ({ cls := "java/lang/Object", name := "<init>", desc := "()V" } : Jvm.MethodName)) ∈ xTB := xTB_in (xt_1 (List.mem_of_getElem? (i := 76) rfl)) rfl
theorem xw_77 : (Jvm.Cond.classLink "Rankwise$Desk" (24 : Nat) "Rankwise$Tree") ∈ xTB := xTB_in (xt_1 (List.mem_of_getElem? (i := 77) rfl)) rfl
theorem xw_79 : (Jvm.Cond.classLink "Rankwise$Desk" (30 : Nat) "Rankwise$Fraction") ∈ xTB := xTB_in (xt_1 (List.mem_of_getElem? (i := 79) rfl)) rfl
theorem xw_81 : (Jvm.Cond.classLink "Rankwise$Desk" (40 : Nat) "[[I") ∈ xTB := xTB_in (xt_1 (List.mem_of_getElem? (i := 81) rfl)) rfl
theorem xw_83 : (Jvm.Cond.methodLink "Rankwise$Desk" (57 : Nat) ({ cls := "Rankwise$Desk", name := "beginOperators", desc := "()V" } : Jvm.MethodName)) ∈ xTB := xTB_in (xt_1 (List.mem_of_getElem? (i := 83) rfl)) rfl
theorem xw_85 : (Jvm.Cond.instanceMethod ({ cls := "Rankwise$Desk", name := "beginOperators", desc := "()V" } : Jvm.MethodName)) ∈ xTB := xTB_in (xt_1 (List.mem_of_getElem? (i := 85) rfl)) rfl
theorem xw_186 : (Jvm.Cond.instantiable "Rankwise$Tree" (8 : Nat)) ∈ xTB := xTB_in (xt_1 (List.mem_of_getElem? (i := 186) rfl)) rfl
theorem xw_188 : (Jvm.Cond.instanceMethod ({ cls := "Rankwise$Tree", name := "<init>", desc := "()V" } : Jvm.MethodName)) ∈ xTB := xTB_in (xt_1 (List.mem_of_getElem? (i := 188) rfl)) rfl
theorem xw_189 : (Jvm.Cond.code ({ cls := "Rankwise$Tree", name := "<init>", desc := "()V" } : Jvm.MethodName) prog_11_method_1_code (1 : Nat) (Option.none : Option Jvm.ClassFile.FieldType)) ∈ xTB := xTB_in (xt_1 (List.mem_of_getElem? (i := 189) rfl)) rfl
theorem xw_190 : (Jvm.Cond.methodLink "Rankwise$Tree" (3 : Nat) ({ cls := "java/lang/Object", name := "<init>", desc := "()V" } : Jvm.MethodName)) ∈ xTB := xTB_in (xt_1 (List.mem_of_getElem? (i := 190) rfl)) rfl
theorem xw_241 : (Jvm.Cond.arrayClass Jvm.ClassFile.FieldType.char) ∈ xTB := xTB_in (xt_2 (List.mem_of_getElem? (i := 1) rfl)) rfl
theorem xw_242 : (Jvm.Cond.arrayClass Jvm.ClassFile.FieldType.boolean) ∈ xTB := xTB_in (xt_2 (List.mem_of_getElem? (i := 2) rfl)) rfl
theorem xw_244 : (Jvm.Cond.instantiable "Rankwise$Fraction" (2 : Nat)) ∈ xTB := xTB_in (xt_2 (List.mem_of_getElem? (i := 4) rfl)) rfl
theorem xw_245 : (Jvm.Cond.methodLink "Rankwise$Desk" (63 : Nat) ({ cls := "Rankwise$Fraction", name := "<init>", desc := "(I)V" } : Jvm.MethodName)) ∈ xTB := xTB_in (xt_2 (List.mem_of_getElem? (i := 5) rfl)) rfl
theorem xw_246 : (Jvm.Cond.instanceMethod ({ cls := "Rankwise$Fraction", name := "<init>", desc := "(I)V" } : Jvm.MethodName)) ∈ xTB := xTB_in (xt_2 (List.mem_of_getElem? (i := 6) rfl)) rfl
theorem xw_247 : (Jvm.Cond.code ({ cls := "Rankwise$Fraction", name := "<init>", desc := "(I)V" } : Jvm.MethodName) prog_4_method_1_code (2 : Nat) (Option.none : Option Jvm.ClassFile.FieldType)) ∈ xTB := xTB_in (xt_2 (List.mem_of_getElem? (i := 7) rfl)) rfl
theorem xw_248 : (Jvm.Cond.methodLink "Rankwise$Fraction" (1 : Nat) ({ cls := "java/lang/Object", name := "<init>", desc := "()V" } : Jvm.MethodName)) ∈ xTB := xTB_in (xt_2 (List.mem_of_getElem? (i := 8) rfl)) rfl
theorem xw_249 : (Jvm.Cond.classLink "Rankwise$Fraction" (7 : Nat) "Rankwise$Whole") ∈ xTB := xTB_in (xt_2 (List.mem_of_getElem? (i := 9) rfl)) rfl
theorem xw_250 : (Jvm.Cond.methodLink "Rankwise$Fraction" (9 : Nat) ({ cls := "Rankwise$Whole", name := "<init>", desc := "(I)V" } : Jvm.MethodName)) ∈ xTB := xTB_in (xt_2 (List.mem_of_getElem? (i := 10) rfl)) rfl
theorem xw_321 : (Jvm.Cond.classLink "Rankwise" (23 : Nat) "Rankwise$Reader") ∈ xTB := xTB_in (xt_2 (List.mem_of_getElem? (i := 81) rfl)) rfl
theorem xw_322 : (Jvm.Cond.instantiable "Rankwise$Reader" (18 : Nat)) ∈ xTB := xTB_in (xt_2 (List.mem_of_getElem? (i := 82) rfl)) rfl
theorem xw_323 : (Jvm.Cond.methodLink "Rankwise" (25 : Nat) ({ cls := "Rankwise$Reader", name := "<init>", desc := "(LRankwise$Desk;)V" } : Jvm.MethodName)) ∈ xTB := xTB_in (xt_2 (List.mem_of_getElem? (i := 83) rfl)) rfl
theorem xw_324 : (Jvm.Cond.instanceMethod ({ cls := "Rankwise$Reader", name := "<init>", desc := "(LRankwise$Desk;)V" } : Jvm.MethodName)) ∈ xTB := xTB_in (xt_2 (List.mem_of_getElem? (i := 84) rfl)) rfl
theorem xw_325 : (Jvm.Cond.code ({ cls := "Rankwise$Reader", name := "<init>", desc := "(LRankwise$Desk;)V" } : Jvm.MethodName) prog_8_method_1_code (2 : Nat) (Option.none : Option Jvm.ClassFile.FieldType)) ∈ xTB := xTB_in (xt_2 (List.mem_of_getElem? (i := 85) rfl)) rfl
theorem xw_326 : (Jvm.Cond.methodLink "Rankwise$Reader" (3 : Nat) ({ cls := "java/lang/Object", name := "<init>", desc := "()V" } : Jvm.MethodName)) ∈ xTB := xTB_in (xt_2 (List.mem_of_getElem? (i := 86) rfl)) rfl
theorem xw_327 : (Jvm.Cond.classLink "Rankwise$Reader" (43 : Nat) "Rankwise$Tree") ∈ xTB := xTB_in (xt_2 (List.mem_of_getElem? (i := 87) rfl)) rfl
theorem xw_389 : (Jvm.Cond.classLink "Rankwise" (32 : Nat) "Rankwise$Printer") ∈ xTB := xTB_in (xt_2 (List.mem_of_getElem? (i := 149) rfl)) rfl
theorem xw_390 : (Jvm.Cond.instantiable "Rankwise$Printer" (4 : Nat)) ∈ xTB := xTB_in (xt_2 (List.mem_of_getElem? (i := 150) rfl)) rfl
theorem xw_391 : (Jvm.Cond.methodLink "Rankwise" (34 : Nat) ({ cls := "Rankwise$Printer", name := "<init>", desc := "(LRankwise$Reader;)V" } : Jvm.MethodName)) ∈ xTB := xTB_in (xt_2 (List.mem_of_getElem? (i := 151) rfl)) rfl
theorem xw_392 : (Jvm.Cond.instanceMethod ({ cls := "Rankwise$Printer", name := "<init>", desc := "(LRankwise$Reader;)V" } : Jvm.MethodName)) ∈ xTB := xTB_in (xt_2 (List.mem_of_getElem? (i := 152) rfl)) rfl
theorem xw_393 : (Jvm.Cond.code ({ cls := "Rankwise$Printer", name := "<init>", desc := "(LRankwise$Reader;)V" } : Jvm.MethodName) prog_7_method_1_code (2 : Nat) (Option.none : Option Jvm.ClassFile.FieldType)) ∈ xTB := xTB_in (xt_2 (List.mem_of_getElem? (i := 153) rfl)) rfl
theorem xw_394 : (Jvm.Cond.methodLink "Rankwise$Printer" (3 : Nat) ({ cls := "java/lang/Object", name := "<init>", desc := "()V" } : Jvm.MethodName)) ∈ xTB := xTB_in (xt_2 (List.mem_of_getElem? (i := 154) rfl)) rfl
theorem xw_395 : (Jvm.Cond.classLink "Rankwise$Printer" (9 : Nat) "Rankwise$Whole") ∈ xTB := xTB_in (xt_2 (List.mem_of_getElem? (i := 155) rfl)) rfl
theorem xw_396 : (Jvm.Cond.methodLink "Rankwise$Printer" (11 : Nat) ({ cls := "Rankwise$Whole", name := "<init>", desc := "(I)V" } : Jvm.MethodName)) ∈ xTB := xTB_in (xt_2 (List.mem_of_getElem? (i := 156) rfl)) rfl
theorem xw_412 : (Jvm.Cond.classLink "Rankwise" (44 : Nat) "Rankwise$Machine") ∈ xTB := xTB_in (xt_2 (List.mem_of_getElem? (i := 172) rfl)) rfl
theorem xw_413 : (Jvm.Cond.instantiable "Rankwise$Machine" (19 : Nat)) ∈ xTB := xTB_in (xt_2 (List.mem_of_getElem? (i := 173) rfl)) rfl
theorem xw_414 : (Jvm.Cond.methodLink "Rankwise" (46 : Nat) ({ cls := "Rankwise$Machine", name := "<init>", desc := "(LRankwise$Desk;LRankwise$Arithmetic;)V" } : Jvm.MethodName)) ∈ xTB := xTB_in (xt_2 (List.mem_of_getElem? (i := 174) rfl)) rfl
theorem xw_415 : (Jvm.Cond.instanceMethod ({ cls := "Rankwise$Machine", name := "<init>", desc := "(LRankwise$Desk;LRankwise$Arithmetic;)V" } : Jvm.MethodName)) ∈ xTB := xTB_in (xt_2 (List.mem_of_getElem? (i := 175) rfl)) rfl
theorem xw_416 : (Jvm.Cond.code ({ cls := "Rankwise$Machine", name := "<init>", desc := "(LRankwise$Desk;LRankwise$Arithmetic;)V" } : Jvm.MethodName) prog_6_method_1_code (4 : Nat) (Option.none : Option Jvm.ClassFile.FieldType)) ∈ xTB := xTB_in (xt_2 (List.mem_of_getElem? (i := 176) rfl)) rfl
theorem xw_417 : (Jvm.Cond.methodLink "Rankwise$Machine" (3 : Nat) ({ cls := "java/lang/Object", name := "<init>", desc := "()V" } : Jvm.MethodName)) ∈ xTB := xTB_in (xt_2 (List.mem_of_getElem? (i := 177) rfl)) rfl
theorem xw_418 : (Jvm.Cond.classLink "Rankwise$Machine" (11 : Nat) "Rankwise$Fraction") ∈ xTB := xTB_in (xt_2 (List.mem_of_getElem? (i := 178) rfl)) rfl
theorem xw_419 : (Jvm.Cond.methodLink "Rankwise$Machine" (19 : Nat) ({ cls := "Rankwise$Fraction", name := "<init>", desc := "(I)V" } : Jvm.MethodName)) ∈ xTB := xTB_in (xt_2 (List.mem_of_getElem? (i := 179) rfl)) rfl
theorem xw_420 : (Jvm.Cond.classLink "Rankwise$Machine" (30 : Nat) "Rankwise$Tree") ∈ xTB := xTB_in (xt_2 (List.mem_of_getElem? (i := 180) rfl)) rfl
theorem xw_479 : (Jvm.Cond.classLink "Rankwise" (53 : Nat) "Rankwise$Slopes") ∈ xTB := xTB_in (xt_2 (List.mem_of_getElem? (i := 239) rfl)) rfl
theorem xw_480 : (Jvm.Cond.instantiable "Rankwise$Slopes" (8 : Nat)) ∈ xTB := xTB_in (xt_3 (List.mem_of_getElem? (i := 0) rfl)) rfl
theorem xw_481 : (Jvm.Cond.methodLink "Rankwise" (55 : Nat) ({ cls := "Rankwise$Slopes", name := "<init>", desc := "(LRankwise$Machine;LRankwise$Arithmetic;)V" } : Jvm.MethodName)) ∈ xTB := xTB_in (xt_3 (List.mem_of_getElem? (i := 1) rfl)) rfl
theorem xw_482 : (Jvm.Cond.instanceMethod ({ cls := "Rankwise$Slopes", name := "<init>", desc := "(LRankwise$Machine;LRankwise$Arithmetic;)V" } : Jvm.MethodName)) ∈ xTB := xTB_in (xt_3 (List.mem_of_getElem? (i := 2) rfl)) rfl
theorem xw_483 : (Jvm.Cond.code ({ cls := "Rankwise$Slopes", name := "<init>", desc := "(LRankwise$Machine;LRankwise$Arithmetic;)V" } : Jvm.MethodName) prog_10_method_1_code (4 : Nat) (Option.none : Option Jvm.ClassFile.FieldType)) ∈ xTB := xTB_in (xt_3 (List.mem_of_getElem? (i := 3) rfl)) rfl
theorem xw_484 : (Jvm.Cond.methodLink "Rankwise$Slopes" (3 : Nat) ({ cls := "java/lang/Object", name := "<init>", desc := "()V" } : Jvm.MethodName)) ∈ xTB := xTB_in (xt_3 (List.mem_of_getElem? (i := 4) rfl)) rfl
theorem xw_485 : (Jvm.Cond.classLink "Rankwise$Slopes" (11 : Nat) "Rankwise$Fraction") ∈ xTB := xTB_in (xt_3 (List.mem_of_getElem? (i := 5) rfl)) rfl
theorem xw_486 : (Jvm.Cond.methodLink "Rankwise$Slopes" (21 : Nat) ({ cls := "Rankwise$Fraction", name := "<init>", desc := "(I)V" } : Jvm.MethodName)) ∈ xTB := xTB_in (xt_3 (List.mem_of_getElem? (i := 6) rfl)) rfl
theorem xw_512 : (Jvm.Cond.classLink "Rankwise" (62 : Nat) "Rankwise$Rewriter") ∈ xTB := xTB_in (xt_3 (List.mem_of_getElem? (i := 32) rfl)) rfl
theorem xw_513 : (Jvm.Cond.instantiable "Rankwise$Rewriter" (3 : Nat)) ∈ xTB := xTB_in (xt_3 (List.mem_of_getElem? (i := 33) rfl)) rfl
theorem xw_514 : (Jvm.Cond.methodLink "Rankwise" (64 : Nat) ({ cls := "Rankwise$Rewriter", name := "<init>", desc := "(LRankwise$Desk;)V" } : Jvm.MethodName)) ∈ xTB := xTB_in (xt_3 (List.mem_of_getElem? (i := 34) rfl)) rfl
theorem xw_515 : (Jvm.Cond.instanceMethod ({ cls := "Rankwise$Rewriter", name := "<init>", desc := "(LRankwise$Desk;)V" } : Jvm.MethodName)) ∈ xTB := xTB_in (xt_3 (List.mem_of_getElem? (i := 35) rfl)) rfl
theorem xw_516 : (Jvm.Cond.code ({ cls := "Rankwise$Rewriter", name := "<init>", desc := "(LRankwise$Desk;)V" } : Jvm.MethodName) prog_9_method_1_code (2 : Nat) (Option.none : Option Jvm.ClassFile.FieldType)) ∈ xTB := xTB_in (xt_3 (List.mem_of_getElem? (i := 36) rfl)) rfl
theorem xw_517 : (Jvm.Cond.methodLink "Rankwise$Rewriter" (3 : Nat) ({ cls := "java/lang/Object", name := "<init>", desc := "()V" } : Jvm.MethodName)) ∈ xTB := xTB_in (xt_3 (List.mem_of_getElem? (i := 37) rfl)) rfl
theorem xw_518 : (Jvm.Cond.classLink "Rankwise$Rewriter" (9 : Nat) "Rankwise$Tree") ∈ xTB := xTB_in (xt_3 (List.mem_of_getElem? (i := 38) rfl)) rfl
theorem xw_532 : (Jvm.Cond.classLink "Rankwise" (69 : Nat) "Rankwise$Gatherer") ∈ xTB := xTB_in (xt_3 (List.mem_of_getElem? (i := 52) rfl)) rfl
theorem xw_533 : (Jvm.Cond.instantiable "Rankwise$Gatherer" (13 : Nat)) ∈ xTB := xTB_in (xt_3 (List.mem_of_getElem? (i := 53) rfl)) rfl
theorem xw_534 : (Jvm.Cond.methodLink "Rankwise" (71 : Nat) ({ cls := "Rankwise$Gatherer", name := "<init>", desc := "(LRankwise$Desk;LRankwise$Arithmetic;)V" } : Jvm.MethodName)) ∈ xTB := xTB_in (xt_3 (List.mem_of_getElem? (i := 54) rfl)) rfl
theorem xw_535 : (Jvm.Cond.instanceMethod ({ cls := "Rankwise$Gatherer", name := "<init>", desc := "(LRankwise$Desk;LRankwise$Arithmetic;)V" } : Jvm.MethodName)) ∈ xTB := xTB_in (xt_3 (List.mem_of_getElem? (i := 55) rfl)) rfl
theorem xw_536 : (Jvm.Cond.code ({ cls := "Rankwise$Gatherer", name := "<init>", desc := "(LRankwise$Desk;LRankwise$Arithmetic;)V" } : Jvm.MethodName) prog_5_method_1_code (4 : Nat) (Option.none : Option Jvm.ClassFile.FieldType)) ∈ xTB := xTB_in (xt_3 (List.mem_of_getElem? (i := 56) rfl)) rfl
theorem xw_537 : (Jvm.Cond.methodLink "Rankwise$Gatherer" (3 : Nat) ({ cls := "java/lang/Object", name := "<init>", desc := "()V" } : Jvm.MethodName)) ∈ xTB := xTB_in (xt_3 (List.mem_of_getElem? (i := 57) rfl)) rfl
theorem xw_538 : (Jvm.Cond.classLink "Rankwise$Gatherer" (11 : Nat) "Rankwise$Fraction") ∈ xTB := xTB_in (xt_3 (List.mem_of_getElem? (i := 58) rfl)) rfl
theorem xw_539 : (Jvm.Cond.methodLink "Rankwise$Gatherer" (29 : Nat) ({ cls := "Rankwise$Fraction", name := "<init>", desc := "(I)V" } : Jvm.MethodName)) ∈ xTB := xTB_in (xt_3 (List.mem_of_getElem? (i := 59) rfl)) rfl
theorem xw_540 : (Jvm.Cond.fieldLink "Rankwise$Gatherer" (51 : Nat) "Rankwise$Gatherer" "desk" "LRankwise$Desk;") ∈ xTB := xTB_in (xt_3 (List.mem_of_getElem? (i := 60) rfl)) rfl
theorem xw_541 : (Jvm.Cond.fieldLink "Rankwise$Gatherer" (55 : Nat) "Rankwise$Gatherer" "arithmetic" "LRankwise$Arithmetic;") ∈ xTB := xTB_in (xt_3 (List.mem_of_getElem? (i := 61) rfl)) rfl
theorem xw_542 : (Jvm.Cond.fieldLink "Rankwise$Gatherer" (13 : Nat) "Rankwise$Gatherer" "rows" "[LRankwise$Fraction;") ∈ xTB := xTB_in (xt_3 (List.mem_of_getElem? (i := 62) rfl)) rfl
theorem xw_543 : (Jvm.Cond.fieldLink "Rankwise$Gatherer" (17 : Nat) "Rankwise$Gatherer" "degrees" "[I") ∈ xTB := xTB_in (xt_3 (List.mem_of_getElem? (i := 63) rfl)) rfl
theorem xw_544 : (Jvm.Cond.fieldLink "Rankwise$Gatherer" (21 : Nat) "Rankwise$Gatherer" "product" "[LRankwise$Fraction;") ∈ xTB := xTB_in (xt_3 (List.mem_of_getElem? (i := 64) rfl)) rfl
theorem xw_545 : (Jvm.Cond.fieldLink "Rankwise$Gatherer" (24 : Nat) "Rankwise$Gatherer" "factor" "[LRankwise$Fraction;") ∈ xTB := xTB_in (xt_3 (List.mem_of_getElem? (i := 65) rfl)) rfl
theorem xw_546 : (Jvm.Cond.fieldLink "Rankwise$Gatherer" (32 : Nat) "Rankwise$Gatherer" "wide" "LRankwise$Fraction;") ∈ xTB := xTB_in (xt_3 (List.mem_of_getElem? (i := 66) rfl)) rfl
theorem xw_547 : (Jvm.Cond.fieldLink "Rankwise$Gatherer" (36 : Nat) "Rankwise$Gatherer" "other" "LRankwise$Fraction;") ∈ xTB := xTB_in (xt_3 (List.mem_of_getElem? (i := 67) rfl)) rfl
theorem xw_548 : (Jvm.Cond.fieldLink "Rankwise$Gatherer" (39 : Nat) "Rankwise$Gatherer" "kept" "[LRankwise$Fraction;") ∈ xTB := xTB_in (xt_3 (List.mem_of_getElem? (i := 68) rfl)) rfl
theorem xw_549 : (Jvm.Cond.fieldLink "Rankwise$Gatherer" (42 : Nat) "Rankwise$Gatherer" "alone" "LRankwise$Fraction;") ∈ xTB := xTB_in (xt_3 (List.mem_of_getElem? (i := 69) rfl)) rfl
theorem xw_550 : (Jvm.Cond.fieldLink "Rankwise$Gatherer" (45 : Nat) "Rankwise$Gatherer" "named" "LRankwise$Fraction;") ∈ xTB := xTB_in (xt_3 (List.mem_of_getElem? (i := 70) rfl)) rfl
theorem xw_551 : (Jvm.Cond.fieldLink "Rankwise$Gatherer" (48 : Nat) "Rankwise$Gatherer" "solution" "LRankwise$Fraction;") ∈ xTB := xTB_in (xt_3 (List.mem_of_getElem? (i := 71) rfl)) rfl
theorem xw_579 : (Jvm.Cond.classLink "Rankwise" (76 : Nat) "Rankwise$Fraction") ∈ xTB := xTB_in (xt_3 (List.mem_of_getElem? (i := 99) rfl)) rfl
theorem xw_580 : (Jvm.Cond.methodLink "Rankwise" (80 : Nat) ({ cls := "Rankwise$Fraction", name := "<init>", desc := "(I)V" } : Jvm.MethodName)) ∈ xTB := xTB_in (xt_3 (List.mem_of_getElem? (i := 100) rfl)) rfl
theorem xw_581 : (Jvm.Cond.classLink "Rankwise" (90 : Nat) "Rankwise$Tree") ∈ xTB := xTB_in (xt_3 (List.mem_of_getElem? (i := 101) rfl)) rfl
theorem xw_592 : (Jvm.Cond.fieldLink "Rankwise" (72 : Nat) "Rankwise" "gatherer" "LRankwise$Gatherer;") ∈ xTB := xTB_in (xt_3 (List.mem_of_getElem? (i := 112) rfl)) rfl
abbrev J_X11_init : xJ := (RX11, yX11_init, cX11_init, 2, (Option.none : Option Jvm.ClassFile.FieldType))
abbrev J_X0_init : xJ := (RX0, yX0_init, cX0_init, 1, (Option.none : Option Jvm.ClassFile.FieldType))
abbrev J_X1_init : xJ := (RX1, yX1_init, cX1_init, 2, (Option.none : Option Jvm.ClassFile.FieldType))
abbrev J_X2_init : xJ := (RX2, yX2_init, cX2_init, 2, (Option.none : Option Jvm.ClassFile.FieldType))
abbrev J_X3_init : xJ := (RX3, yX3_init, cX3_init, 4, (Option.none : Option Jvm.ClassFile.FieldType))
abbrev J_X4_init : xJ := (RX4, yX4_init, cX4_init, 4, (Option.none : Option Jvm.ClassFile.FieldType))
abbrev J_X5_init : xJ := (RX5, yX5_init, cX5_init, 2, (Option.none : Option Jvm.ClassFile.FieldType))
abbrev J_X6_init : xJ := (RX6, yX6_init, cX6_init, 2, (Option.none : Option Jvm.ClassFile.FieldType))
abbrev J_X7_init : xJ := (RX7, yX7_init, cX7_init, 2, (Option.none : Option Jvm.ClassFile.FieldType))
abbrev J_X8_init : xJ := (RX8, yX8_init, cX8_init, 4, (Option.none : Option Jvm.ClassFile.FieldType))
abbrev J_X9_init : xJ := (RX9, yX9_init, cX9_init, 1, (Option.none : Option Jvm.ClassFile.FieldType))
abbrev J_X10_init : xJ := (RX10, yX10_init, cX10_init, 2, (Option.none : Option Jvm.ClassFile.FieldType))
theorem xc_X11_init (J : xJ) (d : Nat) : xCal J J_X11_init d 0 := ⟨xw_29, rfl, xw_1, by decide +kernel, rfl, ⟨by decide, by decide⟩, by decide +kernel, by decide⟩
theorem xc_X0_init (J : xJ) (d : Nat) : xCal J J_X0_init d 0 := ⟨xw_37, rfl, xw_2, by decide +kernel, rfl, ⟨by decide, by decide⟩, by decide +kernel, by decide⟩
theorem xc_X1_init (J : xJ) (d : Nat) : xCal J J_X1_init d 0 := ⟨xw_75, rfl, xw_4, by decide +kernel, rfl, ⟨by decide, by decide⟩, by decide +kernel, by decide⟩
theorem xc_X2_init (J : xJ) (d : Nat) : xCal J J_X2_init d 1 := ⟨xw_247, rfl, xw_12, by decide +kernel, rfl, ⟨by decide, by decide⟩, by decide +kernel, by decide⟩
theorem xc_X3_init (J : xJ) (d : Nat) : xCal J J_X3_init d 2 := ⟨xw_536, rfl, xw_18, by decide +kernel, rfl, ⟨by decide, by decide⟩, by decide +kernel, by decide⟩
theorem xc_X4_init (J : xJ) (d : Nat) : xCal J J_X4_init d 2 := ⟨xw_416, rfl, xw_15, by decide +kernel, rfl, ⟨by decide, by decide⟩, by decide +kernel, by decide⟩
theorem xc_X5_init (J : xJ) (d : Nat) : xCal J J_X5_init d 1 := ⟨xw_393, rfl, xw_14, by decide +kernel, rfl, ⟨by decide, by decide⟩, by decide +kernel, by decide⟩
theorem xc_X6_init (J : xJ) (d : Nat) : xCal J J_X6_init d 1 := ⟨xw_325, rfl, xw_13, by decide +kernel, rfl, ⟨by decide, by decide⟩, by decide +kernel, by decide⟩
theorem xc_X7_init (J : xJ) (d : Nat) : xCal J J_X7_init d 1 := ⟨xw_516, rfl, xw_17, by decide +kernel, rfl, ⟨by decide, by decide⟩, by decide +kernel, by decide⟩
theorem xc_X8_init (J : xJ) (d : Nat) : xCal J J_X8_init d 2 := ⟨xw_483, rfl, xw_16, by decide +kernel, rfl, ⟨by decide, by decide⟩, by decide +kernel, by decide⟩
theorem xc_X9_init (J : xJ) (d : Nat) : xCal J J_X9_init d 0 := ⟨xw_189, rfl, xw_11, by decide +kernel, rfl, ⟨by decide, by decide⟩, by decide +kernel, by decide⟩
theorem xc_X10_init (J : xJ) (d : Nat) : xCal J J_X10_init d 1 := ⟨xw_43, rfl, xw_3, by decide +kernel, rfl, ⟨by decide, by decide⟩, by decide +kernel, by decide⟩
-- Rankwise$Whole constructor 7: cells 1, slots 7
set_option maxRecDepth 20000 in
def f_X10_init7 (σ : xM) (l0 : Nat) : Option xM :=
  (nwA σ 14 (7 : Int32) (componentBytes .int) [l0, l0]).bind (fun σ1 => (sR σ1 l0 10 0 σ.1).bind (fun σ2 => some σ2))
set_option maxHeartbeats 4000000 in
set_option maxRecDepth 20000 in
theorem m_X10_init7 {G : xG} {π : Nat → Nat} {d : Nat} {Q : xQ} {σ : xM} {l0 : Nat} {τ : xM} (hf : f_X10_init7 σ l0 = some τ) (hP : xPost σ.1 π τ Q) : xMach G π J_X10_init (d + 1) 1 7 0 (lv_args 0 [.ref l0, .int (7 : Int32)]) [] σ Q := by
  unfold f_X10_init7 at hf
  have hn : σ.1 ≤ σ.1 := Nat.le_refl _
  generalize hn0 : σ.1 = n0 at hP hn
  have hn : n0 ≤ σ.1 := by omega
  clear hn0
  refine xm_stL (L' := [(0, .ref l0), (1, .int (7 : Int32))]) rfl ?_
  refine xm_aload_n dX10_init_0 rfl ?_
  refine xm_objInit dX10_init_1 xw_44 xw_31 xw_32 (Nat.le_of_ble_eq_true rfl) ?_
  refine xm_aload_n dX10_init_4 rfl ?_
  refine xm_iload_n dX10_init_5 rfl ?_
  refine xm_bipush dX10_init_6 (v := 7) (by decide) ?_
  refine xm_icmp_le 15 dX10_init_8 (by decide) (fun _ => ?_) (fun q => absurd q (by decide))
  refine xm_bipush dX10_init_15 (v := 7) (by decide) ?_
  refine xb_newaI (N := 7) (C9 := 0) (Z9 := 0) dX10_init_17 xw_57 rfl (by omega) (by omega) rfl hn hP hf (fun σ1 π hf hn hP => ?_)
  refine xb_putRc (a := l0) (c := 10) (k := 0) (v := σ.1) dX10_init_19 xcl10 (by decide) xw_45 rfl rfl rfl (fun z => by cases z <;> rfl) (fun z => by cases z <;> rfl) rfl hn hf (fun σ2 hf hn => ?_)
  cases hf
  exact xm_vret dX10_init_22 rfl (hP π xag_rf)
-- Rankwise$Fraction constructor 7: cells 4, slots 20
set_option maxRecDepth 20000 in
def f_X2_init7 (σ : xM) (l0 : Nat) : Option xM :=
  (nwO σ 10 [l0, l0]).bind (fun σ1 => (f_X10_init7 σ1 σ.1).bind (fun τ3 => (cdo σ1 τ3 [σ.1, l0, l0]).bind (fun σ2 => (sR σ2 l0 2 0 σ.1).bind (fun σ4 => (nwO σ4 10 [l0, l0]).bind (fun σ5 => (f_X10_init7 σ5 σ4.1).bind (fun τ7 => (cdo σ5 τ7 [σ4.1, l0, l0]).bind (fun σ6 => (sR σ6 l0 2 1 σ4.1).bind (fun σ8 => (gR σ8 l0 2 1).bind (fun x9 => (if xk σ8 x9 10 = true then (f_X10_set σ8 x9 (1 : Int64)).bind (fun p10 => (cdo σ8 p10 []).bind (fun p10 => some p10)) else none))))))))))
set_option maxHeartbeats 4000000 in
set_option maxRecDepth 20000 in
theorem m_X2_init7 {G : xG} {π : Nat → Nat} {d : Nat} {Q : xQ} {σ : xM} {l0 : Nat} {τ : xM} (hf : f_X2_init7 σ l0 = some τ) (hP : xPost σ.1 π τ Q) : xMach G π J_X2_init (d + 2) 4 20 0 (lv_args 0 [.ref l0, .int (7 : Int32)]) [] σ Q := by
  unfold f_X2_init7 at hf
  have hn : σ.1 ≤ σ.1 := Nat.le_refl _
  generalize hn0 : σ.1 = n0 at hP hn
  have hn : n0 ≤ σ.1 := by omega
  clear hn0
  refine xm_stL (L' := [(0, .ref l0), (1, .int (7 : Int32))]) rfl ?_
  refine xm_aload_n dX2_init_0 rfl ?_
  refine xm_objInit dX2_init_1 xw_248 xw_31 xw_32 (Nat.le_of_ble_eq_true rfl) ?_
  refine xm_aload_n dX2_init_4 rfl ?_
  refine xb_new (N := 3) (C9 := 3) (Z9 := 17) dX2_init_5 xcl10 xw_249 xw_40 xw_3 xdf10 (by omega) (by omega) rfl hn hP hf (fun σ1 π hf hn hP => ?_)
  refine xm_dup dX2_init_8 rfl ?_
  refine xm_iload_n dX2_init_9 rfl ?_
  obtain ⟨τ3, eτ3, hf⟩ := xbind hf
  refine xb_ctor (J' := J_X10_init) (τ1 := τ3) (C1 := 1) (Z1 := 7) (C9 := 2) (Z9 := 10) (As := [.int (7 : Int32)]) dX2_init_10 (xc_X10_init _ _) rfl rfl xw_250 xw_42 rfl (Nat.le_of_ble_eq_true rfl) rfl (Nat.le_of_ble_eq_true rfl) (fun Q1 hq => m_X10_init7 (d := d + 0) eτ3 hq) (by omega) (by omega) rfl hn hP hf (fun σ2 π hf hn hP => ?_)
  refine xb_putRc (a := l0) (c := 2) (k := 0) (v := σ.1) dX2_init_13 xcl2 (by decide) xw_256 rfl rfl rfl (fun z => by cases z <;> rfl) (fun z => by cases z <;> rfl) rfl hn hf (fun σ4 hf hn => ?_)
  refine xm_aload_n dX2_init_16 rfl ?_
  refine xb_new (N := 3) (C9 := 1) (Z9 := 7) dX2_init_17 xcl10 xw_249 xw_40 xw_3 xdf10 (by omega) (by omega) rfl hn hP hf (fun σ5 π hf hn hP => ?_)
  refine xm_dup dX2_init_20 rfl ?_
  refine xm_iload_n dX2_init_21 rfl ?_
  obtain ⟨τ7, eτ7, hf⟩ := xbind hf
  refine xb_ctor (J' := J_X10_init) (τ1 := τ7) (C1 := 1) (Z1 := 7) (C9 := 0) (Z9 := 0) (As := [.int (7 : Int32)]) dX2_init_22 (xc_X10_init _ _) rfl rfl xw_250 xw_42 rfl (Nat.le_of_ble_eq_true rfl) rfl (Nat.le_of_ble_eq_true rfl) (fun Q1 hq => m_X10_init7 (d := d + 0) eτ7 hq) (by omega) (by omega) rfl hn hP hf (fun σ6 π hf hn hP => ?_)
  refine xb_putRc (a := l0) (c := 2) (k := 1) (v := σ4.1) dX2_init_25 xcl2 (by decide) xw_261 rfl rfl rfl (fun z => by cases z <;> rfl) (fun z => by cases z <;> rfl) rfl hn hf (fun σ8 hf hn => ?_)
  refine xm_aload_n dX2_init_28 rfl ?_
  refine xb_getR (a := l0) (c := 2) (k := 1) dX2_init_29 xcl2 (by decide) xw_261 rfl hf (fun x9 ex9 hf => ?_)
  refine xm_lconst dX2_init_32 (v := 1) (by decide) ?_
  refine xb_if hf (fun hb hf => ?_) (fun _ q => nomatch q)
  obtain ⟨p10, ep10, hf⟩ := xbind hf
  refine xb_callV (As := [.long (1 : Int64)]) (v0 := none) (τ0 := p10) dX2_init_33 (xc_X10_set _ _) xcl10 xw_251 xw_252 xw_253 hb rfl (Nat.le_of_ble_eq_true rfl) rfl (Nat.le_of_ble_eq_true rfl) (fun Q1 hq => m_X10_set (d := d + 1) ep10 (fun g hg => by subst hg; exact hq)) ?_
  refine xb_grow hn hf (fun hf hn => ?_)
  cases hf
  exact xm_vret dX2_init_36 rfl (hP π xag_rf)
-- Rankwise$Whole constructor 100: cells 1, slots 100
set_option maxRecDepth 20000 in
def f_X10_init100 (σ : xM) (l0 : Nat) : Option xM :=
  (nwA σ 14 (100 : Int32) (componentBytes .int) [l0, l0]).bind (fun σ1 => (sR σ1 l0 10 0 σ.1).bind (fun σ2 => some σ2))
set_option maxHeartbeats 4000000 in
set_option maxRecDepth 20000 in
theorem m_X10_init100 {G : xG} {π : Nat → Nat} {d : Nat} {Q : xQ} {σ : xM} {l0 : Nat} {τ : xM} (hf : f_X10_init100 σ l0 = some τ) (hP : xPost σ.1 π τ Q) : xMach G π J_X10_init (d + 1) 1 100 0 (lv_args 0 [.ref l0, .int (100 : Int32)]) [] σ Q := by
  unfold f_X10_init100 at hf
  have hn : σ.1 ≤ σ.1 := Nat.le_refl _
  generalize hn0 : σ.1 = n0 at hP hn
  have hn : n0 ≤ σ.1 := by omega
  clear hn0
  refine xm_stL (L' := [(0, .ref l0), (1, .int (100 : Int32))]) rfl ?_
  refine xm_aload_n dX10_init_0 rfl ?_
  refine xm_objInit dX10_init_1 xw_44 xw_31 xw_32 (Nat.le_of_ble_eq_true rfl) ?_
  refine xm_aload_n dX10_init_4 rfl ?_
  refine xm_iload_n dX10_init_5 rfl ?_
  refine xm_bipush dX10_init_6 (v := 7) (by decide) ?_
  refine xm_icmp_le 15 dX10_init_8 (by decide) (fun q => absurd q (by decide)) (fun _ => ?_)
  refine xm_iload_n dX10_init_11 rfl ?_
  refine xm_goto 17 dX10_init_12 (by decide) ?_
  refine xb_newaI (N := 100) (C9 := 0) (Z9 := 0) dX10_init_17 xw_57 rfl (by omega) (by omega) rfl hn hP hf (fun σ1 π hf hn hP => ?_)
  refine xb_putRc (a := l0) (c := 10) (k := 0) (v := σ.1) dX10_init_19 xcl10 (by decide) xw_45 rfl rfl rfl (fun z => by cases z <;> rfl) (fun z => by cases z <;> rfl) rfl hn hf (fun σ2 hf hn => ?_)
  cases hf
  exact xm_vret dX10_init_22 rfl (hP π xag_rf)
-- Rankwise$Fraction constructor 100: cells 4, slots 206
set_option maxRecDepth 20000 in
def f_X2_init100 (σ : xM) (l0 : Nat) : Option xM :=
  (nwO σ 10 [l0, l0]).bind (fun σ1 => (f_X10_init100 σ1 σ.1).bind (fun τ3 => (cdo σ1 τ3 [σ.1, l0, l0]).bind (fun σ2 => (sR σ2 l0 2 0 σ.1).bind (fun σ4 => (nwO σ4 10 [l0, l0]).bind (fun σ5 => (f_X10_init100 σ5 σ4.1).bind (fun τ7 => (cdo σ5 τ7 [σ4.1, l0, l0]).bind (fun σ6 => (sR σ6 l0 2 1 σ4.1).bind (fun σ8 => (gR σ8 l0 2 1).bind (fun x9 => (if xk σ8 x9 10 = true then (f_X10_set σ8 x9 (1 : Int64)).bind (fun p10 => (cdo σ8 p10 []).bind (fun p10 => some p10)) else none))))))))))
set_option maxHeartbeats 4000000 in
set_option maxRecDepth 20000 in
theorem m_X2_init100 {G : xG} {π : Nat → Nat} {d : Nat} {Q : xQ} {σ : xM} {l0 : Nat} {τ : xM} (hf : f_X2_init100 σ l0 = some τ) (hP : xPost σ.1 π τ Q) : xMach G π J_X2_init (d + 2) 4 206 0 (lv_args 0 [.ref l0, .int (100 : Int32)]) [] σ Q := by
  unfold f_X2_init100 at hf
  have hn : σ.1 ≤ σ.1 := Nat.le_refl _
  generalize hn0 : σ.1 = n0 at hP hn
  have hn : n0 ≤ σ.1 := by omega
  clear hn0
  refine xm_stL (L' := [(0, .ref l0), (1, .int (100 : Int32))]) rfl ?_
  refine xm_aload_n dX2_init_0 rfl ?_
  refine xm_objInit dX2_init_1 xw_248 xw_31 xw_32 (Nat.le_of_ble_eq_true rfl) ?_
  refine xm_aload_n dX2_init_4 rfl ?_
  refine xb_new (N := 3) (C9 := 3) (Z9 := 203) dX2_init_5 xcl10 xw_249 xw_40 xw_3 xdf10 (by omega) (by omega) rfl hn hP hf (fun σ1 π hf hn hP => ?_)
  refine xm_dup dX2_init_8 rfl ?_
  refine xm_iload_n dX2_init_9 rfl ?_
  obtain ⟨τ3, eτ3, hf⟩ := xbind hf
  refine xb_ctor (J' := J_X10_init) (τ1 := τ3) (C1 := 1) (Z1 := 100) (C9 := 2) (Z9 := 103) (As := [.int (100 : Int32)]) dX2_init_10 (xc_X10_init _ _) rfl rfl xw_250 xw_42 rfl (Nat.le_of_ble_eq_true rfl) rfl (Nat.le_of_ble_eq_true rfl) (fun Q1 hq => m_X10_init100 (d := d + 0) eτ3 hq) (by omega) (by omega) rfl hn hP hf (fun σ2 π hf hn hP => ?_)
  refine xb_putRc (a := l0) (c := 2) (k := 0) (v := σ.1) dX2_init_13 xcl2 (by decide) xw_256 rfl rfl rfl (fun z => by cases z <;> rfl) (fun z => by cases z <;> rfl) rfl hn hf (fun σ4 hf hn => ?_)
  refine xm_aload_n dX2_init_16 rfl ?_
  refine xb_new (N := 3) (C9 := 1) (Z9 := 100) dX2_init_17 xcl10 xw_249 xw_40 xw_3 xdf10 (by omega) (by omega) rfl hn hP hf (fun σ5 π hf hn hP => ?_)
  refine xm_dup dX2_init_20 rfl ?_
  refine xm_iload_n dX2_init_21 rfl ?_
  obtain ⟨τ7, eτ7, hf⟩ := xbind hf
  refine xb_ctor (J' := J_X10_init) (τ1 := τ7) (C1 := 1) (Z1 := 100) (C9 := 0) (Z9 := 0) (As := [.int (100 : Int32)]) dX2_init_22 (xc_X10_init _ _) rfl rfl xw_250 xw_42 rfl (Nat.le_of_ble_eq_true rfl) rfl (Nat.le_of_ble_eq_true rfl) (fun Q1 hq => m_X10_init100 (d := d + 0) eτ7 hq) (by omega) (by omega) rfl hn hP hf (fun σ6 π hf hn hP => ?_)
  refine xb_putRc (a := l0) (c := 2) (k := 1) (v := σ4.1) dX2_init_25 xcl2 (by decide) xw_261 rfl rfl rfl (fun z => by cases z <;> rfl) (fun z => by cases z <;> rfl) rfl hn hf (fun σ8 hf hn => ?_)
  refine xm_aload_n dX2_init_28 rfl ?_
  refine xb_getR (a := l0) (c := 2) (k := 1) dX2_init_29 xcl2 (by decide) xw_261 rfl hf (fun x9 ex9 hf => ?_)
  refine xm_lconst dX2_init_32 (v := 1) (by decide) ?_
  refine xb_if hf (fun hb hf => ?_) (fun _ q => nomatch q)
  obtain ⟨p10, ep10, hf⟩ := xbind hf
  refine xb_callV (As := [.long (1 : Int64)]) (v0 := none) (τ0 := p10) dX2_init_33 (xc_X10_set _ _) xcl10 xw_251 xw_252 xw_253 hb rfl (Nat.le_of_ble_eq_true rfl) rfl (Nat.le_of_ble_eq_true rfl) (fun Q1 hq => m_X10_set (d := d + 1) ep10 (fun g hg => by subst hg; exact hq)) ?_
  refine xb_grow hn hf (fun hf hn => ?_)
  cases hf
  exact xm_vret dX2_init_36 rfl (hP π xag_rf)
-- Rankwise$Arithmetic constructor : cells 8, slots 412
set_option maxRecDepth 20000 in
def f_X0_init (σ : xM) (l0 : Nat) : Option xM :=
  (nwO σ 10 [l0, l0]).bind (fun σ1 => (f_X10_init100 σ1 σ.1).bind (fun τ3 => (cdo σ1 τ3 [σ.1, l0, l0]).bind (fun σ2 => (sR σ2 l0 0 0 σ.1).bind (fun σ4 => (nwO σ4 10 [l0, l0]).bind (fun σ5 => (f_X10_init100 σ5 σ4.1).bind (fun τ7 => (cdo σ5 τ7 [σ4.1, l0, l0]).bind (fun σ6 => (sR σ6 l0 0 1 σ4.1).bind (fun σ8 => (nwO σ8 10 [l0, l0]).bind (fun σ9 => (f_X10_init100 σ9 σ8.1).bind (fun τ11 => (cdo σ9 τ11 [σ8.1, l0, l0]).bind (fun σ10 => (sR σ10 l0 0 2 σ8.1).bind (fun σ12 => (nwO σ12 10 [l0, l0]).bind (fun σ13 => (f_X10_init100 σ13 σ12.1).bind (fun τ15 => (cdo σ13 τ15 [σ12.1, l0, l0]).bind (fun σ14 => (sR σ14 l0 0 3 σ12.1).bind (fun σ16 => some σ16))))))))))))))))
set_option maxHeartbeats 4000000 in
set_option maxRecDepth 20000 in
theorem m_X0_init {G : xG} {π : Nat → Nat} {d : Nat} {Q : xQ} {σ : xM} {l0 : Nat} {τ : xM} (hf : f_X0_init σ l0 = some τ) (hP : xPost σ.1 π τ Q) : xMach G π J_X0_init (d + 2) 8 412 0 (lv_args 0 [.ref l0]) [] σ Q := by
  unfold f_X0_init at hf
  have hn : σ.1 ≤ σ.1 := Nat.le_refl _
  generalize hn0 : σ.1 = n0 at hP hn
  have hn : n0 ≤ σ.1 := by omega
  clear hn0
  refine xm_stL (L' := [(0, .ref l0)]) rfl ?_
  refine xm_aload_n dX0_init_0 rfl ?_
  refine xm_objInit dX0_init_1 xw_38 xw_31 xw_32 (Nat.le_of_ble_eq_true rfl) ?_
  refine xm_aload_n dX0_init_4 rfl ?_
  refine xb_new (N := 3) (C9 := 7) (Z9 := 409) dX0_init_5 xcl10 xw_39 xw_40 xw_3 xdf10 (by omega) (by omega) rfl hn hP hf (fun σ1 π hf hn hP => ?_)
  refine xm_dup dX0_init_8 rfl ?_
  refine xm_bipush dX0_init_9 (v := 100) (by decide) ?_
  obtain ⟨τ3, eτ3, hf⟩ := xbind hf
  refine xb_ctor (J' := J_X10_init) (τ1 := τ3) (C1 := 1) (Z1 := 100) (C9 := 6) (Z9 := 309) (As := [.int (100 : Int32)]) dX0_init_11 (xc_X10_init _ _) rfl rfl xw_41 xw_42 rfl (Nat.le_of_ble_eq_true rfl) rfl (Nat.le_of_ble_eq_true rfl) (fun Q1 hq => m_X10_init100 (d := d + 0) eτ3 hq) (by omega) (by omega) rfl hn hP hf (fun σ2 π hf hn hP => ?_)
  refine xb_putRc (a := l0) (c := 0) (k := 0) (v := σ.1) dX0_init_14 xcl0 (by decide) xw_58 rfl rfl rfl (fun z => by cases z <;> rfl) (fun z => by cases z <;> rfl) rfl hn hf (fun σ4 hf hn => ?_)
  refine xm_aload_n dX0_init_17 rfl ?_
  refine xb_new (N := 3) (C9 := 5) (Z9 := 306) dX0_init_18 xcl10 xw_39 xw_40 xw_3 xdf10 (by omega) (by omega) rfl hn hP hf (fun σ5 π hf hn hP => ?_)
  refine xm_dup dX0_init_21 rfl ?_
  refine xm_bipush dX0_init_22 (v := 100) (by decide) ?_
  obtain ⟨τ7, eτ7, hf⟩ := xbind hf
  refine xb_ctor (J' := J_X10_init) (τ1 := τ7) (C1 := 1) (Z1 := 100) (C9 := 4) (Z9 := 206) (As := [.int (100 : Int32)]) dX0_init_24 (xc_X10_init _ _) rfl rfl xw_41 xw_42 rfl (Nat.le_of_ble_eq_true rfl) rfl (Nat.le_of_ble_eq_true rfl) (fun Q1 hq => m_X10_init100 (d := d + 0) eτ7 hq) (by omega) (by omega) rfl hn hP hf (fun σ6 π hf hn hP => ?_)
  refine xb_putRc (a := l0) (c := 0) (k := 1) (v := σ4.1) dX0_init_27 xcl0 (by decide) xw_59 rfl rfl rfl (fun z => by cases z <;> rfl) (fun z => by cases z <;> rfl) rfl hn hf (fun σ8 hf hn => ?_)
  refine xm_aload_n dX0_init_30 rfl ?_
  refine xb_new (N := 3) (C9 := 3) (Z9 := 203) dX0_init_31 xcl10 xw_39 xw_40 xw_3 xdf10 (by omega) (by omega) rfl hn hP hf (fun σ9 π hf hn hP => ?_)
  refine xm_dup dX0_init_34 rfl ?_
  refine xm_bipush dX0_init_35 (v := 100) (by decide) ?_
  obtain ⟨τ11, eτ11, hf⟩ := xbind hf
  refine xb_ctor (J' := J_X10_init) (τ1 := τ11) (C1 := 1) (Z1 := 100) (C9 := 2) (Z9 := 103) (As := [.int (100 : Int32)]) dX0_init_37 (xc_X10_init _ _) rfl rfl xw_41 xw_42 rfl (Nat.le_of_ble_eq_true rfl) rfl (Nat.le_of_ble_eq_true rfl) (fun Q1 hq => m_X10_init100 (d := d + 0) eτ11 hq) (by omega) (by omega) rfl hn hP hf (fun σ10 π hf hn hP => ?_)
  refine xb_putRc (a := l0) (c := 0) (k := 2) (v := σ8.1) dX0_init_40 xcl0 (by decide) xw_60 rfl rfl rfl (fun z => by cases z <;> rfl) (fun z => by cases z <;> rfl) rfl hn hf (fun σ12 hf hn => ?_)
  refine xm_aload_n dX0_init_43 rfl ?_
  refine xb_new (N := 3) (C9 := 1) (Z9 := 100) dX0_init_44 xcl10 xw_39 xw_40 xw_3 xdf10 (by omega) (by omega) rfl hn hP hf (fun σ13 π hf hn hP => ?_)
  refine xm_dup dX0_init_47 rfl ?_
  refine xm_bipush dX0_init_48 (v := 100) (by decide) ?_
  obtain ⟨τ15, eτ15, hf⟩ := xbind hf
  refine xb_ctor (J' := J_X10_init) (τ1 := τ15) (C1 := 1) (Z1 := 100) (C9 := 0) (Z9 := 0) (As := [.int (100 : Int32)]) dX0_init_50 (xc_X10_init _ _) rfl rfl xw_41 xw_42 rfl (Nat.le_of_ble_eq_true rfl) rfl (Nat.le_of_ble_eq_true rfl) (fun Q1 hq => m_X10_init100 (d := d + 0) eτ15 hq) (by omega) (by omega) rfl hn hP hf (fun σ14 π hf hn hP => ?_)
  refine xb_putRc (a := l0) (c := 0) (k := 3) (v := σ12.1) dX0_init_53 xcl0 (by decide) xw_61 rfl rfl rfl (fun z => by cases z <;> rfl) (fun z => by cases z <;> rfl) rfl hn hf (fun σ16 hf hn => ?_)
  cases hf
  exact xm_vret dX0_init_56 rfl (hP π xag_rf)
-- Rankwise$Tree constructor : cells 7, slots 560
set_option maxRecDepth 20000 in
def f_X9_init (σ : xM) (l0 : Nat) : Option xM :=
  (nwA σ 14 (80 : Int32) (componentBytes .int) [l0, l0]).bind (fun σ1 => (sR σ1 l0 9 0 σ.1).bind (fun σ2 => (nwA σ2 14 (80 : Int32) (componentBytes .int) [l0, l0]).bind (fun σ3 => (sR σ3 l0 9 1 σ2.1).bind (fun σ4 => (nwA σ4 14 (80 : Int32) (componentBytes .int) [l0, l0]).bind (fun σ5 => (sR σ5 l0 9 2 σ4.1).bind (fun σ6 => (nwA σ6 14 (80 : Int32) (componentBytes .int) [l0, l0]).bind (fun σ7 => (sR σ7 l0 9 3 σ6.1).bind (fun σ8 => (nwA σ8 14 (80 : Int32) (componentBytes .int) [l0, l0]).bind (fun σ9 => (sR σ9 l0 9 4 σ8.1).bind (fun σ10 => (nwA σ10 14 (80 : Int32) (componentBytes .int) [l0, l0]).bind (fun σ11 => (sR σ11 l0 9 5 σ10.1).bind (fun σ12 => (nwA σ12 14 (80 : Int32) (componentBytes .int) [l0, l0]).bind (fun σ13 => (sR σ13 l0 9 6 σ12.1).bind (fun σ14 => some σ14))))))))))))))
set_option maxHeartbeats 4000000 in
set_option maxRecDepth 20000 in
theorem m_X9_init {G : xG} {π : Nat → Nat} {d : Nat} {Q : xQ} {σ : xM} {l0 : Nat} {τ : xM} (hf : f_X9_init σ l0 = some τ) (hP : xPost σ.1 π τ Q) : xMach G π J_X9_init (d + 1) 7 560 0 (lv_args 0 [.ref l0]) [] σ Q := by
  unfold f_X9_init at hf
  have hn : σ.1 ≤ σ.1 := Nat.le_refl _
  generalize hn0 : σ.1 = n0 at hP hn
  have hn : n0 ≤ σ.1 := by omega
  clear hn0
  refine xm_stL (L' := [(0, .ref l0)]) rfl ?_
  refine xm_aload_n dX9_init_0 rfl ?_
  refine xm_objInit dX9_init_1 xw_190 xw_31 xw_32 (Nat.le_of_ble_eq_true rfl) ?_
  refine xm_aload_n dX9_init_4 rfl ?_
  refine xm_bipush dX9_init_5 (v := 80) (by decide) ?_
  refine xb_newaI (N := 80) (C9 := 6) (Z9 := 480) dX9_init_7 xw_57 rfl (by omega) (by omega) rfl hn hP hf (fun σ1 π hf hn hP => ?_)
  refine xb_putRc (a := l0) (c := 9) (k := 0) (v := σ.1) dX9_init_9 xcl9 (by decide) xw_191 rfl rfl rfl (fun z => by cases z <;> rfl) (fun z => by cases z <;> rfl) rfl hn hf (fun σ2 hf hn => ?_)
  refine xm_aload_n dX9_init_12 rfl ?_
  refine xm_bipush dX9_init_13 (v := 80) (by decide) ?_
  refine xb_newaI (N := 80) (C9 := 5) (Z9 := 400) dX9_init_15 xw_57 rfl (by omega) (by omega) rfl hn hP hf (fun σ3 π hf hn hP => ?_)
  refine xb_putRc (a := l0) (c := 9) (k := 1) (v := σ2.1) dX9_init_17 xcl9 (by decide) xw_197 rfl rfl rfl (fun z => by cases z <;> rfl) (fun z => by cases z <;> rfl) rfl hn hf (fun σ4 hf hn => ?_)
  refine xm_aload_n dX9_init_20 rfl ?_
  refine xm_bipush dX9_init_21 (v := 80) (by decide) ?_
  refine xb_newaI (N := 80) (C9 := 4) (Z9 := 320) dX9_init_23 xw_57 rfl (by omega) (by omega) rfl hn hP hf (fun σ5 π hf hn hP => ?_)
  refine xb_putRc (a := l0) (c := 9) (k := 2) (v := σ4.1) dX9_init_25 xcl9 (by decide) xw_203 rfl rfl rfl (fun z => by cases z <;> rfl) (fun z => by cases z <;> rfl) rfl hn hf (fun σ6 hf hn => ?_)
  refine xm_aload_n dX9_init_28 rfl ?_
  refine xm_bipush dX9_init_29 (v := 80) (by decide) ?_
  refine xb_newaI (N := 80) (C9 := 3) (Z9 := 240) dX9_init_31 xw_57 rfl (by omega) (by omega) rfl hn hP hf (fun σ7 π hf hn hP => ?_)
  refine xb_putRc (a := l0) (c := 9) (k := 3) (v := σ6.1) dX9_init_33 xcl9 (by decide) xw_208 rfl rfl rfl (fun z => by cases z <;> rfl) (fun z => by cases z <;> rfl) rfl hn hf (fun σ8 hf hn => ?_)
  refine xm_aload_n dX9_init_36 rfl ?_
  refine xm_bipush dX9_init_37 (v := 80) (by decide) ?_
  refine xb_newaI (N := 80) (C9 := 2) (Z9 := 160) dX9_init_39 xw_57 rfl (by omega) (by omega) rfl hn hP hf (fun σ9 π hf hn hP => ?_)
  refine xb_putRc (a := l0) (c := 9) (k := 4) (v := σ8.1) dX9_init_41 xcl9 (by decide) xw_213 rfl rfl rfl (fun z => by cases z <;> rfl) (fun z => by cases z <;> rfl) rfl hn hf (fun σ10 hf hn => ?_)
  refine xm_aload_n dX9_init_44 rfl ?_
  refine xm_bipush dX9_init_45 (v := 80) (by decide) ?_
  refine xb_newaI (N := 80) (C9 := 1) (Z9 := 80) dX9_init_47 xw_57 rfl (by omega) (by omega) rfl hn hP hf (fun σ11 π hf hn hP => ?_)
  refine xb_putRc (a := l0) (c := 9) (k := 5) (v := σ10.1) dX9_init_49 xcl9 (by decide) xw_216 rfl rfl rfl (fun z => by cases z <;> rfl) (fun z => by cases z <;> rfl) rfl hn hf (fun σ12 hf hn => ?_)
  refine xm_aload_n dX9_init_52 rfl ?_
  refine xm_bipush dX9_init_53 (v := 80) (by decide) ?_
  refine xb_newaI (N := 80) (C9 := 0) (Z9 := 0) dX9_init_55 xw_57 rfl (by omega) (by omega) rfl hn hP hf (fun σ13 π hf hn hP => ?_)
  refine xb_putRc (a := l0) (c := 9) (k := 6) (v := σ12.1) dX9_init_57 xcl9 (by decide) xw_217 rfl rfl rfl (fun z => by cases z <;> rfl) (fun z => by cases z <;> rfl) rfl hn hf (fun σ14 hf hn => ?_)
  cases hf
  exact xm_vret dX9_init_60 rfl (hP π xag_rf)
-- Rankwise$Desk constructor : cells 528, slots 18972
def f_X1_init_b118 (l0 : Nat) (i : Int32) (σ : xM) : Option xM :=
  (gR σ l0 1 4).bind (fun x27 => (nwO σ 9 [x27, l0]).bind (fun σ28 => (f_X9_init σ28 σ.1).bind (fun τ30 => (cdo σ28 τ30 [σ.1, x27, l0]).bind (fun σ29 => (wR σ29 x27 17 9 i σ.1).bind (fun σ31 => some σ31)))))
set_option maxHeartbeats 4000000 in
set_option maxRecDepth 20000 in
theorem L_X1_init_l118 {G : xG} {d C9 Z9 n0 : Nat} {τ : xM} {Q : xQ} {ρ : Type} {r : ρ} {K : xM → Option ρ} {l0 : Nat} : ∀ (n : Nat) (i : Int32) (π : Nat → Nat) (σ : xM), 0 ≤ i.toInt → i.toInt + (n : Int) = 30 → (xrep (f_X1_init_b118 l0) n i σ).bind K = some r → n0 ≤ σ.1 → xPost n0 π τ Q →
    (∀ (π1 : Nat → Nat) (σ1 : xM), K σ1 = some r → n0 ≤ σ1.1 → xPost n0 π1 τ Q → xMach G π1 J_X1_init (d + 5) C9 Z9 143 [(0, .ref l0)] [] σ1 Q) → xMach G π J_X1_init (d + 5) (n * 8 + C9) (n * 568 + Z9) 118 [(0, .ref l0), (1, .int i)] [] σ Q := by
  intro n
  induction n with
  | zero =>
    intro i π σ h0 hi hf hn hP kk
    have hi' : i = 30 := Int32.toInt_inj.mp (by rw [show (30 : Int32).toInt = 30 from by decide]; omega)
    subst hi'
    refine xm_iload_n dX1_init_118 rfl ?_
    refine xm_bipush dX1_init_119 (v := 30) (by decide) ?_
    refine xm_icmp_ge 143 dX1_init_121 (by decide) (fun _ => ?_) (fun q => absurd (Int32.le_refl _) q)
    refine xm_wk (C9 := C9) (Z9 := Z9) (by omega) (by omega) ?_
    exact xm_sub [0] rfl (kk π σ hf hn hP)
  | succ n ih =>
    intro i π σ h0 hi hf hn hP kk
    have hlt : ¬ (30 : Int32) ≤ i := by rw [Int32.le_iff_toInt_le, show (30 : Int32).toInt = 30 from by decide]; omega
    have hi2 : (i + 1).toInt + (n : Int) = 30 := by
      rw [i32_succ (by omega) (by omega)]
      omega
    obtain ⟨σz, hfz, hf⟩ := xbind hf
    obtain ⟨σy, hfy, hfz⟩ := xbind (show (f_X1_init_b118 l0 i σ).bind (xrep (f_X1_init_b118 l0) n (i + 1)) = some σz from hfz)
    have hf : (f_X1_init_b118 l0 i σ).bind (fun σ => (xrep (f_X1_init_b118 l0) n (i + 1) σ).bind K) = some r := by rw [hfy]; show (xrep (f_X1_init_b118 l0) n (i + 1) σy).bind K = some r; rw [hfz]; exact hf
    unfold f_X1_init_b118 at hf
    simp only [Option.bind_assoc, Option.bind_some, xite_bind, Option.bind_none] at hf
    refine xm_wk (C9 := 8 + (n * 8 + C9)) (Z9 := 568 + (n * 568 + Z9)) (by omega) (by omega) ?_
    refine xm_iload_n dX1_init_118 rfl ?_
    refine xm_bipush dX1_init_119 (v := 30) (by decide) ?_
    refine xm_icmp_ge 143 dX1_init_121 (by decide) (fun q => absurd q hlt) (fun _ => ?_)
    refine xm_aload_n dX1_init_124 rfl ?_
    refine xb_getR (a := l0) (c := 1) (k := 4) dX1_init_125 xcl1 (by decide) xw_273 rfl hf (fun x27 ex27 hf => ?_)
    refine xm_iload_n dX1_init_128 rfl ?_
    refine xb_new (N := 8) (C9 := (7 + (n * 8 + C9))) (Z9 := (560 + (n * 568 + Z9))) dX1_init_129 xcl9 xw_77 xw_186 xw_11 xdf9 (by omega) (by omega) rfl hn hP hf (fun σ28 π hf hn hP => ?_)
    refine xm_dup dX1_init_132 rfl ?_
    obtain ⟨τ30, eτ30, hf⟩ := xbind hf
    refine xb_ctorN (J' := J_X9_init) (τ1 := τ30) (C1 := 7) (Z1 := 560) (C9 := (0 + (n * 8 + C9))) (Z9 := (0 + (n * 568 + Z9))) (As := []) (host := "Rankwise") dX1_init_133 (xc_X9_init _ _) rfl rfl (by decide +kernel) xw_188 rfl (Nat.le_of_ble_eq_true rfl) rfl (Nat.le_of_ble_eq_true rfl) (fun Q1 hq => m_X9_init (d := d + 3) eτ30 hq) (by omega) (by omega) rfl hn hP hf (fun σ29 π hf hn hP => ?_)
    refine xb_aast dX1_init_136 (by decide) hf (fun σ31 eσ31 hf => ?_)
    have hn : n0 ≤ σ31.1 := by rw [wR_n eσ31]; exact hn
    refine xm_wk (C9 := n * 8 + C9) (Z9 := n * 568 + Z9) (by omega) (by omega) ?_
    refine xm_iinc dX1_init_137 rfl rfl (by decide) (xm_stL (L' := [(1, .int (i + 1)), (0, .ref l0)]) rfl ?_)
    refine xm_goto 118 dX1_init_140 (by decide) ?_
    exact xm_sub [1, 0] rfl (ih (i + 1) π _ (by rw [i32_succ (by omega) (by omega)]; omega) hi2 hf hn hP kk)
def f_X1_init_b145 (l0 : Nat) (i : Int32) (σ : xM) : Option xM :=
  (gR σ l0 1 6).bind (fun x33 => (nwO σ 2 [x33, l0]).bind (fun σ34 => (f_X2_init7 σ34 σ.1).bind (fun τ36 => (cdo σ34 τ36 [σ.1, x33, l0]).bind (fun σ35 => (wR σ35 x33 16 2 i σ.1).bind (fun σ37 => some σ37)))))
set_option maxHeartbeats 4000000 in
set_option maxRecDepth 20000 in
theorem L_X1_init_l145 {G : xG} {d C9 Z9 n0 : Nat} {τ : xM} {Q : xQ} {ρ : Type} {r : ρ} {K : xM → Option ρ} {l0 : Nat} : ∀ (n : Nat) (i : Int32) (π : Nat → Nat) (σ : xM), 0 ≤ i.toInt → i.toInt + (n : Int) = 26 → (xrep (f_X1_init_b145 l0) n i σ).bind K = some r → n0 ≤ σ.1 → xPost n0 π τ Q →
    (∀ (π1 : Nat → Nat) (σ1 : xM), K σ1 = some r → n0 ≤ σ1.1 → xPost n0 π1 τ Q → xMach G π1 J_X1_init (d + 5) C9 Z9 172 [(0, .ref l0)] [] σ1 Q) → xMach G π J_X1_init (d + 5) (n * 5 + C9) (n * 22 + Z9) 145 [(0, .ref l0), (1, .int i)] [] σ Q := by
  intro n
  induction n with
  | zero =>
    intro i π σ h0 hi hf hn hP kk
    have hi' : i = 26 := Int32.toInt_inj.mp (by rw [show (26 : Int32).toInt = 26 from by decide]; omega)
    subst hi'
    refine xm_iload_n dX1_init_145 rfl ?_
    refine xm_bipush dX1_init_146 (v := 26) (by decide) ?_
    refine xm_icmp_ge 172 dX1_init_148 (by decide) (fun _ => ?_) (fun q => absurd (Int32.le_refl _) q)
    refine xm_wk (C9 := C9) (Z9 := Z9) (by omega) (by omega) ?_
    exact xm_sub [0] rfl (kk π σ hf hn hP)
  | succ n ih =>
    intro i π σ h0 hi hf hn hP kk
    have hlt : ¬ (26 : Int32) ≤ i := by rw [Int32.le_iff_toInt_le, show (26 : Int32).toInt = 26 from by decide]; omega
    have hi2 : (i + 1).toInt + (n : Int) = 26 := by
      rw [i32_succ (by omega) (by omega)]
      omega
    obtain ⟨σz, hfz, hf⟩ := xbind hf
    obtain ⟨σy, hfy, hfz⟩ := xbind (show (f_X1_init_b145 l0 i σ).bind (xrep (f_X1_init_b145 l0) n (i + 1)) = some σz from hfz)
    have hf : (f_X1_init_b145 l0 i σ).bind (fun σ => (xrep (f_X1_init_b145 l0) n (i + 1) σ).bind K) = some r := by rw [hfy]; show (xrep (f_X1_init_b145 l0) n (i + 1) σy).bind K = some r; rw [hfz]; exact hf
    unfold f_X1_init_b145 at hf
    simp only [Option.bind_assoc, Option.bind_some, xite_bind, Option.bind_none] at hf
    refine xm_wk (C9 := 5 + (n * 5 + C9)) (Z9 := 22 + (n * 22 + Z9)) (by omega) (by omega) ?_
    refine xm_iload_n dX1_init_145 rfl ?_
    refine xm_bipush dX1_init_146 (v := 26) (by decide) ?_
    refine xm_icmp_ge 172 dX1_init_148 (by decide) (fun q => absurd q hlt) (fun _ => ?_)
    refine xm_aload_n dX1_init_151 rfl ?_
    refine xb_getR (a := l0) (c := 1) (k := 6) dX1_init_152 xcl1 (by decide) xw_277 rfl hf (fun x33 ex33 hf => ?_)
    refine xm_iload_n dX1_init_155 rfl ?_
    refine xb_new (N := 2) (C9 := (4 + (n * 5 + C9))) (Z9 := (20 + (n * 22 + Z9))) dX1_init_156 xcl2 xw_79 xw_244 xw_12 xdf2 (by omega) (by omega) rfl hn hP hf (fun σ34 π hf hn hP => ?_)
    refine xm_dup dX1_init_159 rfl ?_
    refine xm_bipush dX1_init_160 (v := 7) (by decide) ?_
    obtain ⟨τ36, eτ36, hf⟩ := xbind hf
    refine xb_ctor (J' := J_X2_init) (τ1 := τ36) (C1 := 4) (Z1 := 20) (C9 := (0 + (n * 5 + C9))) (Z9 := (0 + (n * 22 + Z9))) (As := [.int (7 : Int32)]) dX1_init_162 (xc_X2_init _ _) rfl rfl xw_245 xw_246 rfl (Nat.le_of_ble_eq_true rfl) rfl (Nat.le_of_ble_eq_true rfl) (fun Q1 hq => m_X2_init7 (d := d + 2) eτ36 hq) (by omega) (by omega) rfl hn hP hf (fun σ35 π hf hn hP => ?_)
    refine xb_aast dX1_init_165 (by decide) hf (fun σ37 eσ37 hf => ?_)
    have hn : n0 ≤ σ37.1 := by rw [wR_n eσ37]; exact hn
    refine xm_wk (C9 := n * 5 + C9) (Z9 := n * 22 + Z9) (by omega) (by omega) ?_
    refine xm_iinc dX1_init_166 rfl rfl (by decide) (xm_stL (L' := [(1, .int (i + 1)), (0, .ref l0)]) rfl ?_)
    refine xm_goto 145 dX1_init_169 (by decide) ?_
    exact xm_sub [1, 0] rfl (ih (i + 1) π _ (by rw [i32_succ (by omega) (by omega)]; omega) hi2 hf hn hP kk)
def f_X1_init_b174 (l0 : Nat) (i : Int32) (σ : xM) : Option xM :=
  (gR σ l0 1 12).bind (fun x39 => (nwO σ 2 [x39, l0]).bind (fun σ40 => (f_X2_init7 σ40 σ.1).bind (fun τ42 => (cdo σ40 τ42 [σ.1, x39, l0]).bind (fun σ41 => (wR σ41 x39 16 2 i σ.1).bind (fun σ43 => some σ43)))))
set_option maxHeartbeats 4000000 in
set_option maxRecDepth 20000 in
theorem L_X1_init_l174 {G : xG} {d C9 Z9 n0 : Nat} {τ : xM} {Q : xQ} {ρ : Type} {r : ρ} {K : xM → Option ρ} {l0 : Nat} : ∀ (n : Nat) (i : Int32) (π : Nat → Nat) (σ : xM), 0 ≤ i.toInt → i.toInt + (n : Int) = 20 → (xrep (f_X1_init_b174 l0) n i σ).bind K = some r → n0 ≤ σ.1 → xPost n0 π τ Q →
    (∀ (π1 : Nat → Nat) (σ1 : xM), K σ1 = some r → n0 ≤ σ1.1 → xPost n0 π1 τ Q → xMach G π1 J_X1_init (d + 5) C9 Z9 201 [(0, .ref l0)] [] σ1 Q) → xMach G π J_X1_init (d + 5) (n * 5 + C9) (n * 22 + Z9) 174 [(0, .ref l0), (1, .int i)] [] σ Q := by
  intro n
  induction n with
  | zero =>
    intro i π σ h0 hi hf hn hP kk
    have hi' : i = 20 := Int32.toInt_inj.mp (by rw [show (20 : Int32).toInt = 20 from by decide]; omega)
    subst hi'
    refine xm_iload_n dX1_init_174 rfl ?_
    refine xm_bipush dX1_init_175 (v := 20) (by decide) ?_
    refine xm_icmp_ge 201 dX1_init_177 (by decide) (fun _ => ?_) (fun q => absurd (Int32.le_refl _) q)
    refine xm_wk (C9 := C9) (Z9 := Z9) (by omega) (by omega) ?_
    exact xm_sub [0] rfl (kk π σ hf hn hP)
  | succ n ih =>
    intro i π σ h0 hi hf hn hP kk
    have hlt : ¬ (20 : Int32) ≤ i := by rw [Int32.le_iff_toInt_le, show (20 : Int32).toInt = 20 from by decide]; omega
    have hi2 : (i + 1).toInt + (n : Int) = 20 := by
      rw [i32_succ (by omega) (by omega)]
      omega
    obtain ⟨σz, hfz, hf⟩ := xbind hf
    obtain ⟨σy, hfy, hfz⟩ := xbind (show (f_X1_init_b174 l0 i σ).bind (xrep (f_X1_init_b174 l0) n (i + 1)) = some σz from hfz)
    have hf : (f_X1_init_b174 l0 i σ).bind (fun σ => (xrep (f_X1_init_b174 l0) n (i + 1) σ).bind K) = some r := by rw [hfy]; show (xrep (f_X1_init_b174 l0) n (i + 1) σy).bind K = some r; rw [hfz]; exact hf
    unfold f_X1_init_b174 at hf
    simp only [Option.bind_assoc, Option.bind_some, xite_bind, Option.bind_none] at hf
    refine xm_wk (C9 := 5 + (n * 5 + C9)) (Z9 := 22 + (n * 22 + Z9)) (by omega) (by omega) ?_
    refine xm_iload_n dX1_init_174 rfl ?_
    refine xm_bipush dX1_init_175 (v := 20) (by decide) ?_
    refine xm_icmp_ge 201 dX1_init_177 (by decide) (fun q => absurd q hlt) (fun _ => ?_)
    refine xm_aload_n dX1_init_180 rfl ?_
    refine xb_getR (a := l0) (c := 1) (k := 12) dX1_init_181 xcl1 (by decide) xw_287 rfl hf (fun x39 ex39 hf => ?_)
    refine xm_iload_n dX1_init_184 rfl ?_
    refine xb_new (N := 2) (C9 := (4 + (n * 5 + C9))) (Z9 := (20 + (n * 22 + Z9))) dX1_init_185 xcl2 xw_79 xw_244 xw_12 xdf2 (by omega) (by omega) rfl hn hP hf (fun σ40 π hf hn hP => ?_)
    refine xm_dup dX1_init_188 rfl ?_
    refine xm_bipush dX1_init_189 (v := 7) (by decide) ?_
    obtain ⟨τ42, eτ42, hf⟩ := xbind hf
    refine xb_ctor (J' := J_X2_init) (τ1 := τ42) (C1 := 4) (Z1 := 20) (C9 := (0 + (n * 5 + C9))) (Z9 := (0 + (n * 22 + Z9))) (As := [.int (7 : Int32)]) dX1_init_191 (xc_X2_init _ _) rfl rfl xw_245 xw_246 rfl (Nat.le_of_ble_eq_true rfl) rfl (Nat.le_of_ble_eq_true rfl) (fun Q1 hq => m_X2_init7 (d := d + 2) eτ42 hq) (by omega) (by omega) rfl hn hP hf (fun σ41 π hf hn hP => ?_)
    refine xb_aast dX1_init_194 (by decide) hf (fun σ43 eσ43 hf => ?_)
    have hn : n0 ≤ σ43.1 := by rw [wR_n eσ43]; exact hn
    refine xm_wk (C9 := n * 5 + C9) (Z9 := n * 22 + Z9) (by omega) (by omega) ?_
    refine xm_iinc dX1_init_195 rfl rfl (by decide) (xm_stL (L' := [(1, .int (i + 1)), (0, .ref l0)]) rfl ?_)
    refine xm_goto 174 dX1_init_198 (by decide) ?_
    exact xm_sub [1, 0] rfl (ih (i + 1) π _ (by rw [i32_succ (by omega) (by omega)]; omega) hi2 hf hn hP kk)
set_option maxRecDepth 20000 in
def f_X1_init (σ : xM) (l0 : Nat) : Option xM :=
  (nwA σ 14 (128 : Int32) (componentBytes .int) [l0, l0]).bind (fun σ1 => (sR σ1 l0 1 0 σ.1).bind (fun σ2 => (nwA σ2 14 (48 : Int32) (componentBytes .int) [l0, l0]).bind (fun σ3 => (sR σ3 l0 1 1 σ2.1).bind (fun σ4 => (nwA σ4 14 (48 : Int32) (componentBytes .int) [l0, l0]).bind (fun σ5 => (sR σ5 l0 1 2 σ4.1).bind (fun σ6 => (nwA σ6 14 (48 : Int32) (componentBytes .int) [l0, l0]).bind (fun σ7 => (sR σ7 l0 1 3 σ6.1).bind (fun σ8 => (nwA σ8 17 (30 : Int32) 4 [l0, l0]).bind (fun σ9 => (sR σ9 l0 1 4 σ8.1).bind (fun σ10 => (nwA σ10 16 (26 : Int32) 4 [l0, l0]).bind (fun σ11 => (sR σ11 l0 1 6 σ10.1).bind (fun σ12 => (nwA σ12 15 (26 : Int32) (componentBytes .boolean) [l0, l0]).bind (fun σ13 => (sR σ13 l0 1 7 σ12.1).bind (fun σ14 => (nwM σ14 (26 : Int32) (10 : Int32) [l0, l0]).bind (fun σ15 => (sR σ15 l0 1 8 σ14.1).bind (fun σ16 => (nwA σ16 14 (20 : Int32) (componentBytes .int) [l0, l0]).bind (fun σ17 => (sR σ17 l0 1 9 σ16.1).bind (fun σ18 => (nwA σ18 14 (20 : Int32) (componentBytes .int) [l0, l0]).bind (fun σ19 => (sR σ19 l0 1 10 σ18.1).bind (fun σ20 => (nwM σ20 (20 : Int32) (10 : Int32) [l0, l0]).bind (fun σ21 => (sR σ21 l0 1 11 σ20.1).bind (fun σ22 => (nwA σ22 16 (20 : Int32) 4 [l0, l0]).bind (fun σ23 => (sR σ23 l0 1 12 σ22.1).bind (fun σ24 => (if xk σ24 l0 1 = true then (f_X1_beginOperators σ24 l0).bind (fun p25 => (cdo σ24 p25 []).bind (fun p25 => (xrep (f_X1_init_b118 l0) 30 (0 : Int32) p25).bind (fun σ32 => (xrep (f_X1_init_b145 l0) 26 (0 : Int32) σ32).bind (fun σ38 => (xrep (f_X1_init_b174 l0) 20 (0 : Int32) σ38).bind (fun σ44 => some σ44))))) else none)))))))))))))))))))))))))
set_option maxHeartbeats 4000000 in
set_option maxRecDepth 20000 in
theorem m_X1_init {G : xG} {π : Nat → Nat} {d : Nat} {Q : xQ} {σ : xM} {l0 : Nat} {τ : xM} (hf : f_X1_init σ l0 = some τ) (hP : xPost σ.1 π τ Q) : xMach G π J_X1_init (d + 5) 528 18972 0 (lv_args 0 [.ref l0]) [] σ Q := by
  unfold f_X1_init at hf
  have hn : σ.1 ≤ σ.1 := Nat.le_refl _
  generalize hn0 : σ.1 = n0 at hP hn
  have hn : n0 ≤ σ.1 := by omega
  clear hn0
  refine xm_stL (L' := [(0, .ref l0)]) rfl ?_
  refine xm_aload_n dX1_init_0 rfl ?_
  refine xm_objInit dX1_init_1 xw_76 xw_31 xw_32 (Nat.le_of_ble_eq_true rfl) ?_
  refine xm_aload_n dX1_init_4 rfl ?_
  refine xm_sipush dX1_init_5 (v := 128) (by decide) ?_
  refine xb_newaI (N := 128) (C9 := 527) (Z9 := 18844) dX1_init_8 xw_57 rfl (by omega) (by omega) rfl hn hP hf (fun σ1 π hf hn hP => ?_)
  refine xb_putRc (a := l0) (c := 1) (k := 0) (v := σ.1) dX1_init_10 xcl1 (by decide) xw_269 rfl rfl rfl (fun z => by cases z <;> rfl) (fun z => by cases z <;> rfl) rfl hn hf (fun σ2 hf hn => ?_)
  refine xm_aload_n dX1_init_13 rfl ?_
  refine xm_bipush dX1_init_14 (v := 48) (by decide) ?_
  refine xb_newaI (N := 48) (C9 := 526) (Z9 := 18796) dX1_init_16 xw_57 rfl (by omega) (by omega) rfl hn hP hf (fun σ3 π hf hn hP => ?_)
  refine xb_putRc (a := l0) (c := 1) (k := 1) (v := σ2.1) dX1_init_18 xcl1 (by decide) xw_270 rfl rfl rfl (fun z => by cases z <;> rfl) (fun z => by cases z <;> rfl) rfl hn hf (fun σ4 hf hn => ?_)
  refine xm_aload_n dX1_init_21 rfl ?_
  refine xm_bipush dX1_init_22 (v := 48) (by decide) ?_
  refine xb_newaI (N := 48) (C9 := 525) (Z9 := 18748) dX1_init_24 xw_57 rfl (by omega) (by omega) rfl hn hP hf (fun σ5 π hf hn hP => ?_)
  refine xb_putRc (a := l0) (c := 1) (k := 2) (v := σ4.1) dX1_init_26 xcl1 (by decide) xw_271 rfl rfl rfl (fun z => by cases z <;> rfl) (fun z => by cases z <;> rfl) rfl hn hf (fun σ6 hf hn => ?_)
  refine xm_aload_n dX1_init_29 rfl ?_
  refine xm_bipush dX1_init_30 (v := 48) (by decide) ?_
  refine xb_newaI (N := 48) (C9 := 524) (Z9 := 18700) dX1_init_32 xw_57 rfl (by omega) (by omega) rfl hn hP hf (fun σ7 π hf hn hP => ?_)
  refine xb_putRc (a := l0) (c := 1) (k := 3) (v := σ6.1) dX1_init_34 xcl1 (by decide) xw_272 rfl rfl rfl (fun z => by cases z <;> rfl) (fun z => by cases z <;> rfl) rfl hn hf (fun σ8 hf hn => ?_)
  refine xm_aload_n dX1_init_37 rfl ?_
  refine xm_bipush dX1_init_38 (v := 30) (by decide) ?_
  refine xb_newqT (N := 30) (C9 := 523) (Z9 := 18670) dX1_init_40 xw_77 rfl (by omega) (by omega) rfl hn hP hf (fun σ9 π hf hn hP => ?_)
  refine xb_putRc (a := l0) (c := 1) (k := 4) (v := σ8.1) dX1_init_43 xcl1 (by decide) xw_273 rfl rfl rfl (fun z => by cases z <;> rfl) (fun z => by cases z <;> rfl) rfl hn hf (fun σ10 hf hn => ?_)
  refine xm_aload_n dX1_init_46 rfl ?_
  refine xm_bipush dX1_init_47 (v := 26) (by decide) ?_
  refine xb_newqF (N := 26) (C9 := 522) (Z9 := 18644) dX1_init_49 xw_79 rfl (by omega) (by omega) rfl hn hP hf (fun σ11 π hf hn hP => ?_)
  refine xb_putRc (a := l0) (c := 1) (k := 6) (v := σ10.1) dX1_init_52 xcl1 (by decide) xw_277 rfl rfl rfl (fun z => by cases z <;> rfl) (fun z => by cases z <;> rfl) rfl hn hf (fun σ12 hf hn => ?_)
  refine xm_aload_n dX1_init_55 rfl ?_
  refine xm_bipush dX1_init_56 (v := 26) (by decide) ?_
  refine xb_newaZ (N := 26) (C9 := 521) (Z9 := 18618) dX1_init_58 xw_242 rfl (by omega) (by omega) rfl hn hP hf (fun σ13 π hf hn hP => ?_)
  refine xb_putRc (a := l0) (c := 1) (k := 7) (v := σ12.1) dX1_init_60 xcl1 (by decide) xw_280 rfl rfl rfl (fun z => by cases z <;> rfl) (fun z => by cases z <;> rfl) rfl hn hf (fun σ14 hf hn => ?_)
  refine xm_aload_n dX1_init_63 rfl ?_
  refine xm_bipush dX1_init_64 (v := 26) (by decide) ?_
  refine xm_bipush dX1_init_66 (v := 10) (by decide) ?_
  refine xb_mna (N := 26) (M := 10) (C9 := 494) (Z9 := 18332) dX1_init_68 xw_81 xw_57 rfl rfl (by omega) (by omega) rfl hn hP hf (fun σ15 π hf hn hP => ?_)
  refine xb_putRc (a := l0) (c := 1) (k := 8) (v := σ14.1) dX1_init_72 xcl1 (by decide) xw_283 rfl rfl rfl (fun z => by cases z <;> rfl) (fun z => by cases z <;> rfl) rfl hn hf (fun σ16 hf hn => ?_)
  refine xm_aload_n dX1_init_75 rfl ?_
  refine xm_bipush dX1_init_76 (v := 20) (by decide) ?_
  refine xb_newaI (N := 20) (C9 := 493) (Z9 := 18312) dX1_init_78 xw_57 rfl (by omega) (by omega) rfl hn hP hf (fun σ17 π hf hn hP => ?_)
  refine xb_putRc (a := l0) (c := 1) (k := 9) (v := σ16.1) dX1_init_80 xcl1 (by decide) xw_284 rfl rfl rfl (fun z => by cases z <;> rfl) (fun z => by cases z <;> rfl) rfl hn hf (fun σ18 hf hn => ?_)
  refine xm_aload_n dX1_init_83 rfl ?_
  refine xm_bipush dX1_init_84 (v := 20) (by decide) ?_
  refine xb_newaI (N := 20) (C9 := 492) (Z9 := 18292) dX1_init_86 xw_57 rfl (by omega) (by omega) rfl hn hP hf (fun σ19 π hf hn hP => ?_)
  refine xb_putRc (a := l0) (c := 1) (k := 10) (v := σ18.1) dX1_init_88 xcl1 (by decide) xw_285 rfl rfl rfl (fun z => by cases z <;> rfl) (fun z => by cases z <;> rfl) rfl hn hf (fun σ20 hf hn => ?_)
  refine xm_aload_n dX1_init_91 rfl ?_
  refine xm_bipush dX1_init_92 (v := 20) (by decide) ?_
  refine xm_bipush dX1_init_94 (v := 10) (by decide) ?_
  refine xb_mna (N := 20) (M := 10) (C9 := 471) (Z9 := 18072) dX1_init_96 xw_81 xw_57 rfl rfl (by omega) (by omega) rfl hn hP hf (fun σ21 π hf hn hP => ?_)
  refine xb_putRc (a := l0) (c := 1) (k := 11) (v := σ20.1) dX1_init_100 xcl1 (by decide) xw_286 rfl rfl rfl (fun z => by cases z <;> rfl) (fun z => by cases z <;> rfl) rfl hn hf (fun σ22 hf hn => ?_)
  refine xm_aload_n dX1_init_103 rfl ?_
  refine xm_bipush dX1_init_104 (v := 20) (by decide) ?_
  refine xb_newqF (N := 20) (C9 := 470) (Z9 := 18052) dX1_init_106 xw_79 rfl (by omega) (by omega) rfl hn hP hf (fun σ23 π hf hn hP => ?_)
  refine xb_putRc (a := l0) (c := 1) (k := 12) (v := σ22.1) dX1_init_109 xcl1 (by decide) xw_287 rfl rfl rfl (fun z => by cases z <;> rfl) (fun z => by cases z <;> rfl) rfl hn hf (fun σ24 hf hn => ?_)
  refine xm_aload_n dX1_init_112 rfl ?_
  refine xb_if hf (fun hb hf => ?_) (fun _ q => nomatch q)
  obtain ⟨p25, ep25, hf⟩ := xbind hf
  refine xb_callV (As := []) (v0 := none) (τ0 := p25) dX1_init_113 (xc_X1_beginOperators _ _) xcl1 xw_83 xw_85 xs_0 hb rfl (Nat.le_of_ble_eq_true rfl) rfl (Nat.le_of_ble_eq_true rfl) (fun Q1 hq => m_X1_beginOperators (d := d + 0) ep25 (fun g hg => by subst hg; exact hq)) ?_
  refine xb_grow hn hf (fun hf hn => ?_)
  refine xm_iconst dX1_init_116 (v := 0) (by decide) ?_
  refine xm_istore_n dX1_init_117 (by decide) (xm_stL (L' := [(1, .int (0 : Int32)), (0, .ref l0)]) rfl ?_)
  refine xm_wk (C9 := 30 * 8 + 230) (Z9 := 30 * 568 + 1012) (by omega) (by omega) ?_
  refine xm_sub [1, 0] rfl (L_X1_init_l118 30 0 π _ (by decide) (by decide) hf hn hP (fun π σ32 hf hn hP => ?_))
  refine xm_iconst dX1_init_143 (v := 0) (by decide) ?_
  refine xm_istore_n dX1_init_144 (by decide) (xm_stL (L' := [(1, .int (0 : Int32)), (0, .ref l0)]) rfl ?_)
  refine xm_wk (C9 := 26 * 5 + 100) (Z9 := 26 * 22 + 440) (by omega) (by omega) ?_
  refine xm_sub [1, 0] rfl (L_X1_init_l145 26 0 π _ (by decide) (by decide) hf hn hP (fun π σ38 hf hn hP => ?_))
  refine xm_iconst dX1_init_172 (v := 0) (by decide) ?_
  refine xm_istore_n dX1_init_173 (by decide) (xm_stL (L' := [(1, .int (0 : Int32)), (0, .ref l0)]) rfl ?_)
  refine xm_wk (C9 := 20 * 5 + 0) (Z9 := 20 * 22 + 0) (by omega) (by omega) ?_
  refine xm_sub [1, 0] rfl (L_X1_init_l174 20 0 π _ (by decide) (by decide) hf hn hP (fun π σ44 hf hn hP => ?_))
  cases hf
  exact xm_vret dX1_init_201 rfl (hP π xag_rf)
-- Rankwise$Reader constructor : cells 18, slots 3568
set_option maxRecDepth 20000 in
def f_X6_init (σ : xM) (l0 : Nat) (l1 : Nat) : Option xM :=
  (nwA σ 14 (300 : Int32) (componentBytes .int) [l0, l0, l1]).bind (fun σ1 => (sR σ1 l0 6 1 σ.1).bind (fun σ2 => (nwA σ2 14 (300 : Int32) (componentBytes .int) [l0, l0, l1]).bind (fun σ3 => (sR σ3 l0 6 2 σ2.1).bind (fun σ4 => (nwA σ4 14 (300 : Int32) (componentBytes .int) [l0, l0, l1]).bind (fun σ5 => (sR σ5 l0 6 3 σ4.1).bind (fun σ6 => (nwA σ6 15 (300 : Int32) (componentBytes .boolean) [l0, l0, l1]).bind (fun σ7 => (sR σ7 l0 6 4 σ6.1).bind (fun σ8 => (nwA σ8 14 (300 : Int32) (componentBytes .int) [l0, l0, l1]).bind (fun σ9 => (sR σ9 l0 6 9 σ8.1).bind (fun σ10 => (nwA σ10 14 (300 : Int32) (componentBytes .int) [l0, l0, l1]).bind (fun σ11 => (sR σ11 l0 6 10 σ10.1).bind (fun σ12 => (nwA σ12 14 (300 : Int32) (componentBytes .int) [l0, l0, l1]).bind (fun σ13 => (sR σ13 l0 6 11 σ12.1).bind (fun σ14 => (nwA σ14 14 (300 : Int32) (componentBytes .int) [l0, l0, l1]).bind (fun σ15 => (sR σ15 l0 6 12 σ14.1).bind (fun σ16 => (nwA σ16 14 (300 : Int32) (componentBytes .int) [l0, l0, l1]).bind (fun σ17 => (sR σ17 l0 6 13 σ16.1).bind (fun σ18 => (nwA σ18 14 (300 : Int32) (componentBytes .int) [l0, l0, l1]).bind (fun σ19 => (sR σ19 l0 6 15 σ18.1).bind (fun σ20 => (nwO σ20 9 [l0, l0, l1]).bind (fun σ21 => (f_X9_init σ21 σ20.1).bind (fun τ23 => (cdo σ21 τ23 [σ20.1, l0, l0, l1]).bind (fun σ22 => (sR σ22 l0 6 17 σ20.1).bind (fun σ24 => (sR σ24 l0 6 0 l1).bind (fun σ25 => some σ25)))))))))))))))))))))))))
set_option maxHeartbeats 4000000 in
set_option maxRecDepth 20000 in
theorem m_X6_init {G : xG} {π : Nat → Nat} {d : Nat} {Q : xQ} {σ : xM} {l0 : Nat} {l1 : Nat} {τ : xM} (hf : f_X6_init σ l0 l1 = some τ) (hP : xPost σ.1 π τ Q) : xMach G π J_X6_init (d + 2) 18 3568 0 (lv_args 0 [.ref l0, .ref l1]) [] σ Q := by
  unfold f_X6_init at hf
  have hn : σ.1 ≤ σ.1 := Nat.le_refl _
  generalize hn0 : σ.1 = n0 at hP hn
  have hn : n0 ≤ σ.1 := by omega
  clear hn0
  refine xm_stL (L' := [(0, .ref l0), (1, .ref l1)]) rfl ?_
  refine xm_aload_n dX6_init_0 rfl ?_
  refine xm_objInit dX6_init_1 xw_326 xw_31 xw_32 (Nat.le_of_ble_eq_true rfl) ?_
  refine xm_aload_n dX6_init_4 rfl ?_
  refine xm_sipush dX6_init_5 (v := 300) (by decide) ?_
  refine xb_newaI (N := 300) (C9 := 17) (Z9 := 3268) dX6_init_8 xw_57 rfl (by omega) (by omega) rfl hn hP hf (fun σ1 π hf hn hP => ?_)
  refine xb_putRc (a := l0) (c := 6) (k := 1) (v := σ.1) dX6_init_10 xcl6 (by decide) xw_330 rfl rfl rfl (fun z => by cases z <;> rfl) (fun z => by cases z <;> rfl) rfl hn hf (fun σ2 hf hn => ?_)
  refine xm_aload_n dX6_init_13 rfl ?_
  refine xm_sipush dX6_init_14 (v := 300) (by decide) ?_
  refine xb_newaI (N := 300) (C9 := 16) (Z9 := 2968) dX6_init_17 xw_57 rfl (by omega) (by omega) rfl hn hP hf (fun σ3 π hf hn hP => ?_)
  refine xb_putRc (a := l0) (c := 6) (k := 2) (v := σ2.1) dX6_init_19 xcl6 (by decide) xw_332 rfl rfl rfl (fun z => by cases z <;> rfl) (fun z => by cases z <;> rfl) rfl hn hf (fun σ4 hf hn => ?_)
  refine xm_aload_n dX6_init_22 rfl ?_
  refine xm_sipush dX6_init_23 (v := 300) (by decide) ?_
  refine xb_newaI (N := 300) (C9 := 15) (Z9 := 2668) dX6_init_26 xw_57 rfl (by omega) (by omega) rfl hn hP hf (fun σ5 π hf hn hP => ?_)
  refine xb_putRc (a := l0) (c := 6) (k := 3) (v := σ4.1) dX6_init_28 xcl6 (by decide) xw_334 rfl rfl rfl (fun z => by cases z <;> rfl) (fun z => by cases z <;> rfl) rfl hn hf (fun σ6 hf hn => ?_)
  refine xm_aload_n dX6_init_31 rfl ?_
  refine xm_sipush dX6_init_32 (v := 300) (by decide) ?_
  refine xb_newaZ (N := 300) (C9 := 14) (Z9 := 2368) dX6_init_35 xw_242 rfl (by omega) (by omega) rfl hn hP hf (fun σ7 π hf hn hP => ?_)
  refine xb_putRc (a := l0) (c := 6) (k := 4) (v := σ6.1) dX6_init_37 xcl6 (by decide) xw_335 rfl rfl rfl (fun z => by cases z <;> rfl) (fun z => by cases z <;> rfl) rfl hn hf (fun σ8 hf hn => ?_)
  refine xm_aload_n dX6_init_40 rfl ?_
  refine xm_sipush dX6_init_41 (v := 300) (by decide) ?_
  refine xb_newaI (N := 300) (C9 := 13) (Z9 := 2068) dX6_init_44 xw_57 rfl (by omega) (by omega) rfl hn hP hf (fun σ9 π hf hn hP => ?_)
  refine xb_putRc (a := l0) (c := 6) (k := 9) (v := σ8.1) dX6_init_46 xcl6 (by decide) xw_342 rfl rfl rfl (fun z => by cases z <;> rfl) (fun z => by cases z <;> rfl) rfl hn hf (fun σ10 hf hn => ?_)
  refine xm_aload_n dX6_init_49 rfl ?_
  refine xm_sipush dX6_init_50 (v := 300) (by decide) ?_
  refine xb_newaI (N := 300) (C9 := 12) (Z9 := 1768) dX6_init_53 xw_57 rfl (by omega) (by omega) rfl hn hP hf (fun σ11 π hf hn hP => ?_)
  refine xb_putRc (a := l0) (c := 6) (k := 10) (v := σ10.1) dX6_init_55 xcl6 (by decide) xw_343 rfl rfl rfl (fun z => by cases z <;> rfl) (fun z => by cases z <;> rfl) rfl hn hf (fun σ12 hf hn => ?_)
  refine xm_aload_n dX6_init_58 rfl ?_
  refine xm_sipush dX6_init_59 (v := 300) (by decide) ?_
  refine xb_newaI (N := 300) (C9 := 11) (Z9 := 1468) dX6_init_62 xw_57 rfl (by omega) (by omega) rfl hn hP hf (fun σ13 π hf hn hP => ?_)
  refine xb_putRc (a := l0) (c := 6) (k := 11) (v := σ12.1) dX6_init_64 xcl6 (by decide) xw_344 rfl rfl rfl (fun z => by cases z <;> rfl) (fun z => by cases z <;> rfl) rfl hn hf (fun σ14 hf hn => ?_)
  refine xm_aload_n dX6_init_67 rfl ?_
  refine xm_sipush dX6_init_68 (v := 300) (by decide) ?_
  refine xb_newaI (N := 300) (C9 := 10) (Z9 := 1168) dX6_init_71 xw_57 rfl (by omega) (by omega) rfl hn hP hf (fun σ15 π hf hn hP => ?_)
  refine xb_putRc (a := l0) (c := 6) (k := 12) (v := σ14.1) dX6_init_73 xcl6 (by decide) xw_345 rfl rfl rfl (fun z => by cases z <;> rfl) (fun z => by cases z <;> rfl) rfl hn hf (fun σ16 hf hn => ?_)
  refine xm_aload_n dX6_init_76 rfl ?_
  refine xm_sipush dX6_init_77 (v := 300) (by decide) ?_
  refine xb_newaI (N := 300) (C9 := 9) (Z9 := 868) dX6_init_80 xw_57 rfl (by omega) (by omega) rfl hn hP hf (fun σ17 π hf hn hP => ?_)
  refine xb_putRc (a := l0) (c := 6) (k := 13) (v := σ16.1) dX6_init_82 xcl6 (by decide) xw_346 rfl rfl rfl (fun z => by cases z <;> rfl) (fun z => by cases z <;> rfl) rfl hn hf (fun σ18 hf hn => ?_)
  refine xm_aload_n dX6_init_85 rfl ?_
  refine xm_sipush dX6_init_86 (v := 300) (by decide) ?_
  refine xb_newaI (N := 300) (C9 := 8) (Z9 := 568) dX6_init_89 xw_57 rfl (by omega) (by omega) rfl hn hP hf (fun σ19 π hf hn hP => ?_)
  refine xb_putRc (a := l0) (c := 6) (k := 15) (v := σ18.1) dX6_init_91 xcl6 (by decide) xw_348 rfl rfl rfl (fun z => by cases z <;> rfl) (fun z => by cases z <;> rfl) rfl hn hf (fun σ20 hf hn => ?_)
  refine xm_aload_n dX6_init_94 rfl ?_
  refine xb_new (N := 8) (C9 := 7) (Z9 := 560) dX6_init_95 xcl9 xw_327 xw_186 xw_11 xdf9 (by omega) (by omega) rfl hn hP hf (fun σ21 π hf hn hP => ?_)
  refine xm_dup dX6_init_98 rfl ?_
  obtain ⟨τ23, eτ23, hf⟩ := xbind hf
  refine xb_ctorN (J' := J_X9_init) (τ1 := τ23) (C1 := 7) (Z1 := 560) (C9 := 0) (Z9 := 0) (As := []) (host := "Rankwise") dX6_init_99 (xc_X9_init _ _) rfl rfl (by decide +kernel) xw_188 rfl (Nat.le_of_ble_eq_true rfl) rfl (Nat.le_of_ble_eq_true rfl) (fun Q1 hq => m_X9_init (d := d + 0) eτ23 hq) (by omega) (by omega) rfl hn hP hf (fun σ22 π hf hn hP => ?_)
  refine xb_putRc (a := l0) (c := 6) (k := 17) (v := σ20.1) dX6_init_102 xcl6 (by decide) xw_350 rfl rfl rfl (fun z => by cases z <;> rfl) (fun z => by cases z <;> rfl) rfl hn hf (fun σ24 hf hn => ?_)
  refine xm_aload_n dX6_init_105 rfl ?_
  refine xm_aload_n dX6_init_106 rfl ?_
  refine xb_putRc (a := l0) (c := 6) (k := 0) (v := l1) dX6_init_107 xcl6 (by decide) xw_329 rfl rfl rfl (fun z => by cases z <;> rfl) (fun z => by cases z <;> rfl) rfl hn hf (fun σ25 hf hn => ?_)
  cases hf
  exact xm_vret dX6_init_110 rfl (hP π xag_rf)
-- Rankwise$Printer constructor : cells 3, slots 1010
set_option maxRecDepth 20000 in
def f_X5_init (σ : xM) (l0 : Nat) (l1 : Nat) : Option xM :=
  (nwO σ 10 [l0, l0, l1]).bind (fun σ1 => (f_X10_init7 σ1 σ.1).bind (fun τ3 => (cdo σ1 τ3 [σ.1, l0, l0, l1]).bind (fun σ2 => (sR σ2 l0 5 1 σ.1).bind (fun σ4 => (nwA σ4 13 (1000 : Int32) (componentBytes .char) [l0, l0, l1]).bind (fun σ5 => (sR σ5 l0 5 2 σ4.1).bind (fun σ6 => (sR σ6 l0 5 0 l1).bind (fun σ7 => some σ7)))))))
set_option maxHeartbeats 4000000 in
set_option maxRecDepth 20000 in
theorem m_X5_init {G : xG} {π : Nat → Nat} {d : Nat} {Q : xQ} {σ : xM} {l0 : Nat} {l1 : Nat} {τ : xM} (hf : f_X5_init σ l0 l1 = some τ) (hP : xPost σ.1 π τ Q) : xMach G π J_X5_init (d + 2) 3 1010 0 (lv_args 0 [.ref l0, .ref l1]) [] σ Q := by
  unfold f_X5_init at hf
  have hn : σ.1 ≤ σ.1 := Nat.le_refl _
  generalize hn0 : σ.1 = n0 at hP hn
  have hn : n0 ≤ σ.1 := by omega
  clear hn0
  refine xm_stL (L' := [(0, .ref l0), (1, .ref l1)]) rfl ?_
  refine xm_aload_n dX5_init_0 rfl ?_
  refine xm_objInit dX5_init_1 xw_394 xw_31 xw_32 (Nat.le_of_ble_eq_true rfl) ?_
  refine xm_aload_n dX5_init_4 rfl ?_
  refine xb_new (N := 3) (C9 := 2) (Z9 := 1007) dX5_init_5 xcl10 xw_395 xw_40 xw_3 xdf10 (by omega) (by omega) rfl hn hP hf (fun σ1 π hf hn hP => ?_)
  refine xm_dup dX5_init_8 rfl ?_
  refine xm_bipush dX5_init_9 (v := 7) (by decide) ?_
  obtain ⟨τ3, eτ3, hf⟩ := xbind hf
  refine xb_ctor (J' := J_X10_init) (τ1 := τ3) (C1 := 1) (Z1 := 7) (C9 := 1) (Z9 := 1000) (As := [.int (7 : Int32)]) dX5_init_11 (xc_X10_init _ _) rfl rfl xw_396 xw_42 rfl (Nat.le_of_ble_eq_true rfl) rfl (Nat.le_of_ble_eq_true rfl) (fun Q1 hq => m_X10_init7 (d := d + 0) eτ3 hq) (by omega) (by omega) rfl hn hP hf (fun σ2 π hf hn hP => ?_)
  refine xb_putRc (a := l0) (c := 5) (k := 1) (v := σ.1) dX5_init_14 xcl5 (by decide) xw_398 rfl rfl rfl (fun z => by cases z <;> rfl) (fun z => by cases z <;> rfl) rfl hn hf (fun σ4 hf hn => ?_)
  refine xm_aload_n dX5_init_17 rfl ?_
  refine xm_sipush dX5_init_18 (v := 1000) (by decide) ?_
  refine xb_newaC (N := 1000) (C9 := 0) (Z9 := 0) dX5_init_21 xw_241 rfl (by omega) (by omega) rfl hn hP hf (fun σ5 π hf hn hP => ?_)
  refine xb_putRc (a := l0) (c := 5) (k := 2) (v := σ4.1) dX5_init_23 xcl5 (by decide) xw_399 rfl rfl rfl (fun z => by cases z <;> rfl) (fun z => by cases z <;> rfl) rfl hn hf (fun σ6 hf hn => ?_)
  refine xm_aload_n dX5_init_26 rfl ?_
  refine xm_aload_n dX5_init_27 rfl ?_
  refine xb_putRc (a := l0) (c := 5) (k := 0) (v := l1) dX5_init_28 xcl5 (by decide) xw_397 rfl rfl rfl (fun z => by cases z <;> rfl) (fun z => by cases z <;> rfl) rfl hn hf (fun σ7 hf hn => ?_)
  cases hf
  exact xm_vret dX5_init_31 rfl (hP π xag_rf)
-- Rankwise$Machine constructor : cells 1216, slots 9568
def f_X4_init_b130 (l0 : Nat) (l1 : Nat) (l2 : Nat) (i : Int32) (σ : xM) : Option xM :=
  (gR σ l0 4 2).bind (fun x29 => (nwO σ 2 [x29, l0, l1, l2]).bind (fun σ30 => (f_X2_init7 σ30 σ.1).bind (fun τ32 => (cdo σ30 τ32 [σ.1, x29, l0, l1, l2]).bind (fun σ31 => (wR σ31 x29 16 2 i σ.1).bind (fun σ33 => some σ33)))))
set_option maxHeartbeats 4000000 in
set_option maxRecDepth 20000 in
theorem L_X4_init_l130 {G : xG} {d C9 Z9 n0 : Nat} {τ : xM} {Q : xQ} {ρ : Type} {r : ρ} {K : xM → Option ρ} {l0 : Nat} {l1 : Nat} {l2 : Nat} : ∀ (n : Nat) (i : Int32) (π : Nat → Nat) (σ : xM), 0 ≤ i.toInt → i.toInt + (n : Int) = 240 → (xrep (f_X4_init_b130 l0 l1 l2) n i σ).bind K = some r → n0 ≤ σ.1 → xPost n0 π τ Q →
    (∀ (π1 : Nat → Nat) (σ1 : xM), K σ1 = some r → n0 ≤ σ1.1 → xPost n0 π1 τ Q → xMach G π1 J_X4_init (d + 3) C9 Z9 158 [(0, .ref l0), (1, .ref l1), (2, .ref l2)] [] σ1 Q) → xMach G π J_X4_init (d + 3) (n * 5 + C9) (n * 22 + Z9) 130 [(0, .ref l0), (1, .ref l1), (2, .ref l2), (3, .int i)] [] σ Q := by
  intro n
  induction n with
  | zero =>
    intro i π σ h0 hi hf hn hP kk
    have hi' : i = 240 := Int32.toInt_inj.mp (by rw [show (240 : Int32).toInt = 240 from by decide]; omega)
    subst hi'
    refine xm_iload_n dX4_init_130 rfl ?_
    refine xm_sipush dX4_init_131 (v := 240) (by decide) ?_
    refine xm_icmp_ge 158 dX4_init_134 (by decide) (fun _ => ?_) (fun q => absurd (Int32.le_refl _) q)
    refine xm_wk (C9 := C9) (Z9 := Z9) (by omega) (by omega) ?_
    exact xm_sub [0, 1, 2] rfl (kk π σ hf hn hP)
  | succ n ih =>
    intro i π σ h0 hi hf hn hP kk
    have hlt : ¬ (240 : Int32) ≤ i := by rw [Int32.le_iff_toInt_le, show (240 : Int32).toInt = 240 from by decide]; omega
    have hi2 : (i + 1).toInt + (n : Int) = 240 := by
      rw [i32_succ (by omega) (by omega)]
      omega
    obtain ⟨σz, hfz, hf⟩ := xbind hf
    obtain ⟨σy, hfy, hfz⟩ := xbind (show (f_X4_init_b130 l0 l1 l2 i σ).bind (xrep (f_X4_init_b130 l0 l1 l2) n (i + 1)) = some σz from hfz)
    have hf : (f_X4_init_b130 l0 l1 l2 i σ).bind (fun σ => (xrep (f_X4_init_b130 l0 l1 l2) n (i + 1) σ).bind K) = some r := by rw [hfy]; show (xrep (f_X4_init_b130 l0 l1 l2) n (i + 1) σy).bind K = some r; rw [hfz]; exact hf
    unfold f_X4_init_b130 at hf
    simp only [Option.bind_assoc, Option.bind_some, xite_bind, Option.bind_none] at hf
    refine xm_wk (C9 := 5 + (n * 5 + C9)) (Z9 := 22 + (n * 22 + Z9)) (by omega) (by omega) ?_
    refine xm_iload_n dX4_init_130 rfl ?_
    refine xm_sipush dX4_init_131 (v := 240) (by decide) ?_
    refine xm_icmp_ge 158 dX4_init_134 (by decide) (fun q => absurd q hlt) (fun _ => ?_)
    refine xm_aload_n dX4_init_137 rfl ?_
    refine xb_getR (a := l0) (c := 4) (k := 2) dX4_init_138 xcl4 (by decide) xw_423 rfl hf (fun x29 ex29 hf => ?_)
    refine xm_iload_n dX4_init_141 rfl ?_
    refine xb_new (N := 2) (C9 := (4 + (n * 5 + C9))) (Z9 := (20 + (n * 22 + Z9))) dX4_init_142 xcl2 xw_418 xw_244 xw_12 xdf2 (by omega) (by omega) rfl hn hP hf (fun σ30 π hf hn hP => ?_)
    refine xm_dup dX4_init_145 rfl ?_
    refine xm_bipush dX4_init_146 (v := 7) (by decide) ?_
    obtain ⟨τ32, eτ32, hf⟩ := xbind hf
    refine xb_ctor (J' := J_X2_init) (τ1 := τ32) (C1 := 4) (Z1 := 20) (C9 := (0 + (n * 5 + C9))) (Z9 := (0 + (n * 22 + Z9))) (As := [.int (7 : Int32)]) dX4_init_148 (xc_X2_init _ _) rfl rfl xw_419 xw_246 rfl (Nat.le_of_ble_eq_true rfl) rfl (Nat.le_of_ble_eq_true rfl) (fun Q1 hq => m_X2_init7 (d := d + 0) eτ32 hq) (by omega) (by omega) rfl hn hP hf (fun σ31 π hf hn hP => ?_)
    refine xb_aast dX4_init_151 (by decide) hf (fun σ33 eσ33 hf => ?_)
    have hn : n0 ≤ σ33.1 := by rw [wR_n eσ33]; exact hn
    refine xm_wk (C9 := n * 5 + C9) (Z9 := n * 22 + Z9) (by omega) (by omega) ?_
    refine xm_iinc dX4_init_152 rfl rfl (by decide) (xm_stL (L' := [(3, .int (i + 1)), (0, .ref l0), (1, .ref l1), (2, .ref l2)]) rfl ?_)
    refine xm_goto 130 dX4_init_155 (by decide) ?_
    exact xm_sub [1, 2, 3, 0] rfl (ih (i + 1) π _ (by rw [i32_succ (by omega) (by omega)]; omega) hi2 hf hn hP kk)
set_option maxRecDepth 20000 in
def f_X4_init (σ : xM) (l0 : Nat) (l1 : Nat) (l2 : Nat) : Option xM :=
  (nwA σ 16 (240 : Int32) 4 [l0, l0, l1, l2]).bind (fun σ1 => (sR σ1 l0 4 2 σ.1).bind (fun σ2 => (nwO σ2 2 [l0, l0, l1, l2]).bind (fun σ3 => (f_X2_init100 σ3 σ2.1).bind (fun τ5 => (cdo σ3 τ5 [σ2.1, l0, l0, l1, l2]).bind (fun σ4 => (sR σ4 l0 4 5 σ2.1).bind (fun σ6 => (nwA σ6 14 (480 : Int32) (componentBytes .int) [l0, l0, l1, l2]).bind (fun σ7 => (sR σ7 l0 4 6 σ6.1).bind (fun σ8 => (nwA σ8 17 (480 : Int32) 4 [l0, l0, l1, l2]).bind (fun σ9 => (sR σ9 l0 4 7 σ8.1).bind (fun σ10 => (nwA σ10 14 (480 : Int32) (componentBytes .int) [l0, l0, l1, l2]).bind (fun σ11 => (sR σ11 l0 4 8 σ10.1).bind (fun σ12 => (nwA σ12 14 (480 : Int32) (componentBytes .int) [l0, l0, l1, l2]).bind (fun σ13 => (sR σ13 l0 4 9 σ12.1).bind (fun σ14 => (nwA σ14 14 (480 : Int32) (componentBytes .int) [l0, l0, l1, l2]).bind (fun σ15 => (sR σ15 l0 4 10 σ14.1).bind (fun σ16 => (nwA σ16 14 (480 : Int32) (componentBytes .int) [l0, l0, l1, l2]).bind (fun σ17 => (sR σ17 l0 4 11 σ16.1).bind (fun σ18 => (nwA σ18 14 (240 : Int32) (componentBytes .int) [l0, l0, l1, l2]).bind (fun σ19 => (sR σ19 l0 4 14 σ18.1).bind (fun σ20 => (nwA σ20 14 (240 : Int32) (componentBytes .int) [l0, l0, l1, l2]).bind (fun σ21 => (sR σ21 l0 4 15 σ20.1).bind (fun σ22 => (nwA σ22 14 (240 : Int32) (componentBytes .int) [l0, l0, l1, l2]).bind (fun σ23 => (sR σ23 l0 4 16 σ22.1).bind (fun σ24 => (nwA σ24 14 (240 : Int32) (componentBytes .int) [l0, l0, l1, l2]).bind (fun σ25 => (sR σ25 l0 4 17 σ24.1).bind (fun σ26 => (sR σ26 l0 4 0 l1).bind (fun σ27 => (sR σ27 l0 4 1 l2).bind (fun σ28 => (xrep (f_X4_init_b130 l0 l1 l2) 240 (0 : Int32) σ28).bind (fun σ34 => some σ34)))))))))))))))))))))))))))))
set_option maxHeartbeats 4000000 in
set_option maxRecDepth 20000 in
theorem m_X4_init {G : xG} {π : Nat → Nat} {d : Nat} {Q : xQ} {σ : xM} {l0 : Nat} {l1 : Nat} {l2 : Nat} {τ : xM} (hf : f_X4_init σ l0 l1 l2 = some τ) (hP : xPost σ.1 π τ Q) : xMach G π J_X4_init (d + 3) 1216 9568 0 (lv_args 0 [.ref l0, .ref l1, .ref l2]) [] σ Q := by
  unfold f_X4_init at hf
  have hn : σ.1 ≤ σ.1 := Nat.le_refl _
  generalize hn0 : σ.1 = n0 at hP hn
  have hn : n0 ≤ σ.1 := by omega
  clear hn0
  refine xm_stL (L' := [(0, .ref l0), (1, .ref l1), (2, .ref l2)]) rfl ?_
  refine xm_aload_n dX4_init_0 rfl ?_
  refine xm_objInit dX4_init_1 xw_417 xw_31 xw_32 (Nat.le_of_ble_eq_true rfl) ?_
  refine xm_aload_n dX4_init_4 rfl ?_
  refine xm_sipush dX4_init_5 (v := 240) (by decide) ?_
  refine xb_newqF (N := 240) (C9 := 1215) (Z9 := 9328) dX4_init_8 xw_418 rfl (by omega) (by omega) rfl hn hP hf (fun σ1 π hf hn hP => ?_)
  refine xb_putRc (a := l0) (c := 4) (k := 2) (v := σ.1) dX4_init_11 xcl4 (by decide) xw_423 rfl rfl rfl (fun z => by cases z <;> rfl) (fun z => by cases z <;> rfl) rfl hn hf (fun σ2 hf hn => ?_)
  refine xm_aload_n dX4_init_14 rfl ?_
  refine xb_new (N := 2) (C9 := 1214) (Z9 := 9326) dX4_init_15 xcl2 xw_418 xw_244 xw_12 xdf2 (by omega) (by omega) rfl hn hP hf (fun σ3 π hf hn hP => ?_)
  refine xm_dup dX4_init_18 rfl ?_
  refine xm_bipush dX4_init_19 (v := 100) (by decide) ?_
  obtain ⟨τ5, eτ5, hf⟩ := xbind hf
  refine xb_ctor (J' := J_X2_init) (τ1 := τ5) (C1 := 4) (Z1 := 206) (C9 := 1210) (Z9 := 9120) (As := [.int (100 : Int32)]) dX4_init_21 (xc_X2_init _ _) rfl rfl xw_419 xw_246 rfl (Nat.le_of_ble_eq_true rfl) rfl (Nat.le_of_ble_eq_true rfl) (fun Q1 hq => m_X2_init100 (d := d + 0) eτ5 hq) (by omega) (by omega) rfl hn hP hf (fun σ4 π hf hn hP => ?_)
  refine xb_putRc (a := l0) (c := 4) (k := 5) (v := σ2.1) dX4_init_24 xcl4 (by decide) xw_426 rfl rfl rfl (fun z => by cases z <;> rfl) (fun z => by cases z <;> rfl) rfl hn hf (fun σ6 hf hn => ?_)
  refine xm_aload_n dX4_init_27 rfl ?_
  refine xm_sipush dX4_init_28 (v := 480) (by decide) ?_
  refine xb_newaI (N := 480) (C9 := 1209) (Z9 := 8640) dX4_init_31 xw_57 rfl (by omega) (by omega) rfl hn hP hf (fun σ7 π hf hn hP => ?_)
  refine xb_putRc (a := l0) (c := 4) (k := 6) (v := σ6.1) dX4_init_33 xcl4 (by decide) xw_427 rfl rfl rfl (fun z => by cases z <;> rfl) (fun z => by cases z <;> rfl) rfl hn hf (fun σ8 hf hn => ?_)
  refine xm_aload_n dX4_init_36 rfl ?_
  refine xm_sipush dX4_init_37 (v := 480) (by decide) ?_
  refine xb_newqT (N := 480) (C9 := 1208) (Z9 := 8160) dX4_init_40 xw_420 rfl (by omega) (by omega) rfl hn hP hf (fun σ9 π hf hn hP => ?_)
  refine xb_putRc (a := l0) (c := 4) (k := 7) (v := σ8.1) dX4_init_43 xcl4 (by decide) xw_428 rfl rfl rfl (fun z => by cases z <;> rfl) (fun z => by cases z <;> rfl) rfl hn hf (fun σ10 hf hn => ?_)
  refine xm_aload_n dX4_init_46 rfl ?_
  refine xm_sipush dX4_init_47 (v := 480) (by decide) ?_
  refine xb_newaI (N := 480) (C9 := 1207) (Z9 := 7680) dX4_init_50 xw_57 rfl (by omega) (by omega) rfl hn hP hf (fun σ11 π hf hn hP => ?_)
  refine xb_putRc (a := l0) (c := 4) (k := 8) (v := σ10.1) dX4_init_52 xcl4 (by decide) xw_429 rfl rfl rfl (fun z => by cases z <;> rfl) (fun z => by cases z <;> rfl) rfl hn hf (fun σ12 hf hn => ?_)
  refine xm_aload_n dX4_init_55 rfl ?_
  refine xm_sipush dX4_init_56 (v := 480) (by decide) ?_
  refine xb_newaI (N := 480) (C9 := 1206) (Z9 := 7200) dX4_init_59 xw_57 rfl (by omega) (by omega) rfl hn hP hf (fun σ13 π hf hn hP => ?_)
  refine xb_putRc (a := l0) (c := 4) (k := 9) (v := σ12.1) dX4_init_61 xcl4 (by decide) xw_430 rfl rfl rfl (fun z => by cases z <;> rfl) (fun z => by cases z <;> rfl) rfl hn hf (fun σ14 hf hn => ?_)
  refine xm_aload_n dX4_init_64 rfl ?_
  refine xm_sipush dX4_init_65 (v := 480) (by decide) ?_
  refine xb_newaI (N := 480) (C9 := 1205) (Z9 := 6720) dX4_init_68 xw_57 rfl (by omega) (by omega) rfl hn hP hf (fun σ15 π hf hn hP => ?_)
  refine xb_putRc (a := l0) (c := 4) (k := 10) (v := σ14.1) dX4_init_70 xcl4 (by decide) xw_431 rfl rfl rfl (fun z => by cases z <;> rfl) (fun z => by cases z <;> rfl) rfl hn hf (fun σ16 hf hn => ?_)
  refine xm_aload_n dX4_init_73 rfl ?_
  refine xm_sipush dX4_init_74 (v := 480) (by decide) ?_
  refine xb_newaI (N := 480) (C9 := 1204) (Z9 := 6240) dX4_init_77 xw_57 rfl (by omega) (by omega) rfl hn hP hf (fun σ17 π hf hn hP => ?_)
  refine xb_putRc (a := l0) (c := 4) (k := 11) (v := σ16.1) dX4_init_79 xcl4 (by decide) xw_432 rfl rfl rfl (fun z => by cases z <;> rfl) (fun z => by cases z <;> rfl) rfl hn hf (fun σ18 hf hn => ?_)
  refine xm_aload_n dX4_init_82 rfl ?_
  refine xm_sipush dX4_init_83 (v := 240) (by decide) ?_
  refine xb_newaI (N := 240) (C9 := 1203) (Z9 := 6000) dX4_init_86 xw_57 rfl (by omega) (by omega) rfl hn hP hf (fun σ19 π hf hn hP => ?_)
  refine xb_putRc (a := l0) (c := 4) (k := 14) (v := σ18.1) dX4_init_88 xcl4 (by decide) xw_435 rfl rfl rfl (fun z => by cases z <;> rfl) (fun z => by cases z <;> rfl) rfl hn hf (fun σ20 hf hn => ?_)
  refine xm_aload_n dX4_init_91 rfl ?_
  refine xm_sipush dX4_init_92 (v := 240) (by decide) ?_
  refine xb_newaI (N := 240) (C9 := 1202) (Z9 := 5760) dX4_init_95 xw_57 rfl (by omega) (by omega) rfl hn hP hf (fun σ21 π hf hn hP => ?_)
  refine xb_putRc (a := l0) (c := 4) (k := 15) (v := σ20.1) dX4_init_97 xcl4 (by decide) xw_436 rfl rfl rfl (fun z => by cases z <;> rfl) (fun z => by cases z <;> rfl) rfl hn hf (fun σ22 hf hn => ?_)
  refine xm_aload_n dX4_init_100 rfl ?_
  refine xm_sipush dX4_init_101 (v := 240) (by decide) ?_
  refine xb_newaI (N := 240) (C9 := 1201) (Z9 := 5520) dX4_init_104 xw_57 rfl (by omega) (by omega) rfl hn hP hf (fun σ23 π hf hn hP => ?_)
  refine xb_putRc (a := l0) (c := 4) (k := 16) (v := σ22.1) dX4_init_106 xcl4 (by decide) xw_437 rfl rfl rfl (fun z => by cases z <;> rfl) (fun z => by cases z <;> rfl) rfl hn hf (fun σ24 hf hn => ?_)
  refine xm_aload_n dX4_init_109 rfl ?_
  refine xm_sipush dX4_init_110 (v := 240) (by decide) ?_
  refine xb_newaI (N := 240) (C9 := 1200) (Z9 := 5280) dX4_init_113 xw_57 rfl (by omega) (by omega) rfl hn hP hf (fun σ25 π hf hn hP => ?_)
  refine xb_putRc (a := l0) (c := 4) (k := 17) (v := σ24.1) dX4_init_115 xcl4 (by decide) xw_438 rfl rfl rfl (fun z => by cases z <;> rfl) (fun z => by cases z <;> rfl) rfl hn hf (fun σ26 hf hn => ?_)
  refine xm_aload_n dX4_init_118 rfl ?_
  refine xm_aload_n dX4_init_119 rfl ?_
  refine xb_putRc (a := l0) (c := 4) (k := 0) (v := l1) dX4_init_120 xcl4 (by decide) xw_421 rfl rfl rfl (fun z => by cases z <;> rfl) (fun z => by cases z <;> rfl) rfl hn hf (fun σ27 hf hn => ?_)
  refine xm_aload_n dX4_init_123 rfl ?_
  refine xm_aload_n dX4_init_124 rfl ?_
  refine xb_putRc (a := l0) (c := 4) (k := 1) (v := l2) dX4_init_125 xcl4 (by decide) xw_422 rfl rfl rfl (fun z => by cases z <;> rfl) (fun z => by cases z <;> rfl) rfl hn hf (fun σ28 hf hn => ?_)
  refine xm_iconst dX4_init_128 (v := 0) (by decide) ?_
  refine xm_istore_n dX4_init_129 (by decide) (xm_stL (L' := [(3, .int (0 : Int32)), (0, .ref l0), (1, .ref l1), (2, .ref l2)]) rfl ?_)
  refine xm_wk (C9 := 240 * 5 + 0) (Z9 := 240 * 22 + 0) (by omega) (by omega) ?_
  refine xm_sub [1, 2, 3, 0] rfl (L_X4_init_l130 240 0 π _ (by decide) (by decide) hf hn hP (fun π σ34 hf hn hP => ?_))
  cases hf
  exact xm_vret dX4_init_158 rfl (hP π xag_rf)
-- Rankwise$Slopes constructor : cells 421, slots 2300
def f_X8_init_b77 (l0 : Nat) (l1 : Nat) (l2 : Nat) (i : Int32) (σ : xM) : Option xM :=
  (gR σ l0 8 2).bind (fun x21 => (nwO σ 2 [x21, l0, l1, l2]).bind (fun σ22 => (f_X2_init7 σ22 σ.1).bind (fun τ24 => (cdo σ22 τ24 [σ.1, x21, l0, l1, l2]).bind (fun σ23 => (wR σ23 x21 16 2 i σ.1).bind (fun σ25 => some σ25)))))
set_option maxHeartbeats 4000000 in
set_option maxRecDepth 20000 in
theorem L_X8_init_l77 {G : xG} {d C9 Z9 n0 : Nat} {τ : xM} {Q : xQ} {ρ : Type} {r : ρ} {K : xM → Option ρ} {l0 : Nat} {l1 : Nat} {l2 : Nat} : ∀ (n : Nat) (i : Int32) (π : Nat → Nat) (σ : xM), 0 ≤ i.toInt → i.toInt + (n : Int) = 80 → (xrep (f_X8_init_b77 l0 l1 l2) n i σ).bind K = some r → n0 ≤ σ.1 → xPost n0 π τ Q →
    (∀ (π1 : Nat → Nat) (σ1 : xM), K σ1 = some r → n0 ≤ σ1.1 → xPost n0 π1 τ Q → xMach G π1 J_X8_init (d + 3) C9 Z9 104 [(0, .ref l0), (1, .ref l1), (2, .ref l2)] [] σ1 Q) → xMach G π J_X8_init (d + 3) (n * 5 + C9) (n * 22 + Z9) 77 [(0, .ref l0), (1, .ref l1), (2, .ref l2), (3, .int i)] [] σ Q := by
  intro n
  induction n with
  | zero =>
    intro i π σ h0 hi hf hn hP kk
    have hi' : i = 80 := Int32.toInt_inj.mp (by rw [show (80 : Int32).toInt = 80 from by decide]; omega)
    subst hi'
    refine xm_iload_n dX8_init_77 rfl ?_
    refine xm_bipush dX8_init_78 (v := 80) (by decide) ?_
    refine xm_icmp_ge 104 dX8_init_80 (by decide) (fun _ => ?_) (fun q => absurd (Int32.le_refl _) q)
    refine xm_wk (C9 := C9) (Z9 := Z9) (by omega) (by omega) ?_
    exact xm_sub [0, 1, 2] rfl (kk π σ hf hn hP)
  | succ n ih =>
    intro i π σ h0 hi hf hn hP kk
    have hlt : ¬ (80 : Int32) ≤ i := by rw [Int32.le_iff_toInt_le, show (80 : Int32).toInt = 80 from by decide]; omega
    have hi2 : (i + 1).toInt + (n : Int) = 80 := by
      rw [i32_succ (by omega) (by omega)]
      omega
    obtain ⟨σz, hfz, hf⟩ := xbind hf
    obtain ⟨σy, hfy, hfz⟩ := xbind (show (f_X8_init_b77 l0 l1 l2 i σ).bind (xrep (f_X8_init_b77 l0 l1 l2) n (i + 1)) = some σz from hfz)
    have hf : (f_X8_init_b77 l0 l1 l2 i σ).bind (fun σ => (xrep (f_X8_init_b77 l0 l1 l2) n (i + 1) σ).bind K) = some r := by rw [hfy]; show (xrep (f_X8_init_b77 l0 l1 l2) n (i + 1) σy).bind K = some r; rw [hfz]; exact hf
    unfold f_X8_init_b77 at hf
    simp only [Option.bind_assoc, Option.bind_some, xite_bind, Option.bind_none] at hf
    refine xm_wk (C9 := 5 + (n * 5 + C9)) (Z9 := 22 + (n * 22 + Z9)) (by omega) (by omega) ?_
    refine xm_iload_n dX8_init_77 rfl ?_
    refine xm_bipush dX8_init_78 (v := 80) (by decide) ?_
    refine xm_icmp_ge 104 dX8_init_80 (by decide) (fun q => absurd q hlt) (fun _ => ?_)
    refine xm_aload_n dX8_init_83 rfl ?_
    refine xb_getR (a := l0) (c := 8) (k := 2) dX8_init_84 xcl8 (by decide) xw_489 rfl hf (fun x21 ex21 hf => ?_)
    refine xm_iload_n dX8_init_87 rfl ?_
    refine xb_new (N := 2) (C9 := (4 + (n * 5 + C9))) (Z9 := (20 + (n * 22 + Z9))) dX8_init_88 xcl2 xw_485 xw_244 xw_12 xdf2 (by omega) (by omega) rfl hn hP hf (fun σ22 π hf hn hP => ?_)
    refine xm_dup dX8_init_91 rfl ?_
    refine xm_bipush dX8_init_92 (v := 7) (by decide) ?_
    obtain ⟨τ24, eτ24, hf⟩ := xbind hf
    refine xb_ctor (J' := J_X2_init) (τ1 := τ24) (C1 := 4) (Z1 := 20) (C9 := (0 + (n * 5 + C9))) (Z9 := (0 + (n * 22 + Z9))) (As := [.int (7 : Int32)]) dX8_init_94 (xc_X2_init _ _) rfl rfl xw_486 xw_246 rfl (Nat.le_of_ble_eq_true rfl) rfl (Nat.le_of_ble_eq_true rfl) (fun Q1 hq => m_X2_init7 (d := d + 0) eτ24 hq) (by omega) (by omega) rfl hn hP hf (fun σ23 π hf hn hP => ?_)
    refine xb_aast dX8_init_97 (by decide) hf (fun σ25 eσ25 hf => ?_)
    have hn : n0 ≤ σ25.1 := by rw [wR_n eσ25]; exact hn
    refine xm_wk (C9 := n * 5 + C9) (Z9 := n * 22 + Z9) (by omega) (by omega) ?_
    refine xm_iinc dX8_init_98 rfl rfl (by decide) (xm_stL (L' := [(3, .int (i + 1)), (0, .ref l0), (1, .ref l1), (2, .ref l2)]) rfl ?_)
    refine xm_goto 77 dX8_init_101 (by decide) ?_
    exact xm_sub [1, 2, 3, 0] rfl (ih (i + 1) π _ (by rw [i32_succ (by omega) (by omega)]; omega) hi2 hf hn hP kk)
set_option maxRecDepth 20000 in
def f_X8_init (σ : xM) (l0 : Nat) (l1 : Nat) (l2 : Nat) : Option xM :=
  (nwA σ 16 (80 : Int32) 4 [l0, l0, l1, l2]).bind (fun σ1 => (sR σ1 l0 8 2 σ.1).bind (fun σ2 => (nwO σ2 2 [l0, l0, l1, l2]).bind (fun σ3 => (f_X2_init7 σ3 σ2.1).bind (fun τ5 => (cdo σ3 τ5 [σ2.1, l0, l0, l1, l2]).bind (fun σ4 => (sR σ4 l0 8 4 σ2.1).bind (fun σ6 => (nwO σ6 2 [l0, l0, l1, l2]).bind (fun σ7 => (f_X2_init7 σ7 σ6.1).bind (fun τ9 => (cdo σ7 τ9 [σ6.1, l0, l0, l1, l2]).bind (fun σ8 => (sR σ8 l0 8 5 σ6.1).bind (fun σ10 => (nwO σ10 2 [l0, l0, l1, l2]).bind (fun σ11 => (f_X2_init100 σ11 σ10.1).bind (fun τ13 => (cdo σ11 τ13 [σ10.1, l0, l0, l1, l2]).bind (fun σ12 => (sR σ12 l0 8 6 σ10.1).bind (fun σ14 => (nwO σ14 2 [l0, l0, l1, l2]).bind (fun σ15 => (f_X2_init100 σ15 σ14.1).bind (fun τ17 => (cdo σ15 τ17 [σ14.1, l0, l0, l1, l2]).bind (fun σ16 => (sR σ16 l0 8 7 σ14.1).bind (fun σ18 => (sR σ18 l0 8 0 l1).bind (fun σ19 => (sR σ19 l0 8 1 l2).bind (fun σ20 => (xrep (f_X8_init_b77 l0 l1 l2) 80 (0 : Int32) σ20).bind (fun σ26 => some σ26)))))))))))))))))))))
set_option maxHeartbeats 4000000 in
set_option maxRecDepth 20000 in
theorem m_X8_init {G : xG} {π : Nat → Nat} {d : Nat} {Q : xQ} {σ : xM} {l0 : Nat} {l1 : Nat} {l2 : Nat} {τ : xM} (hf : f_X8_init σ l0 l1 l2 = some τ) (hP : xPost σ.1 π τ Q) : xMach G π J_X8_init (d + 3) 421 2300 0 (lv_args 0 [.ref l0, .ref l1, .ref l2]) [] σ Q := by
  unfold f_X8_init at hf
  have hn : σ.1 ≤ σ.1 := Nat.le_refl _
  generalize hn0 : σ.1 = n0 at hP hn
  have hn : n0 ≤ σ.1 := by omega
  clear hn0
  refine xm_stL (L' := [(0, .ref l0), (1, .ref l1), (2, .ref l2)]) rfl ?_
  refine xm_aload_n dX8_init_0 rfl ?_
  refine xm_objInit dX8_init_1 xw_484 xw_31 xw_32 (Nat.le_of_ble_eq_true rfl) ?_
  refine xm_aload_n dX8_init_4 rfl ?_
  refine xm_bipush dX8_init_5 (v := 80) (by decide) ?_
  refine xb_newqF (N := 80) (C9 := 420) (Z9 := 2220) dX8_init_7 xw_485 rfl (by omega) (by omega) rfl hn hP hf (fun σ1 π hf hn hP => ?_)
  refine xb_putRc (a := l0) (c := 8) (k := 2) (v := σ.1) dX8_init_10 xcl8 (by decide) xw_489 rfl rfl rfl (fun z => by cases z <;> rfl) (fun z => by cases z <;> rfl) rfl hn hf (fun σ2 hf hn => ?_)
  refine xm_aload_n dX8_init_13 rfl ?_
  refine xb_new (N := 2) (C9 := 419) (Z9 := 2218) dX8_init_14 xcl2 xw_485 xw_244 xw_12 xdf2 (by omega) (by omega) rfl hn hP hf (fun σ3 π hf hn hP => ?_)
  refine xm_dup dX8_init_17 rfl ?_
  refine xm_bipush dX8_init_18 (v := 7) (by decide) ?_
  obtain ⟨τ5, eτ5, hf⟩ := xbind hf
  refine xb_ctor (J' := J_X2_init) (τ1 := τ5) (C1 := 4) (Z1 := 20) (C9 := 415) (Z9 := 2198) (As := [.int (7 : Int32)]) dX8_init_20 (xc_X2_init _ _) rfl rfl xw_486 xw_246 rfl (Nat.le_of_ble_eq_true rfl) rfl (Nat.le_of_ble_eq_true rfl) (fun Q1 hq => m_X2_init7 (d := d + 0) eτ5 hq) (by omega) (by omega) rfl hn hP hf (fun σ4 π hf hn hP => ?_)
  refine xb_putRc (a := l0) (c := 8) (k := 4) (v := σ2.1) dX8_init_23 xcl8 (by decide) xw_491 rfl rfl rfl (fun z => by cases z <;> rfl) (fun z => by cases z <;> rfl) rfl hn hf (fun σ6 hf hn => ?_)
  refine xm_aload_n dX8_init_26 rfl ?_
  refine xb_new (N := 2) (C9 := 414) (Z9 := 2196) dX8_init_27 xcl2 xw_485 xw_244 xw_12 xdf2 (by omega) (by omega) rfl hn hP hf (fun σ7 π hf hn hP => ?_)
  refine xm_dup dX8_init_30 rfl ?_
  refine xm_bipush dX8_init_31 (v := 7) (by decide) ?_
  obtain ⟨τ9, eτ9, hf⟩ := xbind hf
  refine xb_ctor (J' := J_X2_init) (τ1 := τ9) (C1 := 4) (Z1 := 20) (C9 := 410) (Z9 := 2176) (As := [.int (7 : Int32)]) dX8_init_33 (xc_X2_init _ _) rfl rfl xw_486 xw_246 rfl (Nat.le_of_ble_eq_true rfl) rfl (Nat.le_of_ble_eq_true rfl) (fun Q1 hq => m_X2_init7 (d := d + 0) eτ9 hq) (by omega) (by omega) rfl hn hP hf (fun σ8 π hf hn hP => ?_)
  refine xb_putRc (a := l0) (c := 8) (k := 5) (v := σ6.1) dX8_init_36 xcl8 (by decide) xw_492 rfl rfl rfl (fun z => by cases z <;> rfl) (fun z => by cases z <;> rfl) rfl hn hf (fun σ10 hf hn => ?_)
  refine xm_aload_n dX8_init_39 rfl ?_
  refine xb_new (N := 2) (C9 := 409) (Z9 := 2174) dX8_init_40 xcl2 xw_485 xw_244 xw_12 xdf2 (by omega) (by omega) rfl hn hP hf (fun σ11 π hf hn hP => ?_)
  refine xm_dup dX8_init_43 rfl ?_
  refine xm_bipush dX8_init_44 (v := 100) (by decide) ?_
  obtain ⟨τ13, eτ13, hf⟩ := xbind hf
  refine xb_ctor (J' := J_X2_init) (τ1 := τ13) (C1 := 4) (Z1 := 206) (C9 := 405) (Z9 := 1968) (As := [.int (100 : Int32)]) dX8_init_46 (xc_X2_init _ _) rfl rfl xw_486 xw_246 rfl (Nat.le_of_ble_eq_true rfl) rfl (Nat.le_of_ble_eq_true rfl) (fun Q1 hq => m_X2_init100 (d := d + 0) eτ13 hq) (by omega) (by omega) rfl hn hP hf (fun σ12 π hf hn hP => ?_)
  refine xb_putRc (a := l0) (c := 8) (k := 6) (v := σ10.1) dX8_init_49 xcl8 (by decide) xw_493 rfl rfl rfl (fun z => by cases z <;> rfl) (fun z => by cases z <;> rfl) rfl hn hf (fun σ14 hf hn => ?_)
  refine xm_aload_n dX8_init_52 rfl ?_
  refine xb_new (N := 2) (C9 := 404) (Z9 := 1966) dX8_init_53 xcl2 xw_485 xw_244 xw_12 xdf2 (by omega) (by omega) rfl hn hP hf (fun σ15 π hf hn hP => ?_)
  refine xm_dup dX8_init_56 rfl ?_
  refine xm_bipush dX8_init_57 (v := 100) (by decide) ?_
  obtain ⟨τ17, eτ17, hf⟩ := xbind hf
  refine xb_ctor (J' := J_X2_init) (τ1 := τ17) (C1 := 4) (Z1 := 206) (C9 := 400) (Z9 := 1760) (As := [.int (100 : Int32)]) dX8_init_59 (xc_X2_init _ _) rfl rfl xw_486 xw_246 rfl (Nat.le_of_ble_eq_true rfl) rfl (Nat.le_of_ble_eq_true rfl) (fun Q1 hq => m_X2_init100 (d := d + 0) eτ17 hq) (by omega) (by omega) rfl hn hP hf (fun σ16 π hf hn hP => ?_)
  refine xb_putRc (a := l0) (c := 8) (k := 7) (v := σ14.1) dX8_init_62 xcl8 (by decide) xw_494 rfl rfl rfl (fun z => by cases z <;> rfl) (fun z => by cases z <;> rfl) rfl hn hf (fun σ18 hf hn => ?_)
  refine xm_aload_n dX8_init_65 rfl ?_
  refine xm_aload_n dX8_init_66 rfl ?_
  refine xb_putRc (a := l0) (c := 8) (k := 0) (v := l1) dX8_init_67 xcl8 (by decide) xw_487 rfl rfl rfl (fun z => by cases z <;> rfl) (fun z => by cases z <;> rfl) rfl hn hf (fun σ19 hf hn => ?_)
  refine xm_aload_n dX8_init_70 rfl ?_
  refine xm_aload_n dX8_init_71 rfl ?_
  refine xb_putRc (a := l0) (c := 8) (k := 1) (v := l2) dX8_init_72 xcl8 (by decide) xw_488 rfl rfl rfl (fun z => by cases z <;> rfl) (fun z => by cases z <;> rfl) rfl hn hf (fun σ20 hf hn => ?_)
  refine xm_iconst dX8_init_75 (v := 0) (by decide) ?_
  refine xm_istore_n dX8_init_76 (by decide) (xm_stL (L' := [(3, .int (0 : Int32)), (0, .ref l0), (1, .ref l1), (2, .ref l2)]) rfl ?_)
  refine xm_wk (C9 := 80 * 5 + 0) (Z9 := 80 * 22 + 0) (by omega) (by omega) ?_
  refine xm_sub [1, 2, 3, 0] rfl (L_X8_init_l77 80 0 π _ (by decide) (by decide) hf hn hP (fun π σ26 hf hn hP => ?_))
  cases hf
  exact xm_vret dX8_init_104 rfl (hP π xag_rf)
-- Rankwise$Rewriter constructor : cells 8, slots 568
set_option maxRecDepth 20000 in
def f_X7_init (σ : xM) (l0 : Nat) (l1 : Nat) : Option xM :=
  (nwO σ 9 [l0, l0, l1]).bind (fun σ1 => (f_X9_init σ1 σ.1).bind (fun τ3 => (cdo σ1 τ3 [σ.1, l0, l0, l1]).bind (fun σ2 => (sR σ2 l0 7 2 σ.1).bind (fun σ4 => (sR σ4 l0 7 0 l1).bind (fun σ5 => some σ5)))))
set_option maxHeartbeats 4000000 in
set_option maxRecDepth 20000 in
theorem m_X7_init {G : xG} {π : Nat → Nat} {d : Nat} {Q : xQ} {σ : xM} {l0 : Nat} {l1 : Nat} {τ : xM} (hf : f_X7_init σ l0 l1 = some τ) (hP : xPost σ.1 π τ Q) : xMach G π J_X7_init (d + 2) 8 568 0 (lv_args 0 [.ref l0, .ref l1]) [] σ Q := by
  unfold f_X7_init at hf
  have hn : σ.1 ≤ σ.1 := Nat.le_refl _
  generalize hn0 : σ.1 = n0 at hP hn
  have hn : n0 ≤ σ.1 := by omega
  clear hn0
  refine xm_stL (L' := [(0, .ref l0), (1, .ref l1)]) rfl ?_
  refine xm_aload_n dX7_init_0 rfl ?_
  refine xm_objInit dX7_init_1 xw_517 xw_31 xw_32 (Nat.le_of_ble_eq_true rfl) ?_
  refine xm_aload_n dX7_init_4 rfl ?_
  refine xb_new (N := 8) (C9 := 7) (Z9 := 560) dX7_init_5 xcl9 xw_518 xw_186 xw_11 xdf9 (by omega) (by omega) rfl hn hP hf (fun σ1 π hf hn hP => ?_)
  refine xm_dup dX7_init_8 rfl ?_
  obtain ⟨τ3, eτ3, hf⟩ := xbind hf
  refine xb_ctorN (J' := J_X9_init) (τ1 := τ3) (C1 := 7) (Z1 := 560) (C9 := 0) (Z9 := 0) (As := []) (host := "Rankwise") dX7_init_9 (xc_X9_init _ _) rfl rfl (by decide +kernel) xw_188 rfl (Nat.le_of_ble_eq_true rfl) rfl (Nat.le_of_ble_eq_true rfl) (fun Q1 hq => m_X9_init (d := d + 0) eτ3 hq) (by omega) (by omega) rfl hn hP hf (fun σ2 π hf hn hP => ?_)
  refine xb_putRc (a := l0) (c := 7) (k := 2) (v := σ.1) dX7_init_12 xcl7 (by decide) xw_523 rfl rfl rfl (fun z => by cases z <;> rfl) (fun z => by cases z <;> rfl) rfl hn hf (fun σ4 hf hn => ?_)
  refine xm_aload_n dX7_init_15 rfl ?_
  refine xm_aload_n dX7_init_16 rfl ?_
  refine xb_putRc (a := l0) (c := 7) (k := 0) (v := l1) dX7_init_17 xcl7 (by decide) xw_520 rfl rfl rfl (fun z => by cases z <;> rfl) (fun z => by cases z <;> rfl) rfl hn hf (fun σ5 hf hn => ?_)
  cases hf
  exact xm_vret dX7_init_20 rfl (hP π xag_rf)
-- Rankwise$Gatherer constructor : cells 2325, slots 14435
def f_X3_init_b126 (l0 : Nat) (l1 : Nat) (l2 : Nat) (i : Int32) (σ : xM) : Option xM :=
  (gR σ l0 3 2).bind (fun x33 => (nwO σ 2 [x33, l0, l1, l2]).bind (fun σ34 => (f_X2_init7 σ34 σ.1).bind (fun τ36 => (cdo σ34 τ36 [σ.1, x33, l0, l1, l2]).bind (fun σ35 => (wR σ35 x33 16 2 i σ.1).bind (fun σ37 => some σ37)))))
set_option maxHeartbeats 4000000 in
set_option maxRecDepth 20000 in
theorem L_X3_init_l126 {G : xG} {d C9 Z9 n0 : Nat} {τ : xM} {Q : xQ} {ρ : Type} {r : ρ} {K : xM → Option ρ} {l0 : Nat} {l1 : Nat} {l2 : Nat} : ∀ (n : Nat) (i : Int32) (π : Nat → Nat) (σ : xM), 0 ≤ i.toInt → i.toInt + (n : Int) = 432 → (xrep (f_X3_init_b126 l0 l1 l2) n i σ).bind K = some r → n0 ≤ σ.1 → xPost n0 π τ Q →
    (∀ (π1 : Nat → Nat) (σ1 : xM), K σ1 = some r → n0 ≤ σ1.1 → xPost n0 π1 τ Q → xMach G π1 J_X3_init (d + 3) C9 Z9 154 [(0, .ref l0), (1, .ref l1), (2, .ref l2)] [] σ1 Q) → xMach G π J_X3_init (d + 3) (n * 5 + C9) (n * 22 + Z9) 126 [(0, .ref l0), (1, .ref l1), (2, .ref l2), (3, .int i)] [] σ Q := by
  intro n
  induction n with
  | zero =>
    intro i π σ h0 hi hf hn hP kk
    have hi' : i = 432 := Int32.toInt_inj.mp (by rw [show (432 : Int32).toInt = 432 from by decide]; omega)
    subst hi'
    refine xm_iload_n dX3_init_126 rfl ?_
    refine xm_sipush dX3_init_127 (v := 432) (by decide) ?_
    refine xm_icmp_ge 154 dX3_init_130 (by decide) (fun _ => ?_) (fun q => absurd (Int32.le_refl _) q)
    refine xm_wk (C9 := C9) (Z9 := Z9) (by omega) (by omega) ?_
    exact xm_sub [0, 1, 2] rfl (kk π σ hf hn hP)
  | succ n ih =>
    intro i π σ h0 hi hf hn hP kk
    have hlt : ¬ (432 : Int32) ≤ i := by rw [Int32.le_iff_toInt_le, show (432 : Int32).toInt = 432 from by decide]; omega
    have hi2 : (i + 1).toInt + (n : Int) = 432 := by
      rw [i32_succ (by omega) (by omega)]
      omega
    obtain ⟨σz, hfz, hf⟩ := xbind hf
    obtain ⟨σy, hfy, hfz⟩ := xbind (show (f_X3_init_b126 l0 l1 l2 i σ).bind (xrep (f_X3_init_b126 l0 l1 l2) n (i + 1)) = some σz from hfz)
    have hf : (f_X3_init_b126 l0 l1 l2 i σ).bind (fun σ => (xrep (f_X3_init_b126 l0 l1 l2) n (i + 1) σ).bind K) = some r := by rw [hfy]; show (xrep (f_X3_init_b126 l0 l1 l2) n (i + 1) σy).bind K = some r; rw [hfz]; exact hf
    unfold f_X3_init_b126 at hf
    simp only [Option.bind_assoc, Option.bind_some, xite_bind, Option.bind_none] at hf
    refine xm_wk (C9 := 5 + (n * 5 + C9)) (Z9 := 22 + (n * 22 + Z9)) (by omega) (by omega) ?_
    refine xm_iload_n dX3_init_126 rfl ?_
    refine xm_sipush dX3_init_127 (v := 432) (by decide) ?_
    refine xm_icmp_ge 154 dX3_init_130 (by decide) (fun q => absurd q hlt) (fun _ => ?_)
    refine xm_aload_n dX3_init_133 rfl ?_
    refine xb_getR (a := l0) (c := 3) (k := 2) dX3_init_134 xcl3 (by decide) xw_542 rfl hf (fun x33 ex33 hf => ?_)
    refine xm_iload_n dX3_init_137 rfl ?_
    refine xb_new (N := 2) (C9 := (4 + (n * 5 + C9))) (Z9 := (20 + (n * 22 + Z9))) dX3_init_138 xcl2 xw_538 xw_244 xw_12 xdf2 (by omega) (by omega) rfl hn hP hf (fun σ34 π hf hn hP => ?_)
    refine xm_dup dX3_init_141 rfl ?_
    refine xm_bipush dX3_init_142 (v := 7) (by decide) ?_
    obtain ⟨τ36, eτ36, hf⟩ := xbind hf
    refine xb_ctor (J' := J_X2_init) (τ1 := τ36) (C1 := 4) (Z1 := 20) (C9 := (0 + (n * 5 + C9))) (Z9 := (0 + (n * 22 + Z9))) (As := [.int (7 : Int32)]) dX3_init_144 (xc_X2_init _ _) rfl rfl xw_539 xw_246 rfl (Nat.le_of_ble_eq_true rfl) rfl (Nat.le_of_ble_eq_true rfl) (fun Q1 hq => m_X2_init7 (d := d + 0) eτ36 hq) (by omega) (by omega) rfl hn hP hf (fun σ35 π hf hn hP => ?_)
    refine xb_aast dX3_init_147 (by decide) hf (fun σ37 eσ37 hf => ?_)
    have hn : n0 ≤ σ37.1 := by rw [wR_n eσ37]; exact hn
    refine xm_wk (C9 := n * 5 + C9) (Z9 := n * 22 + Z9) (by omega) (by omega) ?_
    refine xm_iinc dX3_init_148 rfl rfl (by decide) (xm_stL (L' := [(3, .int (i + 1)), (0, .ref l0), (1, .ref l1), (2, .ref l2)]) rfl ?_)
    refine xm_goto 126 dX3_init_151 (by decide) ?_
    exact xm_sub [1, 2, 3, 0] rfl (ih (i + 1) π _ (by rw [i32_succ (by omega) (by omega)]; omega) hi2 hf hn hP kk)
def f_X3_init_b156 (l0 : Nat) (l1 : Nat) (l2 : Nat) (i : Int32) (σ : xM) : Option xM :=
  (gR σ l0 3 5).bind (fun x39 => (nwO σ 2 [x39, l0, l1, l2]).bind (fun σ40 => (f_X2_init100 σ40 σ.1).bind (fun τ42 => (cdo σ40 τ42 [σ.1, x39, l0, l1, l2]).bind (fun σ41 => (wR σ41 x39 16 2 i σ.1).bind (fun σ43 => (gR σ43 l0 3 6).bind (fun x44 => (nwO σ43 2 [x44, l0, l1, l2]).bind (fun σ45 => (f_X2_init100 σ45 σ43.1).bind (fun τ47 => (cdo σ45 τ47 [σ43.1, x44, l0, l1, l2]).bind (fun σ46 => (wR σ46 x44 16 2 i σ43.1).bind (fun σ48 => (gR σ48 l0 3 9).bind (fun x49 => (nwO σ48 2 [x49, l0, l1, l2]).bind (fun σ50 => (f_X2_init7 σ50 σ48.1).bind (fun τ52 => (cdo σ50 τ52 [σ48.1, x49, l0, l1, l2]).bind (fun σ51 => (wR σ51 x49 16 2 i σ48.1).bind (fun σ53 => some σ53)))))))))))))))
set_option maxHeartbeats 4000000 in
set_option maxRecDepth 20000 in
theorem L_X3_init_l156 {G : xG} {d C9 Z9 n0 : Nat} {τ : xM} {Q : xQ} {ρ : Type} {r : ρ} {K : xM → Option ρ} {l0 : Nat} {l1 : Nat} {l2 : Nat} : ∀ (n : Nat) (i : Int32) (π : Nat → Nat) (σ : xM), 0 ≤ i.toInt → i.toInt + (n : Int) = 9 → (xrep (f_X3_init_b156 l0 l1 l2) n i σ).bind K = some r → n0 ≤ σ.1 → xPost n0 π τ Q →
    (∀ (π1 : Nat → Nat) (σ1 : xM), K σ1 = some r → n0 ≤ σ1.1 → xPost n0 π1 τ Q → xMach G π1 J_X3_init (d + 3) C9 Z9 213 [(0, .ref l0), (1, .ref l1), (2, .ref l2)] [] σ1 Q) → xMach G π J_X3_init (d + 3) (n * 15 + C9) (n * 438 + Z9) 156 [(0, .ref l0), (1, .ref l1), (2, .ref l2), (3, .int i)] [] σ Q := by
  intro n
  induction n with
  | zero =>
    intro i π σ h0 hi hf hn hP kk
    have hi' : i = 9 := Int32.toInt_inj.mp (by rw [show (9 : Int32).toInt = 9 from by decide]; omega)
    subst hi'
    refine xm_iload_n dX3_init_156 rfl ?_
    refine xm_bipush dX3_init_157 (v := 9) (by decide) ?_
    refine xm_icmp_ge 213 dX3_init_159 (by decide) (fun _ => ?_) (fun q => absurd (Int32.le_refl _) q)
    refine xm_wk (C9 := C9) (Z9 := Z9) (by omega) (by omega) ?_
    exact xm_sub [0, 1, 2] rfl (kk π σ hf hn hP)
  | succ n ih =>
    intro i π σ h0 hi hf hn hP kk
    have hlt : ¬ (9 : Int32) ≤ i := by rw [Int32.le_iff_toInt_le, show (9 : Int32).toInt = 9 from by decide]; omega
    have hi2 : (i + 1).toInt + (n : Int) = 9 := by
      rw [i32_succ (by omega) (by omega)]
      omega
    obtain ⟨σz, hfz, hf⟩ := xbind hf
    obtain ⟨σy, hfy, hfz⟩ := xbind (show (f_X3_init_b156 l0 l1 l2 i σ).bind (xrep (f_X3_init_b156 l0 l1 l2) n (i + 1)) = some σz from hfz)
    have hf : (f_X3_init_b156 l0 l1 l2 i σ).bind (fun σ => (xrep (f_X3_init_b156 l0 l1 l2) n (i + 1) σ).bind K) = some r := by rw [hfy]; show (xrep (f_X3_init_b156 l0 l1 l2) n (i + 1) σy).bind K = some r; rw [hfz]; exact hf
    unfold f_X3_init_b156 at hf
    simp only [Option.bind_assoc, Option.bind_some, xite_bind, Option.bind_none] at hf
    refine xm_wk (C9 := 15 + (n * 15 + C9)) (Z9 := 438 + (n * 438 + Z9)) (by omega) (by omega) ?_
    refine xm_iload_n dX3_init_156 rfl ?_
    refine xm_bipush dX3_init_157 (v := 9) (by decide) ?_
    refine xm_icmp_ge 213 dX3_init_159 (by decide) (fun q => absurd q hlt) (fun _ => ?_)
    refine xm_aload_n dX3_init_162 rfl ?_
    refine xb_getR (a := l0) (c := 3) (k := 5) dX3_init_163 xcl3 (by decide) xw_544 rfl hf (fun x39 ex39 hf => ?_)
    refine xm_iload_n dX3_init_166 rfl ?_
    refine xb_new (N := 2) (C9 := (14 + (n * 15 + C9))) (Z9 := (436 + (n * 438 + Z9))) dX3_init_167 xcl2 xw_538 xw_244 xw_12 xdf2 (by omega) (by omega) rfl hn hP hf (fun σ40 π hf hn hP => ?_)
    refine xm_dup dX3_init_170 rfl ?_
    refine xm_bipush dX3_init_171 (v := 100) (by decide) ?_
    obtain ⟨τ42, eτ42, hf⟩ := xbind hf
    refine xb_ctor (J' := J_X2_init) (τ1 := τ42) (C1 := 4) (Z1 := 206) (C9 := (10 + (n * 15 + C9))) (Z9 := (230 + (n * 438 + Z9))) (As := [.int (100 : Int32)]) dX3_init_173 (xc_X2_init _ _) rfl rfl xw_539 xw_246 rfl (Nat.le_of_ble_eq_true rfl) rfl (Nat.le_of_ble_eq_true rfl) (fun Q1 hq => m_X2_init100 (d := d + 0) eτ42 hq) (by omega) (by omega) rfl hn hP hf (fun σ41 π hf hn hP => ?_)
    refine xb_aast dX3_init_176 (by decide) hf (fun σ43 eσ43 hf => ?_)
    have hn : n0 ≤ σ43.1 := by rw [wR_n eσ43]; exact hn
    refine xm_aload_n dX3_init_177 rfl ?_
    refine xb_getR (a := l0) (c := 3) (k := 6) dX3_init_178 xcl3 (by decide) xw_545 rfl hf (fun x44 ex44 hf => ?_)
    refine xm_iload_n dX3_init_181 rfl ?_
    refine xb_new (N := 2) (C9 := (9 + (n * 15 + C9))) (Z9 := (228 + (n * 438 + Z9))) dX3_init_182 xcl2 xw_538 xw_244 xw_12 xdf2 (by omega) (by omega) rfl hn hP hf (fun σ45 π hf hn hP => ?_)
    refine xm_dup dX3_init_185 rfl ?_
    refine xm_bipush dX3_init_186 (v := 100) (by decide) ?_
    obtain ⟨τ47, eτ47, hf⟩ := xbind hf
    refine xb_ctor (J' := J_X2_init) (τ1 := τ47) (C1 := 4) (Z1 := 206) (C9 := (5 + (n * 15 + C9))) (Z9 := (22 + (n * 438 + Z9))) (As := [.int (100 : Int32)]) dX3_init_188 (xc_X2_init _ _) rfl rfl xw_539 xw_246 rfl (Nat.le_of_ble_eq_true rfl) rfl (Nat.le_of_ble_eq_true rfl) (fun Q1 hq => m_X2_init100 (d := d + 0) eτ47 hq) (by omega) (by omega) rfl hn hP hf (fun σ46 π hf hn hP => ?_)
    refine xb_aast dX3_init_191 (by decide) hf (fun σ48 eσ48 hf => ?_)
    have hn : n0 ≤ σ48.1 := by rw [wR_n eσ48]; exact hn
    refine xm_aload_n dX3_init_192 rfl ?_
    refine xb_getR (a := l0) (c := 3) (k := 9) dX3_init_193 xcl3 (by decide) xw_548 rfl hf (fun x49 ex49 hf => ?_)
    refine xm_iload_n dX3_init_196 rfl ?_
    refine xb_new (N := 2) (C9 := (4 + (n * 15 + C9))) (Z9 := (20 + (n * 438 + Z9))) dX3_init_197 xcl2 xw_538 xw_244 xw_12 xdf2 (by omega) (by omega) rfl hn hP hf (fun σ50 π hf hn hP => ?_)
    refine xm_dup dX3_init_200 rfl ?_
    refine xm_bipush dX3_init_201 (v := 7) (by decide) ?_
    obtain ⟨τ52, eτ52, hf⟩ := xbind hf
    refine xb_ctor (J' := J_X2_init) (τ1 := τ52) (C1 := 4) (Z1 := 20) (C9 := (0 + (n * 15 + C9))) (Z9 := (0 + (n * 438 + Z9))) (As := [.int (7 : Int32)]) dX3_init_203 (xc_X2_init _ _) rfl rfl xw_539 xw_246 rfl (Nat.le_of_ble_eq_true rfl) rfl (Nat.le_of_ble_eq_true rfl) (fun Q1 hq => m_X2_init7 (d := d + 0) eτ52 hq) (by omega) (by omega) rfl hn hP hf (fun σ51 π hf hn hP => ?_)
    refine xb_aast dX3_init_206 (by decide) hf (fun σ53 eσ53 hf => ?_)
    have hn : n0 ≤ σ53.1 := by rw [wR_n eσ53]; exact hn
    refine xm_wk (C9 := n * 15 + C9) (Z9 := n * 438 + Z9) (by omega) (by omega) ?_
    refine xm_iinc dX3_init_207 rfl rfl (by decide) (xm_stL (L' := [(3, .int (i + 1)), (0, .ref l0), (1, .ref l1), (2, .ref l2)]) rfl ?_)
    refine xm_goto 156 dX3_init_210 (by decide) ?_
    exact xm_sub [1, 2, 3, 0] rfl (ih (i + 1) π _ (by rw [i32_succ (by omega) (by omega)]; omega) hi2 hf hn hP kk)
set_option maxRecDepth 20000 in
def f_X3_init (σ : xM) (l0 : Nat) (l1 : Nat) (l2 : Nat) : Option xM :=
  (nwA σ 16 (432 : Int32) 4 [l0, l0, l1, l2]).bind (fun σ1 => (sR σ1 l0 3 2 σ.1).bind (fun σ2 => (nwA σ2 14 (48 : Int32) (componentBytes .int) [l0, l0, l1, l2]).bind (fun σ3 => (sR σ3 l0 3 3 σ2.1).bind (fun σ4 => (nwA σ4 16 (9 : Int32) 4 [l0, l0, l1, l2]).bind (fun σ5 => (sR σ5 l0 3 5 σ4.1).bind (fun σ6 => (nwA σ6 16 (9 : Int32) 4 [l0, l0, l1, l2]).bind (fun σ7 => (sR σ7 l0 3 6 σ6.1).bind (fun σ8 => (nwO σ8 2 [l0, l0, l1, l2]).bind (fun σ9 => (f_X2_init100 σ9 σ8.1).bind (fun τ11 => (cdo σ9 τ11 [σ8.1, l0, l0, l1, l2]).bind (fun σ10 => (sR σ10 l0 3 7 σ8.1).bind (fun σ12 => (nwO σ12 2 [l0, l0, l1, l2]).bind (fun σ13 => (f_X2_init100 σ13 σ12.1).bind (fun τ15 => (cdo σ13 τ15 [σ12.1, l0, l0, l1, l2]).bind (fun σ14 => (sR σ14 l0 3 8 σ12.1).bind (fun σ16 => (nwA σ16 16 (9 : Int32) 4 [l0, l0, l1, l2]).bind (fun σ17 => (sR σ17 l0 3 9 σ16.1).bind (fun σ18 => (nwO σ18 2 [l0, l0, l1, l2]).bind (fun σ19 => (f_X2_init7 σ19 σ18.1).bind (fun τ21 => (cdo σ19 τ21 [σ18.1, l0, l0, l1, l2]).bind (fun σ20 => (sR σ20 l0 3 10 σ18.1).bind (fun σ22 => (nwO σ22 2 [l0, l0, l1, l2]).bind (fun σ23 => (f_X2_init7 σ23 σ22.1).bind (fun τ25 => (cdo σ23 τ25 [σ22.1, l0, l0, l1, l2]).bind (fun σ24 => (sR σ24 l0 3 11 σ22.1).bind (fun σ26 => (nwO σ26 2 [l0, l0, l1, l2]).bind (fun σ27 => (f_X2_init7 σ27 σ26.1).bind (fun τ29 => (cdo σ27 τ29 [σ26.1, l0, l0, l1, l2]).bind (fun σ28 => (sR σ28 l0 3 12 σ26.1).bind (fun σ30 => (sR σ30 l0 3 0 l1).bind (fun σ31 => (sR σ31 l0 3 1 l2).bind (fun σ32 => (xrep (f_X3_init_b126 l0 l1 l2) 432 (0 : Int32) σ32).bind (fun σ38 => (xrep (f_X3_init_b156 l0 l1 l2) 9 (0 : Int32) σ38).bind (fun σ54 => some σ54))))))))))))))))))))))))))))))))))
set_option maxHeartbeats 4000000 in
set_option maxRecDepth 20000 in
theorem m_X3_init {G : xG} {π : Nat → Nat} {d : Nat} {Q : xQ} {σ : xM} {l0 : Nat} {l1 : Nat} {l2 : Nat} {τ : xM} (hf : f_X3_init σ l0 l1 l2 = some τ) (hP : xPost σ.1 π τ Q) : xMach G π J_X3_init (d + 3) 2325 14435 0 (lv_args 0 [.ref l0, .ref l1, .ref l2]) [] σ Q := by
  unfold f_X3_init at hf
  have hn : σ.1 ≤ σ.1 := Nat.le_refl _
  generalize hn0 : σ.1 = n0 at hP hn
  have hn : n0 ≤ σ.1 := by omega
  clear hn0
  refine xm_stL (L' := [(0, .ref l0), (1, .ref l1), (2, .ref l2)]) rfl ?_
  refine xm_aload_n dX3_init_0 rfl ?_
  refine xm_objInit dX3_init_1 xw_537 xw_31 xw_32 (Nat.le_of_ble_eq_true rfl) ?_
  refine xm_aload_n dX3_init_4 rfl ?_
  refine xm_sipush dX3_init_5 (v := 432) (by decide) ?_
  refine xb_newqF (N := 432) (C9 := 2324) (Z9 := 14003) dX3_init_8 xw_538 rfl (by omega) (by omega) rfl hn hP hf (fun σ1 π hf hn hP => ?_)
  refine xb_putRc (a := l0) (c := 3) (k := 2) (v := σ.1) dX3_init_11 xcl3 (by decide) xw_542 rfl rfl rfl (fun z => by cases z <;> rfl) (fun z => by cases z <;> rfl) rfl hn hf (fun σ2 hf hn => ?_)
  refine xm_aload_n dX3_init_14 rfl ?_
  refine xm_bipush dX3_init_15 (v := 48) (by decide) ?_
  refine xb_newaI (N := 48) (C9 := 2323) (Z9 := 13955) dX3_init_17 xw_57 rfl (by omega) (by omega) rfl hn hP hf (fun σ3 π hf hn hP => ?_)
  refine xb_putRc (a := l0) (c := 3) (k := 3) (v := σ2.1) dX3_init_19 xcl3 (by decide) xw_543 rfl rfl rfl (fun z => by cases z <;> rfl) (fun z => by cases z <;> rfl) rfl hn hf (fun σ4 hf hn => ?_)
  refine xm_aload_n dX3_init_22 rfl ?_
  refine xm_bipush dX3_init_23 (v := 9) (by decide) ?_
  refine xb_newqF (N := 9) (C9 := 2322) (Z9 := 13946) dX3_init_25 xw_538 rfl (by omega) (by omega) rfl hn hP hf (fun σ5 π hf hn hP => ?_)
  refine xb_putRc (a := l0) (c := 3) (k := 5) (v := σ4.1) dX3_init_28 xcl3 (by decide) xw_544 rfl rfl rfl (fun z => by cases z <;> rfl) (fun z => by cases z <;> rfl) rfl hn hf (fun σ6 hf hn => ?_)
  refine xm_aload_n dX3_init_31 rfl ?_
  refine xm_bipush dX3_init_32 (v := 9) (by decide) ?_
  refine xb_newqF (N := 9) (C9 := 2321) (Z9 := 13937) dX3_init_34 xw_538 rfl (by omega) (by omega) rfl hn hP hf (fun σ7 π hf hn hP => ?_)
  refine xb_putRc (a := l0) (c := 3) (k := 6) (v := σ6.1) dX3_init_37 xcl3 (by decide) xw_545 rfl rfl rfl (fun z => by cases z <;> rfl) (fun z => by cases z <;> rfl) rfl hn hf (fun σ8 hf hn => ?_)
  refine xm_aload_n dX3_init_40 rfl ?_
  refine xb_new (N := 2) (C9 := 2320) (Z9 := 13935) dX3_init_41 xcl2 xw_538 xw_244 xw_12 xdf2 (by omega) (by omega) rfl hn hP hf (fun σ9 π hf hn hP => ?_)
  refine xm_dup dX3_init_44 rfl ?_
  refine xm_bipush dX3_init_45 (v := 100) (by decide) ?_
  obtain ⟨τ11, eτ11, hf⟩ := xbind hf
  refine xb_ctor (J' := J_X2_init) (τ1 := τ11) (C1 := 4) (Z1 := 206) (C9 := 2316) (Z9 := 13729) (As := [.int (100 : Int32)]) dX3_init_47 (xc_X2_init _ _) rfl rfl xw_539 xw_246 rfl (Nat.le_of_ble_eq_true rfl) rfl (Nat.le_of_ble_eq_true rfl) (fun Q1 hq => m_X2_init100 (d := d + 0) eτ11 hq) (by omega) (by omega) rfl hn hP hf (fun σ10 π hf hn hP => ?_)
  refine xb_putRc (a := l0) (c := 3) (k := 7) (v := σ8.1) dX3_init_50 xcl3 (by decide) xw_546 rfl rfl rfl (fun z => by cases z <;> rfl) (fun z => by cases z <;> rfl) rfl hn hf (fun σ12 hf hn => ?_)
  refine xm_aload_n dX3_init_53 rfl ?_
  refine xb_new (N := 2) (C9 := 2315) (Z9 := 13727) dX3_init_54 xcl2 xw_538 xw_244 xw_12 xdf2 (by omega) (by omega) rfl hn hP hf (fun σ13 π hf hn hP => ?_)
  refine xm_dup dX3_init_57 rfl ?_
  refine xm_bipush dX3_init_58 (v := 100) (by decide) ?_
  obtain ⟨τ15, eτ15, hf⟩ := xbind hf
  refine xb_ctor (J' := J_X2_init) (τ1 := τ15) (C1 := 4) (Z1 := 206) (C9 := 2311) (Z9 := 13521) (As := [.int (100 : Int32)]) dX3_init_60 (xc_X2_init _ _) rfl rfl xw_539 xw_246 rfl (Nat.le_of_ble_eq_true rfl) rfl (Nat.le_of_ble_eq_true rfl) (fun Q1 hq => m_X2_init100 (d := d + 0) eτ15 hq) (by omega) (by omega) rfl hn hP hf (fun σ14 π hf hn hP => ?_)
  refine xb_putRc (a := l0) (c := 3) (k := 8) (v := σ12.1) dX3_init_63 xcl3 (by decide) xw_547 rfl rfl rfl (fun z => by cases z <;> rfl) (fun z => by cases z <;> rfl) rfl hn hf (fun σ16 hf hn => ?_)
  refine xm_aload_n dX3_init_66 rfl ?_
  refine xm_bipush dX3_init_67 (v := 9) (by decide) ?_
  refine xb_newqF (N := 9) (C9 := 2310) (Z9 := 13512) dX3_init_69 xw_538 rfl (by omega) (by omega) rfl hn hP hf (fun σ17 π hf hn hP => ?_)
  refine xb_putRc (a := l0) (c := 3) (k := 9) (v := σ16.1) dX3_init_72 xcl3 (by decide) xw_548 rfl rfl rfl (fun z => by cases z <;> rfl) (fun z => by cases z <;> rfl) rfl hn hf (fun σ18 hf hn => ?_)
  refine xm_aload_n dX3_init_75 rfl ?_
  refine xb_new (N := 2) (C9 := 2309) (Z9 := 13510) dX3_init_76 xcl2 xw_538 xw_244 xw_12 xdf2 (by omega) (by omega) rfl hn hP hf (fun σ19 π hf hn hP => ?_)
  refine xm_dup dX3_init_79 rfl ?_
  refine xm_bipush dX3_init_80 (v := 7) (by decide) ?_
  obtain ⟨τ21, eτ21, hf⟩ := xbind hf
  refine xb_ctor (J' := J_X2_init) (τ1 := τ21) (C1 := 4) (Z1 := 20) (C9 := 2305) (Z9 := 13490) (As := [.int (7 : Int32)]) dX3_init_82 (xc_X2_init _ _) rfl rfl xw_539 xw_246 rfl (Nat.le_of_ble_eq_true rfl) rfl (Nat.le_of_ble_eq_true rfl) (fun Q1 hq => m_X2_init7 (d := d + 0) eτ21 hq) (by omega) (by omega) rfl hn hP hf (fun σ20 π hf hn hP => ?_)
  refine xb_putRc (a := l0) (c := 3) (k := 10) (v := σ18.1) dX3_init_85 xcl3 (by decide) xw_549 rfl rfl rfl (fun z => by cases z <;> rfl) (fun z => by cases z <;> rfl) rfl hn hf (fun σ22 hf hn => ?_)
  refine xm_aload_n dX3_init_88 rfl ?_
  refine xb_new (N := 2) (C9 := 2304) (Z9 := 13488) dX3_init_89 xcl2 xw_538 xw_244 xw_12 xdf2 (by omega) (by omega) rfl hn hP hf (fun σ23 π hf hn hP => ?_)
  refine xm_dup dX3_init_92 rfl ?_
  refine xm_bipush dX3_init_93 (v := 7) (by decide) ?_
  obtain ⟨τ25, eτ25, hf⟩ := xbind hf
  refine xb_ctor (J' := J_X2_init) (τ1 := τ25) (C1 := 4) (Z1 := 20) (C9 := 2300) (Z9 := 13468) (As := [.int (7 : Int32)]) dX3_init_95 (xc_X2_init _ _) rfl rfl xw_539 xw_246 rfl (Nat.le_of_ble_eq_true rfl) rfl (Nat.le_of_ble_eq_true rfl) (fun Q1 hq => m_X2_init7 (d := d + 0) eτ25 hq) (by omega) (by omega) rfl hn hP hf (fun σ24 π hf hn hP => ?_)
  refine xb_putRc (a := l0) (c := 3) (k := 11) (v := σ22.1) dX3_init_98 xcl3 (by decide) xw_550 rfl rfl rfl (fun z => by cases z <;> rfl) (fun z => by cases z <;> rfl) rfl hn hf (fun σ26 hf hn => ?_)
  refine xm_aload_n dX3_init_101 rfl ?_
  refine xb_new (N := 2) (C9 := 2299) (Z9 := 13466) dX3_init_102 xcl2 xw_538 xw_244 xw_12 xdf2 (by omega) (by omega) rfl hn hP hf (fun σ27 π hf hn hP => ?_)
  refine xm_dup dX3_init_105 rfl ?_
  refine xm_bipush dX3_init_106 (v := 7) (by decide) ?_
  obtain ⟨τ29, eτ29, hf⟩ := xbind hf
  refine xb_ctor (J' := J_X2_init) (τ1 := τ29) (C1 := 4) (Z1 := 20) (C9 := 2295) (Z9 := 13446) (As := [.int (7 : Int32)]) dX3_init_108 (xc_X2_init _ _) rfl rfl xw_539 xw_246 rfl (Nat.le_of_ble_eq_true rfl) rfl (Nat.le_of_ble_eq_true rfl) (fun Q1 hq => m_X2_init7 (d := d + 0) eτ29 hq) (by omega) (by omega) rfl hn hP hf (fun σ28 π hf hn hP => ?_)
  refine xb_putRc (a := l0) (c := 3) (k := 12) (v := σ26.1) dX3_init_111 xcl3 (by decide) xw_551 rfl rfl rfl (fun z => by cases z <;> rfl) (fun z => by cases z <;> rfl) rfl hn hf (fun σ30 hf hn => ?_)
  refine xm_aload_n dX3_init_114 rfl ?_
  refine xm_aload_n dX3_init_115 rfl ?_
  refine xb_putRc (a := l0) (c := 3) (k := 0) (v := l1) dX3_init_116 xcl3 (by decide) xw_540 rfl rfl rfl (fun z => by cases z <;> rfl) (fun z => by cases z <;> rfl) rfl hn hf (fun σ31 hf hn => ?_)
  refine xm_aload_n dX3_init_119 rfl ?_
  refine xm_aload_n dX3_init_120 rfl ?_
  refine xb_putRc (a := l0) (c := 3) (k := 1) (v := l2) dX3_init_121 xcl3 (by decide) xw_541 rfl rfl rfl (fun z => by cases z <;> rfl) (fun z => by cases z <;> rfl) rfl hn hf (fun σ32 hf hn => ?_)
  refine xm_iconst dX3_init_124 (v := 0) (by decide) ?_
  refine xm_istore_n dX3_init_125 (by decide) (xm_stL (L' := [(3, .int (0 : Int32)), (0, .ref l0), (1, .ref l1), (2, .ref l2)]) rfl ?_)
  refine xm_wk (C9 := 432 * 5 + 135) (Z9 := 432 * 22 + 3942) (by omega) (by omega) ?_
  refine xm_sub [1, 2, 3, 0] rfl (L_X3_init_l126 432 0 π _ (by decide) (by decide) hf hn hP (fun π σ38 hf hn hP => ?_))
  refine xm_iconst dX3_init_154 (v := 0) (by decide) ?_
  refine xm_istore_n dX3_init_155 (by decide) (xm_stL (L' := [(3, .int (0 : Int32)), (0, .ref l0), (1, .ref l1), (2, .ref l2)]) rfl ?_)
  refine xm_wk (C9 := 9 * 15 + 0) (Z9 := 9 * 438 + 0) (by omega) (by omega) ?_
  refine xm_sub [1, 2, 3, 0] rfl (L_X3_init_l156 9 0 π _ (by decide) (by decide) hf hn hP (fun π σ54 hf hn hP => ?_))
  cases hf
  exact xm_vret dX3_init_213 rfl (hP π xag_rf)
-- Rankwise constructor : cells 4560, slots 52763
set_option maxRecDepth 20000 in
def f_X11_init (σ : xM) (l0 : Nat) : Option xM :=
  (nwO σ 0 [l0]).bind (fun σ1 => (f_X0_init σ1 σ.1).bind (fun τ3 => (cdo σ1 τ3 [σ.1, l0]).bind (fun σ2 => (nwA σ2 13 (60 : Int32) (componentBytes .char) [l0, σ.1, l0]).bind (fun σ4 => (sR σ4 l0 11 0 σ2.1).bind (fun σ5 => (nwO σ5 1 [l0, σ.1, l0]).bind (fun σ6 => (f_X1_init σ6 σ5.1).bind (fun τ8 => (cdo σ6 τ8 [σ5.1, l0, σ.1, l0]).bind (fun σ7 => (sR σ7 l0 11 2 σ5.1).bind (fun σ9 => (nwO σ9 6 [l0, σ.1, l0]).bind (fun σ10 => (gR σ10 l0 11 2).bind (fun x11 => (f_X6_init σ10 σ9.1 x11).bind (fun τ13 => (cdo σ10 τ13 [σ9.1, l0, σ.1, l0]).bind (fun σ12 => (sR σ12 l0 11 3 σ9.1).bind (fun σ14 => (nwO σ14 5 [l0, σ.1, l0]).bind (fun σ15 => (gR σ15 l0 11 3).bind (fun x16 => (f_X5_init σ15 σ14.1 x16).bind (fun τ18 => (cdo σ15 τ18 [σ14.1, l0, σ.1, l0]).bind (fun σ17 => (sR σ17 l0 11 4 σ14.1).bind (fun σ19 => (nwO σ19 5 [l0, σ.1, l0]).bind (fun σ20 => (gR σ20 l0 11 3).bind (fun x21 => (f_X5_init σ20 σ19.1 x21).bind (fun τ23 => (cdo σ20 τ23 [σ19.1, l0, σ.1, l0]).bind (fun σ22 => (sR σ22 l0 11 5 σ19.1).bind (fun σ24 => (nwO σ24 4 [l0, σ.1, l0]).bind (fun σ25 => (gR σ25 l0 11 2).bind (fun x26 => (f_X4_init σ25 σ24.1 x26 σ.1).bind (fun τ28 => (cdo σ25 τ28 [σ24.1, l0, σ.1, l0]).bind (fun σ27 => (sR σ27 l0 11 6 σ24.1).bind (fun σ29 => (nwO σ29 8 [l0, σ.1, l0]).bind (fun σ30 => (gR σ30 l0 11 6).bind (fun x31 => (f_X8_init σ30 σ29.1 x31 σ.1).bind (fun τ33 => (cdo σ30 τ33 [σ29.1, l0, σ.1, l0]).bind (fun σ32 => (sR σ32 l0 11 7 σ29.1).bind (fun σ34 => (nwO σ34 7 [l0, σ.1, l0]).bind (fun σ35 => (gR σ35 l0 11 2).bind (fun x36 => (f_X7_init σ35 σ34.1 x36).bind (fun τ38 => (cdo σ35 τ38 [σ34.1, l0, σ.1, l0]).bind (fun σ37 => (sR σ37 l0 11 8 σ34.1).bind (fun σ39 => (nwO σ39 3 [l0, σ.1, l0]).bind (fun σ40 => (gR σ40 l0 11 2).bind (fun x41 => (f_X3_init σ40 σ39.1 x41 σ.1).bind (fun τ43 => (cdo σ40 τ43 [σ39.1, l0, σ.1, l0]).bind (fun σ42 => (sR σ42 l0 11 9 σ39.1).bind (fun σ44 => (nwO σ44 2 [l0, σ.1, l0]).bind (fun σ45 => (f_X2_init7 σ45 σ44.1).bind (fun τ47 => (cdo σ45 τ47 [σ44.1, l0, σ.1, l0]).bind (fun σ46 => (sR σ46 l0 11 10 σ44.1).bind (fun σ48 => (nwO σ48 2 [l0, σ.1, l0]).bind (fun σ49 => (f_X2_init7 σ49 σ48.1).bind (fun τ51 => (cdo σ49 τ51 [σ48.1, l0, σ.1, l0]).bind (fun σ50 => (sR σ50 l0 11 11 σ48.1).bind (fun σ52 => (nwO σ52 9 [l0, σ.1, l0]).bind (fun σ53 => (f_X9_init σ53 σ52.1).bind (fun τ55 => (cdo σ53 τ55 [σ52.1, l0, σ.1, l0]).bind (fun σ54 => (sR σ54 l0 11 12 σ52.1).bind (fun σ56 => (nwA σ56 14 (80 : Int32) (componentBytes .int) [l0, σ.1, l0]).bind (fun σ57 => (sR σ57 l0 11 13 σ56.1).bind (fun σ58 => (nwA σ58 14 (80 : Int32) (componentBytes .int) [l0, σ.1, l0]).bind (fun σ59 => (sR σ59 l0 11 14 σ58.1).bind (fun σ60 => some σ60))))))))))))))))))))))))))))))))))))))))))))))))))))))))))))
set_option maxHeartbeats 4000000 in
set_option maxRecDepth 20000 in
theorem m_X11_init {G : xG} {π : Nat → Nat} {d : Nat} {Q : xQ} {σ : xM} {l0 : Nat} {τ : xM} (hf : f_X11_init σ l0 = some τ) (hP : xPost σ.1 π τ Q) : xMach G π J_X11_init (d + 6) 4560 52763 0 (lv_args 0 [.ref l0]) [] σ Q := by
  unfold f_X11_init at hf
  have hn : σ.1 ≤ σ.1 := Nat.le_refl _
  generalize hn0 : σ.1 = n0 at hP hn
  have hn : n0 ≤ σ.1 := by omega
  clear hn0
  refine xm_stL (L' := [(0, .ref l0)]) rfl ?_
  refine xm_aload_n dX11_init_0 rfl ?_
  refine xm_objInit dX11_init_1 xw_30 xw_31 xw_32 (Nat.le_of_ble_eq_true rfl) ?_
  refine xb_new (N := 4) (C9 := 4559) (Z9 := 52759) dX11_init_4 xcl0 xw_33 xw_34 xw_2 xdf0 (by omega) (by omega) rfl hn hP hf (fun σ1 π hf hn hP => ?_)
  refine xm_dup dX11_init_7 rfl ?_
  obtain ⟨τ3, eτ3, hf⟩ := xbind hf
  refine xb_ctorN (J' := J_X0_init) (τ1 := τ3) (C1 := 8) (Z1 := 412) (C9 := 4551) (Z9 := 52347) (As := []) (host := "Rankwise") dX11_init_8 (xc_X0_init _ _) rfl rfl (by decide +kernel) xw_36 rfl (Nat.le_of_ble_eq_true rfl) rfl (Nat.le_of_ble_eq_true rfl) (fun Q1 hq => m_X0_init (d := d + 3) eτ3 hq) (by omega) (by omega) rfl hn hP hf (fun σ2 π hf hn hP => ?_)
  refine xm_astore_n dX11_init_11 (by decide) (xm_stL (L' := [(1, .ref σ.1), (0, .ref l0)]) rfl ?_)
  refine xm_aload_n dX11_init_12 rfl ?_
  refine xm_bipush dX11_init_13 (v := 60) (by decide) ?_
  refine xb_newaC (N := 60) (C9 := 4550) (Z9 := 52287) dX11_init_15 xw_241 rfl (by omega) (by omega) rfl hn hP hf (fun σ4 π hf hn hP => ?_)
  refine xb_putRc (a := l0) (c := 11) (k := 0) (v := σ2.1) dX11_init_17 xcl11 (by decide) xw_583 rfl rfl rfl (fun z => by cases z <;> rfl) (fun z => by cases z <;> rfl) rfl hn hf (fun σ5 hf hn => ?_)
  refine xm_aload_n dX11_init_20 rfl ?_
  refine xb_new (N := 15) (C9 := 4549) (Z9 := 52272) dX11_init_21 xcl1 xw_71 xw_72 xw_4 xdf1 (by omega) (by omega) rfl hn hP hf (fun σ6 π hf hn hP => ?_)
  refine xm_dup dX11_init_24 rfl ?_
  obtain ⟨τ8, eτ8, hf⟩ := xbind hf
  refine xb_ctor (J' := J_X1_init) (τ1 := τ8) (C1 := 528) (Z1 := 18972) (C9 := 4021) (Z9 := 33300) (As := []) dX11_init_25 (xc_X1_init _ _) rfl rfl xw_73 xw_74 rfl (Nat.le_of_ble_eq_true rfl) rfl (Nat.le_of_ble_eq_true rfl) (fun Q1 hq => m_X1_init (d := d + 0) eτ8 hq) (by omega) (by omega) rfl hn hP hf (fun σ7 π hf hn hP => ?_)
  refine xb_putRc (a := l0) (c := 11) (k := 2) (v := σ5.1) dX11_init_28 xcl11 (by decide) xw_585 rfl rfl rfl (fun z => by cases z <;> rfl) (fun z => by cases z <;> rfl) rfl hn hf (fun σ9 hf hn => ?_)
  refine xm_aload_n dX11_init_31 rfl ?_
  refine xb_new (N := 18) (C9 := 4020) (Z9 := 33282) dX11_init_32 xcl6 xw_321 xw_322 xw_13 xdf6 (by omega) (by omega) rfl hn hP hf (fun σ10 π hf hn hP => ?_)
  refine xm_dup dX11_init_35 rfl ?_
  refine xm_aload_n dX11_init_36 rfl ?_
  refine xb_getR (a := l0) (c := 11) (k := 2) dX11_init_37 xcl11 (by decide) xw_585 rfl hf (fun x11 ex11 hf => ?_)
  obtain ⟨τ13, eτ13, hf⟩ := xbind hf
  refine xb_ctor (J' := J_X6_init) (τ1 := τ13) (C1 := 18) (Z1 := 3568) (C9 := 4002) (Z9 := 29714) (As := [.ref x11]) dX11_init_40 (xc_X6_init _ _) rfl rfl xw_323 xw_324 rfl (Nat.le_of_ble_eq_true rfl) rfl (Nat.le_of_ble_eq_true rfl) (fun Q1 hq => m_X6_init (d := d + 3) eτ13 hq) (by omega) (by omega) rfl hn hP hf (fun σ12 π hf hn hP => ?_)
  refine xb_putRc (a := l0) (c := 11) (k := 3) (v := σ9.1) dX11_init_43 xcl11 (by decide) xw_586 rfl rfl rfl (fun z => by cases z <;> rfl) (fun z => by cases z <;> rfl) rfl hn hf (fun σ14 hf hn => ?_)
  refine xm_aload_n dX11_init_46 rfl ?_
  refine xb_new (N := 4) (C9 := 4001) (Z9 := 29710) dX11_init_47 xcl5 xw_389 xw_390 xw_14 xdf5 (by omega) (by omega) rfl hn hP hf (fun σ15 π hf hn hP => ?_)
  refine xm_dup dX11_init_50 rfl ?_
  refine xm_aload_n dX11_init_51 rfl ?_
  refine xb_getR (a := l0) (c := 11) (k := 3) dX11_init_52 xcl11 (by decide) xw_586 rfl hf (fun x16 ex16 hf => ?_)
  obtain ⟨τ18, eτ18, hf⟩ := xbind hf
  refine xb_ctor (J' := J_X5_init) (τ1 := τ18) (C1 := 3) (Z1 := 1010) (C9 := 3998) (Z9 := 28700) (As := [.ref x16]) dX11_init_55 (xc_X5_init _ _) rfl rfl xw_391 xw_392 rfl (Nat.le_of_ble_eq_true rfl) rfl (Nat.le_of_ble_eq_true rfl) (fun Q1 hq => m_X5_init (d := d + 3) eτ18 hq) (by omega) (by omega) rfl hn hP hf (fun σ17 π hf hn hP => ?_)
  refine xb_putRc (a := l0) (c := 11) (k := 4) (v := σ14.1) dX11_init_58 xcl11 (by decide) xw_587 rfl rfl rfl (fun z => by cases z <;> rfl) (fun z => by cases z <;> rfl) rfl hn hf (fun σ19 hf hn => ?_)
  refine xm_aload_n dX11_init_61 rfl ?_
  refine xb_new (N := 4) (C9 := 3997) (Z9 := 28696) dX11_init_62 xcl5 xw_389 xw_390 xw_14 xdf5 (by omega) (by omega) rfl hn hP hf (fun σ20 π hf hn hP => ?_)
  refine xm_dup dX11_init_65 rfl ?_
  refine xm_aload_n dX11_init_66 rfl ?_
  refine xb_getR (a := l0) (c := 11) (k := 3) dX11_init_67 xcl11 (by decide) xw_586 rfl hf (fun x21 ex21 hf => ?_)
  obtain ⟨τ23, eτ23, hf⟩ := xbind hf
  refine xb_ctor (J' := J_X5_init) (τ1 := τ23) (C1 := 3) (Z1 := 1010) (C9 := 3994) (Z9 := 27686) (As := [.ref x21]) dX11_init_70 (xc_X5_init _ _) rfl rfl xw_391 xw_392 rfl (Nat.le_of_ble_eq_true rfl) rfl (Nat.le_of_ble_eq_true rfl) (fun Q1 hq => m_X5_init (d := d + 3) eτ23 hq) (by omega) (by omega) rfl hn hP hf (fun σ22 π hf hn hP => ?_)
  refine xb_putRc (a := l0) (c := 11) (k := 5) (v := σ19.1) dX11_init_73 xcl11 (by decide) xw_588 rfl rfl rfl (fun z => by cases z <;> rfl) (fun z => by cases z <;> rfl) rfl hn hf (fun σ24 hf hn => ?_)
  refine xm_aload_n dX11_init_76 rfl ?_
  refine xb_new (N := 19) (C9 := 3993) (Z9 := 27667) dX11_init_77 xcl4 xw_412 xw_413 xw_15 xdf4 (by omega) (by omega) rfl hn hP hf (fun σ25 π hf hn hP => ?_)
  refine xm_dup dX11_init_80 rfl ?_
  refine xm_aload_n dX11_init_81 rfl ?_
  refine xb_getR (a := l0) (c := 11) (k := 2) dX11_init_82 xcl11 (by decide) xw_585 rfl hf (fun x26 ex26 hf => ?_)
  refine xm_aload_n dX11_init_85 rfl ?_
  obtain ⟨τ28, eτ28, hf⟩ := xbind hf
  refine xb_ctor (J' := J_X4_init) (τ1 := τ28) (C1 := 1216) (Z1 := 9568) (C9 := 2777) (Z9 := 18099) (As := [.ref x26, .ref σ.1]) dX11_init_86 (xc_X4_init _ _) rfl rfl xw_414 xw_415 rfl (Nat.le_of_ble_eq_true rfl) rfl (Nat.le_of_ble_eq_true rfl) (fun Q1 hq => m_X4_init (d := d + 2) eτ28 hq) (by omega) (by omega) rfl hn hP hf (fun σ27 π hf hn hP => ?_)
  refine xb_putRc (a := l0) (c := 11) (k := 6) (v := σ24.1) dX11_init_89 xcl11 (by decide) xw_589 rfl rfl rfl (fun z => by cases z <;> rfl) (fun z => by cases z <;> rfl) rfl hn hf (fun σ29 hf hn => ?_)
  refine xm_aload_n dX11_init_92 rfl ?_
  refine xb_new (N := 8) (C9 := 2776) (Z9 := 18091) dX11_init_93 xcl8 xw_479 xw_480 xw_16 xdf8 (by omega) (by omega) rfl hn hP hf (fun σ30 π hf hn hP => ?_)
  refine xm_dup dX11_init_96 rfl ?_
  refine xm_aload_n dX11_init_97 rfl ?_
  refine xb_getR (a := l0) (c := 11) (k := 6) dX11_init_98 xcl11 (by decide) xw_589 rfl hf (fun x31 ex31 hf => ?_)
  refine xm_aload_n dX11_init_101 rfl ?_
  obtain ⟨τ33, eτ33, hf⟩ := xbind hf
  refine xb_ctor (J' := J_X8_init) (τ1 := τ33) (C1 := 421) (Z1 := 2300) (C9 := 2355) (Z9 := 15791) (As := [.ref x31, .ref σ.1]) dX11_init_102 (xc_X8_init _ _) rfl rfl xw_481 xw_482 rfl (Nat.le_of_ble_eq_true rfl) rfl (Nat.le_of_ble_eq_true rfl) (fun Q1 hq => m_X8_init (d := d + 2) eτ33 hq) (by omega) (by omega) rfl hn hP hf (fun σ32 π hf hn hP => ?_)
  refine xb_putRc (a := l0) (c := 11) (k := 7) (v := σ29.1) dX11_init_105 xcl11 (by decide) xw_590 rfl rfl rfl (fun z => by cases z <;> rfl) (fun z => by cases z <;> rfl) rfl hn hf (fun σ34 hf hn => ?_)
  refine xm_aload_n dX11_init_108 rfl ?_
  refine xb_new (N := 3) (C9 := 2354) (Z9 := 15788) dX11_init_109 xcl7 xw_512 xw_513 xw_17 xdf7 (by omega) (by omega) rfl hn hP hf (fun σ35 π hf hn hP => ?_)
  refine xm_dup dX11_init_112 rfl ?_
  refine xm_aload_n dX11_init_113 rfl ?_
  refine xb_getR (a := l0) (c := 11) (k := 2) dX11_init_114 xcl11 (by decide) xw_585 rfl hf (fun x36 ex36 hf => ?_)
  obtain ⟨τ38, eτ38, hf⟩ := xbind hf
  refine xb_ctor (J' := J_X7_init) (τ1 := τ38) (C1 := 8) (Z1 := 568) (C9 := 2346) (Z9 := 15220) (As := [.ref x36]) dX11_init_117 (xc_X7_init _ _) rfl rfl xw_514 xw_515 rfl (Nat.le_of_ble_eq_true rfl) rfl (Nat.le_of_ble_eq_true rfl) (fun Q1 hq => m_X7_init (d := d + 3) eτ38 hq) (by omega) (by omega) rfl hn hP hf (fun σ37 π hf hn hP => ?_)
  refine xb_putRc (a := l0) (c := 11) (k := 8) (v := σ34.1) dX11_init_120 xcl11 (by decide) xw_591 rfl rfl rfl (fun z => by cases z <;> rfl) (fun z => by cases z <;> rfl) rfl hn hf (fun σ39 hf hn => ?_)
  refine xm_aload_n dX11_init_123 rfl ?_
  refine xb_new (N := 13) (C9 := 2345) (Z9 := 15207) dX11_init_124 xcl3 xw_532 xw_533 xw_18 xdf3 (by omega) (by omega) rfl hn hP hf (fun σ40 π hf hn hP => ?_)
  refine xm_dup dX11_init_127 rfl ?_
  refine xm_aload_n dX11_init_128 rfl ?_
  refine xb_getR (a := l0) (c := 11) (k := 2) dX11_init_129 xcl11 (by decide) xw_585 rfl hf (fun x41 ex41 hf => ?_)
  refine xm_aload_n dX11_init_132 rfl ?_
  obtain ⟨τ43, eτ43, hf⟩ := xbind hf
  refine xb_ctor (J' := J_X3_init) (τ1 := τ43) (C1 := 2325) (Z1 := 14435) (C9 := 20) (Z9 := 772) (As := [.ref x41, .ref σ.1]) dX11_init_133 (xc_X3_init _ _) rfl rfl xw_534 xw_535 rfl (Nat.le_of_ble_eq_true rfl) rfl (Nat.le_of_ble_eq_true rfl) (fun Q1 hq => m_X3_init (d := d + 2) eτ43 hq) (by omega) (by omega) rfl hn hP hf (fun σ42 π hf hn hP => ?_)
  refine xb_putRc (a := l0) (c := 11) (k := 9) (v := σ39.1) dX11_init_136 xcl11 (by decide) xw_592 rfl rfl rfl (fun z => by cases z <;> rfl) (fun z => by cases z <;> rfl) rfl hn hf (fun σ44 hf hn => ?_)
  refine xm_aload_n dX11_init_139 rfl ?_
  refine xb_new (N := 2) (C9 := 19) (Z9 := 770) dX11_init_140 xcl2 xw_579 xw_244 xw_12 xdf2 (by omega) (by omega) rfl hn hP hf (fun σ45 π hf hn hP => ?_)
  refine xm_dup dX11_init_143 rfl ?_
  refine xm_bipush dX11_init_144 (v := 7) (by decide) ?_
  obtain ⟨τ47, eτ47, hf⟩ := xbind hf
  refine xb_ctor (J' := J_X2_init) (τ1 := τ47) (C1 := 4) (Z1 := 20) (C9 := 15) (Z9 := 750) (As := [.int (7 : Int32)]) dX11_init_146 (xc_X2_init _ _) rfl rfl xw_580 xw_246 rfl (Nat.le_of_ble_eq_true rfl) rfl (Nat.le_of_ble_eq_true rfl) (fun Q1 hq => m_X2_init7 (d := d + 3) eτ47 hq) (by omega) (by omega) rfl hn hP hf (fun σ46 π hf hn hP => ?_)
  refine xb_putRc (a := l0) (c := 11) (k := 10) (v := σ44.1) dX11_init_149 xcl11 (by decide) xw_593 rfl rfl rfl (fun z => by cases z <;> rfl) (fun z => by cases z <;> rfl) rfl hn hf (fun σ48 hf hn => ?_)
  refine xm_aload_n dX11_init_152 rfl ?_
  refine xb_new (N := 2) (C9 := 14) (Z9 := 748) dX11_init_153 xcl2 xw_579 xw_244 xw_12 xdf2 (by omega) (by omega) rfl hn hP hf (fun σ49 π hf hn hP => ?_)
  refine xm_dup dX11_init_156 rfl ?_
  refine xm_bipush dX11_init_157 (v := 7) (by decide) ?_
  obtain ⟨τ51, eτ51, hf⟩ := xbind hf
  refine xb_ctor (J' := J_X2_init) (τ1 := τ51) (C1 := 4) (Z1 := 20) (C9 := 10) (Z9 := 728) (As := [.int (7 : Int32)]) dX11_init_159 (xc_X2_init _ _) rfl rfl xw_580 xw_246 rfl (Nat.le_of_ble_eq_true rfl) rfl (Nat.le_of_ble_eq_true rfl) (fun Q1 hq => m_X2_init7 (d := d + 3) eτ51 hq) (by omega) (by omega) rfl hn hP hf (fun σ50 π hf hn hP => ?_)
  refine xb_putRc (a := l0) (c := 11) (k := 11) (v := σ48.1) dX11_init_162 xcl11 (by decide) xw_594 rfl rfl rfl (fun z => by cases z <;> rfl) (fun z => by cases z <;> rfl) rfl hn hf (fun σ52 hf hn => ?_)
  refine xm_aload_n dX11_init_165 rfl ?_
  refine xb_new (N := 8) (C9 := 9) (Z9 := 720) dX11_init_166 xcl9 xw_581 xw_186 xw_11 xdf9 (by omega) (by omega) rfl hn hP hf (fun σ53 π hf hn hP => ?_)
  refine xm_dup dX11_init_169 rfl ?_
  obtain ⟨τ55, eτ55, hf⟩ := xbind hf
  refine xb_ctorN (J' := J_X9_init) (τ1 := τ55) (C1 := 7) (Z1 := 560) (C9 := 2) (Z9 := 160) (As := []) (host := "Rankwise") dX11_init_170 (xc_X9_init _ _) rfl rfl (by decide +kernel) xw_188 rfl (Nat.le_of_ble_eq_true rfl) rfl (Nat.le_of_ble_eq_true rfl) (fun Q1 hq => m_X9_init (d := d + 4) eτ55 hq) (by omega) (by omega) rfl hn hP hf (fun σ54 π hf hn hP => ?_)
  refine xb_putRc (a := l0) (c := 11) (k := 12) (v := σ52.1) dX11_init_173 xcl11 (by decide) xw_595 rfl rfl rfl (fun z => by cases z <;> rfl) (fun z => by cases z <;> rfl) rfl hn hf (fun σ56 hf hn => ?_)
  refine xm_aload_n dX11_init_176 rfl ?_
  refine xm_bipush dX11_init_177 (v := 80) (by decide) ?_
  refine xb_newaI (N := 80) (C9 := 1) (Z9 := 80) dX11_init_179 xw_57 rfl (by omega) (by omega) rfl hn hP hf (fun σ57 π hf hn hP => ?_)
  refine xb_putRc (a := l0) (c := 11) (k := 13) (v := σ56.1) dX11_init_181 xcl11 (by decide) xw_596 rfl rfl rfl (fun z => by cases z <;> rfl) (fun z => by cases z <;> rfl) rfl hn hf (fun σ58 hf hn => ?_)
  refine xm_aload_n dX11_init_184 rfl ?_
  refine xm_bipush dX11_init_185 (v := 80) (by decide) ?_
  refine xb_newaI (N := 80) (C9 := 0) (Z9 := 0) dX11_init_187 xw_57 rfl (by omega) (by omega) rfl hn hP hf (fun σ59 π hf hn hP => ?_)
  refine xb_putRc (a := l0) (c := 11) (k := 14) (v := σ58.1) dX11_init_189 xcl11 (by decide) xw_597 rfl rfl rfl (fun z => by cases z <;> rfl) (fun z => by cases z <;> rfl) rfl hn hf (fun σ60 hf hn => ?_)
  cases hf
  exact xm_vret dX11_init_192 rfl (hP π xag_rf)
