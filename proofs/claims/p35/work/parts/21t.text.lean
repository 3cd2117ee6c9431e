theorem yw_5 : (Jvm.Cond.initialized "java/lang/String") ∈ xTB := xTB_in (xt_1 (List.mem_of_getElem? (i := 5) rfl)) rfl
theorem yw_6 : (Jvm.Cond.initialized "java/lang/StringLatin1") ∈ xTB := xTB_in (xt_1 (List.mem_of_getElem? (i := 6) rfl)) rfl
theorem yw_7 : (Jvm.Cond.initialized "java/lang/Math") ∈ xTB := xTB_in (xt_1 (List.mem_of_getElem? (i := 7) rfl)) rfl
theorem yw_9 : (Jvm.Cond.initialized "jdk/internal/util/Preconditions") ∈ xTB := xTB_in (xt_1 (List.mem_of_getElem? (i := 9) rfl)) rfl
theorem yw_91 : (Jvm.Cond.code ({ cls := "java/lang/String", name := "indexOf", desc := "(I)I" } : Jvm.MethodName) prog_22_method_79_code (2 : Nat) (Option.some Jvm.ClassFile.FieldType.int)) ∈ xTB := xTB_in (xt_1 (List.mem_of_getElem? (i := 91) rfl)) rfl
theorem yw_92 : (Jvm.Cond.methodLink "java/lang/String" (633 : Nat) ({ cls := "java/lang/String", name := "indexOf", desc := "(II)I" } : Jvm.MethodName)) ∈ xTB := xTB_in (xt_1 (List.mem_of_getElem? (i := 92) rfl)) rfl
theorem yw_93 : (Jvm.Cond.instanceMethod ({ cls := "java/lang/String", name := "indexOf", desc := "(II)I" } : Jvm.MethodName)) ∈ xTB := xTB_in (xt_1 (List.mem_of_getElem? (i := 93) rfl)) rfl
theorem yw_94 : (Jvm.Cond.selects "java/lang/String" ({ cls := "java/lang/String", name := "indexOf", desc := "(II)I" } : Jvm.MethodName) ({ cls := "java/lang/String", name := "indexOf", desc := "(II)I" } : Jvm.MethodName)) ∈ xTB := xTB_in (xt_1 (List.mem_of_getElem? (i := 94) rfl)) rfl
theorem yw_95 : (Jvm.Cond.code ({ cls := "java/lang/String", name := "indexOf", desc := "(II)I" } : Jvm.MethodName) prog_22_method_80_code (3 : Nat) (Option.some Jvm.ClassFile.FieldType.int)) ∈ xTB := xTB_in (xt_1 (List.mem_of_getElem? (i := 95) rfl)) rfl
theorem yw_96 : (Jvm.Cond.methodLink "java/lang/String" (492 : Nat) ({ cls := "java/lang/String", name := "isLatin1", desc := "()Z" } : Jvm.MethodName)) ∈ xTB := xTB_in (xt_1 (List.mem_of_getElem? (i := 96) rfl)) rfl
theorem yw_97 : (Jvm.Cond.instanceMethod ({ cls := "java/lang/String", name := "isLatin1", desc := "()Z" } : Jvm.MethodName)) ∈ xTB := xTB_in (xt_1 (List.mem_of_getElem? (i := 97) rfl)) rfl
theorem yw_98 : (Jvm.Cond.selects "java/lang/String" ({ cls := "java/lang/String", name := "isLatin1", desc := "()Z" } : Jvm.MethodName) ({ cls := "java/lang/String", name := "isLatin1", desc := "()Z" } : Jvm.MethodName)) ∈ xTB := xTB_in (xt_1 (List.mem_of_getElem? (i := 98) rfl)) rfl
theorem yw_99 : (Jvm.Cond.code ({ cls := "java/lang/String", name := "isLatin1", desc := "()Z" } : Jvm.MethodName) prog_22_method_154_code (1 : Nat) (Option.some Jvm.ClassFile.FieldType.boolean)) ∈ xTB := xTB_in (xt_1 (List.mem_of_getElem? (i := 99) rfl)) rfl
theorem yw_100 : (Jvm.Cond.fieldLink "java/lang/String" (38 : Nat) "java/lang/String" "COMPACT_STRINGS" "Z") ∈ xTB := xTB_in (xt_1 (List.mem_of_getElem? (i := 100) rfl)) rfl
theorem yw_102 : (Jvm.Cond.methodLink "java/lang/String" (505 : Nat) ({ cls := "java/lang/String", name := "length", desc := "()I" } : Jvm.MethodName)) ∈ xTB := xTB_in (xt_1 (List.mem_of_getElem? (i := 102) rfl)) rfl
theorem yw_103 : (Jvm.Cond.instanceMethod ({ cls := "java/lang/String", name := "length", desc := "()I" } : Jvm.MethodName)) ∈ xTB := xTB_in (xt_1 (List.mem_of_getElem? (i := 103) rfl)) rfl
theorem yw_104 : (Jvm.Cond.selects "java/lang/String" ({ cls := "java/lang/String", name := "length", desc := "()I" } : Jvm.MethodName) ({ cls := "java/lang/String", name := "length", desc := "()I" } : Jvm.MethodName)) ∈ xTB := xTB_in (xt_1 (List.mem_of_getElem? (i := 104) rfl)) rfl
theorem yw_105 : (Jvm.Cond.code ({ cls := "java/lang/String", name := "length", desc := "()I" } : Jvm.MethodName) prog_22_method_54_code (1 : Nat) (Option.some Jvm.ClassFile.FieldType.int)) ∈ xTB := xTB_in (xt_1 (List.mem_of_getElem? (i := 105) rfl)) rfl
theorem yw_106 : (Jvm.Cond.methodLink "java/lang/String" (335 : Nat) ({ cls := "java/lang/String", name := "coder", desc := "()B" } : Jvm.MethodName)) ∈ xTB := xTB_in (xt_1 (List.mem_of_getElem? (i := 106) rfl)) rfl
theorem yw_107 : (Jvm.Cond.instanceMethod ({ cls := "java/lang/String", name := "coder", desc := "()B" } : Jvm.MethodName)) ∈ xTB := xTB_in (xt_1 (List.mem_of_getElem? (i := 107) rfl)) rfl
theorem yw_108 : (Jvm.Cond.selects "java/lang/String" ({ cls := "java/lang/String", name := "coder", desc := "()B" } : Jvm.MethodName) ({ cls := "java/lang/String", name := "coder", desc := "()B" } : Jvm.MethodName)) ∈ xTB := xTB_in (xt_1 (List.mem_of_getElem? (i := 108) rfl)) rfl
theorem yw_109 : (Jvm.Cond.code ({ cls := "java/lang/String", name := "coder", desc := "()B" } : Jvm.MethodName) prog_22_method_152_code (1 : Nat) (Option.some Jvm.ClassFile.FieldType.byte)) ∈ xTB := xTB_in (xt_1 (List.mem_of_getElem? (i := 109) rfl)) rfl
theorem yw_110 : (Jvm.Cond.methodLink "java/lang/String" (637 : Nat) ({ cls := "java/lang/StringLatin1", name := "indexOf", desc := "([BIII)I" } : Jvm.MethodName)) ∈ xTB := xTB_in (xt_1 (List.mem_of_getElem? (i := 110) rfl)) rfl
theorem yw_111 : (Jvm.Cond.static ({ cls := "java/lang/StringLatin1", name := "indexOf", desc := "([BIII)I" } : Jvm.MethodName)) ∈ xTB := xTB_in (xt_1 (List.mem_of_getElem? (i := 111) rfl)) rfl
theorem yw_112 : (Jvm.Cond.code ({ cls := "java/lang/StringLatin1", name := "indexOf", desc := "([BIII)I" } : Jvm.MethodName) prog_23_method_22_code (4 : Nat) (Option.some Jvm.ClassFile.FieldType.int)) ∈ xTB := xTB_in (xt_1 (List.mem_of_getElem? (i := 112) rfl)) rfl
theorem yw_113 : (Jvm.Cond.methodLink "java/lang/StringLatin1" (88 : Nat) ({ cls := "java/lang/StringLatin1", name := "canEncode", desc := "(I)Z" } : Jvm.MethodName)) ∈ xTB := xTB_in (xt_1 (List.mem_of_getElem? (i := 113) rfl)) rfl
theorem yw_114 : (Jvm.Cond.static ({ cls := "java/lang/StringLatin1", name := "canEncode", desc := "(I)Z" } : Jvm.MethodName)) ∈ xTB := xTB_in (xt_1 (List.mem_of_getElem? (i := 114) rfl)) rfl
theorem yw_115 : (Jvm.Cond.code ({ cls := "java/lang/StringLatin1", name := "canEncode", desc := "(I)Z" } : Jvm.MethodName) prog_23_method_4_code (1 : Nat) (Option.some Jvm.ClassFile.FieldType.boolean)) ∈ xTB := xTB_in (xt_1 (List.mem_of_getElem? (i := 115) rfl)) rfl
theorem yw_116 : (Jvm.Cond.methodLink "java/lang/StringLatin1" (92 : Nat) ({ cls := "java/lang/Math", name := "max", desc := "(II)I" } : Jvm.MethodName)) ∈ xTB := xTB_in (xt_1 (List.mem_of_getElem? (i := 116) rfl)) rfl
theorem yw_117 : (Jvm.Cond.static ({ cls := "java/lang/Math", name := "max", desc := "(II)I" } : Jvm.MethodName)) ∈ xTB := xTB_in (xt_1 (List.mem_of_getElem? (i := 117) rfl)) rfl
theorem yw_118 : (Jvm.Cond.code ({ cls := "java/lang/Math", name := "max", desc := "(II)I" } : Jvm.MethodName) prog_20_method_65_code (2 : Nat) (Option.some Jvm.ClassFile.FieldType.int)) ∈ xTB := xTB_in (xt_1 (List.mem_of_getElem? (i := 118) rfl)) rfl
theorem yw_119 : (Jvm.Cond.methodLink "java/lang/StringLatin1" (38 : Nat) ({ cls := "java/lang/Math", name := "min", desc := "(II)I" } : Jvm.MethodName)) ∈ xTB := xTB_in (xt_1 (List.mem_of_getElem? (i := 119) rfl)) rfl
theorem yw_120 : (Jvm.Cond.static ({ cls := "java/lang/Math", name := "min", desc := "(II)I" } : Jvm.MethodName)) ∈ xTB := xTB_in (xt_1 (List.mem_of_getElem? (i := 120) rfl)) rfl
theorem yw_121 : (Jvm.Cond.code ({ cls := "java/lang/Math", name := "min", desc := "(II)I" } : Jvm.MethodName) prog_20_method_69_code (2 : Nat) (Option.some Jvm.ClassFile.FieldType.int)) ∈ xTB := xTB_in (xt_1 (List.mem_of_getElem? (i := 121) rfl)) rfl
theorem yw_122 : (Jvm.Cond.methodLink "java/lang/StringLatin1" (95 : Nat) ({ cls := "java/lang/StringLatin1", name := "indexOfChar", desc := "([BIII)I" } : Jvm.MethodName)) ∈ xTB := xTB_in (xt_1 (List.mem_of_getElem? (i := 122) rfl)) rfl
theorem yw_123 : (Jvm.Cond.static ({ cls := "java/lang/StringLatin1", name := "indexOfChar", desc := "([BIII)I" } : Jvm.MethodName)) ∈ xTB := xTB_in (xt_1 (List.mem_of_getElem? (i := 123) rfl)) rfl
theorem yw_124 : (Jvm.Cond.code ({ cls := "java/lang/StringLatin1", name := "indexOfChar", desc := "([BIII)I" } : Jvm.MethodName) prog_23_method_23_code (6 : Nat) (Option.some Jvm.ClassFile.FieldType.int)) ∈ xTB := xTB_in (xt_1 (List.mem_of_getElem? (i := 124) rfl)) rfl
theorem yw_143 : (Jvm.Cond.fieldLink "java/lang/String" (1053 : Nat) "jdk/internal/util/Preconditions" "SIOOBE_FORMATTER" "Ljava/util/function/BiFunction;") ∈ xTB := xTB_in (xt_1 (List.mem_of_getElem? (i := 143) rfl)) rfl
theorem yw_1454 : (Jvm.Cond.code ({ cls := "java/lang/String", name := "charAt", desc := "(I)C" } : Jvm.MethodName) prog_22_method_56_code (2 : Nat) (Option.some Jvm.ClassFile.FieldType.char)) ∈ xTB := xTB_in (xt_7 (List.mem_of_getElem? (i := 14) rfl)) rfl
theorem yw_1455 : (Jvm.Cond.methodLink "java/lang/String" (495 : Nat) ({ cls := "java/lang/StringLatin1", name := "charAt", desc := "([BI)C" } : Jvm.MethodName)) ∈ xTB := xTB_in (xt_7 (List.mem_of_getElem? (i := 15) rfl)) rfl
theorem yw_1456 : (Jvm.Cond.static ({ cls := "java/lang/StringLatin1", name := "charAt", desc := "([BI)C" } : Jvm.MethodName)) ∈ xTB := xTB_in (xt_7 (List.mem_of_getElem? (i := 16) rfl)) rfl
theorem yw_1457 : (Jvm.Cond.code ({ cls := "java/lang/StringLatin1", name := "charAt", desc := "([BI)C" } : Jvm.MethodName) prog_23_method_2_code (2 : Nat) (Option.some Jvm.ClassFile.FieldType.char)) ∈ xTB := xTB_in (xt_7 (List.mem_of_getElem? (i := 17) rfl)) rfl
theorem yw_1458 : (Jvm.Cond.methodLink "java/lang/StringLatin1" (9 : Nat) ({ cls := "java/lang/String", name := "checkIndex", desc := "(II)V" } : Jvm.MethodName)) ∈ xTB := xTB_in (xt_7 (List.mem_of_getElem? (i := 18) rfl)) rfl
theorem yw_1459 : (Jvm.Cond.static ({ cls := "java/lang/String", name := "checkIndex", desc := "(II)V" } : Jvm.MethodName)) ∈ xTB := xTB_in (xt_7 (List.mem_of_getElem? (i := 19) rfl)) rfl
theorem yw_1460 : (Jvm.Cond.code ({ cls := "java/lang/String", name := "checkIndex", desc := "(II)V" } : Jvm.MethodName) prog_22_method_155_code (2 : Nat) (Option.none : Option Jvm.ClassFile.FieldType)) ∈ xTB := xTB_in (xt_7 (List.mem_of_getElem? (i := 20) rfl)) rfl
theorem yw_1461 : (Jvm.Cond.methodLink "java/lang/String" (1059 : Nat) ({ cls := "jdk/internal/util/Preconditions", name := "checkIndex", desc := "(IILjava/util/function/BiFunction;)I" } : Jvm.MethodName)) ∈ xTB := xTB_in (xt_7 (List.mem_of_getElem? (i := 21) rfl)) rfl
theorem yw_1462 : (Jvm.Cond.static ({ cls := "jdk/internal/util/Preconditions", name := "checkIndex", desc := "(IILjava/util/function/BiFunction;)I" } : Jvm.MethodName)) ∈ xTB := xTB_in (xt_7 (List.mem_of_getElem? (i := 22) rfl)) rfl
theorem yw_1463 : (Jvm.Cond.code ({ cls := "jdk/internal/util/Preconditions", name := "checkIndex", desc := "(IILjava/util/function/BiFunction;)I" } : Jvm.MethodName) prog_26_method_11_code (3 : Nat) (Option.some Jvm.ClassFile.FieldType.int)) ∈ xTB := xTB_in (xt_7 (List.mem_of_getElem? (i := 23) rfl)) rfl
theorem yw_1595 : (Jvm.Cond.fieldLink "java/lang/String" (15 : Nat) "java/lang/String" "coder" "B") ∈ xTB := xTB_in (xt_7 (List.mem_of_getElem? (i := 155) rfl)) rfl
theorem yw_1596 : (Jvm.Cond.fieldLink "java/lang/String" (9 : Nat) "java/lang/String" "value" "[B") ∈ xTB := xTB_in (xt_7 (List.mem_of_getElem? (i := 156) rfl)) rfl
abbrev J_cod : xJ := (RJ0, yJ0_coder_7d493, cJ0_coder_7d493, 1, (Option.some Jvm.ClassFile.FieldType.byte))
theorem xc_cod (J : xJ) (d : Nat) : xCal J J_cod d 0 := ⟨yw_109, rfl, yw_5, by decide +kernel, rfl, ⟨by decide, by decide⟩, by decide +kernel, by decide⟩
abbrev J_lat : xJ := (RJ0, yJ0_isLatin1_aae02, cJ0_isLatin1_aae02, 1, (Option.some Jvm.ClassFile.FieldType.boolean))
theorem xc_lat (J : xJ) (d : Nat) : xCal J J_lat d 0 := ⟨yw_99, rfl, yw_5, by decide +kernel, rfl, ⟨by decide, by decide⟩, by decide +kernel, by decide⟩
abbrev J_len : xJ := (RJ0, yJ0_length_8abf5, cJ0_length_8abf5, 1, (Option.some Jvm.ClassFile.FieldType.int))
theorem xc_len (J : xJ) (d : Nat) : xCal J J_len d 0 := ⟨yw_105, rfl, yw_5, by decide +kernel, rfl, ⟨by decide, by decide⟩, by decide +kernel, by decide⟩
abbrev J_ix1 : xJ := (RJ0, yJ0_indexOf_0f7a4, cJ0_indexOf_0f7a4, 2, (Option.some Jvm.ClassFile.FieldType.int))
theorem xc_ix1 (J : xJ) (d : Nat) : xCal J J_ix1 d 1 := ⟨yw_91, rfl, yw_5, by decide +kernel, rfl, ⟨by decide, by decide⟩, by decide +kernel, by decide⟩
abbrev J_ix2 : xJ := (RJ0, yJ0_indexOf_7cf53, cJ0_indexOf_7cf53, 3, (Option.some Jvm.ClassFile.FieldType.int))
theorem xc_ix2 (J : xJ) (d : Nat) : xCal J J_ix2 d 2 := ⟨yw_95, rfl, yw_5, by decide +kernel, rfl, ⟨by decide, by decide⟩, by decide +kernel, by decide⟩
abbrev J_can : xJ := (RJ1, yJ1_canEncode_9a6ad, cJ1_canEncode_9a6ad, 1, (Option.some Jvm.ClassFile.FieldType.boolean))
theorem xc_can (J : xJ) (d : Nat) : xCal J J_can d 1 := ⟨yw_115, rfl, yw_6, by decide +kernel, rfl, ⟨by decide, by decide⟩, by decide +kernel, by decide⟩
abbrev J_ixL : xJ := (RJ1, yJ1_indexOf_4cfef, cJ1_indexOf_4cfef, 4, (Option.some Jvm.ClassFile.FieldType.int))
theorem xc_ixL (J : xJ) (d : Nat) : xCal J J_ixL d 4 := ⟨yw_112, rfl, yw_6, by decide +kernel, rfl, ⟨by decide, by decide⟩, by decide +kernel, by decide⟩
abbrev J_ixC : xJ := (RJ1, yJ1_indexOfChar_4cfef, cJ1_indexOfChar_4cfef, 6, (Option.some Jvm.ClassFile.FieldType.int))
theorem xc_ixC (J : xJ) (d : Nat) : xCal J J_ixC d 4 := ⟨yw_124, rfl, yw_6, by decide +kernel, rfl, ⟨by decide, by decide⟩, by decide +kernel, by decide⟩
abbrev J_chr : xJ := (RJ0, yJ0_charAt_5068e, cJ0_charAt_5068e, 2, (Option.some Jvm.ClassFile.FieldType.char))
theorem xc_chr (J : xJ) (d : Nat) : xCal J J_chr d 1 := ⟨yw_1454, rfl, yw_5, by decide +kernel, rfl, ⟨by decide, by decide⟩, by decide +kernel, by decide⟩
abbrev J_chL : xJ := (RJ1, yJ1_charAt_3b067, cJ1_charAt_3b067, 2, (Option.some Jvm.ClassFile.FieldType.char))
theorem xc_chL (J : xJ) (d : Nat) : xCal J J_chL d 2 := ⟨yw_1457, rfl, yw_6, by decide +kernel, rfl, ⟨by decide, by decide⟩, by decide +kernel, by decide⟩
abbrev J_chk : xJ := (RJ0, yJ0_checkIndex_df160, cJ0_checkIndex_df160, 2, (Option.none : Option Jvm.ClassFile.FieldType))
theorem xc_chk (J : xJ) (d : Nat) : xCal J J_chk d 2 := ⟨yw_1460, rfl, yw_5, by decide +kernel, rfl, ⟨by decide, by decide⟩, by decide +kernel, by decide⟩
abbrev J_chP : xJ := (RJ3, yJ3_checkIndex_8e157, cJ3_checkIndex_8e157, 3, (Option.some Jvm.ClassFile.FieldType.int))
theorem xc_chP (J : xJ) (d : Nat) : xCal J J_chP d 3 := ⟨yw_1463, rfl, yw_9, by decide +kernel, rfl, ⟨by decide, by decide⟩, by decide +kernel, by decide⟩
/-- the JDK's own methods over the text of the signs -/
def xIxF (c : Int32) : List Int32 → Int32 → Int32
  | [], _ => -1
  | b :: l, k => if b = c then k else xIxF c l (k + 1)
def xIx (c : Int32) : Int32 := if 0 ≤ c ∧ c ≤ 255 then xIxF c.toInt8.toInt32 xSG 0 else -1
section XU
variable {G : xG} {π : Nat → Nat} {d C Z : Nat} {σ : xM} {Q : xQ}
theorem t_cod (hq : Q (.inl (some (.int 0))) σ π) : xMach G π J_cod d C Z 0 (lv_args 0 [.ref xkS]) [] σ Q := by
  refine xm_stL (L' := [(0, .ref xkS)]) rfl ?_
  refine xm_sCmp dJ0_coder_7d493_0 yw_100 ?_
  refine xm_if_eq 13 dJ0_coder_7d493_3 (by decide) (fun c => absurd c (by decide)) (fun _ => ?_)
  refine xm_aload_n dJ0_coder_7d493_6 rfl ?_
  refine xm_sCod dJ0_coder_7d493_7 yw_1595 ?_
  refine xm_goto 14 dJ0_coder_7d493_10 (by decide) ?_
  exact xm_zret dJ0_coder_7d493_14 rfl rfl hq
theorem t_lat (hq : Q (.inl (some (.int 1))) σ π) : xMach G π J_lat d C Z 0 (lv_args 0 [.ref xkS]) [] σ Q := by
  refine xm_stL (L' := [(0, .ref xkS)]) rfl ?_
  refine xm_sCmp dJ0_isLatin1_aae02_0 yw_100 ?_
  refine xm_if_eq 17 dJ0_isLatin1_aae02_3 (by decide) (fun c => absurd c (by decide)) (fun _ => ?_)
  refine xm_aload_n dJ0_isLatin1_aae02_6 rfl ?_
  refine xm_sCod dJ0_isLatin1_aae02_7 yw_1595 ?_
  refine xm_if_ne 17 dJ0_isLatin1_aae02_10 (by decide) (fun c => absurd rfl c) (fun _ => ?_)
  refine xm_iconst dJ0_isLatin1_aae02_13 (v := 1) (by decide) ?_
  refine xm_goto 18 dJ0_isLatin1_aae02_14 (by decide) ?_
  exact xm_zret dJ0_isLatin1_aae02_18 rfl rfl hq
theorem t_len (hq : Q (.inl (some (.int 16))) σ π) : xMach G π J_len (d + 1) C Z 0 (lv_args 0 [.ref xkS]) [] σ Q := by
  refine xm_stL (L' := [(0, .ref xkS)]) rfl ?_
  refine xm_aload_n dJ0_length_8abf5_0 rfl ?_
  refine xm_sVal dJ0_length_8abf5_1 yw_1596 ?_
  refine xm_sLen dJ0_length_8abf5_4 ?_
  refine xm_aload_n dJ0_length_8abf5_5 rfl ?_
  refine xb_callVS (As := []) (v0 := some (.int 0)) dJ0_length_8abf5_6 (xc_cod _ _) rfl yw_106 yw_107 yw_108 rfl (Nat.le_of_ble_eq_true rfl) rfl (Nat.le_of_ble_eq_true rfl) (fun Q1 hq => t_cod hq) ?_
  refine xm_ishr dJ0_length_8abf5_9 ?_
  exact xm_iret dJ0_length_8abf5_10 rfl hq
theorem t_can (c : Int32) (hq : Q (.inl (some (.int (if 0 ≤ c ∧ c ≤ 255 then 1 else 0)))) σ π) : xMach G π J_can d C Z 0 (lv_args 0 [.int c]) [] σ Q := by
  refine xm_stL (L' := [(0, .int c)]) rfl ?_
  have e15 : (¬ (0 ≤ c ∧ c ≤ 255)) → xMach G π J_can d C Z 15 [(0, .int c)] [] σ Q := by
    intro hn
    rw [if_neg hn] at hq
    refine xm_iconst dJ1_canEncode_9a6ad_15 (v := 0) (by decide) ?_
    exact xm_zret dJ1_canEncode_9a6ad_16 rfl rfl hq
  refine xm_iload_n dJ1_canEncode_9a6ad_0 rfl ?_
  refine xm_if_lt 15 dJ1_canEncode_9a6ad_1 (by decide) (fun z => e15 (fun q => absurd z (Int32.not_lt.mpr q.1))) (fun z => ?_)
  refine xm_iload_n dJ1_canEncode_9a6ad_4 rfl ?_
  refine xm_sipush dJ1_canEncode_9a6ad_5 (v := 255) (by decide) ?_
  refine xm_icmp_gt 15 dJ1_canEncode_9a6ad_8 (by decide) (fun y => e15 (fun q => absurd y (Int32.not_lt.mpr q.2))) (fun y => ?_)
  rw [if_pos ⟨Int32.not_lt.mp z, Int32.not_lt.mp y⟩] at hq
  refine xm_iconst dJ1_canEncode_9a6ad_11 (v := 1) (by decide) ?_
  refine xm_goto 16 dJ1_canEncode_9a6ad_12 (by decide) ?_
  exact xm_zret dJ1_canEncode_9a6ad_16 rfl rfl hq
theorem t_pl : ∀ k : Fin 16, vp_in (Int32.ofNat k) 16 ∧ ¬ (16 : Int32) ≤ Int32.ofNat k ∧ (Int32.ofNat k).toNatClampNeg = k ∧ Int32.ofNat k + 1 = Int32.ofNat (k + 1) := by unfold vp_in; decide
theorem t_ixl (c c8 : Int32) : ∀ (l : List Int32) (k : Nat), xSG.drop k = l → k ≤ 16 → Q (.inl (some (.int (xIxF c8 l (Int32.ofNat k))))) σ π → xMach G π J_ixC d C Z 7 [(5, .int (Int32.ofNat k)), (4, .int c8), (0, .ref xkV), (1, .int c), (2, .int 0), (3, .int 16)] [] σ Q := by
  intro l
  induction l with
  | nil =>
    intro k hk h16 hq
    have e : k = 16 := by
      have : xSG.length ≤ k := List.drop_eq_nil_iff.mp hk
      have : xSG.length = 16 := rfl
      omega
    subst e
    refine xm_iload dJ1_indexOfChar_4cfef_7 rfl ?_
    refine xm_iload_n dJ1_indexOfChar_4cfef_9 rfl ?_
    refine xm_icmp_ge 31 dJ1_indexOfChar_4cfef_10 (by decide) (fun _ => ?_) (fun q => absurd (by decide) q)
    refine xm_iconst dJ1_indexOfChar_4cfef_31 (v := -1) (by decide) ?_
    exact xm_iret dJ1_indexOfChar_4cfef_32 rfl hq
  | cons b l ih =>
    intro k hk h16 hq
    have hlt : k < 16 := by
      have h1 := congrArg List.length hk
      rw [List.length_drop] at h1
      have : xSG.length = 16 := rfl
      simp at h1
      omega
    obtain ⟨p1, p2, p3, p4⟩ := t_pl ⟨k, hlt⟩
    have hb : xSG.getD (Int32.ofNat k).toNatClampNeg 0 = b := by
      rw [p3, List.getD_eq_getElem?_getD]
      have : (xSG.drop k)[0]? = some b := by rw [hk]; rfl
      rw [List.getElem?_drop] at this
      simp at this
      simp [this]
    have hd : xSG.drop (k + 1) = l := by
      have := congrArg (List.drop 1) hk
      rw [List.drop_drop] at this
      exact this
    refine xm_iload dJ1_indexOfChar_4cfef_7 rfl ?_
    refine xm_iload_n dJ1_indexOfChar_4cfef_9 rfl ?_
    refine xm_icmp_ge 31 dJ1_indexOfChar_4cfef_10 (by decide) (fun q => absurd q p2) (fun _ => ?_)
    refine xm_aload_n dJ1_indexOfChar_4cfef_13 rfl ?_
    refine xm_iload dJ1_indexOfChar_4cfef_14 rfl ?_
    refine xm_sByte dJ1_indexOfChar_4cfef_16 p1 hb ?_
    refine xm_iload dJ1_indexOfChar_4cfef_17 rfl ?_
    unfold xIxF at hq
    refine xm_icmp_ne 25 dJ1_indexOfChar_4cfef_19 (by decide) (fun q => ?_) (fun q => ?_)
    · rw [if_neg q, p4] at hq
      refine xm_iinc dJ1_indexOfChar_4cfef_25 rfl p4 (by decide) ?_
      refine xm_stL (L' := [(5, .int (Int32.ofNat (k + 1))), (4, .int c8), (0, .ref xkV), (1, .int c), (2, .int 0), (3, .int 16)]) rfl ?_
      refine xm_goto 7 dJ1_indexOfChar_4cfef_28 (by decide) ?_
      exact ih (k + 1) hd (by omega) hq
    · rw [if_pos q] at hq
      refine xm_iload dJ1_indexOfChar_4cfef_22 rfl ?_
      exact xm_iret dJ1_indexOfChar_4cfef_24 rfl hq
theorem t_ixC (c : Int32) (hq : Q (.inl (some (.int (xIxF c.toInt8.toInt32 xSG 0)))) σ π) : xMach G π J_ixC d C Z 0 (lv_args 0 [.ref xkV, .int c, .int 0, .int 16]) [] σ Q := by
  refine xm_stL (L' := [(0, .ref xkV), (1, .int c), (2, .int 0), (3, .int 16)]) rfl ?_
  refine xm_iload_n dJ1_indexOfChar_4cfef_0 rfl ?_
  refine xm_i2b dJ1_indexOfChar_4cfef_1 rfl ?_
  refine xm_istore dJ1_indexOfChar_4cfef_2 (by decide) (xm_stL (L' := [(4, .int c.toInt8.toInt32), (0, .ref xkV), (1, .int c), (2, .int 0), (3, .int 16)]) rfl ?_)
  refine xm_iload_n dJ1_indexOfChar_4cfef_4 rfl ?_
  refine xm_istore dJ1_indexOfChar_4cfef_5 (by decide) (xm_stL (L' := [(5, .int (Int32.ofNat 0)), (4, .int c.toInt8.toInt32), (0, .ref xkV), (1, .int c), (2, .int 0), (3, .int 16)]) rfl ?_)
  exact t_ixl c _ xSG 0 rfl (by decide) hq
theorem t_ixL (c : Int32) (hq : Q (.inl (some (.int (xIx c)))) σ π) : xMach G π J_ixL (d + 1) C Z 0 (lv_args 0 [.ref xkV, .int c, .int 0, .int 16]) [] σ Q := by
  refine xm_stL (L' := [(0, .ref xkV), (1, .int c), (2, .int 0), (3, .int 16)]) rfl ?_
  unfold xIx at hq
  refine xm_iload_n dJ1_indexOf_4cfef_0 rfl ?_
  refine xb_callS (As := [.int c]) (v0 := some (.int (if 0 ≤ c ∧ c ≤ 255 then 1 else 0))) dJ1_indexOf_4cfef_1 (xc_can _ _) yw_113 yw_114 rfl (Nat.le_of_ble_eq_true rfl) rfl (Nat.le_of_ble_eq_true rfl) (fun Q1 hq => t_can c hq) ?_
  by_cases hc : 0 ≤ c ∧ c ≤ 255
  · rw [if_pos hc] at hq ⊢
    refine xm_if_ne 9 dJ1_indexOf_4cfef_4 (by decide) (fun _ => ?_) (fun q => absurd q (by decide))
    refine xm_iload_n dJ1_indexOf_4cfef_9 rfl ?_
    refine xm_iconst dJ1_indexOf_4cfef_10 (v := 0) (by decide) ?_
    refine xm_max dJ1_indexOf_4cfef_11 yw_116 yw_117 yw_7 yw_118 (Nat.le_of_ble_eq_true rfl) ?_
    refine xm_istore_n dJ1_indexOf_4cfef_14 (by decide) (xm_stL (L' := [(2, .int 0), (0, .ref xkV), (1, .int c), (3, .int 16)]) rfl ?_)
    refine xm_iload_n dJ1_indexOf_4cfef_15 rfl ?_
    refine xm_aload_n dJ1_indexOf_4cfef_16 rfl ?_
    refine xm_sLen dJ1_indexOf_4cfef_17 ?_
    refine xm_min dJ1_indexOf_4cfef_18 yw_119 yw_120 yw_7 yw_121 (Nat.le_of_ble_eq_true rfl) ?_
    refine xm_istore_n dJ1_indexOf_4cfef_21 (by decide) (xm_stL (L' := [(3, .int 16), (2, .int 0), (0, .ref xkV), (1, .int c)]) rfl ?_)
    refine xm_iload_n dJ1_indexOf_4cfef_22 rfl ?_
    refine xm_iload_n dJ1_indexOf_4cfef_23 rfl ?_
    refine xm_icmp_lt 29 dJ1_indexOf_4cfef_24 (by decide) (fun _ => ?_) (fun q => absurd (by decide) q)
    refine xm_aload_n dJ1_indexOf_4cfef_29 rfl ?_
    refine xm_iload_n dJ1_indexOf_4cfef_30 rfl ?_
    refine xm_iload_n dJ1_indexOf_4cfef_31 rfl ?_
    refine xm_iload_n dJ1_indexOf_4cfef_32 rfl ?_
    refine xb_callS (As := [.ref xkV, .int c, .int 0, .int 16]) (v0 := some (.int (xIxF c.toInt8.toInt32 xSG 0))) dJ1_indexOf_4cfef_33 (xc_ixC _ _) yw_122 yw_123 rfl (Nat.le_of_ble_eq_true rfl) rfl (Nat.le_of_ble_eq_true rfl) (fun Q1 hq => t_ixC c hq) ?_
    exact xm_iret dJ1_indexOf_4cfef_36 rfl hq
  · rw [if_neg hc] at hq ⊢
    refine xm_if_ne 9 dJ1_indexOf_4cfef_4 (by decide) (fun q => absurd rfl q) (fun _ => ?_)
    refine xm_iconst dJ1_indexOf_4cfef_7 (v := -1) (by decide) ?_
    exact xm_iret dJ1_indexOf_4cfef_8 rfl hq
theorem t_ix2 (c : Int32) (hq : Q (.inl (some (.int (xIx c)))) σ π) : xMach G π J_ix2 (d + 2) C Z 0 (lv_args 0 [.ref xkS, .int c, .int 0]) [] σ Q := by
  refine xm_stL (L' := [(0, .ref xkS), (1, .int c), (2, .int 0)]) rfl ?_
  refine xm_aload_n dJ0_indexOf_7cf53_0 rfl ?_
  refine xb_callVS (As := []) (v0 := some (.int 1)) dJ0_indexOf_7cf53_1 (xc_lat _ _) rfl yw_96 yw_97 yw_98 rfl (Nat.le_of_ble_eq_true rfl) rfl (Nat.le_of_ble_eq_true rfl) (fun Q1 hq => t_lat hq) ?_
  refine xm_if_eq 23 dJ0_indexOf_7cf53_4 (by decide) (fun c => absurd c (by decide)) (fun _ => ?_)
  refine xm_aload_n dJ0_indexOf_7cf53_7 rfl ?_
  refine xm_sVal dJ0_indexOf_7cf53_8 yw_1596 ?_
  refine xm_iload_n dJ0_indexOf_7cf53_11 rfl ?_
  refine xm_iload_n dJ0_indexOf_7cf53_12 rfl ?_
  refine xm_aload_n dJ0_indexOf_7cf53_13 rfl ?_
  refine xb_callVS (As := []) (v0 := some (.int 16)) dJ0_indexOf_7cf53_14 (xc_len _ _) rfl yw_102 yw_103 yw_104 rfl (Nat.le_of_ble_eq_true rfl) rfl (Nat.le_of_ble_eq_true rfl) (fun Q1 hq => t_len hq) ?_
  refine xb_callS (As := [.ref xkV, .int c, .int 0, .int 16]) (v0 := some (.int (xIx c))) dJ0_indexOf_7cf53_17 (xc_ixL _ _) yw_110 yw_111 rfl (Nat.le_of_ble_eq_true rfl) rfl (Nat.le_of_ble_eq_true rfl) (fun Q1 hq => t_ixL c hq) ?_
  refine xm_goto 36 dJ0_indexOf_7cf53_20 (by decide) ?_
  exact xm_iret dJ0_indexOf_7cf53_36 rfl hq
theorem t_ix1 (c : Int32) (hq : Q (.inl (some (.int (xIx c)))) σ π) : xMach G π J_ix1 (d + 3) C Z 0 (lv_args 0 [.ref xkS, .int c]) [] σ Q := by
  refine xm_stL (L' := [(0, .ref xkS), (1, .int c)]) rfl ?_
  refine xm_aload_n dJ0_indexOf_0f7a4_0 rfl ?_
  refine xm_iload_n dJ0_indexOf_0f7a4_1 rfl ?_
  refine xm_iconst dJ0_indexOf_0f7a4_2 (v := 0) (by decide) ?_
  refine xb_callVS (As := [.int c, .int 0]) (v0 := some (.int (xIx c))) dJ0_indexOf_0f7a4_3 (xc_ix2 _ _) rfl yw_92 yw_93 yw_94 rfl (Nat.le_of_ble_eq_true rfl) rfl (Nat.le_of_ble_eq_true rfl) (fun Q1 hq => t_ix2 c hq) ?_
  exact xm_iret dJ0_indexOf_0f7a4_6 rfl hq
theorem t_chP (i : Int32) (f : Value) (hf : f = .null ∨ f = .ref xkF) (h0 : ¬ i < 0) (h1 : i < 16) (hq : Q (.inl (some (.int i))) σ π) : xMach G π J_chP d C Z 0 (lv_args 0 [.int i, .int 16, f]) [] σ Q := by
  refine xm_stL (L' := [(0, .int i), (1, .int 16), (2, f)]) (by rcases hf with rfl | rfl <;> rfl) ?_
  refine xm_iload_n dJ3_checkIndex_8e157_0 rfl ?_
  refine xm_if_lt 9 dJ3_checkIndex_8e157_1 (by decide) (fun z => absurd z h0) (fun _ => ?_)
  refine xm_iload_n dJ3_checkIndex_8e157_4 rfl ?_
  refine xm_iload_n dJ3_checkIndex_8e157_5 rfl ?_
  refine xm_icmp_lt 16 dJ3_checkIndex_8e157_6 (by decide) (fun _ => ?_) (fun z => absurd h1 z)
  refine xm_iload_n dJ3_checkIndex_8e157_16 rfl ?_
  exact xm_iret dJ3_checkIndex_8e157_17 rfl hq
theorem t_chk (i : Int32) (h0 : ¬ i < 0) (h1 : i < 16) (hq : Q (.inl none) σ π) : xMach G π J_chk (d + 1) C Z 0 (lv_args 0 [.int i, .int 16]) [] σ Q := by
  refine xm_stL (L' := [(0, .int i), (1, .int 16)]) rfl ?_
  refine xm_iload_n dJ0_checkIndex_df160_0 rfl ?_
  refine xm_iload_n dJ0_checkIndex_df160_1 rfl ?_
  refine xm_sFmt dJ0_checkIndex_df160_2 yw_143 ?_ ?_
  · refine xb_callS (As := [.int i, .int 16, .null]) (v0 := some (.int i)) dJ0_checkIndex_df160_5 (xc_chP _ _) yw_1461 yw_1462 rfl (Nat.le_of_ble_eq_true rfl) rfl (Nat.le_of_ble_eq_true rfl) (fun Q1 hq => t_chP i _ (by simp) h0 h1 hq) ?_
    refine xm_pop dJ0_checkIndex_df160_8 rfl ?_
    exact xm_vret dJ0_checkIndex_df160_9 rfl hq
  · refine xb_callS (As := [.int i, .int 16, .ref xkF]) (v0 := some (.int i)) dJ0_checkIndex_df160_5 (xc_chP _ _) yw_1461 yw_1462 rfl (Nat.le_of_ble_eq_true rfl) rfl (Nat.le_of_ble_eq_true rfl) (fun Q1 hq => t_chP i _ (by simp) h0 h1 hq) ?_
    refine xm_pop dJ0_checkIndex_df160_8 rfl ?_
    exact xm_vret dJ0_checkIndex_df160_9 rfl hq
theorem t_chn : ∀ k : Fin 16, (((xSG.getD k 0) &&& 255).toUInt32 % 65536).toInt32 = xSG.getD k 0 ∧ narrow .char (.int (xSG.getD k 0)) = .int (xSG.getD k 0) := by decide
theorem t_chi {i : Int32} (h0 : ¬ i < 0) (h1 : i < 16) : vp_in i 16 ∧ i.toNatClampNeg < 16 := by
  have a0 : (0 : Int) ≤ i.toInt := by simpa using Int32.le_iff_toInt_le.mp (Int32.not_lt.mp h0)
  have a1 : i.toInt < 16 := by simpa using Int32.lt_iff_toInt_lt.mp h1
  have a2 : i.toNatClampNeg < 16 := by
    show i.toInt.toNat < 16
    omega
  exact ⟨fun q => q.elim h0 (fun z => by omega), a2⟩
theorem t_chL (i : Int32) (h0 : ¬ i < 0) (h1 : i < 16) (hq : Q (.inl (some (.int (xSG.getD i.toNatClampNeg 0)))) σ π) : xMach G π J_chL (d + 2) C Z 0 (lv_args 0 [.ref xkV, .int i]) [] σ Q := by
  refine xm_stL (L' := [(0, .ref xkV), (1, .int i)]) rfl ?_
  refine xm_iload_n dJ1_charAt_3b067_0 rfl ?_
  refine xm_aload_n dJ1_charAt_3b067_1 rfl ?_
  refine xm_sLen dJ1_charAt_3b067_2 ?_
  refine xb_callS (As := [.int i, .int 16]) (v0 := none) dJ1_charAt_3b067_3 (xc_chk _ _) yw_1458 yw_1459 rfl (Nat.le_of_ble_eq_true rfl) rfl (Nat.le_of_ble_eq_true rfl) (fun Q1 hq => t_chk i h0 h1 hq) ?_
  refine xm_aload_n dJ1_charAt_3b067_6 rfl ?_
  refine xm_iload_n dJ1_charAt_3b067_7 rfl ?_
  obtain ⟨c1, c2⟩ := t_chi h0 h1
  obtain ⟨n1, n2⟩ := t_chn ⟨_, c2⟩
  refine xm_sByte dJ1_charAt_3b067_8 c1 rfl ?_
  refine xm_sipush dJ1_charAt_3b067_9 (v := 255) (by decide) ?_
  refine xm_iand dJ1_charAt_3b067_12 ?_
  refine xm_i2c dJ1_charAt_3b067_13 n1 ?_
  exact xm_zret dJ1_charAt_3b067_14 rfl n2 hq
theorem t_chr (i : Int32) (h0 : ¬ i < 0) (h1 : i < 16) (hq : Q (.inl (some (.int (xSG.getD i.toNatClampNeg 0)))) σ π) : xMach G π J_chr (d + 3) C Z 0 (lv_args 0 [.ref xkS, .int i]) [] σ Q := by
  refine xm_stL (L' := [(0, .ref xkS), (1, .int i)]) rfl ?_
  refine xm_aload_n dJ0_charAt_5068e_0 rfl ?_
  refine xb_callVS (As := []) (v0 := some (.int 1)) dJ0_charAt_5068e_1 (xc_lat _ _) rfl yw_96 yw_97 yw_98 rfl (Nat.le_of_ble_eq_true rfl) rfl (Nat.le_of_ble_eq_true rfl) (fun Q1 hq => t_lat hq) ?_
  refine xm_if_eq 16 dJ0_charAt_5068e_4 (by decide) (fun c => absurd c (by decide)) (fun _ => ?_)
  refine xm_aload_n dJ0_charAt_5068e_7 rfl ?_
  refine xm_sVal dJ0_charAt_5068e_8 yw_1596 ?_
  refine xm_iload_n dJ0_charAt_5068e_11 rfl ?_
  refine xb_callS (As := [.ref xkV, .int i]) (v0 := some (.int (xSG.getD i.toNatClampNeg 0))) dJ0_charAt_5068e_12 (xc_chL _ _) yw_1455 yw_1456 rfl (Nat.le_of_ble_eq_true rfl) rfl (Nat.le_of_ble_eq_true rfl) (fun Q1 hq => t_chL i h0 h1 hq) ?_
  obtain ⟨c1, c2⟩ := t_chi h0 h1
  exact xm_zret dJ0_charAt_5068e_15 rfl (t_chn ⟨_, c2⟩).2 hq
def xCh (i : Int32) : Option Int32 := if i < 0 then none else if i < 16 then some (xSG.getD i.toNatClampNeg 0) else none
theorem t_chr2 {i x : Int32} (h : xCh i = some x) (hq : Q (.inl (some (.int x))) σ π) : xMach G π J_chr (d + 3) C Z 0 (lv_args 0 [.ref xkS, .int i]) [] σ Q := by
  unfold xCh at h
  split at h
  · cases h
  · next h0 =>
    split at h
    · next h1 => cases h; exact t_chr i h0 h1 hq
    · cases h
end XU
