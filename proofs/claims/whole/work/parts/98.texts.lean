/-! ===== texts: the JDK's own members over the constant texts ===== -/
theorem wt_6 : (Jvm.Cond.initialized "java/lang/String") ∈ ax_T := ax_T_mem (List.mem_append_right _ (List.mem_of_getElem? (i := 6) (by decide +kernel))) (by decide +kernel)
theorem wt_7 : (Jvm.Cond.initialized "java/lang/StringLatin1") ∈ ax_T := ax_T_mem (List.mem_append_right _ (List.mem_of_getElem? (i := 7) (by decide +kernel))) (by decide +kernel)
theorem wt_10 : (Jvm.Cond.initialized "jdk/internal/util/Preconditions") ∈ ax_T := ax_T_mem (List.mem_append_right _ (List.mem_of_getElem? (i := 10) (by decide +kernel))) (by decide +kernel)
theorem wt_235 : (Jvm.Cond.instanceMethod ({ cls := "java/lang/String", name := "indexOf", desc := "(I)I" } : Jvm.MethodName)) ∈ ax_T := ax_T_mem (List.mem_append_right _ (List.mem_of_getElem? (i := 235) (by decide +kernel))) (by decide +kernel)
theorem wt_236 : (Jvm.Cond.selects "java/lang/String" ({ cls := "java/lang/String", name := "indexOf", desc := "(I)I" } : Jvm.MethodName) ({ cls := "java/lang/String", name := "indexOf", desc := "(I)I" } : Jvm.MethodName)) ∈ ax_T := ax_T_mem (List.mem_append_right _ (List.mem_of_getElem? (i := 236) (by decide +kernel))) (by decide +kernel)
theorem wt_237 : (Jvm.Cond.code ({ cls := "java/lang/String", name := "indexOf", desc := "(I)I" } : Jvm.MethodName) prog_14_method_79_code (2 : Nat) (Option.some Jvm.ClassFile.FieldType.int)) ∈ ax_T := ax_T_mem (List.mem_append_right _ (List.mem_of_getElem? (i := 237) (by decide +kernel))) (by decide +kernel)
theorem wt_238 : (Jvm.Cond.methodLink "java/lang/String" (633 : Nat) ({ cls := "java/lang/String", name := "indexOf", desc := "(II)I" } : Jvm.MethodName)) ∈ ax_T := ax_T_mem (List.mem_append_right _ (List.mem_of_getElem? (i := 238) (by decide +kernel))) (by decide +kernel)
theorem wt_239 : (Jvm.Cond.instanceMethod ({ cls := "java/lang/String", name := "indexOf", desc := "(II)I" } : Jvm.MethodName)) ∈ ax_T := ax_T_mem (List.mem_append_right _ (List.mem_of_getElem? (i := 239) (by decide +kernel))) (by decide +kernel)
theorem wt_240 : (Jvm.Cond.selects "java/lang/String" ({ cls := "java/lang/String", name := "indexOf", desc := "(II)I" } : Jvm.MethodName) ({ cls := "java/lang/String", name := "indexOf", desc := "(II)I" } : Jvm.MethodName)) ∈ ax_T := ax_T_mem (List.mem_append_right _ (List.mem_of_getElem? (i := 240) (by decide +kernel))) (by decide +kernel)
theorem wt_241 : (Jvm.Cond.code ({ cls := "java/lang/String", name := "indexOf", desc := "(II)I" } : Jvm.MethodName) prog_14_method_80_code (3 : Nat) (Option.some Jvm.ClassFile.FieldType.int)) ∈ ax_T := ax_T_mem (List.mem_append_right _ (List.mem_of_getElem? (i := 241) (by decide +kernel))) (by decide +kernel)
theorem wt_242 : (Jvm.Cond.methodLink "java/lang/String" (492 : Nat) ({ cls := "java/lang/String", name := "isLatin1", desc := "()Z" } : Jvm.MethodName)) ∈ ax_T := ax_T_mem (List.mem_append_right _ (List.mem_of_getElem? (i := 242) (by decide +kernel))) (by decide +kernel)
theorem wt_243 : (Jvm.Cond.instanceMethod ({ cls := "java/lang/String", name := "isLatin1", desc := "()Z" } : Jvm.MethodName)) ∈ ax_T := ax_T_mem (List.mem_append_right _ (List.mem_of_getElem? (i := 243) (by decide +kernel))) (by decide +kernel)
theorem wt_244 : (Jvm.Cond.selects "java/lang/String" ({ cls := "java/lang/String", name := "isLatin1", desc := "()Z" } : Jvm.MethodName) ({ cls := "java/lang/String", name := "isLatin1", desc := "()Z" } : Jvm.MethodName)) ∈ ax_T := ax_T_mem (List.mem_append_right _ (List.mem_of_getElem? (i := 244) (by decide +kernel))) (by decide +kernel)
theorem wt_245 : (Jvm.Cond.code ({ cls := "java/lang/String", name := "isLatin1", desc := "()Z" } : Jvm.MethodName) prog_14_method_154_code (1 : Nat) (Option.some Jvm.ClassFile.FieldType.boolean)) ∈ ax_T := ax_T_mem (List.mem_append_right _ (List.mem_of_getElem? (i := 245) (by decide +kernel))) (by decide +kernel)
theorem wt_246 : (Jvm.Cond.fieldLink "java/lang/String" (38 : Nat) "java/lang/String" "COMPACT_STRINGS" "Z") ∈ ax_T := ax_T_mem (List.mem_append_right _ (List.mem_of_getElem? (i := 246) (by decide +kernel))) (by decide +kernel)
theorem wt_248 : (Jvm.Cond.methodLink "java/lang/String" (505 : Nat) ({ cls := "java/lang/String", name := "length", desc := "()I" } : Jvm.MethodName)) ∈ ax_T := ax_T_mem (List.mem_append_right _ (List.mem_of_getElem? (i := 248) (by decide +kernel))) (by decide +kernel)
theorem wt_249 : (Jvm.Cond.instanceMethod ({ cls := "java/lang/String", name := "length", desc := "()I" } : Jvm.MethodName)) ∈ ax_T := ax_T_mem (List.mem_append_right _ (List.mem_of_getElem? (i := 249) (by decide +kernel))) (by decide +kernel)
theorem wt_250 : (Jvm.Cond.selects "java/lang/String" ({ cls := "java/lang/String", name := "length", desc := "()I" } : Jvm.MethodName) ({ cls := "java/lang/String", name := "length", desc := "()I" } : Jvm.MethodName)) ∈ ax_T := ax_T_mem (List.mem_append_right _ (List.mem_of_getElem? (i := 250) (by decide +kernel))) (by decide +kernel)
theorem wt_251 : (Jvm.Cond.code ({ cls := "java/lang/String", name := "length", desc := "()I" } : Jvm.MethodName) prog_14_method_54_code (1 : Nat) (Option.some Jvm.ClassFile.FieldType.int)) ∈ ax_T := ax_T_mem (List.mem_append_right _ (List.mem_of_getElem? (i := 251) (by decide +kernel))) (by decide +kernel)
theorem wt_252 : (Jvm.Cond.methodLink "java/lang/String" (335 : Nat) ({ cls := "java/lang/String", name := "coder", desc := "()B" } : Jvm.MethodName)) ∈ ax_T := ax_T_mem (List.mem_append_right _ (List.mem_of_getElem? (i := 252) (by decide +kernel))) (by decide +kernel)
theorem wt_253 : (Jvm.Cond.instanceMethod ({ cls := "java/lang/String", name := "coder", desc := "()B" } : Jvm.MethodName)) ∈ ax_T := ax_T_mem (List.mem_append_right _ (List.mem_of_getElem? (i := 253) (by decide +kernel))) (by decide +kernel)
theorem wt_254 : (Jvm.Cond.selects "java/lang/String" ({ cls := "java/lang/String", name := "coder", desc := "()B" } : Jvm.MethodName) ({ cls := "java/lang/String", name := "coder", desc := "()B" } : Jvm.MethodName)) ∈ ax_T := ax_T_mem (List.mem_append_right _ (List.mem_of_getElem? (i := 254) (by decide +kernel))) (by decide +kernel)
theorem wt_255 : (Jvm.Cond.code ({ cls := "java/lang/String", name := "coder", desc := "()B" } : Jvm.MethodName) prog_14_method_152_code (1 : Nat) (Option.some Jvm.ClassFile.FieldType.byte)) ∈ ax_T := ax_T_mem (List.mem_append_right _ (List.mem_of_getElem? (i := 255) (by decide +kernel))) (by decide +kernel)
theorem wt_256 : (Jvm.Cond.methodLink "java/lang/String" (637 : Nat) ({ cls := "java/lang/StringLatin1", name := "indexOf", desc := "([BIII)I" } : Jvm.MethodName)) ∈ ax_T := ax_T_mem (List.mem_append_right _ (List.mem_of_getElem? (i := 256) (by decide +kernel))) (by decide +kernel)
theorem wt_257 : (Jvm.Cond.static ({ cls := "java/lang/StringLatin1", name := "indexOf", desc := "([BIII)I" } : Jvm.MethodName)) ∈ ax_T := ax_T_mem (List.mem_append_right _ (List.mem_of_getElem? (i := 257) (by decide +kernel))) (by decide +kernel)
theorem wt_258 : (Jvm.Cond.code ({ cls := "java/lang/StringLatin1", name := "indexOf", desc := "([BIII)I" } : Jvm.MethodName) prog_15_method_22_code (4 : Nat) (Option.some Jvm.ClassFile.FieldType.int)) ∈ ax_T := ax_T_mem (List.mem_append_right _ (List.mem_of_getElem? (i := 258) (by decide +kernel))) (by decide +kernel)
theorem wt_259 : (Jvm.Cond.methodLink "java/lang/StringLatin1" (88 : Nat) ({ cls := "java/lang/StringLatin1", name := "canEncode", desc := "(I)Z" } : Jvm.MethodName)) ∈ ax_T := ax_T_mem (List.mem_append_right _ (List.mem_of_getElem? (i := 259) (by decide +kernel))) (by decide +kernel)
theorem wt_260 : (Jvm.Cond.static ({ cls := "java/lang/StringLatin1", name := "canEncode", desc := "(I)Z" } : Jvm.MethodName)) ∈ ax_T := ax_T_mem (List.mem_append_right _ (List.mem_of_getElem? (i := 260) (by decide +kernel))) (by decide +kernel)
theorem wt_261 : (Jvm.Cond.code ({ cls := "java/lang/StringLatin1", name := "canEncode", desc := "(I)Z" } : Jvm.MethodName) prog_15_method_4_code (1 : Nat) (Option.some Jvm.ClassFile.FieldType.boolean)) ∈ ax_T := ax_T_mem (List.mem_append_right _ (List.mem_of_getElem? (i := 261) (by decide +kernel))) (by decide +kernel)
theorem wt_268 : (Jvm.Cond.methodLink "java/lang/StringLatin1" (95 : Nat) ({ cls := "java/lang/StringLatin1", name := "indexOfChar", desc := "([BIII)I" } : Jvm.MethodName)) ∈ ax_T := ax_T_mem (List.mem_append_right _ (List.mem_of_getElem? (i := 268) (by decide +kernel))) (by decide +kernel)
theorem wt_269 : (Jvm.Cond.static ({ cls := "java/lang/StringLatin1", name := "indexOfChar", desc := "([BIII)I" } : Jvm.MethodName)) ∈ ax_T := ax_T_mem (List.mem_append_right _ (List.mem_of_getElem? (i := 269) (by decide +kernel))) (by decide +kernel)
theorem wt_270 : (Jvm.Cond.code ({ cls := "java/lang/StringLatin1", name := "indexOfChar", desc := "([BIII)I" } : Jvm.MethodName) prog_15_method_23_code (6 : Nat) (Option.some Jvm.ClassFile.FieldType.int)) ∈ ax_T := ax_T_mem (List.mem_append_right _ (List.mem_of_getElem? (i := 270) (by decide +kernel))) (by decide +kernel)
theorem wt_289 : (Jvm.Cond.fieldLink "java/lang/String" (1053 : Nat) "jdk/internal/util/Preconditions" "SIOOBE_FORMATTER" "Ljava/util/function/BiFunction;") ∈ ax_T := ax_T_mem (List.mem_append_right _ (List.mem_of_getElem? (i := 289) (by decide +kernel))) (by decide +kernel)
theorem wt_928 : (Jvm.Cond.instanceMethod ({ cls := "java/lang/String", name := "charAt", desc := "(I)C" } : Jvm.MethodName)) ∈ ax_T := ax_T_mem (List.mem_append_right _ (List.mem_of_getElem? (i := 928) (by decide +kernel))) (by decide +kernel)
theorem wt_929 : (Jvm.Cond.selects "java/lang/String" ({ cls := "java/lang/String", name := "charAt", desc := "(I)C" } : Jvm.MethodName) ({ cls := "java/lang/String", name := "charAt", desc := "(I)C" } : Jvm.MethodName)) ∈ ax_T := ax_T_mem (List.mem_append_right _ (List.mem_of_getElem? (i := 929) (by decide +kernel))) (by decide +kernel)
theorem wt_930 : (Jvm.Cond.code ({ cls := "java/lang/String", name := "charAt", desc := "(I)C" } : Jvm.MethodName) prog_14_method_56_code (2 : Nat) (Option.some Jvm.ClassFile.FieldType.char)) ∈ ax_T := ax_T_mem (List.mem_append_right _ (List.mem_of_getElem? (i := 930) (by decide +kernel))) (by decide +kernel)
theorem wt_931 : (Jvm.Cond.methodLink "java/lang/String" (495 : Nat) ({ cls := "java/lang/StringLatin1", name := "charAt", desc := "([BI)C" } : Jvm.MethodName)) ∈ ax_T := ax_T_mem (List.mem_append_right _ (List.mem_of_getElem? (i := 931) (by decide +kernel))) (by decide +kernel)
theorem wt_932 : (Jvm.Cond.static ({ cls := "java/lang/StringLatin1", name := "charAt", desc := "([BI)C" } : Jvm.MethodName)) ∈ ax_T := ax_T_mem (List.mem_append_right _ (List.mem_of_getElem? (i := 932) (by decide +kernel))) (by decide +kernel)
theorem wt_933 : (Jvm.Cond.code ({ cls := "java/lang/StringLatin1", name := "charAt", desc := "([BI)C" } : Jvm.MethodName) prog_15_method_2_code (2 : Nat) (Option.some Jvm.ClassFile.FieldType.char)) ∈ ax_T := ax_T_mem (List.mem_append_right _ (List.mem_of_getElem? (i := 933) (by decide +kernel))) (by decide +kernel)
theorem wt_934 : (Jvm.Cond.methodLink "java/lang/StringLatin1" (9 : Nat) ({ cls := "java/lang/String", name := "checkIndex", desc := "(II)V" } : Jvm.MethodName)) ∈ ax_T := ax_T_mem (List.mem_append_right _ (List.mem_of_getElem? (i := 934) (by decide +kernel))) (by decide +kernel)
theorem wt_935 : (Jvm.Cond.static ({ cls := "java/lang/String", name := "checkIndex", desc := "(II)V" } : Jvm.MethodName)) ∈ ax_T := ax_T_mem (List.mem_append_right _ (List.mem_of_getElem? (i := 935) (by decide +kernel))) (by decide +kernel)
theorem wt_936 : (Jvm.Cond.code ({ cls := "java/lang/String", name := "checkIndex", desc := "(II)V" } : Jvm.MethodName) prog_14_method_155_code (2 : Nat) (Option.none : Option Jvm.ClassFile.FieldType)) ∈ ax_T := ax_T_mem (List.mem_append_right _ (List.mem_of_getElem? (i := 936) (by decide +kernel))) (by decide +kernel)
theorem wt_937 : (Jvm.Cond.methodLink "java/lang/String" (1059 : Nat) ({ cls := "jdk/internal/util/Preconditions", name := "checkIndex", desc := "(IILjava/util/function/BiFunction;)I" } : Jvm.MethodName)) ∈ ax_T := ax_T_mem (List.mem_append_right _ (List.mem_of_getElem? (i := 937) (by decide +kernel))) (by decide +kernel)
theorem wt_938 : (Jvm.Cond.static ({ cls := "jdk/internal/util/Preconditions", name := "checkIndex", desc := "(IILjava/util/function/BiFunction;)I" } : Jvm.MethodName)) ∈ ax_T := ax_T_mem (List.mem_append_right _ (List.mem_of_getElem? (i := 938) (by decide +kernel))) (by decide +kernel)
theorem wt_939 : (Jvm.Cond.code ({ cls := "jdk/internal/util/Preconditions", name := "checkIndex", desc := "(IILjava/util/function/BiFunction;)I" } : Jvm.MethodName) prog_23_method_11_code (3 : Nat) (Option.some Jvm.ClassFile.FieldType.int)) ∈ ax_T := ax_T_mem (List.mem_append_right _ (List.mem_of_getElem? (i := 939) (by decide +kernel))) (by decide +kernel)
theorem wt_1509 : (Jvm.Cond.fieldLink "java/lang/String" (15 : Nat) "java/lang/String" "coder" "B") ∈ ax_T := ax_T_mem (List.mem_append_right _ (List.mem_of_getElem? (i := 1509) (by decide +kernel))) (by decide +kernel)
theorem wt_1510 : (Jvm.Cond.fieldLink "java/lang/String" (9 : Nat) "java/lang/String" "value" "[B") ∈ ax_T := ax_T_mem (List.mem_append_right _ (List.mem_of_getElem? (i := 1510) (by decide +kernel))) (by decide +kernel)
abbrev gS_length : ax_G := (({ cls := "java/lang/String", name := "length", desc := "()I" } : Jvm.MethodName), prog_14_method_54_code, 1, (Option.some Jvm.ClassFile.FieldType.int), ([], [], [], [], []))
theorem cal_gS_length : ax_cal gS_length 0 := ⟨wt_251, wt_6, ⟨by decide, by decide, by decide +kernel⟩, by decide⟩
abbrev gS_coder : ax_G := (({ cls := "java/lang/String", name := "coder", desc := "()B" } : Jvm.MethodName), prog_14_method_152_code, 1, (Option.some Jvm.ClassFile.FieldType.byte), ([], [], [], [], []))
theorem cal_gS_coder : ax_cal gS_coder 0 := ⟨wt_255, wt_6, ⟨by decide, by decide, by decide +kernel⟩, by decide⟩
abbrev gS_isLatin1 : ax_G := (({ cls := "java/lang/String", name := "isLatin1", desc := "()Z" } : Jvm.MethodName), prog_14_method_154_code, 1, (Option.some Jvm.ClassFile.FieldType.boolean), ([], [], [], [], []))
theorem cal_gS_isLatin1 : ax_cal gS_isLatin1 0 := ⟨wt_245, wt_6, ⟨by decide, by decide, by decide +kernel⟩, by decide⟩
abbrev gS_charAt : ax_G := (({ cls := "java/lang/String", name := "charAt", desc := "(I)C" } : Jvm.MethodName), prog_14_method_56_code, 2, (Option.some Jvm.ClassFile.FieldType.char), ([], [], [], [], []))
theorem cal_gS_charAt : ax_cal gS_charAt 1 := ⟨wt_930, wt_6, ⟨by decide, by decide, by decide +kernel⟩, by decide⟩
abbrev gS_checkIndex : ax_G := (({ cls := "java/lang/String", name := "checkIndex", desc := "(II)V" } : Jvm.MethodName), prog_14_method_155_code, 2, (Option.none : Option Jvm.ClassFile.FieldType), ([], [], [], [], []))
theorem cal_gS_checkIndex : ax_cal gS_checkIndex 2 := ⟨wt_936, wt_6, ⟨by decide, by decide, by decide +kernel⟩, by decide⟩
abbrev gS_indexOf1 : ax_G := (({ cls := "java/lang/String", name := "indexOf", desc := "(I)I" } : Jvm.MethodName), prog_14_method_79_code, 2, (Option.some Jvm.ClassFile.FieldType.int), ([], [], [], [], []))
theorem cal_gS_indexOf1 : ax_cal gS_indexOf1 1 := ⟨wt_237, wt_6, ⟨by decide, by decide, by decide +kernel⟩, by decide⟩
abbrev gS_indexOf2 : ax_G := (({ cls := "java/lang/String", name := "indexOf", desc := "(II)I" } : Jvm.MethodName), prog_14_method_80_code, 3, (Option.some Jvm.ClassFile.FieldType.int), ([], [], [], [], []))
theorem cal_gS_indexOf2 : ax_cal gS_indexOf2 2 := ⟨wt_241, wt_6, ⟨by decide, by decide, by decide +kernel⟩, by decide⟩
abbrev gL_charAt : ax_G := (({ cls := "java/lang/StringLatin1", name := "charAt", desc := "([BI)C" } : Jvm.MethodName), prog_15_method_2_code, 2, (Option.some Jvm.ClassFile.FieldType.char), ([], [], [], [], []))
theorem cal_gL_charAt : ax_cal gL_charAt 2 := ⟨wt_933, wt_7, ⟨by decide, by decide, by decide +kernel⟩, by decide⟩
abbrev gL_canEncode : ax_G := (({ cls := "java/lang/StringLatin1", name := "canEncode", desc := "(I)Z" } : Jvm.MethodName), prog_15_method_4_code, 1, (Option.some Jvm.ClassFile.FieldType.boolean), ([], [], [], [], []))
theorem cal_gL_canEncode : ax_cal gL_canEncode 1 := ⟨wt_261, wt_7, ⟨by decide, by decide, by decide +kernel⟩, by decide⟩
abbrev gL_indexOf : ax_G := (({ cls := "java/lang/StringLatin1", name := "indexOf", desc := "([BIII)I" } : Jvm.MethodName), prog_15_method_22_code, 4, (Option.some Jvm.ClassFile.FieldType.int), ([], [], [], [], []))
theorem cal_gL_indexOf : ax_cal gL_indexOf 4 := ⟨wt_258, wt_7, ⟨by decide, by decide, by decide +kernel⟩, by decide⟩
abbrev gL_indexOfChar : ax_G := (({ cls := "java/lang/StringLatin1", name := "indexOfChar", desc := "([BIII)I" } : Jvm.MethodName), prog_15_method_23_code, 6, (Option.some Jvm.ClassFile.FieldType.int), ([], [], [], [], []))
theorem cal_gL_indexOfChar : ax_cal gL_indexOfChar 4 := ⟨wt_270, wt_7, ⟨by decide, by decide, by decide +kernel⟩, by decide⟩
abbrev gP_checkIndex : ax_G := (({ cls := "jdk/internal/util/Preconditions", name := "checkIndex", desc := "(IILjava/util/function/BiFunction;)I" } : Jvm.MethodName), prog_23_method_11_code, 3, (Option.some Jvm.ClassFile.FieldType.int), ([], [], [], [], []))
theorem cal_gP_checkIndex : ax_cal gP_checkIndex 3 := ⟨wt_939, wt_10, ⟨by decide, by decide, by decide +kernel⟩, by decide⟩
theorem ok_kS : ax_kok "java/lang/String" ([], [], [], [], []) := ax_kok_of (by decide +kernel)
theorem ok_kL : ax_kok "java/lang/StringLatin1" ([], [], [], [], []) := ax_kok_of (by decide +kernel)
theorem ok_kP : ax_kok "jdk/internal/util/Preconditions" ([], [], [], [], []) := ax_kok_of (by decide +kernel)

/-- a text's signs, its length -/
def ax_sg (t j : Nat) : Int := (ax_tx.getD t []).getD j 0
def ax_ln (t : Nat) : Nat := (ax_tx.getD t []).length
theorem ax_sg_eq : ∀ t, t < 6 → ∀ j, j < ax_ln t → ((ax_tx.map (fun r => r.map Int32.ofInt)).getD t []).getD j 0 = Int32.ofInt (ax_sg t j) ∧ 0 ≤ ax_sg t j ∧ ax_sg t j ≤ 127 := by decide +kernel
theorem ax_ln_eq : ∀ t, t < 6 → (ax_tx.map List.length).getD t 0 = ax_ln t ∧ ax_ln t ≤ 6 := by decide +kernel
theorem ax_ln_pos : ∀ t, t < 6 → 1 ≤ ax_ln t := by decide +kernel
/-- the first place from j on, of n, where a text has the sign c; none -/
def ax_ixN (t : Nat) (c : Int) : Nat → Nat → Int
  | 0, _ => -1
  | n + 1, j => if ax_sg t j = c then (j : Int) else ax_ixN t c n (j + 1)
def ax_ix (t : Nat) (x : Int) : Int := if 0 ≤ x ∧ x ≤ 255 then ax_ixN t (ax_i2b x) (ax_ln t) 0 else -1
theorem ax_vlB {X : ax_X} {t : Nat} : ax_vl X (7, 1000 + t, 0) = .ref (X.1 (3000 + t)) := by
  show Value.ref (X.1 (2000 + (1000 + t))) = _
  rw [show 2000 + (1000 + t) = 3000 + t by omega]
section AXT
variable {L : ax_L} {G : ax_G} {d pc : Nat} {lc : List (Nat × ax_V)} {st : List ax_V} {M : ax_M} {Q : Option ax_V → ax_M → Prop}
theorem ax_strV {i t : Nat} (hd : decode (ax_cc G) pc = .ok (.getfield i, 3)) (ht : t < 6) (hw : Cond.fieldLink (ax_own G) i "java/lang/String" "value" "[B" ∈ ax_T) (k : ax_W L G d (pc + 3) lc ((7, 1000 + t, 0) :: st) M Q) : ax_W L G d pc lc ((7, t, 0) :: st) M Q := by
  intro p l e s m args below meth c X H locs ls hC hl hok hR hS
  have hN := hC.2.2.2.2.2.2.2
  have k2 := k p l e s m args below meth c X H locs ls hC hl (hok.pop.push (v := (7, 1000 + t, 0)) trivial) hR hS
  rw [List.map_cons, ax_vlB] at k2
  exact vk_getf hC.1 hC.2.1 ((hN.2.2.1.1 t ht).2.2.1) hS hC.2.2.2.2.1 (hC.2.2.2.2.2.1 _ (List.mem_cons_of_mem _ hw)) (fun _ h => h) hd k2
theorem ax_strC {i t : Nat} (hd : decode (ax_cc G) pc = .ok (.getfield i, 3)) (ht : t < 6) (hw : Cond.fieldLink (ax_own G) i "java/lang/String" "coder" "B" ∈ ax_T) (k : ax_W L G d (pc + 3) lc ((0, 0, 0) :: st) M Q) : ax_W L G d pc lc ((7, t, 0) :: st) M Q := by
  intro p l e s m args below meth c X H locs ls hC hl hok hR hS
  have hN := hC.2.2.2.2.2.2.2
  have k2 := k p l e s m args below meth c X H locs ls hC hl (hok.pop.push (v := (0, 0, 0)) ⟨by decide, by decide⟩) hR hS
  exact vk_getf hC.1 hC.2.1 ((hN.2.2.1.1 t ht).2.1) hS hC.2.2.2.2.1 (hC.2.2.2.2.2.1 _ (List.mem_cons_of_mem _ hw)) (fun _ h => h) hd k2
theorem ax_compact {i : Nat} (hd : decode (ax_cc G) pc = .ok (.getstatic i, 3)) (hw : Cond.fieldLink (ax_own G) i "java/lang/String" "COMPACT_STRINGS" "Z" ∈ ax_T) (k : ax_W L G d (pc + 3) lc ((0, 0, 1) :: st) M Q) : ax_W L G d pc lc st M Q := by
  intro p l e s m args below meth c X H locs ls hC hl hok hR hS
  have hN := hC.2.2.2.2.2.2.2
  have k2 := k p l e s m args below meth c X H locs ls hC hl (hok.push (v := (0, 0, 1)) ⟨by decide, by decide⟩) hR hS
  exact va_gets hC.1 hC.2.1 hN.2.2.2.2.1 hS hC.2.2.2.2.1 (hC.2.2.2.2.2.1 _ (List.mem_cons_of_mem _ hw)) (fun _ h => h) hd k2
theorem ax_sioobe {i : Nat} (hd : decode (ax_cc G) pc = .ok (.getstatic i, 3)) (hw : Cond.fieldLink (ax_own G) i "jdk/internal/util/Preconditions" "SIOOBE_FORMATTER" "Ljava/util/function/BiFunction;" ∈ ax_T) (k : ∀ v : ax_V, v = (11, 0, 0) ∨ v = (7, 4000, 0) → ax_W L G d (pc + 3) lc (v :: st) M Q) : ax_W L G d pc lc st M Q := by
  intro p l e s m args below meth c X H locs ls hC hl hok hR hS
  have hN := hC.2.2.2.2.2.2.2
  rcases hN.2.2.2.2.2.1 with h | h
  · exact va_gets hC.1 hC.2.1 h hS hC.2.2.2.2.1 (hC.2.2.2.2.2.1 _ (List.mem_cons_of_mem _ hw)) (fun _ h => h) hd (k (11, 0, 0) (Or.inl rfl) p l e s m args below meth c X H locs ls hC hl (hok.push (v := (11, 0, 0)) trivial) hR hS)
  · exact va_gets hC.1 hC.2.1 h hS hC.2.2.2.2.1 (hC.2.2.2.2.2.1 _ (List.mem_cons_of_mem _ hw)) (fun _ h => h) hd (k (7, 4000, 0) (Or.inr rfl) p l e s m args below meth c X H locs ls hC hl (hok.push (v := (7, 4000, 0)) trivial) hR hS)
theorem ax_blen {t : Nat} (hd : decode (ax_cc G) pc = .ok (.arraylength, 1)) (ht : t < 6) (k : ax_W L G d (pc + 1) lc ((0, 0, (ax_ln t : Int)) :: st) M Q) : ax_W L G d pc lc ((7, 1000 + t, 0) :: st) M Q := by
  intro p l e s m args below meth c X H locs ls hC hl hok hR hS
  have hN := hC.2.2.2.2.2.2.2
  have h1 := ax_ln_eq t ht
  have hT := (hN.2.2.1.1 t ht).2.2.2
  rw [h1.1] at hT
  have k2 := k p l e s m args below meth c X H locs ls hC hl (hok.pop.push (v := (0, 0, (ax_ln t : Int))) ⟨by show (-2147483648 : Int) ≤ (ax_ln t : Int); omega, by show (ax_ln t : Int) ≤ 2147483647; omega⟩) hR hS
  rw [List.map_cons, ax_vlB]
  exact va_tlen hC.1 hC.2.1 hT hS (v := Int32.ofInt (ax_ln t : Int)) (by rfl) hd k2
theorem ax_bld {t u : Nat} {i : Int} (hd : decode (ax_cc G) pc = .ok (.baload, 1)) (ht : t < 6) (hi : 0 ≤ i ∧ i < (ax_ln t : Int)) (k : ax_W L G d (pc + 1) lc ((0, 0, ax_sg t i.toNat) :: st) M Q) : ax_W L G d pc lc ((0, u, i) :: (7, 1000 + t, 0) :: st) M Q := by
  intro p l e s m args below meth c X H locs ls hC hl hok hR hS
  have hN := hC.2.2.2.2.2.2.2
  have h1 := ax_ln_eq t ht
  have hT := (hN.2.2.1.1 t ht).2.2.2
  rw [h1.1] at hT
  have hb := hok.topI
  have h2 := ax_sg_eq t ht i.toNat (by omega)
  have k2 := k p l e s m args below meth c X H locs ls hC hl (hok.pop.pop.push (v := (0, 0, ax_sg t i.toNat)) ⟨by show (-2147483648 : Int) ≤ ax_sg t i.toNat; omega, by show ax_sg t i.toNat ≤ 2147483647; omega⟩) hR hS
  rw [List.map_cons, List.map_cons, ax_vlB]
  exact va_tb hC.1 hC.2.1 hT hS (ax_in hb hi.1 hi.2) (v := .int (Int32.ofInt (ax_sg t i.toNat))) (by
    show Value.int (((ax_tx.map (fun r => r.map Int32.ofInt)).getD t []).getD (Int32.ofInt i).toNatClampNeg 0) = _
    rw [ax_clamp hb, h2.1]) hd k2
theorem ax_tret {u : Nat} {n : Int} {ty : FieldType} (hd : decode (ax_cc G) pc = .ok (.ireturn, 1)) (hret : ax_ret G = some ty) (hn : narrow ty (.int (Int32.ofInt n)) = .int (Int32.ofInt n)) (hq : Q (some (0, u, n)) M) : ax_W L G d pc lc [(0, u, n)] M Q := by
  intro p l e s m args below meth c X H locs ls hC hl hok hR hS
  have hlocks := hC.2.2.2.2.2.2.1
  exact W.zret hC.1 hC.2.1 (hC.2.2.1.trans hret) hn (fun t ht hW => ax_Q_of (r := some (0, u, n)) (fun v hv => by cases hv; exact hok.top) hq hR hS ht hW) hS.2.2 hd
/-- a call on a constant text -/
theorem ax_callT {G1 : ax_G} {d1 i n t : Nat} {as : List ax_V} {Q1 : Option ax_V → ax_M → Prop} (hd : decode (ax_cc G) pc = .ok (.invokevirtual i, 3)) (ht : t < 6) (hcal : ax_cal G1 n) (hdd : d1 + 1 ≤ d) (hn : as.length = n)
    (hw1 : Cond.methodLink (ax_own G) i G1.1 ∈ ax_T) (hw2 : Cond.instanceMethod G1.1 ∈ ax_T) (hw3 : Cond.selects "java/lang/String" G1.1 G1.1 ∈ ax_T) (hwd : ax_wd st ≤ 8) (hM : ax_Met L G1 d1 ((7, t, 0) :: as) M Q1)
    (k : ∀ r M1, Q1 r M1 → ax_okr L r → ax_W L G d (pc + 3) lc (r.toList ++ st) M1 Q) : ax_W L G d pc lc (as.reverse ++ (7, t, 0) :: st) M Q := by
  intro p l e s m args below meth c' X H locs ls hC hl hok hR hS
  have hts := hC.2.2.2.2.2.1
  have hN := hC.2.2.2.2.2.2.2
  have hfix : CallFix p m c' (ax_cc G) (ax_nL G) s args (ax_word G :: ax_T) (ax_own G) := ⟨hC.1, hC.2.1, hC.2.2.2.1, hC.2.2.2.2.1, hts⟩
  have hm := hM l X (fun v hv => by
    rcases List.mem_cons.mp hv with e | h
    · subst e; exact trivial
    · exact hok.2 v (List.mem_append_left _ (List.mem_reverse.mpr h)))
  have hcw : CallW (ax_rm d) s args (ax_own G) "java/lang/String" i G1.1 (ax_cc G1) (ax_nL G1) (ax_ret G1) (ax_word G1 :: ax_T) (ax_rm d1) 0 0 n :=
    ⟨callB_of n hts (ax_good hcal.1) rfl rfl rfl (hts _ (List.mem_cons_of_mem _ hcal.2.1)) (hts _ (List.mem_cons_of_mem _ hw1)) hcal.2.2.1 ⟨hdd, by have := hcal.2.2.2; show 8 + (ax_nL G1 + 11) + 64 * d1 ≤ 64 * d; omega⟩, hts _ (List.mem_cons_of_mem _ hw2), hts _ (List.mem_cons_of_mem _ hw3)⟩
  have hpre : PreV s H "java/lang/String" (X.1 (2000 + t)) (va_Pc (((7, t, 0) :: as).map (ax_vl X)) (fun U => ax_R L X M U U.heap ∧ ax_N L X U U.heap)) (as.map (ax_vl X)) :=
    ⟨ax_blind, vk_recv (adK := fun i => X.1 (2000 + i)) (i := t) (hN.2.2.1) ht hS, fun U hU hW => ⟨rfl, by rw [hU]; exact hR.moved hW.alike, ax_N_now hN hS hU hW⟩⟩
  have hrun := va_runV (g := F0 m pc ls ((as.reverse ++ (7, t, 0) :: st).map (ax_vl X))) (As := as.map (ax_vl X)) (rest := st.map (ax_vl X)) (H := H) (locs := locs) (cells := 0) (slots := 0) (below := below) (meth := meth) (e := e) (n := n) hfix hm hcw hpre rfl (by simp [hn]) hl.1 (by simp [List.map_reverse]; rfl) (lv_room (by rw [ax_wd_eq]; exact hwd)) hd ⟨Nat.le_refl _, Nat.le_refl _⟩
  refine ax_go hrun hS (fun r M1 H1 locs1 hq hr hR1 hS1 => ?_)
  rw [ax_toL_map]
  exact k r M1 hq hr p l e s m args below meth c' X H1 locs1 ls hC hl (ax_okr_st (hok.drop.pop) hr) hR1 hS1
theorem ax_cTi {G1 : ax_G} {d1 i n t : Nat} {as : List ax_V} {st0 : List ax_V} {lo hi x : Int} (hd : decode (ax_cc G) pc = .ok (.invokevirtual i, 3)) (ht : t < 6) (hcal : ax_cal G1 n) (hdd : d1 + 1 ≤ d) (hn : as.length = n) (hw1 : Cond.methodLink (ax_own G) i G1.1 ∈ ax_T) (hw2 : Cond.instanceMethod G1.1 ∈ ax_T) (hw3 : Cond.selects "java/lang/String" G1.1 G1.1 ∈ ax_T) (hwd : ax_wd st ≤ 8) (hst : st0 = (as.reverse ++ (7, t, 0) :: st)) (hM : ax_Met L G1 d1 ((7, t, 0) :: as) M (ax_qi lo hi M x)) (k : lo ≤ x ∧ x ≤ hi → ax_W L G d (pc + 3) lc ((0, 0, x) :: st) M Q) : ax_W L G d pc lc st0 M Q := by
  subst hst
  refine ax_callT hd ht hcal hdd hn hw1 hw2 hw3 hwd hM (fun r M1 hq _ => ?_)
  obtain ⟨rfl, rfl, h1, h2⟩ := hq
  exact k ⟨h1, h2⟩
end AXT
/-! the members -/
section AXTM
variable {L : ax_L}
theorem cS_coder (hLy : ax_lay L) (d : Nat) (t : Nat) (ht : t < 6) (M : ax_M) : ax_Met L gS_coder (d + 0) [(7, t, 0)] M (ax_qi 0 0 M 0) := by
  refine ax_body (by decide) (fun X => Nat.le_of_ble_eq_true rfl) (fun hok => ?_)
  show ax_W L gS_coder (d + 0) 0 [(0, (7, t, 0))] [] M _
  refine ax_compact (i := 38) (by decide +kernel) wt_246 ?_
  refine ax_if_eq (off := 10) (tgt := 13) (by decide +kernel) (by decide) (fun h => absurd h (by decide)) (fun _ => ?_)
  refine ax_lump hLy ok_kS [(6, .aload_n 0, 1, 0, 0, 0)] (pc' := 7) (lc' := [(0, (7, t, 0))]) (st' := [(7, t, 0)]) (M' := M) (C' := True) (by decide +kernel) rfl trivial ?_
  refine ax_strC (i := 15) (by decide +kernel) ht wt_1509 ?_
  refine ax_lump hLy ok_kS [(10, .goto 4, 3, 14, 0, 0)] (pc' := 14) (lc' := [(0, (7, t, 0))]) (st' := [(0, 0, 0)]) (M' := M) (C' := True) (by decide +kernel) rfl trivial ?_
  exact ax_tret (by decide +kernel) rfl rfl ⟨rfl, rfl, Int.le_refl _, Int.le_refl _⟩
theorem cS_length (hLy : ax_lay L) (d : Nat) (t : Nat) (ht : t < 6) (M : ax_M) : ax_Met L gS_length (d + 1) [(7, t, 0)] M (ax_qi 0 6 M (ax_ln t)) := by
  have h6 := (ax_ln_eq t ht).2
  refine ax_body (by decide) (fun X => Nat.le_of_ble_eq_true rfl) (fun hok => ?_)
  show ax_W L gS_length (d + 1) 0 [(0, (7, t, 0))] [] M _
  refine ax_lump hLy ok_kS [(0, .aload_n 0, 1, 0, 0, 0)] (pc' := 1) (lc' := [(0, (7, t, 0))]) (st' := [(7, t, 0)]) (M' := M) (C' := True) (by decide +kernel) rfl trivial ?_
  refine ax_strV (i := 9) (by decide +kernel) ht wt_1510 ?_
  refine ax_blen (by decide +kernel) ht ?_
  refine ax_lump hLy ok_kS [(5, .aload_n 0, 1, 0, 0, 0)] (pc' := 6) (lc' := [(0, (7, t, 0))]) (st' := [(7, t, 0), (0, 0, (ax_ln t : Int))]) (M' := M) (C' := True) (by decide +kernel) rfl trivial ?_
  refine ax_cTi (G1 := gS_coder) (d1 := d + 0) (i := 335) (n := 0) (as := []) (st := [(0, 0, (ax_ln t : Int))]) (by decide +kernel) ht cal_gS_coder (by omega) rfl wt_252 wt_253 wt_254 (Nat.le_of_ble_eq_true rfl) rfl (cS_coder hLy d t ht M) (fun _ => ?_)
  refine ax_lump hLy ok_kS [(9, .ishr, 1, 0, 0, 0)] (pc' := 10) (lc' := [(0, (7, t, 0))]) (st' := [(0, 0, ax_shr (ax_ln t : Int) 0)]) (M' := M) (C' := True) (by decide +kernel) rfl trivial ?_
  have he : ax_shr (ax_ln t : Int) 0 = (ax_ln t : Int) := by
    have : ∀ n, n ≤ 6 → ax_shr (n : Nat) 0 = (n : Nat) := by decide +kernel
    exact this _ h6
  rw [he]
  exact ax_iret (by decide +kernel) rfl ⟨rfl, rfl, by omega, by omega⟩
theorem cS_isLatin1 (hLy : ax_lay L) (d : Nat) (t : Nat) (ht : t < 6) (M : ax_M) : ax_Met L gS_isLatin1 (d + 0) [(7, t, 0)] M (ax_qi 1 1 M 1) := by
  refine ax_body (by decide) (fun X => Nat.le_of_ble_eq_true rfl) (fun hok => ?_)
  show ax_W L gS_isLatin1 (d + 0) 0 [(0, (7, t, 0))] [] M _
  refine ax_compact (i := 38) (by decide +kernel) wt_246 ?_
  refine ax_if_eq (off := 14) (tgt := 17) (by decide +kernel) (by decide) (fun h => absurd h (by decide)) (fun _ => ?_)
  refine ax_lump hLy ok_kS [(6, .aload_n 0, 1, 0, 0, 0)] (pc' := 7) (lc' := [(0, (7, t, 0))]) (st' := [(7, t, 0)]) (M' := M) (C' := True) (by decide +kernel) rfl trivial ?_
  refine ax_strC (i := 15) (by decide +kernel) ht wt_1509 ?_
  refine ax_if_ne (off := 7) (tgt := 17) (by decide +kernel) (by decide) (fun h => absurd rfl h) (fun _ => ?_)
  refine ax_lump hLy ok_kS [(13, .iconst 1, 1, 0, 0, 0), (14, .goto 4, 3, 18, 0, 0)] (pc' := 18) (lc' := [(0, (7, t, 0))]) (st' := [(0, 0, 1)]) (M' := M) (C' := True) (by decide +kernel) rfl trivial ?_
  exact ax_zret (by decide +kernel) rfl ⟨by decide, by decide⟩ ⟨rfl, rfl, Int.le_refl _, Int.le_refl _⟩
theorem cP_checkIndex (hLy : ax_lay L) (d : Nat) (i n : Int) (v : ax_V) (h : 0 ≤ i ∧ i < n) (hv : v = (11, 0, 0) ∨ v = (7, 4000, 0)) (M : ax_M) : ax_Met L gP_checkIndex (d + 0) [(0, 0, i), (0, 0, n), v] M (ax_qi 0 2147483647 M i) := by
  refine ax_body (by decide) (fun X => by rcases hv with rfl | rfl <;> exact Nat.le_of_ble_eq_true rfl) (fun hok => ?_)
  have hn : ax_r32 n := hok (0, 0, n) (by simp)
  show ax_W L gP_checkIndex (d + 0) 0 [(0, (0, 0, i)), (1, (0, 0, n)), (2, v)] [] M _
  refine ax_lump hLy ok_kP [(0, .iload_n 0, 1, 0, 0, 0)] (pc' := 1) (lc' := [(0, (0, 0, i)), (1, (0, 0, n)), (2, v)]) (st' := [(0, 0, i)]) (M' := M) (C' := True) (by decide +kernel) rfl trivial ?_
  refine ax_if_lt (off := 8) (tgt := 9) (by decide +kernel) (by decide) (fun h1 => absurd h1 (by omega)) (fun _ => ?_)
  refine ax_lump hLy ok_kP [(4, .iload_n 0, 1, 0, 0, 0), (5, .iload_n 1, 1, 0, 0, 0)] (pc' := 6) (lc' := [(0, (0, 0, i)), (1, (0, 0, n)), (2, v)]) (st' := [(0, 0, n), (0, 0, i)]) (M' := M) (C' := True) (by decide +kernel) rfl trivial ?_
  refine ax_icmp_lt (off := 10) (tgt := 16) (by decide +kernel) (by decide) (fun _ => ?_) (fun h1 => absurd h.2 h1)
  refine ax_lump hLy ok_kP [(16, .iload_n 0, 1, 0, 0, 0)] (pc' := 17) (lc' := [(0, (0, 0, i)), (1, (0, 0, n)), (2, v)]) (st' := [(0, 0, i)]) (M' := M) (C' := True) (by decide +kernel) rfl trivial ?_
  exact ax_iret (by decide +kernel) rfl ⟨rfl, rfl, h.1, by have := hn.2; omega⟩
theorem cS_checkIndex (hLy : ax_lay L) (d : Nat) (i n : Int) (h : 0 ≤ i ∧ i < n) (M : ax_M) : ax_Met L gS_checkIndex (d + 1) [(0, 0, i), (0, 0, n)] M (ax_qv M) := by
  refine ax_body (by decide) (fun X => Nat.le_of_ble_eq_true rfl) (fun hok => ?_)
  show ax_W L gS_checkIndex (d + 1) 0 [(0, (0, 0, i)), (1, (0, 0, n))] [] M _
  refine ax_lump hLy ok_kS [(0, .iload_n 0, 1, 0, 0, 0), (1, .iload_n 1, 1, 0, 0, 0)] (pc' := 2) (lc' := [(0, (0, 0, i)), (1, (0, 0, n))]) (st' := [(0, 0, n), (0, 0, i)]) (M' := M) (C' := True) (by decide +kernel) rfl trivial ?_
  refine ax_sioobe (i := 1053) (by decide +kernel) wt_289 (fun v hv => ?_)
  refine ax_callS (G1 := gP_checkIndex) (d1 := d + 0) (i := 1059) (n := 3) (as := [(0, 0, i), (0, 0, n), v]) (st := []) (by decide +kernel) cal_gP_checkIndex (by omega) rfl wt_937 wt_938 (Nat.le_of_ble_eq_true rfl) (cP_checkIndex hLy d i n v h hv M) (fun r M1 hq _ => ?_)
  obtain ⟨rfl, rfl, -, -⟩ := hq
  refine ax_lump hLy ok_kS [(8, .pop, 1, 0, 0, 0)] (pc' := 9) (lc' := [(0, (0, 0, i)), (1, (0, 0, n))]) (st' := []) (M' := M1) (C' := True) (by decide +kernel) rfl trivial ?_
  exact ax_vret (by decide +kernel) rfl ⟨rfl, rfl⟩
theorem cL_charAt (hLy : ax_lay L) (d : Nat) (t : Nat) (ht : t < 6) (i : Int) (h : 0 ≤ i ∧ i < (ax_ln t : Int)) (M : ax_M) : ax_Met L gL_charAt (d + 2) [(7, 1000 + t, 0), (0, 0, i)] M (ax_qi 0 127 M (ax_sg t i.toNat)) := by
  have h2 := ax_sg_eq t ht i.toNat (by omega)
  refine ax_body (by decide) (fun X => Nat.le_of_ble_eq_true rfl) (fun hok => ?_)
  show ax_W L gL_charAt (d + 2) 0 [(0, (7, 1000 + t, 0)), (1, (0, 0, i))] [] M _
  refine ax_lump hLy ok_kL [(0, .iload_n 1, 1, 0, 0, 0), (1, .aload_n 0, 1, 0, 0, 0)] (pc' := 2) (lc' := [(0, (7, 1000 + t, 0)), (1, (0, 0, i))]) (st' := [(7, 1000 + t, 0), (0, 0, i)]) (M' := M) (C' := True) (by decide +kernel) rfl trivial ?_
  refine ax_blen (by decide +kernel) ht ?_
  refine ax_callS (G1 := gS_checkIndex) (d1 := d + 1) (i := 9) (n := 2) (as := [(0, 0, i), (0, 0, (ax_ln t : Int))]) (st := []) (by decide +kernel) cal_gS_checkIndex (by omega) rfl wt_934 wt_935 (Nat.le_of_ble_eq_true rfl) (cS_checkIndex hLy d i (ax_ln t) h M) (fun r M1 hq _ => ?_)
  obtain ⟨rfl, rfl⟩ := hq
  refine ax_lump hLy ok_kL [(6, .aload_n 0, 1, 0, 0, 0), (7, .iload_n 1, 1, 0, 0, 0)] (pc' := 8) (lc' := [(0, (7, 1000 + t, 0)), (1, (0, 0, i))]) (st' := [(0, 0, i), (7, 1000 + t, 0)]) (M' := M1) (C' := True) (by decide +kernel) rfl trivial ?_
  refine ax_bld (by decide +kernel) ht h ?_
  refine ax_lump hLy ok_kL [(9, .sipush 255, 3, 0, 0, 0), (12, .iand, 1, 0, 0, 0), (13, .i2c, 1, 0, 0, 0)] (pc' := 14) (lc' := [(0, (7, 1000 + t, 0)), (1, (0, 0, i))]) (st' := [(0, 0, ax_i2c (ax_and (ax_sg t i.toNat) 255))]) (M' := M1) (C' := True) (by decide +kernel) rfl trivial ?_
  have he : ax_i2c (ax_and (ax_sg t i.toNat) 255) = ax_sg t i.toNat ∧ narrow .char (.int (Int32.ofInt (ax_sg t i.toNat))) = .int (Int32.ofInt (ax_sg t i.toNat)) := by
    have : ∀ n : Nat, n ≤ 127 → ax_i2c (ax_and (n : Int) 255) = (n : Int) ∧ narrow .char (.int (Int32.ofInt (n : Int))) = .int (Int32.ofInt (n : Int)) := by decide +kernel
    have h3 := this (ax_sg t i.toNat).toNat (by omega)
    rw [Int.toNat_of_nonneg h2.2.1] at h3
    exact h3
  rw [he.1]
  exact ax_tret (by decide +kernel) rfl he.2 ⟨rfl, rfl, h2.2.1, h2.2.2⟩
theorem cS_charAt (hLy : ax_lay L) (d : Nat) (t : Nat) (ht : t < 6) (i : Int) (h : 0 ≤ i ∧ i < (ax_ln t : Int)) (M : ax_M) : ax_Met L gS_charAt (d + 3) [(7, t, 0), (0, 0, i)] M (ax_qi 0 127 M (ax_sg t i.toNat)) := by
  have h2 := ax_sg_eq t ht i.toNat (by omega)
  refine ax_body (by decide) (fun X => Nat.le_of_ble_eq_true rfl) (fun hok => ?_)
  show ax_W L gS_charAt (d + 3) 0 [(0, (7, t, 0)), (1, (0, 0, i))] [] M _
  refine ax_lump hLy ok_kS [(0, .aload_n 0, 1, 0, 0, 0)] (pc' := 1) (lc' := [(0, (7, t, 0)), (1, (0, 0, i))]) (st' := [(7, t, 0)]) (M' := M) (C' := True) (by decide +kernel) rfl trivial ?_
  refine ax_cTi (G1 := gS_isLatin1) (d1 := d + 0) (i := 492) (n := 0) (as := []) (st := []) (by decide +kernel) ht cal_gS_isLatin1 (by omega) rfl wt_242 wt_243 wt_244 (Nat.le_of_ble_eq_true rfl) rfl (cS_isLatin1 hLy d t ht M) (fun _ => ?_)
  refine ax_if_eq (off := 12) (tgt := 16) (by decide +kernel) (by decide) (fun h => absurd h (by decide)) (fun _ => ?_)
  refine ax_lump hLy ok_kS [(7, .aload_n 0, 1, 0, 0, 0)] (pc' := 8) (lc' := [(0, (7, t, 0)), (1, (0, 0, i))]) (st' := [(7, t, 0)]) (M' := M) (C' := True) (by decide +kernel) rfl trivial ?_
  refine ax_strV (i := 9) (by decide +kernel) ht wt_1510 ?_
  refine ax_lump hLy ok_kS [(11, .iload_n 1, 1, 0, 0, 0)] (pc' := 12) (lc' := [(0, (7, t, 0)), (1, (0, 0, i))]) (st' := [(0, 0, i), (7, 1000 + t, 0)]) (M' := M) (C' := True) (by decide +kernel) rfl trivial ?_
  refine ax_callS (G1 := gL_charAt) (d1 := d + 2) (i := 495) (n := 2) (as := [(7, 1000 + t, 0), (0, 0, i)]) (st := []) (by decide +kernel) cal_gL_charAt (by omega) rfl wt_931 wt_932 (Nat.le_of_ble_eq_true rfl) (cL_charAt hLy d t ht i h M) (fun r M1 hq _ => ?_)
  obtain ⟨rfl, rfl, h3, h4⟩ := hq
  have he : narrow .char (.int (Int32.ofInt (ax_sg t i.toNat))) = .int (Int32.ofInt (ax_sg t i.toNat)) := by
    have : ∀ n : Nat, n ≤ 127 → narrow .char (.int (Int32.ofInt (n : Int))) = .int (Int32.ofInt (n : Int)) := by decide +kernel
    have h5 := this (ax_sg t i.toNat).toNat (by omega)
    rw [Int.toNat_of_nonneg h2.2.1] at h5
    exact h5
  exact ax_tret (by decide +kernel) rfl he ⟨rfl, rfl, h3, h4⟩
theorem cL_canEncode (hLy : ax_lay L) (d : Nat) (x : Int) (M : ax_M) : ax_Met L gL_canEncode (d + 0) [(0, 0, x)] M (ax_qi 0 1 M (if 0 ≤ x ∧ x ≤ 255 then 1 else 0)) := by
  refine ax_body (by decide) (fun X => Nat.le_of_ble_eq_true rfl) (fun hok => ?_)
  show ax_W L gL_canEncode (d + 0) 0 [(0, (0, 0, x))] [] M _
  refine ax_lump hLy ok_kL [(0, .iload_n 0, 1, 0, 0, 0)] (pc' := 1) (lc' := [(0, (0, 0, x))]) (st' := [(0, 0, x)]) (M' := M) (C' := True) (by decide +kernel) rfl trivial ?_
  have hno : ¬ (0 ≤ x ∧ x ≤ 255) → ax_W L gL_canEncode (d + 0) 15 [(0, (0, 0, x))] [] M (ax_qi 0 1 M (if 0 ≤ x ∧ x ≤ 255 then 1 else 0)) := by
    intro h
    rw [if_neg h]
    refine ax_lump hLy ok_kL [(15, .iconst 0, 1, 0, 0, 0)] (pc' := 16) (lc' := [(0, (0, 0, x))]) (st' := [(0, 0, 0)]) (M' := M) (C' := True) (by decide +kernel) rfl trivial ?_
    exact ax_zret (by decide +kernel) rfl ⟨by decide, by decide⟩ ⟨rfl, rfl, by decide, by decide⟩
  refine ax_if_lt (off := 14) (tgt := 15) (by decide +kernel) (by decide) (fun h1 => hno (by omega)) (fun h1 => ?_)
  refine ax_lump hLy ok_kL [(4, .iload_n 0, 1, 0, 0, 0), (5, .sipush 255, 3, 0, 0, 0)] (pc' := 8) (lc' := [(0, (0, 0, x))]) (st' := [(0, 0, 255), (0, 0, x)]) (M' := M) (C' := True) (by decide +kernel) rfl trivial ?_
  refine ax_icmp_gt (off := 7) (tgt := 15) (by decide +kernel) (by decide) (fun h2 => hno (by omega)) (fun h2 => ?_)
  rw [if_pos (show 0 ≤ x ∧ x ≤ 255 by omega)]
  refine ax_lump hLy ok_kL [(11, .iconst 1, 1, 0, 0, 0), (12, .goto 4, 3, 16, 0, 0)] (pc' := 16) (lc' := [(0, (0, 0, x))]) (st' := [(0, 0, 1)]) (M' := M) (C' := True) (by decide +kernel) rfl trivial ?_
  exact ax_zret (by decide +kernel) rfl ⟨by decide, by decide⟩ ⟨rfl, rfl, by decide, by decide⟩
theorem wL_indexOfChar (hLy : ax_lay L) (d : Nat) (t : Nat) (ht : t < 6) (x c : Int) (M : ax_M) : ∀ (n j : Nat), j + n = ax_ln t → ax_W L gL_indexOfChar (d + 0) 7 [(5, (0, 0, (j : Int))), (4, (0, 0, c)), (0, (7, 1000 + t, 0)), (1, (0, 0, x)), (2, (0, 0, 0)), (3, (0, 0, (ax_ln t : Int)))] [] M (ax_qi (-1) 6 M (ax_ixN t c n j)) := by
  have h6 := (ax_ln_eq t ht).2
  intro n
  induction n with
  | zero =>
    intro j hj
    refine ax_lump hLy ok_kL [(7, .iload 5, 2, 0, 0, 0), (9, .iload_n 3, 1, 0, 0, 0)] (pc' := 10) (lc' := [(5, (0, 0, (j : Int))), (4, (0, 0, c)), (0, (7, 1000 + t, 0)), (1, (0, 0, x)), (2, (0, 0, 0)), (3, (0, 0, (ax_ln t : Int)))]) (st' := [(0, 0, (ax_ln t : Int)), (0, 0, (j : Int))]) (M' := M) (C' := True) (by decide +kernel) rfl trivial ?_
    refine ax_icmp_ge (off := 21) (tgt := 31) (by decide +kernel) (by decide) (fun _ => ?_) (fun h => absurd (show (j : Int) ≥ (ax_ln t : Int) by omega) h)
    refine ax_lump hLy ok_kL [(31, .iconst (-1), 1, 0, 0, 0)] (pc' := 32) (lc' := [(5, (0, 0, (j : Int))), (4, (0, 0, c)), (0, (7, 1000 + t, 0)), (1, (0, 0, x)), (2, (0, 0, 0)), (3, (0, 0, (ax_ln t : Int)))]) (st' := [(0, 0, -1)]) (M' := M) (C' := True) (by decide +kernel) rfl trivial ?_
    exact ax_iret (by decide +kernel) rfl ⟨rfl, rfl, (show (-1 : Int) ≤ -1 by decide), (show (-1 : Int) ≤ 6 by decide)⟩
  | succ n ih =>
    intro j hj
    refine ax_lump hLy ok_kL [(7, .iload 5, 2, 0, 0, 0), (9, .iload_n 3, 1, 0, 0, 0)] (pc' := 10) (lc' := [(5, (0, 0, (j : Int))), (4, (0, 0, c)), (0, (7, 1000 + t, 0)), (1, (0, 0, x)), (2, (0, 0, 0)), (3, (0, 0, (ax_ln t : Int)))]) (st' := [(0, 0, (ax_ln t : Int)), (0, 0, (j : Int))]) (M' := M) (C' := True) (by decide +kernel) rfl trivial ?_
    refine ax_icmp_ge (off := 21) (tgt := 31) (by decide +kernel) (by decide) (fun h => absurd h (by omega)) (fun _ => ?_)
    refine ax_lump hLy ok_kL [(13, .aload_n 0, 1, 0, 0, 0), (14, .iload 5, 2, 0, 0, 0)] (pc' := 16) (lc' := [(5, (0, 0, (j : Int))), (4, (0, 0, c)), (0, (7, 1000 + t, 0)), (1, (0, 0, x)), (2, (0, 0, 0)), (3, (0, 0, (ax_ln t : Int)))]) (st' := [(0, 0, (j : Int)), (7, 1000 + t, 0)]) (M' := M) (C' := True) (by decide +kernel) rfl trivial ?_
    refine ax_bld (by decide +kernel) ht ⟨by omega, by omega⟩ ?_
    rw [show ((j : Int)).toNat = j from rfl]
    refine ax_lump hLy ok_kL [(17, .iload 4, 2, 0, 0, 0)] (pc' := 19) (lc' := [(5, (0, 0, (j : Int))), (4, (0, 0, c)), (0, (7, 1000 + t, 0)), (1, (0, 0, x)), (2, (0, 0, 0)), (3, (0, 0, (ax_ln t : Int)))]) (st' := [(0, 0, c), (0, 0, ax_sg t j)]) (M' := M) (C' := True) (by decide +kernel) rfl trivial ?_
    refine ax_icmp_ne (off := 6) (tgt := 25) (by decide +kernel) (by decide) (fun h => ?_) (fun h => ?_)
    · refine ax_lump hLy ok_kL [(25, .iinc 5 1, 3, 1, 0, 0), (28, .goto (-21), 3, 7, 0, 0)] (pc' := 7) (lc' := [(5, (0, 0, (j : Int) + 1)), (4, (0, 0, c)), (0, (7, 1000 + t, 0)), (1, (0, 0, x)), (2, (0, 0, 0)), (3, (0, 0, (ax_ln t : Int)))]) (st' := []) (M' := M) (C' := (True ∧ ax_r32 ((j : Int) + 1))) (by decide +kernel) rfl ⟨trivial, by unfold ax_r32; omega⟩ ?_
      rw [ax_ixN, if_neg h]
      exact ih (j + 1) (by omega)
    · rw [ax_ixN, if_pos (Decidable.not_not.mp h)]
      refine ax_lump hLy ok_kL [(22, .iload 5, 2, 0, 0, 0)] (pc' := 24) (lc' := [(5, (0, 0, (j : Int))), (4, (0, 0, c)), (0, (7, 1000 + t, 0)), (1, (0, 0, x)), (2, (0, 0, 0)), (3, (0, 0, (ax_ln t : Int)))]) (st' := [(0, 0, (j : Int))]) (M' := M) (C' := True) (by decide +kernel) rfl trivial ?_
      exact ax_iret (by decide +kernel) rfl ⟨rfl, rfl, by omega, by omega⟩
theorem cL_indexOfChar (hLy : ax_lay L) (d : Nat) (t : Nat) (ht : t < 6) (x : Int) (M : ax_M) : ax_Met L gL_indexOfChar (d + 0) [(7, 1000 + t, 0), (0, 0, x), (0, 0, 0), (0, 0, (ax_ln t : Int))] M (ax_qi (-1) 6 M (ax_ixN t (ax_i2b x) (ax_ln t) 0)) := by
  refine ax_body (by decide) (fun X => Nat.le_of_ble_eq_true rfl) (fun hok => ?_)
  show ax_W L gL_indexOfChar (d + 0) 0 [(0, (7, 1000 + t, 0)), (1, (0, 0, x)), (2, (0, 0, 0)), (3, (0, 0, (ax_ln t : Int)))] [] M _
  refine ax_lump hLy ok_kL [(0, .iload_n 1, 1, 0, 0, 0), (1, .i2b, 1, 0, 0, 0), (2, .istore 4, 2, 0, 0, 0), (4, .iload_n 2, 1, 0, 0, 0), (5, .istore 5, 2, 0, 0, 0)] (pc' := 7) (lc' := [(5, (0, 0, 0)), (4, (0, 0, ax_i2b x)), (0, (7, 1000 + t, 0)), (1, (0, 0, x)), (2, (0, 0, 0)), (3, (0, 0, (ax_ln t : Int)))]) (st' := []) (M' := M) (C' := True) (by decide +kernel) rfl trivial ?_
  exact wL_indexOfChar hLy d t ht x (ax_i2b x) M (ax_ln t) 0 (by omega)
theorem cL_indexOf (hLy : ax_lay L) (d : Nat) (t : Nat) (ht : t < 6) (x : Int) (M : ax_M) : ax_Met L gL_indexOf (d + 1) [(7, 1000 + t, 0), (0, 0, x), (0, 0, 0), (0, 0, (ax_ln t : Int))] M (ax_qi (-1) 6 M (ax_ix t x)) := by
  have h6 := (ax_ln_eq t ht).2
  have h0 := ax_ln_pos t ht
  refine ax_body (by decide) (fun X => Nat.le_of_ble_eq_true rfl) (fun hok => ?_)
  show ax_W L gL_indexOf (d + 1) 0 [(0, (7, 1000 + t, 0)), (1, (0, 0, x)), (2, (0, 0, 0)), (3, (0, 0, (ax_ln t : Int)))] [] M _
  unfold ax_ix
  refine ax_lump hLy ok_kL [(0, .iload_n 1, 1, 0, 0, 0)] (pc' := 1) (lc' := [(0, (7, 1000 + t, 0)), (1, (0, 0, x)), (2, (0, 0, 0)), (3, (0, 0, (ax_ln t : Int)))]) (st' := [(0, 0, x)]) (M' := M) (C' := True) (by decide +kernel) rfl trivial ?_
  refine ax_callS (G1 := gL_canEncode) (d1 := d + 0) (i := 88) (n := 1) (as := [(0, 0, x)]) (st := []) (by decide +kernel) cal_gL_canEncode (by omega) rfl wt_259 wt_260 (Nat.le_of_ble_eq_true rfl) (cL_canEncode hLy d x M) (fun r M1 hq _ => ?_)
  obtain ⟨rfl, rfl, -, -⟩ := hq
  by_cases hx : 0 ≤ x ∧ x ≤ 255
  · rw [if_pos hx, if_pos hx]
    refine ax_if_ne (off := 5) (tgt := 9) (by decide +kernel) (by decide) (fun _ => ?_) (fun h => absurd (show (1 : Int) ≠ 0 by decide) h)
    refine ax_lump hLy ok_kL [(9, .iload_n 2, 1, 0, 0, 0), (10, .iconst 0, 1, 0, 0, 0)] (pc' := 11) (lc' := [(0, (7, 1000 + t, 0)), (1, (0, 0, x)), (2, (0, 0, 0)), (3, (0, 0, (ax_ln t : Int)))]) (st' := [(0, 0, 0), (0, 0, 0)]) (M' := M1) (C' := True) (by decide +kernel) rfl trivial ?_
    refine ax_mmax (i := 92) (by decide +kernel) (by omega) (Nat.le_of_ble_eq_true rfl) wt_262 wt_263 wt_8 wt_264 ?_
    refine ax_lump hLy ok_kL [(14, .istore_n 2, 1, 0, 0, 0), (15, .iload_n 3, 1, 0, 0, 0), (16, .aload_n 0, 1, 0, 0, 0)] (pc' := 17) (lc' := [(2, (0, 0, 0)), (0, (7, 1000 + t, 0)), (1, (0, 0, x)), (3, (0, 0, (ax_ln t : Int)))]) (st' := [(7, 1000 + t, 0), (0, 0, (ax_ln t : Int))]) (M' := M1) (C' := True) (by decide +kernel) rfl trivial ?_
    refine ax_blen (by decide +kernel) ht ?_
    refine ax_mmin (i := 38) (by decide +kernel) (by omega) (Nat.le_of_ble_eq_true rfl) wt_265 wt_266 wt_8 wt_267 ?_
    rw [show (if (ax_ln t : Int) < (ax_ln t : Int) then (ax_ln t : Int) else (ax_ln t : Int)) = (ax_ln t : Int) by split <;> rfl]
    refine ax_lump hLy ok_kL [(21, .istore_n 3, 1, 0, 0, 0), (22, .iload_n 2, 1, 0, 0, 0), (23, .iload_n 3, 1, 0, 0, 0)] (pc' := 24) (lc' := [(3, (0, 0, (ax_ln t : Int))), (2, (0, 0, 0)), (0, (7, 1000 + t, 0)), (1, (0, 0, x))]) (st' := [(0, 0, (ax_ln t : Int)), (0, 0, 0)]) (M' := M1) (C' := True) (by decide +kernel) rfl trivial ?_
    refine ax_icmp_lt (off := 5) (tgt := 29) (by decide +kernel) (by decide) (fun _ => ?_) (fun h => absurd (show (0 : Int) < (ax_ln t : Int) by omega) h)
    refine ax_lump hLy ok_kL [(29, .aload_n 0, 1, 0, 0, 0), (30, .iload_n 1, 1, 0, 0, 0), (31, .iload_n 2, 1, 0, 0, 0), (32, .iload_n 3, 1, 0, 0, 0)] (pc' := 33) (lc' := [(3, (0, 0, (ax_ln t : Int))), (2, (0, 0, 0)), (0, (7, 1000 + t, 0)), (1, (0, 0, x))]) (st' := [(0, 0, (ax_ln t : Int)), (0, 0, 0), (0, 0, x), (7, 1000 + t, 0)]) (M' := M1) (C' := True) (by decide +kernel) rfl trivial ?_
    refine ax_callS (G1 := gL_indexOfChar) (d1 := d + 0) (i := 95) (n := 4) (as := [(7, 1000 + t, 0), (0, 0, x), (0, 0, 0), (0, 0, (ax_ln t : Int))]) (st := []) (by decide +kernel) cal_gL_indexOfChar (by omega) rfl wt_268 wt_269 (Nat.le_of_ble_eq_true rfl) (cL_indexOfChar hLy d t ht x M1) (fun r M2 hq _ => ?_)
    obtain ⟨rfl, rfl, h3, h4⟩ := hq
    exact ax_iret (by decide +kernel) rfl ⟨rfl, rfl, h3, h4⟩
  · rw [if_neg hx, if_neg hx]
    refine ax_if_ne (off := 5) (tgt := 9) (by decide +kernel) (by decide) (fun h => absurd rfl h) (fun _ => ?_)
    refine ax_lump hLy ok_kL [(7, .iconst (-1), 1, 0, 0, 0)] (pc' := 8) (lc' := [(0, (7, 1000 + t, 0)), (1, (0, 0, x)), (2, (0, 0, 0)), (3, (0, 0, (ax_ln t : Int)))]) (st' := [(0, 0, -1)]) (M' := M1) (C' := True) (by decide +kernel) rfl trivial ?_
    exact ax_iret (by decide +kernel) rfl ⟨rfl, rfl, by decide, by decide⟩
theorem cS_indexOf2 (hLy : ax_lay L) (d : Nat) (t : Nat) (ht : t < 6) (x : Int) (M : ax_M) : ax_Met L gS_indexOf2 (d + 2) [(7, t, 0), (0, 0, x), (0, 0, 0)] M (ax_qi (-1) 6 M (ax_ix t x)) := by
  refine ax_body (by decide) (fun X => Nat.le_of_ble_eq_true rfl) (fun hok => ?_)
  show ax_W L gS_indexOf2 (d + 2) 0 [(0, (7, t, 0)), (1, (0, 0, x)), (2, (0, 0, 0))] [] M _
  refine ax_lump hLy ok_kS [(0, .aload_n 0, 1, 0, 0, 0)] (pc' := 1) (lc' := [(0, (7, t, 0)), (1, (0, 0, x)), (2, (0, 0, 0))]) (st' := [(7, t, 0)]) (M' := M) (C' := True) (by decide +kernel) rfl trivial ?_
  refine ax_cTi (G1 := gS_isLatin1) (d1 := d + 0) (i := 492) (n := 0) (as := []) (st := []) (by decide +kernel) ht cal_gS_isLatin1 (by omega) rfl wt_242 wt_243 wt_244 (Nat.le_of_ble_eq_true rfl) rfl (cS_isLatin1 hLy d t ht M) (fun _ => ?_)
  refine ax_if_eq (off := 19) (tgt := 23) (by decide +kernel) (by decide) (fun h => absurd h (by decide)) (fun _ => ?_)
  refine ax_lump hLy ok_kS [(7, .aload_n 0, 1, 0, 0, 0)] (pc' := 8) (lc' := [(0, (7, t, 0)), (1, (0, 0, x)), (2, (0, 0, 0))]) (st' := [(7, t, 0)]) (M' := M) (C' := True) (by decide +kernel) rfl trivial ?_
  refine ax_strV (i := 9) (by decide +kernel) ht wt_1510 ?_
  refine ax_lump hLy ok_kS [(11, .iload_n 1, 1, 0, 0, 0), (12, .iload_n 2, 1, 0, 0, 0), (13, .aload_n 0, 1, 0, 0, 0)] (pc' := 14) (lc' := [(0, (7, t, 0)), (1, (0, 0, x)), (2, (0, 0, 0))]) (st' := [(7, t, 0), (0, 0, 0), (0, 0, x), (7, 1000 + t, 0)]) (M' := M) (C' := True) (by decide +kernel) rfl trivial ?_
  refine ax_cTi (G1 := gS_length) (d1 := d + 1) (i := 505) (n := 0) (as := []) (st := [(0, 0, 0), (0, 0, x), (7, 1000 + t, 0)]) (by decide +kernel) ht cal_gS_length (by omega) rfl wt_248 wt_249 wt_250 (Nat.le_of_ble_eq_true rfl) rfl (cS_length hLy d t ht M) (fun _ => ?_)
  refine ax_callS (G1 := gL_indexOf) (d1 := d + 1) (i := 637) (n := 4) (as := [(7, 1000 + t, 0), (0, 0, x), (0, 0, 0), (0, 0, (ax_ln t : Int))]) (st := []) (by decide +kernel) cal_gL_indexOf (by omega) rfl wt_256 wt_257 (Nat.le_of_ble_eq_true rfl) (cL_indexOf hLy d t ht x M) (fun r M1 hq _ => ?_)
  obtain ⟨rfl, rfl, h3, h4⟩ := hq
  refine ax_lump hLy ok_kS [(20, .goto 16, 3, 36, 0, 0)] (pc' := 36) (lc' := [(0, (7, t, 0)), (1, (0, 0, x)), (2, (0, 0, 0))]) (st' := [(0, 0, ax_ix t x)]) (M' := M1) (C' := True) (by decide +kernel) rfl trivial ?_
  exact ax_iret (by decide +kernel) rfl ⟨rfl, rfl, h3, h4⟩
theorem cS_indexOf1 (hLy : ax_lay L) (d : Nat) (t : Nat) (ht : t < 6) (x : Int) (M : ax_M) : ax_Met L gS_indexOf1 (d + 3) [(7, t, 0), (0, 0, x)] M (ax_qi (-1) 6 M (ax_ix t x)) := by
  refine ax_body (by decide) (fun X => Nat.le_of_ble_eq_true rfl) (fun hok => ?_)
  show ax_W L gS_indexOf1 (d + 3) 0 [(0, (7, t, 0)), (1, (0, 0, x))] [] M _
  refine ax_lump hLy ok_kS [(0, .aload_n 0, 1, 0, 0, 0), (1, .iload_n 1, 1, 0, 0, 0), (2, .iconst 0, 1, 0, 0, 0)] (pc' := 3) (lc' := [(0, (7, t, 0)), (1, (0, 0, x))]) (st' := [(0, 0, 0), (0, 0, x), (7, t, 0)]) (M' := M) (C' := True) (by decide +kernel) rfl trivial ?_
  refine ax_cTi (G1 := gS_indexOf2) (d1 := d + 2) (i := 633) (n := 2) (as := [(0, 0, x), (0, 0, 0)]) (st := []) (by decide +kernel) ht cal_gS_indexOf2 (by omega) rfl wt_238 wt_239 wt_240 (Nat.le_of_ble_eq_true rfl) rfl (cS_indexOf2 hLy d t ht x M) (fun h => ?_)
  exact ax_iret (by decide +kernel) rfl ⟨rfl, rfl, h.1, h.2⟩
end AXTM
