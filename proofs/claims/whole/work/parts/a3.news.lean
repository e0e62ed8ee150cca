/-! ===== the constructors ===== -/
def lx_LR : ax_L := [(2, 1), (3, 40), (3, 40)]
def lx_LF : ax_L := [(2, 0), (3, 64), (3, 64), (3, 64), (3, 16), (3, 16), (3, 16), (3, 24), (3, 3), (3, 7), (3, 7), (3, 6)]
def m0_R : ax_M := fun k i => if k = 0 then [0, 3, 0, 0, 1, 0, 0, 0].getD i 0 else if k = 1 then (if i = 2 then 2062 else if i = 1 then 4 else if i = 0 then 1000 else 0) else 0
def m0_F : ax_M := fun k i => if k = 0 then [0, 0, 0, 0, 0, 0, 0, 0, 0, 0, 0, 0, 1073741824].getD i 0 else if k = 1 then m0_fill 0 i else if k = 8 then (if i = 2 then 3 else if i = 1 then 1 else if i = 0 then 2 else 0) else 0
def m0_C : ax_M := fun k i => if k = 0 then [0, 0, 0, 0, 0, 0, 0, 28, 31].getD i 0 else if k < 13 then m0_F (k - 1) i else if k < 25 then m0_F (k - 13) i else if k < 28 then 0 else if k < 31 then m0_R (k - 28) i else if k < 34 then m0_R (k - 31) i else 0
def m0_M : ax_M := fun k i => if k = 7 then (if i = 273 then 3 else if i = 272 then 1 else if i = 271 then 2 else 0) else 0
theorem u0_R : upd (upd (upd (fun _ => Int32.ofInt 0) (Int32.ofInt 0).toNatClampNeg (Int32.ofInt 1000)) (Int32.ofInt 1).toNatClampNeg (Int32.ofInt 4)) (Int32.ofInt 2).toNatClampNeg (Int32.ofInt 2062) = fun i => Int32.ofInt (m0_R 1 i) := by
  have e0 : (Int32.ofInt 0).toNatClampNeg = 0 := by decide
  have e1 : (Int32.ofInt 1).toNatClampNeg = 1 := by decide
  have e2 : (Int32.ofInt 2).toNatClampNeg = 2 := by decide
  rw [e0, e1, e2]
  funext i
  unfold upd m0_R
  rw [if_neg (show ¬ (1 : Nat) = 0 by decide), if_pos rfl]
  repeat' split
  all_goals rfl
theorem u0_F : upd (upd (upd (fun _ => Int32.ofInt 0) (Int32.ofInt 0).toNatClampNeg (Int32.ofInt 2)) (Int32.ofInt 1).toNatClampNeg (Int32.ofInt 1)) (Int32.ofInt 2).toNatClampNeg (Int32.ofInt 3) = fun i => Int32.ofInt (m0_F 8 i) := by
  have e0 : (Int32.ofInt 0).toNatClampNeg = 0 := by decide
  have e1 : (Int32.ofInt 1).toNatClampNeg = 1 := by decide
  have e2 : (Int32.ofInt 2).toNatClampNeg = 2 := by decide
  rw [e0, e1, e2]
  funext i
  unfold upd m0_F
  rw [if_neg (show ¬ (8 : Nat) = 0 by decide), if_neg (show ¬ (8 : Nat) = 1 by decide), if_pos rfl]
  repeat' split
  all_goals rfl
theorem u0_M : upd (upd (upd (fun _ => Int32.ofInt 0) (Int32.ofInt 271).toNatClampNeg (Int32.ofInt 2)) (Int32.ofInt 272).toNatClampNeg (Int32.ofInt 1)) (Int32.ofInt 273).toNatClampNeg (Int32.ofInt 3) = fun i => Int32.ofInt (m0_M 7 i) := by
  have e0 : (Int32.ofInt 271).toNatClampNeg = 271 := by decide
  have e1 : (Int32.ofInt 272).toNatClampNeg = 272 := by decide
  have e2 : (Int32.ofInt 273).toNatClampNeg = 273 := by decide
  rw [e0, e1, e2]
  funext i
  unfold upd m0_M
  rw [if_pos rfl]
  repeat' split
  all_goals rfl
abbrev z0 : Value := .int (Int32.ofInt 0)
theorem nt_2 : (Jvm.Cond.initialized "FlashFolio$Flash") ∈ ax_T := ax_T_mem (lw_in 2 (by decide +kernel)) (by decide +kernel)
theorem nt_4 : (Jvm.Cond.initialized "FlashFolio$Rule") ∈ ax_T := ax_T_mem (lw_in 4 (by decide +kernel)) (by decide +kernel)
theorem nt_23 : (Jvm.Cond.methodLink "FlashFolio" (3 : Nat) ({ cls := "java/lang/Object", name := "<init>", desc := "()V" } : Jvm.MethodName)) ∈ ax_T := ax_T_mem (lw_in 23 (by decide +kernel)) (by decide +kernel)
theorem nt_24 : (Jvm.Cond.instanceMethod ({ cls := "java/lang/Object", name := "<init>", desc := "()V" } : Jvm.MethodName)) ∈ ax_T := ax_T_mem (lw_in 24 (by decide +kernel)) (by decide +kernel)
theorem nt_26 : (Jvm.Cond.classLink "FlashFolio" (9 : Nat) "FlashFolio$Flash") ∈ ax_T := ax_T_mem (lw_in 26 (by decide +kernel)) (by decide +kernel)
theorem nt_27 : (Jvm.Cond.instantiable "FlashFolio$Flash" (18 : Nat)) ∈ ax_T := ax_T_mem (lw_in 27 (by decide +kernel)) (by decide +kernel)
theorem nt_29 : (Jvm.Cond.instanceMethod ({ cls := "FlashFolio$Flash", name := "<init>", desc := "()V" } : Jvm.MethodName)) ∈ ax_T := ax_T_mem (lw_in 29 (by decide +kernel)) (by decide +kernel)
theorem nt_31 : (Jvm.Cond.methodLink "FlashFolio$Flash" (3 : Nat) ({ cls := "java/lang/Object", name := "<init>", desc := "()V" } : Jvm.MethodName)) ∈ ax_T := ax_T_mem (lw_in 31 (by decide +kernel)) (by decide +kernel)
theorem nt_36 : (Jvm.Cond.fieldLink "FlashFolio$Flash" (9 : Nat) "FlashFolio$Flash" "page" "[I") ∈ ax_T := ax_T_mem (lw_in 36 (by decide +kernel)) (by decide +kernel)
theorem nt_38 : (Jvm.Cond.fieldLink "FlashFolio$Flash" (15 : Nat) "FlashFolio$Flash" "value" "[I") ∈ ax_T := ax_T_mem (lw_in 38 (by decide +kernel)) (by decide +kernel)
theorem nt_40 : (Jvm.Cond.fieldLink "FlashFolio$Flash" (18 : Nat) "FlashFolio$Flash" "stamp" "[I") ∈ ax_T := ax_T_mem (lw_in 40 (by decide +kernel)) (by decide +kernel)
theorem nt_42 : (Jvm.Cond.fieldLink "FlashFolio$Flash" (21 : Nat) "FlashFolio$Flash" "kind" "[I") ∈ ax_T := ax_T_mem (lw_in 42 (by decide +kernel)) (by decide +kernel)
theorem nt_44 : (Jvm.Cond.fieldLink "FlashFolio$Flash" (24 : Nat) "FlashFolio$Flash" "owner" "[I") ∈ ax_T := ax_T_mem (lw_in 44 (by decide +kernel)) (by decide +kernel)
theorem nt_46 : (Jvm.Cond.fieldLink "FlashFolio$Flash" (27 : Nat) "FlashFolio$Flash" "wipes" "[I") ∈ ax_T := ax_T_mem (lw_in 46 (by decide +kernel)) (by decide +kernel)
theorem nt_48 : (Jvm.Cond.fieldLink "FlashFolio$Flash" (30 : Nat) "FlashFolio$Flash" "warmth" "[I") ∈ ax_T := ax_T_mem (lw_in 48 (by decide +kernel)) (by decide +kernel)
theorem nt_50 : (Jvm.Cond.fieldLink "FlashFolio$Flash" (33 : Nat) "FlashFolio$Flash" "limit" "[I") ∈ ax_T := ax_T_mem (lw_in 50 (by decide +kernel)) (by decide +kernel)
theorem nt_52 : (Jvm.Cond.fieldLink "FlashFolio$Flash" (36 : Nat) "FlashFolio$Flash" "tally" "[I") ∈ ax_T := ax_T_mem (lw_in 52 (by decide +kernel)) (by decide +kernel)
theorem nt_54 : (Jvm.Cond.fieldLink "FlashFolio$Flash" (39 : Nat) "FlashFolio$Flash" "marked" "[I") ∈ ax_T := ax_T_mem (lw_in 54 (by decide +kernel)) (by decide +kernel)
theorem nt_55 : (Jvm.Cond.fieldLink "FlashFolio$Flash" (44 : Nat) "FlashFolio$Flash" "things" "[I") ∈ ax_T := ax_T_mem (lw_in 55 (by decide +kernel)) (by decide +kernel)
theorem nt_56 : (Jvm.Cond.fieldLink "FlashFolio$Flash" (47 : Nat) "FlashFolio$Flash" "steps" "I") ∈ ax_T := ax_T_mem (lw_in 56 (by decide +kernel)) (by decide +kernel)
theorem nt_58 : (Jvm.Cond.fieldLink "FlashFolio$Flash" (52 : Nat) "FlashFolio$Flash" "stepLimit" "I") ∈ ax_T := ax_T_mem (lw_in 58 (by decide +kernel)) (by decide +kernel)
theorem nt_60 : (Jvm.Cond.fieldLink "FlashFolio$Flash" (55 : Nat) "FlashFolio$Flash" "wipedNow" "Z") ∈ ax_T := ax_T_mem (lw_in 60 (by decide +kernel)) (by decide +kernel)
theorem nt_61 : (Jvm.Cond.fieldLink "FlashFolio$Flash" (59 : Nat) "FlashFolio$Flash" "wroteAt" "I") ∈ ax_T := ax_T_mem (lw_in 61 (by decide +kernel)) (by decide +kernel)
theorem nt_63 : (Jvm.Cond.fieldLink "FlashFolio$Flash" (62 : Nat) "FlashFolio$Flash" "wroteBy" "I") ∈ ax_T := ax_T_mem (lw_in 63 (by decide +kernel)) (by decide +kernel)
theorem nt_65 : (Jvm.Cond.fieldLink "FlashFolio$Flash" (65 : Nat) "FlashFolio$Flash" "levelled" "I") ∈ ax_T := ax_T_mem (lw_in 65 (by decide +kernel)) (by decide +kernel)
theorem nt_67 : (Jvm.Cond.fieldLink "FlashFolio$Flash" (68 : Nat) "FlashFolio$Flash" "levelledFrom" "I") ∈ ax_T := ax_T_mem (lw_in 67 (by decide +kernel)) (by decide +kernel)
theorem nt_106 : (Jvm.Cond.arrayClass Jvm.ClassFile.FieldType.int) ∈ ax_T := ax_T_mem (lw_in 106 (by decide +kernel)) (by decide +kernel)
theorem nt_107 : (Jvm.Cond.classLink "FlashFolio" (37 : Nat) "FlashFolio$Rule") ∈ ax_T := ax_T_mem (lw_in 107 (by decide +kernel)) (by decide +kernel)
theorem nt_108 : (Jvm.Cond.instantiable "FlashFolio$Rule" (8 : Nat)) ∈ ax_T := ax_T_mem (lw_in 108 (by decide +kernel)) (by decide +kernel)
theorem nt_110 : (Jvm.Cond.instanceMethod ({ cls := "FlashFolio$Rule", name := "<init>", desc := "()V" } : Jvm.MethodName)) ∈ ax_T := ax_T_mem (lw_in 110 (by decide +kernel)) (by decide +kernel)
theorem nt_112 : (Jvm.Cond.methodLink "FlashFolio$Rule" (3 : Nat) ({ cls := "java/lang/Object", name := "<init>", desc := "()V" } : Jvm.MethodName)) ∈ ax_T := ax_T_mem (lw_in 112 (by decide +kernel)) (by decide +kernel)
theorem nt_113 : (Jvm.Cond.fieldLink "FlashFolio$Rule" (11 : Nat) "FlashFolio$Rule" "code" "[I") ∈ ax_T := ax_T_mem (lw_in 113 (by decide +kernel)) (by decide +kernel)
theorem nt_114 : (Jvm.Cond.fieldLink "FlashFolio$Rule" (15 : Nat) "FlashFolio$Rule" "size" "I") ∈ ax_T := ax_T_mem (lw_in 114 (by decide +kernel)) (by decide +kernel)
theorem nt_115 : (Jvm.Cond.fieldLink "FlashFolio$Rule" (19 : Nat) "FlashFolio$Rule" "stack" "[I") ∈ ax_T := ax_T_mem (lw_in 115 (by decide +kernel)) (by decide +kernel)
theorem nt_116 : (Jvm.Cond.fieldLink "FlashFolio$Rule" (22 : Nat) "FlashFolio$Rule" "height" "I") ∈ ax_T := ax_T_mem (lw_in 116 (by decide +kernel)) (by decide +kernel)
theorem nt_117 : (Jvm.Cond.fieldLink "FlashFolio$Rule" (25 : Nat) "FlashFolio$Rule" "wantsThing" "Z") ∈ ax_T := ax_T_mem (lw_in 117 (by decide +kernel)) (by decide +kernel)
theorem nt_118 : (Jvm.Cond.fieldLink "FlashFolio$Rule" (29 : Nat) "FlashFolio$Rule" "depth" "I") ∈ ax_T := ax_T_mem (lw_in 118 (by decide +kernel)) (by decide +kernel)
theorem nt_119 : (Jvm.Cond.fieldLink "FlashFolio$Rule" (32 : Nat) "FlashFolio$Rule" "compared" "I") ∈ ax_T := ax_T_mem (lw_in 119 (by decide +kernel)) (by decide +kernel)
theorem nt_120 : (Jvm.Cond.fieldLink "FlashFolio$Rule" (35 : Nat) "FlashFolio$Rule" "digits" "I") ∈ ax_T := ax_T_mem (lw_in 120 (by decide +kernel)) (by decide +kernel)
theorem nt_138 : (Jvm.Cond.arrayClass Jvm.ClassFile.FieldType.boolean) ∈ ax_T := ax_T_mem (lw_in 138 (by decide +kernel)) (by decide +kernel)
theorem nt_139 : (Jvm.Cond.fieldLink "FlashFolio" (12 : Nat) "FlashFolio" "now" "LFlashFolio$Flash;") ∈ ax_T := ax_T_mem (lw_in 139 (by decide +kernel)) (by decide +kernel)
theorem nt_140 : (Jvm.Cond.fieldLink "FlashFolio" (16 : Nat) "FlashFolio" "trial" "LFlashFolio$Flash;") ∈ ax_T := ax_T_mem (lw_in 140 (by decide +kernel)) (by decide +kernel)
theorem nt_141 : (Jvm.Cond.fieldLink "FlashFolio" (19 : Nat) "FlashFolio" "past" "[I") ∈ ax_T := ax_T_mem (lw_in 141 (by decide +kernel)) (by decide +kernel)
theorem nt_142 : (Jvm.Cond.fieldLink "FlashFolio" (23 : Nat) "FlashFolio" "pastFirst" "I") ∈ ax_T := ax_T_mem (lw_in 142 (by decide +kernel)) (by decide +kernel)
theorem nt_143 : (Jvm.Cond.fieldLink "FlashFolio" (27 : Nat) "FlashFolio" "pastSize" "I") ∈ ax_T := ax_T_mem (lw_in 143 (by decide +kernel)) (by decide +kernel)
theorem nt_144 : (Jvm.Cond.fieldLink "FlashFolio" (30 : Nat) "FlashFolio" "kept" "[I") ∈ ax_T := ax_T_mem (lw_in 144 (by decide +kernel)) (by decide +kernel)
theorem nt_145 : (Jvm.Cond.fieldLink "FlashFolio" (33 : Nat) "FlashFolio" "isKept" "[Z") ∈ ax_T := ax_T_mem (lw_in 145 (by decide +kernel)) (by decide +kernel)
theorem nt_146 : (Jvm.Cond.fieldLink "FlashFolio" (40 : Nat) "FlashFolio" "ruling" "LFlashFolio$Rule;") ∈ ax_T := ax_T_mem (lw_in 146 (by decide +kernel)) (by decide +kernel)
theorem nt_147 : (Jvm.Cond.fieldLink "FlashFolio" (44 : Nat) "FlashFolio" "otherRule" "LFlashFolio$Rule;") ∈ ax_T := ax_T_mem (lw_in 147 (by decide +kernel)) (by decide +kernel)
theorem nt_148 : (Jvm.Cond.fieldLink "FlashFolio" (47 : Nat) "FlashFolio" "text" "[C") ∈ ax_T := ax_T_mem (lw_in 148 (by decide +kernel)) (by decide +kernel)
theorem nt_149 : (Jvm.Cond.fieldLink "FlashFolio" (51 : Nat) "FlashFolio" "textSize" "I") ∈ ax_T := ax_T_mem (lw_in 149 (by decide +kernel)) (by decide +kernel)
theorem nt_150 : (Jvm.Cond.fieldLink "FlashFolio" (54 : Nat) "FlashFolio" "told" "[J") ∈ ax_T := ax_T_mem (lw_in 150 (by decide +kernel)) (by decide +kernel)
theorem nt_151 : (Jvm.Cond.fieldLink "FlashFolio" (58 : Nat) "FlashFolio" "toldSize" "I") ∈ ax_T := ax_T_mem (lw_in 151 (by decide +kernel)) (by decide +kernel)
theorem nt_152 : (Jvm.Cond.fieldLink "FlashFolio" (61 : Nat) "FlashFolio" "heardWhat" "[I") ∈ ax_T := ax_T_mem (lw_in 152 (by decide +kernel)) (by decide +kernel)
theorem nt_153 : (Jvm.Cond.fieldLink "FlashFolio" (64 : Nat) "FlashFolio" "heardV" "[I") ∈ ax_T := ax_T_mem (lw_in 153 (by decide +kernel)) (by decide +kernel)
theorem nt_154 : (Jvm.Cond.fieldLink "FlashFolio" (67 : Nat) "FlashFolio" "heardSize" "I") ∈ ax_T := ax_T_mem (lw_in 154 (by decide +kernel)) (by decide +kernel)
theorem nt_155 : (Jvm.Cond.fieldLink "FlashFolio" (70 : Nat) "FlashFolio" "drawn" "I") ∈ ax_T := ax_T_mem (lw_in 155 (by decide +kernel)) (by decide +kernel)
theorem nt_191 : (Jvm.Cond.arrayClass Jvm.ClassFile.FieldType.char) ∈ ax_T := ax_T_mem (lw_in 191 (by decide +kernel)) (by decide +kernel)
theorem nt_192 : (Jvm.Cond.arrayClass Jvm.ClassFile.FieldType.long) ∈ ax_T := ax_T_mem (lw_in 192 (by decide +kernel)) (by decide +kernel)
theorem nt_962 : (Jvm.Cond.methodLink "FlashFolioModel" (132 : Nat) ({ cls := "java/lang/Object", name := "<init>", desc := "()V" } : Jvm.MethodName)) ∈ ax_T := ax_T_mem (lw_in 962 (by decide +kernel)) (by decide +kernel)
theorem nt_965 : (Jvm.Cond.fieldLink "FlashFolioModel" (11 : Nat) "FlashFolioModel" "row" "[J") ∈ ax_T := ax_T_mem (lw_in 965 (by decide +kernel)) (by decide +kernel)
theorem nt_966 : (Jvm.Cond.fieldLink "FlashFolioModel" (21 : Nat) "FlashFolioModel" "tape" "[I") ∈ ax_T := ax_T_mem (lw_in 966 (by decide +kernel)) (by decide +kernel)
theorem nt_971 : (Jvm.Cond.fieldLink "FlashFolioModel" (112 : Nat) "FlashFolioModel" "code" "[I") ∈ ax_T := ax_T_mem (lw_in 971 (by decide +kernel)) (by decide +kernel)
theorem nt_972 : (Jvm.Cond.fieldLink "FlashFolioModel" (70 : Nat) "FlashFolioModel" "readCode" "[I") ∈ ax_T := ax_T_mem (lw_in 972 (by decide +kernel)) (by decide +kernel)
theorem nt_975 : (Jvm.Cond.fieldLink "FlashFolioModel" (122 : Nat) "FlashFolioModel" "stack" "[I") ∈ ax_T := ax_T_mem (lw_in 975 (by decide +kernel)) (by decide +kernel)
theorem nt_976 : (Jvm.Cond.fieldLink "FlashFolioModel" (129 : Nat) "FlashFolioModel" "asked" "[I") ∈ ax_T := ax_T_mem (lw_in 976 (by decide +kernel)) (by decide +kernel)
theorem nt_977 : (Jvm.Cond.fieldLink "FlashFolioModel" (138 : Nat) "FlashFolioModel" "now" "[I") ∈ ax_T := ax_T_mem (lw_in 977 (by decide +kernel)) (by decide +kernel)
theorem nt_978 : (Jvm.Cond.fieldLink "FlashFolioModel" (141 : Nat) "FlashFolioModel" "then" "[I") ∈ ax_T := ax_T_mem (lw_in 978 (by decide +kernel)) (by decide +kernel)
theorem nt_979 : (Jvm.Cond.fieldLink "FlashFolioModel" (144 : Nat) "FlashFolioModel" "stepAt" "[I") ∈ ax_T := ax_T_mem (lw_in 979 (by decide +kernel)) (by decide +kernel)
theorem nt_980 : (Jvm.Cond.fieldLink "FlashFolioModel" (147 : Nat) "FlashFolioModel" "stepPage" "[I") ∈ ax_T := ax_T_mem (lw_in 980 (by decide +kernel)) (by decide +kernel)
theorem nt_981 : (Jvm.Cond.fieldLink "FlashFolioModel" (150 : Nat) "FlashFolioModel" "stepValue" "[I") ∈ ax_T := ax_T_mem (lw_in 981 (by decide +kernel)) (by decide +kernel)
theorem nt_982 : (Jvm.Cond.fieldLink "FlashFolioModel" (153 : Nat) "FlashFolioModel" "stepStamp" "[I") ∈ ax_T := ax_T_mem (lw_in 982 (by decide +kernel)) (by decide +kernel)
theorem nt_988 : (Jvm.Cond.fieldLink "FlashFolioModel" (156 : Nat) "FlashFolioModel" "undone" "[I") ∈ ax_T := ax_T_mem (lw_in 988 (by decide +kernel)) (by decide +kernel)
theorem nt_991 : (Jvm.Cond.fieldLink "FlashFolioModel" (159 : Nat) "FlashFolioModel" "actSign" "[I") ∈ ax_T := ax_T_mem (lw_in 991 (by decide +kernel)) (by decide +kernel)
theorem nt_992 : (Jvm.Cond.fieldLink "FlashFolioModel" (162 : Nat) "FlashFolioModel" "actOne" "[I") ∈ ax_T := ax_T_mem (lw_in 992 (by decide +kernel)) (by decide +kernel)
theorem nt_993 : (Jvm.Cond.fieldLink "FlashFolioModel" (165 : Nat) "FlashFolioModel" "actTwo" "[I") ∈ ax_T := ax_T_mem (lw_in 993 (by decide +kernel)) (by decide +kernel)
theorem nt_996 : (Jvm.Cond.fieldLink "FlashFolioModel" (168 : Nat) "FlashFolioModel" "heardWhat" "[I") ∈ ax_T := ax_T_mem (lw_in 996 (by decide +kernel)) (by decide +kernel)
theorem nt_997 : (Jvm.Cond.fieldLink "FlashFolioModel" (171 : Nat) "FlashFolioModel" "heardOf" "[I") ∈ ax_T := ax_T_mem (lw_in 997 (by decide +kernel)) (by decide +kernel)
theorem nt_999 : (Jvm.Cond.fieldLink "FlashFolioModel" (174 : Nat) "FlashFolioModel" "wasCode" "[I") ∈ ax_T := ax_T_mem (lw_in 999 (by decide +kernel)) (by decide +kernel)
theorem nt_1000 : (Jvm.Cond.fieldLink "FlashFolioModel" (177 : Nat) "FlashFolioModel" "isKept" "[Z") ∈ ax_T := ax_T_mem (lw_in 1000 (by decide +kernel)) (by decide +kernel)
theorem nt_1001 : (Jvm.Cond.fieldLink "FlashFolioModel" (181 : Nat) "FlashFolioModel" "kept" "[I") ∈ ax_T := ax_T_mem (lw_in 1001 (by decide +kernel)) (by decide +kernel)
theorem nt_obj : Cond.code objectInit ⟨#[0xb1]⟩ 1 none ∈ ax_T := ax_T_mem (lw_in 25 (by decide +kernel)) (by decide +kernel)
theorem nt_ldc : Cond.constant "FlashFolio$Flash" 51 (Int32.ofInt 1073741824) ∈ ax_T := ax_T_mem (lw_in 32 (by decide +kernel)) (by decide +kernel)
