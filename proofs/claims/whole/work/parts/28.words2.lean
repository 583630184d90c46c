/-! more words of the tables -/
theorem tw_34 : (Jvm.Cond.methodLink "OrderlyNets" (1 : Nat) ({ cls := "java/lang/Object", name := "<init>", desc := "()V" } : Jvm.MethodName)) ∈ lw_good := lw_g1 34 rfl rfl
theorem tw_35 : (Jvm.Cond.instanceMethod ({ cls := "java/lang/Object", name := "<init>", desc := "()V" } : Jvm.MethodName)) ∈ lw_good := lw_g1 35 rfl rfl
theorem tw_36 : (Jvm.Cond.code ({ cls := "java/lang/Object", name := "<init>", desc := "()V" } : Jvm.MethodName) object_method_1_code (1 : Nat) (Option.none : Option Jvm.ClassFile.FieldType)) ∈ lw_good := lw_g1 36 rfl rfl
theorem tw_37 : (Jvm.Cond.classLink "OrderlyNets" (7 : Nat) "OrderlyNets$Tape") ∈ lw_good := lw_g1 37 rfl rfl
theorem tw_38 : (Jvm.Cond.instantiable "OrderlyNets$Tape" (5 : Nat)) ∈ lw_good := lw_g1 38 rfl rfl
theorem tw_39 : (Jvm.Cond.methodLinkNest "OrderlyNets" (9 : Nat) ({ cls := "OrderlyNets$Tape", name := "<init>", desc := "()V" } : Jvm.MethodName) "OrderlyNets") ∈ lw_nest := lw_n1 39 rfl rfl
theorem tw_40 : (Jvm.Cond.instanceMethod ({ cls := "OrderlyNets$Tape", name := "<init>", desc := "()V" } : Jvm.MethodName)) ∈ lw_good := lw_g1 40 rfl rfl
theorem tw_41 : (Jvm.Cond.code ({ cls := "OrderlyNets$Tape", name := "<init>", desc := "()V" } : Jvm.MethodName) prog_10_method_1_code (1 : Nat) (Option.none : Option Jvm.ClassFile.FieldType)) ∈ lw_good := lw_g1 41 rfl rfl
theorem tw_42 : (Jvm.Cond.methodLink "OrderlyNets$Tape" (3 : Nat) ({ cls := "java/lang/Object", name := "<init>", desc := "()V" } : Jvm.MethodName)) ∈ lw_good := lw_g1 42 rfl rfl
theorem tw_61 : (Jvm.Cond.arrayClass Jvm.ClassFile.FieldType.int) ∈ lw_good := lw_g1 61 rfl rfl
theorem tw_62 : (Jvm.Cond.classLink "OrderlyNets" (16 : Nat) "OrderlyNets$Rules") ∈ lw_good := lw_g1 62 rfl rfl
theorem tw_63 : (Jvm.Cond.instantiable "OrderlyNets$Rules" (15 : Nat)) ∈ lw_good := lw_g1 63 rfl rfl
theorem tw_64 : (Jvm.Cond.methodLink "OrderlyNets" (18 : Nat) ({ cls := "OrderlyNets$Rules", name := "<init>", desc := "()V" } : Jvm.MethodName)) ∈ lw_good := lw_g1 64 rfl rfl
theorem tw_65 : (Jvm.Cond.instanceMethod ({ cls := "OrderlyNets$Rules", name := "<init>", desc := "()V" } : Jvm.MethodName)) ∈ lw_good := lw_g1 65 rfl rfl
theorem tw_66 : (Jvm.Cond.code ({ cls := "OrderlyNets$Rules", name := "<init>", desc := "()V" } : Jvm.MethodName) prog_8_method_1_code (1 : Nat) (Option.none : Option Jvm.ClassFile.FieldType)) ∈ lw_good := lw_g1 66 rfl rfl
theorem tw_67 : (Jvm.Cond.methodLink "OrderlyNets$Rules" (3 : Nat) ({ cls := "java/lang/Object", name := "<init>", desc := "()V" } : Jvm.MethodName)) ∈ lw_good := lw_g1 67 rfl rfl
theorem tw_68 : (Jvm.Cond.methodLink "OrderlyNets$Rules" (18 : Nat) ({ cls := "OrderlyNets$Rules", name := "clear", desc := "()V" } : Jvm.MethodName)) ∈ lw_good := lw_g1 68 rfl rfl
theorem tw_135 : (Jvm.Cond.classLink "OrderlyNets" (29 : Nat) "OrderlyNets$Levels") ∈ lw_good := lw_g1 135 rfl rfl
theorem tw_136 : (Jvm.Cond.instantiable "OrderlyNets$Levels" (3 : Nat)) ∈ lw_good := lw_g1 136 rfl rfl
theorem tw_137 : (Jvm.Cond.methodLinkNest "OrderlyNets" (31 : Nat) ({ cls := "OrderlyNets$Levels", name := "<init>", desc := "()V" } : Jvm.MethodName) "OrderlyNets") ∈ lw_nest := lw_n1 137 rfl rfl
theorem tw_138 : (Jvm.Cond.instanceMethod ({ cls := "OrderlyNets$Levels", name := "<init>", desc := "()V" } : Jvm.MethodName)) ∈ lw_good := lw_g1 138 rfl rfl
theorem tw_139 : (Jvm.Cond.code ({ cls := "OrderlyNets$Levels", name := "<init>", desc := "()V" } : Jvm.MethodName) prog_5_method_1_code (1 : Nat) (Option.none : Option Jvm.ClassFile.FieldType)) ∈ lw_good := lw_g1 139 rfl rfl
theorem tw_140 : (Jvm.Cond.methodLink "OrderlyNets$Levels" (5 : Nat) ({ cls := "java/lang/Object", name := "<init>", desc := "()V" } : Jvm.MethodName)) ∈ lw_good := lw_g1 140 rfl rfl
theorem tw_151 : (Jvm.Cond.classLink "OrderlyNets" (39 : Nat) "OrderlyNets$Walkers") ∈ lw_good := lw_g1 151 rfl rfl
theorem tw_152 : (Jvm.Cond.instantiable "OrderlyNets$Walkers" (4 : Nat)) ∈ lw_good := lw_g1 152 rfl rfl
theorem tw_153 : (Jvm.Cond.methodLinkNest "OrderlyNets" (41 : Nat) ({ cls := "OrderlyNets$Walkers", name := "<init>", desc := "()V" } : Jvm.MethodName) "OrderlyNets") ∈ lw_nest := lw_n1 153 rfl rfl
theorem tw_154 : (Jvm.Cond.instanceMethod ({ cls := "OrderlyNets$Walkers", name := "<init>", desc := "()V" } : Jvm.MethodName)) ∈ lw_good := lw_g1 154 rfl rfl
theorem tw_155 : (Jvm.Cond.code ({ cls := "OrderlyNets$Walkers", name := "<init>", desc := "()V" } : Jvm.MethodName) prog_12_method_1_code (1 : Nat) (Option.none : Option Jvm.ClassFile.FieldType)) ∈ lw_good := lw_g1 155 rfl rfl
theorem tw_156 : (Jvm.Cond.methodLink "OrderlyNets$Walkers" (3 : Nat) ({ cls := "java/lang/Object", name := "<init>", desc := "()V" } : Jvm.MethodName)) ∈ lw_good := lw_g1 156 rfl rfl
theorem tw_170 : (Jvm.Cond.classLink "OrderlyNets" (49 : Nat) "OrderlyNets$Texts") ∈ lw_good := lw_g1 170 rfl rfl
theorem tw_171 : (Jvm.Cond.instantiable "OrderlyNets$Texts" (2 : Nat)) ∈ lw_good := lw_g1 171 rfl rfl
theorem tw_172 : (Jvm.Cond.methodLinkNest "OrderlyNets" (51 : Nat) ({ cls := "OrderlyNets$Texts", name := "<init>", desc := "()V" } : Jvm.MethodName) "OrderlyNets") ∈ lw_nest := lw_n1 172 rfl rfl
theorem tw_173 : (Jvm.Cond.instanceMethod ({ cls := "OrderlyNets$Texts", name := "<init>", desc := "()V" } : Jvm.MethodName)) ∈ lw_good := lw_g1 173 rfl rfl
theorem tw_174 : (Jvm.Cond.code ({ cls := "OrderlyNets$Texts", name := "<init>", desc := "()V" } : Jvm.MethodName) prog_11_method_1_code (1 : Nat) (Option.none : Option Jvm.ClassFile.FieldType)) ∈ lw_good := lw_g1 174 rfl rfl
theorem tw_175 : (Jvm.Cond.methodLink "OrderlyNets$Texts" (3 : Nat) ({ cls := "java/lang/Object", name := "<init>", desc := "()V" } : Jvm.MethodName)) ∈ lw_good := lw_g1 175 rfl rfl
theorem tw_185 : (Jvm.Cond.classLink "OrderlyNets" (56 : Nat) "OrderlyNets$Page") ∈ lw_good := lw_g1 185 rfl rfl
theorem tw_186 : (Jvm.Cond.instantiable "OrderlyNets$Page" (2 : Nat)) ∈ lw_good := lw_g1 186 rfl rfl
theorem tw_187 : (Jvm.Cond.methodLinkNest "OrderlyNets" (58 : Nat) ({ cls := "OrderlyNets$Page", name := "<init>", desc := "()V" } : Jvm.MethodName) "OrderlyNets") ∈ lw_nest := lw_n1 187 rfl rfl
theorem tw_188 : (Jvm.Cond.instanceMethod ({ cls := "OrderlyNets$Page", name := "<init>", desc := "()V" } : Jvm.MethodName)) ∈ lw_good := lw_g1 188 rfl rfl
theorem tw_189 : (Jvm.Cond.code ({ cls := "OrderlyNets$Page", name := "<init>", desc := "()V" } : Jvm.MethodName) prog_7_method_1_code (1 : Nat) (Option.none : Option Jvm.ClassFile.FieldType)) ∈ lw_good := lw_g1 189 rfl rfl
theorem tw_190 : (Jvm.Cond.methodLink "OrderlyNets$Page" (3 : Nat) ({ cls := "java/lang/Object", name := "<init>", desc := "()V" } : Jvm.MethodName)) ∈ lw_good := lw_g1 190 rfl rfl
theorem tw_199 : (Jvm.Cond.classLink "OrderlyNets" (63 : Nat) "OrderlyNets$Forms") ∈ lw_good := lw_g1 199 rfl rfl
theorem tw_200 : (Jvm.Cond.instantiable "OrderlyNets$Forms" (12 : Nat)) ∈ lw_good := lw_g1 200 rfl rfl
theorem tw_201 : (Jvm.Cond.methodLinkNest "OrderlyNets" (65 : Nat) ({ cls := "OrderlyNets$Forms", name := "<init>", desc := "()V" } : Jvm.MethodName) "OrderlyNets") ∈ lw_nest := lw_n1 201 rfl rfl
theorem tw_202 : (Jvm.Cond.instanceMethod ({ cls := "OrderlyNets$Forms", name := "<init>", desc := "()V" } : Jvm.MethodName)) ∈ lw_good := lw_g1 202 rfl rfl
theorem tw_203 : (Jvm.Cond.code ({ cls := "OrderlyNets$Forms", name := "<init>", desc := "()V" } : Jvm.MethodName) prog_4_method_1_code (1 : Nat) (Option.none : Option Jvm.ClassFile.FieldType)) ∈ lw_good := lw_g1 203 rfl rfl
theorem tw_204 : (Jvm.Cond.methodLink "OrderlyNets$Forms" (1 : Nat) ({ cls := "java/lang/Object", name := "<init>", desc := "()V" } : Jvm.MethodName)) ∈ lw_good := lw_g1 204 rfl rfl
theorem tw_205 : (Jvm.Cond.classLink "OrderlyNets$Forms" (7 : Nat) "OrderlyNets$Sketch") ∈ lw_good := lw_g1 205 rfl rfl
theorem tw_206 : (Jvm.Cond.instantiable "OrderlyNets$Sketch" (5 : Nat)) ∈ lw_good := lw_g1 206 rfl rfl
theorem tw_207 : (Jvm.Cond.methodLinkNest "OrderlyNets$Forms" (9 : Nat) ({ cls := "OrderlyNets$Sketch", name := "<init>", desc := "()V" } : Jvm.MethodName) "OrderlyNets") ∈ lw_nest := lw_n1 207 rfl rfl
theorem tw_208 : (Jvm.Cond.instanceMethod ({ cls := "OrderlyNets$Sketch", name := "<init>", desc := "()V" } : Jvm.MethodName)) ∈ lw_good := lw_g1 208 rfl rfl
theorem tw_209 : (Jvm.Cond.code ({ cls := "OrderlyNets$Sketch", name := "<init>", desc := "()V" } : Jvm.MethodName) prog_9_method_1_code (1 : Nat) (Option.none : Option Jvm.ClassFile.FieldType)) ∈ lw_good := lw_g1 209 rfl rfl
theorem tw_210 : (Jvm.Cond.methodLink "OrderlyNets$Sketch" (3 : Nat) ({ cls := "java/lang/Object", name := "<init>", desc := "()V" } : Jvm.MethodName)) ∈ lw_good := lw_g1 210 rfl rfl
theorem tw_232 : (Jvm.Cond.arrayClass Jvm.ClassFile.FieldType.long) ∈ lw_good := lw_g1 232 rfl rfl
theorem tw_274 : (Jvm.Cond.classLink "OrderlyNets" (73 : Nat) "OrderlyNets$Sketch") ∈ lw_good := lw_g2 34 rfl rfl
theorem tw_275 : (Jvm.Cond.methodLinkNest "OrderlyNets" (75 : Nat) ({ cls := "OrderlyNets$Sketch", name := "<init>", desc := "()V" } : Jvm.MethodName) "OrderlyNets") ∈ lw_nest := lw_n2 35 rfl rfl
theorem tw_276 : (Jvm.Cond.classLink "OrderlyNets" (80 : Nat) "OrderlyNets$Match") ∈ lw_good := lw_g2 36 rfl rfl
theorem tw_277 : (Jvm.Cond.instantiable "OrderlyNets$Match" (4 : Nat)) ∈ lw_good := lw_g2 37 rfl rfl
theorem tw_278 : (Jvm.Cond.methodLinkNest "OrderlyNets" (82 : Nat) ({ cls := "OrderlyNets$Match", name := "<init>", desc := "()V" } : Jvm.MethodName) "OrderlyNets") ∈ lw_nest := lw_n2 38 rfl rfl
theorem tw_279 : (Jvm.Cond.instanceMethod ({ cls := "OrderlyNets$Match", name := "<init>", desc := "()V" } : Jvm.MethodName)) ∈ lw_good := lw_g2 39 rfl rfl
theorem tw_280 : (Jvm.Cond.code ({ cls := "OrderlyNets$Match", name := "<init>", desc := "()V" } : Jvm.MethodName) prog_6_method_1_code (1 : Nat) (Option.none : Option Jvm.ClassFile.FieldType)) ∈ lw_good := lw_g2 40 rfl rfl
theorem tw_281 : (Jvm.Cond.methodLink "OrderlyNets$Match" (3 : Nat) ({ cls := "java/lang/Object", name := "<init>", desc := "()V" } : Jvm.MethodName)) ∈ lw_good := lw_g2 41 rfl rfl
theorem tw_282 : (Jvm.Cond.classLink "OrderlyNets$Match" (9 : Nat) "OrderlyNets$Sketch") ∈ lw_good := lw_g2 42 rfl rfl
theorem tw_283 : (Jvm.Cond.methodLinkNest "OrderlyNets$Match" (11 : Nat) ({ cls := "OrderlyNets$Sketch", name := "<init>", desc := "()V" } : Jvm.MethodName) "OrderlyNets") ∈ lw_nest := lw_n2 43 rfl rfl
theorem tw_297 : (Jvm.Cond.classLink "OrderlyNets" (87 : Nat) "OrderlyNets$Cycles") ∈ lw_good := lw_g2 57 rfl rfl
theorem tw_298 : (Jvm.Cond.instantiable "OrderlyNets$Cycles" (4 : Nat)) ∈ lw_good := lw_g2 58 rfl rfl
theorem tw_299 : (Jvm.Cond.methodLinkNest "OrderlyNets" (89 : Nat) ({ cls := "OrderlyNets$Cycles", name := "<init>", desc := "()V" } : Jvm.MethodName) "OrderlyNets") ∈ lw_nest := lw_n2 59 rfl rfl
theorem tw_300 : (Jvm.Cond.instanceMethod ({ cls := "OrderlyNets$Cycles", name := "<init>", desc := "()V" } : Jvm.MethodName)) ∈ lw_good := lw_g2 60 rfl rfl
theorem tw_301 : (Jvm.Cond.code ({ cls := "OrderlyNets$Cycles", name := "<init>", desc := "()V" } : Jvm.MethodName) prog_3_method_1_code (1 : Nat) (Option.none : Option Jvm.ClassFile.FieldType)) ∈ lw_good := lw_g2 61 rfl rfl
theorem tw_302 : (Jvm.Cond.methodLink "OrderlyNets$Cycles" (3 : Nat) ({ cls := "java/lang/Object", name := "<init>", desc := "()V" } : Jvm.MethodName)) ∈ lw_good := lw_g2 62 rfl rfl
theorem tw_824 : (Jvm.Cond.arrayClass Jvm.ClassFile.FieldType.byte) ∈ lw_good := lw_g4 104 rfl rfl
theorem tw_1396 : (Jvm.Cond.methodLink "OrderlyNetsModel" (7 : Nat) ({ cls := "java/lang/Object", name := "<init>", desc := "()V" } : Jvm.MethodName)) ∈ lw_good := lw_g6 196 rfl rfl
theorem tw_1397 : (Jvm.Cond.constant "OrderlyNetsModel" (38 : Nat) (32768 : Int32)) ∈ lw_good := lw_g6 197 rfl rfl
theorem tw_1592 : (Jvm.Cond.arrayClass Jvm.ClassFile.FieldType.boolean) ∈ lw_good := lw_g7 152 rfl rfl
theorem yk_X7_init : eYI yX7_init cX7_init 1 0 := ⟨tw_209, tw_208, tw_9, rfl, by decide +kernel⟩
theorem yk_X8_init : eYI yX8_init cX8_init 1 0 := ⟨tw_41, tw_40, tw_2, rfl, by decide +kernel⟩
theorem yk_X6_init : eYI yX6_init cX6_init 1 0 := ⟨tw_66, tw_65, tw_3, rfl, by decide +kernel⟩
theorem yk_X3_init : eYI yX3_init cX3_init 1 0 := ⟨tw_139, tw_138, tw_4, rfl, by decide +kernel⟩
theorem yk_X10_init : eYI yX10_init cX10_init 1 0 := ⟨tw_155, tw_154, tw_5, rfl, by decide +kernel⟩
theorem yk_X9_init : eYI yX9_init cX9_init 1 0 := ⟨tw_174, tw_173, tw_6, rfl, by decide +kernel⟩
theorem yk_X5_init : eYI yX5_init cX5_init 1 0 := ⟨tw_189, tw_188, tw_7, rfl, by decide +kernel⟩
theorem yk_X2_init : eYI yX2_init cX2_init 1 0 := ⟨tw_203, tw_202, tw_8, rfl, by decide +kernel⟩
theorem yk_X4_init : eYI yX4_init cX4_init 1 0 := ⟨tw_280, tw_279, tw_10, rfl, by decide +kernel⟩
theorem yk_X1_init : eYI yX1_init cX1_init 1 0 := ⟨tw_301, tw_300, tw_11, rfl, by decide +kernel⟩
