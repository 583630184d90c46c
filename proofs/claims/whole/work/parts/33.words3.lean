/-! more words of the tables -/
theorem tw_26 : (Jvm.Cond.initialized "java/util/NoSuchElementException") ∈ lw_good := lw_g1 26 rfl rfl
theorem tw_217 : (Jvm.Cond.fieldLinkNest "OrderlyNets" (209 : Nat) "OrderlyNets$Sketch" "darks" "I" "OrderlyNets") ∈ lw_nest := lw_n1 217 rfl rfl
theorem tw_244 : (Jvm.Cond.fieldLinkNest "OrderlyNets" (306 : Nat) "OrderlyNets$Forms" "symmetries" "I" "OrderlyNets") ∈ lw_nest := lw_n2 4 rfl rfl
theorem tw_902 : (Jvm.Cond.classLink "OrderlyNetsLaw" (28 : Nat) "java/util/NoSuchElementException") ∈ lw_good := lw_g4 182 rfl rfl
theorem tw_903 : (Jvm.Cond.methodLink "OrderlyNetsLaw" (24 : Nat) ({ cls := "OrderlyNets", name := "net", desc := "(III)I" } : Jvm.MethodName)) ∈ lw_good := lw_g4 183 rfl rfl
theorem tw_904 : (Jvm.Cond.instanceMethod ({ cls := "OrderlyNets", name := "net", desc := "(III)I" } : Jvm.MethodName)) ∈ lw_good := lw_g4 184 rfl rfl
theorem tw_905 : (Jvm.Cond.selects "OrderlyNets" ({ cls := "OrderlyNets", name := "net", desc := "(III)I" } : Jvm.MethodName) ({ cls := "OrderlyNets", name := "net", desc := "(III)I" } : Jvm.MethodName)) ∈ lw_good := lw_g4 185 rfl rfl
theorem tw_906 : (Jvm.Cond.code ({ cls := "OrderlyNets", name := "net", desc := "(III)I" } : Jvm.MethodName) prog_1_method_8_code (5 : Nat) (Option.some Jvm.ClassFile.FieldType.int)) ∈ lw_good := lw_g4 186 rfl rfl
theorem tw_912 : (Jvm.Cond.methodLink "OrderlyNets" (181 : Nat) ({ cls := "OrderlyNets$Code", name := "edges", desc := "(II)I" } : Jvm.MethodName)) ∈ lw_good := lw_g4 192 rfl rfl
theorem tw_949 : (Jvm.Cond.methodLink "OrderlyNets" (199 : Nat) ({ cls := "OrderlyNets$Sketch", name := "pieces", desc := "()I" } : Jvm.MethodName)) ∈ lw_good := lw_g4 229 rfl rfl
theorem tw_950 : (Jvm.Cond.methodLink "OrderlyNets" (203 : Nat) ({ cls := "OrderlyNets$Sketch", name := "width", desc := "()I" } : Jvm.MethodName)) ∈ lw_good := lw_g4 230 rfl rfl
theorem tw_951 : (Jvm.Cond.instanceMethod ({ cls := "OrderlyNets$Sketch", name := "width", desc := "()I" } : Jvm.MethodName)) ∈ lw_good := lw_g4 231 rfl rfl
theorem tw_952 : (Jvm.Cond.selects "OrderlyNets$Sketch" ({ cls := "OrderlyNets$Sketch", name := "width", desc := "()I" } : Jvm.MethodName) ({ cls := "OrderlyNets$Sketch", name := "width", desc := "()I" } : Jvm.MethodName)) ∈ lw_good := lw_g4 232 rfl rfl
theorem tw_953 : (Jvm.Cond.code ({ cls := "OrderlyNets$Sketch", name := "width", desc := "()I" } : Jvm.MethodName) prog_9_method_12_code (6 : Nat) (Option.some Jvm.ClassFile.FieldType.int)) ∈ lw_good := lw_g4 233 rfl rfl
theorem tw_954 : (Jvm.Cond.methodLink "OrderlyNets" (206 : Nat) ({ cls := "OrderlyNets$Sketch", name := "shortestCircle", desc := "()I" } : Jvm.MethodName)) ∈ lw_good := lw_g4 234 rfl rfl
theorem tw_955 : (Jvm.Cond.instanceMethod ({ cls := "OrderlyNets$Sketch", name := "shortestCircle", desc := "()I" } : Jvm.MethodName)) ∈ lw_good := lw_g4 235 rfl rfl
theorem tw_956 : (Jvm.Cond.selects "OrderlyNets$Sketch" ({ cls := "OrderlyNets$Sketch", name := "shortestCircle", desc := "()I" } : Jvm.MethodName) ({ cls := "OrderlyNets$Sketch", name := "shortestCircle", desc := "()I" } : Jvm.MethodName)) ∈ lw_good := lw_g4 236 rfl rfl
theorem tw_957 : (Jvm.Cond.code ({ cls := "OrderlyNets$Sketch", name := "shortestCircle", desc := "()I" } : Jvm.MethodName) prog_9_method_15_code (1 : Nat) (Option.some Jvm.ClassFile.FieldType.int)) ∈ lw_good := lw_g4 237 rfl rfl
theorem tw_960 : (Jvm.Cond.classLink "OrderlyNets" (216 : Nat) "java/util/NoSuchElementException") ∈ lw_good := lw_g5 0 rfl rfl
theorem tw_962 : (Jvm.Cond.castable "java/util/NoSuchElementException" "java/util/NoSuchElementException") ∈ lw_nest := lw_n5 2 rfl rfl
theorem tw_1238 : (Jvm.Cond.methodLink "OrderlyNetsLaw" (87 : Nat) ({ cls := "OrderlyNets", name := "form", desc := "(I)I" } : Jvm.MethodName)) ∈ lw_good := lw_g6 38 rfl rfl
theorem tw_1239 : (Jvm.Cond.instanceMethod ({ cls := "OrderlyNets", name := "form", desc := "(I)I" } : Jvm.MethodName)) ∈ lw_good := lw_g6 39 rfl rfl
theorem tw_1240 : (Jvm.Cond.selects "OrderlyNets" ({ cls := "OrderlyNets", name := "form", desc := "(I)I" } : Jvm.MethodName) ({ cls := "OrderlyNets", name := "form", desc := "(I)I" } : Jvm.MethodName)) ∈ lw_good := lw_g6 40 rfl rfl
theorem tw_1241 : (Jvm.Cond.code ({ cls := "OrderlyNets", name := "form", desc := "(I)I" } : Jvm.MethodName) prog_1_method_26_code (2 : Nat) (Option.some Jvm.ClassFile.FieldType.int)) ∈ lw_good := lw_g6 41 rfl rfl
theorem tw_1334 : (Jvm.Cond.methodLink "OrderlyNetsLaw" (102 : Nat) ({ cls := "OrderlyNets", name := "walker", desc := "(II)I" } : Jvm.MethodName)) ∈ lw_good := lw_g6 134 rfl rfl
theorem tw_1335 : (Jvm.Cond.instanceMethod ({ cls := "OrderlyNets", name := "walker", desc := "(II)I" } : Jvm.MethodName)) ∈ lw_good := lw_g6 135 rfl rfl
theorem tw_1336 : (Jvm.Cond.selects "OrderlyNets" ({ cls := "OrderlyNets", name := "walker", desc := "(II)I" } : Jvm.MethodName) ({ cls := "OrderlyNets", name := "walker", desc := "(II)I" } : Jvm.MethodName)) ∈ lw_good := lw_g6 136 rfl rfl
theorem tw_1337 : (Jvm.Cond.code ({ cls := "OrderlyNets", name := "walker", desc := "(II)I" } : Jvm.MethodName) prog_1_method_31_code (3 : Nat) (Option.some Jvm.ClassFile.FieldType.int)) ∈ lw_good := lw_g6 137 rfl rfl
theorem eth_NoSuchElementException : eThX RX11 216 220 "java/util/NoSuchElementException" "java/lang/RuntimeException" 13 prog_33_method_4_code ["java/lang/Exception"] := ⟨by decide +kernel, by decide +kernel, tw_960, tw_26, by decide +kernel, by decide +kernel, by decide +kernel, by decide +kernel, by decide +kernel, by decide +kernel, by decide +kernel⟩
theorem yk_X7_width : eYV yX7_width cX7_width 6 (some .int) 0 := ⟨tw_953, tw_951, tw_952, tw_9, by decide +kernel⟩
theorem yk_X7_shortestCircle : eYV yX7_shortestCircle cX7_shortestCircle 1 (some .int) 0 := ⟨tw_957, tw_955, tw_956, tw_9, by decide +kernel⟩
theorem yk_X11_net : eYV yX11_net cX11_net 5 (some .int) 3 := ⟨tw_906, tw_904, tw_905, tw_1, by decide +kernel⟩
theorem yk_X11_form : eYV yX11_form cX11_form 2 (some .int) 1 := ⟨tw_1241, tw_1239, tw_1240, tw_1, by decide +kernel⟩
theorem yk_X11_walker : eYV yX11_walker cX11_walker 3 (some .int) 2 := ⟨tw_1337, tw_1335, tw_1336, tw_1, by decide +kernel⟩
