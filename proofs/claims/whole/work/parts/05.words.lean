/-! words of the tables, by their places -/
theorem inGX1 : ∀ w ∈ u_ws RX1 TX1 4, w ∈ lw_good := lw_inG inX1 (by decide +kernel)
theorem inGX2 : ∀ w ∈ u_ws RX2 TX2 12, w ∈ lw_good := lw_inG inX2 (by decide +kernel)
theorem inGX3 : ∀ w ∈ u_ws RX3 TX3 3, w ∈ lw_good := lw_inG inX3 (by decide +kernel)
theorem inGX4 : ∀ w ∈ u_ws RX4 TX4 4, w ∈ lw_good := lw_inG inX4 (by decide +kernel)
theorem inGX5 : ∀ w ∈ u_ws RX5 TX5 2, w ∈ lw_good := lw_inG inX5 (by decide +kernel)
theorem inGX6 : ∀ w ∈ u_ws RX6 TX6 15, w ∈ lw_good := lw_inG inX6 (by decide +kernel)
theorem inGX7 : ∀ w ∈ u_ws RX7 TX7 5, w ∈ lw_good := lw_inG inX7 (by decide +kernel)
theorem inGX8 : ∀ w ∈ u_ws RX8 TX8 5, w ∈ lw_good := lw_inG inX8 (by decide +kernel)
theorem inGX9 : ∀ w ∈ u_ws RX9 TX9 2, w ∈ lw_good := lw_inG inX9 (by decide +kernel)
theorem inGX10 : ∀ w ∈ u_ws RX10 TX10 4, w ∈ lw_good := lw_inG inX10 (by decide +kernel)
theorem inGX11 : ∀ w ∈ u_ws RX11 TX11 17, w ∈ lw_good := lw_inG inX11 (by decide +kernel)
theorem inGX12 : ∀ w ∈ u_ws RX12 TX12 34, w ∈ lw_good := lw_inG inX12 (by decide +kernel)
theorem lw_c1 {w : Cond} (h : w ∈ tables_1_1) : w ∈ lw_tbl := List.mem_append_right _ (List.mem_append_left _ h)
theorem lw_g1 {w : Cond} (i : Nat) (h : tables_1_1[i]? = some w) (g : goodWord w = true) : w ∈ lw_good := List.mem_filter.mpr ⟨lw_c1 (List.mem_of_getElem? h), g⟩
theorem lw_n1 {w : Cond} (i : Nat) (h : tables_1_1[i]? = some w) (g : eIsN w = true) : w ∈ lw_nest := List.mem_filter.mpr ⟨lw_c1 (List.mem_of_getElem? h), g⟩
theorem lw_c2 {w : Cond} (h : w ∈ tables_1_2) : w ∈ lw_tbl := List.mem_append_right _ (List.mem_append_right _ (List.mem_append_left _ h))
theorem lw_g2 {w : Cond} (i : Nat) (h : tables_1_2[i]? = some w) (g : goodWord w = true) : w ∈ lw_good := List.mem_filter.mpr ⟨lw_c2 (List.mem_of_getElem? h), g⟩
theorem lw_n2 {w : Cond} (i : Nat) (h : tables_1_2[i]? = some w) (g : eIsN w = true) : w ∈ lw_nest := List.mem_filter.mpr ⟨lw_c2 (List.mem_of_getElem? h), g⟩
theorem lw_c3 {w : Cond} (h : w ∈ tables_1_3) : w ∈ lw_tbl := List.mem_append_right _ (List.mem_append_right _ (List.mem_append_right _ (List.mem_append_left _ h)))
theorem lw_g3 {w : Cond} (i : Nat) (h : tables_1_3[i]? = some w) (g : goodWord w = true) : w ∈ lw_good := List.mem_filter.mpr ⟨lw_c3 (List.mem_of_getElem? h), g⟩
theorem lw_n3 {w : Cond} (i : Nat) (h : tables_1_3[i]? = some w) (g : eIsN w = true) : w ∈ lw_nest := List.mem_filter.mpr ⟨lw_c3 (List.mem_of_getElem? h), g⟩
theorem lw_c4 {w : Cond} (h : w ∈ tables_1_4) : w ∈ lw_tbl := List.mem_append_right _ (List.mem_append_right _ (List.mem_append_right _ (List.mem_append_right _ (List.mem_append_left _ h))))
theorem lw_g4 {w : Cond} (i : Nat) (h : tables_1_4[i]? = some w) (g : goodWord w = true) : w ∈ lw_good := List.mem_filter.mpr ⟨lw_c4 (List.mem_of_getElem? h), g⟩
theorem lw_n4 {w : Cond} (i : Nat) (h : tables_1_4[i]? = some w) (g : eIsN w = true) : w ∈ lw_nest := List.mem_filter.mpr ⟨lw_c4 (List.mem_of_getElem? h), g⟩
theorem lw_c5 {w : Cond} (h : w ∈ tables_1_5) : w ∈ lw_tbl := List.mem_append_right _ (List.mem_append_right _ (List.mem_append_right _ (List.mem_append_right _ (List.mem_append_right _ (List.mem_append_left _ h)))))
theorem lw_g5 {w : Cond} (i : Nat) (h : tables_1_5[i]? = some w) (g : goodWord w = true) : w ∈ lw_good := List.mem_filter.mpr ⟨lw_c5 (List.mem_of_getElem? h), g⟩
theorem lw_n5 {w : Cond} (i : Nat) (h : tables_1_5[i]? = some w) (g : eIsN w = true) : w ∈ lw_nest := List.mem_filter.mpr ⟨lw_c5 (List.mem_of_getElem? h), g⟩
theorem lw_c6 {w : Cond} (h : w ∈ tables_1_6) : w ∈ lw_tbl := List.mem_append_right _ (List.mem_append_right _ (List.mem_append_right _ (List.mem_append_right _ (List.mem_append_right _ (List.mem_append_right _ (List.mem_append_left _ h))))))
theorem lw_g6 {w : Cond} (i : Nat) (h : tables_1_6[i]? = some w) (g : goodWord w = true) : w ∈ lw_good := List.mem_filter.mpr ⟨lw_c6 (List.mem_of_getElem? h), g⟩
theorem lw_n6 {w : Cond} (i : Nat) (h : tables_1_6[i]? = some w) (g : eIsN w = true) : w ∈ lw_nest := List.mem_filter.mpr ⟨lw_c6 (List.mem_of_getElem? h), g⟩
theorem lw_c7 {w : Cond} (h : w ∈ tables_1_7) : w ∈ lw_tbl := List.mem_append_right _ (List.mem_append_right _ (List.mem_append_right _ (List.mem_append_right _ (List.mem_append_right _ (List.mem_append_right _ (List.mem_append_right _ (List.mem_append_left _ h)))))))
theorem lw_g7 {w : Cond} (i : Nat) (h : tables_1_7[i]? = some w) (g : goodWord w = true) : w ∈ lw_good := List.mem_filter.mpr ⟨lw_c7 (List.mem_of_getElem? h), g⟩
theorem lw_n7 {w : Cond} (i : Nat) (h : tables_1_7[i]? = some w) (g : eIsN w = true) : w ∈ lw_nest := List.mem_filter.mpr ⟨lw_c7 (List.mem_of_getElem? h), g⟩
theorem lw_c8 {w : Cond} (h : w ∈ tables_1_8) : w ∈ lw_tbl := List.mem_append_right _ (List.mem_append_right _ (List.mem_append_right _ (List.mem_append_right _ (List.mem_append_right _ (List.mem_append_right _ (List.mem_append_right _ (List.mem_append_right _ (List.mem_append_left _ h))))))))
theorem lw_g8 {w : Cond} (i : Nat) (h : tables_1_8[i]? = some w) (g : goodWord w = true) : w ∈ lw_good := List.mem_filter.mpr ⟨lw_c8 (List.mem_of_getElem? h), g⟩
theorem lw_n8 {w : Cond} (i : Nat) (h : tables_1_8[i]? = some w) (g : eIsN w = true) : w ∈ lw_nest := List.mem_filter.mpr ⟨lw_c8 (List.mem_of_getElem? h), g⟩
theorem lw_c9 {w : Cond} (h : w ∈ tables_1_9) : w ∈ lw_tbl := List.mem_append_right _ (List.mem_append_right _ (List.mem_append_right _ (List.mem_append_right _ (List.mem_append_right _ (List.mem_append_right _ (List.mem_append_right _ (List.mem_append_right _ (List.mem_append_right _ (h)))))))))
theorem lw_g9 {w : Cond} (i : Nat) (h : tables_1_9[i]? = some w) (g : goodWord w = true) : w ∈ lw_good := List.mem_filter.mpr ⟨lw_c9 (List.mem_of_getElem? h), g⟩
theorem lw_n9 {w : Cond} (i : Nat) (h : tables_1_9[i]? = some w) (g : eIsN w = true) : w ∈ lw_nest := List.mem_filter.mpr ⟨lw_c9 (List.mem_of_getElem? h), g⟩
theorem tw_1 : (Jvm.Cond.initialized "OrderlyNets") ∈ lw_good := lw_g1 1 rfl rfl
theorem tw_2 : (Jvm.Cond.initialized "OrderlyNets$Tape") ∈ lw_good := lw_g1 2 rfl rfl
theorem tw_3 : (Jvm.Cond.initialized "OrderlyNets$Rules") ∈ lw_good := lw_g1 3 rfl rfl
theorem tw_4 : (Jvm.Cond.initialized "OrderlyNets$Levels") ∈ lw_good := lw_g1 4 rfl rfl
theorem tw_5 : (Jvm.Cond.initialized "OrderlyNets$Walkers") ∈ lw_good := lw_g1 5 rfl rfl
theorem tw_6 : (Jvm.Cond.initialized "OrderlyNets$Texts") ∈ lw_good := lw_g1 6 rfl rfl
theorem tw_7 : (Jvm.Cond.initialized "OrderlyNets$Page") ∈ lw_good := lw_g1 7 rfl rfl
theorem tw_8 : (Jvm.Cond.initialized "OrderlyNets$Forms") ∈ lw_good := lw_g1 8 rfl rfl
theorem tw_9 : (Jvm.Cond.initialized "OrderlyNets$Sketch") ∈ lw_good := lw_g1 9 rfl rfl
theorem tw_10 : (Jvm.Cond.initialized "OrderlyNets$Match") ∈ lw_good := lw_g1 10 rfl rfl
theorem tw_11 : (Jvm.Cond.initialized "OrderlyNets$Cycles") ∈ lw_good := lw_g1 11 rfl rfl
theorem tw_12 : (Jvm.Cond.initialized "java/lang/Math") ∈ lw_good := lw_g1 12 rfl rfl
theorem tw_13 : (Jvm.Cond.initialized "OrderlyNets$Code") ∈ lw_good := lw_g1 13 rfl rfl
theorem tw_14 : (Jvm.Cond.initialized "java/lang/Integer") ∈ lw_good := lw_g1 14 rfl rfl
theorem tw_15 : (Jvm.Cond.initialized "OrderlyNetsModel") ∈ lw_good := lw_g1 15 rfl rfl
theorem tw_16 : (Jvm.Cond.initialized "java/lang/String") ∈ lw_good := lw_g1 16 rfl rfl
theorem tw_17 : (Jvm.Cond.initialized "java/lang/StringLatin1") ∈ lw_good := lw_g1 17 rfl rfl
theorem tw_18 : (Jvm.Cond.initialized "jdk/internal/util/Preconditions") ∈ lw_good := lw_g1 18 rfl rfl
theorem tw_23 : (Jvm.Cond.initialized "java/lang/IllegalArgumentException") ∈ lw_good := lw_g1 23 rfl rfl
theorem tw_24 : (Jvm.Cond.initialized "java/lang/System") ∈ lw_good := lw_g1 24 rfl rfl
theorem tw_25 : (Jvm.Cond.initialized "java/lang/IndexOutOfBoundsException") ∈ lw_good := lw_g1 25 rfl rfl
theorem tw_27 : (Jvm.Cond.initialized "java/lang/IllegalStateException") ∈ lw_good := lw_g1 27 rfl rfl
theorem tw_28 : (Jvm.Cond.initialized "java/util/Arrays") ∈ lw_good := lw_g1 28 rfl rfl
theorem tw_43 : (Jvm.Cond.fieldLink "OrderlyNets$Tape" (11 : Nat) "OrderlyNets$Tape" "bytes" "[I") ∈ lw_good := lw_g1 43 rfl rfl
theorem tw_44 : (Jvm.Cond.fieldLink "OrderlyNets$Tape" (19 : Nat) "OrderlyNets$Tape" "length" "I") ∈ lw_good := lw_g1 44 rfl rfl
theorem tw_45 : (Jvm.Cond.fieldLinkNest "OrderlyNets" (110 : Nat) "OrderlyNets$Tape" "length" "I" "OrderlyNets") ∈ lw_nest := lw_n1 45 rfl rfl
theorem tw_46 : (Jvm.Cond.fieldLink "OrderlyNets$Tape" (22 : Nat) "OrderlyNets$Tape" "position" "I") ∈ lw_good := lw_g1 46 rfl rfl
theorem tw_47 : (Jvm.Cond.fieldLink "OrderlyNets$Tape" (25 : Nat) "OrderlyNets$Tape" "begun" "I") ∈ lw_good := lw_g1 47 rfl rfl
theorem tw_48 : (Jvm.Cond.fieldLink "OrderlyNets$Tape" (15 : Nat) "OrderlyNets$Tape" "wrong" "I") ∈ lw_good := lw_g1 48 rfl rfl
theorem tw_49 : (Jvm.Cond.fieldLinkNest "OrderlyNets" (168 : Nat) "OrderlyNets$Tape" "wrong" "I" "OrderlyNets") ∈ lw_nest := lw_n1 49 rfl rfl
theorem tw_69 : (Jvm.Cond.instanceMethod ({ cls := "OrderlyNets$Rules", name := "clear", desc := "()V" } : Jvm.MethodName)) ∈ lw_good := lw_g1 69 rfl rfl
theorem tw_70 : (Jvm.Cond.selects "OrderlyNets$Rules" ({ cls := "OrderlyNets$Rules", name := "clear", desc := "()V" } : Jvm.MethodName) ({ cls := "OrderlyNets$Rules", name := "clear", desc := "()V" } : Jvm.MethodName)) ∈ lw_good := lw_g1 70 rfl rfl
theorem tw_71 : (Jvm.Cond.code ({ cls := "OrderlyNets$Rules", name := "clear", desc := "()V" } : Jvm.MethodName) prog_8_method_2_code (1 : Nat) (Option.none : Option Jvm.ClassFile.FieldType)) ∈ lw_good := lw_g1 71 rfl rfl
theorem tw_72 : (Jvm.Cond.fieldLink "OrderlyNets$Rules" (21 : Nat) "OrderlyNets$Rules" "size" "I") ∈ lw_good := lw_g1 72 rfl rfl
theorem tw_73 : (Jvm.Cond.fieldLinkNest "OrderlyNets$Texts" (26 : Nat) "OrderlyNets$Rules" "size" "I" "OrderlyNets") ∈ lw_nest := lw_n1 73 rfl rfl
theorem tw_74 : (Jvm.Cond.fieldLinkNest "OrderlyNets$Levels" (45 : Nat) "OrderlyNets$Rules" "size" "I" "OrderlyNets") ∈ lw_nest := lw_n1 74 rfl rfl
theorem tw_75 : (Jvm.Cond.fieldLinkNest "OrderlyNets" (143 : Nat) "OrderlyNets$Rules" "size" "I" "OrderlyNets") ∈ lw_nest := lw_n1 75 rfl rfl
theorem tw_76 : (Jvm.Cond.fieldLink "OrderlyNets$Rules" (25 : Nat) "OrderlyNets$Rules" "hasDark" "Z") ∈ lw_good := lw_g1 76 rfl rfl
theorem tw_77 : (Jvm.Cond.fieldLinkNest "OrderlyNets$Texts" (32 : Nat) "OrderlyNets$Rules" "hasDark" "Z" "OrderlyNets") ∈ lw_nest := lw_n1 77 rfl rfl
theorem tw_78 : (Jvm.Cond.fieldLinkNest "OrderlyNets$Levels" (32 : Nat) "OrderlyNets$Rules" "hasDark" "Z" "OrderlyNets") ∈ lw_nest := lw_n1 78 rfl rfl
theorem tw_79 : (Jvm.Cond.fieldLinkNest "OrderlyNets" (288 : Nat) "OrderlyNets$Rules" "hasDark" "Z" "OrderlyNets") ∈ lw_nest := lw_n1 79 rfl rfl
theorem tw_80 : (Jvm.Cond.fieldLink "OrderlyNets$Rules" (29 : Nat) "OrderlyNets$Rules" "words" "I") ∈ lw_good := lw_g1 80 rfl rfl
theorem tw_81 : (Jvm.Cond.fieldLink "OrderlyNets$Rules" (32 : Nat) "OrderlyNets$Rules" "ruleLines" "I") ∈ lw_good := lw_g1 81 rfl rfl
theorem tw_82 : (Jvm.Cond.fieldLinkNest "OrderlyNets$Texts" (62 : Nat) "OrderlyNets$Rules" "ruleLines" "I" "OrderlyNets") ∈ lw_nest := lw_n1 82 rfl rfl
theorem tw_83 : (Jvm.Cond.fieldLinkNest "OrderlyNets" (371 : Nat) "OrderlyNets$Rules" "ruleLines" "I" "OrderlyNets") ∈ lw_nest := lw_n1 83 rfl rfl
theorem tw_84 : (Jvm.Cond.fieldLink "OrderlyNets$Rules" (35 : Nat) "OrderlyNets$Rules" "endLines" "I") ∈ lw_good := lw_g1 84 rfl rfl
theorem tw_85 : (Jvm.Cond.fieldLinkNest "OrderlyNets$Texts" (56 : Nat) "OrderlyNets$Rules" "endLines" "I" "OrderlyNets") ∈ lw_nest := lw_n1 85 rfl rfl
theorem tw_86 : (Jvm.Cond.fieldLinkNest "OrderlyNets" (374 : Nat) "OrderlyNets$Rules" "endLines" "I" "OrderlyNets") ∈ lw_nest := lw_n1 86 rfl rfl
theorem tw_87 : (Jvm.Cond.fieldLink "OrderlyNets$Rules" (38 : Nat) "OrderlyNets$Rules" "most" "I") ∈ lw_good := lw_g1 87 rfl rfl
theorem tw_88 : (Jvm.Cond.fieldLinkNest "OrderlyNets$Texts" (79 : Nat) "OrderlyNets$Rules" "most" "I" "OrderlyNets") ∈ lw_nest := lw_n1 88 rfl rfl
theorem tw_89 : (Jvm.Cond.fieldLink "OrderlyNets$Rules" (41 : Nat) "OrderlyNets$Rules" "bannedCircles" "I") ∈ lw_good := lw_g1 89 rfl rfl
theorem tw_90 : (Jvm.Cond.fieldLinkNest "OrderlyNets$Texts" (83 : Nat) "OrderlyNets$Rules" "bannedCircles" "I" "OrderlyNets") ∈ lw_nest := lw_n1 90 rfl rfl
theorem tw_91 : (Jvm.Cond.fieldLink "OrderlyNets$Rules" (44 : Nat) "OrderlyNets$Rules" "unlike" "Z") ∈ lw_good := lw_g1 91 rfl rfl
theorem tw_92 : (Jvm.Cond.fieldLinkNest "OrderlyNets$Texts" (92 : Nat) "OrderlyNets$Rules" "unlike" "Z" "OrderlyNets") ∈ lw_nest := lw_n1 92 rfl rfl
theorem tw_93 : (Jvm.Cond.fieldLink "OrderlyNets$Rules" (47 : Nat) "OrderlyNets$Rules" "patterns" "I") ∈ lw_good := lw_g1 93 rfl rfl
theorem tw_94 : (Jvm.Cond.fieldLink "OrderlyNets$Rules" (11 : Nat) "OrderlyNets$Rules" "patternNodes" "[I") ∈ lw_good := lw_g1 94 rfl rfl
theorem tw_95 : (Jvm.Cond.fieldLink "OrderlyNets$Rules" (15 : Nat) "OrderlyNets$Rules" "patternCodes" "[I") ∈ lw_good := lw_g1 95 rfl rfl
theorem tw_96 : (Jvm.Cond.fieldLink "OrderlyNets$Rules" (50 : Nat) "OrderlyNets$Rules" "endsJoined" "Z") ∈ lw_good := lw_g1 96 rfl rfl
theorem tw_97 : (Jvm.Cond.fieldLinkNest "OrderlyNets$Texts" (107 : Nat) "OrderlyNets$Rules" "endsJoined" "Z" "OrderlyNets") ∈ lw_nest := lw_n1 97 rfl rfl
theorem tw_98 : (Jvm.Cond.fieldLink "OrderlyNets$Rules" (53 : Nat) "OrderlyNets$Rules" "fewestEdges" "I") ∈ lw_good := lw_g1 98 rfl rfl
theorem tw_99 : (Jvm.Cond.fieldLinkNest "OrderlyNets$Texts" (119 : Nat) "OrderlyNets$Rules" "fewestEdges" "I" "OrderlyNets") ∈ lw_nest := lw_n1 99 rfl rfl
theorem tw_100 : (Jvm.Cond.fieldLink "OrderlyNets$Rules" (56 : Nat) "OrderlyNets$Rules" "mostEdges" "I") ∈ lw_good := lw_g1 100 rfl rfl
theorem tw_101 : (Jvm.Cond.fieldLinkNest "OrderlyNets$Texts" (124 : Nat) "OrderlyNets$Rules" "mostEdges" "I" "OrderlyNets") ∈ lw_nest := lw_n1 101 rfl rfl
theorem tw_102 : (Jvm.Cond.fieldLink "OrderlyNets$Rules" (59 : Nat) "OrderlyNets$Rules" "least" "I") ∈ lw_good := lw_g1 102 rfl rfl
theorem tw_103 : (Jvm.Cond.fieldLinkNest "OrderlyNets$Texts" (117 : Nat) "OrderlyNets$Rules" "least" "I" "OrderlyNets") ∈ lw_nest := lw_n1 103 rfl rfl
theorem tw_141 : (Jvm.Cond.fieldLink "OrderlyNets$Levels" (11 : Nat) "OrderlyNets$Levels" "codes" "[I") ∈ lw_good := lw_g1 141 rfl rfl
theorem tw_142 : (Jvm.Cond.fieldLink "OrderlyNets$Levels" (15 : Nat) "OrderlyNets$Levels" "firsts" "[I") ∈ lw_good := lw_g1 142 rfl rfl
theorem tw_143 : (Jvm.Cond.fieldLink "OrderlyNets$Levels" (24 : Nat) "OrderlyNets$Levels" "total" "I") ∈ lw_good := lw_g1 143 rfl rfl
theorem tw_157 : (Jvm.Cond.fieldLink "OrderlyNets$Walkers" (9 : Nat) "OrderlyNets$Walkers" "depths" "[I") ∈ lw_good := lw_g1 157 rfl rfl
theorem tw_158 : (Jvm.Cond.fieldLink "OrderlyNets$Walkers" (15 : Nat) "OrderlyNets$Walkers" "allParts" "[I") ∈ lw_good := lw_g1 158 rfl rfl
theorem tw_159 : (Jvm.Cond.fieldLink "OrderlyNets$Walkers" (18 : Nat) "OrderlyNets$Walkers" "ownParts" "[I") ∈ lw_good := lw_g1 159 rfl rfl
theorem tw_160 : (Jvm.Cond.fieldLink "OrderlyNets$Walkers" (21 : Nat) "OrderlyNets$Walkers" "lists" "[I") ∈ lw_good := lw_g1 160 rfl rfl
theorem tw_176 : (Jvm.Cond.fieldLinkNest "OrderlyNets" (155 : Nat) "OrderlyNets$Texts" "nodes" "I" "OrderlyNets") ∈ lw_nest := lw_n1 176 rfl rfl
theorem tw_177 : (Jvm.Cond.fieldLink "OrderlyNets$Texts" (143 : Nat) "OrderlyNets$Texts" "nodes" "I") ∈ lw_good := lw_g1 177 rfl rfl
theorem tw_178 : (Jvm.Cond.fieldLinkNest "OrderlyNets" (158 : Nat) "OrderlyNets$Texts" "code" "I" "OrderlyNets") ∈ lw_nest := lw_n1 178 rfl rfl
theorem tw_179 : (Jvm.Cond.fieldLink "OrderlyNets$Texts" (145 : Nat) "OrderlyNets$Texts" "code" "I") ∈ lw_good := lw_g1 179 rfl rfl
theorem tw_191 : (Jvm.Cond.fieldLink "OrderlyNets$Page" (11 : Nat) "OrderlyNets$Page" "bytes" "[I") ∈ lw_good := lw_g1 191 rfl rfl
theorem tw_192 : (Jvm.Cond.fieldLink "OrderlyNets$Page" (15 : Nat) "OrderlyNets$Page" "length" "I") ∈ lw_good := lw_g1 192 rfl rfl
theorem tw_193 : (Jvm.Cond.fieldLinkNest "OrderlyNets" (358 : Nat) "OrderlyNets$Page" "length" "I" "OrderlyNets") ∈ lw_nest := lw_n1 193 rfl rfl
theorem tw_211 : (Jvm.Cond.fieldLink "OrderlyNets$Sketch" (9 : Nat) "OrderlyNets$Sketch" "near" "[I") ∈ lw_good := lw_g1 211 rfl rfl
theorem tw_212 : (Jvm.Cond.fieldLink "OrderlyNets$Sketch" (15 : Nat) "OrderlyNets$Sketch" "fans" "[J") ∈ lw_good := lw_g1 212 rfl rfl
theorem tw_213 : (Jvm.Cond.fieldLink "OrderlyNets$Sketch" (25 : Nat) "OrderlyNets$Sketch" "nodes" "I") ∈ lw_good := lw_g1 213 rfl rfl
theorem tw_214 : (Jvm.Cond.fieldLinkNest "OrderlyNets$Match" (46 : Nat) "OrderlyNets$Sketch" "nodes" "I" "OrderlyNets") ∈ lw_nest := lw_n1 214 rfl rfl
theorem tw_215 : (Jvm.Cond.fieldLinkNest "OrderlyNets$Forms" (76 : Nat) "OrderlyNets$Sketch" "nodes" "I" "OrderlyNets") ∈ lw_nest := lw_n1 215 rfl rfl
theorem tw_216 : (Jvm.Cond.fieldLink "OrderlyNets$Sketch" (29 : Nat) "OrderlyNets$Sketch" "darks" "I") ∈ lw_good := lw_g1 216 rfl rfl
theorem tw_218 : (Jvm.Cond.fieldLink "OrderlyNets$Sketch" (32 : Nat) "OrderlyNets$Sketch" "colours" "J") ∈ lw_good := lw_g1 218 rfl rfl
theorem tw_219 : (Jvm.Cond.fieldLinkNest "OrderlyNets$Match" (38 : Nat) "OrderlyNets$Sketch" "colours" "J" "OrderlyNets") ∈ lw_nest := lw_n1 219 rfl rfl
theorem tw_220 : (Jvm.Cond.fieldLinkNest "OrderlyNets$Forms" (28 : Nat) "OrderlyNets$Sketch" "colours" "J" "OrderlyNets") ∈ lw_nest := lw_n1 220 rfl rfl
theorem tw_233 : (Jvm.Cond.fieldLink "OrderlyNets$Forms" (10 : Nat) "OrderlyNets$Forms" "sketch" "LOrderlyNets$Sketch;") ∈ lw_good := lw_g1 233 rfl rfl
theorem tw_234 : (Jvm.Cond.fieldLink "OrderlyNets$Forms" (61 : Nat) "OrderlyNets$Forms" "nodes" "I") ∈ lw_good := lw_g1 234 rfl rfl
theorem tw_235 : (Jvm.Cond.fieldLinkNest "OrderlyNets" (305 : Nat) "OrderlyNets$Forms" "nodes" "I" "OrderlyNets") ∈ lw_nest := lw_n1 235 rfl rfl
theorem tw_236 : (Jvm.Cond.fieldLink "OrderlyNets$Forms" (80 : Nat) "OrderlyNets$Forms" "allBits" "I") ∈ lw_good := lw_g1 236 rfl rfl
theorem tw_237 : (Jvm.Cond.fieldLink "OrderlyNets$Forms" (20 : Nat) "OrderlyNets$Forms" "isTest" "Z") ∈ lw_good := lw_g1 237 rfl rfl
theorem tw_238 : (Jvm.Cond.fieldLink "OrderlyNets$Forms" (36 : Nat) "OrderlyNets$Forms" "isBeaten" "Z") ∈ lw_good := lw_g1 238 rfl rfl
theorem tw_239 : (Jvm.Cond.fieldLink "OrderlyNets$Forms" (83 : Nat) "OrderlyNets$Forms" "isStudy" "Z") ∈ lw_good := lw_g1 239 rfl rfl
theorem tw_240 : (Jvm.Cond.fieldLink "OrderlyNets$Forms" (104 : Nat) "OrderlyNets$Forms" "order" "J") ∈ lw_good := lw_g2 0 rfl rfl
theorem tw_241 : (Jvm.Cond.fieldLink "OrderlyNets$Forms" (24 : Nat) "OrderlyNets$Forms" "least" "I") ∈ lw_good := lw_g2 1 rfl rfl
theorem tw_242 : (Jvm.Cond.fieldLinkNest "OrderlyNets" (238 : Nat) "OrderlyNets$Forms" "least" "I" "OrderlyNets") ∈ lw_nest := lw_n2 2 rfl rfl
theorem tw_243 : (Jvm.Cond.fieldLink "OrderlyNets$Forms" (43 : Nat) "OrderlyNets$Forms" "symmetries" "I") ∈ lw_good := lw_g2 3 rfl rfl
theorem tw_245 : (Jvm.Cond.fieldLink "OrderlyNets$Forms" (115 : Nat) "OrderlyNets$Forms" "firstOrder" "J") ∈ lw_good := lw_g2 5 rfl rfl
theorem tw_246 : (Jvm.Cond.fieldLinkNest "OrderlyNets" (314 : Nat) "OrderlyNets$Forms" "firstOrder" "J" "OrderlyNets") ∈ lw_nest := lw_n2 6 rfl rfl
theorem tw_247 : (Jvm.Cond.fieldLink "OrderlyNets$Forms" (86 : Nat) "OrderlyNets$Forms" "seen" "J") ∈ lw_good := lw_g2 7 rfl rfl
theorem tw_248 : (Jvm.Cond.fieldLink "OrderlyNets$Forms" (70 : Nat) "OrderlyNets$Forms" "stillEdges" "I") ∈ lw_good := lw_g2 8 rfl rfl
theorem tw_284 : (Jvm.Cond.fieldLink "OrderlyNets$Match" (12 : Nat) "OrderlyNets$Match" "one" "LOrderlyNets$Sketch;") ∈ lw_good := lw_g2 44 rfl rfl
theorem tw_285 : (Jvm.Cond.fieldLink "OrderlyNets$Match" (18 : Nat) "OrderlyNets$Match" "two" "LOrderlyNets$Sketch;") ∈ lw_good := lw_g2 45 rfl rfl
theorem tw_286 : (Jvm.Cond.fieldLink "OrderlyNets$Match" (31 : Nat) "OrderlyNets$Match" "code" "I") ∈ lw_good := lw_g2 46 rfl rfl
theorem tw_287 : (Jvm.Cond.fieldLink "OrderlyNets$Match" (35 : Nat) "OrderlyNets$Match" "best" "I") ∈ lw_good := lw_g2 47 rfl rfl
theorem tw_303 : (Jvm.Cond.fieldLink "OrderlyNets$Cycles" (9 : Nat) "OrderlyNets$Cycles" "parts" "[I") ∈ lw_good := lw_g2 63 rfl rfl
theorem tw_304 : (Jvm.Cond.fieldLink "OrderlyNets$Cycles" (15 : Nat) "OrderlyNets$Cycles" "ways" "[J") ∈ lw_good := lw_g2 64 rfl rfl
theorem tw_305 : (Jvm.Cond.fieldLink "OrderlyNets$Cycles" (19 : Nat) "OrderlyNets$Cycles" "edges" "I") ∈ lw_good := lw_g2 65 rfl rfl
theorem tw_306 : (Jvm.Cond.fieldLink "OrderlyNets$Cycles" (23 : Nat) "OrderlyNets$Cycles" "hasDark" "Z") ∈ lw_good := lw_g2 66 rfl rfl
theorem tw_316 : (Jvm.Cond.methodLink "OrderlyNets" (98 : Nat) ({ cls := "OrderlyNets$Levels", name := "fill", desc := "(LOrderlyNets$Rules;LOrderlyNets$Sketch;LOrderlyNets$Forms;)V" } : Jvm.MethodName)) ∈ lw_good := lw_g2 76 rfl rfl
theorem tw_317 : (Jvm.Cond.instanceMethod ({ cls := "OrderlyNets$Levels", name := "fill", desc := "(LOrderlyNets$Rules;LOrderlyNets$Sketch;LOrderlyNets$Forms;)V" } : Jvm.MethodName)) ∈ lw_good := lw_g2 77 rfl rfl
theorem tw_318 : (Jvm.Cond.selects "OrderlyNets$Levels" ({ cls := "OrderlyNets$Levels", name := "fill", desc := "(LOrderlyNets$Rules;LOrderlyNets$Sketch;LOrderlyNets$Forms;)V" } : Jvm.MethodName) ({ cls := "OrderlyNets$Levels", name := "fill", desc := "(LOrderlyNets$Rules;LOrderlyNets$Sketch;LOrderlyNets$Forms;)V" } : Jvm.MethodName)) ∈ lw_good := lw_g2 78 rfl rfl
theorem tw_319 : (Jvm.Cond.code ({ cls := "OrderlyNets$Levels", name := "fill", desc := "(LOrderlyNets$Rules;LOrderlyNets$Sketch;LOrderlyNets$Forms;)V" } : Jvm.MethodName) prog_5_method_3_code (9 : Nat) (Option.none : Option Jvm.ClassFile.FieldType)) ∈ lw_good := lw_g2 79 rfl rfl
theorem tw_320 : (Jvm.Cond.methodLink "OrderlyNets$Levels" (28 : Nat) ({ cls := "OrderlyNets$Levels", name := "add", desc := "(I)V" } : Jvm.MethodName)) ∈ lw_good := lw_g2 80 rfl rfl
theorem tw_322 : (Jvm.Cond.instanceMethod ({ cls := "OrderlyNets$Levels", name := "add", desc := "(I)V" } : Jvm.MethodName)) ∈ lw_good := lw_g2 82 rfl rfl
theorem tw_323 : (Jvm.Cond.code ({ cls := "OrderlyNets$Levels", name := "add", desc := "(I)V" } : Jvm.MethodName) prog_5_method_4_code (2 : Nat) (Option.none : Option Jvm.ClassFile.FieldType)) ∈ lw_good := lw_g2 83 rfl rfl
theorem tw_324 : (Jvm.Cond.methodLink "OrderlyNets$Levels" (38 : Nat) ({ cls := "OrderlyNets$Levels", name := "setFirst", desc := "(I)V" } : Jvm.MethodName)) ∈ lw_good := lw_g2 84 rfl rfl
theorem tw_326 : (Jvm.Cond.instanceMethod ({ cls := "OrderlyNets$Levels", name := "setFirst", desc := "(I)V" } : Jvm.MethodName)) ∈ lw_good := lw_g2 86 rfl rfl
theorem tw_327 : (Jvm.Cond.code ({ cls := "OrderlyNets$Levels", name := "setFirst", desc := "(I)V" } : Jvm.MethodName) prog_5_method_5_code (2 : Nat) (Option.none : Option Jvm.ClassFile.FieldType)) ∈ lw_good := lw_g2 87 rfl rfl
theorem tw_328 : (Jvm.Cond.methodLink "OrderlyNets$Levels" (41 : Nat) ({ cls := "OrderlyNets$Levels", name := "amount", desc := "(I)I" } : Jvm.MethodName)) ∈ lw_good := lw_g2 88 rfl rfl
theorem tw_329 : (Jvm.Cond.instanceMethod ({ cls := "OrderlyNets$Levels", name := "amount", desc := "(I)I" } : Jvm.MethodName)) ∈ lw_good := lw_g2 89 rfl rfl
theorem tw_330 : (Jvm.Cond.selects "OrderlyNets$Levels" ({ cls := "OrderlyNets$Levels", name := "amount", desc := "(I)I" } : Jvm.MethodName) ({ cls := "OrderlyNets$Levels", name := "amount", desc := "(I)I" } : Jvm.MethodName)) ∈ lw_good := lw_g2 90 rfl rfl
theorem tw_331 : (Jvm.Cond.code ({ cls := "OrderlyNets$Levels", name := "amount", desc := "(I)I" } : Jvm.MethodName) prog_5_method_7_code (2 : Nat) (Option.some Jvm.ClassFile.FieldType.int)) ∈ lw_good := lw_g2 91 rfl rfl
theorem tw_332 : (Jvm.Cond.methodLink "OrderlyNets$Levels" (66 : Nat) ({ cls := "OrderlyNets$Levels", name := "firstOf", desc := "(I)I" } : Jvm.MethodName)) ∈ lw_good := lw_g2 92 rfl rfl
theorem tw_334 : (Jvm.Cond.instanceMethod ({ cls := "OrderlyNets$Levels", name := "firstOf", desc := "(I)I" } : Jvm.MethodName)) ∈ lw_good := lw_g2 94 rfl rfl
theorem tw_335 : (Jvm.Cond.code ({ cls := "OrderlyNets$Levels", name := "firstOf", desc := "(I)I" } : Jvm.MethodName) prog_5_method_6_code (2 : Nat) (Option.some Jvm.ClassFile.FieldType.int)) ∈ lw_good := lw_g2 95 rfl rfl
theorem tw_336 : (Jvm.Cond.methodLink "OrderlyNets$Levels" (48 : Nat) ({ cls := "OrderlyNets$Levels", name := "codeOf", desc := "(II)I" } : Jvm.MethodName)) ∈ lw_good := lw_g2 96 rfl rfl
theorem tw_337 : (Jvm.Cond.instanceMethod ({ cls := "OrderlyNets$Levels", name := "codeOf", desc := "(II)I" } : Jvm.MethodName)) ∈ lw_good := lw_g2 97 rfl rfl
theorem tw_338 : (Jvm.Cond.selects "OrderlyNets$Levels" ({ cls := "OrderlyNets$Levels", name := "codeOf", desc := "(II)I" } : Jvm.MethodName) ({ cls := "OrderlyNets$Levels", name := "codeOf", desc := "(II)I" } : Jvm.MethodName)) ∈ lw_good := lw_g2 98 rfl rfl
theorem tw_339 : (Jvm.Cond.code ({ cls := "OrderlyNets$Levels", name := "codeOf", desc := "(II)I" } : Jvm.MethodName) prog_5_method_8_code (4 : Nat) (Option.some Jvm.ClassFile.FieldType.int)) ∈ lw_good := lw_g2 99 rfl rfl
theorem tw_340 : (Jvm.Cond.methodLink "OrderlyNets$Levels" (52 : Nat) ({ cls := "OrderlyNets$Forms", name := "isForm", desc := "(II)Z" } : Jvm.MethodName)) ∈ lw_good := lw_g2 100 rfl rfl
theorem tw_341 : (Jvm.Cond.instanceMethod ({ cls := "OrderlyNets$Forms", name := "isForm", desc := "(II)Z" } : Jvm.MethodName)) ∈ lw_good := lw_g2 101 rfl rfl
theorem tw_342 : (Jvm.Cond.selects "OrderlyNets$Forms" ({ cls := "OrderlyNets$Forms", name := "isForm", desc := "(II)Z" } : Jvm.MethodName) ({ cls := "OrderlyNets$Forms", name := "isForm", desc := "(II)Z" } : Jvm.MethodName)) ∈ lw_good := lw_g2 102 rfl rfl
theorem tw_343 : (Jvm.Cond.code ({ cls := "OrderlyNets$Forms", name := "isForm", desc := "(II)Z" } : Jvm.MethodName) prog_4_method_3_code (3 : Nat) (Option.some Jvm.ClassFile.FieldType.boolean)) ∈ lw_good := lw_g2 103 rfl rfl
theorem tw_344 : (Jvm.Cond.methodLink "OrderlyNets$Forms" (16 : Nat) ({ cls := "OrderlyNets$Forms", name := "begin", desc := "(II)V" } : Jvm.MethodName)) ∈ lw_good := lw_g2 104 rfl rfl
theorem tw_346 : (Jvm.Cond.instanceMethod ({ cls := "OrderlyNets$Forms", name := "begin", desc := "(II)V" } : Jvm.MethodName)) ∈ lw_good := lw_g2 106 rfl rfl
theorem tw_347 : (Jvm.Cond.code ({ cls := "OrderlyNets$Forms", name := "begin", desc := "(II)V" } : Jvm.MethodName) prog_4_method_11_code (3 : Nat) (Option.none : Option Jvm.ClassFile.FieldType)) ∈ lw_good := lw_g2 107 rfl rfl
theorem tw_348 : (Jvm.Cond.methodLink "OrderlyNets$Forms" (73 : Nat) ({ cls := "OrderlyNets$Sketch", name := "draw", desc := "(II)V" } : Jvm.MethodName)) ∈ lw_good := lw_g2 108 rfl rfl
theorem tw_349 : (Jvm.Cond.instanceMethod ({ cls := "OrderlyNets$Sketch", name := "draw", desc := "(II)V" } : Jvm.MethodName)) ∈ lw_good := lw_g2 109 rfl rfl
theorem tw_350 : (Jvm.Cond.selects "OrderlyNets$Sketch" ({ cls := "OrderlyNets$Sketch", name := "draw", desc := "(II)V" } : Jvm.MethodName) ({ cls := "OrderlyNets$Sketch", name := "draw", desc := "(II)V" } : Jvm.MethodName)) ∈ lw_good := lw_g2 110 rfl rfl
theorem tw_351 : (Jvm.Cond.code ({ cls := "OrderlyNets$Sketch", name := "draw", desc := "(II)V" } : Jvm.MethodName) prog_9_method_2_code (7 : Nat) (Option.none : Option Jvm.ClassFile.FieldType)) ∈ lw_good := lw_g2 111 rfl rfl
theorem tw_352 : (Jvm.Cond.methodLink "OrderlyNets$Sketch" (19 : Nat) ({ cls := "java/lang/Math", name := "min", desc := "(II)I" } : Jvm.MethodName)) ∈ lw_good := lw_g2 112 rfl rfl
theorem tw_353 : (Jvm.Cond.static ({ cls := "java/lang/Math", name := "min", desc := "(II)I" } : Jvm.MethodName)) ∈ lw_good := lw_g2 113 rfl rfl
theorem tw_354 : (Jvm.Cond.code ({ cls := "java/lang/Math", name := "min", desc := "(II)I" } : Jvm.MethodName) prog_23_method_69_code (2 : Nat) (Option.some Jvm.ClassFile.FieldType.int)) ∈ lw_good := lw_g2 114 rfl rfl
theorem tw_355 : (Jvm.Cond.methodLink "OrderlyNets$Sketch" (36 : Nat) ({ cls := "OrderlyNets$Code", name := "bits", desc := "(I)I" } : Jvm.MethodName)) ∈ lw_good := lw_g2 115 rfl rfl
theorem tw_356 : (Jvm.Cond.static ({ cls := "OrderlyNets$Code", name := "bits", desc := "(I)I" } : Jvm.MethodName)) ∈ lw_good := lw_g2 116 rfl rfl
theorem tw_357 : (Jvm.Cond.code ({ cls := "OrderlyNets$Code", name := "bits", desc := "(I)I" } : Jvm.MethodName) prog_2_method_2_code (1 : Nat) (Option.some Jvm.ClassFile.FieldType.int)) ∈ lw_good := lw_g2 117 rfl rfl
theorem tw_358 : (Jvm.Cond.methodLink "OrderlyNets$Sketch" (42 : Nat) ({ cls := "OrderlyNets$Sketch", name := "join", desc := "(II)V" } : Jvm.MethodName)) ∈ lw_good := lw_g2 118 rfl rfl
theorem tw_360 : (Jvm.Cond.instanceMethod ({ cls := "OrderlyNets$Sketch", name := "join", desc := "(II)V" } : Jvm.MethodName)) ∈ lw_good := lw_g2 120 rfl rfl
theorem tw_361 : (Jvm.Cond.code ({ cls := "OrderlyNets$Sketch", name := "join", desc := "(II)V" } : Jvm.MethodName) prog_9_method_3_code (3 : Nat) (Option.none : Option Jvm.ClassFile.FieldType)) ∈ lw_good := lw_g2 121 rfl rfl
theorem tw_362 : (Jvm.Cond.methodLink "OrderlyNets$Forms" (77 : Nat) ({ cls := "OrderlyNets$Code", name := "bits", desc := "(I)I" } : Jvm.MethodName)) ∈ lw_good := lw_g2 122 rfl rfl
theorem tw_363 : (Jvm.Cond.methodLink "OrderlyNets$Forms" (32 : Nat) ({ cls := "OrderlyNets$Forms", name := "placeNext", desc := "(IIIJ)V" } : Jvm.MethodName)) ∈ lw_good := lw_g2 123 rfl rfl
theorem tw_365 : (Jvm.Cond.instanceMethod ({ cls := "OrderlyNets$Forms", name := "placeNext", desc := "(IIIJ)V" } : Jvm.MethodName)) ∈ lw_good := lw_g2 125 rfl rfl
theorem tw_366 : (Jvm.Cond.code ({ cls := "OrderlyNets$Forms", name := "placeNext", desc := "(IIIJ)V" } : Jvm.MethodName) prog_4_method_15_code (11 : Nat) (Option.none : Option Jvm.ClassFile.FieldType)) ∈ lw_good := lw_g2 126 rfl rfl
theorem tw_367 : (Jvm.Cond.methodLink "OrderlyNets$Forms" (92 : Nat) ({ cls := "OrderlyNets$Forms", name := "arrive", desc := "(I)V" } : Jvm.MethodName)) ∈ lw_good := lw_g2 127 rfl rfl
theorem tw_369 : (Jvm.Cond.instanceMethod ({ cls := "OrderlyNets$Forms", name := "arrive", desc := "(I)V" } : Jvm.MethodName)) ∈ lw_good := lw_g2 129 rfl rfl
theorem tw_370 : (Jvm.Cond.code ({ cls := "OrderlyNets$Forms", name := "arrive", desc := "(I)V" } : Jvm.MethodName) prog_4_method_17_code (13 : Nat) (Option.none : Option Jvm.ClassFile.FieldType)) ∈ lw_good := lw_g2 130 rfl rfl
theorem tw_371 : (Jvm.Cond.constantLong "OrderlyNets$Forms" (107 : Nat) (7 : Int64)) ∈ lw_good := lw_g2 131 rfl rfl
theorem tw_372 : (Jvm.Cond.methodLink "OrderlyNets$Forms" (96 : Nat) ({ cls := "OrderlyNets$Sketch", name := "block", desc := "(JI)I" } : Jvm.MethodName)) ∈ lw_good := lw_g2 132 rfl rfl
theorem tw_373 : (Jvm.Cond.static ({ cls := "OrderlyNets$Sketch", name := "block", desc := "(JI)I" } : Jvm.MethodName)) ∈ lw_good := lw_g2 133 rfl rfl
theorem tw_374 : (Jvm.Cond.code ({ cls := "OrderlyNets$Sketch", name := "block", desc := "(JI)I" } : Jvm.MethodName) prog_9_method_4_code (3 : Nat) (Option.some Jvm.ClassFile.FieldType.int)) ∈ lw_good := lw_g2 134 rfl rfl
theorem tw_375 : (Jvm.Cond.methodLink "OrderlyNets$Forms" (100 : Nat) ({ cls := "OrderlyNets$Forms", name := "place", desc := "(IIIIJ)V" } : Jvm.MethodName)) ∈ lw_good := lw_g2 135 rfl rfl
theorem tw_377 : (Jvm.Cond.instanceMethod ({ cls := "OrderlyNets$Forms", name := "place", desc := "(IIIIJ)V" } : Jvm.MethodName)) ∈ lw_good := lw_g2 137 rfl rfl
theorem tw_378 : (Jvm.Cond.code ({ cls := "OrderlyNets$Forms", name := "place", desc := "(IIIIJ)V" } : Jvm.MethodName) prog_4_method_16_code (7 : Nat) (Option.none : Option Jvm.ClassFile.FieldType)) ∈ lw_good := lw_g2 138 rfl rfl
theorem tw_379 : (Jvm.Cond.constantLong "OrderlyNets$Forms" (109 : Nat) (-1 : Int64)) ∈ lw_good := lw_g2 139 rfl rfl
theorem tw_380 : (Jvm.Cond.methodLink "OrderlyNets$Forms" (111 : Nat) ({ cls := "OrderlyNets$Sketch", name := "fan", desc := "(I)J" } : Jvm.MethodName)) ∈ lw_good := lw_g2 140 rfl rfl
theorem tw_381 : (Jvm.Cond.instanceMethod ({ cls := "OrderlyNets$Sketch", name := "fan", desc := "(I)J" } : Jvm.MethodName)) ∈ lw_good := lw_g2 141 rfl rfl
theorem tw_382 : (Jvm.Cond.selects "OrderlyNets$Sketch" ({ cls := "OrderlyNets$Sketch", name := "fan", desc := "(I)J" } : Jvm.MethodName) ({ cls := "OrderlyNets$Sketch", name := "fan", desc := "(I)J" } : Jvm.MethodName)) ∈ lw_good := lw_g2 142 rfl rfl
theorem tw_383 : (Jvm.Cond.code ({ cls := "OrderlyNets$Sketch", name := "fan", desc := "(I)J" } : Jvm.MethodName) prog_9_method_5_code (2 : Nat) (Option.some Jvm.ClassFile.FieldType.long)) ∈ lw_good := lw_g2 143 rfl rfl
theorem tw_384 : (Jvm.Cond.methodLink "OrderlyNets$Levels" (58 : Nat) ({ cls := "OrderlyNets$Rules", name := "shapeKept", desc := "(IILOrderlyNets$Sketch;)Z" } : Jvm.MethodName)) ∈ lw_good := lw_g2 144 rfl rfl
theorem tw_385 : (Jvm.Cond.instanceMethod ({ cls := "OrderlyNets$Rules", name := "shapeKept", desc := "(IILOrderlyNets$Sketch;)Z" } : Jvm.MethodName)) ∈ lw_good := lw_g2 145 rfl rfl
theorem tw_386 : (Jvm.Cond.selects "OrderlyNets$Rules" ({ cls := "OrderlyNets$Rules", name := "shapeKept", desc := "(IILOrderlyNets$Sketch;)Z" } : Jvm.MethodName) ({ cls := "OrderlyNets$Rules", name := "shapeKept", desc := "(IILOrderlyNets$Sketch;)Z" } : Jvm.MethodName)) ∈ lw_good := lw_g2 146 rfl rfl
theorem tw_387 : (Jvm.Cond.code ({ cls := "OrderlyNets$Rules", name := "shapeKept", desc := "(IILOrderlyNets$Sketch;)Z" } : Jvm.MethodName) prog_8_method_8_code (4 : Nat) (Option.some Jvm.ClassFile.FieldType.boolean)) ∈ lw_good := lw_g2 147 rfl rfl
theorem tw_388 : (Jvm.Cond.methodLink "OrderlyNets$Rules" (74 : Nat) ({ cls := "OrderlyNets$Sketch", name := "draw", desc := "(II)V" } : Jvm.MethodName)) ∈ lw_good := lw_g2 148 rfl rfl
theorem tw_389 : (Jvm.Cond.methodLink "OrderlyNets$Rules" (80 : Nat) ({ cls := "OrderlyNets$Sketch", name := "mostNear", desc := "()I" } : Jvm.MethodName)) ∈ lw_good := lw_g2 149 rfl rfl
theorem tw_390 : (Jvm.Cond.instanceMethod ({ cls := "OrderlyNets$Sketch", name := "mostNear", desc := "()I" } : Jvm.MethodName)) ∈ lw_good := lw_g2 150 rfl rfl
theorem tw_391 : (Jvm.Cond.selects "OrderlyNets$Sketch" ({ cls := "OrderlyNets$Sketch", name := "mostNear", desc := "()I" } : Jvm.MethodName) ({ cls := "OrderlyNets$Sketch", name := "mostNear", desc := "()I" } : Jvm.MethodName)) ∈ lw_good := lw_g2 151 rfl rfl
theorem tw_392 : (Jvm.Cond.code ({ cls := "OrderlyNets$Sketch", name := "mostNear", desc := "()I" } : Jvm.MethodName) prog_9_method_7_code (3 : Nat) (Option.some Jvm.ClassFile.FieldType.int)) ∈ lw_good := lw_g2 152 rfl rfl
theorem tw_393 : (Jvm.Cond.methodLink "OrderlyNets$Sketch" (46 : Nat) ({ cls := "OrderlyNets$Sketch", name := "nearOf", desc := "(I)I" } : Jvm.MethodName)) ∈ lw_good := lw_g2 153 rfl rfl
theorem tw_394 : (Jvm.Cond.instanceMethod ({ cls := "OrderlyNets$Sketch", name := "nearOf", desc := "(I)I" } : Jvm.MethodName)) ∈ lw_good := lw_g2 154 rfl rfl
theorem tw_395 : (Jvm.Cond.selects "OrderlyNets$Sketch" ({ cls := "OrderlyNets$Sketch", name := "nearOf", desc := "(I)I" } : Jvm.MethodName) ({ cls := "OrderlyNets$Sketch", name := "nearOf", desc := "(I)I" } : Jvm.MethodName)) ∈ lw_good := lw_g2 155 rfl rfl
theorem tw_396 : (Jvm.Cond.code ({ cls := "OrderlyNets$Sketch", name := "nearOf", desc := "(I)I" } : Jvm.MethodName) prog_9_method_6_code (2 : Nat) (Option.some Jvm.ClassFile.FieldType.int)) ∈ lw_good := lw_g2 156 rfl rfl
theorem tw_397 : (Jvm.Cond.methodLink "OrderlyNets$Sketch" (49 : Nat) ({ cls := "java/lang/Integer", name := "bitCount", desc := "(I)I" } : Jvm.MethodName)) ∈ lw_good := lw_g2 157 rfl rfl
theorem tw_398 : (Jvm.Cond.static ({ cls := "java/lang/Integer", name := "bitCount", desc := "(I)I" } : Jvm.MethodName)) ∈ lw_good := lw_g2 158 rfl rfl
theorem tw_399 : (Jvm.Cond.code ({ cls := "java/lang/Integer", name := "bitCount", desc := "(I)I" } : Jvm.MethodName) prog_22_method_49_code (1 : Nat) (Option.some Jvm.ClassFile.FieldType.int)) ∈ lw_good := lw_g2 159 rfl rfl
theorem tw_400 : (Jvm.Cond.constant "java/lang/Integer" (265 : Nat) (1431655765 : Int32)) ∈ lw_good := lw_g2 160 rfl rfl
theorem tw_401 : (Jvm.Cond.constant "java/lang/Integer" (266 : Nat) (858993459 : Int32)) ∈ lw_good := lw_g2 161 rfl rfl
theorem tw_402 : (Jvm.Cond.constant "java/lang/Integer" (267 : Nat) (252645135 : Int32)) ∈ lw_good := lw_g2 162 rfl rfl
theorem tw_403 : (Jvm.Cond.methodLink "OrderlyNets$Sketch" (54 : Nat) ({ cls := "java/lang/Math", name := "max", desc := "(II)I" } : Jvm.MethodName)) ∈ lw_good := lw_g2 163 rfl rfl
theorem tw_404 : (Jvm.Cond.static ({ cls := "java/lang/Math", name := "max", desc := "(II)I" } : Jvm.MethodName)) ∈ lw_good := lw_g2 164 rfl rfl
theorem tw_405 : (Jvm.Cond.code ({ cls := "java/lang/Math", name := "max", desc := "(II)I" } : Jvm.MethodName) prog_23_method_65_code (2 : Nat) (Option.some Jvm.ClassFile.FieldType.int)) ∈ lw_good := lw_g2 165 rfl rfl
theorem tw_406 : (Jvm.Cond.methodLink "OrderlyNets$Rules" (84 : Nat) ({ cls := "OrderlyNets$Sketch", name := "joinsOneColour", desc := "()Z" } : Jvm.MethodName)) ∈ lw_good := lw_g2 166 rfl rfl
theorem tw_407 : (Jvm.Cond.instanceMethod ({ cls := "OrderlyNets$Sketch", name := "joinsOneColour", desc := "()Z" } : Jvm.MethodName)) ∈ lw_good := lw_g2 167 rfl rfl
theorem tw_408 : (Jvm.Cond.selects "OrderlyNets$Sketch" ({ cls := "OrderlyNets$Sketch", name := "joinsOneColour", desc := "()Z" } : Jvm.MethodName) ({ cls := "OrderlyNets$Sketch", name := "joinsOneColour", desc := "()Z" } : Jvm.MethodName)) ∈ lw_good := lw_g2 168 rfl rfl
theorem tw_409 : (Jvm.Cond.code ({ cls := "OrderlyNets$Sketch", name := "joinsOneColour", desc := "()Z" } : Jvm.MethodName) prog_9_method_9_code (3 : Nat) (Option.some Jvm.ClassFile.FieldType.boolean)) ∈ lw_good := lw_g2 169 rfl rfl
theorem tw_410 : (Jvm.Cond.methodLink "OrderlyNets$Rules" (88 : Nat) ({ cls := "OrderlyNets$Sketch", name := "circles", desc := "()I" } : Jvm.MethodName)) ∈ lw_good := lw_g2 170 rfl rfl
theorem tw_411 : (Jvm.Cond.instanceMethod ({ cls := "OrderlyNets$Sketch", name := "circles", desc := "()I" } : Jvm.MethodName)) ∈ lw_good := lw_g2 171 rfl rfl
theorem tw_412 : (Jvm.Cond.selects "OrderlyNets$Sketch" ({ cls := "OrderlyNets$Sketch", name := "circles", desc := "()I" } : Jvm.MethodName) ({ cls := "OrderlyNets$Sketch", name := "circles", desc := "()I" } : Jvm.MethodName)) ∈ lw_good := lw_g2 172 rfl rfl
theorem tw_413 : (Jvm.Cond.code ({ cls := "OrderlyNets$Sketch", name := "circles", desc := "()I" } : Jvm.MethodName) prog_9_method_14_code (3 : Nat) (Option.some Jvm.ClassFile.FieldType.int)) ∈ lw_good := lw_g2 173 rfl rfl
theorem tw_414 : (Jvm.Cond.methodLink "OrderlyNets$Sketch" (60 : Nat) ({ cls := "OrderlyNets$Sketch", name := "closeFrom", desc := "(IIII)I" } : Jvm.MethodName)) ∈ lw_good := lw_g2 174 rfl rfl
theorem tw_416 : (Jvm.Cond.instanceMethod ({ cls := "OrderlyNets$Sketch", name := "closeFrom", desc := "(IIII)I" } : Jvm.MethodName)) ∈ lw_good := lw_g2 176 rfl rfl
theorem tw_417 : (Jvm.Cond.code ({ cls := "OrderlyNets$Sketch", name := "closeFrom", desc := "(IIII)I" } : Jvm.MethodName) prog_9_method_16_code (7 : Nat) (Option.some Jvm.ClassFile.FieldType.int)) ∈ lw_good := lw_g2 177 rfl rfl
theorem tw_418 : (Jvm.Cond.methodLink "OrderlyNets$Sketch" (71 : Nat) ({ cls := "OrderlyNets$Sketch", name := "stepTo", desc := "(IIII)I" } : Jvm.MethodName)) ∈ lw_good := lw_g2 178 rfl rfl
theorem tw_420 : (Jvm.Cond.instanceMethod ({ cls := "OrderlyNets$Sketch", name := "stepTo", desc := "(IIII)I" } : Jvm.MethodName)) ∈ lw_good := lw_g2 180 rfl rfl
theorem tw_421 : (Jvm.Cond.code ({ cls := "OrderlyNets$Sketch", name := "stepTo", desc := "(IIII)I" } : Jvm.MethodName) prog_9_method_17_code (5 : Nat) (Option.some Jvm.ClassFile.FieldType.int)) ∈ lw_good := lw_g2 181 rfl rfl
theorem tw_422 : (Jvm.Cond.methodLink "OrderlyNets$Levels" (62 : Nat) ({ cls := "OrderlyNets$Rules", name := "patternsKept", desc := "(IILOrderlyNets$Forms;)Z" } : Jvm.MethodName)) ∈ lw_good := lw_g2 182 rfl rfl
theorem tw_423 : (Jvm.Cond.instanceMethod ({ cls := "OrderlyNets$Rules", name := "patternsKept", desc := "(IILOrderlyNets$Forms;)Z" } : Jvm.MethodName)) ∈ lw_good := lw_g2 183 rfl rfl
theorem tw_424 : (Jvm.Cond.selects "OrderlyNets$Rules" ({ cls := "OrderlyNets$Rules", name := "patternsKept", desc := "(IILOrderlyNets$Forms;)Z" } : Jvm.MethodName) ({ cls := "OrderlyNets$Rules", name := "patternsKept", desc := "(IILOrderlyNets$Forms;)Z" } : Jvm.MethodName)) ∈ lw_good := lw_g2 184 rfl rfl
theorem tw_425 : (Jvm.Cond.code ({ cls := "OrderlyNets$Rules", name := "patternsKept", desc := "(IILOrderlyNets$Forms;)Z" } : Jvm.MethodName) prog_8_method_9_code (6 : Nat) (Option.some Jvm.ClassFile.FieldType.boolean)) ∈ lw_good := lw_g2 185 rfl rfl
theorem tw_426 : (Jvm.Cond.methodLink "OrderlyNets$Rules" (91 : Nat) ({ cls := "OrderlyNets$Code", name := "allEdges", desc := "(I)I" } : Jvm.MethodName)) ∈ lw_good := lw_g2 186 rfl rfl
theorem tw_427 : (Jvm.Cond.static ({ cls := "OrderlyNets$Code", name := "allEdges", desc := "(I)I" } : Jvm.MethodName)) ∈ lw_good := lw_g2 187 rfl rfl
theorem tw_428 : (Jvm.Cond.code ({ cls := "OrderlyNets$Code", name := "allEdges", desc := "(I)I" } : Jvm.MethodName) prog_2_method_6_code (1 : Nat) (Option.some Jvm.ClassFile.FieldType.int)) ∈ lw_good := lw_g2 188 rfl rfl
theorem tw_429 : (Jvm.Cond.methodLink "OrderlyNets$Code" (7 : Nat) ({ cls := "OrderlyNets$Code", name := "bits", desc := "(I)I" } : Jvm.MethodName)) ∈ lw_good := lw_g2 189 rfl rfl
theorem tw_430 : (Jvm.Cond.methodLink "OrderlyNets$Code" (25 : Nat) ({ cls := "OrderlyNets$Code", name := "allColours", desc := "(I)I" } : Jvm.MethodName)) ∈ lw_good := lw_g2 190 rfl rfl
theorem tw_431 : (Jvm.Cond.static ({ cls := "OrderlyNets$Code", name := "allColours", desc := "(I)I" } : Jvm.MethodName)) ∈ lw_good := lw_g2 191 rfl rfl
theorem tw_432 : (Jvm.Cond.code ({ cls := "OrderlyNets$Code", name := "allColours", desc := "(I)I" } : Jvm.MethodName) prog_2_method_5_code (3 : Nat) (Option.some Jvm.ClassFile.FieldType.int)) ∈ lw_good := lw_g2 192 rfl rfl
theorem tw_433 : (Jvm.Cond.methodLink "OrderlyNets$Code" (22 : Nat) ({ cls := "OrderlyNets$Code", name := "dark", desc := "(II)I" } : Jvm.MethodName)) ∈ lw_good := lw_g2 193 rfl rfl
theorem tw_434 : (Jvm.Cond.static ({ cls := "OrderlyNets$Code", name := "dark", desc := "(II)I" } : Jvm.MethodName)) ∈ lw_good := lw_g2 194 rfl rfl
theorem tw_435 : (Jvm.Cond.code ({ cls := "OrderlyNets$Code", name := "dark", desc := "(II)I" } : Jvm.MethodName) prog_2_method_3_code (2 : Nat) (Option.some Jvm.ClassFile.FieldType.int)) ∈ lw_good := lw_g2 195 rfl rfl
theorem tw_436 : (Jvm.Cond.methodLink "OrderlyNets$Rules" (97 : Nat) ({ cls := "OrderlyNets$Forms", name := "partsLike", desc := "(IIII)I" } : Jvm.MethodName)) ∈ lw_good := lw_g2 196 rfl rfl
theorem tw_437 : (Jvm.Cond.instanceMethod ({ cls := "OrderlyNets$Forms", name := "partsLike", desc := "(IIII)I" } : Jvm.MethodName)) ∈ lw_good := lw_g2 197 rfl rfl
theorem tw_438 : (Jvm.Cond.selects "OrderlyNets$Forms" ({ cls := "OrderlyNets$Forms", name := "partsLike", desc := "(IIII)I" } : Jvm.MethodName) ({ cls := "OrderlyNets$Forms", name := "partsLike", desc := "(IIII)I" } : Jvm.MethodName)) ∈ lw_good := lw_g2 198 rfl rfl
theorem tw_439 : (Jvm.Cond.code ({ cls := "OrderlyNets$Forms", name := "partsLike", desc := "(IIII)I" } : Jvm.MethodName) prog_4_method_6_code (9 : Nat) (Option.some Jvm.ClassFile.FieldType.int)) ∈ lw_good := lw_g2 199 rfl rfl
theorem tw_440 : (Jvm.Cond.methodLink "OrderlyNets$Forms" (46 : Nat) ({ cls := "java/lang/Integer", name := "bitCount", desc := "(I)I" } : Jvm.MethodName)) ∈ lw_good := lw_g2 200 rfl rfl
theorem tw_441 : (Jvm.Cond.methodLink "OrderlyNets$Forms" (52 : Nat) ({ cls := "OrderlyNets$Code", name := "part", desc := "(III)I" } : Jvm.MethodName)) ∈ lw_good := lw_g2 201 rfl rfl
theorem tw_442 : (Jvm.Cond.static ({ cls := "OrderlyNets$Code", name := "part", desc := "(III)I" } : Jvm.MethodName)) ∈ lw_good := lw_g2 202 rfl rfl
theorem tw_443 : (Jvm.Cond.code ({ cls := "OrderlyNets$Code", name := "part", desc := "(III)I" } : Jvm.MethodName) prog_2_method_11_code (6 : Nat) (Option.some Jvm.ClassFile.FieldType.int)) ∈ lw_good := lw_g2 203 rfl rfl
theorem tw_444 : (Jvm.Cond.methodLink "OrderlyNets$Code" (28 : Nat) ({ cls := "OrderlyNets$Code", name := "edge", desc := "(III)I" } : Jvm.MethodName)) ∈ lw_good := lw_g2 204 rfl rfl
theorem tw_445 : (Jvm.Cond.static ({ cls := "OrderlyNets$Code", name := "edge", desc := "(III)I" } : Jvm.MethodName)) ∈ lw_good := lw_g2 205 rfl rfl
theorem tw_446 : (Jvm.Cond.code ({ cls := "OrderlyNets$Code", name := "edge", desc := "(III)I" } : Jvm.MethodName) prog_2_method_4_code (3 : Nat) (Option.some Jvm.ClassFile.FieldType.int)) ∈ lw_good := lw_g2 206 rfl rfl
theorem tw_447 : (Jvm.Cond.methodLink "OrderlyNets$Code" (13 : Nat) ({ cls := "java/lang/Math", name := "max", desc := "(II)I" } : Jvm.MethodName)) ∈ lw_good := lw_g2 207 rfl rfl
theorem tw_448 : (Jvm.Cond.methodLink "OrderlyNets$Code" (19 : Nat) ({ cls := "java/lang/Math", name := "min", desc := "(II)I" } : Jvm.MethodName)) ∈ lw_good := lw_g2 208 rfl rfl
theorem tw_449 : (Jvm.Cond.methodLink "OrderlyNets$Forms" (39 : Nat) ({ cls := "OrderlyNets$Forms", name := "leastOf", desc := "(II)I" } : Jvm.MethodName)) ∈ lw_good := lw_g2 209 rfl rfl
theorem tw_450 : (Jvm.Cond.instanceMethod ({ cls := "OrderlyNets$Forms", name := "leastOf", desc := "(II)I" } : Jvm.MethodName)) ∈ lw_good := lw_g2 210 rfl rfl
theorem tw_451 : (Jvm.Cond.selects "OrderlyNets$Forms" ({ cls := "OrderlyNets$Forms", name := "leastOf", desc := "(II)I" } : Jvm.MethodName) ({ cls := "OrderlyNets$Forms", name := "leastOf", desc := "(II)I" } : Jvm.MethodName)) ∈ lw_good := lw_g2 211 rfl rfl
theorem tw_452 : (Jvm.Cond.code ({ cls := "OrderlyNets$Forms", name := "leastOf", desc := "(II)I" } : Jvm.MethodName) prog_4_method_4_code (3 : Nat) (Option.some Jvm.ClassFile.FieldType.int)) ∈ lw_good := lw_g2 212 rfl rfl
theorem tw_453 : (Jvm.Cond.fieldLink "OrderlyNets" (10 : Nat) "OrderlyNets" "tape" "LOrderlyNets$Tape;") ∈ lw_good := lw_g2 213 rfl rfl
theorem tw_454 : (Jvm.Cond.fieldLink "OrderlyNets" (19 : Nat) "OrderlyNets" "rules" "LOrderlyNets$Rules;") ∈ lw_good := lw_g2 214 rfl rfl
theorem tw_455 : (Jvm.Cond.fieldLink "OrderlyNets" (23 : Nat) "OrderlyNets" "draft" "LOrderlyNets$Rules;") ∈ lw_good := lw_g2 215 rfl rfl
theorem tw_456 : (Jvm.Cond.fieldLink "OrderlyNets" (26 : Nat) "OrderlyNets" "keptRules" "LOrderlyNets$Rules;") ∈ lw_good := lw_g2 216 rfl rfl
theorem tw_457 : (Jvm.Cond.fieldLink "OrderlyNets" (32 : Nat) "OrderlyNets" "levels" "LOrderlyNets$Levels;") ∈ lw_good := lw_g2 217 rfl rfl
theorem tw_458 : (Jvm.Cond.fieldLink "OrderlyNets" (36 : Nat) "OrderlyNets" "keptLevels" "LOrderlyNets$Levels;") ∈ lw_good := lw_g2 218 rfl rfl
theorem tw_459 : (Jvm.Cond.fieldLink "OrderlyNets" (42 : Nat) "OrderlyNets" "walkers" "LOrderlyNets$Walkers;") ∈ lw_good := lw_g2 219 rfl rfl
theorem tw_460 : (Jvm.Cond.fieldLink "OrderlyNets" (46 : Nat) "OrderlyNets" "keptWalkers" "LOrderlyNets$Walkers;") ∈ lw_good := lw_g2 220 rfl rfl
theorem tw_461 : (Jvm.Cond.fieldLink "OrderlyNets" (368 : Nat) "OrderlyNets" "hasImage" "Z") ∈ lw_good := lw_g2 221 rfl rfl
theorem tw_462 : (Jvm.Cond.fieldLink "OrderlyNets" (52 : Nat) "OrderlyNets" "texts" "LOrderlyNets$Texts;") ∈ lw_good := lw_g2 222 rfl rfl
theorem tw_463 : (Jvm.Cond.fieldLink "OrderlyNets" (59 : Nat) "OrderlyNets" "page" "LOrderlyNets$Page;") ∈ lw_good := lw_g2 223 rfl rfl
theorem tw_464 : (Jvm.Cond.fieldLink "OrderlyNets" (66 : Nat) "OrderlyNets" "forms" "LOrderlyNets$Forms;") ∈ lw_good := lw_g2 224 rfl rfl
theorem tw_465 : (Jvm.Cond.fieldLink "OrderlyNets" (70 : Nat) "OrderlyNets" "toldForms" "LOrderlyNets$Forms;") ∈ lw_good := lw_g2 225 rfl rfl
theorem tw_466 : (Jvm.Cond.fieldLink "OrderlyNets" (76 : Nat) "OrderlyNets" "sketch" "LOrderlyNets$Sketch;") ∈ lw_good := lw_g2 226 rfl rfl
theorem tw_467 : (Jvm.Cond.fieldLink "OrderlyNets" (83 : Nat) "OrderlyNets" "match" "LOrderlyNets$Match;") ∈ lw_good := lw_g2 227 rfl rfl
theorem tw_468 : (Jvm.Cond.fieldLink "OrderlyNets" (90 : Nat) "OrderlyNets" "cycleSums" "LOrderlyNets$Cycles;") ∈ lw_good := lw_g2 228 rfl rfl
theorem tw_469 : (Jvm.Cond.fieldLink "OrderlyNets" (94 : Nat) "OrderlyNets" "decks" "[J") ∈ lw_good := lw_g2 229 rfl rfl
theorem tw_509 : (Jvm.Cond.methodLink "OrderlyNets" (102 : Nat) ({ cls := "OrderlyNets$Tape", name := "hasRoom", desc := "()Z" } : Jvm.MethodName)) ∈ lw_good := lw_g3 29 rfl rfl
theorem tw_510 : (Jvm.Cond.instanceMethod ({ cls := "OrderlyNets$Tape", name := "hasRoom", desc := "()Z" } : Jvm.MethodName)) ∈ lw_good := lw_g3 30 rfl rfl
theorem tw_511 : (Jvm.Cond.selects "OrderlyNets$Tape" ({ cls := "OrderlyNets$Tape", name := "hasRoom", desc := "()Z" } : Jvm.MethodName) ({ cls := "OrderlyNets$Tape", name := "hasRoom", desc := "()Z" } : Jvm.MethodName)) ∈ lw_good := lw_g3 31 rfl rfl
theorem tw_512 : (Jvm.Cond.code ({ cls := "OrderlyNets$Tape", name := "hasRoom", desc := "()Z" } : Jvm.MethodName) prog_10_method_2_code (1 : Nat) (Option.some Jvm.ClassFile.FieldType.boolean)) ∈ lw_good := lw_g3 32 rfl rfl
theorem tw_513 : (Jvm.Cond.methodLink "OrderlyNets" (106 : Nat) ({ cls := "OrderlyNets$Tape", name := "append", desc := "(I)V" } : Jvm.MethodName)) ∈ lw_good := lw_g3 33 rfl rfl
theorem tw_514 : (Jvm.Cond.instanceMethod ({ cls := "OrderlyNets$Tape", name := "append", desc := "(I)V" } : Jvm.MethodName)) ∈ lw_good := lw_g3 34 rfl rfl
theorem tw_515 : (Jvm.Cond.selects "OrderlyNets$Tape" ({ cls := "OrderlyNets$Tape", name := "append", desc := "(I)V" } : Jvm.MethodName) ({ cls := "OrderlyNets$Tape", name := "append", desc := "(I)V" } : Jvm.MethodName)) ∈ lw_good := lw_g3 35 rfl rfl
theorem tw_516 : (Jvm.Cond.code ({ cls := "OrderlyNets$Tape", name := "append", desc := "(I)V" } : Jvm.MethodName) prog_10_method_3_code (3 : Nat) (Option.none : Option Jvm.ClassFile.FieldType)) ∈ lw_good := lw_g3 36 rfl rfl
theorem tw_529 : (Jvm.Cond.methodLink "OrderlyNets" (146 : Nat) ({ cls := "OrderlyNets$Levels", name := "amount", desc := "(I)I" } : Jvm.MethodName)) ∈ lw_good := lw_g3 49 rfl rfl
theorem tw_530 : (Jvm.Cond.methodLink "OrderlyNets" (256 : Nat) ({ cls := "OrderlyNets$Levels", name := "codeOf", desc := "(II)I" } : Jvm.MethodName)) ∈ lw_good := lw_g3 50 rfl rfl
theorem tw_531 : (Jvm.Cond.methodLink "OrderlyNets" (177 : Nat) ({ cls := "OrderlyNets$Sketch", name := "draw", desc := "(II)V" } : Jvm.MethodName)) ∈ lw_good := lw_g3 51 rfl rfl
theorem tw_532 : (Jvm.Cond.methodLink "OrderlyNets" (212 : Nat) ({ cls := "OrderlyNets$Rules", name := "endsKept", desc := "(IILOrderlyNets$Sketch;)Z" } : Jvm.MethodName)) ∈ lw_good := lw_g3 52 rfl rfl
theorem tw_533 : (Jvm.Cond.instanceMethod ({ cls := "OrderlyNets$Rules", name := "endsKept", desc := "(IILOrderlyNets$Sketch;)Z" } : Jvm.MethodName)) ∈ lw_good := lw_g3 53 rfl rfl
theorem tw_534 : (Jvm.Cond.selects "OrderlyNets$Rules" ({ cls := "OrderlyNets$Rules", name := "endsKept", desc := "(IILOrderlyNets$Sketch;)Z" } : Jvm.MethodName) ({ cls := "OrderlyNets$Rules", name := "endsKept", desc := "(IILOrderlyNets$Sketch;)Z" } : Jvm.MethodName)) ∈ lw_good := lw_g3 54 rfl rfl
theorem tw_535 : (Jvm.Cond.code ({ cls := "OrderlyNets$Rules", name := "endsKept", desc := "(IILOrderlyNets$Sketch;)Z" } : Jvm.MethodName) prog_8_method_10_code (5 : Nat) (Option.some Jvm.ClassFile.FieldType.boolean)) ∈ lw_good := lw_g3 55 rfl rfl
theorem tw_536 : (Jvm.Cond.methodLink "OrderlyNets$Rules" (101 : Nat) ({ cls := "OrderlyNets$Code", name := "edges", desc := "(II)I" } : Jvm.MethodName)) ∈ lw_good := lw_g3 56 rfl rfl
theorem tw_537 : (Jvm.Cond.static ({ cls := "OrderlyNets$Code", name := "edges", desc := "(II)I" } : Jvm.MethodName)) ∈ lw_good := lw_g3 57 rfl rfl
theorem tw_538 : (Jvm.Cond.code ({ cls := "OrderlyNets$Code", name := "edges", desc := "(II)I" } : Jvm.MethodName) prog_2_method_8_code (2 : Nat) (Option.some Jvm.ClassFile.FieldType.int)) ∈ lw_good := lw_g3 58 rfl rfl
theorem tw_539 : (Jvm.Cond.methodLink "OrderlyNets$Code" (32 : Nat) ({ cls := "OrderlyNets$Code", name := "allEdges", desc := "(I)I" } : Jvm.MethodName)) ∈ lw_good := lw_g3 59 rfl rfl
theorem tw_540 : (Jvm.Cond.methodLink "OrderlyNets$Code" (35 : Nat) ({ cls := "java/lang/Integer", name := "bitCount", desc := "(I)I" } : Jvm.MethodName)) ∈ lw_good := lw_g3 60 rfl rfl
theorem tw_541 : (Jvm.Cond.methodLink "OrderlyNets$Rules" (104 : Nat) ({ cls := "OrderlyNets$Sketch", name := "leastNear", desc := "()I" } : Jvm.MethodName)) ∈ lw_good := lw_g3 61 rfl rfl
theorem tw_542 : (Jvm.Cond.instanceMethod ({ cls := "OrderlyNets$Sketch", name := "leastNear", desc := "()I" } : Jvm.MethodName)) ∈ lw_good := lw_g3 62 rfl rfl
theorem tw_543 : (Jvm.Cond.selects "OrderlyNets$Sketch" ({ cls := "OrderlyNets$Sketch", name := "leastNear", desc := "()I" } : Jvm.MethodName) ({ cls := "OrderlyNets$Sketch", name := "leastNear", desc := "()I" } : Jvm.MethodName)) ∈ lw_good := lw_g3 63 rfl rfl
theorem tw_544 : (Jvm.Cond.code ({ cls := "OrderlyNets$Sketch", name := "leastNear", desc := "()I" } : Jvm.MethodName) prog_9_method_8_code (3 : Nat) (Option.some Jvm.ClassFile.FieldType.int)) ∈ lw_good := lw_g3 64 rfl rfl
theorem tw_545 : (Jvm.Cond.methodLink "OrderlyNets$Rules" (107 : Nat) ({ cls := "OrderlyNets$Sketch", name := "pieces", desc := "()I" } : Jvm.MethodName)) ∈ lw_good := lw_g3 65 rfl rfl
theorem tw_546 : (Jvm.Cond.instanceMethod ({ cls := "OrderlyNets$Sketch", name := "pieces", desc := "()I" } : Jvm.MethodName)) ∈ lw_good := lw_g3 66 rfl rfl
theorem tw_547 : (Jvm.Cond.selects "OrderlyNets$Sketch" ({ cls := "OrderlyNets$Sketch", name := "pieces", desc := "()I" } : Jvm.MethodName) ({ cls := "OrderlyNets$Sketch", name := "pieces", desc := "()I" } : Jvm.MethodName)) ∈ lw_good := lw_g3 67 rfl rfl
theorem tw_548 : (Jvm.Cond.code ({ cls := "OrderlyNets$Sketch", name := "pieces", desc := "()I" } : Jvm.MethodName) prog_9_method_11_code (6 : Nat) (Option.some Jvm.ClassFile.FieldType.int)) ∈ lw_good := lw_g3 68 rfl rfl
theorem tw_549 : (Jvm.Cond.methodLink "OrderlyNets$Sketch" (57 : Nat) ({ cls := "OrderlyNets$Sketch", name := "oneStepOn", desc := "(I)I" } : Jvm.MethodName)) ∈ lw_good := lw_g3 69 rfl rfl
theorem tw_551 : (Jvm.Cond.instanceMethod ({ cls := "OrderlyNets$Sketch", name := "oneStepOn", desc := "(I)I" } : Jvm.MethodName)) ∈ lw_good := lw_g3 71 rfl rfl
theorem tw_552 : (Jvm.Cond.code ({ cls := "OrderlyNets$Sketch", name := "oneStepOn", desc := "(I)I" } : Jvm.MethodName) prog_9_method_10_code (4 : Nat) (Option.some Jvm.ClassFile.FieldType.int)) ∈ lw_good := lw_g3 72 rfl rfl
theorem tw_557 : (Jvm.Cond.methodLink "OrderlyNets" (359 : Nat) ({ cls := "OrderlyNets$Page", name := "at", desc := "(I)I" } : Jvm.MethodName)) ∈ lw_good := lw_g3 77 rfl rfl
theorem tw_558 : (Jvm.Cond.instanceMethod ({ cls := "OrderlyNets$Page", name := "at", desc := "(I)I" } : Jvm.MethodName)) ∈ lw_good := lw_g3 78 rfl rfl
theorem tw_559 : (Jvm.Cond.selects "OrderlyNets$Page" ({ cls := "OrderlyNets$Page", name := "at", desc := "(I)I" } : Jvm.MethodName) ({ cls := "OrderlyNets$Page", name := "at", desc := "(I)I" } : Jvm.MethodName)) ∈ lw_good := lw_g3 79 rfl rfl
theorem tw_560 : (Jvm.Cond.code ({ cls := "OrderlyNets$Page", name := "at", desc := "(I)I" } : Jvm.MethodName) prog_7_method_2_code (2 : Nat) (Option.some Jvm.ClassFile.FieldType.int)) ∈ lw_good := lw_g3 80 rfl rfl
theorem tw_565 : (Jvm.Cond.methodLink "OrderlyNets" (132 : Nat) ({ cls := "OrderlyNets$Rules", name := "copyFrom", desc := "(LOrderlyNets$Rules;)V" } : Jvm.MethodName)) ∈ lw_good := lw_g3 85 rfl rfl
theorem tw_566 : (Jvm.Cond.instanceMethod ({ cls := "OrderlyNets$Rules", name := "copyFrom", desc := "(LOrderlyNets$Rules;)V" } : Jvm.MethodName)) ∈ lw_good := lw_g3 86 rfl rfl
theorem tw_567 : (Jvm.Cond.selects "OrderlyNets$Rules" ({ cls := "OrderlyNets$Rules", name := "copyFrom", desc := "(LOrderlyNets$Rules;)V" } : Jvm.MethodName) ({ cls := "OrderlyNets$Rules", name := "copyFrom", desc := "(LOrderlyNets$Rules;)V" } : Jvm.MethodName)) ∈ lw_good := lw_g3 87 rfl rfl
theorem tw_568 : (Jvm.Cond.code ({ cls := "OrderlyNets$Rules", name := "copyFrom", desc := "(LOrderlyNets$Rules;)V" } : Jvm.MethodName) prog_8_method_3_code (2 : Nat) (Option.none : Option Jvm.ClassFile.FieldType)) ∈ lw_good := lw_g3 88 rfl rfl
theorem tw_569 : (Jvm.Cond.methodLink "OrderlyNets$Rules" (62 : Nat) ({ cls := "java/lang/System", name := "arraycopy", desc := "(Ljava/lang/Object;ILjava/lang/Object;II)V" } : Jvm.MethodName)) ∈ lw_good := lw_g3 89 rfl rfl
theorem tw_570 : (Jvm.Cond.static ({ cls := "java/lang/System", name := "arraycopy", desc := "(Ljava/lang/Object;ILjava/lang/Object;II)V" } : Jvm.MethodName)) ∈ lw_good := lw_g3 90 rfl rfl
theorem tw_571 : (Jvm.Cond.native ({ cls := "java/lang/System", name := "arraycopy", desc := "(Ljava/lang/Object;ILjava/lang/Object;II)V" } : Jvm.MethodName)) ∈ lw_good := lw_g3 91 rfl rfl
theorem tw_572 : (Jvm.Cond.methodLink "OrderlyNets" (362 : Nat) ({ cls := "OrderlyNets$Levels", name := "copyFrom", desc := "(LOrderlyNets$Levels;)V" } : Jvm.MethodName)) ∈ lw_good := lw_g3 92 rfl rfl
theorem tw_573 : (Jvm.Cond.instanceMethod ({ cls := "OrderlyNets$Levels", name := "copyFrom", desc := "(LOrderlyNets$Levels;)V" } : Jvm.MethodName)) ∈ lw_good := lw_g3 93 rfl rfl
theorem tw_574 : (Jvm.Cond.selects "OrderlyNets$Levels" ({ cls := "OrderlyNets$Levels", name := "copyFrom", desc := "(LOrderlyNets$Levels;)V" } : Jvm.MethodName) ({ cls := "OrderlyNets$Levels", name := "copyFrom", desc := "(LOrderlyNets$Levels;)V" } : Jvm.MethodName)) ∈ lw_good := lw_g3 94 rfl rfl
theorem tw_575 : (Jvm.Cond.code ({ cls := "OrderlyNets$Levels", name := "copyFrom", desc := "(LOrderlyNets$Levels;)V" } : Jvm.MethodName) prog_5_method_2_code (2 : Nat) (Option.none : Option Jvm.ClassFile.FieldType)) ∈ lw_good := lw_g3 95 rfl rfl
theorem tw_576 : (Jvm.Cond.methodLink "OrderlyNets$Levels" (18 : Nat) ({ cls := "java/lang/System", name := "arraycopy", desc := "(Ljava/lang/Object;ILjava/lang/Object;II)V" } : Jvm.MethodName)) ∈ lw_good := lw_g3 96 rfl rfl
theorem tw_577 : (Jvm.Cond.methodLink "OrderlyNets" (365 : Nat) ({ cls := "OrderlyNets$Walkers", name := "copyFrom", desc := "(LOrderlyNets$Walkers;)V" } : Jvm.MethodName)) ∈ lw_good := lw_g3 97 rfl rfl
theorem tw_578 : (Jvm.Cond.instanceMethod ({ cls := "OrderlyNets$Walkers", name := "copyFrom", desc := "(LOrderlyNets$Walkers;)V" } : Jvm.MethodName)) ∈ lw_good := lw_g3 98 rfl rfl
theorem tw_579 : (Jvm.Cond.selects "OrderlyNets$Walkers" ({ cls := "OrderlyNets$Walkers", name := "copyFrom", desc := "(LOrderlyNets$Walkers;)V" } : Jvm.MethodName) ({ cls := "OrderlyNets$Walkers", name := "copyFrom", desc := "(LOrderlyNets$Walkers;)V" } : Jvm.MethodName)) ∈ lw_good := lw_g3 99 rfl rfl
theorem tw_580 : (Jvm.Cond.code ({ cls := "OrderlyNets$Walkers", name := "copyFrom", desc := "(LOrderlyNets$Walkers;)V" } : Jvm.MethodName) prog_12_method_3_code (2 : Nat) (Option.none : Option Jvm.ClassFile.FieldType)) ∈ lw_good := lw_g3 100 rfl rfl
theorem tw_581 : (Jvm.Cond.methodLink "OrderlyNets$Walkers" (28 : Nat) ({ cls := "java/lang/System", name := "arraycopy", desc := "(Ljava/lang/Object;ILjava/lang/Object;II)V" } : Jvm.MethodName)) ∈ lw_good := lw_g3 101 rfl rfl
theorem tw_590 : (Jvm.Cond.methodLink "OrderlyNets" (377 : Nat) ({ cls := "OrderlyNets$Walkers", name := "withShare", desc := "()I" } : Jvm.MethodName)) ∈ lw_good := lw_g3 110 rfl rfl
theorem tw_591 : (Jvm.Cond.instanceMethod ({ cls := "OrderlyNets$Walkers", name := "withShare", desc := "()I" } : Jvm.MethodName)) ∈ lw_good := lw_g3 111 rfl rfl
theorem tw_592 : (Jvm.Cond.selects "OrderlyNets$Walkers" ({ cls := "OrderlyNets$Walkers", name := "withShare", desc := "()I" } : Jvm.MethodName) ({ cls := "OrderlyNets$Walkers", name := "withShare", desc := "()I" } : Jvm.MethodName)) ∈ lw_good := lw_g3 112 rfl rfl
theorem tw_593 : (Jvm.Cond.code ({ cls := "OrderlyNets$Walkers", name := "withShare", desc := "()I" } : Jvm.MethodName) prog_12_method_7_code (3 : Nat) (Option.some Jvm.ClassFile.FieldType.int)) ∈ lw_good := lw_g3 113 rfl rfl
theorem tw_594 : (Jvm.Cond.methodLink "OrderlyNets$Walkers" (42 : Nat) ({ cls := "OrderlyNets$Walkers", name := "hasShare", desc := "(I)Z" } : Jvm.MethodName)) ∈ lw_good := lw_g3 114 rfl rfl
theorem tw_595 : (Jvm.Cond.instanceMethod ({ cls := "OrderlyNets$Walkers", name := "hasShare", desc := "(I)Z" } : Jvm.MethodName)) ∈ lw_good := lw_g3 115 rfl rfl
theorem tw_596 : (Jvm.Cond.selects "OrderlyNets$Walkers" ({ cls := "OrderlyNets$Walkers", name := "hasShare", desc := "(I)Z" } : Jvm.MethodName) ({ cls := "OrderlyNets$Walkers", name := "hasShare", desc := "(I)Z" } : Jvm.MethodName)) ∈ lw_good := lw_g3 116 rfl rfl
theorem tw_597 : (Jvm.Cond.code ({ cls := "OrderlyNets$Walkers", name := "hasShare", desc := "(I)Z" } : Jvm.MethodName) prog_12_method_6_code (2 : Nat) (Option.some Jvm.ClassFile.FieldType.boolean)) ∈ lw_good := lw_g3 117 rfl rfl
theorem tw_598 : (Jvm.Cond.methodLink "OrderlyNets$Walkers" (38 : Nat) ({ cls := "OrderlyNets$Walkers", name := "depth", desc := "(I)I" } : Jvm.MethodName)) ∈ lw_good := lw_g3 118 rfl rfl
theorem tw_599 : (Jvm.Cond.instanceMethod ({ cls := "OrderlyNets$Walkers", name := "depth", desc := "(I)I" } : Jvm.MethodName)) ∈ lw_good := lw_g3 119 rfl rfl
theorem tw_600 : (Jvm.Cond.selects "OrderlyNets$Walkers" ({ cls := "OrderlyNets$Walkers", name := "depth", desc := "(I)I" } : Jvm.MethodName) ({ cls := "OrderlyNets$Walkers", name := "depth", desc := "(I)I" } : Jvm.MethodName)) ∈ lw_good := lw_g3 120 rfl rfl
theorem tw_601 : (Jvm.Cond.code ({ cls := "OrderlyNets$Walkers", name := "depth", desc := "(I)I" } : Jvm.MethodName) prog_12_method_8_code (2 : Nat) (Option.some Jvm.ClassFile.FieldType.int)) ∈ lw_good := lw_g3 121 rfl rfl
theorem tw_602 : (Jvm.Cond.methodLink "OrderlyNets$Walkers" (46 : Nat) ({ cls := "OrderlyNets$Walkers", name := "look", desc := "([II)I" } : Jvm.MethodName)) ∈ lw_good := lw_g3 122 rfl rfl
theorem tw_603 : (Jvm.Cond.static ({ cls := "OrderlyNets$Walkers", name := "look", desc := "([II)I" } : Jvm.MethodName)) ∈ lw_good := lw_g3 123 rfl rfl
theorem tw_604 : (Jvm.Cond.code ({ cls := "OrderlyNets$Walkers", name := "look", desc := "([II)I" } : Jvm.MethodName) prog_12_method_12_code (2 : Nat) (Option.some Jvm.ClassFile.FieldType.int)) ∈ lw_good := lw_g3 124 rfl rfl
theorem tw_608 : (Jvm.Cond.classLink "OrderlyNetsLaw" (13 : Nat) "java/lang/IllegalArgumentException") ∈ lw_good := lw_g3 128 rfl rfl
theorem tw_609 : (Jvm.Cond.methodLink "OrderlyNetsLaw" (7 : Nat) ({ cls := "OrderlyNets", name := "kind", desc := "()I" } : Jvm.MethodName)) ∈ lw_good := lw_g3 129 rfl rfl
theorem tw_610 : (Jvm.Cond.instanceMethod ({ cls := "OrderlyNets", name := "kind", desc := "()I" } : Jvm.MethodName)) ∈ lw_good := lw_g3 130 rfl rfl
theorem tw_611 : (Jvm.Cond.selects "OrderlyNets" ({ cls := "OrderlyNets", name := "kind", desc := "()I" } : Jvm.MethodName) ({ cls := "OrderlyNets", name := "kind", desc := "()I" } : Jvm.MethodName)) ∈ lw_good := lw_g3 131 rfl rfl
theorem tw_612 : (Jvm.Cond.code ({ cls := "OrderlyNets", name := "kind", desc := "()I" } : Jvm.MethodName) prog_1_method_4_code (2 : Nat) (Option.some Jvm.ClassFile.FieldType.int)) ∈ lw_good := lw_g3 132 rfl rfl
theorem tw_613 : (Jvm.Cond.methodLink "OrderlyNets" (114 : Nat) ({ cls := "OrderlyNets$Tape", name := "begin", desc := "()V" } : Jvm.MethodName)) ∈ lw_good := lw_g3 133 rfl rfl
theorem tw_614 : (Jvm.Cond.instanceMethod ({ cls := "OrderlyNets$Tape", name := "begin", desc := "()V" } : Jvm.MethodName)) ∈ lw_good := lw_g3 134 rfl rfl
theorem tw_615 : (Jvm.Cond.selects "OrderlyNets$Tape" ({ cls := "OrderlyNets$Tape", name := "begin", desc := "()V" } : Jvm.MethodName) ({ cls := "OrderlyNets$Tape", name := "begin", desc := "()V" } : Jvm.MethodName)) ∈ lw_good := lw_g3 135 rfl rfl
theorem tw_616 : (Jvm.Cond.code ({ cls := "OrderlyNets$Tape", name := "begin", desc := "()V" } : Jvm.MethodName) prog_10_method_4_code (1 : Nat) (Option.none : Option Jvm.ClassFile.FieldType)) ∈ lw_good := lw_g3 136 rfl rfl
theorem tw_617 : (Jvm.Cond.methodLink "OrderlyNets" (117 : Nat) ({ cls := "OrderlyNets$Texts", name := "readKind", desc := "(LOrderlyNets$Tape;LOrderlyNets$Rules;)Z" } : Jvm.MethodName)) ∈ lw_good := lw_g3 137 rfl rfl
theorem tw_618 : (Jvm.Cond.instanceMethod ({ cls := "OrderlyNets$Texts", name := "readKind", desc := "(LOrderlyNets$Tape;LOrderlyNets$Rules;)Z" } : Jvm.MethodName)) ∈ lw_good := lw_g3 138 rfl rfl
theorem tw_619 : (Jvm.Cond.selects "OrderlyNets$Texts" ({ cls := "OrderlyNets$Texts", name := "readKind", desc := "(LOrderlyNets$Tape;LOrderlyNets$Rules;)Z" } : Jvm.MethodName) ({ cls := "OrderlyNets$Texts", name := "readKind", desc := "(LOrderlyNets$Tape;LOrderlyNets$Rules;)Z" } : Jvm.MethodName)) ∈ lw_good := lw_g3 139 rfl rfl
theorem tw_620 : (Jvm.Cond.code ({ cls := "OrderlyNets$Texts", name := "readKind", desc := "(LOrderlyNets$Tape;LOrderlyNets$Rules;)Z" } : Jvm.MethodName) prog_11_method_2_code (4 : Nat) (Option.some Jvm.ClassFile.FieldType.boolean)) ∈ lw_good := lw_g3 140 rfl rfl
theorem tw_621 : (Jvm.Cond.methodLink "OrderlyNets$Texts" (9 : Nat) ({ cls := "OrderlyNets$Rules", name := "clear", desc := "()V" } : Jvm.MethodName)) ∈ lw_good := lw_g3 141 rfl rfl
theorem tw_623 : (Jvm.Cond.methodLink "OrderlyNets$Texts" (16 : Nat) ({ cls := "OrderlyNets$Tape", name := "takesWord", desc := "(Ljava/lang/String;)Z" } : Jvm.MethodName)) ∈ lw_good := lw_g3 143 rfl rfl
theorem tw_624 : (Jvm.Cond.instanceMethod ({ cls := "OrderlyNets$Tape", name := "takesWord", desc := "(Ljava/lang/String;)Z" } : Jvm.MethodName)) ∈ lw_good := lw_g3 144 rfl rfl
theorem tw_625 : (Jvm.Cond.selects "OrderlyNets$Tape" ({ cls := "OrderlyNets$Tape", name := "takesWord", desc := "(Ljava/lang/String;)Z" } : Jvm.MethodName) ({ cls := "OrderlyNets$Tape", name := "takesWord", desc := "(Ljava/lang/String;)Z" } : Jvm.MethodName)) ∈ lw_good := lw_g3 145 rfl rfl
theorem tw_626 : (Jvm.Cond.code ({ cls := "OrderlyNets$Tape", name := "takesWord", desc := "(Ljava/lang/String;)Z" } : Jvm.MethodName) prog_10_method_9_code (4 : Nat) (Option.some Jvm.ClassFile.FieldType.boolean)) ∈ lw_good := lw_g3 146 rfl rfl
theorem tw_627 : (Jvm.Cond.methodLink "OrderlyNets$Tape" (28 : Nat) ({ cls := "OrderlyNets$Tape", name := "skipBlanks", desc := "()V" } : Jvm.MethodName)) ∈ lw_good := lw_g3 147 rfl rfl
theorem tw_629 : (Jvm.Cond.instanceMethod ({ cls := "OrderlyNets$Tape", name := "skipBlanks", desc := "()V" } : Jvm.MethodName)) ∈ lw_good := lw_g3 149 rfl rfl
theorem tw_630 : (Jvm.Cond.code ({ cls := "OrderlyNets$Tape", name := "skipBlanks", desc := "()V" } : Jvm.MethodName) prog_10_method_11_code (1 : Nat) (Option.none : Option Jvm.ClassFile.FieldType)) ∈ lw_good := lw_g3 150 rfl rfl
theorem tw_631 : (Jvm.Cond.methodLink "OrderlyNets$Tape" (35 : Nat) ({ cls := "OrderlyNets$Tape", name := "at", desc := "(I)I" } : Jvm.MethodName)) ∈ lw_good := lw_g3 151 rfl rfl
theorem tw_633 : (Jvm.Cond.instanceMethod ({ cls := "OrderlyNets$Tape", name := "at", desc := "(I)I" } : Jvm.MethodName)) ∈ lw_good := lw_g3 153 rfl rfl
theorem tw_634 : (Jvm.Cond.code ({ cls := "OrderlyNets$Tape", name := "at", desc := "(I)I" } : Jvm.MethodName) prog_10_method_14_code (2 : Nat) (Option.some Jvm.ClassFile.FieldType.int)) ∈ lw_good := lw_g3 154 rfl rfl
theorem tw_635 : (Jvm.Cond.methodLink "OrderlyNets$Tape" (39 : Nat) ({ cls := "OrderlyNets$Tape", name := "isLetter", desc := "(I)Z" } : Jvm.MethodName)) ∈ lw_good := lw_g3 155 rfl rfl
theorem tw_637 : (Jvm.Cond.instanceMethod ({ cls := "OrderlyNets$Tape", name := "isLetter", desc := "(I)Z" } : Jvm.MethodName)) ∈ lw_good := lw_g3 157 rfl rfl
theorem tw_638 : (Jvm.Cond.code ({ cls := "OrderlyNets$Tape", name := "isLetter", desc := "(I)Z" } : Jvm.MethodName) prog_10_method_13_code (2 : Nat) (Option.some Jvm.ClassFile.FieldType.boolean)) ∈ lw_good := lw_g3 158 rfl rfl
theorem tw_639 : (Jvm.Cond.methodLink "OrderlyNets$Tape" (42 : Nat) ({ cls := "java/lang/String", name := "length", desc := "()I" } : Jvm.MethodName)) ∈ lw_good := lw_g3 159 rfl rfl
theorem tw_640 : (Jvm.Cond.instanceMethod ({ cls := "java/lang/String", name := "length", desc := "()I" } : Jvm.MethodName)) ∈ lw_good := lw_g3 160 rfl rfl
theorem tw_641 : (Jvm.Cond.selects "java/lang/String" ({ cls := "java/lang/String", name := "length", desc := "()I" } : Jvm.MethodName) ({ cls := "java/lang/String", name := "length", desc := "()I" } : Jvm.MethodName)) ∈ lw_good := lw_g3 161 rfl rfl
theorem tw_642 : (Jvm.Cond.code ({ cls := "java/lang/String", name := "length", desc := "()I" } : Jvm.MethodName) prog_25_method_54_code (1 : Nat) (Option.some Jvm.ClassFile.FieldType.int)) ∈ lw_good := lw_g3 162 rfl rfl
theorem tw_643 : (Jvm.Cond.methodLink "java/lang/String" (335 : Nat) ({ cls := "java/lang/String", name := "coder", desc := "()B" } : Jvm.MethodName)) ∈ lw_good := lw_g3 163 rfl rfl
theorem tw_644 : (Jvm.Cond.instanceMethod ({ cls := "java/lang/String", name := "coder", desc := "()B" } : Jvm.MethodName)) ∈ lw_good := lw_g3 164 rfl rfl
theorem tw_645 : (Jvm.Cond.selects "java/lang/String" ({ cls := "java/lang/String", name := "coder", desc := "()B" } : Jvm.MethodName) ({ cls := "java/lang/String", name := "coder", desc := "()B" } : Jvm.MethodName)) ∈ lw_good := lw_g3 165 rfl rfl
theorem tw_646 : (Jvm.Cond.code ({ cls := "java/lang/String", name := "coder", desc := "()B" } : Jvm.MethodName) prog_25_method_152_code (1 : Nat) (Option.some Jvm.ClassFile.FieldType.byte)) ∈ lw_good := lw_g3 166 rfl rfl
theorem tw_647 : (Jvm.Cond.fieldLink "java/lang/String" (38 : Nat) "java/lang/String" "COMPACT_STRINGS" "Z") ∈ lw_good := lw_g3 167 rfl rfl
theorem tw_649 : (Jvm.Cond.methodLink "OrderlyNets$Tape" (47 : Nat) ({ cls := "java/lang/String", name := "charAt", desc := "(I)C" } : Jvm.MethodName)) ∈ lw_good := lw_g3 169 rfl rfl
theorem tw_650 : (Jvm.Cond.instanceMethod ({ cls := "java/lang/String", name := "charAt", desc := "(I)C" } : Jvm.MethodName)) ∈ lw_good := lw_g3 170 rfl rfl
theorem tw_651 : (Jvm.Cond.selects "java/lang/String" ({ cls := "java/lang/String", name := "charAt", desc := "(I)C" } : Jvm.MethodName) ({ cls := "java/lang/String", name := "charAt", desc := "(I)C" } : Jvm.MethodName)) ∈ lw_good := lw_g3 171 rfl rfl
theorem tw_652 : (Jvm.Cond.code ({ cls := "java/lang/String", name := "charAt", desc := "(I)C" } : Jvm.MethodName) prog_25_method_56_code (2 : Nat) (Option.some Jvm.ClassFile.FieldType.char)) ∈ lw_good := lw_g3 172 rfl rfl
theorem tw_653 : (Jvm.Cond.methodLink "java/lang/String" (492 : Nat) ({ cls := "java/lang/String", name := "isLatin1", desc := "()Z" } : Jvm.MethodName)) ∈ lw_good := lw_g3 173 rfl rfl
theorem tw_654 : (Jvm.Cond.instanceMethod ({ cls := "java/lang/String", name := "isLatin1", desc := "()Z" } : Jvm.MethodName)) ∈ lw_good := lw_g3 174 rfl rfl
theorem tw_655 : (Jvm.Cond.selects "java/lang/String" ({ cls := "java/lang/String", name := "isLatin1", desc := "()Z" } : Jvm.MethodName) ({ cls := "java/lang/String", name := "isLatin1", desc := "()Z" } : Jvm.MethodName)) ∈ lw_good := lw_g3 175 rfl rfl
theorem tw_656 : (Jvm.Cond.code ({ cls := "java/lang/String", name := "isLatin1", desc := "()Z" } : Jvm.MethodName) prog_25_method_154_code (1 : Nat) (Option.some Jvm.ClassFile.FieldType.boolean)) ∈ lw_good := lw_g3 176 rfl rfl
theorem tw_657 : (Jvm.Cond.methodLink "java/lang/String" (495 : Nat) ({ cls := "java/lang/StringLatin1", name := "charAt", desc := "([BI)C" } : Jvm.MethodName)) ∈ lw_good := lw_g3 177 rfl rfl
theorem tw_658 : (Jvm.Cond.static ({ cls := "java/lang/StringLatin1", name := "charAt", desc := "([BI)C" } : Jvm.MethodName)) ∈ lw_good := lw_g3 178 rfl rfl
theorem tw_659 : (Jvm.Cond.code ({ cls := "java/lang/StringLatin1", name := "charAt", desc := "([BI)C" } : Jvm.MethodName) prog_26_method_2_code (2 : Nat) (Option.some Jvm.ClassFile.FieldType.char)) ∈ lw_good := lw_g3 179 rfl rfl
theorem tw_660 : (Jvm.Cond.methodLink "java/lang/StringLatin1" (9 : Nat) ({ cls := "java/lang/String", name := "checkIndex", desc := "(II)V" } : Jvm.MethodName)) ∈ lw_good := lw_g3 180 rfl rfl
theorem tw_661 : (Jvm.Cond.static ({ cls := "java/lang/String", name := "checkIndex", desc := "(II)V" } : Jvm.MethodName)) ∈ lw_good := lw_g3 181 rfl rfl
theorem tw_662 : (Jvm.Cond.code ({ cls := "java/lang/String", name := "checkIndex", desc := "(II)V" } : Jvm.MethodName) prog_25_method_155_code (2 : Nat) (Option.none : Option Jvm.ClassFile.FieldType)) ∈ lw_good := lw_g3 182 rfl rfl
theorem tw_663 : (Jvm.Cond.fieldLink "java/lang/String" (1053 : Nat) "jdk/internal/util/Preconditions" "SIOOBE_FORMATTER" "Ljava/util/function/BiFunction;") ∈ lw_good := lw_g3 183 rfl rfl
theorem tw_665 : (Jvm.Cond.methodLink "java/lang/String" (1059 : Nat) ({ cls := "jdk/internal/util/Preconditions", name := "checkIndex", desc := "(IILjava/util/function/BiFunction;)I" } : Jvm.MethodName)) ∈ lw_good := lw_g3 185 rfl rfl
theorem tw_666 : (Jvm.Cond.static ({ cls := "jdk/internal/util/Preconditions", name := "checkIndex", desc := "(IILjava/util/function/BiFunction;)I" } : Jvm.MethodName)) ∈ lw_good := lw_g3 186 rfl rfl
theorem tw_667 : (Jvm.Cond.code ({ cls := "jdk/internal/util/Preconditions", name := "checkIndex", desc := "(IILjava/util/function/BiFunction;)I" } : Jvm.MethodName) prog_34_method_11_code (3 : Nat) (Option.some Jvm.ClassFile.FieldType.int)) ∈ lw_good := lw_g3 187 rfl rfl
theorem tw_687 : (Jvm.Cond.methodLink "OrderlyNets$Texts" (22 : Nat) ({ cls := "OrderlyNets$Tape", name := "takeNumber", desc := "(II)I" } : Jvm.MethodName)) ∈ lw_good := lw_g3 207 rfl rfl
theorem tw_688 : (Jvm.Cond.instanceMethod ({ cls := "OrderlyNets$Tape", name := "takeNumber", desc := "(II)I" } : Jvm.MethodName)) ∈ lw_good := lw_g3 208 rfl rfl
theorem tw_689 : (Jvm.Cond.selects "OrderlyNets$Tape" ({ cls := "OrderlyNets$Tape", name := "takeNumber", desc := "(II)I" } : Jvm.MethodName) ({ cls := "OrderlyNets$Tape", name := "takeNumber", desc := "(II)I" } : Jvm.MethodName)) ∈ lw_good := lw_g3 209 rfl rfl
theorem tw_690 : (Jvm.Cond.code ({ cls := "OrderlyNets$Tape", name := "takeNumber", desc := "(II)I" } : Jvm.MethodName) prog_10_method_10_code (6 : Nat) (Option.some Jvm.ClassFile.FieldType.int)) ∈ lw_good := lw_g3 210 rfl rfl
theorem tw_691 : (Jvm.Cond.methodLink "OrderlyNets$Tape" (31 : Nat) ({ cls := "OrderlyNets$Tape", name := "isDigit", desc := "(I)Z" } : Jvm.MethodName)) ∈ lw_good := lw_g3 211 rfl rfl
theorem tw_693 : (Jvm.Cond.instanceMethod ({ cls := "OrderlyNets$Tape", name := "isDigit", desc := "(I)Z" } : Jvm.MethodName)) ∈ lw_good := lw_g3 213 rfl rfl
theorem tw_694 : (Jvm.Cond.code ({ cls := "OrderlyNets$Tape", name := "isDigit", desc := "(I)Z" } : Jvm.MethodName) prog_10_method_12_code (2 : Nat) (Option.some Jvm.ClassFile.FieldType.boolean)) ∈ lw_good := lw_g3 214 rfl rfl
theorem tw_696 : (Jvm.Cond.methodLink "OrderlyNets$Texts" (38 : Nat) ({ cls := "OrderlyNets$Tape", name := "goesOn", desc := "()Z" } : Jvm.MethodName)) ∈ lw_good := lw_g3 216 rfl rfl
theorem tw_697 : (Jvm.Cond.instanceMethod ({ cls := "OrderlyNets$Tape", name := "goesOn", desc := "()Z" } : Jvm.MethodName)) ∈ lw_good := lw_g3 217 rfl rfl
theorem tw_698 : (Jvm.Cond.selects "OrderlyNets$Tape" ({ cls := "OrderlyNets$Tape", name := "goesOn", desc := "()Z" } : Jvm.MethodName) ({ cls := "OrderlyNets$Tape", name := "goesOn", desc := "()Z" } : Jvm.MethodName)) ∈ lw_good := lw_g3 218 rfl rfl
theorem tw_699 : (Jvm.Cond.code ({ cls := "OrderlyNets$Tape", name := "goesOn", desc := "()Z" } : Jvm.MethodName) prog_10_method_6_code (1 : Nat) (Option.some Jvm.ClassFile.FieldType.boolean)) ∈ lw_good := lw_g3 219 rfl rfl
theorem tw_700 : (Jvm.Cond.methodLink "OrderlyNets$Texts" (42 : Nat) ({ cls := "OrderlyNets$Tape", name := "takesSign", desc := "(C)Z" } : Jvm.MethodName)) ∈ lw_good := lw_g3 220 rfl rfl
theorem tw_701 : (Jvm.Cond.instanceMethod ({ cls := "OrderlyNets$Tape", name := "takesSign", desc := "(C)Z" } : Jvm.MethodName)) ∈ lw_good := lw_g3 221 rfl rfl
theorem tw_702 : (Jvm.Cond.selects "OrderlyNets$Tape" ({ cls := "OrderlyNets$Tape", name := "takesSign", desc := "(C)Z" } : Jvm.MethodName) ({ cls := "OrderlyNets$Tape", name := "takesSign", desc := "(C)Z" } : Jvm.MethodName)) ∈ lw_good := lw_g3 222 rfl rfl
theorem tw_703 : (Jvm.Cond.code ({ cls := "OrderlyNets$Tape", name := "takesSign", desc := "(C)Z" } : Jvm.MethodName) prog_10_method_8_code (2 : Nat) (Option.some Jvm.ClassFile.FieldType.boolean)) ∈ lw_good := lw_g3 223 rfl rfl
theorem tw_704 : (Jvm.Cond.methodLink "OrderlyNets$Texts" (46 : Nat) ({ cls := "OrderlyNets$Texts", name := "readLine", desc := "(LOrderlyNets$Tape;LOrderlyNets$Rules;)Z" } : Jvm.MethodName)) ∈ lw_good := lw_g3 224 rfl rfl
theorem tw_705 : (Jvm.Cond.static ({ cls := "OrderlyNets$Texts", name := "readLine", desc := "(LOrderlyNets$Tape;LOrderlyNets$Rules;)Z" } : Jvm.MethodName)) ∈ lw_good := lw_g3 225 rfl rfl
theorem tw_706 : (Jvm.Cond.code ({ cls := "OrderlyNets$Texts", name := "readLine", desc := "(LOrderlyNets$Tape;LOrderlyNets$Rules;)Z" } : Jvm.MethodName) prog_11_method_4_code (2 : Nat) (Option.some Jvm.ClassFile.FieldType.boolean)) ∈ lw_good := lw_g3 226 rfl rfl
theorem tw_708 : (Jvm.Cond.methodLink "OrderlyNets$Texts" (59 : Nat) ({ cls := "OrderlyNets$Texts", name := "readEnd", desc := "(LOrderlyNets$Tape;LOrderlyNets$Rules;)Z" } : Jvm.MethodName)) ∈ lw_good := lw_g3 228 rfl rfl
theorem tw_709 : (Jvm.Cond.static ({ cls := "OrderlyNets$Texts", name := "readEnd", desc := "(LOrderlyNets$Tape;LOrderlyNets$Rules;)Z" } : Jvm.MethodName)) ∈ lw_good := lw_g3 229 rfl rfl
theorem tw_710 : (Jvm.Cond.code ({ cls := "OrderlyNets$Texts", name := "readEnd", desc := "(LOrderlyNets$Tape;LOrderlyNets$Rules;)Z" } : Jvm.MethodName) prog_11_method_7_code (2 : Nat) (Option.some Jvm.ClassFile.FieldType.boolean)) ∈ lw_good := lw_g3 230 rfl rfl
theorem tw_712 : (Jvm.Cond.methodLink "OrderlyNets$Texts" (75 : Nat) ({ cls := "OrderlyNets$Rules", name := "tellsFirst", desc := "(I)Z" } : Jvm.MethodName)) ∈ lw_good := lw_g3 232 rfl rfl
theorem tw_713 : (Jvm.Cond.instanceMethod ({ cls := "OrderlyNets$Rules", name := "tellsFirst", desc := "(I)Z" } : Jvm.MethodName)) ∈ lw_good := lw_g3 233 rfl rfl
theorem tw_714 : (Jvm.Cond.selects "OrderlyNets$Rules" ({ cls := "OrderlyNets$Rules", name := "tellsFirst", desc := "(I)Z" } : Jvm.MethodName) ({ cls := "OrderlyNets$Rules", name := "tellsFirst", desc := "(I)Z" } : Jvm.MethodName)) ∈ lw_good := lw_g3 234 rfl rfl
theorem tw_715 : (Jvm.Cond.code ({ cls := "OrderlyNets$Rules", name := "tellsFirst", desc := "(I)Z" } : Jvm.MethodName) prog_8_method_4_code (3 : Nat) (Option.some Jvm.ClassFile.FieldType.boolean)) ∈ lw_good := lw_g3 235 rfl rfl
theorem tw_717 : (Jvm.Cond.methodLink "OrderlyNets$Texts" (112 : Nat) ({ cls := "OrderlyNets$Texts", name := "readBounds", desc := "(LOrderlyNets$Tape;LOrderlyNets$Rules;)Z" } : Jvm.MethodName)) ∈ lw_good := lw_g3 237 rfl rfl
theorem tw_718 : (Jvm.Cond.static ({ cls := "OrderlyNets$Texts", name := "readBounds", desc := "(LOrderlyNets$Tape;LOrderlyNets$Rules;)Z" } : Jvm.MethodName)) ∈ lw_good := lw_g3 238 rfl rfl
theorem tw_719 : (Jvm.Cond.code ({ cls := "OrderlyNets$Texts", name := "readBounds", desc := "(LOrderlyNets$Tape;LOrderlyNets$Rules;)Z" } : Jvm.MethodName) prog_11_method_8_code (2 : Nat) (Option.some Jvm.ClassFile.FieldType.boolean)) ∈ lw_good := lw_g3 239 rfl rfl
theorem tw_723 : (Jvm.Cond.methodLink "OrderlyNets$Texts" (67 : Nat) ({ cls := "OrderlyNets$Texts", name := "readPattern", desc := "(LOrderlyNets$Tape;LOrderlyNets$Rules;)Z" } : Jvm.MethodName)) ∈ lw_good := lw_g4 3 rfl rfl
theorem tw_724 : (Jvm.Cond.static ({ cls := "OrderlyNets$Texts", name := "readPattern", desc := "(LOrderlyNets$Tape;LOrderlyNets$Rules;)Z" } : Jvm.MethodName)) ∈ lw_good := lw_g4 4 rfl rfl
theorem tw_725 : (Jvm.Cond.code ({ cls := "OrderlyNets$Texts", name := "readPattern", desc := "(LOrderlyNets$Tape;LOrderlyNets$Rules;)Z" } : Jvm.MethodName) prog_11_method_6_code (4 : Nat) (Option.some Jvm.ClassFile.FieldType.boolean)) ∈ lw_good := lw_g4 5 rfl rfl
theorem tw_726 : (Jvm.Cond.methodLink "OrderlyNets$Texts" (94 : Nat) ({ cls := "OrderlyNets$Rules", name := "hasRoomForPattern", desc := "()Z" } : Jvm.MethodName)) ∈ lw_good := lw_g4 6 rfl rfl
theorem tw_727 : (Jvm.Cond.instanceMethod ({ cls := "OrderlyNets$Rules", name := "hasRoomForPattern", desc := "()Z" } : Jvm.MethodName)) ∈ lw_good := lw_g4 7 rfl rfl
theorem tw_728 : (Jvm.Cond.selects "OrderlyNets$Rules" ({ cls := "OrderlyNets$Rules", name := "hasRoomForPattern", desc := "()Z" } : Jvm.MethodName) ({ cls := "OrderlyNets$Rules", name := "hasRoomForPattern", desc := "()Z" } : Jvm.MethodName)) ∈ lw_good := lw_g4 8 rfl rfl
theorem tw_729 : (Jvm.Cond.code ({ cls := "OrderlyNets$Rules", name := "hasRoomForPattern", desc := "()Z" } : Jvm.MethodName) prog_8_method_5_code (1 : Nat) (Option.some Jvm.ClassFile.FieldType.boolean)) ∈ lw_good := lw_g4 9 rfl rfl
theorem tw_730 : (Jvm.Cond.methodLink "OrderlyNets$Texts" (97 : Nat) ({ cls := "OrderlyNets$Texts", name := "readEdges", desc := "(LOrderlyNets$Tape;II)I" } : Jvm.MethodName)) ∈ lw_good := lw_g4 10 rfl rfl
theorem tw_731 : (Jvm.Cond.static ({ cls := "OrderlyNets$Texts", name := "readEdges", desc := "(LOrderlyNets$Tape;II)I" } : Jvm.MethodName)) ∈ lw_good := lw_g4 11 rfl rfl
theorem tw_732 : (Jvm.Cond.code ({ cls := "OrderlyNets$Texts", name := "readEdges", desc := "(LOrderlyNets$Tape;II)I" } : Jvm.MethodName) prog_11_method_9_code (7 : Nat) (Option.some Jvm.ClassFile.FieldType.int)) ∈ lw_good := lw_g4 12 rfl rfl
theorem tw_733 : (Jvm.Cond.methodLink "OrderlyNets$Texts" (127 : Nat) ({ cls := "OrderlyNets$Code", name := "areJoined", desc := "(IIII)Z" } : Jvm.MethodName)) ∈ lw_good := lw_g4 13 rfl rfl
theorem tw_734 : (Jvm.Cond.static ({ cls := "OrderlyNets$Code", name := "areJoined", desc := "(IIII)Z" } : Jvm.MethodName)) ∈ lw_good := lw_g4 14 rfl rfl
theorem tw_735 : (Jvm.Cond.code ({ cls := "OrderlyNets$Code", name := "areJoined", desc := "(IIII)Z" } : Jvm.MethodName) prog_2_method_7_code (4 : Nat) (Option.some Jvm.ClassFile.FieldType.boolean)) ∈ lw_good := lw_g4 15 rfl rfl
theorem tw_736 : (Jvm.Cond.methodLink "OrderlyNets$Texts" (133 : Nat) ({ cls := "OrderlyNets$Code", name := "edge", desc := "(III)I" } : Jvm.MethodName)) ∈ lw_good := lw_g4 16 rfl rfl
theorem tw_737 : (Jvm.Cond.methodLink "OrderlyNets$Texts" (101 : Nat) ({ cls := "OrderlyNets$Rules", name := "addPattern", desc := "(II)V" } : Jvm.MethodName)) ∈ lw_good := lw_g4 17 rfl rfl
theorem tw_738 : (Jvm.Cond.instanceMethod ({ cls := "OrderlyNets$Rules", name := "addPattern", desc := "(II)V" } : Jvm.MethodName)) ∈ lw_good := lw_g4 18 rfl rfl
theorem tw_739 : (Jvm.Cond.selects "OrderlyNets$Rules" ({ cls := "OrderlyNets$Rules", name := "addPattern", desc := "(II)V" } : Jvm.MethodName) ({ cls := "OrderlyNets$Rules", name := "addPattern", desc := "(II)V" } : Jvm.MethodName)) ∈ lw_good := lw_g4 19 rfl rfl
theorem tw_740 : (Jvm.Cond.code ({ cls := "OrderlyNets$Rules", name := "addPattern", desc := "(II)V" } : Jvm.MethodName) prog_8_method_6_code (3 : Nat) (Option.none : Option Jvm.ClassFile.FieldType)) ∈ lw_good := lw_g4 20 rfl rfl
theorem tw_741 : (Jvm.Cond.methodLink "OrderlyNets$Texts" (70 : Nat) ({ cls := "OrderlyNets$Texts", name := "readRule", desc := "(LOrderlyNets$Tape;LOrderlyNets$Rules;)Z" } : Jvm.MethodName)) ∈ lw_good := lw_g4 21 rfl rfl
theorem tw_742 : (Jvm.Cond.static ({ cls := "OrderlyNets$Texts", name := "readRule", desc := "(LOrderlyNets$Tape;LOrderlyNets$Rules;)Z" } : Jvm.MethodName)) ∈ lw_good := lw_g4 22 rfl rfl
theorem tw_743 : (Jvm.Cond.code ({ cls := "OrderlyNets$Texts", name := "readRule", desc := "(LOrderlyNets$Tape;LOrderlyNets$Rules;)Z" } : Jvm.MethodName) prog_11_method_5_code (3 : Nat) (Option.some Jvm.ClassFile.FieldType.boolean)) ∈ lw_good := lw_g4 23 rfl rfl
theorem tw_749 : (Jvm.Cond.methodLink "OrderlyNets$Texts" (50 : Nat) ({ cls := "OrderlyNets$Texts", name := "hasEnded", desc := "(LOrderlyNets$Tape;)Z" } : Jvm.MethodName)) ∈ lw_good := lw_g4 29 rfl rfl
theorem tw_750 : (Jvm.Cond.static ({ cls := "OrderlyNets$Texts", name := "hasEnded", desc := "(LOrderlyNets$Tape;)Z" } : Jvm.MethodName)) ∈ lw_good := lw_g4 30 rfl rfl
theorem tw_751 : (Jvm.Cond.code ({ cls := "OrderlyNets$Texts", name := "hasEnded", desc := "(LOrderlyNets$Tape;)Z" } : Jvm.MethodName) prog_11_method_3_code (1 : Nat) (Option.some Jvm.ClassFile.FieldType.boolean)) ∈ lw_good := lw_g4 31 rfl rfl
theorem tw_752 : (Jvm.Cond.methodLink "OrderlyNets" (121 : Nat) ({ cls := "OrderlyNets$Tape", name := "finish", desc := "(Z)V" } : Jvm.MethodName)) ∈ lw_good := lw_g4 32 rfl rfl
theorem tw_753 : (Jvm.Cond.instanceMethod ({ cls := "OrderlyNets$Tape", name := "finish", desc := "(Z)V" } : Jvm.MethodName)) ∈ lw_good := lw_g4 33 rfl rfl
theorem tw_754 : (Jvm.Cond.selects "OrderlyNets$Tape" ({ cls := "OrderlyNets$Tape", name := "finish", desc := "(Z)V" } : Jvm.MethodName) ({ cls := "OrderlyNets$Tape", name := "finish", desc := "(Z)V" } : Jvm.MethodName)) ∈ lw_good := lw_g4 34 rfl rfl
theorem tw_755 : (Jvm.Cond.code ({ cls := "OrderlyNets$Tape", name := "finish", desc := "(Z)V" } : Jvm.MethodName) prog_10_method_5_code (2 : Nat) (Option.none : Option Jvm.ClassFile.FieldType)) ∈ lw_good := lw_g4 35 rfl rfl
theorem tw_756 : (Jvm.Cond.classLink "OrderlyNets" (125 : Nat) "java/lang/IllegalArgumentException") ∈ lw_good := lw_g4 36 rfl rfl
theorem tw_758 : (Jvm.Cond.castable "java/lang/IllegalArgumentException" "java/lang/IllegalArgumentException") ∈ lw_nest := lw_n4 38 rfl rfl
theorem tw_825 : (Jvm.Cond.methodLink "OrderlyNets" (136 : Nat) ({ cls := "OrderlyNets$Rules", name := "formPatterns", desc := "(LOrderlyNets$Forms;)V" } : Jvm.MethodName)) ∈ lw_good := lw_g4 105 rfl rfl
theorem tw_826 : (Jvm.Cond.instanceMethod ({ cls := "OrderlyNets$Rules", name := "formPatterns", desc := "(LOrderlyNets$Forms;)V" } : Jvm.MethodName)) ∈ lw_good := lw_g4 106 rfl rfl
theorem tw_827 : (Jvm.Cond.selects "OrderlyNets$Rules" ({ cls := "OrderlyNets$Rules", name := "formPatterns", desc := "(LOrderlyNets$Forms;)V" } : Jvm.MethodName) ({ cls := "OrderlyNets$Rules", name := "formPatterns", desc := "(LOrderlyNets$Forms;)V" } : Jvm.MethodName)) ∈ lw_good := lw_g4 107 rfl rfl
theorem tw_828 : (Jvm.Cond.code ({ cls := "OrderlyNets$Rules", name := "formPatterns", desc := "(LOrderlyNets$Forms;)V" } : Jvm.MethodName) prog_8_method_7_code (3 : Nat) (Option.none : Option Jvm.ClassFile.FieldType)) ∈ lw_good := lw_g4 108 rfl rfl
theorem tw_829 : (Jvm.Cond.methodLink "OrderlyNets$Rules" (68 : Nat) ({ cls := "OrderlyNets$Forms", name := "leastOf", desc := "(II)I" } : Jvm.MethodName)) ∈ lw_good := lw_g4 109 rfl rfl
theorem tw_830 : (Jvm.Cond.methodLink "OrderlyNets" (140 : Nat) ({ cls := "OrderlyNets$Walkers", name := "clear", desc := "()V" } : Jvm.MethodName)) ∈ lw_good := lw_g4 110 rfl rfl
theorem tw_831 : (Jvm.Cond.instanceMethod ({ cls := "OrderlyNets$Walkers", name := "clear", desc := "()V" } : Jvm.MethodName)) ∈ lw_good := lw_g4 111 rfl rfl
theorem tw_832 : (Jvm.Cond.selects "OrderlyNets$Walkers" ({ cls := "OrderlyNets$Walkers", name := "clear", desc := "()V" } : Jvm.MethodName) ({ cls := "OrderlyNets$Walkers", name := "clear", desc := "()V" } : Jvm.MethodName)) ∈ lw_good := lw_g4 112 rfl rfl
theorem tw_833 : (Jvm.Cond.code ({ cls := "OrderlyNets$Walkers", name := "clear", desc := "()V" } : Jvm.MethodName) prog_12_method_2_code (2 : Nat) (Option.none : Option Jvm.ClassFile.FieldType)) ∈ lw_good := lw_g4 113 rfl rfl
theorem tw_834 : (Jvm.Cond.methodLink "OrderlyNets$Walkers" (24 : Nat) ({ cls := "OrderlyNets$Walkers", name := "give", desc := "(IIII)V" } : Jvm.MethodName)) ∈ lw_good := lw_g4 114 rfl rfl
theorem tw_835 : (Jvm.Cond.instanceMethod ({ cls := "OrderlyNets$Walkers", name := "give", desc := "(IIII)V" } : Jvm.MethodName)) ∈ lw_good := lw_g4 115 rfl rfl
theorem tw_836 : (Jvm.Cond.selects "OrderlyNets$Walkers" ({ cls := "OrderlyNets$Walkers", name := "give", desc := "(IIII)V" } : Jvm.MethodName) ({ cls := "OrderlyNets$Walkers", name := "give", desc := "(IIII)V" } : Jvm.MethodName)) ∈ lw_good := lw_g4 116 rfl rfl
theorem tw_837 : (Jvm.Cond.code ({ cls := "OrderlyNets$Walkers", name := "give", desc := "(IIII)V" } : Jvm.MethodName) prog_12_method_4_code (5 : Nat) (Option.none : Option Jvm.ClassFile.FieldType)) ∈ lw_good := lw_g4 117 rfl rfl
theorem tw_838 : (Jvm.Cond.methodLink "OrderlyNets$Walkers" (34 : Nat) ({ cls := "OrderlyNets$Walkers", name := "put", desc := "([III)V" } : Jvm.MethodName)) ∈ lw_good := lw_g4 118 rfl rfl
theorem tw_839 : (Jvm.Cond.static ({ cls := "OrderlyNets$Walkers", name := "put", desc := "([III)V" } : Jvm.MethodName)) ∈ lw_good := lw_g4 119 rfl rfl
theorem tw_840 : (Jvm.Cond.code ({ cls := "OrderlyNets$Walkers", name := "put", desc := "([III)V" } : Jvm.MethodName) prog_12_method_13_code (3 : Nat) (Option.none : Option Jvm.ClassFile.FieldType)) ∈ lw_good := lw_g4 120 rfl rfl
theorem tw_844 : (Jvm.Cond.methodLink "OrderlyNetsLaw" (15 : Nat) ({ cls := "OrderlyNets", name := "told", desc := "()I" } : Jvm.MethodName)) ∈ lw_good := lw_g4 124 rfl rfl
theorem tw_845 : (Jvm.Cond.instanceMethod ({ cls := "OrderlyNets", name := "told", desc := "()I" } : Jvm.MethodName)) ∈ lw_good := lw_g4 125 rfl rfl
theorem tw_846 : (Jvm.Cond.selects "OrderlyNets" ({ cls := "OrderlyNets", name := "told", desc := "()I" } : Jvm.MethodName) ({ cls := "OrderlyNets", name := "told", desc := "()I" } : Jvm.MethodName)) ∈ lw_good := lw_g4 126 rfl rfl
theorem tw_847 : (Jvm.Cond.code ({ cls := "OrderlyNets", name := "told", desc := "()I" } : Jvm.MethodName) prog_1_method_5_code (2 : Nat) (Option.some Jvm.ClassFile.FieldType.int)) ∈ lw_good := lw_g4 127 rfl rfl
theorem tw_848 : (Jvm.Cond.methodLink "OrderlyNets" (150 : Nat) ({ cls := "OrderlyNets$Texts", name := "readNet", desc := "(LOrderlyNets$Tape;LOrderlyNets$Rules;)Z" } : Jvm.MethodName)) ∈ lw_good := lw_g4 128 rfl rfl
theorem tw_849 : (Jvm.Cond.instanceMethod ({ cls := "OrderlyNets$Texts", name := "readNet", desc := "(LOrderlyNets$Tape;LOrderlyNets$Rules;)Z" } : Jvm.MethodName)) ∈ lw_good := lw_g4 129 rfl rfl
theorem tw_850 : (Jvm.Cond.selects "OrderlyNets$Texts" ({ cls := "OrderlyNets$Texts", name := "readNet", desc := "(LOrderlyNets$Tape;LOrderlyNets$Rules;)Z" } : Jvm.MethodName) ({ cls := "OrderlyNets$Texts", name := "readNet", desc := "(LOrderlyNets$Tape;LOrderlyNets$Rules;)Z" } : Jvm.MethodName)) ∈ lw_good := lw_g4 130 rfl rfl
theorem tw_851 : (Jvm.Cond.code ({ cls := "OrderlyNets$Texts", name := "readNet", desc := "(LOrderlyNets$Tape;LOrderlyNets$Rules;)Z" } : Jvm.MethodName) prog_11_method_10_code (5 : Nat) (Option.some Jvm.ClassFile.FieldType.boolean)) ∈ lw_good := lw_g4 131 rfl rfl
theorem tw_853 : (Jvm.Cond.methodLink "OrderlyNets$Texts" (139 : Nat) ({ cls := "OrderlyNets$Texts", name := "readColours", desc := "(LOrderlyNets$Tape;I)I" } : Jvm.MethodName)) ∈ lw_good := lw_g4 133 rfl rfl
theorem tw_854 : (Jvm.Cond.static ({ cls := "OrderlyNets$Texts", name := "readColours", desc := "(LOrderlyNets$Tape;I)I" } : Jvm.MethodName)) ∈ lw_good := lw_g4 134 rfl rfl
theorem tw_855 : (Jvm.Cond.code ({ cls := "OrderlyNets$Texts", name := "readColours", desc := "(LOrderlyNets$Tape;I)I" } : Jvm.MethodName) prog_11_method_11_code (5 : Nat) (Option.some Jvm.ClassFile.FieldType.int)) ∈ lw_good := lw_g4 135 rfl rfl
theorem tw_856 : (Jvm.Cond.methodLink "OrderlyNets$Texts" (148 : Nat) ({ cls := "OrderlyNets$Tape", name := "digitComes", desc := "()Z" } : Jvm.MethodName)) ∈ lw_good := lw_g4 136 rfl rfl
theorem tw_857 : (Jvm.Cond.instanceMethod ({ cls := "OrderlyNets$Tape", name := "digitComes", desc := "()Z" } : Jvm.MethodName)) ∈ lw_good := lw_g4 137 rfl rfl
theorem tw_858 : (Jvm.Cond.selects "OrderlyNets$Tape" ({ cls := "OrderlyNets$Tape", name := "digitComes", desc := "()Z" } : Jvm.MethodName) ({ cls := "OrderlyNets$Tape", name := "digitComes", desc := "()Z" } : Jvm.MethodName)) ∈ lw_good := lw_g4 138 rfl rfl
theorem tw_859 : (Jvm.Cond.code ({ cls := "OrderlyNets$Tape", name := "digitComes", desc := "()Z" } : Jvm.MethodName) prog_10_method_7_code (1 : Nat) (Option.some Jvm.ClassFile.FieldType.boolean)) ∈ lw_good := lw_g4 139 rfl rfl
theorem tw_860 : (Jvm.Cond.methodLink "OrderlyNets$Texts" (151 : Nat) ({ cls := "OrderlyNets$Code", name := "dark", desc := "(II)I" } : Jvm.MethodName)) ∈ lw_good := lw_g4 140 rfl rfl
theorem tw_862 : (Jvm.Cond.methodLink "OrderlyNets" (161 : Nat) ({ cls := "OrderlyNets$Forms", name := "leastOf", desc := "(II)I" } : Jvm.MethodName)) ∈ lw_good := lw_g4 142 rfl rfl
theorem tw_863 : (Jvm.Cond.methodLink "OrderlyNets" (165 : Nat) ({ cls := "OrderlyNets$Levels", name := "numberOf", desc := "(II)I" } : Jvm.MethodName)) ∈ lw_good := lw_g4 143 rfl rfl
theorem tw_864 : (Jvm.Cond.instanceMethod ({ cls := "OrderlyNets$Levels", name := "numberOf", desc := "(II)I" } : Jvm.MethodName)) ∈ lw_good := lw_g4 144 rfl rfl
theorem tw_865 : (Jvm.Cond.selects "OrderlyNets$Levels" ({ cls := "OrderlyNets$Levels", name := "numberOf", desc := "(II)I" } : Jvm.MethodName) ({ cls := "OrderlyNets$Levels", name := "numberOf", desc := "(II)I" } : Jvm.MethodName)) ∈ lw_good := lw_g4 145 rfl rfl
theorem tw_866 : (Jvm.Cond.code ({ cls := "OrderlyNets$Levels", name := "numberOf", desc := "(II)I" } : Jvm.MethodName) prog_5_method_9_code (4 : Nat) (Option.some Jvm.ClassFile.FieldType.int)) ∈ lw_good := lw_g4 146 rfl rfl
theorem tw_867 : (Jvm.Cond.methodLink "OrderlyNets$Levels" (69 : Nat) ({ cls := "OrderlyNets$Levels", name := "ahead", desc := "(II)I" } : Jvm.MethodName)) ∈ lw_good := lw_g4 147 rfl rfl
theorem tw_869 : (Jvm.Cond.instanceMethod ({ cls := "OrderlyNets$Levels", name := "ahead", desc := "(II)I" } : Jvm.MethodName)) ∈ lw_good := lw_g4 149 rfl rfl
theorem tw_870 : (Jvm.Cond.code ({ cls := "OrderlyNets$Levels", name := "ahead", desc := "(II)I" } : Jvm.MethodName) prog_5_method_10_code (7 : Nat) (Option.some Jvm.ClassFile.FieldType.int)) ∈ lw_good := lw_g4 150 rfl rfl
theorem tw_874 : (Jvm.Cond.classLink "OrderlyNetsLaw" (22 : Nat) "java/lang/IndexOutOfBoundsException") ∈ lw_good := lw_g4 154 rfl rfl
theorem tw_875 : (Jvm.Cond.methodLink "OrderlyNetsLaw" (18 : Nat) ({ cls := "OrderlyNets", name := "level", desc := "(I)I" } : Jvm.MethodName)) ∈ lw_good := lw_g4 155 rfl rfl
theorem tw_876 : (Jvm.Cond.instanceMethod ({ cls := "OrderlyNets", name := "level", desc := "(I)I" } : Jvm.MethodName)) ∈ lw_good := lw_g4 156 rfl rfl
theorem tw_877 : (Jvm.Cond.selects "OrderlyNets" ({ cls := "OrderlyNets", name := "level", desc := "(I)I" } : Jvm.MethodName) ({ cls := "OrderlyNets", name := "level", desc := "(I)I" } : Jvm.MethodName)) ∈ lw_good := lw_g4 157 rfl rfl
theorem tw_878 : (Jvm.Cond.code ({ cls := "OrderlyNets", name := "level", desc := "(I)I" } : Jvm.MethodName) prog_1_method_7_code (2 : Nat) (Option.some Jvm.ClassFile.FieldType.int)) ∈ lw_good := lw_g4 158 rfl rfl
theorem tw_879 : (Jvm.Cond.methodLink "OrderlyNets" (171 : Nat) ({ cls := "OrderlyNets", name := "needLevel", desc := "(I)V" } : Jvm.MethodName)) ∈ lw_good := lw_g4 159 rfl rfl
theorem tw_881 : (Jvm.Cond.instanceMethod ({ cls := "OrderlyNets", name := "needLevel", desc := "(I)V" } : Jvm.MethodName)) ∈ lw_good := lw_g4 161 rfl rfl
theorem tw_882 : (Jvm.Cond.code ({ cls := "OrderlyNets", name := "needLevel", desc := "(I)V" } : Jvm.MethodName) prog_1_method_38_code (2 : Nat) (Option.none : Option Jvm.ClassFile.FieldType)) ∈ lw_good := lw_g4 162 rfl rfl
theorem tw_883 : (Jvm.Cond.classLink "OrderlyNets" (309 : Nat) "java/lang/IndexOutOfBoundsException") ∈ lw_good := lw_g4 163 rfl rfl
theorem tw_885 : (Jvm.Cond.castable "java/lang/IndexOutOfBoundsException" "java/lang/IndexOutOfBoundsException") ∈ lw_nest := lw_n4 165 rfl rfl
theorem tw_907 : (Jvm.Cond.methodLink "OrderlyNets" (174 : Nat) ({ cls := "OrderlyNets", name := "needNet", desc := "(II)I" } : Jvm.MethodName)) ∈ lw_good := lw_g4 187 rfl rfl
theorem tw_909 : (Jvm.Cond.instanceMethod ({ cls := "OrderlyNets", name := "needNet", desc := "(II)I" } : Jvm.MethodName)) ∈ lw_good := lw_g4 189 rfl rfl
theorem tw_910 : (Jvm.Cond.code ({ cls := "OrderlyNets", name := "needNet", desc := "(II)I" } : Jvm.MethodName) prog_1_method_39_code (3 : Nat) (Option.some Jvm.ClassFile.FieldType.int)) ∈ lw_good := lw_g4 190 rfl rfl
theorem tw_913 : (Jvm.Cond.methodLink "OrderlyNets" (186 : Nat) ({ cls := "OrderlyNets$Forms", name := "symmetriesOf", desc := "(II)I" } : Jvm.MethodName)) ∈ lw_good := lw_g4 193 rfl rfl
theorem tw_914 : (Jvm.Cond.instanceMethod ({ cls := "OrderlyNets$Forms", name := "symmetriesOf", desc := "(II)I" } : Jvm.MethodName)) ∈ lw_good := lw_g4 194 rfl rfl
theorem tw_915 : (Jvm.Cond.selects "OrderlyNets$Forms" ({ cls := "OrderlyNets$Forms", name := "symmetriesOf", desc := "(II)I" } : Jvm.MethodName) ({ cls := "OrderlyNets$Forms", name := "symmetriesOf", desc := "(II)I" } : Jvm.MethodName)) ∈ lw_good := lw_g4 195 rfl rfl
theorem tw_916 : (Jvm.Cond.code ({ cls := "OrderlyNets$Forms", name := "symmetriesOf", desc := "(II)I" } : Jvm.MethodName) prog_4_method_5_code (3 : Nat) (Option.some Jvm.ClassFile.FieldType.int)) ∈ lw_good := lw_g4 196 rfl rfl
theorem tw_917 : (Jvm.Cond.methodLink "OrderlyNets" (189 : Nat) ({ cls := "OrderlyNets$Forms", name := "unlikeNodes", desc := "(II)I" } : Jvm.MethodName)) ∈ lw_good := lw_g4 197 rfl rfl
theorem tw_918 : (Jvm.Cond.instanceMethod ({ cls := "OrderlyNets$Forms", name := "unlikeNodes", desc := "(II)I" } : Jvm.MethodName)) ∈ lw_good := lw_g4 198 rfl rfl
theorem tw_919 : (Jvm.Cond.selects "OrderlyNets$Forms" ({ cls := "OrderlyNets$Forms", name := "unlikeNodes", desc := "(II)I" } : Jvm.MethodName) ({ cls := "OrderlyNets$Forms", name := "unlikeNodes", desc := "(II)I" } : Jvm.MethodName)) ∈ lw_good := lw_g4 199 rfl rfl
theorem tw_920 : (Jvm.Cond.code ({ cls := "OrderlyNets$Forms", name := "unlikeNodes", desc := "(II)I" } : Jvm.MethodName) prog_4_method_7_code (5 : Nat) (Option.some Jvm.ClassFile.FieldType.int)) ∈ lw_good := lw_g4 200 rfl rfl
theorem tw_921 : (Jvm.Cond.methodLink "OrderlyNets$Forms" (58 : Nat) ({ cls := "OrderlyNets$Forms", name := "study", desc := "(II)V" } : Jvm.MethodName)) ∈ lw_good := lw_g4 201 rfl rfl
theorem tw_923 : (Jvm.Cond.instanceMethod ({ cls := "OrderlyNets$Forms", name := "study", desc := "(II)V" } : Jvm.MethodName)) ∈ lw_good := lw_g4 203 rfl rfl
theorem tw_924 : (Jvm.Cond.code ({ cls := "OrderlyNets$Forms", name := "study", desc := "(II)V" } : Jvm.MethodName) prog_4_method_12_code (3 : Nat) (Option.none : Option Jvm.ClassFile.FieldType)) ∈ lw_good := lw_g4 204 rfl rfl
theorem tw_925 : (Jvm.Cond.methodLink "OrderlyNets$Forms" (64 : Nat) ({ cls := "OrderlyNets$Forms", name := "leastSeenWith", desc := "(I)I" } : Jvm.MethodName)) ∈ lw_good := lw_g4 205 rfl rfl
theorem tw_927 : (Jvm.Cond.instanceMethod ({ cls := "OrderlyNets$Forms", name := "leastSeenWith", desc := "(I)I" } : Jvm.MethodName)) ∈ lw_good := lw_g4 207 rfl rfl
theorem tw_928 : (Jvm.Cond.code ({ cls := "OrderlyNets$Forms", name := "leastSeenWith", desc := "(I)I" } : Jvm.MethodName) prog_4_method_14_code (3 : Nat) (Option.some Jvm.ClassFile.FieldType.int)) ∈ lw_good := lw_g4 208 rfl rfl
theorem tw_929 : (Jvm.Cond.methodLink "OrderlyNets$Forms" (67 : Nat) ({ cls := "OrderlyNets$Forms", name := "seenAt", desc := "(I)I" } : Jvm.MethodName)) ∈ lw_good := lw_g4 209 rfl rfl
theorem tw_931 : (Jvm.Cond.instanceMethod ({ cls := "OrderlyNets$Forms", name := "seenAt", desc := "(I)I" } : Jvm.MethodName)) ∈ lw_good := lw_g4 211 rfl rfl
theorem tw_932 : (Jvm.Cond.code ({ cls := "OrderlyNets$Forms", name := "seenAt", desc := "(I)I" } : Jvm.MethodName) prog_4_method_13_code (2 : Nat) (Option.some Jvm.ClassFile.FieldType.int)) ∈ lw_good := lw_g4 212 rfl rfl
theorem tw_933 : (Jvm.Cond.methodLink "OrderlyNets$Forms" (89 : Nat) ({ cls := "OrderlyNets$Sketch", name := "lowest", desc := "(I)I" } : Jvm.MethodName)) ∈ lw_good := lw_g4 213 rfl rfl
theorem tw_934 : (Jvm.Cond.static ({ cls := "OrderlyNets$Sketch", name := "lowest", desc := "(I)I" } : Jvm.MethodName)) ∈ lw_good := lw_g4 214 rfl rfl
theorem tw_935 : (Jvm.Cond.code ({ cls := "OrderlyNets$Sketch", name := "lowest", desc := "(I)I" } : Jvm.MethodName) prog_9_method_13_code (2 : Nat) (Option.some Jvm.ClassFile.FieldType.int)) ∈ lw_good := lw_g4 215 rfl rfl
theorem tw_936 : (Jvm.Cond.methodLink "OrderlyNets" (192 : Nat) ({ cls := "OrderlyNets$Forms", name := "lastNodes", desc := "(II)I" } : Jvm.MethodName)) ∈ lw_good := lw_g4 216 rfl rfl
theorem tw_937 : (Jvm.Cond.instanceMethod ({ cls := "OrderlyNets$Forms", name := "lastNodes", desc := "(II)I" } : Jvm.MethodName)) ∈ lw_good := lw_g4 217 rfl rfl
theorem tw_938 : (Jvm.Cond.selects "OrderlyNets$Forms" ({ cls := "OrderlyNets$Forms", name := "lastNodes", desc := "(II)I" } : Jvm.MethodName) ({ cls := "OrderlyNets$Forms", name := "lastNodes", desc := "(II)I" } : Jvm.MethodName)) ∈ lw_good := lw_g4 218 rfl rfl
theorem tw_939 : (Jvm.Cond.code ({ cls := "OrderlyNets$Forms", name := "lastNodes", desc := "(II)I" } : Jvm.MethodName) prog_4_method_9_code (3 : Nat) (Option.some Jvm.ClassFile.FieldType.int)) ∈ lw_good := lw_g4 219 rfl rfl
theorem tw_940 : (Jvm.Cond.methodLink "OrderlyNets" (195 : Nat) ({ cls := "OrderlyNets$Levels", name := "heirs", desc := "(III)I" } : Jvm.MethodName)) ∈ lw_good := lw_g4 220 rfl rfl
theorem tw_941 : (Jvm.Cond.instanceMethod ({ cls := "OrderlyNets$Levels", name := "heirs", desc := "(III)I" } : Jvm.MethodName)) ∈ lw_good := lw_g4 221 rfl rfl
theorem tw_942 : (Jvm.Cond.selects "OrderlyNets$Levels" ({ cls := "OrderlyNets$Levels", name := "heirs", desc := "(III)I" } : Jvm.MethodName) ({ cls := "OrderlyNets$Levels", name := "heirs", desc := "(III)I" } : Jvm.MethodName)) ∈ lw_good := lw_g4 222 rfl rfl
theorem tw_943 : (Jvm.Cond.code ({ cls := "OrderlyNets$Levels", name := "heirs", desc := "(III)I" } : Jvm.MethodName) prog_5_method_12_code (5 : Nat) (Option.some Jvm.ClassFile.FieldType.int)) ∈ lw_good := lw_g4 223 rfl rfl
theorem tw_944 : (Jvm.Cond.methodLink "OrderlyNets$Levels" (72 : Nat) ({ cls := "OrderlyNets$Code", name := "bits", desc := "(I)I" } : Jvm.MethodName)) ∈ lw_good := lw_g4 224 rfl rfl
theorem tw_945 : (Jvm.Cond.methodLink "OrderlyNets$Levels" (77 : Nat) ({ cls := "OrderlyNets$Levels", name := "firstHeir", desc := "(III)I" } : Jvm.MethodName)) ∈ lw_good := lw_g4 225 rfl rfl
theorem tw_946 : (Jvm.Cond.instanceMethod ({ cls := "OrderlyNets$Levels", name := "firstHeir", desc := "(III)I" } : Jvm.MethodName)) ∈ lw_good := lw_g4 226 rfl rfl
theorem tw_947 : (Jvm.Cond.selects "OrderlyNets$Levels" ({ cls := "OrderlyNets$Levels", name := "firstHeir", desc := "(III)I" } : Jvm.MethodName) ({ cls := "OrderlyNets$Levels", name := "firstHeir", desc := "(III)I" } : Jvm.MethodName)) ∈ lw_good := lw_g4 227 rfl rfl
theorem tw_948 : (Jvm.Cond.code ({ cls := "OrderlyNets$Levels", name := "firstHeir", desc := "(III)I" } : Jvm.MethodName) prog_5_method_11_code (4 : Nat) (Option.some Jvm.ClassFile.FieldType.int)) ∈ lw_good := lw_g4 228 rfl rfl
theorem tw_958 : (Jvm.Cond.methodLink "OrderlyNets$Sketch" (64 : Nat) ({ cls := "OrderlyNets$Sketch", name := "circles", desc := "()I" } : Jvm.MethodName)) ∈ lw_good := lw_g4 238 rfl rfl
theorem tw_959 : (Jvm.Cond.methodLink "OrderlyNets$Sketch" (68 : Nat) ({ cls := "OrderlyNets$Sketch", name := "lowest", desc := "(I)I" } : Jvm.MethodName)) ∈ lw_good := lw_g4 239 rfl rfl
theorem tw_979 : (Jvm.Cond.methodLink "OrderlyNetsLaw" (30 : Nat) ({ cls := "OrderlyNets", name := "joined", desc := "(IIII)Z" } : Jvm.MethodName)) ∈ lw_good := lw_g5 19 rfl rfl
theorem tw_980 : (Jvm.Cond.instanceMethod ({ cls := "OrderlyNets", name := "joined", desc := "(IIII)Z" } : Jvm.MethodName)) ∈ lw_good := lw_g5 20 rfl rfl
theorem tw_981 : (Jvm.Cond.selects "OrderlyNets" ({ cls := "OrderlyNets", name := "joined", desc := "(IIII)Z" } : Jvm.MethodName) ({ cls := "OrderlyNets", name := "joined", desc := "(IIII)Z" } : Jvm.MethodName)) ∈ lw_good := lw_g5 21 rfl rfl
theorem tw_982 : (Jvm.Cond.code ({ cls := "OrderlyNets", name := "joined", desc := "(IIII)Z" } : Jvm.MethodName) prog_1_method_9_code (6 : Nat) (Option.some Jvm.ClassFile.FieldType.boolean)) ∈ lw_good := lw_g5 22 rfl rfl
theorem tw_983 : (Jvm.Cond.methodLink "OrderlyNets" (221 : Nat) ({ cls := "OrderlyNets", name := "needNode", desc := "(II)V" } : Jvm.MethodName)) ∈ lw_good := lw_g5 23 rfl rfl
theorem tw_985 : (Jvm.Cond.instanceMethod ({ cls := "OrderlyNets", name := "needNode", desc := "(II)V" } : Jvm.MethodName)) ∈ lw_good := lw_g5 25 rfl rfl
theorem tw_986 : (Jvm.Cond.code ({ cls := "OrderlyNets", name := "needNode", desc := "(II)V" } : Jvm.MethodName) prog_1_method_40_code (3 : Nat) (Option.none : Option Jvm.ClassFile.FieldType)) ∈ lw_good := lw_g5 26 rfl rfl
theorem tw_988 : (Jvm.Cond.methodLink "OrderlyNets" (224 : Nat) ({ cls := "OrderlyNets$Code", name := "areJoined", desc := "(IIII)Z" } : Jvm.MethodName)) ∈ lw_good := lw_g5 28 rfl rfl
theorem tw_992 : (Jvm.Cond.methodLink "OrderlyNetsLaw" (34 : Nat) ({ cls := "OrderlyNets", name := "orbit", desc := "(III)I" } : Jvm.MethodName)) ∈ lw_good := lw_g5 32 rfl rfl
theorem tw_993 : (Jvm.Cond.instanceMethod ({ cls := "OrderlyNets", name := "orbit", desc := "(III)I" } : Jvm.MethodName)) ∈ lw_good := lw_g5 33 rfl rfl
theorem tw_994 : (Jvm.Cond.selects "OrderlyNets" ({ cls := "OrderlyNets", name := "orbit", desc := "(III)I" } : Jvm.MethodName) ({ cls := "OrderlyNets", name := "orbit", desc := "(III)I" } : Jvm.MethodName)) ∈ lw_good := lw_g5 34 rfl rfl
theorem tw_995 : (Jvm.Cond.code ({ cls := "OrderlyNets", name := "orbit", desc := "(III)I" } : Jvm.MethodName) prog_1_method_10_code (5 : Nat) (Option.some Jvm.ClassFile.FieldType.int)) ∈ lw_good := lw_g5 35 rfl rfl
theorem tw_996 : (Jvm.Cond.methodLink "OrderlyNets" (228 : Nat) ({ cls := "OrderlyNets$Forms", name := "leastLike", desc := "(III)I" } : Jvm.MethodName)) ∈ lw_good := lw_g5 36 rfl rfl
theorem tw_997 : (Jvm.Cond.instanceMethod ({ cls := "OrderlyNets$Forms", name := "leastLike", desc := "(III)I" } : Jvm.MethodName)) ∈ lw_good := lw_g5 37 rfl rfl
theorem tw_998 : (Jvm.Cond.selects "OrderlyNets$Forms" ({ cls := "OrderlyNets$Forms", name := "leastLike", desc := "(III)I" } : Jvm.MethodName) ({ cls := "OrderlyNets$Forms", name := "leastLike", desc := "(III)I" } : Jvm.MethodName)) ∈ lw_good := lw_g5 38 rfl rfl
theorem tw_999 : (Jvm.Cond.code ({ cls := "OrderlyNets$Forms", name := "leastLike", desc := "(III)I" } : Jvm.MethodName) prog_4_method_8_code (4 : Nat) (Option.some Jvm.ClassFile.FieldType.int)) ∈ lw_good := lw_g5 39 rfl rfl
theorem tw_1003 : (Jvm.Cond.methodLink "OrderlyNetsLaw" (37 : Nat) ({ cls := "OrderlyNets", name := "child", desc := "(III)I" } : Jvm.MethodName)) ∈ lw_good := lw_g5 43 rfl rfl
theorem tw_1004 : (Jvm.Cond.instanceMethod ({ cls := "OrderlyNets", name := "child", desc := "(III)I" } : Jvm.MethodName)) ∈ lw_good := lw_g5 44 rfl rfl
theorem tw_1005 : (Jvm.Cond.selects "OrderlyNets" ({ cls := "OrderlyNets", name := "child", desc := "(III)I" } : Jvm.MethodName) ({ cls := "OrderlyNets", name := "child", desc := "(III)I" } : Jvm.MethodName)) ∈ lw_good := lw_g5 45 rfl rfl
theorem tw_1006 : (Jvm.Cond.code ({ cls := "OrderlyNets", name := "child", desc := "(III)I" } : Jvm.MethodName) prog_1_method_11_code (4 : Nat) (Option.some Jvm.ClassFile.FieldType.int)) ∈ lw_good := lw_g5 46 rfl rfl
theorem tw_1007 : (Jvm.Cond.methodLink "OrderlyNets" (231 : Nat) ({ cls := "OrderlyNets$Levels", name := "firstHeir", desc := "(III)I" } : Jvm.MethodName)) ∈ lw_good := lw_g5 47 rfl rfl
theorem tw_1011 : (Jvm.Cond.classLink "OrderlyNetsLaw" (44 : Nat) "java/lang/IllegalStateException") ∈ lw_good := lw_g5 51 rfl rfl
theorem tw_1012 : (Jvm.Cond.methodLink "OrderlyNetsLaw" (40 : Nat) ({ cls := "OrderlyNets", name := "grown", desc := "(IIIZ)I" } : Jvm.MethodName)) ∈ lw_good := lw_g5 52 rfl rfl
theorem tw_1013 : (Jvm.Cond.instanceMethod ({ cls := "OrderlyNets", name := "grown", desc := "(IIIZ)I" } : Jvm.MethodName)) ∈ lw_good := lw_g5 53 rfl rfl
theorem tw_1014 : (Jvm.Cond.selects "OrderlyNets" ({ cls := "OrderlyNets", name := "grown", desc := "(IIIZ)I" } : Jvm.MethodName) ({ cls := "OrderlyNets", name := "grown", desc := "(IIIZ)I" } : Jvm.MethodName)) ∈ lw_good := lw_g5 54 rfl rfl
theorem tw_1015 : (Jvm.Cond.code ({ cls := "OrderlyNets", name := "grown", desc := "(IIIZ)I" } : Jvm.MethodName) prog_1_method_12_code (6 : Nat) (Option.some Jvm.ClassFile.FieldType.int)) ∈ lw_good := lw_g5 55 rfl rfl
theorem tw_1016 : (Jvm.Cond.methodLink "OrderlyNets" (234 : Nat) ({ cls := "OrderlyNets", name := "needGrown", desc := "(IIIZ)I" } : Jvm.MethodName)) ∈ lw_good := lw_g5 56 rfl rfl
theorem tw_1018 : (Jvm.Cond.instanceMethod ({ cls := "OrderlyNets", name := "needGrown", desc := "(IIIZ)I" } : Jvm.MethodName)) ∈ lw_good := lw_g5 58 rfl rfl
theorem tw_1019 : (Jvm.Cond.code ({ cls := "OrderlyNets", name := "needGrown", desc := "(IIIZ)I" } : Jvm.MethodName) prog_1_method_45_code (6 : Nat) (Option.some Jvm.ClassFile.FieldType.int)) ∈ lw_good := lw_g5 59 rfl rfl
theorem tw_1022 : (Jvm.Cond.classLink "OrderlyNets" (241 : Nat) "java/lang/IllegalStateException") ∈ lw_good := lw_g5 62 rfl rfl
theorem tw_1024 : (Jvm.Cond.castable "java/lang/IllegalStateException" "java/lang/IllegalStateException") ∈ lw_nest := lw_n5 64 rfl rfl
theorem tw_1038 : (Jvm.Cond.methodLink "OrderlyNets" (404 : Nat) ({ cls := "OrderlyNets$Code", name := "grow", desc := "(IIIZ)I" } : Jvm.MethodName)) ∈ lw_good := lw_g5 78 rfl rfl
theorem tw_1039 : (Jvm.Cond.static ({ cls := "OrderlyNets$Code", name := "grow", desc := "(IIIZ)I" } : Jvm.MethodName)) ∈ lw_good := lw_g5 79 rfl rfl
theorem tw_1040 : (Jvm.Cond.code ({ cls := "OrderlyNets$Code", name := "grow", desc := "(IIIZ)I" } : Jvm.MethodName) prog_2_method_10_code (6 : Nat) (Option.some Jvm.ClassFile.FieldType.int)) ∈ lw_good := lw_g5 80 rfl rfl
theorem tw_1044 : (Jvm.Cond.methodLink "OrderlyNetsLaw" (46 : Nat) ({ cls := "OrderlyNets", name := "taken", desc := "(IIIZ)Z" } : Jvm.MethodName)) ∈ lw_good := lw_g5 84 rfl rfl
theorem tw_1045 : (Jvm.Cond.instanceMethod ({ cls := "OrderlyNets", name := "taken", desc := "(IIIZ)Z" } : Jvm.MethodName)) ∈ lw_good := lw_g5 85 rfl rfl
theorem tw_1046 : (Jvm.Cond.selects "OrderlyNets" ({ cls := "OrderlyNets", name := "taken", desc := "(IIIZ)Z" } : Jvm.MethodName) ({ cls := "OrderlyNets", name := "taken", desc := "(IIIZ)Z" } : Jvm.MethodName)) ∈ lw_good := lw_g5 86 rfl rfl
theorem tw_1047 : (Jvm.Cond.code ({ cls := "OrderlyNets", name := "taken", desc := "(IIIZ)Z" } : Jvm.MethodName) prog_1_method_13_code (7 : Nat) (Option.some Jvm.ClassFile.FieldType.boolean)) ∈ lw_good := lw_g5 87 rfl rfl
theorem tw_1051 : (Jvm.Cond.methodLink "OrderlyNetsLaw" (50 : Nat) ({ cls := "OrderlyNets", name := "deck", desc := "(III)I" } : Jvm.MethodName)) ∈ lw_good := lw_g5 91 rfl rfl
theorem tw_1052 : (Jvm.Cond.instanceMethod ({ cls := "OrderlyNets", name := "deck", desc := "(III)I" } : Jvm.MethodName)) ∈ lw_good := lw_g5 92 rfl rfl
theorem tw_1053 : (Jvm.Cond.selects "OrderlyNets" ({ cls := "OrderlyNets", name := "deck", desc := "(III)I" } : Jvm.MethodName) ({ cls := "OrderlyNets", name := "deck", desc := "(III)I" } : Jvm.MethodName)) ∈ lw_good := lw_g5 93 rfl rfl
theorem tw_1054 : (Jvm.Cond.code ({ cls := "OrderlyNets", name := "deck", desc := "(III)I" } : Jvm.MethodName) prog_1_method_14_code (5 : Nat) (Option.some Jvm.ClassFile.FieldType.int)) ∈ lw_good := lw_g5 94 rfl rfl
theorem tw_1056 : (Jvm.Cond.methodLink "OrderlyNets" (246 : Nat) ({ cls := "OrderlyNets", name := "numberWithout", desc := "(III)I" } : Jvm.MethodName)) ∈ lw_good := lw_g5 96 rfl rfl
theorem tw_1058 : (Jvm.Cond.instanceMethod ({ cls := "OrderlyNets", name := "numberWithout", desc := "(III)I" } : Jvm.MethodName)) ∈ lw_good := lw_g5 98 rfl rfl
theorem tw_1059 : (Jvm.Cond.code ({ cls := "OrderlyNets", name := "numberWithout", desc := "(III)I" } : Jvm.MethodName) prog_1_method_46_code (5 : Nat) (Option.some Jvm.ClassFile.FieldType.int)) ∈ lw_good := lw_g5 99 rfl rfl
theorem tw_1060 : (Jvm.Cond.methodLink "OrderlyNets" (407 : Nat) ({ cls := "OrderlyNets$Code", name := "part", desc := "(III)I" } : Jvm.MethodName)) ∈ lw_good := lw_g5 100 rfl rfl
theorem tw_1064 : (Jvm.Cond.methodLink "OrderlyNetsLaw" (53 : Nat) ({ cls := "OrderlyNets", name := "other", desc := "(II)I" } : Jvm.MethodName)) ∈ lw_good := lw_g5 104 rfl rfl
theorem tw_1065 : (Jvm.Cond.instanceMethod ({ cls := "OrderlyNets", name := "other", desc := "(II)I" } : Jvm.MethodName)) ∈ lw_good := lw_g5 105 rfl rfl
theorem tw_1066 : (Jvm.Cond.selects "OrderlyNets" ({ cls := "OrderlyNets", name := "other", desc := "(II)I" } : Jvm.MethodName) ({ cls := "OrderlyNets", name := "other", desc := "(II)I" } : Jvm.MethodName)) ∈ lw_good := lw_g5 106 rfl rfl
theorem tw_1067 : (Jvm.Cond.code ({ cls := "OrderlyNets", name := "other", desc := "(II)I" } : Jvm.MethodName) prog_1_method_15_code (4 : Nat) (Option.some Jvm.ClassFile.FieldType.int)) ∈ lw_good := lw_g5 107 rfl rfl
theorem tw_1068 : (Jvm.Cond.methodLink "OrderlyNets" (249 : Nat) ({ cls := "OrderlyNets$Code", name := "allEdges", desc := "(I)I" } : Jvm.MethodName)) ∈ lw_good := lw_g5 108 rfl rfl
theorem tw_1072 : (Jvm.Cond.methodLink "OrderlyNetsLaw" (57 : Nat) ({ cls := "OrderlyNets", name := "within", desc := "(IIII)I" } : Jvm.MethodName)) ∈ lw_good := lw_g5 112 rfl rfl
theorem tw_1073 : (Jvm.Cond.instanceMethod ({ cls := "OrderlyNets", name := "within", desc := "(IIII)I" } : Jvm.MethodName)) ∈ lw_good := lw_g5 113 rfl rfl
theorem tw_1074 : (Jvm.Cond.selects "OrderlyNets" ({ cls := "OrderlyNets", name := "within", desc := "(IIII)I" } : Jvm.MethodName) ({ cls := "OrderlyNets", name := "within", desc := "(IIII)I" } : Jvm.MethodName)) ∈ lw_good := lw_g5 114 rfl rfl
theorem tw_1075 : (Jvm.Cond.code ({ cls := "OrderlyNets", name := "within", desc := "(IIII)I" } : Jvm.MethodName) prog_1_method_16_code (7 : Nat) (Option.some Jvm.ClassFile.FieldType.int)) ∈ lw_good := lw_g5 115 rfl rfl
theorem tw_1076 : (Jvm.Cond.methodLink "OrderlyNets" (252 : Nat) ({ cls := "OrderlyNets$Forms", name := "partsLike", desc := "(IIII)I" } : Jvm.MethodName)) ∈ lw_good := lw_g5 116 rfl rfl
theorem tw_1080 : (Jvm.Cond.methodLink "OrderlyNetsLaw" (61 : Nat) ({ cls := "OrderlyNets", name := "rooted", desc := "(I)I" } : Jvm.MethodName)) ∈ lw_good := lw_g5 120 rfl rfl
theorem tw_1081 : (Jvm.Cond.instanceMethod ({ cls := "OrderlyNets", name := "rooted", desc := "(I)I" } : Jvm.MethodName)) ∈ lw_good := lw_g5 121 rfl rfl
theorem tw_1082 : (Jvm.Cond.selects "OrderlyNets" ({ cls := "OrderlyNets", name := "rooted", desc := "(I)I" } : Jvm.MethodName) ({ cls := "OrderlyNets", name := "rooted", desc := "(I)I" } : Jvm.MethodName)) ∈ lw_good := lw_g5 122 rfl rfl
theorem tw_1083 : (Jvm.Cond.code ({ cls := "OrderlyNets", name := "rooted", desc := "(I)I" } : Jvm.MethodName) prog_1_method_17_code (4 : Nat) (Option.some Jvm.ClassFile.FieldType.int)) ∈ lw_good := lw_g5 123 rfl rfl
theorem tw_1087 : (Jvm.Cond.methodLink "OrderlyNetsLaw" (64 : Nat) ({ cls := "OrderlyNets", name := "turned", desc := "(IIII)I" } : Jvm.MethodName)) ∈ lw_good := lw_g5 127 rfl rfl
theorem tw_1088 : (Jvm.Cond.instanceMethod ({ cls := "OrderlyNets", name := "turned", desc := "(IIII)I" } : Jvm.MethodName)) ∈ lw_good := lw_g5 128 rfl rfl
theorem tw_1089 : (Jvm.Cond.selects "OrderlyNets" ({ cls := "OrderlyNets", name := "turned", desc := "(IIII)I" } : Jvm.MethodName) ({ cls := "OrderlyNets", name := "turned", desc := "(IIII)I" } : Jvm.MethodName)) ∈ lw_good := lw_g5 129 rfl rfl
theorem tw_1090 : (Jvm.Cond.code ({ cls := "OrderlyNets", name := "turned", desc := "(IIII)I" } : Jvm.MethodName) prog_1_method_18_code (6 : Nat) (Option.some Jvm.ClassFile.FieldType.int)) ∈ lw_good := lw_g5 130 rfl rfl
theorem tw_1092 : (Jvm.Cond.methodLink "OrderlyNets" (261 : Nat) ({ cls := "OrderlyNets$Code", name := "edge", desc := "(III)I" } : Jvm.MethodName)) ∈ lw_good := lw_g5 132 rfl rfl
theorem tw_1096 : (Jvm.Cond.methodLink "OrderlyNetsLaw" (67 : Nat) ({ cls := "OrderlyNets", name := "apart", desc := "(III)I" } : Jvm.MethodName)) ∈ lw_good := lw_g5 136 rfl rfl
theorem tw_1097 : (Jvm.Cond.instanceMethod ({ cls := "OrderlyNets", name := "apart", desc := "(III)I" } : Jvm.MethodName)) ∈ lw_good := lw_g5 137 rfl rfl
theorem tw_1098 : (Jvm.Cond.selects "OrderlyNets" ({ cls := "OrderlyNets", name := "apart", desc := "(III)I" } : Jvm.MethodName) ({ cls := "OrderlyNets", name := "apart", desc := "(III)I" } : Jvm.MethodName)) ∈ lw_good := lw_g5 138 rfl rfl
theorem tw_1099 : (Jvm.Cond.code ({ cls := "OrderlyNets", name := "apart", desc := "(III)I" } : Jvm.MethodName) prog_1_method_19_code (6 : Nat) (Option.some Jvm.ClassFile.FieldType.int)) ∈ lw_good := lw_g5 139 rfl rfl
theorem tw_1100 : (Jvm.Cond.methodLink "OrderlyNets" (264 : Nat) ({ cls := "OrderlyNets$Match", name := "fewestTurns", desc := "(III)I" } : Jvm.MethodName)) ∈ lw_good := lw_g5 140 rfl rfl
theorem tw_1101 : (Jvm.Cond.instanceMethod ({ cls := "OrderlyNets$Match", name := "fewestTurns", desc := "(III)I" } : Jvm.MethodName)) ∈ lw_good := lw_g5 141 rfl rfl
theorem tw_1102 : (Jvm.Cond.selects "OrderlyNets$Match" ({ cls := "OrderlyNets$Match", name := "fewestTurns", desc := "(III)I" } : Jvm.MethodName) ({ cls := "OrderlyNets$Match", name := "fewestTurns", desc := "(III)I" } : Jvm.MethodName)) ∈ lw_good := lw_g5 142 rfl rfl
theorem tw_1103 : (Jvm.Cond.code ({ cls := "OrderlyNets$Match", name := "fewestTurns", desc := "(III)I" } : Jvm.MethodName) prog_6_method_2_code (4 : Nat) (Option.some Jvm.ClassFile.FieldType.int)) ∈ lw_good := lw_g5 143 rfl rfl
theorem tw_1104 : (Jvm.Cond.methodLink "OrderlyNets$Match" (21 : Nat) ({ cls := "OrderlyNets$Code", name := "darkNodes", desc := "(II)I" } : Jvm.MethodName)) ∈ lw_good := lw_g5 144 rfl rfl
theorem tw_1105 : (Jvm.Cond.static ({ cls := "OrderlyNets$Code", name := "darkNodes", desc := "(II)I" } : Jvm.MethodName)) ∈ lw_good := lw_g5 145 rfl rfl
theorem tw_1106 : (Jvm.Cond.code ({ cls := "OrderlyNets$Code", name := "darkNodes", desc := "(II)I" } : Jvm.MethodName) prog_2_method_9_code (2 : Nat) (Option.some Jvm.ClassFile.FieldType.int)) ∈ lw_good := lw_g5 146 rfl rfl
theorem tw_1107 : (Jvm.Cond.methodLink "OrderlyNets$Match" (27 : Nat) ({ cls := "OrderlyNets$Sketch", name := "draw", desc := "(II)V" } : Jvm.MethodName)) ∈ lw_good := lw_g5 147 rfl rfl
theorem tw_1108 : (Jvm.Cond.methodLink "OrderlyNets$Match" (42 : Nat) ({ cls := "OrderlyNets$Match", name := "layNext", desc := "(IIIJ)V" } : Jvm.MethodName)) ∈ lw_good := lw_g5 148 rfl rfl
theorem tw_1110 : (Jvm.Cond.instanceMethod ({ cls := "OrderlyNets$Match", name := "layNext", desc := "(IIIJ)V" } : Jvm.MethodName)) ∈ lw_good := lw_g5 150 rfl rfl
theorem tw_1111 : (Jvm.Cond.code ({ cls := "OrderlyNets$Match", name := "layNext", desc := "(IIIJ)V" } : Jvm.MethodName) prog_6_method_3_code (11 : Nat) (Option.none : Option Jvm.ClassFile.FieldType)) ∈ lw_good := lw_g5 151 rfl rfl
theorem tw_1112 : (Jvm.Cond.methodLink "OrderlyNets$Match" (49 : Nat) ({ cls := "OrderlyNets$Code", name := "bits", desc := "(I)I" } : Jvm.MethodName)) ∈ lw_good := lw_g5 152 rfl rfl
theorem tw_1113 : (Jvm.Cond.methodLink "OrderlyNets$Match" (53 : Nat) ({ cls := "OrderlyNets$Sketch", name := "block", desc := "(JI)I" } : Jvm.MethodName)) ∈ lw_good := lw_g5 153 rfl rfl
theorem tw_1114 : (Jvm.Cond.methodLink "OrderlyNets$Match" (57 : Nat) ({ cls := "java/lang/Integer", name := "bitCount", desc := "(I)I" } : Jvm.MethodName)) ∈ lw_good := lw_g5 154 rfl rfl
theorem tw_1115 : (Jvm.Cond.methodLink "OrderlyNets$Match" (62 : Nat) ({ cls := "OrderlyNets$Match", name := "lay", desc := "(IIIIJ)V" } : Jvm.MethodName)) ∈ lw_good := lw_g5 155 rfl rfl
theorem tw_1117 : (Jvm.Cond.instanceMethod ({ cls := "OrderlyNets$Match", name := "lay", desc := "(IIIIJ)V" } : Jvm.MethodName)) ∈ lw_good := lw_g5 157 rfl rfl
theorem tw_1118 : (Jvm.Cond.code ({ cls := "OrderlyNets$Match", name := "lay", desc := "(IIIIJ)V" } : Jvm.MethodName) prog_6_method_4_code (7 : Nat) (Option.none : Option Jvm.ClassFile.FieldType)) ∈ lw_good := lw_g5 158 rfl rfl
theorem tw_1119 : (Jvm.Cond.methodLink "OrderlyNets$Match" (66 : Nat) ({ cls := "OrderlyNets$Sketch", name := "fan", desc := "(I)J" } : Jvm.MethodName)) ∈ lw_good := lw_g5 159 rfl rfl
theorem tw_1123 : (Jvm.Cond.methodLink "OrderlyNetsLaw" (70 : Nat) ({ cls := "OrderlyNets", name := "common", desc := "(IIII)I" } : Jvm.MethodName)) ∈ lw_good := lw_g5 163 rfl rfl
theorem tw_1124 : (Jvm.Cond.instanceMethod ({ cls := "OrderlyNets", name := "common", desc := "(IIII)I" } : Jvm.MethodName)) ∈ lw_good := lw_g5 164 rfl rfl
theorem tw_1125 : (Jvm.Cond.selects "OrderlyNets" ({ cls := "OrderlyNets", name := "common", desc := "(IIII)I" } : Jvm.MethodName) ({ cls := "OrderlyNets", name := "common", desc := "(IIII)I" } : Jvm.MethodName)) ∈ lw_good := lw_g5 165 rfl rfl
theorem tw_1126 : (Jvm.Cond.code ({ cls := "OrderlyNets", name := "common", desc := "(IIII)I" } : Jvm.MethodName) prog_1_method_20_code (7 : Nat) (Option.some Jvm.ClassFile.FieldType.int)) ∈ lw_good := lw_g5 166 rfl rfl
theorem tw_1127 : (Jvm.Cond.methodLink "OrderlyNets" (267 : Nat) ({ cls := "OrderlyNets$Match", name := "mostAlike", desc := "(IIII)I" } : Jvm.MethodName)) ∈ lw_good := lw_g5 167 rfl rfl
theorem tw_1128 : (Jvm.Cond.instanceMethod ({ cls := "OrderlyNets$Match", name := "mostAlike", desc := "(IIII)I" } : Jvm.MethodName)) ∈ lw_good := lw_g5 168 rfl rfl
theorem tw_1129 : (Jvm.Cond.selects "OrderlyNets$Match" ({ cls := "OrderlyNets$Match", name := "mostAlike", desc := "(IIII)I" } : Jvm.MethodName) ({ cls := "OrderlyNets$Match", name := "mostAlike", desc := "(IIII)I" } : Jvm.MethodName)) ∈ lw_good := lw_g5 169 rfl rfl
theorem tw_1130 : (Jvm.Cond.code ({ cls := "OrderlyNets$Match", name := "mostAlike", desc := "(IIII)I" } : Jvm.MethodName) prog_6_method_5_code (5 : Nat) (Option.some Jvm.ClassFile.FieldType.int)) ∈ lw_good := lw_g5 170 rfl rfl
theorem tw_1131 : (Jvm.Cond.methodLink "OrderlyNets$Match" (70 : Nat) ({ cls := "OrderlyNets$Match", name := "pairNext", desc := "(IIIJJ)V" } : Jvm.MethodName)) ∈ lw_good := lw_g5 171 rfl rfl
theorem tw_1133 : (Jvm.Cond.instanceMethod ({ cls := "OrderlyNets$Match", name := "pairNext", desc := "(IIIJJ)V" } : Jvm.MethodName)) ∈ lw_good := lw_g5 173 rfl rfl
theorem tw_1134 : (Jvm.Cond.code ({ cls := "OrderlyNets$Match", name := "pairNext", desc := "(IIIJJ)V" } : Jvm.MethodName) prog_6_method_6_code (11 : Nat) (Option.none : Option Jvm.ClassFile.FieldType)) ∈ lw_good := lw_g5 174 rfl rfl
theorem tw_1135 : (Jvm.Cond.methodLink "OrderlyNets$Match" (74 : Nat) ({ cls := "java/lang/Math", name := "max", desc := "(II)I" } : Jvm.MethodName)) ∈ lw_good := lw_g5 175 rfl rfl
theorem tw_1136 : (Jvm.Cond.methodLink "OrderlyNets$Match" (79 : Nat) ({ cls := "java/lang/Math", name := "min", desc := "(II)I" } : Jvm.MethodName)) ∈ lw_good := lw_g5 176 rfl rfl
theorem tw_1137 : (Jvm.Cond.methodLink "OrderlyNets$Match" (82 : Nat) ({ cls := "OrderlyNets$Match", name := "pair", desc := "(IIIJJ)V" } : Jvm.MethodName)) ∈ lw_good := lw_g5 177 rfl rfl
theorem tw_1139 : (Jvm.Cond.instanceMethod ({ cls := "OrderlyNets$Match", name := "pair", desc := "(IIIJJ)V" } : Jvm.MethodName)) ∈ lw_good := lw_g5 179 rfl rfl
theorem tw_1140 : (Jvm.Cond.code ({ cls := "OrderlyNets$Match", name := "pair", desc := "(IIIJJ)V" } : Jvm.MethodName) prog_6_method_8_code (8 : Nat) (Option.none : Option Jvm.ClassFile.FieldType)) ∈ lw_good := lw_g5 180 rfl rfl
theorem tw_1141 : (Jvm.Cond.methodLink "OrderlyNets$Match" (85 : Nat) ({ cls := "OrderlyNets$Match", name := "leaveOut", desc := "(IIIJJ)V" } : Jvm.MethodName)) ∈ lw_good := lw_g5 181 rfl rfl
theorem tw_1143 : (Jvm.Cond.instanceMethod ({ cls := "OrderlyNets$Match", name := "leaveOut", desc := "(IIIJJ)V" } : Jvm.MethodName)) ∈ lw_good := lw_g5 183 rfl rfl
theorem tw_1144 : (Jvm.Cond.code ({ cls := "OrderlyNets$Match", name := "leaveOut", desc := "(IIIJJ)V" } : Jvm.MethodName) prog_6_method_7_code (8 : Nat) (Option.none : Option Jvm.ClassFile.FieldType)) ∈ lw_good := lw_g5 184 rfl rfl
theorem tw_1148 : (Jvm.Cond.methodLink "OrderlyNetsLaw" (73 : Nat) ({ cls := "OrderlyNets", name := "lines", desc := "(II)I" } : Jvm.MethodName)) ∈ lw_good := lw_g5 188 rfl rfl
theorem tw_1149 : (Jvm.Cond.instanceMethod ({ cls := "OrderlyNets", name := "lines", desc := "(II)I" } : Jvm.MethodName)) ∈ lw_good := lw_g5 189 rfl rfl
theorem tw_1150 : (Jvm.Cond.selects "OrderlyNets" ({ cls := "OrderlyNets", name := "lines", desc := "(II)I" } : Jvm.MethodName) ({ cls := "OrderlyNets", name := "lines", desc := "(II)I" } : Jvm.MethodName)) ∈ lw_good := lw_g5 190 rfl rfl
theorem tw_1151 : (Jvm.Cond.code ({ cls := "OrderlyNets", name := "lines", desc := "(II)I" } : Jvm.MethodName) prog_1_method_21_code (3 : Nat) (Option.some Jvm.ClassFile.FieldType.int)) ∈ lw_good := lw_g5 191 rfl rfl
theorem tw_1152 : (Jvm.Cond.methodLink "OrderlyNets" (270 : Nat) ({ cls := "OrderlyNets$Forms", name := "unlikeEdges", desc := "(II)I" } : Jvm.MethodName)) ∈ lw_good := lw_g5 192 rfl rfl
theorem tw_1153 : (Jvm.Cond.instanceMethod ({ cls := "OrderlyNets$Forms", name := "unlikeEdges", desc := "(II)I" } : Jvm.MethodName)) ∈ lw_good := lw_g5 193 rfl rfl
theorem tw_1154 : (Jvm.Cond.selects "OrderlyNets$Forms" ({ cls := "OrderlyNets$Forms", name := "unlikeEdges", desc := "(II)I" } : Jvm.MethodName) ({ cls := "OrderlyNets$Forms", name := "unlikeEdges", desc := "(II)I" } : Jvm.MethodName)) ∈ lw_good := lw_g5 194 rfl rfl
theorem tw_1155 : (Jvm.Cond.code ({ cls := "OrderlyNets$Forms", name := "unlikeEdges", desc := "(II)I" } : Jvm.MethodName) prog_4_method_10_code (3 : Nat) (Option.some Jvm.ClassFile.FieldType.int)) ∈ lw_good := lw_g5 195 rfl rfl
theorem tw_1159 : (Jvm.Cond.methodLink "OrderlyNetsLaw" (76 : Nat) ({ cls := "OrderlyNets", name := "twins", desc := "(I)I" } : Jvm.MethodName)) ∈ lw_good := lw_g5 199 rfl rfl
theorem tw_1160 : (Jvm.Cond.instanceMethod ({ cls := "OrderlyNets", name := "twins", desc := "(I)I" } : Jvm.MethodName)) ∈ lw_good := lw_g5 200 rfl rfl
theorem tw_1161 : (Jvm.Cond.selects "OrderlyNets" ({ cls := "OrderlyNets", name := "twins", desc := "(I)I" } : Jvm.MethodName) ({ cls := "OrderlyNets", name := "twins", desc := "(I)I" } : Jvm.MethodName)) ∈ lw_good := lw_g5 201 rfl rfl
theorem tw_1162 : (Jvm.Cond.code ({ cls := "OrderlyNets", name := "twins", desc := "(I)I" } : Jvm.MethodName) prog_1_method_22_code (8 : Nat) (Option.some Jvm.ClassFile.FieldType.int)) ∈ lw_good := lw_g5 202 rfl rfl
theorem tw_1164 : (Jvm.Cond.methodLink "OrderlyNets" (275 : Nat) ({ cls := "java/lang/Math", name := "min", desc := "(II)I" } : Jvm.MethodName)) ∈ lw_good := lw_g5 204 rfl rfl
theorem tw_1165 : (Jvm.Cond.methodLink "OrderlyNets" (280 : Nat) ({ cls := "OrderlyNets", name := "wholeDeck", desc := "(II)J" } : Jvm.MethodName)) ∈ lw_good := lw_g5 205 rfl rfl
theorem tw_1167 : (Jvm.Cond.instanceMethod ({ cls := "OrderlyNets", name := "wholeDeck", desc := "(II)J" } : Jvm.MethodName)) ∈ lw_good := lw_g5 207 rfl rfl
theorem tw_1168 : (Jvm.Cond.code ({ cls := "OrderlyNets", name := "wholeDeck", desc := "(II)J" } : Jvm.MethodName) prog_1_method_47_code (6 : Nat) (Option.some Jvm.ClassFile.FieldType.long)) ∈ lw_good := lw_g5 208 rfl rfl
theorem tw_1169 : (Jvm.Cond.methodLink "OrderlyNets" (410 : Nat) ({ cls := "OrderlyNets", name := "withSorted", desc := "(JJ)J" } : Jvm.MethodName)) ∈ lw_good := lw_g5 209 rfl rfl
theorem tw_1170 : (Jvm.Cond.static ({ cls := "OrderlyNets", name := "withSorted", desc := "(JJ)J" } : Jvm.MethodName)) ∈ lw_good := lw_g5 210 rfl rfl
theorem tw_1171 : (Jvm.Cond.code ({ cls := "OrderlyNets", name := "withSorted", desc := "(JJ)J" } : Jvm.MethodName) prog_1_method_48_code (11 : Nat) (Option.some Jvm.ClassFile.FieldType.long)) ∈ lw_good := lw_g5 211 rfl rfl
theorem tw_1172 : (Jvm.Cond.constantLong "OrderlyNets" (414 : Nat) (1023 : Int64)) ∈ lw_good := lw_g5 212 rfl rfl
theorem tw_1173 : (Jvm.Cond.methodLink "OrderlyNets" (416 : Nat) ({ cls := "java/lang/Math", name := "max", desc := "(JJ)J" } : Jvm.MethodName)) ∈ lw_good := lw_g5 213 rfl rfl
theorem tw_1174 : (Jvm.Cond.static ({ cls := "java/lang/Math", name := "max", desc := "(JJ)J" } : Jvm.MethodName)) ∈ lw_good := lw_g5 214 rfl rfl
theorem tw_1175 : (Jvm.Cond.code ({ cls := "java/lang/Math", name := "max", desc := "(JJ)J" } : Jvm.MethodName) prog_23_method_66_code (4 : Nat) (Option.some Jvm.ClassFile.FieldType.long)) ∈ lw_good := lw_g5 215 rfl rfl
theorem tw_1176 : (Jvm.Cond.methodLink "OrderlyNets" (419 : Nat) ({ cls := "java/lang/Math", name := "min", desc := "(JJ)J" } : Jvm.MethodName)) ∈ lw_good := lw_g5 216 rfl rfl
theorem tw_1177 : (Jvm.Cond.static ({ cls := "java/lang/Math", name := "min", desc := "(JJ)J" } : Jvm.MethodName)) ∈ lw_good := lw_g5 217 rfl rfl
theorem tw_1178 : (Jvm.Cond.code ({ cls := "java/lang/Math", name := "min", desc := "(JJ)J" } : Jvm.MethodName) prog_23_method_70_code (4 : Nat) (Option.some Jvm.ClassFile.FieldType.long)) ∈ lw_good := lw_g5 218 rfl rfl
theorem tw_1182 : (Jvm.Cond.methodLink "OrderlyNetsLaw" (79 : Nat) ({ cls := "OrderlyNets", name := "named", desc := "(I)J" } : Jvm.MethodName)) ∈ lw_good := lw_g5 222 rfl rfl
theorem tw_1183 : (Jvm.Cond.instanceMethod ({ cls := "OrderlyNets", name := "named", desc := "(I)J" } : Jvm.MethodName)) ∈ lw_good := lw_g5 223 rfl rfl
theorem tw_1184 : (Jvm.Cond.selects "OrderlyNets" ({ cls := "OrderlyNets", name := "named", desc := "(I)J" } : Jvm.MethodName) ({ cls := "OrderlyNets", name := "named", desc := "(I)J" } : Jvm.MethodName)) ∈ lw_good := lw_g5 224 rfl rfl
theorem tw_1185 : (Jvm.Cond.code ({ cls := "OrderlyNets", name := "named", desc := "(I)J" } : Jvm.MethodName) prog_1_method_23_code (8 : Nat) (Option.some Jvm.ClassFile.FieldType.long)) ∈ lw_good := lw_g5 225 rfl rfl
theorem tw_1186 : (Jvm.Cond.methodLink "OrderlyNets" (284 : Nat) ({ cls := "OrderlyNets$Cycles", name := "orders", desc := "(I)J" } : Jvm.MethodName)) ∈ lw_good := lw_g5 226 rfl rfl
theorem tw_1187 : (Jvm.Cond.static ({ cls := "OrderlyNets$Cycles", name := "orders", desc := "(I)J" } : Jvm.MethodName)) ∈ lw_good := lw_g5 227 rfl rfl
theorem tw_1188 : (Jvm.Cond.code ({ cls := "OrderlyNets$Cycles", name := "orders", desc := "(I)J" } : Jvm.MethodName) prog_3_method_2_code (4 : Nat) (Option.some Jvm.ClassFile.FieldType.long)) ∈ lw_good := lw_g5 228 rfl rfl
theorem tw_1192 : (Jvm.Cond.methodLink "OrderlyNetsLaw" (83 : Nat) ({ cls := "OrderlyNets", name := "cycles", desc := "(II)J" } : Jvm.MethodName)) ∈ lw_good := lw_g5 232 rfl rfl
theorem tw_1193 : (Jvm.Cond.instanceMethod ({ cls := "OrderlyNets", name := "cycles", desc := "(II)J" } : Jvm.MethodName)) ∈ lw_good := lw_g5 233 rfl rfl
theorem tw_1194 : (Jvm.Cond.selects "OrderlyNets" ({ cls := "OrderlyNets", name := "cycles", desc := "(II)J" } : Jvm.MethodName) ({ cls := "OrderlyNets", name := "cycles", desc := "(II)J" } : Jvm.MethodName)) ∈ lw_good := lw_g5 234 rfl rfl
theorem tw_1195 : (Jvm.Cond.code ({ cls := "OrderlyNets", name := "cycles", desc := "(II)J" } : Jvm.MethodName) prog_1_method_24_code (3 : Nat) (Option.some Jvm.ClassFile.FieldType.long)) ∈ lw_good := lw_g5 235 rfl rfl
theorem tw_1198 : (Jvm.Cond.methodLink "OrderlyNets" (296 : Nat) ({ cls := "OrderlyNets$Cycles", name := "unlikeNets", desc := "(IIZ)J" } : Jvm.MethodName)) ∈ lw_good := lw_g5 238 rfl rfl
theorem tw_1199 : (Jvm.Cond.instanceMethod ({ cls := "OrderlyNets$Cycles", name := "unlikeNets", desc := "(IIZ)J" } : Jvm.MethodName)) ∈ lw_good := lw_g5 239 rfl rfl
theorem tw_1200 : (Jvm.Cond.selects "OrderlyNets$Cycles" ({ cls := "OrderlyNets$Cycles", name := "unlikeNets", desc := "(IIZ)J" } : Jvm.MethodName) ({ cls := "OrderlyNets$Cycles", name := "unlikeNets", desc := "(IIZ)J" } : Jvm.MethodName)) ∈ lw_good := lw_g6 0 rfl rfl
theorem tw_1201 : (Jvm.Cond.code ({ cls := "OrderlyNets$Cycles", name := "unlikeNets", desc := "(IIZ)J" } : Jvm.MethodName) prog_3_method_3_code (4 : Nat) (Option.some Jvm.ClassFile.FieldType.long)) ∈ lw_good := lw_g6 1 rfl rfl
theorem tw_1202 : (Jvm.Cond.methodLink "OrderlyNets$Cycles" (27 : Nat) ({ cls := "OrderlyNets$Cycles", name := "orders", desc := "(I)J" } : Jvm.MethodName)) ∈ lw_good := lw_g6 2 rfl rfl
theorem tw_1203 : (Jvm.Cond.methodLink "OrderlyNets$Cycles" (31 : Nat) ({ cls := "OrderlyNets$Cycles", name := "splitNext", desc := "(IIIJ)J" } : Jvm.MethodName)) ∈ lw_good := lw_g6 3 rfl rfl
theorem tw_1205 : (Jvm.Cond.instanceMethod ({ cls := "OrderlyNets$Cycles", name := "splitNext", desc := "(IIIJ)J" } : Jvm.MethodName)) ∈ lw_good := lw_g6 5 rfl rfl
theorem tw_1206 : (Jvm.Cond.code ({ cls := "OrderlyNets$Cycles", name := "splitNext", desc := "(IIIJ)J" } : Jvm.MethodName) prog_3_method_4_code (9 : Nat) (Option.some Jvm.ClassFile.FieldType.long)) ∈ lw_good := lw_g6 6 rfl rfl
theorem tw_1207 : (Jvm.Cond.methodLink "OrderlyNets$Cycles" (41 : Nat) ({ cls := "OrderlyNets$Cycles", name := "alike", desc := "(IJ)J" } : Jvm.MethodName)) ∈ lw_good := lw_g6 7 rfl rfl
theorem tw_1209 : (Jvm.Cond.instanceMethod ({ cls := "OrderlyNets$Cycles", name := "alike", desc := "(IJ)J" } : Jvm.MethodName)) ∈ lw_good := lw_g6 9 rfl rfl
theorem tw_1210 : (Jvm.Cond.code ({ cls := "OrderlyNets$Cycles", name := "alike", desc := "(IJ)J" } : Jvm.MethodName) prog_3_method_7_code (8 : Nat) (Option.some Jvm.ClassFile.FieldType.long)) ∈ lw_good := lw_g6 10 rfl rfl
theorem tw_1211 : (Jvm.Cond.methodLink "OrderlyNets$Cycles" (55 : Nat) ({ cls := "OrderlyNets$Cycles", name := "partAt", desc := "(I)I" } : Jvm.MethodName)) ∈ lw_good := lw_g6 11 rfl rfl
theorem tw_1213 : (Jvm.Cond.instanceMethod ({ cls := "OrderlyNets$Cycles", name := "partAt", desc := "(I)I" } : Jvm.MethodName)) ∈ lw_good := lw_g6 13 rfl rfl
theorem tw_1214 : (Jvm.Cond.code ({ cls := "OrderlyNets$Cycles", name := "partAt", desc := "(I)I" } : Jvm.MethodName) prog_3_method_6_code (2 : Nat) (Option.some Jvm.ClassFile.FieldType.int)) ∈ lw_good := lw_g6 14 rfl rfl
theorem tw_1215 : (Jvm.Cond.methodLink "OrderlyNets$Cycles" (45 : Nat) ({ cls := "OrderlyNets$Cycles", name := "fixedNets", desc := "(I)J" } : Jvm.MethodName)) ∈ lw_good := lw_g6 15 rfl rfl
theorem tw_1217 : (Jvm.Cond.instanceMethod ({ cls := "OrderlyNets$Cycles", name := "fixedNets", desc := "(I)J" } : Jvm.MethodName)) ∈ lw_good := lw_g6 17 rfl rfl
theorem tw_1218 : (Jvm.Cond.code ({ cls := "OrderlyNets$Cycles", name := "fixedNets", desc := "(I)J" } : Jvm.MethodName) prog_3_method_8_code (6 : Nat) (Option.some Jvm.ClassFile.FieldType.long)) ∈ lw_good := lw_g6 18 rfl rfl
theorem tw_1219 : (Jvm.Cond.methodLink "OrderlyNets$Cycles" (59 : Nat) ({ cls := "java/util/Arrays", name := "fill", desc := "([JJ)V" } : Jvm.MethodName)) ∈ lw_good := lw_g6 19 rfl rfl
theorem tw_1220 : (Jvm.Cond.static ({ cls := "java/util/Arrays", name := "fill", desc := "([JJ)V" } : Jvm.MethodName)) ∈ lw_good := lw_g6 20 rfl rfl
theorem tw_1221 : (Jvm.Cond.code ({ cls := "java/util/Arrays", name := "fill", desc := "([JJ)V" } : Jvm.MethodName) prog_32_method_101_code (5 : Nat) (Option.none : Option Jvm.ClassFile.FieldType)) ∈ lw_good := lw_g6 21 rfl rfl
theorem tw_1222 : (Jvm.Cond.methodLink "OrderlyNets$Cycles" (65 : Nat) ({ cls := "OrderlyNets$Cycles", name := "addCycles", desc := "(II)V" } : Jvm.MethodName)) ∈ lw_good := lw_g6 22 rfl rfl
theorem tw_1224 : (Jvm.Cond.instanceMethod ({ cls := "OrderlyNets$Cycles", name := "addCycles", desc := "(II)V" } : Jvm.MethodName)) ∈ lw_good := lw_g6 24 rfl rfl
theorem tw_1225 : (Jvm.Cond.code ({ cls := "OrderlyNets$Cycles", name := "addCycles", desc := "(II)V" } : Jvm.MethodName) prog_3_method_9_code (5 : Nat) (Option.none : Option Jvm.ClassFile.FieldType)) ∈ lw_good := lw_g6 25 rfl rfl
theorem tw_1226 : (Jvm.Cond.methodLink "OrderlyNets$Cycles" (69 : Nat) ({ cls := "OrderlyNets$Cycles", name := "commonDivisor", desc := "(II)I" } : Jvm.MethodName)) ∈ lw_good := lw_g6 26 rfl rfl
theorem tw_1227 : (Jvm.Cond.static ({ cls := "OrderlyNets$Cycles", name := "commonDivisor", desc := "(II)I" } : Jvm.MethodName)) ∈ lw_good := lw_g6 27 rfl rfl
theorem tw_1228 : (Jvm.Cond.code ({ cls := "OrderlyNets$Cycles", name := "commonDivisor", desc := "(II)I" } : Jvm.MethodName) prog_3_method_10_code (3 : Nat) (Option.some Jvm.ClassFile.FieldType.int)) ∈ lw_good := lw_g6 28 rfl rfl
theorem tw_1229 : (Jvm.Cond.methodLink "OrderlyNets$Cycles" (48 : Nat) ({ cls := "java/lang/Math", name := "min", desc := "(II)I" } : Jvm.MethodName)) ∈ lw_good := lw_g6 29 rfl rfl
theorem tw_1230 : (Jvm.Cond.methodLink "OrderlyNets$Cycles" (52 : Nat) ({ cls := "OrderlyNets$Cycles", name := "split", desc := "(IIIJ)J" } : Jvm.MethodName)) ∈ lw_good := lw_g6 30 rfl rfl
theorem tw_1232 : (Jvm.Cond.instanceMethod ({ cls := "OrderlyNets$Cycles", name := "split", desc := "(IIIJ)J" } : Jvm.MethodName)) ∈ lw_good := lw_g6 32 rfl rfl
theorem tw_1233 : (Jvm.Cond.code ({ cls := "OrderlyNets$Cycles", name := "split", desc := "(IIIJ)J" } : Jvm.MethodName) prog_3_method_5_code (6 : Nat) (Option.some Jvm.ClassFile.FieldType.long)) ∈ lw_good := lw_g6 33 rfl rfl
theorem tw_1234 : (Jvm.Cond.methodLink "OrderlyNets$Cycles" (35 : Nat) ({ cls := "java/lang/Math", name := "max", desc := "(JJ)J" } : Jvm.MethodName)) ∈ lw_good := lw_g6 34 rfl rfl
theorem tw_1243 : (Jvm.Cond.methodLink "OrderlyNets" (302 : Nat) ({ cls := "OrderlyNets", name := "needTold", desc := "()V" } : Jvm.MethodName)) ∈ lw_good := lw_g6 43 rfl rfl
theorem tw_1245 : (Jvm.Cond.instanceMethod ({ cls := "OrderlyNets", name := "needTold", desc := "()V" } : Jvm.MethodName)) ∈ lw_good := lw_g6 45 rfl rfl
theorem tw_1246 : (Jvm.Cond.code ({ cls := "OrderlyNets", name := "needTold", desc := "()V" } : Jvm.MethodName) prog_1_method_44_code (1 : Nat) (Option.none : Option Jvm.ClassFile.FieldType)) ∈ lw_good := lw_g6 46 rfl rfl
theorem tw_1251 : (Jvm.Cond.methodLink "OrderlyNetsLaw" (90 : Nat) ({ cls := "OrderlyNets", name := "order", desc := "(I)I" } : Jvm.MethodName)) ∈ lw_good := lw_g6 51 rfl rfl
theorem tw_1252 : (Jvm.Cond.instanceMethod ({ cls := "OrderlyNets", name := "order", desc := "(I)I" } : Jvm.MethodName)) ∈ lw_good := lw_g6 52 rfl rfl
theorem tw_1253 : (Jvm.Cond.selects "OrderlyNets" ({ cls := "OrderlyNets", name := "order", desc := "(I)I" } : Jvm.MethodName) ({ cls := "OrderlyNets", name := "order", desc := "(I)I" } : Jvm.MethodName)) ∈ lw_good := lw_g6 53 rfl rfl
theorem tw_1254 : (Jvm.Cond.code ({ cls := "OrderlyNets", name := "order", desc := "(I)I" } : Jvm.MethodName) prog_1_method_27_code (2 : Nat) (Option.some Jvm.ClassFile.FieldType.int)) ∈ lw_good := lw_g6 54 rfl rfl
theorem tw_1256 : (Jvm.Cond.methodLink "OrderlyNets" (318 : Nat) ({ cls := "OrderlyNets$Forms", name := "nodeAt", desc := "(JI)I" } : Jvm.MethodName)) ∈ lw_good := lw_g6 56 rfl rfl
theorem tw_1257 : (Jvm.Cond.static ({ cls := "OrderlyNets$Forms", name := "nodeAt", desc := "(JI)I" } : Jvm.MethodName)) ∈ lw_good := lw_g6 57 rfl rfl
theorem tw_1258 : (Jvm.Cond.code ({ cls := "OrderlyNets$Forms", name := "nodeAt", desc := "(JI)I" } : Jvm.MethodName) prog_4_method_2_code (3 : Nat) (Option.some Jvm.ClassFile.FieldType.int)) ∈ lw_good := lw_g6 58 rfl rfl
theorem tw_1262 : (Jvm.Cond.methodLink "OrderlyNetsLaw" (93 : Nat) ({ cls := "OrderlyNets", name := "share", desc := "(III)I" } : Jvm.MethodName)) ∈ lw_good := lw_g6 62 rfl rfl
theorem tw_1263 : (Jvm.Cond.instanceMethod ({ cls := "OrderlyNets", name := "share", desc := "(III)I" } : Jvm.MethodName)) ∈ lw_good := lw_g6 63 rfl rfl
theorem tw_1264 : (Jvm.Cond.selects "OrderlyNets" ({ cls := "OrderlyNets", name := "share", desc := "(III)I" } : Jvm.MethodName) ({ cls := "OrderlyNets", name := "share", desc := "(III)I" } : Jvm.MethodName)) ∈ lw_good := lw_g6 64 rfl rfl
theorem tw_1265 : (Jvm.Cond.code ({ cls := "OrderlyNets", name := "share", desc := "(III)I" } : Jvm.MethodName) prog_1_method_28_code (4 : Nat) (Option.some Jvm.ClassFile.FieldType.int)) ∈ lw_good := lw_g6 65 rfl rfl
theorem tw_1266 : (Jvm.Cond.methodLink "OrderlyNets" (322 : Nat) ({ cls := "OrderlyNets", name := "needShare", desc := "(III)V" } : Jvm.MethodName)) ∈ lw_good := lw_g6 66 rfl rfl
theorem tw_1268 : (Jvm.Cond.instanceMethod ({ cls := "OrderlyNets", name := "needShare", desc := "(III)V" } : Jvm.MethodName)) ∈ lw_good := lw_g6 68 rfl rfl
theorem tw_1269 : (Jvm.Cond.code ({ cls := "OrderlyNets", name := "needShare", desc := "(III)V" } : Jvm.MethodName) prog_1_method_43_code (4 : Nat) (Option.none : Option Jvm.ClassFile.FieldType)) ∈ lw_good := lw_g6 69 rfl rfl
theorem tw_1271 : (Jvm.Cond.methodLink "OrderlyNets" (326 : Nat) ({ cls := "OrderlyNets$Levels", name := "shareSize", desc := "(IIII)I" } : Jvm.MethodName)) ∈ lw_good := lw_g6 71 rfl rfl
theorem tw_1272 : (Jvm.Cond.instanceMethod ({ cls := "OrderlyNets$Levels", name := "shareSize", desc := "(IIII)I" } : Jvm.MethodName)) ∈ lw_good := lw_g6 72 rfl rfl
theorem tw_1273 : (Jvm.Cond.selects "OrderlyNets$Levels" ({ cls := "OrderlyNets$Levels", name := "shareSize", desc := "(IIII)I" } : Jvm.MethodName) ({ cls := "OrderlyNets$Levels", name := "shareSize", desc := "(IIII)I" } : Jvm.MethodName)) ∈ lw_good := lw_g6 73 rfl rfl
theorem tw_1274 : (Jvm.Cond.code ({ cls := "OrderlyNets$Levels", name := "shareSize", desc := "(IIII)I" } : Jvm.MethodName) prog_5_method_13_code (7 : Nat) (Option.some Jvm.ClassFile.FieldType.int)) ∈ lw_good := lw_g6 74 rfl rfl
theorem tw_1275 : (Jvm.Cond.methodLink "OrderlyNets$Levels" (81 : Nat) ({ cls := "OrderlyNets$Levels", name := "heirs", desc := "(III)I" } : Jvm.MethodName)) ∈ lw_good := lw_g6 75 rfl rfl
theorem tw_1279 : (Jvm.Cond.methodLink "OrderlyNetsLaw" (96 : Nat) ({ cls := "OrderlyNets", name := "start", desc := "(IIII)I" } : Jvm.MethodName)) ∈ lw_good := lw_g6 79 rfl rfl
theorem tw_1280 : (Jvm.Cond.instanceMethod ({ cls := "OrderlyNets", name := "start", desc := "(IIII)I" } : Jvm.MethodName)) ∈ lw_good := lw_g6 80 rfl rfl
theorem tw_1281 : (Jvm.Cond.selects "OrderlyNets" ({ cls := "OrderlyNets", name := "start", desc := "(IIII)I" } : Jvm.MethodName) ({ cls := "OrderlyNets", name := "start", desc := "(IIII)I" } : Jvm.MethodName)) ∈ lw_good := lw_g6 81 rfl rfl
theorem tw_1282 : (Jvm.Cond.code ({ cls := "OrderlyNets", name := "start", desc := "(IIII)I" } : Jvm.MethodName) prog_1_method_29_code (5 : Nat) (Option.some Jvm.ClassFile.FieldType.int)) ∈ lw_good := lw_g6 82 rfl rfl
theorem tw_1283 : (Jvm.Cond.methodLink "OrderlyNets" (329 : Nat) ({ cls := "OrderlyNets", name := "needWalker", desc := "(I)V" } : Jvm.MethodName)) ∈ lw_good := lw_g6 83 rfl rfl
theorem tw_1285 : (Jvm.Cond.instanceMethod ({ cls := "OrderlyNets", name := "needWalker", desc := "(I)V" } : Jvm.MethodName)) ∈ lw_good := lw_g6 85 rfl rfl
theorem tw_1286 : (Jvm.Cond.code ({ cls := "OrderlyNets", name := "needWalker", desc := "(I)V" } : Jvm.MethodName) prog_1_method_41_code (2 : Nat) (Option.none : Option Jvm.ClassFile.FieldType)) ∈ lw_good := lw_g6 86 rfl rfl
theorem tw_1288 : (Jvm.Cond.methodLink "OrderlyNets" (332 : Nat) ({ cls := "OrderlyNets$Walkers", name := "give", desc := "(IIII)V" } : Jvm.MethodName)) ∈ lw_good := lw_g6 88 rfl rfl
theorem tw_1289 : (Jvm.Cond.methodLink "OrderlyNets" (336 : Nat) ({ cls := "OrderlyNets", name := "shareOf", desc := "(I)I" } : Jvm.MethodName)) ∈ lw_good := lw_g6 89 rfl rfl
theorem tw_1291 : (Jvm.Cond.instanceMethod ({ cls := "OrderlyNets", name := "shareOf", desc := "(I)I" } : Jvm.MethodName)) ∈ lw_good := lw_g6 91 rfl rfl
theorem tw_1292 : (Jvm.Cond.code ({ cls := "OrderlyNets", name := "shareOf", desc := "(I)I" } : Jvm.MethodName) prog_1_method_49_code (2 : Nat) (Option.some Jvm.ClassFile.FieldType.int)) ∈ lw_good := lw_g6 92 rfl rfl
theorem tw_1293 : (Jvm.Cond.methodLink "OrderlyNets" (421 : Nat) ({ cls := "OrderlyNets$Walkers", name := "depth", desc := "(I)I" } : Jvm.MethodName)) ∈ lw_good := lw_g6 93 rfl rfl
theorem tw_1294 : (Jvm.Cond.methodLink "OrderlyNets" (424 : Nat) ({ cls := "OrderlyNets$Walkers", name := "parts", desc := "(I)I" } : Jvm.MethodName)) ∈ lw_good := lw_g6 94 rfl rfl
theorem tw_1295 : (Jvm.Cond.instanceMethod ({ cls := "OrderlyNets$Walkers", name := "parts", desc := "(I)I" } : Jvm.MethodName)) ∈ lw_good := lw_g6 95 rfl rfl
theorem tw_1296 : (Jvm.Cond.selects "OrderlyNets$Walkers" ({ cls := "OrderlyNets$Walkers", name := "parts", desc := "(I)I" } : Jvm.MethodName) ({ cls := "OrderlyNets$Walkers", name := "parts", desc := "(I)I" } : Jvm.MethodName)) ∈ lw_good := lw_g6 96 rfl rfl
theorem tw_1297 : (Jvm.Cond.code ({ cls := "OrderlyNets$Walkers", name := "parts", desc := "(I)I" } : Jvm.MethodName) prog_12_method_9_code (2 : Nat) (Option.some Jvm.ClassFile.FieldType.int)) ∈ lw_good := lw_g6 97 rfl rfl
theorem tw_1298 : (Jvm.Cond.methodLink "OrderlyNets" (427 : Nat) ({ cls := "OrderlyNets$Walkers", name := "part", desc := "(I)I" } : Jvm.MethodName)) ∈ lw_good := lw_g6 98 rfl rfl
theorem tw_1299 : (Jvm.Cond.instanceMethod ({ cls := "OrderlyNets$Walkers", name := "part", desc := "(I)I" } : Jvm.MethodName)) ∈ lw_good := lw_g6 99 rfl rfl
theorem tw_1300 : (Jvm.Cond.selects "OrderlyNets$Walkers" ({ cls := "OrderlyNets$Walkers", name := "part", desc := "(I)I" } : Jvm.MethodName) ({ cls := "OrderlyNets$Walkers", name := "part", desc := "(I)I" } : Jvm.MethodName)) ∈ lw_good := lw_g6 100 rfl rfl
theorem tw_1301 : (Jvm.Cond.code ({ cls := "OrderlyNets$Walkers", name := "part", desc := "(I)I" } : Jvm.MethodName) prog_12_method_10_code (2 : Nat) (Option.some Jvm.ClassFile.FieldType.int)) ∈ lw_good := lw_g6 101 rfl rfl
theorem tw_1305 : (Jvm.Cond.methodLink "OrderlyNetsLaw" (99 : Nat) ({ cls := "OrderlyNets", name := "next", desc := "(I)I" } : Jvm.MethodName)) ∈ lw_good := lw_g6 105 rfl rfl
theorem tw_1306 : (Jvm.Cond.instanceMethod ({ cls := "OrderlyNets", name := "next", desc := "(I)I" } : Jvm.MethodName)) ∈ lw_good := lw_g6 106 rfl rfl
theorem tw_1307 : (Jvm.Cond.selects "OrderlyNets" ({ cls := "OrderlyNets", name := "next", desc := "(I)I" } : Jvm.MethodName) ({ cls := "OrderlyNets", name := "next", desc := "(I)I" } : Jvm.MethodName)) ∈ lw_good := lw_g6 107 rfl rfl
theorem tw_1308 : (Jvm.Cond.code ({ cls := "OrderlyNets", name := "next", desc := "(I)I" } : Jvm.MethodName) prog_1_method_30_code (3 : Nat) (Option.some Jvm.ClassFile.FieldType.int)) ∈ lw_good := lw_g6 108 rfl rfl
theorem tw_1309 : (Jvm.Cond.methodLink "OrderlyNets" (339 : Nat) ({ cls := "OrderlyNets", name := "needShareOf", desc := "(I)V" } : Jvm.MethodName)) ∈ lw_good := lw_g6 109 rfl rfl
theorem tw_1311 : (Jvm.Cond.instanceMethod ({ cls := "OrderlyNets", name := "needShareOf", desc := "(I)V" } : Jvm.MethodName)) ∈ lw_good := lw_g6 111 rfl rfl
theorem tw_1312 : (Jvm.Cond.code ({ cls := "OrderlyNets", name := "needShareOf", desc := "(I)V" } : Jvm.MethodName) prog_1_method_42_code (2 : Nat) (Option.none : Option Jvm.ClassFile.FieldType)) ∈ lw_good := lw_g6 112 rfl rfl
theorem tw_1313 : (Jvm.Cond.methodLink "OrderlyNets" (388 : Nat) ({ cls := "OrderlyNets$Walkers", name := "hasShare", desc := "(I)Z" } : Jvm.MethodName)) ∈ lw_good := lw_g6 113 rfl rfl
theorem tw_1315 : (Jvm.Cond.methodLink "OrderlyNets" (342 : Nat) ({ cls := "OrderlyNets$Walkers", name := "listed", desc := "(I)I" } : Jvm.MethodName)) ∈ lw_good := lw_g6 115 rfl rfl
theorem tw_1316 : (Jvm.Cond.instanceMethod ({ cls := "OrderlyNets$Walkers", name := "listed", desc := "(I)I" } : Jvm.MethodName)) ∈ lw_good := lw_g6 116 rfl rfl
theorem tw_1317 : (Jvm.Cond.selects "OrderlyNets$Walkers" ({ cls := "OrderlyNets$Walkers", name := "listed", desc := "(I)I" } : Jvm.MethodName) ({ cls := "OrderlyNets$Walkers", name := "listed", desc := "(I)I" } : Jvm.MethodName)) ∈ lw_good := lw_g6 117 rfl rfl
theorem tw_1318 : (Jvm.Cond.code ({ cls := "OrderlyNets$Walkers", name := "listed", desc := "(I)I" } : Jvm.MethodName) prog_12_method_11_code (2 : Nat) (Option.some Jvm.ClassFile.FieldType.int)) ∈ lw_good := lw_g6 118 rfl rfl
theorem tw_1319 : (Jvm.Cond.methodLink "OrderlyNets" (345 : Nat) ({ cls := "OrderlyNets$Walkers", name := "setListed", desc := "(II)V" } : Jvm.MethodName)) ∈ lw_good := lw_g6 119 rfl rfl
theorem tw_1320 : (Jvm.Cond.instanceMethod ({ cls := "OrderlyNets$Walkers", name := "setListed", desc := "(II)V" } : Jvm.MethodName)) ∈ lw_good := lw_g6 120 rfl rfl
theorem tw_1321 : (Jvm.Cond.selects "OrderlyNets$Walkers" ({ cls := "OrderlyNets$Walkers", name := "setListed", desc := "(II)V" } : Jvm.MethodName) ({ cls := "OrderlyNets$Walkers", name := "setListed", desc := "(II)V" } : Jvm.MethodName)) ∈ lw_good := lw_g6 121 rfl rfl
theorem tw_1322 : (Jvm.Cond.code ({ cls := "OrderlyNets$Walkers", name := "setListed", desc := "(II)V" } : Jvm.MethodName) prog_12_method_5_code (3 : Nat) (Option.none : Option Jvm.ClassFile.FieldType)) ∈ lw_good := lw_g6 122 rfl rfl
theorem tw_1323 : (Jvm.Cond.methodLink "OrderlyNets" (348 : Nat) ({ cls := "OrderlyNets", name := "listedLast", desc := "(I)I" } : Jvm.MethodName)) ∈ lw_good := lw_g6 123 rfl rfl
theorem tw_1325 : (Jvm.Cond.instanceMethod ({ cls := "OrderlyNets", name := "listedLast", desc := "(I)I" } : Jvm.MethodName)) ∈ lw_good := lw_g6 125 rfl rfl
theorem tw_1326 : (Jvm.Cond.code ({ cls := "OrderlyNets", name := "listedLast", desc := "(I)I" } : Jvm.MethodName) prog_1_method_50_code (4 : Nat) (Option.some Jvm.ClassFile.FieldType.int)) ∈ lw_good := lw_g6 126 rfl rfl
theorem tw_1327 : (Jvm.Cond.methodLink "OrderlyNets" (429 : Nat) ({ cls := "OrderlyNets$Levels", name := "shareNumber", desc := "(IIIII)I" } : Jvm.MethodName)) ∈ lw_good := lw_g6 127 rfl rfl
theorem tw_1328 : (Jvm.Cond.instanceMethod ({ cls := "OrderlyNets$Levels", name := "shareNumber", desc := "(IIIII)I" } : Jvm.MethodName)) ∈ lw_good := lw_g6 128 rfl rfl
theorem tw_1329 : (Jvm.Cond.selects "OrderlyNets$Levels" ({ cls := "OrderlyNets$Levels", name := "shareNumber", desc := "(IIIII)I" } : Jvm.MethodName) ({ cls := "OrderlyNets$Levels", name := "shareNumber", desc := "(IIIII)I" } : Jvm.MethodName)) ∈ lw_good := lw_g6 129 rfl rfl
theorem tw_1330 : (Jvm.Cond.code ({ cls := "OrderlyNets$Levels", name := "shareNumber", desc := "(IIIII)I" } : Jvm.MethodName) prog_5_method_14_code (9 : Nat) (Option.some Jvm.ClassFile.FieldType.int)) ∈ lw_good := lw_g6 130 rfl rfl
theorem tw_1342 : (Jvm.Cond.methodLink "OrderlyNetsLaw" (105 : Nat) ({ cls := "OrderlyNets", name := "resume", desc := "(II)I" } : Jvm.MethodName)) ∈ lw_good := lw_g6 142 rfl rfl
theorem tw_1343 : (Jvm.Cond.instanceMethod ({ cls := "OrderlyNets", name := "resume", desc := "(II)I" } : Jvm.MethodName)) ∈ lw_good := lw_g6 143 rfl rfl
theorem tw_1344 : (Jvm.Cond.selects "OrderlyNets" ({ cls := "OrderlyNets", name := "resume", desc := "(II)I" } : Jvm.MethodName) ({ cls := "OrderlyNets", name := "resume", desc := "(II)I" } : Jvm.MethodName)) ∈ lw_good := lw_g6 144 rfl rfl
theorem tw_1345 : (Jvm.Cond.code ({ cls := "OrderlyNets", name := "resume", desc := "(II)I" } : Jvm.MethodName) prog_1_method_32_code (4 : Nat) (Option.some Jvm.ClassFile.FieldType.int)) ∈ lw_good := lw_g6 145 rfl rfl
theorem tw_1350 : (Jvm.Cond.methodLink "OrderlyNetsLaw" (108 : Nat) ({ cls := "OrderlyNets", name := "text", desc := "(II)I" } : Jvm.MethodName)) ∈ lw_good := lw_g6 150 rfl rfl
theorem tw_1351 : (Jvm.Cond.instanceMethod ({ cls := "OrderlyNets", name := "text", desc := "(II)I" } : Jvm.MethodName)) ∈ lw_good := lw_g6 151 rfl rfl
theorem tw_1352 : (Jvm.Cond.selects "OrderlyNets" ({ cls := "OrderlyNets", name := "text", desc := "(II)I" } : Jvm.MethodName) ({ cls := "OrderlyNets", name := "text", desc := "(II)I" } : Jvm.MethodName)) ∈ lw_good := lw_g6 152 rfl rfl
theorem tw_1353 : (Jvm.Cond.code ({ cls := "OrderlyNets", name := "text", desc := "(II)I" } : Jvm.MethodName) prog_1_method_33_code (3 : Nat) (Option.some Jvm.ClassFile.FieldType.int)) ∈ lw_good := lw_g6 153 rfl rfl
theorem tw_1354 : (Jvm.Cond.methodLink "OrderlyNets" (355 : Nat) ({ cls := "OrderlyNets$Page", name := "writeNet", desc := "(II)V" } : Jvm.MethodName)) ∈ lw_good := lw_g6 154 rfl rfl
theorem tw_1355 : (Jvm.Cond.instanceMethod ({ cls := "OrderlyNets$Page", name := "writeNet", desc := "(II)V" } : Jvm.MethodName)) ∈ lw_good := lw_g6 155 rfl rfl
theorem tw_1356 : (Jvm.Cond.selects "OrderlyNets$Page" ({ cls := "OrderlyNets$Page", name := "writeNet", desc := "(II)V" } : Jvm.MethodName) ({ cls := "OrderlyNets$Page", name := "writeNet", desc := "(II)V" } : Jvm.MethodName)) ∈ lw_good := lw_g6 156 rfl rfl
theorem tw_1357 : (Jvm.Cond.code ({ cls := "OrderlyNets$Page", name := "writeNet", desc := "(II)V" } : Jvm.MethodName) prog_7_method_3_code (4 : Nat) (Option.none : Option Jvm.ClassFile.FieldType)) ∈ lw_good := lw_g6 157 rfl rfl
theorem tw_1359 : (Jvm.Cond.methodLink "OrderlyNets$Page" (21 : Nat) ({ cls := "OrderlyNets$Page", name := "putWord", desc := "(Ljava/lang/String;)V" } : Jvm.MethodName)) ∈ lw_good := lw_g6 159 rfl rfl
theorem tw_1361 : (Jvm.Cond.instanceMethod ({ cls := "OrderlyNets$Page", name := "putWord", desc := "(Ljava/lang/String;)V" } : Jvm.MethodName)) ∈ lw_good := lw_g6 161 rfl rfl
theorem tw_1362 : (Jvm.Cond.code ({ cls := "OrderlyNets$Page", name := "putWord", desc := "(Ljava/lang/String;)V" } : Jvm.MethodName) prog_7_method_5_code (3 : Nat) (Option.none : Option Jvm.ClassFile.FieldType)) ∈ lw_good := lw_g6 162 rfl rfl
theorem tw_1363 : (Jvm.Cond.methodLink "OrderlyNets$Page" (55 : Nat) ({ cls := "OrderlyNets$Page", name := "putBlank", desc := "()V" } : Jvm.MethodName)) ∈ lw_good := lw_g6 163 rfl rfl
theorem tw_1365 : (Jvm.Cond.instanceMethod ({ cls := "OrderlyNets$Page", name := "putBlank", desc := "()V" } : Jvm.MethodName)) ∈ lw_good := lw_g6 165 rfl rfl
theorem tw_1366 : (Jvm.Cond.code ({ cls := "OrderlyNets$Page", name := "putBlank", desc := "()V" } : Jvm.MethodName) prog_7_method_7_code (1 : Nat) (Option.none : Option Jvm.ClassFile.FieldType)) ∈ lw_good := lw_g6 166 rfl rfl
theorem tw_1367 : (Jvm.Cond.methodLink "OrderlyNets$Page" (52 : Nat) ({ cls := "OrderlyNets$Page", name := "put", desc := "(I)V" } : Jvm.MethodName)) ∈ lw_good := lw_g6 167 rfl rfl
theorem tw_1369 : (Jvm.Cond.instanceMethod ({ cls := "OrderlyNets$Page", name := "put", desc := "(I)V" } : Jvm.MethodName)) ∈ lw_good := lw_g6 169 rfl rfl
theorem tw_1370 : (Jvm.Cond.code ({ cls := "OrderlyNets$Page", name := "put", desc := "(I)V" } : Jvm.MethodName) prog_7_method_8_code (2 : Nat) (Option.none : Option Jvm.ClassFile.FieldType)) ∈ lw_good := lw_g6 170 rfl rfl
theorem tw_1371 : (Jvm.Cond.methodLink "OrderlyNets$Page" (58 : Nat) ({ cls := "java/lang/String", name := "length", desc := "()I" } : Jvm.MethodName)) ∈ lw_good := lw_g6 171 rfl rfl
theorem tw_1372 : (Jvm.Cond.methodLink "OrderlyNets$Page" (63 : Nat) ({ cls := "java/lang/String", name := "charAt", desc := "(I)C" } : Jvm.MethodName)) ∈ lw_good := lw_g6 172 rfl rfl
theorem tw_1373 : (Jvm.Cond.methodLink "OrderlyNets$Page" (25 : Nat) ({ cls := "OrderlyNets$Page", name := "putNumber", desc := "(I)V" } : Jvm.MethodName)) ∈ lw_good := lw_g6 173 rfl rfl
theorem tw_1375 : (Jvm.Cond.instanceMethod ({ cls := "OrderlyNets$Page", name := "putNumber", desc := "(I)V" } : Jvm.MethodName)) ∈ lw_good := lw_g6 175 rfl rfl
theorem tw_1376 : (Jvm.Cond.code ({ cls := "OrderlyNets$Page", name := "putNumber", desc := "(I)V" } : Jvm.MethodName) prog_7_method_6_code (2 : Nat) (Option.none : Option Jvm.ClassFile.FieldType)) ∈ lw_good := lw_g6 176 rfl rfl
theorem tw_1377 : (Jvm.Cond.methodLink "OrderlyNets$Page" (29 : Nat) ({ cls := "OrderlyNets$Code", name := "darkNodes", desc := "(II)I" } : Jvm.MethodName)) ∈ lw_good := lw_g6 177 rfl rfl
theorem tw_1379 : (Jvm.Cond.methodLink "OrderlyNets$Page" (37 : Nat) ({ cls := "OrderlyNets$Code", name := "dark", desc := "(II)I" } : Jvm.MethodName)) ∈ lw_good := lw_g6 179 rfl rfl
theorem tw_1380 : (Jvm.Cond.methodLink "OrderlyNets$Page" (39 : Nat) ({ cls := "OrderlyNets$Page", name := "writeEdges", desc := "(II)V" } : Jvm.MethodName)) ∈ lw_good := lw_g6 180 rfl rfl
theorem tw_1382 : (Jvm.Cond.instanceMethod ({ cls := "OrderlyNets$Page", name := "writeEdges", desc := "(II)V" } : Jvm.MethodName)) ∈ lw_good := lw_g6 182 rfl rfl
theorem tw_1383 : (Jvm.Cond.code ({ cls := "OrderlyNets$Page", name := "writeEdges", desc := "(II)V" } : Jvm.MethodName) prog_7_method_4_code (6 : Nat) (Option.none : Option Jvm.ClassFile.FieldType)) ∈ lw_good := lw_g6 183 rfl rfl
theorem tw_1384 : (Jvm.Cond.methodLink "OrderlyNets$Page" (43 : Nat) ({ cls := "OrderlyNets$Code", name := "edges", desc := "(II)I" } : Jvm.MethodName)) ∈ lw_good := lw_g6 184 rfl rfl
theorem tw_1386 : (Jvm.Cond.methodLink "OrderlyNets$Page" (48 : Nat) ({ cls := "OrderlyNets$Code", name := "areJoined", desc := "(IIII)Z" } : Jvm.MethodName)) ∈ lw_good := lw_g6 186 rfl rfl
theorem tw_1398 : (Jvm.Cond.methodLink "OrderlyNetsModel" (65 : Nat) ({ cls := "OrderlyNetsModel", name := "isFresh", desc := "([I)V" } : Jvm.MethodName)) ∈ lw_good := lw_g6 198 rfl rfl
theorem tw_1399 : (Jvm.Cond.static ({ cls := "OrderlyNetsModel", name := "isFresh", desc := "([I)V" } : Jvm.MethodName)) ∈ lw_good := lw_g6 199 rfl rfl
theorem tw_1400 : (Jvm.Cond.code ({ cls := "OrderlyNetsModel", name := "isFresh", desc := "([I)V" } : Jvm.MethodName) prog_14_method_7_code (2 : Nat) (Option.none : Option Jvm.ClassFile.FieldType)) ∈ lw_good := lw_g6 200 rfl rfl
theorem tw_1401 : (Jvm.Cond.methodLink "OrderlyNetsModel" (69 : Nat) ({ cls := "OrderlyNetsModel", name := "laysLevels", desc := "()V" } : Jvm.MethodName)) ∈ lw_good := lw_g6 201 rfl rfl
theorem tw_1403 : (Jvm.Cond.instanceMethod ({ cls := "OrderlyNetsModel", name := "laysLevels", desc := "()V" } : Jvm.MethodName)) ∈ lw_good := lw_g6 203 rfl rfl
theorem tw_1404 : (Jvm.Cond.code ({ cls := "OrderlyNetsModel", name := "laysLevels", desc := "()V" } : Jvm.MethodName) prog_14_method_40_code (4 : Nat) (Option.none : Option Jvm.ClassFile.FieldType)) ∈ lw_good := lw_g6 204 rfl rfl
theorem tw_1405 : (Jvm.Cond.methodLink "OrderlyNetsModel" (155 : Nat) ({ cls := "OrderlyNetsModel", name := "isDarkKind", desc := "()Z" } : Jvm.MethodName)) ∈ lw_good := lw_g6 205 rfl rfl
theorem tw_1407 : (Jvm.Cond.instanceMethod ({ cls := "OrderlyNetsModel", name := "isDarkKind", desc := "()Z" } : Jvm.MethodName)) ∈ lw_good := lw_g6 207 rfl rfl
theorem tw_1408 : (Jvm.Cond.code ({ cls := "OrderlyNetsModel", name := "isDarkKind", desc := "()Z" } : Jvm.MethodName) prog_14_method_11_code (1 : Nat) (Option.some Jvm.ClassFile.FieldType.boolean)) ∈ lw_good := lw_g6 208 rfl rfl
theorem tw_1409 : (Jvm.Cond.methodLink "OrderlyNetsModel" (189 : Nat) ({ cls := "OrderlyNetsModel", name := "beginsClasses", desc := "(IZ)V" } : Jvm.MethodName)) ∈ lw_good := lw_g6 209 rfl rfl
theorem tw_1411 : (Jvm.Cond.instanceMethod ({ cls := "OrderlyNetsModel", name := "beginsClasses", desc := "(IZ)V" } : Jvm.MethodName)) ∈ lw_good := lw_g6 211 rfl rfl
theorem tw_1412 : (Jvm.Cond.code ({ cls := "OrderlyNetsModel", name := "beginsClasses", desc := "(IZ)V" } : Jvm.MethodName) prog_14_method_38_code (4 : Nat) (Option.none : Option Jvm.ClassFile.FieldType)) ∈ lw_good := lw_g6 212 rfl rfl
theorem tw_1413 : (Jvm.Cond.methodLink "OrderlyNetsModel" (178 : Nat) ({ cls := "OrderlyNetsModel", name := "codesOf", desc := "(IZ)I" } : Jvm.MethodName)) ∈ lw_good := lw_g6 213 rfl rfl
theorem tw_1414 : (Jvm.Cond.static ({ cls := "OrderlyNetsModel", name := "codesOf", desc := "(IZ)I" } : Jvm.MethodName)) ∈ lw_good := lw_g6 214 rfl rfl
theorem tw_1415 : (Jvm.Cond.code ({ cls := "OrderlyNetsModel", name := "codesOf", desc := "(IZ)I" } : Jvm.MethodName) prog_14_method_37_code (2 : Nat) (Option.some Jvm.ClassFile.FieldType.int)) ∈ lw_good := lw_g6 215 rfl rfl
theorem tw_1416 : (Jvm.Cond.methodLink "OrderlyNetsModel" (86 : Nat) ({ cls := "OrderlyNetsModel", name := "lengthOf", desc := "(I)I" } : Jvm.MethodName)) ∈ lw_good := lw_g6 216 rfl rfl
theorem tw_1417 : (Jvm.Cond.static ({ cls := "OrderlyNetsModel", name := "lengthOf", desc := "(I)I" } : Jvm.MethodName)) ∈ lw_good := lw_g6 217 rfl rfl
theorem tw_1418 : (Jvm.Cond.code ({ cls := "OrderlyNetsModel", name := "lengthOf", desc := "(I)I" } : Jvm.MethodName) prog_14_method_12_code (1 : Nat) (Option.some Jvm.ClassFile.FieldType.int)) ∈ lw_good := lw_g6 218 rfl rfl
theorem tw_1419 : (Jvm.Cond.methodLink "OrderlyNetsModel" (193 : Nat) ({ cls := "OrderlyNetsModel", name := "spread", desc := "(IIZ)I" } : Jvm.MethodName)) ∈ lw_good := lw_g6 219 rfl rfl
theorem tw_1420 : (Jvm.Cond.static ({ cls := "OrderlyNetsModel", name := "spread", desc := "(IIZ)I" } : Jvm.MethodName)) ∈ lw_good := lw_g6 220 rfl rfl
theorem tw_1421 : (Jvm.Cond.code ({ cls := "OrderlyNetsModel", name := "spread", desc := "(IIZ)I" } : Jvm.MethodName) prog_14_method_35_code (7 : Nat) (Option.some Jvm.ClassFile.FieldType.int)) ∈ lw_good := lw_g6 221 rfl rfl
theorem tw_1422 : (Jvm.Cond.methodLink "OrderlyNetsModel" (196 : Nat) ({ cls := "OrderlyNetsModel", name := "marksLike", desc := "(IIZ)V" } : Jvm.MethodName)) ∈ lw_good := lw_g6 222 rfl rfl
theorem tw_1424 : (Jvm.Cond.instanceMethod ({ cls := "OrderlyNetsModel", name := "marksLike", desc := "(IIZ)V" } : Jvm.MethodName)) ∈ lw_good := lw_g6 224 rfl rfl
theorem tw_1425 : (Jvm.Cond.code ({ cls := "OrderlyNetsModel", name := "marksLike", desc := "(IIZ)V" } : Jvm.MethodName) prog_14_method_39_code (4 : Nat) (Option.none : Option Jvm.ClassFile.FieldType)) ∈ lw_good := lw_g6 225 rfl rfl
theorem tw_1426 : (Jvm.Cond.methodLink "OrderlyNetsModel" (182 : Nat) ({ cls := "OrderlyNetsModel", name := "takesCode", desc := "(II)V" } : Jvm.MethodName)) ∈ lw_good := lw_g6 226 rfl rfl
theorem tw_1428 : (Jvm.Cond.instanceMethod ({ cls := "OrderlyNetsModel", name := "takesCode", desc := "(II)V" } : Jvm.MethodName)) ∈ lw_good := lw_g6 228 rfl rfl
theorem tw_1429 : (Jvm.Cond.code ({ cls := "OrderlyNetsModel", name := "takesCode", desc := "(II)V" } : Jvm.MethodName) prog_14_method_13_code (6 : Nat) (Option.none : Option Jvm.ClassFile.FieldType)) ∈ lw_good := lw_g6 229 rfl rfl
theorem tw_1430 : (Jvm.Cond.methodLink "OrderlyNetsModel" (90 : Nat) ({ cls := "OrderlyNetsModel", name := "holds", desc := "(II)Z" } : Jvm.MethodName)) ∈ lw_good := lw_g6 230 rfl rfl
theorem tw_1431 : (Jvm.Cond.static ({ cls := "OrderlyNetsModel", name := "holds", desc := "(II)Z" } : Jvm.MethodName)) ∈ lw_good := lw_g6 231 rfl rfl
theorem tw_1432 : (Jvm.Cond.code ({ cls := "OrderlyNetsModel", name := "holds", desc := "(II)Z" } : Jvm.MethodName) prog_14_method_4_code (2 : Nat) (Option.some Jvm.ClassFile.FieldType.boolean)) ∈ lw_good := lw_g6 232 rfl rfl
theorem tw_1433 : (Jvm.Cond.methodLink "OrderlyNetsModel" (94 : Nat) ({ cls := "OrderlyNetsModel", name := "ties", desc := "(II)V" } : Jvm.MethodName)) ∈ lw_good := lw_g6 233 rfl rfl
theorem tw_1435 : (Jvm.Cond.instanceMethod ({ cls := "OrderlyNetsModel", name := "ties", desc := "(II)V" } : Jvm.MethodName)) ∈ lw_good := lw_g6 235 rfl rfl
theorem tw_1436 : (Jvm.Cond.code ({ cls := "OrderlyNetsModel", name := "ties", desc := "(II)V" } : Jvm.MethodName) prog_14_method_14_code (3 : Nat) (Option.none : Option Jvm.ClassFile.FieldType)) ∈ lw_good := lw_g6 236 rfl rfl
theorem tw_1437 : (Jvm.Cond.methodLink "OrderlyNetsModel" (107 : Nat) ({ cls := "OrderlyNetsModel", name := "beginsOrders", desc := "()V" } : Jvm.MethodName)) ∈ lw_good := lw_g6 237 rfl rfl
theorem tw_1439 : (Jvm.Cond.instanceMethod ({ cls := "OrderlyNetsModel", name := "beginsOrders", desc := "()V" } : Jvm.MethodName)) ∈ lw_good := lw_g6 239 rfl rfl
theorem tw_1440 : (Jvm.Cond.code ({ cls := "OrderlyNetsModel", name := "beginsOrders", desc := "()V" } : Jvm.MethodName) prog_14_method_16_code (2 : Nat) (Option.none : Option Jvm.ClassFile.FieldType)) ∈ lw_good := lw_g7 0 rfl rfl
theorem tw_1441 : (Jvm.Cond.methodLink "OrderlyNetsModel" (110 : Nat) ({ cls := "OrderlyNetsModel", name := "codeNow", desc := "()I" } : Jvm.MethodName)) ∈ lw_good := lw_g7 1 rfl rfl
theorem tw_1443 : (Jvm.Cond.instanceMethod ({ cls := "OrderlyNetsModel", name := "codeNow", desc := "()I" } : Jvm.MethodName)) ∈ lw_good := lw_g7 3 rfl rfl
theorem tw_1444 : (Jvm.Cond.code ({ cls := "OrderlyNetsModel", name := "codeNow", desc := "()I" } : Jvm.MethodName) prog_14_method_15_code (4 : Nat) (Option.some Jvm.ClassFile.FieldType.int)) ∈ lw_good := lw_g7 4 rfl rfl
theorem tw_1445 : (Jvm.Cond.methodLink "OrderlyNetsModel" (185 : Nat) ({ cls := "OrderlyNetsModel", name := "shorten", desc := "(IIZ)I" } : Jvm.MethodName)) ∈ lw_good := lw_g7 5 rfl rfl
theorem tw_1446 : (Jvm.Cond.static ({ cls := "OrderlyNetsModel", name := "shorten", desc := "(IIZ)I" } : Jvm.MethodName)) ∈ lw_good := lw_g7 6 rfl rfl
theorem tw_1447 : (Jvm.Cond.code ({ cls := "OrderlyNetsModel", name := "shorten", desc := "(IIZ)I" } : Jvm.MethodName) prog_14_method_36_code (7 : Nat) (Option.some Jvm.ClassFile.FieldType.int)) ∈ lw_good := lw_g7 7 rfl rfl
theorem tw_1448 : (Jvm.Cond.methodLink "OrderlyNetsModel" (120 : Nat) ({ cls := "OrderlyNetsModel", name := "nextOrder", desc := "()Z" } : Jvm.MethodName)) ∈ lw_good := lw_g7 8 rfl rfl
theorem tw_1450 : (Jvm.Cond.instanceMethod ({ cls := "OrderlyNetsModel", name := "nextOrder", desc := "()Z" } : Jvm.MethodName)) ∈ lw_good := lw_g7 10 rfl rfl
theorem tw_1451 : (Jvm.Cond.code ({ cls := "OrderlyNetsModel", name := "nextOrder", desc := "()Z" } : Jvm.MethodName) prog_14_method_17_code (5 : Nat) (Option.some Jvm.ClassFile.FieldType.boolean)) ∈ lw_good := lw_g7 11 rfl rfl
theorem tw_1452 : (Jvm.Cond.methodLink "OrderlyNetsModel" (98 : Nat) ({ cls := "OrderlyNetsModel", name := "swaps", desc := "(II)V" } : Jvm.MethodName)) ∈ lw_good := lw_g7 12 rfl rfl
theorem tw_1454 : (Jvm.Cond.instanceMethod ({ cls := "OrderlyNetsModel", name := "swaps", desc := "(II)V" } : Jvm.MethodName)) ∈ lw_good := lw_g7 14 rfl rfl
theorem tw_1455 : (Jvm.Cond.code ({ cls := "OrderlyNetsModel", name := "swaps", desc := "(II)V" } : Jvm.MethodName) prog_14_method_18_code (4 : Nat) (Option.none : Option Jvm.ClassFile.FieldType)) ∈ lw_good := lw_g7 15 rfl rfl
theorem tw_1456 : (Jvm.Cond.methodLink "OrderlyNetsModel" (200 : Nat) ({ cls := "OrderlyNetsModel", name := "keepsRules", desc := "()Z" } : Jvm.MethodName)) ∈ lw_good := lw_g7 16 rfl rfl
theorem tw_1458 : (Jvm.Cond.instanceMethod ({ cls := "OrderlyNetsModel", name := "keepsRules", desc := "()Z" } : Jvm.MethodName)) ∈ lw_good := lw_g7 18 rfl rfl
theorem tw_1459 : (Jvm.Cond.code ({ cls := "OrderlyNetsModel", name := "keepsRules", desc := "()Z" } : Jvm.MethodName) prog_14_method_30_code (3 : Nat) (Option.some Jvm.ClassFile.FieldType.boolean)) ∈ lw_good := lw_g7 19 rfl rfl
theorem tw_1460 : (Jvm.Cond.methodLink "OrderlyNetsModel" (158 : Nat) ({ cls := "OrderlyNetsModel", name := "degree", desc := "(Z)I" } : Jvm.MethodName)) ∈ lw_good := lw_g7 20 rfl rfl
theorem tw_1462 : (Jvm.Cond.instanceMethod ({ cls := "OrderlyNetsModel", name := "degree", desc := "(Z)I" } : Jvm.MethodName)) ∈ lw_good := lw_g7 22 rfl rfl
theorem tw_1463 : (Jvm.Cond.code ({ cls := "OrderlyNetsModel", name := "degree", desc := "(Z)I" } : Jvm.MethodName) prog_14_method_23_code (4 : Nat) (Option.some Jvm.ClassFile.FieldType.int)) ∈ lw_good := lw_g7 23 rfl rfl
theorem tw_1464 : (Jvm.Cond.methodLink "OrderlyNetsModel" (127 : Nat) ({ cls := "OrderlyNetsModel", name := "bits", desc := "(I)I" } : Jvm.MethodName)) ∈ lw_good := lw_g7 24 rfl rfl
theorem tw_1465 : (Jvm.Cond.static ({ cls := "OrderlyNetsModel", name := "bits", desc := "(I)I" } : Jvm.MethodName)) ∈ lw_good := lw_g7 25 rfl rfl
theorem tw_1466 : (Jvm.Cond.code ({ cls := "OrderlyNetsModel", name := "bits", desc := "(I)I" } : Jvm.MethodName) prog_14_method_5_code (3 : Nat) (Option.some Jvm.ClassFile.FieldType.int)) ∈ lw_good := lw_g7 26 rfl rfl
theorem tw_1467 : (Jvm.Cond.methodLink "OrderlyNetsModel" (130 : Nat) ({ cls := "java/lang/Math", name := "max", desc := "(II)I" } : Jvm.MethodName)) ∈ lw_good := lw_g7 27 rfl rfl
theorem tw_1468 : (Jvm.Cond.methodLink "OrderlyNetsModel" (136 : Nat) ({ cls := "java/lang/Math", name := "min", desc := "(II)I" } : Jvm.MethodName)) ∈ lw_good := lw_g7 28 rfl rfl
theorem tw_1469 : (Jvm.Cond.methodLink "OrderlyNetsModel" (143 : Nat) ({ cls := "OrderlyNetsModel", name := "hasCircle", desc := "(I)Z" } : Jvm.MethodName)) ∈ lw_good := lw_g7 29 rfl rfl
theorem tw_1471 : (Jvm.Cond.instanceMethod ({ cls := "OrderlyNetsModel", name := "hasCircle", desc := "(I)Z" } : Jvm.MethodName)) ∈ lw_good := lw_g7 31 rfl rfl
theorem tw_1472 : (Jvm.Cond.code ({ cls := "OrderlyNetsModel", name := "hasCircle", desc := "(I)Z" } : Jvm.MethodName) prog_14_method_25_code (4 : Nat) (Option.some Jvm.ClassFile.FieldType.boolean)) ∈ lw_good := lw_g7 32 rfl rfl
theorem tw_1473 : (Jvm.Cond.methodLink "OrderlyNetsModel" (139 : Nat) ({ cls := "OrderlyNetsModel", name := "comesBack", desc := "(IIII)Z" } : Jvm.MethodName)) ∈ lw_good := lw_g7 33 rfl rfl
theorem tw_1475 : (Jvm.Cond.instanceMethod ({ cls := "OrderlyNetsModel", name := "comesBack", desc := "(IIII)Z" } : Jvm.MethodName)) ∈ lw_good := lw_g7 35 rfl rfl
theorem tw_1476 : (Jvm.Cond.code ({ cls := "OrderlyNetsModel", name := "comesBack", desc := "(IIII)Z" } : Jvm.MethodName) prog_14_method_24_code (7 : Nat) (Option.some Jvm.ClassFile.FieldType.boolean)) ∈ lw_good := lw_g7 36 rfl rfl
theorem tw_1477 : (Jvm.Cond.methodLink "OrderlyNetsModel" (162 : Nat) ({ cls := "OrderlyNetsModel", name := "areUnlike", desc := "()Z" } : Jvm.MethodName)) ∈ lw_good := lw_g7 37 rfl rfl
theorem tw_1479 : (Jvm.Cond.instanceMethod ({ cls := "OrderlyNetsModel", name := "areUnlike", desc := "()Z" } : Jvm.MethodName)) ∈ lw_good := lw_g7 39 rfl rfl
theorem tw_1480 : (Jvm.Cond.code ({ cls := "OrderlyNetsModel", name := "areUnlike", desc := "()Z" } : Jvm.MethodName) prog_14_method_29_code (4 : Nat) (Option.some Jvm.ClassFile.FieldType.boolean)) ∈ lw_good := lw_g7 40 rfl rfl
theorem tw_1481 : (Jvm.Cond.methodLink "OrderlyNetsModel" (151 : Nat) ({ cls := "OrderlyNetsModel", name := "hasBarred", desc := "([IIIII)Z" } : Jvm.MethodName)) ∈ lw_good := lw_g7 41 rfl rfl
theorem tw_1483 : (Jvm.Cond.instanceMethod ({ cls := "OrderlyNetsModel", name := "hasBarred", desc := "([IIIII)Z" } : Jvm.MethodName)) ∈ lw_good := lw_g7 43 rfl rfl
theorem tw_1484 : (Jvm.Cond.code ({ cls := "OrderlyNetsModel", name := "hasBarred", desc := "([IIIII)Z" } : Jvm.MethodName) prog_14_method_28_code (9 : Nat) (Option.some Jvm.ClassFile.FieldType.boolean)) ∈ lw_good := lw_g7 44 rfl rfl
theorem tw_1485 : (Jvm.Cond.methodLink "OrderlyNetsModel" (147 : Nat) ({ cls := "OrderlyNetsModel", name := "isBarredBy", desc := "([IIII)Z" } : Jvm.MethodName)) ∈ lw_good := lw_g7 45 rfl rfl
theorem tw_1487 : (Jvm.Cond.instanceMethod ({ cls := "OrderlyNetsModel", name := "isBarredBy", desc := "([IIII)Z" } : Jvm.MethodName)) ∈ lw_good := lw_g7 47 rfl rfl
theorem tw_1488 : (Jvm.Cond.code ({ cls := "OrderlyNetsModel", name := "isBarredBy", desc := "([IIII)Z" } : Jvm.MethodName) prog_14_method_27_code (9 : Nat) (Option.some Jvm.ClassFile.FieldType.boolean)) ∈ lw_good := lw_g7 48 rfl rfl
theorem tw_1489 : (Jvm.Cond.fieldLink "OrderlyNetsModel" (3 : Nat) "OrderlyNetsModel" "thrown" "I") ∈ lw_good := lw_g7 49 rfl rfl
theorem tw_1490 : (Jvm.Cond.fieldLink "OrderlyNetsModel" (13 : Nat) "OrderlyNetsModel" "world" "[I") ∈ lw_good := lw_g7 50 rfl rfl
theorem tw_1491 : (Jvm.Cond.fieldLink "OrderlyNetsModel" (17 : Nat) "OrderlyNetsModel" "image" "[I") ∈ lw_good := lw_g7 51 rfl rfl
theorem tw_1492 : (Jvm.Cond.fieldLink "OrderlyNetsModel" (20 : Nat) "OrderlyNetsModel" "draft" "[I") ∈ lw_good := lw_g7 52 rfl rfl
theorem tw_1493 : (Jvm.Cond.fieldLink "OrderlyNetsModel" (76 : Nat) "OrderlyNetsModel" "hasImage" "Z") ∈ lw_good := lw_g7 53 rfl rfl
theorem tw_1494 : (Jvm.Cond.fieldLink "OrderlyNetsModel" (23 : Nat) "OrderlyNetsModel" "by" "[I") ∈ lw_good := lw_g7 54 rfl rfl
theorem tw_1495 : (Jvm.Cond.fieldLink "OrderlyNetsModel" (80 : Nat) "OrderlyNetsModel" "nodes" "I") ∈ lw_good := lw_g7 55 rfl rfl
theorem tw_1496 : (Jvm.Cond.fieldLink "OrderlyNetsModel" (83 : Nat) "OrderlyNetsModel" "dark" "I") ∈ lw_good := lw_g7 56 rfl rfl
theorem tw_1497 : (Jvm.Cond.fieldLink "OrderlyNetsModel" (26 : Nat) "OrderlyNetsModel" "order" "[I") ∈ lw_good := lw_g7 57 rfl rfl
theorem tw_1498 : (Jvm.Cond.fieldLink "OrderlyNetsModel" (29 : Nat) "OrderlyNetsModel" "firstOrder" "[I") ∈ lw_good := lw_g7 58 rfl rfl
theorem tw_1499 : (Jvm.Cond.fieldLink "OrderlyNetsModel" (104 : Nat) "OrderlyNetsModel" "form" "I") ∈ lw_good := lw_g7 59 rfl rfl
theorem tw_1500 : (Jvm.Cond.fieldLink "OrderlyNetsModel" (114 : Nat) "OrderlyNetsModel" "symmetries" "I") ∈ lw_good := lw_g7 60 rfl rfl
theorem tw_1501 : (Jvm.Cond.fieldLink "OrderlyNetsModel" (117 : Nat) "OrderlyNetsModel" "lasts" "I") ∈ lw_good := lw_g7 61 rfl rfl
theorem tw_1502 : (Jvm.Cond.fieldLink "OrderlyNetsModel" (32 : Nat) "OrderlyNetsModel" "forms" "[I") ∈ lw_good := lw_g7 62 rfl rfl
theorem tw_1503 : (Jvm.Cond.fieldLink "OrderlyNetsModel" (35 : Nat) "OrderlyNetsModel" "many" "[I") ∈ lw_good := lw_g7 63 rfl rfl
theorem tw_1504 : (Jvm.Cond.fieldLink "OrderlyNetsModel" (39 : Nat) "OrderlyNetsModel" "seen" "[Z") ∈ lw_good := lw_g7 64 rfl rfl
theorem tw_1505 : (Jvm.Cond.fieldLink "OrderlyNetsModel" (43 : Nat) "OrderlyNetsModel" "tape" "[B") ∈ lw_good := lw_g7 65 rfl rfl
theorem tw_1506 : (Jvm.Cond.fieldLink "OrderlyNetsModel" (220 : Nat) "OrderlyNetsModel" "taped" "I") ∈ lw_good := lw_g7 66 rfl rfl
theorem tw_1507 : (Jvm.Cond.fieldLink "OrderlyNetsModel" (226 : Nat) "OrderlyNetsModel" "point" "I") ∈ lw_good := lw_g7 67 rfl rfl
theorem tw_1508 : (Jvm.Cond.fieldLink "OrderlyNetsModel" (223 : Nat) "OrderlyNetsModel" "end" "I") ∈ lw_good := lw_g7 68 rfl rfl
theorem tw_1509 : (Jvm.Cond.fieldLink "OrderlyNetsModel" (232 : Nat) "OrderlyNetsModel" "begin" "I") ∈ lw_good := lw_g7 69 rfl rfl
theorem tw_1510 : (Jvm.Cond.fieldLink "OrderlyNetsModel" (47 : Nat) "OrderlyNetsModel" "faultAt" "I") ∈ lw_good := lw_g7 70 rfl rfl
theorem tw_1511 : (Jvm.Cond.fieldLink "OrderlyNetsModel" (50 : Nat) "OrderlyNetsModel" "five" "[I") ∈ lw_good := lw_g7 71 rfl rfl
theorem tw_1512 : (Jvm.Cond.fieldLink "OrderlyNetsModel" (254 : Nat) "OrderlyNetsModel" "pairs" "I") ∈ lw_good := lw_g7 72 rfl rfl
theorem tw_1513 : (Jvm.Cond.fieldLink "OrderlyNetsModel" (327 : Nat) "OrderlyNetsModel" "toldNodes" "I") ∈ lw_good := lw_g7 73 rfl rfl
theorem tw_1514 : (Jvm.Cond.fieldLink "OrderlyNetsModel" (330 : Nat) "OrderlyNetsModel" "toldForm" "I") ∈ lw_good := lw_g7 74 rfl rfl
theorem tw_1515 : (Jvm.Cond.fieldLink "OrderlyNetsModel" (333 : Nat) "OrderlyNetsModel" "toldSymmetries" "I") ∈ lw_good := lw_g7 75 rfl rfl
theorem tw_1516 : (Jvm.Cond.fieldLink "OrderlyNetsModel" (336 : Nat) "OrderlyNetsModel" "toldEdges" "I") ∈ lw_good := lw_g7 76 rfl rfl
theorem tw_1517 : (Jvm.Cond.fieldLink "OrderlyNetsModel" (53 : Nat) "OrderlyNetsModel" "toldOrder" "[I") ∈ lw_good := lw_g7 77 rfl rfl
theorem tw_1518 : (Jvm.Cond.fieldLink "OrderlyNetsModel" (56 : Nat) "OrderlyNetsModel" "held" "[I") ∈ lw_good := lw_g7 78 rfl rfl
theorem tw_1519 : (Jvm.Cond.fieldLink "OrderlyNetsModel" (376 : Nat) "OrderlyNetsModel" "heldDark" "I") ∈ lw_good := lw_g7 79 rfl rfl
theorem tw_1520 : (Jvm.Cond.fieldLink "OrderlyNetsModel" (59 : Nat) "OrderlyNetsModel" "decks" "[I") ∈ lw_good := lw_g7 80 rfl rfl
theorem tw_1521 : (Jvm.Cond.fieldLink "OrderlyNetsModel" (62 : Nat) "OrderlyNetsModel" "written" "[B") ∈ lw_good := lw_g7 81 rfl rfl
theorem tw_1522 : (Jvm.Cond.fieldLink "OrderlyNetsModel" (420 : Nat) "OrderlyNetsModel" "writtenMany" "I") ∈ lw_good := lw_g7 82 rfl rfl
theorem tw_1597 : (Jvm.Cond.methodLink "OrderlyNetsModel" (72 : Nat) ({ cls := "OrderlyNetsModel", name := "copies", desc := "([I[I)V" } : Jvm.MethodName)) ∈ lw_good := lw_g7 157 rfl rfl
theorem tw_1598 : (Jvm.Cond.static ({ cls := "OrderlyNetsModel", name := "copies", desc := "([I[I)V" } : Jvm.MethodName)) ∈ lw_good := lw_g7 158 rfl rfl
theorem tw_1599 : (Jvm.Cond.code ({ cls := "OrderlyNetsModel", name := "copies", desc := "([I[I)V" } : Jvm.MethodName) prog_14_method_8_code (3 : Nat) (Option.none : Option Jvm.ClassFile.FieldType)) ∈ lw_good := lw_g7 159 rfl rfl
theorem tw_1620 : (Jvm.Cond.methodLink "OrderlyNetsModel" (306 : Nat) ({ cls := "OrderlyNetsModel", name := "beginsReading", desc := "()V" } : Jvm.MethodName)) ∈ lw_good := lw_g7 180 rfl rfl
theorem tw_1622 : (Jvm.Cond.instanceMethod ({ cls := "OrderlyNetsModel", name := "beginsReading", desc := "()V" } : Jvm.MethodName)) ∈ lw_good := lw_g7 182 rfl rfl
theorem tw_1623 : (Jvm.Cond.code ({ cls := "OrderlyNetsModel", name := "beginsReading", desc := "()V" } : Jvm.MethodName) prog_14_method_49_code (1 : Nat) (Option.none : Option Jvm.ClassFile.FieldType)) ∈ lw_good := lw_g7 183 rfl rfl
theorem tw_1624 : (Jvm.Cond.methodLink "OrderlyNetsModel" (309 : Nat) ({ cls := "OrderlyNetsModel", name := "readKind", desc := "()Z" } : Jvm.MethodName)) ∈ lw_good := lw_g7 184 rfl rfl
theorem tw_1626 : (Jvm.Cond.instanceMethod ({ cls := "OrderlyNetsModel", name := "readKind", desc := "()Z" } : Jvm.MethodName)) ∈ lw_good := lw_g7 186 rfl rfl
theorem tw_1627 : (Jvm.Cond.code ({ cls := "OrderlyNetsModel", name := "readKind", desc := "()Z" } : Jvm.MethodName) prog_14_method_64_code (2 : Nat) (Option.some Jvm.ClassFile.FieldType.boolean)) ∈ lw_good := lw_g7 187 rfl rfl
theorem tw_1629 : (Jvm.Cond.methodLink "OrderlyNetsModel" (277 : Nat) ({ cls := "OrderlyNetsModel", name := "passesWord", desc := "(Ljava/lang/String;)Z" } : Jvm.MethodName)) ∈ lw_good := lw_g7 189 rfl rfl
theorem tw_1631 : (Jvm.Cond.instanceMethod ({ cls := "OrderlyNetsModel", name := "passesWord", desc := "(Ljava/lang/String;)Z" } : Jvm.MethodName)) ∈ lw_good := lw_g7 191 rfl rfl
theorem tw_1632 : (Jvm.Cond.code ({ cls := "OrderlyNetsModel", name := "passesWord", desc := "(Ljava/lang/String;)Z" } : Jvm.MethodName) prog_14_method_54_code (2 : Nat) (Option.some Jvm.ClassFile.FieldType.boolean)) ∈ lw_good := lw_g7 192 rfl rfl
theorem tw_1633 : (Jvm.Cond.methodLink "OrderlyNetsModel" (247 : Nat) ({ cls := "OrderlyNetsModel", name := "letters", desc := "()V" } : Jvm.MethodName)) ∈ lw_good := lw_g7 193 rfl rfl
theorem tw_1635 : (Jvm.Cond.instanceMethod ({ cls := "OrderlyNetsModel", name := "letters", desc := "()V" } : Jvm.MethodName)) ∈ lw_good := lw_g7 195 rfl rfl
theorem tw_1636 : (Jvm.Cond.code ({ cls := "OrderlyNetsModel", name := "letters", desc := "()V" } : Jvm.MethodName) prog_14_method_52_code (1 : Nat) (Option.none : Option Jvm.ClassFile.FieldType)) ∈ lw_good := lw_g7 196 rfl rfl
theorem tw_1637 : (Jvm.Cond.methodLink "OrderlyNetsModel" (235 : Nat) ({ cls := "OrderlyNetsModel", name := "blanks", desc := "()V" } : Jvm.MethodName)) ∈ lw_good := lw_g7 197 rfl rfl
theorem tw_1639 : (Jvm.Cond.instanceMethod ({ cls := "OrderlyNetsModel", name := "blanks", desc := "()V" } : Jvm.MethodName)) ∈ lw_good := lw_g7 199 rfl rfl
theorem tw_1640 : (Jvm.Cond.code ({ cls := "OrderlyNetsModel", name := "blanks", desc := "()V" } : Jvm.MethodName) prog_14_method_51_code (1 : Nat) (Option.none : Option Jvm.ClassFile.FieldType)) ∈ lw_good := lw_g7 200 rfl rfl
theorem tw_1641 : (Jvm.Cond.methodLink "OrderlyNetsModel" (229 : Nat) ({ cls := "OrderlyNetsModel", name := "isAt", desc := "(II)Z" } : Jvm.MethodName)) ∈ lw_good := lw_g7 201 rfl rfl
theorem tw_1643 : (Jvm.Cond.instanceMethod ({ cls := "OrderlyNetsModel", name := "isAt", desc := "(II)Z" } : Jvm.MethodName)) ∈ lw_good := lw_g7 203 rfl rfl
theorem tw_1644 : (Jvm.Cond.code ({ cls := "OrderlyNetsModel", name := "isAt", desc := "(II)Z" } : Jvm.MethodName) prog_14_method_50_code (3 : Nat) (Option.some Jvm.ClassFile.FieldType.boolean)) ∈ lw_good := lw_g7 204 rfl rfl
theorem tw_1645 : (Jvm.Cond.methodLink "OrderlyNetsModel" (250 : Nat) ({ cls := "OrderlyNetsModel", name := "isWord", desc := "(Ljava/lang/String;)Z" } : Jvm.MethodName)) ∈ lw_good := lw_g7 205 rfl rfl
theorem tw_1647 : (Jvm.Cond.instanceMethod ({ cls := "OrderlyNetsModel", name := "isWord", desc := "(Ljava/lang/String;)Z" } : Jvm.MethodName)) ∈ lw_good := lw_g7 207 rfl rfl
theorem tw_1648 : (Jvm.Cond.code ({ cls := "OrderlyNetsModel", name := "isWord", desc := "(Ljava/lang/String;)Z" } : Jvm.MethodName) prog_14_method_53_code (4 : Nat) (Option.some Jvm.ClassFile.FieldType.boolean)) ∈ lw_good := lw_g7 208 rfl rfl
theorem tw_1649 : (Jvm.Cond.methodLink "OrderlyNetsModel" (238 : Nat) ({ cls := "java/lang/String", name := "length", desc := "()I" } : Jvm.MethodName)) ∈ lw_good := lw_g7 209 rfl rfl
theorem tw_1650 : (Jvm.Cond.methodLink "OrderlyNetsModel" (243 : Nat) ({ cls := "java/lang/String", name := "charAt", desc := "(I)C" } : Jvm.MethodName)) ∈ lw_good := lw_g7 210 rfl rfl
theorem tw_1651 : (Jvm.Cond.methodLink "OrderlyNetsModel" (270 : Nat) ({ cls := "OrderlyNetsModel", name := "readTo", desc := "(III)Z" } : Jvm.MethodName)) ∈ lw_good := lw_g7 211 rfl rfl
theorem tw_1653 : (Jvm.Cond.instanceMethod ({ cls := "OrderlyNetsModel", name := "readTo", desc := "(III)Z" } : Jvm.MethodName)) ∈ lw_good := lw_g7 213 rfl rfl
theorem tw_1654 : (Jvm.Cond.code ({ cls := "OrderlyNetsModel", name := "readTo", desc := "(III)Z" } : Jvm.MethodName) prog_14_method_59_code (5 : Nat) (Option.some Jvm.ClassFile.FieldType.boolean)) ∈ lw_good := lw_g7 214 rfl rfl
theorem tw_1655 : (Jvm.Cond.methodLink "OrderlyNetsModel" (260 : Nat) ({ cls := "OrderlyNetsModel", name := "number", desc := "(II)I" } : Jvm.MethodName)) ∈ lw_good := lw_g7 215 rfl rfl
theorem tw_1657 : (Jvm.Cond.instanceMethod ({ cls := "OrderlyNetsModel", name := "number", desc := "(II)I" } : Jvm.MethodName)) ∈ lw_good := lw_g7 217 rfl rfl
theorem tw_1658 : (Jvm.Cond.code ({ cls := "OrderlyNetsModel", name := "number", desc := "(II)I" } : Jvm.MethodName) prog_14_method_56_code (4 : Nat) (Option.some Jvm.ClassFile.FieldType.int)) ∈ lw_good := lw_g7 218 rfl rfl
theorem tw_1660 : (Jvm.Cond.methodLink "OrderlyNetsModel" (257 : Nat) ({ cls := "OrderlyNetsModel", name := "passesSign", desc := "(I)Z" } : Jvm.MethodName)) ∈ lw_good := lw_g7 220 rfl rfl
theorem tw_1662 : (Jvm.Cond.instanceMethod ({ cls := "OrderlyNetsModel", name := "passesSign", desc := "(I)Z" } : Jvm.MethodName)) ∈ lw_good := lw_g7 222 rfl rfl
theorem tw_1663 : (Jvm.Cond.code ({ cls := "OrderlyNetsModel", name := "passesSign", desc := "(I)Z" } : Jvm.MethodName) prog_14_method_55_code (2 : Nat) (Option.some Jvm.ClassFile.FieldType.boolean)) ∈ lw_good := lw_g7 223 rfl rfl
theorem tw_1664 : (Jvm.Cond.methodLink "OrderlyNetsModel" (303 : Nat) ({ cls := "OrderlyNetsModel", name := "readLine", desc := "()Z" } : Jvm.MethodName)) ∈ lw_good := lw_g7 224 rfl rfl
theorem tw_1666 : (Jvm.Cond.instanceMethod ({ cls := "OrderlyNetsModel", name := "readLine", desc := "()Z" } : Jvm.MethodName)) ∈ lw_good := lw_g7 226 rfl rfl
theorem tw_1667 : (Jvm.Cond.code ({ cls := "OrderlyNetsModel", name := "readLine", desc := "()Z" } : Jvm.MethodName) prog_14_method_63_code (2 : Nat) (Option.some Jvm.ClassFile.FieldType.boolean)) ∈ lw_good := lw_g7 227 rfl rfl
theorem tw_1669 : (Jvm.Cond.methodLink "OrderlyNetsModel" (284 : Nat) ({ cls := "OrderlyNetsModel", name := "readEnd", desc := "()Z" } : Jvm.MethodName)) ∈ lw_good := lw_g7 229 rfl rfl
theorem tw_1671 : (Jvm.Cond.instanceMethod ({ cls := "OrderlyNetsModel", name := "readEnd", desc := "()Z" } : Jvm.MethodName)) ∈ lw_good := lw_g7 231 rfl rfl
theorem tw_1672 : (Jvm.Cond.code ({ cls := "OrderlyNetsModel", name := "readEnd", desc := "()Z" } : Jvm.MethodName) prog_14_method_61_code (1 : Nat) (Option.some Jvm.ClassFile.FieldType.boolean)) ∈ lw_good := lw_g7 232 rfl rfl
theorem tw_1674 : (Jvm.Cond.methodLink "OrderlyNetsModel" (265 : Nat) ({ cls := "OrderlyNetsModel", name := "readOnce", desc := "(I)Z" } : Jvm.MethodName)) ∈ lw_good := lw_g7 234 rfl rfl
theorem tw_1676 : (Jvm.Cond.instanceMethod ({ cls := "OrderlyNetsModel", name := "readOnce", desc := "(I)Z" } : Jvm.MethodName)) ∈ lw_good := lw_g7 236 rfl rfl
theorem tw_1677 : (Jvm.Cond.code ({ cls := "OrderlyNetsModel", name := "readOnce", desc := "(I)Z" } : Jvm.MethodName) prog_14_method_60_code (2 : Nat) (Option.some Jvm.ClassFile.FieldType.boolean)) ∈ lw_good := lw_g7 237 rfl rfl
theorem tw_1686 : (Jvm.Cond.methodLink "OrderlyNetsModel" (296 : Nat) ({ cls := "OrderlyNetsModel", name := "readWithout", desc := "()Z" } : Jvm.MethodName)) ∈ lw_good := lw_g8 6 rfl rfl
theorem tw_1688 : (Jvm.Cond.instanceMethod ({ cls := "OrderlyNetsModel", name := "readWithout", desc := "()Z" } : Jvm.MethodName)) ∈ lw_good := lw_g8 8 rfl rfl
theorem tw_1689 : (Jvm.Cond.code ({ cls := "OrderlyNetsModel", name := "readWithout", desc := "()Z" } : Jvm.MethodName) prog_14_method_62_code (2 : Nat) (Option.some Jvm.ClassFile.FieldType.boolean)) ∈ lw_good := lw_g8 9 rfl rfl
theorem tw_1690 : (Jvm.Cond.methodLink "OrderlyNetsModel" (280 : Nat) ({ cls := "OrderlyNetsModel", name := "readPairs", desc := "(I)Z" } : Jvm.MethodName)) ∈ lw_good := lw_g8 10 rfl rfl
theorem tw_1692 : (Jvm.Cond.instanceMethod ({ cls := "OrderlyNetsModel", name := "readPairs", desc := "(I)Z" } : Jvm.MethodName)) ∈ lw_good := lw_g8 12 rfl rfl
theorem tw_1693 : (Jvm.Cond.code ({ cls := "OrderlyNetsModel", name := "readPairs", desc := "(I)Z" } : Jvm.MethodName) prog_14_method_58_code (5 : Nat) (Option.some Jvm.ClassFile.FieldType.boolean)) ∈ lw_good := lw_g8 13 rfl rfl
theorem tw_1695 : (Jvm.Cond.methodLink "OrderlyNetsModel" (312 : Nat) ({ cls := "OrderlyNetsModel", name := "throwsIf", desc := "(ZI)Z" } : Jvm.MethodName)) ∈ lw_good := lw_g8 15 rfl rfl
theorem tw_1697 : (Jvm.Cond.instanceMethod ({ cls := "OrderlyNetsModel", name := "throwsIf", desc := "(ZI)Z" } : Jvm.MethodName)) ∈ lw_good := lw_g8 17 rfl rfl
theorem tw_1698 : (Jvm.Cond.code ({ cls := "OrderlyNetsModel", name := "throwsIf", desc := "(ZI)Z" } : Jvm.MethodName) prog_14_method_2_code (3 : Nat) (Option.some Jvm.ClassFile.FieldType.boolean)) ∈ lw_good := lw_g8 18 rfl rfl
theorem tw_1703 : (Jvm.Cond.methodLink "OrderlyNetsModel" (324 : Nat) ({ cls := "OrderlyNetsModel", name := "readNet", desc := "()Z" } : Jvm.MethodName)) ∈ lw_good := lw_g8 23 rfl rfl
theorem tw_1705 : (Jvm.Cond.instanceMethod ({ cls := "OrderlyNetsModel", name := "readNet", desc := "()Z" } : Jvm.MethodName)) ∈ lw_good := lw_g8 25 rfl rfl
theorem tw_1706 : (Jvm.Cond.code ({ cls := "OrderlyNetsModel", name := "readNet", desc := "()Z" } : Jvm.MethodName) prog_14_method_67_code (4 : Nat) (Option.some Jvm.ClassFile.FieldType.boolean)) ∈ lw_good := lw_g8 26 rfl rfl
theorem tw_1708 : (Jvm.Cond.methodLink "OrderlyNetsModel" (321 : Nat) ({ cls := "OrderlyNetsModel", name := "readDarks", desc := "(I)Z" } : Jvm.MethodName)) ∈ lw_good := lw_g8 28 rfl rfl
theorem tw_1710 : (Jvm.Cond.instanceMethod ({ cls := "OrderlyNetsModel", name := "readDarks", desc := "(I)Z" } : Jvm.MethodName)) ∈ lw_good := lw_g8 30 rfl rfl
theorem tw_1711 : (Jvm.Cond.code ({ cls := "OrderlyNetsModel", name := "readDarks", desc := "(I)Z" } : Jvm.MethodName) prog_14_method_66_code (3 : Nat) (Option.some Jvm.ClassFile.FieldType.boolean)) ∈ lw_good := lw_g8 31 rfl rfl
theorem tw_1712 : (Jvm.Cond.methodLink "OrderlyNetsModel" (316 : Nat) ({ cls := "OrderlyNetsModel", name := "isFigure", desc := "()Z" } : Jvm.MethodName)) ∈ lw_good := lw_g8 32 rfl rfl
theorem tw_1714 : (Jvm.Cond.instanceMethod ({ cls := "OrderlyNetsModel", name := "isFigure", desc := "()Z" } : Jvm.MethodName)) ∈ lw_good := lw_g8 34 rfl rfl
theorem tw_1715 : (Jvm.Cond.code ({ cls := "OrderlyNetsModel", name := "isFigure", desc := "()Z" } : Jvm.MethodName) prog_14_method_57_code (1 : Nat) (Option.some Jvm.ClassFile.FieldType.boolean)) ∈ lw_good := lw_g8 35 rfl rfl
theorem tw_1716 : (Jvm.Cond.methodLink "OrderlyNetsModel" (124 : Nat) ({ cls := "OrderlyNetsModel", name := "laysForm", desc := "()V" } : Jvm.MethodName)) ∈ lw_good := lw_g8 36 rfl rfl
theorem tw_1718 : (Jvm.Cond.instanceMethod ({ cls := "OrderlyNetsModel", name := "laysForm", desc := "()V" } : Jvm.MethodName)) ∈ lw_good := lw_g8 38 rfl rfl
theorem tw_1719 : (Jvm.Cond.code ({ cls := "OrderlyNetsModel", name := "laysForm", desc := "()V" } : Jvm.MethodName) prog_14_method_19_code (3 : Nat) (Option.none : Option Jvm.ClassFile.FieldType)) ∈ lw_good := lw_g8 39 rfl rfl
theorem tw_1720 : (Jvm.Cond.constant "OrderlyNetsModel" (103 : Nat) (2147483647 : Int32)) ∈ lw_good := lw_g8 40 rfl rfl
theorem tw_1721 : (Jvm.Cond.methodLink "OrderlyNetsModel" (171 : Nat) ({ cls := "OrderlyNetsModel", name := "edgesNow", desc := "()I" } : Jvm.MethodName)) ∈ lw_good := lw_g8 41 rfl rfl
theorem tw_1723 : (Jvm.Cond.instanceMethod ({ cls := "OrderlyNetsModel", name := "edgesNow", desc := "()I" } : Jvm.MethodName)) ∈ lw_good := lw_g8 43 rfl rfl
theorem tw_1724 : (Jvm.Cond.code ({ cls := "OrderlyNetsModel", name := "edgesNow", desc := "()I" } : Jvm.MethodName) prog_14_method_22_code (3 : Nat) (Option.some Jvm.ClassFile.FieldType.int)) ∈ lw_good := lw_g8 44 rfl rfl
theorem tw_1725 : (Jvm.Cond.methodLink "OrderlyNetsModel" (213 : Nat) ({ cls := "OrderlyNetsModel", name := "numberOf", desc := "(II)I" } : Jvm.MethodName)) ∈ lw_good := lw_g8 45 rfl rfl
theorem tw_1727 : (Jvm.Cond.instanceMethod ({ cls := "OrderlyNetsModel", name := "numberOf", desc := "(II)I" } : Jvm.MethodName)) ∈ lw_good := lw_g8 47 rfl rfl
theorem tw_1728 : (Jvm.Cond.code ({ cls := "OrderlyNetsModel", name := "numberOf", desc := "(II)I" } : Jvm.MethodName) prog_14_method_41_code (4 : Nat) (Option.some Jvm.ClassFile.FieldType.int)) ∈ lw_good := lw_g8 48 rfl rfl
theorem tw_1733 : (Jvm.Cond.methodLink "OrderlyNetsModel" (174 : Nat) ({ cls := "OrderlyNetsModel", name := "in", desc := "(III)Z" } : Jvm.MethodName)) ∈ lw_good := lw_g8 53 rfl rfl
theorem tw_1734 : (Jvm.Cond.static ({ cls := "OrderlyNetsModel", name := "in", desc := "(III)Z" } : Jvm.MethodName)) ∈ lw_good := lw_g8 54 rfl rfl
theorem tw_1735 : (Jvm.Cond.code ({ cls := "OrderlyNetsModel", name := "in", desc := "(III)Z" } : Jvm.MethodName) prog_14_method_3_code (3 : Nat) (Option.some Jvm.ClassFile.FieldType.boolean)) ∈ lw_good := lw_g8 55 rfl rfl
theorem tw_1744 : (Jvm.Cond.methodLink "OrderlyNetsModel" (339 : Nat) ({ cls := "OrderlyNetsModel", name := "noLevel", desc := "(I)Z" } : Jvm.MethodName)) ∈ lw_good := lw_g8 64 rfl rfl
theorem tw_1746 : (Jvm.Cond.instanceMethod ({ cls := "OrderlyNetsModel", name := "noLevel", desc := "(I)Z" } : Jvm.MethodName)) ∈ lw_good := lw_g8 66 rfl rfl
theorem tw_1747 : (Jvm.Cond.code ({ cls := "OrderlyNetsModel", name := "noLevel", desc := "(I)Z" } : Jvm.MethodName) prog_14_method_71_code (2 : Nat) (Option.some Jvm.ClassFile.FieldType.boolean)) ∈ lw_good := lw_g8 67 rfl rfl
theorem tw_1752 : (Jvm.Cond.methodLink "OrderlyNetsModel" (342 : Nat) ({ cls := "OrderlyNetsModel", name := "noNet", desc := "(II)Z" } : Jvm.MethodName)) ∈ lw_good := lw_g8 72 rfl rfl
theorem tw_1754 : (Jvm.Cond.instanceMethod ({ cls := "OrderlyNetsModel", name := "noNet", desc := "(II)Z" } : Jvm.MethodName)) ∈ lw_good := lw_g8 74 rfl rfl
theorem tw_1755 : (Jvm.Cond.code ({ cls := "OrderlyNetsModel", name := "noNet", desc := "(II)Z" } : Jvm.MethodName) prog_14_method_72_code (3 : Nat) (Option.some Jvm.ClassFile.FieldType.boolean)) ∈ lw_good := lw_g8 75 rfl rfl
theorem tw_1756 : (Jvm.Cond.methodLink "OrderlyNetsModel" (351 : Nat) ({ cls := "OrderlyNetsModel", name := "orbits", desc := "(II)I" } : Jvm.MethodName)) ∈ lw_good := lw_g8 76 rfl rfl
theorem tw_1758 : (Jvm.Cond.instanceMethod ({ cls := "OrderlyNetsModel", name := "orbits", desc := "(II)I" } : Jvm.MethodName)) ∈ lw_good := lw_g8 78 rfl rfl
theorem tw_1759 : (Jvm.Cond.code ({ cls := "OrderlyNetsModel", name := "orbits", desc := "(II)I" } : Jvm.MethodName) prog_14_method_75_code (5 : Nat) (Option.some Jvm.ClassFile.FieldType.int)) ∈ lw_good := lw_g8 79 rfl rfl
theorem tw_1760 : (Jvm.Cond.methodLink "OrderlyNetsModel" (203 : Nat) ({ cls := "OrderlyNetsModel", name := "takes", desc := "(II)V" } : Jvm.MethodName)) ∈ lw_good := lw_g8 80 rfl rfl
theorem tw_1762 : (Jvm.Cond.instanceMethod ({ cls := "OrderlyNetsModel", name := "takes", desc := "(II)V" } : Jvm.MethodName)) ∈ lw_good := lw_g8 82 rfl rfl
theorem tw_1763 : (Jvm.Cond.code ({ cls := "OrderlyNetsModel", name := "takes", desc := "(II)V" } : Jvm.MethodName) prog_14_method_42_code (3 : Nat) (Option.none : Option Jvm.ClassFile.FieldType)) ∈ lw_good := lw_g8 83 rfl rfl
theorem tw_1764 : (Jvm.Cond.methodLink "OrderlyNetsModel" (345 : Nat) ({ cls := "OrderlyNetsModel", name := "likesOf", desc := "(I)I" } : Jvm.MethodName)) ∈ lw_good := lw_g8 84 rfl rfl
theorem tw_1766 : (Jvm.Cond.instanceMethod ({ cls := "OrderlyNetsModel", name := "likesOf", desc := "(I)I" } : Jvm.MethodName)) ∈ lw_good := lw_g8 86 rfl rfl
theorem tw_1767 : (Jvm.Cond.code ({ cls := "OrderlyNetsModel", name := "likesOf", desc := "(I)I" } : Jvm.MethodName) prog_14_method_21_code (4 : Nat) (Option.some Jvm.ClassFile.FieldType.int)) ∈ lw_good := lw_g8 87 rfl rfl
theorem tw_1768 : (Jvm.Cond.methodLink "OrderlyNetsModel" (348 : Nat) ({ cls := "OrderlyNetsModel", name := "parentOf", desc := "(II)I" } : Jvm.MethodName)) ∈ lw_good := lw_g8 88 rfl rfl
theorem tw_1770 : (Jvm.Cond.instanceMethod ({ cls := "OrderlyNetsModel", name := "parentOf", desc := "(II)I" } : Jvm.MethodName)) ∈ lw_good := lw_g8 90 rfl rfl
theorem tw_1771 : (Jvm.Cond.code ({ cls := "OrderlyNetsModel", name := "parentOf", desc := "(II)I" } : Jvm.MethodName) prog_14_method_45_code (3 : Nat) (Option.some Jvm.ClassFile.FieldType.int)) ∈ lw_good := lw_g8 91 rfl rfl
theorem tw_1772 : (Jvm.Cond.methodLink "OrderlyNetsModel" (216 : Nat) ({ cls := "OrderlyNetsModel", name := "without", desc := "(III)I" } : Jvm.MethodName)) ∈ lw_good := lw_g8 92 rfl rfl
theorem tw_1774 : (Jvm.Cond.instanceMethod ({ cls := "OrderlyNetsModel", name := "without", desc := "(III)I" } : Jvm.MethodName)) ∈ lw_good := lw_g8 94 rfl rfl
theorem tw_1775 : (Jvm.Cond.code ({ cls := "OrderlyNetsModel", name := "without", desc := "(III)I" } : Jvm.MethodName) prog_14_method_44_code (4 : Nat) (Option.some Jvm.ClassFile.FieldType.int)) ∈ lw_good := lw_g8 95 rfl rfl
theorem tw_1776 : (Jvm.Cond.methodLink "OrderlyNetsModel" (206 : Nat) ({ cls := "OrderlyNetsModel", name := "drops", desc := "(I)V" } : Jvm.MethodName)) ∈ lw_good := lw_g8 96 rfl rfl
theorem tw_1778 : (Jvm.Cond.instanceMethod ({ cls := "OrderlyNetsModel", name := "drops", desc := "(I)V" } : Jvm.MethodName)) ∈ lw_good := lw_g8 98 rfl rfl
theorem tw_1779 : (Jvm.Cond.code ({ cls := "OrderlyNetsModel", name := "drops", desc := "(I)V" } : Jvm.MethodName) prog_14_method_43_code (4 : Nat) (Option.none : Option Jvm.ClassFile.FieldType)) ∈ lw_good := lw_g8 99 rfl rfl
theorem tw_1780 : (Jvm.Cond.methodLink "OrderlyNetsModel" (210 : Nat) ({ cls := "OrderlyNetsModel", name := "formNow", desc := "()I" } : Jvm.MethodName)) ∈ lw_good := lw_g8 100 rfl rfl
theorem tw_1782 : (Jvm.Cond.instanceMethod ({ cls := "OrderlyNetsModel", name := "formNow", desc := "()I" } : Jvm.MethodName)) ∈ lw_good := lw_g8 102 rfl rfl
theorem tw_1783 : (Jvm.Cond.code ({ cls := "OrderlyNetsModel", name := "formNow", desc := "()I" } : Jvm.MethodName) prog_14_method_20_code (1 : Nat) (Option.some Jvm.ClassFile.FieldType.int)) ∈ lw_good := lw_g8 103 rfl rfl
theorem tw_1784 : (Jvm.Cond.methodLink "OrderlyNetsModel" (354 : Nat) ({ cls := "OrderlyNetsModel", name := "children", desc := "(II)I" } : Jvm.MethodName)) ∈ lw_good := lw_g8 104 rfl rfl
theorem tw_1786 : (Jvm.Cond.instanceMethod ({ cls := "OrderlyNetsModel", name := "children", desc := "(II)I" } : Jvm.MethodName)) ∈ lw_good := lw_g8 106 rfl rfl
theorem tw_1787 : (Jvm.Cond.code ({ cls := "OrderlyNetsModel", name := "children", desc := "(II)I" } : Jvm.MethodName) prog_14_method_77_code (5 : Nat) (Option.some Jvm.ClassFile.FieldType.int)) ∈ lw_good := lw_g8 107 rfl rfl
theorem tw_1788 : (Jvm.Cond.methodLink "OrderlyNetsModel" (168 : Nat) ({ cls := "OrderlyNetsModel", name := "partsNow", desc := "()I" } : Jvm.MethodName)) ∈ lw_good := lw_g8 108 rfl rfl
theorem tw_1790 : (Jvm.Cond.instanceMethod ({ cls := "OrderlyNetsModel", name := "partsNow", desc := "()I" } : Jvm.MethodName)) ∈ lw_good := lw_g8 110 rfl rfl
theorem tw_1791 : (Jvm.Cond.code ({ cls := "OrderlyNetsModel", name := "partsNow", desc := "()I" } : Jvm.MethodName) prog_14_method_32_code (3 : Nat) (Option.some Jvm.ClassFile.FieldType.int)) ∈ lw_good := lw_g8 111 rfl rfl
theorem tw_1792 : (Jvm.Cond.methodLink "OrderlyNetsModel" (165 : Nat) ({ cls := "OrderlyNetsModel", name := "partOf", desc := "(I)I" } : Jvm.MethodName)) ∈ lw_good := lw_g8 112 rfl rfl
theorem tw_1794 : (Jvm.Cond.instanceMethod ({ cls := "OrderlyNetsModel", name := "partOf", desc := "(I)I" } : Jvm.MethodName)) ∈ lw_good := lw_g8 114 rfl rfl
theorem tw_1795 : (Jvm.Cond.code ({ cls := "OrderlyNetsModel", name := "partOf", desc := "(I)I" } : Jvm.MethodName) prog_14_method_31_code (5 : Nat) (Option.some Jvm.ClassFile.FieldType.int)) ∈ lw_good := lw_g8 115 rfl rfl
theorem tw_1796 : (Jvm.Cond.methodLink "OrderlyNetsModel" (357 : Nat) ({ cls := "OrderlyNetsModel", name := "widest", desc := "()I" } : Jvm.MethodName)) ∈ lw_good := lw_g8 116 rfl rfl
theorem tw_1798 : (Jvm.Cond.instanceMethod ({ cls := "OrderlyNetsModel", name := "widest", desc := "()I" } : Jvm.MethodName)) ∈ lw_good := lw_g8 118 rfl rfl
theorem tw_1799 : (Jvm.Cond.code ({ cls := "OrderlyNetsModel", name := "widest", desc := "()I" } : Jvm.MethodName) prog_14_method_34_code (7 : Nat) (Option.some Jvm.ClassFile.FieldType.int)) ∈ lw_good := lw_g8 119 rfl rfl
theorem tw_1800 : (Jvm.Cond.methodLink "OrderlyNetsModel" (360 : Nat) ({ cls := "OrderlyNetsModel", name := "shortestCircle", desc := "()I" } : Jvm.MethodName)) ∈ lw_good := lw_g8 120 rfl rfl
theorem tw_1802 : (Jvm.Cond.instanceMethod ({ cls := "OrderlyNetsModel", name := "shortestCircle", desc := "()I" } : Jvm.MethodName)) ∈ lw_good := lw_g8 122 rfl rfl
theorem tw_1803 : (Jvm.Cond.code ({ cls := "OrderlyNetsModel", name := "shortestCircle", desc := "()I" } : Jvm.MethodName) prog_14_method_26_code (2 : Nat) (Option.some Jvm.ClassFile.FieldType.int)) ∈ lw_good := lw_g8 123 rfl rfl
theorem tw_1804 : (Jvm.Cond.methodLink "OrderlyNetsModel" (363 : Nat) ({ cls := "OrderlyNetsModel", name := "keepsEnds", desc := "()Z" } : Jvm.MethodName)) ∈ lw_good := lw_g8 124 rfl rfl
theorem tw_1806 : (Jvm.Cond.instanceMethod ({ cls := "OrderlyNetsModel", name := "keepsEnds", desc := "()Z" } : Jvm.MethodName)) ∈ lw_good := lw_g8 126 rfl rfl
theorem tw_1807 : (Jvm.Cond.code ({ cls := "OrderlyNetsModel", name := "keepsEnds", desc := "()Z" } : Jvm.MethodName) prog_14_method_33_code (1 : Nat) (Option.some Jvm.ClassFile.FieldType.boolean)) ∈ lw_good := lw_g8 127 rfl rfl
theorem tw_1812 : (Jvm.Cond.methodLink "OrderlyNetsModel" (366 : Nat) ({ cls := "OrderlyNetsModel", name := "noNode", desc := "(III)Z" } : Jvm.MethodName)) ∈ lw_good := lw_g8 132 rfl rfl
theorem tw_1814 : (Jvm.Cond.instanceMethod ({ cls := "OrderlyNetsModel", name := "noNode", desc := "(III)Z" } : Jvm.MethodName)) ∈ lw_good := lw_g8 134 rfl rfl
theorem tw_1815 : (Jvm.Cond.code ({ cls := "OrderlyNetsModel", name := "noNode", desc := "(III)Z" } : Jvm.MethodName) prog_14_method_73_code (4 : Nat) (Option.some Jvm.ClassFile.FieldType.boolean)) ∈ lw_good := lw_g8 135 rfl rfl
theorem tw_1824 : (Jvm.Cond.methodLink "OrderlyNetsModel" (369 : Nat) ({ cls := "OrderlyNetsModel", name := "childOf", desc := "(III)I" } : Jvm.MethodName)) ∈ lw_good := lw_g8 144 rfl rfl
theorem tw_1826 : (Jvm.Cond.instanceMethod ({ cls := "OrderlyNetsModel", name := "childOf", desc := "(III)I" } : Jvm.MethodName)) ∈ lw_good := lw_g8 146 rfl rfl
theorem tw_1827 : (Jvm.Cond.code ({ cls := "OrderlyNetsModel", name := "childOf", desc := "(III)I" } : Jvm.MethodName) prog_14_method_76_code (6 : Nat) (Option.some Jvm.ClassFile.FieldType.int)) ∈ lw_good := lw_g8 147 rfl rfl
theorem tw_1832 : (Jvm.Cond.methodLink "OrderlyNetsModel" (372 : Nat) ({ cls := "OrderlyNetsModel", name := "noGrown", desc := "(IIIZ)Z" } : Jvm.MethodName)) ∈ lw_good := lw_g8 152 rfl rfl
theorem tw_1834 : (Jvm.Cond.instanceMethod ({ cls := "OrderlyNetsModel", name := "noGrown", desc := "(IIIZ)Z" } : Jvm.MethodName)) ∈ lw_good := lw_g8 154 rfl rfl
theorem tw_1835 : (Jvm.Cond.code ({ cls := "OrderlyNetsModel", name := "noGrown", desc := "(IIIZ)Z" } : Jvm.MethodName) prog_14_method_82_code (6 : Nat) (Option.some Jvm.ClassFile.FieldType.boolean)) ∈ lw_good := lw_g8 155 rfl rfl
theorem tw_1864 : (Jvm.Cond.methodLink "OrderlyNetsModel" (379 : Nat) ({ cls := "OrderlyNetsModel", name := "holdsNet", desc := "()V" } : Jvm.MethodName)) ∈ lw_good := lw_g8 184 rfl rfl
theorem tw_1866 : (Jvm.Cond.instanceMethod ({ cls := "OrderlyNetsModel", name := "holdsNet", desc := "()V" } : Jvm.MethodName)) ∈ lw_good := lw_g8 186 rfl rfl
theorem tw_1867 : (Jvm.Cond.code ({ cls := "OrderlyNetsModel", name := "holdsNet", desc := "()V" } : Jvm.MethodName) prog_14_method_90_code (2 : Nat) (Option.none : Option Jvm.ClassFile.FieldType)) ∈ lw_good := lw_g8 187 rfl rfl
theorem tw_1868 : (Jvm.Cond.methodLink "OrderlyNetsModel" (382 : Nat) ({ cls := "OrderlyNetsModel", name := "partedBy", desc := "()I" } : Jvm.MethodName)) ∈ lw_good := lw_g8 188 rfl rfl
theorem tw_1870 : (Jvm.Cond.instanceMethod ({ cls := "OrderlyNetsModel", name := "partedBy", desc := "()I" } : Jvm.MethodName)) ∈ lw_good := lw_g8 190 rfl rfl
theorem tw_1871 : (Jvm.Cond.code ({ cls := "OrderlyNetsModel", name := "partedBy", desc := "()I" } : Jvm.MethodName) prog_14_method_91_code (4 : Nat) (Option.some Jvm.ClassFile.FieldType.int)) ∈ lw_good := lw_g8 191 rfl rfl
theorem tw_1876 : (Jvm.Cond.methodLink "OrderlyNetsModel" (388 : Nat) ({ cls := "OrderlyNetsModel", name := "haveCommon", desc := "(IIIII)Z" } : Jvm.MethodName)) ∈ lw_good := lw_g8 196 rfl rfl
theorem tw_1878 : (Jvm.Cond.instanceMethod ({ cls := "OrderlyNetsModel", name := "haveCommon", desc := "(IIIII)Z" } : Jvm.MethodName)) ∈ lw_good := lw_g8 198 rfl rfl
theorem tw_1879 : (Jvm.Cond.code ({ cls := "OrderlyNetsModel", name := "haveCommon", desc := "(IIIII)Z" } : Jvm.MethodName) prog_14_method_94_code (9 : Nat) (Option.some Jvm.ClassFile.FieldType.boolean)) ∈ lw_good := lw_g8 199 rfl rfl
theorem tw_1880 : (Jvm.Cond.methodLink "OrderlyNetsModel" (385 : Nat) ({ cls := "OrderlyNetsModel", name := "formOf", desc := "(III)I" } : Jvm.MethodName)) ∈ lw_good := lw_g8 200 rfl rfl
theorem tw_1882 : (Jvm.Cond.instanceMethod ({ cls := "OrderlyNetsModel", name := "formOf", desc := "(III)I" } : Jvm.MethodName)) ∈ lw_good := lw_g8 202 rfl rfl
theorem tw_1883 : (Jvm.Cond.code ({ cls := "OrderlyNetsModel", name := "formOf", desc := "(III)I" } : Jvm.MethodName) prog_14_method_93_code (5 : Nat) (Option.some Jvm.ClassFile.FieldType.int)) ∈ lw_good := lw_g8 203 rfl rfl
theorem tw_1888 : (Jvm.Cond.methodLink "OrderlyNetsModel" (392 : Nat) ({ cls := "OrderlyNetsModel", name := "isLeastEdge", desc := "(II)Z" } : Jvm.MethodName)) ∈ lw_good := lw_g8 208 rfl rfl
theorem tw_1890 : (Jvm.Cond.instanceMethod ({ cls := "OrderlyNetsModel", name := "isLeastEdge", desc := "(II)Z" } : Jvm.MethodName)) ∈ lw_good := lw_g8 210 rfl rfl
theorem tw_1891 : (Jvm.Cond.code ({ cls := "OrderlyNetsModel", name := "isLeastEdge", desc := "(II)Z" } : Jvm.MethodName) prog_14_method_96_code (6 : Nat) (Option.some Jvm.ClassFile.FieldType.boolean)) ∈ lw_good := lw_g8 211 rfl rfl
theorem tw_1896 : (Jvm.Cond.methodLink "OrderlyNetsModel" (395 : Nat) ({ cls := "OrderlyNetsModel", name := "laysDeck", desc := "(II)V" } : Jvm.MethodName)) ∈ lw_good := lw_g8 216 rfl rfl
theorem tw_1898 : (Jvm.Cond.instanceMethod ({ cls := "OrderlyNetsModel", name := "laysDeck", desc := "(II)V" } : Jvm.MethodName)) ∈ lw_good := lw_g8 218 rfl rfl
theorem tw_1899 : (Jvm.Cond.code ({ cls := "OrderlyNetsModel", name := "laysDeck", desc := "(II)V" } : Jvm.MethodName) prog_14_method_98_code (6 : Nat) (Option.none : Option Jvm.ClassFile.FieldType)) ∈ lw_good := lw_g8 219 rfl rfl
theorem tw_1916 : (Jvm.Cond.methodLink "OrderlyNetsModel" (401 : Nat) ({ cls := "OrderlyNetsModel", name := "isShare", desc := "(III)Z" } : Jvm.MethodName)) ∈ lw_good := lw_g8 236 rfl rfl
theorem tw_1918 : (Jvm.Cond.instanceMethod ({ cls := "OrderlyNetsModel", name := "isShare", desc := "(III)Z" } : Jvm.MethodName)) ∈ lw_good := lw_g8 238 rfl rfl
theorem tw_1919 : (Jvm.Cond.code ({ cls := "OrderlyNetsModel", name := "isShare", desc := "(III)Z" } : Jvm.MethodName) prog_14_method_103_code (4 : Nat) (Option.some Jvm.ClassFile.FieldType.boolean)) ∈ lw_good := lw_g8 239 rfl rfl
theorem tw_1920 : (Jvm.Cond.methodLink "OrderlyNetsModel" (404 : Nat) ({ cls := "OrderlyNetsModel", name := "shared", desc := "(IIII)I" } : Jvm.MethodName)) ∈ lw_good := lw_g9 0 rfl rfl
theorem tw_1922 : (Jvm.Cond.instanceMethod ({ cls := "OrderlyNetsModel", name := "shared", desc := "(IIII)I" } : Jvm.MethodName)) ∈ lw_good := lw_g9 2 rfl rfl
theorem tw_1923 : (Jvm.Cond.code ({ cls := "OrderlyNetsModel", name := "shared", desc := "(IIII)I" } : Jvm.MethodName) prog_14_method_105_code (7 : Nat) (Option.some Jvm.ClassFile.FieldType.int)) ∈ lw_good := lw_g9 3 rfl rfl
theorem tw_1924 : (Jvm.Cond.methodLink "OrderlyNetsModel" (398 : Nat) ({ cls := "OrderlyNetsModel", name := "isIn", desc := "(IIII)Z" } : Jvm.MethodName)) ∈ lw_good := lw_g9 4 rfl rfl
theorem tw_1926 : (Jvm.Cond.instanceMethod ({ cls := "OrderlyNetsModel", name := "isIn", desc := "(IIII)Z" } : Jvm.MethodName)) ∈ lw_good := lw_g9 6 rfl rfl
theorem tw_1927 : (Jvm.Cond.code ({ cls := "OrderlyNetsModel", name := "isIn", desc := "(IIII)Z" } : Jvm.MethodName) prog_14_method_104_code (7 : Nat) (Option.some Jvm.ClassFile.FieldType.boolean)) ∈ lw_good := lw_g9 7 rfl rfl
theorem tw_1932 : (Jvm.Cond.methodLink "OrderlyNetsModel" (408 : Nat) ({ cls := "OrderlyNetsModel", name := "walkerAt", desc := "(II)I" } : Jvm.MethodName)) ∈ lw_good := lw_g9 12 rfl rfl
theorem tw_1933 : (Jvm.Cond.static ({ cls := "OrderlyNetsModel", name := "walkerAt", desc := "(II)I" } : Jvm.MethodName)) ∈ lw_good := lw_g9 13 rfl rfl
theorem tw_1934 : (Jvm.Cond.code ({ cls := "OrderlyNetsModel", name := "walkerAt", desc := "(II)I" } : Jvm.MethodName) prog_14_method_107_code (2 : Nat) (Option.some Jvm.ClassFile.FieldType.int)) ∈ lw_good := lw_g9 14 rfl rfl
theorem tw_1935 : (Jvm.Cond.methodLink "OrderlyNetsModel" (414 : Nat) ({ cls := "OrderlyNetsModel", name := "walked", desc := "(II)I" } : Jvm.MethodName)) ∈ lw_good := lw_g9 15 rfl rfl
theorem tw_1937 : (Jvm.Cond.instanceMethod ({ cls := "OrderlyNetsModel", name := "walked", desc := "(II)I" } : Jvm.MethodName)) ∈ lw_good := lw_g9 17 rfl rfl
theorem tw_1938 : (Jvm.Cond.code ({ cls := "OrderlyNetsModel", name := "walked", desc := "(II)I" } : Jvm.MethodName) prog_14_method_109_code (3 : Nat) (Option.some Jvm.ClassFile.FieldType.int)) ∈ lw_good := lw_g9 18 rfl rfl
theorem tw_1939 : (Jvm.Cond.methodLink "OrderlyNetsModel" (411 : Nat) ({ cls := "OrderlyNetsModel", name := "ofWalker", desc := "(II)I" } : Jvm.MethodName)) ∈ lw_good := lw_g9 19 rfl rfl
theorem tw_1941 : (Jvm.Cond.instanceMethod ({ cls := "OrderlyNetsModel", name := "ofWalker", desc := "(II)I" } : Jvm.MethodName)) ∈ lw_good := lw_g9 21 rfl rfl
theorem tw_1942 : (Jvm.Cond.code ({ cls := "OrderlyNetsModel", name := "ofWalker", desc := "(II)I" } : Jvm.MethodName) prog_14_method_108_code (3 : Nat) (Option.some Jvm.ClassFile.FieldType.int)) ∈ lw_good := lw_g9 22 rfl rfl
theorem tw_1947 : (Jvm.Cond.methodLink "OrderlyNetsModel" (417 : Nat) ({ cls := "OrderlyNetsModel", name := "hasNone", desc := "(I)Z" } : Jvm.MethodName)) ∈ lw_good := lw_g9 27 rfl rfl
theorem tw_1949 : (Jvm.Cond.instanceMethod ({ cls := "OrderlyNetsModel", name := "hasNone", desc := "(I)Z" } : Jvm.MethodName)) ∈ lw_good := lw_g9 29 rfl rfl
theorem tw_1950 : (Jvm.Cond.code ({ cls := "OrderlyNetsModel", name := "hasNone", desc := "(I)Z" } : Jvm.MethodName) prog_14_method_111_code (2 : Nat) (Option.some Jvm.ClassFile.FieldType.boolean)) ∈ lw_good := lw_g9 30 rfl rfl
theorem tw_1964 : (Jvm.Cond.methodLink "OrderlyNetsModel" (425 : Nat) ({ cls := "OrderlyNetsModel", name := "writes", desc := "(Ljava/lang/String;)V" } : Jvm.MethodName)) ∈ lw_good := lw_g9 44 rfl rfl
theorem tw_1966 : (Jvm.Cond.instanceMethod ({ cls := "OrderlyNetsModel", name := "writes", desc := "(Ljava/lang/String;)V" } : Jvm.MethodName)) ∈ lw_good := lw_g9 46 rfl rfl
theorem tw_1967 : (Jvm.Cond.code ({ cls := "OrderlyNetsModel", name := "writes", desc := "(Ljava/lang/String;)V" } : Jvm.MethodName) prog_14_method_115_code (3 : Nat) (Option.none : Option Jvm.ClassFile.FieldType)) ∈ lw_good := lw_g9 47 rfl rfl
theorem tw_1968 : (Jvm.Cond.methodLink "OrderlyNetsModel" (429 : Nat) ({ cls := "OrderlyNetsModel", name := "writesDigit", desc := "(I)V" } : Jvm.MethodName)) ∈ lw_good := lw_g9 48 rfl rfl
theorem tw_1970 : (Jvm.Cond.instanceMethod ({ cls := "OrderlyNetsModel", name := "writesDigit", desc := "(I)V" } : Jvm.MethodName)) ∈ lw_good := lw_g9 50 rfl rfl
theorem tw_1971 : (Jvm.Cond.code ({ cls := "OrderlyNetsModel", name := "writesDigit", desc := "(I)V" } : Jvm.MethodName) prog_14_method_116_code (2 : Nat) (Option.none : Option Jvm.ClassFile.FieldType)) ∈ lw_good := lw_g9 51 rfl rfl
theorem tw_1984 : (Jvm.Cond.methodLink "OrderlyNetsModel" (440 : Nat) ({ cls := "OrderlyNetsModel", name := "walkers", desc := "()I" } : Jvm.MethodName)) ∈ lw_good := lw_g9 64 rfl rfl
theorem tw_1986 : (Jvm.Cond.instanceMethod ({ cls := "OrderlyNetsModel", name := "walkers", desc := "()I" } : Jvm.MethodName)) ∈ lw_good := lw_g9 66 rfl rfl
theorem tw_1987 : (Jvm.Cond.code ({ cls := "OrderlyNetsModel", name := "walkers", desc := "()I" } : Jvm.MethodName) prog_14_method_119_code (3 : Nat) (Option.some Jvm.ClassFile.FieldType.int)) ∈ lw_good := lw_g9 67 rfl rfl
theorem tw_2007 : (Jvm.Cond.fieldLink "java/lang/String" (9 : Nat) "java/lang/String" "value" "[B") ∈ lw_good := lw_g9 87 rfl rfl
theorem tw_2008 : (Jvm.Cond.fieldLink "java/lang/String" (15 : Nat) "java/lang/String" "coder" "B") ∈ lw_good := lw_g9 88 rfl rfl
theorem tws_0 : Cond.selects "OrderlyNets$Levels" ⟨"OrderlyNets$Levels", "add", "(I)V"⟩ ⟨"OrderlyNets$Levels", "add", "(I)V"⟩ ∈ lw_good := lw_in 0 (by decide +kernel) (by decide +kernel)
theorem tws_1 : Cond.selects "OrderlyNets$Levels" ⟨"OrderlyNets$Levels", "setFirst", "(I)V"⟩ ⟨"OrderlyNets$Levels", "setFirst", "(I)V"⟩ ∈ lw_good := lw_in 1 (by decide +kernel) (by decide +kernel)
theorem tws_2 : Cond.selects "OrderlyNets$Levels" ⟨"OrderlyNets$Levels", "firstOf", "(I)I"⟩ ⟨"OrderlyNets$Levels", "firstOf", "(I)I"⟩ ∈ lw_good := lw_in 2 (by decide +kernel) (by decide +kernel)
theorem tws_3 : Cond.selects "OrderlyNets$Forms" ⟨"OrderlyNets$Forms", "begin", "(II)V"⟩ ⟨"OrderlyNets$Forms", "begin", "(II)V"⟩ ∈ lw_good := lw_in 3 (by decide +kernel) (by decide +kernel)
theorem tws_4 : Cond.selects "OrderlyNets$Sketch" ⟨"OrderlyNets$Sketch", "join", "(II)V"⟩ ⟨"OrderlyNets$Sketch", "join", "(II)V"⟩ ∈ lw_good := lw_in 4 (by decide +kernel) (by decide +kernel)
theorem tws_5 : Cond.selects "OrderlyNets$Forms" ⟨"OrderlyNets$Forms", "placeNext", "(IIIJ)V"⟩ ⟨"OrderlyNets$Forms", "placeNext", "(IIIJ)V"⟩ ∈ lw_good := lw_in 5 (by decide +kernel) (by decide +kernel)
theorem tws_6 : Cond.selects "OrderlyNets$Forms" ⟨"OrderlyNets$Forms", "arrive", "(I)V"⟩ ⟨"OrderlyNets$Forms", "arrive", "(I)V"⟩ ∈ lw_good := lw_in 6 (by decide +kernel) (by decide +kernel)
theorem tws_7 : Cond.selects "OrderlyNets$Forms" ⟨"OrderlyNets$Forms", "place", "(IIIIJ)V"⟩ ⟨"OrderlyNets$Forms", "place", "(IIIIJ)V"⟩ ∈ lw_good := lw_in 7 (by decide +kernel) (by decide +kernel)
theorem tws_8 : Cond.selects "OrderlyNets$Sketch" ⟨"OrderlyNets$Sketch", "closeFrom", "(IIII)I"⟩ ⟨"OrderlyNets$Sketch", "closeFrom", "(IIII)I"⟩ ∈ lw_good := lw_in 8 (by decide +kernel) (by decide +kernel)
theorem tws_9 : Cond.selects "OrderlyNets$Sketch" ⟨"OrderlyNets$Sketch", "stepTo", "(IIII)I"⟩ ⟨"OrderlyNets$Sketch", "stepTo", "(IIII)I"⟩ ∈ lw_good := lw_in 9 (by decide +kernel) (by decide +kernel)
theorem tws_10 : Cond.selects "OrderlyNets$Sketch" ⟨"OrderlyNets$Sketch", "oneStepOn", "(I)I"⟩ ⟨"OrderlyNets$Sketch", "oneStepOn", "(I)I"⟩ ∈ lw_good := lw_in 10 (by decide +kernel) (by decide +kernel)
theorem tws_11 : Cond.selects "OrderlyNets$Tape" ⟨"OrderlyNets$Tape", "skipBlanks", "()V"⟩ ⟨"OrderlyNets$Tape", "skipBlanks", "()V"⟩ ∈ lw_good := lw_in 11 (by decide +kernel) (by decide +kernel)
theorem tws_12 : Cond.selects "OrderlyNets$Tape" ⟨"OrderlyNets$Tape", "at", "(I)I"⟩ ⟨"OrderlyNets$Tape", "at", "(I)I"⟩ ∈ lw_good := lw_in 12 (by decide +kernel) (by decide +kernel)
theorem tws_13 : Cond.selects "OrderlyNets$Tape" ⟨"OrderlyNets$Tape", "isLetter", "(I)Z"⟩ ⟨"OrderlyNets$Tape", "isLetter", "(I)Z"⟩ ∈ lw_good := lw_in 13 (by decide +kernel) (by decide +kernel)
theorem tws_14 : Cond.selects "OrderlyNets$Tape" ⟨"OrderlyNets$Tape", "isDigit", "(I)Z"⟩ ⟨"OrderlyNets$Tape", "isDigit", "(I)Z"⟩ ∈ lw_good := lw_in 14 (by decide +kernel) (by decide +kernel)
theorem tws_16 : Cond.selects "OrderlyNets$Levels" ⟨"OrderlyNets$Levels", "ahead", "(II)I"⟩ ⟨"OrderlyNets$Levels", "ahead", "(II)I"⟩ ∈ lw_good := lw_in 16 (by decide +kernel) (by decide +kernel)
theorem tws_17 : Cond.selects "OrderlyNets" ⟨"OrderlyNets", "needLevel", "(I)V"⟩ ⟨"OrderlyNets", "needLevel", "(I)V"⟩ ∈ lw_good := lw_in 17 (by decide +kernel) (by decide +kernel)
theorem tws_18 : Cond.selects "OrderlyNets" ⟨"OrderlyNets", "needNet", "(II)I"⟩ ⟨"OrderlyNets", "needNet", "(II)I"⟩ ∈ lw_good := lw_in 18 (by decide +kernel) (by decide +kernel)
theorem tws_19 : Cond.selects "OrderlyNets$Forms" ⟨"OrderlyNets$Forms", "study", "(II)V"⟩ ⟨"OrderlyNets$Forms", "study", "(II)V"⟩ ∈ lw_good := lw_in 19 (by decide +kernel) (by decide +kernel)
theorem tws_20 : Cond.selects "OrderlyNets$Forms" ⟨"OrderlyNets$Forms", "leastSeenWith", "(I)I"⟩ ⟨"OrderlyNets$Forms", "leastSeenWith", "(I)I"⟩ ∈ lw_good := lw_in 20 (by decide +kernel) (by decide +kernel)
theorem tws_21 : Cond.selects "OrderlyNets$Forms" ⟨"OrderlyNets$Forms", "seenAt", "(I)I"⟩ ⟨"OrderlyNets$Forms", "seenAt", "(I)I"⟩ ∈ lw_good := lw_in 21 (by decide +kernel) (by decide +kernel)
theorem tws_22 : Cond.selects "OrderlyNets" ⟨"OrderlyNets", "needNode", "(II)V"⟩ ⟨"OrderlyNets", "needNode", "(II)V"⟩ ∈ lw_good := lw_in 22 (by decide +kernel) (by decide +kernel)
theorem tws_23 : Cond.selects "OrderlyNets" ⟨"OrderlyNets", "needGrown", "(IIIZ)I"⟩ ⟨"OrderlyNets", "needGrown", "(IIIZ)I"⟩ ∈ lw_good := lw_in 23 (by decide +kernel) (by decide +kernel)
theorem tws_24 : Cond.selects "OrderlyNets" ⟨"OrderlyNets", "numberWithout", "(III)I"⟩ ⟨"OrderlyNets", "numberWithout", "(III)I"⟩ ∈ lw_good := lw_in 24 (by decide +kernel) (by decide +kernel)
theorem tws_25 : Cond.selects "OrderlyNets$Match" ⟨"OrderlyNets$Match", "layNext", "(IIIJ)V"⟩ ⟨"OrderlyNets$Match", "layNext", "(IIIJ)V"⟩ ∈ lw_good := lw_in 25 (by decide +kernel) (by decide +kernel)
theorem tws_26 : Cond.selects "OrderlyNets$Match" ⟨"OrderlyNets$Match", "lay", "(IIIIJ)V"⟩ ⟨"OrderlyNets$Match", "lay", "(IIIIJ)V"⟩ ∈ lw_good := lw_in 26 (by decide +kernel) (by decide +kernel)
theorem tws_27 : Cond.selects "OrderlyNets$Match" ⟨"OrderlyNets$Match", "pairNext", "(IIIJJ)V"⟩ ⟨"OrderlyNets$Match", "pairNext", "(IIIJJ)V"⟩ ∈ lw_good := lw_in 27 (by decide +kernel) (by decide +kernel)
theorem tws_28 : Cond.selects "OrderlyNets$Match" ⟨"OrderlyNets$Match", "pair", "(IIIJJ)V"⟩ ⟨"OrderlyNets$Match", "pair", "(IIIJJ)V"⟩ ∈ lw_good := lw_in 28 (by decide +kernel) (by decide +kernel)
theorem tws_29 : Cond.selects "OrderlyNets$Match" ⟨"OrderlyNets$Match", "leaveOut", "(IIIJJ)V"⟩ ⟨"OrderlyNets$Match", "leaveOut", "(IIIJJ)V"⟩ ∈ lw_good := lw_in 29 (by decide +kernel) (by decide +kernel)
theorem tws_30 : Cond.selects "OrderlyNets" ⟨"OrderlyNets", "wholeDeck", "(II)J"⟩ ⟨"OrderlyNets", "wholeDeck", "(II)J"⟩ ∈ lw_good := lw_in 30 (by decide +kernel) (by decide +kernel)
theorem tws_31 : Cond.selects "OrderlyNets$Cycles" ⟨"OrderlyNets$Cycles", "splitNext", "(IIIJ)J"⟩ ⟨"OrderlyNets$Cycles", "splitNext", "(IIIJ)J"⟩ ∈ lw_good := lw_in 31 (by decide +kernel) (by decide +kernel)
theorem tws_32 : Cond.selects "OrderlyNets$Cycles" ⟨"OrderlyNets$Cycles", "alike", "(IJ)J"⟩ ⟨"OrderlyNets$Cycles", "alike", "(IJ)J"⟩ ∈ lw_good := lw_in 32 (by decide +kernel) (by decide +kernel)
theorem tws_33 : Cond.selects "OrderlyNets$Cycles" ⟨"OrderlyNets$Cycles", "partAt", "(I)I"⟩ ⟨"OrderlyNets$Cycles", "partAt", "(I)I"⟩ ∈ lw_good := lw_in 33 (by decide +kernel) (by decide +kernel)
theorem tws_34 : Cond.selects "OrderlyNets$Cycles" ⟨"OrderlyNets$Cycles", "fixedNets", "(I)J"⟩ ⟨"OrderlyNets$Cycles", "fixedNets", "(I)J"⟩ ∈ lw_good := lw_in 34 (by decide +kernel) (by decide +kernel)
theorem tws_35 : Cond.selects "OrderlyNets$Cycles" ⟨"OrderlyNets$Cycles", "addCycles", "(II)V"⟩ ⟨"OrderlyNets$Cycles", "addCycles", "(II)V"⟩ ∈ lw_good := lw_in 35 (by decide +kernel) (by decide +kernel)
theorem tws_36 : Cond.selects "OrderlyNets$Cycles" ⟨"OrderlyNets$Cycles", "split", "(IIIJ)J"⟩ ⟨"OrderlyNets$Cycles", "split", "(IIIJ)J"⟩ ∈ lw_good := lw_in 36 (by decide +kernel) (by decide +kernel)
theorem tws_37 : Cond.selects "OrderlyNets" ⟨"OrderlyNets", "needTold", "()V"⟩ ⟨"OrderlyNets", "needTold", "()V"⟩ ∈ lw_good := lw_in 37 (by decide +kernel) (by decide +kernel)
theorem tws_38 : Cond.selects "OrderlyNets" ⟨"OrderlyNets", "needShare", "(III)V"⟩ ⟨"OrderlyNets", "needShare", "(III)V"⟩ ∈ lw_good := lw_in 38 (by decide +kernel) (by decide +kernel)
theorem tws_39 : Cond.selects "OrderlyNets" ⟨"OrderlyNets", "needWalker", "(I)V"⟩ ⟨"OrderlyNets", "needWalker", "(I)V"⟩ ∈ lw_good := lw_in 39 (by decide +kernel) (by decide +kernel)
theorem tws_40 : Cond.selects "OrderlyNets" ⟨"OrderlyNets", "shareOf", "(I)I"⟩ ⟨"OrderlyNets", "shareOf", "(I)I"⟩ ∈ lw_good := lw_in 40 (by decide +kernel) (by decide +kernel)
theorem tws_41 : Cond.selects "OrderlyNets" ⟨"OrderlyNets", "needShareOf", "(I)V"⟩ ⟨"OrderlyNets", "needShareOf", "(I)V"⟩ ∈ lw_good := lw_in 41 (by decide +kernel) (by decide +kernel)
theorem tws_42 : Cond.selects "OrderlyNets" ⟨"OrderlyNets", "listedLast", "(I)I"⟩ ⟨"OrderlyNets", "listedLast", "(I)I"⟩ ∈ lw_good := lw_in 42 (by decide +kernel) (by decide +kernel)
theorem tws_43 : Cond.selects "OrderlyNets$Page" ⟨"OrderlyNets$Page", "putWord", "(Ljava/lang/String;)V"⟩ ⟨"OrderlyNets$Page", "putWord", "(Ljava/lang/String;)V"⟩ ∈ lw_good := lw_in 43 (by decide +kernel) (by decide +kernel)
theorem tws_44 : Cond.selects "OrderlyNets$Page" ⟨"OrderlyNets$Page", "putBlank", "()V"⟩ ⟨"OrderlyNets$Page", "putBlank", "()V"⟩ ∈ lw_good := lw_in 44 (by decide +kernel) (by decide +kernel)
theorem tws_45 : Cond.selects "OrderlyNets$Page" ⟨"OrderlyNets$Page", "put", "(I)V"⟩ ⟨"OrderlyNets$Page", "put", "(I)V"⟩ ∈ lw_good := lw_in 45 (by decide +kernel) (by decide +kernel)
theorem tws_46 : Cond.selects "OrderlyNets$Page" ⟨"OrderlyNets$Page", "putNumber", "(I)V"⟩ ⟨"OrderlyNets$Page", "putNumber", "(I)V"⟩ ∈ lw_good := lw_in 46 (by decide +kernel) (by decide +kernel)
theorem tws_47 : Cond.selects "OrderlyNets$Page" ⟨"OrderlyNets$Page", "writeEdges", "(II)V"⟩ ⟨"OrderlyNets$Page", "writeEdges", "(II)V"⟩ ∈ lw_good := lw_in 47 (by decide +kernel) (by decide +kernel)
theorem tws_48 : Cond.selects "OrderlyNetsModel" ⟨"OrderlyNetsModel", "laysLevels", "()V"⟩ ⟨"OrderlyNetsModel", "laysLevels", "()V"⟩ ∈ lw_good := lw_in 48 (by decide +kernel) (by decide +kernel)
theorem tws_49 : Cond.selects "OrderlyNetsModel" ⟨"OrderlyNetsModel", "isDarkKind", "()Z"⟩ ⟨"OrderlyNetsModel", "isDarkKind", "()Z"⟩ ∈ lw_good := lw_in 49 (by decide +kernel) (by decide +kernel)
theorem tws_50 : Cond.selects "OrderlyNetsModel" ⟨"OrderlyNetsModel", "beginsClasses", "(IZ)V"⟩ ⟨"OrderlyNetsModel", "beginsClasses", "(IZ)V"⟩ ∈ lw_good := lw_in 50 (by decide +kernel) (by decide +kernel)
theorem tws_51 : Cond.selects "OrderlyNetsModel" ⟨"OrderlyNetsModel", "marksLike", "(IIZ)V"⟩ ⟨"OrderlyNetsModel", "marksLike", "(IIZ)V"⟩ ∈ lw_good := lw_in 51 (by decide +kernel) (by decide +kernel)
theorem tws_52 : Cond.selects "OrderlyNetsModel" ⟨"OrderlyNetsModel", "takesCode", "(II)V"⟩ ⟨"OrderlyNetsModel", "takesCode", "(II)V"⟩ ∈ lw_good := lw_in 52 (by decide +kernel) (by decide +kernel)
theorem tws_53 : Cond.selects "OrderlyNetsModel" ⟨"OrderlyNetsModel", "ties", "(II)V"⟩ ⟨"OrderlyNetsModel", "ties", "(II)V"⟩ ∈ lw_good := lw_in 53 (by decide +kernel) (by decide +kernel)
theorem tws_54 : Cond.selects "OrderlyNetsModel" ⟨"OrderlyNetsModel", "beginsOrders", "()V"⟩ ⟨"OrderlyNetsModel", "beginsOrders", "()V"⟩ ∈ lw_good := lw_in 54 (by decide +kernel) (by decide +kernel)
theorem tws_55 : Cond.selects "OrderlyNetsModel" ⟨"OrderlyNetsModel", "codeNow", "()I"⟩ ⟨"OrderlyNetsModel", "codeNow", "()I"⟩ ∈ lw_good := lw_in 55 (by decide +kernel) (by decide +kernel)
theorem tws_56 : Cond.selects "OrderlyNetsModel" ⟨"OrderlyNetsModel", "nextOrder", "()Z"⟩ ⟨"OrderlyNetsModel", "nextOrder", "()Z"⟩ ∈ lw_good := lw_in 56 (by decide +kernel) (by decide +kernel)
theorem tws_57 : Cond.selects "OrderlyNetsModel" ⟨"OrderlyNetsModel", "swaps", "(II)V"⟩ ⟨"OrderlyNetsModel", "swaps", "(II)V"⟩ ∈ lw_good := lw_in 57 (by decide +kernel) (by decide +kernel)
theorem tws_58 : Cond.selects "OrderlyNetsModel" ⟨"OrderlyNetsModel", "keepsRules", "()Z"⟩ ⟨"OrderlyNetsModel", "keepsRules", "()Z"⟩ ∈ lw_good := lw_in 58 (by decide +kernel) (by decide +kernel)
theorem tws_59 : Cond.selects "OrderlyNetsModel" ⟨"OrderlyNetsModel", "degree", "(Z)I"⟩ ⟨"OrderlyNetsModel", "degree", "(Z)I"⟩ ∈ lw_good := lw_in 59 (by decide +kernel) (by decide +kernel)
theorem tws_60 : Cond.selects "OrderlyNetsModel" ⟨"OrderlyNetsModel", "hasCircle", "(I)Z"⟩ ⟨"OrderlyNetsModel", "hasCircle", "(I)Z"⟩ ∈ lw_good := lw_in 60 (by decide +kernel) (by decide +kernel)
theorem tws_61 : Cond.selects "OrderlyNetsModel" ⟨"OrderlyNetsModel", "comesBack", "(IIII)Z"⟩ ⟨"OrderlyNetsModel", "comesBack", "(IIII)Z"⟩ ∈ lw_good := lw_in 61 (by decide +kernel) (by decide +kernel)
theorem tws_62 : Cond.selects "OrderlyNetsModel" ⟨"OrderlyNetsModel", "areUnlike", "()Z"⟩ ⟨"OrderlyNetsModel", "areUnlike", "()Z"⟩ ∈ lw_good := lw_in 62 (by decide +kernel) (by decide +kernel)
theorem tws_63 : Cond.selects "OrderlyNetsModel" ⟨"OrderlyNetsModel", "hasBarred", "([IIIII)Z"⟩ ⟨"OrderlyNetsModel", "hasBarred", "([IIIII)Z"⟩ ∈ lw_good := lw_in 63 (by decide +kernel) (by decide +kernel)
theorem tws_64 : Cond.selects "OrderlyNetsModel" ⟨"OrderlyNetsModel", "isBarredBy", "([IIII)Z"⟩ ⟨"OrderlyNetsModel", "isBarredBy", "([IIII)Z"⟩ ∈ lw_good := lw_in 64 (by decide +kernel) (by decide +kernel)
theorem tws_65 : Cond.selects "OrderlyNetsModel" ⟨"OrderlyNetsModel", "beginsReading", "()V"⟩ ⟨"OrderlyNetsModel", "beginsReading", "()V"⟩ ∈ lw_good := lw_in 65 (by decide +kernel) (by decide +kernel)
theorem tws_66 : Cond.selects "OrderlyNetsModel" ⟨"OrderlyNetsModel", "readKind", "()Z"⟩ ⟨"OrderlyNetsModel", "readKind", "()Z"⟩ ∈ lw_good := lw_in 66 (by decide +kernel) (by decide +kernel)
theorem tws_67 : Cond.selects "OrderlyNetsModel" ⟨"OrderlyNetsModel", "passesWord", "(Ljava/lang/String;)Z"⟩ ⟨"OrderlyNetsModel", "passesWord", "(Ljava/lang/String;)Z"⟩ ∈ lw_good := lw_in 67 (by decide +kernel) (by decide +kernel)
theorem tws_68 : Cond.selects "OrderlyNetsModel" ⟨"OrderlyNetsModel", "letters", "()V"⟩ ⟨"OrderlyNetsModel", "letters", "()V"⟩ ∈ lw_good := lw_in 68 (by decide +kernel) (by decide +kernel)
theorem tws_69 : Cond.selects "OrderlyNetsModel" ⟨"OrderlyNetsModel", "blanks", "()V"⟩ ⟨"OrderlyNetsModel", "blanks", "()V"⟩ ∈ lw_good := lw_in 69 (by decide +kernel) (by decide +kernel)
theorem tws_70 : Cond.selects "OrderlyNetsModel" ⟨"OrderlyNetsModel", "isAt", "(II)Z"⟩ ⟨"OrderlyNetsModel", "isAt", "(II)Z"⟩ ∈ lw_good := lw_in 70 (by decide +kernel) (by decide +kernel)
theorem tws_71 : Cond.selects "OrderlyNetsModel" ⟨"OrderlyNetsModel", "isWord", "(Ljava/lang/String;)Z"⟩ ⟨"OrderlyNetsModel", "isWord", "(Ljava/lang/String;)Z"⟩ ∈ lw_good := lw_in 71 (by decide +kernel) (by decide +kernel)
theorem tws_72 : Cond.selects "OrderlyNetsModel" ⟨"OrderlyNetsModel", "readTo", "(III)Z"⟩ ⟨"OrderlyNetsModel", "readTo", "(III)Z"⟩ ∈ lw_good := lw_in 72 (by decide +kernel) (by decide +kernel)
theorem tws_73 : Cond.selects "OrderlyNetsModel" ⟨"OrderlyNetsModel", "number", "(II)I"⟩ ⟨"OrderlyNetsModel", "number", "(II)I"⟩ ∈ lw_good := lw_in 73 (by decide +kernel) (by decide +kernel)
theorem tws_74 : Cond.selects "OrderlyNetsModel" ⟨"OrderlyNetsModel", "passesSign", "(I)Z"⟩ ⟨"OrderlyNetsModel", "passesSign", "(I)Z"⟩ ∈ lw_good := lw_in 74 (by decide +kernel) (by decide +kernel)
theorem tws_75 : Cond.selects "OrderlyNetsModel" ⟨"OrderlyNetsModel", "readLine", "()Z"⟩ ⟨"OrderlyNetsModel", "readLine", "()Z"⟩ ∈ lw_good := lw_in 75 (by decide +kernel) (by decide +kernel)
theorem tws_76 : Cond.selects "OrderlyNetsModel" ⟨"OrderlyNetsModel", "readEnd", "()Z"⟩ ⟨"OrderlyNetsModel", "readEnd", "()Z"⟩ ∈ lw_good := lw_in 76 (by decide +kernel) (by decide +kernel)
theorem tws_77 : Cond.selects "OrderlyNetsModel" ⟨"OrderlyNetsModel", "readOnce", "(I)Z"⟩ ⟨"OrderlyNetsModel", "readOnce", "(I)Z"⟩ ∈ lw_good := lw_in 77 (by decide +kernel) (by decide +kernel)
theorem tws_78 : Cond.selects "OrderlyNetsModel" ⟨"OrderlyNetsModel", "readWithout", "()Z"⟩ ⟨"OrderlyNetsModel", "readWithout", "()Z"⟩ ∈ lw_good := lw_in 78 (by decide +kernel) (by decide +kernel)
theorem tws_79 : Cond.selects "OrderlyNetsModel" ⟨"OrderlyNetsModel", "readPairs", "(I)Z"⟩ ⟨"OrderlyNetsModel", "readPairs", "(I)Z"⟩ ∈ lw_good := lw_in 79 (by decide +kernel) (by decide +kernel)
theorem tws_80 : Cond.selects "OrderlyNetsModel" ⟨"OrderlyNetsModel", "throwsIf", "(ZI)Z"⟩ ⟨"OrderlyNetsModel", "throwsIf", "(ZI)Z"⟩ ∈ lw_good := lw_in 80 (by decide +kernel) (by decide +kernel)
theorem tws_81 : Cond.selects "OrderlyNetsModel" ⟨"OrderlyNetsModel", "readNet", "()Z"⟩ ⟨"OrderlyNetsModel", "readNet", "()Z"⟩ ∈ lw_good := lw_in 81 (by decide +kernel) (by decide +kernel)
theorem tws_82 : Cond.selects "OrderlyNetsModel" ⟨"OrderlyNetsModel", "readDarks", "(I)Z"⟩ ⟨"OrderlyNetsModel", "readDarks", "(I)Z"⟩ ∈ lw_good := lw_in 82 (by decide +kernel) (by decide +kernel)
theorem tws_83 : Cond.selects "OrderlyNetsModel" ⟨"OrderlyNetsModel", "isFigure", "()Z"⟩ ⟨"OrderlyNetsModel", "isFigure", "()Z"⟩ ∈ lw_good := lw_in 83 (by decide +kernel) (by decide +kernel)
theorem tws_84 : Cond.selects "OrderlyNetsModel" ⟨"OrderlyNetsModel", "laysForm", "()V"⟩ ⟨"OrderlyNetsModel", "laysForm", "()V"⟩ ∈ lw_good := lw_in 84 (by decide +kernel) (by decide +kernel)
theorem tws_85 : Cond.selects "OrderlyNetsModel" ⟨"OrderlyNetsModel", "edgesNow", "()I"⟩ ⟨"OrderlyNetsModel", "edgesNow", "()I"⟩ ∈ lw_good := lw_in 85 (by decide +kernel) (by decide +kernel)
theorem tws_86 : Cond.selects "OrderlyNetsModel" ⟨"OrderlyNetsModel", "numberOf", "(II)I"⟩ ⟨"OrderlyNetsModel", "numberOf", "(II)I"⟩ ∈ lw_good := lw_in 86 (by decide +kernel) (by decide +kernel)
theorem tws_87 : Cond.selects "OrderlyNetsModel" ⟨"OrderlyNetsModel", "noLevel", "(I)Z"⟩ ⟨"OrderlyNetsModel", "noLevel", "(I)Z"⟩ ∈ lw_good := lw_in 87 (by decide +kernel) (by decide +kernel)
theorem tws_88 : Cond.selects "OrderlyNetsModel" ⟨"OrderlyNetsModel", "noNet", "(II)Z"⟩ ⟨"OrderlyNetsModel", "noNet", "(II)Z"⟩ ∈ lw_good := lw_in 88 (by decide +kernel) (by decide +kernel)
theorem tws_89 : Cond.selects "OrderlyNetsModel" ⟨"OrderlyNetsModel", "orbits", "(II)I"⟩ ⟨"OrderlyNetsModel", "orbits", "(II)I"⟩ ∈ lw_good := lw_in 89 (by decide +kernel) (by decide +kernel)
theorem tws_90 : Cond.selects "OrderlyNetsModel" ⟨"OrderlyNetsModel", "takes", "(II)V"⟩ ⟨"OrderlyNetsModel", "takes", "(II)V"⟩ ∈ lw_good := lw_in 90 (by decide +kernel) (by decide +kernel)
theorem tws_91 : Cond.selects "OrderlyNetsModel" ⟨"OrderlyNetsModel", "likesOf", "(I)I"⟩ ⟨"OrderlyNetsModel", "likesOf", "(I)I"⟩ ∈ lw_good := lw_in 91 (by decide +kernel) (by decide +kernel)
theorem tws_92 : Cond.selects "OrderlyNetsModel" ⟨"OrderlyNetsModel", "parentOf", "(II)I"⟩ ⟨"OrderlyNetsModel", "parentOf", "(II)I"⟩ ∈ lw_good := lw_in 92 (by decide +kernel) (by decide +kernel)
theorem tws_93 : Cond.selects "OrderlyNetsModel" ⟨"OrderlyNetsModel", "without", "(III)I"⟩ ⟨"OrderlyNetsModel", "without", "(III)I"⟩ ∈ lw_good := lw_in 93 (by decide +kernel) (by decide +kernel)
theorem tws_94 : Cond.selects "OrderlyNetsModel" ⟨"OrderlyNetsModel", "drops", "(I)V"⟩ ⟨"OrderlyNetsModel", "drops", "(I)V"⟩ ∈ lw_good := lw_in 94 (by decide +kernel) (by decide +kernel)
theorem tws_95 : Cond.selects "OrderlyNetsModel" ⟨"OrderlyNetsModel", "formNow", "()I"⟩ ⟨"OrderlyNetsModel", "formNow", "()I"⟩ ∈ lw_good := lw_in 95 (by decide +kernel) (by decide +kernel)
theorem tws_96 : Cond.selects "OrderlyNetsModel" ⟨"OrderlyNetsModel", "children", "(II)I"⟩ ⟨"OrderlyNetsModel", "children", "(II)I"⟩ ∈ lw_good := lw_in 96 (by decide +kernel) (by decide +kernel)
theorem tws_97 : Cond.selects "OrderlyNetsModel" ⟨"OrderlyNetsModel", "partsNow", "()I"⟩ ⟨"OrderlyNetsModel", "partsNow", "()I"⟩ ∈ lw_good := lw_in 97 (by decide +kernel) (by decide +kernel)
theorem tws_98 : Cond.selects "OrderlyNetsModel" ⟨"OrderlyNetsModel", "partOf", "(I)I"⟩ ⟨"OrderlyNetsModel", "partOf", "(I)I"⟩ ∈ lw_good := lw_in 98 (by decide +kernel) (by decide +kernel)
theorem tws_99 : Cond.selects "OrderlyNetsModel" ⟨"OrderlyNetsModel", "widest", "()I"⟩ ⟨"OrderlyNetsModel", "widest", "()I"⟩ ∈ lw_good := lw_in 99 (by decide +kernel) (by decide +kernel)
theorem tws_100 : Cond.selects "OrderlyNetsModel" ⟨"OrderlyNetsModel", "shortestCircle", "()I"⟩ ⟨"OrderlyNetsModel", "shortestCircle", "()I"⟩ ∈ lw_good := lw_in 100 (by decide +kernel) (by decide +kernel)
theorem tws_101 : Cond.selects "OrderlyNetsModel" ⟨"OrderlyNetsModel", "keepsEnds", "()Z"⟩ ⟨"OrderlyNetsModel", "keepsEnds", "()Z"⟩ ∈ lw_good := lw_in 101 (by decide +kernel) (by decide +kernel)
theorem tws_102 : Cond.selects "OrderlyNetsModel" ⟨"OrderlyNetsModel", "noNode", "(III)Z"⟩ ⟨"OrderlyNetsModel", "noNode", "(III)Z"⟩ ∈ lw_good := lw_in 102 (by decide +kernel) (by decide +kernel)
theorem tws_103 : Cond.selects "OrderlyNetsModel" ⟨"OrderlyNetsModel", "childOf", "(III)I"⟩ ⟨"OrderlyNetsModel", "childOf", "(III)I"⟩ ∈ lw_good := lw_in 103 (by decide +kernel) (by decide +kernel)
theorem tws_104 : Cond.selects "OrderlyNetsModel" ⟨"OrderlyNetsModel", "noGrown", "(IIIZ)Z"⟩ ⟨"OrderlyNetsModel", "noGrown", "(IIIZ)Z"⟩ ∈ lw_good := lw_in 104 (by decide +kernel) (by decide +kernel)
theorem tws_105 : Cond.selects "OrderlyNetsModel" ⟨"OrderlyNetsModel", "holdsNet", "()V"⟩ ⟨"OrderlyNetsModel", "holdsNet", "()V"⟩ ∈ lw_good := lw_in 105 (by decide +kernel) (by decide +kernel)
theorem tws_106 : Cond.selects "OrderlyNetsModel" ⟨"OrderlyNetsModel", "partedBy", "()I"⟩ ⟨"OrderlyNetsModel", "partedBy", "()I"⟩ ∈ lw_good := lw_in 106 (by decide +kernel) (by decide +kernel)
theorem tws_107 : Cond.selects "OrderlyNetsModel" ⟨"OrderlyNetsModel", "haveCommon", "(IIIII)Z"⟩ ⟨"OrderlyNetsModel", "haveCommon", "(IIIII)Z"⟩ ∈ lw_good := lw_in 107 (by decide +kernel) (by decide +kernel)
theorem tws_108 : Cond.selects "OrderlyNetsModel" ⟨"OrderlyNetsModel", "formOf", "(III)I"⟩ ⟨"OrderlyNetsModel", "formOf", "(III)I"⟩ ∈ lw_good := lw_in 108 (by decide +kernel) (by decide +kernel)
theorem tws_109 : Cond.selects "OrderlyNetsModel" ⟨"OrderlyNetsModel", "isLeastEdge", "(II)Z"⟩ ⟨"OrderlyNetsModel", "isLeastEdge", "(II)Z"⟩ ∈ lw_good := lw_in 109 (by decide +kernel) (by decide +kernel)
theorem tws_110 : Cond.selects "OrderlyNetsModel" ⟨"OrderlyNetsModel", "laysDeck", "(II)V"⟩ ⟨"OrderlyNetsModel", "laysDeck", "(II)V"⟩ ∈ lw_good := lw_in 110 (by decide +kernel) (by decide +kernel)
theorem tws_111 : Cond.selects "OrderlyNetsModel" ⟨"OrderlyNetsModel", "isShare", "(III)Z"⟩ ⟨"OrderlyNetsModel", "isShare", "(III)Z"⟩ ∈ lw_good := lw_in 111 (by decide +kernel) (by decide +kernel)
theorem tws_112 : Cond.selects "OrderlyNetsModel" ⟨"OrderlyNetsModel", "shared", "(IIII)I"⟩ ⟨"OrderlyNetsModel", "shared", "(IIII)I"⟩ ∈ lw_good := lw_in 112 (by decide +kernel) (by decide +kernel)
theorem tws_113 : Cond.selects "OrderlyNetsModel" ⟨"OrderlyNetsModel", "isIn", "(IIII)Z"⟩ ⟨"OrderlyNetsModel", "isIn", "(IIII)Z"⟩ ∈ lw_good := lw_in 113 (by decide +kernel) (by decide +kernel)
theorem tws_114 : Cond.selects "OrderlyNetsModel" ⟨"OrderlyNetsModel", "walked", "(II)I"⟩ ⟨"OrderlyNetsModel", "walked", "(II)I"⟩ ∈ lw_good := lw_in 114 (by decide +kernel) (by decide +kernel)
theorem tws_115 : Cond.selects "OrderlyNetsModel" ⟨"OrderlyNetsModel", "ofWalker", "(II)I"⟩ ⟨"OrderlyNetsModel", "ofWalker", "(II)I"⟩ ∈ lw_good := lw_in 115 (by decide +kernel) (by decide +kernel)
theorem tws_116 : Cond.selects "OrderlyNetsModel" ⟨"OrderlyNetsModel", "hasNone", "(I)Z"⟩ ⟨"OrderlyNetsModel", "hasNone", "(I)Z"⟩ ∈ lw_good := lw_in 116 (by decide +kernel) (by decide +kernel)
theorem tws_117 : Cond.selects "OrderlyNetsModel" ⟨"OrderlyNetsModel", "writes", "(Ljava/lang/String;)V"⟩ ⟨"OrderlyNetsModel", "writes", "(Ljava/lang/String;)V"⟩ ∈ lw_good := lw_in 117 (by decide +kernel) (by decide +kernel)
theorem tws_118 : Cond.selects "OrderlyNetsModel" ⟨"OrderlyNetsModel", "writesDigit", "(I)V"⟩ ⟨"OrderlyNetsModel", "writesDigit", "(I)V"⟩ ∈ lw_good := lw_in 118 (by decide +kernel) (by decide +kernel)
theorem tws_119 : Cond.selects "OrderlyNetsModel" ⟨"OrderlyNetsModel", "walkers", "()I"⟩ ⟨"OrderlyNetsModel", "walkers", "()I"⟩ ∈ lw_good := lw_in 119 (by decide +kernel) (by decide +kernel)
theorem yk_X0_bits : eYS yX0_bits cX0_bits 1 (some .int) 1 := ⟨tw_357, tw_356, tw_13, by decide +kernel⟩
theorem yk_X0_dark : eYS yX0_dark cX0_dark 2 (some .int) 2 := ⟨tw_435, tw_434, tw_13, by decide +kernel⟩
theorem yk_X0_allColours : eYS yX0_allColours cX0_allColours 3 (some .int) 1 := ⟨tw_432, tw_431, tw_13, by decide +kernel⟩
theorem yk_X0_edge : eYS yX0_edge cX0_edge 3 (some .int) 3 := ⟨tw_446, tw_445, tw_13, by decide +kernel⟩
theorem yk_X0_allEdges : eYS yX0_allEdges cX0_allEdges 1 (some .int) 1 := ⟨tw_428, tw_427, tw_13, by decide +kernel⟩
theorem yk_J6_bitCount_0f7a4 : eYS yJ6_bitCount_0f7a4 cJ6_bitCount_0f7a4 1 (some .int) 1 := ⟨tw_399, tw_398, tw_14, by decide +kernel⟩
theorem yk_X1_partAt : eYV yX1_partAt cX1_partAt 2 (some .int) 1 := ⟨tw_1214, tw_1213, tws_33, tw_11, by decide +kernel⟩
theorem yk_X1_addCycles : eYV yX1_addCycles cX1_addCycles 5 none 2 := ⟨tw_1225, tw_1224, tws_35, tw_11, by decide +kernel⟩
theorem yk_X1_commonDivisor : eYS yX1_commonDivisor cX1_commonDivisor 3 (some .int) 2 := ⟨tw_1228, tw_1227, tw_11, by decide +kernel⟩
theorem yk_J7_fill_d0a16 : eYS yJ7_fill_d0a16 cJ7_fill_d0a16 5 none 2 := ⟨tw_1221, tw_1220, tw_28, by decide +kernel⟩
theorem yk_X1_splitNext : eYV yX1_splitNext cX1_splitNext 9 (some .long) 4 := ⟨tw_1206, tw_1205, tws_31, tw_11, by decide +kernel⟩
theorem yk_X1_alike : eYV yX1_alike cX1_alike 8 (some .long) 2 := ⟨tw_1210, tw_1209, tws_32, tw_11, by decide +kernel⟩
theorem yk_X1_fixedNets : eYV yX1_fixedNets cX1_fixedNets 6 (some .long) 1 := ⟨tw_1218, tw_1217, tws_34, tw_11, by decide +kernel⟩
theorem yk_X1_split : eYV yX1_split cX1_split 6 (some .long) 4 := ⟨tw_1233, tw_1232, tws_36, tw_11, by decide +kernel⟩
theorem yk_X1_orders : eYS yX1_orders cX1_orders 4 (some .long) 1 := ⟨tw_1188, tw_1187, tw_11, by decide +kernel⟩
theorem yk_X7_join : eYV yX7_join cX7_join 3 none 2 := ⟨tw_361, tw_360, tws_4, tw_9, by decide +kernel⟩
theorem yk_X7_draw : eYV yX7_draw cX7_draw 7 none 2 := ⟨tw_351, tw_349, tw_350, tw_9, by decide +kernel⟩
theorem yk_X7_fan : eYV yX7_fan cX7_fan 2 (some .long) 1 := ⟨tw_383, tw_381, tw_382, tw_9, by decide +kernel⟩
theorem yk_X2_placeNext : eYV yX2_placeNext cX2_placeNext 11 none 4 := ⟨tw_366, tw_365, tws_5, tw_8, by decide +kernel⟩
theorem yk_X2_place : eYV yX2_place cX2_place 7 none 5 := ⟨tw_378, tw_377, tws_7, tw_8, by decide +kernel⟩
theorem yk_X7_block : eYS yX7_block cX7_block 3 (some .int) 2 := ⟨tw_374, tw_373, tw_9, by decide +kernel⟩
theorem yk_X2_arrive : eYV yX2_arrive cX2_arrive 13 none 1 := ⟨tw_370, tw_369, tws_6, tw_8, by decide +kernel⟩
theorem yk_X2_begin : eYV yX2_begin cX2_begin 3 none 2 := ⟨tw_347, tw_346, tws_3, tw_8, by decide +kernel⟩
theorem yk_X2_leastOf : eYV yX2_leastOf cX2_leastOf 3 (some .int) 2 := ⟨tw_452, tw_450, tw_451, tw_8, by decide +kernel⟩
theorem yk_X0_part : eYS yX0_part cX0_part 6 (some .int) 3 := ⟨tw_443, tw_442, tw_13, by decide +kernel⟩
theorem yk_X2_seenAt : eYV yX2_seenAt cX2_seenAt 2 (some .int) 1 := ⟨tw_932, tw_931, tws_21, tw_8, by decide +kernel⟩
theorem yk_X7_lowest : eYS yX7_lowest cX7_lowest 2 (some .int) 1 := ⟨tw_935, tw_934, tw_9, by decide +kernel⟩
theorem yk_X2_leastSeenWith : eYV yX2_leastSeenWith cX2_leastSeenWith 3 (some .int) 1 := ⟨tw_928, tw_927, tws_20, tw_8, by decide +kernel⟩
theorem yk_X2_study : eYV yX2_study cX2_study 3 none 2 := ⟨tw_924, tw_923, tws_19, tw_8, by decide +kernel⟩
theorem yk_X3_firstOf : eYV yX3_firstOf cX3_firstOf 2 (some .int) 1 := ⟨tw_335, tw_334, tws_2, tw_4, by decide +kernel⟩
theorem yk_X2_partsLike : eYV yX2_partsLike cX2_partsLike 9 (some .int) 4 := ⟨tw_439, tw_437, tw_438, tw_8, by decide +kernel⟩
theorem yk_X7_closeFrom : eYV yX7_closeFrom cX7_closeFrom 7 (some .int) 4 := ⟨tw_417, tw_416, tws_8, tw_9, by decide +kernel⟩
theorem yk_X7_nearOf : eYV yX7_nearOf cX7_nearOf 2 (some .int) 1 := ⟨tw_396, tw_394, tw_395, tw_9, by decide +kernel⟩
theorem yk_X7_stepTo : eYV yX7_stepTo cX7_stepTo 5 (some .int) 4 := ⟨tw_421, tw_420, tws_9, tw_9, by decide +kernel⟩
theorem yk_X7_circles : eYV yX7_circles cX7_circles 3 (some .int) 0 := ⟨tw_413, tw_411, tw_412, tw_9, by decide +kernel⟩
theorem yk_X7_mostNear : eYV yX7_mostNear cX7_mostNear 3 (some .int) 0 := ⟨tw_392, tw_390, tw_391, tw_9, by decide +kernel⟩
theorem yk_X7_joinsOneColour : eYV yX7_joinsOneColour cX7_joinsOneColour 3 (some .boolean) 0 := ⟨tw_409, tw_407, tw_408, tw_9, by decide +kernel⟩
theorem yk_X3_codeOf : eYV yX3_codeOf cX3_codeOf 4 (some .int) 2 := ⟨tw_339, tw_337, tw_338, tw_4, by decide +kernel⟩
theorem yk_X2_isForm : eYV yX2_isForm cX2_isForm 3 (some .boolean) 2 := ⟨tw_343, tw_341, tw_342, tw_8, by decide +kernel⟩
theorem yk_X6_shapeKept : eYV yX6_shapeKept cX6_shapeKept 4 (some .boolean) 3 := ⟨tw_387, tw_385, tw_386, tw_3, by decide +kernel⟩
theorem yk_X6_patternsKept : eYV yX6_patternsKept cX6_patternsKept 6 (some .boolean) 3 := ⟨tw_425, tw_423, tw_424, tw_3, by decide +kernel⟩
theorem yk_X3_add : eYV yX3_add cX3_add 2 none 1 := ⟨tw_323, tw_322, tws_0, tw_4, by decide +kernel⟩
theorem yk_X3_setFirst : eYV yX3_setFirst cX3_setFirst 2 none 1 := ⟨tw_327, tw_326, tws_1, tw_4, by decide +kernel⟩
theorem yk_X3_amount : eYV yX3_amount cX3_amount 2 (some .int) 1 := ⟨tw_331, tw_329, tw_330, tw_4, by decide +kernel⟩
theorem yk_X3_ahead : eYV yX3_ahead cX3_ahead 7 (some .int) 2 := ⟨tw_870, tw_869, tws_16, tw_4, by decide +kernel⟩
theorem yk_X3_firstHeir : eYV yX3_firstHeir cX3_firstHeir 4 (some .int) 3 := ⟨tw_948, tw_946, tw_947, tw_4, by decide +kernel⟩
theorem yk_X3_heirs : eYV yX3_heirs cX3_heirs 5 (some .int) 3 := ⟨tw_943, tw_941, tw_942, tw_4, by decide +kernel⟩
theorem yk_X4_layNext : eYV yX4_layNext cX4_layNext 11 none 4 := ⟨tw_1111, tw_1110, tws_25, tw_10, by decide +kernel⟩
theorem yk_X4_lay : eYV yX4_lay cX4_lay 7 none 5 := ⟨tw_1118, tw_1117, tws_26, tw_10, by decide +kernel⟩
theorem yk_X0_darkNodes : eYS yX0_darkNodes cX0_darkNodes 2 (some .int) 2 := ⟨tw_1106, tw_1105, tw_13, by decide +kernel⟩
theorem yk_X4_pairNext : eYV yX4_pairNext cX4_pairNext 11 none 5 := ⟨tw_1134, tw_1133, tws_27, tw_10, by decide +kernel⟩
theorem yk_X4_leaveOut : eYV yX4_leaveOut cX4_leaveOut 8 none 5 := ⟨tw_1144, tw_1143, tws_29, tw_10, by decide +kernel⟩
theorem yk_X4_pair : eYV yX4_pair cX4_pair 8 none 5 := ⟨tw_1140, tw_1139, tws_28, tw_10, by decide +kernel⟩
theorem yk_X5_put : eYV yX5_put cX5_put 2 none 1 := ⟨tw_1370, tw_1369, tws_45, tw_7, by decide +kernel⟩
theorem yk_X5_putBlank : eYV yX5_putBlank cX5_putBlank 1 none 0 := ⟨tw_1366, tw_1365, tws_44, tw_7, by decide +kernel⟩
theorem yk_X0_areJoined : eYS yX0_areJoined cX0_areJoined 4 (some .boolean) 4 := ⟨tw_735, tw_734, tw_13, by decide +kernel⟩
theorem yk_X5_putNumber : eYV yX5_putNumber cX5_putNumber 2 none 1 := ⟨tw_1376, tw_1375, tws_46, tw_7, by decide +kernel⟩
theorem yk_X0_edges : eYS yX0_edges cX0_edges 2 (some .int) 2 := ⟨tw_538, tw_537, tw_13, by decide +kernel⟩
theorem yk_X5_putWord : eYV yX5_putWord cX5_putWord 3 none 1 := ⟨tw_1362, tw_1361, tws_43, tw_7, by decide +kernel⟩
theorem yk_X5_writeEdges : eYV yX5_writeEdges cX5_writeEdges 6 none 2 := ⟨tw_1383, tw_1382, tws_47, tw_7, by decide +kernel⟩
theorem yk_X7_oneStepOn : eYV yX7_oneStepOn cX7_oneStepOn 4 (some .int) 1 := ⟨tw_552, tw_551, tws_10, tw_9, by decide +kernel⟩
theorem yk_X7_leastNear : eYV yX7_leastNear cX7_leastNear 3 (some .int) 0 := ⟨tw_544, tw_542, tw_543, tw_9, by decide +kernel⟩
theorem yk_X7_pieces : eYV yX7_pieces cX7_pieces 6 (some .int) 0 := ⟨tw_548, tw_546, tw_547, tw_9, by decide +kernel⟩
theorem yk_X8_at : eYV yX8_at cX8_at 2 (some .int) 1 := ⟨tw_634, tw_633, tws_12, tw_2, by decide +kernel⟩
theorem yk_X8_skipBlanks : eYV yX8_skipBlanks cX8_skipBlanks 1 none 0 := ⟨tw_630, tw_629, tws_11, tw_2, by decide +kernel⟩
theorem yk_X8_isDigit : eYV yX8_isDigit cX8_isDigit 2 (some .boolean) 1 := ⟨tw_694, tw_693, tws_14, tw_2, by decide +kernel⟩
theorem yk_X8_isLetter : eYV yX8_isLetter cX8_isLetter 2 (some .boolean) 1 := ⟨tw_638, tw_637, tws_13, tw_2, by decide +kernel⟩
theorem yk_X8_goesOn : eYV yX8_goesOn cX8_goesOn 1 (some .boolean) 0 := ⟨tw_699, tw_697, tw_698, tw_2, by decide +kernel⟩
theorem yk_X8_takesSign : eYV yX8_takesSign cX8_takesSign 2 (some .boolean) 1 := ⟨tw_703, tw_701, tw_702, tw_2, by decide +kernel⟩
theorem yk_X8_takeNumber : eYV yX8_takeNumber cX8_takeNumber 6 (some .int) 2 := ⟨tw_690, tw_688, tw_689, tw_2, by decide +kernel⟩
theorem yk_X8_takesWord : eYV yX8_takesWord cX8_takesWord 4 (some .boolean) 1 := ⟨tw_626, tw_624, tw_625, tw_2, by decide +kernel⟩
theorem yk_X6_tellsFirst : eYV yX6_tellsFirst cX6_tellsFirst 3 (some .boolean) 1 := ⟨tw_715, tw_713, tw_714, tw_3, by decide +kernel⟩
theorem yk_X9_readBounds : eYS yX9_readBounds cX9_readBounds 2 (some .boolean) 2 := ⟨tw_719, tw_718, tw_6, by decide +kernel⟩
theorem yk_X6_addPattern : eYV yX6_addPattern cX6_addPattern 3 none 2 := ⟨tw_740, tw_738, tw_739, tw_3, by decide +kernel⟩
theorem yk_X6_hasRoomForPattern : eYV yX6_hasRoomForPattern cX6_hasRoomForPattern 1 (some .boolean) 0 := ⟨tw_729, tw_727, tw_728, tw_3, by decide +kernel⟩
theorem yk_X9_readEdges : eYS yX9_readEdges cX9_readEdges 7 (some .int) 3 := ⟨tw_732, tw_731, tw_6, by decide +kernel⟩
theorem yk_X9_readRule : eYS yX9_readRule cX9_readRule 3 (some .boolean) 2 := ⟨tw_743, tw_742, tw_6, by decide +kernel⟩
theorem yk_X9_readPattern : eYS yX9_readPattern cX9_readPattern 4 (some .boolean) 2 := ⟨tw_725, tw_724, tw_6, by decide +kernel⟩
theorem yk_X9_readEnd : eYS yX9_readEnd cX9_readEnd 2 (some .boolean) 2 := ⟨tw_710, tw_709, tw_6, by decide +kernel⟩
theorem yk_X9_hasEnded : eYS yX9_hasEnded cX9_hasEnded 1 (some .boolean) 1 := ⟨tw_751, tw_750, tw_6, by decide +kernel⟩
theorem yk_X9_readLine : eYS yX9_readLine cX9_readLine 2 (some .boolean) 2 := ⟨tw_706, tw_705, tw_6, by decide +kernel⟩
theorem yk_X6_clear : eYV yX6_clear cX6_clear 1 none 0 := ⟨tw_71, tw_69, tw_70, tw_3, by decide +kernel⟩
theorem yk_X8_digitComes : eYV yX8_digitComes cX8_digitComes 1 (some .boolean) 0 := ⟨tw_859, tw_857, tw_858, tw_2, by decide +kernel⟩
theorem yk_X9_readColours : eYS yX9_readColours cX9_readColours 5 (some .int) 2 := ⟨tw_855, tw_854, tw_6, by decide +kernel⟩
theorem yk_X10_put : eYS yX10_put cX10_put 3 none 3 := ⟨tw_840, tw_839, tw_5, by decide +kernel⟩
theorem yk_X10_give : eYV yX10_give cX10_give 5 none 4 := ⟨tw_837, tw_835, tw_836, tw_5, by decide +kernel⟩
theorem yk_X10_look : eYS yX10_look cX10_look 2 (some .int) 2 := ⟨tw_604, tw_603, tw_5, by decide +kernel⟩
theorem yk_X10_depth : eYV yX10_depth cX10_depth 2 (some .int) 1 := ⟨tw_601, tw_599, tw_600, tw_5, by decide +kernel⟩
theorem yk_X10_hasShare : eYV yX10_hasShare cX10_hasShare 2 (some .boolean) 1 := ⟨tw_597, tw_595, tw_596, tw_5, by decide +kernel⟩
theorem yk_X8_hasRoom : eYV yX8_hasRoom cX8_hasRoom 1 (some .boolean) 0 := ⟨tw_512, tw_510, tw_511, tw_2, by decide +kernel⟩
theorem yk_X8_append : eYV yX8_append cX8_append 3 none 1 := ⟨tw_516, tw_514, tw_515, tw_2, by decide +kernel⟩
theorem yk_X8_begin : eYV yX8_begin cX8_begin 1 none 0 := ⟨tw_616, tw_614, tw_615, tw_2, by decide +kernel⟩
theorem yk_X9_readKind : eYV yX9_readKind cX9_readKind 4 (some .boolean) 2 := ⟨tw_620, tw_618, tw_619, tw_6, by decide +kernel⟩
theorem yk_X8_finish : eYV yX8_finish cX8_finish 2 none 1 := ⟨tw_755, tw_753, tw_754, tw_2, by decide +kernel⟩
theorem yk_X6_copyFrom : eYV yX6_copyFrom cX6_copyFrom 2 none 1 := ⟨tw_568, tw_566, tw_567, tw_3, by decide +kernel⟩
theorem yk_X6_formPatterns : eYV yX6_formPatterns cX6_formPatterns 3 none 1 := ⟨tw_828, tw_826, tw_827, tw_3, by decide +kernel⟩
theorem yk_X3_fill : eYV yX3_fill cX3_fill 9 none 3 := ⟨tw_319, tw_317, tw_318, tw_4, by decide +kernel⟩
theorem yk_X10_clear : eYV yX10_clear cX10_clear 2 none 0 := ⟨tw_833, tw_831, tw_832, tw_5, by decide +kernel⟩
theorem yk_X9_readNet : eYV yX9_readNet cX9_readNet 5 (some .boolean) 2 := ⟨tw_851, tw_849, tw_850, tw_6, by decide +kernel⟩
theorem yk_X3_numberOf : eYV yX3_numberOf cX3_numberOf 4 (some .int) 2 := ⟨tw_866, tw_864, tw_865, tw_4, by decide +kernel⟩
theorem yk_X11_needLevel : eYV yX11_needLevel cX11_needLevel 2 none 1 := ⟨tw_882, tw_881, tws_17, tw_1, by decide +kernel⟩
theorem yk_X11_needNet : eYV yX11_needNet cX11_needNet 3 (some .int) 2 := ⟨tw_910, tw_909, tws_18, tw_1, by decide +kernel⟩
theorem yk_X2_symmetriesOf : eYV yX2_symmetriesOf cX2_symmetriesOf 3 (some .int) 2 := ⟨tw_916, tw_914, tw_915, tw_8, by decide +kernel⟩
theorem yk_X2_unlikeNodes : eYV yX2_unlikeNodes cX2_unlikeNodes 5 (some .int) 2 := ⟨tw_920, tw_918, tw_919, tw_8, by decide +kernel⟩
theorem yk_X2_lastNodes : eYV yX2_lastNodes cX2_lastNodes 3 (some .int) 2 := ⟨tw_939, tw_937, tw_938, tw_8, by decide +kernel⟩
theorem yk_X6_endsKept : eYV yX6_endsKept cX6_endsKept 5 (some .boolean) 3 := ⟨tw_535, tw_533, tw_534, tw_3, by decide +kernel⟩
theorem yk_X11_needNode : eYV yX11_needNode cX11_needNode 3 none 2 := ⟨tw_986, tw_985, tws_22, tw_1, by decide +kernel⟩
theorem yk_X2_leastLike : eYV yX2_leastLike cX2_leastLike 4 (some .int) 3 := ⟨tw_999, tw_997, tw_998, tw_8, by decide +kernel⟩
theorem yk_X0_grow : eYS yX0_grow cX0_grow 6 (some .int) 4 := ⟨tw_1040, tw_1039, tw_13, by decide +kernel⟩
theorem yk_X11_needGrown : eYV yX11_needGrown cX11_needGrown 6 (some .int) 4 := ⟨tw_1019, tw_1018, tws_23, tw_1, by decide +kernel⟩
theorem yk_X11_numberWithout : eYV yX11_numberWithout cX11_numberWithout 5 (some .int) 3 := ⟨tw_1059, tw_1058, tws_24, tw_1, by decide +kernel⟩
theorem yk_X4_fewestTurns : eYV yX4_fewestTurns cX4_fewestTurns 4 (some .int) 3 := ⟨tw_1103, tw_1101, tw_1102, tw_10, by decide +kernel⟩
theorem yk_X4_mostAlike : eYV yX4_mostAlike cX4_mostAlike 5 (some .int) 4 := ⟨tw_1130, tw_1128, tw_1129, tw_10, by decide +kernel⟩
theorem yk_X2_unlikeEdges : eYV yX2_unlikeEdges cX2_unlikeEdges 3 (some .int) 2 := ⟨tw_1155, tw_1153, tw_1154, tw_8, by decide +kernel⟩
theorem yk_X11_withSorted : eYS yX11_withSorted cX11_withSorted 11 (some .long) 2 := ⟨tw_1171, tw_1170, tw_1, by decide +kernel⟩
theorem yk_X11_wholeDeck : eYV yX11_wholeDeck cX11_wholeDeck 6 (some .long) 2 := ⟨tw_1168, tw_1167, tws_30, tw_1, by decide +kernel⟩
theorem yk_X1_unlikeNets : eYV yX1_unlikeNets cX1_unlikeNets 4 (some .long) 3 := ⟨tw_1201, tw_1199, tw_1200, tw_11, by decide +kernel⟩
theorem yk_X11_needTold : eYV yX11_needTold cX11_needTold 1 none 0 := ⟨tw_1246, tw_1245, tws_37, tw_1, by decide +kernel⟩
theorem yk_X2_nodeAt : eYS yX2_nodeAt cX2_nodeAt 3 (some .int) 2 := ⟨tw_1258, tw_1257, tw_8, by decide +kernel⟩
theorem yk_X11_needShare : eYV yX11_needShare cX11_needShare 4 none 3 := ⟨tw_1269, tw_1268, tws_38, tw_1, by decide +kernel⟩
theorem yk_X3_shareSize : eYV yX3_shareSize cX3_shareSize 7 (some .int) 4 := ⟨tw_1274, tw_1272, tw_1273, tw_4, by decide +kernel⟩
theorem yk_X10_parts : eYV yX10_parts cX10_parts 2 (some .int) 1 := ⟨tw_1297, tw_1295, tw_1296, tw_5, by decide +kernel⟩
theorem yk_X10_part : eYV yX10_part cX10_part 2 (some .int) 1 := ⟨tw_1301, tw_1299, tw_1300, tw_5, by decide +kernel⟩
theorem yk_X11_needWalker : eYV yX11_needWalker cX11_needWalker 2 none 1 := ⟨tw_1286, tw_1285, tws_39, tw_1, by decide +kernel⟩
theorem yk_X11_shareOf : eYV yX11_shareOf cX11_shareOf 2 (some .int) 1 := ⟨tw_1292, tw_1291, tws_40, tw_1, by decide +kernel⟩
theorem yk_X10_listed : eYV yX10_listed cX10_listed 2 (some .int) 1 := ⟨tw_1318, tw_1316, tw_1317, tw_5, by decide +kernel⟩
theorem yk_X3_shareNumber : eYV yX3_shareNumber cX3_shareNumber 9 (some .int) 5 := ⟨tw_1330, tw_1328, tw_1329, tw_4, by decide +kernel⟩
theorem yk_X11_needShareOf : eYV yX11_needShareOf cX11_needShareOf 2 none 1 := ⟨tw_1312, tw_1311, tws_41, tw_1, by decide +kernel⟩
theorem yk_X10_setListed : eYV yX10_setListed cX10_setListed 3 none 2 := ⟨tw_1322, tw_1320, tw_1321, tw_5, by decide +kernel⟩
theorem yk_X11_listedLast : eYV yX11_listedLast cX11_listedLast 4 (some .int) 1 := ⟨tw_1326, tw_1325, tws_42, tw_1, by decide +kernel⟩
theorem yk_X5_writeNet : eYV yX5_writeNet cX5_writeNet 4 none 2 := ⟨tw_1357, tw_1355, tw_1356, tw_7, by decide +kernel⟩
theorem yk_X5_at : eYV yX5_at cX5_at 2 (some .int) 1 := ⟨tw_560, tw_558, tw_559, tw_7, by decide +kernel⟩
theorem yk_X3_copyFrom : eYV yX3_copyFrom cX3_copyFrom 2 none 1 := ⟨tw_575, tw_573, tw_574, tw_4, by decide +kernel⟩
theorem yk_X10_copyFrom : eYV yX10_copyFrom cX10_copyFrom 2 none 1 := ⟨tw_580, tw_578, tw_579, tw_5, by decide +kernel⟩
theorem yk_X10_withShare : eYV yX10_withShare cX10_withShare 3 (some .int) 0 := ⟨tw_593, tw_591, tw_592, tw_5, by decide +kernel⟩
theorem yk_X12_copies : eYS yX12_copies cX12_copies 3 none 2 := ⟨tw_1599, tw_1598, tw_15, by decide +kernel⟩
theorem yk_X12_lengthOf : eYS yX12_lengthOf cX12_lengthOf 1 (some .int) 1 := ⟨tw_1418, tw_1417, tw_15, by decide +kernel⟩
theorem yk_X12_codesOf : eYS yX12_codesOf cX12_codesOf 2 (some .int) 2 := ⟨tw_1415, tw_1414, tw_15, by decide +kernel⟩
theorem yk_X12_holds : eYS yX12_holds cX12_holds 2 (some .boolean) 2 := ⟨tw_1432, tw_1431, tw_15, by decide +kernel⟩
theorem yk_X12_bits : eYS yX12_bits cX12_bits 3 (some .int) 1 := ⟨tw_1466, tw_1465, tw_15, by decide +kernel⟩
theorem yk_X12_hasBarred : eYV yX12_hasBarred cX12_hasBarred 9 (some .boolean) 5 := ⟨tw_1484, tw_1483, tws_63, tw_15, by decide +kernel⟩
theorem yk_X12_isBarredBy : eYV yX12_isBarredBy cX12_isBarredBy 9 (some .boolean) 4 := ⟨tw_1488, tw_1487, tws_64, tw_15, by decide +kernel⟩
theorem yk_X12_comesBack : eYV yX12_comesBack cX12_comesBack 7 (some .boolean) 4 := ⟨tw_1476, tw_1475, tws_61, tw_15, by decide +kernel⟩
theorem yk_X12_hasCircle : eYV yX12_hasCircle cX12_hasCircle 4 (some .boolean) 1 := ⟨tw_1472, tw_1471, tws_60, tw_15, by decide +kernel⟩
theorem yk_X12_areUnlike : eYV yX12_areUnlike cX12_areUnlike 4 (some .boolean) 0 := ⟨tw_1480, tw_1479, tws_62, tw_15, by decide +kernel⟩
theorem yk_X12_degree : eYV yX12_degree cX12_degree 4 (some .int) 1 := ⟨tw_1463, tw_1462, tws_59, tw_15, by decide +kernel⟩
theorem yk_X12_isDarkKind : eYV yX12_isDarkKind cX12_isDarkKind 1 (some .boolean) 0 := ⟨tw_1408, tw_1407, tws_49, tw_15, by decide +kernel⟩
theorem yk_X12_swaps : eYV yX12_swaps cX12_swaps 4 none 2 := ⟨tw_1455, tw_1454, tws_57, tw_15, by decide +kernel⟩
theorem yk_X12_ties : eYV yX12_ties cX12_ties 3 none 2 := ⟨tw_1436, tw_1435, tws_53, tw_15, by decide +kernel⟩
theorem yk_X12_codeNow : eYV yX12_codeNow cX12_codeNow 4 (some .int) 0 := ⟨tw_1444, tw_1443, tws_55, tw_15, by decide +kernel⟩
theorem yk_X12_shorten : eYS yX12_shorten cX12_shorten 7 (some .int) 3 := ⟨tw_1447, tw_1446, tw_15, by decide +kernel⟩
theorem yk_X12_nextOrder : eYV yX12_nextOrder cX12_nextOrder 5 (some .boolean) 0 := ⟨tw_1451, tw_1450, tws_56, tw_15, by decide +kernel⟩
theorem yk_X12_takesCode : eYV yX12_takesCode cX12_takesCode 6 none 2 := ⟨tw_1429, tw_1428, tws_52, tw_15, by decide +kernel⟩
theorem yk_X12_beginsOrders : eYV yX12_beginsOrders cX12_beginsOrders 2 none 0 := ⟨tw_1440, tw_1439, tws_54, tw_15, by decide +kernel⟩
theorem yk_X12_spread : eYS yX12_spread cX12_spread 7 (some .int) 3 := ⟨tw_1421, tw_1420, tw_15, by decide +kernel⟩
theorem yk_X12_marksLike : eYV yX12_marksLike cX12_marksLike 4 none 3 := ⟨tw_1425, tw_1424, tws_51, tw_15, by decide +kernel⟩
theorem yk_X12_keepsRules : eYV yX12_keepsRules cX12_keepsRules 3 (some .boolean) 0 := ⟨tw_1459, tw_1458, tws_58, tw_15, by decide +kernel⟩
theorem yk_X12_beginsClasses : eYV yX12_beginsClasses cX12_beginsClasses 4 none 2 := ⟨tw_1412, tw_1411, tws_50, tw_15, by decide +kernel⟩
theorem yk_X12_laysLevels : eYV yX12_laysLevels cX12_laysLevels 4 none 0 := ⟨tw_1404, tw_1403, tws_48, tw_15, by decide +kernel⟩
theorem yk_X12_laysForm : eYV yX12_laysForm cX12_laysForm 3 none 0 := ⟨tw_1719, tw_1718, tws_84, tw_15, by decide +kernel⟩
theorem yk_X12_partOf : eYV yX12_partOf cX12_partOf 5 (some .int) 1 := ⟨tw_1795, tw_1794, tws_98, tw_15, by decide +kernel⟩
theorem yk_X12_edgesNow : eYV yX12_edgesNow cX12_edgesNow 3 (some .int) 0 := ⟨tw_1724, tw_1723, tws_85, tw_15, by decide +kernel⟩
theorem yk_X12_in : eYS yX12_in cX12_in 3 (some .boolean) 3 := ⟨tw_1735, tw_1734, tw_15, by decide +kernel⟩
theorem yk_X12_partsNow : eYV yX12_partsNow cX12_partsNow 3 (some .int) 0 := ⟨tw_1791, tw_1790, tws_97, tw_15, by decide +kernel⟩
theorem yk_X12_takes : eYV yX12_takes cX12_takes 3 none 2 := ⟨tw_1763, tw_1762, tws_90, tw_15, by decide +kernel⟩
theorem yk_X12_drops : eYV yX12_drops cX12_drops 4 none 1 := ⟨tw_1779, tw_1778, tws_94, tw_15, by decide +kernel⟩
theorem yk_X12_formNow : eYV yX12_formNow cX12_formNow 1 (some .int) 0 := ⟨tw_1783, tw_1782, tws_95, tw_15, by decide +kernel⟩
theorem yk_X12_numberOf : eYV yX12_numberOf cX12_numberOf 4 (some .int) 2 := ⟨tw_1728, tw_1727, tws_86, tw_15, by decide +kernel⟩
theorem yk_X12_without : eYV yX12_without cX12_without 4 (some .int) 3 := ⟨tw_1775, tw_1774, tws_93, tw_15, by decide +kernel⟩
theorem yk_X12_isAt : eYV yX12_isAt cX12_isAt 3 (some .boolean) 2 := ⟨tw_1644, tw_1643, tws_70, tw_15, by decide +kernel⟩
theorem yk_X12_blanks : eYV yX12_blanks cX12_blanks 1 none 0 := ⟨tw_1640, tw_1639, tws_69, tw_15, by decide +kernel⟩
theorem yk_X12_letters : eYV yX12_letters cX12_letters 1 none 0 := ⟨tw_1636, tw_1635, tws_68, tw_15, by decide +kernel⟩
theorem yk_X12_isWord : eYV yX12_isWord cX12_isWord 4 (some .boolean) 1 := ⟨tw_1648, tw_1647, tws_71, tw_15, by decide +kernel⟩
theorem yk_X12_passesSign : eYV yX12_passesSign cX12_passesSign 2 (some .boolean) 1 := ⟨tw_1663, tw_1662, tws_74, tw_15, by decide +kernel⟩
theorem yk_X12_number : eYV yX12_number cX12_number 4 (some .int) 2 := ⟨tw_1658, tw_1657, tws_73, tw_15, by decide +kernel⟩
theorem yk_X12_readTo : eYV yX12_readTo cX12_readTo 5 (some .boolean) 3 := ⟨tw_1654, tw_1653, tws_72, tw_15, by decide +kernel⟩
theorem yk_X12_passesWord : eYV yX12_passesWord cX12_passesWord 2 (some .boolean) 1 := ⟨tw_1632, tw_1631, tws_67, tw_15, by decide +kernel⟩
theorem yk_X12_readOnce : eYV yX12_readOnce cX12_readOnce 2 (some .boolean) 1 := ⟨tw_1677, tw_1676, tws_77, tw_15, by decide +kernel⟩
theorem yk_X12_readPairs : eYV yX12_readPairs cX12_readPairs 5 (some .boolean) 1 := ⟨tw_1693, tw_1692, tws_79, tw_15, by decide +kernel⟩
theorem yk_X12_readWithout : eYV yX12_readWithout cX12_readWithout 2 (some .boolean) 0 := ⟨tw_1689, tw_1688, tws_78, tw_15, by decide +kernel⟩
theorem yk_X12_readEnd : eYV yX12_readEnd cX12_readEnd 1 (some .boolean) 0 := ⟨tw_1672, tw_1671, tws_76, tw_15, by decide +kernel⟩
theorem yk_X12_readLine : eYV yX12_readLine cX12_readLine 2 (some .boolean) 0 := ⟨tw_1667, tw_1666, tws_75, tw_15, by decide +kernel⟩
theorem yk_X12_throwsIf : eYV yX12_throwsIf cX12_throwsIf 3 (some .boolean) 2 := ⟨tw_1698, tw_1697, tws_80, tw_15, by decide +kernel⟩
theorem yk_X12_beginsReading : eYV yX12_beginsReading cX12_beginsReading 1 none 0 := ⟨tw_1623, tw_1622, tws_65, tw_15, by decide +kernel⟩
theorem yk_X12_isFresh : eYS yX12_isFresh cX12_isFresh 2 none 1 := ⟨tw_1400, tw_1399, tw_15, by decide +kernel⟩
theorem yk_X12_readKind : eYV yX12_readKind cX12_readKind 2 (some .boolean) 0 := ⟨tw_1627, tw_1626, tws_66, tw_15, by decide +kernel⟩
theorem yk_X12_isFigure : eYV yX12_isFigure cX12_isFigure 1 (some .boolean) 0 := ⟨tw_1715, tw_1714, tws_83, tw_15, by decide +kernel⟩
theorem yk_X12_readDarks : eYV yX12_readDarks cX12_readDarks 3 (some .boolean) 1 := ⟨tw_1711, tw_1710, tws_82, tw_15, by decide +kernel⟩
theorem yk_X12_readNet : eYV yX12_readNet cX12_readNet 4 (some .boolean) 0 := ⟨tw_1706, tw_1705, tws_81, tw_15, by decide +kernel⟩
theorem yk_X12_noLevel : eYV yX12_noLevel cX12_noLevel 2 (some .boolean) 1 := ⟨tw_1747, tw_1746, tws_87, tw_15, by decide +kernel⟩
theorem yk_X12_noNet : eYV yX12_noNet cX12_noNet 3 (some .boolean) 2 := ⟨tw_1755, tw_1754, tws_88, tw_15, by decide +kernel⟩
theorem yk_X12_likesOf : eYV yX12_likesOf cX12_likesOf 4 (some .int) 1 := ⟨tw_1767, tw_1766, tws_91, tw_15, by decide +kernel⟩
theorem yk_X12_parentOf : eYV yX12_parentOf cX12_parentOf 3 (some .int) 2 := ⟨tw_1771, tw_1770, tws_92, tw_15, by decide +kernel⟩
theorem yk_X12_keepsEnds : eYV yX12_keepsEnds cX12_keepsEnds 1 (some .boolean) 0 := ⟨tw_1807, tw_1806, tws_101, tw_15, by decide +kernel⟩
theorem yk_X12_widest : eYV yX12_widest cX12_widest 7 (some .int) 0 := ⟨tw_1799, tw_1798, tws_99, tw_15, by decide +kernel⟩
theorem yk_X12_shortestCircle : eYV yX12_shortestCircle cX12_shortestCircle 2 (some .int) 0 := ⟨tw_1803, tw_1802, tws_100, tw_15, by decide +kernel⟩
theorem yk_X12_children : eYV yX12_children cX12_children 5 (some .int) 2 := ⟨tw_1787, tw_1786, tws_96, tw_15, by decide +kernel⟩
theorem yk_X12_orbits : eYV yX12_orbits cX12_orbits 5 (some .int) 2 := ⟨tw_1759, tw_1758, tws_89, tw_15, by decide +kernel⟩
theorem yk_X12_noNode : eYV yX12_noNode cX12_noNode 4 (some .boolean) 3 := ⟨tw_1815, tw_1814, tws_102, tw_15, by decide +kernel⟩
theorem yk_X12_childOf : eYV yX12_childOf cX12_childOf 6 (some .int) 3 := ⟨tw_1827, tw_1826, tws_103, tw_15, by decide +kernel⟩
theorem yk_X12_noGrown : eYV yX12_noGrown cX12_noGrown 6 (some .boolean) 4 := ⟨tw_1835, tw_1834, tws_104, tw_15, by decide +kernel⟩
theorem yk_X12_partedBy : eYV yX12_partedBy cX12_partedBy 4 (some .int) 0 := ⟨tw_1871, tw_1870, tws_106, tw_15, by decide +kernel⟩
theorem yk_X12_holdsNet : eYV yX12_holdsNet cX12_holdsNet 2 none 0 := ⟨tw_1867, tw_1866, tws_105, tw_15, by decide +kernel⟩
theorem yk_X12_formOf : eYV yX12_formOf cX12_formOf 5 (some .int) 3 := ⟨tw_1883, tw_1882, tws_108, tw_15, by decide +kernel⟩
theorem yk_X12_haveCommon : eYV yX12_haveCommon cX12_haveCommon 9 (some .boolean) 5 := ⟨tw_1879, tw_1878, tws_107, tw_15, by decide +kernel⟩
theorem yk_X12_isLeastEdge : eYV yX12_isLeastEdge cX12_isLeastEdge 6 (some .boolean) 2 := ⟨tw_1891, tw_1890, tws_109, tw_15, by decide +kernel⟩
theorem yk_X12_laysDeck : eYV yX12_laysDeck cX12_laysDeck 6 none 2 := ⟨tw_1899, tw_1898, tws_110, tw_15, by decide +kernel⟩
theorem yk_X12_isIn : eYV yX12_isIn cX12_isIn 7 (some .boolean) 4 := ⟨tw_1927, tw_1926, tws_113, tw_15, by decide +kernel⟩
theorem yk_X12_shared : eYV yX12_shared cX12_shared 7 (some .int) 4 := ⟨tw_1923, tw_1922, tws_112, tw_15, by decide +kernel⟩
theorem yk_X12_isShare : eYV yX12_isShare cX12_isShare 4 (some .boolean) 3 := ⟨tw_1919, tw_1918, tws_111, tw_15, by decide +kernel⟩
theorem yk_X12_walkerAt : eYS yX12_walkerAt cX12_walkerAt 2 (some .int) 2 := ⟨tw_1934, tw_1933, tw_15, by decide +kernel⟩
theorem yk_X12_ofWalker : eYV yX12_ofWalker cX12_ofWalker 3 (some .int) 2 := ⟨tw_1942, tw_1941, tws_115, tw_15, by decide +kernel⟩
theorem yk_X12_walked : eYV yX12_walked cX12_walked 3 (some .int) 2 := ⟨tw_1938, tw_1937, tws_114, tw_15, by decide +kernel⟩
theorem yk_X12_hasNone : eYV yX12_hasNone cX12_hasNone 2 (some .boolean) 1 := ⟨tw_1950, tw_1949, tws_116, tw_15, by decide +kernel⟩
theorem yk_X12_writes : eYV yX12_writes cX12_writes 3 none 1 := ⟨tw_1967, tw_1966, tws_117, tw_15, by decide +kernel⟩
theorem yk_X12_writesDigit : eYV yX12_writesDigit cX12_writesDigit 2 none 1 := ⟨tw_1971, tw_1970, tws_118, tw_15, by decide +kernel⟩
theorem yk_X12_walkers : eYV yX12_walkers cX12_walkers 3 (some .int) 0 := ⟨tw_1987, tw_1986, tws_119, tw_15, by decide +kernel⟩
theorem yk_X11_kind : eYV yX11_kind cX11_kind 2 (some .int) 0 := ⟨tw_612, tw_610, tw_611, tw_1, by decide +kernel⟩
theorem yk_X11_told : eYV yX11_told cX11_told 2 (some .int) 0 := ⟨tw_847, tw_845, tw_846, tw_1, by decide +kernel⟩
theorem yk_X11_level : eYV yX11_level cX11_level 2 (some .int) 1 := ⟨tw_878, tw_876, tw_877, tw_1, by decide +kernel⟩
theorem yk_X11_joined : eYV yX11_joined cX11_joined 6 (some .boolean) 4 := ⟨tw_982, tw_980, tw_981, tw_1, by decide +kernel⟩
theorem yk_X11_orbit : eYV yX11_orbit cX11_orbit 5 (some .int) 3 := ⟨tw_995, tw_993, tw_994, tw_1, by decide +kernel⟩
theorem yk_X11_child : eYV yX11_child cX11_child 4 (some .int) 3 := ⟨tw_1006, tw_1004, tw_1005, tw_1, by decide +kernel⟩
theorem yk_X11_grown : eYV yX11_grown cX11_grown 6 (some .int) 4 := ⟨tw_1015, tw_1013, tw_1014, tw_1, by decide +kernel⟩
theorem yk_X11_taken : eYV yX11_taken cX11_taken 7 (some .boolean) 4 := ⟨tw_1047, tw_1045, tw_1046, tw_1, by decide +kernel⟩
theorem yk_X11_deck : eYV yX11_deck cX11_deck 5 (some .int) 3 := ⟨tw_1054, tw_1052, tw_1053, tw_1, by decide +kernel⟩
theorem yk_X11_other : eYV yX11_other cX11_other 4 (some .int) 2 := ⟨tw_1067, tw_1065, tw_1066, tw_1, by decide +kernel⟩
theorem yk_X11_within : eYV yX11_within cX11_within 7 (some .int) 4 := ⟨tw_1075, tw_1073, tw_1074, tw_1, by decide +kernel⟩
theorem yk_X11_rooted : eYV yX11_rooted cX11_rooted 4 (some .int) 1 := ⟨tw_1083, tw_1081, tw_1082, tw_1, by decide +kernel⟩
theorem yk_X11_turned : eYV yX11_turned cX11_turned 6 (some .int) 4 := ⟨tw_1090, tw_1088, tw_1089, tw_1, by decide +kernel⟩
theorem yk_X11_apart : eYV yX11_apart cX11_apart 6 (some .int) 3 := ⟨tw_1099, tw_1097, tw_1098, tw_1, by decide +kernel⟩
theorem yk_X11_common : eYV yX11_common cX11_common 7 (some .int) 4 := ⟨tw_1126, tw_1124, tw_1125, tw_1, by decide +kernel⟩
theorem yk_X11_lines : eYV yX11_lines cX11_lines 3 (some .int) 2 := ⟨tw_1151, tw_1149, tw_1150, tw_1, by decide +kernel⟩
theorem yk_X11_twins : eYV yX11_twins cX11_twins 8 (some .int) 1 := ⟨tw_1162, tw_1160, tw_1161, tw_1, by decide +kernel⟩
theorem yk_X11_named : eYV yX11_named cX11_named 8 (some .long) 1 := ⟨tw_1185, tw_1183, tw_1184, tw_1, by decide +kernel⟩
theorem yk_X11_cycles : eYV yX11_cycles cX11_cycles 3 (some .long) 2 := ⟨tw_1195, tw_1193, tw_1194, tw_1, by decide +kernel⟩
theorem yk_X11_order : eYV yX11_order cX11_order 2 (some .int) 1 := ⟨tw_1254, tw_1252, tw_1253, tw_1, by decide +kernel⟩
theorem yk_X11_share : eYV yX11_share cX11_share 4 (some .int) 3 := ⟨tw_1265, tw_1263, tw_1264, tw_1, by decide +kernel⟩
theorem yk_X11_start : eYV yX11_start cX11_start 5 (some .int) 4 := ⟨tw_1282, tw_1280, tw_1281, tw_1, by decide +kernel⟩
theorem yk_X11_next : eYV yX11_next cX11_next 3 (some .int) 1 := ⟨tw_1308, tw_1306, tw_1307, tw_1, by decide +kernel⟩
theorem yk_X11_resume : eYV yX11_resume cX11_resume 4 (some .int) 2 := ⟨tw_1345, tw_1343, tw_1344, tw_1, by decide +kernel⟩
theorem yk_X11_text : eYV yX11_text cX11_text 3 (some .int) 2 := ⟨tw_1353, tw_1351, tw_1352, tw_1, by decide +kernel⟩
