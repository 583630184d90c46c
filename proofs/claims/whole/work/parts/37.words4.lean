/-! the law's words -/
theorem tw_0 : (Jvm.Cond.initialized "OrderlyNetsLaw") ∈ lw_good := lw_g1 0 rfl rfl
theorem tw_505 : (Jvm.Cond.methodLink "OrderlyNetsLaw" (115 : Nat) ({ cls := "OrderlyNets", name := "feed", desc := "(IIIII)I" } : Jvm.MethodName)) ∈ lw_good := lw_g3 25 rfl rfl
theorem tw_506 : (Jvm.Cond.instanceMethod ({ cls := "OrderlyNets", name := "feed", desc := "(IIIII)I" } : Jvm.MethodName)) ∈ lw_good := lw_g3 26 rfl rfl
theorem tw_507 : (Jvm.Cond.selects "OrderlyNets" ({ cls := "OrderlyNets", name := "feed", desc := "(IIIII)I" } : Jvm.MethodName) ({ cls := "OrderlyNets", name := "feed", desc := "(IIIII)I" } : Jvm.MethodName)) ∈ lw_good := lw_g3 27 rfl rfl
theorem tw_508 : (Jvm.Cond.code ({ cls := "OrderlyNets", name := "feed", desc := "(IIIII)I" } : Jvm.MethodName) prog_1_method_2_code (6 : Nat) (Option.some Jvm.ClassFile.FieldType.int)) ∈ lw_good := lw_g3 28 rfl rfl
theorem tw_517 : (Jvm.Cond.methodLink "OrderlyNetsLaw" (120 : Nat) ({ cls := "OrderlyNets", name := "end", desc := "(I)Z" } : Jvm.MethodName)) ∈ lw_good := lw_g3 37 rfl rfl
theorem tw_518 : (Jvm.Cond.instanceMethod ({ cls := "OrderlyNets", name := "end", desc := "(I)Z" } : Jvm.MethodName)) ∈ lw_good := lw_g3 38 rfl rfl
theorem tw_519 : (Jvm.Cond.selects "OrderlyNets" ({ cls := "OrderlyNets", name := "end", desc := "(I)Z" } : Jvm.MethodName) ({ cls := "OrderlyNets", name := "end", desc := "(I)Z" } : Jvm.MethodName)) ∈ lw_good := lw_g3 39 rfl rfl
theorem tw_520 : (Jvm.Cond.code ({ cls := "OrderlyNets", name := "end", desc := "(I)Z" } : Jvm.MethodName) prog_1_method_3_code (2 : Nat) (Option.some Jvm.ClassFile.FieldType.boolean)) ∈ lw_good := lw_g3 40 rfl rfl
theorem tw_521 : (Jvm.Cond.methodLink "OrderlyNetsLaw" (137 : Nat) ({ cls := "OrderlyNets", name := "fault", desc := "()I" } : Jvm.MethodName)) ∈ lw_good := lw_g3 41 rfl rfl
theorem tw_522 : (Jvm.Cond.instanceMethod ({ cls := "OrderlyNets", name := "fault", desc := "()I" } : Jvm.MethodName)) ∈ lw_good := lw_g3 42 rfl rfl
theorem tw_523 : (Jvm.Cond.selects "OrderlyNets" ({ cls := "OrderlyNets", name := "fault", desc := "()I" } : Jvm.MethodName) ({ cls := "OrderlyNets", name := "fault", desc := "()I" } : Jvm.MethodName)) ∈ lw_good := lw_g3 43 rfl rfl
theorem tw_524 : (Jvm.Cond.code ({ cls := "OrderlyNets", name := "fault", desc := "()I" } : Jvm.MethodName) prog_1_method_6_code (1 : Nat) (Option.some Jvm.ClassFile.FieldType.int)) ∈ lw_good := lw_g3 44 rfl rfl
theorem tw_525 : (Jvm.Cond.methodLink "OrderlyNetsLaw" (200 : Nat) ({ cls := "OrderlyNets", name := "full", desc := "(I)I" } : Jvm.MethodName)) ∈ lw_good := lw_g3 45 rfl rfl
theorem tw_526 : (Jvm.Cond.instanceMethod ({ cls := "OrderlyNets", name := "full", desc := "(I)I" } : Jvm.MethodName)) ∈ lw_good := lw_g3 46 rfl rfl
theorem tw_527 : (Jvm.Cond.selects "OrderlyNets" ({ cls := "OrderlyNets", name := "full", desc := "(I)I" } : Jvm.MethodName) ({ cls := "OrderlyNets", name := "full", desc := "(I)I" } : Jvm.MethodName)) ∈ lw_good := lw_g3 47 rfl rfl
theorem tw_528 : (Jvm.Cond.code ({ cls := "OrderlyNets", name := "full", desc := "(I)I" } : Jvm.MethodName) prog_1_method_25_code (5 : Nat) (Option.some Jvm.ClassFile.FieldType.int)) ∈ lw_good := lw_g3 48 rfl rfl
theorem tw_553 : (Jvm.Cond.methodLink "OrderlyNetsLaw" (228 : Nat) ({ cls := "OrderlyNets", name := "octet", desc := "(I)I" } : Jvm.MethodName)) ∈ lw_good := lw_g3 73 rfl rfl
theorem tw_554 : (Jvm.Cond.instanceMethod ({ cls := "OrderlyNets", name := "octet", desc := "(I)I" } : Jvm.MethodName)) ∈ lw_good := lw_g3 74 rfl rfl
theorem tw_555 : (Jvm.Cond.selects "OrderlyNets" ({ cls := "OrderlyNets", name := "octet", desc := "(I)I" } : Jvm.MethodName) ({ cls := "OrderlyNets", name := "octet", desc := "(I)I" } : Jvm.MethodName)) ∈ lw_good := lw_g3 75 rfl rfl
theorem tw_556 : (Jvm.Cond.code ({ cls := "OrderlyNets", name := "octet", desc := "(I)I" } : Jvm.MethodName) prog_1_method_34_code (2 : Nat) (Option.some Jvm.ClassFile.FieldType.int)) ∈ lw_good := lw_g3 76 rfl rfl
theorem tw_561 : (Jvm.Cond.methodLink "OrderlyNetsLaw" (232 : Nat) ({ cls := "OrderlyNets", name := "image", desc := "()V" } : Jvm.MethodName)) ∈ lw_good := lw_g3 81 rfl rfl
theorem tw_562 : (Jvm.Cond.instanceMethod ({ cls := "OrderlyNets", name := "image", desc := "()V" } : Jvm.MethodName)) ∈ lw_good := lw_g3 82 rfl rfl
theorem tw_563 : (Jvm.Cond.selects "OrderlyNets" ({ cls := "OrderlyNets", name := "image", desc := "()V" } : Jvm.MethodName) ({ cls := "OrderlyNets", name := "image", desc := "()V" } : Jvm.MethodName)) ∈ lw_good := lw_g3 83 rfl rfl
theorem tw_564 : (Jvm.Cond.code ({ cls := "OrderlyNets", name := "image", desc := "()V" } : Jvm.MethodName) prog_1_method_35_code (1 : Nat) (Option.none : Option Jvm.ClassFile.FieldType)) ∈ lw_good := lw_g3 84 rfl rfl
theorem tw_582 : (Jvm.Cond.methodLink "OrderlyNetsLaw" (236 : Nat) ({ cls := "OrderlyNets", name := "back", desc := "()Z" } : Jvm.MethodName)) ∈ lw_good := lw_g3 102 rfl rfl
theorem tw_583 : (Jvm.Cond.instanceMethod ({ cls := "OrderlyNets", name := "back", desc := "()Z" } : Jvm.MethodName)) ∈ lw_good := lw_g3 103 rfl rfl
theorem tw_584 : (Jvm.Cond.selects "OrderlyNets" ({ cls := "OrderlyNets", name := "back", desc := "()Z" } : Jvm.MethodName) ({ cls := "OrderlyNets", name := "back", desc := "()Z" } : Jvm.MethodName)) ∈ lw_good := lw_g3 104 rfl rfl
theorem tw_585 : (Jvm.Cond.code ({ cls := "OrderlyNets", name := "back", desc := "()Z" } : Jvm.MethodName) prog_1_method_36_code (1 : Nat) (Option.some Jvm.ClassFile.FieldType.boolean)) ∈ lw_good := lw_g3 105 rfl rfl
theorem tw_586 : (Jvm.Cond.methodLink "OrderlyNetsLaw" (241 : Nat) ({ cls := "OrderlyNets", name := "count", desc := "(I)I" } : Jvm.MethodName)) ∈ lw_good := lw_g3 106 rfl rfl
theorem tw_587 : (Jvm.Cond.instanceMethod ({ cls := "OrderlyNets", name := "count", desc := "(I)I" } : Jvm.MethodName)) ∈ lw_good := lw_g3 107 rfl rfl
theorem tw_588 : (Jvm.Cond.selects "OrderlyNets" ({ cls := "OrderlyNets", name := "count", desc := "(I)I" } : Jvm.MethodName) ({ cls := "OrderlyNets", name := "count", desc := "(I)I" } : Jvm.MethodName)) ∈ lw_good := lw_g3 108 rfl rfl
theorem tw_589 : (Jvm.Cond.code ({ cls := "OrderlyNets", name := "count", desc := "(I)I" } : Jvm.MethodName) prog_1_method_37_code (2 : Nat) (Option.some Jvm.ClassFile.FieldType.int)) ∈ lw_good := lw_g3 109 rfl rfl
theorem tw_605 : (Jvm.Cond.methodLink "OrderlyNetsLaw" (125 : Nat) ({ cls := "OrderlyNetsLaw", name := "kind", desc := "(LOrderlyNets;[J)I" } : Jvm.MethodName)) ∈ lw_good := lw_g3 125 rfl rfl
theorem tw_606 : (Jvm.Cond.static ({ cls := "OrderlyNetsLaw", name := "kind", desc := "(LOrderlyNets;[J)I" } : Jvm.MethodName)) ∈ lw_good := lw_g3 126 rfl rfl
theorem tw_607 : (Jvm.Cond.codeWith ({ cls := "OrderlyNetsLaw", name := "kind", desc := "(LOrderlyNets;[J)I" } : Jvm.MethodName) method_3_code (3 : Nat) (Option.some Jvm.ClassFile.FieldType.int) [((0 : Nat), (8 : Nat), (11 : Nat), (13 : Nat))]) ∈ lw_good := lw_g3 127 rfl rfl
theorem tw_841 : (Jvm.Cond.methodLink "OrderlyNetsLaw" (134 : Nat) ({ cls := "OrderlyNetsLaw", name := "told", desc := "(LOrderlyNets;[J)I" } : Jvm.MethodName)) ∈ lw_good := lw_g4 121 rfl rfl
theorem tw_842 : (Jvm.Cond.static ({ cls := "OrderlyNetsLaw", name := "told", desc := "(LOrderlyNets;[J)I" } : Jvm.MethodName)) ∈ lw_good := lw_g4 122 rfl rfl
theorem tw_843 : (Jvm.Cond.codeWith ({ cls := "OrderlyNetsLaw", name := "told", desc := "(LOrderlyNets;[J)I" } : Jvm.MethodName) method_4_code (3 : Nat) (Option.some Jvm.ClassFile.FieldType.int) [((0 : Nat), (8 : Nat), (11 : Nat), (13 : Nat))]) ∈ lw_good := lw_g4 123 rfl rfl
theorem tw_871 : (Jvm.Cond.methodLink "OrderlyNetsLaw" (141 : Nat) ({ cls := "OrderlyNetsLaw", name := "level", desc := "(LOrderlyNets;I[J)I" } : Jvm.MethodName)) ∈ lw_good := lw_g4 151 rfl rfl
theorem tw_872 : (Jvm.Cond.static ({ cls := "OrderlyNetsLaw", name := "level", desc := "(LOrderlyNets;I[J)I" } : Jvm.MethodName)) ∈ lw_good := lw_g4 152 rfl rfl
theorem tw_873 : (Jvm.Cond.codeWith ({ cls := "OrderlyNetsLaw", name := "level", desc := "(LOrderlyNets;I[J)I" } : Jvm.MethodName) method_5_code (4 : Nat) (Option.some Jvm.ClassFile.FieldType.int) [((0 : Nat), (9 : Nat), (12 : Nat), (22 : Nat))]) ∈ lw_good := lw_g4 153 rfl rfl
theorem tw_899 : (Jvm.Cond.methodLink "OrderlyNetsLaw" (145 : Nat) ({ cls := "OrderlyNetsLaw", name := "net", desc := "(LOrderlyNets;III[J)I" } : Jvm.MethodName)) ∈ lw_good := lw_g4 179 rfl rfl
theorem tw_900 : (Jvm.Cond.static ({ cls := "OrderlyNetsLaw", name := "net", desc := "(LOrderlyNets;III[J)I" } : Jvm.MethodName)) ∈ lw_good := lw_g4 180 rfl rfl
theorem tw_901 : (Jvm.Cond.codeWith ({ cls := "OrderlyNetsLaw", name := "net", desc := "(LOrderlyNets;III[J)I" } : Jvm.MethodName) method_6_code (6 : Nat) (Option.some Jvm.ClassFile.FieldType.int) [((0 : Nat), (12 : Nat), (15 : Nat), (22 : Nat)), ((0 : Nat), (12 : Nat), (19 : Nat), (28 : Nat))]) ∈ lw_good := lw_g4 181 rfl rfl
theorem tw_976 : (Jvm.Cond.methodLink "OrderlyNetsLaw" (149 : Nat) ({ cls := "OrderlyNetsLaw", name := "joined", desc := "(LOrderlyNets;IIII[J)I" } : Jvm.MethodName)) ∈ lw_good := lw_g5 16 rfl rfl
theorem tw_977 : (Jvm.Cond.static ({ cls := "OrderlyNetsLaw", name := "joined", desc := "(LOrderlyNets;IIII[J)I" } : Jvm.MethodName)) ∈ lw_good := lw_g5 17 rfl rfl
theorem tw_978 : (Jvm.Cond.codeWith ({ cls := "OrderlyNetsLaw", name := "joined", desc := "(LOrderlyNets;IIII[J)I" } : Jvm.MethodName) method_7_code (7 : Nat) (Option.some Jvm.ClassFile.FieldType.int) [((0 : Nat), (21 : Nat), (24 : Nat), (22 : Nat))]) ∈ lw_good := lw_g5 18 rfl rfl
theorem tw_989 : (Jvm.Cond.methodLink "OrderlyNetsLaw" (153 : Nat) ({ cls := "OrderlyNetsLaw", name := "orbit", desc := "(LOrderlyNets;III[J)I" } : Jvm.MethodName)) ∈ lw_good := lw_g5 29 rfl rfl
theorem tw_990 : (Jvm.Cond.static ({ cls := "OrderlyNetsLaw", name := "orbit", desc := "(LOrderlyNets;III[J)I" } : Jvm.MethodName)) ∈ lw_good := lw_g5 30 rfl rfl
theorem tw_991 : (Jvm.Cond.codeWith ({ cls := "OrderlyNetsLaw", name := "orbit", desc := "(LOrderlyNets;III[J)I" } : Jvm.MethodName) method_8_code (6 : Nat) (Option.some Jvm.ClassFile.FieldType.int) [((0 : Nat), (12 : Nat), (15 : Nat), (22 : Nat))]) ∈ lw_good := lw_g5 31 rfl rfl
theorem tw_1000 : (Jvm.Cond.methodLink "OrderlyNetsLaw" (156 : Nat) ({ cls := "OrderlyNetsLaw", name := "child", desc := "(LOrderlyNets;III[J)I" } : Jvm.MethodName)) ∈ lw_good := lw_g5 40 rfl rfl
theorem tw_1001 : (Jvm.Cond.static ({ cls := "OrderlyNetsLaw", name := "child", desc := "(LOrderlyNets;III[J)I" } : Jvm.MethodName)) ∈ lw_good := lw_g5 41 rfl rfl
theorem tw_1002 : (Jvm.Cond.codeWith ({ cls := "OrderlyNetsLaw", name := "child", desc := "(LOrderlyNets;III[J)I" } : Jvm.MethodName) method_9_code (6 : Nat) (Option.some Jvm.ClassFile.FieldType.int) [((0 : Nat), (12 : Nat), (15 : Nat), (22 : Nat))]) ∈ lw_good := lw_g5 42 rfl rfl
theorem tw_1008 : (Jvm.Cond.methodLink "OrderlyNetsLaw" (159 : Nat) ({ cls := "OrderlyNetsLaw", name := "grown", desc := "(LOrderlyNets;IIIZ[J)I" } : Jvm.MethodName)) ∈ lw_good := lw_g5 48 rfl rfl
theorem tw_1009 : (Jvm.Cond.static ({ cls := "OrderlyNetsLaw", name := "grown", desc := "(LOrderlyNets;IIIZ[J)I" } : Jvm.MethodName)) ∈ lw_good := lw_g5 49 rfl rfl
theorem tw_1010 : (Jvm.Cond.codeWith ({ cls := "OrderlyNetsLaw", name := "grown", desc := "(LOrderlyNets;IIIZ[J)I" } : Jvm.MethodName) method_10_code (7 : Nat) (Option.some Jvm.ClassFile.FieldType.int) [((0 : Nat), (14 : Nat), (17 : Nat), (22 : Nat)), ((0 : Nat), (14 : Nat), (21 : Nat), (13 : Nat)), ((0 : Nat), (14 : Nat), (25 : Nat), (44 : Nat))]) ∈ lw_good := lw_g5 50 rfl rfl
theorem tw_1041 : (Jvm.Cond.methodLink "OrderlyNetsLaw" (163 : Nat) ({ cls := "OrderlyNetsLaw", name := "taken", desc := "(LOrderlyNets;IIIZ[J)I" } : Jvm.MethodName)) ∈ lw_good := lw_g5 81 rfl rfl
theorem tw_1042 : (Jvm.Cond.static ({ cls := "OrderlyNetsLaw", name := "taken", desc := "(LOrderlyNets;IIIZ[J)I" } : Jvm.MethodName)) ∈ lw_good := lw_g5 82 rfl rfl
theorem tw_1043 : (Jvm.Cond.codeWith ({ cls := "OrderlyNetsLaw", name := "taken", desc := "(LOrderlyNets;IIIZ[J)I" } : Jvm.MethodName) method_11_code (7 : Nat) (Option.some Jvm.ClassFile.FieldType.int) [((0 : Nat), (21 : Nat), (24 : Nat), (22 : Nat)), ((0 : Nat), (21 : Nat), (28 : Nat), (13 : Nat)), ((0 : Nat), (21 : Nat), (32 : Nat), (44 : Nat))]) ∈ lw_good := lw_g5 83 rfl rfl
theorem tw_1048 : (Jvm.Cond.methodLink "OrderlyNetsLaw" (166 : Nat) ({ cls := "OrderlyNetsLaw", name := "deck", desc := "(LOrderlyNets;III[J)I" } : Jvm.MethodName)) ∈ lw_good := lw_g5 88 rfl rfl
theorem tw_1049 : (Jvm.Cond.static ({ cls := "OrderlyNetsLaw", name := "deck", desc := "(LOrderlyNets;III[J)I" } : Jvm.MethodName)) ∈ lw_good := lw_g5 89 rfl rfl
theorem tw_1050 : (Jvm.Cond.codeWith ({ cls := "OrderlyNetsLaw", name := "deck", desc := "(LOrderlyNets;III[J)I" } : Jvm.MethodName) method_12_code (6 : Nat) (Option.some Jvm.ClassFile.FieldType.int) [((0 : Nat), (12 : Nat), (15 : Nat), (22 : Nat)), ((0 : Nat), (12 : Nat), (19 : Nat), (44 : Nat))]) ∈ lw_good := lw_g5 90 rfl rfl
theorem tw_1061 : (Jvm.Cond.methodLink "OrderlyNetsLaw" (169 : Nat) ({ cls := "OrderlyNetsLaw", name := "other", desc := "(LOrderlyNets;II[J)I" } : Jvm.MethodName)) ∈ lw_good := lw_g5 101 rfl rfl
theorem tw_1062 : (Jvm.Cond.static ({ cls := "OrderlyNetsLaw", name := "other", desc := "(LOrderlyNets;II[J)I" } : Jvm.MethodName)) ∈ lw_good := lw_g5 102 rfl rfl
theorem tw_1063 : (Jvm.Cond.codeWith ({ cls := "OrderlyNetsLaw", name := "other", desc := "(LOrderlyNets;II[J)I" } : Jvm.MethodName) method_13_code (5 : Nat) (Option.some Jvm.ClassFile.FieldType.int) [((0 : Nat), (10 : Nat), (13 : Nat), (22 : Nat))]) ∈ lw_good := lw_g5 103 rfl rfl
theorem tw_1069 : (Jvm.Cond.methodLink "OrderlyNetsLaw" (173 : Nat) ({ cls := "OrderlyNetsLaw", name := "within", desc := "(LOrderlyNets;IIII[J)I" } : Jvm.MethodName)) ∈ lw_good := lw_g5 109 rfl rfl
theorem tw_1070 : (Jvm.Cond.static ({ cls := "OrderlyNetsLaw", name := "within", desc := "(LOrderlyNets;IIII[J)I" } : Jvm.MethodName)) ∈ lw_good := lw_g5 110 rfl rfl
theorem tw_1071 : (Jvm.Cond.codeWith ({ cls := "OrderlyNetsLaw", name := "within", desc := "(LOrderlyNets;IIII[J)I" } : Jvm.MethodName) method_14_code (7 : Nat) (Option.some Jvm.ClassFile.FieldType.int) [((0 : Nat), (14 : Nat), (17 : Nat), (22 : Nat))]) ∈ lw_good := lw_g5 111 rfl rfl
theorem tw_1077 : (Jvm.Cond.methodLink "OrderlyNetsLaw" (176 : Nat) ({ cls := "OrderlyNetsLaw", name := "rooted", desc := "(LOrderlyNets;I[J)I" } : Jvm.MethodName)) ∈ lw_good := lw_g5 117 rfl rfl
theorem tw_1078 : (Jvm.Cond.static ({ cls := "OrderlyNetsLaw", name := "rooted", desc := "(LOrderlyNets;I[J)I" } : Jvm.MethodName)) ∈ lw_good := lw_g5 118 rfl rfl
theorem tw_1079 : (Jvm.Cond.codeWith ({ cls := "OrderlyNetsLaw", name := "rooted", desc := "(LOrderlyNets;I[J)I" } : Jvm.MethodName) method_15_code (4 : Nat) (Option.some Jvm.ClassFile.FieldType.int) [((0 : Nat), (9 : Nat), (12 : Nat), (22 : Nat))]) ∈ lw_good := lw_g5 119 rfl rfl
theorem tw_1084 : (Jvm.Cond.methodLink "OrderlyNetsLaw" (179 : Nat) ({ cls := "OrderlyNetsLaw", name := "turned", desc := "(LOrderlyNets;IIII[J)I" } : Jvm.MethodName)) ∈ lw_good := lw_g5 124 rfl rfl
theorem tw_1085 : (Jvm.Cond.static ({ cls := "OrderlyNetsLaw", name := "turned", desc := "(LOrderlyNets;IIII[J)I" } : Jvm.MethodName)) ∈ lw_good := lw_g5 125 rfl rfl
theorem tw_1086 : (Jvm.Cond.codeWith ({ cls := "OrderlyNetsLaw", name := "turned", desc := "(LOrderlyNets;IIII[J)I" } : Jvm.MethodName) method_16_code (7 : Nat) (Option.some Jvm.ClassFile.FieldType.int) [((0 : Nat), (14 : Nat), (17 : Nat), (22 : Nat)), ((0 : Nat), (14 : Nat), (21 : Nat), (13 : Nat))]) ∈ lw_good := lw_g5 126 rfl rfl
theorem tw_1093 : (Jvm.Cond.methodLink "OrderlyNetsLaw" (182 : Nat) ({ cls := "OrderlyNetsLaw", name := "apart", desc := "(LOrderlyNets;III[J)I" } : Jvm.MethodName)) ∈ lw_good := lw_g5 133 rfl rfl
theorem tw_1094 : (Jvm.Cond.static ({ cls := "OrderlyNetsLaw", name := "apart", desc := "(LOrderlyNets;III[J)I" } : Jvm.MethodName)) ∈ lw_good := lw_g5 134 rfl rfl
theorem tw_1095 : (Jvm.Cond.codeWith ({ cls := "OrderlyNetsLaw", name := "apart", desc := "(LOrderlyNets;III[J)I" } : Jvm.MethodName) method_17_code (6 : Nat) (Option.some Jvm.ClassFile.FieldType.int) [((0 : Nat), (12 : Nat), (15 : Nat), (22 : Nat))]) ∈ lw_good := lw_g5 135 rfl rfl
theorem tw_1120 : (Jvm.Cond.methodLink "OrderlyNetsLaw" (185 : Nat) ({ cls := "OrderlyNetsLaw", name := "common", desc := "(LOrderlyNets;IIII[J)I" } : Jvm.MethodName)) ∈ lw_good := lw_g5 160 rfl rfl
theorem tw_1121 : (Jvm.Cond.static ({ cls := "OrderlyNetsLaw", name := "common", desc := "(LOrderlyNets;IIII[J)I" } : Jvm.MethodName)) ∈ lw_good := lw_g5 161 rfl rfl
theorem tw_1122 : (Jvm.Cond.codeWith ({ cls := "OrderlyNetsLaw", name := "common", desc := "(LOrderlyNets;IIII[J)I" } : Jvm.MethodName) method_18_code (7 : Nat) (Option.some Jvm.ClassFile.FieldType.int) [((0 : Nat), (14 : Nat), (17 : Nat), (22 : Nat))]) ∈ lw_good := lw_g5 162 rfl rfl
theorem tw_1145 : (Jvm.Cond.methodLink "OrderlyNetsLaw" (188 : Nat) ({ cls := "OrderlyNetsLaw", name := "lines", desc := "(LOrderlyNets;II[J)I" } : Jvm.MethodName)) ∈ lw_good := lw_g5 185 rfl rfl
theorem tw_1146 : (Jvm.Cond.static ({ cls := "OrderlyNetsLaw", name := "lines", desc := "(LOrderlyNets;II[J)I" } : Jvm.MethodName)) ∈ lw_good := lw_g5 186 rfl rfl
theorem tw_1147 : (Jvm.Cond.codeWith ({ cls := "OrderlyNetsLaw", name := "lines", desc := "(LOrderlyNets;II[J)I" } : Jvm.MethodName) method_19_code (5 : Nat) (Option.some Jvm.ClassFile.FieldType.int) [((0 : Nat), (10 : Nat), (13 : Nat), (22 : Nat))]) ∈ lw_good := lw_g5 187 rfl rfl
theorem tw_1156 : (Jvm.Cond.methodLink "OrderlyNetsLaw" (191 : Nat) ({ cls := "OrderlyNetsLaw", name := "twins", desc := "(LOrderlyNets;I[J)I" } : Jvm.MethodName)) ∈ lw_good := lw_g5 196 rfl rfl
theorem tw_1157 : (Jvm.Cond.static ({ cls := "OrderlyNetsLaw", name := "twins", desc := "(LOrderlyNets;I[J)I" } : Jvm.MethodName)) ∈ lw_good := lw_g5 197 rfl rfl
theorem tw_1158 : (Jvm.Cond.codeWith ({ cls := "OrderlyNetsLaw", name := "twins", desc := "(LOrderlyNets;I[J)I" } : Jvm.MethodName) method_20_code (4 : Nat) (Option.some Jvm.ClassFile.FieldType.int) [((0 : Nat), (9 : Nat), (12 : Nat), (22 : Nat)), ((0 : Nat), (9 : Nat), (15 : Nat), (44 : Nat))]) ∈ lw_good := lw_g5 198 rfl rfl
theorem tw_1179 : (Jvm.Cond.methodLink "OrderlyNetsLaw" (194 : Nat) ({ cls := "OrderlyNetsLaw", name := "named", desc := "(LOrderlyNets;I[J)I" } : Jvm.MethodName)) ∈ lw_good := lw_g5 219 rfl rfl
theorem tw_1180 : (Jvm.Cond.static ({ cls := "OrderlyNetsLaw", name := "named", desc := "(LOrderlyNets;I[J)I" } : Jvm.MethodName)) ∈ lw_good := lw_g5 220 rfl rfl
theorem tw_1181 : (Jvm.Cond.codeWith ({ cls := "OrderlyNetsLaw", name := "named", desc := "(LOrderlyNets;I[J)I" } : Jvm.MethodName) method_21_code (4 : Nat) (Option.some Jvm.ClassFile.FieldType.int) [((0 : Nat), (8 : Nat), (11 : Nat), (22 : Nat))]) ∈ lw_good := lw_g5 221 rfl rfl
theorem tw_1189 : (Jvm.Cond.methodLink "OrderlyNetsLaw" (197 : Nat) ({ cls := "OrderlyNetsLaw", name := "cycles", desc := "(LOrderlyNets;II[J)I" } : Jvm.MethodName)) ∈ lw_good := lw_g5 229 rfl rfl
theorem tw_1190 : (Jvm.Cond.static ({ cls := "OrderlyNetsLaw", name := "cycles", desc := "(LOrderlyNets;II[J)I" } : Jvm.MethodName)) ∈ lw_good := lw_g5 230 rfl rfl
theorem tw_1191 : (Jvm.Cond.codeWith ({ cls := "OrderlyNetsLaw", name := "cycles", desc := "(LOrderlyNets;II[J)I" } : Jvm.MethodName) method_22_code (5 : Nat) (Option.some Jvm.ClassFile.FieldType.int) [((0 : Nat), (9 : Nat), (12 : Nat), (13 : Nat))]) ∈ lw_good := lw_g5 231 rfl rfl
theorem tw_1235 : (Jvm.Cond.methodLink "OrderlyNetsLaw" (204 : Nat) ({ cls := "OrderlyNetsLaw", name := "form", desc := "(LOrderlyNets;I[J)I" } : Jvm.MethodName)) ∈ lw_good := lw_g6 35 rfl rfl
theorem tw_1236 : (Jvm.Cond.static ({ cls := "OrderlyNetsLaw", name := "form", desc := "(LOrderlyNets;I[J)I" } : Jvm.MethodName)) ∈ lw_good := lw_g6 36 rfl rfl
theorem tw_1237 : (Jvm.Cond.codeWith ({ cls := "OrderlyNetsLaw", name := "form", desc := "(LOrderlyNets;I[J)I" } : Jvm.MethodName) method_23_code (4 : Nat) (Option.some Jvm.ClassFile.FieldType.int) [((0 : Nat), (9 : Nat), (12 : Nat), (28 : Nat)), ((0 : Nat), (9 : Nat), (15 : Nat), (44 : Nat))]) ∈ lw_good := lw_g6 37 rfl rfl
theorem tw_1248 : (Jvm.Cond.methodLink "OrderlyNetsLaw" (207 : Nat) ({ cls := "OrderlyNetsLaw", name := "order", desc := "(LOrderlyNets;I[J)I" } : Jvm.MethodName)) ∈ lw_good := lw_g6 48 rfl rfl
theorem tw_1249 : (Jvm.Cond.static ({ cls := "OrderlyNetsLaw", name := "order", desc := "(LOrderlyNets;I[J)I" } : Jvm.MethodName)) ∈ lw_good := lw_g6 49 rfl rfl
theorem tw_1250 : (Jvm.Cond.codeWith ({ cls := "OrderlyNetsLaw", name := "order", desc := "(LOrderlyNets;I[J)I" } : Jvm.MethodName) method_24_code (4 : Nat) (Option.some Jvm.ClassFile.FieldType.int) [((0 : Nat), (9 : Nat), (12 : Nat), (44 : Nat)), ((0 : Nat), (9 : Nat), (15 : Nat), (22 : Nat))]) ∈ lw_good := lw_g6 50 rfl rfl
theorem tw_1259 : (Jvm.Cond.methodLink "OrderlyNetsLaw" (210 : Nat) ({ cls := "OrderlyNetsLaw", name := "share", desc := "(LOrderlyNets;III[J)I" } : Jvm.MethodName)) ∈ lw_good := lw_g6 59 rfl rfl
theorem tw_1260 : (Jvm.Cond.static ({ cls := "OrderlyNetsLaw", name := "share", desc := "(LOrderlyNets;III[J)I" } : Jvm.MethodName)) ∈ lw_good := lw_g6 60 rfl rfl
theorem tw_1261 : (Jvm.Cond.codeWith ({ cls := "OrderlyNetsLaw", name := "share", desc := "(LOrderlyNets;III[J)I" } : Jvm.MethodName) method_25_code (6 : Nat) (Option.some Jvm.ClassFile.FieldType.int) [((0 : Nat), (12 : Nat), (15 : Nat), (13 : Nat))]) ∈ lw_good := lw_g6 61 rfl rfl
theorem tw_1276 : (Jvm.Cond.methodLink "OrderlyNetsLaw" (213 : Nat) ({ cls := "OrderlyNetsLaw", name := "start", desc := "(LOrderlyNets;IIII[J)I" } : Jvm.MethodName)) ∈ lw_good := lw_g6 76 rfl rfl
theorem tw_1277 : (Jvm.Cond.static ({ cls := "OrderlyNetsLaw", name := "start", desc := "(LOrderlyNets;IIII[J)I" } : Jvm.MethodName)) ∈ lw_good := lw_g6 77 rfl rfl
theorem tw_1278 : (Jvm.Cond.codeWith ({ cls := "OrderlyNetsLaw", name := "start", desc := "(LOrderlyNets;IIII[J)I" } : Jvm.MethodName) method_26_code (7 : Nat) (Option.some Jvm.ClassFile.FieldType.int) [((0 : Nat), (14 : Nat), (17 : Nat), (22 : Nat)), ((0 : Nat), (14 : Nat), (21 : Nat), (13 : Nat))]) ∈ lw_good := lw_g6 78 rfl rfl
theorem tw_1302 : (Jvm.Cond.methodLink "OrderlyNetsLaw" (216 : Nat) ({ cls := "OrderlyNetsLaw", name := "next", desc := "(LOrderlyNets;I[J)I" } : Jvm.MethodName)) ∈ lw_good := lw_g6 102 rfl rfl
theorem tw_1303 : (Jvm.Cond.static ({ cls := "OrderlyNetsLaw", name := "next", desc := "(LOrderlyNets;I[J)I" } : Jvm.MethodName)) ∈ lw_good := lw_g6 103 rfl rfl
theorem tw_1304 : (Jvm.Cond.codeWith ({ cls := "OrderlyNetsLaw", name := "next", desc := "(LOrderlyNets;I[J)I" } : Jvm.MethodName) method_27_code (4 : Nat) (Option.some Jvm.ClassFile.FieldType.int) [((0 : Nat), (9 : Nat), (12 : Nat), (22 : Nat)), ((0 : Nat), (9 : Nat), (15 : Nat), (44 : Nat))]) ∈ lw_good := lw_g6 104 rfl rfl
theorem tw_1331 : (Jvm.Cond.methodLink "OrderlyNetsLaw" (219 : Nat) ({ cls := "OrderlyNetsLaw", name := "walker", desc := "(LOrderlyNets;II[J)I" } : Jvm.MethodName)) ∈ lw_good := lw_g6 131 rfl rfl
theorem tw_1332 : (Jvm.Cond.static ({ cls := "OrderlyNetsLaw", name := "walker", desc := "(LOrderlyNets;II[J)I" } : Jvm.MethodName)) ∈ lw_good := lw_g6 132 rfl rfl
theorem tw_1333 : (Jvm.Cond.codeWith ({ cls := "OrderlyNetsLaw", name := "walker", desc := "(LOrderlyNets;II[J)I" } : Jvm.MethodName) method_28_code (5 : Nat) (Option.some Jvm.ClassFile.FieldType.int) [((0 : Nat), (10 : Nat), (13 : Nat), (22 : Nat)), ((0 : Nat), (10 : Nat), (17 : Nat), (28 : Nat)), ((0 : Nat), (10 : Nat), (21 : Nat), (44 : Nat))]) ∈ lw_good := lw_g6 133 rfl rfl
theorem tw_1339 : (Jvm.Cond.methodLink "OrderlyNetsLaw" (222 : Nat) ({ cls := "OrderlyNetsLaw", name := "resume", desc := "(LOrderlyNets;II[J)I" } : Jvm.MethodName)) ∈ lw_good := lw_g6 139 rfl rfl
theorem tw_1340 : (Jvm.Cond.static ({ cls := "OrderlyNetsLaw", name := "resume", desc := "(LOrderlyNets;II[J)I" } : Jvm.MethodName)) ∈ lw_good := lw_g6 140 rfl rfl
theorem tw_1341 : (Jvm.Cond.codeWith ({ cls := "OrderlyNetsLaw", name := "resume", desc := "(LOrderlyNets;II[J)I" } : Jvm.MethodName) method_29_code (5 : Nat) (Option.some Jvm.ClassFile.FieldType.int) [((0 : Nat), (10 : Nat), (13 : Nat), (22 : Nat)), ((0 : Nat), (10 : Nat), (17 : Nat), (44 : Nat)), ((0 : Nat), (10 : Nat), (21 : Nat), (13 : Nat))]) ∈ lw_good := lw_g6 141 rfl rfl
theorem tw_1347 : (Jvm.Cond.methodLink "OrderlyNetsLaw" (225 : Nat) ({ cls := "OrderlyNetsLaw", name := "text", desc := "(LOrderlyNets;II[J)I" } : Jvm.MethodName)) ∈ lw_good := lw_g6 147 rfl rfl
theorem tw_1348 : (Jvm.Cond.static ({ cls := "OrderlyNetsLaw", name := "text", desc := "(LOrderlyNets;II[J)I" } : Jvm.MethodName)) ∈ lw_good := lw_g6 148 rfl rfl
theorem tw_1349 : (Jvm.Cond.codeWith ({ cls := "OrderlyNetsLaw", name := "text", desc := "(LOrderlyNets;II[J)I" } : Jvm.MethodName) method_30_code (5 : Nat) (Option.some Jvm.ClassFile.FieldType.int) [((0 : Nat), (10 : Nat), (13 : Nat), (22 : Nat))]) ∈ lw_good := lw_g6 149 rfl rfl
theorem tw_1387 : (Jvm.Cond.methodLink "OrderlyNetsLaw" (131 : Nat) ({ cls := "OrderlyNetsModel", name := "thrown", desc := "()I" } : Jvm.MethodName)) ∈ lw_good := lw_g6 187 rfl rfl
theorem tw_1388 : (Jvm.Cond.instanceMethod ({ cls := "OrderlyNetsModel", name := "thrown", desc := "()I" } : Jvm.MethodName)) ∈ lw_good := lw_g6 188 rfl rfl
theorem tw_1389 : (Jvm.Cond.selects "OrderlyNetsModel" ({ cls := "OrderlyNetsModel", name := "thrown", desc := "()I" } : Jvm.MethodName) ({ cls := "OrderlyNetsModel", name := "thrown", desc := "()I" } : Jvm.MethodName)) ∈ lw_good := lw_g6 189 rfl rfl
theorem tw_1390 : (Jvm.Cond.code ({ cls := "OrderlyNetsModel", name := "thrown", desc := "()I" } : Jvm.MethodName) prog_14_method_1_code (1 : Nat) (Option.some Jvm.ClassFile.FieldType.int)) ∈ lw_good := lw_g6 190 rfl rfl
theorem tw_1593 : (Jvm.Cond.methodLink "OrderlyNetsLaw" (235 : Nat) ({ cls := "OrderlyNetsModel", name := "image", desc := "()V" } : Jvm.MethodName)) ∈ lw_good := lw_g7 153 rfl rfl
theorem tw_1594 : (Jvm.Cond.instanceMethod ({ cls := "OrderlyNetsModel", name := "image", desc := "()V" } : Jvm.MethodName)) ∈ lw_good := lw_g7 154 rfl rfl
theorem tw_1595 : (Jvm.Cond.selects "OrderlyNetsModel" ({ cls := "OrderlyNetsModel", name := "image", desc := "()V" } : Jvm.MethodName) ({ cls := "OrderlyNetsModel", name := "image", desc := "()V" } : Jvm.MethodName)) ∈ lw_good := lw_g7 155 rfl rfl
theorem tw_1596 : (Jvm.Cond.code ({ cls := "OrderlyNetsModel", name := "image", desc := "()V" } : Jvm.MethodName) prog_14_method_9_code (1 : Nat) (Option.none : Option Jvm.ClassFile.FieldType)) ∈ lw_good := lw_g7 156 rfl rfl
theorem tw_1600 : (Jvm.Cond.methodLink "OrderlyNetsLaw" (240 : Nat) ({ cls := "OrderlyNetsModel", name := "back", desc := "()Z" } : Jvm.MethodName)) ∈ lw_good := lw_g7 160 rfl rfl
theorem tw_1601 : (Jvm.Cond.instanceMethod ({ cls := "OrderlyNetsModel", name := "back", desc := "()Z" } : Jvm.MethodName)) ∈ lw_good := lw_g7 161 rfl rfl
theorem tw_1602 : (Jvm.Cond.selects "OrderlyNetsModel" ({ cls := "OrderlyNetsModel", name := "back", desc := "()Z" } : Jvm.MethodName) ({ cls := "OrderlyNetsModel", name := "back", desc := "()Z" } : Jvm.MethodName)) ∈ lw_good := lw_g7 162 rfl rfl
theorem tw_1603 : (Jvm.Cond.code ({ cls := "OrderlyNetsModel", name := "back", desc := "()Z" } : Jvm.MethodName) prog_14_method_10_code (1 : Nat) (Option.some Jvm.ClassFile.FieldType.boolean)) ∈ lw_good := lw_g7 163 rfl rfl
theorem tw_1604 : (Jvm.Cond.methodLink "OrderlyNetsLaw" (119 : Nat) ({ cls := "OrderlyNetsModel", name := "feed", desc := "(IIIII)I" } : Jvm.MethodName)) ∈ lw_good := lw_g7 164 rfl rfl
theorem tw_1605 : (Jvm.Cond.instanceMethod ({ cls := "OrderlyNetsModel", name := "feed", desc := "(IIIII)I" } : Jvm.MethodName)) ∈ lw_good := lw_g7 165 rfl rfl
theorem tw_1606 : (Jvm.Cond.selects "OrderlyNetsModel" ({ cls := "OrderlyNetsModel", name := "feed", desc := "(IIIII)I" } : Jvm.MethodName) ({ cls := "OrderlyNetsModel", name := "feed", desc := "(IIIII)I" } : Jvm.MethodName)) ∈ lw_good := lw_g7 166 rfl rfl
theorem tw_1607 : (Jvm.Cond.code ({ cls := "OrderlyNetsModel", name := "feed", desc := "(IIIII)I" } : Jvm.MethodName) prog_14_method_46_code (7 : Nat) (Option.some Jvm.ClassFile.FieldType.int)) ∈ lw_good := lw_g7 167 rfl rfl
theorem tw_1608 : (Jvm.Cond.methodLink "OrderlyNetsLaw" (124 : Nat) ({ cls := "OrderlyNetsModel", name := "end", desc := "(I)Z" } : Jvm.MethodName)) ∈ lw_good := lw_g7 168 rfl rfl
theorem tw_1609 : (Jvm.Cond.instanceMethod ({ cls := "OrderlyNetsModel", name := "end", desc := "(I)Z" } : Jvm.MethodName)) ∈ lw_good := lw_g7 169 rfl rfl
theorem tw_1610 : (Jvm.Cond.selects "OrderlyNetsModel" ({ cls := "OrderlyNetsModel", name := "end", desc := "(I)Z" } : Jvm.MethodName) ({ cls := "OrderlyNetsModel", name := "end", desc := "(I)Z" } : Jvm.MethodName)) ∈ lw_good := lw_g7 170 rfl rfl
theorem tw_1611 : (Jvm.Cond.code ({ cls := "OrderlyNetsModel", name := "end", desc := "(I)Z" } : Jvm.MethodName) prog_14_method_47_code (2 : Nat) (Option.some Jvm.ClassFile.FieldType.boolean)) ∈ lw_good := lw_g7 171 rfl rfl
theorem tw_1612 : (Jvm.Cond.methodLink "OrderlyNetsLaw" (140 : Nat) ({ cls := "OrderlyNetsModel", name := "fault", desc := "()I" } : Jvm.MethodName)) ∈ lw_good := lw_g7 172 rfl rfl
theorem tw_1613 : (Jvm.Cond.instanceMethod ({ cls := "OrderlyNetsModel", name := "fault", desc := "()I" } : Jvm.MethodName)) ∈ lw_good := lw_g7 173 rfl rfl
theorem tw_1614 : (Jvm.Cond.selects "OrderlyNetsModel" ({ cls := "OrderlyNetsModel", name := "fault", desc := "()I" } : Jvm.MethodName) ({ cls := "OrderlyNetsModel", name := "fault", desc := "()I" } : Jvm.MethodName)) ∈ lw_good := lw_g7 174 rfl rfl
theorem tw_1615 : (Jvm.Cond.code ({ cls := "OrderlyNetsModel", name := "fault", desc := "()I" } : Jvm.MethodName) prog_14_method_48_code (1 : Nat) (Option.some Jvm.ClassFile.FieldType.int)) ∈ lw_good := lw_g7 175 rfl rfl
theorem tw_1616 : (Jvm.Cond.methodLink "OrderlyNetsLaw" (130 : Nat) ({ cls := "OrderlyNetsModel", name := "kind", desc := "()I" } : Jvm.MethodName)) ∈ lw_good := lw_g7 176 rfl rfl
theorem tw_1617 : (Jvm.Cond.instanceMethod ({ cls := "OrderlyNetsModel", name := "kind", desc := "()I" } : Jvm.MethodName)) ∈ lw_good := lw_g7 177 rfl rfl
theorem tw_1618 : (Jvm.Cond.selects "OrderlyNetsModel" ({ cls := "OrderlyNetsModel", name := "kind", desc := "()I" } : Jvm.MethodName) ({ cls := "OrderlyNetsModel", name := "kind", desc := "()I" } : Jvm.MethodName)) ∈ lw_good := lw_g7 178 rfl rfl
theorem tw_1619 : (Jvm.Cond.code ({ cls := "OrderlyNetsModel", name := "kind", desc := "()I" } : Jvm.MethodName) prog_14_method_65_code (2 : Nat) (Option.some Jvm.ClassFile.FieldType.int)) ∈ lw_good := lw_g7 179 rfl rfl
theorem tw_1699 : (Jvm.Cond.methodLink "OrderlyNetsLaw" (136 : Nat) ({ cls := "OrderlyNetsModel", name := "told", desc := "()I" } : Jvm.MethodName)) ∈ lw_good := lw_g8 19 rfl rfl
theorem tw_1700 : (Jvm.Cond.instanceMethod ({ cls := "OrderlyNetsModel", name := "told", desc := "()I" } : Jvm.MethodName)) ∈ lw_good := lw_g8 20 rfl rfl
theorem tw_1701 : (Jvm.Cond.selects "OrderlyNetsModel" ({ cls := "OrderlyNetsModel", name := "told", desc := "()I" } : Jvm.MethodName) ({ cls := "OrderlyNetsModel", name := "told", desc := "()I" } : Jvm.MethodName)) ∈ lw_good := lw_g8 21 rfl rfl
theorem tw_1702 : (Jvm.Cond.code ({ cls := "OrderlyNetsModel", name := "told", desc := "()I" } : Jvm.MethodName) prog_14_method_68_code (3 : Nat) (Option.some Jvm.ClassFile.FieldType.int)) ∈ lw_good := lw_g8 22 rfl rfl
theorem tw_1729 : (Jvm.Cond.methodLink "OrderlyNetsLaw" (206 : Nat) ({ cls := "OrderlyNetsModel", name := "form", desc := "(I)I" } : Jvm.MethodName)) ∈ lw_good := lw_g8 49 rfl rfl
theorem tw_1730 : (Jvm.Cond.instanceMethod ({ cls := "OrderlyNetsModel", name := "form", desc := "(I)I" } : Jvm.MethodName)) ∈ lw_good := lw_g8 50 rfl rfl
theorem tw_1731 : (Jvm.Cond.selects "OrderlyNetsModel" ({ cls := "OrderlyNetsModel", name := "form", desc := "(I)I" } : Jvm.MethodName) ({ cls := "OrderlyNetsModel", name := "form", desc := "(I)I" } : Jvm.MethodName)) ∈ lw_good := lw_g8 51 rfl rfl
theorem tw_1732 : (Jvm.Cond.code ({ cls := "OrderlyNetsModel", name := "form", desc := "(I)I" } : Jvm.MethodName) prog_14_method_69_code (2 : Nat) (Option.some Jvm.ClassFile.FieldType.int)) ∈ lw_good := lw_g8 52 rfl rfl
theorem tw_1736 : (Jvm.Cond.methodLink "OrderlyNetsLaw" (209 : Nat) ({ cls := "OrderlyNetsModel", name := "order", desc := "(I)I" } : Jvm.MethodName)) ∈ lw_good := lw_g8 56 rfl rfl
theorem tw_1737 : (Jvm.Cond.instanceMethod ({ cls := "OrderlyNetsModel", name := "order", desc := "(I)I" } : Jvm.MethodName)) ∈ lw_good := lw_g8 57 rfl rfl
theorem tw_1738 : (Jvm.Cond.selects "OrderlyNetsModel" ({ cls := "OrderlyNetsModel", name := "order", desc := "(I)I" } : Jvm.MethodName) ({ cls := "OrderlyNetsModel", name := "order", desc := "(I)I" } : Jvm.MethodName)) ∈ lw_good := lw_g8 58 rfl rfl
theorem tw_1739 : (Jvm.Cond.code ({ cls := "OrderlyNetsModel", name := "order", desc := "(I)I" } : Jvm.MethodName) prog_14_method_70_code (2 : Nat) (Option.some Jvm.ClassFile.FieldType.int)) ∈ lw_good := lw_g8 59 rfl rfl
theorem tw_1740 : (Jvm.Cond.methodLink "OrderlyNetsLaw" (144 : Nat) ({ cls := "OrderlyNetsModel", name := "level", desc := "(I)I" } : Jvm.MethodName)) ∈ lw_good := lw_g8 60 rfl rfl
theorem tw_1741 : (Jvm.Cond.instanceMethod ({ cls := "OrderlyNetsModel", name := "level", desc := "(I)I" } : Jvm.MethodName)) ∈ lw_good := lw_g8 61 rfl rfl
theorem tw_1742 : (Jvm.Cond.selects "OrderlyNetsModel" ({ cls := "OrderlyNetsModel", name := "level", desc := "(I)I" } : Jvm.MethodName) ({ cls := "OrderlyNetsModel", name := "level", desc := "(I)I" } : Jvm.MethodName)) ∈ lw_good := lw_g8 62 rfl rfl
theorem tw_1743 : (Jvm.Cond.code ({ cls := "OrderlyNetsModel", name := "level", desc := "(I)I" } : Jvm.MethodName) prog_14_method_74_code (2 : Nat) (Option.some Jvm.ClassFile.FieldType.int)) ∈ lw_good := lw_g8 63 rfl rfl
theorem tw_1748 : (Jvm.Cond.methodLink "OrderlyNetsLaw" (148 : Nat) ({ cls := "OrderlyNetsModel", name := "net", desc := "(III)I" } : Jvm.MethodName)) ∈ lw_good := lw_g8 68 rfl rfl
theorem tw_1749 : (Jvm.Cond.instanceMethod ({ cls := "OrderlyNetsModel", name := "net", desc := "(III)I" } : Jvm.MethodName)) ∈ lw_good := lw_g8 69 rfl rfl
theorem tw_1750 : (Jvm.Cond.selects "OrderlyNetsModel" ({ cls := "OrderlyNetsModel", name := "net", desc := "(III)I" } : Jvm.MethodName) ({ cls := "OrderlyNetsModel", name := "net", desc := "(III)I" } : Jvm.MethodName)) ∈ lw_good := lw_g8 70 rfl rfl
theorem tw_1751 : (Jvm.Cond.code ({ cls := "OrderlyNetsModel", name := "net", desc := "(III)I" } : Jvm.MethodName) prog_14_method_78_code (4 : Nat) (Option.some Jvm.ClassFile.FieldType.int)) ∈ lw_good := lw_g8 71 rfl rfl
theorem tw_1808 : (Jvm.Cond.methodLink "OrderlyNetsLaw" (152 : Nat) ({ cls := "OrderlyNetsModel", name := "joined", desc := "(IIII)Z" } : Jvm.MethodName)) ∈ lw_good := lw_g8 128 rfl rfl
theorem tw_1809 : (Jvm.Cond.instanceMethod ({ cls := "OrderlyNetsModel", name := "joined", desc := "(IIII)Z" } : Jvm.MethodName)) ∈ lw_good := lw_g8 129 rfl rfl
theorem tw_1810 : (Jvm.Cond.selects "OrderlyNetsModel" ({ cls := "OrderlyNetsModel", name := "joined", desc := "(IIII)Z" } : Jvm.MethodName) ({ cls := "OrderlyNetsModel", name := "joined", desc := "(IIII)Z" } : Jvm.MethodName)) ∈ lw_good := lw_g8 130 rfl rfl
theorem tw_1811 : (Jvm.Cond.code ({ cls := "OrderlyNetsModel", name := "joined", desc := "(IIII)Z" } : Jvm.MethodName) prog_14_method_79_code (5 : Nat) (Option.some Jvm.ClassFile.FieldType.boolean)) ∈ lw_good := lw_g8 131 rfl rfl
theorem tw_1816 : (Jvm.Cond.methodLink "OrderlyNetsLaw" (155 : Nat) ({ cls := "OrderlyNetsModel", name := "orbit", desc := "(III)I" } : Jvm.MethodName)) ∈ lw_good := lw_g8 136 rfl rfl
theorem tw_1817 : (Jvm.Cond.instanceMethod ({ cls := "OrderlyNetsModel", name := "orbit", desc := "(III)I" } : Jvm.MethodName)) ∈ lw_good := lw_g8 137 rfl rfl
theorem tw_1818 : (Jvm.Cond.selects "OrderlyNetsModel" ({ cls := "OrderlyNetsModel", name := "orbit", desc := "(III)I" } : Jvm.MethodName) ({ cls := "OrderlyNetsModel", name := "orbit", desc := "(III)I" } : Jvm.MethodName)) ∈ lw_good := lw_g8 138 rfl rfl
theorem tw_1819 : (Jvm.Cond.code ({ cls := "OrderlyNetsModel", name := "orbit", desc := "(III)I" } : Jvm.MethodName) prog_14_method_80_code (6 : Nat) (Option.some Jvm.ClassFile.FieldType.int)) ∈ lw_good := lw_g8 139 rfl rfl
theorem tw_1820 : (Jvm.Cond.methodLink "OrderlyNetsLaw" (158 : Nat) ({ cls := "OrderlyNetsModel", name := "child", desc := "(III)I" } : Jvm.MethodName)) ∈ lw_good := lw_g8 140 rfl rfl
theorem tw_1821 : (Jvm.Cond.instanceMethod ({ cls := "OrderlyNetsModel", name := "child", desc := "(III)I" } : Jvm.MethodName)) ∈ lw_good := lw_g8 141 rfl rfl
theorem tw_1822 : (Jvm.Cond.selects "OrderlyNetsModel" ({ cls := "OrderlyNetsModel", name := "child", desc := "(III)I" } : Jvm.MethodName) ({ cls := "OrderlyNetsModel", name := "child", desc := "(III)I" } : Jvm.MethodName)) ∈ lw_good := lw_g8 142 rfl rfl
theorem tw_1823 : (Jvm.Cond.code ({ cls := "OrderlyNetsModel", name := "child", desc := "(III)I" } : Jvm.MethodName) prog_14_method_81_code (4 : Nat) (Option.some Jvm.ClassFile.FieldType.int)) ∈ lw_good := lw_g8 143 rfl rfl
theorem tw_1828 : (Jvm.Cond.methodLink "OrderlyNetsLaw" (162 : Nat) ({ cls := "OrderlyNetsModel", name := "grown", desc := "(IIIZ)I" } : Jvm.MethodName)) ∈ lw_good := lw_g8 148 rfl rfl
theorem tw_1829 : (Jvm.Cond.instanceMethod ({ cls := "OrderlyNetsModel", name := "grown", desc := "(IIIZ)I" } : Jvm.MethodName)) ∈ lw_good := lw_g8 149 rfl rfl
theorem tw_1830 : (Jvm.Cond.selects "OrderlyNetsModel" ({ cls := "OrderlyNetsModel", name := "grown", desc := "(IIIZ)I" } : Jvm.MethodName) ({ cls := "OrderlyNetsModel", name := "grown", desc := "(IIIZ)I" } : Jvm.MethodName)) ∈ lw_good := lw_g8 150 rfl rfl
theorem tw_1831 : (Jvm.Cond.code ({ cls := "OrderlyNetsModel", name := "grown", desc := "(IIIZ)I" } : Jvm.MethodName) prog_14_method_83_code (5 : Nat) (Option.some Jvm.ClassFile.FieldType.int)) ∈ lw_good := lw_g8 151 rfl rfl
theorem tw_1836 : (Jvm.Cond.methodLink "OrderlyNetsLaw" (165 : Nat) ({ cls := "OrderlyNetsModel", name := "taken", desc := "(IIIZ)Z" } : Jvm.MethodName)) ∈ lw_good := lw_g8 156 rfl rfl
theorem tw_1837 : (Jvm.Cond.instanceMethod ({ cls := "OrderlyNetsModel", name := "taken", desc := "(IIIZ)Z" } : Jvm.MethodName)) ∈ lw_good := lw_g8 157 rfl rfl
theorem tw_1838 : (Jvm.Cond.selects "OrderlyNetsModel" ({ cls := "OrderlyNetsModel", name := "taken", desc := "(IIIZ)Z" } : Jvm.MethodName) ({ cls := "OrderlyNetsModel", name := "taken", desc := "(IIIZ)Z" } : Jvm.MethodName)) ∈ lw_good := lw_g8 158 rfl rfl
theorem tw_1839 : (Jvm.Cond.code ({ cls := "OrderlyNetsModel", name := "taken", desc := "(IIIZ)Z" } : Jvm.MethodName) prog_14_method_84_code (6 : Nat) (Option.some Jvm.ClassFile.FieldType.boolean)) ∈ lw_good := lw_g8 159 rfl rfl
theorem tw_1840 : (Jvm.Cond.methodLink "OrderlyNetsLaw" (168 : Nat) ({ cls := "OrderlyNetsModel", name := "deck", desc := "(III)I" } : Jvm.MethodName)) ∈ lw_good := lw_g8 160 rfl rfl
theorem tw_1841 : (Jvm.Cond.instanceMethod ({ cls := "OrderlyNetsModel", name := "deck", desc := "(III)I" } : Jvm.MethodName)) ∈ lw_good := lw_g8 161 rfl rfl
theorem tw_1842 : (Jvm.Cond.selects "OrderlyNetsModel" ({ cls := "OrderlyNetsModel", name := "deck", desc := "(III)I" } : Jvm.MethodName) ({ cls := "OrderlyNetsModel", name := "deck", desc := "(III)I" } : Jvm.MethodName)) ∈ lw_good := lw_g8 162 rfl rfl
theorem tw_1843 : (Jvm.Cond.code ({ cls := "OrderlyNetsModel", name := "deck", desc := "(III)I" } : Jvm.MethodName) prog_14_method_85_code (4 : Nat) (Option.some Jvm.ClassFile.FieldType.int)) ∈ lw_good := lw_g8 163 rfl rfl
theorem tw_1844 : (Jvm.Cond.methodLink "OrderlyNetsLaw" (172 : Nat) ({ cls := "OrderlyNetsModel", name := "other", desc := "(II)I" } : Jvm.MethodName)) ∈ lw_good := lw_g8 164 rfl rfl
theorem tw_1845 : (Jvm.Cond.instanceMethod ({ cls := "OrderlyNetsModel", name := "other", desc := "(II)I" } : Jvm.MethodName)) ∈ lw_good := lw_g8 165 rfl rfl
theorem tw_1846 : (Jvm.Cond.selects "OrderlyNetsModel" ({ cls := "OrderlyNetsModel", name := "other", desc := "(II)I" } : Jvm.MethodName) ({ cls := "OrderlyNetsModel", name := "other", desc := "(II)I" } : Jvm.MethodName)) ∈ lw_good := lw_g8 166 rfl rfl
theorem tw_1847 : (Jvm.Cond.code ({ cls := "OrderlyNetsModel", name := "other", desc := "(II)I" } : Jvm.MethodName) prog_14_method_86_code (4 : Nat) (Option.some Jvm.ClassFile.FieldType.int)) ∈ lw_good := lw_g8 167 rfl rfl
theorem tw_1848 : (Jvm.Cond.methodLink "OrderlyNetsLaw" (175 : Nat) ({ cls := "OrderlyNetsModel", name := "within", desc := "(IIII)I" } : Jvm.MethodName)) ∈ lw_good := lw_g8 168 rfl rfl
theorem tw_1849 : (Jvm.Cond.instanceMethod ({ cls := "OrderlyNetsModel", name := "within", desc := "(IIII)I" } : Jvm.MethodName)) ∈ lw_good := lw_g8 169 rfl rfl
theorem tw_1850 : (Jvm.Cond.selects "OrderlyNetsModel" ({ cls := "OrderlyNetsModel", name := "within", desc := "(IIII)I" } : Jvm.MethodName) ({ cls := "OrderlyNetsModel", name := "within", desc := "(IIII)I" } : Jvm.MethodName)) ∈ lw_good := lw_g8 170 rfl rfl
theorem tw_1851 : (Jvm.Cond.code ({ cls := "OrderlyNetsModel", name := "within", desc := "(IIII)I" } : Jvm.MethodName) prog_14_method_87_code (8 : Nat) (Option.some Jvm.ClassFile.FieldType.int)) ∈ lw_good := lw_g8 171 rfl rfl
theorem tw_1852 : (Jvm.Cond.methodLink "OrderlyNetsLaw" (178 : Nat) ({ cls := "OrderlyNetsModel", name := "rooted", desc := "(I)I" } : Jvm.MethodName)) ∈ lw_good := lw_g8 172 rfl rfl
theorem tw_1853 : (Jvm.Cond.instanceMethod ({ cls := "OrderlyNetsModel", name := "rooted", desc := "(I)I" } : Jvm.MethodName)) ∈ lw_good := lw_g8 173 rfl rfl
theorem tw_1854 : (Jvm.Cond.selects "OrderlyNetsModel" ({ cls := "OrderlyNetsModel", name := "rooted", desc := "(I)I" } : Jvm.MethodName) ({ cls := "OrderlyNetsModel", name := "rooted", desc := "(I)I" } : Jvm.MethodName)) ∈ lw_good := lw_g8 174 rfl rfl
theorem tw_1855 : (Jvm.Cond.code ({ cls := "OrderlyNetsModel", name := "rooted", desc := "(I)I" } : Jvm.MethodName) prog_14_method_88_code (4 : Nat) (Option.some Jvm.ClassFile.FieldType.int)) ∈ lw_good := lw_g8 175 rfl rfl
theorem tw_1856 : (Jvm.Cond.methodLink "OrderlyNetsLaw" (181 : Nat) ({ cls := "OrderlyNetsModel", name := "turned", desc := "(IIII)I" } : Jvm.MethodName)) ∈ lw_good := lw_g8 176 rfl rfl
theorem tw_1857 : (Jvm.Cond.instanceMethod ({ cls := "OrderlyNetsModel", name := "turned", desc := "(IIII)I" } : Jvm.MethodName)) ∈ lw_good := lw_g8 177 rfl rfl
theorem tw_1858 : (Jvm.Cond.selects "OrderlyNetsModel" ({ cls := "OrderlyNetsModel", name := "turned", desc := "(IIII)I" } : Jvm.MethodName) ({ cls := "OrderlyNetsModel", name := "turned", desc := "(IIII)I" } : Jvm.MethodName)) ∈ lw_good := lw_g8 178 rfl rfl
theorem tw_1859 : (Jvm.Cond.code ({ cls := "OrderlyNetsModel", name := "turned", desc := "(IIII)I" } : Jvm.MethodName) prog_14_method_89_code (5 : Nat) (Option.some Jvm.ClassFile.FieldType.int)) ∈ lw_good := lw_g8 179 rfl rfl
theorem tw_1860 : (Jvm.Cond.methodLink "OrderlyNetsLaw" (184 : Nat) ({ cls := "OrderlyNetsModel", name := "apart", desc := "(III)I" } : Jvm.MethodName)) ∈ lw_good := lw_g8 180 rfl rfl
theorem tw_1861 : (Jvm.Cond.instanceMethod ({ cls := "OrderlyNetsModel", name := "apart", desc := "(III)I" } : Jvm.MethodName)) ∈ lw_good := lw_g8 181 rfl rfl
theorem tw_1862 : (Jvm.Cond.selects "OrderlyNetsModel" ({ cls := "OrderlyNetsModel", name := "apart", desc := "(III)I" } : Jvm.MethodName) ({ cls := "OrderlyNetsModel", name := "apart", desc := "(III)I" } : Jvm.MethodName)) ∈ lw_good := lw_g8 182 rfl rfl
theorem tw_1863 : (Jvm.Cond.code ({ cls := "OrderlyNetsModel", name := "apart", desc := "(III)I" } : Jvm.MethodName) prog_14_method_92_code (5 : Nat) (Option.some Jvm.ClassFile.FieldType.int)) ∈ lw_good := lw_g8 183 rfl rfl
theorem tw_1872 : (Jvm.Cond.methodLink "OrderlyNetsLaw" (187 : Nat) ({ cls := "OrderlyNetsModel", name := "common", desc := "(IIII)I" } : Jvm.MethodName)) ∈ lw_good := lw_g8 192 rfl rfl
theorem tw_1873 : (Jvm.Cond.instanceMethod ({ cls := "OrderlyNetsModel", name := "common", desc := "(IIII)I" } : Jvm.MethodName)) ∈ lw_good := lw_g8 193 rfl rfl
theorem tw_1874 : (Jvm.Cond.selects "OrderlyNetsModel" ({ cls := "OrderlyNetsModel", name := "common", desc := "(IIII)I" } : Jvm.MethodName) ({ cls := "OrderlyNetsModel", name := "common", desc := "(IIII)I" } : Jvm.MethodName)) ∈ lw_good := lw_g8 194 rfl rfl
theorem tw_1875 : (Jvm.Cond.code ({ cls := "OrderlyNetsModel", name := "common", desc := "(IIII)I" } : Jvm.MethodName) prog_14_method_95_code (6 : Nat) (Option.some Jvm.ClassFile.FieldType.int)) ∈ lw_good := lw_g8 195 rfl rfl
theorem tw_1884 : (Jvm.Cond.methodLink "OrderlyNetsLaw" (190 : Nat) ({ cls := "OrderlyNetsModel", name := "lines", desc := "(II)I" } : Jvm.MethodName)) ∈ lw_good := lw_g8 204 rfl rfl
theorem tw_1885 : (Jvm.Cond.instanceMethod ({ cls := "OrderlyNetsModel", name := "lines", desc := "(II)I" } : Jvm.MethodName)) ∈ lw_good := lw_g8 205 rfl rfl
theorem tw_1886 : (Jvm.Cond.selects "OrderlyNetsModel" ({ cls := "OrderlyNetsModel", name := "lines", desc := "(II)I" } : Jvm.MethodName) ({ cls := "OrderlyNetsModel", name := "lines", desc := "(II)I" } : Jvm.MethodName)) ∈ lw_good := lw_g8 206 rfl rfl
theorem tw_1887 : (Jvm.Cond.code ({ cls := "OrderlyNetsModel", name := "lines", desc := "(II)I" } : Jvm.MethodName) prog_14_method_97_code (6 : Nat) (Option.some Jvm.ClassFile.FieldType.int)) ∈ lw_good := lw_g8 207 rfl rfl
theorem tw_1892 : (Jvm.Cond.methodLink "OrderlyNetsLaw" (193 : Nat) ({ cls := "OrderlyNetsModel", name := "twins", desc := "(I)I" } : Jvm.MethodName)) ∈ lw_good := lw_g8 212 rfl rfl
theorem tw_1893 : (Jvm.Cond.instanceMethod ({ cls := "OrderlyNetsModel", name := "twins", desc := "(I)I" } : Jvm.MethodName)) ∈ lw_good := lw_g8 213 rfl rfl
theorem tw_1894 : (Jvm.Cond.selects "OrderlyNetsModel" ({ cls := "OrderlyNetsModel", name := "twins", desc := "(I)I" } : Jvm.MethodName) ({ cls := "OrderlyNetsModel", name := "twins", desc := "(I)I" } : Jvm.MethodName)) ∈ lw_good := lw_g8 214 rfl rfl
theorem tw_1895 : (Jvm.Cond.code ({ cls := "OrderlyNetsModel", name := "twins", desc := "(I)I" } : Jvm.MethodName) prog_14_method_99_code (7 : Nat) (Option.some Jvm.ClassFile.FieldType.int)) ∈ lw_good := lw_g8 215 rfl rfl
theorem tw_1900 : (Jvm.Cond.methodLink "OrderlyNetsLaw" (196 : Nat) ({ cls := "OrderlyNetsModel", name := "named", desc := "(I)J" } : Jvm.MethodName)) ∈ lw_good := lw_g8 220 rfl rfl
theorem tw_1901 : (Jvm.Cond.instanceMethod ({ cls := "OrderlyNetsModel", name := "named", desc := "(I)J" } : Jvm.MethodName)) ∈ lw_good := lw_g8 221 rfl rfl
theorem tw_1902 : (Jvm.Cond.selects "OrderlyNetsModel" ({ cls := "OrderlyNetsModel", name := "named", desc := "(I)J" } : Jvm.MethodName) ({ cls := "OrderlyNetsModel", name := "named", desc := "(I)J" } : Jvm.MethodName)) ∈ lw_good := lw_g8 222 rfl rfl
theorem tw_1903 : (Jvm.Cond.code ({ cls := "OrderlyNetsModel", name := "named", desc := "(I)J" } : Jvm.MethodName) prog_14_method_100_code (7 : Nat) (Option.some Jvm.ClassFile.FieldType.long)) ∈ lw_good := lw_g8 223 rfl rfl
theorem tw_1904 : (Jvm.Cond.methodLink "OrderlyNetsLaw" (199 : Nat) ({ cls := "OrderlyNetsModel", name := "cycles", desc := "(II)J" } : Jvm.MethodName)) ∈ lw_good := lw_g8 224 rfl rfl
theorem tw_1905 : (Jvm.Cond.instanceMethod ({ cls := "OrderlyNetsModel", name := "cycles", desc := "(II)J" } : Jvm.MethodName)) ∈ lw_good := lw_g8 225 rfl rfl
theorem tw_1906 : (Jvm.Cond.selects "OrderlyNetsModel" ({ cls := "OrderlyNetsModel", name := "cycles", desc := "(II)J" } : Jvm.MethodName) ({ cls := "OrderlyNetsModel", name := "cycles", desc := "(II)J" } : Jvm.MethodName)) ∈ lw_good := lw_g8 226 rfl rfl
theorem tw_1907 : (Jvm.Cond.code ({ cls := "OrderlyNetsModel", name := "cycles", desc := "(II)J" } : Jvm.MethodName) prog_14_method_101_code (6 : Nat) (Option.some Jvm.ClassFile.FieldType.long)) ∈ lw_good := lw_g8 227 rfl rfl
theorem tw_1908 : (Jvm.Cond.methodLink "OrderlyNetsLaw" (203 : Nat) ({ cls := "OrderlyNetsModel", name := "full", desc := "(I)I" } : Jvm.MethodName)) ∈ lw_good := lw_g8 228 rfl rfl
theorem tw_1909 : (Jvm.Cond.instanceMethod ({ cls := "OrderlyNetsModel", name := "full", desc := "(I)I" } : Jvm.MethodName)) ∈ lw_good := lw_g8 229 rfl rfl
theorem tw_1910 : (Jvm.Cond.selects "OrderlyNetsModel" ({ cls := "OrderlyNetsModel", name := "full", desc := "(I)I" } : Jvm.MethodName) ({ cls := "OrderlyNetsModel", name := "full", desc := "(I)I" } : Jvm.MethodName)) ∈ lw_good := lw_g8 230 rfl rfl
theorem tw_1911 : (Jvm.Cond.code ({ cls := "OrderlyNetsModel", name := "full", desc := "(I)I" } : Jvm.MethodName) prog_14_method_102_code (5 : Nat) (Option.some Jvm.ClassFile.FieldType.int)) ∈ lw_good := lw_g8 231 rfl rfl
theorem tw_1912 : (Jvm.Cond.methodLink "OrderlyNetsLaw" (212 : Nat) ({ cls := "OrderlyNetsModel", name := "share", desc := "(III)I" } : Jvm.MethodName)) ∈ lw_good := lw_g8 232 rfl rfl
theorem tw_1913 : (Jvm.Cond.instanceMethod ({ cls := "OrderlyNetsModel", name := "share", desc := "(III)I" } : Jvm.MethodName)) ∈ lw_good := lw_g8 233 rfl rfl
theorem tw_1914 : (Jvm.Cond.selects "OrderlyNetsModel" ({ cls := "OrderlyNetsModel", name := "share", desc := "(III)I" } : Jvm.MethodName) ({ cls := "OrderlyNetsModel", name := "share", desc := "(III)I" } : Jvm.MethodName)) ∈ lw_good := lw_g8 234 rfl rfl
theorem tw_1915 : (Jvm.Cond.code ({ cls := "OrderlyNetsModel", name := "share", desc := "(III)I" } : Jvm.MethodName) prog_14_method_106_code (4 : Nat) (Option.some Jvm.ClassFile.FieldType.int)) ∈ lw_good := lw_g8 235 rfl rfl
theorem tw_1928 : (Jvm.Cond.methodLink "OrderlyNetsLaw" (215 : Nat) ({ cls := "OrderlyNetsModel", name := "start", desc := "(IIII)I" } : Jvm.MethodName)) ∈ lw_good := lw_g9 8 rfl rfl
theorem tw_1929 : (Jvm.Cond.instanceMethod ({ cls := "OrderlyNetsModel", name := "start", desc := "(IIII)I" } : Jvm.MethodName)) ∈ lw_good := lw_g9 9 rfl rfl
theorem tw_1930 : (Jvm.Cond.selects "OrderlyNetsModel" ({ cls := "OrderlyNetsModel", name := "start", desc := "(IIII)I" } : Jvm.MethodName) ({ cls := "OrderlyNetsModel", name := "start", desc := "(IIII)I" } : Jvm.MethodName)) ∈ lw_good := lw_g9 10 rfl rfl
theorem tw_1931 : (Jvm.Cond.code ({ cls := "OrderlyNetsModel", name := "start", desc := "(IIII)I" } : Jvm.MethodName) prog_14_method_110_code (5 : Nat) (Option.some Jvm.ClassFile.FieldType.int)) ∈ lw_good := lw_g9 11 rfl rfl
theorem tw_1943 : (Jvm.Cond.methodLink "OrderlyNetsLaw" (218 : Nat) ({ cls := "OrderlyNetsModel", name := "next", desc := "(I)I" } : Jvm.MethodName)) ∈ lw_good := lw_g9 23 rfl rfl
theorem tw_1944 : (Jvm.Cond.instanceMethod ({ cls := "OrderlyNetsModel", name := "next", desc := "(I)I" } : Jvm.MethodName)) ∈ lw_good := lw_g9 24 rfl rfl
theorem tw_1945 : (Jvm.Cond.selects "OrderlyNetsModel" ({ cls := "OrderlyNetsModel", name := "next", desc := "(I)I" } : Jvm.MethodName) ({ cls := "OrderlyNetsModel", name := "next", desc := "(I)I" } : Jvm.MethodName)) ∈ lw_good := lw_g9 25 rfl rfl
theorem tw_1946 : (Jvm.Cond.code ({ cls := "OrderlyNetsModel", name := "next", desc := "(I)I" } : Jvm.MethodName) prog_14_method_112_code (3 : Nat) (Option.some Jvm.ClassFile.FieldType.int)) ∈ lw_good := lw_g9 26 rfl rfl
theorem tw_1951 : (Jvm.Cond.methodLink "OrderlyNetsLaw" (221 : Nat) ({ cls := "OrderlyNetsModel", name := "walker", desc := "(II)I" } : Jvm.MethodName)) ∈ lw_good := lw_g9 31 rfl rfl
theorem tw_1952 : (Jvm.Cond.instanceMethod ({ cls := "OrderlyNetsModel", name := "walker", desc := "(II)I" } : Jvm.MethodName)) ∈ lw_good := lw_g9 32 rfl rfl
theorem tw_1953 : (Jvm.Cond.selects "OrderlyNetsModel" ({ cls := "OrderlyNetsModel", name := "walker", desc := "(II)I" } : Jvm.MethodName) ({ cls := "OrderlyNetsModel", name := "walker", desc := "(II)I" } : Jvm.MethodName)) ∈ lw_good := lw_g9 33 rfl rfl
theorem tw_1954 : (Jvm.Cond.code ({ cls := "OrderlyNetsModel", name := "walker", desc := "(II)I" } : Jvm.MethodName) prog_14_method_113_code (4 : Nat) (Option.some Jvm.ClassFile.FieldType.int)) ∈ lw_good := lw_g9 34 rfl rfl
theorem tw_1955 : (Jvm.Cond.methodLink "OrderlyNetsLaw" (224 : Nat) ({ cls := "OrderlyNetsModel", name := "resume", desc := "(II)I" } : Jvm.MethodName)) ∈ lw_good := lw_g9 35 rfl rfl
theorem tw_1956 : (Jvm.Cond.instanceMethod ({ cls := "OrderlyNetsModel", name := "resume", desc := "(II)I" } : Jvm.MethodName)) ∈ lw_good := lw_g9 36 rfl rfl
theorem tw_1957 : (Jvm.Cond.selects "OrderlyNetsModel" ({ cls := "OrderlyNetsModel", name := "resume", desc := "(II)I" } : Jvm.MethodName) ({ cls := "OrderlyNetsModel", name := "resume", desc := "(II)I" } : Jvm.MethodName)) ∈ lw_good := lw_g9 37 rfl rfl
theorem tw_1958 : (Jvm.Cond.code ({ cls := "OrderlyNetsModel", name := "resume", desc := "(II)I" } : Jvm.MethodName) prog_14_method_114_code (4 : Nat) (Option.some Jvm.ClassFile.FieldType.int)) ∈ lw_good := lw_g9 38 rfl rfl
theorem tw_1959 : (Jvm.Cond.methodLink "OrderlyNetsLaw" (227 : Nat) ({ cls := "OrderlyNetsModel", name := "text", desc := "(II)I" } : Jvm.MethodName)) ∈ lw_good := lw_g9 39 rfl rfl
theorem tw_1960 : (Jvm.Cond.instanceMethod ({ cls := "OrderlyNetsModel", name := "text", desc := "(II)I" } : Jvm.MethodName)) ∈ lw_good := lw_g9 40 rfl rfl
theorem tw_1961 : (Jvm.Cond.selects "OrderlyNetsModel" ({ cls := "OrderlyNetsModel", name := "text", desc := "(II)I" } : Jvm.MethodName) ({ cls := "OrderlyNetsModel", name := "text", desc := "(II)I" } : Jvm.MethodName)) ∈ lw_good := lw_g9 41 rfl rfl
theorem tw_1962 : (Jvm.Cond.code ({ cls := "OrderlyNetsModel", name := "text", desc := "(II)I" } : Jvm.MethodName) prog_14_method_117_code (6 : Nat) (Option.some Jvm.ClassFile.FieldType.int)) ∈ lw_good := lw_g9 42 rfl rfl
theorem tw_1976 : (Jvm.Cond.methodLink "OrderlyNetsLaw" (231 : Nat) ({ cls := "OrderlyNetsModel", name := "octet", desc := "(I)I" } : Jvm.MethodName)) ∈ lw_good := lw_g9 56 rfl rfl
theorem tw_1977 : (Jvm.Cond.instanceMethod ({ cls := "OrderlyNetsModel", name := "octet", desc := "(I)I" } : Jvm.MethodName)) ∈ lw_good := lw_g9 57 rfl rfl
theorem tw_1978 : (Jvm.Cond.selects "OrderlyNetsModel" ({ cls := "OrderlyNetsModel", name := "octet", desc := "(I)I" } : Jvm.MethodName) ({ cls := "OrderlyNetsModel", name := "octet", desc := "(I)I" } : Jvm.MethodName)) ∈ lw_good := lw_g9 58 rfl rfl
theorem tw_1979 : (Jvm.Cond.code ({ cls := "OrderlyNetsModel", name := "octet", desc := "(I)I" } : Jvm.MethodName) prog_14_method_118_code (2 : Nat) (Option.some Jvm.ClassFile.FieldType.int)) ∈ lw_good := lw_g9 59 rfl rfl
theorem tw_1980 : (Jvm.Cond.methodLink "OrderlyNetsLaw" (244 : Nat) ({ cls := "OrderlyNetsModel", name := "count", desc := "(I)I" } : Jvm.MethodName)) ∈ lw_good := lw_g9 60 rfl rfl
theorem tw_1981 : (Jvm.Cond.instanceMethod ({ cls := "OrderlyNetsModel", name := "count", desc := "(I)I" } : Jvm.MethodName)) ∈ lw_good := lw_g9 61 rfl rfl
theorem tw_1982 : (Jvm.Cond.selects "OrderlyNetsModel" ({ cls := "OrderlyNetsModel", name := "count", desc := "(I)I" } : Jvm.MethodName) ({ cls := "OrderlyNetsModel", name := "count", desc := "(I)I" } : Jvm.MethodName)) ∈ lw_good := lw_g9 62 rfl rfl
theorem tw_1983 : (Jvm.Cond.code ({ cls := "OrderlyNetsModel", name := "count", desc := "(I)I" } : Jvm.MethodName) prog_14_method_120_code (2 : Nat) (Option.some Jvm.ClassFile.FieldType.int)) ∈ lw_good := lw_g9 63 rfl rfl
theorem yk_X11_feed : eYV yX11_feed cX11_feed 6 (some .int) 5 := ⟨tw_508, tw_506, tw_507, tw_1, by decide +kernel⟩
theorem yk_X12_feed : eYV yX12_feed cX12_feed 7 (some .int) 5 := ⟨tw_1607, tw_1605, tw_1606, tw_15, by decide +kernel⟩
theorem yk_X11_end : eYV yX11_end cX11_end 2 (some .boolean) 1 := ⟨tw_520, tw_518, tw_519, tw_1, by decide +kernel⟩
theorem yk_X12_end : eYV yX12_end cX12_end 2 (some .boolean) 1 := ⟨tw_1611, tw_1609, tw_1610, tw_15, by decide +kernel⟩
theorem yh_L_kind : eYH yL_kind cL_kind 3 (some .int) [(0, 8, 11, 13)] 2 := ⟨tw_607, tw_606, tw_0, by decide +kernel⟩
theorem yk_X12_kind : eYV yX12_kind cX12_kind 2 (some .int) 0 := ⟨tw_1619, tw_1617, tw_1618, tw_15, by decide +kernel⟩
theorem yk_X12_thrown : eYV yX12_thrown cX12_thrown 1 (some .int) 0 := ⟨tw_1390, tw_1388, tw_1389, tw_15, by decide +kernel⟩
theorem yh_L_told : eYH yL_told cL_told 3 (some .int) [(0, 8, 11, 13)] 2 := ⟨tw_843, tw_842, tw_0, by decide +kernel⟩
theorem yk_X12_told : eYV yX12_told cX12_told 3 (some .int) 0 := ⟨tw_1702, tw_1700, tw_1701, tw_15, by decide +kernel⟩
theorem yk_X11_fault : eYV yX11_fault cX11_fault 1 (some .int) 0 := ⟨tw_524, tw_522, tw_523, tw_1, by decide +kernel⟩
theorem yk_X12_fault : eYV yX12_fault cX12_fault 1 (some .int) 0 := ⟨tw_1615, tw_1613, tw_1614, tw_15, by decide +kernel⟩
theorem yh_L_level : eYH yL_level cL_level 4 (some .int) [(0, 9, 12, 22)] 3 := ⟨tw_873, tw_872, tw_0, by decide +kernel⟩
theorem yk_X12_level : eYV yX12_level cX12_level 2 (some .int) 1 := ⟨tw_1743, tw_1741, tw_1742, tw_15, by decide +kernel⟩
theorem yh_L_net : eYH yL_net cL_net 6 (some .int) [(0, 12, 15, 22), (0, 12, 19, 28)] 5 := ⟨tw_901, tw_900, tw_0, by decide +kernel⟩
theorem yk_X12_net : eYV yX12_net cX12_net 4 (some .int) 3 := ⟨tw_1751, tw_1749, tw_1750, tw_15, by decide +kernel⟩
theorem yh_L_joined : eYH yL_joined cL_joined 7 (some .int) [(0, 21, 24, 22)] 6 := ⟨tw_978, tw_977, tw_0, by decide +kernel⟩
theorem yk_X12_joined : eYV yX12_joined cX12_joined 5 (some .boolean) 4 := ⟨tw_1811, tw_1809, tw_1810, tw_15, by decide +kernel⟩
theorem yh_L_orbit : eYH yL_orbit cL_orbit 6 (some .int) [(0, 12, 15, 22)] 5 := ⟨tw_991, tw_990, tw_0, by decide +kernel⟩
theorem yk_X12_orbit : eYV yX12_orbit cX12_orbit 6 (some .int) 3 := ⟨tw_1819, tw_1817, tw_1818, tw_15, by decide +kernel⟩
theorem yh_L_child : eYH yL_child cL_child 6 (some .int) [(0, 12, 15, 22)] 5 := ⟨tw_1002, tw_1001, tw_0, by decide +kernel⟩
theorem yk_X12_child : eYV yX12_child cX12_child 4 (some .int) 3 := ⟨tw_1823, tw_1821, tw_1822, tw_15, by decide +kernel⟩
theorem yk_X12_grown : eYV yX12_grown cX12_grown 5 (some .int) 4 := ⟨tw_1831, tw_1829, tw_1830, tw_15, by decide +kernel⟩
theorem yh_L_grown : eYH yL_grown cL_grown 7 (some .int) [(0, 14, 17, 22), (0, 14, 21, 13), (0, 14, 25, 44)] 6 := ⟨tw_1010, tw_1009, tw_0, by decide +kernel⟩
theorem yk_X12_taken : eYV yX12_taken cX12_taken 6 (some .boolean) 4 := ⟨tw_1839, tw_1837, tw_1838, tw_15, by decide +kernel⟩
theorem yh_L_taken : eYH yL_taken cL_taken 7 (some .int) [(0, 21, 24, 22), (0, 21, 28, 13), (0, 21, 32, 44)] 6 := ⟨tw_1043, tw_1042, tw_0, by decide +kernel⟩
theorem yh_L_deck : eYH yL_deck cL_deck 6 (some .int) [(0, 12, 15, 22), (0, 12, 19, 44)] 5 := ⟨tw_1050, tw_1049, tw_0, by decide +kernel⟩
theorem yk_X12_deck : eYV yX12_deck cX12_deck 4 (some .int) 3 := ⟨tw_1843, tw_1841, tw_1842, tw_15, by decide +kernel⟩
theorem yh_L_other : eYH yL_other cL_other 5 (some .int) [(0, 10, 13, 22)] 4 := ⟨tw_1063, tw_1062, tw_0, by decide +kernel⟩
theorem yk_X12_other : eYV yX12_other cX12_other 4 (some .int) 2 := ⟨tw_1847, tw_1845, tw_1846, tw_15, by decide +kernel⟩
theorem yh_L_within : eYH yL_within cL_within 7 (some .int) [(0, 14, 17, 22)] 6 := ⟨tw_1071, tw_1070, tw_0, by decide +kernel⟩
theorem yk_X12_within : eYV yX12_within cX12_within 8 (some .int) 4 := ⟨tw_1851, tw_1849, tw_1850, tw_15, by decide +kernel⟩
theorem yh_L_rooted : eYH yL_rooted cL_rooted 4 (some .int) [(0, 9, 12, 22)] 3 := ⟨tw_1079, tw_1078, tw_0, by decide +kernel⟩
theorem yk_X12_rooted : eYV yX12_rooted cX12_rooted 4 (some .int) 1 := ⟨tw_1855, tw_1853, tw_1854, tw_15, by decide +kernel⟩
theorem yh_L_turned : eYH yL_turned cL_turned 7 (some .int) [(0, 14, 17, 22), (0, 14, 21, 13)] 6 := ⟨tw_1086, tw_1085, tw_0, by decide +kernel⟩
theorem yk_X12_turned : eYV yX12_turned cX12_turned 5 (some .int) 4 := ⟨tw_1859, tw_1857, tw_1858, tw_15, by decide +kernel⟩
theorem yh_L_apart : eYH yL_apart cL_apart 6 (some .int) [(0, 12, 15, 22)] 5 := ⟨tw_1095, tw_1094, tw_0, by decide +kernel⟩
theorem yk_X12_apart : eYV yX12_apart cX12_apart 5 (some .int) 3 := ⟨tw_1863, tw_1861, tw_1862, tw_15, by decide +kernel⟩
theorem yh_L_common : eYH yL_common cL_common 7 (some .int) [(0, 14, 17, 22)] 6 := ⟨tw_1122, tw_1121, tw_0, by decide +kernel⟩
theorem yk_X12_common : eYV yX12_common cX12_common 6 (some .int) 4 := ⟨tw_1875, tw_1873, tw_1874, tw_15, by decide +kernel⟩
theorem yh_L_lines : eYH yL_lines cL_lines 5 (some .int) [(0, 10, 13, 22)] 4 := ⟨tw_1147, tw_1146, tw_0, by decide +kernel⟩
theorem yk_X12_lines : eYV yX12_lines cX12_lines 6 (some .int) 2 := ⟨tw_1887, tw_1885, tw_1886, tw_15, by decide +kernel⟩
theorem yh_L_twins : eYH yL_twins cL_twins 4 (some .int) [(0, 9, 12, 22), (0, 9, 15, 44)] 3 := ⟨tw_1158, tw_1157, tw_0, by decide +kernel⟩
theorem yk_X12_twins : eYV yX12_twins cX12_twins 7 (some .int) 1 := ⟨tw_1895, tw_1893, tw_1894, tw_15, by decide +kernel⟩
theorem yh_L_named : eYH yL_named cL_named 4 (some .int) [(0, 8, 11, 22)] 3 := ⟨tw_1181, tw_1180, tw_0, by decide +kernel⟩
theorem yk_X12_named : eYV yX12_named cX12_named 7 (some .long) 1 := ⟨tw_1903, tw_1901, tw_1902, tw_15, by decide +kernel⟩
theorem yh_L_cycles : eYH yL_cycles cL_cycles 5 (some .int) [(0, 9, 12, 13)] 4 := ⟨tw_1191, tw_1190, tw_0, by decide +kernel⟩
theorem yk_X12_cycles : eYV yX12_cycles cX12_cycles 6 (some .long) 2 := ⟨tw_1907, tw_1905, tw_1906, tw_15, by decide +kernel⟩
theorem yk_X11_full : eYV yX11_full cX11_full 5 (some .int) 1 := ⟨tw_528, tw_526, tw_527, tw_1, by decide +kernel⟩
theorem yk_X12_full : eYV yX12_full cX12_full 5 (some .int) 1 := ⟨tw_1911, tw_1909, tw_1910, tw_15, by decide +kernel⟩
theorem yh_L_form : eYH yL_form cL_form 4 (some .int) [(0, 9, 12, 28), (0, 9, 15, 44)] 3 := ⟨tw_1237, tw_1236, tw_0, by decide +kernel⟩
theorem yk_X12_form : eYV yX12_form cX12_form 2 (some .int) 1 := ⟨tw_1732, tw_1730, tw_1731, tw_15, by decide +kernel⟩
theorem yh_L_order : eYH yL_order cL_order 4 (some .int) [(0, 9, 12, 44), (0, 9, 15, 22)] 3 := ⟨tw_1250, tw_1249, tw_0, by decide +kernel⟩
theorem yk_X12_order : eYV yX12_order cX12_order 2 (some .int) 1 := ⟨tw_1739, tw_1737, tw_1738, tw_15, by decide +kernel⟩
theorem yh_L_share : eYH yL_share cL_share 6 (some .int) [(0, 12, 15, 13)] 5 := ⟨tw_1261, tw_1260, tw_0, by decide +kernel⟩
theorem yk_X12_share : eYV yX12_share cX12_share 4 (some .int) 3 := ⟨tw_1915, tw_1913, tw_1914, tw_15, by decide +kernel⟩
theorem yh_L_start : eYH yL_start cL_start 7 (some .int) [(0, 14, 17, 22), (0, 14, 21, 13)] 6 := ⟨tw_1278, tw_1277, tw_0, by decide +kernel⟩
theorem yk_X12_start : eYV yX12_start cX12_start 5 (some .int) 4 := ⟨tw_1931, tw_1929, tw_1930, tw_15, by decide +kernel⟩
theorem yh_L_next : eYH yL_next cL_next 4 (some .int) [(0, 9, 12, 22), (0, 9, 15, 44)] 3 := ⟨tw_1304, tw_1303, tw_0, by decide +kernel⟩
theorem yk_X12_next : eYV yX12_next cX12_next 3 (some .int) 1 := ⟨tw_1946, tw_1944, tw_1945, tw_15, by decide +kernel⟩
theorem yh_L_walker : eYH yL_walker cL_walker 5 (some .int) [(0, 10, 13, 22), (0, 10, 17, 28), (0, 10, 21, 44)] 4 := ⟨tw_1333, tw_1332, tw_0, by decide +kernel⟩
theorem yk_X12_walker : eYV yX12_walker cX12_walker 4 (some .int) 2 := ⟨tw_1954, tw_1952, tw_1953, tw_15, by decide +kernel⟩
theorem yh_L_resume : eYH yL_resume cL_resume 5 (some .int) [(0, 10, 13, 22), (0, 10, 17, 44), (0, 10, 21, 13)] 4 := ⟨tw_1341, tw_1340, tw_0, by decide +kernel⟩
theorem yk_X12_resume : eYV yX12_resume cX12_resume 4 (some .int) 2 := ⟨tw_1958, tw_1956, tw_1957, tw_15, by decide +kernel⟩
theorem yh_L_text : eYH yL_text cL_text 5 (some .int) [(0, 10, 13, 22)] 4 := ⟨tw_1349, tw_1348, tw_0, by decide +kernel⟩
theorem yk_X12_text : eYV yX12_text cX12_text 6 (some .int) 2 := ⟨tw_1962, tw_1960, tw_1961, tw_15, by decide +kernel⟩
theorem yk_X11_octet : eYV yX11_octet cX11_octet 2 (some .int) 1 := ⟨tw_556, tw_554, tw_555, tw_1, by decide +kernel⟩
theorem yk_X12_octet : eYV yX12_octet cX12_octet 2 (some .int) 1 := ⟨tw_1979, tw_1977, tw_1978, tw_15, by decide +kernel⟩
theorem yk_X11_image : eYV yX11_image cX11_image 1 none 0 := ⟨tw_564, tw_562, tw_563, tw_1, by decide +kernel⟩
theorem yk_X12_image : eYV yX12_image cX12_image 1 none 0 := ⟨tw_1596, tw_1594, tw_1595, tw_15, by decide +kernel⟩
theorem yk_X11_back : eYV yX11_back cX11_back 1 (some .boolean) 0 := ⟨tw_585, tw_583, tw_584, tw_1, by decide +kernel⟩
theorem yk_X12_back : eYV yX12_back cX12_back 1 (some .boolean) 0 := ⟨tw_1603, tw_1601, tw_1602, tw_15, by decide +kernel⟩
theorem yk_X11_count : eYV yX11_count cX11_count 2 (some .int) 1 := ⟨tw_589, tw_587, tw_588, tw_1, by decide +kernel⟩
theorem yk_X12_count : eYV yX12_count cX12_count 2 (some .int) 1 := ⟨tw_1983, tw_1981, tw_1982, tw_15, by decide +kernel⟩
