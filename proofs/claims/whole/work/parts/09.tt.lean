theorem k_17 : (Cond.fieldLink RX3 18 "TagTrees" "shape" "LTagTrees$Shape;") ∈ WALL := List.mem_filter.mpr ⟨List.mem_append_right _ (List.mem_of_getElem? (i := 120) (by decide +kernel)), by decide +kernel⟩
theorem k_18 : (Cond.fieldLink RX3 148 "TagTrees$Shape" "width" "I") ∈ WALL := List.mem_filter.mpr ⟨List.mem_append_right _ (List.mem_of_getElem? (i := 48) (by decide +kernel)), by decide +kernel⟩
theorem k_19 : (Cond.fieldLink RX3 151 "TagTrees$Shape" "height" "I") ∈ WALL := List.mem_filter.mpr ⟨List.mem_append_right _ (List.mem_of_getElem? (i := 50) (by decide +kernel)), by decide +kernel⟩
theorem k_20 : (Cond.fieldLink RX3 103 "TagTrees$Shape" "levels" "I") ∈ WALL := List.mem_filter.mpr ⟨List.mem_append_right _ (List.mem_of_getElem? (i := 54) (by decide +kernel)), by decide +kernel⟩
theorem k_21 : (Cond.fieldLink RX3 22 "TagTrees$Shape" "nodes" "I") ∈ WALL := List.mem_filter.mpr ⟨List.mem_append_right _ (List.mem_of_getElem? (i := 55) (by decide +kernel)), by decide +kernel⟩
theorem k_22 : (Cond.fieldLink RX3 45 "TagTrees" "toldBits" "LTagTrees$BitRow;") ∈ WALL := List.mem_filter.mpr ⟨List.mem_append_right _ (List.mem_of_getElem? (i := 124) (by decide +kernel)), by decide +kernel⟩
theorem k_23 : (Cond.fieldLink RX3 116 "TagTrees$BitRow" "many" "I") ∈ WALL := List.mem_filter.mpr ⟨List.mem_append_right _ (List.mem_of_getElem? (i := 112) (by decide +kernel)), by decide +kernel⟩
theorem k_24 : (Cond.fieldLink RX3 49 "TagTrees" "waitingBits" "LTagTrees$BitRow;") ∈ WALL := List.mem_filter.mpr ⟨List.mem_append_right _ (List.mem_of_getElem? (i := 125) (by decide +kernel)), by decide +kernel⟩
theorem k_25 : (Cond.fieldLink RX3 35 "TagTrees" "coder" "LTagTrees$Side;") ∈ WALL := List.mem_filter.mpr ⟨List.mem_append_right _ (List.mem_of_getElem? (i := 122) (by decide +kernel)), by decide +kernel⟩
theorem k_26 : (Cond.fieldLink RX3 154 "TagTrees$Side" "manyFound" "I") ∈ WALL := List.mem_filter.mpr ⟨List.mem_append_right _ (List.mem_of_getElem? (i := 94) (by decide +kernel)), by decide +kernel⟩
theorem k_27 : (Cond.fieldLink RX3 39 "TagTrees" "decoder" "LTagTrees$Side;") ∈ WALL := List.mem_filter.mpr ⟨List.mem_append_right _ (List.mem_of_getElem? (i := 123) (by decide +kernel)), by decide +kernel⟩
theorem k_28 : (Cond.fieldLink RX3 139 "TagTrees$Side" "found" "[Z") ∈ WALL := List.mem_filter.mpr ⟨List.mem_append_right _ (List.mem_of_getElem? (i := 92) (by decide +kernel)), by decide +kernel⟩
theorem k_29 : (Cond.methodLink RX3 157 yX2_forget) ∈ WALL := List.mem_filter.mpr ⟨List.mem_append_right _ (List.mem_of_getElem? (i := 150) (by decide +kernel)), by decide +kernel⟩
theorem k_30 : (Cond.code yX2_forget cX2_forget 2 none) ∈ WALL := List.mem_filter.mpr ⟨List.mem_append_right _ (List.mem_of_getElem? (i := 153) (by decide +kernel)), by decide +kernel⟩
theorem k_31 : (Cond.instanceMethod yX2_forget) ∈ WALL := List.mem_filter.mpr ⟨List.mem_append_right _ (List.mem_of_getElem? (i := 151) (by decide +kernel)), by decide +kernel⟩
theorem k_32 : (Cond.selects RX2 yX2_forget yX2_forget) ∈ WALL := List.mem_filter.mpr ⟨List.mem_append_right _ (List.mem_of_getElem? (i := 152) (by decide +kernel)), by decide +kernel⟩
theorem k_33 : (Cond.initialized RX2) ∈ WALL := List.mem_filter.mpr ⟨List.mem_append_right _ (List.mem_of_getElem? (i := 3) (by decide +kernel)), by decide +kernel⟩
theorem k_34 : (Cond.methodLink RX3 160 yX0_empty) ∈ WALL := List.mem_filter.mpr ⟨List.mem_append_right _ (List.mem_of_getElem? (i := 154) (by decide +kernel)), by decide +kernel⟩
theorem k_35 : (Cond.code yX0_empty cX0_empty 1 none) ∈ WALL := List.mem_filter.mpr ⟨List.mem_append_right _ (List.mem_of_getElem? (i := 157) (by decide +kernel)), by decide +kernel⟩
theorem k_36 : (Cond.instanceMethod yX0_empty) ∈ WALL := List.mem_filter.mpr ⟨List.mem_append_right _ (List.mem_of_getElem? (i := 155) (by decide +kernel)), by decide +kernel⟩
theorem k_37 : (Cond.selects RX0 yX0_empty yX0_empty) ∈ WALL := List.mem_filter.mpr ⟨List.mem_append_right _ (List.mem_of_getElem? (i := 156) (by decide +kernel)), by decide +kernel⟩
theorem k_38 : (Cond.fieldLink RX3 52 "TagTrees" "passed" "I") ∈ WALL := List.mem_filter.mpr ⟨List.mem_append_right _ (List.mem_of_getElem? (i := 126) (by decide +kernel)), by decide +kernel⟩
theorem k_39 : (Cond.methodLink RX3 163 yX1_hasNode) ∈ WALL := List.mem_filter.mpr ⟨List.mem_append_right _ (List.mem_of_getElem? (i := 175) (by decide +kernel)), by decide +kernel⟩
theorem k_40 : (Cond.code yX1_hasNode cX1_hasNode 4 (some .boolean)) ∈ WALL := List.mem_filter.mpr ⟨List.mem_append_right _ (List.mem_of_getElem? (i := 178) (by decide +kernel)), by decide +kernel⟩
theorem k_41 : (Cond.instanceMethod yX1_hasNode) ∈ WALL := List.mem_filter.mpr ⟨List.mem_append_right _ (List.mem_of_getElem? (i := 176) (by decide +kernel)), by decide +kernel⟩
theorem k_42 : (Cond.selects RX1 yX1_hasNode yX1_hasNode) ∈ WALL := List.mem_filter.mpr ⟨List.mem_append_right _ (List.mem_of_getElem? (i := 177) (by decide +kernel)), by decide +kernel⟩
theorem k_43 : (Cond.initialized RX1) ∈ WALL := List.mem_filter.mpr ⟨List.mem_append_right _ (List.mem_of_getElem? (i := 2) (by decide +kernel)), by decide +kernel⟩
theorem k_44 : (Cond.fieldLink RX3 26 "TagTrees" "leasts" "[I") ∈ WALL := List.mem_filter.mpr ⟨List.mem_append_right _ (List.mem_of_getElem? (i := 121) (by decide +kernel)), by decide +kernel⟩
theorem k_45 : (Cond.methodLink RX3 69 yX1_nodeAt) ∈ WALL := List.mem_filter.mpr ⟨List.mem_append_right _ (List.mem_of_getElem? (i := 284) (by decide +kernel)), by decide +kernel⟩
theorem k_46 : (Cond.code yX1_nodeAt cX1_nodeAt 4 (some .int)) ∈ WALL := List.mem_filter.mpr ⟨List.mem_append_right _ (List.mem_of_getElem? (i := 287) (by decide +kernel)), by decide +kernel⟩
theorem k_47 : (Cond.instanceMethod yX1_nodeAt) ∈ WALL := List.mem_filter.mpr ⟨List.mem_append_right _ (List.mem_of_getElem? (i := 285) (by decide +kernel)), by decide +kernel⟩
theorem k_48 : (Cond.selects RX1 yX1_nodeAt yX1_nodeAt) ∈ WALL := List.mem_filter.mpr ⟨List.mem_append_right _ (List.mem_of_getElem? (i := 286) (by decide +kernel)), by decide +kernel⟩
theorem k_49 : (Cond.methodLink RX3 81 Lib.Math.min.name) ∈ WALL := List.mem_filter.mpr ⟨List.mem_append_right _ (List.mem_of_getElem? (i := 296) (by decide +kernel)), by decide +kernel⟩
theorem k_50 : (Cond.static Lib.Math.min.name) ∈ WALL := List.mem_filter.mpr ⟨List.mem_append_right _ (List.mem_of_getElem? (i := 297) (by decide +kernel)), by decide +kernel⟩
theorem k_51 : (Cond.initialized "java/lang/Math") ∈ WALL := List.mem_filter.mpr ⟨List.mem_append_right _ (List.mem_of_getElem? (i := 12) (by decide +kernel)), by decide +kernel⟩
theorem k_52 : (Cond.code Lib.Math.min.name Lib.Math.min.code 2 (some .int)) ∈ WALL := List.mem_filter.mpr ⟨List.mem_append_right _ (List.mem_of_getElem? (i := 298) (by decide +kernel)), by decide +kernel⟩
theorem k_53 : (Cond.methodLink RX3 192 yX3_hasBits) ∈ WALL := List.mem_filter.mpr ⟨List.mem_append_right _ (List.mem_of_getElem? (i := 330) (by decide +kernel)), by decide +kernel⟩
theorem k_54 : (Cond.code yX3_hasBits cX3_hasBits 4 (some .boolean)) ∈ WALL := List.mem_filter.mpr ⟨List.mem_append_right _ (List.mem_of_getElem? (i := 333) (by decide +kernel)), by decide +kernel⟩
theorem k_55 : (Cond.instanceMethod yX3_hasBits) ∈ WALL := List.mem_filter.mpr ⟨List.mem_append_right _ (List.mem_of_getElem? (i := 332) (by decide +kernel)), by decide +kernel⟩
theorem k_56 : (Cond.selects RX3 yX3_hasBits yX3_hasBits) ∈ WALL := List.mem_filter.mpr ⟨List.mem_append_left _ (List.mem_of_getElem? (i := 9) (by decide +kernel)), by decide +kernel⟩
theorem k_57 : (Cond.initialized RX3) ∈ WALL := List.mem_filter.mpr ⟨List.mem_append_right _ (List.mem_of_getElem? (i := 1) (by decide +kernel)), by decide +kernel⟩
theorem k_58 : (Cond.fieldLink RX3 183 "TagTrees$Shape" "down" "[I") ∈ WALL := List.mem_filter.mpr ⟨List.mem_append_right _ (List.mem_of_getElem? (i := 60) (by decide +kernel)), by decide +kernel⟩
theorem k_59 : (Cond.fieldLink RX3 186 "TagTrees$Shape" "across" "[I") ∈ WALL := List.mem_filter.mpr ⟨List.mem_append_right _ (List.mem_of_getElem? (i := 58) (by decide +kernel)), by decide +kernel⟩
theorem k_60 : (Cond.methodLink RX3 189 yX3_leastOfChildren) ∈ WALL := List.mem_filter.mpr ⟨List.mem_append_right _ (List.mem_of_getElem? (i := 292) (by decide +kernel)), by decide +kernel⟩
theorem k_61 : (Cond.code yX3_leastOfChildren cX3_leastOfChildren 8 (some .int)) ∈ WALL := List.mem_filter.mpr ⟨List.mem_append_right _ (List.mem_of_getElem? (i := 295) (by decide +kernel)), by decide +kernel⟩
theorem k_62 : (Cond.instanceMethod yX3_leastOfChildren) ∈ WALL := List.mem_filter.mpr ⟨List.mem_append_right _ (List.mem_of_getElem? (i := 294) (by decide +kernel)), by decide +kernel⟩
theorem k_63 : (Cond.selects RX3 yX3_leastOfChildren yX3_leastOfChildren) ∈ WALL := List.mem_filter.mpr ⟨List.mem_append_left _ (List.mem_of_getElem? (i := 6) (by decide +kernel)), by decide +kernel⟩
theorem k_64 : (Cond.methodLink RX3 195 yX3_boundAfter) ∈ WALL := List.mem_filter.mpr ⟨List.mem_append_right _ (List.mem_of_getElem? (i := 334) (by decide +kernel)), by decide +kernel⟩
theorem k_65 : (Cond.code yX3_boundAfter cX3_boundAfter 4 (some .int)) ∈ WALL := List.mem_filter.mpr ⟨List.mem_append_right _ (List.mem_of_getElem? (i := 337) (by decide +kernel)), by decide +kernel⟩
theorem k_66 : (Cond.instanceMethod yX3_boundAfter) ∈ WALL := List.mem_filter.mpr ⟨List.mem_append_right _ (List.mem_of_getElem? (i := 336) (by decide +kernel)), by decide +kernel⟩
theorem k_67 : (Cond.selects RX3 yX3_boundAfter yX3_boundAfter) ∈ WALL := List.mem_filter.mpr ⟨List.mem_append_left _ (List.mem_of_getElem? (i := 10) (by decide +kernel)), by decide +kernel⟩
theorem k_68 : (Cond.fieldLink RX3 143 "TagTrees$Side" "bounds" "[I") ∈ WALL := List.mem_filter.mpr ⟨List.mem_append_right _ (List.mem_of_getElem? (i := 90) (by decide +kernel)), by decide +kernel⟩
theorem k_69 : (Cond.methodLink RX3 130 yX0_append) ∈ WALL := List.mem_filter.mpr ⟨List.mem_append_right _ (List.mem_of_getElem? (i := 366) (by decide +kernel)), by decide +kernel⟩
theorem k_70 : (Cond.code yX0_append cX0_append 4 none) ∈ WALL := List.mem_filter.mpr ⟨List.mem_append_right _ (List.mem_of_getElem? (i := 369) (by decide +kernel)), by decide +kernel⟩
theorem k_71 : (Cond.instanceMethod yX0_append) ∈ WALL := List.mem_filter.mpr ⟨List.mem_append_right _ (List.mem_of_getElem? (i := 367) (by decide +kernel)), by decide +kernel⟩
theorem k_72 : (Cond.selects RX0 yX0_append yX0_append) ∈ WALL := List.mem_filter.mpr ⟨List.mem_append_right _ (List.mem_of_getElem? (i := 368) (by decide +kernel)), by decide +kernel⟩
theorem k_73 : (Cond.methodLink RX3 207 yX2_find) ∈ WALL := List.mem_filter.mpr ⟨List.mem_append_right _ (List.mem_of_getElem? (i := 375) (by decide +kernel)), by decide +kernel⟩
theorem k_74 : (Cond.code yX2_find cX2_find 2 none) ∈ WALL := List.mem_filter.mpr ⟨List.mem_append_right _ (List.mem_of_getElem? (i := 378) (by decide +kernel)), by decide +kernel⟩
theorem k_75 : (Cond.instanceMethod yX2_find) ∈ WALL := List.mem_filter.mpr ⟨List.mem_append_right _ (List.mem_of_getElem? (i := 376) (by decide +kernel)), by decide +kernel⟩
theorem k_76 : (Cond.selects RX2 yX2_find yX2_find) ∈ WALL := List.mem_filter.mpr ⟨List.mem_append_right _ (List.mem_of_getElem? (i := 377) (by decide +kernel)), by decide +kernel⟩
theorem k_77 : (Cond.methodLink RX3 198 Lib.Math.max.name) ∈ WALL := List.mem_filter.mpr ⟨List.mem_append_right _ (List.mem_of_getElem? (i := 323) (by decide +kernel)), by decide +kernel⟩
theorem k_78 : (Cond.static Lib.Math.max.name) ∈ WALL := List.mem_filter.mpr ⟨List.mem_append_right _ (List.mem_of_getElem? (i := 324) (by decide +kernel)), by decide +kernel⟩
theorem k_79 : (Cond.code Lib.Math.max.name Lib.Math.max.code 2 (some .int)) ∈ WALL := List.mem_filter.mpr ⟨List.mem_append_right _ (List.mem_of_getElem? (i := 325) (by decide +kernel)), by decide +kernel⟩
theorem k_80 : (Cond.methodLink RX3 124 yX0_look) ∈ WALL := List.mem_filter.mpr ⟨List.mem_append_right _ (List.mem_of_getElem? (i := 417) (by decide +kernel)), by decide +kernel⟩
theorem k_81 : (Cond.code yX0_look cX0_look 3 (some .int)) ∈ WALL := List.mem_filter.mpr ⟨List.mem_append_right _ (List.mem_of_getElem? (i := 420) (by decide +kernel)), by decide +kernel⟩
theorem k_82 : (Cond.instanceMethod yX0_look) ∈ WALL := List.mem_filter.mpr ⟨List.mem_append_right _ (List.mem_of_getElem? (i := 418) (by decide +kernel)), by decide +kernel⟩
theorem k_83 : (Cond.selects RX0 yX0_look yX0_look) ∈ WALL := List.mem_filter.mpr ⟨List.mem_append_right _ (List.mem_of_getElem? (i := 419) (by decide +kernel)), by decide +kernel⟩
theorem k_84 : (Cond.methodLink RX3 201 yX3_costOfNode) ∈ WALL := List.mem_filter.mpr ⟨List.mem_append_right _ (List.mem_of_getElem? (i := 326) (by decide +kernel)), by decide +kernel⟩
theorem k_85 : (Cond.code yX3_costOfNode cX3_costOfNode 5 (some .int)) ∈ WALL := List.mem_filter.mpr ⟨List.mem_append_right _ (List.mem_of_getElem? (i := 329) (by decide +kernel)), by decide +kernel⟩
theorem k_86 : (Cond.instanceMethod yX3_costOfNode) ∈ WALL := List.mem_filter.mpr ⟨List.mem_append_right _ (List.mem_of_getElem? (i := 328) (by decide +kernel)), by decide +kernel⟩
theorem k_87 : (Cond.selects RX3 yX3_costOfNode yX3_costOfNode) ∈ WALL := List.mem_filter.mpr ⟨List.mem_append_left _ (List.mem_of_getElem? (i := 8) (by decide +kernel)), by decide +kernel⟩
theorem k_88 : (Cond.methodLink RX3 106 yX3_costBelow) ∈ WALL := List.mem_filter.mpr ⟨List.mem_append_right _ (List.mem_of_getElem? (i := 397) (by decide +kernel)), by decide +kernel⟩
theorem k_89 : (Cond.code yX3_costBelow cX3_costBelow 11 (some .int)) ∈ WALL := List.mem_filter.mpr ⟨List.mem_append_right _ (List.mem_of_getElem? (i := 400) (by decide +kernel)), by decide +kernel⟩
theorem k_90 : (Cond.instanceMethod yX3_costBelow) ∈ WALL := List.mem_filter.mpr ⟨List.mem_append_right _ (List.mem_of_getElem? (i := 399) (by decide +kernel)), by decide +kernel⟩
theorem k_91 : (Cond.selects RX3 yX3_costBelow yX3_costBelow) ∈ WALL := List.mem_filter.mpr ⟨List.mem_append_left _ (List.mem_of_getElem? (i := 14) (by decide +kernel)), by decide +kernel⟩
theorem k_92 : (Cond.methodLink RX3 204 yX3_tellNode) ∈ WALL := List.mem_filter.mpr ⟨List.mem_append_right _ (List.mem_of_getElem? (i := 362) (by decide +kernel)), by decide +kernel⟩
theorem k_93 : (Cond.code yX3_tellNode cX3_tellNode 6 none) ∈ WALL := List.mem_filter.mpr ⟨List.mem_append_right _ (List.mem_of_getElem? (i := 365) (by decide +kernel)), by decide +kernel⟩
theorem k_94 : (Cond.instanceMethod yX3_tellNode) ∈ WALL := List.mem_filter.mpr ⟨List.mem_append_right _ (List.mem_of_getElem? (i := 364) (by decide +kernel)), by decide +kernel⟩
theorem k_95 : (Cond.selects RX3 yX3_tellNode yX3_tellNode) ∈ WALL := List.mem_filter.mpr ⟨List.mem_append_left _ (List.mem_of_getElem? (i := 12) (by decide +kernel)), by decide +kernel⟩
theorem k_96 : (Cond.methodLink RX3 210 yX3_takeBits) ∈ WALL := List.mem_filter.mpr ⟨List.mem_append_right _ (List.mem_of_getElem? (i := 448) (by decide +kernel)), by decide +kernel⟩
theorem k_97 : (Cond.code yX3_takeBits cX3_takeBits 10 (some .int)) ∈ WALL := List.mem_filter.mpr ⟨List.mem_append_right _ (List.mem_of_getElem? (i := 451) (by decide +kernel)), by decide +kernel⟩
theorem k_98 : (Cond.instanceMethod yX3_takeBits) ∈ WALL := List.mem_filter.mpr ⟨List.mem_append_right _ (List.mem_of_getElem? (i := 450) (by decide +kernel)), by decide +kernel⟩
theorem k_99 : (Cond.selects RX3 yX3_takeBits yX3_takeBits) ∈ WALL := List.mem_filter.mpr ⟨List.mem_append_left _ (List.mem_of_getElem? (i := 16) (by decide +kernel)), by decide +kernel⟩
theorem k_100 : (Cond.methodLink RX3 214 yX0_drop) ∈ WALL := List.mem_filter.mpr ⟨List.mem_append_right _ (List.mem_of_getElem? (i := 452) (by decide +kernel)), by decide +kernel⟩
theorem k_101 : (Cond.code yX0_drop cX0_drop 2 none) ∈ WALL := List.mem_filter.mpr ⟨List.mem_append_right _ (List.mem_of_getElem? (i := 455) (by decide +kernel)), by decide +kernel⟩
theorem k_102 : (Cond.instanceMethod yX0_drop) ∈ WALL := List.mem_filter.mpr ⟨List.mem_append_right _ (List.mem_of_getElem? (i := 453) (by decide +kernel)), by decide +kernel⟩
theorem k_103 : (Cond.selects RX0 yX0_drop yX0_drop) ∈ WALL := List.mem_filter.mpr ⟨List.mem_append_right _ (List.mem_of_getElem? (i := 454) (by decide +kernel)), by decide +kernel⟩
theorem dX3_told_0 : decode cX3_told 0 = .ok (.iload_n 1, 1) := by decide +kernel
theorem dX3_told_1 : decode cX3_told 1 = .ok (.tableswitch 111 0 7 #[47, 55, 63, 71, 79, 87, 95, 103], 47) := by decide +kernel
theorem dX3_told_48 : decode cX3_told 48 = .ok (.aload_n 0, 1) := by decide +kernel
theorem dX3_told_49 : decode cX3_told 49 = .ok (.getfield 18, 3) := by decide +kernel
theorem dX3_told_52 : decode cX3_told 52 = .ok (.getfield 148, 3) := by decide +kernel
theorem dX3_told_55 : decode cX3_told 55 = .ok (.ireturn, 1) := by decide +kernel
theorem dX3_told_56 : decode cX3_told 56 = .ok (.aload_n 0, 1) := by decide +kernel
theorem dX3_told_57 : decode cX3_told 57 = .ok (.getfield 18, 3) := by decide +kernel
theorem dX3_told_60 : decode cX3_told 60 = .ok (.getfield 151, 3) := by decide +kernel
theorem dX3_told_63 : decode cX3_told 63 = .ok (.ireturn, 1) := by decide +kernel
theorem dX3_told_64 : decode cX3_told 64 = .ok (.aload_n 0, 1) := by decide +kernel
theorem dX3_told_65 : decode cX3_told 65 = .ok (.getfield 18, 3) := by decide +kernel
theorem dX3_told_68 : decode cX3_told 68 = .ok (.getfield 103, 3) := by decide +kernel
theorem dX3_told_71 : decode cX3_told 71 = .ok (.ireturn, 1) := by decide +kernel
theorem dX3_told_72 : decode cX3_told 72 = .ok (.aload_n 0, 1) := by decide +kernel
theorem dX3_told_73 : decode cX3_told 73 = .ok (.getfield 18, 3) := by decide +kernel
theorem dX3_told_76 : decode cX3_told 76 = .ok (.getfield 22, 3) := by decide +kernel
theorem dX3_told_79 : decode cX3_told 79 = .ok (.ireturn, 1) := by decide +kernel
theorem dX3_told_80 : decode cX3_told 80 = .ok (.aload_n 0, 1) := by decide +kernel
theorem dX3_told_81 : decode cX3_told 81 = .ok (.getfield 45, 3) := by decide +kernel
theorem dX3_told_84 : decode cX3_told 84 = .ok (.getfield 116, 3) := by decide +kernel
theorem dX3_told_87 : decode cX3_told 87 = .ok (.ireturn, 1) := by decide +kernel
theorem dX3_told_88 : decode cX3_told 88 = .ok (.aload_n 0, 1) := by decide +kernel
theorem dX3_told_89 : decode cX3_told 89 = .ok (.getfield 49, 3) := by decide +kernel
theorem dX3_told_92 : decode cX3_told 92 = .ok (.getfield 116, 3) := by decide +kernel
theorem dX3_told_95 : decode cX3_told 95 = .ok (.ireturn, 1) := by decide +kernel
theorem dX3_told_96 : decode cX3_told 96 = .ok (.aload_n 0, 1) := by decide +kernel
theorem dX3_told_97 : decode cX3_told 97 = .ok (.getfield 35, 3) := by decide +kernel
theorem dX3_told_100 : decode cX3_told 100 = .ok (.getfield 154, 3) := by decide +kernel
theorem dX3_told_103 : decode cX3_told 103 = .ok (.ireturn, 1) := by decide +kernel
theorem dX3_told_104 : decode cX3_told 104 = .ok (.aload_n 0, 1) := by decide +kernel
theorem dX3_told_105 : decode cX3_told 105 = .ok (.getfield 39, 3) := by decide +kernel
theorem dX3_told_108 : decode cX3_told 108 = .ok (.getfield 154, 3) := by decide +kernel
theorem dX3_told_111 : decode cX3_told 111 = .ok (.ireturn, 1) := by decide +kernel
theorem dX3_told_112 : decode cX3_told 112 = .ok (.iconst (-1), 1) := by decide +kernel
theorem dX3_told_113 : decode cX3_told 113 = .ok (.ireturn, 1) := by decide +kernel
theorem dX3_nearest_0 : decode cX3_nearest 0 = .ok (.lload_n 0, 1) := by decide +kernel
theorem dX3_nearest_1 : decode cX3_nearest 1 = .ok (.iload_n 2, 1) := by decide +kernel
theorem dX3_nearest_2 : decode cX3_nearest 2 = .ok (.i2l, 1) := by decide +kernel
theorem dX3_nearest_3 : decode cX3_nearest 3 = .ok (.lcmp, 1) := by decide +kernel
theorem dX3_nearest_4 : decode cX3_nearest 4 = .ok (.ifCond .ge 7, 3) := by decide +kernel
theorem dX3_nearest_7 : decode cX3_nearest 7 = .ok (.iload_n 2, 1) := by decide +kernel
theorem dX3_nearest_8 : decode cX3_nearest 8 = .ok (.goto 16, 3) := by decide +kernel
theorem dX3_nearest_11 : decode cX3_nearest 11 = .ok (.lload_n 0, 1) := by decide +kernel
theorem dX3_nearest_12 : decode cX3_nearest 12 = .ok (.iload_n 3, 1) := by decide +kernel
theorem dX3_nearest_13 : decode cX3_nearest 13 = .ok (.i2l, 1) := by decide +kernel
theorem dX3_nearest_14 : decode cX3_nearest 14 = .ok (.lcmp, 1) := by decide +kernel
theorem dX3_nearest_15 : decode cX3_nearest 15 = .ok (.ifCond .le 7, 3) := by decide +kernel
theorem dX3_nearest_18 : decode cX3_nearest 18 = .ok (.iload_n 3, 1) := by decide +kernel
theorem dX3_nearest_19 : decode cX3_nearest 19 = .ok (.goto 5, 3) := by decide +kernel
theorem dX3_nearest_22 : decode cX3_nearest 22 = .ok (.lload_n 0, 1) := by decide +kernel
theorem dX3_nearest_23 : decode cX3_nearest 23 = .ok (.l2i, 1) := by decide +kernel
theorem dX3_nearest_24 : decode cX3_nearest 24 = .ok (.ireturn, 1) := by decide +kernel
theorem dX3_hasBits_0 : decode cX3_hasBits 0 = .ok (.iload_n 2, 1) := by decide +kernel
theorem dX3_hasBits_1 : decode cX3_hasBits 1 = .ok (.iload_n 3, 1) := by decide +kernel
theorem dX3_hasBits_2 : decode cX3_hasBits 2 = .ok (.if_icmp .ge 19, 3) := by decide +kernel
theorem dX3_hasBits_5 : decode cX3_hasBits 5 = .ok (.aload_n 0, 1) := by decide +kernel
theorem dX3_hasBits_6 : decode cX3_hasBits 6 = .ok (.getfield 35, 3) := by decide +kernel
theorem dX3_hasBits_9 : decode cX3_hasBits 9 = .ok (.getfield 139, 3) := by decide +kernel
theorem dX3_hasBits_12 : decode cX3_hasBits 12 = .ok (.iload_n 1, 1) := by decide +kernel
theorem dX3_hasBits_13 : decode cX3_hasBits 13 = .ok (.baload, 1) := by decide +kernel
theorem dX3_hasBits_14 : decode cX3_hasBits 14 = .ok (.ifCond .ne 7, 3) := by decide +kernel
theorem dX3_hasBits_17 : decode cX3_hasBits 17 = .ok (.iconst 1, 1) := by decide +kernel
theorem dX3_hasBits_18 : decode cX3_hasBits 18 = .ok (.goto 4, 3) := by decide +kernel
theorem dX3_hasBits_21 : decode cX3_hasBits 21 = .ok (.iconst 0, 1) := by decide +kernel
theorem dX3_hasBits_22 : decode cX3_hasBits 22 = .ok (.ireturn, 1) := by decide +kernel
theorem dX3_reset_0 : decode cX3_reset 0 = .ok (.aload_n 0, 1) := by decide +kernel
theorem dX3_reset_1 : decode cX3_reset 1 = .ok (.getfield 35, 3) := by decide +kernel
theorem dX3_reset_4 : decode cX3_reset 4 = .ok (.invokevirtual 157, 3) := by decide +kernel
theorem dX3_reset_7 : decode cX3_reset 7 = .ok (.aload_n 0, 1) := by decide +kernel
theorem dX3_reset_8 : decode cX3_reset 8 = .ok (.getfield 39, 3) := by decide +kernel
theorem dX3_reset_11 : decode cX3_reset 11 = .ok (.invokevirtual 157, 3) := by decide +kernel
theorem dX3_reset_14 : decode cX3_reset 14 = .ok (.aload_n 0, 1) := by decide +kernel
theorem dX3_reset_15 : decode cX3_reset 15 = .ok (.getfield 45, 3) := by decide +kernel
theorem dX3_reset_18 : decode cX3_reset 18 = .ok (.invokevirtual 160, 3) := by decide +kernel
theorem dX3_reset_21 : decode cX3_reset 21 = .ok (.aload_n 0, 1) := by decide +kernel
theorem dX3_reset_22 : decode cX3_reset 22 = .ok (.getfield 49, 3) := by decide +kernel
theorem dX3_reset_25 : decode cX3_reset 25 = .ok (.invokevirtual 160, 3) := by decide +kernel
theorem dX3_reset_28 : decode cX3_reset 28 = .ok (.aload_n 0, 1) := by decide +kernel
theorem dX3_reset_29 : decode cX3_reset 29 = .ok (.iconst 0, 1) := by decide +kernel
theorem dX3_reset_30 : decode cX3_reset 30 = .ok (.putfield 52, 3) := by decide +kernel
theorem dX3_reset_33 : decode cX3_reset 33 = .ok (.return_, 1) := by decide +kernel
theorem dX3_leastOfChildren_0 : decode cX3_leastOfChildren 0 = .ok (.sipush 1000, 3) := by decide +kernel
theorem dX3_leastOfChildren_3 : decode cX3_leastOfChildren 3 = .ok (.istore 4, 2) := by decide +kernel
theorem dX3_leastOfChildren_5 : decode cX3_leastOfChildren 5 = .ok (.iconst 0, 1) := by decide +kernel
theorem dX3_leastOfChildren_6 : decode cX3_leastOfChildren 6 = .ok (.istore 5, 2) := by decide +kernel
theorem dX3_leastOfChildren_8 : decode cX3_leastOfChildren 8 = .ok (.iload 5, 2) := by decide +kernel
theorem dX3_leastOfChildren_10 : decode cX3_leastOfChildren 10 = .ok (.iconst 4, 1) := by decide +kernel
theorem dX3_leastOfChildren_11 : decode cX3_leastOfChildren 11 = .ok (.if_icmp .ge 72, 3) := by decide +kernel
theorem dX3_leastOfChildren_14 : decode cX3_leastOfChildren 14 = .ok (.iconst 2, 1) := by decide +kernel
theorem dX3_leastOfChildren_15 : decode cX3_leastOfChildren 15 = .ok (.iload_n 2, 1) := by decide +kernel
theorem dX3_leastOfChildren_16 : decode cX3_leastOfChildren 16 = .ok (.imul, 1) := by decide +kernel
theorem dX3_leastOfChildren_17 : decode cX3_leastOfChildren 17 = .ok (.iload 5, 2) := by decide +kernel
theorem dX3_leastOfChildren_19 : decode cX3_leastOfChildren 19 = .ok (.iconst 1, 1) := by decide +kernel
theorem dX3_leastOfChildren_20 : decode cX3_leastOfChildren 20 = .ok (.iand, 1) := by decide +kernel
theorem dX3_leastOfChildren_21 : decode cX3_leastOfChildren 21 = .ok (.iadd, 1) := by decide +kernel
theorem dX3_leastOfChildren_22 : decode cX3_leastOfChildren 22 = .ok (.istore 6, 2) := by decide +kernel
theorem dX3_leastOfChildren_24 : decode cX3_leastOfChildren 24 = .ok (.iconst 2, 1) := by decide +kernel
theorem dX3_leastOfChildren_25 : decode cX3_leastOfChildren 25 = .ok (.iload_n 3, 1) := by decide +kernel
theorem dX3_leastOfChildren_26 : decode cX3_leastOfChildren 26 = .ok (.imul, 1) := by decide +kernel
theorem dX3_leastOfChildren_27 : decode cX3_leastOfChildren 27 = .ok (.iload 5, 2) := by decide +kernel
theorem dX3_leastOfChildren_29 : decode cX3_leastOfChildren 29 = .ok (.iconst 1, 1) := by decide +kernel
theorem dX3_leastOfChildren_30 : decode cX3_leastOfChildren 30 = .ok (.ishr, 1) := by decide +kernel
theorem dX3_leastOfChildren_31 : decode cX3_leastOfChildren 31 = .ok (.iadd, 1) := by decide +kernel
theorem dX3_leastOfChildren_32 : decode cX3_leastOfChildren 32 = .ok (.istore 7, 2) := by decide +kernel
theorem dX3_leastOfChildren_34 : decode cX3_leastOfChildren 34 = .ok (.aload_n 0, 1) := by decide +kernel
theorem dX3_leastOfChildren_35 : decode cX3_leastOfChildren 35 = .ok (.getfield 18, 3) := by decide +kernel
theorem dX3_leastOfChildren_38 : decode cX3_leastOfChildren 38 = .ok (.iload_n 1, 1) := by decide +kernel
theorem dX3_leastOfChildren_39 : decode cX3_leastOfChildren 39 = .ok (.iconst 1, 1) := by decide +kernel
theorem dX3_leastOfChildren_40 : decode cX3_leastOfChildren 40 = .ok (.isub, 1) := by decide +kernel
theorem dX3_leastOfChildren_41 : decode cX3_leastOfChildren 41 = .ok (.iload 6, 2) := by decide +kernel
theorem dX3_leastOfChildren_43 : decode cX3_leastOfChildren 43 = .ok (.iload 7, 2) := by decide +kernel
theorem dX3_leastOfChildren_45 : decode cX3_leastOfChildren 45 = .ok (.invokevirtual 163, 3) := by decide +kernel
theorem dX3_leastOfChildren_48 : decode cX3_leastOfChildren 48 = .ok (.ifCond .eq 29, 3) := by decide +kernel
theorem dX3_leastOfChildren_51 : decode cX3_leastOfChildren 51 = .ok (.iload 4, 2) := by decide +kernel
theorem dX3_leastOfChildren_53 : decode cX3_leastOfChildren 53 = .ok (.aload_n 0, 1) := by decide +kernel
theorem dX3_leastOfChildren_54 : decode cX3_leastOfChildren 54 = .ok (.getfield 26, 3) := by decide +kernel
theorem dX3_leastOfChildren_57 : decode cX3_leastOfChildren 57 = .ok (.aload_n 0, 1) := by decide +kernel
theorem dX3_leastOfChildren_58 : decode cX3_leastOfChildren 58 = .ok (.getfield 18, 3) := by decide +kernel
theorem dX3_leastOfChildren_61 : decode cX3_leastOfChildren 61 = .ok (.iload_n 1, 1) := by decide +kernel
theorem dX3_leastOfChildren_62 : decode cX3_leastOfChildren 62 = .ok (.iconst 1, 1) := by decide +kernel
theorem dX3_leastOfChildren_63 : decode cX3_leastOfChildren 63 = .ok (.isub, 1) := by decide +kernel
theorem dX3_leastOfChildren_64 : decode cX3_leastOfChildren 64 = .ok (.iload 6, 2) := by decide +kernel
theorem dX3_leastOfChildren_66 : decode cX3_leastOfChildren 66 = .ok (.iload 7, 2) := by decide +kernel
theorem dX3_leastOfChildren_68 : decode cX3_leastOfChildren 68 = .ok (.invokevirtual 69, 3) := by decide +kernel
theorem dX3_leastOfChildren_71 : decode cX3_leastOfChildren 71 = .ok (.iaload, 1) := by decide +kernel
theorem dX3_leastOfChildren_72 : decode cX3_leastOfChildren 72 = .ok (.invokestatic 81, 3) := by decide +kernel
theorem dX3_leastOfChildren_75 : decode cX3_leastOfChildren 75 = .ok (.istore 4, 2) := by decide +kernel
theorem dX3_leastOfChildren_77 : decode cX3_leastOfChildren 77 = .ok (.iinc 5 1, 3) := by decide +kernel
theorem dX3_leastOfChildren_80 : decode cX3_leastOfChildren 80 = .ok (.goto (-72), 3) := by decide +kernel
theorem dX3_leastOfChildren_83 : decode cX3_leastOfChildren 83 = .ok (.iload 4, 2) := by decide +kernel
theorem dX3_leastOfChildren_85 : decode cX3_leastOfChildren 85 = .ok (.ireturn, 1) := by decide +kernel
theorem dX3_boundAfter_0 : decode cX3_boundAfter 0 = .ok (.aload_n 0, 1) := by decide +kernel
theorem dX3_boundAfter_1 : decode cX3_boundAfter 1 = .ok (.iload_n 1, 1) := by decide +kernel
theorem dX3_boundAfter_2 : decode cX3_boundAfter 2 = .ok (.iload_n 2, 1) := by decide +kernel
theorem dX3_boundAfter_3 : decode cX3_boundAfter 3 = .ok (.iload_n 3, 1) := by decide +kernel
theorem dX3_boundAfter_4 : decode cX3_boundAfter 4 = .ok (.invokevirtual 192, 3) := by decide +kernel
theorem dX3_boundAfter_7 : decode cX3_boundAfter 7 = .ok (.ifCond .eq 16, 3) := by decide +kernel
theorem dX3_boundAfter_10 : decode cX3_boundAfter 10 = .ok (.aload_n 0, 1) := by decide +kernel
theorem dX3_boundAfter_11 : decode cX3_boundAfter 11 = .ok (.getfield 26, 3) := by decide +kernel
theorem dX3_boundAfter_14 : decode cX3_boundAfter 14 = .ok (.iload_n 1, 1) := by decide +kernel
theorem dX3_boundAfter_15 : decode cX3_boundAfter 15 = .ok (.iaload, 1) := by decide +kernel
theorem dX3_boundAfter_16 : decode cX3_boundAfter 16 = .ok (.iload_n 3, 1) := by decide +kernel
theorem dX3_boundAfter_17 : decode cX3_boundAfter 17 = .ok (.invokestatic 81, 3) := by decide +kernel
theorem dX3_boundAfter_20 : decode cX3_boundAfter 20 = .ok (.goto 4, 3) := by decide +kernel
theorem dX3_boundAfter_23 : decode cX3_boundAfter 23 = .ok (.iload_n 2, 1) := by decide +kernel
theorem dX3_boundAfter_24 : decode cX3_boundAfter 24 = .ok (.ireturn, 1) := by decide +kernel
theorem dX3_renewLeasts_0 : decode cX3_renewLeasts 0 = .ok (.iconst 1, 1) := by decide +kernel
theorem dX3_renewLeasts_1 : decode cX3_renewLeasts 1 = .ok (.istore_n 1, 1) := by decide +kernel
theorem dX3_renewLeasts_2 : decode cX3_renewLeasts 2 = .ok (.iload_n 1, 1) := by decide +kernel
theorem dX3_renewLeasts_3 : decode cX3_renewLeasts 3 = .ok (.aload_n 0, 1) := by decide +kernel
theorem dX3_renewLeasts_4 : decode cX3_renewLeasts 4 = .ok (.getfield 18, 3) := by decide +kernel
theorem dX3_renewLeasts_7 : decode cX3_renewLeasts 7 = .ok (.getfield 103, 3) := by decide +kernel
theorem dX3_renewLeasts_10 : decode cX3_renewLeasts 10 = .ok (.if_icmp .ge 73, 3) := by decide +kernel
theorem dX3_renewLeasts_13 : decode cX3_renewLeasts 13 = .ok (.iconst 0, 1) := by decide +kernel
theorem dX3_renewLeasts_14 : decode cX3_renewLeasts 14 = .ok (.istore_n 2, 1) := by decide +kernel
theorem dX3_renewLeasts_15 : decode cX3_renewLeasts 15 = .ok (.iload_n 2, 1) := by decide +kernel
theorem dX3_renewLeasts_16 : decode cX3_renewLeasts 16 = .ok (.aload_n 0, 1) := by decide +kernel
theorem dX3_renewLeasts_17 : decode cX3_renewLeasts 17 = .ok (.getfield 18, 3) := by decide +kernel
theorem dX3_renewLeasts_20 : decode cX3_renewLeasts 20 = .ok (.getfield 183, 3) := by decide +kernel
theorem dX3_renewLeasts_23 : decode cX3_renewLeasts 23 = .ok (.iload_n 1, 1) := by decide +kernel
theorem dX3_renewLeasts_24 : decode cX3_renewLeasts 24 = .ok (.iaload, 1) := by decide +kernel
theorem dX3_renewLeasts_25 : decode cX3_renewLeasts 25 = .ok (.if_icmp .ge 52, 3) := by decide +kernel
theorem dX3_renewLeasts_28 : decode cX3_renewLeasts 28 = .ok (.iconst 0, 1) := by decide +kernel
theorem dX3_renewLeasts_29 : decode cX3_renewLeasts 29 = .ok (.istore_n 3, 1) := by decide +kernel
theorem dX3_renewLeasts_30 : decode cX3_renewLeasts 30 = .ok (.iload_n 3, 1) := by decide +kernel
theorem dX3_renewLeasts_31 : decode cX3_renewLeasts 31 = .ok (.aload_n 0, 1) := by decide +kernel
theorem dX3_renewLeasts_32 : decode cX3_renewLeasts 32 = .ok (.getfield 18, 3) := by decide +kernel
theorem dX3_renewLeasts_35 : decode cX3_renewLeasts 35 = .ok (.getfield 186, 3) := by decide +kernel
theorem dX3_renewLeasts_38 : decode cX3_renewLeasts 38 = .ok (.iload_n 1, 1) := by decide +kernel
theorem dX3_renewLeasts_39 : decode cX3_renewLeasts 39 = .ok (.iaload, 1) := by decide +kernel
theorem dX3_renewLeasts_40 : decode cX3_renewLeasts 40 = .ok (.if_icmp .ge 31, 3) := by decide +kernel
theorem dX3_renewLeasts_43 : decode cX3_renewLeasts 43 = .ok (.aload_n 0, 1) := by decide +kernel
theorem dX3_renewLeasts_44 : decode cX3_renewLeasts 44 = .ok (.getfield 26, 3) := by decide +kernel
theorem dX3_renewLeasts_47 : decode cX3_renewLeasts 47 = .ok (.aload_n 0, 1) := by decide +kernel
theorem dX3_renewLeasts_48 : decode cX3_renewLeasts 48 = .ok (.getfield 18, 3) := by decide +kernel
theorem dX3_renewLeasts_51 : decode cX3_renewLeasts 51 = .ok (.iload_n 1, 1) := by decide +kernel
theorem dX3_renewLeasts_52 : decode cX3_renewLeasts 52 = .ok (.iload_n 3, 1) := by decide +kernel
theorem dX3_renewLeasts_53 : decode cX3_renewLeasts 53 = .ok (.iload_n 2, 1) := by decide +kernel
theorem dX3_renewLeasts_54 : decode cX3_renewLeasts 54 = .ok (.invokevirtual 69, 3) := by decide +kernel
theorem dX3_renewLeasts_57 : decode cX3_renewLeasts 57 = .ok (.aload_n 0, 1) := by decide +kernel
theorem dX3_renewLeasts_58 : decode cX3_renewLeasts 58 = .ok (.iload_n 1, 1) := by decide +kernel
theorem dX3_renewLeasts_59 : decode cX3_renewLeasts 59 = .ok (.iload_n 3, 1) := by decide +kernel
theorem dX3_renewLeasts_60 : decode cX3_renewLeasts 60 = .ok (.iload_n 2, 1) := by decide +kernel
theorem dX3_renewLeasts_61 : decode cX3_renewLeasts 61 = .ok (.invokevirtual 189, 3) := by decide +kernel
theorem dX3_renewLeasts_64 : decode cX3_renewLeasts 64 = .ok (.iastore, 1) := by decide +kernel
theorem dX3_renewLeasts_65 : decode cX3_renewLeasts 65 = .ok (.iinc 3 1, 3) := by decide +kernel
theorem dX3_renewLeasts_68 : decode cX3_renewLeasts 68 = .ok (.goto (-38), 3) := by decide +kernel
theorem dX3_renewLeasts_71 : decode cX3_renewLeasts 71 = .ok (.iinc 2 1, 3) := by decide +kernel
theorem dX3_renewLeasts_74 : decode cX3_renewLeasts 74 = .ok (.goto (-59), 3) := by decide +kernel
theorem dX3_renewLeasts_77 : decode cX3_renewLeasts 77 = .ok (.iinc 1 1, 3) := by decide +kernel
theorem dX3_renewLeasts_80 : decode cX3_renewLeasts 80 = .ok (.goto (-78), 3) := by decide +kernel
theorem dX3_renewLeasts_83 : decode cX3_renewLeasts 83 = .ok (.return_, 1) := by decide +kernel
theorem dX3_costOfNode_0 : decode cX3_costOfNode 0 = .ok (.aload_n 0, 1) := by decide +kernel
theorem dX3_costOfNode_1 : decode cX3_costOfNode 1 = .ok (.iload_n 1, 1) := by decide +kernel
theorem dX3_costOfNode_2 : decode cX3_costOfNode 2 = .ok (.iload_n 2, 1) := by decide +kernel
theorem dX3_costOfNode_3 : decode cX3_costOfNode 3 = .ok (.iload_n 3, 1) := by decide +kernel
theorem dX3_costOfNode_4 : decode cX3_costOfNode 4 = .ok (.invokevirtual 192, 3) := by decide +kernel
theorem dX3_costOfNode_7 : decode cX3_costOfNode 7 = .ok (.ifCond .ne 5, 3) := by decide +kernel
theorem dX3_costOfNode_10 : decode cX3_costOfNode 10 = .ok (.iconst 0, 1) := by decide +kernel
theorem dX3_costOfNode_11 : decode cX3_costOfNode 11 = .ok (.ireturn, 1) := by decide +kernel
theorem dX3_costOfNode_12 : decode cX3_costOfNode 12 = .ok (.aload_n 0, 1) := by decide +kernel
theorem dX3_costOfNode_13 : decode cX3_costOfNode 13 = .ok (.iload_n 1, 1) := by decide +kernel
theorem dX3_costOfNode_14 : decode cX3_costOfNode 14 = .ok (.iload_n 2, 1) := by decide +kernel
theorem dX3_costOfNode_15 : decode cX3_costOfNode 15 = .ok (.iload_n 3, 1) := by decide +kernel
theorem dX3_costOfNode_16 : decode cX3_costOfNode 16 = .ok (.invokevirtual 195, 3) := by decide +kernel
theorem dX3_costOfNode_19 : decode cX3_costOfNode 19 = .ok (.iload_n 2, 1) := by decide +kernel
theorem dX3_costOfNode_20 : decode cX3_costOfNode 20 = .ok (.isub, 1) := by decide +kernel
theorem dX3_costOfNode_21 : decode cX3_costOfNode 21 = .ok (.istore 4, 2) := by decide +kernel
theorem dX3_costOfNode_23 : decode cX3_costOfNode 23 = .ok (.aload_n 0, 1) := by decide +kernel
theorem dX3_costOfNode_24 : decode cX3_costOfNode 24 = .ok (.getfield 26, 3) := by decide +kernel
theorem dX3_costOfNode_27 : decode cX3_costOfNode 27 = .ok (.iload_n 1, 1) := by decide +kernel
theorem dX3_costOfNode_28 : decode cX3_costOfNode 28 = .ok (.iaload, 1) := by decide +kernel
theorem dX3_costOfNode_29 : decode cX3_costOfNode 29 = .ok (.iload_n 3, 1) := by decide +kernel
theorem dX3_costOfNode_30 : decode cX3_costOfNode 30 = .ok (.if_icmp .ge 10, 3) := by decide +kernel
theorem dX3_costOfNode_33 : decode cX3_costOfNode 33 = .ok (.iload 4, 2) := by decide +kernel
theorem dX3_costOfNode_35 : decode cX3_costOfNode 35 = .ok (.iconst 1, 1) := by decide +kernel
theorem dX3_costOfNode_36 : decode cX3_costOfNode 36 = .ok (.iadd, 1) := by decide +kernel
theorem dX3_costOfNode_37 : decode cX3_costOfNode 37 = .ok (.goto 5, 3) := by decide +kernel
theorem dX3_costOfNode_40 : decode cX3_costOfNode 40 = .ok (.iload 4, 2) := by decide +kernel
theorem dX3_costOfNode_42 : decode cX3_costOfNode 42 = .ok (.ireturn, 1) := by decide +kernel
theorem dX3_tellNode_0 : decode cX3_tellNode 0 = .ok (.aload_n 0, 1) := by decide +kernel
theorem dX3_tellNode_1 : decode cX3_tellNode 1 = .ok (.iload_n 1, 1) := by decide +kernel
theorem dX3_tellNode_2 : decode cX3_tellNode 2 = .ok (.iload_n 2, 1) := by decide +kernel
theorem dX3_tellNode_3 : decode cX3_tellNode 3 = .ok (.iload_n 3, 1) := by decide +kernel
theorem dX3_tellNode_4 : decode cX3_tellNode 4 = .ok (.invokevirtual 195, 3) := by decide +kernel
theorem dX3_tellNode_7 : decode cX3_tellNode 7 = .ok (.istore 4, 2) := by decide +kernel
theorem dX3_tellNode_9 : decode cX3_tellNode 9 = .ok (.iload_n 2, 1) := by decide +kernel
theorem dX3_tellNode_10 : decode cX3_tellNode 10 = .ok (.istore 5, 2) := by decide +kernel
theorem dX3_tellNode_12 : decode cX3_tellNode 12 = .ok (.iload 5, 2) := by decide +kernel
theorem dX3_tellNode_14 : decode cX3_tellNode 14 = .ok (.iload 4, 2) := by decide +kernel
theorem dX3_tellNode_16 : decode cX3_tellNode 16 = .ok (.if_icmp .ge 17, 3) := by decide +kernel
theorem dX3_tellNode_19 : decode cX3_tellNode 19 = .ok (.aload_n 0, 1) := by decide +kernel
theorem dX3_tellNode_20 : decode cX3_tellNode 20 = .ok (.getfield 45, 3) := by decide +kernel
theorem dX3_tellNode_23 : decode cX3_tellNode 23 = .ok (.iconst 0, 1) := by decide +kernel
theorem dX3_tellNode_24 : decode cX3_tellNode 24 = .ok (.invokevirtual 130, 3) := by decide +kernel
theorem dX3_tellNode_27 : decode cX3_tellNode 27 = .ok (.iinc 5 1, 3) := by decide +kernel
theorem dX3_tellNode_30 : decode cX3_tellNode 30 = .ok (.goto (-18), 3) := by decide +kernel
theorem dX3_tellNode_33 : decode cX3_tellNode 33 = .ok (.aload_n 0, 1) := by decide +kernel
theorem dX3_tellNode_34 : decode cX3_tellNode 34 = .ok (.iload_n 1, 1) := by decide +kernel
theorem dX3_tellNode_35 : decode cX3_tellNode 35 = .ok (.iload_n 2, 1) := by decide +kernel
theorem dX3_tellNode_36 : decode cX3_tellNode 36 = .ok (.iload_n 3, 1) := by decide +kernel
theorem dX3_tellNode_37 : decode cX3_tellNode 37 = .ok (.invokevirtual 192, 3) := by decide +kernel
theorem dX3_tellNode_40 : decode cX3_tellNode 40 = .ok (.ifCond .eq 29, 3) := by decide +kernel
theorem dX3_tellNode_43 : decode cX3_tellNode 43 = .ok (.aload_n 0, 1) := by decide +kernel
theorem dX3_tellNode_44 : decode cX3_tellNode 44 = .ok (.getfield 26, 3) := by decide +kernel
theorem dX3_tellNode_47 : decode cX3_tellNode 47 = .ok (.iload_n 1, 1) := by decide +kernel
theorem dX3_tellNode_48 : decode cX3_tellNode 48 = .ok (.iaload, 1) := by decide +kernel
theorem dX3_tellNode_49 : decode cX3_tellNode 49 = .ok (.iload_n 3, 1) := by decide +kernel
theorem dX3_tellNode_50 : decode cX3_tellNode 50 = .ok (.if_icmp .ge 19, 3) := by decide +kernel
theorem dX3_tellNode_53 : decode cX3_tellNode 53 = .ok (.aload_n 0, 1) := by decide +kernel
theorem dX3_tellNode_54 : decode cX3_tellNode 54 = .ok (.getfield 45, 3) := by decide +kernel
theorem dX3_tellNode_57 : decode cX3_tellNode 57 = .ok (.iconst 1, 1) := by decide +kernel
theorem dX3_tellNode_58 : decode cX3_tellNode 58 = .ok (.invokevirtual 130, 3) := by decide +kernel
theorem dX3_tellNode_61 : decode cX3_tellNode 61 = .ok (.aload_n 0, 1) := by decide +kernel
theorem dX3_tellNode_62 : decode cX3_tellNode 62 = .ok (.getfield 35, 3) := by decide +kernel
theorem dX3_tellNode_65 : decode cX3_tellNode 65 = .ok (.iload_n 1, 1) := by decide +kernel
theorem dX3_tellNode_66 : decode cX3_tellNode 66 = .ok (.invokevirtual 207, 3) := by decide +kernel
theorem dX3_tellNode_69 : decode cX3_tellNode 69 = .ok (.aload_n 0, 1) := by decide +kernel
theorem dX3_tellNode_70 : decode cX3_tellNode 70 = .ok (.getfield 35, 3) := by decide +kernel
theorem dX3_tellNode_73 : decode cX3_tellNode 73 = .ok (.getfield 143, 3) := by decide +kernel
theorem dX3_tellNode_76 : decode cX3_tellNode 76 = .ok (.iload_n 1, 1) := by decide +kernel
theorem dX3_tellNode_77 : decode cX3_tellNode 77 = .ok (.iload 4, 2) := by decide +kernel
theorem dX3_tellNode_79 : decode cX3_tellNode 79 = .ok (.iastore, 1) := by decide +kernel
theorem dX3_tellNode_80 : decode cX3_tellNode 80 = .ok (.return_, 1) := by decide +kernel
theorem dX3_takeBits_0 : decode cX3_takeBits 0 = .ok (.iconst 0, 1) := by decide +kernel
theorem dX3_takeBits_1 : decode cX3_takeBits 1 = .ok (.istore 5, 2) := by decide +kernel
theorem dX3_takeBits_3 : decode cX3_takeBits 3 = .ok (.iconst 0, 1) := by decide +kernel
theorem dX3_takeBits_4 : decode cX3_takeBits 4 = .ok (.istore 6, 2) := by decide +kernel
theorem dX3_takeBits_6 : decode cX3_takeBits 6 = .ok (.aload_n 0, 1) := by decide +kernel
theorem dX3_takeBits_7 : decode cX3_takeBits 7 = .ok (.getfield 18, 3) := by decide +kernel
theorem dX3_takeBits_10 : decode cX3_takeBits 10 = .ok (.getfield 103, 3) := by decide +kernel
theorem dX3_takeBits_13 : decode cX3_takeBits 13 = .ok (.iconst 1, 1) := by decide +kernel
theorem dX3_takeBits_14 : decode cX3_takeBits 14 = .ok (.isub, 1) := by decide +kernel
theorem dX3_takeBits_15 : decode cX3_takeBits 15 = .ok (.istore 7, 2) := by decide +kernel
theorem dX3_takeBits_17 : decode cX3_takeBits 17 = .ok (.iload 7, 2) := by decide +kernel
theorem dX3_takeBits_19 : decode cX3_takeBits 19 = .ok (.ifCond .lt 142, 3) := by decide +kernel
theorem dX3_takeBits_22 : decode cX3_takeBits 22 = .ok (.aload_n 0, 1) := by decide +kernel
theorem dX3_takeBits_23 : decode cX3_takeBits 23 = .ok (.getfield 18, 3) := by decide +kernel
theorem dX3_takeBits_26 : decode cX3_takeBits 26 = .ok (.iload 7, 2) := by decide +kernel
theorem dX3_takeBits_28 : decode cX3_takeBits 28 = .ok (.iload_n 1, 1) := by decide +kernel
theorem dX3_takeBits_29 : decode cX3_takeBits 29 = .ok (.iload 7, 2) := by decide +kernel
theorem dX3_takeBits_31 : decode cX3_takeBits 31 = .ok (.ishr, 1) := by decide +kernel
theorem dX3_takeBits_32 : decode cX3_takeBits 32 = .ok (.iload_n 2, 1) := by decide +kernel
theorem dX3_takeBits_33 : decode cX3_takeBits 33 = .ok (.iload 7, 2) := by decide +kernel
theorem dX3_takeBits_35 : decode cX3_takeBits 35 = .ok (.ishr, 1) := by decide +kernel
theorem dX3_takeBits_36 : decode cX3_takeBits 36 = .ok (.invokevirtual 69, 3) := by decide +kernel
theorem dX3_takeBits_39 : decode cX3_takeBits 39 = .ok (.istore 8, 2) := by decide +kernel
theorem dX3_takeBits_41 : decode cX3_takeBits 41 = .ok (.iload 6, 2) := by decide +kernel
theorem dX3_takeBits_43 : decode cX3_takeBits 43 = .ok (.aload_n 0, 1) := by decide +kernel
theorem dX3_takeBits_44 : decode cX3_takeBits 44 = .ok (.getfield 39, 3) := by decide +kernel
theorem dX3_takeBits_47 : decode cX3_takeBits 47 = .ok (.getfield 143, 3) := by decide +kernel
theorem dX3_takeBits_50 : decode cX3_takeBits 50 = .ok (.iload 8, 2) := by decide +kernel
theorem dX3_takeBits_52 : decode cX3_takeBits 52 = .ok (.iaload, 1) := by decide +kernel
theorem dX3_takeBits_53 : decode cX3_takeBits 53 = .ok (.invokestatic 198, 3) := by decide +kernel
theorem dX3_takeBits_56 : decode cX3_takeBits 56 = .ok (.istore 6, 2) := by decide +kernel
theorem dX3_takeBits_58 : decode cX3_takeBits 58 = .ok (.aload_n 0, 1) := by decide +kernel
theorem dX3_takeBits_59 : decode cX3_takeBits 59 = .ok (.getfield 39, 3) := by decide +kernel
theorem dX3_takeBits_62 : decode cX3_takeBits 62 = .ok (.getfield 139, 3) := by decide +kernel
theorem dX3_takeBits_65 : decode cX3_takeBits 65 = .ok (.iload 8, 2) := by decide +kernel
theorem dX3_takeBits_67 : decode cX3_takeBits 67 = .ok (.baload, 1) := by decide +kernel
theorem dX3_takeBits_68 : decode cX3_takeBits 68 = .ok (.istore 9, 2) := by decide +kernel
theorem dX3_takeBits_70 : decode cX3_takeBits 70 = .ok (.iload 6, 2) := by decide +kernel
theorem dX3_takeBits_72 : decode cX3_takeBits 72 = .ok (.iload_n 3, 1) := by decide +kernel
theorem dX3_takeBits_73 : decode cX3_takeBits 73 = .ok (.if_icmp .ge 51, 3) := by decide +kernel
theorem dX3_takeBits_76 : decode cX3_takeBits 76 = .ok (.iload 9, 2) := by decide +kernel
theorem dX3_takeBits_78 : decode cX3_takeBits 78 = .ok (.ifCond .ne 46, 3) := by decide +kernel
theorem dX3_takeBits_81 : decode cX3_takeBits 81 = .ok (.iload 5, 2) := by decide +kernel
theorem dX3_takeBits_83 : decode cX3_takeBits 83 = .ok (.aload_n 0, 1) := by decide +kernel
theorem dX3_takeBits_84 : decode cX3_takeBits 84 = .ok (.getfield 49, 3) := by decide +kernel
theorem dX3_takeBits_87 : decode cX3_takeBits 87 = .ok (.getfield 116, 3) := by decide +kernel
theorem dX3_takeBits_90 : decode cX3_takeBits 90 = .ok (.if_icmp .lt 6, 3) := by decide +kernel
theorem dX3_takeBits_93 : decode cX3_takeBits 93 = .ok (.bipush (-2), 2) := by decide +kernel
theorem dX3_takeBits_95 : decode cX3_takeBits 95 = .ok (.ireturn, 1) := by decide +kernel
theorem dX3_takeBits_96 : decode cX3_takeBits 96 = .ok (.aload_n 0, 1) := by decide +kernel
theorem dX3_takeBits_97 : decode cX3_takeBits 97 = .ok (.getfield 49, 3) := by decide +kernel
theorem dX3_takeBits_100 : decode cX3_takeBits 100 = .ok (.iload 5, 2) := by decide +kernel
theorem dX3_takeBits_102 : decode cX3_takeBits 102 = .ok (.invokevirtual 124, 3) := by decide +kernel
theorem dX3_takeBits_105 : decode cX3_takeBits 105 = .ok (.iconst 1, 1) := by decide +kernel
theorem dX3_takeBits_106 : decode cX3_takeBits 106 = .ok (.if_icmp .ne 9, 3) := by decide +kernel
theorem dX3_takeBits_109 : decode cX3_takeBits 109 = .ok (.iconst 1, 1) := by decide +kernel
theorem dX3_takeBits_110 : decode cX3_takeBits 110 = .ok (.istore 9, 2) := by decide +kernel
theorem dX3_takeBits_112 : decode cX3_takeBits 112 = .ok (.goto 6, 3) := by decide +kernel
theorem dX3_takeBits_115 : decode cX3_takeBits 115 = .ok (.iinc 6 1, 3) := by decide +kernel
theorem dX3_takeBits_118 : decode cX3_takeBits 118 = .ok (.iinc 5 1, 3) := by decide +kernel
theorem dX3_takeBits_121 : decode cX3_takeBits 121 = .ok (.goto (-51), 3) := by decide +kernel
theorem dX3_takeBits_124 : decode cX3_takeBits 124 = .ok (.iload 4, 2) := by decide +kernel
theorem dX3_takeBits_126 : decode cX3_takeBits 126 = .ok (.ifCond .eq 29, 3) := by decide +kernel
theorem dX3_takeBits_129 : decode cX3_takeBits 129 = .ok (.aload_n 0, 1) := by decide +kernel
theorem dX3_takeBits_130 : decode cX3_takeBits 130 = .ok (.getfield 39, 3) := by decide +kernel
theorem dX3_takeBits_133 : decode cX3_takeBits 133 = .ok (.getfield 143, 3) := by decide +kernel
theorem dX3_takeBits_136 : decode cX3_takeBits 136 = .ok (.iload 8, 2) := by decide +kernel
theorem dX3_takeBits_138 : decode cX3_takeBits 138 = .ok (.iload 6, 2) := by decide +kernel
theorem dX3_takeBits_140 : decode cX3_takeBits 140 = .ok (.iastore, 1) := by decide +kernel
theorem dX3_takeBits_141 : decode cX3_takeBits 141 = .ok (.iload 9, 2) := by decide +kernel
theorem dX3_takeBits_143 : decode cX3_takeBits 143 = .ok (.ifCond .eq 12, 3) := by decide +kernel
theorem dX3_takeBits_146 : decode cX3_takeBits 146 = .ok (.aload_n 0, 1) := by decide +kernel
theorem dX3_takeBits_147 : decode cX3_takeBits 147 = .ok (.getfield 39, 3) := by decide +kernel
theorem dX3_takeBits_150 : decode cX3_takeBits 150 = .ok (.iload 8, 2) := by decide +kernel
theorem dX3_takeBits_152 : decode cX3_takeBits 152 = .ok (.invokevirtual 207, 3) := by decide +kernel
theorem dX3_takeBits_155 : decode cX3_takeBits 155 = .ok (.iinc 7 (-1), 3) := by decide +kernel
theorem dX3_takeBits_158 : decode cX3_takeBits 158 = .ok (.goto (-141), 3) := by decide +kernel
theorem dX3_takeBits_161 : decode cX3_takeBits 161 = .ok (.iload 5, 2) := by decide +kernel
theorem dX3_takeBits_163 : decode cX3_takeBits 163 = .ok (.ireturn, 1) := by decide +kernel
theorem dX3_costOfLeaf_0 : decode cX3_costOfLeaf 0 = .ok (.iconst 0, 1) := by decide +kernel
theorem dX3_costOfLeaf_1 : decode cX3_costOfLeaf 1 = .ok (.istore 4, 2) := by decide +kernel
theorem dX3_costOfLeaf_3 : decode cX3_costOfLeaf 3 = .ok (.iconst 0, 1) := by decide +kernel
theorem dX3_costOfLeaf_4 : decode cX3_costOfLeaf 4 = .ok (.istore 5, 2) := by decide +kernel
theorem dX3_costOfLeaf_6 : decode cX3_costOfLeaf 6 = .ok (.aload_n 0, 1) := by decide +kernel
theorem dX3_costOfLeaf_7 : decode cX3_costOfLeaf 7 = .ok (.getfield 18, 3) := by decide +kernel
theorem dX3_costOfLeaf_10 : decode cX3_costOfLeaf 10 = .ok (.getfield 103, 3) := by decide +kernel
theorem dX3_costOfLeaf_13 : decode cX3_costOfLeaf 13 = .ok (.iconst 1, 1) := by decide +kernel
theorem dX3_costOfLeaf_14 : decode cX3_costOfLeaf 14 = .ok (.isub, 1) := by decide +kernel
theorem dX3_costOfLeaf_15 : decode cX3_costOfLeaf 15 = .ok (.istore 6, 2) := by decide +kernel
theorem dX3_costOfLeaf_17 : decode cX3_costOfLeaf 17 = .ok (.iload 6, 2) := by decide +kernel
theorem dX3_costOfLeaf_19 : decode cX3_costOfLeaf 19 = .ok (.ifCond .lt 70, 3) := by decide +kernel
theorem dX3_costOfLeaf_22 : decode cX3_costOfLeaf 22 = .ok (.aload_n 0, 1) := by decide +kernel
theorem dX3_costOfLeaf_23 : decode cX3_costOfLeaf 23 = .ok (.getfield 18, 3) := by decide +kernel
theorem dX3_costOfLeaf_26 : decode cX3_costOfLeaf 26 = .ok (.iload 6, 2) := by decide +kernel
theorem dX3_costOfLeaf_28 : decode cX3_costOfLeaf 28 = .ok (.iload_n 1, 1) := by decide +kernel
theorem dX3_costOfLeaf_29 : decode cX3_costOfLeaf 29 = .ok (.iload 6, 2) := by decide +kernel
theorem dX3_costOfLeaf_31 : decode cX3_costOfLeaf 31 = .ok (.ishr, 1) := by decide +kernel
theorem dX3_costOfLeaf_32 : decode cX3_costOfLeaf 32 = .ok (.iload_n 2, 1) := by decide +kernel
theorem dX3_costOfLeaf_33 : decode cX3_costOfLeaf 33 = .ok (.iload 6, 2) := by decide +kernel
theorem dX3_costOfLeaf_35 : decode cX3_costOfLeaf 35 = .ok (.ishr, 1) := by decide +kernel
theorem dX3_costOfLeaf_36 : decode cX3_costOfLeaf 36 = .ok (.invokevirtual 69, 3) := by decide +kernel
theorem dX3_costOfLeaf_39 : decode cX3_costOfLeaf 39 = .ok (.istore 7, 2) := by decide +kernel
theorem dX3_costOfLeaf_41 : decode cX3_costOfLeaf 41 = .ok (.iload 5, 2) := by decide +kernel
theorem dX3_costOfLeaf_43 : decode cX3_costOfLeaf 43 = .ok (.aload_n 0, 1) := by decide +kernel
theorem dX3_costOfLeaf_44 : decode cX3_costOfLeaf 44 = .ok (.getfield 35, 3) := by decide +kernel
theorem dX3_costOfLeaf_47 : decode cX3_costOfLeaf 47 = .ok (.getfield 143, 3) := by decide +kernel
theorem dX3_costOfLeaf_50 : decode cX3_costOfLeaf 50 = .ok (.iload 7, 2) := by decide +kernel
theorem dX3_costOfLeaf_52 : decode cX3_costOfLeaf 52 = .ok (.iaload, 1) := by decide +kernel
theorem dX3_costOfLeaf_53 : decode cX3_costOfLeaf 53 = .ok (.invokestatic 198, 3) := by decide +kernel
theorem dX3_costOfLeaf_56 : decode cX3_costOfLeaf 56 = .ok (.istore 8, 2) := by decide +kernel
theorem dX3_costOfLeaf_58 : decode cX3_costOfLeaf 58 = .ok (.iload 4, 2) := by decide +kernel
theorem dX3_costOfLeaf_60 : decode cX3_costOfLeaf 60 = .ok (.aload_n 0, 1) := by decide +kernel
theorem dX3_costOfLeaf_61 : decode cX3_costOfLeaf 61 = .ok (.iload 7, 2) := by decide +kernel
theorem dX3_costOfLeaf_63 : decode cX3_costOfLeaf 63 = .ok (.iload 8, 2) := by decide +kernel
theorem dX3_costOfLeaf_65 : decode cX3_costOfLeaf 65 = .ok (.iload_n 3, 1) := by decide +kernel
theorem dX3_costOfLeaf_66 : decode cX3_costOfLeaf 66 = .ok (.invokevirtual 201, 3) := by decide +kernel
theorem dX3_costOfLeaf_69 : decode cX3_costOfLeaf 69 = .ok (.iadd, 1) := by decide +kernel
theorem dX3_costOfLeaf_70 : decode cX3_costOfLeaf 70 = .ok (.istore 4, 2) := by decide +kernel
theorem dX3_costOfLeaf_72 : decode cX3_costOfLeaf 72 = .ok (.aload_n 0, 1) := by decide +kernel
theorem dX3_costOfLeaf_73 : decode cX3_costOfLeaf 73 = .ok (.iload 7, 2) := by decide +kernel
theorem dX3_costOfLeaf_75 : decode cX3_costOfLeaf 75 = .ok (.iload 8, 2) := by decide +kernel
theorem dX3_costOfLeaf_77 : decode cX3_costOfLeaf 77 = .ok (.iload_n 3, 1) := by decide +kernel
theorem dX3_costOfLeaf_78 : decode cX3_costOfLeaf 78 = .ok (.invokevirtual 195, 3) := by decide +kernel
theorem dX3_costOfLeaf_81 : decode cX3_costOfLeaf 81 = .ok (.istore 5, 2) := by decide +kernel
theorem dX3_costOfLeaf_83 : decode cX3_costOfLeaf 83 = .ok (.iinc 6 (-1), 3) := by decide +kernel
theorem dX3_costOfLeaf_86 : decode cX3_costOfLeaf 86 = .ok (.goto (-69), 3) := by decide +kernel
theorem dX3_costOfLeaf_89 : decode cX3_costOfLeaf 89 = .ok (.iload 4, 2) := by decide +kernel
theorem dX3_costOfLeaf_91 : decode cX3_costOfLeaf 91 = .ok (.ireturn, 1) := by decide +kernel
theorem dX3_costBelow_0 : decode cX3_costBelow 0 = .ok (.aload_n 0, 1) := by decide +kernel
theorem dX3_costBelow_1 : decode cX3_costBelow 1 = .ok (.getfield 18, 3) := by decide +kernel
theorem dX3_costBelow_4 : decode cX3_costBelow 4 = .ok (.iload_n 1, 1) := by decide +kernel
theorem dX3_costBelow_5 : decode cX3_costBelow 5 = .ok (.iload_n 2, 1) := by decide +kernel
theorem dX3_costBelow_6 : decode cX3_costBelow 6 = .ok (.iload_n 3, 1) := by decide +kernel
theorem dX3_costBelow_7 : decode cX3_costBelow 7 = .ok (.invokevirtual 163, 3) := by decide +kernel
theorem dX3_costBelow_10 : decode cX3_costBelow 10 = .ok (.ifCond .ne 5, 3) := by decide +kernel
theorem dX3_costBelow_13 : decode cX3_costBelow 13 = .ok (.iconst 0, 1) := by decide +kernel
theorem dX3_costBelow_14 : decode cX3_costBelow 14 = .ok (.ireturn, 1) := by decide +kernel
theorem dX3_costBelow_15 : decode cX3_costBelow 15 = .ok (.aload_n 0, 1) := by decide +kernel
theorem dX3_costBelow_16 : decode cX3_costBelow 16 = .ok (.getfield 18, 3) := by decide +kernel
theorem dX3_costBelow_19 : decode cX3_costBelow 19 = .ok (.iload_n 1, 1) := by decide +kernel
theorem dX3_costBelow_20 : decode cX3_costBelow 20 = .ok (.iload_n 2, 1) := by decide +kernel
theorem dX3_costBelow_21 : decode cX3_costBelow 21 = .ok (.iload_n 3, 1) := by decide +kernel
theorem dX3_costBelow_22 : decode cX3_costBelow 22 = .ok (.invokevirtual 69, 3) := by decide +kernel
theorem dX3_costBelow_25 : decode cX3_costBelow 25 = .ok (.istore 6, 2) := by decide +kernel
theorem dX3_costBelow_27 : decode cX3_costBelow 27 = .ok (.iload 4, 2) := by decide +kernel
theorem dX3_costBelow_29 : decode cX3_costBelow 29 = .ok (.aload_n 0, 1) := by decide +kernel
theorem dX3_costBelow_30 : decode cX3_costBelow 30 = .ok (.getfield 35, 3) := by decide +kernel
theorem dX3_costBelow_33 : decode cX3_costBelow 33 = .ok (.getfield 143, 3) := by decide +kernel
theorem dX3_costBelow_36 : decode cX3_costBelow 36 = .ok (.iload 6, 2) := by decide +kernel
theorem dX3_costBelow_38 : decode cX3_costBelow 38 = .ok (.iaload, 1) := by decide +kernel
theorem dX3_costBelow_39 : decode cX3_costBelow 39 = .ok (.invokestatic 198, 3) := by decide +kernel
theorem dX3_costBelow_42 : decode cX3_costBelow 42 = .ok (.istore 7, 2) := by decide +kernel
theorem dX3_costBelow_44 : decode cX3_costBelow 44 = .ok (.aload_n 0, 1) := by decide +kernel
theorem dX3_costBelow_45 : decode cX3_costBelow 45 = .ok (.iload 6, 2) := by decide +kernel
theorem dX3_costBelow_47 : decode cX3_costBelow 47 = .ok (.iload 7, 2) := by decide +kernel
theorem dX3_costBelow_49 : decode cX3_costBelow 49 = .ok (.iload 5, 2) := by decide +kernel
theorem dX3_costBelow_51 : decode cX3_costBelow 51 = .ok (.invokevirtual 201, 3) := by decide +kernel
theorem dX3_costBelow_54 : decode cX3_costBelow 54 = .ok (.istore 8, 2) := by decide +kernel
theorem dX3_costBelow_56 : decode cX3_costBelow 56 = .ok (.aload_n 0, 1) := by decide +kernel
theorem dX3_costBelow_57 : decode cX3_costBelow 57 = .ok (.iload 6, 2) := by decide +kernel
theorem dX3_costBelow_59 : decode cX3_costBelow 59 = .ok (.iload 7, 2) := by decide +kernel
theorem dX3_costBelow_61 : decode cX3_costBelow 61 = .ok (.iload 5, 2) := by decide +kernel
theorem dX3_costBelow_63 : decode cX3_costBelow 63 = .ok (.invokevirtual 195, 3) := by decide +kernel
theorem dX3_costBelow_66 : decode cX3_costBelow 66 = .ok (.istore 9, 2) := by decide +kernel
theorem dX3_costBelow_68 : decode cX3_costBelow 68 = .ok (.iconst 0, 1) := by decide +kernel
theorem dX3_costBelow_69 : decode cX3_costBelow 69 = .ok (.istore 10, 2) := by decide +kernel
theorem dX3_costBelow_71 : decode cX3_costBelow 71 = .ok (.iload 10, 2) := by decide +kernel
theorem dX3_costBelow_73 : decode cX3_costBelow 73 = .ok (.iconst 4, 1) := by decide +kernel
theorem dX3_costBelow_74 : decode cX3_costBelow 74 = .ok (.if_icmp .ge 41, 3) := by decide +kernel
theorem dX3_costBelow_77 : decode cX3_costBelow 77 = .ok (.iload 8, 2) := by decide +kernel
theorem dX3_costBelow_79 : decode cX3_costBelow 79 = .ok (.aload_n 0, 1) := by decide +kernel
theorem dX3_costBelow_80 : decode cX3_costBelow 80 = .ok (.iload_n 1, 1) := by decide +kernel
theorem dX3_costBelow_81 : decode cX3_costBelow 81 = .ok (.iconst 1, 1) := by decide +kernel
theorem dX3_costBelow_82 : decode cX3_costBelow 82 = .ok (.isub, 1) := by decide +kernel
theorem dX3_costBelow_83 : decode cX3_costBelow 83 = .ok (.iconst 2, 1) := by decide +kernel
theorem dX3_costBelow_84 : decode cX3_costBelow 84 = .ok (.iload_n 2, 1) := by decide +kernel
theorem dX3_costBelow_85 : decode cX3_costBelow 85 = .ok (.imul, 1) := by decide +kernel
theorem dX3_costBelow_86 : decode cX3_costBelow 86 = .ok (.iload 10, 2) := by decide +kernel
theorem dX3_costBelow_88 : decode cX3_costBelow 88 = .ok (.iconst 1, 1) := by decide +kernel
theorem dX3_costBelow_89 : decode cX3_costBelow 89 = .ok (.iand, 1) := by decide +kernel
theorem dX3_costBelow_90 : decode cX3_costBelow 90 = .ok (.iadd, 1) := by decide +kernel
theorem dX3_costBelow_91 : decode cX3_costBelow 91 = .ok (.iconst 2, 1) := by decide +kernel
theorem dX3_costBelow_92 : decode cX3_costBelow 92 = .ok (.iload_n 3, 1) := by decide +kernel
theorem dX3_costBelow_93 : decode cX3_costBelow 93 = .ok (.imul, 1) := by decide +kernel
theorem dX3_costBelow_94 : decode cX3_costBelow 94 = .ok (.iload 10, 2) := by decide +kernel
theorem dX3_costBelow_96 : decode cX3_costBelow 96 = .ok (.iconst 1, 1) := by decide +kernel
theorem dX3_costBelow_97 : decode cX3_costBelow 97 = .ok (.ishr, 1) := by decide +kernel
theorem dX3_costBelow_98 : decode cX3_costBelow 98 = .ok (.iadd, 1) := by decide +kernel
theorem dX3_costBelow_99 : decode cX3_costBelow 99 = .ok (.iload 9, 2) := by decide +kernel
theorem dX3_costBelow_101 : decode cX3_costBelow 101 = .ok (.iload 5, 2) := by decide +kernel
theorem dX3_costBelow_103 : decode cX3_costBelow 103 = .ok (.invokevirtual 106, 3) := by decide +kernel
theorem dX3_costBelow_106 : decode cX3_costBelow 106 = .ok (.iadd, 1) := by decide +kernel
theorem dX3_costBelow_107 : decode cX3_costBelow 107 = .ok (.istore 8, 2) := by decide +kernel
theorem dX3_costBelow_109 : decode cX3_costBelow 109 = .ok (.iinc 10 1, 3) := by decide +kernel
theorem dX3_costBelow_112 : decode cX3_costBelow 112 = .ok (.goto (-41), 3) := by decide +kernel
theorem dX3_costBelow_115 : decode cX3_costBelow 115 = .ok (.iload 8, 2) := by decide +kernel
theorem dX3_costBelow_117 : decode cX3_costBelow 117 = .ok (.ireturn, 1) := by decide +kernel
theorem dX3_tellLeaf_0 : decode cX3_tellLeaf 0 = .ok (.iconst 0, 1) := by decide +kernel
theorem dX3_tellLeaf_1 : decode cX3_tellLeaf 1 = .ok (.istore 4, 2) := by decide +kernel
theorem dX3_tellLeaf_3 : decode cX3_tellLeaf 3 = .ok (.aload_n 0, 1) := by decide +kernel
theorem dX3_tellLeaf_4 : decode cX3_tellLeaf 4 = .ok (.getfield 18, 3) := by decide +kernel
theorem dX3_tellLeaf_7 : decode cX3_tellLeaf 7 = .ok (.getfield 103, 3) := by decide +kernel
theorem dX3_tellLeaf_10 : decode cX3_tellLeaf 10 = .ok (.iconst 1, 1) := by decide +kernel
theorem dX3_tellLeaf_11 : decode cX3_tellLeaf 11 = .ok (.isub, 1) := by decide +kernel
theorem dX3_tellLeaf_12 : decode cX3_tellLeaf 12 = .ok (.istore 5, 2) := by decide +kernel
theorem dX3_tellLeaf_14 : decode cX3_tellLeaf 14 = .ok (.iload 5, 2) := by decide +kernel
theorem dX3_tellLeaf_16 : decode cX3_tellLeaf 16 = .ok (.ifCond .lt 62, 3) := by decide +kernel
theorem dX3_tellLeaf_19 : decode cX3_tellLeaf 19 = .ok (.aload_n 0, 1) := by decide +kernel
theorem dX3_tellLeaf_20 : decode cX3_tellLeaf 20 = .ok (.getfield 18, 3) := by decide +kernel
theorem dX3_tellLeaf_23 : decode cX3_tellLeaf 23 = .ok (.iload 5, 2) := by decide +kernel
theorem dX3_tellLeaf_25 : decode cX3_tellLeaf 25 = .ok (.iload_n 1, 1) := by decide +kernel
theorem dX3_tellLeaf_26 : decode cX3_tellLeaf 26 = .ok (.iload 5, 2) := by decide +kernel
theorem dX3_tellLeaf_28 : decode cX3_tellLeaf 28 = .ok (.ishr, 1) := by decide +kernel
theorem dX3_tellLeaf_29 : decode cX3_tellLeaf 29 = .ok (.iload_n 2, 1) := by decide +kernel
theorem dX3_tellLeaf_30 : decode cX3_tellLeaf 30 = .ok (.iload 5, 2) := by decide +kernel
theorem dX3_tellLeaf_32 : decode cX3_tellLeaf 32 = .ok (.ishr, 1) := by decide +kernel
theorem dX3_tellLeaf_33 : decode cX3_tellLeaf 33 = .ok (.invokevirtual 69, 3) := by decide +kernel
theorem dX3_tellLeaf_36 : decode cX3_tellLeaf 36 = .ok (.istore 6, 2) := by decide +kernel
theorem dX3_tellLeaf_38 : decode cX3_tellLeaf 38 = .ok (.aload_n 0, 1) := by decide +kernel
theorem dX3_tellLeaf_39 : decode cX3_tellLeaf 39 = .ok (.iload 6, 2) := by decide +kernel
theorem dX3_tellLeaf_41 : decode cX3_tellLeaf 41 = .ok (.iload 4, 2) := by decide +kernel
theorem dX3_tellLeaf_43 : decode cX3_tellLeaf 43 = .ok (.aload_n 0, 1) := by decide +kernel
theorem dX3_tellLeaf_44 : decode cX3_tellLeaf 44 = .ok (.getfield 35, 3) := by decide +kernel
theorem dX3_tellLeaf_47 : decode cX3_tellLeaf 47 = .ok (.getfield 143, 3) := by decide +kernel
theorem dX3_tellLeaf_50 : decode cX3_tellLeaf 50 = .ok (.iload 6, 2) := by decide +kernel
theorem dX3_tellLeaf_52 : decode cX3_tellLeaf 52 = .ok (.iaload, 1) := by decide +kernel
theorem dX3_tellLeaf_53 : decode cX3_tellLeaf 53 = .ok (.invokestatic 198, 3) := by decide +kernel
theorem dX3_tellLeaf_56 : decode cX3_tellLeaf 56 = .ok (.iload_n 3, 1) := by decide +kernel
theorem dX3_tellLeaf_57 : decode cX3_tellLeaf 57 = .ok (.invokevirtual 204, 3) := by decide +kernel
theorem dX3_tellLeaf_60 : decode cX3_tellLeaf 60 = .ok (.aload_n 0, 1) := by decide +kernel
theorem dX3_tellLeaf_61 : decode cX3_tellLeaf 61 = .ok (.getfield 35, 3) := by decide +kernel
theorem dX3_tellLeaf_64 : decode cX3_tellLeaf 64 = .ok (.getfield 143, 3) := by decide +kernel
theorem dX3_tellLeaf_67 : decode cX3_tellLeaf 67 = .ok (.iload 6, 2) := by decide +kernel
theorem dX3_tellLeaf_69 : decode cX3_tellLeaf 69 = .ok (.iaload, 1) := by decide +kernel
theorem dX3_tellLeaf_70 : decode cX3_tellLeaf 70 = .ok (.istore 4, 2) := by decide +kernel
theorem dX3_tellLeaf_72 : decode cX3_tellLeaf 72 = .ok (.iinc 5 (-1), 3) := by decide +kernel
theorem dX3_tellLeaf_75 : decode cX3_tellLeaf 75 = .ok (.goto (-61), 3) := by decide +kernel
theorem dX3_tellLeaf_78 : decode cX3_tellLeaf 78 = .ok (.return_, 1) := by decide +kernel
theorem dX3_learnLeaf_0 : decode cX3_learnLeaf 0 = .ok (.aload_n 0, 1) := by decide +kernel
theorem dX3_learnLeaf_1 : decode cX3_learnLeaf 1 = .ok (.iload_n 1, 1) := by decide +kernel
theorem dX3_learnLeaf_2 : decode cX3_learnLeaf 2 = .ok (.iload_n 2, 1) := by decide +kernel
theorem dX3_learnLeaf_3 : decode cX3_learnLeaf 3 = .ok (.iload_n 3, 1) := by decide +kernel
theorem dX3_learnLeaf_4 : decode cX3_learnLeaf 4 = .ok (.iconst 0, 1) := by decide +kernel
theorem dX3_learnLeaf_5 : decode cX3_learnLeaf 5 = .ok (.invokevirtual 210, 3) := by decide +kernel
theorem dX3_learnLeaf_8 : decode cX3_learnLeaf 8 = .ok (.istore 4, 2) := by decide +kernel
theorem dX3_learnLeaf_10 : decode cX3_learnLeaf 10 = .ok (.iload 4, 2) := by decide +kernel
theorem dX3_learnLeaf_12 : decode cX3_learnLeaf 12 = .ok (.bipush (-2), 2) := by decide +kernel
theorem dX3_learnLeaf_14 : decode cX3_learnLeaf 14 = .ok (.if_icmp .ne 5, 3) := by decide +kernel
theorem dX3_learnLeaf_17 : decode cX3_learnLeaf 17 = .ok (.iconst 0, 1) := by decide +kernel
theorem dX3_learnLeaf_18 : decode cX3_learnLeaf 18 = .ok (.ireturn, 1) := by decide +kernel
theorem dX3_learnLeaf_19 : decode cX3_learnLeaf 19 = .ok (.aload_n 0, 1) := by decide +kernel
theorem dX3_learnLeaf_20 : decode cX3_learnLeaf 20 = .ok (.iload_n 1, 1) := by decide +kernel
theorem dX3_learnLeaf_21 : decode cX3_learnLeaf 21 = .ok (.iload_n 2, 1) := by decide +kernel
theorem dX3_learnLeaf_22 : decode cX3_learnLeaf 22 = .ok (.iload_n 3, 1) := by decide +kernel
theorem dX3_learnLeaf_23 : decode cX3_learnLeaf 23 = .ok (.iconst 1, 1) := by decide +kernel
theorem dX3_learnLeaf_24 : decode cX3_learnLeaf 24 = .ok (.invokevirtual 210, 3) := by decide +kernel
theorem dX3_learnLeaf_27 : decode cX3_learnLeaf 27 = .ok (.pop, 1) := by decide +kernel
theorem dX3_learnLeaf_28 : decode cX3_learnLeaf 28 = .ok (.aload_n 0, 1) := by decide +kernel
theorem dX3_learnLeaf_29 : decode cX3_learnLeaf 29 = .ok (.getfield 49, 3) := by decide +kernel
theorem dX3_learnLeaf_32 : decode cX3_learnLeaf 32 = .ok (.iload 4, 2) := by decide +kernel
theorem dX3_learnLeaf_34 : decode cX3_learnLeaf 34 = .ok (.invokevirtual 214, 3) := by decide +kernel
theorem dX3_learnLeaf_37 : decode cX3_learnLeaf 37 = .ok (.iconst 1, 1) := by decide +kernel
theorem dX3_learnLeaf_38 : decode cX3_learnLeaf 38 = .ok (.ireturn, 1) := by decide +kernel
def wp_X3_told (post : Int32 → Prop) (nl : Nat) (nn : Nat) (S : vSH) (T : vTT) (x1 : Int32) : Prop := ((x1 = 0 → (post S.1.1)) ∧ ((x1 = 1 → (post S.1.2.1)) ∧ ((x1 = 2 → (post S.1.2.2.2.1)) ∧ ((x1 = 3 → (post S.1.2.2.2.2)) ∧ ((x1 = 4 → (post T.2.2.2.1.2.2)) ∧ ((x1 = 5 → (post T.2.2.2.2.1.2.2)) ∧ ((x1 = 6 → (post T.2.1.2.2)) ∧ ((x1 = 7 → (post T.2.2.1.2.2)) ∧ ((¬ x1 = 0 ∧ ¬ x1 = 1 ∧ ¬ x1 = 2 ∧ ¬ x1 = 3 ∧ ¬ x1 = 4 ∧ ¬ x1 = 5 ∧ ¬ x1 = 6 ∧ ¬ x1 = 7) → (post (-1)))))))))))
abbrev rm_X3_told : Room := { frames := 0, cells := 0, slots := 0, locals := 0 }
set_option maxHeartbeats 4000000 in
set_option maxRecDepth 100000 in
theorem met_X3_told (l : Launch) (dC : Nat → ClassId) (dI : Nat → Nat → Nat) (cI cZ cJ cL : ClassId) (ad ra : Nat → Nat) (post : Int32 → Prop) (nl : Nat) (nn : Nat) (S : vSH) (T : vTT) (x1 : Int32) (hw : wp_X3_told post nl nn S T x1) : Met l yX3_told wsX3_told rm_X3_told (pcR (dC, dI) (tysA cI cZ cJ cL) (wTT cI cZ cJ nl nn ad ra S T) [.ref (ad 0), .int x1]) (vp_Si post) 0 0 (fun _ => False) := by
  refine Met.ofW (cc := cX3_told) (maxL := 2) (ret := (some .int)) (by decide) rfl ?_
  intro p e s m args below meth c s₁ Bd hml hv
  obtain ⟨hargs, hP, hK⟩ := hv
  have hx := Bd.exec
  have hb := Bd.bytes
  have hr := Bd.returns
  have hts := atoms_spec (ws := wsX3_told) Bd.pre
  have hT : ∀ w ∈ WALL, w.before args s = true := fun w h => hts w (List.mem_cons_of_mem _ h)
  have hown : s.vm.findClass RX3 = some m.cls := findClass_of_methodNamed Bd.named
  have hlocks := Bd.notSynchronized
  have hP : va_P (dC, dI) vwCl (wTT cI cZ cJ nl nn ad ra S T) s.heap := hP
  have hl := lv_entry ([.ref (ad 0), .int x1]) (n := 2) (Nat.le_of_ble_eq_true rfl)
  rw [show entryFrame m args 2 = F0 m 0 _ [] from by rw [hargs]; exact lg_entry_eq m ([.ref (ad 0), .int x1]) 2]
  generalize (lg_sl ([.ref (ad 0), .int x1]) ++ List.replicate (2 - (lg_sl ([.ref (ad 0), .int x1])).length) Slot.unset).toArray = ls at hl ⊢
  have hl : lv_has ls 2 [(0, .ref (ad 0)), (1, .int x1)] := hl
  generalize hH : s.heap = H at hP ⊢
  unfold wp_X3_told at hw
  refine lv_iload_n hx hb dX3_told_0 rfl (lv_at hl 1 rfl) ?_
  rcases Classical.em (x1 = 0) with c_1 | c_1
  · have hw := hw.1 c_1
    refine lv_tableIn (off := 47) (tgt := 48) hx hb dX3_told_1 (by rw [c_1]; decide) (by rw [c_1]; decide) (by rw [c_1]; rfl) (by decide) ?_
    refine lv_aload_n hx hb dX3_told_48 rfl (lv_at hl 0 rfl) ?_
    refine va_get (D := (dC, dI)) (ci := 3) (v := .ref (ad 1)) (C := RX3) (T := TX3) (N := 7) hx hb hT inX3 hown hK hP 0 rfl rfl 0 (by decide) (hT _ k_17) (fun _ h9 => h9) rfl dX3_told_49 ?_
    refine va_get (D := (dC, dI)) (ci := 1) (v := .int S.1.1) (C := RX1) (T := TX1) (N := 9) hx hb hT inX1 hown hK hP 1 rfl rfl 0 (by decide) (hT _ k_18) (fun _ h9 => h9) rfl dX3_told_52 ?_
    exact W.iret (v := S.1.1) hx hb hr (fun t ht hW => ⟨S.1.1, rfl, hw, ht.trans hH.symm⟩) (fun q h => by cases h) dX3_told_55
  · have hw := hw.2
    rcases Classical.em (x1 = 1) with c_2 | c_2
    · have hw := hw.1 c_2
      refine lv_tableIn (off := 55) (tgt := 56) hx hb dX3_told_1 (by rw [c_2]; decide) (by rw [c_2]; decide) (by rw [c_2]; rfl) (by decide) ?_
      refine lv_aload_n hx hb dX3_told_56 rfl (lv_at hl 0 rfl) ?_
      refine va_get (D := (dC, dI)) (ci := 3) (v := .ref (ad 1)) (C := RX3) (T := TX3) (N := 7) hx hb hT inX3 hown hK hP 0 rfl rfl 0 (by decide) (hT _ k_17) (fun _ h9 => h9) rfl dX3_told_57 ?_
      refine va_get (D := (dC, dI)) (ci := 1) (v := .int S.1.2.1) (C := RX1) (T := TX1) (N := 9) hx hb hT inX1 hown hK hP 1 rfl rfl 1 (by decide) (hT _ k_19) (fun _ h9 => h9) rfl dX3_told_60 ?_
      exact W.iret (v := S.1.2.1) hx hb hr (fun t ht hW => ⟨S.1.2.1, rfl, hw, ht.trans hH.symm⟩) (fun q h => by cases h) dX3_told_63
    · have hw := hw.2
      rcases Classical.em (x1 = 2) with c_3 | c_3
      · have hw := hw.1 c_3
        refine lv_tableIn (off := 63) (tgt := 64) hx hb dX3_told_1 (by rw [c_3]; decide) (by rw [c_3]; decide) (by rw [c_3]; rfl) (by decide) ?_
        refine lv_aload_n hx hb dX3_told_64 rfl (lv_at hl 0 rfl) ?_
        refine va_get (D := (dC, dI)) (ci := 3) (v := .ref (ad 1)) (C := RX3) (T := TX3) (N := 7) hx hb hT inX3 hown hK hP 0 rfl rfl 0 (by decide) (hT _ k_17) (fun _ h9 => h9) rfl dX3_told_65 ?_
        refine va_get (D := (dC, dI)) (ci := 1) (v := .int S.1.2.2.2.1) (C := RX1) (T := TX1) (N := 9) hx hb hT inX1 hown hK hP 1 rfl rfl 3 (by decide) (hT _ k_20) (fun _ h9 => h9) rfl dX3_told_68 ?_
        exact W.iret (v := S.1.2.2.2.1) hx hb hr (fun t ht hW => ⟨S.1.2.2.2.1, rfl, hw, ht.trans hH.symm⟩) (fun q h => by cases h) dX3_told_71
      · have hw := hw.2
        rcases Classical.em (x1 = 3) with c_4 | c_4
        · have hw := hw.1 c_4
          refine lv_tableIn (off := 71) (tgt := 72) hx hb dX3_told_1 (by rw [c_4]; decide) (by rw [c_4]; decide) (by rw [c_4]; rfl) (by decide) ?_
          refine lv_aload_n hx hb dX3_told_72 rfl (lv_at hl 0 rfl) ?_
          refine va_get (D := (dC, dI)) (ci := 3) (v := .ref (ad 1)) (C := RX3) (T := TX3) (N := 7) hx hb hT inX3 hown hK hP 0 rfl rfl 0 (by decide) (hT _ k_17) (fun _ h9 => h9) rfl dX3_told_73 ?_
          refine va_get (D := (dC, dI)) (ci := 1) (v := .int S.1.2.2.2.2) (C := RX1) (T := TX1) (N := 9) hx hb hT inX1 hown hK hP 1 rfl rfl 4 (by decide) (hT _ k_21) (fun _ h9 => h9) rfl dX3_told_76 ?_
          exact W.iret (v := S.1.2.2.2.2) hx hb hr (fun t ht hW => ⟨S.1.2.2.2.2, rfl, hw, ht.trans hH.symm⟩) (fun q h => by cases h) dX3_told_79
        · have hw := hw.2
          rcases Classical.em (x1 = 4) with c_5 | c_5
          · have hw := hw.1 c_5
            refine lv_tableIn (off := 79) (tgt := 80) hx hb dX3_told_1 (by rw [c_5]; decide) (by rw [c_5]; decide) (by rw [c_5]; rfl) (by decide) ?_
            refine lv_aload_n hx hb dX3_told_80 rfl (lv_at hl 0 rfl) ?_
            refine va_get (D := (dC, dI)) (ci := 3) (v := .ref (ad 16)) (C := RX3) (T := TX3) (N := 7) hx hb hT inX3 hown hK hP 0 rfl rfl 4 (by decide) (hT _ k_22) (fun _ h9 => h9) rfl dX3_told_81 ?_
            refine va_get (D := (dC, dI)) (ci := 0) (v := .int T.2.2.2.1.2.2) (C := RX0) (T := TX0) (N := 3) hx hb hT inX0 hown hK hP 16 rfl rfl 2 (by decide) (hT _ k_23) (fun _ h9 => h9) rfl dX3_told_84 ?_
            exact W.iret (v := T.2.2.2.1.2.2) hx hb hr (fun t ht hW => ⟨T.2.2.2.1.2.2, rfl, hw, ht.trans hH.symm⟩) (fun q h => by cases h) dX3_told_87
          · have hw := hw.2
            rcases Classical.em (x1 = 5) with c_6 | c_6
            · have hw := hw.1 c_6
              refine lv_tableIn (off := 87) (tgt := 88) hx hb dX3_told_1 (by rw [c_6]; decide) (by rw [c_6]; decide) (by rw [c_6]; rfl) (by decide) ?_
              refine lv_aload_n hx hb dX3_told_88 rfl (lv_at hl 0 rfl) ?_
              refine va_get (D := (dC, dI)) (ci := 3) (v := .ref (ad 18)) (C := RX3) (T := TX3) (N := 7) hx hb hT inX3 hown hK hP 0 rfl rfl 5 (by decide) (hT _ k_24) (fun _ h9 => h9) rfl dX3_told_89 ?_
              refine va_get (D := (dC, dI)) (ci := 0) (v := .int T.2.2.2.2.1.2.2) (C := RX0) (T := TX0) (N := 3) hx hb hT inX0 hown hK hP 18 rfl rfl 2 (by decide) (hT _ k_23) (fun _ h9 => h9) rfl dX3_told_92 ?_
              exact W.iret (v := T.2.2.2.2.1.2.2) hx hb hr (fun t ht hW => ⟨T.2.2.2.2.1.2.2, rfl, hw, ht.trans hH.symm⟩) (fun q h => by cases h) dX3_told_95
            · have hw := hw.2
              rcases Classical.em (x1 = 6) with c_7 | c_7
              · have hw := hw.1 c_7
                refine lv_tableIn (off := 95) (tgt := 96) hx hb dX3_told_1 (by rw [c_7]; decide) (by rw [c_7]; decide) (by rw [c_7]; rfl) (by decide) ?_
                refine lv_aload_n hx hb dX3_told_96 rfl (lv_at hl 0 rfl) ?_
                refine va_get (D := (dC, dI)) (ci := 3) (v := .ref (ad 10)) (C := RX3) (T := TX3) (N := 7) hx hb hT inX3 hown hK hP 0 rfl rfl 2 (by decide) (hT _ k_25) (fun _ h9 => h9) rfl dX3_told_97 ?_
                refine va_get (D := (dC, dI)) (ci := 2) (v := .int T.2.1.2.2) (C := RX2) (T := TX2) (N := 3) hx hb hT inX2 hown hK hP 10 rfl rfl 2 (by decide) (hT _ k_26) (fun _ h9 => h9) rfl dX3_told_100 ?_
                exact W.iret (v := T.2.1.2.2) hx hb hr (fun t ht hW => ⟨T.2.1.2.2, rfl, hw, ht.trans hH.symm⟩) (fun q h => by cases h) dX3_told_103
              · have hw := hw.2
                rcases Classical.em (x1 = 7) with c_8 | c_8
                · have hw := hw.1 c_8
                  refine lv_tableIn (off := 103) (tgt := 104) hx hb dX3_told_1 (by rw [c_8]; decide) (by rw [c_8]; decide) (by rw [c_8]; rfl) (by decide) ?_
                  refine lv_aload_n hx hb dX3_told_104 rfl (lv_at hl 0 rfl) ?_
                  refine va_get (D := (dC, dI)) (ci := 3) (v := .ref (ad 13)) (C := RX3) (T := TX3) (N := 7) hx hb hT inX3 hown hK hP 0 rfl rfl 3 (by decide) (hT _ k_27) (fun _ h9 => h9) rfl dX3_told_105 ?_
                  refine va_get (D := (dC, dI)) (ci := 2) (v := .int T.2.2.1.2.2) (C := RX2) (T := TX2) (N := 3) hx hb hT inX2 hown hK hP 13 rfl rfl 2 (by decide) (hT _ k_26) (fun _ h9 => h9) rfl dX3_told_108 ?_
                  exact W.iret (v := T.2.2.1.2.2) hx hb hr (fun t ht hW => ⟨T.2.2.1.2.2, rfl, hw, ht.trans hH.symm⟩) (fun q h => by cases h) dX3_told_111
                · have hw := hw.2
                  have hw := hw ⟨c_1, c_2, c_3, c_4, c_5, c_6, c_7, c_8⟩
                  have zc_1 := lv_neT c_1 (show ((0 : Int32)).toInt = 0 by decide)
                  have zc_2 := lv_neT c_2 (show ((1 : Int32)).toInt = 1 by decide)
                  have zc_3 := lv_neT c_3 (show ((2 : Int32)).toInt = 2 by decide)
                  have zc_4 := lv_neT c_4 (show ((3 : Int32)).toInt = 3 by decide)
                  have zc_5 := lv_neT c_5 (show ((4 : Int32)).toInt = 4 by decide)
                  have zc_6 := lv_neT c_6 (show ((5 : Int32)).toInt = 5 by decide)
                  have zc_7 := lv_neT c_7 (show ((6 : Int32)).toInt = 6 by decide)
                  have zc_8 := lv_neT c_8 (show ((7 : Int32)).toInt = 7 by decide)
                  refine lv_tableOut (tgt := 112) hx hb dX3_told_1 (by omega) (by decide) ?_
                  refine lv_iconst (v := (-1)) hx hb dX3_told_112 (by decide) ?_
                  exact W.iret (v := (-1)) hx hb hr (fun t ht hW => ⟨(-1), rfl, hw, ht.trans hH.symm⟩) (fun q h => by cases h) dX3_told_113
def wp_X3_nearest (post : Int32 → Prop)   (x0 : Int64) (x2 : Int32) (x3 : Int32) : Prop := ((0 ≤ lg_cmp x0 x2.toInt64 → (((lg_cmp x0 x3.toInt64 ≤ 0 → (post x0.toInt32)) ∧ (¬ lg_cmp x0 x3.toInt64 ≤ 0 → (post x3))))) ∧ (¬ 0 ≤ lg_cmp x0 x2.toInt64 → (post x2)))
abbrev rm_X3_nearest : Room := { frames := 0, cells := 0, slots := 0, locals := 0 }
set_option maxHeartbeats 4000000 in
set_option maxRecDepth 100000 in
theorem met_X3_nearest (l : Launch) (dC : Nat → ClassId) (dI : Nat → Nat → Nat) (cI cZ cJ cL : ClassId)  (post : Int32 → Prop)   (x0 : Int64) (x2 : Int32) (x3 : Int32) (hw : wp_X3_nearest post   x0 x2 x3) : Met l yX3_nearest wsX3_nearest rm_X3_nearest (pcR (dC, dI) (tysA cI cZ cJ cL) [] [.long x0, .int x2, .int x3]) (vp_Si post) 0 0 (fun _ => False) := by
  refine Met.ofW (cc := cX3_nearest) (maxL := 4) (ret := (some .int)) (by decide) rfl ?_
  intro p e s m args below meth c s₁ Bd hml hv
  obtain ⟨hargs, hP, hK⟩ := hv
  have hx := Bd.exec
  have hb := Bd.bytes
  have hr := Bd.returns
  have hts := atoms_spec (ws := wsX3_nearest) Bd.pre
  have hT : ∀ w ∈ WALL, w.before args s = true := fun w h => hts w (List.mem_cons_of_mem _ h)
  have hown : s.vm.findClass RX3 = some m.cls := findClass_of_methodNamed Bd.named
  have hlocks := Bd.notSynchronized
  have hP : va_P (dC, dI) vwCl [] s.heap := hP
  have hl := lv_entry ([.long x0, .int x2, .int x3]) (n := 4) (Nat.le_of_ble_eq_true rfl)
  rw [show entryFrame m args 4 = F0 m 0 _ [] from by rw [hargs]; exact lg_entry_eq m ([.long x0, .int x2, .int x3]) 4]
  generalize (lg_sl ([.long x0, .int x2, .int x3]) ++ List.replicate (4 - (lg_sl ([.long x0, .int x2, .int x3])).length) Slot.unset).toArray = ls at hl ⊢
  have hl : lv_has ls 4 [(0, .long x0), (2, .int x2), (3, .int x3)] := hl
  generalize hH : s.heap = H at hP ⊢
  unfold wp_X3_nearest at hw
  refine lv_lload_n hx hb dX3_nearest_0 rfl (lv_at hl 0 rfl) ?_
  refine lv_iload_n hx hb dX3_nearest_1 rfl (lv_at hl 1 rfl) ?_
  refine lv_i2l hx hb dX3_nearest_2 rfl ?_
  refine W.lcmp hx hb dX3_nearest_3 ?_
  refine lv_if_ge (tgt := 11) hx hb dX3_nearest_4 (by decide) (fun c_1 => ?_) (fun c_1 => ?_)
  · have hw := hw.1 c_1
    refine lv_lload_n hx hb dX3_nearest_11 rfl (lv_at hl 0 rfl) ?_
    refine lv_iload_n hx hb dX3_nearest_12 rfl (lv_at hl 2 rfl) ?_
    refine lv_i2l hx hb dX3_nearest_13 rfl ?_
    refine W.lcmp hx hb dX3_nearest_14 ?_
    refine lv_if_le (tgt := 22) hx hb dX3_nearest_15 (by decide) (fun c_2 => ?_) (fun c_2 => ?_)
    · have hw := hw.1 c_2
      refine lv_lload_n hx hb dX3_nearest_22 rfl (lv_at hl 0 rfl) ?_
      refine lv_l2i hx hb dX3_nearest_23 rfl ?_
      exact W.iret (v := x0.toInt32) hx hb hr (fun t ht hW => ⟨x0.toInt32, rfl, hw, ht.trans hH.symm⟩) (fun q h => by cases h) dX3_nearest_24
    · have hw := hw.2 c_2
      refine lv_iload_n hx hb dX3_nearest_18 rfl (lv_at hl 2 rfl) ?_
      refine lv_goto (tgt := 24) hx hb dX3_nearest_19 (by decide) ?_
      exact W.iret (v := x3) hx hb hr (fun t ht hW => ⟨x3, rfl, hw, ht.trans hH.symm⟩) (fun q h => by cases h) dX3_nearest_24
  · have hw := hw.2 c_1
    refine lv_iload_n hx hb dX3_nearest_7 rfl (lv_at hl 1 rfl) ?_
    refine lv_goto (tgt := 24) hx hb dX3_nearest_8 (by decide) ?_
    exact W.iret (v := x2) hx hb hr (fun t ht hW => ⟨x2, rfl, hw, ht.trans hH.symm⟩) (fun q h => by cases h) dX3_nearest_24
def wp_X3_hasBits (post : Int32 → Prop) (nl : Nat) (nn : Nat) (S : vSH) (T : vTT) (x1 : Int32) (x2 : Int32) (x3 : Int32) : Prop := ((x3 ≤ x2 → (post 0)) ∧ (¬ x3 ≤ x2 → (vp_in x1 nn ∧ ((((T.2.1.2.1 x1.toNatClampNeg) = 0 → (post 1)) ∧ (¬ (T.2.1.2.1 x1.toNatClampNeg) = 0 → (post 0)))))))
abbrev rm_X3_hasBits : Room := { frames := 0, cells := 0, slots := 0, locals := 0 }
set_option maxHeartbeats 4000000 in
set_option maxRecDepth 100000 in
theorem met_X3_hasBits (l : Launch) (dC : Nat → ClassId) (dI : Nat → Nat → Nat) (cI cZ cJ cL : ClassId) (ad ra : Nat → Nat) (post : Int32 → Prop) (nl : Nat) (nn : Nat) (S : vSH) (T : vTT) (x1 : Int32) (x2 : Int32) (x3 : Int32) (hw : wp_X3_hasBits post nl nn S T x1 x2 x3) : Met l yX3_hasBits wsX3_hasBits rm_X3_hasBits (pcR (dC, dI) (tysA cI cZ cJ cL) (wTT cI cZ cJ nl nn ad ra S T) [.ref (ad 0), .int x1, .int x2, .int x3]) (vp_Si post) 0 0 (fun _ => False) := by
  refine Met.ofW (cc := cX3_hasBits) (maxL := 4) (ret := (some .boolean)) (by decide) rfl ?_
  intro p e s m args below meth c s₁ Bd hml hv
  obtain ⟨hargs, hP, hK⟩ := hv
  have hx := Bd.exec
  have hb := Bd.bytes
  have hr := Bd.returns
  have hts := atoms_spec (ws := wsX3_hasBits) Bd.pre
  have hT : ∀ w ∈ WALL, w.before args s = true := fun w h => hts w (List.mem_cons_of_mem _ h)
  have hown : s.vm.findClass RX3 = some m.cls := findClass_of_methodNamed Bd.named
  have hlocks := Bd.notSynchronized
  have hP : va_P (dC, dI) vwCl (wTT cI cZ cJ nl nn ad ra S T) s.heap := hP
  have hl := lv_entry ([.ref (ad 0), .int x1, .int x2, .int x3]) (n := 4) (Nat.le_of_ble_eq_true rfl)
  rw [show entryFrame m args 4 = F0 m 0 _ [] from by rw [hargs]; exact lg_entry_eq m ([.ref (ad 0), .int x1, .int x2, .int x3]) 4]
  generalize (lg_sl ([.ref (ad 0), .int x1, .int x2, .int x3]) ++ List.replicate (4 - (lg_sl ([.ref (ad 0), .int x1, .int x2, .int x3])).length) Slot.unset).toArray = ls at hl ⊢
  have hl : lv_has ls 4 [(0, .ref (ad 0)), (1, .int x1), (2, .int x2), (3, .int x3)] := hl
  generalize hH : s.heap = H at hP ⊢
  unfold wp_X3_hasBits at hw
  refine lv_iload_n hx hb dX3_hasBits_0 rfl (lv_at hl 2 rfl) ?_
  refine lv_iload_n hx hb dX3_hasBits_1 rfl (lv_at hl 3 rfl) ?_
  refine lv_icmp_ge (tgt := 21) hx hb dX3_hasBits_2 (by decide) (fun c_1 => ?_) (fun c_1 => ?_)
  · have hw := hw.1 c_1
    refine lv_iconst (v := 0) hx hb dX3_hasBits_21 (by decide) ?_
    exact W.zret (v := 0) (ty := .boolean) hx hb hr rfl (fun t ht hW => ⟨0, rfl, hw, ht.trans hH.symm⟩) (fun q h => by cases h) dX3_hasBits_22
  · have hw := hw.2 c_1
    refine lv_aload_n hx hb dX3_hasBits_5 rfl (lv_at hl 0 rfl) ?_
    refine va_get (D := (dC, dI)) (ci := 3) (v := .ref (ad 10)) (C := RX3) (T := TX3) (N := 7) hx hb hT inX3 hown hK hP 0 rfl rfl 2 (by decide) (hT _ k_25) (fun _ h9 => h9) rfl dX3_hasBits_6 ?_
    refine va_get (D := (dC, dI)) (ci := 2) (v := .ref (ad 12)) (C := RX2) (T := TX2) (N := 3) hx hb hT inX2 hown hK hP 10 rfl rfl 1 (by decide) (hT _ k_28) (fun _ h9 => h9) rfl dX3_hasBits_9 ?_
    refine lv_iload_n hx hb dX3_hasBits_12 rfl (lv_at hl 1 rfl) ?_
    obtain ⟨h_2, hw⟩ := hw
    refine va_zald hx hb hK hP 12 1 rfl rfl h_2 dX3_hasBits_13 ?_
    refine lv_if_ne (tgt := 21) hx hb dX3_hasBits_14 (by decide) (fun c_3 => ?_) (fun c_3 => ?_)
    · have hw := hw.2 c_3
      refine lv_iconst (v := 0) hx hb dX3_hasBits_21 (by decide) ?_
      exact W.zret (v := 0) (ty := .boolean) hx hb hr rfl (fun t ht hW => ⟨0, rfl, hw, ht.trans hH.symm⟩) (fun q h => by cases h) dX3_hasBits_22
    · have hw := hw.1 c_3
      refine lv_iconst (v := 1) hx hb dX3_hasBits_17 (by decide) ?_
      refine lv_goto (tgt := 22) hx hb dX3_hasBits_18 (by decide) ?_
      exact W.zret (v := 1) (ty := .boolean) hx hb hr rfl (fun t ht hW => ⟨1, rfl, hw, ht.trans hH.symm⟩) (fun q h => by cases h) dX3_hasBits_22
def wp_X3_reset (post : vTT → Prop) (nl : Nat) (nn : Nat) (S : vSH) (T : vTT)  : Prop := wp_X2_forget (fun D_1 => wp_X2_forget (fun D_2 => wp_X0_empty (fun B_3 => wp_X0_empty (fun B_4 => post (T.1, D_1, D_2, B_3, B_4, 0))  T.2.2.2.2.1 )  T.2.2.2.1 ) nn T.2.2.1 ) nn T.2.1 
abbrev rm_X3_reset : Room := { frames := 1, cells := 0, slots := 0, locals := 21 }
set_option maxHeartbeats 4000000 in
set_option maxRecDepth 100000 in
theorem met_X3_reset (l : Launch) (dC : Nat → ClassId) (dI : Nat → Nat → Nat) (cI cZ cJ cL : ClassId) (ad ra : Nat → Nat) (sz : Nat) (post : vTT → Prop) (nl : Nat) (nn : Nat) (S : vSH) (T : vTT)  (hw : wp_X3_reset post nl nn S T ) : Met l yX3_reset wsX3_reset rm_X3_reset (pcW (dC, dI) (tysA cI cZ cJ cL) (wTT cI cZ cJ nl nn ad ra S T) sz [.ref (ad 0)]) (va_Qv post (fun u t => qB (dC, dI) (tysA cI cZ cJ cL) (va_A (wTT cI cZ cJ nl nn ad ra S T) sz) (wTT cI cZ cJ nl nn ad ra S u) t) (va_A (wTT cI cZ cJ nl nn ad ra S T) sz)) 0 0 (va_A (wTT cI cZ cJ nl nn ad ra S T) sz) := by
  refine Met.ofW (cc := cX3_reset) (maxL := 1) (ret := none) (by decide) rfl ?_
  intro p e s m args below meth c s₁ Bd hml hv
  obtain ⟨hargs, hsz, hP, hK, hD0⟩ := hv
  have hx := Bd.exec
  have hb := Bd.bytes
  have hr := Bd.returns
  have hts := atoms_spec (ws := wsX3_reset) Bd.pre
  have hT : ∀ w ∈ WALL, w.before args s = true := fun w h => hts w (List.mem_cons_of_mem _ h)
  have hown : s.vm.findClass RX3 = some m.cls := findClass_of_methodNamed Bd.named
  have hlocks := Bd.notSynchronized
  subst hsz
  have hD := hD0.self (sz := s.heap.size)
  generalize hAe : va_A (wTT cI cZ cJ nl nn ad ra S T) s.heap.size = A at hD ⊢
  have hA : ∀ q : Nat, s.heap.size ≤ q → A q := fun q h => by rw [← hAe]; exact Or.inr h
  have hS : va_S A s.heap s.heap [] := va_S.rf
  have hP : va_P (dC, dI) vwCl (wTT cI cZ cJ nl nn ad ra S T) s.heap := hP
  have hl := lv_entry ([.ref (ad 0)]) (n := 1) (Nat.le_of_ble_eq_true rfl)
  rw [show entryFrame m args 1 = F0 m 0 _ [] from by rw [hargs]; exact lg_entry_eq m ([.ref (ad 0)]) 1]
  generalize (lg_sl ([.ref (ad 0)]) ++ List.replicate (1 - (lg_sl ([.ref (ad 0)])).length) Slot.unset).toArray = ls at hl ⊢
  have hl : lv_has ls 1 [(0, .ref (ad 0))] := hl
  obtain ⟨H, hH⟩ : ∃ z : Heap, z = s.heap := ⟨_, rfl⟩
  obtain ⟨locs, hlocs⟩ : ∃ z : List Loc, z = [] := ⟨_, rfl⟩
  rw [show W p l e (headSpec wsX3_reset rm_X3_reset).room s m args below meth c s.heap [] 0 0 = W p l e (headSpec wsX3_reset rm_X3_reset).room s m args below meth c H locs 0 0 from by rw [hH, hlocs]]
  have hP : va_P (dC, dI) vwCl (wTT cI cZ cJ nl nn ad ra S T) H := by rw [hH]; exact hP
  have hS : va_S A s.heap H locs := by rw [hH, hlocs]; exact hS
  unfold wp_X3_reset at hw
  refine lv_aload_n hx hb dX3_reset_0 rfl (lv_at hl 0 rfl) ?_
  refine va_get (D := (dC, dI)) (ci := 3) (v := .ref (ad 10)) (C := RX3) (T := TX3) (N := 7) hx hb hT inX3 hown hK hP 0 rfl rfl 2 (by decide) (hT _ k_25) (fun _ h9 => h9) rfl dX3_reset_1 ?_
  have hPc := hP.sub (ws' := wSD cI cZ nn (ad 10) (ad 11) (ad 12) T.2.1) [10, 11, 12] rfl
  have hDc := hD.sub (ws' := wSD cI cZ nn (ad 10) (ad 11) (ad 12) T.2.1) [10, 11, 12] (by decide) rfl
  have hFc := va_free (wc := wSD cI cZ nn (ad 10) (ad 11) (ad 12) T.2.1) hD hS hA [10, 11, 12] rfl
  refine va_callv (va_runV (As := []) (rest := []) ⟨hx, hb, hml, hown, hT⟩ (met_X2_forget l dC dI cI cZ cJ cL (ad 10) (ad 11) (ad 12) H.size _ nn T.2.1  hw) (cwV 0 hT (gV k_29 k_31 k_32 k_33 k_30) rfl rfl rfl (by decide +kernel) ⟨(Nat.le_of_ble_eq_true rfl), (Nat.le_of_ble_eq_true rfl)⟩) ⟨bl_W, va_recv hK hPc (ci := 2) (q0 := 0) rfl rfl, fun U hU hW => ⟨rfl, by rw [hU], by rw [hU]; exact hPc, va_K.moved hW.alike hK, hDc.weaken (fun _ _ _ _ => trivial)⟩⟩ rfl rfl hl.1 rfl (lv_room (Nat.le_of_ble_eq_true rfl)) dX3_reset_4 ⟨Nat.le_of_ble_eq_true rfl, Nat.le_of_ble_eq_true rfl⟩) hS (fun q _ h => hFc q h) hFc (fun D_1 t H1 locs ht hvm hw hB hz1 hk1 hS => ?_)
  obtain ⟨hP1, -, hD1⟩ := hB
  try dsimp only at hw
  rw [ht] at hP1
  obtain ⟨hP, hD⟩ := va_join (wr := [(ad 0, .inr (3, [.ref (ad 1), .ref (ad 9), .ref (ad 10), .ref (ad 13), .ref (ad 16), .ref (ad 18), .int T.2.2.2.2.2])), (ad 1, .inr (1, [.int S.1.1, .int S.1.2.1, .int S.1.2.2.1, .int S.1.2.2.2.1, .int S.1.2.2.2.2, .ref (ad 2), .ref (ad 3), .ref (ad 4), .ref (ad 5)])), (ad 2, .inl (cI, 6, .inl S.2.1.1)), (ad 3, .inl (cI, 6, .inl S.2.1.2.1)), (ad 4, .inl (cI, 6, .inl S.2.1.2.2)), (ad 5, .inl (cJ, 3, .inr (.inr (.inr (.inr (fun i => if i < 3 then some (ra i) else none)))))), (ra 0, .inl (cI, nl, .inl (S.2.2 0))), (ra 1, .inl (cI, nl, .inl (S.2.2 1))), (ra 2, .inl (cI, nl, .inl (S.2.2 2))), (ad 9, .inl (cI, nn, .inl T.1)), (ad 13, .inr (2, [.ref (ad 14), .ref (ad 15), .int T.2.2.1.2.2])), (ad 14, .inl (cI, nn, .inl T.2.2.1.1)), (ad 15, .inl (cZ, nn, .inl T.2.2.1.2.1)), (ad 16, .inr (0, [.ref (ad 17), .int T.2.2.2.1.2.1, .int T.2.2.2.1.2.2])), (ad 17, .inl (cI, 1250, .inl T.2.2.2.1.1)), (ad 18, .inr (0, [.ref (ad 19), .int T.2.2.2.2.1.2.1, .int T.2.2.2.2.1.2.2])), (ad 19, .inl (cI, 1250, .inl T.2.2.2.2.1.1))]) (w1 := wSD cI cZ nn (ad 10) (ad 11) (ad 12) D_1) hP hD [10, 11, 12] [0, 1, 2, 3, 4, 5, 6, 7, 8, 9, 13, 14, 15, 16, 17, 18, 19] rfl rfl (by decide) (by decide) hk1 hFc hP1 hD1
  generalize H1 = H at hP hS ⊢
  have hP := hP.sub (ws' := wTT cI cZ cJ nl nn ad ra S (T.1, D_1, T.2.2.1, T.2.2.2.1, T.2.2.2.2.1, T.2.2.2.2.2)) [0, 1, 2, 3, 4, 5, 6, 7, 8, 9, 17, 18, 19, 10, 11, 12, 13, 14, 15, 16] rfl
  have hD := hD.sub (ws' := wTT cI cZ cJ nl nn ad ra S (T.1, D_1, T.2.2.1, T.2.2.2.1, T.2.2.2.2.1, T.2.2.2.2.2)) [0, 1, 2, 3, 4, 5, 6, 7, 8, 9, 17, 18, 19, 10, 11, 12, 13, 14, 15, 16] (by decide) rfl
  refine lv_aload_n hx hb dX3_reset_7 rfl (lv_at hl 0 rfl) ?_
  refine va_get (D := (dC, dI)) (ci := 3) (v := .ref (ad 13)) (C := RX3) (T := TX3) (N := 7) hx hb hT inX3 hown hK hP 0 rfl rfl 3 (by decide) (hT _ k_27) (fun _ h9 => h9) rfl dX3_reset_8 ?_
  have hPc := hP.sub (ws' := wSD cI cZ nn (ad 13) (ad 14) (ad 15) T.2.2.1) [13, 14, 15] rfl
  have hDc := hD.sub (ws' := wSD cI cZ nn (ad 13) (ad 14) (ad 15) T.2.2.1) [13, 14, 15] (by decide) rfl
  have hFc := va_free (wc := wSD cI cZ nn (ad 13) (ad 14) (ad 15) T.2.2.1) hD hS hA [13, 14, 15] rfl
  refine va_callv (va_runV (As := []) (rest := []) ⟨hx, hb, hml, hown, hT⟩ (met_X2_forget l dC dI cI cZ cJ cL (ad 13) (ad 14) (ad 15) H.size _ nn T.2.2.1  hw) (cwV 0 hT (gV k_29 k_31 k_32 k_33 k_30) rfl rfl rfl (by decide +kernel) ⟨(Nat.le_of_ble_eq_true rfl), (Nat.le_of_ble_eq_true rfl)⟩) ⟨bl_W, va_recv hK hPc (ci := 2) (q0 := 0) rfl rfl, fun U hU hW => ⟨rfl, by rw [hU], by rw [hU]; exact hPc, va_K.moved hW.alike hK, hDc.weaken (fun _ _ _ _ => trivial)⟩⟩ rfl rfl hl.1 rfl (lv_room (Nat.le_of_ble_eq_true rfl)) dX3_reset_11 ⟨Nat.le_of_ble_eq_true rfl, Nat.le_of_ble_eq_true rfl⟩) hS (fun q _ h => hFc q h) hFc (fun D_2 t H1 locs ht hvm hw hB hz1 hk1 hS => ?_)
  obtain ⟨hP1, -, hD1⟩ := hB
  try dsimp only at hw
  rw [ht] at hP1
  obtain ⟨hP, hD⟩ := va_join (wr := [(ad 0, .inr (3, [.ref (ad 1), .ref (ad 9), .ref (ad 10), .ref (ad 13), .ref (ad 16), .ref (ad 18), .int T.2.2.2.2.2])), (ad 1, .inr (1, [.int S.1.1, .int S.1.2.1, .int S.1.2.2.1, .int S.1.2.2.2.1, .int S.1.2.2.2.2, .ref (ad 2), .ref (ad 3), .ref (ad 4), .ref (ad 5)])), (ad 2, .inl (cI, 6, .inl S.2.1.1)), (ad 3, .inl (cI, 6, .inl S.2.1.2.1)), (ad 4, .inl (cI, 6, .inl S.2.1.2.2)), (ad 5, .inl (cJ, 3, .inr (.inr (.inr (.inr (fun i => if i < 3 then some (ra i) else none)))))), (ra 0, .inl (cI, nl, .inl (S.2.2 0))), (ra 1, .inl (cI, nl, .inl (S.2.2 1))), (ra 2, .inl (cI, nl, .inl (S.2.2 2))), (ad 9, .inl (cI, nn, .inl T.1)), (ad 10, .inr (2, [.ref (ad 11), .ref (ad 12), .int D_1.2.2])), (ad 11, .inl (cI, nn, .inl D_1.1)), (ad 12, .inl (cZ, nn, .inl D_1.2.1)), (ad 16, .inr (0, [.ref (ad 17), .int T.2.2.2.1.2.1, .int T.2.2.2.1.2.2])), (ad 17, .inl (cI, 1250, .inl T.2.2.2.1.1)), (ad 18, .inr (0, [.ref (ad 19), .int T.2.2.2.2.1.2.1, .int T.2.2.2.2.1.2.2])), (ad 19, .inl (cI, 1250, .inl T.2.2.2.2.1.1))]) (w1 := wSD cI cZ nn (ad 13) (ad 14) (ad 15) D_2) hP hD [13, 14, 15] [0, 1, 2, 3, 4, 5, 6, 7, 8, 9, 10, 11, 12, 16, 17, 18, 19] rfl rfl (by decide) (by decide) hk1 hFc hP1 hD1
  generalize H1 = H at hP hS ⊢
  have hP := hP.sub (ws' := wTT cI cZ cJ nl nn ad ra S (T.1, D_1, D_2, T.2.2.2.1, T.2.2.2.2.1, T.2.2.2.2.2)) [0, 1, 2, 3, 4, 5, 6, 7, 8, 9, 10, 11, 12, 17, 18, 19, 13, 14, 15, 16] rfl
  have hD := hD.sub (ws' := wTT cI cZ cJ nl nn ad ra S (T.1, D_1, D_2, T.2.2.2.1, T.2.2.2.2.1, T.2.2.2.2.2)) [0, 1, 2, 3, 4, 5, 6, 7, 8, 9, 10, 11, 12, 17, 18, 19, 13, 14, 15, 16] (by decide) rfl
  refine lv_aload_n hx hb dX3_reset_14 rfl (lv_at hl 0 rfl) ?_
  refine va_get (D := (dC, dI)) (ci := 3) (v := .ref (ad 16)) (C := RX3) (T := TX3) (N := 7) hx hb hT inX3 hown hK hP 0 rfl rfl 4 (by decide) (hT _ k_22) (fun _ h9 => h9) rfl dX3_reset_15 ?_
  have hPc := hP.sub (ws' := wBR cI (ad 16) (ad 17) T.2.2.2.1) [16, 17] rfl
  have hDc := hD.sub (ws' := wBR cI (ad 16) (ad 17) T.2.2.2.1) [16, 17] (by decide) rfl
  have hFc := va_free (wc := wBR cI (ad 16) (ad 17) T.2.2.2.1) hD hS hA [16, 17] rfl
  refine va_callv (va_runV (As := []) (rest := []) ⟨hx, hb, hml, hown, hT⟩ (met_X0_empty l dC dI cI cZ cJ cL (ad 16) (ad 17) H.size _  T.2.2.2.1  hw) (cwV 0 hT (gV k_34 k_36 k_37 k_7 k_35) rfl rfl rfl (by decide +kernel) ⟨(Nat.le_of_ble_eq_true rfl), (Nat.le_of_ble_eq_true rfl)⟩) ⟨bl_W, va_recv hK hPc (ci := 0) (q0 := 0) rfl rfl, fun U hU hW => ⟨rfl, by rw [hU], by rw [hU]; exact hPc, va_K.moved hW.alike hK, hDc.weaken (fun _ _ _ _ => trivial)⟩⟩ rfl rfl hl.1 rfl (lv_room (Nat.le_of_ble_eq_true rfl)) dX3_reset_18 ⟨Nat.le_of_ble_eq_true rfl, Nat.le_of_ble_eq_true rfl⟩) hS (fun q _ h => hFc q h) hFc (fun B_3 t H1 locs ht hvm hw hB hz1 hk1 hS => ?_)
  obtain ⟨hP1, -, hD1⟩ := hB
  try dsimp only at hw
  rw [ht] at hP1
  obtain ⟨hP, hD⟩ := va_join (wr := [(ad 0, .inr (3, [.ref (ad 1), .ref (ad 9), .ref (ad 10), .ref (ad 13), .ref (ad 16), .ref (ad 18), .int T.2.2.2.2.2])), (ad 1, .inr (1, [.int S.1.1, .int S.1.2.1, .int S.1.2.2.1, .int S.1.2.2.2.1, .int S.1.2.2.2.2, .ref (ad 2), .ref (ad 3), .ref (ad 4), .ref (ad 5)])), (ad 2, .inl (cI, 6, .inl S.2.1.1)), (ad 3, .inl (cI, 6, .inl S.2.1.2.1)), (ad 4, .inl (cI, 6, .inl S.2.1.2.2)), (ad 5, .inl (cJ, 3, .inr (.inr (.inr (.inr (fun i => if i < 3 then some (ra i) else none)))))), (ra 0, .inl (cI, nl, .inl (S.2.2 0))), (ra 1, .inl (cI, nl, .inl (S.2.2 1))), (ra 2, .inl (cI, nl, .inl (S.2.2 2))), (ad 9, .inl (cI, nn, .inl T.1)), (ad 10, .inr (2, [.ref (ad 11), .ref (ad 12), .int D_1.2.2])), (ad 11, .inl (cI, nn, .inl D_1.1)), (ad 12, .inl (cZ, nn, .inl D_1.2.1)), (ad 13, .inr (2, [.ref (ad 14), .ref (ad 15), .int D_2.2.2])), (ad 14, .inl (cI, nn, .inl D_2.1)), (ad 15, .inl (cZ, nn, .inl D_2.2.1)), (ad 18, .inr (0, [.ref (ad 19), .int T.2.2.2.2.1.2.1, .int T.2.2.2.2.1.2.2])), (ad 19, .inl (cI, 1250, .inl T.2.2.2.2.1.1))]) (w1 := wBR cI (ad 16) (ad 17) B_3) hP hD [16, 17] [0, 1, 2, 3, 4, 5, 6, 7, 8, 9, 10, 11, 12, 13, 14, 15, 18, 19] rfl rfl (by decide) (by decide) hk1 hFc hP1 hD1
  generalize H1 = H at hP hS ⊢
  have hP := hP.sub (ws' := wTT cI cZ cJ nl nn ad ra S (T.1, D_1, D_2, B_3, T.2.2.2.2.1, T.2.2.2.2.2)) [0, 1, 2, 3, 4, 5, 6, 7, 8, 9, 10, 11, 12, 13, 14, 15, 18, 19, 16, 17] rfl
  have hD := hD.sub (ws' := wTT cI cZ cJ nl nn ad ra S (T.1, D_1, D_2, B_3, T.2.2.2.2.1, T.2.2.2.2.2)) [0, 1, 2, 3, 4, 5, 6, 7, 8, 9, 10, 11, 12, 13, 14, 15, 18, 19, 16, 17] (by decide) rfl
  refine lv_aload_n hx hb dX3_reset_21 rfl (lv_at hl 0 rfl) ?_
  refine va_get (D := (dC, dI)) (ci := 3) (v := .ref (ad 18)) (C := RX3) (T := TX3) (N := 7) hx hb hT inX3 hown hK hP 0 rfl rfl 5 (by decide) (hT _ k_24) (fun _ h9 => h9) rfl dX3_reset_22 ?_
  have hPc := hP.sub (ws' := wBR cI (ad 18) (ad 19) T.2.2.2.2.1) [18, 19] rfl
  have hDc := hD.sub (ws' := wBR cI (ad 18) (ad 19) T.2.2.2.2.1) [18, 19] (by decide) rfl
  have hFc := va_free (wc := wBR cI (ad 18) (ad 19) T.2.2.2.2.1) hD hS hA [18, 19] rfl
  refine va_callv (va_runV (As := []) (rest := []) ⟨hx, hb, hml, hown, hT⟩ (met_X0_empty l dC dI cI cZ cJ cL (ad 18) (ad 19) H.size _  T.2.2.2.2.1  hw) (cwV 0 hT (gV k_34 k_36 k_37 k_7 k_35) rfl rfl rfl (by decide +kernel) ⟨(Nat.le_of_ble_eq_true rfl), (Nat.le_of_ble_eq_true rfl)⟩) ⟨bl_W, va_recv hK hPc (ci := 0) (q0 := 0) rfl rfl, fun U hU hW => ⟨rfl, by rw [hU], by rw [hU]; exact hPc, va_K.moved hW.alike hK, hDc.weaken (fun _ _ _ _ => trivial)⟩⟩ rfl rfl hl.1 rfl (lv_room (Nat.le_of_ble_eq_true rfl)) dX3_reset_25 ⟨Nat.le_of_ble_eq_true rfl, Nat.le_of_ble_eq_true rfl⟩) hS (fun q _ h => hFc q h) hFc (fun B_4 t H1 locs ht hvm hw hB hz1 hk1 hS => ?_)
  obtain ⟨hP1, -, hD1⟩ := hB
  try dsimp only at hw
  rw [ht] at hP1
  obtain ⟨hP, hD⟩ := va_join (wr := [(ad 0, .inr (3, [.ref (ad 1), .ref (ad 9), .ref (ad 10), .ref (ad 13), .ref (ad 16), .ref (ad 18), .int T.2.2.2.2.2])), (ad 1, .inr (1, [.int S.1.1, .int S.1.2.1, .int S.1.2.2.1, .int S.1.2.2.2.1, .int S.1.2.2.2.2, .ref (ad 2), .ref (ad 3), .ref (ad 4), .ref (ad 5)])), (ad 2, .inl (cI, 6, .inl S.2.1.1)), (ad 3, .inl (cI, 6, .inl S.2.1.2.1)), (ad 4, .inl (cI, 6, .inl S.2.1.2.2)), (ad 5, .inl (cJ, 3, .inr (.inr (.inr (.inr (fun i => if i < 3 then some (ra i) else none)))))), (ra 0, .inl (cI, nl, .inl (S.2.2 0))), (ra 1, .inl (cI, nl, .inl (S.2.2 1))), (ra 2, .inl (cI, nl, .inl (S.2.2 2))), (ad 9, .inl (cI, nn, .inl T.1)), (ad 10, .inr (2, [.ref (ad 11), .ref (ad 12), .int D_1.2.2])), (ad 11, .inl (cI, nn, .inl D_1.1)), (ad 12, .inl (cZ, nn, .inl D_1.2.1)), (ad 13, .inr (2, [.ref (ad 14), .ref (ad 15), .int D_2.2.2])), (ad 14, .inl (cI, nn, .inl D_2.1)), (ad 15, .inl (cZ, nn, .inl D_2.2.1)), (ad 16, .inr (0, [.ref (ad 17), .int B_3.2.1, .int B_3.2.2])), (ad 17, .inl (cI, 1250, .inl B_3.1))]) (w1 := wBR cI (ad 18) (ad 19) B_4) hP hD [18, 19] [0, 1, 2, 3, 4, 5, 6, 7, 8, 9, 10, 11, 12, 13, 14, 15, 16, 17] rfl rfl (by decide) (by decide) hk1 hFc hP1 hD1
  generalize H1 = H at hP hS ⊢
  have hP := hP.sub (ws' := wTT cI cZ cJ nl nn ad ra S (T.1, D_1, D_2, B_3, B_4, T.2.2.2.2.2)) [0, 1, 2, 3, 4, 5, 6, 7, 8, 9, 10, 11, 12, 13, 14, 15, 16, 17, 18, 19] rfl
  have hD := hD.sub (ws' := wTT cI cZ cJ nl nn ad ra S (T.1, D_1, D_2, B_3, B_4, T.2.2.2.2.2)) [0, 1, 2, 3, 4, 5, 6, 7, 8, 9, 10, 11, 12, 13, 14, 15, 16, 17, 18, 19] (by decide) rfl
  refine lv_aload_n hx hb dX3_reset_28 rfl (lv_at hl 0 rfl) ?_
  refine lv_iconst (v := 0) hx hb dX3_reset_29 (by decide) ?_
  refine va_put (D := (dC, dI)) (ci := 3) (v := .int 0) (ty := .int) (C := RX3) (T := TX3) (N := 7) hx hb hT inX3 tyX3 tyX3_ok nmX3 hown hK hP hD hS 0 rfl rfl 6 (by decide) (hT _ k_38) (fun _ h9 => h9) rfl (by decide +kernel) rfl rfl (Nat.le_of_ble_eq_true rfl) dX3_reset_30 (fun H locs hP hD hS => ?_)
  have hP : va_P (dC, dI) vwCl (wTT cI cZ cJ nl nn ad ra S (T.1, D_1, D_2, B_3, B_4, 0)) H := hP
  have hD : va_D A (wTT cI cZ cJ nl nn ad ra S (T.1, D_1, D_2, B_3, B_4, 0)) := hD
  exact W.vret hx hb hr (fun t ht hW => ⟨⟨(T.1, D_1, D_2, B_3, B_4, 0), rfl, hw, by rw [ht]; exact hP, va_K.moved hW.alike hK, hD⟩, hS.F ht⟩) hS.2.2 dX3_reset_33
def wp_X3_leastOfChildren_L8 (post : Int32 → Prop) (ex8 : Int32 → Int32 → Prop) (nl : Nat) (nn : Nat) (S : vSH) (T : vTT) (x1 : Int32) (x2 : Int32) (x3 : Int32) : Nat → Int32 → Int32 → Prop
  | 0, _, _ => False
  | n_3 + 1, x5_1, x4_2 => ((4 ≤ x5_1 → (ex8 x5_1 x4_2)) ∧ (¬ 4 ≤ x5_1 → (∀ x6_5 : Int32, x6_5 = (2 * x2) + (x5_1 &&& 1) → (∀ x7_6 : Int32, x7_6 = (2 * x3) + (x5_1 >>> ((1 : Int32) &&& 31)) → (wp_X1_hasNode (fun r_7 => ((r_7 = 0 → (∀ x5_9 : Int32, x5_9 = x5_1 + 1 → (wp_X3_leastOfChildren_L8 post ex8 nl nn S T x1 x2 x3 n_3 x5_9 x4_2))) ∧ (¬ r_7 = 0 → (wp_X1_nodeAt (fun r_10 => vp_in r_10 nn ∧ (∀ x4_12 : Int32, x4_12 = (if (T.1 r_10.toNatClampNeg) < x4_2 then (T.1 r_10.toNatClampNeg) else x4_2) → (∀ x5_13 : Int32, x5_13 = x5_1 + 1 → (wp_X3_leastOfChildren_L8 post ex8 nl nn S T x1 x2 x3 n_3 x5_13 x4_12)))) nl S  (x1 - 1) x6_5 x7_6)))) nl S  (x1 - 1) x6_5 x7_6)))))
def wp_X3_leastOfChildren (post : Int32 → Prop) (nl : Nat) (nn : Nat) (S : vSH) (T : vTT) (x1 : Int32) (x2 : Int32) (x3 : Int32) : Prop := ∃ n_3 : Nat, wp_X3_leastOfChildren_L8 post (fun (x5_1 : Int32) (x4_2 : Int32) => post x4_2) nl nn S T x1 x2 x3 n_3 0 1000
abbrev rm_X3_leastOfChildren : Room := { frames := 1, cells := 0, slots := 0, locals := 23 }
set_option maxHeartbeats 4000000 in
set_option maxRecDepth 100000 in
theorem met_X3_leastOfChildren (l : Launch) (dC : Nat → ClassId) (dI : Nat → Nat → Nat) (cI cZ cJ cL : ClassId) (ad ra : Nat → Nat) (post : Int32 → Prop) (nl : Nat) (nn : Nat) (S : vSH) (T : vTT) (x1 : Int32) (x2 : Int32) (x3 : Int32) (hw : wp_X3_leastOfChildren post nl nn S T x1 x2 x3) : Met l yX3_leastOfChildren wsX3_leastOfChildren rm_X3_leastOfChildren (pcR (dC, dI) (tysA cI cZ cJ cL) (wTT cI cZ cJ nl nn ad ra S T) [.ref (ad 0), .int x1, .int x2, .int x3]) (vp_Si post) 0 0 (fun _ => False) := by
  refine Met.ofW (cc := cX3_leastOfChildren) (maxL := 8) (ret := (some .int)) (by decide) rfl ?_
  intro p e s m args below meth c s₁ Bd hml hv
  obtain ⟨hargs, hP, hK⟩ := hv
  have hx := Bd.exec
  have hb := Bd.bytes
  have hr := Bd.returns
  have hts := atoms_spec (ws := wsX3_leastOfChildren) Bd.pre
  have hT : ∀ w ∈ WALL, w.before args s = true := fun w h => hts w (List.mem_cons_of_mem _ h)
  have hown : s.vm.findClass RX3 = some m.cls := findClass_of_methodNamed Bd.named
  have hlocks := Bd.notSynchronized
  have hP : va_P (dC, dI) vwCl (wTT cI cZ cJ nl nn ad ra S T) s.heap := hP
  have hl := lv_entry ([.ref (ad 0), .int x1, .int x2, .int x3]) (n := 8) (Nat.le_of_ble_eq_true rfl)
  rw [show entryFrame m args 8 = F0 m 0 _ [] from by rw [hargs]; exact lg_entry_eq m ([.ref (ad 0), .int x1, .int x2, .int x3]) 8]
  generalize (lg_sl ([.ref (ad 0), .int x1, .int x2, .int x3]) ++ List.replicate (8 - (lg_sl ([.ref (ad 0), .int x1, .int x2, .int x3])).length) Slot.unset).toArray = ls at hl ⊢
  have hl : lv_has ls 8 [(0, .ref (ad 0)), (1, .int x1), (2, .int x2), (3, .int x3)] := hl
  generalize hH : s.heap = H at hP ⊢
  unfold wp_X3_leastOfChildren at hw
  refine lv_sipush (v := 1000) hx hb dX3_leastOfChildren_0 (by decide) ?_
  refine lv_istore (lv' := [(4, .int 1000), (0, .ref (ad 0)), (1, .int x1), (2, .int x2), (3, .int x3)]) hx hb dX3_leastOfChildren_3 hl (by decide) rfl (fun ls hl => ?_)
  refine lv_iconst (v := 0) hx hb dX3_leastOfChildren_5 (by decide) ?_
  refine lv_istore (lv' := [(5, .int 0), (4, .int 1000), (0, .ref (ad 0)), (1, .int x1), (2, .int x2), (3, .int x3)]) hx hb dX3_leastOfChildren_6 hl (by decide) rfl (fun ls hl => ?_)
  obtain ⟨n_3, hw⟩ := hw
  obtain ⟨ex8, eex8⟩ : ∃ z : Int32 → Int32 → Prop, z = (fun (x5_1 : Int32) (x4_2 : Int32) => post x4_2) := ⟨_, rfl⟩
  rw [← eex8] at hw
  have hx8 : ∀ (x5_1 : Int32) (x4_2 : Int32), ex8 x5_1 x4_2 → ∀ (ls : Array Slot), lv_has ls 8 [(5, .int x5_1), (4, .int x4_2), (0, .ref (ad 0)), (1, .int x1), (2, .int x2), (3, .int x3)] → W p l e (headSpec wsX3_leastOfChildren rm_X3_leastOfChildren).room s m args below meth c H [] 0 0 (MQ below (vp_Si post) args s 0 0 (fun _ => False)) (F0 m 83 ls []) := by
    intro x5_1 x4_2 hw ls hl
    rw [eex8] at hw
    try dsimp only at hw
    refine lv_iload hx hb dX3_leastOfChildren_83 (lv_at hl 1 rfl) ?_
    exact W.iret (v := x4_2) hx hb hr (fun t ht hW => ⟨x4_2, rfl, hw, ht.trans hH.symm⟩) (fun q h => by cases h) dX3_leastOfChildren_85
  have hlp8 : ∀ (n_3 : Nat) (x5_1 : Int32) (x4_2 : Int32), wp_X3_leastOfChildren_L8 post ex8 nl nn S T x1 x2 x3 n_3 x5_1 x4_2 → ∀ (ls : Array Slot), lv_has ls 8 [(5, .int x5_1), (4, .int x4_2), (0, .ref (ad 0)), (1, .int x1), (2, .int x2), (3, .int x3)] → W p l e (headSpec wsX3_leastOfChildren rm_X3_leastOfChildren).room s m args below meth c H [] 0 0 (MQ below (vp_Si post) args s 0 0 (fun _ => False)) (F0 m 8 ls []) := by
    intro n_3
    induction n_3 with
    | zero => intro _ _ hw; exact hw.elim
    | succ n_3 ih8 =>
      intro x5_1 x4_2 hw ls hl
      unfold wp_X3_leastOfChildren_L8 at hw
      refine lv_iload hx hb dX3_leastOfChildren_8 (lv_at hl 0 rfl) ?_
      refine lv_iconst (v := 4) hx hb dX3_leastOfChildren_10 (by decide) ?_
      refine lv_icmp_ge (tgt := 83) hx hb dX3_leastOfChildren_11 (by decide) (fun c_4 => ?_) (fun c_4 => ?_)
      · have hw := hw.1 c_4
        exact hx8 x5_1 x4_2 hw _ (lv_sub hl [0, 1, 2, 3, 4, 5] rfl)
      · have hw := hw.2 c_4
        refine lv_iconst (v := 2) hx hb dX3_leastOfChildren_14 (by decide) ?_
        refine lv_iload_n hx hb dX3_leastOfChildren_15 rfl (lv_at hl 4 rfl) ?_
        refine lv_imul hx hb dX3_leastOfChildren_16 ?_
        refine lv_iload hx hb dX3_leastOfChildren_17 (lv_at hl 0 rfl) ?_
        refine lv_iconst (v := 1) hx hb dX3_leastOfChildren_19 (by decide) ?_
        refine lv_iand hx hb dX3_leastOfChildren_20 ?_
        refine lv_iadd hx hb dX3_leastOfChildren_21 ?_
        refine lv_topi (fun x6_5 ex6_5 => ?_)
        have hw := hw x6_5 ex6_5
        refine lv_istore (lv' := [(6, .int x6_5), (5, .int x5_1), (4, .int x4_2), (0, .ref (ad 0)), (1, .int x1), (2, .int x2), (3, .int x3)]) hx hb dX3_leastOfChildren_22 hl (by decide) rfl (fun ls hl => ?_)
        refine lv_iconst (v := 2) hx hb dX3_leastOfChildren_24 (by decide) ?_
        refine lv_iload_n hx hb dX3_leastOfChildren_25 rfl (lv_at hl 6 rfl) ?_
        refine lv_imul hx hb dX3_leastOfChildren_26 ?_
        refine lv_iload hx hb dX3_leastOfChildren_27 (lv_at hl 1 rfl) ?_
        refine lv_iconst (v := 1) hx hb dX3_leastOfChildren_29 (by decide) ?_
        refine lv_ishr hx hb dX3_leastOfChildren_30 ?_
        refine lv_iadd hx hb dX3_leastOfChildren_31 ?_
        refine lv_topi (fun x7_6 ex7_6 => ?_)
        have hw := hw x7_6 ex7_6
        refine lv_istore (lv' := [(7, .int x7_6), (6, .int x6_5), (5, .int x5_1), (4, .int x4_2), (0, .ref (ad 0)), (1, .int x1), (2, .int x2), (3, .int x3)]) hx hb dX3_leastOfChildren_32 hl (by decide) rfl (fun ls hl => ?_)
        refine lv_aload_n hx hb dX3_leastOfChildren_34 rfl (lv_at hl 4 rfl) ?_
        refine va_get (D := (dC, dI)) (ci := 3) (v := .ref (ad 1)) (C := RX3) (T := TX3) (N := 7) hx hb hT inX3 hown hK hP 0 rfl rfl 0 (by decide) (hT _ k_17) (fun _ h9 => h9) rfl dX3_leastOfChildren_35 ?_
        refine lv_iload_n hx hb dX3_leastOfChildren_38 rfl (lv_at hl 5 rfl) ?_
        refine lv_iconst (v := 1) hx hb dX3_leastOfChildren_39 (by decide) ?_
        refine lv_isub hx hb dX3_leastOfChildren_40 ?_
        refine lv_iload hx hb dX3_leastOfChildren_41 (lv_at hl 1 rfl) ?_
        refine lv_iload hx hb dX3_leastOfChildren_43 (lv_at hl 0 rfl) ?_
        have hPc := hP.sub (ws' := wSH cI cJ nl (ad 1) (ad 2) (ad 3) (ad 4) (ad 5) ra S) [1, 2, 3, 4, 5, 6, 7, 8] rfl
        refine vp_callSi (W.runV (As := [.int (x1 - 1), .int x6_5, .int x7_6]) (rest := []) ⟨hx, hb, hml, hown, hT⟩ (met_X1_hasNode l dC dI cI cZ cJ cL (ad 1) (ad 2) (ad 3) (ad 4) (ad 5) ra _ nl S  (x1 - 1) x6_5 x7_6 hw) (cwV 3 hT (gV k_39 k_41 k_42 k_43 k_40) rfl rfl rfl (by decide +kernel) ⟨(Nat.le_of_ble_eq_true rfl), (Nat.le_of_ble_eq_true rfl)⟩) ⟨bl_R, va_recv hK hPc (ci := 1) (q0 := 0) rfl rfl, fun U hU hW => ⟨rfl, by rw [hU]; exact hPc, va_K.moved hW.alike hK⟩⟩ rfl rfl hl.1 rfl (lv_room (Nat.le_of_ble_eq_true rfl)) dX3_leastOfChildren_45 ⟨Nat.le_of_ble_eq_true rfl, Nat.le_of_ble_eq_true rfl⟩) (fun r_7 hw => ?_)
        try dsimp only at hw
        refine lv_if_eq (tgt := 77) hx hb dX3_leastOfChildren_48 (by decide) (fun c_8 => ?_) (fun c_8 => ?_)
        · have hw := hw.1 c_8
          obtain ⟨x5_9, ex5_9⟩ : ∃ y : Int32, y = x5_1 + 1 := ⟨_, rfl⟩
          have hw := hw x5_9 ex5_9
          refine lv_iinc (v := x5_9) (lv' := [(5, .int x5_9), (7, .int x7_6), (6, .int x6_5), (4, .int x4_2), (0, .ref (ad 0)), (1, .int x1), (2, .int x2), (3, .int x3)]) hx hb dX3_leastOfChildren_77 hl (k := 2) rfl (by rw [ex5_9]; rfl) (by decide) rfl (fun ls hl => ?_)
          refine lv_goto (tgt := 8) hx hb dX3_leastOfChildren_80 (by decide) ?_
          exact ih8 x5_9 x4_2 hw _ (lv_sub hl [0, 3, 4, 5, 6, 7] rfl)
        · have hw := hw.2 c_8
          refine lv_iload hx hb dX3_leastOfChildren_51 (lv_at hl 3 rfl) ?_
          refine lv_aload_n hx hb dX3_leastOfChildren_53 rfl (lv_at hl 4 rfl) ?_
          refine va_get (D := (dC, dI)) (ci := 3) (v := .ref (ad 9)) (C := RX3) (T := TX3) (N := 7) hx hb hT inX3 hown hK hP 0 rfl rfl 1 (by decide) (hT _ k_44) (fun _ h9 => h9) rfl dX3_leastOfChildren_54 ?_
          refine lv_aload_n hx hb dX3_leastOfChildren_57 rfl (lv_at hl 4 rfl) ?_
          refine va_get (D := (dC, dI)) (ci := 3) (v := .ref (ad 1)) (C := RX3) (T := TX3) (N := 7) hx hb hT inX3 hown hK hP 0 rfl rfl 0 (by decide) (hT _ k_17) (fun _ h9 => h9) rfl dX3_leastOfChildren_58 ?_
          refine lv_iload_n hx hb dX3_leastOfChildren_61 rfl (lv_at hl 5 rfl) ?_
          refine lv_iconst (v := 1) hx hb dX3_leastOfChildren_62 (by decide) ?_
          refine lv_isub hx hb dX3_leastOfChildren_63 ?_
          refine lv_iload hx hb dX3_leastOfChildren_64 (lv_at hl 1 rfl) ?_
          refine lv_iload hx hb dX3_leastOfChildren_66 (lv_at hl 0 rfl) ?_
          have hPc := hP.sub (ws' := wSH cI cJ nl (ad 1) (ad 2) (ad 3) (ad 4) (ad 5) ra S) [1, 2, 3, 4, 5, 6, 7, 8] rfl
          refine vp_callSi (W.runV (As := [.int (x1 - 1), .int x6_5, .int x7_6]) (rest := [.ref (ad 9), .int x4_2]) ⟨hx, hb, hml, hown, hT⟩ (met_X1_nodeAt l dC dI cI cZ cJ cL (ad 1) (ad 2) (ad 3) (ad 4) (ad 5) ra _ nl S  (x1 - 1) x6_5 x7_6 hw) (cwV 3 hT (gV k_45 k_47 k_48 k_43 k_46) rfl rfl rfl (by decide +kernel) ⟨(Nat.le_of_ble_eq_true rfl), (Nat.le_of_ble_eq_true rfl)⟩) ⟨bl_R, va_recv hK hPc (ci := 1) (q0 := 0) rfl rfl, fun U hU hW => ⟨rfl, by rw [hU]; exact hPc, va_K.moved hW.alike hK⟩⟩ rfl rfl hl.1 rfl (lv_room (Nat.le_of_ble_eq_true rfl)) dX3_leastOfChildren_68 ⟨Nat.le_of_ble_eq_true rfl, Nat.le_of_ble_eq_true rfl⟩) (fun r_10 hw => ?_)
          try dsimp only at hw
          obtain ⟨h_11, hw⟩ := hw
          refine va_iald hx hb hK hP 9 0 rfl rfl h_11 dX3_leastOfChildren_71 ?_
          refine va_mmin (x := x4_2) (y := (T.1 r_10.toNatClampNeg)) (rest := []) hx hb (by rw [hml]; exact hl.1.symm) hown (hT _ k_49) (hT _ k_50) (hT _ k_51) (hT _ k_52) (Nat.le_of_ble_eq_true rfl) (Nat.le_of_ble_eq_true rfl) (Nat.le_of_ble_eq_true rfl) (Nat.le_of_ble_eq_true rfl) dX3_leastOfChildren_72 ?_
          refine lv_topi (fun x4_12 ex4_12 => ?_)
          have hw := hw x4_12 ex4_12
          refine lv_istore (lv' := [(4, .int x4_12), (7, .int x7_6), (6, .int x6_5), (5, .int x5_1), (0, .ref (ad 0)), (1, .int x1), (2, .int x2), (3, .int x3)]) hx hb dX3_leastOfChildren_75 hl (by decide) rfl (fun ls hl => ?_)
          obtain ⟨x5_13, ex5_13⟩ : ∃ y : Int32, y = x5_1 + 1 := ⟨_, rfl⟩
          have hw := hw x5_13 ex5_13
          refine lv_iinc (v := x5_13) (lv' := [(5, .int x5_13), (4, .int x4_12), (7, .int x7_6), (6, .int x6_5), (0, .ref (ad 0)), (1, .int x1), (2, .int x2), (3, .int x3)]) hx hb dX3_leastOfChildren_77 hl (k := 3) rfl (by rw [ex5_13]; rfl) (by decide) rfl (fun ls hl => ?_)
          refine lv_goto (tgt := 8) hx hb dX3_leastOfChildren_80 (by decide) ?_
          exact ih8 x5_13 x4_12 hw _ (lv_sub hl [0, 1, 4, 5, 6, 7] rfl)
  exact hlp8 n_3 0 1000 hw _ (lv_sub hl [0, 1, 2, 3, 4, 5] rfl)
def wp_X3_boundAfter (post : Int32 → Prop) (nl : Nat) (nn : Nat) (S : vSH) (T : vTT) (x1 : Int32) (x2 : Int32) (x3 : Int32) : Prop := wp_X3_hasBits (fun r_1 => ((r_1 = 0 → (post x2)) ∧ (¬ r_1 = 0 → (vp_in x1 nn ∧ (post (if x3 < (T.1 x1.toNatClampNeg) then x3 else (T.1 x1.toNatClampNeg))))))) nl nn S T x1 x2 x3
abbrev rm_X3_boundAfter : Room := { frames := 1, cells := 0, slots := 0, locals := 23 }
set_option maxHeartbeats 4000000 in
set_option maxRecDepth 100000 in
theorem met_X3_boundAfter (l : Launch) (dC : Nat → ClassId) (dI : Nat → Nat → Nat) (cI cZ cJ cL : ClassId) (ad ra : Nat → Nat) (post : Int32 → Prop) (nl : Nat) (nn : Nat) (S : vSH) (T : vTT) (x1 : Int32) (x2 : Int32) (x3 : Int32) (hw : wp_X3_boundAfter post nl nn S T x1 x2 x3) : Met l yX3_boundAfter wsX3_boundAfter rm_X3_boundAfter (pcR (dC, dI) (tysA cI cZ cJ cL) (wTT cI cZ cJ nl nn ad ra S T) [.ref (ad 0), .int x1, .int x2, .int x3]) (vp_Si post) 0 0 (fun _ => False) := by
  refine Met.ofW (cc := cX3_boundAfter) (maxL := 4) (ret := (some .int)) (by decide) rfl ?_
  intro p e s m args below meth c s₁ Bd hml hv
  obtain ⟨hargs, hP, hK⟩ := hv
  have hx := Bd.exec
  have hb := Bd.bytes
  have hr := Bd.returns
  have hts := atoms_spec (ws := wsX3_boundAfter) Bd.pre
  have hT : ∀ w ∈ WALL, w.before args s = true := fun w h => hts w (List.mem_cons_of_mem _ h)
  have hown : s.vm.findClass RX3 = some m.cls := findClass_of_methodNamed Bd.named
  have hlocks := Bd.notSynchronized
  have hP : va_P (dC, dI) vwCl (wTT cI cZ cJ nl nn ad ra S T) s.heap := hP
  have hl := lv_entry ([.ref (ad 0), .int x1, .int x2, .int x3]) (n := 4) (Nat.le_of_ble_eq_true rfl)
  rw [show entryFrame m args 4 = F0 m 0 _ [] from by rw [hargs]; exact lg_entry_eq m ([.ref (ad 0), .int x1, .int x2, .int x3]) 4]
  generalize (lg_sl ([.ref (ad 0), .int x1, .int x2, .int x3]) ++ List.replicate (4 - (lg_sl ([.ref (ad 0), .int x1, .int x2, .int x3])).length) Slot.unset).toArray = ls at hl ⊢
  have hl : lv_has ls 4 [(0, .ref (ad 0)), (1, .int x1), (2, .int x2), (3, .int x3)] := hl
  generalize hH : s.heap = H at hP ⊢
  unfold wp_X3_boundAfter at hw
  refine lv_aload_n hx hb dX3_boundAfter_0 rfl (lv_at hl 0 rfl) ?_
  refine lv_iload_n hx hb dX3_boundAfter_1 rfl (lv_at hl 1 rfl) ?_
  refine lv_iload_n hx hb dX3_boundAfter_2 rfl (lv_at hl 2 rfl) ?_
  refine lv_iload_n hx hb dX3_boundAfter_3 rfl (lv_at hl 3 rfl) ?_
  have hPc := hP
  refine vp_callSi (W.runV (As := [.int x1, .int x2, .int x3]) (rest := []) ⟨hx, hb, hml, hown, hT⟩ (met_X3_hasBits l dC dI cI cZ cJ cL ad ra _ nl nn S T x1 x2 x3 hw) (cwV 3 hT (gV k_53 k_55 k_56 k_57 k_54) rfl rfl rfl (by decide +kernel) ⟨(Nat.le_of_ble_eq_true rfl), (Nat.le_of_ble_eq_true rfl)⟩) ⟨bl_R, va_recv hK hPc (ci := 3) (q0 := 0) rfl rfl, fun U hU hW => ⟨rfl, by rw [hU]; exact hPc, va_K.moved hW.alike hK⟩⟩ rfl rfl hl.1 rfl (lv_room (Nat.le_of_ble_eq_true rfl)) dX3_boundAfter_4 ⟨Nat.le_of_ble_eq_true rfl, Nat.le_of_ble_eq_true rfl⟩) (fun r_1 hw => ?_)
  try dsimp only at hw
  refine lv_if_eq (tgt := 23) hx hb dX3_boundAfter_7 (by decide) (fun c_2 => ?_) (fun c_2 => ?_)
  · have hw := hw.1 c_2
    refine lv_iload_n hx hb dX3_boundAfter_23 rfl (lv_at hl 2 rfl) ?_
    exact W.iret (v := x2) hx hb hr (fun t ht hW => ⟨x2, rfl, hw, ht.trans hH.symm⟩) (fun q h => by cases h) dX3_boundAfter_24
  · have hw := hw.2 c_2
    refine lv_aload_n hx hb dX3_boundAfter_10 rfl (lv_at hl 0 rfl) ?_
    refine va_get (D := (dC, dI)) (ci := 3) (v := .ref (ad 9)) (C := RX3) (T := TX3) (N := 7) hx hb hT inX3 hown hK hP 0 rfl rfl 1 (by decide) (hT _ k_44) (fun _ h9 => h9) rfl dX3_boundAfter_11 ?_
    refine lv_iload_n hx hb dX3_boundAfter_14 rfl (lv_at hl 1 rfl) ?_
    obtain ⟨h_3, hw⟩ := hw
    refine va_iald hx hb hK hP 9 0 rfl rfl h_3 dX3_boundAfter_15 ?_
    refine lv_iload_n hx hb dX3_boundAfter_16 rfl (lv_at hl 3 rfl) ?_
    refine va_mmin (x := (T.1 x1.toNatClampNeg)) (y := x3) (rest := []) hx hb (by rw [hml]; exact hl.1.symm) hown (hT _ k_49) (hT _ k_50) (hT _ k_51) (hT _ k_52) (Nat.le_of_ble_eq_true rfl) (Nat.le_of_ble_eq_true rfl) (Nat.le_of_ble_eq_true rfl) (Nat.le_of_ble_eq_true rfl) dX3_boundAfter_17 ?_
    refine lv_goto (tgt := 24) hx hb dX3_boundAfter_20 (by decide) ?_
    exact W.iret (v := (if x3 < (T.1 x1.toNatClampNeg) then x3 else (T.1 x1.toNatClampNeg))) hx hb hr (fun t ht hW => ⟨(if x3 < (T.1 x1.toNatClampNeg) then x3 else (T.1 x1.toNatClampNeg)), rfl, hw, ht.trans hH.symm⟩) (fun q h => by cases h) dX3_boundAfter_24
def wp_X3_renewLeasts_L30 (post : vTT → Prop) (ex30 : vTT → Int32 → Prop) (nl : Nat) (nn : Nat) (S : vSH) (x2_6 : Int32) (x1_2 : Int32) : Nat → vTT → Int32 → Prop
  | 0, _, _ => False
  | n_13 + 1, T_11, x3_12 => vp_in x1_2 6 ∧ ((((S.2.1.1 x1_2.toNatClampNeg) ≤ x3_12 → (ex30 T_11 x3_12)) ∧ (¬ (S.2.1.1 x1_2.toNatClampNeg) ≤ x3_12 → (wp_X1_nodeAt (fun r_17 => wp_X3_leastOfChildren (fun r_18 => vp_in r_17 nn ∧ (∀ x3_20 : Int32, x3_20 = x3_12 + 1 → (wp_X3_renewLeasts_L30 post ex30 nl nn S x2_6 x1_2 n_13 ((upd T_11.1 r_17.toNatClampNeg r_18), T_11.2.1, T_11.2.2.1, T_11.2.2.2.1, T_11.2.2.2.2.1, T_11.2.2.2.2.2) x3_20))) nl nn S T_11 x1_2 x3_12 x2_6) nl S  x1_2 x3_12 x2_6))))
def wp_X3_renewLeasts_L15 (post : vTT → Prop) (ex15 : vTT → Int32 → Prop) (nl : Nat) (nn : Nat) (S : vSH) (x1_2 : Int32) : Nat → vTT → Int32 → Prop
  | 0, _, _ => False
  | n_7 + 1, T_5, x2_6 => vp_in x1_2 6 ∧ ((((S.2.1.2.1 x1_2.toNatClampNeg) ≤ x2_6 → (ex15 T_5 x2_6)) ∧ (¬ (S.2.1.2.1 x1_2.toNatClampNeg) ≤ x2_6 → (∃ n_13 : Nat, wp_X3_renewLeasts_L30 post (fun (T_11 : vTT) (x3_12 : Int32) => ∀ x2_14 : Int32, x2_14 = x2_6 + 1 → (wp_X3_renewLeasts_L15 post ex15 nl nn S x1_2 n_7 T_11 x2_14)) nl nn S x2_6 x1_2 n_13 T_5 0))))
def wp_X3_renewLeasts_L2 (post : vTT → Prop) (ex2 : vTT → Int32 → Prop) (nl : Nat) (nn : Nat) (S : vSH) : Nat → vTT → Int32 → Prop
  | 0, _, _ => False
  | n_3 + 1, T_1, x1_2 => ((S.1.2.2.2.1 ≤ x1_2 → (ex2 T_1 x1_2)) ∧ (¬ S.1.2.2.2.1 ≤ x1_2 → (∃ n_7 : Nat, wp_X3_renewLeasts_L15 post (fun (T_5 : vTT) (x2_6 : Int32) => ∀ x1_8 : Int32, x1_8 = x1_2 + 1 → (wp_X3_renewLeasts_L2 post ex2 nl nn S n_3 T_5 x1_8)) nl nn S x1_2 n_7 T_1 0)))
def wp_X3_renewLeasts (post : vTT → Prop) (nl : Nat) (nn : Nat) (S : vSH) (T : vTT)  : Prop := ∃ n_3 : Nat, wp_X3_renewLeasts_L2 post (fun (T_1 : vTT) (x1_2 : Int32) => post T_1) nl nn S n_3 T 1
abbrev rm_X3_renewLeasts : Room := { frames := 2, cells := 0, slots := 0, locals := 50 }
set_option maxHeartbeats 4000000 in
set_option maxRecDepth 100000 in
theorem met_X3_renewLeasts (l : Launch) (dC : Nat → ClassId) (dI : Nat → Nat → Nat) (cI cZ cJ cL : ClassId) (ad ra : Nat → Nat) (sz : Nat) (post : vTT → Prop) (nl : Nat) (nn : Nat) (S : vSH) (T : vTT)  (hw : wp_X3_renewLeasts post nl nn S T ) : Met l yX3_renewLeasts wsX3_renewLeasts rm_X3_renewLeasts (pcW (dC, dI) (tysA cI cZ cJ cL) (wTT cI cZ cJ nl nn ad ra S T) sz [.ref (ad 0)]) (va_Qv post (fun u t => qB (dC, dI) (tysA cI cZ cJ cL) (va_A (wTT cI cZ cJ nl nn ad ra S T) sz) (wTT cI cZ cJ nl nn ad ra S u) t) (va_A (wTT cI cZ cJ nl nn ad ra S T) sz)) 0 0 (va_A (wTT cI cZ cJ nl nn ad ra S T) sz) := by
  refine Met.ofW (cc := cX3_renewLeasts) (maxL := 4) (ret := none) (by decide) rfl ?_
  intro p e s m args below meth c s₁ Bd hml hv
  obtain ⟨hargs, hsz, hP, hK, hD0⟩ := hv
  have hx := Bd.exec
  have hb := Bd.bytes
  have hr := Bd.returns
  have hts := atoms_spec (ws := wsX3_renewLeasts) Bd.pre
  have hT : ∀ w ∈ WALL, w.before args s = true := fun w h => hts w (List.mem_cons_of_mem _ h)
  have hown : s.vm.findClass RX3 = some m.cls := findClass_of_methodNamed Bd.named
  have hlocks := Bd.notSynchronized
  subst hsz
  have hD := hD0.self (sz := s.heap.size)
  generalize hAe : va_A (wTT cI cZ cJ nl nn ad ra S T) s.heap.size = A at hD ⊢
  have hA : ∀ q : Nat, s.heap.size ≤ q → A q := fun q h => by rw [← hAe]; exact Or.inr h
  have hS : va_S A s.heap s.heap [] := va_S.rf
  have hP : va_P (dC, dI) vwCl (wTT cI cZ cJ nl nn ad ra S T) s.heap := hP
  have hl := lv_entry ([.ref (ad 0)]) (n := 4) (Nat.le_of_ble_eq_true rfl)
  rw [show entryFrame m args 4 = F0 m 0 _ [] from by rw [hargs]; exact lg_entry_eq m ([.ref (ad 0)]) 4]
  generalize (lg_sl ([.ref (ad 0)]) ++ List.replicate (4 - (lg_sl ([.ref (ad 0)])).length) Slot.unset).toArray = ls at hl ⊢
  have hl : lv_has ls 4 [(0, .ref (ad 0))] := hl
  obtain ⟨H, hH⟩ : ∃ z : Heap, z = s.heap := ⟨_, rfl⟩
  obtain ⟨locs, hlocs⟩ : ∃ z : List Loc, z = [] := ⟨_, rfl⟩
  rw [show W p l e (headSpec wsX3_renewLeasts rm_X3_renewLeasts).room s m args below meth c s.heap [] 0 0 = W p l e (headSpec wsX3_renewLeasts rm_X3_renewLeasts).room s m args below meth c H locs 0 0 from by rw [hH, hlocs]]
  have hP : va_P (dC, dI) vwCl (wTT cI cZ cJ nl nn ad ra S T) H := by rw [hH]; exact hP
  have hS : va_S A s.heap H locs := by rw [hH, hlocs]; exact hS
  unfold wp_X3_renewLeasts at hw
  refine lv_iconst (v := 1) hx hb dX3_renewLeasts_0 (by decide) ?_
  refine lv_istore_n (lv' := [(1, .int 1), (0, .ref (ad 0))]) hx hb dX3_renewLeasts_1 rfl hl (by decide) rfl (fun ls hl => ?_)
  obtain ⟨n_3, hw⟩ := hw
  obtain ⟨ex2, eex2⟩ : ∃ z : vTT → Int32 → Prop, z = (fun (T_1 : vTT) (x1_2 : Int32) => post T_1) := ⟨_, rfl⟩
  rw [← eex2] at hw
  have hx2 : ∀ (T_1 : vTT) (x1_2 : Int32), ex2 T_1 x1_2 → ∀ (H : Heap) (locs : List Loc) (ls : Array Slot), va_P (dC, dI) vwCl (wTT cI cZ cJ nl nn ad ra S T_1) H → va_D A (wTT cI cZ cJ nl nn ad ra S T_1) → va_S A s.heap H locs → lv_has ls 4 [(1, .int x1_2), (0, .ref (ad 0))] → W p l e (headSpec wsX3_renewLeasts rm_X3_renewLeasts).room s m args below meth c H locs 0 0 (MQ below (va_Qv post (fun u t => qB (dC, dI) (tysA cI cZ cJ cL) A (wTT cI cZ cJ nl nn ad ra S u) t) A) args s 0 0 A) (F0 m 83 ls []) := by
    intro T_1 x1_2 hw H locs ls hP hD hS hl
    rw [eex2] at hw
    try dsimp only at hw
    exact W.vret hx hb hr (fun t ht hW => ⟨⟨T_1, rfl, hw, by rw [ht]; exact hP, va_K.moved hW.alike hK, hD⟩, hS.F ht⟩) hS.2.2 dX3_renewLeasts_83
  have hlp2 : ∀ (n_3 : Nat) (T_1 : vTT) (x1_2 : Int32), wp_X3_renewLeasts_L2 post ex2 nl nn S n_3 T_1 x1_2 → ∀ (H : Heap) (locs : List Loc) (ls : Array Slot), va_P (dC, dI) vwCl (wTT cI cZ cJ nl nn ad ra S T_1) H → va_D A (wTT cI cZ cJ nl nn ad ra S T_1) → va_S A s.heap H locs → lv_has ls 4 [(1, .int x1_2), (0, .ref (ad 0))] → W p l e (headSpec wsX3_renewLeasts rm_X3_renewLeasts).room s m args below meth c H locs 0 0 (MQ below (va_Qv post (fun u t => qB (dC, dI) (tysA cI cZ cJ cL) A (wTT cI cZ cJ nl nn ad ra S u) t) A) args s 0 0 A) (F0 m 2 ls []) := by
    intro n_3
    induction n_3 with
    | zero => intro _ _ hw; exact hw.elim
    | succ n_3 ih2 =>
      intro T_1 x1_2 hw H locs ls hP hD hS hl
      unfold wp_X3_renewLeasts_L2 at hw
      refine lv_iload_n hx hb dX3_renewLeasts_2 rfl (lv_at hl 0 rfl) ?_
      refine lv_aload_n hx hb dX3_renewLeasts_3 rfl (lv_at hl 1 rfl) ?_
      refine va_get (D := (dC, dI)) (ci := 3) (v := .ref (ad 1)) (C := RX3) (T := TX3) (N := 7) hx hb hT inX3 hown hK hP 0 rfl rfl 0 (by decide) (hT _ k_17) (fun _ h9 => h9) rfl dX3_renewLeasts_4 ?_
      refine va_get (D := (dC, dI)) (ci := 1) (v := .int S.1.2.2.2.1) (C := RX1) (T := TX1) (N := 9) hx hb hT inX1 hown hK hP 1 rfl rfl 3 (by decide) (hT _ k_20) (fun _ h9 => h9) rfl dX3_renewLeasts_7 ?_
      refine lv_icmp_ge (tgt := 83) hx hb dX3_renewLeasts_10 (by decide) (fun c_4 => ?_) (fun c_4 => ?_)
      · have hw := hw.1 c_4
        exact hx2 T_1 x1_2 hw _ _ _ hP hD hS (lv_sub hl [0, 1] rfl)
      · have hw := hw.2 c_4
        refine lv_iconst (v := 0) hx hb dX3_renewLeasts_13 (by decide) ?_
        refine lv_istore_n (lv' := [(2, .int 0), (1, .int x1_2), (0, .ref (ad 0))]) hx hb dX3_renewLeasts_14 rfl hl (by decide) rfl (fun ls hl => ?_)
        obtain ⟨n_7, hw⟩ := hw
        obtain ⟨ex15, eex15⟩ : ∃ z : vTT → Int32 → Prop, z = (fun (T_5 : vTT) (x2_6 : Int32) => ∀ x1_8 : Int32, x1_8 = x1_2 + 1 → (wp_X3_renewLeasts_L2 post ex2 nl nn S n_3 T_5 x1_8)) := ⟨_, rfl⟩
        rw [← eex15] at hw
        have hx15 : ∀ (T_5 : vTT) (x2_6 : Int32), ex15 T_5 x2_6 → ∀ (H : Heap) (locs : List Loc) (ls : Array Slot), va_P (dC, dI) vwCl (wTT cI cZ cJ nl nn ad ra S T_5) H → va_D A (wTT cI cZ cJ nl nn ad ra S T_5) → va_S A s.heap H locs → lv_has ls 4 [(2, .int x2_6), (1, .int x1_2), (0, .ref (ad 0))] → W p l e (headSpec wsX3_renewLeasts rm_X3_renewLeasts).room s m args below meth c H locs 0 0 (MQ below (va_Qv post (fun u t => qB (dC, dI) (tysA cI cZ cJ cL) A (wTT cI cZ cJ nl nn ad ra S u) t) A) args s 0 0 A) (F0 m 77 ls []) := by
          intro T_5 x2_6 hw H locs ls hP hD hS hl
          rw [eex15] at hw
          try dsimp only at hw
          obtain ⟨x1_8, ex1_8⟩ : ∃ y : Int32, y = x1_2 + 1 := ⟨_, rfl⟩
          have hw := hw x1_8 ex1_8
          refine lv_iinc (v := x1_8) (lv' := [(1, .int x1_8), (2, .int x2_6), (0, .ref (ad 0))]) hx hb dX3_renewLeasts_77 hl (k := 1) rfl (by rw [ex1_8]; rfl) (by decide) rfl (fun ls hl => ?_)
          refine lv_goto (tgt := 2) hx hb dX3_renewLeasts_80 (by decide) ?_
          exact ih2 T_5 x1_8 hw _ _ _ hP hD hS (lv_sub hl [0, 2] rfl)
        have hlp15 : ∀ (n_7 : Nat) (T_5 : vTT) (x2_6 : Int32), wp_X3_renewLeasts_L15 post ex15 nl nn S x1_2 n_7 T_5 x2_6 → ∀ (H : Heap) (locs : List Loc) (ls : Array Slot), va_P (dC, dI) vwCl (wTT cI cZ cJ nl nn ad ra S T_5) H → va_D A (wTT cI cZ cJ nl nn ad ra S T_5) → va_S A s.heap H locs → lv_has ls 4 [(2, .int x2_6), (1, .int x1_2), (0, .ref (ad 0))] → W p l e (headSpec wsX3_renewLeasts rm_X3_renewLeasts).room s m args below meth c H locs 0 0 (MQ below (va_Qv post (fun u t => qB (dC, dI) (tysA cI cZ cJ cL) A (wTT cI cZ cJ nl nn ad ra S u) t) A) args s 0 0 A) (F0 m 15 ls []) := by
          intro n_7
          induction n_7 with
          | zero => intro _ _ hw; exact hw.elim
          | succ n_7 ih15 =>
            intro T_5 x2_6 hw H locs ls hP hD hS hl
            unfold wp_X3_renewLeasts_L15 at hw
            refine lv_iload_n hx hb dX3_renewLeasts_15 rfl (lv_at hl 0 rfl) ?_
            refine lv_aload_n hx hb dX3_renewLeasts_16 rfl (lv_at hl 2 rfl) ?_
            refine va_get (D := (dC, dI)) (ci := 3) (v := .ref (ad 1)) (C := RX3) (T := TX3) (N := 7) hx hb hT inX3 hown hK hP 0 rfl rfl 0 (by decide) (hT _ k_17) (fun _ h9 => h9) rfl dX3_renewLeasts_17 ?_
            refine va_get (D := (dC, dI)) (ci := 1) (v := .ref (ad 3)) (C := RX1) (T := TX1) (N := 9) hx hb hT inX1 hown hK hP 1 rfl rfl 6 (by decide) (hT _ k_58) (fun _ h9 => h9) rfl dX3_renewLeasts_20 ?_
            refine lv_iload_n hx hb dX3_renewLeasts_23 rfl (lv_at hl 1 rfl) ?_
            obtain ⟨h_9, hw⟩ := hw
            refine va_iald hx hb hK hP 3 0 rfl rfl h_9 dX3_renewLeasts_24 ?_
            refine lv_icmp_ge (tgt := 77) hx hb dX3_renewLeasts_25 (by decide) (fun c_10 => ?_) (fun c_10 => ?_)
            · have hw := hw.1 c_10
              exact hx15 T_5 x2_6 hw _ _ _ hP hD hS (lv_sub hl [0, 1, 2] rfl)
            · have hw := hw.2 c_10
              refine lv_iconst (v := 0) hx hb dX3_renewLeasts_28 (by decide) ?_
              refine lv_istore_n (lv' := [(3, .int 0), (2, .int x2_6), (1, .int x1_2), (0, .ref (ad 0))]) hx hb dX3_renewLeasts_29 rfl hl (by decide) rfl (fun ls hl => ?_)
              obtain ⟨n_13, hw⟩ := hw
              obtain ⟨ex30, eex30⟩ : ∃ z : vTT → Int32 → Prop, z = (fun (T_11 : vTT) (x3_12 : Int32) => ∀ x2_14 : Int32, x2_14 = x2_6 + 1 → (wp_X3_renewLeasts_L15 post ex15 nl nn S x1_2 n_7 T_11 x2_14)) := ⟨_, rfl⟩
              rw [← eex30] at hw
              have hx30 : ∀ (T_11 : vTT) (x3_12 : Int32), ex30 T_11 x3_12 → ∀ (H : Heap) (locs : List Loc) (ls : Array Slot), va_P (dC, dI) vwCl (wTT cI cZ cJ nl nn ad ra S T_11) H → va_D A (wTT cI cZ cJ nl nn ad ra S T_11) → va_S A s.heap H locs → lv_has ls 4 [(3, .int x3_12), (2, .int x2_6), (1, .int x1_2), (0, .ref (ad 0))] → W p l e (headSpec wsX3_renewLeasts rm_X3_renewLeasts).room s m args below meth c H locs 0 0 (MQ below (va_Qv post (fun u t => qB (dC, dI) (tysA cI cZ cJ cL) A (wTT cI cZ cJ nl nn ad ra S u) t) A) args s 0 0 A) (F0 m 71 ls []) := by
                intro T_11 x3_12 hw H locs ls hP hD hS hl
                rw [eex30] at hw
                try dsimp only at hw
                obtain ⟨x2_14, ex2_14⟩ : ∃ y : Int32, y = x2_6 + 1 := ⟨_, rfl⟩
                have hw := hw x2_14 ex2_14
                refine lv_iinc (v := x2_14) (lv' := [(2, .int x2_14), (3, .int x3_12), (1, .int x1_2), (0, .ref (ad 0))]) hx hb dX3_renewLeasts_71 hl (k := 1) rfl (by rw [ex2_14]; rfl) (by decide) rfl (fun ls hl => ?_)
                refine lv_goto (tgt := 15) hx hb dX3_renewLeasts_74 (by decide) ?_
                exact ih15 T_11 x2_14 hw _ _ _ hP hD hS (lv_sub hl [0, 2, 3] rfl)
              have hlp30 : ∀ (n_13 : Nat) (T_11 : vTT) (x3_12 : Int32), wp_X3_renewLeasts_L30 post ex30 nl nn S x2_6 x1_2 n_13 T_11 x3_12 → ∀ (H : Heap) (locs : List Loc) (ls : Array Slot), va_P (dC, dI) vwCl (wTT cI cZ cJ nl nn ad ra S T_11) H → va_D A (wTT cI cZ cJ nl nn ad ra S T_11) → va_S A s.heap H locs → lv_has ls 4 [(3, .int x3_12), (2, .int x2_6), (1, .int x1_2), (0, .ref (ad 0))] → W p l e (headSpec wsX3_renewLeasts rm_X3_renewLeasts).room s m args below meth c H locs 0 0 (MQ below (va_Qv post (fun u t => qB (dC, dI) (tysA cI cZ cJ cL) A (wTT cI cZ cJ nl nn ad ra S u) t) A) args s 0 0 A) (F0 m 30 ls []) := by
                intro n_13
                induction n_13 with
                | zero => intro _ _ hw; exact hw.elim
                | succ n_13 ih30 =>
                  intro T_11 x3_12 hw H locs ls hP hD hS hl
                  unfold wp_X3_renewLeasts_L30 at hw
                  refine lv_iload_n hx hb dX3_renewLeasts_30 rfl (lv_at hl 0 rfl) ?_
                  refine lv_aload_n hx hb dX3_renewLeasts_31 rfl (lv_at hl 3 rfl) ?_
                  refine va_get (D := (dC, dI)) (ci := 3) (v := .ref (ad 1)) (C := RX3) (T := TX3) (N := 7) hx hb hT inX3 hown hK hP 0 rfl rfl 0 (by decide) (hT _ k_17) (fun _ h9 => h9) rfl dX3_renewLeasts_32 ?_
                  refine va_get (D := (dC, dI)) (ci := 1) (v := .ref (ad 2)) (C := RX1) (T := TX1) (N := 9) hx hb hT inX1 hown hK hP 1 rfl rfl 5 (by decide) (hT _ k_59) (fun _ h9 => h9) rfl dX3_renewLeasts_35 ?_
                  refine lv_iload_n hx hb dX3_renewLeasts_38 rfl (lv_at hl 2 rfl) ?_
                  obtain ⟨h_15, hw⟩ := hw
                  refine va_iald hx hb hK hP 2 0 rfl rfl h_15 dX3_renewLeasts_39 ?_
                  refine lv_icmp_ge (tgt := 71) hx hb dX3_renewLeasts_40 (by decide) (fun c_16 => ?_) (fun c_16 => ?_)
                  · have hw := hw.1 c_16
                    exact hx30 T_11 x3_12 hw _ _ _ hP hD hS (lv_sub hl [0, 1, 2, 3] rfl)
                  · have hw := hw.2 c_16
                    refine lv_aload_n hx hb dX3_renewLeasts_43 rfl (lv_at hl 3 rfl) ?_
                    refine va_get (D := (dC, dI)) (ci := 3) (v := .ref (ad 9)) (C := RX3) (T := TX3) (N := 7) hx hb hT inX3 hown hK hP 0 rfl rfl 1 (by decide) (hT _ k_44) (fun _ h9 => h9) rfl dX3_renewLeasts_44 ?_
                    refine lv_aload_n hx hb dX3_renewLeasts_47 rfl (lv_at hl 3 rfl) ?_
                    refine va_get (D := (dC, dI)) (ci := 3) (v := .ref (ad 1)) (C := RX3) (T := TX3) (N := 7) hx hb hT inX3 hown hK hP 0 rfl rfl 0 (by decide) (hT _ k_17) (fun _ h9 => h9) rfl dX3_renewLeasts_48 ?_
                    refine lv_iload_n hx hb dX3_renewLeasts_51 rfl (lv_at hl 2 rfl) ?_
                    refine lv_iload_n hx hb dX3_renewLeasts_52 rfl (lv_at hl 0 rfl) ?_
                    refine lv_iload_n hx hb dX3_renewLeasts_53 rfl (lv_at hl 1 rfl) ?_
                    have hPc := hP.sub (ws' := wSH cI cJ nl (ad 1) (ad 2) (ad 3) (ad 4) (ad 5) ra S) [1, 2, 3, 4, 5, 6, 7, 8] rfl
                    refine vp_callSi (W.runV (As := [.int x1_2, .int x3_12, .int x2_6]) (rest := [.ref (ad 9)]) ⟨hx, hb, hml, hown, hT⟩ (met_X1_nodeAt l dC dI cI cZ cJ cL (ad 1) (ad 2) (ad 3) (ad 4) (ad 5) ra _ nl S  x1_2 x3_12 x2_6 hw) (cwV 3 hT (gV k_45 k_47 k_48 k_43 k_46) rfl rfl rfl (by decide +kernel) ⟨(Nat.le_of_ble_eq_true rfl), (Nat.le_of_ble_eq_true rfl)⟩) ⟨bl_R, va_recv hK hPc (ci := 1) (q0 := 0) rfl rfl, fun U hU hW => ⟨rfl, by rw [hU]; exact hPc, va_K.moved hW.alike hK⟩⟩ rfl rfl hl.1 rfl (lv_room (Nat.le_of_ble_eq_true rfl)) dX3_renewLeasts_54 ⟨Nat.le_of_ble_eq_true rfl, Nat.le_of_ble_eq_true rfl⟩) (fun r_17 hw => ?_)
                    try dsimp only at hw
                    refine lv_aload_n hx hb dX3_renewLeasts_57 rfl (lv_at hl 3 rfl) ?_
                    refine lv_iload_n hx hb dX3_renewLeasts_58 rfl (lv_at hl 2 rfl) ?_
                    refine lv_iload_n hx hb dX3_renewLeasts_59 rfl (lv_at hl 0 rfl) ?_
                    refine lv_iload_n hx hb dX3_renewLeasts_60 rfl (lv_at hl 1 rfl) ?_
                    have hPc := hP
                    refine vp_callSi (W.runV (As := [.int x1_2, .int x3_12, .int x2_6]) (rest := [.int r_17, .ref (ad 9)]) ⟨hx, hb, hml, hown, hT⟩ (met_X3_leastOfChildren l dC dI cI cZ cJ cL ad ra _ nl nn S T_11 x1_2 x3_12 x2_6 hw) (cwV 3 hT (gV k_60 k_62 k_63 k_57 k_61) rfl rfl rfl (by decide +kernel) ⟨(Nat.le_of_ble_eq_true rfl), (Nat.le_of_ble_eq_true rfl)⟩) ⟨bl_R, va_recv hK hPc (ci := 3) (q0 := 0) rfl rfl, fun U hU hW => ⟨rfl, by rw [hU]; exact hPc, va_K.moved hW.alike hK⟩⟩ rfl rfl hl.1 rfl (lv_room (Nat.le_of_ble_eq_true rfl)) dX3_renewLeasts_61 ⟨Nat.le_of_ble_eq_true rfl, Nat.le_of_ble_eq_true rfl⟩) (fun r_18 hw => ?_)
                    try dsimp only at hw
                    obtain ⟨h_19, hw⟩ := hw
                    refine va_iast hx hb hK hP hD hS 9 0 rfl rfl h_19 dX3_renewLeasts_64 (fun H locs hP hD hS => ?_)
                    have hP : va_P (dC, dI) vwCl (wTT cI cZ cJ nl nn ad ra S ((upd T_11.1 r_17.toNatClampNeg r_18), T_11.2.1, T_11.2.2.1, T_11.2.2.2.1, T_11.2.2.2.2.1, T_11.2.2.2.2.2)) H := hP
                    have hD : va_D A (wTT cI cZ cJ nl nn ad ra S ((upd T_11.1 r_17.toNatClampNeg r_18), T_11.2.1, T_11.2.2.1, T_11.2.2.2.1, T_11.2.2.2.2.1, T_11.2.2.2.2.2)) := hD
                    obtain ⟨x3_20, ex3_20⟩ : ∃ y : Int32, y = x3_12 + 1 := ⟨_, rfl⟩
                    have hw := hw x3_20 ex3_20
                    refine lv_iinc (v := x3_20) (lv' := [(3, .int x3_20), (2, .int x2_6), (1, .int x1_2), (0, .ref (ad 0))]) hx hb dX3_renewLeasts_65 hl (k := 0) rfl (by rw [ex3_20]; rfl) (by decide) rfl (fun ls hl => ?_)
                    refine lv_goto (tgt := 30) hx hb dX3_renewLeasts_68 (by decide) ?_
                    exact ih30 ((upd T_11.1 r_17.toNatClampNeg r_18), T_11.2.1, T_11.2.2.1, T_11.2.2.2.1, T_11.2.2.2.2.1, T_11.2.2.2.2.2) x3_20 hw _ _ _ hP hD hS (lv_sub hl [0, 1, 2, 3] rfl)
              exact hlp30 n_13 T_5 0 hw _ _ _ hP hD hS (lv_sub hl [0, 1, 2, 3] rfl)
        exact hlp15 n_7 T_1 0 hw _ _ _ hP hD hS (lv_sub hl [0, 1, 2] rfl)
  exact hlp2 n_3 T 1 hw _ _ _ hP hD hS (lv_sub hl [0, 1] rfl)
def wp_X3_costOfNode (post : Int32 → Prop) (nl : Nat) (nn : Nat) (S : vSH) (T : vTT) (x1 : Int32) (x2 : Int32) (x3 : Int32) : Prop := wp_X3_hasBits (fun r_1 => ((r_1 = 0 → (post 0)) ∧ (¬ r_1 = 0 → (wp_X3_boundAfter (fun r_3 => ∀ x4_4 : Int32, x4_4 = r_3 - x2 → (vp_in x1 nn ∧ (((x3 ≤ (T.1 x1.toNatClampNeg) → (post x4_4)) ∧ (¬ x3 ≤ (T.1 x1.toNatClampNeg) → (post (x4_4 + 1))))))) nl nn S T x1 x2 x3)))) nl nn S T x1 x2 x3
abbrev rm_X3_costOfNode : Room := { frames := 2, cells := 0, slots := 0, locals := 46 }
set_option maxHeartbeats 4000000 in
set_option maxRecDepth 100000 in
theorem met_X3_costOfNode (l : Launch) (dC : Nat → ClassId) (dI : Nat → Nat → Nat) (cI cZ cJ cL : ClassId) (ad ra : Nat → Nat) (post : Int32 → Prop) (nl : Nat) (nn : Nat) (S : vSH) (T : vTT) (x1 : Int32) (x2 : Int32) (x3 : Int32) (hw : wp_X3_costOfNode post nl nn S T x1 x2 x3) : Met l yX3_costOfNode wsX3_costOfNode rm_X3_costOfNode (pcR (dC, dI) (tysA cI cZ cJ cL) (wTT cI cZ cJ nl nn ad ra S T) [.ref (ad 0), .int x1, .int x2, .int x3]) (vp_Si post) 0 0 (fun _ => False) := by
  refine Met.ofW (cc := cX3_costOfNode) (maxL := 5) (ret := (some .int)) (by decide) rfl ?_
  intro p e s m args below meth c s₁ Bd hml hv
  obtain ⟨hargs, hP, hK⟩ := hv
  have hx := Bd.exec
  have hb := Bd.bytes
  have hr := Bd.returns
  have hts := atoms_spec (ws := wsX3_costOfNode) Bd.pre
  have hT : ∀ w ∈ WALL, w.before args s = true := fun w h => hts w (List.mem_cons_of_mem _ h)
  have hown : s.vm.findClass RX3 = some m.cls := findClass_of_methodNamed Bd.named
  have hlocks := Bd.notSynchronized
  have hP : va_P (dC, dI) vwCl (wTT cI cZ cJ nl nn ad ra S T) s.heap := hP
  have hl := lv_entry ([.ref (ad 0), .int x1, .int x2, .int x3]) (n := 5) (Nat.le_of_ble_eq_true rfl)
  rw [show entryFrame m args 5 = F0 m 0 _ [] from by rw [hargs]; exact lg_entry_eq m ([.ref (ad 0), .int x1, .int x2, .int x3]) 5]
  generalize (lg_sl ([.ref (ad 0), .int x1, .int x2, .int x3]) ++ List.replicate (5 - (lg_sl ([.ref (ad 0), .int x1, .int x2, .int x3])).length) Slot.unset).toArray = ls at hl ⊢
  have hl : lv_has ls 5 [(0, .ref (ad 0)), (1, .int x1), (2, .int x2), (3, .int x3)] := hl
  generalize hH : s.heap = H at hP ⊢
  unfold wp_X3_costOfNode at hw
  refine lv_aload_n hx hb dX3_costOfNode_0 rfl (lv_at hl 0 rfl) ?_
  refine lv_iload_n hx hb dX3_costOfNode_1 rfl (lv_at hl 1 rfl) ?_
  refine lv_iload_n hx hb dX3_costOfNode_2 rfl (lv_at hl 2 rfl) ?_
  refine lv_iload_n hx hb dX3_costOfNode_3 rfl (lv_at hl 3 rfl) ?_
  have hPc := hP
  refine vp_callSi (W.runV (As := [.int x1, .int x2, .int x3]) (rest := []) ⟨hx, hb, hml, hown, hT⟩ (met_X3_hasBits l dC dI cI cZ cJ cL ad ra _ nl nn S T x1 x2 x3 hw) (cwV 3 hT (gV k_53 k_55 k_56 k_57 k_54) rfl rfl rfl (by decide +kernel) ⟨(Nat.le_of_ble_eq_true rfl), (Nat.le_of_ble_eq_true rfl)⟩) ⟨bl_R, va_recv hK hPc (ci := 3) (q0 := 0) rfl rfl, fun U hU hW => ⟨rfl, by rw [hU]; exact hPc, va_K.moved hW.alike hK⟩⟩ rfl rfl hl.1 rfl (lv_room (Nat.le_of_ble_eq_true rfl)) dX3_costOfNode_4 ⟨Nat.le_of_ble_eq_true rfl, Nat.le_of_ble_eq_true rfl⟩) (fun r_1 hw => ?_)
  try dsimp only at hw
  refine lv_if_ne (tgt := 12) hx hb dX3_costOfNode_7 (by decide) (fun c_2 => ?_) (fun c_2 => ?_)
  · have hw := hw.2 c_2
    refine lv_aload_n hx hb dX3_costOfNode_12 rfl (lv_at hl 0 rfl) ?_
    refine lv_iload_n hx hb dX3_costOfNode_13 rfl (lv_at hl 1 rfl) ?_
    refine lv_iload_n hx hb dX3_costOfNode_14 rfl (lv_at hl 2 rfl) ?_
    refine lv_iload_n hx hb dX3_costOfNode_15 rfl (lv_at hl 3 rfl) ?_
    have hPc := hP
    refine vp_callSi (W.runV (As := [.int x1, .int x2, .int x3]) (rest := []) ⟨hx, hb, hml, hown, hT⟩ (met_X3_boundAfter l dC dI cI cZ cJ cL ad ra _ nl nn S T x1 x2 x3 hw) (cwV 3 hT (gV k_64 k_66 k_67 k_57 k_65) rfl rfl rfl (by decide +kernel) ⟨(Nat.le_of_ble_eq_true rfl), (Nat.le_of_ble_eq_true rfl)⟩) ⟨bl_R, va_recv hK hPc (ci := 3) (q0 := 0) rfl rfl, fun U hU hW => ⟨rfl, by rw [hU]; exact hPc, va_K.moved hW.alike hK⟩⟩ rfl rfl hl.1 rfl (lv_room (Nat.le_of_ble_eq_true rfl)) dX3_costOfNode_16 ⟨Nat.le_of_ble_eq_true rfl, Nat.le_of_ble_eq_true rfl⟩) (fun r_3 hw => ?_)
    try dsimp only at hw
    refine lv_iload_n hx hb dX3_costOfNode_19 rfl (lv_at hl 2 rfl) ?_
    refine lv_isub hx hb dX3_costOfNode_20 ?_
    refine lv_topi (fun x4_4 ex4_4 => ?_)
    have hw := hw x4_4 ex4_4
    refine lv_istore (lv' := [(4, .int x4_4), (0, .ref (ad 0)), (1, .int x1), (2, .int x2), (3, .int x3)]) hx hb dX3_costOfNode_21 hl (by decide) rfl (fun ls hl => ?_)
    refine lv_aload_n hx hb dX3_costOfNode_23 rfl (lv_at hl 1 rfl) ?_
    refine va_get (D := (dC, dI)) (ci := 3) (v := .ref (ad 9)) (C := RX3) (T := TX3) (N := 7) hx hb hT inX3 hown hK hP 0 rfl rfl 1 (by decide) (hT _ k_44) (fun _ h9 => h9) rfl dX3_costOfNode_24 ?_
    refine lv_iload_n hx hb dX3_costOfNode_27 rfl (lv_at hl 2 rfl) ?_
    obtain ⟨h_5, hw⟩ := hw
    refine va_iald hx hb hK hP 9 0 rfl rfl h_5 dX3_costOfNode_28 ?_
    refine lv_iload_n hx hb dX3_costOfNode_29 rfl (lv_at hl 4 rfl) ?_
    refine lv_icmp_ge (tgt := 40) hx hb dX3_costOfNode_30 (by decide) (fun c_6 => ?_) (fun c_6 => ?_)
    · have hw := hw.1 c_6
      refine lv_iload hx hb dX3_costOfNode_40 (lv_at hl 0 rfl) ?_
      exact W.iret (v := x4_4) hx hb hr (fun t ht hW => ⟨x4_4, rfl, hw, ht.trans hH.symm⟩) (fun q h => by cases h) dX3_costOfNode_42
    · have hw := hw.2 c_6
      refine lv_iload hx hb dX3_costOfNode_33 (lv_at hl 0 rfl) ?_
      refine lv_iconst (v := 1) hx hb dX3_costOfNode_35 (by decide) ?_
      refine lv_iadd hx hb dX3_costOfNode_36 ?_
      refine lv_goto (tgt := 42) hx hb dX3_costOfNode_37 (by decide) ?_
      exact W.iret (v := (x4_4 + 1)) hx hb hr (fun t ht hW => ⟨(x4_4 + 1), rfl, hw, ht.trans hH.symm⟩) (fun q h => by cases h) dX3_costOfNode_42
  · have hw := hw.1 c_2
    refine lv_iconst (v := 0) hx hb dX3_costOfNode_10 (by decide) ?_
    exact W.iret (v := 0) hx hb hr (fun t ht hW => ⟨0, rfl, hw, ht.trans hH.symm⟩) (fun q h => by cases h) dX3_costOfNode_11
def wp_X3_tellNode_L12 (post : vTT → Prop) (ex12 : vTT → Int32 → Prop) (nl : Nat) (nn : Nat) (S : vSH) (r_1 : Int32) (x1 : Int32) (x2 : Int32) (x3 : Int32) : Nat → vTT → Int32 → Prop
  | 0, _, _ => False
  | n_4 + 1, T_2, x5_3 => ((r_1 ≤ x5_3 → (ex12 T_2 x5_3)) ∧ (¬ r_1 ≤ x5_3 → (wp_X0_append (fun B_15 => ∀ x5_16 : Int32, x5_16 = x5_3 + 1 → (wp_X3_tellNode_L12 post ex12 nl nn S r_1 x1 x2 x3 n_4 (T_2.1, T_2.2.1, T_2.2.2.1, B_15, T_2.2.2.2.2.1, T_2.2.2.2.2.2) x5_16))  T_2.2.2.2.1 0)))
def wp_X3_tellNode (post : vTT → Prop) (nl : Nat) (nn : Nat) (S : vSH) (T : vTT) (x1 : Int32) (x2 : Int32) (x3 : Int32) : Prop := wp_X3_boundAfter (fun r_1 => ∃ n_4 : Nat, wp_X3_tellNode_L12 post (fun (T_2 : vTT) (x5_3 : Int32) => wp_X3_hasBits (fun r_5 => ((r_5 = 0 → (vp_in x1 nn ∧ (post (T_2.1, ((upd T_2.2.1.1 x1.toNatClampNeg r_1), T_2.2.1.2.1, T_2.2.1.2.2), T_2.2.2.1, T_2.2.2.2.1, T_2.2.2.2.2.1, T_2.2.2.2.2.2)))) ∧ (¬ r_5 = 0 → (vp_in x1 nn ∧ (((x3 ≤ (T_2.1 x1.toNatClampNeg) → (vp_in x1 nn ∧ (post (T_2.1, ((upd T_2.2.1.1 x1.toNatClampNeg r_1), T_2.2.1.2.1, T_2.2.1.2.2), T_2.2.2.1, T_2.2.2.2.1, T_2.2.2.2.2.1, T_2.2.2.2.2.2)))) ∧ (¬ x3 ≤ (T_2.1 x1.toNatClampNeg) → (wp_X0_append (fun B_11 => wp_X2_find (fun D_12 => vp_in x1 nn ∧ (post (T_2.1, ((upd D_12.1 x1.toNatClampNeg r_1), D_12.2.1, D_12.2.2), T_2.2.2.1, B_11, T_2.2.2.2.2.1, T_2.2.2.2.2.2))) nn T_2.2.1 x1)  T_2.2.2.2.1 1)))))))) nl nn S T_2 x1 x2 x3) nl nn S r_1 x1 x2 x3 n_4 T x2) nl nn S T x1 x2 x3
abbrev rm_X3_tellNode : Room := { frames := 2, cells := 0, slots := 0, locals := 46 }
set_option maxHeartbeats 4000000 in
set_option maxRecDepth 100000 in
theorem met_X3_tellNode (l : Launch) (dC : Nat → ClassId) (dI : Nat → Nat → Nat) (cI cZ cJ cL : ClassId) (ad ra : Nat → Nat) (sz : Nat) (post : vTT → Prop) (nl : Nat) (nn : Nat) (S : vSH) (T : vTT) (x1 : Int32) (x2 : Int32) (x3 : Int32) (hw : wp_X3_tellNode post nl nn S T x1 x2 x3) : Met l yX3_tellNode wsX3_tellNode rm_X3_tellNode (pcW (dC, dI) (tysA cI cZ cJ cL) (wTT cI cZ cJ nl nn ad ra S T) sz [.ref (ad 0), .int x1, .int x2, .int x3]) (va_Qv post (fun u t => qB (dC, dI) (tysA cI cZ cJ cL) (va_A (wTT cI cZ cJ nl nn ad ra S T) sz) (wTT cI cZ cJ nl nn ad ra S u) t) (va_A (wTT cI cZ cJ nl nn ad ra S T) sz)) 0 0 (va_A (wTT cI cZ cJ nl nn ad ra S T) sz) := by
  refine Met.ofW (cc := cX3_tellNode) (maxL := 6) (ret := none) (by decide) rfl ?_
  intro p e s m args below meth c s₁ Bd hml hv
  obtain ⟨hargs, hsz, hP, hK, hD0⟩ := hv
  have hx := Bd.exec
  have hb := Bd.bytes
  have hr := Bd.returns
  have hts := atoms_spec (ws := wsX3_tellNode) Bd.pre
  have hT : ∀ w ∈ WALL, w.before args s = true := fun w h => hts w (List.mem_cons_of_mem _ h)
  have hown : s.vm.findClass RX3 = some m.cls := findClass_of_methodNamed Bd.named
  have hlocks := Bd.notSynchronized
  subst hsz
  have hD := hD0.self (sz := s.heap.size)
  generalize hAe : va_A (wTT cI cZ cJ nl nn ad ra S T) s.heap.size = A at hD ⊢
  have hA : ∀ q : Nat, s.heap.size ≤ q → A q := fun q h => by rw [← hAe]; exact Or.inr h
  have hS : va_S A s.heap s.heap [] := va_S.rf
  have hP : va_P (dC, dI) vwCl (wTT cI cZ cJ nl nn ad ra S T) s.heap := hP
  have hl := lv_entry ([.ref (ad 0), .int x1, .int x2, .int x3]) (n := 6) (Nat.le_of_ble_eq_true rfl)
  rw [show entryFrame m args 6 = F0 m 0 _ [] from by rw [hargs]; exact lg_entry_eq m ([.ref (ad 0), .int x1, .int x2, .int x3]) 6]
  generalize (lg_sl ([.ref (ad 0), .int x1, .int x2, .int x3]) ++ List.replicate (6 - (lg_sl ([.ref (ad 0), .int x1, .int x2, .int x3])).length) Slot.unset).toArray = ls at hl ⊢
  have hl : lv_has ls 6 [(0, .ref (ad 0)), (1, .int x1), (2, .int x2), (3, .int x3)] := hl
  obtain ⟨H, hH⟩ : ∃ z : Heap, z = s.heap := ⟨_, rfl⟩
  obtain ⟨locs, hlocs⟩ : ∃ z : List Loc, z = [] := ⟨_, rfl⟩
  rw [show W p l e (headSpec wsX3_tellNode rm_X3_tellNode).room s m args below meth c s.heap [] 0 0 = W p l e (headSpec wsX3_tellNode rm_X3_tellNode).room s m args below meth c H locs 0 0 from by rw [hH, hlocs]]
  have hP : va_P (dC, dI) vwCl (wTT cI cZ cJ nl nn ad ra S T) H := by rw [hH]; exact hP
  have hS : va_S A s.heap H locs := by rw [hH, hlocs]; exact hS
  unfold wp_X3_tellNode at hw
  refine lv_aload_n hx hb dX3_tellNode_0 rfl (lv_at hl 0 rfl) ?_
  refine lv_iload_n hx hb dX3_tellNode_1 rfl (lv_at hl 1 rfl) ?_
  refine lv_iload_n hx hb dX3_tellNode_2 rfl (lv_at hl 2 rfl) ?_
  refine lv_iload_n hx hb dX3_tellNode_3 rfl (lv_at hl 3 rfl) ?_
  have hPc := hP
  refine vp_callSi (W.runV (As := [.int x1, .int x2, .int x3]) (rest := []) ⟨hx, hb, hml, hown, hT⟩ (met_X3_boundAfter l dC dI cI cZ cJ cL ad ra _ nl nn S T x1 x2 x3 hw) (cwV 3 hT (gV k_64 k_66 k_67 k_57 k_65) rfl rfl rfl (by decide +kernel) ⟨(Nat.le_of_ble_eq_true rfl), (Nat.le_of_ble_eq_true rfl)⟩) ⟨bl_R, va_recv hK hPc (ci := 3) (q0 := 0) rfl rfl, fun U hU hW => ⟨rfl, by rw [hU]; exact hPc, va_K.moved hW.alike hK⟩⟩ rfl rfl hl.1 rfl (lv_room (Nat.le_of_ble_eq_true rfl)) dX3_tellNode_4 ⟨Nat.le_of_ble_eq_true rfl, Nat.le_of_ble_eq_true rfl⟩) (fun r_1 hw => ?_)
  try dsimp only at hw
  refine lv_istore (lv' := [(4, .int r_1), (0, .ref (ad 0)), (1, .int x1), (2, .int x2), (3, .int x3)]) hx hb dX3_tellNode_7 hl (by decide) rfl (fun ls hl => ?_)
  refine lv_iload_n hx hb dX3_tellNode_9 rfl (lv_at hl 3 rfl) ?_
  refine lv_istore (lv' := [(5, .int x2), (4, .int r_1), (0, .ref (ad 0)), (1, .int x1), (2, .int x2), (3, .int x3)]) hx hb dX3_tellNode_10 hl (by decide) rfl (fun ls hl => ?_)
  obtain ⟨n_4, hw⟩ := hw
  obtain ⟨ex12, eex12⟩ : ∃ z : vTT → Int32 → Prop, z = (fun (T_2 : vTT) (x5_3 : Int32) => wp_X3_hasBits (fun r_5 => ((r_5 = 0 → (vp_in x1 nn ∧ (post (T_2.1, ((upd T_2.2.1.1 x1.toNatClampNeg r_1), T_2.2.1.2.1, T_2.2.1.2.2), T_2.2.2.1, T_2.2.2.2.1, T_2.2.2.2.2.1, T_2.2.2.2.2.2)))) ∧ (¬ r_5 = 0 → (vp_in x1 nn ∧ (((x3 ≤ (T_2.1 x1.toNatClampNeg) → (vp_in x1 nn ∧ (post (T_2.1, ((upd T_2.2.1.1 x1.toNatClampNeg r_1), T_2.2.1.2.1, T_2.2.1.2.2), T_2.2.2.1, T_2.2.2.2.1, T_2.2.2.2.2.1, T_2.2.2.2.2.2)))) ∧ (¬ x3 ≤ (T_2.1 x1.toNatClampNeg) → (wp_X0_append (fun B_11 => wp_X2_find (fun D_12 => vp_in x1 nn ∧ (post (T_2.1, ((upd D_12.1 x1.toNatClampNeg r_1), D_12.2.1, D_12.2.2), T_2.2.2.1, B_11, T_2.2.2.2.2.1, T_2.2.2.2.2.2))) nn T_2.2.1 x1)  T_2.2.2.2.1 1)))))))) nl nn S T_2 x1 x2 x3) := ⟨_, rfl⟩
  rw [← eex12] at hw
  have hx12 : ∀ (T_2 : vTT) (x5_3 : Int32), ex12 T_2 x5_3 → ∀ (H : Heap) (locs : List Loc) (ls : Array Slot), va_P (dC, dI) vwCl (wTT cI cZ cJ nl nn ad ra S T_2) H → va_D A (wTT cI cZ cJ nl nn ad ra S T_2) → va_S A s.heap H locs → lv_has ls 6 [(5, .int x5_3), (4, .int r_1), (0, .ref (ad 0)), (1, .int x1), (2, .int x2), (3, .int x3)] → W p l e (headSpec wsX3_tellNode rm_X3_tellNode).room s m args below meth c H locs 0 0 (MQ below (va_Qv post (fun u t => qB (dC, dI) (tysA cI cZ cJ cL) A (wTT cI cZ cJ nl nn ad ra S u) t) A) args s 0 0 A) (F0 m 33 ls []) := by
    intro T_2 x5_3 hw H locs ls hP hD hS hl
    rw [eex12] at hw
    try dsimp only at hw
    refine lv_aload_n hx hb dX3_tellNode_33 rfl (lv_at hl 2 rfl) ?_
    refine lv_iload_n hx hb dX3_tellNode_34 rfl (lv_at hl 3 rfl) ?_
    refine lv_iload_n hx hb dX3_tellNode_35 rfl (lv_at hl 4 rfl) ?_
    refine lv_iload_n hx hb dX3_tellNode_36 rfl (lv_at hl 5 rfl) ?_
    have hPc := hP
    refine vp_callSi (W.runV (As := [.int x1, .int x2, .int x3]) (rest := []) ⟨hx, hb, hml, hown, hT⟩ (met_X3_hasBits l dC dI cI cZ cJ cL ad ra _ nl nn S T_2 x1 x2 x3 hw) (cwV 3 hT (gV k_53 k_55 k_56 k_57 k_54) rfl rfl rfl (by decide +kernel) ⟨(Nat.le_of_ble_eq_true rfl), (Nat.le_of_ble_eq_true rfl)⟩) ⟨bl_R, va_recv hK hPc (ci := 3) (q0 := 0) rfl rfl, fun U hU hW => ⟨rfl, by rw [hU]; exact hPc, va_K.moved hW.alike hK⟩⟩ rfl rfl hl.1 rfl (lv_room (Nat.le_of_ble_eq_true rfl)) dX3_tellNode_37 ⟨Nat.le_of_ble_eq_true rfl, Nat.le_of_ble_eq_true rfl⟩) (fun r_5 hw => ?_)
    try dsimp only at hw
    refine lv_if_eq (tgt := 69) hx hb dX3_tellNode_40 (by decide) (fun c_6 => ?_) (fun c_6 => ?_)
    · have hw := hw.1 c_6
      refine lv_aload_n hx hb dX3_tellNode_69 rfl (lv_at hl 2 rfl) ?_
      refine va_get (D := (dC, dI)) (ci := 3) (v := .ref (ad 10)) (C := RX3) (T := TX3) (N := 7) hx hb hT inX3 hown hK hP 0 rfl rfl 2 (by decide) (hT _ k_25) (fun _ h9 => h9) rfl dX3_tellNode_70 ?_
      refine va_get (D := (dC, dI)) (ci := 2) (v := .ref (ad 11)) (C := RX2) (T := TX2) (N := 3) hx hb hT inX2 hown hK hP 10 rfl rfl 0 (by decide) (hT _ k_68) (fun _ h9 => h9) rfl dX3_tellNode_73 ?_
      refine lv_iload_n hx hb dX3_tellNode_76 rfl (lv_at hl 3 rfl) ?_
      refine lv_iload hx hb dX3_tellNode_77 (lv_at hl 1 rfl) ?_
      obtain ⟨h_7, hw⟩ := hw
      refine va_iast hx hb hK hP hD hS 11 0 rfl rfl h_7 dX3_tellNode_79 (fun H locs hP hD hS => ?_)
      have hP : va_P (dC, dI) vwCl (wTT cI cZ cJ nl nn ad ra S (T_2.1, ((upd T_2.2.1.1 x1.toNatClampNeg r_1), T_2.2.1.2.1, T_2.2.1.2.2), T_2.2.2.1, T_2.2.2.2.1, T_2.2.2.2.2.1, T_2.2.2.2.2.2)) H := hP
      have hD : va_D A (wTT cI cZ cJ nl nn ad ra S (T_2.1, ((upd T_2.2.1.1 x1.toNatClampNeg r_1), T_2.2.1.2.1, T_2.2.1.2.2), T_2.2.2.1, T_2.2.2.2.1, T_2.2.2.2.2.1, T_2.2.2.2.2.2)) := hD
      exact W.vret hx hb hr (fun t ht hW => ⟨⟨(T_2.1, ((upd T_2.2.1.1 x1.toNatClampNeg r_1), T_2.2.1.2.1, T_2.2.1.2.2), T_2.2.2.1, T_2.2.2.2.1, T_2.2.2.2.2.1, T_2.2.2.2.2.2), rfl, hw, by rw [ht]; exact hP, va_K.moved hW.alike hK, hD⟩, hS.F ht⟩) hS.2.2 dX3_tellNode_80
    · have hw := hw.2 c_6
      refine lv_aload_n hx hb dX3_tellNode_43 rfl (lv_at hl 2 rfl) ?_
      refine va_get (D := (dC, dI)) (ci := 3) (v := .ref (ad 9)) (C := RX3) (T := TX3) (N := 7) hx hb hT inX3 hown hK hP 0 rfl rfl 1 (by decide) (hT _ k_44) (fun _ h9 => h9) rfl dX3_tellNode_44 ?_
      refine lv_iload_n hx hb dX3_tellNode_47 rfl (lv_at hl 3 rfl) ?_
      obtain ⟨h_8, hw⟩ := hw
      refine va_iald hx hb hK hP 9 0 rfl rfl h_8 dX3_tellNode_48 ?_
      refine lv_iload_n hx hb dX3_tellNode_49 rfl (lv_at hl 5 rfl) ?_
      refine lv_icmp_ge (tgt := 69) hx hb dX3_tellNode_50 (by decide) (fun c_9 => ?_) (fun c_9 => ?_)
      · have hw := hw.1 c_9
        refine lv_aload_n hx hb dX3_tellNode_69 rfl (lv_at hl 2 rfl) ?_
        refine va_get (D := (dC, dI)) (ci := 3) (v := .ref (ad 10)) (C := RX3) (T := TX3) (N := 7) hx hb hT inX3 hown hK hP 0 rfl rfl 2 (by decide) (hT _ k_25) (fun _ h9 => h9) rfl dX3_tellNode_70 ?_
        refine va_get (D := (dC, dI)) (ci := 2) (v := .ref (ad 11)) (C := RX2) (T := TX2) (N := 3) hx hb hT inX2 hown hK hP 10 rfl rfl 0 (by decide) (hT _ k_68) (fun _ h9 => h9) rfl dX3_tellNode_73 ?_
        refine lv_iload_n hx hb dX3_tellNode_76 rfl (lv_at hl 3 rfl) ?_
        refine lv_iload hx hb dX3_tellNode_77 (lv_at hl 1 rfl) ?_
        obtain ⟨h_10, hw⟩ := hw
        refine va_iast hx hb hK hP hD hS 11 0 rfl rfl h_10 dX3_tellNode_79 (fun H locs hP hD hS => ?_)
        have hP : va_P (dC, dI) vwCl (wTT cI cZ cJ nl nn ad ra S (T_2.1, ((upd T_2.2.1.1 x1.toNatClampNeg r_1), T_2.2.1.2.1, T_2.2.1.2.2), T_2.2.2.1, T_2.2.2.2.1, T_2.2.2.2.2.1, T_2.2.2.2.2.2)) H := hP
        have hD : va_D A (wTT cI cZ cJ nl nn ad ra S (T_2.1, ((upd T_2.2.1.1 x1.toNatClampNeg r_1), T_2.2.1.2.1, T_2.2.1.2.2), T_2.2.2.1, T_2.2.2.2.1, T_2.2.2.2.2.1, T_2.2.2.2.2.2)) := hD
        exact W.vret hx hb hr (fun t ht hW => ⟨⟨(T_2.1, ((upd T_2.2.1.1 x1.toNatClampNeg r_1), T_2.2.1.2.1, T_2.2.1.2.2), T_2.2.2.1, T_2.2.2.2.1, T_2.2.2.2.2.1, T_2.2.2.2.2.2), rfl, hw, by rw [ht]; exact hP, va_K.moved hW.alike hK, hD⟩, hS.F ht⟩) hS.2.2 dX3_tellNode_80
      · have hw := hw.2 c_9
        refine lv_aload_n hx hb dX3_tellNode_53 rfl (lv_at hl 2 rfl) ?_
        refine va_get (D := (dC, dI)) (ci := 3) (v := .ref (ad 16)) (C := RX3) (T := TX3) (N := 7) hx hb hT inX3 hown hK hP 0 rfl rfl 4 (by decide) (hT _ k_22) (fun _ h9 => h9) rfl dX3_tellNode_54 ?_
        refine lv_iconst (v := 1) hx hb dX3_tellNode_57 (by decide) ?_
        have hPc := hP.sub (ws' := wBR cI (ad 16) (ad 17) T_2.2.2.2.1) [16, 17] rfl
        have hDc := hD.sub (ws' := wBR cI (ad 16) (ad 17) T_2.2.2.2.1) [16, 17] (by decide) rfl
        have hFc := va_free (wc := wBR cI (ad 16) (ad 17) T_2.2.2.2.1) hD hS hA [16, 17] rfl
        refine va_callv (va_runV (As := [.int 1]) (rest := []) ⟨hx, hb, hml, hown, hT⟩ (met_X0_append l dC dI cI cZ cJ cL (ad 16) (ad 17) H.size _  T_2.2.2.2.1 1 hw) (cwV 1 hT (gV k_69 k_71 k_72 k_7 k_70) rfl rfl rfl (by decide +kernel) ⟨(Nat.le_of_ble_eq_true rfl), (Nat.le_of_ble_eq_true rfl)⟩) ⟨bl_W, va_recv hK hPc (ci := 0) (q0 := 0) rfl rfl, fun U hU hW => ⟨rfl, by rw [hU], by rw [hU]; exact hPc, va_K.moved hW.alike hK, hDc.weaken (fun _ _ _ _ => trivial)⟩⟩ rfl rfl hl.1 rfl (lv_room (Nat.le_of_ble_eq_true rfl)) dX3_tellNode_58 ⟨Nat.le_of_ble_eq_true rfl, Nat.le_of_ble_eq_true rfl⟩) hS (fun q _ h => hFc q h) hFc (fun B_11 t H1 locs ht hvm hw hB hz1 hk1 hS => ?_)
        obtain ⟨hP1, -, hD1⟩ := hB
        try dsimp only at hw
        rw [ht] at hP1
        obtain ⟨hP, hD⟩ := va_join (wr := [(ad 0, .inr (3, [.ref (ad 1), .ref (ad 9), .ref (ad 10), .ref (ad 13), .ref (ad 16), .ref (ad 18), .int T_2.2.2.2.2.2])), (ad 1, .inr (1, [.int S.1.1, .int S.1.2.1, .int S.1.2.2.1, .int S.1.2.2.2.1, .int S.1.2.2.2.2, .ref (ad 2), .ref (ad 3), .ref (ad 4), .ref (ad 5)])), (ad 2, .inl (cI, 6, .inl S.2.1.1)), (ad 3, .inl (cI, 6, .inl S.2.1.2.1)), (ad 4, .inl (cI, 6, .inl S.2.1.2.2)), (ad 5, .inl (cJ, 3, .inr (.inr (.inr (.inr (fun i => if i < 3 then some (ra i) else none)))))), (ra 0, .inl (cI, nl, .inl (S.2.2 0))), (ra 1, .inl (cI, nl, .inl (S.2.2 1))), (ra 2, .inl (cI, nl, .inl (S.2.2 2))), (ad 9, .inl (cI, nn, .inl T_2.1)), (ad 10, .inr (2, [.ref (ad 11), .ref (ad 12), .int T_2.2.1.2.2])), (ad 11, .inl (cI, nn, .inl T_2.2.1.1)), (ad 12, .inl (cZ, nn, .inl T_2.2.1.2.1)), (ad 13, .inr (2, [.ref (ad 14), .ref (ad 15), .int T_2.2.2.1.2.2])), (ad 14, .inl (cI, nn, .inl T_2.2.2.1.1)), (ad 15, .inl (cZ, nn, .inl T_2.2.2.1.2.1)), (ad 18, .inr (0, [.ref (ad 19), .int T_2.2.2.2.2.1.2.1, .int T_2.2.2.2.2.1.2.2])), (ad 19, .inl (cI, 1250, .inl T_2.2.2.2.2.1.1))]) (w1 := wBR cI (ad 16) (ad 17) B_11) hP hD [16, 17] [0, 1, 2, 3, 4, 5, 6, 7, 8, 9, 10, 11, 12, 13, 14, 15, 18, 19] rfl rfl (by decide) (by decide) hk1 hFc hP1 hD1
        generalize H1 = H at hP hS ⊢
        have hP := hP.sub (ws' := wTT cI cZ cJ nl nn ad ra S (T_2.1, T_2.2.1, T_2.2.2.1, B_11, T_2.2.2.2.2.1, T_2.2.2.2.2.2)) [0, 1, 2, 3, 4, 5, 6, 7, 8, 9, 10, 11, 12, 13, 14, 15, 18, 19, 16, 17] rfl
        have hD := hD.sub (ws' := wTT cI cZ cJ nl nn ad ra S (T_2.1, T_2.2.1, T_2.2.2.1, B_11, T_2.2.2.2.2.1, T_2.2.2.2.2.2)) [0, 1, 2, 3, 4, 5, 6, 7, 8, 9, 10, 11, 12, 13, 14, 15, 18, 19, 16, 17] (by decide) rfl
        refine lv_aload_n hx hb dX3_tellNode_61 rfl (lv_at hl 2 rfl) ?_
        refine va_get (D := (dC, dI)) (ci := 3) (v := .ref (ad 10)) (C := RX3) (T := TX3) (N := 7) hx hb hT inX3 hown hK hP 0 rfl rfl 2 (by decide) (hT _ k_25) (fun _ h9 => h9) rfl dX3_tellNode_62 ?_
        refine lv_iload_n hx hb dX3_tellNode_65 rfl (lv_at hl 3 rfl) ?_
        have hPc := hP.sub (ws' := wSD cI cZ nn (ad 10) (ad 11) (ad 12) T_2.2.1) [10, 11, 12] rfl
        have hDc := hD.sub (ws' := wSD cI cZ nn (ad 10) (ad 11) (ad 12) T_2.2.1) [10, 11, 12] (by decide) rfl
        have hFc := va_free (wc := wSD cI cZ nn (ad 10) (ad 11) (ad 12) T_2.2.1) hD hS hA [10, 11, 12] rfl
        refine va_callv (va_runV (As := [.int x1]) (rest := []) ⟨hx, hb, hml, hown, hT⟩ (met_X2_find l dC dI cI cZ cJ cL (ad 10) (ad 11) (ad 12) H.size _ nn T_2.2.1 x1 hw) (cwV 1 hT (gV k_73 k_75 k_76 k_33 k_74) rfl rfl rfl (by decide +kernel) ⟨(Nat.le_of_ble_eq_true rfl), (Nat.le_of_ble_eq_true rfl)⟩) ⟨bl_W, va_recv hK hPc (ci := 2) (q0 := 0) rfl rfl, fun U hU hW => ⟨rfl, by rw [hU], by rw [hU]; exact hPc, va_K.moved hW.alike hK, hDc.weaken (fun _ _ _ _ => trivial)⟩⟩ rfl rfl hl.1 rfl (lv_room (Nat.le_of_ble_eq_true rfl)) dX3_tellNode_66 ⟨Nat.le_of_ble_eq_true rfl, Nat.le_of_ble_eq_true rfl⟩) hS (fun q _ h => hFc q h) hFc (fun D_12 t H1 locs ht hvm hw hB hz1 hk1 hS => ?_)
        obtain ⟨hP1, -, hD1⟩ := hB
        try dsimp only at hw
        rw [ht] at hP1
        obtain ⟨hP, hD⟩ := va_join (wr := [(ad 0, .inr (3, [.ref (ad 1), .ref (ad 9), .ref (ad 10), .ref (ad 13), .ref (ad 16), .ref (ad 18), .int T_2.2.2.2.2.2])), (ad 1, .inr (1, [.int S.1.1, .int S.1.2.1, .int S.1.2.2.1, .int S.1.2.2.2.1, .int S.1.2.2.2.2, .ref (ad 2), .ref (ad 3), .ref (ad 4), .ref (ad 5)])), (ad 2, .inl (cI, 6, .inl S.2.1.1)), (ad 3, .inl (cI, 6, .inl S.2.1.2.1)), (ad 4, .inl (cI, 6, .inl S.2.1.2.2)), (ad 5, .inl (cJ, 3, .inr (.inr (.inr (.inr (fun i => if i < 3 then some (ra i) else none)))))), (ra 0, .inl (cI, nl, .inl (S.2.2 0))), (ra 1, .inl (cI, nl, .inl (S.2.2 1))), (ra 2, .inl (cI, nl, .inl (S.2.2 2))), (ad 9, .inl (cI, nn, .inl T_2.1)), (ad 13, .inr (2, [.ref (ad 14), .ref (ad 15), .int T_2.2.2.1.2.2])), (ad 14, .inl (cI, nn, .inl T_2.2.2.1.1)), (ad 15, .inl (cZ, nn, .inl T_2.2.2.1.2.1)), (ad 16, .inr (0, [.ref (ad 17), .int B_11.2.1, .int B_11.2.2])), (ad 17, .inl (cI, 1250, .inl B_11.1)), (ad 18, .inr (0, [.ref (ad 19), .int T_2.2.2.2.2.1.2.1, .int T_2.2.2.2.2.1.2.2])), (ad 19, .inl (cI, 1250, .inl T_2.2.2.2.2.1.1))]) (w1 := wSD cI cZ nn (ad 10) (ad 11) (ad 12) D_12) hP hD [10, 11, 12] [0, 1, 2, 3, 4, 5, 6, 7, 8, 9, 13, 14, 15, 16, 17, 18, 19] rfl rfl (by decide) (by decide) hk1 hFc hP1 hD1
        generalize H1 = H at hP hS ⊢
        have hP := hP.sub (ws' := wTT cI cZ cJ nl nn ad ra S (T_2.1, D_12, T_2.2.2.1, B_11, T_2.2.2.2.2.1, T_2.2.2.2.2.2)) [0, 1, 2, 3, 4, 5, 6, 7, 8, 9, 17, 18, 19, 10, 11, 12, 13, 14, 15, 16] rfl
        have hD := hD.sub (ws' := wTT cI cZ cJ nl nn ad ra S (T_2.1, D_12, T_2.2.2.1, B_11, T_2.2.2.2.2.1, T_2.2.2.2.2.2)) [0, 1, 2, 3, 4, 5, 6, 7, 8, 9, 17, 18, 19, 10, 11, 12, 13, 14, 15, 16] (by decide) rfl
        refine lv_aload_n hx hb dX3_tellNode_69 rfl (lv_at hl 2 rfl) ?_
        refine va_get (D := (dC, dI)) (ci := 3) (v := .ref (ad 10)) (C := RX3) (T := TX3) (N := 7) hx hb hT inX3 hown hK hP 0 rfl rfl 2 (by decide) (hT _ k_25) (fun _ h9 => h9) rfl dX3_tellNode_70 ?_
        refine va_get (D := (dC, dI)) (ci := 2) (v := .ref (ad 11)) (C := RX2) (T := TX2) (N := 3) hx hb hT inX2 hown hK hP 10 rfl rfl 0 (by decide) (hT _ k_68) (fun _ h9 => h9) rfl dX3_tellNode_73 ?_
        refine lv_iload_n hx hb dX3_tellNode_76 rfl (lv_at hl 3 rfl) ?_
        refine lv_iload hx hb dX3_tellNode_77 (lv_at hl 1 rfl) ?_
        obtain ⟨h_13, hw⟩ := hw
        refine va_iast hx hb hK hP hD hS 11 0 rfl rfl h_13 dX3_tellNode_79 (fun H locs hP hD hS => ?_)
        have hP : va_P (dC, dI) vwCl (wTT cI cZ cJ nl nn ad ra S (T_2.1, ((upd D_12.1 x1.toNatClampNeg r_1), D_12.2.1, D_12.2.2), T_2.2.2.1, B_11, T_2.2.2.2.2.1, T_2.2.2.2.2.2)) H := hP
        have hD : va_D A (wTT cI cZ cJ nl nn ad ra S (T_2.1, ((upd D_12.1 x1.toNatClampNeg r_1), D_12.2.1, D_12.2.2), T_2.2.2.1, B_11, T_2.2.2.2.2.1, T_2.2.2.2.2.2)) := hD
        exact W.vret hx hb hr (fun t ht hW => ⟨⟨(T_2.1, ((upd D_12.1 x1.toNatClampNeg r_1), D_12.2.1, D_12.2.2), T_2.2.2.1, B_11, T_2.2.2.2.2.1, T_2.2.2.2.2.2), rfl, hw, by rw [ht]; exact hP, va_K.moved hW.alike hK, hD⟩, hS.F ht⟩) hS.2.2 dX3_tellNode_80
  have hlp12 : ∀ (n_4 : Nat) (T_2 : vTT) (x5_3 : Int32), wp_X3_tellNode_L12 post ex12 nl nn S r_1 x1 x2 x3 n_4 T_2 x5_3 → ∀ (H : Heap) (locs : List Loc) (ls : Array Slot), va_P (dC, dI) vwCl (wTT cI cZ cJ nl nn ad ra S T_2) H → va_D A (wTT cI cZ cJ nl nn ad ra S T_2) → va_S A s.heap H locs → lv_has ls 6 [(5, .int x5_3), (4, .int r_1), (0, .ref (ad 0)), (1, .int x1), (2, .int x2), (3, .int x3)] → W p l e (headSpec wsX3_tellNode rm_X3_tellNode).room s m args below meth c H locs 0 0 (MQ below (va_Qv post (fun u t => qB (dC, dI) (tysA cI cZ cJ cL) A (wTT cI cZ cJ nl nn ad ra S u) t) A) args s 0 0 A) (F0 m 12 ls []) := by
    intro n_4
    induction n_4 with
    | zero => intro _ _ hw; exact hw.elim
    | succ n_4 ih12 =>
      intro T_2 x5_3 hw H locs ls hP hD hS hl
      unfold wp_X3_tellNode_L12 at hw
      refine lv_iload hx hb dX3_tellNode_12 (lv_at hl 0 rfl) ?_
      refine lv_iload hx hb dX3_tellNode_14 (lv_at hl 1 rfl) ?_
      refine lv_icmp_ge (tgt := 33) hx hb dX3_tellNode_16 (by decide) (fun c_14 => ?_) (fun c_14 => ?_)
      · have hw := hw.1 c_14
        exact hx12 T_2 x5_3 hw _ _ _ hP hD hS (lv_sub hl [0, 1, 2, 3, 4, 5] rfl)
      · have hw := hw.2 c_14
        refine lv_aload_n hx hb dX3_tellNode_19 rfl (lv_at hl 2 rfl) ?_
        refine va_get (D := (dC, dI)) (ci := 3) (v := .ref (ad 16)) (C := RX3) (T := TX3) (N := 7) hx hb hT inX3 hown hK hP 0 rfl rfl 4 (by decide) (hT _ k_22) (fun _ h9 => h9) rfl dX3_tellNode_20 ?_
        refine lv_iconst (v := 0) hx hb dX3_tellNode_23 (by decide) ?_
        have hPc := hP.sub (ws' := wBR cI (ad 16) (ad 17) T_2.2.2.2.1) [16, 17] rfl
        have hDc := hD.sub (ws' := wBR cI (ad 16) (ad 17) T_2.2.2.2.1) [16, 17] (by decide) rfl
        have hFc := va_free (wc := wBR cI (ad 16) (ad 17) T_2.2.2.2.1) hD hS hA [16, 17] rfl
        refine va_callv (va_runV (As := [.int 0]) (rest := []) ⟨hx, hb, hml, hown, hT⟩ (met_X0_append l dC dI cI cZ cJ cL (ad 16) (ad 17) H.size _  T_2.2.2.2.1 0 hw) (cwV 1 hT (gV k_69 k_71 k_72 k_7 k_70) rfl rfl rfl (by decide +kernel) ⟨(Nat.le_of_ble_eq_true rfl), (Nat.le_of_ble_eq_true rfl)⟩) ⟨bl_W, va_recv hK hPc (ci := 0) (q0 := 0) rfl rfl, fun U hU hW => ⟨rfl, by rw [hU], by rw [hU]; exact hPc, va_K.moved hW.alike hK, hDc.weaken (fun _ _ _ _ => trivial)⟩⟩ rfl rfl hl.1 rfl (lv_room (Nat.le_of_ble_eq_true rfl)) dX3_tellNode_24 ⟨Nat.le_of_ble_eq_true rfl, Nat.le_of_ble_eq_true rfl⟩) hS (fun q _ h => hFc q h) hFc (fun B_15 t H1 locs ht hvm hw hB hz1 hk1 hS => ?_)
        obtain ⟨hP1, -, hD1⟩ := hB
        try dsimp only at hw
        rw [ht] at hP1
        obtain ⟨hP, hD⟩ := va_join (wr := [(ad 0, .inr (3, [.ref (ad 1), .ref (ad 9), .ref (ad 10), .ref (ad 13), .ref (ad 16), .ref (ad 18), .int T_2.2.2.2.2.2])), (ad 1, .inr (1, [.int S.1.1, .int S.1.2.1, .int S.1.2.2.1, .int S.1.2.2.2.1, .int S.1.2.2.2.2, .ref (ad 2), .ref (ad 3), .ref (ad 4), .ref (ad 5)])), (ad 2, .inl (cI, 6, .inl S.2.1.1)), (ad 3, .inl (cI, 6, .inl S.2.1.2.1)), (ad 4, .inl (cI, 6, .inl S.2.1.2.2)), (ad 5, .inl (cJ, 3, .inr (.inr (.inr (.inr (fun i => if i < 3 then some (ra i) else none)))))), (ra 0, .inl (cI, nl, .inl (S.2.2 0))), (ra 1, .inl (cI, nl, .inl (S.2.2 1))), (ra 2, .inl (cI, nl, .inl (S.2.2 2))), (ad 9, .inl (cI, nn, .inl T_2.1)), (ad 10, .inr (2, [.ref (ad 11), .ref (ad 12), .int T_2.2.1.2.2])), (ad 11, .inl (cI, nn, .inl T_2.2.1.1)), (ad 12, .inl (cZ, nn, .inl T_2.2.1.2.1)), (ad 13, .inr (2, [.ref (ad 14), .ref (ad 15), .int T_2.2.2.1.2.2])), (ad 14, .inl (cI, nn, .inl T_2.2.2.1.1)), (ad 15, .inl (cZ, nn, .inl T_2.2.2.1.2.1)), (ad 18, .inr (0, [.ref (ad 19), .int T_2.2.2.2.2.1.2.1, .int T_2.2.2.2.2.1.2.2])), (ad 19, .inl (cI, 1250, .inl T_2.2.2.2.2.1.1))]) (w1 := wBR cI (ad 16) (ad 17) B_15) hP hD [16, 17] [0, 1, 2, 3, 4, 5, 6, 7, 8, 9, 10, 11, 12, 13, 14, 15, 18, 19] rfl rfl (by decide) (by decide) hk1 hFc hP1 hD1
        generalize H1 = H at hP hS ⊢
        have hP := hP.sub (ws' := wTT cI cZ cJ nl nn ad ra S (T_2.1, T_2.2.1, T_2.2.2.1, B_15, T_2.2.2.2.2.1, T_2.2.2.2.2.2)) [0, 1, 2, 3, 4, 5, 6, 7, 8, 9, 10, 11, 12, 13, 14, 15, 18, 19, 16, 17] rfl
        have hD := hD.sub (ws' := wTT cI cZ cJ nl nn ad ra S (T_2.1, T_2.2.1, T_2.2.2.1, B_15, T_2.2.2.2.2.1, T_2.2.2.2.2.2)) [0, 1, 2, 3, 4, 5, 6, 7, 8, 9, 10, 11, 12, 13, 14, 15, 18, 19, 16, 17] (by decide) rfl
        obtain ⟨x5_16, ex5_16⟩ : ∃ y : Int32, y = x5_3 + 1 := ⟨_, rfl⟩
        have hw := hw x5_16 ex5_16
        refine lv_iinc (v := x5_16) (lv' := [(5, .int x5_16), (4, .int r_1), (0, .ref (ad 0)), (1, .int x1), (2, .int x2), (3, .int x3)]) hx hb dX3_tellNode_27 hl (k := 0) rfl (by rw [ex5_16]; rfl) (by decide) rfl (fun ls hl => ?_)
        refine lv_goto (tgt := 12) hx hb dX3_tellNode_30 (by decide) ?_
        exact ih12 (T_2.1, T_2.2.1, T_2.2.2.1, B_15, T_2.2.2.2.2.1, T_2.2.2.2.2.2) x5_16 hw _ _ _ hP hD hS (lv_sub hl [0, 1, 2, 3, 4, 5] rfl)
  exact hlp12 n_4 T x2 hw _ _ _ hP hD hS (lv_sub hl [0, 1, 2, 3, 4, 5] rfl)
def wp_X3_takeBits_L70 (post : Int32 → vTT → Prop) (ex70 : Int32 → Int32 → Int32 → Prop) (nl : Nat) (nn : Nat) (S : vSH) (T_2 : vTT) (r_8 : Int32) (x7_3 : Int32) (x1 : Int32) (x2 : Int32) (x3 : Int32) (x4 : Int32) : Nat → Int32 → Int32 → Int32 → Prop
  | 0, _, _, _ => False
  | n_16 + 1, x9_13, x6_14, x5_15 => ((x3 ≤ x6_14 → (ex70 x9_13 x6_14 x5_15)) ∧ (¬ x3 ≤ x6_14 → (((x9_13 = 0 → (((x5_15 < T_2.2.2.2.2.1.2.2 → (wp_X0_look (fun r_27 => ((r_27 = 1 → (∀ x5_31 : Int32, x5_31 = x5_15 + 1 → (wp_X3_takeBits_L70 post ex70 nl nn S T_2 r_8 x7_3 x1 x2 x3 x4 n_16 1 x6_14 x5_31))) ∧ (¬ r_27 = 1 → (∀ x6_29 : Int32, x6_29 = x6_14 + 1 → (∀ x5_30 : Int32, x5_30 = x5_15 + 1 → (wp_X3_takeBits_L70 post ex70 nl nn S T_2 r_8 x7_3 x1 x2 x3 x4 n_16 x9_13 x6_29 x5_30))))))  T_2.2.2.2.2.1 x5_15)) ∧ (¬ x5_15 < T_2.2.2.2.2.1.2.2 → (post (-2) T_2))))) ∧ (¬ x9_13 = 0 → (ex70 x9_13 x6_14 x5_15))))))
def wp_X3_takeBits_L17 (post : Int32 → vTT → Prop) (ex17 : vTT → Int32 → Int32 → Int32 → Prop) (nl : Nat) (nn : Nat) (S : vSH) (x1 : Int32) (x2 : Int32) (x3 : Int32) (x4 : Int32) : Nat → vTT → Int32 → Int32 → Int32 → Prop
  | 0, _, _, _, _ => False
  | n_6 + 1, T_2, x7_3, x6_4, x5_5 => ((x7_3 < 0 → (ex17 T_2 x7_3 x6_4 x5_5)) ∧ (¬ x7_3 < 0 → (wp_X1_nodeAt (fun r_8 => vp_in r_8 nn ∧ (∀ x6_10 : Int32, x6_10 = (if x6_4 < (T_2.2.2.1.1 r_8.toNatClampNeg) then (T_2.2.2.1.1 r_8.toNatClampNeg) else x6_4) → (vp_in r_8 nn ∧ (∀ x9_12 : Int32, x9_12 = T_2.2.2.1.2.1 r_8.toNatClampNeg → (∃ n_16 : Nat, wp_X3_takeBits_L70 post (fun (x9_13 : Int32) (x6_14 : Int32) (x5_15 : Int32) => ((x4 = 0 → (∀ x7_18 : Int32, x7_18 = x7_3 + (-1) → (wp_X3_takeBits_L17 post ex17 nl nn S x1 x2 x3 x4 n_6 T_2 x7_18 x6_14 x5_15))) ∧ (¬ x4 = 0 → (vp_in r_8 nn ∧ (((x9_13 = 0 → (∀ x7_21 : Int32, x7_21 = x7_3 + (-1) → (wp_X3_takeBits_L17 post ex17 nl nn S x1 x2 x3 x4 n_6 (T_2.1, T_2.2.1, ((upd T_2.2.2.1.1 r_8.toNatClampNeg x6_14), T_2.2.2.1.2.1, T_2.2.2.1.2.2), T_2.2.2.2.1, T_2.2.2.2.2.1, T_2.2.2.2.2.2) x7_21 x6_14 x5_15))) ∧ (¬ x9_13 = 0 → (wp_X2_find (fun D_22 => ∀ x7_23 : Int32, x7_23 = x7_3 + (-1) → (wp_X3_takeBits_L17 post ex17 nl nn S x1 x2 x3 x4 n_6 (T_2.1, T_2.2.1, D_22, T_2.2.2.2.1, T_2.2.2.2.2.1, T_2.2.2.2.2.2) x7_23 x6_14 x5_15)) nn ((upd T_2.2.2.1.1 r_8.toNatClampNeg x6_14), T_2.2.2.1.2.1, T_2.2.2.1.2.2) r_8)))))))) nl nn S T_2 r_8 x7_3 x1 x2 x3 x4 n_16 x9_12 x6_10 x5_5))))) nl S  x7_3 (x1 >>> (x7_3 &&& 31)) (x2 >>> (x7_3 &&& 31)))))
def wp_X3_takeBits (post : Int32 → vTT → Prop) (nl : Nat) (nn : Nat) (S : vSH) (T : vTT) (x1 : Int32) (x2 : Int32) (x3 : Int32) (x4 : Int32) : Prop := ∀ x7_1 : Int32, x7_1 = S.1.2.2.2.1 - 1 → (∃ n_6 : Nat, wp_X3_takeBits_L17 post (fun (T_2 : vTT) (x7_3 : Int32) (x6_4 : Int32) (x5_5 : Int32) => post x5_5 T_2) nl nn S x1 x2 x3 x4 n_6 T x7_1 0 0)
abbrev rm_X3_takeBits : Room := { frames := 2, cells := 0, slots := 0, locals := 44 }
set_option maxHeartbeats 4000000 in
set_option maxRecDepth 100000 in
theorem met_X3_takeBits (l : Launch) (dC : Nat → ClassId) (dI : Nat → Nat → Nat) (cI cZ cJ cL : ClassId) (ad ra : Nat → Nat) (sz : Nat) (post : Int32 → vTT → Prop) (nl : Nat) (nn : Nat) (S : vSH) (T : vTT) (x1 : Int32) (x2 : Int32) (x3 : Int32) (x4 : Int32) (hw : wp_X3_takeBits post nl nn S T x1 x2 x3 x4) : Met l yX3_takeBits wsX3_takeBits rm_X3_takeBits (pcW (dC, dI) (tysA cI cZ cJ cL) (wTT cI cZ cJ nl nn ad ra S T) sz [.ref (ad 0), .int x1, .int x2, .int x3, .int x4]) (va_Qi post (fun u t => qB (dC, dI) (tysA cI cZ cJ cL) (va_A (wTT cI cZ cJ nl nn ad ra S T) sz) (wTT cI cZ cJ nl nn ad ra S u) t) (va_A (wTT cI cZ cJ nl nn ad ra S T) sz)) 0 0 (va_A (wTT cI cZ cJ nl nn ad ra S T) sz) := by
  refine Met.ofW (cc := cX3_takeBits) (maxL := 10) (ret := (some .int)) (by decide) rfl ?_
  intro p e s m args below meth c s₁ Bd hml hv
  obtain ⟨hargs, hsz, hP, hK, hD0⟩ := hv
  have hx := Bd.exec
  have hb := Bd.bytes
  have hr := Bd.returns
  have hts := atoms_spec (ws := wsX3_takeBits) Bd.pre
  have hT : ∀ w ∈ WALL, w.before args s = true := fun w h => hts w (List.mem_cons_of_mem _ h)
  have hown : s.vm.findClass RX3 = some m.cls := findClass_of_methodNamed Bd.named
  have hlocks := Bd.notSynchronized
  subst hsz
  have hD := hD0.self (sz := s.heap.size)
  generalize hAe : va_A (wTT cI cZ cJ nl nn ad ra S T) s.heap.size = A at hD ⊢
  have hA : ∀ q : Nat, s.heap.size ≤ q → A q := fun q h => by rw [← hAe]; exact Or.inr h
  have hS : va_S A s.heap s.heap [] := va_S.rf
  have hP : va_P (dC, dI) vwCl (wTT cI cZ cJ nl nn ad ra S T) s.heap := hP
  have hl := lv_entry ([.ref (ad 0), .int x1, .int x2, .int x3, .int x4]) (n := 10) (Nat.le_of_ble_eq_true rfl)
  rw [show entryFrame m args 10 = F0 m 0 _ [] from by rw [hargs]; exact lg_entry_eq m ([.ref (ad 0), .int x1, .int x2, .int x3, .int x4]) 10]
  generalize (lg_sl ([.ref (ad 0), .int x1, .int x2, .int x3, .int x4]) ++ List.replicate (10 - (lg_sl ([.ref (ad 0), .int x1, .int x2, .int x3, .int x4])).length) Slot.unset).toArray = ls at hl ⊢
  have hl : lv_has ls 10 [(0, .ref (ad 0)), (1, .int x1), (2, .int x2), (3, .int x3), (4, .int x4)] := hl
  obtain ⟨H, hH⟩ : ∃ z : Heap, z = s.heap := ⟨_, rfl⟩
  obtain ⟨locs, hlocs⟩ : ∃ z : List Loc, z = [] := ⟨_, rfl⟩
  rw [show W p l e (headSpec wsX3_takeBits rm_X3_takeBits).room s m args below meth c s.heap [] 0 0 = W p l e (headSpec wsX3_takeBits rm_X3_takeBits).room s m args below meth c H locs 0 0 from by rw [hH, hlocs]]
  have hP : va_P (dC, dI) vwCl (wTT cI cZ cJ nl nn ad ra S T) H := by rw [hH]; exact hP
  have hS : va_S A s.heap H locs := by rw [hH, hlocs]; exact hS
  unfold wp_X3_takeBits at hw
  refine lv_iconst (v := 0) hx hb dX3_takeBits_0 (by decide) ?_
  refine lv_istore (lv' := [(5, .int 0), (0, .ref (ad 0)), (1, .int x1), (2, .int x2), (3, .int x3), (4, .int x4)]) hx hb dX3_takeBits_1 hl (by decide) rfl (fun ls hl => ?_)
  refine lv_iconst (v := 0) hx hb dX3_takeBits_3 (by decide) ?_
  refine lv_istore (lv' := [(6, .int 0), (5, .int 0), (0, .ref (ad 0)), (1, .int x1), (2, .int x2), (3, .int x3), (4, .int x4)]) hx hb dX3_takeBits_4 hl (by decide) rfl (fun ls hl => ?_)
  refine lv_aload_n hx hb dX3_takeBits_6 rfl (lv_at hl 2 rfl) ?_
  refine va_get (D := (dC, dI)) (ci := 3) (v := .ref (ad 1)) (C := RX3) (T := TX3) (N := 7) hx hb hT inX3 hown hK hP 0 rfl rfl 0 (by decide) (hT _ k_17) (fun _ h9 => h9) rfl dX3_takeBits_7 ?_
  refine va_get (D := (dC, dI)) (ci := 1) (v := .int S.1.2.2.2.1) (C := RX1) (T := TX1) (N := 9) hx hb hT inX1 hown hK hP 1 rfl rfl 3 (by decide) (hT _ k_20) (fun _ h9 => h9) rfl dX3_takeBits_10 ?_
  refine lv_iconst (v := 1) hx hb dX3_takeBits_13 (by decide) ?_
  refine lv_isub hx hb dX3_takeBits_14 ?_
  refine lv_topi (fun x7_1 ex7_1 => ?_)
  have hw := hw x7_1 ex7_1
  refine lv_istore (lv' := [(7, .int x7_1), (6, .int 0), (5, .int 0), (0, .ref (ad 0)), (1, .int x1), (2, .int x2), (3, .int x3), (4, .int x4)]) hx hb dX3_takeBits_15 hl (by decide) rfl (fun ls hl => ?_)
  obtain ⟨n_6, hw⟩ := hw
  obtain ⟨ex17, eex17⟩ : ∃ z : vTT → Int32 → Int32 → Int32 → Prop, z = (fun (T_2 : vTT) (x7_3 : Int32) (x6_4 : Int32) (x5_5 : Int32) => post x5_5 T_2) := ⟨_, rfl⟩
  rw [← eex17] at hw
  have hx17 : ∀ (T_2 : vTT) (x7_3 : Int32) (x6_4 : Int32) (x5_5 : Int32), ex17 T_2 x7_3 x6_4 x5_5 → ∀ (H : Heap) (locs : List Loc) (ls : Array Slot), va_P (dC, dI) vwCl (wTT cI cZ cJ nl nn ad ra S T_2) H → va_D A (wTT cI cZ cJ nl nn ad ra S T_2) → va_S A s.heap H locs → lv_has ls 10 [(7, .int x7_3), (6, .int x6_4), (5, .int x5_5), (0, .ref (ad 0)), (1, .int x1), (2, .int x2), (3, .int x3), (4, .int x4)] → W p l e (headSpec wsX3_takeBits rm_X3_takeBits).room s m args below meth c H locs 0 0 (MQ below (va_Qi post (fun u t => qB (dC, dI) (tysA cI cZ cJ cL) A (wTT cI cZ cJ nl nn ad ra S u) t) A) args s 0 0 A) (F0 m 161 ls []) := by
    intro T_2 x7_3 x6_4 x5_5 hw H locs ls hP hD hS hl
    rw [eex17] at hw
    try dsimp only at hw
    refine lv_iload hx hb dX3_takeBits_161 (lv_at hl 2 rfl) ?_
    exact W.iret (v := x5_5) hx hb hr (fun t ht hW => ⟨⟨x5_5, T_2, rfl, hw, by rw [ht]; exact hP, va_K.moved hW.alike hK, hD⟩, hS.F ht⟩) hS.2.2 dX3_takeBits_163
  have hlp17 : ∀ (n_6 : Nat) (T_2 : vTT) (x7_3 : Int32) (x6_4 : Int32) (x5_5 : Int32), wp_X3_takeBits_L17 post ex17 nl nn S x1 x2 x3 x4 n_6 T_2 x7_3 x6_4 x5_5 → ∀ (H : Heap) (locs : List Loc) (ls : Array Slot), va_P (dC, dI) vwCl (wTT cI cZ cJ nl nn ad ra S T_2) H → va_D A (wTT cI cZ cJ nl nn ad ra S T_2) → va_S A s.heap H locs → lv_has ls 10 [(7, .int x7_3), (6, .int x6_4), (5, .int x5_5), (0, .ref (ad 0)), (1, .int x1), (2, .int x2), (3, .int x3), (4, .int x4)] → W p l e (headSpec wsX3_takeBits rm_X3_takeBits).room s m args below meth c H locs 0 0 (MQ below (va_Qi post (fun u t => qB (dC, dI) (tysA cI cZ cJ cL) A (wTT cI cZ cJ nl nn ad ra S u) t) A) args s 0 0 A) (F0 m 17 ls []) := by
    intro n_6
    induction n_6 with
    | zero => intro _ _ _ _ hw; exact hw.elim
    | succ n_6 ih17 =>
      intro T_2 x7_3 x6_4 x5_5 hw H locs ls hP hD hS hl
      unfold wp_X3_takeBits_L17 at hw
      refine lv_iload hx hb dX3_takeBits_17 (lv_at hl 0 rfl) ?_
      refine lv_if_lt (tgt := 161) hx hb dX3_takeBits_19 (by decide) (fun c_7 => ?_) (fun c_7 => ?_)
      · have hw := hw.1 c_7
        exact hx17 T_2 x7_3 x6_4 x5_5 hw _ _ _ hP hD hS (lv_sub hl [0, 1, 2, 3, 4, 5, 6, 7] rfl)
      · have hw := hw.2 c_7
        refine lv_aload_n hx hb dX3_takeBits_22 rfl (lv_at hl 3 rfl) ?_
        refine va_get (D := (dC, dI)) (ci := 3) (v := .ref (ad 1)) (C := RX3) (T := TX3) (N := 7) hx hb hT inX3 hown hK hP 0 rfl rfl 0 (by decide) (hT _ k_17) (fun _ h9 => h9) rfl dX3_takeBits_23 ?_
        refine lv_iload hx hb dX3_takeBits_26 (lv_at hl 0 rfl) ?_
        refine lv_iload_n hx hb dX3_takeBits_28 rfl (lv_at hl 4 rfl) ?_
        refine lv_iload hx hb dX3_takeBits_29 (lv_at hl 0 rfl) ?_
        refine lv_ishr hx hb dX3_takeBits_31 ?_
        refine lv_iload_n hx hb dX3_takeBits_32 rfl (lv_at hl 5 rfl) ?_
        refine lv_iload hx hb dX3_takeBits_33 (lv_at hl 0 rfl) ?_
        refine lv_ishr hx hb dX3_takeBits_35 ?_
        have hPc := hP.sub (ws' := wSH cI cJ nl (ad 1) (ad 2) (ad 3) (ad 4) (ad 5) ra S) [1, 2, 3, 4, 5, 6, 7, 8] rfl
        refine vp_callSi (W.runV (As := [.int x7_3, .int (x1 >>> (x7_3 &&& 31)), .int (x2 >>> (x7_3 &&& 31))]) (rest := []) ⟨hx, hb, hml, hown, hT⟩ (met_X1_nodeAt l dC dI cI cZ cJ cL (ad 1) (ad 2) (ad 3) (ad 4) (ad 5) ra _ nl S  x7_3 (x1 >>> (x7_3 &&& 31)) (x2 >>> (x7_3 &&& 31)) hw) (cwV 3 hT (gV k_45 k_47 k_48 k_43 k_46) rfl rfl rfl (by decide +kernel) ⟨(Nat.le_of_ble_eq_true rfl), (Nat.le_of_ble_eq_true rfl)⟩) ⟨bl_R, va_recv hK hPc (ci := 1) (q0 := 0) rfl rfl, fun U hU hW => ⟨rfl, by rw [hU]; exact hPc, va_K.moved hW.alike hK⟩⟩ rfl rfl hl.1 rfl (lv_room (Nat.le_of_ble_eq_true rfl)) dX3_takeBits_36 ⟨Nat.le_of_ble_eq_true rfl, Nat.le_of_ble_eq_true rfl⟩) (fun r_8 hw => ?_)
        try dsimp only at hw
        refine lv_istore (lv' := [(8, .int r_8), (7, .int x7_3), (6, .int x6_4), (5, .int x5_5), (0, .ref (ad 0)), (1, .int x1), (2, .int x2), (3, .int x3), (4, .int x4)]) hx hb dX3_takeBits_39 hl (by decide) rfl (fun ls hl => ?_)
        refine lv_iload hx hb dX3_takeBits_41 (lv_at hl 2 rfl) ?_
        refine lv_aload_n hx hb dX3_takeBits_43 rfl (lv_at hl 4 rfl) ?_
        refine va_get (D := (dC, dI)) (ci := 3) (v := .ref (ad 13)) (C := RX3) (T := TX3) (N := 7) hx hb hT inX3 hown hK hP 0 rfl rfl 3 (by decide) (hT _ k_27) (fun _ h9 => h9) rfl dX3_takeBits_44 ?_
        refine va_get (D := (dC, dI)) (ci := 2) (v := .ref (ad 14)) (C := RX2) (T := TX2) (N := 3) hx hb hT inX2 hown hK hP 13 rfl rfl 0 (by decide) (hT _ k_68) (fun _ h9 => h9) rfl dX3_takeBits_47 ?_
        refine lv_iload hx hb dX3_takeBits_50 (lv_at hl 0 rfl) ?_
        obtain ⟨h_9, hw⟩ := hw
        refine va_iald hx hb hK hP 14 0 rfl rfl h_9 dX3_takeBits_52 ?_
        refine va_mmax (x := x6_4) (y := (T_2.2.2.1.1 r_8.toNatClampNeg)) (rest := []) hx hb (by rw [hml]; exact hl.1.symm) hown (hT _ k_77) (hT _ k_78) (hT _ k_51) (hT _ k_79) (Nat.le_of_ble_eq_true rfl) (Nat.le_of_ble_eq_true rfl) (Nat.le_of_ble_eq_true rfl) (Nat.le_of_ble_eq_true rfl) dX3_takeBits_53 ?_
        refine lv_topi (fun x6_10 ex6_10 => ?_)
        have hw := hw x6_10 ex6_10
        refine lv_istore (lv' := [(6, .int x6_10), (8, .int r_8), (7, .int x7_3), (5, .int x5_5), (0, .ref (ad 0)), (1, .int x1), (2, .int x2), (3, .int x3), (4, .int x4)]) hx hb dX3_takeBits_56 hl (by decide) rfl (fun ls hl => ?_)
        refine lv_aload_n hx hb dX3_takeBits_58 rfl (lv_at hl 4 rfl) ?_
        refine va_get (D := (dC, dI)) (ci := 3) (v := .ref (ad 13)) (C := RX3) (T := TX3) (N := 7) hx hb hT inX3 hown hK hP 0 rfl rfl 3 (by decide) (hT _ k_27) (fun _ h9 => h9) rfl dX3_takeBits_59 ?_
        refine va_get (D := (dC, dI)) (ci := 2) (v := .ref (ad 15)) (C := RX2) (T := TX2) (N := 3) hx hb hT inX2 hown hK hP 13 rfl rfl 1 (by decide) (hT _ k_28) (fun _ h9 => h9) rfl dX3_takeBits_62 ?_
        refine lv_iload hx hb dX3_takeBits_65 (lv_at hl 1 rfl) ?_
        obtain ⟨h_11, hw⟩ := hw
        refine va_zald hx hb hK hP 15 1 rfl rfl h_11 dX3_takeBits_67 ?_
        refine lv_topi (fun x9_12 ex9_12 => ?_)
        have hw := hw x9_12 ex9_12
        refine lv_istore (lv' := [(9, .int x9_12), (6, .int x6_10), (8, .int r_8), (7, .int x7_3), (5, .int x5_5), (0, .ref (ad 0)), (1, .int x1), (2, .int x2), (3, .int x3), (4, .int x4)]) hx hb dX3_takeBits_68 hl (by decide) rfl (fun ls hl => ?_)
        obtain ⟨n_16, hw⟩ := hw
        obtain ⟨ex70, eex70⟩ : ∃ z : Int32 → Int32 → Int32 → Prop, z = (fun (x9_13 : Int32) (x6_14 : Int32) (x5_15 : Int32) => ((x4 = 0 → (∀ x7_18 : Int32, x7_18 = x7_3 + (-1) → (wp_X3_takeBits_L17 post ex17 nl nn S x1 x2 x3 x4 n_6 T_2 x7_18 x6_14 x5_15))) ∧ (¬ x4 = 0 → (vp_in r_8 nn ∧ (((x9_13 = 0 → (∀ x7_21 : Int32, x7_21 = x7_3 + (-1) → (wp_X3_takeBits_L17 post ex17 nl nn S x1 x2 x3 x4 n_6 (T_2.1, T_2.2.1, ((upd T_2.2.2.1.1 r_8.toNatClampNeg x6_14), T_2.2.2.1.2.1, T_2.2.2.1.2.2), T_2.2.2.2.1, T_2.2.2.2.2.1, T_2.2.2.2.2.2) x7_21 x6_14 x5_15))) ∧ (¬ x9_13 = 0 → (wp_X2_find (fun D_22 => ∀ x7_23 : Int32, x7_23 = x7_3 + (-1) → (wp_X3_takeBits_L17 post ex17 nl nn S x1 x2 x3 x4 n_6 (T_2.1, T_2.2.1, D_22, T_2.2.2.2.1, T_2.2.2.2.2.1, T_2.2.2.2.2.2) x7_23 x6_14 x5_15)) nn ((upd T_2.2.2.1.1 r_8.toNatClampNeg x6_14), T_2.2.2.1.2.1, T_2.2.2.1.2.2) r_8)))))))) := ⟨_, rfl⟩
        rw [← eex70] at hw
        have hx70 : ∀ (x9_13 : Int32) (x6_14 : Int32) (x5_15 : Int32), ex70 x9_13 x6_14 x5_15 → ∀ (H : Heap) (locs : List Loc) (ls : Array Slot), va_P (dC, dI) vwCl (wTT cI cZ cJ nl nn ad ra S T_2) H → va_D A (wTT cI cZ cJ nl nn ad ra S T_2) → va_S A s.heap H locs → lv_has ls 10 [(9, .int x9_13), (6, .int x6_14), (8, .int r_8), (7, .int x7_3), (5, .int x5_15), (0, .ref (ad 0)), (1, .int x1), (2, .int x2), (3, .int x3), (4, .int x4)] → W p l e (headSpec wsX3_takeBits rm_X3_takeBits).room s m args below meth c H locs 0 0 (MQ below (va_Qi post (fun u t => qB (dC, dI) (tysA cI cZ cJ cL) A (wTT cI cZ cJ nl nn ad ra S u) t) A) args s 0 0 A) (F0 m 124 ls []) := by
          intro x9_13 x6_14 x5_15 hw H locs ls hP hD hS hl
          rw [eex70] at hw
          try dsimp only at hw
          refine lv_iload hx hb dX3_takeBits_124 (lv_at hl 9 rfl) ?_
          refine lv_if_eq (tgt := 155) hx hb dX3_takeBits_126 (by decide) (fun c_17 => ?_) (fun c_17 => ?_)
          · have hw := hw.1 c_17
            obtain ⟨x7_18, ex7_18⟩ : ∃ y : Int32, y = x7_3 + (-1) := ⟨_, rfl⟩
            have hw := hw x7_18 ex7_18
            refine lv_iinc (v := x7_18) (lv' := [(7, .int x7_18), (9, .int x9_13), (6, .int x6_14), (8, .int r_8), (5, .int x5_15), (0, .ref (ad 0)), (1, .int x1), (2, .int x2), (3, .int x3), (4, .int x4)]) hx hb dX3_takeBits_155 hl (k := 3) rfl (by rw [ex7_18]; rfl) (by decide) rfl (fun ls hl => ?_)
            refine lv_goto (tgt := 17) hx hb dX3_takeBits_158 (by decide) ?_
            exact ih17 T_2 x7_18 x6_14 x5_15 hw _ _ _ hP hD hS (lv_sub hl [0, 2, 4, 5, 6, 7, 8, 9] rfl)
          · have hw := hw.2 c_17
            refine lv_aload_n hx hb dX3_takeBits_129 rfl (lv_at hl 5 rfl) ?_
            refine va_get (D := (dC, dI)) (ci := 3) (v := .ref (ad 13)) (C := RX3) (T := TX3) (N := 7) hx hb hT inX3 hown hK hP 0 rfl rfl 3 (by decide) (hT _ k_27) (fun _ h9 => h9) rfl dX3_takeBits_130 ?_
            refine va_get (D := (dC, dI)) (ci := 2) (v := .ref (ad 14)) (C := RX2) (T := TX2) (N := 3) hx hb hT inX2 hown hK hP 13 rfl rfl 0 (by decide) (hT _ k_68) (fun _ h9 => h9) rfl dX3_takeBits_133 ?_
            refine lv_iload hx hb dX3_takeBits_136 (lv_at hl 2 rfl) ?_
            refine lv_iload hx hb dX3_takeBits_138 (lv_at hl 1 rfl) ?_
            obtain ⟨h_19, hw⟩ := hw
            refine va_iast hx hb hK hP hD hS 14 0 rfl rfl h_19 dX3_takeBits_140 (fun H locs hP hD hS => ?_)
            have hP : va_P (dC, dI) vwCl (wTT cI cZ cJ nl nn ad ra S (T_2.1, T_2.2.1, ((upd T_2.2.2.1.1 r_8.toNatClampNeg x6_14), T_2.2.2.1.2.1, T_2.2.2.1.2.2), T_2.2.2.2.1, T_2.2.2.2.2.1, T_2.2.2.2.2.2)) H := hP
            have hD : va_D A (wTT cI cZ cJ nl nn ad ra S (T_2.1, T_2.2.1, ((upd T_2.2.2.1.1 r_8.toNatClampNeg x6_14), T_2.2.2.1.2.1, T_2.2.2.1.2.2), T_2.2.2.2.1, T_2.2.2.2.2.1, T_2.2.2.2.2.2)) := hD
            refine lv_iload hx hb dX3_takeBits_141 (lv_at hl 0 rfl) ?_
            refine lv_if_eq (tgt := 155) hx hb dX3_takeBits_143 (by decide) (fun c_20 => ?_) (fun c_20 => ?_)
            · have hw := hw.1 c_20
              obtain ⟨x7_21, ex7_21⟩ : ∃ y : Int32, y = x7_3 + (-1) := ⟨_, rfl⟩
              have hw := hw x7_21 ex7_21
              refine lv_iinc (v := x7_21) (lv' := [(7, .int x7_21), (9, .int x9_13), (6, .int x6_14), (8, .int r_8), (5, .int x5_15), (0, .ref (ad 0)), (1, .int x1), (2, .int x2), (3, .int x3), (4, .int x4)]) hx hb dX3_takeBits_155 hl (k := 3) rfl (by rw [ex7_21]; rfl) (by decide) rfl (fun ls hl => ?_)
              refine lv_goto (tgt := 17) hx hb dX3_takeBits_158 (by decide) ?_
              exact ih17 (T_2.1, T_2.2.1, ((upd T_2.2.2.1.1 r_8.toNatClampNeg x6_14), T_2.2.2.1.2.1, T_2.2.2.1.2.2), T_2.2.2.2.1, T_2.2.2.2.2.1, T_2.2.2.2.2.2) x7_21 x6_14 x5_15 hw _ _ _ hP hD hS (lv_sub hl [0, 2, 4, 5, 6, 7, 8, 9] rfl)
            · have hw := hw.2 c_20
              refine lv_aload_n hx hb dX3_takeBits_146 rfl (lv_at hl 5 rfl) ?_
              refine va_get (D := (dC, dI)) (ci := 3) (v := .ref (ad 13)) (C := RX3) (T := TX3) (N := 7) hx hb hT inX3 hown hK hP 0 rfl rfl 3 (by decide) (hT _ k_27) (fun _ h9 => h9) rfl dX3_takeBits_147 ?_
              refine lv_iload hx hb dX3_takeBits_150 (lv_at hl 2 rfl) ?_
              have hPc := hP.sub (ws' := wSD cI cZ nn (ad 13) (ad 14) (ad 15) ((upd T_2.2.2.1.1 r_8.toNatClampNeg x6_14), T_2.2.2.1.2.1, T_2.2.2.1.2.2)) [13, 14, 15] rfl
              have hDc := hD.sub (ws' := wSD cI cZ nn (ad 13) (ad 14) (ad 15) ((upd T_2.2.2.1.1 r_8.toNatClampNeg x6_14), T_2.2.2.1.2.1, T_2.2.2.1.2.2)) [13, 14, 15] (by decide) rfl
              have hFc := va_free (wc := wSD cI cZ nn (ad 13) (ad 14) (ad 15) ((upd T_2.2.2.1.1 r_8.toNatClampNeg x6_14), T_2.2.2.1.2.1, T_2.2.2.1.2.2)) hD hS hA [13, 14, 15] rfl
              refine va_callv (va_runV (As := [.int r_8]) (rest := []) ⟨hx, hb, hml, hown, hT⟩ (met_X2_find l dC dI cI cZ cJ cL (ad 13) (ad 14) (ad 15) H.size _ nn ((upd T_2.2.2.1.1 r_8.toNatClampNeg x6_14), T_2.2.2.1.2.1, T_2.2.2.1.2.2) r_8 hw) (cwV 1 hT (gV k_73 k_75 k_76 k_33 k_74) rfl rfl rfl (by decide +kernel) ⟨(Nat.le_of_ble_eq_true rfl), (Nat.le_of_ble_eq_true rfl)⟩) ⟨bl_W, va_recv hK hPc (ci := 2) (q0 := 0) rfl rfl, fun U hU hW => ⟨rfl, by rw [hU], by rw [hU]; exact hPc, va_K.moved hW.alike hK, hDc.weaken (fun _ _ _ _ => trivial)⟩⟩ rfl rfl hl.1 rfl (lv_room (Nat.le_of_ble_eq_true rfl)) dX3_takeBits_152 ⟨Nat.le_of_ble_eq_true rfl, Nat.le_of_ble_eq_true rfl⟩) hS (fun q _ h => hFc q h) hFc (fun D_22 t H1 locs ht hvm hw hB hz1 hk1 hS => ?_)
              obtain ⟨hP1, -, hD1⟩ := hB
              try dsimp only at hw
              rw [ht] at hP1
              obtain ⟨hP, hD⟩ := va_join (wr := [(ad 0, .inr (3, [.ref (ad 1), .ref (ad 9), .ref (ad 10), .ref (ad 13), .ref (ad 16), .ref (ad 18), .int T_2.2.2.2.2.2])), (ad 1, .inr (1, [.int S.1.1, .int S.1.2.1, .int S.1.2.2.1, .int S.1.2.2.2.1, .int S.1.2.2.2.2, .ref (ad 2), .ref (ad 3), .ref (ad 4), .ref (ad 5)])), (ad 2, .inl (cI, 6, .inl S.2.1.1)), (ad 3, .inl (cI, 6, .inl S.2.1.2.1)), (ad 4, .inl (cI, 6, .inl S.2.1.2.2)), (ad 5, .inl (cJ, 3, .inr (.inr (.inr (.inr (fun i => if i < 3 then some (ra i) else none)))))), (ra 0, .inl (cI, nl, .inl (S.2.2 0))), (ra 1, .inl (cI, nl, .inl (S.2.2 1))), (ra 2, .inl (cI, nl, .inl (S.2.2 2))), (ad 9, .inl (cI, nn, .inl T_2.1)), (ad 10, .inr (2, [.ref (ad 11), .ref (ad 12), .int T_2.2.1.2.2])), (ad 11, .inl (cI, nn, .inl T_2.2.1.1)), (ad 12, .inl (cZ, nn, .inl T_2.2.1.2.1)), (ad 16, .inr (0, [.ref (ad 17), .int T_2.2.2.2.1.2.1, .int T_2.2.2.2.1.2.2])), (ad 17, .inl (cI, 1250, .inl T_2.2.2.2.1.1)), (ad 18, .inr (0, [.ref (ad 19), .int T_2.2.2.2.2.1.2.1, .int T_2.2.2.2.2.1.2.2])), (ad 19, .inl (cI, 1250, .inl T_2.2.2.2.2.1.1))]) (w1 := wSD cI cZ nn (ad 13) (ad 14) (ad 15) D_22) hP hD [13, 14, 15] [0, 1, 2, 3, 4, 5, 6, 7, 8, 9, 10, 11, 12, 16, 17, 18, 19] rfl rfl (by decide) (by decide) hk1 hFc hP1 hD1
              generalize H1 = H at hP hS ⊢
              have hP := hP.sub (ws' := wTT cI cZ cJ nl nn ad ra S (T_2.1, T_2.2.1, D_22, T_2.2.2.2.1, T_2.2.2.2.2.1, T_2.2.2.2.2.2)) [0, 1, 2, 3, 4, 5, 6, 7, 8, 9, 10, 11, 12, 17, 18, 19, 13, 14, 15, 16] rfl
              have hD := hD.sub (ws' := wTT cI cZ cJ nl nn ad ra S (T_2.1, T_2.2.1, D_22, T_2.2.2.2.1, T_2.2.2.2.2.1, T_2.2.2.2.2.2)) [0, 1, 2, 3, 4, 5, 6, 7, 8, 9, 10, 11, 12, 17, 18, 19, 13, 14, 15, 16] (by decide) rfl
              obtain ⟨x7_23, ex7_23⟩ : ∃ y : Int32, y = x7_3 + (-1) := ⟨_, rfl⟩
              have hw := hw x7_23 ex7_23
              refine lv_iinc (v := x7_23) (lv' := [(7, .int x7_23), (9, .int x9_13), (6, .int x6_14), (8, .int r_8), (5, .int x5_15), (0, .ref (ad 0)), (1, .int x1), (2, .int x2), (3, .int x3), (4, .int x4)]) hx hb dX3_takeBits_155 hl (k := 3) rfl (by rw [ex7_23]; rfl) (by decide) rfl (fun ls hl => ?_)
              refine lv_goto (tgt := 17) hx hb dX3_takeBits_158 (by decide) ?_
              exact ih17 (T_2.1, T_2.2.1, D_22, T_2.2.2.2.1, T_2.2.2.2.2.1, T_2.2.2.2.2.2) x7_23 x6_14 x5_15 hw _ _ _ hP hD hS (lv_sub hl [0, 2, 4, 5, 6, 7, 8, 9] rfl)
        have hlp70 : ∀ (n_16 : Nat) (x9_13 : Int32) (x6_14 : Int32) (x5_15 : Int32), wp_X3_takeBits_L70 post ex70 nl nn S T_2 r_8 x7_3 x1 x2 x3 x4 n_16 x9_13 x6_14 x5_15 → ∀ (H : Heap) (locs : List Loc) (ls : Array Slot), va_P (dC, dI) vwCl (wTT cI cZ cJ nl nn ad ra S T_2) H → va_D A (wTT cI cZ cJ nl nn ad ra S T_2) → va_S A s.heap H locs → lv_has ls 10 [(9, .int x9_13), (6, .int x6_14), (8, .int r_8), (7, .int x7_3), (5, .int x5_15), (0, .ref (ad 0)), (1, .int x1), (2, .int x2), (3, .int x3), (4, .int x4)] → W p l e (headSpec wsX3_takeBits rm_X3_takeBits).room s m args below meth c H locs 0 0 (MQ below (va_Qi post (fun u t => qB (dC, dI) (tysA cI cZ cJ cL) A (wTT cI cZ cJ nl nn ad ra S u) t) A) args s 0 0 A) (F0 m 70 ls []) := by
          intro n_16
          induction n_16 with
          | zero => intro _ _ _ hw; exact hw.elim
          | succ n_16 ih70 =>
            intro x9_13 x6_14 x5_15 hw H locs ls hP hD hS hl
            unfold wp_X3_takeBits_L70 at hw
            refine lv_iload hx hb dX3_takeBits_70 (lv_at hl 1 rfl) ?_
            refine lv_iload_n hx hb dX3_takeBits_72 rfl (lv_at hl 8 rfl) ?_
            refine lv_icmp_ge (tgt := 124) hx hb dX3_takeBits_73 (by decide) (fun c_24 => ?_) (fun c_24 => ?_)
            · have hw := hw.1 c_24
              exact hx70 x9_13 x6_14 x5_15 hw _ _ _ hP hD hS (lv_sub hl [0, 1, 2, 3, 4, 5, 6, 7, 8, 9] rfl)
            · have hw := hw.2 c_24
              refine lv_iload hx hb dX3_takeBits_76 (lv_at hl 0 rfl) ?_
              refine lv_if_ne (tgt := 124) hx hb dX3_takeBits_78 (by decide) (fun c_25 => ?_) (fun c_25 => ?_)
              · have hw := hw.2 c_25
                exact hx70 x9_13 x6_14 x5_15 hw _ _ _ hP hD hS (lv_sub hl [0, 1, 2, 3, 4, 5, 6, 7, 8, 9] rfl)
              · have hw := hw.1 c_25
                refine lv_iload hx hb dX3_takeBits_81 (lv_at hl 4 rfl) ?_
                refine lv_aload_n hx hb dX3_takeBits_83 rfl (lv_at hl 5 rfl) ?_
                refine va_get (D := (dC, dI)) (ci := 3) (v := .ref (ad 18)) (C := RX3) (T := TX3) (N := 7) hx hb hT inX3 hown hK hP 0 rfl rfl 5 (by decide) (hT _ k_24) (fun _ h9 => h9) rfl dX3_takeBits_84 ?_
                refine va_get (D := (dC, dI)) (ci := 0) (v := .int T_2.2.2.2.2.1.2.2) (C := RX0) (T := TX0) (N := 3) hx hb hT inX0 hown hK hP 18 rfl rfl 2 (by decide) (hT _ k_23) (fun _ h9 => h9) rfl dX3_takeBits_87 ?_
                refine lv_icmp_lt (tgt := 96) hx hb dX3_takeBits_90 (by decide) (fun c_26 => ?_) (fun c_26 => ?_)
                · have hw := hw.1 c_26
                  refine lv_aload_n hx hb dX3_takeBits_96 rfl (lv_at hl 5 rfl) ?_
                  refine va_get (D := (dC, dI)) (ci := 3) (v := .ref (ad 18)) (C := RX3) (T := TX3) (N := 7) hx hb hT inX3 hown hK hP 0 rfl rfl 5 (by decide) (hT _ k_24) (fun _ h9 => h9) rfl dX3_takeBits_97 ?_
                  refine lv_iload hx hb dX3_takeBits_100 (lv_at hl 4 rfl) ?_
                  have hPc := hP.sub (ws' := wBR cI (ad 18) (ad 19) T_2.2.2.2.2.1) [18, 19] rfl
                  refine vp_callSi (W.runV (As := [.int x5_15]) (rest := []) ⟨hx, hb, hml, hown, hT⟩ (met_X0_look l dC dI cI cZ cJ cL (ad 18) (ad 19) _  T_2.2.2.2.2.1 x5_15 hw) (cwV 1 hT (gV k_80 k_82 k_83 k_7 k_81) rfl rfl rfl (by decide +kernel) ⟨(Nat.le_of_ble_eq_true rfl), (Nat.le_of_ble_eq_true rfl)⟩) ⟨bl_R, va_recv hK hPc (ci := 0) (q0 := 0) rfl rfl, fun U hU hW => ⟨rfl, by rw [hU]; exact hPc, va_K.moved hW.alike hK⟩⟩ rfl rfl hl.1 rfl (lv_room (Nat.le_of_ble_eq_true rfl)) dX3_takeBits_102 ⟨Nat.le_of_ble_eq_true rfl, Nat.le_of_ble_eq_true rfl⟩) (fun r_27 hw => ?_)
                  try dsimp only at hw
                  refine lv_iconst (v := 1) hx hb dX3_takeBits_105 (by decide) ?_
                  refine lv_icmp_ne (tgt := 115) hx hb dX3_takeBits_106 (by decide) (fun c_28 => ?_) (fun c_28 => ?_)
                  · have hw := hw.2 c_28
                    obtain ⟨x6_29, ex6_29⟩ : ∃ y : Int32, y = x6_14 + 1 := ⟨_, rfl⟩
                    have hw := hw x6_29 ex6_29
                    refine lv_iinc (v := x6_29) (lv' := [(6, .int x6_29), (9, .int x9_13), (8, .int r_8), (7, .int x7_3), (5, .int x5_15), (0, .ref (ad 0)), (1, .int x1), (2, .int x2), (3, .int x3), (4, .int x4)]) hx hb dX3_takeBits_115 hl (k := 1) rfl (by rw [ex6_29]; rfl) (by decide) rfl (fun ls hl => ?_)
                    obtain ⟨x5_30, ex5_30⟩ : ∃ y : Int32, y = x5_15 + 1 := ⟨_, rfl⟩
                    have hw := hw x5_30 ex5_30
                    refine lv_iinc (v := x5_30) (lv' := [(5, .int x5_30), (6, .int x6_29), (9, .int x9_13), (8, .int r_8), (7, .int x7_3), (0, .ref (ad 0)), (1, .int x1), (2, .int x2), (3, .int x3), (4, .int x4)]) hx hb dX3_takeBits_118 hl (k := 4) rfl (by rw [ex5_30]; rfl) (by decide) rfl (fun ls hl => ?_)
                    refine lv_goto (tgt := 70) hx hb dX3_takeBits_121 (by decide) ?_
                    exact ih70 x9_13 x6_29 x5_30 hw _ _ _ hP hD hS (lv_sub hl [2, 1, 3, 4, 0, 5, 6, 7, 8, 9] rfl)
                  · have hw := hw.1 c_28
                    refine lv_iconst (v := 1) hx hb dX3_takeBits_109 (by decide) ?_
                    refine lv_istore (lv' := [(9, .int 1), (6, .int x6_14), (8, .int r_8), (7, .int x7_3), (5, .int x5_15), (0, .ref (ad 0)), (1, .int x1), (2, .int x2), (3, .int x3), (4, .int x4)]) hx hb dX3_takeBits_110 hl (by decide) rfl (fun ls hl => ?_)
                    refine lv_goto (tgt := 118) hx hb dX3_takeBits_112 (by decide) ?_
                    obtain ⟨x5_31, ex5_31⟩ : ∃ y : Int32, y = x5_15 + 1 := ⟨_, rfl⟩
                    have hw := hw x5_31 ex5_31
                    refine lv_iinc (v := x5_31) (lv' := [(5, .int x5_31), (9, .int 1), (6, .int x6_14), (8, .int r_8), (7, .int x7_3), (0, .ref (ad 0)), (1, .int x1), (2, .int x2), (3, .int x3), (4, .int x4)]) hx hb dX3_takeBits_118 hl (k := 4) rfl (by rw [ex5_31]; rfl) (by decide) rfl (fun ls hl => ?_)
                    refine lv_goto (tgt := 70) hx hb dX3_takeBits_121 (by decide) ?_
                    exact ih70 1 x6_14 x5_31 hw _ _ _ hP hD hS (lv_sub hl [1, 2, 3, 4, 0, 5, 6, 7, 8, 9] rfl)
                · have hw := hw.2 c_26
                  refine lv_bipush (v := (-2)) hx hb dX3_takeBits_93 (by decide) ?_
                  exact W.iret (v := (-2)) hx hb hr (fun t ht hW => ⟨⟨(-2), T_2, rfl, hw, by rw [ht]; exact hP, va_K.moved hW.alike hK, hD⟩, hS.F ht⟩) hS.2.2 dX3_takeBits_95
        exact hlp70 n_16 x9_12 x6_10 x5_5 hw _ _ _ hP hD hS (lv_sub hl [0, 1, 2, 3, 4, 5, 6, 7, 8, 9] rfl)
  exact hlp17 n_6 T x7_1 0 0 hw _ _ _ hP hD hS (lv_sub hl [0, 1, 2, 3, 4, 5, 6, 7] rfl)
def wp_X3_costOfLeaf_L17 (post : Int32 → Prop) (ex17 : Int32 → Int32 → Int32 → Prop) (nl : Nat) (nn : Nat) (S : vSH) (T : vTT) (x1 : Int32) (x2 : Int32) (x3 : Int32) : Nat → Int32 → Int32 → Int32 → Prop
  | 0, _, _, _ => False
  | n_5 + 1, x6_2, x5_3, x4_4 => ((x6_2 < 0 → (ex17 x6_2 x5_3 x4_4)) ∧ (¬ x6_2 < 0 → (wp_X1_nodeAt (fun r_7 => vp_in r_7 nn ∧ (∀ x8_9 : Int32, x8_9 = (if x5_3 < (T.2.1.1 r_7.toNatClampNeg) then (T.2.1.1 r_7.toNatClampNeg) else x5_3) → (wp_X3_costOfNode (fun r_10 => ∀ x4_11 : Int32, x4_11 = x4_4 + r_10 → (wp_X3_boundAfter (fun r_12 => ∀ x6_13 : Int32, x6_13 = x6_2 + (-1) → (wp_X3_costOfLeaf_L17 post ex17 nl nn S T x1 x2 x3 n_5 x6_13 r_12 x4_11)) nl nn S T r_7 x8_9 x3)) nl nn S T r_7 x8_9 x3))) nl S  x6_2 (x1 >>> (x6_2 &&& 31)) (x2 >>> (x6_2 &&& 31)))))
def wp_X3_costOfLeaf (post : Int32 → Prop) (nl : Nat) (nn : Nat) (S : vSH) (T : vTT) (x1 : Int32) (x2 : Int32) (x3 : Int32) : Prop := ∀ x6_1 : Int32, x6_1 = S.1.2.2.2.1 - 1 → (∃ n_5 : Nat, wp_X3_costOfLeaf_L17 post (fun (x6_2 : Int32) (x5_3 : Int32) (x4_4 : Int32) => post x4_4) nl nn S T x1 x2 x3 n_5 x6_1 0 0)
abbrev rm_X3_costOfLeaf : Room := { frames := 3, cells := 0, slots := 0, locals := 70 }
set_option maxHeartbeats 4000000 in
set_option maxRecDepth 100000 in
theorem met_X3_costOfLeaf (l : Launch) (dC : Nat → ClassId) (dI : Nat → Nat → Nat) (cI cZ cJ cL : ClassId) (ad ra : Nat → Nat) (post : Int32 → Prop) (nl : Nat) (nn : Nat) (S : vSH) (T : vTT) (x1 : Int32) (x2 : Int32) (x3 : Int32) (hw : wp_X3_costOfLeaf post nl nn S T x1 x2 x3) : Met l yX3_costOfLeaf wsX3_costOfLeaf rm_X3_costOfLeaf (pcR (dC, dI) (tysA cI cZ cJ cL) (wTT cI cZ cJ nl nn ad ra S T) [.ref (ad 0), .int x1, .int x2, .int x3]) (vp_Si post) 0 0 (fun _ => False) := by
  refine Met.ofW (cc := cX3_costOfLeaf) (maxL := 9) (ret := (some .int)) (by decide) rfl ?_
  intro p e s m args below meth c s₁ Bd hml hv
  obtain ⟨hargs, hP, hK⟩ := hv
  have hx := Bd.exec
  have hb := Bd.bytes
  have hr := Bd.returns
  have hts := atoms_spec (ws := wsX3_costOfLeaf) Bd.pre
  have hT : ∀ w ∈ WALL, w.before args s = true := fun w h => hts w (List.mem_cons_of_mem _ h)
  have hown : s.vm.findClass RX3 = some m.cls := findClass_of_methodNamed Bd.named
  have hlocks := Bd.notSynchronized
  have hP : va_P (dC, dI) vwCl (wTT cI cZ cJ nl nn ad ra S T) s.heap := hP
  have hl := lv_entry ([.ref (ad 0), .int x1, .int x2, .int x3]) (n := 9) (Nat.le_of_ble_eq_true rfl)
  rw [show entryFrame m args 9 = F0 m 0 _ [] from by rw [hargs]; exact lg_entry_eq m ([.ref (ad 0), .int x1, .int x2, .int x3]) 9]
  generalize (lg_sl ([.ref (ad 0), .int x1, .int x2, .int x3]) ++ List.replicate (9 - (lg_sl ([.ref (ad 0), .int x1, .int x2, .int x3])).length) Slot.unset).toArray = ls at hl ⊢
  have hl : lv_has ls 9 [(0, .ref (ad 0)), (1, .int x1), (2, .int x2), (3, .int x3)] := hl
  generalize hH : s.heap = H at hP ⊢
  unfold wp_X3_costOfLeaf at hw
  refine lv_iconst (v := 0) hx hb dX3_costOfLeaf_0 (by decide) ?_
  refine lv_istore (lv' := [(4, .int 0), (0, .ref (ad 0)), (1, .int x1), (2, .int x2), (3, .int x3)]) hx hb dX3_costOfLeaf_1 hl (by decide) rfl (fun ls hl => ?_)
  refine lv_iconst (v := 0) hx hb dX3_costOfLeaf_3 (by decide) ?_
  refine lv_istore (lv' := [(5, .int 0), (4, .int 0), (0, .ref (ad 0)), (1, .int x1), (2, .int x2), (3, .int x3)]) hx hb dX3_costOfLeaf_4 hl (by decide) rfl (fun ls hl => ?_)
  refine lv_aload_n hx hb dX3_costOfLeaf_6 rfl (lv_at hl 2 rfl) ?_
  refine va_get (D := (dC, dI)) (ci := 3) (v := .ref (ad 1)) (C := RX3) (T := TX3) (N := 7) hx hb hT inX3 hown hK hP 0 rfl rfl 0 (by decide) (hT _ k_17) (fun _ h9 => h9) rfl dX3_costOfLeaf_7 ?_
  refine va_get (D := (dC, dI)) (ci := 1) (v := .int S.1.2.2.2.1) (C := RX1) (T := TX1) (N := 9) hx hb hT inX1 hown hK hP 1 rfl rfl 3 (by decide) (hT _ k_20) (fun _ h9 => h9) rfl dX3_costOfLeaf_10 ?_
  refine lv_iconst (v := 1) hx hb dX3_costOfLeaf_13 (by decide) ?_
  refine lv_isub hx hb dX3_costOfLeaf_14 ?_
  refine lv_topi (fun x6_1 ex6_1 => ?_)
  have hw := hw x6_1 ex6_1
  refine lv_istore (lv' := [(6, .int x6_1), (5, .int 0), (4, .int 0), (0, .ref (ad 0)), (1, .int x1), (2, .int x2), (3, .int x3)]) hx hb dX3_costOfLeaf_15 hl (by decide) rfl (fun ls hl => ?_)
  obtain ⟨n_5, hw⟩ := hw
  obtain ⟨ex17, eex17⟩ : ∃ z : Int32 → Int32 → Int32 → Prop, z = (fun (x6_2 : Int32) (x5_3 : Int32) (x4_4 : Int32) => post x4_4) := ⟨_, rfl⟩
  rw [← eex17] at hw
  have hx17 : ∀ (x6_2 : Int32) (x5_3 : Int32) (x4_4 : Int32), ex17 x6_2 x5_3 x4_4 → ∀ (ls : Array Slot), lv_has ls 9 [(6, .int x6_2), (5, .int x5_3), (4, .int x4_4), (0, .ref (ad 0)), (1, .int x1), (2, .int x2), (3, .int x3)] → W p l e (headSpec wsX3_costOfLeaf rm_X3_costOfLeaf).room s m args below meth c H [] 0 0 (MQ below (vp_Si post) args s 0 0 (fun _ => False)) (F0 m 89 ls []) := by
    intro x6_2 x5_3 x4_4 hw ls hl
    rw [eex17] at hw
    try dsimp only at hw
    refine lv_iload hx hb dX3_costOfLeaf_89 (lv_at hl 2 rfl) ?_
    exact W.iret (v := x4_4) hx hb hr (fun t ht hW => ⟨x4_4, rfl, hw, ht.trans hH.symm⟩) (fun q h => by cases h) dX3_costOfLeaf_91
  have hlp17 : ∀ (n_5 : Nat) (x6_2 : Int32) (x5_3 : Int32) (x4_4 : Int32), wp_X3_costOfLeaf_L17 post ex17 nl nn S T x1 x2 x3 n_5 x6_2 x5_3 x4_4 → ∀ (ls : Array Slot), lv_has ls 9 [(6, .int x6_2), (5, .int x5_3), (4, .int x4_4), (0, .ref (ad 0)), (1, .int x1), (2, .int x2), (3, .int x3)] → W p l e (headSpec wsX3_costOfLeaf rm_X3_costOfLeaf).room s m args below meth c H [] 0 0 (MQ below (vp_Si post) args s 0 0 (fun _ => False)) (F0 m 17 ls []) := by
    intro n_5
    induction n_5 with
    | zero => intro _ _ _ hw; exact hw.elim
    | succ n_5 ih17 =>
      intro x6_2 x5_3 x4_4 hw ls hl
      unfold wp_X3_costOfLeaf_L17 at hw
      refine lv_iload hx hb dX3_costOfLeaf_17 (lv_at hl 0 rfl) ?_
      refine lv_if_lt (tgt := 89) hx hb dX3_costOfLeaf_19 (by decide) (fun c_6 => ?_) (fun c_6 => ?_)
      · have hw := hw.1 c_6
        exact hx17 x6_2 x5_3 x4_4 hw _ (lv_sub hl [0, 1, 2, 3, 4, 5, 6] rfl)
      · have hw := hw.2 c_6
        refine lv_aload_n hx hb dX3_costOfLeaf_22 rfl (lv_at hl 3 rfl) ?_
        refine va_get (D := (dC, dI)) (ci := 3) (v := .ref (ad 1)) (C := RX3) (T := TX3) (N := 7) hx hb hT inX3 hown hK hP 0 rfl rfl 0 (by decide) (hT _ k_17) (fun _ h9 => h9) rfl dX3_costOfLeaf_23 ?_
        refine lv_iload hx hb dX3_costOfLeaf_26 (lv_at hl 0 rfl) ?_
        refine lv_iload_n hx hb dX3_costOfLeaf_28 rfl (lv_at hl 4 rfl) ?_
        refine lv_iload hx hb dX3_costOfLeaf_29 (lv_at hl 0 rfl) ?_
        refine lv_ishr hx hb dX3_costOfLeaf_31 ?_
        refine lv_iload_n hx hb dX3_costOfLeaf_32 rfl (lv_at hl 5 rfl) ?_
        refine lv_iload hx hb dX3_costOfLeaf_33 (lv_at hl 0 rfl) ?_
        refine lv_ishr hx hb dX3_costOfLeaf_35 ?_
        have hPc := hP.sub (ws' := wSH cI cJ nl (ad 1) (ad 2) (ad 3) (ad 4) (ad 5) ra S) [1, 2, 3, 4, 5, 6, 7, 8] rfl
        refine vp_callSi (W.runV (As := [.int x6_2, .int (x1 >>> (x6_2 &&& 31)), .int (x2 >>> (x6_2 &&& 31))]) (rest := []) ⟨hx, hb, hml, hown, hT⟩ (met_X1_nodeAt l dC dI cI cZ cJ cL (ad 1) (ad 2) (ad 3) (ad 4) (ad 5) ra _ nl S  x6_2 (x1 >>> (x6_2 &&& 31)) (x2 >>> (x6_2 &&& 31)) hw) (cwV 3 hT (gV k_45 k_47 k_48 k_43 k_46) rfl rfl rfl (by decide +kernel) ⟨(Nat.le_of_ble_eq_true rfl), (Nat.le_of_ble_eq_true rfl)⟩) ⟨bl_R, va_recv hK hPc (ci := 1) (q0 := 0) rfl rfl, fun U hU hW => ⟨rfl, by rw [hU]; exact hPc, va_K.moved hW.alike hK⟩⟩ rfl rfl hl.1 rfl (lv_room (Nat.le_of_ble_eq_true rfl)) dX3_costOfLeaf_36 ⟨Nat.le_of_ble_eq_true rfl, Nat.le_of_ble_eq_true rfl⟩) (fun r_7 hw => ?_)
        try dsimp only at hw
        refine lv_istore (lv' := [(7, .int r_7), (6, .int x6_2), (5, .int x5_3), (4, .int x4_4), (0, .ref (ad 0)), (1, .int x1), (2, .int x2), (3, .int x3)]) hx hb dX3_costOfLeaf_39 hl (by decide) rfl (fun ls hl => ?_)
        refine lv_iload hx hb dX3_costOfLeaf_41 (lv_at hl 2 rfl) ?_
        refine lv_aload_n hx hb dX3_costOfLeaf_43 rfl (lv_at hl 4 rfl) ?_
        refine va_get (D := (dC, dI)) (ci := 3) (v := .ref (ad 10)) (C := RX3) (T := TX3) (N := 7) hx hb hT inX3 hown hK hP 0 rfl rfl 2 (by decide) (hT _ k_25) (fun _ h9 => h9) rfl dX3_costOfLeaf_44 ?_
        refine va_get (D := (dC, dI)) (ci := 2) (v := .ref (ad 11)) (C := RX2) (T := TX2) (N := 3) hx hb hT inX2 hown hK hP 10 rfl rfl 0 (by decide) (hT _ k_68) (fun _ h9 => h9) rfl dX3_costOfLeaf_47 ?_
        refine lv_iload hx hb dX3_costOfLeaf_50 (lv_at hl 0 rfl) ?_
        obtain ⟨h_8, hw⟩ := hw
        refine va_iald hx hb hK hP 11 0 rfl rfl h_8 dX3_costOfLeaf_52 ?_
        refine va_mmax (x := x5_3) (y := (T.2.1.1 r_7.toNatClampNeg)) (rest := []) hx hb (by rw [hml]; exact hl.1.symm) hown (hT _ k_77) (hT _ k_78) (hT _ k_51) (hT _ k_79) (Nat.le_of_ble_eq_true rfl) (Nat.le_of_ble_eq_true rfl) (Nat.le_of_ble_eq_true rfl) (Nat.le_of_ble_eq_true rfl) dX3_costOfLeaf_53 ?_
        refine lv_topi (fun x8_9 ex8_9 => ?_)
        have hw := hw x8_9 ex8_9
        refine lv_istore (lv' := [(8, .int x8_9), (7, .int r_7), (6, .int x6_2), (5, .int x5_3), (4, .int x4_4), (0, .ref (ad 0)), (1, .int x1), (2, .int x2), (3, .int x3)]) hx hb dX3_costOfLeaf_56 hl (by decide) rfl (fun ls hl => ?_)
        refine lv_iload hx hb dX3_costOfLeaf_58 (lv_at hl 4 rfl) ?_
        refine lv_aload_n hx hb dX3_costOfLeaf_60 rfl (lv_at hl 5 rfl) ?_
        refine lv_iload hx hb dX3_costOfLeaf_61 (lv_at hl 1 rfl) ?_
        refine lv_iload hx hb dX3_costOfLeaf_63 (lv_at hl 0 rfl) ?_
        refine lv_iload_n hx hb dX3_costOfLeaf_65 rfl (lv_at hl 8 rfl) ?_
        have hPc := hP
        refine vp_callSi (W.runV (As := [.int r_7, .int x8_9, .int x3]) (rest := [.int x4_4]) ⟨hx, hb, hml, hown, hT⟩ (met_X3_costOfNode l dC dI cI cZ cJ cL ad ra _ nl nn S T r_7 x8_9 x3 hw) (cwV 3 hT (gV k_84 k_86 k_87 k_57 k_85) rfl rfl rfl (by decide +kernel) ⟨(Nat.le_of_ble_eq_true rfl), (Nat.le_of_ble_eq_true rfl)⟩) ⟨bl_R, va_recv hK hPc (ci := 3) (q0 := 0) rfl rfl, fun U hU hW => ⟨rfl, by rw [hU]; exact hPc, va_K.moved hW.alike hK⟩⟩ rfl rfl hl.1 rfl (lv_room (Nat.le_of_ble_eq_true rfl)) dX3_costOfLeaf_66 ⟨Nat.le_of_ble_eq_true rfl, Nat.le_of_ble_eq_true rfl⟩) (fun r_10 hw => ?_)
        try dsimp only at hw
        refine lv_iadd hx hb dX3_costOfLeaf_69 ?_
        refine lv_topi (fun x4_11 ex4_11 => ?_)
        have hw := hw x4_11 ex4_11
        refine lv_istore (lv' := [(4, .int x4_11), (8, .int x8_9), (7, .int r_7), (6, .int x6_2), (5, .int x5_3), (0, .ref (ad 0)), (1, .int x1), (2, .int x2), (3, .int x3)]) hx hb dX3_costOfLeaf_70 hl (by decide) rfl (fun ls hl => ?_)
        refine lv_aload_n hx hb dX3_costOfLeaf_72 rfl (lv_at hl 5 rfl) ?_
        refine lv_iload hx hb dX3_costOfLeaf_73 (lv_at hl 2 rfl) ?_
        refine lv_iload hx hb dX3_costOfLeaf_75 (lv_at hl 1 rfl) ?_
        refine lv_iload_n hx hb dX3_costOfLeaf_77 rfl (lv_at hl 8 rfl) ?_
        have hPc := hP
        refine vp_callSi (W.runV (As := [.int r_7, .int x8_9, .int x3]) (rest := []) ⟨hx, hb, hml, hown, hT⟩ (met_X3_boundAfter l dC dI cI cZ cJ cL ad ra _ nl nn S T r_7 x8_9 x3 hw) (cwV 3 hT (gV k_64 k_66 k_67 k_57 k_65) rfl rfl rfl (by decide +kernel) ⟨(Nat.le_of_ble_eq_true rfl), (Nat.le_of_ble_eq_true rfl)⟩) ⟨bl_R, va_recv hK hPc (ci := 3) (q0 := 0) rfl rfl, fun U hU hW => ⟨rfl, by rw [hU]; exact hPc, va_K.moved hW.alike hK⟩⟩ rfl rfl hl.1 rfl (lv_room (Nat.le_of_ble_eq_true rfl)) dX3_costOfLeaf_78 ⟨Nat.le_of_ble_eq_true rfl, Nat.le_of_ble_eq_true rfl⟩) (fun r_12 hw => ?_)
        try dsimp only at hw
        refine lv_istore (lv' := [(5, .int r_12), (4, .int x4_11), (8, .int x8_9), (7, .int r_7), (6, .int x6_2), (0, .ref (ad 0)), (1, .int x1), (2, .int x2), (3, .int x3)]) hx hb dX3_costOfLeaf_81 hl (by decide) rfl (fun ls hl => ?_)
        obtain ⟨x6_13, ex6_13⟩ : ∃ y : Int32, y = x6_2 + (-1) := ⟨_, rfl⟩
        have hw := hw x6_13 ex6_13
        refine lv_iinc (v := x6_13) (lv' := [(6, .int x6_13), (5, .int r_12), (4, .int x4_11), (8, .int x8_9), (7, .int r_7), (0, .ref (ad 0)), (1, .int x1), (2, .int x2), (3, .int x3)]) hx hb dX3_costOfLeaf_83 hl (k := 4) rfl (by rw [ex6_13]; rfl) (by decide) rfl (fun ls hl => ?_)
        refine lv_goto (tgt := 17) hx hb dX3_costOfLeaf_86 (by decide) ?_
        exact ih17 x6_13 r_12 x4_11 hw _ (lv_sub hl [0, 1, 2, 5, 6, 7, 8] rfl)
  exact hlp17 n_5 x6_1 0 0 hw _ (lv_sub hl [0, 1, 2, 3, 4, 5, 6] rfl)
def wp_X3_costBelow_L71 (post : Int32 → Prop) (rec9 : (Int32 → Prop) → Int32 → Int32 → Int32 → Int32 → Int32 → Prop) (ex71 : Int32 → Int32 → Prop) (nl : Nat) (nn : Nat) (S : vSH) (T : vTT) (r_7 : Int32) (x7_5 : Int32) (r_3 : Int32) (x1 : Int32) (x2 : Int32) (x3 : Int32) (x4 : Int32) (x5 : Int32) : Nat → Int32 → Int32 → Prop
  | 0, _, _ => False
  | n_10 + 1, x10_8, x8_9 => ((4 ≤ x10_8 → (ex71 x10_8 x8_9)) ∧ (¬ 4 ≤ x10_8 → (rec9 (fun r_12 => ∀ x8_13 : Int32, x8_13 = x8_9 + r_12 → (∀ x10_14 : Int32, x10_14 = x10_8 + 1 → (wp_X3_costBelow_L71 post rec9 ex71 nl nn S T r_7 x7_5 r_3 x1 x2 x3 x4 x5 n_10 x10_14 x8_13))) (x1 - 1) ((2 * x2) + (x10_8 &&& 1)) ((2 * x3) + (x10_8 >>> ((1 : Int32) &&& 31))) r_7 x5)))
def wp_X3_costBelow (nl : Nat) (nn : Nat) (S : vSH) (T : vTT) : Nat → (Int32 → Prop) → Int32 → Int32 → Int32 → Int32 → Int32 → Prop
  | 0, _, _, _, _, _, _ => False
  | d + 1, post, x1, x2, x3, x4, x5 => (fun rec9 : (Int32 → Prop) → Int32 → Int32 → Int32 → Int32 → Int32 → Prop => wp_X1_hasNode (fun r_1 => ((r_1 = 0 → (post 0)) ∧ (¬ r_1 = 0 → (wp_X1_nodeAt (fun r_3 => vp_in r_3 nn ∧ (∀ x7_5 : Int32, x7_5 = (if x4 < (T.2.1.1 r_3.toNatClampNeg) then (T.2.1.1 r_3.toNatClampNeg) else x4) → (wp_X3_costOfNode (fun r_6 => wp_X3_boundAfter (fun r_7 => ∃ n_10 : Nat, wp_X3_costBelow_L71 post rec9 (fun (x10_8 : Int32) (x8_9 : Int32) => post x8_9) nl nn S T r_7 x7_5 r_3 x1 x2 x3 x4 x5 n_10 0 r_6) nl nn S T r_3 x7_5 x5) nl nn S T r_3 x7_5 x5))) nl S  x1 x2 x3)))) nl S  x1 x2 x3) (wp_X3_costBelow nl nn S T d)
abbrev rm_X3_costBelow (d : Nat) : Room := { frames := 4 + d, cells := 0, slots := 0, locals := 140 + d * 30 }
set_option maxHeartbeats 4000000 in
set_option maxRecDepth 100000 in
theorem met_X3_costBelow (l : Launch) (dC : Nat → ClassId) (dI : Nat → Nat → Nat) (cI cZ cJ cL : ClassId) (ad ra : Nat → Nat) (nl : Nat) (nn : Nat) (S : vSH) (T : vTT) : ∀ (d : Nat) (post : Int32 → Prop) (x1 : Int32) (x2 : Int32) (x3 : Int32) (x4 : Int32) (x5 : Int32), wp_X3_costBelow nl nn S T d post x1 x2 x3 x4 x5 → Met l yX3_costBelow wsX3_costBelow (rm_X3_costBelow d) (pcR (dC, dI) (tysA cI cZ cJ cL) (wTT cI cZ cJ nl nn ad ra S T) [.ref (ad 0), .int x1, .int x2, .int x3, .int x4, .int x5]) (vp_Si post) 0 0 (fun _ => False) := by
  intro d
  induction d with
  | zero => intro _ _ _ _ _ _ hw; exact hw.elim
  | succ d ihR =>
    intro post x1 x2 x3 x4 x5 hw
    refine Met.ofW (cc := cX3_costBelow) (maxL := 11) (ret := (some .int)) (by decide) rfl ?_
    intro p e s m args below meth c s₁ Bd hml hv
    obtain ⟨hargs, hP, hK⟩ := hv
    have hx := Bd.exec
    have hb := Bd.bytes
    have hr := Bd.returns
    have hts := atoms_spec (ws := wsX3_costBelow) Bd.pre
    have hT : ∀ w ∈ WALL, w.before args s = true := fun w h => hts w (List.mem_cons_of_mem _ h)
    have hown : s.vm.findClass RX3 = some m.cls := findClass_of_methodNamed Bd.named
    have hlocks := Bd.notSynchronized
    have hP : va_P (dC, dI) vwCl (wTT cI cZ cJ nl nn ad ra S T) s.heap := hP
    have hl := lv_entry ([.ref (ad 0), .int x1, .int x2, .int x3, .int x4, .int x5]) (n := 11) (Nat.le_of_ble_eq_true rfl)
    rw [show entryFrame m args 11 = F0 m 0 _ [] from by rw [hargs]; exact lg_entry_eq m ([.ref (ad 0), .int x1, .int x2, .int x3, .int x4, .int x5]) 11]
    generalize (lg_sl ([.ref (ad 0), .int x1, .int x2, .int x3, .int x4, .int x5]) ++ List.replicate (11 - (lg_sl ([.ref (ad 0), .int x1, .int x2, .int x3, .int x4, .int x5])).length) Slot.unset).toArray = ls at hl ⊢
    have hl : lv_has ls 11 [(0, .ref (ad 0)), (1, .int x1), (2, .int x2), (3, .int x3), (4, .int x4), (5, .int x5)] := hl
    generalize hH : s.heap = H at hP ⊢
    unfold wp_X3_costBelow at hw
    obtain ⟨rec9, hrec⟩ : ∃ z : (Int32 → Prop) → Int32 → Int32 → Int32 → Int32 → Int32 → Prop, z = wp_X3_costBelow nl nn S T d := ⟨_, rfl⟩
    rw [← hrec] at hw ihR
    try dsimp only at hw
    refine lv_aload_n hx hb dX3_costBelow_0 rfl (lv_at hl 0 rfl) ?_
    refine va_get (D := (dC, dI)) (ci := 3) (v := .ref (ad 1)) (C := RX3) (T := TX3) (N := 7) hx hb hT inX3 hown hK hP 0 rfl rfl 0 (by decide) (hT _ k_17) (fun _ h9 => h9) rfl dX3_costBelow_1 ?_
    refine lv_iload_n hx hb dX3_costBelow_4 rfl (lv_at hl 1 rfl) ?_
    refine lv_iload_n hx hb dX3_costBelow_5 rfl (lv_at hl 2 rfl) ?_
    refine lv_iload_n hx hb dX3_costBelow_6 rfl (lv_at hl 3 rfl) ?_
    have hPc := hP.sub (ws' := wSH cI cJ nl (ad 1) (ad 2) (ad 3) (ad 4) (ad 5) ra S) [1, 2, 3, 4, 5, 6, 7, 8] rfl
    refine vp_callSi (W.runV (As := [.int x1, .int x2, .int x3]) (rest := []) ⟨hx, hb, hml, hown, hT⟩ (met_X1_hasNode l dC dI cI cZ cJ cL (ad 1) (ad 2) (ad 3) (ad 4) (ad 5) ra _ nl S  x1 x2 x3 hw) (cwV 3 hT (gV k_39 k_41 k_42 k_43 k_40) rfl rfl rfl (by decide +kernel) ⟨(Nat.le_trans (show 1 ≤ 4 by decide) (Nat.le_add_right _ _)), (Nat.le_trans (show 23 ≤ 140 by decide) (Nat.le_add_right _ _))⟩) ⟨bl_R, va_recv hK hPc (ci := 1) (q0 := 0) rfl rfl, fun U hU hW => ⟨rfl, by rw [hU]; exact hPc, va_K.moved hW.alike hK⟩⟩ rfl rfl hl.1 rfl (lv_room (Nat.le_of_ble_eq_true rfl)) dX3_costBelow_7 ⟨Nat.le_of_ble_eq_true rfl, Nat.le_of_ble_eq_true rfl⟩) (fun r_1 hw => ?_)
    try dsimp only at hw
    refine lv_if_ne (tgt := 15) hx hb dX3_costBelow_10 (by decide) (fun c_2 => ?_) (fun c_2 => ?_)
    · have hw := hw.2 c_2
      refine lv_aload_n hx hb dX3_costBelow_15 rfl (lv_at hl 0 rfl) ?_
      refine va_get (D := (dC, dI)) (ci := 3) (v := .ref (ad 1)) (C := RX3) (T := TX3) (N := 7) hx hb hT inX3 hown hK hP 0 rfl rfl 0 (by decide) (hT _ k_17) (fun _ h9 => h9) rfl dX3_costBelow_16 ?_
      refine lv_iload_n hx hb dX3_costBelow_19 rfl (lv_at hl 1 rfl) ?_
      refine lv_iload_n hx hb dX3_costBelow_20 rfl (lv_at hl 2 rfl) ?_
      refine lv_iload_n hx hb dX3_costBelow_21 rfl (lv_at hl 3 rfl) ?_
      have hPc := hP.sub (ws' := wSH cI cJ nl (ad 1) (ad 2) (ad 3) (ad 4) (ad 5) ra S) [1, 2, 3, 4, 5, 6, 7, 8] rfl
      refine vp_callSi (W.runV (As := [.int x1, .int x2, .int x3]) (rest := []) ⟨hx, hb, hml, hown, hT⟩ (met_X1_nodeAt l dC dI cI cZ cJ cL (ad 1) (ad 2) (ad 3) (ad 4) (ad 5) ra _ nl S  x1 x2 x3 hw) (cwV 3 hT (gV k_45 k_47 k_48 k_43 k_46) rfl rfl rfl (by decide +kernel) ⟨(Nat.le_trans (show 1 ≤ 4 by decide) (Nat.le_add_right _ _)), (Nat.le_trans (show 23 ≤ 140 by decide) (Nat.le_add_right _ _))⟩) ⟨bl_R, va_recv hK hPc (ci := 1) (q0 := 0) rfl rfl, fun U hU hW => ⟨rfl, by rw [hU]; exact hPc, va_K.moved hW.alike hK⟩⟩ rfl rfl hl.1 rfl (lv_room (Nat.le_of_ble_eq_true rfl)) dX3_costBelow_22 ⟨Nat.le_of_ble_eq_true rfl, Nat.le_of_ble_eq_true rfl⟩) (fun r_3 hw => ?_)
      try dsimp only at hw
      refine lv_istore (lv' := [(6, .int r_3), (0, .ref (ad 0)), (1, .int x1), (2, .int x2), (3, .int x3), (4, .int x4), (5, .int x5)]) hx hb dX3_costBelow_25 hl (by decide) rfl (fun ls hl => ?_)
      refine lv_iload hx hb dX3_costBelow_27 (lv_at hl 5 rfl) ?_
      refine lv_aload_n hx hb dX3_costBelow_29 rfl (lv_at hl 1 rfl) ?_
      refine va_get (D := (dC, dI)) (ci := 3) (v := .ref (ad 10)) (C := RX3) (T := TX3) (N := 7) hx hb hT inX3 hown hK hP 0 rfl rfl 2 (by decide) (hT _ k_25) (fun _ h9 => h9) rfl dX3_costBelow_30 ?_
      refine va_get (D := (dC, dI)) (ci := 2) (v := .ref (ad 11)) (C := RX2) (T := TX2) (N := 3) hx hb hT inX2 hown hK hP 10 rfl rfl 0 (by decide) (hT _ k_68) (fun _ h9 => h9) rfl dX3_costBelow_33 ?_
      refine lv_iload hx hb dX3_costBelow_36 (lv_at hl 0 rfl) ?_
      obtain ⟨h_4, hw⟩ := hw
      refine va_iald hx hb hK hP 11 0 rfl rfl h_4 dX3_costBelow_38 ?_
      refine va_mmax (x := x4) (y := (T.2.1.1 r_3.toNatClampNeg)) (rest := []) hx hb (by rw [hml]; exact hl.1.symm) hown (hT _ k_77) (hT _ k_78) (hT _ k_51) (hT _ k_79) (Nat.le_trans (show 1 ≤ 4 by decide) (Nat.le_add_right _ _)) (Nat.le_trans (show 13 ≤ 140 by decide) (Nat.le_add_right _ _)) (Nat.le_of_ble_eq_true rfl) (Nat.le_of_ble_eq_true rfl) dX3_costBelow_39 ?_
      refine lv_topi (fun x7_5 ex7_5 => ?_)
      have hw := hw x7_5 ex7_5
      refine lv_istore (lv' := [(7, .int x7_5), (6, .int r_3), (0, .ref (ad 0)), (1, .int x1), (2, .int x2), (3, .int x3), (4, .int x4), (5, .int x5)]) hx hb dX3_costBelow_42 hl (by decide) rfl (fun ls hl => ?_)
      refine lv_aload_n hx hb dX3_costBelow_44 rfl (lv_at hl 2 rfl) ?_
      refine lv_iload hx hb dX3_costBelow_45 (lv_at hl 1 rfl) ?_
      refine lv_iload hx hb dX3_costBelow_47 (lv_at hl 0 rfl) ?_
      refine lv_iload hx hb dX3_costBelow_49 (lv_at hl 7 rfl) ?_
      have hPc := hP
      refine vp_callSi (W.runV (As := [.int r_3, .int x7_5, .int x5]) (rest := []) ⟨hx, hb, hml, hown, hT⟩ (met_X3_costOfNode l dC dI cI cZ cJ cL ad ra _ nl nn S T r_3 x7_5 x5 hw) (cwV 3 hT (gV k_84 k_86 k_87 k_57 k_85) rfl rfl rfl (by decide +kernel) ⟨(Nat.le_trans (show 3 ≤ 4 by decide) (Nat.le_add_right _ _)), (Nat.le_trans (show 70 ≤ 140 by decide) (Nat.le_add_right _ _))⟩) ⟨bl_R, va_recv hK hPc (ci := 3) (q0 := 0) rfl rfl, fun U hU hW => ⟨rfl, by rw [hU]; exact hPc, va_K.moved hW.alike hK⟩⟩ rfl rfl hl.1 rfl (lv_room (Nat.le_of_ble_eq_true rfl)) dX3_costBelow_51 ⟨Nat.le_of_ble_eq_true rfl, Nat.le_of_ble_eq_true rfl⟩) (fun r_6 hw => ?_)
      try dsimp only at hw
      refine lv_istore (lv' := [(8, .int r_6), (7, .int x7_5), (6, .int r_3), (0, .ref (ad 0)), (1, .int x1), (2, .int x2), (3, .int x3), (4, .int x4), (5, .int x5)]) hx hb dX3_costBelow_54 hl (by decide) rfl (fun ls hl => ?_)
      refine lv_aload_n hx hb dX3_costBelow_56 rfl (lv_at hl 3 rfl) ?_
      refine lv_iload hx hb dX3_costBelow_57 (lv_at hl 2 rfl) ?_
      refine lv_iload hx hb dX3_costBelow_59 (lv_at hl 1 rfl) ?_
      refine lv_iload hx hb dX3_costBelow_61 (lv_at hl 8 rfl) ?_
      have hPc := hP
      refine vp_callSi (W.runV (As := [.int r_3, .int x7_5, .int x5]) (rest := []) ⟨hx, hb, hml, hown, hT⟩ (met_X3_boundAfter l dC dI cI cZ cJ cL ad ra _ nl nn S T r_3 x7_5 x5 hw) (cwV 3 hT (gV k_64 k_66 k_67 k_57 k_65) rfl rfl rfl (by decide +kernel) ⟨(Nat.le_trans (show 2 ≤ 4 by decide) (Nat.le_add_right _ _)), (Nat.le_trans (show 46 ≤ 140 by decide) (Nat.le_add_right _ _))⟩) ⟨bl_R, va_recv hK hPc (ci := 3) (q0 := 0) rfl rfl, fun U hU hW => ⟨rfl, by rw [hU]; exact hPc, va_K.moved hW.alike hK⟩⟩ rfl rfl hl.1 rfl (lv_room (Nat.le_of_ble_eq_true rfl)) dX3_costBelow_63 ⟨Nat.le_of_ble_eq_true rfl, Nat.le_of_ble_eq_true rfl⟩) (fun r_7 hw => ?_)
      try dsimp only at hw
      refine lv_istore (lv' := [(9, .int r_7), (8, .int r_6), (7, .int x7_5), (6, .int r_3), (0, .ref (ad 0)), (1, .int x1), (2, .int x2), (3, .int x3), (4, .int x4), (5, .int x5)]) hx hb dX3_costBelow_66 hl (by decide) rfl (fun ls hl => ?_)
      refine lv_iconst (v := 0) hx hb dX3_costBelow_68 (by decide) ?_
      refine lv_istore (lv' := [(10, .int 0), (9, .int r_7), (8, .int r_6), (7, .int x7_5), (6, .int r_3), (0, .ref (ad 0)), (1, .int x1), (2, .int x2), (3, .int x3), (4, .int x4), (5, .int x5)]) hx hb dX3_costBelow_69 hl (by decide) rfl (fun ls hl => ?_)
      obtain ⟨n_10, hw⟩ := hw
      obtain ⟨ex71, eex71⟩ : ∃ z : Int32 → Int32 → Prop, z = (fun (x10_8 : Int32) (x8_9 : Int32) => post x8_9) := ⟨_, rfl⟩
      rw [← eex71] at hw
      have hx71 : ∀ (x10_8 : Int32) (x8_9 : Int32), ex71 x10_8 x8_9 → ∀ (ls : Array Slot), lv_has ls 11 [(10, .int x10_8), (9, .int r_7), (8, .int x8_9), (7, .int x7_5), (6, .int r_3), (0, .ref (ad 0)), (1, .int x1), (2, .int x2), (3, .int x3), (4, .int x4), (5, .int x5)] → W p l e (headSpec wsX3_costBelow (rm_X3_costBelow (d + 1))).room s m args below meth c H [] 0 0 (MQ below (vp_Si post) args s 0 0 (fun _ => False)) (F0 m 115 ls []) := by
        intro x10_8 x8_9 hw ls hl
        rw [eex71] at hw
        try dsimp only at hw
        refine lv_iload hx hb dX3_costBelow_115 (lv_at hl 2 rfl) ?_
        exact W.iret (v := x8_9) hx hb hr (fun t ht hW => ⟨x8_9, rfl, hw, ht.trans hH.symm⟩) (fun q h => by cases h) dX3_costBelow_117
      have hlp71 : ∀ (n_10 : Nat) (x10_8 : Int32) (x8_9 : Int32), wp_X3_costBelow_L71 post rec9 ex71 nl nn S T r_7 x7_5 r_3 x1 x2 x3 x4 x5 n_10 x10_8 x8_9 → ∀ (ls : Array Slot), lv_has ls 11 [(10, .int x10_8), (9, .int r_7), (8, .int x8_9), (7, .int x7_5), (6, .int r_3), (0, .ref (ad 0)), (1, .int x1), (2, .int x2), (3, .int x3), (4, .int x4), (5, .int x5)] → W p l e (headSpec wsX3_costBelow (rm_X3_costBelow (d + 1))).room s m args below meth c H [] 0 0 (MQ below (vp_Si post) args s 0 0 (fun _ => False)) (F0 m 71 ls []) := by
        intro n_10
        induction n_10 with
        | zero => intro _ _ hw; exact hw.elim
        | succ n_10 ih71 =>
          intro x10_8 x8_9 hw ls hl
          unfold wp_X3_costBelow_L71 at hw
          refine lv_iload hx hb dX3_costBelow_71 (lv_at hl 0 rfl) ?_
          refine lv_iconst (v := 4) hx hb dX3_costBelow_73 (by decide) ?_
          refine lv_icmp_ge (tgt := 115) hx hb dX3_costBelow_74 (by decide) (fun c_11 => ?_) (fun c_11 => ?_)
          · have hw := hw.1 c_11
            exact hx71 x10_8 x8_9 hw _ (lv_sub hl [0, 1, 2, 3, 4, 5, 6, 7, 8, 9, 10] rfl)
          · have hw := hw.2 c_11
            refine lv_iload hx hb dX3_costBelow_77 (lv_at hl 2 rfl) ?_
            refine lv_aload_n hx hb dX3_costBelow_79 rfl (lv_at hl 5 rfl) ?_
            refine lv_iload_n hx hb dX3_costBelow_80 rfl (lv_at hl 6 rfl) ?_
            refine lv_iconst (v := 1) hx hb dX3_costBelow_81 (by decide) ?_
            refine lv_isub hx hb dX3_costBelow_82 ?_
            refine lv_iconst (v := 2) hx hb dX3_costBelow_83 (by decide) ?_
            refine lv_iload_n hx hb dX3_costBelow_84 rfl (lv_at hl 7 rfl) ?_
            refine lv_imul hx hb dX3_costBelow_85 ?_
            refine lv_iload hx hb dX3_costBelow_86 (lv_at hl 0 rfl) ?_
            refine lv_iconst (v := 1) hx hb dX3_costBelow_88 (by decide) ?_
            refine lv_iand hx hb dX3_costBelow_89 ?_
            refine lv_iadd hx hb dX3_costBelow_90 ?_
            refine lv_iconst (v := 2) hx hb dX3_costBelow_91 (by decide) ?_
            refine lv_iload_n hx hb dX3_costBelow_92 rfl (lv_at hl 8 rfl) ?_
            refine lv_imul hx hb dX3_costBelow_93 ?_
            refine lv_iload hx hb dX3_costBelow_94 (lv_at hl 0 rfl) ?_
            refine lv_iconst (v := 1) hx hb dX3_costBelow_96 (by decide) ?_
            refine lv_ishr hx hb dX3_costBelow_97 ?_
            refine lv_iadd hx hb dX3_costBelow_98 ?_
            refine lv_iload hx hb dX3_costBelow_99 (lv_at hl 1 rfl) ?_
            refine lv_iload hx hb dX3_costBelow_101 (lv_at hl 10 rfl) ?_
            have hPc := hP
            refine vp_callSi (W.runV (As := [.int (x1 - 1), .int ((2 * x2) + (x10_8 &&& 1)), .int ((2 * x3) + (x10_8 >>> ((1 : Int32) &&& 31))), .int r_7, .int x5]) (rest := [.int x8_9]) ⟨hx, hb, hml, hown, hT⟩ (ihR _ (x1 - 1) ((2 * x2) + (x10_8 &&& 1)) ((2 * x3) + (x10_8 >>> ((1 : Int32) &&& 31))) r_7 x5 hw) (cwV 5 hT (gV k_88 k_90 k_91 k_57 k_89) rfl rfl rfl (by decide +kernel) ⟨by show 4 + d + 1 ≤ 4 + (d + 1); omega, by show 8 + (11 + 11) + (140 + d * 30) ≤ 140 + (d + 1) * 30; omega⟩) ⟨bl_R, va_recv hK hPc (ci := 3) (q0 := 0) rfl rfl, fun U hU hW => ⟨rfl, by rw [hU]; exact hPc, va_K.moved hW.alike hK⟩⟩ rfl rfl hl.1 rfl (lv_room (Nat.le_of_ble_eq_true rfl)) dX3_costBelow_103 ⟨Nat.le_of_ble_eq_true rfl, Nat.le_of_ble_eq_true rfl⟩) (fun r_12 hw => ?_)
            try dsimp only at hw
            refine lv_iadd hx hb dX3_costBelow_106 ?_
            refine lv_topi (fun x8_13 ex8_13 => ?_)
            have hw := hw x8_13 ex8_13
            refine lv_istore (lv' := [(8, .int x8_13), (10, .int x10_8), (9, .int r_7), (7, .int x7_5), (6, .int r_3), (0, .ref (ad 0)), (1, .int x1), (2, .int x2), (3, .int x3), (4, .int x4), (5, .int x5)]) hx hb dX3_costBelow_107 hl (by decide) rfl (fun ls hl => ?_)
            obtain ⟨x10_14, ex10_14⟩ : ∃ y : Int32, y = x10_8 + 1 := ⟨_, rfl⟩
            have hw := hw x10_14 ex10_14
            refine lv_iinc (v := x10_14) (lv' := [(10, .int x10_14), (8, .int x8_13), (9, .int r_7), (7, .int x7_5), (6, .int r_3), (0, .ref (ad 0)), (1, .int x1), (2, .int x2), (3, .int x3), (4, .int x4), (5, .int x5)]) hx hb dX3_costBelow_109 hl (k := 1) rfl (by rw [ex10_14]; rfl) (by decide) rfl (fun ls hl => ?_)
            refine lv_goto (tgt := 71) hx hb dX3_costBelow_112 (by decide) ?_
            exact ih71 x10_14 x8_13 hw _ (lv_sub hl [0, 2, 1, 3, 4, 5, 6, 7, 8, 9, 10] rfl)
      exact hlp71 n_10 0 r_6 hw _ (lv_sub hl [0, 1, 2, 3, 4, 5, 6, 7, 8, 9, 10] rfl)
    · have hw := hw.1 c_2
      refine lv_iconst (v := 0) hx hb dX3_costBelow_13 (by decide) ?_
      exact W.iret (v := 0) hx hb hr (fun t ht hW => ⟨0, rfl, hw, ht.trans hH.symm⟩) (fun q h => by cases h) dX3_costBelow_14
def wp_X3_tellLeaf_L14 (post : vTT → Prop) (ex14 : vTT → Int32 → Int32 → Prop) (nl : Nat) (nn : Nat) (S : vSH) (x1 : Int32) (x2 : Int32) (x3 : Int32) : Nat → vTT → Int32 → Int32 → Prop
  | 0, _, _, _ => False
  | n_5 + 1, T_2, x5_3, x4_4 => ((x5_3 < 0 → (ex14 T_2 x5_3 x4_4)) ∧ (¬ x5_3 < 0 → (wp_X1_nodeAt (fun r_7 => vp_in r_7 nn ∧ (wp_X3_tellNode (fun T_9 => vp_in r_7 nn ∧ (∀ x4_11 : Int32, x4_11 = T_9.2.1.1 r_7.toNatClampNeg → (∀ x5_12 : Int32, x5_12 = x5_3 + (-1) → (wp_X3_tellLeaf_L14 post ex14 nl nn S x1 x2 x3 n_5 T_9 x5_12 x4_11)))) nl nn S T_2 r_7 (if x4_4 < (T_2.2.1.1 r_7.toNatClampNeg) then (T_2.2.1.1 r_7.toNatClampNeg) else x4_4) x3)) nl S  x5_3 (x1 >>> (x5_3 &&& 31)) (x2 >>> (x5_3 &&& 31)))))
def wp_X3_tellLeaf (post : vTT → Prop) (nl : Nat) (nn : Nat) (S : vSH) (T : vTT) (x1 : Int32) (x2 : Int32) (x3 : Int32) : Prop := ∀ x5_1 : Int32, x5_1 = S.1.2.2.2.1 - 1 → (∃ n_5 : Nat, wp_X3_tellLeaf_L14 post (fun (T_2 : vTT) (x5_3 : Int32) (x4_4 : Int32) => post T_2) nl nn S x1 x2 x3 n_5 T x5_1 0)
abbrev rm_X3_tellLeaf : Room := { frames := 3, cells := 0, slots := 0, locals := 71 }
set_option maxHeartbeats 4000000 in
set_option maxRecDepth 100000 in
theorem met_X3_tellLeaf (l : Launch) (dC : Nat → ClassId) (dI : Nat → Nat → Nat) (cI cZ cJ cL : ClassId) (ad ra : Nat → Nat) (sz : Nat) (post : vTT → Prop) (nl : Nat) (nn : Nat) (S : vSH) (T : vTT) (x1 : Int32) (x2 : Int32) (x3 : Int32) (hw : wp_X3_tellLeaf post nl nn S T x1 x2 x3) : Met l yX3_tellLeaf wsX3_tellLeaf rm_X3_tellLeaf (pcW (dC, dI) (tysA cI cZ cJ cL) (wTT cI cZ cJ nl nn ad ra S T) sz [.ref (ad 0), .int x1, .int x2, .int x3]) (va_Qv post (fun u t => qB (dC, dI) (tysA cI cZ cJ cL) (va_A (wTT cI cZ cJ nl nn ad ra S T) sz) (wTT cI cZ cJ nl nn ad ra S u) t) (va_A (wTT cI cZ cJ nl nn ad ra S T) sz)) 0 0 (va_A (wTT cI cZ cJ nl nn ad ra S T) sz) := by
  refine Met.ofW (cc := cX3_tellLeaf) (maxL := 7) (ret := none) (by decide) rfl ?_
  intro p e s m args below meth c s₁ Bd hml hv
  obtain ⟨hargs, hsz, hP, hK, hD0⟩ := hv
  have hx := Bd.exec
  have hb := Bd.bytes
  have hr := Bd.returns
  have hts := atoms_spec (ws := wsX3_tellLeaf) Bd.pre
  have hT : ∀ w ∈ WALL, w.before args s = true := fun w h => hts w (List.mem_cons_of_mem _ h)
  have hown : s.vm.findClass RX3 = some m.cls := findClass_of_methodNamed Bd.named
  have hlocks := Bd.notSynchronized
  subst hsz
  have hD := hD0.self (sz := s.heap.size)
  generalize hAe : va_A (wTT cI cZ cJ nl nn ad ra S T) s.heap.size = A at hD ⊢
  have hA : ∀ q : Nat, s.heap.size ≤ q → A q := fun q h => by rw [← hAe]; exact Or.inr h
  have hS : va_S A s.heap s.heap [] := va_S.rf
  have hP : va_P (dC, dI) vwCl (wTT cI cZ cJ nl nn ad ra S T) s.heap := hP
  have hl := lv_entry ([.ref (ad 0), .int x1, .int x2, .int x3]) (n := 7) (Nat.le_of_ble_eq_true rfl)
  rw [show entryFrame m args 7 = F0 m 0 _ [] from by rw [hargs]; exact lg_entry_eq m ([.ref (ad 0), .int x1, .int x2, .int x3]) 7]
  generalize (lg_sl ([.ref (ad 0), .int x1, .int x2, .int x3]) ++ List.replicate (7 - (lg_sl ([.ref (ad 0), .int x1, .int x2, .int x3])).length) Slot.unset).toArray = ls at hl ⊢
  have hl : lv_has ls 7 [(0, .ref (ad 0)), (1, .int x1), (2, .int x2), (3, .int x3)] := hl
  obtain ⟨H, hH⟩ : ∃ z : Heap, z = s.heap := ⟨_, rfl⟩
  obtain ⟨locs, hlocs⟩ : ∃ z : List Loc, z = [] := ⟨_, rfl⟩
  rw [show W p l e (headSpec wsX3_tellLeaf rm_X3_tellLeaf).room s m args below meth c s.heap [] 0 0 = W p l e (headSpec wsX3_tellLeaf rm_X3_tellLeaf).room s m args below meth c H locs 0 0 from by rw [hH, hlocs]]
  have hP : va_P (dC, dI) vwCl (wTT cI cZ cJ nl nn ad ra S T) H := by rw [hH]; exact hP
  have hS : va_S A s.heap H locs := by rw [hH, hlocs]; exact hS
  unfold wp_X3_tellLeaf at hw
  refine lv_iconst (v := 0) hx hb dX3_tellLeaf_0 (by decide) ?_
  refine lv_istore (lv' := [(4, .int 0), (0, .ref (ad 0)), (1, .int x1), (2, .int x2), (3, .int x3)]) hx hb dX3_tellLeaf_1 hl (by decide) rfl (fun ls hl => ?_)
  refine lv_aload_n hx hb dX3_tellLeaf_3 rfl (lv_at hl 1 rfl) ?_
  refine va_get (D := (dC, dI)) (ci := 3) (v := .ref (ad 1)) (C := RX3) (T := TX3) (N := 7) hx hb hT inX3 hown hK hP 0 rfl rfl 0 (by decide) (hT _ k_17) (fun _ h9 => h9) rfl dX3_tellLeaf_4 ?_
  refine va_get (D := (dC, dI)) (ci := 1) (v := .int S.1.2.2.2.1) (C := RX1) (T := TX1) (N := 9) hx hb hT inX1 hown hK hP 1 rfl rfl 3 (by decide) (hT _ k_20) (fun _ h9 => h9) rfl dX3_tellLeaf_7 ?_
  refine lv_iconst (v := 1) hx hb dX3_tellLeaf_10 (by decide) ?_
  refine lv_isub hx hb dX3_tellLeaf_11 ?_
  refine lv_topi (fun x5_1 ex5_1 => ?_)
  have hw := hw x5_1 ex5_1
  refine lv_istore (lv' := [(5, .int x5_1), (4, .int 0), (0, .ref (ad 0)), (1, .int x1), (2, .int x2), (3, .int x3)]) hx hb dX3_tellLeaf_12 hl (by decide) rfl (fun ls hl => ?_)
  obtain ⟨n_5, hw⟩ := hw
  obtain ⟨ex14, eex14⟩ : ∃ z : vTT → Int32 → Int32 → Prop, z = (fun (T_2 : vTT) (x5_3 : Int32) (x4_4 : Int32) => post T_2) := ⟨_, rfl⟩
  rw [← eex14] at hw
  have hx14 : ∀ (T_2 : vTT) (x5_3 : Int32) (x4_4 : Int32), ex14 T_2 x5_3 x4_4 → ∀ (H : Heap) (locs : List Loc) (ls : Array Slot), va_P (dC, dI) vwCl (wTT cI cZ cJ nl nn ad ra S T_2) H → va_D A (wTT cI cZ cJ nl nn ad ra S T_2) → va_S A s.heap H locs → lv_has ls 7 [(5, .int x5_3), (4, .int x4_4), (0, .ref (ad 0)), (1, .int x1), (2, .int x2), (3, .int x3)] → W p l e (headSpec wsX3_tellLeaf rm_X3_tellLeaf).room s m args below meth c H locs 0 0 (MQ below (va_Qv post (fun u t => qB (dC, dI) (tysA cI cZ cJ cL) A (wTT cI cZ cJ nl nn ad ra S u) t) A) args s 0 0 A) (F0 m 78 ls []) := by
    intro T_2 x5_3 x4_4 hw H locs ls hP hD hS hl
    rw [eex14] at hw
    try dsimp only at hw
    exact W.vret hx hb hr (fun t ht hW => ⟨⟨T_2, rfl, hw, by rw [ht]; exact hP, va_K.moved hW.alike hK, hD⟩, hS.F ht⟩) hS.2.2 dX3_tellLeaf_78
  have hlp14 : ∀ (n_5 : Nat) (T_2 : vTT) (x5_3 : Int32) (x4_4 : Int32), wp_X3_tellLeaf_L14 post ex14 nl nn S x1 x2 x3 n_5 T_2 x5_3 x4_4 → ∀ (H : Heap) (locs : List Loc) (ls : Array Slot), va_P (dC, dI) vwCl (wTT cI cZ cJ nl nn ad ra S T_2) H → va_D A (wTT cI cZ cJ nl nn ad ra S T_2) → va_S A s.heap H locs → lv_has ls 7 [(5, .int x5_3), (4, .int x4_4), (0, .ref (ad 0)), (1, .int x1), (2, .int x2), (3, .int x3)] → W p l e (headSpec wsX3_tellLeaf rm_X3_tellLeaf).room s m args below meth c H locs 0 0 (MQ below (va_Qv post (fun u t => qB (dC, dI) (tysA cI cZ cJ cL) A (wTT cI cZ cJ nl nn ad ra S u) t) A) args s 0 0 A) (F0 m 14 ls []) := by
    intro n_5
    induction n_5 with
    | zero => intro _ _ _ hw; exact hw.elim
    | succ n_5 ih14 =>
      intro T_2 x5_3 x4_4 hw H locs ls hP hD hS hl
      unfold wp_X3_tellLeaf_L14 at hw
      refine lv_iload hx hb dX3_tellLeaf_14 (lv_at hl 0 rfl) ?_
      refine lv_if_lt (tgt := 78) hx hb dX3_tellLeaf_16 (by decide) (fun c_6 => ?_) (fun c_6 => ?_)
      · have hw := hw.1 c_6
        exact hx14 T_2 x5_3 x4_4 hw _ _ _ hP hD hS (lv_sub hl [0, 1, 2, 3, 4, 5] rfl)
      · have hw := hw.2 c_6
        refine lv_aload_n hx hb dX3_tellLeaf_19 rfl (lv_at hl 2 rfl) ?_
        refine va_get (D := (dC, dI)) (ci := 3) (v := .ref (ad 1)) (C := RX3) (T := TX3) (N := 7) hx hb hT inX3 hown hK hP 0 rfl rfl 0 (by decide) (hT _ k_17) (fun _ h9 => h9) rfl dX3_tellLeaf_20 ?_
        refine lv_iload hx hb dX3_tellLeaf_23 (lv_at hl 0 rfl) ?_
        refine lv_iload_n hx hb dX3_tellLeaf_25 rfl (lv_at hl 3 rfl) ?_
        refine lv_iload hx hb dX3_tellLeaf_26 (lv_at hl 0 rfl) ?_
        refine lv_ishr hx hb dX3_tellLeaf_28 ?_
        refine lv_iload_n hx hb dX3_tellLeaf_29 rfl (lv_at hl 4 rfl) ?_
        refine lv_iload hx hb dX3_tellLeaf_30 (lv_at hl 0 rfl) ?_
        refine lv_ishr hx hb dX3_tellLeaf_32 ?_
        have hPc := hP.sub (ws' := wSH cI cJ nl (ad 1) (ad 2) (ad 3) (ad 4) (ad 5) ra S) [1, 2, 3, 4, 5, 6, 7, 8] rfl
        refine vp_callSi (W.runV (As := [.int x5_3, .int (x1 >>> (x5_3 &&& 31)), .int (x2 >>> (x5_3 &&& 31))]) (rest := []) ⟨hx, hb, hml, hown, hT⟩ (met_X1_nodeAt l dC dI cI cZ cJ cL (ad 1) (ad 2) (ad 3) (ad 4) (ad 5) ra _ nl S  x5_3 (x1 >>> (x5_3 &&& 31)) (x2 >>> (x5_3 &&& 31)) hw) (cwV 3 hT (gV k_45 k_47 k_48 k_43 k_46) rfl rfl rfl (by decide +kernel) ⟨(Nat.le_of_ble_eq_true rfl), (Nat.le_of_ble_eq_true rfl)⟩) ⟨bl_R, va_recv hK hPc (ci := 1) (q0 := 0) rfl rfl, fun U hU hW => ⟨rfl, by rw [hU]; exact hPc, va_K.moved hW.alike hK⟩⟩ rfl rfl hl.1 rfl (lv_room (Nat.le_of_ble_eq_true rfl)) dX3_tellLeaf_33 ⟨Nat.le_of_ble_eq_true rfl, Nat.le_of_ble_eq_true rfl⟩) (fun r_7 hw => ?_)
        try dsimp only at hw
        refine lv_istore (lv' := [(6, .int r_7), (5, .int x5_3), (4, .int x4_4), (0, .ref (ad 0)), (1, .int x1), (2, .int x2), (3, .int x3)]) hx hb dX3_tellLeaf_36 hl (by decide) rfl (fun ls hl => ?_)
        refine lv_aload_n hx hb dX3_tellLeaf_38 rfl (lv_at hl 3 rfl) ?_
        refine lv_iload hx hb dX3_tellLeaf_39 (lv_at hl 0 rfl) ?_
        refine lv_iload hx hb dX3_tellLeaf_41 (lv_at hl 2 rfl) ?_
        refine lv_aload_n hx hb dX3_tellLeaf_43 rfl (lv_at hl 3 rfl) ?_
        refine va_get (D := (dC, dI)) (ci := 3) (v := .ref (ad 10)) (C := RX3) (T := TX3) (N := 7) hx hb hT inX3 hown hK hP 0 rfl rfl 2 (by decide) (hT _ k_25) (fun _ h9 => h9) rfl dX3_tellLeaf_44 ?_
        refine va_get (D := (dC, dI)) (ci := 2) (v := .ref (ad 11)) (C := RX2) (T := TX2) (N := 3) hx hb hT inX2 hown hK hP 10 rfl rfl 0 (by decide) (hT _ k_68) (fun _ h9 => h9) rfl dX3_tellLeaf_47 ?_
        refine lv_iload hx hb dX3_tellLeaf_50 (lv_at hl 0 rfl) ?_
        obtain ⟨h_8, hw⟩ := hw
        refine va_iald hx hb hK hP 11 0 rfl rfl h_8 dX3_tellLeaf_52 ?_
        refine va_mmax (x := x4_4) (y := (T_2.2.1.1 r_7.toNatClampNeg)) (rest := [.int r_7, .ref (ad 0)]) hx hb (by rw [hml]; exact hl.1.symm) hown (hT _ k_77) (hT _ k_78) (hT _ k_51) (hT _ k_79) (Nat.le_of_ble_eq_true rfl) (Nat.le_of_ble_eq_true rfl) (Nat.le_of_ble_eq_true rfl) (Nat.le_of_ble_eq_true rfl) dX3_tellLeaf_53 ?_
        refine lv_iload_n hx hb dX3_tellLeaf_56 rfl (lv_at hl 6 rfl) ?_
        have hPc := hP
        have hDc := hD
        have hFc := va_free (wc := wTT cI cZ cJ nl nn ad ra S T_2) hD hS hA [0, 1, 2, 3, 4, 5, 6, 7, 8, 9, 10, 11, 12, 13, 14, 15, 16, 17, 18, 19] rfl
        refine va_callv (va_runV (As := [.int r_7, .int (if x4_4 < (T_2.2.1.1 r_7.toNatClampNeg) then (T_2.2.1.1 r_7.toNatClampNeg) else x4_4), .int x3]) (rest := []) ⟨hx, hb, hml, hown, hT⟩ (met_X3_tellNode l dC dI cI cZ cJ cL ad ra H.size _ nl nn S T_2 r_7 (if x4_4 < (T_2.2.1.1 r_7.toNatClampNeg) then (T_2.2.1.1 r_7.toNatClampNeg) else x4_4) x3 hw) (cwV 3 hT (gV k_92 k_94 k_95 k_57 k_93) rfl rfl rfl (by decide +kernel) ⟨(Nat.le_of_ble_eq_true rfl), (Nat.le_of_ble_eq_true rfl)⟩) ⟨bl_W, va_recv hK hPc (ci := 3) (q0 := 0) rfl rfl, fun U hU hW => ⟨rfl, by rw [hU], by rw [hU]; exact hPc, va_K.moved hW.alike hK, hDc.weaken (fun _ _ _ _ => trivial)⟩⟩ rfl rfl hl.1 rfl (lv_room (Nat.le_of_ble_eq_true rfl)) dX3_tellLeaf_57 ⟨Nat.le_of_ble_eq_true rfl, Nat.le_of_ble_eq_true rfl⟩) hS (fun q _ h => hFc q h) hFc (fun T_9 t H1 locs ht hvm hw hB hz1 hk1 hS => ?_)
        obtain ⟨hP1, -, hD1⟩ := hB
        try dsimp only at hw
        rw [ht] at hP1
        obtain ⟨hP, hD⟩ := va_join (wr := []) (w1 := wTT cI cZ cJ nl nn ad ra S T_9) hP hD [0, 1, 2, 3, 4, 5, 6, 7, 8, 9, 10, 11, 12, 13, 14, 15, 16, 17, 18, 19] [] rfl rfl (by decide) (by decide) hk1 hFc hP1 hD1
        generalize H1 = H at hP hS ⊢
        have hP := hP.sub (ws' := wTT cI cZ cJ nl nn ad ra S T_9) [0, 1, 2, 3, 4, 5, 6, 7, 8, 9, 10, 11, 12, 13, 14, 15, 16, 17, 18, 19] rfl
        have hD := hD.sub (ws' := wTT cI cZ cJ nl nn ad ra S T_9) [0, 1, 2, 3, 4, 5, 6, 7, 8, 9, 10, 11, 12, 13, 14, 15, 16, 17, 18, 19] (by decide) rfl
        refine lv_aload_n hx hb dX3_tellLeaf_60 rfl (lv_at hl 3 rfl) ?_
        refine va_get (D := (dC, dI)) (ci := 3) (v := .ref (ad 10)) (C := RX3) (T := TX3) (N := 7) hx hb hT inX3 hown hK hP 0 rfl rfl 2 (by decide) (hT _ k_25) (fun _ h9 => h9) rfl dX3_tellLeaf_61 ?_
        refine va_get (D := (dC, dI)) (ci := 2) (v := .ref (ad 11)) (C := RX2) (T := TX2) (N := 3) hx hb hT inX2 hown hK hP 10 rfl rfl 0 (by decide) (hT _ k_68) (fun _ h9 => h9) rfl dX3_tellLeaf_64 ?_
        refine lv_iload hx hb dX3_tellLeaf_67 (lv_at hl 0 rfl) ?_
        obtain ⟨h_10, hw⟩ := hw
        refine va_iald hx hb hK hP 11 0 rfl rfl h_10 dX3_tellLeaf_69 ?_
        refine lv_topi (fun x4_11 ex4_11 => ?_)
        have hw := hw x4_11 ex4_11
        refine lv_istore (lv' := [(4, .int x4_11), (6, .int r_7), (5, .int x5_3), (0, .ref (ad 0)), (1, .int x1), (2, .int x2), (3, .int x3)]) hx hb dX3_tellLeaf_70 hl (by decide) rfl (fun ls hl => ?_)
        obtain ⟨x5_12, ex5_12⟩ : ∃ y : Int32, y = x5_3 + (-1) := ⟨_, rfl⟩
        have hw := hw x5_12 ex5_12
        refine lv_iinc (v := x5_12) (lv' := [(5, .int x5_12), (4, .int x4_11), (6, .int r_7), (0, .ref (ad 0)), (1, .int x1), (2, .int x2), (3, .int x3)]) hx hb dX3_tellLeaf_72 hl (k := 2) rfl (by rw [ex5_12]; rfl) (by decide) rfl (fun ls hl => ?_)
        refine lv_goto (tgt := 14) hx hb dX3_tellLeaf_75 (by decide) ?_
        exact ih14 T_9 x5_12 x4_11 hw _ _ _ hP hD hS (lv_sub hl [0, 1, 3, 4, 5, 6] rfl)
  exact hlp14 n_5 T x5_1 0 hw _ _ _ hP hD hS (lv_sub hl [0, 1, 2, 3, 4, 5] rfl)
def wp_X3_learnLeaf (post : Int32 → vTT → Prop) (nl : Nat) (nn : Nat) (S : vSH) (T : vTT) (x1 : Int32) (x2 : Int32) (x3 : Int32) : Prop := wp_X3_takeBits (fun r_1 T_2 => ((r_1 = (-2) → (post 0 T_2)) ∧ (¬ r_1 = (-2) → (wp_X3_takeBits (fun r_4 T_5 => wp_X0_drop (fun B_6 => post 1 (T_5.1, T_5.2.1, T_5.2.2.1, T_5.2.2.2.1, B_6, T_5.2.2.2.2.2))  T_5.2.2.2.2.1 r_1) nl nn S T_2 x1 x2 x3 1)))) nl nn S T x1 x2 x3 0
abbrev rm_X3_learnLeaf : Room := { frames := 3, cells := 0, slots := 0, locals := 73 }
set_option maxHeartbeats 4000000 in
set_option maxRecDepth 100000 in
theorem met_X3_learnLeaf (l : Launch) (dC : Nat → ClassId) (dI : Nat → Nat → Nat) (cI cZ cJ cL : ClassId) (ad ra : Nat → Nat) (sz : Nat) (post : Int32 → vTT → Prop) (nl : Nat) (nn : Nat) (S : vSH) (T : vTT) (x1 : Int32) (x2 : Int32) (x3 : Int32) (hw : wp_X3_learnLeaf post nl nn S T x1 x2 x3) : Met l yX3_learnLeaf wsX3_learnLeaf rm_X3_learnLeaf (pcW (dC, dI) (tysA cI cZ cJ cL) (wTT cI cZ cJ nl nn ad ra S T) sz [.ref (ad 0), .int x1, .int x2, .int x3]) (va_Qi post (fun u t => qB (dC, dI) (tysA cI cZ cJ cL) (va_A (wTT cI cZ cJ nl nn ad ra S T) sz) (wTT cI cZ cJ nl nn ad ra S u) t) (va_A (wTT cI cZ cJ nl nn ad ra S T) sz)) 0 0 (va_A (wTT cI cZ cJ nl nn ad ra S T) sz) := by
  refine Met.ofW (cc := cX3_learnLeaf) (maxL := 5) (ret := (some .boolean)) (by decide) rfl ?_
  intro p e s m args below meth c s₁ Bd hml hv
  obtain ⟨hargs, hsz, hP, hK, hD0⟩ := hv
  have hx := Bd.exec
  have hb := Bd.bytes
  have hr := Bd.returns
  have hts := atoms_spec (ws := wsX3_learnLeaf) Bd.pre
  have hT : ∀ w ∈ WALL, w.before args s = true := fun w h => hts w (List.mem_cons_of_mem _ h)
  have hown : s.vm.findClass RX3 = some m.cls := findClass_of_methodNamed Bd.named
  have hlocks := Bd.notSynchronized
  subst hsz
  have hD := hD0.self (sz := s.heap.size)
  generalize hAe : va_A (wTT cI cZ cJ nl nn ad ra S T) s.heap.size = A at hD ⊢
  have hA : ∀ q : Nat, s.heap.size ≤ q → A q := fun q h => by rw [← hAe]; exact Or.inr h
  have hS : va_S A s.heap s.heap [] := va_S.rf
  have hP : va_P (dC, dI) vwCl (wTT cI cZ cJ nl nn ad ra S T) s.heap := hP
  have hl := lv_entry ([.ref (ad 0), .int x1, .int x2, .int x3]) (n := 5) (Nat.le_of_ble_eq_true rfl)
  rw [show entryFrame m args 5 = F0 m 0 _ [] from by rw [hargs]; exact lg_entry_eq m ([.ref (ad 0), .int x1, .int x2, .int x3]) 5]
  generalize (lg_sl ([.ref (ad 0), .int x1, .int x2, .int x3]) ++ List.replicate (5 - (lg_sl ([.ref (ad 0), .int x1, .int x2, .int x3])).length) Slot.unset).toArray = ls at hl ⊢
  have hl : lv_has ls 5 [(0, .ref (ad 0)), (1, .int x1), (2, .int x2), (3, .int x3)] := hl
  obtain ⟨H, hH⟩ : ∃ z : Heap, z = s.heap := ⟨_, rfl⟩
  obtain ⟨locs, hlocs⟩ : ∃ z : List Loc, z = [] := ⟨_, rfl⟩
  rw [show W p l e (headSpec wsX3_learnLeaf rm_X3_learnLeaf).room s m args below meth c s.heap [] 0 0 = W p l e (headSpec wsX3_learnLeaf rm_X3_learnLeaf).room s m args below meth c H locs 0 0 from by rw [hH, hlocs]]
  have hP : va_P (dC, dI) vwCl (wTT cI cZ cJ nl nn ad ra S T) H := by rw [hH]; exact hP
  have hS : va_S A s.heap H locs := by rw [hH, hlocs]; exact hS
  unfold wp_X3_learnLeaf at hw
  refine lv_aload_n hx hb dX3_learnLeaf_0 rfl (lv_at hl 0 rfl) ?_
  refine lv_iload_n hx hb dX3_learnLeaf_1 rfl (lv_at hl 1 rfl) ?_
  refine lv_iload_n hx hb dX3_learnLeaf_2 rfl (lv_at hl 2 rfl) ?_
  refine lv_iload_n hx hb dX3_learnLeaf_3 rfl (lv_at hl 3 rfl) ?_
  refine lv_iconst (v := 0) hx hb dX3_learnLeaf_4 (by decide) ?_
  have hPc := hP
  have hDc := hD
  have hFc := va_free (wc := wTT cI cZ cJ nl nn ad ra S T) hD hS hA [0, 1, 2, 3, 4, 5, 6, 7, 8, 9, 10, 11, 12, 13, 14, 15, 16, 17, 18, 19] rfl
  refine va_calli (va_runV (As := [.int x1, .int x2, .int x3, .int 0]) (rest := []) ⟨hx, hb, hml, hown, hT⟩ (met_X3_takeBits l dC dI cI cZ cJ cL ad ra H.size _ nl nn S T x1 x2 x3 0 hw) (cwV 4 hT (gV k_96 k_98 k_99 k_57 k_97) rfl rfl rfl (by decide +kernel) ⟨(Nat.le_of_ble_eq_true rfl), (Nat.le_of_ble_eq_true rfl)⟩) ⟨bl_W, va_recv hK hPc (ci := 3) (q0 := 0) rfl rfl, fun U hU hW => ⟨rfl, by rw [hU], by rw [hU]; exact hPc, va_K.moved hW.alike hK, hDc.weaken (fun _ _ _ _ => trivial)⟩⟩ rfl rfl hl.1 rfl (lv_room (Nat.le_of_ble_eq_true rfl)) dX3_learnLeaf_5 ⟨Nat.le_of_ble_eq_true rfl, Nat.le_of_ble_eq_true rfl⟩) hS (fun q _ h => hFc q h) hFc (fun r_1 T_2 t H1 locs ht hvm hw hB hz1 hk1 hS => ?_)
  obtain ⟨hP1, -, hD1⟩ := hB
  try dsimp only at hw
  rw [ht] at hP1
  obtain ⟨hP, hD⟩ := va_join (wr := []) (w1 := wTT cI cZ cJ nl nn ad ra S T_2) hP hD [0, 1, 2, 3, 4, 5, 6, 7, 8, 9, 10, 11, 12, 13, 14, 15, 16, 17, 18, 19] [] rfl rfl (by decide) (by decide) hk1 hFc hP1 hD1
  generalize H1 = H at hP hS ⊢
  have hP := hP.sub (ws' := wTT cI cZ cJ nl nn ad ra S T_2) [0, 1, 2, 3, 4, 5, 6, 7, 8, 9, 10, 11, 12, 13, 14, 15, 16, 17, 18, 19] rfl
  have hD := hD.sub (ws' := wTT cI cZ cJ nl nn ad ra S T_2) [0, 1, 2, 3, 4, 5, 6, 7, 8, 9, 10, 11, 12, 13, 14, 15, 16, 17, 18, 19] (by decide) rfl
  refine lv_istore (lv' := [(4, .int r_1), (0, .ref (ad 0)), (1, .int x1), (2, .int x2), (3, .int x3)]) hx hb dX3_learnLeaf_8 hl (by decide) rfl (fun ls hl => ?_)
  refine lv_iload hx hb dX3_learnLeaf_10 (lv_at hl 0 rfl) ?_
  refine lv_bipush (v := (-2)) hx hb dX3_learnLeaf_12 (by decide) ?_
  refine lv_icmp_ne (tgt := 19) hx hb dX3_learnLeaf_14 (by decide) (fun c_3 => ?_) (fun c_3 => ?_)
  · have hw := hw.2 c_3
    refine lv_aload_n hx hb dX3_learnLeaf_19 rfl (lv_at hl 1 rfl) ?_
    refine lv_iload_n hx hb dX3_learnLeaf_20 rfl (lv_at hl 2 rfl) ?_
    refine lv_iload_n hx hb dX3_learnLeaf_21 rfl (lv_at hl 3 rfl) ?_
    refine lv_iload_n hx hb dX3_learnLeaf_22 rfl (lv_at hl 4 rfl) ?_
    refine lv_iconst (v := 1) hx hb dX3_learnLeaf_23 (by decide) ?_
    have hPc := hP
    have hDc := hD
    have hFc := va_free (wc := wTT cI cZ cJ nl nn ad ra S T_2) hD hS hA [0, 1, 2, 3, 4, 5, 6, 7, 8, 9, 10, 11, 12, 13, 14, 15, 16, 17, 18, 19] rfl
    refine va_calli (va_runV (As := [.int x1, .int x2, .int x3, .int 1]) (rest := []) ⟨hx, hb, hml, hown, hT⟩ (met_X3_takeBits l dC dI cI cZ cJ cL ad ra H.size _ nl nn S T_2 x1 x2 x3 1 hw) (cwV 4 hT (gV k_96 k_98 k_99 k_57 k_97) rfl rfl rfl (by decide +kernel) ⟨(Nat.le_of_ble_eq_true rfl), (Nat.le_of_ble_eq_true rfl)⟩) ⟨bl_W, va_recv hK hPc (ci := 3) (q0 := 0) rfl rfl, fun U hU hW => ⟨rfl, by rw [hU], by rw [hU]; exact hPc, va_K.moved hW.alike hK, hDc.weaken (fun _ _ _ _ => trivial)⟩⟩ rfl rfl hl.1 rfl (lv_room (Nat.le_of_ble_eq_true rfl)) dX3_learnLeaf_24 ⟨Nat.le_of_ble_eq_true rfl, Nat.le_of_ble_eq_true rfl⟩) hS (fun q _ h => hFc q h) hFc (fun r_4 T_5 t H1 locs ht hvm hw hB hz1 hk1 hS => ?_)
    obtain ⟨hP1, -, hD1⟩ := hB
    try dsimp only at hw
    rw [ht] at hP1
    obtain ⟨hP, hD⟩ := va_join (wr := []) (w1 := wTT cI cZ cJ nl nn ad ra S T_5) hP hD [0, 1, 2, 3, 4, 5, 6, 7, 8, 9, 10, 11, 12, 13, 14, 15, 16, 17, 18, 19] [] rfl rfl (by decide) (by decide) hk1 hFc hP1 hD1
    generalize H1 = H at hP hS ⊢
    have hP := hP.sub (ws' := wTT cI cZ cJ nl nn ad ra S T_5) [0, 1, 2, 3, 4, 5, 6, 7, 8, 9, 10, 11, 12, 13, 14, 15, 16, 17, 18, 19] rfl
    have hD := hD.sub (ws' := wTT cI cZ cJ nl nn ad ra S T_5) [0, 1, 2, 3, 4, 5, 6, 7, 8, 9, 10, 11, 12, 13, 14, 15, 16, 17, 18, 19] (by decide) rfl
    refine lv_pop hx hb dX3_learnLeaf_27 rfl ?_
    refine lv_aload_n hx hb dX3_learnLeaf_28 rfl (lv_at hl 1 rfl) ?_
    refine va_get (D := (dC, dI)) (ci := 3) (v := .ref (ad 18)) (C := RX3) (T := TX3) (N := 7) hx hb hT inX3 hown hK hP 0 rfl rfl 5 (by decide) (hT _ k_24) (fun _ h9 => h9) rfl dX3_learnLeaf_29 ?_
    refine lv_iload hx hb dX3_learnLeaf_32 (lv_at hl 0 rfl) ?_
    have hPc := hP.sub (ws' := wBR cI (ad 18) (ad 19) T_5.2.2.2.2.1) [18, 19] rfl
    have hDc := hD.sub (ws' := wBR cI (ad 18) (ad 19) T_5.2.2.2.2.1) [18, 19] (by decide) rfl
    have hFc := va_free (wc := wBR cI (ad 18) (ad 19) T_5.2.2.2.2.1) hD hS hA [18, 19] rfl
    refine va_callv (va_runV (As := [.int r_1]) (rest := []) ⟨hx, hb, hml, hown, hT⟩ (met_X0_drop l dC dI cI cZ cJ cL (ad 18) (ad 19) H.size _  T_5.2.2.2.2.1 r_1 hw) (cwV 1 hT (gV k_100 k_102 k_103 k_7 k_101) rfl rfl rfl (by decide +kernel) ⟨(Nat.le_of_ble_eq_true rfl), (Nat.le_of_ble_eq_true rfl)⟩) ⟨bl_W, va_recv hK hPc (ci := 0) (q0 := 0) rfl rfl, fun U hU hW => ⟨rfl, by rw [hU], by rw [hU]; exact hPc, va_K.moved hW.alike hK, hDc.weaken (fun _ _ _ _ => trivial)⟩⟩ rfl rfl hl.1 rfl (lv_room (Nat.le_of_ble_eq_true rfl)) dX3_learnLeaf_34 ⟨Nat.le_of_ble_eq_true rfl, Nat.le_of_ble_eq_true rfl⟩) hS (fun q _ h => hFc q h) hFc (fun B_6 t H1 locs ht hvm hw hB hz1 hk1 hS => ?_)
    obtain ⟨hP1, -, hD1⟩ := hB
    try dsimp only at hw
    rw [ht] at hP1
    obtain ⟨hP, hD⟩ := va_join (wr := [(ad 0, .inr (3, [.ref (ad 1), .ref (ad 9), .ref (ad 10), .ref (ad 13), .ref (ad 16), .ref (ad 18), .int T_5.2.2.2.2.2])), (ad 1, .inr (1, [.int S.1.1, .int S.1.2.1, .int S.1.2.2.1, .int S.1.2.2.2.1, .int S.1.2.2.2.2, .ref (ad 2), .ref (ad 3), .ref (ad 4), .ref (ad 5)])), (ad 2, .inl (cI, 6, .inl S.2.1.1)), (ad 3, .inl (cI, 6, .inl S.2.1.2.1)), (ad 4, .inl (cI, 6, .inl S.2.1.2.2)), (ad 5, .inl (cJ, 3, .inr (.inr (.inr (.inr (fun i => if i < 3 then some (ra i) else none)))))), (ra 0, .inl (cI, nl, .inl (S.2.2 0))), (ra 1, .inl (cI, nl, .inl (S.2.2 1))), (ra 2, .inl (cI, nl, .inl (S.2.2 2))), (ad 9, .inl (cI, nn, .inl T_5.1)), (ad 10, .inr (2, [.ref (ad 11), .ref (ad 12), .int T_5.2.1.2.2])), (ad 11, .inl (cI, nn, .inl T_5.2.1.1)), (ad 12, .inl (cZ, nn, .inl T_5.2.1.2.1)), (ad 13, .inr (2, [.ref (ad 14), .ref (ad 15), .int T_5.2.2.1.2.2])), (ad 14, .inl (cI, nn, .inl T_5.2.2.1.1)), (ad 15, .inl (cZ, nn, .inl T_5.2.2.1.2.1)), (ad 16, .inr (0, [.ref (ad 17), .int T_5.2.2.2.1.2.1, .int T_5.2.2.2.1.2.2])), (ad 17, .inl (cI, 1250, .inl T_5.2.2.2.1.1))]) (w1 := wBR cI (ad 18) (ad 19) B_6) hP hD [18, 19] [0, 1, 2, 3, 4, 5, 6, 7, 8, 9, 10, 11, 12, 13, 14, 15, 16, 17] rfl rfl (by decide) (by decide) hk1 hFc hP1 hD1
    generalize H1 = H at hP hS ⊢
    have hP := hP.sub (ws' := wTT cI cZ cJ nl nn ad ra S (T_5.1, T_5.2.1, T_5.2.2.1, T_5.2.2.2.1, B_6, T_5.2.2.2.2.2)) [0, 1, 2, 3, 4, 5, 6, 7, 8, 9, 10, 11, 12, 13, 14, 15, 16, 17, 18, 19] rfl
    have hD := hD.sub (ws' := wTT cI cZ cJ nl nn ad ra S (T_5.1, T_5.2.1, T_5.2.2.1, T_5.2.2.2.1, B_6, T_5.2.2.2.2.2)) [0, 1, 2, 3, 4, 5, 6, 7, 8, 9, 10, 11, 12, 13, 14, 15, 16, 17, 18, 19] (by decide) rfl
    refine lv_iconst (v := 1) hx hb dX3_learnLeaf_37 (by decide) ?_
    exact W.zret (v := 1) (ty := .boolean) hx hb hr rfl (fun t ht hW => ⟨⟨1, (T_5.1, T_5.2.1, T_5.2.2.1, T_5.2.2.2.1, B_6, T_5.2.2.2.2.2), rfl, hw, by rw [ht]; exact hP, va_K.moved hW.alike hK, hD⟩, hS.F ht⟩) hS.2.2 dX3_learnLeaf_38
  · have hw := hw.1 c_3
    refine lv_iconst (v := 0) hx hb dX3_learnLeaf_17 (by decide) ?_
    exact W.zret (v := 0) (ty := .boolean) hx hb hr rfl (fun t ht hW => ⟨⟨0, T_2, rfl, hw, by rw [ht]; exact hP, va_K.moved hW.alike hK, hD⟩, hS.F ht⟩) hS.2.2 dX3_learnLeaf_18
