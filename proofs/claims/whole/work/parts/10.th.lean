theorem k_104 : (Cond.classLink RX3 59 "java/lang/IllegalArgumentException") ∈ WALL := List.mem_filter.mpr ⟨List.mem_append_right _ (List.mem_of_getElem? (i := 248) (by decide +kernel)), by decide +kernel⟩
theorem k_105 : (Cond.initialized "java/lang/IllegalArgumentException") ∈ WALL := List.mem_filter.mpr ⟨List.mem_append_right _ (List.mem_of_getElem? (i := 10) (by decide +kernel)), by decide +kernel⟩
theorem k_106 : (Cond.classLink RX3 172 "java/lang/IllegalStateException") ∈ WALL := List.mem_filter.mpr ⟨List.mem_append_right _ (List.mem_of_getElem? (i := 268) (by decide +kernel)), by decide +kernel⟩
theorem k_107 : (Cond.initialized "java/lang/IllegalStateException") ∈ WALL := List.mem_filter.mpr ⟨List.mem_append_right _ (List.mem_of_getElem? (i := 11) (by decide +kernel)), by decide +kernel⟩
theorem k_108 : (Cond.constant RX3 177 40000) ∈ WALL := List.mem_filter.mpr ⟨List.mem_append_right _ (List.mem_of_getElem? (i := 341) (by decide +kernel)), by decide +kernel⟩
theorem k_109 : (Cond.classLink RX3 178 "java/lang/UnsupportedOperationException") ∈ WALL := List.mem_filter.mpr ⟨List.mem_append_right _ (List.mem_of_getElem? (i := 342) (by decide +kernel)), by decide +kernel⟩
theorem k_110 : (Cond.initialized "java/lang/UnsupportedOperationException") ∈ WALL := List.mem_filter.mpr ⟨List.mem_append_right _ (List.mem_of_getElem? (i := 13) (by decide +kernel)), by decide +kernel⟩
theorem k_111 : (Cond.methodLink RX3 100 yX3_checkOrder) ∈ WALL := List.mem_filter.mpr ⟨List.mem_append_right _ (List.mem_of_getElem? (i := 393) (by decide +kernel)), by decide +kernel⟩
theorem k_112 : (Cond.code yX3_checkOrder cX3_checkOrder 1 none) ∈ WALL := List.mem_filter.mpr ⟨List.mem_append_right _ (List.mem_of_getElem? (i := 395) (by decide +kernel)), by decide +kernel⟩
theorem k_113 : (Cond.static yX3_checkOrder) ∈ WALL := List.mem_filter.mpr ⟨List.mem_append_right _ (List.mem_of_getElem? (i := 394) (by decide +kernel)), by decide +kernel⟩
theorem k_114 : (Cond.classLink RX3 119 "java/lang/IndexOutOfBoundsException") ∈ WALL := List.mem_filter.mpr ⟨List.mem_append_right _ (List.mem_of_getElem? (i := 179) (by decide +kernel)), by decide +kernel⟩
theorem k_115 : (Cond.initialized "java/lang/IndexOutOfBoundsException") ∈ WALL := List.mem_filter.mpr ⟨List.mem_append_right _ (List.mem_of_getElem? (i := 9) (by decide +kernel)), by decide +kernel⟩
theorem k_116 : (Cond.fieldLink RX3 78 "TagTrees$Shape" "leaves" "I") ∈ WALL := List.mem_filter.mpr ⟨List.mem_append_right _ (List.mem_of_getElem? (i := 52) (by decide +kernel)), by decide +kernel⟩
theorem k_117 : (Cond.methodLink RX3 110 yX1_leafX) ∈ WALL := List.mem_filter.mpr ⟨List.mem_append_right _ (List.mem_of_getElem? (i := 401) (by decide +kernel)), by decide +kernel⟩
theorem k_118 : (Cond.code yX1_leafX cX1_leafX 3 (some .int)) ∈ WALL := List.mem_filter.mpr ⟨List.mem_append_right _ (List.mem_of_getElem? (i := 404) (by decide +kernel)), by decide +kernel⟩
theorem k_119 : (Cond.instanceMethod yX1_leafX) ∈ WALL := List.mem_filter.mpr ⟨List.mem_append_right _ (List.mem_of_getElem? (i := 402) (by decide +kernel)), by decide +kernel⟩
theorem k_120 : (Cond.selects RX1 yX1_leafX yX1_leafX) ∈ WALL := List.mem_filter.mpr ⟨List.mem_append_right _ (List.mem_of_getElem? (i := 403) (by decide +kernel)), by decide +kernel⟩
theorem k_121 : (Cond.methodLink RX3 113 yX1_leafY) ∈ WALL := List.mem_filter.mpr ⟨List.mem_append_right _ (List.mem_of_getElem? (i := 405) (by decide +kernel)), by decide +kernel⟩
theorem k_122 : (Cond.code yX1_leafY cX1_leafY 3 (some .int)) ∈ WALL := List.mem_filter.mpr ⟨List.mem_append_right _ (List.mem_of_getElem? (i := 408) (by decide +kernel)), by decide +kernel⟩
theorem k_123 : (Cond.instanceMethod yX1_leafY) ∈ WALL := List.mem_filter.mpr ⟨List.mem_append_right _ (List.mem_of_getElem? (i := 406) (by decide +kernel)), by decide +kernel⟩
theorem k_124 : (Cond.selects RX1 yX1_leafY yX1_leafY) ∈ WALL := List.mem_filter.mpr ⟨List.mem_append_right _ (List.mem_of_getElem? (i := 407) (by decide +kernel)), by decide +kernel⟩
theorem k_125 : (Cond.methodLink RX3 93 yX3_checkRoom) ∈ WALL := List.mem_filter.mpr ⟨List.mem_append_right _ (List.mem_of_getElem? (i := 338) (by decide +kernel)), by decide +kernel⟩
theorem k_126 : (Cond.code yX3_checkRoom cX3_checkRoom 2 none) ∈ WALL := List.mem_filter.mpr ⟨List.mem_append_right _ (List.mem_of_getElem? (i := 340) (by decide +kernel)), by decide +kernel⟩
theorem k_127 : (Cond.static yX3_checkRoom) ∈ WALL := List.mem_filter.mpr ⟨List.mem_append_right _ (List.mem_of_getElem? (i := 339) (by decide +kernel)), by decide +kernel⟩
theorem k_128 : (Cond.methodLink RX3 55 yX3_checkNode) ∈ WALL := List.mem_filter.mpr ⟨List.mem_append_right _ (List.mem_of_getElem? (i := 171) (by decide +kernel)), by decide +kernel⟩
theorem k_129 : (Cond.code yX3_checkNode cX3_checkNode 4 none) ∈ WALL := List.mem_filter.mpr ⟨List.mem_append_right _ (List.mem_of_getElem? (i := 174) (by decide +kernel)), by decide +kernel⟩
theorem k_130 : (Cond.instanceMethod yX3_checkNode) ∈ WALL := List.mem_filter.mpr ⟨List.mem_append_right _ (List.mem_of_getElem? (i := 173) (by decide +kernel)), by decide +kernel⟩
theorem k_131 : (Cond.selects RX3 yX3_checkNode yX3_checkNode) ∈ WALL := List.mem_filter.mpr ⟨List.mem_append_left _ (List.mem_of_getElem? (i := 2) (by decide +kernel)), by decide +kernel⟩
theorem k_132 : (Cond.methodLink RX3 66 yX3_checkNothingTold) ∈ WALL := List.mem_filter.mpr ⟨List.mem_append_right _ (List.mem_of_getElem? (i := 264) (by decide +kernel)), by decide +kernel⟩
theorem k_133 : (Cond.code yX3_checkNothingTold cX3_checkNothingTold 1 none) ∈ WALL := List.mem_filter.mpr ⟨List.mem_append_right _ (List.mem_of_getElem? (i := 267) (by decide +kernel)), by decide +kernel⟩
theorem k_134 : (Cond.instanceMethod yX3_checkNothingTold) ∈ WALL := List.mem_filter.mpr ⟨List.mem_append_right _ (List.mem_of_getElem? (i := 266) (by decide +kernel)), by decide +kernel⟩
theorem k_135 : (Cond.selects RX3 yX3_checkNothingTold yX3_checkNothingTold) ∈ WALL := List.mem_filter.mpr ⟨List.mem_append_left _ (List.mem_of_getElem? (i := 4) (by decide +kernel)), by decide +kernel⟩
theorem k_136 : (Cond.methodLink RX3 73 yX3_renewLeasts) ∈ WALL := List.mem_filter.mpr ⟨List.mem_append_right _ (List.mem_of_getElem? (i := 288) (by decide +kernel)), by decide +kernel⟩
theorem k_137 : (Cond.code yX3_renewLeasts cX3_renewLeasts 4 none) ∈ WALL := List.mem_filter.mpr ⟨List.mem_append_right _ (List.mem_of_getElem? (i := 291) (by decide +kernel)), by decide +kernel⟩
theorem k_138 : (Cond.instanceMethod yX3_renewLeasts) ∈ WALL := List.mem_filter.mpr ⟨List.mem_append_right _ (List.mem_of_getElem? (i := 290) (by decide +kernel)), by decide +kernel⟩
theorem k_139 : (Cond.selects RX3 yX3_renewLeasts yX3_renewLeasts) ∈ WALL := List.mem_filter.mpr ⟨List.mem_append_left _ (List.mem_of_getElem? (i := 5) (by decide +kernel)), by decide +kernel⟩
theorem k_140 : (Cond.methodLink RX3 11 yX3_nearest) ∈ WALL := List.mem_filter.mpr ⟨List.mem_append_right _ (List.mem_of_getElem? (i := 24) (by decide +kernel)), by decide +kernel⟩
theorem k_141 : (Cond.code yX3_nearest cX3_nearest 4 (some .int)) ∈ WALL := List.mem_filter.mpr ⟨List.mem_append_right _ (List.mem_of_getElem? (i := 26) (by decide +kernel)), by decide +kernel⟩
theorem k_142 : (Cond.static yX3_nearest) ∈ WALL := List.mem_filter.mpr ⟨List.mem_append_right _ (List.mem_of_getElem? (i := 25) (by decide +kernel)), by decide +kernel⟩
theorem k_143 : (Cond.methodLink RX3 87 yX3_checkThreshold) ∈ WALL := List.mem_filter.mpr ⟨List.mem_append_right _ (List.mem_of_getElem? (i := 315) (by decide +kernel)), by decide +kernel⟩
theorem k_144 : (Cond.code yX3_checkThreshold cX3_checkThreshold 1 none) ∈ WALL := List.mem_filter.mpr ⟨List.mem_append_right _ (List.mem_of_getElem? (i := 317) (by decide +kernel)), by decide +kernel⟩
theorem k_145 : (Cond.static yX3_checkThreshold) ∈ WALL := List.mem_filter.mpr ⟨List.mem_append_right _ (List.mem_of_getElem? (i := 316) (by decide +kernel)), by decide +kernel⟩
theorem k_146 : (Cond.methodLink RX3 90 yX3_costOfLeaf) ∈ WALL := List.mem_filter.mpr ⟨List.mem_append_right _ (List.mem_of_getElem? (i := 319) (by decide +kernel)), by decide +kernel⟩
theorem k_147 : (Cond.code yX3_costOfLeaf cX3_costOfLeaf 9 (some .int)) ∈ WALL := List.mem_filter.mpr ⟨List.mem_append_right _ (List.mem_of_getElem? (i := 322) (by decide +kernel)), by decide +kernel⟩
theorem k_148 : (Cond.instanceMethod yX3_costOfLeaf) ∈ WALL := List.mem_filter.mpr ⟨List.mem_append_right _ (List.mem_of_getElem? (i := 321) (by decide +kernel)), by decide +kernel⟩
theorem k_149 : (Cond.selects RX3 yX3_costOfLeaf yX3_costOfLeaf) ∈ WALL := List.mem_filter.mpr ⟨List.mem_append_left _ (List.mem_of_getElem? (i := 7) (by decide +kernel)), by decide +kernel⟩
theorem k_150 : (Cond.methodLink RX3 97 yX3_tellLeaf) ∈ WALL := List.mem_filter.mpr ⟨List.mem_append_right _ (List.mem_of_getElem? (i := 358) (by decide +kernel)), by decide +kernel⟩
theorem k_151 : (Cond.code yX3_tellLeaf cX3_tellLeaf 7 none) ∈ WALL := List.mem_filter.mpr ⟨List.mem_append_right _ (List.mem_of_getElem? (i := 361) (by decide +kernel)), by decide +kernel⟩
theorem k_152 : (Cond.instanceMethod yX3_tellLeaf) ∈ WALL := List.mem_filter.mpr ⟨List.mem_append_right _ (List.mem_of_getElem? (i := 360) (by decide +kernel)), by decide +kernel⟩
theorem k_153 : (Cond.selects RX3 yX3_tellLeaf yX3_tellLeaf) ∈ WALL := List.mem_filter.mpr ⟨List.mem_append_left _ (List.mem_of_getElem? (i := 11) (by decide +kernel)), by decide +kernel⟩
theorem k_154 : (Cond.methodLink RX3 135 yX3_learnLeaf) ∈ WALL := List.mem_filter.mpr ⟨List.mem_append_right _ (List.mem_of_getElem? (i := 444) (by decide +kernel)), by decide +kernel⟩
theorem k_155 : (Cond.code yX3_learnLeaf cX3_learnLeaf 5 (some .boolean)) ∈ WALL := List.mem_filter.mpr ⟨List.mem_append_right _ (List.mem_of_getElem? (i := 447) (by decide +kernel)), by decide +kernel⟩
theorem k_156 : (Cond.instanceMethod yX3_learnLeaf) ∈ WALL := List.mem_filter.mpr ⟨List.mem_append_right _ (List.mem_of_getElem? (i := 446) (by decide +kernel)), by decide +kernel⟩
theorem k_157 : (Cond.selects RX3 yX3_learnLeaf yX3_learnLeaf) ∈ WALL := List.mem_filter.mpr ⟨List.mem_append_left _ (List.mem_of_getElem? (i := 15) (by decide +kernel)), by decide +kernel⟩
theorem dX3_checkThreshold_0 : decode cX3_checkThreshold 0 = .ok (.iload_n 0, 1) := by decide +kernel
theorem dX3_checkThreshold_1 : decode cX3_checkThreshold 1 = .ok (.ifCond .lt 10, 3) := by decide +kernel
theorem dX3_checkThreshold_4 : decode cX3_checkThreshold 4 = .ok (.iload_n 0, 1) := by decide +kernel
theorem dX3_checkThreshold_5 : decode cX3_checkThreshold 5 = .ok (.sipush 1001, 3) := by decide +kernel
theorem dX3_checkThreshold_8 : decode cX3_checkThreshold 8 = .ok (.if_icmp .le 13, 3) := by decide +kernel
theorem dX3_checkThreshold_11 : decode cX3_checkThreshold 11 = .ok (.new 59, 3) := by decide +kernel
theorem dX3_checkThreshold_14 : decode cX3_checkThreshold 14 = .ok (.dup, 1) := by decide +kernel
theorem dX3_checkThreshold_15 : decode cX3_checkThreshold 15 = .ok (.ldc 168, 2) := by decide +kernel
theorem dX3_checkThreshold_17 : decode cX3_checkThreshold 17 = .ok (.invokespecial 63, 3) := by decide +kernel
theorem dX3_checkThreshold_20 : decode cX3_checkThreshold 20 = .ok (.athrow, 1) := by decide +kernel
theorem dX3_checkThreshold_21 : decode cX3_checkThreshold 21 = .ok (.return_, 1) := by decide +kernel
theorem dX3_checkOrder_0 : decode cX3_checkOrder 0 = .ok (.iload_n 0, 1) := by decide +kernel
theorem dX3_checkOrder_1 : decode cX3_checkOrder 1 = .ok (.ifCond .lt 8, 3) := by decide +kernel
theorem dX3_checkOrder_4 : decode cX3_checkOrder 4 = .ok (.iload_n 0, 1) := by decide +kernel
theorem dX3_checkOrder_5 : decode cX3_checkOrder 5 = .ok (.iconst 3, 1) := by decide +kernel
theorem dX3_checkOrder_6 : decode cX3_checkOrder 6 = .ok (.if_icmp .lt 13, 3) := by decide +kernel
theorem dX3_checkOrder_9 : decode cX3_checkOrder 9 = .ok (.new 59, 3) := by decide +kernel
theorem dX3_checkOrder_12 : decode cX3_checkOrder 12 = .ok (.dup, 1) := by decide +kernel
theorem dX3_checkOrder_13 : decode cX3_checkOrder 13 = .ok (.ldc 170, 2) := by decide +kernel
theorem dX3_checkOrder_15 : decode cX3_checkOrder 15 = .ok (.invokespecial 63, 3) := by decide +kernel
theorem dX3_checkOrder_18 : decode cX3_checkOrder 18 = .ok (.athrow, 1) := by decide +kernel
theorem dX3_checkOrder_19 : decode cX3_checkOrder 19 = .ok (.return_, 1) := by decide +kernel
theorem dX3_checkNothingTold_0 : decode cX3_checkNothingTold 0 = .ok (.aload_n 0, 1) := by decide +kernel
theorem dX3_checkNothingTold_1 : decode cX3_checkNothingTold 1 = .ok (.getfield 45, 3) := by decide +kernel
theorem dX3_checkNothingTold_4 : decode cX3_checkNothingTold 4 = .ok (.getfield 116, 3) := by decide +kernel
theorem dX3_checkNothingTold_7 : decode cX3_checkNothingTold 7 = .ok (.ifCond .le 13, 3) := by decide +kernel
theorem dX3_checkNothingTold_10 : decode cX3_checkNothingTold 10 = .ok (.new 172, 3) := by decide +kernel
theorem dX3_checkNothingTold_13 : decode cX3_checkNothingTold 13 = .ok (.dup, 1) := by decide +kernel
theorem dX3_checkNothingTold_14 : decode cX3_checkNothingTold 14 = .ok (.ldc 174, 2) := by decide +kernel
theorem dX3_checkNothingTold_16 : decode cX3_checkNothingTold 16 = .ok (.invokespecial 176, 3) := by decide +kernel
theorem dX3_checkNothingTold_19 : decode cX3_checkNothingTold 19 = .ok (.athrow, 1) := by decide +kernel
theorem dX3_checkNothingTold_20 : decode cX3_checkNothingTold 20 = .ok (.return_, 1) := by decide +kernel
theorem dX3_checkRoom_0 : decode cX3_checkRoom 0 = .ok (.iload_n 1, 1) := by decide +kernel
theorem dX3_checkRoom_1 : decode cX3_checkRoom 1 = .ok (.ldc 177, 2) := by decide +kernel
theorem dX3_checkRoom_3 : decode cX3_checkRoom 3 = .ok (.aload_n 0, 1) := by decide +kernel
theorem dX3_checkRoom_4 : decode cX3_checkRoom 4 = .ok (.getfield 116, 3) := by decide +kernel
theorem dX3_checkRoom_7 : decode cX3_checkRoom 7 = .ok (.isub, 1) := by decide +kernel
theorem dX3_checkRoom_8 : decode cX3_checkRoom 8 = .ok (.if_icmp .le 13, 3) := by decide +kernel
theorem dX3_checkRoom_11 : decode cX3_checkRoom 11 = .ok (.new 178, 3) := by decide +kernel
theorem dX3_checkRoom_14 : decode cX3_checkRoom 14 = .ok (.dup, 1) := by decide +kernel
theorem dX3_checkRoom_15 : decode cX3_checkRoom 15 = .ok (.ldc 180, 2) := by decide +kernel
theorem dX3_checkRoom_17 : decode cX3_checkRoom 17 = .ok (.invokespecial 182, 3) := by decide +kernel
theorem dX3_checkRoom_20 : decode cX3_checkRoom 20 = .ok (.athrow, 1) := by decide +kernel
theorem dX3_checkRoom_21 : decode cX3_checkRoom 21 = .ok (.return_, 1) := by decide +kernel
theorem dX3_leaf_0 : decode cX3_leaf 0 = .ok (.iload_n 1, 1) := by decide +kernel
theorem dX3_leaf_1 : decode cX3_leaf 1 = .ok (.invokestatic 100, 3) := by decide +kernel
theorem dX3_leaf_4 : decode cX3_leaf 4 = .ok (.iload_n 2, 1) := by decide +kernel
theorem dX3_leaf_5 : decode cX3_leaf 5 = .ok (.ifCond .lt 14, 3) := by decide +kernel
theorem dX3_leaf_8 : decode cX3_leaf 8 = .ok (.iload_n 2, 1) := by decide +kernel
theorem dX3_leaf_9 : decode cX3_leaf 9 = .ok (.aload_n 0, 1) := by decide +kernel
theorem dX3_leaf_10 : decode cX3_leaf 10 = .ok (.getfield 18, 3) := by decide +kernel
theorem dX3_leaf_13 : decode cX3_leaf 13 = .ok (.getfield 78, 3) := by decide +kernel
theorem dX3_leaf_16 : decode cX3_leaf 16 = .ok (.if_icmp .lt 13, 3) := by decide +kernel
theorem dX3_leaf_19 : decode cX3_leaf 19 = .ok (.new 119, 3) := by decide +kernel
theorem dX3_leaf_22 : decode cX3_leaf 22 = .ok (.dup, 1) := by decide +kernel
theorem dX3_leaf_23 : decode cX3_leaf 23 = .ok (.ldc 146, 2) := by decide +kernel
theorem dX3_leaf_25 : decode cX3_leaf 25 = .ok (.invokespecial 123, 3) := by decide +kernel
theorem dX3_leaf_28 : decode cX3_leaf 28 = .ok (.athrow, 1) := by decide +kernel
theorem dX3_leaf_29 : decode cX3_leaf 29 = .ok (.aload_n 0, 1) := by decide +kernel
theorem dX3_leaf_30 : decode cX3_leaf 30 = .ok (.getfield 18, 3) := by decide +kernel
theorem dX3_leaf_33 : decode cX3_leaf 33 = .ok (.iconst 0, 1) := by decide +kernel
theorem dX3_leaf_34 : decode cX3_leaf 34 = .ok (.aload_n 0, 1) := by decide +kernel
theorem dX3_leaf_35 : decode cX3_leaf 35 = .ok (.getfield 18, 3) := by decide +kernel
theorem dX3_leaf_38 : decode cX3_leaf 38 = .ok (.iload_n 1, 1) := by decide +kernel
theorem dX3_leaf_39 : decode cX3_leaf 39 = .ok (.iload_n 2, 1) := by decide +kernel
theorem dX3_leaf_40 : decode cX3_leaf 40 = .ok (.invokevirtual 110, 3) := by decide +kernel
theorem dX3_leaf_43 : decode cX3_leaf 43 = .ok (.aload_n 0, 1) := by decide +kernel
theorem dX3_leaf_44 : decode cX3_leaf 44 = .ok (.getfield 18, 3) := by decide +kernel
theorem dX3_leaf_47 : decode cX3_leaf 47 = .ok (.iload_n 1, 1) := by decide +kernel
theorem dX3_leaf_48 : decode cX3_leaf 48 = .ok (.iload_n 2, 1) := by decide +kernel
theorem dX3_leaf_49 : decode cX3_leaf 49 = .ok (.invokevirtual 113, 3) := by decide +kernel
theorem dX3_leaf_52 : decode cX3_leaf 52 = .ok (.invokevirtual 69, 3) := by decide +kernel
theorem dX3_leaf_55 : decode cX3_leaf 55 = .ok (.ireturn, 1) := by decide +kernel
theorem dX3_checkNode_0 : decode cX3_checkNode 0 = .ok (.aload_n 0, 1) := by decide +kernel
theorem dX3_checkNode_1 : decode cX3_checkNode 1 = .ok (.getfield 18, 3) := by decide +kernel
theorem dX3_checkNode_4 : decode cX3_checkNode 4 = .ok (.iload_n 1, 1) := by decide +kernel
theorem dX3_checkNode_5 : decode cX3_checkNode 5 = .ok (.iload_n 2, 1) := by decide +kernel
theorem dX3_checkNode_6 : decode cX3_checkNode 6 = .ok (.iload_n 3, 1) := by decide +kernel
theorem dX3_checkNode_7 : decode cX3_checkNode 7 = .ok (.invokevirtual 163, 3) := by decide +kernel
theorem dX3_checkNode_10 : decode cX3_checkNode 10 = .ok (.ifCond .ne 13, 3) := by decide +kernel
theorem dX3_checkNode_13 : decode cX3_checkNode 13 = .ok (.new 119, 3) := by decide +kernel
theorem dX3_checkNode_16 : decode cX3_checkNode 16 = .ok (.dup, 1) := by decide +kernel
theorem dX3_checkNode_17 : decode cX3_checkNode 17 = .ok (.ldc 166, 2) := by decide +kernel
theorem dX3_checkNode_19 : decode cX3_checkNode 19 = .ok (.invokespecial 123, 3) := by decide +kernel
theorem dX3_checkNode_22 : decode cX3_checkNode 22 = .ok (.athrow, 1) := by decide +kernel
theorem dX3_checkNode_23 : decode cX3_checkNode 23 = .ok (.return_, 1) := by decide +kernel
theorem dX3_bitAt_0 : decode cX3_bitAt 0 = .ok (.iload_n 1, 1) := by decide +kernel
theorem dX3_bitAt_1 : decode cX3_bitAt 1 = .ok (.ifCond .lt 14, 3) := by decide +kernel
theorem dX3_bitAt_4 : decode cX3_bitAt 4 = .ok (.iload_n 1, 1) := by decide +kernel
theorem dX3_bitAt_5 : decode cX3_bitAt 5 = .ok (.aload_n 0, 1) := by decide +kernel
theorem dX3_bitAt_6 : decode cX3_bitAt 6 = .ok (.getfield 45, 3) := by decide +kernel
theorem dX3_bitAt_9 : decode cX3_bitAt 9 = .ok (.getfield 116, 3) := by decide +kernel
theorem dX3_bitAt_12 : decode cX3_bitAt 12 = .ok (.if_icmp .lt 13, 3) := by decide +kernel
theorem dX3_bitAt_15 : decode cX3_bitAt 15 = .ok (.new 119, 3) := by decide +kernel
theorem dX3_bitAt_18 : decode cX3_bitAt 18 = .ok (.dup, 1) := by decide +kernel
theorem dX3_bitAt_19 : decode cX3_bitAt 19 = .ok (.ldc 121, 2) := by decide +kernel
theorem dX3_bitAt_21 : decode cX3_bitAt 21 = .ok (.invokespecial 123, 3) := by decide +kernel
theorem dX3_bitAt_24 : decode cX3_bitAt 24 = .ok (.athrow, 1) := by decide +kernel
theorem dX3_bitAt_25 : decode cX3_bitAt 25 = .ok (.aload_n 0, 1) := by decide +kernel
theorem dX3_bitAt_26 : decode cX3_bitAt 26 = .ok (.getfield 45, 3) := by decide +kernel
theorem dX3_bitAt_29 : decode cX3_bitAt 29 = .ok (.iload_n 1, 1) := by decide +kernel
theorem dX3_bitAt_30 : decode cX3_bitAt 30 = .ok (.invokevirtual 124, 3) := by decide +kernel
theorem dX3_bitAt_33 : decode cX3_bitAt 33 = .ok (.ireturn, 1) := by decide +kernel
theorem dX3_feed_0 : decode cX3_feed 0 = .ok (.iload_n 1, 1) := by decide +kernel
theorem dX3_feed_1 : decode cX3_feed 1 = .ok (.ifCond .eq 18, 3) := by decide +kernel
theorem dX3_feed_4 : decode cX3_feed 4 = .ok (.iload_n 1, 1) := by decide +kernel
theorem dX3_feed_5 : decode cX3_feed 5 = .ok (.iconst 1, 1) := by decide +kernel
theorem dX3_feed_6 : decode cX3_feed 6 = .ok (.if_icmp .eq 13, 3) := by decide +kernel
theorem dX3_feed_9 : decode cX3_feed 9 = .ok (.new 59, 3) := by decide +kernel
theorem dX3_feed_12 : decode cX3_feed 12 = .ok (.dup, 1) := by decide +kernel
theorem dX3_feed_13 : decode cX3_feed 13 = .ok (.ldc 128, 2) := by decide +kernel
theorem dX3_feed_15 : decode cX3_feed 15 = .ok (.invokespecial 63, 3) := by decide +kernel
theorem dX3_feed_18 : decode cX3_feed 18 = .ok (.athrow, 1) := by decide +kernel
theorem dX3_feed_19 : decode cX3_feed 19 = .ok (.aload_n 0, 1) := by decide +kernel
theorem dX3_feed_20 : decode cX3_feed 20 = .ok (.getfield 49, 3) := by decide +kernel
theorem dX3_feed_23 : decode cX3_feed 23 = .ok (.iconst 1, 1) := by decide +kernel
theorem dX3_feed_24 : decode cX3_feed 24 = .ok (.invokestatic 93, 3) := by decide +kernel
theorem dX3_feed_27 : decode cX3_feed 27 = .ok (.aload_n 0, 1) := by decide +kernel
theorem dX3_feed_28 : decode cX3_feed 28 = .ok (.getfield 49, 3) := by decide +kernel
theorem dX3_feed_31 : decode cX3_feed 31 = .ok (.iload_n 1, 1) := by decide +kernel
theorem dX3_feed_32 : decode cX3_feed 32 = .ok (.invokevirtual 130, 3) := by decide +kernel
theorem dX3_feed_35 : decode cX3_feed 35 = .ok (.aload_n 0, 1) := by decide +kernel
theorem dX3_feed_36 : decode cX3_feed 36 = .ok (.getfield 49, 3) := by decide +kernel
theorem dX3_feed_39 : decode cX3_feed 39 = .ok (.getfield 116, 3) := by decide +kernel
theorem dX3_feed_42 : decode cX3_feed 42 = .ok (.ireturn, 1) := by decide +kernel
theorem dX3_pass_0 : decode cX3_pass 0 = .ok (.iload_n 1, 1) := by decide +kernel
theorem dX3_pass_1 : decode cX3_pass 1 = .ok (.ifCond .ge 13, 3) := by decide +kernel
theorem dX3_pass_4 : decode cX3_pass 4 = .ok (.new 59, 3) := by decide +kernel
theorem dX3_pass_7 : decode cX3_pass 7 = .ok (.dup, 1) := by decide +kernel
theorem dX3_pass_8 : decode cX3_pass 8 = .ok (.ldc 133, 2) := by decide +kernel
theorem dX3_pass_10 : decode cX3_pass 10 = .ok (.invokespecial 63, 3) := by decide +kernel
theorem dX3_pass_13 : decode cX3_pass 13 = .ok (.athrow, 1) := by decide +kernel
theorem dX3_pass_14 : decode cX3_pass 14 = .ok (.iload_n 1, 1) := by decide +kernel
theorem dX3_pass_15 : decode cX3_pass 15 = .ok (.aload_n 0, 1) := by decide +kernel
theorem dX3_pass_16 : decode cX3_pass 16 = .ok (.getfield 45, 3) := by decide +kernel
theorem dX3_pass_19 : decode cX3_pass 19 = .ok (.getfield 116, 3) := by decide +kernel
theorem dX3_pass_22 : decode cX3_pass 22 = .ok (.aload_n 0, 1) := by decide +kernel
theorem dX3_pass_23 : decode cX3_pass 23 = .ok (.getfield 52, 3) := by decide +kernel
theorem dX3_pass_26 : decode cX3_pass 26 = .ok (.isub, 1) := by decide +kernel
theorem dX3_pass_27 : decode cX3_pass 27 = .ok (.invokestatic 81, 3) := by decide +kernel
theorem dX3_pass_30 : decode cX3_pass 30 = .ok (.istore_n 2, 1) := by decide +kernel
theorem dX3_pass_31 : decode cX3_pass 31 = .ok (.aload_n 0, 1) := by decide +kernel
theorem dX3_pass_32 : decode cX3_pass 32 = .ok (.getfield 49, 3) := by decide +kernel
theorem dX3_pass_35 : decode cX3_pass 35 = .ok (.iload_n 2, 1) := by decide +kernel
theorem dX3_pass_36 : decode cX3_pass 36 = .ok (.invokestatic 93, 3) := by decide +kernel
theorem dX3_pass_39 : decode cX3_pass 39 = .ok (.iconst 0, 1) := by decide +kernel
theorem dX3_pass_40 : decode cX3_pass 40 = .ok (.istore_n 3, 1) := by decide +kernel
theorem dX3_pass_41 : decode cX3_pass 41 = .ok (.iload_n 3, 1) := by decide +kernel
theorem dX3_pass_42 : decode cX3_pass 42 = .ok (.iload_n 2, 1) := by decide +kernel
theorem dX3_pass_43 : decode cX3_pass 43 = .ok (.if_icmp .ge 29, 3) := by decide +kernel
theorem dX3_pass_46 : decode cX3_pass 46 = .ok (.aload_n 0, 1) := by decide +kernel
theorem dX3_pass_47 : decode cX3_pass 47 = .ok (.getfield 49, 3) := by decide +kernel
theorem dX3_pass_50 : decode cX3_pass 50 = .ok (.aload_n 0, 1) := by decide +kernel
theorem dX3_pass_51 : decode cX3_pass 51 = .ok (.getfield 45, 3) := by decide +kernel
theorem dX3_pass_54 : decode cX3_pass 54 = .ok (.aload_n 0, 1) := by decide +kernel
theorem dX3_pass_55 : decode cX3_pass 55 = .ok (.getfield 52, 3) := by decide +kernel
theorem dX3_pass_58 : decode cX3_pass 58 = .ok (.iload_n 3, 1) := by decide +kernel
theorem dX3_pass_59 : decode cX3_pass 59 = .ok (.iadd, 1) := by decide +kernel
theorem dX3_pass_60 : decode cX3_pass 60 = .ok (.invokevirtual 124, 3) := by decide +kernel
theorem dX3_pass_63 : decode cX3_pass 63 = .ok (.invokevirtual 130, 3) := by decide +kernel
theorem dX3_pass_66 : decode cX3_pass 66 = .ok (.iinc 3 1, 3) := by decide +kernel
theorem dX3_pass_69 : decode cX3_pass 69 = .ok (.goto (-28), 3) := by decide +kernel
theorem dX3_pass_72 : decode cX3_pass 72 = .ok (.aload_n 0, 1) := by decide +kernel
theorem dX3_pass_73 : decode cX3_pass 73 = .ok (.dup, 1) := by decide +kernel
theorem dX3_pass_74 : decode cX3_pass 74 = .ok (.getfield 52, 3) := by decide +kernel
theorem dX3_pass_77 : decode cX3_pass 77 = .ok (.iload_n 2, 1) := by decide +kernel
theorem dX3_pass_78 : decode cX3_pass 78 = .ok (.iadd, 1) := by decide +kernel
theorem dX3_pass_79 : decode cX3_pass 79 = .ok (.putfield 52, 3) := by decide +kernel
theorem dX3_pass_82 : decode cX3_pass 82 = .ok (.iload_n 2, 1) := by decide +kernel
theorem dX3_pass_83 : decode cX3_pass 83 = .ok (.ireturn, 1) := by decide +kernel
theorem dX3_known_0 : decode cX3_known 0 = .ok (.aload_n 0, 1) := by decide +kernel
theorem dX3_known_1 : decode cX3_known 1 = .ok (.iconst 0, 1) := by decide +kernel
theorem dX3_known_2 : decode cX3_known 2 = .ok (.iload_n 1, 1) := by decide +kernel
theorem dX3_known_3 : decode cX3_known 3 = .ok (.iload_n 2, 1) := by decide +kernel
theorem dX3_known_4 : decode cX3_known 4 = .ok (.invokevirtual 55, 3) := by decide +kernel
theorem dX3_known_7 : decode cX3_known 7 = .ok (.aload_n 0, 1) := by decide +kernel
theorem dX3_known_8 : decode cX3_known 8 = .ok (.getfield 18, 3) := by decide +kernel
theorem dX3_known_11 : decode cX3_known 11 = .ok (.iconst 0, 1) := by decide +kernel
theorem dX3_known_12 : decode cX3_known 12 = .ok (.iload_n 1, 1) := by decide +kernel
theorem dX3_known_13 : decode cX3_known 13 = .ok (.iload_n 2, 1) := by decide +kernel
theorem dX3_known_14 : decode cX3_known 14 = .ok (.invokevirtual 69, 3) := by decide +kernel
theorem dX3_known_17 : decode cX3_known 17 = .ok (.istore_n 3, 1) := by decide +kernel
theorem dX3_known_18 : decode cX3_known 18 = .ok (.aload_n 0, 1) := by decide +kernel
theorem dX3_known_19 : decode cX3_known 19 = .ok (.getfield 39, 3) := by decide +kernel
theorem dX3_known_22 : decode cX3_known 22 = .ok (.getfield 143, 3) := by decide +kernel
theorem dX3_known_25 : decode cX3_known 25 = .ok (.iload_n 3, 1) := by decide +kernel
theorem dX3_known_26 : decode cX3_known 26 = .ok (.iaload, 1) := by decide +kernel
theorem dX3_known_27 : decode cX3_known 27 = .ok (.istore 4, 2) := by decide +kernel
theorem dX3_known_29 : decode cX3_known 29 = .ok (.aload_n 0, 1) := by decide +kernel
theorem dX3_known_30 : decode cX3_known 30 = .ok (.getfield 39, 3) := by decide +kernel
theorem dX3_known_33 : decode cX3_known 33 = .ok (.getfield 139, 3) := by decide +kernel
theorem dX3_known_36 : decode cX3_known 36 = .ok (.iload_n 3, 1) := by decide +kernel
theorem dX3_known_37 : decode cX3_known 37 = .ok (.baload, 1) := by decide +kernel
theorem dX3_known_38 : decode cX3_known 38 = .ok (.ifCond .eq 8, 3) := by decide +kernel
theorem dX3_known_41 : decode cX3_known 41 = .ok (.iload 4, 2) := by decide +kernel
theorem dX3_known_43 : decode cX3_known 43 = .ok (.goto 7, 3) := by decide +kernel
theorem dX3_known_46 : decode cX3_known 46 = .ok (.iconst (-1), 1) := by decide +kernel
theorem dX3_known_47 : decode cX3_known 47 = .ok (.iload 4, 2) := by decide +kernel
theorem dX3_known_49 : decode cX3_known 49 = .ok (.isub, 1) := by decide +kernel
theorem dX3_known_50 : decode cX3_known 50 = .ok (.ireturn, 1) := by decide +kernel
theorem dX3_bound_0 : decode cX3_bound 0 = .ok (.aload_n 0, 1) := by decide +kernel
theorem dX3_bound_1 : decode cX3_bound 1 = .ok (.iload_n 2, 1) := by decide +kernel
theorem dX3_bound_2 : decode cX3_bound 2 = .ok (.iload_n 3, 1) := by decide +kernel
theorem dX3_bound_3 : decode cX3_bound 3 = .ok (.iload 4, 2) := by decide +kernel
theorem dX3_bound_5 : decode cX3_bound 5 = .ok (.invokevirtual 55, 3) := by decide +kernel
theorem dX3_bound_8 : decode cX3_bound 8 = .ok (.iload_n 1, 1) := by decide +kernel
theorem dX3_bound_9 : decode cX3_bound 9 = .ok (.ifCond .eq 10, 3) := by decide +kernel
theorem dX3_bound_12 : decode cX3_bound 12 = .ok (.aload_n 0, 1) := by decide +kernel
theorem dX3_bound_13 : decode cX3_bound 13 = .ok (.getfield 35, 3) := by decide +kernel
theorem dX3_bound_16 : decode cX3_bound 16 = .ok (.goto 7, 3) := by decide +kernel
theorem dX3_bound_19 : decode cX3_bound 19 = .ok (.aload_n 0, 1) := by decide +kernel
theorem dX3_bound_20 : decode cX3_bound 20 = .ok (.getfield 39, 3) := by decide +kernel
theorem dX3_bound_23 : decode cX3_bound 23 = .ok (.astore 5, 2) := by decide +kernel
theorem dX3_bound_25 : decode cX3_bound 25 = .ok (.aload 5, 2) := by decide +kernel
theorem dX3_bound_27 : decode cX3_bound 27 = .ok (.getfield 143, 3) := by decide +kernel
theorem dX3_bound_30 : decode cX3_bound 30 = .ok (.aload_n 0, 1) := by decide +kernel
theorem dX3_bound_31 : decode cX3_bound 31 = .ok (.getfield 18, 3) := by decide +kernel
theorem dX3_bound_34 : decode cX3_bound 34 = .ok (.iload_n 2, 1) := by decide +kernel
theorem dX3_bound_35 : decode cX3_bound 35 = .ok (.iload_n 3, 1) := by decide +kernel
theorem dX3_bound_36 : decode cX3_bound 36 = .ok (.iload 4, 2) := by decide +kernel
theorem dX3_bound_38 : decode cX3_bound 38 = .ok (.invokevirtual 69, 3) := by decide +kernel
theorem dX3_bound_41 : decode cX3_bound 41 = .ok (.iaload, 1) := by decide +kernel
theorem dX3_bound_42 : decode cX3_bound 42 = .ok (.ireturn, 1) := by decide +kernel
theorem dX3_least_0 : decode cX3_least 0 = .ok (.aload_n 0, 1) := by decide +kernel
theorem dX3_least_1 : decode cX3_least 1 = .ok (.iload_n 1, 1) := by decide +kernel
theorem dX3_least_2 : decode cX3_least 2 = .ok (.iload_n 2, 1) := by decide +kernel
theorem dX3_least_3 : decode cX3_least 3 = .ok (.iload_n 3, 1) := by decide +kernel
theorem dX3_least_4 : decode cX3_least 4 = .ok (.invokevirtual 55, 3) := by decide +kernel
theorem dX3_least_7 : decode cX3_least 7 = .ok (.aload_n 0, 1) := by decide +kernel
theorem dX3_least_8 : decode cX3_least 8 = .ok (.getfield 26, 3) := by decide +kernel
theorem dX3_least_11 : decode cX3_least 11 = .ok (.aload_n 0, 1) := by decide +kernel
theorem dX3_least_12 : decode cX3_least 12 = .ok (.getfield 18, 3) := by decide +kernel
theorem dX3_least_15 : decode cX3_least 15 = .ok (.iload_n 1, 1) := by decide +kernel
theorem dX3_least_16 : decode cX3_least 16 = .ok (.iload_n 2, 1) := by decide +kernel
theorem dX3_least_17 : decode cX3_least 17 = .ok (.iload_n 3, 1) := by decide +kernel
theorem dX3_least_18 : decode cX3_least 18 = .ok (.invokevirtual 69, 3) := by decide +kernel
theorem dX3_least_21 : decode cX3_least 21 = .ok (.iaload, 1) := by decide +kernel
theorem dX3_least_22 : decode cX3_least 22 = .ok (.ireturn, 1) := by decide +kernel
theorem dX3_value_0 : decode cX3_value 0 = .ok (.aload_n 0, 1) := by decide +kernel
theorem dX3_value_1 : decode cX3_value 1 = .ok (.iconst 0, 1) := by decide +kernel
theorem dX3_value_2 : decode cX3_value 2 = .ok (.iload_n 1, 1) := by decide +kernel
theorem dX3_value_3 : decode cX3_value 3 = .ok (.iload_n 2, 1) := by decide +kernel
theorem dX3_value_4 : decode cX3_value 4 = .ok (.invokevirtual 55, 3) := by decide +kernel
theorem dX3_value_7 : decode cX3_value 7 = .ok (.iload_n 3, 1) := by decide +kernel
theorem dX3_value_8 : decode cX3_value 8 = .ok (.ifCond .lt 10, 3) := by decide +kernel
theorem dX3_value_11 : decode cX3_value 11 = .ok (.iload_n 3, 1) := by decide +kernel
theorem dX3_value_12 : decode cX3_value 12 = .ok (.sipush 1000, 3) := by decide +kernel
theorem dX3_value_15 : decode cX3_value 15 = .ok (.if_icmp .le 13, 3) := by decide +kernel
theorem dX3_value_18 : decode cX3_value 18 = .ok (.new 59, 3) := by decide +kernel
theorem dX3_value_21 : decode cX3_value 21 = .ok (.dup, 1) := by decide +kernel
theorem dX3_value_22 : decode cX3_value 22 = .ok (.ldc 61, 2) := by decide +kernel
theorem dX3_value_24 : decode cX3_value 24 = .ok (.invokespecial 63, 3) := by decide +kernel
theorem dX3_value_27 : decode cX3_value 27 = .ok (.athrow, 1) := by decide +kernel
theorem dX3_value_28 : decode cX3_value 28 = .ok (.aload_n 0, 1) := by decide +kernel
theorem dX3_value_29 : decode cX3_value 29 = .ok (.invokevirtual 66, 3) := by decide +kernel
theorem dX3_value_32 : decode cX3_value 32 = .ok (.aload_n 0, 1) := by decide +kernel
theorem dX3_value_33 : decode cX3_value 33 = .ok (.getfield 18, 3) := by decide +kernel
theorem dX3_value_36 : decode cX3_value 36 = .ok (.iconst 0, 1) := by decide +kernel
theorem dX3_value_37 : decode cX3_value 37 = .ok (.iload_n 1, 1) := by decide +kernel
theorem dX3_value_38 : decode cX3_value 38 = .ok (.iload_n 2, 1) := by decide +kernel
theorem dX3_value_39 : decode cX3_value 39 = .ok (.invokevirtual 69, 3) := by decide +kernel
theorem dX3_value_42 : decode cX3_value 42 = .ok (.istore 4, 2) := by decide +kernel
theorem dX3_value_44 : decode cX3_value 44 = .ok (.aload_n 0, 1) := by decide +kernel
theorem dX3_value_45 : decode cX3_value 45 = .ok (.getfield 26, 3) := by decide +kernel
theorem dX3_value_48 : decode cX3_value 48 = .ok (.iload 4, 2) := by decide +kernel
theorem dX3_value_50 : decode cX3_value 50 = .ok (.iaload, 1) := by decide +kernel
theorem dX3_value_51 : decode cX3_value 51 = .ok (.istore 5, 2) := by decide +kernel
theorem dX3_value_53 : decode cX3_value 53 = .ok (.aload_n 0, 1) := by decide +kernel
theorem dX3_value_54 : decode cX3_value 54 = .ok (.getfield 26, 3) := by decide +kernel
theorem dX3_value_57 : decode cX3_value 57 = .ok (.iload 4, 2) := by decide +kernel
theorem dX3_value_59 : decode cX3_value 59 = .ok (.iload_n 3, 1) := by decide +kernel
theorem dX3_value_60 : decode cX3_value 60 = .ok (.iastore, 1) := by decide +kernel
theorem dX3_value_61 : decode cX3_value 61 = .ok (.aload_n 0, 1) := by decide +kernel
theorem dX3_value_62 : decode cX3_value 62 = .ok (.invokevirtual 73, 3) := by decide +kernel
theorem dX3_value_65 : decode cX3_value 65 = .ok (.iload 5, 2) := by decide +kernel
theorem dX3_value_67 : decode cX3_value 67 = .ok (.ireturn, 1) := by decide +kernel
theorem dX3_values_0 : decode cX3_values 0 = .ok (.aload_n 0, 1) := by decide +kernel
theorem dX3_values_1 : decode cX3_values 1 = .ok (.iconst 0, 1) := by decide +kernel
theorem dX3_values_2 : decode cX3_values 2 = .ok (.iload_n 1, 1) := by decide +kernel
theorem dX3_values_3 : decode cX3_values 3 = .ok (.iload_n 2, 1) := by decide +kernel
theorem dX3_values_4 : decode cX3_values 4 = .ok (.invokevirtual 55, 3) := by decide +kernel
theorem dX3_values_7 : decode cX3_values 7 = .ok (.iload_n 3, 1) := by decide +kernel
theorem dX3_values_8 : decode cX3_values 8 = .ok (.ifCond .ge 13, 3) := by decide +kernel
theorem dX3_values_11 : decode cX3_values 11 = .ok (.new 59, 3) := by decide +kernel
theorem dX3_values_14 : decode cX3_values 14 = .ok (.dup, 1) := by decide +kernel
theorem dX3_values_15 : decode cX3_values 15 = .ok (.ldc 76, 2) := by decide +kernel
theorem dX3_values_17 : decode cX3_values 17 = .ok (.invokespecial 63, 3) := by decide +kernel
theorem dX3_values_20 : decode cX3_values 20 = .ok (.athrow, 1) := by decide +kernel
theorem dX3_values_21 : decode cX3_values 21 = .ok (.aload_n 0, 1) := by decide +kernel
theorem dX3_values_22 : decode cX3_values 22 = .ok (.invokevirtual 66, 3) := by decide +kernel
theorem dX3_values_25 : decode cX3_values 25 = .ok (.aload_n 0, 1) := by decide +kernel
theorem dX3_values_26 : decode cX3_values 26 = .ok (.getfield 18, 3) := by decide +kernel
theorem dX3_values_29 : decode cX3_values 29 = .ok (.iconst 0, 1) := by decide +kernel
theorem dX3_values_30 : decode cX3_values 30 = .ok (.iload_n 1, 1) := by decide +kernel
theorem dX3_values_31 : decode cX3_values 31 = .ok (.iload_n 2, 1) := by decide +kernel
theorem dX3_values_32 : decode cX3_values 32 = .ok (.invokevirtual 69, 3) := by decide +kernel
theorem dX3_values_35 : decode cX3_values 35 = .ok (.istore 6, 2) := by decide +kernel
theorem dX3_values_37 : decode cX3_values 37 = .ok (.iload_n 3, 1) := by decide +kernel
theorem dX3_values_38 : decode cX3_values 38 = .ok (.aload_n 0, 1) := by decide +kernel
theorem dX3_values_39 : decode cX3_values 39 = .ok (.getfield 18, 3) := by decide +kernel
theorem dX3_values_42 : decode cX3_values 42 = .ok (.getfield 78, 3) := by decide +kernel
theorem dX3_values_45 : decode cX3_values 45 = .ok (.iload 6, 2) := by decide +kernel
theorem dX3_values_47 : decode cX3_values 47 = .ok (.isub, 1) := by decide +kernel
theorem dX3_values_48 : decode cX3_values 48 = .ok (.invokestatic 81, 3) := by decide +kernel
theorem dX3_values_51 : decode cX3_values 51 = .ok (.istore 7, 2) := by decide +kernel
theorem dX3_values_53 : decode cX3_values 53 = .ok (.iload 4, 2) := by decide +kernel
theorem dX3_values_55 : decode cX3_values 55 = .ok (.i2l, 1) := by decide +kernel
theorem dX3_values_56 : decode cX3_values 56 = .ok (.lstore 8, 2) := by decide +kernel
theorem dX3_values_58 : decode cX3_values 58 = .ok (.iconst 0, 1) := by decide +kernel
theorem dX3_values_59 : decode cX3_values 59 = .ok (.istore 10, 2) := by decide +kernel
theorem dX3_values_61 : decode cX3_values 61 = .ok (.iload 10, 2) := by decide +kernel
theorem dX3_values_63 : decode cX3_values 63 = .ok (.iload 7, 2) := by decide +kernel
theorem dX3_values_65 : decode cX3_values 65 = .ok (.if_icmp .ge 36, 3) := by decide +kernel
theorem dX3_values_68 : decode cX3_values 68 = .ok (.aload_n 0, 1) := by decide +kernel
theorem dX3_values_69 : decode cX3_values 69 = .ok (.getfield 26, 3) := by decide +kernel
theorem dX3_values_72 : decode cX3_values 72 = .ok (.iload 6, 2) := by decide +kernel
theorem dX3_values_74 : decode cX3_values 74 = .ok (.iload 10, 2) := by decide +kernel
theorem dX3_values_76 : decode cX3_values 76 = .ok (.iadd, 1) := by decide +kernel
theorem dX3_values_77 : decode cX3_values 77 = .ok (.lload 8, 2) := by decide +kernel
theorem dX3_values_79 : decode cX3_values 79 = .ok (.iconst 0, 1) := by decide +kernel
theorem dX3_values_80 : decode cX3_values 80 = .ok (.sipush 1000, 3) := by decide +kernel
theorem dX3_values_83 : decode cX3_values 83 = .ok (.invokestatic 11, 3) := by decide +kernel
theorem dX3_values_86 : decode cX3_values 86 = .ok (.iastore, 1) := by decide +kernel
theorem dX3_values_87 : decode cX3_values 87 = .ok (.lload 8, 2) := by decide +kernel
theorem dX3_values_89 : decode cX3_values 89 = .ok (.iload 5, 2) := by decide +kernel
theorem dX3_values_91 : decode cX3_values 91 = .ok (.i2l, 1) := by decide +kernel
theorem dX3_values_92 : decode cX3_values 92 = .ok (.ladd, 1) := by decide +kernel
theorem dX3_values_93 : decode cX3_values 93 = .ok (.lstore 8, 2) := by decide +kernel
theorem dX3_values_95 : decode cX3_values 95 = .ok (.iinc 10 1, 3) := by decide +kernel
theorem dX3_values_98 : decode cX3_values 98 = .ok (.goto (-37), 3) := by decide +kernel
theorem dX3_values_101 : decode cX3_values 101 = .ok (.aload_n 0, 1) := by decide +kernel
theorem dX3_values_102 : decode cX3_values 102 = .ok (.invokevirtual 73, 3) := by decide +kernel
theorem dX3_values_105 : decode cX3_values 105 = .ok (.iload 7, 2) := by decide +kernel
theorem dX3_values_107 : decode cX3_values 107 = .ok (.ireturn, 1) := by decide +kernel
theorem dX3_encode_0 : decode cX3_encode 0 = .ok (.aload_n 0, 1) := by decide +kernel
theorem dX3_encode_1 : decode cX3_encode 1 = .ok (.iconst 0, 1) := by decide +kernel
theorem dX3_encode_2 : decode cX3_encode 2 = .ok (.iload_n 1, 1) := by decide +kernel
theorem dX3_encode_3 : decode cX3_encode 3 = .ok (.iload_n 2, 1) := by decide +kernel
theorem dX3_encode_4 : decode cX3_encode 4 = .ok (.invokevirtual 55, 3) := by decide +kernel
theorem dX3_encode_7 : decode cX3_encode 7 = .ok (.iload_n 3, 1) := by decide +kernel
theorem dX3_encode_8 : decode cX3_encode 8 = .ok (.invokestatic 87, 3) := by decide +kernel
theorem dX3_encode_11 : decode cX3_encode 11 = .ok (.aload_n 0, 1) := by decide +kernel
theorem dX3_encode_12 : decode cX3_encode 12 = .ok (.iload_n 1, 1) := by decide +kernel
theorem dX3_encode_13 : decode cX3_encode 13 = .ok (.iload_n 2, 1) := by decide +kernel
theorem dX3_encode_14 : decode cX3_encode 14 = .ok (.iload_n 3, 1) := by decide +kernel
theorem dX3_encode_15 : decode cX3_encode 15 = .ok (.invokevirtual 90, 3) := by decide +kernel
theorem dX3_encode_18 : decode cX3_encode 18 = .ok (.istore 4, 2) := by decide +kernel
theorem dX3_encode_20 : decode cX3_encode 20 = .ok (.aload_n 0, 1) := by decide +kernel
theorem dX3_encode_21 : decode cX3_encode 21 = .ok (.getfield 45, 3) := by decide +kernel
theorem dX3_encode_24 : decode cX3_encode 24 = .ok (.iload 4, 2) := by decide +kernel
theorem dX3_encode_26 : decode cX3_encode 26 = .ok (.invokestatic 93, 3) := by decide +kernel
theorem dX3_encode_29 : decode cX3_encode 29 = .ok (.aload_n 0, 1) := by decide +kernel
theorem dX3_encode_30 : decode cX3_encode 30 = .ok (.iload_n 1, 1) := by decide +kernel
theorem dX3_encode_31 : decode cX3_encode 31 = .ok (.iload_n 2, 1) := by decide +kernel
theorem dX3_encode_32 : decode cX3_encode 32 = .ok (.iload_n 3, 1) := by decide +kernel
theorem dX3_encode_33 : decode cX3_encode 33 = .ok (.invokevirtual 97, 3) := by decide +kernel
theorem dX3_encode_36 : decode cX3_encode 36 = .ok (.iload 4, 2) := by decide +kernel
theorem dX3_encode_38 : decode cX3_encode 38 = .ok (.ireturn, 1) := by decide +kernel
theorem dX3_cost_0 : decode cX3_cost 0 = .ok (.aload_n 0, 1) := by decide +kernel
theorem dX3_cost_1 : decode cX3_cost 1 = .ok (.iconst 0, 1) := by decide +kernel
theorem dX3_cost_2 : decode cX3_cost 2 = .ok (.iload_n 1, 1) := by decide +kernel
theorem dX3_cost_3 : decode cX3_cost 3 = .ok (.iload_n 2, 1) := by decide +kernel
theorem dX3_cost_4 : decode cX3_cost 4 = .ok (.invokevirtual 55, 3) := by decide +kernel
theorem dX3_cost_7 : decode cX3_cost 7 = .ok (.iload_n 3, 1) := by decide +kernel
theorem dX3_cost_8 : decode cX3_cost 8 = .ok (.invokestatic 87, 3) := by decide +kernel
theorem dX3_cost_11 : decode cX3_cost 11 = .ok (.aload_n 0, 1) := by decide +kernel
theorem dX3_cost_12 : decode cX3_cost 12 = .ok (.iload_n 1, 1) := by decide +kernel
theorem dX3_cost_13 : decode cX3_cost 13 = .ok (.iload_n 2, 1) := by decide +kernel
theorem dX3_cost_14 : decode cX3_cost 14 = .ok (.iload_n 3, 1) := by decide +kernel
theorem dX3_cost_15 : decode cX3_cost 15 = .ok (.invokevirtual 90, 3) := by decide +kernel
theorem dX3_cost_18 : decode cX3_cost 18 = .ok (.ireturn, 1) := by decide +kernel
theorem dX3_encodeAll_0 : decode cX3_encodeAll 0 = .ok (.iload_n 1, 1) := by decide +kernel
theorem dX3_encodeAll_1 : decode cX3_encodeAll 1 = .ok (.invokestatic 100, 3) := by decide +kernel
theorem dX3_encodeAll_4 : decode cX3_encodeAll 4 = .ok (.iload_n 2, 1) := by decide +kernel
theorem dX3_encodeAll_5 : decode cX3_encodeAll 5 = .ok (.invokestatic 87, 3) := by decide +kernel
theorem dX3_encodeAll_8 : decode cX3_encodeAll 8 = .ok (.aload_n 0, 1) := by decide +kernel
theorem dX3_encodeAll_9 : decode cX3_encodeAll 9 = .ok (.aload_n 0, 1) := by decide +kernel
theorem dX3_encodeAll_10 : decode cX3_encodeAll 10 = .ok (.getfield 18, 3) := by decide +kernel
theorem dX3_encodeAll_13 : decode cX3_encodeAll 13 = .ok (.getfield 103, 3) := by decide +kernel
theorem dX3_encodeAll_16 : decode cX3_encodeAll 16 = .ok (.iconst 1, 1) := by decide +kernel
theorem dX3_encodeAll_17 : decode cX3_encodeAll 17 = .ok (.isub, 1) := by decide +kernel
theorem dX3_encodeAll_18 : decode cX3_encodeAll 18 = .ok (.iconst 0, 1) := by decide +kernel
theorem dX3_encodeAll_19 : decode cX3_encodeAll 19 = .ok (.iconst 0, 1) := by decide +kernel
theorem dX3_encodeAll_20 : decode cX3_encodeAll 20 = .ok (.iconst 0, 1) := by decide +kernel
theorem dX3_encodeAll_21 : decode cX3_encodeAll 21 = .ok (.iload_n 2, 1) := by decide +kernel
theorem dX3_encodeAll_22 : decode cX3_encodeAll 22 = .ok (.invokevirtual 106, 3) := by decide +kernel
theorem dX3_encodeAll_25 : decode cX3_encodeAll 25 = .ok (.istore_n 3, 1) := by decide +kernel
theorem dX3_encodeAll_26 : decode cX3_encodeAll 26 = .ok (.aload_n 0, 1) := by decide +kernel
theorem dX3_encodeAll_27 : decode cX3_encodeAll 27 = .ok (.getfield 45, 3) := by decide +kernel
theorem dX3_encodeAll_30 : decode cX3_encodeAll 30 = .ok (.iload_n 3, 1) := by decide +kernel
theorem dX3_encodeAll_31 : decode cX3_encodeAll 31 = .ok (.invokestatic 93, 3) := by decide +kernel
theorem dX3_encodeAll_34 : decode cX3_encodeAll 34 = .ok (.iconst 0, 1) := by decide +kernel
theorem dX3_encodeAll_35 : decode cX3_encodeAll 35 = .ok (.istore 4, 2) := by decide +kernel
theorem dX3_encodeAll_37 : decode cX3_encodeAll 37 = .ok (.iload 4, 2) := by decide +kernel
theorem dX3_encodeAll_39 : decode cX3_encodeAll 39 = .ok (.aload_n 0, 1) := by decide +kernel
theorem dX3_encodeAll_40 : decode cX3_encodeAll 40 = .ok (.getfield 18, 3) := by decide +kernel
theorem dX3_encodeAll_43 : decode cX3_encodeAll 43 = .ok (.getfield 78, 3) := by decide +kernel
theorem dX3_encodeAll_46 : decode cX3_encodeAll 46 = .ok (.if_icmp .ge 34, 3) := by decide +kernel
theorem dX3_encodeAll_49 : decode cX3_encodeAll 49 = .ok (.aload_n 0, 1) := by decide +kernel
theorem dX3_encodeAll_50 : decode cX3_encodeAll 50 = .ok (.aload_n 0, 1) := by decide +kernel
theorem dX3_encodeAll_51 : decode cX3_encodeAll 51 = .ok (.getfield 18, 3) := by decide +kernel
theorem dX3_encodeAll_54 : decode cX3_encodeAll 54 = .ok (.iload_n 1, 1) := by decide +kernel
theorem dX3_encodeAll_55 : decode cX3_encodeAll 55 = .ok (.iload 4, 2) := by decide +kernel
theorem dX3_encodeAll_57 : decode cX3_encodeAll 57 = .ok (.invokevirtual 110, 3) := by decide +kernel
theorem dX3_encodeAll_60 : decode cX3_encodeAll 60 = .ok (.aload_n 0, 1) := by decide +kernel
theorem dX3_encodeAll_61 : decode cX3_encodeAll 61 = .ok (.getfield 18, 3) := by decide +kernel
theorem dX3_encodeAll_64 : decode cX3_encodeAll 64 = .ok (.iload_n 1, 1) := by decide +kernel
theorem dX3_encodeAll_65 : decode cX3_encodeAll 65 = .ok (.iload 4, 2) := by decide +kernel
theorem dX3_encodeAll_67 : decode cX3_encodeAll 67 = .ok (.invokevirtual 113, 3) := by decide +kernel
theorem dX3_encodeAll_70 : decode cX3_encodeAll 70 = .ok (.iload_n 2, 1) := by decide +kernel
theorem dX3_encodeAll_71 : decode cX3_encodeAll 71 = .ok (.invokevirtual 97, 3) := by decide +kernel
theorem dX3_encodeAll_74 : decode cX3_encodeAll 74 = .ok (.iinc 4 1, 3) := by decide +kernel
theorem dX3_encodeAll_77 : decode cX3_encodeAll 77 = .ok (.goto (-40), 3) := by decide +kernel
theorem dX3_encodeAll_80 : decode cX3_encodeAll 80 = .ok (.iload_n 3, 1) := by decide +kernel
theorem dX3_encodeAll_81 : decode cX3_encodeAll 81 = .ok (.ireturn, 1) := by decide +kernel
theorem dX3_decode_0 : decode cX3_decode 0 = .ok (.aload_n 0, 1) := by decide +kernel
theorem dX3_decode_1 : decode cX3_decode 1 = .ok (.iconst 0, 1) := by decide +kernel
theorem dX3_decode_2 : decode cX3_decode 2 = .ok (.iload_n 1, 1) := by decide +kernel
theorem dX3_decode_3 : decode cX3_decode 3 = .ok (.iload_n 2, 1) := by decide +kernel
theorem dX3_decode_4 : decode cX3_decode 4 = .ok (.invokevirtual 55, 3) := by decide +kernel
theorem dX3_decode_7 : decode cX3_decode 7 = .ok (.iload_n 3, 1) := by decide +kernel
theorem dX3_decode_8 : decode cX3_decode 8 = .ok (.invokestatic 87, 3) := by decide +kernel
theorem dX3_decode_11 : decode cX3_decode 11 = .ok (.aload_n 0, 1) := by decide +kernel
theorem dX3_decode_12 : decode cX3_decode 12 = .ok (.iload_n 1, 1) := by decide +kernel
theorem dX3_decode_13 : decode cX3_decode 13 = .ok (.iload_n 2, 1) := by decide +kernel
theorem dX3_decode_14 : decode cX3_decode 14 = .ok (.iload_n 3, 1) := by decide +kernel
theorem dX3_decode_15 : decode cX3_decode 15 = .ok (.invokevirtual 135, 3) := by decide +kernel
theorem dX3_decode_18 : decode cX3_decode 18 = .ok (.ifCond .ne 6, 3) := by decide +kernel
theorem dX3_decode_21 : decode cX3_decode 21 = .ok (.bipush (-2), 2) := by decide +kernel
theorem dX3_decode_23 : decode cX3_decode 23 = .ok (.ireturn, 1) := by decide +kernel
theorem dX3_decode_24 : decode cX3_decode 24 = .ok (.aload_n 0, 1) := by decide +kernel
theorem dX3_decode_25 : decode cX3_decode 25 = .ok (.getfield 18, 3) := by decide +kernel
theorem dX3_decode_28 : decode cX3_decode 28 = .ok (.iconst 0, 1) := by decide +kernel
theorem dX3_decode_29 : decode cX3_decode 29 = .ok (.iload_n 1, 1) := by decide +kernel
theorem dX3_decode_30 : decode cX3_decode 30 = .ok (.iload_n 2, 1) := by decide +kernel
theorem dX3_decode_31 : decode cX3_decode 31 = .ok (.invokevirtual 69, 3) := by decide +kernel
theorem dX3_decode_34 : decode cX3_decode 34 = .ok (.istore 4, 2) := by decide +kernel
theorem dX3_decode_36 : decode cX3_decode 36 = .ok (.aload_n 0, 1) := by decide +kernel
theorem dX3_decode_37 : decode cX3_decode 37 = .ok (.getfield 39, 3) := by decide +kernel
theorem dX3_decode_40 : decode cX3_decode 40 = .ok (.getfield 139, 3) := by decide +kernel
theorem dX3_decode_43 : decode cX3_decode 43 = .ok (.iload 4, 2) := by decide +kernel
theorem dX3_decode_45 : decode cX3_decode 45 = .ok (.baload, 1) := by decide +kernel
theorem dX3_decode_46 : decode cX3_decode 46 = .ok (.ifCond .eq 21, 3) := by decide +kernel
theorem dX3_decode_49 : decode cX3_decode 49 = .ok (.aload_n 0, 1) := by decide +kernel
theorem dX3_decode_50 : decode cX3_decode 50 = .ok (.getfield 39, 3) := by decide +kernel
theorem dX3_decode_53 : decode cX3_decode 53 = .ok (.getfield 143, 3) := by decide +kernel
theorem dX3_decode_56 : decode cX3_decode 56 = .ok (.iload 4, 2) := by decide +kernel
theorem dX3_decode_58 : decode cX3_decode 58 = .ok (.iaload, 1) := by decide +kernel
theorem dX3_decode_59 : decode cX3_decode 59 = .ok (.iload_n 3, 1) := by decide +kernel
theorem dX3_decode_60 : decode cX3_decode 60 = .ok (.if_icmp .ge 7, 3) := by decide +kernel
theorem dX3_decode_63 : decode cX3_decode 63 = .ok (.iconst 1, 1) := by decide +kernel
theorem dX3_decode_64 : decode cX3_decode 64 = .ok (.goto 4, 3) := by decide +kernel
theorem dX3_decode_67 : decode cX3_decode 67 = .ok (.iconst 0, 1) := by decide +kernel
theorem dX3_decode_68 : decode cX3_decode 68 = .ok (.ireturn, 1) := by decide +kernel
theorem dX3_decodeAll_0 : decode cX3_decodeAll 0 = .ok (.iload_n 1, 1) := by decide +kernel
theorem dX3_decodeAll_1 : decode cX3_decodeAll 1 = .ok (.invokestatic 100, 3) := by decide +kernel
theorem dX3_decodeAll_4 : decode cX3_decodeAll 4 = .ok (.iload_n 2, 1) := by decide +kernel
theorem dX3_decodeAll_5 : decode cX3_decodeAll 5 = .ok (.invokestatic 87, 3) := by decide +kernel
theorem dX3_decodeAll_8 : decode cX3_decodeAll 8 = .ok (.iconst 0, 1) := by decide +kernel
theorem dX3_decodeAll_9 : decode cX3_decodeAll 9 = .ok (.istore_n 3, 1) := by decide +kernel
theorem dX3_decodeAll_10 : decode cX3_decodeAll 10 = .ok (.iload_n 3, 1) := by decide +kernel
theorem dX3_decodeAll_11 : decode cX3_decodeAll 11 = .ok (.aload_n 0, 1) := by decide +kernel
theorem dX3_decodeAll_12 : decode cX3_decodeAll 12 = .ok (.getfield 18, 3) := by decide +kernel
theorem dX3_decodeAll_15 : decode cX3_decodeAll 15 = .ok (.getfield 78, 3) := by decide +kernel
theorem dX3_decodeAll_18 : decode cX3_decodeAll 18 = .ok (.if_icmp .ge 37, 3) := by decide +kernel
theorem dX3_decodeAll_21 : decode cX3_decodeAll 21 = .ok (.aload_n 0, 1) := by decide +kernel
theorem dX3_decodeAll_22 : decode cX3_decodeAll 22 = .ok (.aload_n 0, 1) := by decide +kernel
theorem dX3_decodeAll_23 : decode cX3_decodeAll 23 = .ok (.getfield 18, 3) := by decide +kernel
theorem dX3_decodeAll_26 : decode cX3_decodeAll 26 = .ok (.iload_n 1, 1) := by decide +kernel
theorem dX3_decodeAll_27 : decode cX3_decodeAll 27 = .ok (.iload_n 3, 1) := by decide +kernel
theorem dX3_decodeAll_28 : decode cX3_decodeAll 28 = .ok (.invokevirtual 110, 3) := by decide +kernel
theorem dX3_decodeAll_31 : decode cX3_decodeAll 31 = .ok (.aload_n 0, 1) := by decide +kernel
theorem dX3_decodeAll_32 : decode cX3_decodeAll 32 = .ok (.getfield 18, 3) := by decide +kernel
theorem dX3_decodeAll_35 : decode cX3_decodeAll 35 = .ok (.iload_n 1, 1) := by decide +kernel
theorem dX3_decodeAll_36 : decode cX3_decodeAll 36 = .ok (.iload_n 3, 1) := by decide +kernel
theorem dX3_decodeAll_37 : decode cX3_decodeAll 37 = .ok (.invokevirtual 113, 3) := by decide +kernel
theorem dX3_decodeAll_40 : decode cX3_decodeAll 40 = .ok (.iload_n 2, 1) := by decide +kernel
theorem dX3_decodeAll_41 : decode cX3_decodeAll 41 = .ok (.invokevirtual 135, 3) := by decide +kernel
theorem dX3_decodeAll_44 : decode cX3_decodeAll 44 = .ok (.ifCond .ne 5, 3) := by decide +kernel
theorem dX3_decodeAll_47 : decode cX3_decodeAll 47 = .ok (.iload_n 3, 1) := by decide +kernel
theorem dX3_decodeAll_48 : decode cX3_decodeAll 48 = .ok (.ireturn, 1) := by decide +kernel
theorem dX3_decodeAll_49 : decode cX3_decodeAll 49 = .ok (.iinc 3 1, 3) := by decide +kernel
theorem dX3_decodeAll_52 : decode cX3_decodeAll 52 = .ok (.goto (-42), 3) := by decide +kernel
theorem dX3_decodeAll_55 : decode cX3_decodeAll 55 = .ok (.aload_n 0, 1) := by decide +kernel
theorem dX3_decodeAll_56 : decode cX3_decodeAll 56 = .ok (.getfield 18, 3) := by decide +kernel
theorem dX3_decodeAll_59 : decode cX3_decodeAll 59 = .ok (.getfield 78, 3) := by decide +kernel
theorem dX3_decodeAll_62 : decode cX3_decodeAll 62 = .ok (.ireturn, 1) := by decide +kernel
def wp_X3_checkThreshold (post : Unit → Prop) (px : String → Unit → Prop)   (x0 : Int32) : Prop := ((x0 < 0 → (px "java/lang/IllegalArgumentException" ())) ∧ (¬ x0 < 0 → (((x0 ≤ 1001 → (post ())) ∧ (¬ x0 ≤ 1001 → (px "java/lang/IllegalArgumentException" ()))))))
abbrev rm_X3_checkThreshold : Room := { frames := 6, cells := 1, slots := 6, locals := 82 }
set_option maxHeartbeats 4000000 in
set_option maxRecDepth 100000 in
theorem met_X3_checkThreshold (l : Launch) (hl9 : l.stackTraces = false) (dC : Nat → ClassId) (dI : Nat → Nat → Nat) (cI cZ cJ cL : ClassId) (sa : Nat → Nat)  (sz : Nat) (post : Unit → Prop) (px : String → Unit → Prop)   (x0 : Int32) (hw : wp_X3_checkThreshold post px   x0) : vx_Met l yX3_checkThreshold wsX3_checkThreshold rm_X3_checkThreshold (pcX (dC, dI) (tysA cI cZ cJ cL) sa [] sz [.int x0]) (va_Qv post (fun u t => qB (dC, dI) (tysA cI cZ cJ cL) (va_A [] sz) ([]) t) (va_A [] sz)) (vx_X (fun u : String × Unit => px u.1 u.2) (fun E u t => E = u.1 ∧ qB (dC, dI) (tysA cI cZ cJ cL) (va_A [] sz) ([]) t) (va_A [] sz)) 1 6 (va_A [] sz) := by
  refine vx_ofW (cc := cX3_checkThreshold) (maxL := 1) (ret := none) (by decide) rfl ?_
  intro p e s m args below meth c s₁ Bd hml hno hv
  obtain ⟨hargs, hsz, hP, hK, hD0, hZ⟩ := hv
  have hx := Bd.exec
  have hb := Bd.bytes
  have hr := Bd.returns
  have hts := atoms_spec (ws := wsX3_checkThreshold) Bd.pre
  have hT : ∀ w ∈ WALL, w.before args s = true := fun w h => hts w (List.mem_cons_of_mem _ h)
  have hown : s.vm.findClass RX3 = some m.cls := findClass_of_methodNamed Bd.named
  have hlocks := Bd.notSynchronized
  subst hsz
  have hD := hD0.self (sz := s.heap.size)
  generalize hAe : va_A [] s.heap.size = A at hD ⊢
  have hA : ∀ q : Nat, s.heap.size ≤ q → A q := fun q h => by rw [← hAe]; exact Or.inr h
  have hS : va_S A s.heap s.heap [] := va_S.rf
  rw [hAe] at hZ
  have hP : va_P (dC, dI) vwCl [] s.heap := hP
  have hl := lv_entry ([.int x0]) (n := 1) (Nat.le_of_ble_eq_true rfl)
  rw [show entryFrame m args 1 = F0 m 0 _ [] from by rw [hargs]; exact lg_entry_eq m ([.int x0]) 1]
  generalize (lg_sl ([.int x0]) ++ List.replicate (1 - (lg_sl ([.int x0])).length) Slot.unset).toArray = ls at hl ⊢
  have hl : lv_has ls 1 [(0, .int x0)] := hl
  obtain ⟨H, hH⟩ : ∃ z : Heap, z = s.heap := ⟨_, rfl⟩
  obtain ⟨locs, hlocs⟩ : ∃ z : List Loc, z = [] := ⟨_, rfl⟩
  rw [show W p l e (headSpec wsX3_checkThreshold rm_X3_checkThreshold).room s m args below meth c s.heap [] 0 0 = W p l e (headSpec wsX3_checkThreshold rm_X3_checkThreshold).room s m args below meth c H locs 0 0 from by rw [hH, hlocs]]
  have hP : va_P (dC, dI) vwCl [] H := by rw [hH]; exact hP
  have hS : va_S A s.heap H locs := by rw [hH, hlocs]; exact hS
  unfold wp_X3_checkThreshold at hw
  refine lv_iload_n hx hb dX3_checkThreshold_0 rfl (lv_at hl 0 rfl) ?_
  refine lv_if_lt (tgt := 11) hx hb dX3_checkThreshold_1 (by decide) (fun c_1 => ?_) (fun c_1 => ?_)
  · have hw := hw.1 c_1
    exact vx_throwS (own := RX3) (cls := "java/lang/IllegalArgumentException") (names := exNames) hx hb hl9 hown (by decide +kernel) (by decide +kernel) (hT _ k_104) (hT _ k_105) (hZ.2.2.2 _ (List.mem_of_getElem? (i := 7) rfl)) (hat_63 hT hZ.2.2.1) hgd_63 hZ.1 hZ.2.1 hS (hl.1.trans hml.symm) dX3_checkThreshold_11 dX3_checkThreshold_14 dX3_checkThreshold_15 dX3_checkThreshold_17 dX3_checkThreshold_20 (fun x h => (hno x h).elim) (Nat.le_of_ble_eq_true rfl) (Nat.le_of_ble_eq_true rfl) (Nat.le_of_ble_eq_true rfl) (Nat.le_of_ble_eq_true rfl) hlocks (fun t ha hsz hk => ⟨("java/lang/IllegalArgumentException", ()), hw, ⟨rfl, hP.kept (fun k q hq => hk q.1 (hP k q hq).lt), va_K.moved ha hK, hD⟩, Nat.le_trans hS.1 hsz, fun q h1 h2 => (hk q (Nat.lt_of_lt_of_le h1 hS.1)).trans (hS.2.1 q h1 h2)⟩) hS.2.2 (Nat.le_of_ble_eq_true rfl) (Nat.le_of_ble_eq_true rfl)
  · have hw := hw.2 c_1
    refine lv_iload_n hx hb dX3_checkThreshold_4 rfl (lv_at hl 0 rfl) ?_
    refine lv_sipush (v := 1001) hx hb dX3_checkThreshold_5 (by decide) ?_
    refine lv_icmp_le (tgt := 21) hx hb dX3_checkThreshold_8 (by decide) (fun c_2 => ?_) (fun c_2 => ?_)
    · have hw := hw.1 c_2
      refine W.widen (k := 1) (n := 6) (Nat.le_of_ble_eq_true rfl) (Nat.le_of_ble_eq_true rfl) ?_
      exact vx_ret (W.vret hx hb hr (fun t ht hW => ⟨⟨(), rfl, hw, by rw [ht]; exact hP, va_K.moved hW.alike hK, hD⟩, hS.F ht⟩) hS.2.2 dX3_checkThreshold_21)
    · have hw := hw.2 c_2
      exact vx_throwS (own := RX3) (cls := "java/lang/IllegalArgumentException") (names := exNames) hx hb hl9 hown (by decide +kernel) (by decide +kernel) (hT _ k_104) (hT _ k_105) (hZ.2.2.2 _ (List.mem_of_getElem? (i := 7) rfl)) (hat_63 hT hZ.2.2.1) hgd_63 hZ.1 hZ.2.1 hS (hl.1.trans hml.symm) dX3_checkThreshold_11 dX3_checkThreshold_14 dX3_checkThreshold_15 dX3_checkThreshold_17 dX3_checkThreshold_20 (fun x h => (hno x h).elim) (Nat.le_of_ble_eq_true rfl) (Nat.le_of_ble_eq_true rfl) (Nat.le_of_ble_eq_true rfl) (Nat.le_of_ble_eq_true rfl) hlocks (fun t ha hsz hk => ⟨("java/lang/IllegalArgumentException", ()), hw, ⟨rfl, hP.kept (fun k q hq => hk q.1 (hP k q hq).lt), va_K.moved ha hK, hD⟩, Nat.le_trans hS.1 hsz, fun q h1 h2 => (hk q (Nat.lt_of_lt_of_le h1 hS.1)).trans (hS.2.1 q h1 h2)⟩) hS.2.2 (Nat.le_of_ble_eq_true rfl) (Nat.le_of_ble_eq_true rfl)
def wp_X3_checkOrder (post : Unit → Prop) (px : String → Unit → Prop)   (x0 : Int32) : Prop := ((x0 < 0 → (px "java/lang/IllegalArgumentException" ())) ∧ (¬ x0 < 0 → (((x0 < 3 → (post ())) ∧ (¬ x0 < 3 → (px "java/lang/IllegalArgumentException" ()))))))
abbrev rm_X3_checkOrder : Room := { frames := 6, cells := 1, slots := 6, locals := 82 }
set_option maxHeartbeats 4000000 in
set_option maxRecDepth 100000 in
theorem met_X3_checkOrder (l : Launch) (hl9 : l.stackTraces = false) (dC : Nat → ClassId) (dI : Nat → Nat → Nat) (cI cZ cJ cL : ClassId) (sa : Nat → Nat)  (sz : Nat) (post : Unit → Prop) (px : String → Unit → Prop)   (x0 : Int32) (hw : wp_X3_checkOrder post px   x0) : vx_Met l yX3_checkOrder wsX3_checkOrder rm_X3_checkOrder (pcX (dC, dI) (tysA cI cZ cJ cL) sa [] sz [.int x0]) (va_Qv post (fun u t => qB (dC, dI) (tysA cI cZ cJ cL) (va_A [] sz) ([]) t) (va_A [] sz)) (vx_X (fun u : String × Unit => px u.1 u.2) (fun E u t => E = u.1 ∧ qB (dC, dI) (tysA cI cZ cJ cL) (va_A [] sz) ([]) t) (va_A [] sz)) 1 6 (va_A [] sz) := by
  refine vx_ofW (cc := cX3_checkOrder) (maxL := 1) (ret := none) (by decide) rfl ?_
  intro p e s m args below meth c s₁ Bd hml hno hv
  obtain ⟨hargs, hsz, hP, hK, hD0, hZ⟩ := hv
  have hx := Bd.exec
  have hb := Bd.bytes
  have hr := Bd.returns
  have hts := atoms_spec (ws := wsX3_checkOrder) Bd.pre
  have hT : ∀ w ∈ WALL, w.before args s = true := fun w h => hts w (List.mem_cons_of_mem _ h)
  have hown : s.vm.findClass RX3 = some m.cls := findClass_of_methodNamed Bd.named
  have hlocks := Bd.notSynchronized
  subst hsz
  have hD := hD0.self (sz := s.heap.size)
  generalize hAe : va_A [] s.heap.size = A at hD ⊢
  have hA : ∀ q : Nat, s.heap.size ≤ q → A q := fun q h => by rw [← hAe]; exact Or.inr h
  have hS : va_S A s.heap s.heap [] := va_S.rf
  rw [hAe] at hZ
  have hP : va_P (dC, dI) vwCl [] s.heap := hP
  have hl := lv_entry ([.int x0]) (n := 1) (Nat.le_of_ble_eq_true rfl)
  rw [show entryFrame m args 1 = F0 m 0 _ [] from by rw [hargs]; exact lg_entry_eq m ([.int x0]) 1]
  generalize (lg_sl ([.int x0]) ++ List.replicate (1 - (lg_sl ([.int x0])).length) Slot.unset).toArray = ls at hl ⊢
  have hl : lv_has ls 1 [(0, .int x0)] := hl
  obtain ⟨H, hH⟩ : ∃ z : Heap, z = s.heap := ⟨_, rfl⟩
  obtain ⟨locs, hlocs⟩ : ∃ z : List Loc, z = [] := ⟨_, rfl⟩
  rw [show W p l e (headSpec wsX3_checkOrder rm_X3_checkOrder).room s m args below meth c s.heap [] 0 0 = W p l e (headSpec wsX3_checkOrder rm_X3_checkOrder).room s m args below meth c H locs 0 0 from by rw [hH, hlocs]]
  have hP : va_P (dC, dI) vwCl [] H := by rw [hH]; exact hP
  have hS : va_S A s.heap H locs := by rw [hH, hlocs]; exact hS
  unfold wp_X3_checkOrder at hw
  refine lv_iload_n hx hb dX3_checkOrder_0 rfl (lv_at hl 0 rfl) ?_
  refine lv_if_lt (tgt := 9) hx hb dX3_checkOrder_1 (by decide) (fun c_1 => ?_) (fun c_1 => ?_)
  · have hw := hw.1 c_1
    exact vx_throwS (own := RX3) (cls := "java/lang/IllegalArgumentException") (names := exNames) hx hb hl9 hown (by decide +kernel) (by decide +kernel) (hT _ k_104) (hT _ k_105) (hZ.2.2.2 _ (List.mem_of_getElem? (i := 8) rfl)) (hat_63 hT hZ.2.2.1) hgd_63 hZ.1 hZ.2.1 hS (hl.1.trans hml.symm) dX3_checkOrder_9 dX3_checkOrder_12 dX3_checkOrder_13 dX3_checkOrder_15 dX3_checkOrder_18 (fun x h => (hno x h).elim) (Nat.le_of_ble_eq_true rfl) (Nat.le_of_ble_eq_true rfl) (Nat.le_of_ble_eq_true rfl) (Nat.le_of_ble_eq_true rfl) hlocks (fun t ha hsz hk => ⟨("java/lang/IllegalArgumentException", ()), hw, ⟨rfl, hP.kept (fun k q hq => hk q.1 (hP k q hq).lt), va_K.moved ha hK, hD⟩, Nat.le_trans hS.1 hsz, fun q h1 h2 => (hk q (Nat.lt_of_lt_of_le h1 hS.1)).trans (hS.2.1 q h1 h2)⟩) hS.2.2 (Nat.le_of_ble_eq_true rfl) (Nat.le_of_ble_eq_true rfl)
  · have hw := hw.2 c_1
    refine lv_iload_n hx hb dX3_checkOrder_4 rfl (lv_at hl 0 rfl) ?_
    refine lv_iconst (v := 3) hx hb dX3_checkOrder_5 (by decide) ?_
    refine lv_icmp_lt (tgt := 19) hx hb dX3_checkOrder_6 (by decide) (fun c_2 => ?_) (fun c_2 => ?_)
    · have hw := hw.1 c_2
      refine W.widen (k := 1) (n := 6) (Nat.le_of_ble_eq_true rfl) (Nat.le_of_ble_eq_true rfl) ?_
      exact vx_ret (W.vret hx hb hr (fun t ht hW => ⟨⟨(), rfl, hw, by rw [ht]; exact hP, va_K.moved hW.alike hK, hD⟩, hS.F ht⟩) hS.2.2 dX3_checkOrder_19)
    · have hw := hw.2 c_2
      exact vx_throwS (own := RX3) (cls := "java/lang/IllegalArgumentException") (names := exNames) hx hb hl9 hown (by decide +kernel) (by decide +kernel) (hT _ k_104) (hT _ k_105) (hZ.2.2.2 _ (List.mem_of_getElem? (i := 8) rfl)) (hat_63 hT hZ.2.2.1) hgd_63 hZ.1 hZ.2.1 hS (hl.1.trans hml.symm) dX3_checkOrder_9 dX3_checkOrder_12 dX3_checkOrder_13 dX3_checkOrder_15 dX3_checkOrder_18 (fun x h => (hno x h).elim) (Nat.le_of_ble_eq_true rfl) (Nat.le_of_ble_eq_true rfl) (Nat.le_of_ble_eq_true rfl) (Nat.le_of_ble_eq_true rfl) hlocks (fun t ha hsz hk => ⟨("java/lang/IllegalArgumentException", ()), hw, ⟨rfl, hP.kept (fun k q hq => hk q.1 (hP k q hq).lt), va_K.moved ha hK, hD⟩, Nat.le_trans hS.1 hsz, fun q h1 h2 => (hk q (Nat.lt_of_lt_of_le h1 hS.1)).trans (hS.2.1 q h1 h2)⟩) hS.2.2 (Nat.le_of_ble_eq_true rfl) (Nat.le_of_ble_eq_true rfl)
def wp_X3_checkNothingTold (post : vTT → Prop) (px : String → vTT → Prop) (nl : Nat) (nn : Nat) (S : vSH) (T : vTT)  : Prop := ((T.2.2.2.1.2.2 ≤ 0 → (post T)) ∧ (¬ T.2.2.2.1.2.2 ≤ 0 → (px "java/lang/IllegalStateException" T)))
abbrev rm_X3_checkNothingTold : Room := { frames := 6, cells := 1, slots := 6, locals := 82 }
set_option maxHeartbeats 4000000 in
set_option maxRecDepth 100000 in
theorem met_X3_checkNothingTold (l : Launch) (hl9 : l.stackTraces = false) (dC : Nat → ClassId) (dI : Nat → Nat → Nat) (cI cZ cJ cL : ClassId) (sa : Nat → Nat) (ad ra : Nat → Nat) (sz : Nat) (post : vTT → Prop) (px : String → vTT → Prop) (nl : Nat) (nn : Nat) (S : vSH) (T : vTT)  (hw : wp_X3_checkNothingTold post px nl nn S T ) : vx_Met l yX3_checkNothingTold wsX3_checkNothingTold rm_X3_checkNothingTold (pcX (dC, dI) (tysA cI cZ cJ cL) sa (wTT cI cZ cJ nl nn ad ra S T) sz [.ref (ad 0)]) (va_Qv post (fun u t => qB (dC, dI) (tysA cI cZ cJ cL) (va_A (wTT cI cZ cJ nl nn ad ra S T) sz) (wTT cI cZ cJ nl nn ad ra S u) t) (va_A (wTT cI cZ cJ nl nn ad ra S T) sz)) (vx_X (fun u : String × vTT => px u.1 u.2) (fun E u t => E = u.1 ∧ qB (dC, dI) (tysA cI cZ cJ cL) (va_A (wTT cI cZ cJ nl nn ad ra S T) sz) (wTT cI cZ cJ nl nn ad ra S u.2) t) (va_A (wTT cI cZ cJ nl nn ad ra S T) sz)) 1 6 (va_A (wTT cI cZ cJ nl nn ad ra S T) sz) := by
  refine vx_ofW (cc := cX3_checkNothingTold) (maxL := 1) (ret := none) (by decide) rfl ?_
  intro p e s m args below meth c s₁ Bd hml hno hv
  obtain ⟨hargs, hsz, hP, hK, hD0, hZ⟩ := hv
  have hx := Bd.exec
  have hb := Bd.bytes
  have hr := Bd.returns
  have hts := atoms_spec (ws := wsX3_checkNothingTold) Bd.pre
  have hT : ∀ w ∈ WALL, w.before args s = true := fun w h => hts w (List.mem_cons_of_mem _ h)
  have hown : s.vm.findClass RX3 = some m.cls := findClass_of_methodNamed Bd.named
  have hlocks := Bd.notSynchronized
  subst hsz
  have hD := hD0.self (sz := s.heap.size)
  generalize hAe : va_A (wTT cI cZ cJ nl nn ad ra S T) s.heap.size = A at hD ⊢
  have hA : ∀ q : Nat, s.heap.size ≤ q → A q := fun q h => by rw [← hAe]; exact Or.inr h
  have hS : va_S A s.heap s.heap [] := va_S.rf
  rw [hAe] at hZ
  have hP : va_P (dC, dI) vwCl (wTT cI cZ cJ nl nn ad ra S T) s.heap := hP
  have hl := lv_entry ([.ref (ad 0)]) (n := 1) (Nat.le_of_ble_eq_true rfl)
  rw [show entryFrame m args 1 = F0 m 0 _ [] from by rw [hargs]; exact lg_entry_eq m ([.ref (ad 0)]) 1]
  generalize (lg_sl ([.ref (ad 0)]) ++ List.replicate (1 - (lg_sl ([.ref (ad 0)])).length) Slot.unset).toArray = ls at hl ⊢
  have hl : lv_has ls 1 [(0, .ref (ad 0))] := hl
  obtain ⟨H, hH⟩ : ∃ z : Heap, z = s.heap := ⟨_, rfl⟩
  obtain ⟨locs, hlocs⟩ : ∃ z : List Loc, z = [] := ⟨_, rfl⟩
  rw [show W p l e (headSpec wsX3_checkNothingTold rm_X3_checkNothingTold).room s m args below meth c s.heap [] 0 0 = W p l e (headSpec wsX3_checkNothingTold rm_X3_checkNothingTold).room s m args below meth c H locs 0 0 from by rw [hH, hlocs]]
  have hP : va_P (dC, dI) vwCl (wTT cI cZ cJ nl nn ad ra S T) H := by rw [hH]; exact hP
  have hS : va_S A s.heap H locs := by rw [hH, hlocs]; exact hS
  unfold wp_X3_checkNothingTold at hw
  refine lv_aload_n hx hb dX3_checkNothingTold_0 rfl (lv_at hl 0 rfl) ?_
  refine va_get (D := (dC, dI)) (ci := 3) (v := .ref (ad 16)) (C := RX3) (T := TX3) (N := 7) hx hb hT inX3 hown hK hP 0 rfl rfl 4 (by decide) (hT _ k_22) (fun _ h9 => h9) rfl dX3_checkNothingTold_1 ?_
  refine va_get (D := (dC, dI)) (ci := 0) (v := .int T.2.2.2.1.2.2) (C := RX0) (T := TX0) (N := 3) hx hb hT inX0 hown hK hP 16 rfl rfl 2 (by decide) (hT _ k_23) (fun _ h9 => h9) rfl dX3_checkNothingTold_4 ?_
  refine lv_if_le (tgt := 20) hx hb dX3_checkNothingTold_7 (by decide) (fun c_1 => ?_) (fun c_1 => ?_)
  · have hw := hw.1 c_1
    refine W.widen (k := 1) (n := 6) (Nat.le_of_ble_eq_true rfl) (Nat.le_of_ble_eq_true rfl) ?_
    exact vx_ret (W.vret hx hb hr (fun t ht hW => ⟨⟨T, rfl, hw, by rw [ht]; exact hP, va_K.moved hW.alike hK, hD⟩, hS.F ht⟩) hS.2.2 dX3_checkNothingTold_20)
  · have hw := hw.2 c_1
    exact vx_throwS (own := RX3) (cls := "java/lang/IllegalStateException") (names := exNames) hx hb hl9 hown (by decide +kernel) (by decide +kernel) (hT _ k_106) (hT _ k_107) (hZ.2.2.2 _ (List.mem_of_getElem? (i := 9) rfl)) (hat_176 hT hZ.2.2.1) hgd_176 hZ.1 hZ.2.1 hS (hl.1.trans hml.symm) dX3_checkNothingTold_10 dX3_checkNothingTold_13 dX3_checkNothingTold_14 dX3_checkNothingTold_16 dX3_checkNothingTold_19 (fun x h => (hno x h).elim) (Nat.le_of_ble_eq_true rfl) (Nat.le_of_ble_eq_true rfl) (Nat.le_of_ble_eq_true rfl) (Nat.le_of_ble_eq_true rfl) hlocks (fun t ha hsz hk => ⟨("java/lang/IllegalStateException", T), hw, ⟨rfl, hP.kept (fun k q hq => hk q.1 (hP k q hq).lt), va_K.moved ha hK, hD⟩, Nat.le_trans hS.1 hsz, fun q h1 h2 => (hk q (Nat.lt_of_lt_of_le h1 hS.1)).trans (hS.2.1 q h1 h2)⟩) hS.2.2 (Nat.le_of_ble_eq_true rfl) (Nat.le_of_ble_eq_true rfl)
def wp_X3_checkRoom (post : vBR → Prop) (px : String → vBR → Prop)  (B : vBR) (x1 : Int32) : Prop := ((x1 ≤ (40000 - B.2.2) → (post B)) ∧ (¬ x1 ≤ (40000 - B.2.2) → (px "java/lang/UnsupportedOperationException" B)))
abbrev rm_X3_checkRoom : Room := { frames := 6, cells := 1, slots := 6, locals := 82 }
set_option maxHeartbeats 4000000 in
set_option maxRecDepth 100000 in
theorem met_X3_checkRoom (l : Launch) (hl9 : l.stackTraces = false) (dC : Nat → ClassId) (dI : Nat → Nat → Nat) (cI cZ cJ cL : ClassId) (sa : Nat → Nat) (a0 a1 : Nat) (sz : Nat) (post : vBR → Prop) (px : String → vBR → Prop)  (B : vBR) (x1 : Int32) (hw : wp_X3_checkRoom post px  B x1) : vx_Met l yX3_checkRoom wsX3_checkRoom rm_X3_checkRoom (pcX (dC, dI) (tysA cI cZ cJ cL) sa (wBR cI a0 a1 B) sz [.ref a0, .int x1]) (va_Qv post (fun u t => qB (dC, dI) (tysA cI cZ cJ cL) (va_A (wBR cI a0 a1 B) sz) (wBR cI a0 a1 u) t) (va_A (wBR cI a0 a1 B) sz)) (vx_X (fun u : String × vBR => px u.1 u.2) (fun E u t => E = u.1 ∧ qB (dC, dI) (tysA cI cZ cJ cL) (va_A (wBR cI a0 a1 B) sz) (wBR cI a0 a1 u.2) t) (va_A (wBR cI a0 a1 B) sz)) 1 6 (va_A (wBR cI a0 a1 B) sz) := by
  refine vx_ofW (cc := cX3_checkRoom) (maxL := 2) (ret := none) (by decide) rfl ?_
  intro p e s m args below meth c s₁ Bd hml hno hv
  obtain ⟨hargs, hsz, hP, hK, hD0, hZ⟩ := hv
  have hx := Bd.exec
  have hb := Bd.bytes
  have hr := Bd.returns
  have hts := atoms_spec (ws := wsX3_checkRoom) Bd.pre
  have hT : ∀ w ∈ WALL, w.before args s = true := fun w h => hts w (List.mem_cons_of_mem _ h)
  have hown : s.vm.findClass RX3 = some m.cls := findClass_of_methodNamed Bd.named
  have hlocks := Bd.notSynchronized
  subst hsz
  have hD := hD0.self (sz := s.heap.size)
  generalize hAe : va_A (wBR cI a0 a1 B) s.heap.size = A at hD ⊢
  have hA : ∀ q : Nat, s.heap.size ≤ q → A q := fun q h => by rw [← hAe]; exact Or.inr h
  have hS : va_S A s.heap s.heap [] := va_S.rf
  rw [hAe] at hZ
  have hP : va_P (dC, dI) vwCl (wBR cI a0 a1 B) s.heap := hP
  have hl := lv_entry ([.ref a0, .int x1]) (n := 2) (Nat.le_of_ble_eq_true rfl)
  rw [show entryFrame m args 2 = F0 m 0 _ [] from by rw [hargs]; exact lg_entry_eq m ([.ref a0, .int x1]) 2]
  generalize (lg_sl ([.ref a0, .int x1]) ++ List.replicate (2 - (lg_sl ([.ref a0, .int x1])).length) Slot.unset).toArray = ls at hl ⊢
  have hl : lv_has ls 2 [(0, .ref a0), (1, .int x1)] := hl
  obtain ⟨H, hH⟩ : ∃ z : Heap, z = s.heap := ⟨_, rfl⟩
  obtain ⟨locs, hlocs⟩ : ∃ z : List Loc, z = [] := ⟨_, rfl⟩
  rw [show W p l e (headSpec wsX3_checkRoom rm_X3_checkRoom).room s m args below meth c s.heap [] 0 0 = W p l e (headSpec wsX3_checkRoom rm_X3_checkRoom).room s m args below meth c H locs 0 0 from by rw [hH, hlocs]]
  have hP : va_P (dC, dI) vwCl (wBR cI a0 a1 B) H := by rw [hH]; exact hP
  have hS : va_S A s.heap H locs := by rw [hH, hlocs]; exact hS
  unfold wp_X3_checkRoom at hw
  refine lv_iload_n hx hb dX3_checkRoom_0 rfl (lv_at hl 1 rfl) ?_
  refine lv_ldc hx hb hown (hT _ k_108) dX3_checkRoom_1 ?_
  refine lv_aload_n hx hb dX3_checkRoom_3 rfl (lv_at hl 0 rfl) ?_
  refine va_get (D := (dC, dI)) (ci := 0) (v := .int B.2.2) (C := RX0) (T := TX0) (N := 3) hx hb hT inX0 hown hK hP 0 rfl rfl 2 (by decide) (hT _ k_23) (fun _ h9 => h9) rfl dX3_checkRoom_4 ?_
  refine lv_isub hx hb dX3_checkRoom_7 ?_
  refine lv_icmp_le (tgt := 21) hx hb dX3_checkRoom_8 (by decide) (fun c_1 => ?_) (fun c_1 => ?_)
  · have hw := hw.1 c_1
    refine W.widen (k := 1) (n := 6) (Nat.le_of_ble_eq_true rfl) (Nat.le_of_ble_eq_true rfl) ?_
    exact vx_ret (W.vret hx hb hr (fun t ht hW => ⟨⟨B, rfl, hw, by rw [ht]; exact hP, va_K.moved hW.alike hK, hD⟩, hS.F ht⟩) hS.2.2 dX3_checkRoom_21)
  · have hw := hw.2 c_1
    exact vx_throwS (own := RX3) (cls := "java/lang/UnsupportedOperationException") (names := exNames) hx hb hl9 hown (by decide +kernel) (by decide +kernel) (hT _ k_109) (hT _ k_110) (hZ.2.2.2 _ (List.mem_of_getElem? (i := 10) rfl)) (hat_182 hT hZ.2.2.1) hgd_182 hZ.1 hZ.2.1 hS (hl.1.trans hml.symm) dX3_checkRoom_11 dX3_checkRoom_14 dX3_checkRoom_15 dX3_checkRoom_17 dX3_checkRoom_20 (fun x h => (hno x h).elim) (Nat.le_of_ble_eq_true rfl) (Nat.le_of_ble_eq_true rfl) (Nat.le_of_ble_eq_true rfl) (Nat.le_of_ble_eq_true rfl) hlocks (fun t ha hsz hk => ⟨("java/lang/UnsupportedOperationException", B), hw, ⟨rfl, hP.kept (fun k q hq => hk q.1 (hP k q hq).lt), va_K.moved ha hK, hD⟩, Nat.le_trans hS.1 hsz, fun q h1 h2 => (hk q (Nat.lt_of_lt_of_le h1 hS.1)).trans (hS.2.1 q h1 h2)⟩) hS.2.2 (Nat.le_of_ble_eq_true rfl) (Nat.le_of_ble_eq_true rfl)
def wp_X3_leaf (post : Int32 → vTT → Prop) (px : String → vTT → Prop) (nl : Nat) (nn : Nat) (S : vSH) (T : vTT) (x1 : Int32) (x2 : Int32) : Prop := wp_X3_checkOrder (fun N_1 => ((x2 < 0 → (px "java/lang/IndexOutOfBoundsException" T)) ∧ (¬ x2 < 0 → (((x2 < S.1.2.2.1 → (wp_X1_leafX (fun r_4 => wp_X1_leafY (fun r_5 => wp_X1_nodeAt (fun r_6 => post r_6 T) nl S  0 r_4 r_5) nl S  x1 x2) nl S  x1 x2)) ∧ (¬ x2 < S.1.2.2.1 → (px "java/lang/IndexOutOfBoundsException" T))))))) (fun E N_1 => px E T)   x1
abbrev rm_X3_leaf : Room := { frames := 7, cells := 2, slots := 12, locals := 102 }
set_option maxHeartbeats 4000000 in
set_option maxRecDepth 100000 in
theorem met_X3_leaf (l : Launch) (hl9 : l.stackTraces = false) (dC : Nat → ClassId) (dI : Nat → Nat → Nat) (cI cZ cJ cL : ClassId) (sa : Nat → Nat) (ad ra : Nat → Nat) (sz : Nat) (post : Int32 → vTT → Prop) (px : String → vTT → Prop) (nl : Nat) (nn : Nat) (S : vSH) (T : vTT) (x1 : Int32) (x2 : Int32) (hw : wp_X3_leaf post px nl nn S T x1 x2) : vx_Met l yX3_leaf wsX3_leaf rm_X3_leaf (pcX (dC, dI) (tysA cI cZ cJ cL) sa (wTT cI cZ cJ nl nn ad ra S T) sz [.ref (ad 0), .int x1, .int x2]) (va_Qi post (fun u t => qB (dC, dI) (tysA cI cZ cJ cL) (va_A (wTT cI cZ cJ nl nn ad ra S T) sz) (wTT cI cZ cJ nl nn ad ra S u) t) (va_A (wTT cI cZ cJ nl nn ad ra S T) sz)) (vx_X (fun u : String × vTT => px u.1 u.2) (fun E u t => E = u.1 ∧ qB (dC, dI) (tysA cI cZ cJ cL) (va_A (wTT cI cZ cJ nl nn ad ra S T) sz) (wTT cI cZ cJ nl nn ad ra S u.2) t) (va_A (wTT cI cZ cJ nl nn ad ra S T) sz)) 2 12 (va_A (wTT cI cZ cJ nl nn ad ra S T) sz) := by
  refine vx_ofW (cc := cX3_leaf) (maxL := 3) (ret := (some .int)) (by decide) rfl ?_
  intro p e s m args below meth c s₁ Bd hml hno hv
  obtain ⟨hargs, hsz, hP, hK, hD0, hZ⟩ := hv
  have hx := Bd.exec
  have hb := Bd.bytes
  have hr := Bd.returns
  have hts := atoms_spec (ws := wsX3_leaf) Bd.pre
  have hT : ∀ w ∈ WALL, w.before args s = true := fun w h => hts w (List.mem_cons_of_mem _ h)
  have hown : s.vm.findClass RX3 = some m.cls := findClass_of_methodNamed Bd.named
  have hlocks := Bd.notSynchronized
  subst hsz
  have hD := hD0.self (sz := s.heap.size)
  generalize hAe : va_A (wTT cI cZ cJ nl nn ad ra S T) s.heap.size = A at hD ⊢
  have hA : ∀ q : Nat, s.heap.size ≤ q → A q := fun q h => by rw [← hAe]; exact Or.inr h
  have hS : va_S A s.heap s.heap [] := va_S.rf
  rw [hAe] at hZ
  have hP : va_P (dC, dI) vwCl (wTT cI cZ cJ nl nn ad ra S T) s.heap := hP
  have hl := lv_entry ([.ref (ad 0), .int x1, .int x2]) (n := 3) (Nat.le_of_ble_eq_true rfl)
  rw [show entryFrame m args 3 = F0 m 0 _ [] from by rw [hargs]; exact lg_entry_eq m ([.ref (ad 0), .int x1, .int x2]) 3]
  generalize (lg_sl ([.ref (ad 0), .int x1, .int x2]) ++ List.replicate (3 - (lg_sl ([.ref (ad 0), .int x1, .int x2])).length) Slot.unset).toArray = ls at hl ⊢
  have hl : lv_has ls 3 [(0, .ref (ad 0)), (1, .int x1), (2, .int x2)] := hl
  obtain ⟨H, hH⟩ : ∃ z : Heap, z = s.heap := ⟨_, rfl⟩
  obtain ⟨locs, hlocs⟩ : ∃ z : List Loc, z = [] := ⟨_, rfl⟩
  rw [show W p l e (headSpec wsX3_leaf rm_X3_leaf).room s m args below meth c s.heap [] 0 0 = W p l e (headSpec wsX3_leaf rm_X3_leaf).room s m args below meth c H locs 0 0 from by rw [hH, hlocs]]
  have hP : va_P (dC, dI) vwCl (wTT cI cZ cJ nl nn ad ra S T) H := by rw [hH]; exact hP
  have hS : va_S A s.heap H locs := by rw [hH, hlocs]; exact hS
  unfold wp_X3_leaf at hw
  refine lv_iload_n hx hb dX3_leaf_0 rfl (lv_at hl 1 rfl) ?_
  have hPc : va_P (dC, dI) vwCl [] H := hP.sub (ws' := []) [] rfl
  have hDc : va_D A [] := hD.sub (ws' := []) [] (by decide) rfl
  have hFc := va_free (wc := []) hD hS hA [] rfl
  refine vx_callv (vx_runS (As := [.int x1]) (rest := []) ⟨hx, hb, hml, hown, hT⟩ (met_X3_checkOrder l hl9 dC dI cI cZ cJ cL sa  H.size _ _   x1 hw) (va_cwS 1 hT (gS k_111 k_113 k_57 k_112) rfl rfl rfl (by decide +kernel) ⟨(Nat.le_of_ble_eq_true rfl), (Nat.le_of_ble_eq_true rfl)⟩) ⟨bl_X, fun U hU hW => ⟨rfl, by rw [hU], by rw [hU]; exact hPc, va_K.moved hW.alike hK, hDc.weaken (fun _ _ _ _ => trivial), hZ.call hW hU hS hFc⟩⟩ rfl rfl hl.1 rfl (lv_room (Nat.le_of_ble_eq_true rfl)) dX3_leaf_1 ⟨Nat.le_of_ble_eq_true rfl, Nat.le_of_ble_eq_true rfl⟩) hS (fun q _ h => hFc q h) hFc (fun q _ h => hFc q h) (fun E ce q9 u9 t H1 locs ht hvm hw hB hz1 hk1 hS hce hcv hcl => ?_) (fun N_1 t H1 locs ht hvm hw hB hz1 hk1 hS => ?_)
  · obtain ⟨E9, N_1⟩ := u9
    obtain ⟨rfl, hP1, -, hD1⟩ := hB
    try dsimp only at hw
    rw [ht] at hP1
    obtain ⟨hP, hD⟩ := va_join (wr := [(ad 0, .inr (3, [.ref (ad 1), .ref (ad 9), .ref (ad 10), .ref (ad 13), .ref (ad 16), .ref (ad 18), .int T.2.2.2.2.2])), (ad 1, .inr (1, [.int S.1.1, .int S.1.2.1, .int S.1.2.2.1, .int S.1.2.2.2.1, .int S.1.2.2.2.2, .ref (ad 2), .ref (ad 3), .ref (ad 4), .ref (ad 5)])), (ad 2, .inl (cI, 6, .inl S.2.1.1)), (ad 3, .inl (cI, 6, .inl S.2.1.2.1)), (ad 4, .inl (cI, 6, .inl S.2.1.2.2)), (ad 5, .inl (cJ, 3, .inr (.inr (.inr (.inr (fun i => if i < 3 then some (ra i) else none)))))), (ra 0, .inl (cI, nl, .inl (S.2.2 0))), (ra 1, .inl (cI, nl, .inl (S.2.2 1))), (ra 2, .inl (cI, nl, .inl (S.2.2 2))), (ad 9, .inl (cI, nn, .inl T.1)), (ad 10, .inr (2, [.ref (ad 11), .ref (ad 12), .int T.2.1.2.2])), (ad 11, .inl (cI, nn, .inl T.2.1.1)), (ad 12, .inl (cZ, nn, .inl T.2.1.2.1)), (ad 13, .inr (2, [.ref (ad 14), .ref (ad 15), .int T.2.2.1.2.2])), (ad 14, .inl (cI, nn, .inl T.2.2.1.1)), (ad 15, .inl (cZ, nn, .inl T.2.2.1.2.1)), (ad 16, .inr (0, [.ref (ad 17), .int T.2.2.2.1.2.1, .int T.2.2.2.1.2.2])), (ad 17, .inl (cI, 1250, .inl T.2.2.2.1.1)), (ad 18, .inr (0, [.ref (ad 19), .int T.2.2.2.2.1.2.1, .int T.2.2.2.2.1.2.2])), (ad 19, .inl (cI, 1250, .inl T.2.2.2.2.1.1))]) (w1 := []) hP hD [] [0, 1, 2, 3, 4, 5, 6, 7, 8, 9, 10, 11, 12, 13, 14, 15, 16, 17, 18, 19] rfl rfl (by decide) (by decide) hk1 hFc hP1 hD1
    generalize H1 = H at hP hS hce ⊢
    have hP := hP.sub (ws' := wTT cI cZ cJ nl nn ad ra S T) [0, 1, 2, 3, 4, 5, 6, 7, 8, 9, 10, 11, 12, 13, 14, 15, 16, 17, 18, 19] rfl
    have hD := hD.sub (ws' := wTT cI cZ cJ nl nn ad ra S T) [0, 1, 2, 3, 4, 5, 6, 7, 8, 9, 10, 11, 12, 13, 14, 15, 16, 17, 18, 19] (by decide) rfl
    exact vx_out (fun x h => (hno x h).elim) hlocks hce hcv hcl (fun t ht ha => ⟨(E, T), hw, ⟨rfl, by rw [ht]; exact hP, va_K.moved ha hK, hD⟩, hS.F ht⟩) hS.2.2 (Nat.le_of_ble_eq_true rfl) (Nat.le_of_ble_eq_true rfl)
  · obtain ⟨hP1, -, hD1⟩ := hB
    try dsimp only at hw
    rw [ht] at hP1
    obtain ⟨hP, hD⟩ := va_join (wr := [(ad 0, .inr (3, [.ref (ad 1), .ref (ad 9), .ref (ad 10), .ref (ad 13), .ref (ad 16), .ref (ad 18), .int T.2.2.2.2.2])), (ad 1, .inr (1, [.int S.1.1, .int S.1.2.1, .int S.1.2.2.1, .int S.1.2.2.2.1, .int S.1.2.2.2.2, .ref (ad 2), .ref (ad 3), .ref (ad 4), .ref (ad 5)])), (ad 2, .inl (cI, 6, .inl S.2.1.1)), (ad 3, .inl (cI, 6, .inl S.2.1.2.1)), (ad 4, .inl (cI, 6, .inl S.2.1.2.2)), (ad 5, .inl (cJ, 3, .inr (.inr (.inr (.inr (fun i => if i < 3 then some (ra i) else none)))))), (ra 0, .inl (cI, nl, .inl (S.2.2 0))), (ra 1, .inl (cI, nl, .inl (S.2.2 1))), (ra 2, .inl (cI, nl, .inl (S.2.2 2))), (ad 9, .inl (cI, nn, .inl T.1)), (ad 10, .inr (2, [.ref (ad 11), .ref (ad 12), .int T.2.1.2.2])), (ad 11, .inl (cI, nn, .inl T.2.1.1)), (ad 12, .inl (cZ, nn, .inl T.2.1.2.1)), (ad 13, .inr (2, [.ref (ad 14), .ref (ad 15), .int T.2.2.1.2.2])), (ad 14, .inl (cI, nn, .inl T.2.2.1.1)), (ad 15, .inl (cZ, nn, .inl T.2.2.1.2.1)), (ad 16, .inr (0, [.ref (ad 17), .int T.2.2.2.1.2.1, .int T.2.2.2.1.2.2])), (ad 17, .inl (cI, 1250, .inl T.2.2.2.1.1)), (ad 18, .inr (0, [.ref (ad 19), .int T.2.2.2.2.1.2.1, .int T.2.2.2.2.1.2.2])), (ad 19, .inl (cI, 1250, .inl T.2.2.2.2.1.1))]) (w1 := []) hP hD [] [0, 1, 2, 3, 4, 5, 6, 7, 8, 9, 10, 11, 12, 13, 14, 15, 16, 17, 18, 19] rfl rfl (by decide) (by decide) hk1 hFc hP1 hD1
    generalize H1 = H at hP hS ⊢
    have hP := hP.sub (ws' := wTT cI cZ cJ nl nn ad ra S T) [0, 1, 2, 3, 4, 5, 6, 7, 8, 9, 10, 11, 12, 13, 14, 15, 16, 17, 18, 19] rfl
    have hD := hD.sub (ws' := wTT cI cZ cJ nl nn ad ra S T) [0, 1, 2, 3, 4, 5, 6, 7, 8, 9, 10, 11, 12, 13, 14, 15, 16, 17, 18, 19] (by decide) rfl
    refine lv_iload_n hx hb dX3_leaf_4 rfl (lv_at hl 2 rfl) ?_
    refine lv_if_lt (tgt := 19) hx hb dX3_leaf_5 (by decide) (fun c_2 => ?_) (fun c_2 => ?_)
    · have hw := hw.1 c_2
      exact vx_throwS (own := RX3) (cls := "java/lang/IndexOutOfBoundsException") (names := exNames) hx hb hl9 hown (by decide +kernel) (by decide +kernel) (hT _ k_114) (hT _ k_115) (hZ.2.2.2 _ (List.mem_of_getElem? (i := 5) rfl)) (hat_123 hT hZ.2.2.1) hgd_123 hZ.1 hZ.2.1 hS (hl.1.trans hml.symm) dX3_leaf_19 dX3_leaf_22 dX3_leaf_23 dX3_leaf_25 dX3_leaf_28 (fun x h => (hno x h).elim) (Nat.le_of_ble_eq_true rfl) (Nat.le_of_ble_eq_true rfl) (Nat.le_of_ble_eq_true rfl) (Nat.le_of_ble_eq_true rfl) hlocks (fun t ha hsz hk => ⟨("java/lang/IndexOutOfBoundsException", T), hw, ⟨rfl, hP.kept (fun k q hq => hk q.1 (hP k q hq).lt), va_K.moved ha hK, hD⟩, Nat.le_trans hS.1 hsz, fun q h1 h2 => (hk q (Nat.lt_of_lt_of_le h1 hS.1)).trans (hS.2.1 q h1 h2)⟩) hS.2.2 (Nat.le_of_ble_eq_true rfl) (Nat.le_of_ble_eq_true rfl)
    · have hw := hw.2 c_2
      refine lv_iload_n hx hb dX3_leaf_8 rfl (lv_at hl 2 rfl) ?_
      refine lv_aload_n hx hb dX3_leaf_9 rfl (lv_at hl 0 rfl) ?_
      refine va_get (D := (dC, dI)) (ci := 3) (v := .ref (ad 1)) (C := RX3) (T := TX3) (N := 7) hx hb hT inX3 hown hK hP 0 rfl rfl 0 (by decide) (hT _ k_17) (fun _ h9 => h9) rfl dX3_leaf_10 ?_
      refine va_get (D := (dC, dI)) (ci := 1) (v := .int S.1.2.2.1) (C := RX1) (T := TX1) (N := 9) hx hb hT inX1 hown hK hP 1 rfl rfl 2 (by decide) (hT _ k_116) (fun _ h9 => h9) rfl dX3_leaf_13 ?_
      refine lv_icmp_lt (tgt := 29) hx hb dX3_leaf_16 (by decide) (fun c_3 => ?_) (fun c_3 => ?_)
      · have hw := hw.1 c_3
        refine lv_aload_n hx hb dX3_leaf_29 rfl (lv_at hl 0 rfl) ?_
        refine va_get (D := (dC, dI)) (ci := 3) (v := .ref (ad 1)) (C := RX3) (T := TX3) (N := 7) hx hb hT inX3 hown hK hP 0 rfl rfl 0 (by decide) (hT _ k_17) (fun _ h9 => h9) rfl dX3_leaf_30 ?_
        refine lv_iconst (v := 0) hx hb dX3_leaf_33 (by decide) ?_
        refine lv_aload_n hx hb dX3_leaf_34 rfl (lv_at hl 0 rfl) ?_
        refine va_get (D := (dC, dI)) (ci := 3) (v := .ref (ad 1)) (C := RX3) (T := TX3) (N := 7) hx hb hT inX3 hown hK hP 0 rfl rfl 0 (by decide) (hT _ k_17) (fun _ h9 => h9) rfl dX3_leaf_35 ?_
        refine lv_iload_n hx hb dX3_leaf_38 rfl (lv_at hl 1 rfl) ?_
        refine lv_iload_n hx hb dX3_leaf_39 rfl (lv_at hl 2 rfl) ?_
        have hPc := hP.sub (ws' := wSH cI cJ nl (ad 1) (ad 2) (ad 3) (ad 4) (ad 5) ra S) [1, 2, 3, 4, 5, 6, 7, 8] rfl
        refine vp_callSi (W.runV (As := [.int x1, .int x2]) (rest := [.int 0, .ref (ad 1)]) ⟨hx, hb, hml, hown, hT⟩ (met_X1_leafX l dC dI cI cZ cJ cL (ad 1) (ad 2) (ad 3) (ad 4) (ad 5) ra _ nl S  x1 x2 hw) (cwV 2 hT (gV k_117 k_119 k_120 k_43 k_118) rfl rfl rfl (by decide +kernel) ⟨(Nat.le_of_ble_eq_true rfl), (Nat.le_of_ble_eq_true rfl)⟩) ⟨bl_R, va_recv hK hPc (ci := 1) (q0 := 0) rfl rfl, fun U hU hW => ⟨rfl, by rw [hU]; exact hPc, va_K.moved hW.alike hK⟩⟩ rfl rfl hl.1 rfl (lv_room (Nat.le_of_ble_eq_true rfl)) dX3_leaf_40 ⟨Nat.le_of_ble_eq_true rfl, Nat.le_of_ble_eq_true rfl⟩) (fun r_4 hw => ?_)
        try dsimp only at hw
        refine lv_aload_n hx hb dX3_leaf_43 rfl (lv_at hl 0 rfl) ?_
        refine va_get (D := (dC, dI)) (ci := 3) (v := .ref (ad 1)) (C := RX3) (T := TX3) (N := 7) hx hb hT inX3 hown hK hP 0 rfl rfl 0 (by decide) (hT _ k_17) (fun _ h9 => h9) rfl dX3_leaf_44 ?_
        refine lv_iload_n hx hb dX3_leaf_47 rfl (lv_at hl 1 rfl) ?_
        refine lv_iload_n hx hb dX3_leaf_48 rfl (lv_at hl 2 rfl) ?_
        have hPc := hP.sub (ws' := wSH cI cJ nl (ad 1) (ad 2) (ad 3) (ad 4) (ad 5) ra S) [1, 2, 3, 4, 5, 6, 7, 8] rfl
        refine vp_callSi (W.runV (As := [.int x1, .int x2]) (rest := [.int r_4, .int 0, .ref (ad 1)]) ⟨hx, hb, hml, hown, hT⟩ (met_X1_leafY l dC dI cI cZ cJ cL (ad 1) (ad 2) (ad 3) (ad 4) (ad 5) ra _ nl S  x1 x2 hw) (cwV 2 hT (gV k_121 k_123 k_124 k_43 k_122) rfl rfl rfl (by decide +kernel) ⟨(Nat.le_of_ble_eq_true rfl), (Nat.le_of_ble_eq_true rfl)⟩) ⟨bl_R, va_recv hK hPc (ci := 1) (q0 := 0) rfl rfl, fun U hU hW => ⟨rfl, by rw [hU]; exact hPc, va_K.moved hW.alike hK⟩⟩ rfl rfl hl.1 rfl (lv_room (Nat.le_of_ble_eq_true rfl)) dX3_leaf_49 ⟨Nat.le_of_ble_eq_true rfl, Nat.le_of_ble_eq_true rfl⟩) (fun r_5 hw => ?_)
        try dsimp only at hw
        have hPc := hP.sub (ws' := wSH cI cJ nl (ad 1) (ad 2) (ad 3) (ad 4) (ad 5) ra S) [1, 2, 3, 4, 5, 6, 7, 8] rfl
        refine vp_callSi (W.runV (As := [.int 0, .int r_4, .int r_5]) (rest := []) ⟨hx, hb, hml, hown, hT⟩ (met_X1_nodeAt l dC dI cI cZ cJ cL (ad 1) (ad 2) (ad 3) (ad 4) (ad 5) ra _ nl S  0 r_4 r_5 hw) (cwV 3 hT (gV k_45 k_47 k_48 k_43 k_46) rfl rfl rfl (by decide +kernel) ⟨(Nat.le_of_ble_eq_true rfl), (Nat.le_of_ble_eq_true rfl)⟩) ⟨bl_R, va_recv hK hPc (ci := 1) (q0 := 0) rfl rfl, fun U hU hW => ⟨rfl, by rw [hU]; exact hPc, va_K.moved hW.alike hK⟩⟩ rfl rfl hl.1 rfl (lv_room (Nat.le_of_ble_eq_true rfl)) dX3_leaf_52 ⟨Nat.le_of_ble_eq_true rfl, Nat.le_of_ble_eq_true rfl⟩) (fun r_6 hw => ?_)
        try dsimp only at hw
        refine W.widen (k := 2) (n := 12) (Nat.le_of_ble_eq_true rfl) (Nat.le_of_ble_eq_true rfl) ?_
        exact vx_ret (W.iret (v := r_6) hx hb hr (fun t ht hW => ⟨⟨r_6, T, rfl, hw, by rw [ht]; exact hP, va_K.moved hW.alike hK, hD⟩, hS.F ht⟩) hS.2.2 dX3_leaf_55)
      · have hw := hw.2 c_3
        exact vx_throwS (own := RX3) (cls := "java/lang/IndexOutOfBoundsException") (names := exNames) hx hb hl9 hown (by decide +kernel) (by decide +kernel) (hT _ k_114) (hT _ k_115) (hZ.2.2.2 _ (List.mem_of_getElem? (i := 5) rfl)) (hat_123 hT hZ.2.2.1) hgd_123 hZ.1 hZ.2.1 hS (hl.1.trans hml.symm) dX3_leaf_19 dX3_leaf_22 dX3_leaf_23 dX3_leaf_25 dX3_leaf_28 (fun x h => (hno x h).elim) (Nat.le_of_ble_eq_true rfl) (Nat.le_of_ble_eq_true rfl) (Nat.le_of_ble_eq_true rfl) (Nat.le_of_ble_eq_true rfl) hlocks (fun t ha hsz hk => ⟨("java/lang/IndexOutOfBoundsException", T), hw, ⟨rfl, hP.kept (fun k q hq => hk q.1 (hP k q hq).lt), va_K.moved ha hK, hD⟩, Nat.le_trans hS.1 hsz, fun q h1 h2 => (hk q (Nat.lt_of_lt_of_le h1 hS.1)).trans (hS.2.1 q h1 h2)⟩) hS.2.2 (Nat.le_of_ble_eq_true rfl) (Nat.le_of_ble_eq_true rfl)
def wp_X3_checkNode (post : vTT → Prop) (px : String → vTT → Prop) (nl : Nat) (nn : Nat) (S : vSH) (T : vTT) (x1 : Int32) (x2 : Int32) (x3 : Int32) : Prop := wp_X1_hasNode (fun r_1 => ((r_1 = 0 → (px "java/lang/IndexOutOfBoundsException" T)) ∧ (¬ r_1 = 0 → (post T)))) nl S  x1 x2 x3
abbrev rm_X3_checkNode : Room := { frames := 6, cells := 1, slots := 6, locals := 82 }
set_option maxHeartbeats 4000000 in
set_option maxRecDepth 100000 in
theorem met_X3_checkNode (l : Launch) (hl9 : l.stackTraces = false) (dC : Nat → ClassId) (dI : Nat → Nat → Nat) (cI cZ cJ cL : ClassId) (sa : Nat → Nat) (ad ra : Nat → Nat) (sz : Nat) (post : vTT → Prop) (px : String → vTT → Prop) (nl : Nat) (nn : Nat) (S : vSH) (T : vTT) (x1 : Int32) (x2 : Int32) (x3 : Int32) (hw : wp_X3_checkNode post px nl nn S T x1 x2 x3) : vx_Met l yX3_checkNode wsX3_checkNode rm_X3_checkNode (pcX (dC, dI) (tysA cI cZ cJ cL) sa (wTT cI cZ cJ nl nn ad ra S T) sz [.ref (ad 0), .int x1, .int x2, .int x3]) (va_Qv post (fun u t => qB (dC, dI) (tysA cI cZ cJ cL) (va_A (wTT cI cZ cJ nl nn ad ra S T) sz) (wTT cI cZ cJ nl nn ad ra S u) t) (va_A (wTT cI cZ cJ nl nn ad ra S T) sz)) (vx_X (fun u : String × vTT => px u.1 u.2) (fun E u t => E = u.1 ∧ qB (dC, dI) (tysA cI cZ cJ cL) (va_A (wTT cI cZ cJ nl nn ad ra S T) sz) (wTT cI cZ cJ nl nn ad ra S u.2) t) (va_A (wTT cI cZ cJ nl nn ad ra S T) sz)) 1 6 (va_A (wTT cI cZ cJ nl nn ad ra S T) sz) := by
  refine vx_ofW (cc := cX3_checkNode) (maxL := 4) (ret := none) (by decide) rfl ?_
  intro p e s m args below meth c s₁ Bd hml hno hv
  obtain ⟨hargs, hsz, hP, hK, hD0, hZ⟩ := hv
  have hx := Bd.exec
  have hb := Bd.bytes
  have hr := Bd.returns
  have hts := atoms_spec (ws := wsX3_checkNode) Bd.pre
  have hT : ∀ w ∈ WALL, w.before args s = true := fun w h => hts w (List.mem_cons_of_mem _ h)
  have hown : s.vm.findClass RX3 = some m.cls := findClass_of_methodNamed Bd.named
  have hlocks := Bd.notSynchronized
  subst hsz
  have hD := hD0.self (sz := s.heap.size)
  generalize hAe : va_A (wTT cI cZ cJ nl nn ad ra S T) s.heap.size = A at hD ⊢
  have hA : ∀ q : Nat, s.heap.size ≤ q → A q := fun q h => by rw [← hAe]; exact Or.inr h
  have hS : va_S A s.heap s.heap [] := va_S.rf
  rw [hAe] at hZ
  have hP : va_P (dC, dI) vwCl (wTT cI cZ cJ nl nn ad ra S T) s.heap := hP
  have hl := lv_entry ([.ref (ad 0), .int x1, .int x2, .int x3]) (n := 4) (Nat.le_of_ble_eq_true rfl)
  rw [show entryFrame m args 4 = F0 m 0 _ [] from by rw [hargs]; exact lg_entry_eq m ([.ref (ad 0), .int x1, .int x2, .int x3]) 4]
  generalize (lg_sl ([.ref (ad 0), .int x1, .int x2, .int x3]) ++ List.replicate (4 - (lg_sl ([.ref (ad 0), .int x1, .int x2, .int x3])).length) Slot.unset).toArray = ls at hl ⊢
  have hl : lv_has ls 4 [(0, .ref (ad 0)), (1, .int x1), (2, .int x2), (3, .int x3)] := hl
  obtain ⟨H, hH⟩ : ∃ z : Heap, z = s.heap := ⟨_, rfl⟩
  obtain ⟨locs, hlocs⟩ : ∃ z : List Loc, z = [] := ⟨_, rfl⟩
  rw [show W p l e (headSpec wsX3_checkNode rm_X3_checkNode).room s m args below meth c s.heap [] 0 0 = W p l e (headSpec wsX3_checkNode rm_X3_checkNode).room s m args below meth c H locs 0 0 from by rw [hH, hlocs]]
  have hP : va_P (dC, dI) vwCl (wTT cI cZ cJ nl nn ad ra S T) H := by rw [hH]; exact hP
  have hS : va_S A s.heap H locs := by rw [hH, hlocs]; exact hS
  unfold wp_X3_checkNode at hw
  refine lv_aload_n hx hb dX3_checkNode_0 rfl (lv_at hl 0 rfl) ?_
  refine va_get (D := (dC, dI)) (ci := 3) (v := .ref (ad 1)) (C := RX3) (T := TX3) (N := 7) hx hb hT inX3 hown hK hP 0 rfl rfl 0 (by decide) (hT _ k_17) (fun _ h9 => h9) rfl dX3_checkNode_1 ?_
  refine lv_iload_n hx hb dX3_checkNode_4 rfl (lv_at hl 1 rfl) ?_
  refine lv_iload_n hx hb dX3_checkNode_5 rfl (lv_at hl 2 rfl) ?_
  refine lv_iload_n hx hb dX3_checkNode_6 rfl (lv_at hl 3 rfl) ?_
  have hPc := hP.sub (ws' := wSH cI cJ nl (ad 1) (ad 2) (ad 3) (ad 4) (ad 5) ra S) [1, 2, 3, 4, 5, 6, 7, 8] rfl
  refine vp_callSi (W.runV (As := [.int x1, .int x2, .int x3]) (rest := []) ⟨hx, hb, hml, hown, hT⟩ (met_X1_hasNode l dC dI cI cZ cJ cL (ad 1) (ad 2) (ad 3) (ad 4) (ad 5) ra _ nl S  x1 x2 x3 hw) (cwV 3 hT (gV k_39 k_41 k_42 k_43 k_40) rfl rfl rfl (by decide +kernel) ⟨(Nat.le_of_ble_eq_true rfl), (Nat.le_of_ble_eq_true rfl)⟩) ⟨bl_R, va_recv hK hPc (ci := 1) (q0 := 0) rfl rfl, fun U hU hW => ⟨rfl, by rw [hU]; exact hPc, va_K.moved hW.alike hK⟩⟩ rfl rfl hl.1 rfl (lv_room (Nat.le_of_ble_eq_true rfl)) dX3_checkNode_7 ⟨Nat.le_of_ble_eq_true rfl, Nat.le_of_ble_eq_true rfl⟩) (fun r_1 hw => ?_)
  try dsimp only at hw
  refine lv_if_ne (tgt := 23) hx hb dX3_checkNode_10 (by decide) (fun c_2 => ?_) (fun c_2 => ?_)
  · have hw := hw.2 c_2
    refine W.widen (k := 1) (n := 6) (Nat.le_of_ble_eq_true rfl) (Nat.le_of_ble_eq_true rfl) ?_
    exact vx_ret (W.vret hx hb hr (fun t ht hW => ⟨⟨T, rfl, hw, by rw [ht]; exact hP, va_K.moved hW.alike hK, hD⟩, hS.F ht⟩) hS.2.2 dX3_checkNode_23)
  · have hw := hw.1 c_2
    exact vx_throwS (own := RX3) (cls := "java/lang/IndexOutOfBoundsException") (names := exNames) hx hb hl9 hown (by decide +kernel) (by decide +kernel) (hT _ k_114) (hT _ k_115) (hZ.2.2.2 _ (List.mem_of_getElem? (i := 6) rfl)) (hat_123 hT hZ.2.2.1) hgd_123 hZ.1 hZ.2.1 hS (hl.1.trans hml.symm) dX3_checkNode_13 dX3_checkNode_16 dX3_checkNode_17 dX3_checkNode_19 dX3_checkNode_22 (fun x h => (hno x h).elim) (Nat.le_of_ble_eq_true rfl) (Nat.le_of_ble_eq_true rfl) (Nat.le_of_ble_eq_true rfl) (Nat.le_of_ble_eq_true rfl) hlocks (fun t ha hsz hk => ⟨("java/lang/IndexOutOfBoundsException", T), hw, ⟨rfl, hP.kept (fun k q hq => hk q.1 (hP k q hq).lt), va_K.moved ha hK, hD⟩, Nat.le_trans hS.1 hsz, fun q h1 h2 => (hk q (Nat.lt_of_lt_of_le h1 hS.1)).trans (hS.2.1 q h1 h2)⟩) hS.2.2 (Nat.le_of_ble_eq_true rfl) (Nat.le_of_ble_eq_true rfl)
def wp_X3_bitAt (post : Int32 → vTT → Prop) (px : String → vTT → Prop) (nl : Nat) (nn : Nat) (S : vSH) (T : vTT) (x1 : Int32) : Prop := ((x1 < 0 → (px "java/lang/IndexOutOfBoundsException" T)) ∧ (¬ x1 < 0 → (((x1 < T.2.2.2.1.2.2 → (wp_X0_look (fun r_3 => post r_3 T)  T.2.2.2.1 x1)) ∧ (¬ x1 < T.2.2.2.1.2.2 → (px "java/lang/IndexOutOfBoundsException" T))))))
abbrev rm_X3_bitAt : Room := { frames := 6, cells := 1, slots := 6, locals := 82 }
set_option maxHeartbeats 4000000 in
set_option maxRecDepth 100000 in
theorem met_X3_bitAt (l : Launch) (hl9 : l.stackTraces = false) (dC : Nat → ClassId) (dI : Nat → Nat → Nat) (cI cZ cJ cL : ClassId) (sa : Nat → Nat) (ad ra : Nat → Nat) (sz : Nat) (post : Int32 → vTT → Prop) (px : String → vTT → Prop) (nl : Nat) (nn : Nat) (S : vSH) (T : vTT) (x1 : Int32) (hw : wp_X3_bitAt post px nl nn S T x1) : vx_Met l yX3_bitAt wsX3_bitAt rm_X3_bitAt (pcX (dC, dI) (tysA cI cZ cJ cL) sa (wTT cI cZ cJ nl nn ad ra S T) sz [.ref (ad 0), .int x1]) (va_Qi post (fun u t => qB (dC, dI) (tysA cI cZ cJ cL) (va_A (wTT cI cZ cJ nl nn ad ra S T) sz) (wTT cI cZ cJ nl nn ad ra S u) t) (va_A (wTT cI cZ cJ nl nn ad ra S T) sz)) (vx_X (fun u : String × vTT => px u.1 u.2) (fun E u t => E = u.1 ∧ qB (dC, dI) (tysA cI cZ cJ cL) (va_A (wTT cI cZ cJ nl nn ad ra S T) sz) (wTT cI cZ cJ nl nn ad ra S u.2) t) (va_A (wTT cI cZ cJ nl nn ad ra S T) sz)) 1 6 (va_A (wTT cI cZ cJ nl nn ad ra S T) sz) := by
  refine vx_ofW (cc := cX3_bitAt) (maxL := 2) (ret := (some .int)) (by decide) rfl ?_
  intro p e s m args below meth c s₁ Bd hml hno hv
  obtain ⟨hargs, hsz, hP, hK, hD0, hZ⟩ := hv
  have hx := Bd.exec
  have hb := Bd.bytes
  have hr := Bd.returns
  have hts := atoms_spec (ws := wsX3_bitAt) Bd.pre
  have hT : ∀ w ∈ WALL, w.before args s = true := fun w h => hts w (List.mem_cons_of_mem _ h)
  have hown : s.vm.findClass RX3 = some m.cls := findClass_of_methodNamed Bd.named
  have hlocks := Bd.notSynchronized
  subst hsz
  have hD := hD0.self (sz := s.heap.size)
  generalize hAe : va_A (wTT cI cZ cJ nl nn ad ra S T) s.heap.size = A at hD ⊢
  have hA : ∀ q : Nat, s.heap.size ≤ q → A q := fun q h => by rw [← hAe]; exact Or.inr h
  have hS : va_S A s.heap s.heap [] := va_S.rf
  rw [hAe] at hZ
  have hP : va_P (dC, dI) vwCl (wTT cI cZ cJ nl nn ad ra S T) s.heap := hP
  have hl := lv_entry ([.ref (ad 0), .int x1]) (n := 2) (Nat.le_of_ble_eq_true rfl)
  rw [show entryFrame m args 2 = F0 m 0 _ [] from by rw [hargs]; exact lg_entry_eq m ([.ref (ad 0), .int x1]) 2]
  generalize (lg_sl ([.ref (ad 0), .int x1]) ++ List.replicate (2 - (lg_sl ([.ref (ad 0), .int x1])).length) Slot.unset).toArray = ls at hl ⊢
  have hl : lv_has ls 2 [(0, .ref (ad 0)), (1, .int x1)] := hl
  obtain ⟨H, hH⟩ : ∃ z : Heap, z = s.heap := ⟨_, rfl⟩
  obtain ⟨locs, hlocs⟩ : ∃ z : List Loc, z = [] := ⟨_, rfl⟩
  rw [show W p l e (headSpec wsX3_bitAt rm_X3_bitAt).room s m args below meth c s.heap [] 0 0 = W p l e (headSpec wsX3_bitAt rm_X3_bitAt).room s m args below meth c H locs 0 0 from by rw [hH, hlocs]]
  have hP : va_P (dC, dI) vwCl (wTT cI cZ cJ nl nn ad ra S T) H := by rw [hH]; exact hP
  have hS : va_S A s.heap H locs := by rw [hH, hlocs]; exact hS
  unfold wp_X3_bitAt at hw
  refine lv_iload_n hx hb dX3_bitAt_0 rfl (lv_at hl 1 rfl) ?_
  refine lv_if_lt (tgt := 15) hx hb dX3_bitAt_1 (by decide) (fun c_1 => ?_) (fun c_1 => ?_)
  · have hw := hw.1 c_1
    exact vx_throwS (own := RX3) (cls := "java/lang/IndexOutOfBoundsException") (names := exNames) hx hb hl9 hown (by decide +kernel) (by decide +kernel) (hT _ k_114) (hT _ k_115) (hZ.2.2.2 _ (List.mem_of_getElem? (i := 2) rfl)) (hat_123 hT hZ.2.2.1) hgd_123 hZ.1 hZ.2.1 hS (hl.1.trans hml.symm) dX3_bitAt_15 dX3_bitAt_18 dX3_bitAt_19 dX3_bitAt_21 dX3_bitAt_24 (fun x h => (hno x h).elim) (Nat.le_of_ble_eq_true rfl) (Nat.le_of_ble_eq_true rfl) (Nat.le_of_ble_eq_true rfl) (Nat.le_of_ble_eq_true rfl) hlocks (fun t ha hsz hk => ⟨("java/lang/IndexOutOfBoundsException", T), hw, ⟨rfl, hP.kept (fun k q hq => hk q.1 (hP k q hq).lt), va_K.moved ha hK, hD⟩, Nat.le_trans hS.1 hsz, fun q h1 h2 => (hk q (Nat.lt_of_lt_of_le h1 hS.1)).trans (hS.2.1 q h1 h2)⟩) hS.2.2 (Nat.le_of_ble_eq_true rfl) (Nat.le_of_ble_eq_true rfl)
  · have hw := hw.2 c_1
    refine lv_iload_n hx hb dX3_bitAt_4 rfl (lv_at hl 1 rfl) ?_
    refine lv_aload_n hx hb dX3_bitAt_5 rfl (lv_at hl 0 rfl) ?_
    refine va_get (D := (dC, dI)) (ci := 3) (v := .ref (ad 16)) (C := RX3) (T := TX3) (N := 7) hx hb hT inX3 hown hK hP 0 rfl rfl 4 (by decide) (hT _ k_22) (fun _ h9 => h9) rfl dX3_bitAt_6 ?_
    refine va_get (D := (dC, dI)) (ci := 0) (v := .int T.2.2.2.1.2.2) (C := RX0) (T := TX0) (N := 3) hx hb hT inX0 hown hK hP 16 rfl rfl 2 (by decide) (hT _ k_23) (fun _ h9 => h9) rfl dX3_bitAt_9 ?_
    refine lv_icmp_lt (tgt := 25) hx hb dX3_bitAt_12 (by decide) (fun c_2 => ?_) (fun c_2 => ?_)
    · have hw := hw.1 c_2
      refine lv_aload_n hx hb dX3_bitAt_25 rfl (lv_at hl 0 rfl) ?_
      refine va_get (D := (dC, dI)) (ci := 3) (v := .ref (ad 16)) (C := RX3) (T := TX3) (N := 7) hx hb hT inX3 hown hK hP 0 rfl rfl 4 (by decide) (hT _ k_22) (fun _ h9 => h9) rfl dX3_bitAt_26 ?_
      refine lv_iload_n hx hb dX3_bitAt_29 rfl (lv_at hl 1 rfl) ?_
      have hPc := hP.sub (ws' := wBR cI (ad 16) (ad 17) T.2.2.2.1) [16, 17] rfl
      refine vp_callSi (W.runV (As := [.int x1]) (rest := []) ⟨hx, hb, hml, hown, hT⟩ (met_X0_look l dC dI cI cZ cJ cL (ad 16) (ad 17) _  T.2.2.2.1 x1 hw) (cwV 1 hT (gV k_80 k_82 k_83 k_7 k_81) rfl rfl rfl (by decide +kernel) ⟨(Nat.le_of_ble_eq_true rfl), (Nat.le_of_ble_eq_true rfl)⟩) ⟨bl_R, va_recv hK hPc (ci := 0) (q0 := 0) rfl rfl, fun U hU hW => ⟨rfl, by rw [hU]; exact hPc, va_K.moved hW.alike hK⟩⟩ rfl rfl hl.1 rfl (lv_room (Nat.le_of_ble_eq_true rfl)) dX3_bitAt_30 ⟨Nat.le_of_ble_eq_true rfl, Nat.le_of_ble_eq_true rfl⟩) (fun r_3 hw => ?_)
      try dsimp only at hw
      refine W.widen (k := 1) (n := 6) (Nat.le_of_ble_eq_true rfl) (Nat.le_of_ble_eq_true rfl) ?_
      exact vx_ret (W.iret (v := r_3) hx hb hr (fun t ht hW => ⟨⟨r_3, T, rfl, hw, by rw [ht]; exact hP, va_K.moved hW.alike hK, hD⟩, hS.F ht⟩) hS.2.2 dX3_bitAt_33)
    · have hw := hw.2 c_2
      exact vx_throwS (own := RX3) (cls := "java/lang/IndexOutOfBoundsException") (names := exNames) hx hb hl9 hown (by decide +kernel) (by decide +kernel) (hT _ k_114) (hT _ k_115) (hZ.2.2.2 _ (List.mem_of_getElem? (i := 2) rfl)) (hat_123 hT hZ.2.2.1) hgd_123 hZ.1 hZ.2.1 hS (hl.1.trans hml.symm) dX3_bitAt_15 dX3_bitAt_18 dX3_bitAt_19 dX3_bitAt_21 dX3_bitAt_24 (fun x h => (hno x h).elim) (Nat.le_of_ble_eq_true rfl) (Nat.le_of_ble_eq_true rfl) (Nat.le_of_ble_eq_true rfl) (Nat.le_of_ble_eq_true rfl) hlocks (fun t ha hsz hk => ⟨("java/lang/IndexOutOfBoundsException", T), hw, ⟨rfl, hP.kept (fun k q hq => hk q.1 (hP k q hq).lt), va_K.moved ha hK, hD⟩, Nat.le_trans hS.1 hsz, fun q h1 h2 => (hk q (Nat.lt_of_lt_of_le h1 hS.1)).trans (hS.2.1 q h1 h2)⟩) hS.2.2 (Nat.le_of_ble_eq_true rfl) (Nat.le_of_ble_eq_true rfl)
def wp_X3_feed (post : Int32 → vTT → Prop) (px : String → vTT → Prop) (nl : Nat) (nn : Nat) (S : vSH) (T : vTT) (x1 : Int32) : Prop := ((x1 = 0 → (wp_X3_checkRoom (fun B_2 => wp_X0_append (fun B_3 => post B_3.2.2 (T.1, T.2.1, T.2.2.1, T.2.2.2.1, B_3, T.2.2.2.2.2))  B_2 x1) (fun E B_2 => px E (T.1, T.2.1, T.2.2.1, T.2.2.2.1, B_2, T.2.2.2.2.2))  T.2.2.2.2.1 1)) ∧ (¬ x1 = 0 → (((x1 = 1 → (wp_X3_checkRoom (fun B_5 => wp_X0_append (fun B_6 => post B_6.2.2 (T.1, T.2.1, T.2.2.1, T.2.2.2.1, B_6, T.2.2.2.2.2))  B_5 x1) (fun E B_5 => px E (T.1, T.2.1, T.2.2.1, T.2.2.2.1, B_5, T.2.2.2.2.2))  T.2.2.2.2.1 1)) ∧ (¬ x1 = 1 → (px "java/lang/IllegalArgumentException" T))))))
abbrev rm_X3_feed : Room := { frames := 7, cells := 2, slots := 12, locals := 103 }
set_option maxHeartbeats 4000000 in
set_option maxRecDepth 100000 in
theorem met_X3_feed (l : Launch) (hl9 : l.stackTraces = false) (dC : Nat → ClassId) (dI : Nat → Nat → Nat) (cI cZ cJ cL : ClassId) (sa : Nat → Nat) (ad ra : Nat → Nat) (sz : Nat) (post : Int32 → vTT → Prop) (px : String → vTT → Prop) (nl : Nat) (nn : Nat) (S : vSH) (T : vTT) (x1 : Int32) (hw : wp_X3_feed post px nl nn S T x1) : vx_Met l yX3_feed wsX3_feed rm_X3_feed (pcX (dC, dI) (tysA cI cZ cJ cL) sa (wTT cI cZ cJ nl nn ad ra S T) sz [.ref (ad 0), .int x1]) (va_Qi post (fun u t => qB (dC, dI) (tysA cI cZ cJ cL) (va_A (wTT cI cZ cJ nl nn ad ra S T) sz) (wTT cI cZ cJ nl nn ad ra S u) t) (va_A (wTT cI cZ cJ nl nn ad ra S T) sz)) (vx_X (fun u : String × vTT => px u.1 u.2) (fun E u t => E = u.1 ∧ qB (dC, dI) (tysA cI cZ cJ cL) (va_A (wTT cI cZ cJ nl nn ad ra S T) sz) (wTT cI cZ cJ nl nn ad ra S u.2) t) (va_A (wTT cI cZ cJ nl nn ad ra S T) sz)) 2 12 (va_A (wTT cI cZ cJ nl nn ad ra S T) sz) := by
  refine vx_ofW (cc := cX3_feed) (maxL := 2) (ret := (some .int)) (by decide) rfl ?_
  intro p e s m args below meth c s₁ Bd hml hno hv
  obtain ⟨hargs, hsz, hP, hK, hD0, hZ⟩ := hv
  have hx := Bd.exec
  have hb := Bd.bytes
  have hr := Bd.returns
  have hts := atoms_spec (ws := wsX3_feed) Bd.pre
  have hT : ∀ w ∈ WALL, w.before args s = true := fun w h => hts w (List.mem_cons_of_mem _ h)
  have hown : s.vm.findClass RX3 = some m.cls := findClass_of_methodNamed Bd.named
  have hlocks := Bd.notSynchronized
  subst hsz
  have hD := hD0.self (sz := s.heap.size)
  generalize hAe : va_A (wTT cI cZ cJ nl nn ad ra S T) s.heap.size = A at hD ⊢
  have hA : ∀ q : Nat, s.heap.size ≤ q → A q := fun q h => by rw [← hAe]; exact Or.inr h
  have hS : va_S A s.heap s.heap [] := va_S.rf
  rw [hAe] at hZ
  have hP : va_P (dC, dI) vwCl (wTT cI cZ cJ nl nn ad ra S T) s.heap := hP
  have hl := lv_entry ([.ref (ad 0), .int x1]) (n := 2) (Nat.le_of_ble_eq_true rfl)
  rw [show entryFrame m args 2 = F0 m 0 _ [] from by rw [hargs]; exact lg_entry_eq m ([.ref (ad 0), .int x1]) 2]
  generalize (lg_sl ([.ref (ad 0), .int x1]) ++ List.replicate (2 - (lg_sl ([.ref (ad 0), .int x1])).length) Slot.unset).toArray = ls at hl ⊢
  have hl : lv_has ls 2 [(0, .ref (ad 0)), (1, .int x1)] := hl
  obtain ⟨H, hH⟩ : ∃ z : Heap, z = s.heap := ⟨_, rfl⟩
  obtain ⟨locs, hlocs⟩ : ∃ z : List Loc, z = [] := ⟨_, rfl⟩
  rw [show W p l e (headSpec wsX3_feed rm_X3_feed).room s m args below meth c s.heap [] 0 0 = W p l e (headSpec wsX3_feed rm_X3_feed).room s m args below meth c H locs 0 0 from by rw [hH, hlocs]]
  have hP : va_P (dC, dI) vwCl (wTT cI cZ cJ nl nn ad ra S T) H := by rw [hH]; exact hP
  have hS : va_S A s.heap H locs := by rw [hH, hlocs]; exact hS
  unfold wp_X3_feed at hw
  refine lv_iload_n hx hb dX3_feed_0 rfl (lv_at hl 1 rfl) ?_
  refine lv_if_eq (tgt := 19) hx hb dX3_feed_1 (by decide) (fun c_1 => ?_) (fun c_1 => ?_)
  · have hw := hw.1 c_1
    refine lv_aload_n hx hb dX3_feed_19 rfl (lv_at hl 0 rfl) ?_
    refine va_get (D := (dC, dI)) (ci := 3) (v := .ref (ad 18)) (C := RX3) (T := TX3) (N := 7) hx hb hT inX3 hown hK hP 0 rfl rfl 5 (by decide) (hT _ k_24) (fun _ h9 => h9) rfl dX3_feed_20 ?_
    refine lv_iconst (v := 1) hx hb dX3_feed_23 (by decide) ?_
    have hPc := hP.sub (ws' := wBR cI (ad 18) (ad 19) T.2.2.2.2.1) [18, 19] rfl
    have hDc := hD.sub (ws' := wBR cI (ad 18) (ad 19) T.2.2.2.2.1) [18, 19] (by decide) rfl
    have hFc := va_free (wc := wBR cI (ad 18) (ad 19) T.2.2.2.2.1) hD hS hA [18, 19] rfl
    refine vx_callv (vx_runS (As := [.ref (ad 18), .int 1]) (rest := []) ⟨hx, hb, hml, hown, hT⟩ (met_X3_checkRoom l hl9 dC dI cI cZ cJ cL sa (ad 18) (ad 19) H.size _ _  T.2.2.2.2.1 1 hw) (va_cwS 2 hT (gS k_125 k_127 k_57 k_126) rfl rfl rfl (by decide +kernel) ⟨(Nat.le_of_ble_eq_true rfl), (Nat.le_of_ble_eq_true rfl)⟩) ⟨bl_X, fun U hU hW => ⟨rfl, by rw [hU], by rw [hU]; exact hPc, va_K.moved hW.alike hK, hDc.weaken (fun _ _ _ _ => trivial), hZ.call hW hU hS hFc⟩⟩ rfl rfl hl.1 rfl (lv_room (Nat.le_of_ble_eq_true rfl)) dX3_feed_24 ⟨Nat.le_of_ble_eq_true rfl, Nat.le_of_ble_eq_true rfl⟩) hS (fun q _ h => hFc q h) hFc (fun q _ h => hFc q h) (fun E ce q9 u9 t H1 locs ht hvm hw hB hz1 hk1 hS hce hcv hcl => ?_) (fun B_2 t H1 locs ht hvm hw hB hz1 hk1 hS => ?_)
    · obtain ⟨E9, B_2⟩ := u9
      obtain ⟨rfl, hP1, -, hD1⟩ := hB
      try dsimp only at hw
      rw [ht] at hP1
      obtain ⟨hP, hD⟩ := va_join (wr := [(ad 0, .inr (3, [.ref (ad 1), .ref (ad 9), .ref (ad 10), .ref (ad 13), .ref (ad 16), .ref (ad 18), .int T.2.2.2.2.2])), (ad 1, .inr (1, [.int S.1.1, .int S.1.2.1, .int S.1.2.2.1, .int S.1.2.2.2.1, .int S.1.2.2.2.2, .ref (ad 2), .ref (ad 3), .ref (ad 4), .ref (ad 5)])), (ad 2, .inl (cI, 6, .inl S.2.1.1)), (ad 3, .inl (cI, 6, .inl S.2.1.2.1)), (ad 4, .inl (cI, 6, .inl S.2.1.2.2)), (ad 5, .inl (cJ, 3, .inr (.inr (.inr (.inr (fun i => if i < 3 then some (ra i) else none)))))), (ra 0, .inl (cI, nl, .inl (S.2.2 0))), (ra 1, .inl (cI, nl, .inl (S.2.2 1))), (ra 2, .inl (cI, nl, .inl (S.2.2 2))), (ad 9, .inl (cI, nn, .inl T.1)), (ad 10, .inr (2, [.ref (ad 11), .ref (ad 12), .int T.2.1.2.2])), (ad 11, .inl (cI, nn, .inl T.2.1.1)), (ad 12, .inl (cZ, nn, .inl T.2.1.2.1)), (ad 13, .inr (2, [.ref (ad 14), .ref (ad 15), .int T.2.2.1.2.2])), (ad 14, .inl (cI, nn, .inl T.2.2.1.1)), (ad 15, .inl (cZ, nn, .inl T.2.2.1.2.1)), (ad 16, .inr (0, [.ref (ad 17), .int T.2.2.2.1.2.1, .int T.2.2.2.1.2.2])), (ad 17, .inl (cI, 1250, .inl T.2.2.2.1.1))]) (w1 := wBR cI (ad 18) (ad 19) B_2) hP hD [18, 19] [0, 1, 2, 3, 4, 5, 6, 7, 8, 9, 10, 11, 12, 13, 14, 15, 16, 17] rfl rfl (by decide) (by decide) hk1 hFc hP1 hD1
      generalize H1 = H at hP hS hce ⊢
      have hP := hP.sub (ws' := wTT cI cZ cJ nl nn ad ra S (T.1, T.2.1, T.2.2.1, T.2.2.2.1, B_2, T.2.2.2.2.2)) [0, 1, 2, 3, 4, 5, 6, 7, 8, 9, 10, 11, 12, 13, 14, 15, 16, 17, 18, 19] rfl
      have hD := hD.sub (ws' := wTT cI cZ cJ nl nn ad ra S (T.1, T.2.1, T.2.2.1, T.2.2.2.1, B_2, T.2.2.2.2.2)) [0, 1, 2, 3, 4, 5, 6, 7, 8, 9, 10, 11, 12, 13, 14, 15, 16, 17, 18, 19] (by decide) rfl
      exact vx_out (fun x h => (hno x h).elim) hlocks hce hcv hcl (fun t ht ha => ⟨(E, (T.1, T.2.1, T.2.2.1, T.2.2.2.1, B_2, T.2.2.2.2.2)), hw, ⟨rfl, by rw [ht]; exact hP, va_K.moved ha hK, hD⟩, hS.F ht⟩) hS.2.2 (Nat.le_of_ble_eq_true rfl) (Nat.le_of_ble_eq_true rfl)
    · obtain ⟨hP1, -, hD1⟩ := hB
      try dsimp only at hw
      rw [ht] at hP1
      obtain ⟨hP, hD⟩ := va_join (wr := [(ad 0, .inr (3, [.ref (ad 1), .ref (ad 9), .ref (ad 10), .ref (ad 13), .ref (ad 16), .ref (ad 18), .int T.2.2.2.2.2])), (ad 1, .inr (1, [.int S.1.1, .int S.1.2.1, .int S.1.2.2.1, .int S.1.2.2.2.1, .int S.1.2.2.2.2, .ref (ad 2), .ref (ad 3), .ref (ad 4), .ref (ad 5)])), (ad 2, .inl (cI, 6, .inl S.2.1.1)), (ad 3, .inl (cI, 6, .inl S.2.1.2.1)), (ad 4, .inl (cI, 6, .inl S.2.1.2.2)), (ad 5, .inl (cJ, 3, .inr (.inr (.inr (.inr (fun i => if i < 3 then some (ra i) else none)))))), (ra 0, .inl (cI, nl, .inl (S.2.2 0))), (ra 1, .inl (cI, nl, .inl (S.2.2 1))), (ra 2, .inl (cI, nl, .inl (S.2.2 2))), (ad 9, .inl (cI, nn, .inl T.1)), (ad 10, .inr (2, [.ref (ad 11), .ref (ad 12), .int T.2.1.2.2])), (ad 11, .inl (cI, nn, .inl T.2.1.1)), (ad 12, .inl (cZ, nn, .inl T.2.1.2.1)), (ad 13, .inr (2, [.ref (ad 14), .ref (ad 15), .int T.2.2.1.2.2])), (ad 14, .inl (cI, nn, .inl T.2.2.1.1)), (ad 15, .inl (cZ, nn, .inl T.2.2.1.2.1)), (ad 16, .inr (0, [.ref (ad 17), .int T.2.2.2.1.2.1, .int T.2.2.2.1.2.2])), (ad 17, .inl (cI, 1250, .inl T.2.2.2.1.1))]) (w1 := wBR cI (ad 18) (ad 19) B_2) hP hD [18, 19] [0, 1, 2, 3, 4, 5, 6, 7, 8, 9, 10, 11, 12, 13, 14, 15, 16, 17] rfl rfl (by decide) (by decide) hk1 hFc hP1 hD1
      generalize H1 = H at hP hS ⊢
      have hP := hP.sub (ws' := wTT cI cZ cJ nl nn ad ra S (T.1, T.2.1, T.2.2.1, T.2.2.2.1, B_2, T.2.2.2.2.2)) [0, 1, 2, 3, 4, 5, 6, 7, 8, 9, 10, 11, 12, 13, 14, 15, 16, 17, 18, 19] rfl
      have hD := hD.sub (ws' := wTT cI cZ cJ nl nn ad ra S (T.1, T.2.1, T.2.2.1, T.2.2.2.1, B_2, T.2.2.2.2.2)) [0, 1, 2, 3, 4, 5, 6, 7, 8, 9, 10, 11, 12, 13, 14, 15, 16, 17, 18, 19] (by decide) rfl
      refine lv_aload_n hx hb dX3_feed_27 rfl (lv_at hl 0 rfl) ?_
      refine va_get (D := (dC, dI)) (ci := 3) (v := .ref (ad 18)) (C := RX3) (T := TX3) (N := 7) hx hb hT inX3 hown hK hP 0 rfl rfl 5 (by decide) (hT _ k_24) (fun _ h9 => h9) rfl dX3_feed_28 ?_
      refine lv_iload_n hx hb dX3_feed_31 rfl (lv_at hl 1 rfl) ?_
      have hPc := hP.sub (ws' := wBR cI (ad 18) (ad 19) B_2) [18, 19] rfl
      have hDc := hD.sub (ws' := wBR cI (ad 18) (ad 19) B_2) [18, 19] (by decide) rfl
      have hFc := va_free (wc := wBR cI (ad 18) (ad 19) B_2) hD hS hA [18, 19] rfl
      refine va_callv (va_runV (As := [.int x1]) (rest := []) ⟨hx, hb, hml, hown, hT⟩ (met_X0_append l dC dI cI cZ cJ cL (ad 18) (ad 19) H.size _  B_2 x1 hw) (cwV 1 hT (gV k_69 k_71 k_72 k_7 k_70) rfl rfl rfl (by decide +kernel) ⟨(Nat.le_of_ble_eq_true rfl), (Nat.le_of_ble_eq_true rfl)⟩) ⟨bl_W, va_recv hK hPc (ci := 0) (q0 := 0) rfl rfl, fun U hU hW => ⟨rfl, by rw [hU], by rw [hU]; exact hPc, va_K.moved hW.alike hK, hDc.weaken (fun _ _ _ _ => trivial)⟩⟩ rfl rfl hl.1 rfl (lv_room (Nat.le_of_ble_eq_true rfl)) dX3_feed_32 ⟨Nat.le_of_ble_eq_true rfl, Nat.le_of_ble_eq_true rfl⟩) hS (fun q _ h => hFc q h) hFc (fun B_3 t H1 locs ht hvm hw hB hz1 hk1 hS => ?_)
      obtain ⟨hP1, -, hD1⟩ := hB
      try dsimp only at hw
      rw [ht] at hP1
      obtain ⟨hP, hD⟩ := va_join (wr := [(ad 0, .inr (3, [.ref (ad 1), .ref (ad 9), .ref (ad 10), .ref (ad 13), .ref (ad 16), .ref (ad 18), .int T.2.2.2.2.2])), (ad 1, .inr (1, [.int S.1.1, .int S.1.2.1, .int S.1.2.2.1, .int S.1.2.2.2.1, .int S.1.2.2.2.2, .ref (ad 2), .ref (ad 3), .ref (ad 4), .ref (ad 5)])), (ad 2, .inl (cI, 6, .inl S.2.1.1)), (ad 3, .inl (cI, 6, .inl S.2.1.2.1)), (ad 4, .inl (cI, 6, .inl S.2.1.2.2)), (ad 5, .inl (cJ, 3, .inr (.inr (.inr (.inr (fun i => if i < 3 then some (ra i) else none)))))), (ra 0, .inl (cI, nl, .inl (S.2.2 0))), (ra 1, .inl (cI, nl, .inl (S.2.2 1))), (ra 2, .inl (cI, nl, .inl (S.2.2 2))), (ad 9, .inl (cI, nn, .inl T.1)), (ad 10, .inr (2, [.ref (ad 11), .ref (ad 12), .int T.2.1.2.2])), (ad 11, .inl (cI, nn, .inl T.2.1.1)), (ad 12, .inl (cZ, nn, .inl T.2.1.2.1)), (ad 13, .inr (2, [.ref (ad 14), .ref (ad 15), .int T.2.2.1.2.2])), (ad 14, .inl (cI, nn, .inl T.2.2.1.1)), (ad 15, .inl (cZ, nn, .inl T.2.2.1.2.1)), (ad 16, .inr (0, [.ref (ad 17), .int T.2.2.2.1.2.1, .int T.2.2.2.1.2.2])), (ad 17, .inl (cI, 1250, .inl T.2.2.2.1.1))]) (w1 := wBR cI (ad 18) (ad 19) B_3) hP hD [18, 19] [0, 1, 2, 3, 4, 5, 6, 7, 8, 9, 10, 11, 12, 13, 14, 15, 16, 17] rfl rfl (by decide) (by decide) hk1 hFc hP1 hD1
      generalize H1 = H at hP hS ⊢
      have hP := hP.sub (ws' := wTT cI cZ cJ nl nn ad ra S (T.1, T.2.1, T.2.2.1, T.2.2.2.1, B_3, T.2.2.2.2.2)) [0, 1, 2, 3, 4, 5, 6, 7, 8, 9, 10, 11, 12, 13, 14, 15, 16, 17, 18, 19] rfl
      have hD := hD.sub (ws' := wTT cI cZ cJ nl nn ad ra S (T.1, T.2.1, T.2.2.1, T.2.2.2.1, B_3, T.2.2.2.2.2)) [0, 1, 2, 3, 4, 5, 6, 7, 8, 9, 10, 11, 12, 13, 14, 15, 16, 17, 18, 19] (by decide) rfl
      refine lv_aload_n hx hb dX3_feed_35 rfl (lv_at hl 0 rfl) ?_
      refine va_get (D := (dC, dI)) (ci := 3) (v := .ref (ad 18)) (C := RX3) (T := TX3) (N := 7) hx hb hT inX3 hown hK hP 0 rfl rfl 5 (by decide) (hT _ k_24) (fun _ h9 => h9) rfl dX3_feed_36 ?_
      refine va_get (D := (dC, dI)) (ci := 0) (v := .int B_3.2.2) (C := RX0) (T := TX0) (N := 3) hx hb hT inX0 hown hK hP 18 rfl rfl 2 (by decide) (hT _ k_23) (fun _ h9 => h9) rfl dX3_feed_39 ?_
      refine W.widen (k := 2) (n := 12) (Nat.le_of_ble_eq_true rfl) (Nat.le_of_ble_eq_true rfl) ?_
      exact vx_ret (W.iret (v := B_3.2.2) hx hb hr (fun t ht hW => ⟨⟨B_3.2.2, (T.1, T.2.1, T.2.2.1, T.2.2.2.1, B_3, T.2.2.2.2.2), rfl, hw, by rw [ht]; exact hP, va_K.moved hW.alike hK, hD⟩, hS.F ht⟩) hS.2.2 dX3_feed_42)
  · have hw := hw.2 c_1
    refine lv_iload_n hx hb dX3_feed_4 rfl (lv_at hl 1 rfl) ?_
    refine lv_iconst (v := 1) hx hb dX3_feed_5 (by decide) ?_
    refine lv_icmp_eq (tgt := 19) hx hb dX3_feed_6 (by decide) (fun c_4 => ?_) (fun c_4 => ?_)
    · have hw := hw.1 c_4
      refine lv_aload_n hx hb dX3_feed_19 rfl (lv_at hl 0 rfl) ?_
      refine va_get (D := (dC, dI)) (ci := 3) (v := .ref (ad 18)) (C := RX3) (T := TX3) (N := 7) hx hb hT inX3 hown hK hP 0 rfl rfl 5 (by decide) (hT _ k_24) (fun _ h9 => h9) rfl dX3_feed_20 ?_
      refine lv_iconst (v := 1) hx hb dX3_feed_23 (by decide) ?_
      have hPc := hP.sub (ws' := wBR cI (ad 18) (ad 19) T.2.2.2.2.1) [18, 19] rfl
      have hDc := hD.sub (ws' := wBR cI (ad 18) (ad 19) T.2.2.2.2.1) [18, 19] (by decide) rfl
      have hFc := va_free (wc := wBR cI (ad 18) (ad 19) T.2.2.2.2.1) hD hS hA [18, 19] rfl
      refine vx_callv (vx_runS (As := [.ref (ad 18), .int 1]) (rest := []) ⟨hx, hb, hml, hown, hT⟩ (met_X3_checkRoom l hl9 dC dI cI cZ cJ cL sa (ad 18) (ad 19) H.size _ _  T.2.2.2.2.1 1 hw) (va_cwS 2 hT (gS k_125 k_127 k_57 k_126) rfl rfl rfl (by decide +kernel) ⟨(Nat.le_of_ble_eq_true rfl), (Nat.le_of_ble_eq_true rfl)⟩) ⟨bl_X, fun U hU hW => ⟨rfl, by rw [hU], by rw [hU]; exact hPc, va_K.moved hW.alike hK, hDc.weaken (fun _ _ _ _ => trivial), hZ.call hW hU hS hFc⟩⟩ rfl rfl hl.1 rfl (lv_room (Nat.le_of_ble_eq_true rfl)) dX3_feed_24 ⟨Nat.le_of_ble_eq_true rfl, Nat.le_of_ble_eq_true rfl⟩) hS (fun q _ h => hFc q h) hFc (fun q _ h => hFc q h) (fun E ce q9 u9 t H1 locs ht hvm hw hB hz1 hk1 hS hce hcv hcl => ?_) (fun B_5 t H1 locs ht hvm hw hB hz1 hk1 hS => ?_)
      · obtain ⟨E9, B_5⟩ := u9
        obtain ⟨rfl, hP1, -, hD1⟩ := hB
        try dsimp only at hw
        rw [ht] at hP1
        obtain ⟨hP, hD⟩ := va_join (wr := [(ad 0, .inr (3, [.ref (ad 1), .ref (ad 9), .ref (ad 10), .ref (ad 13), .ref (ad 16), .ref (ad 18), .int T.2.2.2.2.2])), (ad 1, .inr (1, [.int S.1.1, .int S.1.2.1, .int S.1.2.2.1, .int S.1.2.2.2.1, .int S.1.2.2.2.2, .ref (ad 2), .ref (ad 3), .ref (ad 4), .ref (ad 5)])), (ad 2, .inl (cI, 6, .inl S.2.1.1)), (ad 3, .inl (cI, 6, .inl S.2.1.2.1)), (ad 4, .inl (cI, 6, .inl S.2.1.2.2)), (ad 5, .inl (cJ, 3, .inr (.inr (.inr (.inr (fun i => if i < 3 then some (ra i) else none)))))), (ra 0, .inl (cI, nl, .inl (S.2.2 0))), (ra 1, .inl (cI, nl, .inl (S.2.2 1))), (ra 2, .inl (cI, nl, .inl (S.2.2 2))), (ad 9, .inl (cI, nn, .inl T.1)), (ad 10, .inr (2, [.ref (ad 11), .ref (ad 12), .int T.2.1.2.2])), (ad 11, .inl (cI, nn, .inl T.2.1.1)), (ad 12, .inl (cZ, nn, .inl T.2.1.2.1)), (ad 13, .inr (2, [.ref (ad 14), .ref (ad 15), .int T.2.2.1.2.2])), (ad 14, .inl (cI, nn, .inl T.2.2.1.1)), (ad 15, .inl (cZ, nn, .inl T.2.2.1.2.1)), (ad 16, .inr (0, [.ref (ad 17), .int T.2.2.2.1.2.1, .int T.2.2.2.1.2.2])), (ad 17, .inl (cI, 1250, .inl T.2.2.2.1.1))]) (w1 := wBR cI (ad 18) (ad 19) B_5) hP hD [18, 19] [0, 1, 2, 3, 4, 5, 6, 7, 8, 9, 10, 11, 12, 13, 14, 15, 16, 17] rfl rfl (by decide) (by decide) hk1 hFc hP1 hD1
        generalize H1 = H at hP hS hce ⊢
        have hP := hP.sub (ws' := wTT cI cZ cJ nl nn ad ra S (T.1, T.2.1, T.2.2.1, T.2.2.2.1, B_5, T.2.2.2.2.2)) [0, 1, 2, 3, 4, 5, 6, 7, 8, 9, 10, 11, 12, 13, 14, 15, 16, 17, 18, 19] rfl
        have hD := hD.sub (ws' := wTT cI cZ cJ nl nn ad ra S (T.1, T.2.1, T.2.2.1, T.2.2.2.1, B_5, T.2.2.2.2.2)) [0, 1, 2, 3, 4, 5, 6, 7, 8, 9, 10, 11, 12, 13, 14, 15, 16, 17, 18, 19] (by decide) rfl
        exact vx_out (fun x h => (hno x h).elim) hlocks hce hcv hcl (fun t ht ha => ⟨(E, (T.1, T.2.1, T.2.2.1, T.2.2.2.1, B_5, T.2.2.2.2.2)), hw, ⟨rfl, by rw [ht]; exact hP, va_K.moved ha hK, hD⟩, hS.F ht⟩) hS.2.2 (Nat.le_of_ble_eq_true rfl) (Nat.le_of_ble_eq_true rfl)
      · obtain ⟨hP1, -, hD1⟩ := hB
        try dsimp only at hw
        rw [ht] at hP1
        obtain ⟨hP, hD⟩ := va_join (wr := [(ad 0, .inr (3, [.ref (ad 1), .ref (ad 9), .ref (ad 10), .ref (ad 13), .ref (ad 16), .ref (ad 18), .int T.2.2.2.2.2])), (ad 1, .inr (1, [.int S.1.1, .int S.1.2.1, .int S.1.2.2.1, .int S.1.2.2.2.1, .int S.1.2.2.2.2, .ref (ad 2), .ref (ad 3), .ref (ad 4), .ref (ad 5)])), (ad 2, .inl (cI, 6, .inl S.2.1.1)), (ad 3, .inl (cI, 6, .inl S.2.1.2.1)), (ad 4, .inl (cI, 6, .inl S.2.1.2.2)), (ad 5, .inl (cJ, 3, .inr (.inr (.inr (.inr (fun i => if i < 3 then some (ra i) else none)))))), (ra 0, .inl (cI, nl, .inl (S.2.2 0))), (ra 1, .inl (cI, nl, .inl (S.2.2 1))), (ra 2, .inl (cI, nl, .inl (S.2.2 2))), (ad 9, .inl (cI, nn, .inl T.1)), (ad 10, .inr (2, [.ref (ad 11), .ref (ad 12), .int T.2.1.2.2])), (ad 11, .inl (cI, nn, .inl T.2.1.1)), (ad 12, .inl (cZ, nn, .inl T.2.1.2.1)), (ad 13, .inr (2, [.ref (ad 14), .ref (ad 15), .int T.2.2.1.2.2])), (ad 14, .inl (cI, nn, .inl T.2.2.1.1)), (ad 15, .inl (cZ, nn, .inl T.2.2.1.2.1)), (ad 16, .inr (0, [.ref (ad 17), .int T.2.2.2.1.2.1, .int T.2.2.2.1.2.2])), (ad 17, .inl (cI, 1250, .inl T.2.2.2.1.1))]) (w1 := wBR cI (ad 18) (ad 19) B_5) hP hD [18, 19] [0, 1, 2, 3, 4, 5, 6, 7, 8, 9, 10, 11, 12, 13, 14, 15, 16, 17] rfl rfl (by decide) (by decide) hk1 hFc hP1 hD1
        generalize H1 = H at hP hS ⊢
        have hP := hP.sub (ws' := wTT cI cZ cJ nl nn ad ra S (T.1, T.2.1, T.2.2.1, T.2.2.2.1, B_5, T.2.2.2.2.2)) [0, 1, 2, 3, 4, 5, 6, 7, 8, 9, 10, 11, 12, 13, 14, 15, 16, 17, 18, 19] rfl
        have hD := hD.sub (ws' := wTT cI cZ cJ nl nn ad ra S (T.1, T.2.1, T.2.2.1, T.2.2.2.1, B_5, T.2.2.2.2.2)) [0, 1, 2, 3, 4, 5, 6, 7, 8, 9, 10, 11, 12, 13, 14, 15, 16, 17, 18, 19] (by decide) rfl
        refine lv_aload_n hx hb dX3_feed_27 rfl (lv_at hl 0 rfl) ?_
        refine va_get (D := (dC, dI)) (ci := 3) (v := .ref (ad 18)) (C := RX3) (T := TX3) (N := 7) hx hb hT inX3 hown hK hP 0 rfl rfl 5 (by decide) (hT _ k_24) (fun _ h9 => h9) rfl dX3_feed_28 ?_
        refine lv_iload_n hx hb dX3_feed_31 rfl (lv_at hl 1 rfl) ?_
        have hPc := hP.sub (ws' := wBR cI (ad 18) (ad 19) B_5) [18, 19] rfl
        have hDc := hD.sub (ws' := wBR cI (ad 18) (ad 19) B_5) [18, 19] (by decide) rfl
        have hFc := va_free (wc := wBR cI (ad 18) (ad 19) B_5) hD hS hA [18, 19] rfl
        refine va_callv (va_runV (As := [.int x1]) (rest := []) ⟨hx, hb, hml, hown, hT⟩ (met_X0_append l dC dI cI cZ cJ cL (ad 18) (ad 19) H.size _  B_5 x1 hw) (cwV 1 hT (gV k_69 k_71 k_72 k_7 k_70) rfl rfl rfl (by decide +kernel) ⟨(Nat.le_of_ble_eq_true rfl), (Nat.le_of_ble_eq_true rfl)⟩) ⟨bl_W, va_recv hK hPc (ci := 0) (q0 := 0) rfl rfl, fun U hU hW => ⟨rfl, by rw [hU], by rw [hU]; exact hPc, va_K.moved hW.alike hK, hDc.weaken (fun _ _ _ _ => trivial)⟩⟩ rfl rfl hl.1 rfl (lv_room (Nat.le_of_ble_eq_true rfl)) dX3_feed_32 ⟨Nat.le_of_ble_eq_true rfl, Nat.le_of_ble_eq_true rfl⟩) hS (fun q _ h => hFc q h) hFc (fun B_6 t H1 locs ht hvm hw hB hz1 hk1 hS => ?_)
        obtain ⟨hP1, -, hD1⟩ := hB
        try dsimp only at hw
        rw [ht] at hP1
        obtain ⟨hP, hD⟩ := va_join (wr := [(ad 0, .inr (3, [.ref (ad 1), .ref (ad 9), .ref (ad 10), .ref (ad 13), .ref (ad 16), .ref (ad 18), .int T.2.2.2.2.2])), (ad 1, .inr (1, [.int S.1.1, .int S.1.2.1, .int S.1.2.2.1, .int S.1.2.2.2.1, .int S.1.2.2.2.2, .ref (ad 2), .ref (ad 3), .ref (ad 4), .ref (ad 5)])), (ad 2, .inl (cI, 6, .inl S.2.1.1)), (ad 3, .inl (cI, 6, .inl S.2.1.2.1)), (ad 4, .inl (cI, 6, .inl S.2.1.2.2)), (ad 5, .inl (cJ, 3, .inr (.inr (.inr (.inr (fun i => if i < 3 then some (ra i) else none)))))), (ra 0, .inl (cI, nl, .inl (S.2.2 0))), (ra 1, .inl (cI, nl, .inl (S.2.2 1))), (ra 2, .inl (cI, nl, .inl (S.2.2 2))), (ad 9, .inl (cI, nn, .inl T.1)), (ad 10, .inr (2, [.ref (ad 11), .ref (ad 12), .int T.2.1.2.2])), (ad 11, .inl (cI, nn, .inl T.2.1.1)), (ad 12, .inl (cZ, nn, .inl T.2.1.2.1)), (ad 13, .inr (2, [.ref (ad 14), .ref (ad 15), .int T.2.2.1.2.2])), (ad 14, .inl (cI, nn, .inl T.2.2.1.1)), (ad 15, .inl (cZ, nn, .inl T.2.2.1.2.1)), (ad 16, .inr (0, [.ref (ad 17), .int T.2.2.2.1.2.1, .int T.2.2.2.1.2.2])), (ad 17, .inl (cI, 1250, .inl T.2.2.2.1.1))]) (w1 := wBR cI (ad 18) (ad 19) B_6) hP hD [18, 19] [0, 1, 2, 3, 4, 5, 6, 7, 8, 9, 10, 11, 12, 13, 14, 15, 16, 17] rfl rfl (by decide) (by decide) hk1 hFc hP1 hD1
        generalize H1 = H at hP hS ⊢
        have hP := hP.sub (ws' := wTT cI cZ cJ nl nn ad ra S (T.1, T.2.1, T.2.2.1, T.2.2.2.1, B_6, T.2.2.2.2.2)) [0, 1, 2, 3, 4, 5, 6, 7, 8, 9, 10, 11, 12, 13, 14, 15, 16, 17, 18, 19] rfl
        have hD := hD.sub (ws' := wTT cI cZ cJ nl nn ad ra S (T.1, T.2.1, T.2.2.1, T.2.2.2.1, B_6, T.2.2.2.2.2)) [0, 1, 2, 3, 4, 5, 6, 7, 8, 9, 10, 11, 12, 13, 14, 15, 16, 17, 18, 19] (by decide) rfl
        refine lv_aload_n hx hb dX3_feed_35 rfl (lv_at hl 0 rfl) ?_
        refine va_get (D := (dC, dI)) (ci := 3) (v := .ref (ad 18)) (C := RX3) (T := TX3) (N := 7) hx hb hT inX3 hown hK hP 0 rfl rfl 5 (by decide) (hT _ k_24) (fun _ h9 => h9) rfl dX3_feed_36 ?_
        refine va_get (D := (dC, dI)) (ci := 0) (v := .int B_6.2.2) (C := RX0) (T := TX0) (N := 3) hx hb hT inX0 hown hK hP 18 rfl rfl 2 (by decide) (hT _ k_23) (fun _ h9 => h9) rfl dX3_feed_39 ?_
        refine W.widen (k := 2) (n := 12) (Nat.le_of_ble_eq_true rfl) (Nat.le_of_ble_eq_true rfl) ?_
        exact vx_ret (W.iret (v := B_6.2.2) hx hb hr (fun t ht hW => ⟨⟨B_6.2.2, (T.1, T.2.1, T.2.2.1, T.2.2.2.1, B_6, T.2.2.2.2.2), rfl, hw, by rw [ht]; exact hP, va_K.moved hW.alike hK, hD⟩, hS.F ht⟩) hS.2.2 dX3_feed_42)
    · have hw := hw.2 c_4
      exact vx_throwS (own := RX3) (cls := "java/lang/IllegalArgumentException") (names := exNames) hx hb hl9 hown (by decide +kernel) (by decide +kernel) (hT _ k_104) (hT _ k_105) (hZ.2.2.2 _ (List.mem_of_getElem? (i := 3) rfl)) (hat_63 hT hZ.2.2.1) hgd_63 hZ.1 hZ.2.1 hS (hl.1.trans hml.symm) dX3_feed_9 dX3_feed_12 dX3_feed_13 dX3_feed_15 dX3_feed_18 (fun x h => (hno x h).elim) (Nat.le_of_ble_eq_true rfl) (Nat.le_of_ble_eq_true rfl) (Nat.le_of_ble_eq_true rfl) (Nat.le_of_ble_eq_true rfl) hlocks (fun t ha hsz hk => ⟨("java/lang/IllegalArgumentException", T), hw, ⟨rfl, hP.kept (fun k q hq => hk q.1 (hP k q hq).lt), va_K.moved ha hK, hD⟩, Nat.le_trans hS.1 hsz, fun q h1 h2 => (hk q (Nat.lt_of_lt_of_le h1 hS.1)).trans (hS.2.1 q h1 h2)⟩) hS.2.2 (Nat.le_of_ble_eq_true rfl) (Nat.le_of_ble_eq_true rfl)
def wp_X3_pass_L41 (post : Int32 → vTT → Prop) (px : String → vTT → Prop) (ex41 : vTT → Int32 → Prop) (nl : Nat) (nn : Nat) (S : vSH) (x2_2 : Int32) (x1 : Int32) : Nat → vTT → Int32 → Prop
  | 0, _, _ => False
  | n_7 + 1, T_5, x3_6 => ((x2_2 ≤ x3_6 → (ex41 T_5 x3_6)) ∧ (¬ x2_2 ≤ x3_6 → (wp_X0_look (fun r_10 => wp_X0_append (fun B_11 => ∀ x3_12 : Int32, x3_12 = x3_6 + 1 → (wp_X3_pass_L41 post px ex41 nl nn S x2_2 x1 n_7 (T_5.1, T_5.2.1, T_5.2.2.1, T_5.2.2.2.1, B_11, T_5.2.2.2.2.2) x3_12))  T_5.2.2.2.2.1 r_10)  T_5.2.2.2.1 (T_5.2.2.2.2.2 + x3_6))))
def wp_X3_pass (post : Int32 → vTT → Prop) (px : String → vTT → Prop) (nl : Nat) (nn : Nat) (S : vSH) (T : vTT) (x1 : Int32) : Prop := ((0 ≤ x1 → (∀ x2_2 : Int32, x2_2 = (if (T.2.2.2.1.2.2 - T.2.2.2.2.2) < x1 then (T.2.2.2.1.2.2 - T.2.2.2.2.2) else x1) → (wp_X3_checkRoom (fun B_3 => ∀ T_4 : vTT, T_4 = (T.1, T.2.1, T.2.2.1, T.2.2.2.1, B_3, T.2.2.2.2.2) → (∃ n_7 : Nat, wp_X3_pass_L41 post px (fun (T_5 : vTT) (x3_6 : Int32) => ∀ f_8 : Int32, f_8 = T_5.2.2.2.2.2 + x2_2 → (post x2_2 (T_5.1, T_5.2.1, T_5.2.2.1, T_5.2.2.2.1, T_5.2.2.2.2.1, f_8))) nl nn S x2_2 x1 n_7 T_4 0)) (fun E B_3 => px E (T.1, T.2.1, T.2.2.1, T.2.2.2.1, B_3, T.2.2.2.2.2))  T.2.2.2.2.1 x2_2))) ∧ (¬ 0 ≤ x1 → (px "java/lang/IllegalArgumentException" T)))
abbrev rm_X3_pass : Room := { frames := 7, cells := 2, slots := 12, locals := 103 }
set_option maxHeartbeats 4000000 in
set_option maxRecDepth 100000 in
theorem met_X3_pass (l : Launch) (hl9 : l.stackTraces = false) (dC : Nat → ClassId) (dI : Nat → Nat → Nat) (cI cZ cJ cL : ClassId) (sa : Nat → Nat) (ad ra : Nat → Nat) (sz : Nat) (post : Int32 → vTT → Prop) (px : String → vTT → Prop) (nl : Nat) (nn : Nat) (S : vSH) (T : vTT) (x1 : Int32) (hw : wp_X3_pass post px nl nn S T x1) : vx_Met l yX3_pass wsX3_pass rm_X3_pass (pcX (dC, dI) (tysA cI cZ cJ cL) sa (wTT cI cZ cJ nl nn ad ra S T) sz [.ref (ad 0), .int x1]) (va_Qi post (fun u t => qB (dC, dI) (tysA cI cZ cJ cL) (va_A (wTT cI cZ cJ nl nn ad ra S T) sz) (wTT cI cZ cJ nl nn ad ra S u) t) (va_A (wTT cI cZ cJ nl nn ad ra S T) sz)) (vx_X (fun u : String × vTT => px u.1 u.2) (fun E u t => E = u.1 ∧ qB (dC, dI) (tysA cI cZ cJ cL) (va_A (wTT cI cZ cJ nl nn ad ra S T) sz) (wTT cI cZ cJ nl nn ad ra S u.2) t) (va_A (wTT cI cZ cJ nl nn ad ra S T) sz)) 2 12 (va_A (wTT cI cZ cJ nl nn ad ra S T) sz) := by
  refine vx_ofW (cc := cX3_pass) (maxL := 4) (ret := (some .int)) (by decide) rfl ?_
  intro p e s m args below meth c s₁ Bd hml hno hv
  obtain ⟨hargs, hsz, hP, hK, hD0, hZ⟩ := hv
  have hx := Bd.exec
  have hb := Bd.bytes
  have hr := Bd.returns
  have hts := atoms_spec (ws := wsX3_pass) Bd.pre
  have hT : ∀ w ∈ WALL, w.before args s = true := fun w h => hts w (List.mem_cons_of_mem _ h)
  have hown : s.vm.findClass RX3 = some m.cls := findClass_of_methodNamed Bd.named
  have hlocks := Bd.notSynchronized
  subst hsz
  have hD := hD0.self (sz := s.heap.size)
  generalize hAe : va_A (wTT cI cZ cJ nl nn ad ra S T) s.heap.size = A at hD ⊢
  have hA : ∀ q : Nat, s.heap.size ≤ q → A q := fun q h => by rw [← hAe]; exact Or.inr h
  have hS : va_S A s.heap s.heap [] := va_S.rf
  rw [hAe] at hZ
  have hP : va_P (dC, dI) vwCl (wTT cI cZ cJ nl nn ad ra S T) s.heap := hP
  have hl := lv_entry ([.ref (ad 0), .int x1]) (n := 4) (Nat.le_of_ble_eq_true rfl)
  rw [show entryFrame m args 4 = F0 m 0 _ [] from by rw [hargs]; exact lg_entry_eq m ([.ref (ad 0), .int x1]) 4]
  generalize (lg_sl ([.ref (ad 0), .int x1]) ++ List.replicate (4 - (lg_sl ([.ref (ad 0), .int x1])).length) Slot.unset).toArray = ls at hl ⊢
  have hl : lv_has ls 4 [(0, .ref (ad 0)), (1, .int x1)] := hl
  obtain ⟨H, hH⟩ : ∃ z : Heap, z = s.heap := ⟨_, rfl⟩
  obtain ⟨locs, hlocs⟩ : ∃ z : List Loc, z = [] := ⟨_, rfl⟩
  rw [show W p l e (headSpec wsX3_pass rm_X3_pass).room s m args below meth c s.heap [] 0 0 = W p l e (headSpec wsX3_pass rm_X3_pass).room s m args below meth c H locs 0 0 from by rw [hH, hlocs]]
  have hP : va_P (dC, dI) vwCl (wTT cI cZ cJ nl nn ad ra S T) H := by rw [hH]; exact hP
  have hS : va_S A s.heap H locs := by rw [hH, hlocs]; exact hS
  unfold wp_X3_pass at hw
  refine lv_iload_n hx hb dX3_pass_0 rfl (lv_at hl 1 rfl) ?_
  refine lv_if_ge (tgt := 14) hx hb dX3_pass_1 (by decide) (fun c_1 => ?_) (fun c_1 => ?_)
  · have hw := hw.1 c_1
    refine lv_iload_n hx hb dX3_pass_14 rfl (lv_at hl 1 rfl) ?_
    refine lv_aload_n hx hb dX3_pass_15 rfl (lv_at hl 0 rfl) ?_
    refine va_get (D := (dC, dI)) (ci := 3) (v := .ref (ad 16)) (C := RX3) (T := TX3) (N := 7) hx hb hT inX3 hown hK hP 0 rfl rfl 4 (by decide) (hT _ k_22) (fun _ h9 => h9) rfl dX3_pass_16 ?_
    refine va_get (D := (dC, dI)) (ci := 0) (v := .int T.2.2.2.1.2.2) (C := RX0) (T := TX0) (N := 3) hx hb hT inX0 hown hK hP 16 rfl rfl 2 (by decide) (hT _ k_23) (fun _ h9 => h9) rfl dX3_pass_19 ?_
    refine lv_aload_n hx hb dX3_pass_22 rfl (lv_at hl 0 rfl) ?_
    refine va_get (D := (dC, dI)) (ci := 3) (v := .int T.2.2.2.2.2) (C := RX3) (T := TX3) (N := 7) hx hb hT inX3 hown hK hP 0 rfl rfl 6 (by decide) (hT _ k_38) (fun _ h9 => h9) rfl dX3_pass_23 ?_
    refine lv_isub hx hb dX3_pass_26 ?_
    refine va_mmin (x := x1) (y := (T.2.2.2.1.2.2 - T.2.2.2.2.2)) (rest := []) hx hb (by rw [hml]; exact hl.1.symm) hown (hT _ k_49) (hT _ k_50) (hT _ k_51) (hT _ k_52) (Nat.le_of_ble_eq_true rfl) (Nat.le_of_ble_eq_true rfl) (Nat.le_of_ble_eq_true rfl) (Nat.le_of_ble_eq_true rfl) dX3_pass_27 ?_
    refine lv_topi (fun x2_2 ex2_2 => ?_)
    have hw := hw x2_2 ex2_2
    refine lv_istore_n (lv' := [(2, .int x2_2), (0, .ref (ad 0)), (1, .int x1)]) hx hb dX3_pass_30 rfl hl (by decide) rfl (fun ls hl => ?_)
    refine lv_aload_n hx hb dX3_pass_31 rfl (lv_at hl 1 rfl) ?_
    refine va_get (D := (dC, dI)) (ci := 3) (v := .ref (ad 18)) (C := RX3) (T := TX3) (N := 7) hx hb hT inX3 hown hK hP 0 rfl rfl 5 (by decide) (hT _ k_24) (fun _ h9 => h9) rfl dX3_pass_32 ?_
    refine lv_iload_n hx hb dX3_pass_35 rfl (lv_at hl 0 rfl) ?_
    have hPc := hP.sub (ws' := wBR cI (ad 18) (ad 19) T.2.2.2.2.1) [18, 19] rfl
    have hDc := hD.sub (ws' := wBR cI (ad 18) (ad 19) T.2.2.2.2.1) [18, 19] (by decide) rfl
    have hFc := va_free (wc := wBR cI (ad 18) (ad 19) T.2.2.2.2.1) hD hS hA [18, 19] rfl
    refine vx_callv (vx_runS (As := [.ref (ad 18), .int x2_2]) (rest := []) ⟨hx, hb, hml, hown, hT⟩ (met_X3_checkRoom l hl9 dC dI cI cZ cJ cL sa (ad 18) (ad 19) H.size _ _  T.2.2.2.2.1 x2_2 hw) (va_cwS 2 hT (gS k_125 k_127 k_57 k_126) rfl rfl rfl (by decide +kernel) ⟨(Nat.le_of_ble_eq_true rfl), (Nat.le_of_ble_eq_true rfl)⟩) ⟨bl_X, fun U hU hW => ⟨rfl, by rw [hU], by rw [hU]; exact hPc, va_K.moved hW.alike hK, hDc.weaken (fun _ _ _ _ => trivial), hZ.call hW hU hS hFc⟩⟩ rfl rfl hl.1 rfl (lv_room (Nat.le_of_ble_eq_true rfl)) dX3_pass_36 ⟨Nat.le_of_ble_eq_true rfl, Nat.le_of_ble_eq_true rfl⟩) hS (fun q _ h => hFc q h) hFc (fun q _ h => hFc q h) (fun E ce q9 u9 t H1 locs ht hvm hw hB hz1 hk1 hS hce hcv hcl => ?_) (fun B_3 t H1 locs ht hvm hw hB hz1 hk1 hS => ?_)
    · obtain ⟨E9, B_3⟩ := u9
      obtain ⟨rfl, hP1, -, hD1⟩ := hB
      try dsimp only at hw
      rw [ht] at hP1
      obtain ⟨hP, hD⟩ := va_join (wr := [(ad 0, .inr (3, [.ref (ad 1), .ref (ad 9), .ref (ad 10), .ref (ad 13), .ref (ad 16), .ref (ad 18), .int T.2.2.2.2.2])), (ad 1, .inr (1, [.int S.1.1, .int S.1.2.1, .int S.1.2.2.1, .int S.1.2.2.2.1, .int S.1.2.2.2.2, .ref (ad 2), .ref (ad 3), .ref (ad 4), .ref (ad 5)])), (ad 2, .inl (cI, 6, .inl S.2.1.1)), (ad 3, .inl (cI, 6, .inl S.2.1.2.1)), (ad 4, .inl (cI, 6, .inl S.2.1.2.2)), (ad 5, .inl (cJ, 3, .inr (.inr (.inr (.inr (fun i => if i < 3 then some (ra i) else none)))))), (ra 0, .inl (cI, nl, .inl (S.2.2 0))), (ra 1, .inl (cI, nl, .inl (S.2.2 1))), (ra 2, .inl (cI, nl, .inl (S.2.2 2))), (ad 9, .inl (cI, nn, .inl T.1)), (ad 10, .inr (2, [.ref (ad 11), .ref (ad 12), .int T.2.1.2.2])), (ad 11, .inl (cI, nn, .inl T.2.1.1)), (ad 12, .inl (cZ, nn, .inl T.2.1.2.1)), (ad 13, .inr (2, [.ref (ad 14), .ref (ad 15), .int T.2.2.1.2.2])), (ad 14, .inl (cI, nn, .inl T.2.2.1.1)), (ad 15, .inl (cZ, nn, .inl T.2.2.1.2.1)), (ad 16, .inr (0, [.ref (ad 17), .int T.2.2.2.1.2.1, .int T.2.2.2.1.2.2])), (ad 17, .inl (cI, 1250, .inl T.2.2.2.1.1))]) (w1 := wBR cI (ad 18) (ad 19) B_3) hP hD [18, 19] [0, 1, 2, 3, 4, 5, 6, 7, 8, 9, 10, 11, 12, 13, 14, 15, 16, 17] rfl rfl (by decide) (by decide) hk1 hFc hP1 hD1
      generalize H1 = H at hP hS hce ⊢
      have hP := hP.sub (ws' := wTT cI cZ cJ nl nn ad ra S (T.1, T.2.1, T.2.2.1, T.2.2.2.1, B_3, T.2.2.2.2.2)) [0, 1, 2, 3, 4, 5, 6, 7, 8, 9, 10, 11, 12, 13, 14, 15, 16, 17, 18, 19] rfl
      have hD := hD.sub (ws' := wTT cI cZ cJ nl nn ad ra S (T.1, T.2.1, T.2.2.1, T.2.2.2.1, B_3, T.2.2.2.2.2)) [0, 1, 2, 3, 4, 5, 6, 7, 8, 9, 10, 11, 12, 13, 14, 15, 16, 17, 18, 19] (by decide) rfl
      exact vx_out (fun x h => (hno x h).elim) hlocks hce hcv hcl (fun t ht ha => ⟨(E, (T.1, T.2.1, T.2.2.1, T.2.2.2.1, B_3, T.2.2.2.2.2)), hw, ⟨rfl, by rw [ht]; exact hP, va_K.moved ha hK, hD⟩, hS.F ht⟩) hS.2.2 (Nat.le_of_ble_eq_true rfl) (Nat.le_of_ble_eq_true rfl)
    · obtain ⟨hP1, -, hD1⟩ := hB
      try dsimp only at hw
      rw [ht] at hP1
      obtain ⟨hP, hD⟩ := va_join (wr := [(ad 0, .inr (3, [.ref (ad 1), .ref (ad 9), .ref (ad 10), .ref (ad 13), .ref (ad 16), .ref (ad 18), .int T.2.2.2.2.2])), (ad 1, .inr (1, [.int S.1.1, .int S.1.2.1, .int S.1.2.2.1, .int S.1.2.2.2.1, .int S.1.2.2.2.2, .ref (ad 2), .ref (ad 3), .ref (ad 4), .ref (ad 5)])), (ad 2, .inl (cI, 6, .inl S.2.1.1)), (ad 3, .inl (cI, 6, .inl S.2.1.2.1)), (ad 4, .inl (cI, 6, .inl S.2.1.2.2)), (ad 5, .inl (cJ, 3, .inr (.inr (.inr (.inr (fun i => if i < 3 then some (ra i) else none)))))), (ra 0, .inl (cI, nl, .inl (S.2.2 0))), (ra 1, .inl (cI, nl, .inl (S.2.2 1))), (ra 2, .inl (cI, nl, .inl (S.2.2 2))), (ad 9, .inl (cI, nn, .inl T.1)), (ad 10, .inr (2, [.ref (ad 11), .ref (ad 12), .int T.2.1.2.2])), (ad 11, .inl (cI, nn, .inl T.2.1.1)), (ad 12, .inl (cZ, nn, .inl T.2.1.2.1)), (ad 13, .inr (2, [.ref (ad 14), .ref (ad 15), .int T.2.2.1.2.2])), (ad 14, .inl (cI, nn, .inl T.2.2.1.1)), (ad 15, .inl (cZ, nn, .inl T.2.2.1.2.1)), (ad 16, .inr (0, [.ref (ad 17), .int T.2.2.2.1.2.1, .int T.2.2.2.1.2.2])), (ad 17, .inl (cI, 1250, .inl T.2.2.2.1.1))]) (w1 := wBR cI (ad 18) (ad 19) B_3) hP hD [18, 19] [0, 1, 2, 3, 4, 5, 6, 7, 8, 9, 10, 11, 12, 13, 14, 15, 16, 17] rfl rfl (by decide) (by decide) hk1 hFc hP1 hD1
      generalize H1 = H at hP hS ⊢
      have hP := hP.sub (ws' := wTT cI cZ cJ nl nn ad ra S (T.1, T.2.1, T.2.2.1, T.2.2.2.1, B_3, T.2.2.2.2.2)) [0, 1, 2, 3, 4, 5, 6, 7, 8, 9, 10, 11, 12, 13, 14, 15, 16, 17, 18, 19] rfl
      have hD := hD.sub (ws' := wTT cI cZ cJ nl nn ad ra S (T.1, T.2.1, T.2.2.1, T.2.2.2.1, B_3, T.2.2.2.2.2)) [0, 1, 2, 3, 4, 5, 6, 7, 8, 9, 10, 11, 12, 13, 14, 15, 16, 17, 18, 19] (by decide) rfl
      refine lv_iconst (v := 0) hx hb dX3_pass_39 (by decide) ?_
      refine lv_istore_n (lv' := [(3, .int 0), (2, .int x2_2), (0, .ref (ad 0)), (1, .int x1)]) hx hb dX3_pass_40 rfl hl (by decide) rfl (fun ls hl => ?_)
      obtain ⟨T_4, eT_4⟩ : ∃ z : vTT, z = (T.1, T.2.1, T.2.2.1, T.2.2.2.1, B_3, T.2.2.2.2.2) := ⟨_, rfl⟩
      have hw := hw T_4 eT_4
      rw [← eT_4] at hP hD
      obtain ⟨n_7, hw⟩ := hw
      obtain ⟨ex41, eex41⟩ : ∃ z : vTT → Int32 → Prop, z = (fun (T_5 : vTT) (x3_6 : Int32) => ∀ f_8 : Int32, f_8 = T_5.2.2.2.2.2 + x2_2 → (post x2_2 (T_5.1, T_5.2.1, T_5.2.2.1, T_5.2.2.2.1, T_5.2.2.2.2.1, f_8))) := ⟨_, rfl⟩
      rw [← eex41] at hw
      have hx41 : ∀ (T_5 : vTT) (x3_6 : Int32), ex41 T_5 x3_6 → ∀ (H : Heap) (locs : List Loc) (ls : Array Slot), va_P (dC, dI) vwCl (wTT cI cZ cJ nl nn ad ra S T_5) H → va_D A (wTT cI cZ cJ nl nn ad ra S T_5) → va_S A s.heap H locs → lv_has ls 4 [(3, .int x3_6), (2, .int x2_2), (0, .ref (ad 0)), (1, .int x1)] → W p l e (headSpec wsX3_pass rm_X3_pass).room s m args below meth c H locs 1 6 (vx_MQ below (va_Qi post (fun u t => qB (dC, dI) (tysA cI cZ cJ cL) A (wTT cI cZ cJ nl nn ad ra S u) t) A) (vx_X (fun u : String × vTT => px u.1 u.2) (fun E u t => E = u.1 ∧ qB (dC, dI) (tysA cI cZ cJ cL) A (wTT cI cZ cJ nl nn ad ra S u.2) t) A) args s 2 12 A) (F0 m 72 ls []) := by
        intro T_5 x3_6 hw H locs ls hP hD hS hl
        rw [eex41] at hw
        try dsimp only at hw
        refine lv_aload_n hx hb dX3_pass_72 rfl (lv_at hl 2 rfl) ?_
        refine lv_dup hx hb dX3_pass_73 rfl ?_
        refine va_get (D := (dC, dI)) (ci := 3) (v := .int T_5.2.2.2.2.2) (C := RX3) (T := TX3) (N := 7) hx hb hT inX3 hown hK hP 0 rfl rfl 6 (by decide) (hT _ k_38) (fun _ h9 => h9) rfl dX3_pass_74 ?_
        refine lv_iload_n hx hb dX3_pass_77 rfl (lv_at hl 1 rfl) ?_
        refine lv_iadd hx hb dX3_pass_78 ?_
        refine lv_topi (fun f_8 ef_8 => ?_)
        have hw := hw f_8 ef_8
        refine va_put (D := (dC, dI)) (ci := 3) (v := .int f_8) (ty := .int) (C := RX3) (T := TX3) (N := 7) hx hb hT inX3 tyX3 tyX3_ok nmX3 hown hK hP hD hS 0 rfl rfl 6 (by decide) (hT _ k_38) (fun _ h9 => h9) rfl (by decide +kernel) rfl rfl (Nat.le_of_ble_eq_true rfl) dX3_pass_79 (fun H locs hP hD hS => ?_)
        have hP : va_P (dC, dI) vwCl (wTT cI cZ cJ nl nn ad ra S (T_5.1, T_5.2.1, T_5.2.2.1, T_5.2.2.2.1, T_5.2.2.2.2.1, f_8)) H := hP
        have hD : va_D A (wTT cI cZ cJ nl nn ad ra S (T_5.1, T_5.2.1, T_5.2.2.1, T_5.2.2.2.1, T_5.2.2.2.2.1, f_8)) := hD
        refine lv_iload_n hx hb dX3_pass_82 rfl (lv_at hl 1 rfl) ?_
        refine W.widen (k := 2) (n := 12) (Nat.le_of_ble_eq_true rfl) (Nat.le_of_ble_eq_true rfl) ?_
        exact vx_ret (W.iret (v := x2_2) hx hb hr (fun t ht hW => ⟨⟨x2_2, (T_5.1, T_5.2.1, T_5.2.2.1, T_5.2.2.2.1, T_5.2.2.2.2.1, f_8), rfl, hw, by rw [ht]; exact hP, va_K.moved hW.alike hK, hD⟩, hS.F ht⟩) hS.2.2 dX3_pass_83)
      have hlp41 : ∀ (n_7 : Nat) (T_5 : vTT) (x3_6 : Int32), wp_X3_pass_L41 post px ex41 nl nn S x2_2 x1 n_7 T_5 x3_6 → ∀ (H : Heap) (locs : List Loc) (ls : Array Slot), va_P (dC, dI) vwCl (wTT cI cZ cJ nl nn ad ra S T_5) H → va_D A (wTT cI cZ cJ nl nn ad ra S T_5) → va_S A s.heap H locs → lv_has ls 4 [(3, .int x3_6), (2, .int x2_2), (0, .ref (ad 0)), (1, .int x1)] → W p l e (headSpec wsX3_pass rm_X3_pass).room s m args below meth c H locs 1 6 (vx_MQ below (va_Qi post (fun u t => qB (dC, dI) (tysA cI cZ cJ cL) A (wTT cI cZ cJ nl nn ad ra S u) t) A) (vx_X (fun u : String × vTT => px u.1 u.2) (fun E u t => E = u.1 ∧ qB (dC, dI) (tysA cI cZ cJ cL) A (wTT cI cZ cJ nl nn ad ra S u.2) t) A) args s 2 12 A) (F0 m 41 ls []) := by
        intro n_7
        induction n_7 with
        | zero => intro _ _ hw; exact hw.elim
        | succ n_7 ih41 =>
          intro T_5 x3_6 hw H locs ls hP hD hS hl
          unfold wp_X3_pass_L41 at hw
          refine lv_iload_n hx hb dX3_pass_41 rfl (lv_at hl 0 rfl) ?_
          refine lv_iload_n hx hb dX3_pass_42 rfl (lv_at hl 1 rfl) ?_
          refine lv_icmp_ge (tgt := 72) hx hb dX3_pass_43 (by decide) (fun c_9 => ?_) (fun c_9 => ?_)
          · have hw := hw.1 c_9
            exact hx41 T_5 x3_6 hw _ _ _ hP hD hS (lv_sub hl [0, 1, 2, 3] rfl)
          · have hw := hw.2 c_9
            refine lv_aload_n hx hb dX3_pass_46 rfl (lv_at hl 2 rfl) ?_
            refine va_get (D := (dC, dI)) (ci := 3) (v := .ref (ad 18)) (C := RX3) (T := TX3) (N := 7) hx hb hT inX3 hown hK hP 0 rfl rfl 5 (by decide) (hT _ k_24) (fun _ h9 => h9) rfl dX3_pass_47 ?_
            refine lv_aload_n hx hb dX3_pass_50 rfl (lv_at hl 2 rfl) ?_
            refine va_get (D := (dC, dI)) (ci := 3) (v := .ref (ad 16)) (C := RX3) (T := TX3) (N := 7) hx hb hT inX3 hown hK hP 0 rfl rfl 4 (by decide) (hT _ k_22) (fun _ h9 => h9) rfl dX3_pass_51 ?_
            refine lv_aload_n hx hb dX3_pass_54 rfl (lv_at hl 2 rfl) ?_
            refine va_get (D := (dC, dI)) (ci := 3) (v := .int T_5.2.2.2.2.2) (C := RX3) (T := TX3) (N := 7) hx hb hT inX3 hown hK hP 0 rfl rfl 6 (by decide) (hT _ k_38) (fun _ h9 => h9) rfl dX3_pass_55 ?_
            refine lv_iload_n hx hb dX3_pass_58 rfl (lv_at hl 0 rfl) ?_
            refine lv_iadd hx hb dX3_pass_59 ?_
            have hPc := hP.sub (ws' := wBR cI (ad 16) (ad 17) T_5.2.2.2.1) [16, 17] rfl
            refine vp_callSi (W.runV (As := [.int (T_5.2.2.2.2.2 + x3_6)]) (rest := [.ref (ad 18)]) ⟨hx, hb, hml, hown, hT⟩ (met_X0_look l dC dI cI cZ cJ cL (ad 16) (ad 17) _  T_5.2.2.2.1 (T_5.2.2.2.2.2 + x3_6) hw) (cwV 1 hT (gV k_80 k_82 k_83 k_7 k_81) rfl rfl rfl (by decide +kernel) ⟨(Nat.le_of_ble_eq_true rfl), (Nat.le_of_ble_eq_true rfl)⟩) ⟨bl_R, va_recv hK hPc (ci := 0) (q0 := 0) rfl rfl, fun U hU hW => ⟨rfl, by rw [hU]; exact hPc, va_K.moved hW.alike hK⟩⟩ rfl rfl hl.1 rfl (lv_room (Nat.le_of_ble_eq_true rfl)) dX3_pass_60 ⟨Nat.le_of_ble_eq_true rfl, Nat.le_of_ble_eq_true rfl⟩) (fun r_10 hw => ?_)
            try dsimp only at hw
            have hPc := hP.sub (ws' := wBR cI (ad 18) (ad 19) T_5.2.2.2.2.1) [18, 19] rfl
            have hDc := hD.sub (ws' := wBR cI (ad 18) (ad 19) T_5.2.2.2.2.1) [18, 19] (by decide) rfl
            have hFc := va_free (wc := wBR cI (ad 18) (ad 19) T_5.2.2.2.2.1) hD hS hA [18, 19] rfl
            refine va_callv (va_runV (As := [.int r_10]) (rest := []) ⟨hx, hb, hml, hown, hT⟩ (met_X0_append l dC dI cI cZ cJ cL (ad 18) (ad 19) H.size _  T_5.2.2.2.2.1 r_10 hw) (cwV 1 hT (gV k_69 k_71 k_72 k_7 k_70) rfl rfl rfl (by decide +kernel) ⟨(Nat.le_of_ble_eq_true rfl), (Nat.le_of_ble_eq_true rfl)⟩) ⟨bl_W, va_recv hK hPc (ci := 0) (q0 := 0) rfl rfl, fun U hU hW => ⟨rfl, by rw [hU], by rw [hU]; exact hPc, va_K.moved hW.alike hK, hDc.weaken (fun _ _ _ _ => trivial)⟩⟩ rfl rfl hl.1 rfl (lv_room (Nat.le_of_ble_eq_true rfl)) dX3_pass_63 ⟨Nat.le_of_ble_eq_true rfl, Nat.le_of_ble_eq_true rfl⟩) hS (fun q _ h => hFc q h) hFc (fun B_11 t H1 locs ht hvm hw hB hz1 hk1 hS => ?_)
            obtain ⟨hP1, -, hD1⟩ := hB
            try dsimp only at hw
            rw [ht] at hP1
            obtain ⟨hP, hD⟩ := va_join (wr := [(ad 0, .inr (3, [.ref (ad 1), .ref (ad 9), .ref (ad 10), .ref (ad 13), .ref (ad 16), .ref (ad 18), .int T_5.2.2.2.2.2])), (ad 1, .inr (1, [.int S.1.1, .int S.1.2.1, .int S.1.2.2.1, .int S.1.2.2.2.1, .int S.1.2.2.2.2, .ref (ad 2), .ref (ad 3), .ref (ad 4), .ref (ad 5)])), (ad 2, .inl (cI, 6, .inl S.2.1.1)), (ad 3, .inl (cI, 6, .inl S.2.1.2.1)), (ad 4, .inl (cI, 6, .inl S.2.1.2.2)), (ad 5, .inl (cJ, 3, .inr (.inr (.inr (.inr (fun i => if i < 3 then some (ra i) else none)))))), (ra 0, .inl (cI, nl, .inl (S.2.2 0))), (ra 1, .inl (cI, nl, .inl (S.2.2 1))), (ra 2, .inl (cI, nl, .inl (S.2.2 2))), (ad 9, .inl (cI, nn, .inl T_5.1)), (ad 10, .inr (2, [.ref (ad 11), .ref (ad 12), .int T_5.2.1.2.2])), (ad 11, .inl (cI, nn, .inl T_5.2.1.1)), (ad 12, .inl (cZ, nn, .inl T_5.2.1.2.1)), (ad 13, .inr (2, [.ref (ad 14), .ref (ad 15), .int T_5.2.2.1.2.2])), (ad 14, .inl (cI, nn, .inl T_5.2.2.1.1)), (ad 15, .inl (cZ, nn, .inl T_5.2.2.1.2.1)), (ad 16, .inr (0, [.ref (ad 17), .int T_5.2.2.2.1.2.1, .int T_5.2.2.2.1.2.2])), (ad 17, .inl (cI, 1250, .inl T_5.2.2.2.1.1))]) (w1 := wBR cI (ad 18) (ad 19) B_11) hP hD [18, 19] [0, 1, 2, 3, 4, 5, 6, 7, 8, 9, 10, 11, 12, 13, 14, 15, 16, 17] rfl rfl (by decide) (by decide) hk1 hFc hP1 hD1
            generalize H1 = H at hP hS ⊢
            have hP := hP.sub (ws' := wTT cI cZ cJ nl nn ad ra S (T_5.1, T_5.2.1, T_5.2.2.1, T_5.2.2.2.1, B_11, T_5.2.2.2.2.2)) [0, 1, 2, 3, 4, 5, 6, 7, 8, 9, 10, 11, 12, 13, 14, 15, 16, 17, 18, 19] rfl
            have hD := hD.sub (ws' := wTT cI cZ cJ nl nn ad ra S (T_5.1, T_5.2.1, T_5.2.2.1, T_5.2.2.2.1, B_11, T_5.2.2.2.2.2)) [0, 1, 2, 3, 4, 5, 6, 7, 8, 9, 10, 11, 12, 13, 14, 15, 16, 17, 18, 19] (by decide) rfl
            obtain ⟨x3_12, ex3_12⟩ : ∃ y : Int32, y = x3_6 + 1 := ⟨_, rfl⟩
            have hw := hw x3_12 ex3_12
            refine lv_iinc (v := x3_12) (lv' := [(3, .int x3_12), (2, .int x2_2), (0, .ref (ad 0)), (1, .int x1)]) hx hb dX3_pass_66 hl (k := 0) rfl (by rw [ex3_12]; rfl) (by decide) rfl (fun ls hl => ?_)
            refine lv_goto (tgt := 41) hx hb dX3_pass_69 (by decide) ?_
            exact ih41 (T_5.1, T_5.2.1, T_5.2.2.1, T_5.2.2.2.1, B_11, T_5.2.2.2.2.2) x3_12 hw _ _ _ hP hD hS (lv_sub hl [0, 1, 2, 3] rfl)
      exact hlp41 n_7 T_4 0 hw _ _ _ hP hD hS (lv_sub hl [0, 1, 2, 3] rfl)
  · have hw := hw.2 c_1
    exact vx_throwS (own := RX3) (cls := "java/lang/IllegalArgumentException") (names := exNames) hx hb hl9 hown (by decide +kernel) (by decide +kernel) (hT _ k_104) (hT _ k_105) (hZ.2.2.2 _ (List.mem_of_getElem? (i := 4) rfl)) (hat_63 hT hZ.2.2.1) hgd_63 hZ.1 hZ.2.1 hS (hl.1.trans hml.symm) dX3_pass_4 dX3_pass_7 dX3_pass_8 dX3_pass_10 dX3_pass_13 (fun x h => (hno x h).elim) (Nat.le_of_ble_eq_true rfl) (Nat.le_of_ble_eq_true rfl) (Nat.le_of_ble_eq_true rfl) (Nat.le_of_ble_eq_true rfl) hlocks (fun t ha hsz hk => ⟨("java/lang/IllegalArgumentException", T), hw, ⟨rfl, hP.kept (fun k q hq => hk q.1 (hP k q hq).lt), va_K.moved ha hK, hD⟩, Nat.le_trans hS.1 hsz, fun q h1 h2 => (hk q (Nat.lt_of_lt_of_le h1 hS.1)).trans (hS.2.1 q h1 h2)⟩) hS.2.2 (Nat.le_of_ble_eq_true rfl) (Nat.le_of_ble_eq_true rfl)
def wp_X3_known (post : Int32 → vTT → Prop) (px : String → vTT → Prop) (nl : Nat) (nn : Nat) (S : vSH) (T : vTT) (x1 : Int32) (x2 : Int32) : Prop := wp_X3_checkNode (fun T_1 => wp_X1_nodeAt (fun r_2 => vp_in r_2 nn ∧ (∀ x4_4 : Int32, x4_4 = T_1.2.2.1.1 r_2.toNatClampNeg → (vp_in r_2 nn ∧ ((((T_1.2.2.1.2.1 r_2.toNatClampNeg) = 0 → (post ((-1) - x4_4) T_1)) ∧ (¬ (T_1.2.2.1.2.1 r_2.toNatClampNeg) = 0 → (post x4_4 T_1))))))) nl S  0 x1 x2) (fun E T_1 => px E T_1) nl nn S T 0 x1 x2
abbrev rm_X3_known : Room := { frames := 7, cells := 1, slots := 6, locals := 105 }
set_option maxHeartbeats 4000000 in
set_option maxRecDepth 100000 in
theorem met_X3_known (l : Launch) (hl9 : l.stackTraces = false) (dC : Nat → ClassId) (dI : Nat → Nat → Nat) (cI cZ cJ cL : ClassId) (sa : Nat → Nat) (ad ra : Nat → Nat) (sz : Nat) (post : Int32 → vTT → Prop) (px : String → vTT → Prop) (nl : Nat) (nn : Nat) (S : vSH) (T : vTT) (x1 : Int32) (x2 : Int32) (hw : wp_X3_known post px nl nn S T x1 x2) : vx_Met l yX3_known wsX3_known rm_X3_known (pcX (dC, dI) (tysA cI cZ cJ cL) sa (wTT cI cZ cJ nl nn ad ra S T) sz [.ref (ad 0), .int x1, .int x2]) (va_Qi post (fun u t => qB (dC, dI) (tysA cI cZ cJ cL) (va_A (wTT cI cZ cJ nl nn ad ra S T) sz) (wTT cI cZ cJ nl nn ad ra S u) t) (va_A (wTT cI cZ cJ nl nn ad ra S T) sz)) (vx_X (fun u : String × vTT => px u.1 u.2) (fun E u t => E = u.1 ∧ qB (dC, dI) (tysA cI cZ cJ cL) (va_A (wTT cI cZ cJ nl nn ad ra S T) sz) (wTT cI cZ cJ nl nn ad ra S u.2) t) (va_A (wTT cI cZ cJ nl nn ad ra S T) sz)) 1 6 (va_A (wTT cI cZ cJ nl nn ad ra S T) sz) := by
  refine vx_ofW (cc := cX3_known) (maxL := 5) (ret := (some .int)) (by decide) rfl ?_
  intro p e s m args below meth c s₁ Bd hml hno hv
  obtain ⟨hargs, hsz, hP, hK, hD0, hZ⟩ := hv
  have hx := Bd.exec
  have hb := Bd.bytes
  have hr := Bd.returns
  have hts := atoms_spec (ws := wsX3_known) Bd.pre
  have hT : ∀ w ∈ WALL, w.before args s = true := fun w h => hts w (List.mem_cons_of_mem _ h)
  have hown : s.vm.findClass RX3 = some m.cls := findClass_of_methodNamed Bd.named
  have hlocks := Bd.notSynchronized
  subst hsz
  have hD := hD0.self (sz := s.heap.size)
  generalize hAe : va_A (wTT cI cZ cJ nl nn ad ra S T) s.heap.size = A at hD ⊢
  have hA : ∀ q : Nat, s.heap.size ≤ q → A q := fun q h => by rw [← hAe]; exact Or.inr h
  have hS : va_S A s.heap s.heap [] := va_S.rf
  rw [hAe] at hZ
  have hP : va_P (dC, dI) vwCl (wTT cI cZ cJ nl nn ad ra S T) s.heap := hP
  have hl := lv_entry ([.ref (ad 0), .int x1, .int x2]) (n := 5) (Nat.le_of_ble_eq_true rfl)
  rw [show entryFrame m args 5 = F0 m 0 _ [] from by rw [hargs]; exact lg_entry_eq m ([.ref (ad 0), .int x1, .int x2]) 5]
  generalize (lg_sl ([.ref (ad 0), .int x1, .int x2]) ++ List.replicate (5 - (lg_sl ([.ref (ad 0), .int x1, .int x2])).length) Slot.unset).toArray = ls at hl ⊢
  have hl : lv_has ls 5 [(0, .ref (ad 0)), (1, .int x1), (2, .int x2)] := hl
  obtain ⟨H, hH⟩ : ∃ z : Heap, z = s.heap := ⟨_, rfl⟩
  obtain ⟨locs, hlocs⟩ : ∃ z : List Loc, z = [] := ⟨_, rfl⟩
  rw [show W p l e (headSpec wsX3_known rm_X3_known).room s m args below meth c s.heap [] 0 0 = W p l e (headSpec wsX3_known rm_X3_known).room s m args below meth c H locs 0 0 from by rw [hH, hlocs]]
  have hP : va_P (dC, dI) vwCl (wTT cI cZ cJ nl nn ad ra S T) H := by rw [hH]; exact hP
  have hS : va_S A s.heap H locs := by rw [hH, hlocs]; exact hS
  unfold wp_X3_known at hw
  refine lv_aload_n hx hb dX3_known_0 rfl (lv_at hl 0 rfl) ?_
  refine lv_iconst (v := 0) hx hb dX3_known_1 (by decide) ?_
  refine lv_iload_n hx hb dX3_known_2 rfl (lv_at hl 1 rfl) ?_
  refine lv_iload_n hx hb dX3_known_3 rfl (lv_at hl 2 rfl) ?_
  have hPc := hP
  have hDc := hD
  have hFc := va_free (wc := wTT cI cZ cJ nl nn ad ra S T) hD hS hA [0, 1, 2, 3, 4, 5, 6, 7, 8, 9, 10, 11, 12, 13, 14, 15, 16, 17, 18, 19] rfl
  refine vx_callv (vx_runV (As := [.int 0, .int x1, .int x2]) (rest := []) ⟨hx, hb, hml, hown, hT⟩ (met_X3_checkNode l hl9 dC dI cI cZ cJ cL sa ad ra H.size _ _ nl nn S T 0 x1 x2 hw) (cwV 3 hT (gV k_128 k_130 k_131 k_57 k_129) rfl rfl rfl (by decide +kernel) ⟨(Nat.le_of_ble_eq_true rfl), (Nat.le_of_ble_eq_true rfl)⟩) ⟨bl_X, va_recv hK hPc (ci := 3) (q0 := 0) rfl rfl, fun U hU hW => ⟨rfl, by rw [hU], by rw [hU]; exact hPc, va_K.moved hW.alike hK, hDc.weaken (fun _ _ _ _ => trivial), hZ.call hW hU hS hFc⟩⟩ rfl rfl hl.1 rfl (lv_room (Nat.le_of_ble_eq_true rfl)) dX3_known_4 ⟨Nat.le_of_ble_eq_true rfl, Nat.le_of_ble_eq_true rfl⟩) hS (fun q _ h => hFc q h) hFc (fun q _ h => hFc q h) (fun E ce q9 u9 t H1 locs ht hvm hw hB hz1 hk1 hS hce hcv hcl => ?_) (fun T_1 t H1 locs ht hvm hw hB hz1 hk1 hS => ?_)
  · obtain ⟨E9, T_1⟩ := u9
    obtain ⟨rfl, hP1, -, hD1⟩ := hB
    try dsimp only at hw
    rw [ht] at hP1
    obtain ⟨hP, hD⟩ := va_join (wr := []) (w1 := wTT cI cZ cJ nl nn ad ra S T_1) hP hD [0, 1, 2, 3, 4, 5, 6, 7, 8, 9, 10, 11, 12, 13, 14, 15, 16, 17, 18, 19] [] rfl rfl (by decide) (by decide) hk1 hFc hP1 hD1
    generalize H1 = H at hP hS hce ⊢
    have hP := hP.sub (ws' := wTT cI cZ cJ nl nn ad ra S T_1) [0, 1, 2, 3, 4, 5, 6, 7, 8, 9, 10, 11, 12, 13, 14, 15, 16, 17, 18, 19] rfl
    have hD := hD.sub (ws' := wTT cI cZ cJ nl nn ad ra S T_1) [0, 1, 2, 3, 4, 5, 6, 7, 8, 9, 10, 11, 12, 13, 14, 15, 16, 17, 18, 19] (by decide) rfl
    exact vx_out (fun x h => (hno x h).elim) hlocks hce hcv hcl (fun t ht ha => ⟨(E, T_1), hw, ⟨rfl, by rw [ht]; exact hP, va_K.moved ha hK, hD⟩, hS.F ht⟩) hS.2.2 (Nat.le_of_ble_eq_true rfl) (Nat.le_of_ble_eq_true rfl)
  · obtain ⟨hP1, -, hD1⟩ := hB
    try dsimp only at hw
    rw [ht] at hP1
    obtain ⟨hP, hD⟩ := va_join (wr := []) (w1 := wTT cI cZ cJ nl nn ad ra S T_1) hP hD [0, 1, 2, 3, 4, 5, 6, 7, 8, 9, 10, 11, 12, 13, 14, 15, 16, 17, 18, 19] [] rfl rfl (by decide) (by decide) hk1 hFc hP1 hD1
    generalize H1 = H at hP hS ⊢
    have hP := hP.sub (ws' := wTT cI cZ cJ nl nn ad ra S T_1) [0, 1, 2, 3, 4, 5, 6, 7, 8, 9, 10, 11, 12, 13, 14, 15, 16, 17, 18, 19] rfl
    have hD := hD.sub (ws' := wTT cI cZ cJ nl nn ad ra S T_1) [0, 1, 2, 3, 4, 5, 6, 7, 8, 9, 10, 11, 12, 13, 14, 15, 16, 17, 18, 19] (by decide) rfl
    refine lv_aload_n hx hb dX3_known_7 rfl (lv_at hl 0 rfl) ?_
    refine va_get (D := (dC, dI)) (ci := 3) (v := .ref (ad 1)) (C := RX3) (T := TX3) (N := 7) hx hb hT inX3 hown hK hP 0 rfl rfl 0 (by decide) (hT _ k_17) (fun _ h9 => h9) rfl dX3_known_8 ?_
    refine lv_iconst (v := 0) hx hb dX3_known_11 (by decide) ?_
    refine lv_iload_n hx hb dX3_known_12 rfl (lv_at hl 1 rfl) ?_
    refine lv_iload_n hx hb dX3_known_13 rfl (lv_at hl 2 rfl) ?_
    have hPc := hP.sub (ws' := wSH cI cJ nl (ad 1) (ad 2) (ad 3) (ad 4) (ad 5) ra S) [1, 2, 3, 4, 5, 6, 7, 8] rfl
    refine vp_callSi (W.runV (As := [.int 0, .int x1, .int x2]) (rest := []) ⟨hx, hb, hml, hown, hT⟩ (met_X1_nodeAt l dC dI cI cZ cJ cL (ad 1) (ad 2) (ad 3) (ad 4) (ad 5) ra _ nl S  0 x1 x2 hw) (cwV 3 hT (gV k_45 k_47 k_48 k_43 k_46) rfl rfl rfl (by decide +kernel) ⟨(Nat.le_of_ble_eq_true rfl), (Nat.le_of_ble_eq_true rfl)⟩) ⟨bl_R, va_recv hK hPc (ci := 1) (q0 := 0) rfl rfl, fun U hU hW => ⟨rfl, by rw [hU]; exact hPc, va_K.moved hW.alike hK⟩⟩ rfl rfl hl.1 rfl (lv_room (Nat.le_of_ble_eq_true rfl)) dX3_known_14 ⟨Nat.le_of_ble_eq_true rfl, Nat.le_of_ble_eq_true rfl⟩) (fun r_2 hw => ?_)
    try dsimp only at hw
    refine lv_istore_n (lv' := [(3, .int r_2), (0, .ref (ad 0)), (1, .int x1), (2, .int x2)]) hx hb dX3_known_17 rfl hl (by decide) rfl (fun ls hl => ?_)
    refine lv_aload_n hx hb dX3_known_18 rfl (lv_at hl 1 rfl) ?_
    refine va_get (D := (dC, dI)) (ci := 3) (v := .ref (ad 13)) (C := RX3) (T := TX3) (N := 7) hx hb hT inX3 hown hK hP 0 rfl rfl 3 (by decide) (hT _ k_27) (fun _ h9 => h9) rfl dX3_known_19 ?_
    refine va_get (D := (dC, dI)) (ci := 2) (v := .ref (ad 14)) (C := RX2) (T := TX2) (N := 3) hx hb hT inX2 hown hK hP 13 rfl rfl 0 (by decide) (hT _ k_68) (fun _ h9 => h9) rfl dX3_known_22 ?_
    refine lv_iload_n hx hb dX3_known_25 rfl (lv_at hl 0 rfl) ?_
    obtain ⟨h_3, hw⟩ := hw
    refine va_iald hx hb hK hP 14 0 rfl rfl h_3 dX3_known_26 ?_
    refine lv_topi (fun x4_4 ex4_4 => ?_)
    have hw := hw x4_4 ex4_4
    refine lv_istore (lv' := [(4, .int x4_4), (3, .int r_2), (0, .ref (ad 0)), (1, .int x1), (2, .int x2)]) hx hb dX3_known_27 hl (by decide) rfl (fun ls hl => ?_)
    refine lv_aload_n hx hb dX3_known_29 rfl (lv_at hl 2 rfl) ?_
    refine va_get (D := (dC, dI)) (ci := 3) (v := .ref (ad 13)) (C := RX3) (T := TX3) (N := 7) hx hb hT inX3 hown hK hP 0 rfl rfl 3 (by decide) (hT _ k_27) (fun _ h9 => h9) rfl dX3_known_30 ?_
    refine va_get (D := (dC, dI)) (ci := 2) (v := .ref (ad 15)) (C := RX2) (T := TX2) (N := 3) hx hb hT inX2 hown hK hP 13 rfl rfl 1 (by decide) (hT _ k_28) (fun _ h9 => h9) rfl dX3_known_33 ?_
    refine lv_iload_n hx hb dX3_known_36 rfl (lv_at hl 1 rfl) ?_
    obtain ⟨h_5, hw⟩ := hw
    refine va_zald hx hb hK hP 15 1 rfl rfl h_5 dX3_known_37 ?_
    refine lv_if_eq (tgt := 46) hx hb dX3_known_38 (by decide) (fun c_6 => ?_) (fun c_6 => ?_)
    · have hw := hw.1 c_6
      refine lv_iconst (v := (-1)) hx hb dX3_known_46 (by decide) ?_
      refine lv_iload hx hb dX3_known_47 (lv_at hl 0 rfl) ?_
      refine lv_isub hx hb dX3_known_49 ?_
      exact vx_ret (W.iret (v := ((-1) - x4_4)) hx hb hr (fun t ht hW => ⟨⟨((-1) - x4_4), T_1, rfl, hw, by rw [ht]; exact hP, va_K.moved hW.alike hK, hD⟩, hS.F ht⟩) hS.2.2 dX3_known_50)
    · have hw := hw.2 c_6
      refine lv_iload hx hb dX3_known_41 (lv_at hl 0 rfl) ?_
      refine lv_goto (tgt := 50) hx hb dX3_known_43 (by decide) ?_
      exact vx_ret (W.iret (v := x4_4) hx hb hr (fun t ht hW => ⟨⟨x4_4, T_1, rfl, hw, by rw [ht]; exact hP, va_K.moved hW.alike hK, hD⟩, hS.F ht⟩) hS.2.2 dX3_known_50)
def wp_X3_bound (post : Int32 → vTT → Prop) (px : String → vTT → Prop) (nl : Nat) (nn : Nat) (S : vSH) (T : vTT) (x1 : Int32) (x2 : Int32) (x3 : Int32) (x4 : Int32) : Prop := wp_X3_checkNode (fun T_1 => ((x1 = 0 → (wp_X1_nodeAt (fun r_3 => vp_in r_3 nn ∧ (post (T_1.2.2.1.1 r_3.toNatClampNeg) T_1)) nl S  x2 x3 x4)) ∧ (¬ x1 = 0 → (wp_X1_nodeAt (fun r_5 => vp_in r_5 nn ∧ (post (T_1.2.1.1 r_5.toNatClampNeg) T_1)) nl S  x2 x3 x4)))) (fun E T_1 => px E T_1) nl nn S T x2 x3 x4
abbrev rm_X3_bound : Room := { frames := 7, cells := 1, slots := 6, locals := 105 }
set_option maxHeartbeats 4000000 in
set_option maxRecDepth 100000 in
theorem met_X3_bound (l : Launch) (hl9 : l.stackTraces = false) (dC : Nat → ClassId) (dI : Nat → Nat → Nat) (cI cZ cJ cL : ClassId) (sa : Nat → Nat) (ad ra : Nat → Nat) (sz : Nat) (post : Int32 → vTT → Prop) (px : String → vTT → Prop) (nl : Nat) (nn : Nat) (S : vSH) (T : vTT) (x1 : Int32) (x2 : Int32) (x3 : Int32) (x4 : Int32) (hw : wp_X3_bound post px nl nn S T x1 x2 x3 x4) : vx_Met l yX3_bound wsX3_bound rm_X3_bound (pcX (dC, dI) (tysA cI cZ cJ cL) sa (wTT cI cZ cJ nl nn ad ra S T) sz [.ref (ad 0), .int x1, .int x2, .int x3, .int x4]) (va_Qi post (fun u t => qB (dC, dI) (tysA cI cZ cJ cL) (va_A (wTT cI cZ cJ nl nn ad ra S T) sz) (wTT cI cZ cJ nl nn ad ra S u) t) (va_A (wTT cI cZ cJ nl nn ad ra S T) sz)) (vx_X (fun u : String × vTT => px u.1 u.2) (fun E u t => E = u.1 ∧ qB (dC, dI) (tysA cI cZ cJ cL) (va_A (wTT cI cZ cJ nl nn ad ra S T) sz) (wTT cI cZ cJ nl nn ad ra S u.2) t) (va_A (wTT cI cZ cJ nl nn ad ra S T) sz)) 1 6 (va_A (wTT cI cZ cJ nl nn ad ra S T) sz) := by
  refine vx_ofW (cc := cX3_bound) (maxL := 6) (ret := (some .int)) (by decide) rfl ?_
  intro p e s m args below meth c s₁ Bd hml hno hv
  obtain ⟨hargs, hsz, hP, hK, hD0, hZ⟩ := hv
  have hx := Bd.exec
  have hb := Bd.bytes
  have hr := Bd.returns
  have hts := atoms_spec (ws := wsX3_bound) Bd.pre
  have hT : ∀ w ∈ WALL, w.before args s = true := fun w h => hts w (List.mem_cons_of_mem _ h)
  have hown : s.vm.findClass RX3 = some m.cls := findClass_of_methodNamed Bd.named
  have hlocks := Bd.notSynchronized
  subst hsz
  have hD := hD0.self (sz := s.heap.size)
  generalize hAe : va_A (wTT cI cZ cJ nl nn ad ra S T) s.heap.size = A at hD ⊢
  have hA : ∀ q : Nat, s.heap.size ≤ q → A q := fun q h => by rw [← hAe]; exact Or.inr h
  have hS : va_S A s.heap s.heap [] := va_S.rf
  rw [hAe] at hZ
  have hP : va_P (dC, dI) vwCl (wTT cI cZ cJ nl nn ad ra S T) s.heap := hP
  have hl := lv_entry ([.ref (ad 0), .int x1, .int x2, .int x3, .int x4]) (n := 6) (Nat.le_of_ble_eq_true rfl)
  rw [show entryFrame m args 6 = F0 m 0 _ [] from by rw [hargs]; exact lg_entry_eq m ([.ref (ad 0), .int x1, .int x2, .int x3, .int x4]) 6]
  generalize (lg_sl ([.ref (ad 0), .int x1, .int x2, .int x3, .int x4]) ++ List.replicate (6 - (lg_sl ([.ref (ad 0), .int x1, .int x2, .int x3, .int x4])).length) Slot.unset).toArray = ls at hl ⊢
  have hl : lv_has ls 6 [(0, .ref (ad 0)), (1, .int x1), (2, .int x2), (3, .int x3), (4, .int x4)] := hl
  obtain ⟨H, hH⟩ : ∃ z : Heap, z = s.heap := ⟨_, rfl⟩
  obtain ⟨locs, hlocs⟩ : ∃ z : List Loc, z = [] := ⟨_, rfl⟩
  rw [show W p l e (headSpec wsX3_bound rm_X3_bound).room s m args below meth c s.heap [] 0 0 = W p l e (headSpec wsX3_bound rm_X3_bound).room s m args below meth c H locs 0 0 from by rw [hH, hlocs]]
  have hP : va_P (dC, dI) vwCl (wTT cI cZ cJ nl nn ad ra S T) H := by rw [hH]; exact hP
  have hS : va_S A s.heap H locs := by rw [hH, hlocs]; exact hS
  unfold wp_X3_bound at hw
  refine lv_aload_n hx hb dX3_bound_0 rfl (lv_at hl 0 rfl) ?_
  refine lv_iload_n hx hb dX3_bound_1 rfl (lv_at hl 2 rfl) ?_
  refine lv_iload_n hx hb dX3_bound_2 rfl (lv_at hl 3 rfl) ?_
  refine lv_iload hx hb dX3_bound_3 (lv_at hl 4 rfl) ?_
  have hPc := hP
  have hDc := hD
  have hFc := va_free (wc := wTT cI cZ cJ nl nn ad ra S T) hD hS hA [0, 1, 2, 3, 4, 5, 6, 7, 8, 9, 10, 11, 12, 13, 14, 15, 16, 17, 18, 19] rfl
  refine vx_callv (vx_runV (As := [.int x2, .int x3, .int x4]) (rest := []) ⟨hx, hb, hml, hown, hT⟩ (met_X3_checkNode l hl9 dC dI cI cZ cJ cL sa ad ra H.size _ _ nl nn S T x2 x3 x4 hw) (cwV 3 hT (gV k_128 k_130 k_131 k_57 k_129) rfl rfl rfl (by decide +kernel) ⟨(Nat.le_of_ble_eq_true rfl), (Nat.le_of_ble_eq_true rfl)⟩) ⟨bl_X, va_recv hK hPc (ci := 3) (q0 := 0) rfl rfl, fun U hU hW => ⟨rfl, by rw [hU], by rw [hU]; exact hPc, va_K.moved hW.alike hK, hDc.weaken (fun _ _ _ _ => trivial), hZ.call hW hU hS hFc⟩⟩ rfl rfl hl.1 rfl (lv_room (Nat.le_of_ble_eq_true rfl)) dX3_bound_5 ⟨Nat.le_of_ble_eq_true rfl, Nat.le_of_ble_eq_true rfl⟩) hS (fun q _ h => hFc q h) hFc (fun q _ h => hFc q h) (fun E ce q9 u9 t H1 locs ht hvm hw hB hz1 hk1 hS hce hcv hcl => ?_) (fun T_1 t H1 locs ht hvm hw hB hz1 hk1 hS => ?_)
  · obtain ⟨E9, T_1⟩ := u9
    obtain ⟨rfl, hP1, -, hD1⟩ := hB
    try dsimp only at hw
    rw [ht] at hP1
    obtain ⟨hP, hD⟩ := va_join (wr := []) (w1 := wTT cI cZ cJ nl nn ad ra S T_1) hP hD [0, 1, 2, 3, 4, 5, 6, 7, 8, 9, 10, 11, 12, 13, 14, 15, 16, 17, 18, 19] [] rfl rfl (by decide) (by decide) hk1 hFc hP1 hD1
    generalize H1 = H at hP hS hce ⊢
    have hP := hP.sub (ws' := wTT cI cZ cJ nl nn ad ra S T_1) [0, 1, 2, 3, 4, 5, 6, 7, 8, 9, 10, 11, 12, 13, 14, 15, 16, 17, 18, 19] rfl
    have hD := hD.sub (ws' := wTT cI cZ cJ nl nn ad ra S T_1) [0, 1, 2, 3, 4, 5, 6, 7, 8, 9, 10, 11, 12, 13, 14, 15, 16, 17, 18, 19] (by decide) rfl
    exact vx_out (fun x h => (hno x h).elim) hlocks hce hcv hcl (fun t ht ha => ⟨(E, T_1), hw, ⟨rfl, by rw [ht]; exact hP, va_K.moved ha hK, hD⟩, hS.F ht⟩) hS.2.2 (Nat.le_of_ble_eq_true rfl) (Nat.le_of_ble_eq_true rfl)
  · obtain ⟨hP1, -, hD1⟩ := hB
    try dsimp only at hw
    rw [ht] at hP1
    obtain ⟨hP, hD⟩ := va_join (wr := []) (w1 := wTT cI cZ cJ nl nn ad ra S T_1) hP hD [0, 1, 2, 3, 4, 5, 6, 7, 8, 9, 10, 11, 12, 13, 14, 15, 16, 17, 18, 19] [] rfl rfl (by decide) (by decide) hk1 hFc hP1 hD1
    generalize H1 = H at hP hS ⊢
    have hP := hP.sub (ws' := wTT cI cZ cJ nl nn ad ra S T_1) [0, 1, 2, 3, 4, 5, 6, 7, 8, 9, 10, 11, 12, 13, 14, 15, 16, 17, 18, 19] rfl
    have hD := hD.sub (ws' := wTT cI cZ cJ nl nn ad ra S T_1) [0, 1, 2, 3, 4, 5, 6, 7, 8, 9, 10, 11, 12, 13, 14, 15, 16, 17, 18, 19] (by decide) rfl
    refine lv_iload_n hx hb dX3_bound_8 rfl (lv_at hl 1 rfl) ?_
    refine lv_if_eq (tgt := 19) hx hb dX3_bound_9 (by decide) (fun c_2 => ?_) (fun c_2 => ?_)
    · have hw := hw.1 c_2
      refine lv_aload_n hx hb dX3_bound_19 rfl (lv_at hl 0 rfl) ?_
      refine va_get (D := (dC, dI)) (ci := 3) (v := .ref (ad 13)) (C := RX3) (T := TX3) (N := 7) hx hb hT inX3 hown hK hP 0 rfl rfl 3 (by decide) (hT _ k_27) (fun _ h9 => h9) rfl dX3_bound_20 ?_
      refine lv_astore (lv' := [(5, .ref (ad 13)), (0, .ref (ad 0)), (1, .int x1), (2, .int x2), (3, .int x3), (4, .int x4)]) hx hb dX3_bound_23 hl (by decide) rfl (fun ls hl => ?_)
      refine lv_aload hx hb dX3_bound_25 (lv_at hl 0 rfl) ?_
      refine va_get (D := (dC, dI)) (ci := 2) (v := .ref (ad 14)) (C := RX2) (T := TX2) (N := 3) hx hb hT inX2 hown hK hP 13 rfl rfl 0 (by decide) (hT _ k_68) (fun _ h9 => h9) rfl dX3_bound_27 ?_
      refine lv_aload_n hx hb dX3_bound_30 rfl (lv_at hl 1 rfl) ?_
      refine va_get (D := (dC, dI)) (ci := 3) (v := .ref (ad 1)) (C := RX3) (T := TX3) (N := 7) hx hb hT inX3 hown hK hP 0 rfl rfl 0 (by decide) (hT _ k_17) (fun _ h9 => h9) rfl dX3_bound_31 ?_
      refine lv_iload_n hx hb dX3_bound_34 rfl (lv_at hl 3 rfl) ?_
      refine lv_iload_n hx hb dX3_bound_35 rfl (lv_at hl 4 rfl) ?_
      refine lv_iload hx hb dX3_bound_36 (lv_at hl 5 rfl) ?_
      have hPc := hP.sub (ws' := wSH cI cJ nl (ad 1) (ad 2) (ad 3) (ad 4) (ad 5) ra S) [1, 2, 3, 4, 5, 6, 7, 8] rfl
      refine vp_callSi (W.runV (As := [.int x2, .int x3, .int x4]) (rest := [.ref (ad 14)]) ⟨hx, hb, hml, hown, hT⟩ (met_X1_nodeAt l dC dI cI cZ cJ cL (ad 1) (ad 2) (ad 3) (ad 4) (ad 5) ra _ nl S  x2 x3 x4 hw) (cwV 3 hT (gV k_45 k_47 k_48 k_43 k_46) rfl rfl rfl (by decide +kernel) ⟨(Nat.le_of_ble_eq_true rfl), (Nat.le_of_ble_eq_true rfl)⟩) ⟨bl_R, va_recv hK hPc (ci := 1) (q0 := 0) rfl rfl, fun U hU hW => ⟨rfl, by rw [hU]; exact hPc, va_K.moved hW.alike hK⟩⟩ rfl rfl hl.1 rfl (lv_room (Nat.le_of_ble_eq_true rfl)) dX3_bound_38 ⟨Nat.le_of_ble_eq_true rfl, Nat.le_of_ble_eq_true rfl⟩) (fun r_3 hw => ?_)
      try dsimp only at hw
      obtain ⟨h_4, hw⟩ := hw
      refine va_iald hx hb hK hP 14 0 rfl rfl h_4 dX3_bound_41 ?_
      exact vx_ret (W.iret (v := (T_1.2.2.1.1 r_3.toNatClampNeg)) hx hb hr (fun t ht hW => ⟨⟨(T_1.2.2.1.1 r_3.toNatClampNeg), T_1, rfl, hw, by rw [ht]; exact hP, va_K.moved hW.alike hK, hD⟩, hS.F ht⟩) hS.2.2 dX3_bound_42)
    · have hw := hw.2 c_2
      refine lv_aload_n hx hb dX3_bound_12 rfl (lv_at hl 0 rfl) ?_
      refine va_get (D := (dC, dI)) (ci := 3) (v := .ref (ad 10)) (C := RX3) (T := TX3) (N := 7) hx hb hT inX3 hown hK hP 0 rfl rfl 2 (by decide) (hT _ k_25) (fun _ h9 => h9) rfl dX3_bound_13 ?_
      refine lv_goto (tgt := 23) hx hb dX3_bound_16 (by decide) ?_
      refine lv_astore (lv' := [(5, .ref (ad 10)), (0, .ref (ad 0)), (1, .int x1), (2, .int x2), (3, .int x3), (4, .int x4)]) hx hb dX3_bound_23 hl (by decide) rfl (fun ls hl => ?_)
      refine lv_aload hx hb dX3_bound_25 (lv_at hl 0 rfl) ?_
      refine va_get (D := (dC, dI)) (ci := 2) (v := .ref (ad 11)) (C := RX2) (T := TX2) (N := 3) hx hb hT inX2 hown hK hP 10 rfl rfl 0 (by decide) (hT _ k_68) (fun _ h9 => h9) rfl dX3_bound_27 ?_
      refine lv_aload_n hx hb dX3_bound_30 rfl (lv_at hl 1 rfl) ?_
      refine va_get (D := (dC, dI)) (ci := 3) (v := .ref (ad 1)) (C := RX3) (T := TX3) (N := 7) hx hb hT inX3 hown hK hP 0 rfl rfl 0 (by decide) (hT _ k_17) (fun _ h9 => h9) rfl dX3_bound_31 ?_
      refine lv_iload_n hx hb dX3_bound_34 rfl (lv_at hl 3 rfl) ?_
      refine lv_iload_n hx hb dX3_bound_35 rfl (lv_at hl 4 rfl) ?_
      refine lv_iload hx hb dX3_bound_36 (lv_at hl 5 rfl) ?_
      have hPc := hP.sub (ws' := wSH cI cJ nl (ad 1) (ad 2) (ad 3) (ad 4) (ad 5) ra S) [1, 2, 3, 4, 5, 6, 7, 8] rfl
      refine vp_callSi (W.runV (As := [.int x2, .int x3, .int x4]) (rest := [.ref (ad 11)]) ⟨hx, hb, hml, hown, hT⟩ (met_X1_nodeAt l dC dI cI cZ cJ cL (ad 1) (ad 2) (ad 3) (ad 4) (ad 5) ra _ nl S  x2 x3 x4 hw) (cwV 3 hT (gV k_45 k_47 k_48 k_43 k_46) rfl rfl rfl (by decide +kernel) ⟨(Nat.le_of_ble_eq_true rfl), (Nat.le_of_ble_eq_true rfl)⟩) ⟨bl_R, va_recv hK hPc (ci := 1) (q0 := 0) rfl rfl, fun U hU hW => ⟨rfl, by rw [hU]; exact hPc, va_K.moved hW.alike hK⟩⟩ rfl rfl hl.1 rfl (lv_room (Nat.le_of_ble_eq_true rfl)) dX3_bound_38 ⟨Nat.le_of_ble_eq_true rfl, Nat.le_of_ble_eq_true rfl⟩) (fun r_5 hw => ?_)
      try dsimp only at hw
      obtain ⟨h_6, hw⟩ := hw
      refine va_iald hx hb hK hP 11 0 rfl rfl h_6 dX3_bound_41 ?_
      exact vx_ret (W.iret (v := (T_1.2.1.1 r_5.toNatClampNeg)) hx hb hr (fun t ht hW => ⟨⟨(T_1.2.1.1 r_5.toNatClampNeg), T_1, rfl, hw, by rw [ht]; exact hP, va_K.moved hW.alike hK, hD⟩, hS.F ht⟩) hS.2.2 dX3_bound_42)
def wp_X3_least (post : Int32 → vTT → Prop) (px : String → vTT → Prop) (nl : Nat) (nn : Nat) (S : vSH) (T : vTT) (x1 : Int32) (x2 : Int32) (x3 : Int32) : Prop := wp_X3_checkNode (fun T_1 => wp_X1_nodeAt (fun r_2 => vp_in r_2 nn ∧ (post (T_1.1 r_2.toNatClampNeg) T_1)) nl S  x1 x2 x3) (fun E T_1 => px E T_1) nl nn S T x1 x2 x3
abbrev rm_X3_least : Room := { frames := 7, cells := 1, slots := 6, locals := 105 }
set_option maxHeartbeats 4000000 in
set_option maxRecDepth 100000 in
theorem met_X3_least (l : Launch) (hl9 : l.stackTraces = false) (dC : Nat → ClassId) (dI : Nat → Nat → Nat) (cI cZ cJ cL : ClassId) (sa : Nat → Nat) (ad ra : Nat → Nat) (sz : Nat) (post : Int32 → vTT → Prop) (px : String → vTT → Prop) (nl : Nat) (nn : Nat) (S : vSH) (T : vTT) (x1 : Int32) (x2 : Int32) (x3 : Int32) (hw : wp_X3_least post px nl nn S T x1 x2 x3) : vx_Met l yX3_least wsX3_least rm_X3_least (pcX (dC, dI) (tysA cI cZ cJ cL) sa (wTT cI cZ cJ nl nn ad ra S T) sz [.ref (ad 0), .int x1, .int x2, .int x3]) (va_Qi post (fun u t => qB (dC, dI) (tysA cI cZ cJ cL) (va_A (wTT cI cZ cJ nl nn ad ra S T) sz) (wTT cI cZ cJ nl nn ad ra S u) t) (va_A (wTT cI cZ cJ nl nn ad ra S T) sz)) (vx_X (fun u : String × vTT => px u.1 u.2) (fun E u t => E = u.1 ∧ qB (dC, dI) (tysA cI cZ cJ cL) (va_A (wTT cI cZ cJ nl nn ad ra S T) sz) (wTT cI cZ cJ nl nn ad ra S u.2) t) (va_A (wTT cI cZ cJ nl nn ad ra S T) sz)) 1 6 (va_A (wTT cI cZ cJ nl nn ad ra S T) sz) := by
  refine vx_ofW (cc := cX3_least) (maxL := 4) (ret := (some .int)) (by decide) rfl ?_
  intro p e s m args below meth c s₁ Bd hml hno hv
  obtain ⟨hargs, hsz, hP, hK, hD0, hZ⟩ := hv
  have hx := Bd.exec
  have hb := Bd.bytes
  have hr := Bd.returns
  have hts := atoms_spec (ws := wsX3_least) Bd.pre
  have hT : ∀ w ∈ WALL, w.before args s = true := fun w h => hts w (List.mem_cons_of_mem _ h)
  have hown : s.vm.findClass RX3 = some m.cls := findClass_of_methodNamed Bd.named
  have hlocks := Bd.notSynchronized
  subst hsz
  have hD := hD0.self (sz := s.heap.size)
  generalize hAe : va_A (wTT cI cZ cJ nl nn ad ra S T) s.heap.size = A at hD ⊢
  have hA : ∀ q : Nat, s.heap.size ≤ q → A q := fun q h => by rw [← hAe]; exact Or.inr h
  have hS : va_S A s.heap s.heap [] := va_S.rf
  rw [hAe] at hZ
  have hP : va_P (dC, dI) vwCl (wTT cI cZ cJ nl nn ad ra S T) s.heap := hP
  have hl := lv_entry ([.ref (ad 0), .int x1, .int x2, .int x3]) (n := 4) (Nat.le_of_ble_eq_true rfl)
  rw [show entryFrame m args 4 = F0 m 0 _ [] from by rw [hargs]; exact lg_entry_eq m ([.ref (ad 0), .int x1, .int x2, .int x3]) 4]
  generalize (lg_sl ([.ref (ad 0), .int x1, .int x2, .int x3]) ++ List.replicate (4 - (lg_sl ([.ref (ad 0), .int x1, .int x2, .int x3])).length) Slot.unset).toArray = ls at hl ⊢
  have hl : lv_has ls 4 [(0, .ref (ad 0)), (1, .int x1), (2, .int x2), (3, .int x3)] := hl
  obtain ⟨H, hH⟩ : ∃ z : Heap, z = s.heap := ⟨_, rfl⟩
  obtain ⟨locs, hlocs⟩ : ∃ z : List Loc, z = [] := ⟨_, rfl⟩
  rw [show W p l e (headSpec wsX3_least rm_X3_least).room s m args below meth c s.heap [] 0 0 = W p l e (headSpec wsX3_least rm_X3_least).room s m args below meth c H locs 0 0 from by rw [hH, hlocs]]
  have hP : va_P (dC, dI) vwCl (wTT cI cZ cJ nl nn ad ra S T) H := by rw [hH]; exact hP
  have hS : va_S A s.heap H locs := by rw [hH, hlocs]; exact hS
  unfold wp_X3_least at hw
  refine lv_aload_n hx hb dX3_least_0 rfl (lv_at hl 0 rfl) ?_
  refine lv_iload_n hx hb dX3_least_1 rfl (lv_at hl 1 rfl) ?_
  refine lv_iload_n hx hb dX3_least_2 rfl (lv_at hl 2 rfl) ?_
  refine lv_iload_n hx hb dX3_least_3 rfl (lv_at hl 3 rfl) ?_
  have hPc := hP
  have hDc := hD
  have hFc := va_free (wc := wTT cI cZ cJ nl nn ad ra S T) hD hS hA [0, 1, 2, 3, 4, 5, 6, 7, 8, 9, 10, 11, 12, 13, 14, 15, 16, 17, 18, 19] rfl
  refine vx_callv (vx_runV (As := [.int x1, .int x2, .int x3]) (rest := []) ⟨hx, hb, hml, hown, hT⟩ (met_X3_checkNode l hl9 dC dI cI cZ cJ cL sa ad ra H.size _ _ nl nn S T x1 x2 x3 hw) (cwV 3 hT (gV k_128 k_130 k_131 k_57 k_129) rfl rfl rfl (by decide +kernel) ⟨(Nat.le_of_ble_eq_true rfl), (Nat.le_of_ble_eq_true rfl)⟩) ⟨bl_X, va_recv hK hPc (ci := 3) (q0 := 0) rfl rfl, fun U hU hW => ⟨rfl, by rw [hU], by rw [hU]; exact hPc, va_K.moved hW.alike hK, hDc.weaken (fun _ _ _ _ => trivial), hZ.call hW hU hS hFc⟩⟩ rfl rfl hl.1 rfl (lv_room (Nat.le_of_ble_eq_true rfl)) dX3_least_4 ⟨Nat.le_of_ble_eq_true rfl, Nat.le_of_ble_eq_true rfl⟩) hS (fun q _ h => hFc q h) hFc (fun q _ h => hFc q h) (fun E ce q9 u9 t H1 locs ht hvm hw hB hz1 hk1 hS hce hcv hcl => ?_) (fun T_1 t H1 locs ht hvm hw hB hz1 hk1 hS => ?_)
  · obtain ⟨E9, T_1⟩ := u9
    obtain ⟨rfl, hP1, -, hD1⟩ := hB
    try dsimp only at hw
    rw [ht] at hP1
    obtain ⟨hP, hD⟩ := va_join (wr := []) (w1 := wTT cI cZ cJ nl nn ad ra S T_1) hP hD [0, 1, 2, 3, 4, 5, 6, 7, 8, 9, 10, 11, 12, 13, 14, 15, 16, 17, 18, 19] [] rfl rfl (by decide) (by decide) hk1 hFc hP1 hD1
    generalize H1 = H at hP hS hce ⊢
    have hP := hP.sub (ws' := wTT cI cZ cJ nl nn ad ra S T_1) [0, 1, 2, 3, 4, 5, 6, 7, 8, 9, 10, 11, 12, 13, 14, 15, 16, 17, 18, 19] rfl
    have hD := hD.sub (ws' := wTT cI cZ cJ nl nn ad ra S T_1) [0, 1, 2, 3, 4, 5, 6, 7, 8, 9, 10, 11, 12, 13, 14, 15, 16, 17, 18, 19] (by decide) rfl
    exact vx_out (fun x h => (hno x h).elim) hlocks hce hcv hcl (fun t ht ha => ⟨(E, T_1), hw, ⟨rfl, by rw [ht]; exact hP, va_K.moved ha hK, hD⟩, hS.F ht⟩) hS.2.2 (Nat.le_of_ble_eq_true rfl) (Nat.le_of_ble_eq_true rfl)
  · obtain ⟨hP1, -, hD1⟩ := hB
    try dsimp only at hw
    rw [ht] at hP1
    obtain ⟨hP, hD⟩ := va_join (wr := []) (w1 := wTT cI cZ cJ nl nn ad ra S T_1) hP hD [0, 1, 2, 3, 4, 5, 6, 7, 8, 9, 10, 11, 12, 13, 14, 15, 16, 17, 18, 19] [] rfl rfl (by decide) (by decide) hk1 hFc hP1 hD1
    generalize H1 = H at hP hS ⊢
    have hP := hP.sub (ws' := wTT cI cZ cJ nl nn ad ra S T_1) [0, 1, 2, 3, 4, 5, 6, 7, 8, 9, 10, 11, 12, 13, 14, 15, 16, 17, 18, 19] rfl
    have hD := hD.sub (ws' := wTT cI cZ cJ nl nn ad ra S T_1) [0, 1, 2, 3, 4, 5, 6, 7, 8, 9, 10, 11, 12, 13, 14, 15, 16, 17, 18, 19] (by decide) rfl
    refine lv_aload_n hx hb dX3_least_7 rfl (lv_at hl 0 rfl) ?_
    refine va_get (D := (dC, dI)) (ci := 3) (v := .ref (ad 9)) (C := RX3) (T := TX3) (N := 7) hx hb hT inX3 hown hK hP 0 rfl rfl 1 (by decide) (hT _ k_44) (fun _ h9 => h9) rfl dX3_least_8 ?_
    refine lv_aload_n hx hb dX3_least_11 rfl (lv_at hl 0 rfl) ?_
    refine va_get (D := (dC, dI)) (ci := 3) (v := .ref (ad 1)) (C := RX3) (T := TX3) (N := 7) hx hb hT inX3 hown hK hP 0 rfl rfl 0 (by decide) (hT _ k_17) (fun _ h9 => h9) rfl dX3_least_12 ?_
    refine lv_iload_n hx hb dX3_least_15 rfl (lv_at hl 1 rfl) ?_
    refine lv_iload_n hx hb dX3_least_16 rfl (lv_at hl 2 rfl) ?_
    refine lv_iload_n hx hb dX3_least_17 rfl (lv_at hl 3 rfl) ?_
    have hPc := hP.sub (ws' := wSH cI cJ nl (ad 1) (ad 2) (ad 3) (ad 4) (ad 5) ra S) [1, 2, 3, 4, 5, 6, 7, 8] rfl
    refine vp_callSi (W.runV (As := [.int x1, .int x2, .int x3]) (rest := [.ref (ad 9)]) ⟨hx, hb, hml, hown, hT⟩ (met_X1_nodeAt l dC dI cI cZ cJ cL (ad 1) (ad 2) (ad 3) (ad 4) (ad 5) ra _ nl S  x1 x2 x3 hw) (cwV 3 hT (gV k_45 k_47 k_48 k_43 k_46) rfl rfl rfl (by decide +kernel) ⟨(Nat.le_of_ble_eq_true rfl), (Nat.le_of_ble_eq_true rfl)⟩) ⟨bl_R, va_recv hK hPc (ci := 1) (q0 := 0) rfl rfl, fun U hU hW => ⟨rfl, by rw [hU]; exact hPc, va_K.moved hW.alike hK⟩⟩ rfl rfl hl.1 rfl (lv_room (Nat.le_of_ble_eq_true rfl)) dX3_least_18 ⟨Nat.le_of_ble_eq_true rfl, Nat.le_of_ble_eq_true rfl⟩) (fun r_2 hw => ?_)
    try dsimp only at hw
    obtain ⟨h_3, hw⟩ := hw
    refine va_iald hx hb hK hP 9 0 rfl rfl h_3 dX3_least_21 ?_
    exact vx_ret (W.iret (v := (T_1.1 r_2.toNatClampNeg)) hx hb hr (fun t ht hW => ⟨⟨(T_1.1 r_2.toNatClampNeg), T_1, rfl, hw, by rw [ht]; exact hP, va_K.moved hW.alike hK, hD⟩, hS.F ht⟩) hS.2.2 dX3_least_22)
def wp_X3_value (post : Int32 → vTT → Prop) (px : String → vTT → Prop) (nl : Nat) (nn : Nat) (S : vSH) (T : vTT) (x1 : Int32) (x2 : Int32) (x3 : Int32) : Prop := wp_X3_checkNode (fun T_1 => ((x3 < 0 → (px "java/lang/IllegalArgumentException" T_1)) ∧ (¬ x3 < 0 → (((x3 ≤ 1000 → (wp_X3_checkNothingTold (fun T_4 => wp_X1_nodeAt (fun r_5 => vp_in r_5 nn ∧ (∀ x5_7 : Int32, x5_7 = T_4.1 r_5.toNatClampNeg → (vp_in r_5 nn ∧ (wp_X3_renewLeasts (fun T_9 => post x5_7 T_9) nl nn S ((upd T_4.1 r_5.toNatClampNeg x3), T_4.2.1, T_4.2.2.1, T_4.2.2.2.1, T_4.2.2.2.2.1, T_4.2.2.2.2.2) )))) nl S  0 x1 x2) (fun E T_4 => px E T_4) nl nn S T_1 )) ∧ (¬ x3 ≤ 1000 → (px "java/lang/IllegalArgumentException" T_1))))))) (fun E T_1 => px E T_1) nl nn S T 0 x1 x2
abbrev rm_X3_value : Room := { frames := 7, cells := 3, slots := 18, locals := 105 }
set_option maxHeartbeats 4000000 in
set_option maxRecDepth 100000 in
theorem met_X3_value (l : Launch) (hl9 : l.stackTraces = false) (dC : Nat → ClassId) (dI : Nat → Nat → Nat) (cI cZ cJ cL : ClassId) (sa : Nat → Nat) (ad ra : Nat → Nat) (sz : Nat) (post : Int32 → vTT → Prop) (px : String → vTT → Prop) (nl : Nat) (nn : Nat) (S : vSH) (T : vTT) (x1 : Int32) (x2 : Int32) (x3 : Int32) (hw : wp_X3_value post px nl nn S T x1 x2 x3) : vx_Met l yX3_value wsX3_value rm_X3_value (pcX (dC, dI) (tysA cI cZ cJ cL) sa (wTT cI cZ cJ nl nn ad ra S T) sz [.ref (ad 0), .int x1, .int x2, .int x3]) (va_Qi post (fun u t => qB (dC, dI) (tysA cI cZ cJ cL) (va_A (wTT cI cZ cJ nl nn ad ra S T) sz) (wTT cI cZ cJ nl nn ad ra S u) t) (va_A (wTT cI cZ cJ nl nn ad ra S T) sz)) (vx_X (fun u : String × vTT => px u.1 u.2) (fun E u t => E = u.1 ∧ qB (dC, dI) (tysA cI cZ cJ cL) (va_A (wTT cI cZ cJ nl nn ad ra S T) sz) (wTT cI cZ cJ nl nn ad ra S u.2) t) (va_A (wTT cI cZ cJ nl nn ad ra S T) sz)) 3 18 (va_A (wTT cI cZ cJ nl nn ad ra S T) sz) := by
  refine vx_ofW (cc := cX3_value) (maxL := 6) (ret := (some .int)) (by decide) rfl ?_
  intro p e s m args below meth c s₁ Bd hml hno hv
  obtain ⟨hargs, hsz, hP, hK, hD0, hZ⟩ := hv
  have hx := Bd.exec
  have hb := Bd.bytes
  have hr := Bd.returns
  have hts := atoms_spec (ws := wsX3_value) Bd.pre
  have hT : ∀ w ∈ WALL, w.before args s = true := fun w h => hts w (List.mem_cons_of_mem _ h)
  have hown : s.vm.findClass RX3 = some m.cls := findClass_of_methodNamed Bd.named
  have hlocks := Bd.notSynchronized
  subst hsz
  have hD := hD0.self (sz := s.heap.size)
  generalize hAe : va_A (wTT cI cZ cJ nl nn ad ra S T) s.heap.size = A at hD ⊢
  have hA : ∀ q : Nat, s.heap.size ≤ q → A q := fun q h => by rw [← hAe]; exact Or.inr h
  have hS : va_S A s.heap s.heap [] := va_S.rf
  rw [hAe] at hZ
  have hP : va_P (dC, dI) vwCl (wTT cI cZ cJ nl nn ad ra S T) s.heap := hP
  have hl := lv_entry ([.ref (ad 0), .int x1, .int x2, .int x3]) (n := 6) (Nat.le_of_ble_eq_true rfl)
  rw [show entryFrame m args 6 = F0 m 0 _ [] from by rw [hargs]; exact lg_entry_eq m ([.ref (ad 0), .int x1, .int x2, .int x3]) 6]
  generalize (lg_sl ([.ref (ad 0), .int x1, .int x2, .int x3]) ++ List.replicate (6 - (lg_sl ([.ref (ad 0), .int x1, .int x2, .int x3])).length) Slot.unset).toArray = ls at hl ⊢
  have hl : lv_has ls 6 [(0, .ref (ad 0)), (1, .int x1), (2, .int x2), (3, .int x3)] := hl
  obtain ⟨H, hH⟩ : ∃ z : Heap, z = s.heap := ⟨_, rfl⟩
  obtain ⟨locs, hlocs⟩ : ∃ z : List Loc, z = [] := ⟨_, rfl⟩
  rw [show W p l e (headSpec wsX3_value rm_X3_value).room s m args below meth c s.heap [] 0 0 = W p l e (headSpec wsX3_value rm_X3_value).room s m args below meth c H locs 0 0 from by rw [hH, hlocs]]
  have hP : va_P (dC, dI) vwCl (wTT cI cZ cJ nl nn ad ra S T) H := by rw [hH]; exact hP
  have hS : va_S A s.heap H locs := by rw [hH, hlocs]; exact hS
  unfold wp_X3_value at hw
  refine lv_aload_n hx hb dX3_value_0 rfl (lv_at hl 0 rfl) ?_
  refine lv_iconst (v := 0) hx hb dX3_value_1 (by decide) ?_
  refine lv_iload_n hx hb dX3_value_2 rfl (lv_at hl 1 rfl) ?_
  refine lv_iload_n hx hb dX3_value_3 rfl (lv_at hl 2 rfl) ?_
  have hPc := hP
  have hDc := hD
  have hFc := va_free (wc := wTT cI cZ cJ nl nn ad ra S T) hD hS hA [0, 1, 2, 3, 4, 5, 6, 7, 8, 9, 10, 11, 12, 13, 14, 15, 16, 17, 18, 19] rfl
  refine vx_callv (vx_runV (As := [.int 0, .int x1, .int x2]) (rest := []) ⟨hx, hb, hml, hown, hT⟩ (met_X3_checkNode l hl9 dC dI cI cZ cJ cL sa ad ra H.size _ _ nl nn S T 0 x1 x2 hw) (cwV 3 hT (gV k_128 k_130 k_131 k_57 k_129) rfl rfl rfl (by decide +kernel) ⟨(Nat.le_of_ble_eq_true rfl), (Nat.le_of_ble_eq_true rfl)⟩) ⟨bl_X, va_recv hK hPc (ci := 3) (q0 := 0) rfl rfl, fun U hU hW => ⟨rfl, by rw [hU], by rw [hU]; exact hPc, va_K.moved hW.alike hK, hDc.weaken (fun _ _ _ _ => trivial), hZ.call hW hU hS hFc⟩⟩ rfl rfl hl.1 rfl (lv_room (Nat.le_of_ble_eq_true rfl)) dX3_value_4 ⟨Nat.le_of_ble_eq_true rfl, Nat.le_of_ble_eq_true rfl⟩) hS (fun q _ h => hFc q h) hFc (fun q _ h => hFc q h) (fun E ce q9 u9 t H1 locs ht hvm hw hB hz1 hk1 hS hce hcv hcl => ?_) (fun T_1 t H1 locs ht hvm hw hB hz1 hk1 hS => ?_)
  · obtain ⟨E9, T_1⟩ := u9
    obtain ⟨rfl, hP1, -, hD1⟩ := hB
    try dsimp only at hw
    rw [ht] at hP1
    obtain ⟨hP, hD⟩ := va_join (wr := []) (w1 := wTT cI cZ cJ nl nn ad ra S T_1) hP hD [0, 1, 2, 3, 4, 5, 6, 7, 8, 9, 10, 11, 12, 13, 14, 15, 16, 17, 18, 19] [] rfl rfl (by decide) (by decide) hk1 hFc hP1 hD1
    generalize H1 = H at hP hS hce ⊢
    have hP := hP.sub (ws' := wTT cI cZ cJ nl nn ad ra S T_1) [0, 1, 2, 3, 4, 5, 6, 7, 8, 9, 10, 11, 12, 13, 14, 15, 16, 17, 18, 19] rfl
    have hD := hD.sub (ws' := wTT cI cZ cJ nl nn ad ra S T_1) [0, 1, 2, 3, 4, 5, 6, 7, 8, 9, 10, 11, 12, 13, 14, 15, 16, 17, 18, 19] (by decide) rfl
    exact vx_out (fun x h => (hno x h).elim) hlocks hce hcv hcl (fun t ht ha => ⟨(E, T_1), hw, ⟨rfl, by rw [ht]; exact hP, va_K.moved ha hK, hD⟩, hS.F ht⟩) hS.2.2 (Nat.le_of_ble_eq_true rfl) (Nat.le_of_ble_eq_true rfl)
  · obtain ⟨hP1, -, hD1⟩ := hB
    try dsimp only at hw
    rw [ht] at hP1
    obtain ⟨hP, hD⟩ := va_join (wr := []) (w1 := wTT cI cZ cJ nl nn ad ra S T_1) hP hD [0, 1, 2, 3, 4, 5, 6, 7, 8, 9, 10, 11, 12, 13, 14, 15, 16, 17, 18, 19] [] rfl rfl (by decide) (by decide) hk1 hFc hP1 hD1
    generalize H1 = H at hP hS ⊢
    have hP := hP.sub (ws' := wTT cI cZ cJ nl nn ad ra S T_1) [0, 1, 2, 3, 4, 5, 6, 7, 8, 9, 10, 11, 12, 13, 14, 15, 16, 17, 18, 19] rfl
    have hD := hD.sub (ws' := wTT cI cZ cJ nl nn ad ra S T_1) [0, 1, 2, 3, 4, 5, 6, 7, 8, 9, 10, 11, 12, 13, 14, 15, 16, 17, 18, 19] (by decide) rfl
    refine lv_iload_n hx hb dX3_value_7 rfl (lv_at hl 3 rfl) ?_
    refine lv_if_lt (tgt := 18) hx hb dX3_value_8 (by decide) (fun c_2 => ?_) (fun c_2 => ?_)
    · have hw := hw.1 c_2
      exact vx_throwS (own := RX3) (cls := "java/lang/IllegalArgumentException") (names := exNames) hx hb hl9 hown (by decide +kernel) (by decide +kernel) (hT _ k_104) (hT _ k_105) (hZ.2.2.2 _ (List.mem_of_getElem? (i := 0) rfl)) (hat_63 hT hZ.2.2.1) hgd_63 hZ.1 hZ.2.1 hS (hl.1.trans hml.symm) dX3_value_18 dX3_value_21 dX3_value_22 dX3_value_24 dX3_value_27 (fun x h => (hno x h).elim) (Nat.le_of_ble_eq_true rfl) (Nat.le_of_ble_eq_true rfl) (Nat.le_of_ble_eq_true rfl) (Nat.le_of_ble_eq_true rfl) hlocks (fun t ha hsz hk => ⟨("java/lang/IllegalArgumentException", T_1), hw, ⟨rfl, hP.kept (fun k q hq => hk q.1 (hP k q hq).lt), va_K.moved ha hK, hD⟩, Nat.le_trans hS.1 hsz, fun q h1 h2 => (hk q (Nat.lt_of_lt_of_le h1 hS.1)).trans (hS.2.1 q h1 h2)⟩) hS.2.2 (Nat.le_of_ble_eq_true rfl) (Nat.le_of_ble_eq_true rfl)
    · have hw := hw.2 c_2
      refine lv_iload_n hx hb dX3_value_11 rfl (lv_at hl 3 rfl) ?_
      refine lv_sipush (v := 1000) hx hb dX3_value_12 (by decide) ?_
      refine lv_icmp_le (tgt := 28) hx hb dX3_value_15 (by decide) (fun c_3 => ?_) (fun c_3 => ?_)
      · have hw := hw.1 c_3
        refine lv_aload_n hx hb dX3_value_28 rfl (lv_at hl 0 rfl) ?_
        have hPc := hP
        have hDc := hD
        have hFc := va_free (wc := wTT cI cZ cJ nl nn ad ra S T_1) hD hS hA [0, 1, 2, 3, 4, 5, 6, 7, 8, 9, 10, 11, 12, 13, 14, 15, 16, 17, 18, 19] rfl
        refine vx_callv (vx_runV (As := []) (rest := []) ⟨hx, hb, hml, hown, hT⟩ (met_X3_checkNothingTold l hl9 dC dI cI cZ cJ cL sa ad ra H.size _ _ nl nn S T_1  hw) (cwV 0 hT (gV k_132 k_134 k_135 k_57 k_133) rfl rfl rfl (by decide +kernel) ⟨(Nat.le_of_ble_eq_true rfl), (Nat.le_of_ble_eq_true rfl)⟩) ⟨bl_X, va_recv hK hPc (ci := 3) (q0 := 0) rfl rfl, fun U hU hW => ⟨rfl, by rw [hU], by rw [hU]; exact hPc, va_K.moved hW.alike hK, hDc.weaken (fun _ _ _ _ => trivial), hZ.call hW hU hS hFc⟩⟩ rfl rfl hl.1 rfl (lv_room (Nat.le_of_ble_eq_true rfl)) dX3_value_29 ⟨Nat.le_of_ble_eq_true rfl, Nat.le_of_ble_eq_true rfl⟩) hS (fun q _ h => hFc q h) hFc (fun q _ h => hFc q h) (fun E ce q9 u9 t H1 locs ht hvm hw hB hz1 hk1 hS hce hcv hcl => ?_) (fun T_4 t H1 locs ht hvm hw hB hz1 hk1 hS => ?_)
        · obtain ⟨E9, T_4⟩ := u9
          obtain ⟨rfl, hP1, -, hD1⟩ := hB
          try dsimp only at hw
          rw [ht] at hP1
          obtain ⟨hP, hD⟩ := va_join (wr := []) (w1 := wTT cI cZ cJ nl nn ad ra S T_4) hP hD [0, 1, 2, 3, 4, 5, 6, 7, 8, 9, 10, 11, 12, 13, 14, 15, 16, 17, 18, 19] [] rfl rfl (by decide) (by decide) hk1 hFc hP1 hD1
          generalize H1 = H at hP hS hce ⊢
          have hP := hP.sub (ws' := wTT cI cZ cJ nl nn ad ra S T_4) [0, 1, 2, 3, 4, 5, 6, 7, 8, 9, 10, 11, 12, 13, 14, 15, 16, 17, 18, 19] rfl
          have hD := hD.sub (ws' := wTT cI cZ cJ nl nn ad ra S T_4) [0, 1, 2, 3, 4, 5, 6, 7, 8, 9, 10, 11, 12, 13, 14, 15, 16, 17, 18, 19] (by decide) rfl
          exact vx_out (fun x h => (hno x h).elim) hlocks hce hcv hcl (fun t ht ha => ⟨(E, T_4), hw, ⟨rfl, by rw [ht]; exact hP, va_K.moved ha hK, hD⟩, hS.F ht⟩) hS.2.2 (Nat.le_of_ble_eq_true rfl) (Nat.le_of_ble_eq_true rfl)
        · obtain ⟨hP1, -, hD1⟩ := hB
          try dsimp only at hw
          rw [ht] at hP1
          obtain ⟨hP, hD⟩ := va_join (wr := []) (w1 := wTT cI cZ cJ nl nn ad ra S T_4) hP hD [0, 1, 2, 3, 4, 5, 6, 7, 8, 9, 10, 11, 12, 13, 14, 15, 16, 17, 18, 19] [] rfl rfl (by decide) (by decide) hk1 hFc hP1 hD1
          generalize H1 = H at hP hS ⊢
          have hP := hP.sub (ws' := wTT cI cZ cJ nl nn ad ra S T_4) [0, 1, 2, 3, 4, 5, 6, 7, 8, 9, 10, 11, 12, 13, 14, 15, 16, 17, 18, 19] rfl
          have hD := hD.sub (ws' := wTT cI cZ cJ nl nn ad ra S T_4) [0, 1, 2, 3, 4, 5, 6, 7, 8, 9, 10, 11, 12, 13, 14, 15, 16, 17, 18, 19] (by decide) rfl
          refine lv_aload_n hx hb dX3_value_32 rfl (lv_at hl 0 rfl) ?_
          refine va_get (D := (dC, dI)) (ci := 3) (v := .ref (ad 1)) (C := RX3) (T := TX3) (N := 7) hx hb hT inX3 hown hK hP 0 rfl rfl 0 (by decide) (hT _ k_17) (fun _ h9 => h9) rfl dX3_value_33 ?_
          refine lv_iconst (v := 0) hx hb dX3_value_36 (by decide) ?_
          refine lv_iload_n hx hb dX3_value_37 rfl (lv_at hl 1 rfl) ?_
          refine lv_iload_n hx hb dX3_value_38 rfl (lv_at hl 2 rfl) ?_
          have hPc := hP.sub (ws' := wSH cI cJ nl (ad 1) (ad 2) (ad 3) (ad 4) (ad 5) ra S) [1, 2, 3, 4, 5, 6, 7, 8] rfl
          refine vp_callSi (W.runV (As := [.int 0, .int x1, .int x2]) (rest := []) ⟨hx, hb, hml, hown, hT⟩ (met_X1_nodeAt l dC dI cI cZ cJ cL (ad 1) (ad 2) (ad 3) (ad 4) (ad 5) ra _ nl S  0 x1 x2 hw) (cwV 3 hT (gV k_45 k_47 k_48 k_43 k_46) rfl rfl rfl (by decide +kernel) ⟨(Nat.le_of_ble_eq_true rfl), (Nat.le_of_ble_eq_true rfl)⟩) ⟨bl_R, va_recv hK hPc (ci := 1) (q0 := 0) rfl rfl, fun U hU hW => ⟨rfl, by rw [hU]; exact hPc, va_K.moved hW.alike hK⟩⟩ rfl rfl hl.1 rfl (lv_room (Nat.le_of_ble_eq_true rfl)) dX3_value_39 ⟨Nat.le_of_ble_eq_true rfl, Nat.le_of_ble_eq_true rfl⟩) (fun r_5 hw => ?_)
          try dsimp only at hw
          refine lv_istore (lv' := [(4, .int r_5), (0, .ref (ad 0)), (1, .int x1), (2, .int x2), (3, .int x3)]) hx hb dX3_value_42 hl (by decide) rfl (fun ls hl => ?_)
          refine lv_aload_n hx hb dX3_value_44 rfl (lv_at hl 1 rfl) ?_
          refine va_get (D := (dC, dI)) (ci := 3) (v := .ref (ad 9)) (C := RX3) (T := TX3) (N := 7) hx hb hT inX3 hown hK hP 0 rfl rfl 1 (by decide) (hT _ k_44) (fun _ h9 => h9) rfl dX3_value_45 ?_
          refine lv_iload hx hb dX3_value_48 (lv_at hl 0 rfl) ?_
          obtain ⟨h_6, hw⟩ := hw
          refine va_iald hx hb hK hP 9 0 rfl rfl h_6 dX3_value_50 ?_
          refine lv_topi (fun x5_7 ex5_7 => ?_)
          have hw := hw x5_7 ex5_7
          refine lv_istore (lv' := [(5, .int x5_7), (4, .int r_5), (0, .ref (ad 0)), (1, .int x1), (2, .int x2), (3, .int x3)]) hx hb dX3_value_51 hl (by decide) rfl (fun ls hl => ?_)
          refine lv_aload_n hx hb dX3_value_53 rfl (lv_at hl 2 rfl) ?_
          refine va_get (D := (dC, dI)) (ci := 3) (v := .ref (ad 9)) (C := RX3) (T := TX3) (N := 7) hx hb hT inX3 hown hK hP 0 rfl rfl 1 (by decide) (hT _ k_44) (fun _ h9 => h9) rfl dX3_value_54 ?_
          refine lv_iload hx hb dX3_value_57 (lv_at hl 1 rfl) ?_
          refine lv_iload_n hx hb dX3_value_59 rfl (lv_at hl 5 rfl) ?_
          obtain ⟨h_8, hw⟩ := hw
          refine va_iast hx hb hK hP hD hS 9 0 rfl rfl h_8 dX3_value_60 (fun H locs hP hD hS => ?_)
          have hP : va_P (dC, dI) vwCl (wTT cI cZ cJ nl nn ad ra S ((upd T_4.1 r_5.toNatClampNeg x3), T_4.2.1, T_4.2.2.1, T_4.2.2.2.1, T_4.2.2.2.2.1, T_4.2.2.2.2.2)) H := hP
          have hD : va_D A (wTT cI cZ cJ nl nn ad ra S ((upd T_4.1 r_5.toNatClampNeg x3), T_4.2.1, T_4.2.2.1, T_4.2.2.2.1, T_4.2.2.2.2.1, T_4.2.2.2.2.2)) := hD
          refine lv_aload_n hx hb dX3_value_61 rfl (lv_at hl 2 rfl) ?_
          have hPc := hP
          have hDc := hD
          have hFc := va_free (wc := wTT cI cZ cJ nl nn ad ra S ((upd T_4.1 r_5.toNatClampNeg x3), T_4.2.1, T_4.2.2.1, T_4.2.2.2.1, T_4.2.2.2.2.1, T_4.2.2.2.2.2)) hD hS hA [0, 1, 2, 3, 4, 5, 6, 7, 8, 9, 10, 11, 12, 13, 14, 15, 16, 17, 18, 19] rfl
          refine va_callv (va_runV (As := []) (rest := []) ⟨hx, hb, hml, hown, hT⟩ (met_X3_renewLeasts l dC dI cI cZ cJ cL ad ra H.size _ nl nn S ((upd T_4.1 r_5.toNatClampNeg x3), T_4.2.1, T_4.2.2.1, T_4.2.2.2.1, T_4.2.2.2.2.1, T_4.2.2.2.2.2)  hw) (cwV 0 hT (gV k_136 k_138 k_139 k_57 k_137) rfl rfl rfl (by decide +kernel) ⟨(Nat.le_of_ble_eq_true rfl), (Nat.le_of_ble_eq_true rfl)⟩) ⟨bl_W, va_recv hK hPc (ci := 3) (q0 := 0) rfl rfl, fun U hU hW => ⟨rfl, by rw [hU], by rw [hU]; exact hPc, va_K.moved hW.alike hK, hDc.weaken (fun _ _ _ _ => trivial)⟩⟩ rfl rfl hl.1 rfl (lv_room (Nat.le_of_ble_eq_true rfl)) dX3_value_62 ⟨Nat.le_of_ble_eq_true rfl, Nat.le_of_ble_eq_true rfl⟩) hS (fun q _ h => hFc q h) hFc (fun T_9 t H1 locs ht hvm hw hB hz1 hk1 hS => ?_)
          obtain ⟨hP1, -, hD1⟩ := hB
          try dsimp only at hw
          rw [ht] at hP1
          obtain ⟨hP, hD⟩ := va_join (wr := []) (w1 := wTT cI cZ cJ nl nn ad ra S T_9) hP hD [0, 1, 2, 3, 4, 5, 6, 7, 8, 9, 10, 11, 12, 13, 14, 15, 16, 17, 18, 19] [] rfl rfl (by decide) (by decide) hk1 hFc hP1 hD1
          generalize H1 = H at hP hS ⊢
          have hP := hP.sub (ws' := wTT cI cZ cJ nl nn ad ra S T_9) [0, 1, 2, 3, 4, 5, 6, 7, 8, 9, 10, 11, 12, 13, 14, 15, 16, 17, 18, 19] rfl
          have hD := hD.sub (ws' := wTT cI cZ cJ nl nn ad ra S T_9) [0, 1, 2, 3, 4, 5, 6, 7, 8, 9, 10, 11, 12, 13, 14, 15, 16, 17, 18, 19] (by decide) rfl
          refine lv_iload hx hb dX3_value_65 (lv_at hl 0 rfl) ?_
          refine W.widen (k := 3) (n := 18) (Nat.le_of_ble_eq_true rfl) (Nat.le_of_ble_eq_true rfl) ?_
          exact vx_ret (W.iret (v := x5_7) hx hb hr (fun t ht hW => ⟨⟨x5_7, T_9, rfl, hw, by rw [ht]; exact hP, va_K.moved hW.alike hK, hD⟩, hS.F ht⟩) hS.2.2 dX3_value_67)
      · have hw := hw.2 c_3
        exact vx_throwS (own := RX3) (cls := "java/lang/IllegalArgumentException") (names := exNames) hx hb hl9 hown (by decide +kernel) (by decide +kernel) (hT _ k_104) (hT _ k_105) (hZ.2.2.2 _ (List.mem_of_getElem? (i := 0) rfl)) (hat_63 hT hZ.2.2.1) hgd_63 hZ.1 hZ.2.1 hS (hl.1.trans hml.symm) dX3_value_18 dX3_value_21 dX3_value_22 dX3_value_24 dX3_value_27 (fun x h => (hno x h).elim) (Nat.le_of_ble_eq_true rfl) (Nat.le_of_ble_eq_true rfl) (Nat.le_of_ble_eq_true rfl) (Nat.le_of_ble_eq_true rfl) hlocks (fun t ha hsz hk => ⟨("java/lang/IllegalArgumentException", T_1), hw, ⟨rfl, hP.kept (fun k q hq => hk q.1 (hP k q hq).lt), va_K.moved ha hK, hD⟩, Nat.le_trans hS.1 hsz, fun q h1 h2 => (hk q (Nat.lt_of_lt_of_le h1 hS.1)).trans (hS.2.1 q h1 h2)⟩) hS.2.2 (Nat.le_of_ble_eq_true rfl) (Nat.le_of_ble_eq_true rfl)
def wp_X3_values_L61 (post : Int32 → vTT → Prop) (px : String → vTT → Prop) (ex61 : vTT → Int32 → Int64 → Prop) (nl : Nat) (nn : Nat) (S : vSH) (x7_5 : Int32) (r_4 : Int32) (x1 : Int32) (x2 : Int32) (x3 : Int32) (x4 : Int32) (x5 : Int32) : Nat → vTT → Int32 → Int64 → Prop
  | 0, _, _, _ => False
  | n_10 + 1, T_7, x10_8, x8_9 => ((x7_5 ≤ x10_8 → (ex61 T_7 x10_8 x8_9)) ∧ (¬ x7_5 ≤ x10_8 → (wp_X3_nearest (fun r_13 => vp_in (r_4 + x10_8) nn ∧ (∀ x8_15 : Int64, x8_15 = x8_9 + x5.toInt64 → (∀ x10_16 : Int32, x10_16 = x10_8 + 1 → (wp_X3_values_L61 post px ex61 nl nn S x7_5 r_4 x1 x2 x3 x4 x5 n_10 ((upd T_7.1 ((r_4 + x10_8).toNatClampNeg) r_13), T_7.2.1, T_7.2.2.1, T_7.2.2.2.1, T_7.2.2.2.2.1, T_7.2.2.2.2.2) x10_16 x8_15))))   x8_9 0 1000)))
def wp_X3_values (post : Int32 → vTT → Prop) (px : String → vTT → Prop) (nl : Nat) (nn : Nat) (S : vSH) (T : vTT) (x1 : Int32) (x2 : Int32) (x3 : Int32) (x4 : Int32) (x5 : Int32) : Prop := wp_X3_checkNode (fun T_1 => ((0 ≤ x3 → (wp_X3_checkNothingTold (fun T_3 => wp_X1_nodeAt (fun r_4 => ∀ x7_5 : Int32, x7_5 = (if (S.1.2.2.1 - r_4) < x3 then (S.1.2.2.1 - r_4) else x3) → (∀ x8_6 : Int64, x8_6 = x4.toInt64 → (∃ n_10 : Nat, wp_X3_values_L61 post px (fun (T_7 : vTT) (x10_8 : Int32) (x8_9 : Int64) => wp_X3_renewLeasts (fun T_11 => post x7_5 T_11) nl nn S T_7 ) nl nn S x7_5 r_4 x1 x2 x3 x4 x5 n_10 T_3 0 x8_6))) nl S  0 x1 x2) (fun E T_3 => px E T_3) nl nn S T_1 )) ∧ (¬ 0 ≤ x3 → (px "java/lang/IllegalArgumentException" T_1)))) (fun E T_1 => px E T_1) nl nn S T 0 x1 x2
abbrev rm_X3_values : Room := { frames := 7, cells := 3, slots := 18, locals := 105 }
set_option maxHeartbeats 4000000 in
set_option maxRecDepth 100000 in
theorem met_X3_values (l : Launch) (hl9 : l.stackTraces = false) (dC : Nat → ClassId) (dI : Nat → Nat → Nat) (cI cZ cJ cL : ClassId) (sa : Nat → Nat) (ad ra : Nat → Nat) (sz : Nat) (post : Int32 → vTT → Prop) (px : String → vTT → Prop) (nl : Nat) (nn : Nat) (S : vSH) (T : vTT) (x1 : Int32) (x2 : Int32) (x3 : Int32) (x4 : Int32) (x5 : Int32) (hw : wp_X3_values post px nl nn S T x1 x2 x3 x4 x5) : vx_Met l yX3_values wsX3_values rm_X3_values (pcX (dC, dI) (tysA cI cZ cJ cL) sa (wTT cI cZ cJ nl nn ad ra S T) sz [.ref (ad 0), .int x1, .int x2, .int x3, .int x4, .int x5]) (va_Qi post (fun u t => qB (dC, dI) (tysA cI cZ cJ cL) (va_A (wTT cI cZ cJ nl nn ad ra S T) sz) (wTT cI cZ cJ nl nn ad ra S u) t) (va_A (wTT cI cZ cJ nl nn ad ra S T) sz)) (vx_X (fun u : String × vTT => px u.1 u.2) (fun E u t => E = u.1 ∧ qB (dC, dI) (tysA cI cZ cJ cL) (va_A (wTT cI cZ cJ nl nn ad ra S T) sz) (wTT cI cZ cJ nl nn ad ra S u.2) t) (va_A (wTT cI cZ cJ nl nn ad ra S T) sz)) 3 18 (va_A (wTT cI cZ cJ nl nn ad ra S T) sz) := by
  refine vx_ofW (cc := cX3_values) (maxL := 11) (ret := (some .int)) (by decide) rfl ?_
  intro p e s m args below meth c s₁ Bd hml hno hv
  obtain ⟨hargs, hsz, hP, hK, hD0, hZ⟩ := hv
  have hx := Bd.exec
  have hb := Bd.bytes
  have hr := Bd.returns
  have hts := atoms_spec (ws := wsX3_values) Bd.pre
  have hT : ∀ w ∈ WALL, w.before args s = true := fun w h => hts w (List.mem_cons_of_mem _ h)
  have hown : s.vm.findClass RX3 = some m.cls := findClass_of_methodNamed Bd.named
  have hlocks := Bd.notSynchronized
  subst hsz
  have hD := hD0.self (sz := s.heap.size)
  generalize hAe : va_A (wTT cI cZ cJ nl nn ad ra S T) s.heap.size = A at hD ⊢
  have hA : ∀ q : Nat, s.heap.size ≤ q → A q := fun q h => by rw [← hAe]; exact Or.inr h
  have hS : va_S A s.heap s.heap [] := va_S.rf
  rw [hAe] at hZ
  have hP : va_P (dC, dI) vwCl (wTT cI cZ cJ nl nn ad ra S T) s.heap := hP
  have hl := lv_entry ([.ref (ad 0), .int x1, .int x2, .int x3, .int x4, .int x5]) (n := 11) (Nat.le_of_ble_eq_true rfl)
  rw [show entryFrame m args 11 = F0 m 0 _ [] from by rw [hargs]; exact lg_entry_eq m ([.ref (ad 0), .int x1, .int x2, .int x3, .int x4, .int x5]) 11]
  generalize (lg_sl ([.ref (ad 0), .int x1, .int x2, .int x3, .int x4, .int x5]) ++ List.replicate (11 - (lg_sl ([.ref (ad 0), .int x1, .int x2, .int x3, .int x4, .int x5])).length) Slot.unset).toArray = ls at hl ⊢
  have hl : lv_has ls 11 [(0, .ref (ad 0)), (1, .int x1), (2, .int x2), (3, .int x3), (4, .int x4), (5, .int x5)] := hl
  obtain ⟨H, hH⟩ : ∃ z : Heap, z = s.heap := ⟨_, rfl⟩
  obtain ⟨locs, hlocs⟩ : ∃ z : List Loc, z = [] := ⟨_, rfl⟩
  rw [show W p l e (headSpec wsX3_values rm_X3_values).room s m args below meth c s.heap [] 0 0 = W p l e (headSpec wsX3_values rm_X3_values).room s m args below meth c H locs 0 0 from by rw [hH, hlocs]]
  have hP : va_P (dC, dI) vwCl (wTT cI cZ cJ nl nn ad ra S T) H := by rw [hH]; exact hP
  have hS : va_S A s.heap H locs := by rw [hH, hlocs]; exact hS
  unfold wp_X3_values at hw
  refine lv_aload_n hx hb dX3_values_0 rfl (lv_at hl 0 rfl) ?_
  refine lv_iconst (v := 0) hx hb dX3_values_1 (by decide) ?_
  refine lv_iload_n hx hb dX3_values_2 rfl (lv_at hl 1 rfl) ?_
  refine lv_iload_n hx hb dX3_values_3 rfl (lv_at hl 2 rfl) ?_
  have hPc := hP
  have hDc := hD
  have hFc := va_free (wc := wTT cI cZ cJ nl nn ad ra S T) hD hS hA [0, 1, 2, 3, 4, 5, 6, 7, 8, 9, 10, 11, 12, 13, 14, 15, 16, 17, 18, 19] rfl
  refine vx_callv (vx_runV (As := [.int 0, .int x1, .int x2]) (rest := []) ⟨hx, hb, hml, hown, hT⟩ (met_X3_checkNode l hl9 dC dI cI cZ cJ cL sa ad ra H.size _ _ nl nn S T 0 x1 x2 hw) (cwV 3 hT (gV k_128 k_130 k_131 k_57 k_129) rfl rfl rfl (by decide +kernel) ⟨(Nat.le_of_ble_eq_true rfl), (Nat.le_of_ble_eq_true rfl)⟩) ⟨bl_X, va_recv hK hPc (ci := 3) (q0 := 0) rfl rfl, fun U hU hW => ⟨rfl, by rw [hU], by rw [hU]; exact hPc, va_K.moved hW.alike hK, hDc.weaken (fun _ _ _ _ => trivial), hZ.call hW hU hS hFc⟩⟩ rfl rfl hl.1 rfl (lv_room (Nat.le_of_ble_eq_true rfl)) dX3_values_4 ⟨Nat.le_of_ble_eq_true rfl, Nat.le_of_ble_eq_true rfl⟩) hS (fun q _ h => hFc q h) hFc (fun q _ h => hFc q h) (fun E ce q9 u9 t H1 locs ht hvm hw hB hz1 hk1 hS hce hcv hcl => ?_) (fun T_1 t H1 locs ht hvm hw hB hz1 hk1 hS => ?_)
  · obtain ⟨E9, T_1⟩ := u9
    obtain ⟨rfl, hP1, -, hD1⟩ := hB
    try dsimp only at hw
    rw [ht] at hP1
    obtain ⟨hP, hD⟩ := va_join (wr := []) (w1 := wTT cI cZ cJ nl nn ad ra S T_1) hP hD [0, 1, 2, 3, 4, 5, 6, 7, 8, 9, 10, 11, 12, 13, 14, 15, 16, 17, 18, 19] [] rfl rfl (by decide) (by decide) hk1 hFc hP1 hD1
    generalize H1 = H at hP hS hce ⊢
    have hP := hP.sub (ws' := wTT cI cZ cJ nl nn ad ra S T_1) [0, 1, 2, 3, 4, 5, 6, 7, 8, 9, 10, 11, 12, 13, 14, 15, 16, 17, 18, 19] rfl
    have hD := hD.sub (ws' := wTT cI cZ cJ nl nn ad ra S T_1) [0, 1, 2, 3, 4, 5, 6, 7, 8, 9, 10, 11, 12, 13, 14, 15, 16, 17, 18, 19] (by decide) rfl
    exact vx_out (fun x h => (hno x h).elim) hlocks hce hcv hcl (fun t ht ha => ⟨(E, T_1), hw, ⟨rfl, by rw [ht]; exact hP, va_K.moved ha hK, hD⟩, hS.F ht⟩) hS.2.2 (Nat.le_of_ble_eq_true rfl) (Nat.le_of_ble_eq_true rfl)
  · obtain ⟨hP1, -, hD1⟩ := hB
    try dsimp only at hw
    rw [ht] at hP1
    obtain ⟨hP, hD⟩ := va_join (wr := []) (w1 := wTT cI cZ cJ nl nn ad ra S T_1) hP hD [0, 1, 2, 3, 4, 5, 6, 7, 8, 9, 10, 11, 12, 13, 14, 15, 16, 17, 18, 19] [] rfl rfl (by decide) (by decide) hk1 hFc hP1 hD1
    generalize H1 = H at hP hS ⊢
    have hP := hP.sub (ws' := wTT cI cZ cJ nl nn ad ra S T_1) [0, 1, 2, 3, 4, 5, 6, 7, 8, 9, 10, 11, 12, 13, 14, 15, 16, 17, 18, 19] rfl
    have hD := hD.sub (ws' := wTT cI cZ cJ nl nn ad ra S T_1) [0, 1, 2, 3, 4, 5, 6, 7, 8, 9, 10, 11, 12, 13, 14, 15, 16, 17, 18, 19] (by decide) rfl
    refine lv_iload_n hx hb dX3_values_7 rfl (lv_at hl 3 rfl) ?_
    refine lv_if_ge (tgt := 21) hx hb dX3_values_8 (by decide) (fun c_2 => ?_) (fun c_2 => ?_)
    · have hw := hw.1 c_2
      refine lv_aload_n hx hb dX3_values_21 rfl (lv_at hl 0 rfl) ?_
      have hPc := hP
      have hDc := hD
      have hFc := va_free (wc := wTT cI cZ cJ nl nn ad ra S T_1) hD hS hA [0, 1, 2, 3, 4, 5, 6, 7, 8, 9, 10, 11, 12, 13, 14, 15, 16, 17, 18, 19] rfl
      refine vx_callv (vx_runV (As := []) (rest := []) ⟨hx, hb, hml, hown, hT⟩ (met_X3_checkNothingTold l hl9 dC dI cI cZ cJ cL sa ad ra H.size _ _ nl nn S T_1  hw) (cwV 0 hT (gV k_132 k_134 k_135 k_57 k_133) rfl rfl rfl (by decide +kernel) ⟨(Nat.le_of_ble_eq_true rfl), (Nat.le_of_ble_eq_true rfl)⟩) ⟨bl_X, va_recv hK hPc (ci := 3) (q0 := 0) rfl rfl, fun U hU hW => ⟨rfl, by rw [hU], by rw [hU]; exact hPc, va_K.moved hW.alike hK, hDc.weaken (fun _ _ _ _ => trivial), hZ.call hW hU hS hFc⟩⟩ rfl rfl hl.1 rfl (lv_room (Nat.le_of_ble_eq_true rfl)) dX3_values_22 ⟨Nat.le_of_ble_eq_true rfl, Nat.le_of_ble_eq_true rfl⟩) hS (fun q _ h => hFc q h) hFc (fun q _ h => hFc q h) (fun E ce q9 u9 t H1 locs ht hvm hw hB hz1 hk1 hS hce hcv hcl => ?_) (fun T_3 t H1 locs ht hvm hw hB hz1 hk1 hS => ?_)
      · obtain ⟨E9, T_3⟩ := u9
        obtain ⟨rfl, hP1, -, hD1⟩ := hB
        try dsimp only at hw
        rw [ht] at hP1
        obtain ⟨hP, hD⟩ := va_join (wr := []) (w1 := wTT cI cZ cJ nl nn ad ra S T_3) hP hD [0, 1, 2, 3, 4, 5, 6, 7, 8, 9, 10, 11, 12, 13, 14, 15, 16, 17, 18, 19] [] rfl rfl (by decide) (by decide) hk1 hFc hP1 hD1
        generalize H1 = H at hP hS hce ⊢
        have hP := hP.sub (ws' := wTT cI cZ cJ nl nn ad ra S T_3) [0, 1, 2, 3, 4, 5, 6, 7, 8, 9, 10, 11, 12, 13, 14, 15, 16, 17, 18, 19] rfl
        have hD := hD.sub (ws' := wTT cI cZ cJ nl nn ad ra S T_3) [0, 1, 2, 3, 4, 5, 6, 7, 8, 9, 10, 11, 12, 13, 14, 15, 16, 17, 18, 19] (by decide) rfl
        exact vx_out (fun x h => (hno x h).elim) hlocks hce hcv hcl (fun t ht ha => ⟨(E, T_3), hw, ⟨rfl, by rw [ht]; exact hP, va_K.moved ha hK, hD⟩, hS.F ht⟩) hS.2.2 (Nat.le_of_ble_eq_true rfl) (Nat.le_of_ble_eq_true rfl)
      · obtain ⟨hP1, -, hD1⟩ := hB
        try dsimp only at hw
        rw [ht] at hP1
        obtain ⟨hP, hD⟩ := va_join (wr := []) (w1 := wTT cI cZ cJ nl nn ad ra S T_3) hP hD [0, 1, 2, 3, 4, 5, 6, 7, 8, 9, 10, 11, 12, 13, 14, 15, 16, 17, 18, 19] [] rfl rfl (by decide) (by decide) hk1 hFc hP1 hD1
        generalize H1 = H at hP hS ⊢
        have hP := hP.sub (ws' := wTT cI cZ cJ nl nn ad ra S T_3) [0, 1, 2, 3, 4, 5, 6, 7, 8, 9, 10, 11, 12, 13, 14, 15, 16, 17, 18, 19] rfl
        have hD := hD.sub (ws' := wTT cI cZ cJ nl nn ad ra S T_3) [0, 1, 2, 3, 4, 5, 6, 7, 8, 9, 10, 11, 12, 13, 14, 15, 16, 17, 18, 19] (by decide) rfl
        refine lv_aload_n hx hb dX3_values_25 rfl (lv_at hl 0 rfl) ?_
        refine va_get (D := (dC, dI)) (ci := 3) (v := .ref (ad 1)) (C := RX3) (T := TX3) (N := 7) hx hb hT inX3 hown hK hP 0 rfl rfl 0 (by decide) (hT _ k_17) (fun _ h9 => h9) rfl dX3_values_26 ?_
        refine lv_iconst (v := 0) hx hb dX3_values_29 (by decide) ?_
        refine lv_iload_n hx hb dX3_values_30 rfl (lv_at hl 1 rfl) ?_
        refine lv_iload_n hx hb dX3_values_31 rfl (lv_at hl 2 rfl) ?_
        have hPc := hP.sub (ws' := wSH cI cJ nl (ad 1) (ad 2) (ad 3) (ad 4) (ad 5) ra S) [1, 2, 3, 4, 5, 6, 7, 8] rfl
        refine vp_callSi (W.runV (As := [.int 0, .int x1, .int x2]) (rest := []) ⟨hx, hb, hml, hown, hT⟩ (met_X1_nodeAt l dC dI cI cZ cJ cL (ad 1) (ad 2) (ad 3) (ad 4) (ad 5) ra _ nl S  0 x1 x2 hw) (cwV 3 hT (gV k_45 k_47 k_48 k_43 k_46) rfl rfl rfl (by decide +kernel) ⟨(Nat.le_of_ble_eq_true rfl), (Nat.le_of_ble_eq_true rfl)⟩) ⟨bl_R, va_recv hK hPc (ci := 1) (q0 := 0) rfl rfl, fun U hU hW => ⟨rfl, by rw [hU]; exact hPc, va_K.moved hW.alike hK⟩⟩ rfl rfl hl.1 rfl (lv_room (Nat.le_of_ble_eq_true rfl)) dX3_values_32 ⟨Nat.le_of_ble_eq_true rfl, Nat.le_of_ble_eq_true rfl⟩) (fun r_4 hw => ?_)
        try dsimp only at hw
        refine lv_istore (lv' := [(6, .int r_4), (0, .ref (ad 0)), (1, .int x1), (2, .int x2), (3, .int x3), (4, .int x4), (5, .int x5)]) hx hb dX3_values_35 hl (by decide) rfl (fun ls hl => ?_)
        refine lv_iload_n hx hb dX3_values_37 rfl (lv_at hl 4 rfl) ?_
        refine lv_aload_n hx hb dX3_values_38 rfl (lv_at hl 1 rfl) ?_
        refine va_get (D := (dC, dI)) (ci := 3) (v := .ref (ad 1)) (C := RX3) (T := TX3) (N := 7) hx hb hT inX3 hown hK hP 0 rfl rfl 0 (by decide) (hT _ k_17) (fun _ h9 => h9) rfl dX3_values_39 ?_
        refine va_get (D := (dC, dI)) (ci := 1) (v := .int S.1.2.2.1) (C := RX1) (T := TX1) (N := 9) hx hb hT inX1 hown hK hP 1 rfl rfl 2 (by decide) (hT _ k_116) (fun _ h9 => h9) rfl dX3_values_42 ?_
        refine lv_iload hx hb dX3_values_45 (lv_at hl 0 rfl) ?_
        refine lv_isub hx hb dX3_values_47 ?_
        refine va_mmin (x := x3) (y := (S.1.2.2.1 - r_4)) (rest := []) hx hb (by rw [hml]; exact hl.1.symm) hown (hT _ k_49) (hT _ k_50) (hT _ k_51) (hT _ k_52) (Nat.le_of_ble_eq_true rfl) (Nat.le_of_ble_eq_true rfl) (Nat.le_of_ble_eq_true rfl) (Nat.le_of_ble_eq_true rfl) dX3_values_48 ?_
        refine lv_topi (fun x7_5 ex7_5 => ?_)
        have hw := hw x7_5 ex7_5
        refine lv_istore (lv' := [(7, .int x7_5), (6, .int r_4), (0, .ref (ad 0)), (1, .int x1), (2, .int x2), (3, .int x3), (4, .int x4), (5, .int x5)]) hx hb dX3_values_51 hl (by decide) rfl (fun ls hl => ?_)
        refine lv_iload hx hb dX3_values_53 (lv_at hl 6 rfl) ?_
        refine lv_i2l hx hb dX3_values_55 rfl ?_
        refine lv_topl (fun x8_6 ex8_6 => ?_)
        have hw := hw x8_6 ex8_6
        refine lv_lstore (lv' := [(8, .long x8_6), (7, .int x7_5), (6, .int r_4), (0, .ref (ad 0)), (1, .int x1), (2, .int x2), (3, .int x3), (4, .int x4), (5, .int x5)]) hx hb dX3_values_56 hl (by decide) rfl (fun ls hl => ?_)
        refine lv_iconst (v := 0) hx hb dX3_values_58 (by decide) ?_
        refine lv_istore (lv' := [(10, .int 0), (8, .long x8_6), (7, .int x7_5), (6, .int r_4), (0, .ref (ad 0)), (1, .int x1), (2, .int x2), (3, .int x3), (4, .int x4), (5, .int x5)]) hx hb dX3_values_59 hl (by decide) rfl (fun ls hl => ?_)
        obtain ⟨n_10, hw⟩ := hw
        obtain ⟨ex61, eex61⟩ : ∃ z : vTT → Int32 → Int64 → Prop, z = (fun (T_7 : vTT) (x10_8 : Int32) (x8_9 : Int64) => wp_X3_renewLeasts (fun T_11 => post x7_5 T_11) nl nn S T_7 ) := ⟨_, rfl⟩
        rw [← eex61] at hw
        have hx61 : ∀ (T_7 : vTT) (x10_8 : Int32) (x8_9 : Int64), ex61 T_7 x10_8 x8_9 → ∀ (H : Heap) (locs : List Loc) (ls : Array Slot), va_P (dC, dI) vwCl (wTT cI cZ cJ nl nn ad ra S T_7) H → va_D A (wTT cI cZ cJ nl nn ad ra S T_7) → va_S A s.heap H locs → lv_has ls 11 [(10, .int x10_8), (8, .long x8_9), (7, .int x7_5), (6, .int r_4), (0, .ref (ad 0)), (1, .int x1), (2, .int x2), (3, .int x3), (4, .int x4), (5, .int x5)] → W p l e (headSpec wsX3_values rm_X3_values).room s m args below meth c H locs 2 12 (vx_MQ below (va_Qi post (fun u t => qB (dC, dI) (tysA cI cZ cJ cL) A (wTT cI cZ cJ nl nn ad ra S u) t) A) (vx_X (fun u : String × vTT => px u.1 u.2) (fun E u t => E = u.1 ∧ qB (dC, dI) (tysA cI cZ cJ cL) A (wTT cI cZ cJ nl nn ad ra S u.2) t) A) args s 3 18 A) (F0 m 101 ls []) := by
          intro T_7 x10_8 x8_9 hw H locs ls hP hD hS hl
          rw [eex61] at hw
          try dsimp only at hw
          refine lv_aload_n hx hb dX3_values_101 rfl (lv_at hl 4 rfl) ?_
          have hPc := hP
          have hDc := hD
          have hFc := va_free (wc := wTT cI cZ cJ nl nn ad ra S T_7) hD hS hA [0, 1, 2, 3, 4, 5, 6, 7, 8, 9, 10, 11, 12, 13, 14, 15, 16, 17, 18, 19] rfl
          refine va_callv (va_runV (As := []) (rest := []) ⟨hx, hb, hml, hown, hT⟩ (met_X3_renewLeasts l dC dI cI cZ cJ cL ad ra H.size _ nl nn S T_7  hw) (cwV 0 hT (gV k_136 k_138 k_139 k_57 k_137) rfl rfl rfl (by decide +kernel) ⟨(Nat.le_of_ble_eq_true rfl), (Nat.le_of_ble_eq_true rfl)⟩) ⟨bl_W, va_recv hK hPc (ci := 3) (q0 := 0) rfl rfl, fun U hU hW => ⟨rfl, by rw [hU], by rw [hU]; exact hPc, va_K.moved hW.alike hK, hDc.weaken (fun _ _ _ _ => trivial)⟩⟩ rfl rfl hl.1 rfl (lv_room (Nat.le_of_ble_eq_true rfl)) dX3_values_102 ⟨Nat.le_of_ble_eq_true rfl, Nat.le_of_ble_eq_true rfl⟩) hS (fun q _ h => hFc q h) hFc (fun T_11 t H1 locs ht hvm hw hB hz1 hk1 hS => ?_)
          obtain ⟨hP1, -, hD1⟩ := hB
          try dsimp only at hw
          rw [ht] at hP1
          obtain ⟨hP, hD⟩ := va_join (wr := []) (w1 := wTT cI cZ cJ nl nn ad ra S T_11) hP hD [0, 1, 2, 3, 4, 5, 6, 7, 8, 9, 10, 11, 12, 13, 14, 15, 16, 17, 18, 19] [] rfl rfl (by decide) (by decide) hk1 hFc hP1 hD1
          generalize H1 = H at hP hS ⊢
          have hP := hP.sub (ws' := wTT cI cZ cJ nl nn ad ra S T_11) [0, 1, 2, 3, 4, 5, 6, 7, 8, 9, 10, 11, 12, 13, 14, 15, 16, 17, 18, 19] rfl
          have hD := hD.sub (ws' := wTT cI cZ cJ nl nn ad ra S T_11) [0, 1, 2, 3, 4, 5, 6, 7, 8, 9, 10, 11, 12, 13, 14, 15, 16, 17, 18, 19] (by decide) rfl
          refine lv_iload hx hb dX3_values_105 (lv_at hl 2 rfl) ?_
          refine W.widen (k := 3) (n := 18) (Nat.le_of_ble_eq_true rfl) (Nat.le_of_ble_eq_true rfl) ?_
          exact vx_ret (W.iret (v := x7_5) hx hb hr (fun t ht hW => ⟨⟨x7_5, T_11, rfl, hw, by rw [ht]; exact hP, va_K.moved hW.alike hK, hD⟩, hS.F ht⟩) hS.2.2 dX3_values_107)
        have hlp61 : ∀ (n_10 : Nat) (T_7 : vTT) (x10_8 : Int32) (x8_9 : Int64), wp_X3_values_L61 post px ex61 nl nn S x7_5 r_4 x1 x2 x3 x4 x5 n_10 T_7 x10_8 x8_9 → ∀ (H : Heap) (locs : List Loc) (ls : Array Slot), va_P (dC, dI) vwCl (wTT cI cZ cJ nl nn ad ra S T_7) H → va_D A (wTT cI cZ cJ nl nn ad ra S T_7) → va_S A s.heap H locs → lv_has ls 11 [(10, .int x10_8), (8, .long x8_9), (7, .int x7_5), (6, .int r_4), (0, .ref (ad 0)), (1, .int x1), (2, .int x2), (3, .int x3), (4, .int x4), (5, .int x5)] → W p l e (headSpec wsX3_values rm_X3_values).room s m args below meth c H locs 2 12 (vx_MQ below (va_Qi post (fun u t => qB (dC, dI) (tysA cI cZ cJ cL) A (wTT cI cZ cJ nl nn ad ra S u) t) A) (vx_X (fun u : String × vTT => px u.1 u.2) (fun E u t => E = u.1 ∧ qB (dC, dI) (tysA cI cZ cJ cL) A (wTT cI cZ cJ nl nn ad ra S u.2) t) A) args s 3 18 A) (F0 m 61 ls []) := by
          intro n_10
          induction n_10 with
          | zero => intro _ _ _ hw; exact hw.elim
          | succ n_10 ih61 =>
            intro T_7 x10_8 x8_9 hw H locs ls hP hD hS hl
            unfold wp_X3_values_L61 at hw
            refine lv_iload hx hb dX3_values_61 (lv_at hl 0 rfl) ?_
            refine lv_iload hx hb dX3_values_63 (lv_at hl 2 rfl) ?_
            refine lv_icmp_ge (tgt := 101) hx hb dX3_values_65 (by decide) (fun c_12 => ?_) (fun c_12 => ?_)
            · have hw := hw.1 c_12
              exact hx61 T_7 x10_8 x8_9 hw _ _ _ hP hD hS (lv_sub hl [0, 1, 2, 3, 4, 5, 6, 7, 8, 9] rfl)
            · have hw := hw.2 c_12
              refine lv_aload_n hx hb dX3_values_68 rfl (lv_at hl 4 rfl) ?_
              refine va_get (D := (dC, dI)) (ci := 3) (v := .ref (ad 9)) (C := RX3) (T := TX3) (N := 7) hx hb hT inX3 hown hK hP 0 rfl rfl 1 (by decide) (hT _ k_44) (fun _ h9 => h9) rfl dX3_values_69 ?_
              refine lv_iload hx hb dX3_values_72 (lv_at hl 3 rfl) ?_
              refine lv_iload hx hb dX3_values_74 (lv_at hl 0 rfl) ?_
              refine lv_iadd hx hb dX3_values_76 ?_
              refine lv_lload hx hb dX3_values_77 (lv_at hl 1 rfl) ?_
              refine lv_iconst (v := 0) hx hb dX3_values_79 (by decide) ?_
              refine lv_sipush (v := 1000) hx hb dX3_values_80 (by decide) ?_
              have hPc : va_P (dC, dI) vwCl [] H := hP.sub (ws' := []) [] rfl
              refine vp_callSi (W.runS (As := [.long x8_9, .int 0, .int 1000]) (rest := [.int (r_4 + x10_8), .ref (ad 9)]) ⟨hx, hb, hml, hown, hT⟩ (met_X3_nearest l dC dI cI cZ cJ cL  _   x8_9 0 1000 hw) (va_cwS 3 hT (gS k_140 k_142 k_57 k_141) rfl rfl rfl (by decide +kernel) ⟨(Nat.le_of_ble_eq_true rfl), (Nat.le_of_ble_eq_true rfl)⟩) ⟨bl_R, fun U hU hW => ⟨rfl, by rw [hU]; exact hPc, va_K.moved hW.alike hK⟩⟩ rfl rfl hl.1 rfl (lv_room (Nat.le_of_ble_eq_true rfl)) dX3_values_83 ⟨Nat.le_of_ble_eq_true rfl, Nat.le_of_ble_eq_true rfl⟩) (fun r_13 hw => ?_)
              try dsimp only at hw
              obtain ⟨h_14, hw⟩ := hw
              refine va_iast hx hb hK hP hD hS 9 0 rfl rfl h_14 dX3_values_86 (fun H locs hP hD hS => ?_)
              have hP : va_P (dC, dI) vwCl (wTT cI cZ cJ nl nn ad ra S ((upd T_7.1 ((r_4 + x10_8).toNatClampNeg) r_13), T_7.2.1, T_7.2.2.1, T_7.2.2.2.1, T_7.2.2.2.2.1, T_7.2.2.2.2.2)) H := hP
              have hD : va_D A (wTT cI cZ cJ nl nn ad ra S ((upd T_7.1 ((r_4 + x10_8).toNatClampNeg) r_13), T_7.2.1, T_7.2.2.1, T_7.2.2.2.1, T_7.2.2.2.2.1, T_7.2.2.2.2.2)) := hD
              refine lv_lload hx hb dX3_values_87 (lv_at hl 1 rfl) ?_
              refine lv_iload hx hb dX3_values_89 (lv_at hl 9 rfl) ?_
              refine lv_i2l hx hb dX3_values_91 rfl ?_
              refine lv_ladd hx hb dX3_values_92 ?_
              refine lv_topl (fun x8_15 ex8_15 => ?_)
              have hw := hw x8_15 ex8_15
              refine lv_lstore (lv' := [(8, .long x8_15), (10, .int x10_8), (7, .int x7_5), (6, .int r_4), (0, .ref (ad 0)), (1, .int x1), (2, .int x2), (3, .int x3), (4, .int x4), (5, .int x5)]) hx hb dX3_values_93 hl (by decide) rfl (fun ls hl => ?_)
              obtain ⟨x10_16, ex10_16⟩ : ∃ y : Int32, y = x10_8 + 1 := ⟨_, rfl⟩
              have hw := hw x10_16 ex10_16
              refine lv_iinc (v := x10_16) (lv' := [(10, .int x10_16), (8, .long x8_15), (7, .int x7_5), (6, .int r_4), (0, .ref (ad 0)), (1, .int x1), (2, .int x2), (3, .int x3), (4, .int x4), (5, .int x5)]) hx hb dX3_values_95 hl (k := 1) rfl (by rw [ex10_16]; rfl) (by decide) rfl (fun ls hl => ?_)
              refine lv_goto (tgt := 61) hx hb dX3_values_98 (by decide) ?_
              exact ih61 ((upd T_7.1 ((r_4 + x10_8).toNatClampNeg) r_13), T_7.2.1, T_7.2.2.1, T_7.2.2.2.1, T_7.2.2.2.2.1, T_7.2.2.2.2.2) x10_16 x8_15 hw _ _ _ hP hD hS (lv_sub hl [0, 1, 2, 3, 4, 5, 6, 7, 8, 9] rfl)
        exact hlp61 n_10 T_3 0 x8_6 hw _ _ _ hP hD hS (lv_sub hl [0, 1, 2, 3, 4, 5, 6, 7, 8, 9] rfl)
    · have hw := hw.2 c_2
      exact vx_throwS (own := RX3) (cls := "java/lang/IllegalArgumentException") (names := exNames) hx hb hl9 hown (by decide +kernel) (by decide +kernel) (hT _ k_104) (hT _ k_105) (hZ.2.2.2 _ (List.mem_of_getElem? (i := 1) rfl)) (hat_63 hT hZ.2.2.1) hgd_63 hZ.1 hZ.2.1 hS (hl.1.trans hml.symm) dX3_values_11 dX3_values_14 dX3_values_15 dX3_values_17 dX3_values_20 (fun x h => (hno x h).elim) (Nat.le_of_ble_eq_true rfl) (Nat.le_of_ble_eq_true rfl) (Nat.le_of_ble_eq_true rfl) (Nat.le_of_ble_eq_true rfl) hlocks (fun t ha hsz hk => ⟨("java/lang/IllegalArgumentException", T_1), hw, ⟨rfl, hP.kept (fun k q hq => hk q.1 (hP k q hq).lt), va_K.moved ha hK, hD⟩, Nat.le_trans hS.1 hsz, fun q h1 h2 => (hk q (Nat.lt_of_lt_of_le h1 hS.1)).trans (hS.2.1 q h1 h2)⟩) hS.2.2 (Nat.le_of_ble_eq_true rfl) (Nat.le_of_ble_eq_true rfl)
def wp_X3_encode (post : Int32 → vTT → Prop) (px : String → vTT → Prop) (nl : Nat) (nn : Nat) (S : vSH) (T : vTT) (x1 : Int32) (x2 : Int32) (x3 : Int32) : Prop := wp_X3_checkNode (fun T_1 => wp_X3_checkThreshold (fun N_2 => wp_X3_costOfLeaf (fun r_3 => wp_X3_checkRoom (fun B_4 => wp_X3_tellLeaf (fun T_5 => post r_3 T_5) nl nn S (T_1.1, T_1.2.1, T_1.2.2.1, B_4, T_1.2.2.2.2.1, T_1.2.2.2.2.2) x1 x2 x3) (fun E B_4 => px E (T_1.1, T_1.2.1, T_1.2.2.1, B_4, T_1.2.2.2.2.1, T_1.2.2.2.2.2))  T_1.2.2.2.1 r_3) nl nn S T_1 x1 x2 x3) (fun E N_2 => px E T_1)   x3) (fun E T_1 => px E T_1) nl nn S T 0 x1 x2
abbrev rm_X3_encode : Room := { frames := 7, cells := 3, slots := 18, locals := 105 }
set_option maxHeartbeats 4000000 in
set_option maxRecDepth 100000 in
theorem met_X3_encode (l : Launch) (hl9 : l.stackTraces = false) (dC : Nat → ClassId) (dI : Nat → Nat → Nat) (cI cZ cJ cL : ClassId) (sa : Nat → Nat) (ad ra : Nat → Nat) (sz : Nat) (post : Int32 → vTT → Prop) (px : String → vTT → Prop) (nl : Nat) (nn : Nat) (S : vSH) (T : vTT) (x1 : Int32) (x2 : Int32) (x3 : Int32) (hw : wp_X3_encode post px nl nn S T x1 x2 x3) : vx_Met l yX3_encode wsX3_encode rm_X3_encode (pcX (dC, dI) (tysA cI cZ cJ cL) sa (wTT cI cZ cJ nl nn ad ra S T) sz [.ref (ad 0), .int x1, .int x2, .int x3]) (va_Qi post (fun u t => qB (dC, dI) (tysA cI cZ cJ cL) (va_A (wTT cI cZ cJ nl nn ad ra S T) sz) (wTT cI cZ cJ nl nn ad ra S u) t) (va_A (wTT cI cZ cJ nl nn ad ra S T) sz)) (vx_X (fun u : String × vTT => px u.1 u.2) (fun E u t => E = u.1 ∧ qB (dC, dI) (tysA cI cZ cJ cL) (va_A (wTT cI cZ cJ nl nn ad ra S T) sz) (wTT cI cZ cJ nl nn ad ra S u.2) t) (va_A (wTT cI cZ cJ nl nn ad ra S T) sz)) 3 18 (va_A (wTT cI cZ cJ nl nn ad ra S T) sz) := by
  refine vx_ofW (cc := cX3_encode) (maxL := 5) (ret := (some .int)) (by decide) rfl ?_
  intro p e s m args below meth c s₁ Bd hml hno hv
  obtain ⟨hargs, hsz, hP, hK, hD0, hZ⟩ := hv
  have hx := Bd.exec
  have hb := Bd.bytes
  have hr := Bd.returns
  have hts := atoms_spec (ws := wsX3_encode) Bd.pre
  have hT : ∀ w ∈ WALL, w.before args s = true := fun w h => hts w (List.mem_cons_of_mem _ h)
  have hown : s.vm.findClass RX3 = some m.cls := findClass_of_methodNamed Bd.named
  have hlocks := Bd.notSynchronized
  subst hsz
  have hD := hD0.self (sz := s.heap.size)
  generalize hAe : va_A (wTT cI cZ cJ nl nn ad ra S T) s.heap.size = A at hD ⊢
  have hA : ∀ q : Nat, s.heap.size ≤ q → A q := fun q h => by rw [← hAe]; exact Or.inr h
  have hS : va_S A s.heap s.heap [] := va_S.rf
  rw [hAe] at hZ
  have hP : va_P (dC, dI) vwCl (wTT cI cZ cJ nl nn ad ra S T) s.heap := hP
  have hl := lv_entry ([.ref (ad 0), .int x1, .int x2, .int x3]) (n := 5) (Nat.le_of_ble_eq_true rfl)
  rw [show entryFrame m args 5 = F0 m 0 _ [] from by rw [hargs]; exact lg_entry_eq m ([.ref (ad 0), .int x1, .int x2, .int x3]) 5]
  generalize (lg_sl ([.ref (ad 0), .int x1, .int x2, .int x3]) ++ List.replicate (5 - (lg_sl ([.ref (ad 0), .int x1, .int x2, .int x3])).length) Slot.unset).toArray = ls at hl ⊢
  have hl : lv_has ls 5 [(0, .ref (ad 0)), (1, .int x1), (2, .int x2), (3, .int x3)] := hl
  obtain ⟨H, hH⟩ : ∃ z : Heap, z = s.heap := ⟨_, rfl⟩
  obtain ⟨locs, hlocs⟩ : ∃ z : List Loc, z = [] := ⟨_, rfl⟩
  rw [show W p l e (headSpec wsX3_encode rm_X3_encode).room s m args below meth c s.heap [] 0 0 = W p l e (headSpec wsX3_encode rm_X3_encode).room s m args below meth c H locs 0 0 from by rw [hH, hlocs]]
  have hP : va_P (dC, dI) vwCl (wTT cI cZ cJ nl nn ad ra S T) H := by rw [hH]; exact hP
  have hS : va_S A s.heap H locs := by rw [hH, hlocs]; exact hS
  unfold wp_X3_encode at hw
  refine lv_aload_n hx hb dX3_encode_0 rfl (lv_at hl 0 rfl) ?_
  refine lv_iconst (v := 0) hx hb dX3_encode_1 (by decide) ?_
  refine lv_iload_n hx hb dX3_encode_2 rfl (lv_at hl 1 rfl) ?_
  refine lv_iload_n hx hb dX3_encode_3 rfl (lv_at hl 2 rfl) ?_
  have hPc := hP
  have hDc := hD
  have hFc := va_free (wc := wTT cI cZ cJ nl nn ad ra S T) hD hS hA [0, 1, 2, 3, 4, 5, 6, 7, 8, 9, 10, 11, 12, 13, 14, 15, 16, 17, 18, 19] rfl
  refine vx_callv (vx_runV (As := [.int 0, .int x1, .int x2]) (rest := []) ⟨hx, hb, hml, hown, hT⟩ (met_X3_checkNode l hl9 dC dI cI cZ cJ cL sa ad ra H.size _ _ nl nn S T 0 x1 x2 hw) (cwV 3 hT (gV k_128 k_130 k_131 k_57 k_129) rfl rfl rfl (by decide +kernel) ⟨(Nat.le_of_ble_eq_true rfl), (Nat.le_of_ble_eq_true rfl)⟩) ⟨bl_X, va_recv hK hPc (ci := 3) (q0 := 0) rfl rfl, fun U hU hW => ⟨rfl, by rw [hU], by rw [hU]; exact hPc, va_K.moved hW.alike hK, hDc.weaken (fun _ _ _ _ => trivial), hZ.call hW hU hS hFc⟩⟩ rfl rfl hl.1 rfl (lv_room (Nat.le_of_ble_eq_true rfl)) dX3_encode_4 ⟨Nat.le_of_ble_eq_true rfl, Nat.le_of_ble_eq_true rfl⟩) hS (fun q _ h => hFc q h) hFc (fun q _ h => hFc q h) (fun E ce q9 u9 t H1 locs ht hvm hw hB hz1 hk1 hS hce hcv hcl => ?_) (fun T_1 t H1 locs ht hvm hw hB hz1 hk1 hS => ?_)
  · obtain ⟨E9, T_1⟩ := u9
    obtain ⟨rfl, hP1, -, hD1⟩ := hB
    try dsimp only at hw
    rw [ht] at hP1
    obtain ⟨hP, hD⟩ := va_join (wr := []) (w1 := wTT cI cZ cJ nl nn ad ra S T_1) hP hD [0, 1, 2, 3, 4, 5, 6, 7, 8, 9, 10, 11, 12, 13, 14, 15, 16, 17, 18, 19] [] rfl rfl (by decide) (by decide) hk1 hFc hP1 hD1
    generalize H1 = H at hP hS hce ⊢
    have hP := hP.sub (ws' := wTT cI cZ cJ nl nn ad ra S T_1) [0, 1, 2, 3, 4, 5, 6, 7, 8, 9, 10, 11, 12, 13, 14, 15, 16, 17, 18, 19] rfl
    have hD := hD.sub (ws' := wTT cI cZ cJ nl nn ad ra S T_1) [0, 1, 2, 3, 4, 5, 6, 7, 8, 9, 10, 11, 12, 13, 14, 15, 16, 17, 18, 19] (by decide) rfl
    exact vx_out (fun x h => (hno x h).elim) hlocks hce hcv hcl (fun t ht ha => ⟨(E, T_1), hw, ⟨rfl, by rw [ht]; exact hP, va_K.moved ha hK, hD⟩, hS.F ht⟩) hS.2.2 (Nat.le_of_ble_eq_true rfl) (Nat.le_of_ble_eq_true rfl)
  · obtain ⟨hP1, -, hD1⟩ := hB
    try dsimp only at hw
    rw [ht] at hP1
    obtain ⟨hP, hD⟩ := va_join (wr := []) (w1 := wTT cI cZ cJ nl nn ad ra S T_1) hP hD [0, 1, 2, 3, 4, 5, 6, 7, 8, 9, 10, 11, 12, 13, 14, 15, 16, 17, 18, 19] [] rfl rfl (by decide) (by decide) hk1 hFc hP1 hD1
    generalize H1 = H at hP hS ⊢
    have hP := hP.sub (ws' := wTT cI cZ cJ nl nn ad ra S T_1) [0, 1, 2, 3, 4, 5, 6, 7, 8, 9, 10, 11, 12, 13, 14, 15, 16, 17, 18, 19] rfl
    have hD := hD.sub (ws' := wTT cI cZ cJ nl nn ad ra S T_1) [0, 1, 2, 3, 4, 5, 6, 7, 8, 9, 10, 11, 12, 13, 14, 15, 16, 17, 18, 19] (by decide) rfl
    refine lv_iload_n hx hb dX3_encode_7 rfl (lv_at hl 3 rfl) ?_
    have hPc : va_P (dC, dI) vwCl [] H := hP.sub (ws' := []) [] rfl
    have hDc : va_D A [] := hD.sub (ws' := []) [] (by decide) rfl
    have hFc := va_free (wc := []) hD hS hA [] rfl
    refine vx_callv (vx_runS (As := [.int x3]) (rest := []) ⟨hx, hb, hml, hown, hT⟩ (met_X3_checkThreshold l hl9 dC dI cI cZ cJ cL sa  H.size _ _   x3 hw) (va_cwS 1 hT (gS k_143 k_145 k_57 k_144) rfl rfl rfl (by decide +kernel) ⟨(Nat.le_of_ble_eq_true rfl), (Nat.le_of_ble_eq_true rfl)⟩) ⟨bl_X, fun U hU hW => ⟨rfl, by rw [hU], by rw [hU]; exact hPc, va_K.moved hW.alike hK, hDc.weaken (fun _ _ _ _ => trivial), hZ.call hW hU hS hFc⟩⟩ rfl rfl hl.1 rfl (lv_room (Nat.le_of_ble_eq_true rfl)) dX3_encode_8 ⟨Nat.le_of_ble_eq_true rfl, Nat.le_of_ble_eq_true rfl⟩) hS (fun q _ h => hFc q h) hFc (fun q _ h => hFc q h) (fun E ce q9 u9 t H1 locs ht hvm hw hB hz1 hk1 hS hce hcv hcl => ?_) (fun N_2 t H1 locs ht hvm hw hB hz1 hk1 hS => ?_)
    · obtain ⟨E9, N_2⟩ := u9
      obtain ⟨rfl, hP1, -, hD1⟩ := hB
      try dsimp only at hw
      rw [ht] at hP1
      obtain ⟨hP, hD⟩ := va_join (wr := [(ad 0, .inr (3, [.ref (ad 1), .ref (ad 9), .ref (ad 10), .ref (ad 13), .ref (ad 16), .ref (ad 18), .int T_1.2.2.2.2.2])), (ad 1, .inr (1, [.int S.1.1, .int S.1.2.1, .int S.1.2.2.1, .int S.1.2.2.2.1, .int S.1.2.2.2.2, .ref (ad 2), .ref (ad 3), .ref (ad 4), .ref (ad 5)])), (ad 2, .inl (cI, 6, .inl S.2.1.1)), (ad 3, .inl (cI, 6, .inl S.2.1.2.1)), (ad 4, .inl (cI, 6, .inl S.2.1.2.2)), (ad 5, .inl (cJ, 3, .inr (.inr (.inr (.inr (fun i => if i < 3 then some (ra i) else none)))))), (ra 0, .inl (cI, nl, .inl (S.2.2 0))), (ra 1, .inl (cI, nl, .inl (S.2.2 1))), (ra 2, .inl (cI, nl, .inl (S.2.2 2))), (ad 9, .inl (cI, nn, .inl T_1.1)), (ad 10, .inr (2, [.ref (ad 11), .ref (ad 12), .int T_1.2.1.2.2])), (ad 11, .inl (cI, nn, .inl T_1.2.1.1)), (ad 12, .inl (cZ, nn, .inl T_1.2.1.2.1)), (ad 13, .inr (2, [.ref (ad 14), .ref (ad 15), .int T_1.2.2.1.2.2])), (ad 14, .inl (cI, nn, .inl T_1.2.2.1.1)), (ad 15, .inl (cZ, nn, .inl T_1.2.2.1.2.1)), (ad 16, .inr (0, [.ref (ad 17), .int T_1.2.2.2.1.2.1, .int T_1.2.2.2.1.2.2])), (ad 17, .inl (cI, 1250, .inl T_1.2.2.2.1.1)), (ad 18, .inr (0, [.ref (ad 19), .int T_1.2.2.2.2.1.2.1, .int T_1.2.2.2.2.1.2.2])), (ad 19, .inl (cI, 1250, .inl T_1.2.2.2.2.1.1))]) (w1 := []) hP hD [] [0, 1, 2, 3, 4, 5, 6, 7, 8, 9, 10, 11, 12, 13, 14, 15, 16, 17, 18, 19] rfl rfl (by decide) (by decide) hk1 hFc hP1 hD1
      generalize H1 = H at hP hS hce ⊢
      have hP := hP.sub (ws' := wTT cI cZ cJ nl nn ad ra S T_1) [0, 1, 2, 3, 4, 5, 6, 7, 8, 9, 10, 11, 12, 13, 14, 15, 16, 17, 18, 19] rfl
      have hD := hD.sub (ws' := wTT cI cZ cJ nl nn ad ra S T_1) [0, 1, 2, 3, 4, 5, 6, 7, 8, 9, 10, 11, 12, 13, 14, 15, 16, 17, 18, 19] (by decide) rfl
      exact vx_out (fun x h => (hno x h).elim) hlocks hce hcv hcl (fun t ht ha => ⟨(E, T_1), hw, ⟨rfl, by rw [ht]; exact hP, va_K.moved ha hK, hD⟩, hS.F ht⟩) hS.2.2 (Nat.le_of_ble_eq_true rfl) (Nat.le_of_ble_eq_true rfl)
    · obtain ⟨hP1, -, hD1⟩ := hB
      try dsimp only at hw
      rw [ht] at hP1
      obtain ⟨hP, hD⟩ := va_join (wr := [(ad 0, .inr (3, [.ref (ad 1), .ref (ad 9), .ref (ad 10), .ref (ad 13), .ref (ad 16), .ref (ad 18), .int T_1.2.2.2.2.2])), (ad 1, .inr (1, [.int S.1.1, .int S.1.2.1, .int S.1.2.2.1, .int S.1.2.2.2.1, .int S.1.2.2.2.2, .ref (ad 2), .ref (ad 3), .ref (ad 4), .ref (ad 5)])), (ad 2, .inl (cI, 6, .inl S.2.1.1)), (ad 3, .inl (cI, 6, .inl S.2.1.2.1)), (ad 4, .inl (cI, 6, .inl S.2.1.2.2)), (ad 5, .inl (cJ, 3, .inr (.inr (.inr (.inr (fun i => if i < 3 then some (ra i) else none)))))), (ra 0, .inl (cI, nl, .inl (S.2.2 0))), (ra 1, .inl (cI, nl, .inl (S.2.2 1))), (ra 2, .inl (cI, nl, .inl (S.2.2 2))), (ad 9, .inl (cI, nn, .inl T_1.1)), (ad 10, .inr (2, [.ref (ad 11), .ref (ad 12), .int T_1.2.1.2.2])), (ad 11, .inl (cI, nn, .inl T_1.2.1.1)), (ad 12, .inl (cZ, nn, .inl T_1.2.1.2.1)), (ad 13, .inr (2, [.ref (ad 14), .ref (ad 15), .int T_1.2.2.1.2.2])), (ad 14, .inl (cI, nn, .inl T_1.2.2.1.1)), (ad 15, .inl (cZ, nn, .inl T_1.2.2.1.2.1)), (ad 16, .inr (0, [.ref (ad 17), .int T_1.2.2.2.1.2.1, .int T_1.2.2.2.1.2.2])), (ad 17, .inl (cI, 1250, .inl T_1.2.2.2.1.1)), (ad 18, .inr (0, [.ref (ad 19), .int T_1.2.2.2.2.1.2.1, .int T_1.2.2.2.2.1.2.2])), (ad 19, .inl (cI, 1250, .inl T_1.2.2.2.2.1.1))]) (w1 := []) hP hD [] [0, 1, 2, 3, 4, 5, 6, 7, 8, 9, 10, 11, 12, 13, 14, 15, 16, 17, 18, 19] rfl rfl (by decide) (by decide) hk1 hFc hP1 hD1
      generalize H1 = H at hP hS ⊢
      have hP := hP.sub (ws' := wTT cI cZ cJ nl nn ad ra S T_1) [0, 1, 2, 3, 4, 5, 6, 7, 8, 9, 10, 11, 12, 13, 14, 15, 16, 17, 18, 19] rfl
      have hD := hD.sub (ws' := wTT cI cZ cJ nl nn ad ra S T_1) [0, 1, 2, 3, 4, 5, 6, 7, 8, 9, 10, 11, 12, 13, 14, 15, 16, 17, 18, 19] (by decide) rfl
      refine lv_aload_n hx hb dX3_encode_11 rfl (lv_at hl 0 rfl) ?_
      refine lv_iload_n hx hb dX3_encode_12 rfl (lv_at hl 1 rfl) ?_
      refine lv_iload_n hx hb dX3_encode_13 rfl (lv_at hl 2 rfl) ?_
      refine lv_iload_n hx hb dX3_encode_14 rfl (lv_at hl 3 rfl) ?_
      have hPc := hP
      refine vp_callSi (W.runV (As := [.int x1, .int x2, .int x3]) (rest := []) ⟨hx, hb, hml, hown, hT⟩ (met_X3_costOfLeaf l dC dI cI cZ cJ cL ad ra _ nl nn S T_1 x1 x2 x3 hw) (cwV 3 hT (gV k_146 k_148 k_149 k_57 k_147) rfl rfl rfl (by decide +kernel) ⟨(Nat.le_of_ble_eq_true rfl), (Nat.le_of_ble_eq_true rfl)⟩) ⟨bl_R, va_recv hK hPc (ci := 3) (q0 := 0) rfl rfl, fun U hU hW => ⟨rfl, by rw [hU]; exact hPc, va_K.moved hW.alike hK⟩⟩ rfl rfl hl.1 rfl (lv_room (Nat.le_of_ble_eq_true rfl)) dX3_encode_15 ⟨Nat.le_of_ble_eq_true rfl, Nat.le_of_ble_eq_true rfl⟩) (fun r_3 hw => ?_)
      try dsimp only at hw
      refine lv_istore (lv' := [(4, .int r_3), (0, .ref (ad 0)), (1, .int x1), (2, .int x2), (3, .int x3)]) hx hb dX3_encode_18 hl (by decide) rfl (fun ls hl => ?_)
      refine lv_aload_n hx hb dX3_encode_20 rfl (lv_at hl 1 rfl) ?_
      refine va_get (D := (dC, dI)) (ci := 3) (v := .ref (ad 16)) (C := RX3) (T := TX3) (N := 7) hx hb hT inX3 hown hK hP 0 rfl rfl 4 (by decide) (hT _ k_22) (fun _ h9 => h9) rfl dX3_encode_21 ?_
      refine lv_iload hx hb dX3_encode_24 (lv_at hl 0 rfl) ?_
      have hPc := hP.sub (ws' := wBR cI (ad 16) (ad 17) T_1.2.2.2.1) [16, 17] rfl
      have hDc := hD.sub (ws' := wBR cI (ad 16) (ad 17) T_1.2.2.2.1) [16, 17] (by decide) rfl
      have hFc := va_free (wc := wBR cI (ad 16) (ad 17) T_1.2.2.2.1) hD hS hA [16, 17] rfl
      refine vx_callv (vx_runS (As := [.ref (ad 16), .int r_3]) (rest := []) ⟨hx, hb, hml, hown, hT⟩ (met_X3_checkRoom l hl9 dC dI cI cZ cJ cL sa (ad 16) (ad 17) H.size _ _  T_1.2.2.2.1 r_3 hw) (va_cwS 2 hT (gS k_125 k_127 k_57 k_126) rfl rfl rfl (by decide +kernel) ⟨(Nat.le_of_ble_eq_true rfl), (Nat.le_of_ble_eq_true rfl)⟩) ⟨bl_X, fun U hU hW => ⟨rfl, by rw [hU], by rw [hU]; exact hPc, va_K.moved hW.alike hK, hDc.weaken (fun _ _ _ _ => trivial), hZ.call hW hU hS hFc⟩⟩ rfl rfl hl.1 rfl (lv_room (Nat.le_of_ble_eq_true rfl)) dX3_encode_26 ⟨Nat.le_of_ble_eq_true rfl, Nat.le_of_ble_eq_true rfl⟩) hS (fun q _ h => hFc q h) hFc (fun q _ h => hFc q h) (fun E ce q9 u9 t H1 locs ht hvm hw hB hz1 hk1 hS hce hcv hcl => ?_) (fun B_4 t H1 locs ht hvm hw hB hz1 hk1 hS => ?_)
      · obtain ⟨E9, B_4⟩ := u9
        obtain ⟨rfl, hP1, -, hD1⟩ := hB
        try dsimp only at hw
        rw [ht] at hP1
        obtain ⟨hP, hD⟩ := va_join (wr := [(ad 0, .inr (3, [.ref (ad 1), .ref (ad 9), .ref (ad 10), .ref (ad 13), .ref (ad 16), .ref (ad 18), .int T_1.2.2.2.2.2])), (ad 1, .inr (1, [.int S.1.1, .int S.1.2.1, .int S.1.2.2.1, .int S.1.2.2.2.1, .int S.1.2.2.2.2, .ref (ad 2), .ref (ad 3), .ref (ad 4), .ref (ad 5)])), (ad 2, .inl (cI, 6, .inl S.2.1.1)), (ad 3, .inl (cI, 6, .inl S.2.1.2.1)), (ad 4, .inl (cI, 6, .inl S.2.1.2.2)), (ad 5, .inl (cJ, 3, .inr (.inr (.inr (.inr (fun i => if i < 3 then some (ra i) else none)))))), (ra 0, .inl (cI, nl, .inl (S.2.2 0))), (ra 1, .inl (cI, nl, .inl (S.2.2 1))), (ra 2, .inl (cI, nl, .inl (S.2.2 2))), (ad 9, .inl (cI, nn, .inl T_1.1)), (ad 10, .inr (2, [.ref (ad 11), .ref (ad 12), .int T_1.2.1.2.2])), (ad 11, .inl (cI, nn, .inl T_1.2.1.1)), (ad 12, .inl (cZ, nn, .inl T_1.2.1.2.1)), (ad 13, .inr (2, [.ref (ad 14), .ref (ad 15), .int T_1.2.2.1.2.2])), (ad 14, .inl (cI, nn, .inl T_1.2.2.1.1)), (ad 15, .inl (cZ, nn, .inl T_1.2.2.1.2.1)), (ad 18, .inr (0, [.ref (ad 19), .int T_1.2.2.2.2.1.2.1, .int T_1.2.2.2.2.1.2.2])), (ad 19, .inl (cI, 1250, .inl T_1.2.2.2.2.1.1))]) (w1 := wBR cI (ad 16) (ad 17) B_4) hP hD [16, 17] [0, 1, 2, 3, 4, 5, 6, 7, 8, 9, 10, 11, 12, 13, 14, 15, 18, 19] rfl rfl (by decide) (by decide) hk1 hFc hP1 hD1
        generalize H1 = H at hP hS hce ⊢
        have hP := hP.sub (ws' := wTT cI cZ cJ nl nn ad ra S (T_1.1, T_1.2.1, T_1.2.2.1, B_4, T_1.2.2.2.2.1, T_1.2.2.2.2.2)) [0, 1, 2, 3, 4, 5, 6, 7, 8, 9, 10, 11, 12, 13, 14, 15, 18, 19, 16, 17] rfl
        have hD := hD.sub (ws' := wTT cI cZ cJ nl nn ad ra S (T_1.1, T_1.2.1, T_1.2.2.1, B_4, T_1.2.2.2.2.1, T_1.2.2.2.2.2)) [0, 1, 2, 3, 4, 5, 6, 7, 8, 9, 10, 11, 12, 13, 14, 15, 18, 19, 16, 17] (by decide) rfl
        exact vx_out (fun x h => (hno x h).elim) hlocks hce hcv hcl (fun t ht ha => ⟨(E, (T_1.1, T_1.2.1, T_1.2.2.1, B_4, T_1.2.2.2.2.1, T_1.2.2.2.2.2)), hw, ⟨rfl, by rw [ht]; exact hP, va_K.moved ha hK, hD⟩, hS.F ht⟩) hS.2.2 (Nat.le_of_ble_eq_true rfl) (Nat.le_of_ble_eq_true rfl)
      · obtain ⟨hP1, -, hD1⟩ := hB
        try dsimp only at hw
        rw [ht] at hP1
        obtain ⟨hP, hD⟩ := va_join (wr := [(ad 0, .inr (3, [.ref (ad 1), .ref (ad 9), .ref (ad 10), .ref (ad 13), .ref (ad 16), .ref (ad 18), .int T_1.2.2.2.2.2])), (ad 1, .inr (1, [.int S.1.1, .int S.1.2.1, .int S.1.2.2.1, .int S.1.2.2.2.1, .int S.1.2.2.2.2, .ref (ad 2), .ref (ad 3), .ref (ad 4), .ref (ad 5)])), (ad 2, .inl (cI, 6, .inl S.2.1.1)), (ad 3, .inl (cI, 6, .inl S.2.1.2.1)), (ad 4, .inl (cI, 6, .inl S.2.1.2.2)), (ad 5, .inl (cJ, 3, .inr (.inr (.inr (.inr (fun i => if i < 3 then some (ra i) else none)))))), (ra 0, .inl (cI, nl, .inl (S.2.2 0))), (ra 1, .inl (cI, nl, .inl (S.2.2 1))), (ra 2, .inl (cI, nl, .inl (S.2.2 2))), (ad 9, .inl (cI, nn, .inl T_1.1)), (ad 10, .inr (2, [.ref (ad 11), .ref (ad 12), .int T_1.2.1.2.2])), (ad 11, .inl (cI, nn, .inl T_1.2.1.1)), (ad 12, .inl (cZ, nn, .inl T_1.2.1.2.1)), (ad 13, .inr (2, [.ref (ad 14), .ref (ad 15), .int T_1.2.2.1.2.2])), (ad 14, .inl (cI, nn, .inl T_1.2.2.1.1)), (ad 15, .inl (cZ, nn, .inl T_1.2.2.1.2.1)), (ad 18, .inr (0, [.ref (ad 19), .int T_1.2.2.2.2.1.2.1, .int T_1.2.2.2.2.1.2.2])), (ad 19, .inl (cI, 1250, .inl T_1.2.2.2.2.1.1))]) (w1 := wBR cI (ad 16) (ad 17) B_4) hP hD [16, 17] [0, 1, 2, 3, 4, 5, 6, 7, 8, 9, 10, 11, 12, 13, 14, 15, 18, 19] rfl rfl (by decide) (by decide) hk1 hFc hP1 hD1
        generalize H1 = H at hP hS ⊢
        have hP := hP.sub (ws' := wTT cI cZ cJ nl nn ad ra S (T_1.1, T_1.2.1, T_1.2.2.1, B_4, T_1.2.2.2.2.1, T_1.2.2.2.2.2)) [0, 1, 2, 3, 4, 5, 6, 7, 8, 9, 10, 11, 12, 13, 14, 15, 18, 19, 16, 17] rfl
        have hD := hD.sub (ws' := wTT cI cZ cJ nl nn ad ra S (T_1.1, T_1.2.1, T_1.2.2.1, B_4, T_1.2.2.2.2.1, T_1.2.2.2.2.2)) [0, 1, 2, 3, 4, 5, 6, 7, 8, 9, 10, 11, 12, 13, 14, 15, 18, 19, 16, 17] (by decide) rfl
        refine lv_aload_n hx hb dX3_encode_29 rfl (lv_at hl 1 rfl) ?_
        refine lv_iload_n hx hb dX3_encode_30 rfl (lv_at hl 2 rfl) ?_
        refine lv_iload_n hx hb dX3_encode_31 rfl (lv_at hl 3 rfl) ?_
        refine lv_iload_n hx hb dX3_encode_32 rfl (lv_at hl 4 rfl) ?_
        have hPc := hP
        have hDc := hD
        have hFc := va_free (wc := wTT cI cZ cJ nl nn ad ra S (T_1.1, T_1.2.1, T_1.2.2.1, B_4, T_1.2.2.2.2.1, T_1.2.2.2.2.2)) hD hS hA [0, 1, 2, 3, 4, 5, 6, 7, 8, 9, 10, 11, 12, 13, 14, 15, 16, 17, 18, 19] rfl
        refine va_callv (va_runV (As := [.int x1, .int x2, .int x3]) (rest := []) ⟨hx, hb, hml, hown, hT⟩ (met_X3_tellLeaf l dC dI cI cZ cJ cL ad ra H.size _ nl nn S (T_1.1, T_1.2.1, T_1.2.2.1, B_4, T_1.2.2.2.2.1, T_1.2.2.2.2.2) x1 x2 x3 hw) (cwV 3 hT (gV k_150 k_152 k_153 k_57 k_151) rfl rfl rfl (by decide +kernel) ⟨(Nat.le_of_ble_eq_true rfl), (Nat.le_of_ble_eq_true rfl)⟩) ⟨bl_W, va_recv hK hPc (ci := 3) (q0 := 0) rfl rfl, fun U hU hW => ⟨rfl, by rw [hU], by rw [hU]; exact hPc, va_K.moved hW.alike hK, hDc.weaken (fun _ _ _ _ => trivial)⟩⟩ rfl rfl hl.1 rfl (lv_room (Nat.le_of_ble_eq_true rfl)) dX3_encode_33 ⟨Nat.le_of_ble_eq_true rfl, Nat.le_of_ble_eq_true rfl⟩) hS (fun q _ h => hFc q h) hFc (fun T_5 t H1 locs ht hvm hw hB hz1 hk1 hS => ?_)
        obtain ⟨hP1, -, hD1⟩ := hB
        try dsimp only at hw
        rw [ht] at hP1
        obtain ⟨hP, hD⟩ := va_join (wr := []) (w1 := wTT cI cZ cJ nl nn ad ra S T_5) hP hD [0, 1, 2, 3, 4, 5, 6, 7, 8, 9, 10, 11, 12, 13, 14, 15, 16, 17, 18, 19] [] rfl rfl (by decide) (by decide) hk1 hFc hP1 hD1
        generalize H1 = H at hP hS ⊢
        have hP := hP.sub (ws' := wTT cI cZ cJ nl nn ad ra S T_5) [0, 1, 2, 3, 4, 5, 6, 7, 8, 9, 10, 11, 12, 13, 14, 15, 16, 17, 18, 19] rfl
        have hD := hD.sub (ws' := wTT cI cZ cJ nl nn ad ra S T_5) [0, 1, 2, 3, 4, 5, 6, 7, 8, 9, 10, 11, 12, 13, 14, 15, 16, 17, 18, 19] (by decide) rfl
        refine lv_iload hx hb dX3_encode_36 (lv_at hl 0 rfl) ?_
        exact vx_ret (W.iret (v := r_3) hx hb hr (fun t ht hW => ⟨⟨r_3, T_5, rfl, hw, by rw [ht]; exact hP, va_K.moved hW.alike hK, hD⟩, hS.F ht⟩) hS.2.2 dX3_encode_38)
def wp_X3_cost (post : Int32 → vTT → Prop) (px : String → vTT → Prop) (nl : Nat) (nn : Nat) (S : vSH) (T : vTT) (x1 : Int32) (x2 : Int32) (x3 : Int32) : Prop := wp_X3_checkNode (fun T_1 => wp_X3_checkThreshold (fun N_2 => wp_X3_costOfLeaf (fun r_3 => post r_3 T_1) nl nn S T_1 x1 x2 x3) (fun E N_2 => px E T_1)   x3) (fun E T_1 => px E T_1) nl nn S T 0 x1 x2
abbrev rm_X3_cost : Room := { frames := 7, cells := 2, slots := 12, locals := 105 }
set_option maxHeartbeats 4000000 in
set_option maxRecDepth 100000 in
theorem met_X3_cost (l : Launch) (hl9 : l.stackTraces = false) (dC : Nat → ClassId) (dI : Nat → Nat → Nat) (cI cZ cJ cL : ClassId) (sa : Nat → Nat) (ad ra : Nat → Nat) (sz : Nat) (post : Int32 → vTT → Prop) (px : String → vTT → Prop) (nl : Nat) (nn : Nat) (S : vSH) (T : vTT) (x1 : Int32) (x2 : Int32) (x3 : Int32) (hw : wp_X3_cost post px nl nn S T x1 x2 x3) : vx_Met l yX3_cost wsX3_cost rm_X3_cost (pcX (dC, dI) (tysA cI cZ cJ cL) sa (wTT cI cZ cJ nl nn ad ra S T) sz [.ref (ad 0), .int x1, .int x2, .int x3]) (va_Qi post (fun u t => qB (dC, dI) (tysA cI cZ cJ cL) (va_A (wTT cI cZ cJ nl nn ad ra S T) sz) (wTT cI cZ cJ nl nn ad ra S u) t) (va_A (wTT cI cZ cJ nl nn ad ra S T) sz)) (vx_X (fun u : String × vTT => px u.1 u.2) (fun E u t => E = u.1 ∧ qB (dC, dI) (tysA cI cZ cJ cL) (va_A (wTT cI cZ cJ nl nn ad ra S T) sz) (wTT cI cZ cJ nl nn ad ra S u.2) t) (va_A (wTT cI cZ cJ nl nn ad ra S T) sz)) 2 12 (va_A (wTT cI cZ cJ nl nn ad ra S T) sz) := by
  refine vx_ofW (cc := cX3_cost) (maxL := 4) (ret := (some .int)) (by decide) rfl ?_
  intro p e s m args below meth c s₁ Bd hml hno hv
  obtain ⟨hargs, hsz, hP, hK, hD0, hZ⟩ := hv
  have hx := Bd.exec
  have hb := Bd.bytes
  have hr := Bd.returns
  have hts := atoms_spec (ws := wsX3_cost) Bd.pre
  have hT : ∀ w ∈ WALL, w.before args s = true := fun w h => hts w (List.mem_cons_of_mem _ h)
  have hown : s.vm.findClass RX3 = some m.cls := findClass_of_methodNamed Bd.named
  have hlocks := Bd.notSynchronized
  subst hsz
  have hD := hD0.self (sz := s.heap.size)
  generalize hAe : va_A (wTT cI cZ cJ nl nn ad ra S T) s.heap.size = A at hD ⊢
  have hA : ∀ q : Nat, s.heap.size ≤ q → A q := fun q h => by rw [← hAe]; exact Or.inr h
  have hS : va_S A s.heap s.heap [] := va_S.rf
  rw [hAe] at hZ
  have hP : va_P (dC, dI) vwCl (wTT cI cZ cJ nl nn ad ra S T) s.heap := hP
  have hl := lv_entry ([.ref (ad 0), .int x1, .int x2, .int x3]) (n := 4) (Nat.le_of_ble_eq_true rfl)
  rw [show entryFrame m args 4 = F0 m 0 _ [] from by rw [hargs]; exact lg_entry_eq m ([.ref (ad 0), .int x1, .int x2, .int x3]) 4]
  generalize (lg_sl ([.ref (ad 0), .int x1, .int x2, .int x3]) ++ List.replicate (4 - (lg_sl ([.ref (ad 0), .int x1, .int x2, .int x3])).length) Slot.unset).toArray = ls at hl ⊢
  have hl : lv_has ls 4 [(0, .ref (ad 0)), (1, .int x1), (2, .int x2), (3, .int x3)] := hl
  obtain ⟨H, hH⟩ : ∃ z : Heap, z = s.heap := ⟨_, rfl⟩
  obtain ⟨locs, hlocs⟩ : ∃ z : List Loc, z = [] := ⟨_, rfl⟩
  rw [show W p l e (headSpec wsX3_cost rm_X3_cost).room s m args below meth c s.heap [] 0 0 = W p l e (headSpec wsX3_cost rm_X3_cost).room s m args below meth c H locs 0 0 from by rw [hH, hlocs]]
  have hP : va_P (dC, dI) vwCl (wTT cI cZ cJ nl nn ad ra S T) H := by rw [hH]; exact hP
  have hS : va_S A s.heap H locs := by rw [hH, hlocs]; exact hS
  unfold wp_X3_cost at hw
  refine lv_aload_n hx hb dX3_cost_0 rfl (lv_at hl 0 rfl) ?_
  refine lv_iconst (v := 0) hx hb dX3_cost_1 (by decide) ?_
  refine lv_iload_n hx hb dX3_cost_2 rfl (lv_at hl 1 rfl) ?_
  refine lv_iload_n hx hb dX3_cost_3 rfl (lv_at hl 2 rfl) ?_
  have hPc := hP
  have hDc := hD
  have hFc := va_free (wc := wTT cI cZ cJ nl nn ad ra S T) hD hS hA [0, 1, 2, 3, 4, 5, 6, 7, 8, 9, 10, 11, 12, 13, 14, 15, 16, 17, 18, 19] rfl
  refine vx_callv (vx_runV (As := [.int 0, .int x1, .int x2]) (rest := []) ⟨hx, hb, hml, hown, hT⟩ (met_X3_checkNode l hl9 dC dI cI cZ cJ cL sa ad ra H.size _ _ nl nn S T 0 x1 x2 hw) (cwV 3 hT (gV k_128 k_130 k_131 k_57 k_129) rfl rfl rfl (by decide +kernel) ⟨(Nat.le_of_ble_eq_true rfl), (Nat.le_of_ble_eq_true rfl)⟩) ⟨bl_X, va_recv hK hPc (ci := 3) (q0 := 0) rfl rfl, fun U hU hW => ⟨rfl, by rw [hU], by rw [hU]; exact hPc, va_K.moved hW.alike hK, hDc.weaken (fun _ _ _ _ => trivial), hZ.call hW hU hS hFc⟩⟩ rfl rfl hl.1 rfl (lv_room (Nat.le_of_ble_eq_true rfl)) dX3_cost_4 ⟨Nat.le_of_ble_eq_true rfl, Nat.le_of_ble_eq_true rfl⟩) hS (fun q _ h => hFc q h) hFc (fun q _ h => hFc q h) (fun E ce q9 u9 t H1 locs ht hvm hw hB hz1 hk1 hS hce hcv hcl => ?_) (fun T_1 t H1 locs ht hvm hw hB hz1 hk1 hS => ?_)
  · obtain ⟨E9, T_1⟩ := u9
    obtain ⟨rfl, hP1, -, hD1⟩ := hB
    try dsimp only at hw
    rw [ht] at hP1
    obtain ⟨hP, hD⟩ := va_join (wr := []) (w1 := wTT cI cZ cJ nl nn ad ra S T_1) hP hD [0, 1, 2, 3, 4, 5, 6, 7, 8, 9, 10, 11, 12, 13, 14, 15, 16, 17, 18, 19] [] rfl rfl (by decide) (by decide) hk1 hFc hP1 hD1
    generalize H1 = H at hP hS hce ⊢
    have hP := hP.sub (ws' := wTT cI cZ cJ nl nn ad ra S T_1) [0, 1, 2, 3, 4, 5, 6, 7, 8, 9, 10, 11, 12, 13, 14, 15, 16, 17, 18, 19] rfl
    have hD := hD.sub (ws' := wTT cI cZ cJ nl nn ad ra S T_1) [0, 1, 2, 3, 4, 5, 6, 7, 8, 9, 10, 11, 12, 13, 14, 15, 16, 17, 18, 19] (by decide) rfl
    exact vx_out (fun x h => (hno x h).elim) hlocks hce hcv hcl (fun t ht ha => ⟨(E, T_1), hw, ⟨rfl, by rw [ht]; exact hP, va_K.moved ha hK, hD⟩, hS.F ht⟩) hS.2.2 (Nat.le_of_ble_eq_true rfl) (Nat.le_of_ble_eq_true rfl)
  · obtain ⟨hP1, -, hD1⟩ := hB
    try dsimp only at hw
    rw [ht] at hP1
    obtain ⟨hP, hD⟩ := va_join (wr := []) (w1 := wTT cI cZ cJ nl nn ad ra S T_1) hP hD [0, 1, 2, 3, 4, 5, 6, 7, 8, 9, 10, 11, 12, 13, 14, 15, 16, 17, 18, 19] [] rfl rfl (by decide) (by decide) hk1 hFc hP1 hD1
    generalize H1 = H at hP hS ⊢
    have hP := hP.sub (ws' := wTT cI cZ cJ nl nn ad ra S T_1) [0, 1, 2, 3, 4, 5, 6, 7, 8, 9, 10, 11, 12, 13, 14, 15, 16, 17, 18, 19] rfl
    have hD := hD.sub (ws' := wTT cI cZ cJ nl nn ad ra S T_1) [0, 1, 2, 3, 4, 5, 6, 7, 8, 9, 10, 11, 12, 13, 14, 15, 16, 17, 18, 19] (by decide) rfl
    refine lv_iload_n hx hb dX3_cost_7 rfl (lv_at hl 3 rfl) ?_
    have hPc : va_P (dC, dI) vwCl [] H := hP.sub (ws' := []) [] rfl
    have hDc : va_D A [] := hD.sub (ws' := []) [] (by decide) rfl
    have hFc := va_free (wc := []) hD hS hA [] rfl
    refine vx_callv (vx_runS (As := [.int x3]) (rest := []) ⟨hx, hb, hml, hown, hT⟩ (met_X3_checkThreshold l hl9 dC dI cI cZ cJ cL sa  H.size _ _   x3 hw) (va_cwS 1 hT (gS k_143 k_145 k_57 k_144) rfl rfl rfl (by decide +kernel) ⟨(Nat.le_of_ble_eq_true rfl), (Nat.le_of_ble_eq_true rfl)⟩) ⟨bl_X, fun U hU hW => ⟨rfl, by rw [hU], by rw [hU]; exact hPc, va_K.moved hW.alike hK, hDc.weaken (fun _ _ _ _ => trivial), hZ.call hW hU hS hFc⟩⟩ rfl rfl hl.1 rfl (lv_room (Nat.le_of_ble_eq_true rfl)) dX3_cost_8 ⟨Nat.le_of_ble_eq_true rfl, Nat.le_of_ble_eq_true rfl⟩) hS (fun q _ h => hFc q h) hFc (fun q _ h => hFc q h) (fun E ce q9 u9 t H1 locs ht hvm hw hB hz1 hk1 hS hce hcv hcl => ?_) (fun N_2 t H1 locs ht hvm hw hB hz1 hk1 hS => ?_)
    · obtain ⟨E9, N_2⟩ := u9
      obtain ⟨rfl, hP1, -, hD1⟩ := hB
      try dsimp only at hw
      rw [ht] at hP1
      obtain ⟨hP, hD⟩ := va_join (wr := [(ad 0, .inr (3, [.ref (ad 1), .ref (ad 9), .ref (ad 10), .ref (ad 13), .ref (ad 16), .ref (ad 18), .int T_1.2.2.2.2.2])), (ad 1, .inr (1, [.int S.1.1, .int S.1.2.1, .int S.1.2.2.1, .int S.1.2.2.2.1, .int S.1.2.2.2.2, .ref (ad 2), .ref (ad 3), .ref (ad 4), .ref (ad 5)])), (ad 2, .inl (cI, 6, .inl S.2.1.1)), (ad 3, .inl (cI, 6, .inl S.2.1.2.1)), (ad 4, .inl (cI, 6, .inl S.2.1.2.2)), (ad 5, .inl (cJ, 3, .inr (.inr (.inr (.inr (fun i => if i < 3 then some (ra i) else none)))))), (ra 0, .inl (cI, nl, .inl (S.2.2 0))), (ra 1, .inl (cI, nl, .inl (S.2.2 1))), (ra 2, .inl (cI, nl, .inl (S.2.2 2))), (ad 9, .inl (cI, nn, .inl T_1.1)), (ad 10, .inr (2, [.ref (ad 11), .ref (ad 12), .int T_1.2.1.2.2])), (ad 11, .inl (cI, nn, .inl T_1.2.1.1)), (ad 12, .inl (cZ, nn, .inl T_1.2.1.2.1)), (ad 13, .inr (2, [.ref (ad 14), .ref (ad 15), .int T_1.2.2.1.2.2])), (ad 14, .inl (cI, nn, .inl T_1.2.2.1.1)), (ad 15, .inl (cZ, nn, .inl T_1.2.2.1.2.1)), (ad 16, .inr (0, [.ref (ad 17), .int T_1.2.2.2.1.2.1, .int T_1.2.2.2.1.2.2])), (ad 17, .inl (cI, 1250, .inl T_1.2.2.2.1.1)), (ad 18, .inr (0, [.ref (ad 19), .int T_1.2.2.2.2.1.2.1, .int T_1.2.2.2.2.1.2.2])), (ad 19, .inl (cI, 1250, .inl T_1.2.2.2.2.1.1))]) (w1 := []) hP hD [] [0, 1, 2, 3, 4, 5, 6, 7, 8, 9, 10, 11, 12, 13, 14, 15, 16, 17, 18, 19] rfl rfl (by decide) (by decide) hk1 hFc hP1 hD1
      generalize H1 = H at hP hS hce ⊢
      have hP := hP.sub (ws' := wTT cI cZ cJ nl nn ad ra S T_1) [0, 1, 2, 3, 4, 5, 6, 7, 8, 9, 10, 11, 12, 13, 14, 15, 16, 17, 18, 19] rfl
      have hD := hD.sub (ws' := wTT cI cZ cJ nl nn ad ra S T_1) [0, 1, 2, 3, 4, 5, 6, 7, 8, 9, 10, 11, 12, 13, 14, 15, 16, 17, 18, 19] (by decide) rfl
      exact vx_out (fun x h => (hno x h).elim) hlocks hce hcv hcl (fun t ht ha => ⟨(E, T_1), hw, ⟨rfl, by rw [ht]; exact hP, va_K.moved ha hK, hD⟩, hS.F ht⟩) hS.2.2 (Nat.le_of_ble_eq_true rfl) (Nat.le_of_ble_eq_true rfl)
    · obtain ⟨hP1, -, hD1⟩ := hB
      try dsimp only at hw
      rw [ht] at hP1
      obtain ⟨hP, hD⟩ := va_join (wr := [(ad 0, .inr (3, [.ref (ad 1), .ref (ad 9), .ref (ad 10), .ref (ad 13), .ref (ad 16), .ref (ad 18), .int T_1.2.2.2.2.2])), (ad 1, .inr (1, [.int S.1.1, .int S.1.2.1, .int S.1.2.2.1, .int S.1.2.2.2.1, .int S.1.2.2.2.2, .ref (ad 2), .ref (ad 3), .ref (ad 4), .ref (ad 5)])), (ad 2, .inl (cI, 6, .inl S.2.1.1)), (ad 3, .inl (cI, 6, .inl S.2.1.2.1)), (ad 4, .inl (cI, 6, .inl S.2.1.2.2)), (ad 5, .inl (cJ, 3, .inr (.inr (.inr (.inr (fun i => if i < 3 then some (ra i) else none)))))), (ra 0, .inl (cI, nl, .inl (S.2.2 0))), (ra 1, .inl (cI, nl, .inl (S.2.2 1))), (ra 2, .inl (cI, nl, .inl (S.2.2 2))), (ad 9, .inl (cI, nn, .inl T_1.1)), (ad 10, .inr (2, [.ref (ad 11), .ref (ad 12), .int T_1.2.1.2.2])), (ad 11, .inl (cI, nn, .inl T_1.2.1.1)), (ad 12, .inl (cZ, nn, .inl T_1.2.1.2.1)), (ad 13, .inr (2, [.ref (ad 14), .ref (ad 15), .int T_1.2.2.1.2.2])), (ad 14, .inl (cI, nn, .inl T_1.2.2.1.1)), (ad 15, .inl (cZ, nn, .inl T_1.2.2.1.2.1)), (ad 16, .inr (0, [.ref (ad 17), .int T_1.2.2.2.1.2.1, .int T_1.2.2.2.1.2.2])), (ad 17, .inl (cI, 1250, .inl T_1.2.2.2.1.1)), (ad 18, .inr (0, [.ref (ad 19), .int T_1.2.2.2.2.1.2.1, .int T_1.2.2.2.2.1.2.2])), (ad 19, .inl (cI, 1250, .inl T_1.2.2.2.2.1.1))]) (w1 := []) hP hD [] [0, 1, 2, 3, 4, 5, 6, 7, 8, 9, 10, 11, 12, 13, 14, 15, 16, 17, 18, 19] rfl rfl (by decide) (by decide) hk1 hFc hP1 hD1
      generalize H1 = H at hP hS ⊢
      have hP := hP.sub (ws' := wTT cI cZ cJ nl nn ad ra S T_1) [0, 1, 2, 3, 4, 5, 6, 7, 8, 9, 10, 11, 12, 13, 14, 15, 16, 17, 18, 19] rfl
      have hD := hD.sub (ws' := wTT cI cZ cJ nl nn ad ra S T_1) [0, 1, 2, 3, 4, 5, 6, 7, 8, 9, 10, 11, 12, 13, 14, 15, 16, 17, 18, 19] (by decide) rfl
      refine lv_aload_n hx hb dX3_cost_11 rfl (lv_at hl 0 rfl) ?_
      refine lv_iload_n hx hb dX3_cost_12 rfl (lv_at hl 1 rfl) ?_
      refine lv_iload_n hx hb dX3_cost_13 rfl (lv_at hl 2 rfl) ?_
      refine lv_iload_n hx hb dX3_cost_14 rfl (lv_at hl 3 rfl) ?_
      have hPc := hP
      refine vp_callSi (W.runV (As := [.int x1, .int x2, .int x3]) (rest := []) ⟨hx, hb, hml, hown, hT⟩ (met_X3_costOfLeaf l dC dI cI cZ cJ cL ad ra _ nl nn S T_1 x1 x2 x3 hw) (cwV 3 hT (gV k_146 k_148 k_149 k_57 k_147) rfl rfl rfl (by decide +kernel) ⟨(Nat.le_of_ble_eq_true rfl), (Nat.le_of_ble_eq_true rfl)⟩) ⟨bl_R, va_recv hK hPc (ci := 3) (q0 := 0) rfl rfl, fun U hU hW => ⟨rfl, by rw [hU]; exact hPc, va_K.moved hW.alike hK⟩⟩ rfl rfl hl.1 rfl (lv_room (Nat.le_of_ble_eq_true rfl)) dX3_cost_15 ⟨Nat.le_of_ble_eq_true rfl, Nat.le_of_ble_eq_true rfl⟩) (fun r_3 hw => ?_)
      try dsimp only at hw
      exact vx_ret (W.iret (v := r_3) hx hb hr (fun t ht hW => ⟨⟨r_3, T_1, rfl, hw, by rw [ht]; exact hP, va_K.moved hW.alike hK, hD⟩, hS.F ht⟩) hS.2.2 dX3_cost_18)
def wp_X3_encodeAll_L37 (post : Int32 → vTT → Prop) (px : String → vTT → Prop) (ex37 : vTT → Int32 → Prop) (nl : Nat) (nn : Nat) (S : vSH) (r_3 : Int32) (x1 : Int32) (x2 : Int32) : Nat → vTT → Int32 → Prop
  | 0, _, _ => False
  | n_8 + 1, T_6, x4_7 => ((S.1.2.2.1 ≤ x4_7 → (ex37 T_6 x4_7)) ∧ (¬ S.1.2.2.1 ≤ x4_7 → (wp_X1_leafX (fun r_10 => wp_X1_leafY (fun r_11 => wp_X3_tellLeaf (fun T_12 => ∀ x4_13 : Int32, x4_13 = x4_7 + 1 → (wp_X3_encodeAll_L37 post px ex37 nl nn S r_3 x1 x2 n_8 T_12 x4_13)) nl nn S T_6 r_10 r_11 x2) nl S  x1 x4_7) nl S  x1 x4_7)))
def wp_X3_encodeAll (post : Int32 → vTT → Prop) (px : String → vTT → Prop) (nl : Nat) (nn : Nat) (S : vSH) (T : vTT) (x1 : Int32) (x2 : Int32) : Prop := wp_X3_checkOrder (fun N_1 => wp_X3_checkThreshold (fun N_2 => wp_X3_costBelow nl nn S T 7 (fun r_3 => wp_X3_checkRoom (fun B_4 => ∀ T_5 : vTT, T_5 = (T.1, T.2.1, T.2.2.1, B_4, T.2.2.2.2.1, T.2.2.2.2.2) → (∃ n_8 : Nat, wp_X3_encodeAll_L37 post px (fun (T_6 : vTT) (x4_7 : Int32) => post r_3 T_6) nl nn S r_3 x1 x2 n_8 T_5 0)) (fun E B_4 => px E (T.1, T.2.1, T.2.2.1, B_4, T.2.2.2.2.1, T.2.2.2.2.2))  T.2.2.2.1 r_3) (S.1.2.2.2.1 - 1) 0 0 0 x2) (fun E N_2 => px E T)   x2) (fun E N_1 => px E T)   x1
abbrev rm_X3_encodeAll : Room := { frames := 12, cells := 3, slots := 18, locals := 380 }
set_option maxHeartbeats 4000000 in
set_option maxRecDepth 100000 in
theorem met_X3_encodeAll (l : Launch) (hl9 : l.stackTraces = false) (dC : Nat → ClassId) (dI : Nat → Nat → Nat) (cI cZ cJ cL : ClassId) (sa : Nat → Nat) (ad ra : Nat → Nat) (sz : Nat) (post : Int32 → vTT → Prop) (px : String → vTT → Prop) (nl : Nat) (nn : Nat) (S : vSH) (T : vTT) (x1 : Int32) (x2 : Int32) (hw : wp_X3_encodeAll post px nl nn S T x1 x2) : vx_Met l yX3_encodeAll wsX3_encodeAll rm_X3_encodeAll (pcX (dC, dI) (tysA cI cZ cJ cL) sa (wTT cI cZ cJ nl nn ad ra S T) sz [.ref (ad 0), .int x1, .int x2]) (va_Qi post (fun u t => qB (dC, dI) (tysA cI cZ cJ cL) (va_A (wTT cI cZ cJ nl nn ad ra S T) sz) (wTT cI cZ cJ nl nn ad ra S u) t) (va_A (wTT cI cZ cJ nl nn ad ra S T) sz)) (vx_X (fun u : String × vTT => px u.1 u.2) (fun E u t => E = u.1 ∧ qB (dC, dI) (tysA cI cZ cJ cL) (va_A (wTT cI cZ cJ nl nn ad ra S T) sz) (wTT cI cZ cJ nl nn ad ra S u.2) t) (va_A (wTT cI cZ cJ nl nn ad ra S T) sz)) 3 18 (va_A (wTT cI cZ cJ nl nn ad ra S T) sz) := by
  refine vx_ofW (cc := cX3_encodeAll) (maxL := 5) (ret := (some .int)) (by decide) rfl ?_
  intro p e s m args below meth c s₁ Bd hml hno hv
  obtain ⟨hargs, hsz, hP, hK, hD0, hZ⟩ := hv
  have hx := Bd.exec
  have hb := Bd.bytes
  have hr := Bd.returns
  have hts := atoms_spec (ws := wsX3_encodeAll) Bd.pre
  have hT : ∀ w ∈ WALL, w.before args s = true := fun w h => hts w (List.mem_cons_of_mem _ h)
  have hown : s.vm.findClass RX3 = some m.cls := findClass_of_methodNamed Bd.named
  have hlocks := Bd.notSynchronized
  subst hsz
  have hD := hD0.self (sz := s.heap.size)
  generalize hAe : va_A (wTT cI cZ cJ nl nn ad ra S T) s.heap.size = A at hD ⊢
  have hA : ∀ q : Nat, s.heap.size ≤ q → A q := fun q h => by rw [← hAe]; exact Or.inr h
  have hS : va_S A s.heap s.heap [] := va_S.rf
  rw [hAe] at hZ
  have hP : va_P (dC, dI) vwCl (wTT cI cZ cJ nl nn ad ra S T) s.heap := hP
  have hl := lv_entry ([.ref (ad 0), .int x1, .int x2]) (n := 5) (Nat.le_of_ble_eq_true rfl)
  rw [show entryFrame m args 5 = F0 m 0 _ [] from by rw [hargs]; exact lg_entry_eq m ([.ref (ad 0), .int x1, .int x2]) 5]
  generalize (lg_sl ([.ref (ad 0), .int x1, .int x2]) ++ List.replicate (5 - (lg_sl ([.ref (ad 0), .int x1, .int x2])).length) Slot.unset).toArray = ls at hl ⊢
  have hl : lv_has ls 5 [(0, .ref (ad 0)), (1, .int x1), (2, .int x2)] := hl
  obtain ⟨H, hH⟩ : ∃ z : Heap, z = s.heap := ⟨_, rfl⟩
  obtain ⟨locs, hlocs⟩ : ∃ z : List Loc, z = [] := ⟨_, rfl⟩
  rw [show W p l e (headSpec wsX3_encodeAll rm_X3_encodeAll).room s m args below meth c s.heap [] 0 0 = W p l e (headSpec wsX3_encodeAll rm_X3_encodeAll).room s m args below meth c H locs 0 0 from by rw [hH, hlocs]]
  have hP : va_P (dC, dI) vwCl (wTT cI cZ cJ nl nn ad ra S T) H := by rw [hH]; exact hP
  have hS : va_S A s.heap H locs := by rw [hH, hlocs]; exact hS
  unfold wp_X3_encodeAll at hw
  refine lv_iload_n hx hb dX3_encodeAll_0 rfl (lv_at hl 1 rfl) ?_
  have hPc : va_P (dC, dI) vwCl [] H := hP.sub (ws' := []) [] rfl
  have hDc : va_D A [] := hD.sub (ws' := []) [] (by decide) rfl
  have hFc := va_free (wc := []) hD hS hA [] rfl
  refine vx_callv (vx_runS (As := [.int x1]) (rest := []) ⟨hx, hb, hml, hown, hT⟩ (met_X3_checkOrder l hl9 dC dI cI cZ cJ cL sa  H.size _ _   x1 hw) (va_cwS 1 hT (gS k_111 k_113 k_57 k_112) rfl rfl rfl (by decide +kernel) ⟨(Nat.le_of_ble_eq_true rfl), (Nat.le_of_ble_eq_true rfl)⟩) ⟨bl_X, fun U hU hW => ⟨rfl, by rw [hU], by rw [hU]; exact hPc, va_K.moved hW.alike hK, hDc.weaken (fun _ _ _ _ => trivial), hZ.call hW hU hS hFc⟩⟩ rfl rfl hl.1 rfl (lv_room (Nat.le_of_ble_eq_true rfl)) dX3_encodeAll_1 ⟨Nat.le_of_ble_eq_true rfl, Nat.le_of_ble_eq_true rfl⟩) hS (fun q _ h => hFc q h) hFc (fun q _ h => hFc q h) (fun E ce q9 u9 t H1 locs ht hvm hw hB hz1 hk1 hS hce hcv hcl => ?_) (fun N_1 t H1 locs ht hvm hw hB hz1 hk1 hS => ?_)
  · obtain ⟨E9, N_1⟩ := u9
    obtain ⟨rfl, hP1, -, hD1⟩ := hB
    try dsimp only at hw
    rw [ht] at hP1
    obtain ⟨hP, hD⟩ := va_join (wr := [(ad 0, .inr (3, [.ref (ad 1), .ref (ad 9), .ref (ad 10), .ref (ad 13), .ref (ad 16), .ref (ad 18), .int T.2.2.2.2.2])), (ad 1, .inr (1, [.int S.1.1, .int S.1.2.1, .int S.1.2.2.1, .int S.1.2.2.2.1, .int S.1.2.2.2.2, .ref (ad 2), .ref (ad 3), .ref (ad 4), .ref (ad 5)])), (ad 2, .inl (cI, 6, .inl S.2.1.1)), (ad 3, .inl (cI, 6, .inl S.2.1.2.1)), (ad 4, .inl (cI, 6, .inl S.2.1.2.2)), (ad 5, .inl (cJ, 3, .inr (.inr (.inr (.inr (fun i => if i < 3 then some (ra i) else none)))))), (ra 0, .inl (cI, nl, .inl (S.2.2 0))), (ra 1, .inl (cI, nl, .inl (S.2.2 1))), (ra 2, .inl (cI, nl, .inl (S.2.2 2))), (ad 9, .inl (cI, nn, .inl T.1)), (ad 10, .inr (2, [.ref (ad 11), .ref (ad 12), .int T.2.1.2.2])), (ad 11, .inl (cI, nn, .inl T.2.1.1)), (ad 12, .inl (cZ, nn, .inl T.2.1.2.1)), (ad 13, .inr (2, [.ref (ad 14), .ref (ad 15), .int T.2.2.1.2.2])), (ad 14, .inl (cI, nn, .inl T.2.2.1.1)), (ad 15, .inl (cZ, nn, .inl T.2.2.1.2.1)), (ad 16, .inr (0, [.ref (ad 17), .int T.2.2.2.1.2.1, .int T.2.2.2.1.2.2])), (ad 17, .inl (cI, 1250, .inl T.2.2.2.1.1)), (ad 18, .inr (0, [.ref (ad 19), .int T.2.2.2.2.1.2.1, .int T.2.2.2.2.1.2.2])), (ad 19, .inl (cI, 1250, .inl T.2.2.2.2.1.1))]) (w1 := []) hP hD [] [0, 1, 2, 3, 4, 5, 6, 7, 8, 9, 10, 11, 12, 13, 14, 15, 16, 17, 18, 19] rfl rfl (by decide) (by decide) hk1 hFc hP1 hD1
    generalize H1 = H at hP hS hce ⊢
    have hP := hP.sub (ws' := wTT cI cZ cJ nl nn ad ra S T) [0, 1, 2, 3, 4, 5, 6, 7, 8, 9, 10, 11, 12, 13, 14, 15, 16, 17, 18, 19] rfl
    have hD := hD.sub (ws' := wTT cI cZ cJ nl nn ad ra S T) [0, 1, 2, 3, 4, 5, 6, 7, 8, 9, 10, 11, 12, 13, 14, 15, 16, 17, 18, 19] (by decide) rfl
    exact vx_out (fun x h => (hno x h).elim) hlocks hce hcv hcl (fun t ht ha => ⟨(E, T), hw, ⟨rfl, by rw [ht]; exact hP, va_K.moved ha hK, hD⟩, hS.F ht⟩) hS.2.2 (Nat.le_of_ble_eq_true rfl) (Nat.le_of_ble_eq_true rfl)
  · obtain ⟨hP1, -, hD1⟩ := hB
    try dsimp only at hw
    rw [ht] at hP1
    obtain ⟨hP, hD⟩ := va_join (wr := [(ad 0, .inr (3, [.ref (ad 1), .ref (ad 9), .ref (ad 10), .ref (ad 13), .ref (ad 16), .ref (ad 18), .int T.2.2.2.2.2])), (ad 1, .inr (1, [.int S.1.1, .int S.1.2.1, .int S.1.2.2.1, .int S.1.2.2.2.1, .int S.1.2.2.2.2, .ref (ad 2), .ref (ad 3), .ref (ad 4), .ref (ad 5)])), (ad 2, .inl (cI, 6, .inl S.2.1.1)), (ad 3, .inl (cI, 6, .inl S.2.1.2.1)), (ad 4, .inl (cI, 6, .inl S.2.1.2.2)), (ad 5, .inl (cJ, 3, .inr (.inr (.inr (.inr (fun i => if i < 3 then some (ra i) else none)))))), (ra 0, .inl (cI, nl, .inl (S.2.2 0))), (ra 1, .inl (cI, nl, .inl (S.2.2 1))), (ra 2, .inl (cI, nl, .inl (S.2.2 2))), (ad 9, .inl (cI, nn, .inl T.1)), (ad 10, .inr (2, [.ref (ad 11), .ref (ad 12), .int T.2.1.2.2])), (ad 11, .inl (cI, nn, .inl T.2.1.1)), (ad 12, .inl (cZ, nn, .inl T.2.1.2.1)), (ad 13, .inr (2, [.ref (ad 14), .ref (ad 15), .int T.2.2.1.2.2])), (ad 14, .inl (cI, nn, .inl T.2.2.1.1)), (ad 15, .inl (cZ, nn, .inl T.2.2.1.2.1)), (ad 16, .inr (0, [.ref (ad 17), .int T.2.2.2.1.2.1, .int T.2.2.2.1.2.2])), (ad 17, .inl (cI, 1250, .inl T.2.2.2.1.1)), (ad 18, .inr (0, [.ref (ad 19), .int T.2.2.2.2.1.2.1, .int T.2.2.2.2.1.2.2])), (ad 19, .inl (cI, 1250, .inl T.2.2.2.2.1.1))]) (w1 := []) hP hD [] [0, 1, 2, 3, 4, 5, 6, 7, 8, 9, 10, 11, 12, 13, 14, 15, 16, 17, 18, 19] rfl rfl (by decide) (by decide) hk1 hFc hP1 hD1
    generalize H1 = H at hP hS ⊢
    have hP := hP.sub (ws' := wTT cI cZ cJ nl nn ad ra S T) [0, 1, 2, 3, 4, 5, 6, 7, 8, 9, 10, 11, 12, 13, 14, 15, 16, 17, 18, 19] rfl
    have hD := hD.sub (ws' := wTT cI cZ cJ nl nn ad ra S T) [0, 1, 2, 3, 4, 5, 6, 7, 8, 9, 10, 11, 12, 13, 14, 15, 16, 17, 18, 19] (by decide) rfl
    refine lv_iload_n hx hb dX3_encodeAll_4 rfl (lv_at hl 2 rfl) ?_
    have hPc : va_P (dC, dI) vwCl [] H := hP.sub (ws' := []) [] rfl
    have hDc : va_D A [] := hD.sub (ws' := []) [] (by decide) rfl
    have hFc := va_free (wc := []) hD hS hA [] rfl
    refine vx_callv (vx_runS (As := [.int x2]) (rest := []) ⟨hx, hb, hml, hown, hT⟩ (met_X3_checkThreshold l hl9 dC dI cI cZ cJ cL sa  H.size _ _   x2 hw) (va_cwS 1 hT (gS k_143 k_145 k_57 k_144) rfl rfl rfl (by decide +kernel) ⟨(Nat.le_of_ble_eq_true rfl), (Nat.le_of_ble_eq_true rfl)⟩) ⟨bl_X, fun U hU hW => ⟨rfl, by rw [hU], by rw [hU]; exact hPc, va_K.moved hW.alike hK, hDc.weaken (fun _ _ _ _ => trivial), hZ.call hW hU hS hFc⟩⟩ rfl rfl hl.1 rfl (lv_room (Nat.le_of_ble_eq_true rfl)) dX3_encodeAll_5 ⟨Nat.le_of_ble_eq_true rfl, Nat.le_of_ble_eq_true rfl⟩) hS (fun q _ h => hFc q h) hFc (fun q _ h => hFc q h) (fun E ce q9 u9 t H1 locs ht hvm hw hB hz1 hk1 hS hce hcv hcl => ?_) (fun N_2 t H1 locs ht hvm hw hB hz1 hk1 hS => ?_)
    · obtain ⟨E9, N_2⟩ := u9
      obtain ⟨rfl, hP1, -, hD1⟩ := hB
      try dsimp only at hw
      rw [ht] at hP1
      obtain ⟨hP, hD⟩ := va_join (wr := [(ad 0, .inr (3, [.ref (ad 1), .ref (ad 9), .ref (ad 10), .ref (ad 13), .ref (ad 16), .ref (ad 18), .int T.2.2.2.2.2])), (ad 1, .inr (1, [.int S.1.1, .int S.1.2.1, .int S.1.2.2.1, .int S.1.2.2.2.1, .int S.1.2.2.2.2, .ref (ad 2), .ref (ad 3), .ref (ad 4), .ref (ad 5)])), (ad 2, .inl (cI, 6, .inl S.2.1.1)), (ad 3, .inl (cI, 6, .inl S.2.1.2.1)), (ad 4, .inl (cI, 6, .inl S.2.1.2.2)), (ad 5, .inl (cJ, 3, .inr (.inr (.inr (.inr (fun i => if i < 3 then some (ra i) else none)))))), (ra 0, .inl (cI, nl, .inl (S.2.2 0))), (ra 1, .inl (cI, nl, .inl (S.2.2 1))), (ra 2, .inl (cI, nl, .inl (S.2.2 2))), (ad 9, .inl (cI, nn, .inl T.1)), (ad 10, .inr (2, [.ref (ad 11), .ref (ad 12), .int T.2.1.2.2])), (ad 11, .inl (cI, nn, .inl T.2.1.1)), (ad 12, .inl (cZ, nn, .inl T.2.1.2.1)), (ad 13, .inr (2, [.ref (ad 14), .ref (ad 15), .int T.2.2.1.2.2])), (ad 14, .inl (cI, nn, .inl T.2.2.1.1)), (ad 15, .inl (cZ, nn, .inl T.2.2.1.2.1)), (ad 16, .inr (0, [.ref (ad 17), .int T.2.2.2.1.2.1, .int T.2.2.2.1.2.2])), (ad 17, .inl (cI, 1250, .inl T.2.2.2.1.1)), (ad 18, .inr (0, [.ref (ad 19), .int T.2.2.2.2.1.2.1, .int T.2.2.2.2.1.2.2])), (ad 19, .inl (cI, 1250, .inl T.2.2.2.2.1.1))]) (w1 := []) hP hD [] [0, 1, 2, 3, 4, 5, 6, 7, 8, 9, 10, 11, 12, 13, 14, 15, 16, 17, 18, 19] rfl rfl (by decide) (by decide) hk1 hFc hP1 hD1
      generalize H1 = H at hP hS hce ⊢
      have hP := hP.sub (ws' := wTT cI cZ cJ nl nn ad ra S T) [0, 1, 2, 3, 4, 5, 6, 7, 8, 9, 10, 11, 12, 13, 14, 15, 16, 17, 18, 19] rfl
      have hD := hD.sub (ws' := wTT cI cZ cJ nl nn ad ra S T) [0, 1, 2, 3, 4, 5, 6, 7, 8, 9, 10, 11, 12, 13, 14, 15, 16, 17, 18, 19] (by decide) rfl
      exact vx_out (fun x h => (hno x h).elim) hlocks hce hcv hcl (fun t ht ha => ⟨(E, T), hw, ⟨rfl, by rw [ht]; exact hP, va_K.moved ha hK, hD⟩, hS.F ht⟩) hS.2.2 (Nat.le_of_ble_eq_true rfl) (Nat.le_of_ble_eq_true rfl)
    · obtain ⟨hP1, -, hD1⟩ := hB
      try dsimp only at hw
      rw [ht] at hP1
      obtain ⟨hP, hD⟩ := va_join (wr := [(ad 0, .inr (3, [.ref (ad 1), .ref (ad 9), .ref (ad 10), .ref (ad 13), .ref (ad 16), .ref (ad 18), .int T.2.2.2.2.2])), (ad 1, .inr (1, [.int S.1.1, .int S.1.2.1, .int S.1.2.2.1, .int S.1.2.2.2.1, .int S.1.2.2.2.2, .ref (ad 2), .ref (ad 3), .ref (ad 4), .ref (ad 5)])), (ad 2, .inl (cI, 6, .inl S.2.1.1)), (ad 3, .inl (cI, 6, .inl S.2.1.2.1)), (ad 4, .inl (cI, 6, .inl S.2.1.2.2)), (ad 5, .inl (cJ, 3, .inr (.inr (.inr (.inr (fun i => if i < 3 then some (ra i) else none)))))), (ra 0, .inl (cI, nl, .inl (S.2.2 0))), (ra 1, .inl (cI, nl, .inl (S.2.2 1))), (ra 2, .inl (cI, nl, .inl (S.2.2 2))), (ad 9, .inl (cI, nn, .inl T.1)), (ad 10, .inr (2, [.ref (ad 11), .ref (ad 12), .int T.2.1.2.2])), (ad 11, .inl (cI, nn, .inl T.2.1.1)), (ad 12, .inl (cZ, nn, .inl T.2.1.2.1)), (ad 13, .inr (2, [.ref (ad 14), .ref (ad 15), .int T.2.2.1.2.2])), (ad 14, .inl (cI, nn, .inl T.2.2.1.1)), (ad 15, .inl (cZ, nn, .inl T.2.2.1.2.1)), (ad 16, .inr (0, [.ref (ad 17), .int T.2.2.2.1.2.1, .int T.2.2.2.1.2.2])), (ad 17, .inl (cI, 1250, .inl T.2.2.2.1.1)), (ad 18, .inr (0, [.ref (ad 19), .int T.2.2.2.2.1.2.1, .int T.2.2.2.2.1.2.2])), (ad 19, .inl (cI, 1250, .inl T.2.2.2.2.1.1))]) (w1 := []) hP hD [] [0, 1, 2, 3, 4, 5, 6, 7, 8, 9, 10, 11, 12, 13, 14, 15, 16, 17, 18, 19] rfl rfl (by decide) (by decide) hk1 hFc hP1 hD1
      generalize H1 = H at hP hS ⊢
      have hP := hP.sub (ws' := wTT cI cZ cJ nl nn ad ra S T) [0, 1, 2, 3, 4, 5, 6, 7, 8, 9, 10, 11, 12, 13, 14, 15, 16, 17, 18, 19] rfl
      have hD := hD.sub (ws' := wTT cI cZ cJ nl nn ad ra S T) [0, 1, 2, 3, 4, 5, 6, 7, 8, 9, 10, 11, 12, 13, 14, 15, 16, 17, 18, 19] (by decide) rfl
      refine lv_aload_n hx hb dX3_encodeAll_8 rfl (lv_at hl 0 rfl) ?_
      refine lv_aload_n hx hb dX3_encodeAll_9 rfl (lv_at hl 0 rfl) ?_
      refine va_get (D := (dC, dI)) (ci := 3) (v := .ref (ad 1)) (C := RX3) (T := TX3) (N := 7) hx hb hT inX3 hown hK hP 0 rfl rfl 0 (by decide) (hT _ k_17) (fun _ h9 => h9) rfl dX3_encodeAll_10 ?_
      refine va_get (D := (dC, dI)) (ci := 1) (v := .int S.1.2.2.2.1) (C := RX1) (T := TX1) (N := 9) hx hb hT inX1 hown hK hP 1 rfl rfl 3 (by decide) (hT _ k_20) (fun _ h9 => h9) rfl dX3_encodeAll_13 ?_
      refine lv_iconst (v := 1) hx hb dX3_encodeAll_16 (by decide) ?_
      refine lv_isub hx hb dX3_encodeAll_17 ?_
      refine lv_iconst (v := 0) hx hb dX3_encodeAll_18 (by decide) ?_
      refine lv_iconst (v := 0) hx hb dX3_encodeAll_19 (by decide) ?_
      refine lv_iconst (v := 0) hx hb dX3_encodeAll_20 (by decide) ?_
      refine lv_iload_n hx hb dX3_encodeAll_21 rfl (lv_at hl 2 rfl) ?_
      have hPc := hP
      refine vp_callSi (W.runV (As := [.int (S.1.2.2.2.1 - 1), .int 0, .int 0, .int 0, .int x2]) (rest := []) ⟨hx, hb, hml, hown, hT⟩ (met_X3_costBelow l dC dI cI cZ cJ cL ad ra nl nn S T 7 _ (S.1.2.2.2.1 - 1) 0 0 0 x2 hw) (cwV 5 hT (gV k_88 k_90 k_91 k_57 k_89) rfl rfl rfl (by decide +kernel) ⟨(Nat.le_of_ble_eq_true rfl), (Nat.le_of_ble_eq_true rfl)⟩) ⟨bl_R, va_recv hK hPc (ci := 3) (q0 := 0) rfl rfl, fun U hU hW => ⟨rfl, by rw [hU]; exact hPc, va_K.moved hW.alike hK⟩⟩ rfl rfl hl.1 rfl (lv_room (Nat.le_of_ble_eq_true rfl)) dX3_encodeAll_22 ⟨Nat.le_of_ble_eq_true rfl, Nat.le_of_ble_eq_true rfl⟩) (fun r_3 hw => ?_)
      try dsimp only at hw
      refine lv_istore_n (lv' := [(3, .int r_3), (0, .ref (ad 0)), (1, .int x1), (2, .int x2)]) hx hb dX3_encodeAll_25 rfl hl (by decide) rfl (fun ls hl => ?_)
      refine lv_aload_n hx hb dX3_encodeAll_26 rfl (lv_at hl 1 rfl) ?_
      refine va_get (D := (dC, dI)) (ci := 3) (v := .ref (ad 16)) (C := RX3) (T := TX3) (N := 7) hx hb hT inX3 hown hK hP 0 rfl rfl 4 (by decide) (hT _ k_22) (fun _ h9 => h9) rfl dX3_encodeAll_27 ?_
      refine lv_iload_n hx hb dX3_encodeAll_30 rfl (lv_at hl 0 rfl) ?_
      have hPc := hP.sub (ws' := wBR cI (ad 16) (ad 17) T.2.2.2.1) [16, 17] rfl
      have hDc := hD.sub (ws' := wBR cI (ad 16) (ad 17) T.2.2.2.1) [16, 17] (by decide) rfl
      have hFc := va_free (wc := wBR cI (ad 16) (ad 17) T.2.2.2.1) hD hS hA [16, 17] rfl
      refine vx_callv (vx_runS (As := [.ref (ad 16), .int r_3]) (rest := []) ⟨hx, hb, hml, hown, hT⟩ (met_X3_checkRoom l hl9 dC dI cI cZ cJ cL sa (ad 16) (ad 17) H.size _ _  T.2.2.2.1 r_3 hw) (va_cwS 2 hT (gS k_125 k_127 k_57 k_126) rfl rfl rfl (by decide +kernel) ⟨(Nat.le_of_ble_eq_true rfl), (Nat.le_of_ble_eq_true rfl)⟩) ⟨bl_X, fun U hU hW => ⟨rfl, by rw [hU], by rw [hU]; exact hPc, va_K.moved hW.alike hK, hDc.weaken (fun _ _ _ _ => trivial), hZ.call hW hU hS hFc⟩⟩ rfl rfl hl.1 rfl (lv_room (Nat.le_of_ble_eq_true rfl)) dX3_encodeAll_31 ⟨Nat.le_of_ble_eq_true rfl, Nat.le_of_ble_eq_true rfl⟩) hS (fun q _ h => hFc q h) hFc (fun q _ h => hFc q h) (fun E ce q9 u9 t H1 locs ht hvm hw hB hz1 hk1 hS hce hcv hcl => ?_) (fun B_4 t H1 locs ht hvm hw hB hz1 hk1 hS => ?_)
      · obtain ⟨E9, B_4⟩ := u9
        obtain ⟨rfl, hP1, -, hD1⟩ := hB
        try dsimp only at hw
        rw [ht] at hP1
        obtain ⟨hP, hD⟩ := va_join (wr := [(ad 0, .inr (3, [.ref (ad 1), .ref (ad 9), .ref (ad 10), .ref (ad 13), .ref (ad 16), .ref (ad 18), .int T.2.2.2.2.2])), (ad 1, .inr (1, [.int S.1.1, .int S.1.2.1, .int S.1.2.2.1, .int S.1.2.2.2.1, .int S.1.2.2.2.2, .ref (ad 2), .ref (ad 3), .ref (ad 4), .ref (ad 5)])), (ad 2, .inl (cI, 6, .inl S.2.1.1)), (ad 3, .inl (cI, 6, .inl S.2.1.2.1)), (ad 4, .inl (cI, 6, .inl S.2.1.2.2)), (ad 5, .inl (cJ, 3, .inr (.inr (.inr (.inr (fun i => if i < 3 then some (ra i) else none)))))), (ra 0, .inl (cI, nl, .inl (S.2.2 0))), (ra 1, .inl (cI, nl, .inl (S.2.2 1))), (ra 2, .inl (cI, nl, .inl (S.2.2 2))), (ad 9, .inl (cI, nn, .inl T.1)), (ad 10, .inr (2, [.ref (ad 11), .ref (ad 12), .int T.2.1.2.2])), (ad 11, .inl (cI, nn, .inl T.2.1.1)), (ad 12, .inl (cZ, nn, .inl T.2.1.2.1)), (ad 13, .inr (2, [.ref (ad 14), .ref (ad 15), .int T.2.2.1.2.2])), (ad 14, .inl (cI, nn, .inl T.2.2.1.1)), (ad 15, .inl (cZ, nn, .inl T.2.2.1.2.1)), (ad 18, .inr (0, [.ref (ad 19), .int T.2.2.2.2.1.2.1, .int T.2.2.2.2.1.2.2])), (ad 19, .inl (cI, 1250, .inl T.2.2.2.2.1.1))]) (w1 := wBR cI (ad 16) (ad 17) B_4) hP hD [16, 17] [0, 1, 2, 3, 4, 5, 6, 7, 8, 9, 10, 11, 12, 13, 14, 15, 18, 19] rfl rfl (by decide) (by decide) hk1 hFc hP1 hD1
        generalize H1 = H at hP hS hce ⊢
        have hP := hP.sub (ws' := wTT cI cZ cJ nl nn ad ra S (T.1, T.2.1, T.2.2.1, B_4, T.2.2.2.2.1, T.2.2.2.2.2)) [0, 1, 2, 3, 4, 5, 6, 7, 8, 9, 10, 11, 12, 13, 14, 15, 18, 19, 16, 17] rfl
        have hD := hD.sub (ws' := wTT cI cZ cJ nl nn ad ra S (T.1, T.2.1, T.2.2.1, B_4, T.2.2.2.2.1, T.2.2.2.2.2)) [0, 1, 2, 3, 4, 5, 6, 7, 8, 9, 10, 11, 12, 13, 14, 15, 18, 19, 16, 17] (by decide) rfl
        exact vx_out (fun x h => (hno x h).elim) hlocks hce hcv hcl (fun t ht ha => ⟨(E, (T.1, T.2.1, T.2.2.1, B_4, T.2.2.2.2.1, T.2.2.2.2.2)), hw, ⟨rfl, by rw [ht]; exact hP, va_K.moved ha hK, hD⟩, hS.F ht⟩) hS.2.2 (Nat.le_of_ble_eq_true rfl) (Nat.le_of_ble_eq_true rfl)
      · obtain ⟨hP1, -, hD1⟩ := hB
        try dsimp only at hw
        rw [ht] at hP1
        obtain ⟨hP, hD⟩ := va_join (wr := [(ad 0, .inr (3, [.ref (ad 1), .ref (ad 9), .ref (ad 10), .ref (ad 13), .ref (ad 16), .ref (ad 18), .int T.2.2.2.2.2])), (ad 1, .inr (1, [.int S.1.1, .int S.1.2.1, .int S.1.2.2.1, .int S.1.2.2.2.1, .int S.1.2.2.2.2, .ref (ad 2), .ref (ad 3), .ref (ad 4), .ref (ad 5)])), (ad 2, .inl (cI, 6, .inl S.2.1.1)), (ad 3, .inl (cI, 6, .inl S.2.1.2.1)), (ad 4, .inl (cI, 6, .inl S.2.1.2.2)), (ad 5, .inl (cJ, 3, .inr (.inr (.inr (.inr (fun i => if i < 3 then some (ra i) else none)))))), (ra 0, .inl (cI, nl, .inl (S.2.2 0))), (ra 1, .inl (cI, nl, .inl (S.2.2 1))), (ra 2, .inl (cI, nl, .inl (S.2.2 2))), (ad 9, .inl (cI, nn, .inl T.1)), (ad 10, .inr (2, [.ref (ad 11), .ref (ad 12), .int T.2.1.2.2])), (ad 11, .inl (cI, nn, .inl T.2.1.1)), (ad 12, .inl (cZ, nn, .inl T.2.1.2.1)), (ad 13, .inr (2, [.ref (ad 14), .ref (ad 15), .int T.2.2.1.2.2])), (ad 14, .inl (cI, nn, .inl T.2.2.1.1)), (ad 15, .inl (cZ, nn, .inl T.2.2.1.2.1)), (ad 18, .inr (0, [.ref (ad 19), .int T.2.2.2.2.1.2.1, .int T.2.2.2.2.1.2.2])), (ad 19, .inl (cI, 1250, .inl T.2.2.2.2.1.1))]) (w1 := wBR cI (ad 16) (ad 17) B_4) hP hD [16, 17] [0, 1, 2, 3, 4, 5, 6, 7, 8, 9, 10, 11, 12, 13, 14, 15, 18, 19] rfl rfl (by decide) (by decide) hk1 hFc hP1 hD1
        generalize H1 = H at hP hS ⊢
        have hP := hP.sub (ws' := wTT cI cZ cJ nl nn ad ra S (T.1, T.2.1, T.2.2.1, B_4, T.2.2.2.2.1, T.2.2.2.2.2)) [0, 1, 2, 3, 4, 5, 6, 7, 8, 9, 10, 11, 12, 13, 14, 15, 18, 19, 16, 17] rfl
        have hD := hD.sub (ws' := wTT cI cZ cJ nl nn ad ra S (T.1, T.2.1, T.2.2.1, B_4, T.2.2.2.2.1, T.2.2.2.2.2)) [0, 1, 2, 3, 4, 5, 6, 7, 8, 9, 10, 11, 12, 13, 14, 15, 18, 19, 16, 17] (by decide) rfl
        refine lv_iconst (v := 0) hx hb dX3_encodeAll_34 (by decide) ?_
        refine lv_istore (lv' := [(4, .int 0), (3, .int r_3), (0, .ref (ad 0)), (1, .int x1), (2, .int x2)]) hx hb dX3_encodeAll_35 hl (by decide) rfl (fun ls hl => ?_)
        obtain ⟨T_5, eT_5⟩ : ∃ z : vTT, z = (T.1, T.2.1, T.2.2.1, B_4, T.2.2.2.2.1, T.2.2.2.2.2) := ⟨_, rfl⟩
        have hw := hw T_5 eT_5
        rw [← eT_5] at hP hD
        obtain ⟨n_8, hw⟩ := hw
        obtain ⟨ex37, eex37⟩ : ∃ z : vTT → Int32 → Prop, z = (fun (T_6 : vTT) (x4_7 : Int32) => post r_3 T_6) := ⟨_, rfl⟩
        rw [← eex37] at hw
        have hx37 : ∀ (T_6 : vTT) (x4_7 : Int32), ex37 T_6 x4_7 → ∀ (H : Heap) (locs : List Loc) (ls : Array Slot), va_P (dC, dI) vwCl (wTT cI cZ cJ nl nn ad ra S T_6) H → va_D A (wTT cI cZ cJ nl nn ad ra S T_6) → va_S A s.heap H locs → lv_has ls 5 [(4, .int x4_7), (3, .int r_3), (0, .ref (ad 0)), (1, .int x1), (2, .int x2)] → W p l e (headSpec wsX3_encodeAll rm_X3_encodeAll).room s m args below meth c H locs 3 18 (vx_MQ below (va_Qi post (fun u t => qB (dC, dI) (tysA cI cZ cJ cL) A (wTT cI cZ cJ nl nn ad ra S u) t) A) (vx_X (fun u : String × vTT => px u.1 u.2) (fun E u t => E = u.1 ∧ qB (dC, dI) (tysA cI cZ cJ cL) A (wTT cI cZ cJ nl nn ad ra S u.2) t) A) args s 3 18 A) (F0 m 80 ls []) := by
          intro T_6 x4_7 hw H locs ls hP hD hS hl
          rw [eex37] at hw
          try dsimp only at hw
          refine lv_iload_n hx hb dX3_encodeAll_80 rfl (lv_at hl 1 rfl) ?_
          exact vx_ret (W.iret (v := r_3) hx hb hr (fun t ht hW => ⟨⟨r_3, T_6, rfl, hw, by rw [ht]; exact hP, va_K.moved hW.alike hK, hD⟩, hS.F ht⟩) hS.2.2 dX3_encodeAll_81)
        have hlp37 : ∀ (n_8 : Nat) (T_6 : vTT) (x4_7 : Int32), wp_X3_encodeAll_L37 post px ex37 nl nn S r_3 x1 x2 n_8 T_6 x4_7 → ∀ (H : Heap) (locs : List Loc) (ls : Array Slot), va_P (dC, dI) vwCl (wTT cI cZ cJ nl nn ad ra S T_6) H → va_D A (wTT cI cZ cJ nl nn ad ra S T_6) → va_S A s.heap H locs → lv_has ls 5 [(4, .int x4_7), (3, .int r_3), (0, .ref (ad 0)), (1, .int x1), (2, .int x2)] → W p l e (headSpec wsX3_encodeAll rm_X3_encodeAll).room s m args below meth c H locs 3 18 (vx_MQ below (va_Qi post (fun u t => qB (dC, dI) (tysA cI cZ cJ cL) A (wTT cI cZ cJ nl nn ad ra S u) t) A) (vx_X (fun u : String × vTT => px u.1 u.2) (fun E u t => E = u.1 ∧ qB (dC, dI) (tysA cI cZ cJ cL) A (wTT cI cZ cJ nl nn ad ra S u.2) t) A) args s 3 18 A) (F0 m 37 ls []) := by
          intro n_8
          induction n_8 with
          | zero => intro _ _ hw; exact hw.elim
          | succ n_8 ih37 =>
            intro T_6 x4_7 hw H locs ls hP hD hS hl
            unfold wp_X3_encodeAll_L37 at hw
            refine lv_iload hx hb dX3_encodeAll_37 (lv_at hl 0 rfl) ?_
            refine lv_aload_n hx hb dX3_encodeAll_39 rfl (lv_at hl 2 rfl) ?_
            refine va_get (D := (dC, dI)) (ci := 3) (v := .ref (ad 1)) (C := RX3) (T := TX3) (N := 7) hx hb hT inX3 hown hK hP 0 rfl rfl 0 (by decide) (hT _ k_17) (fun _ h9 => h9) rfl dX3_encodeAll_40 ?_
            refine va_get (D := (dC, dI)) (ci := 1) (v := .int S.1.2.2.1) (C := RX1) (T := TX1) (N := 9) hx hb hT inX1 hown hK hP 1 rfl rfl 2 (by decide) (hT _ k_116) (fun _ h9 => h9) rfl dX3_encodeAll_43 ?_
            refine lv_icmp_ge (tgt := 80) hx hb dX3_encodeAll_46 (by decide) (fun c_9 => ?_) (fun c_9 => ?_)
            · have hw := hw.1 c_9
              exact hx37 T_6 x4_7 hw _ _ _ hP hD hS (lv_sub hl [0, 1, 2, 3, 4] rfl)
            · have hw := hw.2 c_9
              refine lv_aload_n hx hb dX3_encodeAll_49 rfl (lv_at hl 2 rfl) ?_
              refine lv_aload_n hx hb dX3_encodeAll_50 rfl (lv_at hl 2 rfl) ?_
              refine va_get (D := (dC, dI)) (ci := 3) (v := .ref (ad 1)) (C := RX3) (T := TX3) (N := 7) hx hb hT inX3 hown hK hP 0 rfl rfl 0 (by decide) (hT _ k_17) (fun _ h9 => h9) rfl dX3_encodeAll_51 ?_
              refine lv_iload_n hx hb dX3_encodeAll_54 rfl (lv_at hl 3 rfl) ?_
              refine lv_iload hx hb dX3_encodeAll_55 (lv_at hl 0 rfl) ?_
              have hPc := hP.sub (ws' := wSH cI cJ nl (ad 1) (ad 2) (ad 3) (ad 4) (ad 5) ra S) [1, 2, 3, 4, 5, 6, 7, 8] rfl
              refine vp_callSi (W.runV (As := [.int x1, .int x4_7]) (rest := [.ref (ad 0)]) ⟨hx, hb, hml, hown, hT⟩ (met_X1_leafX l dC dI cI cZ cJ cL (ad 1) (ad 2) (ad 3) (ad 4) (ad 5) ra _ nl S  x1 x4_7 hw) (cwV 2 hT (gV k_117 k_119 k_120 k_43 k_118) rfl rfl rfl (by decide +kernel) ⟨(Nat.le_of_ble_eq_true rfl), (Nat.le_of_ble_eq_true rfl)⟩) ⟨bl_R, va_recv hK hPc (ci := 1) (q0 := 0) rfl rfl, fun U hU hW => ⟨rfl, by rw [hU]; exact hPc, va_K.moved hW.alike hK⟩⟩ rfl rfl hl.1 rfl (lv_room (Nat.le_of_ble_eq_true rfl)) dX3_encodeAll_57 ⟨Nat.le_of_ble_eq_true rfl, Nat.le_of_ble_eq_true rfl⟩) (fun r_10 hw => ?_)
              try dsimp only at hw
              refine lv_aload_n hx hb dX3_encodeAll_60 rfl (lv_at hl 2 rfl) ?_
              refine va_get (D := (dC, dI)) (ci := 3) (v := .ref (ad 1)) (C := RX3) (T := TX3) (N := 7) hx hb hT inX3 hown hK hP 0 rfl rfl 0 (by decide) (hT _ k_17) (fun _ h9 => h9) rfl dX3_encodeAll_61 ?_
              refine lv_iload_n hx hb dX3_encodeAll_64 rfl (lv_at hl 3 rfl) ?_
              refine lv_iload hx hb dX3_encodeAll_65 (lv_at hl 0 rfl) ?_
              have hPc := hP.sub (ws' := wSH cI cJ nl (ad 1) (ad 2) (ad 3) (ad 4) (ad 5) ra S) [1, 2, 3, 4, 5, 6, 7, 8] rfl
              refine vp_callSi (W.runV (As := [.int x1, .int x4_7]) (rest := [.int r_10, .ref (ad 0)]) ⟨hx, hb, hml, hown, hT⟩ (met_X1_leafY l dC dI cI cZ cJ cL (ad 1) (ad 2) (ad 3) (ad 4) (ad 5) ra _ nl S  x1 x4_7 hw) (cwV 2 hT (gV k_121 k_123 k_124 k_43 k_122) rfl rfl rfl (by decide +kernel) ⟨(Nat.le_of_ble_eq_true rfl), (Nat.le_of_ble_eq_true rfl)⟩) ⟨bl_R, va_recv hK hPc (ci := 1) (q0 := 0) rfl rfl, fun U hU hW => ⟨rfl, by rw [hU]; exact hPc, va_K.moved hW.alike hK⟩⟩ rfl rfl hl.1 rfl (lv_room (Nat.le_of_ble_eq_true rfl)) dX3_encodeAll_67 ⟨Nat.le_of_ble_eq_true rfl, Nat.le_of_ble_eq_true rfl⟩) (fun r_11 hw => ?_)
              try dsimp only at hw
              refine lv_iload_n hx hb dX3_encodeAll_70 rfl (lv_at hl 4 rfl) ?_
              have hPc := hP
              have hDc := hD
              have hFc := va_free (wc := wTT cI cZ cJ nl nn ad ra S T_6) hD hS hA [0, 1, 2, 3, 4, 5, 6, 7, 8, 9, 10, 11, 12, 13, 14, 15, 16, 17, 18, 19] rfl
              refine va_callv (va_runV (As := [.int r_10, .int r_11, .int x2]) (rest := []) ⟨hx, hb, hml, hown, hT⟩ (met_X3_tellLeaf l dC dI cI cZ cJ cL ad ra H.size _ nl nn S T_6 r_10 r_11 x2 hw) (cwV 3 hT (gV k_150 k_152 k_153 k_57 k_151) rfl rfl rfl (by decide +kernel) ⟨(Nat.le_of_ble_eq_true rfl), (Nat.le_of_ble_eq_true rfl)⟩) ⟨bl_W, va_recv hK hPc (ci := 3) (q0 := 0) rfl rfl, fun U hU hW => ⟨rfl, by rw [hU], by rw [hU]; exact hPc, va_K.moved hW.alike hK, hDc.weaken (fun _ _ _ _ => trivial)⟩⟩ rfl rfl hl.1 rfl (lv_room (Nat.le_of_ble_eq_true rfl)) dX3_encodeAll_71 ⟨Nat.le_of_ble_eq_true rfl, Nat.le_of_ble_eq_true rfl⟩) hS (fun q _ h => hFc q h) hFc (fun T_12 t H1 locs ht hvm hw hB hz1 hk1 hS => ?_)
              obtain ⟨hP1, -, hD1⟩ := hB
              try dsimp only at hw
              rw [ht] at hP1
              obtain ⟨hP, hD⟩ := va_join (wr := []) (w1 := wTT cI cZ cJ nl nn ad ra S T_12) hP hD [0, 1, 2, 3, 4, 5, 6, 7, 8, 9, 10, 11, 12, 13, 14, 15, 16, 17, 18, 19] [] rfl rfl (by decide) (by decide) hk1 hFc hP1 hD1
              generalize H1 = H at hP hS ⊢
              have hP := hP.sub (ws' := wTT cI cZ cJ nl nn ad ra S T_12) [0, 1, 2, 3, 4, 5, 6, 7, 8, 9, 10, 11, 12, 13, 14, 15, 16, 17, 18, 19] rfl
              have hD := hD.sub (ws' := wTT cI cZ cJ nl nn ad ra S T_12) [0, 1, 2, 3, 4, 5, 6, 7, 8, 9, 10, 11, 12, 13, 14, 15, 16, 17, 18, 19] (by decide) rfl
              obtain ⟨x4_13, ex4_13⟩ : ∃ y : Int32, y = x4_7 + 1 := ⟨_, rfl⟩
              have hw := hw x4_13 ex4_13
              refine lv_iinc (v := x4_13) (lv' := [(4, .int x4_13), (3, .int r_3), (0, .ref (ad 0)), (1, .int x1), (2, .int x2)]) hx hb dX3_encodeAll_74 hl (k := 0) rfl (by rw [ex4_13]; rfl) (by decide) rfl (fun ls hl => ?_)
              refine lv_goto (tgt := 37) hx hb dX3_encodeAll_77 (by decide) ?_
              exact ih37 T_12 x4_13 hw _ _ _ hP hD hS (lv_sub hl [0, 1, 2, 3, 4] rfl)
        exact hlp37 n_8 T_5 0 hw _ _ _ hP hD hS (lv_sub hl [0, 1, 2, 3, 4] rfl)
def wp_X3_decode (post : Int32 → vTT → Prop) (px : String → vTT → Prop) (nl : Nat) (nn : Nat) (S : vSH) (T : vTT) (x1 : Int32) (x2 : Int32) (x3 : Int32) : Prop := wp_X3_checkNode (fun T_1 => wp_X3_checkThreshold (fun N_2 => wp_X3_learnLeaf (fun r_3 T_4 => ((r_3 = 0 → (post (-2) T_4)) ∧ (¬ r_3 = 0 → (wp_X1_nodeAt (fun r_6 => vp_in r_6 nn ∧ ((((T_4.2.2.1.2.1 r_6.toNatClampNeg) = 0 → (post 0 T_4)) ∧ (¬ (T_4.2.2.1.2.1 r_6.toNatClampNeg) = 0 → (vp_in r_6 nn ∧ (((x3 ≤ (T_4.2.2.1.1 r_6.toNatClampNeg) → (post 0 T_4)) ∧ (¬ x3 ≤ (T_4.2.2.1.1 r_6.toNatClampNeg) → (post 1 T_4))))))))) nl S  0 x1 x2)))) nl nn S T_1 x1 x2 x3) (fun E N_2 => px E T_1)   x3) (fun E T_1 => px E T_1) nl nn S T 0 x1 x2
abbrev rm_X3_decode : Room := { frames := 7, cells := 2, slots := 12, locals := 105 }
set_option maxHeartbeats 4000000 in
set_option maxRecDepth 100000 in
theorem met_X3_decode (l : Launch) (hl9 : l.stackTraces = false) (dC : Nat → ClassId) (dI : Nat → Nat → Nat) (cI cZ cJ cL : ClassId) (sa : Nat → Nat) (ad ra : Nat → Nat) (sz : Nat) (post : Int32 → vTT → Prop) (px : String → vTT → Prop) (nl : Nat) (nn : Nat) (S : vSH) (T : vTT) (x1 : Int32) (x2 : Int32) (x3 : Int32) (hw : wp_X3_decode post px nl nn S T x1 x2 x3) : vx_Met l yX3_decode wsX3_decode rm_X3_decode (pcX (dC, dI) (tysA cI cZ cJ cL) sa (wTT cI cZ cJ nl nn ad ra S T) sz [.ref (ad 0), .int x1, .int x2, .int x3]) (va_Qi post (fun u t => qB (dC, dI) (tysA cI cZ cJ cL) (va_A (wTT cI cZ cJ nl nn ad ra S T) sz) (wTT cI cZ cJ nl nn ad ra S u) t) (va_A (wTT cI cZ cJ nl nn ad ra S T) sz)) (vx_X (fun u : String × vTT => px u.1 u.2) (fun E u t => E = u.1 ∧ qB (dC, dI) (tysA cI cZ cJ cL) (va_A (wTT cI cZ cJ nl nn ad ra S T) sz) (wTT cI cZ cJ nl nn ad ra S u.2) t) (va_A (wTT cI cZ cJ nl nn ad ra S T) sz)) 2 12 (va_A (wTT cI cZ cJ nl nn ad ra S T) sz) := by
  refine vx_ofW (cc := cX3_decode) (maxL := 5) (ret := (some .int)) (by decide) rfl ?_
  intro p e s m args below meth c s₁ Bd hml hno hv
  obtain ⟨hargs, hsz, hP, hK, hD0, hZ⟩ := hv
  have hx := Bd.exec
  have hb := Bd.bytes
  have hr := Bd.returns
  have hts := atoms_spec (ws := wsX3_decode) Bd.pre
  have hT : ∀ w ∈ WALL, w.before args s = true := fun w h => hts w (List.mem_cons_of_mem _ h)
  have hown : s.vm.findClass RX3 = some m.cls := findClass_of_methodNamed Bd.named
  have hlocks := Bd.notSynchronized
  subst hsz
  have hD := hD0.self (sz := s.heap.size)
  generalize hAe : va_A (wTT cI cZ cJ nl nn ad ra S T) s.heap.size = A at hD ⊢
  have hA : ∀ q : Nat, s.heap.size ≤ q → A q := fun q h => by rw [← hAe]; exact Or.inr h
  have hS : va_S A s.heap s.heap [] := va_S.rf
  rw [hAe] at hZ
  have hP : va_P (dC, dI) vwCl (wTT cI cZ cJ nl nn ad ra S T) s.heap := hP
  have hl := lv_entry ([.ref (ad 0), .int x1, .int x2, .int x3]) (n := 5) (Nat.le_of_ble_eq_true rfl)
  rw [show entryFrame m args 5 = F0 m 0 _ [] from by rw [hargs]; exact lg_entry_eq m ([.ref (ad 0), .int x1, .int x2, .int x3]) 5]
  generalize (lg_sl ([.ref (ad 0), .int x1, .int x2, .int x3]) ++ List.replicate (5 - (lg_sl ([.ref (ad 0), .int x1, .int x2, .int x3])).length) Slot.unset).toArray = ls at hl ⊢
  have hl : lv_has ls 5 [(0, .ref (ad 0)), (1, .int x1), (2, .int x2), (3, .int x3)] := hl
  obtain ⟨H, hH⟩ : ∃ z : Heap, z = s.heap := ⟨_, rfl⟩
  obtain ⟨locs, hlocs⟩ : ∃ z : List Loc, z = [] := ⟨_, rfl⟩
  rw [show W p l e (headSpec wsX3_decode rm_X3_decode).room s m args below meth c s.heap [] 0 0 = W p l e (headSpec wsX3_decode rm_X3_decode).room s m args below meth c H locs 0 0 from by rw [hH, hlocs]]
  have hP : va_P (dC, dI) vwCl (wTT cI cZ cJ nl nn ad ra S T) H := by rw [hH]; exact hP
  have hS : va_S A s.heap H locs := by rw [hH, hlocs]; exact hS
  unfold wp_X3_decode at hw
  refine lv_aload_n hx hb dX3_decode_0 rfl (lv_at hl 0 rfl) ?_
  refine lv_iconst (v := 0) hx hb dX3_decode_1 (by decide) ?_
  refine lv_iload_n hx hb dX3_decode_2 rfl (lv_at hl 1 rfl) ?_
  refine lv_iload_n hx hb dX3_decode_3 rfl (lv_at hl 2 rfl) ?_
  have hPc := hP
  have hDc := hD
  have hFc := va_free (wc := wTT cI cZ cJ nl nn ad ra S T) hD hS hA [0, 1, 2, 3, 4, 5, 6, 7, 8, 9, 10, 11, 12, 13, 14, 15, 16, 17, 18, 19] rfl
  refine vx_callv (vx_runV (As := [.int 0, .int x1, .int x2]) (rest := []) ⟨hx, hb, hml, hown, hT⟩ (met_X3_checkNode l hl9 dC dI cI cZ cJ cL sa ad ra H.size _ _ nl nn S T 0 x1 x2 hw) (cwV 3 hT (gV k_128 k_130 k_131 k_57 k_129) rfl rfl rfl (by decide +kernel) ⟨(Nat.le_of_ble_eq_true rfl), (Nat.le_of_ble_eq_true rfl)⟩) ⟨bl_X, va_recv hK hPc (ci := 3) (q0 := 0) rfl rfl, fun U hU hW => ⟨rfl, by rw [hU], by rw [hU]; exact hPc, va_K.moved hW.alike hK, hDc.weaken (fun _ _ _ _ => trivial), hZ.call hW hU hS hFc⟩⟩ rfl rfl hl.1 rfl (lv_room (Nat.le_of_ble_eq_true rfl)) dX3_decode_4 ⟨Nat.le_of_ble_eq_true rfl, Nat.le_of_ble_eq_true rfl⟩) hS (fun q _ h => hFc q h) hFc (fun q _ h => hFc q h) (fun E ce q9 u9 t H1 locs ht hvm hw hB hz1 hk1 hS hce hcv hcl => ?_) (fun T_1 t H1 locs ht hvm hw hB hz1 hk1 hS => ?_)
  · obtain ⟨E9, T_1⟩ := u9
    obtain ⟨rfl, hP1, -, hD1⟩ := hB
    try dsimp only at hw
    rw [ht] at hP1
    obtain ⟨hP, hD⟩ := va_join (wr := []) (w1 := wTT cI cZ cJ nl nn ad ra S T_1) hP hD [0, 1, 2, 3, 4, 5, 6, 7, 8, 9, 10, 11, 12, 13, 14, 15, 16, 17, 18, 19] [] rfl rfl (by decide) (by decide) hk1 hFc hP1 hD1
    generalize H1 = H at hP hS hce ⊢
    have hP := hP.sub (ws' := wTT cI cZ cJ nl nn ad ra S T_1) [0, 1, 2, 3, 4, 5, 6, 7, 8, 9, 10, 11, 12, 13, 14, 15, 16, 17, 18, 19] rfl
    have hD := hD.sub (ws' := wTT cI cZ cJ nl nn ad ra S T_1) [0, 1, 2, 3, 4, 5, 6, 7, 8, 9, 10, 11, 12, 13, 14, 15, 16, 17, 18, 19] (by decide) rfl
    exact vx_out (fun x h => (hno x h).elim) hlocks hce hcv hcl (fun t ht ha => ⟨(E, T_1), hw, ⟨rfl, by rw [ht]; exact hP, va_K.moved ha hK, hD⟩, hS.F ht⟩) hS.2.2 (Nat.le_of_ble_eq_true rfl) (Nat.le_of_ble_eq_true rfl)
  · obtain ⟨hP1, -, hD1⟩ := hB
    try dsimp only at hw
    rw [ht] at hP1
    obtain ⟨hP, hD⟩ := va_join (wr := []) (w1 := wTT cI cZ cJ nl nn ad ra S T_1) hP hD [0, 1, 2, 3, 4, 5, 6, 7, 8, 9, 10, 11, 12, 13, 14, 15, 16, 17, 18, 19] [] rfl rfl (by decide) (by decide) hk1 hFc hP1 hD1
    generalize H1 = H at hP hS ⊢
    have hP := hP.sub (ws' := wTT cI cZ cJ nl nn ad ra S T_1) [0, 1, 2, 3, 4, 5, 6, 7, 8, 9, 10, 11, 12, 13, 14, 15, 16, 17, 18, 19] rfl
    have hD := hD.sub (ws' := wTT cI cZ cJ nl nn ad ra S T_1) [0, 1, 2, 3, 4, 5, 6, 7, 8, 9, 10, 11, 12, 13, 14, 15, 16, 17, 18, 19] (by decide) rfl
    refine lv_iload_n hx hb dX3_decode_7 rfl (lv_at hl 3 rfl) ?_
    have hPc : va_P (dC, dI) vwCl [] H := hP.sub (ws' := []) [] rfl
    have hDc : va_D A [] := hD.sub (ws' := []) [] (by decide) rfl
    have hFc := va_free (wc := []) hD hS hA [] rfl
    refine vx_callv (vx_runS (As := [.int x3]) (rest := []) ⟨hx, hb, hml, hown, hT⟩ (met_X3_checkThreshold l hl9 dC dI cI cZ cJ cL sa  H.size _ _   x3 hw) (va_cwS 1 hT (gS k_143 k_145 k_57 k_144) rfl rfl rfl (by decide +kernel) ⟨(Nat.le_of_ble_eq_true rfl), (Nat.le_of_ble_eq_true rfl)⟩) ⟨bl_X, fun U hU hW => ⟨rfl, by rw [hU], by rw [hU]; exact hPc, va_K.moved hW.alike hK, hDc.weaken (fun _ _ _ _ => trivial), hZ.call hW hU hS hFc⟩⟩ rfl rfl hl.1 rfl (lv_room (Nat.le_of_ble_eq_true rfl)) dX3_decode_8 ⟨Nat.le_of_ble_eq_true rfl, Nat.le_of_ble_eq_true rfl⟩) hS (fun q _ h => hFc q h) hFc (fun q _ h => hFc q h) (fun E ce q9 u9 t H1 locs ht hvm hw hB hz1 hk1 hS hce hcv hcl => ?_) (fun N_2 t H1 locs ht hvm hw hB hz1 hk1 hS => ?_)
    · obtain ⟨E9, N_2⟩ := u9
      obtain ⟨rfl, hP1, -, hD1⟩ := hB
      try dsimp only at hw
      rw [ht] at hP1
      obtain ⟨hP, hD⟩ := va_join (wr := [(ad 0, .inr (3, [.ref (ad 1), .ref (ad 9), .ref (ad 10), .ref (ad 13), .ref (ad 16), .ref (ad 18), .int T_1.2.2.2.2.2])), (ad 1, .inr (1, [.int S.1.1, .int S.1.2.1, .int S.1.2.2.1, .int S.1.2.2.2.1, .int S.1.2.2.2.2, .ref (ad 2), .ref (ad 3), .ref (ad 4), .ref (ad 5)])), (ad 2, .inl (cI, 6, .inl S.2.1.1)), (ad 3, .inl (cI, 6, .inl S.2.1.2.1)), (ad 4, .inl (cI, 6, .inl S.2.1.2.2)), (ad 5, .inl (cJ, 3, .inr (.inr (.inr (.inr (fun i => if i < 3 then some (ra i) else none)))))), (ra 0, .inl (cI, nl, .inl (S.2.2 0))), (ra 1, .inl (cI, nl, .inl (S.2.2 1))), (ra 2, .inl (cI, nl, .inl (S.2.2 2))), (ad 9, .inl (cI, nn, .inl T_1.1)), (ad 10, .inr (2, [.ref (ad 11), .ref (ad 12), .int T_1.2.1.2.2])), (ad 11, .inl (cI, nn, .inl T_1.2.1.1)), (ad 12, .inl (cZ, nn, .inl T_1.2.1.2.1)), (ad 13, .inr (2, [.ref (ad 14), .ref (ad 15), .int T_1.2.2.1.2.2])), (ad 14, .inl (cI, nn, .inl T_1.2.2.1.1)), (ad 15, .inl (cZ, nn, .inl T_1.2.2.1.2.1)), (ad 16, .inr (0, [.ref (ad 17), .int T_1.2.2.2.1.2.1, .int T_1.2.2.2.1.2.2])), (ad 17, .inl (cI, 1250, .inl T_1.2.2.2.1.1)), (ad 18, .inr (0, [.ref (ad 19), .int T_1.2.2.2.2.1.2.1, .int T_1.2.2.2.2.1.2.2])), (ad 19, .inl (cI, 1250, .inl T_1.2.2.2.2.1.1))]) (w1 := []) hP hD [] [0, 1, 2, 3, 4, 5, 6, 7, 8, 9, 10, 11, 12, 13, 14, 15, 16, 17, 18, 19] rfl rfl (by decide) (by decide) hk1 hFc hP1 hD1
      generalize H1 = H at hP hS hce ⊢
      have hP := hP.sub (ws' := wTT cI cZ cJ nl nn ad ra S T_1) [0, 1, 2, 3, 4, 5, 6, 7, 8, 9, 10, 11, 12, 13, 14, 15, 16, 17, 18, 19] rfl
      have hD := hD.sub (ws' := wTT cI cZ cJ nl nn ad ra S T_1) [0, 1, 2, 3, 4, 5, 6, 7, 8, 9, 10, 11, 12, 13, 14, 15, 16, 17, 18, 19] (by decide) rfl
      exact vx_out (fun x h => (hno x h).elim) hlocks hce hcv hcl (fun t ht ha => ⟨(E, T_1), hw, ⟨rfl, by rw [ht]; exact hP, va_K.moved ha hK, hD⟩, hS.F ht⟩) hS.2.2 (Nat.le_of_ble_eq_true rfl) (Nat.le_of_ble_eq_true rfl)
    · obtain ⟨hP1, -, hD1⟩ := hB
      try dsimp only at hw
      rw [ht] at hP1
      obtain ⟨hP, hD⟩ := va_join (wr := [(ad 0, .inr (3, [.ref (ad 1), .ref (ad 9), .ref (ad 10), .ref (ad 13), .ref (ad 16), .ref (ad 18), .int T_1.2.2.2.2.2])), (ad 1, .inr (1, [.int S.1.1, .int S.1.2.1, .int S.1.2.2.1, .int S.1.2.2.2.1, .int S.1.2.2.2.2, .ref (ad 2), .ref (ad 3), .ref (ad 4), .ref (ad 5)])), (ad 2, .inl (cI, 6, .inl S.2.1.1)), (ad 3, .inl (cI, 6, .inl S.2.1.2.1)), (ad 4, .inl (cI, 6, .inl S.2.1.2.2)), (ad 5, .inl (cJ, 3, .inr (.inr (.inr (.inr (fun i => if i < 3 then some (ra i) else none)))))), (ra 0, .inl (cI, nl, .inl (S.2.2 0))), (ra 1, .inl (cI, nl, .inl (S.2.2 1))), (ra 2, .inl (cI, nl, .inl (S.2.2 2))), (ad 9, .inl (cI, nn, .inl T_1.1)), (ad 10, .inr (2, [.ref (ad 11), .ref (ad 12), .int T_1.2.1.2.2])), (ad 11, .inl (cI, nn, .inl T_1.2.1.1)), (ad 12, .inl (cZ, nn, .inl T_1.2.1.2.1)), (ad 13, .inr (2, [.ref (ad 14), .ref (ad 15), .int T_1.2.2.1.2.2])), (ad 14, .inl (cI, nn, .inl T_1.2.2.1.1)), (ad 15, .inl (cZ, nn, .inl T_1.2.2.1.2.1)), (ad 16, .inr (0, [.ref (ad 17), .int T_1.2.2.2.1.2.1, .int T_1.2.2.2.1.2.2])), (ad 17, .inl (cI, 1250, .inl T_1.2.2.2.1.1)), (ad 18, .inr (0, [.ref (ad 19), .int T_1.2.2.2.2.1.2.1, .int T_1.2.2.2.2.1.2.2])), (ad 19, .inl (cI, 1250, .inl T_1.2.2.2.2.1.1))]) (w1 := []) hP hD [] [0, 1, 2, 3, 4, 5, 6, 7, 8, 9, 10, 11, 12, 13, 14, 15, 16, 17, 18, 19] rfl rfl (by decide) (by decide) hk1 hFc hP1 hD1
      generalize H1 = H at hP hS ⊢
      have hP := hP.sub (ws' := wTT cI cZ cJ nl nn ad ra S T_1) [0, 1, 2, 3, 4, 5, 6, 7, 8, 9, 10, 11, 12, 13, 14, 15, 16, 17, 18, 19] rfl
      have hD := hD.sub (ws' := wTT cI cZ cJ nl nn ad ra S T_1) [0, 1, 2, 3, 4, 5, 6, 7, 8, 9, 10, 11, 12, 13, 14, 15, 16, 17, 18, 19] (by decide) rfl
      refine lv_aload_n hx hb dX3_decode_11 rfl (lv_at hl 0 rfl) ?_
      refine lv_iload_n hx hb dX3_decode_12 rfl (lv_at hl 1 rfl) ?_
      refine lv_iload_n hx hb dX3_decode_13 rfl (lv_at hl 2 rfl) ?_
      refine lv_iload_n hx hb dX3_decode_14 rfl (lv_at hl 3 rfl) ?_
      have hPc := hP
      have hDc := hD
      have hFc := va_free (wc := wTT cI cZ cJ nl nn ad ra S T_1) hD hS hA [0, 1, 2, 3, 4, 5, 6, 7, 8, 9, 10, 11, 12, 13, 14, 15, 16, 17, 18, 19] rfl
      refine va_calli (va_runV (As := [.int x1, .int x2, .int x3]) (rest := []) ⟨hx, hb, hml, hown, hT⟩ (met_X3_learnLeaf l dC dI cI cZ cJ cL ad ra H.size _ nl nn S T_1 x1 x2 x3 hw) (cwV 3 hT (gV k_154 k_156 k_157 k_57 k_155) rfl rfl rfl (by decide +kernel) ⟨(Nat.le_of_ble_eq_true rfl), (Nat.le_of_ble_eq_true rfl)⟩) ⟨bl_W, va_recv hK hPc (ci := 3) (q0 := 0) rfl rfl, fun U hU hW => ⟨rfl, by rw [hU], by rw [hU]; exact hPc, va_K.moved hW.alike hK, hDc.weaken (fun _ _ _ _ => trivial)⟩⟩ rfl rfl hl.1 rfl (lv_room (Nat.le_of_ble_eq_true rfl)) dX3_decode_15 ⟨Nat.le_of_ble_eq_true rfl, Nat.le_of_ble_eq_true rfl⟩) hS (fun q _ h => hFc q h) hFc (fun r_3 T_4 t H1 locs ht hvm hw hB hz1 hk1 hS => ?_)
      obtain ⟨hP1, -, hD1⟩ := hB
      try dsimp only at hw
      rw [ht] at hP1
      obtain ⟨hP, hD⟩ := va_join (wr := []) (w1 := wTT cI cZ cJ nl nn ad ra S T_4) hP hD [0, 1, 2, 3, 4, 5, 6, 7, 8, 9, 10, 11, 12, 13, 14, 15, 16, 17, 18, 19] [] rfl rfl (by decide) (by decide) hk1 hFc hP1 hD1
      generalize H1 = H at hP hS ⊢
      have hP := hP.sub (ws' := wTT cI cZ cJ nl nn ad ra S T_4) [0, 1, 2, 3, 4, 5, 6, 7, 8, 9, 10, 11, 12, 13, 14, 15, 16, 17, 18, 19] rfl
      have hD := hD.sub (ws' := wTT cI cZ cJ nl nn ad ra S T_4) [0, 1, 2, 3, 4, 5, 6, 7, 8, 9, 10, 11, 12, 13, 14, 15, 16, 17, 18, 19] (by decide) rfl
      refine lv_if_ne (tgt := 24) hx hb dX3_decode_18 (by decide) (fun c_5 => ?_) (fun c_5 => ?_)
      · have hw := hw.2 c_5
        refine lv_aload_n hx hb dX3_decode_24 rfl (lv_at hl 0 rfl) ?_
        refine va_get (D := (dC, dI)) (ci := 3) (v := .ref (ad 1)) (C := RX3) (T := TX3) (N := 7) hx hb hT inX3 hown hK hP 0 rfl rfl 0 (by decide) (hT _ k_17) (fun _ h9 => h9) rfl dX3_decode_25 ?_
        refine lv_iconst (v := 0) hx hb dX3_decode_28 (by decide) ?_
        refine lv_iload_n hx hb dX3_decode_29 rfl (lv_at hl 1 rfl) ?_
        refine lv_iload_n hx hb dX3_decode_30 rfl (lv_at hl 2 rfl) ?_
        have hPc := hP.sub (ws' := wSH cI cJ nl (ad 1) (ad 2) (ad 3) (ad 4) (ad 5) ra S) [1, 2, 3, 4, 5, 6, 7, 8] rfl
        refine vp_callSi (W.runV (As := [.int 0, .int x1, .int x2]) (rest := []) ⟨hx, hb, hml, hown, hT⟩ (met_X1_nodeAt l dC dI cI cZ cJ cL (ad 1) (ad 2) (ad 3) (ad 4) (ad 5) ra _ nl S  0 x1 x2 hw) (cwV 3 hT (gV k_45 k_47 k_48 k_43 k_46) rfl rfl rfl (by decide +kernel) ⟨(Nat.le_of_ble_eq_true rfl), (Nat.le_of_ble_eq_true rfl)⟩) ⟨bl_R, va_recv hK hPc (ci := 1) (q0 := 0) rfl rfl, fun U hU hW => ⟨rfl, by rw [hU]; exact hPc, va_K.moved hW.alike hK⟩⟩ rfl rfl hl.1 rfl (lv_room (Nat.le_of_ble_eq_true rfl)) dX3_decode_31 ⟨Nat.le_of_ble_eq_true rfl, Nat.le_of_ble_eq_true rfl⟩) (fun r_6 hw => ?_)
        try dsimp only at hw
        refine lv_istore (lv' := [(4, .int r_6), (0, .ref (ad 0)), (1, .int x1), (2, .int x2), (3, .int x3)]) hx hb dX3_decode_34 hl (by decide) rfl (fun ls hl => ?_)
        refine lv_aload_n hx hb dX3_decode_36 rfl (lv_at hl 1 rfl) ?_
        refine va_get (D := (dC, dI)) (ci := 3) (v := .ref (ad 13)) (C := RX3) (T := TX3) (N := 7) hx hb hT inX3 hown hK hP 0 rfl rfl 3 (by decide) (hT _ k_27) (fun _ h9 => h9) rfl dX3_decode_37 ?_
        refine va_get (D := (dC, dI)) (ci := 2) (v := .ref (ad 15)) (C := RX2) (T := TX2) (N := 3) hx hb hT inX2 hown hK hP 13 rfl rfl 1 (by decide) (hT _ k_28) (fun _ h9 => h9) rfl dX3_decode_40 ?_
        refine lv_iload hx hb dX3_decode_43 (lv_at hl 0 rfl) ?_
        obtain ⟨h_7, hw⟩ := hw
        refine va_zald hx hb hK hP 15 1 rfl rfl h_7 dX3_decode_45 ?_
        refine lv_if_eq (tgt := 67) hx hb dX3_decode_46 (by decide) (fun c_8 => ?_) (fun c_8 => ?_)
        · have hw := hw.1 c_8
          refine lv_iconst (v := 0) hx hb dX3_decode_67 (by decide) ?_
          exact vx_ret (W.iret (v := 0) hx hb hr (fun t ht hW => ⟨⟨0, T_4, rfl, hw, by rw [ht]; exact hP, va_K.moved hW.alike hK, hD⟩, hS.F ht⟩) hS.2.2 dX3_decode_68)
        · have hw := hw.2 c_8
          refine lv_aload_n hx hb dX3_decode_49 rfl (lv_at hl 1 rfl) ?_
          refine va_get (D := (dC, dI)) (ci := 3) (v := .ref (ad 13)) (C := RX3) (T := TX3) (N := 7) hx hb hT inX3 hown hK hP 0 rfl rfl 3 (by decide) (hT _ k_27) (fun _ h9 => h9) rfl dX3_decode_50 ?_
          refine va_get (D := (dC, dI)) (ci := 2) (v := .ref (ad 14)) (C := RX2) (T := TX2) (N := 3) hx hb hT inX2 hown hK hP 13 rfl rfl 0 (by decide) (hT _ k_68) (fun _ h9 => h9) rfl dX3_decode_53 ?_
          refine lv_iload hx hb dX3_decode_56 (lv_at hl 0 rfl) ?_
          obtain ⟨h_9, hw⟩ := hw
          refine va_iald hx hb hK hP 14 0 rfl rfl h_9 dX3_decode_58 ?_
          refine lv_iload_n hx hb dX3_decode_59 rfl (lv_at hl 4 rfl) ?_
          refine lv_icmp_ge (tgt := 67) hx hb dX3_decode_60 (by decide) (fun c_10 => ?_) (fun c_10 => ?_)
          · have hw := hw.1 c_10
            refine lv_iconst (v := 0) hx hb dX3_decode_67 (by decide) ?_
            exact vx_ret (W.iret (v := 0) hx hb hr (fun t ht hW => ⟨⟨0, T_4, rfl, hw, by rw [ht]; exact hP, va_K.moved hW.alike hK, hD⟩, hS.F ht⟩) hS.2.2 dX3_decode_68)
          · have hw := hw.2 c_10
            refine lv_iconst (v := 1) hx hb dX3_decode_63 (by decide) ?_
            refine lv_goto (tgt := 68) hx hb dX3_decode_64 (by decide) ?_
            exact vx_ret (W.iret (v := 1) hx hb hr (fun t ht hW => ⟨⟨1, T_4, rfl, hw, by rw [ht]; exact hP, va_K.moved hW.alike hK, hD⟩, hS.F ht⟩) hS.2.2 dX3_decode_68)
      · have hw := hw.1 c_5
        refine lv_bipush (v := (-2)) hx hb dX3_decode_21 (by decide) ?_
        exact vx_ret (W.iret (v := (-2)) hx hb hr (fun t ht hW => ⟨⟨(-2), T_4, rfl, hw, by rw [ht]; exact hP, va_K.moved hW.alike hK, hD⟩, hS.F ht⟩) hS.2.2 dX3_decode_23)
def wp_X3_decodeAll_L10 (post : Int32 → vTT → Prop) (px : String → vTT → Prop) (ex10 : vTT → Int32 → Prop) (nl : Nat) (nn : Nat) (S : vSH) (x1 : Int32) (x2 : Int32) : Nat → vTT → Int32 → Prop
  | 0, _, _ => False
  | n_5 + 1, T_3, x3_4 => ((S.1.2.2.1 ≤ x3_4 → (ex10 T_3 x3_4)) ∧ (¬ S.1.2.2.1 ≤ x3_4 → (wp_X1_leafX (fun r_7 => wp_X1_leafY (fun r_8 => wp_X3_learnLeaf (fun r_9 T_10 => ((r_9 = 0 → (post x3_4 T_10)) ∧ (¬ r_9 = 0 → (∀ x3_12 : Int32, x3_12 = x3_4 + 1 → (wp_X3_decodeAll_L10 post px ex10 nl nn S x1 x2 n_5 T_10 x3_12))))) nl nn S T_3 r_7 r_8 x2) nl S  x1 x3_4) nl S  x1 x3_4)))
def wp_X3_decodeAll (post : Int32 → vTT → Prop) (px : String → vTT → Prop) (nl : Nat) (nn : Nat) (S : vSH) (T : vTT) (x1 : Int32) (x2 : Int32) : Prop := wp_X3_checkOrder (fun N_1 => wp_X3_checkThreshold (fun N_2 => ∃ n_5 : Nat, wp_X3_decodeAll_L10 post px (fun (T_3 : vTT) (x3_4 : Int32) => post S.1.2.2.1 T_3) nl nn S x1 x2 n_5 T 0) (fun E N_2 => px E T)   x2) (fun E N_1 => px E T)   x1
abbrev rm_X3_decodeAll : Room := { frames := 7, cells := 2, slots := 12, locals := 102 }
set_option maxHeartbeats 4000000 in
set_option maxRecDepth 100000 in
theorem met_X3_decodeAll (l : Launch) (hl9 : l.stackTraces = false) (dC : Nat → ClassId) (dI : Nat → Nat → Nat) (cI cZ cJ cL : ClassId) (sa : Nat → Nat) (ad ra : Nat → Nat) (sz : Nat) (post : Int32 → vTT → Prop) (px : String → vTT → Prop) (nl : Nat) (nn : Nat) (S : vSH) (T : vTT) (x1 : Int32) (x2 : Int32) (hw : wp_X3_decodeAll post px nl nn S T x1 x2) : vx_Met l yX3_decodeAll wsX3_decodeAll rm_X3_decodeAll (pcX (dC, dI) (tysA cI cZ cJ cL) sa (wTT cI cZ cJ nl nn ad ra S T) sz [.ref (ad 0), .int x1, .int x2]) (va_Qi post (fun u t => qB (dC, dI) (tysA cI cZ cJ cL) (va_A (wTT cI cZ cJ nl nn ad ra S T) sz) (wTT cI cZ cJ nl nn ad ra S u) t) (va_A (wTT cI cZ cJ nl nn ad ra S T) sz)) (vx_X (fun u : String × vTT => px u.1 u.2) (fun E u t => E = u.1 ∧ qB (dC, dI) (tysA cI cZ cJ cL) (va_A (wTT cI cZ cJ nl nn ad ra S T) sz) (wTT cI cZ cJ nl nn ad ra S u.2) t) (va_A (wTT cI cZ cJ nl nn ad ra S T) sz)) 2 12 (va_A (wTT cI cZ cJ nl nn ad ra S T) sz) := by
  refine vx_ofW (cc := cX3_decodeAll) (maxL := 4) (ret := (some .int)) (by decide) rfl ?_
  intro p e s m args below meth c s₁ Bd hml hno hv
  obtain ⟨hargs, hsz, hP, hK, hD0, hZ⟩ := hv
  have hx := Bd.exec
  have hb := Bd.bytes
  have hr := Bd.returns
  have hts := atoms_spec (ws := wsX3_decodeAll) Bd.pre
  have hT : ∀ w ∈ WALL, w.before args s = true := fun w h => hts w (List.mem_cons_of_mem _ h)
  have hown : s.vm.findClass RX3 = some m.cls := findClass_of_methodNamed Bd.named
  have hlocks := Bd.notSynchronized
  subst hsz
  have hD := hD0.self (sz := s.heap.size)
  generalize hAe : va_A (wTT cI cZ cJ nl nn ad ra S T) s.heap.size = A at hD ⊢
  have hA : ∀ q : Nat, s.heap.size ≤ q → A q := fun q h => by rw [← hAe]; exact Or.inr h
  have hS : va_S A s.heap s.heap [] := va_S.rf
  rw [hAe] at hZ
  have hP : va_P (dC, dI) vwCl (wTT cI cZ cJ nl nn ad ra S T) s.heap := hP
  have hl := lv_entry ([.ref (ad 0), .int x1, .int x2]) (n := 4) (Nat.le_of_ble_eq_true rfl)
  rw [show entryFrame m args 4 = F0 m 0 _ [] from by rw [hargs]; exact lg_entry_eq m ([.ref (ad 0), .int x1, .int x2]) 4]
  generalize (lg_sl ([.ref (ad 0), .int x1, .int x2]) ++ List.replicate (4 - (lg_sl ([.ref (ad 0), .int x1, .int x2])).length) Slot.unset).toArray = ls at hl ⊢
  have hl : lv_has ls 4 [(0, .ref (ad 0)), (1, .int x1), (2, .int x2)] := hl
  obtain ⟨H, hH⟩ : ∃ z : Heap, z = s.heap := ⟨_, rfl⟩
  obtain ⟨locs, hlocs⟩ : ∃ z : List Loc, z = [] := ⟨_, rfl⟩
  rw [show W p l e (headSpec wsX3_decodeAll rm_X3_decodeAll).room s m args below meth c s.heap [] 0 0 = W p l e (headSpec wsX3_decodeAll rm_X3_decodeAll).room s m args below meth c H locs 0 0 from by rw [hH, hlocs]]
  have hP : va_P (dC, dI) vwCl (wTT cI cZ cJ nl nn ad ra S T) H := by rw [hH]; exact hP
  have hS : va_S A s.heap H locs := by rw [hH, hlocs]; exact hS
  unfold wp_X3_decodeAll at hw
  refine lv_iload_n hx hb dX3_decodeAll_0 rfl (lv_at hl 1 rfl) ?_
  have hPc : va_P (dC, dI) vwCl [] H := hP.sub (ws' := []) [] rfl
  have hDc : va_D A [] := hD.sub (ws' := []) [] (by decide) rfl
  have hFc := va_free (wc := []) hD hS hA [] rfl
  refine vx_callv (vx_runS (As := [.int x1]) (rest := []) ⟨hx, hb, hml, hown, hT⟩ (met_X3_checkOrder l hl9 dC dI cI cZ cJ cL sa  H.size _ _   x1 hw) (va_cwS 1 hT (gS k_111 k_113 k_57 k_112) rfl rfl rfl (by decide +kernel) ⟨(Nat.le_of_ble_eq_true rfl), (Nat.le_of_ble_eq_true rfl)⟩) ⟨bl_X, fun U hU hW => ⟨rfl, by rw [hU], by rw [hU]; exact hPc, va_K.moved hW.alike hK, hDc.weaken (fun _ _ _ _ => trivial), hZ.call hW hU hS hFc⟩⟩ rfl rfl hl.1 rfl (lv_room (Nat.le_of_ble_eq_true rfl)) dX3_decodeAll_1 ⟨Nat.le_of_ble_eq_true rfl, Nat.le_of_ble_eq_true rfl⟩) hS (fun q _ h => hFc q h) hFc (fun q _ h => hFc q h) (fun E ce q9 u9 t H1 locs ht hvm hw hB hz1 hk1 hS hce hcv hcl => ?_) (fun N_1 t H1 locs ht hvm hw hB hz1 hk1 hS => ?_)
  · obtain ⟨E9, N_1⟩ := u9
    obtain ⟨rfl, hP1, -, hD1⟩ := hB
    try dsimp only at hw
    rw [ht] at hP1
    obtain ⟨hP, hD⟩ := va_join (wr := [(ad 0, .inr (3, [.ref (ad 1), .ref (ad 9), .ref (ad 10), .ref (ad 13), .ref (ad 16), .ref (ad 18), .int T.2.2.2.2.2])), (ad 1, .inr (1, [.int S.1.1, .int S.1.2.1, .int S.1.2.2.1, .int S.1.2.2.2.1, .int S.1.2.2.2.2, .ref (ad 2), .ref (ad 3), .ref (ad 4), .ref (ad 5)])), (ad 2, .inl (cI, 6, .inl S.2.1.1)), (ad 3, .inl (cI, 6, .inl S.2.1.2.1)), (ad 4, .inl (cI, 6, .inl S.2.1.2.2)), (ad 5, .inl (cJ, 3, .inr (.inr (.inr (.inr (fun i => if i < 3 then some (ra i) else none)))))), (ra 0, .inl (cI, nl, .inl (S.2.2 0))), (ra 1, .inl (cI, nl, .inl (S.2.2 1))), (ra 2, .inl (cI, nl, .inl (S.2.2 2))), (ad 9, .inl (cI, nn, .inl T.1)), (ad 10, .inr (2, [.ref (ad 11), .ref (ad 12), .int T.2.1.2.2])), (ad 11, .inl (cI, nn, .inl T.2.1.1)), (ad 12, .inl (cZ, nn, .inl T.2.1.2.1)), (ad 13, .inr (2, [.ref (ad 14), .ref (ad 15), .int T.2.2.1.2.2])), (ad 14, .inl (cI, nn, .inl T.2.2.1.1)), (ad 15, .inl (cZ, nn, .inl T.2.2.1.2.1)), (ad 16, .inr (0, [.ref (ad 17), .int T.2.2.2.1.2.1, .int T.2.2.2.1.2.2])), (ad 17, .inl (cI, 1250, .inl T.2.2.2.1.1)), (ad 18, .inr (0, [.ref (ad 19), .int T.2.2.2.2.1.2.1, .int T.2.2.2.2.1.2.2])), (ad 19, .inl (cI, 1250, .inl T.2.2.2.2.1.1))]) (w1 := []) hP hD [] [0, 1, 2, 3, 4, 5, 6, 7, 8, 9, 10, 11, 12, 13, 14, 15, 16, 17, 18, 19] rfl rfl (by decide) (by decide) hk1 hFc hP1 hD1
    generalize H1 = H at hP hS hce ⊢
    have hP := hP.sub (ws' := wTT cI cZ cJ nl nn ad ra S T) [0, 1, 2, 3, 4, 5, 6, 7, 8, 9, 10, 11, 12, 13, 14, 15, 16, 17, 18, 19] rfl
    have hD := hD.sub (ws' := wTT cI cZ cJ nl nn ad ra S T) [0, 1, 2, 3, 4, 5, 6, 7, 8, 9, 10, 11, 12, 13, 14, 15, 16, 17, 18, 19] (by decide) rfl
    exact vx_out (fun x h => (hno x h).elim) hlocks hce hcv hcl (fun t ht ha => ⟨(E, T), hw, ⟨rfl, by rw [ht]; exact hP, va_K.moved ha hK, hD⟩, hS.F ht⟩) hS.2.2 (Nat.le_of_ble_eq_true rfl) (Nat.le_of_ble_eq_true rfl)
  · obtain ⟨hP1, -, hD1⟩ := hB
    try dsimp only at hw
    rw [ht] at hP1
    obtain ⟨hP, hD⟩ := va_join (wr := [(ad 0, .inr (3, [.ref (ad 1), .ref (ad 9), .ref (ad 10), .ref (ad 13), .ref (ad 16), .ref (ad 18), .int T.2.2.2.2.2])), (ad 1, .inr (1, [.int S.1.1, .int S.1.2.1, .int S.1.2.2.1, .int S.1.2.2.2.1, .int S.1.2.2.2.2, .ref (ad 2), .ref (ad 3), .ref (ad 4), .ref (ad 5)])), (ad 2, .inl (cI, 6, .inl S.2.1.1)), (ad 3, .inl (cI, 6, .inl S.2.1.2.1)), (ad 4, .inl (cI, 6, .inl S.2.1.2.2)), (ad 5, .inl (cJ, 3, .inr (.inr (.inr (.inr (fun i => if i < 3 then some (ra i) else none)))))), (ra 0, .inl (cI, nl, .inl (S.2.2 0))), (ra 1, .inl (cI, nl, .inl (S.2.2 1))), (ra 2, .inl (cI, nl, .inl (S.2.2 2))), (ad 9, .inl (cI, nn, .inl T.1)), (ad 10, .inr (2, [.ref (ad 11), .ref (ad 12), .int T.2.1.2.2])), (ad 11, .inl (cI, nn, .inl T.2.1.1)), (ad 12, .inl (cZ, nn, .inl T.2.1.2.1)), (ad 13, .inr (2, [.ref (ad 14), .ref (ad 15), .int T.2.2.1.2.2])), (ad 14, .inl (cI, nn, .inl T.2.2.1.1)), (ad 15, .inl (cZ, nn, .inl T.2.2.1.2.1)), (ad 16, .inr (0, [.ref (ad 17), .int T.2.2.2.1.2.1, .int T.2.2.2.1.2.2])), (ad 17, .inl (cI, 1250, .inl T.2.2.2.1.1)), (ad 18, .inr (0, [.ref (ad 19), .int T.2.2.2.2.1.2.1, .int T.2.2.2.2.1.2.2])), (ad 19, .inl (cI, 1250, .inl T.2.2.2.2.1.1))]) (w1 := []) hP hD [] [0, 1, 2, 3, 4, 5, 6, 7, 8, 9, 10, 11, 12, 13, 14, 15, 16, 17, 18, 19] rfl rfl (by decide) (by decide) hk1 hFc hP1 hD1
    generalize H1 = H at hP hS ⊢
    have hP := hP.sub (ws' := wTT cI cZ cJ nl nn ad ra S T) [0, 1, 2, 3, 4, 5, 6, 7, 8, 9, 10, 11, 12, 13, 14, 15, 16, 17, 18, 19] rfl
    have hD := hD.sub (ws' := wTT cI cZ cJ nl nn ad ra S T) [0, 1, 2, 3, 4, 5, 6, 7, 8, 9, 10, 11, 12, 13, 14, 15, 16, 17, 18, 19] (by decide) rfl
    refine lv_iload_n hx hb dX3_decodeAll_4 rfl (lv_at hl 2 rfl) ?_
    have hPc : va_P (dC, dI) vwCl [] H := hP.sub (ws' := []) [] rfl
    have hDc : va_D A [] := hD.sub (ws' := []) [] (by decide) rfl
    have hFc := va_free (wc := []) hD hS hA [] rfl
    refine vx_callv (vx_runS (As := [.int x2]) (rest := []) ⟨hx, hb, hml, hown, hT⟩ (met_X3_checkThreshold l hl9 dC dI cI cZ cJ cL sa  H.size _ _   x2 hw) (va_cwS 1 hT (gS k_143 k_145 k_57 k_144) rfl rfl rfl (by decide +kernel) ⟨(Nat.le_of_ble_eq_true rfl), (Nat.le_of_ble_eq_true rfl)⟩) ⟨bl_X, fun U hU hW => ⟨rfl, by rw [hU], by rw [hU]; exact hPc, va_K.moved hW.alike hK, hDc.weaken (fun _ _ _ _ => trivial), hZ.call hW hU hS hFc⟩⟩ rfl rfl hl.1 rfl (lv_room (Nat.le_of_ble_eq_true rfl)) dX3_decodeAll_5 ⟨Nat.le_of_ble_eq_true rfl, Nat.le_of_ble_eq_true rfl⟩) hS (fun q _ h => hFc q h) hFc (fun q _ h => hFc q h) (fun E ce q9 u9 t H1 locs ht hvm hw hB hz1 hk1 hS hce hcv hcl => ?_) (fun N_2 t H1 locs ht hvm hw hB hz1 hk1 hS => ?_)
    · obtain ⟨E9, N_2⟩ := u9
      obtain ⟨rfl, hP1, -, hD1⟩ := hB
      try dsimp only at hw
      rw [ht] at hP1
      obtain ⟨hP, hD⟩ := va_join (wr := [(ad 0, .inr (3, [.ref (ad 1), .ref (ad 9), .ref (ad 10), .ref (ad 13), .ref (ad 16), .ref (ad 18), .int T.2.2.2.2.2])), (ad 1, .inr (1, [.int S.1.1, .int S.1.2.1, .int S.1.2.2.1, .int S.1.2.2.2.1, .int S.1.2.2.2.2, .ref (ad 2), .ref (ad 3), .ref (ad 4), .ref (ad 5)])), (ad 2, .inl (cI, 6, .inl S.2.1.1)), (ad 3, .inl (cI, 6, .inl S.2.1.2.1)), (ad 4, .inl (cI, 6, .inl S.2.1.2.2)), (ad 5, .inl (cJ, 3, .inr (.inr (.inr (.inr (fun i => if i < 3 then some (ra i) else none)))))), (ra 0, .inl (cI, nl, .inl (S.2.2 0))), (ra 1, .inl (cI, nl, .inl (S.2.2 1))), (ra 2, .inl (cI, nl, .inl (S.2.2 2))), (ad 9, .inl (cI, nn, .inl T.1)), (ad 10, .inr (2, [.ref (ad 11), .ref (ad 12), .int T.2.1.2.2])), (ad 11, .inl (cI, nn, .inl T.2.1.1)), (ad 12, .inl (cZ, nn, .inl T.2.1.2.1)), (ad 13, .inr (2, [.ref (ad 14), .ref (ad 15), .int T.2.2.1.2.2])), (ad 14, .inl (cI, nn, .inl T.2.2.1.1)), (ad 15, .inl (cZ, nn, .inl T.2.2.1.2.1)), (ad 16, .inr (0, [.ref (ad 17), .int T.2.2.2.1.2.1, .int T.2.2.2.1.2.2])), (ad 17, .inl (cI, 1250, .inl T.2.2.2.1.1)), (ad 18, .inr (0, [.ref (ad 19), .int T.2.2.2.2.1.2.1, .int T.2.2.2.2.1.2.2])), (ad 19, .inl (cI, 1250, .inl T.2.2.2.2.1.1))]) (w1 := []) hP hD [] [0, 1, 2, 3, 4, 5, 6, 7, 8, 9, 10, 11, 12, 13, 14, 15, 16, 17, 18, 19] rfl rfl (by decide) (by decide) hk1 hFc hP1 hD1
      generalize H1 = H at hP hS hce ⊢
      have hP := hP.sub (ws' := wTT cI cZ cJ nl nn ad ra S T) [0, 1, 2, 3, 4, 5, 6, 7, 8, 9, 10, 11, 12, 13, 14, 15, 16, 17, 18, 19] rfl
      have hD := hD.sub (ws' := wTT cI cZ cJ nl nn ad ra S T) [0, 1, 2, 3, 4, 5, 6, 7, 8, 9, 10, 11, 12, 13, 14, 15, 16, 17, 18, 19] (by decide) rfl
      exact vx_out (fun x h => (hno x h).elim) hlocks hce hcv hcl (fun t ht ha => ⟨(E, T), hw, ⟨rfl, by rw [ht]; exact hP, va_K.moved ha hK, hD⟩, hS.F ht⟩) hS.2.2 (Nat.le_of_ble_eq_true rfl) (Nat.le_of_ble_eq_true rfl)
    · obtain ⟨hP1, -, hD1⟩ := hB
      try dsimp only at hw
      rw [ht] at hP1
      obtain ⟨hP, hD⟩ := va_join (wr := [(ad 0, .inr (3, [.ref (ad 1), .ref (ad 9), .ref (ad 10), .ref (ad 13), .ref (ad 16), .ref (ad 18), .int T.2.2.2.2.2])), (ad 1, .inr (1, [.int S.1.1, .int S.1.2.1, .int S.1.2.2.1, .int S.1.2.2.2.1, .int S.1.2.2.2.2, .ref (ad 2), .ref (ad 3), .ref (ad 4), .ref (ad 5)])), (ad 2, .inl (cI, 6, .inl S.2.1.1)), (ad 3, .inl (cI, 6, .inl S.2.1.2.1)), (ad 4, .inl (cI, 6, .inl S.2.1.2.2)), (ad 5, .inl (cJ, 3, .inr (.inr (.inr (.inr (fun i => if i < 3 then some (ra i) else none)))))), (ra 0, .inl (cI, nl, .inl (S.2.2 0))), (ra 1, .inl (cI, nl, .inl (S.2.2 1))), (ra 2, .inl (cI, nl, .inl (S.2.2 2))), (ad 9, .inl (cI, nn, .inl T.1)), (ad 10, .inr (2, [.ref (ad 11), .ref (ad 12), .int T.2.1.2.2])), (ad 11, .inl (cI, nn, .inl T.2.1.1)), (ad 12, .inl (cZ, nn, .inl T.2.1.2.1)), (ad 13, .inr (2, [.ref (ad 14), .ref (ad 15), .int T.2.2.1.2.2])), (ad 14, .inl (cI, nn, .inl T.2.2.1.1)), (ad 15, .inl (cZ, nn, .inl T.2.2.1.2.1)), (ad 16, .inr (0, [.ref (ad 17), .int T.2.2.2.1.2.1, .int T.2.2.2.1.2.2])), (ad 17, .inl (cI, 1250, .inl T.2.2.2.1.1)), (ad 18, .inr (0, [.ref (ad 19), .int T.2.2.2.2.1.2.1, .int T.2.2.2.2.1.2.2])), (ad 19, .inl (cI, 1250, .inl T.2.2.2.2.1.1))]) (w1 := []) hP hD [] [0, 1, 2, 3, 4, 5, 6, 7, 8, 9, 10, 11, 12, 13, 14, 15, 16, 17, 18, 19] rfl rfl (by decide) (by decide) hk1 hFc hP1 hD1
      generalize H1 = H at hP hS ⊢
      have hP := hP.sub (ws' := wTT cI cZ cJ nl nn ad ra S T) [0, 1, 2, 3, 4, 5, 6, 7, 8, 9, 10, 11, 12, 13, 14, 15, 16, 17, 18, 19] rfl
      have hD := hD.sub (ws' := wTT cI cZ cJ nl nn ad ra S T) [0, 1, 2, 3, 4, 5, 6, 7, 8, 9, 10, 11, 12, 13, 14, 15, 16, 17, 18, 19] (by decide) rfl
      refine lv_iconst (v := 0) hx hb dX3_decodeAll_8 (by decide) ?_
      refine lv_istore_n (lv' := [(3, .int 0), (0, .ref (ad 0)), (1, .int x1), (2, .int x2)]) hx hb dX3_decodeAll_9 rfl hl (by decide) rfl (fun ls hl => ?_)
      obtain ⟨n_5, hw⟩ := hw
      obtain ⟨ex10, eex10⟩ : ∃ z : vTT → Int32 → Prop, z = (fun (T_3 : vTT) (x3_4 : Int32) => post S.1.2.2.1 T_3) := ⟨_, rfl⟩
      rw [← eex10] at hw
      have hx10 : ∀ (T_3 : vTT) (x3_4 : Int32), ex10 T_3 x3_4 → ∀ (H : Heap) (locs : List Loc) (ls : Array Slot), va_P (dC, dI) vwCl (wTT cI cZ cJ nl nn ad ra S T_3) H → va_D A (wTT cI cZ cJ nl nn ad ra S T_3) → va_S A s.heap H locs → lv_has ls 4 [(3, .int x3_4), (0, .ref (ad 0)), (1, .int x1), (2, .int x2)] → W p l e (headSpec wsX3_decodeAll rm_X3_decodeAll).room s m args below meth c H locs 2 12 (vx_MQ below (va_Qi post (fun u t => qB (dC, dI) (tysA cI cZ cJ cL) A (wTT cI cZ cJ nl nn ad ra S u) t) A) (vx_X (fun u : String × vTT => px u.1 u.2) (fun E u t => E = u.1 ∧ qB (dC, dI) (tysA cI cZ cJ cL) A (wTT cI cZ cJ nl nn ad ra S u.2) t) A) args s 2 12 A) (F0 m 55 ls []) := by
        intro T_3 x3_4 hw H locs ls hP hD hS hl
        rw [eex10] at hw
        try dsimp only at hw
        refine lv_aload_n hx hb dX3_decodeAll_55 rfl (lv_at hl 1 rfl) ?_
        refine va_get (D := (dC, dI)) (ci := 3) (v := .ref (ad 1)) (C := RX3) (T := TX3) (N := 7) hx hb hT inX3 hown hK hP 0 rfl rfl 0 (by decide) (hT _ k_17) (fun _ h9 => h9) rfl dX3_decodeAll_56 ?_
        refine va_get (D := (dC, dI)) (ci := 1) (v := .int S.1.2.2.1) (C := RX1) (T := TX1) (N := 9) hx hb hT inX1 hown hK hP 1 rfl rfl 2 (by decide) (hT _ k_116) (fun _ h9 => h9) rfl dX3_decodeAll_59 ?_
        exact vx_ret (W.iret (v := S.1.2.2.1) hx hb hr (fun t ht hW => ⟨⟨S.1.2.2.1, T_3, rfl, hw, by rw [ht]; exact hP, va_K.moved hW.alike hK, hD⟩, hS.F ht⟩) hS.2.2 dX3_decodeAll_62)
      have hlp10 : ∀ (n_5 : Nat) (T_3 : vTT) (x3_4 : Int32), wp_X3_decodeAll_L10 post px ex10 nl nn S x1 x2 n_5 T_3 x3_4 → ∀ (H : Heap) (locs : List Loc) (ls : Array Slot), va_P (dC, dI) vwCl (wTT cI cZ cJ nl nn ad ra S T_3) H → va_D A (wTT cI cZ cJ nl nn ad ra S T_3) → va_S A s.heap H locs → lv_has ls 4 [(3, .int x3_4), (0, .ref (ad 0)), (1, .int x1), (2, .int x2)] → W p l e (headSpec wsX3_decodeAll rm_X3_decodeAll).room s m args below meth c H locs 2 12 (vx_MQ below (va_Qi post (fun u t => qB (dC, dI) (tysA cI cZ cJ cL) A (wTT cI cZ cJ nl nn ad ra S u) t) A) (vx_X (fun u : String × vTT => px u.1 u.2) (fun E u t => E = u.1 ∧ qB (dC, dI) (tysA cI cZ cJ cL) A (wTT cI cZ cJ nl nn ad ra S u.2) t) A) args s 2 12 A) (F0 m 10 ls []) := by
        intro n_5
        induction n_5 with
        | zero => intro _ _ hw; exact hw.elim
        | succ n_5 ih10 =>
          intro T_3 x3_4 hw H locs ls hP hD hS hl
          unfold wp_X3_decodeAll_L10 at hw
          refine lv_iload_n hx hb dX3_decodeAll_10 rfl (lv_at hl 0 rfl) ?_
          refine lv_aload_n hx hb dX3_decodeAll_11 rfl (lv_at hl 1 rfl) ?_
          refine va_get (D := (dC, dI)) (ci := 3) (v := .ref (ad 1)) (C := RX3) (T := TX3) (N := 7) hx hb hT inX3 hown hK hP 0 rfl rfl 0 (by decide) (hT _ k_17) (fun _ h9 => h9) rfl dX3_decodeAll_12 ?_
          refine va_get (D := (dC, dI)) (ci := 1) (v := .int S.1.2.2.1) (C := RX1) (T := TX1) (N := 9) hx hb hT inX1 hown hK hP 1 rfl rfl 2 (by decide) (hT _ k_116) (fun _ h9 => h9) rfl dX3_decodeAll_15 ?_
          refine lv_icmp_ge (tgt := 55) hx hb dX3_decodeAll_18 (by decide) (fun c_6 => ?_) (fun c_6 => ?_)
          · have hw := hw.1 c_6
            exact hx10 T_3 x3_4 hw _ _ _ hP hD hS (lv_sub hl [0, 1, 2, 3] rfl)
          · have hw := hw.2 c_6
            refine lv_aload_n hx hb dX3_decodeAll_21 rfl (lv_at hl 1 rfl) ?_
            refine lv_aload_n hx hb dX3_decodeAll_22 rfl (lv_at hl 1 rfl) ?_
            refine va_get (D := (dC, dI)) (ci := 3) (v := .ref (ad 1)) (C := RX3) (T := TX3) (N := 7) hx hb hT inX3 hown hK hP 0 rfl rfl 0 (by decide) (hT _ k_17) (fun _ h9 => h9) rfl dX3_decodeAll_23 ?_
            refine lv_iload_n hx hb dX3_decodeAll_26 rfl (lv_at hl 2 rfl) ?_
            refine lv_iload_n hx hb dX3_decodeAll_27 rfl (lv_at hl 0 rfl) ?_
            have hPc := hP.sub (ws' := wSH cI cJ nl (ad 1) (ad 2) (ad 3) (ad 4) (ad 5) ra S) [1, 2, 3, 4, 5, 6, 7, 8] rfl
            refine vp_callSi (W.runV (As := [.int x1, .int x3_4]) (rest := [.ref (ad 0)]) ⟨hx, hb, hml, hown, hT⟩ (met_X1_leafX l dC dI cI cZ cJ cL (ad 1) (ad 2) (ad 3) (ad 4) (ad 5) ra _ nl S  x1 x3_4 hw) (cwV 2 hT (gV k_117 k_119 k_120 k_43 k_118) rfl rfl rfl (by decide +kernel) ⟨(Nat.le_of_ble_eq_true rfl), (Nat.le_of_ble_eq_true rfl)⟩) ⟨bl_R, va_recv hK hPc (ci := 1) (q0 := 0) rfl rfl, fun U hU hW => ⟨rfl, by rw [hU]; exact hPc, va_K.moved hW.alike hK⟩⟩ rfl rfl hl.1 rfl (lv_room (Nat.le_of_ble_eq_true rfl)) dX3_decodeAll_28 ⟨Nat.le_of_ble_eq_true rfl, Nat.le_of_ble_eq_true rfl⟩) (fun r_7 hw => ?_)
            try dsimp only at hw
            refine lv_aload_n hx hb dX3_decodeAll_31 rfl (lv_at hl 1 rfl) ?_
            refine va_get (D := (dC, dI)) (ci := 3) (v := .ref (ad 1)) (C := RX3) (T := TX3) (N := 7) hx hb hT inX3 hown hK hP 0 rfl rfl 0 (by decide) (hT _ k_17) (fun _ h9 => h9) rfl dX3_decodeAll_32 ?_
            refine lv_iload_n hx hb dX3_decodeAll_35 rfl (lv_at hl 2 rfl) ?_
            refine lv_iload_n hx hb dX3_decodeAll_36 rfl (lv_at hl 0 rfl) ?_
            have hPc := hP.sub (ws' := wSH cI cJ nl (ad 1) (ad 2) (ad 3) (ad 4) (ad 5) ra S) [1, 2, 3, 4, 5, 6, 7, 8] rfl
            refine vp_callSi (W.runV (As := [.int x1, .int x3_4]) (rest := [.int r_7, .ref (ad 0)]) ⟨hx, hb, hml, hown, hT⟩ (met_X1_leafY l dC dI cI cZ cJ cL (ad 1) (ad 2) (ad 3) (ad 4) (ad 5) ra _ nl S  x1 x3_4 hw) (cwV 2 hT (gV k_121 k_123 k_124 k_43 k_122) rfl rfl rfl (by decide +kernel) ⟨(Nat.le_of_ble_eq_true rfl), (Nat.le_of_ble_eq_true rfl)⟩) ⟨bl_R, va_recv hK hPc (ci := 1) (q0 := 0) rfl rfl, fun U hU hW => ⟨rfl, by rw [hU]; exact hPc, va_K.moved hW.alike hK⟩⟩ rfl rfl hl.1 rfl (lv_room (Nat.le_of_ble_eq_true rfl)) dX3_decodeAll_37 ⟨Nat.le_of_ble_eq_true rfl, Nat.le_of_ble_eq_true rfl⟩) (fun r_8 hw => ?_)
            try dsimp only at hw
            refine lv_iload_n hx hb dX3_decodeAll_40 rfl (lv_at hl 3 rfl) ?_
            have hPc := hP
            have hDc := hD
            have hFc := va_free (wc := wTT cI cZ cJ nl nn ad ra S T_3) hD hS hA [0, 1, 2, 3, 4, 5, 6, 7, 8, 9, 10, 11, 12, 13, 14, 15, 16, 17, 18, 19] rfl
            refine va_calli (va_runV (As := [.int r_7, .int r_8, .int x2]) (rest := []) ⟨hx, hb, hml, hown, hT⟩ (met_X3_learnLeaf l dC dI cI cZ cJ cL ad ra H.size _ nl nn S T_3 r_7 r_8 x2 hw) (cwV 3 hT (gV k_154 k_156 k_157 k_57 k_155) rfl rfl rfl (by decide +kernel) ⟨(Nat.le_of_ble_eq_true rfl), (Nat.le_of_ble_eq_true rfl)⟩) ⟨bl_W, va_recv hK hPc (ci := 3) (q0 := 0) rfl rfl, fun U hU hW => ⟨rfl, by rw [hU], by rw [hU]; exact hPc, va_K.moved hW.alike hK, hDc.weaken (fun _ _ _ _ => trivial)⟩⟩ rfl rfl hl.1 rfl (lv_room (Nat.le_of_ble_eq_true rfl)) dX3_decodeAll_41 ⟨Nat.le_of_ble_eq_true rfl, Nat.le_of_ble_eq_true rfl⟩) hS (fun q _ h => hFc q h) hFc (fun r_9 T_10 t H1 locs ht hvm hw hB hz1 hk1 hS => ?_)
            obtain ⟨hP1, -, hD1⟩ := hB
            try dsimp only at hw
            rw [ht] at hP1
            obtain ⟨hP, hD⟩ := va_join (wr := []) (w1 := wTT cI cZ cJ nl nn ad ra S T_10) hP hD [0, 1, 2, 3, 4, 5, 6, 7, 8, 9, 10, 11, 12, 13, 14, 15, 16, 17, 18, 19] [] rfl rfl (by decide) (by decide) hk1 hFc hP1 hD1
            generalize H1 = H at hP hS ⊢
            have hP := hP.sub (ws' := wTT cI cZ cJ nl nn ad ra S T_10) [0, 1, 2, 3, 4, 5, 6, 7, 8, 9, 10, 11, 12, 13, 14, 15, 16, 17, 18, 19] rfl
            have hD := hD.sub (ws' := wTT cI cZ cJ nl nn ad ra S T_10) [0, 1, 2, 3, 4, 5, 6, 7, 8, 9, 10, 11, 12, 13, 14, 15, 16, 17, 18, 19] (by decide) rfl
            refine lv_if_ne (tgt := 49) hx hb dX3_decodeAll_44 (by decide) (fun c_11 => ?_) (fun c_11 => ?_)
            · have hw := hw.2 c_11
              obtain ⟨x3_12, ex3_12⟩ : ∃ y : Int32, y = x3_4 + 1 := ⟨_, rfl⟩
              have hw := hw x3_12 ex3_12
              refine lv_iinc (v := x3_12) (lv' := [(3, .int x3_12), (0, .ref (ad 0)), (1, .int x1), (2, .int x2)]) hx hb dX3_decodeAll_49 hl (k := 0) rfl (by rw [ex3_12]; rfl) (by decide) rfl (fun ls hl => ?_)
              refine lv_goto (tgt := 10) hx hb dX3_decodeAll_52 (by decide) ?_
              exact ih10 T_10 x3_12 hw _ _ _ hP hD hS (lv_sub hl [0, 1, 2, 3] rfl)
            · have hw := hw.1 c_11
              refine lv_iload_n hx hb dX3_decodeAll_47 rfl (lv_at hl 0 rfl) ?_
              exact vx_ret (W.iret (v := x3_4) hx hb hr (fun t ht hW => ⟨⟨x3_4, T_10, rfl, hw, by rw [ht]; exact hP, va_K.moved hW.alike hK, hD⟩, hS.F ht⟩) hS.2.2 dX3_decodeAll_48)
      exact hlp10 n_5 T 0 hw _ _ _ hP hD hS (lv_sub hl [0, 1, 2, 3] rfl)
