abbrev vLW : Type := vTT × (Nat → Int64)
abbrev vLA : Type := vTT × vMM × (Nat → Int64)
abbrev wLW (cI cZ cJ cL : ClassId) (nl nn : Nat) (ad ra : Nat → Nat) (ao : Nat) (S : vSH) (V9 : vLW) : va_W := wTT cI cZ cJ nl nn ad ra S V9.1 ++ [(ao, .inl (cL, 1, .inr (.inl V9.2)))]
abbrev wLA (cI cZ cJ cL : ClassId) (nl nn : Nat) (ad ra am : Nat → Nat) (ao : Nat) (S : vSH) (Y : vMS) (A9 : vLA) : va_W := wTT cI cZ cJ nl nn ad ra S A9.1 ++ (wMM cI cZ am Y A9.2.1 ++ [(ao, .inl (cL, 1, .inr (.inl A9.2.2)))])
def ncW : List (String × String) := [("java/lang/IndexOutOfBoundsException", "java/lang/IllegalArgumentException"), ("java/lang/IndexOutOfBoundsException", "java/lang/IllegalStateException"), ("java/lang/IndexOutOfBoundsException", "java/lang/UnsupportedOperationException"), ("java/lang/IllegalArgumentException", "java/lang/IndexOutOfBoundsException"), ("java/lang/IllegalArgumentException", "java/lang/IllegalStateException"), ("java/lang/IllegalArgumentException", "java/lang/UnsupportedOperationException"), ("java/lang/IllegalStateException", "java/lang/IndexOutOfBoundsException"), ("java/lang/IllegalStateException", "java/lang/IllegalArgumentException"), ("java/lang/IllegalStateException", "java/lang/UnsupportedOperationException"), ("java/lang/UnsupportedOperationException", "java/lang/IndexOutOfBoundsException"), ("java/lang/UnsupportedOperationException", "java/lang/IllegalArgumentException"), ("java/lang/UnsupportedOperationException", "java/lang/IllegalStateException")]
abbrev pcL (D : va_G) (tys : List (ClassId × FieldType)) (sa : Nat → Nat) (ws : va_W) (sz : Nat) (av : List Value) : Array Value → State → Prop := va_Pc av (fun U => U.heap.size = sz ∧ va_P D vwCl ws U.heap ∧ va_K D vwCl tys U ∧ va_D (fun _ => True) ws ∧ exZ sa (va_A ws sz) U U.heap ∧ ∀ q ∈ ncW, va_Nc q.1 q.2 U)
theorem bl_L {D : va_G} {tys : List (ClassId × FieldType)} {sa : Nat → Nat} {ws : va_W} {sz : Nat} {av : List Value} : FrameBlind (pcL D tys sa ws sz av) := fun a U g mk q => by
  obtain ⟨q0, q1, qP, qK, qD, qZ, qN⟩ := q
  exact ⟨q0, q1, qP, va_K.moved (u := U) (U := U.calling g mk a) (Vm.Alike.refl U.vm) qK, qD, qZ.warm (U := U.calling g mk a) (State.WarmedH.refl U), fun q h => va_Nc.moved (u := U) (U := U.calling g mk a) (Vm.Alike.refl U.vm) (qN q h)⟩
theorem k_219 : (Cond.methodLink RL 61 yX3_leaf) ∈ WALL := List.mem_filter.mpr ⟨List.mem_append_right _ (List.mem_of_getElem? (i := 487) (by decide +kernel)), by decide +kernel⟩
theorem k_220 : (Cond.code yX3_leaf cX3_leaf 3 (some .int)) ∈ WALL := List.mem_filter.mpr ⟨List.mem_append_right _ (List.mem_of_getElem? (i := 490) (by decide +kernel)), by decide +kernel⟩
theorem k_221 : (Cond.instanceMethod yX3_leaf) ∈ WALL := List.mem_filter.mpr ⟨List.mem_append_right _ (List.mem_of_getElem? (i := 488) (by decide +kernel)), by decide +kernel⟩
theorem k_222 : (Cond.selects RX3 yX3_leaf yX3_leaf) ∈ WALL := List.mem_filter.mpr ⟨List.mem_append_right _ (List.mem_of_getElem? (i := 489) (by decide +kernel)), by decide +kernel⟩
theorem k_223 : (Cond.classLink RL 15 "java/lang/IllegalArgumentException") ∈ WALL := List.mem_filter.mpr ⟨List.mem_append_right _ (List.mem_of_getElem? (i := 165) (by decide +kernel)), by decide +kernel⟩
theorem k_224 : (Cond.classLink RL 13 "java/lang/IndexOutOfBoundsException") ∈ WALL := List.mem_filter.mpr ⟨List.mem_append_right _ (List.mem_of_getElem? (i := 164) (by decide +kernel)), by decide +kernel⟩
theorem k_225 : (Cond.methodLink RL 35 yX3_bitAt) ∈ WALL := List.mem_filter.mpr ⟨List.mem_append_right _ (List.mem_of_getElem? (i := 412) (by decide +kernel)), by decide +kernel⟩
theorem k_226 : (Cond.code yX3_bitAt cX3_bitAt 2 (some .int)) ∈ WALL := List.mem_filter.mpr ⟨List.mem_append_right _ (List.mem_of_getElem? (i := 415) (by decide +kernel)), by decide +kernel⟩
theorem k_227 : (Cond.instanceMethod yX3_bitAt) ∈ WALL := List.mem_filter.mpr ⟨List.mem_append_right _ (List.mem_of_getElem? (i := 413) (by decide +kernel)), by decide +kernel⟩
theorem k_228 : (Cond.selects RX3 yX3_bitAt yX3_bitAt) ∈ WALL := List.mem_filter.mpr ⟨List.mem_append_right _ (List.mem_of_getElem? (i := 414) (by decide +kernel)), by decide +kernel⟩
theorem k_229 : (Cond.methodLink RL 39 yX3_feed) ∈ WALL := List.mem_filter.mpr ⟨List.mem_append_right _ (List.mem_of_getElem? (i := 424) (by decide +kernel)), by decide +kernel⟩
theorem k_230 : (Cond.code yX3_feed cX3_feed 2 (some .int)) ∈ WALL := List.mem_filter.mpr ⟨List.mem_append_right _ (List.mem_of_getElem? (i := 427) (by decide +kernel)), by decide +kernel⟩
theorem k_231 : (Cond.instanceMethod yX3_feed) ∈ WALL := List.mem_filter.mpr ⟨List.mem_append_right _ (List.mem_of_getElem? (i := 425) (by decide +kernel)), by decide +kernel⟩
theorem k_232 : (Cond.selects RX3 yX3_feed yX3_feed) ∈ WALL := List.mem_filter.mpr ⟨List.mem_append_right _ (List.mem_of_getElem? (i := 426) (by decide +kernel)), by decide +kernel⟩
theorem k_233 : (Cond.classLink RL 26 "java/lang/UnsupportedOperationException") ∈ WALL := List.mem_filter.mpr ⟨List.mem_append_right _ (List.mem_of_getElem? (i := 310) (by decide +kernel)), by decide +kernel⟩
theorem k_234 : (Cond.methodLink RL 42 yX3_pass) ∈ WALL := List.mem_filter.mpr ⟨List.mem_append_right _ (List.mem_of_getElem? (i := 432) (by decide +kernel)), by decide +kernel⟩
theorem k_235 : (Cond.code yX3_pass cX3_pass 4 (some .int)) ∈ WALL := List.mem_filter.mpr ⟨List.mem_append_right _ (List.mem_of_getElem? (i := 435) (by decide +kernel)), by decide +kernel⟩
theorem k_236 : (Cond.instanceMethod yX3_pass) ∈ WALL := List.mem_filter.mpr ⟨List.mem_append_right _ (List.mem_of_getElem? (i := 433) (by decide +kernel)), by decide +kernel⟩
theorem k_237 : (Cond.selects RX3 yX3_pass yX3_pass) ∈ WALL := List.mem_filter.mpr ⟨List.mem_append_right _ (List.mem_of_getElem? (i := 434) (by decide +kernel)), by decide +kernel⟩
theorem k_238 : (Cond.methodLink RL 51 yX3_known) ∈ WALL := List.mem_filter.mpr ⟨List.mem_append_right _ (List.mem_of_getElem? (i := 466) (by decide +kernel)), by decide +kernel⟩
theorem k_239 : (Cond.code yX3_known cX3_known 5 (some .int)) ∈ WALL := List.mem_filter.mpr ⟨List.mem_append_right _ (List.mem_of_getElem? (i := 469) (by decide +kernel)), by decide +kernel⟩
theorem k_240 : (Cond.instanceMethod yX3_known) ∈ WALL := List.mem_filter.mpr ⟨List.mem_append_right _ (List.mem_of_getElem? (i := 467) (by decide +kernel)), by decide +kernel⟩
theorem k_241 : (Cond.selects RX3 yX3_known yX3_known) ∈ WALL := List.mem_filter.mpr ⟨List.mem_append_right _ (List.mem_of_getElem? (i := 468) (by decide +kernel)), by decide +kernel⟩
theorem k_242 : (Cond.methodLink RL 54 yX3_bound) ∈ WALL := List.mem_filter.mpr ⟨List.mem_append_right _ (List.mem_of_getElem? (i := 473) (by decide +kernel)), by decide +kernel⟩
theorem k_243 : (Cond.code yX3_bound cX3_bound 6 (some .int)) ∈ WALL := List.mem_filter.mpr ⟨List.mem_append_right _ (List.mem_of_getElem? (i := 476) (by decide +kernel)), by decide +kernel⟩
theorem k_244 : (Cond.instanceMethod yX3_bound) ∈ WALL := List.mem_filter.mpr ⟨List.mem_append_right _ (List.mem_of_getElem? (i := 474) (by decide +kernel)), by decide +kernel⟩
theorem k_245 : (Cond.selects RX3 yX3_bound yX3_bound) ∈ WALL := List.mem_filter.mpr ⟨List.mem_append_right _ (List.mem_of_getElem? (i := 475) (by decide +kernel)), by decide +kernel⟩
theorem k_246 : (Cond.methodLink RL 58 yX3_least) ∈ WALL := List.mem_filter.mpr ⟨List.mem_append_right _ (List.mem_of_getElem? (i := 480) (by decide +kernel)), by decide +kernel⟩
theorem k_247 : (Cond.code yX3_least cX3_least 4 (some .int)) ∈ WALL := List.mem_filter.mpr ⟨List.mem_append_right _ (List.mem_of_getElem? (i := 483) (by decide +kernel)), by decide +kernel⟩
theorem k_248 : (Cond.instanceMethod yX3_least) ∈ WALL := List.mem_filter.mpr ⟨List.mem_append_right _ (List.mem_of_getElem? (i := 481) (by decide +kernel)), by decide +kernel⟩
theorem k_249 : (Cond.selects RX3 yX3_least yX3_least) ∈ WALL := List.mem_filter.mpr ⟨List.mem_append_right _ (List.mem_of_getElem? (i := 482) (by decide +kernel)), by decide +kernel⟩
theorem k_250 : (Cond.methodLink RL 7 yX3_value) ∈ WALL := List.mem_filter.mpr ⟨List.mem_append_right _ (List.mem_of_getElem? (i := 167) (by decide +kernel)), by decide +kernel⟩
theorem k_251 : (Cond.code yX3_value cX3_value 6 (some .int)) ∈ WALL := List.mem_filter.mpr ⟨List.mem_append_right _ (List.mem_of_getElem? (i := 170) (by decide +kernel)), by decide +kernel⟩
theorem k_252 : (Cond.instanceMethod yX3_value) ∈ WALL := List.mem_filter.mpr ⟨List.mem_append_right _ (List.mem_of_getElem? (i := 168) (by decide +kernel)), by decide +kernel⟩
theorem k_253 : (Cond.selects RX3 yX3_value yX3_value) ∈ WALL := List.mem_filter.mpr ⟨List.mem_append_right _ (List.mem_of_getElem? (i := 169) (by decide +kernel)), by decide +kernel⟩
theorem k_254 : (Cond.classLink RL 17 "java/lang/IllegalStateException") ∈ WALL := List.mem_filter.mpr ⟨List.mem_append_right _ (List.mem_of_getElem? (i := 166) (by decide +kernel)), by decide +kernel⟩
theorem k_255 : (Cond.methodLink RL 19 yX3_values) ∈ WALL := List.mem_filter.mpr ⟨List.mem_append_right _ (List.mem_of_getElem? (i := 302) (by decide +kernel)), by decide +kernel⟩
theorem k_256 : (Cond.code yX3_values cX3_values 11 (some .int)) ∈ WALL := List.mem_filter.mpr ⟨List.mem_append_right _ (List.mem_of_getElem? (i := 305) (by decide +kernel)), by decide +kernel⟩
theorem k_257 : (Cond.instanceMethod yX3_values) ∈ WALL := List.mem_filter.mpr ⟨List.mem_append_right _ (List.mem_of_getElem? (i := 303) (by decide +kernel)), by decide +kernel⟩
theorem k_258 : (Cond.selects RX3 yX3_values yX3_values) ∈ WALL := List.mem_filter.mpr ⟨List.mem_append_right _ (List.mem_of_getElem? (i := 304) (by decide +kernel)), by decide +kernel⟩
theorem k_259 : (Cond.methodLink RL 23 yX3_encode) ∈ WALL := List.mem_filter.mpr ⟨List.mem_append_right _ (List.mem_of_getElem? (i := 311) (by decide +kernel)), by decide +kernel⟩
theorem k_260 : (Cond.code yX3_encode cX3_encode 5 (some .int)) ∈ WALL := List.mem_filter.mpr ⟨List.mem_append_right _ (List.mem_of_getElem? (i := 314) (by decide +kernel)), by decide +kernel⟩
theorem k_261 : (Cond.instanceMethod yX3_encode) ∈ WALL := List.mem_filter.mpr ⟨List.mem_append_right _ (List.mem_of_getElem? (i := 312) (by decide +kernel)), by decide +kernel⟩
theorem k_262 : (Cond.selects RX3 yX3_encode yX3_encode) ∈ WALL := List.mem_filter.mpr ⟨List.mem_append_right _ (List.mem_of_getElem? (i := 313) (by decide +kernel)), by decide +kernel⟩
theorem k_263 : (Cond.methodLink RL 28 yX3_cost) ∈ WALL := List.mem_filter.mpr ⟨List.mem_append_right _ (List.mem_of_getElem? (i := 382) (by decide +kernel)), by decide +kernel⟩
theorem k_264 : (Cond.code yX3_cost cX3_cost 4 (some .int)) ∈ WALL := List.mem_filter.mpr ⟨List.mem_append_right _ (List.mem_of_getElem? (i := 385) (by decide +kernel)), by decide +kernel⟩
theorem k_265 : (Cond.instanceMethod yX3_cost) ∈ WALL := List.mem_filter.mpr ⟨List.mem_append_right _ (List.mem_of_getElem? (i := 383) (by decide +kernel)), by decide +kernel⟩
theorem k_266 : (Cond.selects RX3 yX3_cost yX3_cost) ∈ WALL := List.mem_filter.mpr ⟨List.mem_append_right _ (List.mem_of_getElem? (i := 384) (by decide +kernel)), by decide +kernel⟩
theorem k_267 : (Cond.methodLink RL 31 yX3_encodeAll) ∈ WALL := List.mem_filter.mpr ⟨List.mem_append_right _ (List.mem_of_getElem? (i := 389) (by decide +kernel)), by decide +kernel⟩
theorem k_268 : (Cond.code yX3_encodeAll cX3_encodeAll 5 (some .int)) ∈ WALL := List.mem_filter.mpr ⟨List.mem_append_right _ (List.mem_of_getElem? (i := 392) (by decide +kernel)), by decide +kernel⟩
theorem k_269 : (Cond.instanceMethod yX3_encodeAll) ∈ WALL := List.mem_filter.mpr ⟨List.mem_append_right _ (List.mem_of_getElem? (i := 390) (by decide +kernel)), by decide +kernel⟩
theorem k_270 : (Cond.selects RX3 yX3_encodeAll yX3_encodeAll) ∈ WALL := List.mem_filter.mpr ⟨List.mem_append_right _ (List.mem_of_getElem? (i := 391) (by decide +kernel)), by decide +kernel⟩
theorem k_271 : (Cond.methodLink RL 45 yX3_decode) ∈ WALL := List.mem_filter.mpr ⟨List.mem_append_right _ (List.mem_of_getElem? (i := 440) (by decide +kernel)), by decide +kernel⟩
theorem k_272 : (Cond.code yX3_decode cX3_decode 5 (some .int)) ∈ WALL := List.mem_filter.mpr ⟨List.mem_append_right _ (List.mem_of_getElem? (i := 443) (by decide +kernel)), by decide +kernel⟩
theorem k_273 : (Cond.instanceMethod yX3_decode) ∈ WALL := List.mem_filter.mpr ⟨List.mem_append_right _ (List.mem_of_getElem? (i := 441) (by decide +kernel)), by decide +kernel⟩
theorem k_274 : (Cond.selects RX3 yX3_decode yX3_decode) ∈ WALL := List.mem_filter.mpr ⟨List.mem_append_right _ (List.mem_of_getElem? (i := 442) (by decide +kernel)), by decide +kernel⟩
theorem k_275 : (Cond.methodLink RL 48 yX3_decodeAll) ∈ WALL := List.mem_filter.mpr ⟨List.mem_append_right _ (List.mem_of_getElem? (i := 459) (by decide +kernel)), by decide +kernel⟩
theorem k_276 : (Cond.code yX3_decodeAll cX3_decodeAll 4 (some .int)) ∈ WALL := List.mem_filter.mpr ⟨List.mem_append_right _ (List.mem_of_getElem? (i := 462) (by decide +kernel)), by decide +kernel⟩
theorem k_277 : (Cond.instanceMethod yX3_decodeAll) ∈ WALL := List.mem_filter.mpr ⟨List.mem_append_right _ (List.mem_of_getElem? (i := 460) (by decide +kernel)), by decide +kernel⟩
theorem k_278 : (Cond.selects RX3 yX3_decodeAll yX3_decodeAll) ∈ WALL := List.mem_filter.mpr ⟨List.mem_append_right _ (List.mem_of_getElem? (i := 461) (by decide +kernel)), by decide +kernel⟩
theorem dL_leaf_0 : decode cL_leaf 0 = .ok (.aload_n 3, 1) := by decide +kernel
theorem dL_leaf_1 : decode cL_leaf 1 = .ok (.iconst 0, 1) := by decide +kernel
theorem dL_leaf_2 : decode cL_leaf 2 = .ok (.aload_n 0, 1) := by decide +kernel
theorem dL_leaf_3 : decode cL_leaf 3 = .ok (.iload_n 1, 1) := by decide +kernel
theorem dL_leaf_4 : decode cL_leaf 4 = .ok (.iload_n 2, 1) := by decide +kernel
theorem dL_leaf_5 : decode cL_leaf 5 = .ok (.invokevirtual 61, 3) := by decide +kernel
theorem dL_leaf_8 : decode cL_leaf 8 = .ok (.i2l, 1) := by decide +kernel
theorem dL_leaf_9 : decode cL_leaf 9 = .ok (.lastore, 1) := by decide +kernel
theorem dL_leaf_10 : decode cL_leaf 10 = .ok (.goto 11, 3) := by decide +kernel
theorem dL_leaf_13 : decode cL_leaf 13 = .ok (.astore 4, 2) := by decide +kernel
theorem dL_leaf_15 : decode cL_leaf 15 = .ok (.iconst 1, 1) := by decide +kernel
theorem dL_leaf_16 : decode cL_leaf 16 = .ok (.ireturn, 1) := by decide +kernel
theorem dL_leaf_17 : decode cL_leaf 17 = .ok (.astore 4, 2) := by decide +kernel
theorem dL_leaf_19 : decode cL_leaf 19 = .ok (.iconst 2, 1) := by decide +kernel
theorem dL_leaf_20 : decode cL_leaf 20 = .ok (.ireturn, 1) := by decide +kernel
theorem dL_leaf_21 : decode cL_leaf 21 = .ok (.iconst 0, 1) := by decide +kernel
theorem dL_leaf_22 : decode cL_leaf 22 = .ok (.ireturn, 1) := by decide +kernel
theorem dL_bitAt_0 : decode cL_bitAt 0 = .ok (.aload_n 2, 1) := by decide +kernel
theorem dL_bitAt_1 : decode cL_bitAt 1 = .ok (.iconst 0, 1) := by decide +kernel
theorem dL_bitAt_2 : decode cL_bitAt 2 = .ok (.aload_n 0, 1) := by decide +kernel
theorem dL_bitAt_3 : decode cL_bitAt 3 = .ok (.iload_n 1, 1) := by decide +kernel
theorem dL_bitAt_4 : decode cL_bitAt 4 = .ok (.invokevirtual 35, 3) := by decide +kernel
theorem dL_bitAt_7 : decode cL_bitAt 7 = .ok (.i2l, 1) := by decide +kernel
theorem dL_bitAt_8 : decode cL_bitAt 8 = .ok (.lastore, 1) := by decide +kernel
theorem dL_bitAt_9 : decode cL_bitAt 9 = .ok (.goto 6, 3) := by decide +kernel
theorem dL_bitAt_12 : decode cL_bitAt 12 = .ok (.astore_n 3, 1) := by decide +kernel
theorem dL_bitAt_13 : decode cL_bitAt 13 = .ok (.iconst 1, 1) := by decide +kernel
theorem dL_bitAt_14 : decode cL_bitAt 14 = .ok (.ireturn, 1) := by decide +kernel
theorem dL_bitAt_15 : decode cL_bitAt 15 = .ok (.iconst 0, 1) := by decide +kernel
theorem dL_bitAt_16 : decode cL_bitAt 16 = .ok (.ireturn, 1) := by decide +kernel
theorem dL_feed_0 : decode cL_feed 0 = .ok (.aload_n 2, 1) := by decide +kernel
theorem dL_feed_1 : decode cL_feed 1 = .ok (.iconst 0, 1) := by decide +kernel
theorem dL_feed_2 : decode cL_feed 2 = .ok (.aload_n 0, 1) := by decide +kernel
theorem dL_feed_3 : decode cL_feed 3 = .ok (.iload_n 1, 1) := by decide +kernel
theorem dL_feed_4 : decode cL_feed 4 = .ok (.invokevirtual 39, 3) := by decide +kernel
theorem dL_feed_7 : decode cL_feed 7 = .ok (.i2l, 1) := by decide +kernel
theorem dL_feed_8 : decode cL_feed 8 = .ok (.lastore, 1) := by decide +kernel
theorem dL_feed_9 : decode cL_feed 9 = .ok (.goto 9, 3) := by decide +kernel
theorem dL_feed_12 : decode cL_feed 12 = .ok (.astore_n 3, 1) := by decide +kernel
theorem dL_feed_13 : decode cL_feed 13 = .ok (.iconst 1, 1) := by decide +kernel
theorem dL_feed_14 : decode cL_feed 14 = .ok (.ireturn, 1) := by decide +kernel
theorem dL_feed_15 : decode cL_feed 15 = .ok (.astore_n 3, 1) := by decide +kernel
theorem dL_feed_16 : decode cL_feed 16 = .ok (.iconst 2, 1) := by decide +kernel
theorem dL_feed_17 : decode cL_feed 17 = .ok (.ireturn, 1) := by decide +kernel
theorem dL_feed_18 : decode cL_feed 18 = .ok (.iconst 0, 1) := by decide +kernel
theorem dL_feed_19 : decode cL_feed 19 = .ok (.ireturn, 1) := by decide +kernel
theorem dL_pass_0 : decode cL_pass 0 = .ok (.aload_n 2, 1) := by decide +kernel
theorem dL_pass_1 : decode cL_pass 1 = .ok (.iconst 0, 1) := by decide +kernel
theorem dL_pass_2 : decode cL_pass 2 = .ok (.aload_n 0, 1) := by decide +kernel
theorem dL_pass_3 : decode cL_pass 3 = .ok (.iload_n 1, 1) := by decide +kernel
theorem dL_pass_4 : decode cL_pass 4 = .ok (.invokevirtual 42, 3) := by decide +kernel
theorem dL_pass_7 : decode cL_pass 7 = .ok (.i2l, 1) := by decide +kernel
theorem dL_pass_8 : decode cL_pass 8 = .ok (.lastore, 1) := by decide +kernel
theorem dL_pass_9 : decode cL_pass 9 = .ok (.goto 9, 3) := by decide +kernel
theorem dL_pass_12 : decode cL_pass 12 = .ok (.astore_n 3, 1) := by decide +kernel
theorem dL_pass_13 : decode cL_pass 13 = .ok (.iconst 1, 1) := by decide +kernel
theorem dL_pass_14 : decode cL_pass 14 = .ok (.ireturn, 1) := by decide +kernel
theorem dL_pass_15 : decode cL_pass 15 = .ok (.astore_n 3, 1) := by decide +kernel
theorem dL_pass_16 : decode cL_pass 16 = .ok (.iconst 2, 1) := by decide +kernel
theorem dL_pass_17 : decode cL_pass 17 = .ok (.ireturn, 1) := by decide +kernel
theorem dL_pass_18 : decode cL_pass 18 = .ok (.iconst 0, 1) := by decide +kernel
theorem dL_pass_19 : decode cL_pass 19 = .ok (.ireturn, 1) := by decide +kernel
theorem dL_known_0 : decode cL_known 0 = .ok (.aload_n 3, 1) := by decide +kernel
theorem dL_known_1 : decode cL_known 1 = .ok (.iconst 0, 1) := by decide +kernel
theorem dL_known_2 : decode cL_known 2 = .ok (.aload_n 0, 1) := by decide +kernel
theorem dL_known_3 : decode cL_known 3 = .ok (.iload_n 1, 1) := by decide +kernel
theorem dL_known_4 : decode cL_known 4 = .ok (.iload_n 2, 1) := by decide +kernel
theorem dL_known_5 : decode cL_known 5 = .ok (.invokevirtual 51, 3) := by decide +kernel
theorem dL_known_8 : decode cL_known 8 = .ok (.i2l, 1) := by decide +kernel
theorem dL_known_9 : decode cL_known 9 = .ok (.lastore, 1) := by decide +kernel
theorem dL_known_10 : decode cL_known 10 = .ok (.goto 7, 3) := by decide +kernel
theorem dL_known_13 : decode cL_known 13 = .ok (.astore 4, 2) := by decide +kernel
theorem dL_known_15 : decode cL_known 15 = .ok (.iconst 1, 1) := by decide +kernel
theorem dL_known_16 : decode cL_known 16 = .ok (.ireturn, 1) := by decide +kernel
theorem dL_known_17 : decode cL_known 17 = .ok (.iconst 0, 1) := by decide +kernel
theorem dL_known_18 : decode cL_known 18 = .ok (.ireturn, 1) := by decide +kernel
theorem dL_bound_0 : decode cL_bound 0 = .ok (.aload 5, 2) := by decide +kernel
theorem dL_bound_2 : decode cL_bound 2 = .ok (.iconst 0, 1) := by decide +kernel
theorem dL_bound_3 : decode cL_bound 3 = .ok (.aload_n 0, 1) := by decide +kernel
theorem dL_bound_4 : decode cL_bound 4 = .ok (.iload_n 1, 1) := by decide +kernel
theorem dL_bound_5 : decode cL_bound 5 = .ok (.iload_n 2, 1) := by decide +kernel
theorem dL_bound_6 : decode cL_bound 6 = .ok (.iload_n 3, 1) := by decide +kernel
theorem dL_bound_7 : decode cL_bound 7 = .ok (.iload 4, 2) := by decide +kernel
theorem dL_bound_9 : decode cL_bound 9 = .ok (.invokevirtual 54, 3) := by decide +kernel
theorem dL_bound_12 : decode cL_bound 12 = .ok (.i2l, 1) := by decide +kernel
theorem dL_bound_13 : decode cL_bound 13 = .ok (.lastore, 1) := by decide +kernel
theorem dL_bound_14 : decode cL_bound 14 = .ok (.goto 7, 3) := by decide +kernel
theorem dL_bound_17 : decode cL_bound 17 = .ok (.astore 6, 2) := by decide +kernel
theorem dL_bound_19 : decode cL_bound 19 = .ok (.iconst 1, 1) := by decide +kernel
theorem dL_bound_20 : decode cL_bound 20 = .ok (.ireturn, 1) := by decide +kernel
theorem dL_bound_21 : decode cL_bound 21 = .ok (.iconst 0, 1) := by decide +kernel
theorem dL_bound_22 : decode cL_bound 22 = .ok (.ireturn, 1) := by decide +kernel
theorem dL_least_0 : decode cL_least 0 = .ok (.aload 4, 2) := by decide +kernel
theorem dL_least_2 : decode cL_least 2 = .ok (.iconst 0, 1) := by decide +kernel
theorem dL_least_3 : decode cL_least 3 = .ok (.aload_n 0, 1) := by decide +kernel
theorem dL_least_4 : decode cL_least 4 = .ok (.iload_n 1, 1) := by decide +kernel
theorem dL_least_5 : decode cL_least 5 = .ok (.iload_n 2, 1) := by decide +kernel
theorem dL_least_6 : decode cL_least 6 = .ok (.iload_n 3, 1) := by decide +kernel
theorem dL_least_7 : decode cL_least 7 = .ok (.invokevirtual 58, 3) := by decide +kernel
theorem dL_least_10 : decode cL_least 10 = .ok (.i2l, 1) := by decide +kernel
theorem dL_least_11 : decode cL_least 11 = .ok (.lastore, 1) := by decide +kernel
theorem dL_least_12 : decode cL_least 12 = .ok (.goto 7, 3) := by decide +kernel
theorem dL_least_15 : decode cL_least 15 = .ok (.astore 5, 2) := by decide +kernel
theorem dL_least_17 : decode cL_least 17 = .ok (.iconst 1, 1) := by decide +kernel
theorem dL_least_18 : decode cL_least 18 = .ok (.ireturn, 1) := by decide +kernel
theorem dL_least_19 : decode cL_least 19 = .ok (.iconst 0, 1) := by decide +kernel
theorem dL_least_20 : decode cL_least 20 = .ok (.ireturn, 1) := by decide +kernel
theorem dL_value_0 : decode cL_value 0 = .ok (.aload 4, 2) := by decide +kernel
theorem dL_value_2 : decode cL_value 2 = .ok (.iconst 0, 1) := by decide +kernel
theorem dL_value_3 : decode cL_value 3 = .ok (.aload_n 0, 1) := by decide +kernel
theorem dL_value_4 : decode cL_value 4 = .ok (.iload_n 1, 1) := by decide +kernel
theorem dL_value_5 : decode cL_value 5 = .ok (.iload_n 2, 1) := by decide +kernel
theorem dL_value_6 : decode cL_value 6 = .ok (.iload_n 3, 1) := by decide +kernel
theorem dL_value_7 : decode cL_value 7 = .ok (.invokevirtual 7, 3) := by decide +kernel
theorem dL_value_10 : decode cL_value 10 = .ok (.i2l, 1) := by decide +kernel
theorem dL_value_11 : decode cL_value 11 = .ok (.lastore, 1) := by decide +kernel
theorem dL_value_12 : decode cL_value 12 = .ok (.goto 15, 3) := by decide +kernel
theorem dL_value_15 : decode cL_value 15 = .ok (.astore 5, 2) := by decide +kernel
theorem dL_value_17 : decode cL_value 17 = .ok (.iconst 1, 1) := by decide +kernel
theorem dL_value_18 : decode cL_value 18 = .ok (.ireturn, 1) := by decide +kernel
theorem dL_value_19 : decode cL_value 19 = .ok (.astore 5, 2) := by decide +kernel
theorem dL_value_21 : decode cL_value 21 = .ok (.iconst 2, 1) := by decide +kernel
theorem dL_value_22 : decode cL_value 22 = .ok (.ireturn, 1) := by decide +kernel
theorem dL_value_23 : decode cL_value 23 = .ok (.astore 5, 2) := by decide +kernel
theorem dL_value_25 : decode cL_value 25 = .ok (.iconst 3, 1) := by decide +kernel
theorem dL_value_26 : decode cL_value 26 = .ok (.ireturn, 1) := by decide +kernel
theorem dL_value_27 : decode cL_value 27 = .ok (.iconst 0, 1) := by decide +kernel
theorem dL_value_28 : decode cL_value 28 = .ok (.ireturn, 1) := by decide +kernel
theorem dL_values_0 : decode cL_values 0 = .ok (.aload 6, 2) := by decide +kernel
theorem dL_values_2 : decode cL_values 2 = .ok (.iconst 0, 1) := by decide +kernel
theorem dL_values_3 : decode cL_values 3 = .ok (.aload_n 0, 1) := by decide +kernel
theorem dL_values_4 : decode cL_values 4 = .ok (.iload_n 1, 1) := by decide +kernel
theorem dL_values_5 : decode cL_values 5 = .ok (.iload_n 2, 1) := by decide +kernel
theorem dL_values_6 : decode cL_values 6 = .ok (.iload_n 3, 1) := by decide +kernel
theorem dL_values_7 : decode cL_values 7 = .ok (.iload 4, 2) := by decide +kernel
theorem dL_values_9 : decode cL_values 9 = .ok (.iload 5, 2) := by decide +kernel
theorem dL_values_11 : decode cL_values 11 = .ok (.invokevirtual 19, 3) := by decide +kernel
theorem dL_values_14 : decode cL_values 14 = .ok (.i2l, 1) := by decide +kernel
theorem dL_values_15 : decode cL_values 15 = .ok (.lastore, 1) := by decide +kernel
theorem dL_values_16 : decode cL_values 16 = .ok (.goto 15, 3) := by decide +kernel
theorem dL_values_19 : decode cL_values 19 = .ok (.astore 7, 2) := by decide +kernel
theorem dL_values_21 : decode cL_values 21 = .ok (.iconst 1, 1) := by decide +kernel
theorem dL_values_22 : decode cL_values 22 = .ok (.ireturn, 1) := by decide +kernel
theorem dL_values_23 : decode cL_values 23 = .ok (.astore 7, 2) := by decide +kernel
theorem dL_values_25 : decode cL_values 25 = .ok (.iconst 2, 1) := by decide +kernel
theorem dL_values_26 : decode cL_values 26 = .ok (.ireturn, 1) := by decide +kernel
theorem dL_values_27 : decode cL_values 27 = .ok (.astore 7, 2) := by decide +kernel
theorem dL_values_29 : decode cL_values 29 = .ok (.iconst 3, 1) := by decide +kernel
theorem dL_values_30 : decode cL_values 30 = .ok (.ireturn, 1) := by decide +kernel
theorem dL_values_31 : decode cL_values 31 = .ok (.iconst 0, 1) := by decide +kernel
theorem dL_values_32 : decode cL_values 32 = .ok (.ireturn, 1) := by decide +kernel
theorem dL_encode_0 : decode cL_encode 0 = .ok (.aload 4, 2) := by decide +kernel
theorem dL_encode_2 : decode cL_encode 2 = .ok (.iconst 0, 1) := by decide +kernel
theorem dL_encode_3 : decode cL_encode 3 = .ok (.aload_n 0, 1) := by decide +kernel
theorem dL_encode_4 : decode cL_encode 4 = .ok (.iload_n 1, 1) := by decide +kernel
theorem dL_encode_5 : decode cL_encode 5 = .ok (.iload_n 2, 1) := by decide +kernel
theorem dL_encode_6 : decode cL_encode 6 = .ok (.iload_n 3, 1) := by decide +kernel
theorem dL_encode_7 : decode cL_encode 7 = .ok (.invokevirtual 23, 3) := by decide +kernel
theorem dL_encode_10 : decode cL_encode 10 = .ok (.i2l, 1) := by decide +kernel
theorem dL_encode_11 : decode cL_encode 11 = .ok (.lastore, 1) := by decide +kernel
theorem dL_encode_12 : decode cL_encode 12 = .ok (.goto 15, 3) := by decide +kernel
theorem dL_encode_15 : decode cL_encode 15 = .ok (.astore 5, 2) := by decide +kernel
theorem dL_encode_17 : decode cL_encode 17 = .ok (.iconst 1, 1) := by decide +kernel
theorem dL_encode_18 : decode cL_encode 18 = .ok (.ireturn, 1) := by decide +kernel
theorem dL_encode_19 : decode cL_encode 19 = .ok (.astore 5, 2) := by decide +kernel
theorem dL_encode_21 : decode cL_encode 21 = .ok (.iconst 2, 1) := by decide +kernel
theorem dL_encode_22 : decode cL_encode 22 = .ok (.ireturn, 1) := by decide +kernel
theorem dL_encode_23 : decode cL_encode 23 = .ok (.astore 5, 2) := by decide +kernel
theorem dL_encode_25 : decode cL_encode 25 = .ok (.iconst 3, 1) := by decide +kernel
theorem dL_encode_26 : decode cL_encode 26 = .ok (.ireturn, 1) := by decide +kernel
theorem dL_encode_27 : decode cL_encode 27 = .ok (.iconst 0, 1) := by decide +kernel
theorem dL_encode_28 : decode cL_encode 28 = .ok (.ireturn, 1) := by decide +kernel
theorem dL_cost_0 : decode cL_cost 0 = .ok (.aload 4, 2) := by decide +kernel
theorem dL_cost_2 : decode cL_cost 2 = .ok (.iconst 0, 1) := by decide +kernel
theorem dL_cost_3 : decode cL_cost 3 = .ok (.aload_n 0, 1) := by decide +kernel
theorem dL_cost_4 : decode cL_cost 4 = .ok (.iload_n 1, 1) := by decide +kernel
theorem dL_cost_5 : decode cL_cost 5 = .ok (.iload_n 2, 1) := by decide +kernel
theorem dL_cost_6 : decode cL_cost 6 = .ok (.iload_n 3, 1) := by decide +kernel
theorem dL_cost_7 : decode cL_cost 7 = .ok (.invokevirtual 28, 3) := by decide +kernel
theorem dL_cost_10 : decode cL_cost 10 = .ok (.i2l, 1) := by decide +kernel
theorem dL_cost_11 : decode cL_cost 11 = .ok (.lastore, 1) := by decide +kernel
theorem dL_cost_12 : decode cL_cost 12 = .ok (.goto 11, 3) := by decide +kernel
theorem dL_cost_15 : decode cL_cost 15 = .ok (.astore 5, 2) := by decide +kernel
theorem dL_cost_17 : decode cL_cost 17 = .ok (.iconst 1, 1) := by decide +kernel
theorem dL_cost_18 : decode cL_cost 18 = .ok (.ireturn, 1) := by decide +kernel
theorem dL_cost_19 : decode cL_cost 19 = .ok (.astore 5, 2) := by decide +kernel
theorem dL_cost_21 : decode cL_cost 21 = .ok (.iconst 2, 1) := by decide +kernel
theorem dL_cost_22 : decode cL_cost 22 = .ok (.ireturn, 1) := by decide +kernel
theorem dL_cost_23 : decode cL_cost 23 = .ok (.iconst 0, 1) := by decide +kernel
theorem dL_cost_24 : decode cL_cost 24 = .ok (.ireturn, 1) := by decide +kernel
theorem dL_encodeAll_0 : decode cL_encodeAll 0 = .ok (.aload_n 3, 1) := by decide +kernel
theorem dL_encodeAll_1 : decode cL_encodeAll 1 = .ok (.iconst 0, 1) := by decide +kernel
theorem dL_encodeAll_2 : decode cL_encodeAll 2 = .ok (.aload_n 0, 1) := by decide +kernel
theorem dL_encodeAll_3 : decode cL_encodeAll 3 = .ok (.iload_n 1, 1) := by decide +kernel
theorem dL_encodeAll_4 : decode cL_encodeAll 4 = .ok (.iload_n 2, 1) := by decide +kernel
theorem dL_encodeAll_5 : decode cL_encodeAll 5 = .ok (.invokevirtual 31, 3) := by decide +kernel
theorem dL_encodeAll_8 : decode cL_encodeAll 8 = .ok (.i2l, 1) := by decide +kernel
theorem dL_encodeAll_9 : decode cL_encodeAll 9 = .ok (.lastore, 1) := by decide +kernel
theorem dL_encodeAll_10 : decode cL_encodeAll 10 = .ok (.goto 11, 3) := by decide +kernel
theorem dL_encodeAll_13 : decode cL_encodeAll 13 = .ok (.astore 4, 2) := by decide +kernel
theorem dL_encodeAll_15 : decode cL_encodeAll 15 = .ok (.iconst 1, 1) := by decide +kernel
theorem dL_encodeAll_16 : decode cL_encodeAll 16 = .ok (.ireturn, 1) := by decide +kernel
theorem dL_encodeAll_17 : decode cL_encodeAll 17 = .ok (.astore 4, 2) := by decide +kernel
theorem dL_encodeAll_19 : decode cL_encodeAll 19 = .ok (.iconst 2, 1) := by decide +kernel
theorem dL_encodeAll_20 : decode cL_encodeAll 20 = .ok (.ireturn, 1) := by decide +kernel
theorem dL_encodeAll_21 : decode cL_encodeAll 21 = .ok (.iconst 0, 1) := by decide +kernel
theorem dL_encodeAll_22 : decode cL_encodeAll 22 = .ok (.ireturn, 1) := by decide +kernel
theorem dL_decode_0 : decode cL_decode 0 = .ok (.aload 4, 2) := by decide +kernel
theorem dL_decode_2 : decode cL_decode 2 = .ok (.iconst 0, 1) := by decide +kernel
theorem dL_decode_3 : decode cL_decode 3 = .ok (.aload_n 0, 1) := by decide +kernel
theorem dL_decode_4 : decode cL_decode 4 = .ok (.iload_n 1, 1) := by decide +kernel
theorem dL_decode_5 : decode cL_decode 5 = .ok (.iload_n 2, 1) := by decide +kernel
theorem dL_decode_6 : decode cL_decode 6 = .ok (.iload_n 3, 1) := by decide +kernel
theorem dL_decode_7 : decode cL_decode 7 = .ok (.invokevirtual 45, 3) := by decide +kernel
theorem dL_decode_10 : decode cL_decode 10 = .ok (.i2l, 1) := by decide +kernel
theorem dL_decode_11 : decode cL_decode 11 = .ok (.lastore, 1) := by decide +kernel
theorem dL_decode_12 : decode cL_decode 12 = .ok (.goto 11, 3) := by decide +kernel
theorem dL_decode_15 : decode cL_decode 15 = .ok (.astore 5, 2) := by decide +kernel
theorem dL_decode_17 : decode cL_decode 17 = .ok (.iconst 1, 1) := by decide +kernel
theorem dL_decode_18 : decode cL_decode 18 = .ok (.ireturn, 1) := by decide +kernel
theorem dL_decode_19 : decode cL_decode 19 = .ok (.astore 5, 2) := by decide +kernel
theorem dL_decode_21 : decode cL_decode 21 = .ok (.iconst 2, 1) := by decide +kernel
theorem dL_decode_22 : decode cL_decode 22 = .ok (.ireturn, 1) := by decide +kernel
theorem dL_decode_23 : decode cL_decode 23 = .ok (.iconst 0, 1) := by decide +kernel
theorem dL_decode_24 : decode cL_decode 24 = .ok (.ireturn, 1) := by decide +kernel
theorem dL_decodeAll_0 : decode cL_decodeAll 0 = .ok (.aload_n 3, 1) := by decide +kernel
theorem dL_decodeAll_1 : decode cL_decodeAll 1 = .ok (.iconst 0, 1) := by decide +kernel
theorem dL_decodeAll_2 : decode cL_decodeAll 2 = .ok (.aload_n 0, 1) := by decide +kernel
theorem dL_decodeAll_3 : decode cL_decodeAll 3 = .ok (.iload_n 1, 1) := by decide +kernel
theorem dL_decodeAll_4 : decode cL_decodeAll 4 = .ok (.iload_n 2, 1) := by decide +kernel
theorem dL_decodeAll_5 : decode cL_decodeAll 5 = .ok (.invokevirtual 48, 3) := by decide +kernel
theorem dL_decodeAll_8 : decode cL_decodeAll 8 = .ok (.i2l, 1) := by decide +kernel
theorem dL_decodeAll_9 : decode cL_decodeAll 9 = .ok (.lastore, 1) := by decide +kernel
theorem dL_decodeAll_10 : decode cL_decodeAll 10 = .ok (.goto 7, 3) := by decide +kernel
theorem dL_decodeAll_13 : decode cL_decodeAll 13 = .ok (.astore 4, 2) := by decide +kernel
theorem dL_decodeAll_15 : decode cL_decodeAll 15 = .ok (.iconst 1, 1) := by decide +kernel
theorem dL_decodeAll_16 : decode cL_decodeAll 16 = .ok (.ireturn, 1) := by decide +kernel
theorem dL_decodeAll_17 : decode cL_decodeAll 17 = .ok (.iconst 0, 1) := by decide +kernel
theorem dL_decodeAll_18 : decode cL_decodeAll 18 = .ok (.ireturn, 1) := by decide +kernel
def wp_L_leaf (post : Int32 → vLW → Prop) (nl : Nat) (nn : Nat) (S : vSH) (V9 : vLW) (x1 : Int32) (x2 : Int32) : Prop := wp_X3_leaf (fun r_1 T_2 => vp_in 0 1 ∧ (post 0 (T_2, (vp_updL V9.2 ((0 : Int32).toNatClampNeg) r_1.toInt64)))) (fun E T_2 => ((E = "java/lang/IllegalArgumentException" ∧ (post 1 (T_2, V9.2))) ∨ (E = "java/lang/IndexOutOfBoundsException" ∧ (post 2 (T_2, V9.2))))) nl nn S V9.1 x1 x2
abbrev rm_L_leaf : Room := { frames := 8, cells := 2, slots := 12, locals := 124 }
set_option maxHeartbeats 4000000 in
set_option maxRecDepth 100000 in
theorem met_L_leaf (l : Launch) (hl9 : l.stackTraces = false) (dC : Nat → ClassId) (dI : Nat → Nat → Nat) (cI cZ cJ cL : ClassId) (sa : Nat → Nat) (ad ra : Nat → Nat) (ao : Nat) (sz : Nat) (post : Int32 → vLW → Prop) (nl : Nat) (nn : Nat) (S : vSH) (V9 : vLW) (x1 : Int32) (x2 : Int32) (hw : wp_L_leaf post nl nn S V9 x1 x2) : Met l yL_leaf wsL_leaf rm_L_leaf (pcL (dC, dI) (tysA cI cZ cJ cL) sa (wLW cI cZ cJ cL nl nn ad ra ao S V9) sz [.ref (ad 0), .int x1, .int x2, .ref ao]) (va_Qi post (fun u t => qB (dC, dI) (tysA cI cZ cJ cL) (va_A (wLW cI cZ cJ cL nl nn ad ra ao S V9) sz) (wLW cI cZ cJ cL nl nn ad ra ao S u) t) (va_A (wLW cI cZ cJ cL nl nn ad ra ao S V9) sz)) 2 12 (va_A (wLW cI cZ cJ cL nl nn ad ra ao S V9) sz) := by
  refine va_MetW (cc := cL_leaf) (maxL := 5) (ret := (some .int)) (by decide) rfl ?_
  intro p e s m args below meth c s₁ Bd hml hv
  obtain ⟨hargs, hsz, hP, hK, hD0, hZ, hN⟩ := hv
  have hx := Bd.exec
  have hb := Bd.bytes
  have hr := Bd.returns
  have hts := atoms_spec (ws := wsL_leaf) Bd.pre
  have hT : ∀ w ∈ WALL, w.before args s = true := fun w h => hts w (List.mem_cons_of_mem _ h)
  have hown : s.vm.findClass RL = some m.cls := findClass_of_methodNamed Bd.named
  have hlocks := Bd.notSynchronized
  subst hsz
  have hD := hD0.self (sz := s.heap.size)
  generalize hAe : va_A (wLW cI cZ cJ cL nl nn ad ra ao S V9) s.heap.size = A at hD ⊢
  have hA : ∀ q : Nat, s.heap.size ≤ q → A q := fun q h => by rw [← hAe]; exact Or.inr h
  have hS : va_S A s.heap s.heap [] := va_S.rf
  rw [hAe] at hZ
  have hTab : c.exceptionTable.toList = tableOf [(0, 10, 13, 15), (0, 10, 17, 13)] := vx_table (x := yL_leaf) Bd (hts _ List.mem_cons_self)
  have hP : va_P (dC, dI) vwCl (wLW cI cZ cJ cL nl nn ad ra ao S V9) s.heap := hP
  have hl := lv_entry ([.ref (ad 0), .int x1, .int x2, .ref ao]) (n := 5) (Nat.le_of_ble_eq_true rfl)
  rw [show entryFrame m args 5 = F0 m 0 _ [] from by rw [hargs]; exact lg_entry_eq m ([.ref (ad 0), .int x1, .int x2, .ref ao]) 5]
  generalize (lg_sl ([.ref (ad 0), .int x1, .int x2, .ref ao]) ++ List.replicate (5 - (lg_sl ([.ref (ad 0), .int x1, .int x2, .ref ao])).length) Slot.unset).toArray = ls at hl ⊢
  have hl : lv_has ls 5 [(0, .ref (ad 0)), (1, .int x1), (2, .int x2), (3, .ref ao)] := hl
  obtain ⟨H, hH⟩ : ∃ z : Heap, z = s.heap := ⟨_, rfl⟩
  obtain ⟨locs, hlocs⟩ : ∃ z : List Loc, z = [] := ⟨_, rfl⟩
  rw [show W p l e (headSpec wsL_leaf rm_L_leaf).room s m args below meth c s.heap [] 0 0 = W p l e (headSpec wsL_leaf rm_L_leaf).room s m args below meth c H locs 0 0 from by rw [hH, hlocs]]
  have hP : va_P (dC, dI) vwCl (wLW cI cZ cJ cL nl nn ad ra ao S V9) H := by rw [hH]; exact hP
  have hS : va_S A s.heap H locs := by rw [hH, hlocs]; exact hS
  unfold wp_L_leaf at hw
  refine lv_aload_n hx hb dL_leaf_0 rfl (lv_at hl 3 rfl) ?_
  refine lv_iconst (v := 0) hx hb dL_leaf_1 (by decide) ?_
  refine lv_aload_n hx hb dL_leaf_2 rfl (lv_at hl 0 rfl) ?_
  refine lv_iload_n hx hb dL_leaf_3 rfl (lv_at hl 1 rfl) ?_
  refine lv_iload_n hx hb dL_leaf_4 rfl (lv_at hl 2 rfl) ?_
  have hPc := hP.sub (ws' := wTT cI cZ cJ nl nn ad ra S V9.1) [0, 1, 2, 3, 4, 5, 6, 7, 8, 9, 10, 11, 12, 13, 14, 15, 16, 17, 18, 19] rfl
  have hDc := hD.sub (ws' := wTT cI cZ cJ nl nn ad ra S V9.1) [0, 1, 2, 3, 4, 5, 6, 7, 8, 9, 10, 11, 12, 13, 14, 15, 16, 17, 18, 19] (by decide) rfl
  have hFc := va_free (wc := wTT cI cZ cJ nl nn ad ra S V9.1) hD hS hA [0, 1, 2, 3, 4, 5, 6, 7, 8, 9, 10, 11, 12, 13, 14, 15, 16, 17, 18, 19] rfl
  refine vx_calli (vx_runV (As := [.int x1, .int x2]) (rest := [.int 0, .ref ao]) ⟨hx, hb, hml, hown, hT⟩ (met_X3_leaf l hl9 dC dI cI cZ cJ cL sa ad ra H.size _ _ nl nn S V9.1 x1 x2 hw) (cwV 2 hT (gV k_219 k_221 k_222 k_57 k_220) rfl rfl rfl (by decide +kernel) ⟨(Nat.le_of_ble_eq_true rfl), (Nat.le_of_ble_eq_true rfl)⟩) ⟨bl_X, va_recv hK hPc (ci := 3) (q0 := 0) rfl rfl, fun U hU hW => ⟨rfl, by rw [hU], by rw [hU]; exact hPc, va_K.moved hW.alike hK, hDc.weaken (fun _ _ _ _ => trivial), hZ.call hW hU hS hFc⟩⟩ rfl rfl hl.1 rfl (lv_room (Nat.le_of_ble_eq_true rfl)) dL_leaf_5 ⟨Nat.le_of_ble_eq_true rfl, Nat.le_of_ble_eq_true rfl⟩) hS (fun q _ h => hFc q h) hFc (fun q _ h => hFc q h) (fun E ce q9 u9 t H1 locs ht hvm hw hB hz1 hk1 hS hce hcv hcl => ?_) (fun r_1 T_2 t H1 locs ht hvm hw hB hz1 hk1 hS => ?_)
  · obtain ⟨E9, T_2⟩ := u9
    obtain ⟨rfl, hP1, -, hD1⟩ := hB
    try dsimp only at hw
    rw [ht] at hP1
    obtain ⟨hP, hD⟩ := va_join (wr := [(ao, .inl (cL, 1, .inr (.inl V9.2)))]) (w1 := wTT cI cZ cJ nl nn ad ra S T_2) hP hD [0, 1, 2, 3, 4, 5, 6, 7, 8, 9, 10, 11, 12, 13, 14, 15, 16, 17, 18, 19] [20] rfl rfl (by decide) (by decide) hk1 hFc hP1 hD1
    generalize H1 = H at hP hS hce ⊢
    have hP := hP.sub (ws' := wLW cI cZ cJ cL nl nn ad ra ao S (T_2, V9.2)) [1, 2, 3, 4, 5, 6, 7, 8, 9, 10, 11, 12, 13, 14, 15, 16, 17, 18, 19, 20, 0] rfl
    have hD := hD.sub (ws' := wLW cI cZ cJ cL nl nn ad ra ao S (T_2, V9.2)) [1, 2, 3, 4, 5, 6, 7, 8, 9, 10, 11, 12, 13, 14, 15, 16, 17, 18, 19, 20, 0] (by decide) rfl
    rcases hw with ⟨rfl, hw⟩ | ⟨rfl, hw⟩
    · refine vx_catch (own := RL) (name := "java/lang/IllegalArgumentException") (E := "java/lang/IllegalArgumentException") hown [] ⟨0, 10, 13, 15⟩ [⟨0, 10, 17, 13⟩] (by rw [hTab]; rfl) (fun z hz => by cases hz) (by decide) (by decide) (hT _ k_223) (badW_use (List.mem_of_getElem? (i := 1) rfl) (hZ.2.2.1 _ (List.mem_of_getElem? (i := 1) rfl))) hce hcv hcl ?_
      refine lv_astore (lv' := [(4, .ref q9), (0, .ref (ad 0)), (1, .int x1), (2, .int x2), (3, .ref ao)]) hx hb dL_leaf_13 hl (by decide) rfl (fun ls hl => ?_)
      refine lv_iconst (v := 1) hx hb dL_leaf_15 (by decide) ?_
      exact W.iret (v := 1) hx hb hr (fun t ht hW => ⟨⟨1, (T_2, V9.2), rfl, hw, by rw [ht]; exact hP, va_K.moved hW.alike hK, hD⟩, hS.F ht⟩) hS.2.2 dL_leaf_16
    · refine vx_catch (own := RL) (name := "java/lang/IndexOutOfBoundsException") (E := "java/lang/IndexOutOfBoundsException") hown [⟨0, 10, 13, 15⟩] ⟨0, 10, 17, 13⟩ [] (by rw [hTab]; rfl) (by
          intro z hz
          simp only [List.mem_cons, List.not_mem_nil, or_false] at hz
          rcases hz with rfl
          · exact Or.inr ⟨by decide, "java/lang/IllegalArgumentException", (hT _ k_223), hN ("java/lang/IndexOutOfBoundsException", "java/lang/IllegalArgumentException") (by decide +kernel)⟩) (by decide) (by decide) (hT _ k_224) (badW_use (List.mem_of_getElem? (i := 0) rfl) (hZ.2.2.1 _ (List.mem_of_getElem? (i := 0) rfl))) hce hcv hcl ?_
      refine lv_astore (lv' := [(4, .ref q9), (0, .ref (ad 0)), (1, .int x1), (2, .int x2), (3, .ref ao)]) hx hb dL_leaf_17 hl (by decide) rfl (fun ls hl => ?_)
      refine lv_iconst (v := 2) hx hb dL_leaf_19 (by decide) ?_
      exact W.iret (v := 2) hx hb hr (fun t ht hW => ⟨⟨2, (T_2, V9.2), rfl, hw, by rw [ht]; exact hP, va_K.moved hW.alike hK, hD⟩, hS.F ht⟩) hS.2.2 dL_leaf_20
  · obtain ⟨hP1, -, hD1⟩ := hB
    try dsimp only at hw
    rw [ht] at hP1
    obtain ⟨hP, hD⟩ := va_join (wr := [(ao, .inl (cL, 1, .inr (.inl V9.2)))]) (w1 := wTT cI cZ cJ nl nn ad ra S T_2) hP hD [0, 1, 2, 3, 4, 5, 6, 7, 8, 9, 10, 11, 12, 13, 14, 15, 16, 17, 18, 19] [20] rfl rfl (by decide) (by decide) hk1 hFc hP1 hD1
    generalize H1 = H at hP hS ⊢
    have hP := hP.sub (ws' := wLW cI cZ cJ cL nl nn ad ra ao S (T_2, V9.2)) [1, 2, 3, 4, 5, 6, 7, 8, 9, 10, 11, 12, 13, 14, 15, 16, 17, 18, 19, 20, 0] rfl
    have hD := hD.sub (ws' := wLW cI cZ cJ cL nl nn ad ra ao S (T_2, V9.2)) [1, 2, 3, 4, 5, 6, 7, 8, 9, 10, 11, 12, 13, 14, 15, 16, 17, 18, 19, 20, 0] (by decide) rfl
    refine lv_i2l hx hb dL_leaf_8 rfl ?_
    obtain ⟨h_3, hw⟩ := hw
    refine va_last hx hb hK hP hD hS 20 3 rfl rfl h_3 dL_leaf_9 (fun H locs hP hD hS => ?_)
    have hP : va_P (dC, dI) vwCl (wLW cI cZ cJ cL nl nn ad ra ao S (T_2, (vp_updL V9.2 ((0 : Int32).toNatClampNeg) r_1.toInt64))) H := hP
    have hD : va_D A (wLW cI cZ cJ cL nl nn ad ra ao S (T_2, (vp_updL V9.2 ((0 : Int32).toNatClampNeg) r_1.toInt64))) := hD
    refine lv_goto (tgt := 21) hx hb dL_leaf_10 (by decide) ?_
    refine lv_iconst (v := 0) hx hb dL_leaf_21 (by decide) ?_
    exact W.iret (v := 0) hx hb hr (fun t ht hW => ⟨⟨0, (T_2, (vp_updL V9.2 ((0 : Int32).toNatClampNeg) r_1.toInt64)), rfl, hw, by rw [ht]; exact hP, va_K.moved hW.alike hK, hD⟩, hS.F ht⟩) hS.2.2 dL_leaf_22
def wp_L_bitAt (post : Int32 → vLW → Prop) (nl : Nat) (nn : Nat) (S : vSH) (V9 : vLW) (x1 : Int32) : Prop := wp_X3_bitAt (fun r_1 T_2 => vp_in 0 1 ∧ (post 0 (T_2, (vp_updL V9.2 ((0 : Int32).toNatClampNeg) r_1.toInt64)))) (fun E T_2 => ((E = "java/lang/IndexOutOfBoundsException" ∧ (post 1 (T_2, V9.2))))) nl nn S V9.1 x1
abbrev rm_L_bitAt : Room := { frames := 7, cells := 1, slots := 6, locals := 103 }
set_option maxHeartbeats 4000000 in
set_option maxRecDepth 100000 in
theorem met_L_bitAt (l : Launch) (hl9 : l.stackTraces = false) (dC : Nat → ClassId) (dI : Nat → Nat → Nat) (cI cZ cJ cL : ClassId) (sa : Nat → Nat) (ad ra : Nat → Nat) (ao : Nat) (sz : Nat) (post : Int32 → vLW → Prop) (nl : Nat) (nn : Nat) (S : vSH) (V9 : vLW) (x1 : Int32) (hw : wp_L_bitAt post nl nn S V9 x1) : Met l yL_bitAt wsL_bitAt rm_L_bitAt (pcL (dC, dI) (tysA cI cZ cJ cL) sa (wLW cI cZ cJ cL nl nn ad ra ao S V9) sz [.ref (ad 0), .int x1, .ref ao]) (va_Qi post (fun u t => qB (dC, dI) (tysA cI cZ cJ cL) (va_A (wLW cI cZ cJ cL nl nn ad ra ao S V9) sz) (wLW cI cZ cJ cL nl nn ad ra ao S u) t) (va_A (wLW cI cZ cJ cL nl nn ad ra ao S V9) sz)) 1 6 (va_A (wLW cI cZ cJ cL nl nn ad ra ao S V9) sz) := by
  refine va_MetW (cc := cL_bitAt) (maxL := 4) (ret := (some .int)) (by decide) rfl ?_
  intro p e s m args below meth c s₁ Bd hml hv
  obtain ⟨hargs, hsz, hP, hK, hD0, hZ, hN⟩ := hv
  have hx := Bd.exec
  have hb := Bd.bytes
  have hr := Bd.returns
  have hts := atoms_spec (ws := wsL_bitAt) Bd.pre
  have hT : ∀ w ∈ WALL, w.before args s = true := fun w h => hts w (List.mem_cons_of_mem _ h)
  have hown : s.vm.findClass RL = some m.cls := findClass_of_methodNamed Bd.named
  have hlocks := Bd.notSynchronized
  subst hsz
  have hD := hD0.self (sz := s.heap.size)
  generalize hAe : va_A (wLW cI cZ cJ cL nl nn ad ra ao S V9) s.heap.size = A at hD ⊢
  have hA : ∀ q : Nat, s.heap.size ≤ q → A q := fun q h => by rw [← hAe]; exact Or.inr h
  have hS : va_S A s.heap s.heap [] := va_S.rf
  rw [hAe] at hZ
  have hTab : c.exceptionTable.toList = tableOf [(0, 9, 12, 13)] := vx_table (x := yL_bitAt) Bd (hts _ List.mem_cons_self)
  have hP : va_P (dC, dI) vwCl (wLW cI cZ cJ cL nl nn ad ra ao S V9) s.heap := hP
  have hl := lv_entry ([.ref (ad 0), .int x1, .ref ao]) (n := 4) (Nat.le_of_ble_eq_true rfl)
  rw [show entryFrame m args 4 = F0 m 0 _ [] from by rw [hargs]; exact lg_entry_eq m ([.ref (ad 0), .int x1, .ref ao]) 4]
  generalize (lg_sl ([.ref (ad 0), .int x1, .ref ao]) ++ List.replicate (4 - (lg_sl ([.ref (ad 0), .int x1, .ref ao])).length) Slot.unset).toArray = ls at hl ⊢
  have hl : lv_has ls 4 [(0, .ref (ad 0)), (1, .int x1), (2, .ref ao)] := hl
  obtain ⟨H, hH⟩ : ∃ z : Heap, z = s.heap := ⟨_, rfl⟩
  obtain ⟨locs, hlocs⟩ : ∃ z : List Loc, z = [] := ⟨_, rfl⟩
  rw [show W p l e (headSpec wsL_bitAt rm_L_bitAt).room s m args below meth c s.heap [] 0 0 = W p l e (headSpec wsL_bitAt rm_L_bitAt).room s m args below meth c H locs 0 0 from by rw [hH, hlocs]]
  have hP : va_P (dC, dI) vwCl (wLW cI cZ cJ cL nl nn ad ra ao S V9) H := by rw [hH]; exact hP
  have hS : va_S A s.heap H locs := by rw [hH, hlocs]; exact hS
  unfold wp_L_bitAt at hw
  refine lv_aload_n hx hb dL_bitAt_0 rfl (lv_at hl 2 rfl) ?_
  refine lv_iconst (v := 0) hx hb dL_bitAt_1 (by decide) ?_
  refine lv_aload_n hx hb dL_bitAt_2 rfl (lv_at hl 0 rfl) ?_
  refine lv_iload_n hx hb dL_bitAt_3 rfl (lv_at hl 1 rfl) ?_
  have hPc := hP.sub (ws' := wTT cI cZ cJ nl nn ad ra S V9.1) [0, 1, 2, 3, 4, 5, 6, 7, 8, 9, 10, 11, 12, 13, 14, 15, 16, 17, 18, 19] rfl
  have hDc := hD.sub (ws' := wTT cI cZ cJ nl nn ad ra S V9.1) [0, 1, 2, 3, 4, 5, 6, 7, 8, 9, 10, 11, 12, 13, 14, 15, 16, 17, 18, 19] (by decide) rfl
  have hFc := va_free (wc := wTT cI cZ cJ nl nn ad ra S V9.1) hD hS hA [0, 1, 2, 3, 4, 5, 6, 7, 8, 9, 10, 11, 12, 13, 14, 15, 16, 17, 18, 19] rfl
  refine vx_calli (vx_runV (As := [.int x1]) (rest := [.int 0, .ref ao]) ⟨hx, hb, hml, hown, hT⟩ (met_X3_bitAt l hl9 dC dI cI cZ cJ cL sa ad ra H.size _ _ nl nn S V9.1 x1 hw) (cwV 1 hT (gV k_225 k_227 k_228 k_57 k_226) rfl rfl rfl (by decide +kernel) ⟨(Nat.le_of_ble_eq_true rfl), (Nat.le_of_ble_eq_true rfl)⟩) ⟨bl_X, va_recv hK hPc (ci := 3) (q0 := 0) rfl rfl, fun U hU hW => ⟨rfl, by rw [hU], by rw [hU]; exact hPc, va_K.moved hW.alike hK, hDc.weaken (fun _ _ _ _ => trivial), hZ.call hW hU hS hFc⟩⟩ rfl rfl hl.1 rfl (lv_room (Nat.le_of_ble_eq_true rfl)) dL_bitAt_4 ⟨Nat.le_of_ble_eq_true rfl, Nat.le_of_ble_eq_true rfl⟩) hS (fun q _ h => hFc q h) hFc (fun q _ h => hFc q h) (fun E ce q9 u9 t H1 locs ht hvm hw hB hz1 hk1 hS hce hcv hcl => ?_) (fun r_1 T_2 t H1 locs ht hvm hw hB hz1 hk1 hS => ?_)
  · obtain ⟨E9, T_2⟩ := u9
    obtain ⟨rfl, hP1, -, hD1⟩ := hB
    try dsimp only at hw
    rw [ht] at hP1
    obtain ⟨hP, hD⟩ := va_join (wr := [(ao, .inl (cL, 1, .inr (.inl V9.2)))]) (w1 := wTT cI cZ cJ nl nn ad ra S T_2) hP hD [0, 1, 2, 3, 4, 5, 6, 7, 8, 9, 10, 11, 12, 13, 14, 15, 16, 17, 18, 19] [20] rfl rfl (by decide) (by decide) hk1 hFc hP1 hD1
    generalize H1 = H at hP hS hce ⊢
    have hP := hP.sub (ws' := wLW cI cZ cJ cL nl nn ad ra ao S (T_2, V9.2)) [1, 2, 3, 4, 5, 6, 7, 8, 9, 10, 11, 12, 13, 14, 15, 16, 17, 18, 19, 20, 0] rfl
    have hD := hD.sub (ws' := wLW cI cZ cJ cL nl nn ad ra ao S (T_2, V9.2)) [1, 2, 3, 4, 5, 6, 7, 8, 9, 10, 11, 12, 13, 14, 15, 16, 17, 18, 19, 20, 0] (by decide) rfl
    rcases hw with ⟨rfl, hw⟩
    · refine vx_catch (own := RL) (name := "java/lang/IndexOutOfBoundsException") (E := "java/lang/IndexOutOfBoundsException") hown [] ⟨0, 9, 12, 13⟩ [] (by rw [hTab]; rfl) (fun z hz => by cases hz) (by decide) (by decide) (hT _ k_224) (badW_use (List.mem_of_getElem? (i := 0) rfl) (hZ.2.2.1 _ (List.mem_of_getElem? (i := 0) rfl))) hce hcv hcl ?_
      refine lv_astore_n (lv' := [(3, .ref q9), (0, .ref (ad 0)), (1, .int x1), (2, .ref ao)]) hx hb dL_bitAt_12 rfl hl (by decide) rfl (fun ls hl => ?_)
      refine lv_iconst (v := 1) hx hb dL_bitAt_13 (by decide) ?_
      exact W.iret (v := 1) hx hb hr (fun t ht hW => ⟨⟨1, (T_2, V9.2), rfl, hw, by rw [ht]; exact hP, va_K.moved hW.alike hK, hD⟩, hS.F ht⟩) hS.2.2 dL_bitAt_14
  · obtain ⟨hP1, -, hD1⟩ := hB
    try dsimp only at hw
    rw [ht] at hP1
    obtain ⟨hP, hD⟩ := va_join (wr := [(ao, .inl (cL, 1, .inr (.inl V9.2)))]) (w1 := wTT cI cZ cJ nl nn ad ra S T_2) hP hD [0, 1, 2, 3, 4, 5, 6, 7, 8, 9, 10, 11, 12, 13, 14, 15, 16, 17, 18, 19] [20] rfl rfl (by decide) (by decide) hk1 hFc hP1 hD1
    generalize H1 = H at hP hS ⊢
    have hP := hP.sub (ws' := wLW cI cZ cJ cL nl nn ad ra ao S (T_2, V9.2)) [1, 2, 3, 4, 5, 6, 7, 8, 9, 10, 11, 12, 13, 14, 15, 16, 17, 18, 19, 20, 0] rfl
    have hD := hD.sub (ws' := wLW cI cZ cJ cL nl nn ad ra ao S (T_2, V9.2)) [1, 2, 3, 4, 5, 6, 7, 8, 9, 10, 11, 12, 13, 14, 15, 16, 17, 18, 19, 20, 0] (by decide) rfl
    refine lv_i2l hx hb dL_bitAt_7 rfl ?_
    obtain ⟨h_3, hw⟩ := hw
    refine va_last hx hb hK hP hD hS 20 3 rfl rfl h_3 dL_bitAt_8 (fun H locs hP hD hS => ?_)
    have hP : va_P (dC, dI) vwCl (wLW cI cZ cJ cL nl nn ad ra ao S (T_2, (vp_updL V9.2 ((0 : Int32).toNatClampNeg) r_1.toInt64))) H := hP
    have hD : va_D A (wLW cI cZ cJ cL nl nn ad ra ao S (T_2, (vp_updL V9.2 ((0 : Int32).toNatClampNeg) r_1.toInt64))) := hD
    refine lv_goto (tgt := 15) hx hb dL_bitAt_9 (by decide) ?_
    refine lv_iconst (v := 0) hx hb dL_bitAt_15 (by decide) ?_
    exact W.iret (v := 0) hx hb hr (fun t ht hW => ⟨⟨0, (T_2, (vp_updL V9.2 ((0 : Int32).toNatClampNeg) r_1.toInt64)), rfl, hw, by rw [ht]; exact hP, va_K.moved hW.alike hK, hD⟩, hS.F ht⟩) hS.2.2 dL_bitAt_16
def wp_L_feed (post : Int32 → vLW → Prop) (nl : Nat) (nn : Nat) (S : vSH) (V9 : vLW) (x1 : Int32) : Prop := wp_X3_feed (fun r_1 T_2 => vp_in 0 1 ∧ (post 0 (T_2, (vp_updL V9.2 ((0 : Int32).toNatClampNeg) r_1.toInt64)))) (fun E T_2 => ((E = "java/lang/IllegalArgumentException" ∧ (post 1 (T_2, V9.2))) ∨ (E = "java/lang/UnsupportedOperationException" ∧ (post 2 (T_2, V9.2))))) nl nn S V9.1 x1
abbrev rm_L_feed : Room := { frames := 8, cells := 2, slots := 12, locals := 124 }
set_option maxHeartbeats 4000000 in
set_option maxRecDepth 100000 in
theorem met_L_feed (l : Launch) (hl9 : l.stackTraces = false) (dC : Nat → ClassId) (dI : Nat → Nat → Nat) (cI cZ cJ cL : ClassId) (sa : Nat → Nat) (ad ra : Nat → Nat) (ao : Nat) (sz : Nat) (post : Int32 → vLW → Prop) (nl : Nat) (nn : Nat) (S : vSH) (V9 : vLW) (x1 : Int32) (hw : wp_L_feed post nl nn S V9 x1) : Met l yL_feed wsL_feed rm_L_feed (pcL (dC, dI) (tysA cI cZ cJ cL) sa (wLW cI cZ cJ cL nl nn ad ra ao S V9) sz [.ref (ad 0), .int x1, .ref ao]) (va_Qi post (fun u t => qB (dC, dI) (tysA cI cZ cJ cL) (va_A (wLW cI cZ cJ cL nl nn ad ra ao S V9) sz) (wLW cI cZ cJ cL nl nn ad ra ao S u) t) (va_A (wLW cI cZ cJ cL nl nn ad ra ao S V9) sz)) 2 12 (va_A (wLW cI cZ cJ cL nl nn ad ra ao S V9) sz) := by
  refine va_MetW (cc := cL_feed) (maxL := 4) (ret := (some .int)) (by decide) rfl ?_
  intro p e s m args below meth c s₁ Bd hml hv
  obtain ⟨hargs, hsz, hP, hK, hD0, hZ, hN⟩ := hv
  have hx := Bd.exec
  have hb := Bd.bytes
  have hr := Bd.returns
  have hts := atoms_spec (ws := wsL_feed) Bd.pre
  have hT : ∀ w ∈ WALL, w.before args s = true := fun w h => hts w (List.mem_cons_of_mem _ h)
  have hown : s.vm.findClass RL = some m.cls := findClass_of_methodNamed Bd.named
  have hlocks := Bd.notSynchronized
  subst hsz
  have hD := hD0.self (sz := s.heap.size)
  generalize hAe : va_A (wLW cI cZ cJ cL nl nn ad ra ao S V9) s.heap.size = A at hD ⊢
  have hA : ∀ q : Nat, s.heap.size ≤ q → A q := fun q h => by rw [← hAe]; exact Or.inr h
  have hS : va_S A s.heap s.heap [] := va_S.rf
  rw [hAe] at hZ
  have hTab : c.exceptionTable.toList = tableOf [(0, 9, 12, 15), (0, 9, 15, 26)] := vx_table (x := yL_feed) Bd (hts _ List.mem_cons_self)
  have hP : va_P (dC, dI) vwCl (wLW cI cZ cJ cL nl nn ad ra ao S V9) s.heap := hP
  have hl := lv_entry ([.ref (ad 0), .int x1, .ref ao]) (n := 4) (Nat.le_of_ble_eq_true rfl)
  rw [show entryFrame m args 4 = F0 m 0 _ [] from by rw [hargs]; exact lg_entry_eq m ([.ref (ad 0), .int x1, .ref ao]) 4]
  generalize (lg_sl ([.ref (ad 0), .int x1, .ref ao]) ++ List.replicate (4 - (lg_sl ([.ref (ad 0), .int x1, .ref ao])).length) Slot.unset).toArray = ls at hl ⊢
  have hl : lv_has ls 4 [(0, .ref (ad 0)), (1, .int x1), (2, .ref ao)] := hl
  obtain ⟨H, hH⟩ : ∃ z : Heap, z = s.heap := ⟨_, rfl⟩
  obtain ⟨locs, hlocs⟩ : ∃ z : List Loc, z = [] := ⟨_, rfl⟩
  rw [show W p l e (headSpec wsL_feed rm_L_feed).room s m args below meth c s.heap [] 0 0 = W p l e (headSpec wsL_feed rm_L_feed).room s m args below meth c H locs 0 0 from by rw [hH, hlocs]]
  have hP : va_P (dC, dI) vwCl (wLW cI cZ cJ cL nl nn ad ra ao S V9) H := by rw [hH]; exact hP
  have hS : va_S A s.heap H locs := by rw [hH, hlocs]; exact hS
  unfold wp_L_feed at hw
  refine lv_aload_n hx hb dL_feed_0 rfl (lv_at hl 2 rfl) ?_
  refine lv_iconst (v := 0) hx hb dL_feed_1 (by decide) ?_
  refine lv_aload_n hx hb dL_feed_2 rfl (lv_at hl 0 rfl) ?_
  refine lv_iload_n hx hb dL_feed_3 rfl (lv_at hl 1 rfl) ?_
  have hPc := hP.sub (ws' := wTT cI cZ cJ nl nn ad ra S V9.1) [0, 1, 2, 3, 4, 5, 6, 7, 8, 9, 10, 11, 12, 13, 14, 15, 16, 17, 18, 19] rfl
  have hDc := hD.sub (ws' := wTT cI cZ cJ nl nn ad ra S V9.1) [0, 1, 2, 3, 4, 5, 6, 7, 8, 9, 10, 11, 12, 13, 14, 15, 16, 17, 18, 19] (by decide) rfl
  have hFc := va_free (wc := wTT cI cZ cJ nl nn ad ra S V9.1) hD hS hA [0, 1, 2, 3, 4, 5, 6, 7, 8, 9, 10, 11, 12, 13, 14, 15, 16, 17, 18, 19] rfl
  refine vx_calli (vx_runV (As := [.int x1]) (rest := [.int 0, .ref ao]) ⟨hx, hb, hml, hown, hT⟩ (met_X3_feed l hl9 dC dI cI cZ cJ cL sa ad ra H.size _ _ nl nn S V9.1 x1 hw) (cwV 1 hT (gV k_229 k_231 k_232 k_57 k_230) rfl rfl rfl (by decide +kernel) ⟨(Nat.le_of_ble_eq_true rfl), (Nat.le_of_ble_eq_true rfl)⟩) ⟨bl_X, va_recv hK hPc (ci := 3) (q0 := 0) rfl rfl, fun U hU hW => ⟨rfl, by rw [hU], by rw [hU]; exact hPc, va_K.moved hW.alike hK, hDc.weaken (fun _ _ _ _ => trivial), hZ.call hW hU hS hFc⟩⟩ rfl rfl hl.1 rfl (lv_room (Nat.le_of_ble_eq_true rfl)) dL_feed_4 ⟨Nat.le_of_ble_eq_true rfl, Nat.le_of_ble_eq_true rfl⟩) hS (fun q _ h => hFc q h) hFc (fun q _ h => hFc q h) (fun E ce q9 u9 t H1 locs ht hvm hw hB hz1 hk1 hS hce hcv hcl => ?_) (fun r_1 T_2 t H1 locs ht hvm hw hB hz1 hk1 hS => ?_)
  · obtain ⟨E9, T_2⟩ := u9
    obtain ⟨rfl, hP1, -, hD1⟩ := hB
    try dsimp only at hw
    rw [ht] at hP1
    obtain ⟨hP, hD⟩ := va_join (wr := [(ao, .inl (cL, 1, .inr (.inl V9.2)))]) (w1 := wTT cI cZ cJ nl nn ad ra S T_2) hP hD [0, 1, 2, 3, 4, 5, 6, 7, 8, 9, 10, 11, 12, 13, 14, 15, 16, 17, 18, 19] [20] rfl rfl (by decide) (by decide) hk1 hFc hP1 hD1
    generalize H1 = H at hP hS hce ⊢
    have hP := hP.sub (ws' := wLW cI cZ cJ cL nl nn ad ra ao S (T_2, V9.2)) [1, 2, 3, 4, 5, 6, 7, 8, 9, 10, 11, 12, 13, 14, 15, 16, 17, 18, 19, 20, 0] rfl
    have hD := hD.sub (ws' := wLW cI cZ cJ cL nl nn ad ra ao S (T_2, V9.2)) [1, 2, 3, 4, 5, 6, 7, 8, 9, 10, 11, 12, 13, 14, 15, 16, 17, 18, 19, 20, 0] (by decide) rfl
    rcases hw with ⟨rfl, hw⟩ | ⟨rfl, hw⟩
    · refine vx_catch (own := RL) (name := "java/lang/IllegalArgumentException") (E := "java/lang/IllegalArgumentException") hown [] ⟨0, 9, 12, 15⟩ [⟨0, 9, 15, 26⟩] (by rw [hTab]; rfl) (fun z hz => by cases hz) (by decide) (by decide) (hT _ k_223) (badW_use (List.mem_of_getElem? (i := 1) rfl) (hZ.2.2.1 _ (List.mem_of_getElem? (i := 1) rfl))) hce hcv hcl ?_
      refine lv_astore_n (lv' := [(3, .ref q9), (0, .ref (ad 0)), (1, .int x1), (2, .ref ao)]) hx hb dL_feed_12 rfl hl (by decide) rfl (fun ls hl => ?_)
      refine lv_iconst (v := 1) hx hb dL_feed_13 (by decide) ?_
      exact W.iret (v := 1) hx hb hr (fun t ht hW => ⟨⟨1, (T_2, V9.2), rfl, hw, by rw [ht]; exact hP, va_K.moved hW.alike hK, hD⟩, hS.F ht⟩) hS.2.2 dL_feed_14
    · refine vx_catch (own := RL) (name := "java/lang/UnsupportedOperationException") (E := "java/lang/UnsupportedOperationException") hown [⟨0, 9, 12, 15⟩] ⟨0, 9, 15, 26⟩ [] (by rw [hTab]; rfl) (by
          intro z hz
          simp only [List.mem_cons, List.not_mem_nil, or_false] at hz
          rcases hz with rfl
          · exact Or.inr ⟨by decide, "java/lang/IllegalArgumentException", (hT _ k_223), hN ("java/lang/UnsupportedOperationException", "java/lang/IllegalArgumentException") (by decide +kernel)⟩) (by decide) (by decide) (hT _ k_233) (badW_use (List.mem_of_getElem? (i := 3) rfl) (hZ.2.2.1 _ (List.mem_of_getElem? (i := 3) rfl))) hce hcv hcl ?_
      refine lv_astore_n (lv' := [(3, .ref q9), (0, .ref (ad 0)), (1, .int x1), (2, .ref ao)]) hx hb dL_feed_15 rfl hl (by decide) rfl (fun ls hl => ?_)
      refine lv_iconst (v := 2) hx hb dL_feed_16 (by decide) ?_
      exact W.iret (v := 2) hx hb hr (fun t ht hW => ⟨⟨2, (T_2, V9.2), rfl, hw, by rw [ht]; exact hP, va_K.moved hW.alike hK, hD⟩, hS.F ht⟩) hS.2.2 dL_feed_17
  · obtain ⟨hP1, -, hD1⟩ := hB
    try dsimp only at hw
    rw [ht] at hP1
    obtain ⟨hP, hD⟩ := va_join (wr := [(ao, .inl (cL, 1, .inr (.inl V9.2)))]) (w1 := wTT cI cZ cJ nl nn ad ra S T_2) hP hD [0, 1, 2, 3, 4, 5, 6, 7, 8, 9, 10, 11, 12, 13, 14, 15, 16, 17, 18, 19] [20] rfl rfl (by decide) (by decide) hk1 hFc hP1 hD1
    generalize H1 = H at hP hS ⊢
    have hP := hP.sub (ws' := wLW cI cZ cJ cL nl nn ad ra ao S (T_2, V9.2)) [1, 2, 3, 4, 5, 6, 7, 8, 9, 10, 11, 12, 13, 14, 15, 16, 17, 18, 19, 20, 0] rfl
    have hD := hD.sub (ws' := wLW cI cZ cJ cL nl nn ad ra ao S (T_2, V9.2)) [1, 2, 3, 4, 5, 6, 7, 8, 9, 10, 11, 12, 13, 14, 15, 16, 17, 18, 19, 20, 0] (by decide) rfl
    refine lv_i2l hx hb dL_feed_7 rfl ?_
    obtain ⟨h_3, hw⟩ := hw
    refine va_last hx hb hK hP hD hS 20 3 rfl rfl h_3 dL_feed_8 (fun H locs hP hD hS => ?_)
    have hP : va_P (dC, dI) vwCl (wLW cI cZ cJ cL nl nn ad ra ao S (T_2, (vp_updL V9.2 ((0 : Int32).toNatClampNeg) r_1.toInt64))) H := hP
    have hD : va_D A (wLW cI cZ cJ cL nl nn ad ra ao S (T_2, (vp_updL V9.2 ((0 : Int32).toNatClampNeg) r_1.toInt64))) := hD
    refine lv_goto (tgt := 18) hx hb dL_feed_9 (by decide) ?_
    refine lv_iconst (v := 0) hx hb dL_feed_18 (by decide) ?_
    exact W.iret (v := 0) hx hb hr (fun t ht hW => ⟨⟨0, (T_2, (vp_updL V9.2 ((0 : Int32).toNatClampNeg) r_1.toInt64)), rfl, hw, by rw [ht]; exact hP, va_K.moved hW.alike hK, hD⟩, hS.F ht⟩) hS.2.2 dL_feed_19
def wp_L_pass (post : Int32 → vLW → Prop) (nl : Nat) (nn : Nat) (S : vSH) (V9 : vLW) (x1 : Int32) : Prop := wp_X3_pass (fun r_1 T_2 => vp_in 0 1 ∧ (post 0 (T_2, (vp_updL V9.2 ((0 : Int32).toNatClampNeg) r_1.toInt64)))) (fun E T_2 => ((E = "java/lang/IllegalArgumentException" ∧ (post 1 (T_2, V9.2))) ∨ (E = "java/lang/UnsupportedOperationException" ∧ (post 2 (T_2, V9.2))))) nl nn S V9.1 x1
abbrev rm_L_pass : Room := { frames := 8, cells := 2, slots := 12, locals := 126 }
set_option maxHeartbeats 4000000 in
set_option maxRecDepth 100000 in
theorem met_L_pass (l : Launch) (hl9 : l.stackTraces = false) (dC : Nat → ClassId) (dI : Nat → Nat → Nat) (cI cZ cJ cL : ClassId) (sa : Nat → Nat) (ad ra : Nat → Nat) (ao : Nat) (sz : Nat) (post : Int32 → vLW → Prop) (nl : Nat) (nn : Nat) (S : vSH) (V9 : vLW) (x1 : Int32) (hw : wp_L_pass post nl nn S V9 x1) : Met l yL_pass wsL_pass rm_L_pass (pcL (dC, dI) (tysA cI cZ cJ cL) sa (wLW cI cZ cJ cL nl nn ad ra ao S V9) sz [.ref (ad 0), .int x1, .ref ao]) (va_Qi post (fun u t => qB (dC, dI) (tysA cI cZ cJ cL) (va_A (wLW cI cZ cJ cL nl nn ad ra ao S V9) sz) (wLW cI cZ cJ cL nl nn ad ra ao S u) t) (va_A (wLW cI cZ cJ cL nl nn ad ra ao S V9) sz)) 2 12 (va_A (wLW cI cZ cJ cL nl nn ad ra ao S V9) sz) := by
  refine va_MetW (cc := cL_pass) (maxL := 4) (ret := (some .int)) (by decide) rfl ?_
  intro p e s m args below meth c s₁ Bd hml hv
  obtain ⟨hargs, hsz, hP, hK, hD0, hZ, hN⟩ := hv
  have hx := Bd.exec
  have hb := Bd.bytes
  have hr := Bd.returns
  have hts := atoms_spec (ws := wsL_pass) Bd.pre
  have hT : ∀ w ∈ WALL, w.before args s = true := fun w h => hts w (List.mem_cons_of_mem _ h)
  have hown : s.vm.findClass RL = some m.cls := findClass_of_methodNamed Bd.named
  have hlocks := Bd.notSynchronized
  subst hsz
  have hD := hD0.self (sz := s.heap.size)
  generalize hAe : va_A (wLW cI cZ cJ cL nl nn ad ra ao S V9) s.heap.size = A at hD ⊢
  have hA : ∀ q : Nat, s.heap.size ≤ q → A q := fun q h => by rw [← hAe]; exact Or.inr h
  have hS : va_S A s.heap s.heap [] := va_S.rf
  rw [hAe] at hZ
  have hTab : c.exceptionTable.toList = tableOf [(0, 9, 12, 15), (0, 9, 15, 26)] := vx_table (x := yL_pass) Bd (hts _ List.mem_cons_self)
  have hP : va_P (dC, dI) vwCl (wLW cI cZ cJ cL nl nn ad ra ao S V9) s.heap := hP
  have hl := lv_entry ([.ref (ad 0), .int x1, .ref ao]) (n := 4) (Nat.le_of_ble_eq_true rfl)
  rw [show entryFrame m args 4 = F0 m 0 _ [] from by rw [hargs]; exact lg_entry_eq m ([.ref (ad 0), .int x1, .ref ao]) 4]
  generalize (lg_sl ([.ref (ad 0), .int x1, .ref ao]) ++ List.replicate (4 - (lg_sl ([.ref (ad 0), .int x1, .ref ao])).length) Slot.unset).toArray = ls at hl ⊢
  have hl : lv_has ls 4 [(0, .ref (ad 0)), (1, .int x1), (2, .ref ao)] := hl
  obtain ⟨H, hH⟩ : ∃ z : Heap, z = s.heap := ⟨_, rfl⟩
  obtain ⟨locs, hlocs⟩ : ∃ z : List Loc, z = [] := ⟨_, rfl⟩
  rw [show W p l e (headSpec wsL_pass rm_L_pass).room s m args below meth c s.heap [] 0 0 = W p l e (headSpec wsL_pass rm_L_pass).room s m args below meth c H locs 0 0 from by rw [hH, hlocs]]
  have hP : va_P (dC, dI) vwCl (wLW cI cZ cJ cL nl nn ad ra ao S V9) H := by rw [hH]; exact hP
  have hS : va_S A s.heap H locs := by rw [hH, hlocs]; exact hS
  unfold wp_L_pass at hw
  refine lv_aload_n hx hb dL_pass_0 rfl (lv_at hl 2 rfl) ?_
  refine lv_iconst (v := 0) hx hb dL_pass_1 (by decide) ?_
  refine lv_aload_n hx hb dL_pass_2 rfl (lv_at hl 0 rfl) ?_
  refine lv_iload_n hx hb dL_pass_3 rfl (lv_at hl 1 rfl) ?_
  have hPc := hP.sub (ws' := wTT cI cZ cJ nl nn ad ra S V9.1) [0, 1, 2, 3, 4, 5, 6, 7, 8, 9, 10, 11, 12, 13, 14, 15, 16, 17, 18, 19] rfl
  have hDc := hD.sub (ws' := wTT cI cZ cJ nl nn ad ra S V9.1) [0, 1, 2, 3, 4, 5, 6, 7, 8, 9, 10, 11, 12, 13, 14, 15, 16, 17, 18, 19] (by decide) rfl
  have hFc := va_free (wc := wTT cI cZ cJ nl nn ad ra S V9.1) hD hS hA [0, 1, 2, 3, 4, 5, 6, 7, 8, 9, 10, 11, 12, 13, 14, 15, 16, 17, 18, 19] rfl
  refine vx_calli (vx_runV (As := [.int x1]) (rest := [.int 0, .ref ao]) ⟨hx, hb, hml, hown, hT⟩ (met_X3_pass l hl9 dC dI cI cZ cJ cL sa ad ra H.size _ _ nl nn S V9.1 x1 hw) (cwV 1 hT (gV k_234 k_236 k_237 k_57 k_235) rfl rfl rfl (by decide +kernel) ⟨(Nat.le_of_ble_eq_true rfl), (Nat.le_of_ble_eq_true rfl)⟩) ⟨bl_X, va_recv hK hPc (ci := 3) (q0 := 0) rfl rfl, fun U hU hW => ⟨rfl, by rw [hU], by rw [hU]; exact hPc, va_K.moved hW.alike hK, hDc.weaken (fun _ _ _ _ => trivial), hZ.call hW hU hS hFc⟩⟩ rfl rfl hl.1 rfl (lv_room (Nat.le_of_ble_eq_true rfl)) dL_pass_4 ⟨Nat.le_of_ble_eq_true rfl, Nat.le_of_ble_eq_true rfl⟩) hS (fun q _ h => hFc q h) hFc (fun q _ h => hFc q h) (fun E ce q9 u9 t H1 locs ht hvm hw hB hz1 hk1 hS hce hcv hcl => ?_) (fun r_1 T_2 t H1 locs ht hvm hw hB hz1 hk1 hS => ?_)
  · obtain ⟨E9, T_2⟩ := u9
    obtain ⟨rfl, hP1, -, hD1⟩ := hB
    try dsimp only at hw
    rw [ht] at hP1
    obtain ⟨hP, hD⟩ := va_join (wr := [(ao, .inl (cL, 1, .inr (.inl V9.2)))]) (w1 := wTT cI cZ cJ nl nn ad ra S T_2) hP hD [0, 1, 2, 3, 4, 5, 6, 7, 8, 9, 10, 11, 12, 13, 14, 15, 16, 17, 18, 19] [20] rfl rfl (by decide) (by decide) hk1 hFc hP1 hD1
    generalize H1 = H at hP hS hce ⊢
    have hP := hP.sub (ws' := wLW cI cZ cJ cL nl nn ad ra ao S (T_2, V9.2)) [1, 2, 3, 4, 5, 6, 7, 8, 9, 10, 11, 12, 13, 14, 15, 16, 17, 18, 19, 20, 0] rfl
    have hD := hD.sub (ws' := wLW cI cZ cJ cL nl nn ad ra ao S (T_2, V9.2)) [1, 2, 3, 4, 5, 6, 7, 8, 9, 10, 11, 12, 13, 14, 15, 16, 17, 18, 19, 20, 0] (by decide) rfl
    rcases hw with ⟨rfl, hw⟩ | ⟨rfl, hw⟩
    · refine vx_catch (own := RL) (name := "java/lang/IllegalArgumentException") (E := "java/lang/IllegalArgumentException") hown [] ⟨0, 9, 12, 15⟩ [⟨0, 9, 15, 26⟩] (by rw [hTab]; rfl) (fun z hz => by cases hz) (by decide) (by decide) (hT _ k_223) (badW_use (List.mem_of_getElem? (i := 1) rfl) (hZ.2.2.1 _ (List.mem_of_getElem? (i := 1) rfl))) hce hcv hcl ?_
      refine lv_astore_n (lv' := [(3, .ref q9), (0, .ref (ad 0)), (1, .int x1), (2, .ref ao)]) hx hb dL_pass_12 rfl hl (by decide) rfl (fun ls hl => ?_)
      refine lv_iconst (v := 1) hx hb dL_pass_13 (by decide) ?_
      exact W.iret (v := 1) hx hb hr (fun t ht hW => ⟨⟨1, (T_2, V9.2), rfl, hw, by rw [ht]; exact hP, va_K.moved hW.alike hK, hD⟩, hS.F ht⟩) hS.2.2 dL_pass_14
    · refine vx_catch (own := RL) (name := "java/lang/UnsupportedOperationException") (E := "java/lang/UnsupportedOperationException") hown [⟨0, 9, 12, 15⟩] ⟨0, 9, 15, 26⟩ [] (by rw [hTab]; rfl) (by
          intro z hz
          simp only [List.mem_cons, List.not_mem_nil, or_false] at hz
          rcases hz with rfl
          · exact Or.inr ⟨by decide, "java/lang/IllegalArgumentException", (hT _ k_223), hN ("java/lang/UnsupportedOperationException", "java/lang/IllegalArgumentException") (by decide +kernel)⟩) (by decide) (by decide) (hT _ k_233) (badW_use (List.mem_of_getElem? (i := 3) rfl) (hZ.2.2.1 _ (List.mem_of_getElem? (i := 3) rfl))) hce hcv hcl ?_
      refine lv_astore_n (lv' := [(3, .ref q9), (0, .ref (ad 0)), (1, .int x1), (2, .ref ao)]) hx hb dL_pass_15 rfl hl (by decide) rfl (fun ls hl => ?_)
      refine lv_iconst (v := 2) hx hb dL_pass_16 (by decide) ?_
      exact W.iret (v := 2) hx hb hr (fun t ht hW => ⟨⟨2, (T_2, V9.2), rfl, hw, by rw [ht]; exact hP, va_K.moved hW.alike hK, hD⟩, hS.F ht⟩) hS.2.2 dL_pass_17
  · obtain ⟨hP1, -, hD1⟩ := hB
    try dsimp only at hw
    rw [ht] at hP1
    obtain ⟨hP, hD⟩ := va_join (wr := [(ao, .inl (cL, 1, .inr (.inl V9.2)))]) (w1 := wTT cI cZ cJ nl nn ad ra S T_2) hP hD [0, 1, 2, 3, 4, 5, 6, 7, 8, 9, 10, 11, 12, 13, 14, 15, 16, 17, 18, 19] [20] rfl rfl (by decide) (by decide) hk1 hFc hP1 hD1
    generalize H1 = H at hP hS ⊢
    have hP := hP.sub (ws' := wLW cI cZ cJ cL nl nn ad ra ao S (T_2, V9.2)) [1, 2, 3, 4, 5, 6, 7, 8, 9, 10, 11, 12, 13, 14, 15, 16, 17, 18, 19, 20, 0] rfl
    have hD := hD.sub (ws' := wLW cI cZ cJ cL nl nn ad ra ao S (T_2, V9.2)) [1, 2, 3, 4, 5, 6, 7, 8, 9, 10, 11, 12, 13, 14, 15, 16, 17, 18, 19, 20, 0] (by decide) rfl
    refine lv_i2l hx hb dL_pass_7 rfl ?_
    obtain ⟨h_3, hw⟩ := hw
    refine va_last hx hb hK hP hD hS 20 3 rfl rfl h_3 dL_pass_8 (fun H locs hP hD hS => ?_)
    have hP : va_P (dC, dI) vwCl (wLW cI cZ cJ cL nl nn ad ra ao S (T_2, (vp_updL V9.2 ((0 : Int32).toNatClampNeg) r_1.toInt64))) H := hP
    have hD : va_D A (wLW cI cZ cJ cL nl nn ad ra ao S (T_2, (vp_updL V9.2 ((0 : Int32).toNatClampNeg) r_1.toInt64))) := hD
    refine lv_goto (tgt := 18) hx hb dL_pass_9 (by decide) ?_
    refine lv_iconst (v := 0) hx hb dL_pass_18 (by decide) ?_
    exact W.iret (v := 0) hx hb hr (fun t ht hW => ⟨⟨0, (T_2, (vp_updL V9.2 ((0 : Int32).toNatClampNeg) r_1.toInt64)), rfl, hw, by rw [ht]; exact hP, va_K.moved hW.alike hK, hD⟩, hS.F ht⟩) hS.2.2 dL_pass_19
def wp_L_known (post : Int32 → vLW → Prop) (nl : Nat) (nn : Nat) (S : vSH) (V9 : vLW) (x1 : Int32) (x2 : Int32) : Prop := wp_X3_known (fun r_1 T_2 => vp_in 0 1 ∧ (post 0 (T_2, (vp_updL V9.2 ((0 : Int32).toNatClampNeg) r_1.toInt64)))) (fun E T_2 => ((E = "java/lang/IndexOutOfBoundsException" ∧ (post 1 (T_2, V9.2))))) nl nn S V9.1 x1 x2
abbrev rm_L_known : Room := { frames := 8, cells := 1, slots := 6, locals := 129 }
set_option maxHeartbeats 4000000 in
set_option maxRecDepth 100000 in
theorem met_L_known (l : Launch) (hl9 : l.stackTraces = false) (dC : Nat → ClassId) (dI : Nat → Nat → Nat) (cI cZ cJ cL : ClassId) (sa : Nat → Nat) (ad ra : Nat → Nat) (ao : Nat) (sz : Nat) (post : Int32 → vLW → Prop) (nl : Nat) (nn : Nat) (S : vSH) (V9 : vLW) (x1 : Int32) (x2 : Int32) (hw : wp_L_known post nl nn S V9 x1 x2) : Met l yL_known wsL_known rm_L_known (pcL (dC, dI) (tysA cI cZ cJ cL) sa (wLW cI cZ cJ cL nl nn ad ra ao S V9) sz [.ref (ad 0), .int x1, .int x2, .ref ao]) (va_Qi post (fun u t => qB (dC, dI) (tysA cI cZ cJ cL) (va_A (wLW cI cZ cJ cL nl nn ad ra ao S V9) sz) (wLW cI cZ cJ cL nl nn ad ra ao S u) t) (va_A (wLW cI cZ cJ cL nl nn ad ra ao S V9) sz)) 1 6 (va_A (wLW cI cZ cJ cL nl nn ad ra ao S V9) sz) := by
  refine va_MetW (cc := cL_known) (maxL := 5) (ret := (some .int)) (by decide) rfl ?_
  intro p e s m args below meth c s₁ Bd hml hv
  obtain ⟨hargs, hsz, hP, hK, hD0, hZ, hN⟩ := hv
  have hx := Bd.exec
  have hb := Bd.bytes
  have hr := Bd.returns
  have hts := atoms_spec (ws := wsL_known) Bd.pre
  have hT : ∀ w ∈ WALL, w.before args s = true := fun w h => hts w (List.mem_cons_of_mem _ h)
  have hown : s.vm.findClass RL = some m.cls := findClass_of_methodNamed Bd.named
  have hlocks := Bd.notSynchronized
  subst hsz
  have hD := hD0.self (sz := s.heap.size)
  generalize hAe : va_A (wLW cI cZ cJ cL nl nn ad ra ao S V9) s.heap.size = A at hD ⊢
  have hA : ∀ q : Nat, s.heap.size ≤ q → A q := fun q h => by rw [← hAe]; exact Or.inr h
  have hS : va_S A s.heap s.heap [] := va_S.rf
  rw [hAe] at hZ
  have hTab : c.exceptionTable.toList = tableOf [(0, 10, 13, 13)] := vx_table (x := yL_known) Bd (hts _ List.mem_cons_self)
  have hP : va_P (dC, dI) vwCl (wLW cI cZ cJ cL nl nn ad ra ao S V9) s.heap := hP
  have hl := lv_entry ([.ref (ad 0), .int x1, .int x2, .ref ao]) (n := 5) (Nat.le_of_ble_eq_true rfl)
  rw [show entryFrame m args 5 = F0 m 0 _ [] from by rw [hargs]; exact lg_entry_eq m ([.ref (ad 0), .int x1, .int x2, .ref ao]) 5]
  generalize (lg_sl ([.ref (ad 0), .int x1, .int x2, .ref ao]) ++ List.replicate (5 - (lg_sl ([.ref (ad 0), .int x1, .int x2, .ref ao])).length) Slot.unset).toArray = ls at hl ⊢
  have hl : lv_has ls 5 [(0, .ref (ad 0)), (1, .int x1), (2, .int x2), (3, .ref ao)] := hl
  obtain ⟨H, hH⟩ : ∃ z : Heap, z = s.heap := ⟨_, rfl⟩
  obtain ⟨locs, hlocs⟩ : ∃ z : List Loc, z = [] := ⟨_, rfl⟩
  rw [show W p l e (headSpec wsL_known rm_L_known).room s m args below meth c s.heap [] 0 0 = W p l e (headSpec wsL_known rm_L_known).room s m args below meth c H locs 0 0 from by rw [hH, hlocs]]
  have hP : va_P (dC, dI) vwCl (wLW cI cZ cJ cL nl nn ad ra ao S V9) H := by rw [hH]; exact hP
  have hS : va_S A s.heap H locs := by rw [hH, hlocs]; exact hS
  unfold wp_L_known at hw
  refine lv_aload_n hx hb dL_known_0 rfl (lv_at hl 3 rfl) ?_
  refine lv_iconst (v := 0) hx hb dL_known_1 (by decide) ?_
  refine lv_aload_n hx hb dL_known_2 rfl (lv_at hl 0 rfl) ?_
  refine lv_iload_n hx hb dL_known_3 rfl (lv_at hl 1 rfl) ?_
  refine lv_iload_n hx hb dL_known_4 rfl (lv_at hl 2 rfl) ?_
  have hPc := hP.sub (ws' := wTT cI cZ cJ nl nn ad ra S V9.1) [0, 1, 2, 3, 4, 5, 6, 7, 8, 9, 10, 11, 12, 13, 14, 15, 16, 17, 18, 19] rfl
  have hDc := hD.sub (ws' := wTT cI cZ cJ nl nn ad ra S V9.1) [0, 1, 2, 3, 4, 5, 6, 7, 8, 9, 10, 11, 12, 13, 14, 15, 16, 17, 18, 19] (by decide) rfl
  have hFc := va_free (wc := wTT cI cZ cJ nl nn ad ra S V9.1) hD hS hA [0, 1, 2, 3, 4, 5, 6, 7, 8, 9, 10, 11, 12, 13, 14, 15, 16, 17, 18, 19] rfl
  refine vx_calli (vx_runV (As := [.int x1, .int x2]) (rest := [.int 0, .ref ao]) ⟨hx, hb, hml, hown, hT⟩ (met_X3_known l hl9 dC dI cI cZ cJ cL sa ad ra H.size _ _ nl nn S V9.1 x1 x2 hw) (cwV 2 hT (gV k_238 k_240 k_241 k_57 k_239) rfl rfl rfl (by decide +kernel) ⟨(Nat.le_of_ble_eq_true rfl), (Nat.le_of_ble_eq_true rfl)⟩) ⟨bl_X, va_recv hK hPc (ci := 3) (q0 := 0) rfl rfl, fun U hU hW => ⟨rfl, by rw [hU], by rw [hU]; exact hPc, va_K.moved hW.alike hK, hDc.weaken (fun _ _ _ _ => trivial), hZ.call hW hU hS hFc⟩⟩ rfl rfl hl.1 rfl (lv_room (Nat.le_of_ble_eq_true rfl)) dL_known_5 ⟨Nat.le_of_ble_eq_true rfl, Nat.le_of_ble_eq_true rfl⟩) hS (fun q _ h => hFc q h) hFc (fun q _ h => hFc q h) (fun E ce q9 u9 t H1 locs ht hvm hw hB hz1 hk1 hS hce hcv hcl => ?_) (fun r_1 T_2 t H1 locs ht hvm hw hB hz1 hk1 hS => ?_)
  · obtain ⟨E9, T_2⟩ := u9
    obtain ⟨rfl, hP1, -, hD1⟩ := hB
    try dsimp only at hw
    rw [ht] at hP1
    obtain ⟨hP, hD⟩ := va_join (wr := [(ao, .inl (cL, 1, .inr (.inl V9.2)))]) (w1 := wTT cI cZ cJ nl nn ad ra S T_2) hP hD [0, 1, 2, 3, 4, 5, 6, 7, 8, 9, 10, 11, 12, 13, 14, 15, 16, 17, 18, 19] [20] rfl rfl (by decide) (by decide) hk1 hFc hP1 hD1
    generalize H1 = H at hP hS hce ⊢
    have hP := hP.sub (ws' := wLW cI cZ cJ cL nl nn ad ra ao S (T_2, V9.2)) [1, 2, 3, 4, 5, 6, 7, 8, 9, 10, 11, 12, 13, 14, 15, 16, 17, 18, 19, 20, 0] rfl
    have hD := hD.sub (ws' := wLW cI cZ cJ cL nl nn ad ra ao S (T_2, V9.2)) [1, 2, 3, 4, 5, 6, 7, 8, 9, 10, 11, 12, 13, 14, 15, 16, 17, 18, 19, 20, 0] (by decide) rfl
    rcases hw with ⟨rfl, hw⟩
    · refine vx_catch (own := RL) (name := "java/lang/IndexOutOfBoundsException") (E := "java/lang/IndexOutOfBoundsException") hown [] ⟨0, 10, 13, 13⟩ [] (by rw [hTab]; rfl) (fun z hz => by cases hz) (by decide) (by decide) (hT _ k_224) (badW_use (List.mem_of_getElem? (i := 0) rfl) (hZ.2.2.1 _ (List.mem_of_getElem? (i := 0) rfl))) hce hcv hcl ?_
      refine lv_astore (lv' := [(4, .ref q9), (0, .ref (ad 0)), (1, .int x1), (2, .int x2), (3, .ref ao)]) hx hb dL_known_13 hl (by decide) rfl (fun ls hl => ?_)
      refine lv_iconst (v := 1) hx hb dL_known_15 (by decide) ?_
      exact W.iret (v := 1) hx hb hr (fun t ht hW => ⟨⟨1, (T_2, V9.2), rfl, hw, by rw [ht]; exact hP, va_K.moved hW.alike hK, hD⟩, hS.F ht⟩) hS.2.2 dL_known_16
  · obtain ⟨hP1, -, hD1⟩ := hB
    try dsimp only at hw
    rw [ht] at hP1
    obtain ⟨hP, hD⟩ := va_join (wr := [(ao, .inl (cL, 1, .inr (.inl V9.2)))]) (w1 := wTT cI cZ cJ nl nn ad ra S T_2) hP hD [0, 1, 2, 3, 4, 5, 6, 7, 8, 9, 10, 11, 12, 13, 14, 15, 16, 17, 18, 19] [20] rfl rfl (by decide) (by decide) hk1 hFc hP1 hD1
    generalize H1 = H at hP hS ⊢
    have hP := hP.sub (ws' := wLW cI cZ cJ cL nl nn ad ra ao S (T_2, V9.2)) [1, 2, 3, 4, 5, 6, 7, 8, 9, 10, 11, 12, 13, 14, 15, 16, 17, 18, 19, 20, 0] rfl
    have hD := hD.sub (ws' := wLW cI cZ cJ cL nl nn ad ra ao S (T_2, V9.2)) [1, 2, 3, 4, 5, 6, 7, 8, 9, 10, 11, 12, 13, 14, 15, 16, 17, 18, 19, 20, 0] (by decide) rfl
    refine lv_i2l hx hb dL_known_8 rfl ?_
    obtain ⟨h_3, hw⟩ := hw
    refine va_last hx hb hK hP hD hS 20 3 rfl rfl h_3 dL_known_9 (fun H locs hP hD hS => ?_)
    have hP : va_P (dC, dI) vwCl (wLW cI cZ cJ cL nl nn ad ra ao S (T_2, (vp_updL V9.2 ((0 : Int32).toNatClampNeg) r_1.toInt64))) H := hP
    have hD : va_D A (wLW cI cZ cJ cL nl nn ad ra ao S (T_2, (vp_updL V9.2 ((0 : Int32).toNatClampNeg) r_1.toInt64))) := hD
    refine lv_goto (tgt := 17) hx hb dL_known_10 (by decide) ?_
    refine lv_iconst (v := 0) hx hb dL_known_17 (by decide) ?_
    exact W.iret (v := 0) hx hb hr (fun t ht hW => ⟨⟨0, (T_2, (vp_updL V9.2 ((0 : Int32).toNatClampNeg) r_1.toInt64)), rfl, hw, by rw [ht]; exact hP, va_K.moved hW.alike hK, hD⟩, hS.F ht⟩) hS.2.2 dL_known_18
def wp_L_bound (post : Int32 → vLW → Prop) (nl : Nat) (nn : Nat) (S : vSH) (V9 : vLW) (x1 : Int32) (x2 : Int32) (x3 : Int32) (x4 : Int32) : Prop := wp_X3_bound (fun r_1 T_2 => vp_in 0 1 ∧ (post 0 (T_2, (vp_updL V9.2 ((0 : Int32).toNatClampNeg) r_1.toInt64)))) (fun E T_2 => ((E = "java/lang/IndexOutOfBoundsException" ∧ (post 1 (T_2, V9.2))))) nl nn S V9.1 x1 x2 x3 x4
abbrev rm_L_bound : Room := { frames := 8, cells := 1, slots := 6, locals := 130 }
set_option maxHeartbeats 4000000 in
set_option maxRecDepth 100000 in
theorem met_L_bound (l : Launch) (hl9 : l.stackTraces = false) (dC : Nat → ClassId) (dI : Nat → Nat → Nat) (cI cZ cJ cL : ClassId) (sa : Nat → Nat) (ad ra : Nat → Nat) (ao : Nat) (sz : Nat) (post : Int32 → vLW → Prop) (nl : Nat) (nn : Nat) (S : vSH) (V9 : vLW) (x1 : Int32) (x2 : Int32) (x3 : Int32) (x4 : Int32) (hw : wp_L_bound post nl nn S V9 x1 x2 x3 x4) : Met l yL_bound wsL_bound rm_L_bound (pcL (dC, dI) (tysA cI cZ cJ cL) sa (wLW cI cZ cJ cL nl nn ad ra ao S V9) sz [.ref (ad 0), .int x1, .int x2, .int x3, .int x4, .ref ao]) (va_Qi post (fun u t => qB (dC, dI) (tysA cI cZ cJ cL) (va_A (wLW cI cZ cJ cL nl nn ad ra ao S V9) sz) (wLW cI cZ cJ cL nl nn ad ra ao S u) t) (va_A (wLW cI cZ cJ cL nl nn ad ra ao S V9) sz)) 1 6 (va_A (wLW cI cZ cJ cL nl nn ad ra ao S V9) sz) := by
  refine va_MetW (cc := cL_bound) (maxL := 7) (ret := (some .int)) (by decide) rfl ?_
  intro p e s m args below meth c s₁ Bd hml hv
  obtain ⟨hargs, hsz, hP, hK, hD0, hZ, hN⟩ := hv
  have hx := Bd.exec
  have hb := Bd.bytes
  have hr := Bd.returns
  have hts := atoms_spec (ws := wsL_bound) Bd.pre
  have hT : ∀ w ∈ WALL, w.before args s = true := fun w h => hts w (List.mem_cons_of_mem _ h)
  have hown : s.vm.findClass RL = some m.cls := findClass_of_methodNamed Bd.named
  have hlocks := Bd.notSynchronized
  subst hsz
  have hD := hD0.self (sz := s.heap.size)
  generalize hAe : va_A (wLW cI cZ cJ cL nl nn ad ra ao S V9) s.heap.size = A at hD ⊢
  have hA : ∀ q : Nat, s.heap.size ≤ q → A q := fun q h => by rw [← hAe]; exact Or.inr h
  have hS : va_S A s.heap s.heap [] := va_S.rf
  rw [hAe] at hZ
  have hTab : c.exceptionTable.toList = tableOf [(0, 14, 17, 13)] := vx_table (x := yL_bound) Bd (hts _ List.mem_cons_self)
  have hP : va_P (dC, dI) vwCl (wLW cI cZ cJ cL nl nn ad ra ao S V9) s.heap := hP
  have hl := lv_entry ([.ref (ad 0), .int x1, .int x2, .int x3, .int x4, .ref ao]) (n := 7) (Nat.le_of_ble_eq_true rfl)
  rw [show entryFrame m args 7 = F0 m 0 _ [] from by rw [hargs]; exact lg_entry_eq m ([.ref (ad 0), .int x1, .int x2, .int x3, .int x4, .ref ao]) 7]
  generalize (lg_sl ([.ref (ad 0), .int x1, .int x2, .int x3, .int x4, .ref ao]) ++ List.replicate (7 - (lg_sl ([.ref (ad 0), .int x1, .int x2, .int x3, .int x4, .ref ao])).length) Slot.unset).toArray = ls at hl ⊢
  have hl : lv_has ls 7 [(0, .ref (ad 0)), (1, .int x1), (2, .int x2), (3, .int x3), (4, .int x4), (5, .ref ao)] := hl
  obtain ⟨H, hH⟩ : ∃ z : Heap, z = s.heap := ⟨_, rfl⟩
  obtain ⟨locs, hlocs⟩ : ∃ z : List Loc, z = [] := ⟨_, rfl⟩
  rw [show W p l e (headSpec wsL_bound rm_L_bound).room s m args below meth c s.heap [] 0 0 = W p l e (headSpec wsL_bound rm_L_bound).room s m args below meth c H locs 0 0 from by rw [hH, hlocs]]
  have hP : va_P (dC, dI) vwCl (wLW cI cZ cJ cL nl nn ad ra ao S V9) H := by rw [hH]; exact hP
  have hS : va_S A s.heap H locs := by rw [hH, hlocs]; exact hS
  unfold wp_L_bound at hw
  refine lv_aload hx hb dL_bound_0 (lv_at hl 5 rfl) ?_
  refine lv_iconst (v := 0) hx hb dL_bound_2 (by decide) ?_
  refine lv_aload_n hx hb dL_bound_3 rfl (lv_at hl 0 rfl) ?_
  refine lv_iload_n hx hb dL_bound_4 rfl (lv_at hl 1 rfl) ?_
  refine lv_iload_n hx hb dL_bound_5 rfl (lv_at hl 2 rfl) ?_
  refine lv_iload_n hx hb dL_bound_6 rfl (lv_at hl 3 rfl) ?_
  refine lv_iload hx hb dL_bound_7 (lv_at hl 4 rfl) ?_
  have hPc := hP.sub (ws' := wTT cI cZ cJ nl nn ad ra S V9.1) [0, 1, 2, 3, 4, 5, 6, 7, 8, 9, 10, 11, 12, 13, 14, 15, 16, 17, 18, 19] rfl
  have hDc := hD.sub (ws' := wTT cI cZ cJ nl nn ad ra S V9.1) [0, 1, 2, 3, 4, 5, 6, 7, 8, 9, 10, 11, 12, 13, 14, 15, 16, 17, 18, 19] (by decide) rfl
  have hFc := va_free (wc := wTT cI cZ cJ nl nn ad ra S V9.1) hD hS hA [0, 1, 2, 3, 4, 5, 6, 7, 8, 9, 10, 11, 12, 13, 14, 15, 16, 17, 18, 19] rfl
  refine vx_calli (vx_runV (As := [.int x1, .int x2, .int x3, .int x4]) (rest := [.int 0, .ref ao]) ⟨hx, hb, hml, hown, hT⟩ (met_X3_bound l hl9 dC dI cI cZ cJ cL sa ad ra H.size _ _ nl nn S V9.1 x1 x2 x3 x4 hw) (cwV 4 hT (gV k_242 k_244 k_245 k_57 k_243) rfl rfl rfl (by decide +kernel) ⟨(Nat.le_of_ble_eq_true rfl), (Nat.le_of_ble_eq_true rfl)⟩) ⟨bl_X, va_recv hK hPc (ci := 3) (q0 := 0) rfl rfl, fun U hU hW => ⟨rfl, by rw [hU], by rw [hU]; exact hPc, va_K.moved hW.alike hK, hDc.weaken (fun _ _ _ _ => trivial), hZ.call hW hU hS hFc⟩⟩ rfl rfl hl.1 rfl (lv_room (Nat.le_of_ble_eq_true rfl)) dL_bound_9 ⟨Nat.le_of_ble_eq_true rfl, Nat.le_of_ble_eq_true rfl⟩) hS (fun q _ h => hFc q h) hFc (fun q _ h => hFc q h) (fun E ce q9 u9 t H1 locs ht hvm hw hB hz1 hk1 hS hce hcv hcl => ?_) (fun r_1 T_2 t H1 locs ht hvm hw hB hz1 hk1 hS => ?_)
  · obtain ⟨E9, T_2⟩ := u9
    obtain ⟨rfl, hP1, -, hD1⟩ := hB
    try dsimp only at hw
    rw [ht] at hP1
    obtain ⟨hP, hD⟩ := va_join (wr := [(ao, .inl (cL, 1, .inr (.inl V9.2)))]) (w1 := wTT cI cZ cJ nl nn ad ra S T_2) hP hD [0, 1, 2, 3, 4, 5, 6, 7, 8, 9, 10, 11, 12, 13, 14, 15, 16, 17, 18, 19] [20] rfl rfl (by decide) (by decide) hk1 hFc hP1 hD1
    generalize H1 = H at hP hS hce ⊢
    have hP := hP.sub (ws' := wLW cI cZ cJ cL nl nn ad ra ao S (T_2, V9.2)) [1, 2, 3, 4, 5, 6, 7, 8, 9, 10, 11, 12, 13, 14, 15, 16, 17, 18, 19, 20, 0] rfl
    have hD := hD.sub (ws' := wLW cI cZ cJ cL nl nn ad ra ao S (T_2, V9.2)) [1, 2, 3, 4, 5, 6, 7, 8, 9, 10, 11, 12, 13, 14, 15, 16, 17, 18, 19, 20, 0] (by decide) rfl
    rcases hw with ⟨rfl, hw⟩
    · refine vx_catch (own := RL) (name := "java/lang/IndexOutOfBoundsException") (E := "java/lang/IndexOutOfBoundsException") hown [] ⟨0, 14, 17, 13⟩ [] (by rw [hTab]; rfl) (fun z hz => by cases hz) (by decide) (by decide) (hT _ k_224) (badW_use (List.mem_of_getElem? (i := 0) rfl) (hZ.2.2.1 _ (List.mem_of_getElem? (i := 0) rfl))) hce hcv hcl ?_
      refine lv_astore (lv' := [(6, .ref q9), (0, .ref (ad 0)), (1, .int x1), (2, .int x2), (3, .int x3), (4, .int x4), (5, .ref ao)]) hx hb dL_bound_17 hl (by decide) rfl (fun ls hl => ?_)
      refine lv_iconst (v := 1) hx hb dL_bound_19 (by decide) ?_
      exact W.iret (v := 1) hx hb hr (fun t ht hW => ⟨⟨1, (T_2, V9.2), rfl, hw, by rw [ht]; exact hP, va_K.moved hW.alike hK, hD⟩, hS.F ht⟩) hS.2.2 dL_bound_20
  · obtain ⟨hP1, -, hD1⟩ := hB
    try dsimp only at hw
    rw [ht] at hP1
    obtain ⟨hP, hD⟩ := va_join (wr := [(ao, .inl (cL, 1, .inr (.inl V9.2)))]) (w1 := wTT cI cZ cJ nl nn ad ra S T_2) hP hD [0, 1, 2, 3, 4, 5, 6, 7, 8, 9, 10, 11, 12, 13, 14, 15, 16, 17, 18, 19] [20] rfl rfl (by decide) (by decide) hk1 hFc hP1 hD1
    generalize H1 = H at hP hS ⊢
    have hP := hP.sub (ws' := wLW cI cZ cJ cL nl nn ad ra ao S (T_2, V9.2)) [1, 2, 3, 4, 5, 6, 7, 8, 9, 10, 11, 12, 13, 14, 15, 16, 17, 18, 19, 20, 0] rfl
    have hD := hD.sub (ws' := wLW cI cZ cJ cL nl nn ad ra ao S (T_2, V9.2)) [1, 2, 3, 4, 5, 6, 7, 8, 9, 10, 11, 12, 13, 14, 15, 16, 17, 18, 19, 20, 0] (by decide) rfl
    refine lv_i2l hx hb dL_bound_12 rfl ?_
    obtain ⟨h_3, hw⟩ := hw
    refine va_last hx hb hK hP hD hS 20 3 rfl rfl h_3 dL_bound_13 (fun H locs hP hD hS => ?_)
    have hP : va_P (dC, dI) vwCl (wLW cI cZ cJ cL nl nn ad ra ao S (T_2, (vp_updL V9.2 ((0 : Int32).toNatClampNeg) r_1.toInt64))) H := hP
    have hD : va_D A (wLW cI cZ cJ cL nl nn ad ra ao S (T_2, (vp_updL V9.2 ((0 : Int32).toNatClampNeg) r_1.toInt64))) := hD
    refine lv_goto (tgt := 21) hx hb dL_bound_14 (by decide) ?_
    refine lv_iconst (v := 0) hx hb dL_bound_21 (by decide) ?_
    exact W.iret (v := 0) hx hb hr (fun t ht hW => ⟨⟨0, (T_2, (vp_updL V9.2 ((0 : Int32).toNatClampNeg) r_1.toInt64)), rfl, hw, by rw [ht]; exact hP, va_K.moved hW.alike hK, hD⟩, hS.F ht⟩) hS.2.2 dL_bound_22
def wp_L_least (post : Int32 → vLW → Prop) (nl : Nat) (nn : Nat) (S : vSH) (V9 : vLW) (x1 : Int32) (x2 : Int32) (x3 : Int32) : Prop := wp_X3_least (fun r_1 T_2 => vp_in 0 1 ∧ (post 0 (T_2, (vp_updL V9.2 ((0 : Int32).toNatClampNeg) r_1.toInt64)))) (fun E T_2 => ((E = "java/lang/IndexOutOfBoundsException" ∧ (post 1 (T_2, V9.2))))) nl nn S V9.1 x1 x2 x3
abbrev rm_L_least : Room := { frames := 8, cells := 1, slots := 6, locals := 128 }
set_option maxHeartbeats 4000000 in
set_option maxRecDepth 100000 in
theorem met_L_least (l : Launch) (hl9 : l.stackTraces = false) (dC : Nat → ClassId) (dI : Nat → Nat → Nat) (cI cZ cJ cL : ClassId) (sa : Nat → Nat) (ad ra : Nat → Nat) (ao : Nat) (sz : Nat) (post : Int32 → vLW → Prop) (nl : Nat) (nn : Nat) (S : vSH) (V9 : vLW) (x1 : Int32) (x2 : Int32) (x3 : Int32) (hw : wp_L_least post nl nn S V9 x1 x2 x3) : Met l yL_least wsL_least rm_L_least (pcL (dC, dI) (tysA cI cZ cJ cL) sa (wLW cI cZ cJ cL nl nn ad ra ao S V9) sz [.ref (ad 0), .int x1, .int x2, .int x3, .ref ao]) (va_Qi post (fun u t => qB (dC, dI) (tysA cI cZ cJ cL) (va_A (wLW cI cZ cJ cL nl nn ad ra ao S V9) sz) (wLW cI cZ cJ cL nl nn ad ra ao S u) t) (va_A (wLW cI cZ cJ cL nl nn ad ra ao S V9) sz)) 1 6 (va_A (wLW cI cZ cJ cL nl nn ad ra ao S V9) sz) := by
  refine va_MetW (cc := cL_least) (maxL := 6) (ret := (some .int)) (by decide) rfl ?_
  intro p e s m args below meth c s₁ Bd hml hv
  obtain ⟨hargs, hsz, hP, hK, hD0, hZ, hN⟩ := hv
  have hx := Bd.exec
  have hb := Bd.bytes
  have hr := Bd.returns
  have hts := atoms_spec (ws := wsL_least) Bd.pre
  have hT : ∀ w ∈ WALL, w.before args s = true := fun w h => hts w (List.mem_cons_of_mem _ h)
  have hown : s.vm.findClass RL = some m.cls := findClass_of_methodNamed Bd.named
  have hlocks := Bd.notSynchronized
  subst hsz
  have hD := hD0.self (sz := s.heap.size)
  generalize hAe : va_A (wLW cI cZ cJ cL nl nn ad ra ao S V9) s.heap.size = A at hD ⊢
  have hA : ∀ q : Nat, s.heap.size ≤ q → A q := fun q h => by rw [← hAe]; exact Or.inr h
  have hS : va_S A s.heap s.heap [] := va_S.rf
  rw [hAe] at hZ
  have hTab : c.exceptionTable.toList = tableOf [(0, 12, 15, 13)] := vx_table (x := yL_least) Bd (hts _ List.mem_cons_self)
  have hP : va_P (dC, dI) vwCl (wLW cI cZ cJ cL nl nn ad ra ao S V9) s.heap := hP
  have hl := lv_entry ([.ref (ad 0), .int x1, .int x2, .int x3, .ref ao]) (n := 6) (Nat.le_of_ble_eq_true rfl)
  rw [show entryFrame m args 6 = F0 m 0 _ [] from by rw [hargs]; exact lg_entry_eq m ([.ref (ad 0), .int x1, .int x2, .int x3, .ref ao]) 6]
  generalize (lg_sl ([.ref (ad 0), .int x1, .int x2, .int x3, .ref ao]) ++ List.replicate (6 - (lg_sl ([.ref (ad 0), .int x1, .int x2, .int x3, .ref ao])).length) Slot.unset).toArray = ls at hl ⊢
  have hl : lv_has ls 6 [(0, .ref (ad 0)), (1, .int x1), (2, .int x2), (3, .int x3), (4, .ref ao)] := hl
  obtain ⟨H, hH⟩ : ∃ z : Heap, z = s.heap := ⟨_, rfl⟩
  obtain ⟨locs, hlocs⟩ : ∃ z : List Loc, z = [] := ⟨_, rfl⟩
  rw [show W p l e (headSpec wsL_least rm_L_least).room s m args below meth c s.heap [] 0 0 = W p l e (headSpec wsL_least rm_L_least).room s m args below meth c H locs 0 0 from by rw [hH, hlocs]]
  have hP : va_P (dC, dI) vwCl (wLW cI cZ cJ cL nl nn ad ra ao S V9) H := by rw [hH]; exact hP
  have hS : va_S A s.heap H locs := by rw [hH, hlocs]; exact hS
  unfold wp_L_least at hw
  refine lv_aload hx hb dL_least_0 (lv_at hl 4 rfl) ?_
  refine lv_iconst (v := 0) hx hb dL_least_2 (by decide) ?_
  refine lv_aload_n hx hb dL_least_3 rfl (lv_at hl 0 rfl) ?_
  refine lv_iload_n hx hb dL_least_4 rfl (lv_at hl 1 rfl) ?_
  refine lv_iload_n hx hb dL_least_5 rfl (lv_at hl 2 rfl) ?_
  refine lv_iload_n hx hb dL_least_6 rfl (lv_at hl 3 rfl) ?_
  have hPc := hP.sub (ws' := wTT cI cZ cJ nl nn ad ra S V9.1) [0, 1, 2, 3, 4, 5, 6, 7, 8, 9, 10, 11, 12, 13, 14, 15, 16, 17, 18, 19] rfl
  have hDc := hD.sub (ws' := wTT cI cZ cJ nl nn ad ra S V9.1) [0, 1, 2, 3, 4, 5, 6, 7, 8, 9, 10, 11, 12, 13, 14, 15, 16, 17, 18, 19] (by decide) rfl
  have hFc := va_free (wc := wTT cI cZ cJ nl nn ad ra S V9.1) hD hS hA [0, 1, 2, 3, 4, 5, 6, 7, 8, 9, 10, 11, 12, 13, 14, 15, 16, 17, 18, 19] rfl
  refine vx_calli (vx_runV (As := [.int x1, .int x2, .int x3]) (rest := [.int 0, .ref ao]) ⟨hx, hb, hml, hown, hT⟩ (met_X3_least l hl9 dC dI cI cZ cJ cL sa ad ra H.size _ _ nl nn S V9.1 x1 x2 x3 hw) (cwV 3 hT (gV k_246 k_248 k_249 k_57 k_247) rfl rfl rfl (by decide +kernel) ⟨(Nat.le_of_ble_eq_true rfl), (Nat.le_of_ble_eq_true rfl)⟩) ⟨bl_X, va_recv hK hPc (ci := 3) (q0 := 0) rfl rfl, fun U hU hW => ⟨rfl, by rw [hU], by rw [hU]; exact hPc, va_K.moved hW.alike hK, hDc.weaken (fun _ _ _ _ => trivial), hZ.call hW hU hS hFc⟩⟩ rfl rfl hl.1 rfl (lv_room (Nat.le_of_ble_eq_true rfl)) dL_least_7 ⟨Nat.le_of_ble_eq_true rfl, Nat.le_of_ble_eq_true rfl⟩) hS (fun q _ h => hFc q h) hFc (fun q _ h => hFc q h) (fun E ce q9 u9 t H1 locs ht hvm hw hB hz1 hk1 hS hce hcv hcl => ?_) (fun r_1 T_2 t H1 locs ht hvm hw hB hz1 hk1 hS => ?_)
  · obtain ⟨E9, T_2⟩ := u9
    obtain ⟨rfl, hP1, -, hD1⟩ := hB
    try dsimp only at hw
    rw [ht] at hP1
    obtain ⟨hP, hD⟩ := va_join (wr := [(ao, .inl (cL, 1, .inr (.inl V9.2)))]) (w1 := wTT cI cZ cJ nl nn ad ra S T_2) hP hD [0, 1, 2, 3, 4, 5, 6, 7, 8, 9, 10, 11, 12, 13, 14, 15, 16, 17, 18, 19] [20] rfl rfl (by decide) (by decide) hk1 hFc hP1 hD1
    generalize H1 = H at hP hS hce ⊢
    have hP := hP.sub (ws' := wLW cI cZ cJ cL nl nn ad ra ao S (T_2, V9.2)) [1, 2, 3, 4, 5, 6, 7, 8, 9, 10, 11, 12, 13, 14, 15, 16, 17, 18, 19, 20, 0] rfl
    have hD := hD.sub (ws' := wLW cI cZ cJ cL nl nn ad ra ao S (T_2, V9.2)) [1, 2, 3, 4, 5, 6, 7, 8, 9, 10, 11, 12, 13, 14, 15, 16, 17, 18, 19, 20, 0] (by decide) rfl
    rcases hw with ⟨rfl, hw⟩
    · refine vx_catch (own := RL) (name := "java/lang/IndexOutOfBoundsException") (E := "java/lang/IndexOutOfBoundsException") hown [] ⟨0, 12, 15, 13⟩ [] (by rw [hTab]; rfl) (fun z hz => by cases hz) (by decide) (by decide) (hT _ k_224) (badW_use (List.mem_of_getElem? (i := 0) rfl) (hZ.2.2.1 _ (List.mem_of_getElem? (i := 0) rfl))) hce hcv hcl ?_
      refine lv_astore (lv' := [(5, .ref q9), (0, .ref (ad 0)), (1, .int x1), (2, .int x2), (3, .int x3), (4, .ref ao)]) hx hb dL_least_15 hl (by decide) rfl (fun ls hl => ?_)
      refine lv_iconst (v := 1) hx hb dL_least_17 (by decide) ?_
      exact W.iret (v := 1) hx hb hr (fun t ht hW => ⟨⟨1, (T_2, V9.2), rfl, hw, by rw [ht]; exact hP, va_K.moved hW.alike hK, hD⟩, hS.F ht⟩) hS.2.2 dL_least_18
  · obtain ⟨hP1, -, hD1⟩ := hB
    try dsimp only at hw
    rw [ht] at hP1
    obtain ⟨hP, hD⟩ := va_join (wr := [(ao, .inl (cL, 1, .inr (.inl V9.2)))]) (w1 := wTT cI cZ cJ nl nn ad ra S T_2) hP hD [0, 1, 2, 3, 4, 5, 6, 7, 8, 9, 10, 11, 12, 13, 14, 15, 16, 17, 18, 19] [20] rfl rfl (by decide) (by decide) hk1 hFc hP1 hD1
    generalize H1 = H at hP hS ⊢
    have hP := hP.sub (ws' := wLW cI cZ cJ cL nl nn ad ra ao S (T_2, V9.2)) [1, 2, 3, 4, 5, 6, 7, 8, 9, 10, 11, 12, 13, 14, 15, 16, 17, 18, 19, 20, 0] rfl
    have hD := hD.sub (ws' := wLW cI cZ cJ cL nl nn ad ra ao S (T_2, V9.2)) [1, 2, 3, 4, 5, 6, 7, 8, 9, 10, 11, 12, 13, 14, 15, 16, 17, 18, 19, 20, 0] (by decide) rfl
    refine lv_i2l hx hb dL_least_10 rfl ?_
    obtain ⟨h_3, hw⟩ := hw
    refine va_last hx hb hK hP hD hS 20 3 rfl rfl h_3 dL_least_11 (fun H locs hP hD hS => ?_)
    have hP : va_P (dC, dI) vwCl (wLW cI cZ cJ cL nl nn ad ra ao S (T_2, (vp_updL V9.2 ((0 : Int32).toNatClampNeg) r_1.toInt64))) H := hP
    have hD : va_D A (wLW cI cZ cJ cL nl nn ad ra ao S (T_2, (vp_updL V9.2 ((0 : Int32).toNatClampNeg) r_1.toInt64))) := hD
    refine lv_goto (tgt := 19) hx hb dL_least_12 (by decide) ?_
    refine lv_iconst (v := 0) hx hb dL_least_19 (by decide) ?_
    exact W.iret (v := 0) hx hb hr (fun t ht hW => ⟨⟨0, (T_2, (vp_updL V9.2 ((0 : Int32).toNatClampNeg) r_1.toInt64)), rfl, hw, by rw [ht]; exact hP, va_K.moved hW.alike hK, hD⟩, hS.F ht⟩) hS.2.2 dL_least_20
def wp_L_value (post : Int32 → vLW → Prop) (nl : Nat) (nn : Nat) (S : vSH) (V9 : vLW) (x1 : Int32) (x2 : Int32) (x3 : Int32) : Prop := wp_X3_value (fun r_1 T_2 => vp_in 0 1 ∧ (post 0 (T_2, (vp_updL V9.2 ((0 : Int32).toNatClampNeg) r_1.toInt64)))) (fun E T_2 => ((E = "java/lang/IndexOutOfBoundsException" ∧ (post 1 (T_2, V9.2))) ∨ (E = "java/lang/IllegalArgumentException" ∧ (post 2 (T_2, V9.2))) ∨ (E = "java/lang/IllegalStateException" ∧ (post 3 (T_2, V9.2))))) nl nn S V9.1 x1 x2 x3
abbrev rm_L_value : Room := { frames := 8, cells := 3, slots := 18, locals := 130 }
set_option maxHeartbeats 4000000 in
set_option maxRecDepth 100000 in
theorem met_L_value (l : Launch) (hl9 : l.stackTraces = false) (dC : Nat → ClassId) (dI : Nat → Nat → Nat) (cI cZ cJ cL : ClassId) (sa : Nat → Nat) (ad ra : Nat → Nat) (ao : Nat) (sz : Nat) (post : Int32 → vLW → Prop) (nl : Nat) (nn : Nat) (S : vSH) (V9 : vLW) (x1 : Int32) (x2 : Int32) (x3 : Int32) (hw : wp_L_value post nl nn S V9 x1 x2 x3) : Met l yL_value wsL_value rm_L_value (pcL (dC, dI) (tysA cI cZ cJ cL) sa (wLW cI cZ cJ cL nl nn ad ra ao S V9) sz [.ref (ad 0), .int x1, .int x2, .int x3, .ref ao]) (va_Qi post (fun u t => qB (dC, dI) (tysA cI cZ cJ cL) (va_A (wLW cI cZ cJ cL nl nn ad ra ao S V9) sz) (wLW cI cZ cJ cL nl nn ad ra ao S u) t) (va_A (wLW cI cZ cJ cL nl nn ad ra ao S V9) sz)) 3 18 (va_A (wLW cI cZ cJ cL nl nn ad ra ao S V9) sz) := by
  refine va_MetW (cc := cL_value) (maxL := 6) (ret := (some .int)) (by decide) rfl ?_
  intro p e s m args below meth c s₁ Bd hml hv
  obtain ⟨hargs, hsz, hP, hK, hD0, hZ, hN⟩ := hv
  have hx := Bd.exec
  have hb := Bd.bytes
  have hr := Bd.returns
  have hts := atoms_spec (ws := wsL_value) Bd.pre
  have hT : ∀ w ∈ WALL, w.before args s = true := fun w h => hts w (List.mem_cons_of_mem _ h)
  have hown : s.vm.findClass RL = some m.cls := findClass_of_methodNamed Bd.named
  have hlocks := Bd.notSynchronized
  subst hsz
  have hD := hD0.self (sz := s.heap.size)
  generalize hAe : va_A (wLW cI cZ cJ cL nl nn ad ra ao S V9) s.heap.size = A at hD ⊢
  have hA : ∀ q : Nat, s.heap.size ≤ q → A q := fun q h => by rw [← hAe]; exact Or.inr h
  have hS : va_S A s.heap s.heap [] := va_S.rf
  rw [hAe] at hZ
  have hTab : c.exceptionTable.toList = tableOf [(0, 12, 15, 13), (0, 12, 19, 15), (0, 12, 23, 17)] := vx_table (x := yL_value) Bd (hts _ List.mem_cons_self)
  have hP : va_P (dC, dI) vwCl (wLW cI cZ cJ cL nl nn ad ra ao S V9) s.heap := hP
  have hl := lv_entry ([.ref (ad 0), .int x1, .int x2, .int x3, .ref ao]) (n := 6) (Nat.le_of_ble_eq_true rfl)
  rw [show entryFrame m args 6 = F0 m 0 _ [] from by rw [hargs]; exact lg_entry_eq m ([.ref (ad 0), .int x1, .int x2, .int x3, .ref ao]) 6]
  generalize (lg_sl ([.ref (ad 0), .int x1, .int x2, .int x3, .ref ao]) ++ List.replicate (6 - (lg_sl ([.ref (ad 0), .int x1, .int x2, .int x3, .ref ao])).length) Slot.unset).toArray = ls at hl ⊢
  have hl : lv_has ls 6 [(0, .ref (ad 0)), (1, .int x1), (2, .int x2), (3, .int x3), (4, .ref ao)] := hl
  obtain ⟨H, hH⟩ : ∃ z : Heap, z = s.heap := ⟨_, rfl⟩
  obtain ⟨locs, hlocs⟩ : ∃ z : List Loc, z = [] := ⟨_, rfl⟩
  rw [show W p l e (headSpec wsL_value rm_L_value).room s m args below meth c s.heap [] 0 0 = W p l e (headSpec wsL_value rm_L_value).room s m args below meth c H locs 0 0 from by rw [hH, hlocs]]
  have hP : va_P (dC, dI) vwCl (wLW cI cZ cJ cL nl nn ad ra ao S V9) H := by rw [hH]; exact hP
  have hS : va_S A s.heap H locs := by rw [hH, hlocs]; exact hS
  unfold wp_L_value at hw
  refine lv_aload hx hb dL_value_0 (lv_at hl 4 rfl) ?_
  refine lv_iconst (v := 0) hx hb dL_value_2 (by decide) ?_
  refine lv_aload_n hx hb dL_value_3 rfl (lv_at hl 0 rfl) ?_
  refine lv_iload_n hx hb dL_value_4 rfl (lv_at hl 1 rfl) ?_
  refine lv_iload_n hx hb dL_value_5 rfl (lv_at hl 2 rfl) ?_
  refine lv_iload_n hx hb dL_value_6 rfl (lv_at hl 3 rfl) ?_
  have hPc := hP.sub (ws' := wTT cI cZ cJ nl nn ad ra S V9.1) [0, 1, 2, 3, 4, 5, 6, 7, 8, 9, 10, 11, 12, 13, 14, 15, 16, 17, 18, 19] rfl
  have hDc := hD.sub (ws' := wTT cI cZ cJ nl nn ad ra S V9.1) [0, 1, 2, 3, 4, 5, 6, 7, 8, 9, 10, 11, 12, 13, 14, 15, 16, 17, 18, 19] (by decide) rfl
  have hFc := va_free (wc := wTT cI cZ cJ nl nn ad ra S V9.1) hD hS hA [0, 1, 2, 3, 4, 5, 6, 7, 8, 9, 10, 11, 12, 13, 14, 15, 16, 17, 18, 19] rfl
  refine vx_calli (vx_runV (As := [.int x1, .int x2, .int x3]) (rest := [.int 0, .ref ao]) ⟨hx, hb, hml, hown, hT⟩ (met_X3_value l hl9 dC dI cI cZ cJ cL sa ad ra H.size _ _ nl nn S V9.1 x1 x2 x3 hw) (cwV 3 hT (gV k_250 k_252 k_253 k_57 k_251) rfl rfl rfl (by decide +kernel) ⟨(Nat.le_of_ble_eq_true rfl), (Nat.le_of_ble_eq_true rfl)⟩) ⟨bl_X, va_recv hK hPc (ci := 3) (q0 := 0) rfl rfl, fun U hU hW => ⟨rfl, by rw [hU], by rw [hU]; exact hPc, va_K.moved hW.alike hK, hDc.weaken (fun _ _ _ _ => trivial), hZ.call hW hU hS hFc⟩⟩ rfl rfl hl.1 rfl (lv_room (Nat.le_of_ble_eq_true rfl)) dL_value_7 ⟨Nat.le_of_ble_eq_true rfl, Nat.le_of_ble_eq_true rfl⟩) hS (fun q _ h => hFc q h) hFc (fun q _ h => hFc q h) (fun E ce q9 u9 t H1 locs ht hvm hw hB hz1 hk1 hS hce hcv hcl => ?_) (fun r_1 T_2 t H1 locs ht hvm hw hB hz1 hk1 hS => ?_)
  · obtain ⟨E9, T_2⟩ := u9
    obtain ⟨rfl, hP1, -, hD1⟩ := hB
    try dsimp only at hw
    rw [ht] at hP1
    obtain ⟨hP, hD⟩ := va_join (wr := [(ao, .inl (cL, 1, .inr (.inl V9.2)))]) (w1 := wTT cI cZ cJ nl nn ad ra S T_2) hP hD [0, 1, 2, 3, 4, 5, 6, 7, 8, 9, 10, 11, 12, 13, 14, 15, 16, 17, 18, 19] [20] rfl rfl (by decide) (by decide) hk1 hFc hP1 hD1
    generalize H1 = H at hP hS hce ⊢
    have hP := hP.sub (ws' := wLW cI cZ cJ cL nl nn ad ra ao S (T_2, V9.2)) [1, 2, 3, 4, 5, 6, 7, 8, 9, 10, 11, 12, 13, 14, 15, 16, 17, 18, 19, 20, 0] rfl
    have hD := hD.sub (ws' := wLW cI cZ cJ cL nl nn ad ra ao S (T_2, V9.2)) [1, 2, 3, 4, 5, 6, 7, 8, 9, 10, 11, 12, 13, 14, 15, 16, 17, 18, 19, 20, 0] (by decide) rfl
    rcases hw with ⟨rfl, hw⟩ | ⟨rfl, hw⟩ | ⟨rfl, hw⟩
    · refine vx_catch (own := RL) (name := "java/lang/IndexOutOfBoundsException") (E := "java/lang/IndexOutOfBoundsException") hown [] ⟨0, 12, 15, 13⟩ [⟨0, 12, 19, 15⟩, ⟨0, 12, 23, 17⟩] (by rw [hTab]; rfl) (fun z hz => by cases hz) (by decide) (by decide) (hT _ k_224) (badW_use (List.mem_of_getElem? (i := 0) rfl) (hZ.2.2.1 _ (List.mem_of_getElem? (i := 0) rfl))) hce hcv hcl ?_
      refine lv_astore (lv' := [(5, .ref q9), (0, .ref (ad 0)), (1, .int x1), (2, .int x2), (3, .int x3), (4, .ref ao)]) hx hb dL_value_15 hl (by decide) rfl (fun ls hl => ?_)
      refine lv_iconst (v := 1) hx hb dL_value_17 (by decide) ?_
      exact W.iret (v := 1) hx hb hr (fun t ht hW => ⟨⟨1, (T_2, V9.2), rfl, hw, by rw [ht]; exact hP, va_K.moved hW.alike hK, hD⟩, hS.F ht⟩) hS.2.2 dL_value_18
    · refine vx_catch (own := RL) (name := "java/lang/IllegalArgumentException") (E := "java/lang/IllegalArgumentException") hown [⟨0, 12, 15, 13⟩] ⟨0, 12, 19, 15⟩ [⟨0, 12, 23, 17⟩] (by rw [hTab]; rfl) (by
          intro z hz
          simp only [List.mem_cons, List.not_mem_nil, or_false] at hz
          rcases hz with rfl
          · exact Or.inr ⟨by decide, "java/lang/IndexOutOfBoundsException", (hT _ k_224), hN ("java/lang/IllegalArgumentException", "java/lang/IndexOutOfBoundsException") (by decide +kernel)⟩) (by decide) (by decide) (hT _ k_223) (badW_use (List.mem_of_getElem? (i := 1) rfl) (hZ.2.2.1 _ (List.mem_of_getElem? (i := 1) rfl))) hce hcv hcl ?_
      refine lv_astore (lv' := [(5, .ref q9), (0, .ref (ad 0)), (1, .int x1), (2, .int x2), (3, .int x3), (4, .ref ao)]) hx hb dL_value_19 hl (by decide) rfl (fun ls hl => ?_)
      refine lv_iconst (v := 2) hx hb dL_value_21 (by decide) ?_
      exact W.iret (v := 2) hx hb hr (fun t ht hW => ⟨⟨2, (T_2, V9.2), rfl, hw, by rw [ht]; exact hP, va_K.moved hW.alike hK, hD⟩, hS.F ht⟩) hS.2.2 dL_value_22
    · refine vx_catch (own := RL) (name := "java/lang/IllegalStateException") (E := "java/lang/IllegalStateException") hown [⟨0, 12, 15, 13⟩, ⟨0, 12, 19, 15⟩] ⟨0, 12, 23, 17⟩ [] (by rw [hTab]; rfl) (by
          intro z hz
          simp only [List.mem_cons, List.not_mem_nil, or_false] at hz
          rcases hz with rfl | rfl
          · exact Or.inr ⟨by decide, "java/lang/IndexOutOfBoundsException", (hT _ k_224), hN ("java/lang/IllegalStateException", "java/lang/IndexOutOfBoundsException") (by decide +kernel)⟩
          · exact Or.inr ⟨by decide, "java/lang/IllegalArgumentException", (hT _ k_223), hN ("java/lang/IllegalStateException", "java/lang/IllegalArgumentException") (by decide +kernel)⟩) (by decide) (by decide) (hT _ k_254) (badW_use (List.mem_of_getElem? (i := 2) rfl) (hZ.2.2.1 _ (List.mem_of_getElem? (i := 2) rfl))) hce hcv hcl ?_
      refine lv_astore (lv' := [(5, .ref q9), (0, .ref (ad 0)), (1, .int x1), (2, .int x2), (3, .int x3), (4, .ref ao)]) hx hb dL_value_23 hl (by decide) rfl (fun ls hl => ?_)
      refine lv_iconst (v := 3) hx hb dL_value_25 (by decide) ?_
      exact W.iret (v := 3) hx hb hr (fun t ht hW => ⟨⟨3, (T_2, V9.2), rfl, hw, by rw [ht]; exact hP, va_K.moved hW.alike hK, hD⟩, hS.F ht⟩) hS.2.2 dL_value_26
  · obtain ⟨hP1, -, hD1⟩ := hB
    try dsimp only at hw
    rw [ht] at hP1
    obtain ⟨hP, hD⟩ := va_join (wr := [(ao, .inl (cL, 1, .inr (.inl V9.2)))]) (w1 := wTT cI cZ cJ nl nn ad ra S T_2) hP hD [0, 1, 2, 3, 4, 5, 6, 7, 8, 9, 10, 11, 12, 13, 14, 15, 16, 17, 18, 19] [20] rfl rfl (by decide) (by decide) hk1 hFc hP1 hD1
    generalize H1 = H at hP hS ⊢
    have hP := hP.sub (ws' := wLW cI cZ cJ cL nl nn ad ra ao S (T_2, V9.2)) [1, 2, 3, 4, 5, 6, 7, 8, 9, 10, 11, 12, 13, 14, 15, 16, 17, 18, 19, 20, 0] rfl
    have hD := hD.sub (ws' := wLW cI cZ cJ cL nl nn ad ra ao S (T_2, V9.2)) [1, 2, 3, 4, 5, 6, 7, 8, 9, 10, 11, 12, 13, 14, 15, 16, 17, 18, 19, 20, 0] (by decide) rfl
    refine lv_i2l hx hb dL_value_10 rfl ?_
    obtain ⟨h_3, hw⟩ := hw
    refine va_last hx hb hK hP hD hS 20 3 rfl rfl h_3 dL_value_11 (fun H locs hP hD hS => ?_)
    have hP : va_P (dC, dI) vwCl (wLW cI cZ cJ cL nl nn ad ra ao S (T_2, (vp_updL V9.2 ((0 : Int32).toNatClampNeg) r_1.toInt64))) H := hP
    have hD : va_D A (wLW cI cZ cJ cL nl nn ad ra ao S (T_2, (vp_updL V9.2 ((0 : Int32).toNatClampNeg) r_1.toInt64))) := hD
    refine lv_goto (tgt := 27) hx hb dL_value_12 (by decide) ?_
    refine lv_iconst (v := 0) hx hb dL_value_27 (by decide) ?_
    exact W.iret (v := 0) hx hb hr (fun t ht hW => ⟨⟨0, (T_2, (vp_updL V9.2 ((0 : Int32).toNatClampNeg) r_1.toInt64)), rfl, hw, by rw [ht]; exact hP, va_K.moved hW.alike hK, hD⟩, hS.F ht⟩) hS.2.2 dL_value_28
def wp_L_values (post : Int32 → vLW → Prop) (nl : Nat) (nn : Nat) (S : vSH) (V9 : vLW) (x1 : Int32) (x2 : Int32) (x3 : Int32) (x4 : Int32) (x5 : Int32) : Prop := wp_X3_values (fun r_1 T_2 => vp_in 0 1 ∧ (post 0 (T_2, (vp_updL V9.2 ((0 : Int32).toNatClampNeg) r_1.toInt64)))) (fun E T_2 => ((E = "java/lang/IndexOutOfBoundsException" ∧ (post 1 (T_2, V9.2))) ∨ (E = "java/lang/IllegalArgumentException" ∧ (post 2 (T_2, V9.2))) ∨ (E = "java/lang/IllegalStateException" ∧ (post 3 (T_2, V9.2))))) nl nn S V9.1 x1 x2 x3 x4 x5
abbrev rm_L_values : Room := { frames := 8, cells := 3, slots := 18, locals := 135 }
set_option maxHeartbeats 4000000 in
set_option maxRecDepth 100000 in
theorem met_L_values (l : Launch) (hl9 : l.stackTraces = false) (dC : Nat → ClassId) (dI : Nat → Nat → Nat) (cI cZ cJ cL : ClassId) (sa : Nat → Nat) (ad ra : Nat → Nat) (ao : Nat) (sz : Nat) (post : Int32 → vLW → Prop) (nl : Nat) (nn : Nat) (S : vSH) (V9 : vLW) (x1 : Int32) (x2 : Int32) (x3 : Int32) (x4 : Int32) (x5 : Int32) (hw : wp_L_values post nl nn S V9 x1 x2 x3 x4 x5) : Met l yL_values wsL_values rm_L_values (pcL (dC, dI) (tysA cI cZ cJ cL) sa (wLW cI cZ cJ cL nl nn ad ra ao S V9) sz [.ref (ad 0), .int x1, .int x2, .int x3, .int x4, .int x5, .ref ao]) (va_Qi post (fun u t => qB (dC, dI) (tysA cI cZ cJ cL) (va_A (wLW cI cZ cJ cL nl nn ad ra ao S V9) sz) (wLW cI cZ cJ cL nl nn ad ra ao S u) t) (va_A (wLW cI cZ cJ cL nl nn ad ra ao S V9) sz)) 3 18 (va_A (wLW cI cZ cJ cL nl nn ad ra ao S V9) sz) := by
  refine va_MetW (cc := cL_values) (maxL := 8) (ret := (some .int)) (by decide) rfl ?_
  intro p e s m args below meth c s₁ Bd hml hv
  obtain ⟨hargs, hsz, hP, hK, hD0, hZ, hN⟩ := hv
  have hx := Bd.exec
  have hb := Bd.bytes
  have hr := Bd.returns
  have hts := atoms_spec (ws := wsL_values) Bd.pre
  have hT : ∀ w ∈ WALL, w.before args s = true := fun w h => hts w (List.mem_cons_of_mem _ h)
  have hown : s.vm.findClass RL = some m.cls := findClass_of_methodNamed Bd.named
  have hlocks := Bd.notSynchronized
  subst hsz
  have hD := hD0.self (sz := s.heap.size)
  generalize hAe : va_A (wLW cI cZ cJ cL nl nn ad ra ao S V9) s.heap.size = A at hD ⊢
  have hA : ∀ q : Nat, s.heap.size ≤ q → A q := fun q h => by rw [← hAe]; exact Or.inr h
  have hS : va_S A s.heap s.heap [] := va_S.rf
  rw [hAe] at hZ
  have hTab : c.exceptionTable.toList = tableOf [(0, 16, 19, 13), (0, 16, 23, 15), (0, 16, 27, 17)] := vx_table (x := yL_values) Bd (hts _ List.mem_cons_self)
  have hP : va_P (dC, dI) vwCl (wLW cI cZ cJ cL nl nn ad ra ao S V9) s.heap := hP
  have hl := lv_entry ([.ref (ad 0), .int x1, .int x2, .int x3, .int x4, .int x5, .ref ao]) (n := 8) (Nat.le_of_ble_eq_true rfl)
  rw [show entryFrame m args 8 = F0 m 0 _ [] from by rw [hargs]; exact lg_entry_eq m ([.ref (ad 0), .int x1, .int x2, .int x3, .int x4, .int x5, .ref ao]) 8]
  generalize (lg_sl ([.ref (ad 0), .int x1, .int x2, .int x3, .int x4, .int x5, .ref ao]) ++ List.replicate (8 - (lg_sl ([.ref (ad 0), .int x1, .int x2, .int x3, .int x4, .int x5, .ref ao])).length) Slot.unset).toArray = ls at hl ⊢
  have hl : lv_has ls 8 [(0, .ref (ad 0)), (1, .int x1), (2, .int x2), (3, .int x3), (4, .int x4), (5, .int x5), (6, .ref ao)] := hl
  obtain ⟨H, hH⟩ : ∃ z : Heap, z = s.heap := ⟨_, rfl⟩
  obtain ⟨locs, hlocs⟩ : ∃ z : List Loc, z = [] := ⟨_, rfl⟩
  rw [show W p l e (headSpec wsL_values rm_L_values).room s m args below meth c s.heap [] 0 0 = W p l e (headSpec wsL_values rm_L_values).room s m args below meth c H locs 0 0 from by rw [hH, hlocs]]
  have hP : va_P (dC, dI) vwCl (wLW cI cZ cJ cL nl nn ad ra ao S V9) H := by rw [hH]; exact hP
  have hS : va_S A s.heap H locs := by rw [hH, hlocs]; exact hS
  unfold wp_L_values at hw
  refine lv_aload hx hb dL_values_0 (lv_at hl 6 rfl) ?_
  refine lv_iconst (v := 0) hx hb dL_values_2 (by decide) ?_
  refine lv_aload_n hx hb dL_values_3 rfl (lv_at hl 0 rfl) ?_
  refine lv_iload_n hx hb dL_values_4 rfl (lv_at hl 1 rfl) ?_
  refine lv_iload_n hx hb dL_values_5 rfl (lv_at hl 2 rfl) ?_
  refine lv_iload_n hx hb dL_values_6 rfl (lv_at hl 3 rfl) ?_
  refine lv_iload hx hb dL_values_7 (lv_at hl 4 rfl) ?_
  refine lv_iload hx hb dL_values_9 (lv_at hl 5 rfl) ?_
  have hPc := hP.sub (ws' := wTT cI cZ cJ nl nn ad ra S V9.1) [0, 1, 2, 3, 4, 5, 6, 7, 8, 9, 10, 11, 12, 13, 14, 15, 16, 17, 18, 19] rfl
  have hDc := hD.sub (ws' := wTT cI cZ cJ nl nn ad ra S V9.1) [0, 1, 2, 3, 4, 5, 6, 7, 8, 9, 10, 11, 12, 13, 14, 15, 16, 17, 18, 19] (by decide) rfl
  have hFc := va_free (wc := wTT cI cZ cJ nl nn ad ra S V9.1) hD hS hA [0, 1, 2, 3, 4, 5, 6, 7, 8, 9, 10, 11, 12, 13, 14, 15, 16, 17, 18, 19] rfl
  refine vx_calli (vx_runV (As := [.int x1, .int x2, .int x3, .int x4, .int x5]) (rest := [.int 0, .ref ao]) ⟨hx, hb, hml, hown, hT⟩ (met_X3_values l hl9 dC dI cI cZ cJ cL sa ad ra H.size _ _ nl nn S V9.1 x1 x2 x3 x4 x5 hw) (cwV 5 hT (gV k_255 k_257 k_258 k_57 k_256) rfl rfl rfl (by decide +kernel) ⟨(Nat.le_of_ble_eq_true rfl), (Nat.le_of_ble_eq_true rfl)⟩) ⟨bl_X, va_recv hK hPc (ci := 3) (q0 := 0) rfl rfl, fun U hU hW => ⟨rfl, by rw [hU], by rw [hU]; exact hPc, va_K.moved hW.alike hK, hDc.weaken (fun _ _ _ _ => trivial), hZ.call hW hU hS hFc⟩⟩ rfl rfl hl.1 rfl (lv_room (Nat.le_of_ble_eq_true rfl)) dL_values_11 ⟨Nat.le_of_ble_eq_true rfl, Nat.le_of_ble_eq_true rfl⟩) hS (fun q _ h => hFc q h) hFc (fun q _ h => hFc q h) (fun E ce q9 u9 t H1 locs ht hvm hw hB hz1 hk1 hS hce hcv hcl => ?_) (fun r_1 T_2 t H1 locs ht hvm hw hB hz1 hk1 hS => ?_)
  · obtain ⟨E9, T_2⟩ := u9
    obtain ⟨rfl, hP1, -, hD1⟩ := hB
    try dsimp only at hw
    rw [ht] at hP1
    obtain ⟨hP, hD⟩ := va_join (wr := [(ao, .inl (cL, 1, .inr (.inl V9.2)))]) (w1 := wTT cI cZ cJ nl nn ad ra S T_2) hP hD [0, 1, 2, 3, 4, 5, 6, 7, 8, 9, 10, 11, 12, 13, 14, 15, 16, 17, 18, 19] [20] rfl rfl (by decide) (by decide) hk1 hFc hP1 hD1
    generalize H1 = H at hP hS hce ⊢
    have hP := hP.sub (ws' := wLW cI cZ cJ cL nl nn ad ra ao S (T_2, V9.2)) [1, 2, 3, 4, 5, 6, 7, 8, 9, 10, 11, 12, 13, 14, 15, 16, 17, 18, 19, 20, 0] rfl
    have hD := hD.sub (ws' := wLW cI cZ cJ cL nl nn ad ra ao S (T_2, V9.2)) [1, 2, 3, 4, 5, 6, 7, 8, 9, 10, 11, 12, 13, 14, 15, 16, 17, 18, 19, 20, 0] (by decide) rfl
    rcases hw with ⟨rfl, hw⟩ | ⟨rfl, hw⟩ | ⟨rfl, hw⟩
    · refine vx_catch (own := RL) (name := "java/lang/IndexOutOfBoundsException") (E := "java/lang/IndexOutOfBoundsException") hown [] ⟨0, 16, 19, 13⟩ [⟨0, 16, 23, 15⟩, ⟨0, 16, 27, 17⟩] (by rw [hTab]; rfl) (fun z hz => by cases hz) (by decide) (by decide) (hT _ k_224) (badW_use (List.mem_of_getElem? (i := 0) rfl) (hZ.2.2.1 _ (List.mem_of_getElem? (i := 0) rfl))) hce hcv hcl ?_
      refine lv_astore (lv' := [(7, .ref q9), (0, .ref (ad 0)), (1, .int x1), (2, .int x2), (3, .int x3), (4, .int x4), (5, .int x5), (6, .ref ao)]) hx hb dL_values_19 hl (by decide) rfl (fun ls hl => ?_)
      refine lv_iconst (v := 1) hx hb dL_values_21 (by decide) ?_
      exact W.iret (v := 1) hx hb hr (fun t ht hW => ⟨⟨1, (T_2, V9.2), rfl, hw, by rw [ht]; exact hP, va_K.moved hW.alike hK, hD⟩, hS.F ht⟩) hS.2.2 dL_values_22
    · refine vx_catch (own := RL) (name := "java/lang/IllegalArgumentException") (E := "java/lang/IllegalArgumentException") hown [⟨0, 16, 19, 13⟩] ⟨0, 16, 23, 15⟩ [⟨0, 16, 27, 17⟩] (by rw [hTab]; rfl) (by
          intro z hz
          simp only [List.mem_cons, List.not_mem_nil, or_false] at hz
          rcases hz with rfl
          · exact Or.inr ⟨by decide, "java/lang/IndexOutOfBoundsException", (hT _ k_224), hN ("java/lang/IllegalArgumentException", "java/lang/IndexOutOfBoundsException") (by decide +kernel)⟩) (by decide) (by decide) (hT _ k_223) (badW_use (List.mem_of_getElem? (i := 1) rfl) (hZ.2.2.1 _ (List.mem_of_getElem? (i := 1) rfl))) hce hcv hcl ?_
      refine lv_astore (lv' := [(7, .ref q9), (0, .ref (ad 0)), (1, .int x1), (2, .int x2), (3, .int x3), (4, .int x4), (5, .int x5), (6, .ref ao)]) hx hb dL_values_23 hl (by decide) rfl (fun ls hl => ?_)
      refine lv_iconst (v := 2) hx hb dL_values_25 (by decide) ?_
      exact W.iret (v := 2) hx hb hr (fun t ht hW => ⟨⟨2, (T_2, V9.2), rfl, hw, by rw [ht]; exact hP, va_K.moved hW.alike hK, hD⟩, hS.F ht⟩) hS.2.2 dL_values_26
    · refine vx_catch (own := RL) (name := "java/lang/IllegalStateException") (E := "java/lang/IllegalStateException") hown [⟨0, 16, 19, 13⟩, ⟨0, 16, 23, 15⟩] ⟨0, 16, 27, 17⟩ [] (by rw [hTab]; rfl) (by
          intro z hz
          simp only [List.mem_cons, List.not_mem_nil, or_false] at hz
          rcases hz with rfl | rfl
          · exact Or.inr ⟨by decide, "java/lang/IndexOutOfBoundsException", (hT _ k_224), hN ("java/lang/IllegalStateException", "java/lang/IndexOutOfBoundsException") (by decide +kernel)⟩
          · exact Or.inr ⟨by decide, "java/lang/IllegalArgumentException", (hT _ k_223), hN ("java/lang/IllegalStateException", "java/lang/IllegalArgumentException") (by decide +kernel)⟩) (by decide) (by decide) (hT _ k_254) (badW_use (List.mem_of_getElem? (i := 2) rfl) (hZ.2.2.1 _ (List.mem_of_getElem? (i := 2) rfl))) hce hcv hcl ?_
      refine lv_astore (lv' := [(7, .ref q9), (0, .ref (ad 0)), (1, .int x1), (2, .int x2), (3, .int x3), (4, .int x4), (5, .int x5), (6, .ref ao)]) hx hb dL_values_27 hl (by decide) rfl (fun ls hl => ?_)
      refine lv_iconst (v := 3) hx hb dL_values_29 (by decide) ?_
      exact W.iret (v := 3) hx hb hr (fun t ht hW => ⟨⟨3, (T_2, V9.2), rfl, hw, by rw [ht]; exact hP, va_K.moved hW.alike hK, hD⟩, hS.F ht⟩) hS.2.2 dL_values_30
  · obtain ⟨hP1, -, hD1⟩ := hB
    try dsimp only at hw
    rw [ht] at hP1
    obtain ⟨hP, hD⟩ := va_join (wr := [(ao, .inl (cL, 1, .inr (.inl V9.2)))]) (w1 := wTT cI cZ cJ nl nn ad ra S T_2) hP hD [0, 1, 2, 3, 4, 5, 6, 7, 8, 9, 10, 11, 12, 13, 14, 15, 16, 17, 18, 19] [20] rfl rfl (by decide) (by decide) hk1 hFc hP1 hD1
    generalize H1 = H at hP hS ⊢
    have hP := hP.sub (ws' := wLW cI cZ cJ cL nl nn ad ra ao S (T_2, V9.2)) [1, 2, 3, 4, 5, 6, 7, 8, 9, 10, 11, 12, 13, 14, 15, 16, 17, 18, 19, 20, 0] rfl
    have hD := hD.sub (ws' := wLW cI cZ cJ cL nl nn ad ra ao S (T_2, V9.2)) [1, 2, 3, 4, 5, 6, 7, 8, 9, 10, 11, 12, 13, 14, 15, 16, 17, 18, 19, 20, 0] (by decide) rfl
    refine lv_i2l hx hb dL_values_14 rfl ?_
    obtain ⟨h_3, hw⟩ := hw
    refine va_last hx hb hK hP hD hS 20 3 rfl rfl h_3 dL_values_15 (fun H locs hP hD hS => ?_)
    have hP : va_P (dC, dI) vwCl (wLW cI cZ cJ cL nl nn ad ra ao S (T_2, (vp_updL V9.2 ((0 : Int32).toNatClampNeg) r_1.toInt64))) H := hP
    have hD : va_D A (wLW cI cZ cJ cL nl nn ad ra ao S (T_2, (vp_updL V9.2 ((0 : Int32).toNatClampNeg) r_1.toInt64))) := hD
    refine lv_goto (tgt := 31) hx hb dL_values_16 (by decide) ?_
    refine lv_iconst (v := 0) hx hb dL_values_31 (by decide) ?_
    exact W.iret (v := 0) hx hb hr (fun t ht hW => ⟨⟨0, (T_2, (vp_updL V9.2 ((0 : Int32).toNatClampNeg) r_1.toInt64)), rfl, hw, by rw [ht]; exact hP, va_K.moved hW.alike hK, hD⟩, hS.F ht⟩) hS.2.2 dL_values_32
def wp_L_encode (post : Int32 → vLW → Prop) (nl : Nat) (nn : Nat) (S : vSH) (V9 : vLW) (x1 : Int32) (x2 : Int32) (x3 : Int32) : Prop := wp_X3_encode (fun r_1 T_2 => vp_in 0 1 ∧ (post 0 (T_2, (vp_updL V9.2 ((0 : Int32).toNatClampNeg) r_1.toInt64)))) (fun E T_2 => ((E = "java/lang/IndexOutOfBoundsException" ∧ (post 1 (T_2, V9.2))) ∨ (E = "java/lang/IllegalArgumentException" ∧ (post 2 (T_2, V9.2))) ∨ (E = "java/lang/UnsupportedOperationException" ∧ (post 3 (T_2, V9.2))))) nl nn S V9.1 x1 x2 x3
abbrev rm_L_encode : Room := { frames := 8, cells := 3, slots := 18, locals := 129 }
set_option maxHeartbeats 4000000 in
set_option maxRecDepth 100000 in
theorem met_L_encode (l : Launch) (hl9 : l.stackTraces = false) (dC : Nat → ClassId) (dI : Nat → Nat → Nat) (cI cZ cJ cL : ClassId) (sa : Nat → Nat) (ad ra : Nat → Nat) (ao : Nat) (sz : Nat) (post : Int32 → vLW → Prop) (nl : Nat) (nn : Nat) (S : vSH) (V9 : vLW) (x1 : Int32) (x2 : Int32) (x3 : Int32) (hw : wp_L_encode post nl nn S V9 x1 x2 x3) : Met l yL_encode wsL_encode rm_L_encode (pcL (dC, dI) (tysA cI cZ cJ cL) sa (wLW cI cZ cJ cL nl nn ad ra ao S V9) sz [.ref (ad 0), .int x1, .int x2, .int x3, .ref ao]) (va_Qi post (fun u t => qB (dC, dI) (tysA cI cZ cJ cL) (va_A (wLW cI cZ cJ cL nl nn ad ra ao S V9) sz) (wLW cI cZ cJ cL nl nn ad ra ao S u) t) (va_A (wLW cI cZ cJ cL nl nn ad ra ao S V9) sz)) 3 18 (va_A (wLW cI cZ cJ cL nl nn ad ra ao S V9) sz) := by
  refine va_MetW (cc := cL_encode) (maxL := 6) (ret := (some .int)) (by decide) rfl ?_
  intro p e s m args below meth c s₁ Bd hml hv
  obtain ⟨hargs, hsz, hP, hK, hD0, hZ, hN⟩ := hv
  have hx := Bd.exec
  have hb := Bd.bytes
  have hr := Bd.returns
  have hts := atoms_spec (ws := wsL_encode) Bd.pre
  have hT : ∀ w ∈ WALL, w.before args s = true := fun w h => hts w (List.mem_cons_of_mem _ h)
  have hown : s.vm.findClass RL = some m.cls := findClass_of_methodNamed Bd.named
  have hlocks := Bd.notSynchronized
  subst hsz
  have hD := hD0.self (sz := s.heap.size)
  generalize hAe : va_A (wLW cI cZ cJ cL nl nn ad ra ao S V9) s.heap.size = A at hD ⊢
  have hA : ∀ q : Nat, s.heap.size ≤ q → A q := fun q h => by rw [← hAe]; exact Or.inr h
  have hS : va_S A s.heap s.heap [] := va_S.rf
  rw [hAe] at hZ
  have hTab : c.exceptionTable.toList = tableOf [(0, 12, 15, 13), (0, 12, 19, 15), (0, 12, 23, 26)] := vx_table (x := yL_encode) Bd (hts _ List.mem_cons_self)
  have hP : va_P (dC, dI) vwCl (wLW cI cZ cJ cL nl nn ad ra ao S V9) s.heap := hP
  have hl := lv_entry ([.ref (ad 0), .int x1, .int x2, .int x3, .ref ao]) (n := 6) (Nat.le_of_ble_eq_true rfl)
  rw [show entryFrame m args 6 = F0 m 0 _ [] from by rw [hargs]; exact lg_entry_eq m ([.ref (ad 0), .int x1, .int x2, .int x3, .ref ao]) 6]
  generalize (lg_sl ([.ref (ad 0), .int x1, .int x2, .int x3, .ref ao]) ++ List.replicate (6 - (lg_sl ([.ref (ad 0), .int x1, .int x2, .int x3, .ref ao])).length) Slot.unset).toArray = ls at hl ⊢
  have hl : lv_has ls 6 [(0, .ref (ad 0)), (1, .int x1), (2, .int x2), (3, .int x3), (4, .ref ao)] := hl
  obtain ⟨H, hH⟩ : ∃ z : Heap, z = s.heap := ⟨_, rfl⟩
  obtain ⟨locs, hlocs⟩ : ∃ z : List Loc, z = [] := ⟨_, rfl⟩
  rw [show W p l e (headSpec wsL_encode rm_L_encode).room s m args below meth c s.heap [] 0 0 = W p l e (headSpec wsL_encode rm_L_encode).room s m args below meth c H locs 0 0 from by rw [hH, hlocs]]
  have hP : va_P (dC, dI) vwCl (wLW cI cZ cJ cL nl nn ad ra ao S V9) H := by rw [hH]; exact hP
  have hS : va_S A s.heap H locs := by rw [hH, hlocs]; exact hS
  unfold wp_L_encode at hw
  refine lv_aload hx hb dL_encode_0 (lv_at hl 4 rfl) ?_
  refine lv_iconst (v := 0) hx hb dL_encode_2 (by decide) ?_
  refine lv_aload_n hx hb dL_encode_3 rfl (lv_at hl 0 rfl) ?_
  refine lv_iload_n hx hb dL_encode_4 rfl (lv_at hl 1 rfl) ?_
  refine lv_iload_n hx hb dL_encode_5 rfl (lv_at hl 2 rfl) ?_
  refine lv_iload_n hx hb dL_encode_6 rfl (lv_at hl 3 rfl) ?_
  have hPc := hP.sub (ws' := wTT cI cZ cJ nl nn ad ra S V9.1) [0, 1, 2, 3, 4, 5, 6, 7, 8, 9, 10, 11, 12, 13, 14, 15, 16, 17, 18, 19] rfl
  have hDc := hD.sub (ws' := wTT cI cZ cJ nl nn ad ra S V9.1) [0, 1, 2, 3, 4, 5, 6, 7, 8, 9, 10, 11, 12, 13, 14, 15, 16, 17, 18, 19] (by decide) rfl
  have hFc := va_free (wc := wTT cI cZ cJ nl nn ad ra S V9.1) hD hS hA [0, 1, 2, 3, 4, 5, 6, 7, 8, 9, 10, 11, 12, 13, 14, 15, 16, 17, 18, 19] rfl
  refine vx_calli (vx_runV (As := [.int x1, .int x2, .int x3]) (rest := [.int 0, .ref ao]) ⟨hx, hb, hml, hown, hT⟩ (met_X3_encode l hl9 dC dI cI cZ cJ cL sa ad ra H.size _ _ nl nn S V9.1 x1 x2 x3 hw) (cwV 3 hT (gV k_259 k_261 k_262 k_57 k_260) rfl rfl rfl (by decide +kernel) ⟨(Nat.le_of_ble_eq_true rfl), (Nat.le_of_ble_eq_true rfl)⟩) ⟨bl_X, va_recv hK hPc (ci := 3) (q0 := 0) rfl rfl, fun U hU hW => ⟨rfl, by rw [hU], by rw [hU]; exact hPc, va_K.moved hW.alike hK, hDc.weaken (fun _ _ _ _ => trivial), hZ.call hW hU hS hFc⟩⟩ rfl rfl hl.1 rfl (lv_room (Nat.le_of_ble_eq_true rfl)) dL_encode_7 ⟨Nat.le_of_ble_eq_true rfl, Nat.le_of_ble_eq_true rfl⟩) hS (fun q _ h => hFc q h) hFc (fun q _ h => hFc q h) (fun E ce q9 u9 t H1 locs ht hvm hw hB hz1 hk1 hS hce hcv hcl => ?_) (fun r_1 T_2 t H1 locs ht hvm hw hB hz1 hk1 hS => ?_)
  · obtain ⟨E9, T_2⟩ := u9
    obtain ⟨rfl, hP1, -, hD1⟩ := hB
    try dsimp only at hw
    rw [ht] at hP1
    obtain ⟨hP, hD⟩ := va_join (wr := [(ao, .inl (cL, 1, .inr (.inl V9.2)))]) (w1 := wTT cI cZ cJ nl nn ad ra S T_2) hP hD [0, 1, 2, 3, 4, 5, 6, 7, 8, 9, 10, 11, 12, 13, 14, 15, 16, 17, 18, 19] [20] rfl rfl (by decide) (by decide) hk1 hFc hP1 hD1
    generalize H1 = H at hP hS hce ⊢
    have hP := hP.sub (ws' := wLW cI cZ cJ cL nl nn ad ra ao S (T_2, V9.2)) [1, 2, 3, 4, 5, 6, 7, 8, 9, 10, 11, 12, 13, 14, 15, 16, 17, 18, 19, 20, 0] rfl
    have hD := hD.sub (ws' := wLW cI cZ cJ cL nl nn ad ra ao S (T_2, V9.2)) [1, 2, 3, 4, 5, 6, 7, 8, 9, 10, 11, 12, 13, 14, 15, 16, 17, 18, 19, 20, 0] (by decide) rfl
    rcases hw with ⟨rfl, hw⟩ | ⟨rfl, hw⟩ | ⟨rfl, hw⟩
    · refine vx_catch (own := RL) (name := "java/lang/IndexOutOfBoundsException") (E := "java/lang/IndexOutOfBoundsException") hown [] ⟨0, 12, 15, 13⟩ [⟨0, 12, 19, 15⟩, ⟨0, 12, 23, 26⟩] (by rw [hTab]; rfl) (fun z hz => by cases hz) (by decide) (by decide) (hT _ k_224) (badW_use (List.mem_of_getElem? (i := 0) rfl) (hZ.2.2.1 _ (List.mem_of_getElem? (i := 0) rfl))) hce hcv hcl ?_
      refine lv_astore (lv' := [(5, .ref q9), (0, .ref (ad 0)), (1, .int x1), (2, .int x2), (3, .int x3), (4, .ref ao)]) hx hb dL_encode_15 hl (by decide) rfl (fun ls hl => ?_)
      refine lv_iconst (v := 1) hx hb dL_encode_17 (by decide) ?_
      exact W.iret (v := 1) hx hb hr (fun t ht hW => ⟨⟨1, (T_2, V9.2), rfl, hw, by rw [ht]; exact hP, va_K.moved hW.alike hK, hD⟩, hS.F ht⟩) hS.2.2 dL_encode_18
    · refine vx_catch (own := RL) (name := "java/lang/IllegalArgumentException") (E := "java/lang/IllegalArgumentException") hown [⟨0, 12, 15, 13⟩] ⟨0, 12, 19, 15⟩ [⟨0, 12, 23, 26⟩] (by rw [hTab]; rfl) (by
          intro z hz
          simp only [List.mem_cons, List.not_mem_nil, or_false] at hz
          rcases hz with rfl
          · exact Or.inr ⟨by decide, "java/lang/IndexOutOfBoundsException", (hT _ k_224), hN ("java/lang/IllegalArgumentException", "java/lang/IndexOutOfBoundsException") (by decide +kernel)⟩) (by decide) (by decide) (hT _ k_223) (badW_use (List.mem_of_getElem? (i := 1) rfl) (hZ.2.2.1 _ (List.mem_of_getElem? (i := 1) rfl))) hce hcv hcl ?_
      refine lv_astore (lv' := [(5, .ref q9), (0, .ref (ad 0)), (1, .int x1), (2, .int x2), (3, .int x3), (4, .ref ao)]) hx hb dL_encode_19 hl (by decide) rfl (fun ls hl => ?_)
      refine lv_iconst (v := 2) hx hb dL_encode_21 (by decide) ?_
      exact W.iret (v := 2) hx hb hr (fun t ht hW => ⟨⟨2, (T_2, V9.2), rfl, hw, by rw [ht]; exact hP, va_K.moved hW.alike hK, hD⟩, hS.F ht⟩) hS.2.2 dL_encode_22
    · refine vx_catch (own := RL) (name := "java/lang/UnsupportedOperationException") (E := "java/lang/UnsupportedOperationException") hown [⟨0, 12, 15, 13⟩, ⟨0, 12, 19, 15⟩] ⟨0, 12, 23, 26⟩ [] (by rw [hTab]; rfl) (by
          intro z hz
          simp only [List.mem_cons, List.not_mem_nil, or_false] at hz
          rcases hz with rfl | rfl
          · exact Or.inr ⟨by decide, "java/lang/IndexOutOfBoundsException", (hT _ k_224), hN ("java/lang/UnsupportedOperationException", "java/lang/IndexOutOfBoundsException") (by decide +kernel)⟩
          · exact Or.inr ⟨by decide, "java/lang/IllegalArgumentException", (hT _ k_223), hN ("java/lang/UnsupportedOperationException", "java/lang/IllegalArgumentException") (by decide +kernel)⟩) (by decide) (by decide) (hT _ k_233) (badW_use (List.mem_of_getElem? (i := 3) rfl) (hZ.2.2.1 _ (List.mem_of_getElem? (i := 3) rfl))) hce hcv hcl ?_
      refine lv_astore (lv' := [(5, .ref q9), (0, .ref (ad 0)), (1, .int x1), (2, .int x2), (3, .int x3), (4, .ref ao)]) hx hb dL_encode_23 hl (by decide) rfl (fun ls hl => ?_)
      refine lv_iconst (v := 3) hx hb dL_encode_25 (by decide) ?_
      exact W.iret (v := 3) hx hb hr (fun t ht hW => ⟨⟨3, (T_2, V9.2), rfl, hw, by rw [ht]; exact hP, va_K.moved hW.alike hK, hD⟩, hS.F ht⟩) hS.2.2 dL_encode_26
  · obtain ⟨hP1, -, hD1⟩ := hB
    try dsimp only at hw
    rw [ht] at hP1
    obtain ⟨hP, hD⟩ := va_join (wr := [(ao, .inl (cL, 1, .inr (.inl V9.2)))]) (w1 := wTT cI cZ cJ nl nn ad ra S T_2) hP hD [0, 1, 2, 3, 4, 5, 6, 7, 8, 9, 10, 11, 12, 13, 14, 15, 16, 17, 18, 19] [20] rfl rfl (by decide) (by decide) hk1 hFc hP1 hD1
    generalize H1 = H at hP hS ⊢
    have hP := hP.sub (ws' := wLW cI cZ cJ cL nl nn ad ra ao S (T_2, V9.2)) [1, 2, 3, 4, 5, 6, 7, 8, 9, 10, 11, 12, 13, 14, 15, 16, 17, 18, 19, 20, 0] rfl
    have hD := hD.sub (ws' := wLW cI cZ cJ cL nl nn ad ra ao S (T_2, V9.2)) [1, 2, 3, 4, 5, 6, 7, 8, 9, 10, 11, 12, 13, 14, 15, 16, 17, 18, 19, 20, 0] (by decide) rfl
    refine lv_i2l hx hb dL_encode_10 rfl ?_
    obtain ⟨h_3, hw⟩ := hw
    refine va_last hx hb hK hP hD hS 20 3 rfl rfl h_3 dL_encode_11 (fun H locs hP hD hS => ?_)
    have hP : va_P (dC, dI) vwCl (wLW cI cZ cJ cL nl nn ad ra ao S (T_2, (vp_updL V9.2 ((0 : Int32).toNatClampNeg) r_1.toInt64))) H := hP
    have hD : va_D A (wLW cI cZ cJ cL nl nn ad ra ao S (T_2, (vp_updL V9.2 ((0 : Int32).toNatClampNeg) r_1.toInt64))) := hD
    refine lv_goto (tgt := 27) hx hb dL_encode_12 (by decide) ?_
    refine lv_iconst (v := 0) hx hb dL_encode_27 (by decide) ?_
    exact W.iret (v := 0) hx hb hr (fun t ht hW => ⟨⟨0, (T_2, (vp_updL V9.2 ((0 : Int32).toNatClampNeg) r_1.toInt64)), rfl, hw, by rw [ht]; exact hP, va_K.moved hW.alike hK, hD⟩, hS.F ht⟩) hS.2.2 dL_encode_28
def wp_L_cost (post : Int32 → vLW → Prop) (nl : Nat) (nn : Nat) (S : vSH) (V9 : vLW) (x1 : Int32) (x2 : Int32) (x3 : Int32) : Prop := wp_X3_cost (fun r_1 T_2 => vp_in 0 1 ∧ (post 0 (T_2, (vp_updL V9.2 ((0 : Int32).toNatClampNeg) r_1.toInt64)))) (fun E T_2 => ((E = "java/lang/IndexOutOfBoundsException" ∧ (post 1 (T_2, V9.2))) ∨ (E = "java/lang/IllegalArgumentException" ∧ (post 2 (T_2, V9.2))))) nl nn S V9.1 x1 x2 x3
abbrev rm_L_cost : Room := { frames := 8, cells := 2, slots := 12, locals := 128 }
set_option maxHeartbeats 4000000 in
set_option maxRecDepth 100000 in
theorem met_L_cost (l : Launch) (hl9 : l.stackTraces = false) (dC : Nat → ClassId) (dI : Nat → Nat → Nat) (cI cZ cJ cL : ClassId) (sa : Nat → Nat) (ad ra : Nat → Nat) (ao : Nat) (sz : Nat) (post : Int32 → vLW → Prop) (nl : Nat) (nn : Nat) (S : vSH) (V9 : vLW) (x1 : Int32) (x2 : Int32) (x3 : Int32) (hw : wp_L_cost post nl nn S V9 x1 x2 x3) : Met l yL_cost wsL_cost rm_L_cost (pcL (dC, dI) (tysA cI cZ cJ cL) sa (wLW cI cZ cJ cL nl nn ad ra ao S V9) sz [.ref (ad 0), .int x1, .int x2, .int x3, .ref ao]) (va_Qi post (fun u t => qB (dC, dI) (tysA cI cZ cJ cL) (va_A (wLW cI cZ cJ cL nl nn ad ra ao S V9) sz) (wLW cI cZ cJ cL nl nn ad ra ao S u) t) (va_A (wLW cI cZ cJ cL nl nn ad ra ao S V9) sz)) 2 12 (va_A (wLW cI cZ cJ cL nl nn ad ra ao S V9) sz) := by
  refine va_MetW (cc := cL_cost) (maxL := 6) (ret := (some .int)) (by decide) rfl ?_
  intro p e s m args below meth c s₁ Bd hml hv
  obtain ⟨hargs, hsz, hP, hK, hD0, hZ, hN⟩ := hv
  have hx := Bd.exec
  have hb := Bd.bytes
  have hr := Bd.returns
  have hts := atoms_spec (ws := wsL_cost) Bd.pre
  have hT : ∀ w ∈ WALL, w.before args s = true := fun w h => hts w (List.mem_cons_of_mem _ h)
  have hown : s.vm.findClass RL = some m.cls := findClass_of_methodNamed Bd.named
  have hlocks := Bd.notSynchronized
  subst hsz
  have hD := hD0.self (sz := s.heap.size)
  generalize hAe : va_A (wLW cI cZ cJ cL nl nn ad ra ao S V9) s.heap.size = A at hD ⊢
  have hA : ∀ q : Nat, s.heap.size ≤ q → A q := fun q h => by rw [← hAe]; exact Or.inr h
  have hS : va_S A s.heap s.heap [] := va_S.rf
  rw [hAe] at hZ
  have hTab : c.exceptionTable.toList = tableOf [(0, 12, 15, 13), (0, 12, 19, 15)] := vx_table (x := yL_cost) Bd (hts _ List.mem_cons_self)
  have hP : va_P (dC, dI) vwCl (wLW cI cZ cJ cL nl nn ad ra ao S V9) s.heap := hP
  have hl := lv_entry ([.ref (ad 0), .int x1, .int x2, .int x3, .ref ao]) (n := 6) (Nat.le_of_ble_eq_true rfl)
  rw [show entryFrame m args 6 = F0 m 0 _ [] from by rw [hargs]; exact lg_entry_eq m ([.ref (ad 0), .int x1, .int x2, .int x3, .ref ao]) 6]
  generalize (lg_sl ([.ref (ad 0), .int x1, .int x2, .int x3, .ref ao]) ++ List.replicate (6 - (lg_sl ([.ref (ad 0), .int x1, .int x2, .int x3, .ref ao])).length) Slot.unset).toArray = ls at hl ⊢
  have hl : lv_has ls 6 [(0, .ref (ad 0)), (1, .int x1), (2, .int x2), (3, .int x3), (4, .ref ao)] := hl
  obtain ⟨H, hH⟩ : ∃ z : Heap, z = s.heap := ⟨_, rfl⟩
  obtain ⟨locs, hlocs⟩ : ∃ z : List Loc, z = [] := ⟨_, rfl⟩
  rw [show W p l e (headSpec wsL_cost rm_L_cost).room s m args below meth c s.heap [] 0 0 = W p l e (headSpec wsL_cost rm_L_cost).room s m args below meth c H locs 0 0 from by rw [hH, hlocs]]
  have hP : va_P (dC, dI) vwCl (wLW cI cZ cJ cL nl nn ad ra ao S V9) H := by rw [hH]; exact hP
  have hS : va_S A s.heap H locs := by rw [hH, hlocs]; exact hS
  unfold wp_L_cost at hw
  refine lv_aload hx hb dL_cost_0 (lv_at hl 4 rfl) ?_
  refine lv_iconst (v := 0) hx hb dL_cost_2 (by decide) ?_
  refine lv_aload_n hx hb dL_cost_3 rfl (lv_at hl 0 rfl) ?_
  refine lv_iload_n hx hb dL_cost_4 rfl (lv_at hl 1 rfl) ?_
  refine lv_iload_n hx hb dL_cost_5 rfl (lv_at hl 2 rfl) ?_
  refine lv_iload_n hx hb dL_cost_6 rfl (lv_at hl 3 rfl) ?_
  have hPc := hP.sub (ws' := wTT cI cZ cJ nl nn ad ra S V9.1) [0, 1, 2, 3, 4, 5, 6, 7, 8, 9, 10, 11, 12, 13, 14, 15, 16, 17, 18, 19] rfl
  have hDc := hD.sub (ws' := wTT cI cZ cJ nl nn ad ra S V9.1) [0, 1, 2, 3, 4, 5, 6, 7, 8, 9, 10, 11, 12, 13, 14, 15, 16, 17, 18, 19] (by decide) rfl
  have hFc := va_free (wc := wTT cI cZ cJ nl nn ad ra S V9.1) hD hS hA [0, 1, 2, 3, 4, 5, 6, 7, 8, 9, 10, 11, 12, 13, 14, 15, 16, 17, 18, 19] rfl
  refine vx_calli (vx_runV (As := [.int x1, .int x2, .int x3]) (rest := [.int 0, .ref ao]) ⟨hx, hb, hml, hown, hT⟩ (met_X3_cost l hl9 dC dI cI cZ cJ cL sa ad ra H.size _ _ nl nn S V9.1 x1 x2 x3 hw) (cwV 3 hT (gV k_263 k_265 k_266 k_57 k_264) rfl rfl rfl (by decide +kernel) ⟨(Nat.le_of_ble_eq_true rfl), (Nat.le_of_ble_eq_true rfl)⟩) ⟨bl_X, va_recv hK hPc (ci := 3) (q0 := 0) rfl rfl, fun U hU hW => ⟨rfl, by rw [hU], by rw [hU]; exact hPc, va_K.moved hW.alike hK, hDc.weaken (fun _ _ _ _ => trivial), hZ.call hW hU hS hFc⟩⟩ rfl rfl hl.1 rfl (lv_room (Nat.le_of_ble_eq_true rfl)) dL_cost_7 ⟨Nat.le_of_ble_eq_true rfl, Nat.le_of_ble_eq_true rfl⟩) hS (fun q _ h => hFc q h) hFc (fun q _ h => hFc q h) (fun E ce q9 u9 t H1 locs ht hvm hw hB hz1 hk1 hS hce hcv hcl => ?_) (fun r_1 T_2 t H1 locs ht hvm hw hB hz1 hk1 hS => ?_)
  · obtain ⟨E9, T_2⟩ := u9
    obtain ⟨rfl, hP1, -, hD1⟩ := hB
    try dsimp only at hw
    rw [ht] at hP1
    obtain ⟨hP, hD⟩ := va_join (wr := [(ao, .inl (cL, 1, .inr (.inl V9.2)))]) (w1 := wTT cI cZ cJ nl nn ad ra S T_2) hP hD [0, 1, 2, 3, 4, 5, 6, 7, 8, 9, 10, 11, 12, 13, 14, 15, 16, 17, 18, 19] [20] rfl rfl (by decide) (by decide) hk1 hFc hP1 hD1
    generalize H1 = H at hP hS hce ⊢
    have hP := hP.sub (ws' := wLW cI cZ cJ cL nl nn ad ra ao S (T_2, V9.2)) [1, 2, 3, 4, 5, 6, 7, 8, 9, 10, 11, 12, 13, 14, 15, 16, 17, 18, 19, 20, 0] rfl
    have hD := hD.sub (ws' := wLW cI cZ cJ cL nl nn ad ra ao S (T_2, V9.2)) [1, 2, 3, 4, 5, 6, 7, 8, 9, 10, 11, 12, 13, 14, 15, 16, 17, 18, 19, 20, 0] (by decide) rfl
    rcases hw with ⟨rfl, hw⟩ | ⟨rfl, hw⟩
    · refine vx_catch (own := RL) (name := "java/lang/IndexOutOfBoundsException") (E := "java/lang/IndexOutOfBoundsException") hown [] ⟨0, 12, 15, 13⟩ [⟨0, 12, 19, 15⟩] (by rw [hTab]; rfl) (fun z hz => by cases hz) (by decide) (by decide) (hT _ k_224) (badW_use (List.mem_of_getElem? (i := 0) rfl) (hZ.2.2.1 _ (List.mem_of_getElem? (i := 0) rfl))) hce hcv hcl ?_
      refine lv_astore (lv' := [(5, .ref q9), (0, .ref (ad 0)), (1, .int x1), (2, .int x2), (3, .int x3), (4, .ref ao)]) hx hb dL_cost_15 hl (by decide) rfl (fun ls hl => ?_)
      refine lv_iconst (v := 1) hx hb dL_cost_17 (by decide) ?_
      exact W.iret (v := 1) hx hb hr (fun t ht hW => ⟨⟨1, (T_2, V9.2), rfl, hw, by rw [ht]; exact hP, va_K.moved hW.alike hK, hD⟩, hS.F ht⟩) hS.2.2 dL_cost_18
    · refine vx_catch (own := RL) (name := "java/lang/IllegalArgumentException") (E := "java/lang/IllegalArgumentException") hown [⟨0, 12, 15, 13⟩] ⟨0, 12, 19, 15⟩ [] (by rw [hTab]; rfl) (by
          intro z hz
          simp only [List.mem_cons, List.not_mem_nil, or_false] at hz
          rcases hz with rfl
          · exact Or.inr ⟨by decide, "java/lang/IndexOutOfBoundsException", (hT _ k_224), hN ("java/lang/IllegalArgumentException", "java/lang/IndexOutOfBoundsException") (by decide +kernel)⟩) (by decide) (by decide) (hT _ k_223) (badW_use (List.mem_of_getElem? (i := 1) rfl) (hZ.2.2.1 _ (List.mem_of_getElem? (i := 1) rfl))) hce hcv hcl ?_
      refine lv_astore (lv' := [(5, .ref q9), (0, .ref (ad 0)), (1, .int x1), (2, .int x2), (3, .int x3), (4, .ref ao)]) hx hb dL_cost_19 hl (by decide) rfl (fun ls hl => ?_)
      refine lv_iconst (v := 2) hx hb dL_cost_21 (by decide) ?_
      exact W.iret (v := 2) hx hb hr (fun t ht hW => ⟨⟨2, (T_2, V9.2), rfl, hw, by rw [ht]; exact hP, va_K.moved hW.alike hK, hD⟩, hS.F ht⟩) hS.2.2 dL_cost_22
  · obtain ⟨hP1, -, hD1⟩ := hB
    try dsimp only at hw
    rw [ht] at hP1
    obtain ⟨hP, hD⟩ := va_join (wr := [(ao, .inl (cL, 1, .inr (.inl V9.2)))]) (w1 := wTT cI cZ cJ nl nn ad ra S T_2) hP hD [0, 1, 2, 3, 4, 5, 6, 7, 8, 9, 10, 11, 12, 13, 14, 15, 16, 17, 18, 19] [20] rfl rfl (by decide) (by decide) hk1 hFc hP1 hD1
    generalize H1 = H at hP hS ⊢
    have hP := hP.sub (ws' := wLW cI cZ cJ cL nl nn ad ra ao S (T_2, V9.2)) [1, 2, 3, 4, 5, 6, 7, 8, 9, 10, 11, 12, 13, 14, 15, 16, 17, 18, 19, 20, 0] rfl
    have hD := hD.sub (ws' := wLW cI cZ cJ cL nl nn ad ra ao S (T_2, V9.2)) [1, 2, 3, 4, 5, 6, 7, 8, 9, 10, 11, 12, 13, 14, 15, 16, 17, 18, 19, 20, 0] (by decide) rfl
    refine lv_i2l hx hb dL_cost_10 rfl ?_
    obtain ⟨h_3, hw⟩ := hw
    refine va_last hx hb hK hP hD hS 20 3 rfl rfl h_3 dL_cost_11 (fun H locs hP hD hS => ?_)
    have hP : va_P (dC, dI) vwCl (wLW cI cZ cJ cL nl nn ad ra ao S (T_2, (vp_updL V9.2 ((0 : Int32).toNatClampNeg) r_1.toInt64))) H := hP
    have hD : va_D A (wLW cI cZ cJ cL nl nn ad ra ao S (T_2, (vp_updL V9.2 ((0 : Int32).toNatClampNeg) r_1.toInt64))) := hD
    refine lv_goto (tgt := 23) hx hb dL_cost_12 (by decide) ?_
    refine lv_iconst (v := 0) hx hb dL_cost_23 (by decide) ?_
    exact W.iret (v := 0) hx hb hr (fun t ht hW => ⟨⟨0, (T_2, (vp_updL V9.2 ((0 : Int32).toNatClampNeg) r_1.toInt64)), rfl, hw, by rw [ht]; exact hP, va_K.moved hW.alike hK, hD⟩, hS.F ht⟩) hS.2.2 dL_cost_24
def wp_L_encodeAll (post : Int32 → vLW → Prop) (nl : Nat) (nn : Nat) (S : vSH) (V9 : vLW) (x1 : Int32) (x2 : Int32) : Prop := wp_X3_encodeAll (fun r_1 T_2 => vp_in 0 1 ∧ (post 0 (T_2, (vp_updL V9.2 ((0 : Int32).toNatClampNeg) r_1.toInt64)))) (fun E T_2 => ((E = "java/lang/IllegalArgumentException" ∧ (post 1 (T_2, V9.2))) ∨ (E = "java/lang/UnsupportedOperationException" ∧ (post 2 (T_2, V9.2))))) nl nn S V9.1 x1 x2
abbrev rm_L_encodeAll : Room := { frames := 13, cells := 3, slots := 18, locals := 404 }
set_option maxHeartbeats 4000000 in
set_option maxRecDepth 100000 in
theorem met_L_encodeAll (l : Launch) (hl9 : l.stackTraces = false) (dC : Nat → ClassId) (dI : Nat → Nat → Nat) (cI cZ cJ cL : ClassId) (sa : Nat → Nat) (ad ra : Nat → Nat) (ao : Nat) (sz : Nat) (post : Int32 → vLW → Prop) (nl : Nat) (nn : Nat) (S : vSH) (V9 : vLW) (x1 : Int32) (x2 : Int32) (hw : wp_L_encodeAll post nl nn S V9 x1 x2) : Met l yL_encodeAll wsL_encodeAll rm_L_encodeAll (pcL (dC, dI) (tysA cI cZ cJ cL) sa (wLW cI cZ cJ cL nl nn ad ra ao S V9) sz [.ref (ad 0), .int x1, .int x2, .ref ao]) (va_Qi post (fun u t => qB (dC, dI) (tysA cI cZ cJ cL) (va_A (wLW cI cZ cJ cL nl nn ad ra ao S V9) sz) (wLW cI cZ cJ cL nl nn ad ra ao S u) t) (va_A (wLW cI cZ cJ cL nl nn ad ra ao S V9) sz)) 3 18 (va_A (wLW cI cZ cJ cL nl nn ad ra ao S V9) sz) := by
  refine va_MetW (cc := cL_encodeAll) (maxL := 5) (ret := (some .int)) (by decide) rfl ?_
  intro p e s m args below meth c s₁ Bd hml hv
  obtain ⟨hargs, hsz, hP, hK, hD0, hZ, hN⟩ := hv
  have hx := Bd.exec
  have hb := Bd.bytes
  have hr := Bd.returns
  have hts := atoms_spec (ws := wsL_encodeAll) Bd.pre
  have hT : ∀ w ∈ WALL, w.before args s = true := fun w h => hts w (List.mem_cons_of_mem _ h)
  have hown : s.vm.findClass RL = some m.cls := findClass_of_methodNamed Bd.named
  have hlocks := Bd.notSynchronized
  subst hsz
  have hD := hD0.self (sz := s.heap.size)
  generalize hAe : va_A (wLW cI cZ cJ cL nl nn ad ra ao S V9) s.heap.size = A at hD ⊢
  have hA : ∀ q : Nat, s.heap.size ≤ q → A q := fun q h => by rw [← hAe]; exact Or.inr h
  have hS : va_S A s.heap s.heap [] := va_S.rf
  rw [hAe] at hZ
  have hTab : c.exceptionTable.toList = tableOf [(0, 10, 13, 15), (0, 10, 17, 26)] := vx_table (x := yL_encodeAll) Bd (hts _ List.mem_cons_self)
  have hP : va_P (dC, dI) vwCl (wLW cI cZ cJ cL nl nn ad ra ao S V9) s.heap := hP
  have hl := lv_entry ([.ref (ad 0), .int x1, .int x2, .ref ao]) (n := 5) (Nat.le_of_ble_eq_true rfl)
  rw [show entryFrame m args 5 = F0 m 0 _ [] from by rw [hargs]; exact lg_entry_eq m ([.ref (ad 0), .int x1, .int x2, .ref ao]) 5]
  generalize (lg_sl ([.ref (ad 0), .int x1, .int x2, .ref ao]) ++ List.replicate (5 - (lg_sl ([.ref (ad 0), .int x1, .int x2, .ref ao])).length) Slot.unset).toArray = ls at hl ⊢
  have hl : lv_has ls 5 [(0, .ref (ad 0)), (1, .int x1), (2, .int x2), (3, .ref ao)] := hl
  obtain ⟨H, hH⟩ : ∃ z : Heap, z = s.heap := ⟨_, rfl⟩
  obtain ⟨locs, hlocs⟩ : ∃ z : List Loc, z = [] := ⟨_, rfl⟩
  rw [show W p l e (headSpec wsL_encodeAll rm_L_encodeAll).room s m args below meth c s.heap [] 0 0 = W p l e (headSpec wsL_encodeAll rm_L_encodeAll).room s m args below meth c H locs 0 0 from by rw [hH, hlocs]]
  have hP : va_P (dC, dI) vwCl (wLW cI cZ cJ cL nl nn ad ra ao S V9) H := by rw [hH]; exact hP
  have hS : va_S A s.heap H locs := by rw [hH, hlocs]; exact hS
  unfold wp_L_encodeAll at hw
  refine lv_aload_n hx hb dL_encodeAll_0 rfl (lv_at hl 3 rfl) ?_
  refine lv_iconst (v := 0) hx hb dL_encodeAll_1 (by decide) ?_
  refine lv_aload_n hx hb dL_encodeAll_2 rfl (lv_at hl 0 rfl) ?_
  refine lv_iload_n hx hb dL_encodeAll_3 rfl (lv_at hl 1 rfl) ?_
  refine lv_iload_n hx hb dL_encodeAll_4 rfl (lv_at hl 2 rfl) ?_
  have hPc := hP.sub (ws' := wTT cI cZ cJ nl nn ad ra S V9.1) [0, 1, 2, 3, 4, 5, 6, 7, 8, 9, 10, 11, 12, 13, 14, 15, 16, 17, 18, 19] rfl
  have hDc := hD.sub (ws' := wTT cI cZ cJ nl nn ad ra S V9.1) [0, 1, 2, 3, 4, 5, 6, 7, 8, 9, 10, 11, 12, 13, 14, 15, 16, 17, 18, 19] (by decide) rfl
  have hFc := va_free (wc := wTT cI cZ cJ nl nn ad ra S V9.1) hD hS hA [0, 1, 2, 3, 4, 5, 6, 7, 8, 9, 10, 11, 12, 13, 14, 15, 16, 17, 18, 19] rfl
  refine vx_calli (vx_runV (As := [.int x1, .int x2]) (rest := [.int 0, .ref ao]) ⟨hx, hb, hml, hown, hT⟩ (met_X3_encodeAll l hl9 dC dI cI cZ cJ cL sa ad ra H.size _ _ nl nn S V9.1 x1 x2 hw) (cwV 2 hT (gV k_267 k_269 k_270 k_57 k_268) rfl rfl rfl (by decide +kernel) ⟨(Nat.le_of_ble_eq_true rfl), (Nat.le_of_ble_eq_true rfl)⟩) ⟨bl_X, va_recv hK hPc (ci := 3) (q0 := 0) rfl rfl, fun U hU hW => ⟨rfl, by rw [hU], by rw [hU]; exact hPc, va_K.moved hW.alike hK, hDc.weaken (fun _ _ _ _ => trivial), hZ.call hW hU hS hFc⟩⟩ rfl rfl hl.1 rfl (lv_room (Nat.le_of_ble_eq_true rfl)) dL_encodeAll_5 ⟨Nat.le_of_ble_eq_true rfl, Nat.le_of_ble_eq_true rfl⟩) hS (fun q _ h => hFc q h) hFc (fun q _ h => hFc q h) (fun E ce q9 u9 t H1 locs ht hvm hw hB hz1 hk1 hS hce hcv hcl => ?_) (fun r_1 T_2 t H1 locs ht hvm hw hB hz1 hk1 hS => ?_)
  · obtain ⟨E9, T_2⟩ := u9
    obtain ⟨rfl, hP1, -, hD1⟩ := hB
    try dsimp only at hw
    rw [ht] at hP1
    obtain ⟨hP, hD⟩ := va_join (wr := [(ao, .inl (cL, 1, .inr (.inl V9.2)))]) (w1 := wTT cI cZ cJ nl nn ad ra S T_2) hP hD [0, 1, 2, 3, 4, 5, 6, 7, 8, 9, 10, 11, 12, 13, 14, 15, 16, 17, 18, 19] [20] rfl rfl (by decide) (by decide) hk1 hFc hP1 hD1
    generalize H1 = H at hP hS hce ⊢
    have hP := hP.sub (ws' := wLW cI cZ cJ cL nl nn ad ra ao S (T_2, V9.2)) [1, 2, 3, 4, 5, 6, 7, 8, 9, 10, 11, 12, 13, 14, 15, 16, 17, 18, 19, 20, 0] rfl
    have hD := hD.sub (ws' := wLW cI cZ cJ cL nl nn ad ra ao S (T_2, V9.2)) [1, 2, 3, 4, 5, 6, 7, 8, 9, 10, 11, 12, 13, 14, 15, 16, 17, 18, 19, 20, 0] (by decide) rfl
    rcases hw with ⟨rfl, hw⟩ | ⟨rfl, hw⟩
    · refine vx_catch (own := RL) (name := "java/lang/IllegalArgumentException") (E := "java/lang/IllegalArgumentException") hown [] ⟨0, 10, 13, 15⟩ [⟨0, 10, 17, 26⟩] (by rw [hTab]; rfl) (fun z hz => by cases hz) (by decide) (by decide) (hT _ k_223) (badW_use (List.mem_of_getElem? (i := 1) rfl) (hZ.2.2.1 _ (List.mem_of_getElem? (i := 1) rfl))) hce hcv hcl ?_
      refine lv_astore (lv' := [(4, .ref q9), (0, .ref (ad 0)), (1, .int x1), (2, .int x2), (3, .ref ao)]) hx hb dL_encodeAll_13 hl (by decide) rfl (fun ls hl => ?_)
      refine lv_iconst (v := 1) hx hb dL_encodeAll_15 (by decide) ?_
      exact W.iret (v := 1) hx hb hr (fun t ht hW => ⟨⟨1, (T_2, V9.2), rfl, hw, by rw [ht]; exact hP, va_K.moved hW.alike hK, hD⟩, hS.F ht⟩) hS.2.2 dL_encodeAll_16
    · refine vx_catch (own := RL) (name := "java/lang/UnsupportedOperationException") (E := "java/lang/UnsupportedOperationException") hown [⟨0, 10, 13, 15⟩] ⟨0, 10, 17, 26⟩ [] (by rw [hTab]; rfl) (by
          intro z hz
          simp only [List.mem_cons, List.not_mem_nil, or_false] at hz
          rcases hz with rfl
          · exact Or.inr ⟨by decide, "java/lang/IllegalArgumentException", (hT _ k_223), hN ("java/lang/UnsupportedOperationException", "java/lang/IllegalArgumentException") (by decide +kernel)⟩) (by decide) (by decide) (hT _ k_233) (badW_use (List.mem_of_getElem? (i := 3) rfl) (hZ.2.2.1 _ (List.mem_of_getElem? (i := 3) rfl))) hce hcv hcl ?_
      refine lv_astore (lv' := [(4, .ref q9), (0, .ref (ad 0)), (1, .int x1), (2, .int x2), (3, .ref ao)]) hx hb dL_encodeAll_17 hl (by decide) rfl (fun ls hl => ?_)
      refine lv_iconst (v := 2) hx hb dL_encodeAll_19 (by decide) ?_
      exact W.iret (v := 2) hx hb hr (fun t ht hW => ⟨⟨2, (T_2, V9.2), rfl, hw, by rw [ht]; exact hP, va_K.moved hW.alike hK, hD⟩, hS.F ht⟩) hS.2.2 dL_encodeAll_20
  · obtain ⟨hP1, -, hD1⟩ := hB
    try dsimp only at hw
    rw [ht] at hP1
    obtain ⟨hP, hD⟩ := va_join (wr := [(ao, .inl (cL, 1, .inr (.inl V9.2)))]) (w1 := wTT cI cZ cJ nl nn ad ra S T_2) hP hD [0, 1, 2, 3, 4, 5, 6, 7, 8, 9, 10, 11, 12, 13, 14, 15, 16, 17, 18, 19] [20] rfl rfl (by decide) (by decide) hk1 hFc hP1 hD1
    generalize H1 = H at hP hS ⊢
    have hP := hP.sub (ws' := wLW cI cZ cJ cL nl nn ad ra ao S (T_2, V9.2)) [1, 2, 3, 4, 5, 6, 7, 8, 9, 10, 11, 12, 13, 14, 15, 16, 17, 18, 19, 20, 0] rfl
    have hD := hD.sub (ws' := wLW cI cZ cJ cL nl nn ad ra ao S (T_2, V9.2)) [1, 2, 3, 4, 5, 6, 7, 8, 9, 10, 11, 12, 13, 14, 15, 16, 17, 18, 19, 20, 0] (by decide) rfl
    refine lv_i2l hx hb dL_encodeAll_8 rfl ?_
    obtain ⟨h_3, hw⟩ := hw
    refine va_last hx hb hK hP hD hS 20 3 rfl rfl h_3 dL_encodeAll_9 (fun H locs hP hD hS => ?_)
    have hP : va_P (dC, dI) vwCl (wLW cI cZ cJ cL nl nn ad ra ao S (T_2, (vp_updL V9.2 ((0 : Int32).toNatClampNeg) r_1.toInt64))) H := hP
    have hD : va_D A (wLW cI cZ cJ cL nl nn ad ra ao S (T_2, (vp_updL V9.2 ((0 : Int32).toNatClampNeg) r_1.toInt64))) := hD
    refine lv_goto (tgt := 21) hx hb dL_encodeAll_10 (by decide) ?_
    refine lv_iconst (v := 0) hx hb dL_encodeAll_21 (by decide) ?_
    exact W.iret (v := 0) hx hb hr (fun t ht hW => ⟨⟨0, (T_2, (vp_updL V9.2 ((0 : Int32).toNatClampNeg) r_1.toInt64)), rfl, hw, by rw [ht]; exact hP, va_K.moved hW.alike hK, hD⟩, hS.F ht⟩) hS.2.2 dL_encodeAll_22
def wp_L_decode (post : Int32 → vLW → Prop) (nl : Nat) (nn : Nat) (S : vSH) (V9 : vLW) (x1 : Int32) (x2 : Int32) (x3 : Int32) : Prop := wp_X3_decode (fun r_1 T_2 => vp_in 0 1 ∧ (post 0 (T_2, (vp_updL V9.2 ((0 : Int32).toNatClampNeg) r_1.toInt64)))) (fun E T_2 => ((E = "java/lang/IndexOutOfBoundsException" ∧ (post 1 (T_2, V9.2))) ∨ (E = "java/lang/IllegalArgumentException" ∧ (post 2 (T_2, V9.2))))) nl nn S V9.1 x1 x2 x3
abbrev rm_L_decode : Room := { frames := 8, cells := 2, slots := 12, locals := 129 }
set_option maxHeartbeats 4000000 in
set_option maxRecDepth 100000 in
theorem met_L_decode (l : Launch) (hl9 : l.stackTraces = false) (dC : Nat → ClassId) (dI : Nat → Nat → Nat) (cI cZ cJ cL : ClassId) (sa : Nat → Nat) (ad ra : Nat → Nat) (ao : Nat) (sz : Nat) (post : Int32 → vLW → Prop) (nl : Nat) (nn : Nat) (S : vSH) (V9 : vLW) (x1 : Int32) (x2 : Int32) (x3 : Int32) (hw : wp_L_decode post nl nn S V9 x1 x2 x3) : Met l yL_decode wsL_decode rm_L_decode (pcL (dC, dI) (tysA cI cZ cJ cL) sa (wLW cI cZ cJ cL nl nn ad ra ao S V9) sz [.ref (ad 0), .int x1, .int x2, .int x3, .ref ao]) (va_Qi post (fun u t => qB (dC, dI) (tysA cI cZ cJ cL) (va_A (wLW cI cZ cJ cL nl nn ad ra ao S V9) sz) (wLW cI cZ cJ cL nl nn ad ra ao S u) t) (va_A (wLW cI cZ cJ cL nl nn ad ra ao S V9) sz)) 2 12 (va_A (wLW cI cZ cJ cL nl nn ad ra ao S V9) sz) := by
  refine va_MetW (cc := cL_decode) (maxL := 6) (ret := (some .int)) (by decide) rfl ?_
  intro p e s m args below meth c s₁ Bd hml hv
  obtain ⟨hargs, hsz, hP, hK, hD0, hZ, hN⟩ := hv
  have hx := Bd.exec
  have hb := Bd.bytes
  have hr := Bd.returns
  have hts := atoms_spec (ws := wsL_decode) Bd.pre
  have hT : ∀ w ∈ WALL, w.before args s = true := fun w h => hts w (List.mem_cons_of_mem _ h)
  have hown : s.vm.findClass RL = some m.cls := findClass_of_methodNamed Bd.named
  have hlocks := Bd.notSynchronized
  subst hsz
  have hD := hD0.self (sz := s.heap.size)
  generalize hAe : va_A (wLW cI cZ cJ cL nl nn ad ra ao S V9) s.heap.size = A at hD ⊢
  have hA : ∀ q : Nat, s.heap.size ≤ q → A q := fun q h => by rw [← hAe]; exact Or.inr h
  have hS : va_S A s.heap s.heap [] := va_S.rf
  rw [hAe] at hZ
  have hTab : c.exceptionTable.toList = tableOf [(0, 12, 15, 13), (0, 12, 19, 15)] := vx_table (x := yL_decode) Bd (hts _ List.mem_cons_self)
  have hP : va_P (dC, dI) vwCl (wLW cI cZ cJ cL nl nn ad ra ao S V9) s.heap := hP
  have hl := lv_entry ([.ref (ad 0), .int x1, .int x2, .int x3, .ref ao]) (n := 6) (Nat.le_of_ble_eq_true rfl)
  rw [show entryFrame m args 6 = F0 m 0 _ [] from by rw [hargs]; exact lg_entry_eq m ([.ref (ad 0), .int x1, .int x2, .int x3, .ref ao]) 6]
  generalize (lg_sl ([.ref (ad 0), .int x1, .int x2, .int x3, .ref ao]) ++ List.replicate (6 - (lg_sl ([.ref (ad 0), .int x1, .int x2, .int x3, .ref ao])).length) Slot.unset).toArray = ls at hl ⊢
  have hl : lv_has ls 6 [(0, .ref (ad 0)), (1, .int x1), (2, .int x2), (3, .int x3), (4, .ref ao)] := hl
  obtain ⟨H, hH⟩ : ∃ z : Heap, z = s.heap := ⟨_, rfl⟩
  obtain ⟨locs, hlocs⟩ : ∃ z : List Loc, z = [] := ⟨_, rfl⟩
  rw [show W p l e (headSpec wsL_decode rm_L_decode).room s m args below meth c s.heap [] 0 0 = W p l e (headSpec wsL_decode rm_L_decode).room s m args below meth c H locs 0 0 from by rw [hH, hlocs]]
  have hP : va_P (dC, dI) vwCl (wLW cI cZ cJ cL nl nn ad ra ao S V9) H := by rw [hH]; exact hP
  have hS : va_S A s.heap H locs := by rw [hH, hlocs]; exact hS
  unfold wp_L_decode at hw
  refine lv_aload hx hb dL_decode_0 (lv_at hl 4 rfl) ?_
  refine lv_iconst (v := 0) hx hb dL_decode_2 (by decide) ?_
  refine lv_aload_n hx hb dL_decode_3 rfl (lv_at hl 0 rfl) ?_
  refine lv_iload_n hx hb dL_decode_4 rfl (lv_at hl 1 rfl) ?_
  refine lv_iload_n hx hb dL_decode_5 rfl (lv_at hl 2 rfl) ?_
  refine lv_iload_n hx hb dL_decode_6 rfl (lv_at hl 3 rfl) ?_
  have hPc := hP.sub (ws' := wTT cI cZ cJ nl nn ad ra S V9.1) [0, 1, 2, 3, 4, 5, 6, 7, 8, 9, 10, 11, 12, 13, 14, 15, 16, 17, 18, 19] rfl
  have hDc := hD.sub (ws' := wTT cI cZ cJ nl nn ad ra S V9.1) [0, 1, 2, 3, 4, 5, 6, 7, 8, 9, 10, 11, 12, 13, 14, 15, 16, 17, 18, 19] (by decide) rfl
  have hFc := va_free (wc := wTT cI cZ cJ nl nn ad ra S V9.1) hD hS hA [0, 1, 2, 3, 4, 5, 6, 7, 8, 9, 10, 11, 12, 13, 14, 15, 16, 17, 18, 19] rfl
  refine vx_calli (vx_runV (As := [.int x1, .int x2, .int x3]) (rest := [.int 0, .ref ao]) ⟨hx, hb, hml, hown, hT⟩ (met_X3_decode l hl9 dC dI cI cZ cJ cL sa ad ra H.size _ _ nl nn S V9.1 x1 x2 x3 hw) (cwV 3 hT (gV k_271 k_273 k_274 k_57 k_272) rfl rfl rfl (by decide +kernel) ⟨(Nat.le_of_ble_eq_true rfl), (Nat.le_of_ble_eq_true rfl)⟩) ⟨bl_X, va_recv hK hPc (ci := 3) (q0 := 0) rfl rfl, fun U hU hW => ⟨rfl, by rw [hU], by rw [hU]; exact hPc, va_K.moved hW.alike hK, hDc.weaken (fun _ _ _ _ => trivial), hZ.call hW hU hS hFc⟩⟩ rfl rfl hl.1 rfl (lv_room (Nat.le_of_ble_eq_true rfl)) dL_decode_7 ⟨Nat.le_of_ble_eq_true rfl, Nat.le_of_ble_eq_true rfl⟩) hS (fun q _ h => hFc q h) hFc (fun q _ h => hFc q h) (fun E ce q9 u9 t H1 locs ht hvm hw hB hz1 hk1 hS hce hcv hcl => ?_) (fun r_1 T_2 t H1 locs ht hvm hw hB hz1 hk1 hS => ?_)
  · obtain ⟨E9, T_2⟩ := u9
    obtain ⟨rfl, hP1, -, hD1⟩ := hB
    try dsimp only at hw
    rw [ht] at hP1
    obtain ⟨hP, hD⟩ := va_join (wr := [(ao, .inl (cL, 1, .inr (.inl V9.2)))]) (w1 := wTT cI cZ cJ nl nn ad ra S T_2) hP hD [0, 1, 2, 3, 4, 5, 6, 7, 8, 9, 10, 11, 12, 13, 14, 15, 16, 17, 18, 19] [20] rfl rfl (by decide) (by decide) hk1 hFc hP1 hD1
    generalize H1 = H at hP hS hce ⊢
    have hP := hP.sub (ws' := wLW cI cZ cJ cL nl nn ad ra ao S (T_2, V9.2)) [1, 2, 3, 4, 5, 6, 7, 8, 9, 10, 11, 12, 13, 14, 15, 16, 17, 18, 19, 20, 0] rfl
    have hD := hD.sub (ws' := wLW cI cZ cJ cL nl nn ad ra ao S (T_2, V9.2)) [1, 2, 3, 4, 5, 6, 7, 8, 9, 10, 11, 12, 13, 14, 15, 16, 17, 18, 19, 20, 0] (by decide) rfl
    rcases hw with ⟨rfl, hw⟩ | ⟨rfl, hw⟩
    · refine vx_catch (own := RL) (name := "java/lang/IndexOutOfBoundsException") (E := "java/lang/IndexOutOfBoundsException") hown [] ⟨0, 12, 15, 13⟩ [⟨0, 12, 19, 15⟩] (by rw [hTab]; rfl) (fun z hz => by cases hz) (by decide) (by decide) (hT _ k_224) (badW_use (List.mem_of_getElem? (i := 0) rfl) (hZ.2.2.1 _ (List.mem_of_getElem? (i := 0) rfl))) hce hcv hcl ?_
      refine lv_astore (lv' := [(5, .ref q9), (0, .ref (ad 0)), (1, .int x1), (2, .int x2), (3, .int x3), (4, .ref ao)]) hx hb dL_decode_15 hl (by decide) rfl (fun ls hl => ?_)
      refine lv_iconst (v := 1) hx hb dL_decode_17 (by decide) ?_
      exact W.iret (v := 1) hx hb hr (fun t ht hW => ⟨⟨1, (T_2, V9.2), rfl, hw, by rw [ht]; exact hP, va_K.moved hW.alike hK, hD⟩, hS.F ht⟩) hS.2.2 dL_decode_18
    · refine vx_catch (own := RL) (name := "java/lang/IllegalArgumentException") (E := "java/lang/IllegalArgumentException") hown [⟨0, 12, 15, 13⟩] ⟨0, 12, 19, 15⟩ [] (by rw [hTab]; rfl) (by
          intro z hz
          simp only [List.mem_cons, List.not_mem_nil, or_false] at hz
          rcases hz with rfl
          · exact Or.inr ⟨by decide, "java/lang/IndexOutOfBoundsException", (hT _ k_224), hN ("java/lang/IllegalArgumentException", "java/lang/IndexOutOfBoundsException") (by decide +kernel)⟩) (by decide) (by decide) (hT _ k_223) (badW_use (List.mem_of_getElem? (i := 1) rfl) (hZ.2.2.1 _ (List.mem_of_getElem? (i := 1) rfl))) hce hcv hcl ?_
      refine lv_astore (lv' := [(5, .ref q9), (0, .ref (ad 0)), (1, .int x1), (2, .int x2), (3, .int x3), (4, .ref ao)]) hx hb dL_decode_19 hl (by decide) rfl (fun ls hl => ?_)
      refine lv_iconst (v := 2) hx hb dL_decode_21 (by decide) ?_
      exact W.iret (v := 2) hx hb hr (fun t ht hW => ⟨⟨2, (T_2, V9.2), rfl, hw, by rw [ht]; exact hP, va_K.moved hW.alike hK, hD⟩, hS.F ht⟩) hS.2.2 dL_decode_22
  · obtain ⟨hP1, -, hD1⟩ := hB
    try dsimp only at hw
    rw [ht] at hP1
    obtain ⟨hP, hD⟩ := va_join (wr := [(ao, .inl (cL, 1, .inr (.inl V9.2)))]) (w1 := wTT cI cZ cJ nl nn ad ra S T_2) hP hD [0, 1, 2, 3, 4, 5, 6, 7, 8, 9, 10, 11, 12, 13, 14, 15, 16, 17, 18, 19] [20] rfl rfl (by decide) (by decide) hk1 hFc hP1 hD1
    generalize H1 = H at hP hS ⊢
    have hP := hP.sub (ws' := wLW cI cZ cJ cL nl nn ad ra ao S (T_2, V9.2)) [1, 2, 3, 4, 5, 6, 7, 8, 9, 10, 11, 12, 13, 14, 15, 16, 17, 18, 19, 20, 0] rfl
    have hD := hD.sub (ws' := wLW cI cZ cJ cL nl nn ad ra ao S (T_2, V9.2)) [1, 2, 3, 4, 5, 6, 7, 8, 9, 10, 11, 12, 13, 14, 15, 16, 17, 18, 19, 20, 0] (by decide) rfl
    refine lv_i2l hx hb dL_decode_10 rfl ?_
    obtain ⟨h_3, hw⟩ := hw
    refine va_last hx hb hK hP hD hS 20 3 rfl rfl h_3 dL_decode_11 (fun H locs hP hD hS => ?_)
    have hP : va_P (dC, dI) vwCl (wLW cI cZ cJ cL nl nn ad ra ao S (T_2, (vp_updL V9.2 ((0 : Int32).toNatClampNeg) r_1.toInt64))) H := hP
    have hD : va_D A (wLW cI cZ cJ cL nl nn ad ra ao S (T_2, (vp_updL V9.2 ((0 : Int32).toNatClampNeg) r_1.toInt64))) := hD
    refine lv_goto (tgt := 23) hx hb dL_decode_12 (by decide) ?_
    refine lv_iconst (v := 0) hx hb dL_decode_23 (by decide) ?_
    exact W.iret (v := 0) hx hb hr (fun t ht hW => ⟨⟨0, (T_2, (vp_updL V9.2 ((0 : Int32).toNatClampNeg) r_1.toInt64)), rfl, hw, by rw [ht]; exact hP, va_K.moved hW.alike hK, hD⟩, hS.F ht⟩) hS.2.2 dL_decode_24
def wp_L_decodeAll (post : Int32 → vLW → Prop) (nl : Nat) (nn : Nat) (S : vSH) (V9 : vLW) (x1 : Int32) (x2 : Int32) : Prop := wp_X3_decodeAll (fun r_1 T_2 => vp_in 0 1 ∧ (post 0 (T_2, (vp_updL V9.2 ((0 : Int32).toNatClampNeg) r_1.toInt64)))) (fun E T_2 => ((E = "java/lang/IllegalArgumentException" ∧ (post 1 (T_2, V9.2))))) nl nn S V9.1 x1 x2
abbrev rm_L_decodeAll : Room := { frames := 8, cells := 2, slots := 12, locals := 125 }
set_option maxHeartbeats 4000000 in
set_option maxRecDepth 100000 in
theorem met_L_decodeAll (l : Launch) (hl9 : l.stackTraces = false) (dC : Nat → ClassId) (dI : Nat → Nat → Nat) (cI cZ cJ cL : ClassId) (sa : Nat → Nat) (ad ra : Nat → Nat) (ao : Nat) (sz : Nat) (post : Int32 → vLW → Prop) (nl : Nat) (nn : Nat) (S : vSH) (V9 : vLW) (x1 : Int32) (x2 : Int32) (hw : wp_L_decodeAll post nl nn S V9 x1 x2) : Met l yL_decodeAll wsL_decodeAll rm_L_decodeAll (pcL (dC, dI) (tysA cI cZ cJ cL) sa (wLW cI cZ cJ cL nl nn ad ra ao S V9) sz [.ref (ad 0), .int x1, .int x2, .ref ao]) (va_Qi post (fun u t => qB (dC, dI) (tysA cI cZ cJ cL) (va_A (wLW cI cZ cJ cL nl nn ad ra ao S V9) sz) (wLW cI cZ cJ cL nl nn ad ra ao S u) t) (va_A (wLW cI cZ cJ cL nl nn ad ra ao S V9) sz)) 2 12 (va_A (wLW cI cZ cJ cL nl nn ad ra ao S V9) sz) := by
  refine va_MetW (cc := cL_decodeAll) (maxL := 5) (ret := (some .int)) (by decide) rfl ?_
  intro p e s m args below meth c s₁ Bd hml hv
  obtain ⟨hargs, hsz, hP, hK, hD0, hZ, hN⟩ := hv
  have hx := Bd.exec
  have hb := Bd.bytes
  have hr := Bd.returns
  have hts := atoms_spec (ws := wsL_decodeAll) Bd.pre
  have hT : ∀ w ∈ WALL, w.before args s = true := fun w h => hts w (List.mem_cons_of_mem _ h)
  have hown : s.vm.findClass RL = some m.cls := findClass_of_methodNamed Bd.named
  have hlocks := Bd.notSynchronized
  subst hsz
  have hD := hD0.self (sz := s.heap.size)
  generalize hAe : va_A (wLW cI cZ cJ cL nl nn ad ra ao S V9) s.heap.size = A at hD ⊢
  have hA : ∀ q : Nat, s.heap.size ≤ q → A q := fun q h => by rw [← hAe]; exact Or.inr h
  have hS : va_S A s.heap s.heap [] := va_S.rf
  rw [hAe] at hZ
  have hTab : c.exceptionTable.toList = tableOf [(0, 10, 13, 15)] := vx_table (x := yL_decodeAll) Bd (hts _ List.mem_cons_self)
  have hP : va_P (dC, dI) vwCl (wLW cI cZ cJ cL nl nn ad ra ao S V9) s.heap := hP
  have hl := lv_entry ([.ref (ad 0), .int x1, .int x2, .ref ao]) (n := 5) (Nat.le_of_ble_eq_true rfl)
  rw [show entryFrame m args 5 = F0 m 0 _ [] from by rw [hargs]; exact lg_entry_eq m ([.ref (ad 0), .int x1, .int x2, .ref ao]) 5]
  generalize (lg_sl ([.ref (ad 0), .int x1, .int x2, .ref ao]) ++ List.replicate (5 - (lg_sl ([.ref (ad 0), .int x1, .int x2, .ref ao])).length) Slot.unset).toArray = ls at hl ⊢
  have hl : lv_has ls 5 [(0, .ref (ad 0)), (1, .int x1), (2, .int x2), (3, .ref ao)] := hl
  obtain ⟨H, hH⟩ : ∃ z : Heap, z = s.heap := ⟨_, rfl⟩
  obtain ⟨locs, hlocs⟩ : ∃ z : List Loc, z = [] := ⟨_, rfl⟩
  rw [show W p l e (headSpec wsL_decodeAll rm_L_decodeAll).room s m args below meth c s.heap [] 0 0 = W p l e (headSpec wsL_decodeAll rm_L_decodeAll).room s m args below meth c H locs 0 0 from by rw [hH, hlocs]]
  have hP : va_P (dC, dI) vwCl (wLW cI cZ cJ cL nl nn ad ra ao S V9) H := by rw [hH]; exact hP
  have hS : va_S A s.heap H locs := by rw [hH, hlocs]; exact hS
  unfold wp_L_decodeAll at hw
  refine lv_aload_n hx hb dL_decodeAll_0 rfl (lv_at hl 3 rfl) ?_
  refine lv_iconst (v := 0) hx hb dL_decodeAll_1 (by decide) ?_
  refine lv_aload_n hx hb dL_decodeAll_2 rfl (lv_at hl 0 rfl) ?_
  refine lv_iload_n hx hb dL_decodeAll_3 rfl (lv_at hl 1 rfl) ?_
  refine lv_iload_n hx hb dL_decodeAll_4 rfl (lv_at hl 2 rfl) ?_
  have hPc := hP.sub (ws' := wTT cI cZ cJ nl nn ad ra S V9.1) [0, 1, 2, 3, 4, 5, 6, 7, 8, 9, 10, 11, 12, 13, 14, 15, 16, 17, 18, 19] rfl
  have hDc := hD.sub (ws' := wTT cI cZ cJ nl nn ad ra S V9.1) [0, 1, 2, 3, 4, 5, 6, 7, 8, 9, 10, 11, 12, 13, 14, 15, 16, 17, 18, 19] (by decide) rfl
  have hFc := va_free (wc := wTT cI cZ cJ nl nn ad ra S V9.1) hD hS hA [0, 1, 2, 3, 4, 5, 6, 7, 8, 9, 10, 11, 12, 13, 14, 15, 16, 17, 18, 19] rfl
  refine vx_calli (vx_runV (As := [.int x1, .int x2]) (rest := [.int 0, .ref ao]) ⟨hx, hb, hml, hown, hT⟩ (met_X3_decodeAll l hl9 dC dI cI cZ cJ cL sa ad ra H.size _ _ nl nn S V9.1 x1 x2 hw) (cwV 2 hT (gV k_275 k_277 k_278 k_57 k_276) rfl rfl rfl (by decide +kernel) ⟨(Nat.le_of_ble_eq_true rfl), (Nat.le_of_ble_eq_true rfl)⟩) ⟨bl_X, va_recv hK hPc (ci := 3) (q0 := 0) rfl rfl, fun U hU hW => ⟨rfl, by rw [hU], by rw [hU]; exact hPc, va_K.moved hW.alike hK, hDc.weaken (fun _ _ _ _ => trivial), hZ.call hW hU hS hFc⟩⟩ rfl rfl hl.1 rfl (lv_room (Nat.le_of_ble_eq_true rfl)) dL_decodeAll_5 ⟨Nat.le_of_ble_eq_true rfl, Nat.le_of_ble_eq_true rfl⟩) hS (fun q _ h => hFc q h) hFc (fun q _ h => hFc q h) (fun E ce q9 u9 t H1 locs ht hvm hw hB hz1 hk1 hS hce hcv hcl => ?_) (fun r_1 T_2 t H1 locs ht hvm hw hB hz1 hk1 hS => ?_)
  · obtain ⟨E9, T_2⟩ := u9
    obtain ⟨rfl, hP1, -, hD1⟩ := hB
    try dsimp only at hw
    rw [ht] at hP1
    obtain ⟨hP, hD⟩ := va_join (wr := [(ao, .inl (cL, 1, .inr (.inl V9.2)))]) (w1 := wTT cI cZ cJ nl nn ad ra S T_2) hP hD [0, 1, 2, 3, 4, 5, 6, 7, 8, 9, 10, 11, 12, 13, 14, 15, 16, 17, 18, 19] [20] rfl rfl (by decide) (by decide) hk1 hFc hP1 hD1
    generalize H1 = H at hP hS hce ⊢
    have hP := hP.sub (ws' := wLW cI cZ cJ cL nl nn ad ra ao S (T_2, V9.2)) [1, 2, 3, 4, 5, 6, 7, 8, 9, 10, 11, 12, 13, 14, 15, 16, 17, 18, 19, 20, 0] rfl
    have hD := hD.sub (ws' := wLW cI cZ cJ cL nl nn ad ra ao S (T_2, V9.2)) [1, 2, 3, 4, 5, 6, 7, 8, 9, 10, 11, 12, 13, 14, 15, 16, 17, 18, 19, 20, 0] (by decide) rfl
    rcases hw with ⟨rfl, hw⟩
    · refine vx_catch (own := RL) (name := "java/lang/IllegalArgumentException") (E := "java/lang/IllegalArgumentException") hown [] ⟨0, 10, 13, 15⟩ [] (by rw [hTab]; rfl) (fun z hz => by cases hz) (by decide) (by decide) (hT _ k_223) (badW_use (List.mem_of_getElem? (i := 1) rfl) (hZ.2.2.1 _ (List.mem_of_getElem? (i := 1) rfl))) hce hcv hcl ?_
      refine lv_astore (lv' := [(4, .ref q9), (0, .ref (ad 0)), (1, .int x1), (2, .int x2), (3, .ref ao)]) hx hb dL_decodeAll_13 hl (by decide) rfl (fun ls hl => ?_)
      refine lv_iconst (v := 1) hx hb dL_decodeAll_15 (by decide) ?_
      exact W.iret (v := 1) hx hb hr (fun t ht hW => ⟨⟨1, (T_2, V9.2), rfl, hw, by rw [ht]; exact hP, va_K.moved hW.alike hK, hD⟩, hS.F ht⟩) hS.2.2 dL_decodeAll_16
  · obtain ⟨hP1, -, hD1⟩ := hB
    try dsimp only at hw
    rw [ht] at hP1
    obtain ⟨hP, hD⟩ := va_join (wr := [(ao, .inl (cL, 1, .inr (.inl V9.2)))]) (w1 := wTT cI cZ cJ nl nn ad ra S T_2) hP hD [0, 1, 2, 3, 4, 5, 6, 7, 8, 9, 10, 11, 12, 13, 14, 15, 16, 17, 18, 19] [20] rfl rfl (by decide) (by decide) hk1 hFc hP1 hD1
    generalize H1 = H at hP hS ⊢
    have hP := hP.sub (ws' := wLW cI cZ cJ cL nl nn ad ra ao S (T_2, V9.2)) [1, 2, 3, 4, 5, 6, 7, 8, 9, 10, 11, 12, 13, 14, 15, 16, 17, 18, 19, 20, 0] rfl
    have hD := hD.sub (ws' := wLW cI cZ cJ cL nl nn ad ra ao S (T_2, V9.2)) [1, 2, 3, 4, 5, 6, 7, 8, 9, 10, 11, 12, 13, 14, 15, 16, 17, 18, 19, 20, 0] (by decide) rfl
    refine lv_i2l hx hb dL_decodeAll_8 rfl ?_
    obtain ⟨h_3, hw⟩ := hw
    refine va_last hx hb hK hP hD hS 20 3 rfl rfl h_3 dL_decodeAll_9 (fun H locs hP hD hS => ?_)
    have hP : va_P (dC, dI) vwCl (wLW cI cZ cJ cL nl nn ad ra ao S (T_2, (vp_updL V9.2 ((0 : Int32).toNatClampNeg) r_1.toInt64))) H := hP
    have hD : va_D A (wLW cI cZ cJ cL nl nn ad ra ao S (T_2, (vp_updL V9.2 ((0 : Int32).toNatClampNeg) r_1.toInt64))) := hD
    refine lv_goto (tgt := 17) hx hb dL_decodeAll_10 (by decide) ?_
    refine lv_iconst (v := 0) hx hb dL_decodeAll_17 (by decide) ?_
    exact W.iret (v := 0) hx hb hr (fun t ht hW => ⟨⟨0, (T_2, (vp_updL V9.2 ((0 : Int32).toNatClampNeg) r_1.toInt64)), rfl, hw, by rw [ht]; exact hP, va_K.moved hW.alike hK, hD⟩, hS.F ht⟩) hS.2.2 dL_decodeAll_18
