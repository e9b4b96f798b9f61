abbrev exNames : List String := ["java/lang/RuntimeException", "java/lang/Exception"]
def badW : List Cond := [.castable "java/lang/IndexOutOfBoundsException" "java/lang/IndexOutOfBoundsException", .castable "java/lang/IllegalArgumentException" "java/lang/IllegalArgumentException", .castable "java/lang/IllegalStateException" "java/lang/IllegalStateException", .castable "java/lang/UnsupportedOperationException" "java/lang/UnsupportedOperationException", .declares ⟨"java/lang/RuntimeException", "<init>", "(Ljava/lang/String;)V"⟩, .declares ⟨"java/lang/Exception", "<init>", "(Ljava/lang/String;)V"⟩, .declares ⟨"java/lang/Throwable", "<init>", "(Ljava/lang/String;)V"⟩]
def strW : List (Nat × String) := [(61, "a value is 0 .. 1000"), (76, "a number of leaves is 0 or more"), (121, "no such bit"), (128, "a bit is 0 or 1"), (133, "a number of bits is 0 or more"), (146, "no such leaf"), (166, "no such leaf, node or level"), (168, "a threshold is 0 .. 1001"), (170, "an order is 0 .. 2"), (174, "bits were told already"), (180, "more than 40000 bits")]
theorem atg_123 : ∀ w ∈ (vx_atS RX3 123 "java/lang/IndexOutOfBoundsException" exNames).filter goodWord, w ∈ lw_tbl := by decide +kernel
theorem atb_123 : ∀ w ∈ (vx_atS RX3 123 "java/lang/IndexOutOfBoundsException" exNames).filter (fun w => !goodWord w), w ∈ badW := by decide +kernel
theorem hgd_123 : ∀ w ∈ Cond.classLink RX3 119 "java/lang/IndexOutOfBoundsException" :: Cond.initialized "java/lang/IndexOutOfBoundsException" :: vx_atS RX3 123 "java/lang/IndexOutOfBoundsException" exNames, vx_ot w = true := by decide +kernel
theorem atg_63 : ∀ w ∈ (vx_atS RX3 63 "java/lang/IllegalArgumentException" exNames).filter goodWord, w ∈ lw_tbl := by decide +kernel
theorem atb_63 : ∀ w ∈ (vx_atS RX3 63 "java/lang/IllegalArgumentException" exNames).filter (fun w => !goodWord w), w ∈ badW := by decide +kernel
theorem hgd_63 : ∀ w ∈ Cond.classLink RX3 59 "java/lang/IllegalArgumentException" :: Cond.initialized "java/lang/IllegalArgumentException" :: vx_atS RX3 63 "java/lang/IllegalArgumentException" exNames, vx_ot w = true := by decide +kernel
theorem atg_176 : ∀ w ∈ (vx_atS RX3 176 "java/lang/IllegalStateException" exNames).filter goodWord, w ∈ lw_tbl := by decide +kernel
theorem atb_176 : ∀ w ∈ (vx_atS RX3 176 "java/lang/IllegalStateException" exNames).filter (fun w => !goodWord w), w ∈ badW := by decide +kernel
theorem hgd_176 : ∀ w ∈ Cond.classLink RX3 172 "java/lang/IllegalStateException" :: Cond.initialized "java/lang/IllegalStateException" :: vx_atS RX3 176 "java/lang/IllegalStateException" exNames, vx_ot w = true := by decide +kernel
theorem atg_182 : ∀ w ∈ (vx_atS RX3 182 "java/lang/UnsupportedOperationException" exNames).filter goodWord, w ∈ lw_tbl := by decide +kernel
theorem atb_182 : ∀ w ∈ (vx_atS RX3 182 "java/lang/UnsupportedOperationException" exNames).filter (fun w => !goodWord w), w ∈ badW := by decide +kernel
theorem hgd_182 : ∀ w ∈ Cond.classLink RX3 178 "java/lang/UnsupportedOperationException" :: Cond.initialized "java/lang/UnsupportedOperationException" :: vx_atS RX3 182 "java/lang/UnsupportedOperationException" exNames, vx_ot w = true := by decide +kernel
theorem badW_on : ∀ w ∈ badW, w.onTables = true := by decide +kernel
theorem badW_use {w : Cond} (h : w ∈ badW) {A : Array Value} {U : State} (hz : va_Nw w U) : w.before A U = true := va_Nw.use (badW_on w h) hz
theorem badW_warm {w : Cond} (h : w ∈ badW) {s U : State} (hW : s.WarmedH U.vm) (hz : va_Nw w s) : va_Nw w U := by
  simp only [badW, List.mem_cons, List.not_mem_nil, or_false] at h
  rcases h with rfl | rfl | rfl | rfl | rfl | rfl | rfl <;> first | exact va_Nw.warmC hW hz | exact va_Nw.warmD hW hz
def exZ (sa : Nat → Nat) (A : Nat → Prop) (U : State) (H : Heap) : Prop := vx_Zq Bundle.tN "UNASSIGNED_STACK" Bundle.steD A U H ∧ vx_Zq Bundle.tN "SUPPRESSED_SENTINEL" Bundle.listD A U H ∧ (∀ w ∈ badW, va_Nw w U) ∧ ∀ q ∈ strW, vk_R RX3 q.1 q.2 (sa q.1) U
theorem exZ.warm {sa : Nat → Nat} {A : Nat → Prop} {s U : State} {H : Heap} (hZ : exZ sa A s H) (hW : s.WarmedH U.vm) : exZ sa A U H := ⟨vx_Zq.moved hW.alike hZ.1, vx_Zq.moved hW.alike hZ.2.1, fun w h => badW_warm h hW (hZ.2.2.1 w h), fun q h => vk_R.warm hW (hZ.2.2.2 q h)⟩
theorem exZ.call {sa : Nat → Nat} {A B : Nat → Prop} {s U : State} {H : Heap} {locs : List Loc} (hZ : exZ sa A s s.heap) (hW : s.WarmedH U.vm) (hU : U.heap = H) (hS : va_S A s.heap H locs) (hF : ∀ q, B q → A q) : exZ sa B U U.heap := by
  have h := hZ.warm hW
  rw [hU]
  exact ⟨(h.1.kept hS.2.1).narrow hF, (h.2.1.kept hS.2.1).narrow hF, h.2.2⟩
abbrev pcX (D : va_G) (tys : List (ClassId × FieldType)) (sa : Nat → Nat) (ws : va_W) (sz : Nat) (av : List Value) : Array Value → State → Prop := va_Pc av (fun U => U.heap.size = sz ∧ va_P D vwCl ws U.heap ∧ va_K D vwCl tys U ∧ va_D (fun _ => True) ws ∧ exZ sa (va_A ws sz) U U.heap)
theorem bl_X {D : va_G} {tys : List (ClassId × FieldType)} {sa : Nat → Nat} {ws : va_W} {sz : Nat} {av : List Value} : FrameBlind (pcX D tys sa ws sz av) := fun a U g mk q => by
  obtain ⟨q0, q1, qP, qK, qD, qZ⟩ := q
  exact ⟨q0, q1, qP, va_K.moved (u := U) (U := U.calling g mk a) (Vm.Alike.refl U.vm) qK, qD, qZ.warm (U := U.calling g mk a) (State.WarmedH.refl U)⟩
theorem hat_123 {args : Array Value} {s : State} (hT : ∀ w ∈ WALL, w.before args s = true) (hB : ∀ w ∈ badW, va_Nw w s) : ∀ w ∈ vx_atS RX3 123 "java/lang/IndexOutOfBoundsException" exNames, w.before args s = true := vx_hat (B := badW) (fun w hw => hT w (List.mem_filter.mpr ⟨atg_123 w hw, (List.mem_filter.mp hw).2⟩)) atb_123 (fun w hw => badW_use hw (hB w hw))
theorem hat_63 {args : Array Value} {s : State} (hT : ∀ w ∈ WALL, w.before args s = true) (hB : ∀ w ∈ badW, va_Nw w s) : ∀ w ∈ vx_atS RX3 63 "java/lang/IllegalArgumentException" exNames, w.before args s = true := vx_hat (B := badW) (fun w hw => hT w (List.mem_filter.mpr ⟨atg_63 w hw, (List.mem_filter.mp hw).2⟩)) atb_63 (fun w hw => badW_use hw (hB w hw))
theorem hat_176 {args : Array Value} {s : State} (hT : ∀ w ∈ WALL, w.before args s = true) (hB : ∀ w ∈ badW, va_Nw w s) : ∀ w ∈ vx_atS RX3 176 "java/lang/IllegalStateException" exNames, w.before args s = true := vx_hat (B := badW) (fun w hw => hT w (List.mem_filter.mpr ⟨atg_176 w hw, (List.mem_filter.mp hw).2⟩)) atb_176 (fun w hw => badW_use hw (hB w hw))
theorem hat_182 {args : Array Value} {s : State} (hT : ∀ w ∈ WALL, w.before args s = true) (hB : ∀ w ∈ badW, va_Nw w s) : ∀ w ∈ vx_atS RX3 182 "java/lang/UnsupportedOperationException" exNames, w.before args s = true := vx_hat (B := badW) (fun w hw => hT w (List.mem_filter.mpr ⟨atg_182 w hw, (List.mem_filter.mp hw).2⟩)) atb_182 (fun w hw => badW_use hw (hB w hw))
